section
-- ===== PART A: goes FIRST, ahead of the names: the tables' words, and 'selects' of the private methods out of them =====
/-- a private method of a class that the tables say can be made, by its rows of tables_1 -/
def lw_okq (q : MethodName × Nat) : Prop := (q.1.cls ≠ "java/lang/invoke/MethodHandle" ∧ q.1.cls ≠ "java/lang/invoke/VarHandle") ∧ Cond.instantiable q.1.cls q.2 ∈ tables_1 ∧ Cond.privateMethod q.1 ∈ tables_1 ∧ Cond.instanceMethod q.1 ∈ tables_1
theorem lw_p0 : lw_okq (⟨"java/lang/Throwable", "fillInStackTrace", "(I)Ljava/lang/Throwable;"⟩, 6) := ⟨⟨by decide +kernel, by decide +kernel⟩, List.mem_of_getElem? (i := 94) (by decide +kernel), List.mem_of_getElem? (i := 92) (by decide +kernel), List.mem_of_getElem? (i := 93) (by decide +kernel)⟩
theorem lw_p1 : lw_okq (⟨"Quarterboard", "safePieces", "()I"⟩, 11) := ⟨⟨by decide +kernel, by decide +kernel⟩, List.mem_of_getElem? (i := 10) (by decide +kernel), List.mem_of_getElem? (i := 124) (by decide +kernel), List.mem_of_getElem? (i := 125) (by decide +kernel)⟩
theorem lw_p2 : lw_okq (⟨"Quarterboard", "winningDigits", "()I"⟩, 11) := ⟨⟨by decide +kernel, by decide +kernel⟩, List.mem_of_getElem? (i := 10) (by decide +kernel), List.mem_of_getElem? (i := 128) (by decide +kernel), List.mem_of_getElem? (i := 129) (by decide +kernel)⟩
theorem lw_p3 : lw_okq (⟨"Quarterboard", "lacksOne", "(I)Z"⟩, 11) := ⟨⟨by decide +kernel, by decide +kernel⟩, List.mem_of_getElem? (i := 10) (by decide +kernel), List.mem_of_getElem? (i := 138) (by decide +kernel), List.mem_of_getElem? (i := 139) (by decide +kernel)⟩
theorem lw_p4 : lw_okq (⟨"Quarterboard", "inCommon", "(I)I"⟩, 11) := ⟨⟨by decide +kernel, by decide +kernel⟩, List.mem_of_getElem? (i := 10) (by decide +kernel), List.mem_of_getElem? (i := 142) (by decide +kernel), List.mem_of_getElem? (i := 143) (by decide +kernel)⟩
theorem lw_p5 : lw_okq (⟨"Quarterboard", "waysOfMarks", "(IIJ)I"⟩, 11) := ⟨⟨by decide +kernel, by decide +kernel⟩, List.mem_of_getElem? (i := 10) (by decide +kernel), List.mem_of_getElem? (i := 170) (by decide +kernel), List.mem_of_getElem? (i := 171) (by decide +kernel)⟩
theorem lw_p6 : lw_okq (⟨"Quarterboard", "put", "(II)V"⟩, 11) := ⟨⟨by decide +kernel, by decide +kernel⟩, List.mem_of_getElem? (i := 10) (by decide +kernel), List.mem_of_getElem? (i := 227) (by decide +kernel), List.mem_of_getElem? (i := 228) (by decide +kernel)⟩
theorem lw_p7 : lw_okq (⟨"Quarterboard", "wonLines", "()I"⟩, 11) := ⟨⟨by decide +kernel, by decide +kernel⟩, List.mem_of_getElem? (i := 10) (by decide +kernel), List.mem_of_getElem? (i := 237) (by decide +kernel), List.mem_of_getElem? (i := 238) (by decide +kernel)⟩
theorem lw_p8 : lw_okq (⟨"Quarterboard", "winningSquares", "(I)I"⟩, 11) := ⟨⟨by decide +kernel, by decide +kernel⟩, List.mem_of_getElem? (i := 10) (by decide +kernel), List.mem_of_getElem? (i := 263) (by decide +kernel), List.mem_of_getElem? (i := 264) (by decide +kernel)⟩
theorem lw_p9 : lw_okq (⟨"Quarterboard", "canLookAhead", "(I)Z"⟩, 11) := ⟨⟨by decide +kernel, by decide +kernel⟩, List.mem_of_getElem? (i := 10) (by decide +kernel), List.mem_of_getElem? (i := 287) (by decide +kernel), List.mem_of_getElem? (i := 288) (by decide +kernel)⟩
theorem lw_p10 : lw_okq (⟨"Quarterboard", "worthToGive", "(I)I"⟩, 11) := ⟨⟨by decide +kernel, by decide +kernel⟩, List.mem_of_getElem? (i := 10) (by decide +kernel), List.mem_of_getElem? (i := 292) (by decide +kernel), List.mem_of_getElem? (i := 293) (by decide +kernel)⟩
theorem lw_p11 : lw_okq (⟨"Quarterboard", "giverWins", "(I)Z"⟩, 11) := ⟨⟨by decide +kernel, by decide +kernel⟩, List.mem_of_getElem? (i := 10) (by decide +kernel), List.mem_of_getElem? (i := 296) (by decide +kernel), List.mem_of_getElem? (i := 297) (by decide +kernel)⟩
theorem lw_p12 : lw_okq (⟨"Quarterboard", "placerLoses", "(II)Z"⟩, 11) := ⟨⟨by decide +kernel, by decide +kernel⟩, List.mem_of_getElem? (i := 10) (by decide +kernel), List.mem_of_getElem? (i := 300) (by decide +kernel), List.mem_of_getElem? (i := 301) (by decide +kernel)⟩
theorem lw_p13 : lw_okq (⟨"Quarterboard", "giverLoses", "(I)Z"⟩, 11) := ⟨⟨by decide +kernel, by decide +kernel⟩, List.mem_of_getElem? (i := 10) (by decide +kernel), List.mem_of_getElem? (i := 304) (by decide +kernel), List.mem_of_getElem? (i := 305) (by decide +kernel)⟩
theorem lw_p14 : lw_okq (⟨"Quarterboard", "placerWinsLater", "(II)Z"⟩, 11) := ⟨⟨by decide +kernel, by decide +kernel⟩, List.mem_of_getElem? (i := 10) (by decide +kernel), List.mem_of_getElem? (i := 308) (by decide +kernel), List.mem_of_getElem? (i := 309) (by decide +kernel)⟩
theorem lw_p15 : lw_okq (⟨"Quarterboard", "lift", "(II)V"⟩, 11) := ⟨⟨by decide +kernel, by decide +kernel⟩, List.mem_of_getElem? (i := 10) (by decide +kernel), List.mem_of_getElem? (i := 312) (by decide +kernel), List.mem_of_getElem? (i := 313) (by decide +kernel)⟩
def lw_privs_1 : List (MethodName × Nat) := [(⟨"java/lang/Throwable", "fillInStackTrace", "(I)Ljava/lang/Throwable;"⟩, 6), (⟨"Quarterboard", "safePieces", "()I"⟩, 11), (⟨"Quarterboard", "winningDigits", "()I"⟩, 11), (⟨"Quarterboard", "lacksOne", "(I)Z"⟩, 11), (⟨"Quarterboard", "inCommon", "(I)I"⟩, 11), (⟨"Quarterboard", "waysOfMarks", "(IIJ)I"⟩, 11), (⟨"Quarterboard", "put", "(II)V"⟩, 11), (⟨"Quarterboard", "wonLines", "()I"⟩, 11), (⟨"Quarterboard", "winningSquares", "(I)I"⟩, 11), (⟨"Quarterboard", "canLookAhead", "(I)Z"⟩, 11), (⟨"Quarterboard", "worthToGive", "(I)I"⟩, 11), (⟨"Quarterboard", "giverWins", "(I)Z"⟩, 11), (⟨"Quarterboard", "placerLoses", "(II)Z"⟩, 11), (⟨"Quarterboard", "giverLoses", "(I)Z"⟩, 11), (⟨"Quarterboard", "placerWinsLater", "(II)Z"⟩, 11), (⟨"Quarterboard", "lift", "(II)V"⟩, 11)]
theorem lw_r1 : ∀ q ∈ lw_privs_1, lw_okq q := List.forall_mem_cons.mpr ⟨lw_p0, List.forall_mem_cons.mpr ⟨lw_p1, List.forall_mem_cons.mpr ⟨lw_p2, List.forall_mem_cons.mpr ⟨lw_p3, List.forall_mem_cons.mpr ⟨lw_p4, List.forall_mem_cons.mpr ⟨lw_p5, List.forall_mem_cons.mpr ⟨lw_p6, List.forall_mem_cons.mpr ⟨lw_p7, List.forall_mem_cons.mpr ⟨lw_p8, List.forall_mem_cons.mpr ⟨lw_p9, List.forall_mem_cons.mpr ⟨lw_p10, List.forall_mem_cons.mpr ⟨lw_p11, List.forall_mem_cons.mpr ⟨lw_p12, List.forall_mem_cons.mpr ⟨lw_p13, List.forall_mem_cons.mpr ⟨lw_p14, List.forall_mem_cons.mpr ⟨lw_p15, fun _ h => absurd h List.not_mem_nil⟩⟩⟩⟩⟩⟩⟩⟩⟩⟩⟩⟩⟩⟩⟩⟩
theorem lw_p16 : lw_okq (⟨"Quarterboard", "worthToPlace", "(II)I"⟩, 11) := ⟨⟨by decide +kernel, by decide +kernel⟩, List.mem_of_getElem? (i := 10) (by decide +kernel), List.mem_of_getElem? (i := 317) (by decide +kernel), List.mem_of_getElem? (i := 318) (by decide +kernel)⟩
theorem lw_p17 : lw_okq (⟨"Quarterboard", "bestPiece", "(I)I"⟩, 11) := ⟨⟨by decide +kernel, by decide +kernel⟩, List.mem_of_getElem? (i := 10) (by decide +kernel), List.mem_of_getElem? (i := 325) (by decide +kernel), List.mem_of_getElem? (i := 326) (by decide +kernel)⟩
theorem lw_p18 : lw_okq (⟨"Quarterboard", "bestSquare", "(I)I"⟩, 11) := ⟨⟨by decide +kernel, by decide +kernel⟩, List.mem_of_getElem? (i := 10) (by decide +kernel), List.mem_of_getElem? (i := 329) (by decide +kernel), List.mem_of_getElem? (i := 330) (by decide +kernel)⟩
theorem lw_p19 : lw_okq (⟨"Quarterboard", "worthAfterPlacing", "(II)I"⟩, 11) := ⟨⟨by decide +kernel, by decide +kernel⟩, List.mem_of_getElem? (i := 10) (by decide +kernel), List.mem_of_getElem? (i := 333) (by decide +kernel), List.mem_of_getElem? (i := 334) (by decide +kernel)⟩
def lw_privs_2 : List (MethodName × Nat) := [(⟨"Quarterboard", "worthToPlace", "(II)I"⟩, 11), (⟨"Quarterboard", "bestPiece", "(I)I"⟩, 11), (⟨"Quarterboard", "bestSquare", "(I)I"⟩, 11), (⟨"Quarterboard", "worthAfterPlacing", "(II)I"⟩, 11)]
theorem lw_r2 : ∀ q ∈ lw_privs_2, lw_okq q := List.forall_mem_cons.mpr ⟨lw_p16, List.forall_mem_cons.mpr ⟨lw_p17, List.forall_mem_cons.mpr ⟨lw_p18, List.forall_mem_cons.mpr ⟨lw_p19, fun _ h => absurd h List.not_mem_nil⟩⟩⟩⟩
def lw_privs : List (MethodName × Nat) := lw_privs_1 ++ (lw_privs_2)
def lw_tbl : List Cond := k2_sels lw_privs ++ tables_1
theorem lw_privs_ok : ∀ q ∈ lw_privs, lw_okq q := by
  show ∀ q ∈ lw_privs_1 ++ (lw_privs_2), lw_okq q
  exact List.forall_mem_append.mpr ⟨lw_r1, lw_r2⟩
-- ===== end of PART A; then your names; then what follows =====
end
section
/-! ===== BEGIN words of one list among another's, by their places ===== -/
theorem goodIn_r {big : List Cond} (ws : List Cond) (ps : List Nat) (hp : ws = ps.filterMap (fun i => big[i]?)) (h : ws.all goodWord = true) : GoodIn big ws := by
  intro w hw
  have h1 := List.all_eq_true.mp h w hw
  rw [hp] at hw
  obtain ⟨i, -, hi⟩ := List.mem_filterMap.mp hw
  have hm : w ∈ big := by first | exact List.mem_of_getElem? hi | exact List.getElem?_mem hi
  exact ⟨hm, good_of_word h1⟩
theorem goodIn_app {big a b : List Cond} (ha : GoodIn big a) (hb : GoodIn big b) : GoodIn big (a ++ b) := fun w h => (List.mem_append.mp h).elim (ha w) (hb w)
theorem goodIn_ca {big a b : List Cond} {c : Cond} (ha : GoodIn big (c :: a)) (hb : GoodIn big b) : GoodIn big (c :: (a ++ b)) := fun w h => (List.mem_cons.mp h).elim (fun e => ha w (List.mem_cons.mpr (Or.inl e))) (fun h => (List.mem_append.mp h).elim (fun h => ha w (List.mem_cons.mpr (Or.inr h))) (hb w))
theorem goodIn_sub {big ws : List Cond} (hm : ∀ w ∈ ws, w ∈ big) (h : ws.all goodWord = true) : GoodIn big ws := fun w hw => ⟨hm w hw, good_of_word (List.all_eq_true.mp h w hw)⟩
/-! ===== END ===== -/

/-! ===== BEGIN exceptions that leave a method, and their catching by the caller (launches without stack traces) ===== -/
section VXA
/-! The laws vx_back, vx_callV, vx_callS, vx_callSW, vx_throw0, vx_throwS follow proofs of the library, with one case more: JvmDerived/Free/Laws.lean (Back.of_free), Shelf42/LK1.lean (callV, callS), Shelf/KitTraced.lean (throwNew0V, throwNewS). -/
/-- where a method has thrown q: the class by its name, the cell, what was written, the world -/
def vx_T (XC : String → State → State → Prop) (st : State) (q : Addr) (t : State) (mc ms : Nat) (free : Addr → Prop) : Prop :=
  ∃ (E : String) (ce : Cell) (L : List Loc), XC E st t ∧ t.heap[q]? = some ce ∧ ce.vm = .none ∧ st.vm.findClass E = some ce.cls ∧ st.WarmedH t.vm ∧ st.sameButNew ({ t with vm := st.vm } : State) L mc ms ∧ ∀ z ∈ L, free z.base
def vx_Q (Qc : Array Value → State → Outcome → State → Prop) (XC : String → State → State → Prop) (mc ms : Nat) (free : Addr → Prop) : Array Value → State → Outcome → State → Prop := fun a st o t =>
  (Qc a st o t ∧ ∃ L, FrameEnd st o t L mc ms ∧ ∀ q ∈ L, free q.base) ∨ ∃ q, o = .threw q ∧ vx_T XC st q t mc ms free
/-- a callee that returns or throws -/
def vx_Met (l : Launch) (y : MethodName) (ws : List Cond) (rm : Room) (Pc : Array Value → State → Prop) (Qc : Array Value → State → Outcome → State → Prop) (XC : String → State → State → Prop) (mc ms : Nat) (free : Addr → Prop) : Prop :=
  MetFree l y (headSpec ws rm) Pc (fun _ _ _ _ _ => True) (vx_Q Qc XC mc ms free)
def vx_Post (XC : String → State → State → Prop) (mc ms : Nat) (free : Addr → Prop) : Pt → Array Value → Addr → Pt → Prop := fun A a q B =>
  ∃ (g : JFrame) (mk : MethodId) (t : State) (L : List Loc) (E : String) (ce : Cell), B.U.heap = t.heap ∧ B.U.vm = t.vm ∧ XC E (A.U.calling g mk a) t ∧ t.heap[q]? = some ce ∧ ce.vm = .none ∧ A.U.vm.findClass E = some ce.cls ∧ B.locs = A.locs ++ L ∧ (∀ z ∈ L, free z.base) ∧ B.cells = A.cells + mc ∧ B.slots = A.slots + ms
def vx_Back (l : Launch) (R : Room) (p : Program) (e : Env) (below : List Frame) (s : State) (sargs : Array Value) (y : MethodName) (len W9 : Nat)
    (Pre : Pt → Array Value → Prop) (Post : Pt → Array Value → Option Value → Pt → Prop) (PostX : Pt → Array Value → Addr → Pt → Prop) : Prop :=
  ∀ (m : MethodId) (meth : Method) (c : Code) (A : Pt) (g : JFrame) (ig : Instr) (mk : MethodId) (a : Array Value),
    Stand p l e R s m sargs below meth c A.U A.locs A.cells A.slots → g.method = m → g.locals.size = c.maxLocals → decode c.code g.pc = .ok (ig, len) →
    2 * g.monitorRoom + (g.stack.map fun v => v.category).sum ≤ W9 → A.U.methodNamed? y = some mk → Pre A a →
    (∃ (v : Option Value) (B : Pt), Stand p l e R s m sargs below meth c B.U B.locs B.cells B.slots ∧ Post A a v B ∧
      Steps p.tables e below (doInvoke e (A.U.setTop g) [] mk a).1 (B.U.setTop { g with pc := g.pc + len, stack := v.toList ++ g.stack })) ∨
    (∃ (q : Addr) (B : Pt), Stand p l e R s m sargs below meth c B.U B.locs B.cells B.slots ∧ PostX A a q B ∧
      Steps p.tables e below (doInvoke e (A.U.setTop g) [] mk a).1 ((B.U.setTop g).pushFrame (.throwing q)))
section Payer
variable {l : Launch} {R : Room} {p : Program} {e : Env} {below : List Frame} {s : State} {sargs : Array Value} {y : MethodName} {len W9 : Nat}
theorem vx_back {ws : List Cond} {rm : Room} {Pc : Array Value → State → Prop} {Qc : Array Value → State → Outcome → State → Prop} {XC : String → State → State → Prop} {mc ms : Nat} {free : Addr → Prop} {bytes : ByteArray} {maxL : Nat} {ret : Option FieldType}
    (hM : vx_Met l y ws rm Pc Qc XC mc ms free) (hblind : FrameBlind Pc) (hrc : rm.cells = mc) (hrs : rm.slots = ms)
    (hframes : rm.frames + 1 ≤ R.frames) (hlocals : W9 + (maxL + 11) + rm.locals ≤ R.locals)
    (hws : ∀ w ∈ ws, ∀ a' U, s.WarmedH U.vm → w.before a' U = true) (hcode : Cond.code y bytes maxL ret ∈ ws) (hinit : ∀ a' U, s.WarmedH U.vm → (Cond.initialized y.cls).before a' U = true) :
    vx_Back l R p e below s sargs y len W9 (PreOf R mc ms Pc) (PostOf Qc mc ms free) (vx_Post XC mc ms free) := by
  intro m meth c A g ig mk a X hg hsize hdg hW hn hp
  have h1 : (headSpec ws rm).pre.before a A.U = true := atoms_intro fun w hw => hws w hw _ _ X.warmed
  have h2 : (Cond.code y bytes maxL ret).before a A.U = true := hws _ hcode _ _ X.warmed
  have h3 : (Cond.initialized y.cls).before a A.U = true := hinit _ _ X.warmed
  have h4 : A.cells + (headSpec ws rm).room.cells ≤ R.cells := by rw [show (headSpec ws rm).room.cells = mc from hrc]; exact hp.1
  have h5 : A.slots + (headSpec ws rm).room.slots ≤ R.slots := by rw [show (headSpec ws rm).room.slots = ms from hrs]; exact hp.2.1
  have hPc : Pc a (A.U.calling g mk a) := hblind _ _ _ _ hp.2.2
  obtain ⟨U, Ls, c0, s0⟩ := A
  dsimp only [Pt.U, Pt.locs, Pt.cells, Pt.slots] at h1 h2 h3 h4 h5 X hn hPc ⊢
  obtain ⟨methY, cY, hmY, hcY, -, hlY, -, -, -, -⟩ := Cond.code_spec hn h2
  obtain ⟨kY, hkY, -⟩ := className_of_methodNamed hn
  have hinitY : kY.init = .initialized := Cond.initialized_spec (findClass_of_methodNamed hn) hkY h3
  have h : At U g.method c below := by rw [hg]; exact X.here
  have hlocals9 : W9 + (maxL + 11) + (headSpec ws rm).room.locals ≤ R.locals := hlocals
  have happ : (headSpec ws rm).appliesLoose y e.platform (U.calling g mk a) = true :=
    Spec.appliesLoose_calling (g := g) h hdg hn hkY hinitY
      (X.room_calling (g := g) (R' := (headSpec ws rm).room) hsize hmY hcY hframes (by rw [hlY]; omega) h4 h5) h1
  obtain ⟨mid, hmid⟩ := h.above
  have hfr : (U.setTop g).frames = (.java g :: mid) ++ below := by rw [State.frames_setTop' g h.top, hmid]; rfl
  obtain ⟨o, s₂, hsteps, -, hend, hq⟩ := Steps.callFree hM p X.admits X.cas X.clock (acts := []) hfr happ hPc trivial
  have hq' : vx_Q Qc XC mc ms free a (U.calling g mk a) o s₂ := hq
  rw [State.frames_setTop' g h.top] at hend
  obtain ⟨g₀, hg0⟩ := Option.isSome_iff_exists.mp h.top
  obtain ⟨r, hr⟩ := State.topJava?_eq_some.mp hg0
  have hr' : (({ U with heap := s₂.heap, slotsUsed := s₂.slotsUsed } : State).setVm s₂.vm).frames = .java g₀ :: r := hr
  rcases hq' with ⟨hqc, L, hfe, hL⟩ | ⟨q, rfl, E, ce, L, hx, hce, hcv, hcl, hW₂, hsm, hL⟩
  · obtain ⟨⟨v, rfl⟩, hW₂, e2, q2, q3, q4, q5, q6⟩ := id hfe
    have e3 : s₂ = ({ (U.calling g mk a).setFrames s₂.frames with heap := s₂.heap, slotsUsed := s₂.slotsUsed } : State).setVm s₂.vm := by
      have : s₂ = ({ s₂ with vm := (U.calling g mk a).vm } : State).setVm s₂.vm := rfl
      rw [e2] at this
      exact this
    obtain ⟨c₂, i₂, len₂, hc₂, hd₂, hf₂⟩ := hend
    have hW' : U.WarmedH s₂.vm := hW₂
    have hcc : c₂ = c := by
      have h1 : s₂.code? g.method = U.code? g.method := by
        rw [State.code?_eq, State.code?_eq, hW'.alike.method?]
      exact Option.some.inj (hc₂.symm.trans (h1.trans h.code))
    subst hcc
    have hlen : len₂ = len := by rw [hdg] at hd₂; cases hd₂; rfl
    subst hlen
    have hs₂ : s₂ = (({ U with heap := s₂.heap, slotsUsed := s₂.slotsUsed } : State).setVm s₂.vm).setTop { g with pc := g.pc + len₂, stack := v.toList ++ g.stack } := by
      refine e3.trans ?_
      rw [hf₂, State.calling_eq h.top, State.setFrames_setFrames, State.setTop_of_frames _ hr', hr]
      rfl
    have hsame : U.sameButNew ({ U with heap := s₂.heap, slotsUsed := s₂.slotsUsed } : State) L mc ms := by
      refine ⟨?_, q2, q3, q4, q5, q6⟩
      obtain ⟨t, ht, -⟩ := State.frames_cons hr
      show ({ U with heap := s₂.heap, slotsUsed := s₂.slotsUsed } : State) = { U.setFrames U.frames with heap := s₂.heap, slotsUsed := s₂.slotsUsed }
      rw [State.setFrames_self ht]
    subst hg
    refine Or.inl ⟨v, ⟨(({ U with heap := s₂.heap, slotsUsed := s₂.slotsUsed } : State).setVm s₂.vm), Ls ++ L, c0 + mc, s0 + ms⟩,
      ⟨X.admits, X.cas, X.clock, X.frames, X.room, X.hears, X.method, X.code, (X.here.setHeapUsed s₂.heap s₂.slotsUsed).setVm hW'.alike, X.tail, State.WarmedH.trans X.warmed hW', X.limits, X.bytes, X.same.trans (hsame.setVm s.vm)⟩,
      ⟨g, mk, s₂, L, rfl, rfl, hqc, rfl, hL, rfl, rfl⟩, ?_⟩
    show Steps p.tables e below _ ((({ U with heap := s₂.heap, slotsUsed := s₂.slotsUsed } : State).setVm s₂.vm).setTop { g with pc := g.pc + len₂, stack := v.toList ++ g.stack })
    rw [← hs₂]
    exact hsteps
  · obtain ⟨e2, q2, q3, q4, q5, q6⟩ := id hsm
    have e3 : s₂ = ({ (U.calling g mk a).setFrames s₂.frames with heap := s₂.heap, slotsUsed := s₂.slotsUsed } : State).setVm s₂.vm := by
      have : s₂ = ({ s₂ with vm := (U.calling g mk a).vm } : State).setVm s₂.vm := rfl
      rw [e2] at this
      exact this
    have hf₂ : s₂.frames = .throwing q :: .java g :: U.frames.tail := hend
    have hW' : U.WarmedH s₂.vm := hW₂
    have hs₂ : s₂ = ((({ U with heap := s₂.heap, slotsUsed := s₂.slotsUsed } : State).setVm s₂.vm).setTop g).pushFrame (.throwing q) := by
      refine e3.trans ?_
      rw [hf₂, State.calling_eq h.top, State.setFrames_setFrames, State.pushFrame, State.frames_setTop _ hr', State.setTop_of_frames _ hr', State.setFrames_setFrames, hr]
      rfl
    have hsame : U.sameButNew ({ U with heap := s₂.heap, slotsUsed := s₂.slotsUsed } : State) L mc ms := by
      refine ⟨?_, q2, q3, q4, q5, q6⟩
      obtain ⟨t, ht, -⟩ := State.frames_cons hr
      show ({ U with heap := s₂.heap, slotsUsed := s₂.slotsUsed } : State) = { U.setFrames U.frames with heap := s₂.heap, slotsUsed := s₂.slotsUsed }
      rw [State.setFrames_self ht]
    subst hg
    refine Or.inr ⟨q, ⟨(({ U with heap := s₂.heap, slotsUsed := s₂.slotsUsed } : State).setVm s₂.vm), Ls ++ L, c0 + mc, s0 + ms⟩,
      ⟨X.admits, X.cas, X.clock, X.frames, X.room, X.hears, X.method, X.code, (X.here.setHeapUsed s₂.heap s₂.slotsUsed).setVm hW'.alike, X.tail, State.WarmedH.trans X.warmed hW', X.limits, X.bytes, X.same.trans (hsame.setVm s.vm)⟩,
      ⟨g, mk, s₂, L, E, ce, rfl, rfl, hx, hce, hcv, hcl, rfl, hL, rfl, rfl⟩, ?_⟩
    show Steps p.tables e below _ (((({ U with heap := s₂.heap, slotsUsed := s₂.slotsUsed } : State).setVm s₂.vm).setTop g).pushFrame (.throwing q))
    rw [← hs₂]
    exact hsteps
end Payer
section Calls
variable {p : Program} {l : Launch} {e : Env} {R : Room} {s : State} {m : MethodId} {args : Array Value} {below : List Frame} {meth : Method} {c : Code} {T : State} {locs : List Loc} {cells slots : Nat}
theorem vx_callV (X : Stand p l e R s m args below meth c T locs cells slots) (hexec : p.tables.exec = Jvm.exec) {own C : String} {index : Nat} {y : MethodName} {bytes : ByteArray} {maxL : Nat} {ret : Option FieldType}
    (hown : s.vm.findClass own = some m.cls) (hlink : (Cond.methodLink own index y).before args s = true) (hinst : (Cond.instanceMethod y).before args s = true) (hsel : (Cond.selects C y y).before args s = true)
    (hcode : (Cond.code y bytes maxL ret).before args s = true) (hy : y.cls ≠ "java/lang/invoke/MethodHandle" ∧ y.cls ≠ "java/lang/invoke/VarHandle")
    {W9 : Nat} {Pre : Pt → Array Value → Prop} {Post : Pt → Array Value → Option Value → Pt → Prop} {PostX : Pt → Array Value → Addr → Pt → Prop} (hK : vx_Back l R p e below s args y 3 W9 Pre Post PostX)
    {b : Addr} {cellB : Cell} (hcell : T.heap[b]? = some cellB) (hobj : cellB.vm.isStatics = false) (hcls : s.vm.findClass C = some cellB.cls)
    {g : JFrame} (hg : g.method = m) (hsize : g.locals.size = c.maxLocals) {argsL rest : List Value} (hlen : ∀ sig, parseMethodDescriptor y.desc = some sig → argsL.length = sig.parameters.length)
    (hstack : g.stack = argsL.reverse ++ .ref b :: rest) (hW : 2 * g.monitorRoom + (rest.map fun v => v.category).sum ≤ W9) (hdg : decode c.code g.pc = .ok (.invokevirtual index, 3))
    (hpre : ∀ vm₁, s.WarmedH vm₁ → Pre ⟨T.setVm vm₁, locs, cells, slots⟩ (Value.ref b :: argsL).toArray) :
    (∃ (v : Option Value) (vm₁ : Vm) (B : Pt), s.WarmedH vm₁ ∧ Stand p l e R s m args below meth c B.U B.locs B.cells B.slots ∧ Post ⟨T.setVm vm₁, locs, cells, slots⟩ (Value.ref b :: argsL).toArray v B ∧
      ∀ target, Steps p.tables e below (B.U.setTop { g with pc := g.pc + 3, stack := v.toList ++ rest }) target → Steps p.tables e below (T.setTop g) target) ∨
    (∃ (q : Addr) (vm₁ : Vm) (B : Pt), s.WarmedH vm₁ ∧ Stand p l e R s m args below meth c B.U B.locs B.cells B.slots ∧ PostX ⟨T.setVm vm₁, locs, cells, slots⟩ (Value.ref b :: argsL).toArray q B ∧
      Steps p.tables e below (T.setTop g) ((B.U.setTop { g with stack := rest }).pushFrame (.throwing q))) := by
  obtain ⟨mk, methM, hnamed, hmethM, hstM, habM⟩ := Cond.instanceMethod_spec hinst
  obtain ⟨methM', cM, hmethM', -, -, -, -, -, -, hsigM⟩ := Cond.code_spec hnamed hcode
  cases hmethM.symm.trans hmethM'
  obtain ⟨c2, r2, m2, q1, q2, q3, q4, kP, hkP, hkPi⟩ := Cond.selects_spec hsel
  cases hcls.symm.trans q1
  cases (State.methodFound?_of_named hnamed hy).symm.trans q2
  cases hnamed.symm.trans q3
  have hselP : selectMethod e.platform s.vm cellB.cls mk = .method mk := by rw [Launch.admits_selectMethod X.admits]; exact q4
  obtain ⟨vm₁, X₁, hstep₁⟩ := X.invokevirtual hexec hown hlink hnamed hmethM hstM hkP hkPi hy (a := b) (cell := cellB) hcell
    (fun z h => by rw [h] at hobj; cases hobj) hselP hmethM habM hkP hkPi (g := g) hg (argsL := argsL) (rest := rest) (hlen _ hsigM) hstack hdg
  rcases hK m meth c ⟨T.setVm vm₁, locs, cells, slots⟩ { g with stack := rest } (.invokevirtual index) mk (Value.ref b :: argsL).toArray X₁ hg hsize hdg hW (X₁.named hnamed) (hpre vm₁ X₁.warmed) with ⟨v, B, X', hpost, hsteps⟩ | ⟨q, B, X', hpost, hsteps⟩
  · exact Or.inl ⟨v, vm₁, B, X₁.warmed, X', hpost, fun target h => hstep₁ _ fun acts => by rw [doInvoke_state]; exact hsteps.trans h⟩
  · exact Or.inr ⟨q, vm₁, B, X₁.warmed, X', hpost, hstep₁ _ fun acts => by rw [doInvoke_state]; exact hsteps⟩
theorem vx_callS (X : Stand p l e R s m args below meth c T locs cells slots) (hexec : p.tables.exec = Jvm.exec) {own : String} {index : Nat} {y : MethodName} {bytes : ByteArray} {maxL : Nat} {ret : Option FieldType}
    (hown : s.vm.findClass own = some m.cls) (hlink : (Cond.methodLink own index y).before args s = true) (hstat : (Cond.static y).before args s = true) (hinit : (Cond.initialized y.cls).before args s = true)
    (hcode : (Cond.code y bytes maxL ret).before args s = true) (hy : y.cls ≠ "java/lang/invoke/MethodHandle" ∧ y.cls ≠ "java/lang/invoke/VarHandle")
    {W9 : Nat} {Pre : Pt → Array Value → Prop} {Post : Pt → Array Value → Option Value → Pt → Prop} {PostX : Pt → Array Value → Addr → Pt → Prop} (hK : vx_Back l R p e below s args y 3 W9 Pre Post PostX)
    {g : JFrame} (hg : g.method = m) (hsize : g.locals.size = c.maxLocals) {argsL rest : List Value} (hlen : ∀ sig, parseMethodDescriptor y.desc = some sig → argsL.length = sig.parameters.length)
    (hstack : g.stack = argsL.reverse ++ rest) (hW : 2 * g.monitorRoom + (rest.map fun v => v.category).sum ≤ W9) (hdg : decode c.code g.pc = .ok (.invokestatic index, 3))
    (hpre : ∀ vm₁, s.WarmedH vm₁ → Pre ⟨T.setVm vm₁, locs, cells, slots⟩ argsL.toArray) :
    (∃ (v : Option Value) (vm₁ : Vm) (B : Pt), s.WarmedH vm₁ ∧ Stand p l e R s m args below meth c B.U B.locs B.cells B.slots ∧ Post ⟨T.setVm vm₁, locs, cells, slots⟩ argsL.toArray v B ∧
      ∀ target, Steps p.tables e below (B.U.setTop { g with pc := g.pc + 3, stack := v.toList ++ rest }) target → Steps p.tables e below (T.setTop g) target) ∨
    (∃ (q : Addr) (vm₁ : Vm) (B : Pt), s.WarmedH vm₁ ∧ Stand p l e R s m args below meth c B.U B.locs B.cells B.slots ∧ PostX ⟨T.setVm vm₁, locs, cells, slots⟩ argsL.toArray q B ∧
      Steps p.tables e below (T.setTop g) ((B.U.setTop { g with stack := rest }).pushFrame (.throwing q))) := by
  obtain ⟨mk, hnamed⟩ := Cond.code_named hcode
  obtain ⟨methM, cM, hmethM, -, -, -, -, -, -, hsigM⟩ := Cond.code_spec hnamed hcode
  have hstatic : methM.isStatic = true := Cond.static_spec hnamed hmethM hstat
  obtain ⟨kP, hkP, -⟩ := className_of_methodNamed hnamed
  have hinitP : kP.init = .initialized := Cond.initialized_spec (findClass_of_methodNamed hnamed) hkP hinit
  obtain ⟨vm₁, X₁, hstep₁⟩ := X.invokestatic hexec hown hlink hnamed hmethM hstatic hkP hinitP hy (g := g) hg (argsL := argsL) (rest := rest) (hlen _ hsigM) hstack hdg
  rcases hK m meth c ⟨T.setVm vm₁, locs, cells, slots⟩ { g with stack := rest } (.invokestatic index) mk argsL.toArray X₁ hg hsize hdg hW (X₁.named hnamed) (hpre vm₁ X₁.warmed) with ⟨v, B, X', hpost, hsteps⟩ | ⟨q, B, X', hpost, hsteps⟩
  · exact Or.inl ⟨v, vm₁, B, X₁.warmed, X', hpost, fun target h => hstep₁ _ fun acts => by rw [doInvoke_state]; exact hsteps.trans h⟩
  · exact Or.inr ⟨q, vm₁, B, X₁.warmed, X', hpost, hstep₁ _ fun acts => by rw [doInvoke_state]; exact hsteps⟩
end Calls
theorem vx_cls {s : State} {T : State} {vm₁ : Vm} {E : String} {k : ClassId} (hW : s.WarmedH vm₁) (h : (T.setVm vm₁).vm.findClass E = some k) : s.vm.findClass E = some k := by
  have h1 : vm₁.findClass E = some k := h
  rw [hW.alike.findClass] at h1
  exact h1
/-- the method's frame g, with q thrown over it -/
def vx_W (p : Program) (l : Launch) (e : Env) (R : Room) (s : State) (m : MethodId) (args : Array Value) (below : List Frame) (meth : Method) (c : Code) (H : Heap) (locs : List Loc) (cells slots : Nat) (Q : State → Prop) (g : JFrame) (q : Addr) : Prop :=
  ∀ T : State, T.heap = H → Stand p l e R s m args below meth c T locs cells slots → ∃ t, Steps p.tables e below ((T.setTop g).pushFrame (.throwing q)) t ∧ Q t
def vx_Run (p : Program) (l : Launch) (e : Env) (R : Room) (s : State) (m : MethodId) (args : Array Value) (below : List Frame) (meth : Method) (c : Code) (H : Heap) (locs : List Loc) (cells slots mc ms : Nat) (g : JFrame) (rest : List Value) (Qa : State → Outcome → State → Prop) (XC : String → State → State → Prop) (free : Addr → Prop) : Prop :=
  ∀ T : State, T.heap = H → Stand p l e R s m args below meth c T locs cells slots →
    (∃ (v : Option Value) (st₀ t T' : State) (L : List Loc), st₀.heap = H ∧ Stand p l e R s m args below meth c T' (locs ++ L) (cells + mc) (slots + ms) ∧ (∀ q ∈ L, free q.base) ∧ T'.heap = t.heap ∧ T'.vm = t.vm ∧ Qa st₀ (.returned v) t ∧
      Goes p e below T g T' { g with pc := g.pc + 3, stack := v.toList ++ rest }) ∨
    (∃ (q : Addr) (st₀ t T' : State) (L : List Loc) (E : String) (ce : Cell), st₀.heap = H ∧ Stand p l e R s m args below meth c T' (locs ++ L) (cells + mc) (slots + ms) ∧ (∀ z ∈ L, free z.base) ∧ T'.heap = t.heap ∧ T'.vm = t.vm ∧ XC E st₀ t ∧ t.heap[q]? = some ce ∧ ce.vm = .none ∧ s.vm.findClass E = some ce.cls ∧
      Steps p.tables e below (T.setTop g) ((T'.setTop { g with stack := rest }).pushFrame (.throwing q)))
def vx_X {S : Type} (px : S → Prop) (B : String → S → State → Prop) (A : Nat → Prop) : String → State → State → Prop := fun E st t => ∃ u : S, px u ∧ B E u t ∧ va_F A st t
section Runs
variable {p : Program} {l : Launch} {e : Env} {R : Room} {s : State} {m : MethodId} {args : Array Value} {below : List Frame} {meth : Method} {c : Code} {H : Heap} {locs : List Loc} {cells slots : Nat}
variable {y : MethodName} {bytes cc : ByteArray} {maxL nL mc ms n index : Nat} {ret : Option FieldType} {ws : List Cond} {rm : Room} {Pc : Array Value → State → Prop} {Qc : Array Value → State → Outcome → State → Prop} {XC : String → State → State → Prop} {free : Addr → Prop} {Ts : List Cond} {own C : String} {b : Addr} {As rest : List Value} {g : JFrame}
theorem vx_callBack (cb : CallB R s args own index y bytes maxL ret ws rm mc ms n) (hM : vx_Met l y ws rm Pc Qc XC mc ms free) (hbl : FrameBlind Pc) : vx_Back l R p e below s args y 3 8 (PreOf R mc ms Pc) (PostOf Qc mc ms free) (vx_Post XC mc ms free) := by
  obtain ⟨hrc, hrs, hfr, hlo, hws, hcw, -, hini, -⟩ := cb
  exact vx_back (bytes := bytes) (maxL := maxL) (ret := ret) hM hbl hrc hrs hfr hlo hws hcw (fun a' U hW => word_at hW (Or.inl (by first | rfl | simp [Cond.onTables, Cond.keeps, Cond.steady])) hini)
theorem vx_runV (S : CallFix p m c cc nL s args Ts own) (hM : vx_Met l y ws rm Pc Qc XC mc ms free) (cw : CallW R s args own C index y bytes maxL ret ws rm mc ms n) (hp : PreV s H C b Pc As)
    (hg : g.method = m) (hn : As.length = n) (hsize : g.locals.size = nL) (hstack : g.stack = As.reverse ++ .ref b :: rest) (hW : 2 * g.monitorRoom + (rest.map fun v => v.category).sum ≤ 8) (hdg : decode cc g.pc = .ok (.invokevirtual index, 3)) (hf : cells + mc ≤ R.cells ∧ slots + ms ≤ R.slots) :
    vx_Run p l e R s m args below meth c H locs cells slots mc ms g rest (Qc (Value.ref b :: As).toArray) XC free := by
  have hK : vx_Back l R p e below s args y 3 8 (PreOf R mc ms Pc) (PostOf Qc mc ms free) (vx_Post XC mc ms free) := vx_callBack cw.1 hM hp.1
  obtain ⟨⟨-, -, -, -, -, -, hcode, -, hy, hlen, hl⟩, hin, hse⟩ := cw
  obtain ⟨hx, hb, hml, ho, -⟩ := S
  obtain ⟨-, ⟨cellB, hcB, hoB, hclB⟩, hPc⟩ := hp
  intro T hT X
  rcases vx_callV X hx (C := C) (bytes := bytes) (maxL := maxL) (ret := ret) ho hl hin hse hcode hy hK (by rw [hT]; exact hcB) hoB hclB hg (hsize.trans hml.symm) (argsL := As) (rest := rest) (fun sig h => hn.trans (hlen sig h)) hstack hW (by rw [hb]; exact hdg)
    (fun vm₁ hW₁ => ⟨hf.1, hf.2, hPc (T.setVm vm₁) hT hW₁⟩) with ⟨v, vm₁, ⟨U', l2, c2, s2⟩, hW₁, X', ⟨g', mk, t, L, e1, e2, hq, h1, hL, h2, h3⟩, st⟩ | ⟨q, vm₁, ⟨U', l2, c2, s2⟩, hW₁, X', ⟨g', mk, t, L, E, ce, e1, e2, hq, hce, hcv, hcl, h1, hL, h2, h3⟩, st⟩
  · dsimp only [Pt.U, Pt.locs, Pt.cells, Pt.slots] at X' e1 e2 h1 h2 h3 st
    subst h1; subst h2; subst h3
    exact Or.inl ⟨v, (T.setVm vm₁).calling g' mk (Value.ref b :: As).toArray, t, U', L, hT, X', hL, e1, e2, hq, st⟩
  · dsimp only [Pt.U, Pt.locs, Pt.cells, Pt.slots] at X' e1 e2 h1 h2 h3 st hcl
    subst h1; subst h2; subst h3
    exact Or.inr ⟨q, (T.setVm vm₁).calling g' mk (Value.ref b :: As).toArray, t, U', L, E, ce, hT, X', hL, e1, e2, hq, hce, hcv, vx_cls hW₁ hcl, st⟩
theorem vx_runS (S : CallFix p m c cc nL s args Ts own) (hM : vx_Met l y ws rm Pc Qc XC mc ms free) (cw : CallB R s args own index y bytes maxL ret ws rm mc ms n ∧ (Cond.static y).before args s = true) (hp : PreS s H Pc As)
    (hg : g.method = m) (hn : As.length = n) (hsize : g.locals.size = nL) (hstack : g.stack = As.reverse ++ rest) (hW : 2 * g.monitorRoom + (rest.map fun v => v.category).sum ≤ 8) (hdg : decode cc g.pc = .ok (.invokestatic index, 3)) (hf : cells + mc ≤ R.cells ∧ slots + ms ≤ R.slots) :
    vx_Run p l e R s m args below meth c H locs cells slots mc ms g rest (Qc As.toArray) XC free := by
  have hK : vx_Back l R p e below s args y 3 8 (PreOf R mc ms Pc) (PostOf Qc mc ms free) (vx_Post XC mc ms free) := vx_callBack cw.1 hM hp.1
  obtain ⟨⟨-, -, -, -, -, -, hcode, hini, hy, hlen, hl⟩, hstt⟩ := cw
  obtain ⟨hx, hb, hml, ho, -⟩ := S
  intro T hT X
  rcases vx_callS X hx (bytes := bytes) (maxL := maxL) (ret := ret) ho hl hstt hini hcode hy hK hg (hsize.trans hml.symm) (argsL := As) (rest := rest) (fun sig h => hn.trans (hlen sig h)) hstack hW (by rw [hb]; exact hdg)
    (fun vm₁ hW₁ => ⟨hf.1, hf.2, hp.2 (T.setVm vm₁) hT hW₁⟩) with ⟨v, vm₁, ⟨U', l2, c2, s2⟩, hW₁, X', ⟨g', mk, t, L, e1, e2, hq, h1, hL, h2, h3⟩, st⟩ | ⟨q, vm₁, ⟨U', l2, c2, s2⟩, hW₁, X', ⟨g', mk, t, L, E, ce, e1, e2, hq, hce, hcv, hcl, h1, hL, h2, h3⟩, st⟩
  · dsimp only [Pt.U, Pt.locs, Pt.cells, Pt.slots] at X' e1 e2 h1 h2 h3 st
    subst h1; subst h2; subst h3
    exact Or.inl ⟨v, (T.setVm vm₁).calling g' mk As.toArray, t, U', L, hT, X', hL, e1, e2, hq, st⟩
  · dsimp only [Pt.U, Pt.locs, Pt.cells, Pt.slots] at X' e1 e2 h1 h2 h3 st hcl
    subst h1; subst h2; subst h3
    exact Or.inr ⟨q, (T.setVm vm₁).calling g' mk As.toArray, t, U', L, E, ce, hT, X', hL, e1, e2, hq, hce, hcv, vx_cls hW₁ hcl, st⟩
end Runs
section Rows
variable {p : Program} {l : Launch} {e : Env} {R : Room} {s : State} {m : MethodId} {args : Array Value} {below : List Frame} {meth : Method} {c : Code} {H : Heap} {locs : List Loc} {cells slots : Nat} {Q : State → Prop}
variable {mc ms : Nat} {free : Addr → Prop} {A0 A1 : Nat → Prop} {H0 : Heap} {a : Array Value} {pc : Nat} {ls : Array Slot} {st0 rest : List Value}
theorem vx_keep {st₀ t T' : State} {L : List Loc} (h0 : st₀.heap = H) (e1 : T'.heap = t.heap) (hS : va_S A0 H0 H locs) (hA : ∀ q, q < H.size → A1 q → A0 q) (hf : ∀ q, free q → A0 q) (hL : ∀ q ∈ L, free q.base) (hF : va_F A1 st₀ t) :
    H.size ≤ T'.heap.size ∧ (∀ q : Nat, q < H.size → ¬ A1 q → T'.heap[q]? = H[q]?) ∧ va_S A0 H0 T'.heap (locs ++ L) := by
  obtain ⟨hz, hk⟩ := hF
  rw [h0] at hz hk
  exact ⟨by rw [e1]; exact hz, fun q h1 h2 => by rw [e1]; exact hk q h1 h2,
    ⟨Nat.le_trans hS.1 (by rw [e1]; exact hz), fun q h1 h2 => by rw [e1, hk q (Nat.lt_of_lt_of_le h1 hS.1) (fun z => h2 (hA q (Nat.lt_of_lt_of_le h1 hS.1) z))]; exact hS.2.1 q h1 h2, fun q hq => by
      rcases List.mem_append.mp hq with h | h
      · exact hS.2.2 q h
      · exact hf _ (hL q h)⟩⟩
theorem vx_calli {S SX : Type} {post : Int32 → S → Prop} {px : SX → Prop} {B : S → State → Prop} {BX : String → SX → State → Prop} {AX : Nat → Prop} (hr : vx_Run p l e R s m args below meth c H locs cells slots mc ms (F0 m pc ls st0) rest (va_Qi post B A1 a) (vx_X px BX AX) free) (hS : va_S A0 H0 H locs) (hA : ∀ q, q < H.size → A1 q → A0 q) (hf : ∀ q, free q → A0 q) (hAX : ∀ q, q < H.size → AX q → A0 q)
    (kx : ∀ (E : String) (ce : Cell) (q9 : Addr) (u : SX) (t : State) (H1 : Heap) (locs1 : List Loc), t.heap = H1 → s.vm.Alike t.vm → px u → BX E u t → H.size ≤ H1.size → (∀ q : Nat, q < H.size → ¬ AX q → H1[q]? = H[q]?) → va_S A0 H0 H1 locs1 → H1[q9]? = some ce → ce.vm = .none → s.vm.findClass E = some ce.cls → vx_W p l e R s m args below meth c H1 locs1 (cells + mc) (slots + ms) Q (F0 m pc ls rest) q9)
    (kk : ∀ (r : Int32) (u : S) (t : State) (H1 : Heap) (locs1 : List Loc), t.heap = H1 → s.vm.Alike t.vm → post r u → B u t → H.size ≤ H1.size → (∀ q : Nat, q < H.size → ¬ A1 q → H1[q]? = H[q]?) → va_S A0 H0 H1 locs1 → W p l e R s m args below meth c H1 locs1 (cells + mc) (slots + ms) Q (F0 m (pc + 3) ls (.int r :: rest))) : W p l e R s m args below meth c H locs cells slots Q (F0 m pc ls st0) := by
  intro T hT X
  rcases hr T hT X with ⟨v, st₀, t, T', L, h0, X', hL, e1, e2, ⟨⟨r, u, hv, hp, hb⟩, hF⟩, st⟩ | ⟨q, st₀, t, T', L, E, ce, h0, X', hL, e1, e2, ⟨u, hp, hb, hF⟩, hce, hcv, hcl, st⟩
  · cases hv
    obtain ⟨k1, k2, k3⟩ := vx_keep h0 e1 hS hA hf hL hF
    obtain ⟨t2, a1, b1⟩ := kk r u t T'.heap (locs ++ L) e1.symm (by rw [← e2]; exact X'.warmed.alike) hp hb k1 k2 k3 T' rfl X'
    exact ⟨t2, st t2 a1, b1⟩
  · obtain ⟨k1, k2, k3⟩ := vx_keep h0 e1 hS hAX hf hL hF
    obtain ⟨t2, a1, b1⟩ := kx E ce q u t T'.heap (locs ++ L) e1.symm (by rw [← e2]; exact X'.warmed.alike) hp hb k1 k2 k3 (by rw [e1]; exact hce) hcv hcl T' rfl X'
    exact ⟨t2, st.trans a1, b1⟩
theorem vx_calll {S SX : Type} {post : Int64 → S → Prop} {px : SX → Prop} {B : S → State → Prop} {BX : String → SX → State → Prop} {AX : Nat → Prop} (hr : vx_Run p l e R s m args below meth c H locs cells slots mc ms (F0 m pc ls st0) rest (va_Ql post B A1 a) (vx_X px BX AX) free) (hS : va_S A0 H0 H locs) (hA : ∀ q, q < H.size → A1 q → A0 q) (hf : ∀ q, free q → A0 q) (hAX : ∀ q, q < H.size → AX q → A0 q)
    (kx : ∀ (E : String) (ce : Cell) (q9 : Addr) (u : SX) (t : State) (H1 : Heap) (locs1 : List Loc), t.heap = H1 → s.vm.Alike t.vm → px u → BX E u t → H.size ≤ H1.size → (∀ q : Nat, q < H.size → ¬ AX q → H1[q]? = H[q]?) → va_S A0 H0 H1 locs1 → H1[q9]? = some ce → ce.vm = .none → s.vm.findClass E = some ce.cls → vx_W p l e R s m args below meth c H1 locs1 (cells + mc) (slots + ms) Q (F0 m pc ls rest) q9)
    (kk : ∀ (r : Int64) (u : S) (t : State) (H1 : Heap) (locs1 : List Loc), t.heap = H1 → s.vm.Alike t.vm → post r u → B u t → H.size ≤ H1.size → (∀ q : Nat, q < H.size → ¬ A1 q → H1[q]? = H[q]?) → va_S A0 H0 H1 locs1 → W p l e R s m args below meth c H1 locs1 (cells + mc) (slots + ms) Q (F0 m (pc + 3) ls (.long r :: rest))) : W p l e R s m args below meth c H locs cells slots Q (F0 m pc ls st0) := by
  intro T hT X
  rcases hr T hT X with ⟨v, st₀, t, T', L, h0, X', hL, e1, e2, ⟨⟨r, u, hv, hp, hb⟩, hF⟩, st⟩ | ⟨q, st₀, t, T', L, E, ce, h0, X', hL, e1, e2, ⟨u, hp, hb, hF⟩, hce, hcv, hcl, st⟩
  · cases hv
    obtain ⟨k1, k2, k3⟩ := vx_keep h0 e1 hS hA hf hL hF
    obtain ⟨t2, a1, b1⟩ := kk r u t T'.heap (locs ++ L) e1.symm (by rw [← e2]; exact X'.warmed.alike) hp hb k1 k2 k3 T' rfl X'
    exact ⟨t2, st t2 a1, b1⟩
  · obtain ⟨k1, k2, k3⟩ := vx_keep h0 e1 hS hAX hf hL hF
    obtain ⟨t2, a1, b1⟩ := kx E ce q u t T'.heap (locs ++ L) e1.symm (by rw [← e2]; exact X'.warmed.alike) hp hb k1 k2 k3 (by rw [e1]; exact hce) hcv hcl T' rfl X'
    exact ⟨t2, st.trans a1, b1⟩
theorem vx_callf {S SX : Type} {post : UInt32 → S → Prop} {px : SX → Prop} {B : S → State → Prop} {BX : String → SX → State → Prop} {AX : Nat → Prop} (hr : vx_Run p l e R s m args below meth c H locs cells slots mc ms (F0 m pc ls st0) rest (va_Qf post B A1 a) (vx_X px BX AX) free) (hS : va_S A0 H0 H locs) (hA : ∀ q, q < H.size → A1 q → A0 q) (hf : ∀ q, free q → A0 q) (hAX : ∀ q, q < H.size → AX q → A0 q)
    (kx : ∀ (E : String) (ce : Cell) (q9 : Addr) (u : SX) (t : State) (H1 : Heap) (locs1 : List Loc), t.heap = H1 → s.vm.Alike t.vm → px u → BX E u t → H.size ≤ H1.size → (∀ q : Nat, q < H.size → ¬ AX q → H1[q]? = H[q]?) → va_S A0 H0 H1 locs1 → H1[q9]? = some ce → ce.vm = .none → s.vm.findClass E = some ce.cls → vx_W p l e R s m args below meth c H1 locs1 (cells + mc) (slots + ms) Q (F0 m pc ls rest) q9)
    (kk : ∀ (r : UInt32) (u : S) (t : State) (H1 : Heap) (locs1 : List Loc), t.heap = H1 → s.vm.Alike t.vm → post r u → B u t → H.size ≤ H1.size → (∀ q : Nat, q < H.size → ¬ A1 q → H1[q]? = H[q]?) → va_S A0 H0 H1 locs1 → W p l e R s m args below meth c H1 locs1 (cells + mc) (slots + ms) Q (F0 m (pc + 3) ls (.float r :: rest))) : W p l e R s m args below meth c H locs cells slots Q (F0 m pc ls st0) := by
  intro T hT X
  rcases hr T hT X with ⟨v, st₀, t, T', L, h0, X', hL, e1, e2, ⟨⟨r, u, hv, hp, hb⟩, hF⟩, st⟩ | ⟨q, st₀, t, T', L, E, ce, h0, X', hL, e1, e2, ⟨u, hp, hb, hF⟩, hce, hcv, hcl, st⟩
  · cases hv
    obtain ⟨k1, k2, k3⟩ := vx_keep h0 e1 hS hA hf hL hF
    obtain ⟨t2, a1, b1⟩ := kk r u t T'.heap (locs ++ L) e1.symm (by rw [← e2]; exact X'.warmed.alike) hp hb k1 k2 k3 T' rfl X'
    exact ⟨t2, st t2 a1, b1⟩
  · obtain ⟨k1, k2, k3⟩ := vx_keep h0 e1 hS hAX hf hL hF
    obtain ⟨t2, a1, b1⟩ := kx E ce q u t T'.heap (locs ++ L) e1.symm (by rw [← e2]; exact X'.warmed.alike) hp hb k1 k2 k3 (by rw [e1]; exact hce) hcv hcl T' rfl X'
    exact ⟨t2, st.trans a1, b1⟩
theorem vx_calld {S SX : Type} {post : UInt64 → S → Prop} {px : SX → Prop} {B : S → State → Prop} {BX : String → SX → State → Prop} {AX : Nat → Prop} (hr : vx_Run p l e R s m args below meth c H locs cells slots mc ms (F0 m pc ls st0) rest (va_Qd post B A1 a) (vx_X px BX AX) free) (hS : va_S A0 H0 H locs) (hA : ∀ q, q < H.size → A1 q → A0 q) (hf : ∀ q, free q → A0 q) (hAX : ∀ q, q < H.size → AX q → A0 q)
    (kx : ∀ (E : String) (ce : Cell) (q9 : Addr) (u : SX) (t : State) (H1 : Heap) (locs1 : List Loc), t.heap = H1 → s.vm.Alike t.vm → px u → BX E u t → H.size ≤ H1.size → (∀ q : Nat, q < H.size → ¬ AX q → H1[q]? = H[q]?) → va_S A0 H0 H1 locs1 → H1[q9]? = some ce → ce.vm = .none → s.vm.findClass E = some ce.cls → vx_W p l e R s m args below meth c H1 locs1 (cells + mc) (slots + ms) Q (F0 m pc ls rest) q9)
    (kk : ∀ (r : UInt64) (u : S) (t : State) (H1 : Heap) (locs1 : List Loc), t.heap = H1 → s.vm.Alike t.vm → post r u → B u t → H.size ≤ H1.size → (∀ q : Nat, q < H.size → ¬ A1 q → H1[q]? = H[q]?) → va_S A0 H0 H1 locs1 → W p l e R s m args below meth c H1 locs1 (cells + mc) (slots + ms) Q (F0 m (pc + 3) ls (.double r :: rest))) : W p l e R s m args below meth c H locs cells slots Q (F0 m pc ls st0) := by
  intro T hT X
  rcases hr T hT X with ⟨v, st₀, t, T', L, h0, X', hL, e1, e2, ⟨⟨r, u, hv, hp, hb⟩, hF⟩, st⟩ | ⟨q, st₀, t, T', L, E, ce, h0, X', hL, e1, e2, ⟨u, hp, hb, hF⟩, hce, hcv, hcl, st⟩
  · cases hv
    obtain ⟨k1, k2, k3⟩ := vx_keep h0 e1 hS hA hf hL hF
    obtain ⟨t2, a1, b1⟩ := kk r u t T'.heap (locs ++ L) e1.symm (by rw [← e2]; exact X'.warmed.alike) hp hb k1 k2 k3 T' rfl X'
    exact ⟨t2, st t2 a1, b1⟩
  · obtain ⟨k1, k2, k3⟩ := vx_keep h0 e1 hS hAX hf hL hF
    obtain ⟨t2, a1, b1⟩ := kx E ce q u t T'.heap (locs ++ L) e1.symm (by rw [← e2]; exact X'.warmed.alike) hp hb k1 k2 k3 (by rw [e1]; exact hce) hcv hcl T' rfl X'
    exact ⟨t2, st.trans a1, b1⟩
theorem vx_callv {S SX : Type} {post : S → Prop} {px : SX → Prop} {B : S → State → Prop} {BX : String → SX → State → Prop} {AX : Nat → Prop} (hr : vx_Run p l e R s m args below meth c H locs cells slots mc ms (F0 m pc ls st0) rest (va_Qv post B A1 a) (vx_X px BX AX) free) (hS : va_S A0 H0 H locs) (hA : ∀ q, q < H.size → A1 q → A0 q) (hf : ∀ q, free q → A0 q) (hAX : ∀ q, q < H.size → AX q → A0 q)
    (kx : ∀ (E : String) (ce : Cell) (q9 : Addr) (u : SX) (t : State) (H1 : Heap) (locs1 : List Loc), t.heap = H1 → s.vm.Alike t.vm → px u → BX E u t → H.size ≤ H1.size → (∀ q : Nat, q < H.size → ¬ AX q → H1[q]? = H[q]?) → va_S A0 H0 H1 locs1 → H1[q9]? = some ce → ce.vm = .none → s.vm.findClass E = some ce.cls → vx_W p l e R s m args below meth c H1 locs1 (cells + mc) (slots + ms) Q (F0 m pc ls rest) q9)
    (kk : ∀ (u : S) (t : State) (H1 : Heap) (locs1 : List Loc), t.heap = H1 → s.vm.Alike t.vm → post u → B u t → H.size ≤ H1.size → (∀ q : Nat, q < H.size → ¬ A1 q → H1[q]? = H[q]?) → va_S A0 H0 H1 locs1 → W p l e R s m args below meth c H1 locs1 (cells + mc) (slots + ms) Q (F0 m (pc + 3) ls (rest))) : W p l e R s m args below meth c H locs cells slots Q (F0 m pc ls st0) := by
  intro T hT X
  rcases hr T hT X with ⟨v, st₀, t, T', L, h0, X', hL, e1, e2, ⟨⟨u, hv, hp, hb⟩, hF⟩, st⟩ | ⟨q, st₀, t, T', L, E, ce, h0, X', hL, e1, e2, ⟨u, hp, hb, hF⟩, hce, hcv, hcl, st⟩
  · cases hv
    obtain ⟨k1, k2, k3⟩ := vx_keep h0 e1 hS hA hf hL hF
    obtain ⟨t2, a1, b1⟩ := kk u t T'.heap (locs ++ L) e1.symm (by rw [← e2]; exact X'.warmed.alike) hp hb k1 k2 k3 T' rfl X'
    exact ⟨t2, st t2 a1, b1⟩
  · obtain ⟨k1, k2, k3⟩ := vx_keep h0 e1 hS hAX hf hL hF
    obtain ⟨t2, a1, b1⟩ := kx E ce q u t T'.heap (locs ++ L) e1.symm (by rw [← e2]; exact X'.warmed.alike) hp hb k1 k2 k3 (by rw [e1]; exact hce) hcv hcl T' rfl X'
    exact ⟨t2, st.trans a1, b1⟩
/-- caught by the row x of this method's table; the rows ahead don't take it -/
theorem vx_catch {own name : String} {E : String} {ce : Cell} {q : Addr} (hown : s.vm.findClass own = some m.cls) (pre : List ExceptionTableEntry) (x : ExceptionTableEntry) (suf : List ExceptionTableEntry) (hsplit : c.exceptionTable.toList = pre ++ x :: suf)
    (hpass : ∀ z ∈ pre, covers z pc = false ∨ (z.catchType ≠ 0 ∧ ∃ nm : String, (Cond.classLink own z.catchType nm).before args s = true ∧ va_Nc E nm s)) (hx : covers x pc = true) (h0 : x.catchType ≠ 0)
    (hlink : (Cond.classLink own x.catchType name).before args s = true) (hcast : (Cond.castable E name).before args s = true) (hcell : H[q]? = some ce) (hv : ce.vm = .none) (hcl : s.vm.findClass E = some ce.cls)
    (kk : W p l e R s m args below meth c H locs cells slots Q (F0 m x.handlerPc ls [.ref q])) : vx_W p l e R s m args below meth c H locs cells slots Q (F0 m pc ls rest) q := by
  intro T hT X
  have hpl : e.platform.magicAccessors = ({} : Platform).magicAccessors := by rw [X.admits.platform]
  obtain ⟨c3, c4, hc3, hc4, hasg⟩ := Cond.castable_spec hcast
  cases Option.some.inj (hc3.symm.trans hcl)
  obtain ⟨c5, hc5, hcl5⟩ := Cond.classLink_spec hown hlink e.platform hpl
  cases Option.some.inj (hc4.symm.trans hc5)
  obtain ⟨vm', X', st⟩ := X.thenCaughtThrough q (g := F0 m pc ls rest) rfl (Steps.refl _) (by rw [hT]; exact hcell) (by rw [hv]; rfl) (by obtain ⟨k9, h9, -⟩ := Vm.findClass_spec hcl; exact ⟨k9, h9⟩) pre x suf hsplit
    (fun z hz => by
      rcases hpass z hz with h | ⟨hz0, nm, hl1, hn1⟩
      · exact Or.inl h
      · obtain ⟨c6, hc6, hcl6⟩ := Cond.classLink_spec hown hl1 e.platform hpl
        obtain ⟨a8, b8, h1, h2, h3⟩ := hn1
        cases Option.some.inj (h1.symm.trans hcl)
        cases Option.some.inj (h2.symm.trans hc6)
        exact Or.inr ⟨hz0, _, hcl6, h3⟩) hx (Or.inr ⟨h0, c4, hcl5, hasg⟩)
  obtain ⟨t, a1, b1⟩ := kk (T.setVm vm') hT X'
  exact ⟨t, st.trans a1, b1⟩
end Rows
section Ends
variable {p : Program} {l : Launch} {e : Env} {R : Room} {s : State} {m : MethodId} {args : Array Value} {below : List Frame} {meth : Method} {c : Code} {H : Heap} {locs : List Loc} {cells slots : Nat} {Q : State → Prop}
variable {mc ms : Nat} {free : Addr → Prop} {A0 A1 : Nat → Prop} {H0 : Heap} {a : Array Value} {ls : Array Slot} {st0 rest : List Value}
variable {Qc : Array Value → State → Outcome → State → Prop} {XC : String → State → State → Prop}
/-- what a body that may throw owes at its end -/
def vx_MQ (below : List Frame) (Qc : Array Value → State → Outcome → State → Prop) (XC : String → State → State → Prop) (a : Array Value) (s : State) (mc ms : Nat) (free : Addr → Prop) : State → Prop := fun t =>
  ∃ o, t.status = .running ∧ Ended t below o ∧ vx_Q Qc XC mc ms free a s o t
theorem vx_ret {g : JFrame} {mc ms : Nat} (k : W p l e R s m args below meth c H locs cells slots (MQ below Qc args s mc ms free) g) : W p l e R s m args below meth c H locs cells slots (vx_MQ below Qc XC args s mc ms free) g := by
  intro T hT X
  obtain ⟨t, a1, o, b1, b2, b3, b4⟩ := k T hT X
  exact ⟨t, a1, o, b1, b2, Or.inl ⟨b3, b4⟩⟩
/-- not caught here: it goes on to the caller -/
theorem vx_widen {g : JFrame} {q : Addr} {k n : Nat} (h1 : cells ≤ k) (h2 : slots ≤ n) (kk : vx_W p l e R s m args below meth c H locs k n Q g q) : vx_W p l e R s m args below meth c H locs cells slots Q g q := fun T hT X => kk T hT (stand_widen X h1 h2)
theorem vx_out {pc : Nat} {E : String} {ce : Cell} {q : Addr} {mc ms : Nat} (hout : ∀ x ∈ c.exceptionTable.toList, covers x pc = false) (hlocks : meth.locks = false) (hcell : H[q]? = some ce) (hv : ce.vm = .none) (hcl : s.vm.findClass E = some ce.cls)
    (hx : ∀ t : State, t.heap = H → s.vm.Alike t.vm → XC E s t) (hf : ∀ z ∈ locs, free z.base) (hc : cells ≤ mc) (hs : slots ≤ ms) :
    vx_W p l e R s m args below meth c H locs cells slots (vx_MQ below Qc XC args s mc ms free) (F0 m pc ls rest) q := by
  intro T hT X
  obtain ⟨st1, hrun, hend, hW, hsm⟩ := X.leaveThrown q (g := F0 m pc ls rest) rfl rfl rfl hout hlocks
  have hcell9 : (T.setFrames (.throwing q :: below)).heap[q]? = some ce := by
    show T.heap[q]? = some ce
    rw [hT]; exact hcell
  exact ⟨_, st1, .threw q, hrun, hend, Or.inr ⟨q, rfl, E, ce, locs, hx _ hT hW.alike, hcell9, hv, hcl, hW, hsm.mono hc hs, hf⟩⟩
theorem vx_frame {U : State} {k n : Nat} (h : s.sameButNew ({ U with vm := s.vm } : State) locs k n) : s.heap.size ≤ U.heap.size ∧ ∀ q : Nat, q < s.heap.size → (∀ z ∈ locs, z.base ≠ q) → U.heap[q]? = s.heap[q]? := by
  obtain ⟨-, h2, -, -, -, h6⟩ := h
  refine ⟨h2, fun q hq hz => ?_⟩
  obtain ⟨c9, e1, e2, e3, e4⟩ := h6 q _ (Array.getElem?_eq_getElem hq)
  have hs : c9.slots = (s.heap[q]).slots := Array.ext_getElem? fun i => e4 i fun hm => hz _ hm rfl
  have h9 : c9 = s.heap[q] := by
    rw [hs] at e2
    exact e2
  have e5 : U.heap[q]? = some c9 := e1
  rw [e5, h9, Array.getElem?_eq_getElem hq]
/-- the words of a throw but the four that speak of the heap -/
def vx_no (w : Cond) : Bool := decide (w ≠ .isRef (.static Bundle.tN "UNASSIGNED_STACK" Bundle.steD)) && decide (w ≠ .isRef (.static Bundle.tN "SUPPRESSED_SENTINEL" Bundle.listD)) && decide (w ≠ .laysStatic Bundle.tN "UNASSIGNED_STACK" Bundle.steD) && decide (w ≠ .laysStatic Bundle.tN "SUPPRESSED_SENTINEL" Bundle.listD)
def vx_at0 (own : String) (ic : Nat) (X : String) (names : List String) : List Cond := (Bundle.ownAtoms0 own ic X names).filter vx_no
def vx_atS (own : String) (ic : Nat) (X : String) (names : List String) : List Cond := (Bundle.ownAtoms own ic X names).filter vx_no
/-- a word that the tables alone decide, or a good one -/
def vx_ot (w : Cond) : Bool := w.onTables || goodWord w
theorem vx_ot_at {args a' : Array Value} {s U : State} {w : Cond} (hW : s.WarmedH U.vm) (hvm : s.vm = U.vm) (hg : vx_ot w = true) (h : w.before args s = true) : w.before a' U = true := by
  simp only [vx_ot, Bool.or_eq_true] at hg
  rcases hg with hg | hg
  · exact va_tabs hg hvm h
  · exact word_at hW (good_of_word hg) h
/-- a list's words: the good ones out of the method's own list, the others by premises of their own -/
theorem vx_hat {args : Array Value} {s : State} {L B : List Cond} (h1 : ∀ w ∈ L.filter goodWord, w.before args s = true) (h2 : ∀ w ∈ L.filter (fun w => !goodWord w), w ∈ B) (h3 : ∀ w ∈ B, w.before args s = true) : ∀ w ∈ L, w.before args s = true := by
  intro w hw
  by_cases g : goodWord w = true
  · exact h1 w (List.mem_filter.mpr ⟨hw, g⟩)
  · refine h3 w (h2 w (List.mem_filter.mpr ⟨hw, ?_⟩))
    show (!goodWord w) = true
    cases hgw : goodWord w
    · rfl
    · exact absurd hgw g
theorem vx_c {args : Array Value} {s : State} {w : Cond} {B : List Cond} (h : w.before args s = true) (t : ∀ w ∈ B, w.before args s = true) : ∀ w' ∈ w :: B, w'.before args s = true := fun w' h' => (List.mem_cons.mp h').elim (fun e => by rw [e]; exact h) (t w')
theorem vx_n {args : Array Value} {s : State} : ∀ w ∈ ([] : List Cond), w.before args s = true := fun _ h => nomatch h
theorem vx_own {args : Array Value} {s : State} {L : List Cond} (h1 : ∀ w ∈ L.filter vx_no, w.before args s = true)
    (hU : (Cond.isRef (.static Bundle.tN "UNASSIGNED_STACK" Bundle.steD)).before args s = true) (hN : (Cond.isRef (.static Bundle.tN "SUPPRESSED_SENTINEL" Bundle.listD)).before args s = true)
    (lU : (Cond.laysStatic Bundle.tN "UNASSIGNED_STACK" Bundle.steD).before args s = true) (lN : (Cond.laysStatic Bundle.tN "SUPPRESSED_SENTINEL" Bundle.listD).before args s = true) : ∀ w ∈ L, w.before args s = true := by
  intro w hw
  by_cases e1 : w = .isRef (.static Bundle.tN "UNASSIGNED_STACK" Bundle.steD)
  · rw [e1]; exact hU
  · by_cases e2 : w = .isRef (.static Bundle.tN "SUPPRESSED_SENTINEL" Bundle.listD)
    · rw [e2]; exact hN
    · by_cases e3 : w = .laysStatic Bundle.tN "UNASSIGNED_STACK" Bundle.steD
      · rw [e3]; exact lU
      · by_cases e4 : w = .laysStatic Bundle.tN "SUPPRESSED_SENTINEL" Bundle.listD
        · rw [e4]; exact lN
        · exact h1 w (List.mem_filter.mpr ⟨hw, by unfold vx_no; rw [decide_eq_true e1, decide_eq_true e2, decide_eq_true e3, decide_eq_true e4]; rfl⟩)
/-- where a static field lies, its class's statics cell in H -/
def vx_L (C n d : String) (A : Nat → Prop) (U : State) (H : Heap) : Prop := ∃ (c : ClassId) (k : Class) (i : Nat) (f : Field) (a : Nat) (cell : Cell), U.vm.findClass C = some c ∧ U.fieldFound? C n d = some (c, k, i, f) ∧ f.isStatic = true ∧ k.statics = some a ∧ H[a]? = some cell ∧ cell.vm.isStatics = true ∧ cell.cls = c ∧ f.slot < cell.slots.size ∧ k.staticTypes[f.slot]? = some f.type ∧ ¬ A a
theorem vx_L.moved {C n d : String} {A : Nat → Prop} {u U : State} {H : Heap} (hvm : u.vm.Alike U.vm) (h : vx_L C n d A u H) : vx_L C n d A U H := by
  obtain ⟨c, k, i, f, a, cell, h1, h2, h3, h4, h5, h6, h7, h8, h9, h10⟩ := h
  obtain ⟨k', hi', he⟩ := State.fieldFound?_setVm hvm h2
  exact ⟨c, k', i, f, a, cell, by rw [hvm.findClass]; exact h1, hi', h3, by rw [he]; exact h4, h5, h6, h7, h8, by rw [he]; exact h9, h10⟩
theorem vx_L.kept {C n d : String} {A : Nat → Prop} {U : State} {H H1 : Heap} (h : vx_L C n d A U H) (hq : ∀ a : Nat, a < H.size → ¬ A a → H1[a]? = H[a]?) : vx_L C n d A U H1 := by
  obtain ⟨c, k, i, f, a, cell, h1, h2, h3, h4, h5, h6, h7, h8, h9, h10⟩ := h
  exact ⟨c, k, i, f, a, cell, h1, h2, h3, h4, by rw [hq a (Array.getElem?_eq_some_iff.mp h5).1 h10]; exact h5, h6, h7, h8, h9, h10⟩
theorem vx_L.narrow {C n d : String} {A B : Nat → Prop} {U : State} {H : Heap} (h : vx_L C n d A U H) (hAB : ∀ q, B q → A q) : vx_L C n d B U H := by
  obtain ⟨c, k, i, f, a, cell, h1, h2, h3, h4, h5, h6, h7, h8, h9, h10⟩ := h
  exact ⟨c, k, i, f, a, cell, h1, h2, h3, h4, h5, h6, h7, h8, h9, fun z => h10 (hAB _ z)⟩
theorem vx_L.word {C n d : String} {A : Nat → Prop} {s : State} {args : Array Value} (h : vx_L C n d A s s.heap) : (Cond.laysStatic C n d).before args s = true := by
  obtain ⟨c, k, i, f, a, cell, h1, h2, h3, h4, h5, h6, h7, h8, h9, -⟩ := h
  show (Cond.laysStatic C n d).holds args s none s [] = true
  exact Cond.laysStatic_of h1 h2 h3 h4 h5 h6 h7 h8 h9
/-- .. and what it holds: null or some reference -/
def vx_Zq (C n d : String) (A : Nat → Prop) (U : State) (H : Heap) : Prop := va_Zq C n d A U H ∧ vx_L C n d A U H
theorem vx_Zq.moved {C n d : String} {A : Nat → Prop} {u U : State} {H : Heap} (hvm : u.vm.Alike U.vm) (h : vx_Zq C n d A u H) : vx_Zq C n d A U H := ⟨va_Zq.moved hvm h.1, vx_L.moved hvm h.2⟩
theorem vx_Zq.kept {C n d : String} {A : Nat → Prop} {U : State} {H H1 : Heap} (h : vx_Zq C n d A U H) (hq : ∀ a : Nat, a < H.size → ¬ A a → H1[a]? = H[a]?) : vx_Zq C n d A U H1 := ⟨va_Zq.kept h.1 hq, vx_L.kept h.2 hq⟩
theorem vx_Zq.narrow {C n d : String} {A B : Nat → Prop} {U : State} {H : Heap} (h : vx_Zq C n d A U H) (hAB : ∀ q, B q → A q) : vx_Zq C n d B U H := ⟨va_Zq.narrow h.1 hAB, vx_L.narrow h.2 hAB⟩
theorem vx_Zqof {args : Array Value} {s : State} {C n d : String} {A : Nat → Prop} (hl : (Cond.laysStatic C n d).before args s = true) (hini : (Cond.initialized C).before args s = true) (h : (Cond.isRef (.static C n d)).before args s = true) (hA : ∀ a : Nat, a < s.heap.size → ¬ A a) : vx_Zq C n d A s s.heap := by
  refine ⟨va_Zqof hl hini h hA, ?_⟩
  obtain ⟨c, k, i, f, a, cell, h1, h2, h3, h4, h5, h6, h7, h8, h9⟩ := Cond.laysStatic_spec hl
  exact ⟨c, k, i, f, a, cell, h1, h2, h3, h4, h5, h6, h7, h8, h9, hA a (Array.getElem?_eq_some_iff.mp h5).1⟩
theorem vx_isRef {C n d : String} {v : Value} {A : Nat → Prop} {s : State} {args : Array Value} (h : va_Z C n d v A s s.heap) (hv : v.isRef = true) : (Cond.isRef (.static C n d)).before args s = true := by
  obtain ⟨cf, kf, fi, f, a, cell, h1, h2, h3, h4, h5, h6, h7, -⟩ := h
  have he : (Term.static C n d).eval args s none [] s = some v := by
    simp [Term.eval, State.fieldNamed?, h1, h2, h4, h5, h6, h7]
  simp only [Cond.before, Cond.holds, Cond.value, he]
  cases v <;> simp_all [Value.isRef]
theorem vx_isRefq {C n d : String} {A : Nat → Prop} {s : State} {args : Array Value} (h : va_Zq C n d A s s.heap) : (Cond.isRef (.static C n d)).before args s = true := by
  rcases h with h | ⟨t, h⟩
  · exact vx_isRef h rfl
  · exact vx_isRef h rfl
/-- the same frame, seen from here: as if the method were called anew in this heap -/
theorem vx_rebase {T : State} (X : Stand p l e R s m args below meth c T locs cells slots) {R' : Room} (hf : R'.frames ≤ R.frames) (hl : R'.locals ≤ R.locals) (hc : cells + R'.cells ≤ R.cells) (hs : slots + R'.slots ≤ R.slots) :
    Stand p l e R' ((T.setVm s.vm).setFrames (.invoking m args :: below)) m args below meth c T [] 0 0 := by
  have htop : (T.setVm s.vm).topJava?.isSome := X.here.top
  have hF : ((T.setVm s.vm).setFrames (.invoking m args :: below)).frames = .invoking m args :: below := State.frames_setFrames _ (State.cur_lt_of_top htop)
  obtain ⟨g₀, hg0⟩ := Option.isSome_iff_exists.mp htop
  obtain ⟨r, hr⟩ := State.topJava?_eq_some.mp hg0
  have hl9 : e.platform.stackLimits (T.setVm s.vm).me = e.platform.stackLimits s.me := X.limits
  have hb9 : (T.setVm s.vm).me.stackBytes = s.me.stackBytes := X.bytes
  refine ⟨X.admits, X.cas, X.clock, hF, ?_, X.hears, X.method, X.code, X.here, X.tail, X.warmed, ?_, ?_, ?_⟩
  · have h := X.room
    have hU : ((T.setVm s.vm).setFrames (.invoking m args :: below)).localsInUse = s.localsInUse := by
      rw [State.localsInUse_invoking hF (meth := meth) (c := c) X.method X.code, State.localsInUse_invoking X.frames X.method X.code]
    simp only [State.hasRoom, Bool.and_eq_true, decide_eq_true_eq] at h ⊢
    obtain ⟨⟨⟨⟨h1, h2, h3, h4, h5, h6⟩, h7⟩, h8⟩, h9⟩ := h
    rw [X.frames, List.length_cons] at h2 h3
    have q1 := X.heapSize
    have q2 := X.used
    simp only [hF, hU, List.length_cons, State.stackLimits_setFrames, State.stackBytes_setFrames, hl9, hb9]
    refine ⟨⟨⟨⟨by omega, by omega, by omega, by omega, by omega, h6⟩, ?_⟩, ?_⟩, X.book⟩
    · show T.heap.size + R'.cells ≤ e.platform.maxCells
      omega
    · show T.slotsUsed + R'.slots ≤ e.platform.maxSlots
      omega
  · rw [State.stackLimits_setFrames]; rfl
  · rw [State.stackBytes_setFrames]; rfl
  · refine ⟨?_, Nat.le_refl _, Nat.le_refl _, ?_, ?_, fun a c9 h9 => ⟨c9, h9, rfl, rfl, fun _ _ => rfl⟩⟩
    · obtain ⟨t, ht, -⟩ := State.frames_cons hr
      show T.setVm s.vm = { ((T.setVm s.vm).setFrames (.invoking m args :: below)).setFrames (T.setVm s.vm).frames with heap := T.heap, slotsUsed := T.slotsUsed }
      rw [State.setFrames_setFrames, State.setFrames_self ht]
      rfl
    · show T.slotsUsed = T.slotsUsed + ((T.heap.toList.drop T.heap.size).map (·.slots.size)).sum
      rw [List.drop_eq_nil_of_le (Nat.le_of_eq Array.length_toList)]
      rfl
    · show ((T.heap.toList.drop T.heap.size).map (·.slots.size)).sum ≤ 0
      rw [List.drop_eq_nil_of_le (Nat.le_of_eq Array.length_toList)]
      exact Nat.le_refl _
/-- 'throw new E()': new; dup; invokespecial; athrow -/
theorem vx_throw0 {cc : ByteArray} {pc : Nat} (hexec : p.tables.exec = Jvm.exec) (hb : c.code = cc) (hl : l.stackTraces = false) {own cls : String} {names : List String} {ik ic mc ms : Nat} {A : Nat → Prop}
    (hown : s.vm.findClass own = some m.cls) (hcls : Bundle.fit cls = true) (hnames : ∀ n ∈ names, Bundle.fit n = true)
    (hk : (Cond.classLink own ik cls).before args s = true) (hini : (Cond.initialized cls).before args s = true) (hat : ∀ w ∈ vx_at0 own ic cls names, w.before args s = true)
    (hgood : ∀ w ∈ Cond.classLink own ik cls :: Cond.initialized cls :: vx_at0 own ic cls names, vx_ot w = true)
    (hU : vx_Zq Bundle.tN "UNASSIGNED_STACK" Bundle.steD A s s.heap) (hN : vx_Zq Bundle.tN "SUPPRESSED_SENTINEL" Bundle.listD A s s.heap) (hS : va_S A s.heap H locs) (hsize : ls.size = c.maxLocals)
    (d0 : decode cc pc = .ok (.new ik, 3)) (d3 : decode cc (pc + 3) = .ok (.dup, 1)) (d4 : decode cc (pc + 4) = .ok (.invokespecial ic, 3)) (d7 : decode cc (pc + 7) = .ok (.athrow, 1))
    (hout : ∀ x ∈ c.exceptionTable.toList, covers x (pc + 7) = false)
    (hRframes : names.length + 3 < R.frames) (hRlocals : (rest.map fun v => v.category).sum + (13 * (names.length + 1) + 42) ≤ R.locals) (hRcells : cells + 1 ≤ R.cells) (hRslots : slots + 6 ≤ R.slots) (hlocks : meth.locks = false)
    (hx : ∀ t : State, s.vm.Alike t.vm → H.size ≤ t.heap.size → (∀ q : Nat, q < H.size → t.heap[q]? = H[q]?) → XC cls s t)
    (hf : ∀ z ∈ locs, free z.base) (hc : cells + 1 ≤ mc) (hs : slots + 6 ≤ ms) :
    W p l e R s m args below meth c H locs cells slots (vx_MQ below Qc XC args s mc ms free) (F0 m pc ls rest) := by
  intro T hT X
  have htr : e.platform.stackTraces = false := (show e.platform.stackTraces = l.stackTraces by rw [X.admits.platform]).trans hl
  have Y := vx_rebase X (R' := { frames := R.frames, locals := R.locals, cells := 1, slots := 6 }) (Nat.le_refl _) (Nat.le_refl _) hRcells hRslots
  obtain ⟨s', hA⟩ : ∃ z, z = (T.setVm s.vm).setFrames (.invoking m args :: below) := ⟨_, rfl⟩
  rw [← hA] at Y
  have hvm : s'.vm = s.vm := by rw [hA]; rfl
  have hhp : s'.heap = H := by rw [hA]; exact hT
  have hW0 : s.WarmedH s'.vm := by rw [hvm]; exact State.WarmedH.refl s
  have hat' : ∀ w ∈ vx_at0 own ic cls names, w.before args s' = true := fun w hw => vx_ot_at hW0 hvm.symm (hgood w (List.mem_cons_of_mem _ (List.mem_cons_of_mem _ hw))) (hat w hw)
  have hk' : (Cond.classLink own ik cls).before args s' = true := vx_ot_at hW0 hvm.symm (hgood _ List.mem_cons_self) hk
  have hini' : (Cond.initialized cls).before args s' = true := vx_ot_at hW0 hvm.symm (hgood _ (List.mem_cons_of_mem _ List.mem_cons_self)) hini
  have hU' : vx_Zq Bundle.tN "UNASSIGNED_STACK" Bundle.steD A s' s'.heap := by rw [hhp]; exact vx_Zq.moved hW0.alike (hU.kept hS.2.1)
  have hN' : vx_Zq Bundle.tN "SUPPRESSED_SENTINEL" Bundle.listD A s' s'.heap := by rw [hhp]; exact vx_Zq.moved hW0.alike (hN.kept hS.2.1)
  have h : ∀ w ∈ Bundle.ownAtoms0 own ic cls names, w.before args s' = true := vx_own hat' (vx_isRefq hU'.1) (vx_isRefq hN'.1) hU'.2.word hN'.2.word
  have hown' : s'.vm.findClass own = some m.cls := by rw [hvm]; exact hown
  have hins : (Cond.instantiable cls 6).before args s' = true := h _ (by simp [Bundle.ownAtoms0])
  obtain ⟨vm₁, cX, kX, hfX, hkX, -, -, X₁, st1⟩ := Y.newCold hexec (own := own) (C := cls) (index := ik) (n := 6) hown' hk' hins hini'
    (g := F0 m pc ls rest) rfl (by rw [hb]; exact d0) (Nat.le_refl _) (Nat.le_refl _)
  generalize hT1 : (T.setVm vm₁).pushCell { cls := cX, slots := kX.instanceTypes.map defaultValue, vm := .none } = T1 at X₁ st1
  have hcat : (Value.ref T.heap.size).category = 1 := rfl
  have hcellA : T1.heap[T.heap.size]? = some (freshCell cX kX) := by rw [← hT1]; exact State.heap_pushCell_size _ _
  have d3' : decode c.code (pc + 3) = .ok (.dup, 1) := by rw [hb]; exact d3
  obtain ⟨U, hsteps, hrun, hend, hW, hsame, ce, hce, hO⟩ := X₁.ctorThrow0 hexec htr (own := own) (cls := cls) (names := names) (ic := ic) hown' hcls hnames h (fun x hx => nomatch hx) hfX hkX hcellA (by rw [hhp, hT]; exact Nat.le_refl _)
    (g := { method := m, pc := pc + 4, locals := ls, stack := .ref T.heap.size :: .ref T.heap.size :: rest, locked := none }) rfl hsize rfl rfl (rest := rest) rfl
    (by rw [hb]; exact d4) (by rw [hb]; exact d7) hout hRframes (by simp only [List.map_cons, List.sum_cons, hcat]; omega) hlocks
  obtain ⟨f1, f2⟩ := vx_frame hsame
  rw [hhp] at f1 f2
  have hWs : s.WarmedH U.vm := State.WarmedH.trans hW0 hW
  have hcl : s.vm.findClass cls = some ce.cls := by
    have h9 := hO.cls
    rw [hvm] at h9
    exact h9
  have hall : s.sameButNew ({ U with vm := s.vm } : State) locs mc ms := by
    subst hA
    obtain ⟨e1, e2⟩ := hsame
    rw [State.setFrames_setFrames] at e1
    have h2 : (T.setVm s.vm).sameButNew ({ U with vm := s.vm } : State) [] (0 + 1) (0 + 6) := ⟨e1, e2⟩
    have h3 := X.same.trans h2
    rw [List.append_nil] at h3
    exact h3.mono hc hs
  refine ⟨U, ?_, .threw T.heap.size, hrun, hend, Or.inr ⟨T.heap.size, rfl, cls, ce, locs, hx U hWs.alike f1 (fun q hq => f2 q hq (fun z hz => nomatch hz)), hce, hO.vm, hcl, hWs, hall, hf⟩⟩
  refine st1 _ ?_
  show Steps p.tables e below (T1.setTop { method := m, pc := pc + 3, locals := ls, stack := .ref T.heap.size :: rest, locked := none }) _
  jvm_step X₁.here [X₁.here.top, hexec, d3', Value.category]
  exact hsteps
/-- 'throw new E("text")': new; dup; ldc; invokespecial; athrow -/
theorem vx_throwS {cc : ByteArray} {pc : Nat} (hexec : p.tables.exec = Jvm.exec) (hb : c.code = cc) (hl : l.stackTraces = false) {own cls text : String} {names : List String} {ik is ic mc ms sa : Nat} {A : Nat → Prop}
    (hown : s.vm.findClass own = some m.cls) (hcls : Bundle.fit cls = true) (hnames : ∀ n ∈ names, Bundle.fit n = true)
    (hk : (Cond.classLink own ik cls).before args s = true) (hini : (Cond.initialized cls).before args s = true) (hstr : vk_R own is text sa s) (hat : ∀ w ∈ vx_atS own ic cls names, w.before args s = true)
    (hgood : ∀ w ∈ Cond.classLink own ik cls :: Cond.initialized cls :: vx_atS own ic cls names, vx_ot w = true)
    (hU : vx_Zq Bundle.tN "UNASSIGNED_STACK" Bundle.steD A s s.heap) (hN : vx_Zq Bundle.tN "SUPPRESSED_SENTINEL" Bundle.listD A s s.heap) (hS : va_S A s.heap H locs) (hsize : ls.size = c.maxLocals)
    (d0 : decode cc pc = .ok (.new ik, 3)) (d3 : decode cc (pc + 3) = .ok (.dup, 1)) (d4 : decode cc (pc + 4) = .ok (.ldc is, 2)) (d6 : decode cc (pc + 6) = .ok (.invokespecial ic, 3)) (d9 : decode cc (pc + 9) = .ok (.athrow, 1))
    (hout : ∀ x ∈ c.exceptionTable.toList, covers x (pc + 9) = false)
    (hRframes : names.length + 3 < R.frames) (hRlocals : (rest.map fun v => v.category).sum + (13 * (names.length + 1) + 43) ≤ R.locals) (hRcells : cells + 1 ≤ R.cells) (hRslots : slots + 6 ≤ R.slots) (hlocks : meth.locks = false)
    (hx : ∀ t : State, s.vm.Alike t.vm → H.size ≤ t.heap.size → (∀ q : Nat, q < H.size → t.heap[q]? = H[q]?) → XC cls s t)
    (hf : ∀ z ∈ locs, free z.base) (hc : cells + 1 ≤ mc) (hs : slots + 6 ≤ ms) :
    W p l e R s m args below meth c H locs cells slots (vx_MQ below Qc XC args s mc ms free) (F0 m pc ls rest) := by
  intro T hT X
  have htr : e.platform.stackTraces = false := (show e.platform.stackTraces = l.stackTraces by rw [X.admits.platform]).trans hl
  have Y := vx_rebase X (R' := { frames := R.frames, locals := R.locals, cells := 1, slots := 6 }) (Nat.le_refl _) (Nat.le_refl _) hRcells hRslots
  obtain ⟨s', hA⟩ : ∃ z, z = (T.setVm s.vm).setFrames (.invoking m args :: below) := ⟨_, rfl⟩
  rw [← hA] at Y
  have hvm : s'.vm = s.vm := by rw [hA]; rfl
  have hhp : s'.heap = H := by rw [hA]; exact hT
  have hW0 : s.WarmedH s'.vm := by rw [hvm]; exact State.WarmedH.refl s
  have hat' : ∀ w ∈ vx_atS own ic cls names, w.before args s' = true := fun w hw => vx_ot_at hW0 hvm.symm (hgood w (List.mem_cons_of_mem _ (List.mem_cons_of_mem _ hw))) (hat w hw)
  have hk' : (Cond.classLink own ik cls).before args s' = true := vx_ot_at hW0 hvm.symm (hgood _ List.mem_cons_self) hk
  have hini' : (Cond.initialized cls).before args s' = true := vx_ot_at hW0 hvm.symm (hgood _ (List.mem_cons_of_mem _ List.mem_cons_self)) hini
  have hU' : vx_Zq Bundle.tN "UNASSIGNED_STACK" Bundle.steD A s' s'.heap := by rw [hhp]; exact vx_Zq.moved hW0.alike (hU.kept hS.2.1)
  have hN' : vx_Zq Bundle.tN "SUPPRESSED_SENTINEL" Bundle.listD A s' s'.heap := by rw [hhp]; exact vx_Zq.moved hW0.alike (hN.kept hS.2.1)
  have h : ∀ w ∈ Bundle.ownAtoms own ic cls names, w.before args s' = true := vx_own hat' (vx_isRefq hU'.1) (vx_isRefq hN'.1) hU'.2.word hN'.2.word
  have hown' : s'.vm.findClass own = some m.cls := by rw [hvm]; exact hown
  have hins : (Cond.instantiable cls 6).before args s' = true := h _ (by simp [Bundle.ownAtoms])
  obtain ⟨vm₁, cX, kX, hfX, hkX, -, -, X₁, st1⟩ := Y.newCold hexec (own := own) (C := cls) (index := ik) (n := 6) hown' hk' hins hini'
    (g := F0 m pc ls rest) rfl (by rw [hb]; exact d0) (Nat.le_refl _) (Nat.le_refl _)
  generalize hT1 : (T.setVm vm₁).pushCell { cls := cX, slots := kX.instanceTypes.map defaultValue, vm := .none } = T1 at X₁ st1
  have hcat : (Value.ref T.heap.size).category = 1 := rfl
  have hcellA : T1.heap[T.heap.size]? = some (freshCell cX kX) := by rw [← hT1]; exact State.heap_pushCell_size _ _
  have d3' : decode c.code (pc + 3) = .ok (.dup, 1) := by rw [hb]; exact d3
  have d4' : decode c.code (pc + 4) = .ok (.ldc is, 2) := by rw [hb]; exact d4
  have hstr' : vk_R own is text sa s' := vk_R.warm hW0 hstr
  obtain ⟨U, hsteps, hrun, hend, hW, hsame, ce, hce, hO⟩ := X₁.ctorThrowS hexec htr (own := own) (cls := cls) (names := names) (ic := ic) hown' hcls hnames h (fun x hx => nomatch hx) hfX hkX hcellA (by rw [hhp, hT]; exact Nat.le_refl _) (msg := .ref sa) rfl
    (g := { method := m, pc := pc + 6, locals := ls, stack := .ref sa :: .ref T.heap.size :: .ref T.heap.size :: rest, locked := none }) rfl hsize rfl rfl (rest := rest) rfl
    (by rw [hb]; exact d6) (by rw [hb]; exact d9) hout hRframes (by simp only [List.map_cons, List.sum_cons, hcat]; omega) hlocks
  obtain ⟨f1, f2⟩ := vx_frame hsame
  rw [hhp] at f1 f2
  have hWs : s.WarmedH U.vm := State.WarmedH.trans hW0 hW
  have hcl : s.vm.findClass cls = some ce.cls := by
    have h9 := hO.cls
    rw [hvm] at h9
    exact h9
  have hall : s.sameButNew ({ U with vm := s.vm } : State) locs mc ms := by
    subst hA
    obtain ⟨e1, e2⟩ := hsame
    rw [State.setFrames_setFrames] at e1
    have h2 : (T.setVm s.vm).sameButNew ({ U with vm := s.vm } : State) [] (0 + 1) (0 + 6) := ⟨e1, e2⟩
    have h3 := X.same.trans h2
    rw [List.append_nil] at h3
    exact h3.mono hc hs
  refine ⟨U, ?_, .threw T.heap.size, hrun, hend, Or.inr ⟨T.heap.size, rfl, cls, ce, locs, hx U hWs.alike f1 (fun q hq => f2 q hq (fun z hz => nomatch hz)), hce, hO.vm, hcl, hWs, hall, hf⟩⟩
  refine st1 _ ?_
  show Steps p.tables e below (T1.setTop { method := m, pc := pc + 3, locals := ls, stack := .ref T.heap.size :: rest, locked := none }) _
  jvm_step X₁.here [X₁.here.top, hexec, d3', Value.category]
  exact X₁.ldcString hexec (own := own) (text := text) (index := is) (a := sa) hown' hstr'.1 hstr'.2
    (g := { method := m, pc := pc + 4, locals := ls, stack := .ref T.heap.size :: .ref T.heap.size :: rest, locked := none }) rfl d4' _ hsteps
/-- 'throw new E("text")', the text by a wide index -/
theorem vx_throwSW {cc : ByteArray} {pc : Nat} (hexec : p.tables.exec = Jvm.exec) (hb : c.code = cc) (hl : l.stackTraces = false) {own cls text : String} {names : List String} {ik is ic mc ms sa : Nat} {A : Nat → Prop}
    (hown : s.vm.findClass own = some m.cls) (hcls : Bundle.fit cls = true) (hnames : ∀ n ∈ names, Bundle.fit n = true)
    (hk : (Cond.classLink own ik cls).before args s = true) (hini : (Cond.initialized cls).before args s = true) (hstr : vk_R own is text sa s) (hat : ∀ w ∈ vx_atS own ic cls names, w.before args s = true)
    (hgood : ∀ w ∈ Cond.classLink own ik cls :: Cond.initialized cls :: vx_atS own ic cls names, vx_ot w = true)
    (hU : vx_Zq Bundle.tN "UNASSIGNED_STACK" Bundle.steD A s s.heap) (hN : vx_Zq Bundle.tN "SUPPRESSED_SENTINEL" Bundle.listD A s s.heap) (hS : va_S A s.heap H locs) (hsize : ls.size = c.maxLocals)
    (d0 : decode cc pc = .ok (.new ik, 3)) (d3 : decode cc (pc + 3) = .ok (.dup, 1)) (d4 : decode cc (pc + 4) = .ok (.ldc_w is, 3)) (d7 : decode cc (pc + 7) = .ok (.invokespecial ic, 3)) (d10 : decode cc (pc + 10) = .ok (.athrow, 1))
    (hout : ∀ x ∈ c.exceptionTable.toList, covers x (pc + 10) = false)
    (hRframes : names.length + 3 < R.frames) (hRlocals : (rest.map fun v => v.category).sum + (13 * (names.length + 1) + 43) ≤ R.locals) (hRcells : cells + 1 ≤ R.cells) (hRslots : slots + 6 ≤ R.slots) (hlocks : meth.locks = false)
    (hx : ∀ t : State, s.vm.Alike t.vm → H.size ≤ t.heap.size → (∀ q : Nat, q < H.size → t.heap[q]? = H[q]?) → XC cls s t)
    (hf : ∀ z ∈ locs, free z.base) (hc : cells + 1 ≤ mc) (hs : slots + 6 ≤ ms) :
    W p l e R s m args below meth c H locs cells slots (vx_MQ below Qc XC args s mc ms free) (F0 m pc ls rest) := by
  intro T hT X
  have htr : e.platform.stackTraces = false := (show e.platform.stackTraces = l.stackTraces by rw [X.admits.platform]).trans hl
  have Y := vx_rebase X (R' := { frames := R.frames, locals := R.locals, cells := 1, slots := 6 }) (Nat.le_refl _) (Nat.le_refl _) hRcells hRslots
  obtain ⟨s', hA⟩ : ∃ z, z = (T.setVm s.vm).setFrames (.invoking m args :: below) := ⟨_, rfl⟩
  rw [← hA] at Y
  have hvm : s'.vm = s.vm := by rw [hA]; rfl
  have hhp : s'.heap = H := by rw [hA]; exact hT
  have hW0 : s.WarmedH s'.vm := by rw [hvm]; exact State.WarmedH.refl s
  have hat' : ∀ w ∈ vx_atS own ic cls names, w.before args s' = true := fun w hw => vx_ot_at hW0 hvm.symm (hgood w (List.mem_cons_of_mem _ (List.mem_cons_of_mem _ hw))) (hat w hw)
  have hk' : (Cond.classLink own ik cls).before args s' = true := vx_ot_at hW0 hvm.symm (hgood _ List.mem_cons_self) hk
  have hini' : (Cond.initialized cls).before args s' = true := vx_ot_at hW0 hvm.symm (hgood _ (List.mem_cons_of_mem _ List.mem_cons_self)) hini
  have hU' : vx_Zq Bundle.tN "UNASSIGNED_STACK" Bundle.steD A s' s'.heap := by rw [hhp]; exact vx_Zq.moved hW0.alike (hU.kept hS.2.1)
  have hN' : vx_Zq Bundle.tN "SUPPRESSED_SENTINEL" Bundle.listD A s' s'.heap := by rw [hhp]; exact vx_Zq.moved hW0.alike (hN.kept hS.2.1)
  have h : ∀ w ∈ Bundle.ownAtoms own ic cls names, w.before args s' = true := vx_own hat' (vx_isRefq hU'.1) (vx_isRefq hN'.1) hU'.2.word hN'.2.word
  have hown' : s'.vm.findClass own = some m.cls := by rw [hvm]; exact hown
  have hins : (Cond.instantiable cls 6).before args s' = true := h _ (by simp [Bundle.ownAtoms])
  obtain ⟨vm₁, cX, kX, hfX, hkX, -, -, X₁, st1⟩ := Y.newCold hexec (own := own) (C := cls) (index := ik) (n := 6) hown' hk' hins hini'
    (g := F0 m pc ls rest) rfl (by rw [hb]; exact d0) (Nat.le_refl _) (Nat.le_refl _)
  generalize hT1 : (T.setVm vm₁).pushCell { cls := cX, slots := kX.instanceTypes.map defaultValue, vm := .none } = T1 at X₁ st1
  have hcat : (Value.ref T.heap.size).category = 1 := rfl
  have hcellA : T1.heap[T.heap.size]? = some (freshCell cX kX) := by rw [← hT1]; exact State.heap_pushCell_size _ _
  have d3' : decode c.code (pc + 3) = .ok (.dup, 1) := by rw [hb]; exact d3
  have d4' : decode c.code (pc + 4) = .ok (.ldc_w is, 3) := by rw [hb]; exact d4
  have hstr' : vk_R own is text sa s' := vk_R.warm hW0 hstr
  obtain ⟨U, hsteps, hrun, hend, hW, hsame, ce, hce, hO⟩ := X₁.ctorThrowS hexec htr (own := own) (cls := cls) (names := names) (ic := ic) hown' hcls hnames h (fun x hx => nomatch hx) hfX hkX hcellA (by rw [hhp, hT]; exact Nat.le_refl _) (msg := .ref sa) rfl
    (g := { method := m, pc := pc + 7, locals := ls, stack := .ref sa :: .ref T.heap.size :: .ref T.heap.size :: rest, locked := none }) rfl hsize rfl rfl (rest := rest) rfl
    (by rw [hb]; exact d7) (by rw [hb]; exact d10) hout hRframes (by simp only [List.map_cons, List.sum_cons, hcat]; omega) hlocks
  obtain ⟨f1, f2⟩ := vx_frame hsame
  rw [hhp] at f1 f2
  have hWs : s.WarmedH U.vm := State.WarmedH.trans hW0 hW
  have hcl : s.vm.findClass cls = some ce.cls := by
    have h9 := hO.cls
    rw [hvm] at h9
    exact h9
  have hall : s.sameButNew ({ U with vm := s.vm } : State) locs mc ms := by
    subst hA
    obtain ⟨e1, e2⟩ := hsame
    rw [State.setFrames_setFrames] at e1
    have h2 : (T.setVm s.vm).sameButNew ({ U with vm := s.vm } : State) [] (0 + 1) (0 + 6) := ⟨e1, e2⟩
    have h3 := X.same.trans h2
    rw [List.append_nil] at h3
    exact h3.mono hc hs
  refine ⟨U, ?_, .threw T.heap.size, hrun, hend, Or.inr ⟨T.heap.size, rfl, cls, ce, locs, hx U hWs.alike f1 (fun q hq => f2 q hq (fun z hz => nomatch hz)), hce, hO.vm, hcl, hWs, hall, hf⟩⟩
  refine st1 _ ?_
  show Steps p.tables e below (T1.setTop { method := m, pc := pc + 3, locals := ls, stack := .ref T.heap.size :: rest, locked := none }) _
  jvm_step X₁.here [X₁.here.top, hexec, d3', Value.category]
  exact X₁.ldcStringW hexec (own := own) (text := text) (index := is) (a := sa) hown' hstr'.1 hstr'.2
    (g := { method := m, pc := pc + 4, locals := ls, stack := .ref T.heap.size :: .ref T.heap.size :: rest, locked := none }) rfl d4' _ hsteps
end Ends
section Bodies
variable {l : Launch}
theorem vx_ofW {y : MethodName} {ws ws' : List Cond} {rm : Room} {Pc : Array Value → State → Prop} {Qc : Array Value → State → Outcome → State → Prop} {XC : String → State → State → Prop} {mc ms : Nat} {free : Addr → Prop} {cc : ByteArray} {maxL : Nat} {ret : Option FieldType}
    (hy : plainName y.cls = true) (hw : ws = Cond.code y cc maxL ret :: ws')
    (body : ∀ p e s m args below meth c s₁, BodyLoose p l y (headSpec ws rm) cc maxL ret e s m args below meth c s₁ → c.maxLocals = maxL → (∀ x ∈ c.exceptionTable.toList, False) → Pc args s →
      W p l e (headSpec ws rm).room s m args below meth c s.heap [] 0 0 (vx_MQ below Qc XC args s mc ms free) (entryFrame m args maxL)) : vx_Met l y ws rm Pc Qc XC mc ms free := by
  refine MetFree.of_bodyS (code := cc) (maxLocals := maxL) (ret := ret) hy ?_ ?_
  · intro args s m h hn
    obtain ⟨meth, c, h1, h2, h3, h4, h5, h6, -, -⟩ := Cond.code_spec hn (atoms_spec (ws := ws) h _ (by rw [hw]; exact List.mem_cons_self))
    exact ⟨meth, c, h1, h2, h3, h4, h5, h6⟩
  · intro p e s m args below meth c s₁ B hml hP _
    have hh0 : s₁.heap = s.heap := by rw [B.state]; rfl
    have ht : ∀ x ∈ c.exceptionTable.toList, False := by
      obtain ⟨meth9, c9, h1, h2, -, -, -, -, h7, -⟩ := Cond.code_spec B.named (atoms_spec (ws := ws) B.pre _ (by rw [hw]; exact List.mem_cons_self))
      cases Option.some.inj (h1.symm.trans B.method)
      cases Option.some.inj (h2.symm.trans (Stand.of_body B).code)
      intro x hx
      rw [Array.isEmpty_iff.mp h7] at hx
      cases hx
    obtain ⟨t, a1, o, b1, b2, b3⟩ := body p e s m args below meth c s₁ B hml ht hP s₁ hh0 (Stand.of_body B)
    exact ⟨t, o, a1, b1, b2, b3⟩
/-- the table of a body with handlers -/
theorem vx_table {p : Program} {x y : MethodName} {S : Spec} {cc bytes : ByteArray} {maxL maxL' : Nat} {ret ret' : Option FieldType} {e : Env} {s s₁ : State} {m : MethodId} {args : Array Value} {below : List Frame} {meth : Method} {c : Code} {hh : List (Nat × Nat × Nat × Nat)}
    (B : BodyLoose p l y S cc maxL ret e s m args below meth c s₁) (h : (Cond.codeWith y bytes maxL' ret' hh).before args s = true) : c.exceptionTable.toList = tableOf hh := by
  obtain ⟨m9, meth9, c9, hn9, h1, h2, -, -, h6, -⟩ := Cond.codeWith_spec h
  cases Option.some.inj (hn9.symm.trans B.named)
  cases Option.some.inj (h1.symm.trans B.method)
  cases Option.some.inj (h2.symm.trans (Stand.of_body B).code)
  rw [← h6, table_eq]
end Bodies
end VXA
/-! ===== END ===== -/
/-! ===== BEGIN a static call of a method with an exception table ===== -/
section VXS
variable {p : Program} {l : Launch} {e : Env} {R : Room} {s : State} {m : MethodId} {args : Array Value} {below : List Frame} {meth : Method} {c : Code} {T : State} {H : Heap} {locs : List Loc} {cells slots : Nat}
abbrev vx_CSW (R : Room) (s : State) (args : Array Value) (own : String) (index : Nat) (y : MethodName) (bytes : ByteArray) (maxL : Nat) (ret : Option FieldType) (hh : List (Nat × Nat × Nat × Nat)) (ws : List Cond) (rm : Room) (mc ms n : Nat) : Prop :=
  (rm.cells = mc ∧ rm.slots = ms ∧ rm.frames + 1 ≤ R.frames ∧ 8 + (maxL + 11) + rm.locals ≤ R.locals ∧ (∀ w ∈ ws, ∀ (a' : Array Value) (U : State), s.WarmedH U.vm → w.before a' U = true) ∧ Cond.codeWith y bytes maxL ret hh ∈ ws) ∧
  (Cond.codeWith y bytes maxL ret hh).before args s = true ∧ (Cond.initialized y.cls).before args s = true ∧ (y.cls ≠ "java/lang/invoke/MethodHandle" ∧ y.cls ≠ "java/lang/invoke/VarHandle") ∧
  (∀ sig, parseMethodDescriptor y.desc = some sig → n = sig.parameters.length) ∧ (Cond.methodLink own index y).before args s = true ∧ (Cond.static y).before args s = true
theorem vx_cwSW {own : String} {index maxL mc ms : Nat} {y : MethodName} {bytes : ByteArray} {ret : Option FieldType} {hh : List (Nat × Nat × Nat × Nat)} {Ts ws ws' : List Cond} {rm : Room} (n : Nat) (ht : ∀ w ∈ Ts, w.before args s = true) (hT : GoodIn Ts (va_wsS own index y ws)) (hw : ws = Cond.codeWith y bytes maxL ret hh :: ws') (hrc : rm.cells = mc) (hrs : rm.slots = ms)
    (hd : y.cls ≠ "java/lang/invoke/MethodHandle" ∧ y.cls ≠ "java/lang/invoke/VarHandle" ∧ (parseMethodDescriptor y.desc).map (fun d => d.parameters.length) = some n) (hR : rm.frames + 1 ≤ R.frames ∧ 8 + (maxL + 11) + rm.locals ≤ R.locals) :
    vx_CSW R s args own index y bytes maxL ret hh ws rm mc ms n := by
  have ok : ∀ w ∈ va_wsS own index y ws, w.before args s = true := fun w h => ht w (hT w h).1
  have hG : GoodIn Ts ws := fun w h => hT w (by unfold va_wsS; exact List.mem_append_right _ h)
  have hc : Cond.codeWith y bytes maxL ret hh ∈ ws := by rw [hw]; exact List.mem_cons_self
  refine ⟨⟨hrc, hrs, hR.1, hR.2, pay_in ht hG, hc⟩, ht _ (hG _ hc).1, ok _ (by simp [va_wsS]), ⟨hd.1, hd.2.1⟩, fun sig h => ?_, ok _ (by simp [va_wsS]), ok _ (by simp [va_wsS])⟩
  have h2 := hd.2.2
  rw [h] at h2
  exact (Option.some.inj h2).symm
theorem vx_callSW (X : Stand p l e R s m args below meth c T locs cells slots) (hexec : p.tables.exec = Jvm.exec) {own : String} {index : Nat} {y : MethodName} {bytes : ByteArray} {maxL : Nat} {ret : Option FieldType} {hh : List (Nat × Nat × Nat × Nat)}
    (hown : s.vm.findClass own = some m.cls) (hlink : (Cond.methodLink own index y).before args s = true) (hstat : (Cond.static y).before args s = true) (hinit : (Cond.initialized y.cls).before args s = true)
    (hcode : (Cond.codeWith y bytes maxL ret hh).before args s = true) (hy : y.cls ≠ "java/lang/invoke/MethodHandle" ∧ y.cls ≠ "java/lang/invoke/VarHandle")
    {W9 : Nat} {Pre : Pt → Array Value → Prop} {Post : Pt → Array Value → Option Value → Pt → Prop} (hK : Back l R p e below s args y 3 W9 Pre Post)
    {g : JFrame} (hg : g.method = m) (hsize : g.locals.size = c.maxLocals) {argsL rest : List Value} (hlen : ∀ sig, parseMethodDescriptor y.desc = some sig → argsL.length = sig.parameters.length)
    (hstack : g.stack = argsL.reverse ++ rest) (hW : 2 * g.monitorRoom + (rest.map fun v => v.category).sum ≤ W9) (hdg : decode c.code g.pc = .ok (.invokestatic index, 3))
    (hpre : ∀ vm₁, s.WarmedH vm₁ → Pre ⟨T.setVm vm₁, locs, cells, slots⟩ argsL.toArray) :
    ∃ (v : Option Value) (vm₁ : Vm) (B : Pt), s.WarmedH vm₁ ∧ Stand p l e R s m args below meth c B.U B.locs B.cells B.slots ∧ Post ⟨T.setVm vm₁, locs, cells, slots⟩ argsL.toArray v B ∧
      ∀ target, Steps p.tables e below (B.U.setTop { g with pc := g.pc + 3, stack := v.toList ++ rest }) target → Steps p.tables e below (T.setTop g) target := by
  obtain ⟨mk, methM, cM, hnamed, hmethM, -, -, -, -, -, -, hsigM⟩ := Cond.codeWith_spec hcode
  have hstatic : methM.isStatic = true := Cond.static_spec hnamed hmethM hstat
  obtain ⟨kP, hkP, -⟩ := className_of_methodNamed hnamed
  have hinitP : kP.init = .initialized := Cond.initialized_spec (findClass_of_methodNamed hnamed) hkP hinit
  obtain ⟨vm₁, X₁, hstep₁⟩ := X.invokestatic hexec hown hlink hnamed hmethM hstatic hkP hinitP hy (g := g) hg (argsL := argsL) (rest := rest) (hlen _ hsigM) hstack hdg
  obtain ⟨v, B, X', hpost, hsteps⟩ := hK m meth c ⟨T.setVm vm₁, locs, cells, slots⟩ { g with stack := rest } (.invokestatic index) mk argsL.toArray X₁ hg hsize hdg hW (X₁.named hnamed) (hpre vm₁ X₁.warmed)
  exact ⟨v, vm₁, B, X₁.warmed, X', hpost, fun target h => hstep₁ _ fun acts => by rw [doInvoke_state]; exact hsteps.trans h⟩
theorem vx_runSW {y : MethodName} {bytes cc : ByteArray} {maxL nL mc ms n index : Nat} {ret : Option FieldType} {hh : List (Nat × Nat × Nat × Nat)} {ws : List Cond} {rm : Room} {Pc : Array Value → State → Prop} {Qc : Array Value → State → Outcome → State → Prop} {free : Addr → Prop} {Ts : List Cond} {own : String} {As rest : List Value} {g : JFrame}
    (S : CallFix p m c cc nL s args Ts own) (hM : Met l y ws rm Pc Qc mc ms free) (cw : vx_CSW R s args own index y bytes maxL ret hh ws rm mc ms n) (hp : PreS s H Pc As)
    (hg : g.method = m) (hn : As.length = n) (hsize : g.locals.size = nL) (hstack : g.stack = As.reverse ++ rest) (hW : 2 * g.monitorRoom + (rest.map fun v => v.category).sum ≤ 8) (hdg : decode cc g.pc = .ok (.invokestatic index, 3)) (hf : cells + mc ≤ R.cells ∧ slots + ms ≤ R.slots) :
    va_Run p l e R s m args below meth c H locs cells slots mc ms g rest (Qc As.toArray) (free) := by
  obtain ⟨⟨hrc, hrs, hfr, hlo, hws, hcw⟩, hcode, hini, hy, hlen, hl, hstt⟩ := cw
  have hK : Back l R p e below s args y 3 8 (PreOf R mc ms Pc) (PostOf Qc mc ms free) := va_backW (hh := hh) (bytes := bytes) (maxL := maxL) (ret := ret) hM hp.1 hrc hrs hfr hlo hws hcw (fun a' U hW => word_at hW (Or.inl (by first | rfl | simp [Cond.onTables, Cond.keeps, Cond.steady])) hini)
  obtain ⟨hx, hb, hml, ho, -⟩ := S
  intro T hT X
  obtain ⟨v, vm₁, ⟨U', l2, c2, s2⟩, hW₁, X', ⟨g', mk, t, L, e1, e2, hq, h1, hL, h2, h3⟩, st⟩ := vx_callSW X hx (hh := hh) (bytes := bytes) (maxL := maxL) (ret := ret) ho hl hstt hini hcode hy hK hg (hsize.trans hml.symm) (argsL := As) (rest := rest) (fun sig h => hn.trans (hlen sig h)) hstack hW (by rw [hb]; exact hdg)
    (fun vm₁ hW₁ => ⟨hf.1, hf.2, hp.2 (T.setVm vm₁) hT hW₁⟩)
  dsimp only [Pt.U, Pt.locs, Pt.cells, Pt.slots] at X' e1 e2 h1 h2 h3 st
  subst h1; subst h2; subst h3
  exact ⟨v, (T.setVm vm₁).calling g' mk As.toArray, t, U', L, hT, X', hL, e1, e2, hq, st⟩
/-- not caught here, past rows that name other classes: it goes on to the caller -/
theorem vx_outP {p : Program} {l : Launch} {e : Env} {R : Room} {s : State} {m : MethodId} {args : Array Value} {below : List Frame} {meth : Method} {c : Code} {H : Heap} {locs : List Loc} {cells slots : Nat} {free : Addr → Prop} {ls : Array Slot} {rest : List Value} {Qc : Array Value → State → Outcome → State → Prop} {XC : String → State → State → Prop}
    {pc : Nat} {own E : String} {ce : Cell} {q : Addr} {mc ms : Nat} (hown : s.vm.findClass own = some m.cls) (hlocks : meth.locks = false)
    (hpass : ∀ z ∈ c.exceptionTable.toList, covers z pc = false ∨ (z.catchType ≠ 0 ∧ ∃ nm : String, (Cond.classLink own z.catchType nm).before args s = true ∧ va_Nc E nm s)) (hcell : H[q]? = some ce) (hv : ce.vm = .none) (hcl : s.vm.findClass E = some ce.cls)
    (hx : ∀ t : State, t.heap = H → s.vm.Alike t.vm → XC E s t) (hf : ∀ z ∈ locs, free z.base) (hc : cells ≤ mc) (hs : slots ≤ ms) :
    vx_W p l e R s m args below meth c H locs cells slots (vx_MQ below Qc XC args s mc ms free) (F0 m pc ls rest) q := by
  intro T hT X
  have hpl : e.platform.magicAccessors = ({} : Platform).magicAccessors := by rw [X.admits.platform]
  obtain ⟨vm', hW', X', st⟩ := X.outThrough hlocks q (g := F0 m pc ls rest) rfl rfl rfl (cell := ce) (by rw [hT]; exact hcell) (by rw [hv]; rfl)
    (by obtain ⟨k9, h9, -⟩ := Vm.findClass_spec hcl; exact ⟨k9, h9⟩) (fun z hz => by
      rcases hpass z hz with h | ⟨hz0, nm, hl1, hn1⟩
      · exact Or.inl h
      · obtain ⟨c6, hc6, hcl6⟩ := Cond.classLink_spec hown hl1 e.platform hpl
        obtain ⟨a8, b8, h1, h2, h3⟩ := hn1
        cases Option.some.inj (h1.symm.trans hcl)
        cases Option.some.inj (h2.symm.trans hc6)
        exact Or.inr ⟨hz0, _, hcl6, h3⟩)
  obtain ⟨g₀, hfr⟩ := X'.frames_eq
  have hcell9 : ((T.setVm vm').setFrames (.throwing q :: below)).heap[q]? = some ce := by
    show T.heap[q]? = some ce
    rw [hT]; exact hcell
  have hend : Ended ((T.setVm vm').setFrames (.throwing q :: below)) below (.threw q) := State.frames_setFrames _ (State.cur_lt_of_frames hfr)
  refine ⟨(T.setVm vm').setFrames (.throwing q :: below), ?_, .threw q, X'.here.running, hend, Or.inr ⟨q, rfl, E, ce, locs, hx _ hT (X'.ends _).1.alike, hcell9, hv, hcl, (X'.ends _).1, (X'.ends _).2.mono hc hs, hf⟩⟩
  rw [X.pushThrowing_eq]
  exact st
/-- a thing of a world lies in the heap -/
theorem vx_lt {D : va_G} {cl : List vw_C} {ws : va_W} {H1 : Heap} (h : va_P D cl ws H1) {k : Nat} {q : Nat × va_E} (hk : ws[k]? = some q) : q.1 < H1.size := (h k q hk).lt
end VXS
/-! ===== END ===== -/
/-! ===== BEGIN methods with a table of their own: called by a name, returning or throwing ===== -/
section VXH
/-! vx_backW, vx_callVX, vx_callSX, vx_callVW, vx_runVW, vx_runVX, vx_runSX, vx_ofWH follow the same proofs as their sisters above (Free/Laws.lean, Shelf42/LK1.lean); vx_outP calls Shelf42/NT130.lean (outThrough). -/
section
variable {l : Launch} {R : Room} {p : Program} {e : Env} {below : List Frame} {s : State} {sargs : Array Value} {y : MethodName} {len W9 : Nat}
theorem vx_backW {ws : List Cond} {rm : Room} {Pc : Array Value → State → Prop} {Qc : Array Value → State → Outcome → State → Prop} {XC : String → State → State → Prop} {mc ms : Nat} {free : Addr → Prop} {bytes : ByteArray} {maxL : Nat} {ret : Option FieldType} {hh : List (Nat × Nat × Nat × Nat)}
    (hM : vx_Met l y ws rm Pc Qc XC mc ms free) (hblind : FrameBlind Pc) (hrc : rm.cells = mc) (hrs : rm.slots = ms)
    (hframes : rm.frames + 1 ≤ R.frames) (hlocals : W9 + (maxL + 11) + rm.locals ≤ R.locals)
    (hws : ∀ w ∈ ws, ∀ a' U, s.WarmedH U.vm → w.before a' U = true) (hcode : Cond.codeWith y bytes maxL ret hh ∈ ws) (hinit : ∀ a' U, s.WarmedH U.vm → (Cond.initialized y.cls).before a' U = true) :
    vx_Back l R p e below s sargs y len W9 (PreOf R mc ms Pc) (PostOf Qc mc ms free) (vx_Post XC mc ms free) := by
  intro m meth c A g ig mk a X hg hsize hdg hW hn hp
  have h1 : (headSpec ws rm).pre.before a A.U = true := atoms_intro fun w hw => hws w hw _ _ X.warmed
  have h2 : (Cond.codeWith y bytes maxL ret hh).before a A.U = true := hws _ hcode _ _ X.warmed
  have h3 : (Cond.initialized y.cls).before a A.U = true := hinit _ _ X.warmed
  have h4 : A.cells + (headSpec ws rm).room.cells ≤ R.cells := by rw [show (headSpec ws rm).room.cells = mc from hrc]; exact hp.1
  have h5 : A.slots + (headSpec ws rm).room.slots ≤ R.slots := by rw [show (headSpec ws rm).room.slots = ms from hrs]; exact hp.2.1
  have hPc : Pc a (A.U.calling g mk a) := hblind _ _ _ _ hp.2.2
  obtain ⟨U, Ls, c0, s0⟩ := A
  dsimp only [Pt.U, Pt.locs, Pt.cells, Pt.slots] at h1 h2 h3 h4 h5 X hn hPc ⊢
  obtain ⟨m9, methY, cY, hn9, hmY, hcY, -, hlY, -⟩ := Cond.codeWith_spec h2
  cases Option.some.inj (hn9.symm.trans hn)
  obtain ⟨kY, hkY, -⟩ := className_of_methodNamed hn
  have hinitY : kY.init = .initialized := Cond.initialized_spec (findClass_of_methodNamed hn) hkY h3
  have h : At U g.method c below := by rw [hg]; exact X.here
  have hlocals9 : W9 + (maxL + 11) + (headSpec ws rm).room.locals ≤ R.locals := hlocals
  have happ : (headSpec ws rm).appliesLoose y e.platform (U.calling g mk a) = true :=
    Spec.appliesLoose_calling (g := g) h hdg hn hkY hinitY
      (X.room_calling (g := g) (R' := (headSpec ws rm).room) hsize hmY hcY hframes (by rw [hlY]; omega) h4 h5) h1
  obtain ⟨mid, hmid⟩ := h.above
  have hfr : (U.setTop g).frames = (.java g :: mid) ++ below := by rw [State.frames_setTop' g h.top, hmid]; rfl
  obtain ⟨o, s₂, hsteps, -, hend, hq⟩ := Steps.callFree hM p X.admits X.cas X.clock (acts := []) hfr happ hPc trivial
  have hq' : vx_Q Qc XC mc ms free a (U.calling g mk a) o s₂ := hq
  rw [State.frames_setTop' g h.top] at hend
  obtain ⟨g₀, hg0⟩ := Option.isSome_iff_exists.mp h.top
  obtain ⟨r, hr⟩ := State.topJava?_eq_some.mp hg0
  have hr' : (({ U with heap := s₂.heap, slotsUsed := s₂.slotsUsed } : State).setVm s₂.vm).frames = .java g₀ :: r := hr
  rcases hq' with ⟨hqc, L, hfe, hL⟩ | ⟨q, rfl, E, ce, L, hx, hce, hcv, hcl, hW₂, hsm, hL⟩
  · obtain ⟨⟨v, rfl⟩, hW₂, e2, q2, q3, q4, q5, q6⟩ := id hfe
    have e3 : s₂ = ({ (U.calling g mk a).setFrames s₂.frames with heap := s₂.heap, slotsUsed := s₂.slotsUsed } : State).setVm s₂.vm := by
      have : s₂ = ({ s₂ with vm := (U.calling g mk a).vm } : State).setVm s₂.vm := rfl
      rw [e2] at this
      exact this
    obtain ⟨c₂, i₂, len₂, hc₂, hd₂, hf₂⟩ := hend
    have hW' : U.WarmedH s₂.vm := hW₂
    have hcc : c₂ = c := by
      have h1 : s₂.code? g.method = U.code? g.method := by
        rw [State.code?_eq, State.code?_eq, hW'.alike.method?]
      exact Option.some.inj (hc₂.symm.trans (h1.trans h.code))
    subst hcc
    have hlen : len₂ = len := by rw [hdg] at hd₂; cases hd₂; rfl
    subst hlen
    have hs₂ : s₂ = (({ U with heap := s₂.heap, slotsUsed := s₂.slotsUsed } : State).setVm s₂.vm).setTop { g with pc := g.pc + len₂, stack := v.toList ++ g.stack } := by
      refine e3.trans ?_
      rw [hf₂, State.calling_eq h.top, State.setFrames_setFrames, State.setTop_of_frames _ hr', hr]
      rfl
    have hsame : U.sameButNew ({ U with heap := s₂.heap, slotsUsed := s₂.slotsUsed } : State) L mc ms := by
      refine ⟨?_, q2, q3, q4, q5, q6⟩
      obtain ⟨t, ht, -⟩ := State.frames_cons hr
      show ({ U with heap := s₂.heap, slotsUsed := s₂.slotsUsed } : State) = { U.setFrames U.frames with heap := s₂.heap, slotsUsed := s₂.slotsUsed }
      rw [State.setFrames_self ht]
    subst hg
    refine Or.inl ⟨v, ⟨(({ U with heap := s₂.heap, slotsUsed := s₂.slotsUsed } : State).setVm s₂.vm), Ls ++ L, c0 + mc, s0 + ms⟩,
      ⟨X.admits, X.cas, X.clock, X.frames, X.room, X.hears, X.method, X.code, (X.here.setHeapUsed s₂.heap s₂.slotsUsed).setVm hW'.alike, X.tail, State.WarmedH.trans X.warmed hW', X.limits, X.bytes, X.same.trans (hsame.setVm s.vm)⟩,
      ⟨g, mk, s₂, L, rfl, rfl, hqc, rfl, hL, rfl, rfl⟩, ?_⟩
    show Steps p.tables e below _ ((({ U with heap := s₂.heap, slotsUsed := s₂.slotsUsed } : State).setVm s₂.vm).setTop { g with pc := g.pc + len₂, stack := v.toList ++ g.stack })
    rw [← hs₂]
    exact hsteps
  · obtain ⟨e2, q2, q3, q4, q5, q6⟩ := id hsm
    have e3 : s₂ = ({ (U.calling g mk a).setFrames s₂.frames with heap := s₂.heap, slotsUsed := s₂.slotsUsed } : State).setVm s₂.vm := by
      have : s₂ = ({ s₂ with vm := (U.calling g mk a).vm } : State).setVm s₂.vm := rfl
      rw [e2] at this
      exact this
    have hf₂ : s₂.frames = .throwing q :: .java g :: U.frames.tail := hend
    have hW' : U.WarmedH s₂.vm := hW₂
    have hs₂ : s₂ = ((({ U with heap := s₂.heap, slotsUsed := s₂.slotsUsed } : State).setVm s₂.vm).setTop g).pushFrame (.throwing q) := by
      refine e3.trans ?_
      rw [hf₂, State.calling_eq h.top, State.setFrames_setFrames, State.pushFrame, State.frames_setTop _ hr', State.setTop_of_frames _ hr', State.setFrames_setFrames, hr]
      rfl
    have hsame : U.sameButNew ({ U with heap := s₂.heap, slotsUsed := s₂.slotsUsed } : State) L mc ms := by
      refine ⟨?_, q2, q3, q4, q5, q6⟩
      obtain ⟨t, ht, -⟩ := State.frames_cons hr
      show ({ U with heap := s₂.heap, slotsUsed := s₂.slotsUsed } : State) = { U.setFrames U.frames with heap := s₂.heap, slotsUsed := s₂.slotsUsed }
      rw [State.setFrames_self ht]
    subst hg
    refine Or.inr ⟨q, ⟨(({ U with heap := s₂.heap, slotsUsed := s₂.slotsUsed } : State).setVm s₂.vm), Ls ++ L, c0 + mc, s0 + ms⟩,
      ⟨X.admits, X.cas, X.clock, X.frames, X.room, X.hears, X.method, X.code, (X.here.setHeapUsed s₂.heap s₂.slotsUsed).setVm hW'.alike, X.tail, State.WarmedH.trans X.warmed hW', X.limits, X.bytes, X.same.trans (hsame.setVm s.vm)⟩,
      ⟨g, mk, s₂, L, E, ce, rfl, rfl, hx, hce, hcv, hcl, rfl, hL, rfl, rfl⟩, ?_⟩
    show Steps p.tables e below _ (((({ U with heap := s₂.heap, slotsUsed := s₂.slotsUsed } : State).setVm s₂.vm).setTop g).pushFrame (.throwing q))
    rw [← hs₂]
    exact hsteps
end
variable {p : Program} {l : Launch} {e : Env} {R : Room} {s : State} {m : MethodId} {args : Array Value} {below : List Frame} {meth : Method} {c : Code} {T : State} {H : Heap} {locs : List Loc} {cells slots : Nat}
theorem vx_callVX (X : Stand p l e R s m args below meth c T locs cells slots) (hexec : p.tables.exec = Jvm.exec) {own C : String} {index : Nat} {y : MethodName} {bytes : ByteArray} {maxL : Nat} {ret : Option FieldType} {hh : List (Nat × Nat × Nat × Nat)}
    (hown : s.vm.findClass own = some m.cls) (hlink : (Cond.methodLink own index y).before args s = true) (hinst : (Cond.instanceMethod y).before args s = true) (hsel : (Cond.selects C y y).before args s = true)
    (hcode : (Cond.codeWith y bytes maxL ret hh).before args s = true) (hy : y.cls ≠ "java/lang/invoke/MethodHandle" ∧ y.cls ≠ "java/lang/invoke/VarHandle")
    {W9 : Nat} {Pre : Pt → Array Value → Prop} {Post : Pt → Array Value → Option Value → Pt → Prop} {PostX : Pt → Array Value → Addr → Pt → Prop} (hK : vx_Back l R p e below s args y 3 W9 Pre Post PostX)
    {b : Addr} {cellB : Cell} (hcell : T.heap[b]? = some cellB) (hobj : cellB.vm.isStatics = false) (hcls : s.vm.findClass C = some cellB.cls)
    {g : JFrame} (hg : g.method = m) (hsize : g.locals.size = c.maxLocals) {argsL rest : List Value} (hlen : ∀ sig, parseMethodDescriptor y.desc = some sig → argsL.length = sig.parameters.length)
    (hstack : g.stack = argsL.reverse ++ .ref b :: rest) (hW : 2 * g.monitorRoom + (rest.map fun v => v.category).sum ≤ W9) (hdg : decode c.code g.pc = .ok (.invokevirtual index, 3))
    (hpre : ∀ vm₁, s.WarmedH vm₁ → Pre ⟨T.setVm vm₁, locs, cells, slots⟩ (Value.ref b :: argsL).toArray) :
    (∃ (v : Option Value) (vm₁ : Vm) (B : Pt), s.WarmedH vm₁ ∧ Stand p l e R s m args below meth c B.U B.locs B.cells B.slots ∧ Post ⟨T.setVm vm₁, locs, cells, slots⟩ (Value.ref b :: argsL).toArray v B ∧
      ∀ target, Steps p.tables e below (B.U.setTop { g with pc := g.pc + 3, stack := v.toList ++ rest }) target → Steps p.tables e below (T.setTop g) target) ∨
    (∃ (q : Addr) (vm₁ : Vm) (B : Pt), s.WarmedH vm₁ ∧ Stand p l e R s m args below meth c B.U B.locs B.cells B.slots ∧ PostX ⟨T.setVm vm₁, locs, cells, slots⟩ (Value.ref b :: argsL).toArray q B ∧
      Steps p.tables e below (T.setTop g) ((B.U.setTop { g with stack := rest }).pushFrame (.throwing q))) := by
  obtain ⟨mk, methM, hnamed, hmethM, hstM, habM⟩ := Cond.instanceMethod_spec hinst
  obtain ⟨m8, methM', cM, hn8, hmethM', -, -, -, -, -, -, hsigM⟩ := Cond.codeWith_spec hcode
  cases Option.some.inj (hn8.symm.trans hnamed)
  cases hmethM.symm.trans hmethM'
  obtain ⟨c2, r2, m2, q1, q2, q3, q4, kP, hkP, hkPi⟩ := Cond.selects_spec hsel
  cases hcls.symm.trans q1
  cases (State.methodFound?_of_named hnamed hy).symm.trans q2
  cases hnamed.symm.trans q3
  have hselP : selectMethod e.platform s.vm cellB.cls mk = .method mk := by rw [Launch.admits_selectMethod X.admits]; exact q4
  obtain ⟨vm₁, X₁, hstep₁⟩ := X.invokevirtual hexec hown hlink hnamed hmethM hstM hkP hkPi hy (a := b) (cell := cellB) hcell
    (fun z h => by rw [h] at hobj; cases hobj) hselP hmethM habM hkP hkPi (g := g) hg (argsL := argsL) (rest := rest) (hlen _ hsigM) hstack hdg
  rcases hK m meth c ⟨T.setVm vm₁, locs, cells, slots⟩ { g with stack := rest } (.invokevirtual index) mk (Value.ref b :: argsL).toArray X₁ hg hsize hdg hW (X₁.named hnamed) (hpre vm₁ X₁.warmed) with ⟨v, B, X', hpost, hsteps⟩ | ⟨q, B, X', hpost, hsteps⟩
  · exact Or.inl ⟨v, vm₁, B, X₁.warmed, X', hpost, fun target h => hstep₁ _ fun acts => by rw [doInvoke_state]; exact hsteps.trans h⟩
  · exact Or.inr ⟨q, vm₁, B, X₁.warmed, X', hpost, hstep₁ _ fun acts => by rw [doInvoke_state]; exact hsteps⟩
theorem vx_callSX (X : Stand p l e R s m args below meth c T locs cells slots) (hexec : p.tables.exec = Jvm.exec) {own : String} {index : Nat} {y : MethodName} {bytes : ByteArray} {maxL : Nat} {ret : Option FieldType} {hh : List (Nat × Nat × Nat × Nat)}
    (hown : s.vm.findClass own = some m.cls) (hlink : (Cond.methodLink own index y).before args s = true) (hstat : (Cond.static y).before args s = true) (hinit : (Cond.initialized y.cls).before args s = true)
    (hcode : (Cond.codeWith y bytes maxL ret hh).before args s = true) (hy : y.cls ≠ "java/lang/invoke/MethodHandle" ∧ y.cls ≠ "java/lang/invoke/VarHandle")
    {W9 : Nat} {Pre : Pt → Array Value → Prop} {Post : Pt → Array Value → Option Value → Pt → Prop} {PostX : Pt → Array Value → Addr → Pt → Prop} (hK : vx_Back l R p e below s args y 3 W9 Pre Post PostX)
    {g : JFrame} (hg : g.method = m) (hsize : g.locals.size = c.maxLocals) {argsL rest : List Value} (hlen : ∀ sig, parseMethodDescriptor y.desc = some sig → argsL.length = sig.parameters.length)
    (hstack : g.stack = argsL.reverse ++ rest) (hW : 2 * g.monitorRoom + (rest.map fun v => v.category).sum ≤ W9) (hdg : decode c.code g.pc = .ok (.invokestatic index, 3))
    (hpre : ∀ vm₁, s.WarmedH vm₁ → Pre ⟨T.setVm vm₁, locs, cells, slots⟩ argsL.toArray) :
    (∃ (v : Option Value) (vm₁ : Vm) (B : Pt), s.WarmedH vm₁ ∧ Stand p l e R s m args below meth c B.U B.locs B.cells B.slots ∧ Post ⟨T.setVm vm₁, locs, cells, slots⟩ argsL.toArray v B ∧
      ∀ target, Steps p.tables e below (B.U.setTop { g with pc := g.pc + 3, stack := v.toList ++ rest }) target → Steps p.tables e below (T.setTop g) target) ∨
    (∃ (q : Addr) (vm₁ : Vm) (B : Pt), s.WarmedH vm₁ ∧ Stand p l e R s m args below meth c B.U B.locs B.cells B.slots ∧ PostX ⟨T.setVm vm₁, locs, cells, slots⟩ argsL.toArray q B ∧
      Steps p.tables e below (T.setTop g) ((B.U.setTop { g with stack := rest }).pushFrame (.throwing q))) := by
  obtain ⟨mk, methM, cM, hnamed, hmethM, -, -, -, -, -, -, hsigM⟩ := Cond.codeWith_spec hcode
  have hstatic : methM.isStatic = true := Cond.static_spec hnamed hmethM hstat
  obtain ⟨kP, hkP, -⟩ := className_of_methodNamed hnamed
  have hinitP : kP.init = .initialized := Cond.initialized_spec (findClass_of_methodNamed hnamed) hkP hinit
  obtain ⟨vm₁, X₁, hstep₁⟩ := X.invokestatic hexec hown hlink hnamed hmethM hstatic hkP hinitP hy (g := g) hg (argsL := argsL) (rest := rest) (hlen _ hsigM) hstack hdg
  rcases hK m meth c ⟨T.setVm vm₁, locs, cells, slots⟩ { g with stack := rest } (.invokestatic index) mk argsL.toArray X₁ hg hsize hdg hW (X₁.named hnamed) (hpre vm₁ X₁.warmed) with ⟨v, B, X', hpost, hsteps⟩ | ⟨q, B, X', hpost, hsteps⟩
  · exact Or.inl ⟨v, vm₁, B, X₁.warmed, X', hpost, fun target h => hstep₁ _ fun acts => by rw [doInvoke_state]; exact hsteps.trans h⟩
  · exact Or.inr ⟨q, vm₁, B, X₁.warmed, X', hpost, hstep₁ _ fun acts => by rw [doInvoke_state]; exact hsteps⟩
theorem vx_callVW (X : Stand p l e R s m args below meth c T locs cells slots) (hexec : p.tables.exec = Jvm.exec) {own C : String} {index : Nat} {y : MethodName} {bytes : ByteArray} {maxL : Nat} {ret : Option FieldType} {hh : List (Nat × Nat × Nat × Nat)}
    (hown : s.vm.findClass own = some m.cls) (hlink : (Cond.methodLink own index y).before args s = true) (hinst : (Cond.instanceMethod y).before args s = true) (hsel : (Cond.selects C y y).before args s = true)
    (hcode : (Cond.codeWith y bytes maxL ret hh).before args s = true) (hy : y.cls ≠ "java/lang/invoke/MethodHandle" ∧ y.cls ≠ "java/lang/invoke/VarHandle")
    {W9 : Nat} {Pre : Pt → Array Value → Prop} {Post : Pt → Array Value → Option Value → Pt → Prop} (hK : Back l R p e below s args y 3 W9 Pre Post)
    {b : Addr} {cellB : Cell} (hcell : T.heap[b]? = some cellB) (hobj : cellB.vm.isStatics = false) (hcls : s.vm.findClass C = some cellB.cls)
    {g : JFrame} (hg : g.method = m) (hsize : g.locals.size = c.maxLocals) {argsL rest : List Value} (hlen : ∀ sig, parseMethodDescriptor y.desc = some sig → argsL.length = sig.parameters.length)
    (hstack : g.stack = argsL.reverse ++ .ref b :: rest) (hW : 2 * g.monitorRoom + (rest.map fun v => v.category).sum ≤ W9) (hdg : decode c.code g.pc = .ok (.invokevirtual index, 3))
    (hpre : ∀ vm₁, s.WarmedH vm₁ → Pre ⟨T.setVm vm₁, locs, cells, slots⟩ (Value.ref b :: argsL).toArray) :
    ∃ (v : Option Value) (vm₁ : Vm) (B : Pt), s.WarmedH vm₁ ∧ Stand p l e R s m args below meth c B.U B.locs B.cells B.slots ∧ Post ⟨T.setVm vm₁, locs, cells, slots⟩ (Value.ref b :: argsL).toArray v B ∧
      ∀ target, Steps p.tables e below (B.U.setTop { g with pc := g.pc + 3, stack := v.toList ++ rest }) target → Steps p.tables e below (T.setTop g) target := by
  obtain ⟨mk, methM, hnamed, hmethM, hstM, habM⟩ := Cond.instanceMethod_spec hinst
  obtain ⟨m8, methM', cM, hn8, hmethM', -, -, -, -, -, -, hsigM⟩ := Cond.codeWith_spec hcode
  cases Option.some.inj (hn8.symm.trans hnamed)
  cases hmethM.symm.trans hmethM'
  obtain ⟨c2, r2, m2, q1, q2, q3, q4, kP, hkP, hkPi⟩ := Cond.selects_spec hsel
  cases hcls.symm.trans q1
  cases (State.methodFound?_of_named hnamed hy).symm.trans q2
  cases hnamed.symm.trans q3
  have hselP : selectMethod e.platform s.vm cellB.cls mk = .method mk := by rw [Launch.admits_selectMethod X.admits]; exact q4
  obtain ⟨vm₁, X₁, hstep₁⟩ := X.invokevirtual hexec hown hlink hnamed hmethM hstM hkP hkPi hy (a := b) (cell := cellB) hcell
    (fun z h => by rw [h] at hobj; cases hobj) hselP hmethM habM hkP hkPi (g := g) hg (argsL := argsL) (rest := rest) (hlen _ hsigM) hstack hdg
  obtain ⟨v, B, X', hpost, hsteps⟩ := hK m meth c ⟨T.setVm vm₁, locs, cells, slots⟩ { g with stack := rest } (.invokevirtual index) mk (Value.ref b :: argsL).toArray X₁ hg hsize hdg hW (X₁.named hnamed) (hpre vm₁ X₁.warmed)
  exact ⟨v, vm₁, B, X₁.warmed, X', hpost, fun target h => hstep₁ _ fun acts => by rw [doInvoke_state]; exact hsteps.trans h⟩
abbrev vx_CVW (R : Room) (s : State) (args : Array Value) (own C : String) (index : Nat) (y : MethodName) (bytes : ByteArray) (maxL : Nat) (ret : Option FieldType) (hh : List (Nat × Nat × Nat × Nat)) (ws : List Cond) (rm : Room) (mc ms n : Nat) : Prop :=
  (rm.cells = mc ∧ rm.slots = ms ∧ rm.frames + 1 ≤ R.frames ∧ 8 + (maxL + 11) + rm.locals ≤ R.locals ∧ (∀ w ∈ ws, ∀ (a' : Array Value) (U : State), s.WarmedH U.vm → w.before a' U = true) ∧ Cond.codeWith y bytes maxL ret hh ∈ ws) ∧
  (Cond.codeWith y bytes maxL ret hh).before args s = true ∧ (Cond.initialized y.cls).before args s = true ∧ (y.cls ≠ "java/lang/invoke/MethodHandle" ∧ y.cls ≠ "java/lang/invoke/VarHandle") ∧
  (∀ sig, parseMethodDescriptor y.desc = some sig → n = sig.parameters.length) ∧ (Cond.methodLink own index y).before args s = true ∧ (Cond.instanceMethod y).before args s = true ∧ (Cond.selects C y y).before args s = true
theorem vx_cwVW {own C : String} {index maxL mc ms : Nat} {y : MethodName} {bytes : ByteArray} {ret : Option FieldType} {hh : List (Nat × Nat × Nat × Nat)} {Ts ws ws' : List Cond} {rm : Room} (n : Nat) (ht : ∀ w ∈ Ts, w.before args s = true) (hT : GoodIn Ts (wsV own index C y ws)) (hw : ws = Cond.codeWith y bytes maxL ret hh :: ws') (hrc : rm.cells = mc) (hrs : rm.slots = ms)
    (hd : y.cls = C ∧ y.cls ≠ "java/lang/invoke/MethodHandle" ∧ y.cls ≠ "java/lang/invoke/VarHandle" ∧ (parseMethodDescriptor y.desc).map (fun d => d.parameters.length) = some n) (hR : rm.frames + 1 ≤ R.frames ∧ 8 + (maxL + 11) + rm.locals ≤ R.locals) :
    vx_CVW R s args own C index y bytes maxL ret hh ws rm mc ms n := by
  obtain ⟨hC, hd⟩ := hd
  subst hC
  have ok : ∀ w ∈ wsV own index y.cls y ws, w.before args s = true := fun w h => ht w (hT w h).1
  have hG : GoodIn Ts ws := fun w h => hT w (by unfold wsV; exact List.mem_append_right _ h)
  have hc : Cond.codeWith y bytes maxL ret hh ∈ ws := by rw [hw]; exact List.mem_cons_self
  refine ⟨⟨hrc, hrs, hR.1, hR.2, pay_in ht hG, hc⟩, ht _ (hG _ hc).1, ok _ (by simp [wsV]), ⟨hd.1, hd.2.1⟩, fun sig h => ?_, ok _ (by simp [wsV]), ok _ (by simp [wsV]), ok _ (by simp [wsV])⟩
  have h2 := hd.2.2
  rw [h] at h2
  exact (Option.some.inj h2).symm
theorem vx_runVW {y : MethodName} {bytes cc : ByteArray} {maxL nL mc ms n index : Nat} {ret : Option FieldType} {hh : List (Nat × Nat × Nat × Nat)} {ws : List Cond} {rm : Room} {Pc : Array Value → State → Prop} {Qc : Array Value → State → Outcome → State → Prop} {free : Addr → Prop} {Ts : List Cond} {own C : String} {b : Addr} {As rest : List Value} {g : JFrame}
    (S : CallFix p m c cc nL s args Ts own) (hM : Met l y ws rm Pc Qc mc ms free) (cw : vx_CVW R s args own C index y bytes maxL ret hh ws rm mc ms n) (hp : PreV s H C b Pc As)
    (hg : g.method = m) (hn : As.length = n) (hsize : g.locals.size = nL) (hstack : g.stack = As.reverse ++ .ref b :: rest) (hW : 2 * g.monitorRoom + (rest.map fun v => v.category).sum ≤ 8) (hdg : decode cc g.pc = .ok (.invokevirtual index, 3)) (hf : cells + mc ≤ R.cells ∧ slots + ms ≤ R.slots) :
    va_Run p l e R s m args below meth c H locs cells slots mc ms g rest (Qc (Value.ref b :: As).toArray) free := by
  obtain ⟨⟨hrc, hrs, hfr, hlo, hws, hcw⟩, hcode, hini, hy, hlen, hl, hin, hse⟩ := cw
  have hK : Back l R p e below s args y 3 8 (PreOf R mc ms Pc) (PostOf Qc mc ms free) := va_backW (hh := hh) (bytes := bytes) (maxL := maxL) (ret := ret) hM hp.1 hrc hrs hfr hlo hws hcw (fun a' U hW => word_at hW (Or.inl (by first | rfl | simp [Cond.onTables, Cond.keeps, Cond.steady])) hini)
  obtain ⟨hx, hb, hml, ho, -⟩ := S
  obtain ⟨-, ⟨cellB, hcB, hoB, hclB⟩, hPc⟩ := hp
  intro T hT X
  obtain ⟨v, vm₁, ⟨U', l2, c2, s2⟩, hW₁, X', ⟨g', mk, t, L, e1, e2, hq, h1, hL, h2, h3⟩, st⟩ := vx_callVW X hx (C := C) (hh := hh) (bytes := bytes) (maxL := maxL) (ret := ret) ho hl hin hse hcode hy hK (by rw [hT]; exact hcB) hoB hclB hg (hsize.trans hml.symm) (argsL := As) (rest := rest) (fun sig h => hn.trans (hlen sig h)) hstack hW (by rw [hb]; exact hdg)
    (fun vm₁ hW₁ => ⟨hf.1, hf.2, hPc (T.setVm vm₁) hT hW₁⟩)
  dsimp only [Pt.U, Pt.locs, Pt.cells, Pt.slots] at X' e1 e2 h1 h2 h3 st
  subst h1; subst h2; subst h3
  exact ⟨v, (T.setVm vm₁).calling g' mk (Value.ref b :: As).toArray, t, U', L, hT, X', hL, e1, e2, hq, st⟩
section
variable {y : MethodName} {bytes cc : ByteArray} {maxL nL mc ms n index : Nat} {ret : Option FieldType} {ws : List Cond} {rm : Room} {Pc : Array Value → State → Prop} {Qc : Array Value → State → Outcome → State → Prop} {XC : String → State → State → Prop} {free : Addr → Prop} {Ts : List Cond} {own C : String} {b : Addr} {As rest : List Value} {g : JFrame}
theorem vx_runVX {hh : List (Nat × Nat × Nat × Nat)} (S : CallFix p m c cc nL s args Ts own) (hM : vx_Met l y ws rm Pc Qc XC mc ms free) (cw : vx_CVW R s args own C index y bytes maxL ret hh ws rm mc ms n) (hp : PreV s H C b Pc As)
    (hg : g.method = m) (hn : As.length = n) (hsize : g.locals.size = nL) (hstack : g.stack = As.reverse ++ .ref b :: rest) (hW : 2 * g.monitorRoom + (rest.map fun v => v.category).sum ≤ 8) (hdg : decode cc g.pc = .ok (.invokevirtual index, 3)) (hf : cells + mc ≤ R.cells ∧ slots + ms ≤ R.slots) :
    vx_Run p l e R s m args below meth c H locs cells slots mc ms g rest (Qc (Value.ref b :: As).toArray) XC free := by
  obtain ⟨⟨hrc, hrs, hfr, hlo, hws, hcw⟩, hcode, hini, hy, hlen, hl, hin, hse⟩ := cw
  have hK : vx_Back l R p e below s args y 3 8 (PreOf R mc ms Pc) (PostOf Qc mc ms free) (vx_Post XC mc ms free) := vx_backW (hh := hh) (bytes := bytes) (maxL := maxL) (ret := ret) hM hp.1 hrc hrs hfr hlo hws hcw (fun a' U hW => word_at hW (Or.inl (by first | rfl | simp [Cond.onTables, Cond.keeps, Cond.steady])) hini)
  obtain ⟨hx, hb, hml, ho, -⟩ := S
  obtain ⟨-, ⟨cellB, hcB, hoB, hclB⟩, hPc⟩ := hp
  intro T hT X
  rcases vx_callVX X hx (C := C) (hh := hh) (bytes := bytes) (maxL := maxL) (ret := ret) ho hl hin hse hcode hy hK (by rw [hT]; exact hcB) hoB hclB hg (hsize.trans hml.symm) (argsL := As) (rest := rest) (fun sig h => hn.trans (hlen sig h)) hstack hW (by rw [hb]; exact hdg)
    (fun vm₁ hW₁ => ⟨hf.1, hf.2, hPc (T.setVm vm₁) hT hW₁⟩) with ⟨v, vm₁, ⟨U', l2, c2, s2⟩, hW₁, X', ⟨g', mk, t, L, e1, e2, hq, h1, hL, h2, h3⟩, st⟩ | ⟨q, vm₁, ⟨U', l2, c2, s2⟩, hW₁, X', ⟨g', mk, t, L, E, ce, e1, e2, hq, hce, hcv, hcl, h1, hL, h2, h3⟩, st⟩
  · dsimp only [Pt.U, Pt.locs, Pt.cells, Pt.slots] at X' e1 e2 h1 h2 h3 st
    subst h1; subst h2; subst h3
    exact Or.inl ⟨v, (T.setVm vm₁).calling g' mk (Value.ref b :: As).toArray, t, U', L, hT, X', hL, e1, e2, hq, st⟩
  · dsimp only [Pt.U, Pt.locs, Pt.cells, Pt.slots] at X' e1 e2 h1 h2 h3 st hcl
    subst h1; subst h2; subst h3
    exact Or.inr ⟨q, (T.setVm vm₁).calling g' mk (Value.ref b :: As).toArray, t, U', L, E, ce, hT, X', hL, e1, e2, hq, hce, hcv, vx_cls hW₁ hcl, st⟩
theorem vx_runSX {hh : List (Nat × Nat × Nat × Nat)} (S : CallFix p m c cc nL s args Ts own) (hM : vx_Met l y ws rm Pc Qc XC mc ms free) (cw : vx_CSW R s args own index y bytes maxL ret hh ws rm mc ms n) (hp : PreS s H Pc As)
    (hg : g.method = m) (hn : As.length = n) (hsize : g.locals.size = nL) (hstack : g.stack = As.reverse ++ rest) (hW : 2 * g.monitorRoom + (rest.map fun v => v.category).sum ≤ 8) (hdg : decode cc g.pc = .ok (.invokestatic index, 3)) (hf : cells + mc ≤ R.cells ∧ slots + ms ≤ R.slots) :
    vx_Run p l e R s m args below meth c H locs cells slots mc ms g rest (Qc As.toArray) XC free := by
  obtain ⟨⟨hrc, hrs, hfr, hlo, hws, hcw⟩, hcode, hini, hy, hlen, hl, hstt⟩ := cw
  have hK : vx_Back l R p e below s args y 3 8 (PreOf R mc ms Pc) (PostOf Qc mc ms free) (vx_Post XC mc ms free) := vx_backW (hh := hh) (bytes := bytes) (maxL := maxL) (ret := ret) hM hp.1 hrc hrs hfr hlo hws hcw (fun a' U hW => word_at hW (Or.inl (by first | rfl | simp [Cond.onTables, Cond.keeps, Cond.steady])) hini)
  obtain ⟨hx, hb, hml, ho, -⟩ := S
  intro T hT X
  rcases vx_callSX X hx (hh := hh) (bytes := bytes) (maxL := maxL) (ret := ret) ho hl hstt hini hcode hy hK hg (hsize.trans hml.symm) (argsL := As) (rest := rest) (fun sig h => hn.trans (hlen sig h)) hstack hW (by rw [hb]; exact hdg)
    (fun vm₁ hW₁ => ⟨hf.1, hf.2, hp.2 (T.setVm vm₁) hT hW₁⟩) with ⟨v, vm₁, ⟨U', l2, c2, s2⟩, hW₁, X', ⟨g', mk, t, L, e1, e2, hq, h1, hL, h2, h3⟩, st⟩ | ⟨q, vm₁, ⟨U', l2, c2, s2⟩, hW₁, X', ⟨g', mk, t, L, E, ce, e1, e2, hq, hce, hcv, hcl, h1, hL, h2, h3⟩, st⟩
  · dsimp only [Pt.U, Pt.locs, Pt.cells, Pt.slots] at X' e1 e2 h1 h2 h3 st
    subst h1; subst h2; subst h3
    exact Or.inl ⟨v, (T.setVm vm₁).calling g' mk As.toArray, t, U', L, hT, X', hL, e1, e2, hq, st⟩
  · dsimp only [Pt.U, Pt.locs, Pt.cells, Pt.slots] at X' e1 e2 h1 h2 h3 st hcl
    subst h1; subst h2; subst h3
    exact Or.inr ⟨q, (T.setVm vm₁).calling g' mk As.toArray, t, U', L, E, ce, hT, X', hL, e1, e2, hq, hce, hcv, vx_cls hW₁ hcl, st⟩
end
end VXH
theorem vx_ofWH {l : Launch} {y : MethodName} {ws ws' : List Cond} {rm : Room} {Pc : Array Value → State → Prop} {Qc : Array Value → State → Outcome → State → Prop} {XC : String → State → State → Prop} {mc ms : Nat} {free : Addr → Prop} {cc : ByteArray} {maxL : Nat} {ret : Option FieldType} {hh : List (Nat × Nat × Nat × Nat)}
    (hy : plainName y.cls = true) (hw : ws = Cond.codeWith y cc maxL ret hh :: ws')
    (body : ∀ p e s m args below meth c s₁, BodyLoose p l y (headSpec ws rm) cc maxL ret e s m args below meth c s₁ → c.maxLocals = maxL → Pc args s →
      W p l e (headSpec ws rm).room s m args below meth c s.heap [] 0 0 (vx_MQ below Qc XC args s mc ms free) (entryFrame m args maxL)) : vx_Met l y ws rm Pc Qc XC mc ms free := by
  refine MetFree.of_bodyS (code := cc) (maxLocals := maxL) (ret := ret) hy ?_ ?_
  · intro args s m h hn
    obtain ⟨m9, meth, c, hn9, h1, h2, h3, h4, -, h5, h6, -⟩ := Cond.codeWith_spec (atoms_spec (ws := ws) h _ (by rw [hw]; exact List.mem_cons_self))
    cases hn.symm.trans hn9
    exact ⟨meth, c, h1, h2, h3, h4, h5, h6⟩
  · intro p e s m args below meth c s₁ B hml hP _
    have hh0 : s₁.heap = s.heap := by rw [B.state]; rfl
    obtain ⟨t, a1, o, b1, b2, b3⟩ := body p e s m args below meth c s₁ B hml hP s₁ hh0 (Stand.of_body B)
    exact ⟨t, o, a1, b1, b2, b3⟩
/-! ===== END ===== -/
end
section
/-! ===== BEGIN printed: names, fields, word lists, decode rows ===== -/
def RX0 : String := "Quarterboard"
def TX0 : u_T := fun k => match k with
  | 0 => ("Quarterboard", "withBlocks", "Z", false)
  | 1 => ("Quarterboard", "stage", "I", false)
  | 2 => ("Quarterboard", "player", "I", false)
  | 3 => ("Quarterboard", "held", "I", false)
  | 4 => ("Quarterboard", "victor", "I", false)
  | 5 => ("Quarterboard", "filled", "I", false)
  | 6 => ("Quarterboard", "used", "I", false)
  | 7 => ("Quarterboard", "digits", "J", false)
  | 8 => ("Quarterboard", "hasKept", "Z", false)
  | 9 => ("Quarterboard", "keptFilled", "I", false)
  | _ => ("Quarterboard", "keptDigits", "J", false)
def tyX0 : Nat → FieldType := fun k => match k with
  | 0 => .boolean
  | 1 => .int
  | 2 => .int
  | 3 => .int
  | 4 => .int
  | 5 => .int
  | 6 => .int
  | 7 => .long
  | 8 => .boolean
  | 9 => .int
  | _ => .long
abbrev wsX00 : List Cond := u_ws RX0 TX0 11
theorem nmX0 : ∀ a, a < 11 → ∀ b, b < 11 → a ≠ b → (TX0 a).2.1 ≠ (TX0 b).2.1 := by decide +kernel
theorem tyX0_ok : ∀ k, k < 11 → parseFieldDescriptor (TX0 k).2.2.1 = some (tyX0 k) := by decide +kernel
abbrev cX0_init : ByteArray := prog_1_method_1_code
def yX0_init : MethodName := ⟨RX0, "<init>", "()V"⟩
abbrev cX0_begin : ByteArray := prog_1_method_2_code
def yX0_begin : MethodName := ⟨RX0, "begin", "(Z)I"⟩
abbrev cX0_give : ByteArray := prog_1_method_3_code
def yX0_give : MethodName := ⟨RX0, "give", "(I)I"⟩
abbrev cX0_place : ByteArray := prog_1_method_4_code
def yX0_place : MethodName := ⟨RX0, "place", "(I)I"⟩
abbrev cX0_phase : ByteArray := prog_1_method_5_code
def yX0_phase : MethodName := ⟨RX0, "phase", "()I"⟩
abbrev cX0_onTurn : ByteArray := prog_1_method_6_code
def yX0_onTurn : MethodName := ⟨RX0, "onTurn", "()I"⟩
abbrev cX0_hand : ByteArray := prog_1_method_7_code
def yX0_hand : MethodName := ⟨RX0, "hand", "()I"⟩
abbrev cX0_pieceAt : ByteArray := prog_1_method_8_code
def yX0_pieceAt : MethodName := ⟨RX0, "pieceAt", "(I)I"⟩
abbrev cX0_placed : ByteArray := prog_1_method_9_code
def yX0_placed : MethodName := ⟨RX0, "placed", "()I"⟩
abbrev cX0_winner : ByteArray := prog_1_method_10_code
def yX0_winner : MethodName := ⟨RX0, "winner", "()I"⟩
abbrev cX0_lines : ByteArray := prog_1_method_11_code
def yX0_lines : MethodName := ⟨RX0, "lines", "()I"⟩
abbrev cX0_onLine : ByteArray := prog_1_method_12_code
def yX0_onLine : MethodName := ⟨RX0, "onLine", "(I)I"⟩
abbrev cX0_shared : ByteArray := prog_1_method_13_code
def yX0_shared : MethodName := ⟨RX0, "shared", "(I)I"⟩
abbrev cX0_winning : ByteArray := prog_1_method_14_code
def yX0_winning : MethodName := ⟨RX0, "winning", "(I)I"⟩
abbrev cX0_safe : ByteArray := prog_1_method_15_code
def yX0_safe : MethodName := ⟨RX0, "safe", "()I"⟩
abbrev cX0_worth : ByteArray := prog_1_method_16_code
def yX0_worth : MethodName := ⟨RX0, "worth", "(I)I"⟩
abbrev cX0_best : ByteArray := prog_1_method_17_code
def yX0_best : MethodName := ⟨RX0, "best", "(I)I"⟩
abbrev cX0_keep : ByteArray := prog_1_method_18_code
def yX0_keep : MethodName := ⟨RX0, "keep", "()I"⟩
abbrev cX0_isAlike : ByteArray := prog_1_method_19_code
def yX0_isAlike : MethodName := ⟨RX0, "isAlike", "()Z"⟩
abbrev cX0_symmetries : ByteArray := prog_1_method_20_code
def yX0_symmetries : MethodName := ⟨RX0, "symmetries", "()I"⟩
abbrev cX0_isNumber : ByteArray := prog_1_method_21_code
def yX0_isNumber : MethodName := ⟨RX0, "isNumber", "(I)Z"⟩
abbrev cX0_has : ByteArray := prog_1_method_22_code
def yX0_has : MethodName := ⟨RX0, "has", "(II)Z"⟩
abbrev cX0_withOne : ByteArray := prog_1_method_23_code
def yX0_withOne : MethodName := ⟨RX0, "withOne", "(JI)I"⟩
abbrev cX0_ownDigits : ByteArray := prog_1_method_24_code
def yX0_ownDigits : MethodName := ⟨RX0, "ownDigits", "(I)I"⟩
abbrev cX0_atFirstSquare : ByteArray := prog_1_method_25_code
def yX0_atFirstSquare : MethodName := ⟨RX0, "atFirstSquare", "(I)J"⟩
abbrev cX0_put : ByteArray := prog_1_method_26_code
def yX0_put : MethodName := ⟨RX0, "put", "(II)V"⟩
abbrev cX0_lift : ByteArray := prog_1_method_27_code
def yX0_lift : MethodName := ⟨RX0, "lift", "(II)V"⟩
abbrev cX0_inCommon : ByteArray := prog_1_method_28_code
def yX0_inCommon : MethodName := ⟨RX0, "inCommon", "(I)I"⟩
abbrev cX0_wonLines : ByteArray := prog_1_method_29_code
def yX0_wonLines : MethodName := ⟨RX0, "wonLines", "()I"⟩
abbrev cX0_lacksOne : ByteArray := prog_1_method_30_code
def yX0_lacksOne : MethodName := ⟨RX0, "lacksOne", "(I)Z"⟩
abbrev cX0_winningSquares : ByteArray := prog_1_method_31_code
def yX0_winningSquares : MethodName := ⟨RX0, "winningSquares", "(I)I"⟩
abbrev cX0_winningDigits : ByteArray := prog_1_method_32_code
def yX0_winningDigits : MethodName := ⟨RX0, "winningDigits", "()I"⟩
abbrev cX0_safePieces : ByteArray := prog_1_method_33_code
def yX0_safePieces : MethodName := ⟨RX0, "safePieces", "()I"⟩
abbrev cX0_canLookAhead : ByteArray := prog_1_method_34_code
def yX0_canLookAhead : MethodName := ⟨RX0, "canLookAhead", "(I)Z"⟩
abbrev cX0_bestPiece : ByteArray := prog_1_method_35_code
def yX0_bestPiece : MethodName := ⟨RX0, "bestPiece", "(I)I"⟩
abbrev cX0_bestSquare : ByteArray := prog_1_method_36_code
def yX0_bestSquare : MethodName := ⟨RX0, "bestSquare", "(I)I"⟩
abbrev cX0_worthAfterPlacing : ByteArray := prog_1_method_37_code
def yX0_worthAfterPlacing : MethodName := ⟨RX0, "worthAfterPlacing", "(II)I"⟩
abbrev cX0_worthToGive : ByteArray := prog_1_method_38_code
def yX0_worthToGive : MethodName := ⟨RX0, "worthToGive", "(I)I"⟩
abbrev cX0_worthToPlace : ByteArray := prog_1_method_39_code
def yX0_worthToPlace : MethodName := ⟨RX0, "worthToPlace", "(II)I"⟩
abbrev cX0_giverWins : ByteArray := prog_1_method_40_code
def yX0_giverWins : MethodName := ⟨RX0, "giverWins", "(I)Z"⟩
abbrev cX0_giverLoses : ByteArray := prog_1_method_41_code
def yX0_giverLoses : MethodName := ⟨RX0, "giverLoses", "(I)Z"⟩
abbrev cX0_placerWinsLater : ByteArray := prog_1_method_42_code
def yX0_placerWinsLater : MethodName := ⟨RX0, "placerWinsLater", "(II)Z"⟩
abbrev cX0_placerLoses : ByteArray := prog_1_method_43_code
def yX0_placerLoses : MethodName := ⟨RX0, "placerLoses", "(II)Z"⟩
abbrev cX0_turnedSquare : ByteArray := prog_1_method_44_code
def yX0_turnedSquare : MethodName := ⟨RX0, "turnedSquare", "(II)I"⟩
abbrev cX0_turned : ByteArray := prog_1_method_45_code
def yX0_turned : MethodName := ⟨RX0, "turned", "(JI)J"⟩
abbrev cX0_levelled : ByteArray := prog_1_method_46_code
def yX0_levelled : MethodName := ⟨RX0, "levelled", "(JI)J"⟩
abbrev cX0_waysOfMarks : ByteArray := prog_1_method_47_code
def yX0_waysOfMarks : MethodName := ⟨RX0, "waysOfMarks", "(IIJ)I"⟩
abbrev cX0_equalMarks : ByteArray := prog_1_method_48_code
def yX0_equalMarks : MethodName := ⟨RX0, "equalMarks", "(JII)I"⟩
def RX1 : String := "QuarterboardModel"
def TX1 : u_T := fun k => match k with
  | _ => ("", "", "", false)
def tyX1 : Nat → FieldType := fun k => match k with
  | _ => .int
abbrev wsX10 : List Cond := u_ws RX1 TX1 0
theorem nmX1 : ∀ a, a < 0 → ∀ b, b < 0 → a ≠ b → (TX1 a).2.1 ≠ (TX1 b).2.1 := by decide +kernel
theorem tyX1_ok : ∀ k, k < 0 → parseFieldDescriptor (TX1 k).2.2.1 = some (tyX1 k) := by decide +kernel
def RJ6 : String := "java/lang/Integer"
def TJ6 : u_T := fun k => match k with
  | _ => ("", "", "", false)
def tyJ6 : Nat → FieldType := fun k => match k with
  | _ => .int
abbrev wsJ60 : List Cond := u_ws RJ6 TJ6 0
theorem nmJ6 : ∀ a, a < 0 → ∀ b, b < 0 → a ≠ b → (TJ6 a).2.1 ≠ (TJ6 b).2.1 := by decide +kernel
theorem tyJ6_ok : ∀ k, k < 0 → parseFieldDescriptor (TJ6 k).2.2.1 = some (tyJ6 k) := by decide +kernel
abbrev cJ6_bitCount_0f7a4 : ByteArray := prog_8_method_49_code
def yJ6_bitCount_0f7a4 : MethodName := ⟨RJ6, "bitCount", "(I)I"⟩
def RJ0 : String := "java/lang/String"
def TJ0 : u_T := fun k => match k with
  | _ => ("", "", "", false)
def tyJ0 : Nat → FieldType := fun k => match k with
  | _ => .int
abbrev wsJ00 : List Cond := u_ws RJ0 TJ0 0
theorem nmJ0 : ∀ a, a < 0 → ∀ b, b < 0 → a ≠ b → (TJ0 a).2.1 ≠ (TJ0 b).2.1 := by decide +kernel
theorem tyJ0_ok : ∀ k, k < 0 → parseFieldDescriptor (TJ0 k).2.2.1 = some (tyJ0 k) := by decide +kernel
def RL : String := "QuarterboardLaw"
def wsX0_init : List Cond := .code yX0_init cX0_init 1 none :: ([.methodLink RX0 1 objectInit, .instanceMethod objectInit, .code objectInit ⟨#[0xb1]⟩ 1 none, .fieldLink RX0 9 "Quarterboard" "held" "I", .fieldLink RX0 13 "Quarterboard" "victor" "I"] ++ wsX00)
def wsJ6_bitCount_0f7a4 : List Cond := .code yJ6_bitCount_0f7a4 cJ6_bitCount_0f7a4 1 (some .int) :: ([.constant RJ6 265 (1431655765), .constant RJ6 266 (858993459), .constant RJ6 267 (252645135)])
def wsX0_begin : List Cond := .code yX0_begin cX0_begin 3 (some .int) :: ([.fieldLink RX0 16 "Quarterboard" "filled" "I", .fieldLink RX0 25 "Quarterboard" "withBlocks" "Z", .fieldLink RX0 29 "Quarterboard" "stage" "I", .fieldLink RX0 32 "Quarterboard" "player" "I", .fieldLink RX0 9 "Quarterboard" "held" "I", .fieldLink RX0 13 "Quarterboard" "victor" "I", .fieldLink RX0 35 "Quarterboard" "used" "I", .fieldLink RX0 38 "Quarterboard" "digits" "J", .methodLink RX0 19 yJ6_bitCount_0f7a4, .static yJ6_bitCount_0f7a4, .initialized RJ6, .code yJ6_bitCount_0f7a4 cJ6_bitCount_0f7a4 1 (some .int), .constant RJ6 265 (1431655765), .constant RJ6 266 (858993459), .constant RJ6 267 (252645135)] ++ wsX00)
def wsX0_isNumber : List Cond := .code yX0_isNumber cX0_isNumber 1 (some .boolean) :: ([])
def wsX0_has : List Cond := .code yX0_has cX0_has 2 (some .boolean) :: ([])
def wsX0_give : List Cond := .code yX0_give cX0_give 2 (some .int) :: ([.classLink RX0 46 "java/lang/IndexOutOfBoundsException", .initialized "java/lang/IndexOutOfBoundsException", .classLink RX0 53 "java/lang/IllegalStateException", .initialized "java/lang/IllegalStateException", .fieldLink RX0 29 "Quarterboard" "stage" "I", .fieldLink RX0 35 "Quarterboard" "used" "I", .fieldLink RX0 9 "Quarterboard" "held" "I", .fieldLink RX0 32 "Quarterboard" "player" "I", .methodLink RX0 42 yX0_isNumber, .static yX0_isNumber, .initialized RX0, .code yX0_isNumber cX0_isNumber 1 (some .boolean), .methodLink RX0 58 yX0_has, .static yX0_has, .code yX0_has cX0_has 2 (some .boolean)] ++ wsX00 ++ (vx_atS RX0 50 "java/lang/IndexOutOfBoundsException" ["java/lang/RuntimeException", "java/lang/Exception"]).filter goodWord ++ (vx_atS RX0 57 "java/lang/IllegalStateException" ["java/lang/RuntimeException", "java/lang/Exception"]).filter goodWord)
def wsX0_atFirstSquare : List Cond := .code yX0_atFirstSquare cX0_atFirstSquare 1 (some .long) :: ([.constantLong RX0 141 (2), .constantLong RX0 143 (4), .constantLong RX0 145 (8)])
def wsX0_put : List Cond := .code yX0_put cX0_put 3 none :: ([.fieldLink RX0 16 "Quarterboard" "filled" "I", .fieldLink RX0 35 "Quarterboard" "used" "I", .fieldLink RX0 38 "Quarterboard" "digits" "J", .methodLink RX0 147 yX0_atFirstSquare, .static yX0_atFirstSquare, .initialized RX0, .code yX0_atFirstSquare cX0_atFirstSquare 1 (some .long), .constantLong RX0 141 (2), .constantLong RX0 143 (4), .constantLong RX0 145 (8)] ++ wsX00)
def wsX0_lines : List Cond := .code yX0_lines cX0_lines 1 (some .int) :: ([.fieldLink RX0 25 "Quarterboard" "withBlocks" "Z", .fieldLink RX0 83 "Quarterboard" "LINES" "[I"] ++ wsX00)
def wsX0_withOne : List Cond := .code yX0_withOne cX0_withOne 3 (some .int) :: ([.constant RX0 78 (65535)])
def wsX0_inCommon : List Cond := .code yX0_inCommon cX0_inCommon 6 (some .int) :: ([.fieldLink RX0 16 "Quarterboard" "filled" "I", .fieldLink RX0 38 "Quarterboard" "digits" "J", .methodLink RX0 79 yX0_withOne, .static yX0_withOne, .initialized RX0, .code yX0_withOne cX0_withOne 3 (some .int), .constant RX0 78 (65535)] ++ wsX00)
def wsX0_wonLines : List Cond := .code yX0_wonLines cX0_wonLines 4 (some .int) :: ([.fieldLink RX0 83 "Quarterboard" "LINES" "[I", .fieldLink RX0 16 "Quarterboard" "filled" "I", .methodLink RX0 87 yX0_lines, .instanceMethod yX0_lines, .selects RX0 yX0_lines yX0_lines, .initialized RX0, .code yX0_lines cX0_lines 1 (some .int), .fieldLink RX0 25 "Quarterboard" "withBlocks" "Z", .methodLink RX0 92 yX0_inCommon, .instanceMethod yX0_inCommon, .selects RX0 yX0_inCommon yX0_inCommon, .code yX0_inCommon cX0_inCommon 6 (some .int), .fieldLink RX0 38 "Quarterboard" "digits" "J", .methodLink RX0 79 yX0_withOne, .static yX0_withOne, .code yX0_withOne cX0_withOne 3 (some .int), .constant RX0 78 (65535)] ++ wsX00)
def wsX0_place_r1 : List Cond := [Cond.classLink RX0 46 "java/lang/IndexOutOfBoundsException", Cond.initialized "java/lang/IndexOutOfBoundsException", Cond.classLink RX0 53 "java/lang/IllegalStateException", Cond.initialized "java/lang/IllegalStateException", Cond.fieldLink RX0 29 "Quarterboard" "stage" "I", Cond.fieldLink RX0 16 "Quarterboard" "filled" "I", Cond.fieldLink RX0 9 "Quarterboard" "held" "I", Cond.fieldLink RX0 32 "Quarterboard" "player" "I", Cond.fieldLink RX0 13 "Quarterboard" "victor" "I", Cond.constant RX0 78 (65535), Cond.methodLink RX0 42 yX0_isNumber, Cond.static yX0_isNumber, Cond.initialized RX0, Cond.code yX0_isNumber cX0_isNumber 1 (some .boolean), Cond.methodLink RX0 58 yX0_has, Cond.static yX0_has, Cond.code yX0_has cX0_has 2 (some .boolean), Cond.methodLink RX0 70 yX0_put, Cond.instanceMethod yX0_put, Cond.selects RX0 yX0_put yX0_put, Cond.code yX0_put cX0_put 3 none, Cond.fieldLink RX0 35 "Quarterboard" "used" "I", Cond.fieldLink RX0 38 "Quarterboard" "digits" "J", Cond.methodLink RX0 147 yX0_atFirstSquare]
def wsX0_place_r2 : List Cond := [Cond.static yX0_atFirstSquare, Cond.code yX0_atFirstSquare cX0_atFirstSquare 1 (some .long), Cond.constantLong RX0 141 (2), Cond.constantLong RX0 143 (4), Cond.constantLong RX0 145 (8), Cond.methodLink RX0 74 yX0_wonLines, Cond.instanceMethod yX0_wonLines, Cond.selects RX0 yX0_wonLines yX0_wonLines, Cond.code yX0_wonLines cX0_wonLines 4 (some .int), Cond.fieldLink RX0 83 "Quarterboard" "LINES" "[I", Cond.methodLink RX0 87 yX0_lines, Cond.instanceMethod yX0_lines, Cond.selects RX0 yX0_lines yX0_lines, Cond.code yX0_lines cX0_lines 1 (some .int), Cond.fieldLink RX0 25 "Quarterboard" "withBlocks" "Z", Cond.methodLink RX0 92 yX0_inCommon, Cond.instanceMethod yX0_inCommon, Cond.selects RX0 yX0_inCommon yX0_inCommon, Cond.code yX0_inCommon cX0_inCommon 6 (some .int), Cond.methodLink RX0 79 yX0_withOne, Cond.static yX0_withOne, Cond.code yX0_withOne cX0_withOne 3 (some .int)]
def wsX0_place : List Cond := .code yX0_place cX0_place 3 (some .int) :: ((wsX0_place_r1 ++ wsX0_place_r2) ++ wsX00 ++ (vx_atS RX0 50 "java/lang/IndexOutOfBoundsException" ["java/lang/RuntimeException", "java/lang/Exception"]).filter goodWord ++ (vx_atS RX0 57 "java/lang/IllegalStateException" ["java/lang/RuntimeException", "java/lang/Exception"]).filter goodWord)
def wsX0_phase : List Cond := .code yX0_phase cX0_phase 1 (some .int) :: ([.fieldLink RX0 29 "Quarterboard" "stage" "I"] ++ wsX00)
def wsX0_onTurn : List Cond := .code yX0_onTurn cX0_onTurn 1 (some .int) :: ([.fieldLink RX0 32 "Quarterboard" "player" "I"] ++ wsX00)
def wsX0_hand : List Cond := .code yX0_hand cX0_hand 1 (some .int) :: ([.fieldLink RX0 9 "Quarterboard" "held" "I"] ++ wsX00)
def wsX0_pieceAt : List Cond := .code yX0_pieceAt cX0_pieceAt 4 (some .int) :: ([.classLink RX0 46 "java/lang/IndexOutOfBoundsException", .initialized "java/lang/IndexOutOfBoundsException", .fieldLink RX0 16 "Quarterboard" "filled" "I", .fieldLink RX0 38 "Quarterboard" "digits" "J", .methodLink RX0 42 yX0_isNumber, .static yX0_isNumber, .initialized RX0, .code yX0_isNumber cX0_isNumber 1 (some .boolean), .methodLink RX0 58 yX0_has, .static yX0_has, .code yX0_has cX0_has 2 (some .boolean), .methodLink RX0 79 yX0_withOne, .static yX0_withOne, .code yX0_withOne cX0_withOne 3 (some .int), .constant RX0 78 (65535)] ++ wsX00 ++ (vx_atS RX0 50 "java/lang/IndexOutOfBoundsException" ["java/lang/RuntimeException", "java/lang/Exception"]).filter goodWord)
def wsX0_placed : List Cond := .code yX0_placed cX0_placed 1 (some .int) :: ([.fieldLink RX0 16 "Quarterboard" "filled" "I", .methodLink RX0 19 yJ6_bitCount_0f7a4, .static yJ6_bitCount_0f7a4, .initialized RJ6, .code yJ6_bitCount_0f7a4 cJ6_bitCount_0f7a4 1 (some .int), .constant RJ6 265 (1431655765), .constant RJ6 266 (858993459), .constant RJ6 267 (252645135)] ++ wsX00)
def wsX0_winner : List Cond := .code yX0_winner cX0_winner 1 (some .int) :: ([.fieldLink RX0 13 "Quarterboard" "victor" "I"] ++ wsX00)
def wsX0_onLine : List Cond := .code yX0_onLine cX0_onLine 2 (some .int) :: ([.classLink RX0 46 "java/lang/IndexOutOfBoundsException", .initialized "java/lang/IndexOutOfBoundsException", .fieldLink RX0 83 "Quarterboard" "LINES" "[I", .fieldLink RX0 16 "Quarterboard" "filled" "I", .methodLink RX0 87 yX0_lines, .instanceMethod yX0_lines, .selects RX0 yX0_lines yX0_lines, .initialized RX0, .code yX0_lines cX0_lines 1 (some .int), .fieldLink RX0 25 "Quarterboard" "withBlocks" "Z", .methodLink RX0 19 yJ6_bitCount_0f7a4, .static yJ6_bitCount_0f7a4, .initialized RJ6, .code yJ6_bitCount_0f7a4 cJ6_bitCount_0f7a4 1 (some .int), .constant RJ6 265 (1431655765), .constant RJ6 266 (858993459), .constant RJ6 267 (252645135)] ++ wsX00 ++ (vx_atS RX0 50 "java/lang/IndexOutOfBoundsException" ["java/lang/RuntimeException", "java/lang/Exception"]).filter goodWord)
def wsX0_shared : List Cond := .code yX0_shared cX0_shared 2 (some .int) :: ([.classLink RX0 46 "java/lang/IndexOutOfBoundsException", .initialized "java/lang/IndexOutOfBoundsException", .fieldLink RX0 83 "Quarterboard" "LINES" "[I", .methodLink RX0 87 yX0_lines, .instanceMethod yX0_lines, .selects RX0 yX0_lines yX0_lines, .initialized RX0, .code yX0_lines cX0_lines 1 (some .int), .fieldLink RX0 25 "Quarterboard" "withBlocks" "Z", .methodLink RX0 92 yX0_inCommon, .instanceMethod yX0_inCommon, .selects RX0 yX0_inCommon yX0_inCommon, .code yX0_inCommon cX0_inCommon 6 (some .int), .fieldLink RX0 16 "Quarterboard" "filled" "I", .fieldLink RX0 38 "Quarterboard" "digits" "J", .methodLink RX0 79 yX0_withOne, .static yX0_withOne, .code yX0_withOne cX0_withOne 3 (some .int), .constant RX0 78 (65535)] ++ wsX00 ++ (vx_atS RX0 50 "java/lang/IndexOutOfBoundsException" ["java/lang/RuntimeException", "java/lang/Exception"]).filter goodWord)
def wsX0_ownDigits : List Cond := .code yX0_ownDigits cX0_ownDigits 1 (some .int) :: ([])
def wsX0_lacksOne : List Cond := .code yX0_lacksOne cX0_lacksOne 3 (some .boolean) :: ([.fieldLink RX0 16 "Quarterboard" "filled" "I"] ++ wsX00)
def wsX0_winningSquares : List Cond := .code yX0_winningSquares cX0_winningSquares 6 (some .int) :: ([.fieldLink RX0 83 "Quarterboard" "LINES" "[I", .fieldLink RX0 16 "Quarterboard" "filled" "I", .methodLink RX0 155 yX0_ownDigits, .static yX0_ownDigits, .initialized RX0, .code yX0_ownDigits cX0_ownDigits 1 (some .int), .methodLink RX0 87 yX0_lines, .instanceMethod yX0_lines, .selects RX0 yX0_lines yX0_lines, .code yX0_lines cX0_lines 1 (some .int), .fieldLink RX0 25 "Quarterboard" "withBlocks" "Z", .methodLink RX0 158 yX0_lacksOne, .instanceMethod yX0_lacksOne, .selects RX0 yX0_lacksOne yX0_lacksOne, .code yX0_lacksOne cX0_lacksOne 3 (some .boolean), .methodLink RX0 92 yX0_inCommon, .instanceMethod yX0_inCommon, .selects RX0 yX0_inCommon yX0_inCommon, .code yX0_inCommon cX0_inCommon 6 (some .int), .fieldLink RX0 38 "Quarterboard" "digits" "J", .methodLink RX0 79 yX0_withOne, .static yX0_withOne, .code yX0_withOne cX0_withOne 3 (some .int), .constant RX0 78 (65535)] ++ wsX00)
def wsX0_winning_r1 : List Cond := [Cond.classLink RX0 46 "java/lang/IndexOutOfBoundsException", Cond.initialized "java/lang/IndexOutOfBoundsException", Cond.classLink RX0 53 "java/lang/IllegalStateException", Cond.initialized "java/lang/IllegalStateException", Cond.fieldLink RX0 29 "Quarterboard" "stage" "I", Cond.fieldLink RX0 35 "Quarterboard" "used" "I", Cond.methodLink RX0 42 yX0_isNumber, Cond.static yX0_isNumber, Cond.initialized RX0, Cond.code yX0_isNumber cX0_isNumber 1 (some .boolean), Cond.methodLink RX0 58 yX0_has, Cond.static yX0_has, Cond.code yX0_has cX0_has 2 (some .boolean), Cond.methodLink RX0 97 yX0_winningSquares, Cond.instanceMethod yX0_winningSquares, Cond.selects RX0 yX0_winningSquares yX0_winningSquares, Cond.code yX0_winningSquares cX0_winningSquares 6 (some .int), Cond.fieldLink RX0 83 "Quarterboard" "LINES" "[I", Cond.fieldLink RX0 16 "Quarterboard" "filled" "I", Cond.methodLink RX0 155 yX0_ownDigits, Cond.static yX0_ownDigits, Cond.code yX0_ownDigits cX0_ownDigits 1 (some .int), Cond.methodLink RX0 87 yX0_lines, Cond.instanceMethod yX0_lines]
def wsX0_winning_r2 : List Cond := [Cond.selects RX0 yX0_lines yX0_lines, Cond.code yX0_lines cX0_lines 1 (some .int), Cond.fieldLink RX0 25 "Quarterboard" "withBlocks" "Z", Cond.methodLink RX0 158 yX0_lacksOne, Cond.instanceMethod yX0_lacksOne, Cond.selects RX0 yX0_lacksOne yX0_lacksOne, Cond.code yX0_lacksOne cX0_lacksOne 3 (some .boolean), Cond.methodLink RX0 92 yX0_inCommon, Cond.instanceMethod yX0_inCommon, Cond.selects RX0 yX0_inCommon yX0_inCommon, Cond.code yX0_inCommon cX0_inCommon 6 (some .int), Cond.fieldLink RX0 38 "Quarterboard" "digits" "J", Cond.methodLink RX0 79 yX0_withOne, Cond.static yX0_withOne, Cond.code yX0_withOne cX0_withOne 3 (some .int), Cond.constant RX0 78 (65535)]
def wsX0_winning : List Cond := .code yX0_winning cX0_winning 2 (some .int) :: ((wsX0_winning_r1 ++ wsX0_winning_r2) ++ wsX00 ++ (vx_atS RX0 50 "java/lang/IndexOutOfBoundsException" ["java/lang/RuntimeException", "java/lang/Exception"]).filter goodWord ++ (vx_atS RX0 57 "java/lang/IllegalStateException" ["java/lang/RuntimeException", "java/lang/Exception"]).filter goodWord)
def wsX0_winningDigits : List Cond := .code yX0_winningDigits cX0_winningDigits 4 (some .int) :: ([.fieldLink RX0 83 "Quarterboard" "LINES" "[I", .methodLink RX0 87 yX0_lines, .instanceMethod yX0_lines, .selects RX0 yX0_lines yX0_lines, .initialized RX0, .code yX0_lines cX0_lines 1 (some .int), .fieldLink RX0 25 "Quarterboard" "withBlocks" "Z", .methodLink RX0 158 yX0_lacksOne, .instanceMethod yX0_lacksOne, .selects RX0 yX0_lacksOne yX0_lacksOne, .code yX0_lacksOne cX0_lacksOne 3 (some .boolean), .fieldLink RX0 16 "Quarterboard" "filled" "I", .methodLink RX0 92 yX0_inCommon, .instanceMethod yX0_inCommon, .selects RX0 yX0_inCommon yX0_inCommon, .code yX0_inCommon cX0_inCommon 6 (some .int), .fieldLink RX0 38 "Quarterboard" "digits" "J", .methodLink RX0 79 yX0_withOne, .static yX0_withOne, .code yX0_withOne cX0_withOne 3 (some .int), .constant RX0 78 (65535)] ++ wsX00)
def wsX0_safePieces_r1 : List Cond := [Cond.fieldLink RX0 35 "Quarterboard" "used" "I", Cond.methodLink RX0 161 yX0_winningDigits, Cond.instanceMethod yX0_winningDigits, Cond.selects RX0 yX0_winningDigits yX0_winningDigits, Cond.initialized RX0, Cond.code yX0_winningDigits cX0_winningDigits 4 (some .int), Cond.fieldLink RX0 83 "Quarterboard" "LINES" "[I", Cond.methodLink RX0 87 yX0_lines, Cond.instanceMethod yX0_lines, Cond.selects RX0 yX0_lines yX0_lines, Cond.code yX0_lines cX0_lines 1 (some .int), Cond.fieldLink RX0 25 "Quarterboard" "withBlocks" "Z", Cond.methodLink RX0 158 yX0_lacksOne, Cond.instanceMethod yX0_lacksOne, Cond.selects RX0 yX0_lacksOne yX0_lacksOne, Cond.code yX0_lacksOne cX0_lacksOne 3 (some .boolean), Cond.fieldLink RX0 16 "Quarterboard" "filled" "I", Cond.methodLink RX0 92 yX0_inCommon, Cond.instanceMethod yX0_inCommon, Cond.selects RX0 yX0_inCommon yX0_inCommon, Cond.code yX0_inCommon cX0_inCommon 6 (some .int), Cond.fieldLink RX0 38 "Quarterboard" "digits" "J", Cond.methodLink RX0 79 yX0_withOne, Cond.static yX0_withOne]
def wsX0_safePieces_r2 : List Cond := [Cond.code yX0_withOne cX0_withOne 3 (some .int), Cond.constant RX0 78 (65535), Cond.methodLink RX0 58 yX0_has, Cond.static yX0_has, Cond.code yX0_has cX0_has 2 (some .boolean), Cond.methodLink RX0 155 yX0_ownDigits, Cond.static yX0_ownDigits, Cond.code yX0_ownDigits cX0_ownDigits 1 (some .int)]
def wsX0_safePieces : List Cond := .code yX0_safePieces cX0_safePieces 4 (some .int) :: ((wsX0_safePieces_r1 ++ wsX0_safePieces_r2) ++ wsX00)
def wsX0_safe_r1 : List Cond := [Cond.classLink RX0 53 "java/lang/IllegalStateException", Cond.initialized "java/lang/IllegalStateException", Cond.fieldLink RX0 29 "Quarterboard" "stage" "I", Cond.methodLink RX0 100 yX0_safePieces, Cond.instanceMethod yX0_safePieces, Cond.selects RX0 yX0_safePieces yX0_safePieces, Cond.initialized RX0, Cond.code yX0_safePieces cX0_safePieces 4 (some .int), Cond.fieldLink RX0 35 "Quarterboard" "used" "I", Cond.methodLink RX0 161 yX0_winningDigits, Cond.instanceMethod yX0_winningDigits, Cond.selects RX0 yX0_winningDigits yX0_winningDigits, Cond.code yX0_winningDigits cX0_winningDigits 4 (some .int), Cond.fieldLink RX0 83 "Quarterboard" "LINES" "[I", Cond.methodLink RX0 87 yX0_lines, Cond.instanceMethod yX0_lines, Cond.selects RX0 yX0_lines yX0_lines, Cond.code yX0_lines cX0_lines 1 (some .int), Cond.fieldLink RX0 25 "Quarterboard" "withBlocks" "Z", Cond.methodLink RX0 158 yX0_lacksOne, Cond.instanceMethod yX0_lacksOne, Cond.selects RX0 yX0_lacksOne yX0_lacksOne, Cond.code yX0_lacksOne cX0_lacksOne 3 (some .boolean), Cond.fieldLink RX0 16 "Quarterboard" "filled" "I"]
def wsX0_safe_r2 : List Cond := [Cond.methodLink RX0 92 yX0_inCommon, Cond.instanceMethod yX0_inCommon, Cond.selects RX0 yX0_inCommon yX0_inCommon, Cond.code yX0_inCommon cX0_inCommon 6 (some .int), Cond.fieldLink RX0 38 "Quarterboard" "digits" "J", Cond.methodLink RX0 79 yX0_withOne, Cond.static yX0_withOne, Cond.code yX0_withOne cX0_withOne 3 (some .int), Cond.constant RX0 78 (65535), Cond.methodLink RX0 58 yX0_has, Cond.static yX0_has, Cond.code yX0_has cX0_has 2 (some .boolean), Cond.methodLink RX0 155 yX0_ownDigits, Cond.static yX0_ownDigits, Cond.code yX0_ownDigits cX0_ownDigits 1 (some .int)]
def wsX0_safe : List Cond := .code yX0_safe cX0_safe 1 (some .int) :: ((wsX0_safe_r1 ++ wsX0_safe_r2) ++ wsX00 ++ (vx_atS RX0 57 "java/lang/IllegalStateException" ["java/lang/RuntimeException", "java/lang/Exception"]).filter goodWord)
def wsX0_canLookAhead : List Cond := .code yX0_canLookAhead cX0_canLookAhead 3 (some .boolean) :: ([.fieldLink RX0 16 "Quarterboard" "filled" "I", .fieldLink RX0 29 "Quarterboard" "stage" "I", .methodLink RX0 19 yJ6_bitCount_0f7a4, .static yJ6_bitCount_0f7a4, .initialized RJ6, .code yJ6_bitCount_0f7a4 cJ6_bitCount_0f7a4 1 (some .int), .constant RJ6 265 (1431655765), .constant RJ6 266 (858993459), .constant RJ6 267 (252645135)] ++ wsX00)
def wsX0_lift : List Cond := .code yX0_lift cX0_lift 3 none :: ([.fieldLink RX0 16 "Quarterboard" "filled" "I", .fieldLink RX0 35 "Quarterboard" "used" "I", .fieldLink RX0 38 "Quarterboard" "digits" "J", .constantLong RX0 151 (281479271743489), .constantLong RX0 153 (-1)] ++ wsX00)
def wsX0_giverLoses_r1 : List Cond := [Cond.fieldLink RX0 16 "Quarterboard" "filled" "I", Cond.constant RX0 78 (65535), Cond.methodLink RX0 100 yX0_safePieces, Cond.instanceMethod yX0_safePieces, Cond.selects RX0 yX0_safePieces yX0_safePieces, Cond.initialized RX0, Cond.code yX0_safePieces cX0_safePieces 4 (some .int), Cond.fieldLink RX0 35 "Quarterboard" "used" "I", Cond.methodLink RX0 161 yX0_winningDigits, Cond.instanceMethod yX0_winningDigits, Cond.selects RX0 yX0_winningDigits yX0_winningDigits, Cond.code yX0_winningDigits cX0_winningDigits 4 (some .int), Cond.fieldLink RX0 83 "Quarterboard" "LINES" "[I", Cond.methodLink RX0 87 yX0_lines, Cond.instanceMethod yX0_lines, Cond.selects RX0 yX0_lines yX0_lines, Cond.code yX0_lines cX0_lines 1 (some .int), Cond.fieldLink RX0 25 "Quarterboard" "withBlocks" "Z", Cond.methodLink RX0 158 yX0_lacksOne, Cond.instanceMethod yX0_lacksOne, Cond.selects RX0 yX0_lacksOne yX0_lacksOne, Cond.code yX0_lacksOne cX0_lacksOne 3 (some .boolean), Cond.methodLink RX0 92 yX0_inCommon, Cond.instanceMethod yX0_inCommon]
def wsX0_giverLoses_r2 : List Cond := [Cond.selects RX0 yX0_inCommon yX0_inCommon, Cond.code yX0_inCommon cX0_inCommon 6 (some .int), Cond.fieldLink RX0 38 "Quarterboard" "digits" "J", Cond.methodLink RX0 79 yX0_withOne, Cond.static yX0_withOne, Cond.code yX0_withOne cX0_withOne 3 (some .int), Cond.methodLink RX0 58 yX0_has, Cond.static yX0_has, Cond.code yX0_has cX0_has 2 (some .boolean), Cond.methodLink RX0 155 yX0_ownDigits, Cond.static yX0_ownDigits, Cond.code yX0_ownDigits cX0_ownDigits 1 (some .int), Cond.methodLink RX0 176 yX0_placerWinsLater, Cond.instanceMethod yX0_placerWinsLater, Cond.selects RX0 yX0_placerWinsLater yX0_placerWinsLater, Cond.code yX0_giverWins cX0_giverWins 4 (some .boolean), Cond.methodLink RX0 179 yX0_placerLoses, Cond.instanceMethod yX0_placerLoses, Cond.selects RX0 yX0_placerLoses yX0_placerLoses, Cond.code yX0_placerLoses cX0_placerLoses 5 (some .boolean), Cond.methodLink RX0 70 yX0_put, Cond.instanceMethod yX0_put, Cond.selects RX0 yX0_put yX0_put, Cond.code yX0_put cX0_put 3 none]
def wsX0_giverLoses_r3 : List Cond := [Cond.methodLink RX0 147 yX0_atFirstSquare, Cond.static yX0_atFirstSquare, Cond.code yX0_atFirstSquare cX0_atFirstSquare 1 (some .long), Cond.constantLong RX0 141 (2), Cond.constantLong RX0 143 (4), Cond.constantLong RX0 145 (8), Cond.methodLink RX0 173 yX0_giverLoses, Cond.instanceMethod yX0_giverLoses, Cond.selects RX0 yX0_giverLoses yX0_giverLoses, Cond.methodLink RX0 167 yX0_lift, Cond.instanceMethod yX0_lift, Cond.selects RX0 yX0_lift yX0_lift, Cond.code yX0_lift cX0_lift 3 none, Cond.constantLong RX0 151 (281479271743489), Cond.constantLong RX0 153 (-1), Cond.code yX0_placerWinsLater cX0_placerWinsLater 5 (some .boolean), Cond.methodLink RX0 170 yX0_giverWins, Cond.instanceMethod yX0_giverWins, Cond.selects RX0 yX0_giverWins yX0_giverWins]
def wsX0_giverLoses : List Cond := .code yX0_giverLoses cX0_giverLoses 4 (some .boolean) :: ((wsX0_giverLoses_r1 ++ (wsX0_giverLoses_r2 ++ wsX0_giverLoses_r3)) ++ wsX00)
def wsX0_giverWins_r1 : List Cond := [Cond.methodLink RX0 100 yX0_safePieces, Cond.instanceMethod yX0_safePieces, Cond.selects RX0 yX0_safePieces yX0_safePieces, Cond.initialized RX0, Cond.code yX0_safePieces cX0_safePieces 4 (some .int), Cond.fieldLink RX0 35 "Quarterboard" "used" "I", Cond.methodLink RX0 161 yX0_winningDigits, Cond.instanceMethod yX0_winningDigits, Cond.selects RX0 yX0_winningDigits yX0_winningDigits, Cond.code yX0_winningDigits cX0_winningDigits 4 (some .int), Cond.fieldLink RX0 83 "Quarterboard" "LINES" "[I", Cond.methodLink RX0 87 yX0_lines, Cond.instanceMethod yX0_lines, Cond.selects RX0 yX0_lines yX0_lines, Cond.code yX0_lines cX0_lines 1 (some .int), Cond.fieldLink RX0 25 "Quarterboard" "withBlocks" "Z", Cond.methodLink RX0 158 yX0_lacksOne, Cond.instanceMethod yX0_lacksOne, Cond.selects RX0 yX0_lacksOne yX0_lacksOne, Cond.code yX0_lacksOne cX0_lacksOne 3 (some .boolean), Cond.fieldLink RX0 16 "Quarterboard" "filled" "I", Cond.methodLink RX0 92 yX0_inCommon, Cond.instanceMethod yX0_inCommon, Cond.selects RX0 yX0_inCommon yX0_inCommon]
def wsX0_giverWins_r2 : List Cond := [Cond.code yX0_inCommon cX0_inCommon 6 (some .int), Cond.fieldLink RX0 38 "Quarterboard" "digits" "J", Cond.methodLink RX0 79 yX0_withOne, Cond.static yX0_withOne, Cond.code yX0_withOne cX0_withOne 3 (some .int), Cond.constant RX0 78 (65535), Cond.methodLink RX0 58 yX0_has, Cond.static yX0_has, Cond.code yX0_has cX0_has 2 (some .boolean), Cond.methodLink RX0 155 yX0_ownDigits, Cond.static yX0_ownDigits, Cond.code yX0_ownDigits cX0_ownDigits 1 (some .int), Cond.methodLink RX0 179 yX0_placerLoses, Cond.instanceMethod yX0_placerLoses, Cond.selects RX0 yX0_placerLoses yX0_placerLoses, Cond.code yX0_giverLoses cX0_giverLoses 4 (some .boolean), Cond.methodLink RX0 176 yX0_placerWinsLater, Cond.instanceMethod yX0_placerWinsLater, Cond.selects RX0 yX0_placerWinsLater yX0_placerWinsLater, Cond.code yX0_placerLoses cX0_placerLoses 5 (some .boolean), Cond.methodLink RX0 70 yX0_put, Cond.instanceMethod yX0_put, Cond.selects RX0 yX0_put yX0_put, Cond.code yX0_put cX0_put 3 none]
def wsX0_giverWins_r3 : List Cond := [Cond.methodLink RX0 147 yX0_atFirstSquare, Cond.static yX0_atFirstSquare, Cond.code yX0_atFirstSquare cX0_atFirstSquare 1 (some .long), Cond.constantLong RX0 141 (2), Cond.constantLong RX0 143 (4), Cond.constantLong RX0 145 (8), Cond.methodLink RX0 173 yX0_giverLoses, Cond.instanceMethod yX0_giverLoses, Cond.selects RX0 yX0_giverLoses yX0_giverLoses, Cond.methodLink RX0 167 yX0_lift, Cond.instanceMethod yX0_lift, Cond.selects RX0 yX0_lift yX0_lift, Cond.code yX0_lift cX0_lift 3 none, Cond.constantLong RX0 151 (281479271743489), Cond.constantLong RX0 153 (-1), Cond.code yX0_placerWinsLater cX0_placerWinsLater 5 (some .boolean), Cond.methodLink RX0 170 yX0_giverWins, Cond.instanceMethod yX0_giverWins, Cond.selects RX0 yX0_giverWins yX0_giverWins]
def wsX0_giverWins : List Cond := .code yX0_giverWins cX0_giverWins 4 (some .boolean) :: ((wsX0_giverWins_r1 ++ (wsX0_giverWins_r2 ++ wsX0_giverWins_r3)) ++ wsX00)
def wsX0_placerLoses_r1 : List Cond := [Cond.fieldLink RX0 16 "Quarterboard" "filled" "I", Cond.methodLink RX0 58 yX0_has, Cond.static yX0_has, Cond.initialized RX0, Cond.code yX0_has cX0_has 2 (some .boolean), Cond.methodLink RX0 70 yX0_put, Cond.instanceMethod yX0_put, Cond.selects RX0 yX0_put yX0_put, Cond.code yX0_put cX0_put 3 none, Cond.fieldLink RX0 35 "Quarterboard" "used" "I", Cond.fieldLink RX0 38 "Quarterboard" "digits" "J", Cond.methodLink RX0 147 yX0_atFirstSquare, Cond.static yX0_atFirstSquare, Cond.code yX0_atFirstSquare cX0_atFirstSquare 1 (some .long), Cond.constantLong RX0 141 (2), Cond.constantLong RX0 143 (4), Cond.constantLong RX0 145 (8), Cond.methodLink RX0 173 yX0_giverLoses, Cond.instanceMethod yX0_giverLoses, Cond.selects RX0 yX0_giverLoses yX0_giverLoses, Cond.methodLink RX0 167 yX0_lift, Cond.instanceMethod yX0_lift, Cond.selects RX0 yX0_lift yX0_lift, Cond.code yX0_lift cX0_lift 3 none]
def wsX0_placerLoses_r2 : List Cond := [Cond.constantLong RX0 151 (281479271743489), Cond.constantLong RX0 153 (-1), Cond.code yX0_giverLoses cX0_giverLoses 4 (some .boolean), Cond.constant RX0 78 (65535), Cond.methodLink RX0 100 yX0_safePieces, Cond.instanceMethod yX0_safePieces, Cond.selects RX0 yX0_safePieces yX0_safePieces, Cond.code yX0_safePieces cX0_safePieces 4 (some .int), Cond.methodLink RX0 161 yX0_winningDigits, Cond.instanceMethod yX0_winningDigits, Cond.selects RX0 yX0_winningDigits yX0_winningDigits, Cond.code yX0_winningDigits cX0_winningDigits 4 (some .int), Cond.fieldLink RX0 83 "Quarterboard" "LINES" "[I", Cond.methodLink RX0 87 yX0_lines, Cond.instanceMethod yX0_lines, Cond.selects RX0 yX0_lines yX0_lines, Cond.code yX0_lines cX0_lines 1 (some .int), Cond.fieldLink RX0 25 "Quarterboard" "withBlocks" "Z", Cond.methodLink RX0 158 yX0_lacksOne, Cond.instanceMethod yX0_lacksOne, Cond.selects RX0 yX0_lacksOne yX0_lacksOne, Cond.code yX0_lacksOne cX0_lacksOne 3 (some .boolean), Cond.methodLink RX0 92 yX0_inCommon, Cond.instanceMethod yX0_inCommon]
def wsX0_placerLoses_r3 : List Cond := [Cond.selects RX0 yX0_inCommon yX0_inCommon, Cond.code yX0_inCommon cX0_inCommon 6 (some .int), Cond.methodLink RX0 79 yX0_withOne, Cond.static yX0_withOne, Cond.code yX0_withOne cX0_withOne 3 (some .int), Cond.methodLink RX0 155 yX0_ownDigits, Cond.static yX0_ownDigits, Cond.code yX0_ownDigits cX0_ownDigits 1 (some .int), Cond.methodLink RX0 176 yX0_placerWinsLater, Cond.instanceMethod yX0_placerWinsLater, Cond.selects RX0 yX0_placerWinsLater yX0_placerWinsLater, Cond.code yX0_giverWins cX0_giverWins 4 (some .boolean), Cond.methodLink RX0 179 yX0_placerLoses, Cond.instanceMethod yX0_placerLoses, Cond.selects RX0 yX0_placerLoses yX0_placerLoses, Cond.code yX0_placerWinsLater cX0_placerWinsLater 5 (some .boolean), Cond.methodLink RX0 170 yX0_giverWins, Cond.instanceMethod yX0_giverWins, Cond.selects RX0 yX0_giverWins yX0_giverWins]
def wsX0_placerLoses : List Cond := .code yX0_placerLoses cX0_placerLoses 5 (some .boolean) :: ((wsX0_placerLoses_r1 ++ (wsX0_placerLoses_r2 ++ wsX0_placerLoses_r3)) ++ wsX00)
def wsX0_placerWinsLater_r1 : List Cond := [Cond.fieldLink RX0 16 "Quarterboard" "filled" "I", Cond.methodLink RX0 58 yX0_has, Cond.static yX0_has, Cond.initialized RX0, Cond.code yX0_has cX0_has 2 (some .boolean), Cond.methodLink RX0 70 yX0_put, Cond.instanceMethod yX0_put, Cond.selects RX0 yX0_put yX0_put, Cond.code yX0_put cX0_put 3 none, Cond.fieldLink RX0 35 "Quarterboard" "used" "I", Cond.fieldLink RX0 38 "Quarterboard" "digits" "J", Cond.methodLink RX0 147 yX0_atFirstSquare, Cond.static yX0_atFirstSquare, Cond.code yX0_atFirstSquare cX0_atFirstSquare 1 (some .long), Cond.constantLong RX0 141 (2), Cond.constantLong RX0 143 (4), Cond.constantLong RX0 145 (8), Cond.methodLink RX0 170 yX0_giverWins, Cond.instanceMethod yX0_giverWins, Cond.selects RX0 yX0_giverWins yX0_giverWins, Cond.methodLink RX0 167 yX0_lift, Cond.instanceMethod yX0_lift, Cond.selects RX0 yX0_lift yX0_lift, Cond.code yX0_lift cX0_lift 3 none]
def wsX0_placerWinsLater_r2 : List Cond := [Cond.constantLong RX0 151 (281479271743489), Cond.constantLong RX0 153 (-1), Cond.code yX0_giverLoses cX0_giverLoses 4 (some .boolean), Cond.constant RX0 78 (65535), Cond.methodLink RX0 100 yX0_safePieces, Cond.instanceMethod yX0_safePieces, Cond.selects RX0 yX0_safePieces yX0_safePieces, Cond.code yX0_safePieces cX0_safePieces 4 (some .int), Cond.methodLink RX0 161 yX0_winningDigits, Cond.instanceMethod yX0_winningDigits, Cond.selects RX0 yX0_winningDigits yX0_winningDigits, Cond.code yX0_winningDigits cX0_winningDigits 4 (some .int), Cond.fieldLink RX0 83 "Quarterboard" "LINES" "[I", Cond.methodLink RX0 87 yX0_lines, Cond.instanceMethod yX0_lines, Cond.selects RX0 yX0_lines yX0_lines, Cond.code yX0_lines cX0_lines 1 (some .int), Cond.fieldLink RX0 25 "Quarterboard" "withBlocks" "Z", Cond.methodLink RX0 158 yX0_lacksOne, Cond.instanceMethod yX0_lacksOne, Cond.selects RX0 yX0_lacksOne yX0_lacksOne, Cond.code yX0_lacksOne cX0_lacksOne 3 (some .boolean), Cond.methodLink RX0 92 yX0_inCommon, Cond.instanceMethod yX0_inCommon]
def wsX0_placerWinsLater_r3 : List Cond := [Cond.selects RX0 yX0_inCommon yX0_inCommon, Cond.code yX0_inCommon cX0_inCommon 6 (some .int), Cond.methodLink RX0 79 yX0_withOne, Cond.static yX0_withOne, Cond.code yX0_withOne cX0_withOne 3 (some .int), Cond.methodLink RX0 155 yX0_ownDigits, Cond.static yX0_ownDigits, Cond.code yX0_ownDigits cX0_ownDigits 1 (some .int), Cond.methodLink RX0 176 yX0_placerWinsLater, Cond.instanceMethod yX0_placerWinsLater, Cond.selects RX0 yX0_placerWinsLater yX0_placerWinsLater, Cond.code yX0_giverWins cX0_giverWins 4 (some .boolean), Cond.methodLink RX0 179 yX0_placerLoses, Cond.instanceMethod yX0_placerLoses, Cond.selects RX0 yX0_placerLoses yX0_placerLoses, Cond.code yX0_placerLoses cX0_placerLoses 5 (some .boolean), Cond.methodLink RX0 173 yX0_giverLoses, Cond.instanceMethod yX0_giverLoses, Cond.selects RX0 yX0_giverLoses yX0_giverLoses]
def wsX0_placerWinsLater : List Cond := .code yX0_placerWinsLater cX0_placerWinsLater 5 (some .boolean) :: ((wsX0_placerWinsLater_r1 ++ (wsX0_placerWinsLater_r2 ++ wsX0_placerWinsLater_r3)) ++ wsX00)
def wsX0_worthToGive_r1 : List Cond := [Cond.methodLink RX0 170 yX0_giverWins, Cond.instanceMethod yX0_giverWins, Cond.selects RX0 yX0_giverWins yX0_giverWins, Cond.initialized RX0, Cond.code yX0_giverWins cX0_giverWins 4 (some .boolean), Cond.methodLink RX0 100 yX0_safePieces, Cond.instanceMethod yX0_safePieces, Cond.selects RX0 yX0_safePieces yX0_safePieces, Cond.code yX0_safePieces cX0_safePieces 4 (some .int), Cond.fieldLink RX0 35 "Quarterboard" "used" "I", Cond.methodLink RX0 161 yX0_winningDigits, Cond.instanceMethod yX0_winningDigits, Cond.selects RX0 yX0_winningDigits yX0_winningDigits, Cond.code yX0_winningDigits cX0_winningDigits 4 (some .int), Cond.fieldLink RX0 83 "Quarterboard" "LINES" "[I", Cond.methodLink RX0 87 yX0_lines, Cond.instanceMethod yX0_lines, Cond.selects RX0 yX0_lines yX0_lines, Cond.code yX0_lines cX0_lines 1 (some .int), Cond.fieldLink RX0 25 "Quarterboard" "withBlocks" "Z", Cond.methodLink RX0 158 yX0_lacksOne, Cond.instanceMethod yX0_lacksOne, Cond.selects RX0 yX0_lacksOne yX0_lacksOne, Cond.code yX0_lacksOne cX0_lacksOne 3 (some .boolean)]
def wsX0_worthToGive_r2 : List Cond := [Cond.fieldLink RX0 16 "Quarterboard" "filled" "I", Cond.methodLink RX0 92 yX0_inCommon, Cond.instanceMethod yX0_inCommon, Cond.selects RX0 yX0_inCommon yX0_inCommon, Cond.code yX0_inCommon cX0_inCommon 6 (some .int), Cond.fieldLink RX0 38 "Quarterboard" "digits" "J", Cond.methodLink RX0 79 yX0_withOne, Cond.static yX0_withOne, Cond.code yX0_withOne cX0_withOne 3 (some .int), Cond.constant RX0 78 (65535), Cond.methodLink RX0 58 yX0_has, Cond.static yX0_has, Cond.code yX0_has cX0_has 2 (some .boolean), Cond.methodLink RX0 155 yX0_ownDigits, Cond.static yX0_ownDigits, Cond.code yX0_ownDigits cX0_ownDigits 1 (some .int), Cond.methodLink RX0 179 yX0_placerLoses, Cond.instanceMethod yX0_placerLoses, Cond.selects RX0 yX0_placerLoses yX0_placerLoses, Cond.code yX0_giverLoses cX0_giverLoses 4 (some .boolean), Cond.methodLink RX0 176 yX0_placerWinsLater, Cond.instanceMethod yX0_placerWinsLater, Cond.selects RX0 yX0_placerWinsLater yX0_placerWinsLater, Cond.code yX0_placerLoses cX0_placerLoses 5 (some .boolean)]
def wsX0_worthToGive_r3 : List Cond := [Cond.methodLink RX0 70 yX0_put, Cond.instanceMethod yX0_put, Cond.selects RX0 yX0_put yX0_put, Cond.code yX0_put cX0_put 3 none, Cond.methodLink RX0 147 yX0_atFirstSquare, Cond.static yX0_atFirstSquare, Cond.code yX0_atFirstSquare cX0_atFirstSquare 1 (some .long), Cond.constantLong RX0 141 (2), Cond.constantLong RX0 143 (4), Cond.constantLong RX0 145 (8), Cond.methodLink RX0 173 yX0_giverLoses, Cond.instanceMethod yX0_giverLoses, Cond.selects RX0 yX0_giverLoses yX0_giverLoses, Cond.methodLink RX0 167 yX0_lift, Cond.instanceMethod yX0_lift, Cond.selects RX0 yX0_lift yX0_lift, Cond.code yX0_lift cX0_lift 3 none, Cond.constantLong RX0 151 (281479271743489), Cond.constantLong RX0 153 (-1), Cond.code yX0_placerWinsLater cX0_placerWinsLater 5 (some .boolean)]
def wsX0_worthToGive : List Cond := .code yX0_worthToGive cX0_worthToGive 2 (some .int) :: ((wsX0_worthToGive_r1 ++ (wsX0_worthToGive_r2 ++ wsX0_worthToGive_r3)) ++ wsX00)
def wsX0_worthToPlace_r1 : List Cond := [Cond.methodLink RX0 97 yX0_winningSquares, Cond.instanceMethod yX0_winningSquares, Cond.selects RX0 yX0_winningSquares yX0_winningSquares, Cond.initialized RX0, Cond.code yX0_winningSquares cX0_winningSquares 6 (some .int), Cond.fieldLink RX0 83 "Quarterboard" "LINES" "[I", Cond.fieldLink RX0 16 "Quarterboard" "filled" "I", Cond.methodLink RX0 155 yX0_ownDigits, Cond.static yX0_ownDigits, Cond.code yX0_ownDigits cX0_ownDigits 1 (some .int), Cond.methodLink RX0 87 yX0_lines, Cond.instanceMethod yX0_lines, Cond.selects RX0 yX0_lines yX0_lines, Cond.code yX0_lines cX0_lines 1 (some .int), Cond.fieldLink RX0 25 "Quarterboard" "withBlocks" "Z", Cond.methodLink RX0 158 yX0_lacksOne, Cond.instanceMethod yX0_lacksOne, Cond.selects RX0 yX0_lacksOne yX0_lacksOne, Cond.code yX0_lacksOne cX0_lacksOne 3 (some .boolean), Cond.methodLink RX0 92 yX0_inCommon, Cond.instanceMethod yX0_inCommon, Cond.selects RX0 yX0_inCommon yX0_inCommon, Cond.code yX0_inCommon cX0_inCommon 6 (some .int), Cond.fieldLink RX0 38 "Quarterboard" "digits" "J"]
def wsX0_worthToPlace_r2 : List Cond := [Cond.methodLink RX0 79 yX0_withOne, Cond.static yX0_withOne, Cond.code yX0_withOne cX0_withOne 3 (some .int), Cond.constant RX0 78 (65535), Cond.methodLink RX0 176 yX0_placerWinsLater, Cond.instanceMethod yX0_placerWinsLater, Cond.selects RX0 yX0_placerWinsLater yX0_placerWinsLater, Cond.code yX0_placerWinsLater cX0_placerWinsLater 5 (some .boolean), Cond.methodLink RX0 58 yX0_has, Cond.static yX0_has, Cond.code yX0_has cX0_has 2 (some .boolean), Cond.methodLink RX0 70 yX0_put, Cond.instanceMethod yX0_put, Cond.selects RX0 yX0_put yX0_put, Cond.code yX0_put cX0_put 3 none, Cond.fieldLink RX0 35 "Quarterboard" "used" "I", Cond.methodLink RX0 147 yX0_atFirstSquare, Cond.static yX0_atFirstSquare, Cond.code yX0_atFirstSquare cX0_atFirstSquare 1 (some .long), Cond.constantLong RX0 141 (2), Cond.constantLong RX0 143 (4), Cond.constantLong RX0 145 (8), Cond.methodLink RX0 170 yX0_giverWins, Cond.instanceMethod yX0_giverWins]
def wsX0_worthToPlace_r3 : List Cond := [Cond.selects RX0 yX0_giverWins yX0_giverWins, Cond.methodLink RX0 167 yX0_lift, Cond.instanceMethod yX0_lift, Cond.selects RX0 yX0_lift yX0_lift, Cond.code yX0_lift cX0_lift 3 none, Cond.constantLong RX0 151 (281479271743489), Cond.constantLong RX0 153 (-1), Cond.code yX0_giverLoses cX0_giverLoses 4 (some .boolean), Cond.methodLink RX0 100 yX0_safePieces, Cond.instanceMethod yX0_safePieces, Cond.selects RX0 yX0_safePieces yX0_safePieces, Cond.code yX0_safePieces cX0_safePieces 4 (some .int), Cond.methodLink RX0 161 yX0_winningDigits, Cond.instanceMethod yX0_winningDigits, Cond.selects RX0 yX0_winningDigits yX0_winningDigits, Cond.code yX0_winningDigits cX0_winningDigits 4 (some .int), Cond.code yX0_giverWins cX0_giverWins 4 (some .boolean), Cond.methodLink RX0 179 yX0_placerLoses, Cond.instanceMethod yX0_placerLoses, Cond.selects RX0 yX0_placerLoses yX0_placerLoses, Cond.code yX0_placerLoses cX0_placerLoses 5 (some .boolean), Cond.methodLink RX0 173 yX0_giverLoses, Cond.instanceMethod yX0_giverLoses, Cond.selects RX0 yX0_giverLoses yX0_giverLoses]
def wsX0_worthToPlace : List Cond := .code yX0_worthToPlace cX0_worthToPlace 3 (some .int) :: ((wsX0_worthToPlace_r1 ++ (wsX0_worthToPlace_r2 ++ wsX0_worthToPlace_r3)) ++ wsX00)
def wsX0_worth_r1 : List Cond := [Cond.classLink RX0 103 "java/lang/IllegalArgumentException", Cond.initialized "java/lang/IllegalArgumentException", Cond.classLink RX0 53 "java/lang/IllegalStateException", Cond.initialized "java/lang/IllegalStateException", Cond.fieldLink RX0 29 "Quarterboard" "stage" "I", Cond.fieldLink RX0 9 "Quarterboard" "held" "I", Cond.methodLink RX0 108 yX0_canLookAhead, Cond.instanceMethod yX0_canLookAhead, Cond.selects RX0 yX0_canLookAhead yX0_canLookAhead, Cond.initialized RX0, Cond.code yX0_canLookAhead cX0_canLookAhead 3 (some .boolean), Cond.fieldLink RX0 16 "Quarterboard" "filled" "I", Cond.methodLink RX0 19 yJ6_bitCount_0f7a4, Cond.static yJ6_bitCount_0f7a4, Cond.initialized RJ6, Cond.code yJ6_bitCount_0f7a4 cJ6_bitCount_0f7a4 1 (some .int), Cond.constant RJ6 265 (1431655765), Cond.constant RJ6 266 (858993459), Cond.constant RJ6 267 (252645135), Cond.methodLink RX0 113 yX0_worthToGive, Cond.instanceMethod yX0_worthToGive, Cond.selects RX0 yX0_worthToGive yX0_worthToGive, Cond.code yX0_worthToGive cX0_worthToGive 2 (some .int), Cond.methodLink RX0 170 yX0_giverWins]
def wsX0_worth_r2 : List Cond := [Cond.instanceMethod yX0_giverWins, Cond.selects RX0 yX0_giverWins yX0_giverWins, Cond.code yX0_giverWins cX0_giverWins 4 (some .boolean), Cond.methodLink RX0 100 yX0_safePieces, Cond.instanceMethod yX0_safePieces, Cond.selects RX0 yX0_safePieces yX0_safePieces, Cond.code yX0_safePieces cX0_safePieces 4 (some .int), Cond.fieldLink RX0 35 "Quarterboard" "used" "I", Cond.methodLink RX0 161 yX0_winningDigits, Cond.instanceMethod yX0_winningDigits, Cond.selects RX0 yX0_winningDigits yX0_winningDigits, Cond.code yX0_winningDigits cX0_winningDigits 4 (some .int), Cond.fieldLink RX0 83 "Quarterboard" "LINES" "[I", Cond.methodLink RX0 87 yX0_lines, Cond.instanceMethod yX0_lines, Cond.selects RX0 yX0_lines yX0_lines, Cond.code yX0_lines cX0_lines 1 (some .int), Cond.fieldLink RX0 25 "Quarterboard" "withBlocks" "Z", Cond.methodLink RX0 158 yX0_lacksOne, Cond.instanceMethod yX0_lacksOne, Cond.selects RX0 yX0_lacksOne yX0_lacksOne, Cond.code yX0_lacksOne cX0_lacksOne 3 (some .boolean), Cond.methodLink RX0 92 yX0_inCommon, Cond.instanceMethod yX0_inCommon]
def wsX0_worth_r3 : List Cond := [Cond.selects RX0 yX0_inCommon yX0_inCommon, Cond.code yX0_inCommon cX0_inCommon 6 (some .int), Cond.fieldLink RX0 38 "Quarterboard" "digits" "J", Cond.methodLink RX0 79 yX0_withOne, Cond.static yX0_withOne, Cond.code yX0_withOne cX0_withOne 3 (some .int), Cond.constant RX0 78 (65535), Cond.methodLink RX0 58 yX0_has, Cond.static yX0_has, Cond.code yX0_has cX0_has 2 (some .boolean), Cond.methodLink RX0 155 yX0_ownDigits, Cond.static yX0_ownDigits, Cond.code yX0_ownDigits cX0_ownDigits 1 (some .int), Cond.methodLink RX0 179 yX0_placerLoses, Cond.instanceMethod yX0_placerLoses, Cond.selects RX0 yX0_placerLoses yX0_placerLoses, Cond.code yX0_giverLoses cX0_giverLoses 4 (some .boolean), Cond.methodLink RX0 176 yX0_placerWinsLater, Cond.instanceMethod yX0_placerWinsLater, Cond.selects RX0 yX0_placerWinsLater yX0_placerWinsLater, Cond.code yX0_placerLoses cX0_placerLoses 5 (some .boolean), Cond.methodLink RX0 70 yX0_put, Cond.instanceMethod yX0_put, Cond.selects RX0 yX0_put yX0_put]
def wsX0_worth_r4 : List Cond := [Cond.code yX0_put cX0_put 3 none, Cond.methodLink RX0 147 yX0_atFirstSquare, Cond.static yX0_atFirstSquare, Cond.code yX0_atFirstSquare cX0_atFirstSquare 1 (some .long), Cond.constantLong RX0 141 (2), Cond.constantLong RX0 143 (4), Cond.constantLong RX0 145 (8), Cond.methodLink RX0 173 yX0_giverLoses, Cond.instanceMethod yX0_giverLoses, Cond.selects RX0 yX0_giverLoses yX0_giverLoses, Cond.methodLink RX0 167 yX0_lift, Cond.instanceMethod yX0_lift, Cond.selects RX0 yX0_lift yX0_lift, Cond.code yX0_lift cX0_lift 3 none, Cond.constantLong RX0 151 (281479271743489), Cond.constantLong RX0 153 (-1), Cond.code yX0_placerWinsLater cX0_placerWinsLater 5 (some .boolean), Cond.methodLink RX0 116 yX0_worthToPlace, Cond.instanceMethod yX0_worthToPlace, Cond.selects RX0 yX0_worthToPlace yX0_worthToPlace, Cond.code yX0_worthToPlace cX0_worthToPlace 3 (some .int), Cond.methodLink RX0 97 yX0_winningSquares, Cond.instanceMethod yX0_winningSquares, Cond.selects RX0 yX0_winningSquares yX0_winningSquares]
def wsX0_worth_r5 : List Cond := [Cond.code yX0_winningSquares cX0_winningSquares 6 (some .int)]
def wsX0_worth : List Cond := .code yX0_worth cX0_worth 2 (some .int) :: ((wsX0_worth_r1 ++ (wsX0_worth_r2 ++ (wsX0_worth_r3 ++ (wsX0_worth_r4 ++ wsX0_worth_r5)))) ++ wsX00 ++ (vx_atS RX0 107 "java/lang/IllegalArgumentException" ["java/lang/RuntimeException", "java/lang/Exception"]).filter goodWord ++ (vx_atS RX0 57 "java/lang/IllegalStateException" ["java/lang/RuntimeException", "java/lang/Exception"]).filter goodWord)
def wsX0_bestPiece_r1 : List Cond := [Cond.fieldLink RX0 35 "Quarterboard" "used" "I", Cond.methodLink RX0 113 yX0_worthToGive, Cond.instanceMethod yX0_worthToGive, Cond.selects RX0 yX0_worthToGive yX0_worthToGive, Cond.initialized RX0, Cond.code yX0_worthToGive cX0_worthToGive 2 (some .int), Cond.methodLink RX0 170 yX0_giverWins, Cond.instanceMethod yX0_giverWins, Cond.selects RX0 yX0_giverWins yX0_giverWins, Cond.code yX0_giverWins cX0_giverWins 4 (some .boolean), Cond.methodLink RX0 100 yX0_safePieces, Cond.instanceMethod yX0_safePieces, Cond.selects RX0 yX0_safePieces yX0_safePieces, Cond.code yX0_safePieces cX0_safePieces 4 (some .int), Cond.methodLink RX0 161 yX0_winningDigits, Cond.instanceMethod yX0_winningDigits, Cond.selects RX0 yX0_winningDigits yX0_winningDigits, Cond.code yX0_winningDigits cX0_winningDigits 4 (some .int), Cond.fieldLink RX0 83 "Quarterboard" "LINES" "[I", Cond.methodLink RX0 87 yX0_lines, Cond.instanceMethod yX0_lines, Cond.selects RX0 yX0_lines yX0_lines, Cond.code yX0_lines cX0_lines 1 (some .int), Cond.fieldLink RX0 25 "Quarterboard" "withBlocks" "Z"]
def wsX0_bestPiece_r2 : List Cond := [Cond.methodLink RX0 158 yX0_lacksOne, Cond.instanceMethod yX0_lacksOne, Cond.selects RX0 yX0_lacksOne yX0_lacksOne, Cond.code yX0_lacksOne cX0_lacksOne 3 (some .boolean), Cond.fieldLink RX0 16 "Quarterboard" "filled" "I", Cond.methodLink RX0 92 yX0_inCommon, Cond.instanceMethod yX0_inCommon, Cond.selects RX0 yX0_inCommon yX0_inCommon, Cond.code yX0_inCommon cX0_inCommon 6 (some .int), Cond.fieldLink RX0 38 "Quarterboard" "digits" "J", Cond.methodLink RX0 79 yX0_withOne, Cond.static yX0_withOne, Cond.code yX0_withOne cX0_withOne 3 (some .int), Cond.constant RX0 78 (65535), Cond.methodLink RX0 58 yX0_has, Cond.static yX0_has, Cond.code yX0_has cX0_has 2 (some .boolean), Cond.methodLink RX0 155 yX0_ownDigits, Cond.static yX0_ownDigits, Cond.code yX0_ownDigits cX0_ownDigits 1 (some .int), Cond.methodLink RX0 179 yX0_placerLoses, Cond.instanceMethod yX0_placerLoses, Cond.selects RX0 yX0_placerLoses yX0_placerLoses, Cond.code yX0_giverLoses cX0_giverLoses 4 (some .boolean)]
def wsX0_bestPiece_r3 : List Cond := [Cond.methodLink RX0 176 yX0_placerWinsLater, Cond.instanceMethod yX0_placerWinsLater, Cond.selects RX0 yX0_placerWinsLater yX0_placerWinsLater, Cond.code yX0_placerLoses cX0_placerLoses 5 (some .boolean), Cond.methodLink RX0 70 yX0_put, Cond.instanceMethod yX0_put, Cond.selects RX0 yX0_put yX0_put, Cond.code yX0_put cX0_put 3 none, Cond.methodLink RX0 147 yX0_atFirstSquare, Cond.static yX0_atFirstSquare, Cond.code yX0_atFirstSquare cX0_atFirstSquare 1 (some .long), Cond.constantLong RX0 141 (2), Cond.constantLong RX0 143 (4), Cond.constantLong RX0 145 (8), Cond.methodLink RX0 173 yX0_giverLoses, Cond.instanceMethod yX0_giverLoses, Cond.selects RX0 yX0_giverLoses yX0_giverLoses, Cond.methodLink RX0 167 yX0_lift, Cond.instanceMethod yX0_lift, Cond.selects RX0 yX0_lift yX0_lift, Cond.code yX0_lift cX0_lift 3 none, Cond.constantLong RX0 151 (281479271743489), Cond.constantLong RX0 153 (-1), Cond.code yX0_placerWinsLater cX0_placerWinsLater 5 (some .boolean)]
def wsX0_bestPiece_r4 : List Cond := [Cond.methodLink RX0 116 yX0_worthToPlace, Cond.instanceMethod yX0_worthToPlace, Cond.selects RX0 yX0_worthToPlace yX0_worthToPlace, Cond.code yX0_worthToPlace cX0_worthToPlace 3 (some .int), Cond.methodLink RX0 97 yX0_winningSquares, Cond.instanceMethod yX0_winningSquares, Cond.selects RX0 yX0_winningSquares yX0_winningSquares, Cond.code yX0_winningSquares cX0_winningSquares 6 (some .int)]
def wsX0_bestPiece : List Cond := .code yX0_bestPiece cX0_bestPiece 4 (some .int) :: ((wsX0_bestPiece_r1 ++ (wsX0_bestPiece_r2 ++ (wsX0_bestPiece_r3 ++ wsX0_bestPiece_r4))) ++ wsX00)
def wsX0_worthAfterPlacing_r1 : List Cond := [Cond.fieldLink RX0 9 "Quarterboard" "held" "I", Cond.methodLink RX0 97 yX0_winningSquares, Cond.instanceMethod yX0_winningSquares, Cond.selects RX0 yX0_winningSquares yX0_winningSquares, Cond.initialized RX0, Cond.code yX0_winningSquares cX0_winningSquares 6 (some .int), Cond.fieldLink RX0 83 "Quarterboard" "LINES" "[I", Cond.fieldLink RX0 16 "Quarterboard" "filled" "I", Cond.methodLink RX0 155 yX0_ownDigits, Cond.static yX0_ownDigits, Cond.code yX0_ownDigits cX0_ownDigits 1 (some .int), Cond.methodLink RX0 87 yX0_lines, Cond.instanceMethod yX0_lines, Cond.selects RX0 yX0_lines yX0_lines, Cond.code yX0_lines cX0_lines 1 (some .int), Cond.fieldLink RX0 25 "Quarterboard" "withBlocks" "Z", Cond.methodLink RX0 158 yX0_lacksOne, Cond.instanceMethod yX0_lacksOne, Cond.selects RX0 yX0_lacksOne yX0_lacksOne, Cond.code yX0_lacksOne cX0_lacksOne 3 (some .boolean), Cond.methodLink RX0 92 yX0_inCommon, Cond.instanceMethod yX0_inCommon, Cond.selects RX0 yX0_inCommon yX0_inCommon, Cond.code yX0_inCommon cX0_inCommon 6 (some .int)]
def wsX0_worthAfterPlacing_r2 : List Cond := [Cond.fieldLink RX0 38 "Quarterboard" "digits" "J", Cond.methodLink RX0 79 yX0_withOne, Cond.static yX0_withOne, Cond.code yX0_withOne cX0_withOne 3 (some .int), Cond.constant RX0 78 (65535), Cond.methodLink RX0 58 yX0_has, Cond.static yX0_has, Cond.code yX0_has cX0_has 2 (some .boolean), Cond.methodLink RX0 70 yX0_put, Cond.instanceMethod yX0_put, Cond.selects RX0 yX0_put yX0_put, Cond.code yX0_put cX0_put 3 none, Cond.fieldLink RX0 35 "Quarterboard" "used" "I", Cond.methodLink RX0 147 yX0_atFirstSquare, Cond.static yX0_atFirstSquare, Cond.code yX0_atFirstSquare cX0_atFirstSquare 1 (some .long), Cond.constantLong RX0 141 (2), Cond.constantLong RX0 143 (4), Cond.constantLong RX0 145 (8), Cond.methodLink RX0 113 yX0_worthToGive, Cond.instanceMethod yX0_worthToGive, Cond.selects RX0 yX0_worthToGive yX0_worthToGive, Cond.code yX0_worthToGive cX0_worthToGive 2 (some .int), Cond.methodLink RX0 170 yX0_giverWins]
def wsX0_worthAfterPlacing_r3 : List Cond := [Cond.instanceMethod yX0_giverWins, Cond.selects RX0 yX0_giverWins yX0_giverWins, Cond.code yX0_giverWins cX0_giverWins 4 (some .boolean), Cond.methodLink RX0 100 yX0_safePieces, Cond.instanceMethod yX0_safePieces, Cond.selects RX0 yX0_safePieces yX0_safePieces, Cond.code yX0_safePieces cX0_safePieces 4 (some .int), Cond.methodLink RX0 161 yX0_winningDigits, Cond.instanceMethod yX0_winningDigits, Cond.selects RX0 yX0_winningDigits yX0_winningDigits, Cond.code yX0_winningDigits cX0_winningDigits 4 (some .int), Cond.methodLink RX0 179 yX0_placerLoses, Cond.instanceMethod yX0_placerLoses, Cond.selects RX0 yX0_placerLoses yX0_placerLoses, Cond.code yX0_giverLoses cX0_giverLoses 4 (some .boolean), Cond.methodLink RX0 176 yX0_placerWinsLater, Cond.instanceMethod yX0_placerWinsLater, Cond.selects RX0 yX0_placerWinsLater yX0_placerWinsLater, Cond.code yX0_placerLoses cX0_placerLoses 5 (some .boolean), Cond.methodLink RX0 173 yX0_giverLoses, Cond.instanceMethod yX0_giverLoses, Cond.selects RX0 yX0_giverLoses yX0_giverLoses, Cond.methodLink RX0 167 yX0_lift, Cond.instanceMethod yX0_lift]
def wsX0_worthAfterPlacing_r4 : List Cond := [Cond.selects RX0 yX0_lift yX0_lift, Cond.code yX0_lift cX0_lift 3 none, Cond.constantLong RX0 151 (281479271743489), Cond.constantLong RX0 153 (-1), Cond.code yX0_placerWinsLater cX0_placerWinsLater 5 (some .boolean)]
def wsX0_worthAfterPlacing : List Cond := .code yX0_worthAfterPlacing cX0_worthAfterPlacing 4 (some .int) :: ((wsX0_worthAfterPlacing_r1 ++ (wsX0_worthAfterPlacing_r2 ++ (wsX0_worthAfterPlacing_r3 ++ wsX0_worthAfterPlacing_r4))) ++ wsX00)
def wsX0_bestSquare_r1 : List Cond := [Cond.fieldLink RX0 9 "Quarterboard" "held" "I", Cond.fieldLink RX0 16 "Quarterboard" "filled" "I", Cond.methodLink RX0 116 yX0_worthToPlace, Cond.instanceMethod yX0_worthToPlace, Cond.selects RX0 yX0_worthToPlace yX0_worthToPlace, Cond.initialized RX0, Cond.code yX0_worthToPlace cX0_worthToPlace 3 (some .int), Cond.methodLink RX0 97 yX0_winningSquares, Cond.instanceMethod yX0_winningSquares, Cond.selects RX0 yX0_winningSquares yX0_winningSquares, Cond.code yX0_winningSquares cX0_winningSquares 6 (some .int), Cond.fieldLink RX0 83 "Quarterboard" "LINES" "[I", Cond.methodLink RX0 155 yX0_ownDigits, Cond.static yX0_ownDigits, Cond.code yX0_ownDigits cX0_ownDigits 1 (some .int), Cond.methodLink RX0 87 yX0_lines, Cond.instanceMethod yX0_lines, Cond.selects RX0 yX0_lines yX0_lines, Cond.code yX0_lines cX0_lines 1 (some .int), Cond.fieldLink RX0 25 "Quarterboard" "withBlocks" "Z", Cond.methodLink RX0 158 yX0_lacksOne, Cond.instanceMethod yX0_lacksOne, Cond.selects RX0 yX0_lacksOne yX0_lacksOne, Cond.code yX0_lacksOne cX0_lacksOne 3 (some .boolean)]
def wsX0_bestSquare_r2 : List Cond := [Cond.methodLink RX0 92 yX0_inCommon, Cond.instanceMethod yX0_inCommon, Cond.selects RX0 yX0_inCommon yX0_inCommon, Cond.code yX0_inCommon cX0_inCommon 6 (some .int), Cond.fieldLink RX0 38 "Quarterboard" "digits" "J", Cond.methodLink RX0 79 yX0_withOne, Cond.static yX0_withOne, Cond.code yX0_withOne cX0_withOne 3 (some .int), Cond.constant RX0 78 (65535), Cond.methodLink RX0 176 yX0_placerWinsLater, Cond.instanceMethod yX0_placerWinsLater, Cond.selects RX0 yX0_placerWinsLater yX0_placerWinsLater, Cond.code yX0_placerWinsLater cX0_placerWinsLater 5 (some .boolean), Cond.methodLink RX0 58 yX0_has, Cond.static yX0_has, Cond.code yX0_has cX0_has 2 (some .boolean), Cond.methodLink RX0 70 yX0_put, Cond.instanceMethod yX0_put, Cond.selects RX0 yX0_put yX0_put, Cond.code yX0_put cX0_put 3 none, Cond.fieldLink RX0 35 "Quarterboard" "used" "I", Cond.methodLink RX0 147 yX0_atFirstSquare, Cond.static yX0_atFirstSquare, Cond.code yX0_atFirstSquare cX0_atFirstSquare 1 (some .long)]
def wsX0_bestSquare_r3 : List Cond := [Cond.constantLong RX0 141 (2), Cond.constantLong RX0 143 (4), Cond.constantLong RX0 145 (8), Cond.methodLink RX0 170 yX0_giverWins, Cond.instanceMethod yX0_giverWins, Cond.selects RX0 yX0_giverWins yX0_giverWins, Cond.methodLink RX0 167 yX0_lift, Cond.instanceMethod yX0_lift, Cond.selects RX0 yX0_lift yX0_lift, Cond.code yX0_lift cX0_lift 3 none, Cond.constantLong RX0 151 (281479271743489), Cond.constantLong RX0 153 (-1), Cond.code yX0_giverLoses cX0_giverLoses 4 (some .boolean), Cond.methodLink RX0 100 yX0_safePieces, Cond.instanceMethod yX0_safePieces, Cond.selects RX0 yX0_safePieces yX0_safePieces, Cond.code yX0_safePieces cX0_safePieces 4 (some .int), Cond.methodLink RX0 161 yX0_winningDigits, Cond.instanceMethod yX0_winningDigits, Cond.selects RX0 yX0_winningDigits yX0_winningDigits, Cond.code yX0_winningDigits cX0_winningDigits 4 (some .int), Cond.code yX0_giverWins cX0_giverWins 4 (some .boolean), Cond.methodLink RX0 179 yX0_placerLoses, Cond.instanceMethod yX0_placerLoses]
def wsX0_bestSquare_r4 : List Cond := [Cond.selects RX0 yX0_placerLoses yX0_placerLoses, Cond.code yX0_placerLoses cX0_placerLoses 5 (some .boolean), Cond.methodLink RX0 173 yX0_giverLoses, Cond.instanceMethod yX0_giverLoses, Cond.selects RX0 yX0_giverLoses yX0_giverLoses, Cond.methodLink RX0 164 yX0_worthAfterPlacing, Cond.instanceMethod yX0_worthAfterPlacing, Cond.selects RX0 yX0_worthAfterPlacing yX0_worthAfterPlacing, Cond.code yX0_worthAfterPlacing cX0_worthAfterPlacing 4 (some .int), Cond.methodLink RX0 113 yX0_worthToGive, Cond.instanceMethod yX0_worthToGive, Cond.selects RX0 yX0_worthToGive yX0_worthToGive, Cond.code yX0_worthToGive cX0_worthToGive 2 (some .int)]
def wsX0_bestSquare : List Cond := .code yX0_bestSquare cX0_bestSquare 4 (some .int) :: ((wsX0_bestSquare_r1 ++ (wsX0_bestSquare_r2 ++ (wsX0_bestSquare_r3 ++ wsX0_bestSquare_r4))) ++ wsX00)
def wsX0_best_r1 : List Cond := [Cond.classLink RX0 103 "java/lang/IllegalArgumentException", Cond.initialized "java/lang/IllegalArgumentException", Cond.classLink RX0 53 "java/lang/IllegalStateException", Cond.initialized "java/lang/IllegalStateException", Cond.fieldLink RX0 29 "Quarterboard" "stage" "I", Cond.methodLink RX0 108 yX0_canLookAhead, Cond.instanceMethod yX0_canLookAhead, Cond.selects RX0 yX0_canLookAhead yX0_canLookAhead, Cond.initialized RX0, Cond.code yX0_canLookAhead cX0_canLookAhead 3 (some .boolean), Cond.fieldLink RX0 16 "Quarterboard" "filled" "I", Cond.methodLink RX0 19 yJ6_bitCount_0f7a4, Cond.static yJ6_bitCount_0f7a4, Cond.initialized RJ6, Cond.code yJ6_bitCount_0f7a4 cJ6_bitCount_0f7a4 1 (some .int), Cond.constant RJ6 265 (1431655765), Cond.constant RJ6 266 (858993459), Cond.constant RJ6 267 (252645135), Cond.methodLink RX0 120 yX0_bestPiece, Cond.instanceMethod yX0_bestPiece, Cond.selects RX0 yX0_bestPiece yX0_bestPiece, Cond.code yX0_bestPiece cX0_bestPiece 4 (some .int), Cond.fieldLink RX0 35 "Quarterboard" "used" "I", Cond.methodLink RX0 113 yX0_worthToGive]
def wsX0_best_r2 : List Cond := [Cond.instanceMethod yX0_worthToGive, Cond.selects RX0 yX0_worthToGive yX0_worthToGive, Cond.code yX0_worthToGive cX0_worthToGive 2 (some .int), Cond.methodLink RX0 170 yX0_giverWins, Cond.instanceMethod yX0_giverWins, Cond.selects RX0 yX0_giverWins yX0_giverWins, Cond.code yX0_giverWins cX0_giverWins 4 (some .boolean), Cond.methodLink RX0 100 yX0_safePieces, Cond.instanceMethod yX0_safePieces, Cond.selects RX0 yX0_safePieces yX0_safePieces, Cond.code yX0_safePieces cX0_safePieces 4 (some .int), Cond.methodLink RX0 161 yX0_winningDigits, Cond.instanceMethod yX0_winningDigits, Cond.selects RX0 yX0_winningDigits yX0_winningDigits, Cond.code yX0_winningDigits cX0_winningDigits 4 (some .int), Cond.fieldLink RX0 83 "Quarterboard" "LINES" "[I", Cond.methodLink RX0 87 yX0_lines, Cond.instanceMethod yX0_lines, Cond.selects RX0 yX0_lines yX0_lines, Cond.code yX0_lines cX0_lines 1 (some .int), Cond.fieldLink RX0 25 "Quarterboard" "withBlocks" "Z", Cond.methodLink RX0 158 yX0_lacksOne, Cond.instanceMethod yX0_lacksOne, Cond.selects RX0 yX0_lacksOne yX0_lacksOne]
def wsX0_best_r3 : List Cond := [Cond.code yX0_lacksOne cX0_lacksOne 3 (some .boolean), Cond.methodLink RX0 92 yX0_inCommon, Cond.instanceMethod yX0_inCommon, Cond.selects RX0 yX0_inCommon yX0_inCommon, Cond.code yX0_inCommon cX0_inCommon 6 (some .int), Cond.fieldLink RX0 38 "Quarterboard" "digits" "J", Cond.methodLink RX0 79 yX0_withOne, Cond.static yX0_withOne, Cond.code yX0_withOne cX0_withOne 3 (some .int), Cond.constant RX0 78 (65535), Cond.methodLink RX0 58 yX0_has, Cond.static yX0_has, Cond.code yX0_has cX0_has 2 (some .boolean), Cond.methodLink RX0 155 yX0_ownDigits, Cond.static yX0_ownDigits, Cond.code yX0_ownDigits cX0_ownDigits 1 (some .int), Cond.methodLink RX0 179 yX0_placerLoses, Cond.instanceMethod yX0_placerLoses, Cond.selects RX0 yX0_placerLoses yX0_placerLoses, Cond.code yX0_giverLoses cX0_giverLoses 4 (some .boolean), Cond.methodLink RX0 176 yX0_placerWinsLater, Cond.instanceMethod yX0_placerWinsLater, Cond.selects RX0 yX0_placerWinsLater yX0_placerWinsLater, Cond.code yX0_placerLoses cX0_placerLoses 5 (some .boolean)]
def wsX0_best_r4 : List Cond := [Cond.methodLink RX0 70 yX0_put, Cond.instanceMethod yX0_put, Cond.selects RX0 yX0_put yX0_put, Cond.code yX0_put cX0_put 3 none, Cond.methodLink RX0 147 yX0_atFirstSquare, Cond.static yX0_atFirstSquare, Cond.code yX0_atFirstSquare cX0_atFirstSquare 1 (some .long), Cond.constantLong RX0 141 (2), Cond.constantLong RX0 143 (4), Cond.constantLong RX0 145 (8), Cond.methodLink RX0 173 yX0_giverLoses, Cond.instanceMethod yX0_giverLoses, Cond.selects RX0 yX0_giverLoses yX0_giverLoses, Cond.methodLink RX0 167 yX0_lift, Cond.instanceMethod yX0_lift, Cond.selects RX0 yX0_lift yX0_lift, Cond.code yX0_lift cX0_lift 3 none, Cond.constantLong RX0 151 (281479271743489), Cond.constantLong RX0 153 (-1), Cond.code yX0_placerWinsLater cX0_placerWinsLater 5 (some .boolean), Cond.methodLink RX0 116 yX0_worthToPlace, Cond.instanceMethod yX0_worthToPlace, Cond.selects RX0 yX0_worthToPlace yX0_worthToPlace, Cond.code yX0_worthToPlace cX0_worthToPlace 3 (some .int)]
def wsX0_best_r5 : List Cond := [Cond.methodLink RX0 97 yX0_winningSquares, Cond.instanceMethod yX0_winningSquares, Cond.selects RX0 yX0_winningSquares yX0_winningSquares, Cond.code yX0_winningSquares cX0_winningSquares 6 (some .int), Cond.methodLink RX0 123 yX0_bestSquare, Cond.instanceMethod yX0_bestSquare, Cond.selects RX0 yX0_bestSquare yX0_bestSquare, Cond.code yX0_bestSquare cX0_bestSquare 4 (some .int), Cond.fieldLink RX0 9 "Quarterboard" "held" "I", Cond.methodLink RX0 164 yX0_worthAfterPlacing, Cond.instanceMethod yX0_worthAfterPlacing, Cond.selects RX0 yX0_worthAfterPlacing yX0_worthAfterPlacing, Cond.code yX0_worthAfterPlacing cX0_worthAfterPlacing 4 (some .int)]
def wsX0_best : List Cond := .code yX0_best cX0_best 2 (some .int) :: ((wsX0_best_r1 ++ (wsX0_best_r2 ++ (wsX0_best_r3 ++ (wsX0_best_r4 ++ wsX0_best_r5)))) ++ wsX00 ++ (vx_atS RX0 107 "java/lang/IllegalArgumentException" ["java/lang/RuntimeException", "java/lang/Exception"]).filter goodWord ++ (vx_atS RX0 57 "java/lang/IllegalStateException" ["java/lang/RuntimeException", "java/lang/Exception"]).filter goodWord)
def wsX0_keep : List Cond := .code yX0_keep cX0_keep 1 (some .int) :: ([.fieldLink RX0 126 "Quarterboard" "hasKept" "Z", .fieldLink RX0 16 "Quarterboard" "filled" "I", .fieldLink RX0 129 "Quarterboard" "keptFilled" "I", .fieldLink RX0 38 "Quarterboard" "digits" "J", .fieldLink RX0 132 "Quarterboard" "keptDigits" "J", .methodLink RX0 19 yJ6_bitCount_0f7a4, .static yJ6_bitCount_0f7a4, .initialized RJ6, .code yJ6_bitCount_0f7a4 cJ6_bitCount_0f7a4 1 (some .int), .constant RJ6 265 (1431655765), .constant RJ6 266 (858993459), .constant RJ6 267 (252645135)] ++ wsX00)
def wsX0_turnedSquare : List Cond := .code yX0_turnedSquare cX0_turnedSquare 5 (some .int) :: ([])
def wsX0_turned : List Cond := .code yX0_turned cX0_turned 6 (some .long) :: ([.constantLong RX0 151 (281479271743489), .methodLink RX0 182 yX0_turnedSquare, .static yX0_turnedSquare, .initialized RX0, .code yX0_turnedSquare cX0_turnedSquare 5 (some .int)])
def wsX0_levelled : List Cond := .code yX0_levelled cX0_levelled 7 (some .long) :: ([.methodLink RX0 79 yX0_withOne, .static yX0_withOne, .initialized RX0, .code yX0_withOne cX0_withOne 3 (some .int), .constant RX0 78 (65535)])
def wsX0_equalMarks : List Cond := .code yX0_equalMarks cX0_equalMarks 6 (some .int) :: ([.methodLink RX0 79 yX0_withOne, .static yX0_withOne, .initialized RX0, .code yX0_withOne cX0_withOne 3 (some .int), .constant RX0 78 (65535)])
def wsX0_waysOfMarks : List Cond := .code yX0_waysOfMarks cX0_waysOfMarks 12 (some .int) :: ([.fieldLink RX0 16 "Quarterboard" "filled" "I", .fieldLink RX0 38 "Quarterboard" "digits" "J", .methodLink RX0 185 yX0_turned, .static yX0_turned, .initialized RX0, .code yX0_turned cX0_turned 6 (some .long), .constantLong RX0 151 (281479271743489), .methodLink RX0 182 yX0_turnedSquare, .static yX0_turnedSquare, .code yX0_turnedSquare cX0_turnedSquare 5 (some .int), .methodLink RX0 189 yX0_levelled, .static yX0_levelled, .code yX0_levelled cX0_levelled 7 (some .long), .methodLink RX0 79 yX0_withOne, .static yX0_withOne, .code yX0_withOne cX0_withOne 3 (some .int), .constant RX0 78 (65535), .methodLink RX0 192 yX0_equalMarks, .static yX0_equalMarks, .code yX0_equalMarks cX0_equalMarks 6 (some .int)] ++ wsX00)
def wsX0_isAlike_r1 : List Cond := [Cond.classLink RX0 53 "java/lang/IllegalStateException", Cond.initialized "java/lang/IllegalStateException", Cond.fieldLink RX0 126 "Quarterboard" "hasKept" "Z", Cond.fieldLink RX0 129 "Quarterboard" "keptFilled" "I", Cond.fieldLink RX0 132 "Quarterboard" "keptDigits" "J", Cond.methodLink RX0 137 yX0_waysOfMarks, Cond.instanceMethod yX0_waysOfMarks, Cond.selects RX0 yX0_waysOfMarks yX0_waysOfMarks, Cond.initialized RX0, Cond.code yX0_waysOfMarks cX0_waysOfMarks 12 (some .int), Cond.fieldLink RX0 16 "Quarterboard" "filled" "I", Cond.fieldLink RX0 38 "Quarterboard" "digits" "J", Cond.methodLink RX0 185 yX0_turned, Cond.static yX0_turned, Cond.code yX0_turned cX0_turned 6 (some .long), Cond.constantLong RX0 151 (281479271743489), Cond.methodLink RX0 182 yX0_turnedSquare, Cond.static yX0_turnedSquare, Cond.code yX0_turnedSquare cX0_turnedSquare 5 (some .int), Cond.methodLink RX0 189 yX0_levelled, Cond.static yX0_levelled, Cond.code yX0_levelled cX0_levelled 7 (some .long), Cond.methodLink RX0 79 yX0_withOne, Cond.static yX0_withOne]
def wsX0_isAlike_r2 : List Cond := [Cond.code yX0_withOne cX0_withOne 3 (some .int), Cond.constant RX0 78 (65535), Cond.methodLink RX0 192 yX0_equalMarks, Cond.static yX0_equalMarks, Cond.code yX0_equalMarks cX0_equalMarks 6 (some .int)]
def wsX0_isAlike : List Cond := .code yX0_isAlike cX0_isAlike 2 (some .boolean) :: ((wsX0_isAlike_r1 ++ wsX0_isAlike_r2) ++ wsX00 ++ (vx_atS RX0 57 "java/lang/IllegalStateException" ["java/lang/RuntimeException", "java/lang/Exception"]).filter goodWord)
def wsX0_symmetries : List Cond := .code yX0_symmetries cX0_symmetries 3 (some .int) :: ([.fieldLink RX0 16 "Quarterboard" "filled" "I", .fieldLink RX0 38 "Quarterboard" "digits" "J", .methodLink RX0 137 yX0_waysOfMarks, .instanceMethod yX0_waysOfMarks, .selects RX0 yX0_waysOfMarks yX0_waysOfMarks, .initialized RX0, .code yX0_waysOfMarks cX0_waysOfMarks 12 (some .int), .methodLink RX0 185 yX0_turned, .static yX0_turned, .code yX0_turned cX0_turned 6 (some .long), .constantLong RX0 151 (281479271743489), .methodLink RX0 182 yX0_turnedSquare, .static yX0_turnedSquare, .code yX0_turnedSquare cX0_turnedSquare 5 (some .int), .methodLink RX0 189 yX0_levelled, .static yX0_levelled, .code yX0_levelled cX0_levelled 7 (some .long), .methodLink RX0 79 yX0_withOne, .static yX0_withOne, .code yX0_withOne cX0_withOne 3 (some .int), .constant RX0 78 (65535), .methodLink RX0 192 yX0_equalMarks, .static yX0_equalMarks, .code yX0_equalMarks cX0_equalMarks 6 (some .int)] ++ wsX00)
abbrev vwCl : List vw_C := [(RX0, TX0, 11)]
end
section
theorem dX0_init_0 : decode cX0_init 0 = .ok (.aload_n 0, 1) := by decide +kernel
theorem dX0_init_1 : decode cX0_init 1 = .ok (.invokespecial 1, 3) := by decide +kernel
theorem dX0_init_4 : decode cX0_init 4 = .ok (.aload_n 0, 1) := by decide +kernel
theorem dX0_init_5 : decode cX0_init 5 = .ok (.iconst (-1), 1) := by decide +kernel
theorem dX0_init_6 : decode cX0_init 6 = .ok (.putfield 9, 3) := by decide +kernel
theorem dX0_init_9 : decode cX0_init 9 = .ok (.aload_n 0, 1) := by decide +kernel
theorem dX0_init_10 : decode cX0_init 10 = .ok (.iconst (-1), 1) := by decide +kernel
theorem dX0_init_11 : decode cX0_init 11 = .ok (.putfield 13, 3) := by decide +kernel
theorem dX0_init_14 : decode cX0_init 14 = .ok (.return_, 1) := by decide +kernel
set_option maxRecDepth 20000 in
theorem ggX0_begin_J6_bitCount_0f7a4 : GoodIn wsX0_begin wsJ6_bitCount_0f7a4 := goodIn_r _ [12, 13, 14, 15] (by decide +kernel) (by decide +kernel)
set_option maxRecDepth 20000 in
theorem gX0_begin_J6_bitCount_0f7a4 : GoodIn wsX0_begin (va_wsS RX0 19 yJ6_bitCount_0f7a4 wsJ6_bitCount_0f7a4) := goodIn_app (goodIn_of _ (by decide +kernel)) ggX0_begin_J6_bitCount_0f7a4
theorem dX0_begin_0 : decode cX0_begin 0 = .ok (.aload_n 0, 1) := by decide +kernel
theorem dX0_begin_1 : decode cX0_begin 1 = .ok (.getfield 16, 3) := by decide +kernel
theorem dX0_begin_4 : decode cX0_begin 4 = .ok (.invokestatic 19, 3) := by decide +kernel
theorem dX0_begin_7 : decode cX0_begin 7 = .ok (.istore_n 2, 1) := by decide +kernel
theorem dX0_begin_8 : decode cX0_begin 8 = .ok (.aload_n 0, 1) := by decide +kernel
theorem dX0_begin_9 : decode cX0_begin 9 = .ok (.iload_n 1, 1) := by decide +kernel
theorem dX0_begin_10 : decode cX0_begin 10 = .ok (.putfield 25, 3) := by decide +kernel
theorem dX0_begin_13 : decode cX0_begin 13 = .ok (.aload_n 0, 1) := by decide +kernel
theorem dX0_begin_14 : decode cX0_begin 14 = .ok (.iconst 0, 1) := by decide +kernel
theorem dX0_begin_15 : decode cX0_begin 15 = .ok (.putfield 29, 3) := by decide +kernel
theorem dX0_begin_18 : decode cX0_begin 18 = .ok (.aload_n 0, 1) := by decide +kernel
theorem dX0_begin_19 : decode cX0_begin 19 = .ok (.iconst 0, 1) := by decide +kernel
theorem dX0_begin_20 : decode cX0_begin 20 = .ok (.putfield 32, 3) := by decide +kernel
theorem dX0_begin_23 : decode cX0_begin 23 = .ok (.aload_n 0, 1) := by decide +kernel
theorem dX0_begin_24 : decode cX0_begin 24 = .ok (.iconst (-1), 1) := by decide +kernel
theorem dX0_begin_25 : decode cX0_begin 25 = .ok (.putfield 9, 3) := by decide +kernel
theorem dX0_begin_28 : decode cX0_begin 28 = .ok (.aload_n 0, 1) := by decide +kernel
theorem dX0_begin_29 : decode cX0_begin 29 = .ok (.iconst (-1), 1) := by decide +kernel
theorem dX0_begin_30 : decode cX0_begin 30 = .ok (.putfield 13, 3) := by decide +kernel
theorem dX0_begin_33 : decode cX0_begin 33 = .ok (.aload_n 0, 1) := by decide +kernel
theorem dX0_begin_34 : decode cX0_begin 34 = .ok (.iconst 0, 1) := by decide +kernel
theorem dX0_begin_35 : decode cX0_begin 35 = .ok (.putfield 16, 3) := by decide +kernel
theorem dX0_begin_38 : decode cX0_begin 38 = .ok (.aload_n 0, 1) := by decide +kernel
theorem dX0_begin_39 : decode cX0_begin 39 = .ok (.iconst 0, 1) := by decide +kernel
theorem dX0_begin_40 : decode cX0_begin 40 = .ok (.putfield 35, 3) := by decide +kernel
theorem dX0_begin_43 : decode cX0_begin 43 = .ok (.aload_n 0, 1) := by decide +kernel
theorem dX0_begin_44 : decode cX0_begin 44 = .ok (.lconst 0, 1) := by decide +kernel
theorem dX0_begin_45 : decode cX0_begin 45 = .ok (.putfield 38, 3) := by decide +kernel
theorem dX0_begin_48 : decode cX0_begin 48 = .ok (.iload_n 2, 1) := by decide +kernel
theorem dX0_begin_49 : decode cX0_begin 49 = .ok (.ireturn, 1) := by decide +kernel
set_option maxRecDepth 20000 in
theorem ggX0_give_X0_isNumber : GoodIn wsX0_give wsX0_isNumber := goodIn_r _ [12] (by decide +kernel) (by decide +kernel)
set_option maxRecDepth 20000 in
theorem gX0_give_X0_isNumber : GoodIn wsX0_give (va_wsS RX0 42 yX0_isNumber wsX0_isNumber) := goodIn_app (goodIn_of _ (by decide +kernel)) ggX0_give_X0_isNumber
set_option maxRecDepth 20000 in
theorem ggX0_give_X0_has : GoodIn wsX0_give wsX0_has := goodIn_r _ [15] (by decide +kernel) (by decide +kernel)
set_option maxRecDepth 20000 in
theorem gX0_give_X0_has : GoodIn wsX0_give (va_wsS RX0 58 yX0_has wsX0_has) := goodIn_app (goodIn_of _ (by decide +kernel)) ggX0_give_X0_has
theorem dX0_give_0 : decode cX0_give 0 = .ok (.iload_n 1, 1) := by decide +kernel
theorem dX0_give_1 : decode cX0_give 1 = .ok (.invokestatic 42, 3) := by decide +kernel
theorem dX0_give_4 : decode cX0_give 4 = .ok (.ifCond .ne 13, 3) := by decide +kernel
theorem dX0_give_7 : decode cX0_give 7 = .ok (.new 46, 3) := by decide +kernel
theorem dX0_give_10 : decode cX0_give 10 = .ok (.dup, 1) := by decide +kernel
theorem dX0_give_11 : decode cX0_give 11 = .ok (.ldc 48, 2) := by decide +kernel
theorem dX0_give_13 : decode cX0_give 13 = .ok (.invokespecial 50, 3) := by decide +kernel
theorem dX0_give_16 : decode cX0_give 16 = .ok (.athrow, 1) := by decide +kernel
theorem dX0_give_17 : decode cX0_give 17 = .ok (.aload_n 0, 1) := by decide +kernel
theorem dX0_give_18 : decode cX0_give 18 = .ok (.getfield 29, 3) := by decide +kernel
theorem dX0_give_21 : decode cX0_give 21 = .ok (.ifCond .eq 13, 3) := by decide +kernel
theorem dX0_give_24 : decode cX0_give 24 = .ok (.new 53, 3) := by decide +kernel
theorem dX0_give_27 : decode cX0_give 27 = .ok (.dup, 1) := by decide +kernel
theorem dX0_give_28 : decode cX0_give 28 = .ok (.ldc 55, 2) := by decide +kernel
theorem dX0_give_30 : decode cX0_give 30 = .ok (.invokespecial 57, 3) := by decide +kernel
theorem dX0_give_33 : decode cX0_give 33 = .ok (.athrow, 1) := by decide +kernel
theorem dX0_give_34 : decode cX0_give 34 = .ok (.aload_n 0, 1) := by decide +kernel
theorem dX0_give_35 : decode cX0_give 35 = .ok (.getfield 35, 3) := by decide +kernel
theorem dX0_give_38 : decode cX0_give 38 = .ok (.iload_n 1, 1) := by decide +kernel
theorem dX0_give_39 : decode cX0_give 39 = .ok (.invokestatic 58, 3) := by decide +kernel
theorem dX0_give_42 : decode cX0_give 42 = .ok (.ifCond .eq 13, 3) := by decide +kernel
theorem dX0_give_45 : decode cX0_give 45 = .ok (.new 53, 3) := by decide +kernel
theorem dX0_give_48 : decode cX0_give 48 = .ok (.dup, 1) := by decide +kernel
theorem dX0_give_49 : decode cX0_give 49 = .ok (.ldc 62, 2) := by decide +kernel
theorem dX0_give_51 : decode cX0_give 51 = .ok (.invokespecial 57, 3) := by decide +kernel
theorem dX0_give_54 : decode cX0_give 54 = .ok (.athrow, 1) := by decide +kernel
theorem dX0_give_55 : decode cX0_give 55 = .ok (.aload_n 0, 1) := by decide +kernel
theorem dX0_give_56 : decode cX0_give 56 = .ok (.iload_n 1, 1) := by decide +kernel
theorem dX0_give_57 : decode cX0_give 57 = .ok (.putfield 9, 3) := by decide +kernel
theorem dX0_give_60 : decode cX0_give 60 = .ok (.aload_n 0, 1) := by decide +kernel
theorem dX0_give_61 : decode cX0_give 61 = .ok (.iconst 1, 1) := by decide +kernel
theorem dX0_give_62 : decode cX0_give 62 = .ok (.aload_n 0, 1) := by decide +kernel
theorem dX0_give_63 : decode cX0_give 63 = .ok (.getfield 32, 3) := by decide +kernel
theorem dX0_give_66 : decode cX0_give 66 = .ok (.isub, 1) := by decide +kernel
theorem dX0_give_67 : decode cX0_give 67 = .ok (.putfield 32, 3) := by decide +kernel
theorem dX0_give_70 : decode cX0_give 70 = .ok (.aload_n 0, 1) := by decide +kernel
theorem dX0_give_71 : decode cX0_give 71 = .ok (.iconst 1, 1) := by decide +kernel
theorem dX0_give_72 : decode cX0_give 72 = .ok (.putfield 29, 3) := by decide +kernel
theorem dX0_give_75 : decode cX0_give 75 = .ok (.aload_n 0, 1) := by decide +kernel
theorem dX0_give_76 : decode cX0_give 76 = .ok (.getfield 32, 3) := by decide +kernel
theorem dX0_give_79 : decode cX0_give 79 = .ok (.ireturn, 1) := by decide +kernel
set_option maxRecDepth 20000 in
theorem ggX0_place_X0_isNumber : GoodIn wsX0_place wsX0_isNumber := goodIn_r _ [14] (by decide +kernel) (by decide +kernel)
set_option maxRecDepth 20000 in
theorem gX0_place_X0_isNumber : GoodIn wsX0_place (va_wsS RX0 42 yX0_isNumber wsX0_isNumber) := goodIn_app (goodIn_of _ (by decide +kernel)) ggX0_place_X0_isNumber
set_option maxRecDepth 20000 in
theorem ggX0_place_X0_has : GoodIn wsX0_place wsX0_has := goodIn_r _ [17] (by decide +kernel) (by decide +kernel)
set_option maxRecDepth 20000 in
theorem gX0_place_X0_has : GoodIn wsX0_place (va_wsS RX0 58 yX0_has wsX0_has) := goodIn_app (goodIn_of _ (by decide +kernel)) ggX0_place_X0_has
set_option maxRecDepth 20000 in
theorem ggX0_place_X0_put : GoodIn wsX0_place wsX0_put := goodIn_r _ [21, 6, 22, 23, 24, 25, 13, 26, 27, 28, 29, 47, 48, 49, 50, 51, 52, 53, 54, 55, 56, 57] (by decide +kernel) (by decide +kernel)
set_option maxRecDepth 20000 in
theorem gX0_place_X0_put : GoodIn wsX0_place (wsV RX0 70 RX0 yX0_put wsX0_put) := goodIn_app (goodIn_of _ (by decide +kernel)) ggX0_place_X0_put
set_option maxRecDepth 20000 in
theorem ggX0_place_X0_wonLines : GoodIn wsX0_place wsX0_wonLines := goodIn_r _ [33, 34, 6, 35, 36, 37, 13, 38, 39, 40, 41, 42, 43, 23, 44, 45, 46, 10, 47, 48, 49, 50, 51, 52, 53, 54, 55, 56, 57] (by decide +kernel) (by decide +kernel)
set_option maxRecDepth 20000 in
theorem gX0_place_X0_wonLines : GoodIn wsX0_place (wsV RX0 74 RX0 yX0_wonLines wsX0_wonLines) := goodIn_app (goodIn_of _ (by decide +kernel)) ggX0_place_X0_wonLines
theorem dX0_place_0 : decode cX0_place 0 = .ok (.iload_n 1, 1) := by decide +kernel
theorem dX0_place_1 : decode cX0_place 1 = .ok (.invokestatic 42, 3) := by decide +kernel
theorem dX0_place_4 : decode cX0_place 4 = .ok (.ifCond .ne 13, 3) := by decide +kernel
theorem dX0_place_7 : decode cX0_place 7 = .ok (.new 46, 3) := by decide +kernel
theorem dX0_place_10 : decode cX0_place 10 = .ok (.dup, 1) := by decide +kernel
theorem dX0_place_11 : decode cX0_place 11 = .ok (.ldc 64, 2) := by decide +kernel
theorem dX0_place_13 : decode cX0_place 13 = .ok (.invokespecial 50, 3) := by decide +kernel
theorem dX0_place_16 : decode cX0_place 16 = .ok (.athrow, 1) := by decide +kernel
theorem dX0_place_17 : decode cX0_place 17 = .ok (.aload_n 0, 1) := by decide +kernel
theorem dX0_place_18 : decode cX0_place 18 = .ok (.getfield 29, 3) := by decide +kernel
theorem dX0_place_21 : decode cX0_place 21 = .ok (.iconst 1, 1) := by decide +kernel
theorem dX0_place_22 : decode cX0_place 22 = .ok (.if_icmp .eq 13, 3) := by decide +kernel
theorem dX0_place_25 : decode cX0_place 25 = .ok (.new 53, 3) := by decide +kernel
theorem dX0_place_28 : decode cX0_place 28 = .ok (.dup, 1) := by decide +kernel
theorem dX0_place_29 : decode cX0_place 29 = .ok (.ldc 66, 2) := by decide +kernel
theorem dX0_place_31 : decode cX0_place 31 = .ok (.invokespecial 57, 3) := by decide +kernel
theorem dX0_place_34 : decode cX0_place 34 = .ok (.athrow, 1) := by decide +kernel
theorem dX0_place_35 : decode cX0_place 35 = .ok (.aload_n 0, 1) := by decide +kernel
theorem dX0_place_36 : decode cX0_place 36 = .ok (.getfield 16, 3) := by decide +kernel
theorem dX0_place_39 : decode cX0_place 39 = .ok (.iload_n 1, 1) := by decide +kernel
theorem dX0_place_40 : decode cX0_place 40 = .ok (.invokestatic 58, 3) := by decide +kernel
theorem dX0_place_43 : decode cX0_place 43 = .ok (.ifCond .eq 13, 3) := by decide +kernel
theorem dX0_place_46 : decode cX0_place 46 = .ok (.new 53, 3) := by decide +kernel
theorem dX0_place_49 : decode cX0_place 49 = .ok (.dup, 1) := by decide +kernel
theorem dX0_place_50 : decode cX0_place 50 = .ok (.ldc 68, 2) := by decide +kernel
theorem dX0_place_52 : decode cX0_place 52 = .ok (.invokespecial 57, 3) := by decide +kernel
theorem dX0_place_55 : decode cX0_place 55 = .ok (.athrow, 1) := by decide +kernel
theorem dX0_place_56 : decode cX0_place 56 = .ok (.aload_n 0, 1) := by decide +kernel
theorem dX0_place_57 : decode cX0_place 57 = .ok (.aload_n 0, 1) := by decide +kernel
theorem dX0_place_58 : decode cX0_place 58 = .ok (.getfield 9, 3) := by decide +kernel
theorem dX0_place_61 : decode cX0_place 61 = .ok (.iload_n 1, 1) := by decide +kernel
theorem dX0_place_62 : decode cX0_place 62 = .ok (.invokevirtual 70, 3) := by decide +kernel
theorem dX0_place_65 : decode cX0_place 65 = .ok (.aload_n 0, 1) := by decide +kernel
theorem dX0_place_66 : decode cX0_place 66 = .ok (.iconst (-1), 1) := by decide +kernel
theorem dX0_place_67 : decode cX0_place 67 = .ok (.putfield 9, 3) := by decide +kernel
theorem dX0_place_70 : decode cX0_place 70 = .ok (.aload_n 0, 1) := by decide +kernel
theorem dX0_place_71 : decode cX0_place 71 = .ok (.invokevirtual 74, 3) := by decide +kernel
theorem dX0_place_74 : decode cX0_place 74 = .ok (.istore_n 2, 1) := by decide +kernel
theorem dX0_place_75 : decode cX0_place 75 = .ok (.iload_n 2, 1) := by decide +kernel
theorem dX0_place_76 : decode cX0_place 76 = .ok (.ifCond .le 19, 3) := by decide +kernel
theorem dX0_place_79 : decode cX0_place 79 = .ok (.aload_n 0, 1) := by decide +kernel
theorem dX0_place_80 : decode cX0_place 80 = .ok (.iconst 2, 1) := by decide +kernel
theorem dX0_place_81 : decode cX0_place 81 = .ok (.putfield 29, 3) := by decide +kernel
theorem dX0_place_84 : decode cX0_place 84 = .ok (.aload_n 0, 1) := by decide +kernel
theorem dX0_place_85 : decode cX0_place 85 = .ok (.aload_n 0, 1) := by decide +kernel
theorem dX0_place_86 : decode cX0_place 86 = .ok (.getfield 32, 3) := by decide +kernel
theorem dX0_place_89 : decode cX0_place 89 = .ok (.putfield 13, 3) := by decide +kernel
theorem dX0_place_92 : decode cX0_place 92 = .ok (.goto 30, 3) := by decide +kernel
theorem dX0_place_95 : decode cX0_place 95 = .ok (.aload_n 0, 1) := by decide +kernel
theorem dX0_place_96 : decode cX0_place 96 = .ok (.getfield 16, 3) := by decide +kernel
theorem dX0_place_99 : decode cX0_place 99 = .ok (.ldc 78, 2) := by decide +kernel
theorem dX0_place_101 : decode cX0_place 101 = .ok (.if_icmp .ne 16, 3) := by decide +kernel
theorem dX0_place_104 : decode cX0_place 104 = .ok (.aload_n 0, 1) := by decide +kernel
theorem dX0_place_105 : decode cX0_place 105 = .ok (.iconst 2, 1) := by decide +kernel
theorem dX0_place_106 : decode cX0_place 106 = .ok (.putfield 29, 3) := by decide +kernel
theorem dX0_place_109 : decode cX0_place 109 = .ok (.aload_n 0, 1) := by decide +kernel
theorem dX0_place_110 : decode cX0_place 110 = .ok (.iconst 2, 1) := by decide +kernel
theorem dX0_place_111 : decode cX0_place 111 = .ok (.putfield 13, 3) := by decide +kernel
theorem dX0_place_114 : decode cX0_place 114 = .ok (.goto 8, 3) := by decide +kernel
theorem dX0_place_117 : decode cX0_place 117 = .ok (.aload_n 0, 1) := by decide +kernel
theorem dX0_place_118 : decode cX0_place 118 = .ok (.iconst 0, 1) := by decide +kernel
theorem dX0_place_119 : decode cX0_place 119 = .ok (.putfield 29, 3) := by decide +kernel
theorem dX0_place_122 : decode cX0_place 122 = .ok (.iload_n 2, 1) := by decide +kernel
theorem dX0_place_123 : decode cX0_place 123 = .ok (.ireturn, 1) := by decide +kernel
theorem dX0_phase_0 : decode cX0_phase 0 = .ok (.aload_n 0, 1) := by decide +kernel
theorem dX0_phase_1 : decode cX0_phase 1 = .ok (.getfield 29, 3) := by decide +kernel
theorem dX0_phase_4 : decode cX0_phase 4 = .ok (.ireturn, 1) := by decide +kernel
theorem dX0_onTurn_0 : decode cX0_onTurn 0 = .ok (.aload_n 0, 1) := by decide +kernel
theorem dX0_onTurn_1 : decode cX0_onTurn 1 = .ok (.getfield 32, 3) := by decide +kernel
theorem dX0_onTurn_4 : decode cX0_onTurn 4 = .ok (.ireturn, 1) := by decide +kernel
theorem dX0_hand_0 : decode cX0_hand 0 = .ok (.aload_n 0, 1) := by decide +kernel
theorem dX0_hand_1 : decode cX0_hand 1 = .ok (.getfield 9, 3) := by decide +kernel
theorem dX0_hand_4 : decode cX0_hand 4 = .ok (.ireturn, 1) := by decide +kernel
set_option maxRecDepth 20000 in
theorem ggX0_pieceAt_X0_isNumber : GoodIn wsX0_pieceAt wsX0_isNumber := goodIn_r _ [8] (by decide +kernel) (by decide +kernel)
set_option maxRecDepth 20000 in
theorem gX0_pieceAt_X0_isNumber : GoodIn wsX0_pieceAt (va_wsS RX0 42 yX0_isNumber wsX0_isNumber) := goodIn_app (goodIn_of _ (by decide +kernel)) ggX0_pieceAt_X0_isNumber
set_option maxRecDepth 20000 in
theorem ggX0_pieceAt_X0_has : GoodIn wsX0_pieceAt wsX0_has := goodIn_r _ [11] (by decide +kernel) (by decide +kernel)
set_option maxRecDepth 20000 in
theorem gX0_pieceAt_X0_has : GoodIn wsX0_pieceAt (va_wsS RX0 58 yX0_has wsX0_has) := goodIn_app (goodIn_of _ (by decide +kernel)) ggX0_pieceAt_X0_has
set_option maxRecDepth 20000 in
theorem ggX0_pieceAt_X0_withOne : GoodIn wsX0_pieceAt wsX0_withOne := goodIn_r _ [14, 15] (by decide +kernel) (by decide +kernel)
set_option maxRecDepth 20000 in
theorem gX0_pieceAt_X0_withOne : GoodIn wsX0_pieceAt (va_wsS RX0 79 yX0_withOne wsX0_withOne) := goodIn_app (goodIn_of _ (by decide +kernel)) ggX0_pieceAt_X0_withOne
theorem dX0_pieceAt_0 : decode cX0_pieceAt 0 = .ok (.iload_n 1, 1) := by decide +kernel
theorem dX0_pieceAt_1 : decode cX0_pieceAt 1 = .ok (.invokestatic 42, 3) := by decide +kernel
theorem dX0_pieceAt_4 : decode cX0_pieceAt 4 = .ok (.ifCond .ne 13, 3) := by decide +kernel
theorem dX0_pieceAt_7 : decode cX0_pieceAt 7 = .ok (.new 46, 3) := by decide +kernel
theorem dX0_pieceAt_10 : decode cX0_pieceAt 10 = .ok (.dup, 1) := by decide +kernel
theorem dX0_pieceAt_11 : decode cX0_pieceAt 11 = .ok (.ldc 64, 2) := by decide +kernel
theorem dX0_pieceAt_13 : decode cX0_pieceAt 13 = .ok (.invokespecial 50, 3) := by decide +kernel
theorem dX0_pieceAt_16 : decode cX0_pieceAt 16 = .ok (.athrow, 1) := by decide +kernel
theorem dX0_pieceAt_17 : decode cX0_pieceAt 17 = .ok (.aload_n 0, 1) := by decide +kernel
theorem dX0_pieceAt_18 : decode cX0_pieceAt 18 = .ok (.getfield 16, 3) := by decide +kernel
theorem dX0_pieceAt_21 : decode cX0_pieceAt 21 = .ok (.iload_n 1, 1) := by decide +kernel
theorem dX0_pieceAt_22 : decode cX0_pieceAt 22 = .ok (.invokestatic 58, 3) := by decide +kernel
theorem dX0_pieceAt_25 : decode cX0_pieceAt 25 = .ok (.ifCond .ne 5, 3) := by decide +kernel
theorem dX0_pieceAt_28 : decode cX0_pieceAt 28 = .ok (.iconst (-1), 1) := by decide +kernel
theorem dX0_pieceAt_29 : decode cX0_pieceAt 29 = .ok (.ireturn, 1) := by decide +kernel
theorem dX0_pieceAt_30 : decode cX0_pieceAt 30 = .ok (.iconst 0, 1) := by decide +kernel
theorem dX0_pieceAt_31 : decode cX0_pieceAt 31 = .ok (.istore_n 2, 1) := by decide +kernel
theorem dX0_pieceAt_32 : decode cX0_pieceAt 32 = .ok (.iconst 0, 1) := by decide +kernel
theorem dX0_pieceAt_33 : decode cX0_pieceAt 33 = .ok (.istore_n 3, 1) := by decide +kernel
theorem dX0_pieceAt_34 : decode cX0_pieceAt 34 = .ok (.iload_n 3, 1) := by decide +kernel
theorem dX0_pieceAt_35 : decode cX0_pieceAt 35 = .ok (.iconst 4, 1) := by decide +kernel
theorem dX0_pieceAt_36 : decode cX0_pieceAt 36 = .ok (.if_icmp .ge 30, 3) := by decide +kernel
theorem dX0_pieceAt_39 : decode cX0_pieceAt 39 = .ok (.aload_n 0, 1) := by decide +kernel
theorem dX0_pieceAt_40 : decode cX0_pieceAt 40 = .ok (.getfield 38, 3) := by decide +kernel
theorem dX0_pieceAt_43 : decode cX0_pieceAt 43 = .ok (.iload_n 3, 1) := by decide +kernel
theorem dX0_pieceAt_44 : decode cX0_pieceAt 44 = .ok (.invokestatic 79, 3) := by decide +kernel
theorem dX0_pieceAt_47 : decode cX0_pieceAt 47 = .ok (.iload_n 1, 1) := by decide +kernel
theorem dX0_pieceAt_48 : decode cX0_pieceAt 48 = .ok (.invokestatic 58, 3) := by decide +kernel
theorem dX0_pieceAt_51 : decode cX0_pieceAt 51 = .ok (.ifCond .eq 9, 3) := by decide +kernel
theorem dX0_pieceAt_54 : decode cX0_pieceAt 54 = .ok (.iload_n 2, 1) := by decide +kernel
theorem dX0_pieceAt_55 : decode cX0_pieceAt 55 = .ok (.iconst 1, 1) := by decide +kernel
theorem dX0_pieceAt_56 : decode cX0_pieceAt 56 = .ok (.iload_n 3, 1) := by decide +kernel
theorem dX0_pieceAt_57 : decode cX0_pieceAt 57 = .ok (.ishl, 1) := by decide +kernel
theorem dX0_pieceAt_58 : decode cX0_pieceAt 58 = .ok (.ior, 1) := by decide +kernel
theorem dX0_pieceAt_59 : decode cX0_pieceAt 59 = .ok (.istore_n 2, 1) := by decide +kernel
theorem dX0_pieceAt_60 : decode cX0_pieceAt 60 = .ok (.iinc 3 1, 3) := by decide +kernel
theorem dX0_pieceAt_63 : decode cX0_pieceAt 63 = .ok (.goto (-29), 3) := by decide +kernel
theorem dX0_pieceAt_66 : decode cX0_pieceAt 66 = .ok (.iload_n 2, 1) := by decide +kernel
theorem dX0_pieceAt_67 : decode cX0_pieceAt 67 = .ok (.ireturn, 1) := by decide +kernel
set_option maxRecDepth 20000 in
theorem ggX0_placed_J6_bitCount_0f7a4 : GoodIn wsX0_placed wsJ6_bitCount_0f7a4 := goodIn_r _ [5, 6, 7, 8] (by decide +kernel) (by decide +kernel)
set_option maxRecDepth 20000 in
theorem gX0_placed_J6_bitCount_0f7a4 : GoodIn wsX0_placed (va_wsS RX0 19 yJ6_bitCount_0f7a4 wsJ6_bitCount_0f7a4) := goodIn_app (goodIn_of _ (by decide +kernel)) ggX0_placed_J6_bitCount_0f7a4
theorem dX0_placed_0 : decode cX0_placed 0 = .ok (.aload_n 0, 1) := by decide +kernel
theorem dX0_placed_1 : decode cX0_placed 1 = .ok (.getfield 16, 3) := by decide +kernel
theorem dX0_placed_4 : decode cX0_placed 4 = .ok (.invokestatic 19, 3) := by decide +kernel
theorem dX0_placed_7 : decode cX0_placed 7 = .ok (.ireturn, 1) := by decide +kernel
theorem dX0_winner_0 : decode cX0_winner 0 = .ok (.aload_n 0, 1) := by decide +kernel
theorem dX0_winner_1 : decode cX0_winner 1 = .ok (.getfield 13, 3) := by decide +kernel
theorem dX0_winner_4 : decode cX0_winner 4 = .ok (.ireturn, 1) := by decide +kernel
theorem dX0_lines_0 : decode cX0_lines 0 = .ok (.aload_n 0, 1) := by decide +kernel
theorem dX0_lines_1 : decode cX0_lines 1 = .ok (.getfield 25, 3) := by decide +kernel
theorem dX0_lines_4 : decode cX0_lines 4 = .ok (.ifCond .eq 10, 3) := by decide +kernel
theorem dX0_lines_7 : decode cX0_lines 7 = .ok (.getstatic 83, 3) := by decide +kernel
theorem dX0_lines_10 : decode cX0_lines 10 = .ok (.arraylength, 1) := by decide +kernel
theorem dX0_lines_11 : decode cX0_lines 11 = .ok (.goto 5, 3) := by decide +kernel
theorem dX0_lines_14 : decode cX0_lines 14 = .ok (.bipush 10, 2) := by decide +kernel
theorem dX0_lines_16 : decode cX0_lines 16 = .ok (.ireturn, 1) := by decide +kernel
set_option maxRecDepth 20000 in
theorem ggX0_onLine_X0_lines : GoodIn wsX0_onLine wsX0_lines := goodIn_r _ [9, 10, 3, 18, 19, 20, 21, 22, 23, 24, 25, 26, 27, 28] (by decide +kernel) (by decide +kernel)
set_option maxRecDepth 20000 in
theorem gX0_onLine_X0_lines : GoodIn wsX0_onLine (wsV RX0 87 RX0 yX0_lines wsX0_lines) := goodIn_app (goodIn_of _ (by decide +kernel)) ggX0_onLine_X0_lines
set_option maxRecDepth 20000 in
theorem ggX0_onLine_J6_bitCount_0f7a4 : GoodIn wsX0_onLine wsJ6_bitCount_0f7a4 := goodIn_r _ [14, 15, 16, 17] (by decide +kernel) (by decide +kernel)
set_option maxRecDepth 20000 in
theorem gX0_onLine_J6_bitCount_0f7a4 : GoodIn wsX0_onLine (va_wsS RX0 19 yJ6_bitCount_0f7a4 wsJ6_bitCount_0f7a4) := goodIn_app (goodIn_of _ (by decide +kernel)) ggX0_onLine_J6_bitCount_0f7a4
theorem dX0_onLine_0 : decode cX0_onLine 0 = .ok (.iload_n 1, 1) := by decide +kernel
theorem dX0_onLine_1 : decode cX0_onLine 1 = .ok (.ifCond .lt 11, 3) := by decide +kernel
theorem dX0_onLine_4 : decode cX0_onLine 4 = .ok (.iload_n 1, 1) := by decide +kernel
theorem dX0_onLine_5 : decode cX0_onLine 5 = .ok (.aload_n 0, 1) := by decide +kernel
theorem dX0_onLine_6 : decode cX0_onLine 6 = .ok (.invokevirtual 87, 3) := by decide +kernel
theorem dX0_onLine_9 : decode cX0_onLine 9 = .ok (.if_icmp .lt 13, 3) := by decide +kernel
theorem dX0_onLine_12 : decode cX0_onLine 12 = .ok (.new 46, 3) := by decide +kernel
theorem dX0_onLine_15 : decode cX0_onLine 15 = .ok (.dup, 1) := by decide +kernel
theorem dX0_onLine_16 : decode cX0_onLine 16 = .ok (.ldc 90, 2) := by decide +kernel
theorem dX0_onLine_18 : decode cX0_onLine 18 = .ok (.invokespecial 50, 3) := by decide +kernel
theorem dX0_onLine_21 : decode cX0_onLine 21 = .ok (.athrow, 1) := by decide +kernel
theorem dX0_onLine_22 : decode cX0_onLine 22 = .ok (.getstatic 83, 3) := by decide +kernel
theorem dX0_onLine_25 : decode cX0_onLine 25 = .ok (.iload_n 1, 1) := by decide +kernel
theorem dX0_onLine_26 : decode cX0_onLine 26 = .ok (.iaload, 1) := by decide +kernel
theorem dX0_onLine_27 : decode cX0_onLine 27 = .ok (.aload_n 0, 1) := by decide +kernel
theorem dX0_onLine_28 : decode cX0_onLine 28 = .ok (.getfield 16, 3) := by decide +kernel
theorem dX0_onLine_31 : decode cX0_onLine 31 = .ok (.iand, 1) := by decide +kernel
theorem dX0_onLine_32 : decode cX0_onLine 32 = .ok (.invokestatic 19, 3) := by decide +kernel
theorem dX0_onLine_35 : decode cX0_onLine 35 = .ok (.ireturn, 1) := by decide +kernel
set_option maxRecDepth 20000 in
theorem ggX0_shared_X0_lines : GoodIn wsX0_shared wsX0_lines := goodIn_r _ [8, 9, 3, 20, 21, 22, 23, 24, 25, 26, 27, 28, 29, 30] (by decide +kernel) (by decide +kernel)
set_option maxRecDepth 20000 in
theorem gX0_shared_X0_lines : GoodIn wsX0_shared (wsV RX0 87 RX0 yX0_lines wsX0_lines) := goodIn_app (goodIn_of _ (by decide +kernel)) ggX0_shared_X0_lines
set_option maxRecDepth 20000 in
theorem ggX0_shared_X0_inCommon : GoodIn wsX0_shared wsX0_inCommon := goodIn_r _ [13, 14, 15, 16, 17, 7, 18, 19, 20, 21, 22, 23, 24, 25, 26, 27, 28, 29, 30] (by decide +kernel) (by decide +kernel)
set_option maxRecDepth 20000 in
theorem gX0_shared_X0_inCommon : GoodIn wsX0_shared (wsV RX0 92 RX0 yX0_inCommon wsX0_inCommon) := goodIn_app (goodIn_of _ (by decide +kernel)) ggX0_shared_X0_inCommon
theorem dX0_shared_0 : decode cX0_shared 0 = .ok (.iload_n 1, 1) := by decide +kernel
theorem dX0_shared_1 : decode cX0_shared 1 = .ok (.ifCond .lt 11, 3) := by decide +kernel
theorem dX0_shared_4 : decode cX0_shared 4 = .ok (.iload_n 1, 1) := by decide +kernel
theorem dX0_shared_5 : decode cX0_shared 5 = .ok (.aload_n 0, 1) := by decide +kernel
theorem dX0_shared_6 : decode cX0_shared 6 = .ok (.invokevirtual 87, 3) := by decide +kernel
theorem dX0_shared_9 : decode cX0_shared 9 = .ok (.if_icmp .lt 13, 3) := by decide +kernel
theorem dX0_shared_12 : decode cX0_shared 12 = .ok (.new 46, 3) := by decide +kernel
theorem dX0_shared_15 : decode cX0_shared 15 = .ok (.dup, 1) := by decide +kernel
theorem dX0_shared_16 : decode cX0_shared 16 = .ok (.ldc 90, 2) := by decide +kernel
theorem dX0_shared_18 : decode cX0_shared 18 = .ok (.invokespecial 50, 3) := by decide +kernel
theorem dX0_shared_21 : decode cX0_shared 21 = .ok (.athrow, 1) := by decide +kernel
theorem dX0_shared_22 : decode cX0_shared 22 = .ok (.aload_n 0, 1) := by decide +kernel
theorem dX0_shared_23 : decode cX0_shared 23 = .ok (.getstatic 83, 3) := by decide +kernel
theorem dX0_shared_26 : decode cX0_shared 26 = .ok (.iload_n 1, 1) := by decide +kernel
theorem dX0_shared_27 : decode cX0_shared 27 = .ok (.iaload, 1) := by decide +kernel
theorem dX0_shared_28 : decode cX0_shared 28 = .ok (.invokevirtual 92, 3) := by decide +kernel
theorem dX0_shared_31 : decode cX0_shared 31 = .ok (.ireturn, 1) := by decide +kernel
set_option maxRecDepth 20000 in
theorem ggX0_winning_X0_isNumber : GoodIn wsX0_winning wsX0_isNumber := goodIn_r _ [10] (by decide +kernel) (by decide +kernel)
set_option maxRecDepth 20000 in
theorem gX0_winning_X0_isNumber : GoodIn wsX0_winning (va_wsS RX0 42 yX0_isNumber wsX0_isNumber) := goodIn_app (goodIn_of _ (by decide +kernel)) ggX0_winning_X0_isNumber
set_option maxRecDepth 20000 in
theorem ggX0_winning_X0_has : GoodIn wsX0_winning wsX0_has := goodIn_r _ [13] (by decide +kernel) (by decide +kernel)
set_option maxRecDepth 20000 in
theorem gX0_winning_X0_has : GoodIn wsX0_winning (va_wsS RX0 58 yX0_has wsX0_has) := goodIn_app (goodIn_of _ (by decide +kernel)) ggX0_winning_X0_has
set_option maxRecDepth 20000 in
theorem ggX0_winning_X0_winningSquares : GoodIn wsX0_winning wsX0_winningSquares := goodIn_r _ [17, 18, 19, 20, 21, 9, 22, 23, 24, 25, 26, 27, 28, 29, 30, 31, 32, 33, 34, 35, 36, 37, 38, 39, 40, 41, 42, 43, 44, 45, 46, 47, 48, 49, 50, 51] (by decide +kernel) (by decide +kernel)
set_option maxRecDepth 20000 in
theorem gX0_winning_X0_winningSquares : GoodIn wsX0_winning (wsV RX0 97 RX0 yX0_winningSquares wsX0_winningSquares) := goodIn_app (goodIn_of _ (by decide +kernel)) ggX0_winning_X0_winningSquares
theorem dX0_winning_0 : decode cX0_winning 0 = .ok (.iload_n 1, 1) := by decide +kernel
theorem dX0_winning_1 : decode cX0_winning 1 = .ok (.invokestatic 42, 3) := by decide +kernel
theorem dX0_winning_4 : decode cX0_winning 4 = .ok (.ifCond .ne 13, 3) := by decide +kernel
theorem dX0_winning_7 : decode cX0_winning 7 = .ok (.new 46, 3) := by decide +kernel
theorem dX0_winning_10 : decode cX0_winning 10 = .ok (.dup, 1) := by decide +kernel
theorem dX0_winning_11 : decode cX0_winning 11 = .ok (.ldc 48, 2) := by decide +kernel
theorem dX0_winning_13 : decode cX0_winning 13 = .ok (.invokespecial 50, 3) := by decide +kernel
theorem dX0_winning_16 : decode cX0_winning 16 = .ok (.athrow, 1) := by decide +kernel
theorem dX0_winning_17 : decode cX0_winning 17 = .ok (.aload_n 0, 1) := by decide +kernel
theorem dX0_winning_18 : decode cX0_winning 18 = .ok (.getfield 29, 3) := by decide +kernel
theorem dX0_winning_21 : decode cX0_winning 21 = .ok (.iconst 2, 1) := by decide +kernel
theorem dX0_winning_22 : decode cX0_winning 22 = .ok (.if_icmp .ne 13, 3) := by decide +kernel
theorem dX0_winning_25 : decode cX0_winning 25 = .ok (.new 53, 3) := by decide +kernel
theorem dX0_winning_28 : decode cX0_winning 28 = .ok (.dup, 1) := by decide +kernel
theorem dX0_winning_29 : decode cX0_winning 29 = .ok (.ldc 95, 2) := by decide +kernel
theorem dX0_winning_31 : decode cX0_winning 31 = .ok (.invokespecial 57, 3) := by decide +kernel
theorem dX0_winning_34 : decode cX0_winning 34 = .ok (.athrow, 1) := by decide +kernel
theorem dX0_winning_35 : decode cX0_winning 35 = .ok (.aload_n 0, 1) := by decide +kernel
theorem dX0_winning_36 : decode cX0_winning 36 = .ok (.getfield 35, 3) := by decide +kernel
theorem dX0_winning_39 : decode cX0_winning 39 = .ok (.iload_n 1, 1) := by decide +kernel
theorem dX0_winning_40 : decode cX0_winning 40 = .ok (.invokestatic 58, 3) := by decide +kernel
theorem dX0_winning_43 : decode cX0_winning 43 = .ok (.ifCond .eq 13, 3) := by decide +kernel
theorem dX0_winning_46 : decode cX0_winning 46 = .ok (.new 53, 3) := by decide +kernel
theorem dX0_winning_49 : decode cX0_winning 49 = .ok (.dup, 1) := by decide +kernel
theorem dX0_winning_50 : decode cX0_winning 50 = .ok (.ldc 62, 2) := by decide +kernel
theorem dX0_winning_52 : decode cX0_winning 52 = .ok (.invokespecial 57, 3) := by decide +kernel
theorem dX0_winning_55 : decode cX0_winning 55 = .ok (.athrow, 1) := by decide +kernel
theorem dX0_winning_56 : decode cX0_winning 56 = .ok (.aload_n 0, 1) := by decide +kernel
theorem dX0_winning_57 : decode cX0_winning 57 = .ok (.iload_n 1, 1) := by decide +kernel
theorem dX0_winning_58 : decode cX0_winning 58 = .ok (.invokevirtual 97, 3) := by decide +kernel
theorem dX0_winning_61 : decode cX0_winning 61 = .ok (.ireturn, 1) := by decide +kernel
set_option maxRecDepth 20000 in
theorem ggX0_safe_X0_safePieces : GoodIn wsX0_safe wsX0_safePieces := goodIn_r _ [8, 9, 10, 11, 12, 7, 13, 14, 15, 16, 17, 18, 19, 20, 21, 22, 23, 24, 25, 26, 27, 28, 29, 30, 31, 32, 33, 34, 35, 36, 37, 38, 39, 40, 41, 42, 43, 44, 45, 46, 47, 48, 49, 50] (by decide +kernel) (by decide +kernel)
set_option maxRecDepth 20000 in
theorem gX0_safe_X0_safePieces : GoodIn wsX0_safe (wsV RX0 100 RX0 yX0_safePieces wsX0_safePieces) := goodIn_app (goodIn_of _ (by decide +kernel)) ggX0_safe_X0_safePieces
theorem dX0_safe_0 : decode cX0_safe 0 = .ok (.aload_n 0, 1) := by decide +kernel
theorem dX0_safe_1 : decode cX0_safe 1 = .ok (.getfield 29, 3) := by decide +kernel
theorem dX0_safe_4 : decode cX0_safe 4 = .ok (.ifCond .eq 13, 3) := by decide +kernel
theorem dX0_safe_7 : decode cX0_safe 7 = .ok (.new 53, 3) := by decide +kernel
theorem dX0_safe_10 : decode cX0_safe 10 = .ok (.dup, 1) := by decide +kernel
theorem dX0_safe_11 : decode cX0_safe 11 = .ok (.ldc 55, 2) := by decide +kernel
theorem dX0_safe_13 : decode cX0_safe 13 = .ok (.invokespecial 57, 3) := by decide +kernel
theorem dX0_safe_16 : decode cX0_safe 16 = .ok (.athrow, 1) := by decide +kernel
theorem dX0_safe_17 : decode cX0_safe 17 = .ok (.aload_n 0, 1) := by decide +kernel
theorem dX0_safe_18 : decode cX0_safe 18 = .ok (.invokevirtual 100, 3) := by decide +kernel
theorem dX0_safe_21 : decode cX0_safe 21 = .ok (.ireturn, 1) := by decide +kernel
set_option maxRecDepth 20000 in
theorem ggX0_worth_X0_canLookAhead : GoodIn wsX0_worth wsX0_canLookAhead := goodIn_r _ [11, 12, 5, 13, 14, 15, 16, 17, 18, 19, 98, 99, 100, 101, 102, 103, 104, 105, 106, 107, 108] (by decide +kernel) (by decide +kernel)
set_option maxRecDepth 20000 in
theorem gX0_worth_X0_canLookAhead : GoodIn wsX0_worth (wsV RX0 108 RX0 yX0_canLookAhead wsX0_canLookAhead) := goodIn_app (goodIn_of _ (by decide +kernel)) ggX0_worth_X0_canLookAhead
set_option maxRecDepth 20000 in
theorem ggX0_worth_X0_worthToGive : GoodIn wsX0_worth wsX0_worthToGive := goodIn_r _ [23, 24, 25, 26, 10, 27, 28, 29, 30, 31, 32, 33, 34, 35, 36, 37, 38, 39, 40, 41, 42, 43, 44, 45, 46, 12, 47, 48, 49, 50, 51, 52, 53, 54, 55, 56, 57, 58, 59, 60, 61, 62, 63, 64, 65, 66, 67, 68, 69, 70, 71, 72, 73, 74, 75, 76, 77, 78, 79, 80, 81, 82, 83, 84, 85, 86, 87, 88, 89, 98, 99, 100, 101, 102, 103, 104, 105, 106, 107, 108] (by decide +kernel) (by decide +kernel)
set_option maxRecDepth 20000 in
theorem gX0_worth_X0_worthToGive : GoodIn wsX0_worth (wsV RX0 113 RX0 yX0_worthToGive wsX0_worthToGive) := goodIn_app (goodIn_of _ (by decide +kernel)) ggX0_worth_X0_worthToGive
set_option maxRecDepth 20000 in
theorem ggX0_worth_X0_worthToPlace : GoodIn wsX0_worth wsX0_worthToPlace := goodIn_r _ [93, 94, 95, 96, 10, 97, 37, 12, 59, 60, 61, 38, 39, 40, 41, 42, 43, 44, 45, 46, 47, 48, 49, 50, 51, 52, 53, 54, 55, 66, 67, 68, 89, 56, 57, 58, 70, 71, 72, 73, 32, 74, 75, 76, 77, 78, 79, 24, 25, 26, 83, 84, 85, 86, 87, 88, 65, 28, 29, 30, 31, 33, 34, 35, 36, 27, 62, 63, 64, 69, 80, 81, 82, 98, 99, 100, 101, 102, 103, 104, 105, 106, 107, 108] (by decide +kernel) (by decide +kernel)
set_option maxRecDepth 20000 in
theorem gX0_worth_X0_worthToPlace : GoodIn wsX0_worth (wsV RX0 116 RX0 yX0_worthToPlace wsX0_worthToPlace) := goodIn_app (goodIn_of _ (by decide +kernel)) ggX0_worth_X0_worthToPlace
theorem dX0_worth_0 : decode cX0_worth 0 = .ok (.iload_n 1, 1) := by decide +kernel
theorem dX0_worth_1 : decode cX0_worth 1 = .ok (.iconst 1, 1) := by decide +kernel
theorem dX0_worth_2 : decode cX0_worth 2 = .ok (.if_icmp .lt 8, 3) := by decide +kernel
theorem dX0_worth_5 : decode cX0_worth 5 = .ok (.iload_n 1, 1) := by decide +kernel
theorem dX0_worth_6 : decode cX0_worth 6 = .ok (.iconst 4, 1) := by decide +kernel
theorem dX0_worth_7 : decode cX0_worth 7 = .ok (.if_icmp .le 13, 3) := by decide +kernel
theorem dX0_worth_10 : decode cX0_worth 10 = .ok (.new 103, 3) := by decide +kernel
theorem dX0_worth_13 : decode cX0_worth 13 = .ok (.dup, 1) := by decide +kernel
theorem dX0_worth_14 : decode cX0_worth 14 = .ok (.ldc 105, 2) := by decide +kernel
theorem dX0_worth_16 : decode cX0_worth 16 = .ok (.invokespecial 107, 3) := by decide +kernel
theorem dX0_worth_19 : decode cX0_worth 19 = .ok (.athrow, 1) := by decide +kernel
theorem dX0_worth_20 : decode cX0_worth 20 = .ok (.aload_n 0, 1) := by decide +kernel
theorem dX0_worth_21 : decode cX0_worth 21 = .ok (.iload_n 1, 1) := by decide +kernel
theorem dX0_worth_22 : decode cX0_worth 22 = .ok (.invokevirtual 108, 3) := by decide +kernel
theorem dX0_worth_25 : decode cX0_worth 25 = .ok (.ifCond .ne 13, 3) := by decide +kernel
theorem dX0_worth_28 : decode cX0_worth 28 = .ok (.new 53, 3) := by decide +kernel
theorem dX0_worth_31 : decode cX0_worth 31 = .ok (.dup, 1) := by decide +kernel
theorem dX0_worth_32 : decode cX0_worth 32 = .ok (.ldc 111, 2) := by decide +kernel
theorem dX0_worth_34 : decode cX0_worth 34 = .ok (.invokespecial 57, 3) := by decide +kernel
theorem dX0_worth_37 : decode cX0_worth 37 = .ok (.athrow, 1) := by decide +kernel
theorem dX0_worth_38 : decode cX0_worth 38 = .ok (.aload_n 0, 1) := by decide +kernel
theorem dX0_worth_39 : decode cX0_worth 39 = .ok (.getfield 29, 3) := by decide +kernel
theorem dX0_worth_42 : decode cX0_worth 42 = .ok (.ifCond .ne 11, 3) := by decide +kernel
theorem dX0_worth_45 : decode cX0_worth 45 = .ok (.aload_n 0, 1) := by decide +kernel
theorem dX0_worth_46 : decode cX0_worth 46 = .ok (.iload_n 1, 1) := by decide +kernel
theorem dX0_worth_47 : decode cX0_worth 47 = .ok (.invokevirtual 113, 3) := by decide +kernel
theorem dX0_worth_50 : decode cX0_worth 50 = .ok (.goto 12, 3) := by decide +kernel
theorem dX0_worth_53 : decode cX0_worth 53 = .ok (.aload_n 0, 1) := by decide +kernel
theorem dX0_worth_54 : decode cX0_worth 54 = .ok (.aload_n 0, 1) := by decide +kernel
theorem dX0_worth_55 : decode cX0_worth 55 = .ok (.getfield 9, 3) := by decide +kernel
theorem dX0_worth_58 : decode cX0_worth 58 = .ok (.iload_n 1, 1) := by decide +kernel
theorem dX0_worth_59 : decode cX0_worth 59 = .ok (.invokevirtual 116, 3) := by decide +kernel
theorem dX0_worth_62 : decode cX0_worth 62 = .ok (.ireturn, 1) := by decide +kernel
set_option maxRecDepth 20000 in
theorem ggX0_best_X0_canLookAhead : GoodIn wsX0_best wsX0_canLookAhead := goodIn_r _ [10, 11, 5, 12, 13, 14, 15, 16, 17, 18, 110, 111, 112, 113, 114, 115, 116, 117, 118, 119, 120] (by decide +kernel) (by decide +kernel)
set_option maxRecDepth 20000 in
theorem gX0_best_X0_canLookAhead : GoodIn wsX0_best (wsV RX0 108 RX0 yX0_canLookAhead wsX0_canLookAhead) := goodIn_app (goodIn_of _ (by decide +kernel)) ggX0_best_X0_canLookAhead
set_option maxRecDepth 20000 in
theorem ggX0_best_X0_bestPiece : GoodIn wsX0_best wsX0_bestPiece := goodIn_r _ [22, 23, 24, 25, 26, 9, 27, 28, 29, 30, 31, 32, 33, 34, 35, 36, 37, 38, 39, 40, 41, 42, 43, 44, 45, 46, 47, 48, 49, 11, 50, 51, 52, 53, 54, 55, 56, 57, 58, 59, 60, 61, 62, 63, 64, 65, 66, 67, 68, 69, 70, 71, 72, 73, 74, 75, 76, 77, 78, 79, 80, 81, 82, 83, 84, 85, 86, 87, 88, 89, 90, 91, 92, 93, 94, 95, 96, 97, 98, 99, 100, 110, 111, 112, 113, 114, 115, 116, 117, 118, 119, 120] (by decide +kernel) (by decide +kernel)
set_option maxRecDepth 20000 in
theorem gX0_best_X0_bestPiece : GoodIn wsX0_best (wsV RX0 120 RX0 yX0_bestPiece wsX0_bestPiece) := goodIn_app (goodIn_of _ (by decide +kernel)) ggX0_best_X0_bestPiece
set_option maxRecDepth 20000 in
theorem ggX0_best_X0_bestSquare : GoodIn wsX0_best wsX0_bestSquare := goodIn_r _ [104, 105, 11, 93, 94, 95, 9, 96, 97, 98, 99, 100, 40, 62, 63, 64, 41, 42, 43, 44, 45, 46, 47, 48, 49, 50, 51, 52, 53, 54, 55, 56, 57, 58, 69, 70, 71, 92, 59, 60, 61, 73, 74, 75, 76, 23, 77, 78, 79, 80, 81, 82, 28, 29, 30, 86, 87, 88, 89, 90, 91, 68, 32, 33, 34, 35, 36, 37, 38, 39, 31, 65, 66, 67, 72, 83, 84, 85, 106, 107, 108, 109, 24, 25, 26, 27, 110, 111, 112, 113, 114, 115, 116, 117, 118, 119, 120] (by decide +kernel) (by decide +kernel)
set_option maxRecDepth 20000 in
theorem gX0_best_X0_bestSquare : GoodIn wsX0_best (wsV RX0 123 RX0 yX0_bestSquare wsX0_bestSquare) := goodIn_app (goodIn_of _ (by decide +kernel)) ggX0_best_X0_bestSquare
theorem dX0_best_0 : decode cX0_best 0 = .ok (.iload_n 1, 1) := by decide +kernel
theorem dX0_best_1 : decode cX0_best 1 = .ok (.iconst 1, 1) := by decide +kernel
theorem dX0_best_2 : decode cX0_best 2 = .ok (.if_icmp .lt 8, 3) := by decide +kernel
theorem dX0_best_5 : decode cX0_best 5 = .ok (.iload_n 1, 1) := by decide +kernel
theorem dX0_best_6 : decode cX0_best 6 = .ok (.iconst 4, 1) := by decide +kernel
theorem dX0_best_7 : decode cX0_best 7 = .ok (.if_icmp .le 13, 3) := by decide +kernel
theorem dX0_best_10 : decode cX0_best 10 = .ok (.new 103, 3) := by decide +kernel
theorem dX0_best_13 : decode cX0_best 13 = .ok (.dup, 1) := by decide +kernel
theorem dX0_best_14 : decode cX0_best 14 = .ok (.ldc 105, 2) := by decide +kernel
theorem dX0_best_16 : decode cX0_best 16 = .ok (.invokespecial 107, 3) := by decide +kernel
theorem dX0_best_19 : decode cX0_best 19 = .ok (.athrow, 1) := by decide +kernel
theorem dX0_best_20 : decode cX0_best 20 = .ok (.aload_n 0, 1) := by decide +kernel
theorem dX0_best_21 : decode cX0_best 21 = .ok (.iload_n 1, 1) := by decide +kernel
theorem dX0_best_22 : decode cX0_best 22 = .ok (.invokevirtual 108, 3) := by decide +kernel
theorem dX0_best_25 : decode cX0_best 25 = .ok (.ifCond .ne 13, 3) := by decide +kernel
theorem dX0_best_28 : decode cX0_best 28 = .ok (.new 53, 3) := by decide +kernel
theorem dX0_best_31 : decode cX0_best 31 = .ok (.dup, 1) := by decide +kernel
theorem dX0_best_32 : decode cX0_best 32 = .ok (.ldc 111, 2) := by decide +kernel
theorem dX0_best_34 : decode cX0_best 34 = .ok (.invokespecial 57, 3) := by decide +kernel
theorem dX0_best_37 : decode cX0_best 37 = .ok (.athrow, 1) := by decide +kernel
theorem dX0_best_38 : decode cX0_best 38 = .ok (.aload_n 0, 1) := by decide +kernel
theorem dX0_best_39 : decode cX0_best 39 = .ok (.getfield 29, 3) := by decide +kernel
theorem dX0_best_42 : decode cX0_best 42 = .ok (.ifCond .ne 11, 3) := by decide +kernel
theorem dX0_best_45 : decode cX0_best 45 = .ok (.aload_n 0, 1) := by decide +kernel
theorem dX0_best_46 : decode cX0_best 46 = .ok (.iload_n 1, 1) := by decide +kernel
theorem dX0_best_47 : decode cX0_best 47 = .ok (.invokevirtual 120, 3) := by decide +kernel
theorem dX0_best_50 : decode cX0_best 50 = .ok (.goto 8, 3) := by decide +kernel
theorem dX0_best_53 : decode cX0_best 53 = .ok (.aload_n 0, 1) := by decide +kernel
theorem dX0_best_54 : decode cX0_best 54 = .ok (.iload_n 1, 1) := by decide +kernel
theorem dX0_best_55 : decode cX0_best 55 = .ok (.invokevirtual 123, 3) := by decide +kernel
theorem dX0_best_58 : decode cX0_best 58 = .ok (.ireturn, 1) := by decide +kernel
set_option maxRecDepth 20000 in
theorem ggX0_keep_J6_bitCount_0f7a4 : GoodIn wsX0_keep wsJ6_bitCount_0f7a4 := goodIn_r _ [9, 10, 11, 12] (by decide +kernel) (by decide +kernel)
set_option maxRecDepth 20000 in
theorem gX0_keep_J6_bitCount_0f7a4 : GoodIn wsX0_keep (va_wsS RX0 19 yJ6_bitCount_0f7a4 wsJ6_bitCount_0f7a4) := goodIn_app (goodIn_of _ (by decide +kernel)) ggX0_keep_J6_bitCount_0f7a4
theorem dX0_keep_0 : decode cX0_keep 0 = .ok (.aload_n 0, 1) := by decide +kernel
theorem dX0_keep_1 : decode cX0_keep 1 = .ok (.iconst 1, 1) := by decide +kernel
theorem dX0_keep_2 : decode cX0_keep 2 = .ok (.putfield 126, 3) := by decide +kernel
theorem dX0_keep_5 : decode cX0_keep 5 = .ok (.aload_n 0, 1) := by decide +kernel
theorem dX0_keep_6 : decode cX0_keep 6 = .ok (.aload_n 0, 1) := by decide +kernel
theorem dX0_keep_7 : decode cX0_keep 7 = .ok (.getfield 16, 3) := by decide +kernel
theorem dX0_keep_10 : decode cX0_keep 10 = .ok (.putfield 129, 3) := by decide +kernel
theorem dX0_keep_13 : decode cX0_keep 13 = .ok (.aload_n 0, 1) := by decide +kernel
theorem dX0_keep_14 : decode cX0_keep 14 = .ok (.aload_n 0, 1) := by decide +kernel
theorem dX0_keep_15 : decode cX0_keep 15 = .ok (.getfield 38, 3) := by decide +kernel
theorem dX0_keep_18 : decode cX0_keep 18 = .ok (.putfield 132, 3) := by decide +kernel
theorem dX0_keep_21 : decode cX0_keep 21 = .ok (.aload_n 0, 1) := by decide +kernel
theorem dX0_keep_22 : decode cX0_keep 22 = .ok (.getfield 16, 3) := by decide +kernel
theorem dX0_keep_25 : decode cX0_keep 25 = .ok (.invokestatic 19, 3) := by decide +kernel
theorem dX0_keep_28 : decode cX0_keep 28 = .ok (.ireturn, 1) := by decide +kernel
set_option maxRecDepth 20000 in
theorem ggX0_isAlike_X0_waysOfMarks : GoodIn wsX0_isAlike wsX0_waysOfMarks := goodIn_r _ [10, 11, 12, 13, 14, 9, 15, 16, 17, 18, 19, 20, 21, 22, 23, 24, 25, 26, 27, 28, 29, 30, 31, 32, 33, 34, 35, 36, 37, 38, 39, 40] (by decide +kernel) (by decide +kernel)
set_option maxRecDepth 20000 in
theorem gX0_isAlike_X0_waysOfMarks : GoodIn wsX0_isAlike (wsV RX0 137 RX0 yX0_waysOfMarks wsX0_waysOfMarks) := goodIn_app (goodIn_of _ (by decide +kernel)) ggX0_isAlike_X0_waysOfMarks
theorem dX0_isAlike_0 : decode cX0_isAlike 0 = .ok (.aload_n 0, 1) := by decide +kernel
theorem dX0_isAlike_1 : decode cX0_isAlike 1 = .ok (.getfield 126, 3) := by decide +kernel
theorem dX0_isAlike_4 : decode cX0_isAlike 4 = .ok (.ifCond .ne 13, 3) := by decide +kernel
theorem dX0_isAlike_7 : decode cX0_isAlike 7 = .ok (.new 53, 3) := by decide +kernel
theorem dX0_isAlike_10 : decode cX0_isAlike 10 = .ok (.dup, 1) := by decide +kernel
theorem dX0_isAlike_11 : decode cX0_isAlike 11 = .ok (.ldc 135, 2) := by decide +kernel
theorem dX0_isAlike_13 : decode cX0_isAlike 13 = .ok (.invokespecial 57, 3) := by decide +kernel
theorem dX0_isAlike_16 : decode cX0_isAlike 16 = .ok (.athrow, 1) := by decide +kernel
theorem dX0_isAlike_17 : decode cX0_isAlike 17 = .ok (.iconst 0, 1) := by decide +kernel
theorem dX0_isAlike_18 : decode cX0_isAlike 18 = .ok (.istore_n 1, 1) := by decide +kernel
theorem dX0_isAlike_19 : decode cX0_isAlike 19 = .ok (.iload_n 1, 1) := by decide +kernel
theorem dX0_isAlike_20 : decode cX0_isAlike 20 = .ok (.bipush 8, 2) := by decide +kernel
theorem dX0_isAlike_22 : decode cX0_isAlike 22 = .ok (.if_icmp .ge 27, 3) := by decide +kernel
theorem dX0_isAlike_25 : decode cX0_isAlike 25 = .ok (.aload_n 0, 1) := by decide +kernel
theorem dX0_isAlike_26 : decode cX0_isAlike 26 = .ok (.iload_n 1, 1) := by decide +kernel
theorem dX0_isAlike_27 : decode cX0_isAlike 27 = .ok (.aload_n 0, 1) := by decide +kernel
theorem dX0_isAlike_28 : decode cX0_isAlike 28 = .ok (.getfield 129, 3) := by decide +kernel
theorem dX0_isAlike_31 : decode cX0_isAlike 31 = .ok (.aload_n 0, 1) := by decide +kernel
theorem dX0_isAlike_32 : decode cX0_isAlike 32 = .ok (.getfield 132, 3) := by decide +kernel
theorem dX0_isAlike_35 : decode cX0_isAlike 35 = .ok (.invokevirtual 137, 3) := by decide +kernel
theorem dX0_isAlike_38 : decode cX0_isAlike 38 = .ok (.ifCond .le 5, 3) := by decide +kernel
theorem dX0_isAlike_41 : decode cX0_isAlike 41 = .ok (.iconst 1, 1) := by decide +kernel
theorem dX0_isAlike_42 : decode cX0_isAlike 42 = .ok (.ireturn, 1) := by decide +kernel
theorem dX0_isAlike_43 : decode cX0_isAlike 43 = .ok (.iinc 1 1, 3) := by decide +kernel
theorem dX0_isAlike_46 : decode cX0_isAlike 46 = .ok (.goto (-27), 3) := by decide +kernel
theorem dX0_isAlike_49 : decode cX0_isAlike 49 = .ok (.iconst 0, 1) := by decide +kernel
theorem dX0_isAlike_50 : decode cX0_isAlike 50 = .ok (.ireturn, 1) := by decide +kernel
set_option maxRecDepth 20000 in
theorem ggX0_symmetries_X0_waysOfMarks : GoodIn wsX0_symmetries wsX0_waysOfMarks := goodIn_r _ [7, 1, 2, 8, 9, 6, 10, 11, 12, 13, 14, 15, 16, 17, 18, 19, 20, 21, 22, 23, 24, 25, 26, 27, 28, 29, 30, 31, 32, 33, 34, 35] (by decide +kernel) (by decide +kernel)
set_option maxRecDepth 20000 in
theorem gX0_symmetries_X0_waysOfMarks : GoodIn wsX0_symmetries (wsV RX0 137 RX0 yX0_waysOfMarks wsX0_waysOfMarks) := goodIn_app (goodIn_of _ (by decide +kernel)) ggX0_symmetries_X0_waysOfMarks
theorem dX0_symmetries_0 : decode cX0_symmetries 0 = .ok (.iconst 0, 1) := by decide +kernel
theorem dX0_symmetries_1 : decode cX0_symmetries 1 = .ok (.istore_n 1, 1) := by decide +kernel
theorem dX0_symmetries_2 : decode cX0_symmetries 2 = .ok (.iconst 0, 1) := by decide +kernel
theorem dX0_symmetries_3 : decode cX0_symmetries 3 = .ok (.istore_n 2, 1) := by decide +kernel
theorem dX0_symmetries_4 : decode cX0_symmetries 4 = .ok (.iload_n 2, 1) := by decide +kernel
theorem dX0_symmetries_5 : decode cX0_symmetries 5 = .ok (.bipush 8, 2) := by decide +kernel
theorem dX0_symmetries_7 : decode cX0_symmetries 7 = .ok (.if_icmp .ge 25, 3) := by decide +kernel
theorem dX0_symmetries_10 : decode cX0_symmetries 10 = .ok (.iload_n 1, 1) := by decide +kernel
theorem dX0_symmetries_11 : decode cX0_symmetries 11 = .ok (.aload_n 0, 1) := by decide +kernel
theorem dX0_symmetries_12 : decode cX0_symmetries 12 = .ok (.iload_n 2, 1) := by decide +kernel
theorem dX0_symmetries_13 : decode cX0_symmetries 13 = .ok (.aload_n 0, 1) := by decide +kernel
theorem dX0_symmetries_14 : decode cX0_symmetries 14 = .ok (.getfield 16, 3) := by decide +kernel
theorem dX0_symmetries_17 : decode cX0_symmetries 17 = .ok (.aload_n 0, 1) := by decide +kernel
theorem dX0_symmetries_18 : decode cX0_symmetries 18 = .ok (.getfield 38, 3) := by decide +kernel
theorem dX0_symmetries_21 : decode cX0_symmetries 21 = .ok (.invokevirtual 137, 3) := by decide +kernel
theorem dX0_symmetries_24 : decode cX0_symmetries 24 = .ok (.iadd, 1) := by decide +kernel
theorem dX0_symmetries_25 : decode cX0_symmetries 25 = .ok (.istore_n 1, 1) := by decide +kernel
theorem dX0_symmetries_26 : decode cX0_symmetries 26 = .ok (.iinc 2 1, 3) := by decide +kernel
theorem dX0_symmetries_29 : decode cX0_symmetries 29 = .ok (.goto (-25), 3) := by decide +kernel
theorem dX0_symmetries_32 : decode cX0_symmetries 32 = .ok (.iload_n 1, 1) := by decide +kernel
theorem dX0_symmetries_33 : decode cX0_symmetries 33 = .ok (.ireturn, 1) := by decide +kernel
theorem dX0_isNumber_0 : decode cX0_isNumber 0 = .ok (.iload_n 0, 1) := by decide +kernel
theorem dX0_isNumber_1 : decode cX0_isNumber 1 = .ok (.ifCond .lt 13, 3) := by decide +kernel
theorem dX0_isNumber_4 : decode cX0_isNumber 4 = .ok (.iload_n 0, 1) := by decide +kernel
theorem dX0_isNumber_5 : decode cX0_isNumber 5 = .ok (.bipush 16, 2) := by decide +kernel
theorem dX0_isNumber_7 : decode cX0_isNumber 7 = .ok (.if_icmp .ge 7, 3) := by decide +kernel
theorem dX0_isNumber_10 : decode cX0_isNumber 10 = .ok (.iconst 1, 1) := by decide +kernel
theorem dX0_isNumber_11 : decode cX0_isNumber 11 = .ok (.goto 4, 3) := by decide +kernel
theorem dX0_isNumber_14 : decode cX0_isNumber 14 = .ok (.iconst 0, 1) := by decide +kernel
theorem dX0_isNumber_15 : decode cX0_isNumber 15 = .ok (.ireturn, 1) := by decide +kernel
theorem dX0_has_0 : decode cX0_has 0 = .ok (.iload_n 0, 1) := by decide +kernel
theorem dX0_has_1 : decode cX0_has 1 = .ok (.iconst 1, 1) := by decide +kernel
theorem dX0_has_2 : decode cX0_has 2 = .ok (.iload_n 1, 1) := by decide +kernel
theorem dX0_has_3 : decode cX0_has 3 = .ok (.ishl, 1) := by decide +kernel
theorem dX0_has_4 : decode cX0_has 4 = .ok (.iand, 1) := by decide +kernel
theorem dX0_has_5 : decode cX0_has 5 = .ok (.ifCond .eq 7, 3) := by decide +kernel
theorem dX0_has_8 : decode cX0_has 8 = .ok (.iconst 1, 1) := by decide +kernel
theorem dX0_has_9 : decode cX0_has 9 = .ok (.goto 4, 3) := by decide +kernel
theorem dX0_has_12 : decode cX0_has 12 = .ok (.iconst 0, 1) := by decide +kernel
theorem dX0_has_13 : decode cX0_has 13 = .ok (.ireturn, 1) := by decide +kernel
theorem dX0_withOne_0 : decode cX0_withOne 0 = .ok (.lload_n 0, 1) := by decide +kernel
theorem dX0_withOne_1 : decode cX0_withOne 1 = .ok (.bipush 16, 2) := by decide +kernel
theorem dX0_withOne_3 : decode cX0_withOne 3 = .ok (.iload_n 2, 1) := by decide +kernel
theorem dX0_withOne_4 : decode cX0_withOne 4 = .ok (.imul, 1) := by decide +kernel
theorem dX0_withOne_5 : decode cX0_withOne 5 = .ok (.lushr, 1) := by decide +kernel
theorem dX0_withOne_6 : decode cX0_withOne 6 = .ok (.l2i, 1) := by decide +kernel
theorem dX0_withOne_7 : decode cX0_withOne 7 = .ok (.ldc 78, 2) := by decide +kernel
theorem dX0_withOne_9 : decode cX0_withOne 9 = .ok (.iand, 1) := by decide +kernel
theorem dX0_withOne_10 : decode cX0_withOne 10 = .ok (.ireturn, 1) := by decide +kernel
theorem dX0_ownDigits_0 : decode cX0_ownDigits 0 = .ok (.iload_n 0, 1) := by decide +kernel
theorem dX0_ownDigits_1 : decode cX0_ownDigits 1 = .ok (.iload_n 0, 1) := by decide +kernel
theorem dX0_ownDigits_2 : decode cX0_ownDigits 2 = .ok (.iconst (-1), 1) := by decide +kernel
theorem dX0_ownDigits_3 : decode cX0_ownDigits 3 = .ok (.ixor, 1) := by decide +kernel
theorem dX0_ownDigits_4 : decode cX0_ownDigits 4 = .ok (.bipush 15, 2) := by decide +kernel
theorem dX0_ownDigits_6 : decode cX0_ownDigits 6 = .ok (.iand, 1) := by decide +kernel
theorem dX0_ownDigits_7 : decode cX0_ownDigits 7 = .ok (.iconst 4, 1) := by decide +kernel
theorem dX0_ownDigits_8 : decode cX0_ownDigits 8 = .ok (.ishl, 1) := by decide +kernel
theorem dX0_ownDigits_9 : decode cX0_ownDigits 9 = .ok (.ior, 1) := by decide +kernel
theorem dX0_ownDigits_10 : decode cX0_ownDigits 10 = .ok (.ireturn, 1) := by decide +kernel
theorem dX0_atFirstSquare_0 : decode cX0_atFirstSquare 0 = .ok (.iload_n 0, 1) := by decide +kernel
theorem dX0_atFirstSquare_1 : decode cX0_atFirstSquare 1 = .ok (.i2l, 1) := by decide +kernel
theorem dX0_atFirstSquare_2 : decode cX0_atFirstSquare 2 = .ok (.lconst 1, 1) := by decide +kernel
theorem dX0_atFirstSquare_3 : decode cX0_atFirstSquare 3 = .ok (.land, 1) := by decide +kernel
theorem dX0_atFirstSquare_4 : decode cX0_atFirstSquare 4 = .ok (.iload_n 0, 1) := by decide +kernel
theorem dX0_atFirstSquare_5 : decode cX0_atFirstSquare 5 = .ok (.i2l, 1) := by decide +kernel
theorem dX0_atFirstSquare_6 : decode cX0_atFirstSquare 6 = .ok (.ldc2_w 141, 3) := by decide +kernel
theorem dX0_atFirstSquare_9 : decode cX0_atFirstSquare 9 = .ok (.land, 1) := by decide +kernel
theorem dX0_atFirstSquare_10 : decode cX0_atFirstSquare 10 = .ok (.bipush 15, 2) := by decide +kernel
theorem dX0_atFirstSquare_12 : decode cX0_atFirstSquare 12 = .ok (.lshl, 1) := by decide +kernel
theorem dX0_atFirstSquare_13 : decode cX0_atFirstSquare 13 = .ok (.lor, 1) := by decide +kernel
theorem dX0_atFirstSquare_14 : decode cX0_atFirstSquare 14 = .ok (.iload_n 0, 1) := by decide +kernel
theorem dX0_atFirstSquare_15 : decode cX0_atFirstSquare 15 = .ok (.i2l, 1) := by decide +kernel
theorem dX0_atFirstSquare_16 : decode cX0_atFirstSquare 16 = .ok (.ldc2_w 143, 3) := by decide +kernel
theorem dX0_atFirstSquare_19 : decode cX0_atFirstSquare 19 = .ok (.land, 1) := by decide +kernel
theorem dX0_atFirstSquare_20 : decode cX0_atFirstSquare 20 = .ok (.bipush 30, 2) := by decide +kernel
theorem dX0_atFirstSquare_22 : decode cX0_atFirstSquare 22 = .ok (.lshl, 1) := by decide +kernel
theorem dX0_atFirstSquare_23 : decode cX0_atFirstSquare 23 = .ok (.lor, 1) := by decide +kernel
theorem dX0_atFirstSquare_24 : decode cX0_atFirstSquare 24 = .ok (.iload_n 0, 1) := by decide +kernel
theorem dX0_atFirstSquare_25 : decode cX0_atFirstSquare 25 = .ok (.i2l, 1) := by decide +kernel
theorem dX0_atFirstSquare_26 : decode cX0_atFirstSquare 26 = .ok (.ldc2_w 145, 3) := by decide +kernel
theorem dX0_atFirstSquare_29 : decode cX0_atFirstSquare 29 = .ok (.land, 1) := by decide +kernel
theorem dX0_atFirstSquare_30 : decode cX0_atFirstSquare 30 = .ok (.bipush 45, 2) := by decide +kernel
theorem dX0_atFirstSquare_32 : decode cX0_atFirstSquare 32 = .ok (.lshl, 1) := by decide +kernel
theorem dX0_atFirstSquare_33 : decode cX0_atFirstSquare 33 = .ok (.lor, 1) := by decide +kernel
theorem dX0_atFirstSquare_34 : decode cX0_atFirstSquare 34 = .ok (.lreturn, 1) := by decide +kernel
set_option maxRecDepth 20000 in
theorem ggX0_put_X0_atFirstSquare : GoodIn wsX0_put wsX0_atFirstSquare := goodIn_r _ [7, 8, 9, 10] (by decide +kernel) (by decide +kernel)
set_option maxRecDepth 20000 in
theorem gX0_put_X0_atFirstSquare : GoodIn wsX0_put (va_wsS RX0 147 yX0_atFirstSquare wsX0_atFirstSquare) := goodIn_app (goodIn_of _ (by decide +kernel)) ggX0_put_X0_atFirstSquare
theorem dX0_put_0 : decode cX0_put 0 = .ok (.aload_n 0, 1) := by decide +kernel
theorem dX0_put_1 : decode cX0_put 1 = .ok (.dup, 1) := by decide +kernel
theorem dX0_put_2 : decode cX0_put 2 = .ok (.getfield 16, 3) := by decide +kernel
theorem dX0_put_5 : decode cX0_put 5 = .ok (.iconst 1, 1) := by decide +kernel
theorem dX0_put_6 : decode cX0_put 6 = .ok (.iload_n 2, 1) := by decide +kernel
theorem dX0_put_7 : decode cX0_put 7 = .ok (.ishl, 1) := by decide +kernel
theorem dX0_put_8 : decode cX0_put 8 = .ok (.ior, 1) := by decide +kernel
theorem dX0_put_9 : decode cX0_put 9 = .ok (.putfield 16, 3) := by decide +kernel
theorem dX0_put_12 : decode cX0_put 12 = .ok (.aload_n 0, 1) := by decide +kernel
theorem dX0_put_13 : decode cX0_put 13 = .ok (.dup, 1) := by decide +kernel
theorem dX0_put_14 : decode cX0_put 14 = .ok (.getfield 35, 3) := by decide +kernel
theorem dX0_put_17 : decode cX0_put 17 = .ok (.iconst 1, 1) := by decide +kernel
theorem dX0_put_18 : decode cX0_put 18 = .ok (.iload_n 1, 1) := by decide +kernel
theorem dX0_put_19 : decode cX0_put 19 = .ok (.ishl, 1) := by decide +kernel
theorem dX0_put_20 : decode cX0_put 20 = .ok (.ior, 1) := by decide +kernel
theorem dX0_put_21 : decode cX0_put 21 = .ok (.putfield 35, 3) := by decide +kernel
theorem dX0_put_24 : decode cX0_put 24 = .ok (.aload_n 0, 1) := by decide +kernel
theorem dX0_put_25 : decode cX0_put 25 = .ok (.dup, 1) := by decide +kernel
theorem dX0_put_26 : decode cX0_put 26 = .ok (.getfield 38, 3) := by decide +kernel
theorem dX0_put_29 : decode cX0_put 29 = .ok (.iload_n 1, 1) := by decide +kernel
theorem dX0_put_30 : decode cX0_put 30 = .ok (.invokestatic 147, 3) := by decide +kernel
theorem dX0_put_33 : decode cX0_put 33 = .ok (.iload_n 2, 1) := by decide +kernel
theorem dX0_put_34 : decode cX0_put 34 = .ok (.lshl, 1) := by decide +kernel
theorem dX0_put_35 : decode cX0_put 35 = .ok (.lor, 1) := by decide +kernel
theorem dX0_put_36 : decode cX0_put 36 = .ok (.putfield 38, 3) := by decide +kernel
theorem dX0_put_39 : decode cX0_put 39 = .ok (.return_, 1) := by decide +kernel
theorem dX0_lift_0 : decode cX0_lift 0 = .ok (.aload_n 0, 1) := by decide +kernel
theorem dX0_lift_1 : decode cX0_lift 1 = .ok (.dup, 1) := by decide +kernel
theorem dX0_lift_2 : decode cX0_lift 2 = .ok (.getfield 16, 3) := by decide +kernel
theorem dX0_lift_5 : decode cX0_lift 5 = .ok (.iconst 1, 1) := by decide +kernel
theorem dX0_lift_6 : decode cX0_lift 6 = .ok (.iload_n 2, 1) := by decide +kernel
theorem dX0_lift_7 : decode cX0_lift 7 = .ok (.ishl, 1) := by decide +kernel
theorem dX0_lift_8 : decode cX0_lift 8 = .ok (.iconst (-1), 1) := by decide +kernel
theorem dX0_lift_9 : decode cX0_lift 9 = .ok (.ixor, 1) := by decide +kernel
theorem dX0_lift_10 : decode cX0_lift 10 = .ok (.iand, 1) := by decide +kernel
theorem dX0_lift_11 : decode cX0_lift 11 = .ok (.putfield 16, 3) := by decide +kernel
theorem dX0_lift_14 : decode cX0_lift 14 = .ok (.aload_n 0, 1) := by decide +kernel
theorem dX0_lift_15 : decode cX0_lift 15 = .ok (.dup, 1) := by decide +kernel
theorem dX0_lift_16 : decode cX0_lift 16 = .ok (.getfield 35, 3) := by decide +kernel
theorem dX0_lift_19 : decode cX0_lift 19 = .ok (.iconst 1, 1) := by decide +kernel
theorem dX0_lift_20 : decode cX0_lift 20 = .ok (.iload_n 1, 1) := by decide +kernel
theorem dX0_lift_21 : decode cX0_lift 21 = .ok (.ishl, 1) := by decide +kernel
theorem dX0_lift_22 : decode cX0_lift 22 = .ok (.iconst (-1), 1) := by decide +kernel
theorem dX0_lift_23 : decode cX0_lift 23 = .ok (.ixor, 1) := by decide +kernel
theorem dX0_lift_24 : decode cX0_lift 24 = .ok (.iand, 1) := by decide +kernel
theorem dX0_lift_25 : decode cX0_lift 25 = .ok (.putfield 35, 3) := by decide +kernel
theorem dX0_lift_28 : decode cX0_lift 28 = .ok (.aload_n 0, 1) := by decide +kernel
theorem dX0_lift_29 : decode cX0_lift 29 = .ok (.dup, 1) := by decide +kernel
theorem dX0_lift_30 : decode cX0_lift 30 = .ok (.getfield 38, 3) := by decide +kernel
theorem dX0_lift_33 : decode cX0_lift 33 = .ok (.ldc2_w 151, 3) := by decide +kernel
theorem dX0_lift_36 : decode cX0_lift 36 = .ok (.iload_n 2, 1) := by decide +kernel
theorem dX0_lift_37 : decode cX0_lift 37 = .ok (.lshl, 1) := by decide +kernel
theorem dX0_lift_38 : decode cX0_lift 38 = .ok (.ldc2_w 153, 3) := by decide +kernel
theorem dX0_lift_41 : decode cX0_lift 41 = .ok (.lxor, 1) := by decide +kernel
theorem dX0_lift_42 : decode cX0_lift 42 = .ok (.land, 1) := by decide +kernel
theorem dX0_lift_43 : decode cX0_lift 43 = .ok (.putfield 38, 3) := by decide +kernel
theorem dX0_lift_46 : decode cX0_lift 46 = .ok (.return_, 1) := by decide +kernel
set_option maxRecDepth 20000 in
theorem ggX0_inCommon_X0_withOne : GoodIn wsX0_inCommon wsX0_withOne := goodIn_r _ [6, 7] (by decide +kernel) (by decide +kernel)
set_option maxRecDepth 20000 in
theorem gX0_inCommon_X0_withOne : GoodIn wsX0_inCommon (va_wsS RX0 79 yX0_withOne wsX0_withOne) := goodIn_app (goodIn_of _ (by decide +kernel)) ggX0_inCommon_X0_withOne
theorem dX0_inCommon_0 : decode cX0_inCommon 0 = .ok (.iload_n 1, 1) := by decide +kernel
theorem dX0_inCommon_1 : decode cX0_inCommon 1 = .ok (.aload_n 0, 1) := by decide +kernel
theorem dX0_inCommon_2 : decode cX0_inCommon 2 = .ok (.getfield 16, 3) := by decide +kernel
theorem dX0_inCommon_5 : decode cX0_inCommon 5 = .ok (.iand, 1) := by decide +kernel
theorem dX0_inCommon_6 : decode cX0_inCommon 6 = .ok (.istore_n 2, 1) := by decide +kernel
theorem dX0_inCommon_7 : decode cX0_inCommon 7 = .ok (.iconst 0, 1) := by decide +kernel
theorem dX0_inCommon_8 : decode cX0_inCommon 8 = .ok (.istore_n 3, 1) := by decide +kernel
theorem dX0_inCommon_9 : decode cX0_inCommon 9 = .ok (.iconst 0, 1) := by decide +kernel
theorem dX0_inCommon_10 : decode cX0_inCommon 10 = .ok (.istore 4, 2) := by decide +kernel
theorem dX0_inCommon_12 : decode cX0_inCommon 12 = .ok (.iload 4, 2) := by decide +kernel
theorem dX0_inCommon_14 : decode cX0_inCommon 14 = .ok (.iconst 4, 1) := by decide +kernel
theorem dX0_inCommon_15 : decode cX0_inCommon 15 = .ok (.if_icmp .ge 49, 3) := by decide +kernel
theorem dX0_inCommon_18 : decode cX0_inCommon 18 = .ok (.aload_n 0, 1) := by decide +kernel
theorem dX0_inCommon_19 : decode cX0_inCommon 19 = .ok (.getfield 38, 3) := by decide +kernel
theorem dX0_inCommon_22 : decode cX0_inCommon 22 = .ok (.iload 4, 2) := by decide +kernel
theorem dX0_inCommon_24 : decode cX0_inCommon 24 = .ok (.invokestatic 79, 3) := by decide +kernel
theorem dX0_inCommon_27 : decode cX0_inCommon 27 = .ok (.iload_n 2, 1) := by decide +kernel
theorem dX0_inCommon_28 : decode cX0_inCommon 28 = .ok (.iand, 1) := by decide +kernel
theorem dX0_inCommon_29 : decode cX0_inCommon 29 = .ok (.istore 5, 2) := by decide +kernel
theorem dX0_inCommon_31 : decode cX0_inCommon 31 = .ok (.iload 5, 2) := by decide +kernel
theorem dX0_inCommon_33 : decode cX0_inCommon 33 = .ok (.iload_n 2, 1) := by decide +kernel
theorem dX0_inCommon_34 : decode cX0_inCommon 34 = .ok (.if_icmp .ne 10, 3) := by decide +kernel
theorem dX0_inCommon_37 : decode cX0_inCommon 37 = .ok (.iload_n 3, 1) := by decide +kernel
theorem dX0_inCommon_38 : decode cX0_inCommon 38 = .ok (.iconst 1, 1) := by decide +kernel
theorem dX0_inCommon_39 : decode cX0_inCommon 39 = .ok (.iload 4, 2) := by decide +kernel
theorem dX0_inCommon_41 : decode cX0_inCommon 41 = .ok (.ishl, 1) := by decide +kernel
theorem dX0_inCommon_42 : decode cX0_inCommon 42 = .ok (.ior, 1) := by decide +kernel
theorem dX0_inCommon_43 : decode cX0_inCommon 43 = .ok (.istore_n 3, 1) := by decide +kernel
theorem dX0_inCommon_44 : decode cX0_inCommon 44 = .ok (.iload 5, 2) := by decide +kernel
theorem dX0_inCommon_46 : decode cX0_inCommon 46 = .ok (.ifCond .ne 12, 3) := by decide +kernel
theorem dX0_inCommon_49 : decode cX0_inCommon 49 = .ok (.iload_n 3, 1) := by decide +kernel
theorem dX0_inCommon_50 : decode cX0_inCommon 50 = .ok (.iconst 1, 1) := by decide +kernel
theorem dX0_inCommon_51 : decode cX0_inCommon 51 = .ok (.iload 4, 2) := by decide +kernel
theorem dX0_inCommon_53 : decode cX0_inCommon 53 = .ok (.iconst 4, 1) := by decide +kernel
theorem dX0_inCommon_54 : decode cX0_inCommon 54 = .ok (.iadd, 1) := by decide +kernel
theorem dX0_inCommon_55 : decode cX0_inCommon 55 = .ok (.ishl, 1) := by decide +kernel
theorem dX0_inCommon_56 : decode cX0_inCommon 56 = .ok (.ior, 1) := by decide +kernel
theorem dX0_inCommon_57 : decode cX0_inCommon 57 = .ok (.istore_n 3, 1) := by decide +kernel
theorem dX0_inCommon_58 : decode cX0_inCommon 58 = .ok (.iinc 4 1, 3) := by decide +kernel
theorem dX0_inCommon_61 : decode cX0_inCommon 61 = .ok (.goto (-49), 3) := by decide +kernel
theorem dX0_inCommon_64 : decode cX0_inCommon 64 = .ok (.iload_n 3, 1) := by decide +kernel
theorem dX0_inCommon_65 : decode cX0_inCommon 65 = .ok (.ireturn, 1) := by decide +kernel
set_option maxRecDepth 20000 in
theorem ggX0_wonLines_X0_lines : GoodIn wsX0_wonLines wsX0_lines := goodIn_r _ [7, 8, 1, 18, 19, 20, 21, 22, 23, 24, 25, 26, 27, 28] (by decide +kernel) (by decide +kernel)
set_option maxRecDepth 20000 in
theorem gX0_wonLines_X0_lines : GoodIn wsX0_wonLines (wsV RX0 87 RX0 yX0_lines wsX0_lines) := goodIn_app (goodIn_of _ (by decide +kernel)) ggX0_wonLines_X0_lines
set_option maxRecDepth 20000 in
theorem ggX0_wonLines_X0_inCommon : GoodIn wsX0_wonLines wsX0_inCommon := goodIn_r _ [12, 2, 13, 14, 15, 6, 16, 17, 18, 19, 20, 21, 22, 23, 24, 25, 26, 27, 28] (by decide +kernel) (by decide +kernel)
set_option maxRecDepth 20000 in
theorem gX0_wonLines_X0_inCommon : GoodIn wsX0_wonLines (wsV RX0 92 RX0 yX0_inCommon wsX0_inCommon) := goodIn_app (goodIn_of _ (by decide +kernel)) ggX0_wonLines_X0_inCommon
theorem dX0_wonLines_0 : decode cX0_wonLines 0 = .ok (.iconst 0, 1) := by decide +kernel
theorem dX0_wonLines_1 : decode cX0_wonLines 1 = .ok (.istore_n 1, 1) := by decide +kernel
theorem dX0_wonLines_2 : decode cX0_wonLines 2 = .ok (.iconst 0, 1) := by decide +kernel
theorem dX0_wonLines_3 : decode cX0_wonLines 3 = .ok (.istore_n 2, 1) := by decide +kernel
theorem dX0_wonLines_4 : decode cX0_wonLines 4 = .ok (.iload_n 2, 1) := by decide +kernel
theorem dX0_wonLines_5 : decode cX0_wonLines 5 = .ok (.aload_n 0, 1) := by decide +kernel
theorem dX0_wonLines_6 : decode cX0_wonLines 6 = .ok (.invokevirtual 87, 3) := by decide +kernel
theorem dX0_wonLines_9 : decode cX0_wonLines 9 = .ok (.if_icmp .ge 37, 3) := by decide +kernel
theorem dX0_wonLines_12 : decode cX0_wonLines 12 = .ok (.getstatic 83, 3) := by decide +kernel
theorem dX0_wonLines_15 : decode cX0_wonLines 15 = .ok (.iload_n 2, 1) := by decide +kernel
theorem dX0_wonLines_16 : decode cX0_wonLines 16 = .ok (.iaload, 1) := by decide +kernel
theorem dX0_wonLines_17 : decode cX0_wonLines 17 = .ok (.istore_n 3, 1) := by decide +kernel
theorem dX0_wonLines_18 : decode cX0_wonLines 18 = .ok (.iload_n 3, 1) := by decide +kernel
theorem dX0_wonLines_19 : decode cX0_wonLines 19 = .ok (.aload_n 0, 1) := by decide +kernel
theorem dX0_wonLines_20 : decode cX0_wonLines 20 = .ok (.getfield 16, 3) := by decide +kernel
theorem dX0_wonLines_23 : decode cX0_wonLines 23 = .ok (.iconst (-1), 1) := by decide +kernel
theorem dX0_wonLines_24 : decode cX0_wonLines 24 = .ok (.ixor, 1) := by decide +kernel
theorem dX0_wonLines_25 : decode cX0_wonLines 25 = .ok (.iand, 1) := by decide +kernel
theorem dX0_wonLines_26 : decode cX0_wonLines 26 = .ok (.ifCond .ne 14, 3) := by decide +kernel
theorem dX0_wonLines_29 : decode cX0_wonLines 29 = .ok (.aload_n 0, 1) := by decide +kernel
theorem dX0_wonLines_30 : decode cX0_wonLines 30 = .ok (.iload_n 3, 1) := by decide +kernel
theorem dX0_wonLines_31 : decode cX0_wonLines 31 = .ok (.invokevirtual 92, 3) := by decide +kernel
theorem dX0_wonLines_34 : decode cX0_wonLines 34 = .ok (.ifCond .eq 6, 3) := by decide +kernel
theorem dX0_wonLines_37 : decode cX0_wonLines 37 = .ok (.iinc 1 1, 3) := by decide +kernel
theorem dX0_wonLines_40 : decode cX0_wonLines 40 = .ok (.iinc 2 1, 3) := by decide +kernel
theorem dX0_wonLines_43 : decode cX0_wonLines 43 = .ok (.goto (-39), 3) := by decide +kernel
theorem dX0_wonLines_46 : decode cX0_wonLines 46 = .ok (.iload_n 1, 1) := by decide +kernel
theorem dX0_wonLines_47 : decode cX0_wonLines 47 = .ok (.ireturn, 1) := by decide +kernel
theorem dX0_lacksOne_0 : decode cX0_lacksOne 0 = .ok (.iload_n 1, 1) := by decide +kernel
theorem dX0_lacksOne_1 : decode cX0_lacksOne 1 = .ok (.aload_n 0, 1) := by decide +kernel
theorem dX0_lacksOne_2 : decode cX0_lacksOne 2 = .ok (.getfield 16, 3) := by decide +kernel
theorem dX0_lacksOne_5 : decode cX0_lacksOne 5 = .ok (.iconst (-1), 1) := by decide +kernel
theorem dX0_lacksOne_6 : decode cX0_lacksOne 6 = .ok (.ixor, 1) := by decide +kernel
theorem dX0_lacksOne_7 : decode cX0_lacksOne 7 = .ok (.iand, 1) := by decide +kernel
theorem dX0_lacksOne_8 : decode cX0_lacksOne 8 = .ok (.istore_n 2, 1) := by decide +kernel
theorem dX0_lacksOne_9 : decode cX0_lacksOne 9 = .ok (.iload_n 2, 1) := by decide +kernel
theorem dX0_lacksOne_10 : decode cX0_lacksOne 10 = .ok (.ifCond .eq 15, 3) := by decide +kernel
theorem dX0_lacksOne_13 : decode cX0_lacksOne 13 = .ok (.iload_n 2, 1) := by decide +kernel
theorem dX0_lacksOne_14 : decode cX0_lacksOne 14 = .ok (.iload_n 2, 1) := by decide +kernel
theorem dX0_lacksOne_15 : decode cX0_lacksOne 15 = .ok (.iconst 1, 1) := by decide +kernel
theorem dX0_lacksOne_16 : decode cX0_lacksOne 16 = .ok (.isub, 1) := by decide +kernel
theorem dX0_lacksOne_17 : decode cX0_lacksOne 17 = .ok (.iand, 1) := by decide +kernel
theorem dX0_lacksOne_18 : decode cX0_lacksOne 18 = .ok (.ifCond .ne 7, 3) := by decide +kernel
theorem dX0_lacksOne_21 : decode cX0_lacksOne 21 = .ok (.iconst 1, 1) := by decide +kernel
theorem dX0_lacksOne_22 : decode cX0_lacksOne 22 = .ok (.goto 4, 3) := by decide +kernel
theorem dX0_lacksOne_25 : decode cX0_lacksOne 25 = .ok (.iconst 0, 1) := by decide +kernel
theorem dX0_lacksOne_26 : decode cX0_lacksOne 26 = .ok (.ireturn, 1) := by decide +kernel
set_option maxRecDepth 20000 in
theorem ggX0_winningSquares_X0_ownDigits : GoodIn wsX0_winningSquares wsX0_ownDigits := goodIn_r _ [6] (by decide +kernel) (by decide +kernel)
set_option maxRecDepth 20000 in
theorem gX0_winningSquares_X0_ownDigits : GoodIn wsX0_winningSquares (va_wsS RX0 155 yX0_ownDigits wsX0_ownDigits) := goodIn_app (goodIn_of _ (by decide +kernel)) ggX0_winningSquares_X0_ownDigits
set_option maxRecDepth 20000 in
theorem ggX0_winningSquares_X0_lines : GoodIn wsX0_winningSquares wsX0_lines := goodIn_r _ [10, 11, 1, 25, 26, 27, 28, 29, 30, 31, 32, 33, 34, 35] (by decide +kernel) (by decide +kernel)
set_option maxRecDepth 20000 in
theorem gX0_winningSquares_X0_lines : GoodIn wsX0_winningSquares (wsV RX0 87 RX0 yX0_lines wsX0_lines) := goodIn_app (goodIn_of _ (by decide +kernel)) ggX0_winningSquares_X0_lines
set_option maxRecDepth 20000 in
theorem ggX0_winningSquares_X0_lacksOne : GoodIn wsX0_winningSquares wsX0_lacksOne := goodIn_r _ [15, 2, 25, 26, 27, 28, 29, 30, 31, 32, 33, 34, 35] (by decide +kernel) (by decide +kernel)
set_option maxRecDepth 20000 in
theorem gX0_winningSquares_X0_lacksOne : GoodIn wsX0_winningSquares (wsV RX0 158 RX0 yX0_lacksOne wsX0_lacksOne) := goodIn_app (goodIn_of _ (by decide +kernel)) ggX0_winningSquares_X0_lacksOne
set_option maxRecDepth 20000 in
theorem ggX0_winningSquares_X0_inCommon : GoodIn wsX0_winningSquares wsX0_inCommon := goodIn_r _ [19, 2, 20, 21, 22, 5, 23, 24, 25, 26, 27, 28, 29, 30, 31, 32, 33, 34, 35] (by decide +kernel) (by decide +kernel)
set_option maxRecDepth 20000 in
theorem gX0_winningSquares_X0_inCommon : GoodIn wsX0_winningSquares (wsV RX0 92 RX0 yX0_inCommon wsX0_inCommon) := goodIn_app (goodIn_of _ (by decide +kernel)) ggX0_winningSquares_X0_inCommon
theorem dX0_winningSquares_0 : decode cX0_winningSquares 0 = .ok (.iload_n 1, 1) := by decide +kernel
theorem dX0_winningSquares_1 : decode cX0_winningSquares 1 = .ok (.invokestatic 155, 3) := by decide +kernel
theorem dX0_winningSquares_4 : decode cX0_winningSquares 4 = .ok (.istore_n 2, 1) := by decide +kernel
theorem dX0_winningSquares_5 : decode cX0_winningSquares 5 = .ok (.iconst 0, 1) := by decide +kernel
theorem dX0_winningSquares_6 : decode cX0_winningSquares 6 = .ok (.istore_n 3, 1) := by decide +kernel
theorem dX0_winningSquares_7 : decode cX0_winningSquares 7 = .ok (.iconst 0, 1) := by decide +kernel
theorem dX0_winningSquares_8 : decode cX0_winningSquares 8 = .ok (.istore 4, 2) := by decide +kernel
theorem dX0_winningSquares_10 : decode cX0_winningSquares 10 = .ok (.iload 4, 2) := by decide +kernel
theorem dX0_winningSquares_12 : decode cX0_winningSquares 12 = .ok (.aload_n 0, 1) := by decide +kernel
theorem dX0_winningSquares_13 : decode cX0_winningSquares 13 = .ok (.invokevirtual 87, 3) := by decide +kernel
theorem dX0_winningSquares_16 : decode cX0_winningSquares 16 = .ok (.if_icmp .ge 49, 3) := by decide +kernel
theorem dX0_winningSquares_19 : decode cX0_winningSquares 19 = .ok (.getstatic 83, 3) := by decide +kernel
theorem dX0_winningSquares_22 : decode cX0_winningSquares 22 = .ok (.iload 4, 2) := by decide +kernel
theorem dX0_winningSquares_24 : decode cX0_winningSquares 24 = .ok (.iaload, 1) := by decide +kernel
theorem dX0_winningSquares_25 : decode cX0_winningSquares 25 = .ok (.istore 5, 2) := by decide +kernel
theorem dX0_winningSquares_27 : decode cX0_winningSquares 27 = .ok (.aload_n 0, 1) := by decide +kernel
theorem dX0_winningSquares_28 : decode cX0_winningSquares 28 = .ok (.iload 5, 2) := by decide +kernel
theorem dX0_winningSquares_30 : decode cX0_winningSquares 30 = .ok (.invokevirtual 158, 3) := by decide +kernel
theorem dX0_winningSquares_33 : decode cX0_winningSquares 33 = .ok (.ifCond .eq 26, 3) := by decide +kernel
theorem dX0_winningSquares_36 : decode cX0_winningSquares 36 = .ok (.aload_n 0, 1) := by decide +kernel
theorem dX0_winningSquares_37 : decode cX0_winningSquares 37 = .ok (.iload 5, 2) := by decide +kernel
theorem dX0_winningSquares_39 : decode cX0_winningSquares 39 = .ok (.invokevirtual 92, 3) := by decide +kernel
theorem dX0_winningSquares_42 : decode cX0_winningSquares 42 = .ok (.iload_n 2, 1) := by decide +kernel
theorem dX0_winningSquares_43 : decode cX0_winningSquares 43 = .ok (.iand, 1) := by decide +kernel
theorem dX0_winningSquares_44 : decode cX0_winningSquares 44 = .ok (.ifCond .eq 15, 3) := by decide +kernel
theorem dX0_winningSquares_47 : decode cX0_winningSquares 47 = .ok (.iload_n 3, 1) := by decide +kernel
theorem dX0_winningSquares_48 : decode cX0_winningSquares 48 = .ok (.iload 5, 2) := by decide +kernel
theorem dX0_winningSquares_50 : decode cX0_winningSquares 50 = .ok (.aload_n 0, 1) := by decide +kernel
theorem dX0_winningSquares_51 : decode cX0_winningSquares 51 = .ok (.getfield 16, 3) := by decide +kernel
theorem dX0_winningSquares_54 : decode cX0_winningSquares 54 = .ok (.iconst (-1), 1) := by decide +kernel
theorem dX0_winningSquares_55 : decode cX0_winningSquares 55 = .ok (.ixor, 1) := by decide +kernel
theorem dX0_winningSquares_56 : decode cX0_winningSquares 56 = .ok (.iand, 1) := by decide +kernel
theorem dX0_winningSquares_57 : decode cX0_winningSquares 57 = .ok (.ior, 1) := by decide +kernel
theorem dX0_winningSquares_58 : decode cX0_winningSquares 58 = .ok (.istore_n 3, 1) := by decide +kernel
theorem dX0_winningSquares_59 : decode cX0_winningSquares 59 = .ok (.iinc 4 1, 3) := by decide +kernel
theorem dX0_winningSquares_62 : decode cX0_winningSquares 62 = .ok (.goto (-52), 3) := by decide +kernel
theorem dX0_winningSquares_65 : decode cX0_winningSquares 65 = .ok (.iload_n 3, 1) := by decide +kernel
theorem dX0_winningSquares_66 : decode cX0_winningSquares 66 = .ok (.ireturn, 1) := by decide +kernel
set_option maxRecDepth 20000 in
theorem ggX0_winningDigits_X0_lines : GoodIn wsX0_winningDigits wsX0_lines := goodIn_r _ [6, 7, 1, 22, 23, 24, 25, 26, 27, 28, 29, 30, 31, 32] (by decide +kernel) (by decide +kernel)
set_option maxRecDepth 20000 in
theorem gX0_winningDigits_X0_lines : GoodIn wsX0_winningDigits (wsV RX0 87 RX0 yX0_lines wsX0_lines) := goodIn_app (goodIn_of _ (by decide +kernel)) ggX0_winningDigits_X0_lines
set_option maxRecDepth 20000 in
theorem ggX0_winningDigits_X0_lacksOne : GoodIn wsX0_winningDigits wsX0_lacksOne := goodIn_r _ [11, 12, 22, 23, 24, 25, 26, 27, 28, 29, 30, 31, 32] (by decide +kernel) (by decide +kernel)
set_option maxRecDepth 20000 in
theorem gX0_winningDigits_X0_lacksOne : GoodIn wsX0_winningDigits (wsV RX0 158 RX0 yX0_lacksOne wsX0_lacksOne) := goodIn_app (goodIn_of _ (by decide +kernel)) ggX0_winningDigits_X0_lacksOne
set_option maxRecDepth 20000 in
theorem ggX0_winningDigits_X0_inCommon : GoodIn wsX0_winningDigits wsX0_inCommon := goodIn_r _ [16, 12, 17, 18, 19, 5, 20, 21, 22, 23, 24, 25, 26, 27, 28, 29, 30, 31, 32] (by decide +kernel) (by decide +kernel)
set_option maxRecDepth 20000 in
theorem gX0_winningDigits_X0_inCommon : GoodIn wsX0_winningDigits (wsV RX0 92 RX0 yX0_inCommon wsX0_inCommon) := goodIn_app (goodIn_of _ (by decide +kernel)) ggX0_winningDigits_X0_inCommon
theorem dX0_winningDigits_0 : decode cX0_winningDigits 0 = .ok (.iconst 0, 1) := by decide +kernel
theorem dX0_winningDigits_1 : decode cX0_winningDigits 1 = .ok (.istore_n 1, 1) := by decide +kernel
theorem dX0_winningDigits_2 : decode cX0_winningDigits 2 = .ok (.iconst 0, 1) := by decide +kernel
theorem dX0_winningDigits_3 : decode cX0_winningDigits 3 = .ok (.istore_n 2, 1) := by decide +kernel
theorem dX0_winningDigits_4 : decode cX0_winningDigits 4 = .ok (.iload_n 2, 1) := by decide +kernel
theorem dX0_winningDigits_5 : decode cX0_winningDigits 5 = .ok (.aload_n 0, 1) := by decide +kernel
theorem dX0_winningDigits_6 : decode cX0_winningDigits 6 = .ok (.invokevirtual 87, 3) := by decide +kernel
theorem dX0_winningDigits_9 : decode cX0_winningDigits 9 = .ok (.if_icmp .ge 31, 3) := by decide +kernel
theorem dX0_winningDigits_12 : decode cX0_winningDigits 12 = .ok (.getstatic 83, 3) := by decide +kernel
theorem dX0_winningDigits_15 : decode cX0_winningDigits 15 = .ok (.iload_n 2, 1) := by decide +kernel
theorem dX0_winningDigits_16 : decode cX0_winningDigits 16 = .ok (.iaload, 1) := by decide +kernel
theorem dX0_winningDigits_17 : decode cX0_winningDigits 17 = .ok (.istore_n 3, 1) := by decide +kernel
theorem dX0_winningDigits_18 : decode cX0_winningDigits 18 = .ok (.aload_n 0, 1) := by decide +kernel
theorem dX0_winningDigits_19 : decode cX0_winningDigits 19 = .ok (.iload_n 3, 1) := by decide +kernel
theorem dX0_winningDigits_20 : decode cX0_winningDigits 20 = .ok (.invokevirtual 158, 3) := by decide +kernel
theorem dX0_winningDigits_23 : decode cX0_winningDigits 23 = .ok (.ifCond .eq 11, 3) := by decide +kernel
theorem dX0_winningDigits_26 : decode cX0_winningDigits 26 = .ok (.iload_n 1, 1) := by decide +kernel
theorem dX0_winningDigits_27 : decode cX0_winningDigits 27 = .ok (.aload_n 0, 1) := by decide +kernel
theorem dX0_winningDigits_28 : decode cX0_winningDigits 28 = .ok (.iload_n 3, 1) := by decide +kernel
theorem dX0_winningDigits_29 : decode cX0_winningDigits 29 = .ok (.invokevirtual 92, 3) := by decide +kernel
theorem dX0_winningDigits_32 : decode cX0_winningDigits 32 = .ok (.ior, 1) := by decide +kernel
theorem dX0_winningDigits_33 : decode cX0_winningDigits 33 = .ok (.istore_n 1, 1) := by decide +kernel
theorem dX0_winningDigits_34 : decode cX0_winningDigits 34 = .ok (.iinc 2 1, 3) := by decide +kernel
theorem dX0_winningDigits_37 : decode cX0_winningDigits 37 = .ok (.goto (-33), 3) := by decide +kernel
theorem dX0_winningDigits_40 : decode cX0_winningDigits 40 = .ok (.iload_n 1, 1) := by decide +kernel
theorem dX0_winningDigits_41 : decode cX0_winningDigits 41 = .ok (.ireturn, 1) := by decide +kernel
set_option maxRecDepth 20000 in
theorem ggX0_safePieces_X0_winningDigits : GoodIn wsX0_safePieces wsX0_winningDigits := goodIn_r _ [6, 7, 8, 9, 10, 5, 11, 12, 13, 14, 15, 16, 17, 18, 19, 20, 21, 22, 23, 24, 25, 26, 33, 34, 35, 36, 37, 38, 39, 40, 41, 42, 43] (by decide +kernel) (by decide +kernel)
set_option maxRecDepth 20000 in
theorem gX0_safePieces_X0_winningDigits : GoodIn wsX0_safePieces (wsV RX0 161 RX0 yX0_winningDigits wsX0_winningDigits) := goodIn_app (goodIn_of _ (by decide +kernel)) ggX0_safePieces_X0_winningDigits
set_option maxRecDepth 20000 in
theorem ggX0_safePieces_X0_has : GoodIn wsX0_safePieces wsX0_has := goodIn_r _ [29] (by decide +kernel) (by decide +kernel)
set_option maxRecDepth 20000 in
theorem gX0_safePieces_X0_has : GoodIn wsX0_safePieces (va_wsS RX0 58 yX0_has wsX0_has) := goodIn_app (goodIn_of _ (by decide +kernel)) ggX0_safePieces_X0_has
set_option maxRecDepth 20000 in
theorem ggX0_safePieces_X0_ownDigits : GoodIn wsX0_safePieces wsX0_ownDigits := goodIn_r _ [32] (by decide +kernel) (by decide +kernel)
set_option maxRecDepth 20000 in
theorem gX0_safePieces_X0_ownDigits : GoodIn wsX0_safePieces (va_wsS RX0 155 yX0_ownDigits wsX0_ownDigits) := goodIn_app (goodIn_of _ (by decide +kernel)) ggX0_safePieces_X0_ownDigits
theorem dX0_safePieces_0 : decode cX0_safePieces 0 = .ok (.aload_n 0, 1) := by decide +kernel
theorem dX0_safePieces_1 : decode cX0_safePieces 1 = .ok (.invokevirtual 161, 3) := by decide +kernel
theorem dX0_safePieces_4 : decode cX0_safePieces 4 = .ok (.istore_n 1, 1) := by decide +kernel
theorem dX0_safePieces_5 : decode cX0_safePieces 5 = .ok (.iconst 0, 1) := by decide +kernel
theorem dX0_safePieces_6 : decode cX0_safePieces 6 = .ok (.istore_n 2, 1) := by decide +kernel
theorem dX0_safePieces_7 : decode cX0_safePieces 7 = .ok (.iconst 0, 1) := by decide +kernel
theorem dX0_safePieces_8 : decode cX0_safePieces 8 = .ok (.istore_n 3, 1) := by decide +kernel
theorem dX0_safePieces_9 : decode cX0_safePieces 9 = .ok (.iload_n 3, 1) := by decide +kernel
theorem dX0_safePieces_10 : decode cX0_safePieces 10 = .ok (.bipush 16, 2) := by decide +kernel
theorem dX0_safePieces_12 : decode cX0_safePieces 12 = .ok (.if_icmp .ge 35, 3) := by decide +kernel
theorem dX0_safePieces_15 : decode cX0_safePieces 15 = .ok (.aload_n 0, 1) := by decide +kernel
theorem dX0_safePieces_16 : decode cX0_safePieces 16 = .ok (.getfield 35, 3) := by decide +kernel
theorem dX0_safePieces_19 : decode cX0_safePieces 19 = .ok (.iload_n 3, 1) := by decide +kernel
theorem dX0_safePieces_20 : decode cX0_safePieces 20 = .ok (.invokestatic 58, 3) := by decide +kernel
theorem dX0_safePieces_23 : decode cX0_safePieces 23 = .ok (.ifCond .ne 18, 3) := by decide +kernel
theorem dX0_safePieces_26 : decode cX0_safePieces 26 = .ok (.iload_n 3, 1) := by decide +kernel
theorem dX0_safePieces_27 : decode cX0_safePieces 27 = .ok (.invokestatic 155, 3) := by decide +kernel
theorem dX0_safePieces_30 : decode cX0_safePieces 30 = .ok (.iload_n 1, 1) := by decide +kernel
theorem dX0_safePieces_31 : decode cX0_safePieces 31 = .ok (.iand, 1) := by decide +kernel
theorem dX0_safePieces_32 : decode cX0_safePieces 32 = .ok (.ifCond .ne 9, 3) := by decide +kernel
theorem dX0_safePieces_35 : decode cX0_safePieces 35 = .ok (.iload_n 2, 1) := by decide +kernel
theorem dX0_safePieces_36 : decode cX0_safePieces 36 = .ok (.iconst 1, 1) := by decide +kernel
theorem dX0_safePieces_37 : decode cX0_safePieces 37 = .ok (.iload_n 3, 1) := by decide +kernel
theorem dX0_safePieces_38 : decode cX0_safePieces 38 = .ok (.ishl, 1) := by decide +kernel
theorem dX0_safePieces_39 : decode cX0_safePieces 39 = .ok (.ior, 1) := by decide +kernel
theorem dX0_safePieces_40 : decode cX0_safePieces 40 = .ok (.istore_n 2, 1) := by decide +kernel
theorem dX0_safePieces_41 : decode cX0_safePieces 41 = .ok (.iinc 3 1, 3) := by decide +kernel
theorem dX0_safePieces_44 : decode cX0_safePieces 44 = .ok (.goto (-35), 3) := by decide +kernel
theorem dX0_safePieces_47 : decode cX0_safePieces 47 = .ok (.iload_n 2, 1) := by decide +kernel
theorem dX0_safePieces_48 : decode cX0_safePieces 48 = .ok (.ireturn, 1) := by decide +kernel
set_option maxRecDepth 20000 in
theorem ggX0_canLookAhead_J6_bitCount_0f7a4 : GoodIn wsX0_canLookAhead wsJ6_bitCount_0f7a4 := goodIn_r _ [6, 7, 8, 9] (by decide +kernel) (by decide +kernel)
set_option maxRecDepth 20000 in
theorem gX0_canLookAhead_J6_bitCount_0f7a4 : GoodIn wsX0_canLookAhead (va_wsS RX0 19 yJ6_bitCount_0f7a4 wsJ6_bitCount_0f7a4) := goodIn_app (goodIn_of _ (by decide +kernel)) ggX0_canLookAhead_J6_bitCount_0f7a4
theorem dX0_canLookAhead_0 : decode cX0_canLookAhead 0 = .ok (.bipush 16, 2) := by decide +kernel
theorem dX0_canLookAhead_2 : decode cX0_canLookAhead 2 = .ok (.aload_n 0, 1) := by decide +kernel
theorem dX0_canLookAhead_3 : decode cX0_canLookAhead 3 = .ok (.getfield 16, 3) := by decide +kernel
theorem dX0_canLookAhead_6 : decode cX0_canLookAhead 6 = .ok (.invokestatic 19, 3) := by decide +kernel
theorem dX0_canLookAhead_9 : decode cX0_canLookAhead 9 = .ok (.isub, 1) := by decide +kernel
theorem dX0_canLookAhead_10 : decode cX0_canLookAhead 10 = .ok (.istore_n 2, 1) := by decide +kernel
theorem dX0_canLookAhead_11 : decode cX0_canLookAhead 11 = .ok (.iload_n 1, 1) := by decide +kernel
theorem dX0_canLookAhead_12 : decode cX0_canLookAhead 12 = .ok (.iconst 3, 1) := by decide +kernel
theorem dX0_canLookAhead_13 : decode cX0_canLookAhead 13 = .ok (.if_icmp .ne 11, 3) := by decide +kernel
theorem dX0_canLookAhead_16 : decode cX0_canLookAhead 16 = .ok (.iload_n 2, 1) := by decide +kernel
theorem dX0_canLookAhead_17 : decode cX0_canLookAhead 17 = .ok (.bipush 8, 2) := by decide +kernel
theorem dX0_canLookAhead_19 : decode cX0_canLookAhead 19 = .ok (.if_icmp .le 5, 3) := by decide +kernel
theorem dX0_canLookAhead_22 : decode cX0_canLookAhead 22 = .ok (.iconst 0, 1) := by decide +kernel
theorem dX0_canLookAhead_23 : decode cX0_canLookAhead 23 = .ok (.ireturn, 1) := by decide +kernel
theorem dX0_canLookAhead_24 : decode cX0_canLookAhead 24 = .ok (.iload_n 1, 1) := by decide +kernel
theorem dX0_canLookAhead_25 : decode cX0_canLookAhead 25 = .ok (.iconst 4, 1) := by decide +kernel
theorem dX0_canLookAhead_26 : decode cX0_canLookAhead 26 = .ok (.if_icmp .ne 11, 3) := by decide +kernel
theorem dX0_canLookAhead_29 : decode cX0_canLookAhead 29 = .ok (.iload_n 2, 1) := by decide +kernel
theorem dX0_canLookAhead_30 : decode cX0_canLookAhead 30 = .ok (.bipush 6, 2) := by decide +kernel
theorem dX0_canLookAhead_32 : decode cX0_canLookAhead 32 = .ok (.if_icmp .le 5, 3) := by decide +kernel
theorem dX0_canLookAhead_35 : decode cX0_canLookAhead 35 = .ok (.iconst 0, 1) := by decide +kernel
theorem dX0_canLookAhead_36 : decode cX0_canLookAhead 36 = .ok (.ireturn, 1) := by decide +kernel
theorem dX0_canLookAhead_37 : decode cX0_canLookAhead 37 = .ok (.aload_n 0, 1) := by decide +kernel
theorem dX0_canLookAhead_38 : decode cX0_canLookAhead 38 = .ok (.getfield 29, 3) := by decide +kernel
theorem dX0_canLookAhead_41 : decode cX0_canLookAhead 41 = .ok (.iconst 2, 1) := by decide +kernel
theorem dX0_canLookAhead_42 : decode cX0_canLookAhead 42 = .ok (.if_icmp .eq 7, 3) := by decide +kernel
theorem dX0_canLookAhead_45 : decode cX0_canLookAhead 45 = .ok (.iconst 1, 1) := by decide +kernel
theorem dX0_canLookAhead_46 : decode cX0_canLookAhead 46 = .ok (.goto 4, 3) := by decide +kernel
theorem dX0_canLookAhead_49 : decode cX0_canLookAhead 49 = .ok (.iconst 0, 1) := by decide +kernel
theorem dX0_canLookAhead_50 : decode cX0_canLookAhead 50 = .ok (.ireturn, 1) := by decide +kernel
set_option maxRecDepth 20000 in
theorem ggX0_bestPiece_X0_worthToGive : GoodIn wsX0_bestPiece wsX0_worthToGive := goodIn_r _ [6, 7, 8, 9, 5, 10, 11, 12, 13, 14, 1, 15, 16, 17, 18, 19, 20, 21, 22, 23, 24, 25, 26, 27, 28, 29, 30, 31, 32, 33, 34, 35, 36, 37, 38, 39, 40, 41, 42, 43, 44, 45, 46, 47, 48, 49, 50, 51, 52, 53, 54, 55, 56, 57, 58, 59, 60, 61, 62, 63, 64, 65, 66, 67, 68, 69, 70, 71, 72, 81, 82, 83, 84, 85, 86, 87, 88, 89, 90, 91] (by decide +kernel) (by decide +kernel)
set_option maxRecDepth 20000 in
theorem gX0_bestPiece_X0_worthToGive : GoodIn wsX0_bestPiece (wsV RX0 113 RX0 yX0_worthToGive wsX0_worthToGive) := goodIn_app (goodIn_of _ (by decide +kernel)) ggX0_bestPiece_X0_worthToGive
set_option maxRecDepth 20000 in
theorem ggX0_bestPiece_X0_has : GoodIn wsX0_bestPiece wsX0_has := goodIn_r _ [41] (by decide +kernel) (by decide +kernel)
set_option maxRecDepth 20000 in
theorem gX0_bestPiece_X0_has : GoodIn wsX0_bestPiece (va_wsS RX0 58 yX0_has wsX0_has) := goodIn_app (goodIn_of _ (by decide +kernel)) ggX0_bestPiece_X0_has
set_option maxRecDepth 20000 in
theorem ggX0_bestPiece_X0_worthToPlace : GoodIn wsX0_bestPiece wsX0_worthToPlace := goodIn_r _ [76, 77, 78, 79, 5, 80, 19, 29, 42, 43, 44, 20, 21, 22, 23, 24, 25, 26, 27, 28, 30, 31, 32, 33, 34, 35, 36, 37, 38, 49, 50, 51, 72, 39, 40, 41, 53, 54, 55, 56, 1, 57, 58, 59, 60, 61, 62, 7, 8, 9, 66, 67, 68, 69, 70, 71, 48, 11, 12, 13, 14, 15, 16, 17, 18, 10, 45, 46, 47, 52, 63, 64, 65, 81, 82, 83, 84, 85, 86, 87, 88, 89, 90, 91] (by decide +kernel) (by decide +kernel)
set_option maxRecDepth 20000 in
theorem gX0_bestPiece_X0_worthToPlace : GoodIn wsX0_bestPiece (wsV RX0 116 RX0 yX0_worthToPlace wsX0_worthToPlace) := goodIn_app (goodIn_of _ (by decide +kernel)) ggX0_bestPiece_X0_worthToPlace
theorem dX0_bestPiece_0 : decode cX0_bestPiece 0 = .ok (.aload_n 0, 1) := by decide +kernel
theorem dX0_bestPiece_1 : decode cX0_bestPiece 1 = .ok (.iload_n 1, 1) := by decide +kernel
theorem dX0_bestPiece_2 : decode cX0_bestPiece 2 = .ok (.invokevirtual 113, 3) := by decide +kernel
theorem dX0_bestPiece_5 : decode cX0_bestPiece 5 = .ok (.istore_n 2, 1) := by decide +kernel
theorem dX0_bestPiece_6 : decode cX0_bestPiece 6 = .ok (.iconst 0, 1) := by decide +kernel
theorem dX0_bestPiece_7 : decode cX0_bestPiece 7 = .ok (.istore_n 3, 1) := by decide +kernel
theorem dX0_bestPiece_8 : decode cX0_bestPiece 8 = .ok (.iload_n 3, 1) := by decide +kernel
theorem dX0_bestPiece_9 : decode cX0_bestPiece 9 = .ok (.bipush 15, 2) := by decide +kernel
theorem dX0_bestPiece_11 : decode cX0_bestPiece 11 = .ok (.if_icmp .ge 31, 3) := by decide +kernel
theorem dX0_bestPiece_14 : decode cX0_bestPiece 14 = .ok (.aload_n 0, 1) := by decide +kernel
theorem dX0_bestPiece_15 : decode cX0_bestPiece 15 = .ok (.getfield 35, 3) := by decide +kernel
theorem dX0_bestPiece_18 : decode cX0_bestPiece 18 = .ok (.iload_n 3, 1) := by decide +kernel
theorem dX0_bestPiece_19 : decode cX0_bestPiece 19 = .ok (.invokestatic 58, 3) := by decide +kernel
theorem dX0_bestPiece_22 : decode cX0_bestPiece 22 = .ok (.ifCond .ne 14, 3) := by decide +kernel
theorem dX0_bestPiece_25 : decode cX0_bestPiece 25 = .ok (.aload_n 0, 1) := by decide +kernel
theorem dX0_bestPiece_26 : decode cX0_bestPiece 26 = .ok (.iload_n 3, 1) := by decide +kernel
theorem dX0_bestPiece_27 : decode cX0_bestPiece 27 = .ok (.iload_n 1, 1) := by decide +kernel
theorem dX0_bestPiece_28 : decode cX0_bestPiece 28 = .ok (.invokevirtual 116, 3) := by decide +kernel
theorem dX0_bestPiece_31 : decode cX0_bestPiece 31 = .ok (.ineg, 1) := by decide +kernel
theorem dX0_bestPiece_32 : decode cX0_bestPiece 32 = .ok (.iload_n 2, 1) := by decide +kernel
theorem dX0_bestPiece_33 : decode cX0_bestPiece 33 = .ok (.if_icmp .eq 9, 3) := by decide +kernel
theorem dX0_bestPiece_36 : decode cX0_bestPiece 36 = .ok (.iinc 3 1, 3) := by decide +kernel
theorem dX0_bestPiece_39 : decode cX0_bestPiece 39 = .ok (.goto (-31), 3) := by decide +kernel
theorem dX0_bestPiece_42 : decode cX0_bestPiece 42 = .ok (.iload_n 3, 1) := by decide +kernel
theorem dX0_bestPiece_43 : decode cX0_bestPiece 43 = .ok (.ireturn, 1) := by decide +kernel
set_option maxRecDepth 20000 in
theorem ggX0_bestSquare_X0_worthToPlace : GoodIn wsX0_bestSquare wsX0_worthToPlace := goodIn_r _ [7, 8, 9, 10, 6, 11, 12, 2, 13, 14, 15, 16, 17, 18, 19, 20, 21, 22, 23, 24, 25, 26, 27, 28, 29, 30, 31, 32, 33, 34, 35, 36, 37, 38, 39, 40, 41, 42, 43, 44, 45, 46, 47, 48, 49, 50, 51, 52, 53, 54, 55, 56, 57, 58, 59, 60, 61, 62, 63, 64, 65, 66, 67, 68, 69, 70, 71, 72, 73, 74, 75, 76, 77, 86, 87, 88, 89, 90, 91, 92, 93, 94, 95, 96] (by decide +kernel) (by decide +kernel)
set_option maxRecDepth 20000 in
theorem gX0_bestSquare_X0_worthToPlace : GoodIn wsX0_bestSquare (wsV RX0 116 RX0 yX0_worthToPlace wsX0_worthToPlace) := goodIn_app (goodIn_of _ (by decide +kernel)) ggX0_bestSquare_X0_worthToPlace
set_option maxRecDepth 20000 in
theorem ggX0_bestSquare_X0_has : GoodIn wsX0_bestSquare wsX0_has := goodIn_r _ [40] (by decide +kernel) (by decide +kernel)
set_option maxRecDepth 20000 in
theorem gX0_bestSquare_X0_has : GoodIn wsX0_bestSquare (va_wsS RX0 58 yX0_has wsX0_has) := goodIn_app (goodIn_of _ (by decide +kernel)) ggX0_bestSquare_X0_has
set_option maxRecDepth 20000 in
theorem ggX0_bestSquare_X0_worthAfterPlacing : GoodIn wsX0_bestSquare wsX0_worthAfterPlacing := goodIn_r _ [81, 1, 8, 9, 10, 6, 11, 12, 2, 13, 14, 15, 16, 17, 18, 19, 20, 21, 22, 23, 24, 25, 26, 27, 28, 29, 30, 31, 32, 33, 38, 39, 40, 41, 42, 43, 44, 45, 46, 47, 48, 49, 50, 51, 82, 83, 84, 85, 52, 53, 54, 70, 62, 63, 64, 65, 66, 67, 68, 69, 71, 72, 73, 61, 34, 35, 36, 74, 75, 76, 77, 55, 56, 57, 58, 59, 60, 37, 86, 87, 88, 89, 90, 91, 92, 93, 94, 95, 96] (by decide +kernel) (by decide +kernel)
set_option maxRecDepth 20000 in
theorem gX0_bestSquare_X0_worthAfterPlacing : GoodIn wsX0_bestSquare (wsV RX0 164 RX0 yX0_worthAfterPlacing wsX0_worthAfterPlacing) := goodIn_app (goodIn_of _ (by decide +kernel)) ggX0_bestSquare_X0_worthAfterPlacing
theorem dX0_bestSquare_0 : decode cX0_bestSquare 0 = .ok (.aload_n 0, 1) := by decide +kernel
theorem dX0_bestSquare_1 : decode cX0_bestSquare 1 = .ok (.aload_n 0, 1) := by decide +kernel
theorem dX0_bestSquare_2 : decode cX0_bestSquare 2 = .ok (.getfield 9, 3) := by decide +kernel
theorem dX0_bestSquare_5 : decode cX0_bestSquare 5 = .ok (.iload_n 1, 1) := by decide +kernel
theorem dX0_bestSquare_6 : decode cX0_bestSquare 6 = .ok (.invokevirtual 116, 3) := by decide +kernel
theorem dX0_bestSquare_9 : decode cX0_bestSquare 9 = .ok (.istore_n 2, 1) := by decide +kernel
theorem dX0_bestSquare_10 : decode cX0_bestSquare 10 = .ok (.iconst 0, 1) := by decide +kernel
theorem dX0_bestSquare_11 : decode cX0_bestSquare 11 = .ok (.istore_n 3, 1) := by decide +kernel
theorem dX0_bestSquare_12 : decode cX0_bestSquare 12 = .ok (.iload_n 3, 1) := by decide +kernel
theorem dX0_bestSquare_13 : decode cX0_bestSquare 13 = .ok (.bipush 15, 2) := by decide +kernel
theorem dX0_bestSquare_15 : decode cX0_bestSquare 15 = .ok (.if_icmp .ge 30, 3) := by decide +kernel
theorem dX0_bestSquare_18 : decode cX0_bestSquare 18 = .ok (.aload_n 0, 1) := by decide +kernel
theorem dX0_bestSquare_19 : decode cX0_bestSquare 19 = .ok (.getfield 16, 3) := by decide +kernel
theorem dX0_bestSquare_22 : decode cX0_bestSquare 22 = .ok (.iload_n 3, 1) := by decide +kernel
theorem dX0_bestSquare_23 : decode cX0_bestSquare 23 = .ok (.invokestatic 58, 3) := by decide +kernel
theorem dX0_bestSquare_26 : decode cX0_bestSquare 26 = .ok (.ifCond .ne 13, 3) := by decide +kernel
theorem dX0_bestSquare_29 : decode cX0_bestSquare 29 = .ok (.aload_n 0, 1) := by decide +kernel
theorem dX0_bestSquare_30 : decode cX0_bestSquare 30 = .ok (.iload_n 3, 1) := by decide +kernel
theorem dX0_bestSquare_31 : decode cX0_bestSquare 31 = .ok (.iload_n 1, 1) := by decide +kernel
theorem dX0_bestSquare_32 : decode cX0_bestSquare 32 = .ok (.invokevirtual 164, 3) := by decide +kernel
theorem dX0_bestSquare_35 : decode cX0_bestSquare 35 = .ok (.iload_n 2, 1) := by decide +kernel
theorem dX0_bestSquare_36 : decode cX0_bestSquare 36 = .ok (.if_icmp .eq 9, 3) := by decide +kernel
theorem dX0_bestSquare_39 : decode cX0_bestSquare 39 = .ok (.iinc 3 1, 3) := by decide +kernel
theorem dX0_bestSquare_42 : decode cX0_bestSquare 42 = .ok (.goto (-30), 3) := by decide +kernel
theorem dX0_bestSquare_45 : decode cX0_bestSquare 45 = .ok (.iload_n 3, 1) := by decide +kernel
theorem dX0_bestSquare_46 : decode cX0_bestSquare 46 = .ok (.ireturn, 1) := by decide +kernel
set_option maxRecDepth 20000 in
theorem ggX0_worthAfterPlacing_X0_winningSquares : GoodIn wsX0_worthAfterPlacing wsX0_winningSquares := goodIn_r _ [6, 7, 8, 9, 10, 5, 11, 12, 13, 14, 15, 16, 17, 18, 19, 20, 21, 22, 23, 24, 25, 26, 27, 28, 29, 78, 79, 80, 81, 82, 83, 84, 85, 86, 87, 88] (by decide +kernel) (by decide +kernel)
set_option maxRecDepth 20000 in
theorem gX0_worthAfterPlacing_X0_winningSquares : GoodIn wsX0_worthAfterPlacing (wsV RX0 97 RX0 yX0_winningSquares wsX0_winningSquares) := goodIn_app (goodIn_of _ (by decide +kernel)) ggX0_worthAfterPlacing_X0_winningSquares
set_option maxRecDepth 20000 in
theorem ggX0_worthAfterPlacing_X0_has : GoodIn wsX0_worthAfterPlacing wsX0_has := goodIn_r _ [32] (by decide +kernel) (by decide +kernel)
set_option maxRecDepth 20000 in
theorem gX0_worthAfterPlacing_X0_has : GoodIn wsX0_worthAfterPlacing (va_wsS RX0 58 yX0_has wsX0_has) := goodIn_app (goodIn_of _ (by decide +kernel)) ggX0_worthAfterPlacing_X0_has
set_option maxRecDepth 20000 in
theorem ggX0_worthAfterPlacing_X0_put : GoodIn wsX0_worthAfterPlacing wsX0_put := goodIn_r _ [36, 8, 37, 25, 38, 39, 5, 40, 41, 42, 43, 78, 79, 80, 81, 82, 83, 84, 85, 86, 87, 88] (by decide +kernel) (by decide +kernel)
set_option maxRecDepth 20000 in
theorem gX0_worthAfterPlacing_X0_put : GoodIn wsX0_worthAfterPlacing (wsV RX0 70 RX0 yX0_put wsX0_put) := goodIn_app (goodIn_of _ (by decide +kernel)) ggX0_worthAfterPlacing_X0_put
set_option maxRecDepth 20000 in
theorem ggX0_worthAfterPlacing_X0_worthToGive : GoodIn wsX0_worthAfterPlacing wsX0_worthToGive := goodIn_r _ [47, 48, 49, 50, 5, 51, 52, 53, 54, 55, 37, 56, 57, 58, 59, 7, 12, 13, 14, 15, 16, 17, 18, 19, 20, 8, 21, 22, 23, 24, 25, 26, 27, 28, 29, 30, 31, 32, 9, 10, 11, 60, 61, 62, 63, 64, 65, 66, 67, 33, 34, 35, 36, 38, 39, 40, 41, 42, 43, 68, 69, 70, 71, 72, 73, 74, 75, 76, 77, 78, 79, 80, 81, 82, 83, 84, 85, 86, 87, 88] (by decide +kernel) (by decide +kernel)
set_option maxRecDepth 20000 in
theorem gX0_worthAfterPlacing_X0_worthToGive : GoodIn wsX0_worthAfterPlacing (wsV RX0 113 RX0 yX0_worthToGive wsX0_worthToGive) := goodIn_app (goodIn_of _ (by decide +kernel)) ggX0_worthAfterPlacing_X0_worthToGive
set_option maxRecDepth 20000 in
theorem ggX0_worthAfterPlacing_X0_lift : GoodIn wsX0_worthAfterPlacing wsX0_lift := goodIn_r _ [74, 8, 37, 25, 75, 76, 78, 79, 80, 81, 82, 83, 84, 85, 86, 87, 88] (by decide +kernel) (by decide +kernel)
set_option maxRecDepth 20000 in
theorem gX0_worthAfterPlacing_X0_lift : GoodIn wsX0_worthAfterPlacing (wsV RX0 167 RX0 yX0_lift wsX0_lift) := goodIn_app (goodIn_of _ (by decide +kernel)) ggX0_worthAfterPlacing_X0_lift
theorem dX0_worthAfterPlacing_0 : decode cX0_worthAfterPlacing 0 = .ok (.aload_n 0, 1) := by decide +kernel
theorem dX0_worthAfterPlacing_1 : decode cX0_worthAfterPlacing 1 = .ok (.aload_n 0, 1) := by decide +kernel
theorem dX0_worthAfterPlacing_2 : decode cX0_worthAfterPlacing 2 = .ok (.getfield 9, 3) := by decide +kernel
theorem dX0_worthAfterPlacing_5 : decode cX0_worthAfterPlacing 5 = .ok (.invokevirtual 97, 3) := by decide +kernel
theorem dX0_worthAfterPlacing_8 : decode cX0_worthAfterPlacing 8 = .ok (.iload_n 1, 1) := by decide +kernel
theorem dX0_worthAfterPlacing_9 : decode cX0_worthAfterPlacing 9 = .ok (.invokestatic 58, 3) := by decide +kernel
theorem dX0_worthAfterPlacing_12 : decode cX0_worthAfterPlacing 12 = .ok (.ifCond .eq 5, 3) := by decide +kernel
theorem dX0_worthAfterPlacing_15 : decode cX0_worthAfterPlacing 15 = .ok (.iconst 1, 1) := by decide +kernel
theorem dX0_worthAfterPlacing_16 : decode cX0_worthAfterPlacing 16 = .ok (.ireturn, 1) := by decide +kernel
theorem dX0_worthAfterPlacing_17 : decode cX0_worthAfterPlacing 17 = .ok (.aload_n 0, 1) := by decide +kernel
theorem dX0_worthAfterPlacing_18 : decode cX0_worthAfterPlacing 18 = .ok (.aload_n 0, 1) := by decide +kernel
theorem dX0_worthAfterPlacing_19 : decode cX0_worthAfterPlacing 19 = .ok (.getfield 9, 3) := by decide +kernel
theorem dX0_worthAfterPlacing_22 : decode cX0_worthAfterPlacing 22 = .ok (.iload_n 1, 1) := by decide +kernel
theorem dX0_worthAfterPlacing_23 : decode cX0_worthAfterPlacing 23 = .ok (.invokevirtual 70, 3) := by decide +kernel
theorem dX0_worthAfterPlacing_26 : decode cX0_worthAfterPlacing 26 = .ok (.aload_n 0, 1) := by decide +kernel
theorem dX0_worthAfterPlacing_27 : decode cX0_worthAfterPlacing 27 = .ok (.iload_n 2, 1) := by decide +kernel
theorem dX0_worthAfterPlacing_28 : decode cX0_worthAfterPlacing 28 = .ok (.iconst 1, 1) := by decide +kernel
theorem dX0_worthAfterPlacing_29 : decode cX0_worthAfterPlacing 29 = .ok (.isub, 1) := by decide +kernel
theorem dX0_worthAfterPlacing_30 : decode cX0_worthAfterPlacing 30 = .ok (.invokevirtual 113, 3) := by decide +kernel
theorem dX0_worthAfterPlacing_33 : decode cX0_worthAfterPlacing 33 = .ok (.istore_n 3, 1) := by decide +kernel
theorem dX0_worthAfterPlacing_34 : decode cX0_worthAfterPlacing 34 = .ok (.aload_n 0, 1) := by decide +kernel
theorem dX0_worthAfterPlacing_35 : decode cX0_worthAfterPlacing 35 = .ok (.aload_n 0, 1) := by decide +kernel
theorem dX0_worthAfterPlacing_36 : decode cX0_worthAfterPlacing 36 = .ok (.getfield 9, 3) := by decide +kernel
theorem dX0_worthAfterPlacing_39 : decode cX0_worthAfterPlacing 39 = .ok (.iload_n 1, 1) := by decide +kernel
theorem dX0_worthAfterPlacing_40 : decode cX0_worthAfterPlacing 40 = .ok (.invokevirtual 167, 3) := by decide +kernel
theorem dX0_worthAfterPlacing_43 : decode cX0_worthAfterPlacing 43 = .ok (.iload_n 3, 1) := by decide +kernel
theorem dX0_worthAfterPlacing_44 : decode cX0_worthAfterPlacing 44 = .ok (.ireturn, 1) := by decide +kernel
set_option maxRecDepth 20000 in
theorem ggX0_worthToGive_X0_giverWins : GoodIn wsX0_worthToGive wsX0_giverWins := goodIn_r _ [5, 6, 7, 8, 4, 9, 10, 11, 12, 13, 14, 15, 16, 17, 18, 19, 20, 21, 22, 23, 24, 25, 26, 27, 28, 29, 30, 31, 32, 33, 34, 35, 36, 37, 38, 39, 40, 41, 42, 43, 44, 45, 46, 47, 48, 49, 50, 51, 52, 53, 54, 55, 56, 57, 58, 59, 60, 61, 62, 63, 64, 65, 66, 67, 68, 1, 2, 3, 69, 70, 71, 72, 73, 74, 75, 76, 77, 78, 79] (by decide +kernel) (by decide +kernel)
set_option maxRecDepth 20000 in
theorem gX0_worthToGive_X0_giverWins : GoodIn wsX0_worthToGive (wsV RX0 170 RX0 yX0_giverWins wsX0_giverWins) := goodIn_app (goodIn_of _ (by decide +kernel)) ggX0_worthToGive_X0_giverWins
set_option maxRecDepth 20000 in
theorem ggX0_worthToGive_X0_giverLoses : GoodIn wsX0_worthToGive wsX0_giverLoses := goodIn_r _ [44, 25, 34, 6, 7, 8, 4, 9, 10, 11, 12, 13, 14, 15, 16, 17, 18, 19, 20, 21, 22, 23, 24, 26, 27, 28, 29, 30, 31, 32, 33, 35, 36, 37, 38, 39, 40, 45, 46, 47, 5, 41, 42, 43, 48, 49, 50, 51, 52, 53, 54, 55, 56, 57, 58, 59, 60, 61, 62, 63, 64, 65, 66, 67, 68, 1, 2, 3, 69, 70, 71, 72, 73, 74, 75, 76, 77, 78, 79] (by decide +kernel) (by decide +kernel)
set_option maxRecDepth 20000 in
theorem gX0_worthToGive_X0_giverLoses : GoodIn wsX0_worthToGive (wsV RX0 173 RX0 yX0_giverLoses wsX0_giverLoses) := goodIn_app (goodIn_of _ (by decide +kernel)) ggX0_worthToGive_X0_giverLoses
theorem dX0_worthToGive_0 : decode cX0_worthToGive 0 = .ok (.aload_n 0, 1) := by decide +kernel
theorem dX0_worthToGive_1 : decode cX0_worthToGive 1 = .ok (.iload_n 1, 1) := by decide +kernel
theorem dX0_worthToGive_2 : decode cX0_worthToGive 2 = .ok (.invokevirtual 170, 3) := by decide +kernel
theorem dX0_worthToGive_5 : decode cX0_worthToGive 5 = .ok (.ifCond .eq 5, 3) := by decide +kernel
theorem dX0_worthToGive_8 : decode cX0_worthToGive 8 = .ok (.iconst 1, 1) := by decide +kernel
theorem dX0_worthToGive_9 : decode cX0_worthToGive 9 = .ok (.ireturn, 1) := by decide +kernel
theorem dX0_worthToGive_10 : decode cX0_worthToGive 10 = .ok (.aload_n 0, 1) := by decide +kernel
theorem dX0_worthToGive_11 : decode cX0_worthToGive 11 = .ok (.iload_n 1, 1) := by decide +kernel
theorem dX0_worthToGive_12 : decode cX0_worthToGive 12 = .ok (.invokevirtual 173, 3) := by decide +kernel
theorem dX0_worthToGive_15 : decode cX0_worthToGive 15 = .ok (.ifCond .eq 7, 3) := by decide +kernel
theorem dX0_worthToGive_18 : decode cX0_worthToGive 18 = .ok (.iconst (-1), 1) := by decide +kernel
theorem dX0_worthToGive_19 : decode cX0_worthToGive 19 = .ok (.goto 4, 3) := by decide +kernel
theorem dX0_worthToGive_22 : decode cX0_worthToGive 22 = .ok (.iconst 0, 1) := by decide +kernel
theorem dX0_worthToGive_23 : decode cX0_worthToGive 23 = .ok (.ireturn, 1) := by decide +kernel
set_option maxRecDepth 20000 in
theorem ggX0_worthToPlace_X0_winningSquares : GoodIn wsX0_worthToPlace wsX0_winningSquares := goodIn_r _ [5, 6, 7, 8, 9, 4, 10, 11, 12, 13, 14, 15, 16, 17, 18, 19, 20, 21, 22, 23, 24, 25, 26, 27, 28, 73, 74, 75, 76, 77, 78, 79, 80, 81, 82, 83] (by decide +kernel) (by decide +kernel)
set_option maxRecDepth 20000 in
theorem gX0_worthToPlace_X0_winningSquares : GoodIn wsX0_worthToPlace (wsV RX0 97 RX0 yX0_winningSquares wsX0_winningSquares) := goodIn_app (goodIn_of _ (by decide +kernel)) ggX0_worthToPlace_X0_winningSquares
set_option maxRecDepth 20000 in
theorem ggX0_worthToPlace_X0_placerWinsLater : GoodIn wsX0_worthToPlace wsX0_placerWinsLater := goodIn_r _ [32, 7, 33, 34, 4, 35, 36, 37, 38, 39, 40, 24, 41, 42, 43, 44, 45, 46, 47, 48, 49, 50, 51, 52, 53, 54, 55, 56, 28, 57, 58, 59, 60, 61, 62, 63, 64, 6, 11, 12, 13, 14, 15, 16, 17, 18, 19, 20, 21, 22, 23, 25, 26, 27, 8, 9, 10, 29, 30, 31, 65, 66, 67, 68, 69, 70, 71, 72, 73, 74, 75, 76, 77, 78, 79, 80, 81, 82, 83] (by decide +kernel) (by decide +kernel)
set_option maxRecDepth 20000 in
theorem gX0_worthToPlace_X0_placerWinsLater : GoodIn wsX0_worthToPlace (wsV RX0 176 RX0 yX0_placerWinsLater wsX0_placerWinsLater) := goodIn_app (goodIn_of _ (by decide +kernel)) ggX0_worthToPlace_X0_placerWinsLater
set_option maxRecDepth 20000 in
theorem ggX0_worthToPlace_X0_placerLoses : GoodIn wsX0_worthToPlace wsX0_placerLoses := goodIn_r _ [69, 7, 33, 34, 4, 35, 36, 37, 38, 39, 40, 24, 41, 42, 43, 44, 45, 46, 70, 71, 72, 50, 51, 52, 53, 54, 55, 56, 28, 57, 58, 59, 60, 61, 62, 63, 64, 6, 11, 12, 13, 14, 15, 16, 17, 18, 19, 20, 21, 22, 23, 25, 26, 27, 8, 9, 10, 29, 30, 31, 65, 66, 67, 68, 32, 47, 48, 49, 73, 74, 75, 76, 77, 78, 79, 80, 81, 82, 83] (by decide +kernel) (by decide +kernel)
set_option maxRecDepth 20000 in
theorem gX0_worthToPlace_X0_placerLoses : GoodIn wsX0_worthToPlace (wsV RX0 179 RX0 yX0_placerLoses wsX0_placerLoses) := goodIn_app (goodIn_of _ (by decide +kernel)) ggX0_worthToPlace_X0_placerLoses
theorem dX0_worthToPlace_0 : decode cX0_worthToPlace 0 = .ok (.aload_n 0, 1) := by decide +kernel
theorem dX0_worthToPlace_1 : decode cX0_worthToPlace 1 = .ok (.iload_n 1, 1) := by decide +kernel
theorem dX0_worthToPlace_2 : decode cX0_worthToPlace 2 = .ok (.invokevirtual 97, 3) := by decide +kernel
theorem dX0_worthToPlace_5 : decode cX0_worthToPlace 5 = .ok (.ifCond .ne 12, 3) := by decide +kernel
theorem dX0_worthToPlace_8 : decode cX0_worthToPlace 8 = .ok (.aload_n 0, 1) := by decide +kernel
theorem dX0_worthToPlace_9 : decode cX0_worthToPlace 9 = .ok (.iload_n 1, 1) := by decide +kernel
theorem dX0_worthToPlace_10 : decode cX0_worthToPlace 10 = .ok (.iload_n 2, 1) := by decide +kernel
theorem dX0_worthToPlace_11 : decode cX0_worthToPlace 11 = .ok (.invokevirtual 176, 3) := by decide +kernel
theorem dX0_worthToPlace_14 : decode cX0_worthToPlace 14 = .ok (.ifCond .eq 5, 3) := by decide +kernel
theorem dX0_worthToPlace_17 : decode cX0_worthToPlace 17 = .ok (.iconst 1, 1) := by decide +kernel
theorem dX0_worthToPlace_18 : decode cX0_worthToPlace 18 = .ok (.ireturn, 1) := by decide +kernel
theorem dX0_worthToPlace_19 : decode cX0_worthToPlace 19 = .ok (.aload_n 0, 1) := by decide +kernel
theorem dX0_worthToPlace_20 : decode cX0_worthToPlace 20 = .ok (.iload_n 1, 1) := by decide +kernel
theorem dX0_worthToPlace_21 : decode cX0_worthToPlace 21 = .ok (.iload_n 2, 1) := by decide +kernel
theorem dX0_worthToPlace_22 : decode cX0_worthToPlace 22 = .ok (.invokevirtual 179, 3) := by decide +kernel
theorem dX0_worthToPlace_25 : decode cX0_worthToPlace 25 = .ok (.ifCond .eq 7, 3) := by decide +kernel
theorem dX0_worthToPlace_28 : decode cX0_worthToPlace 28 = .ok (.iconst (-1), 1) := by decide +kernel
theorem dX0_worthToPlace_29 : decode cX0_worthToPlace 29 = .ok (.goto 4, 3) := by decide +kernel
theorem dX0_worthToPlace_32 : decode cX0_worthToPlace 32 = .ok (.iconst 0, 1) := by decide +kernel
theorem dX0_worthToPlace_33 : decode cX0_worthToPlace 33 = .ok (.ireturn, 1) := by decide +kernel
set_option maxRecDepth 20000 in
theorem ggX0_giverWins_X0_safePieces : GoodIn wsX0_giverWins wsX0_safePieces := goodIn_r _ [5, 6, 7, 8, 9, 4, 10, 11, 12, 13, 14, 15, 16, 17, 18, 19, 20, 21, 22, 23, 24, 25, 26, 27, 28, 29, 30, 31, 32, 33, 34, 35, 36, 68, 69, 70, 71, 72, 73, 74, 75, 76, 77, 78] (by decide +kernel) (by decide +kernel)
set_option maxRecDepth 20000 in
theorem gX0_giverWins_X0_safePieces : GoodIn wsX0_giverWins (wsV RX0 100 RX0 yX0_safePieces wsX0_safePieces) := goodIn_app (goodIn_of _ (by decide +kernel)) ggX0_giverWins_X0_safePieces
set_option maxRecDepth 20000 in
theorem ggX0_giverWins_X0_has : GoodIn wsX0_giverWins wsX0_has := goodIn_r _ [33] (by decide +kernel) (by decide +kernel)
set_option maxRecDepth 20000 in
theorem gX0_giverWins_X0_has : GoodIn wsX0_giverWins (va_wsS RX0 58 yX0_has wsX0_has) := goodIn_app (goodIn_of _ (by decide +kernel)) ggX0_giverWins_X0_has
set_option maxRecDepth 20000 in
theorem ggX0_giverWins_X0_placerLoses : GoodIn wsX0_giverWins wsX0_placerLoses := goodIn_r _ [44, 21, 31, 32, 4, 33, 45, 46, 47, 48, 6, 26, 49, 50, 51, 52, 53, 54, 55, 56, 57, 58, 59, 60, 61, 62, 63, 40, 30, 1, 2, 3, 5, 7, 8, 9, 10, 11, 12, 13, 14, 15, 16, 17, 18, 19, 20, 22, 23, 24, 25, 27, 28, 29, 34, 35, 36, 41, 42, 43, 0, 37, 38, 39, 64, 65, 66, 67, 68, 69, 70, 71, 72, 73, 74, 75, 76, 77, 78] (by decide +kernel) (by decide +kernel)
set_option maxRecDepth 20000 in
theorem gX0_giverWins_X0_placerLoses : GoodIn wsX0_giverWins (wsV RX0 179 RX0 yX0_placerLoses wsX0_placerLoses) := goodIn_app (goodIn_of _ (by decide +kernel)) ggX0_giverWins_X0_placerLoses
theorem dX0_giverWins_0 : decode cX0_giverWins 0 = .ok (.iload_n 1, 1) := by decide +kernel
theorem dX0_giverWins_1 : decode cX0_giverWins 1 = .ok (.iconst 2, 1) := by decide +kernel
theorem dX0_giverWins_2 : decode cX0_giverWins 2 = .ok (.if_icmp .ge 5, 3) := by decide +kernel
theorem dX0_giverWins_5 : decode cX0_giverWins 5 = .ok (.iconst 0, 1) := by decide +kernel
theorem dX0_giverWins_6 : decode cX0_giverWins 6 = .ok (.ireturn, 1) := by decide +kernel
theorem dX0_giverWins_7 : decode cX0_giverWins 7 = .ok (.aload_n 0, 1) := by decide +kernel
theorem dX0_giverWins_8 : decode cX0_giverWins 8 = .ok (.invokevirtual 100, 3) := by decide +kernel
theorem dX0_giverWins_11 : decode cX0_giverWins 11 = .ok (.istore_n 2, 1) := by decide +kernel
theorem dX0_giverWins_12 : decode cX0_giverWins 12 = .ok (.iconst 0, 1) := by decide +kernel
theorem dX0_giverWins_13 : decode cX0_giverWins 13 = .ok (.istore_n 3, 1) := by decide +kernel
theorem dX0_giverWins_14 : decode cX0_giverWins 14 = .ok (.iload_n 3, 1) := by decide +kernel
theorem dX0_giverWins_15 : decode cX0_giverWins 15 = .ok (.bipush 16, 2) := by decide +kernel
theorem dX0_giverWins_17 : decode cX0_giverWins 17 = .ok (.if_icmp .ge 28, 3) := by decide +kernel
theorem dX0_giverWins_20 : decode cX0_giverWins 20 = .ok (.iload_n 2, 1) := by decide +kernel
theorem dX0_giverWins_21 : decode cX0_giverWins 21 = .ok (.iload_n 3, 1) := by decide +kernel
theorem dX0_giverWins_22 : decode cX0_giverWins 22 = .ok (.invokestatic 58, 3) := by decide +kernel
theorem dX0_giverWins_25 : decode cX0_giverWins 25 = .ok (.ifCond .eq 14, 3) := by decide +kernel
theorem dX0_giverWins_28 : decode cX0_giverWins 28 = .ok (.aload_n 0, 1) := by decide +kernel
theorem dX0_giverWins_29 : decode cX0_giverWins 29 = .ok (.iload_n 3, 1) := by decide +kernel
theorem dX0_giverWins_30 : decode cX0_giverWins 30 = .ok (.iload_n 1, 1) := by decide +kernel
theorem dX0_giverWins_31 : decode cX0_giverWins 31 = .ok (.invokevirtual 179, 3) := by decide +kernel
theorem dX0_giverWins_34 : decode cX0_giverWins 34 = .ok (.ifCond .eq 5, 3) := by decide +kernel
theorem dX0_giverWins_37 : decode cX0_giverWins 37 = .ok (.iconst 1, 1) := by decide +kernel
theorem dX0_giverWins_38 : decode cX0_giverWins 38 = .ok (.ireturn, 1) := by decide +kernel
theorem dX0_giverWins_39 : decode cX0_giverWins 39 = .ok (.iinc 3 1, 3) := by decide +kernel
theorem dX0_giverWins_42 : decode cX0_giverWins 42 = .ok (.goto (-28), 3) := by decide +kernel
theorem dX0_giverWins_45 : decode cX0_giverWins 45 = .ok (.iconst 0, 1) := by decide +kernel
theorem dX0_giverWins_46 : decode cX0_giverWins 46 = .ok (.ireturn, 1) := by decide +kernel
set_option maxRecDepth 20000 in
theorem ggX0_giverLoses_X0_safePieces : GoodIn wsX0_giverLoses wsX0_safePieces := goodIn_r _ [7, 8, 9, 10, 11, 6, 12, 13, 14, 15, 16, 17, 18, 19, 20, 21, 22, 1, 23, 24, 25, 26, 27, 28, 29, 30, 2, 31, 32, 33, 34, 35, 36, 68, 69, 70, 71, 72, 73, 74, 75, 76, 77, 78] (by decide +kernel) (by decide +kernel)
set_option maxRecDepth 20000 in
theorem gX0_giverLoses_X0_safePieces : GoodIn wsX0_giverLoses (wsV RX0 100 RX0 yX0_safePieces wsX0_safePieces) := goodIn_app (goodIn_of _ (by decide +kernel)) ggX0_giverLoses_X0_safePieces
set_option maxRecDepth 20000 in
theorem ggX0_giverLoses_X0_has : GoodIn wsX0_giverLoses wsX0_has := goodIn_r _ [33] (by decide +kernel) (by decide +kernel)
set_option maxRecDepth 20000 in
theorem gX0_giverLoses_X0_has : GoodIn wsX0_giverLoses (va_wsS RX0 58 yX0_has wsX0_has) := goodIn_app (goodIn_of _ (by decide +kernel)) ggX0_giverLoses_X0_has
set_option maxRecDepth 20000 in
theorem ggX0_giverLoses_X0_placerWinsLater : GoodIn wsX0_giverLoses wsX0_placerWinsLater := goodIn_r _ [64, 1, 31, 32, 6, 33, 45, 46, 47, 48, 8, 27, 49, 50, 51, 52, 53, 54, 65, 66, 67, 58, 59, 60, 61, 62, 63, 0, 2, 3, 4, 5, 7, 9, 10, 11, 12, 13, 14, 15, 16, 17, 18, 19, 20, 21, 22, 23, 24, 25, 26, 28, 29, 30, 34, 35, 36, 37, 38, 39, 40, 41, 42, 43, 44, 55, 56, 57, 68, 69, 70, 71, 72, 73, 74, 75, 76, 77, 78] (by decide +kernel) (by decide +kernel)
set_option maxRecDepth 20000 in
theorem gX0_giverLoses_X0_placerWinsLater : GoodIn wsX0_giverLoses (wsV RX0 176 RX0 yX0_placerWinsLater wsX0_placerWinsLater) := goodIn_app (goodIn_of _ (by decide +kernel)) ggX0_giverLoses_X0_placerWinsLater
theorem dX0_giverLoses_0 : decode cX0_giverLoses 0 = .ok (.iload_n 1, 1) := by decide +kernel
theorem dX0_giverLoses_1 : decode cX0_giverLoses 1 = .ok (.iconst 1, 1) := by decide +kernel
theorem dX0_giverLoses_2 : decode cX0_giverLoses 2 = .ok (.if_icmp .lt 12, 3) := by decide +kernel
theorem dX0_giverLoses_5 : decode cX0_giverLoses 5 = .ok (.aload_n 0, 1) := by decide +kernel
theorem dX0_giverLoses_6 : decode cX0_giverLoses 6 = .ok (.getfield 16, 3) := by decide +kernel
theorem dX0_giverLoses_9 : decode cX0_giverLoses 9 = .ok (.ldc 78, 2) := by decide +kernel
theorem dX0_giverLoses_11 : decode cX0_giverLoses 11 = .ok (.if_icmp .ne 5, 3) := by decide +kernel
theorem dX0_giverLoses_14 : decode cX0_giverLoses 14 = .ok (.iconst 0, 1) := by decide +kernel
theorem dX0_giverLoses_15 : decode cX0_giverLoses 15 = .ok (.ireturn, 1) := by decide +kernel
theorem dX0_giverLoses_16 : decode cX0_giverLoses 16 = .ok (.aload_n 0, 1) := by decide +kernel
theorem dX0_giverLoses_17 : decode cX0_giverLoses 17 = .ok (.invokevirtual 100, 3) := by decide +kernel
theorem dX0_giverLoses_20 : decode cX0_giverLoses 20 = .ok (.istore_n 2, 1) := by decide +kernel
theorem dX0_giverLoses_21 : decode cX0_giverLoses 21 = .ok (.iconst 0, 1) := by decide +kernel
theorem dX0_giverLoses_22 : decode cX0_giverLoses 22 = .ok (.istore_n 3, 1) := by decide +kernel
theorem dX0_giverLoses_23 : decode cX0_giverLoses 23 = .ok (.iload_n 3, 1) := by decide +kernel
theorem dX0_giverLoses_24 : decode cX0_giverLoses 24 = .ok (.bipush 16, 2) := by decide +kernel
theorem dX0_giverLoses_26 : decode cX0_giverLoses 26 = .ok (.if_icmp .ge 28, 3) := by decide +kernel
theorem dX0_giverLoses_29 : decode cX0_giverLoses 29 = .ok (.iload_n 2, 1) := by decide +kernel
theorem dX0_giverLoses_30 : decode cX0_giverLoses 30 = .ok (.iload_n 3, 1) := by decide +kernel
theorem dX0_giverLoses_31 : decode cX0_giverLoses 31 = .ok (.invokestatic 58, 3) := by decide +kernel
theorem dX0_giverLoses_34 : decode cX0_giverLoses 34 = .ok (.ifCond .eq 14, 3) := by decide +kernel
theorem dX0_giverLoses_37 : decode cX0_giverLoses 37 = .ok (.aload_n 0, 1) := by decide +kernel
theorem dX0_giverLoses_38 : decode cX0_giverLoses 38 = .ok (.iload_n 3, 1) := by decide +kernel
theorem dX0_giverLoses_39 : decode cX0_giverLoses 39 = .ok (.iload_n 1, 1) := by decide +kernel
theorem dX0_giverLoses_40 : decode cX0_giverLoses 40 = .ok (.invokevirtual 176, 3) := by decide +kernel
theorem dX0_giverLoses_43 : decode cX0_giverLoses 43 = .ok (.ifCond .ne 5, 3) := by decide +kernel
theorem dX0_giverLoses_46 : decode cX0_giverLoses 46 = .ok (.iconst 0, 1) := by decide +kernel
theorem dX0_giverLoses_47 : decode cX0_giverLoses 47 = .ok (.ireturn, 1) := by decide +kernel
theorem dX0_giverLoses_48 : decode cX0_giverLoses 48 = .ok (.iinc 3 1, 3) := by decide +kernel
theorem dX0_giverLoses_51 : decode cX0_giverLoses 51 = .ok (.goto (-28), 3) := by decide +kernel
theorem dX0_giverLoses_54 : decode cX0_giverLoses 54 = .ok (.iconst 1, 1) := by decide +kernel
theorem dX0_giverLoses_55 : decode cX0_giverLoses 55 = .ok (.ireturn, 1) := by decide +kernel
set_option maxRecDepth 20000 in
theorem ggX0_placerWinsLater_X0_has : GoodIn wsX0_placerWinsLater wsX0_has := goodIn_r _ [5] (by decide +kernel) (by decide +kernel)
set_option maxRecDepth 20000 in
theorem gX0_placerWinsLater_X0_has : GoodIn wsX0_placerWinsLater (va_wsS RX0 58 yX0_has wsX0_has) := goodIn_app (goodIn_of _ (by decide +kernel)) ggX0_placerWinsLater_X0_has
set_option maxRecDepth 20000 in
theorem ggX0_placerWinsLater_X0_put : GoodIn wsX0_placerWinsLater wsX0_put := goodIn_r _ [9, 1, 10, 11, 12, 13, 4, 14, 15, 16, 17, 68, 69, 70, 71, 72, 73, 74, 75, 76, 77, 78] (by decide +kernel) (by decide +kernel)
set_option maxRecDepth 20000 in
theorem gX0_placerWinsLater_X0_put : GoodIn wsX0_placerWinsLater (wsV RX0 70 RX0 yX0_put wsX0_put) := goodIn_app (goodIn_of _ (by decide +kernel)) ggX0_placerWinsLater_X0_put
set_option maxRecDepth 20000 in
theorem ggX0_placerWinsLater_X0_giverWins : GoodIn wsX0_placerWinsLater wsX0_giverWins := goodIn_r _ [60, 29, 30, 31, 4, 32, 10, 33, 34, 35, 36, 37, 38, 39, 40, 41, 42, 43, 44, 45, 46, 1, 47, 48, 49, 50, 11, 51, 52, 53, 28, 2, 3, 5, 54, 55, 56, 61, 62, 63, 27, 57, 58, 59, 64, 6, 7, 8, 9, 12, 13, 14, 15, 16, 17, 65, 66, 67, 21, 22, 23, 24, 25, 26, 0, 18, 19, 20, 68, 69, 70, 71, 72, 73, 74, 75, 76, 77, 78] (by decide +kernel) (by decide +kernel)
set_option maxRecDepth 20000 in
theorem gX0_placerWinsLater_X0_giverWins : GoodIn wsX0_placerWinsLater (wsV RX0 170 RX0 yX0_giverWins wsX0_giverWins) := goodIn_app (goodIn_of _ (by decide +kernel)) ggX0_placerWinsLater_X0_giverWins
set_option maxRecDepth 20000 in
theorem ggX0_placerWinsLater_X0_lift : GoodIn wsX0_placerWinsLater wsX0_lift := goodIn_r _ [24, 1, 10, 11, 25, 26, 68, 69, 70, 71, 72, 73, 74, 75, 76, 77, 78] (by decide +kernel) (by decide +kernel)
set_option maxRecDepth 20000 in
theorem gX0_placerWinsLater_X0_lift : GoodIn wsX0_placerWinsLater (wsV RX0 167 RX0 yX0_lift wsX0_lift) := goodIn_app (goodIn_of _ (by decide +kernel)) ggX0_placerWinsLater_X0_lift
theorem dX0_placerWinsLater_0 : decode cX0_placerWinsLater 0 = .ok (.iload_n 2, 1) := by decide +kernel
theorem dX0_placerWinsLater_1 : decode cX0_placerWinsLater 1 = .ok (.iconst 3, 1) := by decide +kernel
theorem dX0_placerWinsLater_2 : decode cX0_placerWinsLater 2 = .ok (.if_icmp .ge 5, 3) := by decide +kernel
theorem dX0_placerWinsLater_5 : decode cX0_placerWinsLater 5 = .ok (.iconst 0, 1) := by decide +kernel
theorem dX0_placerWinsLater_6 : decode cX0_placerWinsLater 6 = .ok (.ireturn, 1) := by decide +kernel
theorem dX0_placerWinsLater_7 : decode cX0_placerWinsLater 7 = .ok (.iconst 0, 1) := by decide +kernel
theorem dX0_placerWinsLater_8 : decode cX0_placerWinsLater 8 = .ok (.istore_n 3, 1) := by decide +kernel
theorem dX0_placerWinsLater_9 : decode cX0_placerWinsLater 9 = .ok (.iload_n 3, 1) := by decide +kernel
theorem dX0_placerWinsLater_10 : decode cX0_placerWinsLater 10 = .ok (.bipush 16, 2) := by decide +kernel
theorem dX0_placerWinsLater_12 : decode cX0_placerWinsLater 12 = .ok (.if_icmp .ge 48, 3) := by decide +kernel
theorem dX0_placerWinsLater_15 : decode cX0_placerWinsLater 15 = .ok (.aload_n 0, 1) := by decide +kernel
theorem dX0_placerWinsLater_16 : decode cX0_placerWinsLater 16 = .ok (.getfield 16, 3) := by decide +kernel
theorem dX0_placerWinsLater_19 : decode cX0_placerWinsLater 19 = .ok (.iload_n 3, 1) := by decide +kernel
theorem dX0_placerWinsLater_20 : decode cX0_placerWinsLater 20 = .ok (.invokestatic 58, 3) := by decide +kernel
theorem dX0_placerWinsLater_23 : decode cX0_placerWinsLater 23 = .ok (.ifCond .ne 31, 3) := by decide +kernel
theorem dX0_placerWinsLater_26 : decode cX0_placerWinsLater 26 = .ok (.aload_n 0, 1) := by decide +kernel
theorem dX0_placerWinsLater_27 : decode cX0_placerWinsLater 27 = .ok (.iload_n 1, 1) := by decide +kernel
theorem dX0_placerWinsLater_28 : decode cX0_placerWinsLater 28 = .ok (.iload_n 3, 1) := by decide +kernel
theorem dX0_placerWinsLater_29 : decode cX0_placerWinsLater 29 = .ok (.invokevirtual 70, 3) := by decide +kernel
theorem dX0_placerWinsLater_32 : decode cX0_placerWinsLater 32 = .ok (.aload_n 0, 1) := by decide +kernel
theorem dX0_placerWinsLater_33 : decode cX0_placerWinsLater 33 = .ok (.iload_n 2, 1) := by decide +kernel
theorem dX0_placerWinsLater_34 : decode cX0_placerWinsLater 34 = .ok (.iconst 1, 1) := by decide +kernel
theorem dX0_placerWinsLater_35 : decode cX0_placerWinsLater 35 = .ok (.isub, 1) := by decide +kernel
theorem dX0_placerWinsLater_36 : decode cX0_placerWinsLater 36 = .ok (.invokevirtual 170, 3) := by decide +kernel
theorem dX0_placerWinsLater_39 : decode cX0_placerWinsLater 39 = .ok (.istore 4, 2) := by decide +kernel
theorem dX0_placerWinsLater_41 : decode cX0_placerWinsLater 41 = .ok (.aload_n 0, 1) := by decide +kernel
theorem dX0_placerWinsLater_42 : decode cX0_placerWinsLater 42 = .ok (.iload_n 1, 1) := by decide +kernel
theorem dX0_placerWinsLater_43 : decode cX0_placerWinsLater 43 = .ok (.iload_n 3, 1) := by decide +kernel
theorem dX0_placerWinsLater_44 : decode cX0_placerWinsLater 44 = .ok (.invokevirtual 167, 3) := by decide +kernel
theorem dX0_placerWinsLater_47 : decode cX0_placerWinsLater 47 = .ok (.iload 4, 2) := by decide +kernel
theorem dX0_placerWinsLater_49 : decode cX0_placerWinsLater 49 = .ok (.ifCond .eq 5, 3) := by decide +kernel
theorem dX0_placerWinsLater_52 : decode cX0_placerWinsLater 52 = .ok (.iconst 1, 1) := by decide +kernel
theorem dX0_placerWinsLater_53 : decode cX0_placerWinsLater 53 = .ok (.ireturn, 1) := by decide +kernel
theorem dX0_placerWinsLater_54 : decode cX0_placerWinsLater 54 = .ok (.iinc 3 1, 3) := by decide +kernel
theorem dX0_placerWinsLater_57 : decode cX0_placerWinsLater 57 = .ok (.goto (-48), 3) := by decide +kernel
theorem dX0_placerWinsLater_60 : decode cX0_placerWinsLater 60 = .ok (.iconst 0, 1) := by decide +kernel
theorem dX0_placerWinsLater_61 : decode cX0_placerWinsLater 61 = .ok (.ireturn, 1) := by decide +kernel
set_option maxRecDepth 20000 in
theorem ggX0_placerLoses_X0_has : GoodIn wsX0_placerLoses wsX0_has := goodIn_r _ [5] (by decide +kernel) (by decide +kernel)
set_option maxRecDepth 20000 in
theorem gX0_placerLoses_X0_has : GoodIn wsX0_placerLoses (va_wsS RX0 58 yX0_has wsX0_has) := goodIn_app (goodIn_of _ (by decide +kernel)) ggX0_placerLoses_X0_has
set_option maxRecDepth 20000 in
theorem ggX0_placerLoses_X0_put : GoodIn wsX0_placerLoses wsX0_put := goodIn_r _ [9, 1, 10, 11, 12, 13, 4, 14, 15, 16, 17, 68, 69, 70, 71, 72, 73, 74, 75, 76, 77, 78] (by decide +kernel) (by decide +kernel)
set_option maxRecDepth 20000 in
theorem gX0_placerLoses_X0_put : GoodIn wsX0_placerLoses (wsV RX0 70 RX0 yX0_put wsX0_put) := goodIn_app (goodIn_of _ (by decide +kernel)) ggX0_placerLoses_X0_put
set_option maxRecDepth 20000 in
theorem ggX0_placerLoses_X0_giverLoses : GoodIn wsX0_placerLoses wsX0_giverLoses := goodIn_r _ [27, 1, 28, 29, 30, 31, 4, 32, 10, 33, 34, 35, 36, 37, 38, 39, 40, 41, 42, 43, 44, 45, 46, 47, 48, 49, 50, 11, 51, 52, 53, 2, 3, 5, 54, 55, 56, 57, 58, 59, 60, 61, 62, 63, 0, 6, 7, 8, 9, 12, 13, 14, 15, 16, 17, 18, 19, 20, 21, 22, 23, 24, 25, 26, 64, 65, 66, 67, 68, 69, 70, 71, 72, 73, 74, 75, 76, 77, 78] (by decide +kernel) (by decide +kernel)
set_option maxRecDepth 20000 in
theorem gX0_placerLoses_X0_giverLoses : GoodIn wsX0_placerLoses (wsV RX0 173 RX0 yX0_giverLoses wsX0_giverLoses) := goodIn_app (goodIn_of _ (by decide +kernel)) ggX0_placerLoses_X0_giverLoses
set_option maxRecDepth 20000 in
theorem ggX0_placerLoses_X0_lift : GoodIn wsX0_placerLoses wsX0_lift := goodIn_r _ [24, 1, 10, 11, 25, 26, 68, 69, 70, 71, 72, 73, 74, 75, 76, 77, 78] (by decide +kernel) (by decide +kernel)
set_option maxRecDepth 20000 in
theorem gX0_placerLoses_X0_lift : GoodIn wsX0_placerLoses (wsV RX0 167 RX0 yX0_lift wsX0_lift) := goodIn_app (goodIn_of _ (by decide +kernel)) ggX0_placerLoses_X0_lift
theorem dX0_placerLoses_0 : decode cX0_placerLoses 0 = .ok (.iload_n 2, 1) := by decide +kernel
theorem dX0_placerLoses_1 : decode cX0_placerLoses 1 = .ok (.iconst 2, 1) := by decide +kernel
theorem dX0_placerLoses_2 : decode cX0_placerLoses 2 = .ok (.if_icmp .ge 5, 3) := by decide +kernel
theorem dX0_placerLoses_5 : decode cX0_placerLoses 5 = .ok (.iconst 0, 1) := by decide +kernel
theorem dX0_placerLoses_6 : decode cX0_placerLoses 6 = .ok (.ireturn, 1) := by decide +kernel
theorem dX0_placerLoses_7 : decode cX0_placerLoses 7 = .ok (.iconst 0, 1) := by decide +kernel
theorem dX0_placerLoses_8 : decode cX0_placerLoses 8 = .ok (.istore_n 3, 1) := by decide +kernel
theorem dX0_placerLoses_9 : decode cX0_placerLoses 9 = .ok (.iload_n 3, 1) := by decide +kernel
theorem dX0_placerLoses_10 : decode cX0_placerLoses 10 = .ok (.bipush 16, 2) := by decide +kernel
theorem dX0_placerLoses_12 : decode cX0_placerLoses 12 = .ok (.if_icmp .ge 48, 3) := by decide +kernel
theorem dX0_placerLoses_15 : decode cX0_placerLoses 15 = .ok (.aload_n 0, 1) := by decide +kernel
theorem dX0_placerLoses_16 : decode cX0_placerLoses 16 = .ok (.getfield 16, 3) := by decide +kernel
theorem dX0_placerLoses_19 : decode cX0_placerLoses 19 = .ok (.iload_n 3, 1) := by decide +kernel
theorem dX0_placerLoses_20 : decode cX0_placerLoses 20 = .ok (.invokestatic 58, 3) := by decide +kernel
theorem dX0_placerLoses_23 : decode cX0_placerLoses 23 = .ok (.ifCond .ne 31, 3) := by decide +kernel
theorem dX0_placerLoses_26 : decode cX0_placerLoses 26 = .ok (.aload_n 0, 1) := by decide +kernel
theorem dX0_placerLoses_27 : decode cX0_placerLoses 27 = .ok (.iload_n 1, 1) := by decide +kernel
theorem dX0_placerLoses_28 : decode cX0_placerLoses 28 = .ok (.iload_n 3, 1) := by decide +kernel
theorem dX0_placerLoses_29 : decode cX0_placerLoses 29 = .ok (.invokevirtual 70, 3) := by decide +kernel
theorem dX0_placerLoses_32 : decode cX0_placerLoses 32 = .ok (.aload_n 0, 1) := by decide +kernel
theorem dX0_placerLoses_33 : decode cX0_placerLoses 33 = .ok (.iload_n 2, 1) := by decide +kernel
theorem dX0_placerLoses_34 : decode cX0_placerLoses 34 = .ok (.iconst 1, 1) := by decide +kernel
theorem dX0_placerLoses_35 : decode cX0_placerLoses 35 = .ok (.isub, 1) := by decide +kernel
theorem dX0_placerLoses_36 : decode cX0_placerLoses 36 = .ok (.invokevirtual 173, 3) := by decide +kernel
theorem dX0_placerLoses_39 : decode cX0_placerLoses 39 = .ok (.istore 4, 2) := by decide +kernel
theorem dX0_placerLoses_41 : decode cX0_placerLoses 41 = .ok (.aload_n 0, 1) := by decide +kernel
theorem dX0_placerLoses_42 : decode cX0_placerLoses 42 = .ok (.iload_n 1, 1) := by decide +kernel
theorem dX0_placerLoses_43 : decode cX0_placerLoses 43 = .ok (.iload_n 3, 1) := by decide +kernel
theorem dX0_placerLoses_44 : decode cX0_placerLoses 44 = .ok (.invokevirtual 167, 3) := by decide +kernel
theorem dX0_placerLoses_47 : decode cX0_placerLoses 47 = .ok (.iload 4, 2) := by decide +kernel
theorem dX0_placerLoses_49 : decode cX0_placerLoses 49 = .ok (.ifCond .ne 5, 3) := by decide +kernel
theorem dX0_placerLoses_52 : decode cX0_placerLoses 52 = .ok (.iconst 0, 1) := by decide +kernel
theorem dX0_placerLoses_53 : decode cX0_placerLoses 53 = .ok (.ireturn, 1) := by decide +kernel
theorem dX0_placerLoses_54 : decode cX0_placerLoses 54 = .ok (.iinc 3 1, 3) := by decide +kernel
theorem dX0_placerLoses_57 : decode cX0_placerLoses 57 = .ok (.goto (-48), 3) := by decide +kernel
theorem dX0_placerLoses_60 : decode cX0_placerLoses 60 = .ok (.iconst 1, 1) := by decide +kernel
theorem dX0_placerLoses_61 : decode cX0_placerLoses 61 = .ok (.ireturn, 1) := by decide +kernel
theorem dX0_turnedSquare_0 : decode cX0_turnedSquare 0 = .ok (.iload_n 0, 1) := by decide +kernel
theorem dX0_turnedSquare_1 : decode cX0_turnedSquare 1 = .ok (.iconst 4, 1) := by decide +kernel
theorem dX0_turnedSquare_2 : decode cX0_turnedSquare 2 = .ok (.idiv, 1) := by decide +kernel
theorem dX0_turnedSquare_3 : decode cX0_turnedSquare 3 = .ok (.istore_n 2, 1) := by decide +kernel
theorem dX0_turnedSquare_4 : decode cX0_turnedSquare 4 = .ok (.iload_n 0, 1) := by decide +kernel
theorem dX0_turnedSquare_5 : decode cX0_turnedSquare 5 = .ok (.iconst 4, 1) := by decide +kernel
theorem dX0_turnedSquare_6 : decode cX0_turnedSquare 6 = .ok (.irem, 1) := by decide +kernel
theorem dX0_turnedSquare_7 : decode cX0_turnedSquare 7 = .ok (.istore_n 3, 1) := by decide +kernel
theorem dX0_turnedSquare_8 : decode cX0_turnedSquare 8 = .ok (.iload_n 1, 1) := by decide +kernel
theorem dX0_turnedSquare_9 : decode cX0_turnedSquare 9 = .ok (.iconst 1, 1) := by decide +kernel
theorem dX0_turnedSquare_10 : decode cX0_turnedSquare 10 = .ok (.iand, 1) := by decide +kernel
theorem dX0_turnedSquare_11 : decode cX0_turnedSquare 11 = .ok (.ifCond .eq 11, 3) := by decide +kernel
theorem dX0_turnedSquare_14 : decode cX0_turnedSquare 14 = .ok (.iload_n 2, 1) := by decide +kernel
theorem dX0_turnedSquare_15 : decode cX0_turnedSquare 15 = .ok (.istore 4, 2) := by decide +kernel
theorem dX0_turnedSquare_17 : decode cX0_turnedSquare 17 = .ok (.iload_n 3, 1) := by decide +kernel
theorem dX0_turnedSquare_18 : decode cX0_turnedSquare 18 = .ok (.istore_n 2, 1) := by decide +kernel
theorem dX0_turnedSquare_19 : decode cX0_turnedSquare 19 = .ok (.iload 4, 2) := by decide +kernel
theorem dX0_turnedSquare_21 : decode cX0_turnedSquare 21 = .ok (.istore_n 3, 1) := by decide +kernel
theorem dX0_turnedSquare_22 : decode cX0_turnedSquare 22 = .ok (.iload_n 1, 1) := by decide +kernel
theorem dX0_turnedSquare_23 : decode cX0_turnedSquare 23 = .ok (.iconst 2, 1) := by decide +kernel
theorem dX0_turnedSquare_24 : decode cX0_turnedSquare 24 = .ok (.iand, 1) := by decide +kernel
theorem dX0_turnedSquare_25 : decode cX0_turnedSquare 25 = .ok (.ifCond .eq 7, 3) := by decide +kernel
theorem dX0_turnedSquare_28 : decode cX0_turnedSquare 28 = .ok (.iconst 3, 1) := by decide +kernel
theorem dX0_turnedSquare_29 : decode cX0_turnedSquare 29 = .ok (.iload_n 2, 1) := by decide +kernel
theorem dX0_turnedSquare_30 : decode cX0_turnedSquare 30 = .ok (.isub, 1) := by decide +kernel
theorem dX0_turnedSquare_31 : decode cX0_turnedSquare 31 = .ok (.istore_n 2, 1) := by decide +kernel
theorem dX0_turnedSquare_32 : decode cX0_turnedSquare 32 = .ok (.iload_n 1, 1) := by decide +kernel
theorem dX0_turnedSquare_33 : decode cX0_turnedSquare 33 = .ok (.iconst 4, 1) := by decide +kernel
theorem dX0_turnedSquare_34 : decode cX0_turnedSquare 34 = .ok (.iand, 1) := by decide +kernel
theorem dX0_turnedSquare_35 : decode cX0_turnedSquare 35 = .ok (.ifCond .eq 7, 3) := by decide +kernel
theorem dX0_turnedSquare_38 : decode cX0_turnedSquare 38 = .ok (.iconst 3, 1) := by decide +kernel
theorem dX0_turnedSquare_39 : decode cX0_turnedSquare 39 = .ok (.iload_n 3, 1) := by decide +kernel
theorem dX0_turnedSquare_40 : decode cX0_turnedSquare 40 = .ok (.isub, 1) := by decide +kernel
theorem dX0_turnedSquare_41 : decode cX0_turnedSquare 41 = .ok (.istore_n 3, 1) := by decide +kernel
theorem dX0_turnedSquare_42 : decode cX0_turnedSquare 42 = .ok (.iconst 4, 1) := by decide +kernel
theorem dX0_turnedSquare_43 : decode cX0_turnedSquare 43 = .ok (.iload_n 2, 1) := by decide +kernel
theorem dX0_turnedSquare_44 : decode cX0_turnedSquare 44 = .ok (.imul, 1) := by decide +kernel
theorem dX0_turnedSquare_45 : decode cX0_turnedSquare 45 = .ok (.iload_n 3, 1) := by decide +kernel
theorem dX0_turnedSquare_46 : decode cX0_turnedSquare 46 = .ok (.iadd, 1) := by decide +kernel
theorem dX0_turnedSquare_47 : decode cX0_turnedSquare 47 = .ok (.ireturn, 1) := by decide +kernel
set_option maxRecDepth 20000 in
theorem ggX0_turned_X0_turnedSquare : GoodIn wsX0_turned wsX0_turnedSquare := goodIn_r _ [5] (by decide +kernel) (by decide +kernel)
set_option maxRecDepth 20000 in
theorem gX0_turned_X0_turnedSquare : GoodIn wsX0_turned (va_wsS RX0 182 yX0_turnedSquare wsX0_turnedSquare) := goodIn_app (goodIn_of _ (by decide +kernel)) ggX0_turned_X0_turnedSquare
theorem dX0_turned_0 : decode cX0_turned 0 = .ok (.lconst 0, 1) := by decide +kernel
theorem dX0_turned_1 : decode cX0_turned 1 = .ok (.lstore_n 3, 1) := by decide +kernel
theorem dX0_turned_2 : decode cX0_turned 2 = .ok (.iconst 0, 1) := by decide +kernel
theorem dX0_turned_3 : decode cX0_turned 3 = .ok (.istore 5, 2) := by decide +kernel
theorem dX0_turned_5 : decode cX0_turned 5 = .ok (.iload 5, 2) := by decide +kernel
theorem dX0_turned_7 : decode cX0_turned 7 = .ok (.bipush 16, 2) := by decide +kernel
theorem dX0_turned_9 : decode cX0_turned 9 = .ok (.if_icmp .ge 27, 3) := by decide +kernel
theorem dX0_turned_12 : decode cX0_turned 12 = .ok (.lload_n 3, 1) := by decide +kernel
theorem dX0_turned_13 : decode cX0_turned 13 = .ok (.lload_n 0, 1) := by decide +kernel
theorem dX0_turned_14 : decode cX0_turned 14 = .ok (.iload 5, 2) := by decide +kernel
theorem dX0_turned_16 : decode cX0_turned 16 = .ok (.lushr, 1) := by decide +kernel
theorem dX0_turned_17 : decode cX0_turned 17 = .ok (.ldc2_w 151, 3) := by decide +kernel
theorem dX0_turned_20 : decode cX0_turned 20 = .ok (.land, 1) := by decide +kernel
theorem dX0_turned_21 : decode cX0_turned 21 = .ok (.iload 5, 2) := by decide +kernel
theorem dX0_turned_23 : decode cX0_turned 23 = .ok (.iload_n 2, 1) := by decide +kernel
theorem dX0_turned_24 : decode cX0_turned 24 = .ok (.invokestatic 182, 3) := by decide +kernel
theorem dX0_turned_27 : decode cX0_turned 27 = .ok (.lshl, 1) := by decide +kernel
theorem dX0_turned_28 : decode cX0_turned 28 = .ok (.lor, 1) := by decide +kernel
theorem dX0_turned_29 : decode cX0_turned 29 = .ok (.lstore_n 3, 1) := by decide +kernel
theorem dX0_turned_30 : decode cX0_turned 30 = .ok (.iinc 5 1, 3) := by decide +kernel
theorem dX0_turned_33 : decode cX0_turned 33 = .ok (.goto (-28), 3) := by decide +kernel
theorem dX0_turned_36 : decode cX0_turned 36 = .ok (.lload_n 3, 1) := by decide +kernel
theorem dX0_turned_37 : decode cX0_turned 37 = .ok (.lreturn, 1) := by decide +kernel
set_option maxRecDepth 20000 in
theorem ggX0_levelled_X0_withOne : GoodIn wsX0_levelled wsX0_withOne := goodIn_r _ [4, 5] (by decide +kernel) (by decide +kernel)
set_option maxRecDepth 20000 in
theorem gX0_levelled_X0_withOne : GoodIn wsX0_levelled (va_wsS RX0 79 yX0_withOne wsX0_withOne) := goodIn_app (goodIn_of _ (by decide +kernel)) ggX0_levelled_X0_withOne
theorem dX0_levelled_0 : decode cX0_levelled 0 = .ok (.iload_n 2, 1) := by decide +kernel
theorem dX0_levelled_1 : decode cX0_levelled 1 = .ok (.iload_n 2, 1) := by decide +kernel
theorem dX0_levelled_2 : decode cX0_levelled 2 = .ok (.ineg, 1) := by decide +kernel
theorem dX0_levelled_3 : decode cX0_levelled 3 = .ok (.iand, 1) := by decide +kernel
theorem dX0_levelled_4 : decode cX0_levelled 4 = .ok (.istore_n 3, 1) := by decide +kernel
theorem dX0_levelled_5 : decode cX0_levelled 5 = .ok (.lload_n 0, 1) := by decide +kernel
theorem dX0_levelled_6 : decode cX0_levelled 6 = .ok (.lstore 4, 2) := by decide +kernel
theorem dX0_levelled_8 : decode cX0_levelled 8 = .ok (.iconst 0, 1) := by decide +kernel
theorem dX0_levelled_9 : decode cX0_levelled 9 = .ok (.istore 6, 2) := by decide +kernel
theorem dX0_levelled_11 : decode cX0_levelled 11 = .ok (.iload 6, 2) := by decide +kernel
theorem dX0_levelled_13 : decode cX0_levelled 13 = .ok (.iconst 4, 1) := by decide +kernel
theorem dX0_levelled_14 : decode cX0_levelled 14 = .ok (.if_icmp .ge 33, 3) := by decide +kernel
theorem dX0_levelled_17 : decode cX0_levelled 17 = .ok (.lload_n 0, 1) := by decide +kernel
theorem dX0_levelled_18 : decode cX0_levelled 18 = .ok (.iload 6, 2) := by decide +kernel
theorem dX0_levelled_20 : decode cX0_levelled 20 = .ok (.invokestatic 79, 3) := by decide +kernel
theorem dX0_levelled_23 : decode cX0_levelled 23 = .ok (.iload_n 3, 1) := by decide +kernel
theorem dX0_levelled_24 : decode cX0_levelled 24 = .ok (.iand, 1) := by decide +kernel
theorem dX0_levelled_25 : decode cX0_levelled 25 = .ok (.ifCond .eq 16, 3) := by decide +kernel
theorem dX0_levelled_28 : decode cX0_levelled 28 = .ok (.lload 4, 2) := by decide +kernel
theorem dX0_levelled_30 : decode cX0_levelled 30 = .ok (.iload_n 2, 1) := by decide +kernel
theorem dX0_levelled_31 : decode cX0_levelled 31 = .ok (.i2l, 1) := by decide +kernel
theorem dX0_levelled_32 : decode cX0_levelled 32 = .ok (.bipush 16, 2) := by decide +kernel
theorem dX0_levelled_34 : decode cX0_levelled 34 = .ok (.iload 6, 2) := by decide +kernel
theorem dX0_levelled_36 : decode cX0_levelled 36 = .ok (.imul, 1) := by decide +kernel
theorem dX0_levelled_37 : decode cX0_levelled 37 = .ok (.lshl, 1) := by decide +kernel
theorem dX0_levelled_38 : decode cX0_levelled 38 = .ok (.lxor, 1) := by decide +kernel
theorem dX0_levelled_39 : decode cX0_levelled 39 = .ok (.lstore 4, 2) := by decide +kernel
theorem dX0_levelled_41 : decode cX0_levelled 41 = .ok (.iinc 6 1, 3) := by decide +kernel
theorem dX0_levelled_44 : decode cX0_levelled 44 = .ok (.goto (-33), 3) := by decide +kernel
theorem dX0_levelled_47 : decode cX0_levelled 47 = .ok (.lload 4, 2) := by decide +kernel
theorem dX0_levelled_49 : decode cX0_levelled 49 = .ok (.lreturn, 1) := by decide +kernel
set_option maxRecDepth 20000 in
theorem ggX0_waysOfMarks_X0_turned : GoodIn wsX0_waysOfMarks wsX0_turned := goodIn_r _ [6, 7, 8, 9, 5, 10] (by decide +kernel) (by decide +kernel)
set_option maxRecDepth 20000 in
theorem gX0_waysOfMarks_X0_turned : GoodIn wsX0_waysOfMarks (va_wsS RX0 185 yX0_turned wsX0_turned) := goodIn_app (goodIn_of _ (by decide +kernel)) ggX0_waysOfMarks_X0_turned
set_option maxRecDepth 20000 in
theorem ggX0_waysOfMarks_X0_levelled : GoodIn wsX0_waysOfMarks wsX0_levelled := goodIn_r _ [13, 14, 15, 5, 16, 17] (by decide +kernel) (by decide +kernel)
set_option maxRecDepth 20000 in
theorem gX0_waysOfMarks_X0_levelled : GoodIn wsX0_waysOfMarks (va_wsS RX0 189 yX0_levelled wsX0_levelled) := goodIn_app (goodIn_of _ (by decide +kernel)) ggX0_waysOfMarks_X0_levelled
set_option maxRecDepth 20000 in
theorem ggX0_waysOfMarks_X0_withOne : GoodIn wsX0_waysOfMarks wsX0_withOne := goodIn_r _ [16, 17] (by decide +kernel) (by decide +kernel)
set_option maxRecDepth 20000 in
theorem gX0_waysOfMarks_X0_withOne : GoodIn wsX0_waysOfMarks (va_wsS RX0 79 yX0_withOne wsX0_withOne) := goodIn_app (goodIn_of _ (by decide +kernel)) ggX0_waysOfMarks_X0_withOne
set_option maxRecDepth 20000 in
theorem ggX0_waysOfMarks_X0_equalMarks : GoodIn wsX0_waysOfMarks wsX0_equalMarks := goodIn_r _ [20, 14, 15, 5, 16, 17] (by decide +kernel) (by decide +kernel)
set_option maxRecDepth 20000 in
theorem gX0_waysOfMarks_X0_equalMarks : GoodIn wsX0_waysOfMarks (va_wsS RX0 192 yX0_equalMarks wsX0_equalMarks) := goodIn_app (goodIn_of _ (by decide +kernel)) ggX0_waysOfMarks_X0_equalMarks
theorem dX0_waysOfMarks_0 : decode cX0_waysOfMarks 0 = .ok (.aload_n 0, 1) := by decide +kernel
theorem dX0_waysOfMarks_1 : decode cX0_waysOfMarks 1 = .ok (.getfield 16, 3) := by decide +kernel
theorem dX0_waysOfMarks_4 : decode cX0_waysOfMarks 4 = .ok (.i2l, 1) := by decide +kernel
theorem dX0_waysOfMarks_5 : decode cX0_waysOfMarks 5 = .ok (.iload_n 1, 1) := by decide +kernel
theorem dX0_waysOfMarks_6 : decode cX0_waysOfMarks 6 = .ok (.invokestatic 185, 3) := by decide +kernel
theorem dX0_waysOfMarks_9 : decode cX0_waysOfMarks 9 = .ok (.l2i, 1) := by decide +kernel
theorem dX0_waysOfMarks_10 : decode cX0_waysOfMarks 10 = .ok (.iload_n 2, 1) := by decide +kernel
theorem dX0_waysOfMarks_11 : decode cX0_waysOfMarks 11 = .ok (.if_icmp .eq 5, 3) := by decide +kernel
theorem dX0_waysOfMarks_14 : decode cX0_waysOfMarks 14 = .ok (.iconst 0, 1) := by decide +kernel
theorem dX0_waysOfMarks_15 : decode cX0_waysOfMarks 15 = .ok (.ireturn, 1) := by decide +kernel
theorem dX0_waysOfMarks_16 : decode cX0_waysOfMarks 16 = .ok (.iload_n 2, 1) := by decide +kernel
theorem dX0_waysOfMarks_17 : decode cX0_waysOfMarks 17 = .ok (.ifCond .ne 7, 3) := by decide +kernel
theorem dX0_waysOfMarks_20 : decode cX0_waysOfMarks 20 = .ok (.sipush 384, 3) := by decide +kernel
theorem dX0_waysOfMarks_23 : decode cX0_waysOfMarks 23 = .ok (.ireturn, 1) := by decide +kernel
theorem dX0_waysOfMarks_24 : decode cX0_waysOfMarks 24 = .ok (.aload_n 0, 1) := by decide +kernel
theorem dX0_waysOfMarks_25 : decode cX0_waysOfMarks 25 = .ok (.getfield 38, 3) := by decide +kernel
theorem dX0_waysOfMarks_28 : decode cX0_waysOfMarks 28 = .ok (.iload_n 1, 1) := by decide +kernel
theorem dX0_waysOfMarks_29 : decode cX0_waysOfMarks 29 = .ok (.invokestatic 185, 3) := by decide +kernel
theorem dX0_waysOfMarks_32 : decode cX0_waysOfMarks 32 = .ok (.iload_n 2, 1) := by decide +kernel
theorem dX0_waysOfMarks_33 : decode cX0_waysOfMarks 33 = .ok (.invokestatic 189, 3) := by decide +kernel
theorem dX0_waysOfMarks_36 : decode cX0_waysOfMarks 36 = .ok (.lstore 5, 2) := by decide +kernel
theorem dX0_waysOfMarks_38 : decode cX0_waysOfMarks 38 = .ok (.lload_n 3, 1) := by decide +kernel
theorem dX0_waysOfMarks_39 : decode cX0_waysOfMarks 39 = .ok (.iload_n 2, 1) := by decide +kernel
theorem dX0_waysOfMarks_40 : decode cX0_waysOfMarks 40 = .ok (.invokestatic 189, 3) := by decide +kernel
theorem dX0_waysOfMarks_43 : decode cX0_waysOfMarks 43 = .ok (.lstore 7, 2) := by decide +kernel
theorem dX0_waysOfMarks_45 : decode cX0_waysOfMarks 45 = .ok (.iconst 1, 1) := by decide +kernel
theorem dX0_waysOfMarks_46 : decode cX0_waysOfMarks 46 = .ok (.istore 9, 2) := by decide +kernel
theorem dX0_waysOfMarks_48 : decode cX0_waysOfMarks 48 = .ok (.iconst 0, 1) := by decide +kernel
theorem dX0_waysOfMarks_49 : decode cX0_waysOfMarks 49 = .ok (.istore 10, 2) := by decide +kernel
theorem dX0_waysOfMarks_51 : decode cX0_waysOfMarks 51 = .ok (.iload 10, 2) := by decide +kernel
theorem dX0_waysOfMarks_53 : decode cX0_waysOfMarks 53 = .ok (.iconst 4, 1) := by decide +kernel
theorem dX0_waysOfMarks_54 : decode cX0_waysOfMarks 54 = .ok (.if_icmp .ge 41, 3) := by decide +kernel
theorem dX0_waysOfMarks_57 : decode cX0_waysOfMarks 57 = .ok (.lload 5, 2) := by decide +kernel
theorem dX0_waysOfMarks_59 : decode cX0_waysOfMarks 59 = .ok (.iload 10, 2) := by decide +kernel
theorem dX0_waysOfMarks_61 : decode cX0_waysOfMarks 61 = .ok (.invokestatic 79, 3) := by decide +kernel
theorem dX0_waysOfMarks_64 : decode cX0_waysOfMarks 64 = .ok (.istore 11, 2) := by decide +kernel
theorem dX0_waysOfMarks_66 : decode cX0_waysOfMarks 66 = .ok (.iload 9, 2) := by decide +kernel
theorem dX0_waysOfMarks_68 : decode cX0_waysOfMarks 68 = .ok (.lload 7, 2) := by decide +kernel
theorem dX0_waysOfMarks_70 : decode cX0_waysOfMarks 70 = .ok (.iconst 4, 1) := by decide +kernel
theorem dX0_waysOfMarks_71 : decode cX0_waysOfMarks 71 = .ok (.iload 11, 2) := by decide +kernel
theorem dX0_waysOfMarks_73 : decode cX0_waysOfMarks 73 = .ok (.invokestatic 192, 3) := by decide +kernel
theorem dX0_waysOfMarks_76 : decode cX0_waysOfMarks 76 = .ok (.lload 5, 2) := by decide +kernel
theorem dX0_waysOfMarks_78 : decode cX0_waysOfMarks 78 = .ok (.iload 10, 2) := by decide +kernel
theorem dX0_waysOfMarks_80 : decode cX0_waysOfMarks 80 = .ok (.iload 11, 2) := by decide +kernel
theorem dX0_waysOfMarks_82 : decode cX0_waysOfMarks 82 = .ok (.invokestatic 192, 3) := by decide +kernel
theorem dX0_waysOfMarks_85 : decode cX0_waysOfMarks 85 = .ok (.isub, 1) := by decide +kernel
theorem dX0_waysOfMarks_86 : decode cX0_waysOfMarks 86 = .ok (.imul, 1) := by decide +kernel
theorem dX0_waysOfMarks_87 : decode cX0_waysOfMarks 87 = .ok (.istore 9, 2) := by decide +kernel
theorem dX0_waysOfMarks_89 : decode cX0_waysOfMarks 89 = .ok (.iinc 10 1, 3) := by decide +kernel
theorem dX0_waysOfMarks_92 : decode cX0_waysOfMarks 92 = .ok (.goto (-41), 3) := by decide +kernel
theorem dX0_waysOfMarks_95 : decode cX0_waysOfMarks 95 = .ok (.iload 9, 2) := by decide +kernel
theorem dX0_waysOfMarks_97 : decode cX0_waysOfMarks 97 = .ok (.ireturn, 1) := by decide +kernel
set_option maxRecDepth 20000 in
theorem ggX0_equalMarks_X0_withOne : GoodIn wsX0_equalMarks wsX0_withOne := goodIn_r _ [4, 5] (by decide +kernel) (by decide +kernel)
set_option maxRecDepth 20000 in
theorem gX0_equalMarks_X0_withOne : GoodIn wsX0_equalMarks (va_wsS RX0 79 yX0_withOne wsX0_withOne) := goodIn_app (goodIn_of _ (by decide +kernel)) ggX0_equalMarks_X0_withOne
theorem dX0_equalMarks_0 : decode cX0_equalMarks 0 = .ok (.iconst 0, 1) := by decide +kernel
theorem dX0_equalMarks_1 : decode cX0_equalMarks 1 = .ok (.istore 4, 2) := by decide +kernel
theorem dX0_equalMarks_3 : decode cX0_equalMarks 3 = .ok (.iconst 0, 1) := by decide +kernel
theorem dX0_equalMarks_4 : decode cX0_equalMarks 4 = .ok (.istore 5, 2) := by decide +kernel
theorem dX0_equalMarks_6 : decode cX0_equalMarks 6 = .ok (.iload 5, 2) := by decide +kernel
theorem dX0_equalMarks_8 : decode cX0_equalMarks 8 = .ok (.iload_n 2, 1) := by decide +kernel
theorem dX0_equalMarks_9 : decode cX0_equalMarks 9 = .ok (.if_icmp .ge 22, 3) := by decide +kernel
theorem dX0_equalMarks_12 : decode cX0_equalMarks 12 = .ok (.lload_n 0, 1) := by decide +kernel
theorem dX0_equalMarks_13 : decode cX0_equalMarks 13 = .ok (.iload 5, 2) := by decide +kernel
theorem dX0_equalMarks_15 : decode cX0_equalMarks 15 = .ok (.invokestatic 79, 3) := by decide +kernel
theorem dX0_equalMarks_18 : decode cX0_equalMarks 18 = .ok (.iload_n 3, 1) := by decide +kernel
theorem dX0_equalMarks_19 : decode cX0_equalMarks 19 = .ok (.if_icmp .ne 6, 3) := by decide +kernel
theorem dX0_equalMarks_22 : decode cX0_equalMarks 22 = .ok (.iinc 4 1, 3) := by decide +kernel
theorem dX0_equalMarks_25 : decode cX0_equalMarks 25 = .ok (.iinc 5 1, 3) := by decide +kernel
theorem dX0_equalMarks_28 : decode cX0_equalMarks 28 = .ok (.goto (-22), 3) := by decide +kernel
theorem dX0_equalMarks_31 : decode cX0_equalMarks 31 = .ok (.iload 4, 2) := by decide +kernel
theorem dX0_equalMarks_33 : decode cX0_equalMarks 33 = .ok (.ireturn, 1) := by decide +kernel
theorem dJ6_bitCount_0f7a4_0 : decode cJ6_bitCount_0f7a4 0 = .ok (.iload_n 0, 1) := by decide +kernel
theorem dJ6_bitCount_0f7a4_1 : decode cJ6_bitCount_0f7a4 1 = .ok (.iload_n 0, 1) := by decide +kernel
theorem dJ6_bitCount_0f7a4_2 : decode cJ6_bitCount_0f7a4 2 = .ok (.iconst 1, 1) := by decide +kernel
theorem dJ6_bitCount_0f7a4_3 : decode cJ6_bitCount_0f7a4 3 = .ok (.iushr, 1) := by decide +kernel
theorem dJ6_bitCount_0f7a4_4 : decode cJ6_bitCount_0f7a4 4 = .ok (.ldc_w 265, 3) := by decide +kernel
theorem dJ6_bitCount_0f7a4_7 : decode cJ6_bitCount_0f7a4 7 = .ok (.iand, 1) := by decide +kernel
theorem dJ6_bitCount_0f7a4_8 : decode cJ6_bitCount_0f7a4 8 = .ok (.isub, 1) := by decide +kernel
theorem dJ6_bitCount_0f7a4_9 : decode cJ6_bitCount_0f7a4 9 = .ok (.istore_n 0, 1) := by decide +kernel
theorem dJ6_bitCount_0f7a4_10 : decode cJ6_bitCount_0f7a4 10 = .ok (.iload_n 0, 1) := by decide +kernel
theorem dJ6_bitCount_0f7a4_11 : decode cJ6_bitCount_0f7a4 11 = .ok (.ldc_w 266, 3) := by decide +kernel
theorem dJ6_bitCount_0f7a4_14 : decode cJ6_bitCount_0f7a4 14 = .ok (.iand, 1) := by decide +kernel
theorem dJ6_bitCount_0f7a4_15 : decode cJ6_bitCount_0f7a4 15 = .ok (.iload_n 0, 1) := by decide +kernel
theorem dJ6_bitCount_0f7a4_16 : decode cJ6_bitCount_0f7a4 16 = .ok (.iconst 2, 1) := by decide +kernel
theorem dJ6_bitCount_0f7a4_17 : decode cJ6_bitCount_0f7a4 17 = .ok (.iushr, 1) := by decide +kernel
theorem dJ6_bitCount_0f7a4_18 : decode cJ6_bitCount_0f7a4 18 = .ok (.ldc_w 266, 3) := by decide +kernel
theorem dJ6_bitCount_0f7a4_21 : decode cJ6_bitCount_0f7a4 21 = .ok (.iand, 1) := by decide +kernel
theorem dJ6_bitCount_0f7a4_22 : decode cJ6_bitCount_0f7a4 22 = .ok (.iadd, 1) := by decide +kernel
theorem dJ6_bitCount_0f7a4_23 : decode cJ6_bitCount_0f7a4 23 = .ok (.istore_n 0, 1) := by decide +kernel
theorem dJ6_bitCount_0f7a4_24 : decode cJ6_bitCount_0f7a4 24 = .ok (.iload_n 0, 1) := by decide +kernel
theorem dJ6_bitCount_0f7a4_25 : decode cJ6_bitCount_0f7a4 25 = .ok (.iload_n 0, 1) := by decide +kernel
theorem dJ6_bitCount_0f7a4_26 : decode cJ6_bitCount_0f7a4 26 = .ok (.iconst 4, 1) := by decide +kernel
theorem dJ6_bitCount_0f7a4_27 : decode cJ6_bitCount_0f7a4 27 = .ok (.iushr, 1) := by decide +kernel
theorem dJ6_bitCount_0f7a4_28 : decode cJ6_bitCount_0f7a4 28 = .ok (.iadd, 1) := by decide +kernel
theorem dJ6_bitCount_0f7a4_29 : decode cJ6_bitCount_0f7a4 29 = .ok (.ldc_w 267, 3) := by decide +kernel
theorem dJ6_bitCount_0f7a4_32 : decode cJ6_bitCount_0f7a4 32 = .ok (.iand, 1) := by decide +kernel
theorem dJ6_bitCount_0f7a4_33 : decode cJ6_bitCount_0f7a4 33 = .ok (.istore_n 0, 1) := by decide +kernel
theorem dJ6_bitCount_0f7a4_34 : decode cJ6_bitCount_0f7a4 34 = .ok (.iload_n 0, 1) := by decide +kernel
theorem dJ6_bitCount_0f7a4_35 : decode cJ6_bitCount_0f7a4 35 = .ok (.iload_n 0, 1) := by decide +kernel
theorem dJ6_bitCount_0f7a4_36 : decode cJ6_bitCount_0f7a4 36 = .ok (.bipush 8, 2) := by decide +kernel
theorem dJ6_bitCount_0f7a4_38 : decode cJ6_bitCount_0f7a4 38 = .ok (.iushr, 1) := by decide +kernel
theorem dJ6_bitCount_0f7a4_39 : decode cJ6_bitCount_0f7a4 39 = .ok (.iadd, 1) := by decide +kernel
theorem dJ6_bitCount_0f7a4_40 : decode cJ6_bitCount_0f7a4 40 = .ok (.istore_n 0, 1) := by decide +kernel
theorem dJ6_bitCount_0f7a4_41 : decode cJ6_bitCount_0f7a4 41 = .ok (.iload_n 0, 1) := by decide +kernel
theorem dJ6_bitCount_0f7a4_42 : decode cJ6_bitCount_0f7a4 42 = .ok (.iload_n 0, 1) := by decide +kernel
theorem dJ6_bitCount_0f7a4_43 : decode cJ6_bitCount_0f7a4 43 = .ok (.bipush 16, 2) := by decide +kernel
theorem dJ6_bitCount_0f7a4_45 : decode cJ6_bitCount_0f7a4 45 = .ok (.iushr, 1) := by decide +kernel
theorem dJ6_bitCount_0f7a4_46 : decode cJ6_bitCount_0f7a4 46 = .ok (.iadd, 1) := by decide +kernel
theorem dJ6_bitCount_0f7a4_47 : decode cJ6_bitCount_0f7a4 47 = .ok (.istore_n 0, 1) := by decide +kernel
theorem dJ6_bitCount_0f7a4_48 : decode cJ6_bitCount_0f7a4 48 = .ok (.iload_n 0, 1) := by decide +kernel
theorem dJ6_bitCount_0f7a4_49 : decode cJ6_bitCount_0f7a4 49 = .ok (.bipush 63, 2) := by decide +kernel
theorem dJ6_bitCount_0f7a4_51 : decode cJ6_bitCount_0f7a4 51 = .ok (.iand, 1) := by decide +kernel
theorem dJ6_bitCount_0f7a4_52 : decode cJ6_bitCount_0f7a4 52 = .ok (.ireturn, 1) := by decide +kernel
end
section
abbrev cL_part : ByteArray := method_2_code
def yL_part : MethodName := ⟨RL, "part", "([III)I"⟩
abbrev cL_does : ByteArray := method_3_code
def yL_does : MethodName := ⟨RL, "does", "(LQuarterboard;ZI)I"⟩
abbrev cL_asks : ByteArray := method_4_code
def yL_asks : MethodName := ⟨RL, "asks", "(LQuarterboard;II)I"⟩
abbrev cL_alike : ByteArray := method_5_code
def yL_alike : MethodName := ⟨RL, "alike", "(LQuarterboard;)I"⟩
abbrev cL_square : ByteArray := method_6_code
def yL_square : MethodName := ⟨RL, "square", "(II)I"⟩
abbrev cL_shared : ByteArray := method_7_code
def yL_shared : MethodName := ⟨RL, "shared", "([II)I"⟩
abbrev cL_full : ByteArray := method_8_code
def yL_full : MethodName := ⟨RL, "full", "([II)I"⟩
abbrev cL_won : ByteArray := method_9_code
def yL_won : MethodName := ⟨RL, "won", "([II)I"⟩
abbrev cL_isOn : ByteArray := method_10_code
def yL_isOn : MethodName := ⟨RL, "isOn", "([II)Z"⟩
abbrev cL_winning : ByteArray := method_11_code
def yL_winning : MethodName := ⟨RL, "winning", "([III)I"⟩
abbrev cL_safe : ByteArray := method_12_code
def yL_safe : MethodName := ⟨RL, "safe", "([II)I"⟩
abbrev cL_lowest : ByteArray := method_13_code
def yL_lowest : MethodName := ⟨RL, "lowest", "(I)I"⟩
abbrev cL_isBoard : ByteArray := method_14_code
def yL_isBoard : MethodName := ⟨RL, "isBoard", "(LQuarterboard;[I[I)Z"⟩
abbrev cL_isSafe : ByteArray := method_15_code
def yL_isSafe : MethodName := ⟨RL, "isSafe", "(LQuarterboard;[I[I)Z"⟩
abbrev cL_isWorth : ByteArray := method_16_code
def yL_isWorth : MethodName := ⟨RL, "isWorth", "(LQuarterboard;[I[I)Z"⟩
abbrev cL_isGiven : ByteArray := method_17_code
def yL_isGiven : MethodName := ⟨RL, "isGiven", "(LQuarterboard;[I[II)Z"⟩
abbrev cL_isPlaced : ByteArray := method_18_code
def yL_isPlaced : MethodName := ⟨RL, "isPlaced", "(LQuarterboard;[I[II)Z"⟩
abbrev cL_isPlayed : ByteArray := method_19_code
def yL_isPlayed : MethodName := ⟨RL, "isPlayed", "(LQuarterboard;[I[IIZ)Z"⟩
abbrev cL_isBegun : ByteArray := method_20_code
def yL_isBegun : MethodName := ⟨RL, "isBegun", "(LQuarterboard;[I[IZ)Z"⟩
abbrev cL_law : ByteArray := code
def yL_law : MethodName := ⟨RL, "law", "([I)Z"⟩
def wsL_part : List Cond := .code yL_part cL_part 4 (some .int) :: ([.constant RL 7 (2147483647)])
def wsL_does_r1 : List Cond := [Cond.classLink RL 17 "java/lang/IndexOutOfBoundsException", Cond.classLink RL 19 "java/lang/IllegalStateException", Cond.methodLink RL 8 yX0_give, Cond.instanceMethod yX0_give, Cond.selects RX0 yX0_give yX0_give, Cond.initialized RX0, Cond.code yX0_give cX0_give 2 (some .int), Cond.classLink RX0 46 "java/lang/IndexOutOfBoundsException", Cond.initialized "java/lang/IndexOutOfBoundsException", Cond.classLink RX0 53 "java/lang/IllegalStateException", Cond.initialized "java/lang/IllegalStateException", Cond.fieldLink RX0 29 "Quarterboard" "stage" "I", Cond.fieldLink RX0 35 "Quarterboard" "used" "I", Cond.fieldLink RX0 9 "Quarterboard" "held" "I", Cond.fieldLink RX0 32 "Quarterboard" "player" "I", Cond.methodLink RX0 42 yX0_isNumber, Cond.static yX0_isNumber, Cond.code yX0_isNumber cX0_isNumber 1 (some .boolean), Cond.methodLink RX0 58 yX0_has, Cond.static yX0_has, Cond.code yX0_has cX0_has 2 (some .boolean), Cond.methodLink RL 14 yX0_place, Cond.instanceMethod yX0_place, Cond.selects RX0 yX0_place yX0_place]
def wsL_does_r2 : List Cond := [Cond.code yX0_place cX0_place 3 (some .int), Cond.fieldLink RX0 16 "Quarterboard" "filled" "I", Cond.fieldLink RX0 13 "Quarterboard" "victor" "I", Cond.constant RX0 78 (65535), Cond.methodLink RX0 70 yX0_put, Cond.instanceMethod yX0_put, Cond.selects RX0 yX0_put yX0_put, Cond.code yX0_put cX0_put 3 none, Cond.fieldLink RX0 38 "Quarterboard" "digits" "J", Cond.methodLink RX0 147 yX0_atFirstSquare, Cond.static yX0_atFirstSquare, Cond.code yX0_atFirstSquare cX0_atFirstSquare 1 (some .long), Cond.constantLong RX0 141 (2), Cond.constantLong RX0 143 (4), Cond.constantLong RX0 145 (8), Cond.methodLink RX0 74 yX0_wonLines, Cond.instanceMethod yX0_wonLines, Cond.selects RX0 yX0_wonLines yX0_wonLines, Cond.code yX0_wonLines cX0_wonLines 4 (some .int), Cond.fieldLink RX0 83 "Quarterboard" "LINES" "[I", Cond.methodLink RX0 87 yX0_lines, Cond.instanceMethod yX0_lines, Cond.selects RX0 yX0_lines yX0_lines, Cond.code yX0_lines cX0_lines 1 (some .int)]
def wsL_does_r3 : List Cond := [Cond.fieldLink RX0 25 "Quarterboard" "withBlocks" "Z", Cond.methodLink RX0 92 yX0_inCommon, Cond.instanceMethod yX0_inCommon, Cond.selects RX0 yX0_inCommon yX0_inCommon, Cond.code yX0_inCommon cX0_inCommon 6 (some .int), Cond.methodLink RX0 79 yX0_withOne, Cond.static yX0_withOne, Cond.code yX0_withOne cX0_withOne 3 (some .int)]
def wsL_does : List Cond := .codeWith yL_does cL_does 4 (some .int) [(0, 17, 18, 17), (0, 17, 22, 19)] :: ((wsL_does_r1 ++ (wsL_does_r2 ++ wsL_does_r3)) ++ wsX00 ++ (vx_atS RX0 50 "java/lang/IndexOutOfBoundsException" ["java/lang/RuntimeException", "java/lang/Exception"]).filter goodWord ++ (vx_atS RX0 57 "java/lang/IllegalStateException" ["java/lang/RuntimeException", "java/lang/Exception"]).filter goodWord)
def wsL_asks_r1 : List Cond := [Cond.classLink RL 17 "java/lang/IndexOutOfBoundsException", Cond.classLink RL 43 "java/lang/IllegalArgumentException", Cond.classLink RL 19 "java/lang/IllegalStateException", Cond.methodLink RL 21 yX0_pieceAt, Cond.instanceMethod yX0_pieceAt, Cond.selects RX0 yX0_pieceAt yX0_pieceAt, Cond.initialized RX0, Cond.code yX0_pieceAt cX0_pieceAt 4 (some .int), Cond.classLink RX0 46 "java/lang/IndexOutOfBoundsException", Cond.initialized "java/lang/IndexOutOfBoundsException", Cond.fieldLink RX0 16 "Quarterboard" "filled" "I", Cond.fieldLink RX0 38 "Quarterboard" "digits" "J", Cond.methodLink RX0 42 yX0_isNumber, Cond.static yX0_isNumber, Cond.code yX0_isNumber cX0_isNumber 1 (some .boolean), Cond.methodLink RX0 58 yX0_has, Cond.static yX0_has, Cond.code yX0_has cX0_has 2 (some .boolean), Cond.methodLink RX0 79 yX0_withOne, Cond.static yX0_withOne, Cond.code yX0_withOne cX0_withOne 3 (some .int), Cond.constant RX0 78 (65535), Cond.methodLink RL 24 yX0_onLine, Cond.instanceMethod yX0_onLine]
def wsL_asks_r2 : List Cond := [Cond.selects RX0 yX0_onLine yX0_onLine, Cond.code yX0_onLine cX0_onLine 2 (some .int), Cond.fieldLink RX0 83 "Quarterboard" "LINES" "[I", Cond.methodLink RX0 87 yX0_lines, Cond.instanceMethod yX0_lines, Cond.selects RX0 yX0_lines yX0_lines, Cond.code yX0_lines cX0_lines 1 (some .int), Cond.fieldLink RX0 25 "Quarterboard" "withBlocks" "Z", Cond.methodLink RX0 19 yJ6_bitCount_0f7a4, Cond.static yJ6_bitCount_0f7a4, Cond.initialized RJ6, Cond.code yJ6_bitCount_0f7a4 cJ6_bitCount_0f7a4 1 (some .int), Cond.constant RJ6 265 (1431655765), Cond.constant RJ6 266 (858993459), Cond.constant RJ6 267 (252645135), Cond.methodLink RL 27 yX0_shared, Cond.instanceMethod yX0_shared, Cond.selects RX0 yX0_shared yX0_shared, Cond.code yX0_shared cX0_shared 2 (some .int), Cond.methodLink RX0 92 yX0_inCommon, Cond.instanceMethod yX0_inCommon, Cond.selects RX0 yX0_inCommon yX0_inCommon, Cond.code yX0_inCommon cX0_inCommon 6 (some .int), Cond.methodLink RL 30 yX0_winning]
def wsL_asks_r3 : List Cond := [Cond.instanceMethod yX0_winning, Cond.selects RX0 yX0_winning yX0_winning, Cond.code yX0_winning cX0_winning 2 (some .int), Cond.classLink RX0 53 "java/lang/IllegalStateException", Cond.initialized "java/lang/IllegalStateException", Cond.fieldLink RX0 29 "Quarterboard" "stage" "I", Cond.fieldLink RX0 35 "Quarterboard" "used" "I", Cond.methodLink RX0 97 yX0_winningSquares, Cond.instanceMethod yX0_winningSquares, Cond.selects RX0 yX0_winningSquares yX0_winningSquares, Cond.code yX0_winningSquares cX0_winningSquares 6 (some .int), Cond.methodLink RX0 155 yX0_ownDigits, Cond.static yX0_ownDigits, Cond.code yX0_ownDigits cX0_ownDigits 1 (some .int), Cond.methodLink RX0 158 yX0_lacksOne, Cond.instanceMethod yX0_lacksOne, Cond.selects RX0 yX0_lacksOne yX0_lacksOne, Cond.code yX0_lacksOne cX0_lacksOne 3 (some .boolean), Cond.methodLink RL 33 yX0_safe, Cond.instanceMethod yX0_safe, Cond.selects RX0 yX0_safe yX0_safe, Cond.code yX0_safe cX0_safe 1 (some .int), Cond.methodLink RX0 100 yX0_safePieces, Cond.instanceMethod yX0_safePieces]
def wsL_asks_r4 : List Cond := [Cond.selects RX0 yX0_safePieces yX0_safePieces, Cond.code yX0_safePieces cX0_safePieces 4 (some .int), Cond.methodLink RX0 161 yX0_winningDigits, Cond.instanceMethod yX0_winningDigits, Cond.selects RX0 yX0_winningDigits yX0_winningDigits, Cond.code yX0_winningDigits cX0_winningDigits 4 (some .int), Cond.methodLink RL 37 yX0_worth, Cond.instanceMethod yX0_worth, Cond.selects RX0 yX0_worth yX0_worth, Cond.code yX0_worth cX0_worth 2 (some .int), Cond.classLink RX0 103 "java/lang/IllegalArgumentException", Cond.initialized "java/lang/IllegalArgumentException", Cond.fieldLink RX0 9 "Quarterboard" "held" "I", Cond.methodLink RX0 108 yX0_canLookAhead, Cond.instanceMethod yX0_canLookAhead, Cond.selects RX0 yX0_canLookAhead yX0_canLookAhead, Cond.code yX0_canLookAhead cX0_canLookAhead 3 (some .boolean), Cond.methodLink RX0 113 yX0_worthToGive, Cond.instanceMethod yX0_worthToGive, Cond.selects RX0 yX0_worthToGive yX0_worthToGive, Cond.code yX0_worthToGive cX0_worthToGive 2 (some .int), Cond.methodLink RX0 170 yX0_giverWins, Cond.instanceMethod yX0_giverWins, Cond.selects RX0 yX0_giverWins yX0_giverWins]
def wsL_asks_r5 : List Cond := [Cond.code yX0_giverWins cX0_giverWins 4 (some .boolean), Cond.methodLink RX0 179 yX0_placerLoses, Cond.instanceMethod yX0_placerLoses, Cond.selects RX0 yX0_placerLoses yX0_placerLoses, Cond.code yX0_giverLoses cX0_giverLoses 4 (some .boolean), Cond.methodLink RX0 176 yX0_placerWinsLater, Cond.instanceMethod yX0_placerWinsLater, Cond.selects RX0 yX0_placerWinsLater yX0_placerWinsLater, Cond.code yX0_placerLoses cX0_placerLoses 5 (some .boolean), Cond.methodLink RX0 70 yX0_put, Cond.instanceMethod yX0_put, Cond.selects RX0 yX0_put yX0_put, Cond.code yX0_put cX0_put 3 none, Cond.methodLink RX0 147 yX0_atFirstSquare, Cond.static yX0_atFirstSquare, Cond.code yX0_atFirstSquare cX0_atFirstSquare 1 (some .long), Cond.constantLong RX0 141 (2), Cond.constantLong RX0 143 (4), Cond.constantLong RX0 145 (8), Cond.methodLink RX0 173 yX0_giverLoses, Cond.instanceMethod yX0_giverLoses, Cond.selects RX0 yX0_giverLoses yX0_giverLoses, Cond.methodLink RX0 167 yX0_lift, Cond.instanceMethod yX0_lift]
def wsL_asks_r6 : List Cond := [Cond.selects RX0 yX0_lift yX0_lift, Cond.code yX0_lift cX0_lift 3 none, Cond.constantLong RX0 151 (281479271743489), Cond.constantLong RX0 153 (-1), Cond.code yX0_placerWinsLater cX0_placerWinsLater 5 (some .boolean), Cond.methodLink RX0 116 yX0_worthToPlace, Cond.instanceMethod yX0_worthToPlace, Cond.selects RX0 yX0_worthToPlace yX0_worthToPlace, Cond.code yX0_worthToPlace cX0_worthToPlace 3 (some .int), Cond.methodLink RL 40 yX0_best, Cond.instanceMethod yX0_best, Cond.selects RX0 yX0_best yX0_best, Cond.code yX0_best cX0_best 2 (some .int), Cond.methodLink RX0 120 yX0_bestPiece, Cond.instanceMethod yX0_bestPiece, Cond.selects RX0 yX0_bestPiece yX0_bestPiece, Cond.code yX0_bestPiece cX0_bestPiece 4 (some .int), Cond.methodLink RX0 123 yX0_bestSquare, Cond.instanceMethod yX0_bestSquare, Cond.selects RX0 yX0_bestSquare yX0_bestSquare, Cond.code yX0_bestSquare cX0_bestSquare 4 (some .int), Cond.methodLink RX0 164 yX0_worthAfterPlacing, Cond.instanceMethod yX0_worthAfterPlacing, Cond.selects RX0 yX0_worthAfterPlacing yX0_worthAfterPlacing]
def wsL_asks_r7 : List Cond := [Cond.code yX0_worthAfterPlacing cX0_worthAfterPlacing 4 (some .int)]
def wsL_asks : List Cond := .codeWith yL_asks cL_asks 4 (some .int) [(0, 81, 82, 17), (0, 81, 86, 43), (0, 81, 90, 19)] :: ((wsL_asks_r1 ++ (wsL_asks_r2 ++ (wsL_asks_r3 ++ (wsL_asks_r4 ++ (wsL_asks_r5 ++ (wsL_asks_r6 ++ wsL_asks_r7)))))) ++ wsX00 ++ (vx_atS RX0 50 "java/lang/IndexOutOfBoundsException" ["java/lang/RuntimeException", "java/lang/Exception"]).filter goodWord ++ (vx_atS RX0 57 "java/lang/IllegalStateException" ["java/lang/RuntimeException", "java/lang/Exception"]).filter goodWord ++ (vx_atS RX0 107 "java/lang/IllegalArgumentException" ["java/lang/RuntimeException", "java/lang/Exception"]).filter goodWord)
def wsL_alike_r1 : List Cond := [Cond.classLink RL 19 "java/lang/IllegalStateException", Cond.methodLink RL 45 yX0_isAlike, Cond.instanceMethod yX0_isAlike, Cond.selects RX0 yX0_isAlike yX0_isAlike, Cond.initialized RX0, Cond.code yX0_isAlike cX0_isAlike 2 (some .boolean), Cond.classLink RX0 53 "java/lang/IllegalStateException", Cond.initialized "java/lang/IllegalStateException", Cond.fieldLink RX0 126 "Quarterboard" "hasKept" "Z", Cond.fieldLink RX0 129 "Quarterboard" "keptFilled" "I", Cond.fieldLink RX0 132 "Quarterboard" "keptDigits" "J", Cond.methodLink RX0 137 yX0_waysOfMarks, Cond.instanceMethod yX0_waysOfMarks, Cond.selects RX0 yX0_waysOfMarks yX0_waysOfMarks, Cond.code yX0_waysOfMarks cX0_waysOfMarks 12 (some .int), Cond.fieldLink RX0 16 "Quarterboard" "filled" "I", Cond.fieldLink RX0 38 "Quarterboard" "digits" "J", Cond.methodLink RX0 185 yX0_turned, Cond.static yX0_turned, Cond.code yX0_turned cX0_turned 6 (some .long), Cond.constantLong RX0 151 (281479271743489), Cond.methodLink RX0 182 yX0_turnedSquare, Cond.static yX0_turnedSquare, Cond.code yX0_turnedSquare cX0_turnedSquare 5 (some .int)]
def wsL_alike_r2 : List Cond := [Cond.methodLink RX0 189 yX0_levelled, Cond.static yX0_levelled, Cond.code yX0_levelled cX0_levelled 7 (some .long), Cond.methodLink RX0 79 yX0_withOne, Cond.static yX0_withOne, Cond.code yX0_withOne cX0_withOne 3 (some .int), Cond.constant RX0 78 (65535), Cond.methodLink RX0 192 yX0_equalMarks, Cond.static yX0_equalMarks, Cond.code yX0_equalMarks cX0_equalMarks 6 (some .int)]
def wsL_alike : List Cond := .codeWith yL_alike cL_alike 2 (some .int) [(0, 12, 13, 19)] :: ((wsL_alike_r1 ++ wsL_alike_r2) ++ wsX00 ++ (vx_atS RX0 57 "java/lang/IllegalStateException" ["java/lang/RuntimeException", "java/lang/Exception"]).filter goodWord)
def wsL_square : List Cond := .code yL_square cL_square 2 (some .int) :: ([])
def wsL_shared : List Cond := .code yL_shared cL_shared 6 (some .int) :: ([.methodLink RL 49 yL_square, .static yL_square, .initialized RL, .code yL_square cL_square 2 (some .int)])
def wsL_full : List Cond := .code yL_full cL_full 4 (some .int) :: ([.methodLink RL 49 yL_square, .static yL_square, .initialized RL, .code yL_square cL_square 2 (some .int)])
def wsL_won : List Cond := .code yL_won cL_won 4 (some .int) :: ([.methodLink RL 55 yL_full, .static yL_full, .initialized RL, .code yL_full cL_full 4 (some .int), .methodLink RL 49 yL_square, .static yL_square, .code yL_square cL_square 2 (some .int), .methodLink RL 59 yL_shared, .static yL_shared, .code yL_shared cL_shared 6 (some .int)])
def wsL_isOn : List Cond := .code yL_isOn cL_isOn 4 (some .boolean) :: ([])
def wsL_winning : List Cond := .code yL_winning cL_winning 5 (some .int) :: ([.methodLink RL 61 yL_won, .static yL_won, .initialized RL, .code yL_won cL_won 4 (some .int), .methodLink RL 55 yL_full, .static yL_full, .code yL_full cL_full 4 (some .int), .methodLink RL 49 yL_square, .static yL_square, .code yL_square cL_square 2 (some .int), .methodLink RL 59 yL_shared, .static yL_shared, .code yL_shared cL_shared 6 (some .int)])
def wsL_safe : List Cond := .code yL_safe cL_safe 4 (some .int) :: ([.methodLink RL 64 yL_isOn, .static yL_isOn, .initialized RL, .code yL_isOn cL_isOn 4 (some .boolean), .methodLink RL 68 yL_winning, .static yL_winning, .code yL_winning cL_winning 5 (some .int), .methodLink RL 61 yL_won, .static yL_won, .code yL_won cL_won 4 (some .int), .methodLink RL 55 yL_full, .static yL_full, .code yL_full cL_full 4 (some .int), .methodLink RL 49 yL_square, .static yL_square, .code yL_square cL_square 2 (some .int), .methodLink RL 59 yL_shared, .static yL_shared, .code yL_shared cL_shared 6 (some .int)])
def wsL_lowest : List Cond := .code yL_lowest cL_lowest 2 (some .int) :: ([])
def wsL_isBoard_r1 : List Cond := [Cond.methodLink RL 71 yX0_lines, Cond.instanceMethod yX0_lines, Cond.selects RX0 yX0_lines yX0_lines, Cond.initialized RX0, Cond.code yX0_lines cX0_lines 1 (some .int), Cond.fieldLink RX0 25 "Quarterboard" "withBlocks" "Z", Cond.fieldLink RX0 83 "Quarterboard" "LINES" "[I", Cond.methodLink RL 74 yX0_phase, Cond.instanceMethod yX0_phase, Cond.selects RX0 yX0_phase yX0_phase, Cond.code yX0_phase cX0_phase 1 (some .int), Cond.fieldLink RX0 29 "Quarterboard" "stage" "I", Cond.methodLink RL 77 yX0_onTurn, Cond.instanceMethod yX0_onTurn, Cond.selects RX0 yX0_onTurn yX0_onTurn, Cond.code yX0_onTurn cX0_onTurn 1 (some .int), Cond.fieldLink RX0 32 "Quarterboard" "player" "I", Cond.methodLink RL 80 yX0_hand, Cond.instanceMethod yX0_hand, Cond.selects RX0 yX0_hand yX0_hand, Cond.code yX0_hand cX0_hand 1 (some .int), Cond.fieldLink RX0 9 "Quarterboard" "held" "I", Cond.methodLink RL 83 yX0_placed, Cond.instanceMethod yX0_placed]
def wsL_isBoard_r2 : List Cond := [Cond.selects RX0 yX0_placed yX0_placed, Cond.code yX0_placed cX0_placed 1 (some .int), Cond.fieldLink RX0 16 "Quarterboard" "filled" "I", Cond.methodLink RX0 19 yJ6_bitCount_0f7a4, Cond.static yJ6_bitCount_0f7a4, Cond.initialized RJ6, Cond.code yJ6_bitCount_0f7a4 cJ6_bitCount_0f7a4 1 (some .int), Cond.constant RJ6 265 (1431655765), Cond.constant RJ6 266 (858993459), Cond.constant RJ6 267 (252645135), Cond.methodLink RL 86 yX0_winner, Cond.instanceMethod yX0_winner, Cond.selects RX0 yX0_winner yX0_winner, Cond.code yX0_winner cX0_winner 1 (some .int), Cond.fieldLink RX0 13 "Quarterboard" "victor" "I", Cond.methodLink RL 21 yX0_pieceAt, Cond.instanceMethod yX0_pieceAt, Cond.selects RX0 yX0_pieceAt yX0_pieceAt, Cond.code yX0_pieceAt cX0_pieceAt 4 (some .int), Cond.classLink RX0 46 "java/lang/IndexOutOfBoundsException", Cond.initialized "java/lang/IndexOutOfBoundsException", Cond.fieldLink RX0 38 "Quarterboard" "digits" "J", Cond.methodLink RX0 42 yX0_isNumber, Cond.static yX0_isNumber]
def wsL_isBoard_r3 : List Cond := [Cond.code yX0_isNumber cX0_isNumber 1 (some .boolean), Cond.methodLink RX0 58 yX0_has, Cond.static yX0_has, Cond.code yX0_has cX0_has 2 (some .boolean), Cond.methodLink RX0 79 yX0_withOne, Cond.static yX0_withOne, Cond.code yX0_withOne cX0_withOne 3 (some .int), Cond.constant RX0 78 (65535), Cond.methodLink RL 24 yX0_onLine, Cond.instanceMethod yX0_onLine, Cond.selects RX0 yX0_onLine yX0_onLine, Cond.code yX0_onLine cX0_onLine 2 (some .int), Cond.methodLink RX0 87 yX0_lines, Cond.methodLink RL 55 yL_full, Cond.static yL_full, Cond.initialized RL, Cond.code yL_full cL_full 4 (some .int), Cond.methodLink RL 49 yL_square, Cond.static yL_square, Cond.code yL_square cL_square 2 (some .int), Cond.methodLink RL 27 yX0_shared, Cond.instanceMethod yX0_shared, Cond.selects RX0 yX0_shared yX0_shared, Cond.code yX0_shared cX0_shared 2 (some .int)]
def wsL_isBoard_r4 : List Cond := [Cond.methodLink RX0 92 yX0_inCommon, Cond.instanceMethod yX0_inCommon, Cond.selects RX0 yX0_inCommon yX0_inCommon, Cond.code yX0_inCommon cX0_inCommon 6 (some .int), Cond.methodLink RL 59 yL_shared, Cond.static yL_shared, Cond.code yL_shared cL_shared 6 (some .int), Cond.methodLink RL 89 yL_asks, Cond.static yL_asks, Cond.codeWith yL_asks cL_asks 4 (some .int) [(0, 81, 82, 17), (0, 81, 86, 43), (0, 81, 90, 19)], Cond.classLink RL 17 "java/lang/IndexOutOfBoundsException", Cond.classLink RL 43 "java/lang/IllegalArgumentException", Cond.classLink RL 19 "java/lang/IllegalStateException", Cond.methodLink RL 30 yX0_winning, Cond.instanceMethod yX0_winning, Cond.selects RX0 yX0_winning yX0_winning, Cond.code yX0_winning cX0_winning 2 (some .int), Cond.classLink RX0 53 "java/lang/IllegalStateException", Cond.initialized "java/lang/IllegalStateException", Cond.fieldLink RX0 35 "Quarterboard" "used" "I", Cond.methodLink RX0 97 yX0_winningSquares, Cond.instanceMethod yX0_winningSquares, Cond.selects RX0 yX0_winningSquares yX0_winningSquares, Cond.code yX0_winningSquares cX0_winningSquares 6 (some .int)]
def wsL_isBoard_r5 : List Cond := [Cond.methodLink RX0 155 yX0_ownDigits, Cond.static yX0_ownDigits, Cond.code yX0_ownDigits cX0_ownDigits 1 (some .int), Cond.methodLink RX0 158 yX0_lacksOne, Cond.instanceMethod yX0_lacksOne, Cond.selects RX0 yX0_lacksOne yX0_lacksOne, Cond.code yX0_lacksOne cX0_lacksOne 3 (some .boolean), Cond.methodLink RL 33 yX0_safe, Cond.instanceMethod yX0_safe, Cond.selects RX0 yX0_safe yX0_safe, Cond.code yX0_safe cX0_safe 1 (some .int), Cond.methodLink RX0 100 yX0_safePieces, Cond.instanceMethod yX0_safePieces, Cond.selects RX0 yX0_safePieces yX0_safePieces, Cond.code yX0_safePieces cX0_safePieces 4 (some .int), Cond.methodLink RX0 161 yX0_winningDigits, Cond.instanceMethod yX0_winningDigits, Cond.selects RX0 yX0_winningDigits yX0_winningDigits, Cond.code yX0_winningDigits cX0_winningDigits 4 (some .int), Cond.methodLink RL 37 yX0_worth, Cond.instanceMethod yX0_worth, Cond.selects RX0 yX0_worth yX0_worth, Cond.code yX0_worth cX0_worth 2 (some .int), Cond.classLink RX0 103 "java/lang/IllegalArgumentException"]
def wsL_isBoard_r6 : List Cond := [Cond.initialized "java/lang/IllegalArgumentException", Cond.methodLink RX0 108 yX0_canLookAhead, Cond.instanceMethod yX0_canLookAhead, Cond.selects RX0 yX0_canLookAhead yX0_canLookAhead, Cond.code yX0_canLookAhead cX0_canLookAhead 3 (some .boolean), Cond.methodLink RX0 113 yX0_worthToGive, Cond.instanceMethod yX0_worthToGive, Cond.selects RX0 yX0_worthToGive yX0_worthToGive, Cond.code yX0_worthToGive cX0_worthToGive 2 (some .int), Cond.methodLink RX0 170 yX0_giverWins, Cond.instanceMethod yX0_giverWins, Cond.selects RX0 yX0_giverWins yX0_giverWins, Cond.code yX0_giverWins cX0_giverWins 4 (some .boolean), Cond.methodLink RX0 179 yX0_placerLoses, Cond.instanceMethod yX0_placerLoses, Cond.selects RX0 yX0_placerLoses yX0_placerLoses, Cond.code yX0_giverLoses cX0_giverLoses 4 (some .boolean), Cond.methodLink RX0 176 yX0_placerWinsLater, Cond.instanceMethod yX0_placerWinsLater, Cond.selects RX0 yX0_placerWinsLater yX0_placerWinsLater, Cond.code yX0_placerLoses cX0_placerLoses 5 (some .boolean), Cond.methodLink RX0 70 yX0_put, Cond.instanceMethod yX0_put, Cond.selects RX0 yX0_put yX0_put]
def wsL_isBoard_r7 : List Cond := [Cond.code yX0_put cX0_put 3 none, Cond.methodLink RX0 147 yX0_atFirstSquare, Cond.static yX0_atFirstSquare, Cond.code yX0_atFirstSquare cX0_atFirstSquare 1 (some .long), Cond.constantLong RX0 141 (2), Cond.constantLong RX0 143 (4), Cond.constantLong RX0 145 (8), Cond.methodLink RX0 173 yX0_giverLoses, Cond.instanceMethod yX0_giverLoses, Cond.selects RX0 yX0_giverLoses yX0_giverLoses, Cond.methodLink RX0 167 yX0_lift, Cond.instanceMethod yX0_lift, Cond.selects RX0 yX0_lift yX0_lift, Cond.code yX0_lift cX0_lift 3 none, Cond.constantLong RX0 151 (281479271743489), Cond.constantLong RX0 153 (-1), Cond.code yX0_placerWinsLater cX0_placerWinsLater 5 (some .boolean), Cond.methodLink RX0 116 yX0_worthToPlace, Cond.instanceMethod yX0_worthToPlace, Cond.selects RX0 yX0_worthToPlace yX0_worthToPlace, Cond.code yX0_worthToPlace cX0_worthToPlace 3 (some .int), Cond.methodLink RL 40 yX0_best, Cond.instanceMethod yX0_best, Cond.selects RX0 yX0_best yX0_best]
def wsL_isBoard_r8 : List Cond := [Cond.code yX0_best cX0_best 2 (some .int), Cond.methodLink RX0 120 yX0_bestPiece, Cond.instanceMethod yX0_bestPiece, Cond.selects RX0 yX0_bestPiece yX0_bestPiece, Cond.code yX0_bestPiece cX0_bestPiece 4 (some .int), Cond.methodLink RX0 123 yX0_bestSquare, Cond.instanceMethod yX0_bestSquare, Cond.selects RX0 yX0_bestSquare yX0_bestSquare, Cond.code yX0_bestSquare cX0_bestSquare 4 (some .int), Cond.methodLink RX0 164 yX0_worthAfterPlacing, Cond.instanceMethod yX0_worthAfterPlacing, Cond.selects RX0 yX0_worthAfterPlacing yX0_worthAfterPlacing, Cond.code yX0_worthAfterPlacing cX0_worthAfterPlacing 4 (some .int)]
def wsL_isBoard : List Cond := .code yL_isBoard cL_isBoard 5 (some .boolean) :: ((wsL_isBoard_r1 ++ (wsL_isBoard_r2 ++ (wsL_isBoard_r3 ++ (wsL_isBoard_r4 ++ (wsL_isBoard_r5 ++ (wsL_isBoard_r6 ++ (wsL_isBoard_r7 ++ wsL_isBoard_r8))))))) ++ wsX00 ++ (vx_atS RX0 50 "java/lang/IndexOutOfBoundsException" ["java/lang/RuntimeException", "java/lang/Exception"]).filter goodWord ++ (vx_atS RX0 57 "java/lang/IllegalStateException" ["java/lang/RuntimeException", "java/lang/Exception"]).filter goodWord ++ (vx_atS RX0 107 "java/lang/IllegalArgumentException" ["java/lang/RuntimeException", "java/lang/Exception"]).filter goodWord)
def wsL_isSafe_r1 : List Cond := [Cond.methodLink RL 89 yL_asks, Cond.static yL_asks, Cond.initialized RL, Cond.codeWith yL_asks cL_asks 4 (some .int) [(0, 81, 82, 17), (0, 81, 86, 43), (0, 81, 90, 19)], Cond.classLink RL 17 "java/lang/IndexOutOfBoundsException", Cond.classLink RL 43 "java/lang/IllegalArgumentException", Cond.classLink RL 19 "java/lang/IllegalStateException", Cond.methodLink RL 21 yX0_pieceAt, Cond.instanceMethod yX0_pieceAt, Cond.selects RX0 yX0_pieceAt yX0_pieceAt, Cond.initialized RX0, Cond.code yX0_pieceAt cX0_pieceAt 4 (some .int), Cond.classLink RX0 46 "java/lang/IndexOutOfBoundsException", Cond.initialized "java/lang/IndexOutOfBoundsException", Cond.fieldLink RX0 16 "Quarterboard" "filled" "I", Cond.fieldLink RX0 38 "Quarterboard" "digits" "J", Cond.methodLink RX0 42 yX0_isNumber, Cond.static yX0_isNumber, Cond.code yX0_isNumber cX0_isNumber 1 (some .boolean), Cond.methodLink RX0 58 yX0_has, Cond.static yX0_has, Cond.code yX0_has cX0_has 2 (some .boolean), Cond.methodLink RX0 79 yX0_withOne, Cond.static yX0_withOne]
def wsL_isSafe_r2 : List Cond := [Cond.code yX0_withOne cX0_withOne 3 (some .int), Cond.constant RX0 78 (65535), Cond.methodLink RL 24 yX0_onLine, Cond.instanceMethod yX0_onLine, Cond.selects RX0 yX0_onLine yX0_onLine, Cond.code yX0_onLine cX0_onLine 2 (some .int), Cond.fieldLink RX0 83 "Quarterboard" "LINES" "[I", Cond.methodLink RX0 87 yX0_lines, Cond.instanceMethod yX0_lines, Cond.selects RX0 yX0_lines yX0_lines, Cond.code yX0_lines cX0_lines 1 (some .int), Cond.fieldLink RX0 25 "Quarterboard" "withBlocks" "Z", Cond.methodLink RX0 19 yJ6_bitCount_0f7a4, Cond.static yJ6_bitCount_0f7a4, Cond.initialized RJ6, Cond.code yJ6_bitCount_0f7a4 cJ6_bitCount_0f7a4 1 (some .int), Cond.constant RJ6 265 (1431655765), Cond.constant RJ6 266 (858993459), Cond.constant RJ6 267 (252645135), Cond.methodLink RL 27 yX0_shared, Cond.instanceMethod yX0_shared, Cond.selects RX0 yX0_shared yX0_shared, Cond.code yX0_shared cX0_shared 2 (some .int), Cond.methodLink RX0 92 yX0_inCommon]
def wsL_isSafe_r3 : List Cond := [Cond.instanceMethod yX0_inCommon, Cond.selects RX0 yX0_inCommon yX0_inCommon, Cond.code yX0_inCommon cX0_inCommon 6 (some .int), Cond.methodLink RL 30 yX0_winning, Cond.instanceMethod yX0_winning, Cond.selects RX0 yX0_winning yX0_winning, Cond.code yX0_winning cX0_winning 2 (some .int), Cond.classLink RX0 53 "java/lang/IllegalStateException", Cond.initialized "java/lang/IllegalStateException", Cond.fieldLink RX0 29 "Quarterboard" "stage" "I", Cond.fieldLink RX0 35 "Quarterboard" "used" "I", Cond.methodLink RX0 97 yX0_winningSquares, Cond.instanceMethod yX0_winningSquares, Cond.selects RX0 yX0_winningSquares yX0_winningSquares, Cond.code yX0_winningSquares cX0_winningSquares 6 (some .int), Cond.methodLink RX0 155 yX0_ownDigits, Cond.static yX0_ownDigits, Cond.code yX0_ownDigits cX0_ownDigits 1 (some .int), Cond.methodLink RX0 158 yX0_lacksOne, Cond.instanceMethod yX0_lacksOne, Cond.selects RX0 yX0_lacksOne yX0_lacksOne, Cond.code yX0_lacksOne cX0_lacksOne 3 (some .boolean), Cond.methodLink RL 33 yX0_safe, Cond.instanceMethod yX0_safe]
def wsL_isSafe_r4 : List Cond := [Cond.selects RX0 yX0_safe yX0_safe, Cond.code yX0_safe cX0_safe 1 (some .int), Cond.methodLink RX0 100 yX0_safePieces, Cond.instanceMethod yX0_safePieces, Cond.selects RX0 yX0_safePieces yX0_safePieces, Cond.code yX0_safePieces cX0_safePieces 4 (some .int), Cond.methodLink RX0 161 yX0_winningDigits, Cond.instanceMethod yX0_winningDigits, Cond.selects RX0 yX0_winningDigits yX0_winningDigits, Cond.code yX0_winningDigits cX0_winningDigits 4 (some .int), Cond.methodLink RL 37 yX0_worth, Cond.instanceMethod yX0_worth, Cond.selects RX0 yX0_worth yX0_worth, Cond.code yX0_worth cX0_worth 2 (some .int), Cond.classLink RX0 103 "java/lang/IllegalArgumentException", Cond.initialized "java/lang/IllegalArgumentException", Cond.fieldLink RX0 9 "Quarterboard" "held" "I", Cond.methodLink RX0 108 yX0_canLookAhead, Cond.instanceMethod yX0_canLookAhead, Cond.selects RX0 yX0_canLookAhead yX0_canLookAhead, Cond.code yX0_canLookAhead cX0_canLookAhead 3 (some .boolean), Cond.methodLink RX0 113 yX0_worthToGive, Cond.instanceMethod yX0_worthToGive, Cond.selects RX0 yX0_worthToGive yX0_worthToGive]
def wsL_isSafe_r5 : List Cond := [Cond.code yX0_worthToGive cX0_worthToGive 2 (some .int), Cond.methodLink RX0 170 yX0_giverWins, Cond.instanceMethod yX0_giverWins, Cond.selects RX0 yX0_giverWins yX0_giverWins, Cond.code yX0_giverWins cX0_giverWins 4 (some .boolean), Cond.methodLink RX0 179 yX0_placerLoses, Cond.instanceMethod yX0_placerLoses, Cond.selects RX0 yX0_placerLoses yX0_placerLoses, Cond.code yX0_giverLoses cX0_giverLoses 4 (some .boolean), Cond.methodLink RX0 176 yX0_placerWinsLater, Cond.instanceMethod yX0_placerWinsLater, Cond.selects RX0 yX0_placerWinsLater yX0_placerWinsLater, Cond.code yX0_placerLoses cX0_placerLoses 5 (some .boolean), Cond.methodLink RX0 70 yX0_put, Cond.instanceMethod yX0_put, Cond.selects RX0 yX0_put yX0_put, Cond.code yX0_put cX0_put 3 none, Cond.methodLink RX0 147 yX0_atFirstSquare, Cond.static yX0_atFirstSquare, Cond.code yX0_atFirstSquare cX0_atFirstSquare 1 (some .long), Cond.constantLong RX0 141 (2), Cond.constantLong RX0 143 (4), Cond.constantLong RX0 145 (8), Cond.methodLink RX0 173 yX0_giverLoses]
def wsL_isSafe_r6 : List Cond := [Cond.instanceMethod yX0_giverLoses, Cond.selects RX0 yX0_giverLoses yX0_giverLoses, Cond.methodLink RX0 167 yX0_lift, Cond.instanceMethod yX0_lift, Cond.selects RX0 yX0_lift yX0_lift, Cond.code yX0_lift cX0_lift 3 none, Cond.constantLong RX0 151 (281479271743489), Cond.constantLong RX0 153 (-1), Cond.code yX0_placerWinsLater cX0_placerWinsLater 5 (some .boolean), Cond.methodLink RX0 116 yX0_worthToPlace, Cond.instanceMethod yX0_worthToPlace, Cond.selects RX0 yX0_worthToPlace yX0_worthToPlace, Cond.code yX0_worthToPlace cX0_worthToPlace 3 (some .int), Cond.methodLink RL 40 yX0_best, Cond.instanceMethod yX0_best, Cond.selects RX0 yX0_best yX0_best, Cond.code yX0_best cX0_best 2 (some .int), Cond.methodLink RX0 120 yX0_bestPiece, Cond.instanceMethod yX0_bestPiece, Cond.selects RX0 yX0_bestPiece yX0_bestPiece, Cond.code yX0_bestPiece cX0_bestPiece 4 (some .int), Cond.methodLink RX0 123 yX0_bestSquare, Cond.instanceMethod yX0_bestSquare, Cond.selects RX0 yX0_bestSquare yX0_bestSquare]
def wsL_isSafe_r7 : List Cond := [Cond.code yX0_bestSquare cX0_bestSquare 4 (some .int), Cond.methodLink RX0 164 yX0_worthAfterPlacing, Cond.instanceMethod yX0_worthAfterPlacing, Cond.selects RX0 yX0_worthAfterPlacing yX0_worthAfterPlacing, Cond.code yX0_worthAfterPlacing cX0_worthAfterPlacing 4 (some .int), Cond.methodLink RL 64 yL_isOn, Cond.static yL_isOn, Cond.code yL_isOn cL_isOn 4 (some .boolean), Cond.methodLink RL 68 yL_winning, Cond.static yL_winning, Cond.code yL_winning cL_winning 5 (some .int), Cond.methodLink RL 61 yL_won, Cond.static yL_won, Cond.code yL_won cL_won 4 (some .int), Cond.methodLink RL 55 yL_full, Cond.static yL_full, Cond.code yL_full cL_full 4 (some .int), Cond.methodLink RL 49 yL_square, Cond.static yL_square, Cond.code yL_square cL_square 2 (some .int), Cond.methodLink RL 59 yL_shared, Cond.static yL_shared, Cond.code yL_shared cL_shared 6 (some .int), Cond.methodLink RL 93 yL_safe]
def wsL_isSafe_r8 : List Cond := [Cond.static yL_safe, Cond.code yL_safe cL_safe 4 (some .int)]
def wsL_isSafe : List Cond := .code yL_isSafe cL_isSafe 5 (some .boolean) :: ((wsL_isSafe_r1 ++ (wsL_isSafe_r2 ++ (wsL_isSafe_r3 ++ (wsL_isSafe_r4 ++ (wsL_isSafe_r5 ++ (wsL_isSafe_r6 ++ (wsL_isSafe_r7 ++ wsL_isSafe_r8))))))) ++ wsX00 ++ (vx_atS RX0 50 "java/lang/IndexOutOfBoundsException" ["java/lang/RuntimeException", "java/lang/Exception"]).filter goodWord ++ (vx_atS RX0 57 "java/lang/IllegalStateException" ["java/lang/RuntimeException", "java/lang/Exception"]).filter goodWord ++ (vx_atS RX0 107 "java/lang/IllegalArgumentException" ["java/lang/RuntimeException", "java/lang/Exception"]).filter goodWord)
def wsL_isWorth_r1 : List Cond := [Cond.methodLink RL 89 yL_asks, Cond.static yL_asks, Cond.initialized RL, Cond.codeWith yL_asks cL_asks 4 (some .int) [(0, 81, 82, 17), (0, 81, 86, 43), (0, 81, 90, 19)], Cond.classLink RL 17 "java/lang/IndexOutOfBoundsException", Cond.classLink RL 43 "java/lang/IllegalArgumentException", Cond.classLink RL 19 "java/lang/IllegalStateException", Cond.methodLink RL 21 yX0_pieceAt, Cond.instanceMethod yX0_pieceAt, Cond.selects RX0 yX0_pieceAt yX0_pieceAt, Cond.initialized RX0, Cond.code yX0_pieceAt cX0_pieceAt 4 (some .int), Cond.classLink RX0 46 "java/lang/IndexOutOfBoundsException", Cond.initialized "java/lang/IndexOutOfBoundsException", Cond.fieldLink RX0 16 "Quarterboard" "filled" "I", Cond.fieldLink RX0 38 "Quarterboard" "digits" "J", Cond.methodLink RX0 42 yX0_isNumber, Cond.static yX0_isNumber, Cond.code yX0_isNumber cX0_isNumber 1 (some .boolean), Cond.methodLink RX0 58 yX0_has, Cond.static yX0_has, Cond.code yX0_has cX0_has 2 (some .boolean), Cond.methodLink RX0 79 yX0_withOne, Cond.static yX0_withOne]
def wsL_isWorth_r2 : List Cond := [Cond.code yX0_withOne cX0_withOne 3 (some .int), Cond.constant RX0 78 (65535), Cond.methodLink RL 24 yX0_onLine, Cond.instanceMethod yX0_onLine, Cond.selects RX0 yX0_onLine yX0_onLine, Cond.code yX0_onLine cX0_onLine 2 (some .int), Cond.fieldLink RX0 83 "Quarterboard" "LINES" "[I", Cond.methodLink RX0 87 yX0_lines, Cond.instanceMethod yX0_lines, Cond.selects RX0 yX0_lines yX0_lines, Cond.code yX0_lines cX0_lines 1 (some .int), Cond.fieldLink RX0 25 "Quarterboard" "withBlocks" "Z", Cond.methodLink RX0 19 yJ6_bitCount_0f7a4, Cond.static yJ6_bitCount_0f7a4, Cond.initialized RJ6, Cond.code yJ6_bitCount_0f7a4 cJ6_bitCount_0f7a4 1 (some .int), Cond.constant RJ6 265 (1431655765), Cond.constant RJ6 266 (858993459), Cond.constant RJ6 267 (252645135), Cond.methodLink RL 27 yX0_shared, Cond.instanceMethod yX0_shared, Cond.selects RX0 yX0_shared yX0_shared, Cond.code yX0_shared cX0_shared 2 (some .int), Cond.methodLink RX0 92 yX0_inCommon]
def wsL_isWorth_r3 : List Cond := [Cond.instanceMethod yX0_inCommon, Cond.selects RX0 yX0_inCommon yX0_inCommon, Cond.code yX0_inCommon cX0_inCommon 6 (some .int), Cond.methodLink RL 30 yX0_winning, Cond.instanceMethod yX0_winning, Cond.selects RX0 yX0_winning yX0_winning, Cond.code yX0_winning cX0_winning 2 (some .int), Cond.classLink RX0 53 "java/lang/IllegalStateException", Cond.initialized "java/lang/IllegalStateException", Cond.fieldLink RX0 29 "Quarterboard" "stage" "I", Cond.fieldLink RX0 35 "Quarterboard" "used" "I", Cond.methodLink RX0 97 yX0_winningSquares, Cond.instanceMethod yX0_winningSquares, Cond.selects RX0 yX0_winningSquares yX0_winningSquares, Cond.code yX0_winningSquares cX0_winningSquares 6 (some .int), Cond.methodLink RX0 155 yX0_ownDigits, Cond.static yX0_ownDigits, Cond.code yX0_ownDigits cX0_ownDigits 1 (some .int), Cond.methodLink RX0 158 yX0_lacksOne, Cond.instanceMethod yX0_lacksOne, Cond.selects RX0 yX0_lacksOne yX0_lacksOne, Cond.code yX0_lacksOne cX0_lacksOne 3 (some .boolean), Cond.methodLink RL 33 yX0_safe, Cond.instanceMethod yX0_safe]
def wsL_isWorth_r4 : List Cond := [Cond.selects RX0 yX0_safe yX0_safe, Cond.code yX0_safe cX0_safe 1 (some .int), Cond.methodLink RX0 100 yX0_safePieces, Cond.instanceMethod yX0_safePieces, Cond.selects RX0 yX0_safePieces yX0_safePieces, Cond.code yX0_safePieces cX0_safePieces 4 (some .int), Cond.methodLink RX0 161 yX0_winningDigits, Cond.instanceMethod yX0_winningDigits, Cond.selects RX0 yX0_winningDigits yX0_winningDigits, Cond.code yX0_winningDigits cX0_winningDigits 4 (some .int), Cond.methodLink RL 37 yX0_worth, Cond.instanceMethod yX0_worth, Cond.selects RX0 yX0_worth yX0_worth, Cond.code yX0_worth cX0_worth 2 (some .int), Cond.classLink RX0 103 "java/lang/IllegalArgumentException", Cond.initialized "java/lang/IllegalArgumentException", Cond.fieldLink RX0 9 "Quarterboard" "held" "I", Cond.methodLink RX0 108 yX0_canLookAhead, Cond.instanceMethod yX0_canLookAhead, Cond.selects RX0 yX0_canLookAhead yX0_canLookAhead, Cond.code yX0_canLookAhead cX0_canLookAhead 3 (some .boolean), Cond.methodLink RX0 113 yX0_worthToGive, Cond.instanceMethod yX0_worthToGive, Cond.selects RX0 yX0_worthToGive yX0_worthToGive]
def wsL_isWorth_r5 : List Cond := [Cond.code yX0_worthToGive cX0_worthToGive 2 (some .int), Cond.methodLink RX0 170 yX0_giverWins, Cond.instanceMethod yX0_giverWins, Cond.selects RX0 yX0_giverWins yX0_giverWins, Cond.code yX0_giverWins cX0_giverWins 4 (some .boolean), Cond.methodLink RX0 179 yX0_placerLoses, Cond.instanceMethod yX0_placerLoses, Cond.selects RX0 yX0_placerLoses yX0_placerLoses, Cond.code yX0_giverLoses cX0_giverLoses 4 (some .boolean), Cond.methodLink RX0 176 yX0_placerWinsLater, Cond.instanceMethod yX0_placerWinsLater, Cond.selects RX0 yX0_placerWinsLater yX0_placerWinsLater, Cond.code yX0_placerLoses cX0_placerLoses 5 (some .boolean), Cond.methodLink RX0 70 yX0_put, Cond.instanceMethod yX0_put, Cond.selects RX0 yX0_put yX0_put, Cond.code yX0_put cX0_put 3 none, Cond.methodLink RX0 147 yX0_atFirstSquare, Cond.static yX0_atFirstSquare, Cond.code yX0_atFirstSquare cX0_atFirstSquare 1 (some .long), Cond.constantLong RX0 141 (2), Cond.constantLong RX0 143 (4), Cond.constantLong RX0 145 (8), Cond.methodLink RX0 173 yX0_giverLoses]
def wsL_isWorth_r6 : List Cond := [Cond.instanceMethod yX0_giverLoses, Cond.selects RX0 yX0_giverLoses yX0_giverLoses, Cond.methodLink RX0 167 yX0_lift, Cond.instanceMethod yX0_lift, Cond.selects RX0 yX0_lift yX0_lift, Cond.code yX0_lift cX0_lift 3 none, Cond.constantLong RX0 151 (281479271743489), Cond.constantLong RX0 153 (-1), Cond.code yX0_placerWinsLater cX0_placerWinsLater 5 (some .boolean), Cond.methodLink RX0 116 yX0_worthToPlace, Cond.instanceMethod yX0_worthToPlace, Cond.selects RX0 yX0_worthToPlace yX0_worthToPlace, Cond.code yX0_worthToPlace cX0_worthToPlace 3 (some .int), Cond.methodLink RL 40 yX0_best, Cond.instanceMethod yX0_best, Cond.selects RX0 yX0_best yX0_best, Cond.code yX0_best cX0_best 2 (some .int), Cond.methodLink RX0 120 yX0_bestPiece, Cond.instanceMethod yX0_bestPiece, Cond.selects RX0 yX0_bestPiece yX0_bestPiece, Cond.code yX0_bestPiece cX0_bestPiece 4 (some .int), Cond.methodLink RX0 123 yX0_bestSquare, Cond.instanceMethod yX0_bestSquare, Cond.selects RX0 yX0_bestSquare yX0_bestSquare]
def wsL_isWorth_r7 : List Cond := [Cond.code yX0_bestSquare cX0_bestSquare 4 (some .int), Cond.methodLink RX0 164 yX0_worthAfterPlacing, Cond.instanceMethod yX0_worthAfterPlacing, Cond.selects RX0 yX0_worthAfterPlacing yX0_worthAfterPlacing, Cond.code yX0_worthAfterPlacing cX0_worthAfterPlacing 4 (some .int), Cond.methodLink RL 93 yL_safe, Cond.static yL_safe, Cond.code yL_safe cL_safe 4 (some .int), Cond.methodLink RL 64 yL_isOn, Cond.static yL_isOn, Cond.code yL_isOn cL_isOn 4 (some .boolean), Cond.methodLink RL 68 yL_winning, Cond.static yL_winning, Cond.code yL_winning cL_winning 5 (some .int), Cond.methodLink RL 61 yL_won, Cond.static yL_won, Cond.code yL_won cL_won 4 (some .int), Cond.methodLink RL 55 yL_full, Cond.static yL_full, Cond.code yL_full cL_full 4 (some .int), Cond.methodLink RL 49 yL_square, Cond.static yL_square, Cond.code yL_square cL_square 2 (some .int), Cond.methodLink RL 59 yL_shared]
def wsL_isWorth_r8 : List Cond := [Cond.static yL_shared, Cond.code yL_shared cL_shared 6 (some .int), Cond.methodLink RL 95 yL_lowest, Cond.static yL_lowest, Cond.code yL_lowest cL_lowest 2 (some .int)]
def wsL_isWorth : List Cond := .code yL_isWorth cL_isWorth 10 (some .boolean) :: ((wsL_isWorth_r1 ++ (wsL_isWorth_r2 ++ (wsL_isWorth_r3 ++ (wsL_isWorth_r4 ++ (wsL_isWorth_r5 ++ (wsL_isWorth_r6 ++ (wsL_isWorth_r7 ++ wsL_isWorth_r8))))))) ++ wsX00 ++ (vx_atS RX0 50 "java/lang/IndexOutOfBoundsException" ["java/lang/RuntimeException", "java/lang/Exception"]).filter goodWord ++ (vx_atS RX0 57 "java/lang/IllegalStateException" ["java/lang/RuntimeException", "java/lang/Exception"]).filter goodWord ++ (vx_atS RX0 107 "java/lang/IllegalArgumentException" ["java/lang/RuntimeException", "java/lang/Exception"]).filter goodWord)
def wsL_isGiven_r1 : List Cond := [Cond.methodLink RL 64 yL_isOn, Cond.static yL_isOn, Cond.initialized RL, Cond.code yL_isOn cL_isOn 4 (some .boolean), Cond.methodLink RL 98 yL_does, Cond.static yL_does, Cond.codeWith yL_does cL_does 4 (some .int) [(0, 17, 18, 17), (0, 17, 22, 19)], Cond.classLink RL 17 "java/lang/IndexOutOfBoundsException", Cond.classLink RL 19 "java/lang/IllegalStateException", Cond.methodLink RL 8 yX0_give, Cond.instanceMethod yX0_give, Cond.selects RX0 yX0_give yX0_give, Cond.initialized RX0, Cond.code yX0_give cX0_give 2 (some .int), Cond.classLink RX0 46 "java/lang/IndexOutOfBoundsException", Cond.initialized "java/lang/IndexOutOfBoundsException", Cond.classLink RX0 53 "java/lang/IllegalStateException", Cond.initialized "java/lang/IllegalStateException", Cond.fieldLink RX0 29 "Quarterboard" "stage" "I", Cond.fieldLink RX0 35 "Quarterboard" "used" "I", Cond.fieldLink RX0 9 "Quarterboard" "held" "I", Cond.fieldLink RX0 32 "Quarterboard" "player" "I", Cond.methodLink RX0 42 yX0_isNumber, Cond.static yX0_isNumber]
def wsL_isGiven_r2 : List Cond := [Cond.code yX0_isNumber cX0_isNumber 1 (some .boolean), Cond.methodLink RX0 58 yX0_has, Cond.static yX0_has, Cond.code yX0_has cX0_has 2 (some .boolean), Cond.methodLink RL 14 yX0_place, Cond.instanceMethod yX0_place, Cond.selects RX0 yX0_place yX0_place, Cond.code yX0_place cX0_place 3 (some .int), Cond.fieldLink RX0 16 "Quarterboard" "filled" "I", Cond.fieldLink RX0 13 "Quarterboard" "victor" "I", Cond.constant RX0 78 (65535), Cond.methodLink RX0 70 yX0_put, Cond.instanceMethod yX0_put, Cond.selects RX0 yX0_put yX0_put, Cond.code yX0_put cX0_put 3 none, Cond.fieldLink RX0 38 "Quarterboard" "digits" "J", Cond.methodLink RX0 147 yX0_atFirstSquare, Cond.static yX0_atFirstSquare, Cond.code yX0_atFirstSquare cX0_atFirstSquare 1 (some .long), Cond.constantLong RX0 141 (2), Cond.constantLong RX0 143 (4), Cond.constantLong RX0 145 (8), Cond.methodLink RX0 74 yX0_wonLines, Cond.instanceMethod yX0_wonLines]
def wsL_isGiven_r3 : List Cond := [Cond.selects RX0 yX0_wonLines yX0_wonLines, Cond.code yX0_wonLines cX0_wonLines 4 (some .int), Cond.fieldLink RX0 83 "Quarterboard" "LINES" "[I", Cond.methodLink RX0 87 yX0_lines, Cond.instanceMethod yX0_lines, Cond.selects RX0 yX0_lines yX0_lines, Cond.code yX0_lines cX0_lines 1 (some .int), Cond.fieldLink RX0 25 "Quarterboard" "withBlocks" "Z", Cond.methodLink RX0 92 yX0_inCommon, Cond.instanceMethod yX0_inCommon, Cond.selects RX0 yX0_inCommon yX0_inCommon, Cond.code yX0_inCommon cX0_inCommon 6 (some .int), Cond.methodLink RX0 79 yX0_withOne, Cond.static yX0_withOne, Cond.code yX0_withOne cX0_withOne 3 (some .int)]
def wsL_isGiven : List Cond := .code yL_isGiven cL_isGiven 5 (some .boolean) :: ((wsL_isGiven_r1 ++ (wsL_isGiven_r2 ++ wsL_isGiven_r3)) ++ wsX00 ++ (vx_atS RX0 50 "java/lang/IndexOutOfBoundsException" ["java/lang/RuntimeException", "java/lang/Exception"]).filter goodWord ++ (vx_atS RX0 57 "java/lang/IllegalStateException" ["java/lang/RuntimeException", "java/lang/Exception"]).filter goodWord)
def wsL_isPlaced_r1 : List Cond := [Cond.methodLink RL 98 yL_does, Cond.static yL_does, Cond.initialized RL, Cond.codeWith yL_does cL_does 4 (some .int) [(0, 17, 18, 17), (0, 17, 22, 19)], Cond.classLink RL 17 "java/lang/IndexOutOfBoundsException", Cond.classLink RL 19 "java/lang/IllegalStateException", Cond.methodLink RL 8 yX0_give, Cond.instanceMethod yX0_give, Cond.selects RX0 yX0_give yX0_give, Cond.initialized RX0, Cond.code yX0_give cX0_give 2 (some .int), Cond.classLink RX0 46 "java/lang/IndexOutOfBoundsException", Cond.initialized "java/lang/IndexOutOfBoundsException", Cond.classLink RX0 53 "java/lang/IllegalStateException", Cond.initialized "java/lang/IllegalStateException", Cond.fieldLink RX0 29 "Quarterboard" "stage" "I", Cond.fieldLink RX0 35 "Quarterboard" "used" "I", Cond.fieldLink RX0 9 "Quarterboard" "held" "I", Cond.fieldLink RX0 32 "Quarterboard" "player" "I", Cond.methodLink RX0 42 yX0_isNumber, Cond.static yX0_isNumber, Cond.code yX0_isNumber cX0_isNumber 1 (some .boolean), Cond.methodLink RX0 58 yX0_has, Cond.static yX0_has]
def wsL_isPlaced_r2 : List Cond := [Cond.code yX0_has cX0_has 2 (some .boolean), Cond.methodLink RL 14 yX0_place, Cond.instanceMethod yX0_place, Cond.selects RX0 yX0_place yX0_place, Cond.code yX0_place cX0_place 3 (some .int), Cond.fieldLink RX0 16 "Quarterboard" "filled" "I", Cond.fieldLink RX0 13 "Quarterboard" "victor" "I", Cond.constant RX0 78 (65535), Cond.methodLink RX0 70 yX0_put, Cond.instanceMethod yX0_put, Cond.selects RX0 yX0_put yX0_put, Cond.code yX0_put cX0_put 3 none, Cond.fieldLink RX0 38 "Quarterboard" "digits" "J", Cond.methodLink RX0 147 yX0_atFirstSquare, Cond.static yX0_atFirstSquare, Cond.code yX0_atFirstSquare cX0_atFirstSquare 1 (some .long), Cond.constantLong RX0 141 (2), Cond.constantLong RX0 143 (4), Cond.constantLong RX0 145 (8), Cond.methodLink RX0 74 yX0_wonLines, Cond.instanceMethod yX0_wonLines, Cond.selects RX0 yX0_wonLines yX0_wonLines, Cond.code yX0_wonLines cX0_wonLines 4 (some .int), Cond.fieldLink RX0 83 "Quarterboard" "LINES" "[I"]
def wsL_isPlaced_r3 : List Cond := [Cond.methodLink RX0 87 yX0_lines, Cond.instanceMethod yX0_lines, Cond.selects RX0 yX0_lines yX0_lines, Cond.code yX0_lines cX0_lines 1 (some .int), Cond.fieldLink RX0 25 "Quarterboard" "withBlocks" "Z", Cond.methodLink RX0 92 yX0_inCommon, Cond.instanceMethod yX0_inCommon, Cond.selects RX0 yX0_inCommon yX0_inCommon, Cond.code yX0_inCommon cX0_inCommon 6 (some .int), Cond.methodLink RX0 79 yX0_withOne, Cond.static yX0_withOne, Cond.code yX0_withOne cX0_withOne 3 (some .int), Cond.methodLink RL 61 yL_won, Cond.static yL_won, Cond.code yL_won cL_won 4 (some .int), Cond.methodLink RL 55 yL_full, Cond.static yL_full, Cond.code yL_full cL_full 4 (some .int), Cond.methodLink RL 49 yL_square, Cond.static yL_square, Cond.code yL_square cL_square 2 (some .int), Cond.methodLink RL 59 yL_shared, Cond.static yL_shared, Cond.code yL_shared cL_shared 6 (some .int)]
def wsL_isPlaced : List Cond := .code yL_isPlaced cL_isPlaced 5 (some .boolean) :: ((wsL_isPlaced_r1 ++ (wsL_isPlaced_r2 ++ wsL_isPlaced_r3)) ++ wsX00 ++ (vx_atS RX0 50 "java/lang/IndexOutOfBoundsException" ["java/lang/RuntimeException", "java/lang/Exception"]).filter goodWord ++ (vx_atS RX0 57 "java/lang/IllegalStateException" ["java/lang/RuntimeException", "java/lang/Exception"]).filter goodWord)
def wsL_isPlayed_r1 : List Cond := [Cond.methodLink RL 93 yL_safe, Cond.static yL_safe, Cond.initialized RL, Cond.code yL_safe cL_safe 4 (some .int), Cond.methodLink RL 64 yL_isOn, Cond.static yL_isOn, Cond.code yL_isOn cL_isOn 4 (some .boolean), Cond.methodLink RL 68 yL_winning, Cond.static yL_winning, Cond.code yL_winning cL_winning 5 (some .int), Cond.methodLink RL 61 yL_won, Cond.static yL_won, Cond.code yL_won cL_won 4 (some .int), Cond.methodLink RL 55 yL_full, Cond.static yL_full, Cond.code yL_full cL_full 4 (some .int), Cond.methodLink RL 49 yL_square, Cond.static yL_square, Cond.code yL_square cL_square 2 (some .int), Cond.methodLink RL 59 yL_shared, Cond.static yL_shared, Cond.code yL_shared cL_shared 6 (some .int), Cond.methodLink RL 102 yL_isGiven, Cond.static yL_isGiven]
def wsL_isPlayed_r2 : List Cond := [Cond.code yL_isGiven cL_isGiven 5 (some .boolean), Cond.methodLink RL 98 yL_does, Cond.static yL_does, Cond.codeWith yL_does cL_does 4 (some .int) [(0, 17, 18, 17), (0, 17, 22, 19)], Cond.classLink RL 17 "java/lang/IndexOutOfBoundsException", Cond.classLink RL 19 "java/lang/IllegalStateException", Cond.methodLink RL 8 yX0_give, Cond.instanceMethod yX0_give, Cond.selects RX0 yX0_give yX0_give, Cond.initialized RX0, Cond.code yX0_give cX0_give 2 (some .int), Cond.classLink RX0 46 "java/lang/IndexOutOfBoundsException", Cond.initialized "java/lang/IndexOutOfBoundsException", Cond.classLink RX0 53 "java/lang/IllegalStateException", Cond.initialized "java/lang/IllegalStateException", Cond.fieldLink RX0 29 "Quarterboard" "stage" "I", Cond.fieldLink RX0 35 "Quarterboard" "used" "I", Cond.fieldLink RX0 9 "Quarterboard" "held" "I", Cond.fieldLink RX0 32 "Quarterboard" "player" "I", Cond.methodLink RX0 42 yX0_isNumber, Cond.static yX0_isNumber, Cond.code yX0_isNumber cX0_isNumber 1 (some .boolean), Cond.methodLink RX0 58 yX0_has, Cond.static yX0_has]
def wsL_isPlayed_r3 : List Cond := [Cond.code yX0_has cX0_has 2 (some .boolean), Cond.methodLink RL 14 yX0_place, Cond.instanceMethod yX0_place, Cond.selects RX0 yX0_place yX0_place, Cond.code yX0_place cX0_place 3 (some .int), Cond.fieldLink RX0 16 "Quarterboard" "filled" "I", Cond.fieldLink RX0 13 "Quarterboard" "victor" "I", Cond.constant RX0 78 (65535), Cond.methodLink RX0 70 yX0_put, Cond.instanceMethod yX0_put, Cond.selects RX0 yX0_put yX0_put, Cond.code yX0_put cX0_put 3 none, Cond.fieldLink RX0 38 "Quarterboard" "digits" "J", Cond.methodLink RX0 147 yX0_atFirstSquare, Cond.static yX0_atFirstSquare, Cond.code yX0_atFirstSquare cX0_atFirstSquare 1 (some .long), Cond.constantLong RX0 141 (2), Cond.constantLong RX0 143 (4), Cond.constantLong RX0 145 (8), Cond.methodLink RX0 74 yX0_wonLines, Cond.instanceMethod yX0_wonLines, Cond.selects RX0 yX0_wonLines yX0_wonLines, Cond.code yX0_wonLines cX0_wonLines 4 (some .int), Cond.fieldLink RX0 83 "Quarterboard" "LINES" "[I"]
def wsL_isPlayed_r4 : List Cond := [Cond.methodLink RX0 87 yX0_lines, Cond.instanceMethod yX0_lines, Cond.selects RX0 yX0_lines yX0_lines, Cond.code yX0_lines cX0_lines 1 (some .int), Cond.fieldLink RX0 25 "Quarterboard" "withBlocks" "Z", Cond.methodLink RX0 92 yX0_inCommon, Cond.instanceMethod yX0_inCommon, Cond.selects RX0 yX0_inCommon yX0_inCommon, Cond.code yX0_inCommon cX0_inCommon 6 (some .int), Cond.methodLink RX0 79 yX0_withOne, Cond.static yX0_withOne, Cond.code yX0_withOne cX0_withOne 3 (some .int), Cond.methodLink RL 106 yL_isPlaced, Cond.static yL_isPlaced, Cond.code yL_isPlaced cL_isPlaced 5 (some .boolean), Cond.methodLink RL 86 yX0_winner, Cond.instanceMethod yX0_winner, Cond.selects RX0 yX0_winner yX0_winner, Cond.code yX0_winner cX0_winner 1 (some .int)]
def wsL_isPlayed : List Cond := .code yL_isPlayed cL_isPlayed 7 (some .boolean) :: ((wsL_isPlayed_r1 ++ (wsL_isPlayed_r2 ++ (wsL_isPlayed_r3 ++ wsL_isPlayed_r4))) ++ wsX00 ++ (vx_atS RX0 50 "java/lang/IndexOutOfBoundsException" ["java/lang/RuntimeException", "java/lang/Exception"]).filter goodWord ++ (vx_atS RX0 57 "java/lang/IllegalStateException" ["java/lang/RuntimeException", "java/lang/Exception"]).filter goodWord)
def wsL_isBegun_r1 : List Cond := [Cond.methodLink RL 109 yX0_begin, Cond.instanceMethod yX0_begin, Cond.selects RX0 yX0_begin yX0_begin, Cond.initialized RX0, Cond.code yX0_begin cX0_begin 3 (some .int), Cond.fieldLink RX0 16 "Quarterboard" "filled" "I", Cond.fieldLink RX0 25 "Quarterboard" "withBlocks" "Z", Cond.fieldLink RX0 29 "Quarterboard" "stage" "I", Cond.fieldLink RX0 32 "Quarterboard" "player" "I", Cond.fieldLink RX0 9 "Quarterboard" "held" "I", Cond.fieldLink RX0 13 "Quarterboard" "victor" "I", Cond.fieldLink RX0 35 "Quarterboard" "used" "I", Cond.fieldLink RX0 38 "Quarterboard" "digits" "J", Cond.methodLink RX0 19 yJ6_bitCount_0f7a4, Cond.static yJ6_bitCount_0f7a4, Cond.initialized RJ6, Cond.code yJ6_bitCount_0f7a4 cJ6_bitCount_0f7a4 1 (some .int), Cond.constant RJ6 265 (1431655765), Cond.constant RJ6 266 (858993459), Cond.constant RJ6 267 (252645135), Cond.methodLink RL 113 yX0_symmetries, Cond.instanceMethod yX0_symmetries, Cond.selects RX0 yX0_symmetries yX0_symmetries, Cond.code yX0_symmetries cX0_symmetries 3 (some .int)]
def wsL_isBegun_r2 : List Cond := [Cond.methodLink RX0 137 yX0_waysOfMarks, Cond.instanceMethod yX0_waysOfMarks, Cond.selects RX0 yX0_waysOfMarks yX0_waysOfMarks, Cond.code yX0_waysOfMarks cX0_waysOfMarks 12 (some .int), Cond.methodLink RX0 185 yX0_turned, Cond.static yX0_turned, Cond.code yX0_turned cX0_turned 6 (some .long), Cond.constantLong RX0 151 (281479271743489), Cond.methodLink RX0 182 yX0_turnedSquare, Cond.static yX0_turnedSquare, Cond.code yX0_turnedSquare cX0_turnedSquare 5 (some .int), Cond.methodLink RX0 189 yX0_levelled, Cond.static yX0_levelled, Cond.code yX0_levelled cX0_levelled 7 (some .long), Cond.methodLink RX0 79 yX0_withOne, Cond.static yX0_withOne, Cond.code yX0_withOne cX0_withOne 3 (some .int), Cond.constant RX0 78 (65535), Cond.methodLink RX0 192 yX0_equalMarks, Cond.static yX0_equalMarks, Cond.code yX0_equalMarks cX0_equalMarks 6 (some .int)]
def wsL_isBegun : List Cond := .code yL_isBegun cL_isBegun 6 (some .boolean) :: ((wsL_isBegun_r1 ++ wsL_isBegun_r2) ++ wsX00)
def wsL_law0_r1 : List Cond := [Cond.classLink RL 9 RX0, Cond.instantiable RX0 11, Cond.initialized RX0, Cond.arrayClass .int, Cond.constant RL 125 (65535), Cond.methodLink RL 116 yX0_init, Cond.instanceMethod yX0_init, Cond.code yX0_init cX0_init 1 none, Cond.methodLink RX0 1 objectInit, Cond.instanceMethod objectInit, Cond.code objectInit ⟨#[0xb1]⟩ 1 none, Cond.fieldLink RX0 9 "Quarterboard" "held" "I", Cond.fieldLink RX0 13 "Quarterboard" "victor" "I", Cond.methodLink RL 117 yL_isBoard, Cond.static yL_isBoard, Cond.initialized RL, Cond.code yL_isBoard cL_isBoard 5 (some .boolean), Cond.methodLink RL 71 yX0_lines, Cond.instanceMethod yX0_lines, Cond.selects RX0 yX0_lines yX0_lines, Cond.code yX0_lines cX0_lines 1 (some .int), Cond.fieldLink RX0 25 "Quarterboard" "withBlocks" "Z", Cond.fieldLink RX0 83 "Quarterboard" "LINES" "[I", Cond.methodLink RL 74 yX0_phase]
def wsL_law0_r2 : List Cond := [Cond.instanceMethod yX0_phase, Cond.selects RX0 yX0_phase yX0_phase, Cond.code yX0_phase cX0_phase 1 (some .int), Cond.fieldLink RX0 29 "Quarterboard" "stage" "I", Cond.methodLink RL 77 yX0_onTurn, Cond.instanceMethod yX0_onTurn, Cond.selects RX0 yX0_onTurn yX0_onTurn, Cond.code yX0_onTurn cX0_onTurn 1 (some .int), Cond.fieldLink RX0 32 "Quarterboard" "player" "I", Cond.methodLink RL 80 yX0_hand, Cond.instanceMethod yX0_hand, Cond.selects RX0 yX0_hand yX0_hand, Cond.code yX0_hand cX0_hand 1 (some .int), Cond.methodLink RL 83 yX0_placed, Cond.instanceMethod yX0_placed, Cond.selects RX0 yX0_placed yX0_placed, Cond.code yX0_placed cX0_placed 1 (some .int), Cond.fieldLink RX0 16 "Quarterboard" "filled" "I", Cond.methodLink RX0 19 yJ6_bitCount_0f7a4, Cond.static yJ6_bitCount_0f7a4, Cond.initialized RJ6, Cond.code yJ6_bitCount_0f7a4 cJ6_bitCount_0f7a4 1 (some .int), Cond.constant RJ6 265 (1431655765), Cond.constant RJ6 266 (858993459)]
def wsL_law0_r3 : List Cond := [Cond.constant RJ6 267 (252645135), Cond.methodLink RL 86 yX0_winner, Cond.instanceMethod yX0_winner, Cond.selects RX0 yX0_winner yX0_winner, Cond.code yX0_winner cX0_winner 1 (some .int), Cond.methodLink RL 21 yX0_pieceAt, Cond.instanceMethod yX0_pieceAt, Cond.selects RX0 yX0_pieceAt yX0_pieceAt, Cond.code yX0_pieceAt cX0_pieceAt 4 (some .int), Cond.classLink RX0 46 "java/lang/IndexOutOfBoundsException", Cond.initialized "java/lang/IndexOutOfBoundsException", Cond.fieldLink RX0 38 "Quarterboard" "digits" "J", Cond.methodLink RX0 42 yX0_isNumber, Cond.static yX0_isNumber, Cond.code yX0_isNumber cX0_isNumber 1 (some .boolean), Cond.methodLink RX0 58 yX0_has, Cond.static yX0_has, Cond.code yX0_has cX0_has 2 (some .boolean), Cond.methodLink RX0 79 yX0_withOne, Cond.static yX0_withOne, Cond.code yX0_withOne cX0_withOne 3 (some .int), Cond.constant RX0 78 (65535), Cond.methodLink RL 24 yX0_onLine, Cond.instanceMethod yX0_onLine]
def wsL_law0_r4 : List Cond := [Cond.selects RX0 yX0_onLine yX0_onLine, Cond.code yX0_onLine cX0_onLine 2 (some .int), Cond.methodLink RX0 87 yX0_lines, Cond.methodLink RL 55 yL_full, Cond.static yL_full, Cond.code yL_full cL_full 4 (some .int), Cond.methodLink RL 49 yL_square, Cond.static yL_square, Cond.code yL_square cL_square 2 (some .int), Cond.methodLink RL 27 yX0_shared, Cond.instanceMethod yX0_shared, Cond.selects RX0 yX0_shared yX0_shared, Cond.code yX0_shared cX0_shared 2 (some .int), Cond.methodLink RX0 92 yX0_inCommon, Cond.instanceMethod yX0_inCommon, Cond.selects RX0 yX0_inCommon yX0_inCommon, Cond.code yX0_inCommon cX0_inCommon 6 (some .int), Cond.methodLink RL 59 yL_shared, Cond.static yL_shared, Cond.code yL_shared cL_shared 6 (some .int), Cond.methodLink RL 89 yL_asks, Cond.static yL_asks, Cond.codeWith yL_asks cL_asks 4 (some .int) [(0, 81, 82, 17), (0, 81, 86, 43), (0, 81, 90, 19)], Cond.classLink RL 17 "java/lang/IndexOutOfBoundsException"]
def wsL_law0_r5 : List Cond := [Cond.classLink RL 43 "java/lang/IllegalArgumentException", Cond.classLink RL 19 "java/lang/IllegalStateException", Cond.methodLink RL 30 yX0_winning, Cond.instanceMethod yX0_winning, Cond.selects RX0 yX0_winning yX0_winning, Cond.code yX0_winning cX0_winning 2 (some .int), Cond.classLink RX0 53 "java/lang/IllegalStateException", Cond.initialized "java/lang/IllegalStateException", Cond.fieldLink RX0 35 "Quarterboard" "used" "I", Cond.methodLink RX0 97 yX0_winningSquares, Cond.instanceMethod yX0_winningSquares, Cond.selects RX0 yX0_winningSquares yX0_winningSquares, Cond.code yX0_winningSquares cX0_winningSquares 6 (some .int), Cond.methodLink RX0 155 yX0_ownDigits, Cond.static yX0_ownDigits, Cond.code yX0_ownDigits cX0_ownDigits 1 (some .int), Cond.methodLink RX0 158 yX0_lacksOne, Cond.instanceMethod yX0_lacksOne, Cond.selects RX0 yX0_lacksOne yX0_lacksOne, Cond.code yX0_lacksOne cX0_lacksOne 3 (some .boolean), Cond.methodLink RL 33 yX0_safe, Cond.instanceMethod yX0_safe, Cond.selects RX0 yX0_safe yX0_safe, Cond.code yX0_safe cX0_safe 1 (some .int)]
def wsL_law0_r6 : List Cond := [Cond.methodLink RX0 100 yX0_safePieces, Cond.instanceMethod yX0_safePieces, Cond.selects RX0 yX0_safePieces yX0_safePieces, Cond.code yX0_safePieces cX0_safePieces 4 (some .int), Cond.methodLink RX0 161 yX0_winningDigits, Cond.instanceMethod yX0_winningDigits, Cond.selects RX0 yX0_winningDigits yX0_winningDigits, Cond.code yX0_winningDigits cX0_winningDigits 4 (some .int), Cond.methodLink RL 37 yX0_worth, Cond.instanceMethod yX0_worth, Cond.selects RX0 yX0_worth yX0_worth, Cond.code yX0_worth cX0_worth 2 (some .int), Cond.classLink RX0 103 "java/lang/IllegalArgumentException", Cond.initialized "java/lang/IllegalArgumentException", Cond.methodLink RX0 108 yX0_canLookAhead, Cond.instanceMethod yX0_canLookAhead, Cond.selects RX0 yX0_canLookAhead yX0_canLookAhead, Cond.code yX0_canLookAhead cX0_canLookAhead 3 (some .boolean), Cond.methodLink RX0 113 yX0_worthToGive, Cond.instanceMethod yX0_worthToGive, Cond.selects RX0 yX0_worthToGive yX0_worthToGive, Cond.code yX0_worthToGive cX0_worthToGive 2 (some .int), Cond.methodLink RX0 170 yX0_giverWins, Cond.instanceMethod yX0_giverWins]
def wsL_law0_r7 : List Cond := [Cond.selects RX0 yX0_giverWins yX0_giverWins, Cond.code yX0_giverWins cX0_giverWins 4 (some .boolean), Cond.methodLink RX0 179 yX0_placerLoses, Cond.instanceMethod yX0_placerLoses, Cond.selects RX0 yX0_placerLoses yX0_placerLoses, Cond.code yX0_giverLoses cX0_giverLoses 4 (some .boolean), Cond.methodLink RX0 176 yX0_placerWinsLater, Cond.instanceMethod yX0_placerWinsLater, Cond.selects RX0 yX0_placerWinsLater yX0_placerWinsLater, Cond.code yX0_placerLoses cX0_placerLoses 5 (some .boolean), Cond.methodLink RX0 70 yX0_put, Cond.instanceMethod yX0_put, Cond.selects RX0 yX0_put yX0_put, Cond.code yX0_put cX0_put 3 none, Cond.methodLink RX0 147 yX0_atFirstSquare, Cond.static yX0_atFirstSquare, Cond.code yX0_atFirstSquare cX0_atFirstSquare 1 (some .long), Cond.constantLong RX0 141 (2), Cond.constantLong RX0 143 (4), Cond.constantLong RX0 145 (8), Cond.methodLink RX0 173 yX0_giverLoses, Cond.instanceMethod yX0_giverLoses, Cond.selects RX0 yX0_giverLoses yX0_giverLoses, Cond.methodLink RX0 167 yX0_lift]
def wsL_law0_r8 : List Cond := [Cond.instanceMethod yX0_lift, Cond.selects RX0 yX0_lift yX0_lift, Cond.code yX0_lift cX0_lift 3 none, Cond.constantLong RX0 151 (281479271743489), Cond.constantLong RX0 153 (-1), Cond.code yX0_placerWinsLater cX0_placerWinsLater 5 (some .boolean), Cond.methodLink RX0 116 yX0_worthToPlace, Cond.instanceMethod yX0_worthToPlace, Cond.selects RX0 yX0_worthToPlace yX0_worthToPlace, Cond.code yX0_worthToPlace cX0_worthToPlace 3 (some .int), Cond.methodLink RL 40 yX0_best, Cond.instanceMethod yX0_best, Cond.selects RX0 yX0_best yX0_best, Cond.code yX0_best cX0_best 2 (some .int), Cond.methodLink RX0 120 yX0_bestPiece, Cond.instanceMethod yX0_bestPiece, Cond.selects RX0 yX0_bestPiece yX0_bestPiece, Cond.code yX0_bestPiece cX0_bestPiece 4 (some .int), Cond.methodLink RX0 123 yX0_bestSquare, Cond.instanceMethod yX0_bestSquare, Cond.selects RX0 yX0_bestSquare yX0_bestSquare, Cond.code yX0_bestSquare cX0_bestSquare 4 (some .int), Cond.methodLink RX0 164 yX0_worthAfterPlacing, Cond.instanceMethod yX0_worthAfterPlacing]
def wsL_law0_r9 : List Cond := [Cond.selects RX0 yX0_worthAfterPlacing yX0_worthAfterPlacing, Cond.code yX0_worthAfterPlacing cX0_worthAfterPlacing 4 (some .int), Cond.methodLink RL 121 yL_alike, Cond.static yL_alike, Cond.codeWith yL_alike cL_alike 2 (some .int) [(0, 12, 13, 19)], Cond.methodLink RL 45 yX0_isAlike, Cond.instanceMethod yX0_isAlike, Cond.selects RX0 yX0_isAlike yX0_isAlike, Cond.code yX0_isAlike cX0_isAlike 2 (some .boolean), Cond.fieldLink RX0 126 "Quarterboard" "hasKept" "Z", Cond.fieldLink RX0 129 "Quarterboard" "keptFilled" "I", Cond.fieldLink RX0 132 "Quarterboard" "keptDigits" "J", Cond.methodLink RX0 137 yX0_waysOfMarks, Cond.instanceMethod yX0_waysOfMarks, Cond.selects RX0 yX0_waysOfMarks yX0_waysOfMarks, Cond.code yX0_waysOfMarks cX0_waysOfMarks 12 (some .int), Cond.methodLink RX0 185 yX0_turned, Cond.static yX0_turned, Cond.code yX0_turned cX0_turned 6 (some .long), Cond.methodLink RX0 182 yX0_turnedSquare, Cond.static yX0_turnedSquare, Cond.code yX0_turnedSquare cX0_turnedSquare 5 (some .int), Cond.methodLink RX0 189 yX0_levelled, Cond.static yX0_levelled]
def wsL_law0_r10 : List Cond := [Cond.code yX0_levelled cX0_levelled 7 (some .long), Cond.methodLink RX0 192 yX0_equalMarks, Cond.static yX0_equalMarks, Cond.code yX0_equalMarks cX0_equalMarks 6 (some .int), Cond.methodLink RL 126 yL_part, Cond.static yL_part, Cond.code yL_part cL_part 4 (some .int), Cond.constant RL 7 (2147483647), Cond.methodLink RL 129 yL_isBegun, Cond.static yL_isBegun, Cond.code yL_isBegun cL_isBegun 6 (some .boolean), Cond.methodLink RL 109 yX0_begin, Cond.instanceMethod yX0_begin, Cond.selects RX0 yX0_begin yX0_begin, Cond.code yX0_begin cX0_begin 3 (some .int), Cond.methodLink RL 113 yX0_symmetries, Cond.instanceMethod yX0_symmetries, Cond.selects RX0 yX0_symmetries yX0_symmetries, Cond.code yX0_symmetries cX0_symmetries 3 (some .int), Cond.methodLink RL 133 yX0_keep, Cond.instanceMethod yX0_keep, Cond.selects RX0 yX0_keep yX0_keep, Cond.code yX0_keep cX0_keep 1 (some .int), Cond.methodLink RL 102 yL_isGiven]
def wsL_law0_r11 : List Cond := [Cond.static yL_isGiven, Cond.code yL_isGiven cL_isGiven 5 (some .boolean), Cond.methodLink RL 64 yL_isOn, Cond.static yL_isOn, Cond.code yL_isOn cL_isOn 4 (some .boolean), Cond.methodLink RL 98 yL_does, Cond.static yL_does, Cond.codeWith yL_does cL_does 4 (some .int) [(0, 17, 18, 17), (0, 17, 22, 19)], Cond.methodLink RL 8 yX0_give, Cond.instanceMethod yX0_give, Cond.selects RX0 yX0_give yX0_give, Cond.code yX0_give cX0_give 2 (some .int), Cond.methodLink RL 14 yX0_place, Cond.instanceMethod yX0_place, Cond.selects RX0 yX0_place yX0_place, Cond.code yX0_place cX0_place 3 (some .int), Cond.methodLink RX0 74 yX0_wonLines, Cond.instanceMethod yX0_wonLines, Cond.selects RX0 yX0_wonLines yX0_wonLines, Cond.code yX0_wonLines cX0_wonLines 4 (some .int), Cond.methodLink RL 106 yL_isPlaced, Cond.static yL_isPlaced, Cond.code yL_isPlaced cL_isPlaced 5 (some .boolean), Cond.methodLink RL 61 yL_won]
def wsL_law0_r12 : List Cond := [Cond.static yL_won, Cond.code yL_won cL_won 4 (some .int), Cond.methodLink RL 136 yL_isPlayed, Cond.static yL_isPlayed, Cond.code yL_isPlayed cL_isPlayed 7 (some .boolean), Cond.methodLink RL 93 yL_safe, Cond.static yL_safe, Cond.code yL_safe cL_safe 4 (some .int), Cond.methodLink RL 68 yL_winning, Cond.static yL_winning, Cond.code yL_winning cL_winning 5 (some .int), Cond.methodLink RL 140 yL_isSafe, Cond.static yL_isSafe, Cond.code yL_isSafe cL_isSafe 5 (some .boolean), Cond.methodLink RL 143 yL_isWorth, Cond.static yL_isWorth, Cond.code yL_isWorth cL_isWorth 10 (some .boolean), Cond.methodLink RL 95 yL_lowest, Cond.static yL_lowest, Cond.code yL_lowest cL_lowest 2 (some .int)]
def wsL_law0 : List Cond := (wsL_law0_r1 ++ (wsL_law0_r2 ++ (wsL_law0_r3 ++ (wsL_law0_r4 ++ (wsL_law0_r5 ++ (wsL_law0_r6 ++ (wsL_law0_r7 ++ (wsL_law0_r8 ++ (wsL_law0_r9 ++ (wsL_law0_r10 ++ (wsL_law0_r11 ++ wsL_law0_r12))))))))))) ++ wsX00 ++ ([] : List Cond)
def wsL_law : List Cond := wsL_law0 ++ (vx_atS RX0 50 "java/lang/IndexOutOfBoundsException" ["java/lang/RuntimeException", "java/lang/Exception"]).filter goodWord ++ (vx_atS RX0 57 "java/lang/IllegalStateException" ["java/lang/RuntimeException", "java/lang/Exception"]).filter goodWord ++ (vx_atS RX0 107 "java/lang/IllegalArgumentException" ["java/lang/RuntimeException", "java/lang/Exception"]).filter goodWord
set_option maxRecDepth 20000 in
theorem wsL_law0_r1_in : ∀ w ∈ wsL_law0_r1, w ∈ lw_tbl := fun w h => (goodIn_p wsL_law0_r1 [33, 36, 366, 154] (by decide +kernel) (by decide +kernel) w h).1
set_option maxRecDepth 20000 in
theorem wsL_law0_r2_in : ∀ w ∈ wsL_law0_r2, w ∈ lw_tbl := fun w h => (goodIn_p wsL_law0_r2 [371, 375, 379, 383, 181] (by decide +kernel) (by decide +kernel) w h).1
set_option maxRecDepth 20000 in
theorem wsL_law0_r3_in : ∀ w ∈ wsL_law0_r3, w ∈ lw_tbl := fun w h => (goodIn_p wsL_law0_r3 [387, 267, 221, 171, 167] (by decide +kernel) (by decide +kernel) w h).1
set_option maxRecDepth 20000 in
theorem wsL_law0_r4_in : ∀ w ∈ wsL_law0_r4, w ∈ lw_tbl := fun w h => (goodIn_p wsL_law0_r4 [271, 390, 393, 276, 164, 396] (by decide +kernel) (by decide +kernel) w h).1
set_option maxRecDepth 20000 in
theorem wsL_law0_r5_in : ∀ w ∈ wsL_law0_r5, w ∈ lw_tbl := fun w h => (goodIn_p wsL_law0_r5 [280, 285, 174, 160, 74] (by decide +kernel) (by decide +kernel) w h).1
set_option maxRecDepth 20000 in
theorem wsL_law0_r6_in : ∀ w ∈ wsL_law0_r6, w ∈ lw_tbl := fun w h => (goodIn_p wsL_law0_r6 [146, 150, 289, 309, 314] (by decide +kernel) (by decide +kernel) w h).1
set_option maxRecDepth 20000 in
theorem wsL_law0_r7_in : ∀ w ∈ wsL_law0_r7, w ∈ lw_tbl := fun w h => (goodIn_p wsL_law0_r7 [318, 326, 322, 249, 252] (by decide +kernel) (by decide +kernel) w h).1
set_option maxRecDepth 20000 in
theorem wsL_law0_r8_in : ∀ w ∈ wsL_law0_r8, w ∈ lw_tbl := fun w h => (goodIn_p wsL_law0_r8 [334, 330, 339, 343, 347, 351] (by decide +kernel) (by decide +kernel) w h).1
set_option maxRecDepth 20000 in
theorem wsL_law0_r9_in : ∀ w ∈ wsL_law0_r9, w ∈ lw_tbl := fun w h => (goodIn_p wsL_law0_r9 [355, 362, 192, 195, 199] (by decide +kernel) (by decide +kernel) w h).1
set_option maxRecDepth 20000 in
theorem wsL_law0_r10_in : ∀ w ∈ wsL_law0_r10, w ∈ lw_tbl := fun w h => (goodIn_p wsL_law0_r10 [202, 205, 208, 429, 433, 188, 178] (by decide +kernel) (by decide +kernel) w h).1
set_option maxRecDepth 20000 in
theorem wsL_law0_r11_in : ∀ w ∈ wsL_law0_r11, w ∈ lw_tbl := fun w h => (goodIn_p wsL_law0_r11 [420, 402, 218, 242, 259, 423] (by decide +kernel) (by decide +kernel) w h).1
set_option maxRecDepth 20000 in
theorem wsL_law0_r12_in : ∀ w ∈ wsL_law0_r12, w ∈ lw_tbl := fun w h => (goodIn_p wsL_law0_r12 [408, 426, 411, 405, 399, 414, 417] (by decide +kernel) (by decide +kernel) w h).1
theorem wsL_law_t0 : ∀ w ∈ wsX00, w ∈ lw_tbl := by decide +kernel
theorem wsL_law_in0 : ∀ w ∈ wsL_law0, w ∈ lw_tbl := fun w h => (List.mem_append.mp h).elim (fun h => (List.mem_append.mp h).elim (fun h => (List.mem_append.mp h).elim (fun h => wsL_law0_r1_in w h) (fun h => (List.mem_append.mp h).elim (fun h => wsL_law0_r2_in w h) (fun h => (List.mem_append.mp h).elim (fun h => wsL_law0_r3_in w h) (fun h => (List.mem_append.mp h).elim (fun h => wsL_law0_r4_in w h) (fun h => (List.mem_append.mp h).elim (fun h => wsL_law0_r5_in w h) (fun h => (List.mem_append.mp h).elim (fun h => wsL_law0_r6_in w h) (fun h => (List.mem_append.mp h).elim (fun h => wsL_law0_r7_in w h) (fun h => (List.mem_append.mp h).elim (fun h => wsL_law0_r8_in w h) (fun h => (List.mem_append.mp h).elim (fun h => wsL_law0_r9_in w h) (fun h => (List.mem_append.mp h).elim (fun h => wsL_law0_r10_in w h) (fun h => (List.mem_append.mp h).elim (fun h => wsL_law0_r11_in w h) (fun h => wsL_law0_r12_in w h)))))))))))) (fun h => wsL_law_t0 w h)) (fun h => nomatch h)
theorem wsL_law_x0 : ∀ w ∈ (vx_atS RX0 50 "java/lang/IndexOutOfBoundsException" ["java/lang/RuntimeException", "java/lang/Exception"]).filter goodWord, w ∈ lw_tbl := by decide +kernel
theorem wsL_law_x1 : ∀ w ∈ (vx_atS RX0 57 "java/lang/IllegalStateException" ["java/lang/RuntimeException", "java/lang/Exception"]).filter goodWord, w ∈ lw_tbl := by decide +kernel
theorem wsL_law_x2 : ∀ w ∈ (vx_atS RX0 107 "java/lang/IllegalArgumentException" ["java/lang/RuntimeException", "java/lang/Exception"]).filter goodWord, w ∈ lw_tbl := by decide +kernel
theorem wsL_law_in : ∀ w ∈ wsL_law, w ∈ lw_tbl := fun w h => (List.mem_append.mp h).elim (fun h => (List.mem_append.mp h).elim (fun h => (List.mem_append.mp h).elim (fun h => wsL_law_in0 w h) (fun h => wsL_law_x0 w h)) (fun h => wsL_law_x1 w h)) (fun h => wsL_law_x2 w h)
theorem inlX0 : ∀ w ∈ wsX00, w ∈ wsL_law := fun _ h => List.mem_append_left _ (List.mem_append_left _ (List.mem_append_left _ (List.mem_append_left _ (List.mem_append_right _ h))))
theorem inX0 : ∀ w ∈ wsX00, w ∈ lw_tbl := fun w h => wsL_law_in w (inlX0 w h)
theorem inX1 : ∀ w ∈ wsX10, w ∈ lw_tbl := by decide +kernel
theorem inJ6 : ∀ w ∈ wsJ60, w ∈ lw_tbl := by decide +kernel
theorem inJ0 : ∀ w ∈ wsJ00, w ∈ lw_tbl := by decide +kernel
theorem dL_part_0 : decode cL_part 0 = .ok (.iload_n 1, 1) := by decide +kernel
theorem dL_part_1 : decode cL_part 1 = .ok (.aload_n 0, 1) := by decide +kernel
theorem dL_part_2 : decode cL_part 2 = .ok (.arraylength, 1) := by decide +kernel
theorem dL_part_3 : decode cL_part 3 = .ok (.if_icmp .ge 9, 3) := by decide +kernel
theorem dL_part_6 : decode cL_part 6 = .ok (.aload_n 0, 1) := by decide +kernel
theorem dL_part_7 : decode cL_part 7 = .ok (.iload_n 1, 1) := by decide +kernel
theorem dL_part_8 : decode cL_part 8 = .ok (.iaload, 1) := by decide +kernel
theorem dL_part_9 : decode cL_part 9 = .ok (.goto 15, 3) := by decide +kernel
theorem dL_part_12 : decode cL_part 12 = .ok (.sipush 229, 3) := by decide +kernel
theorem dL_part_15 : decode cL_part 15 = .ok (.iload_n 1, 1) := by decide +kernel
theorem dL_part_16 : decode cL_part 16 = .ok (.imul, 1) := by decide +kernel
theorem dL_part_17 : decode cL_part 17 = .ok (.bipush 107, 2) := by decide +kernel
theorem dL_part_19 : decode cL_part 19 = .ok (.iload_n 1, 1) := by decide +kernel
theorem dL_part_20 : decode cL_part 20 = .ok (.imul, 1) := by decide +kernel
theorem dL_part_21 : decode cL_part 21 = .ok (.iload_n 1, 1) := by decide +kernel
theorem dL_part_22 : decode cL_part 22 = .ok (.imul, 1) := by decide +kernel
theorem dL_part_23 : decode cL_part 23 = .ok (.iadd, 1) := by decide +kernel
theorem dL_part_24 : decode cL_part 24 = .ok (.istore_n 3, 1) := by decide +kernel
theorem dL_part_25 : decode cL_part 25 = .ok (.iload_n 3, 1) := by decide +kernel
theorem dL_part_26 : decode cL_part 26 = .ok (.ldc 7, 2) := by decide +kernel
theorem dL_part_28 : decode cL_part 28 = .ok (.iand, 1) := by decide +kernel
theorem dL_part_29 : decode cL_part 29 = .ok (.iload_n 2, 1) := by decide +kernel
theorem dL_part_30 : decode cL_part 30 = .ok (.irem, 1) := by decide +kernel
theorem dL_part_31 : decode cL_part 31 = .ok (.ireturn, 1) := by decide +kernel
set_option maxRecDepth 20000 in
theorem ggL_does_X0_give : GoodIn wsL_does wsX0_give := goodIn_ca (goodIn_ca (goodIn_r _ [7, 8, 9, 10, 11, 12, 13, 14, 15, 16, 17, 6, 18, 19, 20, 21, 57, 58, 59, 60, 61, 62, 63, 64, 65, 66, 67] (by decide +kernel) (by decide +kernel)) (goodIn_sub (fun _ h => List.mem_cons_of_mem _ (List.mem_append_left _ (List.mem_append_right _ h))) (by decide +kernel))) (goodIn_sub (fun _ h => List.mem_cons_of_mem _ (List.mem_append_right _ h)) (by decide +kernel))
set_option maxRecDepth 20000 in
theorem gL_does_X0_give : GoodIn wsL_does (wsV RL 8 RX0 yX0_give wsX0_give) := goodIn_app (goodIn_of _ (by decide +kernel)) ggL_does_X0_give
set_option maxRecDepth 20000 in
theorem ggL_does_X0_place : GoodIn wsL_does wsX0_place := goodIn_ca (goodIn_ca (goodIn_r _ [25, 8, 9, 10, 11, 12, 26, 14, 15, 27, 28, 16, 17, 6, 18, 19, 20, 21, 29, 30, 31, 32, 13, 33, 34, 35, 36, 37, 38, 39, 40, 41, 42, 43, 44, 45, 46, 47, 48, 49, 50, 51, 52, 53, 54, 55, 56, 57, 58, 59, 60, 61, 62, 63, 64, 65, 66, 67] (by decide +kernel) (by decide +kernel)) (goodIn_sub (fun _ h => List.mem_cons_of_mem _ (List.mem_append_left _ (List.mem_append_right _ h))) (by decide +kernel))) (goodIn_sub (fun _ h => List.mem_cons_of_mem _ (List.mem_append_right _ h)) (by decide +kernel))
set_option maxRecDepth 20000 in
theorem gL_does_X0_place : GoodIn wsL_does (wsV RL 14 RX0 yX0_place wsX0_place) := goodIn_app (goodIn_of _ (by decide +kernel)) ggL_does_X0_place
theorem dL_does_0 : decode cL_does 0 = .ok (.iload_n 1, 1) := by decide +kernel
theorem dL_does_1 : decode cL_does 1 = .ok (.ifCond .eq 11, 3) := by decide +kernel
theorem dL_does_4 : decode cL_does 4 = .ok (.aload_n 0, 1) := by decide +kernel
theorem dL_does_5 : decode cL_does 5 = .ok (.iload_n 2, 1) := by decide +kernel
theorem dL_does_6 : decode cL_does 6 = .ok (.invokevirtual 8, 3) := by decide +kernel
theorem dL_does_9 : decode cL_does 9 = .ok (.goto 8, 3) := by decide +kernel
theorem dL_does_12 : decode cL_does 12 = .ok (.aload_n 0, 1) := by decide +kernel
theorem dL_does_13 : decode cL_does 13 = .ok (.iload_n 2, 1) := by decide +kernel
theorem dL_does_14 : decode cL_does 14 = .ok (.invokevirtual 14, 3) := by decide +kernel
theorem dL_does_17 : decode cL_does 17 = .ok (.ireturn, 1) := by decide +kernel
theorem dL_does_18 : decode cL_does 18 = .ok (.astore_n 3, 1) := by decide +kernel
theorem dL_does_19 : decode cL_does 19 = .ok (.bipush (-30), 2) := by decide +kernel
theorem dL_does_21 : decode cL_does 21 = .ok (.ireturn, 1) := by decide +kernel
theorem dL_does_22 : decode cL_does 22 = .ok (.astore_n 3, 1) := by decide +kernel
theorem dL_does_23 : decode cL_does 23 = .ok (.bipush (-10), 2) := by decide +kernel
theorem dL_does_25 : decode cL_does 25 = .ok (.ireturn, 1) := by decide +kernel
set_option maxRecDepth 20000 in
theorem ggL_asks_X0_pieceAt : GoodIn wsL_asks wsX0_pieceAt := goodIn_ca (goodIn_r _ [8, 9, 10, 11, 12, 13, 14, 7, 15, 16, 17, 18, 19, 20, 21, 22, 146, 147, 148, 149, 150, 151, 152, 153, 154, 155, 156] (by decide +kernel) (by decide +kernel)) (goodIn_sub (fun _ h => List.mem_cons_of_mem _ (List.mem_append_left _ (List.mem_append_left _ (List.mem_append_right _ h)))) (by decide +kernel))
set_option maxRecDepth 20000 in
theorem gL_asks_X0_pieceAt : GoodIn wsL_asks (wsV RL 21 RX0 yX0_pieceAt wsX0_pieceAt) := goodIn_app (goodIn_of _ (by decide +kernel)) ggL_asks_X0_pieceAt
set_option maxRecDepth 20000 in
theorem ggL_asks_X0_onLine : GoodIn wsL_asks wsX0_onLine := goodIn_ca (goodIn_r _ [26, 9, 10, 27, 11, 28, 29, 30, 7, 31, 32, 33, 34, 35, 36, 37, 38, 39, 146, 147, 148, 149, 150, 151, 152, 153, 154, 155, 156] (by decide +kernel) (by decide +kernel)) (goodIn_sub (fun _ h => List.mem_cons_of_mem _ (List.mem_append_left _ (List.mem_append_left _ (List.mem_append_right _ h)))) (by decide +kernel))
set_option maxRecDepth 20000 in
theorem gL_asks_X0_onLine : GoodIn wsL_asks (wsV RL 24 RX0 yX0_onLine wsX0_onLine) := goodIn_app (goodIn_of _ (by decide +kernel)) ggL_asks_X0_onLine
set_option maxRecDepth 20000 in
theorem ggL_asks_X0_shared : GoodIn wsL_asks wsX0_shared := goodIn_ca (goodIn_r _ [43, 9, 10, 27, 28, 29, 30, 7, 31, 32, 44, 45, 46, 47, 11, 12, 19, 20, 21, 22, 146, 147, 148, 149, 150, 151, 152, 153, 154, 155, 156] (by decide +kernel) (by decide +kernel)) (goodIn_sub (fun _ h => List.mem_cons_of_mem _ (List.mem_append_left _ (List.mem_append_left _ (List.mem_append_right _ h)))) (by decide +kernel))
set_option maxRecDepth 20000 in
theorem gL_asks_X0_shared : GoodIn wsL_asks (wsV RL 27 RX0 yX0_shared wsX0_shared) := goodIn_app (goodIn_of _ (by decide +kernel)) ggL_asks_X0_shared
set_option maxRecDepth 20000 in
theorem ggL_asks_X0_winning : GoodIn wsL_asks wsX0_winning := goodIn_ca (goodIn_ca (goodIn_r _ [51, 9, 10, 52, 53, 54, 55, 13, 14, 7, 15, 16, 17, 18, 56, 57, 58, 59, 27, 11, 60, 61, 62, 28, 29, 30, 31, 32, 63, 64, 65, 66, 44, 45, 46, 47, 12, 19, 20, 21, 22, 146, 147, 148, 149, 150, 151, 152, 153, 154, 155, 156] (by decide +kernel) (by decide +kernel)) (goodIn_sub (fun _ h => List.mem_cons_of_mem _ (List.mem_append_left _ (List.mem_append_left _ (List.mem_append_right _ h)))) (by decide +kernel))) (goodIn_sub (fun _ h => List.mem_cons_of_mem _ (List.mem_append_left _ (List.mem_append_right _ h))) (by decide +kernel))
set_option maxRecDepth 20000 in
theorem gL_asks_X0_winning : GoodIn wsL_asks (wsV RL 30 RX0 yX0_winning wsX0_winning) := goodIn_app (goodIn_of _ (by decide +kernel)) ggL_asks_X0_winning
set_option maxRecDepth 20000 in
theorem ggL_asks_X0_safe : GoodIn wsL_asks wsX0_safe := goodIn_ca (goodIn_r _ [70, 52, 53, 54, 71, 72, 73, 7, 74, 55, 75, 76, 77, 78, 27, 28, 29, 30, 31, 32, 63, 64, 65, 66, 11, 44, 45, 46, 47, 12, 19, 20, 21, 22, 16, 17, 18, 60, 61, 62, 146, 147, 148, 149, 150, 151, 152, 153, 154, 155, 156] (by decide +kernel) (by decide +kernel)) (goodIn_sub (fun _ h => List.mem_cons_of_mem _ (List.mem_append_left _ (List.mem_append_right _ h))) (by decide +kernel))
set_option maxRecDepth 20000 in
theorem gL_asks_X0_safe : GoodIn wsL_asks (wsV RL 33 RX0 yX0_safe wsX0_safe) := goodIn_app (goodIn_of _ (by decide +kernel)) ggL_asks_X0_safe
set_option maxRecDepth 20000 in
theorem ggL_asks_X0_worth : GoodIn wsL_asks wsX0_worth := goodIn_ca (goodIn_ca (goodIn_r _ [82, 83, 84, 52, 53, 54, 85, 86, 87, 88, 7, 89, 11, 33, 34, 35, 36, 37, 38, 39, 90, 91, 92, 93, 94, 95, 96, 97, 71, 72, 73, 74, 55, 75, 76, 77, 78, 27, 28, 29, 30, 31, 32, 63, 64, 65, 66, 44, 45, 46, 47, 12, 19, 20, 21, 22, 16, 17, 18, 60, 61, 62, 98, 99, 100, 101, 102, 103, 104, 105, 106, 107, 108, 109, 110, 111, 112, 113, 114, 115, 116, 117, 118, 119, 120, 121, 122, 123, 124, 125, 126, 127, 128, 129, 56, 57, 58, 59, 146, 147, 148, 149, 150, 151, 152, 153, 154, 155, 156] (by decide +kernel) (by decide +kernel)) (goodIn_sub (fun _ h => List.mem_cons_of_mem _ (List.mem_append_right _ h)) (by decide +kernel))) (goodIn_sub (fun _ h => List.mem_cons_of_mem _ (List.mem_append_left _ (List.mem_append_right _ h))) (by decide +kernel))
set_option maxRecDepth 20000 in
theorem gL_asks_X0_worth : GoodIn wsL_asks (wsV RL 37 RX0 yX0_worth wsX0_worth) := goodIn_app (goodIn_of _ (by decide +kernel)) ggL_asks_X0_worth
set_option maxRecDepth 20000 in
theorem ggL_asks_X0_best : GoodIn wsL_asks wsX0_best := goodIn_ca (goodIn_ca (goodIn_r _ [133, 83, 84, 52, 53, 54, 86, 87, 88, 7, 89, 11, 33, 34, 35, 36, 37, 38, 39, 134, 135, 136, 137, 55, 90, 91, 92, 93, 94, 95, 96, 97, 71, 72, 73, 74, 75, 76, 77, 78, 27, 28, 29, 30, 31, 32, 63, 64, 65, 66, 44, 45, 46, 47, 12, 19, 20, 21, 22, 16, 17, 18, 60, 61, 62, 98, 99, 100, 101, 102, 103, 104, 105, 106, 107, 108, 109, 110, 111, 112, 113, 114, 115, 116, 117, 118, 119, 120, 121, 122, 123, 124, 125, 126, 127, 128, 129, 56, 57, 58, 59, 138, 139, 140, 141, 85, 142, 143, 144, 145, 146, 147, 148, 149, 150, 151, 152, 153, 154, 155, 156] (by decide +kernel) (by decide +kernel)) (goodIn_sub (fun _ h => List.mem_cons_of_mem _ (List.mem_append_right _ h)) (by decide +kernel))) (goodIn_sub (fun _ h => List.mem_cons_of_mem _ (List.mem_append_left _ (List.mem_append_right _ h))) (by decide +kernel))
set_option maxRecDepth 20000 in
theorem gL_asks_X0_best : GoodIn wsL_asks (wsV RL 40 RX0 yX0_best wsX0_best) := goodIn_app (goodIn_of _ (by decide +kernel)) ggL_asks_X0_best
theorem dL_asks_0 : decode cL_asks 0 = .ok (.iload_n 1, 1) := by decide +kernel
theorem dL_asks_1 : decode cL_asks 1 = .ok (.ifCond .ne 11, 3) := by decide +kernel
theorem dL_asks_4 : decode cL_asks 4 = .ok (.aload_n 0, 1) := by decide +kernel
theorem dL_asks_5 : decode cL_asks 5 = .ok (.iload_n 2, 1) := by decide +kernel
theorem dL_asks_6 : decode cL_asks 6 = .ok (.invokevirtual 21, 3) := by decide +kernel
theorem dL_asks_9 : decode cL_asks 9 = .ok (.goto 72, 3) := by decide +kernel
theorem dL_asks_12 : decode cL_asks 12 = .ok (.iload_n 1, 1) := by decide +kernel
theorem dL_asks_13 : decode cL_asks 13 = .ok (.iconst 1, 1) := by decide +kernel
theorem dL_asks_14 : decode cL_asks 14 = .ok (.if_icmp .ne 11, 3) := by decide +kernel
theorem dL_asks_17 : decode cL_asks 17 = .ok (.aload_n 0, 1) := by decide +kernel
theorem dL_asks_18 : decode cL_asks 18 = .ok (.iload_n 2, 1) := by decide +kernel
theorem dL_asks_19 : decode cL_asks 19 = .ok (.invokevirtual 24, 3) := by decide +kernel
theorem dL_asks_22 : decode cL_asks 22 = .ok (.goto 59, 3) := by decide +kernel
theorem dL_asks_25 : decode cL_asks 25 = .ok (.iload_n 1, 1) := by decide +kernel
theorem dL_asks_26 : decode cL_asks 26 = .ok (.iconst 2, 1) := by decide +kernel
theorem dL_asks_27 : decode cL_asks 27 = .ok (.if_icmp .ne 11, 3) := by decide +kernel
theorem dL_asks_30 : decode cL_asks 30 = .ok (.aload_n 0, 1) := by decide +kernel
theorem dL_asks_31 : decode cL_asks 31 = .ok (.iload_n 2, 1) := by decide +kernel
theorem dL_asks_32 : decode cL_asks 32 = .ok (.invokevirtual 27, 3) := by decide +kernel
theorem dL_asks_35 : decode cL_asks 35 = .ok (.goto 46, 3) := by decide +kernel
theorem dL_asks_38 : decode cL_asks 38 = .ok (.iload_n 1, 1) := by decide +kernel
theorem dL_asks_39 : decode cL_asks 39 = .ok (.iconst 3, 1) := by decide +kernel
theorem dL_asks_40 : decode cL_asks 40 = .ok (.if_icmp .ne 11, 3) := by decide +kernel
theorem dL_asks_43 : decode cL_asks 43 = .ok (.aload_n 0, 1) := by decide +kernel
theorem dL_asks_44 : decode cL_asks 44 = .ok (.iload_n 2, 1) := by decide +kernel
theorem dL_asks_45 : decode cL_asks 45 = .ok (.invokevirtual 30, 3) := by decide +kernel
theorem dL_asks_48 : decode cL_asks 48 = .ok (.goto 33, 3) := by decide +kernel
theorem dL_asks_51 : decode cL_asks 51 = .ok (.iload_n 1, 1) := by decide +kernel
theorem dL_asks_52 : decode cL_asks 52 = .ok (.iconst 4, 1) := by decide +kernel
theorem dL_asks_53 : decode cL_asks 53 = .ok (.if_icmp .ne 10, 3) := by decide +kernel
theorem dL_asks_56 : decode cL_asks 56 = .ok (.aload_n 0, 1) := by decide +kernel
theorem dL_asks_57 : decode cL_asks 57 = .ok (.invokevirtual 33, 3) := by decide +kernel
theorem dL_asks_60 : decode cL_asks 60 = .ok (.goto 21, 3) := by decide +kernel
theorem dL_asks_63 : decode cL_asks 63 = .ok (.iload_n 1, 1) := by decide +kernel
theorem dL_asks_64 : decode cL_asks 64 = .ok (.iconst 5, 1) := by decide +kernel
theorem dL_asks_65 : decode cL_asks 65 = .ok (.if_icmp .ne 11, 3) := by decide +kernel
theorem dL_asks_68 : decode cL_asks 68 = .ok (.aload_n 0, 1) := by decide +kernel
theorem dL_asks_69 : decode cL_asks 69 = .ok (.iload_n 2, 1) := by decide +kernel
theorem dL_asks_70 : decode cL_asks 70 = .ok (.invokevirtual 37, 3) := by decide +kernel
theorem dL_asks_73 : decode cL_asks 73 = .ok (.goto 8, 3) := by decide +kernel
theorem dL_asks_76 : decode cL_asks 76 = .ok (.aload_n 0, 1) := by decide +kernel
theorem dL_asks_77 : decode cL_asks 77 = .ok (.iload_n 2, 1) := by decide +kernel
theorem dL_asks_78 : decode cL_asks 78 = .ok (.invokevirtual 40, 3) := by decide +kernel
theorem dL_asks_81 : decode cL_asks 81 = .ok (.ireturn, 1) := by decide +kernel
theorem dL_asks_82 : decode cL_asks 82 = .ok (.astore_n 3, 1) := by decide +kernel
theorem dL_asks_83 : decode cL_asks 83 = .ok (.bipush (-30), 2) := by decide +kernel
theorem dL_asks_85 : decode cL_asks 85 = .ok (.ireturn, 1) := by decide +kernel
theorem dL_asks_86 : decode cL_asks 86 = .ok (.astore_n 3, 1) := by decide +kernel
theorem dL_asks_87 : decode cL_asks 87 = .ok (.bipush (-20), 2) := by decide +kernel
theorem dL_asks_89 : decode cL_asks 89 = .ok (.ireturn, 1) := by decide +kernel
theorem dL_asks_90 : decode cL_asks 90 = .ok (.astore_n 3, 1) := by decide +kernel
theorem dL_asks_91 : decode cL_asks 91 = .ok (.bipush (-10), 2) := by decide +kernel
theorem dL_asks_93 : decode cL_asks 93 = .ok (.ireturn, 1) := by decide +kernel
set_option maxRecDepth 20000 in
theorem ggL_alike_X0_isAlike : GoodIn wsL_alike wsX0_isAlike := goodIn_ca (goodIn_r _ [6, 7, 8, 9, 10, 11, 12, 13, 14, 5, 15, 16, 17, 18, 19, 20, 21, 22, 23, 24, 25, 26, 27, 28, 29, 30, 31, 32, 33, 34, 35, 36, 37, 38, 39, 40, 41, 42, 43, 44, 45] (by decide +kernel) (by decide +kernel)) (goodIn_sub (fun _ h => List.mem_cons_of_mem _ (List.mem_append_right _ h)) (by decide +kernel))
set_option maxRecDepth 20000 in
theorem gL_alike_X0_isAlike : GoodIn wsL_alike (wsV RL 45 RX0 yX0_isAlike wsX0_isAlike) := goodIn_app (goodIn_of _ (by decide +kernel)) ggL_alike_X0_isAlike
theorem dL_alike_0 : decode cL_alike 0 = .ok (.aload_n 0, 1) := by decide +kernel
theorem dL_alike_1 : decode cL_alike 1 = .ok (.invokevirtual 45, 3) := by decide +kernel
theorem dL_alike_4 : decode cL_alike 4 = .ok (.ifCond .eq 7, 3) := by decide +kernel
theorem dL_alike_7 : decode cL_alike 7 = .ok (.iconst 1, 1) := by decide +kernel
theorem dL_alike_8 : decode cL_alike 8 = .ok (.goto 4, 3) := by decide +kernel
theorem dL_alike_11 : decode cL_alike 11 = .ok (.iconst 0, 1) := by decide +kernel
theorem dL_alike_12 : decode cL_alike 12 = .ok (.ireturn, 1) := by decide +kernel
theorem dL_alike_13 : decode cL_alike 13 = .ok (.astore_n 1, 1) := by decide +kernel
theorem dL_alike_14 : decode cL_alike 14 = .ok (.bipush (-10), 2) := by decide +kernel
theorem dL_alike_16 : decode cL_alike 16 = .ok (.ireturn, 1) := by decide +kernel
theorem dL_square_0 : decode cL_square 0 = .ok (.iload_n 0, 1) := by decide +kernel
theorem dL_square_1 : decode cL_square 1 = .ok (.bipush 9, 2) := by decide +kernel
theorem dL_square_3 : decode cL_square 3 = .ok (.if_icmp .le 29, 3) := by decide +kernel
theorem dL_square_6 : decode cL_square 6 = .ok (.iload_n 0, 1) := by decide +kernel
theorem dL_square_7 : decode cL_square 7 = .ok (.bipush 10, 2) := by decide +kernel
theorem dL_square_9 : decode cL_square 9 = .ok (.isub, 1) := by decide +kernel
theorem dL_square_10 : decode cL_square 10 = .ok (.iconst 3, 1) := by decide +kernel
theorem dL_square_11 : decode cL_square 11 = .ok (.idiv, 1) := by decide +kernel
theorem dL_square_12 : decode cL_square 12 = .ok (.iconst 4, 1) := by decide +kernel
theorem dL_square_13 : decode cL_square 13 = .ok (.imul, 1) := by decide +kernel
theorem dL_square_14 : decode cL_square 14 = .ok (.iload_n 0, 1) := by decide +kernel
theorem dL_square_15 : decode cL_square 15 = .ok (.bipush 10, 2) := by decide +kernel
theorem dL_square_17 : decode cL_square 17 = .ok (.isub, 1) := by decide +kernel
theorem dL_square_18 : decode cL_square 18 = .ok (.iconst 3, 1) := by decide +kernel
theorem dL_square_19 : decode cL_square 19 = .ok (.irem, 1) := by decide +kernel
theorem dL_square_20 : decode cL_square 20 = .ok (.iadd, 1) := by decide +kernel
theorem dL_square_21 : decode cL_square 21 = .ok (.iload_n 1, 1) := by decide +kernel
theorem dL_square_22 : decode cL_square 22 = .ok (.iconst 2, 1) := by decide +kernel
theorem dL_square_23 : decode cL_square 23 = .ok (.irem, 1) := by decide +kernel
theorem dL_square_24 : decode cL_square 24 = .ok (.iadd, 1) := by decide +kernel
theorem dL_square_25 : decode cL_square 25 = .ok (.iconst 4, 1) := by decide +kernel
theorem dL_square_26 : decode cL_square 26 = .ok (.iload_n 1, 1) := by decide +kernel
theorem dL_square_27 : decode cL_square 27 = .ok (.iconst 2, 1) := by decide +kernel
theorem dL_square_28 : decode cL_square 28 = .ok (.idiv, 1) := by decide +kernel
theorem dL_square_29 : decode cL_square 29 = .ok (.imul, 1) := by decide +kernel
theorem dL_square_30 : decode cL_square 30 = .ok (.iadd, 1) := by decide +kernel
theorem dL_square_31 : decode cL_square 31 = .ok (.ireturn, 1) := by decide +kernel
theorem dL_square_32 : decode cL_square 32 = .ok (.iload_n 0, 1) := by decide +kernel
theorem dL_square_33 : decode cL_square 33 = .ok (.bipush 9, 2) := by decide +kernel
theorem dL_square_35 : decode cL_square 35 = .ok (.if_icmp .ne 11, 3) := by decide +kernel
theorem dL_square_38 : decode cL_square 38 = .ok (.iconst 3, 1) := by decide +kernel
theorem dL_square_39 : decode cL_square 39 = .ok (.iload_n 1, 1) := by decide +kernel
theorem dL_square_40 : decode cL_square 40 = .ok (.iconst 1, 1) := by decide +kernel
theorem dL_square_41 : decode cL_square 41 = .ok (.iadd, 1) := by decide +kernel
theorem dL_square_42 : decode cL_square 42 = .ok (.imul, 1) := by decide +kernel
theorem dL_square_43 : decode cL_square 43 = .ok (.goto 35, 3) := by decide +kernel
theorem dL_square_46 : decode cL_square 46 = .ok (.iload_n 0, 1) := by decide +kernel
theorem dL_square_47 : decode cL_square 47 = .ok (.bipush 8, 2) := by decide +kernel
theorem dL_square_49 : decode cL_square 49 = .ok (.if_icmp .ne 9, 3) := by decide +kernel
theorem dL_square_52 : decode cL_square 52 = .ok (.iconst 5, 1) := by decide +kernel
theorem dL_square_53 : decode cL_square 53 = .ok (.iload_n 1, 1) := by decide +kernel
theorem dL_square_54 : decode cL_square 54 = .ok (.imul, 1) := by decide +kernel
theorem dL_square_55 : decode cL_square 55 = .ok (.goto 23, 3) := by decide +kernel
theorem dL_square_58 : decode cL_square 58 = .ok (.iload_n 0, 1) := by decide +kernel
theorem dL_square_59 : decode cL_square 59 = .ok (.iconst 3, 1) := by decide +kernel
theorem dL_square_60 : decode cL_square 60 = .ok (.if_icmp .le 13, 3) := by decide +kernel
theorem dL_square_63 : decode cL_square 63 = .ok (.iload_n 0, 1) := by decide +kernel
theorem dL_square_64 : decode cL_square 64 = .ok (.iconst 4, 1) := by decide +kernel
theorem dL_square_65 : decode cL_square 65 = .ok (.isub, 1) := by decide +kernel
theorem dL_square_66 : decode cL_square 66 = .ok (.iconst 4, 1) := by decide +kernel
theorem dL_square_67 : decode cL_square 67 = .ok (.iload_n 1, 1) := by decide +kernel
theorem dL_square_68 : decode cL_square 68 = .ok (.imul, 1) := by decide +kernel
theorem dL_square_69 : decode cL_square 69 = .ok (.iadd, 1) := by decide +kernel
theorem dL_square_70 : decode cL_square 70 = .ok (.goto 8, 3) := by decide +kernel
theorem dL_square_73 : decode cL_square 73 = .ok (.iconst 4, 1) := by decide +kernel
theorem dL_square_74 : decode cL_square 74 = .ok (.iload_n 0, 1) := by decide +kernel
theorem dL_square_75 : decode cL_square 75 = .ok (.imul, 1) := by decide +kernel
theorem dL_square_76 : decode cL_square 76 = .ok (.iload_n 1, 1) := by decide +kernel
theorem dL_square_77 : decode cL_square 77 = .ok (.iadd, 1) := by decide +kernel
theorem dL_square_78 : decode cL_square 78 = .ok (.ireturn, 1) := by decide +kernel
set_option maxRecDepth 20000 in
theorem ggL_shared_L_square : GoodIn wsL_shared wsL_square := goodIn_r _ [4] (by decide +kernel) (by decide +kernel)
set_option maxRecDepth 20000 in
theorem gL_shared_L_square : GoodIn wsL_shared (va_wsS RL 49 yL_square wsL_square) := goodIn_app (goodIn_of _ (by decide +kernel)) ggL_shared_L_square
theorem dL_shared_0 : decode cL_shared 0 = .ok (.bipush 15, 2) := by decide +kernel
theorem dL_shared_2 : decode cL_shared 2 = .ok (.istore_n 2, 1) := by decide +kernel
theorem dL_shared_3 : decode cL_shared 3 = .ok (.bipush 15, 2) := by decide +kernel
theorem dL_shared_5 : decode cL_shared 5 = .ok (.istore_n 3, 1) := by decide +kernel
theorem dL_shared_6 : decode cL_shared 6 = .ok (.iconst 0, 1) := by decide +kernel
theorem dL_shared_7 : decode cL_shared 7 = .ok (.istore 4, 2) := by decide +kernel
theorem dL_shared_9 : decode cL_shared 9 = .ok (.iload 4, 2) := by decide +kernel
theorem dL_shared_11 : decode cL_shared 11 = .ok (.iconst 4, 1) := by decide +kernel
theorem dL_shared_12 : decode cL_shared 12 = .ok (.if_icmp .ge 52, 3) := by decide +kernel
theorem dL_shared_15 : decode cL_shared 15 = .ok (.aload_n 0, 1) := by decide +kernel
theorem dL_shared_16 : decode cL_shared 16 = .ok (.iload_n 1, 1) := by decide +kernel
theorem dL_shared_17 : decode cL_shared 17 = .ok (.iload 4, 2) := by decide +kernel
theorem dL_shared_19 : decode cL_shared 19 = .ok (.invokestatic 49, 3) := by decide +kernel
theorem dL_shared_22 : decode cL_shared 22 = .ok (.iaload, 1) := by decide +kernel
theorem dL_shared_23 : decode cL_shared 23 = .ok (.istore 5, 2) := by decide +kernel
theorem dL_shared_25 : decode cL_shared 25 = .ok (.iload_n 2, 1) := by decide +kernel
theorem dL_shared_26 : decode cL_shared 26 = .ok (.iload 5, 2) := by decide +kernel
theorem dL_shared_28 : decode cL_shared 28 = .ok (.ifCond .ge 8, 3) := by decide +kernel
theorem dL_shared_31 : decode cL_shared 31 = .ok (.bipush 15, 2) := by decide +kernel
theorem dL_shared_33 : decode cL_shared 33 = .ok (.goto 5, 3) := by decide +kernel
theorem dL_shared_36 : decode cL_shared 36 = .ok (.iload 5, 2) := by decide +kernel
theorem dL_shared_38 : decode cL_shared 38 = .ok (.iand, 1) := by decide +kernel
theorem dL_shared_39 : decode cL_shared 39 = .ok (.istore_n 2, 1) := by decide +kernel
theorem dL_shared_40 : decode cL_shared 40 = .ok (.iload_n 3, 1) := by decide +kernel
theorem dL_shared_41 : decode cL_shared 41 = .ok (.iload 5, 2) := by decide +kernel
theorem dL_shared_43 : decode cL_shared 43 = .ok (.ifCond .ge 8, 3) := by decide +kernel
theorem dL_shared_46 : decode cL_shared 46 = .ok (.bipush 15, 2) := by decide +kernel
theorem dL_shared_48 : decode cL_shared 48 = .ok (.goto 8, 3) := by decide +kernel
theorem dL_shared_51 : decode cL_shared 51 = .ok (.bipush 15, 2) := by decide +kernel
theorem dL_shared_53 : decode cL_shared 53 = .ok (.iload 5, 2) := by decide +kernel
theorem dL_shared_55 : decode cL_shared 55 = .ok (.isub, 1) := by decide +kernel
theorem dL_shared_56 : decode cL_shared 56 = .ok (.iand, 1) := by decide +kernel
theorem dL_shared_57 : decode cL_shared 57 = .ok (.istore_n 3, 1) := by decide +kernel
theorem dL_shared_58 : decode cL_shared 58 = .ok (.iinc 4 1, 3) := by decide +kernel
theorem dL_shared_61 : decode cL_shared 61 = .ok (.goto (-52), 3) := by decide +kernel
theorem dL_shared_64 : decode cL_shared 64 = .ok (.iload_n 2, 1) := by decide +kernel
theorem dL_shared_65 : decode cL_shared 65 = .ok (.bipush 16, 2) := by decide +kernel
theorem dL_shared_67 : decode cL_shared 67 = .ok (.iload_n 3, 1) := by decide +kernel
theorem dL_shared_68 : decode cL_shared 68 = .ok (.imul, 1) := by decide +kernel
theorem dL_shared_69 : decode cL_shared 69 = .ok (.iadd, 1) := by decide +kernel
theorem dL_shared_70 : decode cL_shared 70 = .ok (.ireturn, 1) := by decide +kernel
set_option maxRecDepth 20000 in
theorem ggL_full_L_square : GoodIn wsL_full wsL_square := goodIn_r _ [4] (by decide +kernel) (by decide +kernel)
set_option maxRecDepth 20000 in
theorem gL_full_L_square : GoodIn wsL_full (va_wsS RL 49 yL_square wsL_square) := goodIn_app (goodIn_of _ (by decide +kernel)) ggL_full_L_square
theorem dL_full_0 : decode cL_full 0 = .ok (.iconst 0, 1) := by decide +kernel
theorem dL_full_1 : decode cL_full 1 = .ok (.istore_n 2, 1) := by decide +kernel
theorem dL_full_2 : decode cL_full 2 = .ok (.iconst 0, 1) := by decide +kernel
theorem dL_full_3 : decode cL_full 3 = .ok (.istore_n 3, 1) := by decide +kernel
theorem dL_full_4 : decode cL_full 4 = .ok (.iload_n 3, 1) := by decide +kernel
theorem dL_full_5 : decode cL_full 5 = .ok (.iconst 4, 1) := by decide +kernel
theorem dL_full_6 : decode cL_full 6 = .ok (.if_icmp .ge 27, 3) := by decide +kernel
theorem dL_full_9 : decode cL_full 9 = .ok (.iload_n 2, 1) := by decide +kernel
theorem dL_full_10 : decode cL_full 10 = .ok (.aload_n 0, 1) := by decide +kernel
theorem dL_full_11 : decode cL_full 11 = .ok (.iload_n 1, 1) := by decide +kernel
theorem dL_full_12 : decode cL_full 12 = .ok (.iload_n 3, 1) := by decide +kernel
theorem dL_full_13 : decode cL_full 13 = .ok (.invokestatic 49, 3) := by decide +kernel
theorem dL_full_16 : decode cL_full 16 = .ok (.iaload, 1) := by decide +kernel
theorem dL_full_17 : decode cL_full 17 = .ok (.ifCond .ge 7, 3) := by decide +kernel
theorem dL_full_20 : decode cL_full 20 = .ok (.iconst 0, 1) := by decide +kernel
theorem dL_full_21 : decode cL_full 21 = .ok (.goto 4, 3) := by decide +kernel
theorem dL_full_24 : decode cL_full 24 = .ok (.iconst 1, 1) := by decide +kernel
theorem dL_full_25 : decode cL_full 25 = .ok (.iadd, 1) := by decide +kernel
theorem dL_full_26 : decode cL_full 26 = .ok (.istore_n 2, 1) := by decide +kernel
theorem dL_full_27 : decode cL_full 27 = .ok (.iinc 3 1, 3) := by decide +kernel
theorem dL_full_30 : decode cL_full 30 = .ok (.goto (-26), 3) := by decide +kernel
theorem dL_full_33 : decode cL_full 33 = .ok (.iload_n 2, 1) := by decide +kernel
theorem dL_full_34 : decode cL_full 34 = .ok (.ireturn, 1) := by decide +kernel
set_option maxRecDepth 20000 in
theorem ggL_won_L_full : GoodIn wsL_won wsL_full := goodIn_r _ [4, 5, 6, 3, 7] (by decide +kernel) (by decide +kernel)
set_option maxRecDepth 20000 in
theorem gL_won_L_full : GoodIn wsL_won (va_wsS RL 55 yL_full wsL_full) := goodIn_app (goodIn_of _ (by decide +kernel)) ggL_won_L_full
set_option maxRecDepth 20000 in
theorem ggL_won_L_shared : GoodIn wsL_won wsL_shared := goodIn_r _ [10, 5, 6, 3, 7] (by decide +kernel) (by decide +kernel)
set_option maxRecDepth 20000 in
theorem gL_won_L_shared : GoodIn wsL_won (va_wsS RL 59 yL_shared wsL_shared) := goodIn_app (goodIn_of _ (by decide +kernel)) ggL_won_L_shared
theorem dL_won_0 : decode cL_won 0 = .ok (.iconst 0, 1) := by decide +kernel
theorem dL_won_1 : decode cL_won 1 = .ok (.istore_n 2, 1) := by decide +kernel
theorem dL_won_2 : decode cL_won 2 = .ok (.iconst 0, 1) := by decide +kernel
theorem dL_won_3 : decode cL_won 3 = .ok (.istore_n 3, 1) := by decide +kernel
theorem dL_won_4 : decode cL_won 4 = .ok (.iload_n 3, 1) := by decide +kernel
theorem dL_won_5 : decode cL_won 5 = .ok (.iload_n 1, 1) := by decide +kernel
theorem dL_won_6 : decode cL_won 6 = .ok (.if_icmp .ge 34, 3) := by decide +kernel
theorem dL_won_9 : decode cL_won 9 = .ok (.iload_n 2, 1) := by decide +kernel
theorem dL_won_10 : decode cL_won 10 = .ok (.aload_n 0, 1) := by decide +kernel
theorem dL_won_11 : decode cL_won 11 = .ok (.iload_n 3, 1) := by decide +kernel
theorem dL_won_12 : decode cL_won 12 = .ok (.invokestatic 55, 3) := by decide +kernel
theorem dL_won_15 : decode cL_won 15 = .ok (.iconst 4, 1) := by decide +kernel
theorem dL_won_16 : decode cL_won 16 = .ok (.if_icmp .ne 15, 3) := by decide +kernel
theorem dL_won_19 : decode cL_won 19 = .ok (.aload_n 0, 1) := by decide +kernel
theorem dL_won_20 : decode cL_won 20 = .ok (.iload_n 3, 1) := by decide +kernel
theorem dL_won_21 : decode cL_won 21 = .ok (.invokestatic 59, 3) := by decide +kernel
theorem dL_won_24 : decode cL_won 24 = .ok (.ifCond .le 7, 3) := by decide +kernel
theorem dL_won_27 : decode cL_won 27 = .ok (.iconst 1, 1) := by decide +kernel
theorem dL_won_28 : decode cL_won 28 = .ok (.goto 4, 3) := by decide +kernel
theorem dL_won_31 : decode cL_won 31 = .ok (.iconst 0, 1) := by decide +kernel
theorem dL_won_32 : decode cL_won 32 = .ok (.iadd, 1) := by decide +kernel
theorem dL_won_33 : decode cL_won 33 = .ok (.istore_n 2, 1) := by decide +kernel
theorem dL_won_34 : decode cL_won 34 = .ok (.iinc 3 1, 3) := by decide +kernel
theorem dL_won_37 : decode cL_won 37 = .ok (.goto (-33), 3) := by decide +kernel
theorem dL_won_40 : decode cL_won 40 = .ok (.iload_n 2, 1) := by decide +kernel
theorem dL_won_41 : decode cL_won 41 = .ok (.ireturn, 1) := by decide +kernel
theorem dL_isOn_0 : decode cL_isOn 0 = .ok (.iconst 0, 1) := by decide +kernel
theorem dL_isOn_1 : decode cL_isOn 1 = .ok (.istore_n 2, 1) := by decide +kernel
theorem dL_isOn_2 : decode cL_isOn 2 = .ok (.iconst 0, 1) := by decide +kernel
theorem dL_isOn_3 : decode cL_isOn 3 = .ok (.istore_n 3, 1) := by decide +kernel
theorem dL_isOn_4 : decode cL_isOn 4 = .ok (.iload_n 3, 1) := by decide +kernel
theorem dL_isOn_5 : decode cL_isOn 5 = .ok (.bipush 16, 2) := by decide +kernel
theorem dL_isOn_7 : decode cL_isOn 7 = .ok (.if_icmp .ge 26, 3) := by decide +kernel
theorem dL_isOn_10 : decode cL_isOn 10 = .ok (.iload_n 2, 1) := by decide +kernel
theorem dL_isOn_11 : decode cL_isOn 11 = .ok (.ifCond .ne 10, 3) := by decide +kernel
theorem dL_isOn_14 : decode cL_isOn 14 = .ok (.aload_n 0, 1) := by decide +kernel
theorem dL_isOn_15 : decode cL_isOn 15 = .ok (.iload_n 3, 1) := by decide +kernel
theorem dL_isOn_16 : decode cL_isOn 16 = .ok (.iaload, 1) := by decide +kernel
theorem dL_isOn_17 : decode cL_isOn 17 = .ok (.iload_n 1, 1) := by decide +kernel
theorem dL_isOn_18 : decode cL_isOn 18 = .ok (.if_icmp .ne 7, 3) := by decide +kernel
theorem dL_isOn_21 : decode cL_isOn 21 = .ok (.iconst 1, 1) := by decide +kernel
theorem dL_isOn_22 : decode cL_isOn 22 = .ok (.goto 4, 3) := by decide +kernel
theorem dL_isOn_25 : decode cL_isOn 25 = .ok (.iconst 0, 1) := by decide +kernel
theorem dL_isOn_26 : decode cL_isOn 26 = .ok (.istore_n 2, 1) := by decide +kernel
theorem dL_isOn_27 : decode cL_isOn 27 = .ok (.iinc 3 1, 3) := by decide +kernel
theorem dL_isOn_30 : decode cL_isOn 30 = .ok (.goto (-26), 3) := by decide +kernel
theorem dL_isOn_33 : decode cL_isOn 33 = .ok (.iload_n 2, 1) := by decide +kernel
theorem dL_isOn_34 : decode cL_isOn 34 = .ok (.ireturn, 1) := by decide +kernel
set_option maxRecDepth 20000 in
theorem ggL_winning_L_won : GoodIn wsL_winning wsL_won := goodIn_r _ [4, 5, 6, 3, 7, 8, 9, 10, 11, 12, 13] (by decide +kernel) (by decide +kernel)
set_option maxRecDepth 20000 in
theorem gL_winning_L_won : GoodIn wsL_winning (va_wsS RL 61 yL_won wsL_won) := goodIn_app (goodIn_of _ (by decide +kernel)) ggL_winning_L_won
theorem dL_winning_0 : decode cL_winning 0 = .ok (.iconst 0, 1) := by decide +kernel
theorem dL_winning_1 : decode cL_winning 1 = .ok (.istore_n 3, 1) := by decide +kernel
theorem dL_winning_2 : decode cL_winning 2 = .ok (.iconst 0, 1) := by decide +kernel
theorem dL_winning_3 : decode cL_winning 3 = .ok (.istore 4, 2) := by decide +kernel
theorem dL_winning_5 : decode cL_winning 5 = .ok (.iload 4, 2) := by decide +kernel
theorem dL_winning_7 : decode cL_winning 7 = .ok (.bipush 16, 2) := by decide +kernel
theorem dL_winning_9 : decode cL_winning 9 = .ok (.if_icmp .ge 45, 3) := by decide +kernel
theorem dL_winning_12 : decode cL_winning 12 = .ok (.aload_n 0, 1) := by decide +kernel
theorem dL_winning_13 : decode cL_winning 13 = .ok (.iload 4, 2) := by decide +kernel
theorem dL_winning_15 : decode cL_winning 15 = .ok (.iaload, 1) := by decide +kernel
theorem dL_winning_16 : decode cL_winning 16 = .ok (.ifCond .ge 32, 3) := by decide +kernel
theorem dL_winning_19 : decode cL_winning 19 = .ok (.aload_n 0, 1) := by decide +kernel
theorem dL_winning_20 : decode cL_winning 20 = .ok (.iload 4, 2) := by decide +kernel
theorem dL_winning_22 : decode cL_winning 22 = .ok (.iload_n 2, 1) := by decide +kernel
theorem dL_winning_23 : decode cL_winning 23 = .ok (.iastore, 1) := by decide +kernel
theorem dL_winning_24 : decode cL_winning 24 = .ok (.iload_n 3, 1) := by decide +kernel
theorem dL_winning_25 : decode cL_winning 25 = .ok (.aload_n 0, 1) := by decide +kernel
theorem dL_winning_26 : decode cL_winning 26 = .ok (.iload_n 1, 1) := by decide +kernel
theorem dL_winning_27 : decode cL_winning 27 = .ok (.invokestatic 61, 3) := by decide +kernel
theorem dL_winning_30 : decode cL_winning 30 = .ok (.ifCond .le 10, 3) := by decide +kernel
theorem dL_winning_33 : decode cL_winning 33 = .ok (.iconst 1, 1) := by decide +kernel
theorem dL_winning_34 : decode cL_winning 34 = .ok (.iload 4, 2) := by decide +kernel
theorem dL_winning_36 : decode cL_winning 36 = .ok (.ishl, 1) := by decide +kernel
theorem dL_winning_37 : decode cL_winning 37 = .ok (.goto 4, 3) := by decide +kernel
theorem dL_winning_40 : decode cL_winning 40 = .ok (.iconst 0, 1) := by decide +kernel
theorem dL_winning_41 : decode cL_winning 41 = .ok (.ior, 1) := by decide +kernel
theorem dL_winning_42 : decode cL_winning 42 = .ok (.istore_n 3, 1) := by decide +kernel
theorem dL_winning_43 : decode cL_winning 43 = .ok (.aload_n 0, 1) := by decide +kernel
theorem dL_winning_44 : decode cL_winning 44 = .ok (.iload 4, 2) := by decide +kernel
theorem dL_winning_46 : decode cL_winning 46 = .ok (.iconst (-1), 1) := by decide +kernel
theorem dL_winning_47 : decode cL_winning 47 = .ok (.iastore, 1) := by decide +kernel
theorem dL_winning_48 : decode cL_winning 48 = .ok (.iinc 4 1, 3) := by decide +kernel
theorem dL_winning_51 : decode cL_winning 51 = .ok (.goto (-46), 3) := by decide +kernel
theorem dL_winning_54 : decode cL_winning 54 = .ok (.iload_n 3, 1) := by decide +kernel
theorem dL_winning_55 : decode cL_winning 55 = .ok (.ireturn, 1) := by decide +kernel
set_option maxRecDepth 20000 in
theorem ggL_safe_L_isOn : GoodIn wsL_safe wsL_isOn := goodIn_r _ [4] (by decide +kernel) (by decide +kernel)
set_option maxRecDepth 20000 in
theorem gL_safe_L_isOn : GoodIn wsL_safe (va_wsS RL 64 yL_isOn wsL_isOn) := goodIn_app (goodIn_of _ (by decide +kernel)) ggL_safe_L_isOn
set_option maxRecDepth 20000 in
theorem ggL_safe_L_winning : GoodIn wsL_safe wsL_winning := goodIn_r _ [7, 8, 9, 3, 10, 11, 12, 13, 14, 15, 16, 17, 18, 19] (by decide +kernel) (by decide +kernel)
set_option maxRecDepth 20000 in
theorem gL_safe_L_winning : GoodIn wsL_safe (va_wsS RL 68 yL_winning wsL_winning) := goodIn_app (goodIn_of _ (by decide +kernel)) ggL_safe_L_winning
theorem dL_safe_0 : decode cL_safe 0 = .ok (.iconst 0, 1) := by decide +kernel
theorem dL_safe_1 : decode cL_safe 1 = .ok (.istore_n 2, 1) := by decide +kernel
theorem dL_safe_2 : decode cL_safe 2 = .ok (.iconst 0, 1) := by decide +kernel
theorem dL_safe_3 : decode cL_safe 3 = .ok (.istore_n 3, 1) := by decide +kernel
theorem dL_safe_4 : decode cL_safe 4 = .ok (.iload_n 3, 1) := by decide +kernel
theorem dL_safe_5 : decode cL_safe 5 = .ok (.bipush 16, 2) := by decide +kernel
theorem dL_safe_7 : decode cL_safe 7 = .ok (.if_icmp .ge 36, 3) := by decide +kernel
theorem dL_safe_10 : decode cL_safe 10 = .ok (.iload_n 2, 1) := by decide +kernel
theorem dL_safe_11 : decode cL_safe 11 = .ok (.aload_n 0, 1) := by decide +kernel
theorem dL_safe_12 : decode cL_safe 12 = .ok (.iload_n 3, 1) := by decide +kernel
theorem dL_safe_13 : decode cL_safe 13 = .ok (.invokestatic 64, 3) := by decide +kernel
theorem dL_safe_16 : decode cL_safe 16 = .ok (.ifCond .ne 18, 3) := by decide +kernel
theorem dL_safe_19 : decode cL_safe 19 = .ok (.aload_n 0, 1) := by decide +kernel
theorem dL_safe_20 : decode cL_safe 20 = .ok (.iload_n 1, 1) := by decide +kernel
theorem dL_safe_21 : decode cL_safe 21 = .ok (.iload_n 3, 1) := by decide +kernel
theorem dL_safe_22 : decode cL_safe 22 = .ok (.invokestatic 68, 3) := by decide +kernel
theorem dL_safe_25 : decode cL_safe 25 = .ok (.ifCond .ne 9, 3) := by decide +kernel
theorem dL_safe_28 : decode cL_safe 28 = .ok (.iconst 1, 1) := by decide +kernel
theorem dL_safe_29 : decode cL_safe 29 = .ok (.iload_n 3, 1) := by decide +kernel
theorem dL_safe_30 : decode cL_safe 30 = .ok (.ishl, 1) := by decide +kernel
theorem dL_safe_31 : decode cL_safe 31 = .ok (.goto 4, 3) := by decide +kernel
theorem dL_safe_34 : decode cL_safe 34 = .ok (.iconst 0, 1) := by decide +kernel
theorem dL_safe_35 : decode cL_safe 35 = .ok (.ior, 1) := by decide +kernel
theorem dL_safe_36 : decode cL_safe 36 = .ok (.istore_n 2, 1) := by decide +kernel
theorem dL_safe_37 : decode cL_safe 37 = .ok (.iinc 3 1, 3) := by decide +kernel
theorem dL_safe_40 : decode cL_safe 40 = .ok (.goto (-36), 3) := by decide +kernel
theorem dL_safe_43 : decode cL_safe 43 = .ok (.iload_n 2, 1) := by decide +kernel
theorem dL_safe_44 : decode cL_safe 44 = .ok (.ireturn, 1) := by decide +kernel
theorem dL_lowest_0 : decode cL_lowest 0 = .ok (.iconst 0, 1) := by decide +kernel
theorem dL_lowest_1 : decode cL_lowest 1 = .ok (.istore_n 1, 1) := by decide +kernel
theorem dL_lowest_2 : decode cL_lowest 2 = .ok (.iload_n 1, 1) := by decide +kernel
theorem dL_lowest_3 : decode cL_lowest 3 = .ok (.bipush 16, 2) := by decide +kernel
theorem dL_lowest_5 : decode cL_lowest 5 = .ok (.if_icmp .ge 17, 3) := by decide +kernel
theorem dL_lowest_8 : decode cL_lowest 8 = .ok (.iload_n 0, 1) := by decide +kernel
theorem dL_lowest_9 : decode cL_lowest 9 = .ok (.iload_n 1, 1) := by decide +kernel
theorem dL_lowest_10 : decode cL_lowest 10 = .ok (.ishr, 1) := by decide +kernel
theorem dL_lowest_11 : decode cL_lowest 11 = .ok (.iconst 1, 1) := by decide +kernel
theorem dL_lowest_12 : decode cL_lowest 12 = .ok (.iand, 1) := by decide +kernel
theorem dL_lowest_13 : decode cL_lowest 13 = .ok (.ifCond .ne 9, 3) := by decide +kernel
theorem dL_lowest_16 : decode cL_lowest 16 = .ok (.iinc 1 1, 3) := by decide +kernel
theorem dL_lowest_19 : decode cL_lowest 19 = .ok (.goto (-17), 3) := by decide +kernel
theorem dL_lowest_22 : decode cL_lowest 22 = .ok (.iload_n 1, 1) := by decide +kernel
theorem dL_lowest_23 : decode cL_lowest 23 = .ok (.ireturn, 1) := by decide +kernel
set_option maxRecDepth 20000 in
theorem ggL_isBoard_X0_lines : GoodIn wsL_isBoard wsX0_lines := goodIn_r _ [5, 6, 7, 182, 183, 184, 185, 186, 187, 188, 189, 190, 191, 192] (by decide +kernel) (by decide +kernel)
set_option maxRecDepth 20000 in
theorem gL_isBoard_X0_lines : GoodIn wsL_isBoard (wsV RL 71 RX0 yX0_lines wsX0_lines) := goodIn_app (goodIn_of _ (by decide +kernel)) ggL_isBoard_X0_lines
set_option maxRecDepth 20000 in
theorem ggL_isBoard_X0_phase : GoodIn wsL_isBoard wsX0_phase := goodIn_r _ [11, 12, 182, 183, 184, 185, 186, 187, 188, 189, 190, 191, 192] (by decide +kernel) (by decide +kernel)
set_option maxRecDepth 20000 in
theorem gL_isBoard_X0_phase : GoodIn wsL_isBoard (wsV RL 74 RX0 yX0_phase wsX0_phase) := goodIn_app (goodIn_of _ (by decide +kernel)) ggL_isBoard_X0_phase
set_option maxRecDepth 20000 in
theorem ggL_isBoard_X0_onTurn : GoodIn wsL_isBoard wsX0_onTurn := goodIn_r _ [16, 17, 182, 183, 184, 185, 186, 187, 188, 189, 190, 191, 192] (by decide +kernel) (by decide +kernel)
set_option maxRecDepth 20000 in
theorem gL_isBoard_X0_onTurn : GoodIn wsL_isBoard (wsV RL 77 RX0 yX0_onTurn wsX0_onTurn) := goodIn_app (goodIn_of _ (by decide +kernel)) ggL_isBoard_X0_onTurn
set_option maxRecDepth 20000 in
theorem ggL_isBoard_X0_hand : GoodIn wsL_isBoard wsX0_hand := goodIn_r _ [21, 22, 182, 183, 184, 185, 186, 187, 188, 189, 190, 191, 192] (by decide +kernel) (by decide +kernel)
set_option maxRecDepth 20000 in
theorem gL_isBoard_X0_hand : GoodIn wsL_isBoard (wsV RL 80 RX0 yX0_hand wsX0_hand) := goodIn_app (goodIn_of _ (by decide +kernel)) ggL_isBoard_X0_hand
set_option maxRecDepth 20000 in
theorem ggL_isBoard_X0_placed : GoodIn wsL_isBoard wsX0_placed := goodIn_r _ [26, 27, 28, 29, 30, 31, 32, 33, 34, 182, 183, 184, 185, 186, 187, 188, 189, 190, 191, 192] (by decide +kernel) (by decide +kernel)
set_option maxRecDepth 20000 in
theorem gL_isBoard_X0_placed : GoodIn wsL_isBoard (wsV RL 83 RX0 yX0_placed wsX0_placed) := goodIn_app (goodIn_of _ (by decide +kernel)) ggL_isBoard_X0_placed
set_option maxRecDepth 20000 in
theorem ggL_isBoard_X0_winner : GoodIn wsL_isBoard wsX0_winner := goodIn_r _ [38, 39, 182, 183, 184, 185, 186, 187, 188, 189, 190, 191, 192] (by decide +kernel) (by decide +kernel)
set_option maxRecDepth 20000 in
theorem gL_isBoard_X0_winner : GoodIn wsL_isBoard (wsV RL 86 RX0 yX0_winner wsX0_winner) := goodIn_app (goodIn_of _ (by decide +kernel)) ggL_isBoard_X0_winner
set_option maxRecDepth 20000 in
theorem ggL_isBoard_X0_pieceAt : GoodIn wsL_isBoard wsX0_pieceAt := goodIn_ca (goodIn_r _ [43, 44, 45, 27, 46, 47, 48, 4, 49, 50, 51, 52, 53, 54, 55, 56, 182, 183, 184, 185, 186, 187, 188, 189, 190, 191, 192] (by decide +kernel) (by decide +kernel)) (goodIn_sub (fun _ h => List.mem_cons_of_mem _ (List.mem_append_left _ (List.mem_append_left _ (List.mem_append_right _ h)))) (by decide +kernel))
set_option maxRecDepth 20000 in
theorem gL_isBoard_X0_pieceAt : GoodIn wsL_isBoard (wsV RL 21 RX0 yX0_pieceAt wsX0_pieceAt) := goodIn_app (goodIn_of _ (by decide +kernel)) ggL_isBoard_X0_pieceAt
set_option maxRecDepth 20000 in
theorem ggL_isBoard_X0_onLine : GoodIn wsL_isBoard wsX0_onLine := goodIn_ca (goodIn_r _ [60, 44, 45, 7, 27, 61, 2, 3, 4, 5, 6, 28, 29, 30, 31, 32, 33, 34, 182, 183, 184, 185, 186, 187, 188, 189, 190, 191, 192] (by decide +kernel) (by decide +kernel)) (goodIn_sub (fun _ h => List.mem_cons_of_mem _ (List.mem_append_left _ (List.mem_append_left _ (List.mem_append_right _ h)))) (by decide +kernel))
set_option maxRecDepth 20000 in
theorem gL_isBoard_X0_onLine : GoodIn wsL_isBoard (wsV RL 24 RX0 yX0_onLine wsX0_onLine) := goodIn_app (goodIn_of _ (by decide +kernel)) ggL_isBoard_X0_onLine
set_option maxRecDepth 20000 in
theorem ggL_isBoard_L_full : GoodIn wsL_isBoard wsL_full := goodIn_r _ [65, 66, 67, 64, 68] (by decide +kernel) (by decide +kernel)
set_option maxRecDepth 20000 in
theorem gL_isBoard_L_full : GoodIn wsL_isBoard (va_wsS RL 55 yL_full wsL_full) := goodIn_app (goodIn_of _ (by decide +kernel)) ggL_isBoard_L_full
set_option maxRecDepth 20000 in
theorem ggL_isBoard_X0_shared : GoodIn wsL_isBoard wsX0_shared := goodIn_ca (goodIn_r _ [72, 44, 45, 7, 61, 2, 3, 4, 5, 6, 73, 74, 75, 76, 27, 46, 53, 54, 55, 56, 182, 183, 184, 185, 186, 187, 188, 189, 190, 191, 192] (by decide +kernel) (by decide +kernel)) (goodIn_sub (fun _ h => List.mem_cons_of_mem _ (List.mem_append_left _ (List.mem_append_left _ (List.mem_append_right _ h)))) (by decide +kernel))
set_option maxRecDepth 20000 in
theorem gL_isBoard_X0_shared : GoodIn wsL_isBoard (wsV RL 27 RX0 yX0_shared wsX0_shared) := goodIn_app (goodIn_of _ (by decide +kernel)) ggL_isBoard_X0_shared
set_option maxRecDepth 20000 in
theorem ggL_isBoard_L_shared : GoodIn wsL_isBoard wsL_shared := goodIn_r _ [79, 66, 67, 64, 68] (by decide +kernel) (by decide +kernel)
set_option maxRecDepth 20000 in
theorem gL_isBoard_L_shared : GoodIn wsL_isBoard (va_wsS RL 59 yL_shared wsL_shared) := goodIn_app (goodIn_of _ (by decide +kernel)) ggL_isBoard_L_shared
set_option maxRecDepth 20000 in
theorem ggL_isBoard_L_asks : GoodIn wsL_isBoard wsL_asks := goodIn_ca (goodIn_ca (goodIn_ca (goodIn_r _ [82, 83, 84, 85, 40, 41, 42, 4, 43, 44, 45, 27, 46, 47, 48, 49, 50, 51, 52, 53, 54, 55, 56, 57, 58, 59, 60, 7, 61, 2, 3, 5, 6, 28, 29, 30, 31, 32, 33, 34, 69, 70, 71, 72, 73, 74, 75, 76, 86, 87, 88, 89, 90, 91, 12, 92, 93, 94, 95, 96, 97, 98, 99, 100, 101, 102, 103, 104, 105, 106, 107, 108, 109, 110, 111, 112, 113, 114, 115, 116, 117, 118, 119, 120, 121, 22, 122, 123, 124, 125, 126, 127, 128, 129, 130, 131, 132, 133, 134, 135, 136, 137, 138, 139, 140, 141, 142, 143, 144, 145, 146, 147, 148, 149, 150, 151, 152, 153, 154, 155, 156, 157, 158, 159, 160, 161, 162, 163, 164, 165, 166, 167, 168, 169, 170, 171, 172, 173, 174, 175, 176, 177, 178, 179, 180, 181, 182, 183, 184, 185, 186, 187, 188, 189, 190, 191, 192] (by decide +kernel) (by decide +kernel)) (goodIn_sub (fun _ h => List.mem_cons_of_mem _ (List.mem_append_left _ (List.mem_append_left _ (List.mem_append_right _ h)))) (by decide +kernel))) (goodIn_sub (fun _ h => List.mem_cons_of_mem _ (List.mem_append_left _ (List.mem_append_right _ h))) (by decide +kernel))) (goodIn_sub (fun _ h => List.mem_cons_of_mem _ (List.mem_append_right _ h)) (by decide +kernel))
set_option maxRecDepth 20000 in
theorem gL_isBoard_L_asks : GoodIn wsL_isBoard (va_wsS RL 89 yL_asks wsL_asks) := goodIn_app (goodIn_of _ (by decide +kernel)) ggL_isBoard_L_asks
theorem dL_isBoard_0 : decode cL_isBoard 0 = .ok (.aload_n 0, 1) := by decide +kernel
theorem dL_isBoard_1 : decode cL_isBoard 1 = .ok (.invokevirtual 71, 3) := by decide +kernel
theorem dL_isBoard_4 : decode cL_isBoard 4 = .ok (.aload_n 2, 1) := by decide +kernel
theorem dL_isBoard_5 : decode cL_isBoard 5 = .ok (.iconst 0, 1) := by decide +kernel
theorem dL_isBoard_6 : decode cL_isBoard 6 = .ok (.iaload, 1) := by decide +kernel
theorem dL_isBoard_7 : decode cL_isBoard 7 = .ok (.if_icmp .ne 57, 3) := by decide +kernel
theorem dL_isBoard_10 : decode cL_isBoard 10 = .ok (.aload_n 0, 1) := by decide +kernel
theorem dL_isBoard_11 : decode cL_isBoard 11 = .ok (.invokevirtual 74, 3) := by decide +kernel
theorem dL_isBoard_14 : decode cL_isBoard 14 = .ok (.aload_n 2, 1) := by decide +kernel
theorem dL_isBoard_15 : decode cL_isBoard 15 = .ok (.iconst 1, 1) := by decide +kernel
theorem dL_isBoard_16 : decode cL_isBoard 16 = .ok (.iaload, 1) := by decide +kernel
theorem dL_isBoard_17 : decode cL_isBoard 17 = .ok (.if_icmp .ne 47, 3) := by decide +kernel
theorem dL_isBoard_20 : decode cL_isBoard 20 = .ok (.aload_n 0, 1) := by decide +kernel
theorem dL_isBoard_21 : decode cL_isBoard 21 = .ok (.invokevirtual 77, 3) := by decide +kernel
theorem dL_isBoard_24 : decode cL_isBoard 24 = .ok (.aload_n 2, 1) := by decide +kernel
theorem dL_isBoard_25 : decode cL_isBoard 25 = .ok (.iconst 2, 1) := by decide +kernel
theorem dL_isBoard_26 : decode cL_isBoard 26 = .ok (.iaload, 1) := by decide +kernel
theorem dL_isBoard_27 : decode cL_isBoard 27 = .ok (.if_icmp .ne 37, 3) := by decide +kernel
theorem dL_isBoard_30 : decode cL_isBoard 30 = .ok (.aload_n 0, 1) := by decide +kernel
theorem dL_isBoard_31 : decode cL_isBoard 31 = .ok (.invokevirtual 80, 3) := by decide +kernel
theorem dL_isBoard_34 : decode cL_isBoard 34 = .ok (.aload_n 2, 1) := by decide +kernel
theorem dL_isBoard_35 : decode cL_isBoard 35 = .ok (.iconst 3, 1) := by decide +kernel
theorem dL_isBoard_36 : decode cL_isBoard 36 = .ok (.iaload, 1) := by decide +kernel
theorem dL_isBoard_37 : decode cL_isBoard 37 = .ok (.if_icmp .ne 27, 3) := by decide +kernel
theorem dL_isBoard_40 : decode cL_isBoard 40 = .ok (.aload_n 0, 1) := by decide +kernel
theorem dL_isBoard_41 : decode cL_isBoard 41 = .ok (.invokevirtual 83, 3) := by decide +kernel
theorem dL_isBoard_44 : decode cL_isBoard 44 = .ok (.aload_n 2, 1) := by decide +kernel
theorem dL_isBoard_45 : decode cL_isBoard 45 = .ok (.iconst 4, 1) := by decide +kernel
theorem dL_isBoard_46 : decode cL_isBoard 46 = .ok (.iaload, 1) := by decide +kernel
theorem dL_isBoard_47 : decode cL_isBoard 47 = .ok (.if_icmp .ne 17, 3) := by decide +kernel
theorem dL_isBoard_50 : decode cL_isBoard 50 = .ok (.aload_n 0, 1) := by decide +kernel
theorem dL_isBoard_51 : decode cL_isBoard 51 = .ok (.invokevirtual 86, 3) := by decide +kernel
theorem dL_isBoard_54 : decode cL_isBoard 54 = .ok (.aload_n 2, 1) := by decide +kernel
theorem dL_isBoard_55 : decode cL_isBoard 55 = .ok (.iconst 5, 1) := by decide +kernel
theorem dL_isBoard_56 : decode cL_isBoard 56 = .ok (.iaload, 1) := by decide +kernel
theorem dL_isBoard_57 : decode cL_isBoard 57 = .ok (.if_icmp .ne 7, 3) := by decide +kernel
theorem dL_isBoard_60 : decode cL_isBoard 60 = .ok (.iconst 1, 1) := by decide +kernel
theorem dL_isBoard_61 : decode cL_isBoard 61 = .ok (.goto 4, 3) := by decide +kernel
theorem dL_isBoard_64 : decode cL_isBoard 64 = .ok (.iconst 0, 1) := by decide +kernel
theorem dL_isBoard_65 : decode cL_isBoard 65 = .ok (.istore_n 3, 1) := by decide +kernel
theorem dL_isBoard_66 : decode cL_isBoard 66 = .ok (.iconst 0, 1) := by decide +kernel
theorem dL_isBoard_67 : decode cL_isBoard 67 = .ok (.istore 4, 2) := by decide +kernel
theorem dL_isBoard_69 : decode cL_isBoard 69 = .ok (.iload 4, 2) := by decide +kernel
theorem dL_isBoard_71 : decode cL_isBoard 71 = .ok (.bipush 16, 2) := by decide +kernel
theorem dL_isBoard_73 : decode cL_isBoard 73 = .ok (.if_icmp .ge 32, 3) := by decide +kernel
theorem dL_isBoard_76 : decode cL_isBoard 76 = .ok (.iload_n 3, 1) := by decide +kernel
theorem dL_isBoard_77 : decode cL_isBoard 77 = .ok (.ifCond .eq 28, 3) := by decide +kernel
theorem dL_isBoard_80 : decode cL_isBoard 80 = .ok (.aload_n 0, 1) := by decide +kernel
theorem dL_isBoard_81 : decode cL_isBoard 81 = .ok (.iload 4, 2) := by decide +kernel
theorem dL_isBoard_83 : decode cL_isBoard 83 = .ok (.invokevirtual 21, 3) := by decide +kernel
theorem dL_isBoard_86 : decode cL_isBoard 86 = .ok (.aload_n 1, 1) := by decide +kernel
theorem dL_isBoard_87 : decode cL_isBoard 87 = .ok (.iload 4, 2) := by decide +kernel
theorem dL_isBoard_89 : decode cL_isBoard 89 = .ok (.iaload, 1) := by decide +kernel
theorem dL_isBoard_90 : decode cL_isBoard 90 = .ok (.if_icmp .ne 7, 3) := by decide +kernel
theorem dL_isBoard_93 : decode cL_isBoard 93 = .ok (.iconst 1, 1) := by decide +kernel
theorem dL_isBoard_94 : decode cL_isBoard 94 = .ok (.goto 4, 3) := by decide +kernel
theorem dL_isBoard_97 : decode cL_isBoard 97 = .ok (.iconst 0, 1) := by decide +kernel
theorem dL_isBoard_98 : decode cL_isBoard 98 = .ok (.istore_n 3, 1) := by decide +kernel
theorem dL_isBoard_99 : decode cL_isBoard 99 = .ok (.iinc 4 1, 3) := by decide +kernel
theorem dL_isBoard_102 : decode cL_isBoard 102 = .ok (.goto (-33), 3) := by decide +kernel
theorem dL_isBoard_105 : decode cL_isBoard 105 = .ok (.iconst 0, 1) := by decide +kernel
theorem dL_isBoard_106 : decode cL_isBoard 106 = .ok (.istore 4, 2) := by decide +kernel
theorem dL_isBoard_108 : decode cL_isBoard 108 = .ok (.iload 4, 2) := by decide +kernel
theorem dL_isBoard_110 : decode cL_isBoard 110 = .ok (.aload_n 2, 1) := by decide +kernel
theorem dL_isBoard_111 : decode cL_isBoard 111 = .ok (.iconst 0, 1) := by decide +kernel
theorem dL_isBoard_112 : decode cL_isBoard 112 = .ok (.iaload, 1) := by decide +kernel
theorem dL_isBoard_113 : decode cL_isBoard 113 = .ok (.if_icmp .ge 49, 3) := by decide +kernel
theorem dL_isBoard_116 : decode cL_isBoard 116 = .ok (.iload_n 3, 1) := by decide +kernel
theorem dL_isBoard_117 : decode cL_isBoard 117 = .ok (.ifCond .eq 45, 3) := by decide +kernel
theorem dL_isBoard_120 : decode cL_isBoard 120 = .ok (.aload_n 0, 1) := by decide +kernel
theorem dL_isBoard_121 : decode cL_isBoard 121 = .ok (.iload 4, 2) := by decide +kernel
theorem dL_isBoard_123 : decode cL_isBoard 123 = .ok (.invokevirtual 24, 3) := by decide +kernel
theorem dL_isBoard_126 : decode cL_isBoard 126 = .ok (.aload_n 1, 1) := by decide +kernel
theorem dL_isBoard_127 : decode cL_isBoard 127 = .ok (.iload 4, 2) := by decide +kernel
theorem dL_isBoard_129 : decode cL_isBoard 129 = .ok (.invokestatic 55, 3) := by decide +kernel
theorem dL_isBoard_132 : decode cL_isBoard 132 = .ok (.if_icmp .ne 22, 3) := by decide +kernel
theorem dL_isBoard_135 : decode cL_isBoard 135 = .ok (.aload_n 0, 1) := by decide +kernel
theorem dL_isBoard_136 : decode cL_isBoard 136 = .ok (.iload 4, 2) := by decide +kernel
theorem dL_isBoard_138 : decode cL_isBoard 138 = .ok (.invokevirtual 27, 3) := by decide +kernel
theorem dL_isBoard_141 : decode cL_isBoard 141 = .ok (.aload_n 1, 1) := by decide +kernel
theorem dL_isBoard_142 : decode cL_isBoard 142 = .ok (.iload 4, 2) := by decide +kernel
theorem dL_isBoard_144 : decode cL_isBoard 144 = .ok (.invokestatic 59, 3) := by decide +kernel
theorem dL_isBoard_147 : decode cL_isBoard 147 = .ok (.if_icmp .ne 7, 3) := by decide +kernel
theorem dL_isBoard_150 : decode cL_isBoard 150 = .ok (.iconst 1, 1) := by decide +kernel
theorem dL_isBoard_151 : decode cL_isBoard 151 = .ok (.goto 4, 3) := by decide +kernel
theorem dL_isBoard_154 : decode cL_isBoard 154 = .ok (.iconst 0, 1) := by decide +kernel
theorem dL_isBoard_155 : decode cL_isBoard 155 = .ok (.istore_n 3, 1) := by decide +kernel
theorem dL_isBoard_156 : decode cL_isBoard 156 = .ok (.iinc 4 1, 3) := by decide +kernel
theorem dL_isBoard_159 : decode cL_isBoard 159 = .ok (.goto (-51), 3) := by decide +kernel
theorem dL_isBoard_162 : decode cL_isBoard 162 = .ok (.iload_n 3, 1) := by decide +kernel
theorem dL_isBoard_163 : decode cL_isBoard 163 = .ok (.ifCond .eq 43, 3) := by decide +kernel
theorem dL_isBoard_166 : decode cL_isBoard 166 = .ok (.aload_n 0, 1) := by decide +kernel
theorem dL_isBoard_167 : decode cL_isBoard 167 = .ok (.iconst 1, 1) := by decide +kernel
theorem dL_isBoard_168 : decode cL_isBoard 168 = .ok (.aload_n 2, 1) := by decide +kernel
theorem dL_isBoard_169 : decode cL_isBoard 169 = .ok (.iconst 0, 1) := by decide +kernel
theorem dL_isBoard_170 : decode cL_isBoard 170 = .ok (.iaload, 1) := by decide +kernel
theorem dL_isBoard_171 : decode cL_isBoard 171 = .ok (.invokestatic 89, 3) := by decide +kernel
theorem dL_isBoard_174 : decode cL_isBoard 174 = .ok (.bipush (-30), 2) := by decide +kernel
theorem dL_isBoard_176 : decode cL_isBoard 176 = .ok (.if_icmp .ne 30, 3) := by decide +kernel
theorem dL_isBoard_179 : decode cL_isBoard 179 = .ok (.aload_n 0, 1) := by decide +kernel
theorem dL_isBoard_180 : decode cL_isBoard 180 = .ok (.iconst 2, 1) := by decide +kernel
theorem dL_isBoard_181 : decode cL_isBoard 181 = .ok (.iconst (-1), 1) := by decide +kernel
theorem dL_isBoard_182 : decode cL_isBoard 182 = .ok (.invokestatic 89, 3) := by decide +kernel
theorem dL_isBoard_185 : decode cL_isBoard 185 = .ok (.bipush (-30), 2) := by decide +kernel
theorem dL_isBoard_187 : decode cL_isBoard 187 = .ok (.if_icmp .ne 19, 3) := by decide +kernel
theorem dL_isBoard_190 : decode cL_isBoard 190 = .ok (.aload_n 0, 1) := by decide +kernel
theorem dL_isBoard_191 : decode cL_isBoard 191 = .ok (.iconst 0, 1) := by decide +kernel
theorem dL_isBoard_192 : decode cL_isBoard 192 = .ok (.bipush 16, 2) := by decide +kernel
theorem dL_isBoard_194 : decode cL_isBoard 194 = .ok (.invokestatic 89, 3) := by decide +kernel
theorem dL_isBoard_197 : decode cL_isBoard 197 = .ok (.bipush (-30), 2) := by decide +kernel
theorem dL_isBoard_199 : decode cL_isBoard 199 = .ok (.if_icmp .ne 7, 3) := by decide +kernel
theorem dL_isBoard_202 : decode cL_isBoard 202 = .ok (.iconst 1, 1) := by decide +kernel
theorem dL_isBoard_203 : decode cL_isBoard 203 = .ok (.goto 4, 3) := by decide +kernel
theorem dL_isBoard_206 : decode cL_isBoard 206 = .ok (.iconst 0, 1) := by decide +kernel
theorem dL_isBoard_207 : decode cL_isBoard 207 = .ok (.ireturn, 1) := by decide +kernel
set_option maxRecDepth 20000 in
theorem ggL_isSafe_L_asks : GoodIn wsL_isSafe wsL_asks := goodIn_ca (goodIn_ca (goodIn_ca (goodIn_r _ [4, 5, 6, 7, 8, 9, 10, 11, 12, 13, 14, 15, 16, 17, 18, 19, 20, 21, 22, 23, 24, 25, 26, 27, 28, 29, 30, 31, 32, 33, 34, 35, 36, 37, 38, 39, 40, 41, 42, 43, 44, 45, 46, 47, 48, 49, 50, 51, 52, 53, 54, 55, 56, 57, 58, 59, 60, 61, 62, 63, 64, 65, 66, 67, 68, 69, 70, 71, 72, 73, 74, 75, 76, 77, 78, 79, 80, 81, 82, 83, 84, 85, 86, 87, 88, 89, 90, 91, 92, 93, 94, 95, 96, 97, 98, 99, 100, 101, 102, 103, 104, 105, 106, 107, 108, 109, 110, 111, 112, 113, 114, 115, 116, 117, 118, 119, 120, 121, 122, 123, 124, 125, 126, 127, 128, 129, 130, 131, 132, 133, 134, 135, 136, 137, 138, 139, 140, 141, 142, 143, 144, 145, 146, 147, 148, 149, 171, 172, 173, 174, 175, 176, 177, 178, 179, 180, 181] (by decide +kernel) (by decide +kernel)) (goodIn_sub (fun _ h => List.mem_cons_of_mem _ (List.mem_append_left _ (List.mem_append_left _ (List.mem_append_right _ h)))) (by decide +kernel))) (goodIn_sub (fun _ h => List.mem_cons_of_mem _ (List.mem_append_left _ (List.mem_append_right _ h))) (by decide +kernel))) (goodIn_sub (fun _ h => List.mem_cons_of_mem _ (List.mem_append_right _ h)) (by decide +kernel))
set_option maxRecDepth 20000 in
theorem gL_isSafe_L_asks : GoodIn wsL_isSafe (va_wsS RL 89 yL_asks wsL_asks) := goodIn_app (goodIn_of _ (by decide +kernel)) ggL_isSafe_L_asks
set_option maxRecDepth 20000 in
theorem ggL_isSafe_L_isOn : GoodIn wsL_isSafe wsL_isOn := goodIn_r _ [152] (by decide +kernel) (by decide +kernel)
set_option maxRecDepth 20000 in
theorem gL_isSafe_L_isOn : GoodIn wsL_isSafe (va_wsS RL 64 yL_isOn wsL_isOn) := goodIn_app (goodIn_of _ (by decide +kernel)) ggL_isSafe_L_isOn
set_option maxRecDepth 20000 in
theorem ggL_isSafe_L_winning : GoodIn wsL_isSafe wsL_winning := goodIn_r _ [155, 156, 157, 3, 158, 159, 160, 161, 162, 163, 164, 165, 166, 167] (by decide +kernel) (by decide +kernel)
set_option maxRecDepth 20000 in
theorem gL_isSafe_L_winning : GoodIn wsL_isSafe (va_wsS RL 68 yL_winning wsL_winning) := goodIn_app (goodIn_of _ (by decide +kernel)) ggL_isSafe_L_winning
set_option maxRecDepth 20000 in
theorem ggL_isSafe_L_safe : GoodIn wsL_isSafe wsL_safe := goodIn_r _ [170, 150, 151, 3, 152, 153, 154, 155, 156, 157, 158, 159, 160, 161, 162, 163, 164, 165, 166, 167] (by decide +kernel) (by decide +kernel)
set_option maxRecDepth 20000 in
theorem gL_isSafe_L_safe : GoodIn wsL_isSafe (va_wsS RL 93 yL_safe wsL_safe) := goodIn_app (goodIn_of _ (by decide +kernel)) ggL_isSafe_L_safe
theorem dL_isSafe_0 : decode cL_isSafe 0 = .ok (.iconst 1, 1) := by decide +kernel
theorem dL_isSafe_1 : decode cL_isSafe 1 = .ok (.istore_n 3, 1) := by decide +kernel
theorem dL_isSafe_2 : decode cL_isSafe 2 = .ok (.iconst 0, 1) := by decide +kernel
theorem dL_isSafe_3 : decode cL_isSafe 3 = .ok (.istore 4, 2) := by decide +kernel
theorem dL_isSafe_5 : decode cL_isSafe 5 = .ok (.iload 4, 2) := by decide +kernel
theorem dL_isSafe_7 : decode cL_isSafe 7 = .ok (.bipush 16, 2) := by decide +kernel
theorem dL_isSafe_9 : decode cL_isSafe 9 = .ok (.if_icmp .ge 59, 3) := by decide +kernel
theorem dL_isSafe_12 : decode cL_isSafe 12 = .ok (.iload_n 3, 1) := by decide +kernel
theorem dL_isSafe_13 : decode cL_isSafe 13 = .ok (.ifCond .eq 55, 3) := by decide +kernel
theorem dL_isSafe_16 : decode cL_isSafe 16 = .ok (.aload_n 0, 1) := by decide +kernel
theorem dL_isSafe_17 : decode cL_isSafe 17 = .ok (.iconst 3, 1) := by decide +kernel
theorem dL_isSafe_18 : decode cL_isSafe 18 = .ok (.iload 4, 2) := by decide +kernel
theorem dL_isSafe_20 : decode cL_isSafe 20 = .ok (.invokestatic 89, 3) := by decide +kernel
theorem dL_isSafe_23 : decode cL_isSafe 23 = .ok (.aload_n 2, 1) := by decide +kernel
theorem dL_isSafe_24 : decode cL_isSafe 24 = .ok (.iconst 1, 1) := by decide +kernel
theorem dL_isSafe_25 : decode cL_isSafe 25 = .ok (.iaload, 1) := by decide +kernel
theorem dL_isSafe_26 : decode cL_isSafe 26 = .ok (.iconst 2, 1) := by decide +kernel
theorem dL_isSafe_27 : decode cL_isSafe 27 = .ok (.if_icmp .eq 12, 3) := by decide +kernel
theorem dL_isSafe_30 : decode cL_isSafe 30 = .ok (.aload_n 1, 1) := by decide +kernel
theorem dL_isSafe_31 : decode cL_isSafe 31 = .ok (.iload 4, 2) := by decide +kernel
theorem dL_isSafe_33 : decode cL_isSafe 33 = .ok (.invokestatic 64, 3) := by decide +kernel
theorem dL_isSafe_36 : decode cL_isSafe 36 = .ok (.ifCond .eq 8, 3) := by decide +kernel
theorem dL_isSafe_39 : decode cL_isSafe 39 = .ok (.bipush (-10), 2) := by decide +kernel
theorem dL_isSafe_41 : decode cL_isSafe 41 = .ok (.goto 12, 3) := by decide +kernel
theorem dL_isSafe_44 : decode cL_isSafe 44 = .ok (.aload_n 1, 1) := by decide +kernel
theorem dL_isSafe_45 : decode cL_isSafe 45 = .ok (.aload_n 2, 1) := by decide +kernel
theorem dL_isSafe_46 : decode cL_isSafe 46 = .ok (.iconst 0, 1) := by decide +kernel
theorem dL_isSafe_47 : decode cL_isSafe 47 = .ok (.iaload, 1) := by decide +kernel
theorem dL_isSafe_48 : decode cL_isSafe 48 = .ok (.iload 4, 2) := by decide +kernel
theorem dL_isSafe_50 : decode cL_isSafe 50 = .ok (.invokestatic 68, 3) := by decide +kernel
theorem dL_isSafe_53 : decode cL_isSafe 53 = .ok (.if_icmp .ne 7, 3) := by decide +kernel
theorem dL_isSafe_56 : decode cL_isSafe 56 = .ok (.iconst 1, 1) := by decide +kernel
theorem dL_isSafe_57 : decode cL_isSafe 57 = .ok (.goto 4, 3) := by decide +kernel
theorem dL_isSafe_60 : decode cL_isSafe 60 = .ok (.iconst 0, 1) := by decide +kernel
theorem dL_isSafe_61 : decode cL_isSafe 61 = .ok (.istore_n 3, 1) := by decide +kernel
theorem dL_isSafe_62 : decode cL_isSafe 62 = .ok (.iinc 4 1, 3) := by decide +kernel
theorem dL_isSafe_65 : decode cL_isSafe 65 = .ok (.goto (-60), 3) := by decide +kernel
theorem dL_isSafe_68 : decode cL_isSafe 68 = .ok (.iload_n 3, 1) := by decide +kernel
theorem dL_isSafe_69 : decode cL_isSafe 69 = .ok (.ifCond .eq 46, 3) := by decide +kernel
theorem dL_isSafe_72 : decode cL_isSafe 72 = .ok (.aload_n 0, 1) := by decide +kernel
theorem dL_isSafe_73 : decode cL_isSafe 73 = .ok (.iconst 3, 1) := by decide +kernel
theorem dL_isSafe_74 : decode cL_isSafe 74 = .ok (.bipush 16, 2) := by decide +kernel
theorem dL_isSafe_76 : decode cL_isSafe 76 = .ok (.invokestatic 89, 3) := by decide +kernel
theorem dL_isSafe_79 : decode cL_isSafe 79 = .ok (.bipush (-30), 2) := by decide +kernel
theorem dL_isSafe_81 : decode cL_isSafe 81 = .ok (.if_icmp .ne 34, 3) := by decide +kernel
theorem dL_isSafe_84 : decode cL_isSafe 84 = .ok (.aload_n 0, 1) := by decide +kernel
theorem dL_isSafe_85 : decode cL_isSafe 85 = .ok (.iconst 4, 1) := by decide +kernel
theorem dL_isSafe_86 : decode cL_isSafe 86 = .ok (.iconst 0, 1) := by decide +kernel
theorem dL_isSafe_87 : decode cL_isSafe 87 = .ok (.invokestatic 89, 3) := by decide +kernel
theorem dL_isSafe_90 : decode cL_isSafe 90 = .ok (.aload_n 2, 1) := by decide +kernel
theorem dL_isSafe_91 : decode cL_isSafe 91 = .ok (.iconst 1, 1) := by decide +kernel
theorem dL_isSafe_92 : decode cL_isSafe 92 = .ok (.iaload, 1) := by decide +kernel
theorem dL_isSafe_93 : decode cL_isSafe 93 = .ok (.ifCond .eq 8, 3) := by decide +kernel
theorem dL_isSafe_96 : decode cL_isSafe 96 = .ok (.bipush (-10), 2) := by decide +kernel
theorem dL_isSafe_98 : decode cL_isSafe 98 = .ok (.goto 10, 3) := by decide +kernel
theorem dL_isSafe_101 : decode cL_isSafe 101 = .ok (.aload_n 1, 1) := by decide +kernel
theorem dL_isSafe_102 : decode cL_isSafe 102 = .ok (.aload_n 2, 1) := by decide +kernel
theorem dL_isSafe_103 : decode cL_isSafe 103 = .ok (.iconst 0, 1) := by decide +kernel
theorem dL_isSafe_104 : decode cL_isSafe 104 = .ok (.iaload, 1) := by decide +kernel
theorem dL_isSafe_105 : decode cL_isSafe 105 = .ok (.invokestatic 93, 3) := by decide +kernel
theorem dL_isSafe_108 : decode cL_isSafe 108 = .ok (.if_icmp .ne 7, 3) := by decide +kernel
theorem dL_isSafe_111 : decode cL_isSafe 111 = .ok (.iconst 1, 1) := by decide +kernel
theorem dL_isSafe_112 : decode cL_isSafe 112 = .ok (.goto 4, 3) := by decide +kernel
theorem dL_isSafe_115 : decode cL_isSafe 115 = .ok (.iconst 0, 1) := by decide +kernel
theorem dL_isSafe_116 : decode cL_isSafe 116 = .ok (.ireturn, 1) := by decide +kernel
set_option maxRecDepth 20000 in
theorem ggL_isWorth_L_asks : GoodIn wsL_isWorth wsL_asks := goodIn_ca (goodIn_ca (goodIn_ca (goodIn_r _ [4, 5, 6, 7, 8, 9, 10, 11, 12, 13, 14, 15, 16, 17, 18, 19, 20, 21, 22, 23, 24, 25, 26, 27, 28, 29, 30, 31, 32, 33, 34, 35, 36, 37, 38, 39, 40, 41, 42, 43, 44, 45, 46, 47, 48, 49, 50, 51, 52, 53, 54, 55, 56, 57, 58, 59, 60, 61, 62, 63, 64, 65, 66, 67, 68, 69, 70, 71, 72, 73, 74, 75, 76, 77, 78, 79, 80, 81, 82, 83, 84, 85, 86, 87, 88, 89, 90, 91, 92, 93, 94, 95, 96, 97, 98, 99, 100, 101, 102, 103, 104, 105, 106, 107, 108, 109, 110, 111, 112, 113, 114, 115, 116, 117, 118, 119, 120, 121, 122, 123, 124, 125, 126, 127, 128, 129, 130, 131, 132, 133, 134, 135, 136, 137, 138, 139, 140, 141, 142, 143, 144, 145, 146, 147, 148, 149, 174, 175, 176, 177, 178, 179, 180, 181, 182, 183, 184] (by decide +kernel) (by decide +kernel)) (goodIn_sub (fun _ h => List.mem_cons_of_mem _ (List.mem_append_left _ (List.mem_append_left _ (List.mem_append_right _ h)))) (by decide +kernel))) (goodIn_sub (fun _ h => List.mem_cons_of_mem _ (List.mem_append_left _ (List.mem_append_right _ h))) (by decide +kernel))) (goodIn_sub (fun _ h => List.mem_cons_of_mem _ (List.mem_append_right _ h)) (by decide +kernel))
set_option maxRecDepth 20000 in
theorem gL_isWorth_L_asks : GoodIn wsL_isWorth (va_wsS RL 89 yL_asks wsL_asks) := goodIn_app (goodIn_of _ (by decide +kernel)) ggL_isWorth_L_asks
set_option maxRecDepth 20000 in
theorem ggL_isWorth_L_safe : GoodIn wsL_isWorth wsL_safe := goodIn_r _ [152, 153, 154, 3, 155, 156, 157, 158, 159, 160, 161, 162, 163, 164, 165, 166, 167, 168, 169, 170] (by decide +kernel) (by decide +kernel)
set_option maxRecDepth 20000 in
theorem gL_isWorth_L_safe : GoodIn wsL_isWorth (va_wsS RL 93 yL_safe wsL_safe) := goodIn_app (goodIn_of _ (by decide +kernel)) ggL_isWorth_L_safe
set_option maxRecDepth 20000 in
theorem ggL_isWorth_L_isOn : GoodIn wsL_isWorth wsL_isOn := goodIn_r _ [155] (by decide +kernel) (by decide +kernel)
set_option maxRecDepth 20000 in
theorem gL_isWorth_L_isOn : GoodIn wsL_isWorth (va_wsS RL 64 yL_isOn wsL_isOn) := goodIn_app (goodIn_of _ (by decide +kernel)) ggL_isWorth_L_isOn
set_option maxRecDepth 20000 in
theorem ggL_isWorth_L_lowest : GoodIn wsL_isWorth wsL_lowest := goodIn_r _ [173] (by decide +kernel) (by decide +kernel)
set_option maxRecDepth 20000 in
theorem gL_isWorth_L_lowest : GoodIn wsL_isWorth (va_wsS RL 95 yL_lowest wsL_lowest) := goodIn_app (goodIn_of _ (by decide +kernel)) ggL_isWorth_L_lowest
set_option maxRecDepth 20000 in
theorem ggL_isWorth_L_winning : GoodIn wsL_isWorth wsL_winning := goodIn_r _ [158, 159, 160, 3, 161, 162, 163, 164, 165, 166, 167, 168, 169, 170] (by decide +kernel) (by decide +kernel)
set_option maxRecDepth 20000 in
theorem gL_isWorth_L_winning : GoodIn wsL_isWorth (va_wsS RL 68 yL_winning wsL_winning) := goodIn_app (goodIn_of _ (by decide +kernel)) ggL_isWorth_L_winning
theorem dL_isWorth_0 : decode cL_isWorth 0 = .ok (.aload_n 0, 1) := by decide +kernel
theorem dL_isWorth_1 : decode cL_isWorth 1 = .ok (.iconst 5, 1) := by decide +kernel
theorem dL_isWorth_2 : decode cL_isWorth 2 = .ok (.iconst 1, 1) := by decide +kernel
theorem dL_isWorth_3 : decode cL_isWorth 3 = .ok (.invokestatic 89, 3) := by decide +kernel
theorem dL_isWorth_6 : decode cL_isWorth 6 = .ok (.istore_n 3, 1) := by decide +kernel
theorem dL_isWorth_7 : decode cL_isWorth 7 = .ok (.aload_n 0, 1) := by decide +kernel
theorem dL_isWorth_8 : decode cL_isWorth 8 = .ok (.iconst 5, 1) := by decide +kernel
theorem dL_isWorth_9 : decode cL_isWorth 9 = .ok (.iconst 2, 1) := by decide +kernel
theorem dL_isWorth_10 : decode cL_isWorth 10 = .ok (.invokestatic 89, 3) := by decide +kernel
theorem dL_isWorth_13 : decode cL_isWorth 13 = .ok (.istore 4, 2) := by decide +kernel
theorem dL_isWorth_15 : decode cL_isWorth 15 = .ok (.aload_n 2, 1) := by decide +kernel
theorem dL_isWorth_16 : decode cL_isWorth 16 = .ok (.iconst 1, 1) := by decide +kernel
theorem dL_isWorth_17 : decode cL_isWorth 17 = .ok (.iaload, 1) := by decide +kernel
theorem dL_isWorth_18 : decode cL_isWorth 18 = .ok (.iconst 2, 1) := by decide +kernel
theorem dL_isWorth_19 : decode cL_isWorth 19 = .ok (.if_icmp .ne 45, 3) := by decide +kernel
theorem dL_isWorth_22 : decode cL_isWorth 22 = .ok (.iload_n 3, 1) := by decide +kernel
theorem dL_isWorth_23 : decode cL_isWorth 23 = .ok (.bipush (-10), 2) := by decide +kernel
theorem dL_isWorth_25 : decode cL_isWorth 25 = .ok (.if_icmp .ne 37, 3) := by decide +kernel
theorem dL_isWorth_28 : decode cL_isWorth 28 = .ok (.iload 4, 2) := by decide +kernel
theorem dL_isWorth_30 : decode cL_isWorth 30 = .ok (.bipush (-10), 2) := by decide +kernel
theorem dL_isWorth_32 : decode cL_isWorth 32 = .ok (.if_icmp .ne 30, 3) := by decide +kernel
theorem dL_isWorth_35 : decode cL_isWorth 35 = .ok (.aload_n 0, 1) := by decide +kernel
theorem dL_isWorth_36 : decode cL_isWorth 36 = .ok (.bipush 6, 2) := by decide +kernel
theorem dL_isWorth_38 : decode cL_isWorth 38 = .ok (.iconst 1, 1) := by decide +kernel
theorem dL_isWorth_39 : decode cL_isWorth 39 = .ok (.invokestatic 89, 3) := by decide +kernel
theorem dL_isWorth_42 : decode cL_isWorth 42 = .ok (.bipush (-10), 2) := by decide +kernel
theorem dL_isWorth_44 : decode cL_isWorth 44 = .ok (.if_icmp .ne 18, 3) := by decide +kernel
theorem dL_isWorth_47 : decode cL_isWorth 47 = .ok (.aload_n 0, 1) := by decide +kernel
theorem dL_isWorth_48 : decode cL_isWorth 48 = .ok (.iconst 5, 1) := by decide +kernel
theorem dL_isWorth_49 : decode cL_isWorth 49 = .ok (.iconst 0, 1) := by decide +kernel
theorem dL_isWorth_50 : decode cL_isWorth 50 = .ok (.invokestatic 89, 3) := by decide +kernel
theorem dL_isWorth_53 : decode cL_isWorth 53 = .ok (.bipush (-20), 2) := by decide +kernel
theorem dL_isWorth_55 : decode cL_isWorth 55 = .ok (.if_icmp .ne 7, 3) := by decide +kernel
theorem dL_isWorth_58 : decode cL_isWorth 58 = .ok (.iconst 1, 1) := by decide +kernel
theorem dL_isWorth_59 : decode cL_isWorth 59 = .ok (.goto 4, 3) := by decide +kernel
theorem dL_isWorth_62 : decode cL_isWorth 62 = .ok (.iconst 0, 1) := by decide +kernel
theorem dL_isWorth_63 : decode cL_isWorth 63 = .ok (.ireturn, 1) := by decide +kernel
theorem dL_isWorth_64 : decode cL_isWorth 64 = .ok (.iload_n 3, 1) := by decide +kernel
theorem dL_isWorth_65 : decode cL_isWorth 65 = .ok (.ifCond .eq 9, 3) := by decide +kernel
theorem dL_isWorth_68 : decode cL_isWorth 68 = .ok (.iload 4, 2) := by decide +kernel
theorem dL_isWorth_70 : decode cL_isWorth 70 = .ok (.iload_n 3, 1) := by decide +kernel
theorem dL_isWorth_71 : decode cL_isWorth 71 = .ok (.if_icmp .ne 69, 3) := by decide +kernel
theorem dL_isWorth_74 : decode cL_isWorth 74 = .ok (.aload_n 0, 1) := by decide +kernel
theorem dL_isWorth_75 : decode cL_isWorth 75 = .ok (.iconst 5, 1) := by decide +kernel
theorem dL_isWorth_76 : decode cL_isWorth 76 = .ok (.iconst 5, 1) := by decide +kernel
theorem dL_isWorth_77 : decode cL_isWorth 77 = .ok (.invokestatic 89, 3) := by decide +kernel
theorem dL_isWorth_80 : decode cL_isWorth 80 = .ok (.bipush (-20), 2) := by decide +kernel
theorem dL_isWorth_82 : decode cL_isWorth 82 = .ok (.if_icmp .ne 58, 3) := by decide +kernel
theorem dL_isWorth_85 : decode cL_isWorth 85 = .ok (.aload_n 0, 1) := by decide +kernel
theorem dL_isWorth_86 : decode cL_isWorth 86 = .ok (.bipush 6, 2) := by decide +kernel
theorem dL_isWorth_88 : decode cL_isWorth 88 = .ok (.iconst 0, 1) := by decide +kernel
theorem dL_isWorth_89 : decode cL_isWorth 89 = .ok (.invokestatic 89, 3) := by decide +kernel
theorem dL_isWorth_92 : decode cL_isWorth 92 = .ok (.bipush (-20), 2) := by decide +kernel
theorem dL_isWorth_94 : decode cL_isWorth 94 = .ok (.if_icmp .ne 46, 3) := by decide +kernel
theorem dL_isWorth_97 : decode cL_isWorth 97 = .ok (.aload_n 2, 1) := by decide +kernel
theorem dL_isWorth_98 : decode cL_isWorth 98 = .ok (.iconst 4, 1) := by decide +kernel
theorem dL_isWorth_99 : decode cL_isWorth 99 = .ok (.iaload, 1) := by decide +kernel
theorem dL_isWorth_100 : decode cL_isWorth 100 = .ok (.bipush 7, 2) := by decide +kernel
theorem dL_isWorth_102 : decode cL_isWorth 102 = .ok (.if_icmp .gt 14, 3) := by decide +kernel
theorem dL_isWorth_105 : decode cL_isWorth 105 = .ok (.aload_n 0, 1) := by decide +kernel
theorem dL_isWorth_106 : decode cL_isWorth 106 = .ok (.iconst 5, 1) := by decide +kernel
theorem dL_isWorth_107 : decode cL_isWorth 107 = .ok (.iconst 3, 1) := by decide +kernel
theorem dL_isWorth_108 : decode cL_isWorth 108 = .ok (.invokestatic 89, 3) := by decide +kernel
theorem dL_isWorth_111 : decode cL_isWorth 111 = .ok (.bipush (-10), 2) := by decide +kernel
theorem dL_isWorth_113 : decode cL_isWorth 113 = .ok (.if_icmp .ne 27, 3) := by decide +kernel
theorem dL_isWorth_116 : decode cL_isWorth 116 = .ok (.aload_n 2, 1) := by decide +kernel
theorem dL_isWorth_117 : decode cL_isWorth 117 = .ok (.iconst 4, 1) := by decide +kernel
theorem dL_isWorth_118 : decode cL_isWorth 118 = .ok (.iaload, 1) := by decide +kernel
theorem dL_isWorth_119 : decode cL_isWorth 119 = .ok (.bipush 9, 2) := by decide +kernel
theorem dL_isWorth_121 : decode cL_isWorth 121 = .ok (.if_icmp .gt 15, 3) := by decide +kernel
theorem dL_isWorth_124 : decode cL_isWorth 124 = .ok (.aload_n 0, 1) := by decide +kernel
theorem dL_isWorth_125 : decode cL_isWorth 125 = .ok (.bipush 6, 2) := by decide +kernel
theorem dL_isWorth_127 : decode cL_isWorth 127 = .ok (.iconst 4, 1) := by decide +kernel
theorem dL_isWorth_128 : decode cL_isWorth 128 = .ok (.invokestatic 89, 3) := by decide +kernel
theorem dL_isWorth_131 : decode cL_isWorth 131 = .ok (.bipush (-10), 2) := by decide +kernel
theorem dL_isWorth_133 : decode cL_isWorth 133 = .ok (.if_icmp .ne 7, 3) := by decide +kernel
theorem dL_isWorth_136 : decode cL_isWorth 136 = .ok (.iconst 1, 1) := by decide +kernel
theorem dL_isWorth_137 : decode cL_isWorth 137 = .ok (.goto 4, 3) := by decide +kernel
theorem dL_isWorth_140 : decode cL_isWorth 140 = .ok (.iconst 0, 1) := by decide +kernel
theorem dL_isWorth_141 : decode cL_isWorth 141 = .ok (.istore 5, 2) := by decide +kernel
theorem dL_isWorth_143 : decode cL_isWorth 143 = .ok (.aload_n 2, 1) := by decide +kernel
theorem dL_isWorth_144 : decode cL_isWorth 144 = .ok (.iconst 1, 1) := by decide +kernel
theorem dL_isWorth_145 : decode cL_isWorth 145 = .ok (.iaload, 1) := by decide +kernel
theorem dL_isWorth_146 : decode cL_isWorth 146 = .ok (.ifCond .ne 86, 3) := by decide +kernel
theorem dL_isWorth_149 : decode cL_isWorth 149 = .ok (.aload_n 1, 1) := by decide +kernel
theorem dL_isWorth_150 : decode cL_isWorth 150 = .ok (.aload_n 2, 1) := by decide +kernel
theorem dL_isWorth_151 : decode cL_isWorth 151 = .ok (.iconst 0, 1) := by decide +kernel
theorem dL_isWorth_152 : decode cL_isWorth 152 = .ok (.iaload, 1) := by decide +kernel
theorem dL_isWorth_153 : decode cL_isWorth 153 = .ok (.invokestatic 93, 3) := by decide +kernel
theorem dL_isWorth_156 : decode cL_isWorth 156 = .ok (.istore 6, 2) := by decide +kernel
theorem dL_isWorth_158 : decode cL_isWorth 158 = .ok (.iconst 0, 1) := by decide +kernel
theorem dL_isWorth_159 : decode cL_isWorth 159 = .ok (.istore 7, 2) := by decide +kernel
theorem dL_isWorth_161 : decode cL_isWorth 161 = .ok (.aload_n 1, 1) := by decide +kernel
theorem dL_isWorth_162 : decode cL_isWorth 162 = .ok (.iload 7, 2) := by decide +kernel
theorem dL_isWorth_164 : decode cL_isWorth 164 = .ok (.invokestatic 64, 3) := by decide +kernel
theorem dL_isWorth_167 : decode cL_isWorth 167 = .ok (.ifCond .eq 9, 3) := by decide +kernel
theorem dL_isWorth_170 : decode cL_isWorth 170 = .ok (.iinc 7 1, 3) := by decide +kernel
theorem dL_isWorth_173 : decode cL_isWorth 173 = .ok (.goto (-12), 3) := by decide +kernel
theorem dL_isWorth_176 : decode cL_isWorth 176 = .ok (.iload 5, 2) := by decide +kernel
theorem dL_isWorth_178 : decode cL_isWorth 178 = .ok (.ifCond .eq 52, 3) := by decide +kernel
theorem dL_isWorth_181 : decode cL_isWorth 181 = .ok (.iload_n 3, 1) := by decide +kernel
theorem dL_isWorth_182 : decode cL_isWorth 182 = .ok (.iload 6, 2) := by decide +kernel
theorem dL_isWorth_184 : decode cL_isWorth 184 = .ok (.ifCond .ne 7, 3) := by decide +kernel
theorem dL_isWorth_187 : decode cL_isWorth 187 = .ok (.iconst (-1), 1) := by decide +kernel
theorem dL_isWorth_188 : decode cL_isWorth 188 = .ok (.goto 4, 3) := by decide +kernel
theorem dL_isWorth_191 : decode cL_isWorth 191 = .ok (.iconst 0, 1) := by decide +kernel
theorem dL_isWorth_192 : decode cL_isWorth 192 = .ok (.if_icmp .ne 38, 3) := by decide +kernel
theorem dL_isWorth_195 : decode cL_isWorth 195 = .ok (.aload_n 0, 1) := by decide +kernel
theorem dL_isWorth_196 : decode cL_isWorth 196 = .ok (.bipush 6, 2) := by decide +kernel
theorem dL_isWorth_198 : decode cL_isWorth 198 = .ok (.iconst 1, 1) := by decide +kernel
theorem dL_isWorth_199 : decode cL_isWorth 199 = .ok (.invokestatic 89, 3) := by decide +kernel
theorem dL_isWorth_202 : decode cL_isWorth 202 = .ok (.iload 6, 2) := by decide +kernel
theorem dL_isWorth_204 : decode cL_isWorth 204 = .ok (.ifCond .ne 8, 3) := by decide +kernel
theorem dL_isWorth_207 : decode cL_isWorth 207 = .ok (.iload 7, 2) := by decide +kernel
theorem dL_isWorth_209 : decode cL_isWorth 209 = .ok (.goto 8, 3) := by decide +kernel
theorem dL_isWorth_212 : decode cL_isWorth 212 = .ok (.iload 6, 2) := by decide +kernel
theorem dL_isWorth_214 : decode cL_isWorth 214 = .ok (.invokestatic 95, 3) := by decide +kernel
theorem dL_isWorth_217 : decode cL_isWorth 217 = .ok (.if_icmp .ne 13, 3) := by decide +kernel
theorem dL_isWorth_220 : decode cL_isWorth 220 = .ok (.iload 4, 2) := by decide +kernel
theorem dL_isWorth_222 : decode cL_isWorth 222 = .ok (.iload_n 3, 1) := by decide +kernel
theorem dL_isWorth_223 : decode cL_isWorth 223 = .ok (.if_icmp .lt 7, 3) := by decide +kernel
theorem dL_isWorth_226 : decode cL_isWorth 226 = .ok (.iconst 1, 1) := by decide +kernel
theorem dL_isWorth_227 : decode cL_isWorth 227 = .ok (.goto 4, 3) := by decide +kernel
theorem dL_isWorth_230 : decode cL_isWorth 230 = .ok (.iconst 0, 1) := by decide +kernel
theorem dL_isWorth_231 : decode cL_isWorth 231 = .ok (.ireturn, 1) := by decide +kernel
theorem dL_isWorth_232 : decode cL_isWorth 232 = .ok (.aload_n 1, 1) := by decide +kernel
theorem dL_isWorth_233 : decode cL_isWorth 233 = .ok (.aload_n 2, 1) := by decide +kernel
theorem dL_isWorth_234 : decode cL_isWorth 234 = .ok (.iconst 0, 1) := by decide +kernel
theorem dL_isWorth_235 : decode cL_isWorth 235 = .ok (.iaload, 1) := by decide +kernel
theorem dL_isWorth_236 : decode cL_isWorth 236 = .ok (.aload_n 2, 1) := by decide +kernel
theorem dL_isWorth_237 : decode cL_isWorth 237 = .ok (.iconst 3, 1) := by decide +kernel
theorem dL_isWorth_238 : decode cL_isWorth 238 = .ok (.iaload, 1) := by decide +kernel
theorem dL_isWorth_239 : decode cL_isWorth 239 = .ok (.invokestatic 68, 3) := by decide +kernel
theorem dL_isWorth_242 : decode cL_isWorth 242 = .ok (.istore 6, 2) := by decide +kernel
theorem dL_isWorth_244 : decode cL_isWorth 244 = .ok (.iconst 0, 1) := by decide +kernel
theorem dL_isWorth_245 : decode cL_isWorth 245 = .ok (.istore 7, 2) := by decide +kernel
theorem dL_isWorth_247 : decode cL_isWorth 247 = .ok (.iconst 0, 1) := by decide +kernel
theorem dL_isWorth_248 : decode cL_isWorth 248 = .ok (.istore 8, 2) := by decide +kernel
theorem dL_isWorth_250 : decode cL_isWorth 250 = .ok (.iconst 0, 1) := by decide +kernel
theorem dL_isWorth_251 : decode cL_isWorth 251 = .ok (.istore 9, 2) := by decide +kernel
theorem dL_isWorth_253 : decode cL_isWorth 253 = .ok (.iload 9, 2) := by decide +kernel
theorem dL_isWorth_255 : decode cL_isWorth 255 = .ok (.bipush 16, 2) := by decide +kernel
theorem dL_isWorth_257 : decode cL_isWorth 257 = .ok (.if_icmp .ge 68, 3) := by decide +kernel
theorem dL_isWorth_260 : decode cL_isWorth 260 = .ok (.aload_n 1, 1) := by decide +kernel
theorem dL_isWorth_261 : decode cL_isWorth 261 = .ok (.iload 9, 2) := by decide +kernel
theorem dL_isWorth_263 : decode cL_isWorth 263 = .ok (.iaload, 1) := by decide +kernel
theorem dL_isWorth_264 : decode cL_isWorth 264 = .ok (.ifCond .ge 55, 3) := by decide +kernel
theorem dL_isWorth_267 : decode cL_isWorth 267 = .ok (.aload_n 1, 1) := by decide +kernel
theorem dL_isWorth_268 : decode cL_isWorth 268 = .ok (.iload 9, 2) := by decide +kernel
theorem dL_isWorth_270 : decode cL_isWorth 270 = .ok (.aload_n 2, 1) := by decide +kernel
theorem dL_isWorth_271 : decode cL_isWorth 271 = .ok (.iconst 3, 1) := by decide +kernel
theorem dL_isWorth_272 : decode cL_isWorth 272 = .ok (.iaload, 1) := by decide +kernel
theorem dL_isWorth_273 : decode cL_isWorth 273 = .ok (.iastore, 1) := by decide +kernel
theorem dL_isWorth_274 : decode cL_isWorth 274 = .ok (.iload 8, 2) := by decide +kernel
theorem dL_isWorth_276 : decode cL_isWorth 276 = .ok (.iconst 1, 1) := by decide +kernel
theorem dL_isWorth_277 : decode cL_isWorth 277 = .ok (.iload 9, 2) := by decide +kernel
theorem dL_isWorth_279 : decode cL_isWorth 279 = .ok (.ishl, 1) := by decide +kernel
theorem dL_isWorth_280 : decode cL_isWorth 280 = .ok (.ior, 1) := by decide +kernel
theorem dL_isWorth_281 : decode cL_isWorth 281 = .ok (.istore 8, 2) := by decide +kernel
theorem dL_isWorth_283 : decode cL_isWorth 283 = .ok (.iload 7, 2) := by decide +kernel
theorem dL_isWorth_285 : decode cL_isWorth 285 = .ok (.aload_n 2, 1) := by decide +kernel
theorem dL_isWorth_286 : decode cL_isWorth 286 = .ok (.iconst 4, 1) := by decide +kernel
theorem dL_isWorth_287 : decode cL_isWorth 287 = .ok (.iaload, 1) := by decide +kernel
theorem dL_isWorth_288 : decode cL_isWorth 288 = .ok (.bipush 15, 2) := by decide +kernel
theorem dL_isWorth_290 : decode cL_isWorth 290 = .ok (.if_icmp .eq 13, 3) := by decide +kernel
theorem dL_isWorth_293 : decode cL_isWorth 293 = .ok (.aload_n 1, 1) := by decide +kernel
theorem dL_isWorth_294 : decode cL_isWorth 294 = .ok (.aload_n 2, 1) := by decide +kernel
theorem dL_isWorth_295 : decode cL_isWorth 295 = .ok (.iconst 0, 1) := by decide +kernel
theorem dL_isWorth_296 : decode cL_isWorth 296 = .ok (.iaload, 1) := by decide +kernel
theorem dL_isWorth_297 : decode cL_isWorth 297 = .ok (.invokestatic 93, 3) := by decide +kernel
theorem dL_isWorth_300 : decode cL_isWorth 300 = .ok (.ifCond .eq 10, 3) := by decide +kernel
theorem dL_isWorth_303 : decode cL_isWorth 303 = .ok (.iconst 1, 1) := by decide +kernel
theorem dL_isWorth_304 : decode cL_isWorth 304 = .ok (.iload 9, 2) := by decide +kernel
theorem dL_isWorth_306 : decode cL_isWorth 306 = .ok (.ishl, 1) := by decide +kernel
theorem dL_isWorth_307 : decode cL_isWorth 307 = .ok (.goto 4, 3) := by decide +kernel
theorem dL_isWorth_310 : decode cL_isWorth 310 = .ok (.iconst 0, 1) := by decide +kernel
theorem dL_isWorth_311 : decode cL_isWorth 311 = .ok (.ior, 1) := by decide +kernel
theorem dL_isWorth_312 : decode cL_isWorth 312 = .ok (.istore 7, 2) := by decide +kernel
theorem dL_isWorth_314 : decode cL_isWorth 314 = .ok (.aload_n 1, 1) := by decide +kernel
theorem dL_isWorth_315 : decode cL_isWorth 315 = .ok (.iload 9, 2) := by decide +kernel
theorem dL_isWorth_317 : decode cL_isWorth 317 = .ok (.iconst (-1), 1) := by decide +kernel
theorem dL_isWorth_318 : decode cL_isWorth 318 = .ok (.iastore, 1) := by decide +kernel
theorem dL_isWorth_319 : decode cL_isWorth 319 = .ok (.iinc 9 1, 3) := by decide +kernel
theorem dL_isWorth_322 : decode cL_isWorth 322 = .ok (.goto (-69), 3) := by decide +kernel
theorem dL_isWorth_325 : decode cL_isWorth 325 = .ok (.iload 6, 2) := by decide +kernel
theorem dL_isWorth_327 : decode cL_isWorth 327 = .ok (.ifCond .eq 7, 3) := by decide +kernel
theorem dL_isWorth_330 : decode cL_isWorth 330 = .ok (.iconst 1, 1) := by decide +kernel
theorem dL_isWorth_331 : decode cL_isWorth 331 = .ok (.goto 13, 3) := by decide +kernel
theorem dL_isWorth_334 : decode cL_isWorth 334 = .ok (.iload 7, 2) := by decide +kernel
theorem dL_isWorth_336 : decode cL_isWorth 336 = .ok (.ifCond .eq 7, 3) := by decide +kernel
theorem dL_isWorth_339 : decode cL_isWorth 339 = .ok (.iconst 0, 1) := by decide +kernel
theorem dL_isWorth_340 : decode cL_isWorth 340 = .ok (.goto 4, 3) := by decide +kernel
theorem dL_isWorth_343 : decode cL_isWorth 343 = .ok (.iconst (-1), 1) := by decide +kernel
theorem dL_isWorth_344 : decode cL_isWorth 344 = .ok (.istore 9, 2) := by decide +kernel
theorem dL_isWorth_346 : decode cL_isWorth 346 = .ok (.iload 5, 2) := by decide +kernel
theorem dL_isWorth_348 : decode cL_isWorth 348 = .ok (.ifCond .eq 89, 3) := by decide +kernel
theorem dL_isWorth_351 : decode cL_isWorth 351 = .ok (.iload_n 3, 1) := by decide +kernel
theorem dL_isWorth_352 : decode cL_isWorth 352 = .ok (.iload 6, 2) := by decide +kernel
theorem dL_isWorth_354 : decode cL_isWorth 354 = .ok (.ifCond .ne 7, 3) := by decide +kernel
theorem dL_isWorth_357 : decode cL_isWorth 357 = .ok (.iconst 0, 1) := by decide +kernel
theorem dL_isWorth_358 : decode cL_isWorth 358 = .ok (.goto 4, 3) := by decide +kernel
theorem dL_isWorth_361 : decode cL_isWorth 361 = .ok (.iconst 1, 1) := by decide +kernel
theorem dL_isWorth_362 : decode cL_isWorth 362 = .ok (.if_icmp .ne 75, 3) := by decide +kernel
theorem dL_isWorth_365 : decode cL_isWorth 365 = .ok (.iload 4, 2) := by decide +kernel
theorem dL_isWorth_367 : decode cL_isWorth 367 = .ok (.iload 9, 2) := by decide +kernel
theorem dL_isWorth_369 : decode cL_isWorth 369 = .ok (.if_icmp .ne 68, 3) := by decide +kernel
theorem dL_isWorth_372 : decode cL_isWorth 372 = .ok (.aload_n 0, 1) := by decide +kernel
theorem dL_isWorth_373 : decode cL_isWorth 373 = .ok (.bipush 6, 2) := by decide +kernel
theorem dL_isWorth_375 : decode cL_isWorth 375 = .ok (.iconst 1, 1) := by decide +kernel
theorem dL_isWorth_376 : decode cL_isWorth 376 = .ok (.invokestatic 89, 3) := by decide +kernel
theorem dL_isWorth_379 : decode cL_isWorth 379 = .ok (.iload 6, 2) := by decide +kernel
theorem dL_isWorth_381 : decode cL_isWorth 381 = .ok (.ifCond .ne 8, 3) := by decide +kernel
theorem dL_isWorth_384 : decode cL_isWorth 384 = .ok (.iload 8, 2) := by decide +kernel
theorem dL_isWorth_386 : decode cL_isWorth 386 = .ok (.goto 5, 3) := by decide +kernel
theorem dL_isWorth_389 : decode cL_isWorth 389 = .ok (.iload 6, 2) := by decide +kernel
theorem dL_isWorth_391 : decode cL_isWorth 391 = .ok (.invokestatic 95, 3) := by decide +kernel
theorem dL_isWorth_394 : decode cL_isWorth 394 = .ok (.if_icmp .ne 43, 3) := by decide +kernel
theorem dL_isWorth_397 : decode cL_isWorth 397 = .ok (.aload_n 0, 1) := by decide +kernel
theorem dL_isWorth_398 : decode cL_isWorth 398 = .ok (.bipush 6, 2) := by decide +kernel
theorem dL_isWorth_400 : decode cL_isWorth 400 = .ok (.iconst 2, 1) := by decide +kernel
theorem dL_isWorth_401 : decode cL_isWorth 401 = .ok (.invokestatic 89, 3) := by decide +kernel
theorem dL_isWorth_404 : decode cL_isWorth 404 = .ok (.iload 9, 2) := by decide +kernel
theorem dL_isWorth_406 : decode cL_isWorth 406 = .ok (.iconst 1, 1) := by decide +kernel
theorem dL_isWorth_407 : decode cL_isWorth 407 = .ok (.if_icmp .ne 8, 3) := by decide +kernel
theorem dL_isWorth_410 : decode cL_isWorth 410 = .ok (.iload 6, 2) := by decide +kernel
theorem dL_isWorth_412 : decode cL_isWorth 412 = .ok (.goto 15, 3) := by decide +kernel
theorem dL_isWorth_415 : decode cL_isWorth 415 = .ok (.iload 9, 2) := by decide +kernel
theorem dL_isWorth_417 : decode cL_isWorth 417 = .ok (.ifCond .ne 8, 3) := by decide +kernel
theorem dL_isWorth_420 : decode cL_isWorth 420 = .ok (.iload 7, 2) := by decide +kernel
theorem dL_isWorth_422 : decode cL_isWorth 422 = .ok (.goto 5, 3) := by decide +kernel
theorem dL_isWorth_425 : decode cL_isWorth 425 = .ok (.iload 8, 2) := by decide +kernel
theorem dL_isWorth_427 : decode cL_isWorth 427 = .ok (.invokestatic 95, 3) := by decide +kernel
theorem dL_isWorth_430 : decode cL_isWorth 430 = .ok (.if_icmp .ne 7, 3) := by decide +kernel
theorem dL_isWorth_433 : decode cL_isWorth 433 = .ok (.iconst 1, 1) := by decide +kernel
theorem dL_isWorth_434 : decode cL_isWorth 434 = .ok (.goto 4, 3) := by decide +kernel
theorem dL_isWorth_437 : decode cL_isWorth 437 = .ok (.iconst 0, 1) := by decide +kernel
theorem dL_isWorth_438 : decode cL_isWorth 438 = .ok (.ireturn, 1) := by decide +kernel
set_option maxRecDepth 20000 in
theorem ggL_isGiven_L_isOn : GoodIn wsL_isGiven wsL_isOn := goodIn_r _ [4] (by decide +kernel) (by decide +kernel)
set_option maxRecDepth 20000 in
theorem gL_isGiven_L_isOn : GoodIn wsL_isGiven (va_wsS RL 64 yL_isOn wsL_isOn) := goodIn_app (goodIn_of _ (by decide +kernel)) ggL_isGiven_L_isOn
set_option maxRecDepth 20000 in
theorem ggL_isGiven_L_does : GoodIn wsL_isGiven wsL_does := goodIn_ca (goodIn_ca (goodIn_r _ [7, 8, 9, 10, 11, 12, 13, 14, 15, 16, 17, 18, 19, 20, 21, 22, 23, 24, 25, 26, 27, 28, 29, 30, 31, 32, 33, 34, 35, 36, 37, 38, 39, 40, 41, 42, 43, 44, 45, 46, 47, 48, 49, 50, 51, 52, 53, 54, 55, 56, 57, 58, 59, 60, 61, 62, 63, 64, 65, 66, 67, 68, 69, 70, 71, 72, 73, 74] (by decide +kernel) (by decide +kernel)) (goodIn_sub (fun _ h => List.mem_cons_of_mem _ (List.mem_append_left _ (List.mem_append_right _ h))) (by decide +kernel))) (goodIn_sub (fun _ h => List.mem_cons_of_mem _ (List.mem_append_right _ h)) (by decide +kernel))
set_option maxRecDepth 20000 in
theorem gL_isGiven_L_does : GoodIn wsL_isGiven (va_wsS RL 98 yL_does wsL_does) := goodIn_app (goodIn_of _ (by decide +kernel)) ggL_isGiven_L_does
theorem dL_isGiven_0 : decode cL_isGiven 0 = .ok (.iload_n 3, 1) := by decide +kernel
theorem dL_isGiven_1 : decode cL_isGiven 1 = .ok (.bipush 15, 2) := by decide +kernel
theorem dL_isGiven_3 : decode cL_isGiven 3 = .ok (.if_icmp .le 8, 3) := by decide +kernel
theorem dL_isGiven_6 : decode cL_isGiven 6 = .ok (.bipush (-30), 2) := by decide +kernel
theorem dL_isGiven_8 : decode cL_isGiven 8 = .ok (.goto 27, 3) := by decide +kernel
theorem dL_isGiven_11 : decode cL_isGiven 11 = .ok (.aload_n 2, 1) := by decide +kernel
theorem dL_isGiven_12 : decode cL_isGiven 12 = .ok (.iconst 1, 1) := by decide +kernel
theorem dL_isGiven_13 : decode cL_isGiven 13 = .ok (.iaload, 1) := by decide +kernel
theorem dL_isGiven_14 : decode cL_isGiven 14 = .ok (.ifCond .ne 11, 3) := by decide +kernel
theorem dL_isGiven_17 : decode cL_isGiven 17 = .ok (.aload_n 1, 1) := by decide +kernel
theorem dL_isGiven_18 : decode cL_isGiven 18 = .ok (.iload_n 3, 1) := by decide +kernel
theorem dL_isGiven_19 : decode cL_isGiven 19 = .ok (.invokestatic 64, 3) := by decide +kernel
theorem dL_isGiven_22 : decode cL_isGiven 22 = .ok (.ifCond .eq 8, 3) := by decide +kernel
theorem dL_isGiven_25 : decode cL_isGiven 25 = .ok (.bipush (-10), 2) := by decide +kernel
theorem dL_isGiven_27 : decode cL_isGiven 27 = .ok (.goto 8, 3) := by decide +kernel
theorem dL_isGiven_30 : decode cL_isGiven 30 = .ok (.iconst 1, 1) := by decide +kernel
theorem dL_isGiven_31 : decode cL_isGiven 31 = .ok (.aload_n 2, 1) := by decide +kernel
theorem dL_isGiven_32 : decode cL_isGiven 32 = .ok (.iconst 2, 1) := by decide +kernel
theorem dL_isGiven_33 : decode cL_isGiven 33 = .ok (.iaload, 1) := by decide +kernel
theorem dL_isGiven_34 : decode cL_isGiven 34 = .ok (.isub, 1) := by decide +kernel
theorem dL_isGiven_35 : decode cL_isGiven 35 = .ok (.istore 4, 2) := by decide +kernel
theorem dL_isGiven_37 : decode cL_isGiven 37 = .ok (.iload 4, 2) := by decide +kernel
theorem dL_isGiven_39 : decode cL_isGiven 39 = .ok (.ifCond .lt 16, 3) := by decide +kernel
theorem dL_isGiven_42 : decode cL_isGiven 42 = .ok (.aload_n 2, 1) := by decide +kernel
theorem dL_isGiven_43 : decode cL_isGiven 43 = .ok (.iconst 1, 1) := by decide +kernel
theorem dL_isGiven_44 : decode cL_isGiven 44 = .ok (.iconst 1, 1) := by decide +kernel
theorem dL_isGiven_45 : decode cL_isGiven 45 = .ok (.iastore, 1) := by decide +kernel
theorem dL_isGiven_46 : decode cL_isGiven 46 = .ok (.aload_n 2, 1) := by decide +kernel
theorem dL_isGiven_47 : decode cL_isGiven 47 = .ok (.iconst 2, 1) := by decide +kernel
theorem dL_isGiven_48 : decode cL_isGiven 48 = .ok (.iload 4, 2) := by decide +kernel
theorem dL_isGiven_50 : decode cL_isGiven 50 = .ok (.iastore, 1) := by decide +kernel
theorem dL_isGiven_51 : decode cL_isGiven 51 = .ok (.aload_n 2, 1) := by decide +kernel
theorem dL_isGiven_52 : decode cL_isGiven 52 = .ok (.iconst 3, 1) := by decide +kernel
theorem dL_isGiven_53 : decode cL_isGiven 53 = .ok (.iload_n 3, 1) := by decide +kernel
theorem dL_isGiven_54 : decode cL_isGiven 54 = .ok (.iastore, 1) := by decide +kernel
theorem dL_isGiven_55 : decode cL_isGiven 55 = .ok (.aload_n 0, 1) := by decide +kernel
theorem dL_isGiven_56 : decode cL_isGiven 56 = .ok (.iconst 1, 1) := by decide +kernel
theorem dL_isGiven_57 : decode cL_isGiven 57 = .ok (.iload_n 3, 1) := by decide +kernel
theorem dL_isGiven_58 : decode cL_isGiven 58 = .ok (.invokestatic 98, 3) := by decide +kernel
theorem dL_isGiven_61 : decode cL_isGiven 61 = .ok (.iload 4, 2) := by decide +kernel
theorem dL_isGiven_63 : decode cL_isGiven 63 = .ok (.if_icmp .ne 7, 3) := by decide +kernel
theorem dL_isGiven_66 : decode cL_isGiven 66 = .ok (.iconst 1, 1) := by decide +kernel
theorem dL_isGiven_67 : decode cL_isGiven 67 = .ok (.goto 4, 3) := by decide +kernel
theorem dL_isGiven_70 : decode cL_isGiven 70 = .ok (.iconst 0, 1) := by decide +kernel
theorem dL_isGiven_71 : decode cL_isGiven 71 = .ok (.ireturn, 1) := by decide +kernel
set_option maxRecDepth 20000 in
theorem ggL_isPlaced_L_does : GoodIn wsL_isPlaced wsL_does := goodIn_ca (goodIn_ca (goodIn_r _ [4, 5, 6, 7, 8, 9, 10, 11, 12, 13, 14, 15, 16, 17, 18, 19, 20, 21, 22, 23, 24, 25, 26, 27, 28, 29, 30, 31, 32, 33, 34, 35, 36, 37, 38, 39, 40, 41, 42, 43, 44, 45, 46, 47, 48, 49, 50, 51, 52, 53, 54, 55, 56, 57, 58, 59, 60, 73, 74, 75, 76, 77, 78, 79, 80, 81, 82, 83] (by decide +kernel) (by decide +kernel)) (goodIn_sub (fun _ h => List.mem_cons_of_mem _ (List.mem_append_left _ (List.mem_append_right _ h))) (by decide +kernel))) (goodIn_sub (fun _ h => List.mem_cons_of_mem _ (List.mem_append_right _ h)) (by decide +kernel))
set_option maxRecDepth 20000 in
theorem gL_isPlaced_L_does : GoodIn wsL_isPlaced (va_wsS RL 98 yL_does wsL_does) := goodIn_app (goodIn_of _ (by decide +kernel)) ggL_isPlaced_L_does
set_option maxRecDepth 20000 in
theorem ggL_isPlaced_L_won : GoodIn wsL_isPlaced wsL_won := goodIn_r _ [63, 64, 65, 3, 66, 67, 68, 69, 70, 71, 72] (by decide +kernel) (by decide +kernel)
set_option maxRecDepth 20000 in
theorem gL_isPlaced_L_won : GoodIn wsL_isPlaced (va_wsS RL 61 yL_won wsL_won) := goodIn_app (goodIn_of _ (by decide +kernel)) ggL_isPlaced_L_won
theorem dL_isPlaced_0 : decode cL_isPlaced 0 = .ok (.iload_n 3, 1) := by decide +kernel
theorem dL_isPlaced_1 : decode cL_isPlaced 1 = .ok (.bipush 15, 2) := by decide +kernel
theorem dL_isPlaced_3 : decode cL_isPlaced 3 = .ok (.if_icmp .gt 16, 3) := by decide +kernel
theorem dL_isPlaced_6 : decode cL_isPlaced 6 = .ok (.aload_n 2, 1) := by decide +kernel
theorem dL_isPlaced_7 : decode cL_isPlaced 7 = .ok (.iconst 1, 1) := by decide +kernel
theorem dL_isPlaced_8 : decode cL_isPlaced 8 = .ok (.iaload, 1) := by decide +kernel
theorem dL_isPlaced_9 : decode cL_isPlaced 9 = .ok (.iconst 1, 1) := by decide +kernel
theorem dL_isPlaced_10 : decode cL_isPlaced 10 = .ok (.if_icmp .ne 9, 3) := by decide +kernel
theorem dL_isPlaced_13 : decode cL_isPlaced 13 = .ok (.aload_n 1, 1) := by decide +kernel
theorem dL_isPlaced_14 : decode cL_isPlaced 14 = .ok (.iload_n 3, 1) := by decide +kernel
theorem dL_isPlaced_15 : decode cL_isPlaced 15 = .ok (.iaload, 1) := by decide +kernel
theorem dL_isPlaced_16 : decode cL_isPlaced 16 = .ok (.ifCond .lt 31, 3) := by decide +kernel
theorem dL_isPlaced_19 : decode cL_isPlaced 19 = .ok (.aload_n 0, 1) := by decide +kernel
theorem dL_isPlaced_20 : decode cL_isPlaced 20 = .ok (.iconst 0, 1) := by decide +kernel
theorem dL_isPlaced_21 : decode cL_isPlaced 21 = .ok (.iload_n 3, 1) := by decide +kernel
theorem dL_isPlaced_22 : decode cL_isPlaced 22 = .ok (.invokestatic 98, 3) := by decide +kernel
theorem dL_isPlaced_25 : decode cL_isPlaced 25 = .ok (.iload_n 3, 1) := by decide +kernel
theorem dL_isPlaced_26 : decode cL_isPlaced 26 = .ok (.bipush 15, 2) := by decide +kernel
theorem dL_isPlaced_28 : decode cL_isPlaced 28 = .ok (.if_icmp .le 8, 3) := by decide +kernel
theorem dL_isPlaced_31 : decode cL_isPlaced 31 = .ok (.bipush (-30), 2) := by decide +kernel
theorem dL_isPlaced_33 : decode cL_isPlaced 33 = .ok (.goto 5, 3) := by decide +kernel
theorem dL_isPlaced_36 : decode cL_isPlaced 36 = .ok (.bipush (-10), 2) := by decide +kernel
theorem dL_isPlaced_38 : decode cL_isPlaced 38 = .ok (.if_icmp .ne 7, 3) := by decide +kernel
theorem dL_isPlaced_41 : decode cL_isPlaced 41 = .ok (.iconst 1, 1) := by decide +kernel
theorem dL_isPlaced_42 : decode cL_isPlaced 42 = .ok (.goto 4, 3) := by decide +kernel
theorem dL_isPlaced_45 : decode cL_isPlaced 45 = .ok (.iconst 0, 1) := by decide +kernel
theorem dL_isPlaced_46 : decode cL_isPlaced 46 = .ok (.ireturn, 1) := by decide +kernel
theorem dL_isPlaced_47 : decode cL_isPlaced 47 = .ok (.aload_n 1, 1) := by decide +kernel
theorem dL_isPlaced_48 : decode cL_isPlaced 48 = .ok (.iload_n 3, 1) := by decide +kernel
theorem dL_isPlaced_49 : decode cL_isPlaced 49 = .ok (.aload_n 2, 1) := by decide +kernel
theorem dL_isPlaced_50 : decode cL_isPlaced 50 = .ok (.iconst 3, 1) := by decide +kernel
theorem dL_isPlaced_51 : decode cL_isPlaced 51 = .ok (.iaload, 1) := by decide +kernel
theorem dL_isPlaced_52 : decode cL_isPlaced 52 = .ok (.iastore, 1) := by decide +kernel
theorem dL_isPlaced_53 : decode cL_isPlaced 53 = .ok (.aload_n 2, 1) := by decide +kernel
theorem dL_isPlaced_54 : decode cL_isPlaced 54 = .ok (.iconst 3, 1) := by decide +kernel
theorem dL_isPlaced_55 : decode cL_isPlaced 55 = .ok (.iconst (-1), 1) := by decide +kernel
theorem dL_isPlaced_56 : decode cL_isPlaced 56 = .ok (.iastore, 1) := by decide +kernel
theorem dL_isPlaced_57 : decode cL_isPlaced 57 = .ok (.aload_n 2, 1) := by decide +kernel
theorem dL_isPlaced_58 : decode cL_isPlaced 58 = .ok (.iconst 4, 1) := by decide +kernel
theorem dL_isPlaced_59 : decode cL_isPlaced 59 = .ok (.dup2, 1) := by decide +kernel
theorem dL_isPlaced_60 : decode cL_isPlaced 60 = .ok (.iaload, 1) := by decide +kernel
theorem dL_isPlaced_61 : decode cL_isPlaced 61 = .ok (.iconst 1, 1) := by decide +kernel
theorem dL_isPlaced_62 : decode cL_isPlaced 62 = .ok (.iadd, 1) := by decide +kernel
theorem dL_isPlaced_63 : decode cL_isPlaced 63 = .ok (.iastore, 1) := by decide +kernel
theorem dL_isPlaced_64 : decode cL_isPlaced 64 = .ok (.aload_n 1, 1) := by decide +kernel
theorem dL_isPlaced_65 : decode cL_isPlaced 65 = .ok (.aload_n 2, 1) := by decide +kernel
theorem dL_isPlaced_66 : decode cL_isPlaced 66 = .ok (.iconst 0, 1) := by decide +kernel
theorem dL_isPlaced_67 : decode cL_isPlaced 67 = .ok (.iaload, 1) := by decide +kernel
theorem dL_isPlaced_68 : decode cL_isPlaced 68 = .ok (.invokestatic 61, 3) := by decide +kernel
theorem dL_isPlaced_71 : decode cL_isPlaced 71 = .ok (.istore 4, 2) := by decide +kernel
theorem dL_isPlaced_73 : decode cL_isPlaced 73 = .ok (.aload_n 2, 1) := by decide +kernel
theorem dL_isPlaced_74 : decode cL_isPlaced 74 = .ok (.iconst 5, 1) := by decide +kernel
theorem dL_isPlaced_75 : decode cL_isPlaced 75 = .ok (.iload 4, 2) := by decide +kernel
theorem dL_isPlaced_77 : decode cL_isPlaced 77 = .ok (.ifCond .le 9, 3) := by decide +kernel
theorem dL_isPlaced_80 : decode cL_isPlaced 80 = .ok (.aload_n 2, 1) := by decide +kernel
theorem dL_isPlaced_81 : decode cL_isPlaced 81 = .ok (.iconst 2, 1) := by decide +kernel
theorem dL_isPlaced_82 : decode cL_isPlaced 82 = .ok (.iaload, 1) := by decide +kernel
theorem dL_isPlaced_83 : decode cL_isPlaced 83 = .ok (.goto 16, 3) := by decide +kernel
theorem dL_isPlaced_86 : decode cL_isPlaced 86 = .ok (.aload_n 2, 1) := by decide +kernel
theorem dL_isPlaced_87 : decode cL_isPlaced 87 = .ok (.iconst 4, 1) := by decide +kernel
theorem dL_isPlaced_88 : decode cL_isPlaced 88 = .ok (.iaload, 1) := by decide +kernel
theorem dL_isPlaced_89 : decode cL_isPlaced 89 = .ok (.bipush 16, 2) := by decide +kernel
theorem dL_isPlaced_91 : decode cL_isPlaced 91 = .ok (.if_icmp .ne 7, 3) := by decide +kernel
theorem dL_isPlaced_94 : decode cL_isPlaced 94 = .ok (.iconst 2, 1) := by decide +kernel
theorem dL_isPlaced_95 : decode cL_isPlaced 95 = .ok (.goto 4, 3) := by decide +kernel
theorem dL_isPlaced_98 : decode cL_isPlaced 98 = .ok (.iconst (-1), 1) := by decide +kernel
theorem dL_isPlaced_99 : decode cL_isPlaced 99 = .ok (.iastore, 1) := by decide +kernel
theorem dL_isPlaced_100 : decode cL_isPlaced 100 = .ok (.aload_n 2, 1) := by decide +kernel
theorem dL_isPlaced_101 : decode cL_isPlaced 101 = .ok (.iconst 1, 1) := by decide +kernel
theorem dL_isPlaced_102 : decode cL_isPlaced 102 = .ok (.aload_n 2, 1) := by decide +kernel
theorem dL_isPlaced_103 : decode cL_isPlaced 103 = .ok (.iconst 5, 1) := by decide +kernel
theorem dL_isPlaced_104 : decode cL_isPlaced 104 = .ok (.iaload, 1) := by decide +kernel
theorem dL_isPlaced_105 : decode cL_isPlaced 105 = .ok (.ifCond .ge 7, 3) := by decide +kernel
theorem dL_isPlaced_108 : decode cL_isPlaced 108 = .ok (.iconst 0, 1) := by decide +kernel
theorem dL_isPlaced_109 : decode cL_isPlaced 109 = .ok (.goto 4, 3) := by decide +kernel
theorem dL_isPlaced_112 : decode cL_isPlaced 112 = .ok (.iconst 2, 1) := by decide +kernel
theorem dL_isPlaced_113 : decode cL_isPlaced 113 = .ok (.iastore, 1) := by decide +kernel
theorem dL_isPlaced_114 : decode cL_isPlaced 114 = .ok (.aload_n 0, 1) := by decide +kernel
theorem dL_isPlaced_115 : decode cL_isPlaced 115 = .ok (.iconst 0, 1) := by decide +kernel
theorem dL_isPlaced_116 : decode cL_isPlaced 116 = .ok (.iload_n 3, 1) := by decide +kernel
theorem dL_isPlaced_117 : decode cL_isPlaced 117 = .ok (.invokestatic 98, 3) := by decide +kernel
theorem dL_isPlaced_120 : decode cL_isPlaced 120 = .ok (.iload 4, 2) := by decide +kernel
theorem dL_isPlaced_122 : decode cL_isPlaced 122 = .ok (.if_icmp .ne 7, 3) := by decide +kernel
theorem dL_isPlaced_125 : decode cL_isPlaced 125 = .ok (.iconst 1, 1) := by decide +kernel
theorem dL_isPlaced_126 : decode cL_isPlaced 126 = .ok (.goto 4, 3) := by decide +kernel
theorem dL_isPlaced_129 : decode cL_isPlaced 129 = .ok (.iconst 0, 1) := by decide +kernel
theorem dL_isPlaced_130 : decode cL_isPlaced 130 = .ok (.ireturn, 1) := by decide +kernel
set_option maxRecDepth 20000 in
theorem ggL_isPlayed_L_safe : GoodIn wsL_isPlayed wsL_safe := goodIn_r _ [4, 5, 6, 3, 7, 8, 9, 10, 11, 12, 13, 14, 15, 16, 17, 18, 19, 20, 21, 22] (by decide +kernel) (by decide +kernel)
set_option maxRecDepth 20000 in
theorem gL_isPlayed_L_safe : GoodIn wsL_isPlayed (va_wsS RL 93 yL_safe wsL_safe) := goodIn_app (goodIn_of _ (by decide +kernel)) ggL_isPlayed_L_safe
set_option maxRecDepth 20000 in
theorem ggL_isPlayed_L_isOn : GoodIn wsL_isPlayed wsL_isOn := goodIn_r _ [7] (by decide +kernel) (by decide +kernel)
set_option maxRecDepth 20000 in
theorem gL_isPlayed_L_isOn : GoodIn wsL_isPlayed (va_wsS RL 64 yL_isOn wsL_isOn) := goodIn_app (goodIn_of _ (by decide +kernel)) ggL_isPlayed_L_isOn
set_option maxRecDepth 20000 in
theorem ggL_isPlayed_L_isGiven : GoodIn wsL_isPlayed wsL_isGiven := goodIn_ca (goodIn_ca (goodIn_r _ [25, 5, 6, 3, 7, 26, 27, 28, 29, 30, 31, 32, 33, 34, 35, 36, 37, 38, 39, 40, 41, 42, 43, 44, 45, 46, 47, 48, 49, 50, 51, 52, 53, 54, 55, 56, 57, 58, 59, 60, 61, 62, 63, 64, 65, 66, 67, 68, 69, 70, 71, 72, 73, 74, 75, 76, 77, 78, 79, 80, 81, 82, 83, 84, 92, 93, 94, 95, 96, 97, 98, 99, 100, 101, 102] (by decide +kernel) (by decide +kernel)) (goodIn_sub (fun _ h => List.mem_cons_of_mem _ (List.mem_append_left _ (List.mem_append_right _ h))) (by decide +kernel))) (goodIn_sub (fun _ h => List.mem_cons_of_mem _ (List.mem_append_right _ h)) (by decide +kernel))
set_option maxRecDepth 20000 in
theorem gL_isPlayed_L_isGiven : GoodIn wsL_isPlayed (va_wsS RL 102 yL_isGiven wsL_isGiven) := goodIn_app (goodIn_of _ (by decide +kernel)) ggL_isPlayed_L_isGiven
set_option maxRecDepth 20000 in
theorem ggL_isPlayed_L_isPlaced : GoodIn wsL_isPlayed wsL_isPlaced := goodIn_ca (goodIn_ca (goodIn_r _ [87, 26, 27, 3, 28, 29, 30, 31, 32, 33, 34, 35, 36, 37, 38, 39, 40, 41, 42, 43, 44, 45, 46, 47, 48, 49, 50, 51, 52, 53, 54, 55, 56, 57, 58, 59, 60, 61, 62, 63, 64, 65, 66, 67, 68, 69, 70, 71, 72, 73, 74, 75, 76, 77, 78, 79, 80, 81, 82, 83, 84, 11, 12, 13, 14, 15, 16, 17, 18, 19, 20, 21, 22, 92, 93, 94, 95, 96, 97, 98, 99, 100, 101, 102] (by decide +kernel) (by decide +kernel)) (goodIn_sub (fun _ h => List.mem_cons_of_mem _ (List.mem_append_left _ (List.mem_append_right _ h))) (by decide +kernel))) (goodIn_sub (fun _ h => List.mem_cons_of_mem _ (List.mem_append_right _ h)) (by decide +kernel))
set_option maxRecDepth 20000 in
theorem gL_isPlayed_L_isPlaced : GoodIn wsL_isPlayed (va_wsS RL 106 yL_isPlaced wsL_isPlaced) := goodIn_app (goodIn_of _ (by decide +kernel)) ggL_isPlayed_L_isPlaced
set_option maxRecDepth 20000 in
theorem ggL_isPlayed_X0_winner : GoodIn wsL_isPlayed wsX0_winner := goodIn_r _ [91, 55, 92, 93, 94, 95, 96, 97, 98, 99, 100, 101, 102] (by decide +kernel) (by decide +kernel)
set_option maxRecDepth 20000 in
theorem gL_isPlayed_X0_winner : GoodIn wsL_isPlayed (wsV RL 86 RX0 yX0_winner wsX0_winner) := goodIn_app (goodIn_of _ (by decide +kernel)) ggL_isPlayed_X0_winner
theorem dL_isPlayed_0 : decode cL_isPlayed 0 = .ok (.aload_n 2, 1) := by decide +kernel
theorem dL_isPlayed_1 : decode cL_isPlayed 1 = .ok (.iconst 1, 1) := by decide +kernel
theorem dL_isPlayed_2 : decode cL_isPlayed 2 = .ok (.iaload, 1) := by decide +kernel
theorem dL_isPlayed_3 : decode cL_isPlayed 3 = .ok (.ifCond .ne 68, 3) := by decide +kernel
theorem dL_isPlayed_6 : decode cL_isPlayed 6 = .ok (.aload_n 1, 1) := by decide +kernel
theorem dL_isPlayed_7 : decode cL_isPlayed 7 = .ok (.aload_n 2, 1) := by decide +kernel
theorem dL_isPlayed_8 : decode cL_isPlayed 8 = .ok (.iconst 0, 1) := by decide +kernel
theorem dL_isPlayed_9 : decode cL_isPlayed 9 = .ok (.iaload, 1) := by decide +kernel
theorem dL_isPlayed_10 : decode cL_isPlayed 10 = .ok (.invokestatic 93, 3) := by decide +kernel
theorem dL_isPlayed_13 : decode cL_isPlayed 13 = .ok (.istore 5, 2) := by decide +kernel
theorem dL_isPlayed_15 : decode cL_isPlayed 15 = .ok (.iload_n 3, 1) := by decide +kernel
theorem dL_isPlayed_16 : decode cL_isPlayed 16 = .ok (.bipush 16, 2) := by decide +kernel
theorem dL_isPlayed_18 : decode cL_isPlayed 18 = .ok (.irem, 1) := by decide +kernel
theorem dL_isPlayed_19 : decode cL_isPlayed 19 = .ok (.istore 6, 2) := by decide +kernel
theorem dL_isPlayed_21 : decode cL_isPlayed 21 = .ok (.aload_n 1, 1) := by decide +kernel
theorem dL_isPlayed_22 : decode cL_isPlayed 22 = .ok (.iload 6, 2) := by decide +kernel
theorem dL_isPlayed_24 : decode cL_isPlayed 24 = .ok (.invokestatic 64, 3) := by decide +kernel
theorem dL_isPlayed_27 : decode cL_isPlayed 27 = .ok (.ifCond .ne 23, 3) := by decide +kernel
theorem dL_isPlayed_30 : decode cL_isPlayed 30 = .ok (.iload 4, 2) := by decide +kernel
theorem dL_isPlayed_32 : decode cL_isPlayed 32 = .ok (.ifCond .eq 30, 3) := by decide +kernel
theorem dL_isPlayed_35 : decode cL_isPlayed 35 = .ok (.iload 5, 2) := by decide +kernel
theorem dL_isPlayed_37 : decode cL_isPlayed 37 = .ok (.ifCond .eq 25, 3) := by decide +kernel
theorem dL_isPlayed_40 : decode cL_isPlayed 40 = .ok (.iload 5, 2) := by decide +kernel
theorem dL_isPlayed_42 : decode cL_isPlayed 42 = .ok (.iload 6, 2) := by decide +kernel
theorem dL_isPlayed_44 : decode cL_isPlayed 44 = .ok (.ishr, 1) := by decide +kernel
theorem dL_isPlayed_45 : decode cL_isPlayed 45 = .ok (.iconst 1, 1) := by decide +kernel
theorem dL_isPlayed_46 : decode cL_isPlayed 46 = .ok (.iand, 1) := by decide +kernel
theorem dL_isPlayed_47 : decode cL_isPlayed 47 = .ok (.ifCond .ne 15, 3) := by decide +kernel
theorem dL_isPlayed_50 : decode cL_isPlayed 50 = .ok (.iload 6, 2) := by decide +kernel
theorem dL_isPlayed_52 : decode cL_isPlayed 52 = .ok (.iconst 1, 1) := by decide +kernel
theorem dL_isPlayed_53 : decode cL_isPlayed 53 = .ok (.iadd, 1) := by decide +kernel
theorem dL_isPlayed_54 : decode cL_isPlayed 54 = .ok (.bipush 16, 2) := by decide +kernel
theorem dL_isPlayed_56 : decode cL_isPlayed 56 = .ok (.irem, 1) := by decide +kernel
theorem dL_isPlayed_57 : decode cL_isPlayed 57 = .ok (.istore 6, 2) := by decide +kernel
theorem dL_isPlayed_59 : decode cL_isPlayed 59 = .ok (.goto (-38), 3) := by decide +kernel
theorem dL_isPlayed_62 : decode cL_isPlayed 62 = .ok (.aload_n 0, 1) := by decide +kernel
theorem dL_isPlayed_63 : decode cL_isPlayed 63 = .ok (.aload_n 1, 1) := by decide +kernel
theorem dL_isPlayed_64 : decode cL_isPlayed 64 = .ok (.aload_n 2, 1) := by decide +kernel
theorem dL_isPlayed_65 : decode cL_isPlayed 65 = .ok (.iload 6, 2) := by decide +kernel
theorem dL_isPlayed_67 : decode cL_isPlayed 67 = .ok (.invokestatic 102, 3) := by decide +kernel
theorem dL_isPlayed_70 : decode cL_isPlayed 70 = .ok (.ireturn, 1) := by decide +kernel
theorem dL_isPlayed_71 : decode cL_isPlayed 71 = .ok (.aload_n 2, 1) := by decide +kernel
theorem dL_isPlayed_72 : decode cL_isPlayed 72 = .ok (.iconst 1, 1) := by decide +kernel
theorem dL_isPlayed_73 : decode cL_isPlayed 73 = .ok (.iaload, 1) := by decide +kernel
theorem dL_isPlayed_74 : decode cL_isPlayed 74 = .ok (.iconst 1, 1) := by decide +kernel
theorem dL_isPlayed_75 : decode cL_isPlayed 75 = .ok (.if_icmp .ne 37, 3) := by decide +kernel
theorem dL_isPlayed_78 : decode cL_isPlayed 78 = .ok (.iload_n 3, 1) := by decide +kernel
theorem dL_isPlayed_79 : decode cL_isPlayed 79 = .ok (.bipush 16, 2) := by decide +kernel
theorem dL_isPlayed_81 : decode cL_isPlayed 81 = .ok (.irem, 1) := by decide +kernel
theorem dL_isPlayed_82 : decode cL_isPlayed 82 = .ok (.istore 5, 2) := by decide +kernel
theorem dL_isPlayed_84 : decode cL_isPlayed 84 = .ok (.aload_n 1, 1) := by decide +kernel
theorem dL_isPlayed_85 : decode cL_isPlayed 85 = .ok (.iload 5, 2) := by decide +kernel
theorem dL_isPlayed_87 : decode cL_isPlayed 87 = .ok (.iaload, 1) := by decide +kernel
theorem dL_isPlayed_88 : decode cL_isPlayed 88 = .ok (.ifCond .lt 15, 3) := by decide +kernel
theorem dL_isPlayed_91 : decode cL_isPlayed 91 = .ok (.iload 5, 2) := by decide +kernel
theorem dL_isPlayed_93 : decode cL_isPlayed 93 = .ok (.iconst 1, 1) := by decide +kernel
theorem dL_isPlayed_94 : decode cL_isPlayed 94 = .ok (.iadd, 1) := by decide +kernel
theorem dL_isPlayed_95 : decode cL_isPlayed 95 = .ok (.bipush 16, 2) := by decide +kernel
theorem dL_isPlayed_97 : decode cL_isPlayed 97 = .ok (.irem, 1) := by decide +kernel
theorem dL_isPlayed_98 : decode cL_isPlayed 98 = .ok (.istore 5, 2) := by decide +kernel
theorem dL_isPlayed_100 : decode cL_isPlayed 100 = .ok (.goto (-16), 3) := by decide +kernel
theorem dL_isPlayed_103 : decode cL_isPlayed 103 = .ok (.aload_n 0, 1) := by decide +kernel
theorem dL_isPlayed_104 : decode cL_isPlayed 104 = .ok (.aload_n 1, 1) := by decide +kernel
theorem dL_isPlayed_105 : decode cL_isPlayed 105 = .ok (.aload_n 2, 1) := by decide +kernel
theorem dL_isPlayed_106 : decode cL_isPlayed 106 = .ok (.iload 5, 2) := by decide +kernel
theorem dL_isPlayed_108 : decode cL_isPlayed 108 = .ok (.invokestatic 106, 3) := by decide +kernel
theorem dL_isPlayed_111 : decode cL_isPlayed 111 = .ok (.ireturn, 1) := by decide +kernel
theorem dL_isPlayed_112 : decode cL_isPlayed 112 = .ok (.aload_n 0, 1) := by decide +kernel
theorem dL_isPlayed_113 : decode cL_isPlayed 113 = .ok (.invokevirtual 86, 3) := by decide +kernel
theorem dL_isPlayed_116 : decode cL_isPlayed 116 = .ok (.ifCond .lt 7, 3) := by decide +kernel
theorem dL_isPlayed_119 : decode cL_isPlayed 119 = .ok (.iconst 1, 1) := by decide +kernel
theorem dL_isPlayed_120 : decode cL_isPlayed 120 = .ok (.goto 4, 3) := by decide +kernel
theorem dL_isPlayed_123 : decode cL_isPlayed 123 = .ok (.iconst 0, 1) := by decide +kernel
theorem dL_isPlayed_124 : decode cL_isPlayed 124 = .ok (.ireturn, 1) := by decide +kernel
set_option maxRecDepth 20000 in
theorem ggL_isBegun_X0_begin : GoodIn wsL_isBegun wsX0_begin := goodIn_r _ [5, 6, 7, 8, 9, 10, 11, 12, 13, 14, 15, 16, 17, 18, 19, 20, 46, 47, 48, 49, 50, 51, 52, 53, 54, 55, 56] (by decide +kernel) (by decide +kernel)
set_option maxRecDepth 20000 in
theorem gL_isBegun_X0_begin : GoodIn wsL_isBegun (wsV RL 109 RX0 yX0_begin wsX0_begin) := goodIn_app (goodIn_of _ (by decide +kernel)) ggL_isBegun_X0_begin
set_option maxRecDepth 20000 in
theorem ggL_isBegun_X0_symmetries : GoodIn wsL_isBegun wsX0_symmetries := goodIn_r _ [24, 6, 13, 25, 26, 27, 4, 28, 29, 30, 31, 32, 33, 34, 35, 36, 37, 38, 39, 40, 41, 42, 43, 44, 45, 46, 47, 48, 49, 50, 51, 52, 53, 54, 55, 56] (by decide +kernel) (by decide +kernel)
set_option maxRecDepth 20000 in
theorem gL_isBegun_X0_symmetries : GoodIn wsL_isBegun (wsV RL 113 RX0 yX0_symmetries wsX0_symmetries) := goodIn_app (goodIn_of _ (by decide +kernel)) ggL_isBegun_X0_symmetries
theorem dL_isBegun_0 : decode cL_isBegun 0 = .ok (.aload_n 2, 1) := by decide +kernel
theorem dL_isBegun_1 : decode cL_isBegun 1 = .ok (.iconst 4, 1) := by decide +kernel
theorem dL_isBegun_2 : decode cL_isBegun 2 = .ok (.iaload, 1) := by decide +kernel
theorem dL_isBegun_3 : decode cL_isBegun 3 = .ok (.istore 4, 2) := by decide +kernel
theorem dL_isBegun_5 : decode cL_isBegun 5 = .ok (.iconst 0, 1) := by decide +kernel
theorem dL_isBegun_6 : decode cL_isBegun 6 = .ok (.istore 5, 2) := by decide +kernel
theorem dL_isBegun_8 : decode cL_isBegun 8 = .ok (.iload 5, 2) := by decide +kernel
theorem dL_isBegun_10 : decode cL_isBegun 10 = .ok (.bipush 16, 2) := by decide +kernel
theorem dL_isBegun_12 : decode cL_isBegun 12 = .ok (.if_icmp .ge 14, 3) := by decide +kernel
theorem dL_isBegun_15 : decode cL_isBegun 15 = .ok (.aload_n 1, 1) := by decide +kernel
theorem dL_isBegun_16 : decode cL_isBegun 16 = .ok (.iload 5, 2) := by decide +kernel
theorem dL_isBegun_18 : decode cL_isBegun 18 = .ok (.iconst (-1), 1) := by decide +kernel
theorem dL_isBegun_19 : decode cL_isBegun 19 = .ok (.iastore, 1) := by decide +kernel
theorem dL_isBegun_20 : decode cL_isBegun 20 = .ok (.iinc 5 1, 3) := by decide +kernel
theorem dL_isBegun_23 : decode cL_isBegun 23 = .ok (.goto (-15), 3) := by decide +kernel
theorem dL_isBegun_26 : decode cL_isBegun 26 = .ok (.aload_n 2, 1) := by decide +kernel
theorem dL_isBegun_27 : decode cL_isBegun 27 = .ok (.iconst 0, 1) := by decide +kernel
theorem dL_isBegun_28 : decode cL_isBegun 28 = .ok (.iload_n 3, 1) := by decide +kernel
theorem dL_isBegun_29 : decode cL_isBegun 29 = .ok (.ifCond .eq 8, 3) := by decide +kernel
theorem dL_isBegun_32 : decode cL_isBegun 32 = .ok (.bipush 19, 2) := by decide +kernel
theorem dL_isBegun_34 : decode cL_isBegun 34 = .ok (.goto 5, 3) := by decide +kernel
theorem dL_isBegun_37 : decode cL_isBegun 37 = .ok (.bipush 10, 2) := by decide +kernel
theorem dL_isBegun_39 : decode cL_isBegun 39 = .ok (.iastore, 1) := by decide +kernel
theorem dL_isBegun_40 : decode cL_isBegun 40 = .ok (.aload_n 2, 1) := by decide +kernel
theorem dL_isBegun_41 : decode cL_isBegun 41 = .ok (.iconst 1, 1) := by decide +kernel
theorem dL_isBegun_42 : decode cL_isBegun 42 = .ok (.iconst 0, 1) := by decide +kernel
theorem dL_isBegun_43 : decode cL_isBegun 43 = .ok (.iastore, 1) := by decide +kernel
theorem dL_isBegun_44 : decode cL_isBegun 44 = .ok (.aload_n 2, 1) := by decide +kernel
theorem dL_isBegun_45 : decode cL_isBegun 45 = .ok (.iconst 2, 1) := by decide +kernel
theorem dL_isBegun_46 : decode cL_isBegun 46 = .ok (.iconst 0, 1) := by decide +kernel
theorem dL_isBegun_47 : decode cL_isBegun 47 = .ok (.iastore, 1) := by decide +kernel
theorem dL_isBegun_48 : decode cL_isBegun 48 = .ok (.aload_n 2, 1) := by decide +kernel
theorem dL_isBegun_49 : decode cL_isBegun 49 = .ok (.iconst 3, 1) := by decide +kernel
theorem dL_isBegun_50 : decode cL_isBegun 50 = .ok (.iconst (-1), 1) := by decide +kernel
theorem dL_isBegun_51 : decode cL_isBegun 51 = .ok (.iastore, 1) := by decide +kernel
theorem dL_isBegun_52 : decode cL_isBegun 52 = .ok (.aload_n 2, 1) := by decide +kernel
theorem dL_isBegun_53 : decode cL_isBegun 53 = .ok (.iconst 4, 1) := by decide +kernel
theorem dL_isBegun_54 : decode cL_isBegun 54 = .ok (.iconst 0, 1) := by decide +kernel
theorem dL_isBegun_55 : decode cL_isBegun 55 = .ok (.iastore, 1) := by decide +kernel
theorem dL_isBegun_56 : decode cL_isBegun 56 = .ok (.aload_n 2, 1) := by decide +kernel
theorem dL_isBegun_57 : decode cL_isBegun 57 = .ok (.iconst 5, 1) := by decide +kernel
theorem dL_isBegun_58 : decode cL_isBegun 58 = .ok (.iconst (-1), 1) := by decide +kernel
theorem dL_isBegun_59 : decode cL_isBegun 59 = .ok (.iastore, 1) := by decide +kernel
theorem dL_isBegun_60 : decode cL_isBegun 60 = .ok (.aload_n 0, 1) := by decide +kernel
theorem dL_isBegun_61 : decode cL_isBegun 61 = .ok (.iload_n 3, 1) := by decide +kernel
theorem dL_isBegun_62 : decode cL_isBegun 62 = .ok (.invokevirtual 109, 3) := by decide +kernel
theorem dL_isBegun_65 : decode cL_isBegun 65 = .ok (.iload 4, 2) := by decide +kernel
theorem dL_isBegun_67 : decode cL_isBegun 67 = .ok (.if_icmp .ne 17, 3) := by decide +kernel
theorem dL_isBegun_70 : decode cL_isBegun 70 = .ok (.aload_n 0, 1) := by decide +kernel
theorem dL_isBegun_71 : decode cL_isBegun 71 = .ok (.invokevirtual 113, 3) := by decide +kernel
theorem dL_isBegun_74 : decode cL_isBegun 74 = .ok (.sipush 3072, 3) := by decide +kernel
theorem dL_isBegun_77 : decode cL_isBegun 77 = .ok (.if_icmp .ne 7, 3) := by decide +kernel
theorem dL_isBegun_80 : decode cL_isBegun 80 = .ok (.iconst 1, 1) := by decide +kernel
theorem dL_isBegun_81 : decode cL_isBegun 81 = .ok (.goto 4, 3) := by decide +kernel
theorem dL_isBegun_84 : decode cL_isBegun 84 = .ok (.iconst 0, 1) := by decide +kernel
theorem dL_isBegun_85 : decode cL_isBegun 85 = .ok (.ireturn, 1) := by decide +kernel
set_option maxRecDepth 20000 in
theorem ggL_law_X0_init : GoodIn wsL_law wsX0_init := goodIn_r _ [7, 8, 9, 10, 11, 12, 284, 285, 286, 287, 288, 289, 290, 291, 292, 293, 294] (by decide +kernel) (by decide +kernel)
set_option maxRecDepth 20000 in
theorem gL_law_X0_init : GoodIn wsL_law (wsX0_init) := ggL_law_X0_init
set_option maxRecDepth 20000 in
theorem ggL_law_L_isBoard : GoodIn wsL_law wsL_isBoard := goodIn_ca (goodIn_ca (goodIn_ca (goodIn_r _ [16, 17, 18, 19, 2, 20, 21, 22, 23, 24, 25, 26, 27, 28, 29, 30, 31, 32, 33, 34, 35, 36, 11, 37, 38, 39, 40, 41, 42, 43, 44, 45, 46, 47, 48, 49, 50, 51, 52, 12, 53, 54, 55, 56, 57, 58, 59, 60, 61, 62, 63, 64, 65, 66, 67, 68, 69, 70, 71, 72, 73, 74, 75, 76, 15, 77, 78, 79, 80, 81, 82, 83, 84, 85, 86, 87, 88, 89, 90, 91, 92, 93, 94, 95, 96, 97, 98, 99, 100, 101, 102, 103, 104, 105, 106, 107, 108, 109, 110, 111, 112, 113, 114, 115, 116, 117, 118, 119, 120, 121, 122, 123, 124, 125, 126, 127, 128, 129, 130, 131, 132, 133, 134, 135, 136, 137, 138, 139, 140, 141, 142, 143, 144, 145, 146, 147, 148, 149, 150, 151, 152, 153, 154, 155, 156, 157, 158, 159, 160, 161, 162, 163, 164, 165, 166, 167, 168, 169, 170, 171, 172, 173, 174, 175, 176, 177, 178, 179, 180, 181, 182, 183, 184, 185, 186, 187, 188, 189, 190, 191, 192, 193, 284, 285, 286, 287, 288, 289, 290, 291, 292, 293, 294] (by decide +kernel) (by decide +kernel)) (goodIn_sub (fun _ h => List.mem_append_left _ (List.mem_append_left _ (List.mem_append_right _ h))) (by decide +kernel))) (goodIn_sub (fun _ h => List.mem_append_left _ (List.mem_append_right _ h)) (by decide +kernel))) (goodIn_sub (fun _ h => List.mem_append_right _ h) (by decide +kernel))
set_option maxRecDepth 20000 in
theorem gL_law_L_isBoard : GoodIn wsL_law (va_wsS RL 117 yL_isBoard wsL_isBoard) := goodIn_app (goodIn_of _ (by decide +kernel)) ggL_law_L_isBoard
set_option maxRecDepth 20000 in
theorem ggL_law_L_alike : GoodIn wsL_law wsL_alike := goodIn_ca (goodIn_r _ [196, 97, 197, 198, 199, 2, 200, 102, 103, 201, 202, 203, 204, 205, 206, 207, 41, 59, 208, 209, 210, 171, 211, 212, 213, 214, 215, 216, 66, 67, 68, 69, 217, 218, 219, 284, 285, 286, 287, 288, 289, 290, 291, 292, 293, 294] (by decide +kernel) (by decide +kernel)) (goodIn_sub (fun _ h => List.mem_append_left _ (List.mem_append_right _ h)) (by decide +kernel))
set_option maxRecDepth 20000 in
theorem gL_law_L_alike : GoodIn wsL_law (va_wsS RL 121 yL_alike wsL_alike) := goodIn_app (goodIn_of _ (by decide +kernel)) ggL_law_L_alike
set_option maxRecDepth 20000 in
theorem ggL_law_X0_safe : GoodIn wsL_law wsX0_safe := goodIn_ca (goodIn_r _ [119, 102, 103, 27, 120, 121, 122, 2, 123, 104, 124, 125, 126, 127, 22, 74, 18, 19, 20, 21, 112, 113, 114, 115, 41, 85, 86, 87, 88, 59, 66, 67, 68, 69, 63, 64, 65, 109, 110, 111, 284, 285, 286, 287, 288, 289, 290, 291, 292, 293, 294] (by decide +kernel) (by decide +kernel)) (goodIn_sub (fun _ h => List.mem_append_left _ (List.mem_append_right _ h)) (by decide +kernel))
set_option maxRecDepth 20000 in
theorem gL_law_X0_safe : GoodIn wsL_law (wsV RL 33 RX0 yX0_safe wsX0_safe) := goodIn_app (goodIn_of _ (by decide +kernel)) ggL_law_X0_safe
set_option maxRecDepth 20000 in
theorem ggL_law_L_part : GoodIn wsL_law wsL_part := goodIn_r _ [222, 223] (by decide +kernel) (by decide +kernel)
set_option maxRecDepth 20000 in
theorem gL_law_L_part : GoodIn wsL_law (va_wsS RL 126 yL_part wsL_part) := goodIn_app (goodIn_of _ (by decide +kernel)) ggL_law_L_part
set_option maxRecDepth 20000 in
theorem ggL_law_L_isBegun : GoodIn wsL_law wsL_isBegun := goodIn_r _ [226, 227, 228, 229, 2, 230, 41, 21, 27, 32, 11, 12, 104, 59, 42, 43, 44, 45, 46, 47, 48, 231, 232, 233, 234, 204, 205, 206, 207, 208, 209, 210, 171, 211, 212, 213, 214, 215, 216, 66, 67, 68, 69, 217, 218, 219, 284, 285, 286, 287, 288, 289, 290, 291, 292, 293, 294] (by decide +kernel) (by decide +kernel)
set_option maxRecDepth 20000 in
theorem gL_law_L_isBegun : GoodIn wsL_law (va_wsS RL 129 yL_isBegun wsL_isBegun) := goodIn_app (goodIn_of _ (by decide +kernel)) ggL_law_L_isBegun
set_option maxRecDepth 20000 in
theorem ggL_law_X0_keep : GoodIn wsL_law wsX0_keep := goodIn_r _ [238, 201, 41, 202, 59, 203, 42, 43, 44, 45, 46, 47, 48, 284, 285, 286, 287, 288, 289, 290, 291, 292, 293, 294] (by decide +kernel) (by decide +kernel)
set_option maxRecDepth 20000 in
theorem gL_law_X0_keep : GoodIn wsL_law (wsV RL 133 RX0 yX0_keep wsX0_keep) := goodIn_app (goodIn_of _ (by decide +kernel)) ggL_law_X0_keep
set_option maxRecDepth 20000 in
theorem ggL_law_L_isGiven : GoodIn wsL_law wsL_isGiven := goodIn_ca (goodIn_ca (goodIn_r _ [241, 242, 243, 15, 244, 245, 246, 247, 95, 97, 248, 249, 250, 2, 251, 57, 58, 102, 103, 27, 104, 11, 32, 60, 61, 62, 63, 64, 65, 252, 253, 254, 255, 41, 12, 69, 154, 155, 156, 157, 59, 158, 159, 160, 161, 162, 163, 256, 257, 258, 259, 22, 74, 18, 19, 20, 21, 85, 86, 87, 88, 66, 67, 68, 284, 285, 286, 287, 288, 289, 290, 291, 292, 293, 294] (by decide +kernel) (by decide +kernel)) (goodIn_sub (fun _ h => List.mem_append_left _ (List.mem_append_left _ (List.mem_append_right _ h))) (by decide +kernel))) (goodIn_sub (fun _ h => List.mem_append_left _ (List.mem_append_right _ h)) (by decide +kernel))
set_option maxRecDepth 20000 in
theorem gL_law_L_isGiven : GoodIn wsL_law (va_wsS RL 102 yL_isGiven wsL_isGiven) := goodIn_app (goodIn_of _ (by decide +kernel)) ggL_law_L_isGiven
set_option maxRecDepth 20000 in
theorem ggL_law_L_isPlaced : GoodIn wsL_law wsL_isPlaced := goodIn_ca (goodIn_ca (goodIn_r _ [262, 245, 246, 15, 247, 95, 97, 248, 249, 250, 2, 251, 57, 58, 102, 103, 27, 104, 11, 32, 60, 61, 62, 63, 64, 65, 252, 253, 254, 255, 41, 12, 69, 154, 155, 156, 157, 59, 158, 159, 160, 161, 162, 163, 256, 257, 258, 259, 22, 74, 18, 19, 20, 21, 85, 86, 87, 88, 66, 67, 68, 263, 264, 265, 75, 76, 77, 78, 79, 80, 89, 90, 91, 284, 285, 286, 287, 288, 289, 290, 291, 292, 293, 294] (by decide +kernel) (by decide +kernel)) (goodIn_sub (fun _ h => List.mem_append_left _ (List.mem_append_left _ (List.mem_append_right _ h))) (by decide +kernel))) (goodIn_sub (fun _ h => List.mem_append_left _ (List.mem_append_right _ h)) (by decide +kernel))
set_option maxRecDepth 20000 in
theorem gL_law_L_isPlaced : GoodIn wsL_law (va_wsS RL 106 yL_isPlaced wsL_isPlaced) := goodIn_app (goodIn_of _ (by decide +kernel)) ggL_law_L_isPlaced
set_option maxRecDepth 20000 in
theorem ggL_law_L_isPlayed : GoodIn wsL_law wsL_isPlayed := goodIn_ca (goodIn_ca (goodIn_r _ [268, 269, 270, 15, 271, 242, 243, 244, 272, 273, 274, 263, 264, 265, 75, 76, 77, 78, 79, 80, 89, 90, 91, 239, 240, 241, 245, 246, 247, 95, 97, 248, 249, 250, 2, 251, 57, 58, 102, 103, 27, 104, 11, 32, 60, 61, 62, 63, 64, 65, 252, 253, 254, 255, 41, 12, 69, 154, 155, 156, 157, 59, 158, 159, 160, 161, 162, 163, 256, 257, 258, 259, 22, 74, 18, 19, 20, 21, 85, 86, 87, 88, 66, 67, 68, 260, 261, 262, 49, 50, 51, 52, 284, 285, 286, 287, 288, 289, 290, 291, 292, 293, 294] (by decide +kernel) (by decide +kernel)) (goodIn_sub (fun _ h => List.mem_append_left _ (List.mem_append_left _ (List.mem_append_right _ h))) (by decide +kernel))) (goodIn_sub (fun _ h => List.mem_append_left _ (List.mem_append_right _ h)) (by decide +kernel))
set_option maxRecDepth 20000 in
theorem gL_law_L_isPlayed : GoodIn wsL_law (va_wsS RL 136 yL_isPlayed wsL_isPlayed) := goodIn_app (goodIn_of _ (by decide +kernel)) ggL_law_L_isPlayed
set_option maxRecDepth 20000 in
theorem ggL_law_L_isSafe : GoodIn wsL_law wsL_isSafe := goodIn_ca (goodIn_ca (goodIn_ca (goodIn_r _ [277, 92, 93, 15, 94, 95, 96, 97, 53, 54, 55, 2, 56, 57, 58, 41, 59, 60, 61, 62, 63, 64, 65, 66, 67, 68, 69, 70, 71, 72, 73, 22, 74, 18, 19, 20, 21, 42, 43, 44, 45, 46, 47, 48, 81, 82, 83, 84, 85, 86, 87, 88, 98, 99, 100, 101, 102, 103, 27, 104, 105, 106, 107, 108, 109, 110, 111, 112, 113, 114, 115, 116, 117, 118, 119, 120, 121, 122, 123, 124, 125, 126, 127, 128, 129, 130, 131, 132, 133, 11, 134, 135, 136, 137, 138, 139, 140, 141, 142, 143, 144, 145, 146, 147, 148, 149, 150, 151, 152, 153, 154, 155, 156, 157, 158, 159, 160, 161, 162, 163, 164, 165, 166, 167, 168, 169, 170, 171, 172, 173, 174, 175, 176, 177, 178, 179, 180, 181, 182, 183, 184, 185, 186, 187, 188, 189, 190, 191, 192, 193, 242, 243, 244, 272, 273, 274, 263, 264, 265, 75, 76, 77, 78, 79, 80, 89, 90, 91, 269, 270, 271, 284, 285, 286, 287, 288, 289, 290, 291, 292, 293, 294] (by decide +kernel) (by decide +kernel)) (goodIn_sub (fun _ h => List.mem_append_left _ (List.mem_append_left _ (List.mem_append_right _ h))) (by decide +kernel))) (goodIn_sub (fun _ h => List.mem_append_left _ (List.mem_append_right _ h)) (by decide +kernel))) (goodIn_sub (fun _ h => List.mem_append_right _ h) (by decide +kernel))
set_option maxRecDepth 20000 in
theorem gL_law_L_isSafe : GoodIn wsL_law (va_wsS RL 140 yL_isSafe wsL_isSafe) := goodIn_app (goodIn_of _ (by decide +kernel)) ggL_law_L_isSafe
set_option maxRecDepth 20000 in
theorem ggL_law_L_isWorth : GoodIn wsL_law wsL_isWorth := goodIn_ca (goodIn_ca (goodIn_ca (goodIn_r _ [280, 92, 93, 15, 94, 95, 96, 97, 53, 54, 55, 2, 56, 57, 58, 41, 59, 60, 61, 62, 63, 64, 65, 66, 67, 68, 69, 70, 71, 72, 73, 22, 74, 18, 19, 20, 21, 42, 43, 44, 45, 46, 47, 48, 81, 82, 83, 84, 85, 86, 87, 88, 98, 99, 100, 101, 102, 103, 27, 104, 105, 106, 107, 108, 109, 110, 111, 112, 113, 114, 115, 116, 117, 118, 119, 120, 121, 122, 123, 124, 125, 126, 127, 128, 129, 130, 131, 132, 133, 11, 134, 135, 136, 137, 138, 139, 140, 141, 142, 143, 144, 145, 146, 147, 148, 149, 150, 151, 152, 153, 154, 155, 156, 157, 158, 159, 160, 161, 162, 163, 164, 165, 166, 167, 168, 169, 170, 171, 172, 173, 174, 175, 176, 177, 178, 179, 180, 181, 182, 183, 184, 185, 186, 187, 188, 189, 190, 191, 192, 193, 269, 270, 271, 242, 243, 244, 272, 273, 274, 263, 264, 265, 75, 76, 77, 78, 79, 80, 89, 90, 91, 281, 282, 283, 284, 285, 286, 287, 288, 289, 290, 291, 292, 293, 294] (by decide +kernel) (by decide +kernel)) (goodIn_sub (fun _ h => List.mem_append_left _ (List.mem_append_left _ (List.mem_append_right _ h))) (by decide +kernel))) (goodIn_sub (fun _ h => List.mem_append_left _ (List.mem_append_right _ h)) (by decide +kernel))) (goodIn_sub (fun _ h => List.mem_append_right _ h) (by decide +kernel))
set_option maxRecDepth 20000 in
theorem gL_law_L_isWorth : GoodIn wsL_law (va_wsS RL 143 yL_isWorth wsL_isWorth) := goodIn_app (goodIn_of _ (by decide +kernel)) ggL_law_L_isWorth
set_option maxRecDepth 20000 in
theorem ggL_law_L_does : GoodIn wsL_law wsL_does := goodIn_ca (goodIn_ca (goodIn_r _ [247, 95, 97, 248, 249, 250, 2, 251, 57, 58, 102, 103, 27, 104, 11, 32, 60, 61, 62, 63, 64, 65, 252, 253, 254, 255, 41, 12, 69, 154, 155, 156, 157, 59, 158, 159, 160, 161, 162, 163, 256, 257, 258, 259, 22, 74, 18, 19, 20, 21, 85, 86, 87, 88, 66, 67, 68, 284, 285, 286, 287, 288, 289, 290, 291, 292, 293, 294] (by decide +kernel) (by decide +kernel)) (goodIn_sub (fun _ h => List.mem_append_left _ (List.mem_append_left _ (List.mem_append_right _ h))) (by decide +kernel))) (goodIn_sub (fun _ h => List.mem_append_left _ (List.mem_append_right _ h)) (by decide +kernel))
set_option maxRecDepth 20000 in
theorem gL_law_L_does : GoodIn wsL_law (va_wsS RL 98 yL_does wsL_does) := goodIn_app (goodIn_of _ (by decide +kernel)) ggL_law_L_does
set_option maxRecDepth 20000 in
theorem ggL_law_L_asks : GoodIn wsL_law wsL_asks := goodIn_ca (goodIn_ca (goodIn_ca (goodIn_r _ [94, 95, 96, 97, 53, 54, 55, 2, 56, 57, 58, 41, 59, 60, 61, 62, 63, 64, 65, 66, 67, 68, 69, 70, 71, 72, 73, 22, 74, 18, 19, 20, 21, 42, 43, 44, 45, 46, 47, 48, 81, 82, 83, 84, 85, 86, 87, 88, 98, 99, 100, 101, 102, 103, 27, 104, 105, 106, 107, 108, 109, 110, 111, 112, 113, 114, 115, 116, 117, 118, 119, 120, 121, 122, 123, 124, 125, 126, 127, 128, 129, 130, 131, 132, 133, 11, 134, 135, 136, 137, 138, 139, 140, 141, 142, 143, 144, 145, 146, 147, 148, 149, 150, 151, 152, 153, 154, 155, 156, 157, 158, 159, 160, 161, 162, 163, 164, 165, 166, 167, 168, 169, 170, 171, 172, 173, 174, 175, 176, 177, 178, 179, 180, 181, 182, 183, 184, 185, 186, 187, 188, 189, 190, 191, 192, 193, 284, 285, 286, 287, 288, 289, 290, 291, 292, 293, 294] (by decide +kernel) (by decide +kernel)) (goodIn_sub (fun _ h => List.mem_append_left _ (List.mem_append_left _ (List.mem_append_right _ h))) (by decide +kernel))) (goodIn_sub (fun _ h => List.mem_append_left _ (List.mem_append_right _ h)) (by decide +kernel))) (goodIn_sub (fun _ h => List.mem_append_right _ h) (by decide +kernel))
set_option maxRecDepth 20000 in
theorem gL_law_L_asks : GoodIn wsL_law (va_wsS RL 89 yL_asks wsL_asks) := goodIn_app (goodIn_of _ (by decide +kernel)) ggL_law_L_asks
set_option maxRecDepth 20000 in
theorem ggL_law_X0_symmetries : GoodIn wsL_law wsX0_symmetries := goodIn_r _ [234, 41, 59, 204, 205, 206, 2, 207, 208, 209, 210, 171, 211, 212, 213, 214, 215, 216, 66, 67, 68, 69, 217, 218, 219, 284, 285, 286, 287, 288, 289, 290, 291, 292, 293, 294] (by decide +kernel) (by decide +kernel)
set_option maxRecDepth 20000 in
theorem gL_law_X0_symmetries : GoodIn wsL_law (wsV RL 113 RX0 yX0_symmetries wsX0_symmetries) := goodIn_app (goodIn_of _ (by decide +kernel)) ggL_law_X0_symmetries
theorem dL_law_0 : decode cL_law 0 = .ok (.new 9, 3) := by decide +kernel
theorem dL_law_3 : decode cL_law 3 = .ok (.dup, 1) := by decide +kernel
theorem dL_law_4 : decode cL_law 4 = .ok (.invokespecial 116, 3) := by decide +kernel
theorem dL_law_7 : decode cL_law 7 = .ok (.astore_n 1, 1) := by decide +kernel
theorem dL_law_8 : decode cL_law 8 = .ok (.bipush 16, 2) := by decide +kernel
theorem dL_law_10 : decode cL_law 10 = .ok (.newarray .int, 2) := by decide +kernel
theorem dL_law_12 : decode cL_law 12 = .ok (.astore_n 2, 1) := by decide +kernel
theorem dL_law_13 : decode cL_law 13 = .ok (.bipush 6, 2) := by decide +kernel
theorem dL_law_15 : decode cL_law 15 = .ok (.newarray .int, 2) := by decide +kernel
theorem dL_law_17 : decode cL_law 17 = .ok (.astore_n 3, 1) := by decide +kernel
theorem dL_law_18 : decode cL_law 18 = .ok (.iconst 0, 1) := by decide +kernel
theorem dL_law_19 : decode cL_law 19 = .ok (.istore 4, 2) := by decide +kernel
theorem dL_law_21 : decode cL_law 21 = .ok (.iload 4, 2) := by decide +kernel
theorem dL_law_23 : decode cL_law 23 = .ok (.bipush 16, 2) := by decide +kernel
theorem dL_law_25 : decode cL_law 25 = .ok (.if_icmp .ge 14, 3) := by decide +kernel
theorem dL_law_28 : decode cL_law 28 = .ok (.aload_n 2, 1) := by decide +kernel
theorem dL_law_29 : decode cL_law 29 = .ok (.iload 4, 2) := by decide +kernel
theorem dL_law_31 : decode cL_law 31 = .ok (.iconst (-1), 1) := by decide +kernel
theorem dL_law_32 : decode cL_law 32 = .ok (.iastore, 1) := by decide +kernel
theorem dL_law_33 : decode cL_law 33 = .ok (.iinc 4 1, 3) := by decide +kernel
theorem dL_law_36 : decode cL_law 36 = .ok (.goto (-15), 3) := by decide +kernel
theorem dL_law_39 : decode cL_law 39 = .ok (.aload_n 3, 1) := by decide +kernel
theorem dL_law_40 : decode cL_law 40 = .ok (.iconst 0, 1) := by decide +kernel
theorem dL_law_41 : decode cL_law 41 = .ok (.bipush 10, 2) := by decide +kernel
theorem dL_law_43 : decode cL_law 43 = .ok (.iastore, 1) := by decide +kernel
theorem dL_law_44 : decode cL_law 44 = .ok (.aload_n 3, 1) := by decide +kernel
theorem dL_law_45 : decode cL_law 45 = .ok (.iconst 3, 1) := by decide +kernel
theorem dL_law_46 : decode cL_law 46 = .ok (.iconst (-1), 1) := by decide +kernel
theorem dL_law_47 : decode cL_law 47 = .ok (.iastore, 1) := by decide +kernel
theorem dL_law_48 : decode cL_law 48 = .ok (.aload_n 3, 1) := by decide +kernel
theorem dL_law_49 : decode cL_law 49 = .ok (.iconst 5, 1) := by decide +kernel
theorem dL_law_50 : decode cL_law 50 = .ok (.iconst (-1), 1) := by decide +kernel
theorem dL_law_51 : decode cL_law 51 = .ok (.iastore, 1) := by decide +kernel
theorem dL_law_52 : decode cL_law 52 = .ok (.aload_n 1, 1) := by decide +kernel
theorem dL_law_53 : decode cL_law 53 = .ok (.aload_n 2, 1) := by decide +kernel
theorem dL_law_54 : decode cL_law 54 = .ok (.aload_n 3, 1) := by decide +kernel
theorem dL_law_55 : decode cL_law 55 = .ok (.invokestatic 117, 3) := by decide +kernel
theorem dL_law_58 : decode cL_law 58 = .ok (.ifCond .eq 25, 3) := by decide +kernel
theorem dL_law_61 : decode cL_law 61 = .ok (.aload_n 1, 1) := by decide +kernel
theorem dL_law_62 : decode cL_law 62 = .ok (.invokestatic 121, 3) := by decide +kernel
theorem dL_law_65 : decode cL_law 65 = .ok (.bipush (-10), 2) := by decide +kernel
theorem dL_law_67 : decode cL_law 67 = .ok (.if_icmp .ne 16, 3) := by decide +kernel
theorem dL_law_70 : decode cL_law 70 = .ok (.aload_n 1, 1) := by decide +kernel
theorem dL_law_71 : decode cL_law 71 = .ok (.invokevirtual 33, 3) := by decide +kernel
theorem dL_law_74 : decode cL_law 74 = .ok (.ldc 125, 2) := by decide +kernel
theorem dL_law_76 : decode cL_law 76 = .ok (.if_icmp .ne 7, 3) := by decide +kernel
theorem dL_law_79 : decode cL_law 79 = .ok (.iconst 1, 1) := by decide +kernel
theorem dL_law_80 : decode cL_law 80 = .ok (.goto 4, 3) := by decide +kernel
theorem dL_law_83 : decode cL_law 83 = .ok (.iconst 0, 1) := by decide +kernel
theorem dL_law_84 : decode cL_law 84 = .ok (.istore 4, 2) := by decide +kernel
theorem dL_law_86 : decode cL_law 86 = .ok (.iconst 0, 1) := by decide +kernel
theorem dL_law_87 : decode cL_law 87 = .ok (.istore 5, 2) := by decide +kernel
theorem dL_law_89 : decode cL_law 89 = .ok (.iload 5, 2) := by decide +kernel
theorem dL_law_91 : decode cL_law 91 = .ok (.bipush 56, 2) := by decide +kernel
theorem dL_law_93 : decode cL_law 93 = .ok (.if_icmp .ge 259, 3) := by decide +kernel
theorem dL_law_96 : decode cL_law 96 = .ok (.iload 4, 2) := by decide +kernel
theorem dL_law_98 : decode cL_law 98 = .ok (.ifCond .eq 254, 3) := by decide +kernel
theorem dL_law_101 : decode cL_law 101 = .ok (.aload_n 0, 1) := by decide +kernel
theorem dL_law_102 : decode cL_law 102 = .ok (.iconst 3, 1) := by decide +kernel
theorem dL_law_103 : decode cL_law 103 = .ok (.iload 5, 2) := by decide +kernel
theorem dL_law_105 : decode cL_law 105 = .ok (.imul, 1) := by decide +kernel
theorem dL_law_106 : decode cL_law 106 = .ok (.bipush 16, 2) := by decide +kernel
theorem dL_law_108 : decode cL_law 108 = .ok (.invokestatic 126, 3) := by decide +kernel
theorem dL_law_111 : decode cL_law 111 = .ok (.istore 6, 2) := by decide +kernel
theorem dL_law_113 : decode cL_law 113 = .ok (.aload_n 0, 1) := by decide +kernel
theorem dL_law_114 : decode cL_law 114 = .ok (.iconst 3, 1) := by decide +kernel
theorem dL_law_115 : decode cL_law 115 = .ok (.iload 5, 2) := by decide +kernel
theorem dL_law_117 : decode cL_law 117 = .ok (.imul, 1) := by decide +kernel
theorem dL_law_118 : decode cL_law 118 = .ok (.iconst 1, 1) := by decide +kernel
theorem dL_law_119 : decode cL_law 119 = .ok (.iadd, 1) := by decide +kernel
theorem dL_law_120 : decode cL_law 120 = .ok (.sipush 4000, 3) := by decide +kernel
theorem dL_law_123 : decode cL_law 123 = .ok (.invokestatic 126, 3) := by decide +kernel
theorem dL_law_126 : decode cL_law 126 = .ok (.istore 7, 2) := by decide +kernel
theorem dL_law_128 : decode cL_law 128 = .ok (.aload_n 0, 1) := by decide +kernel
theorem dL_law_129 : decode cL_law 129 = .ok (.iconst 3, 1) := by decide +kernel
theorem dL_law_130 : decode cL_law 130 = .ok (.iload 5, 2) := by decide +kernel
theorem dL_law_132 : decode cL_law 132 = .ok (.imul, 1) := by decide +kernel
theorem dL_law_133 : decode cL_law 133 = .ok (.iconst 2, 1) := by decide +kernel
theorem dL_law_134 : decode cL_law 134 = .ok (.iadd, 1) := by decide +kernel
theorem dL_law_135 : decode cL_law 135 = .ok (.sipush 5000, 3) := by decide +kernel
theorem dL_law_138 : decode cL_law 138 = .ok (.invokestatic 126, 3) := by decide +kernel
theorem dL_law_141 : decode cL_law 141 = .ok (.istore 8, 2) := by decide +kernel
theorem dL_law_143 : decode cL_law 143 = .ok (.iload 6, 2) := by decide +kernel
theorem dL_law_145 : decode cL_law 145 = .ok (.bipush 15, 2) := by decide +kernel
theorem dL_law_147 : decode cL_law 147 = .ok (.if_icmp .eq 17, 3) := by decide +kernel
theorem dL_law_150 : decode cL_law 150 = .ok (.iload 6, 2) := by decide +kernel
theorem dL_law_152 : decode cL_law 152 = .ok (.bipush 14, 2) := by decide +kernel
theorem dL_law_154 : decode cL_law 154 = .ok (.if_icmp .ne 33, 3) := by decide +kernel
theorem dL_law_157 : decode cL_law 157 = .ok (.aload_n 3, 1) := by decide +kernel
theorem dL_law_158 : decode cL_law 158 = .ok (.iconst 1, 1) := by decide +kernel
theorem dL_law_159 : decode cL_law 159 = .ok (.iaload, 1) := by decide +kernel
theorem dL_law_160 : decode cL_law 160 = .ok (.iconst 2, 1) := by decide +kernel
theorem dL_law_161 : decode cL_law 161 = .ok (.if_icmp .ne 26, 3) := by decide +kernel
theorem dL_law_164 : decode cL_law 164 = .ok (.aload_n 1, 1) := by decide +kernel
theorem dL_law_165 : decode cL_law 165 = .ok (.aload_n 2, 1) := by decide +kernel
theorem dL_law_166 : decode cL_law 166 = .ok (.aload_n 3, 1) := by decide +kernel
theorem dL_law_167 : decode cL_law 167 = .ok (.iload 7, 2) := by decide +kernel
theorem dL_law_169 : decode cL_law 169 = .ok (.iconst 2, 1) := by decide +kernel
theorem dL_law_170 : decode cL_law 170 = .ok (.irem, 1) := by decide +kernel
theorem dL_law_171 : decode cL_law 171 = .ok (.ifCond .ne 7, 3) := by decide +kernel
theorem dL_law_174 : decode cL_law 174 = .ok (.iconst 1, 1) := by decide +kernel
theorem dL_law_175 : decode cL_law 175 = .ok (.goto 4, 3) := by decide +kernel
theorem dL_law_178 : decode cL_law 178 = .ok (.iconst 0, 1) := by decide +kernel
theorem dL_law_179 : decode cL_law 179 = .ok (.invokestatic 129, 3) := by decide +kernel
theorem dL_law_182 : decode cL_law 182 = .ok (.istore 4, 2) := by decide +kernel
theorem dL_law_184 : decode cL_law 184 = .ok (.goto 105, 3) := by decide +kernel
theorem dL_law_187 : decode cL_law 187 = .ok (.iload 6, 2) := by decide +kernel
theorem dL_law_189 : decode cL_law 189 = .ok (.bipush 14, 2) := by decide +kernel
theorem dL_law_191 : decode cL_law 191 = .ok (.if_icmp .ne 31, 3) := by decide +kernel
theorem dL_law_194 : decode cL_law 194 = .ok (.aload_n 1, 1) := by decide +kernel
theorem dL_law_195 : decode cL_law 195 = .ok (.invokevirtual 133, 3) := by decide +kernel
theorem dL_law_198 : decode cL_law 198 = .ok (.aload_n 3, 1) := by decide +kernel
theorem dL_law_199 : decode cL_law 199 = .ok (.iconst 4, 1) := by decide +kernel
theorem dL_law_200 : decode cL_law 200 = .ok (.iaload, 1) := by decide +kernel
theorem dL_law_201 : decode cL_law 201 = .ok (.if_icmp .ne 15, 3) := by decide +kernel
theorem dL_law_204 : decode cL_law 204 = .ok (.aload_n 1, 1) := by decide +kernel
theorem dL_law_205 : decode cL_law 205 = .ok (.invokestatic 121, 3) := by decide +kernel
theorem dL_law_208 : decode cL_law 208 = .ok (.iconst 1, 1) := by decide +kernel
theorem dL_law_209 : decode cL_law 209 = .ok (.if_icmp .ne 7, 3) := by decide +kernel
theorem dL_law_212 : decode cL_law 212 = .ok (.iconst 1, 1) := by decide +kernel
theorem dL_law_213 : decode cL_law 213 = .ok (.goto 4, 3) := by decide +kernel
theorem dL_law_216 : decode cL_law 216 = .ok (.iconst 0, 1) := by decide +kernel
theorem dL_law_217 : decode cL_law 217 = .ok (.istore 4, 2) := by decide +kernel
theorem dL_law_219 : decode cL_law 219 = .ok (.goto 70, 3) := by decide +kernel
theorem dL_law_222 : decode cL_law 222 = .ok (.iload 6, 2) := by decide +kernel
theorem dL_law_224 : decode cL_law 224 = .ok (.iconst 2, 1) := by decide +kernel
theorem dL_law_225 : decode cL_law 225 = .ok (.if_icmp .ge 19, 3) := by decide +kernel
theorem dL_law_228 : decode cL_law 228 = .ok (.aload_n 1, 1) := by decide +kernel
theorem dL_law_229 : decode cL_law 229 = .ok (.aload_n 2, 1) := by decide +kernel
theorem dL_law_230 : decode cL_law 230 = .ok (.aload_n 3, 1) := by decide +kernel
theorem dL_law_231 : decode cL_law 231 = .ok (.iload 7, 2) := by decide +kernel
theorem dL_law_233 : decode cL_law 233 = .ok (.bipush 17, 2) := by decide +kernel
theorem dL_law_235 : decode cL_law 235 = .ok (.irem, 1) := by decide +kernel
theorem dL_law_236 : decode cL_law 236 = .ok (.invokestatic 102, 3) := by decide +kernel
theorem dL_law_239 : decode cL_law 239 = .ok (.istore 4, 2) := by decide +kernel
theorem dL_law_241 : decode cL_law 241 = .ok (.goto 48, 3) := by decide +kernel
theorem dL_law_244 : decode cL_law 244 = .ok (.iload 6, 2) := by decide +kernel
theorem dL_law_246 : decode cL_law 246 = .ok (.iconst 4, 1) := by decide +kernel
theorem dL_law_247 : decode cL_law 247 = .ok (.if_icmp .ge 19, 3) := by decide +kernel
theorem dL_law_250 : decode cL_law 250 = .ok (.aload_n 1, 1) := by decide +kernel
theorem dL_law_251 : decode cL_law 251 = .ok (.aload_n 2, 1) := by decide +kernel
theorem dL_law_252 : decode cL_law 252 = .ok (.aload_n 3, 1) := by decide +kernel
theorem dL_law_253 : decode cL_law 253 = .ok (.iload 7, 2) := by decide +kernel
theorem dL_law_255 : decode cL_law 255 = .ok (.bipush 17, 2) := by decide +kernel
theorem dL_law_257 : decode cL_law 257 = .ok (.irem, 1) := by decide +kernel
theorem dL_law_258 : decode cL_law 258 = .ok (.invokestatic 106, 3) := by decide +kernel
theorem dL_law_261 : decode cL_law 261 = .ok (.istore 4, 2) := by decide +kernel
theorem dL_law_263 : decode cL_law 263 = .ok (.goto 26, 3) := by decide +kernel
theorem dL_law_266 : decode cL_law 266 = .ok (.aload_n 1, 1) := by decide +kernel
theorem dL_law_267 : decode cL_law 267 = .ok (.aload_n 2, 1) := by decide +kernel
theorem dL_law_268 : decode cL_law 268 = .ok (.aload_n 3, 1) := by decide +kernel
theorem dL_law_269 : decode cL_law 269 = .ok (.iload 7, 2) := by decide +kernel
theorem dL_law_271 : decode cL_law 271 = .ok (.iload 8, 2) := by decide +kernel
theorem dL_law_273 : decode cL_law 273 = .ok (.bipush 8, 2) := by decide +kernel
theorem dL_law_275 : decode cL_law 275 = .ok (.irem, 1) := by decide +kernel
theorem dL_law_276 : decode cL_law 276 = .ok (.ifCond .le 7, 3) := by decide +kernel
theorem dL_law_279 : decode cL_law 279 = .ok (.iconst 1, 1) := by decide +kernel
theorem dL_law_280 : decode cL_law 280 = .ok (.goto 4, 3) := by decide +kernel
theorem dL_law_283 : decode cL_law 283 = .ok (.iconst 0, 1) := by decide +kernel
theorem dL_law_284 : decode cL_law 284 = .ok (.invokestatic 136, 3) := by decide +kernel
theorem dL_law_287 : decode cL_law 287 = .ok (.istore 4, 2) := by decide +kernel
theorem dL_law_289 : decode cL_law 289 = .ok (.iload 4, 2) := by decide +kernel
theorem dL_law_291 : decode cL_law 291 = .ok (.ifCond .eq 52, 3) := by decide +kernel
theorem dL_law_294 : decode cL_law 294 = .ok (.aload_n 1, 1) := by decide +kernel
theorem dL_law_295 : decode cL_law 295 = .ok (.aload_n 2, 1) := by decide +kernel
theorem dL_law_296 : decode cL_law 296 = .ok (.aload_n 3, 1) := by decide +kernel
theorem dL_law_297 : decode cL_law 297 = .ok (.invokestatic 117, 3) := by decide +kernel
theorem dL_law_300 : decode cL_law 300 = .ok (.ifCond .eq 43, 3) := by decide +kernel
theorem dL_law_303 : decode cL_law 303 = .ok (.aload_n 1, 1) := by decide +kernel
theorem dL_law_304 : decode cL_law 304 = .ok (.aload_n 2, 1) := by decide +kernel
theorem dL_law_305 : decode cL_law 305 = .ok (.aload_n 3, 1) := by decide +kernel
theorem dL_law_306 : decode cL_law 306 = .ok (.invokestatic 140, 3) := by decide +kernel
theorem dL_law_309 : decode cL_law 309 = .ok (.ifCond .eq 34, 3) := by decide +kernel
theorem dL_law_312 : decode cL_law 312 = .ok (.iload 5, 2) := by decide +kernel
theorem dL_law_314 : decode cL_law 314 = .ok (.bipush 7, 2) := by decide +kernel
theorem dL_law_316 : decode cL_law 316 = .ok (.irem, 1) := by decide +kernel
theorem dL_law_317 : decode cL_law 317 = .ok (.bipush 6, 2) := by decide +kernel
theorem dL_law_319 : decode cL_law 319 = .ok (.if_icmp .ge 11, 3) := by decide +kernel
theorem dL_law_322 : decode cL_law 322 = .ok (.aload_n 3, 1) := by decide +kernel
theorem dL_law_323 : decode cL_law 323 = .ok (.iconst 4, 1) := by decide +kernel
theorem dL_law_324 : decode cL_law 324 = .ok (.iaload, 1) := by decide +kernel
theorem dL_law_325 : decode cL_law 325 = .ok (.bipush 10, 2) := by decide +kernel
theorem dL_law_327 : decode cL_law 327 = .ok (.if_icmp .lt 12, 3) := by decide +kernel
theorem dL_law_330 : decode cL_law 330 = .ok (.aload_n 1, 1) := by decide +kernel
theorem dL_law_331 : decode cL_law 331 = .ok (.aload_n 2, 1) := by decide +kernel
theorem dL_law_332 : decode cL_law 332 = .ok (.aload_n 3, 1) := by decide +kernel
theorem dL_law_333 : decode cL_law 333 = .ok (.invokestatic 143, 3) := by decide +kernel
theorem dL_law_336 : decode cL_law 336 = .ok (.ifCond .eq 7, 3) := by decide +kernel
theorem dL_law_339 : decode cL_law 339 = .ok (.iconst 1, 1) := by decide +kernel
theorem dL_law_340 : decode cL_law 340 = .ok (.goto 4, 3) := by decide +kernel
theorem dL_law_343 : decode cL_law 343 = .ok (.iconst 0, 1) := by decide +kernel
theorem dL_law_344 : decode cL_law 344 = .ok (.istore 4, 2) := by decide +kernel
theorem dL_law_346 : decode cL_law 346 = .ok (.iinc 5 1, 3) := by decide +kernel
theorem dL_law_349 : decode cL_law 349 = .ok (.goto (-260), 3) := by decide +kernel
theorem dL_law_352 : decode cL_law 352 = .ok (.iload 4, 2) := by decide +kernel
theorem dL_law_354 : decode cL_law 354 = .ok (.ifCond .eq 77, 3) := by decide +kernel
theorem dL_law_357 : decode cL_law 357 = .ok (.aload_n 1, 1) := by decide +kernel
theorem dL_law_358 : decode cL_law 358 = .ok (.iconst 1, 1) := by decide +kernel
theorem dL_law_359 : decode cL_law 359 = .ok (.iconst (-1), 1) := by decide +kernel
theorem dL_law_360 : decode cL_law 360 = .ok (.invokestatic 98, 3) := by decide +kernel
theorem dL_law_363 : decode cL_law 363 = .ok (.bipush (-30), 2) := by decide +kernel
theorem dL_law_365 : decode cL_law 365 = .ok (.if_icmp .ne 66, 3) := by decide +kernel
theorem dL_law_368 : decode cL_law 368 = .ok (.aload_n 1, 1) := by decide +kernel
theorem dL_law_369 : decode cL_law 369 = .ok (.iconst 0, 1) := by decide +kernel
theorem dL_law_370 : decode cL_law 370 = .ok (.iconst (-1), 1) := by decide +kernel
theorem dL_law_371 : decode cL_law 371 = .ok (.invokestatic 98, 3) := by decide +kernel
theorem dL_law_374 : decode cL_law 374 = .ok (.bipush (-30), 2) := by decide +kernel
theorem dL_law_376 : decode cL_law 376 = .ok (.if_icmp .ne 55, 3) := by decide +kernel
theorem dL_law_379 : decode cL_law 379 = .ok (.aload_n 1, 1) := by decide +kernel
theorem dL_law_380 : decode cL_law 380 = .ok (.iconst 3, 1) := by decide +kernel
theorem dL_law_381 : decode cL_law 381 = .ok (.iconst (-1), 1) := by decide +kernel
theorem dL_law_382 : decode cL_law 382 = .ok (.invokestatic 89, 3) := by decide +kernel
theorem dL_law_385 : decode cL_law 385 = .ok (.bipush (-30), 2) := by decide +kernel
theorem dL_law_387 : decode cL_law 387 = .ok (.if_icmp .ne 44, 3) := by decide +kernel
theorem dL_law_390 : decode cL_law 390 = .ok (.aload_n 1, 1) := by decide +kernel
theorem dL_law_391 : decode cL_law 391 = .ok (.iconst 1, 1) := by decide +kernel
theorem dL_law_392 : decode cL_law 392 = .ok (.bipush 19, 2) := by decide +kernel
theorem dL_law_394 : decode cL_law 394 = .ok (.invokestatic 89, 3) := by decide +kernel
theorem dL_law_397 : decode cL_law 397 = .ok (.bipush (-30), 2) := by decide +kernel
theorem dL_law_399 : decode cL_law 399 = .ok (.if_icmp .ne 32, 3) := by decide +kernel
theorem dL_law_402 : decode cL_law 402 = .ok (.aload_n 1, 1) := by decide +kernel
theorem dL_law_403 : decode cL_law 403 = .ok (.invokevirtual 113, 3) := by decide +kernel
theorem dL_law_406 : decode cL_law 406 = .ok (.ifCond .le 25, 3) := by decide +kernel
theorem dL_law_409 : decode cL_law 409 = .ok (.aload_n 1, 1) := by decide +kernel
theorem dL_law_410 : decode cL_law 410 = .ok (.invokevirtual 133, 3) := by decide +kernel
theorem dL_law_413 : decode cL_law 413 = .ok (.aload_n 3, 1) := by decide +kernel
theorem dL_law_414 : decode cL_law 414 = .ok (.iconst 4, 1) := by decide +kernel
theorem dL_law_415 : decode cL_law 415 = .ok (.iaload, 1) := by decide +kernel
theorem dL_law_416 : decode cL_law 416 = .ok (.if_icmp .ne 15, 3) := by decide +kernel
theorem dL_law_419 : decode cL_law 419 = .ok (.aload_n 1, 1) := by decide +kernel
theorem dL_law_420 : decode cL_law 420 = .ok (.invokestatic 121, 3) := by decide +kernel
theorem dL_law_423 : decode cL_law 423 = .ok (.iconst 1, 1) := by decide +kernel
theorem dL_law_424 : decode cL_law 424 = .ok (.if_icmp .ne 7, 3) := by decide +kernel
theorem dL_law_427 : decode cL_law 427 = .ok (.iconst 1, 1) := by decide +kernel
theorem dL_law_428 : decode cL_law 428 = .ok (.goto 4, 3) := by decide +kernel
theorem dL_law_431 : decode cL_law 431 = .ok (.iconst 0, 1) := by decide +kernel
theorem dL_law_432 : decode cL_law 432 = .ok (.ireturn, 1) := by decide +kernel
end
section
/-! THE LAYER: what a walk has (zc), what its heap holds (zh), a contract (zM), its start, its ends, its calls -/
abbrev zG : Type := va_G × (ClassId × (ClassId × ClassId))
abbrev zT (g : zG) : List (ClassId × FieldType) := [(g.2.1, .int)]
abbrev zK (g : zG) (U : State) : Prop := va_K g.1 vwCl (zT g) U
abbrev zEt : Type := (Nat → Prop) → State → Prop
def zE0 : zEt := fun _ _ => True
/-- what else is known of the state is of cells that stay -/
def zSt (E : zEt) : Prop := ∀ (A B : Nat → Prop) (s U : State), E A s → (∀ q : Nat, B q → A q) → s.WarmedH U.vm → (∀ q : Nat, q < s.heap.size → ¬ A q → U.heap[q]? = s.heap[q]?) → E B U
theorem zSt0 : zSt zE0 := fun _ _ _ _ _ _ _ _ => trivial
def zh (g : zG) (A : Nat → Prop) (ws : va_W) (H0 H : Heap) (locs : List Loc) : Prop := va_P g.1 vwCl ws H ∧ va_D A ws ∧ va_S A H0 H locs
def zc (p : Program) (m : MethodId) (c : Code) (cc : ByteArray) (nL : Nat) (s : State) (args : Array Value) (Ts : List Cond) (own : String) (g : zG) (A : Nat → Prop) (E : zEt) : Prop :=
  CallFix p m c cc nL s args Ts own ∧ zK g s ∧ (∀ q : Nat, s.heap.size ≤ q → A q) ∧ E A s ∧ zSt E
def zM (l : Launch) (y : MethodName) (wds : List Cond) (fr lo : Nat) (g : zG) (av : List Value) (ws : va_W) (E : zEt) (Qc : (Nat → Prop) → Array Value → State → Outcome → State → Prop) : Prop :=
  ∀ sz : Nat, Met l y wds { frames := fr, cells := 0, slots := 0, locals := lo } (va_Pc av (fun U => U.heap.size = sz ∧ zK g U ∧ va_P g.1 vwCl ws U.heap ∧ va_D (fun _ => True) ws ∧ E (va_A ws sz) U)) (Qc (va_A ws sz)) 0 0 (va_A ws sz)
def zQi (g : zG) {S : Type} (post : Int32 → S → Prop) (w : S → va_W) (A : Nat → Prop) : Array Value → State → Outcome → State → Prop := va_Qi post (fun u t => va_P g.1 vwCl (w u) t.heap ∧ va_D A (w u)) A
def zQl (g : zG) {S : Type} (post : Int64 → S → Prop) (w : S → va_W) (A : Nat → Prop) : Array Value → State → Outcome → State → Prop := va_Ql post (fun u t => va_P g.1 vwCl (w u) t.heap ∧ va_D A (w u)) A
def zQv (g : zG) {S : Type} (post : S → Prop) (w : S → va_W) (A : Nat → Prop) : Array Value → State → Outcome → State → Prop := va_Qv post (fun u t => va_P g.1 vwCl (w u) t.heap ∧ va_D A (w u)) A
theorem zblind {g : zG} {av : List Value} {ws : va_W} {E : zEt} (hst : zSt E) (sz : Nat) : FrameBlind (va_Pc av (fun U => U.heap.size = sz ∧ zK g U ∧ va_P g.1 vwCl ws U.heap ∧ va_D (fun _ => True) ws ∧ E (va_A ws sz) U)) := by
  intro a U gg mk q
  obtain ⟨q0, q1, qK, qP, qD, qE⟩ := q
  exact ⟨q0, q1, va_K.moved (u := U) (U := U.calling gg mk a) (Vm.Alike.refl U.vm) qK, qP, qD, hst _ _ U (U.calling gg mk a) qE (fun _ h => h) (State.WarmedH.refl U) (fun _ _ _ => rfl)⟩
theorem zstart {l : Launch} {y : MethodName} {wds ws' : List Cond} {fr lo : Nat} {g : zG} {av : List Value} {ws : va_W} {E : zEt} {Qc : (Nat → Prop) → Array Value → State → Outcome → State → Prop} {cc : ByteArray} {maxL : Nat} {ret : Option FieldType} {own : String}
    (ho : y.cls = own) (hy : plainName own = true) (hw : wds = Cond.code y cc maxL ret :: ws') (hst : zSt E) (hlen : (lg_sl av).length ≤ maxL)
    (body : ∀ (p : Program) (e : Env) (s : State) (m : MethodId) (below : List Frame) (meth : Method) (c : Code) (A : Nat → Prop), zc p m c cc maxL s av.toArray wds own g A E → meth.sig.returnType = ret → meth.locks = false → ∀ (H : Heap) (locs : List Loc), zh g A ws s.heap H locs → ∀ ls : Array Slot, lv_has ls maxL (lv_args 0 av) →
      W p l e { frames := fr, cells := 0, slots := 0, locals := lo } s m av.toArray below meth c H locs 0 0 (MQ below (Qc A) av.toArray s 0 0 A) (F0 m 0 ls [])) : zM l y wds fr lo g av ws E Qc := by
  subst ho
  intro sz
  refine Met.ofW (cc := cc) (maxL := maxL) (ret := ret) hy hw ?_
  intro p e s m args below meth c s₁ B hml hv
  obtain ⟨rfl, rfl, hK, hP, hD0, hE⟩ := hv
  have hts := atoms_spec (ws := wds) B.pre
  have hown : s.vm.findClass y.cls = some m.cls := findClass_of_methodNamed B.named
  rw [lg_entry_eq]
  exact body p e s m below meth c _ ⟨⟨B.exec, B.bytes, hml, hown, hts⟩, hK, fun q h => Or.inr h, hE, hst⟩ B.returns B.notSynchronized _ _ ⟨hP, hD0.self, va_S.rf⟩ _ (lv_entry av hlen)
section ZW
variable {p : Program} {l : Launch} {e : Env} {R : Room} {s : State} {m : MethodId} {args : Array Value} {below : List Frame} {meth : Method} {c : Code} {H : Heap} {locs : List Loc} {cells slots : Nat} {Q : State → Prop}
variable {cc : ByteArray} {nL : Nat} {Ts : List Cond} {own : String} {g : zG} {A : Nat → Prop} {E E' : zEt} {pc : Nat} {ls : Array Slot} {rest st0 : List Value} {ws : va_W}
theorem zreti {S : Type} {post : Int32 → S → Prop} {w : S → va_W} {v : Int32} {ty : FieldType} (Z : zc p m c cc nL s args Ts own g A E) (hr : meth.sig.returnType = some ty) (hlk : meth.locks = false) (u : S) (X : zh g A (w u) s.heap H locs) (hdg : decode cc pc = .ok (.ireturn, 1)) (hn : narrow ty (.int v) = .int v) (hp : post v u) :
    W p l e R s m args below meth c H locs cells slots (MQ below (zQi g post w A) args s cells slots A) (F0 m pc ls [.int v]) :=
  W.zret Z.1.1 Z.1.2.1 hr hn (fun t ht _ => ⟨⟨v, u, rfl, hp, by rw [ht]; exact X.1, X.2.1⟩, X.2.2.F ht⟩) X.2.2.2.2 hdg hlk
theorem zretl {S : Type} {post : Int64 → S → Prop} {w : S → va_W} {v : Int64} (Z : zc p m c cc nL s args Ts own g A E) (hr : meth.sig.returnType = some .long) (hlk : meth.locks = false) (u : S) (X : zh g A (w u) s.heap H locs) (hdg : decode cc pc = .ok (.lreturn, 1)) (hp : post v u) :
    W p l e R s m args below meth c H locs cells slots (MQ below (zQl g post w A) args s cells slots A) (F0 m pc ls [.long v]) :=
  W.lret Z.1.1 Z.1.2.1 hr (fun t ht _ => ⟨⟨v, u, rfl, hp, by rw [ht]; exact X.1, X.2.1⟩, X.2.2.F ht⟩) X.2.2.2.2 hdg hlk
theorem zretv {S : Type} {post : S → Prop} {w : S → va_W} (Z : zc p m c cc nL s args Ts own g A E) (hr : meth.sig.returnType = none) (hlk : meth.locks = false) (u : S) (X : zh g A (w u) s.heap H locs) (hdg : decode cc pc = .ok (.return_, 1)) (hp : post u) :
    W p l e R s m args below meth c H locs cells slots (MQ below (zQv g post w A) args s cells slots A) (F0 m pc ls []) :=
  W.vret Z.1.1 Z.1.2.1 hr (fun t ht _ => ⟨⟨u, rfl, hp, by rw [ht]; exact X.1, X.2.1⟩, X.2.2.F ht⟩) X.2.2.2.2 hdg hlk
theorem zfree (hA : ∀ q : Nat, s.heap.size ≤ q → A q) (X : zh g A ws s.heap H locs) : ∀ q, va_A ws H.size q → A q := by
  intro q h
  rcases h with ⟨k, x, h⟩ | h
  · exact X.2.1.2 k (q, x) h
  · exact hA q (Nat.le_trans X.2.2.1 h)
/-- what a callee that takes the whole world finds -/
theorem zpre {av : List Value} (Z : zc p m c cc nL s args Ts own g A E) (X : zh g A ws s.heap H locs) : ∀ U : State, U.heap = H → s.WarmedH U.vm → va_Pc av (fun U => U.heap.size = H.size ∧ zK g U ∧ va_P g.1 vwCl ws U.heap ∧ va_D (fun _ => True) ws ∧ E (va_A ws H.size) U) av.toArray U := by
  intro U hU hW
  refine ⟨rfl, by rw [hU], va_K.moved hW.alike Z.2.1, by rw [hU]; exact X.1, X.2.1.weaken (fun _ _ _ _ => trivial), ?_⟩
  exact Z.2.2.2.2 _ _ s U Z.2.2.2.1 (zfree Z.2.2.1 X) hW (fun q h1 h2 => by rw [hU]; exact X.2.2.2.1 q h1 h2)
/-- .. one that needs no world -/
theorem zpre0 {av : List Value} (hK : zK g s) : ∀ U : State, U.heap = H → s.WarmedH U.vm → va_Pc av (fun U => U.heap.size = H.size ∧ zK g U ∧ va_P g.1 vwCl [] U.heap ∧ va_D (fun _ => True) [] ∧ zE0 (va_A [] H.size) U) av.toArray U := by
  intro U hU hW
  exact ⟨rfl, by rw [hU], va_K.moved hW.alike hK, fun k q h => by simp at h, ⟨fun i j p q h => by simp at h, fun k q h => by simp at h⟩, trivial⟩
theorem zafter {A1 : Nat → Prop} {w1 : va_W} {t : State} {H1 : Heap} {locs1 : List Loc} (hfc : ∀ q, A1 q → A q) (ht : t.heap = H1) (hB : va_P g.1 vwCl w1 t.heap ∧ va_D A1 w1) (hS : va_S A s.heap H1 locs1) : zh g A w1 s.heap H1 locs1 :=
  ⟨by rw [← ht]; exact hB.1, hB.2.weaken (fun k q _ h => hfc _ h), hS⟩
theorem zkeep {H1 : Heap} {locs1 : List Loc} (X : zh g A ws s.heap H locs) (hk : ∀ q : Nat, q < H.size → ¬ va_A [] H.size q → H1[q]? = H[q]?) (hS : va_S A s.heap H1 locs1) : zh g A ws s.heap H1 locs1 := by
  refine ⟨fun k q hq => (X.1 k q hq).kept (hk _ (X.1 k q hq).lt ?_), X.2.1, hS⟩
  rintro (⟨k2, x, h⟩ | h)
  · simp at h
  · exact absurd (X.1 k q hq).lt (Nat.not_lt.mpr h)
theorem zfree0 (hA : ∀ q : Nat, s.heap.size ≤ q → A q) (X : zh g A ws s.heap H locs) : ∀ q, va_A [] H.size q → A q := by
  intro q h
  rcases h with ⟨k, x, h⟩ | h
  · simp at h
  · exact hA q (Nat.le_trans X.2.2.1 h)
theorem zcallVi {y : MethodName} {wds wds' : List Cond} {fr lo n idx maxL ci N : Nat} {b : Addr} {As : List Value} {S : Type} {post : Int32 → S → Prop} {w : S → va_W} {C : String} {T : u_T} {fs : List Value} {bytes : ByteArray} {ret : Option FieldType}
    (Z : zc p m c cc nL s args Ts own g A E) (X : zh g A ws s.heap H locs) (hM : zM l y wds fr lo g (.ref b :: As) ws E (zQi g post w)) (gi : GoodIn Ts (wsV own idx C y wds)) (hw : wds = Cond.code y bytes maxL ret :: wds')
    (hd : y.cls = C ∧ y.cls ≠ "java/lang/invoke/MethodHandle" ∧ y.cls ≠ "java/lang/invoke/VarHandle" ∧ (parseMethodDescriptor y.desc).map (fun d => d.parameters.length) = some n) (hR : fr + 1 ≤ R.frames ∧ 8 + (maxL + 11) + lo ≤ R.locals)
    (hci : vwCl[ci]? = some (C, T, N)) (hb0 : ws[0]? = some (b, .inr (ci, fs))) (hn : As.length = n) (hs : st0 = As.reverse ++ .ref b :: rest) (hsz : ls.size = nL) (hsum : (rest.map fun v => v.category).sum ≤ 8) (hdg : decode cc pc = .ok (.invokevirtual idx, 3)) (hcs : cells ≤ R.cells ∧ slots ≤ R.slots)
    (kk : ∀ (r : Int32) (u : S) (H1 : Heap) (locs1 : List Loc), post r u → zh g A (w u) s.heap H1 locs1 → W p l e R s m args below meth c H1 locs1 cells slots Q (F0 m (pc + 3) ls (.int r :: rest))) : W p l e R s m args below meth c H locs cells slots Q (F0 m pc ls st0) := by
  have hFc := zfree Z.2.2.1 X
  refine va_calli (va_runV (As := As) (rest := rest) Z.1 (hM H.size) (cwV n Z.1.2.2.2.2 gi hw rfl rfl hd hR) ⟨zblind Z.2.2.2.2 _, va_recv Z.2.1 X.1 hci hb0, zpre Z X⟩ rfl hn hsz hs (lv_room hsum) hdg hcs) X.2.2 (fun q _ h => hFc q h) hFc (fun r u t H1 locs1 ht hvm hp hB hz hk hS => ?_)
  exact kk r u H1 locs1 hp (zafter hFc ht hB hS)
theorem zcallVv {y : MethodName} {wds wds' : List Cond} {fr lo n idx maxL ci N : Nat} {b : Addr} {As : List Value} {S : Type} {post : S → Prop} {w : S → va_W} {C : String} {T : u_T} {fs : List Value} {bytes : ByteArray} {ret : Option FieldType}
    (Z : zc p m c cc nL s args Ts own g A E) (X : zh g A ws s.heap H locs) (hM : zM l y wds fr lo g (.ref b :: As) ws E (zQv g post w)) (gi : GoodIn Ts (wsV own idx C y wds)) (hw : wds = Cond.code y bytes maxL ret :: wds')
    (hd : y.cls = C ∧ y.cls ≠ "java/lang/invoke/MethodHandle" ∧ y.cls ≠ "java/lang/invoke/VarHandle" ∧ (parseMethodDescriptor y.desc).map (fun d => d.parameters.length) = some n) (hR : fr + 1 ≤ R.frames ∧ 8 + (maxL + 11) + lo ≤ R.locals)
    (hci : vwCl[ci]? = some (C, T, N)) (hb0 : ws[0]? = some (b, .inr (ci, fs))) (hn : As.length = n) (hs : st0 = As.reverse ++ .ref b :: rest) (hsz : ls.size = nL) (hsum : (rest.map fun v => v.category).sum ≤ 8) (hdg : decode cc pc = .ok (.invokevirtual idx, 3)) (hcs : cells ≤ R.cells ∧ slots ≤ R.slots)
    (kk : ∀ (u : S) (H1 : Heap) (locs1 : List Loc), post u → zh g A (w u) s.heap H1 locs1 → W p l e R s m args below meth c H1 locs1 cells slots Q (F0 m (pc + 3) ls rest)) : W p l e R s m args below meth c H locs cells slots Q (F0 m pc ls st0) := by
  have hFc := zfree Z.2.2.1 X
  refine va_callv (va_runV (As := As) (rest := rest) Z.1 (hM H.size) (cwV n Z.1.2.2.2.2 gi hw rfl rfl hd hR) ⟨zblind Z.2.2.2.2 _, va_recv Z.2.1 X.1 hci hb0, zpre Z X⟩ rfl hn hsz hs (lv_room hsum) hdg hcs) X.2.2 (fun q _ h => hFc q h) hFc (fun u t H1 locs1 ht hvm hp hB hz hk hS => ?_)
  exact kk u H1 locs1 hp (zafter hFc ht hB hS)
theorem zcallSi {y : MethodName} {wds wds' : List Cond} {fr lo n idx maxL : Nat} {As : List Value} {post : Int32 → Unit → Prop} {bytes : ByteArray} {ret : Option FieldType}
    (Z : zc p m c cc nL s args Ts own g A E) (X : zh g A ws s.heap H locs) (hM : zM l y wds fr lo g As [] zE0 (zQi g post (fun _ => []))) (gi : GoodIn Ts (va_wsS own idx y wds)) (hw : wds = Cond.code y bytes maxL ret :: wds')
    (hd : y.cls ≠ "java/lang/invoke/MethodHandle" ∧ y.cls ≠ "java/lang/invoke/VarHandle" ∧ (parseMethodDescriptor y.desc).map (fun d => d.parameters.length) = some n) (hR : fr + 1 ≤ R.frames ∧ 8 + (maxL + 11) + lo ≤ R.locals)
    (hn : As.length = n) (hs : st0 = As.reverse ++ rest) (hsz : ls.size = nL) (hsum : (rest.map fun v => v.category).sum ≤ 8) (hdg : decode cc pc = .ok (.invokestatic idx, 3)) (hcs : cells ≤ R.cells ∧ slots ≤ R.slots)
    (kk : ∀ (r : Int32) (H1 : Heap) (locs1 : List Loc), post r () → zh g A ws s.heap H1 locs1 → W p l e R s m args below meth c H1 locs1 cells slots Q (F0 m (pc + 3) ls (.int r :: rest))) : W p l e R s m args below meth c H locs cells slots Q (F0 m pc ls st0) := by
  have hFc := zfree0 Z.2.2.1 X
  refine va_calli (va_runS (As := As) (rest := rest) Z.1 (hM H.size) (va_cwS n Z.1.2.2.2.2 gi hw rfl rfl hd hR) ⟨zblind zSt0 _, zpre0 Z.2.1⟩ rfl hn hsz hs (lv_room hsum) hdg hcs) X.2.2 (fun q _ h => hFc q h) hFc (fun r u t H1 locs1 ht hvm hp hB hz hk hS => ?_)
  exact kk r H1 locs1 hp (zkeep X hk hS)
theorem zcallSl {y : MethodName} {wds wds' : List Cond} {fr lo n idx maxL : Nat} {As : List Value} {post : Int64 → Unit → Prop} {bytes : ByteArray} {ret : Option FieldType}
    (Z : zc p m c cc nL s args Ts own g A E) (X : zh g A ws s.heap H locs) (hM : zM l y wds fr lo g As [] zE0 (zQl g post (fun _ => []))) (gi : GoodIn Ts (va_wsS own idx y wds)) (hw : wds = Cond.code y bytes maxL ret :: wds')
    (hd : y.cls ≠ "java/lang/invoke/MethodHandle" ∧ y.cls ≠ "java/lang/invoke/VarHandle" ∧ (parseMethodDescriptor y.desc).map (fun d => d.parameters.length) = some n) (hR : fr + 1 ≤ R.frames ∧ 8 + (maxL + 11) + lo ≤ R.locals)
    (hn : As.length = n) (hs : st0 = As.reverse ++ rest) (hsz : ls.size = nL) (hsum : (rest.map fun v => v.category).sum ≤ 8) (hdg : decode cc pc = .ok (.invokestatic idx, 3)) (hcs : cells ≤ R.cells ∧ slots ≤ R.slots)
    (kk : ∀ (r : Int64) (H1 : Heap) (locs1 : List Loc), post r () → zh g A ws s.heap H1 locs1 → W p l e R s m args below meth c H1 locs1 cells slots Q (F0 m (pc + 3) ls (.long r :: rest))) : W p l e R s m args below meth c H locs cells slots Q (F0 m pc ls st0) := by
  have hFc := zfree0 Z.2.2.1 X
  refine va_calll (va_runS (As := As) (rest := rest) Z.1 (hM H.size) (va_cwS n Z.1.2.2.2.2 gi hw rfl rfl hd hR) ⟨zblind zSt0 _, zpre0 Z.2.1⟩ rfl hn hsz hs (lv_room hsum) hdg hcs) X.2.2 (fun q _ h => hFc q h) hFc (fun r u t H1 locs1 ht hvm hp hB hz hk hS => ?_)
  exact kk r H1 locs1 hp (zkeep X hk hS)
/-- fields of an object that stands at the place 0 -/
theorem zget {C : String} {T : u_T} {N ci index : Nat} {a : Addr} {fs : List Value} {v : Value} (Z : zc p m c cc nL s args Ts C g A E) (hin : ∀ w ∈ u_ws C T N, w ∈ Ts) (X : zh g A ws s.heap H locs) (hc : vwCl[ci]? = some (C, T, N)) (he : ws[0]? = some (a, .inr (ci, fs))) (k : Nat) (hk : k < N) (hlink : Cond.fieldLink C index (T k).1 (T k).2.1 (T k).2.2.1 ∈ Ts) (hv : fs[k]? = some v) (hdg : decode cc pc = .ok (.getfield index, 3))
    (kk : W p l e R s m args below meth c H locs cells slots Q (F0 m (pc + 3) ls (v :: rest))) : W p l e R s m args below meth c H locs cells slots Q (F0 m pc ls (.ref a :: rest)) :=
  va_get Z.1.1 Z.1.2.1 Z.1.2.2.2.2 hin Z.1.2.2.2.1 Z.2.1 X.1 0 he hc k hk (Z.1.2.2.2.2 _ hlink) (fun _ h => h) hv hdg kk
theorem zput {C : String} {T : u_T} {N ci index : Nat} {a : Addr} {fs : List Value} {v : Value} {ty : FieldType} (ty0 : Nat → FieldType) (hty : ∀ k, k < N → parseFieldDescriptor (T k).2.2.1 = some (ty0 k)) (hnm : ∀ a, a < N → ∀ b, b < N → a ≠ b → (T a).2.1 ≠ (T b).2.1)
    (Z : zc p m c cc nL s args Ts C g A E) (hin : ∀ w ∈ u_ws C T N, w ∈ Ts) (X : zh g A ws s.heap H locs) (hc : vwCl[ci]? = some (C, T, N)) (he : ws[0]? = some (a, .inr (ci, fs))) (k : Nat) (hk : k < N) (hlink : Cond.fieldLink C index (T k).1 (T k).2.1 (T k).2.2.1 ∈ Ts)
    (hfin : (T k).2.2.2 = false) (hd : parseFieldDescriptor (T k).2.2.1 = some ty) (hn : narrow ty v = v) (hfit : fits ty v = true) (hl : k < fs.length) (hdg : decode cc pc = .ok (.putfield index, 3))
    (kk : ∀ (H1 : Heap) (locs1 : List Loc), zh g A (ws.set 0 (a, .inr (ci, fs.set k v))) s.heap H1 locs1 → W p l e R s m args below meth c H1 locs1 cells slots Q (F0 m (pc + 3) ls rest)) : W p l e R s m args below meth c H locs cells slots Q (F0 m pc ls (v :: .ref a :: rest)) :=
  va_put (ty := ty) Z.1.1 Z.1.2.1 Z.1.2.2.2.2 hin ty0 hty hnm Z.1.2.2.2.1 Z.2.1 X.1 X.2.1 X.2.2 0 he hc k hk (Z.1.2.2.2.2 _ hlink) (fun _ h => h) hfin hd hn hfit hl hdg (fun H1 locs1 hP hD hS => kk H1 locs1 ⟨hP, hD, hS⟩)
/-- arrays of ints, of booleans (their place in the world, and in the types) -/
theorem zald {q0 n : Nat} {cA : ClassId} {a : Addr} {f : Nat → Int32} {x : Int32} (Z : zc p m c cc nL s args Ts own g A E) (X : zh g A ws s.heap H locs) (ha : ws[q0]? = some (a, .inl (cA, n, .inl f))) (ht : (zT g)[0]? = some (cA, .int)) (k : Nat) (hx : x = nI k) (hk : k < n) (hn : n < 2 ^ 31) (hdg : decode cc pc = .ok (.iaload, 1))
    (kk : W p l e R s m args below meth c H locs cells slots Q (F0 m (pc + 1) ls (.int (f k) :: rest))) : W p l e R s m args below meth c H locs cells slots Q (F0 m pc ls (.int x :: .ref a :: rest)) := by
  subst hx
  refine va_iald Z.1.1 Z.1.2.1 Z.2.1 X.1 q0 0 ha ht (vp_in_nI hk hn) hdg ?_
  rw [nI_clamp (Nat.lt_trans hk hn)]
  exact kk
theorem zast {q0 n : Nat} {cA : ClassId} {a : Addr} {f : Nat → Int32} {x v : Int32} (Z : zc p m c cc nL s args Ts own g A E) (X : zh g A ws s.heap H locs) (ha : ws[q0]? = some (a, .inl (cA, n, .inl f))) (ht : (zT g)[0]? = some (cA, .int)) (k : Nat) (hx : x = nI k) (hk : k < n) (hn : n < 2 ^ 31) (hdg : decode cc pc = .ok (.iastore, 1))
    (kk : ∀ (H1 : Heap) (locs1 : List Loc), zh g A (ws.set q0 (a, .inl (cA, n, .inl (upd f k v)))) s.heap H1 locs1 → W p l e R s m args below meth c H1 locs1 cells slots Q (F0 m (pc + 1) ls rest)) : W p l e R s m args below meth c H locs cells slots Q (F0 m pc ls (.int v :: .int x :: .ref a :: rest)) := by
  subst hx
  refine va_iast Z.1.1 Z.1.2.1 Z.2.1 X.1 X.2.1 X.2.2 q0 0 ha ht (vp_in_nI hk hn) hdg (fun H1 locs1 hP hD hS => ?_)
  rw [nI_clamp (Nat.lt_trans hk hn)] at hP hD
  exact kk H1 locs1 ⟨hP, hD, hS⟩
theorem zbld {q0 n : Nat} {cA : ClassId} {a : Addr} {f : Nat → Int32} {x : Int32} (Z : zc p m c cc nL s args Ts own g A E) (X : zh g A ws s.heap H locs) (ha : ws[q0]? = some (a, .inl (cA, n, .inl f))) (ht : (zT g)[1]? = some (cA, .boolean)) (k : Nat) (hx : x = nI k) (hk : k < n) (hn : n < 2 ^ 31) (hdg : decode cc pc = .ok (.baload, 1))
    (kk : W p l e R s m args below meth c H locs cells slots Q (F0 m (pc + 1) ls (.int (f k) :: rest))) : W p l e R s m args below meth c H locs cells slots Q (F0 m pc ls (.int x :: .ref a :: rest)) := by
  subst hx
  refine va_zald Z.1.1 Z.1.2.1 Z.2.1 X.1 q0 1 ha ht (vp_in_nI hk hn) hdg ?_
  rw [nI_clamp (Nat.lt_trans hk hn)]
  exact kk
theorem zbst {q0 n : Nat} {cA : ClassId} {a : Addr} {f : Nat → Int32} {x v : Int32} (Z : zc p m c cc nL s args Ts own g A E) (X : zh g A ws s.heap H locs) (ha : ws[q0]? = some (a, .inl (cA, n, .inl f))) (ht : (zT g)[1]? = some (cA, .boolean)) (k : Nat) (hx : x = nI k) (hk : k < n) (hn : n < 2 ^ 31) (hv : vp_nar .boolean v = v) (hdg : decode cc pc = .ok (.bastore, 1))
    (kk : ∀ (H1 : Heap) (locs1 : List Loc), zh g A (ws.set q0 (a, .inl (cA, n, .inl (upd f k v)))) s.heap H1 locs1 → W p l e R s m args below meth c H1 locs1 cells slots Q (F0 m (pc + 1) ls rest)) : W p l e R s m args below meth c H locs cells slots Q (F0 m pc ls (.int v :: .int x :: .ref a :: rest)) := by
  subst hx
  refine va_zast Z.1.1 Z.1.2.1 Z.2.1 X.1 X.2.1 X.2.2 q0 1 ha ht (vp_in_nI hk hn) hdg (fun H1 locs1 hP hD hS => ?_)
  rw [nI_clamp (Nat.lt_trans hk hn), hv] at hP hD
  exact kk H1 locs1 ⟨hP, hD, hS⟩
end ZW
end
section
/-! small rows over numbers, the static row of lines, the two worlds -/
theorem zn_eqt {a b : Nat} (ha : a < 2 ^ 31) (hb : b < 2 ^ 31) (c : nI a = nI b) : a = b := (nI_eq ha hb).mp c
theorem zn_eqn {a b : Nat} (ha : a < 2 ^ 31) (hb : b < 2 ^ 31) (c : ¬ nI a = nI b) : ¬ a = b := fun q => c ((nI_eq ha hb).mpr q)
theorem zn_ltt {a b : Nat} (ha : a < 2 ^ 31) (hb : b < 2 ^ 31) (c : nI a < nI b) : a < b := (nI_ltI ha hb).mp c
theorem zn_ltn {a b : Nat} (ha : a < 2 ^ 31) (hb : b < 2 ^ 31) (c : ¬ nI a < nI b) : ¬ a < b := fun q => c ((nI_ltI ha hb).mpr q)
theorem zn_let {a b : Nat} (ha : a < 2 ^ 31) (hb : b < 2 ^ 31) (c : nI a ≤ nI b) : a ≤ b := (nI_leI ha hb).mp c
theorem zn_len {a b : Nat} (ha : a < 2 ^ 31) (hb : b < 2 ^ 31) (c : ¬ nI a ≤ nI b) : ¬ a ≤ b := fun q => c ((nI_leI ha hb).mpr q)
theorem zi_inc (k : Nat) : nI k + Int32.ofInt 1 = nI (k + 1) := nI_1 k
theorem zi_incn (k n : Nat) {j : Int} (h : Int32.ofInt j = nI n) : nI k + Int32.ofInt j = nI (k + n) := by rw [h, nI_add]
def zb (b : Bool) : Int32 := if b then 1 else 0
theorem zb_t {b : Bool} (h : b = true) : zb b = 1 := by rw [h]; rfl
theorem zb_f {b : Bool} (h : ¬ b = true) : zb b = 0 := by
  cases b
  · rfl
  · exact absurd rfl h
theorem zb_0 {b : Bool} : zb b = 0 ↔ b = false := by cases b <;> simp [zb]
theorem zb_n0 {b : Bool} : ¬ zb b = 0 ↔ b = true := by cases b <;> simp [zb]
theorem zb_nar (b : Bool) : narrow .boolean (.int (zb b)) = .int (zb b) := by cases b <;> rfl
theorem zb_fit (b : Bool) : fits .boolean (.int (zb b)) = true := by cases b <;> rfl
/-- the lines, as the class holds them -/
def LMl : List Int32 := [15, 240, 3840, 61440, 4369, 8738, 17476, 34952, 33825, 4680, 51, 102, 204, 816, 1632, 3264, 13056, 26112, 52224]
def LM (k : Nat) : Int32 := LMl.getD k 0
abbrev eIO : String := "java/lang/IndexOutOfBoundsException"
abbrev eIS : String := "java/lang/IllegalStateException"
abbrev eIA : String := "java/lang/IllegalArgumentException"
/-- what a throw asks of the tables beside the words that stay by themselves -/
def zXB : List Cond := [.castable eIO eIO, .castable eIS eIS, .castable eIA eIA, .declares (Bundle.initS "java/lang/RuntimeException"), .declares (Bundle.initS "java/lang/Exception"), .declares (Bundle.initS Bundle.tN)]
def zTx : List (Nat × String) := [(48, "no such piece"), (55, "no piece is to be given"), (62, "the piece is on the board"), (64, "no such square"), (66, "no piece is in the hand"), (68, "the square is not empty"), (90, "no such line"), (95, "the game is over"), (105, "placings is out of range"), (111, "the game is over, or too many squares are empty"), (135, "no board is kept")]
def zNc : List (String × String) := [(eIS, eIO), (eIS, eIA), (eIA, eIO)]
theorem zXB_tab : ∀ w ∈ zXB, w.onTables = true := by decide +kernel
theorem zXB_moved {args : Array Value} {s U : State} (hvm : s.vm.Alike U.vm) {w : Cond} (hw : w ∈ zXB) (h : w.before args s = true) : w.before #[] U = true := by
  have h2 : w.before args (s.setVm U.vm) = true := by
    simp only [zXB, List.mem_cons, List.not_mem_nil, or_false] at hw
    rcases hw with rfl | rfl | rfl | rfl | rfl | rfl <;> first | (rw [Cond.castable_setVm hvm]; exact h) | (rw [Cond.declares_setVm hvm]; exact h)
  exact va_tabs (u := s.setVm U.vm) (zXB_tab w hw) rfl h2
def zEL (bL : Nat) : zEt := fun A U => va_Z "Quarterboard" "LINES" "[I" (.ref bL) A U U.heap ∧ va_T .int bL 19 (fun j => .int (LM j)) A U U.heap ∧ (∀ w ∈ zXB, w.before #[] U = true) ∧ (∀ q ∈ zTx, ∃ sa, vk_R "Quarterboard" q.1 q.2 sa U) ∧ vx_Zq Bundle.tN "UNASSIGNED_STACK" Bundle.steD A U U.heap ∧ vx_Zq Bundle.tN "SUPPRESSED_SENTINEL" Bundle.listD A U U.heap ∧ (∀ q ∈ zNc, va_Nc q.1 q.2 U)
theorem zStL {bL : Nat} : zSt (zEL bL) := by
  intro A B s U h hB hW hq
  obtain ⟨h1, h2, h3, h4, h5, h6, h7⟩ := h
  have hvm := hW.alike
  refine ⟨((va_Z.moved hvm h1).kept (fun a h1 h2 => hq a h1 h2)).narrow hB, ((va_T.moved hvm h2).kept (fun a h1 h2 => hq a h1 h2)).narrow hB, fun w hw => zXB_moved hvm hw (h3 w hw), fun q hw => ?_, ((vx_Zq.moved hvm h5).kept (fun a h1 h2 => hq a h1 h2)).narrow hB, ((vx_Zq.moved hvm h6).kept (fun a h1 h2 => hq a h1 h2)).narrow hB, fun q hw => va_Nc.moved hvm (h7 q hw)⟩
  obtain ⟨sa, hsa⟩ := h4 q hw
  exact ⟨sa, vk_R.warm hW hsa⟩
section ZV
variable {p : Program} {l : Launch} {e : Env} {R : Room} {s : State} {m : MethodId} {args : Array Value} {below : List Frame} {meth : Method} {c : Code} {H : Heap} {locs : List Loc} {cells slots : Nat} {Q : State → Prop}
variable {cc : ByteArray} {nL : Nat} {Ts : List Cond} {own : String} {g : zG} {A : Nat → Prop} {pc : Nat} {ls : Array Slot} {rest : List Value} {ws : va_W}
theorem zrwi {x y : Int32} (h : x = y) (k : W p l e R s m args below meth c H locs cells slots Q (F0 m pc ls (.int y :: rest))) : W p l e R s m args below meth c H locs cells slots Q (F0 m pc ls (.int x :: rest)) := h ▸ k
theorem zrwl {x y : Int64} (h : x = y) (k : W p l e R s m args below meth c H locs cells slots Q (F0 m pc ls (.long y :: rest))) : W p l e R s m args below meth c H locs cells slots Q (F0 m pc ls (.long x :: rest)) := h ▸ k
theorem zlld {bL : Nat} {x : Int32} (Z : zc p m c cc nL s args Ts own g A (zEL bL)) (X : zh g A ws s.heap H locs) (k : Nat) (hx : x = nI k) (hk : k < 19) (hdg : decode cc pc = .ok (.iaload, 1))
    (kk : W p l e R s m args below meth c H locs cells slots Q (F0 m (pc + 1) ls (.int (LM k) :: rest))) : W p l e R s m args below meth c H locs cells slots Q (F0 m pc ls (.int x :: .ref bL :: rest)) := by
  subst hx
  refine va_ti (v := .int (LM k)) Z.1.1 Z.1.2.1 Z.2.2.2.1.2.1 X.2.2 (vp_in_nI hk (by decide)) ?_ hdg kk
  show Value.int (LM (nI k).toNatClampNeg) = _
  rw [nI_clamp (by omega)]
end ZV
abbrev QS : Type := Int32 × Int32 × Int32 × Int32 × Int32 × Int32 × Int32 × Int64 × Int32 × Int32 × Int64
abbrev oQ (h : Nat) (u : QS) : va_W := match u with
  | (q0, q1, q2, q3, q4, q5, q6, q7, q8, q9, q10) => [(h, .inr (0, [.int q0, .int q1, .int q2, .int q3, .int q4, .int q5, .int q6, .long q7, .int q8, .int q9, .long q10]))]
end
section
/-! methods that may throw -/
abbrev zNm : List String := ["java/lang/RuntimeException", "java/lang/Exception"]
def zXC (g : zG) (px : String → Prop) (ws : va_W) (A : Nat → Prop) : String → State → State → Prop := vx_X (S := Unit) (fun _ => True) (fun E _ t => px E ∧ va_P g.1 vwCl ws t.heap ∧ va_D A ws) A
def zMX (l : Launch) (y : MethodName) (wds : List Cond) (fr lo : Nat) (g : zG) (av : List Value) (ws : va_W) (E : zEt) (Qc : (Nat → Prop) → Array Value → State → Outcome → State → Prop) (px : String → Prop) : Prop :=
  ∀ sz : Nat, vx_Met l y wds { frames := fr, cells := 1, slots := 6, locals := lo } (va_Pc av (fun U => U.heap.size = sz ∧ zK g U ∧ va_P g.1 vwCl ws U.heap ∧ va_D (fun _ => True) ws ∧ E (va_A ws sz) U)) (Qc (va_A ws sz)) (zXC g px ws (va_A ws sz)) 1 6 (va_A ws sz)
theorem zstartX {l : Launch} {y : MethodName} {wds ws' : List Cond} {fr lo : Nat} {g : zG} {av : List Value} {ws : va_W} {E : zEt} {Qc : (Nat → Prop) → Array Value → State → Outcome → State → Prop} {px : String → Prop} {cc : ByteArray} {maxL : Nat} {ret : Option FieldType} {own : String}
    (ho : y.cls = own) (hy : plainName own = true) (hw : wds = Cond.code y cc maxL ret :: ws') (hst : zSt E) (hlen : (lg_sl av).length ≤ maxL)
    (body : ∀ (p : Program) (e : Env) (s : State) (m : MethodId) (below : List Frame) (meth : Method) (c : Code) (A : Nat → Prop), zc p m c cc maxL s av.toArray wds own g A E → meth.sig.returnType = ret → meth.locks = false → (∀ x ∈ c.exceptionTable.toList, False) → ∀ (H : Heap) (locs : List Loc), zh g A ws s.heap H locs → ∀ ls : Array Slot, lv_has ls maxL (lv_args 0 av) →
      W p l e { frames := fr, cells := 1, slots := 6, locals := lo } s m av.toArray below meth c H locs 0 0 (vx_MQ below (Qc A) (zXC g px ws A) av.toArray s 1 6 A) (F0 m 0 ls [])) : zMX l y wds fr lo g av ws E Qc px := by
  subst ho
  intro sz
  refine vx_ofW (cc := cc) (maxL := maxL) (ret := ret) hy hw ?_
  intro p e s m args below meth c s₁ B hml ht hv
  obtain ⟨rfl, rfl, hK, hP, hD0, hE⟩ := hv
  have hts := atoms_spec (ws := wds) B.pre
  have hown : s.vm.findClass y.cls = some m.cls := findClass_of_methodNamed B.named
  rw [lg_entry_eq]
  exact body p e s m below meth c _ ⟨⟨B.exec, B.bytes, hml, hown, hts⟩, hK, fun q h => Or.inr h, hE, hst⟩ B.returns B.notSynchronized ht _ _ ⟨hP, hD0.self, va_S.rf⟩ _ (lv_entry av hlen)
section ZX
variable {p : Program} {l : Launch} {e : Env} {R : Room} {s : State} {m : MethodId} {args : Array Value} {below : List Frame} {meth : Method} {c : Code} {H : Heap} {locs : List Loc} {cells slots : Nat} {Q : State → Prop}
variable {cc : ByteArray} {nL : Nat} {Ts : List Cond} {own : String} {g : zG} {A : Nat → Prop} {E E' : zEt} {pc : Nat} {ls : Array Slot} {rest st0 : List Value} {ws : va_W}
theorem zthrow {bL : Nat} {Qc : Array Value → State → Outcome → State → Prop} {px : String → Prop} {ik is ic : Nat} {cls text : String} (Z : zc p m c cc nL s args Ts "Quarterboard" g A (zEL bL)) (htr : l.stackTraces = false) (ht : ∀ x ∈ c.exceptionTable.toList, False) (hlk : meth.locks = false) (X : zh g A ws s.heap H locs) (hl : ls.size = nL)
    (hcls : Bundle.fit cls = true) (h1 : Cond.classLink "Quarterboard" ik cls ∈ Ts) (h2 : Cond.initialized cls ∈ Ts) (hstr : (is, text) ∈ zTx) (hat : ∀ w ∈ (vx_atS "Quarterboard" ic cls zNm).filter goodWord, w ∈ Ts) (hB : ∀ w ∈ (vx_atS "Quarterboard" ic cls zNm).filter (fun w => !goodWord w), w ∈ zXB)
    (hgood : ∀ w ∈ Cond.classLink "Quarterboard" ik cls :: Cond.initialized cls :: vx_atS "Quarterboard" ic cls zNm, vx_ot w = true)
    (d0 : decode cc pc = .ok (.new ik, 3)) (d3 : decode cc (pc + 3) = .ok (.dup, 1)) (d4 : decode cc (pc + 4) = .ok (.ldc is, 2)) (d6 : decode cc (pc + 6) = .ok (.invokespecial ic, 3)) (d9 : decode cc (pc + 9) = .ok (.athrow, 1))
    (hRframes : 5 < R.frames) (hRlocals : (rest.map fun v => v.category).sum + 82 ≤ R.locals) (hRcells : 0 + 1 ≤ R.cells) (hRslots : 0 + 6 ≤ R.slots) (hp : px cls) :
    W p l e R s m args below meth c H locs 0 0 (vx_MQ below Qc (zXC g px ws A) args s 1 6 A) (F0 m pc ls rest) := by
  obtain ⟨e1, e2, e3, e4, e5, e6, e7⟩ := Z.2.2.2.1
  obtain ⟨sa, hsa⟩ := e4 _ hstr
  have hcast : ∀ w ∈ zXB, w.before args s = true := fun w hw => va_tabs (zXB_tab w hw) rfl (e3 w hw)
  refine vx_throwS (names := zNm) Z.1.1 Z.1.2.1 htr Z.1.2.2.2.1 hcls (by decide +kernel) (Z.1.2.2.2.2 _ h1) (Z.1.2.2.2.2 _ h2) hsa (vx_hat (fun w hw => Z.1.2.2.2.2 _ (hat w hw)) hB hcast) hgood e5 e6 X.2.2 (hl.trans Z.1.2.2.1.symm) d0 d3 d4 d6 d9 (fun x hx => (ht x hx).elim) hRframes hRlocals hRcells hRslots hlk ?_ X.2.2.2.2 (Nat.le_refl _) (Nat.le_refl _)
  intro t hvm hz hk
  refine ⟨(), trivial, ⟨hp, fun k q hq => (X.1 k q hq).kept (hk _ (X.1 k q hq).lt), X.2.1⟩, ?_⟩
  exact ⟨Nat.le_trans X.2.2.1 hz, fun q h1 h2 => by rw [hk q (Nat.lt_of_lt_of_le h1 X.2.2.1)]; exact X.2.2.2.1 q h1 h2⟩
end ZX
theorem zB_50 : ∀ w ∈ (vx_atS "Quarterboard" 50 eIO zNm).filter (fun w => !goodWord w), w ∈ zXB := by decide +kernel
theorem zB_57 : ∀ w ∈ (vx_atS "Quarterboard" 57 eIS zNm).filter (fun w => !goodWord w), w ∈ zXB := by decide +kernel
theorem zB_107 : ∀ w ∈ (vx_atS "Quarterboard" 107 eIA zNm).filter (fun w => !goodWord w), w ∈ zXB := by decide +kernel
theorem zG_50 : ∀ w ∈ Cond.classLink "Quarterboard" 46 eIO :: Cond.initialized eIO :: vx_atS "Quarterboard" 50 eIO zNm, vx_ot w = true := by decide +kernel
theorem zG_57 : ∀ w ∈ Cond.classLink "Quarterboard" 53 eIS :: Cond.initialized eIS :: vx_atS "Quarterboard" 57 eIS zNm, vx_ot w = true := by decide +kernel
theorem zG_107 : ∀ w ∈ Cond.classLink "Quarterboard" 103 eIA :: Cond.initialized eIA :: vx_atS "Quarterboard" 107 eIA zNm, vx_ot w = true := by decide +kernel
end
section
/-! the class: numbers and sets -/
def qNum (n : Int32) : Bool := decide (¬ n < 0) && decide (¬ 16 ≤ n)
def qHas (set n : Int32) : Bool := decide (¬ set &&& ((1 : Int32) <<< (n &&& 31)) = 0)
def qOne (d : Int64) (m : Int32) : Int32 := ((d.toUInt64 >>> (((16 : Int32) * m).toInt64.toUInt64 &&& Int64.toUInt64 63)).toInt64).toInt32 &&& (65535 : Int32)
def qOwn (p : Int32) : Int32 := p ||| (((p ^^^ (-1 : Int32)) &&& (15 : Int32)) <<< ((4 : Int32) &&& 31))
def qFirst (p : Int32) : Int64 := (((p.toInt64 &&& (1 : Int64)) ||| ((p.toInt64 &&& (2 : Int64)) <<< ((15 : Int32).toInt64 &&& 63))) ||| ((p.toInt64 &&& (4 : Int64)) <<< ((30 : Int32).toInt64 &&& 63))) ||| ((p.toInt64 &&& (8 : Int64)) <<< ((45 : Int32).toInt64 &&& 63))
def qBit (s : Int32) : Int32 := (1 : Int32) <<< (s &&& 31)
def qPutD (d : Int64) (p s : Int32) : Int64 := d ||| (qFirst p <<< (s.toInt64 &&& 63))
def qLiftD (d : Int64) (s : Int32) : Int64 := d &&& (((281479271743489 : Int64) <<< (s.toInt64 &&& 63)) ^^^ (-1 : Int64))
/-- the digits that k marks show as common to the squares there -/
def qCom (d : Int64) (there : Int32) : Nat → Int32
  | 0 => 0
  | k + 1 => (if qOne d (nI k) &&& there = 0 then (if qOne d (nI k) &&& there = there then qCom d there k ||| qBit (nI k) else qCom d there k) ||| qBit (nI k + 4) else (if qOne d (nI k) &&& there = there then qCom d there k ||| qBit (nI k) else qCom d there k))
def qIn (f : Int32) (d : Int64) (squares : Int32) : Int32 := qCom d (squares &&& f) 4
def P_X0_isNumber (n : Int32) : Int32 → Unit → Prop := fun r _ => r = zb (qNum n)
set_option maxHeartbeats 4000000 in
set_option maxRecDepth 100000 in
theorem c_X0_isNumber (l : Launch) (g : zG) (n : Int32)  : zM l yX0_isNumber wsX0_isNumber 0 0 g [.int n] ([]) zE0 (zQi g (P_X0_isNumber n) (fun _ : Unit => [])) := by
  refine zstart (cc := cX0_isNumber) (maxL := 1) (ret := (some .boolean)) (own := RX0) rfl (by decide) rfl zSt0 (Nat.le_of_ble_eq_true rfl) ?_
  intro p e s m below meth c A Z hr hlk H locs X ls hl
  have hx := Z.1.1
  have hb := Z.1.2.1
  have hl : lv_has ls 1 [(0, .int n)] := hl
  have X : zh g A ([]) s.heap H locs := X
  refine lv_iload_n hx hb dX0_isNumber_0 rfl (lv_at hl 0 rfl) ?_
  refine lv_if_lt (tgt := 14) hx hb dX0_isNumber_1 (by decide) (fun c1 => ?_) (fun c1 => ?_)
  · have qc1 := c1
    refine lv_iconst (v := (0 : Int32)) hx hb dX0_isNumber_14 (by decide) ?_
    exact zreti Z hr hlk () X dX0_isNumber_15 rfl (by simp [P_X0_isNumber, qNum, zb, c1])
  · have qc1 := c1
    refine lv_iload_n hx hb dX0_isNumber_4 rfl (lv_at hl 0 rfl) ?_
    refine lv_bipush (v := (16 : Int32)) hx hb dX0_isNumber_5 (by decide) ?_
    refine lv_icmp_ge (tgt := 14) hx hb dX0_isNumber_7 (by decide) (fun c2 => ?_) (fun c2 => ?_)
    · have qc2 := c2
      refine lv_iconst (v := (0 : Int32)) hx hb dX0_isNumber_14 (by decide) ?_
      exact zreti Z hr hlk () X dX0_isNumber_15 rfl (by simp [P_X0_isNumber, qNum, zb, c1, c2])
    · have qc2 := c2
      refine lv_iconst (v := (1 : Int32)) hx hb dX0_isNumber_10 (by decide) ?_
      refine lv_goto (tgt := 15) hx hb dX0_isNumber_11 (by decide) ?_
      exact zreti Z hr hlk () X dX0_isNumber_15 rfl (by simp [P_X0_isNumber, qNum, zb, c1, c2])
def P_X0_has (set : Int32) (n : Int32) : Int32 → Unit → Prop := fun r _ => r = zb (qHas set n)
set_option maxHeartbeats 4000000 in
set_option maxRecDepth 100000 in
theorem c_X0_has (l : Launch) (g : zG) (set : Int32) (n : Int32)  : zM l yX0_has wsX0_has 0 0 g [.int set, .int n] ([]) zE0 (zQi g (P_X0_has set n) (fun _ : Unit => [])) := by
  refine zstart (cc := cX0_has) (maxL := 2) (ret := (some .boolean)) (own := RX0) rfl (by decide) rfl zSt0 (Nat.le_of_ble_eq_true rfl) ?_
  intro p e s m below meth c A Z hr hlk H locs X ls hl
  have hx := Z.1.1
  have hb := Z.1.2.1
  have hl : lv_has ls 2 [(0, .int set), (1, .int n)] := hl
  have X : zh g A ([]) s.heap H locs := X
  refine lv_iload_n hx hb dX0_has_0 rfl (lv_at hl 0 rfl) ?_
  refine lv_iconst (v := (1 : Int32)) hx hb dX0_has_1 (by decide) ?_
  refine lv_iload_n hx hb dX0_has_2 rfl (lv_at hl 1 rfl) ?_
  refine lv_ishl hx hb dX0_has_3 ?_
  refine lv_iand hx hb dX0_has_4 ?_
  refine lv_if_eq (tgt := 12) hx hb dX0_has_5 (by decide) (fun c1 => ?_) (fun c1 => ?_)
  · have qc1 := c1
    refine lv_iconst (v := (0 : Int32)) hx hb dX0_has_12 (by decide) ?_
    exact zreti Z hr hlk () X dX0_has_13 rfl (by simp [P_X0_has, qHas, zb, c1])
  · have qc1 := c1
    refine lv_iconst (v := (1 : Int32)) hx hb dX0_has_8 (by decide) ?_
    refine lv_goto (tgt := 13) hx hb dX0_has_9 (by decide) ?_
    exact zreti Z hr hlk () X dX0_has_13 rfl (by simp [P_X0_has, qHas, zb, c1])
def P_X0_withOne (d : Int64) (n : Int32) : Int32 → Unit → Prop := fun r _ => r = qOne d n
set_option maxHeartbeats 4000000 in
set_option maxRecDepth 100000 in
theorem c_X0_withOne (l : Launch) (g : zG) (d : Int64) (n : Int32)  : zM l yX0_withOne wsX0_withOne 0 0 g [.long d, .int n] ([]) zE0 (zQi g (P_X0_withOne d n) (fun _ : Unit => [])) := by
  refine zstart (cc := cX0_withOne) (maxL := 3) (ret := (some .int)) (own := RX0) rfl (by decide) rfl zSt0 (Nat.le_of_ble_eq_true rfl) ?_
  intro p e s m below meth c A Z hr hlk H locs X ls hl
  have hx := Z.1.1
  have hb := Z.1.2.1
  have hl : lv_has ls 3 [(0, .long d), (2, .int n)] := hl
  have X : zh g A ([]) s.heap H locs := X
  refine lv_lload_n hx hb dX0_withOne_0 rfl (lv_at hl 0 rfl) ?_
  refine lv_bipush (v := (16 : Int32)) hx hb dX0_withOne_1 (by decide) ?_
  refine lv_iload_n hx hb dX0_withOne_3 rfl (lv_at hl 1 rfl) ?_
  refine lv_imul hx hb dX0_withOne_4 ?_
  refine lv_lushr hx hb dX0_withOne_5 rfl ?_
  refine lv_l2i hx hb dX0_withOne_6 rfl ?_
  refine lv_ldc (v := (65535 : Int32)) hx hb Z.1.2.2.2.1 (Z.1.2.2.2.2 (.constant RX0 78 (65535)) (by decide +kernel)) dX0_withOne_7 ?_
  refine lv_iand hx hb dX0_withOne_9 ?_
  exact zreti Z hr hlk () X dX0_withOne_10 rfl (by first | rfl | simp_all)
def P_X0_ownDigits (n : Int32) : Int32 → Unit → Prop := fun r _ => r = qOwn n
set_option maxHeartbeats 4000000 in
set_option maxRecDepth 100000 in
theorem c_X0_ownDigits (l : Launch) (g : zG) (n : Int32)  : zM l yX0_ownDigits wsX0_ownDigits 0 0 g [.int n] ([]) zE0 (zQi g (P_X0_ownDigits n) (fun _ : Unit => [])) := by
  refine zstart (cc := cX0_ownDigits) (maxL := 1) (ret := (some .int)) (own := RX0) rfl (by decide) rfl zSt0 (Nat.le_of_ble_eq_true rfl) ?_
  intro p e s m below meth c A Z hr hlk H locs X ls hl
  have hx := Z.1.1
  have hb := Z.1.2.1
  have hl : lv_has ls 1 [(0, .int n)] := hl
  have X : zh g A ([]) s.heap H locs := X
  refine lv_iload_n hx hb dX0_ownDigits_0 rfl (lv_at hl 0 rfl) ?_
  refine lv_iload_n hx hb dX0_ownDigits_1 rfl (lv_at hl 0 rfl) ?_
  refine lv_iconst (v := (-1 : Int32)) hx hb dX0_ownDigits_2 (by decide) ?_
  refine lv_ixor hx hb dX0_ownDigits_3 ?_
  refine lv_bipush (v := (15 : Int32)) hx hb dX0_ownDigits_4 (by decide) ?_
  refine lv_iand hx hb dX0_ownDigits_6 ?_
  refine lv_iconst (v := (4 : Int32)) hx hb dX0_ownDigits_7 (by decide) ?_
  refine lv_ishl hx hb dX0_ownDigits_8 ?_
  refine lv_ior hx hb dX0_ownDigits_9 ?_
  exact zreti Z hr hlk () X dX0_ownDigits_10 rfl (by first | rfl | simp_all)
def P_X0_atFirstSquare (n : Int32) : Int64 → Unit → Prop := fun r _ => r = qFirst n
set_option maxHeartbeats 4000000 in
set_option maxRecDepth 100000 in
theorem c_X0_atFirstSquare (l : Launch) (g : zG) (n : Int32)  : zM l yX0_atFirstSquare wsX0_atFirstSquare 0 0 g [.int n] ([]) zE0 (zQl g (P_X0_atFirstSquare n) (fun _ : Unit => [])) := by
  refine zstart (cc := cX0_atFirstSquare) (maxL := 1) (ret := (some .long)) (own := RX0) rfl (by decide) rfl zSt0 (Nat.le_of_ble_eq_true rfl) ?_
  intro p e s m below meth c A Z hr hlk H locs X ls hl
  have hx := Z.1.1
  have hb := Z.1.2.1
  have hl : lv_has ls 1 [(0, .int n)] := hl
  have X : zh g A ([]) s.heap H locs := X
  refine lv_iload_n hx hb dX0_atFirstSquare_0 rfl (lv_at hl 0 rfl) ?_
  refine lv_i2l hx hb dX0_atFirstSquare_1 rfl ?_
  refine lv_lconst (v := (1 : Int64)) hx hb dX0_atFirstSquare_2 (by decide) ?_
  refine lv_land hx hb dX0_atFirstSquare_3 ?_
  refine lv_iload_n hx hb dX0_atFirstSquare_4 rfl (lv_at hl 0 rfl) ?_
  refine lv_i2l hx hb dX0_atFirstSquare_5 rfl ?_
  refine lv_ldc2 (v := (2 : Int64)) hx hb Z.1.2.2.2.1 (Z.1.2.2.2.2 (.constantLong RX0 141 (2)) (by decide +kernel)) dX0_atFirstSquare_6 ?_
  refine lv_land hx hb dX0_atFirstSquare_9 ?_
  refine lv_bipush (v := (15 : Int32)) hx hb dX0_atFirstSquare_10 (by decide) ?_
  refine lv_lshl hx hb dX0_atFirstSquare_12 rfl ?_
  refine lv_lor hx hb dX0_atFirstSquare_13 ?_
  refine lv_iload_n hx hb dX0_atFirstSquare_14 rfl (lv_at hl 0 rfl) ?_
  refine lv_i2l hx hb dX0_atFirstSquare_15 rfl ?_
  refine lv_ldc2 (v := (4 : Int64)) hx hb Z.1.2.2.2.1 (Z.1.2.2.2.2 (.constantLong RX0 143 (4)) (by decide +kernel)) dX0_atFirstSquare_16 ?_
  refine lv_land hx hb dX0_atFirstSquare_19 ?_
  refine lv_bipush (v := (30 : Int32)) hx hb dX0_atFirstSquare_20 (by decide) ?_
  refine lv_lshl hx hb dX0_atFirstSquare_22 rfl ?_
  refine lv_lor hx hb dX0_atFirstSquare_23 ?_
  refine lv_iload_n hx hb dX0_atFirstSquare_24 rfl (lv_at hl 0 rfl) ?_
  refine lv_i2l hx hb dX0_atFirstSquare_25 rfl ?_
  refine lv_ldc2 (v := (8 : Int64)) hx hb Z.1.2.2.2.1 (Z.1.2.2.2.2 (.constantLong RX0 145 (8)) (by decide +kernel)) dX0_atFirstSquare_26 ?_
  refine lv_land hx hb dX0_atFirstSquare_29 ?_
  refine lv_bipush (v := (45 : Int32)) hx hb dX0_atFirstSquare_30 (by decide) ?_
  refine lv_lshl hx hb dX0_atFirstSquare_32 rfl ?_
  refine lv_lor hx hb dX0_atFirstSquare_33 ?_
  exact zretl Z hr hlk () X dX0_atFirstSquare_34 (by first | rfl | simp_all)
theorem inw_X0_put : ∀ w ∈ wsX00, w ∈ wsX0_put := by decide +kernel
theorem lk_X0_put_16 : Cond.fieldLink RX0 16 "Quarterboard" "filled" "I" ∈ wsX0_put := by decide +kernel
theorem lk_X0_put_35 : Cond.fieldLink RX0 35 "Quarterboard" "used" "I" ∈ wsX0_put := by decide +kernel
theorem lk_X0_put_38 : Cond.fieldLink RX0 38 "Quarterboard" "digits" "J" ∈ wsX0_put := by decide +kernel
def P_X0_put (q0 q1 q2 q3 q4 q5 q6 : Int32) (q7 : Int64) (q8 q9 : Int32) (q10 : Int64) (pc : Int32) (sq : Int32) : QS → Prop := fun u => u = (q0, q1, q2, q3, q4, q5 ||| qBit sq, q6 ||| qBit pc, qPutD q7 pc sq, q8, q9, q10)
set_option maxHeartbeats 4000000 in
set_option maxRecDepth 100000 in
theorem c_X0_put (l : Launch) (g : zG) (bL h : Nat) (q0 q1 q2 q3 q4 q5 q6 : Int32) (q7 : Int64) (q8 q9 : Int32) (q10 : Int64) (pc : Int32) (sq : Int32)  : zM l yX0_put wsX0_put 1 40 g [.ref h, .int pc, .int sq] (oQ h (q0, q1, q2, q3, q4, q5, q6, q7, q8, q9, q10)) (zEL bL) (zQv g (P_X0_put q0 q1 q2 q3 q4 q5 q6 q7 q8 q9 q10 pc sq) (oQ h)) := by
  refine zstart (cc := cX0_put) (maxL := 3) (ret := none) (own := RX0) rfl (by decide) rfl zStL (Nat.le_of_ble_eq_true rfl) ?_
  intro p e s m below meth c A Z hr hlk H locs X ls hl
  have hx := Z.1.1
  have hb := Z.1.2.1
  have hin : ∀ w ∈ wsX00, w ∈ wsX0_put := inw_X0_put
  have hl : lv_has ls 3 [(0, .ref h), (1, .int pc), (2, .int sq)] := hl
  have X : zh g A (oQ h (q0, q1, q2, q3, q4, q5, q6, q7, q8, q9, q10)) s.heap H locs := X
  refine lv_aload_n hx hb dX0_put_0 rfl (lv_at hl 0 rfl) ?_
  refine lv_dup hx hb dX0_put_1 rfl ?_
  refine zget (fs := [.int q0, .int q1, .int q2, .int q3, .int q4, .int q5, .int q6, .long q7, .int q8, .int q9, .long q10]) (v := .int q5) Z hin X (ci := 0) (C := RX0) (T := TX0) (N := 11) rfl rfl 5 (by decide) lk_X0_put_16 rfl dX0_put_2 ?_
  refine lv_iconst (v := (1 : Int32)) hx hb dX0_put_5 (by decide) ?_
  refine lv_iload_n hx hb dX0_put_6 rfl (lv_at hl 2 rfl) ?_
  refine lv_ishl hx hb dX0_put_7 ?_
  refine lv_ior hx hb dX0_put_8 ?_
  refine lv_topi (fun x1 ex1 => ?_)
  refine zput (ty := .int) (fs := [.int q0, .int q1, .int q2, .int q3, .int q4, .int q5, .int q6, .long q7, .int q8, .int q9, .long q10]) (v := .int x1) tyX0 tyX0_ok nmX0 Z hin X (ci := 0) (C := RX0) (T := TX0) (N := 11) rfl rfl 5 (by decide) lk_X0_put_16 rfl (by decide +kernel) rfl rfl (Nat.le_of_ble_eq_true rfl) dX0_put_9 (fun H locs X => ?_)
  have X : zh g A (oQ h (q0, q1, q2, q3, q4, x1, q6, q7, q8, q9, q10)) s.heap H locs := X
  refine lv_aload_n hx hb dX0_put_12 rfl (lv_at hl 0 rfl) ?_
  refine lv_dup hx hb dX0_put_13 rfl ?_
  refine zget (fs := [.int q0, .int q1, .int q2, .int q3, .int q4, .int x1, .int q6, .long q7, .int q8, .int q9, .long q10]) (v := .int q6) Z hin X (ci := 0) (C := RX0) (T := TX0) (N := 11) rfl rfl 6 (by decide) lk_X0_put_35 rfl dX0_put_14 ?_
  refine lv_iconst (v := (1 : Int32)) hx hb dX0_put_17 (by decide) ?_
  refine lv_iload_n hx hb dX0_put_18 rfl (lv_at hl 1 rfl) ?_
  refine lv_ishl hx hb dX0_put_19 ?_
  refine lv_ior hx hb dX0_put_20 ?_
  refine lv_topi (fun x2 ex2 => ?_)
  refine zput (ty := .int) (fs := [.int q0, .int q1, .int q2, .int q3, .int q4, .int x1, .int q6, .long q7, .int q8, .int q9, .long q10]) (v := .int x2) tyX0 tyX0_ok nmX0 Z hin X (ci := 0) (C := RX0) (T := TX0) (N := 11) rfl rfl 6 (by decide) lk_X0_put_35 rfl (by decide +kernel) rfl rfl (Nat.le_of_ble_eq_true rfl) dX0_put_21 (fun H locs X => ?_)
  have X : zh g A (oQ h (q0, q1, q2, q3, q4, x1, x2, q7, q8, q9, q10)) s.heap H locs := X
  refine lv_aload_n hx hb dX0_put_24 rfl (lv_at hl 0 rfl) ?_
  refine lv_dup hx hb dX0_put_25 rfl ?_
  refine zget (fs := [.int q0, .int q1, .int q2, .int q3, .int q4, .int x1, .int x2, .long q7, .int q8, .int q9, .long q10]) (v := .long q7) Z hin X (ci := 0) (C := RX0) (T := TX0) (N := 11) rfl rfl 7 (by decide) lk_X0_put_38 rfl dX0_put_26 ?_
  refine lv_iload_n hx hb dX0_put_29 rfl (lv_at hl 1 rfl) ?_
  refine zcallSl (n := 1) (As := [.int pc]) (rest := [.long q7, .ref h]) Z X (c_X0_atFirstSquare l g pc) gX0_put_X0_atFirstSquare rfl (by decide +kernel) ⟨Nat.le_of_ble_eq_true rfl, Nat.le_of_ble_eq_true rfl⟩ rfl rfl hl.1 (Nat.le_of_ble_eq_true rfl) dX0_put_30 ⟨Nat.zero_le _, Nat.zero_le _⟩ (fun r2 H locs hrr2 X => ?_)
  obtain rfl : r2 = qFirst pc := hrr2
  refine lv_iload_n hx hb dX0_put_33 rfl (lv_at hl 2 rfl) ?_
  refine lv_lshl hx hb dX0_put_34 rfl ?_
  refine lv_lor hx hb dX0_put_35 ?_
  refine lv_topl (fun x4 ex4 => ?_)
  refine zput (ty := .long) (fs := [.int q0, .int q1, .int q2, .int q3, .int q4, .int x1, .int x2, .long q7, .int q8, .int q9, .long q10]) (v := .long x4) tyX0 tyX0_ok nmX0 Z hin X (ci := 0) (C := RX0) (T := TX0) (N := 11) rfl rfl 7 (by decide) lk_X0_put_38 rfl (by decide +kernel) rfl rfl (Nat.le_of_ble_eq_true rfl) dX0_put_36 (fun H locs X => ?_)
  have X : zh g A (oQ h (q0, q1, q2, q3, q4, x1, x2, x4, q8, q9, q10)) s.heap H locs := X
  exact zretv Z hr hlk (q0, q1, q2, q3, q4, x1, x2, x4, q8, q9, q10) X dX0_put_39 (by subst ex4; subst ex2; subst ex1; rfl)
theorem inw_X0_lift : ∀ w ∈ wsX00, w ∈ wsX0_lift := by decide +kernel
theorem lk_X0_lift_16 : Cond.fieldLink RX0 16 "Quarterboard" "filled" "I" ∈ wsX0_lift := by decide +kernel
theorem lk_X0_lift_35 : Cond.fieldLink RX0 35 "Quarterboard" "used" "I" ∈ wsX0_lift := by decide +kernel
theorem lk_X0_lift_38 : Cond.fieldLink RX0 38 "Quarterboard" "digits" "J" ∈ wsX0_lift := by decide +kernel
def P_X0_lift (q0 q1 q2 q3 q4 q5 q6 : Int32) (q7 : Int64) (q8 q9 : Int32) (q10 : Int64) (pc : Int32) (sq : Int32) : QS → Prop := fun u => u = (q0, q1, q2, q3, q4, q5 &&& (qBit sq ^^^ (-1 : Int32)), q6 &&& (qBit pc ^^^ (-1 : Int32)), qLiftD q7 sq, q8, q9, q10)
set_option maxHeartbeats 4000000 in
set_option maxRecDepth 100000 in
theorem c_X0_lift (l : Launch) (g : zG) (bL h : Nat) (q0 q1 q2 q3 q4 q5 q6 : Int32) (q7 : Int64) (q8 q9 : Int32) (q10 : Int64) (pc : Int32) (sq : Int32)  : zM l yX0_lift wsX0_lift 0 0 g [.ref h, .int pc, .int sq] (oQ h (q0, q1, q2, q3, q4, q5, q6, q7, q8, q9, q10)) (zEL bL) (zQv g (P_X0_lift q0 q1 q2 q3 q4 q5 q6 q7 q8 q9 q10 pc sq) (oQ h)) := by
  refine zstart (cc := cX0_lift) (maxL := 3) (ret := none) (own := RX0) rfl (by decide) rfl zStL (Nat.le_of_ble_eq_true rfl) ?_
  intro p e s m below meth c A Z hr hlk H locs X ls hl
  have hx := Z.1.1
  have hb := Z.1.2.1
  have hin : ∀ w ∈ wsX00, w ∈ wsX0_lift := inw_X0_lift
  have hl : lv_has ls 3 [(0, .ref h), (1, .int pc), (2, .int sq)] := hl
  have X : zh g A (oQ h (q0, q1, q2, q3, q4, q5, q6, q7, q8, q9, q10)) s.heap H locs := X
  refine lv_aload_n hx hb dX0_lift_0 rfl (lv_at hl 0 rfl) ?_
  refine lv_dup hx hb dX0_lift_1 rfl ?_
  refine zget (fs := [.int q0, .int q1, .int q2, .int q3, .int q4, .int q5, .int q6, .long q7, .int q8, .int q9, .long q10]) (v := .int q5) Z hin X (ci := 0) (C := RX0) (T := TX0) (N := 11) rfl rfl 5 (by decide) lk_X0_lift_16 rfl dX0_lift_2 ?_
  refine lv_iconst (v := (1 : Int32)) hx hb dX0_lift_5 (by decide) ?_
  refine lv_iload_n hx hb dX0_lift_6 rfl (lv_at hl 2 rfl) ?_
  refine lv_ishl hx hb dX0_lift_7 ?_
  refine lv_iconst (v := (-1 : Int32)) hx hb dX0_lift_8 (by decide) ?_
  refine lv_ixor hx hb dX0_lift_9 ?_
  refine lv_iand hx hb dX0_lift_10 ?_
  refine lv_topi (fun x1 ex1 => ?_)
  refine zput (ty := .int) (fs := [.int q0, .int q1, .int q2, .int q3, .int q4, .int q5, .int q6, .long q7, .int q8, .int q9, .long q10]) (v := .int x1) tyX0 tyX0_ok nmX0 Z hin X (ci := 0) (C := RX0) (T := TX0) (N := 11) rfl rfl 5 (by decide) lk_X0_lift_16 rfl (by decide +kernel) rfl rfl (Nat.le_of_ble_eq_true rfl) dX0_lift_11 (fun H locs X => ?_)
  have X : zh g A (oQ h (q0, q1, q2, q3, q4, x1, q6, q7, q8, q9, q10)) s.heap H locs := X
  refine lv_aload_n hx hb dX0_lift_14 rfl (lv_at hl 0 rfl) ?_
  refine lv_dup hx hb dX0_lift_15 rfl ?_
  refine zget (fs := [.int q0, .int q1, .int q2, .int q3, .int q4, .int x1, .int q6, .long q7, .int q8, .int q9, .long q10]) (v := .int q6) Z hin X (ci := 0) (C := RX0) (T := TX0) (N := 11) rfl rfl 6 (by decide) lk_X0_lift_35 rfl dX0_lift_16 ?_
  refine lv_iconst (v := (1 : Int32)) hx hb dX0_lift_19 (by decide) ?_
  refine lv_iload_n hx hb dX0_lift_20 rfl (lv_at hl 1 rfl) ?_
  refine lv_ishl hx hb dX0_lift_21 ?_
  refine lv_iconst (v := (-1 : Int32)) hx hb dX0_lift_22 (by decide) ?_
  refine lv_ixor hx hb dX0_lift_23 ?_
  refine lv_iand hx hb dX0_lift_24 ?_
  refine lv_topi (fun x2 ex2 => ?_)
  refine zput (ty := .int) (fs := [.int q0, .int q1, .int q2, .int q3, .int q4, .int x1, .int q6, .long q7, .int q8, .int q9, .long q10]) (v := .int x2) tyX0 tyX0_ok nmX0 Z hin X (ci := 0) (C := RX0) (T := TX0) (N := 11) rfl rfl 6 (by decide) lk_X0_lift_35 rfl (by decide +kernel) rfl rfl (Nat.le_of_ble_eq_true rfl) dX0_lift_25 (fun H locs X => ?_)
  have X : zh g A (oQ h (q0, q1, q2, q3, q4, x1, x2, q7, q8, q9, q10)) s.heap H locs := X
  refine lv_aload_n hx hb dX0_lift_28 rfl (lv_at hl 0 rfl) ?_
  refine lv_dup hx hb dX0_lift_29 rfl ?_
  refine zget (fs := [.int q0, .int q1, .int q2, .int q3, .int q4, .int x1, .int x2, .long q7, .int q8, .int q9, .long q10]) (v := .long q7) Z hin X (ci := 0) (C := RX0) (T := TX0) (N := 11) rfl rfl 7 (by decide) lk_X0_lift_38 rfl dX0_lift_30 ?_
  refine lv_ldc2 (v := (281479271743489 : Int64)) hx hb Z.1.2.2.2.1 (Z.1.2.2.2.2 (.constantLong RX0 151 (281479271743489)) (by decide +kernel)) dX0_lift_33 ?_
  refine lv_iload_n hx hb dX0_lift_36 rfl (lv_at hl 2 rfl) ?_
  refine lv_lshl hx hb dX0_lift_37 rfl ?_
  refine lv_ldc2 (v := (-1 : Int64)) hx hb Z.1.2.2.2.1 (Z.1.2.2.2.2 (.constantLong RX0 153 (-1)) (by decide +kernel)) dX0_lift_38 ?_
  refine lv_lxor hx hb dX0_lift_41 ?_
  refine lv_land hx hb dX0_lift_42 ?_
  refine lv_topl (fun x3 ex3 => ?_)
  refine zput (ty := .long) (fs := [.int q0, .int q1, .int q2, .int q3, .int q4, .int x1, .int x2, .long q7, .int q8, .int q9, .long q10]) (v := .long x3) tyX0 tyX0_ok nmX0 Z hin X (ci := 0) (C := RX0) (T := TX0) (N := 11) rfl rfl 7 (by decide) lk_X0_lift_38 rfl (by decide +kernel) rfl rfl (Nat.le_of_ble_eq_true rfl) dX0_lift_43 (fun H locs X => ?_)
  have X : zh g A (oQ h (q0, q1, q2, q3, q4, x1, x2, x3, q8, q9, q10)) s.heap H locs := X
  exact zretv Z hr hlk (q0, q1, q2, q3, q4, x1, x2, x3, q8, q9, q10) X dX0_lift_46 (by subst ex3; subst ex2; subst ex1; rfl)
theorem inw_X0_inCommon : ∀ w ∈ wsX00, w ∈ wsX0_inCommon := by decide +kernel
theorem lk_X0_inCommon_16 : Cond.fieldLink RX0 16 "Quarterboard" "filled" "I" ∈ wsX0_inCommon := by decide +kernel
theorem lk_X0_inCommon_38 : Cond.fieldLink RX0 38 "Quarterboard" "digits" "J" ∈ wsX0_inCommon := by decide +kernel
def P_X0_inCommon (q0 q1 q2 q3 q4 q5 q6 : Int32) (q7 : Int64) (q8 q9 : Int32) (q10 : Int64) (squares : Int32) : Int32 → QS → Prop := fun r u => u = (q0, q1, q2, q3, q4, q5, q6, q7, q8, q9, q10) ∧ r = qIn q5 q7 squares
set_option maxHeartbeats 4000000 in
set_option maxRecDepth 100000 in
theorem c_X0_inCommon (l : Launch) (g : zG) (bL h : Nat) (q0 q1 q2 q3 q4 q5 q6 : Int32) (q7 : Int64) (q8 q9 : Int32) (q10 : Int64) (squares : Int32)  : zM l yX0_inCommon wsX0_inCommon 1 40 g [.ref h, .int squares] (oQ h (q0, q1, q2, q3, q4, q5, q6, q7, q8, q9, q10)) (zEL bL) (zQi g (P_X0_inCommon q0 q1 q2 q3 q4 q5 q6 q7 q8 q9 q10 squares) (oQ h)) := by
  refine zstart (cc := cX0_inCommon) (maxL := 6) (ret := (some .int)) (own := RX0) rfl (by decide) rfl zStL (Nat.le_of_ble_eq_true rfl) ?_
  intro p e s m below meth c A Z hr hlk H locs X ls hl
  have hx := Z.1.1
  have hb := Z.1.2.1
  have hin : ∀ w ∈ wsX00, w ∈ wsX0_inCommon := inw_X0_inCommon
  have hl : lv_has ls 6 [(0, .ref h), (1, .int squares)] := hl
  have X : zh g A (oQ h (q0, q1, q2, q3, q4, q5, q6, q7, q8, q9, q10)) s.heap H locs := X
  refine lv_iload_n hx hb dX0_inCommon_0 rfl (lv_at hl 1 rfl) ?_
  refine lv_aload_n hx hb dX0_inCommon_1 rfl (lv_at hl 0 rfl) ?_
  refine zget (fs := [.int q0, .int q1, .int q2, .int q3, .int q4, .int q5, .int q6, .long q7, .int q8, .int q9, .long q10]) (v := .int q5) Z hin X (ci := 0) (C := RX0) (T := TX0) (N := 11) rfl rfl 5 (by decide) lk_X0_inCommon_16 rfl dX0_inCommon_2 ?_
  refine lv_iand hx hb dX0_inCommon_5 ?_
  refine lv_topi (fun x1 ex1 => ?_)
  refine lv_istore_n (lv' := [(2, .int x1), (0, .ref h), (1, .int squares)]) hx hb dX0_inCommon_6 rfl hl (by decide) rfl (fun ls hl => ?_)
  refine lv_iconst (v := (0 : Int32)) hx hb dX0_inCommon_7 (by decide) ?_
  refine lv_istore_n (lv' := [(3, .int (0 : Int32)), (2, .int x1), (0, .ref h), (1, .int squares)]) hx hb dX0_inCommon_8 rfl hl (by decide) rfl (fun ls hl => ?_)
  refine lv_iconst (v := (0 : Int32)) hx hb dX0_inCommon_9 (by decide) ?_
  refine lv_istore (lv' := [(4, .int (0 : Int32)), (3, .int (0 : Int32)), (2, .int x1), (0, .ref h), (1, .int squares)]) hx hb dX0_inCommon_10 hl (by decide) rfl (fun ls hl => ?_)
  have cut12 : ∀ (n12 : Nat), ∀ (k : Nat) (th : Int32) (acc : Int32), (k ≤ 4) → (th = squares &&& q5) → (acc = qCom q7 th k) → (5 - k ≤ n12) → ∀ (H : Heap) (locs : List Loc) (ls : Array Slot), zh g A (oQ h (q0, q1, q2, q3, q4, q5, q6, q7, q8, q9, q10)) s.heap H locs → lv_has ls 6 [(4, .int (nI k)), (3, .int acc), (2, .int th), (0, .ref h), (1, .int squares)] → W p l e { frames := 1, cells := 0, slots := 0, locals := 40 } s m ([.ref h, .int squares] : List Value).toArray below meth c H locs 0 0 (MQ below ((zQi g (P_X0_inCommon q0 q1 q2 q3 q4 q5 q6 q7 q8 q9 q10 squares) (oQ h)) A) ([.ref h, .int squares] : List Value).toArray s 0 0 A) (F0 m 12 ls []) := by
    intro n12
    induction n12 with
    | zero =>
      intro k th acc hk hth hacc hm12
      exact absurd hm12 (by omega)
    | succ n12 ih12 =>
      intro k th acc hk hth hacc hm12 H locs ls X hl
      refine lv_iload hx hb dX0_inCommon_12 (lv_at hl 0 rfl) ?_
      refine lv_iconst (v := (4 : Int32)) hx hb dX0_inCommon_14 (by decide) ?_
      refine lv_icmp_ge (tgt := 64) hx hb dX0_inCommon_15 (by decide) (fun c2 => ?_) (fun c2 => ?_)
      · have qc2 := c2
        have c2n : 4 ≤ k := zn_let (by omega) (by omega) c2
        refine lv_iload_n hx hb dX0_inCommon_64 rfl (lv_at hl 1 rfl) ?_
        exact zreti Z hr hlk (q0, q1, q2, q3, q4, q5, q6, q7, q8, q9, q10) X dX0_inCommon_65 rfl (⟨rfl, by rw [hacc, hth, show k = 4 by omega]; rfl⟩)
      · have qc2 := c2
        have c2n : ¬ 4 ≤ k := zn_len (by omega) (by omega) c2
        refine lv_aload_n hx hb dX0_inCommon_18 rfl (lv_at hl 3 rfl) ?_
        refine zget (fs := [.int q0, .int q1, .int q2, .int q3, .int q4, .int q5, .int q6, .long q7, .int q8, .int q9, .long q10]) (v := .long q7) Z hin X (ci := 0) (C := RX0) (T := TX0) (N := 11) rfl rfl 7 (by decide) lk_X0_inCommon_38 rfl dX0_inCommon_19 ?_
        refine lv_iload hx hb dX0_inCommon_22 (lv_at hl 0 rfl) ?_
        refine zcallSi (n := 2) (As := [.long q7, .int (nI k)]) (rest := []) Z X (c_X0_withOne l g q7 (nI k)) gX0_inCommon_X0_withOne rfl (by decide +kernel) ⟨Nat.le_of_ble_eq_true rfl, Nat.le_of_ble_eq_true rfl⟩ rfl rfl hl.1 (Nat.le_of_ble_eq_true rfl) dX0_inCommon_24 ⟨Nat.zero_le _, Nat.zero_le _⟩ (fun r2 H locs hrr2 X => ?_)
        obtain rfl : r2 = qOne q7 (nI k) := hrr2
        refine lv_iload_n hx hb dX0_inCommon_27 rfl (lv_at hl 2 rfl) ?_
        refine lv_iand hx hb dX0_inCommon_28 ?_
        refine lv_topi (fun x4 ex4 => ?_)
        refine lv_istore (lv' := [(5, .int x4), (4, .int (nI k)), (3, .int acc), (2, .int th), (0, .ref h), (1, .int squares)]) hx hb dX0_inCommon_29 hl (by decide) rfl (fun ls hl => ?_)
        refine lv_iload hx hb dX0_inCommon_31 (lv_at hl 0 rfl) ?_
        refine lv_iload_n hx hb dX0_inCommon_33 rfl (lv_at hl 3 rfl) ?_
        refine lv_icmp_ne (tgt := 44) hx hb dX0_inCommon_34 (by decide) (fun c5 => ?_) (fun c5 => ?_)
        · have qc5 := c5
          refine lv_iload hx hb dX0_inCommon_44 (lv_at hl 0 rfl) ?_
          refine lv_if_ne (tgt := 58) hx hb dX0_inCommon_46 (by decide) (fun c6 => ?_) (fun c6 => ?_)
          · have qc6 := c6
            refine lv_iinc (v := nI (k + 1)) (lv' := [(4, .int (nI (k + 1))), (5, .int x4), (3, .int acc), (2, .int th), (0, .ref h), (1, .int squares)]) hx hb dX0_inCommon_58 hl (k := 1) rfl (zi_inc k) (by decide) rfl (fun ls hl => ?_)
            refine lv_goto (tgt := 12) hx hb dX0_inCommon_61 (by decide) ?_
            exact ih12 (k + 1) th acc (by first | assumption | omega) (by first | assumption | omega) (by subst ex4; rw [hacc]; simp only [qCom]; (repeat' split) <;> first | rfl | contradiction) (by omega) H locs ls X (lv_sub hl [0, 2, 3, 4, 5] rfl)
          · have qc6 := c6
            refine lv_iload_n hx hb dX0_inCommon_49 rfl (lv_at hl 2 rfl) ?_
            refine lv_iconst (v := (1 : Int32)) hx hb dX0_inCommon_50 (by decide) ?_
            refine lv_iload hx hb dX0_inCommon_51 (lv_at hl 1 rfl) ?_
            refine lv_iconst (v := (4 : Int32)) hx hb dX0_inCommon_53 (by decide) ?_
            refine lv_iadd hx hb dX0_inCommon_54 ?_
            refine lv_ishl hx hb dX0_inCommon_55 ?_
            refine lv_ior hx hb dX0_inCommon_56 ?_
            refine lv_topi (fun x7 ex7 => ?_)
            refine lv_istore_n (lv' := [(3, .int x7), (5, .int x4), (4, .int (nI k)), (2, .int th), (0, .ref h), (1, .int squares)]) hx hb dX0_inCommon_57 rfl hl (by decide) rfl (fun ls hl => ?_)
            refine lv_iinc (v := nI (k + 1)) (lv' := [(4, .int (nI (k + 1))), (3, .int x7), (5, .int x4), (2, .int th), (0, .ref h), (1, .int squares)]) hx hb dX0_inCommon_58 hl (k := 2) rfl (zi_inc k) (by decide) rfl (fun ls hl => ?_)
            refine lv_goto (tgt := 12) hx hb dX0_inCommon_61 (by decide) ?_
            exact ih12 (k + 1) th x7 (by first | assumption | omega) (by first | assumption | omega) (by subst ex7; subst ex4; rw [hacc]; simp only [qCom]; (repeat' split) <;> first | rfl | contradiction) (by omega) H locs ls X (lv_sub hl [0, 1, 3, 4, 5] rfl)
        · have qc5 := c5
          refine lv_iload_n hx hb dX0_inCommon_37 rfl (lv_at hl 2 rfl) ?_
          refine lv_iconst (v := (1 : Int32)) hx hb dX0_inCommon_38 (by decide) ?_
          refine lv_iload hx hb dX0_inCommon_39 (lv_at hl 1 rfl) ?_
          refine lv_ishl hx hb dX0_inCommon_41 ?_
          refine lv_ior hx hb dX0_inCommon_42 ?_
          refine lv_topi (fun x8 ex8 => ?_)
          refine lv_istore_n (lv' := [(3, .int x8), (5, .int x4), (4, .int (nI k)), (2, .int th), (0, .ref h), (1, .int squares)]) hx hb dX0_inCommon_43 rfl hl (by decide) rfl (fun ls hl => ?_)
          refine lv_iload hx hb dX0_inCommon_44 (lv_at hl 1 rfl) ?_
          refine lv_if_ne (tgt := 58) hx hb dX0_inCommon_46 (by decide) (fun c9 => ?_) (fun c9 => ?_)
          · have qc9 := c9
            refine lv_iinc (v := nI (k + 1)) (lv' := [(4, .int (nI (k + 1))), (3, .int x8), (5, .int x4), (2, .int th), (0, .ref h), (1, .int squares)]) hx hb dX0_inCommon_58 hl (k := 2) rfl (zi_inc k) (by decide) rfl (fun ls hl => ?_)
            refine lv_goto (tgt := 12) hx hb dX0_inCommon_61 (by decide) ?_
            exact ih12 (k + 1) th x8 (by first | assumption | omega) (by first | assumption | omega) (by subst ex8; subst ex4; rw [hacc]; simp only [qCom]; (repeat' split) <;> first | rfl | contradiction) (by omega) H locs ls X (lv_sub hl [0, 1, 3, 4, 5] rfl)
          · have qc9 := c9
            refine lv_iload_n hx hb dX0_inCommon_49 rfl (lv_at hl 0 rfl) ?_
            refine lv_iconst (v := (1 : Int32)) hx hb dX0_inCommon_50 (by decide) ?_
            refine lv_iload hx hb dX0_inCommon_51 (lv_at hl 2 rfl) ?_
            refine lv_iconst (v := (4 : Int32)) hx hb dX0_inCommon_53 (by decide) ?_
            refine lv_iadd hx hb dX0_inCommon_54 ?_
            refine lv_ishl hx hb dX0_inCommon_55 ?_
            refine lv_ior hx hb dX0_inCommon_56 ?_
            refine lv_topi (fun x10 ex10 => ?_)
            refine lv_istore_n (lv' := [(3, .int x10), (5, .int x4), (4, .int (nI k)), (2, .int th), (0, .ref h), (1, .int squares)]) hx hb dX0_inCommon_57 rfl hl (by decide) rfl (fun ls hl => ?_)
            refine lv_iinc (v := nI (k + 1)) (lv' := [(4, .int (nI (k + 1))), (3, .int x10), (5, .int x4), (2, .int th), (0, .ref h), (1, .int squares)]) hx hb dX0_inCommon_58 hl (k := 2) rfl (zi_inc k) (by decide) rfl (fun ls hl => ?_)
            refine lv_goto (tgt := 12) hx hb dX0_inCommon_61 (by decide) ?_
            exact ih12 (k + 1) th x10 (by first | assumption | omega) (by first | assumption | omega) (by subst ex10; subst ex8; subst ex4; rw [hacc]; simp only [qCom]; (repeat' split) <;> first | rfl | contradiction) (by omega) H locs ls X (lv_sub hl [0, 1, 3, 4, 5] rfl)
  exact cut12 5 0 x1 0 (by first | assumption | omega) (by assumption) (rfl) (by omega) H locs ls X (lv_sub hl [0, 1, 2, 3, 4] rfl)
end
section
/-! the class: lines, what wins, what is safe -/
def qU (x s : Int32) : Int32 := (x.toUInt32 >>> (s.toUInt32 &&& Int32.toUInt32 31)).toInt32
def qB1 (x : Int32) : Int32 := x - (qU x 1 &&& 1431655765)
def qB2 (a : Int32) : Int32 := (a &&& 858993459) + (qU a 2 &&& 858993459)
def qB3 (b : Int32) : Int32 := (b + qU b 4) &&& 252645135
def qB4 (c : Int32) : Int32 := c + qU c 8
def qB5 (d : Int32) : Int32 := d + qU d 16
def qBc (x : Int32) : Int32 := qB5 (qB4 (qB3 (qB2 (qB1 x)))) &&& 63
def qLn (w : Int32) : Nat := if w = 0 then 10 else 19
theorem qLn_le (w : Int32) : 10 ≤ qLn w ∧ qLn w ≤ 19 := by unfold qLn; split <;> decide
def qWonC (f : Int32) (d : Int64) : Nat → Nat
  | 0 => 0
  | k + 1 => if LM k &&& (f ^^^ (-1 : Int32)) = 0 ∧ ¬ qIn f d (LM k) = 0 then qWonC f d k + 1 else qWonC f d k
theorem qWonC_le (f : Int32) (d : Int64) : ∀ k, qWonC f d k ≤ k
  | 0 => Nat.le_refl 0
  | k + 1 => by
    have := qWonC_le f d k
    unfold qWonC
    split <;> omega
def qWon (f : Int32) (d : Int64) (w : Int32) : Nat := qWonC f d (qLn w)
def qLacks (f squares : Int32) : Bool := decide (¬ squares &&& (f ^^^ (-1 : Int32)) = 0) && decide ((squares &&& (f ^^^ (-1 : Int32))) &&& ((squares &&& (f ^^^ (-1 : Int32))) - 1) = 0)
def qWinS (f : Int32) (d : Int64) (ow : Int32) : Nat → Int32
  | 0 => 0
  | k + 1 => if qLacks f (LM k) = true ∧ ¬ qIn f d (LM k) &&& ow = 0 then qWinS f d ow k ||| (LM k &&& (f ^^^ (-1 : Int32))) else qWinS f d ow k
def qWin (f : Int32) (d : Int64) (w p : Int32) : Int32 := qWinS f d (qOwn p) (qLn w)
def qWinDC (f : Int32) (d : Int64) : Nat → Int32
  | 0 => 0
  | k + 1 => if qLacks f (LM k) = true then qWinDC f d k ||| qIn f d (LM k) else qWinDC f d k
def qWinD (f : Int32) (d : Int64) (w : Int32) : Int32 := qWinDC f d (qLn w)
def qSafeC (used win : Int32) : Nat → Int32
  | 0 => 0
  | k + 1 => if qHas used (nI k) = false ∧ qOwn (nI k) &&& win = 0 then qSafeC used win k ||| qBit (nI k) else qSafeC used win k
def qSafe (f used : Int32) (d : Int64) (w : Int32) : Int32 := qSafeC used (qWinD f d w) 16
theorem zn43 : ¬ (4 : Int32) = 3 := by decide
theorem zn34 : ¬ (3 : Int32) = 4 := by decide
def qCan (f st p : Int32) : Bool := decide (¬ (p = 3 ∧ ¬ 16 - qBc f ≤ 8)) && decide (¬ (p = 4 ∧ ¬ 16 - qBc f ≤ 6)) && decide (¬ st = 2)
def P_J6_bitCount_0f7a4 (n : Int32) : Int32 → Unit → Prop := fun r _ => r = qBc n
set_option maxHeartbeats 4000000 in
set_option maxRecDepth 100000 in
theorem c_J6_bitCount_0f7a4 (l : Launch) (g : zG) (n : Int32)  : zM l yJ6_bitCount_0f7a4 wsJ6_bitCount_0f7a4 0 0 g [.int n] ([]) zE0 (zQi g (P_J6_bitCount_0f7a4 n) (fun _ : Unit => [])) := by
  refine zstart (cc := cJ6_bitCount_0f7a4) (maxL := 1) (ret := (some .int)) (own := RJ6) rfl (by decide) rfl zSt0 (Nat.le_of_ble_eq_true rfl) ?_
  intro p e s m below meth c A Z hr hlk H locs X ls hl
  have hx := Z.1.1
  have hb := Z.1.2.1
  have hl : lv_has ls 1 [(0, .int n)] := hl
  have X : zh g A ([]) s.heap H locs := X
  refine lv_iload_n hx hb dJ6_bitCount_0f7a4_0 rfl (lv_at hl 0 rfl) ?_
  refine lv_iload_n hx hb dJ6_bitCount_0f7a4_1 rfl (lv_at hl 0 rfl) ?_
  refine lv_iconst (v := (1 : Int32)) hx hb dJ6_bitCount_0f7a4_2 (by decide) ?_
  refine lv_iushr hx hb dJ6_bitCount_0f7a4_3 rfl ?_
  refine lv_ldcw (v := (1431655765 : Int32)) hx hb Z.1.2.2.2.1 (Z.1.2.2.2.2 (.constant RJ6 265 (1431655765)) (by decide +kernel)) dJ6_bitCount_0f7a4_4 ?_
  refine lv_iand hx hb dJ6_bitCount_0f7a4_7 ?_
  refine lv_isub hx hb dJ6_bitCount_0f7a4_8 ?_
  refine lv_topi (fun x1 ex1 => ?_)
  refine lv_istore_n (lv' := [(0, .int x1)]) hx hb dJ6_bitCount_0f7a4_9 rfl hl (by decide) rfl (fun ls hl => ?_)
  refine lv_iload_n hx hb dJ6_bitCount_0f7a4_10 rfl (lv_at hl 0 rfl) ?_
  refine lv_ldcw (v := (858993459 : Int32)) hx hb Z.1.2.2.2.1 (Z.1.2.2.2.2 (.constant RJ6 266 (858993459)) (by decide +kernel)) dJ6_bitCount_0f7a4_11 ?_
  refine lv_iand hx hb dJ6_bitCount_0f7a4_14 ?_
  refine lv_iload_n hx hb dJ6_bitCount_0f7a4_15 rfl (lv_at hl 0 rfl) ?_
  refine lv_iconst (v := (2 : Int32)) hx hb dJ6_bitCount_0f7a4_16 (by decide) ?_
  refine lv_iushr hx hb dJ6_bitCount_0f7a4_17 rfl ?_
  refine lv_ldcw (v := (858993459 : Int32)) hx hb Z.1.2.2.2.1 (Z.1.2.2.2.2 (.constant RJ6 266 (858993459)) (by decide +kernel)) dJ6_bitCount_0f7a4_18 ?_
  refine lv_iand hx hb dJ6_bitCount_0f7a4_21 ?_
  refine lv_iadd hx hb dJ6_bitCount_0f7a4_22 ?_
  refine lv_topi (fun x2 ex2 => ?_)
  refine lv_istore_n (lv' := [(0, .int x2)]) hx hb dJ6_bitCount_0f7a4_23 rfl hl (by decide) rfl (fun ls hl => ?_)
  refine lv_iload_n hx hb dJ6_bitCount_0f7a4_24 rfl (lv_at hl 0 rfl) ?_
  refine lv_iload_n hx hb dJ6_bitCount_0f7a4_25 rfl (lv_at hl 0 rfl) ?_
  refine lv_iconst (v := (4 : Int32)) hx hb dJ6_bitCount_0f7a4_26 (by decide) ?_
  refine lv_iushr hx hb dJ6_bitCount_0f7a4_27 rfl ?_
  refine lv_iadd hx hb dJ6_bitCount_0f7a4_28 ?_
  refine lv_ldcw (v := (252645135 : Int32)) hx hb Z.1.2.2.2.1 (Z.1.2.2.2.2 (.constant RJ6 267 (252645135)) (by decide +kernel)) dJ6_bitCount_0f7a4_29 ?_
  refine lv_iand hx hb dJ6_bitCount_0f7a4_32 ?_
  refine lv_topi (fun x3 ex3 => ?_)
  refine lv_istore_n (lv' := [(0, .int x3)]) hx hb dJ6_bitCount_0f7a4_33 rfl hl (by decide) rfl (fun ls hl => ?_)
  refine lv_iload_n hx hb dJ6_bitCount_0f7a4_34 rfl (lv_at hl 0 rfl) ?_
  refine lv_iload_n hx hb dJ6_bitCount_0f7a4_35 rfl (lv_at hl 0 rfl) ?_
  refine lv_bipush (v := (8 : Int32)) hx hb dJ6_bitCount_0f7a4_36 (by decide) ?_
  refine lv_iushr hx hb dJ6_bitCount_0f7a4_38 rfl ?_
  refine lv_iadd hx hb dJ6_bitCount_0f7a4_39 ?_
  refine lv_topi (fun x4 ex4 => ?_)
  refine lv_istore_n (lv' := [(0, .int x4)]) hx hb dJ6_bitCount_0f7a4_40 rfl hl (by decide) rfl (fun ls hl => ?_)
  refine lv_iload_n hx hb dJ6_bitCount_0f7a4_41 rfl (lv_at hl 0 rfl) ?_
  refine lv_iload_n hx hb dJ6_bitCount_0f7a4_42 rfl (lv_at hl 0 rfl) ?_
  refine lv_bipush (v := (16 : Int32)) hx hb dJ6_bitCount_0f7a4_43 (by decide) ?_
  refine lv_iushr hx hb dJ6_bitCount_0f7a4_45 rfl ?_
  refine lv_iadd hx hb dJ6_bitCount_0f7a4_46 ?_
  refine lv_topi (fun x5 ex5 => ?_)
  refine lv_istore_n (lv' := [(0, .int x5)]) hx hb dJ6_bitCount_0f7a4_47 rfl hl (by decide) rfl (fun ls hl => ?_)
  refine lv_iload_n hx hb dJ6_bitCount_0f7a4_48 rfl (lv_at hl 0 rfl) ?_
  refine lv_bipush (v := (63 : Int32)) hx hb dJ6_bitCount_0f7a4_49 (by decide) ?_
  refine lv_iand hx hb dJ6_bitCount_0f7a4_51 ?_
  exact zreti Z hr hlk () X dJ6_bitCount_0f7a4_52 rfl (by subst ex5; subst ex4; subst ex3; subst ex2; subst ex1; rfl)
theorem inw_X0_lines : ∀ w ∈ wsX00, w ∈ wsX0_lines := by decide +kernel
theorem lk_X0_lines_25 : Cond.fieldLink RX0 25 "Quarterboard" "withBlocks" "Z" ∈ wsX0_lines := by decide +kernel
theorem lk_X0_lines_83 : Cond.fieldLink RX0 83 "Quarterboard" "LINES" "[I" ∈ wsX0_lines := by decide +kernel
def P_X0_lines (q0 q1 q2 q3 q4 q5 q6 : Int32) (q7 : Int64) (q8 q9 : Int32) (q10 : Int64) : Int32 → QS → Prop := fun r u => u = (q0, q1, q2, q3, q4, q5, q6, q7, q8, q9, q10) ∧ r = nI (qLn q0)
set_option maxHeartbeats 4000000 in
set_option maxRecDepth 100000 in
theorem c_X0_lines (l : Launch) (g : zG) (bL h : Nat) (q0 q1 q2 q3 q4 q5 q6 : Int32) (q7 : Int64) (q8 q9 : Int32) (q10 : Int64)   : zM l yX0_lines wsX0_lines 0 0 g [.ref h] (oQ h (q0, q1, q2, q3, q4, q5, q6, q7, q8, q9, q10)) (zEL bL) (zQi g (P_X0_lines q0 q1 q2 q3 q4 q5 q6 q7 q8 q9 q10) (oQ h)) := by
  refine zstart (cc := cX0_lines) (maxL := 1) (ret := (some .int)) (own := RX0) rfl (by decide) rfl zStL (Nat.le_of_ble_eq_true rfl) ?_
  intro p e s m below meth c A Z hr hlk H locs X ls hl
  have hx := Z.1.1
  have hb := Z.1.2.1
  have hin : ∀ w ∈ wsX00, w ∈ wsX0_lines := inw_X0_lines
  have hl : lv_has ls 1 [(0, .ref h)] := hl
  have X : zh g A (oQ h (q0, q1, q2, q3, q4, q5, q6, q7, q8, q9, q10)) s.heap H locs := X
  refine lv_aload_n hx hb dX0_lines_0 rfl (lv_at hl 0 rfl) ?_
  refine zget (fs := [.int q0, .int q1, .int q2, .int q3, .int q4, .int q5, .int q6, .long q7, .int q8, .int q9, .long q10]) (v := .int q0) Z hin X (ci := 0) (C := RX0) (T := TX0) (N := 11) rfl rfl 0 (by decide) lk_X0_lines_25 rfl dX0_lines_1 ?_
  refine lv_if_eq (tgt := 14) hx hb dX0_lines_4 (by decide) (fun c1 => ?_) (fun c1 => ?_)
  · have qc1 := c1
    refine lv_bipush (v := (10 : Int32)) hx hb dX0_lines_14 (by decide) ?_
    exact zreti Z hr hlk (q0, q1, q2, q3, q4, q5, q6, q7, q8, q9, q10) X dX0_lines_16 rfl (⟨rfl, by first | (rw [show qLn q0 = 10 from if_pos (by assumption)]; rfl) | (rw [show qLn q0 = 19 from if_neg (by assumption)]; done)⟩)
  · have qc1 := c1
    refine va_gets hx hb Z.2.2.2.1.1 X.2.2 Z.1.2.2.2.1 (Z.1.2.2.2.2 _ lk_X0_lines_83) (fun _ h => h) dX0_lines_7 ?_
    refine va_tlen (v := nI 19) hx hb Z.2.2.2.1.2.1 X.2.2 rfl dX0_lines_10 ?_
    refine lv_goto (tgt := 16) hx hb dX0_lines_11 (by decide) ?_
    exact zreti Z hr hlk (q0, q1, q2, q3, q4, q5, q6, q7, q8, q9, q10) X dX0_lines_16 rfl (⟨rfl, by first | (rw [show qLn q0 = 10 from if_pos (by assumption)]; rfl) | (rw [show qLn q0 = 19 from if_neg (by assumption)]; done)⟩)
theorem inw_X0_lacksOne : ∀ w ∈ wsX00, w ∈ wsX0_lacksOne := by decide +kernel
theorem lk_X0_lacksOne_16 : Cond.fieldLink RX0 16 "Quarterboard" "filled" "I" ∈ wsX0_lacksOne := by decide +kernel
def P_X0_lacksOne (q0 q1 q2 q3 q4 q5 q6 : Int32) (q7 : Int64) (q8 q9 : Int32) (q10 : Int64) (squares : Int32) : Int32 → QS → Prop := fun r u => u = (q0, q1, q2, q3, q4, q5, q6, q7, q8, q9, q10) ∧ r = zb (qLacks q5 squares)
set_option maxHeartbeats 4000000 in
set_option maxRecDepth 100000 in
theorem c_X0_lacksOne (l : Launch) (g : zG) (bL h : Nat) (q0 q1 q2 q3 q4 q5 q6 : Int32) (q7 : Int64) (q8 q9 : Int32) (q10 : Int64) (squares : Int32)  : zM l yX0_lacksOne wsX0_lacksOne 0 0 g [.ref h, .int squares] (oQ h (q0, q1, q2, q3, q4, q5, q6, q7, q8, q9, q10)) (zEL bL) (zQi g (P_X0_lacksOne q0 q1 q2 q3 q4 q5 q6 q7 q8 q9 q10 squares) (oQ h)) := by
  refine zstart (cc := cX0_lacksOne) (maxL := 3) (ret := (some .boolean)) (own := RX0) rfl (by decide) rfl zStL (Nat.le_of_ble_eq_true rfl) ?_
  intro p e s m below meth c A Z hr hlk H locs X ls hl
  have hx := Z.1.1
  have hb := Z.1.2.1
  have hin : ∀ w ∈ wsX00, w ∈ wsX0_lacksOne := inw_X0_lacksOne
  have hl : lv_has ls 3 [(0, .ref h), (1, .int squares)] := hl
  have X : zh g A (oQ h (q0, q1, q2, q3, q4, q5, q6, q7, q8, q9, q10)) s.heap H locs := X
  refine lv_iload_n hx hb dX0_lacksOne_0 rfl (lv_at hl 1 rfl) ?_
  refine lv_aload_n hx hb dX0_lacksOne_1 rfl (lv_at hl 0 rfl) ?_
  refine zget (fs := [.int q0, .int q1, .int q2, .int q3, .int q4, .int q5, .int q6, .long q7, .int q8, .int q9, .long q10]) (v := .int q5) Z hin X (ci := 0) (C := RX0) (T := TX0) (N := 11) rfl rfl 5 (by decide) lk_X0_lacksOne_16 rfl dX0_lacksOne_2 ?_
  refine lv_iconst (v := (-1 : Int32)) hx hb dX0_lacksOne_5 (by decide) ?_
  refine lv_ixor hx hb dX0_lacksOne_6 ?_
  refine lv_iand hx hb dX0_lacksOne_7 ?_
  refine lv_topi (fun x1 ex1 => ?_)
  refine lv_istore_n (lv' := [(2, .int x1), (0, .ref h), (1, .int squares)]) hx hb dX0_lacksOne_8 rfl hl (by decide) rfl (fun ls hl => ?_)
  refine lv_iload_n hx hb dX0_lacksOne_9 rfl (lv_at hl 0 rfl) ?_
  refine lv_if_eq (tgt := 25) hx hb dX0_lacksOne_10 (by decide) (fun c2 => ?_) (fun c2 => ?_)
  · have qc2 := c2
    refine lv_iconst (v := (0 : Int32)) hx hb dX0_lacksOne_25 (by decide) ?_
    exact zreti Z hr hlk (q0, q1, q2, q3, q4, q5, q6, q7, q8, q9, q10) X dX0_lacksOne_26 rfl (⟨rfl, by subst ex1; simp only [qLacks, zb, c2, decide_true, decide_false, Bool.and_true, Bool.and_false, Bool.true_and, Bool.false_and, not_true_eq_false, not_false_eq_true, Bool.not_true, Bool.not_false, if_true, if_false, and_true, true_and, and_false, false_and, Bool.false_eq_true, Bool.true_eq_false, eq_self]⟩)
  · have qc2 := c2
    refine lv_iload_n hx hb dX0_lacksOne_13 rfl (lv_at hl 0 rfl) ?_
    refine lv_iload_n hx hb dX0_lacksOne_14 rfl (lv_at hl 0 rfl) ?_
    refine lv_iconst (v := (1 : Int32)) hx hb dX0_lacksOne_15 (by decide) ?_
    refine lv_isub hx hb dX0_lacksOne_16 ?_
    refine lv_iand hx hb dX0_lacksOne_17 ?_
    refine lv_if_ne (tgt := 25) hx hb dX0_lacksOne_18 (by decide) (fun c3 => ?_) (fun c3 => ?_)
    · have qc3 := c3
      refine lv_iconst (v := (0 : Int32)) hx hb dX0_lacksOne_25 (by decide) ?_
      exact zreti Z hr hlk (q0, q1, q2, q3, q4, q5, q6, q7, q8, q9, q10) X dX0_lacksOne_26 rfl (⟨rfl, by subst ex1; simp only [qLacks, zb, c2, c3, decide_true, decide_false, Bool.and_true, Bool.and_false, Bool.true_and, Bool.false_and, not_true_eq_false, not_false_eq_true, Bool.not_true, Bool.not_false, if_true, if_false, and_true, true_and, and_false, false_and, Bool.false_eq_true, Bool.true_eq_false, eq_self]⟩)
    · have qc3 := c3
      refine lv_iconst (v := (1 : Int32)) hx hb dX0_lacksOne_21 (by decide) ?_
      refine lv_goto (tgt := 26) hx hb dX0_lacksOne_22 (by decide) ?_
      exact zreti Z hr hlk (q0, q1, q2, q3, q4, q5, q6, q7, q8, q9, q10) X dX0_lacksOne_26 rfl (⟨rfl, by subst ex1; simp only [qLacks, zb, c2, c3, decide_true, decide_false, Bool.and_true, Bool.and_false, Bool.true_and, Bool.false_and, not_true_eq_false, not_false_eq_true, Bool.not_true, Bool.not_false, if_true, if_false, and_true, true_and, and_false, false_and, Bool.false_eq_true, Bool.true_eq_false, eq_self]⟩)
theorem inw_X0_wonLines : ∀ w ∈ wsX00, w ∈ wsX0_wonLines := by decide +kernel
theorem lk_X0_wonLines_83 : Cond.fieldLink RX0 83 "Quarterboard" "LINES" "[I" ∈ wsX0_wonLines := by decide +kernel
theorem lk_X0_wonLines_16 : Cond.fieldLink RX0 16 "Quarterboard" "filled" "I" ∈ wsX0_wonLines := by decide +kernel
def P_X0_wonLines (q0 q1 q2 q3 q4 q5 q6 : Int32) (q7 : Int64) (q8 q9 : Int32) (q10 : Int64) : Int32 → QS → Prop := fun r u => u = (q0, q1, q2, q3, q4, q5, q6, q7, q8, q9, q10) ∧ r = nI (qWon q5 q7 q0)
set_option maxHeartbeats 4000000 in
set_option maxRecDepth 100000 in
theorem c_X0_wonLines (l : Launch) (g : zG) (bL h : Nat) (q0 q1 q2 q3 q4 q5 q6 : Int32) (q7 : Int64) (q8 q9 : Int32) (q10 : Int64)   : zM l yX0_wonLines wsX0_wonLines 2 80 g [.ref h] (oQ h (q0, q1, q2, q3, q4, q5, q6, q7, q8, q9, q10)) (zEL bL) (zQi g (P_X0_wonLines q0 q1 q2 q3 q4 q5 q6 q7 q8 q9 q10) (oQ h)) := by
  refine zstart (cc := cX0_wonLines) (maxL := 4) (ret := (some .int)) (own := RX0) rfl (by decide) rfl zStL (Nat.le_of_ble_eq_true rfl) ?_
  intro p e s m below meth c A Z hr hlk H locs X ls hl
  have hx := Z.1.1
  have hb := Z.1.2.1
  have hin : ∀ w ∈ wsX00, w ∈ wsX0_wonLines := inw_X0_wonLines
  have hl : lv_has ls 4 [(0, .ref h)] := hl
  have X : zh g A (oQ h (q0, q1, q2, q3, q4, q5, q6, q7, q8, q9, q10)) s.heap H locs := X
  have hln := qLn_le q0
  refine lv_iconst (v := (0 : Int32)) hx hb dX0_wonLines_0 (by decide) ?_
  refine lv_istore_n (lv' := [(1, .int (0 : Int32)), (0, .ref h)]) hx hb dX0_wonLines_1 rfl hl (by decide) rfl (fun ls hl => ?_)
  refine lv_iconst (v := (0 : Int32)) hx hb dX0_wonLines_2 (by decide) ?_
  refine lv_istore_n (lv' := [(2, .int (0 : Int32)), (1, .int (0 : Int32)), (0, .ref h)]) hx hb dX0_wonLines_3 rfl hl (by decide) rfl (fun ls hl => ?_)
  have cut4 : ∀ (n4 : Nat), ∀ (k : Nat) (n : Nat), (k ≤ qLn q0) → (n = qWonC q5 q7 k) → (qLn q0 + 1 - k ≤ n4) → ∀ (H : Heap) (locs : List Loc) (ls : Array Slot), zh g A (oQ h (q0, q1, q2, q3, q4, q5, q6, q7, q8, q9, q10)) s.heap H locs → lv_has ls 4 [(2, .int (nI k)), (1, .int (nI n)), (0, .ref h)] → W p l e { frames := 2, cells := 0, slots := 0, locals := 80 } s m ([.ref h] : List Value).toArray below meth c H locs 0 0 (MQ below ((zQi g (P_X0_wonLines q0 q1 q2 q3 q4 q5 q6 q7 q8 q9 q10) (oQ h)) A) ([.ref h] : List Value).toArray s 0 0 A) (F0 m 4 ls []) := by
    intro n4
    induction n4 with
    | zero =>
      intro k n hk hn hm4
      exact absurd hm4 (by omega)
    | succ n4 ih4 =>
      intro k n hk hn hm4 H locs ls X hl
      refine lv_iload_n hx hb dX0_wonLines_4 rfl (lv_at hl 0 rfl) ?_
      refine lv_aload_n hx hb dX0_wonLines_5 rfl (lv_at hl 2 rfl) ?_
      refine zcallVi (n := 0) (As := []) (rest := [.int (nI k)]) (ci := 0) (C := RX0) (T := TX0) (N := 11) Z X (c_X0_lines l g bL h q0 q1 q2 q3 q4 q5 q6 q7 q8 q9 q10 ) gX0_wonLines_X0_lines rfl (by decide +kernel) ⟨Nat.le_of_ble_eq_true rfl, Nat.le_of_ble_eq_true rfl⟩ rfl rfl rfl rfl hl.1 (Nat.le_of_ble_eq_true rfl) dX0_wonLines_6 ⟨Nat.zero_le _, Nat.zero_le _⟩ (fun r0 ur0 H locs hrr0 X => ?_)
      obtain ⟨rfl, rfl⟩ : ur0 = (q0, q1, q2, q3, q4, q5, q6, q7, q8, q9, q10) ∧ r0 = nI (qLn q0) := hrr0
      have X : zh g A (oQ h (q0, q1, q2, q3, q4, q5, q6, q7, q8, q9, q10)) s.heap H locs := X
      refine lv_icmp_ge (tgt := 46) hx hb dX0_wonLines_9 (by decide) (fun c2 => ?_) (fun c2 => ?_)
      · have qc2 := c2
        have c2n : (qLn q0) ≤ k := zn_let (by omega) (by omega) c2
        refine lv_iload_n hx hb dX0_wonLines_46 rfl (lv_at hl 1 rfl) ?_
        exact zreti Z hr hlk (q0, q1, q2, q3, q4, q5, q6, q7, q8, q9, q10) X dX0_wonLines_47 rfl (⟨rfl, by rw [hn, show k = qLn q0 by omega]; rfl⟩)
      · have qc2 := c2
        have c2n : ¬ (qLn q0) ≤ k := zn_len (by omega) (by omega) c2
        refine va_gets hx hb Z.2.2.2.1.1 X.2.2 Z.1.2.2.2.1 (Z.1.2.2.2.2 _ lk_X0_wonLines_83) (fun _ h => h) dX0_wonLines_12 ?_
        refine lv_iload_n hx hb dX0_wonLines_15 rfl (lv_at hl 0 rfl) ?_
        refine zlld Z X k rfl (by omega) dX0_wonLines_16 ?_
        refine lv_topi (fun x3 ex3 => ?_)
        refine lv_istore_n (lv' := [(3, .int x3), (2, .int (nI k)), (1, .int (nI n)), (0, .ref h)]) hx hb dX0_wonLines_17 rfl hl (by decide) rfl (fun ls hl => ?_)
        refine lv_iload_n hx hb dX0_wonLines_18 rfl (lv_at hl 0 rfl) ?_
        refine lv_aload_n hx hb dX0_wonLines_19 rfl (lv_at hl 3 rfl) ?_
        refine zget (fs := [.int q0, .int q1, .int q2, .int q3, .int q4, .int q5, .int q6, .long q7, .int q8, .int q9, .long q10]) (v := .int q5) Z hin X (ci := 0) (C := RX0) (T := TX0) (N := 11) rfl rfl 5 (by decide) lk_X0_wonLines_16 rfl dX0_wonLines_20 ?_
        refine lv_iconst (v := (-1 : Int32)) hx hb dX0_wonLines_23 (by decide) ?_
        refine lv_ixor hx hb dX0_wonLines_24 ?_
        refine lv_iand hx hb dX0_wonLines_25 ?_
        refine lv_if_ne (tgt := 40) hx hb dX0_wonLines_26 (by decide) (fun c4 => ?_) (fun c4 => ?_)
        · have qc4 := c4
          refine lv_iinc (v := nI (k + 1)) (lv' := [(2, .int (nI (k + 1))), (3, .int x3), (1, .int (nI n)), (0, .ref h)]) hx hb dX0_wonLines_40 hl (k := 1) rfl (zi_inc k) (by decide) rfl (fun ls hl => ?_)
          refine lv_goto (tgt := 4) hx hb dX0_wonLines_43 (by decide) ?_
          exact ih4 (k + 1) n (by first | assumption | omega) (by subst ex3; rw [hn]; simp only [qWonC, c2n, c4, decide_true, decide_false, Bool.and_true, Bool.and_false, Bool.true_and, Bool.false_and, not_true_eq_false, not_false_eq_true, Bool.not_true, Bool.not_false, if_true, if_false, and_true, true_and, and_false, false_and, Bool.false_eq_true, Bool.true_eq_false, eq_self]) (by omega) H locs ls X (lv_sub hl [0, 2, 3] rfl)
        · have qc4 := c4
          refine lv_aload_n hx hb dX0_wonLines_29 rfl (lv_at hl 3 rfl) ?_
          refine lv_iload_n hx hb dX0_wonLines_30 rfl (lv_at hl 0 rfl) ?_
          refine zcallVi (n := 1) (As := [.int x3]) (rest := []) (ci := 0) (C := RX0) (T := TX0) (N := 11) Z X (c_X0_inCommon l g bL h q0 q1 q2 q3 q4 q5 q6 q7 q8 q9 q10 x3) gX0_wonLines_X0_inCommon rfl (by decide +kernel) ⟨Nat.le_of_ble_eq_true rfl, Nat.le_of_ble_eq_true rfl⟩ rfl rfl rfl rfl hl.1 (Nat.le_of_ble_eq_true rfl) dX0_wonLines_31 ⟨Nat.zero_le _, Nat.zero_le _⟩ (fun r4 ur4 H locs hrr4 X => ?_)
          obtain ⟨rfl, rfl⟩ : ur4 = (q0, q1, q2, q3, q4, q5, q6, q7, q8, q9, q10) ∧ r4 = qIn q5 q7 x3 := hrr4
          have X : zh g A (oQ h (q0, q1, q2, q3, q4, q5, q6, q7, q8, q9, q10)) s.heap H locs := X
          refine lv_if_eq (tgt := 40) hx hb dX0_wonLines_34 (by decide) (fun c6 => ?_) (fun c6 => ?_)
          · have qc6 := c6
            refine lv_iinc (v := nI (k + 1)) (lv' := [(2, .int (nI (k + 1))), (3, .int x3), (1, .int (nI n)), (0, .ref h)]) hx hb dX0_wonLines_40 hl (k := 1) rfl (zi_inc k) (by decide) rfl (fun ls hl => ?_)
            refine lv_goto (tgt := 4) hx hb dX0_wonLines_43 (by decide) ?_
            exact ih4 (k + 1) n (by first | assumption | omega) (by subst ex3; rw [hn]; simp only [qWonC, c2n, c4, c6, decide_true, decide_false, Bool.and_true, Bool.and_false, Bool.true_and, Bool.false_and, not_true_eq_false, not_false_eq_true, Bool.not_true, Bool.not_false, if_true, if_false, and_true, true_and, and_false, false_and, Bool.false_eq_true, Bool.true_eq_false, eq_self]) (by omega) H locs ls X (lv_sub hl [0, 2, 3] rfl)
          · have qc6 := c6
            refine lv_iinc (v := nI (n + 1)) (lv' := [(1, .int (nI (n + 1))), (3, .int x3), (2, .int (nI k)), (0, .ref h)]) hx hb dX0_wonLines_37 hl (k := 2) rfl (zi_inc n) (by decide) rfl (fun ls hl => ?_)
            refine lv_iinc (v := nI (k + 1)) (lv' := [(2, .int (nI (k + 1))), (1, .int (nI (n + 1))), (3, .int x3), (0, .ref h)]) hx hb dX0_wonLines_40 hl (k := 2) rfl (zi_inc k) (by decide) rfl (fun ls hl => ?_)
            refine lv_goto (tgt := 4) hx hb dX0_wonLines_43 (by decide) ?_
            exact ih4 (k + 1) (n + 1) (by first | assumption | omega) (by subst ex3; rw [hn]; simp only [qWonC, c2n, c4, c6, decide_true, decide_false, Bool.and_true, Bool.and_false, Bool.true_and, Bool.false_and, not_true_eq_false, not_false_eq_true, Bool.not_true, Bool.not_false, if_true, if_false, and_true, true_and, and_false, false_and, Bool.false_eq_true, Bool.true_eq_false, eq_self]) (by omega) H locs ls X (lv_sub hl [0, 1, 3] rfl)
  exact cut4 (qLn q0 + 1) 0 0 (by first | assumption | omega) (rfl) (by omega) H locs ls X (lv_sub hl [0, 1, 2] rfl)
theorem inw_X0_winningSquares : ∀ w ∈ wsX00, w ∈ wsX0_winningSquares := by decide +kernel
theorem lk_X0_winningSquares_83 : Cond.fieldLink RX0 83 "Quarterboard" "LINES" "[I" ∈ wsX0_winningSquares := by decide +kernel
theorem lk_X0_winningSquares_16 : Cond.fieldLink RX0 16 "Quarterboard" "filled" "I" ∈ wsX0_winningSquares := by decide +kernel
def P_X0_winningSquares (q0 q1 q2 q3 q4 q5 q6 : Int32) (q7 : Int64) (q8 q9 : Int32) (q10 : Int64) (pc : Int32) : Int32 → QS → Prop := fun r u => u = (q0, q1, q2, q3, q4, q5, q6, q7, q8, q9, q10) ∧ r = qWin q5 q7 q0 pc
set_option maxHeartbeats 4000000 in
set_option maxRecDepth 100000 in
theorem c_X0_winningSquares (l : Launch) (g : zG) (bL h : Nat) (q0 q1 q2 q3 q4 q5 q6 : Int32) (q7 : Int64) (q8 q9 : Int32) (q10 : Int64) (pc : Int32)  : zM l yX0_winningSquares wsX0_winningSquares 2 80 g [.ref h, .int pc] (oQ h (q0, q1, q2, q3, q4, q5, q6, q7, q8, q9, q10)) (zEL bL) (zQi g (P_X0_winningSquares q0 q1 q2 q3 q4 q5 q6 q7 q8 q9 q10 pc) (oQ h)) := by
  refine zstart (cc := cX0_winningSquares) (maxL := 6) (ret := (some .int)) (own := RX0) rfl (by decide) rfl zStL (Nat.le_of_ble_eq_true rfl) ?_
  intro p e s m below meth c A Z hr hlk H locs X ls hl
  have hx := Z.1.1
  have hb := Z.1.2.1
  have hin : ∀ w ∈ wsX00, w ∈ wsX0_winningSquares := inw_X0_winningSquares
  have hl : lv_has ls 6 [(0, .ref h), (1, .int pc)] := hl
  have X : zh g A (oQ h (q0, q1, q2, q3, q4, q5, q6, q7, q8, q9, q10)) s.heap H locs := X
  have hln := qLn_le q0
  refine lv_iload_n hx hb dX0_winningSquares_0 rfl (lv_at hl 1 rfl) ?_
  refine zcallSi (n := 1) (As := [.int pc]) (rest := []) Z X (c_X0_ownDigits l g pc) gX0_winningSquares_X0_ownDigits rfl (by decide +kernel) ⟨Nat.le_of_ble_eq_true rfl, Nat.le_of_ble_eq_true rfl⟩ rfl rfl hl.1 (Nat.le_of_ble_eq_true rfl) dX0_winningSquares_1 ⟨Nat.zero_le _, Nat.zero_le _⟩ (fun r0 H locs hrr0 X => ?_)
  obtain rfl : r0 = qOwn pc := hrr0
  refine lv_topi (fun x2 ex2 => ?_)
  refine lv_istore_n (lv' := [(2, .int x2), (0, .ref h), (1, .int pc)]) hx hb dX0_winningSquares_4 rfl hl (by decide) rfl (fun ls hl => ?_)
  refine lv_iconst (v := (0 : Int32)) hx hb dX0_winningSquares_5 (by decide) ?_
  refine lv_istore_n (lv' := [(3, .int (0 : Int32)), (2, .int x2), (0, .ref h), (1, .int pc)]) hx hb dX0_winningSquares_6 rfl hl (by decide) rfl (fun ls hl => ?_)
  refine lv_iconst (v := (0 : Int32)) hx hb dX0_winningSquares_7 (by decide) ?_
  refine lv_istore (lv' := [(4, .int (0 : Int32)), (3, .int (0 : Int32)), (2, .int x2), (0, .ref h), (1, .int pc)]) hx hb dX0_winningSquares_8 hl (by decide) rfl (fun ls hl => ?_)
  have cut10 : ∀ (n10 : Nat), ∀ (k : Nat) (acc : Int32) (ow : Int32), (k ≤ qLn q0) → (ow = qOwn pc) → (acc = qWinS q5 q7 ow k) → (qLn q0 + 1 - k ≤ n10) → ∀ (H : Heap) (locs : List Loc) (ls : Array Slot), zh g A (oQ h (q0, q1, q2, q3, q4, q5, q6, q7, q8, q9, q10)) s.heap H locs → lv_has ls 6 [(4, .int (nI k)), (3, .int acc), (2, .int ow), (0, .ref h), (1, .int pc)] → W p l e { frames := 2, cells := 0, slots := 0, locals := 80 } s m ([.ref h, .int pc] : List Value).toArray below meth c H locs 0 0 (MQ below ((zQi g (P_X0_winningSquares q0 q1 q2 q3 q4 q5 q6 q7 q8 q9 q10 pc) (oQ h)) A) ([.ref h, .int pc] : List Value).toArray s 0 0 A) (F0 m 10 ls []) := by
    intro n10
    induction n10 with
    | zero =>
      intro k acc ow hk how hacc hm10
      exact absurd hm10 (by omega)
    | succ n10 ih10 =>
      intro k acc ow hk how hacc hm10 H locs ls X hl
      refine lv_iload hx hb dX0_winningSquares_10 (lv_at hl 0 rfl) ?_
      refine lv_aload_n hx hb dX0_winningSquares_12 rfl (lv_at hl 3 rfl) ?_
      refine zcallVi (n := 0) (As := []) (rest := [.int (nI k)]) (ci := 0) (C := RX0) (T := TX0) (N := 11) Z X (c_X0_lines l g bL h q0 q1 q2 q3 q4 q5 q6 q7 q8 q9 q10 ) gX0_winningSquares_X0_lines rfl (by decide +kernel) ⟨Nat.le_of_ble_eq_true rfl, Nat.le_of_ble_eq_true rfl⟩ rfl rfl rfl rfl hl.1 (Nat.le_of_ble_eq_true rfl) dX0_winningSquares_13 ⟨Nat.zero_le _, Nat.zero_le _⟩ (fun r2 ur2 H locs hrr2 X => ?_)
      obtain ⟨rfl, rfl⟩ : ur2 = (q0, q1, q2, q3, q4, q5, q6, q7, q8, q9, q10) ∧ r2 = nI (qLn q0) := hrr2
      have X : zh g A (oQ h (q0, q1, q2, q3, q4, q5, q6, q7, q8, q9, q10)) s.heap H locs := X
      refine lv_icmp_ge (tgt := 65) hx hb dX0_winningSquares_16 (by decide) (fun c4 => ?_) (fun c4 => ?_)
      · have qc4 := c4
        have c4n : (qLn q0) ≤ k := zn_let (by omega) (by omega) c4
        refine lv_iload_n hx hb dX0_winningSquares_65 rfl (lv_at hl 1 rfl) ?_
        exact zreti Z hr hlk (q0, q1, q2, q3, q4, q5, q6, q7, q8, q9, q10) X dX0_winningSquares_66 rfl (⟨rfl, by rw [hacc, how, show k = qLn q0 by omega]; rfl⟩)
      · have qc4 := c4
        have c4n : ¬ (qLn q0) ≤ k := zn_len (by omega) (by omega) c4
        refine va_gets hx hb Z.2.2.2.1.1 X.2.2 Z.1.2.2.2.1 (Z.1.2.2.2.2 _ lk_X0_winningSquares_83) (fun _ h => h) dX0_winningSquares_19 ?_
        refine lv_iload hx hb dX0_winningSquares_22 (lv_at hl 0 rfl) ?_
        refine zlld Z X k rfl (by omega) dX0_winningSquares_24 ?_
        refine lv_topi (fun x5 ex5 => ?_)
        refine lv_istore (lv' := [(5, .int x5), (4, .int (nI k)), (3, .int acc), (2, .int ow), (0, .ref h), (1, .int pc)]) hx hb dX0_winningSquares_25 hl (by decide) rfl (fun ls hl => ?_)
        refine lv_aload_n hx hb dX0_winningSquares_27 rfl (lv_at hl 4 rfl) ?_
        refine lv_iload hx hb dX0_winningSquares_28 (lv_at hl 0 rfl) ?_
        refine zcallVi (n := 1) (As := [.int x5]) (rest := []) (ci := 0) (C := RX0) (T := TX0) (N := 11) Z X (c_X0_lacksOne l g bL h q0 q1 q2 q3 q4 q5 q6 q7 q8 q9 q10 x5) gX0_winningSquares_X0_lacksOne rfl (by decide +kernel) ⟨Nat.le_of_ble_eq_true rfl, Nat.le_of_ble_eq_true rfl⟩ rfl rfl rfl rfl hl.1 (Nat.le_of_ble_eq_true rfl) dX0_winningSquares_30 ⟨Nat.zero_le _, Nat.zero_le _⟩ (fun r5 ur5 H locs hrr5 X => ?_)
        obtain ⟨rfl, rfl⟩ : ur5 = (q0, q1, q2, q3, q4, q5, q6, q7, q8, q9, q10) ∧ r5 = zb (qLacks q5 x5) := hrr5
        have X : zh g A (oQ h (q0, q1, q2, q3, q4, q5, q6, q7, q8, q9, q10)) s.heap H locs := X
        refine lv_if_eq (tgt := 59) hx hb dX0_winningSquares_33 (by decide) (fun c7 => ?_) (fun c7 => ?_)
        · have qc7 := c7
          have hc7 := zb_0.mp c7
          refine lv_iinc (v := nI (k + 1)) (lv' := [(4, .int (nI (k + 1))), (5, .int x5), (3, .int acc), (2, .int ow), (0, .ref h), (1, .int pc)]) hx hb dX0_winningSquares_59 hl (k := 1) rfl (zi_inc k) (by decide) rfl (fun ls hl => ?_)
          refine lv_goto (tgt := 10) hx hb dX0_winningSquares_62 (by decide) ?_
          exact ih10 (k + 1) acc ow (by first | assumption | omega) (by first | assumption | omega) (by subst ex5; rw [hacc]; simp only [qWinS, c4n, hc7, decide_true, decide_false, Bool.and_true, Bool.and_false, Bool.true_and, Bool.false_and, not_true_eq_false, not_false_eq_true, Bool.not_true, Bool.not_false, if_true, if_false, and_true, true_and, and_false, false_and, Bool.false_eq_true, Bool.true_eq_false, eq_self]) (by omega) H locs ls X (lv_sub hl [0, 2, 3, 4, 5] rfl)
        · have qc7 := c7
          have hc7 := zb_n0.mp c7
          refine lv_aload_n hx hb dX0_winningSquares_36 rfl (lv_at hl 4 rfl) ?_
          refine lv_iload hx hb dX0_winningSquares_37 (lv_at hl 0 rfl) ?_
          refine zcallVi (n := 1) (As := [.int x5]) (rest := []) (ci := 0) (C := RX0) (T := TX0) (N := 11) Z X (c_X0_inCommon l g bL h q0 q1 q2 q3 q4 q5 q6 q7 q8 q9 q10 x5) gX0_winningSquares_X0_inCommon rfl (by decide +kernel) ⟨Nat.le_of_ble_eq_true rfl, Nat.le_of_ble_eq_true rfl⟩ rfl rfl rfl rfl hl.1 (Nat.le_of_ble_eq_true rfl) dX0_winningSquares_39 ⟨Nat.zero_le _, Nat.zero_le _⟩ (fun r7 ur7 H locs hrr7 X => ?_)
          obtain ⟨rfl, rfl⟩ : ur7 = (q0, q1, q2, q3, q4, q5, q6, q7, q8, q9, q10) ∧ r7 = qIn q5 q7 x5 := hrr7
          have X : zh g A (oQ h (q0, q1, q2, q3, q4, q5, q6, q7, q8, q9, q10)) s.heap H locs := X
          refine lv_iload_n hx hb dX0_winningSquares_42 rfl (lv_at hl 3 rfl) ?_
          refine lv_iand hx hb dX0_winningSquares_43 ?_
          refine lv_if_eq (tgt := 59) hx hb dX0_winningSquares_44 (by decide) (fun c9 => ?_) (fun c9 => ?_)
          · have qc9 := c9
            refine lv_iinc (v := nI (k + 1)) (lv' := [(4, .int (nI (k + 1))), (5, .int x5), (3, .int acc), (2, .int ow), (0, .ref h), (1, .int pc)]) hx hb dX0_winningSquares_59 hl (k := 1) rfl (zi_inc k) (by decide) rfl (fun ls hl => ?_)
            refine lv_goto (tgt := 10) hx hb dX0_winningSquares_62 (by decide) ?_
            exact ih10 (k + 1) acc ow (by first | assumption | omega) (by first | assumption | omega) (by subst ex5; rw [hacc]; simp only [qWinS, c4n, hc7, c9, decide_true, decide_false, Bool.and_true, Bool.and_false, Bool.true_and, Bool.false_and, not_true_eq_false, not_false_eq_true, Bool.not_true, Bool.not_false, if_true, if_false, and_true, true_and, and_false, false_and, Bool.false_eq_true, Bool.true_eq_false, eq_self]) (by omega) H locs ls X (lv_sub hl [0, 2, 3, 4, 5] rfl)
          · have qc9 := c9
            refine lv_iload_n hx hb dX0_winningSquares_47 rfl (lv_at hl 2 rfl) ?_
            refine lv_iload hx hb dX0_winningSquares_48 (lv_at hl 0 rfl) ?_
            refine lv_aload_n hx hb dX0_winningSquares_50 rfl (lv_at hl 4 rfl) ?_
            refine zget (fs := [.int q0, .int q1, .int q2, .int q3, .int q4, .int q5, .int q6, .long q7, .int q8, .int q9, .long q10]) (v := .int q5) Z hin X (ci := 0) (C := RX0) (T := TX0) (N := 11) rfl rfl 5 (by decide) lk_X0_winningSquares_16 rfl dX0_winningSquares_51 ?_
            refine lv_iconst (v := (-1 : Int32)) hx hb dX0_winningSquares_54 (by decide) ?_
            refine lv_ixor hx hb dX0_winningSquares_55 ?_
            refine lv_iand hx hb dX0_winningSquares_56 ?_
            refine lv_ior hx hb dX0_winningSquares_57 ?_
            refine lv_topi (fun x10 ex10 => ?_)
            refine lv_istore_n (lv' := [(3, .int x10), (5, .int x5), (4, .int (nI k)), (2, .int ow), (0, .ref h), (1, .int pc)]) hx hb dX0_winningSquares_58 rfl hl (by decide) rfl (fun ls hl => ?_)
            refine lv_iinc (v := nI (k + 1)) (lv' := [(4, .int (nI (k + 1))), (3, .int x10), (5, .int x5), (2, .int ow), (0, .ref h), (1, .int pc)]) hx hb dX0_winningSquares_59 hl (k := 2) rfl (zi_inc k) (by decide) rfl (fun ls hl => ?_)
            refine lv_goto (tgt := 10) hx hb dX0_winningSquares_62 (by decide) ?_
            exact ih10 (k + 1) x10 ow (by first | assumption | omega) (by first | assumption | omega) (by subst ex10; subst ex5; rw [hacc]; simp only [qWinS, c4n, hc7, c9, decide_true, decide_false, Bool.and_true, Bool.and_false, Bool.true_and, Bool.false_and, not_true_eq_false, not_false_eq_true, Bool.not_true, Bool.not_false, if_true, if_false, and_true, true_and, and_false, false_and, Bool.false_eq_true, Bool.true_eq_false, eq_self]) (by omega) H locs ls X (lv_sub hl [0, 1, 3, 4, 5] rfl)
  exact cut10 (qLn q0 + 1) 0 0 x2 (by first | assumption | omega) (by subst ex2; rfl) (rfl) (by omega) H locs ls X (lv_sub hl [0, 1, 2, 3, 4] rfl)
theorem inw_X0_winningDigits : ∀ w ∈ wsX00, w ∈ wsX0_winningDigits := by decide +kernel
theorem lk_X0_winningDigits_83 : Cond.fieldLink RX0 83 "Quarterboard" "LINES" "[I" ∈ wsX0_winningDigits := by decide +kernel
def P_X0_winningDigits (q0 q1 q2 q3 q4 q5 q6 : Int32) (q7 : Int64) (q8 q9 : Int32) (q10 : Int64) : Int32 → QS → Prop := fun r u => u = (q0, q1, q2, q3, q4, q5, q6, q7, q8, q9, q10) ∧ r = qWinD q5 q7 q0
set_option maxHeartbeats 4000000 in
set_option maxRecDepth 100000 in
theorem c_X0_winningDigits (l : Launch) (g : zG) (bL h : Nat) (q0 q1 q2 q3 q4 q5 q6 : Int32) (q7 : Int64) (q8 q9 : Int32) (q10 : Int64)   : zM l yX0_winningDigits wsX0_winningDigits 2 80 g [.ref h] (oQ h (q0, q1, q2, q3, q4, q5, q6, q7, q8, q9, q10)) (zEL bL) (zQi g (P_X0_winningDigits q0 q1 q2 q3 q4 q5 q6 q7 q8 q9 q10) (oQ h)) := by
  refine zstart (cc := cX0_winningDigits) (maxL := 4) (ret := (some .int)) (own := RX0) rfl (by decide) rfl zStL (Nat.le_of_ble_eq_true rfl) ?_
  intro p e s m below meth c A Z hr hlk H locs X ls hl
  have hx := Z.1.1
  have hb := Z.1.2.1
  have hin : ∀ w ∈ wsX00, w ∈ wsX0_winningDigits := inw_X0_winningDigits
  have hl : lv_has ls 4 [(0, .ref h)] := hl
  have X : zh g A (oQ h (q0, q1, q2, q3, q4, q5, q6, q7, q8, q9, q10)) s.heap H locs := X
  have hln := qLn_le q0
  refine lv_iconst (v := (0 : Int32)) hx hb dX0_winningDigits_0 (by decide) ?_
  refine lv_istore_n (lv' := [(1, .int (0 : Int32)), (0, .ref h)]) hx hb dX0_winningDigits_1 rfl hl (by decide) rfl (fun ls hl => ?_)
  refine lv_iconst (v := (0 : Int32)) hx hb dX0_winningDigits_2 (by decide) ?_
  refine lv_istore_n (lv' := [(2, .int (0 : Int32)), (1, .int (0 : Int32)), (0, .ref h)]) hx hb dX0_winningDigits_3 rfl hl (by decide) rfl (fun ls hl => ?_)
  have cut4 : ∀ (n4 : Nat), ∀ (k : Nat) (acc : Int32), (k ≤ qLn q0) → (acc = qWinDC q5 q7 k) → (qLn q0 + 1 - k ≤ n4) → ∀ (H : Heap) (locs : List Loc) (ls : Array Slot), zh g A (oQ h (q0, q1, q2, q3, q4, q5, q6, q7, q8, q9, q10)) s.heap H locs → lv_has ls 4 [(2, .int (nI k)), (1, .int acc), (0, .ref h)] → W p l e { frames := 2, cells := 0, slots := 0, locals := 80 } s m ([.ref h] : List Value).toArray below meth c H locs 0 0 (MQ below ((zQi g (P_X0_winningDigits q0 q1 q2 q3 q4 q5 q6 q7 q8 q9 q10) (oQ h)) A) ([.ref h] : List Value).toArray s 0 0 A) (F0 m 4 ls []) := by
    intro n4
    induction n4 with
    | zero =>
      intro k acc hk hacc hm4
      exact absurd hm4 (by omega)
    | succ n4 ih4 =>
      intro k acc hk hacc hm4 H locs ls X hl
      refine lv_iload_n hx hb dX0_winningDigits_4 rfl (lv_at hl 0 rfl) ?_
      refine lv_aload_n hx hb dX0_winningDigits_5 rfl (lv_at hl 2 rfl) ?_
      refine zcallVi (n := 0) (As := []) (rest := [.int (nI k)]) (ci := 0) (C := RX0) (T := TX0) (N := 11) Z X (c_X0_lines l g bL h q0 q1 q2 q3 q4 q5 q6 q7 q8 q9 q10 ) gX0_winningDigits_X0_lines rfl (by decide +kernel) ⟨Nat.le_of_ble_eq_true rfl, Nat.le_of_ble_eq_true rfl⟩ rfl rfl rfl rfl hl.1 (Nat.le_of_ble_eq_true rfl) dX0_winningDigits_6 ⟨Nat.zero_le _, Nat.zero_le _⟩ (fun r0 ur0 H locs hrr0 X => ?_)
      obtain ⟨rfl, rfl⟩ : ur0 = (q0, q1, q2, q3, q4, q5, q6, q7, q8, q9, q10) ∧ r0 = nI (qLn q0) := hrr0
      have X : zh g A (oQ h (q0, q1, q2, q3, q4, q5, q6, q7, q8, q9, q10)) s.heap H locs := X
      refine lv_icmp_ge (tgt := 40) hx hb dX0_winningDigits_9 (by decide) (fun c2 => ?_) (fun c2 => ?_)
      · have qc2 := c2
        have c2n : (qLn q0) ≤ k := zn_let (by omega) (by omega) c2
        refine lv_iload_n hx hb dX0_winningDigits_40 rfl (lv_at hl 1 rfl) ?_
        exact zreti Z hr hlk (q0, q1, q2, q3, q4, q5, q6, q7, q8, q9, q10) X dX0_winningDigits_41 rfl (⟨rfl, by rw [hacc, show k = qLn q0 by omega]; rfl⟩)
      · have qc2 := c2
        have c2n : ¬ (qLn q0) ≤ k := zn_len (by omega) (by omega) c2
        refine va_gets hx hb Z.2.2.2.1.1 X.2.2 Z.1.2.2.2.1 (Z.1.2.2.2.2 _ lk_X0_winningDigits_83) (fun _ h => h) dX0_winningDigits_12 ?_
        refine lv_iload_n hx hb dX0_winningDigits_15 rfl (lv_at hl 0 rfl) ?_
        refine zlld Z X k rfl (by omega) dX0_winningDigits_16 ?_
        refine lv_topi (fun x3 ex3 => ?_)
        refine lv_istore_n (lv' := [(3, .int x3), (2, .int (nI k)), (1, .int acc), (0, .ref h)]) hx hb dX0_winningDigits_17 rfl hl (by decide) rfl (fun ls hl => ?_)
        refine lv_aload_n hx hb dX0_winningDigits_18 rfl (lv_at hl 3 rfl) ?_
        refine lv_iload_n hx hb dX0_winningDigits_19 rfl (lv_at hl 0 rfl) ?_
        refine zcallVi (n := 1) (As := [.int x3]) (rest := []) (ci := 0) (C := RX0) (T := TX0) (N := 11) Z X (c_X0_lacksOne l g bL h q0 q1 q2 q3 q4 q5 q6 q7 q8 q9 q10 x3) gX0_winningDigits_X0_lacksOne rfl (by decide +kernel) ⟨Nat.le_of_ble_eq_true rfl, Nat.le_of_ble_eq_true rfl⟩ rfl rfl rfl rfl hl.1 (Nat.le_of_ble_eq_true rfl) dX0_winningDigits_20 ⟨Nat.zero_le _, Nat.zero_le _⟩ (fun r3 ur3 H locs hrr3 X => ?_)
        obtain ⟨rfl, rfl⟩ : ur3 = (q0, q1, q2, q3, q4, q5, q6, q7, q8, q9, q10) ∧ r3 = zb (qLacks q5 x3) := hrr3
        have X : zh g A (oQ h (q0, q1, q2, q3, q4, q5, q6, q7, q8, q9, q10)) s.heap H locs := X
        refine lv_if_eq (tgt := 34) hx hb dX0_winningDigits_23 (by decide) (fun c5 => ?_) (fun c5 => ?_)
        · have qc5 := c5
          have hc5 := zb_0.mp c5
          refine lv_iinc (v := nI (k + 1)) (lv' := [(2, .int (nI (k + 1))), (3, .int x3), (1, .int acc), (0, .ref h)]) hx hb dX0_winningDigits_34 hl (k := 1) rfl (zi_inc k) (by decide) rfl (fun ls hl => ?_)
          refine lv_goto (tgt := 4) hx hb dX0_winningDigits_37 (by decide) ?_
          exact ih4 (k + 1) acc (by first | assumption | omega) (by subst ex3; rw [hacc]; simp only [qWinDC, c2n, hc5, decide_true, decide_false, Bool.and_true, Bool.and_false, Bool.true_and, Bool.false_and, not_true_eq_false, not_false_eq_true, Bool.not_true, Bool.not_false, if_true, if_false, and_true, true_and, and_false, false_and, Bool.false_eq_true, Bool.true_eq_false, eq_self]) (by omega) H locs ls X (lv_sub hl [0, 2, 3] rfl)
        · have qc5 := c5
          have hc5 := zb_n0.mp c5
          refine lv_iload_n hx hb dX0_winningDigits_26 rfl (lv_at hl 2 rfl) ?_
          refine lv_aload_n hx hb dX0_winningDigits_27 rfl (lv_at hl 3 rfl) ?_
          refine lv_iload_n hx hb dX0_winningDigits_28 rfl (lv_at hl 0 rfl) ?_
          refine zcallVi (n := 1) (As := [.int x3]) (rest := [.int acc]) (ci := 0) (C := RX0) (T := TX0) (N := 11) Z X (c_X0_inCommon l g bL h q0 q1 q2 q3 q4 q5 q6 q7 q8 q9 q10 x3) gX0_winningDigits_X0_inCommon rfl (by decide +kernel) ⟨Nat.le_of_ble_eq_true rfl, Nat.le_of_ble_eq_true rfl⟩ rfl rfl rfl rfl hl.1 (Nat.le_of_ble_eq_true rfl) dX0_winningDigits_29 ⟨Nat.zero_le _, Nat.zero_le _⟩ (fun r5 ur5 H locs hrr5 X => ?_)
          obtain ⟨rfl, rfl⟩ : ur5 = (q0, q1, q2, q3, q4, q5, q6, q7, q8, q9, q10) ∧ r5 = qIn q5 q7 x3 := hrr5
          have X : zh g A (oQ h (q0, q1, q2, q3, q4, q5, q6, q7, q8, q9, q10)) s.heap H locs := X
          refine lv_ior hx hb dX0_winningDigits_32 ?_
          refine lv_topi (fun x7 ex7 => ?_)
          refine lv_istore_n (lv' := [(1, .int x7), (3, .int x3), (2, .int (nI k)), (0, .ref h)]) hx hb dX0_winningDigits_33 rfl hl (by decide) rfl (fun ls hl => ?_)
          refine lv_iinc (v := nI (k + 1)) (lv' := [(2, .int (nI (k + 1))), (1, .int x7), (3, .int x3), (0, .ref h)]) hx hb dX0_winningDigits_34 hl (k := 2) rfl (zi_inc k) (by decide) rfl (fun ls hl => ?_)
          refine lv_goto (tgt := 4) hx hb dX0_winningDigits_37 (by decide) ?_
          exact ih4 (k + 1) x7 (by first | assumption | omega) (by subst ex7; subst ex3; rw [hacc]; simp only [qWinDC, c2n, hc5, decide_true, decide_false, Bool.and_true, Bool.and_false, Bool.true_and, Bool.false_and, not_true_eq_false, not_false_eq_true, Bool.not_true, Bool.not_false, if_true, if_false, and_true, true_and, and_false, false_and, Bool.false_eq_true, Bool.true_eq_false, eq_self]) (by omega) H locs ls X (lv_sub hl [0, 1, 3] rfl)
  exact cut4 (qLn q0 + 1) 0 0 (by first | assumption | omega) (rfl) (by omega) H locs ls X (lv_sub hl [0, 1, 2] rfl)
theorem inw_X0_safePieces : ∀ w ∈ wsX00, w ∈ wsX0_safePieces := by decide +kernel
theorem lk_X0_safePieces_35 : Cond.fieldLink RX0 35 "Quarterboard" "used" "I" ∈ wsX0_safePieces := by decide +kernel
def P_X0_safePieces (q0 q1 q2 q3 q4 q5 q6 : Int32) (q7 : Int64) (q8 q9 : Int32) (q10 : Int64) : Int32 → QS → Prop := fun r u => u = (q0, q1, q2, q3, q4, q5, q6, q7, q8, q9, q10) ∧ r = qSafe q5 q6 q7 q0
set_option maxHeartbeats 4000000 in
set_option maxRecDepth 100000 in
theorem c_X0_safePieces (l : Launch) (g : zG) (bL h : Nat) (q0 q1 q2 q3 q4 q5 q6 : Int32) (q7 : Int64) (q8 q9 : Int32) (q10 : Int64)   : zM l yX0_safePieces wsX0_safePieces 3 120 g [.ref h] (oQ h (q0, q1, q2, q3, q4, q5, q6, q7, q8, q9, q10)) (zEL bL) (zQi g (P_X0_safePieces q0 q1 q2 q3 q4 q5 q6 q7 q8 q9 q10) (oQ h)) := by
  refine zstart (cc := cX0_safePieces) (maxL := 4) (ret := (some .int)) (own := RX0) rfl (by decide) rfl zStL (Nat.le_of_ble_eq_true rfl) ?_
  intro p e s m below meth c A Z hr hlk H locs X ls hl
  have hx := Z.1.1
  have hb := Z.1.2.1
  have hin : ∀ w ∈ wsX00, w ∈ wsX0_safePieces := inw_X0_safePieces
  have hl : lv_has ls 4 [(0, .ref h)] := hl
  have X : zh g A (oQ h (q0, q1, q2, q3, q4, q5, q6, q7, q8, q9, q10)) s.heap H locs := X
  refine lv_aload_n hx hb dX0_safePieces_0 rfl (lv_at hl 0 rfl) ?_
  refine zcallVi (n := 0) (As := []) (rest := []) (ci := 0) (C := RX0) (T := TX0) (N := 11) Z X (c_X0_winningDigits l g bL h q0 q1 q2 q3 q4 q5 q6 q7 q8 q9 q10 ) gX0_safePieces_X0_winningDigits rfl (by decide +kernel) ⟨Nat.le_of_ble_eq_true rfl, Nat.le_of_ble_eq_true rfl⟩ rfl rfl rfl rfl hl.1 (Nat.le_of_ble_eq_true rfl) dX0_safePieces_1 ⟨Nat.zero_le _, Nat.zero_le _⟩ (fun r0 ur0 H locs hrr0 X => ?_)
  obtain ⟨rfl, rfl⟩ : ur0 = (q0, q1, q2, q3, q4, q5, q6, q7, q8, q9, q10) ∧ r0 = qWinD q5 q7 q0 := hrr0
  have X : zh g A (oQ h (q0, q1, q2, q3, q4, q5, q6, q7, q8, q9, q10)) s.heap H locs := X
  refine lv_topi (fun x2 ex2 => ?_)
  refine lv_istore_n (lv' := [(1, .int x2), (0, .ref h)]) hx hb dX0_safePieces_4 rfl hl (by decide) rfl (fun ls hl => ?_)
  refine lv_iconst (v := (0 : Int32)) hx hb dX0_safePieces_5 (by decide) ?_
  refine lv_istore_n (lv' := [(2, .int (0 : Int32)), (1, .int x2), (0, .ref h)]) hx hb dX0_safePieces_6 rfl hl (by decide) rfl (fun ls hl => ?_)
  refine lv_iconst (v := (0 : Int32)) hx hb dX0_safePieces_7 (by decide) ?_
  refine lv_istore_n (lv' := [(3, .int (0 : Int32)), (2, .int (0 : Int32)), (1, .int x2), (0, .ref h)]) hx hb dX0_safePieces_8 rfl hl (by decide) rfl (fun ls hl => ?_)
  have cut9 : ∀ (n9 : Nat), ∀ (k : Nat) (acc : Int32) (wi : Int32), (k ≤ 16) → (wi = qWinD q5 q7 q0) → (acc = qSafeC q6 wi k) → (17 - k ≤ n9) → ∀ (H : Heap) (locs : List Loc) (ls : Array Slot), zh g A (oQ h (q0, q1, q2, q3, q4, q5, q6, q7, q8, q9, q10)) s.heap H locs → lv_has ls 4 [(3, .int (nI k)), (2, .int acc), (1, .int wi), (0, .ref h)] → W p l e { frames := 3, cells := 0, slots := 0, locals := 120 } s m ([.ref h] : List Value).toArray below meth c H locs 0 0 (MQ below ((zQi g (P_X0_safePieces q0 q1 q2 q3 q4 q5 q6 q7 q8 q9 q10) (oQ h)) A) ([.ref h] : List Value).toArray s 0 0 A) (F0 m 9 ls []) := by
    intro n9
    induction n9 with
    | zero =>
      intro k acc wi hk hwi hacc hm9
      exact absurd hm9 (by omega)
    | succ n9 ih9 =>
      intro k acc wi hk hwi hacc hm9 H locs ls X hl
      refine lv_iload_n hx hb dX0_safePieces_9 rfl (lv_at hl 0 rfl) ?_
      refine lv_bipush (v := (16 : Int32)) hx hb dX0_safePieces_10 (by decide) ?_
      refine lv_icmp_ge (tgt := 47) hx hb dX0_safePieces_12 (by decide) (fun c3 => ?_) (fun c3 => ?_)
      · have qc3 := c3
        have c3n : 16 ≤ k := zn_let (by omega) (by omega) c3
        refine lv_iload_n hx hb dX0_safePieces_47 rfl (lv_at hl 1 rfl) ?_
        exact zreti Z hr hlk (q0, q1, q2, q3, q4, q5, q6, q7, q8, q9, q10) X dX0_safePieces_48 rfl (⟨rfl, by rw [hacc, hwi, show k = 16 by omega]; rfl⟩)
      · have qc3 := c3
        have c3n : ¬ 16 ≤ k := zn_len (by omega) (by omega) c3
        refine lv_aload_n hx hb dX0_safePieces_15 rfl (lv_at hl 3 rfl) ?_
        refine zget (fs := [.int q0, .int q1, .int q2, .int q3, .int q4, .int q5, .int q6, .long q7, .int q8, .int q9, .long q10]) (v := .int q6) Z hin X (ci := 0) (C := RX0) (T := TX0) (N := 11) rfl rfl 6 (by decide) lk_X0_safePieces_35 rfl dX0_safePieces_16 ?_
        refine lv_iload_n hx hb dX0_safePieces_19 rfl (lv_at hl 0 rfl) ?_
        refine zcallSi (n := 2) (As := [.int q6, .int (nI k)]) (rest := []) Z X (c_X0_has l g q6 (nI k)) gX0_safePieces_X0_has rfl (by decide +kernel) ⟨Nat.le_of_ble_eq_true rfl, Nat.le_of_ble_eq_true rfl⟩ rfl rfl hl.1 (Nat.le_of_ble_eq_true rfl) dX0_safePieces_20 ⟨Nat.zero_le _, Nat.zero_le _⟩ (fun r3 H locs hrr3 X => ?_)
        obtain rfl : r3 = zb (qHas q6 (nI k)) := hrr3
        refine lv_if_ne (tgt := 41) hx hb dX0_safePieces_23 (by decide) (fun c5 => ?_) (fun c5 => ?_)
        · have qc5 := c5
          have hc5 := zb_n0.mp c5
          refine lv_iinc (v := nI (k + 1)) (lv' := [(3, .int (nI (k + 1))), (2, .int acc), (1, .int wi), (0, .ref h)]) hx hb dX0_safePieces_41 hl (k := 0) rfl (zi_inc k) (by decide) rfl (fun ls hl => ?_)
          refine lv_goto (tgt := 9) hx hb dX0_safePieces_44 (by decide) ?_
          exact ih9 (k + 1) acc wi (by first | assumption | omega) (by first | assumption | omega) (by rw [hacc]; simp only [qSafeC, qBit, c3n, hc5, decide_true, decide_false, Bool.and_true, Bool.and_false, Bool.true_and, Bool.false_and, not_true_eq_false, not_false_eq_true, Bool.not_true, Bool.not_false, if_true, if_false, and_true, true_and, and_false, false_and, Bool.false_eq_true, Bool.true_eq_false, eq_self]) (by omega) H locs ls X (lv_sub hl [0, 1, 2, 3] rfl)
        · have qc5 := c5
          have hc5 := zb_0.mp c5
          refine lv_iload_n hx hb dX0_safePieces_26 rfl (lv_at hl 0 rfl) ?_
          refine zcallSi (n := 1) (As := [.int (nI k)]) (rest := []) Z X (c_X0_ownDigits l g (nI k)) gX0_safePieces_X0_ownDigits rfl (by decide +kernel) ⟨Nat.le_of_ble_eq_true rfl, Nat.le_of_ble_eq_true rfl⟩ rfl rfl hl.1 (Nat.le_of_ble_eq_true rfl) dX0_safePieces_27 ⟨Nat.zero_le _, Nat.zero_le _⟩ (fun r5 H locs hrr5 X => ?_)
          obtain rfl : r5 = qOwn (nI k) := hrr5
          refine lv_iload_n hx hb dX0_safePieces_30 rfl (lv_at hl 2 rfl) ?_
          refine lv_iand hx hb dX0_safePieces_31 ?_
          refine lv_if_ne (tgt := 41) hx hb dX0_safePieces_32 (by decide) (fun c7 => ?_) (fun c7 => ?_)
          · have qc7 := c7
            refine lv_iinc (v := nI (k + 1)) (lv' := [(3, .int (nI (k + 1))), (2, .int acc), (1, .int wi), (0, .ref h)]) hx hb dX0_safePieces_41 hl (k := 0) rfl (zi_inc k) (by decide) rfl (fun ls hl => ?_)
            refine lv_goto (tgt := 9) hx hb dX0_safePieces_44 (by decide) ?_
            exact ih9 (k + 1) acc wi (by first | assumption | omega) (by first | assumption | omega) (by rw [hacc]; simp only [qSafeC, qBit, c3n, hc5, c7, decide_true, decide_false, Bool.and_true, Bool.and_false, Bool.true_and, Bool.false_and, not_true_eq_false, not_false_eq_true, Bool.not_true, Bool.not_false, if_true, if_false, and_true, true_and, and_false, false_and, Bool.false_eq_true, Bool.true_eq_false, eq_self]) (by omega) H locs ls X (lv_sub hl [0, 1, 2, 3] rfl)
          · have qc7 := c7
            refine lv_iload_n hx hb dX0_safePieces_35 rfl (lv_at hl 1 rfl) ?_
            refine lv_iconst (v := (1 : Int32)) hx hb dX0_safePieces_36 (by decide) ?_
            refine lv_iload_n hx hb dX0_safePieces_37 rfl (lv_at hl 0 rfl) ?_
            refine lv_ishl hx hb dX0_safePieces_38 ?_
            refine lv_ior hx hb dX0_safePieces_39 ?_
            refine lv_topi (fun x8 ex8 => ?_)
            refine lv_istore_n (lv' := [(2, .int x8), (3, .int (nI k)), (1, .int wi), (0, .ref h)]) hx hb dX0_safePieces_40 rfl hl (by decide) rfl (fun ls hl => ?_)
            refine lv_iinc (v := nI (k + 1)) (lv' := [(3, .int (nI (k + 1))), (2, .int x8), (1, .int wi), (0, .ref h)]) hx hb dX0_safePieces_41 hl (k := 1) rfl (zi_inc k) (by decide) rfl (fun ls hl => ?_)
            refine lv_goto (tgt := 9) hx hb dX0_safePieces_44 (by decide) ?_
            exact ih9 (k + 1) x8 wi (by first | assumption | omega) (by first | assumption | omega) (by subst ex8; rw [hacc]; simp only [qSafeC, qBit, c3n, hc5, c7, decide_true, decide_false, Bool.and_true, Bool.and_false, Bool.true_and, Bool.false_and, not_true_eq_false, not_false_eq_true, Bool.not_true, Bool.not_false, if_true, if_false, and_true, true_and, and_false, false_and, Bool.false_eq_true, Bool.true_eq_false, eq_self]) (by omega) H locs ls X (lv_sub hl [0, 1, 2, 3] rfl)
  exact cut9 17 0 0 x2 (by first | assumption | omega) (by subst ex2; rfl) (rfl) (by omega) H locs ls X (lv_sub hl [0, 1, 2, 3] rfl)
theorem inw_X0_canLookAhead : ∀ w ∈ wsX00, w ∈ wsX0_canLookAhead := by decide +kernel
theorem lk_X0_canLookAhead_16 : Cond.fieldLink RX0 16 "Quarterboard" "filled" "I" ∈ wsX0_canLookAhead := by decide +kernel
theorem lk_X0_canLookAhead_29 : Cond.fieldLink RX0 29 "Quarterboard" "stage" "I" ∈ wsX0_canLookAhead := by decide +kernel
def P_X0_canLookAhead (q0 q1 q2 q3 q4 q5 q6 : Int32) (q7 : Int64) (q8 q9 : Int32) (q10 : Int64) (np : Int32) : Int32 → QS → Prop := fun r u => u = (q0, q1, q2, q3, q4, q5, q6, q7, q8, q9, q10) ∧ r = zb (qCan q5 q1 np)
set_option maxHeartbeats 4000000 in
set_option maxRecDepth 100000 in
theorem c_X0_canLookAhead (l : Launch) (g : zG) (bL h : Nat) (q0 q1 q2 q3 q4 q5 q6 : Int32) (q7 : Int64) (q8 q9 : Int32) (q10 : Int64) (np : Int32)  : zM l yX0_canLookAhead wsX0_canLookAhead 1 40 g [.ref h, .int np] (oQ h (q0, q1, q2, q3, q4, q5, q6, q7, q8, q9, q10)) (zEL bL) (zQi g (P_X0_canLookAhead q0 q1 q2 q3 q4 q5 q6 q7 q8 q9 q10 np) (oQ h)) := by
  refine zstart (cc := cX0_canLookAhead) (maxL := 3) (ret := (some .boolean)) (own := RX0) rfl (by decide) rfl zStL (Nat.le_of_ble_eq_true rfl) ?_
  intro p e s m below meth c A Z hr hlk H locs X ls hl
  have hx := Z.1.1
  have hb := Z.1.2.1
  have hin : ∀ w ∈ wsX00, w ∈ wsX0_canLookAhead := inw_X0_canLookAhead
  have hl : lv_has ls 3 [(0, .ref h), (1, .int np)] := hl
  have X : zh g A (oQ h (q0, q1, q2, q3, q4, q5, q6, q7, q8, q9, q10)) s.heap H locs := X
  refine lv_bipush (v := (16 : Int32)) hx hb dX0_canLookAhead_0 (by decide) ?_
  refine lv_aload_n hx hb dX0_canLookAhead_2 rfl (lv_at hl 0 rfl) ?_
  refine zget (fs := [.int q0, .int q1, .int q2, .int q3, .int q4, .int q5, .int q6, .long q7, .int q8, .int q9, .long q10]) (v := .int q5) Z hin X (ci := 0) (C := RX0) (T := TX0) (N := 11) rfl rfl 5 (by decide) lk_X0_canLookAhead_16 rfl dX0_canLookAhead_3 ?_
  refine zcallSi (n := 1) (As := [.int q5]) (rest := [.int (16 : Int32)]) Z X (c_J6_bitCount_0f7a4 l g q5) gX0_canLookAhead_J6_bitCount_0f7a4 rfl (by decide +kernel) ⟨Nat.le_of_ble_eq_true rfl, Nat.le_of_ble_eq_true rfl⟩ rfl rfl hl.1 (Nat.le_of_ble_eq_true rfl) dX0_canLookAhead_6 ⟨Nat.zero_le _, Nat.zero_le _⟩ (fun r0 H locs hrr0 X => ?_)
  obtain rfl : r0 = qBc q5 := hrr0
  refine lv_isub hx hb dX0_canLookAhead_9 ?_
  refine lv_topi (fun x2 ex2 => ?_)
  refine lv_istore_n (lv' := [(2, .int x2), (0, .ref h), (1, .int np)]) hx hb dX0_canLookAhead_10 rfl hl (by decide) rfl (fun ls hl => ?_)
  refine lv_iload_n hx hb dX0_canLookAhead_11 rfl (lv_at hl 2 rfl) ?_
  refine lv_iconst (v := (3 : Int32)) hx hb dX0_canLookAhead_12 (by decide) ?_
  refine lv_icmp_ne (tgt := 24) hx hb dX0_canLookAhead_13 (by decide) (fun c3 => ?_) (fun c3 => ?_)
  · have qc3 := c3
    refine lv_iload_n hx hb dX0_canLookAhead_24 rfl (lv_at hl 2 rfl) ?_
    refine lv_iconst (v := (4 : Int32)) hx hb dX0_canLookAhead_25 (by decide) ?_
    refine lv_icmp_ne (tgt := 37) hx hb dX0_canLookAhead_26 (by decide) (fun c4 => ?_) (fun c4 => ?_)
    · have qc4 := c4
      refine lv_aload_n hx hb dX0_canLookAhead_37 rfl (lv_at hl 1 rfl) ?_
      refine zget (fs := [.int q0, .int q1, .int q2, .int q3, .int q4, .int q5, .int q6, .long q7, .int q8, .int q9, .long q10]) (v := .int q1) Z hin X (ci := 0) (C := RX0) (T := TX0) (N := 11) rfl rfl 1 (by decide) lk_X0_canLookAhead_29 rfl dX0_canLookAhead_38 ?_
      refine lv_iconst (v := (2 : Int32)) hx hb dX0_canLookAhead_41 (by decide) ?_
      refine lv_icmp_eq (tgt := 49) hx hb dX0_canLookAhead_42 (by decide) (fun c5 => ?_) (fun c5 => ?_)
      · have qc5 := c5
        refine lv_iconst (v := (0 : Int32)) hx hb dX0_canLookAhead_49 (by decide) ?_
        exact zreti Z hr hlk (q0, q1, q2, q3, q4, q5, q6, q7, q8, q9, q10) X dX0_canLookAhead_50 rfl (⟨rfl, by first | (subst ex2; simp only [qCan, zb, zn43, zn34, c3, c4, c5, decide_true, decide_false, Bool.and_true, Bool.and_false, Bool.true_and, Bool.false_and, not_true_eq_false, not_false_eq_true, Bool.not_true, Bool.not_false, if_true, if_false, and_true, true_and, and_false, false_and, Bool.false_eq_true, Bool.true_eq_false, eq_self]; done) | exact absurd (Eq.trans (Eq.symm ‹np = 3›) ‹np = 4›) zn34⟩)
      · have qc5 := c5
        refine lv_iconst (v := (1 : Int32)) hx hb dX0_canLookAhead_45 (by decide) ?_
        refine lv_goto (tgt := 50) hx hb dX0_canLookAhead_46 (by decide) ?_
        exact zreti Z hr hlk (q0, q1, q2, q3, q4, q5, q6, q7, q8, q9, q10) X dX0_canLookAhead_50 rfl (⟨rfl, by first | (subst ex2; simp only [qCan, zb, zn43, zn34, c3, c4, c5, decide_true, decide_false, Bool.and_true, Bool.and_false, Bool.true_and, Bool.false_and, not_true_eq_false, not_false_eq_true, Bool.not_true, Bool.not_false, if_true, if_false, and_true, true_and, and_false, false_and, Bool.false_eq_true, Bool.true_eq_false, eq_self]; done) | exact absurd (Eq.trans (Eq.symm ‹np = 3›) ‹np = 4›) zn34⟩)
    · have qc4 := c4
      refine lv_iload_n hx hb dX0_canLookAhead_29 rfl (lv_at hl 0 rfl) ?_
      refine lv_bipush (v := (6 : Int32)) hx hb dX0_canLookAhead_30 (by decide) ?_
      refine lv_icmp_le (tgt := 37) hx hb dX0_canLookAhead_32 (by decide) (fun c6 => ?_) (fun c6 => ?_)
      · have qc6 := c6
        refine lv_aload_n hx hb dX0_canLookAhead_37 rfl (lv_at hl 1 rfl) ?_
        refine zget (fs := [.int q0, .int q1, .int q2, .int q3, .int q4, .int q5, .int q6, .long q7, .int q8, .int q9, .long q10]) (v := .int q1) Z hin X (ci := 0) (C := RX0) (T := TX0) (N := 11) rfl rfl 1 (by decide) lk_X0_canLookAhead_29 rfl dX0_canLookAhead_38 ?_
        refine lv_iconst (v := (2 : Int32)) hx hb dX0_canLookAhead_41 (by decide) ?_
        refine lv_icmp_eq (tgt := 49) hx hb dX0_canLookAhead_42 (by decide) (fun c7 => ?_) (fun c7 => ?_)
        · have qc7 := c7
          refine lv_iconst (v := (0 : Int32)) hx hb dX0_canLookAhead_49 (by decide) ?_
          exact zreti Z hr hlk (q0, q1, q2, q3, q4, q5, q6, q7, q8, q9, q10) X dX0_canLookAhead_50 rfl (⟨rfl, by first | (subst ex2; simp only [qCan, zb, zn43, zn34, c3, c4, c6, c7, decide_true, decide_false, Bool.and_true, Bool.and_false, Bool.true_and, Bool.false_and, not_true_eq_false, not_false_eq_true, Bool.not_true, Bool.not_false, if_true, if_false, and_true, true_and, and_false, false_and, Bool.false_eq_true, Bool.true_eq_false, eq_self]; done) | exact absurd (Eq.trans (Eq.symm ‹np = 3›) ‹np = 4›) zn34⟩)
        · have qc7 := c7
          refine lv_iconst (v := (1 : Int32)) hx hb dX0_canLookAhead_45 (by decide) ?_
          refine lv_goto (tgt := 50) hx hb dX0_canLookAhead_46 (by decide) ?_
          exact zreti Z hr hlk (q0, q1, q2, q3, q4, q5, q6, q7, q8, q9, q10) X dX0_canLookAhead_50 rfl (⟨rfl, by first | (subst ex2; simp only [qCan, zb, zn43, zn34, c3, c4, c6, c7, decide_true, decide_false, Bool.and_true, Bool.and_false, Bool.true_and, Bool.false_and, not_true_eq_false, not_false_eq_true, Bool.not_true, Bool.not_false, if_true, if_false, and_true, true_and, and_false, false_and, Bool.false_eq_true, Bool.true_eq_false, eq_self]; done) | exact absurd (Eq.trans (Eq.symm ‹np = 3›) ‹np = 4›) zn34⟩)
      · have qc6 := c6
        refine lv_iconst (v := (0 : Int32)) hx hb dX0_canLookAhead_35 (by decide) ?_
        exact zreti Z hr hlk (q0, q1, q2, q3, q4, q5, q6, q7, q8, q9, q10) X dX0_canLookAhead_36 rfl (⟨rfl, by first | (subst ex2; simp only [qCan, zb, zn43, zn34, c3, c4, c6, decide_true, decide_false, Bool.and_true, Bool.and_false, Bool.true_and, Bool.false_and, not_true_eq_false, not_false_eq_true, Bool.not_true, Bool.not_false, if_true, if_false, and_true, true_and, and_false, false_and, Bool.false_eq_true, Bool.true_eq_false, eq_self]; done) | exact absurd (Eq.trans (Eq.symm ‹np = 3›) ‹np = 4›) zn34⟩)
  · have qc3 := c3
    refine lv_iload_n hx hb dX0_canLookAhead_16 rfl (lv_at hl 0 rfl) ?_
    refine lv_bipush (v := (8 : Int32)) hx hb dX0_canLookAhead_17 (by decide) ?_
    refine lv_icmp_le (tgt := 24) hx hb dX0_canLookAhead_19 (by decide) (fun c8 => ?_) (fun c8 => ?_)
    · have qc8 := c8
      refine lv_iload_n hx hb dX0_canLookAhead_24 rfl (lv_at hl 2 rfl) ?_
      refine lv_iconst (v := (4 : Int32)) hx hb dX0_canLookAhead_25 (by decide) ?_
      refine lv_icmp_ne (tgt := 37) hx hb dX0_canLookAhead_26 (by decide) (fun c9 => ?_) (fun c9 => ?_)
      · have qc9 := c9
        refine lv_aload_n hx hb dX0_canLookAhead_37 rfl (lv_at hl 1 rfl) ?_
        refine zget (fs := [.int q0, .int q1, .int q2, .int q3, .int q4, .int q5, .int q6, .long q7, .int q8, .int q9, .long q10]) (v := .int q1) Z hin X (ci := 0) (C := RX0) (T := TX0) (N := 11) rfl rfl 1 (by decide) lk_X0_canLookAhead_29 rfl dX0_canLookAhead_38 ?_
        refine lv_iconst (v := (2 : Int32)) hx hb dX0_canLookAhead_41 (by decide) ?_
        refine lv_icmp_eq (tgt := 49) hx hb dX0_canLookAhead_42 (by decide) (fun c10 => ?_) (fun c10 => ?_)
        · have qc10 := c10
          refine lv_iconst (v := (0 : Int32)) hx hb dX0_canLookAhead_49 (by decide) ?_
          exact zreti Z hr hlk (q0, q1, q2, q3, q4, q5, q6, q7, q8, q9, q10) X dX0_canLookAhead_50 rfl (⟨rfl, by first | (subst ex2; simp only [qCan, zb, zn43, zn34, c3, c8, c9, c10, decide_true, decide_false, Bool.and_true, Bool.and_false, Bool.true_and, Bool.false_and, not_true_eq_false, not_false_eq_true, Bool.not_true, Bool.not_false, if_true, if_false, and_true, true_and, and_false, false_and, Bool.false_eq_true, Bool.true_eq_false, eq_self]; done) | exact absurd (Eq.trans (Eq.symm ‹np = 3›) ‹np = 4›) zn34⟩)
        · have qc10 := c10
          refine lv_iconst (v := (1 : Int32)) hx hb dX0_canLookAhead_45 (by decide) ?_
          refine lv_goto (tgt := 50) hx hb dX0_canLookAhead_46 (by decide) ?_
          exact zreti Z hr hlk (q0, q1, q2, q3, q4, q5, q6, q7, q8, q9, q10) X dX0_canLookAhead_50 rfl (⟨rfl, by first | (subst ex2; simp only [qCan, zb, zn43, zn34, c3, c8, c9, c10, decide_true, decide_false, Bool.and_true, Bool.and_false, Bool.true_and, Bool.false_and, not_true_eq_false, not_false_eq_true, Bool.not_true, Bool.not_false, if_true, if_false, and_true, true_and, and_false, false_and, Bool.false_eq_true, Bool.true_eq_false, eq_self]; done) | exact absurd (Eq.trans (Eq.symm ‹np = 3›) ‹np = 4›) zn34⟩)
      · have qc9 := c9
        refine lv_iload_n hx hb dX0_canLookAhead_29 rfl (lv_at hl 0 rfl) ?_
        refine lv_bipush (v := (6 : Int32)) hx hb dX0_canLookAhead_30 (by decide) ?_
        refine lv_icmp_le (tgt := 37) hx hb dX0_canLookAhead_32 (by decide) (fun c11 => ?_) (fun c11 => ?_)
        · have qc11 := c11
          refine lv_aload_n hx hb dX0_canLookAhead_37 rfl (lv_at hl 1 rfl) ?_
          refine zget (fs := [.int q0, .int q1, .int q2, .int q3, .int q4, .int q5, .int q6, .long q7, .int q8, .int q9, .long q10]) (v := .int q1) Z hin X (ci := 0) (C := RX0) (T := TX0) (N := 11) rfl rfl 1 (by decide) lk_X0_canLookAhead_29 rfl dX0_canLookAhead_38 ?_
          refine lv_iconst (v := (2 : Int32)) hx hb dX0_canLookAhead_41 (by decide) ?_
          refine lv_icmp_eq (tgt := 49) hx hb dX0_canLookAhead_42 (by decide) (fun c12 => ?_) (fun c12 => ?_)
          · have qc12 := c12
            refine lv_iconst (v := (0 : Int32)) hx hb dX0_canLookAhead_49 (by decide) ?_
            exact zreti Z hr hlk (q0, q1, q2, q3, q4, q5, q6, q7, q8, q9, q10) X dX0_canLookAhead_50 rfl (⟨rfl, by first | (subst ex2; simp only [qCan, zb, zn43, zn34, c3, c8, c9, c11, c12, decide_true, decide_false, Bool.and_true, Bool.and_false, Bool.true_and, Bool.false_and, not_true_eq_false, not_false_eq_true, Bool.not_true, Bool.not_false, if_true, if_false, and_true, true_and, and_false, false_and, Bool.false_eq_true, Bool.true_eq_false, eq_self]; done) | exact absurd (Eq.trans (Eq.symm ‹np = 3›) ‹np = 4›) zn34⟩)
          · have qc12 := c12
            refine lv_iconst (v := (1 : Int32)) hx hb dX0_canLookAhead_45 (by decide) ?_
            refine lv_goto (tgt := 50) hx hb dX0_canLookAhead_46 (by decide) ?_
            exact zreti Z hr hlk (q0, q1, q2, q3, q4, q5, q6, q7, q8, q9, q10) X dX0_canLookAhead_50 rfl (⟨rfl, by first | (subst ex2; simp only [qCan, zb, zn43, zn34, c3, c8, c9, c11, c12, decide_true, decide_false, Bool.and_true, Bool.and_false, Bool.true_and, Bool.false_and, not_true_eq_false, not_false_eq_true, Bool.not_true, Bool.not_false, if_true, if_false, and_true, true_and, and_false, false_and, Bool.false_eq_true, Bool.true_eq_false, eq_self]; done) | exact absurd (Eq.trans (Eq.symm ‹np = 3›) ‹np = 4›) zn34⟩)
        · have qc11 := c11
          refine lv_iconst (v := (0 : Int32)) hx hb dX0_canLookAhead_35 (by decide) ?_
          exact zreti Z hr hlk (q0, q1, q2, q3, q4, q5, q6, q7, q8, q9, q10) X dX0_canLookAhead_36 rfl (⟨rfl, by first | (subst ex2; simp only [qCan, zb, zn43, zn34, c3, c8, c9, c11, decide_true, decide_false, Bool.and_true, Bool.and_false, Bool.true_and, Bool.false_and, not_true_eq_false, not_false_eq_true, Bool.not_true, Bool.not_false, if_true, if_false, and_true, true_and, and_false, false_and, Bool.false_eq_true, Bool.true_eq_false, eq_self]; done) | exact absurd (Eq.trans (Eq.symm ‹np = 3›) ‹np = 4›) zn34⟩)
    · have qc8 := c8
      refine lv_iconst (v := (0 : Int32)) hx hb dX0_canLookAhead_22 (by decide) ?_
      exact zreti Z hr hlk (q0, q1, q2, q3, q4, q5, q6, q7, q8, q9, q10) X dX0_canLookAhead_23 rfl (⟨rfl, by first | (subst ex2; simp only [qCan, zb, zn43, zn34, c3, c8, decide_true, decide_false, Bool.and_true, Bool.and_false, Bool.true_and, Bool.false_and, not_true_eq_false, not_false_eq_true, Bool.not_true, Bool.not_false, if_true, if_false, and_true, true_and, and_false, false_and, Bool.false_eq_true, Bool.true_eq_false, eq_self]; done) | exact absurd (Eq.trans (Eq.symm ‹np = 3›) ‹np = 4›) zn34⟩)
end
section
/-! bits of the class's sets: what put and lift do -/
theorem qBit_bv : ∀ p, p < 16 → (qBit (nI p)).toBitVec = BitVec.twoPow 32 p := by decide +kernel
theorem tp_ne : ∀ p, p < 16 → ¬ BitVec.twoPow 32 p = 0#32 := by decide +kernel
theorem qHas_bv (x : Int32) {p : Nat} (hp : p < 16) : qHas x (nI p) = x.toBitVec.getLsbD p := by
  have h := qBit_bv p hp
  have e : (x &&& qBit (nI p) = 0) ↔ x.toBitVec.getLsbD p = false := by
    rw [← Int32.toBitVec_inj, Int32.toBitVec_and, h, BitVec.and_twoPow]
    cases hb : x.toBitVec.getLsbD p
    · simp
    · simp [tp_ne p hp]
  show decide (¬ x &&& qBit (nI p) = 0) = _
  cases hb : x.toBitVec.getLsbD p
  · exact decide_eq_false (fun q => q (e.mpr hb))
  · exact decide_eq_true (fun q => by rw [e.mp q] at hb; cases hb)
theorem qBit_get {p i : Nat} (hp : p < 16) : (qBit (nI p)).toBitVec.getLsbD i = decide (p = i) := by
  rw [qBit_bv p hp, BitVec.getLsbD_twoPow]
  by_cases h : p = i
  · subst h; simp; omega
  · simp [h]
theorem qHas_or (x : Int32) {k p : Nat} (hk : k < 16) (hp : p < 16) : qHas (x ||| qBit (nI k)) (nI p) = (qHas x (nI p) || decide (k = p)) := by
  rw [qHas_bv _ hp, qHas_bv _ hp, Int32.toBitVec_or, BitVec.getLsbD_or, qBit_get hk]
theorem qOrAnd (x : Int32) {p : Nat} (hp : p < 16) (h : qHas x (nI p) = false) : (x ||| qBit (nI p)) &&& (qBit (nI p) ^^^ (-1 : Int32)) = x := by
  rw [qHas_bv x hp] at h
  rw [← Int32.toBitVec_inj]
  apply BitVec.eq_of_getLsbD_eq
  intro i hi
  simp only [Int32.toBitVec_and, Int32.toBitVec_or, Int32.toBitVec_xor, BitVec.getLsbD_and, BitVec.getLsbD_or, BitVec.getLsbD_xor, qBit_get hp]
  have h1 : (-1 : Int32).toBitVec.getLsbD i = true := by
    rw [show (-1 : Int32).toBitVec = BitVec.allOnes 32 by decide, BitVec.getLsbD_allOnes]
    exact decide_eq_true hi
  rw [h1]
  by_cases e : p = i
  · subst e; rw [h]; simp
  · simp [e]
def qEach (s : Int32) : Int64 := (281479271743489 : Int64) <<< (s.toInt64 &&& 63)
def qInv (f : Int32) (d : Int64) : Prop := ∀ s, s < 16 → qHas f (nI s) = false → d &&& qEach (nI s) = 0
theorem qFE : ∀ p, p < 16 → ∀ s, s < 16 → ∀ t, t < 16 → (qFirst (nI p) <<< ((nI s).toInt64 &&& 63)) &&& qEach (nI t) = (if s = t then (qFirst (nI p) <<< ((nI s).toInt64 &&& 63)) else 0) := by decide +kernel
theorem bvq {a b : BitVec 64} (h : a &&& b = 0#64) (c : BitVec 64) (hc : c &&& b = c) : (a ||| c) &&& (b ^^^ BitVec.allOnes 64) = a := by
  apply BitVec.eq_of_getLsbD_eq
  intro i hi
  have h1 := congrArg (fun x => x.getLsbD i) h
  have h2 := congrArg (fun x => x.getLsbD i) hc
  simp only [BitVec.getLsbD_and, BitVec.getLsbD_or, BitVec.getLsbD_xor, BitVec.getLsbD_allOnes, BitVec.getLsbD_zero, hi, decide_true] at h1 h2 ⊢
  cases ha : a.getLsbD i <;> cases hb : b.getLsbD i <;> cases hc : c.getLsbD i <;> simp_all
theorem qLiftPut (d : Int64) {p s : Nat} (hp : p < 16) (hs : s < 16) (h : d &&& qEach (nI s) = 0) : qLiftD (qPutD d (nI p) (nI s)) (nI s) = d := by
  have h2 := qFE p hp s hs s hs
  rw [if_pos rfl] at h2
  rw [← Int64.toBitVec_inj, Int64.toBitVec_and] at h h2
  rw [← Int64.toBitVec_inj]
  show ((d ||| (qFirst (nI p) <<< ((nI s).toInt64 &&& 63))) &&& (qEach (nI s) ^^^ (-1 : Int64))).toBitVec = d.toBitVec
  rw [Int64.toBitVec_and, Int64.toBitVec_or, Int64.toBitVec_xor, show (-1 : Int64).toBitVec = BitVec.allOnes 64 by decide]
  exact bvq h _ h2
theorem bvz {a b c : BitVec 64} (h : a &&& b = 0#64) (hc : c &&& b = 0#64) : (a ||| c) &&& b = 0#64 := by
  apply BitVec.eq_of_getLsbD_eq
  intro i hi
  have h1 := congrArg (fun x => x.getLsbD i) h
  have h2 := congrArg (fun x => x.getLsbD i) hc
  simp only [BitVec.getLsbD_and, BitVec.getLsbD_or, BitVec.getLsbD_zero] at h1 h2 ⊢
  cases ha : a.getLsbD i <;> cases hb : b.getLsbD i <;> cases hc : c.getLsbD i <;> simp_all
theorem qInv_put {f : Int32} {d : Int64} {p s : Nat} (h : qInv f d) (hp : p < 16) (hs : s < 16) : qInv (f ||| qBit (nI s)) (qPutD d (nI p) (nI s)) := by
  intro t ht hf
  rw [qHas_or f hs ht] at hf
  simp only [Bool.or_eq_false_iff, decide_eq_false_iff_not] at hf
  have h1 := h t ht hf.1
  have h2 := qFE p hp s hs t ht
  rw [if_neg hf.2] at h2
  rw [← Int64.toBitVec_inj, Int64.toBitVec_and] at h1 h2
  rw [← Int64.toBitVec_inj]
  show ((d ||| (qFirst (nI p) <<< ((nI s).toInt64 &&& 63))) &&& qEach (nI t)).toBitVec = _
  rw [Int64.toBitVec_and, Int64.toBitVec_or]
  exact bvz h1 h2
theorem qHas_0 (p : Nat) (hp : p < 16) : qHas 0 (nI p) = false := by
  rw [qHas_bv _ hp]
  simp
theorem qSafeC_has (used win : Int32) : ∀ k, k ≤ 16 → ∀ p, p < 16 → qHas (qSafeC used win k) (nI p) = decide (p < k ∧ qHas used (nI p) = false ∧ qOwn (nI p) &&& win = 0)
  | 0, _, p, hp => by
    rw [show qSafeC used win 0 = 0 from rfl, qHas_0 p hp]
    simp
  | k + 1, hk, p, hp => by
    have ih := qSafeC_has used win k (by omega) p hp
    unfold qSafeC
    by_cases e : p = k
    · subst e
      split
      · rename_i h
        rw [qHas_or _ (by omega) hp, ih]
        simp [h.1, h.2]
      · rename_i h
        rw [ih]
        simp only [Nat.lt_irrefl, false_and, decide_false, Nat.lt_succ_self, true_and]
        exact (decide_eq_false h).symm
    · have e2 : (p < k + 1) = (p < k) := propext ⟨fun q => by omega, fun q => by omega⟩
      simp only [e2]
      split
      · rw [qHas_or _ (by omega) hp, ih, decide_eq_false (fun q : k = p => e q.symm), Bool.or_false]
      · exact ih
theorem qSafe_used {f used : Int32} {d : Int64} {w : Int32} {p : Nat} (hp : p < 16) (h : qHas (qSafe f used d w) (nI p) = true) : qHas used (nI p) = false := by
  have e := qSafeC_has used (qWinD f d w) 16 (Nat.le_refl 16) p hp
  rw [show qSafe f used d w = qSafeC used (qWinD f d w) 16 from rfl] at h
  rw [e] at h
  exact (of_decide_eq_true h).2.1
def allN (P : Nat → Bool) : Nat → Bool
  | 0 => true
  | k + 1 => allN P k && P k
def anyN (P : Nat → Bool) : Nat → Bool
  | 0 => false
  | k + 1 => anyN P k || P k
theorem allN_iff {P : Nat → Bool} : ∀ {k : Nat}, allN P k = true ↔ ∀ j, j < k → P j = true
  | 0 => ⟨fun _ j h => absurd h (Nat.not_lt_zero j), fun _ => rfl⟩
  | k + 1 => by
    simp only [allN, Bool.and_eq_true, allN_iff (k := k)]
    exact ⟨fun h j hj => by rcases Nat.lt_succ_iff_lt_or_eq.mp hj with q | q; exact h.1 j q; rw [q]; exact h.2, fun h => ⟨fun j hj => h j (by omega), h k (by omega)⟩⟩
theorem anyN_iff {P : Nat → Bool} : ∀ {k : Nat}, anyN P k = true ↔ ∃ j, j < k ∧ P j = true
  | 0 => ⟨fun h => (by cases h), fun ⟨j, h, _⟩ => absurd h (Nat.not_lt_zero j)⟩
  | k + 1 => by
    simp only [anyN, Bool.or_eq_true, anyN_iff (k := k)]
    constructor
    · rintro (⟨j, h1, h2⟩ | h)
      · exact ⟨j, by omega, h2⟩
      · exact ⟨k, by omega, h⟩
    · rintro ⟨j, h1, h2⟩
      rcases Nat.lt_succ_iff_lt_or_eq.mp h1 with q | q
      · exact Or.inl ⟨j, q, h2⟩
      · exact Or.inr (q ▸ h2)
theorem allN_f {P : Nat → Bool} {k n : Nat} (hk : k < n) (h : P k = false) : allN P n = false := by
  cases e : allN P n
  · rfl
  · rw [allN_iff.mp e k hk] at h; cases h
theorem anyN_t {P : Nat → Bool} {k n : Nat} (hk : k < n) (h : P k = true) : anyN P n = true := anyN_iff.mpr ⟨k, hk, h⟩
/-! the looking ahead, as the class does it: (who gives can force to win, .. to lose) -/
def qPL (sub : Int32 → Int32 → Int64 → Bool × Bool) (n : Nat) (f u : Int32) (d : Int64) (p : Nat) : Bool := decide (2 ≤ n) && allN (fun s => qHas f (nI s) || (sub (f ||| qBit (nI s)) (u ||| qBit (nI p)) (qPutD d (nI p) (nI s))).2) 16
def qPW (sub : Int32 → Int32 → Int64 → Bool × Bool) (n : Nat) (f u : Int32) (d : Int64) (p : Nat) : Bool := decide (3 ≤ n) && anyN (fun s => !qHas f (nI s) && (sub (f ||| qBit (nI s)) (u ||| qBit (nI p)) (qPutD d (nI p) (nI s))).1) 16
def qGW (sub : Int32 → Int32 → Int64 → Bool × Bool) (w : Int32) (n : Nat) (f u : Int32) (d : Int64) : Bool := decide (2 ≤ n) && anyN (fun p => qHas (qSafe f u d w) (nI p) && qPL sub n f u d p) 16
def qGL (sub : Int32 → Int32 → Int64 → Bool × Bool) (w : Int32) (n : Nat) (f u : Int32) (d : Int64) : Bool := decide (1 ≤ n) && decide (¬ f = 65535) && allN (fun p => !qHas (qSafe f u d w) (nI p) || qPW sub n f u d p) 16
def qS (w : Int32) : Nat → Int32 → Int32 → Int64 → Bool × Bool
  | 0 => fun _ _ _ => (false, false)
  | n + 1 => fun f u d => (qGW (qS w n) w (n + 1) f u d, qGL (qS w n) w (n + 1) f u d)
/-- with n placings left: the giver wins, loses; the placer of p loses, wins later -/
def qGw (w : Int32) (n : Nat) (f u : Int32) (d : Int64) : Bool := (qS w n f u d).1
def qGl (w : Int32) (n : Nat) (f u : Int32) (d : Int64) : Bool := (qS w n f u d).2
def qPl (w : Int32) (n : Nat) (f u : Int32) (d : Int64) (p : Nat) : Bool := qPL (qS w (n - 1)) n f u d p
def qPw (w : Int32) (n : Nat) (f u : Int32) (d : Int64) (p : Nat) : Bool := qPW (qS w (n - 1)) n f u d p
theorem qGw_eq (w : Int32) (n : Nat) (f u : Int32) (d : Int64) : qGw w n f u d = (decide (2 ≤ n) && anyN (fun p => qHas (qSafe f u d w) (nI p) && qPl w n f u d p) 16) := by
  cases n
  · rfl
  · rfl
theorem qGl_eq (w : Int32) (n : Nat) (f u : Int32) (d : Int64) : qGl w n f u d = (decide (1 ≤ n) && decide (¬ f = 65535) && allN (fun p => !qHas (qSafe f u d w) (nI p) || qPw w n f u d p) 16) := by
  cases n
  · rfl
  · rfl
theorem zb_f0 {b : Bool} (h : b = false) : zb b = 0 := by rw [h]; rfl
theorem anyN_s {P : Nat → Bool} {k : Nat} (h : anyN P k = false) (h2 : P k = false) : anyN P (k + 1) = false := by rw [anyN, h, h2]; rfl
theorem allN_s {P : Nat → Bool} {k : Nat} (h : allN P k = true) (h2 : P k = true) : allN P (k + 1) = true := by rw [allN, h, h2]; rfl
def qPwF (w : Int32) (n : Nat) (f u : Int32) (d : Int64) (p : Nat) (s : Nat) : Bool := !qHas f (nI s) && qGw w (n - 1) (f ||| qBit (nI s)) (u ||| qBit (nI p)) (qPutD d (nI p) (nI s))
def qPlF (w : Int32) (n : Nat) (f u : Int32) (d : Int64) (p : Nat) (s : Nat) : Bool := qHas f (nI s) || qGl w (n - 1) (f ||| qBit (nI s)) (u ||| qBit (nI p)) (qPutD d (nI p) (nI s))
def qGwF (w : Int32) (n : Nat) (f u : Int32) (d : Int64) (p : Nat) : Bool := qHas (qSafe f u d w) (nI p) && qPl w n f u d p
def qGlF (w : Int32) (n : Nat) (f u : Int32) (d : Int64) (p : Nat) : Bool := !qHas (qSafe f u d w) (nI p) || qPw w n f u d p
theorem qPw_e (w : Int32) (n : Nat) (f u : Int32) (d : Int64) (p : Nat) : qPw w n f u d p = (decide (3 ≤ n) && anyN (qPwF w n f u d p) 16) := rfl
theorem qPl_e (w : Int32) (n : Nat) (f u : Int32) (d : Int64) (p : Nat) : qPl w n f u d p = (decide (2 ≤ n) && allN (qPlF w n f u d p) 16) := rfl
theorem qGw_e (w : Int32) (n : Nat) (f u : Int32) (d : Int64) : qGw w n f u d = (decide (2 ≤ n) && anyN (qGwF w n f u d) 16) := qGw_eq w n f u d
theorem qGl_e (w : Int32) (n : Nat) (f u : Int32) (d : Int64) : qGl w n f u d = (decide (1 ≤ n) && decide (¬ f = 65535) && allN (qGlF w n f u d) 16) := qGl_eq w n f u d
theorem qPw_n {w : Int32} {n : Nat} {f u : Int32} {d : Int64} {p : Nat} (h : ¬ 3 ≤ n) : qPw w n f u d p = false := by rw [qPw_e, decide_eq_false h]; rfl
theorem qPl_n {w : Int32} {n : Nat} {f u : Int32} {d : Int64} {p : Nat} (h : ¬ 2 ≤ n) : qPl w n f u d p = false := by rw [qPl_e, decide_eq_false h]; rfl
theorem qGw_n {w : Int32} {n : Nat} {f u : Int32} {d : Int64} (h : ¬ 2 ≤ n) : qGw w n f u d = false := by rw [qGw_e, decide_eq_false h]; rfl
theorem qGl_n {w : Int32} {n : Nat} {f u : Int32} {d : Int64} (h : ¬ 1 ≤ n) : qGl w n f u d = false := by rw [qGl_e, decide_eq_false h]; rfl
theorem qGl_n2 {w : Int32} {n : Nat} {f u : Int32} {d : Int64} (h : f = 65535) : qGl w n f u d = false := by rw [qGl_e, decide_eq_false (p := ¬ f = 65535) (fun q => q h), Bool.and_false]; rfl
theorem qPw_b {w : Int32} {n : Nat} {f u : Int32} {d : Int64} {p : Nat} {b : Bool} (h : 3 ≤ n) (e : anyN (qPwF w n f u d p) 16 = b) : qPw w n f u d p = b := by rw [qPw_e, decide_eq_true h, e, Bool.true_and]
theorem qPl_b {w : Int32} {n : Nat} {f u : Int32} {d : Int64} {p : Nat} {b : Bool} (h : 2 ≤ n) (e : allN (qPlF w n f u d p) 16 = b) : qPl w n f u d p = b := by rw [qPl_e, decide_eq_true h, e, Bool.true_and]
theorem qGw_b {w : Int32} {n : Nat} {f u : Int32} {d : Int64} {b : Bool} (h : 2 ≤ n) (e : anyN (qGwF w n f u d) 16 = b) : qGw w n f u d = b := by rw [qGw_e, decide_eq_true h, e, Bool.true_and]
theorem qGl_b {w : Int32} {n : Nat} {f u : Int32} {d : Int64} {b : Bool} (h : 1 ≤ n) (h2 : ¬ f = 65535) (e : allN (qGlF w n f u d) 16 = b) : qGl w n f u d = b := by rw [qGl_e, decide_eq_true h, decide_eq_true h2, e, Bool.true_and]; rfl
/-- the worth, for the player who is to give; to place p; who has placed p on s -/
def qWG (w : Int32) (n : Nat) (f u : Int32) (d : Int64) : Int32 := if qGw w n f u d = true then 1 else if qGl w n f u d = true then -1 else 0
def qWP (w : Int32) (n : Nat) (f u : Int32) (d : Int64) (p : Nat) : Int32 := if ¬ qWin f d w (nI p) = 0 ∨ qPw w n f u d p = true then 1 else if qPl w n f u d p = true then -1 else 0
def qWA (w : Int32) (n : Nat) (f u : Int32) (d : Int64) (p s : Nat) : Int32 := if qHas (qWin f d w (nI p)) (nI s) = true then 1 else qWG w (n - 1) (f ||| qBit (nI s)) (u ||| qBit (nI p)) (qPutD d (nI p) (nI s))
def findN (P : Nat → Bool) : Nat → Nat → Nat
  | 0, k => k
  | m + 1, k => if P k = true then k else findN P m (k + 1)
theorem findN_s {P : Nat → Bool} {k z : Nat} (hk : k < 15) (h : P k = false) (e : z = findN P (15 - k) k) : z = findN P (15 - (k + 1)) (k + 1) := by
  rw [e, show 15 - k = (15 - (k + 1)) + 1 by omega]
  exact if_neg (by rw [h]; decide)
theorem findN_t {P : Nat → Bool} {k z : Nat} (hk : k < 15) (h : P k = true) (e : z = findN P (15 - k) k) : z = k := by
  rw [e, show 15 - k = (15 - (k + 1)) + 1 by omega]
  exact if_pos h
theorem findN_15 {P : Nat → Bool} {k z : Nat} (hk : k = 15) (e : z = findN P (15 - k) k) : z = k := by
  subst hk; exact e
def qBPF (w : Int32) (n : Nat) (f u : Int32) (d : Int64) (k : Nat) : Bool := !qHas u (nI k) && decide (-qWP w n f u d k = qWG w n f u d)
def qBP (w : Int32) (n : Nat) (f u : Int32) (d : Int64) : Nat := findN (qBPF w n f u d) 15 0
def qBSF (w : Int32) (n : Nat) (f u : Int32) (d : Int64) (p k : Nat) : Bool := !qHas f (nI k) && decide (qWA w n f u d p k = qWP w n f u d p)
def qBS (w : Int32) (n : Nat) (f u : Int32) (d : Int64) (p : Nat) : Nat := findN (qBSF w n f u d p) 15 0
end
section
/-! the class: looking ahead -/
def P_X0_giverWins (q0 q1 q2 q3 q4 q5 q6 : Int32) (q7 : Int64) (q8 q9 : Int32) (q10 : Int64) (n : Nat) : Int32 → QS → Prop := fun r u => u = (q0, q1, q2, q3, q4, q5, q6, q7, q8, q9, q10) ∧ r = zb (qGw q0 n q5 q6 q7)
def P_X0_giverLoses (q0 q1 q2 q3 q4 q5 q6 : Int32) (q7 : Int64) (q8 q9 : Int32) (q10 : Int64) (n : Nat) : Int32 → QS → Prop := fun r u => u = (q0, q1, q2, q3, q4, q5, q6, q7, q8, q9, q10) ∧ r = zb (qGl q0 n q5 q6 q7)
def P_X0_placerWinsLater (q0 q1 q2 q3 q4 q5 q6 : Int32) (q7 : Int64) (q8 q9 : Int32) (q10 : Int64) (n pp : Nat) : Int32 → QS → Prop := fun r u => u = (q0, q1, q2, q3, q4, q5, q6, q7, q8, q9, q10) ∧ r = zb (qPw q0 n q5 q6 q7 pp)
def P_X0_placerLoses (q0 q1 q2 q3 q4 q5 q6 : Int32) (q7 : Int64) (q8 q9 : Int32) (q10 : Int64) (n pp : Nat) : Int32 → QS → Prop := fun r u => u = (q0, q1, q2, q3, q4, q5, q6, q7, q8, q9, q10) ∧ r = zb (qPl q0 n q5 q6 q7 pp)
def K_GW (l : Launch) (g : zG) (bL h n : Nat) : Prop := ∀ (q0 q1 q2 q3 q4 q5 q6 : Int32) (q7 : Int64) (q8 q9 : Int32) (q10 : Int64), qInv q5 q7 → zM l yX0_giverWins wsX0_giverWins (6 + 2 * n) (200 + 50 * n) g [.ref h, .int (nI n)] (oQ h (q0, q1, q2, q3, q4, q5, q6, q7, q8, q9, q10)) (zEL bL) (zQi g (P_X0_giverWins q0 q1 q2 q3 q4 q5 q6 q7 q8 q9 q10 n) (oQ h))
def K_GL (l : Launch) (g : zG) (bL h n : Nat) : Prop := ∀ (q0 q1 q2 q3 q4 q5 q6 : Int32) (q7 : Int64) (q8 q9 : Int32) (q10 : Int64), qInv q5 q7 → zM l yX0_giverLoses wsX0_giverLoses (6 + 2 * n) (200 + 50 * n) g [.ref h, .int (nI n)] (oQ h (q0, q1, q2, q3, q4, q5, q6, q7, q8, q9, q10)) (zEL bL) (zQi g (P_X0_giverLoses q0 q1 q2 q3 q4 q5 q6 q7 q8 q9 q10 n) (oQ h))
def K_PW (l : Launch) (g : zG) (bL h n : Nat) : Prop := ∀ (q0 q1 q2 q3 q4 q5 q6 : Int32) (q7 : Int64) (q8 q9 : Int32) (q10 : Int64) (pp : Nat), pp < 16 → qHas q6 (nI pp) = false → qInv q5 q7 → zM l yX0_placerWinsLater wsX0_placerWinsLater (5 + 2 * n) (175 + 50 * n) g [.ref h, .int (nI pp), .int (nI n)] (oQ h (q0, q1, q2, q3, q4, q5, q6, q7, q8, q9, q10)) (zEL bL) (zQi g (P_X0_placerWinsLater q0 q1 q2 q3 q4 q5 q6 q7 q8 q9 q10 n pp) (oQ h))
def K_PL (l : Launch) (g : zG) (bL h n : Nat) : Prop := ∀ (q0 q1 q2 q3 q4 q5 q6 : Int32) (q7 : Int64) (q8 q9 : Int32) (q10 : Int64) (pp : Nat), pp < 16 → qHas q6 (nI pp) = false → qInv q5 q7 → zM l yX0_placerLoses wsX0_placerLoses (5 + 2 * n) (175 + 50 * n) g [.ref h, .int (nI pp), .int (nI n)] (oQ h (q0, q1, q2, q3, q4, q5, q6, q7, q8, q9, q10)) (zEL bL) (zQi g (P_X0_placerLoses q0 q1 q2 q3 q4 q5 q6 q7 q8 q9 q10 n pp) (oQ h))
theorem inw_X0_giverWins : ∀ w ∈ wsX00, w ∈ wsX0_giverWins := by decide +kernel
set_option maxHeartbeats 4000000 in
set_option maxRecDepth 100000 in
theorem c_X0_giverWins (l : Launch) (g : zG) (bL h : Nat) (q0 q1 q2 q3 q4 q5 q6 : Int32) (q7 : Int64) (q8 q9 : Int32) (q10 : Int64)  (n : Nat) (hn : n ≤ 1000) (hinv : qInv q5 q7) (hPL : K_PL l g bL h n) : zM l yX0_giverWins wsX0_giverWins (6 + 2 * n) (200 + 50 * n) g [.ref h, .int (nI n)] (oQ h (q0, q1, q2, q3, q4, q5, q6, q7, q8, q9, q10)) (zEL bL) (zQi g (P_X0_giverWins q0 q1 q2 q3 q4 q5 q6 q7 q8 q9 q10 n) (oQ h)) := by
  refine zstart (cc := cX0_giverWins) (maxL := 4) (ret := (some .boolean)) (own := RX0) rfl (by decide) rfl zStL (Nat.le_of_ble_eq_true rfl) ?_
  intro p e s m below meth c A Z hr hlk H locs X ls hl
  have hx := Z.1.1
  have hb := Z.1.2.1
  have hin : ∀ w ∈ wsX00, w ∈ wsX0_giverWins := inw_X0_giverWins
  have hl : lv_has ls 4 [(0, .ref h), (1, .int (nI n))] := hl
  have X : zh g A (oQ h (q0, q1, q2, q3, q4, q5, q6, q7, q8, q9, q10)) s.heap H locs := X
  refine lv_iload_n hx hb dX0_giverWins_0 rfl (lv_at hl 1 rfl) ?_
  refine lv_iconst (v := (2 : Int32)) hx hb dX0_giverWins_1 (by decide) ?_
  refine lv_icmp_ge (tgt := 7) hx hb dX0_giverWins_2 (by decide) (fun c1 => ?_) (fun c1 => ?_)
  · have qc1 := c1
    have c1n : 2 ≤ n := zn_let (by omega) (by omega) c1
    refine lv_aload_n hx hb dX0_giverWins_7 rfl (lv_at hl 0 rfl) ?_
    refine zcallVi (n := 0) (As := []) (rest := []) (ci := 0) (C := RX0) (T := TX0) (N := 11) Z X (c_X0_safePieces l g bL h q0 q1 q2 q3 q4 q5 q6 q7 q8 q9 q10 ) gX0_giverWins_X0_safePieces rfl (by decide +kernel) ⟨by show _ ≤ (6 + 2 * n); omega, by show _ ≤ (200 + 50 * n); omega⟩ rfl rfl rfl rfl hl.1 (Nat.le_of_ble_eq_true rfl) dX0_giverWins_8 ⟨Nat.zero_le _, Nat.zero_le _⟩ (fun r1 ur1 H locs hrr1 X => ?_)
    obtain ⟨rfl, rfl⟩ : ur1 = (q0, q1, q2, q3, q4, q5, q6, q7, q8, q9, q10) ∧ r1 = qSafe q5 q6 q7 q0 := hrr1
    have X : zh g A (oQ h (q0, q1, q2, q3, q4, q5, q6, q7, q8, q9, q10)) s.heap H locs := X
    refine lv_istore_n (lv' := [(2, .int (qSafe q5 q6 q7 q0)), (0, .ref h), (1, .int (nI n))]) hx hb dX0_giverWins_11 rfl hl (by decide) rfl (fun ls hl => ?_)
    refine lv_iconst (v := (0 : Int32)) hx hb dX0_giverWins_12 (by decide) ?_
    refine lv_istore_n (lv' := [(3, .int (0 : Int32)), (2, .int (qSafe q5 q6 q7 q0)), (0, .ref h), (1, .int (nI n))]) hx hb dX0_giverWins_13 rfl hl (by decide) rfl (fun ls hl => ?_)
    have cut14 : ∀ (n14 : Nat), ∀ (k : Nat), (k ≤ 16) → (anyN (qGwF q0 n q5 q6 q7) k = false) → (17 - k ≤ n14) → ∀ (H : Heap) (locs : List Loc) (ls : Array Slot), zh g A (oQ h (q0, q1, q2, q3, q4, q5, q6, q7, q8, q9, q10)) s.heap H locs → lv_has ls 4 [(3, .int (nI k)), (2, .int (qSafe q5 q6 q7 q0)), (0, .ref h), (1, .int (nI n))] → W p l e { frames := (6 + 2 * n), cells := 0, slots := 0, locals := (200 + 50 * n) } s m ([.ref h, .int (nI n)] : List Value).toArray below meth c H locs 0 0 (MQ below ((zQi g (P_X0_giverWins q0 q1 q2 q3 q4 q5 q6 q7 q8 q9 q10 n) (oQ h)) A) ([.ref h, .int (nI n)] : List Value).toArray s 0 0 A) (F0 m 14 ls []) := by
      intro n14
      induction n14 with
      | zero =>
        intro k hk hall hm14
        exact absurd hm14 (by omega)
      | succ n14 ih14 =>
        intro k hk hall hm14 H locs ls X hl
        refine lv_iload_n hx hb dX0_giverWins_14 rfl (lv_at hl 0 rfl) ?_
        refine lv_bipush (v := (16 : Int32)) hx hb dX0_giverWins_15 (by decide) ?_
        refine lv_icmp_ge (tgt := 45) hx hb dX0_giverWins_17 (by decide) (fun c3 => ?_) (fun c3 => ?_)
        · have qc3 := c3
          have c3n : 16 ≤ k := zn_let (by omega) (by omega) c3
          refine lv_iconst (v := (0 : Int32)) hx hb dX0_giverWins_45 (by decide) ?_
          exact zreti Z hr hlk (q0, q1, q2, q3, q4, q5, q6, q7, q8, q9, q10) X dX0_giverWins_46 rfl (⟨rfl, (zb_f0 (qGw_b (by omega) (by rw [show (16 : Nat) = k by omega]; exact hall))).symm⟩)
        · have qc3 := c3
          have c3n : ¬ 16 ≤ k := zn_len (by omega) (by omega) c3
          refine lv_iload_n hx hb dX0_giverWins_20 rfl (lv_at hl 1 rfl) ?_
          refine lv_iload_n hx hb dX0_giverWins_21 rfl (lv_at hl 0 rfl) ?_
          refine zcallSi (n := 2) (As := [.int (qSafe q5 q6 q7 q0), .int (nI k)]) (rest := []) Z X (c_X0_has l g (qSafe q5 q6 q7 q0) (nI k)) gX0_giverWins_X0_has rfl (by decide +kernel) ⟨by show _ ≤ (6 + 2 * n); omega, by show _ ≤ (200 + 50 * n); omega⟩ rfl rfl hl.1 (Nat.le_of_ble_eq_true rfl) dX0_giverWins_22 ⟨Nat.zero_le _, Nat.zero_le _⟩ (fun r3 H locs hrr3 X => ?_)
          obtain rfl : r3 = zb (qHas (qSafe q5 q6 q7 q0) (nI k)) := hrr3
          refine lv_if_eq (tgt := 39) hx hb dX0_giverWins_25 (by decide) (fun c5 => ?_) (fun c5 => ?_)
          · have qc5 := c5
            have hh : qHas (qSafe q5 q6 q7 q0) (nI k) = false := zb_0.mp c5
            refine lv_iinc (v := nI (k + 1)) (lv' := [(3, .int (nI (k + 1))), (2, .int (qSafe q5 q6 q7 q0)), (0, .ref h), (1, .int (nI n))]) hx hb dX0_giverWins_39 hl (k := 0) rfl (zi_inc k) (by decide) rfl (fun ls hl => ?_)
            refine lv_goto (tgt := 14) hx hb dX0_giverWins_42 (by decide) ?_
            exact ih14 (k + 1) (by first | assumption | omega) (by first | exact anyN_s hall (by unfold qGwF; rw [hh]; rfl) | exact anyN_s hall (by unfold qGwF; rw [hq, Bool.and_false])) (by omega) H locs ls X (lv_sub hl [0, 1, 2, 3] rfl)
          · have qc5 := c5
            have hh : qHas (qSafe q5 q6 q7 q0) (nI k) = true := zb_n0.mp c5
            refine lv_aload_n hx hb dX0_giverWins_28 rfl (lv_at hl 2 rfl) ?_
            refine lv_iload_n hx hb dX0_giverWins_29 rfl (lv_at hl 0 rfl) ?_
            refine lv_iload_n hx hb dX0_giverWins_30 rfl (lv_at hl 3 rfl) ?_
            refine zcallVi (n := 2) (As := [.int (nI k), .int (nI n)]) (rest := []) (ci := 0) (C := RX0) (T := TX0) (N := 11) Z X (hPL q0 q1 q2 q3 q4 q5 q6 q7 q8 q9 q10 k (by omega) (qSafe_used (by omega) hh) hinv) gX0_giverWins_X0_placerLoses rfl (by decide +kernel) ⟨by show _ ≤ (6 + 2 * n); omega, by show _ ≤ (200 + 50 * n); omega⟩ rfl rfl rfl rfl hl.1 (Nat.le_of_ble_eq_true rfl) dX0_giverWins_31 ⟨Nat.zero_le _, Nat.zero_le _⟩ (fun r5 ur5 H locs hrr5 X => ?_)
            obtain ⟨rfl, rfl⟩ : ur5 = (q0, q1, q2, q3, q4, q5, q6, q7, q8, q9, q10) ∧ r5 = zb (qPl q0 n q5 q6 q7 k) := hrr5
            have X : zh g A (oQ h (q0, q1, q2, q3, q4, q5, q6, q7, q8, q9, q10)) s.heap H locs := X
            refine lv_if_eq (tgt := 39) hx hb dX0_giverWins_34 (by decide) (fun c7 => ?_) (fun c7 => ?_)
            · have qc7 := c7
              have hq : qPl q0 n q5 q6 q7 k = false := zb_0.mp c7
              refine lv_iinc (v := nI (k + 1)) (lv' := [(3, .int (nI (k + 1))), (2, .int (qSafe q5 q6 q7 q0)), (0, .ref h), (1, .int (nI n))]) hx hb dX0_giverWins_39 hl (k := 0) rfl (zi_inc k) (by decide) rfl (fun ls hl => ?_)
              refine lv_goto (tgt := 14) hx hb dX0_giverWins_42 (by decide) ?_
              exact ih14 (k + 1) (by first | assumption | omega) (by first | exact anyN_s hall (by unfold qGwF; rw [hh]; rfl) | exact anyN_s hall (by unfold qGwF; rw [hq, Bool.and_false])) (by omega) H locs ls X (lv_sub hl [0, 1, 2, 3] rfl)
            · have qc7 := c7
              have hq : qPl q0 n q5 q6 q7 k = true := zb_n0.mp c7
              refine lv_iconst (v := (1 : Int32)) hx hb dX0_giverWins_37 (by decide) ?_
              exact zreti Z hr hlk (q0, q1, q2, q3, q4, q5, q6, q7, q8, q9, q10) X dX0_giverWins_38 rfl (⟨rfl, (zb_t (qGw_b (by omega) (anyN_t (k := k) (by omega) (by unfold qGwF; rw [hh, hq]; rfl)))).symm⟩)
    exact cut14 17 0 (by first | assumption | omega) (rfl) (by omega) H locs ls X (lv_sub hl [0, 1, 2, 3] rfl)
  · have qc1 := c1
    have c1n : ¬ 2 ≤ n := zn_len (by omega) (by omega) c1
    refine lv_iconst (v := (0 : Int32)) hx hb dX0_giverWins_5 (by decide) ?_
    exact zreti Z hr hlk (q0, q1, q2, q3, q4, q5, q6, q7, q8, q9, q10) X dX0_giverWins_6 rfl (⟨rfl, (zb_f0 (qGw_n (by omega))).symm⟩)
theorem inw_X0_giverLoses : ∀ w ∈ wsX00, w ∈ wsX0_giverLoses := by decide +kernel
theorem lk_X0_giverLoses_16 : Cond.fieldLink RX0 16 "Quarterboard" "filled" "I" ∈ wsX0_giverLoses := by decide +kernel
set_option maxHeartbeats 4000000 in
set_option maxRecDepth 100000 in
theorem c_X0_giverLoses (l : Launch) (g : zG) (bL h : Nat) (q0 q1 q2 q3 q4 q5 q6 : Int32) (q7 : Int64) (q8 q9 : Int32) (q10 : Int64)  (n : Nat) (hn : n ≤ 1000) (hinv : qInv q5 q7) (hPW : K_PW l g bL h n) : zM l yX0_giverLoses wsX0_giverLoses (6 + 2 * n) (200 + 50 * n) g [.ref h, .int (nI n)] (oQ h (q0, q1, q2, q3, q4, q5, q6, q7, q8, q9, q10)) (zEL bL) (zQi g (P_X0_giverLoses q0 q1 q2 q3 q4 q5 q6 q7 q8 q9 q10 n) (oQ h)) := by
  refine zstart (cc := cX0_giverLoses) (maxL := 4) (ret := (some .boolean)) (own := RX0) rfl (by decide) rfl zStL (Nat.le_of_ble_eq_true rfl) ?_
  intro p e s m below meth c A Z hr hlk H locs X ls hl
  have hx := Z.1.1
  have hb := Z.1.2.1
  have hin : ∀ w ∈ wsX00, w ∈ wsX0_giverLoses := inw_X0_giverLoses
  have hl : lv_has ls 4 [(0, .ref h), (1, .int (nI n))] := hl
  have X : zh g A (oQ h (q0, q1, q2, q3, q4, q5, q6, q7, q8, q9, q10)) s.heap H locs := X
  refine lv_iload_n hx hb dX0_giverLoses_0 rfl (lv_at hl 1 rfl) ?_
  refine lv_iconst (v := (1 : Int32)) hx hb dX0_giverLoses_1 (by decide) ?_
  refine lv_icmp_lt (tgt := 14) hx hb dX0_giverLoses_2 (by decide) (fun c1 => ?_) (fun c1 => ?_)
  · have qc1 := c1
    have c1n : n < 1 := zn_ltt (by omega) (by omega) c1
    refine lv_iconst (v := (0 : Int32)) hx hb dX0_giverLoses_14 (by decide) ?_
    exact zreti Z hr hlk (q0, q1, q2, q3, q4, q5, q6, q7, q8, q9, q10) X dX0_giverLoses_15 rfl (⟨rfl, by first | exact (zb_f0 (qGl_n2 hne)).symm | exact (zb_f0 (qGl_n (by omega))).symm⟩)
  · have qc1 := c1
    have c1n : ¬ n < 1 := zn_ltn (by omega) (by omega) c1
    refine lv_aload_n hx hb dX0_giverLoses_5 rfl (lv_at hl 0 rfl) ?_
    refine zget (fs := [.int q0, .int q1, .int q2, .int q3, .int q4, .int q5, .int q6, .long q7, .int q8, .int q9, .long q10]) (v := .int q5) Z hin X (ci := 0) (C := RX0) (T := TX0) (N := 11) rfl rfl 5 (by decide) lk_X0_giverLoses_16 rfl dX0_giverLoses_6 ?_
    refine lv_ldc (v := (65535 : Int32)) hx hb Z.1.2.2.2.1 (Z.1.2.2.2.2 (.constant RX0 78 (65535)) (by decide +kernel)) dX0_giverLoses_9 ?_
    refine lv_icmp_ne (tgt := 16) hx hb dX0_giverLoses_11 (by decide) (fun c2 => ?_) (fun c2 => ?_)
    · have qc2 := c2
      have hne : ¬ q5 = 65535 := c2
      refine lv_aload_n hx hb dX0_giverLoses_16 rfl (lv_at hl 0 rfl) ?_
      refine zcallVi (n := 0) (As := []) (rest := []) (ci := 0) (C := RX0) (T := TX0) (N := 11) Z X (c_X0_safePieces l g bL h q0 q1 q2 q3 q4 q5 q6 q7 q8 q9 q10 ) gX0_giverLoses_X0_safePieces rfl (by decide +kernel) ⟨by show _ ≤ (6 + 2 * n); omega, by show _ ≤ (200 + 50 * n); omega⟩ rfl rfl rfl rfl hl.1 (Nat.le_of_ble_eq_true rfl) dX0_giverLoses_17 ⟨Nat.zero_le _, Nat.zero_le _⟩ (fun r2 ur2 H locs hrr2 X => ?_)
      obtain ⟨rfl, rfl⟩ : ur2 = (q0, q1, q2, q3, q4, q5, q6, q7, q8, q9, q10) ∧ r2 = qSafe q5 q6 q7 q0 := hrr2
      have X : zh g A (oQ h (q0, q1, q2, q3, q4, q5, q6, q7, q8, q9, q10)) s.heap H locs := X
      refine lv_istore_n (lv' := [(2, .int (qSafe q5 q6 q7 q0)), (0, .ref h), (1, .int (nI n))]) hx hb dX0_giverLoses_20 rfl hl (by decide) rfl (fun ls hl => ?_)
      refine lv_iconst (v := (0 : Int32)) hx hb dX0_giverLoses_21 (by decide) ?_
      refine lv_istore_n (lv' := [(3, .int (0 : Int32)), (2, .int (qSafe q5 q6 q7 q0)), (0, .ref h), (1, .int (nI n))]) hx hb dX0_giverLoses_22 rfl hl (by decide) rfl (fun ls hl => ?_)
      have cut23 : ∀ (n23 : Nat), ∀ (k : Nat), (k ≤ 16) → (allN (qGlF q0 n q5 q6 q7) k = true) → (17 - k ≤ n23) → ∀ (H : Heap) (locs : List Loc) (ls : Array Slot), zh g A (oQ h (q0, q1, q2, q3, q4, q5, q6, q7, q8, q9, q10)) s.heap H locs → lv_has ls 4 [(3, .int (nI k)), (2, .int (qSafe q5 q6 q7 q0)), (0, .ref h), (1, .int (nI n))] → W p l e { frames := (6 + 2 * n), cells := 0, slots := 0, locals := (200 + 50 * n) } s m ([.ref h, .int (nI n)] : List Value).toArray below meth c H locs 0 0 (MQ below ((zQi g (P_X0_giverLoses q0 q1 q2 q3 q4 q5 q6 q7 q8 q9 q10 n) (oQ h)) A) ([.ref h, .int (nI n)] : List Value).toArray s 0 0 A) (F0 m 23 ls []) := by
        intro n23
        induction n23 with
        | zero =>
          intro k hk hall hm23
          exact absurd hm23 (by omega)
        | succ n23 ih23 =>
          intro k hk hall hm23 H locs ls X hl
          refine lv_iload_n hx hb dX0_giverLoses_23 rfl (lv_at hl 0 rfl) ?_
          refine lv_bipush (v := (16 : Int32)) hx hb dX0_giverLoses_24 (by decide) ?_
          refine lv_icmp_ge (tgt := 54) hx hb dX0_giverLoses_26 (by decide) (fun c4 => ?_) (fun c4 => ?_)
          · have qc4 := c4
            have c4n : 16 ≤ k := zn_let (by omega) (by omega) c4
            refine lv_iconst (v := (1 : Int32)) hx hb dX0_giverLoses_54 (by decide) ?_
            exact zreti Z hr hlk (q0, q1, q2, q3, q4, q5, q6, q7, q8, q9, q10) X dX0_giverLoses_55 rfl (⟨rfl, (zb_t (qGl_b (by omega) hne (by rw [show (16 : Nat) = k by omega]; exact hall))).symm⟩)
          · have qc4 := c4
            have c4n : ¬ 16 ≤ k := zn_len (by omega) (by omega) c4
            refine lv_iload_n hx hb dX0_giverLoses_29 rfl (lv_at hl 1 rfl) ?_
            refine lv_iload_n hx hb dX0_giverLoses_30 rfl (lv_at hl 0 rfl) ?_
            refine zcallSi (n := 2) (As := [.int (qSafe q5 q6 q7 q0), .int (nI k)]) (rest := []) Z X (c_X0_has l g (qSafe q5 q6 q7 q0) (nI k)) gX0_giverLoses_X0_has rfl (by decide +kernel) ⟨by show _ ≤ (6 + 2 * n); omega, by show _ ≤ (200 + 50 * n); omega⟩ rfl rfl hl.1 (Nat.le_of_ble_eq_true rfl) dX0_giverLoses_31 ⟨Nat.zero_le _, Nat.zero_le _⟩ (fun r4 H locs hrr4 X => ?_)
            obtain rfl : r4 = zb (qHas (qSafe q5 q6 q7 q0) (nI k)) := hrr4
            refine lv_if_eq (tgt := 48) hx hb dX0_giverLoses_34 (by decide) (fun c6 => ?_) (fun c6 => ?_)
            · have qc6 := c6
              have hh : qHas (qSafe q5 q6 q7 q0) (nI k) = false := zb_0.mp c6
              refine lv_iinc (v := nI (k + 1)) (lv' := [(3, .int (nI (k + 1))), (2, .int (qSafe q5 q6 q7 q0)), (0, .ref h), (1, .int (nI n))]) hx hb dX0_giverLoses_48 hl (k := 0) rfl (zi_inc k) (by decide) rfl (fun ls hl => ?_)
              refine lv_goto (tgt := 23) hx hb dX0_giverLoses_51 (by decide) ?_
              exact ih23 (k + 1) (by first | assumption | omega) (by first | exact allN_s hall (by unfold qGlF; rw [hh]; rfl) | exact allN_s hall (by unfold qGlF; rw [hq, Bool.or_true])) (by omega) H locs ls X (lv_sub hl [0, 1, 2, 3] rfl)
            · have qc6 := c6
              have hh : qHas (qSafe q5 q6 q7 q0) (nI k) = true := zb_n0.mp c6
              refine lv_aload_n hx hb dX0_giverLoses_37 rfl (lv_at hl 2 rfl) ?_
              refine lv_iload_n hx hb dX0_giverLoses_38 rfl (lv_at hl 0 rfl) ?_
              refine lv_iload_n hx hb dX0_giverLoses_39 rfl (lv_at hl 3 rfl) ?_
              refine zcallVi (n := 2) (As := [.int (nI k), .int (nI n)]) (rest := []) (ci := 0) (C := RX0) (T := TX0) (N := 11) Z X (hPW q0 q1 q2 q3 q4 q5 q6 q7 q8 q9 q10 k (by omega) (qSafe_used (by omega) hh) hinv) gX0_giverLoses_X0_placerWinsLater rfl (by decide +kernel) ⟨by show _ ≤ (6 + 2 * n); omega, by show _ ≤ (200 + 50 * n); omega⟩ rfl rfl rfl rfl hl.1 (Nat.le_of_ble_eq_true rfl) dX0_giverLoses_40 ⟨Nat.zero_le _, Nat.zero_le _⟩ (fun r6 ur6 H locs hrr6 X => ?_)
              obtain ⟨rfl, rfl⟩ : ur6 = (q0, q1, q2, q3, q4, q5, q6, q7, q8, q9, q10) ∧ r6 = zb (qPw q0 n q5 q6 q7 k) := hrr6
              have X : zh g A (oQ h (q0, q1, q2, q3, q4, q5, q6, q7, q8, q9, q10)) s.heap H locs := X
              refine lv_if_ne (tgt := 48) hx hb dX0_giverLoses_43 (by decide) (fun c8 => ?_) (fun c8 => ?_)
              · have qc8 := c8
                have hq : qPw q0 n q5 q6 q7 k = true := zb_n0.mp c8
                refine lv_iinc (v := nI (k + 1)) (lv' := [(3, .int (nI (k + 1))), (2, .int (qSafe q5 q6 q7 q0)), (0, .ref h), (1, .int (nI n))]) hx hb dX0_giverLoses_48 hl (k := 0) rfl (zi_inc k) (by decide) rfl (fun ls hl => ?_)
                refine lv_goto (tgt := 23) hx hb dX0_giverLoses_51 (by decide) ?_
                exact ih23 (k + 1) (by first | assumption | omega) (by first | exact allN_s hall (by unfold qGlF; rw [hh]; rfl) | exact allN_s hall (by unfold qGlF; rw [hq, Bool.or_true])) (by omega) H locs ls X (lv_sub hl [0, 1, 2, 3] rfl)
              · have qc8 := c8
                have hq : qPw q0 n q5 q6 q7 k = false := zb_0.mp c8
                refine lv_iconst (v := (0 : Int32)) hx hb dX0_giverLoses_46 (by decide) ?_
                exact zreti Z hr hlk (q0, q1, q2, q3, q4, q5, q6, q7, q8, q9, q10) X dX0_giverLoses_47 rfl (⟨rfl, (zb_f0 (qGl_b (by omega) hne (allN_f (k := k) (by omega) (by unfold qGlF; rw [hh, hq]; rfl)))).symm⟩)
      exact cut23 17 0 (by first | assumption | omega) (rfl) (by omega) H locs ls X (lv_sub hl [0, 1, 2, 3] rfl)
    · have qc2 := c2
      have hne : q5 = 65535 := c2
      refine lv_iconst (v := (0 : Int32)) hx hb dX0_giverLoses_14 (by decide) ?_
      exact zreti Z hr hlk (q0, q1, q2, q3, q4, q5, q6, q7, q8, q9, q10) X dX0_giverLoses_15 rfl (⟨rfl, by first | exact (zb_f0 (qGl_n2 hne)).symm | exact (zb_f0 (qGl_n (by omega))).symm⟩)
theorem inw_X0_placerWinsLater : ∀ w ∈ wsX00, w ∈ wsX0_placerWinsLater := by decide +kernel
theorem lk_X0_placerWinsLater_16 : Cond.fieldLink RX0 16 "Quarterboard" "filled" "I" ∈ wsX0_placerWinsLater := by decide +kernel
set_option maxHeartbeats 4000000 in
set_option maxRecDepth 100000 in
theorem c_X0_placerWinsLater (l : Launch) (g : zG) (bL h : Nat) (q0 q1 q2 q3 q4 q5 q6 : Int32) (q7 : Int64) (q8 q9 : Int32) (q10 : Int64)  (n pp : Nat) (hn : n ≤ 1000) (hpp : pp < 16) (hu : qHas q6 (nI pp) = false) (hinv : qInv q5 q7) (hsub : 3 ≤ n → K_GW l g bL h (n - 1)) : zM l yX0_placerWinsLater wsX0_placerWinsLater (5 + 2 * n) (175 + 50 * n) g [.ref h, .int (nI pp), .int (nI n)] (oQ h (q0, q1, q2, q3, q4, q5, q6, q7, q8, q9, q10)) (zEL bL) (zQi g (P_X0_placerWinsLater q0 q1 q2 q3 q4 q5 q6 q7 q8 q9 q10 n pp) (oQ h)) := by
  refine zstart (cc := cX0_placerWinsLater) (maxL := 5) (ret := (some .boolean)) (own := RX0) rfl (by decide) rfl zStL (Nat.le_of_ble_eq_true rfl) ?_
  intro p e s m below meth c A Z hr hlk H locs X ls hl
  have hx := Z.1.1
  have hb := Z.1.2.1
  have hin : ∀ w ∈ wsX00, w ∈ wsX0_placerWinsLater := inw_X0_placerWinsLater
  have hl : lv_has ls 5 [(0, .ref h), (1, .int (nI pp)), (2, .int (nI n))] := hl
  have X : zh g A (oQ h (q0, q1, q2, q3, q4, q5, q6, q7, q8, q9, q10)) s.heap H locs := X
  refine lv_iload_n hx hb dX0_placerWinsLater_0 rfl (lv_at hl 2 rfl) ?_
  refine lv_iconst (v := (3 : Int32)) hx hb dX0_placerWinsLater_1 (by decide) ?_
  refine lv_icmp_ge (tgt := 7) hx hb dX0_placerWinsLater_2 (by decide) (fun c1 => ?_) (fun c1 => ?_)
  · have qc1 := c1
    have c1n : 3 ≤ n := zn_let (by omega) (by omega) c1
    refine lv_iconst (v := (0 : Int32)) hx hb dX0_placerWinsLater_7 (by decide) ?_
    refine lv_istore_n (lv' := [(3, .int (0 : Int32)), (0, .ref h), (1, .int (nI pp)), (2, .int (nI n))]) hx hb dX0_placerWinsLater_8 rfl hl (by decide) rfl (fun ls hl => ?_)
    have cut9 : ∀ (n9 : Nat), ∀ (k : Nat), (k ≤ 16) → (anyN (qPwF q0 n q5 q6 q7 pp) k = false) → (17 - k ≤ n9) → ∀ (H : Heap) (locs : List Loc) (ls : Array Slot), zh g A (oQ h (q0, q1, q2, q3, q4, q5, q6, q7, q8, q9, q10)) s.heap H locs → lv_has ls 5 [(3, .int (nI k)), (0, .ref h), (1, .int (nI pp)), (2, .int (nI n))] → W p l e { frames := (5 + 2 * n), cells := 0, slots := 0, locals := (175 + 50 * n) } s m ([.ref h, .int (nI pp), .int (nI n)] : List Value).toArray below meth c H locs 0 0 (MQ below ((zQi g (P_X0_placerWinsLater q0 q1 q2 q3 q4 q5 q6 q7 q8 q9 q10 n pp) (oQ h)) A) ([.ref h, .int (nI pp), .int (nI n)] : List Value).toArray s 0 0 A) (F0 m 9 ls []) := by
      intro n9
      induction n9 with
      | zero =>
        intro k hk hall hm9
        exact absurd hm9 (by omega)
      | succ n9 ih9 =>
        intro k hk hall hm9 H locs ls X hl
        refine lv_iload_n hx hb dX0_placerWinsLater_9 rfl (lv_at hl 0 rfl) ?_
        refine lv_bipush (v := (16 : Int32)) hx hb dX0_placerWinsLater_10 (by decide) ?_
        refine lv_icmp_ge (tgt := 60) hx hb dX0_placerWinsLater_12 (by decide) (fun c2 => ?_) (fun c2 => ?_)
        · have qc2 := c2
          have c2n : 16 ≤ k := zn_let (by omega) (by omega) c2
          refine lv_iconst (v := (0 : Int32)) hx hb dX0_placerWinsLater_60 (by decide) ?_
          exact zreti Z hr hlk (q0, q1, q2, q3, q4, q5, q6, q7, q8, q9, q10) X dX0_placerWinsLater_61 rfl (⟨rfl, (zb_f0 (qPw_b (by omega) (by rw [show (16 : Nat) = k by omega]; exact hall))).symm⟩)
        · have qc2 := c2
          have c2n : ¬ 16 ≤ k := zn_len (by omega) (by omega) c2
          refine lv_aload_n hx hb dX0_placerWinsLater_15 rfl (lv_at hl 1 rfl) ?_
          refine zget (fs := [.int q0, .int q1, .int q2, .int q3, .int q4, .int q5, .int q6, .long q7, .int q8, .int q9, .long q10]) (v := .int q5) Z hin X (ci := 0) (C := RX0) (T := TX0) (N := 11) rfl rfl 5 (by decide) lk_X0_placerWinsLater_16 rfl dX0_placerWinsLater_16 ?_
          refine lv_iload_n hx hb dX0_placerWinsLater_19 rfl (lv_at hl 0 rfl) ?_
          refine zcallSi (n := 2) (As := [.int q5, .int (nI k)]) (rest := []) Z X (c_X0_has l g q5 (nI k)) gX0_placerWinsLater_X0_has rfl (by decide +kernel) ⟨by show _ ≤ (5 + 2 * n); omega, by show _ ≤ (175 + 50 * n); omega⟩ rfl rfl hl.1 (Nat.le_of_ble_eq_true rfl) dX0_placerWinsLater_20 ⟨Nat.zero_le _, Nat.zero_le _⟩ (fun r2 H locs hrr2 X => ?_)
          obtain rfl : r2 = zb (qHas q5 (nI k)) := hrr2
          refine lv_if_ne (tgt := 54) hx hb dX0_placerWinsLater_23 (by decide) (fun c4 => ?_) (fun c4 => ?_)
          · have qc4 := c4
            have hf : qHas q5 (nI k) = true := zb_n0.mp c4
            refine lv_iinc (v := nI (k + 1)) (lv' := [(3, .int (nI (k + 1))), (0, .ref h), (1, .int (nI pp)), (2, .int (nI n))]) hx hb dX0_placerWinsLater_54 hl (k := 0) rfl (zi_inc k) (by decide) rfl (fun ls hl => ?_)
            refine lv_goto (tgt := 9) hx hb dX0_placerWinsLater_57 (by decide) ?_
            exact ih9 (k + 1) (by first | assumption | omega) (by first | exact anyN_s hall (by unfold qPwF; rw [hf]; rfl) | exact anyN_s hall (by unfold qPwF; rw [hf, hq]; rfl)) (by omega) H locs ls X (lv_sub hl [0, 1, 2, 3] rfl)
          · have qc4 := c4
            have hf : qHas q5 (nI k) = false := zb_0.mp c4
            refine lv_aload_n hx hb dX0_placerWinsLater_26 rfl (lv_at hl 1 rfl) ?_
            refine lv_iload_n hx hb dX0_placerWinsLater_27 rfl (lv_at hl 2 rfl) ?_
            refine lv_iload_n hx hb dX0_placerWinsLater_28 rfl (lv_at hl 0 rfl) ?_
            refine zcallVv (n := 2) (As := [.int (nI pp), .int (nI k)]) (rest := []) (ci := 0) (C := RX0) (T := TX0) (N := 11) Z X (c_X0_put l g bL h q0 q1 q2 q3 q4 q5 q6 q7 q8 q9 q10 (nI pp) (nI k)) gX0_placerWinsLater_X0_put rfl (by decide +kernel) ⟨by show _ ≤ (5 + 2 * n); omega, by show _ ≤ (175 + 50 * n); omega⟩ rfl rfl rfl rfl hl.1 (Nat.le_of_ble_eq_true rfl) dX0_placerWinsLater_29 ⟨Nat.zero_le _, Nat.zero_le _⟩ (fun ur4 H locs hrr4 X => ?_)
            obtain rfl : ur4 = (q0, q1, q2, q3, q4, (q5 ||| qBit (nI k)), (q6 ||| qBit (nI pp)), (qPutD q7 (nI pp) (nI k)), q8, q9, q10) := hrr4
            have X : zh g A (oQ h (q0, q1, q2, q3, q4, (q5 ||| qBit (nI k)), (q6 ||| qBit (nI pp)), (qPutD q7 (nI pp) (nI k)), q8, q9, q10)) s.heap H locs := X
            refine lv_aload_n hx hb dX0_placerWinsLater_32 rfl (lv_at hl 1 rfl) ?_
            refine lv_iload_n hx hb dX0_placerWinsLater_33 rfl (lv_at hl 3 rfl) ?_
            refine lv_iconst (v := nI 1) hx hb dX0_placerWinsLater_34 (by decide) ?_
            refine lv_isub hx hb dX0_placerWinsLater_35 ?_
            refine zrwi (y := nI (n - 1)) (pk_sub (by omega)) ?_
            refine zcallVi (n := 1) (As := [.int (nI (n - 1))]) (rest := []) (ci := 0) (C := RX0) (T := TX0) (N := 11) Z X (hsub (by omega) q0 q1 q2 q3 q4 (q5 ||| qBit (nI k)) (q6 ||| qBit (nI pp)) (qPutD q7 (nI pp) (nI k)) q8 q9 q10 (qInv_put hinv hpp (by omega))) gX0_placerWinsLater_X0_giverWins rfl (by decide +kernel) ⟨by show _ ≤ (5 + 2 * n); omega, by show _ ≤ (175 + 50 * n); omega⟩ rfl rfl rfl rfl hl.1 (Nat.le_of_ble_eq_true rfl) dX0_placerWinsLater_36 ⟨Nat.zero_le _, Nat.zero_le _⟩ (fun r5 ur5 H locs hrr5 X => ?_)
            obtain ⟨rfl, rfl⟩ : ur5 = (q0, q1, q2, q3, q4, (q5 ||| qBit (nI k)), (q6 ||| qBit (nI pp)), (qPutD q7 (nI pp) (nI k)), q8, q9, q10) ∧ r5 = zb (qGw q0 (n - 1) (q5 ||| qBit (nI k)) (q6 ||| qBit (nI pp)) (qPutD q7 (nI pp) (nI k))) := hrr5
            have X : zh g A (oQ h (q0, q1, q2, q3, q4, (q5 ||| qBit (nI k)), (q6 ||| qBit (nI pp)), (qPutD q7 (nI pp) (nI k)), q8, q9, q10)) s.heap H locs := X
            refine lv_istore (lv' := [(4, .int (zb (qGw q0 (n - 1) (q5 ||| qBit (nI k)) (q6 ||| qBit (nI pp)) (qPutD q7 (nI pp) (nI k))))), (3, .int (nI k)), (0, .ref h), (1, .int (nI pp)), (2, .int (nI n))]) hx hb dX0_placerWinsLater_39 hl (by decide) rfl (fun ls hl => ?_)
            refine lv_aload_n hx hb dX0_placerWinsLater_41 rfl (lv_at hl 2 rfl) ?_
            refine lv_iload_n hx hb dX0_placerWinsLater_42 rfl (lv_at hl 3 rfl) ?_
            refine lv_iload_n hx hb dX0_placerWinsLater_43 rfl (lv_at hl 1 rfl) ?_
            refine zcallVv (n := 2) (As := [.int (nI pp), .int (nI k)]) (rest := []) (ci := 0) (C := RX0) (T := TX0) (N := 11) Z X (c_X0_lift l g bL h q0 q1 q2 q3 q4 (q5 ||| qBit (nI k)) (q6 ||| qBit (nI pp)) (qPutD q7 (nI pp) (nI k)) q8 q9 q10 (nI pp) (nI k)) gX0_placerWinsLater_X0_lift rfl (by decide +kernel) ⟨by show _ ≤ (5 + 2 * n); omega, by show _ ≤ (175 + 50 * n); omega⟩ rfl rfl rfl rfl hl.1 (Nat.le_of_ble_eq_true rfl) dX0_placerWinsLater_44 ⟨Nat.zero_le _, Nat.zero_le _⟩ (fun ur6 H locs hrr6 X => ?_)
            obtain rfl : ur6 = (q0, q1, q2, q3, q4, ((q5 ||| qBit (nI k)) &&& (qBit (nI k) ^^^ (-1 : Int32))), ((q6 ||| qBit (nI pp)) &&& (qBit (nI pp) ^^^ (-1 : Int32))), (qLiftD (qPutD q7 (nI pp) (nI k)) (nI k)), q8, q9, q10) := hrr6
            have X : zh g A (oQ h (q0, q1, q2, q3, q4, ((q5 ||| qBit (nI k)) &&& (qBit (nI k) ^^^ (-1 : Int32))), ((q6 ||| qBit (nI pp)) &&& (qBit (nI pp) ^^^ (-1 : Int32))), (qLiftD (qPutD q7 (nI pp) (nI k)) (nI k)), q8, q9, q10)) s.heap H locs := X
            have X : zh g A (oQ h (q0, q1, q2, q3, q4, q5, q6, q7, q8, q9, q10)) s.heap H locs := by rw [qOrAnd q5 (p := k) (by omega) hf, qOrAnd q6 hpp hu, qLiftPut q7 hpp (by omega) (hinv k (by omega) hf)] at X; exact X
            refine lv_iload hx hb dX0_placerWinsLater_47 (lv_at hl 0 rfl) ?_
            refine lv_if_eq (tgt := 54) hx hb dX0_placerWinsLater_49 (by decide) (fun c8 => ?_) (fun c8 => ?_)
            · have qc8 := c8
              have hq : qGw q0 (n - 1) (q5 ||| qBit (nI k)) (q6 ||| qBit (nI pp)) (qPutD q7 (nI pp) (nI k)) = false := zb_0.mp c8
              refine lv_iinc (v := nI (k + 1)) (lv' := [(3, .int (nI (k + 1))), (4, .int (zb (qGw q0 (n - 1) (q5 ||| qBit (nI k)) (q6 ||| qBit (nI pp)) (qPutD q7 (nI pp) (nI k))))), (0, .ref h), (1, .int (nI pp)), (2, .int (nI n))]) hx hb dX0_placerWinsLater_54 hl (k := 1) rfl (zi_inc k) (by decide) rfl (fun ls hl => ?_)
              refine lv_goto (tgt := 9) hx hb dX0_placerWinsLater_57 (by decide) ?_
              exact ih9 (k + 1) (by first | assumption | omega) (by first | exact anyN_s hall (by unfold qPwF; rw [hf]; rfl) | exact anyN_s hall (by unfold qPwF; rw [hf, hq]; rfl)) (by omega) H locs ls X (lv_sub hl [0, 2, 3, 4] rfl)
            · have qc8 := c8
              have hq : qGw q0 (n - 1) (q5 ||| qBit (nI k)) (q6 ||| qBit (nI pp)) (qPutD q7 (nI pp) (nI k)) = true := zb_n0.mp c8
              refine lv_iconst (v := (1 : Int32)) hx hb dX0_placerWinsLater_52 (by decide) ?_
              exact zreti Z hr hlk (q0, q1, q2, q3, q4, q5, q6, q7, q8, q9, q10) X dX0_placerWinsLater_53 rfl (⟨rfl, (zb_t (qPw_b (by omega) (anyN_t (k := k) (by omega) (by unfold qPwF; rw [hf, hq]; rfl)))).symm⟩)
    exact cut9 17 0 (by first | assumption | omega) (rfl) (by omega) H locs ls X (lv_sub hl [0, 1, 2, 3] rfl)
  · have qc1 := c1
    have c1n : ¬ 3 ≤ n := zn_len (by omega) (by omega) c1
    refine lv_iconst (v := (0 : Int32)) hx hb dX0_placerWinsLater_5 (by decide) ?_
    exact zreti Z hr hlk (q0, q1, q2, q3, q4, q5, q6, q7, q8, q9, q10) X dX0_placerWinsLater_6 rfl (⟨rfl, (zb_f0 (qPw_n (by omega))).symm⟩)
theorem inw_X0_placerLoses : ∀ w ∈ wsX00, w ∈ wsX0_placerLoses := by decide +kernel
theorem lk_X0_placerLoses_16 : Cond.fieldLink RX0 16 "Quarterboard" "filled" "I" ∈ wsX0_placerLoses := by decide +kernel
set_option maxHeartbeats 4000000 in
set_option maxRecDepth 100000 in
theorem c_X0_placerLoses (l : Launch) (g : zG) (bL h : Nat) (q0 q1 q2 q3 q4 q5 q6 : Int32) (q7 : Int64) (q8 q9 : Int32) (q10 : Int64)  (n pp : Nat) (hn : n ≤ 1000) (hpp : pp < 16) (hu : qHas q6 (nI pp) = false) (hinv : qInv q5 q7) (hsub : 2 ≤ n → K_GL l g bL h (n - 1)) : zM l yX0_placerLoses wsX0_placerLoses (5 + 2 * n) (175 + 50 * n) g [.ref h, .int (nI pp), .int (nI n)] (oQ h (q0, q1, q2, q3, q4, q5, q6, q7, q8, q9, q10)) (zEL bL) (zQi g (P_X0_placerLoses q0 q1 q2 q3 q4 q5 q6 q7 q8 q9 q10 n pp) (oQ h)) := by
  refine zstart (cc := cX0_placerLoses) (maxL := 5) (ret := (some .boolean)) (own := RX0) rfl (by decide) rfl zStL (Nat.le_of_ble_eq_true rfl) ?_
  intro p e s m below meth c A Z hr hlk H locs X ls hl
  have hx := Z.1.1
  have hb := Z.1.2.1
  have hin : ∀ w ∈ wsX00, w ∈ wsX0_placerLoses := inw_X0_placerLoses
  have hl : lv_has ls 5 [(0, .ref h), (1, .int (nI pp)), (2, .int (nI n))] := hl
  have X : zh g A (oQ h (q0, q1, q2, q3, q4, q5, q6, q7, q8, q9, q10)) s.heap H locs := X
  refine lv_iload_n hx hb dX0_placerLoses_0 rfl (lv_at hl 2 rfl) ?_
  refine lv_iconst (v := (2 : Int32)) hx hb dX0_placerLoses_1 (by decide) ?_
  refine lv_icmp_ge (tgt := 7) hx hb dX0_placerLoses_2 (by decide) (fun c1 => ?_) (fun c1 => ?_)
  · have qc1 := c1
    have c1n : 2 ≤ n := zn_let (by omega) (by omega) c1
    refine lv_iconst (v := (0 : Int32)) hx hb dX0_placerLoses_7 (by decide) ?_
    refine lv_istore_n (lv' := [(3, .int (0 : Int32)), (0, .ref h), (1, .int (nI pp)), (2, .int (nI n))]) hx hb dX0_placerLoses_8 rfl hl (by decide) rfl (fun ls hl => ?_)
    have cut9 : ∀ (n9 : Nat), ∀ (k : Nat), (k ≤ 16) → (allN (qPlF q0 n q5 q6 q7 pp) k = true) → (17 - k ≤ n9) → ∀ (H : Heap) (locs : List Loc) (ls : Array Slot), zh g A (oQ h (q0, q1, q2, q3, q4, q5, q6, q7, q8, q9, q10)) s.heap H locs → lv_has ls 5 [(3, .int (nI k)), (0, .ref h), (1, .int (nI pp)), (2, .int (nI n))] → W p l e { frames := (5 + 2 * n), cells := 0, slots := 0, locals := (175 + 50 * n) } s m ([.ref h, .int (nI pp), .int (nI n)] : List Value).toArray below meth c H locs 0 0 (MQ below ((zQi g (P_X0_placerLoses q0 q1 q2 q3 q4 q5 q6 q7 q8 q9 q10 n pp) (oQ h)) A) ([.ref h, .int (nI pp), .int (nI n)] : List Value).toArray s 0 0 A) (F0 m 9 ls []) := by
      intro n9
      induction n9 with
      | zero =>
        intro k hk hall hm9
        exact absurd hm9 (by omega)
      | succ n9 ih9 =>
        intro k hk hall hm9 H locs ls X hl
        refine lv_iload_n hx hb dX0_placerLoses_9 rfl (lv_at hl 0 rfl) ?_
        refine lv_bipush (v := (16 : Int32)) hx hb dX0_placerLoses_10 (by decide) ?_
        refine lv_icmp_ge (tgt := 60) hx hb dX0_placerLoses_12 (by decide) (fun c2 => ?_) (fun c2 => ?_)
        · have qc2 := c2
          have c2n : 16 ≤ k := zn_let (by omega) (by omega) c2
          refine lv_iconst (v := (1 : Int32)) hx hb dX0_placerLoses_60 (by decide) ?_
          exact zreti Z hr hlk (q0, q1, q2, q3, q4, q5, q6, q7, q8, q9, q10) X dX0_placerLoses_61 rfl (⟨rfl, (zb_t (qPl_b (by omega) (by rw [show (16 : Nat) = k by omega]; exact hall))).symm⟩)
        · have qc2 := c2
          have c2n : ¬ 16 ≤ k := zn_len (by omega) (by omega) c2
          refine lv_aload_n hx hb dX0_placerLoses_15 rfl (lv_at hl 1 rfl) ?_
          refine zget (fs := [.int q0, .int q1, .int q2, .int q3, .int q4, .int q5, .int q6, .long q7, .int q8, .int q9, .long q10]) (v := .int q5) Z hin X (ci := 0) (C := RX0) (T := TX0) (N := 11) rfl rfl 5 (by decide) lk_X0_placerLoses_16 rfl dX0_placerLoses_16 ?_
          refine lv_iload_n hx hb dX0_placerLoses_19 rfl (lv_at hl 0 rfl) ?_
          refine zcallSi (n := 2) (As := [.int q5, .int (nI k)]) (rest := []) Z X (c_X0_has l g q5 (nI k)) gX0_placerLoses_X0_has rfl (by decide +kernel) ⟨by show _ ≤ (5 + 2 * n); omega, by show _ ≤ (175 + 50 * n); omega⟩ rfl rfl hl.1 (Nat.le_of_ble_eq_true rfl) dX0_placerLoses_20 ⟨Nat.zero_le _, Nat.zero_le _⟩ (fun r2 H locs hrr2 X => ?_)
          obtain rfl : r2 = zb (qHas q5 (nI k)) := hrr2
          refine lv_if_ne (tgt := 54) hx hb dX0_placerLoses_23 (by decide) (fun c4 => ?_) (fun c4 => ?_)
          · have qc4 := c4
            have hf : qHas q5 (nI k) = true := zb_n0.mp c4
            refine lv_iinc (v := nI (k + 1)) (lv' := [(3, .int (nI (k + 1))), (0, .ref h), (1, .int (nI pp)), (2, .int (nI n))]) hx hb dX0_placerLoses_54 hl (k := 0) rfl (zi_inc k) (by decide) rfl (fun ls hl => ?_)
            refine lv_goto (tgt := 9) hx hb dX0_placerLoses_57 (by decide) ?_
            exact ih9 (k + 1) (by first | assumption | omega) (by first | exact allN_s hall (by unfold qPlF; rw [hf]; rfl) | exact allN_s hall (by unfold qPlF; rw [hf, hq]; rfl)) (by omega) H locs ls X (lv_sub hl [0, 1, 2, 3] rfl)
          · have qc4 := c4
            have hf : qHas q5 (nI k) = false := zb_0.mp c4
            refine lv_aload_n hx hb dX0_placerLoses_26 rfl (lv_at hl 1 rfl) ?_
            refine lv_iload_n hx hb dX0_placerLoses_27 rfl (lv_at hl 2 rfl) ?_
            refine lv_iload_n hx hb dX0_placerLoses_28 rfl (lv_at hl 0 rfl) ?_
            refine zcallVv (n := 2) (As := [.int (nI pp), .int (nI k)]) (rest := []) (ci := 0) (C := RX0) (T := TX0) (N := 11) Z X (c_X0_put l g bL h q0 q1 q2 q3 q4 q5 q6 q7 q8 q9 q10 (nI pp) (nI k)) gX0_placerLoses_X0_put rfl (by decide +kernel) ⟨by show _ ≤ (5 + 2 * n); omega, by show _ ≤ (175 + 50 * n); omega⟩ rfl rfl rfl rfl hl.1 (Nat.le_of_ble_eq_true rfl) dX0_placerLoses_29 ⟨Nat.zero_le _, Nat.zero_le _⟩ (fun ur4 H locs hrr4 X => ?_)
            obtain rfl : ur4 = (q0, q1, q2, q3, q4, (q5 ||| qBit (nI k)), (q6 ||| qBit (nI pp)), (qPutD q7 (nI pp) (nI k)), q8, q9, q10) := hrr4
            have X : zh g A (oQ h (q0, q1, q2, q3, q4, (q5 ||| qBit (nI k)), (q6 ||| qBit (nI pp)), (qPutD q7 (nI pp) (nI k)), q8, q9, q10)) s.heap H locs := X
            refine lv_aload_n hx hb dX0_placerLoses_32 rfl (lv_at hl 1 rfl) ?_
            refine lv_iload_n hx hb dX0_placerLoses_33 rfl (lv_at hl 3 rfl) ?_
            refine lv_iconst (v := nI 1) hx hb dX0_placerLoses_34 (by decide) ?_
            refine lv_isub hx hb dX0_placerLoses_35 ?_
            refine zrwi (y := nI (n - 1)) (pk_sub (by omega)) ?_
            refine zcallVi (n := 1) (As := [.int (nI (n - 1))]) (rest := []) (ci := 0) (C := RX0) (T := TX0) (N := 11) Z X (hsub (by omega) q0 q1 q2 q3 q4 (q5 ||| qBit (nI k)) (q6 ||| qBit (nI pp)) (qPutD q7 (nI pp) (nI k)) q8 q9 q10 (qInv_put hinv hpp (by omega))) gX0_placerLoses_X0_giverLoses rfl (by decide +kernel) ⟨by show _ ≤ (5 + 2 * n); omega, by show _ ≤ (175 + 50 * n); omega⟩ rfl rfl rfl rfl hl.1 (Nat.le_of_ble_eq_true rfl) dX0_placerLoses_36 ⟨Nat.zero_le _, Nat.zero_le _⟩ (fun r5 ur5 H locs hrr5 X => ?_)
            obtain ⟨rfl, rfl⟩ : ur5 = (q0, q1, q2, q3, q4, (q5 ||| qBit (nI k)), (q6 ||| qBit (nI pp)), (qPutD q7 (nI pp) (nI k)), q8, q9, q10) ∧ r5 = zb (qGl q0 (n - 1) (q5 ||| qBit (nI k)) (q6 ||| qBit (nI pp)) (qPutD q7 (nI pp) (nI k))) := hrr5
            have X : zh g A (oQ h (q0, q1, q2, q3, q4, (q5 ||| qBit (nI k)), (q6 ||| qBit (nI pp)), (qPutD q7 (nI pp) (nI k)), q8, q9, q10)) s.heap H locs := X
            refine lv_istore (lv' := [(4, .int (zb (qGl q0 (n - 1) (q5 ||| qBit (nI k)) (q6 ||| qBit (nI pp)) (qPutD q7 (nI pp) (nI k))))), (3, .int (nI k)), (0, .ref h), (1, .int (nI pp)), (2, .int (nI n))]) hx hb dX0_placerLoses_39 hl (by decide) rfl (fun ls hl => ?_)
            refine lv_aload_n hx hb dX0_placerLoses_41 rfl (lv_at hl 2 rfl) ?_
            refine lv_iload_n hx hb dX0_placerLoses_42 rfl (lv_at hl 3 rfl) ?_
            refine lv_iload_n hx hb dX0_placerLoses_43 rfl (lv_at hl 1 rfl) ?_
            refine zcallVv (n := 2) (As := [.int (nI pp), .int (nI k)]) (rest := []) (ci := 0) (C := RX0) (T := TX0) (N := 11) Z X (c_X0_lift l g bL h q0 q1 q2 q3 q4 (q5 ||| qBit (nI k)) (q6 ||| qBit (nI pp)) (qPutD q7 (nI pp) (nI k)) q8 q9 q10 (nI pp) (nI k)) gX0_placerLoses_X0_lift rfl (by decide +kernel) ⟨by show _ ≤ (5 + 2 * n); omega, by show _ ≤ (175 + 50 * n); omega⟩ rfl rfl rfl rfl hl.1 (Nat.le_of_ble_eq_true rfl) dX0_placerLoses_44 ⟨Nat.zero_le _, Nat.zero_le _⟩ (fun ur6 H locs hrr6 X => ?_)
            obtain rfl : ur6 = (q0, q1, q2, q3, q4, ((q5 ||| qBit (nI k)) &&& (qBit (nI k) ^^^ (-1 : Int32))), ((q6 ||| qBit (nI pp)) &&& (qBit (nI pp) ^^^ (-1 : Int32))), (qLiftD (qPutD q7 (nI pp) (nI k)) (nI k)), q8, q9, q10) := hrr6
            have X : zh g A (oQ h (q0, q1, q2, q3, q4, ((q5 ||| qBit (nI k)) &&& (qBit (nI k) ^^^ (-1 : Int32))), ((q6 ||| qBit (nI pp)) &&& (qBit (nI pp) ^^^ (-1 : Int32))), (qLiftD (qPutD q7 (nI pp) (nI k)) (nI k)), q8, q9, q10)) s.heap H locs := X
            have X : zh g A (oQ h (q0, q1, q2, q3, q4, q5, q6, q7, q8, q9, q10)) s.heap H locs := by rw [qOrAnd q5 (p := k) (by omega) hf, qOrAnd q6 hpp hu, qLiftPut q7 hpp (by omega) (hinv k (by omega) hf)] at X; exact X
            refine lv_iload hx hb dX0_placerLoses_47 (lv_at hl 0 rfl) ?_
            refine lv_if_ne (tgt := 54) hx hb dX0_placerLoses_49 (by decide) (fun c8 => ?_) (fun c8 => ?_)
            · have qc8 := c8
              have hq : qGl q0 (n - 1) (q5 ||| qBit (nI k)) (q6 ||| qBit (nI pp)) (qPutD q7 (nI pp) (nI k)) = true := zb_n0.mp c8
              refine lv_iinc (v := nI (k + 1)) (lv' := [(3, .int (nI (k + 1))), (4, .int (zb (qGl q0 (n - 1) (q5 ||| qBit (nI k)) (q6 ||| qBit (nI pp)) (qPutD q7 (nI pp) (nI k))))), (0, .ref h), (1, .int (nI pp)), (2, .int (nI n))]) hx hb dX0_placerLoses_54 hl (k := 1) rfl (zi_inc k) (by decide) rfl (fun ls hl => ?_)
              refine lv_goto (tgt := 9) hx hb dX0_placerLoses_57 (by decide) ?_
              exact ih9 (k + 1) (by first | assumption | omega) (by first | exact allN_s hall (by unfold qPlF; rw [hf]; rfl) | exact allN_s hall (by unfold qPlF; rw [hf, hq]; rfl)) (by omega) H locs ls X (lv_sub hl [0, 2, 3, 4] rfl)
            · have qc8 := c8
              have hq : qGl q0 (n - 1) (q5 ||| qBit (nI k)) (q6 ||| qBit (nI pp)) (qPutD q7 (nI pp) (nI k)) = false := zb_0.mp c8
              refine lv_iconst (v := (0 : Int32)) hx hb dX0_placerLoses_52 (by decide) ?_
              exact zreti Z hr hlk (q0, q1, q2, q3, q4, q5, q6, q7, q8, q9, q10) X dX0_placerLoses_53 rfl (⟨rfl, (zb_f0 (qPl_b (by omega) (allN_f (k := k) (by omega) (by unfold qPlF; rw [hf, hq]; rfl)))).symm⟩)
    exact cut9 17 0 (by first | assumption | omega) (rfl) (by omega) H locs ls X (lv_sub hl [0, 1, 2, 3] rfl)
  · have qc1 := c1
    have c1n : ¬ 2 ≤ n := zn_len (by omega) (by omega) c1
    refine lv_iconst (v := (0 : Int32)) hx hb dX0_placerLoses_5 (by decide) ?_
    exact zreti Z hr hlk (q0, q1, q2, q3, q4, q5, q6, q7, q8, q9, q10) X dX0_placerLoses_6 rfl (⟨rfl, (zb_f0 (qPl_n (by omega))).symm⟩)
end
section
/-! the class: the worth, the best -/
theorem c_search (l : Launch) (g : zG) (bL h : Nat) : ∀ n, n ≤ 1000 → K_GW l g bL h n ∧ K_GL l g bL h n ∧ K_PW l g bL h n ∧ K_PL l g bL h n := by
  intro n
  induction n with
  | zero =>
    intro _
    have hpw : K_PW l g bL h 0 := fun q0 q1 q2 q3 q4 q5 q6 q7 q8 q9 q10 pp hpp hu hinv => c_X0_placerWinsLater l g bL h q0 q1 q2 q3 q4 q5 q6 q7 q8 q9 q10 0 pp (by decide) hpp hu hinv (fun q => absurd q (by decide))
    have hpl : K_PL l g bL h 0 := fun q0 q1 q2 q3 q4 q5 q6 q7 q8 q9 q10 pp hpp hu hinv => c_X0_placerLoses l g bL h q0 q1 q2 q3 q4 q5 q6 q7 q8 q9 q10 0 pp (by decide) hpp hu hinv (fun q => absurd q (by decide))
    exact ⟨fun q0 q1 q2 q3 q4 q5 q6 q7 q8 q9 q10 hinv => c_X0_giverWins l g bL h q0 q1 q2 q3 q4 q5 q6 q7 q8 q9 q10 0 (by decide) hinv hpl, fun q0 q1 q2 q3 q4 q5 q6 q7 q8 q9 q10 hinv => c_X0_giverLoses l g bL h q0 q1 q2 q3 q4 q5 q6 q7 q8 q9 q10 0 (by decide) hinv hpw, hpw, hpl⟩
  | succ n ih =>
    intro hn
    obtain ⟨h1, h2, -, -⟩ := ih (by omega)
    have hpw : K_PW l g bL h (n + 1) := fun q0 q1 q2 q3 q4 q5 q6 q7 q8 q9 q10 pp hpp hu hinv => c_X0_placerWinsLater l g bL h q0 q1 q2 q3 q4 q5 q6 q7 q8 q9 q10 (n + 1) pp hn hpp hu hinv (fun _ => h1)
    have hpl : K_PL l g bL h (n + 1) := fun q0 q1 q2 q3 q4 q5 q6 q7 q8 q9 q10 pp hpp hu hinv => c_X0_placerLoses l g bL h q0 q1 q2 q3 q4 q5 q6 q7 q8 q9 q10 (n + 1) pp hn hpp hu hinv (fun _ => h2)
    exact ⟨fun q0 q1 q2 q3 q4 q5 q6 q7 q8 q9 q10 hinv => c_X0_giverWins l g bL h q0 q1 q2 q3 q4 q5 q6 q7 q8 q9 q10 (n + 1) hn hinv hpl, fun q0 q1 q2 q3 q4 q5 q6 q7 q8 q9 q10 hinv => c_X0_giverLoses l g bL h q0 q1 q2 q3 q4 q5 q6 q7 q8 q9 q10 (n + 1) hn hinv hpw, hpw, hpl⟩
theorem inw_X0_worthToGive : ∀ w ∈ wsX00, w ∈ wsX0_worthToGive := by decide +kernel
def P_X0_worthToGive (q0 q1 q2 q3 q4 q5 q6 : Int32) (q7 : Int64) (q8 q9 : Int32) (q10 : Int64) (n : Nat) : Int32 → QS → Prop := fun r u => u = (q0, q1, q2, q3, q4, q5, q6, q7, q8, q9, q10) ∧ r = qWG q0 n q5 q6 q7
set_option maxHeartbeats 4000000 in
set_option maxRecDepth 100000 in
theorem c_X0_worthToGive (l : Launch) (g : zG) (bL h : Nat) (q0 q1 q2 q3 q4 q5 q6 : Int32) (q7 : Int64) (q8 q9 : Int32) (q10 : Int64)  (n : Nat) (hn : n ≤ 1000) (hinv : qInv q5 q7) : zM l yX0_worthToGive wsX0_worthToGive (7 + 2 * n) (250 + 50 * n) g [.ref h, .int (nI n)] (oQ h (q0, q1, q2, q3, q4, q5, q6, q7, q8, q9, q10)) (zEL bL) (zQi g (P_X0_worthToGive q0 q1 q2 q3 q4 q5 q6 q7 q8 q9 q10 n) (oQ h)) := by
  refine zstart (cc := cX0_worthToGive) (maxL := 2) (ret := (some .int)) (own := RX0) rfl (by decide) rfl zStL (Nat.le_of_ble_eq_true rfl) ?_
  intro p e s m below meth c A Z hr hlk H locs X ls hl
  have hx := Z.1.1
  have hb := Z.1.2.1
  have hin : ∀ w ∈ wsX00, w ∈ wsX0_worthToGive := inw_X0_worthToGive
  have hl : lv_has ls 2 [(0, .ref h), (1, .int (nI n))] := hl
  have X : zh g A (oQ h (q0, q1, q2, q3, q4, q5, q6, q7, q8, q9, q10)) s.heap H locs := X
  have hcg := c_search l g bL h n hn
  refine lv_aload_n hx hb dX0_worthToGive_0 rfl (lv_at hl 0 rfl) ?_
  refine lv_iload_n hx hb dX0_worthToGive_1 rfl (lv_at hl 1 rfl) ?_
  refine zcallVi (n := 1) (As := [.int (nI n)]) (rest := []) (ci := 0) (C := RX0) (T := TX0) (N := 11) Z X (hcg.1 q0 q1 q2 q3 q4 q5 q6 q7 q8 q9 q10 hinv) gX0_worthToGive_X0_giverWins rfl (by decide +kernel) ⟨by show _ ≤ (7 + 2 * n); omega, by show _ ≤ (250 + 50 * n); omega⟩ rfl rfl rfl rfl hl.1 (Nat.le_of_ble_eq_true rfl) dX0_worthToGive_2 ⟨Nat.zero_le _, Nat.zero_le _⟩ (fun r0 ur0 H locs hrr0 X => ?_)
  obtain ⟨rfl, rfl⟩ : ur0 = (q0, q1, q2, q3, q4, q5, q6, q7, q8, q9, q10) ∧ r0 = zb (qGw q0 n q5 q6 q7) := hrr0
  have X : zh g A (oQ h (q0, q1, q2, q3, q4, q5, q6, q7, q8, q9, q10)) s.heap H locs := X
  refine lv_if_eq (tgt := 10) hx hb dX0_worthToGive_5 (by decide) (fun c2 => ?_) (fun c2 => ?_)
  · have qc2 := c2
    have h1 : qGw q0 n q5 q6 q7 = false := zb_0.mp c2
    refine lv_aload_n hx hb dX0_worthToGive_10 rfl (lv_at hl 0 rfl) ?_
    refine lv_iload_n hx hb dX0_worthToGive_11 rfl (lv_at hl 1 rfl) ?_
    refine zcallVi (n := 1) (As := [.int (nI n)]) (rest := []) (ci := 0) (C := RX0) (T := TX0) (N := 11) Z X (hcg.2.1 q0 q1 q2 q3 q4 q5 q6 q7 q8 q9 q10 hinv) gX0_worthToGive_X0_giverLoses rfl (by decide +kernel) ⟨by show _ ≤ (7 + 2 * n); omega, by show _ ≤ (250 + 50 * n); omega⟩ rfl rfl rfl rfl hl.1 (Nat.le_of_ble_eq_true rfl) dX0_worthToGive_12 ⟨Nat.zero_le _, Nat.zero_le _⟩ (fun r2 ur2 H locs hrr2 X => ?_)
    obtain ⟨rfl, rfl⟩ : ur2 = (q0, q1, q2, q3, q4, q5, q6, q7, q8, q9, q10) ∧ r2 = zb (qGl q0 n q5 q6 q7) := hrr2
    have X : zh g A (oQ h (q0, q1, q2, q3, q4, q5, q6, q7, q8, q9, q10)) s.heap H locs := X
    refine lv_if_eq (tgt := 22) hx hb dX0_worthToGive_15 (by decide) (fun c4 => ?_) (fun c4 => ?_)
    · have qc4 := c4
      have h2 : qGl q0 n q5 q6 q7 = false := zb_0.mp c4
      refine lv_iconst (v := (0 : Int32)) hx hb dX0_worthToGive_22 (by decide) ?_
      exact zreti Z hr hlk (q0, q1, q2, q3, q4, q5, q6, q7, q8, q9, q10) X dX0_worthToGive_23 rfl (⟨rfl, by simp only [qWG, h1, h2, decide_true, decide_false, Bool.and_true, Bool.and_false, Bool.true_and, Bool.false_and, not_true_eq_false, not_false_eq_true, Bool.not_true, Bool.not_false, if_true, if_false, and_true, true_and, and_false, false_and, Bool.false_eq_true, Bool.true_eq_false, eq_self]⟩)
    · have qc4 := c4
      have h2 : qGl q0 n q5 q6 q7 = true := zb_n0.mp c4
      refine lv_iconst (v := (-1 : Int32)) hx hb dX0_worthToGive_18 (by decide) ?_
      refine lv_goto (tgt := 23) hx hb dX0_worthToGive_19 (by decide) ?_
      exact zreti Z hr hlk (q0, q1, q2, q3, q4, q5, q6, q7, q8, q9, q10) X dX0_worthToGive_23 rfl (⟨rfl, by simp only [qWG, h1, h2, decide_true, decide_false, Bool.and_true, Bool.and_false, Bool.true_and, Bool.false_and, not_true_eq_false, not_false_eq_true, Bool.not_true, Bool.not_false, if_true, if_false, and_true, true_and, and_false, false_and, Bool.false_eq_true, Bool.true_eq_false, eq_self]⟩)
  · have qc2 := c2
    have h1 : qGw q0 n q5 q6 q7 = true := zb_n0.mp c2
    refine lv_iconst (v := (1 : Int32)) hx hb dX0_worthToGive_8 (by decide) ?_
    exact zreti Z hr hlk (q0, q1, q2, q3, q4, q5, q6, q7, q8, q9, q10) X dX0_worthToGive_9 rfl (⟨rfl, by simp only [qWG, h1, decide_true, decide_false, Bool.and_true, Bool.and_false, Bool.true_and, Bool.false_and, not_true_eq_false, not_false_eq_true, Bool.not_true, Bool.not_false, if_true, if_false, and_true, true_and, and_false, false_and, Bool.false_eq_true, Bool.true_eq_false, eq_self]⟩)
theorem inw_X0_worthToPlace : ∀ w ∈ wsX00, w ∈ wsX0_worthToPlace := by decide +kernel
def P_X0_worthToPlace (q0 q1 q2 q3 q4 q5 q6 : Int32) (q7 : Int64) (q8 q9 : Int32) (q10 : Int64) (n pp : Nat) : Int32 → QS → Prop := fun r u => u = (q0, q1, q2, q3, q4, q5, q6, q7, q8, q9, q10) ∧ r = qWP q0 n q5 q6 q7 pp
set_option maxHeartbeats 4000000 in
set_option maxRecDepth 100000 in
theorem c_X0_worthToPlace (l : Launch) (g : zG) (bL h : Nat) (q0 q1 q2 q3 q4 q5 q6 : Int32) (q7 : Int64) (q8 q9 : Int32) (q10 : Int64)  (n pp : Nat) (hn : n ≤ 1000) (hpp : pp < 16) (hu : qHas q6 (nI pp) = false) (hinv : qInv q5 q7) : zM l yX0_worthToPlace wsX0_worthToPlace (7 + 2 * n) (250 + 50 * n) g [.ref h, .int (nI pp), .int (nI n)] (oQ h (q0, q1, q2, q3, q4, q5, q6, q7, q8, q9, q10)) (zEL bL) (zQi g (P_X0_worthToPlace q0 q1 q2 q3 q4 q5 q6 q7 q8 q9 q10 n pp) (oQ h)) := by
  refine zstart (cc := cX0_worthToPlace) (maxL := 3) (ret := (some .int)) (own := RX0) rfl (by decide) rfl zStL (Nat.le_of_ble_eq_true rfl) ?_
  intro p e s m below meth c A Z hr hlk H locs X ls hl
  have hx := Z.1.1
  have hb := Z.1.2.1
  have hin : ∀ w ∈ wsX00, w ∈ wsX0_worthToPlace := inw_X0_worthToPlace
  have hl : lv_has ls 3 [(0, .ref h), (1, .int (nI pp)), (2, .int (nI n))] := hl
  have X : zh g A (oQ h (q0, q1, q2, q3, q4, q5, q6, q7, q8, q9, q10)) s.heap H locs := X
  have hcg := c_search l g bL h n hn
  refine lv_aload_n hx hb dX0_worthToPlace_0 rfl (lv_at hl 0 rfl) ?_
  refine lv_iload_n hx hb dX0_worthToPlace_1 rfl (lv_at hl 1 rfl) ?_
  refine zcallVi (n := 1) (As := [.int (nI pp)]) (rest := []) (ci := 0) (C := RX0) (T := TX0) (N := 11) Z X (c_X0_winningSquares l g bL h q0 q1 q2 q3 q4 q5 q6 q7 q8 q9 q10 (nI pp)) gX0_worthToPlace_X0_winningSquares rfl (by decide +kernel) ⟨by show _ ≤ (7 + 2 * n); omega, by show _ ≤ (250 + 50 * n); omega⟩ rfl rfl rfl rfl hl.1 (Nat.le_of_ble_eq_true rfl) dX0_worthToPlace_2 ⟨Nat.zero_le _, Nat.zero_le _⟩ (fun r0 ur0 H locs hrr0 X => ?_)
  obtain ⟨rfl, rfl⟩ : ur0 = (q0, q1, q2, q3, q4, q5, q6, q7, q8, q9, q10) ∧ r0 = qWin q5 q7 q0 (nI pp) := hrr0
  have X : zh g A (oQ h (q0, q1, q2, q3, q4, q5, q6, q7, q8, q9, q10)) s.heap H locs := X
  refine lv_if_ne (tgt := 17) hx hb dX0_worthToPlace_5 (by decide) (fun c2 => ?_) (fun c2 => ?_)
  · have qc2 := c2
    refine lv_iconst (v := (1 : Int32)) hx hb dX0_worthToPlace_17 (by decide) ?_
    exact zreti Z hr hlk (q0, q1, q2, q3, q4, q5, q6, q7, q8, q9, q10) X dX0_worthToPlace_18 rfl (⟨rfl, by simp only [qWP, c2, or_true, true_or, or_false, false_or, decide_true, decide_false, Bool.and_true, Bool.and_false, Bool.true_and, Bool.false_and, not_true_eq_false, not_false_eq_true, Bool.not_true, Bool.not_false, if_true, if_false, and_true, true_and, and_false, false_and, Bool.false_eq_true, Bool.true_eq_false, eq_self]⟩)
  · have qc2 := c2
    refine lv_aload_n hx hb dX0_worthToPlace_8 rfl (lv_at hl 0 rfl) ?_
    refine lv_iload_n hx hb dX0_worthToPlace_9 rfl (lv_at hl 1 rfl) ?_
    refine lv_iload_n hx hb dX0_worthToPlace_10 rfl (lv_at hl 2 rfl) ?_
    refine zcallVi (n := 2) (As := [.int (nI pp), .int (nI n)]) (rest := []) (ci := 0) (C := RX0) (T := TX0) (N := 11) Z X (hcg.2.2.1 q0 q1 q2 q3 q4 q5 q6 q7 q8 q9 q10 pp hpp hu hinv) gX0_worthToPlace_X0_placerWinsLater rfl (by decide +kernel) ⟨by show _ ≤ (7 + 2 * n); omega, by show _ ≤ (250 + 50 * n); omega⟩ rfl rfl rfl rfl hl.1 (Nat.le_of_ble_eq_true rfl) dX0_worthToPlace_11 ⟨Nat.zero_le _, Nat.zero_le _⟩ (fun r2 ur2 H locs hrr2 X => ?_)
    obtain ⟨rfl, rfl⟩ : ur2 = (q0, q1, q2, q3, q4, q5, q6, q7, q8, q9, q10) ∧ r2 = zb (qPw q0 n q5 q6 q7 pp) := hrr2
    have X : zh g A (oQ h (q0, q1, q2, q3, q4, q5, q6, q7, q8, q9, q10)) s.heap H locs := X
    refine lv_if_eq (tgt := 19) hx hb dX0_worthToPlace_14 (by decide) (fun c4 => ?_) (fun c4 => ?_)
    · have qc4 := c4
      have h1 : qPw q0 n q5 q6 q7 pp = false := zb_0.mp c4
      refine lv_aload_n hx hb dX0_worthToPlace_19 rfl (lv_at hl 0 rfl) ?_
      refine lv_iload_n hx hb dX0_worthToPlace_20 rfl (lv_at hl 1 rfl) ?_
      refine lv_iload_n hx hb dX0_worthToPlace_21 rfl (lv_at hl 2 rfl) ?_
      refine zcallVi (n := 2) (As := [.int (nI pp), .int (nI n)]) (rest := []) (ci := 0) (C := RX0) (T := TX0) (N := 11) Z X (hcg.2.2.2 q0 q1 q2 q3 q4 q5 q6 q7 q8 q9 q10 pp hpp hu hinv) gX0_worthToPlace_X0_placerLoses rfl (by decide +kernel) ⟨by show _ ≤ (7 + 2 * n); omega, by show _ ≤ (250 + 50 * n); omega⟩ rfl rfl rfl rfl hl.1 (Nat.le_of_ble_eq_true rfl) dX0_worthToPlace_22 ⟨Nat.zero_le _, Nat.zero_le _⟩ (fun r4 ur4 H locs hrr4 X => ?_)
      obtain ⟨rfl, rfl⟩ : ur4 = (q0, q1, q2, q3, q4, q5, q6, q7, q8, q9, q10) ∧ r4 = zb (qPl q0 n q5 q6 q7 pp) := hrr4
      have X : zh g A (oQ h (q0, q1, q2, q3, q4, q5, q6, q7, q8, q9, q10)) s.heap H locs := X
      refine lv_if_eq (tgt := 32) hx hb dX0_worthToPlace_25 (by decide) (fun c6 => ?_) (fun c6 => ?_)
      · have qc6 := c6
        have h2 : qPl q0 n q5 q6 q7 pp = false := zb_0.mp c6
        refine lv_iconst (v := (0 : Int32)) hx hb dX0_worthToPlace_32 (by decide) ?_
        exact zreti Z hr hlk (q0, q1, q2, q3, q4, q5, q6, q7, q8, q9, q10) X dX0_worthToPlace_33 rfl (⟨rfl, by simp only [qWP, c2, h1, h2, or_true, true_or, or_false, false_or, decide_true, decide_false, Bool.and_true, Bool.and_false, Bool.true_and, Bool.false_and, not_true_eq_false, not_false_eq_true, Bool.not_true, Bool.not_false, if_true, if_false, and_true, true_and, and_false, false_and, Bool.false_eq_true, Bool.true_eq_false, eq_self]⟩)
      · have qc6 := c6
        have h2 : qPl q0 n q5 q6 q7 pp = true := zb_n0.mp c6
        refine lv_iconst (v := (-1 : Int32)) hx hb dX0_worthToPlace_28 (by decide) ?_
        refine lv_goto (tgt := 33) hx hb dX0_worthToPlace_29 (by decide) ?_
        exact zreti Z hr hlk (q0, q1, q2, q3, q4, q5, q6, q7, q8, q9, q10) X dX0_worthToPlace_33 rfl (⟨rfl, by simp only [qWP, c2, h1, h2, or_true, true_or, or_false, false_or, decide_true, decide_false, Bool.and_true, Bool.and_false, Bool.true_and, Bool.false_and, not_true_eq_false, not_false_eq_true, Bool.not_true, Bool.not_false, if_true, if_false, and_true, true_and, and_false, false_and, Bool.false_eq_true, Bool.true_eq_false, eq_self]⟩)
    · have qc4 := c4
      have h1 : qPw q0 n q5 q6 q7 pp = true := zb_n0.mp c4
      refine lv_iconst (v := (1 : Int32)) hx hb dX0_worthToPlace_17 (by decide) ?_
      exact zreti Z hr hlk (q0, q1, q2, q3, q4, q5, q6, q7, q8, q9, q10) X dX0_worthToPlace_18 rfl (⟨rfl, by simp only [qWP, c2, h1, or_true, true_or, or_false, false_or, decide_true, decide_false, Bool.and_true, Bool.and_false, Bool.true_and, Bool.false_and, not_true_eq_false, not_false_eq_true, Bool.not_true, Bool.not_false, if_true, if_false, and_true, true_and, and_false, false_and, Bool.false_eq_true, Bool.true_eq_false, eq_self]⟩)
theorem inw_X0_worthAfterPlacing : ∀ w ∈ wsX00, w ∈ wsX0_worthAfterPlacing := by decide +kernel
theorem lk_X0_worthAfterPlacing_9 : Cond.fieldLink RX0 9 "Quarterboard" "held" "I" ∈ wsX0_worthAfterPlacing := by decide +kernel
def P_X0_worthAfterPlacing (q0 q1 q2 : Int32) (hp : Nat) (q4 q5 q6 : Int32) (q7 : Int64) (q8 q9 : Int32) (q10 : Int64) (n sq : Nat) : Int32 → QS → Prop := fun r u => u = (q0, q1, q2, nI hp, q4, q5, q6, q7, q8, q9, q10) ∧ r = qWA q0 n q5 q6 q7 hp sq
set_option maxHeartbeats 4000000 in
set_option maxRecDepth 100000 in
theorem c_X0_worthAfterPlacing (l : Launch) (g : zG) (bL h : Nat) (q0 q1 q2 : Int32) (hp : Nat) (q4 q5 q6 : Int32) (q7 : Int64) (q8 q9 : Int32) (q10 : Int64)  (n sq : Nat) (hn1 : 1 ≤ n) (hn : n ≤ 1000) (hpp : hp < 16) (hu : qHas q6 (nI hp) = false) (hsq : sq < 16) (hf : qHas q5 (nI sq) = false) (hinv : qInv q5 q7) : zM l yX0_worthAfterPlacing wsX0_worthAfterPlacing (8 + 2 * n) (300 + 50 * n) g [.ref h, .int (nI sq), .int (nI n)] (oQ h (q0, q1, q2, nI hp, q4, q5, q6, q7, q8, q9, q10)) (zEL bL) (zQi g (P_X0_worthAfterPlacing q0 q1 q2 hp q4 q5 q6 q7 q8 q9 q10 n sq) (oQ h)) := by
  refine zstart (cc := cX0_worthAfterPlacing) (maxL := 4) (ret := (some .int)) (own := RX0) rfl (by decide) rfl zStL (Nat.le_of_ble_eq_true rfl) ?_
  intro p e s m below meth c A Z hr hlk H locs X ls hl
  have hx := Z.1.1
  have hb := Z.1.2.1
  have hin : ∀ w ∈ wsX00, w ∈ wsX0_worthAfterPlacing := inw_X0_worthAfterPlacing
  have hl : lv_has ls 4 [(0, .ref h), (1, .int (nI sq)), (2, .int (nI n))] := hl
  have X : zh g A (oQ h (q0, q1, q2, nI hp, q4, q5, q6, q7, q8, q9, q10)) s.heap H locs := X
  refine lv_aload_n hx hb dX0_worthAfterPlacing_0 rfl (lv_at hl 0 rfl) ?_
  refine lv_aload_n hx hb dX0_worthAfterPlacing_1 rfl (lv_at hl 0 rfl) ?_
  refine zget (fs := [.int q0, .int q1, .int q2, .int (nI hp), .int q4, .int q5, .int q6, .long q7, .int q8, .int q9, .long q10]) (v := .int (nI hp)) Z hin X (ci := 0) (C := RX0) (T := TX0) (N := 11) rfl rfl 3 (by decide) lk_X0_worthAfterPlacing_9 rfl dX0_worthAfterPlacing_2 ?_
  refine zcallVi (n := 1) (As := [.int (nI hp)]) (rest := []) (ci := 0) (C := RX0) (T := TX0) (N := 11) Z X (c_X0_winningSquares l g bL h q0 q1 q2 (nI hp) q4 q5 q6 q7 q8 q9 q10 (nI hp)) gX0_worthAfterPlacing_X0_winningSquares rfl (by decide +kernel) ⟨by show _ ≤ (8 + 2 * n); omega, by show _ ≤ (300 + 50 * n); omega⟩ rfl rfl rfl rfl hl.1 (Nat.le_of_ble_eq_true rfl) dX0_worthAfterPlacing_5 ⟨Nat.zero_le _, Nat.zero_le _⟩ (fun r0 ur0 H locs hrr0 X => ?_)
  obtain ⟨rfl, rfl⟩ : ur0 = (q0, q1, q2, nI hp, q4, q5, q6, q7, q8, q9, q10) ∧ r0 = qWin q5 q7 q0 (nI hp) := hrr0
  have X : zh g A (oQ h (q0, q1, q2, nI hp, q4, q5, q6, q7, q8, q9, q10)) s.heap H locs := X
  refine lv_iload_n hx hb dX0_worthAfterPlacing_8 rfl (lv_at hl 1 rfl) ?_
  refine zcallSi (n := 2) (As := [.int (qWin q5 q7 q0 (nI hp)), .int (nI sq)]) (rest := []) Z X (c_X0_has l g (qWin q5 q7 q0 (nI hp)) (nI sq)) gX0_worthAfterPlacing_X0_has rfl (by decide +kernel) ⟨by show _ ≤ (8 + 2 * n); omega, by show _ ≤ (300 + 50 * n); omega⟩ rfl rfl hl.1 (Nat.le_of_ble_eq_true rfl) dX0_worthAfterPlacing_9 ⟨Nat.zero_le _, Nat.zero_le _⟩ (fun r1 H locs hrr1 X => ?_)
  obtain rfl : r1 = zb (qHas (qWin q5 q7 q0 (nI hp)) (nI sq)) := hrr1
  refine lv_if_eq (tgt := 17) hx hb dX0_worthAfterPlacing_12 (by decide) (fun c3 => ?_) (fun c3 => ?_)
  · have qc3 := c3
    have h1 : qHas (qWin q5 q7 q0 (nI hp)) (nI sq) = false := zb_0.mp c3
    refine lv_aload_n hx hb dX0_worthAfterPlacing_17 rfl (lv_at hl 0 rfl) ?_
    refine lv_aload_n hx hb dX0_worthAfterPlacing_18 rfl (lv_at hl 0 rfl) ?_
    refine zget (fs := [.int q0, .int q1, .int q2, .int (nI hp), .int q4, .int q5, .int q6, .long q7, .int q8, .int q9, .long q10]) (v := .int (nI hp)) Z hin X (ci := 0) (C := RX0) (T := TX0) (N := 11) rfl rfl 3 (by decide) lk_X0_worthAfterPlacing_9 rfl dX0_worthAfterPlacing_19 ?_
    refine lv_iload_n hx hb dX0_worthAfterPlacing_22 rfl (lv_at hl 1 rfl) ?_
    refine zcallVv (n := 2) (As := [.int (nI hp), .int (nI sq)]) (rest := []) (ci := 0) (C := RX0) (T := TX0) (N := 11) Z X (c_X0_put l g bL h q0 q1 q2 (nI hp) q4 q5 q6 q7 q8 q9 q10 (nI hp) (nI sq)) gX0_worthAfterPlacing_X0_put rfl (by decide +kernel) ⟨by show _ ≤ (8 + 2 * n); omega, by show _ ≤ (300 + 50 * n); omega⟩ rfl rfl rfl rfl hl.1 (Nat.le_of_ble_eq_true rfl) dX0_worthAfterPlacing_23 ⟨Nat.zero_le _, Nat.zero_le _⟩ (fun ur3 H locs hrr3 X => ?_)
    obtain rfl : ur3 = (q0, q1, q2, (nI hp), q4, (q5 ||| qBit (nI sq)), (q6 ||| qBit (nI hp)), (qPutD q7 (nI hp) (nI sq)), q8, q9, q10) := hrr3
    have X : zh g A (oQ h (q0, q1, q2, (nI hp), q4, (q5 ||| qBit (nI sq)), (q6 ||| qBit (nI hp)), (qPutD q7 (nI hp) (nI sq)), q8, q9, q10)) s.heap H locs := X
    refine lv_aload_n hx hb dX0_worthAfterPlacing_26 rfl (lv_at hl 0 rfl) ?_
    refine lv_iload_n hx hb dX0_worthAfterPlacing_27 rfl (lv_at hl 2 rfl) ?_
    refine lv_iconst (v := nI 1) hx hb dX0_worthAfterPlacing_28 (by decide) ?_
    refine lv_isub hx hb dX0_worthAfterPlacing_29 ?_
    refine zrwi (y := nI (n - 1)) (pk_sub (by omega)) ?_
    refine zcallVi (n := 1) (As := [.int (nI (n - 1))]) (rest := []) (ci := 0) (C := RX0) (T := TX0) (N := 11) Z X (c_X0_worthToGive l g bL h q0 q1 q2 (nI hp) q4 (q5 ||| qBit (nI sq)) (q6 ||| qBit (nI hp)) (qPutD q7 (nI hp) (nI sq)) q8 q9 q10 (n - 1) (by omega) (qInv_put hinv hpp hsq)) gX0_worthAfterPlacing_X0_worthToGive rfl (by decide +kernel) ⟨by show _ ≤ (8 + 2 * n); omega, by show _ ≤ (300 + 50 * n); omega⟩ rfl rfl rfl rfl hl.1 (Nat.le_of_ble_eq_true rfl) dX0_worthAfterPlacing_30 ⟨Nat.zero_le _, Nat.zero_le _⟩ (fun r4 ur4 H locs hrr4 X => ?_)
    obtain ⟨rfl, rfl⟩ : ur4 = (q0, q1, q2, (nI hp), q4, (q5 ||| qBit (nI sq)), (q6 ||| qBit (nI hp)), (qPutD q7 (nI hp) (nI sq)), q8, q9, q10) ∧ r4 = qWG q0 (n - 1) (q5 ||| qBit (nI sq)) (q6 ||| qBit (nI hp)) (qPutD q7 (nI hp) (nI sq)) := hrr4
    have X : zh g A (oQ h (q0, q1, q2, (nI hp), q4, (q5 ||| qBit (nI sq)), (q6 ||| qBit (nI hp)), (qPutD q7 (nI hp) (nI sq)), q8, q9, q10)) s.heap H locs := X
    refine lv_istore_n (lv' := [(3, .int (qWG q0 (n - 1) (q5 ||| qBit (nI sq)) (q6 ||| qBit (nI hp)) (qPutD q7 (nI hp) (nI sq)))), (0, .ref h), (1, .int (nI sq)), (2, .int (nI n))]) hx hb dX0_worthAfterPlacing_33 rfl hl (by decide) rfl (fun ls hl => ?_)
    refine lv_aload_n hx hb dX0_worthAfterPlacing_34 rfl (lv_at hl 1 rfl) ?_
    refine lv_aload_n hx hb dX0_worthAfterPlacing_35 rfl (lv_at hl 1 rfl) ?_
    refine zget (fs := [.int q0, .int q1, .int q2, .int (nI hp), .int q4, .int (q5 ||| qBit (nI sq)), .int (q6 ||| qBit (nI hp)), .long (qPutD q7 (nI hp) (nI sq)), .int q8, .int q9, .long q10]) (v := .int (nI hp)) Z hin X (ci := 0) (C := RX0) (T := TX0) (N := 11) rfl rfl 3 (by decide) lk_X0_worthAfterPlacing_9 rfl dX0_worthAfterPlacing_36 ?_
    refine lv_iload_n hx hb dX0_worthAfterPlacing_39 rfl (lv_at hl 2 rfl) ?_
    refine zcallVv (n := 2) (As := [.int (nI hp), .int (nI sq)]) (rest := []) (ci := 0) (C := RX0) (T := TX0) (N := 11) Z X (c_X0_lift l g bL h q0 q1 q2 (nI hp) q4 (q5 ||| qBit (nI sq)) (q6 ||| qBit (nI hp)) (qPutD q7 (nI hp) (nI sq)) q8 q9 q10 (nI hp) (nI sq)) gX0_worthAfterPlacing_X0_lift rfl (by decide +kernel) ⟨by show _ ≤ (8 + 2 * n); omega, by show _ ≤ (300 + 50 * n); omega⟩ rfl rfl rfl rfl hl.1 (Nat.le_of_ble_eq_true rfl) dX0_worthAfterPlacing_40 ⟨Nat.zero_le _, Nat.zero_le _⟩ (fun ur5 H locs hrr5 X => ?_)
    obtain rfl : ur5 = (q0, q1, q2, (nI hp), q4, ((q5 ||| qBit (nI sq)) &&& (qBit (nI sq) ^^^ (-1 : Int32))), ((q6 ||| qBit (nI hp)) &&& (qBit (nI hp) ^^^ (-1 : Int32))), (qLiftD (qPutD q7 (nI hp) (nI sq)) (nI sq)), q8, q9, q10) := hrr5
    have X : zh g A (oQ h (q0, q1, q2, (nI hp), q4, ((q5 ||| qBit (nI sq)) &&& (qBit (nI sq) ^^^ (-1 : Int32))), ((q6 ||| qBit (nI hp)) &&& (qBit (nI hp) ^^^ (-1 : Int32))), (qLiftD (qPutD q7 (nI hp) (nI sq)) (nI sq)), q8, q9, q10)) s.heap H locs := X
    have X : zh g A (oQ h (q0, q1, q2, nI hp, q4, q5, q6, q7, q8, q9, q10)) s.heap H locs := by rw [qOrAnd q5 (p := sq) hsq hf, qOrAnd q6 hpp hu, qLiftPut q7 hpp hsq (hinv sq hsq hf)] at X; exact X
    refine lv_iload_n hx hb dX0_worthAfterPlacing_43 rfl (lv_at hl 0 rfl) ?_
    exact zreti Z hr hlk (q0, q1, q2, nI hp, q4, q5, q6, q7, q8, q9, q10) X dX0_worthAfterPlacing_44 rfl (⟨rfl, by simp only [qWA, h1, decide_true, decide_false, Bool.and_true, Bool.and_false, Bool.true_and, Bool.false_and, not_true_eq_false, not_false_eq_true, Bool.not_true, Bool.not_false, if_true, if_false, and_true, true_and, and_false, false_and, Bool.false_eq_true, Bool.true_eq_false, eq_self]⟩)
  · have qc3 := c3
    have h1 : qHas (qWin q5 q7 q0 (nI hp)) (nI sq) = true := zb_n0.mp c3
    refine lv_iconst (v := (1 : Int32)) hx hb dX0_worthAfterPlacing_15 (by decide) ?_
    exact zreti Z hr hlk (q0, q1, q2, nI hp, q4, q5, q6, q7, q8, q9, q10) X dX0_worthAfterPlacing_16 rfl (⟨rfl, by simp only [qWA, h1, decide_true, decide_false, Bool.and_true, Bool.and_false, Bool.true_and, Bool.false_and, not_true_eq_false, not_false_eq_true, Bool.not_true, Bool.not_false, if_true, if_false, and_true, true_and, and_false, false_and, Bool.false_eq_true, Bool.true_eq_false, eq_self]⟩)
theorem inw_X0_bestPiece : ∀ w ∈ wsX00, w ∈ wsX0_bestPiece := by decide +kernel
theorem lk_X0_bestPiece_35 : Cond.fieldLink RX0 35 "Quarterboard" "used" "I" ∈ wsX0_bestPiece := by decide +kernel
def P_X0_bestPiece (q0 q1 q2 q3 q4 q5 q6 : Int32) (q7 : Int64) (q8 q9 : Int32) (q10 : Int64) (n : Nat) : Int32 → QS → Prop := fun r u => u = (q0, q1, q2, q3, q4, q5, q6, q7, q8, q9, q10) ∧ r = nI (qBP q0 n q5 q6 q7)
set_option maxHeartbeats 4000000 in
set_option maxRecDepth 100000 in
theorem c_X0_bestPiece (l : Launch) (g : zG) (bL h : Nat) (q0 q1 q2 q3 q4 q5 q6 : Int32) (q7 : Int64) (q8 q9 : Int32) (q10 : Int64)  (n : Nat) (hn : n ≤ 1000) (hinv : qInv q5 q7) : zM l yX0_bestPiece wsX0_bestPiece (8 + 2 * n) (300 + 50 * n) g [.ref h, .int (nI n)] (oQ h (q0, q1, q2, q3, q4, q5, q6, q7, q8, q9, q10)) (zEL bL) (zQi g (P_X0_bestPiece q0 q1 q2 q3 q4 q5 q6 q7 q8 q9 q10 n) (oQ h)) := by
  refine zstart (cc := cX0_bestPiece) (maxL := 4) (ret := (some .int)) (own := RX0) rfl (by decide) rfl zStL (Nat.le_of_ble_eq_true rfl) ?_
  intro p e s m below meth c A Z hr hlk H locs X ls hl
  have hx := Z.1.1
  have hb := Z.1.2.1
  have hin : ∀ w ∈ wsX00, w ∈ wsX0_bestPiece := inw_X0_bestPiece
  have hl : lv_has ls 4 [(0, .ref h), (1, .int (nI n))] := hl
  have X : zh g A (oQ h (q0, q1, q2, q3, q4, q5, q6, q7, q8, q9, q10)) s.heap H locs := X
  refine lv_aload_n hx hb dX0_bestPiece_0 rfl (lv_at hl 0 rfl) ?_
  refine lv_iload_n hx hb dX0_bestPiece_1 rfl (lv_at hl 1 rfl) ?_
  refine zcallVi (n := 1) (As := [.int (nI n)]) (rest := []) (ci := 0) (C := RX0) (T := TX0) (N := 11) Z X (c_X0_worthToGive l g bL h q0 q1 q2 q3 q4 q5 q6 q7 q8 q9 q10 n hn hinv) gX0_bestPiece_X0_worthToGive rfl (by decide +kernel) ⟨by show _ ≤ (8 + 2 * n); omega, by show _ ≤ (300 + 50 * n); omega⟩ rfl rfl rfl rfl hl.1 (Nat.le_of_ble_eq_true rfl) dX0_bestPiece_2 ⟨Nat.zero_le _, Nat.zero_le _⟩ (fun r0 ur0 H locs hrr0 X => ?_)
  obtain ⟨rfl, rfl⟩ : ur0 = (q0, q1, q2, q3, q4, q5, q6, q7, q8, q9, q10) ∧ r0 = qWG q0 n q5 q6 q7 := hrr0
  have X : zh g A (oQ h (q0, q1, q2, q3, q4, q5, q6, q7, q8, q9, q10)) s.heap H locs := X
  refine lv_istore_n (lv' := [(2, .int (qWG q0 n q5 q6 q7)), (0, .ref h), (1, .int (nI n))]) hx hb dX0_bestPiece_5 rfl hl (by decide) rfl (fun ls hl => ?_)
  refine lv_iconst (v := (0 : Int32)) hx hb dX0_bestPiece_6 (by decide) ?_
  refine lv_istore_n (lv' := [(3, .int (0 : Int32)), (2, .int (qWG q0 n q5 q6 q7)), (0, .ref h), (1, .int (nI n))]) hx hb dX0_bestPiece_7 rfl hl (by decide) rfl (fun ls hl => ?_)
  have cut8 : ∀ (n8 : Nat), ∀ (k : Nat), (k ≤ 15) → (qBP q0 n q5 q6 q7 = findN (qBPF q0 n q5 q6 q7) (15 - k) k) → (16 - k ≤ n8) → ∀ (H : Heap) (locs : List Loc) (ls : Array Slot), zh g A (oQ h (q0, q1, q2, q3, q4, q5, q6, q7, q8, q9, q10)) s.heap H locs → lv_has ls 4 [(3, .int (nI k)), (2, .int (qWG q0 n q5 q6 q7)), (0, .ref h), (1, .int (nI n))] → W p l e { frames := (8 + 2 * n), cells := 0, slots := 0, locals := (300 + 50 * n) } s m ([.ref h, .int (nI n)] : List Value).toArray below meth c H locs 0 0 (MQ below ((zQi g (P_X0_bestPiece q0 q1 q2 q3 q4 q5 q6 q7 q8 q9 q10 n) (oQ h)) A) ([.ref h, .int (nI n)] : List Value).toArray s 0 0 A) (F0 m 8 ls []) := by
    intro n8
    induction n8 with
    | zero =>
      intro k hk hz hm8
      exact absurd hm8 (by omega)
    | succ n8 ih8 =>
      intro k hk hz hm8 H locs ls X hl
      refine lv_iload_n hx hb dX0_bestPiece_8 rfl (lv_at hl 0 rfl) ?_
      refine lv_bipush (v := (15 : Int32)) hx hb dX0_bestPiece_9 (by decide) ?_
      refine lv_icmp_ge (tgt := 42) hx hb dX0_bestPiece_11 (by decide) (fun c2 => ?_) (fun c2 => ?_)
      · have qc2 := c2
        have c2n : 15 ≤ k := zn_let (by omega) (by omega) c2
        refine lv_iload_n hx hb dX0_bestPiece_42 rfl (lv_at hl 0 rfl) ?_
        exact zreti Z hr hlk (q0, q1, q2, q3, q4, q5, q6, q7, q8, q9, q10) X dX0_bestPiece_43 rfl (⟨rfl, congrArg nI (by first | exact (findN_15 (by omega) hz).symm | exact (findN_t (by omega) (by unfold qBPF; rw [hf, decide_eq_true he]; rfl) hz).symm)⟩)
      · have qc2 := c2
        have c2n : ¬ 15 ≤ k := zn_len (by omega) (by omega) c2
        refine lv_aload_n hx hb dX0_bestPiece_14 rfl (lv_at hl 2 rfl) ?_
        refine zget (fs := [.int q0, .int q1, .int q2, .int q3, .int q4, .int q5, .int q6, .long q7, .int q8, .int q9, .long q10]) (v := .int q6) Z hin X (ci := 0) (C := RX0) (T := TX0) (N := 11) rfl rfl 6 (by decide) lk_X0_bestPiece_35 rfl dX0_bestPiece_15 ?_
        refine lv_iload_n hx hb dX0_bestPiece_18 rfl (lv_at hl 0 rfl) ?_
        refine zcallSi (n := 2) (As := [.int q6, .int (nI k)]) (rest := []) Z X (c_X0_has l g q6 (nI k)) gX0_bestPiece_X0_has rfl (by decide +kernel) ⟨by show _ ≤ (8 + 2 * n); omega, by show _ ≤ (300 + 50 * n); omega⟩ rfl rfl hl.1 (Nat.le_of_ble_eq_true rfl) dX0_bestPiece_19 ⟨Nat.zero_le _, Nat.zero_le _⟩ (fun r2 H locs hrr2 X => ?_)
        obtain rfl : r2 = zb (qHas q6 (nI k)) := hrr2
        refine lv_if_ne (tgt := 36) hx hb dX0_bestPiece_22 (by decide) (fun c4 => ?_) (fun c4 => ?_)
        · have qc4 := c4
          have hf : qHas q6 (nI k) = true := zb_n0.mp c4
          refine lv_iinc (v := nI (k + 1)) (lv' := [(3, .int (nI (k + 1))), (2, .int (qWG q0 n q5 q6 q7)), (0, .ref h), (1, .int (nI n))]) hx hb dX0_bestPiece_36 hl (k := 0) rfl (zi_inc k) (by decide) rfl (fun ls hl => ?_)
          refine lv_goto (tgt := 8) hx hb dX0_bestPiece_39 (by decide) ?_
          exact ih8 (k + 1) (by first | assumption | omega) (by first | exact findN_s (by omega) (by unfold qBPF; rw [hf]; rfl) hz | exact findN_s (by omega) (by unfold qBPF; rw [decide_eq_false he, Bool.and_false]) hz) (by omega) H locs ls X (lv_sub hl [0, 1, 2, 3] rfl)
        · have qc4 := c4
          have hf : qHas q6 (nI k) = false := zb_0.mp c4
          refine lv_aload_n hx hb dX0_bestPiece_25 rfl (lv_at hl 2 rfl) ?_
          refine lv_iload_n hx hb dX0_bestPiece_26 rfl (lv_at hl 0 rfl) ?_
          refine lv_iload_n hx hb dX0_bestPiece_27 rfl (lv_at hl 3 rfl) ?_
          refine zcallVi (n := 2) (As := [.int (nI k), .int (nI n)]) (rest := []) (ci := 0) (C := RX0) (T := TX0) (N := 11) Z X (c_X0_worthToPlace l g bL h q0 q1 q2 q3 q4 q5 q6 q7 q8 q9 q10 n k hn (by omega) hf hinv) gX0_bestPiece_X0_worthToPlace rfl (by decide +kernel) ⟨by show _ ≤ (8 + 2 * n); omega, by show _ ≤ (300 + 50 * n); omega⟩ rfl rfl rfl rfl hl.1 (Nat.le_of_ble_eq_true rfl) dX0_bestPiece_28 ⟨Nat.zero_le _, Nat.zero_le _⟩ (fun r4 ur4 H locs hrr4 X => ?_)
          obtain ⟨rfl, rfl⟩ : ur4 = (q0, q1, q2, q3, q4, q5, q6, q7, q8, q9, q10) ∧ r4 = qWP q0 n q5 q6 q7 k := hrr4
          have X : zh g A (oQ h (q0, q1, q2, q3, q4, q5, q6, q7, q8, q9, q10)) s.heap H locs := X
          refine lv_ineg hx hb dX0_bestPiece_31 ?_
          refine lv_iload_n hx hb dX0_bestPiece_32 rfl (lv_at hl 1 rfl) ?_
          refine lv_icmp_eq (tgt := 42) hx hb dX0_bestPiece_33 (by decide) (fun c6 => ?_) (fun c6 => ?_)
          · have qc6 := c6
            have he : -qWP q0 n q5 q6 q7 k = qWG q0 n q5 q6 q7 := c6
            refine lv_iload_n hx hb dX0_bestPiece_42 rfl (lv_at hl 0 rfl) ?_
            exact zreti Z hr hlk (q0, q1, q2, q3, q4, q5, q6, q7, q8, q9, q10) X dX0_bestPiece_43 rfl (⟨rfl, congrArg nI (by first | exact (findN_15 (by omega) hz).symm | exact (findN_t (by omega) (by unfold qBPF; rw [hf, decide_eq_true he]; rfl) hz).symm)⟩)
          · have qc6 := c6
            have he : ¬ -qWP q0 n q5 q6 q7 k = qWG q0 n q5 q6 q7 := c6
            refine lv_iinc (v := nI (k + 1)) (lv' := [(3, .int (nI (k + 1))), (2, .int (qWG q0 n q5 q6 q7)), (0, .ref h), (1, .int (nI n))]) hx hb dX0_bestPiece_36 hl (k := 0) rfl (zi_inc k) (by decide) rfl (fun ls hl => ?_)
            refine lv_goto (tgt := 8) hx hb dX0_bestPiece_39 (by decide) ?_
            exact ih8 (k + 1) (by first | assumption | omega) (by first | exact findN_s (by omega) (by unfold qBPF; rw [hf]; rfl) hz | exact findN_s (by omega) (by unfold qBPF; rw [decide_eq_false he, Bool.and_false]) hz) (by omega) H locs ls X (lv_sub hl [0, 1, 2, 3] rfl)
  exact cut8 16 0 (by first | assumption | omega) (rfl) (by omega) H locs ls X (lv_sub hl [0, 1, 2, 3] rfl)
theorem inw_X0_bestSquare : ∀ w ∈ wsX00, w ∈ wsX0_bestSquare := by decide +kernel
theorem lk_X0_bestSquare_9 : Cond.fieldLink RX0 9 "Quarterboard" "held" "I" ∈ wsX0_bestSquare := by decide +kernel
theorem lk_X0_bestSquare_16 : Cond.fieldLink RX0 16 "Quarterboard" "filled" "I" ∈ wsX0_bestSquare := by decide +kernel
def P_X0_bestSquare (q0 q1 q2 : Int32) (hp : Nat) (q4 q5 q6 : Int32) (q7 : Int64) (q8 q9 : Int32) (q10 : Int64) (n : Nat) : Int32 → QS → Prop := fun r u => u = (q0, q1, q2, nI hp, q4, q5, q6, q7, q8, q9, q10) ∧ r = nI (qBS q0 n q5 q6 q7 hp)
set_option maxHeartbeats 4000000 in
set_option maxRecDepth 100000 in
theorem c_X0_bestSquare (l : Launch) (g : zG) (bL h : Nat) (q0 q1 q2 : Int32) (hp : Nat) (q4 q5 q6 : Int32) (q7 : Int64) (q8 q9 : Int32) (q10 : Int64)  (n : Nat) (hn1 : 1 ≤ n) (hn : n ≤ 1000) (hpp : hp < 16) (hu : qHas q6 (nI hp) = false) (hinv : qInv q5 q7) : zM l yX0_bestSquare wsX0_bestSquare (9 + 2 * n) (350 + 50 * n) g [.ref h, .int (nI n)] (oQ h (q0, q1, q2, nI hp, q4, q5, q6, q7, q8, q9, q10)) (zEL bL) (zQi g (P_X0_bestSquare q0 q1 q2 hp q4 q5 q6 q7 q8 q9 q10 n) (oQ h)) := by
  refine zstart (cc := cX0_bestSquare) (maxL := 4) (ret := (some .int)) (own := RX0) rfl (by decide) rfl zStL (Nat.le_of_ble_eq_true rfl) ?_
  intro p e s m below meth c A Z hr hlk H locs X ls hl
  have hx := Z.1.1
  have hb := Z.1.2.1
  have hin : ∀ w ∈ wsX00, w ∈ wsX0_bestSquare := inw_X0_bestSquare
  have hl : lv_has ls 4 [(0, .ref h), (1, .int (nI n))] := hl
  have X : zh g A (oQ h (q0, q1, q2, nI hp, q4, q5, q6, q7, q8, q9, q10)) s.heap H locs := X
  refine lv_aload_n hx hb dX0_bestSquare_0 rfl (lv_at hl 0 rfl) ?_
  refine lv_aload_n hx hb dX0_bestSquare_1 rfl (lv_at hl 0 rfl) ?_
  refine zget (fs := [.int q0, .int q1, .int q2, .int (nI hp), .int q4, .int q5, .int q6, .long q7, .int q8, .int q9, .long q10]) (v := .int (nI hp)) Z hin X (ci := 0) (C := RX0) (T := TX0) (N := 11) rfl rfl 3 (by decide) lk_X0_bestSquare_9 rfl dX0_bestSquare_2 ?_
  refine lv_iload_n hx hb dX0_bestSquare_5 rfl (lv_at hl 1 rfl) ?_
  refine zcallVi (n := 2) (As := [.int (nI hp), .int (nI n)]) (rest := []) (ci := 0) (C := RX0) (T := TX0) (N := 11) Z X (c_X0_worthToPlace l g bL h q0 q1 q2 (nI hp) q4 q5 q6 q7 q8 q9 q10 n hp hn hpp hu hinv) gX0_bestSquare_X0_worthToPlace rfl (by decide +kernel) ⟨by show _ ≤ (9 + 2 * n); omega, by show _ ≤ (350 + 50 * n); omega⟩ rfl rfl rfl rfl hl.1 (Nat.le_of_ble_eq_true rfl) dX0_bestSquare_6 ⟨Nat.zero_le _, Nat.zero_le _⟩ (fun r0 ur0 H locs hrr0 X => ?_)
  obtain ⟨rfl, rfl⟩ : ur0 = (q0, q1, q2, nI hp, q4, q5, q6, q7, q8, q9, q10) ∧ r0 = qWP q0 n q5 q6 q7 hp := hrr0
  have X : zh g A (oQ h (q0, q1, q2, nI hp, q4, q5, q6, q7, q8, q9, q10)) s.heap H locs := X
  refine lv_istore_n (lv' := [(2, .int (qWP q0 n q5 q6 q7 hp)), (0, .ref h), (1, .int (nI n))]) hx hb dX0_bestSquare_9 rfl hl (by decide) rfl (fun ls hl => ?_)
  refine lv_iconst (v := (0 : Int32)) hx hb dX0_bestSquare_10 (by decide) ?_
  refine lv_istore_n (lv' := [(3, .int (0 : Int32)), (2, .int (qWP q0 n q5 q6 q7 hp)), (0, .ref h), (1, .int (nI n))]) hx hb dX0_bestSquare_11 rfl hl (by decide) rfl (fun ls hl => ?_)
  have cut12 : ∀ (n12 : Nat), ∀ (k : Nat), (k ≤ 15) → (qBS q0 n q5 q6 q7 hp = findN (qBSF q0 n q5 q6 q7 hp) (15 - k) k) → (16 - k ≤ n12) → ∀ (H : Heap) (locs : List Loc) (ls : Array Slot), zh g A (oQ h (q0, q1, q2, nI hp, q4, q5, q6, q7, q8, q9, q10)) s.heap H locs → lv_has ls 4 [(3, .int (nI k)), (2, .int (qWP q0 n q5 q6 q7 hp)), (0, .ref h), (1, .int (nI n))] → W p l e { frames := (9 + 2 * n), cells := 0, slots := 0, locals := (350 + 50 * n) } s m ([.ref h, .int (nI n)] : List Value).toArray below meth c H locs 0 0 (MQ below ((zQi g (P_X0_bestSquare q0 q1 q2 hp q4 q5 q6 q7 q8 q9 q10 n) (oQ h)) A) ([.ref h, .int (nI n)] : List Value).toArray s 0 0 A) (F0 m 12 ls []) := by
    intro n12
    induction n12 with
    | zero =>
      intro k hk hz hm12
      exact absurd hm12 (by omega)
    | succ n12 ih12 =>
      intro k hk hz hm12 H locs ls X hl
      refine lv_iload_n hx hb dX0_bestSquare_12 rfl (lv_at hl 0 rfl) ?_
      refine lv_bipush (v := (15 : Int32)) hx hb dX0_bestSquare_13 (by decide) ?_
      refine lv_icmp_ge (tgt := 45) hx hb dX0_bestSquare_15 (by decide) (fun c2 => ?_) (fun c2 => ?_)
      · have qc2 := c2
        have c2n : 15 ≤ k := zn_let (by omega) (by omega) c2
        refine lv_iload_n hx hb dX0_bestSquare_45 rfl (lv_at hl 0 rfl) ?_
        exact zreti Z hr hlk (q0, q1, q2, nI hp, q4, q5, q6, q7, q8, q9, q10) X dX0_bestSquare_46 rfl (⟨rfl, congrArg nI (by first | exact (findN_15 (by omega) hz).symm | exact (findN_t (by omega) (by unfold qBSF; rw [hf, decide_eq_true he]; rfl) hz).symm)⟩)
      · have qc2 := c2
        have c2n : ¬ 15 ≤ k := zn_len (by omega) (by omega) c2
        refine lv_aload_n hx hb dX0_bestSquare_18 rfl (lv_at hl 2 rfl) ?_
        refine zget (fs := [.int q0, .int q1, .int q2, .int (nI hp), .int q4, .int q5, .int q6, .long q7, .int q8, .int q9, .long q10]) (v := .int q5) Z hin X (ci := 0) (C := RX0) (T := TX0) (N := 11) rfl rfl 5 (by decide) lk_X0_bestSquare_16 rfl dX0_bestSquare_19 ?_
        refine lv_iload_n hx hb dX0_bestSquare_22 rfl (lv_at hl 0 rfl) ?_
        refine zcallSi (n := 2) (As := [.int q5, .int (nI k)]) (rest := []) Z X (c_X0_has l g q5 (nI k)) gX0_bestSquare_X0_has rfl (by decide +kernel) ⟨by show _ ≤ (9 + 2 * n); omega, by show _ ≤ (350 + 50 * n); omega⟩ rfl rfl hl.1 (Nat.le_of_ble_eq_true rfl) dX0_bestSquare_23 ⟨Nat.zero_le _, Nat.zero_le _⟩ (fun r2 H locs hrr2 X => ?_)
        obtain rfl : r2 = zb (qHas q5 (nI k)) := hrr2
        refine lv_if_ne (tgt := 39) hx hb dX0_bestSquare_26 (by decide) (fun c4 => ?_) (fun c4 => ?_)
        · have qc4 := c4
          have hf : qHas q5 (nI k) = true := zb_n0.mp c4
          refine lv_iinc (v := nI (k + 1)) (lv' := [(3, .int (nI (k + 1))), (2, .int (qWP q0 n q5 q6 q7 hp)), (0, .ref h), (1, .int (nI n))]) hx hb dX0_bestSquare_39 hl (k := 0) rfl (zi_inc k) (by decide) rfl (fun ls hl => ?_)
          refine lv_goto (tgt := 12) hx hb dX0_bestSquare_42 (by decide) ?_
          exact ih12 (k + 1) (by first | assumption | omega) (by first | exact findN_s (by omega) (by unfold qBSF; rw [hf]; rfl) hz | exact findN_s (by omega) (by unfold qBSF; rw [decide_eq_false he, Bool.and_false]) hz) (by omega) H locs ls X (lv_sub hl [0, 1, 2, 3] rfl)
        · have qc4 := c4
          have hf : qHas q5 (nI k) = false := zb_0.mp c4
          refine lv_aload_n hx hb dX0_bestSquare_29 rfl (lv_at hl 2 rfl) ?_
          refine lv_iload_n hx hb dX0_bestSquare_30 rfl (lv_at hl 0 rfl) ?_
          refine lv_iload_n hx hb dX0_bestSquare_31 rfl (lv_at hl 3 rfl) ?_
          refine zcallVi (n := 2) (As := [.int (nI k), .int (nI n)]) (rest := []) (ci := 0) (C := RX0) (T := TX0) (N := 11) Z X (c_X0_worthAfterPlacing l g bL h q0 q1 q2 hp q4 q5 q6 q7 q8 q9 q10 n k hn1 hn hpp hu (by omega) hf hinv) gX0_bestSquare_X0_worthAfterPlacing rfl (by decide +kernel) ⟨by show _ ≤ (9 + 2 * n); omega, by show _ ≤ (350 + 50 * n); omega⟩ rfl rfl rfl rfl hl.1 (Nat.le_of_ble_eq_true rfl) dX0_bestSquare_32 ⟨Nat.zero_le _, Nat.zero_le _⟩ (fun r4 ur4 H locs hrr4 X => ?_)
          obtain ⟨rfl, rfl⟩ : ur4 = (q0, q1, q2, nI hp, q4, q5, q6, q7, q8, q9, q10) ∧ r4 = qWA q0 n q5 q6 q7 hp k := hrr4
          have X : zh g A (oQ h (q0, q1, q2, nI hp, q4, q5, q6, q7, q8, q9, q10)) s.heap H locs := X
          refine lv_iload_n hx hb dX0_bestSquare_35 rfl (lv_at hl 1 rfl) ?_
          refine lv_icmp_eq (tgt := 45) hx hb dX0_bestSquare_36 (by decide) (fun c6 => ?_) (fun c6 => ?_)
          · have qc6 := c6
            have he : qWA q0 n q5 q6 q7 hp k = qWP q0 n q5 q6 q7 hp := c6
            refine lv_iload_n hx hb dX0_bestSquare_45 rfl (lv_at hl 0 rfl) ?_
            exact zreti Z hr hlk (q0, q1, q2, nI hp, q4, q5, q6, q7, q8, q9, q10) X dX0_bestSquare_46 rfl (⟨rfl, congrArg nI (by first | exact (findN_15 (by omega) hz).symm | exact (findN_t (by omega) (by unfold qBSF; rw [hf, decide_eq_true he]; rfl) hz).symm)⟩)
          · have qc6 := c6
            have he : ¬ qWA q0 n q5 q6 q7 hp k = qWP q0 n q5 q6 q7 hp := c6
            refine lv_iinc (v := nI (k + 1)) (lv' := [(3, .int (nI (k + 1))), (2, .int (qWP q0 n q5 q6 q7 hp)), (0, .ref h), (1, .int (nI n))]) hx hb dX0_bestSquare_39 hl (k := 0) rfl (zi_inc k) (by decide) rfl (fun ls hl => ?_)
            refine lv_goto (tgt := 12) hx hb dX0_bestSquare_42 (by decide) ?_
            exact ih12 (k + 1) (by first | assumption | omega) (by first | exact findN_s (by omega) (by unfold qBSF; rw [hf]; rfl) hz | exact findN_s (by omega) (by unfold qBSF; rw [decide_eq_false he, Bool.and_false]) hz) (by omega) H locs ls X (lv_sub hl [0, 1, 2, 3] rfl)
  exact cut12 16 0 (by first | assumption | omega) (rfl) (by omega) H locs ls X (lv_sub hl [0, 1, 2, 3] rfl)
end
section
/-! the class: turning and renaming -/
def tsq (s t : Nat) : Nat := 4 * (if t / 2 % 2 = 0 then (if t % 2 = 0 then s / 4 else s % 4) else 3 - (if t % 2 = 0 then s / 4 else s % 4)) + (if t / 4 % 2 = 0 then (if t % 2 = 0 then s % 4 else s / 4) else 3 - (if t % 2 = 0 then s % 4 else s / 4))
theorem qT1 : ∀ t, t < 8 → (nI t &&& nI 1 = (0 : Int32) ↔ t % 2 = 0) := by decide +kernel
theorem qT2 : ∀ t, t < 8 → (nI t &&& nI 2 = (0 : Int32) ↔ t / 2 % 2 = 0) := by decide +kernel
theorem qT4 : ∀ t, t < 8 → (nI t &&& nI 4 = (0 : Int32) ↔ t / 4 % 2 = 0) := by decide +kernel
def qTrn (x : Int64) (t : Nat) : Nat → Int64
  | 0 => 0
  | k + 1 => qTrn x t k ||| ((((x.toUInt64 >>> ((nI k).toInt64.toUInt64 &&& Int64.toUInt64 63)).toInt64) &&& (281479271743489 : Int64)) <<< ((nI (tsq k t)).toInt64 &&& 63))
def qTurned (x : Int64) (t : Nat) : Int64 := qTrn x t 16
def qLvC (d : Int64) (sq : Int32) : Nat → Int64
  | 0 => d
  | k + 1 => if qOne d (nI k) &&& (sq &&& -sq) = 0 then qLvC d sq k else qLvC d sq k ^^^ (sq.toInt64 <<< (((16 : Int32) * nI k).toInt64 &&& 63))
def qLev (d : Int64) (sq : Int32) : Int64 := qLvC d sq 4
def qEqC (d : Int64) (ones : Int32) : Nat → Nat
  | 0 => 0
  | k + 1 => if qOne d (nI k) = ones then qEqC d ones k + 1 else qEqC d ones k
theorem qEqC_le (d : Int64) (ones : Int32) : ∀ k, qEqC d ones k ≤ k
  | 0 => Nat.le_refl 0
  | k + 1 => by
    have := qEqC_le d ones k
    unfold qEqC
    split <;> omega
def qWyC (mine other : Int64) : Nat → Int32
  | 0 => 1
  | k + 1 => qWyC mine other k * (nI (qEqC other (qOne mine (nI k)) 4) - nI (qEqC mine (qOne mine (nI k)) k))
def qWays (f : Int32) (d : Int64) (t : Nat) (of : Int32) (od : Int64) : Int32 := if ¬ (qTurned f.toInt64 t).toInt32 = of then 0 else if of = 0 then 384 else qWyC (qLev (qTurned d t) of) (qLev od of) 4
def P_X0_turnedSquare (sq t : Nat) : Int32 → Unit → Prop := fun r _ => r = nI (tsq sq t)
set_option maxHeartbeats 4000000 in
set_option maxRecDepth 100000 in
theorem c_X0_turnedSquare (l : Launch) (g : zG) (sq : Nat) (t : Nat) (hsq : sq < 16) (ht : t < 8) : zM l yX0_turnedSquare wsX0_turnedSquare 0 0 g [.int (nI sq), .int (nI t)] ([]) zE0 (zQi g (P_X0_turnedSquare sq t) (fun _ : Unit => [])) := by
  refine zstart (cc := cX0_turnedSquare) (maxL := 5) (ret := (some .int)) (own := RX0) rfl (by decide) rfl zSt0 (Nat.le_of_ble_eq_true rfl) ?_
  intro p e s m below meth c A Z hr hlk H locs X ls hl
  have hx := Z.1.1
  have hb := Z.1.2.1
  have hl : lv_has ls 5 [(0, .int (nI sq)), (1, .int (nI t))] := hl
  have X : zh g A ([]) s.heap H locs := X
  refine lv_iload_n hx hb dX0_turnedSquare_0 rfl (lv_at hl 0 rfl) ?_
  refine lv_iconst (v := nI 4) hx hb dX0_turnedSquare_1 (by decide) ?_
  refine lv_idiv hx hb dX0_turnedSquare_2 (by decide) ?_
  refine zrwi (y := nI (sq / 4)) (pk_div (by omega) (by decide) (by decide)) ?_
  refine lv_istore_n (lv' := [(2, .int (nI (sq / 4))), (0, .int (nI sq)), (1, .int (nI t))]) hx hb dX0_turnedSquare_3 rfl hl (by decide) rfl (fun ls hl => ?_)
  refine lv_iload_n hx hb dX0_turnedSquare_4 rfl (lv_at hl 1 rfl) ?_
  refine lv_iconst (v := nI 4) hx hb dX0_turnedSquare_5 (by decide) ?_
  refine lv_irem hx hb dX0_turnedSquare_6 (by decide) ?_
  refine zrwi (y := nI (sq % 4)) (pk_rem (by omega) (by decide) (by decide)) ?_
  refine lv_istore_n (lv' := [(3, .int (nI (sq % 4))), (2, .int (nI (sq / 4))), (0, .int (nI sq)), (1, .int (nI t))]) hx hb dX0_turnedSquare_7 rfl hl (by decide) rfl (fun ls hl => ?_)
  refine lv_iload_n hx hb dX0_turnedSquare_8 rfl (lv_at hl 3 rfl) ?_
  refine lv_iconst (v := nI 1) hx hb dX0_turnedSquare_9 (by decide) ?_
  refine lv_iand hx hb dX0_turnedSquare_10 ?_
  refine lv_if_eq (tgt := 22) hx hb dX0_turnedSquare_11 (by decide) (fun c1 => ?_) (fun c1 => ?_)
  · have qc1 := c1
    have h1 : t % 2 = 0 := (qT1 t ht).mp c1
    refine lv_iload_n hx hb dX0_turnedSquare_22 rfl (lv_at hl 3 rfl) ?_
    refine lv_iconst (v := nI 2) hx hb dX0_turnedSquare_23 (by decide) ?_
    refine lv_iand hx hb dX0_turnedSquare_24 ?_
    refine lv_if_eq (tgt := 32) hx hb dX0_turnedSquare_25 (by decide) (fun c2 => ?_) (fun c2 => ?_)
    · have qc2 := c2
      have h2 : t / 2 % 2 = 0 := (qT2 t ht).mp c2
      refine lv_iload_n hx hb dX0_turnedSquare_32 rfl (lv_at hl 3 rfl) ?_
      refine lv_iconst (v := nI 4) hx hb dX0_turnedSquare_33 (by decide) ?_
      refine lv_iand hx hb dX0_turnedSquare_34 ?_
      refine lv_if_eq (tgt := 42) hx hb dX0_turnedSquare_35 (by decide) (fun c3 => ?_) (fun c3 => ?_)
      · have qc3 := c3
        have h3 : t / 4 % 2 = 0 := (qT4 t ht).mp c3
        refine lv_iconst (v := nI 4) hx hb dX0_turnedSquare_42 (by decide) ?_
        refine lv_iload_n hx hb dX0_turnedSquare_43 rfl (lv_at hl 1 rfl) ?_
        refine lv_imul hx hb dX0_turnedSquare_44 ?_
        refine zrwi (y := nI (4 * (sq / 4))) (pk_mul _ _) ?_
        refine lv_iload_n hx hb dX0_turnedSquare_45 rfl (lv_at hl 0 rfl) ?_
        refine lv_iadd hx hb dX0_turnedSquare_46 ?_
        refine zrwi (y := nI ((4 * (sq / 4)) + (sq % 4))) (nI_add _ _) ?_
        exact zreti Z hr hlk () X dX0_turnedSquare_47 rfl (by show _ = nI (tsq sq t); simp only [tsq, h1, h2, h3, decide_true, decide_false, Bool.and_true, Bool.and_false, Bool.true_and, Bool.false_and, not_true_eq_false, not_false_eq_true, Bool.not_true, Bool.not_false, if_true, if_false, and_true, true_and, and_false, false_and, Bool.false_eq_true, Bool.true_eq_false, eq_self])
      · have qc3 := c3
        have h3 : ¬ t / 4 % 2 = 0 := fun q => c3 ((qT4 t ht).mpr q)
        refine lv_iconst (v := nI 3) hx hb dX0_turnedSquare_38 (by decide) ?_
        refine lv_iload_n hx hb dX0_turnedSquare_39 rfl (lv_at hl 0 rfl) ?_
        refine lv_isub hx hb dX0_turnedSquare_40 ?_
        refine zrwi (y := nI (3 - (sq % 4))) (pk_sub (by omega)) ?_
        refine lv_istore_n (lv' := [(3, .int (nI (3 - (sq % 4)))), (2, .int (nI (sq / 4))), (0, .int (nI sq)), (1, .int (nI t))]) hx hb dX0_turnedSquare_41 rfl hl (by decide) rfl (fun ls hl => ?_)
        refine lv_iconst (v := nI 4) hx hb dX0_turnedSquare_42 (by decide) ?_
        refine lv_iload_n hx hb dX0_turnedSquare_43 rfl (lv_at hl 1 rfl) ?_
        refine lv_imul hx hb dX0_turnedSquare_44 ?_
        refine zrwi (y := nI (4 * (sq / 4))) (pk_mul _ _) ?_
        refine lv_iload_n hx hb dX0_turnedSquare_45 rfl (lv_at hl 0 rfl) ?_
        refine lv_iadd hx hb dX0_turnedSquare_46 ?_
        refine zrwi (y := nI ((4 * (sq / 4)) + (3 - (sq % 4)))) (nI_add _ _) ?_
        exact zreti Z hr hlk () X dX0_turnedSquare_47 rfl (by show _ = nI (tsq sq t); simp only [tsq, h1, h2, h3, decide_true, decide_false, Bool.and_true, Bool.and_false, Bool.true_and, Bool.false_and, not_true_eq_false, not_false_eq_true, Bool.not_true, Bool.not_false, if_true, if_false, and_true, true_and, and_false, false_and, Bool.false_eq_true, Bool.true_eq_false, eq_self])
    · have qc2 := c2
      have h2 : ¬ t / 2 % 2 = 0 := fun q => c2 ((qT2 t ht).mpr q)
      refine lv_iconst (v := nI 3) hx hb dX0_turnedSquare_28 (by decide) ?_
      refine lv_iload_n hx hb dX0_turnedSquare_29 rfl (lv_at hl 1 rfl) ?_
      refine lv_isub hx hb dX0_turnedSquare_30 ?_
      refine zrwi (y := nI (3 - (sq / 4))) (pk_sub (by omega)) ?_
      refine lv_istore_n (lv' := [(2, .int (nI (3 - (sq / 4)))), (3, .int (nI (sq % 4))), (0, .int (nI sq)), (1, .int (nI t))]) hx hb dX0_turnedSquare_31 rfl hl (by decide) rfl (fun ls hl => ?_)
      refine lv_iload_n hx hb dX0_turnedSquare_32 rfl (lv_at hl 3 rfl) ?_
      refine lv_iconst (v := nI 4) hx hb dX0_turnedSquare_33 (by decide) ?_
      refine lv_iand hx hb dX0_turnedSquare_34 ?_
      refine lv_if_eq (tgt := 42) hx hb dX0_turnedSquare_35 (by decide) (fun c4 => ?_) (fun c4 => ?_)
      · have qc4 := c4
        have h3 : t / 4 % 2 = 0 := (qT4 t ht).mp c4
        refine lv_iconst (v := nI 4) hx hb dX0_turnedSquare_42 (by decide) ?_
        refine lv_iload_n hx hb dX0_turnedSquare_43 rfl (lv_at hl 0 rfl) ?_
        refine lv_imul hx hb dX0_turnedSquare_44 ?_
        refine zrwi (y := nI (4 * (3 - (sq / 4)))) (pk_mul _ _) ?_
        refine lv_iload_n hx hb dX0_turnedSquare_45 rfl (lv_at hl 1 rfl) ?_
        refine lv_iadd hx hb dX0_turnedSquare_46 ?_
        refine zrwi (y := nI ((4 * (3 - (sq / 4))) + (sq % 4))) (nI_add _ _) ?_
        exact zreti Z hr hlk () X dX0_turnedSquare_47 rfl (by show _ = nI (tsq sq t); simp only [tsq, h1, h2, h3, decide_true, decide_false, Bool.and_true, Bool.and_false, Bool.true_and, Bool.false_and, not_true_eq_false, not_false_eq_true, Bool.not_true, Bool.not_false, if_true, if_false, and_true, true_and, and_false, false_and, Bool.false_eq_true, Bool.true_eq_false, eq_self])
      · have qc4 := c4
        have h3 : ¬ t / 4 % 2 = 0 := fun q => c4 ((qT4 t ht).mpr q)
        refine lv_iconst (v := nI 3) hx hb dX0_turnedSquare_38 (by decide) ?_
        refine lv_iload_n hx hb dX0_turnedSquare_39 rfl (lv_at hl 1 rfl) ?_
        refine lv_isub hx hb dX0_turnedSquare_40 ?_
        refine zrwi (y := nI (3 - (sq % 4))) (pk_sub (by omega)) ?_
        refine lv_istore_n (lv' := [(3, .int (nI (3 - (sq % 4)))), (2, .int (nI (3 - (sq / 4)))), (0, .int (nI sq)), (1, .int (nI t))]) hx hb dX0_turnedSquare_41 rfl hl (by decide) rfl (fun ls hl => ?_)
        refine lv_iconst (v := nI 4) hx hb dX0_turnedSquare_42 (by decide) ?_
        refine lv_iload_n hx hb dX0_turnedSquare_43 rfl (lv_at hl 1 rfl) ?_
        refine lv_imul hx hb dX0_turnedSquare_44 ?_
        refine zrwi (y := nI (4 * (3 - (sq / 4)))) (pk_mul _ _) ?_
        refine lv_iload_n hx hb dX0_turnedSquare_45 rfl (lv_at hl 0 rfl) ?_
        refine lv_iadd hx hb dX0_turnedSquare_46 ?_
        refine zrwi (y := nI ((4 * (3 - (sq / 4))) + (3 - (sq % 4)))) (nI_add _ _) ?_
        exact zreti Z hr hlk () X dX0_turnedSquare_47 rfl (by show _ = nI (tsq sq t); simp only [tsq, h1, h2, h3, decide_true, decide_false, Bool.and_true, Bool.and_false, Bool.true_and, Bool.false_and, not_true_eq_false, not_false_eq_true, Bool.not_true, Bool.not_false, if_true, if_false, and_true, true_and, and_false, false_and, Bool.false_eq_true, Bool.true_eq_false, eq_self])
  · have qc1 := c1
    have h1 : ¬ t % 2 = 0 := fun q => c1 ((qT1 t ht).mpr q)
    refine lv_iload_n hx hb dX0_turnedSquare_14 rfl (lv_at hl 1 rfl) ?_
    refine lv_istore (lv' := [(4, .int (nI (sq / 4))), (3, .int (nI (sq % 4))), (2, .int (nI (sq / 4))), (0, .int (nI sq)), (1, .int (nI t))]) hx hb dX0_turnedSquare_15 hl (by decide) rfl (fun ls hl => ?_)
    refine lv_iload_n hx hb dX0_turnedSquare_17 rfl (lv_at hl 1 rfl) ?_
    refine lv_istore_n (lv' := [(2, .int (nI (sq % 4))), (4, .int (nI (sq / 4))), (3, .int (nI (sq % 4))), (0, .int (nI sq)), (1, .int (nI t))]) hx hb dX0_turnedSquare_18 rfl hl (by decide) rfl (fun ls hl => ?_)
    refine lv_iload hx hb dX0_turnedSquare_19 (lv_at hl 1 rfl) ?_
    refine lv_istore_n (lv' := [(3, .int (nI (sq / 4))), (2, .int (nI (sq % 4))), (4, .int (nI (sq / 4))), (0, .int (nI sq)), (1, .int (nI t))]) hx hb dX0_turnedSquare_21 rfl hl (by decide) rfl (fun ls hl => ?_)
    refine lv_iload_n hx hb dX0_turnedSquare_22 rfl (lv_at hl 4 rfl) ?_
    refine lv_iconst (v := nI 2) hx hb dX0_turnedSquare_23 (by decide) ?_
    refine lv_iand hx hb dX0_turnedSquare_24 ?_
    refine lv_if_eq (tgt := 32) hx hb dX0_turnedSquare_25 (by decide) (fun c5 => ?_) (fun c5 => ?_)
    · have qc5 := c5
      have h2 : t / 2 % 2 = 0 := (qT2 t ht).mp c5
      refine lv_iload_n hx hb dX0_turnedSquare_32 rfl (lv_at hl 4 rfl) ?_
      refine lv_iconst (v := nI 4) hx hb dX0_turnedSquare_33 (by decide) ?_
      refine lv_iand hx hb dX0_turnedSquare_34 ?_
      refine lv_if_eq (tgt := 42) hx hb dX0_turnedSquare_35 (by decide) (fun c6 => ?_) (fun c6 => ?_)
      · have qc6 := c6
        have h3 : t / 4 % 2 = 0 := (qT4 t ht).mp c6
        refine lv_iconst (v := nI 4) hx hb dX0_turnedSquare_42 (by decide) ?_
        refine lv_iload_n hx hb dX0_turnedSquare_43 rfl (lv_at hl 1 rfl) ?_
        refine lv_imul hx hb dX0_turnedSquare_44 ?_
        refine zrwi (y := nI (4 * (sq % 4))) (pk_mul _ _) ?_
        refine lv_iload_n hx hb dX0_turnedSquare_45 rfl (lv_at hl 0 rfl) ?_
        refine lv_iadd hx hb dX0_turnedSquare_46 ?_
        refine zrwi (y := nI ((4 * (sq % 4)) + (sq / 4))) (nI_add _ _) ?_
        exact zreti Z hr hlk () X dX0_turnedSquare_47 rfl (by show _ = nI (tsq sq t); simp only [tsq, h1, h2, h3, decide_true, decide_false, Bool.and_true, Bool.and_false, Bool.true_and, Bool.false_and, not_true_eq_false, not_false_eq_true, Bool.not_true, Bool.not_false, if_true, if_false, and_true, true_and, and_false, false_and, Bool.false_eq_true, Bool.true_eq_false, eq_self])
      · have qc6 := c6
        have h3 : ¬ t / 4 % 2 = 0 := fun q => c6 ((qT4 t ht).mpr q)
        refine lv_iconst (v := nI 3) hx hb dX0_turnedSquare_38 (by decide) ?_
        refine lv_iload_n hx hb dX0_turnedSquare_39 rfl (lv_at hl 0 rfl) ?_
        refine lv_isub hx hb dX0_turnedSquare_40 ?_
        refine zrwi (y := nI (3 - (sq / 4))) (pk_sub (by omega)) ?_
        refine lv_istore_n (lv' := [(3, .int (nI (3 - (sq / 4)))), (2, .int (nI (sq % 4))), (4, .int (nI (sq / 4))), (0, .int (nI sq)), (1, .int (nI t))]) hx hb dX0_turnedSquare_41 rfl hl (by decide) rfl (fun ls hl => ?_)
        refine lv_iconst (v := nI 4) hx hb dX0_turnedSquare_42 (by decide) ?_
        refine lv_iload_n hx hb dX0_turnedSquare_43 rfl (lv_at hl 1 rfl) ?_
        refine lv_imul hx hb dX0_turnedSquare_44 ?_
        refine zrwi (y := nI (4 * (sq % 4))) (pk_mul _ _) ?_
        refine lv_iload_n hx hb dX0_turnedSquare_45 rfl (lv_at hl 0 rfl) ?_
        refine lv_iadd hx hb dX0_turnedSquare_46 ?_
        refine zrwi (y := nI ((4 * (sq % 4)) + (3 - (sq / 4)))) (nI_add _ _) ?_
        exact zreti Z hr hlk () X dX0_turnedSquare_47 rfl (by show _ = nI (tsq sq t); simp only [tsq, h1, h2, h3, decide_true, decide_false, Bool.and_true, Bool.and_false, Bool.true_and, Bool.false_and, not_true_eq_false, not_false_eq_true, Bool.not_true, Bool.not_false, if_true, if_false, and_true, true_and, and_false, false_and, Bool.false_eq_true, Bool.true_eq_false, eq_self])
    · have qc5 := c5
      have h2 : ¬ t / 2 % 2 = 0 := fun q => c5 ((qT2 t ht).mpr q)
      refine lv_iconst (v := nI 3) hx hb dX0_turnedSquare_28 (by decide) ?_
      refine lv_iload_n hx hb dX0_turnedSquare_29 rfl (lv_at hl 1 rfl) ?_
      refine lv_isub hx hb dX0_turnedSquare_30 ?_
      refine zrwi (y := nI (3 - (sq % 4))) (pk_sub (by omega)) ?_
      refine lv_istore_n (lv' := [(2, .int (nI (3 - (sq % 4)))), (3, .int (nI (sq / 4))), (4, .int (nI (sq / 4))), (0, .int (nI sq)), (1, .int (nI t))]) hx hb dX0_turnedSquare_31 rfl hl (by decide) rfl (fun ls hl => ?_)
      refine lv_iload_n hx hb dX0_turnedSquare_32 rfl (lv_at hl 4 rfl) ?_
      refine lv_iconst (v := nI 4) hx hb dX0_turnedSquare_33 (by decide) ?_
      refine lv_iand hx hb dX0_turnedSquare_34 ?_
      refine lv_if_eq (tgt := 42) hx hb dX0_turnedSquare_35 (by decide) (fun c7 => ?_) (fun c7 => ?_)
      · have qc7 := c7
        have h3 : t / 4 % 2 = 0 := (qT4 t ht).mp c7
        refine lv_iconst (v := nI 4) hx hb dX0_turnedSquare_42 (by decide) ?_
        refine lv_iload_n hx hb dX0_turnedSquare_43 rfl (lv_at hl 0 rfl) ?_
        refine lv_imul hx hb dX0_turnedSquare_44 ?_
        refine zrwi (y := nI (4 * (3 - (sq % 4)))) (pk_mul _ _) ?_
        refine lv_iload_n hx hb dX0_turnedSquare_45 rfl (lv_at hl 1 rfl) ?_
        refine lv_iadd hx hb dX0_turnedSquare_46 ?_
        refine zrwi (y := nI ((4 * (3 - (sq % 4))) + (sq / 4))) (nI_add _ _) ?_
        exact zreti Z hr hlk () X dX0_turnedSquare_47 rfl (by show _ = nI (tsq sq t); simp only [tsq, h1, h2, h3, decide_true, decide_false, Bool.and_true, Bool.and_false, Bool.true_and, Bool.false_and, not_true_eq_false, not_false_eq_true, Bool.not_true, Bool.not_false, if_true, if_false, and_true, true_and, and_false, false_and, Bool.false_eq_true, Bool.true_eq_false, eq_self])
      · have qc7 := c7
        have h3 : ¬ t / 4 % 2 = 0 := fun q => c7 ((qT4 t ht).mpr q)
        refine lv_iconst (v := nI 3) hx hb dX0_turnedSquare_38 (by decide) ?_
        refine lv_iload_n hx hb dX0_turnedSquare_39 rfl (lv_at hl 1 rfl) ?_
        refine lv_isub hx hb dX0_turnedSquare_40 ?_
        refine zrwi (y := nI (3 - (sq / 4))) (pk_sub (by omega)) ?_
        refine lv_istore_n (lv' := [(3, .int (nI (3 - (sq / 4)))), (2, .int (nI (3 - (sq % 4)))), (4, .int (nI (sq / 4))), (0, .int (nI sq)), (1, .int (nI t))]) hx hb dX0_turnedSquare_41 rfl hl (by decide) rfl (fun ls hl => ?_)
        refine lv_iconst (v := nI 4) hx hb dX0_turnedSquare_42 (by decide) ?_
        refine lv_iload_n hx hb dX0_turnedSquare_43 rfl (lv_at hl 1 rfl) ?_
        refine lv_imul hx hb dX0_turnedSquare_44 ?_
        refine zrwi (y := nI (4 * (3 - (sq % 4)))) (pk_mul _ _) ?_
        refine lv_iload_n hx hb dX0_turnedSquare_45 rfl (lv_at hl 0 rfl) ?_
        refine lv_iadd hx hb dX0_turnedSquare_46 ?_
        refine zrwi (y := nI ((4 * (3 - (sq % 4))) + (3 - (sq / 4)))) (nI_add _ _) ?_
        exact zreti Z hr hlk () X dX0_turnedSquare_47 rfl (by show _ = nI (tsq sq t); simp only [tsq, h1, h2, h3, decide_true, decide_false, Bool.and_true, Bool.and_false, Bool.true_and, Bool.false_and, not_true_eq_false, not_false_eq_true, Bool.not_true, Bool.not_false, if_true, if_false, and_true, true_and, and_false, false_and, Bool.false_eq_true, Bool.true_eq_false, eq_self])
def P_X0_turned (x : Int64) (t : Nat) : Int64 → Unit → Prop := fun r _ => r = qTurned x t
set_option maxHeartbeats 4000000 in
set_option maxRecDepth 100000 in
theorem c_X0_turned (l : Launch) (g : zG) (x : Int64) (t : Nat) (ht : t < 8) : zM l yX0_turned wsX0_turned 1 60 g [.long x, .int (nI t)] ([]) zE0 (zQl g (P_X0_turned x t) (fun _ : Unit => [])) := by
  refine zstart (cc := cX0_turned) (maxL := 6) (ret := (some .long)) (own := RX0) rfl (by decide) rfl zSt0 (Nat.le_of_ble_eq_true rfl) ?_
  intro p e s m below meth c A Z hr hlk H locs X ls hl
  have hx := Z.1.1
  have hb := Z.1.2.1
  have hl : lv_has ls 6 [(0, .long x), (2, .int (nI t))] := hl
  have X : zh g A ([]) s.heap H locs := X
  refine lv_lconst (v := (0 : Int64)) hx hb dX0_turned_0 (by decide) ?_
  refine lv_lstore_n (lv' := [(3, .long (0 : Int64)), (0, .long x), (2, .int (nI t))]) hx hb dX0_turned_1 rfl hl (by decide) rfl (fun ls hl => ?_)
  refine lv_iconst (v := (0 : Int32)) hx hb dX0_turned_2 (by decide) ?_
  refine lv_istore (lv' := [(5, .int (0 : Int32)), (3, .long (0 : Int64)), (0, .long x), (2, .int (nI t))]) hx hb dX0_turned_3 hl (by decide) rfl (fun ls hl => ?_)
  have cut5 : ∀ (n5 : Nat), ∀ (k : Nat) (acc : Int64), (k ≤ 16) → (acc = qTrn x t k) → (17 - k ≤ n5) → ∀ (H : Heap) (locs : List Loc) (ls : Array Slot), zh g A ([]) s.heap H locs → lv_has ls 6 [(5, .int (nI k)), (3, .long acc), (0, .long x), (2, .int (nI t))] → W p l e { frames := 1, cells := 0, slots := 0, locals := 60 } s m ([.long x, .int (nI t)] : List Value).toArray below meth c H locs 0 0 (MQ below ((zQl g (P_X0_turned x t) (fun _ : Unit => [])) A) ([.long x, .int (nI t)] : List Value).toArray s 0 0 A) (F0 m 5 ls []) := by
    intro n5
    induction n5 with
    | zero =>
      intro k acc hk hacc hm5
      exact absurd hm5 (by omega)
    | succ n5 ih5 =>
      intro k acc hk hacc hm5 H locs ls X hl
      refine lv_iload hx hb dX0_turned_5 (lv_at hl 0 rfl) ?_
      refine lv_bipush (v := (16 : Int32)) hx hb dX0_turned_7 (by decide) ?_
      refine lv_icmp_ge (tgt := 36) hx hb dX0_turned_9 (by decide) (fun c1 => ?_) (fun c1 => ?_)
      · have qc1 := c1
        have c1n : 16 ≤ k := zn_let (by omega) (by omega) c1
        refine lv_lload_n hx hb dX0_turned_36 rfl (lv_at hl 1 rfl) ?_
        exact zretl Z hr hlk () X dX0_turned_37 (by show _ = qTurned x t; rw [hacc, show k = 16 by omega]; rfl)
      · have qc1 := c1
        have c1n : ¬ 16 ≤ k := zn_len (by omega) (by omega) c1
        refine lv_lload_n hx hb dX0_turned_12 rfl (lv_at hl 1 rfl) ?_
        refine lv_lload_n hx hb dX0_turned_13 rfl (lv_at hl 2 rfl) ?_
        refine lv_iload hx hb dX0_turned_14 (lv_at hl 0 rfl) ?_
        refine lv_lushr hx hb dX0_turned_16 rfl ?_
        refine lv_ldc2 (v := (281479271743489 : Int64)) hx hb Z.1.2.2.2.1 (Z.1.2.2.2.2 (.constantLong RX0 151 (281479271743489)) (by decide +kernel)) dX0_turned_17 ?_
        refine lv_land hx hb dX0_turned_20 ?_
        refine lv_iload hx hb dX0_turned_21 (lv_at hl 0 rfl) ?_
        refine lv_iload_n hx hb dX0_turned_23 rfl (lv_at hl 3 rfl) ?_
        refine zcallSi (n := 2) (As := [.int (nI k), .int (nI t)]) (rest := [.long (((x.toUInt64 >>> ((nI k).toInt64.toUInt64 &&& Int64.toUInt64 63)).toInt64) &&& (281479271743489 : Int64)), .long acc]) Z X (c_X0_turnedSquare l g k t (by omega) (by omega)) gX0_turned_X0_turnedSquare rfl (by decide +kernel) ⟨Nat.le_of_ble_eq_true rfl, Nat.le_of_ble_eq_true rfl⟩ rfl rfl hl.1 (Nat.le_of_ble_eq_true rfl) dX0_turned_24 ⟨Nat.zero_le _, Nat.zero_le _⟩ (fun r1 H locs hrr1 X => ?_)
        obtain rfl : r1 = nI (tsq k t) := hrr1
        refine lv_lshl hx hb dX0_turned_27 rfl ?_
        refine lv_lor hx hb dX0_turned_28 ?_
        refine lv_topl (fun x3 ex3 => ?_)
        refine lv_lstore_n (lv' := [(3, .long x3), (5, .int (nI k)), (0, .long x), (2, .int (nI t))]) hx hb dX0_turned_29 rfl hl (by decide) rfl (fun ls hl => ?_)
        refine lv_iinc (v := nI (k + 1)) (lv' := [(5, .int (nI (k + 1))), (3, .long x3), (0, .long x), (2, .int (nI t))]) hx hb dX0_turned_30 hl (k := 1) rfl (zi_inc k) (by decide) rfl (fun ls hl => ?_)
        refine lv_goto (tgt := 5) hx hb dX0_turned_33 (by decide) ?_
        exact ih5 (k + 1) x3 (by first | assumption | omega) (by subst ex3; rw [hacc]; rfl) (by omega) H locs ls X (lv_sub hl [0, 1, 2, 3] rfl)
  exact cut5 17 0 0 (by first | assumption | omega) (rfl) (by omega) H locs ls X (lv_sub hl [0, 1, 2, 3] rfl)
def P_X0_levelled (x : Int64) (sq : Int32) : Int64 → Unit → Prop := fun r _ => r = qLev x sq
set_option maxHeartbeats 4000000 in
set_option maxRecDepth 100000 in
theorem c_X0_levelled (l : Launch) (g : zG) (x : Int64) (sq : Int32)  : zM l yX0_levelled wsX0_levelled 1 60 g [.long x, .int sq] ([]) zE0 (zQl g (P_X0_levelled x sq) (fun _ : Unit => [])) := by
  refine zstart (cc := cX0_levelled) (maxL := 7) (ret := (some .long)) (own := RX0) rfl (by decide) rfl zSt0 (Nat.le_of_ble_eq_true rfl) ?_
  intro p e s m below meth c A Z hr hlk H locs X ls hl
  have hx := Z.1.1
  have hb := Z.1.2.1
  have hl : lv_has ls 7 [(0, .long x), (2, .int sq)] := hl
  have X : zh g A ([]) s.heap H locs := X
  refine lv_iload_n hx hb dX0_levelled_0 rfl (lv_at hl 1 rfl) ?_
  refine lv_iload_n hx hb dX0_levelled_1 rfl (lv_at hl 1 rfl) ?_
  refine lv_ineg hx hb dX0_levelled_2 ?_
  refine lv_iand hx hb dX0_levelled_3 ?_
  refine lv_istore_n (lv' := [(3, .int (sq &&& (-sq))), (0, .long x), (2, .int sq)]) hx hb dX0_levelled_4 rfl hl (by decide) rfl (fun ls hl => ?_)
  refine lv_lload_n hx hb dX0_levelled_5 rfl (lv_at hl 1 rfl) ?_
  refine lv_lstore (lv' := [(4, .long x), (3, .int (sq &&& (-sq))), (0, .long x), (2, .int sq)]) hx hb dX0_levelled_6 hl (by decide) rfl (fun ls hl => ?_)
  refine lv_iconst (v := (0 : Int32)) hx hb dX0_levelled_8 (by decide) ?_
  refine lv_istore (lv' := [(6, .int (0 : Int32)), (4, .long x), (3, .int (sq &&& (-sq))), (0, .long x), (2, .int sq)]) hx hb dX0_levelled_9 hl (by decide) rfl (fun ls hl => ?_)
  have cut11 : ∀ (n11 : Nat), ∀ (k : Nat) (acc : Int64), (k ≤ 4) → (acc = qLvC x sq k) → (5 - k ≤ n11) → ∀ (H : Heap) (locs : List Loc) (ls : Array Slot), zh g A ([]) s.heap H locs → lv_has ls 7 [(6, .int (nI k)), (4, .long acc), (3, .int (sq &&& -sq)), (0, .long x), (2, .int sq)] → W p l e { frames := 1, cells := 0, slots := 0, locals := 60 } s m ([.long x, .int sq] : List Value).toArray below meth c H locs 0 0 (MQ below ((zQl g (P_X0_levelled x sq) (fun _ : Unit => [])) A) ([.long x, .int sq] : List Value).toArray s 0 0 A) (F0 m 11 ls []) := by
    intro n11
    induction n11 with
    | zero =>
      intro k acc hk hacc hm11
      exact absurd hm11 (by omega)
    | succ n11 ih11 =>
      intro k acc hk hacc hm11 H locs ls X hl
      refine lv_iload hx hb dX0_levelled_11 (lv_at hl 0 rfl) ?_
      refine lv_iconst (v := (4 : Int32)) hx hb dX0_levelled_13 (by decide) ?_
      refine lv_icmp_ge (tgt := 47) hx hb dX0_levelled_14 (by decide) (fun c1 => ?_) (fun c1 => ?_)
      · have qc1 := c1
        have c1n : 4 ≤ k := zn_let (by omega) (by omega) c1
        refine lv_lload hx hb dX0_levelled_47 (lv_at hl 1 rfl) ?_
        exact zretl Z hr hlk () X dX0_levelled_49 (by show _ = qLev x sq; rw [hacc, show k = 4 by omega]; rfl)
      · have qc1 := c1
        have c1n : ¬ 4 ≤ k := zn_len (by omega) (by omega) c1
        refine lv_lload_n hx hb dX0_levelled_17 rfl (lv_at hl 3 rfl) ?_
        refine lv_iload hx hb dX0_levelled_18 (lv_at hl 0 rfl) ?_
        refine zcallSi (n := 2) (As := [.long x, .int (nI k)]) (rest := []) Z X (c_X0_withOne l g x (nI k)) gX0_levelled_X0_withOne rfl (by decide +kernel) ⟨Nat.le_of_ble_eq_true rfl, Nat.le_of_ble_eq_true rfl⟩ rfl rfl hl.1 (Nat.le_of_ble_eq_true rfl) dX0_levelled_20 ⟨Nat.zero_le _, Nat.zero_le _⟩ (fun r1 H locs hrr1 X => ?_)
        obtain rfl : r1 = qOne x (nI k) := hrr1
        refine lv_iload_n hx hb dX0_levelled_23 rfl (lv_at hl 2 rfl) ?_
        refine lv_iand hx hb dX0_levelled_24 ?_
        refine lv_if_eq (tgt := 41) hx hb dX0_levelled_25 (by decide) (fun c3 => ?_) (fun c3 => ?_)
        · have qc3 := c3
          refine lv_iinc (v := nI (k + 1)) (lv' := [(6, .int (nI (k + 1))), (4, .long acc), (3, .int (sq &&& -sq)), (0, .long x), (2, .int sq)]) hx hb dX0_levelled_41 hl (k := 0) rfl (zi_inc k) (by decide) rfl (fun ls hl => ?_)
          refine lv_goto (tgt := 11) hx hb dX0_levelled_44 (by decide) ?_
          exact ih11 (k + 1) acc (by first | assumption | omega) (by rw [hacc]; simp only [qLvC, c1n, c3, decide_true, decide_false, Bool.and_true, Bool.and_false, Bool.true_and, Bool.false_and, not_true_eq_false, not_false_eq_true, Bool.not_true, Bool.not_false, if_true, if_false, and_true, true_and, and_false, false_and, Bool.false_eq_true, Bool.true_eq_false, eq_self]) (by omega) H locs ls X (lv_sub hl [0, 1, 2, 3, 4] rfl)
        · have qc3 := c3
          refine lv_lload hx hb dX0_levelled_28 (lv_at hl 1 rfl) ?_
          refine lv_iload_n hx hb dX0_levelled_30 rfl (lv_at hl 4 rfl) ?_
          refine lv_i2l hx hb dX0_levelled_31 rfl ?_
          refine lv_bipush (v := (16 : Int32)) hx hb dX0_levelled_32 (by decide) ?_
          refine lv_iload hx hb dX0_levelled_34 (lv_at hl 0 rfl) ?_
          refine lv_imul hx hb dX0_levelled_36 ?_
          refine lv_lshl hx hb dX0_levelled_37 rfl ?_
          refine lv_lxor hx hb dX0_levelled_38 ?_
          refine lv_topl (fun x4 ex4 => ?_)
          refine lv_lstore (lv' := [(4, .long x4), (6, .int (nI k)), (3, .int (sq &&& -sq)), (0, .long x), (2, .int sq)]) hx hb dX0_levelled_39 hl (by decide) rfl (fun ls hl => ?_)
          refine lv_iinc (v := nI (k + 1)) (lv' := [(6, .int (nI (k + 1))), (4, .long x4), (3, .int (sq &&& -sq)), (0, .long x), (2, .int sq)]) hx hb dX0_levelled_41 hl (k := 1) rfl (zi_inc k) (by decide) rfl (fun ls hl => ?_)
          refine lv_goto (tgt := 11) hx hb dX0_levelled_44 (by decide) ?_
          exact ih11 (k + 1) x4 (by first | assumption | omega) (by subst ex4; rw [hacc]; simp only [qLvC, c1n, c3, decide_true, decide_false, Bool.and_true, Bool.and_false, Bool.true_and, Bool.false_and, not_true_eq_false, not_false_eq_true, Bool.not_true, Bool.not_false, if_true, if_false, and_true, true_and, and_false, false_and, Bool.false_eq_true, Bool.true_eq_false, eq_self]) (by omega) H locs ls X (lv_sub hl [0, 1, 2, 3, 4] rfl)
  exact cut11 5 0 x (by first | assumption | omega) (rfl) (by omega) H locs ls X (lv_sub hl [0, 1, 2, 3, 4] rfl)
def P_X0_equalMarks (x : Int64) (M : Nat) (ones : Int32) : Int32 → Unit → Prop := fun r _ => r = nI (qEqC x ones M)
set_option maxHeartbeats 4000000 in
set_option maxRecDepth 100000 in
theorem c_X0_equalMarks (l : Launch) (g : zG) (x : Int64) (M : Nat) (ones : Int32) (hM : M ≤ 4) : zM l yX0_equalMarks wsX0_equalMarks 1 60 g [.long x, .int (nI M), .int ones] ([]) zE0 (zQi g (P_X0_equalMarks x M ones) (fun _ : Unit => [])) := by
  refine zstart (cc := cX0_equalMarks) (maxL := 6) (ret := (some .int)) (own := RX0) rfl (by decide) rfl zSt0 (Nat.le_of_ble_eq_true rfl) ?_
  intro p e s m below meth c A Z hr hlk H locs X ls hl
  have hx := Z.1.1
  have hb := Z.1.2.1
  have hl : lv_has ls 6 [(0, .long x), (2, .int (nI M)), (3, .int ones)] := hl
  have X : zh g A ([]) s.heap H locs := X
  refine lv_iconst (v := (0 : Int32)) hx hb dX0_equalMarks_0 (by decide) ?_
  refine lv_istore (lv' := [(4, .int (0 : Int32)), (0, .long x), (2, .int (nI M)), (3, .int ones)]) hx hb dX0_equalMarks_1 hl (by decide) rfl (fun ls hl => ?_)
  refine lv_iconst (v := (0 : Int32)) hx hb dX0_equalMarks_3 (by decide) ?_
  refine lv_istore (lv' := [(5, .int (0 : Int32)), (4, .int (0 : Int32)), (0, .long x), (2, .int (nI M)), (3, .int ones)]) hx hb dX0_equalMarks_4 hl (by decide) rfl (fun ls hl => ?_)
  have cut6 : ∀ (n6 : Nat), ∀ (k : Nat) (n : Nat), (k ≤ M) → (n = qEqC x ones k) → (M + 1 - k ≤ n6) → ∀ (H : Heap) (locs : List Loc) (ls : Array Slot), zh g A ([]) s.heap H locs → lv_has ls 6 [(5, .int (nI k)), (4, .int (nI n)), (0, .long x), (2, .int (nI M)), (3, .int ones)] → W p l e { frames := 1, cells := 0, slots := 0, locals := 60 } s m ([.long x, .int (nI M), .int ones] : List Value).toArray below meth c H locs 0 0 (MQ below ((zQi g (P_X0_equalMarks x M ones) (fun _ : Unit => [])) A) ([.long x, .int (nI M), .int ones] : List Value).toArray s 0 0 A) (F0 m 6 ls []) := by
    intro n6
    induction n6 with
    | zero =>
      intro k n hk hn hm6
      exact absurd hm6 (by omega)
    | succ n6 ih6 =>
      intro k n hk hn hm6 H locs ls X hl
      refine lv_iload hx hb dX0_equalMarks_6 (lv_at hl 0 rfl) ?_
      refine lv_iload_n hx hb dX0_equalMarks_8 rfl (lv_at hl 3 rfl) ?_
      refine lv_icmp_ge (tgt := 31) hx hb dX0_equalMarks_9 (by decide) (fun c1 => ?_) (fun c1 => ?_)
      · have qc1 := c1
        have c1n : M ≤ k := zn_let (by omega) (by omega) c1
        refine lv_iload hx hb dX0_equalMarks_31 (lv_at hl 1 rfl) ?_
        exact zreti Z hr hlk () X dX0_equalMarks_33 rfl (by show _ = nI (qEqC x ones M); rw [hn, show k = M by omega])
      · have qc1 := c1
        have c1n : ¬ M ≤ k := zn_len (by omega) (by omega) c1
        refine lv_lload_n hx hb dX0_equalMarks_12 rfl (lv_at hl 2 rfl) ?_
        refine lv_iload hx hb dX0_equalMarks_13 (lv_at hl 0 rfl) ?_
        refine zcallSi (n := 2) (As := [.long x, .int (nI k)]) (rest := []) Z X (c_X0_withOne l g x (nI k)) gX0_equalMarks_X0_withOne rfl (by decide +kernel) ⟨Nat.le_of_ble_eq_true rfl, Nat.le_of_ble_eq_true rfl⟩ rfl rfl hl.1 (Nat.le_of_ble_eq_true rfl) dX0_equalMarks_15 ⟨Nat.zero_le _, Nat.zero_le _⟩ (fun r1 H locs hrr1 X => ?_)
        obtain rfl : r1 = qOne x (nI k) := hrr1
        refine lv_iload_n hx hb dX0_equalMarks_18 rfl (lv_at hl 4 rfl) ?_
        refine lv_icmp_ne (tgt := 25) hx hb dX0_equalMarks_19 (by decide) (fun c3 => ?_) (fun c3 => ?_)
        · have qc3 := c3
          refine lv_iinc (v := nI (k + 1)) (lv' := [(5, .int (nI (k + 1))), (4, .int (nI n)), (0, .long x), (2, .int (nI M)), (3, .int ones)]) hx hb dX0_equalMarks_25 hl (k := 0) rfl (zi_inc k) (by decide) rfl (fun ls hl => ?_)
          refine lv_goto (tgt := 6) hx hb dX0_equalMarks_28 (by decide) ?_
          exact ih6 (k + 1) n (by first | assumption | omega) (by rw [hn]; simp only [qEqC, c1n, c3, decide_true, decide_false, Bool.and_true, Bool.and_false, Bool.true_and, Bool.false_and, not_true_eq_false, not_false_eq_true, Bool.not_true, Bool.not_false, if_true, if_false, and_true, true_and, and_false, false_and, Bool.false_eq_true, Bool.true_eq_false, eq_self]) (by omega) H locs ls X (lv_sub hl [0, 1, 2, 3, 4] rfl)
        · have qc3 := c3
          refine lv_iinc (v := nI (n + 1)) (lv' := [(4, .int (nI (n + 1))), (5, .int (nI k)), (0, .long x), (2, .int (nI M)), (3, .int ones)]) hx hb dX0_equalMarks_22 hl (k := 1) rfl (zi_inc n) (by decide) rfl (fun ls hl => ?_)
          refine lv_iinc (v := nI (k + 1)) (lv' := [(5, .int (nI (k + 1))), (4, .int (nI (n + 1))), (0, .long x), (2, .int (nI M)), (3, .int ones)]) hx hb dX0_equalMarks_25 hl (k := 1) rfl (zi_inc k) (by decide) rfl (fun ls hl => ?_)
          refine lv_goto (tgt := 6) hx hb dX0_equalMarks_28 (by decide) ?_
          exact ih6 (k + 1) (n + 1) (by first | assumption | omega) (by rw [hn]; simp only [qEqC, c1n, c3, decide_true, decide_false, Bool.and_true, Bool.and_false, Bool.true_and, Bool.false_and, not_true_eq_false, not_false_eq_true, Bool.not_true, Bool.not_false, if_true, if_false, and_true, true_and, and_false, false_and, Bool.false_eq_true, Bool.true_eq_false, eq_self]) (by omega) H locs ls X (lv_sub hl [0, 1, 2, 3, 4] rfl)
  exact cut6 (M + 1) 0 0 (by first | assumption | omega) (rfl) (by omega) H locs ls X (lv_sub hl [0, 1, 2, 3, 4] rfl)
theorem inw_X0_waysOfMarks : ∀ w ∈ wsX00, w ∈ wsX0_waysOfMarks := by decide +kernel
theorem lk_X0_waysOfMarks_16 : Cond.fieldLink RX0 16 "Quarterboard" "filled" "I" ∈ wsX0_waysOfMarks := by decide +kernel
theorem lk_X0_waysOfMarks_38 : Cond.fieldLink RX0 38 "Quarterboard" "digits" "J" ∈ wsX0_waysOfMarks := by decide +kernel
def P_X0_waysOfMarks (q0 q1 q2 q3 q4 q5 q6 : Int32) (q7 : Int64) (q8 q9 : Int32) (q10 : Int64) (t : Nat) (of : Int32) (od : Int64) : Int32 → QS → Prop := fun r u => u = (q0, q1, q2, q3, q4, q5, q6, q7, q8, q9, q10) ∧ r = qWays q5 q7 t of od
set_option maxHeartbeats 4000000 in
set_option maxRecDepth 100000 in
theorem c_X0_waysOfMarks (l : Launch) (g : zG) (bL h : Nat) (q0 q1 q2 q3 q4 q5 q6 : Int32) (q7 : Int64) (q8 q9 : Int32) (q10 : Int64) (t : Nat) (of : Int32) (od : Int64) (ht : t < 8) : zM l yX0_waysOfMarks wsX0_waysOfMarks 3 200 g [.ref h, .int (nI t), .int of, .long od] (oQ h (q0, q1, q2, q3, q4, q5, q6, q7, q8, q9, q10)) (zEL bL) (zQi g (P_X0_waysOfMarks q0 q1 q2 q3 q4 q5 q6 q7 q8 q9 q10 t of od) (oQ h)) := by
  refine zstart (cc := cX0_waysOfMarks) (maxL := 12) (ret := (some .int)) (own := RX0) rfl (by decide) rfl zStL (Nat.le_of_ble_eq_true rfl) ?_
  intro p e s m below meth c A Z hr hlk H locs X ls hl
  have hx := Z.1.1
  have hb := Z.1.2.1
  have hin : ∀ w ∈ wsX00, w ∈ wsX0_waysOfMarks := inw_X0_waysOfMarks
  have hl : lv_has ls 12 [(0, .ref h), (1, .int (nI t)), (2, .int of), (3, .long od)] := hl
  have X : zh g A (oQ h (q0, q1, q2, q3, q4, q5, q6, q7, q8, q9, q10)) s.heap H locs := X
  refine lv_aload_n hx hb dX0_waysOfMarks_0 rfl (lv_at hl 0 rfl) ?_
  refine zget (fs := [.int q0, .int q1, .int q2, .int q3, .int q4, .int q5, .int q6, .long q7, .int q8, .int q9, .long q10]) (v := .int q5) Z hin X (ci := 0) (C := RX0) (T := TX0) (N := 11) rfl rfl 5 (by decide) lk_X0_waysOfMarks_16 rfl dX0_waysOfMarks_1 ?_
  refine lv_i2l hx hb dX0_waysOfMarks_4 rfl ?_
  refine lv_iload_n hx hb dX0_waysOfMarks_5 rfl (lv_at hl 1 rfl) ?_
  refine zcallSl (n := 2) (As := [.long q5.toInt64, .int (nI t)]) (rest := []) Z X (c_X0_turned l g q5.toInt64 t (by omega)) gX0_waysOfMarks_X0_turned rfl (by decide +kernel) ⟨Nat.le_of_ble_eq_true rfl, Nat.le_of_ble_eq_true rfl⟩ rfl rfl hl.1 (Nat.le_of_ble_eq_true rfl) dX0_waysOfMarks_6 ⟨Nat.zero_le _, Nat.zero_le _⟩ (fun r0 H locs hrr0 X => ?_)
  obtain rfl : r0 = qTurned q5.toInt64 t := hrr0
  refine lv_l2i hx hb dX0_waysOfMarks_9 rfl ?_
  refine lv_iload_n hx hb dX0_waysOfMarks_10 rfl (lv_at hl 2 rfl) ?_
  refine lv_icmp_eq (tgt := 16) hx hb dX0_waysOfMarks_11 (by decide) (fun c2 => ?_) (fun c2 => ?_)
  · have qc2 := c2
    have h1 : (qTurned q5.toInt64 t).toInt32 = of := c2
    refine lv_iload_n hx hb dX0_waysOfMarks_16 rfl (lv_at hl 2 rfl) ?_
    refine lv_if_ne (tgt := 24) hx hb dX0_waysOfMarks_17 (by decide) (fun c3 => ?_) (fun c3 => ?_)
    · have qc3 := c3
      refine lv_aload_n hx hb dX0_waysOfMarks_24 rfl (lv_at hl 0 rfl) ?_
      refine zget (fs := [.int q0, .int q1, .int q2, .int q3, .int q4, .int q5, .int q6, .long q7, .int q8, .int q9, .long q10]) (v := .long q7) Z hin X (ci := 0) (C := RX0) (T := TX0) (N := 11) rfl rfl 7 (by decide) lk_X0_waysOfMarks_38 rfl dX0_waysOfMarks_25 ?_
      refine lv_iload_n hx hb dX0_waysOfMarks_28 rfl (lv_at hl 1 rfl) ?_
      refine zcallSl (n := 2) (As := [.long q7, .int (nI t)]) (rest := []) Z X (c_X0_turned l g q7 t (by omega)) gX0_waysOfMarks_X0_turned rfl (by decide +kernel) ⟨Nat.le_of_ble_eq_true rfl, Nat.le_of_ble_eq_true rfl⟩ rfl rfl hl.1 (Nat.le_of_ble_eq_true rfl) dX0_waysOfMarks_29 ⟨Nat.zero_le _, Nat.zero_le _⟩ (fun r3 H locs hrr3 X => ?_)
      obtain rfl : r3 = qTurned q7 t := hrr3
      refine lv_iload_n hx hb dX0_waysOfMarks_32 rfl (lv_at hl 2 rfl) ?_
      refine zcallSl (n := 2) (As := [.long (qTurned q7 t), .int of]) (rest := []) Z X (c_X0_levelled l g (qTurned q7 t) of ) gX0_waysOfMarks_X0_levelled rfl (by decide +kernel) ⟨Nat.le_of_ble_eq_true rfl, Nat.le_of_ble_eq_true rfl⟩ rfl rfl hl.1 (Nat.le_of_ble_eq_true rfl) dX0_waysOfMarks_33 ⟨Nat.zero_le _, Nat.zero_le _⟩ (fun r4 H locs hrr4 X => ?_)
      obtain rfl : r4 = qLev (qTurned q7 t) of := hrr4
      refine lv_lstore (lv' := [(5, .long (qLev (qTurned q7 t) of)), (0, .ref h), (1, .int (nI t)), (2, .int of), (3, .long od)]) hx hb dX0_waysOfMarks_36 hl (by decide) rfl (fun ls hl => ?_)
      refine lv_lload_n hx hb dX0_waysOfMarks_38 rfl (lv_at hl 4 rfl) ?_
      refine lv_iload_n hx hb dX0_waysOfMarks_39 rfl (lv_at hl 3 rfl) ?_
      refine zcallSl (n := 2) (As := [.long od, .int of]) (rest := []) Z X (c_X0_levelled l g od of ) gX0_waysOfMarks_X0_levelled rfl (by decide +kernel) ⟨Nat.le_of_ble_eq_true rfl, Nat.le_of_ble_eq_true rfl⟩ rfl rfl hl.1 (Nat.le_of_ble_eq_true rfl) dX0_waysOfMarks_40 ⟨Nat.zero_le _, Nat.zero_le _⟩ (fun r5 H locs hrr5 X => ?_)
      obtain rfl : r5 = qLev od of := hrr5
      refine lv_lstore (lv' := [(7, .long (qLev od of)), (5, .long (qLev (qTurned q7 t) of)), (0, .ref h), (1, .int (nI t)), (2, .int of), (3, .long od)]) hx hb dX0_waysOfMarks_43 hl (by decide) rfl (fun ls hl => ?_)
      refine lv_iconst (v := (1 : Int32)) hx hb dX0_waysOfMarks_45 (by decide) ?_
      refine lv_istore (lv' := [(9, .int (1 : Int32)), (7, .long (qLev od of)), (5, .long (qLev (qTurned q7 t) of)), (0, .ref h), (1, .int (nI t)), (2, .int of), (3, .long od)]) hx hb dX0_waysOfMarks_46 hl (by decide) rfl (fun ls hl => ?_)
      refine lv_iconst (v := (0 : Int32)) hx hb dX0_waysOfMarks_48 (by decide) ?_
      refine lv_istore (lv' := [(10, .int (0 : Int32)), (9, .int (1 : Int32)), (7, .long (qLev od of)), (5, .long (qLev (qTurned q7 t) of)), (0, .ref h), (1, .int (nI t)), (2, .int of), (3, .long od)]) hx hb dX0_waysOfMarks_49 hl (by decide) rfl (fun ls hl => ?_)
      have cut51 : ∀ (n51 : Nat), ∀ (k : Nat) (acc : Int32), (k ≤ 4) → (acc = qWyC (qLev (qTurned q7 t) of) (qLev od of) k) → (5 - k ≤ n51) → ∀ (H : Heap) (locs : List Loc) (ls : Array Slot), zh g A (oQ h (q0, q1, q2, q3, q4, q5, q6, q7, q8, q9, q10)) s.heap H locs → lv_has ls 12 [(10, .int (nI k)), (9, .int acc), (7, .long (qLev od of)), (5, .long (qLev (qTurned q7 t) of)), (0, .ref h), (1, .int (nI t)), (2, .int of), (3, .long od)] → W p l e { frames := 3, cells := 0, slots := 0, locals := 200 } s m ([.ref h, .int (nI t), .int of, .long od] : List Value).toArray below meth c H locs 0 0 (MQ below ((zQi g (P_X0_waysOfMarks q0 q1 q2 q3 q4 q5 q6 q7 q8 q9 q10 t of od) (oQ h)) A) ([.ref h, .int (nI t), .int of, .long od] : List Value).toArray s 0 0 A) (F0 m 51 ls []) := by
        intro n51
        induction n51 with
        | zero =>
          intro k acc hk hacc hm51
          exact absurd hm51 (by omega)
        | succ n51 ih51 =>
          intro k acc hk hacc hm51 H locs ls X hl
          refine lv_iload hx hb dX0_waysOfMarks_51 (lv_at hl 0 rfl) ?_
          refine lv_iconst (v := (4 : Int32)) hx hb dX0_waysOfMarks_53 (by decide) ?_
          refine lv_icmp_ge (tgt := 95) hx hb dX0_waysOfMarks_54 (by decide) (fun c7 => ?_) (fun c7 => ?_)
          · have qc7 := c7
            have c7n : 4 ≤ k := zn_let (by omega) (by omega) c7
            refine lv_iload hx hb dX0_waysOfMarks_95 (lv_at hl 1 rfl) ?_
            exact zreti Z hr hlk (q0, q1, q2, q3, q4, q5, q6, q7, q8, q9, q10) X dX0_waysOfMarks_97 rfl (⟨rfl, by simp only [qWays, h1, c3, c7n, decide_true, decide_false, Bool.and_true, Bool.and_false, Bool.true_and, Bool.false_and, not_true_eq_false, not_false_eq_true, Bool.not_true, Bool.not_false, if_true, if_false, and_true, true_and, and_false, false_and, Bool.false_eq_true, Bool.true_eq_false, eq_self]; rw [hacc, show k = 4 by omega]⟩)
          · have qc7 := c7
            have c7n : ¬ 4 ≤ k := zn_len (by omega) (by omega) c7
            refine lv_lload hx hb dX0_waysOfMarks_57 (lv_at hl 3 rfl) ?_
            refine lv_iload hx hb dX0_waysOfMarks_59 (lv_at hl 0 rfl) ?_
            refine zcallSi (n := 2) (As := [.long (qLev (qTurned q7 t) of), .int (nI k)]) (rest := []) Z X (c_X0_withOne l g (qLev (qTurned q7 t) of) (nI k)) gX0_waysOfMarks_X0_withOne rfl (by decide +kernel) ⟨Nat.le_of_ble_eq_true rfl, Nat.le_of_ble_eq_true rfl⟩ rfl rfl hl.1 (Nat.le_of_ble_eq_true rfl) dX0_waysOfMarks_61 ⟨Nat.zero_le _, Nat.zero_le _⟩ (fun r7 H locs hrr7 X => ?_)
            obtain rfl : r7 = qOne (qLev (qTurned q7 t) of) (nI k) := hrr7
            refine lv_istore (lv' := [(11, .int (qOne (qLev (qTurned q7 t) of) (nI k))), (10, .int (nI k)), (9, .int acc), (7, .long (qLev od of)), (5, .long (qLev (qTurned q7 t) of)), (0, .ref h), (1, .int (nI t)), (2, .int of), (3, .long od)]) hx hb dX0_waysOfMarks_64 hl (by decide) rfl (fun ls hl => ?_)
            refine lv_iload hx hb dX0_waysOfMarks_66 (lv_at hl 2 rfl) ?_
            refine lv_lload hx hb dX0_waysOfMarks_68 (lv_at hl 3 rfl) ?_
            refine lv_iconst (v := nI 4) hx hb dX0_waysOfMarks_70 (by decide) ?_
            refine lv_iload hx hb dX0_waysOfMarks_71 (lv_at hl 0 rfl) ?_
            refine zcallSi (n := 3) (As := [.long (qLev od of), .int (nI 4), .int (qOne (qLev (qTurned q7 t) of) (nI k))]) (rest := [.int acc]) Z X (c_X0_equalMarks l g (qLev od of) 4 (qOne (qLev (qTurned q7 t) of) (nI k)) (by omega)) gX0_waysOfMarks_X0_equalMarks rfl (by decide +kernel) ⟨Nat.le_of_ble_eq_true rfl, Nat.le_of_ble_eq_true rfl⟩ rfl rfl hl.1 (Nat.le_of_ble_eq_true rfl) dX0_waysOfMarks_73 ⟨Nat.zero_le _, Nat.zero_le _⟩ (fun r8 H locs hrr8 X => ?_)
            obtain rfl : r8 = nI (qEqC (qLev od of) (qOne (qLev (qTurned q7 t) of) (nI k)) 4) := hrr8
            refine lv_lload hx hb dX0_waysOfMarks_76 (lv_at hl 4 rfl) ?_
            refine lv_iload hx hb dX0_waysOfMarks_78 (lv_at hl 1 rfl) ?_
            refine lv_iload hx hb dX0_waysOfMarks_80 (lv_at hl 0 rfl) ?_
            refine zcallSi (n := 3) (As := [.long (qLev (qTurned q7 t) of), .int (nI k), .int (qOne (qLev (qTurned q7 t) of) (nI k))]) (rest := [.int (nI (qEqC (qLev od of) (qOne (qLev (qTurned q7 t) of) (nI k)) 4)), .int acc]) Z X (c_X0_equalMarks l g (qLev (qTurned q7 t) of) k (qOne (qLev (qTurned q7 t) of) (nI k)) (by omega)) gX0_waysOfMarks_X0_equalMarks rfl (by decide +kernel) ⟨Nat.le_of_ble_eq_true rfl, Nat.le_of_ble_eq_true rfl⟩ rfl rfl hl.1 (Nat.le_of_ble_eq_true rfl) dX0_waysOfMarks_82 ⟨Nat.zero_le _, Nat.zero_le _⟩ (fun r9 H locs hrr9 X => ?_)
            obtain rfl : r9 = nI (qEqC (qLev (qTurned q7 t) of) (qOne (qLev (qTurned q7 t) of) (nI k)) k) := hrr9
            refine lv_isub hx hb dX0_waysOfMarks_85 ?_
            refine lv_imul hx hb dX0_waysOfMarks_86 ?_
            refine lv_topi (fun x11 ex11 => ?_)
            refine lv_istore (lv' := [(9, .int x11), (11, .int (qOne (qLev (qTurned q7 t) of) (nI k))), (10, .int (nI k)), (7, .long (qLev od of)), (5, .long (qLev (qTurned q7 t) of)), (0, .ref h), (1, .int (nI t)), (2, .int of), (3, .long od)]) hx hb dX0_waysOfMarks_87 hl (by decide) rfl (fun ls hl => ?_)
            refine lv_iinc (v := nI (k + 1)) (lv' := [(10, .int (nI (k + 1))), (9, .int x11), (11, .int (qOne (qLev (qTurned q7 t) of) (nI k))), (7, .long (qLev od of)), (5, .long (qLev (qTurned q7 t) of)), (0, .ref h), (1, .int (nI t)), (2, .int of), (3, .long od)]) hx hb dX0_waysOfMarks_89 hl (k := 2) rfl (zi_inc k) (by decide) rfl (fun ls hl => ?_)
            refine lv_goto (tgt := 51) hx hb dX0_waysOfMarks_92 (by decide) ?_
            exact ih51 (k + 1) x11 (by first | assumption | omega) (by subst ex11; rw [hacc]; rfl) (by omega) H locs ls X (lv_sub hl [0, 1, 3, 4, 5, 6, 7, 8] rfl)
      exact cut51 5 0 1 (by first | assumption | omega) (rfl) (by omega) H locs ls X (lv_sub hl [0, 1, 2, 3, 4, 5, 6, 7] rfl)
    · have qc3 := c3
      refine lv_sipush (v := (384 : Int32)) hx hb dX0_waysOfMarks_20 (by decide) ?_
      exact zreti Z hr hlk (q0, q1, q2, q3, q4, q5, q6, q7, q8, q9, q10) X dX0_waysOfMarks_23 rfl (⟨rfl, by simp only [qWays, h1, c3, decide_true, decide_false, Bool.and_true, Bool.and_false, Bool.true_and, Bool.false_and, not_true_eq_false, not_false_eq_true, Bool.not_true, Bool.not_false, if_true, if_false, and_true, true_and, and_false, false_and, Bool.false_eq_true, Bool.true_eq_false, eq_self]⟩)
  · have qc2 := c2
    have h1 : ¬ (qTurned q5.toInt64 t).toInt32 = of := c2
    refine lv_iconst (v := (0 : Int32)) hx hb dX0_waysOfMarks_14 (by decide) ?_
    exact zreti Z hr hlk (q0, q1, q2, q3, q4, q5, q6, q7, q8, q9, q10) X dX0_waysOfMarks_15 rfl (⟨rfl, by simp only [qWays, h1, decide_true, decide_false, Bool.and_true, Bool.and_false, Bool.true_and, Bool.false_and, not_true_eq_false, not_false_eq_true, Bool.not_true, Bool.not_false, if_true, if_false, and_true, true_and, and_false, false_and, Bool.false_eq_true, Bool.true_eq_false, eq_self]⟩)
end
section
/-! the class: what is asked and what is kept -/
def qSym (f : Int32) (d : Int64) (of : Int32) (od : Int64) : Nat → Int32
  | 0 => 0
  | k + 1 => qSym f d of od k + qWays f d k of od
theorem inw_X0_phase : ∀ w ∈ wsX00, w ∈ wsX0_phase := by decide +kernel
theorem lk_X0_phase_29 : Cond.fieldLink RX0 29 "Quarterboard" "stage" "I" ∈ wsX0_phase := by decide +kernel
def P_X0_phase (q0 q1 q2 q3 q4 q5 q6 : Int32) (q7 : Int64) (q8 q9 : Int32) (q10 : Int64) : Int32 → QS → Prop := fun r u => u = (q0, q1, q2, q3, q4, q5, q6, q7, q8, q9, q10) ∧ r = q1
set_option maxHeartbeats 4000000 in
set_option maxRecDepth 100000 in
theorem c_X0_phase (l : Launch) (g : zG) (bL h : Nat) (q0 q1 q2 q3 q4 q5 q6 : Int32) (q7 : Int64) (q8 q9 : Int32) (q10 : Int64)   : zM l yX0_phase wsX0_phase 0 0 g [.ref h] (oQ h (q0, q1, q2, q3, q4, q5, q6, q7, q8, q9, q10)) (zEL bL) (zQi g (P_X0_phase q0 q1 q2 q3 q4 q5 q6 q7 q8 q9 q10) (oQ h)) := by
  refine zstart (cc := cX0_phase) (maxL := 1) (ret := (some .int)) (own := RX0) rfl (by decide) rfl zStL (Nat.le_of_ble_eq_true rfl) ?_
  intro p e s m below meth c A Z hr hlk H locs X ls hl
  have hx := Z.1.1
  have hb := Z.1.2.1
  have hin : ∀ w ∈ wsX00, w ∈ wsX0_phase := inw_X0_phase
  have hl : lv_has ls 1 [(0, .ref h)] := hl
  have X : zh g A (oQ h (q0, q1, q2, q3, q4, q5, q6, q7, q8, q9, q10)) s.heap H locs := X
  refine lv_aload_n hx hb dX0_phase_0 rfl (lv_at hl 0 rfl) ?_
  refine zget (fs := [.int q0, .int q1, .int q2, .int q3, .int q4, .int q5, .int q6, .long q7, .int q8, .int q9, .long q10]) (v := .int q1) Z hin X (ci := 0) (C := RX0) (T := TX0) (N := 11) rfl rfl 1 (by decide) lk_X0_phase_29 rfl dX0_phase_1 ?_
  exact zreti Z hr hlk (q0, q1, q2, q3, q4, q5, q6, q7, q8, q9, q10) X dX0_phase_4 rfl (⟨rfl, rfl⟩)
theorem inw_X0_onTurn : ∀ w ∈ wsX00, w ∈ wsX0_onTurn := by decide +kernel
theorem lk_X0_onTurn_32 : Cond.fieldLink RX0 32 "Quarterboard" "player" "I" ∈ wsX0_onTurn := by decide +kernel
def P_X0_onTurn (q0 q1 q2 q3 q4 q5 q6 : Int32) (q7 : Int64) (q8 q9 : Int32) (q10 : Int64) : Int32 → QS → Prop := fun r u => u = (q0, q1, q2, q3, q4, q5, q6, q7, q8, q9, q10) ∧ r = q2
set_option maxHeartbeats 4000000 in
set_option maxRecDepth 100000 in
theorem c_X0_onTurn (l : Launch) (g : zG) (bL h : Nat) (q0 q1 q2 q3 q4 q5 q6 : Int32) (q7 : Int64) (q8 q9 : Int32) (q10 : Int64)   : zM l yX0_onTurn wsX0_onTurn 0 0 g [.ref h] (oQ h (q0, q1, q2, q3, q4, q5, q6, q7, q8, q9, q10)) (zEL bL) (zQi g (P_X0_onTurn q0 q1 q2 q3 q4 q5 q6 q7 q8 q9 q10) (oQ h)) := by
  refine zstart (cc := cX0_onTurn) (maxL := 1) (ret := (some .int)) (own := RX0) rfl (by decide) rfl zStL (Nat.le_of_ble_eq_true rfl) ?_
  intro p e s m below meth c A Z hr hlk H locs X ls hl
  have hx := Z.1.1
  have hb := Z.1.2.1
  have hin : ∀ w ∈ wsX00, w ∈ wsX0_onTurn := inw_X0_onTurn
  have hl : lv_has ls 1 [(0, .ref h)] := hl
  have X : zh g A (oQ h (q0, q1, q2, q3, q4, q5, q6, q7, q8, q9, q10)) s.heap H locs := X
  refine lv_aload_n hx hb dX0_onTurn_0 rfl (lv_at hl 0 rfl) ?_
  refine zget (fs := [.int q0, .int q1, .int q2, .int q3, .int q4, .int q5, .int q6, .long q7, .int q8, .int q9, .long q10]) (v := .int q2) Z hin X (ci := 0) (C := RX0) (T := TX0) (N := 11) rfl rfl 2 (by decide) lk_X0_onTurn_32 rfl dX0_onTurn_1 ?_
  exact zreti Z hr hlk (q0, q1, q2, q3, q4, q5, q6, q7, q8, q9, q10) X dX0_onTurn_4 rfl (⟨rfl, rfl⟩)
theorem inw_X0_hand : ∀ w ∈ wsX00, w ∈ wsX0_hand := by decide +kernel
theorem lk_X0_hand_9 : Cond.fieldLink RX0 9 "Quarterboard" "held" "I" ∈ wsX0_hand := by decide +kernel
def P_X0_hand (q0 q1 q2 q3 q4 q5 q6 : Int32) (q7 : Int64) (q8 q9 : Int32) (q10 : Int64) : Int32 → QS → Prop := fun r u => u = (q0, q1, q2, q3, q4, q5, q6, q7, q8, q9, q10) ∧ r = q3
set_option maxHeartbeats 4000000 in
set_option maxRecDepth 100000 in
theorem c_X0_hand (l : Launch) (g : zG) (bL h : Nat) (q0 q1 q2 q3 q4 q5 q6 : Int32) (q7 : Int64) (q8 q9 : Int32) (q10 : Int64)   : zM l yX0_hand wsX0_hand 0 0 g [.ref h] (oQ h (q0, q1, q2, q3, q4, q5, q6, q7, q8, q9, q10)) (zEL bL) (zQi g (P_X0_hand q0 q1 q2 q3 q4 q5 q6 q7 q8 q9 q10) (oQ h)) := by
  refine zstart (cc := cX0_hand) (maxL := 1) (ret := (some .int)) (own := RX0) rfl (by decide) rfl zStL (Nat.le_of_ble_eq_true rfl) ?_
  intro p e s m below meth c A Z hr hlk H locs X ls hl
  have hx := Z.1.1
  have hb := Z.1.2.1
  have hin : ∀ w ∈ wsX00, w ∈ wsX0_hand := inw_X0_hand
  have hl : lv_has ls 1 [(0, .ref h)] := hl
  have X : zh g A (oQ h (q0, q1, q2, q3, q4, q5, q6, q7, q8, q9, q10)) s.heap H locs := X
  refine lv_aload_n hx hb dX0_hand_0 rfl (lv_at hl 0 rfl) ?_
  refine zget (fs := [.int q0, .int q1, .int q2, .int q3, .int q4, .int q5, .int q6, .long q7, .int q8, .int q9, .long q10]) (v := .int q3) Z hin X (ci := 0) (C := RX0) (T := TX0) (N := 11) rfl rfl 3 (by decide) lk_X0_hand_9 rfl dX0_hand_1 ?_
  exact zreti Z hr hlk (q0, q1, q2, q3, q4, q5, q6, q7, q8, q9, q10) X dX0_hand_4 rfl (⟨rfl, rfl⟩)
theorem inw_X0_winner : ∀ w ∈ wsX00, w ∈ wsX0_winner := by decide +kernel
theorem lk_X0_winner_13 : Cond.fieldLink RX0 13 "Quarterboard" "victor" "I" ∈ wsX0_winner := by decide +kernel
def P_X0_winner (q0 q1 q2 q3 q4 q5 q6 : Int32) (q7 : Int64) (q8 q9 : Int32) (q10 : Int64) : Int32 → QS → Prop := fun r u => u = (q0, q1, q2, q3, q4, q5, q6, q7, q8, q9, q10) ∧ r = q4
set_option maxHeartbeats 4000000 in
set_option maxRecDepth 100000 in
theorem c_X0_winner (l : Launch) (g : zG) (bL h : Nat) (q0 q1 q2 q3 q4 q5 q6 : Int32) (q7 : Int64) (q8 q9 : Int32) (q10 : Int64)   : zM l yX0_winner wsX0_winner 0 0 g [.ref h] (oQ h (q0, q1, q2, q3, q4, q5, q6, q7, q8, q9, q10)) (zEL bL) (zQi g (P_X0_winner q0 q1 q2 q3 q4 q5 q6 q7 q8 q9 q10) (oQ h)) := by
  refine zstart (cc := cX0_winner) (maxL := 1) (ret := (some .int)) (own := RX0) rfl (by decide) rfl zStL (Nat.le_of_ble_eq_true rfl) ?_
  intro p e s m below meth c A Z hr hlk H locs X ls hl
  have hx := Z.1.1
  have hb := Z.1.2.1
  have hin : ∀ w ∈ wsX00, w ∈ wsX0_winner := inw_X0_winner
  have hl : lv_has ls 1 [(0, .ref h)] := hl
  have X : zh g A (oQ h (q0, q1, q2, q3, q4, q5, q6, q7, q8, q9, q10)) s.heap H locs := X
  refine lv_aload_n hx hb dX0_winner_0 rfl (lv_at hl 0 rfl) ?_
  refine zget (fs := [.int q0, .int q1, .int q2, .int q3, .int q4, .int q5, .int q6, .long q7, .int q8, .int q9, .long q10]) (v := .int q4) Z hin X (ci := 0) (C := RX0) (T := TX0) (N := 11) rfl rfl 4 (by decide) lk_X0_winner_13 rfl dX0_winner_1 ?_
  exact zreti Z hr hlk (q0, q1, q2, q3, q4, q5, q6, q7, q8, q9, q10) X dX0_winner_4 rfl (⟨rfl, rfl⟩)
theorem inw_X0_placed : ∀ w ∈ wsX00, w ∈ wsX0_placed := by decide +kernel
theorem lk_X0_placed_16 : Cond.fieldLink RX0 16 "Quarterboard" "filled" "I" ∈ wsX0_placed := by decide +kernel
def P_X0_placed (q0 q1 q2 q3 q4 q5 q6 : Int32) (q7 : Int64) (q8 q9 : Int32) (q10 : Int64) : Int32 → QS → Prop := fun r u => u = (q0, q1, q2, q3, q4, q5, q6, q7, q8, q9, q10) ∧ r = qBc q5
set_option maxHeartbeats 4000000 in
set_option maxRecDepth 100000 in
theorem c_X0_placed (l : Launch) (g : zG) (bL h : Nat) (q0 q1 q2 q3 q4 q5 q6 : Int32) (q7 : Int64) (q8 q9 : Int32) (q10 : Int64)   : zM l yX0_placed wsX0_placed 1 40 g [.ref h] (oQ h (q0, q1, q2, q3, q4, q5, q6, q7, q8, q9, q10)) (zEL bL) (zQi g (P_X0_placed q0 q1 q2 q3 q4 q5 q6 q7 q8 q9 q10) (oQ h)) := by
  refine zstart (cc := cX0_placed) (maxL := 1) (ret := (some .int)) (own := RX0) rfl (by decide) rfl zStL (Nat.le_of_ble_eq_true rfl) ?_
  intro p e s m below meth c A Z hr hlk H locs X ls hl
  have hx := Z.1.1
  have hb := Z.1.2.1
  have hin : ∀ w ∈ wsX00, w ∈ wsX0_placed := inw_X0_placed
  have hl : lv_has ls 1 [(0, .ref h)] := hl
  have X : zh g A (oQ h (q0, q1, q2, q3, q4, q5, q6, q7, q8, q9, q10)) s.heap H locs := X
  refine lv_aload_n hx hb dX0_placed_0 rfl (lv_at hl 0 rfl) ?_
  refine zget (fs := [.int q0, .int q1, .int q2, .int q3, .int q4, .int q5, .int q6, .long q7, .int q8, .int q9, .long q10]) (v := .int q5) Z hin X (ci := 0) (C := RX0) (T := TX0) (N := 11) rfl rfl 5 (by decide) lk_X0_placed_16 rfl dX0_placed_1 ?_
  refine zcallSi (n := 1) (As := [.int q5]) (rest := []) Z X (c_J6_bitCount_0f7a4 l g q5) gX0_placed_J6_bitCount_0f7a4 rfl (by decide +kernel) ⟨Nat.le_of_ble_eq_true rfl, Nat.le_of_ble_eq_true rfl⟩ rfl rfl hl.1 (Nat.le_of_ble_eq_true rfl) dX0_placed_4 ⟨Nat.zero_le _, Nat.zero_le _⟩ (fun r0 H locs hrr0 X => ?_)
  obtain rfl : r0 = qBc q5 := hrr0
  exact zreti Z hr hlk (q0, q1, q2, q3, q4, q5, q6, q7, q8, q9, q10) X dX0_placed_7 rfl (⟨rfl, rfl⟩)
theorem inw_X0_keep : ∀ w ∈ wsX00, w ∈ wsX0_keep := by decide +kernel
theorem lk_X0_keep_126 : Cond.fieldLink RX0 126 "Quarterboard" "hasKept" "Z" ∈ wsX0_keep := by decide +kernel
theorem lk_X0_keep_16 : Cond.fieldLink RX0 16 "Quarterboard" "filled" "I" ∈ wsX0_keep := by decide +kernel
theorem lk_X0_keep_129 : Cond.fieldLink RX0 129 "Quarterboard" "keptFilled" "I" ∈ wsX0_keep := by decide +kernel
theorem lk_X0_keep_38 : Cond.fieldLink RX0 38 "Quarterboard" "digits" "J" ∈ wsX0_keep := by decide +kernel
theorem lk_X0_keep_132 : Cond.fieldLink RX0 132 "Quarterboard" "keptDigits" "J" ∈ wsX0_keep := by decide +kernel
def P_X0_keep (q0 q1 q2 q3 q4 q5 q6 : Int32) (q7 : Int64) (q8 q9 : Int32) (q10 : Int64) : Int32 → QS → Prop := fun r u => u = (q0, q1, q2, q3, q4, q5, q6, q7, 1, q5, q7) ∧ r = qBc q5
set_option maxHeartbeats 4000000 in
set_option maxRecDepth 100000 in
theorem c_X0_keep (l : Launch) (g : zG) (bL h : Nat) (q0 q1 q2 q3 q4 q5 q6 : Int32) (q7 : Int64) (q8 q9 : Int32) (q10 : Int64)   : zM l yX0_keep wsX0_keep 1 40 g [.ref h] (oQ h (q0, q1, q2, q3, q4, q5, q6, q7, q8, q9, q10)) (zEL bL) (zQi g (P_X0_keep q0 q1 q2 q3 q4 q5 q6 q7 q8 q9 q10) (oQ h)) := by
  refine zstart (cc := cX0_keep) (maxL := 1) (ret := (some .int)) (own := RX0) rfl (by decide) rfl zStL (Nat.le_of_ble_eq_true rfl) ?_
  intro p e s m below meth c A Z hr hlk H locs X ls hl
  have hx := Z.1.1
  have hb := Z.1.2.1
  have hin : ∀ w ∈ wsX00, w ∈ wsX0_keep := inw_X0_keep
  have hl : lv_has ls 1 [(0, .ref h)] := hl
  have X : zh g A (oQ h (q0, q1, q2, q3, q4, q5, q6, q7, q8, q9, q10)) s.heap H locs := X
  refine lv_aload_n hx hb dX0_keep_0 rfl (lv_at hl 0 rfl) ?_
  refine lv_iconst (v := (1 : Int32)) hx hb dX0_keep_1 (by decide) ?_
  refine zput (ty := .boolean) (fs := [.int q0, .int q1, .int q2, .int q3, .int q4, .int q5, .int q6, .long q7, .int q8, .int q9, .long q10]) (v := .int (1 : Int32)) tyX0 tyX0_ok nmX0 Z hin X (ci := 0) (C := RX0) (T := TX0) (N := 11) rfl rfl 8 (by decide) lk_X0_keep_126 rfl (by decide +kernel) rfl rfl (Nat.le_of_ble_eq_true rfl) dX0_keep_2 (fun H locs X => ?_)
  have X : zh g A (oQ h (q0, q1, q2, q3, q4, q5, q6, q7, (1 : Int32), q9, q10)) s.heap H locs := X
  refine lv_aload_n hx hb dX0_keep_5 rfl (lv_at hl 0 rfl) ?_
  refine lv_aload_n hx hb dX0_keep_6 rfl (lv_at hl 0 rfl) ?_
  refine zget (fs := [.int q0, .int q1, .int q2, .int q3, .int q4, .int q5, .int q6, .long q7, .int (1 : Int32), .int q9, .long q10]) (v := .int q5) Z hin X (ci := 0) (C := RX0) (T := TX0) (N := 11) rfl rfl 5 (by decide) lk_X0_keep_16 rfl dX0_keep_7 ?_
  refine zput (ty := .int) (fs := [.int q0, .int q1, .int q2, .int q3, .int q4, .int q5, .int q6, .long q7, .int (1 : Int32), .int q9, .long q10]) (v := .int q5) tyX0 tyX0_ok nmX0 Z hin X (ci := 0) (C := RX0) (T := TX0) (N := 11) rfl rfl 9 (by decide) lk_X0_keep_129 rfl (by decide +kernel) rfl rfl (Nat.le_of_ble_eq_true rfl) dX0_keep_10 (fun H locs X => ?_)
  have X : zh g A (oQ h (q0, q1, q2, q3, q4, q5, q6, q7, (1 : Int32), q5, q10)) s.heap H locs := X
  refine lv_aload_n hx hb dX0_keep_13 rfl (lv_at hl 0 rfl) ?_
  refine lv_aload_n hx hb dX0_keep_14 rfl (lv_at hl 0 rfl) ?_
  refine zget (fs := [.int q0, .int q1, .int q2, .int q3, .int q4, .int q5, .int q6, .long q7, .int (1 : Int32), .int q5, .long q10]) (v := .long q7) Z hin X (ci := 0) (C := RX0) (T := TX0) (N := 11) rfl rfl 7 (by decide) lk_X0_keep_38 rfl dX0_keep_15 ?_
  refine zput (ty := .long) (fs := [.int q0, .int q1, .int q2, .int q3, .int q4, .int q5, .int q6, .long q7, .int (1 : Int32), .int q5, .long q10]) (v := .long q7) tyX0 tyX0_ok nmX0 Z hin X (ci := 0) (C := RX0) (T := TX0) (N := 11) rfl rfl 10 (by decide) lk_X0_keep_132 rfl (by decide +kernel) rfl rfl (Nat.le_of_ble_eq_true rfl) dX0_keep_18 (fun H locs X => ?_)
  have X : zh g A (oQ h (q0, q1, q2, q3, q4, q5, q6, q7, (1 : Int32), q5, q7)) s.heap H locs := X
  refine lv_aload_n hx hb dX0_keep_21 rfl (lv_at hl 0 rfl) ?_
  refine zget (fs := [.int q0, .int q1, .int q2, .int q3, .int q4, .int q5, .int q6, .long q7, .int (1 : Int32), .int q5, .long q7]) (v := .int q5) Z hin X (ci := 0) (C := RX0) (T := TX0) (N := 11) rfl rfl 5 (by decide) lk_X0_keep_16 rfl dX0_keep_22 ?_
  refine zcallSi (n := 1) (As := [.int q5]) (rest := []) Z X (c_J6_bitCount_0f7a4 l g q5) gX0_keep_J6_bitCount_0f7a4 rfl (by decide +kernel) ⟨Nat.le_of_ble_eq_true rfl, Nat.le_of_ble_eq_true rfl⟩ rfl rfl hl.1 (Nat.le_of_ble_eq_true rfl) dX0_keep_25 ⟨Nat.zero_le _, Nat.zero_le _⟩ (fun r0 H locs hrr0 X => ?_)
  obtain rfl : r0 = qBc q5 := hrr0
  exact zreti Z hr hlk (q0, q1, q2, q3, q4, q5, q6, q7, (1 : Int32), q5, q7) X dX0_keep_28 rfl (⟨rfl, rfl⟩)
theorem inw_X0_begin : ∀ w ∈ wsX00, w ∈ wsX0_begin := by decide +kernel
theorem lk_X0_begin_16 : Cond.fieldLink RX0 16 "Quarterboard" "filled" "I" ∈ wsX0_begin := by decide +kernel
theorem lk_X0_begin_25 : Cond.fieldLink RX0 25 "Quarterboard" "withBlocks" "Z" ∈ wsX0_begin := by decide +kernel
theorem lk_X0_begin_29 : Cond.fieldLink RX0 29 "Quarterboard" "stage" "I" ∈ wsX0_begin := by decide +kernel
theorem lk_X0_begin_32 : Cond.fieldLink RX0 32 "Quarterboard" "player" "I" ∈ wsX0_begin := by decide +kernel
theorem lk_X0_begin_9 : Cond.fieldLink RX0 9 "Quarterboard" "held" "I" ∈ wsX0_begin := by decide +kernel
theorem lk_X0_begin_13 : Cond.fieldLink RX0 13 "Quarterboard" "victor" "I" ∈ wsX0_begin := by decide +kernel
theorem lk_X0_begin_35 : Cond.fieldLink RX0 35 "Quarterboard" "used" "I" ∈ wsX0_begin := by decide +kernel
theorem lk_X0_begin_38 : Cond.fieldLink RX0 38 "Quarterboard" "digits" "J" ∈ wsX0_begin := by decide +kernel
def P_X0_begin (q0 q1 q2 q3 q4 q5 q6 : Int32) (q7 : Int64) (q8 q9 : Int32) (q10 : Int64) (bb : Bool) : Int32 → QS → Prop := fun r u => u = (zb bb, 0, 0, -1, -1, 0, 0, 0, q8, q9, q10) ∧ r = qBc q5
set_option maxHeartbeats 4000000 in
set_option maxRecDepth 100000 in
theorem c_X0_begin (l : Launch) (g : zG) (bL h : Nat) (q0 q1 q2 q3 q4 q5 q6 : Int32) (q7 : Int64) (q8 q9 : Int32) (q10 : Int64)  (bb : Bool) : zM l yX0_begin wsX0_begin 1 40 g [.ref h, .int (zb bb)] (oQ h (q0, q1, q2, q3, q4, q5, q6, q7, q8, q9, q10)) (zEL bL) (zQi g (P_X0_begin q0 q1 q2 q3 q4 q5 q6 q7 q8 q9 q10 bb) (oQ h)) := by
  refine zstart (cc := cX0_begin) (maxL := 3) (ret := (some .int)) (own := RX0) rfl (by decide) rfl zStL (Nat.le_of_ble_eq_true rfl) ?_
  intro p e s m below meth c A Z hr hlk H locs X ls hl
  have hx := Z.1.1
  have hb := Z.1.2.1
  have hin : ∀ w ∈ wsX00, w ∈ wsX0_begin := inw_X0_begin
  have hl : lv_has ls 3 [(0, .ref h), (1, .int (zb bb))] := hl
  have X : zh g A (oQ h (q0, q1, q2, q3, q4, q5, q6, q7, q8, q9, q10)) s.heap H locs := X
  refine lv_aload_n hx hb dX0_begin_0 rfl (lv_at hl 0 rfl) ?_
  refine zget (fs := [.int q0, .int q1, .int q2, .int q3, .int q4, .int q5, .int q6, .long q7, .int q8, .int q9, .long q10]) (v := .int q5) Z hin X (ci := 0) (C := RX0) (T := TX0) (N := 11) rfl rfl 5 (by decide) lk_X0_begin_16 rfl dX0_begin_1 ?_
  refine zcallSi (n := 1) (As := [.int q5]) (rest := []) Z X (c_J6_bitCount_0f7a4 l g q5) gX0_begin_J6_bitCount_0f7a4 rfl (by decide +kernel) ⟨Nat.le_of_ble_eq_true rfl, Nat.le_of_ble_eq_true rfl⟩ rfl rfl hl.1 (Nat.le_of_ble_eq_true rfl) dX0_begin_4 ⟨Nat.zero_le _, Nat.zero_le _⟩ (fun r0 H locs hrr0 X => ?_)
  obtain rfl : r0 = qBc q5 := hrr0
  refine lv_topi (fun x2 ex2 => ?_)
  refine lv_istore_n (lv' := [(2, .int x2), (0, .ref h), (1, .int (zb bb))]) hx hb dX0_begin_7 rfl hl (by decide) rfl (fun ls hl => ?_)
  refine lv_aload_n hx hb dX0_begin_8 rfl (lv_at hl 1 rfl) ?_
  refine lv_iload_n hx hb dX0_begin_9 rfl (lv_at hl 2 rfl) ?_
  refine zput (ty := .boolean) (fs := [.int q0, .int q1, .int q2, .int q3, .int q4, .int q5, .int q6, .long q7, .int q8, .int q9, .long q10]) (v := .int (zb bb)) tyX0 tyX0_ok nmX0 Z hin X (ci := 0) (C := RX0) (T := TX0) (N := 11) rfl rfl 0 (by decide) lk_X0_begin_25 rfl (by decide +kernel) (zb_nar bb) (zb_fit bb) (Nat.le_of_ble_eq_true rfl) dX0_begin_10 (fun H locs X => ?_)
  have X : zh g A (oQ h (zb bb, q1, q2, q3, q4, q5, q6, q7, q8, q9, q10)) s.heap H locs := X
  refine lv_aload_n hx hb dX0_begin_13 rfl (lv_at hl 1 rfl) ?_
  refine lv_iconst (v := (0 : Int32)) hx hb dX0_begin_14 (by decide) ?_
  refine zput (ty := .int) (fs := [.int (zb bb), .int q1, .int q2, .int q3, .int q4, .int q5, .int q6, .long q7, .int q8, .int q9, .long q10]) (v := .int (0 : Int32)) tyX0 tyX0_ok nmX0 Z hin X (ci := 0) (C := RX0) (T := TX0) (N := 11) rfl rfl 1 (by decide) lk_X0_begin_29 rfl (by decide +kernel) rfl rfl (Nat.le_of_ble_eq_true rfl) dX0_begin_15 (fun H locs X => ?_)
  have X : zh g A (oQ h (zb bb, (0 : Int32), q2, q3, q4, q5, q6, q7, q8, q9, q10)) s.heap H locs := X
  refine lv_aload_n hx hb dX0_begin_18 rfl (lv_at hl 1 rfl) ?_
  refine lv_iconst (v := (0 : Int32)) hx hb dX0_begin_19 (by decide) ?_
  refine zput (ty := .int) (fs := [.int (zb bb), .int (0 : Int32), .int q2, .int q3, .int q4, .int q5, .int q6, .long q7, .int q8, .int q9, .long q10]) (v := .int (0 : Int32)) tyX0 tyX0_ok nmX0 Z hin X (ci := 0) (C := RX0) (T := TX0) (N := 11) rfl rfl 2 (by decide) lk_X0_begin_32 rfl (by decide +kernel) rfl rfl (Nat.le_of_ble_eq_true rfl) dX0_begin_20 (fun H locs X => ?_)
  have X : zh g A (oQ h (zb bb, (0 : Int32), (0 : Int32), q3, q4, q5, q6, q7, q8, q9, q10)) s.heap H locs := X
  refine lv_aload_n hx hb dX0_begin_23 rfl (lv_at hl 1 rfl) ?_
  refine lv_iconst (v := (-1 : Int32)) hx hb dX0_begin_24 (by decide) ?_
  refine zput (ty := .int) (fs := [.int (zb bb), .int (0 : Int32), .int (0 : Int32), .int q3, .int q4, .int q5, .int q6, .long q7, .int q8, .int q9, .long q10]) (v := .int (-1 : Int32)) tyX0 tyX0_ok nmX0 Z hin X (ci := 0) (C := RX0) (T := TX0) (N := 11) rfl rfl 3 (by decide) lk_X0_begin_9 rfl (by decide +kernel) rfl rfl (Nat.le_of_ble_eq_true rfl) dX0_begin_25 (fun H locs X => ?_)
  have X : zh g A (oQ h (zb bb, (0 : Int32), (0 : Int32), (-1 : Int32), q4, q5, q6, q7, q8, q9, q10)) s.heap H locs := X
  refine lv_aload_n hx hb dX0_begin_28 rfl (lv_at hl 1 rfl) ?_
  refine lv_iconst (v := (-1 : Int32)) hx hb dX0_begin_29 (by decide) ?_
  refine zput (ty := .int) (fs := [.int (zb bb), .int (0 : Int32), .int (0 : Int32), .int (-1 : Int32), .int q4, .int q5, .int q6, .long q7, .int q8, .int q9, .long q10]) (v := .int (-1 : Int32)) tyX0 tyX0_ok nmX0 Z hin X (ci := 0) (C := RX0) (T := TX0) (N := 11) rfl rfl 4 (by decide) lk_X0_begin_13 rfl (by decide +kernel) rfl rfl (Nat.le_of_ble_eq_true rfl) dX0_begin_30 (fun H locs X => ?_)
  have X : zh g A (oQ h (zb bb, (0 : Int32), (0 : Int32), (-1 : Int32), (-1 : Int32), q5, q6, q7, q8, q9, q10)) s.heap H locs := X
  refine lv_aload_n hx hb dX0_begin_33 rfl (lv_at hl 1 rfl) ?_
  refine lv_iconst (v := (0 : Int32)) hx hb dX0_begin_34 (by decide) ?_
  refine zput (ty := .int) (fs := [.int (zb bb), .int (0 : Int32), .int (0 : Int32), .int (-1 : Int32), .int (-1 : Int32), .int q5, .int q6, .long q7, .int q8, .int q9, .long q10]) (v := .int (0 : Int32)) tyX0 tyX0_ok nmX0 Z hin X (ci := 0) (C := RX0) (T := TX0) (N := 11) rfl rfl 5 (by decide) lk_X0_begin_16 rfl (by decide +kernel) rfl rfl (Nat.le_of_ble_eq_true rfl) dX0_begin_35 (fun H locs X => ?_)
  have X : zh g A (oQ h (zb bb, (0 : Int32), (0 : Int32), (-1 : Int32), (-1 : Int32), (0 : Int32), q6, q7, q8, q9, q10)) s.heap H locs := X
  refine lv_aload_n hx hb dX0_begin_38 rfl (lv_at hl 1 rfl) ?_
  refine lv_iconst (v := (0 : Int32)) hx hb dX0_begin_39 (by decide) ?_
  refine zput (ty := .int) (fs := [.int (zb bb), .int (0 : Int32), .int (0 : Int32), .int (-1 : Int32), .int (-1 : Int32), .int (0 : Int32), .int q6, .long q7, .int q8, .int q9, .long q10]) (v := .int (0 : Int32)) tyX0 tyX0_ok nmX0 Z hin X (ci := 0) (C := RX0) (T := TX0) (N := 11) rfl rfl 6 (by decide) lk_X0_begin_35 rfl (by decide +kernel) rfl rfl (Nat.le_of_ble_eq_true rfl) dX0_begin_40 (fun H locs X => ?_)
  have X : zh g A (oQ h (zb bb, (0 : Int32), (0 : Int32), (-1 : Int32), (-1 : Int32), (0 : Int32), (0 : Int32), q7, q8, q9, q10)) s.heap H locs := X
  refine lv_aload_n hx hb dX0_begin_43 rfl (lv_at hl 1 rfl) ?_
  refine lv_lconst (v := (0 : Int64)) hx hb dX0_begin_44 (by decide) ?_
  refine zput (ty := .long) (fs := [.int (zb bb), .int (0 : Int32), .int (0 : Int32), .int (-1 : Int32), .int (-1 : Int32), .int (0 : Int32), .int (0 : Int32), .long q7, .int q8, .int q9, .long q10]) (v := .long (0 : Int64)) tyX0 tyX0_ok nmX0 Z hin X (ci := 0) (C := RX0) (T := TX0) (N := 11) rfl rfl 7 (by decide) lk_X0_begin_38 rfl (by decide +kernel) rfl rfl (Nat.le_of_ble_eq_true rfl) dX0_begin_45 (fun H locs X => ?_)
  have X : zh g A (oQ h (zb bb, (0 : Int32), (0 : Int32), (-1 : Int32), (-1 : Int32), (0 : Int32), (0 : Int32), (0 : Int64), q8, q9, q10)) s.heap H locs := X
  refine lv_iload_n hx hb dX0_begin_48 rfl (lv_at hl 0 rfl) ?_
  exact zreti Z hr hlk (zb bb, (0 : Int32), (0 : Int32), (-1 : Int32), (-1 : Int32), (0 : Int32), (0 : Int32), (0 : Int64), q8, q9, q10) X dX0_begin_49 rfl (by subst ex2; exact ⟨rfl, rfl⟩)
theorem inw_X0_symmetries : ∀ w ∈ wsX00, w ∈ wsX0_symmetries := by decide +kernel
theorem lk_X0_symmetries_16 : Cond.fieldLink RX0 16 "Quarterboard" "filled" "I" ∈ wsX0_symmetries := by decide +kernel
theorem lk_X0_symmetries_38 : Cond.fieldLink RX0 38 "Quarterboard" "digits" "J" ∈ wsX0_symmetries := by decide +kernel
def P_X0_symmetries (q0 q1 q2 q3 q4 q5 q6 : Int32) (q7 : Int64) (q8 q9 : Int32) (q10 : Int64) : Int32 → QS → Prop := fun r u => u = (q0, q1, q2, q3, q4, q5, q6, q7, q8, q9, q10) ∧ r = qSym q5 q7 q5 q7 8
set_option maxHeartbeats 4000000 in
set_option maxRecDepth 100000 in
theorem c_X0_symmetries (l : Launch) (g : zG) (bL h : Nat) (q0 q1 q2 q3 q4 q5 q6 : Int32) (q7 : Int64) (q8 q9 : Int32) (q10 : Int64)   : zM l yX0_symmetries wsX0_symmetries 4 250 g [.ref h] (oQ h (q0, q1, q2, q3, q4, q5, q6, q7, q8, q9, q10)) (zEL bL) (zQi g (P_X0_symmetries q0 q1 q2 q3 q4 q5 q6 q7 q8 q9 q10) (oQ h)) := by
  refine zstart (cc := cX0_symmetries) (maxL := 3) (ret := (some .int)) (own := RX0) rfl (by decide) rfl zStL (Nat.le_of_ble_eq_true rfl) ?_
  intro p e s m below meth c A Z hr hlk H locs X ls hl
  have hx := Z.1.1
  have hb := Z.1.2.1
  have hin : ∀ w ∈ wsX00, w ∈ wsX0_symmetries := inw_X0_symmetries
  have hl : lv_has ls 3 [(0, .ref h)] := hl
  have X : zh g A (oQ h (q0, q1, q2, q3, q4, q5, q6, q7, q8, q9, q10)) s.heap H locs := X
  refine lv_iconst (v := (0 : Int32)) hx hb dX0_symmetries_0 (by decide) ?_
  refine lv_istore_n (lv' := [(1, .int (0 : Int32)), (0, .ref h)]) hx hb dX0_symmetries_1 rfl hl (by decide) rfl (fun ls hl => ?_)
  refine lv_iconst (v := (0 : Int32)) hx hb dX0_symmetries_2 (by decide) ?_
  refine lv_istore_n (lv' := [(2, .int (0 : Int32)), (1, .int (0 : Int32)), (0, .ref h)]) hx hb dX0_symmetries_3 rfl hl (by decide) rfl (fun ls hl => ?_)
  have cut4 : ∀ (n4 : Nat), ∀ (k : Nat) (acc : Int32), (k ≤ 8) → (acc = qSym q5 q7 q5 q7 k) → (9 - k ≤ n4) → ∀ (H : Heap) (locs : List Loc) (ls : Array Slot), zh g A (oQ h (q0, q1, q2, q3, q4, q5, q6, q7, q8, q9, q10)) s.heap H locs → lv_has ls 3 [(2, .int (nI k)), (1, .int acc), (0, .ref h)] → W p l e { frames := 4, cells := 0, slots := 0, locals := 250 } s m ([.ref h] : List Value).toArray below meth c H locs 0 0 (MQ below ((zQi g (P_X0_symmetries q0 q1 q2 q3 q4 q5 q6 q7 q8 q9 q10) (oQ h)) A) ([.ref h] : List Value).toArray s 0 0 A) (F0 m 4 ls []) := by
    intro n4
    induction n4 with
    | zero =>
      intro k acc hk hacc hm4
      exact absurd hm4 (by omega)
    | succ n4 ih4 =>
      intro k acc hk hacc hm4 H locs ls X hl
      refine lv_iload_n hx hb dX0_symmetries_4 rfl (lv_at hl 0 rfl) ?_
      refine lv_bipush (v := (8 : Int32)) hx hb dX0_symmetries_5 (by decide) ?_
      refine lv_icmp_ge (tgt := 32) hx hb dX0_symmetries_7 (by decide) (fun c1 => ?_) (fun c1 => ?_)
      · have qc1 := c1
        have c1n : 8 ≤ k := zn_let (by omega) (by omega) c1
        refine lv_iload_n hx hb dX0_symmetries_32 rfl (lv_at hl 1 rfl) ?_
        exact zreti Z hr hlk (q0, q1, q2, q3, q4, q5, q6, q7, q8, q9, q10) X dX0_symmetries_33 rfl (⟨rfl, by rw [hacc, show k = 8 by omega]⟩)
      · have qc1 := c1
        have c1n : ¬ 8 ≤ k := zn_len (by omega) (by omega) c1
        refine lv_iload_n hx hb dX0_symmetries_10 rfl (lv_at hl 1 rfl) ?_
        refine lv_aload_n hx hb dX0_symmetries_11 rfl (lv_at hl 2 rfl) ?_
        refine lv_iload_n hx hb dX0_symmetries_12 rfl (lv_at hl 0 rfl) ?_
        refine lv_aload_n hx hb dX0_symmetries_13 rfl (lv_at hl 2 rfl) ?_
        refine zget (fs := [.int q0, .int q1, .int q2, .int q3, .int q4, .int q5, .int q6, .long q7, .int q8, .int q9, .long q10]) (v := .int q5) Z hin X (ci := 0) (C := RX0) (T := TX0) (N := 11) rfl rfl 5 (by decide) lk_X0_symmetries_16 rfl dX0_symmetries_14 ?_
        refine lv_aload_n hx hb dX0_symmetries_17 rfl (lv_at hl 2 rfl) ?_
        refine zget (fs := [.int q0, .int q1, .int q2, .int q3, .int q4, .int q5, .int q6, .long q7, .int q8, .int q9, .long q10]) (v := .long q7) Z hin X (ci := 0) (C := RX0) (T := TX0) (N := 11) rfl rfl 7 (by decide) lk_X0_symmetries_38 rfl dX0_symmetries_18 ?_
        refine zcallVi (n := 3) (As := [.int (nI k), .int q5, .long q7]) (rest := [.int acc]) (ci := 0) (C := RX0) (T := TX0) (N := 11) Z X (c_X0_waysOfMarks l g bL h q0 q1 q2 q3 q4 q5 q6 q7 q8 q9 q10 k q5 q7 (by omega)) gX0_symmetries_X0_waysOfMarks rfl (by decide +kernel) ⟨Nat.le_of_ble_eq_true rfl, Nat.le_of_ble_eq_true rfl⟩ rfl rfl rfl rfl hl.1 (Nat.le_of_ble_eq_true rfl) dX0_symmetries_21 ⟨Nat.zero_le _, Nat.zero_le _⟩ (fun r1 ur1 H locs hrr1 X => ?_)
        obtain ⟨rfl, rfl⟩ : ur1 = (q0, q1, q2, q3, q4, q5, q6, q7, q8, q9, q10) ∧ r1 = qWays q5 q7 k q5 q7 := hrr1
        have X : zh g A (oQ h (q0, q1, q2, q3, q4, q5, q6, q7, q8, q9, q10)) s.heap H locs := X
        refine lv_iadd hx hb dX0_symmetries_24 ?_
        refine lv_topi (fun x3 ex3 => ?_)
        refine lv_istore_n (lv' := [(1, .int x3), (2, .int (nI k)), (0, .ref h)]) hx hb dX0_symmetries_25 rfl hl (by decide) rfl (fun ls hl => ?_)
        refine lv_iinc (v := nI (k + 1)) (lv' := [(2, .int (nI (k + 1))), (1, .int x3), (0, .ref h)]) hx hb dX0_symmetries_26 hl (k := 1) rfl (zi_inc k) (by decide) rfl (fun ls hl => ?_)
        refine lv_goto (tgt := 4) hx hb dX0_symmetries_29 (by decide) ?_
        exact ih4 (k + 1) x3 (by first | assumption | omega) (by subst ex3; rw [hacc]; rfl) (by omega) H locs ls X (lv_sub hl [0, 1, 2] rfl)
  exact cut4 9 0 0 (by first | assumption | omega) (rfl) (by omega) H locs ls X (lv_sub hl [0, 1, 2] rfl)
end
section
/-! the class: what may throw -/
theorem zclamp {x : Int32} (h : ¬ x < 0) : x = nI x.toNatClampNeg := by
  obtain ⟨j, hj, e⟩ := nI_of h
  rw [e, nI_clamp hj]
theorem zclamp_lt {x : Int32} (h : ¬ x < 0) {n : Nat} (hn : n < 2 ^ 31) (h2 : ¬ nI n ≤ x) : x.toNatClampNeg < n := by
  obtain ⟨j, hj, e⟩ := nI_of h
  rw [e, nI_clamp hj]
  rw [e] at h2
  exact Nat.not_le.mp (fun q => h2 (nI_le q hj))
theorem zplac {x : Int32} (h1 : ¬ x < 1) (h4 : x ≤ 4) : x = nI x.toNatClampNeg ∧ 1 ≤ x.toNatClampNeg ∧ x.toNatClampNeg ≤ 4 := by
  have h0 : ¬ x < 0 := fun q => h1 (Int32.lt_trans q (by decide))
  obtain ⟨j, hj, e⟩ := nI_of h0
  rw [e, nI_clamp hj]
  rw [e] at h1 h4
  refine ⟨rfl, Nat.not_lt.mp (fun q => h1 (nI_lt q (by decide))), Nat.not_lt.mp (fun q => absurd h4 (nI_ge q hj))⟩
def qPA (d : Int64) (s : Int32) : Nat → Int32
  | 0 => 0
  | k + 1 => if qHas (qOne d (nI k)) s = true then qPA d s k ||| qBit (nI k) else qPA d s k
def qAt (f : Int32) (d : Int64) (s : Int32) : Int32 := if qHas f s = true then qPA d s 4 else -1
theorem inw_X0_give : ∀ w ∈ wsX00, w ∈ wsX0_give := by decide +kernel
theorem lk_X0_give_29 : Cond.fieldLink RX0 29 "Quarterboard" "stage" "I" ∈ wsX0_give := by decide +kernel
theorem lk_X0_give_35 : Cond.fieldLink RX0 35 "Quarterboard" "used" "I" ∈ wsX0_give := by decide +kernel
theorem lk_X0_give_9 : Cond.fieldLink RX0 9 "Quarterboard" "held" "I" ∈ wsX0_give := by decide +kernel
theorem lk_X0_give_32 : Cond.fieldLink RX0 32 "Quarterboard" "player" "I" ∈ wsX0_give := by decide +kernel
theorem th_X0_give_46 : Cond.classLink "Quarterboard" 46 eIO ∈ wsX0_give := by decide +kernel
theorem ti_X0_give_46 : Cond.initialized eIO ∈ wsX0_give := by decide +kernel
theorem ta_X0_give_46 : ∀ w ∈ (vx_atS "Quarterboard" 50 eIO zNm).filter goodWord, w ∈ wsX0_give := by decide +kernel
theorem th_X0_give_53 : Cond.classLink "Quarterboard" 53 eIS ∈ wsX0_give := by decide +kernel
theorem ti_X0_give_53 : Cond.initialized eIS ∈ wsX0_give := by decide +kernel
theorem ta_X0_give_53 : ∀ w ∈ (vx_atS "Quarterboard" 57 eIS zNm).filter goodWord, w ∈ wsX0_give := by decide +kernel
def P_X0_give (q0 q1 q2 q3 q4 q5 q6 : Int32) (q7 : Int64) (q8 q9 : Int32) (q10 : Int64) (pn : Int32) : Int32 → QS → Prop := fun r u => (qNum pn = true ∧ q1 = 0 ∧ qHas q6 pn = false) ∧ u = (q0, 1, 1 - q2, pn, q4, q5, q6, q7, q8, q9, q10) ∧ r = 1 - q2
def PX_X0_give (q0 q1 q2 q3 q4 q5 q6 : Int32) (q7 : Int64) (q8 q9 : Int32) (q10 : Int64) (pn : Int32) : String → Prop := fun E => (E = eIO ∧ qNum pn = false) ∨ (E = eIS ∧ qNum pn = true ∧ (¬ q1 = 0 ∨ qHas q6 pn = true))
set_option maxHeartbeats 4000000 in
set_option maxRecDepth 100000 in
theorem c_X0_give (l : Launch) (g : zG) (bL h : Nat) (q0 q1 q2 q3 q4 q5 q6 : Int32) (q7 : Int64) (q8 q9 : Int32) (q10 : Int64) (pn : Int32) (htr : l.stackTraces = false)  : zMX l yX0_give wsX0_give 30 1000 g [.ref h, .int pn] (oQ h (q0, q1, q2, q3, q4, q5, q6, q7, q8, q9, q10)) (zEL bL) (zQi g (P_X0_give q0 q1 q2 q3 q4 q5 q6 q7 q8 q9 q10 pn) (oQ h)) (PX_X0_give q0 q1 q2 q3 q4 q5 q6 q7 q8 q9 q10 pn) := by
  refine zstartX (cc := cX0_give) (maxL := 2) (ret := (some .int)) (own := RX0) rfl (by decide) rfl zStL (Nat.le_of_ble_eq_true rfl) ?_
  intro p e s m below meth c A Z hr hlk ht H locs X ls hl
  have hx := Z.1.1
  have hb := Z.1.2.1
  have hin : ∀ w ∈ wsX00, w ∈ wsX0_give := inw_X0_give
  have hl : lv_has ls 2 [(0, .ref h), (1, .int pn)] := hl
  have X : zh g A (oQ h (q0, q1, q2, q3, q4, q5, q6, q7, q8, q9, q10)) s.heap H locs := X
  refine lv_iload_n hx hb dX0_give_0 rfl (lv_at hl 1 rfl) ?_
  refine zcallSi (n := 1) (As := [.int pn]) (rest := []) Z X (c_X0_isNumber l g pn) gX0_give_X0_isNumber rfl (by decide +kernel) ⟨by show _ ≤ 30; omega, by show _ ≤ 1000; omega⟩ rfl rfl hl.1 (Nat.le_of_ble_eq_true rfl) dX0_give_1 ⟨Nat.zero_le _, Nat.zero_le _⟩ (fun r0 H locs hrr0 X => ?_)
  obtain rfl : r0 = zb (qNum pn) := hrr0
  refine lv_if_ne (tgt := 17) hx hb dX0_give_4 (by decide) (fun c2 => ?_) (fun c2 => ?_)
  · have qc2 := c2
    have hn : qNum pn = true := zb_n0.mp c2
    refine lv_aload_n hx hb dX0_give_17 rfl (lv_at hl 0 rfl) ?_
    refine zget (fs := [.int q0, .int q1, .int q2, .int q3, .int q4, .int q5, .int q6, .long q7, .int q8, .int q9, .long q10]) (v := .int q1) Z hin X (ci := 0) (C := RX0) (T := TX0) (N := 11) rfl rfl 1 (by decide) lk_X0_give_29 rfl dX0_give_18 ?_
    refine lv_if_eq (tgt := 34) hx hb dX0_give_21 (by decide) (fun c3 => ?_) (fun c3 => ?_)
    · have qc3 := c3
      have hs : q1 = 0 := c3
      refine lv_aload_n hx hb dX0_give_34 rfl (lv_at hl 0 rfl) ?_
      refine zget (fs := [.int q0, .int q1, .int q2, .int q3, .int q4, .int q5, .int q6, .long q7, .int q8, .int q9, .long q10]) (v := .int q6) Z hin X (ci := 0) (C := RX0) (T := TX0) (N := 11) rfl rfl 6 (by decide) lk_X0_give_35 rfl dX0_give_35 ?_
      refine lv_iload_n hx hb dX0_give_38 rfl (lv_at hl 1 rfl) ?_
      refine zcallSi (n := 2) (As := [.int q6, .int pn]) (rest := []) Z X (c_X0_has l g q6 pn) gX0_give_X0_has rfl (by decide +kernel) ⟨by show _ ≤ 30; omega, by show _ ≤ 1000; omega⟩ rfl rfl hl.1 (Nat.le_of_ble_eq_true rfl) dX0_give_39 ⟨Nat.zero_le _, Nat.zero_le _⟩ (fun r3 H locs hrr3 X => ?_)
      obtain rfl : r3 = zb (qHas q6 pn) := hrr3
      refine lv_if_eq (tgt := 55) hx hb dX0_give_42 (by decide) (fun c5 => ?_) (fun c5 => ?_)
      · have qc5 := c5
        have hh : qHas q6 pn = false := zb_0.mp c5
        refine lv_aload_n hx hb dX0_give_55 rfl (lv_at hl 0 rfl) ?_
        refine lv_iload_n hx hb dX0_give_56 rfl (lv_at hl 1 rfl) ?_
        refine zput (ty := .int) (fs := [.int q0, .int q1, .int q2, .int q3, .int q4, .int q5, .int q6, .long q7, .int q8, .int q9, .long q10]) (v := .int pn) tyX0 tyX0_ok nmX0 Z hin X (ci := 0) (C := RX0) (T := TX0) (N := 11) rfl rfl 3 (by decide) lk_X0_give_9 rfl (by decide +kernel) rfl rfl (Nat.le_of_ble_eq_true rfl) dX0_give_57 (fun H locs X => ?_)
        have X : zh g A (oQ h (q0, q1, q2, pn, q4, q5, q6, q7, q8, q9, q10)) s.heap H locs := X
        refine lv_aload_n hx hb dX0_give_60 rfl (lv_at hl 0 rfl) ?_
        refine lv_iconst (v := (1 : Int32)) hx hb dX0_give_61 (by decide) ?_
        refine lv_aload_n hx hb dX0_give_62 rfl (lv_at hl 0 rfl) ?_
        refine zget (fs := [.int q0, .int q1, .int q2, .int pn, .int q4, .int q5, .int q6, .long q7, .int q8, .int q9, .long q10]) (v := .int q2) Z hin X (ci := 0) (C := RX0) (T := TX0) (N := 11) rfl rfl 2 (by decide) lk_X0_give_32 rfl dX0_give_63 ?_
        refine lv_isub hx hb dX0_give_66 ?_
        refine zput (ty := .int) (fs := [.int q0, .int q1, .int q2, .int pn, .int q4, .int q5, .int q6, .long q7, .int q8, .int q9, .long q10]) (v := .int ((1 : Int32) - q2)) tyX0 tyX0_ok nmX0 Z hin X (ci := 0) (C := RX0) (T := TX0) (N := 11) rfl rfl 2 (by decide) lk_X0_give_32 rfl (by decide +kernel) rfl rfl (Nat.le_of_ble_eq_true rfl) dX0_give_67 (fun H locs X => ?_)
        have X : zh g A (oQ h (q0, q1, (1 : Int32) - q2, pn, q4, q5, q6, q7, q8, q9, q10)) s.heap H locs := X
        refine lv_aload_n hx hb dX0_give_70 rfl (lv_at hl 0 rfl) ?_
        refine lv_iconst (v := (1 : Int32)) hx hb dX0_give_71 (by decide) ?_
        refine zput (ty := .int) (fs := [.int q0, .int q1, .int ((1 : Int32) - q2), .int pn, .int q4, .int q5, .int q6, .long q7, .int q8, .int q9, .long q10]) (v := .int (1 : Int32)) tyX0 tyX0_ok nmX0 Z hin X (ci := 0) (C := RX0) (T := TX0) (N := 11) rfl rfl 1 (by decide) lk_X0_give_29 rfl (by decide +kernel) rfl rfl (Nat.le_of_ble_eq_true rfl) dX0_give_72 (fun H locs X => ?_)
        have X : zh g A (oQ h (q0, (1 : Int32), (1 : Int32) - q2, pn, q4, q5, q6, q7, q8, q9, q10)) s.heap H locs := X
        refine lv_aload_n hx hb dX0_give_75 rfl (lv_at hl 0 rfl) ?_
        refine zget (fs := [.int q0, .int (1 : Int32), .int ((1 : Int32) - q2), .int pn, .int q4, .int q5, .int q6, .long q7, .int q8, .int q9, .long q10]) (v := .int ((1 : Int32) - q2)) Z hin X (ci := 0) (C := RX0) (T := TX0) (N := 11) rfl rfl 2 (by decide) lk_X0_give_32 rfl dX0_give_76 ?_
        exact vx_ret (W.widen (k := 1) (n := 6) (Nat.zero_le _) (Nat.zero_le _) (zreti Z hr hlk (q0, (1 : Int32), (1 : Int32) - q2, pn, q4, q5, q6, q7, q8, q9, q10) X dX0_give_79 rfl (⟨⟨hn, hs, hh⟩, rfl, rfl⟩)))
      · have qc5 := c5
        have hh : qHas q6 pn = true := zb_n0.mp c5
        exact zthrow (is := 62) (text := "the piece is on the board") Z htr ht hlk X hl.1 (by decide +kernel) th_X0_give_53 ti_X0_give_53 (by decide +kernel) ta_X0_give_53 zB_57 zG_57 dX0_give_45 dX0_give_48 dX0_give_49 dX0_give_51 dX0_give_54 (Nat.le_of_ble_eq_true rfl) (Nat.le_of_ble_eq_true rfl) (Nat.le_refl _) (Nat.le_refl _) (Or.inr ⟨rfl, hn, Or.inr hh⟩)
    · have qc3 := c3
      have hs : ¬ q1 = 0 := c3
      exact zthrow (is := 55) (text := "no piece is to be given") Z htr ht hlk X hl.1 (by decide +kernel) th_X0_give_53 ti_X0_give_53 (by decide +kernel) ta_X0_give_53 zB_57 zG_57 dX0_give_24 dX0_give_27 dX0_give_28 dX0_give_30 dX0_give_33 (Nat.le_of_ble_eq_true rfl) (Nat.le_of_ble_eq_true rfl) (Nat.le_refl _) (Nat.le_refl _) (Or.inr ⟨rfl, hn, Or.inl hs⟩)
  · have qc2 := c2
    have hn : qNum pn = false := zb_0.mp c2
    exact zthrow (is := 48) (text := "no such piece") Z htr ht hlk X hl.1 (by decide +kernel) th_X0_give_46 ti_X0_give_46 (by decide +kernel) ta_X0_give_46 zB_50 zG_50 dX0_give_7 dX0_give_10 dX0_give_11 dX0_give_13 dX0_give_16 (Nat.le_of_ble_eq_true rfl) (Nat.le_of_ble_eq_true rfl) (Nat.le_refl _) (Nat.le_refl _) (Or.inl ⟨rfl, hn⟩)
theorem inw_X0_winning : ∀ w ∈ wsX00, w ∈ wsX0_winning := by decide +kernel
theorem lk_X0_winning_29 : Cond.fieldLink RX0 29 "Quarterboard" "stage" "I" ∈ wsX0_winning := by decide +kernel
theorem lk_X0_winning_35 : Cond.fieldLink RX0 35 "Quarterboard" "used" "I" ∈ wsX0_winning := by decide +kernel
theorem th_X0_winning_46 : Cond.classLink "Quarterboard" 46 eIO ∈ wsX0_winning := by decide +kernel
theorem ti_X0_winning_46 : Cond.initialized eIO ∈ wsX0_winning := by decide +kernel
theorem ta_X0_winning_46 : ∀ w ∈ (vx_atS "Quarterboard" 50 eIO zNm).filter goodWord, w ∈ wsX0_winning := by decide +kernel
theorem th_X0_winning_53 : Cond.classLink "Quarterboard" 53 eIS ∈ wsX0_winning := by decide +kernel
theorem ti_X0_winning_53 : Cond.initialized eIS ∈ wsX0_winning := by decide +kernel
theorem ta_X0_winning_53 : ∀ w ∈ (vx_atS "Quarterboard" 57 eIS zNm).filter goodWord, w ∈ wsX0_winning := by decide +kernel
def P_X0_winning (q0 q1 q2 q3 q4 q5 q6 : Int32) (q7 : Int64) (q8 q9 : Int32) (q10 : Int64) (pn : Int32) : Int32 → QS → Prop := fun r u => (qNum pn = true ∧ ¬ q1 = 2 ∧ qHas q6 pn = false) ∧ u = (q0, q1, q2, q3, q4, q5, q6, q7, q8, q9, q10) ∧ r = qWin q5 q7 q0 pn
def PX_X0_winning (q0 q1 q2 q3 q4 q5 q6 : Int32) (q7 : Int64) (q8 q9 : Int32) (q10 : Int64) (pn : Int32) : String → Prop := fun E => (E = eIO ∧ qNum pn = false) ∨ (E = eIS ∧ qNum pn = true ∧ (q1 = 2 ∨ qHas q6 pn = true))
set_option maxHeartbeats 4000000 in
set_option maxRecDepth 100000 in
theorem c_X0_winning (l : Launch) (g : zG) (bL h : Nat) (q0 q1 q2 q3 q4 q5 q6 : Int32) (q7 : Int64) (q8 q9 : Int32) (q10 : Int64) (pn : Int32) (htr : l.stackTraces = false)  : zMX l yX0_winning wsX0_winning 30 1000 g [.ref h, .int pn] (oQ h (q0, q1, q2, q3, q4, q5, q6, q7, q8, q9, q10)) (zEL bL) (zQi g (P_X0_winning q0 q1 q2 q3 q4 q5 q6 q7 q8 q9 q10 pn) (oQ h)) (PX_X0_winning q0 q1 q2 q3 q4 q5 q6 q7 q8 q9 q10 pn) := by
  refine zstartX (cc := cX0_winning) (maxL := 2) (ret := (some .int)) (own := RX0) rfl (by decide) rfl zStL (Nat.le_of_ble_eq_true rfl) ?_
  intro p e s m below meth c A Z hr hlk ht H locs X ls hl
  have hx := Z.1.1
  have hb := Z.1.2.1
  have hin : ∀ w ∈ wsX00, w ∈ wsX0_winning := inw_X0_winning
  have hl : lv_has ls 2 [(0, .ref h), (1, .int pn)] := hl
  have X : zh g A (oQ h (q0, q1, q2, q3, q4, q5, q6, q7, q8, q9, q10)) s.heap H locs := X
  refine lv_iload_n hx hb dX0_winning_0 rfl (lv_at hl 1 rfl) ?_
  refine zcallSi (n := 1) (As := [.int pn]) (rest := []) Z X (c_X0_isNumber l g pn) gX0_winning_X0_isNumber rfl (by decide +kernel) ⟨by show _ ≤ 30; omega, by show _ ≤ 1000; omega⟩ rfl rfl hl.1 (Nat.le_of_ble_eq_true rfl) dX0_winning_1 ⟨Nat.zero_le _, Nat.zero_le _⟩ (fun r0 H locs hrr0 X => ?_)
  obtain rfl : r0 = zb (qNum pn) := hrr0
  refine lv_if_ne (tgt := 17) hx hb dX0_winning_4 (by decide) (fun c2 => ?_) (fun c2 => ?_)
  · have qc2 := c2
    have hn : qNum pn = true := zb_n0.mp c2
    refine lv_aload_n hx hb dX0_winning_17 rfl (lv_at hl 0 rfl) ?_
    refine zget (fs := [.int q0, .int q1, .int q2, .int q3, .int q4, .int q5, .int q6, .long q7, .int q8, .int q9, .long q10]) (v := .int q1) Z hin X (ci := 0) (C := RX0) (T := TX0) (N := 11) rfl rfl 1 (by decide) lk_X0_winning_29 rfl dX0_winning_18 ?_
    refine lv_iconst (v := (2 : Int32)) hx hb dX0_winning_21 (by decide) ?_
    refine lv_icmp_ne (tgt := 35) hx hb dX0_winning_22 (by decide) (fun c3 => ?_) (fun c3 => ?_)
    · have qc3 := c3
      have hs : ¬ q1 = 2 := c3
      refine lv_aload_n hx hb dX0_winning_35 rfl (lv_at hl 0 rfl) ?_
      refine zget (fs := [.int q0, .int q1, .int q2, .int q3, .int q4, .int q5, .int q6, .long q7, .int q8, .int q9, .long q10]) (v := .int q6) Z hin X (ci := 0) (C := RX0) (T := TX0) (N := 11) rfl rfl 6 (by decide) lk_X0_winning_35 rfl dX0_winning_36 ?_
      refine lv_iload_n hx hb dX0_winning_39 rfl (lv_at hl 1 rfl) ?_
      refine zcallSi (n := 2) (As := [.int q6, .int pn]) (rest := []) Z X (c_X0_has l g q6 pn) gX0_winning_X0_has rfl (by decide +kernel) ⟨by show _ ≤ 30; omega, by show _ ≤ 1000; omega⟩ rfl rfl hl.1 (Nat.le_of_ble_eq_true rfl) dX0_winning_40 ⟨Nat.zero_le _, Nat.zero_le _⟩ (fun r3 H locs hrr3 X => ?_)
      obtain rfl : r3 = zb (qHas q6 pn) := hrr3
      refine lv_if_eq (tgt := 56) hx hb dX0_winning_43 (by decide) (fun c5 => ?_) (fun c5 => ?_)
      · have qc5 := c5
        have hh : qHas q6 pn = false := zb_0.mp c5
        refine lv_aload_n hx hb dX0_winning_56 rfl (lv_at hl 0 rfl) ?_
        refine lv_iload_n hx hb dX0_winning_57 rfl (lv_at hl 1 rfl) ?_
        refine zcallVi (n := 1) (As := [.int pn]) (rest := []) (ci := 0) (C := RX0) (T := TX0) (N := 11) Z X (c_X0_winningSquares l g bL h q0 q1 q2 q3 q4 q5 q6 q7 q8 q9 q10 pn) gX0_winning_X0_winningSquares rfl (by decide +kernel) ⟨by show _ ≤ 30; omega, by show _ ≤ 1000; omega⟩ rfl rfl rfl rfl hl.1 (Nat.le_of_ble_eq_true rfl) dX0_winning_58 ⟨Nat.zero_le _, Nat.zero_le _⟩ (fun r5 ur5 H locs hrr5 X => ?_)
        obtain ⟨rfl, rfl⟩ : ur5 = (q0, q1, q2, q3, q4, q5, q6, q7, q8, q9, q10) ∧ r5 = qWin q5 q7 q0 pn := hrr5
        have X : zh g A (oQ h (q0, q1, q2, q3, q4, q5, q6, q7, q8, q9, q10)) s.heap H locs := X
        exact vx_ret (W.widen (k := 1) (n := 6) (Nat.zero_le _) (Nat.zero_le _) (zreti Z hr hlk (q0, q1, q2, q3, q4, q5, q6, q7, q8, q9, q10) X dX0_winning_61 rfl (⟨⟨hn, hs, hh⟩, rfl, rfl⟩)))
      · have qc5 := c5
        have hh : qHas q6 pn = true := zb_n0.mp c5
        exact zthrow (is := 62) (text := "the piece is on the board") Z htr ht hlk X hl.1 (by decide +kernel) th_X0_winning_53 ti_X0_winning_53 (by decide +kernel) ta_X0_winning_53 zB_57 zG_57 dX0_winning_46 dX0_winning_49 dX0_winning_50 dX0_winning_52 dX0_winning_55 (Nat.le_of_ble_eq_true rfl) (Nat.le_of_ble_eq_true rfl) (Nat.le_refl _) (Nat.le_refl _) (Or.inr ⟨rfl, hn, Or.inr hh⟩)
    · have qc3 := c3
      have hs : q1 = 2 := c3
      exact zthrow (is := 95) (text := "the game is over") Z htr ht hlk X hl.1 (by decide +kernel) th_X0_winning_53 ti_X0_winning_53 (by decide +kernel) ta_X0_winning_53 zB_57 zG_57 dX0_winning_25 dX0_winning_28 dX0_winning_29 dX0_winning_31 dX0_winning_34 (Nat.le_of_ble_eq_true rfl) (Nat.le_of_ble_eq_true rfl) (Nat.le_refl _) (Nat.le_refl _) (Or.inr ⟨rfl, hn, Or.inl hs⟩)
  · have qc2 := c2
    have hn : qNum pn = false := zb_0.mp c2
    exact zthrow (is := 48) (text := "no such piece") Z htr ht hlk X hl.1 (by decide +kernel) th_X0_winning_46 ti_X0_winning_46 (by decide +kernel) ta_X0_winning_46 zB_50 zG_50 dX0_winning_7 dX0_winning_10 dX0_winning_11 dX0_winning_13 dX0_winning_16 (Nat.le_of_ble_eq_true rfl) (Nat.le_of_ble_eq_true rfl) (Nat.le_refl _) (Nat.le_refl _) (Or.inl ⟨rfl, hn⟩)
theorem inw_X0_safe : ∀ w ∈ wsX00, w ∈ wsX0_safe := by decide +kernel
theorem lk_X0_safe_29 : Cond.fieldLink RX0 29 "Quarterboard" "stage" "I" ∈ wsX0_safe := by decide +kernel
theorem th_X0_safe_53 : Cond.classLink "Quarterboard" 53 eIS ∈ wsX0_safe := by decide +kernel
theorem ti_X0_safe_53 : Cond.initialized eIS ∈ wsX0_safe := by decide +kernel
theorem ta_X0_safe_53 : ∀ w ∈ (vx_atS "Quarterboard" 57 eIS zNm).filter goodWord, w ∈ wsX0_safe := by decide +kernel
def P_X0_safe (q0 q1 q2 q3 q4 q5 q6 : Int32) (q7 : Int64) (q8 q9 : Int32) (q10 : Int64) : Int32 → QS → Prop := fun r u => (q1 = 0) ∧ u = (q0, q1, q2, q3, q4, q5, q6, q7, q8, q9, q10) ∧ r = qSafe q5 q6 q7 q0
def PX_X0_safe (q0 q1 q2 q3 q4 q5 q6 : Int32) (q7 : Int64) (q8 q9 : Int32) (q10 : Int64) : String → Prop := fun E => E = eIS ∧ ¬ q1 = 0
set_option maxHeartbeats 4000000 in
set_option maxRecDepth 100000 in
theorem c_X0_safe (l : Launch) (g : zG) (bL h : Nat) (q0 q1 q2 q3 q4 q5 q6 : Int32) (q7 : Int64) (q8 q9 : Int32) (q10 : Int64)  (htr : l.stackTraces = false)  : zMX l yX0_safe wsX0_safe 30 1000 g [.ref h] (oQ h (q0, q1, q2, q3, q4, q5, q6, q7, q8, q9, q10)) (zEL bL) (zQi g (P_X0_safe q0 q1 q2 q3 q4 q5 q6 q7 q8 q9 q10) (oQ h)) (PX_X0_safe q0 q1 q2 q3 q4 q5 q6 q7 q8 q9 q10) := by
  refine zstartX (cc := cX0_safe) (maxL := 1) (ret := (some .int)) (own := RX0) rfl (by decide) rfl zStL (Nat.le_of_ble_eq_true rfl) ?_
  intro p e s m below meth c A Z hr hlk ht H locs X ls hl
  have hx := Z.1.1
  have hb := Z.1.2.1
  have hin : ∀ w ∈ wsX00, w ∈ wsX0_safe := inw_X0_safe
  have hl : lv_has ls 1 [(0, .ref h)] := hl
  have X : zh g A (oQ h (q0, q1, q2, q3, q4, q5, q6, q7, q8, q9, q10)) s.heap H locs := X
  refine lv_aload_n hx hb dX0_safe_0 rfl (lv_at hl 0 rfl) ?_
  refine zget (fs := [.int q0, .int q1, .int q2, .int q3, .int q4, .int q5, .int q6, .long q7, .int q8, .int q9, .long q10]) (v := .int q1) Z hin X (ci := 0) (C := RX0) (T := TX0) (N := 11) rfl rfl 1 (by decide) lk_X0_safe_29 rfl dX0_safe_1 ?_
  refine lv_if_eq (tgt := 17) hx hb dX0_safe_4 (by decide) (fun c1 => ?_) (fun c1 => ?_)
  · have qc1 := c1
    have hs : q1 = 0 := c1
    refine lv_aload_n hx hb dX0_safe_17 rfl (lv_at hl 0 rfl) ?_
    refine zcallVi (n := 0) (As := []) (rest := []) (ci := 0) (C := RX0) (T := TX0) (N := 11) Z X (c_X0_safePieces l g bL h q0 q1 q2 q3 q4 q5 q6 q7 q8 q9 q10 ) gX0_safe_X0_safePieces rfl (by decide +kernel) ⟨by show _ ≤ 30; omega, by show _ ≤ 1000; omega⟩ rfl rfl rfl rfl hl.1 (Nat.le_of_ble_eq_true rfl) dX0_safe_18 ⟨Nat.zero_le _, Nat.zero_le _⟩ (fun r1 ur1 H locs hrr1 X => ?_)
    obtain ⟨rfl, rfl⟩ : ur1 = (q0, q1, q2, q3, q4, q5, q6, q7, q8, q9, q10) ∧ r1 = qSafe q5 q6 q7 q0 := hrr1
    have X : zh g A (oQ h (q0, q1, q2, q3, q4, q5, q6, q7, q8, q9, q10)) s.heap H locs := X
    exact vx_ret (W.widen (k := 1) (n := 6) (Nat.zero_le _) (Nat.zero_le _) (zreti Z hr hlk (q0, q1, q2, q3, q4, q5, q6, q7, q8, q9, q10) X dX0_safe_21 rfl (⟨hs, rfl, rfl⟩)))
  · have qc1 := c1
    have hs : ¬ q1 = 0 := c1
    exact zthrow (is := 55) (text := "no piece is to be given") Z htr ht hlk X hl.1 (by decide +kernel) th_X0_safe_53 ti_X0_safe_53 (by decide +kernel) ta_X0_safe_53 zB_57 zG_57 dX0_safe_7 dX0_safe_10 dX0_safe_11 dX0_safe_13 dX0_safe_16 (Nat.le_of_ble_eq_true rfl) (Nat.le_of_ble_eq_true rfl) (Nat.le_refl _) (Nat.le_refl _) (⟨rfl, hs⟩)
theorem inw_X0_pieceAt : ∀ w ∈ wsX00, w ∈ wsX0_pieceAt := by decide +kernel
theorem lk_X0_pieceAt_16 : Cond.fieldLink RX0 16 "Quarterboard" "filled" "I" ∈ wsX0_pieceAt := by decide +kernel
theorem lk_X0_pieceAt_38 : Cond.fieldLink RX0 38 "Quarterboard" "digits" "J" ∈ wsX0_pieceAt := by decide +kernel
theorem th_X0_pieceAt_46 : Cond.classLink "Quarterboard" 46 eIO ∈ wsX0_pieceAt := by decide +kernel
theorem ti_X0_pieceAt_46 : Cond.initialized eIO ∈ wsX0_pieceAt := by decide +kernel
theorem ta_X0_pieceAt_46 : ∀ w ∈ (vx_atS "Quarterboard" 50 eIO zNm).filter goodWord, w ∈ wsX0_pieceAt := by decide +kernel
def P_X0_pieceAt (q0 q1 q2 q3 q4 q5 q6 : Int32) (q7 : Int64) (q8 q9 : Int32) (q10 : Int64) (sq : Int32) : Int32 → QS → Prop := fun r u => (qNum sq = true) ∧ u = (q0, q1, q2, q3, q4, q5, q6, q7, q8, q9, q10) ∧ r = qAt q5 q7 sq
def PX_X0_pieceAt (q0 q1 q2 q3 q4 q5 q6 : Int32) (q7 : Int64) (q8 q9 : Int32) (q10 : Int64) (sq : Int32) : String → Prop := fun E => E = eIO ∧ qNum sq = false
set_option maxHeartbeats 4000000 in
set_option maxRecDepth 100000 in
theorem c_X0_pieceAt (l : Launch) (g : zG) (bL h : Nat) (q0 q1 q2 q3 q4 q5 q6 : Int32) (q7 : Int64) (q8 q9 : Int32) (q10 : Int64) (sq : Int32) (htr : l.stackTraces = false)  : zMX l yX0_pieceAt wsX0_pieceAt 30 1000 g [.ref h, .int sq] (oQ h (q0, q1, q2, q3, q4, q5, q6, q7, q8, q9, q10)) (zEL bL) (zQi g (P_X0_pieceAt q0 q1 q2 q3 q4 q5 q6 q7 q8 q9 q10 sq) (oQ h)) (PX_X0_pieceAt q0 q1 q2 q3 q4 q5 q6 q7 q8 q9 q10 sq) := by
  refine zstartX (cc := cX0_pieceAt) (maxL := 4) (ret := (some .int)) (own := RX0) rfl (by decide) rfl zStL (Nat.le_of_ble_eq_true rfl) ?_
  intro p e s m below meth c A Z hr hlk ht H locs X ls hl
  have hx := Z.1.1
  have hb := Z.1.2.1
  have hin : ∀ w ∈ wsX00, w ∈ wsX0_pieceAt := inw_X0_pieceAt
  have hl : lv_has ls 4 [(0, .ref h), (1, .int sq)] := hl
  have X : zh g A (oQ h (q0, q1, q2, q3, q4, q5, q6, q7, q8, q9, q10)) s.heap H locs := X
  refine lv_iload_n hx hb dX0_pieceAt_0 rfl (lv_at hl 1 rfl) ?_
  refine zcallSi (n := 1) (As := [.int sq]) (rest := []) Z X (c_X0_isNumber l g sq) gX0_pieceAt_X0_isNumber rfl (by decide +kernel) ⟨by show _ ≤ 30; omega, by show _ ≤ 1000; omega⟩ rfl rfl hl.1 (Nat.le_of_ble_eq_true rfl) dX0_pieceAt_1 ⟨Nat.zero_le _, Nat.zero_le _⟩ (fun r0 H locs hrr0 X => ?_)
  obtain rfl : r0 = zb (qNum sq) := hrr0
  refine lv_if_ne (tgt := 17) hx hb dX0_pieceAt_4 (by decide) (fun c2 => ?_) (fun c2 => ?_)
  · have qc2 := c2
    have hn : qNum sq = true := zb_n0.mp c2
    refine lv_aload_n hx hb dX0_pieceAt_17 rfl (lv_at hl 0 rfl) ?_
    refine zget (fs := [.int q0, .int q1, .int q2, .int q3, .int q4, .int q5, .int q6, .long q7, .int q8, .int q9, .long q10]) (v := .int q5) Z hin X (ci := 0) (C := RX0) (T := TX0) (N := 11) rfl rfl 5 (by decide) lk_X0_pieceAt_16 rfl dX0_pieceAt_18 ?_
    refine lv_iload_n hx hb dX0_pieceAt_21 rfl (lv_at hl 1 rfl) ?_
    refine zcallSi (n := 2) (As := [.int q5, .int sq]) (rest := []) Z X (c_X0_has l g q5 sq) gX0_pieceAt_X0_has rfl (by decide +kernel) ⟨by show _ ≤ 30; omega, by show _ ≤ 1000; omega⟩ rfl rfl hl.1 (Nat.le_of_ble_eq_true rfl) dX0_pieceAt_22 ⟨Nat.zero_le _, Nat.zero_le _⟩ (fun r2 H locs hrr2 X => ?_)
    obtain rfl : r2 = zb (qHas q5 sq) := hrr2
    refine lv_if_ne (tgt := 30) hx hb dX0_pieceAt_25 (by decide) (fun c4 => ?_) (fun c4 => ?_)
    · have qc4 := c4
      have hh : qHas q5 sq = true := zb_n0.mp c4
      refine lv_iconst (v := (0 : Int32)) hx hb dX0_pieceAt_30 (by decide) ?_
      refine lv_istore_n (lv' := [(2, .int (0 : Int32)), (0, .ref h), (1, .int sq)]) hx hb dX0_pieceAt_31 rfl hl (by decide) rfl (fun ls hl => ?_)
      refine lv_iconst (v := (0 : Int32)) hx hb dX0_pieceAt_32 (by decide) ?_
      refine lv_istore_n (lv' := [(3, .int (0 : Int32)), (2, .int (0 : Int32)), (0, .ref h), (1, .int sq)]) hx hb dX0_pieceAt_33 rfl hl (by decide) rfl (fun ls hl => ?_)
      have cut34 : ∀ (n34 : Nat), ∀ (k : Nat) (acc : Int32), (k ≤ 4) → (acc = qPA q7 sq k) → (5 - k ≤ n34) → ∀ (H : Heap) (locs : List Loc) (ls : Array Slot), zh g A (oQ h (q0, q1, q2, q3, q4, q5, q6, q7, q8, q9, q10)) s.heap H locs → lv_has ls 4 [(3, .int (nI k)), (2, .int acc), (0, .ref h), (1, .int sq)] → W p l e { frames := 30, cells := 1, slots := 6, locals := 1000 } s m ([.ref h, .int sq] : List Value).toArray below meth c H locs 0 0 (vx_MQ below ((zQi g (P_X0_pieceAt q0 q1 q2 q3 q4 q5 q6 q7 q8 q9 q10 sq) (oQ h)) A) (zXC g (PX_X0_pieceAt q0 q1 q2 q3 q4 q5 q6 q7 q8 q9 q10 sq) (oQ h (q0, q1, q2, q3, q4, q5, q6, q7, q8, q9, q10)) A) ([.ref h, .int sq] : List Value).toArray s 1 6 A) (F0 m 34 ls []) := by
        intro n34
        induction n34 with
        | zero =>
          intro k acc hk hacc hm34
          exact absurd hm34 (by omega)
        | succ n34 ih34 =>
          intro k acc hk hacc hm34 H locs ls X hl
          refine lv_iload_n hx hb dX0_pieceAt_34 rfl (lv_at hl 0 rfl) ?_
          refine lv_iconst (v := (4 : Int32)) hx hb dX0_pieceAt_35 (by decide) ?_
          refine lv_icmp_ge (tgt := 66) hx hb dX0_pieceAt_36 (by decide) (fun c5 => ?_) (fun c5 => ?_)
          · have qc5 := c5
            have c5n : 4 ≤ k := zn_let (by omega) (by omega) c5
            refine lv_iload_n hx hb dX0_pieceAt_66 rfl (lv_at hl 1 rfl) ?_
            exact vx_ret (W.widen (k := 1) (n := 6) (Nat.zero_le _) (Nat.zero_le _) (zreti Z hr hlk (q0, q1, q2, q3, q4, q5, q6, q7, q8, q9, q10) X dX0_pieceAt_67 rfl (⟨hn, rfl, by rw [hacc, show k = 4 by omega]; simp only [qAt, hh, decide_true, decide_false, Bool.and_true, Bool.and_false, Bool.true_and, Bool.false_and, not_true_eq_false, not_false_eq_true, Bool.not_true, Bool.not_false, if_true, if_false, and_true, true_and, and_false, false_and, Bool.false_eq_true, Bool.true_eq_false, eq_self]⟩)))
          · have qc5 := c5
            have c5n : ¬ 4 ≤ k := zn_len (by omega) (by omega) c5
            refine lv_aload_n hx hb dX0_pieceAt_39 rfl (lv_at hl 2 rfl) ?_
            refine zget (fs := [.int q0, .int q1, .int q2, .int q3, .int q4, .int q5, .int q6, .long q7, .int q8, .int q9, .long q10]) (v := .long q7) Z hin X (ci := 0) (C := RX0) (T := TX0) (N := 11) rfl rfl 7 (by decide) lk_X0_pieceAt_38 rfl dX0_pieceAt_40 ?_
            refine lv_iload_n hx hb dX0_pieceAt_43 rfl (lv_at hl 0 rfl) ?_
            refine zcallSi (n := 2) (As := [.long q7, .int (nI k)]) (rest := []) Z X (c_X0_withOne l g q7 (nI k)) gX0_pieceAt_X0_withOne rfl (by decide +kernel) ⟨by show _ ≤ 30; omega, by show _ ≤ 1000; omega⟩ rfl rfl hl.1 (Nat.le_of_ble_eq_true rfl) dX0_pieceAt_44 ⟨Nat.zero_le _, Nat.zero_le _⟩ (fun r5 H locs hrr5 X => ?_)
            obtain rfl : r5 = qOne q7 (nI k) := hrr5
            refine lv_iload_n hx hb dX0_pieceAt_47 rfl (lv_at hl 3 rfl) ?_
            refine zcallSi (n := 2) (As := [.int (qOne q7 (nI k)), .int sq]) (rest := []) Z X (c_X0_has l g (qOne q7 (nI k)) sq) gX0_pieceAt_X0_has rfl (by decide +kernel) ⟨by show _ ≤ 30; omega, by show _ ≤ 1000; omega⟩ rfl rfl hl.1 (Nat.le_of_ble_eq_true rfl) dX0_pieceAt_48 ⟨Nat.zero_le _, Nat.zero_le _⟩ (fun r6 H locs hrr6 X => ?_)
            obtain rfl : r6 = zb (qHas (qOne q7 (nI k)) sq) := hrr6
            refine lv_if_eq (tgt := 60) hx hb dX0_pieceAt_51 (by decide) (fun c8 => ?_) (fun c8 => ?_)
            · have qc8 := c8
              have hb1 : qHas (qOne q7 (nI k)) sq = false := zb_0.mp c8
              refine lv_iinc (v := nI (k + 1)) (lv' := [(3, .int (nI (k + 1))), (2, .int acc), (0, .ref h), (1, .int sq)]) hx hb dX0_pieceAt_60 hl (k := 0) rfl (zi_inc k) (by decide) rfl (fun ls hl => ?_)
              refine lv_goto (tgt := 34) hx hb dX0_pieceAt_63 (by decide) ?_
              exact ih34 (k + 1) acc (by first | assumption | omega) (by rw [hacc]; simp only [qPA, qBit, hb1, decide_true, decide_false, Bool.and_true, Bool.and_false, Bool.true_and, Bool.false_and, not_true_eq_false, not_false_eq_true, Bool.not_true, Bool.not_false, if_true, if_false, and_true, true_and, and_false, false_and, Bool.false_eq_true, Bool.true_eq_false, eq_self]) (by omega) H locs ls X (lv_sub hl [0, 1, 2, 3] rfl)
            · have qc8 := c8
              have hb1 : qHas (qOne q7 (nI k)) sq = true := zb_n0.mp c8
              refine lv_iload_n hx hb dX0_pieceAt_54 rfl (lv_at hl 1 rfl) ?_
              refine lv_iconst (v := (1 : Int32)) hx hb dX0_pieceAt_55 (by decide) ?_
              refine lv_iload_n hx hb dX0_pieceAt_56 rfl (lv_at hl 0 rfl) ?_
              refine lv_ishl hx hb dX0_pieceAt_57 ?_
              refine lv_ior hx hb dX0_pieceAt_58 ?_
              refine lv_topi (fun x9 ex9 => ?_)
              refine lv_istore_n (lv' := [(2, .int x9), (3, .int (nI k)), (0, .ref h), (1, .int sq)]) hx hb dX0_pieceAt_59 rfl hl (by decide) rfl (fun ls hl => ?_)
              refine lv_iinc (v := nI (k + 1)) (lv' := [(3, .int (nI (k + 1))), (2, .int x9), (0, .ref h), (1, .int sq)]) hx hb dX0_pieceAt_60 hl (k := 1) rfl (zi_inc k) (by decide) rfl (fun ls hl => ?_)
              refine lv_goto (tgt := 34) hx hb dX0_pieceAt_63 (by decide) ?_
              exact ih34 (k + 1) x9 (by first | assumption | omega) (by subst ex9; rw [hacc]; simp only [qPA, qBit, hb1, decide_true, decide_false, Bool.and_true, Bool.and_false, Bool.true_and, Bool.false_and, not_true_eq_false, not_false_eq_true, Bool.not_true, Bool.not_false, if_true, if_false, and_true, true_and, and_false, false_and, Bool.false_eq_true, Bool.true_eq_false, eq_self]) (by omega) H locs ls X (lv_sub hl [0, 1, 2, 3] rfl)
      exact cut34 5 0 0 (by first | assumption | omega) (rfl) (by omega) H locs ls X (lv_sub hl [0, 1, 2, 3] rfl)
    · have qc4 := c4
      have hh : qHas q5 sq = false := zb_0.mp c4
      refine lv_iconst (v := (-1 : Int32)) hx hb dX0_pieceAt_28 (by decide) ?_
      exact vx_ret (W.widen (k := 1) (n := 6) (Nat.zero_le _) (Nat.zero_le _) (zreti Z hr hlk (q0, q1, q2, q3, q4, q5, q6, q7, q8, q9, q10) X dX0_pieceAt_29 rfl (⟨hn, rfl, by simp only [qAt, hh, decide_true, decide_false, Bool.and_true, Bool.and_false, Bool.true_and, Bool.false_and, not_true_eq_false, not_false_eq_true, Bool.not_true, Bool.not_false, if_true, if_false, and_true, true_and, and_false, false_and, Bool.false_eq_true, Bool.true_eq_false, eq_self]⟩)))
  · have qc2 := c2
    have hn : qNum sq = false := zb_0.mp c2
    exact zthrow (is := 64) (text := "no such square") Z htr ht hlk X hl.1 (by decide +kernel) th_X0_pieceAt_46 ti_X0_pieceAt_46 (by decide +kernel) ta_X0_pieceAt_46 zB_50 zG_50 dX0_pieceAt_7 dX0_pieceAt_10 dX0_pieceAt_11 dX0_pieceAt_13 dX0_pieceAt_16 (Nat.le_of_ble_eq_true rfl) (Nat.le_of_ble_eq_true rfl) (Nat.le_refl _) (Nat.le_refl _) (⟨rfl, hn⟩)
theorem inw_X0_onLine : ∀ w ∈ wsX00, w ∈ wsX0_onLine := by decide +kernel
theorem lk_X0_onLine_83 : Cond.fieldLink RX0 83 "Quarterboard" "LINES" "[I" ∈ wsX0_onLine := by decide +kernel
theorem lk_X0_onLine_16 : Cond.fieldLink RX0 16 "Quarterboard" "filled" "I" ∈ wsX0_onLine := by decide +kernel
theorem th_X0_onLine_46 : Cond.classLink "Quarterboard" 46 eIO ∈ wsX0_onLine := by decide +kernel
theorem ti_X0_onLine_46 : Cond.initialized eIO ∈ wsX0_onLine := by decide +kernel
theorem ta_X0_onLine_46 : ∀ w ∈ (vx_atS "Quarterboard" 50 eIO zNm).filter goodWord, w ∈ wsX0_onLine := by decide +kernel
def P_X0_onLine (q0 q1 q2 q3 q4 q5 q6 : Int32) (q7 : Int64) (q8 q9 : Int32) (q10 : Int64) (ln : Int32) : Int32 → QS → Prop := fun r u => (¬ ln < 0 ∧ ¬ nI (qLn q0) ≤ ln) ∧ u = (q0, q1, q2, q3, q4, q5, q6, q7, q8, q9, q10) ∧ r = qBc (LM (ln.toNatClampNeg) &&& q5)
def PX_X0_onLine (q0 q1 q2 q3 q4 q5 q6 : Int32) (q7 : Int64) (q8 q9 : Int32) (q10 : Int64) (ln : Int32) : String → Prop := fun E => E = eIO ∧ (ln < 0 ∨ nI (qLn q0) ≤ ln)
set_option maxHeartbeats 4000000 in
set_option maxRecDepth 100000 in
theorem c_X0_onLine (l : Launch) (g : zG) (bL h : Nat) (q0 q1 q2 q3 q4 q5 q6 : Int32) (q7 : Int64) (q8 q9 : Int32) (q10 : Int64) (ln : Int32) (htr : l.stackTraces = false)  : zMX l yX0_onLine wsX0_onLine 30 1000 g [.ref h, .int ln] (oQ h (q0, q1, q2, q3, q4, q5, q6, q7, q8, q9, q10)) (zEL bL) (zQi g (P_X0_onLine q0 q1 q2 q3 q4 q5 q6 q7 q8 q9 q10 ln) (oQ h)) (PX_X0_onLine q0 q1 q2 q3 q4 q5 q6 q7 q8 q9 q10 ln) := by
  refine zstartX (cc := cX0_onLine) (maxL := 2) (ret := (some .int)) (own := RX0) rfl (by decide) rfl zStL (Nat.le_of_ble_eq_true rfl) ?_
  intro p e s m below meth c A Z hr hlk ht H locs X ls hl
  have hx := Z.1.1
  have hb := Z.1.2.1
  have hin : ∀ w ∈ wsX00, w ∈ wsX0_onLine := inw_X0_onLine
  have hl : lv_has ls 2 [(0, .ref h), (1, .int ln)] := hl
  have X : zh g A (oQ h (q0, q1, q2, q3, q4, q5, q6, q7, q8, q9, q10)) s.heap H locs := X
  have hln := qLn_le q0
  refine lv_iload_n hx hb dX0_onLine_0 rfl (lv_at hl 1 rfl) ?_
  refine lv_if_lt (tgt := 12) hx hb dX0_onLine_1 (by decide) (fun c1 => ?_) (fun c1 => ?_)
  · have qc1 := c1
    have h0 : ln < 0 := c1
    exact zthrow (is := 90) (text := "no such line") Z htr ht hlk X hl.1 (by decide +kernel) th_X0_onLine_46 ti_X0_onLine_46 (by decide +kernel) ta_X0_onLine_46 zB_50 zG_50 dX0_onLine_12 dX0_onLine_15 dX0_onLine_16 dX0_onLine_18 dX0_onLine_21 (Nat.le_of_ble_eq_true rfl) (Nat.le_of_ble_eq_true rfl) (Nat.le_refl _) (Nat.le_refl _) (⟨rfl, by first | exact Or.inl h0 | exact Or.inr h1⟩)
  · have qc1 := c1
    have h0 : ¬ ln < 0 := c1
    refine lv_iload_n hx hb dX0_onLine_4 rfl (lv_at hl 1 rfl) ?_
    refine lv_aload_n hx hb dX0_onLine_5 rfl (lv_at hl 0 rfl) ?_
    refine zcallVi (n := 0) (As := []) (rest := [.int ln]) (ci := 0) (C := RX0) (T := TX0) (N := 11) Z X (c_X0_lines l g bL h q0 q1 q2 q3 q4 q5 q6 q7 q8 q9 q10 ) gX0_onLine_X0_lines rfl (by decide +kernel) ⟨by show _ ≤ 30; omega, by show _ ≤ 1000; omega⟩ rfl rfl rfl rfl hl.1 (Nat.le_of_ble_eq_true rfl) dX0_onLine_6 ⟨Nat.zero_le _, Nat.zero_le _⟩ (fun r1 ur1 H locs hrr1 X => ?_)
    obtain ⟨rfl, rfl⟩ : ur1 = (q0, q1, q2, q3, q4, q5, q6, q7, q8, q9, q10) ∧ r1 = nI (qLn q0) := hrr1
    have X : zh g A (oQ h (q0, q1, q2, q3, q4, q5, q6, q7, q8, q9, q10)) s.heap H locs := X
    refine lv_icmp_lt (tgt := 22) hx hb dX0_onLine_9 (by decide) (fun c3 => ?_) (fun c3 => ?_)
    · have qc3 := c3
      have h1 : ¬ nI (qLn q0) ≤ ln := Int32.not_le.mpr c3
      have hl1 := zclamp h0
      have hl2 := zclamp_lt h0 (by omega) h1
      refine va_gets hx hb Z.2.2.2.1.1 X.2.2 Z.1.2.2.2.1 (Z.1.2.2.2.2 _ lk_X0_onLine_83) (fun _ h => h) dX0_onLine_22 ?_
      refine lv_iload_n hx hb dX0_onLine_25 rfl (lv_at hl 1 rfl) ?_
      refine zlld Z X (ln.toNatClampNeg) hl1 (by omega) dX0_onLine_26 ?_
      refine lv_aload_n hx hb dX0_onLine_27 rfl (lv_at hl 0 rfl) ?_
      refine zget (fs := [.int q0, .int q1, .int q2, .int q3, .int q4, .int q5, .int q6, .long q7, .int q8, .int q9, .long q10]) (v := .int q5) Z hin X (ci := 0) (C := RX0) (T := TX0) (N := 11) rfl rfl 5 (by decide) lk_X0_onLine_16 rfl dX0_onLine_28 ?_
      refine lv_iand hx hb dX0_onLine_31 ?_
      refine zcallSi (n := 1) (As := [.int ((LM (ln.toNatClampNeg)) &&& q5)]) (rest := []) Z X (c_J6_bitCount_0f7a4 l g ((LM (ln.toNatClampNeg)) &&& q5)) gX0_onLine_J6_bitCount_0f7a4 rfl (by decide +kernel) ⟨by show _ ≤ 30; omega, by show _ ≤ 1000; omega⟩ rfl rfl hl.1 (Nat.le_of_ble_eq_true rfl) dX0_onLine_32 ⟨Nat.zero_le _, Nat.zero_le _⟩ (fun r3 H locs hrr3 X => ?_)
      obtain rfl : r3 = qBc ((LM (ln.toNatClampNeg)) &&& q5) := hrr3
      exact vx_ret (W.widen (k := 1) (n := 6) (Nat.zero_le _) (Nat.zero_le _) (zreti Z hr hlk (q0, q1, q2, q3, q4, q5, q6, q7, q8, q9, q10) X dX0_onLine_35 rfl (⟨⟨h0, h1⟩, rfl, rfl⟩)))
    · have qc3 := c3
      have h1 : nI (qLn q0) ≤ ln := Int32.not_lt.mp c3
      exact zthrow (is := 90) (text := "no such line") Z htr ht hlk X hl.1 (by decide +kernel) th_X0_onLine_46 ti_X0_onLine_46 (by decide +kernel) ta_X0_onLine_46 zB_50 zG_50 dX0_onLine_12 dX0_onLine_15 dX0_onLine_16 dX0_onLine_18 dX0_onLine_21 (Nat.le_of_ble_eq_true rfl) (Nat.le_of_ble_eq_true rfl) (Nat.le_refl _) (Nat.le_refl _) (⟨rfl, by first | exact Or.inl h0 | exact Or.inr h1⟩)
theorem inw_X0_shared : ∀ w ∈ wsX00, w ∈ wsX0_shared := by decide +kernel
theorem lk_X0_shared_83 : Cond.fieldLink RX0 83 "Quarterboard" "LINES" "[I" ∈ wsX0_shared := by decide +kernel
theorem th_X0_shared_46 : Cond.classLink "Quarterboard" 46 eIO ∈ wsX0_shared := by decide +kernel
theorem ti_X0_shared_46 : Cond.initialized eIO ∈ wsX0_shared := by decide +kernel
theorem ta_X0_shared_46 : ∀ w ∈ (vx_atS "Quarterboard" 50 eIO zNm).filter goodWord, w ∈ wsX0_shared := by decide +kernel
def P_X0_shared (q0 q1 q2 q3 q4 q5 q6 : Int32) (q7 : Int64) (q8 q9 : Int32) (q10 : Int64) (ln : Int32) : Int32 → QS → Prop := fun r u => (¬ ln < 0 ∧ ¬ nI (qLn q0) ≤ ln) ∧ u = (q0, q1, q2, q3, q4, q5, q6, q7, q8, q9, q10) ∧ r = qIn q5 q7 (LM (ln.toNatClampNeg))
def PX_X0_shared (q0 q1 q2 q3 q4 q5 q6 : Int32) (q7 : Int64) (q8 q9 : Int32) (q10 : Int64) (ln : Int32) : String → Prop := fun E => E = eIO ∧ (ln < 0 ∨ nI (qLn q0) ≤ ln)
set_option maxHeartbeats 4000000 in
set_option maxRecDepth 100000 in
theorem c_X0_shared (l : Launch) (g : zG) (bL h : Nat) (q0 q1 q2 q3 q4 q5 q6 : Int32) (q7 : Int64) (q8 q9 : Int32) (q10 : Int64) (ln : Int32) (htr : l.stackTraces = false)  : zMX l yX0_shared wsX0_shared 30 1000 g [.ref h, .int ln] (oQ h (q0, q1, q2, q3, q4, q5, q6, q7, q8, q9, q10)) (zEL bL) (zQi g (P_X0_shared q0 q1 q2 q3 q4 q5 q6 q7 q8 q9 q10 ln) (oQ h)) (PX_X0_shared q0 q1 q2 q3 q4 q5 q6 q7 q8 q9 q10 ln) := by
  refine zstartX (cc := cX0_shared) (maxL := 2) (ret := (some .int)) (own := RX0) rfl (by decide) rfl zStL (Nat.le_of_ble_eq_true rfl) ?_
  intro p e s m below meth c A Z hr hlk ht H locs X ls hl
  have hx := Z.1.1
  have hb := Z.1.2.1
  have hin : ∀ w ∈ wsX00, w ∈ wsX0_shared := inw_X0_shared
  have hl : lv_has ls 2 [(0, .ref h), (1, .int ln)] := hl
  have X : zh g A (oQ h (q0, q1, q2, q3, q4, q5, q6, q7, q8, q9, q10)) s.heap H locs := X
  have hln := qLn_le q0
  refine lv_iload_n hx hb dX0_shared_0 rfl (lv_at hl 1 rfl) ?_
  refine lv_if_lt (tgt := 12) hx hb dX0_shared_1 (by decide) (fun c1 => ?_) (fun c1 => ?_)
  · have qc1 := c1
    have h0 : ln < 0 := c1
    exact zthrow (is := 90) (text := "no such line") Z htr ht hlk X hl.1 (by decide +kernel) th_X0_shared_46 ti_X0_shared_46 (by decide +kernel) ta_X0_shared_46 zB_50 zG_50 dX0_shared_12 dX0_shared_15 dX0_shared_16 dX0_shared_18 dX0_shared_21 (Nat.le_of_ble_eq_true rfl) (Nat.le_of_ble_eq_true rfl) (Nat.le_refl _) (Nat.le_refl _) (⟨rfl, by first | exact Or.inl h0 | exact Or.inr h1⟩)
  · have qc1 := c1
    have h0 : ¬ ln < 0 := c1
    refine lv_iload_n hx hb dX0_shared_4 rfl (lv_at hl 1 rfl) ?_
    refine lv_aload_n hx hb dX0_shared_5 rfl (lv_at hl 0 rfl) ?_
    refine zcallVi (n := 0) (As := []) (rest := [.int ln]) (ci := 0) (C := RX0) (T := TX0) (N := 11) Z X (c_X0_lines l g bL h q0 q1 q2 q3 q4 q5 q6 q7 q8 q9 q10 ) gX0_shared_X0_lines rfl (by decide +kernel) ⟨by show _ ≤ 30; omega, by show _ ≤ 1000; omega⟩ rfl rfl rfl rfl hl.1 (Nat.le_of_ble_eq_true rfl) dX0_shared_6 ⟨Nat.zero_le _, Nat.zero_le _⟩ (fun r1 ur1 H locs hrr1 X => ?_)
    obtain ⟨rfl, rfl⟩ : ur1 = (q0, q1, q2, q3, q4, q5, q6, q7, q8, q9, q10) ∧ r1 = nI (qLn q0) := hrr1
    have X : zh g A (oQ h (q0, q1, q2, q3, q4, q5, q6, q7, q8, q9, q10)) s.heap H locs := X
    refine lv_icmp_lt (tgt := 22) hx hb dX0_shared_9 (by decide) (fun c3 => ?_) (fun c3 => ?_)
    · have qc3 := c3
      have h1 : ¬ nI (qLn q0) ≤ ln := Int32.not_le.mpr c3
      have hl1 := zclamp h0
      have hl2 := zclamp_lt h0 (by omega) h1
      refine lv_aload_n hx hb dX0_shared_22 rfl (lv_at hl 0 rfl) ?_
      refine va_gets hx hb Z.2.2.2.1.1 X.2.2 Z.1.2.2.2.1 (Z.1.2.2.2.2 _ lk_X0_shared_83) (fun _ h => h) dX0_shared_23 ?_
      refine lv_iload_n hx hb dX0_shared_26 rfl (lv_at hl 1 rfl) ?_
      refine zlld Z X (ln.toNatClampNeg) hl1 (by omega) dX0_shared_27 ?_
      refine zcallVi (n := 1) (As := [.int (LM (ln.toNatClampNeg))]) (rest := []) (ci := 0) (C := RX0) (T := TX0) (N := 11) Z X (c_X0_inCommon l g bL h q0 q1 q2 q3 q4 q5 q6 q7 q8 q9 q10 (LM (ln.toNatClampNeg))) gX0_shared_X0_inCommon rfl (by decide +kernel) ⟨by show _ ≤ 30; omega, by show _ ≤ 1000; omega⟩ rfl rfl rfl rfl hl.1 (Nat.le_of_ble_eq_true rfl) dX0_shared_28 ⟨Nat.zero_le _, Nat.zero_le _⟩ (fun r3 ur3 H locs hrr3 X => ?_)
      obtain ⟨rfl, rfl⟩ : ur3 = (q0, q1, q2, q3, q4, q5, q6, q7, q8, q9, q10) ∧ r3 = qIn q5 q7 (LM (ln.toNatClampNeg)) := hrr3
      have X : zh g A (oQ h (q0, q1, q2, q3, q4, q5, q6, q7, q8, q9, q10)) s.heap H locs := X
      exact vx_ret (W.widen (k := 1) (n := 6) (Nat.zero_le _) (Nat.zero_le _) (zreti Z hr hlk (q0, q1, q2, q3, q4, q5, q6, q7, q8, q9, q10) X dX0_shared_31 rfl (⟨⟨h0, h1⟩, rfl, rfl⟩)))
    · have qc3 := c3
      have h1 : nI (qLn q0) ≤ ln := Int32.not_lt.mp c3
      exact zthrow (is := 90) (text := "no such line") Z htr ht hlk X hl.1 (by decide +kernel) th_X0_shared_46 ti_X0_shared_46 (by decide +kernel) ta_X0_shared_46 zB_50 zG_50 dX0_shared_12 dX0_shared_15 dX0_shared_16 dX0_shared_18 dX0_shared_21 (Nat.le_of_ble_eq_true rfl) (Nat.le_of_ble_eq_true rfl) (Nat.le_refl _) (Nat.le_refl _) (⟨rfl, by first | exact Or.inl h0 | exact Or.inr h1⟩)
theorem inw_X0_worth : ∀ w ∈ wsX00, w ∈ wsX0_worth := by decide +kernel
theorem lk_X0_worth_29 : Cond.fieldLink RX0 29 "Quarterboard" "stage" "I" ∈ wsX0_worth := by decide +kernel
theorem lk_X0_worth_9 : Cond.fieldLink RX0 9 "Quarterboard" "held" "I" ∈ wsX0_worth := by decide +kernel
theorem th_X0_worth_103 : Cond.classLink "Quarterboard" 103 eIA ∈ wsX0_worth := by decide +kernel
theorem ti_X0_worth_103 : Cond.initialized eIA ∈ wsX0_worth := by decide +kernel
theorem ta_X0_worth_103 : ∀ w ∈ (vx_atS "Quarterboard" 107 eIA zNm).filter goodWord, w ∈ wsX0_worth := by decide +kernel
theorem th_X0_worth_53 : Cond.classLink "Quarterboard" 53 eIS ∈ wsX0_worth := by decide +kernel
theorem ti_X0_worth_53 : Cond.initialized eIS ∈ wsX0_worth := by decide +kernel
theorem ta_X0_worth_53 : ∀ w ∈ (vx_atS "Quarterboard" 57 eIS zNm).filter goodWord, w ∈ wsX0_worth := by decide +kernel
def P_X0_worth (q0 q1 q2 q3 q4 q5 q6 : Int32) (q7 : Int64) (q8 q9 : Int32) (q10 : Int64) (np : Int32) (hp : Nat) : Int32 → QS → Prop := fun r u => ((¬ np < 1 ∧ np ≤ 4) ∧ qCan q5 q1 np = true) ∧ u = (q0, q1, q2, q3, q4, q5, q6, q7, q8, q9, q10) ∧ r = (if q1 = 0 then qWG q0 (np.toNatClampNeg) q5 q6 q7 else qWP q0 (np.toNatClampNeg) q5 q6 q7 hp)
def PX_X0_worth (q0 q1 q2 q3 q4 q5 q6 : Int32) (q7 : Int64) (q8 q9 : Int32) (q10 : Int64) (np : Int32) (hp : Nat) : String → Prop := fun E => (E = eIA ∧ (np < 1 ∨ ¬ np ≤ 4)) ∨ (E = eIS ∧ (¬ np < 1 ∧ np ≤ 4) ∧ qCan q5 q1 np = false)
set_option maxHeartbeats 4000000 in
set_option maxRecDepth 100000 in
theorem c_X0_worth (l : Launch) (g : zG) (bL h : Nat) (q0 q1 q2 q3 q4 q5 q6 : Int32) (q7 : Int64) (q8 q9 : Int32) (q10 : Int64) (np : Int32) (htr : l.stackTraces = false) (hp : Nat) (hinv : qInv q5 q7) (hq1 : q1 = 0 ∨ q1 = 1 ∨ q1 = 2) (hq3 : q1 = 1 → q3 = nI hp ∧ hp < 16 ∧ qHas q6 (nI hp) = false) : zMX l yX0_worth wsX0_worth 30 1000 g [.ref h, .int np] (oQ h (q0, q1, q2, q3, q4, q5, q6, q7, q8, q9, q10)) (zEL bL) (zQi g (P_X0_worth q0 q1 q2 q3 q4 q5 q6 q7 q8 q9 q10 np hp) (oQ h)) (PX_X0_worth q0 q1 q2 q3 q4 q5 q6 q7 q8 q9 q10 np hp) := by
  refine zstartX (cc := cX0_worth) (maxL := 2) (ret := (some .int)) (own := RX0) rfl (by decide) rfl zStL (Nat.le_of_ble_eq_true rfl) ?_
  intro p e s m below meth c A Z hr hlk ht H locs X ls hl
  have hx := Z.1.1
  have hb := Z.1.2.1
  have hin : ∀ w ∈ wsX00, w ∈ wsX0_worth := inw_X0_worth
  have hl : lv_has ls 2 [(0, .ref h), (1, .int np)] := hl
  have X : zh g A (oQ h (q0, q1, q2, q3, q4, q5, q6, q7, q8, q9, q10)) s.heap H locs := X
  refine lv_iload_n hx hb dX0_worth_0 rfl (lv_at hl 1 rfl) ?_
  refine lv_iconst (v := (1 : Int32)) hx hb dX0_worth_1 (by decide) ?_
  refine lv_icmp_lt (tgt := 10) hx hb dX0_worth_2 (by decide) (fun c1 => ?_) (fun c1 => ?_)
  · have qc1 := c1
    have ha : np < 1 := c1
    exact zthrow (is := 105) (text := "placings is out of range") Z htr ht hlk X hl.1 (by decide +kernel) th_X0_worth_103 ti_X0_worth_103 (by decide +kernel) ta_X0_worth_103 zB_107 zG_107 dX0_worth_10 dX0_worth_13 dX0_worth_14 dX0_worth_16 dX0_worth_19 (Nat.le_of_ble_eq_true rfl) (Nat.le_of_ble_eq_true rfl) (Nat.le_refl _) (Nat.le_refl _) (Or.inl ⟨rfl, by first | exact Or.inl ha | exact Or.inr hb4⟩)
  · have qc1 := c1
    have ha : ¬ np < 1 := c1
    refine lv_iload_n hx hb dX0_worth_5 rfl (lv_at hl 1 rfl) ?_
    refine lv_iconst (v := (4 : Int32)) hx hb dX0_worth_6 (by decide) ?_
    refine lv_icmp_le (tgt := 20) hx hb dX0_worth_7 (by decide) (fun c2 => ?_) (fun c2 => ?_)
    · have qc2 := c2
      have hb4 : np ≤ 4 := c2
      obtain ⟨hnp, hn1, hn4⟩ := zplac ha hb4
      refine lv_aload_n hx hb dX0_worth_20 rfl (lv_at hl 0 rfl) ?_
      refine lv_iload_n hx hb dX0_worth_21 rfl (lv_at hl 1 rfl) ?_
      refine zcallVi (n := 1) (As := [.int np]) (rest := []) (ci := 0) (C := RX0) (T := TX0) (N := 11) Z X (c_X0_canLookAhead l g bL h q0 q1 q2 q3 q4 q5 q6 q7 q8 q9 q10 np) gX0_worth_X0_canLookAhead rfl (by decide +kernel) ⟨by show _ ≤ 30; omega, by show _ ≤ 1000; omega⟩ rfl rfl rfl rfl hl.1 (Nat.le_of_ble_eq_true rfl) dX0_worth_22 ⟨Nat.zero_le _, Nat.zero_le _⟩ (fun r2 ur2 H locs hrr2 X => ?_)
      obtain ⟨rfl, rfl⟩ : ur2 = (q0, q1, q2, q3, q4, q5, q6, q7, q8, q9, q10) ∧ r2 = zb (qCan q5 q1 np) := hrr2
      have X : zh g A (oQ h (q0, q1, q2, q3, q4, q5, q6, q7, q8, q9, q10)) s.heap H locs := X
      refine lv_if_ne (tgt := 38) hx hb dX0_worth_25 (by decide) (fun c4 => ?_) (fun c4 => ?_)
      · have qc4 := c4
        have hcan : qCan q5 q1 np = true := zb_n0.mp c4
        refine lv_aload_n hx hb dX0_worth_38 rfl (lv_at hl 0 rfl) ?_
        refine zget (fs := [.int q0, .int q1, .int q2, .int q3, .int q4, .int q5, .int q6, .long q7, .int q8, .int q9, .long q10]) (v := .int q1) Z hin X (ci := 0) (C := RX0) (T := TX0) (N := 11) rfl rfl 1 (by decide) lk_X0_worth_29 rfl dX0_worth_39 ?_
        refine lv_if_ne (tgt := 53) hx hb dX0_worth_42 (by decide) (fun c5 => ?_) (fun c5 => ?_)
        · have qc5 := c5
          have hz : ¬ q1 = 0 := c5
          obtain ⟨hh1, hh2, hh3⟩ := hq3 (by rcases hq1 with h | h | h; exact absurd h hz; exact h; exact absurd hcan (by rw [h]; unfold qCan; simp))
          refine lv_aload_n hx hb dX0_worth_53 rfl (lv_at hl 0 rfl) ?_
          refine lv_aload_n hx hb dX0_worth_54 rfl (lv_at hl 0 rfl) ?_
          refine zget (fs := [.int q0, .int q1, .int q2, .int q3, .int q4, .int q5, .int q6, .long q7, .int q8, .int q9, .long q10]) (v := .int q3) Z hin X (ci := 0) (C := RX0) (T := TX0) (N := 11) rfl rfl 3 (by decide) lk_X0_worth_9 rfl dX0_worth_55 ?_
          refine zrwi (y := nI hp) (hh1) ?_
          refine lv_iload_n hx hb dX0_worth_58 rfl (lv_at hl 1 rfl) ?_
          refine zrwi (y := nI (np.toNatClampNeg)) (hnp) ?_
          refine zcallVi (n := 2) (As := [.int (nI hp), .int (nI (np.toNatClampNeg))]) (rest := []) (ci := 0) (C := RX0) (T := TX0) (N := 11) Z X (c_X0_worthToPlace l g bL h q0 q1 q2 q3 q4 q5 q6 q7 q8 q9 q10 (np.toNatClampNeg) hp (by omega) hh2 hh3 hinv) gX0_worth_X0_worthToPlace rfl (by decide +kernel) ⟨by show _ ≤ 30; omega, by show _ ≤ 1000; omega⟩ rfl rfl rfl rfl hl.1 (Nat.le_of_ble_eq_true rfl) dX0_worth_59 ⟨Nat.zero_le _, Nat.zero_le _⟩ (fun r5 ur5 H locs hrr5 X => ?_)
          obtain ⟨rfl, rfl⟩ : ur5 = (q0, q1, q2, q3, q4, q5, q6, q7, q8, q9, q10) ∧ r5 = qWP q0 (np.toNatClampNeg) q5 q6 q7 hp := hrr5
          have X : zh g A (oQ h (q0, q1, q2, q3, q4, q5, q6, q7, q8, q9, q10)) s.heap H locs := X
          exact vx_ret (W.widen (k := 1) (n := 6) (Nat.zero_le _) (Nat.zero_le _) (zreti Z hr hlk (q0, q1, q2, q3, q4, q5, q6, q7, q8, q9, q10) X dX0_worth_62 rfl (⟨⟨⟨ha, hb4⟩, hcan⟩, rfl, by simp only [hz, if_true, if_false]⟩)))
        · have qc5 := c5
          have hz : q1 = 0 := c5
          refine lv_aload_n hx hb dX0_worth_45 rfl (lv_at hl 0 rfl) ?_
          refine lv_iload_n hx hb dX0_worth_46 rfl (lv_at hl 1 rfl) ?_
          refine zrwi (y := nI (np.toNatClampNeg)) (hnp) ?_
          refine zcallVi (n := 1) (As := [.int (nI (np.toNatClampNeg))]) (rest := []) (ci := 0) (C := RX0) (T := TX0) (N := 11) Z X (c_X0_worthToGive l g bL h q0 q1 q2 q3 q4 q5 q6 q7 q8 q9 q10 (np.toNatClampNeg) (by omega) hinv) gX0_worth_X0_worthToGive rfl (by decide +kernel) ⟨by show _ ≤ 30; omega, by show _ ≤ 1000; omega⟩ rfl rfl rfl rfl hl.1 (Nat.le_of_ble_eq_true rfl) dX0_worth_47 ⟨Nat.zero_le _, Nat.zero_le _⟩ (fun r6 ur6 H locs hrr6 X => ?_)
          obtain ⟨rfl, rfl⟩ : ur6 = (q0, q1, q2, q3, q4, q5, q6, q7, q8, q9, q10) ∧ r6 = qWG q0 (np.toNatClampNeg) q5 q6 q7 := hrr6
          have X : zh g A (oQ h (q0, q1, q2, q3, q4, q5, q6, q7, q8, q9, q10)) s.heap H locs := X
          refine lv_goto (tgt := 62) hx hb dX0_worth_50 (by decide) ?_
          exact vx_ret (W.widen (k := 1) (n := 6) (Nat.zero_le _) (Nat.zero_le _) (zreti Z hr hlk (q0, q1, q2, q3, q4, q5, q6, q7, q8, q9, q10) X dX0_worth_62 rfl (⟨⟨⟨ha, hb4⟩, hcan⟩, rfl, by simp only [hz, if_true, if_false]⟩)))
      · have qc4 := c4
        have hcan : qCan q5 q1 np = false := zb_0.mp c4
        exact zthrow (is := 111) (text := "the game is over, or too many squares are empty") Z htr ht hlk X hl.1 (by decide +kernel) th_X0_worth_53 ti_X0_worth_53 (by decide +kernel) ta_X0_worth_53 zB_57 zG_57 dX0_worth_28 dX0_worth_31 dX0_worth_32 dX0_worth_34 dX0_worth_37 (Nat.le_of_ble_eq_true rfl) (Nat.le_of_ble_eq_true rfl) (Nat.le_refl _) (Nat.le_refl _) (Or.inr ⟨rfl, ⟨ha, hb4⟩, hcan⟩)
    · have qc2 := c2
      have hb4 : ¬ np ≤ 4 := c2
      exact zthrow (is := 105) (text := "placings is out of range") Z htr ht hlk X hl.1 (by decide +kernel) th_X0_worth_103 ti_X0_worth_103 (by decide +kernel) ta_X0_worth_103 zB_107 zG_107 dX0_worth_10 dX0_worth_13 dX0_worth_14 dX0_worth_16 dX0_worth_19 (Nat.le_of_ble_eq_true rfl) (Nat.le_of_ble_eq_true rfl) (Nat.le_refl _) (Nat.le_refl _) (Or.inl ⟨rfl, by first | exact Or.inl ha | exact Or.inr hb4⟩)
theorem inw_X0_best : ∀ w ∈ wsX00, w ∈ wsX0_best := by decide +kernel
theorem lk_X0_best_29 : Cond.fieldLink RX0 29 "Quarterboard" "stage" "I" ∈ wsX0_best := by decide +kernel
theorem th_X0_best_103 : Cond.classLink "Quarterboard" 103 eIA ∈ wsX0_best := by decide +kernel
theorem ti_X0_best_103 : Cond.initialized eIA ∈ wsX0_best := by decide +kernel
theorem ta_X0_best_103 : ∀ w ∈ (vx_atS "Quarterboard" 107 eIA zNm).filter goodWord, w ∈ wsX0_best := by decide +kernel
theorem th_X0_best_53 : Cond.classLink "Quarterboard" 53 eIS ∈ wsX0_best := by decide +kernel
theorem ti_X0_best_53 : Cond.initialized eIS ∈ wsX0_best := by decide +kernel
theorem ta_X0_best_53 : ∀ w ∈ (vx_atS "Quarterboard" 57 eIS zNm).filter goodWord, w ∈ wsX0_best := by decide +kernel
def P_X0_best (q0 q1 q2 q3 q4 q5 q6 : Int32) (q7 : Int64) (q8 q9 : Int32) (q10 : Int64) (np : Int32) (hp : Nat) : Int32 → QS → Prop := fun r u => ((¬ np < 1 ∧ np ≤ 4) ∧ qCan q5 q1 np = true) ∧ u = (q0, q1, q2, q3, q4, q5, q6, q7, q8, q9, q10) ∧ r = (if q1 = 0 then nI (qBP q0 (np.toNatClampNeg) q5 q6 q7) else nI (qBS q0 (np.toNatClampNeg) q5 q6 q7 hp))
def PX_X0_best (q0 q1 q2 q3 q4 q5 q6 : Int32) (q7 : Int64) (q8 q9 : Int32) (q10 : Int64) (np : Int32) (hp : Nat) : String → Prop := fun E => (E = eIA ∧ (np < 1 ∨ ¬ np ≤ 4)) ∨ (E = eIS ∧ (¬ np < 1 ∧ np ≤ 4) ∧ qCan q5 q1 np = false)
set_option maxHeartbeats 4000000 in
set_option maxRecDepth 100000 in
theorem c_X0_best (l : Launch) (g : zG) (bL h : Nat) (q0 q1 q2 q3 q4 q5 q6 : Int32) (q7 : Int64) (q8 q9 : Int32) (q10 : Int64) (np : Int32) (htr : l.stackTraces = false) (hp : Nat) (hinv : qInv q5 q7) (hq1 : q1 = 0 ∨ q1 = 1 ∨ q1 = 2) (hq3 : q1 = 1 → q3 = nI hp ∧ hp < 16 ∧ qHas q6 (nI hp) = false) : zMX l yX0_best wsX0_best 30 1000 g [.ref h, .int np] (oQ h (q0, q1, q2, q3, q4, q5, q6, q7, q8, q9, q10)) (zEL bL) (zQi g (P_X0_best q0 q1 q2 q3 q4 q5 q6 q7 q8 q9 q10 np hp) (oQ h)) (PX_X0_best q0 q1 q2 q3 q4 q5 q6 q7 q8 q9 q10 np hp) := by
  refine zstartX (cc := cX0_best) (maxL := 2) (ret := (some .int)) (own := RX0) rfl (by decide) rfl zStL (Nat.le_of_ble_eq_true rfl) ?_
  intro p e s m below meth c A Z hr hlk ht H locs X ls hl
  have hx := Z.1.1
  have hb := Z.1.2.1
  have hin : ∀ w ∈ wsX00, w ∈ wsX0_best := inw_X0_best
  have hl : lv_has ls 2 [(0, .ref h), (1, .int np)] := hl
  have X : zh g A (oQ h (q0, q1, q2, q3, q4, q5, q6, q7, q8, q9, q10)) s.heap H locs := X
  refine lv_iload_n hx hb dX0_best_0 rfl (lv_at hl 1 rfl) ?_
  refine lv_iconst (v := (1 : Int32)) hx hb dX0_best_1 (by decide) ?_
  refine lv_icmp_lt (tgt := 10) hx hb dX0_best_2 (by decide) (fun c1 => ?_) (fun c1 => ?_)
  · have qc1 := c1
    have ha : np < 1 := c1
    exact zthrow (is := 105) (text := "placings is out of range") Z htr ht hlk X hl.1 (by decide +kernel) th_X0_best_103 ti_X0_best_103 (by decide +kernel) ta_X0_best_103 zB_107 zG_107 dX0_best_10 dX0_best_13 dX0_best_14 dX0_best_16 dX0_best_19 (Nat.le_of_ble_eq_true rfl) (Nat.le_of_ble_eq_true rfl) (Nat.le_refl _) (Nat.le_refl _) (Or.inl ⟨rfl, by first | exact Or.inl ha | exact Or.inr hb4⟩)
  · have qc1 := c1
    have ha : ¬ np < 1 := c1
    refine lv_iload_n hx hb dX0_best_5 rfl (lv_at hl 1 rfl) ?_
    refine lv_iconst (v := (4 : Int32)) hx hb dX0_best_6 (by decide) ?_
    refine lv_icmp_le (tgt := 20) hx hb dX0_best_7 (by decide) (fun c2 => ?_) (fun c2 => ?_)
    · have qc2 := c2
      have hb4 : np ≤ 4 := c2
      obtain ⟨hnp, hn1, hn4⟩ := zplac ha hb4
      refine lv_aload_n hx hb dX0_best_20 rfl (lv_at hl 0 rfl) ?_
      refine lv_iload_n hx hb dX0_best_21 rfl (lv_at hl 1 rfl) ?_
      refine zcallVi (n := 1) (As := [.int np]) (rest := []) (ci := 0) (C := RX0) (T := TX0) (N := 11) Z X (c_X0_canLookAhead l g bL h q0 q1 q2 q3 q4 q5 q6 q7 q8 q9 q10 np) gX0_best_X0_canLookAhead rfl (by decide +kernel) ⟨by show _ ≤ 30; omega, by show _ ≤ 1000; omega⟩ rfl rfl rfl rfl hl.1 (Nat.le_of_ble_eq_true rfl) dX0_best_22 ⟨Nat.zero_le _, Nat.zero_le _⟩ (fun r2 ur2 H locs hrr2 X => ?_)
      obtain ⟨rfl, rfl⟩ : ur2 = (q0, q1, q2, q3, q4, q5, q6, q7, q8, q9, q10) ∧ r2 = zb (qCan q5 q1 np) := hrr2
      have X : zh g A (oQ h (q0, q1, q2, q3, q4, q5, q6, q7, q8, q9, q10)) s.heap H locs := X
      refine lv_if_ne (tgt := 38) hx hb dX0_best_25 (by decide) (fun c4 => ?_) (fun c4 => ?_)
      · have qc4 := c4
        have hcan : qCan q5 q1 np = true := zb_n0.mp c4
        refine lv_aload_n hx hb dX0_best_38 rfl (lv_at hl 0 rfl) ?_
        refine zget (fs := [.int q0, .int q1, .int q2, .int q3, .int q4, .int q5, .int q6, .long q7, .int q8, .int q9, .long q10]) (v := .int q1) Z hin X (ci := 0) (C := RX0) (T := TX0) (N := 11) rfl rfl 1 (by decide) lk_X0_best_29 rfl dX0_best_39 ?_
        refine lv_if_ne (tgt := 53) hx hb dX0_best_42 (by decide) (fun c5 => ?_) (fun c5 => ?_)
        · have qc5 := c5
          have hz : ¬ q1 = 0 := c5
          obtain ⟨hh1, hh2, hh3⟩ := hq3 (by rcases hq1 with h | h | h; exact absurd h hz; exact h; exact absurd hcan (by rw [h]; unfold qCan; simp))
          have X : zh g A (oQ h (q0, q1, q2, nI hp, q4, q5, q6, q7, q8, q9, q10)) s.heap H locs := by rw [← hh1]; exact X
          refine lv_aload_n hx hb dX0_best_53 rfl (lv_at hl 0 rfl) ?_
          refine lv_iload_n hx hb dX0_best_54 rfl (lv_at hl 1 rfl) ?_
          refine zrwi (y := nI (np.toNatClampNeg)) (hnp) ?_
          refine zcallVi (n := 1) (As := [.int (nI (np.toNatClampNeg))]) (rest := []) (ci := 0) (C := RX0) (T := TX0) (N := 11) Z X (c_X0_bestSquare l g bL h q0 q1 q2 hp q4 q5 q6 q7 q8 q9 q10 (np.toNatClampNeg) (by omega) (by omega) hh2 hh3 hinv) gX0_best_X0_bestSquare rfl (by decide +kernel) ⟨by show _ ≤ 30; omega, by show _ ≤ 1000; omega⟩ rfl rfl rfl rfl hl.1 (Nat.le_of_ble_eq_true rfl) dX0_best_55 ⟨Nat.zero_le _, Nat.zero_le _⟩ (fun r5 ur5 H locs hrr5 X => ?_)
          obtain ⟨rfl, rfl⟩ : ur5 = (q0, q1, q2, nI hp, q4, q5, q6, q7, q8, q9, q10) ∧ r5 = nI (qBS q0 (np.toNatClampNeg) q5 q6 q7 hp) := hrr5
          have X : zh g A (oQ h (q0, q1, q2, nI hp, q4, q5, q6, q7, q8, q9, q10)) s.heap H locs := X
          exact vx_ret (W.widen (k := 1) (n := 6) (Nat.zero_le _) (Nat.zero_le _) (zreti Z hr hlk (q0, q1, q2, nI hp, q4, q5, q6, q7, q8, q9, q10) X dX0_best_58 rfl (⟨⟨⟨ha, hb4⟩, hcan⟩, by first | rfl | rw [hh1], by simp only [hz, if_true, if_false]⟩)))
        · have qc5 := c5
          have hz : q1 = 0 := c5
          refine lv_aload_n hx hb dX0_best_45 rfl (lv_at hl 0 rfl) ?_
          refine lv_iload_n hx hb dX0_best_46 rfl (lv_at hl 1 rfl) ?_
          refine zrwi (y := nI (np.toNatClampNeg)) (hnp) ?_
          refine zcallVi (n := 1) (As := [.int (nI (np.toNatClampNeg))]) (rest := []) (ci := 0) (C := RX0) (T := TX0) (N := 11) Z X (c_X0_bestPiece l g bL h q0 q1 q2 q3 q4 q5 q6 q7 q8 q9 q10 (np.toNatClampNeg) (by omega) hinv) gX0_best_X0_bestPiece rfl (by decide +kernel) ⟨by show _ ≤ 30; omega, by show _ ≤ 1000; omega⟩ rfl rfl rfl rfl hl.1 (Nat.le_of_ble_eq_true rfl) dX0_best_47 ⟨Nat.zero_le _, Nat.zero_le _⟩ (fun r6 ur6 H locs hrr6 X => ?_)
          obtain ⟨rfl, rfl⟩ : ur6 = (q0, q1, q2, q3, q4, q5, q6, q7, q8, q9, q10) ∧ r6 = nI (qBP q0 (np.toNatClampNeg) q5 q6 q7) := hrr6
          have X : zh g A (oQ h (q0, q1, q2, q3, q4, q5, q6, q7, q8, q9, q10)) s.heap H locs := X
          refine lv_goto (tgt := 58) hx hb dX0_best_50 (by decide) ?_
          exact vx_ret (W.widen (k := 1) (n := 6) (Nat.zero_le _) (Nat.zero_le _) (zreti Z hr hlk (q0, q1, q2, q3, q4, q5, q6, q7, q8, q9, q10) X dX0_best_58 rfl (⟨⟨⟨ha, hb4⟩, hcan⟩, by first | rfl | rw [hh1], by simp only [hz, if_true, if_false]⟩)))
      · have qc4 := c4
        have hcan : qCan q5 q1 np = false := zb_0.mp c4
        exact zthrow (is := 111) (text := "the game is over, or too many squares are empty") Z htr ht hlk X hl.1 (by decide +kernel) th_X0_best_53 ti_X0_best_53 (by decide +kernel) ta_X0_best_53 zB_57 zG_57 dX0_best_28 dX0_best_31 dX0_best_32 dX0_best_34 dX0_best_37 (Nat.le_of_ble_eq_true rfl) (Nat.le_of_ble_eq_true rfl) (Nat.le_refl _) (Nat.le_refl _) (Or.inr ⟨rfl, ⟨ha, hb4⟩, hcan⟩)
    · have qc2 := c2
      have hb4 : ¬ np ≤ 4 := c2
      exact zthrow (is := 105) (text := "placings is out of range") Z htr ht hlk X hl.1 (by decide +kernel) th_X0_best_103 ti_X0_best_103 (by decide +kernel) ta_X0_best_103 zB_107 zG_107 dX0_best_10 dX0_best_13 dX0_best_14 dX0_best_16 dX0_best_19 (Nat.le_of_ble_eq_true rfl) (Nat.le_of_ble_eq_true rfl) (Nat.le_refl _) (Nat.le_refl _) (Or.inl ⟨rfl, by first | exact Or.inl ha | exact Or.inr hb4⟩)
theorem inw_X0_isAlike : ∀ w ∈ wsX00, w ∈ wsX0_isAlike := by decide +kernel
theorem lk_X0_isAlike_126 : Cond.fieldLink RX0 126 "Quarterboard" "hasKept" "Z" ∈ wsX0_isAlike := by decide +kernel
theorem lk_X0_isAlike_129 : Cond.fieldLink RX0 129 "Quarterboard" "keptFilled" "I" ∈ wsX0_isAlike := by decide +kernel
theorem lk_X0_isAlike_132 : Cond.fieldLink RX0 132 "Quarterboard" "keptDigits" "J" ∈ wsX0_isAlike := by decide +kernel
theorem th_X0_isAlike_53 : Cond.classLink "Quarterboard" 53 eIS ∈ wsX0_isAlike := by decide +kernel
theorem ti_X0_isAlike_53 : Cond.initialized eIS ∈ wsX0_isAlike := by decide +kernel
theorem ta_X0_isAlike_53 : ∀ w ∈ (vx_atS "Quarterboard" 57 eIS zNm).filter goodWord, w ∈ wsX0_isAlike := by decide +kernel
def P_X0_isAlike (q0 q1 q2 q3 q4 q5 q6 : Int32) (q7 : Int64) (q8 q9 : Int32) (q10 : Int64) : Int32 → QS → Prop := fun r u => (¬ q8 = 0) ∧ u = (q0, q1, q2, q3, q4, q5, q6, q7, q8, q9, q10) ∧ r = zb (anyN (fun t => decide (0 < qWays q5 q7 t q9 q10)) 8)
def PX_X0_isAlike (q0 q1 q2 q3 q4 q5 q6 : Int32) (q7 : Int64) (q8 q9 : Int32) (q10 : Int64) : String → Prop := fun E => E = eIS ∧ q8 = 0
set_option maxHeartbeats 4000000 in
set_option maxRecDepth 100000 in
theorem c_X0_isAlike (l : Launch) (g : zG) (bL h : Nat) (q0 q1 q2 q3 q4 q5 q6 : Int32) (q7 : Int64) (q8 q9 : Int32) (q10 : Int64)  (htr : l.stackTraces = false)  : zMX l yX0_isAlike wsX0_isAlike 30 1000 g [.ref h] (oQ h (q0, q1, q2, q3, q4, q5, q6, q7, q8, q9, q10)) (zEL bL) (zQi g (P_X0_isAlike q0 q1 q2 q3 q4 q5 q6 q7 q8 q9 q10) (oQ h)) (PX_X0_isAlike q0 q1 q2 q3 q4 q5 q6 q7 q8 q9 q10) := by
  refine zstartX (cc := cX0_isAlike) (maxL := 2) (ret := (some .boolean)) (own := RX0) rfl (by decide) rfl zStL (Nat.le_of_ble_eq_true rfl) ?_
  intro p e s m below meth c A Z hr hlk ht H locs X ls hl
  have hx := Z.1.1
  have hb := Z.1.2.1
  have hin : ∀ w ∈ wsX00, w ∈ wsX0_isAlike := inw_X0_isAlike
  have hl : lv_has ls 2 [(0, .ref h)] := hl
  have X : zh g A (oQ h (q0, q1, q2, q3, q4, q5, q6, q7, q8, q9, q10)) s.heap H locs := X
  refine lv_aload_n hx hb dX0_isAlike_0 rfl (lv_at hl 0 rfl) ?_
  refine zget (fs := [.int q0, .int q1, .int q2, .int q3, .int q4, .int q5, .int q6, .long q7, .int q8, .int q9, .long q10]) (v := .int q8) Z hin X (ci := 0) (C := RX0) (T := TX0) (N := 11) rfl rfl 8 (by decide) lk_X0_isAlike_126 rfl dX0_isAlike_1 ?_
  refine lv_if_ne (tgt := 17) hx hb dX0_isAlike_4 (by decide) (fun c1 => ?_) (fun c1 => ?_)
  · have qc1 := c1
    have hk8 : ¬ q8 = 0 := c1
    refine lv_iconst (v := (0 : Int32)) hx hb dX0_isAlike_17 (by decide) ?_
    refine lv_istore_n (lv' := [(1, .int (0 : Int32)), (0, .ref h)]) hx hb dX0_isAlike_18 rfl hl (by decide) rfl (fun ls hl => ?_)
    have cut19 : ∀ (n19 : Nat), ∀ (k : Nat), (k ≤ 8) → (anyN (fun t => decide (0 < qWays q5 q7 t q9 q10)) k = false) → (9 - k ≤ n19) → ∀ (H : Heap) (locs : List Loc) (ls : Array Slot), zh g A (oQ h (q0, q1, q2, q3, q4, q5, q6, q7, q8, q9, q10)) s.heap H locs → lv_has ls 2 [(1, .int (nI k)), (0, .ref h)] → W p l e { frames := 30, cells := 1, slots := 6, locals := 1000 } s m ([.ref h] : List Value).toArray below meth c H locs 0 0 (vx_MQ below ((zQi g (P_X0_isAlike q0 q1 q2 q3 q4 q5 q6 q7 q8 q9 q10) (oQ h)) A) (zXC g (PX_X0_isAlike q0 q1 q2 q3 q4 q5 q6 q7 q8 q9 q10) (oQ h (q0, q1, q2, q3, q4, q5, q6, q7, q8, q9, q10)) A) ([.ref h] : List Value).toArray s 1 6 A) (F0 m 19 ls []) := by
      intro n19
      induction n19 with
      | zero =>
        intro k hk hall hm19
        exact absurd hm19 (by omega)
      | succ n19 ih19 =>
        intro k hk hall hm19 H locs ls X hl
        refine lv_iload_n hx hb dX0_isAlike_19 rfl (lv_at hl 0 rfl) ?_
        refine lv_bipush (v := (8 : Int32)) hx hb dX0_isAlike_20 (by decide) ?_
        refine lv_icmp_ge (tgt := 49) hx hb dX0_isAlike_22 (by decide) (fun c2 => ?_) (fun c2 => ?_)
        · have qc2 := c2
          have c2n : 8 ≤ k := zn_let (by omega) (by omega) c2
          refine lv_iconst (v := (0 : Int32)) hx hb dX0_isAlike_49 (by decide) ?_
          exact vx_ret (W.widen (k := 1) (n := 6) (Nat.zero_le _) (Nat.zero_le _) (zreti Z hr hlk (q0, q1, q2, q3, q4, q5, q6, q7, q8, q9, q10) X dX0_isAlike_50 rfl (⟨hk8, rfl, (zb_f0 (by rw [show (8 : Nat) = k by omega]; exact hall)).symm⟩)))
        · have qc2 := c2
          have c2n : ¬ 8 ≤ k := zn_len (by omega) (by omega) c2
          refine lv_aload_n hx hb dX0_isAlike_25 rfl (lv_at hl 1 rfl) ?_
          refine lv_iload_n hx hb dX0_isAlike_26 rfl (lv_at hl 0 rfl) ?_
          refine lv_aload_n hx hb dX0_isAlike_27 rfl (lv_at hl 1 rfl) ?_
          refine zget (fs := [.int q0, .int q1, .int q2, .int q3, .int q4, .int q5, .int q6, .long q7, .int q8, .int q9, .long q10]) (v := .int q9) Z hin X (ci := 0) (C := RX0) (T := TX0) (N := 11) rfl rfl 9 (by decide) lk_X0_isAlike_129 rfl dX0_isAlike_28 ?_
          refine lv_aload_n hx hb dX0_isAlike_31 rfl (lv_at hl 1 rfl) ?_
          refine zget (fs := [.int q0, .int q1, .int q2, .int q3, .int q4, .int q5, .int q6, .long q7, .int q8, .int q9, .long q10]) (v := .long q10) Z hin X (ci := 0) (C := RX0) (T := TX0) (N := 11) rfl rfl 10 (by decide) lk_X0_isAlike_132 rfl dX0_isAlike_32 ?_
          refine zcallVi (n := 3) (As := [.int (nI k), .int q9, .long q10]) (rest := []) (ci := 0) (C := RX0) (T := TX0) (N := 11) Z X (c_X0_waysOfMarks l g bL h q0 q1 q2 q3 q4 q5 q6 q7 q8 q9 q10 k q9 q10 (by omega)) gX0_isAlike_X0_waysOfMarks rfl (by decide +kernel) ⟨by show _ ≤ 30; omega, by show _ ≤ 1000; omega⟩ rfl rfl rfl rfl hl.1 (Nat.le_of_ble_eq_true rfl) dX0_isAlike_35 ⟨Nat.zero_le _, Nat.zero_le _⟩ (fun r2 ur2 H locs hrr2 X => ?_)
          obtain ⟨rfl, rfl⟩ : ur2 = (q0, q1, q2, q3, q4, q5, q6, q7, q8, q9, q10) ∧ r2 = qWays q5 q7 k q9 q10 := hrr2
          have X : zh g A (oQ h (q0, q1, q2, q3, q4, q5, q6, q7, q8, q9, q10)) s.heap H locs := X
          refine lv_if_le (tgt := 43) hx hb dX0_isAlike_38 (by decide) (fun c4 => ?_) (fun c4 => ?_)
          · have qc4 := c4
            have hq : ¬ 0 < qWays q5 q7 k q9 q10 := Int32.not_lt.mpr c4
            refine lv_iinc (v := nI (k + 1)) (lv' := [(1, .int (nI (k + 1))), (0, .ref h)]) hx hb dX0_isAlike_43 hl (k := 0) rfl (zi_inc k) (by decide) rfl (fun ls hl => ?_)
            refine lv_goto (tgt := 19) hx hb dX0_isAlike_46 (by decide) ?_
            exact ih19 (k + 1) (by first | assumption | omega) (anyN_s hall (decide_eq_false hq)) (by omega) H locs ls X (lv_sub hl [0, 1] rfl)
          · have qc4 := c4
            have hq : 0 < qWays q5 q7 k q9 q10 := Int32.not_le.mp c4
            refine lv_iconst (v := (1 : Int32)) hx hb dX0_isAlike_41 (by decide) ?_
            exact vx_ret (W.widen (k := 1) (n := 6) (Nat.zero_le _) (Nat.zero_le _) (zreti Z hr hlk (q0, q1, q2, q3, q4, q5, q6, q7, q8, q9, q10) X dX0_isAlike_42 rfl (⟨hk8, rfl, (zb_t (anyN_t (k := k) (by omega) (decide_eq_true hq))).symm⟩)))
    exact cut19 9 0 (by first | assumption | omega) (rfl) (by omega) H locs ls X (lv_sub hl [0, 1] rfl)
  · have qc1 := c1
    have hk8 : q8 = 0 := c1
    exact zthrow (is := 135) (text := "no board is kept") Z htr ht hlk X hl.1 (by decide +kernel) th_X0_isAlike_53 ti_X0_isAlike_53 (by decide +kernel) ta_X0_isAlike_53 zB_57 zG_57 dX0_isAlike_7 dX0_isAlike_10 dX0_isAlike_11 dX0_isAlike_13 dX0_isAlike_16 (Nat.le_of_ble_eq_true rfl) (Nat.le_of_ble_eq_true rfl) (Nat.le_refl _) (Nat.le_refl _) (⟨rfl, hk8⟩)
theorem inw_X0_place : ∀ w ∈ wsX00, w ∈ wsX0_place := by decide +kernel
theorem lk_X0_place_29 : Cond.fieldLink RX0 29 "Quarterboard" "stage" "I" ∈ wsX0_place := by decide +kernel
theorem lk_X0_place_16 : Cond.fieldLink RX0 16 "Quarterboard" "filled" "I" ∈ wsX0_place := by decide +kernel
theorem lk_X0_place_9 : Cond.fieldLink RX0 9 "Quarterboard" "held" "I" ∈ wsX0_place := by decide +kernel
theorem lk_X0_place_32 : Cond.fieldLink RX0 32 "Quarterboard" "player" "I" ∈ wsX0_place := by decide +kernel
theorem lk_X0_place_13 : Cond.fieldLink RX0 13 "Quarterboard" "victor" "I" ∈ wsX0_place := by decide +kernel
theorem th_X0_place_46 : Cond.classLink "Quarterboard" 46 eIO ∈ wsX0_place := by decide +kernel
theorem ti_X0_place_46 : Cond.initialized eIO ∈ wsX0_place := by decide +kernel
theorem ta_X0_place_46 : ∀ w ∈ (vx_atS "Quarterboard" 50 eIO zNm).filter goodWord, w ∈ wsX0_place := by decide +kernel
theorem th_X0_place_53 : Cond.classLink "Quarterboard" 53 eIS ∈ wsX0_place := by decide +kernel
theorem ti_X0_place_53 : Cond.initialized eIS ∈ wsX0_place := by decide +kernel
theorem ta_X0_place_53 : ∀ w ∈ (vx_atS "Quarterboard" 57 eIS zNm).filter goodWord, w ∈ wsX0_place := by decide +kernel
def P_X0_place (q0 q1 q2 q3 q4 q5 q6 : Int32) (q7 : Int64) (q8 q9 : Int32) (q10 : Int64) (sq : Int32) : Int32 → QS → Prop := fun r u => (qNum sq = true ∧ q1 = 1 ∧ qHas q5 sq = false) ∧ u = (q0, (if 0 < (qWon (q5 ||| qBit sq) (qPutD q7 q3 sq) q0) then 2 else if q5 ||| qBit sq = 65535 then 2 else 0), q2, -1, (if 0 < (qWon (q5 ||| qBit sq) (qPutD q7 q3 sq) q0) then q2 else if q5 ||| qBit sq = 65535 then 2 else q4), q5 ||| qBit sq, q6 ||| qBit q3, qPutD q7 q3 sq, q8, q9, q10) ∧ r = nI (qWon (q5 ||| qBit sq) (qPutD q7 q3 sq) q0)
def PX_X0_place (q0 q1 q2 q3 q4 q5 q6 : Int32) (q7 : Int64) (q8 q9 : Int32) (q10 : Int64) (sq : Int32) : String → Prop := fun E => (E = eIO ∧ qNum sq = false) ∨ (E = eIS ∧ qNum sq = true ∧ (¬ q1 = 1 ∨ qHas q5 sq = true))
set_option maxHeartbeats 4000000 in
set_option maxRecDepth 100000 in
theorem c_X0_place (l : Launch) (g : zG) (bL h : Nat) (q0 q1 q2 q3 q4 q5 q6 : Int32) (q7 : Int64) (q8 q9 : Int32) (q10 : Int64) (sq : Int32) (htr : l.stackTraces = false)  : zMX l yX0_place wsX0_place 30 1000 g [.ref h, .int sq] (oQ h (q0, q1, q2, q3, q4, q5, q6, q7, q8, q9, q10)) (zEL bL) (zQi g (P_X0_place q0 q1 q2 q3 q4 q5 q6 q7 q8 q9 q10 sq) (oQ h)) (PX_X0_place q0 q1 q2 q3 q4 q5 q6 q7 q8 q9 q10 sq) := by
  refine zstartX (cc := cX0_place) (maxL := 3) (ret := (some .int)) (own := RX0) rfl (by decide) rfl zStL (Nat.le_of_ble_eq_true rfl) ?_
  intro p e s m below meth c A Z hr hlk ht H locs X ls hl
  have hx := Z.1.1
  have hb := Z.1.2.1
  have hin : ∀ w ∈ wsX00, w ∈ wsX0_place := inw_X0_place
  have hl : lv_has ls 3 [(0, .ref h), (1, .int sq)] := hl
  have X : zh g A (oQ h (q0, q1, q2, q3, q4, q5, q6, q7, q8, q9, q10)) s.heap H locs := X
  have hwl : qWon (q5 ||| qBit sq) (qPutD q7 q3 sq) q0 ≤ 19 := Nat.le_trans (qWonC_le _ _ _) (qLn_le q0).2
  refine lv_iload_n hx hb dX0_place_0 rfl (lv_at hl 1 rfl) ?_
  refine zcallSi (n := 1) (As := [.int sq]) (rest := []) Z X (c_X0_isNumber l g sq) gX0_place_X0_isNumber rfl (by decide +kernel) ⟨by show _ ≤ 30; omega, by show _ ≤ 1000; omega⟩ rfl rfl hl.1 (Nat.le_of_ble_eq_true rfl) dX0_place_1 ⟨Nat.zero_le _, Nat.zero_le _⟩ (fun r0 H locs hrr0 X => ?_)
  obtain rfl : r0 = zb (qNum sq) := hrr0
  refine lv_if_ne (tgt := 17) hx hb dX0_place_4 (by decide) (fun c2 => ?_) (fun c2 => ?_)
  · have qc2 := c2
    have hn : qNum sq = true := zb_n0.mp c2
    refine lv_aload_n hx hb dX0_place_17 rfl (lv_at hl 0 rfl) ?_
    refine zget (fs := [.int q0, .int q1, .int q2, .int q3, .int q4, .int q5, .int q6, .long q7, .int q8, .int q9, .long q10]) (v := .int q1) Z hin X (ci := 0) (C := RX0) (T := TX0) (N := 11) rfl rfl 1 (by decide) lk_X0_place_29 rfl dX0_place_18 ?_
    refine lv_iconst (v := (1 : Int32)) hx hb dX0_place_21 (by decide) ?_
    refine lv_icmp_eq (tgt := 35) hx hb dX0_place_22 (by decide) (fun c3 => ?_) (fun c3 => ?_)
    · have qc3 := c3
      have hs : q1 = 1 := c3
      refine lv_aload_n hx hb dX0_place_35 rfl (lv_at hl 0 rfl) ?_
      refine zget (fs := [.int q0, .int q1, .int q2, .int q3, .int q4, .int q5, .int q6, .long q7, .int q8, .int q9, .long q10]) (v := .int q5) Z hin X (ci := 0) (C := RX0) (T := TX0) (N := 11) rfl rfl 5 (by decide) lk_X0_place_16 rfl dX0_place_36 ?_
      refine lv_iload_n hx hb dX0_place_39 rfl (lv_at hl 1 rfl) ?_
      refine zcallSi (n := 2) (As := [.int q5, .int sq]) (rest := []) Z X (c_X0_has l g q5 sq) gX0_place_X0_has rfl (by decide +kernel) ⟨by show _ ≤ 30; omega, by show _ ≤ 1000; omega⟩ rfl rfl hl.1 (Nat.le_of_ble_eq_true rfl) dX0_place_40 ⟨Nat.zero_le _, Nat.zero_le _⟩ (fun r3 H locs hrr3 X => ?_)
      obtain rfl : r3 = zb (qHas q5 sq) := hrr3
      refine lv_if_eq (tgt := 56) hx hb dX0_place_43 (by decide) (fun c5 => ?_) (fun c5 => ?_)
      · have qc5 := c5
        have hh : qHas q5 sq = false := zb_0.mp c5
        refine lv_aload_n hx hb dX0_place_56 rfl (lv_at hl 0 rfl) ?_
        refine lv_aload_n hx hb dX0_place_57 rfl (lv_at hl 0 rfl) ?_
        refine zget (fs := [.int q0, .int q1, .int q2, .int q3, .int q4, .int q5, .int q6, .long q7, .int q8, .int q9, .long q10]) (v := .int q3) Z hin X (ci := 0) (C := RX0) (T := TX0) (N := 11) rfl rfl 3 (by decide) lk_X0_place_9 rfl dX0_place_58 ?_
        refine lv_iload_n hx hb dX0_place_61 rfl (lv_at hl 1 rfl) ?_
        refine zcallVv (n := 2) (As := [.int q3, .int sq]) (rest := []) (ci := 0) (C := RX0) (T := TX0) (N := 11) Z X (c_X0_put l g bL h q0 q1 q2 q3 q4 q5 q6 q7 q8 q9 q10 q3 sq) gX0_place_X0_put rfl (by decide +kernel) ⟨by show _ ≤ 30; omega, by show _ ≤ 1000; omega⟩ rfl rfl rfl rfl hl.1 (Nat.le_of_ble_eq_true rfl) dX0_place_62 ⟨Nat.zero_le _, Nat.zero_le _⟩ (fun ur5 H locs hrr5 X => ?_)
        obtain rfl : ur5 = (q0, q1, q2, q3, q4, (q5 ||| qBit sq), (q6 ||| qBit q3), (qPutD q7 q3 sq), q8, q9, q10) := hrr5
        have X : zh g A (oQ h (q0, q1, q2, q3, q4, (q5 ||| qBit sq), (q6 ||| qBit q3), (qPutD q7 q3 sq), q8, q9, q10)) s.heap H locs := X
        refine lv_aload_n hx hb dX0_place_65 rfl (lv_at hl 0 rfl) ?_
        refine lv_iconst (v := (-1 : Int32)) hx hb dX0_place_66 (by decide) ?_
        refine zput (ty := .int) (fs := [.int q0, .int q1, .int q2, .int q3, .int q4, .int (q5 ||| qBit sq), .int (q6 ||| qBit q3), .long (qPutD q7 q3 sq), .int q8, .int q9, .long q10]) (v := .int (-1 : Int32)) tyX0 tyX0_ok nmX0 Z hin X (ci := 0) (C := RX0) (T := TX0) (N := 11) rfl rfl 3 (by decide) lk_X0_place_9 rfl (by decide +kernel) rfl rfl (Nat.le_of_ble_eq_true rfl) dX0_place_67 (fun H locs X => ?_)
        have X : zh g A (oQ h (q0, q1, q2, (-1 : Int32), q4, (q5 ||| qBit sq), (q6 ||| qBit q3), (qPutD q7 q3 sq), q8, q9, q10)) s.heap H locs := X
        refine lv_aload_n hx hb dX0_place_70 rfl (lv_at hl 0 rfl) ?_
        refine zcallVi (n := 0) (As := []) (rest := []) (ci := 0) (C := RX0) (T := TX0) (N := 11) Z X (c_X0_wonLines l g bL h q0 q1 q2 (-1 : Int32) q4 (q5 ||| qBit sq) (q6 ||| qBit q3) (qPutD q7 q3 sq) q8 q9 q10 ) gX0_place_X0_wonLines rfl (by decide +kernel) ⟨by show _ ≤ 30; omega, by show _ ≤ 1000; omega⟩ rfl rfl rfl rfl hl.1 (Nat.le_of_ble_eq_true rfl) dX0_place_71 ⟨Nat.zero_le _, Nat.zero_le _⟩ (fun r6 ur6 H locs hrr6 X => ?_)
        obtain ⟨rfl, rfl⟩ : ur6 = (q0, q1, q2, (-1 : Int32), q4, (q5 ||| qBit sq), (q6 ||| qBit q3), (qPutD q7 q3 sq), q8, q9, q10) ∧ r6 = nI (qWon (q5 ||| qBit sq) (qPutD q7 q3 sq) q0) := hrr6
        have X : zh g A (oQ h (q0, q1, q2, (-1 : Int32), q4, (q5 ||| qBit sq), (q6 ||| qBit q3), (qPutD q7 q3 sq), q8, q9, q10)) s.heap H locs := X
        refine lv_istore_n (lv' := [(2, .int (nI (qWon (q5 ||| qBit sq) (qPutD q7 q3 sq) q0))), (0, .ref h), (1, .int sq)]) hx hb dX0_place_74 rfl hl (by decide) rfl (fun ls hl => ?_)
        refine lv_iload_n hx hb dX0_place_75 rfl (lv_at hl 0 rfl) ?_
        refine lv_if_le (tgt := 95) hx hb dX0_place_76 (by decide) (fun c8 => ?_) (fun c8 => ?_)
        · have qc8 := c8
          have c8n : (qWon (q5 ||| qBit sq) (qPutD q7 q3 sq) q0) ≤ 0 := zn_let (by omega) (by omega) c8
          have hw : ¬ 0 < (qWon (q5 ||| qBit sq) (qPutD q7 q3 sq) q0) := by omega
          refine lv_aload_n hx hb dX0_place_95 rfl (lv_at hl 1 rfl) ?_
          refine zget (fs := [.int q0, .int q1, .int q2, .int (-1 : Int32), .int q4, .int (q5 ||| qBit sq), .int (q6 ||| qBit q3), .long (qPutD q7 q3 sq), .int q8, .int q9, .long q10]) (v := .int (q5 ||| qBit sq)) Z hin X (ci := 0) (C := RX0) (T := TX0) (N := 11) rfl rfl 5 (by decide) lk_X0_place_16 rfl dX0_place_96 ?_
          refine lv_ldc (v := (65535 : Int32)) hx hb Z.1.2.2.2.1 (Z.1.2.2.2.2 (.constant RX0 78 (65535)) (by decide +kernel)) dX0_place_99 ?_
          refine lv_icmp_ne (tgt := 117) hx hb dX0_place_101 (by decide) (fun c9 => ?_) (fun c9 => ?_)
          · have qc9 := c9
            have hf5 : ¬ q5 ||| qBit sq = 65535 := c9
            refine lv_aload_n hx hb dX0_place_117 rfl (lv_at hl 1 rfl) ?_
            refine lv_iconst (v := (0 : Int32)) hx hb dX0_place_118 (by decide) ?_
            refine zput (ty := .int) (fs := [.int q0, .int q1, .int q2, .int (-1 : Int32), .int q4, .int (q5 ||| qBit sq), .int (q6 ||| qBit q3), .long (qPutD q7 q3 sq), .int q8, .int q9, .long q10]) (v := .int (0 : Int32)) tyX0 tyX0_ok nmX0 Z hin X (ci := 0) (C := RX0) (T := TX0) (N := 11) rfl rfl 1 (by decide) lk_X0_place_29 rfl (by decide +kernel) rfl rfl (Nat.le_of_ble_eq_true rfl) dX0_place_119 (fun H locs X => ?_)
            have X : zh g A (oQ h (q0, (0 : Int32), q2, (-1 : Int32), q4, (q5 ||| qBit sq), (q6 ||| qBit q3), (qPutD q7 q3 sq), q8, q9, q10)) s.heap H locs := X
            refine lv_iload_n hx hb dX0_place_122 rfl (lv_at hl 0 rfl) ?_
            exact vx_ret (W.widen (k := 1) (n := 6) (Nat.zero_le _) (Nat.zero_le _) (zreti Z hr hlk (q0, (0 : Int32), q2, (-1 : Int32), q4, (q5 ||| qBit sq), (q6 ||| qBit q3), (qPutD q7 q3 sq), q8, q9, q10) X dX0_place_123 rfl (⟨⟨hn, hs, hh⟩, by first | rw [if_pos hw, if_pos hw] | rw [if_neg hw, if_neg hw, if_pos hf5, if_pos hf5] | rw [if_neg hw, if_neg hw, if_neg hf5, if_neg hf5], rfl⟩)))
          · have qc9 := c9
            have hf5 : q5 ||| qBit sq = 65535 := c9
            refine lv_aload_n hx hb dX0_place_104 rfl (lv_at hl 1 rfl) ?_
            refine lv_iconst (v := (2 : Int32)) hx hb dX0_place_105 (by decide) ?_
            refine zput (ty := .int) (fs := [.int q0, .int q1, .int q2, .int (-1 : Int32), .int q4, .int (q5 ||| qBit sq), .int (q6 ||| qBit q3), .long (qPutD q7 q3 sq), .int q8, .int q9, .long q10]) (v := .int (2 : Int32)) tyX0 tyX0_ok nmX0 Z hin X (ci := 0) (C := RX0) (T := TX0) (N := 11) rfl rfl 1 (by decide) lk_X0_place_29 rfl (by decide +kernel) rfl rfl (Nat.le_of_ble_eq_true rfl) dX0_place_106 (fun H locs X => ?_)
            have X : zh g A (oQ h (q0, (2 : Int32), q2, (-1 : Int32), q4, (q5 ||| qBit sq), (q6 ||| qBit q3), (qPutD q7 q3 sq), q8, q9, q10)) s.heap H locs := X
            refine lv_aload_n hx hb dX0_place_109 rfl (lv_at hl 1 rfl) ?_
            refine lv_iconst (v := (2 : Int32)) hx hb dX0_place_110 (by decide) ?_
            refine zput (ty := .int) (fs := [.int q0, .int (2 : Int32), .int q2, .int (-1 : Int32), .int q4, .int (q5 ||| qBit sq), .int (q6 ||| qBit q3), .long (qPutD q7 q3 sq), .int q8, .int q9, .long q10]) (v := .int (2 : Int32)) tyX0 tyX0_ok nmX0 Z hin X (ci := 0) (C := RX0) (T := TX0) (N := 11) rfl rfl 4 (by decide) lk_X0_place_13 rfl (by decide +kernel) rfl rfl (Nat.le_of_ble_eq_true rfl) dX0_place_111 (fun H locs X => ?_)
            have X : zh g A (oQ h (q0, (2 : Int32), q2, (-1 : Int32), (2 : Int32), (q5 ||| qBit sq), (q6 ||| qBit q3), (qPutD q7 q3 sq), q8, q9, q10)) s.heap H locs := X
            refine lv_goto (tgt := 122) hx hb dX0_place_114 (by decide) ?_
            refine lv_iload_n hx hb dX0_place_122 rfl (lv_at hl 0 rfl) ?_
            exact vx_ret (W.widen (k := 1) (n := 6) (Nat.zero_le _) (Nat.zero_le _) (zreti Z hr hlk (q0, (2 : Int32), q2, (-1 : Int32), (2 : Int32), (q5 ||| qBit sq), (q6 ||| qBit q3), (qPutD q7 q3 sq), q8, q9, q10) X dX0_place_123 rfl (⟨⟨hn, hs, hh⟩, by first | rw [if_pos hw, if_pos hw] | rw [if_neg hw, if_neg hw, if_pos hf5, if_pos hf5] | rw [if_neg hw, if_neg hw, if_neg hf5, if_neg hf5], rfl⟩)))
        · have qc8 := c8
          have c8n : ¬ (qWon (q5 ||| qBit sq) (qPutD q7 q3 sq) q0) ≤ 0 := zn_len (by omega) (by omega) c8
          have hw : 0 < (qWon (q5 ||| qBit sq) (qPutD q7 q3 sq) q0) := by omega
          refine lv_aload_n hx hb dX0_place_79 rfl (lv_at hl 1 rfl) ?_
          refine lv_iconst (v := (2 : Int32)) hx hb dX0_place_80 (by decide) ?_
          refine zput (ty := .int) (fs := [.int q0, .int q1, .int q2, .int (-1 : Int32), .int q4, .int (q5 ||| qBit sq), .int (q6 ||| qBit q3), .long (qPutD q7 q3 sq), .int q8, .int q9, .long q10]) (v := .int (2 : Int32)) tyX0 tyX0_ok nmX0 Z hin X (ci := 0) (C := RX0) (T := TX0) (N := 11) rfl rfl 1 (by decide) lk_X0_place_29 rfl (by decide +kernel) rfl rfl (Nat.le_of_ble_eq_true rfl) dX0_place_81 (fun H locs X => ?_)
          have X : zh g A (oQ h (q0, (2 : Int32), q2, (-1 : Int32), q4, (q5 ||| qBit sq), (q6 ||| qBit q3), (qPutD q7 q3 sq), q8, q9, q10)) s.heap H locs := X
          refine lv_aload_n hx hb dX0_place_84 rfl (lv_at hl 1 rfl) ?_
          refine lv_aload_n hx hb dX0_place_85 rfl (lv_at hl 1 rfl) ?_
          refine zget (fs := [.int q0, .int (2 : Int32), .int q2, .int (-1 : Int32), .int q4, .int (q5 ||| qBit sq), .int (q6 ||| qBit q3), .long (qPutD q7 q3 sq), .int q8, .int q9, .long q10]) (v := .int q2) Z hin X (ci := 0) (C := RX0) (T := TX0) (N := 11) rfl rfl 2 (by decide) lk_X0_place_32 rfl dX0_place_86 ?_
          refine zput (ty := .int) (fs := [.int q0, .int (2 : Int32), .int q2, .int (-1 : Int32), .int q4, .int (q5 ||| qBit sq), .int (q6 ||| qBit q3), .long (qPutD q7 q3 sq), .int q8, .int q9, .long q10]) (v := .int q2) tyX0 tyX0_ok nmX0 Z hin X (ci := 0) (C := RX0) (T := TX0) (N := 11) rfl rfl 4 (by decide) lk_X0_place_13 rfl (by decide +kernel) rfl rfl (Nat.le_of_ble_eq_true rfl) dX0_place_89 (fun H locs X => ?_)
          have X : zh g A (oQ h (q0, (2 : Int32), q2, (-1 : Int32), q2, (q5 ||| qBit sq), (q6 ||| qBit q3), (qPutD q7 q3 sq), q8, q9, q10)) s.heap H locs := X
          refine lv_goto (tgt := 122) hx hb dX0_place_92 (by decide) ?_
          refine lv_iload_n hx hb dX0_place_122 rfl (lv_at hl 0 rfl) ?_
          exact vx_ret (W.widen (k := 1) (n := 6) (Nat.zero_le _) (Nat.zero_le _) (zreti Z hr hlk (q0, (2 : Int32), q2, (-1 : Int32), q2, (q5 ||| qBit sq), (q6 ||| qBit q3), (qPutD q7 q3 sq), q8, q9, q10) X dX0_place_123 rfl (⟨⟨hn, hs, hh⟩, by first | rw [if_pos hw, if_pos hw] | rw [if_neg hw, if_neg hw, if_pos hf5, if_pos hf5] | rw [if_neg hw, if_neg hw, if_neg hf5, if_neg hf5], rfl⟩)))
      · have qc5 := c5
        have hh : qHas q5 sq = true := zb_n0.mp c5
        exact zthrow (is := 68) (text := "the square is not empty") Z htr ht hlk X hl.1 (by decide +kernel) th_X0_place_53 ti_X0_place_53 (by decide +kernel) ta_X0_place_53 zB_57 zG_57 dX0_place_46 dX0_place_49 dX0_place_50 dX0_place_52 dX0_place_55 (Nat.le_of_ble_eq_true rfl) (Nat.le_of_ble_eq_true rfl) (Nat.le_refl _) (Nat.le_refl _) (Or.inr ⟨rfl, hn, Or.inr hh⟩)
    · have qc3 := c3
      have hs : ¬ q1 = 1 := c3
      exact zthrow (is := 66) (text := "no piece is in the hand") Z htr ht hlk X hl.1 (by decide +kernel) th_X0_place_53 ti_X0_place_53 (by decide +kernel) ta_X0_place_53 zB_57 zG_57 dX0_place_25 dX0_place_28 dX0_place_29 dX0_place_31 dX0_place_34 (Nat.le_of_ble_eq_true rfl) (Nat.le_of_ble_eq_true rfl) (Nat.le_refl _) (Nat.le_refl _) (Or.inr ⟨rfl, hn, Or.inl hs⟩)
  · have qc2 := c2
    have hn : qNum sq = false := zb_0.mp c2
    exact zthrow (is := 64) (text := "no such square") Z htr ht hlk X hl.1 (by decide +kernel) th_X0_place_46 ti_X0_place_46 (by decide +kernel) ta_X0_place_46 zB_50 zG_50 dX0_place_7 dX0_place_10 dX0_place_11 dX0_place_13 dX0_place_16 (Nat.le_of_ble_eq_true rfl) (Nat.le_of_ble_eq_true rfl) (Nat.le_refl _) (Nat.le_refl _) (Or.inl ⟨rfl, hn⟩)
end
section
/-! the constructors -/
def zMk (l : Launch) (y : MethodName) (wds : List Cond) (fr lo mc ms : Nat) (g : zG) (av : List Value) (ws : va_W) (E : zEt) (Qc : (Nat → Prop) → Array Value → State → Outcome → State → Prop) : Prop :=
  ∀ sz : Nat, Met l y wds { frames := fr, cells := mc, slots := ms, locals := lo } (va_Pc av (fun U => U.heap.size = sz ∧ zK g U ∧ va_P g.1 vwCl ws U.heap ∧ va_D (fun _ => True) ws ∧ E (va_A ws sz) U)) (Qc (va_A ws sz)) mc ms (va_A ws sz)
theorem zstartk {l : Launch} {y : MethodName} {wds ws' : List Cond} {fr lo mc ms : Nat} {g : zG} {av : List Value} {ws : va_W} {E : zEt} {Qc : (Nat → Prop) → Array Value → State → Outcome → State → Prop} {cc : ByteArray} {maxL : Nat} {ret : Option FieldType} {own : String}
    (ho : y.cls = own) (hy : plainName own = true) (hw : wds = Cond.code y cc maxL ret :: ws') (hst : zSt E) (hlen : (lg_sl av).length ≤ maxL)
    (body : ∀ (p : Program) (e : Env) (s : State) (m : MethodId) (below : List Frame) (meth : Method) (c : Code) (A : Nat → Prop), zc p m c cc maxL s av.toArray wds own g A E → meth.sig.returnType = ret → meth.locks = false → meth.name = y.name → ∀ (H : Heap) (locs : List Loc), zh g A ws s.heap H locs → ∀ ls : Array Slot, lv_has ls maxL (lv_args 0 av) →
      W p l e { frames := fr, cells := mc, slots := ms, locals := lo } s m av.toArray below meth c H locs 0 0 (MQ below (Qc A) av.toArray s mc ms A) (F0 m 0 ls [])) : zMk l y wds fr lo mc ms g av ws E Qc := by
  subst ho
  intro sz
  refine Met.ofW (cc := cc) (maxL := maxL) (ret := ret) hy hw ?_
  intro p e s m args below meth c s₁ B hml hv
  obtain ⟨rfl, rfl, hK, hP, hD0, hE⟩ := hv
  have hts := atoms_spec (ws := wds) B.pre
  have hown : s.vm.findClass y.cls = some m.cls := findClass_of_methodNamed B.named
  rw [lg_entry_eq]
  exact body p e s m below meth c _ ⟨⟨B.exec, B.bytes, hml, hown, hts⟩, hK, fun q h => Or.inr h, hE, hst⟩ B.returns B.notSynchronized (name_of_methodNamed B.named B.method).1 _ _ ⟨hP, hD0.self, va_S.rf⟩ _ (lv_entry av hlen)
theorem znewI {g : zG} {s : State} {cA : ClassId} (h : zK g s) (h2 : va_K g.1 vwCl (zT g ++ [(cA, .int)]) s) : cA = g.2.1 := by
  have h1 := (h.2 0 _ rfl).2
  have h3 := (h2.2 1 _ rfl).2
  exact Option.some.inj (h3.symm.trans h1)
theorem inw_X0_init : ∀ w ∈ wsX00, w ∈ wsX0_init := by decide +kernel
theorem lk_X0_init_9 : Cond.fieldLink RX0 9 "Quarterboard" "held" "I" ∈ wsX0_init := by decide +kernel
theorem lk_X0_init_13 : Cond.fieldLink RX0 13 "Quarterboard" "victor" "I" ∈ wsX0_init := by decide +kernel
def P_X0_init : QS → Prop := fun u => u = (0, 0, 0, -1, -1, 0, 0, 0, 0, 0, 0)
set_option maxHeartbeats 600000 in
set_option maxRecDepth 100000 in
theorem c_X0_init (l : Launch) (g : zG) (bL h : Nat)   : zM l yX0_init wsX0_init 1 40 g [.ref h] (oQ h (0, 0, 0, 0, 0, 0, 0, 0, 0, 0, 0)) (zEL bL) (zQv g (P_X0_init) (oQ h)) := by
  refine zstart (cc := cX0_init) (maxL := 1) (ret := none) (own := RX0) rfl (by decide) rfl zStL (Nat.le_of_ble_eq_true rfl) ?_
  intro p e s m below meth c A Z hr hlk H locs X ls hl
  have hx := Z.1.1
  have hb := Z.1.2.1
  have hin : ∀ w ∈ wsX00, w ∈ wsX0_init := inw_X0_init
  have hl : lv_has ls 1 [(0, .ref h)] := hl
  have X : zh g A (oQ h (0, 0, 0, 0, 0, 0, 0, 0, 0, 0, 0)) s.heap H locs := X
  refine lv_aload_n hx hb dX0_init_0 rfl (lv_at hl 0 rfl) ?_
  refine W.objInit hx hb Z.1.2.2.2.1 (Z.1.2.2.2.2 (.methodLink RX0 1 objectInit) (by decide +kernel)) (Z.1.2.2.2.2 (.instanceMethod objectInit) (by decide +kernel)) (Z.1.2.2.2.2 (.code objectInit ⟨#[0xb1]⟩ 1 none) (by decide +kernel)) rfl (by rw [Z.1.2.2.1]; exact hl.1) rfl dX0_init_1 (Nat.le_of_ble_eq_true rfl) (Nat.le_of_ble_eq_true rfl) ?_
  refine W.eq (g2 := F0 m 4 ls []) rfl ?_
  refine lv_aload_n hx hb dX0_init_4 rfl (lv_at hl 0 rfl) ?_
  refine lv_iconst (v := (-1 : Int32)) hx hb dX0_init_5 (by decide) ?_
  refine zput (ty := .int) (fs := [.int 0, .int 0, .int 0, .int 0, .int 0, .int 0, .int 0, .long 0, .int 0, .int 0, .long 0]) (v := .int (-1 : Int32)) tyX0 tyX0_ok nmX0 Z hin X (ci := 0) (C := RX0) (T := TX0) (N := 11) rfl rfl 3 (by decide) lk_X0_init_9 rfl (by decide +kernel) rfl rfl (Nat.le_of_ble_eq_true rfl) dX0_init_6 (fun H locs X => ?_)
  have X : zh g A (oQ h (0, 0, 0, (-1 : Int32), 0, 0, 0, 0, 0, 0, 0)) s.heap H locs := X
  refine lv_aload_n hx hb dX0_init_9 rfl (lv_at hl 0 rfl) ?_
  refine lv_iconst (v := (-1 : Int32)) hx hb dX0_init_10 (by decide) ?_
  refine zput (ty := .int) (fs := [.int 0, .int 0, .int 0, .int (-1 : Int32), .int 0, .int 0, .int 0, .long 0, .int 0, .int 0, .long 0]) (v := .int (-1 : Int32)) tyX0 tyX0_ok nmX0 Z hin X (ci := 0) (C := RX0) (T := TX0) (N := 11) rfl rfl 4 (by decide) lk_X0_init_13 rfl (by decide +kernel) rfl rfl (Nat.le_of_ble_eq_true rfl) dX0_init_11 (fun H locs X => ?_)
  have X : zh g A (oQ h (0, 0, 0, (-1 : Int32), (-1 : Int32), 0, 0, 0, 0, 0, 0)) s.heap H locs := X
  exact zretv Z hr hlk (0, 0, 0, (-1 : Int32), (-1 : Int32), 0, 0, 0, 0, 0, 0) X dX0_init_14 (rfl)
end
