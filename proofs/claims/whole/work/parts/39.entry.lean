/-! THE CLAIM OUT OF ONE WALK OF THE LAW'S BODY. Your part is whole_start (and what it stands on); all else here is the same for every law, but numbers. -/
def R_law : String := "QuarterboardLaw"
def lw_P (b : Addr) (xs : List Int32) (args : Array Value) (s : State) : Prop := args = #[.ref b] ∧ s.IntsAt b xs ∧ xs.length ≤ 1024 ∧ (Jvm.Cond.and given_1 narrow_1).before args s = true
def lw_Q (_ : Array Value) (s : State) (o : Outcome) (t : State) : Prop := o = .returned (some (.int 1)) ∧ Framed s o t [] 669252 7088349
def lw_Z (below : List Frame) (a : Array Value) (s : State) : State → Prop := fun t => ∃ o, t.status = .running ∧ Ended t below o ∧ lw_Q a s o t
/-- the law's own end, with 1 on the stack, nothing written that was there before, its room as the claim has it -/
theorem lw_ret {p : Program} {l : Launch} {e : Env} {s : State} {m : MethodId} {below : List Frame} {meth : Method} {c : Code} {b : Nat} (hx : p.tables.exec = Jvm.exec) (hb : c.code = code) (hr : meth.sig.returnType = ret) (hlocks : meth.locks = false) {pc : Nat} {H : Heap} {ls : Array Slot} (hdg : decode code pc = .ok (.ireturn, 1)) : W p l e room_1 s m #[Value.ref b] below meth c H [] 669252 7088349 (lw_Z below #[Value.ref b] s) (F0 m pc ls [.int 1]) := by
  intro T hT X
  obtain ⟨fs, hret, hrun, hended, hW, hframe⟩ := X.leave (v := some (.int 1)) (hlocks := hlocks) (fun h => by rw [hr] at h; cases h)
  have hmeth' : T.vm.method? m = some meth := X.method'
  refine ⟨T.setFrames fs, ?_, .returned (some (.int 1)), hrun, hended, rfl, ⟨_, rfl⟩, hW, hframe⟩
  jvm_step X.here [X.here.top, hx, hb, hdg, hmeth', hr, ret, narrow_b1]
  (try refine ⟨rfl, ?_⟩); (try refine ⟨rfl, ?_⟩)
  first | (intro acts; rw [hret _ acts rfl rfl rfl]) | rw [hret _ _ rfl rfl rfl]
  exact Steps.refl _
/-- what holds at the law's entry: the machine, the code, the tables' words (any of lw_tbl by 'hts w (by decide +kernel)'), the script of L ints xs at the cell b, what the Statement gives of the start (any of its parts by flat_of_before) -/
def lw_At (p : Program) (s : State) (m : MethodId) (meth : Method) (c : Code) (b L : Nat) (xs : Nat → Int32) : Prop :=
  p.tables.exec = Jvm.exec ∧ c.code = code ∧ meth.sig.returnType = ret ∧ c.maxLocals = 7 ∧ s.vm.findClass R_law = some m.cls ∧ (∀ w ∈ lw_tbl, w.before #[Value.ref b] s = true) ∧ va_X b L xs s s.heap ∧ b < s.heap.size ∧ meth.locks = false ∧ (Jvm.Cond.and given_1 narrow_1).before #[Value.ref b] s = true
set_option maxHeartbeats 1000000 in
set_option maxRecDepth 100000 in
theorem whole_start {p : Program} {e : Env} {s : State} {m : MethodId} {below : List Frame} {meth : Method} {c : Code} (l : Launch) (hflags : l.flags = flags0) {b L : Nat} {xs : Nat → Int32} (hL : L ≤ 1024) (C0 : lw_At p s m meth c b L xs) : W p l e room_1 s m #[Value.ref b] below meth c s.heap [] 0 0 (lw_Z below #[Value.ref b] s) (entryFrame m ([Value.ref b] : List Value).toArray 7) := by
  obtain ⟨hx, hb, hr, hml, hown, hts, hX, hbl, hlk, hgv⟩ := C0
  have htr : l.stackTraces = false := by
    unfold Launch.stackTraces
    rw [hflags]
    decide
  obtain ⟨bL, hE⟩ := zEL_ok hts (flat_of_before _ hgv)
  obtain ⟨g, hK⟩ := zK_ok hts
  have hl0 : ∀ w ∈ wsL_law, w.before #[.ref b] s = true := fun w h => hts w (wsL_law_in w h)
  have hA : ∀ q : Nat, s.heap.size ≤ q → s.heap.size ≤ q := fun _ h => h
  have Z : zc p m c cL_law 7 s #[.ref b] wsL_law RL g (fun q => s.heap.size ≤ q) (zEL bL) := ⟨⟨hx, hb, hml, hown, hl0⟩, hK, hA, hE, zStL⟩
  have hl := lv_entry ([.ref b]) (n := 7) (Nat.le_of_ble_eq_true rfl)
  rw [lg_entry_eq]
  generalize (lg_sl ([.ref b]) ++ List.replicate (7 - (lg_sl ([.ref b])).length) Slot.unset).toArray = ls at hl ⊢
  have hl : lv_has ls 7 [(0, .ref b)] := hl
  have hP : va_P g.1 vwCl [] s.heap := fun k q h => by simp at h
  have hD : va_D (fun q : Nat => s.heap.size ≤ q) [] := ⟨fun i j p q h => by simp at h, fun k q h => by simp at h⟩
  refine va_new (ci := 0) (fs := [.int 0, .int 0, .int 0, .int 0, .int 0, .int 0, .int 0, .long 0, .int 0, .int 0, .long 0]) (C := RX0) (T := TX0) (N := 11) hx hb hl0 inlX0 tyX0 tyX0_ok hown (hts (.classLink RL 8 RX0) (by decide +kernel)) (hts (.instantiable RX0 11) (by decide +kernel)) (hts (.initialized RX0) (by decide +kernel)) hK hP hD va_S.rf hA rfl (fun j hj => by rcases (by omega : j = 0 ∨ j = 1 ∨ j = 2 ∨ j = 3 ∨ j = 4 ∨ j = 5 ∨ j = 6 ∨ j = 7 ∨ j = 8 ∨ j = 9 ∨ j = 10) with q | q | q | q | q | q | q | q | q | q | q <;> subst q <;> rfl) (Nat.le_of_ble_eq_true rfl) (Nat.le_of_ble_eq_true rfl) dL_law_0 (fun h H hP hD hS => ?_)
  have X : zh g (fun q => s.heap.size ≤ q) (oQ h (0, 0, 0, 0, 0, 0, 0, 0, 0, 0, 0)) s.heap H [] := ⟨hP, hD, hS⟩
  refine lv_dup hx hb dL_law_3 rfl ?_
  refine zsubIv (mc := 0) (ms := 0) (n := 0) (As := []) (rest := [.ref h]) (wc := oQ h (0, 0, 0, 0, 0, 0, 0, 0, 0, 0, 0)) (wr := []) [0] [] rfl rfl rfl rfl (by decide) Z X zStL (fun _ _ h => h) (c_X0_init l g bL h) gL_law_X0_init rfl (by decide +kernel) (by decide +kernel) (by decide +kernel) rfl ⟨by decide, by decide, by decide +kernel⟩ ⟨Nat.le_of_ble_eq_true rfl, Nat.le_of_ble_eq_true rfl⟩ rfl rfl hl.1 (Nat.le_of_ble_eq_true rfl) dL_law_4 ⟨Nat.le_of_ble_eq_true rfl, Nat.le_of_ble_eq_true rfl⟩ (fun u H locs hp X => ?_)
  obtain rfl : u = (0, 0, 0, -1, -1, 0, 0, 0, 0, 0, 0) := hp
  refine lv_astore_n (lv' := [(1, .ref h), (0, .ref b)]) hx hb dL_law_7 rfl hl (by decide) rfl (fun ls hl => ?_)
  refine va_new (ci := 1) (fs := [.int 0, .null, .null, .int 0, .int 0, .int 0, .int 0, .int 0, .int 0, .null, .int 0, .null, .null, .null, .null, .null, .null]) (C := RX1) (T := TX1) (N := 17) hx hb hl0 inlX1 tyX1 tyX1_ok hown (hts (.classLink RL 49 RX1) (by decide +kernel)) (hts (.instantiable RX1 17) (by decide +kernel)) (hts (.initialized RX1) (by decide +kernel)) hK X.1 X.2.1 X.2.2 hA rfl (fun j hj => by rcases (by omega : j = 0 ∨ j = 1 ∨ j = 2 ∨ j = 3 ∨ j = 4 ∨ j = 5 ∨ j = 6 ∨ j = 7 ∨ j = 8 ∨ j = 9 ∨ j = 10 ∨ j = 11 ∨ j = 12 ∨ j = 13 ∨ j = 14 ∨ j = 15 ∨ j = 16) with q | q | q | q | q | q | q | q | q | q | q | q | q | q | q | q | q <;> subst q <;> rfl) (Nat.le_of_ble_eq_true rfl) (Nat.le_of_ble_eq_true rfl) dL_law_8 (fun h1 H hP hD hS => ?_)
  have X : zh g (fun q => s.heap.size ≤ q) (oQ h (0, 0, 0, -1, -1, 0, 0, 0, 0, 0, 0) ++ [(h1, .inr (1, [.int 0, .null, .null, .int 0, .int 0, .int 0, .int 0, .int 0, .int 0, .null, .int 0, .null, .null, .null, .null, .null, .null]))]) s.heap H locs := ⟨hP, hD, hS⟩
  refine lv_dup hx hb dL_law_11 rfl ?_
  refine zsubIv (mc := 9) (ms := 102) (n := 0) (As := []) (rest := [.ref h1]) (wc := [(h1, .inr (1, [.int 0, .null, .null, .int 0, .int 0, .int 0, .int 0, .int 0, .int 0, .null, .int 0, .null, .null, .null, .null, .null, .null]))]) (wr := oQ h (0, 0, 0, -1, -1, 0, 0, 0, 0, 0, 0)) [1] [0] rfl rfl rfl rfl (by decide) Z X zSt0 (fun _ _ _ => trivial) (c_X1_init l g h1) gL_law_X1_init rfl (by decide +kernel) (by decide +kernel) (by decide +kernel) rfl ⟨by decide, by decide, by decide +kernel⟩ ⟨Nat.le_of_ble_eq_true rfl, Nat.le_of_ble_eq_true rfl⟩ rfl rfl hl.1 (Nat.le_of_ble_eq_true rfl) dL_law_12 ⟨Nat.le_of_ble_eq_true rfl, Nat.le_of_ble_eq_true rfl⟩ (fun u H locs hp X2 => ?_)
  obtain ⟨a, w⟩ := u
  obtain ⟨ha, hw⟩ := hp
  have ha : a 0 = h1 := ha
  subst ha
  have X : zh g (fun q => s.heap.size ≤ q) (oQ h (0, 0, 0, -1, -1, 0, 0, 0, 0, 0, 0) ++ oM g a w) s.heap H locs := X2
  refine lv_astore_n (lv' := [(2, .ref (a 0)), (1, .ref h), (0, .ref b)]) hx hb dL_law_15 rfl hl (by decide) rfl (fun ls hl => ?_)
  refine lv_iconst (v := nI 1) hx hb dL_law_16 (by decide) ?_
  refine W.widen (k := 19) (n := 299) (by decide) (by decide) ?_
  show W p l e room_1 s m #[Value.ref b] below meth c H locs 19 299 (lw_Z below #[Value.ref b] s) (F0 m 17 ls [.int (nI 1)])
  have hKc : va_K g.1 vwCl (zT g) s := Z.2.1
  have e1 : (nI 1).toNatClampNeg = 1 := by decide
  have e2 : ¬ nI 1 < 0 := by decide
  refine va_newa (l := l) (R := room_1) (below := below) (meth := meth) (cl := vwCl) (tys := zT g) (D := g.1) (A := fun q => s.heap.size ≤ q) (H0 := s.heap) (ws := oQ h (0, 0, 0, -1, -1, 0, 0, 0, 0, 0, 0) ++ oM g a w) (atype := .long) (ty := .long) (n := nI 1) (N' := 1) (a0 := (1, .inr (.inl (fun _ => 0)))) hx hb (hts (.arrayClass .long) (by decide +kernel)) rfl hKc X.1 X.2.1 X.2.2 hA (fun _ => rfl) e2 e1 (by decide) (Nat.le_of_ble_eq_true rfl) (Nat.le_of_ble_eq_true rfl) dL_law_17 (fun o cA H hK1 hP hD hS => ?_)
  obtain rfl : cA = g.2.2.2 := znewL hKc hK1
  have X : zh g (fun q => s.heap.size ≤ q) ((oQ h (0, 0, 0, -1, -1, 0, 0, 0, 0, 0, 0) ++ oM g a w) ++ oOut g o (fun _ => 0)) s.heap H locs := ⟨hP, hD, hS⟩
  refine lv_astore_n (lv' := [(3, .ref o), (2, .ref (a 0)), (1, .ref h), (0, .ref b)]) hx hb dL_law_19 rfl hl (by decide) rfl (fun ls hl => ?_)
  refine lv_iconst (v := nI 0) hx hb dL_law_20 (by decide) ?_
  refine lv_istore (lv' := [(4, .int (nI 0)), (3, .ref o), (2, .ref (a 0)), (1, .ref h), (0, .ref b)]) hx hb dL_law_21 hl (by decide) rfl (fun ls hl => ?_)
  have hl : lv_has ls 7 (lvL b h (a 0) o 0) := ⟨hl.1, hl.2.1, fun q hq => hl.2.2 q (by
    simp only [List.mem_cons, List.not_mem_nil, or_false] at hq ⊢
    rcases hq with r | r | r | r | r <;> simp [r])⟩
  have X : zh g (fun q => s.heap.size ≤ q) (WL g h a o (0, 0, 0, -1, -1, 0, 0, 0, 0, 0, 0) w (fun _ => 0)) s.heap H locs := zhsub X [0, 11, 1, 2, 3, 4, 5, 6, 7, 8, 9, 10] (by decide) rfl
  show W p l e room_1 s m #[Value.ref b] below meth c H locs (20 + 0) (300 + 6 * 0) (lw_Z below #[Value.ref b] s) (F0 m 23 ls [])
  refine law_loop ⟨Z, hX, hbl, hL⟩ htr (fun H locs ls cells slots hS h1 h2 => ?_) L 0 (by omega) (by omega) (0, 0, 0, -1, -1, 0, 0, 0, 0, 0, 0) w (fun _ => 0) H locs ls ?_ X hl
  · refine lv_iconst (v := (1 : Int32)) hx hb dL_law_822 (by decide) ?_
    refine va_forget hS.2.2 ?_
    exact W.widen h1 h2 (lw_ret hx hb hr hlk dL_law_823)
  · rw [show w = _ from hw]
    refine ⟨0, rfl, ?_⟩
    have hP : ∀ s, s < 16 → filN (fun _ => 0) (-1) 16 s = -1 := fun s hs => by
      unfold filN
      simp [hs]
    refine ⟨⟨rfl, Or.inl rfl⟩, ⟨rfl, Or.inl rfl⟩, ⟨rfl, Or.inl rfl⟩, rfl, rfl, rfl, RB_0 hP (fun _ _ => rfl), fun q => absurd q (by decide), fun _ => ⟨by decide, NW_0 hP, rfl⟩, fun q => absurd rfl q⟩
