/-! THE LAYER: what a walk has (zc), what its heap holds (zh), a contract (zM), its start, its ends, its calls -/
abbrev zG : Type := va_G × (ClassId × (ClassId × ClassId))
abbrev zT (g : zG) : List (ClassId × FieldType) := [(g.2.1, .int)]
abbrev zK (g : zG) (U : State) : Prop := va_K g.1 vwCl (zT g) U
abbrev zEt : Type := (Nat → Prop) → State → Prop
def zE0 : zEt := fun _ _ => True
/-- what else is known of the state is of cells that stay -/
def zSt (E : zEt) : Prop := ∀ (A B : Nat → Prop) (s U : State), E A s → (∀ q : Nat, B q → A q) → s.WarmedH U.vm → (∀ q : Nat, q < s.heap.size → ¬ A q → U.heap[q]? = s.heap[q]?) → E B U
theorem zSt0 : zSt zE0 := fun _ _ _ _ _ _ _ _ => trivial
def zh (g : zG) (A : Nat → Prop) (ws : va_W) (H0 H : Heap) (locs : List Loc) : Prop := va_P g.1 vwCl ws H ∧ va_D A ws ∧ va_S A H0 H locs
def zc (p : Program) (m : MethodId) (c : Code) (cc : ByteArray) (nL : Nat) (s : State) (args : Array Value) (Ts : List Cond) (own : String) (g : zG) (A : Nat → Prop) (E : zEt) : Prop :=
  CallFix p m c cc nL s args Ts own ∧ zK g s ∧ (∀ q : Nat, s.heap.size ≤ q → A q) ∧ E A s ∧ zSt E
def zM (l : Launch) (y : MethodName) (wds : List Cond) (fr lo : Nat) (g : zG) (av : List Value) (ws : va_W) (E : zEt) (Qc : (Nat → Prop) → Array Value → State → Outcome → State → Prop) : Prop :=
  ∀ sz : Nat, Met l y wds { frames := fr, cells := 0, slots := 0, locals := lo } (va_Pc av (fun U => U.heap.size = sz ∧ zK g U ∧ va_P g.1 vwCl ws U.heap ∧ va_D (fun _ => True) ws ∧ E (va_A ws sz) U)) (Qc (va_A ws sz)) 0 0 (va_A ws sz)
def zQi (g : zG) {S : Type} (post : Int32 → S → Prop) (w : S → va_W) (A : Nat → Prop) : Array Value → State → Outcome → State → Prop := va_Qi post (fun u t => va_P g.1 vwCl (w u) t.heap ∧ va_D A (w u)) A
def zQl (g : zG) {S : Type} (post : Int64 → S → Prop) (w : S → va_W) (A : Nat → Prop) : Array Value → State → Outcome → State → Prop := va_Ql post (fun u t => va_P g.1 vwCl (w u) t.heap ∧ va_D A (w u)) A
def zQv (g : zG) {S : Type} (post : S → Prop) (w : S → va_W) (A : Nat → Prop) : Array Value → State → Outcome → State → Prop := va_Qv post (fun u t => va_P g.1 vwCl (w u) t.heap ∧ va_D A (w u)) A
theorem zblind {g : zG} {av : List Value} {ws : va_W} {E : zEt} (hst : zSt E) (sz : Nat) : FrameBlind (va_Pc av (fun U => U.heap.size = sz ∧ zK g U ∧ va_P g.1 vwCl ws U.heap ∧ va_D (fun _ => True) ws ∧ E (va_A ws sz) U)) := by
  intro a U gg mk q
  obtain ⟨q0, q1, qK, qP, qD, qE⟩ := q
  exact ⟨q0, q1, va_K.moved (u := U) (U := U.calling gg mk a) (Vm.Alike.refl U.vm) qK, qP, qD, hst _ _ U (U.calling gg mk a) qE (fun _ h => h) (State.WarmedH.refl U) (fun _ _ _ => rfl)⟩
theorem zstart {l : Launch} {y : MethodName} {wds ws' : List Cond} {fr lo : Nat} {g : zG} {av : List Value} {ws : va_W} {E : zEt} {Qc : (Nat → Prop) → Array Value → State → Outcome → State → Prop} {cc : ByteArray} {maxL : Nat} {ret : Option FieldType} {own : String}
    (ho : y.cls = own) (hy : plainName own = true) (hw : wds = Cond.code y cc maxL ret :: ws') (hst : zSt E) (hlen : (lg_sl av).length ≤ maxL)
    (body : ∀ (p : Program) (e : Env) (s : State) (m : MethodId) (below : List Frame) (meth : Method) (c : Code) (A : Nat → Prop), zc p m c cc maxL s av.toArray wds own g A E → meth.sig.returnType = ret → meth.locks = false → ∀ (H : Heap) (locs : List Loc), zh g A ws s.heap H locs → ∀ ls : Array Slot, lv_has ls maxL (lv_args 0 av) →
      W p l e { frames := fr, cells := 0, slots := 0, locals := lo } s m av.toArray below meth c H locs 0 0 (MQ below (Qc A) av.toArray s 0 0 A) (F0 m 0 ls [])) : zM l y wds fr lo g av ws E Qc := by
  subst ho
  intro sz
  refine Met.ofW (cc := cc) (maxL := maxL) (ret := ret) hy hw ?_
  intro p e s m args below meth c s₁ B hml hv
  obtain ⟨rfl, rfl, hK, hP, hD0, hE⟩ := hv
  have hts := atoms_spec (ws := wds) B.pre
  have hown : s.vm.findClass y.cls = some m.cls := findClass_of_methodNamed B.named
  rw [lg_entry_eq]
  exact body p e s m below meth c _ ⟨⟨B.exec, B.bytes, hml, hown, hts⟩, hK, fun q h => Or.inr h, hE, hst⟩ B.returns B.notSynchronized _ _ ⟨hP, hD0.self, va_S.rf⟩ _ (lv_entry av hlen)
section ZW
variable {p : Program} {l : Launch} {e : Env} {R : Room} {s : State} {m : MethodId} {args : Array Value} {below : List Frame} {meth : Method} {c : Code} {H : Heap} {locs : List Loc} {cells slots : Nat} {Q : State → Prop}
variable {cc : ByteArray} {nL : Nat} {Ts : List Cond} {own : String} {g : zG} {A : Nat → Prop} {E E' : zEt} {pc : Nat} {ls : Array Slot} {rest st0 : List Value} {ws : va_W}
theorem zreti {S : Type} {post : Int32 → S → Prop} {w : S → va_W} {v : Int32} {ty : FieldType} (Z : zc p m c cc nL s args Ts own g A E) (hr : meth.sig.returnType = some ty) (hlk : meth.locks = false) (u : S) (X : zh g A (w u) s.heap H locs) (hdg : decode cc pc = .ok (.ireturn, 1)) (hn : narrow ty (.int v) = .int v) (hp : post v u) :
    W p l e R s m args below meth c H locs cells slots (MQ below (zQi g post w A) args s cells slots A) (F0 m pc ls [.int v]) :=
  W.zret Z.1.1 Z.1.2.1 hr hn (fun t ht _ => ⟨⟨v, u, rfl, hp, by rw [ht]; exact X.1, X.2.1⟩, X.2.2.F ht⟩) X.2.2.2.2 hdg hlk
theorem zretl {S : Type} {post : Int64 → S → Prop} {w : S → va_W} {v : Int64} (Z : zc p m c cc nL s args Ts own g A E) (hr : meth.sig.returnType = some .long) (hlk : meth.locks = false) (u : S) (X : zh g A (w u) s.heap H locs) (hdg : decode cc pc = .ok (.lreturn, 1)) (hp : post v u) :
    W p l e R s m args below meth c H locs cells slots (MQ below (zQl g post w A) args s cells slots A) (F0 m pc ls [.long v]) :=
  W.lret Z.1.1 Z.1.2.1 hr (fun t ht _ => ⟨⟨v, u, rfl, hp, by rw [ht]; exact X.1, X.2.1⟩, X.2.2.F ht⟩) X.2.2.2.2 hdg hlk
theorem zretv {S : Type} {post : S → Prop} {w : S → va_W} (Z : zc p m c cc nL s args Ts own g A E) (hr : meth.sig.returnType = none) (hlk : meth.locks = false) (u : S) (X : zh g A (w u) s.heap H locs) (hdg : decode cc pc = .ok (.return_, 1)) (hp : post u) :
    W p l e R s m args below meth c H locs cells slots (MQ below (zQv g post w A) args s cells slots A) (F0 m pc ls []) :=
  W.vret Z.1.1 Z.1.2.1 hr (fun t ht _ => ⟨⟨u, rfl, hp, by rw [ht]; exact X.1, X.2.1⟩, X.2.2.F ht⟩) X.2.2.2.2 hdg hlk
theorem zfree (hA : ∀ q : Nat, s.heap.size ≤ q → A q) (X : zh g A ws s.heap H locs) : ∀ q, va_A ws H.size q → A q := by
  intro q h
  rcases h with ⟨k, x, h⟩ | h
  · exact X.2.1.2 k (q, x) h
  · exact hA q (Nat.le_trans X.2.2.1 h)
/-- what a callee that takes the whole world finds -/
theorem zpre {av : List Value} (Z : zc p m c cc nL s args Ts own g A E) (X : zh g A ws s.heap H locs) : ∀ U : State, U.heap = H → s.WarmedH U.vm → va_Pc av (fun U => U.heap.size = H.size ∧ zK g U ∧ va_P g.1 vwCl ws U.heap ∧ va_D (fun _ => True) ws ∧ E (va_A ws H.size) U) av.toArray U := by
  intro U hU hW
  refine ⟨rfl, by rw [hU], va_K.moved hW.alike Z.2.1, by rw [hU]; exact X.1, X.2.1.weaken (fun _ _ _ _ => trivial), ?_⟩
  exact Z.2.2.2.2 _ _ s U Z.2.2.2.1 (zfree Z.2.2.1 X) hW (fun q h1 h2 => by rw [hU]; exact X.2.2.2.1 q h1 h2)
/-- .. one that needs no world -/
theorem zpre0 {av : List Value} (hK : zK g s) : ∀ U : State, U.heap = H → s.WarmedH U.vm → va_Pc av (fun U => U.heap.size = H.size ∧ zK g U ∧ va_P g.1 vwCl [] U.heap ∧ va_D (fun _ => True) [] ∧ zE0 (va_A [] H.size) U) av.toArray U := by
  intro U hU hW
  exact ⟨rfl, by rw [hU], va_K.moved hW.alike hK, fun k q h => by simp at h, ⟨fun i j p q h => by simp at h, fun k q h => by simp at h⟩, trivial⟩
theorem zafter {A1 : Nat → Prop} {w1 : va_W} {t : State} {H1 : Heap} {locs1 : List Loc} (hfc : ∀ q, A1 q → A q) (ht : t.heap = H1) (hB : va_P g.1 vwCl w1 t.heap ∧ va_D A1 w1) (hS : va_S A s.heap H1 locs1) : zh g A w1 s.heap H1 locs1 :=
  ⟨by rw [← ht]; exact hB.1, hB.2.weaken (fun k q _ h => hfc _ h), hS⟩
theorem zkeep {H1 : Heap} {locs1 : List Loc} (X : zh g A ws s.heap H locs) (hk : ∀ q : Nat, q < H.size → ¬ va_A [] H.size q → H1[q]? = H[q]?) (hS : va_S A s.heap H1 locs1) : zh g A ws s.heap H1 locs1 := by
  refine ⟨fun k q hq => (X.1 k q hq).kept (hk _ (X.1 k q hq).lt ?_), X.2.1, hS⟩
  rintro (⟨k2, x, h⟩ | h)
  · simp at h
  · exact absurd (X.1 k q hq).lt (Nat.not_lt.mpr h)
theorem zfree0 (hA : ∀ q : Nat, s.heap.size ≤ q → A q) (X : zh g A ws s.heap H locs) : ∀ q, va_A [] H.size q → A q := by
  intro q h
  rcases h with ⟨k, x, h⟩ | h
  · simp at h
  · exact hA q (Nat.le_trans X.2.2.1 h)
theorem zcallVi {y : MethodName} {wds wds' : List Cond} {fr lo n idx maxL ci N : Nat} {b : Addr} {As : List Value} {S : Type} {post : Int32 → S → Prop} {w : S → va_W} {C : String} {T : u_T} {fs : List Value} {bytes : ByteArray} {ret : Option FieldType}
    (Z : zc p m c cc nL s args Ts own g A E) (X : zh g A ws s.heap H locs) (hM : zM l y wds fr lo g (.ref b :: As) ws E (zQi g post w)) (gi : GoodIn Ts (wsV own idx C y wds)) (hw : wds = Cond.code y bytes maxL ret :: wds')
    (hd : y.cls = C ∧ y.cls ≠ "java/lang/invoke/MethodHandle" ∧ y.cls ≠ "java/lang/invoke/VarHandle" ∧ (parseMethodDescriptor y.desc).map (fun d => d.parameters.length) = some n) (hR : fr + 1 ≤ R.frames ∧ 8 + (maxL + 11) + lo ≤ R.locals)
    (hci : vwCl[ci]? = some (C, T, N)) (hb0 : ws[0]? = some (b, .inr (ci, fs))) (hn : As.length = n) (hs : st0 = As.reverse ++ .ref b :: rest) (hsz : ls.size = nL) (hsum : (rest.map fun v => v.category).sum ≤ 8) (hdg : decode cc pc = .ok (.invokevirtual idx, 3)) (hcs : cells ≤ R.cells ∧ slots ≤ R.slots)
    (kk : ∀ (r : Int32) (u : S) (H1 : Heap) (locs1 : List Loc), post r u → zh g A (w u) s.heap H1 locs1 → W p l e R s m args below meth c H1 locs1 cells slots Q (F0 m (pc + 3) ls (.int r :: rest))) : W p l e R s m args below meth c H locs cells slots Q (F0 m pc ls st0) := by
  have hFc := zfree Z.2.2.1 X
  refine va_calli (va_runV (As := As) (rest := rest) Z.1 (hM H.size) (cwV n Z.1.2.2.2.2 gi hw rfl rfl hd hR) ⟨zblind Z.2.2.2.2 _, va_recv Z.2.1 X.1 hci hb0, zpre Z X⟩ rfl hn hsz hs (lv_room hsum) hdg hcs) X.2.2 (fun q _ h => hFc q h) hFc (fun r u t H1 locs1 ht hvm hp hB hz hk hS => ?_)
  exact kk r u H1 locs1 hp (zafter hFc ht hB hS)
theorem zcallVv {y : MethodName} {wds wds' : List Cond} {fr lo n idx maxL ci N : Nat} {b : Addr} {As : List Value} {S : Type} {post : S → Prop} {w : S → va_W} {C : String} {T : u_T} {fs : List Value} {bytes : ByteArray} {ret : Option FieldType}
    (Z : zc p m c cc nL s args Ts own g A E) (X : zh g A ws s.heap H locs) (hM : zM l y wds fr lo g (.ref b :: As) ws E (zQv g post w)) (gi : GoodIn Ts (wsV own idx C y wds)) (hw : wds = Cond.code y bytes maxL ret :: wds')
    (hd : y.cls = C ∧ y.cls ≠ "java/lang/invoke/MethodHandle" ∧ y.cls ≠ "java/lang/invoke/VarHandle" ∧ (parseMethodDescriptor y.desc).map (fun d => d.parameters.length) = some n) (hR : fr + 1 ≤ R.frames ∧ 8 + (maxL + 11) + lo ≤ R.locals)
    (hci : vwCl[ci]? = some (C, T, N)) (hb0 : ws[0]? = some (b, .inr (ci, fs))) (hn : As.length = n) (hs : st0 = As.reverse ++ .ref b :: rest) (hsz : ls.size = nL) (hsum : (rest.map fun v => v.category).sum ≤ 8) (hdg : decode cc pc = .ok (.invokevirtual idx, 3)) (hcs : cells ≤ R.cells ∧ slots ≤ R.slots)
    (kk : ∀ (u : S) (H1 : Heap) (locs1 : List Loc), post u → zh g A (w u) s.heap H1 locs1 → W p l e R s m args below meth c H1 locs1 cells slots Q (F0 m (pc + 3) ls rest)) : W p l e R s m args below meth c H locs cells slots Q (F0 m pc ls st0) := by
  have hFc := zfree Z.2.2.1 X
  refine va_callv (va_runV (As := As) (rest := rest) Z.1 (hM H.size) (cwV n Z.1.2.2.2.2 gi hw rfl rfl hd hR) ⟨zblind Z.2.2.2.2 _, va_recv Z.2.1 X.1 hci hb0, zpre Z X⟩ rfl hn hsz hs (lv_room hsum) hdg hcs) X.2.2 (fun q _ h => hFc q h) hFc (fun u t H1 locs1 ht hvm hp hB hz hk hS => ?_)
  exact kk u H1 locs1 hp (zafter hFc ht hB hS)
theorem zcallSi {y : MethodName} {wds wds' : List Cond} {fr lo n idx maxL : Nat} {As : List Value} {post : Int32 → Unit → Prop} {bytes : ByteArray} {ret : Option FieldType}
    (Z : zc p m c cc nL s args Ts own g A E) (X : zh g A ws s.heap H locs) (hM : zM l y wds fr lo g As [] zE0 (zQi g post (fun _ => []))) (gi : GoodIn Ts (va_wsS own idx y wds)) (hw : wds = Cond.code y bytes maxL ret :: wds')
    (hd : y.cls ≠ "java/lang/invoke/MethodHandle" ∧ y.cls ≠ "java/lang/invoke/VarHandle" ∧ (parseMethodDescriptor y.desc).map (fun d => d.parameters.length) = some n) (hR : fr + 1 ≤ R.frames ∧ 8 + (maxL + 11) + lo ≤ R.locals)
    (hn : As.length = n) (hs : st0 = As.reverse ++ rest) (hsz : ls.size = nL) (hsum : (rest.map fun v => v.category).sum ≤ 8) (hdg : decode cc pc = .ok (.invokestatic idx, 3)) (hcs : cells ≤ R.cells ∧ slots ≤ R.slots)
    (kk : ∀ (r : Int32) (H1 : Heap) (locs1 : List Loc), post r () → zh g A ws s.heap H1 locs1 → W p l e R s m args below meth c H1 locs1 cells slots Q (F0 m (pc + 3) ls (.int r :: rest))) : W p l e R s m args below meth c H locs cells slots Q (F0 m pc ls st0) := by
  have hFc := zfree0 Z.2.2.1 X
  refine va_calli (va_runS (As := As) (rest := rest) Z.1 (hM H.size) (va_cwS n Z.1.2.2.2.2 gi hw rfl rfl hd hR) ⟨zblind zSt0 _, zpre0 Z.2.1⟩ rfl hn hsz hs (lv_room hsum) hdg hcs) X.2.2 (fun q _ h => hFc q h) hFc (fun r u t H1 locs1 ht hvm hp hB hz hk hS => ?_)
  exact kk r H1 locs1 hp (zkeep X hk hS)
theorem zcallSl {y : MethodName} {wds wds' : List Cond} {fr lo n idx maxL : Nat} {As : List Value} {post : Int64 → Unit → Prop} {bytes : ByteArray} {ret : Option FieldType}
    (Z : zc p m c cc nL s args Ts own g A E) (X : zh g A ws s.heap H locs) (hM : zM l y wds fr lo g As [] zE0 (zQl g post (fun _ => []))) (gi : GoodIn Ts (va_wsS own idx y wds)) (hw : wds = Cond.code y bytes maxL ret :: wds')
    (hd : y.cls ≠ "java/lang/invoke/MethodHandle" ∧ y.cls ≠ "java/lang/invoke/VarHandle" ∧ (parseMethodDescriptor y.desc).map (fun d => d.parameters.length) = some n) (hR : fr + 1 ≤ R.frames ∧ 8 + (maxL + 11) + lo ≤ R.locals)
    (hn : As.length = n) (hs : st0 = As.reverse ++ rest) (hsz : ls.size = nL) (hsum : (rest.map fun v => v.category).sum ≤ 8) (hdg : decode cc pc = .ok (.invokestatic idx, 3)) (hcs : cells ≤ R.cells ∧ slots ≤ R.slots)
    (kk : ∀ (r : Int64) (H1 : Heap) (locs1 : List Loc), post r () → zh g A ws s.heap H1 locs1 → W p l e R s m args below meth c H1 locs1 cells slots Q (F0 m (pc + 3) ls (.long r :: rest))) : W p l e R s m args below meth c H locs cells slots Q (F0 m pc ls st0) := by
  have hFc := zfree0 Z.2.2.1 X
  refine va_calll (va_runS (As := As) (rest := rest) Z.1 (hM H.size) (va_cwS n Z.1.2.2.2.2 gi hw rfl rfl hd hR) ⟨zblind zSt0 _, zpre0 Z.2.1⟩ rfl hn hsz hs (lv_room hsum) hdg hcs) X.2.2 (fun q _ h => hFc q h) hFc (fun r u t H1 locs1 ht hvm hp hB hz hk hS => ?_)
  exact kk r H1 locs1 hp (zkeep X hk hS)
/-- fields of an object that stands at the place 0 -/
theorem zget {C : String} {T : u_T} {N ci index : Nat} {a : Addr} {fs : List Value} {v : Value} (Z : zc p m c cc nL s args Ts C g A E) (hin : ∀ w ∈ u_ws C T N, w ∈ Ts) (X : zh g A ws s.heap H locs) (hc : vwCl[ci]? = some (C, T, N)) (he : ws[0]? = some (a, .inr (ci, fs))) (k : Nat) (hk : k < N) (hlink : Cond.fieldLink C index (T k).1 (T k).2.1 (T k).2.2.1 ∈ Ts) (hv : fs[k]? = some v) (hdg : decode cc pc = .ok (.getfield index, 3))
    (kk : W p l e R s m args below meth c H locs cells slots Q (F0 m (pc + 3) ls (v :: rest))) : W p l e R s m args below meth c H locs cells slots Q (F0 m pc ls (.ref a :: rest)) :=
  va_get Z.1.1 Z.1.2.1 Z.1.2.2.2.2 hin Z.1.2.2.2.1 Z.2.1 X.1 0 he hc k hk (Z.1.2.2.2.2 _ hlink) (fun _ h => h) hv hdg kk
theorem zput {C : String} {T : u_T} {N ci index : Nat} {a : Addr} {fs : List Value} {v : Value} {ty : FieldType} (ty0 : Nat → FieldType) (hty : ∀ k, k < N → parseFieldDescriptor (T k).2.2.1 = some (ty0 k)) (hnm : ∀ a, a < N → ∀ b, b < N → a ≠ b → (T a).2.1 ≠ (T b).2.1)
    (Z : zc p m c cc nL s args Ts C g A E) (hin : ∀ w ∈ u_ws C T N, w ∈ Ts) (X : zh g A ws s.heap H locs) (hc : vwCl[ci]? = some (C, T, N)) (he : ws[0]? = some (a, .inr (ci, fs))) (k : Nat) (hk : k < N) (hlink : Cond.fieldLink C index (T k).1 (T k).2.1 (T k).2.2.1 ∈ Ts)
    (hfin : (T k).2.2.2 = false) (hd : parseFieldDescriptor (T k).2.2.1 = some ty) (hn : narrow ty v = v) (hfit : fits ty v = true) (hl : k < fs.length) (hdg : decode cc pc = .ok (.putfield index, 3))
    (kk : ∀ (H1 : Heap) (locs1 : List Loc), zh g A (ws.set 0 (a, .inr (ci, fs.set k v))) s.heap H1 locs1 → W p l e R s m args below meth c H1 locs1 cells slots Q (F0 m (pc + 3) ls rest)) : W p l e R s m args below meth c H locs cells slots Q (F0 m pc ls (v :: .ref a :: rest)) :=
  va_put (ty := ty) Z.1.1 Z.1.2.1 Z.1.2.2.2.2 hin ty0 hty hnm Z.1.2.2.2.1 Z.2.1 X.1 X.2.1 X.2.2 0 he hc k hk (Z.1.2.2.2.2 _ hlink) (fun _ h => h) hfin hd hn hfit hl hdg (fun H1 locs1 hP hD hS => kk H1 locs1 ⟨hP, hD, hS⟩)
/-- arrays of ints, of booleans (their place in the world, and in the types) -/
theorem zald {q0 n : Nat} {cA : ClassId} {a : Addr} {f : Nat → Int32} {x : Int32} (Z : zc p m c cc nL s args Ts own g A E) (X : zh g A ws s.heap H locs) (ha : ws[q0]? = some (a, .inl (cA, n, .inl f))) (ht : (zT g)[0]? = some (cA, .int)) (k : Nat) (hx : x = nI k) (hk : k < n) (hn : n < 2 ^ 31) (hdg : decode cc pc = .ok (.iaload, 1))
    (kk : W p l e R s m args below meth c H locs cells slots Q (F0 m (pc + 1) ls (.int (f k) :: rest))) : W p l e R s m args below meth c H locs cells slots Q (F0 m pc ls (.int x :: .ref a :: rest)) := by
  subst hx
  refine va_iald Z.1.1 Z.1.2.1 Z.2.1 X.1 q0 0 ha ht (vp_in_nI hk hn) hdg ?_
  rw [nI_clamp (Nat.lt_trans hk hn)]
  exact kk
theorem zast {q0 n : Nat} {cA : ClassId} {a : Addr} {f : Nat → Int32} {x v : Int32} (Z : zc p m c cc nL s args Ts own g A E) (X : zh g A ws s.heap H locs) (ha : ws[q0]? = some (a, .inl (cA, n, .inl f))) (ht : (zT g)[0]? = some (cA, .int)) (k : Nat) (hx : x = nI k) (hk : k < n) (hn : n < 2 ^ 31) (hdg : decode cc pc = .ok (.iastore, 1))
    (kk : ∀ (H1 : Heap) (locs1 : List Loc), zh g A (ws.set q0 (a, .inl (cA, n, .inl (upd f k v)))) s.heap H1 locs1 → W p l e R s m args below meth c H1 locs1 cells slots Q (F0 m (pc + 1) ls rest)) : W p l e R s m args below meth c H locs cells slots Q (F0 m pc ls (.int v :: .int x :: .ref a :: rest)) := by
  subst hx
  refine va_iast Z.1.1 Z.1.2.1 Z.2.1 X.1 X.2.1 X.2.2 q0 0 ha ht (vp_in_nI hk hn) hdg (fun H1 locs1 hP hD hS => ?_)
  rw [nI_clamp (Nat.lt_trans hk hn)] at hP hD
  exact kk H1 locs1 ⟨hP, hD, hS⟩
theorem zbld {q0 n : Nat} {cA : ClassId} {a : Addr} {f : Nat → Int32} {x : Int32} (Z : zc p m c cc nL s args Ts own g A E) (X : zh g A ws s.heap H locs) (ha : ws[q0]? = some (a, .inl (cA, n, .inl f))) (ht : (zT g)[1]? = some (cA, .boolean)) (k : Nat) (hx : x = nI k) (hk : k < n) (hn : n < 2 ^ 31) (hdg : decode cc pc = .ok (.baload, 1))
    (kk : W p l e R s m args below meth c H locs cells slots Q (F0 m (pc + 1) ls (.int (f k) :: rest))) : W p l e R s m args below meth c H locs cells slots Q (F0 m pc ls (.int x :: .ref a :: rest)) := by
  subst hx
  refine va_zald Z.1.1 Z.1.2.1 Z.2.1 X.1 q0 1 ha ht (vp_in_nI hk hn) hdg ?_
  rw [nI_clamp (Nat.lt_trans hk hn)]
  exact kk
theorem zbst {q0 n : Nat} {cA : ClassId} {a : Addr} {f : Nat → Int32} {x v : Int32} (Z : zc p m c cc nL s args Ts own g A E) (X : zh g A ws s.heap H locs) (ha : ws[q0]? = some (a, .inl (cA, n, .inl f))) (ht : (zT g)[1]? = some (cA, .boolean)) (k : Nat) (hx : x = nI k) (hk : k < n) (hn : n < 2 ^ 31) (hv : vp_nar .boolean v = v) (hdg : decode cc pc = .ok (.bastore, 1))
    (kk : ∀ (H1 : Heap) (locs1 : List Loc), zh g A (ws.set q0 (a, .inl (cA, n, .inl (upd f k v)))) s.heap H1 locs1 → W p l e R s m args below meth c H1 locs1 cells slots Q (F0 m (pc + 1) ls rest)) : W p l e R s m args below meth c H locs cells slots Q (F0 m pc ls (.int v :: .int x :: .ref a :: rest)) := by
  subst hx
  refine va_zast Z.1.1 Z.1.2.1 Z.2.1 X.1 X.2.1 X.2.2 q0 1 ha ht (vp_in_nI hk hn) hdg (fun H1 locs1 hP hD hS => ?_)
  rw [nI_clamp (Nat.lt_trans hk hn), hv] at hP hD
  exact kk H1 locs1 ⟨hP, hD, hS⟩
end ZW
