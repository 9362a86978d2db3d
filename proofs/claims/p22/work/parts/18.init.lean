/-! the constructors -/
def zMk (l : Launch) (y : MethodName) (wds : List Cond) (fr lo mc ms : Nat) (g : zG) (av : List Value) (ws : va_W) (E : zEt) (Qc : (Nat → Prop) → Array Value → State → Outcome → State → Prop) : Prop :=
  ∀ sz : Nat, Met l y wds { frames := fr, cells := mc, slots := ms, locals := lo } (va_Pc av (fun U => U.heap.size = sz ∧ zK g U ∧ va_P g.1 vwCl ws U.heap ∧ va_D (fun _ => True) ws ∧ E (va_A ws sz) U)) (Qc (va_A ws sz)) mc ms (va_A ws sz)
theorem zstartk {l : Launch} {y : MethodName} {wds ws' : List Cond} {fr lo mc ms : Nat} {g : zG} {av : List Value} {ws : va_W} {E : zEt} {Qc : (Nat → Prop) → Array Value → State → Outcome → State → Prop} {cc : ByteArray} {maxL : Nat} {ret : Option FieldType} {own : String}
    (ho : y.cls = own) (hy : plainName own = true) (hw : wds = Cond.code y cc maxL ret :: ws') (hst : zSt E) (hlen : (lg_sl av).length ≤ maxL)
    (body : ∀ (p : Program) (e : Env) (s : State) (m : MethodId) (below : List Frame) (meth : Method) (c : Code) (A : Nat → Prop), zc p m c cc maxL s av.toArray wds own g A E → meth.sig.returnType = ret → meth.locks = false → meth.name = y.name → ∀ (H : Heap) (locs : List Loc), zh g A ws s.heap H locs → ∀ ls : Array Slot, lv_has ls maxL (lv_args 0 av) →
      W p l e { frames := fr, cells := mc, slots := ms, locals := lo } s m av.toArray below meth c H locs 0 0 (MQ below (Qc A) av.toArray s mc ms A) (F0 m 0 ls [])) : zMk l y wds fr lo mc ms g av ws E Qc := by
  subst ho
  intro sz
  refine Met.ofW (cc := cc) (maxL := maxL) (ret := ret) hy hw ?_
  intro p e s m args below meth c s₁ B hml hv
  obtain ⟨rfl, rfl, hK, hP, hD0, hE⟩ := hv
  have hts := atoms_spec (ws := wds) B.pre
  have hown : s.vm.findClass y.cls = some m.cls := findClass_of_methodNamed B.named
  rw [lg_entry_eq]
  exact body p e s m below meth c _ ⟨⟨B.exec, B.bytes, hml, hown, hts⟩, hK, fun q h => Or.inr h, hE, hst⟩ B.returns B.notSynchronized (name_of_methodNamed B.named B.method).1 _ _ ⟨hP, hD0.self, va_S.rf⟩ _ (lv_entry av hlen)
theorem znewI {g : zG} {s : State} {cA : ClassId} (h : zK g s) (h2 : va_K g.1 vwCl (zT g ++ [(cA, .int)]) s) : cA = g.2.1 := by
  have h1 := (h.2 0 _ rfl).2
  have h3 := (h2.2 1 _ rfl).2
  exact Option.some.inj (h3.symm.trans h1)
theorem inw_X0_init : ∀ w ∈ wsX00, w ∈ wsX0_init := by decide +kernel
theorem lk_X0_init_9 : Cond.fieldLink RX0 9 "Quarterboard" "held" "I" ∈ wsX0_init := by decide +kernel
theorem lk_X0_init_13 : Cond.fieldLink RX0 13 "Quarterboard" "victor" "I" ∈ wsX0_init := by decide +kernel
def P_X0_init : QS → Prop := fun u => u = (0, 0, 0, -1, -1, 0, 0, 0, 0, 0, 0)
set_option maxHeartbeats 600000 in
set_option maxRecDepth 100000 in
theorem c_X0_init (l : Launch) (g : zG) (bL h : Nat)   : zM l yX0_init wsX0_init 1 40 g [.ref h] (oQ h (0, 0, 0, 0, 0, 0, 0, 0, 0, 0, 0)) (zEL bL) (zQv g (P_X0_init) (oQ h)) := by
  refine zstart (cc := cX0_init) (maxL := 1) (ret := none) (own := RX0) rfl (by decide) rfl zStL (Nat.le_of_ble_eq_true rfl) ?_
  intro p e s m below meth c A Z hr hlk H locs X ls hl
  have hx := Z.1.1
  have hb := Z.1.2.1
  have hin : ∀ w ∈ wsX00, w ∈ wsX0_init := inw_X0_init
  have hl : lv_has ls 1 [(0, .ref h)] := hl
  have X : zh g A (oQ h (0, 0, 0, 0, 0, 0, 0, 0, 0, 0, 0)) s.heap H locs := X
  refine lv_aload_n hx hb dX0_init_0 rfl (lv_at hl 0 rfl) ?_
  refine W.objInit hx hb Z.1.2.2.2.1 (Z.1.2.2.2.2 (.methodLink RX0 1 objectInit) (by decide +kernel)) (Z.1.2.2.2.2 (.instanceMethod objectInit) (by decide +kernel)) (Z.1.2.2.2.2 (.code objectInit ⟨#[0xb1]⟩ 1 none) (by decide +kernel)) rfl (by rw [Z.1.2.2.1]; exact hl.1) rfl dX0_init_1 (Nat.le_of_ble_eq_true rfl) (Nat.le_of_ble_eq_true rfl) ?_
  refine W.eq (g2 := F0 m 4 ls []) rfl ?_
  refine lv_aload_n hx hb dX0_init_4 rfl (lv_at hl 0 rfl) ?_
  refine lv_iconst (v := (-1 : Int32)) hx hb dX0_init_5 (by decide) ?_
  refine zput (ty := .int) (fs := [.int 0, .int 0, .int 0, .int 0, .int 0, .int 0, .int 0, .long 0, .int 0, .int 0, .long 0]) (v := .int (-1 : Int32)) tyX0 tyX0_ok nmX0 Z hin X (ci := 0) (C := RX0) (T := TX0) (N := 11) rfl rfl 3 (by decide) lk_X0_init_9 rfl (by decide +kernel) rfl rfl (Nat.le_of_ble_eq_true rfl) dX0_init_6 (fun H locs X => ?_)
  have X : zh g A (oQ h (0, 0, 0, (-1 : Int32), 0, 0, 0, 0, 0, 0, 0)) s.heap H locs := X
  refine lv_aload_n hx hb dX0_init_9 rfl (lv_at hl 0 rfl) ?_
  refine lv_iconst (v := (-1 : Int32)) hx hb dX0_init_10 (by decide) ?_
  refine zput (ty := .int) (fs := [.int 0, .int 0, .int 0, .int (-1 : Int32), .int 0, .int 0, .int 0, .long 0, .int 0, .int 0, .long 0]) (v := .int (-1 : Int32)) tyX0 tyX0_ok nmX0 Z hin X (ci := 0) (C := RX0) (T := TX0) (N := 11) rfl rfl 4 (by decide) lk_X0_init_13 rfl (by decide +kernel) rfl rfl (Nat.le_of_ble_eq_true rfl) dX0_init_11 (fun H locs X => ?_)
  have X : zh g A (oQ h (0, 0, 0, (-1 : Int32), (-1 : Int32), 0, 0, 0, 0, 0, 0)) s.heap H locs := X
  exact zretv Z hr hlk (0, 0, 0, (-1 : Int32), (-1 : Int32), 0, 0, 0, 0, 0, 0) X dX0_init_14 (rfl)
