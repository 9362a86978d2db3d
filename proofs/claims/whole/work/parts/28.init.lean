/-! the constructors -/
def zMk (l : Launch) (y : MethodName) (wds : List Cond) (fr lo mc ms : Nat) (g : zG) (av : List Value) (ws : va_W) (E : zEt) (Qc : (Nat → Prop) → Array Value → State → Outcome → State → Prop) : Prop :=
  ∀ sz : Nat, Met l y wds { frames := fr, cells := mc, slots := ms, locals := lo } (va_Pc av (fun U => U.heap.size = sz ∧ zK g U ∧ va_P g.1 vwCl ws U.heap ∧ va_D (fun _ => True) ws ∧ E (va_A ws sz) U)) (Qc (va_A ws sz)) mc ms (va_A ws sz)
theorem zstartk {l : Launch} {y : MethodName} {wds ws' : List Cond} {fr lo mc ms : Nat} {g : zG} {av : List Value} {ws : va_W} {E : zEt} {Qc : (Nat → Prop) → Array Value → State → Outcome → State → Prop} {cc : ByteArray} {maxL : Nat} {ret : Option FieldType} {own : String}
    (ho : y.cls = own) (hy : plainName own = true) (hw : wds = Cond.code y cc maxL ret :: ws') (hst : zSt E) (hlen : (lg_sl av).length ≤ maxL)
    (body : ∀ (p : Program) (e : Env) (s : State) (m : MethodId) (below : List Frame) (meth : Method) (c : Code) (A : Nat → Prop), zc p m c cc maxL s av.toArray wds own g A E → meth.sig.returnType = ret → meth.locks = false → meth.name = y.name → ∀ (H : Heap) (locs : List Loc), zh g A ws s.heap H locs → ∀ ls : Array Slot, lv_has ls maxL (lv_args 0 av) →
      W p l e { frames := fr, cells := mc, slots := ms, locals := lo } s m av.toArray below meth c H locs 0 0 (MQ below (Qc A) av.toArray s mc ms A) (F0 m 0 ls [])) : zMk l y wds fr lo mc ms g av ws E Qc := by
  subst ho
  intro sz
  refine Met.ofW (cc := cc) (maxL := maxL) (ret := ret) hy hw ?_
  intro p e s m args below meth c s₁ B hml hv
  obtain ⟨rfl, rfl, hK, hP, hD0, hE⟩ := hv
  have hts := atoms_spec (ws := wds) B.pre
  have hown : s.vm.findClass y.cls = some m.cls := findClass_of_methodNamed B.named
  rw [lg_entry_eq]
  exact body p e s m below meth c _ ⟨⟨B.exec, B.bytes, hml, hown, hts⟩, hK, fun q h => Or.inr h, hE, hst⟩ B.returns B.notSynchronized (name_of_methodNamed B.named B.method).1 _ _ ⟨hP, hD0.self, va_S.rf⟩ _ (lv_entry av hlen)
theorem znewI {g : zG} {s : State} {cA : ClassId} (h : zK g s) (h2 : va_K g.1 vwCl (zT g ++ [(cA, .int)]) s) : cA = g.2.1 := by
  have h1 := (h.2 0 _ rfl).2
  have h3 := (h2.2 3 _ rfl).2
  exact Option.some.inj (h3.symm.trans h1)
theorem znewZ {g : zG} {s : State} {cA : ClassId} (h : zK g s) (h2 : va_K g.1 vwCl (zT g ++ [(cA, .boolean)]) s) : cA = g.2.2.1 := by
  have h1 := (h.2 1 _ rfl).2
  have h3 := (h2.2 3 _ rfl).2
  exact Option.some.inj (h3.symm.trans h1)
theorem znewL {g : zG} {s : State} {cA : ClassId} (h : zK g s) (h2 : va_K g.1 vwCl (zT g ++ [(cA, .long)]) s) : cA = g.2.2.2 := by
  have h1 := (h.2 2 _ rfl).2
  have h3 := (h2.2 3 _ rfl).2
  exact Option.some.inj (h3.symm.trans h1)
theorem inw_X0_init : ∀ w ∈ wsX00, w ∈ wsX0_init := by decide +kernel
theorem lk_X0_init_9 : Cond.fieldLink RX0 9 "Quarterboard" "held" "I" ∈ wsX0_init := by decide +kernel
theorem lk_X0_init_13 : Cond.fieldLink RX0 13 "Quarterboard" "victor" "I" ∈ wsX0_init := by decide +kernel
def P_X0_init : QS → Prop := fun u => u = (0, 0, 0, -1, -1, 0, 0, 0, 0, 0, 0)
set_option maxHeartbeats 600000 in
set_option maxRecDepth 100000 in
theorem c_X0_init (l : Launch) (g : zG) (bL h : Nat)   : zM l yX0_init wsX0_init 1 40 g [.ref h] (oQ h (0, 0, 0, 0, 0, 0, 0, 0, 0, 0, 0)) (zEL bL) (zQv g (P_X0_init) (oQ h)) := by
  refine zstart (cc := cX0_init) (maxL := 1) (ret := none) (own := RX0) rfl (by decide) rfl zStL (Nat.le_of_ble_eq_true rfl) ?_
  intro p e s m below meth c A Z hr hlk H locs X ls hl
  have hx := Z.1.1
  have hb := Z.1.2.1
  have hin : ∀ w ∈ wsX00, w ∈ wsX0_init := inw_X0_init
  have hl : lv_has ls 1 [(0, .ref h)] := hl
  have X : zh g A (oQ h (0, 0, 0, 0, 0, 0, 0, 0, 0, 0, 0)) s.heap H locs := X
  refine lv_aload_n hx hb dX0_init_0 rfl (lv_at hl 0 rfl) ?_
  refine W.objInit hx hb Z.1.2.2.2.1 (Z.1.2.2.2.2 (.methodLink RX0 1 objectInit) (by decide +kernel)) (Z.1.2.2.2.2 (.instanceMethod objectInit) (by decide +kernel)) (Z.1.2.2.2.2 (.code objectInit ⟨#[0xb1]⟩ 1 none) (by decide +kernel)) rfl (by rw [Z.1.2.2.1]; exact hl.1) rfl dX0_init_1 (Nat.le_of_ble_eq_true rfl) (Nat.le_of_ble_eq_true rfl) ?_
  refine W.eq (g2 := F0 m 4 ls []) rfl ?_
  refine lv_aload_n hx hb dX0_init_4 rfl (lv_at hl 0 rfl) ?_
  refine lv_iconst (v := (-1 : Int32)) hx hb dX0_init_5 (by decide) ?_
  refine zput (ty := .int) (fs := [.int 0, .int 0, .int 0, .int 0, .int 0, .int 0, .int 0, .long 0, .int 0, .int 0, .long 0]) (v := .int (-1 : Int32)) tyX0 tyX0_ok nmX0 Z hin X (ci := 0) (C := RX0) (T := TX0) (N := 11) rfl rfl 3 (by decide) lk_X0_init_9 rfl (by decide +kernel) rfl rfl (Nat.le_of_ble_eq_true rfl) dX0_init_6 (fun H locs X => ?_)
  have X : zh g A (oQ h (0, 0, 0, (-1 : Int32), 0, 0, 0, 0, 0, 0, 0)) s.heap H locs := X
  refine lv_aload_n hx hb dX0_init_9 rfl (lv_at hl 0 rfl) ?_
  refine lv_iconst (v := (-1 : Int32)) hx hb dX0_init_10 (by decide) ?_
  refine zput (ty := .int) (fs := [.int 0, .int 0, .int 0, .int (-1 : Int32), .int 0, .int 0, .int 0, .long 0, .int 0, .int 0, .long 0]) (v := .int (-1 : Int32)) tyX0 tyX0_ok nmX0 Z hin X (ci := 0) (C := RX0) (T := TX0) (N := 11) rfl rfl 4 (by decide) lk_X0_init_13 rfl (by decide +kernel) rfl rfl (Nat.le_of_ble_eq_true rfl) dX0_init_11 (fun H locs X => ?_)
  have X : zh g A (oQ h (0, 0, 0, (-1 : Int32), (-1 : Int32), 0, 0, 0, 0, 0, 0)) s.heap H locs := X
  exact zretv Z hr hlk (0, 0, 0, (-1 : Int32), (-1 : Int32), 0, 0, 0, 0, 0, 0) X dX0_init_14 (rfl)
def P_X1_init (h0 : Nat) : (Nat → Nat) × MS → Prop := fun u => u.1 0 = h0 ∧ u.2 = (0, nI 0, -1, 0, 0, -1, 0, 0, filN (fun _ => 0) (-1) 16, fun _ => 0, fun _ => 0, fun _ => 0, fun _ => 0, fun _ => 0, fun _ => 0, fun _ => 0, fun _ => 0)
theorem inw_X1_init : ∀ w ∈ wsX10, w ∈ wsX1_init := by decide +kernel
theorem lk_X1_init_7 : Cond.fieldLink RX1 7 "QuarterboardModel" "piece" "[I" ∈ wsX1_init := by decide +kernel
theorem lk_X1_init_13 : Cond.fieldLink RX1 13 "QuarterboardModel" "isOn" "[Z" ∈ wsX1_init := by decide +kernel
theorem lk_X1_init_17 : Cond.fieldLink RX1 17 "QuarterboardModel" "hand" "I" ∈ wsX1_init := by decide +kernel
theorem lk_X1_init_21 : Cond.fieldLink RX1 21 "QuarterboardModel" "phase" "I" ∈ wsX1_init := by decide +kernel
theorem lk_X1_init_24 : Cond.fieldLink RX1 24 "QuarterboardModel" "winner" "I" ∈ wsX1_init := by decide +kernel
theorem lk_X1_init_27 : Cond.fieldLink RX1 27 "QuarterboardModel" "kept" "[I" ∈ wsX1_init := by decide +kernel
theorem lk_X1_init_30 : Cond.fieldLink RX1 30 "QuarterboardModel" "kind" "[I" ∈ wsX1_init := by decide +kernel
theorem lk_X1_init_33 : Cond.fieldLink RX1 33 "QuarterboardModel" "left" "[I" ∈ wsX1_init := by decide +kernel
theorem lk_X1_init_36 : Cond.fieldLink RX1 36 "QuarterboardModel" "choice" "[I" ∈ wsX1_init := by decide +kernel
theorem lk_X1_init_39 : Cond.fieldLink RX1 39 "QuarterboardModel" "best" "[I" ∈ wsX1_init := by decide +kernel
theorem lk_X1_init_42 : Cond.fieldLink RX1 42 "QuarterboardModel" "given" "[I" ∈ wsX1_init := by decide +kernel
theorem lk_X1_init_45 : Cond.fieldLink RX1 45 "QuarterboardModel" "marks" "[I" ∈ wsX1_init := by decide +kernel
set_option maxHeartbeats 2000000 in
set_option maxRecDepth 100000 in
theorem c_X1_init (l : Launch) (g : zG) (h0 : Nat) : zMk l yX1_init wsX1_init 1 60 9 102 g [.ref h0] [(h0, .inr (1, [.int 0, .null, .null, .int 0, .int 0, .int 0, .int 0, .int 0, .int 0, .null, .int 0, .null, .null, .null, .null, .null, .null]))] zE0 (zQv g (P_X1_init h0) (fun u : (Nat → Nat) × MS => oM g u.1 u.2)) := by
  refine zstartk (cc := cX1_init) (maxL := 2) (ret := none) (own := RX1) rfl (by decide) rfl zSt0 (Nat.le_of_ble_eq_true rfl) ?_
  intro p e s m below meth c A Z hr hlk hnm H locs X ls hl
  have hx := Z.1.1
  have hb := Z.1.2.1
  have hin : ∀ w ∈ wsX10, w ∈ wsX1_init := inw_X1_init
  have hown := Z.1.2.2.2.1
  have hts := Z.1.2.2.2.2
  have hl : lv_has ls 2 [(0, .ref h0)] := hl
  refine lv_aload_n hx hb dX1_init_0 rfl (lv_at hl 0 rfl) ?_
  refine W.objInit hx hb hown (hts (.methodLink RX1 1 objectInit) (by decide +kernel)) (hts (.instanceMethod objectInit) (by decide +kernel)) (hts (.code objectInit ⟨#[0xb1]⟩ 1 none) (by decide +kernel)) rfl (by rw [Z.1.2.2.1]; exact hl.1) rfl dX1_init_1 (Nat.le_of_ble_eq_true rfl) (Nat.le_of_ble_eq_true rfl) ?_
  refine W.eq (g2 := F0 m 4 ls []) rfl ?_
  refine lv_aload_n hx hb dX1_init_4 rfl (lv_at hl 0 rfl) ?_
  refine lv_bipush (v := (16 : Int32)) hx hb dX1_init_5 (by decide) ?_
  refine va_newa (atype := .int) (ty := .int) (n := (16 : Int32)) (N' := 16) (a0 := (16, .inl (fun _ => 0))) hx hb (hts (.arrayClass .int) (by decide +kernel)) rfl Z.2.1 X.1 X.2.1 X.2.2 Z.2.2.1 (fun _ => rfl) (by decide) (by decide) (by decide) (Nat.le_of_ble_eq_true rfl) (Nat.le_of_ble_eq_true rfl) dX1_init_7 (fun q1 cA1 H hK1 hP hD hS => ?_)
  obtain rfl : cA1 = g.2.1 := znewI Z.2.1 hK1
  have X : zh g A [(h0, .inr (1, [.int 0, .null, .null, .int 0, .int 0, .int 0, .int 0, .int 0, .int 0, .null, .int 0, .null, .null, .null, .null, .null, .null])), (q1, .inl (g.2.1, 16, .inl (fun _ => 0)))] s.heap H locs := ⟨hP, hD, hS⟩
  refine W.widen (k := 1) (n := 16) (by decide) (by decide) ?_
  refine va_putF (D := g.1) (ci := 1) (v := .ref q1) (ty := .array .int) (C := RX1) (T := TX1) (N := 17) (fs := [.int 0, .null, .null, .int 0, .int 0, .int 0, .int 0, .int 0, .int 0, .null, .int 0, .null, .null, .null, .null, .null, .null]) hx hb hts hin tyX1 tyX1_ok nmX1 hown Z.2.1 X.1 X.2.1 X.2.2 0 rfl rfl 1 (by decide) (hts _ lk_X1_init_7) (fun _ h9 => h9) rfl hnm rfl (by decide +kernel) rfl rfl (Nat.le_of_ble_eq_true rfl) dX1_init_9 (fun H locs hP hD hS => ?_)
  have X : zh g A [(h0, .inr (1, [.int 0, .ref q1, .null, .int 0, .int 0, .int 0, .int 0, .int 0, .int 0, .null, .int 0, .null, .null, .null, .null, .null, .null])), (q1, .inl (g.2.1, 16, .inl (fun _ => 0)))] s.heap H locs := ⟨hP, hD, hS⟩
  refine lv_aload_n hx hb dX1_init_12 rfl (lv_at hl 0 rfl) ?_
  refine lv_bipush (v := (16 : Int32)) hx hb dX1_init_13 (by decide) ?_
  refine va_newa (atype := .boolean) (ty := .boolean) (n := (16 : Int32)) (N' := 16) (a0 := (16, .inl (fun _ => 0))) hx hb (hts (.arrayClass .boolean) (by decide +kernel)) rfl Z.2.1 X.1 X.2.1 X.2.2 Z.2.2.1 (fun _ => rfl) (by decide) (by decide) (by decide) (Nat.le_of_ble_eq_true rfl) (Nat.le_of_ble_eq_true rfl) dX1_init_15 (fun q2 cA2 H hK2 hP hD hS => ?_)
  obtain rfl : cA2 = g.2.2.1 := znewZ Z.2.1 hK2
  have X : zh g A [(h0, .inr (1, [.int 0, .ref q1, .null, .int 0, .int 0, .int 0, .int 0, .int 0, .int 0, .null, .int 0, .null, .null, .null, .null, .null, .null])), (q1, .inl (g.2.1, 16, .inl (fun _ => 0))), (q2, .inl (g.2.2.1, 16, .inl (fun _ => 0)))] s.heap H locs := ⟨hP, hD, hS⟩
  refine W.widen (k := 2) (n := 32) (by decide) (by decide) ?_
  refine va_putF (D := g.1) (ci := 1) (v := .ref q2) (ty := .array .boolean) (C := RX1) (T := TX1) (N := 17) (fs := [.int 0, .ref q1, .null, .int 0, .int 0, .int 0, .int 0, .int 0, .int 0, .null, .int 0, .null, .null, .null, .null, .null, .null]) hx hb hts hin tyX1 tyX1_ok nmX1 hown Z.2.1 X.1 X.2.1 X.2.2 0 rfl rfl 2 (by decide) (hts _ lk_X1_init_13) (fun _ h9 => h9) rfl hnm rfl (by decide +kernel) rfl rfl (Nat.le_of_ble_eq_true rfl) dX1_init_17 (fun H locs hP hD hS => ?_)
  have X : zh g A [(h0, .inr (1, [.int 0, .ref q1, .ref q2, .int 0, .int 0, .int 0, .int 0, .int 0, .int 0, .null, .int 0, .null, .null, .null, .null, .null, .null])), (q1, .inl (g.2.1, 16, .inl (fun _ => 0))), (q2, .inl (g.2.2.1, 16, .inl (fun _ => 0)))] s.heap H locs := ⟨hP, hD, hS⟩
  refine lv_aload_n hx hb dX1_init_20 rfl (lv_at hl 0 rfl) ?_
  refine lv_iconst (v := (-1 : Int32)) hx hb dX1_init_21 (by decide) ?_
  refine va_put (D := g.1) (ci := 1) (v := .int (-1 : Int32)) (ty := .int) (C := RX1) (T := TX1) (N := 17) (fs := [.int 0, .ref q1, .ref q2, .int 0, .int 0, .int 0, .int 0, .int 0, .int 0, .null, .int 0, .null, .null, .null, .null, .null, .null]) hx hb hts hin tyX1 tyX1_ok nmX1 hown Z.2.1 X.1 X.2.1 X.2.2 0 rfl rfl 4 (by decide) (hts _ lk_X1_init_17) (fun _ h9 => h9) rfl (by decide +kernel) rfl rfl (Nat.le_of_ble_eq_true rfl) dX1_init_22 (fun H locs hP hD hS => ?_)
  have X : zh g A [(h0, .inr (1, [.int 0, .ref q1, .ref q2, .int 0, .int (-1 : Int32), .int 0, .int 0, .int 0, .int 0, .null, .int 0, .null, .null, .null, .null, .null, .null])), (q1, .inl (g.2.1, 16, .inl (fun _ => 0))), (q2, .inl (g.2.2.1, 16, .inl (fun _ => 0)))] s.heap H locs := ⟨hP, hD, hS⟩
  refine lv_aload_n hx hb dX1_init_25 rfl (lv_at hl 0 rfl) ?_
  refine lv_iconst (v := (0 : Int32)) hx hb dX1_init_26 (by decide) ?_
  refine va_put (D := g.1) (ci := 1) (v := .int (0 : Int32)) (ty := .int) (C := RX1) (T := TX1) (N := 17) (fs := [.int 0, .ref q1, .ref q2, .int 0, .int (-1 : Int32), .int 0, .int 0, .int 0, .int 0, .null, .int 0, .null, .null, .null, .null, .null, .null]) hx hb hts hin tyX1 tyX1_ok nmX1 hown Z.2.1 X.1 X.2.1 X.2.2 0 rfl rfl 5 (by decide) (hts _ lk_X1_init_21) (fun _ h9 => h9) rfl (by decide +kernel) rfl rfl (Nat.le_of_ble_eq_true rfl) dX1_init_27 (fun H locs hP hD hS => ?_)
  have X : zh g A [(h0, .inr (1, [.int 0, .ref q1, .ref q2, .int 0, .int (-1 : Int32), .int (0 : Int32), .int 0, .int 0, .int 0, .null, .int 0, .null, .null, .null, .null, .null, .null])), (q1, .inl (g.2.1, 16, .inl (fun _ => 0))), (q2, .inl (g.2.2.1, 16, .inl (fun _ => 0)))] s.heap H locs := ⟨hP, hD, hS⟩
  refine lv_aload_n hx hb dX1_init_30 rfl (lv_at hl 0 rfl) ?_
  refine lv_iconst (v := (-1 : Int32)) hx hb dX1_init_31 (by decide) ?_
  refine va_put (D := g.1) (ci := 1) (v := .int (-1 : Int32)) (ty := .int) (C := RX1) (T := TX1) (N := 17) (fs := [.int 0, .ref q1, .ref q2, .int 0, .int (-1 : Int32), .int (0 : Int32), .int 0, .int 0, .int 0, .null, .int 0, .null, .null, .null, .null, .null, .null]) hx hb hts hin tyX1 tyX1_ok nmX1 hown Z.2.1 X.1 X.2.1 X.2.2 0 rfl rfl 7 (by decide) (hts _ lk_X1_init_24) (fun _ h9 => h9) rfl (by decide +kernel) rfl rfl (Nat.le_of_ble_eq_true rfl) dX1_init_32 (fun H locs hP hD hS => ?_)
  have X : zh g A [(h0, .inr (1, [.int 0, .ref q1, .ref q2, .int 0, .int (-1 : Int32), .int (0 : Int32), .int 0, .int (-1 : Int32), .int 0, .null, .int 0, .null, .null, .null, .null, .null, .null])), (q1, .inl (g.2.1, 16, .inl (fun _ => 0))), (q2, .inl (g.2.2.1, 16, .inl (fun _ => 0)))] s.heap H locs := ⟨hP, hD, hS⟩
  refine lv_aload_n hx hb dX1_init_35 rfl (lv_at hl 0 rfl) ?_
  refine lv_bipush (v := (16 : Int32)) hx hb dX1_init_36 (by decide) ?_
  refine va_newa (atype := .int) (ty := .int) (n := (16 : Int32)) (N' := 16) (a0 := (16, .inl (fun _ => 0))) hx hb (hts (.arrayClass .int) (by decide +kernel)) rfl Z.2.1 X.1 X.2.1 X.2.2 Z.2.2.1 (fun _ => rfl) (by decide) (by decide) (by decide) (Nat.le_of_ble_eq_true rfl) (Nat.le_of_ble_eq_true rfl) dX1_init_38 (fun q3 cA3 H hK3 hP hD hS => ?_)
  obtain rfl : cA3 = g.2.1 := znewI Z.2.1 hK3
  have X : zh g A [(h0, .inr (1, [.int 0, .ref q1, .ref q2, .int 0, .int (-1 : Int32), .int (0 : Int32), .int 0, .int (-1 : Int32), .int 0, .null, .int 0, .null, .null, .null, .null, .null, .null])), (q1, .inl (g.2.1, 16, .inl (fun _ => 0))), (q2, .inl (g.2.2.1, 16, .inl (fun _ => 0))), (q3, .inl (g.2.1, 16, .inl (fun _ => 0)))] s.heap H locs := ⟨hP, hD, hS⟩
  refine W.widen (k := 3) (n := 48) (by decide) (by decide) ?_
  refine va_putF (D := g.1) (ci := 1) (v := .ref q3) (ty := .array .int) (C := RX1) (T := TX1) (N := 17) (fs := [.int 0, .ref q1, .ref q2, .int 0, .int (-1 : Int32), .int (0 : Int32), .int 0, .int (-1 : Int32), .int 0, .null, .int 0, .null, .null, .null, .null, .null, .null]) hx hb hts hin tyX1 tyX1_ok nmX1 hown Z.2.1 X.1 X.2.1 X.2.2 0 rfl rfl 9 (by decide) (hts _ lk_X1_init_27) (fun _ h9 => h9) rfl hnm rfl (by decide +kernel) rfl rfl (Nat.le_of_ble_eq_true rfl) dX1_init_40 (fun H locs hP hD hS => ?_)
  have X : zh g A [(h0, .inr (1, [.int 0, .ref q1, .ref q2, .int 0, .int (-1 : Int32), .int (0 : Int32), .int 0, .int (-1 : Int32), .int 0, .ref q3, .int 0, .null, .null, .null, .null, .null, .null])), (q1, .inl (g.2.1, 16, .inl (fun _ => 0))), (q2, .inl (g.2.2.1, 16, .inl (fun _ => 0))), (q3, .inl (g.2.1, 16, .inl (fun _ => 0)))] s.heap H locs := ⟨hP, hD, hS⟩
  refine lv_aload_n hx hb dX1_init_43 rfl (lv_at hl 0 rfl) ?_
  refine lv_bipush (v := (10 : Int32)) hx hb dX1_init_44 (by decide) ?_
  refine va_newa (atype := .int) (ty := .int) (n := (10 : Int32)) (N' := 10) (a0 := (10, .inl (fun _ => 0))) hx hb (hts (.arrayClass .int) (by decide +kernel)) rfl Z.2.1 X.1 X.2.1 X.2.2 Z.2.2.1 (fun _ => rfl) (by decide) (by decide) (by decide) (Nat.le_of_ble_eq_true rfl) (Nat.le_of_ble_eq_true rfl) dX1_init_46 (fun q4 cA4 H hK4 hP hD hS => ?_)
  obtain rfl : cA4 = g.2.1 := znewI Z.2.1 hK4
  have X : zh g A [(h0, .inr (1, [.int 0, .ref q1, .ref q2, .int 0, .int (-1 : Int32), .int (0 : Int32), .int 0, .int (-1 : Int32), .int 0, .ref q3, .int 0, .null, .null, .null, .null, .null, .null])), (q1, .inl (g.2.1, 16, .inl (fun _ => 0))), (q2, .inl (g.2.2.1, 16, .inl (fun _ => 0))), (q3, .inl (g.2.1, 16, .inl (fun _ => 0))), (q4, .inl (g.2.1, 10, .inl (fun _ => 0)))] s.heap H locs := ⟨hP, hD, hS⟩
  refine W.widen (k := 4) (n := 58) (by decide) (by decide) ?_
  refine va_putF (D := g.1) (ci := 1) (v := .ref q4) (ty := .array .int) (C := RX1) (T := TX1) (N := 17) (fs := [.int 0, .ref q1, .ref q2, .int 0, .int (-1 : Int32), .int (0 : Int32), .int 0, .int (-1 : Int32), .int 0, .ref q3, .int 0, .null, .null, .null, .null, .null, .null]) hx hb hts hin tyX1 tyX1_ok nmX1 hown Z.2.1 X.1 X.2.1 X.2.2 0 rfl rfl 11 (by decide) (hts _ lk_X1_init_30) (fun _ h9 => h9) rfl hnm rfl (by decide +kernel) rfl rfl (Nat.le_of_ble_eq_true rfl) dX1_init_48 (fun H locs hP hD hS => ?_)
  have X : zh g A [(h0, .inr (1, [.int 0, .ref q1, .ref q2, .int 0, .int (-1 : Int32), .int (0 : Int32), .int 0, .int (-1 : Int32), .int 0, .ref q3, .int 0, .ref q4, .null, .null, .null, .null, .null])), (q1, .inl (g.2.1, 16, .inl (fun _ => 0))), (q2, .inl (g.2.2.1, 16, .inl (fun _ => 0))), (q3, .inl (g.2.1, 16, .inl (fun _ => 0))), (q4, .inl (g.2.1, 10, .inl (fun _ => 0)))] s.heap H locs := ⟨hP, hD, hS⟩
  refine lv_aload_n hx hb dX1_init_51 rfl (lv_at hl 0 rfl) ?_
  refine lv_bipush (v := (10 : Int32)) hx hb dX1_init_52 (by decide) ?_
  refine va_newa (atype := .int) (ty := .int) (n := (10 : Int32)) (N' := 10) (a0 := (10, .inl (fun _ => 0))) hx hb (hts (.arrayClass .int) (by decide +kernel)) rfl Z.2.1 X.1 X.2.1 X.2.2 Z.2.2.1 (fun _ => rfl) (by decide) (by decide) (by decide) (Nat.le_of_ble_eq_true rfl) (Nat.le_of_ble_eq_true rfl) dX1_init_54 (fun q5 cA5 H hK5 hP hD hS => ?_)
  obtain rfl : cA5 = g.2.1 := znewI Z.2.1 hK5
  have X : zh g A [(h0, .inr (1, [.int 0, .ref q1, .ref q2, .int 0, .int (-1 : Int32), .int (0 : Int32), .int 0, .int (-1 : Int32), .int 0, .ref q3, .int 0, .ref q4, .null, .null, .null, .null, .null])), (q1, .inl (g.2.1, 16, .inl (fun _ => 0))), (q2, .inl (g.2.2.1, 16, .inl (fun _ => 0))), (q3, .inl (g.2.1, 16, .inl (fun _ => 0))), (q4, .inl (g.2.1, 10, .inl (fun _ => 0))), (q5, .inl (g.2.1, 10, .inl (fun _ => 0)))] s.heap H locs := ⟨hP, hD, hS⟩
  refine W.widen (k := 5) (n := 68) (by decide) (by decide) ?_
  refine va_putF (D := g.1) (ci := 1) (v := .ref q5) (ty := .array .int) (C := RX1) (T := TX1) (N := 17) (fs := [.int 0, .ref q1, .ref q2, .int 0, .int (-1 : Int32), .int (0 : Int32), .int 0, .int (-1 : Int32), .int 0, .ref q3, .int 0, .ref q4, .null, .null, .null, .null, .null]) hx hb hts hin tyX1 tyX1_ok nmX1 hown Z.2.1 X.1 X.2.1 X.2.2 0 rfl rfl 12 (by decide) (hts _ lk_X1_init_33) (fun _ h9 => h9) rfl hnm rfl (by decide +kernel) rfl rfl (Nat.le_of_ble_eq_true rfl) dX1_init_56 (fun H locs hP hD hS => ?_)
  have X : zh g A [(h0, .inr (1, [.int 0, .ref q1, .ref q2, .int 0, .int (-1 : Int32), .int (0 : Int32), .int 0, .int (-1 : Int32), .int 0, .ref q3, .int 0, .ref q4, .ref q5, .null, .null, .null, .null])), (q1, .inl (g.2.1, 16, .inl (fun _ => 0))), (q2, .inl (g.2.2.1, 16, .inl (fun _ => 0))), (q3, .inl (g.2.1, 16, .inl (fun _ => 0))), (q4, .inl (g.2.1, 10, .inl (fun _ => 0))), (q5, .inl (g.2.1, 10, .inl (fun _ => 0)))] s.heap H locs := ⟨hP, hD, hS⟩
  refine lv_aload_n hx hb dX1_init_59 rfl (lv_at hl 0 rfl) ?_
  refine lv_bipush (v := (10 : Int32)) hx hb dX1_init_60 (by decide) ?_
  refine va_newa (atype := .int) (ty := .int) (n := (10 : Int32)) (N' := 10) (a0 := (10, .inl (fun _ => 0))) hx hb (hts (.arrayClass .int) (by decide +kernel)) rfl Z.2.1 X.1 X.2.1 X.2.2 Z.2.2.1 (fun _ => rfl) (by decide) (by decide) (by decide) (Nat.le_of_ble_eq_true rfl) (Nat.le_of_ble_eq_true rfl) dX1_init_62 (fun q6 cA6 H hK6 hP hD hS => ?_)
  obtain rfl : cA6 = g.2.1 := znewI Z.2.1 hK6
  have X : zh g A [(h0, .inr (1, [.int 0, .ref q1, .ref q2, .int 0, .int (-1 : Int32), .int (0 : Int32), .int 0, .int (-1 : Int32), .int 0, .ref q3, .int 0, .ref q4, .ref q5, .null, .null, .null, .null])), (q1, .inl (g.2.1, 16, .inl (fun _ => 0))), (q2, .inl (g.2.2.1, 16, .inl (fun _ => 0))), (q3, .inl (g.2.1, 16, .inl (fun _ => 0))), (q4, .inl (g.2.1, 10, .inl (fun _ => 0))), (q5, .inl (g.2.1, 10, .inl (fun _ => 0))), (q6, .inl (g.2.1, 10, .inl (fun _ => 0)))] s.heap H locs := ⟨hP, hD, hS⟩
  refine W.widen (k := 6) (n := 78) (by decide) (by decide) ?_
  refine va_putF (D := g.1) (ci := 1) (v := .ref q6) (ty := .array .int) (C := RX1) (T := TX1) (N := 17) (fs := [.int 0, .ref q1, .ref q2, .int 0, .int (-1 : Int32), .int (0 : Int32), .int 0, .int (-1 : Int32), .int 0, .ref q3, .int 0, .ref q4, .ref q5, .null, .null, .null, .null]) hx hb hts hin tyX1 tyX1_ok nmX1 hown Z.2.1 X.1 X.2.1 X.2.2 0 rfl rfl 13 (by decide) (hts _ lk_X1_init_36) (fun _ h9 => h9) rfl hnm rfl (by decide +kernel) rfl rfl (Nat.le_of_ble_eq_true rfl) dX1_init_64 (fun H locs hP hD hS => ?_)
  have X : zh g A [(h0, .inr (1, [.int 0, .ref q1, .ref q2, .int 0, .int (-1 : Int32), .int (0 : Int32), .int 0, .int (-1 : Int32), .int 0, .ref q3, .int 0, .ref q4, .ref q5, .ref q6, .null, .null, .null])), (q1, .inl (g.2.1, 16, .inl (fun _ => 0))), (q2, .inl (g.2.2.1, 16, .inl (fun _ => 0))), (q3, .inl (g.2.1, 16, .inl (fun _ => 0))), (q4, .inl (g.2.1, 10, .inl (fun _ => 0))), (q5, .inl (g.2.1, 10, .inl (fun _ => 0))), (q6, .inl (g.2.1, 10, .inl (fun _ => 0)))] s.heap H locs := ⟨hP, hD, hS⟩
  refine lv_aload_n hx hb dX1_init_67 rfl (lv_at hl 0 rfl) ?_
  refine lv_bipush (v := (10 : Int32)) hx hb dX1_init_68 (by decide) ?_
  refine va_newa (atype := .int) (ty := .int) (n := (10 : Int32)) (N' := 10) (a0 := (10, .inl (fun _ => 0))) hx hb (hts (.arrayClass .int) (by decide +kernel)) rfl Z.2.1 X.1 X.2.1 X.2.2 Z.2.2.1 (fun _ => rfl) (by decide) (by decide) (by decide) (Nat.le_of_ble_eq_true rfl) (Nat.le_of_ble_eq_true rfl) dX1_init_70 (fun q7 cA7 H hK7 hP hD hS => ?_)
  obtain rfl : cA7 = g.2.1 := znewI Z.2.1 hK7
  have X : zh g A [(h0, .inr (1, [.int 0, .ref q1, .ref q2, .int 0, .int (-1 : Int32), .int (0 : Int32), .int 0, .int (-1 : Int32), .int 0, .ref q3, .int 0, .ref q4, .ref q5, .ref q6, .null, .null, .null])), (q1, .inl (g.2.1, 16, .inl (fun _ => 0))), (q2, .inl (g.2.2.1, 16, .inl (fun _ => 0))), (q3, .inl (g.2.1, 16, .inl (fun _ => 0))), (q4, .inl (g.2.1, 10, .inl (fun _ => 0))), (q5, .inl (g.2.1, 10, .inl (fun _ => 0))), (q6, .inl (g.2.1, 10, .inl (fun _ => 0))), (q7, .inl (g.2.1, 10, .inl (fun _ => 0)))] s.heap H locs := ⟨hP, hD, hS⟩
  refine W.widen (k := 7) (n := 88) (by decide) (by decide) ?_
  refine va_putF (D := g.1) (ci := 1) (v := .ref q7) (ty := .array .int) (C := RX1) (T := TX1) (N := 17) (fs := [.int 0, .ref q1, .ref q2, .int 0, .int (-1 : Int32), .int (0 : Int32), .int 0, .int (-1 : Int32), .int 0, .ref q3, .int 0, .ref q4, .ref q5, .ref q6, .null, .null, .null]) hx hb hts hin tyX1 tyX1_ok nmX1 hown Z.2.1 X.1 X.2.1 X.2.2 0 rfl rfl 14 (by decide) (hts _ lk_X1_init_39) (fun _ h9 => h9) rfl hnm rfl (by decide +kernel) rfl rfl (Nat.le_of_ble_eq_true rfl) dX1_init_72 (fun H locs hP hD hS => ?_)
  have X : zh g A [(h0, .inr (1, [.int 0, .ref q1, .ref q2, .int 0, .int (-1 : Int32), .int (0 : Int32), .int 0, .int (-1 : Int32), .int 0, .ref q3, .int 0, .ref q4, .ref q5, .ref q6, .ref q7, .null, .null])), (q1, .inl (g.2.1, 16, .inl (fun _ => 0))), (q2, .inl (g.2.2.1, 16, .inl (fun _ => 0))), (q3, .inl (g.2.1, 16, .inl (fun _ => 0))), (q4, .inl (g.2.1, 10, .inl (fun _ => 0))), (q5, .inl (g.2.1, 10, .inl (fun _ => 0))), (q6, .inl (g.2.1, 10, .inl (fun _ => 0))), (q7, .inl (g.2.1, 10, .inl (fun _ => 0)))] s.heap H locs := ⟨hP, hD, hS⟩
  refine lv_aload_n hx hb dX1_init_75 rfl (lv_at hl 0 rfl) ?_
  refine lv_bipush (v := (10 : Int32)) hx hb dX1_init_76 (by decide) ?_
  refine va_newa (atype := .int) (ty := .int) (n := (10 : Int32)) (N' := 10) (a0 := (10, .inl (fun _ => 0))) hx hb (hts (.arrayClass .int) (by decide +kernel)) rfl Z.2.1 X.1 X.2.1 X.2.2 Z.2.2.1 (fun _ => rfl) (by decide) (by decide) (by decide) (Nat.le_of_ble_eq_true rfl) (Nat.le_of_ble_eq_true rfl) dX1_init_78 (fun q8 cA8 H hK8 hP hD hS => ?_)
  obtain rfl : cA8 = g.2.1 := znewI Z.2.1 hK8
  have X : zh g A [(h0, .inr (1, [.int 0, .ref q1, .ref q2, .int 0, .int (-1 : Int32), .int (0 : Int32), .int 0, .int (-1 : Int32), .int 0, .ref q3, .int 0, .ref q4, .ref q5, .ref q6, .ref q7, .null, .null])), (q1, .inl (g.2.1, 16, .inl (fun _ => 0))), (q2, .inl (g.2.2.1, 16, .inl (fun _ => 0))), (q3, .inl (g.2.1, 16, .inl (fun _ => 0))), (q4, .inl (g.2.1, 10, .inl (fun _ => 0))), (q5, .inl (g.2.1, 10, .inl (fun _ => 0))), (q6, .inl (g.2.1, 10, .inl (fun _ => 0))), (q7, .inl (g.2.1, 10, .inl (fun _ => 0))), (q8, .inl (g.2.1, 10, .inl (fun _ => 0)))] s.heap H locs := ⟨hP, hD, hS⟩
  refine W.widen (k := 8) (n := 98) (by decide) (by decide) ?_
  refine va_putF (D := g.1) (ci := 1) (v := .ref q8) (ty := .array .int) (C := RX1) (T := TX1) (N := 17) (fs := [.int 0, .ref q1, .ref q2, .int 0, .int (-1 : Int32), .int (0 : Int32), .int 0, .int (-1 : Int32), .int 0, .ref q3, .int 0, .ref q4, .ref q5, .ref q6, .ref q7, .null, .null]) hx hb hts hin tyX1 tyX1_ok nmX1 hown Z.2.1 X.1 X.2.1 X.2.2 0 rfl rfl 15 (by decide) (hts _ lk_X1_init_42) (fun _ h9 => h9) rfl hnm rfl (by decide +kernel) rfl rfl (Nat.le_of_ble_eq_true rfl) dX1_init_80 (fun H locs hP hD hS => ?_)
  have X : zh g A [(h0, .inr (1, [.int 0, .ref q1, .ref q2, .int 0, .int (-1 : Int32), .int (0 : Int32), .int 0, .int (-1 : Int32), .int 0, .ref q3, .int 0, .ref q4, .ref q5, .ref q6, .ref q7, .ref q8, .null])), (q1, .inl (g.2.1, 16, .inl (fun _ => 0))), (q2, .inl (g.2.2.1, 16, .inl (fun _ => 0))), (q3, .inl (g.2.1, 16, .inl (fun _ => 0))), (q4, .inl (g.2.1, 10, .inl (fun _ => 0))), (q5, .inl (g.2.1, 10, .inl (fun _ => 0))), (q6, .inl (g.2.1, 10, .inl (fun _ => 0))), (q7, .inl (g.2.1, 10, .inl (fun _ => 0))), (q8, .inl (g.2.1, 10, .inl (fun _ => 0)))] s.heap H locs := ⟨hP, hD, hS⟩
  refine lv_aload_n hx hb dX1_init_83 rfl (lv_at hl 0 rfl) ?_
  refine lv_iconst (v := (4 : Int32)) hx hb dX1_init_84 (by decide) ?_
  refine va_newa (atype := .int) (ty := .int) (n := (4 : Int32)) (N' := 4) (a0 := (4, .inl (fun _ => 0))) hx hb (hts (.arrayClass .int) (by decide +kernel)) rfl Z.2.1 X.1 X.2.1 X.2.2 Z.2.2.1 (fun _ => rfl) (by decide) (by decide) (by decide) (Nat.le_of_ble_eq_true rfl) (Nat.le_of_ble_eq_true rfl) dX1_init_85 (fun q9 cA9 H hK9 hP hD hS => ?_)
  obtain rfl : cA9 = g.2.1 := znewI Z.2.1 hK9
  have X : zh g A [(h0, .inr (1, [.int 0, .ref q1, .ref q2, .int 0, .int (-1 : Int32), .int (0 : Int32), .int 0, .int (-1 : Int32), .int 0, .ref q3, .int 0, .ref q4, .ref q5, .ref q6, .ref q7, .ref q8, .null])), (q1, .inl (g.2.1, 16, .inl (fun _ => 0))), (q2, .inl (g.2.2.1, 16, .inl (fun _ => 0))), (q3, .inl (g.2.1, 16, .inl (fun _ => 0))), (q4, .inl (g.2.1, 10, .inl (fun _ => 0))), (q5, .inl (g.2.1, 10, .inl (fun _ => 0))), (q6, .inl (g.2.1, 10, .inl (fun _ => 0))), (q7, .inl (g.2.1, 10, .inl (fun _ => 0))), (q8, .inl (g.2.1, 10, .inl (fun _ => 0))), (q9, .inl (g.2.1, 4, .inl (fun _ => 0)))] s.heap H locs := ⟨hP, hD, hS⟩
  refine W.widen (k := 9) (n := 102) (by decide) (by decide) ?_
  refine va_putF (D := g.1) (ci := 1) (v := .ref q9) (ty := .array .int) (C := RX1) (T := TX1) (N := 17) (fs := [.int 0, .ref q1, .ref q2, .int 0, .int (-1 : Int32), .int (0 : Int32), .int 0, .int (-1 : Int32), .int 0, .ref q3, .int 0, .ref q4, .ref q5, .ref q6, .ref q7, .ref q8, .null]) hx hb hts hin tyX1 tyX1_ok nmX1 hown Z.2.1 X.1 X.2.1 X.2.2 0 rfl rfl 16 (by decide) (hts _ lk_X1_init_45) (fun _ h9 => h9) rfl hnm rfl (by decide +kernel) rfl rfl (Nat.le_of_ble_eq_true rfl) dX1_init_87 (fun H locs hP hD hS => ?_)
  have X : zh g A [(h0, .inr (1, [.int 0, .ref q1, .ref q2, .int 0, .int (-1 : Int32), .int (0 : Int32), .int 0, .int (-1 : Int32), .int 0, .ref q3, .int 0, .ref q4, .ref q5, .ref q6, .ref q7, .ref q8, .ref q9])), (q1, .inl (g.2.1, 16, .inl (fun _ => 0))), (q2, .inl (g.2.2.1, 16, .inl (fun _ => 0))), (q3, .inl (g.2.1, 16, .inl (fun _ => 0))), (q4, .inl (g.2.1, 10, .inl (fun _ => 0))), (q5, .inl (g.2.1, 10, .inl (fun _ => 0))), (q6, .inl (g.2.1, 10, .inl (fun _ => 0))), (q7, .inl (g.2.1, 10, .inl (fun _ => 0))), (q8, .inl (g.2.1, 10, .inl (fun _ => 0))), (q9, .inl (g.2.1, 4, .inl (fun _ => 0)))] s.heap H locs := ⟨hP, hD, hS⟩
  obtain ⟨a, ha⟩ : ∃ a : Nat → Nat, a = fun i => [h0, q1, q2, q3, q4, q5, q6, q7, q8, q9].getD i 0 := ⟨_, rfl⟩
  have X : zh g A (oM g a (0, nI 0, -1, 0, 0, -1, 0, 0, fun _ => 0, fun _ => 0, fun _ => 0, fun _ => 0, fun _ => 0, fun _ => 0, fun _ => 0, fun _ => 0, fun _ => 0)) s.heap H locs := by rw [ha]; exact X
  have ha0 : a 0 = h0 := by rw [ha]; rfl
  have hl : lv_has ls 2 [(0, .ref (a 0))] := by rw [ha0]; exact hl
  clear ha
  refine lv_iconst (v := (0 : Int32)) hx hb dX1_init_90 (by decide) ?_
  refine lv_istore_n (lv' := [(1, .int (0 : Int32)), (0, .ref (a 0))]) hx hb dX1_init_91 rfl hl (by decide) rfl (fun ls hl => ?_)
  have cut92 : ∀ (n92 : Nat), ∀ (k : Nat), (k ≤ 16) → (17 - k ≤ n92) → ∀ (H : Heap) (locs : List Loc) (ls : Array Slot), zh g A (oM g a (0, nI 0, -1, 0, 0, -1, 0, 0, (filN (fun _ => 0) (-1) k), (fun _ => 0), (fun _ => 0), (fun _ => 0), (fun _ => 0), (fun _ => 0), (fun _ => 0), (fun _ => 0), (fun _ => 0))) s.heap H locs → lv_has ls 2 [(1, .int (nI k)), (0, .ref (a 0))] → W p l e { frames := 1, cells := 9, slots := 102, locals := 60 } s m ([.ref h0] : List Value).toArray below meth c H locs 9 102 (MQ below ((zQv g (P_X1_init h0) (fun u : (Nat → Nat) × MS => oM g u.1 u.2)) A) ([.ref h0] : List Value).toArray s 9 102 A) (F0 m 92 ls []) := by
    intro n92
    induction n92 with
    | zero =>
      intro k hk hm92
      exact absurd hm92 (by omega)
    | succ n92 ih92 =>
      intro k hk hm92 H locs ls X hl
      refine lv_iload_n hx hb dX1_init_92 rfl (lv_at hl 0 rfl) ?_
      refine lv_bipush (v := (16 : Int32)) hx hb dX1_init_93 (by decide) ?_
      refine lv_icmp_ge (tgt := 111) hx hb dX1_init_95 (by decide) (fun c1 => ?_) (fun c1 => ?_)
      · have qc1 := c1
        have c1n : 16 ≤ k := zn_let (by omega) (by omega) c1
        exact zretv Z hr hlk (a, (0, nI 0, -1, 0, 0, -1, 0, 0, (filN (fun _ => 0) (-1) k), (fun _ => 0), (fun _ => 0), (fun _ => 0), (fun _ => 0), (fun _ => 0), (fun _ => 0), (fun _ => 0), (fun _ => 0))) X dX1_init_111 (⟨ha0, by rw [show k = 16 by omega]⟩)
      · have qc1 := c1
        have c1n : ¬ 16 ≤ k := zn_len (by omega) (by omega) c1
        refine lv_aload_n hx hb dX1_init_98 rfl (lv_at hl 1 rfl) ?_
        refine zget (fs := [.int 0, .ref (a 1), .ref (a 2), .int (nI 0), .int (-1), .int 0, .int 0, .int (-1), .int 0, .ref (a 3), .int 0, .ref (a 4), .ref (a 5), .ref (a 6), .ref (a 7), .ref (a 8), .ref (a 9)]) (v := .ref (a 1)) Z hin X (ci := 1) (C := RX1) (T := TX1) (N := 17) rfl rfl 1 (by decide) lk_X1_init_7 rfl dX1_init_99 ?_
        refine lv_iload_n hx hb dX1_init_102 rfl (lv_at hl 0 rfl) ?_
        refine lv_iconst (v := (-1 : Int32)) hx hb dX1_init_103 (by decide) ?_
        refine zast (q0 := 1) (n := 16) (f := (filN (fun _ => 0) (-1) k)) Z X rfl rfl k rfl (by omega) (by decide) dX1_init_104 (fun H locs X => ?_)
        have X : zh g A (oM g a (0, nI 0, -1, 0, 0, -1, 0, 0, (upd (filN (fun _ => 0) (-1) k) k (-1 : Int32)), (fun _ => 0), (fun _ => 0), (fun _ => 0), (fun _ => 0), (fun _ => 0), (fun _ => 0), (fun _ => 0), (fun _ => 0))) s.heap H locs := X
        refine lv_iinc (v := nI (k + 1)) (lv' := [(1, .int (nI (k + 1))), (0, .ref (a 0))]) hx hb dX1_init_105 hl (k := 0) rfl (zi_inc k) (by decide) rfl (fun ls hl => ?_)
        refine lv_goto (tgt := 92) hx hb dX1_init_108 (by decide) ?_
        exact ih92 (k + 1) (by first | assumption | omega) (by omega) H locs ls (by rw [← filN_s]; exact X) (lv_sub hl [0, 1] rfl)
  exact cut92 17 0 (by first | assumption | omega) (by omega) H locs ls (by rw [filN_0]; exact X) (lv_sub hl [0, 1] rfl)
