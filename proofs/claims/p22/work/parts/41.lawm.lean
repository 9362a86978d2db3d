/-! the law's small methods -/
theorem zsld {p : Program} {l : Launch} {e : Env} {R : Room} {s : State} {m : MethodId} {args : Array Value} {below : List Frame} {meth : Method} {c : Code} {H : Heap} {locs : List Loc} {cells slots : Nat} {Q : State → Prop} {cc : ByteArray} {nL : Nat} {Ts : List Cond} {own : String} {g : zG} {A : Nat → Prop} {pc : Nat} {ls : Array Slot} {rest : List Value} {ws : va_W} {bs Ls : Nat} {xs : Nat → Int32} {x : Int32}
    (Z : zc p m c cc nL s args Ts own g A (zES bs Ls xs)) (X : zh g A ws s.heap H locs) (k : Nat) (hx : x = nI k) (hk : k < Ls) (hL : Ls < 2 ^ 31) (hdg : decode cc pc = .ok (.iaload, 1))
    (kk : W p l e R s m args below meth c H locs cells slots Q (F0 m (pc + 1) ls (.int (xs k) :: rest))) : W p l e R s m args below meth c H locs cells slots Q (F0 m pc ls (.int x :: .ref bs :: rest)) := by
  subst hx
  refine va_ti (v := .int (xs k)) Z.1.1 Z.1.2.1 Z.2.2.2.1 X.2.2 (vp_in_nI hk hL) ?_ hdg kk
  show Value.int (xs (nI k).toNatClampNeg) = _
  rw [nI_clamp (by omega)]
theorem and_max (v : Int32) : ∃ k, k < 2 ^ 31 ∧ v &&& 2147483647 = nI k := by
  have hz : (v &&& 2147483647).toBitVec.toNat ≤ 2147483647 := by
    rw [nn_and]
    exact Nat.and_le_right
  refine nI_of (fun q => ?_)
  rw [Int32.lt_iff_toInt_lt] at q
  have e : (v &&& 2147483647).toInt = ((v &&& 2147483647).toBitVec.toNat : Int) := BitVec.toInt_eq_toNat_of_lt (by omega)
  rw [e] at q
  have : (0 : Int32).toInt = 0 := rfl
  omega
section LT
variable {P : Nat → Int32} {ln k n : Nat} {o z acc p : Int32}
theorem lO_t (h : 0 ≤ P (sqr ln k)) (ho : o = lO1 P ln k) : o &&& P (sqr ln k) = lO1 P ln (k + 1) := by rw [lO1, if_pos h, ho]
theorem lO_f (h : ¬ 0 ≤ P (sqr ln k)) (ho : o = lO1 P ln k) : o &&& 15 = lO1 P ln (k + 1) := by rw [lO1, if_neg h, ho]
theorem lZ_t (h : 0 ≤ P (sqr ln k)) (hz : z = lZr P ln k) : z &&& (15 - P (sqr ln k)) = lZr P ln (k + 1) := by rw [lZr, if_pos h, hz]
theorem lZ_f (h : ¬ 0 ≤ P (sqr ln k)) (hz : z = lZr P ln k) : z &&& 15 = lZr P ln (k + 1) := by rw [lZr, if_neg h, hz]
theorem lFl_t (h : 0 ≤ P (sqr ln k)) (hn : n = lFl P ln k) : n + 1 = lFl P ln (k + 1) := by rw [lFl, if_pos h, hn]
theorem lFl_f (h : ¬ 0 ≤ P (sqr ln k)) (hn : n = lFl P ln k) : n + 0 = lFl P ln (k + 1) := by rw [lFl, if_neg h, hn, Nat.add_zero]
theorem lWc_t (h : lFl P k 4 = 4) (h2 : ¬ lSh P k ≤ 0) (hn : n = lWc P k) : n + 1 = lWc P (k + 1) := by rw [lWc, if_pos ⟨h, Int32.not_le.mp h2⟩, hn]
theorem lWc_f1 (h : ¬ lFl P k 4 = 4) (hn : n = lWc P k) : n + 0 = lWc P (k + 1) := by rw [lWc, if_neg (fun q => h q.1), hn, Nat.add_zero]
theorem lWc_f2 (h2 : lSh P k ≤ 0) (hn : n = lWc P k) : n + 0 = lWc P (k + 1) := by rw [lWc, if_neg (fun q => Int32.not_lt.mpr h2 q.2), hn, Nat.add_zero]
theorem lHas_1 (h : o = zb (lHas P p k)) (c : ¬ o = 0) : (1 : Int32) = zb (lHas P p (k + 1)) := by
  rw [h] at c
  have := zb_n0.mp c
  unfold lHas at this ⊢
  rw [anyN, this]
  rfl
theorem lHas_2 (q : P k = p) : (1 : Int32) = zb (lHas P p (k + 1)) := by
  unfold lHas
  rw [anyN, decide_eq_true q, Bool.or_true]
  rfl
theorem lHas_3 (h : o = zb (lHas P p k)) (c : o = 0) (q : ¬ P k = p) : (0 : Int32) = zb (lHas P p (k + 1)) := by
  rw [h] at c
  have := zb_0.mp c
  unfold lHas at this ⊢
  rw [anyN, this, decide_eq_false q]
  rfl
theorem lWs_t (h : ¬ 0 ≤ P k) (h2 : ¬ lWc (upd P k p) n ≤ 0) (ha : acc = setN (lWsF P n p) k) : acc ||| ((1 : Int32) <<< (nI k &&& 31)) = setN (lWsF P n p) (k + 1) := by
  rw [ha]
  refine setN_t ?_
  unfold lWsF
  rw [decide_eq_false h, decide_eq_true (by omega)]; rfl
theorem lWs_f (h : ¬ 0 ≤ P k) (h2 : lWc (upd P k p) n ≤ 0) (ha : acc = setN (lWsF P n p) k) : acc ||| 0 = setN (lWsF P n p) (k + 1) := by
  rw [ha]
  refine setN_f ?_
  unfold lWsF
  rw [decide_eq_false h, decide_eq_false (by omega)]; rfl
theorem lWs_k (h : 0 ≤ P k) (ha : acc = setN (lWsF P n p) k) : acc = setN (lWsF P n p) (k + 1) := by
  rw [ha]
  refine setN_k ?_
  unfold lWsF
  rw [decide_eq_true h]; rfl
theorem lSs_t (h : zb (lHas P (nI k) 16) = 0) (h2 : lWs P n (nI k) = 0) (ha : acc = setN (lSsF P n) k) : acc ||| ((1 : Int32) <<< (nI k &&& 31)) = setN (lSsF P n) (k + 1) := by
  rw [ha]
  refine setN_t ?_
  unfold lSsF
  rw [zb_0.mp h, decide_eq_true h2]; rfl
theorem lSs_f1 (h : ¬ zb (lHas P (nI k) 16) = 0) (ha : acc = setN (lSsF P n) k) : acc ||| 0 = setN (lSsF P n) (k + 1) := by
  rw [ha]
  refine setN_f ?_
  unfold lSsF
  rw [zb_n0.mp h]; rfl
theorem lSs_f2 (h2 : ¬ lWs P n (nI k) = 0) (ha : acc = setN (lSsF P n) k) : acc ||| 0 = setN (lSsF P n) (k + 1) := by
  rw [ha]
  refine setN_f ?_
  unfold lSsF
  rw [decide_eq_false h2, Bool.and_false]
theorem low_s {x : Int32} (hb : ∀ j, j < k → qHas x (nI j) = false) (hk : k < 16) (c : (x >>> (nI k &&& 31)) &&& 1 = 0) : ∀ j, j < k + 1 → qHas x (nI j) = false := by
  intro j hj
  rcases Nat.lt_succ_iff_lt_or_eq.mp hj with q | q
  · exact hb j q
  · rw [q]
    exact (shr_bit x hk).mp c
theorem low_b {x : Int32} (hk : k < 16) (c : ¬ (x >>> (nI k &&& 31)) &&& 1 = 0) : qHas x (nI k) = true := by
  cases e : qHas x (nI k)
  · exact absurd ((shr_bit x hk).mpr e) c
  · rfl
end LT
def P_L_part (nn : Nat) : Int32 → Unit → Prop := fun r _ => ∃ v, v < nn ∧ r = nI v
set_option maxHeartbeats 1000000 in
set_option maxRecDepth 100000 in
theorem c_L_part (l : Launch) (g : zG) (bs Ls : Nat) (xs : Nat → Int32) (kk : Nat) (nn : Nat) (hL : Ls ≤ 260) (hk : kk < 1000) (hn : 0 < nn) (hn2 : nn < 10000) : zMk l yL_part wsL_part 0 0 0 0 g [.ref bs, .int (nI kk), .int (nI nn)] ([]) (zES bs Ls xs) (zQi g (P_L_part nn) (fun _ : Unit => [])) := by
  refine zstartk (cc := cL_part) (maxL := 4) (ret := (some .int)) (own := RL) rfl (by decide) rfl zStS (Nat.le_of_ble_eq_true rfl) ?_
  intro p e s m below meth c A Z hr hlk _hname H locs X ls hl
  have hx := Z.1.1
  have hb := Z.1.2.1
  have hl : lv_has ls 4 [(0, .ref bs), (1, .int (nI kk)), (2, .int (nI nn))] := hl
  have X : zh g A ([]) s.heap H locs := X
  refine lv_iload_n hx hb dL_part_0 rfl (lv_at hl 1 rfl) ?_
  refine lv_aload_n hx hb dL_part_1 rfl (lv_at hl 0 rfl) ?_
  refine va_tlen (v := nI Ls) hx hb Z.2.2.2.1 X.2.2 rfl dL_part_2 ?_
  refine lv_icmp_ge (tgt := 12) hx hb dL_part_3 (by decide) (fun c1 => ?_) (fun c1 => ?_)
  · have qc1 := c1
    have c1n : Ls ≤ kk := zn_let (by omega) (by omega) c1
    refine lv_sipush (v := (229 : Int32)) hx hb dL_part_12 (by decide) ?_
    refine lv_iload_n hx hb dL_part_15 rfl (lv_at hl 1 rfl) ?_
    refine lv_imul hx hb dL_part_16 ?_
    refine lv_bipush (v := (107 : Int32)) hx hb dL_part_17 (by decide) ?_
    refine lv_iload_n hx hb dL_part_19 rfl (lv_at hl 1 rfl) ?_
    refine lv_imul hx hb dL_part_20 ?_
    refine lv_iload_n hx hb dL_part_21 rfl (lv_at hl 1 rfl) ?_
    refine lv_imul hx hb dL_part_22 ?_
    refine lv_iadd hx hb dL_part_23 ?_
    refine lv_topi (fun x2 ex2 => ?_)
    refine lv_istore_n (lv' := [(3, .int x2), (0, .ref bs), (1, .int (nI kk)), (2, .int (nI nn))]) hx hb dL_part_24 rfl hl (by decide) rfl (fun ls hl => ?_)
    obtain ⟨m1, hm1, em1⟩ := and_max x2
    refine lv_iload_n hx hb dL_part_25 rfl (lv_at hl 0 rfl) ?_
    refine lv_ldc (v := (2147483647 : Int32)) hx hb Z.1.2.2.2.1 (Z.1.2.2.2.2 (.constant RL 7 (2147483647)) (by decide +kernel)) dL_part_26 ?_
    refine lv_iand hx hb dL_part_28 ?_
    refine zrwi (y := nI m1) (em1) ?_
    refine lv_iload_n hx hb dL_part_29 rfl (lv_at hl 3 rfl) ?_
    refine lv_irem hx hb dL_part_30 (nI_ne0 hn (by omega)) ?_
    refine zrwi (y := nI (m1 % nn)) (pk_rem (by omega) (by omega) (by omega)) ?_
    exact zreti Z hr hlk () X dL_part_31 rfl (⟨m1 % nn, Nat.mod_lt _ hn, rfl⟩)
  · have qc1 := c1
    have c1n : ¬ Ls ≤ kk := zn_len (by omega) (by omega) c1
    refine lv_aload_n hx hb dL_part_6 rfl (lv_at hl 0 rfl) ?_
    refine lv_iload_n hx hb dL_part_7 rfl (lv_at hl 1 rfl) ?_
    refine zsld Z X kk rfl (by omega) (by omega) dL_part_8 ?_
    refine lv_goto (tgt := 24) hx hb dL_part_9 (by decide) ?_
    refine lv_topi (fun x3 ex3 => ?_)
    refine lv_istore_n (lv' := [(3, .int x3), (0, .ref bs), (1, .int (nI kk)), (2, .int (nI nn))]) hx hb dL_part_24 rfl hl (by decide) rfl (fun ls hl => ?_)
    obtain ⟨m1, hm1, em1⟩ := and_max x3
    refine lv_iload_n hx hb dL_part_25 rfl (lv_at hl 0 rfl) ?_
    refine lv_ldc (v := (2147483647 : Int32)) hx hb Z.1.2.2.2.1 (Z.1.2.2.2.2 (.constant RL 7 (2147483647)) (by decide +kernel)) dL_part_26 ?_
    refine lv_iand hx hb dL_part_28 ?_
    refine zrwi (y := nI m1) (em1) ?_
    refine lv_iload_n hx hb dL_part_29 rfl (lv_at hl 3 rfl) ?_
    refine lv_irem hx hb dL_part_30 (nI_ne0 hn (by omega)) ?_
    refine zrwi (y := nI (m1 % nn)) (pk_rem (by omega) (by omega) (by omega)) ?_
    exact zreti Z hr hlk () X dL_part_31 rfl (⟨m1 % nn, Nat.mod_lt _ hn, rfl⟩)
def P_L_square (ln pl : Nat) : Int32 → Unit → Prop := fun r _ => r = nI (sqr ln pl)
set_option maxHeartbeats 1000000 in
set_option maxRecDepth 100000 in
theorem c_L_square (l : Launch) (g : zG) (ln : Nat) (pl : Nat) (hln : ln < 19) (hpl : pl < 4) : zMk l yL_square wsL_square 0 0 0 0 g [.int (nI ln), .int (nI pl)] ([]) zE0 (zQi g (P_L_square ln pl) (fun _ : Unit => [])) := by
  refine zstartk (cc := cL_square) (maxL := 2) (ret := (some .int)) (own := RL) rfl (by decide) rfl zSt0 (Nat.le_of_ble_eq_true rfl) ?_
  intro p e s m below meth c A Z hr hlk _hname H locs X ls hl
  have hx := Z.1.1
  have hb := Z.1.2.1
  have hl : lv_has ls 2 [(0, .int (nI ln)), (1, .int (nI pl))] := hl
  have X : zh g A ([]) s.heap H locs := X
  refine lv_iload_n hx hb dL_square_0 rfl (lv_at hl 0 rfl) ?_
  refine lv_bipush (v := nI 9) hx hb dL_square_1 (by decide) ?_
  refine lv_icmp_le (tgt := 32) hx hb dL_square_3 (by decide) (fun c1 => ?_) (fun c1 => ?_)
  · have qc1 := c1
    have c1n : ln ≤ 9 := zn_let (by omega) (by omega) c1
    refine lv_iload_n hx hb dL_square_32 rfl (lv_at hl 0 rfl) ?_
    refine lv_bipush (v := nI 9) hx hb dL_square_33 (by decide) ?_
    refine lv_icmp_ne (tgt := 46) hx hb dL_square_35 (by decide) (fun c2 => ?_) (fun c2 => ?_)
    · have qc2 := c2
      have c2n : ¬ ln = 9 := zn_eqn (by omega) (by omega) c2
      refine lv_iload_n hx hb dL_square_46 rfl (lv_at hl 0 rfl) ?_
      refine lv_bipush (v := nI 8) hx hb dL_square_47 (by decide) ?_
      refine lv_icmp_ne (tgt := 58) hx hb dL_square_49 (by decide) (fun c3 => ?_) (fun c3 => ?_)
      · have qc3 := c3
        have c3n : ¬ ln = 8 := zn_eqn (by omega) (by omega) c3
        refine lv_iload_n hx hb dL_square_58 rfl (lv_at hl 0 rfl) ?_
        refine lv_iconst (v := nI 3) hx hb dL_square_59 (by decide) ?_
        refine lv_icmp_le (tgt := 73) hx hb dL_square_60 (by decide) (fun c4 => ?_) (fun c4 => ?_)
        · have qc4 := c4
          have c4n : ln ≤ 3 := zn_let (by omega) (by omega) c4
          refine lv_iconst (v := nI 4) hx hb dL_square_73 (by decide) ?_
          refine lv_iload_n hx hb dL_square_74 rfl (lv_at hl 0 rfl) ?_
          refine lv_imul hx hb dL_square_75 ?_
          refine zrwi (y := nI (4 * ln)) (pk_mul _ _) ?_
          refine lv_iload_n hx hb dL_square_76 rfl (lv_at hl 1 rfl) ?_
          refine lv_iadd hx hb dL_square_77 ?_
          refine zrwi (y := nI ((4 * ln) + pl)) (nI_add _ _) ?_
          exact zreti Z hr hlk () X dL_square_78 rfl (by show nI _ = nI (sqr ln pl); refine congrArg nI ?_; unfold sqr; (repeat' split) <;> omega)
        · have qc4 := c4
          have c4n : ¬ ln ≤ 3 := zn_len (by omega) (by omega) c4
          refine lv_iload_n hx hb dL_square_63 rfl (lv_at hl 0 rfl) ?_
          refine lv_iconst (v := nI 4) hx hb dL_square_64 (by decide) ?_
          refine lv_isub hx hb dL_square_65 ?_
          refine zrwi (y := nI (ln - 4)) (pk_sub (by omega)) ?_
          refine lv_iconst (v := nI 4) hx hb dL_square_66 (by decide) ?_
          refine lv_iload_n hx hb dL_square_67 rfl (lv_at hl 1 rfl) ?_
          refine lv_imul hx hb dL_square_68 ?_
          refine zrwi (y := nI (4 * pl)) (pk_mul _ _) ?_
          refine lv_iadd hx hb dL_square_69 ?_
          refine zrwi (y := nI ((ln - 4) + (4 * pl))) (nI_add _ _) ?_
          refine lv_goto (tgt := 78) hx hb dL_square_70 (by decide) ?_
          exact zreti Z hr hlk () X dL_square_78 rfl (by show nI _ = nI (sqr ln pl); refine congrArg nI ?_; unfold sqr; (repeat' split) <;> omega)
      · have qc3 := c3
        have c3n : ln = 8 := zn_eqt (by omega) (by omega) c3
        refine lv_iconst (v := nI 5) hx hb dL_square_52 (by decide) ?_
        refine lv_iload_n hx hb dL_square_53 rfl (lv_at hl 1 rfl) ?_
        refine lv_imul hx hb dL_square_54 ?_
        refine zrwi (y := nI (5 * pl)) (pk_mul _ _) ?_
        refine lv_goto (tgt := 78) hx hb dL_square_55 (by decide) ?_
        exact zreti Z hr hlk () X dL_square_78 rfl (by show nI _ = nI (sqr ln pl); refine congrArg nI ?_; unfold sqr; (repeat' split) <;> omega)
    · have qc2 := c2
      have c2n : ln = 9 := zn_eqt (by omega) (by omega) c2
      refine lv_iconst (v := nI 3) hx hb dL_square_38 (by decide) ?_
      refine lv_iload_n hx hb dL_square_39 rfl (lv_at hl 1 rfl) ?_
      refine lv_iconst (v := nI 1) hx hb dL_square_40 (by decide) ?_
      refine lv_iadd hx hb dL_square_41 ?_
      refine zrwi (y := nI (pl + 1)) (nI_add _ _) ?_
      refine lv_imul hx hb dL_square_42 ?_
      refine zrwi (y := nI (3 * (pl + 1))) (pk_mul _ _) ?_
      refine lv_goto (tgt := 78) hx hb dL_square_43 (by decide) ?_
      exact zreti Z hr hlk () X dL_square_78 rfl (by show nI _ = nI (sqr ln pl); refine congrArg nI ?_; unfold sqr; (repeat' split) <;> omega)
  · have qc1 := c1
    have c1n : ¬ ln ≤ 9 := zn_len (by omega) (by omega) c1
    refine lv_iload_n hx hb dL_square_6 rfl (lv_at hl 0 rfl) ?_
    refine lv_bipush (v := nI 10) hx hb dL_square_7 (by decide) ?_
    refine lv_isub hx hb dL_square_9 ?_
    refine zrwi (y := nI (ln - 10)) (pk_sub (by omega)) ?_
    refine lv_iconst (v := nI 3) hx hb dL_square_10 (by decide) ?_
    refine lv_idiv hx hb dL_square_11 (by decide) ?_
    refine zrwi (y := nI ((ln - 10) / 3)) (pk_div (by omega) (by omega) (by omega)) ?_
    refine lv_iconst (v := nI 4) hx hb dL_square_12 (by decide) ?_
    refine lv_imul hx hb dL_square_13 ?_
    refine zrwi (y := nI (((ln - 10) / 3) * 4)) (pk_mul _ _) ?_
    refine lv_iload_n hx hb dL_square_14 rfl (lv_at hl 0 rfl) ?_
    refine lv_bipush (v := nI 10) hx hb dL_square_15 (by decide) ?_
    refine lv_isub hx hb dL_square_17 ?_
    refine zrwi (y := nI (ln - 10)) (pk_sub (by omega)) ?_
    refine lv_iconst (v := nI 3) hx hb dL_square_18 (by decide) ?_
    refine lv_irem hx hb dL_square_19 (by decide) ?_
    refine zrwi (y := nI ((ln - 10) % 3)) (pk_rem (by omega) (by omega) (by omega)) ?_
    refine lv_iadd hx hb dL_square_20 ?_
    refine zrwi (y := nI ((((ln - 10) / 3) * 4) + ((ln - 10) % 3))) (nI_add _ _) ?_
    refine lv_iload_n hx hb dL_square_21 rfl (lv_at hl 1 rfl) ?_
    refine lv_iconst (v := nI 2) hx hb dL_square_22 (by decide) ?_
    refine lv_irem hx hb dL_square_23 (by decide) ?_
    refine zrwi (y := nI (pl % 2)) (pk_rem (by omega) (by omega) (by omega)) ?_
    refine lv_iadd hx hb dL_square_24 ?_
    refine zrwi (y := nI (((((ln - 10) / 3) * 4) + ((ln - 10) % 3)) + (pl % 2))) (nI_add _ _) ?_
    refine lv_iconst (v := nI 4) hx hb dL_square_25 (by decide) ?_
    refine lv_iload_n hx hb dL_square_26 rfl (lv_at hl 1 rfl) ?_
    refine lv_iconst (v := nI 2) hx hb dL_square_27 (by decide) ?_
    refine lv_idiv hx hb dL_square_28 (by decide) ?_
    refine zrwi (y := nI (pl / 2)) (pk_div (by omega) (by omega) (by omega)) ?_
    refine lv_imul hx hb dL_square_29 ?_
    refine zrwi (y := nI (4 * (pl / 2))) (pk_mul _ _) ?_
    refine lv_iadd hx hb dL_square_30 ?_
    refine zrwi (y := nI ((((((ln - 10) / 3) * 4) + ((ln - 10) % 3)) + (pl % 2)) + (4 * (pl / 2)))) (nI_add _ _) ?_
    exact zreti Z hr hlk () X dL_square_31 rfl (by show nI _ = nI (sqr ln pl); refine congrArg nI ?_; unfold sqr; (repeat' split) <;> omega)
def P_L_shared (P : Nat → Int32) (ln : Nat) : Int32 → (Nat → Int32) → Prop := fun r u => u = P ∧ r = lSh P ln
set_option maxHeartbeats 1000000 in
set_option maxRecDepth 100000 in
theorem c_L_shared (l : Launch) (g : zG) (a : Nat) (P : Nat → Int32) (ln : Nat) (hln : ln < 19) : zMk l yL_shared wsL_shared 1 40 0 0 g [.ref a, .int (nI ln)] (oB g a P) zE0 (zQi g (P_L_shared P ln) (oB g a)) := by
  refine zstartk (cc := cL_shared) (maxL := 6) (ret := (some .int)) (own := RL) rfl (by decide) rfl zSt0 (Nat.le_of_ble_eq_true rfl) ?_
  intro p e s m below meth c A Z hr hlk _hname H locs X ls hl
  have hx := Z.1.1
  have hb := Z.1.2.1
  have hl : lv_has ls 6 [(0, .ref a), (1, .int (nI ln))] := hl
  have X : zh g A (oB g a P) s.heap H locs := X
  refine lv_bipush (v := (15 : Int32)) hx hb dL_shared_0 (by decide) ?_
  refine lv_istore_n (lv' := [(2, .int (15 : Int32)), (0, .ref a), (1, .int (nI ln))]) hx hb dL_shared_2 rfl hl (by decide) rfl (fun ls hl => ?_)
  refine lv_bipush (v := (15 : Int32)) hx hb dL_shared_3 (by decide) ?_
  refine lv_istore_n (lv' := [(3, .int (15 : Int32)), (2, .int (15 : Int32)), (0, .ref a), (1, .int (nI ln))]) hx hb dL_shared_5 rfl hl (by decide) rfl (fun ls hl => ?_)
  refine lv_iconst (v := (0 : Int32)) hx hb dL_shared_6 (by decide) ?_
  refine lv_istore (lv' := [(4, .int (0 : Int32)), (3, .int (15 : Int32)), (2, .int (15 : Int32)), (0, .ref a), (1, .int (nI ln))]) hx hb dL_shared_7 hl (by decide) rfl (fun ls hl => ?_)
  have cut9 : ∀ (n9 : Nat), ∀ (k : Nat) (o : Int32) (z : Int32), (k ≤ 4) → (o = lO1 P ln k) → (z = lZr P ln k) → (5 - k ≤ n9) → ∀ (H : Heap) (locs : List Loc) (ls : Array Slot), zh g A (oB g a P) s.heap H locs → lv_has ls 6 [(4, .int (nI k)), (2, .int o), (3, .int z), (0, .ref a), (1, .int (nI ln))] → W p l e { frames := 1, cells := 0, slots := 0, locals := 40 } s m ([.ref a, .int (nI ln)] : List Value).toArray below meth c H locs 0 0 (MQ below ((zQi g (P_L_shared P ln) (oB g a)) A) ([.ref a, .int (nI ln)] : List Value).toArray s 0 0 A) (F0 m 9 ls []) := by
    intro n9
    induction n9 with
    | zero =>
      intro k o z hk ho hz hn9 H locs ls X hl
      exfalso; omega
    | succ n9 ih9 =>
      intro k o z hk ho hz hn9 H locs ls X hl
      refine lv_iload hx hb dL_shared_9 (lv_at hl 0 rfl) ?_
      refine lv_iconst (v := (4 : Int32)) hx hb dL_shared_11 (by decide) ?_
      refine lv_icmp_ge (tgt := 64) hx hb dL_shared_12 (by decide) (fun c1 => ?_) (fun c1 => ?_)
      · have qc1 := c1
        have c1n : 4 ≤ k := zn_let (by omega) (by omega) c1
        refine lv_iload_n hx hb dL_shared_64 rfl (lv_at hl 1 rfl) ?_
        refine lv_bipush (v := (16 : Int32)) hx hb dL_shared_65 (by decide) ?_
        refine lv_iload_n hx hb dL_shared_67 rfl (lv_at hl 2 rfl) ?_
        refine lv_imul hx hb dL_shared_68 ?_
        refine lv_iadd hx hb dL_shared_69 ?_
        exact zreti Z hr hlk P X dL_shared_70 rfl (⟨rfl, by rw [ho, hz, show k = 4 by omega]; rfl⟩)
      · have qc1 := c1
        have c1n : ¬ 4 ≤ k := zn_len (by omega) (by omega) c1
        refine lv_aload_n hx hb dL_shared_15 rfl (lv_at hl 3 rfl) ?_
        refine lv_iload_n hx hb dL_shared_16 rfl (lv_at hl 4 rfl) ?_
        refine lv_iload hx hb dL_shared_17 (lv_at hl 0 rfl) ?_
        refine zcallSi (n := 2) (As := [.int (nI ln), .int (nI k)]) (rest := [.ref a]) Z X (c_L_square l g ln k (by omega) (by omega)) gL_shared_L_square rfl (by decide +kernel) ⟨Nat.le_of_ble_eq_true rfl, Nat.le_of_ble_eq_true rfl⟩ rfl rfl hl.1 (Nat.le_of_ble_eq_true rfl) dL_shared_19 ⟨show 0 ≤ 0 from by omega, show 0 ≤ 0 from by omega⟩ (fun r2 H locs hr2 X => ?_)
        refine zrwi (y := nI (sqr ln k)) hr2 ?_
        refine zald (q0 := 0) (n := 16) (f := P) Z X rfl rfl (sqr ln k) rfl (sqr_lt ln hln k (by omega)) (by decide) dL_shared_22 ?_
        refine lv_topi (fun x3 ex3 => ?_)
        refine lv_istore (lv' := [(5, .int x3), (4, .int (nI k)), (2, .int o), (3, .int z), (0, .ref a), (1, .int (nI ln))]) hx hb dL_shared_23 hl (by decide) rfl (fun ls hl => ?_)
        refine lv_iload_n hx hb dL_shared_25 rfl (lv_at hl 2 rfl) ?_
        refine lv_iload hx hb dL_shared_26 (lv_at hl 0 rfl) ?_
        refine lv_if_ge (tgt := 36) hx hb dL_shared_28 (by decide) (fun c4 => ?_) (fun c4 => ?_)
        · have qc4 := c4
          refine lv_iload hx hb dL_shared_36 (lv_at hl 0 rfl) ?_
          refine lv_iand hx hb dL_shared_38 ?_
          refine lv_topi (fun x5 ex5 => ?_)
          refine lv_istore_n (lv' := [(2, .int x5), (5, .int x3), (4, .int (nI k)), (3, .int z), (0, .ref a), (1, .int (nI ln))]) hx hb dL_shared_39 rfl hl (by decide) rfl (fun ls hl => ?_)
          refine lv_iload_n hx hb dL_shared_40 rfl (lv_at hl 3 rfl) ?_
          refine lv_iload hx hb dL_shared_41 (lv_at hl 1 rfl) ?_
          refine lv_if_ge (tgt := 51) hx hb dL_shared_43 (by decide) (fun c6 => ?_) (fun c6 => ?_)
          · have qc6 := c6
            refine lv_bipush (v := (15 : Int32)) hx hb dL_shared_51 (by decide) ?_
            refine lv_iload hx hb dL_shared_53 (lv_at hl 1 rfl) ?_
            refine lv_isub hx hb dL_shared_55 ?_
            refine lv_iand hx hb dL_shared_56 ?_
            refine lv_topi (fun x7 ex7 => ?_)
            refine lv_istore_n (lv' := [(3, .int x7), (2, .int x5), (5, .int x3), (4, .int (nI k)), (0, .ref a), (1, .int (nI ln))]) hx hb dL_shared_57 rfl hl (by decide) rfl (fun ls hl => ?_)
            refine lv_iinc (v := nI (k + 1)) (lv' := [(4, .int (nI (k + 1))), (3, .int x7), (2, .int x5), (5, .int x3), (0, .ref a), (1, .int (nI ln))]) hx hb dL_shared_58 hl (k := 3) rfl (zi_inc k) (by decide) rfl (fun ls hl => ?_)
            refine lv_goto (tgt := 9) hx hb dL_shared_61 (by decide) ?_
            exact ih9 (k + 1) x5 x7 (by first | assumption | omega) (by subst ex7; subst ex5; subst ex3; first | exact lO_t (by assumption) ho | exact lO_f (by assumption) ho) (by subst ex7; subst ex5; subst ex3; first | exact lZ_t (by assumption) hz | exact lZ_f (by assumption) hz) (by omega) H locs ls X (lv_sub hl [0, 2, 1, 4, 5] rfl)
          · exact absurd (by assumption) c6
        · have qc4 := c4
          refine lv_bipush (v := (15 : Int32)) hx hb dL_shared_31 (by decide) ?_
          refine lv_goto (tgt := 38) hx hb dL_shared_33 (by decide) ?_
          refine lv_iand hx hb dL_shared_38 ?_
          refine lv_topi (fun x8 ex8 => ?_)
          refine lv_istore_n (lv' := [(2, .int x8), (5, .int x3), (4, .int (nI k)), (3, .int z), (0, .ref a), (1, .int (nI ln))]) hx hb dL_shared_39 rfl hl (by decide) rfl (fun ls hl => ?_)
          refine lv_iload_n hx hb dL_shared_40 rfl (lv_at hl 3 rfl) ?_
          refine lv_iload hx hb dL_shared_41 (lv_at hl 1 rfl) ?_
          refine lv_if_ge (tgt := 51) hx hb dL_shared_43 (by decide) (fun c9 => ?_) (fun c9 => ?_)
          · exact absurd c9 (by assumption)
          · have qc9 := c9
            refine lv_bipush (v := (15 : Int32)) hx hb dL_shared_46 (by decide) ?_
            refine lv_goto (tgt := 56) hx hb dL_shared_48 (by decide) ?_
            refine lv_iand hx hb dL_shared_56 ?_
            refine lv_topi (fun x10 ex10 => ?_)
            refine lv_istore_n (lv' := [(3, .int x10), (2, .int x8), (5, .int x3), (4, .int (nI k)), (0, .ref a), (1, .int (nI ln))]) hx hb dL_shared_57 rfl hl (by decide) rfl (fun ls hl => ?_)
            refine lv_iinc (v := nI (k + 1)) (lv' := [(4, .int (nI (k + 1))), (3, .int x10), (2, .int x8), (5, .int x3), (0, .ref a), (1, .int (nI ln))]) hx hb dL_shared_58 hl (k := 3) rfl (zi_inc k) (by decide) rfl (fun ls hl => ?_)
            refine lv_goto (tgt := 9) hx hb dL_shared_61 (by decide) ?_
            exact ih9 (k + 1) x8 x10 (by first | assumption | omega) (by subst ex10; subst ex8; subst ex3; first | exact lO_t (by assumption) ho | exact lO_f (by assumption) ho) (by subst ex10; subst ex8; subst ex3; first | exact lZ_t (by assumption) hz | exact lZ_f (by assumption) hz) (by omega) H locs ls X (lv_sub hl [0, 2, 1, 4, 5] rfl)
  exact cut9 5 0 (15 : Int32) (15 : Int32) (by decide) (rfl) (rfl) (by omega) H locs ls X (lv_sub hl [0, 2, 1, 3, 4] rfl)
def P_L_full (P : Nat → Int32) (ln : Nat) : Int32 → (Nat → Int32) → Prop := fun r u => u = P ∧ r = nI (lFl P ln 4)
set_option maxHeartbeats 1000000 in
set_option maxRecDepth 100000 in
theorem c_L_full (l : Launch) (g : zG) (a : Nat) (P : Nat → Int32) (ln : Nat) (hln : ln < 19) : zMk l yL_full wsL_full 1 40 0 0 g [.ref a, .int (nI ln)] (oB g a P) zE0 (zQi g (P_L_full P ln) (oB g a)) := by
  refine zstartk (cc := cL_full) (maxL := 4) (ret := (some .int)) (own := RL) rfl (by decide) rfl zSt0 (Nat.le_of_ble_eq_true rfl) ?_
  intro p e s m below meth c A Z hr hlk _hname H locs X ls hl
  have hx := Z.1.1
  have hb := Z.1.2.1
  have hl : lv_has ls 4 [(0, .ref a), (1, .int (nI ln))] := hl
  have X : zh g A (oB g a P) s.heap H locs := X
  refine lv_iconst (v := nI 0) hx hb dL_full_0 (by decide) ?_
  refine lv_istore_n (lv' := [(2, .int (nI 0)), (0, .ref a), (1, .int (nI ln))]) hx hb dL_full_1 rfl hl (by decide) rfl (fun ls hl => ?_)
  refine lv_iconst (v := nI 0) hx hb dL_full_2 (by decide) ?_
  refine lv_istore_n (lv' := [(3, .int (nI 0)), (2, .int (nI 0)), (0, .ref a), (1, .int (nI ln))]) hx hb dL_full_3 rfl hl (by decide) rfl (fun ls hl => ?_)
  have cut4 : ∀ (n4 : Nat), ∀ (k : Nat) (n : Nat), (k ≤ 4) → (n = lFl P ln k) → (5 - k ≤ n4) → ∀ (H : Heap) (locs : List Loc) (ls : Array Slot), zh g A (oB g a P) s.heap H locs → lv_has ls 4 [(3, .int (nI k)), (2, .int (nI n)), (0, .ref a), (1, .int (nI ln))] → W p l e { frames := 1, cells := 0, slots := 0, locals := 40 } s m ([.ref a, .int (nI ln)] : List Value).toArray below meth c H locs 0 0 (MQ below ((zQi g (P_L_full P ln) (oB g a)) A) ([.ref a, .int (nI ln)] : List Value).toArray s 0 0 A) (F0 m 4 ls []) := by
    intro n4
    induction n4 with
    | zero =>
      intro k n hk hn hn4 H locs ls X hl
      exfalso; omega
    | succ n4 ih4 =>
      intro k n hk hn hn4 H locs ls X hl
      refine lv_iload_n hx hb dL_full_4 rfl (lv_at hl 0 rfl) ?_
      refine lv_iconst (v := nI 4) hx hb dL_full_5 (by decide) ?_
      refine lv_icmp_ge (tgt := 33) hx hb dL_full_6 (by decide) (fun c1 => ?_) (fun c1 => ?_)
      · have qc1 := c1
        have c1n : 4 ≤ k := zn_let (by omega) (by omega) c1
        refine lv_iload_n hx hb dL_full_33 rfl (lv_at hl 1 rfl) ?_
        exact zreti Z hr hlk P X dL_full_34 rfl (⟨rfl, by rw [hn, show k = 4 by omega]⟩)
      · have qc1 := c1
        have c1n : ¬ 4 ≤ k := zn_len (by omega) (by omega) c1
        refine lv_iload_n hx hb dL_full_9 rfl (lv_at hl 1 rfl) ?_
        refine lv_aload_n hx hb dL_full_10 rfl (lv_at hl 2 rfl) ?_
        refine lv_iload_n hx hb dL_full_11 rfl (lv_at hl 3 rfl) ?_
        refine lv_iload_n hx hb dL_full_12 rfl (lv_at hl 0 rfl) ?_
        refine zcallSi (n := 2) (As := [.int (nI ln), .int (nI k)]) (rest := [.ref a, .int (nI n)]) Z X (c_L_square l g ln k (by omega) (by omega)) gL_full_L_square rfl (by decide +kernel) ⟨Nat.le_of_ble_eq_true rfl, Nat.le_of_ble_eq_true rfl⟩ rfl rfl hl.1 (Nat.le_of_ble_eq_true rfl) dL_full_13 ⟨show 0 ≤ 0 from by omega, show 0 ≤ 0 from by omega⟩ (fun r2 H locs hr2 X => ?_)
        refine zrwi (y := nI (sqr ln k)) hr2 ?_
        refine zald (q0 := 0) (n := 16) (f := P) Z X rfl rfl (sqr ln k) rfl (sqr_lt ln hln k (by omega)) (by decide) dL_full_16 ?_
        refine lv_if_ge (tgt := 24) hx hb dL_full_17 (by decide) (fun c3 => ?_) (fun c3 => ?_)
        · have qc3 := c3
          refine lv_iconst (v := nI 1) hx hb dL_full_24 (by decide) ?_
          refine lv_iadd hx hb dL_full_25 ?_
          refine zrwi (y := nI (n + 1)) (nI_add _ _) ?_
          refine lv_istore_n (lv' := [(2, .int (nI (n + 1))), (3, .int (nI k)), (0, .ref a), (1, .int (nI ln))]) hx hb dL_full_26 rfl hl (by decide) rfl (fun ls hl => ?_)
          refine lv_iinc (v := nI (k + 1)) (lv' := [(3, .int (nI (k + 1))), (2, .int (nI (n + 1))), (0, .ref a), (1, .int (nI ln))]) hx hb dL_full_27 hl (k := 1) rfl (zi_inc k) (by decide) rfl (fun ls hl => ?_)
          refine lv_goto (tgt := 4) hx hb dL_full_30 (by decide) ?_
          exact ih4 (k + 1) (n + 1) (by first | assumption | omega) (by first | exact lFl_t (by assumption) hn | exact lFl_f (by assumption) hn) (by omega) H locs ls X (lv_sub hl [0, 1, 2, 3] rfl)
        · have qc3 := c3
          refine lv_iconst (v := nI 0) hx hb dL_full_20 (by decide) ?_
          refine lv_goto (tgt := 25) hx hb dL_full_21 (by decide) ?_
          refine lv_iadd hx hb dL_full_25 ?_
          refine zrwi (y := nI (n + 0)) (nI_add _ _) ?_
          refine lv_istore_n (lv' := [(2, .int (nI (n + 0))), (3, .int (nI k)), (0, .ref a), (1, .int (nI ln))]) hx hb dL_full_26 rfl hl (by decide) rfl (fun ls hl => ?_)
          refine lv_iinc (v := nI (k + 1)) (lv' := [(3, .int (nI (k + 1))), (2, .int (nI (n + 0))), (0, .ref a), (1, .int (nI ln))]) hx hb dL_full_27 hl (k := 1) rfl (zi_inc k) (by decide) rfl (fun ls hl => ?_)
          refine lv_goto (tgt := 4) hx hb dL_full_30 (by decide) ?_
          exact ih4 (k + 1) (n + 0) (by first | assumption | omega) (by first | exact lFl_t (by assumption) hn | exact lFl_f (by assumption) hn) (by omega) H locs ls X (lv_sub hl [0, 1, 2, 3] rfl)
  exact cut4 5 0 0 (by decide) (rfl) (by omega) H locs ls X (lv_sub hl [0, 1, 2, 3] rfl)
def P_L_won (P : Nat → Int32) (nl : Nat) : Int32 → (Nat → Int32) → Prop := fun r u => u = P ∧ r = nI (lWc P nl)
set_option maxHeartbeats 1000000 in
set_option maxRecDepth 100000 in
theorem c_L_won (l : Launch) (g : zG) (a : Nat) (P : Nat → Int32) (nl : Nat) (hnl : nl ≤ 19) : zMk l yL_won wsL_won 2 80 0 0 g [.ref a, .int (nI nl)] (oB g a P) zE0 (zQi g (P_L_won P nl) (oB g a)) := by
  refine zstartk (cc := cL_won) (maxL := 4) (ret := (some .int)) (own := RL) rfl (by decide) rfl zSt0 (Nat.le_of_ble_eq_true rfl) ?_
  intro p e s m below meth c A Z hr hlk _hname H locs X ls hl
  have hx := Z.1.1
  have hb := Z.1.2.1
  have hl : lv_has ls 4 [(0, .ref a), (1, .int (nI nl))] := hl
  have X : zh g A (oB g a P) s.heap H locs := X
  refine lv_iconst (v := nI 0) hx hb dL_won_0 (by decide) ?_
  refine lv_istore_n (lv' := [(2, .int (nI 0)), (0, .ref a), (1, .int (nI nl))]) hx hb dL_won_1 rfl hl (by decide) rfl (fun ls hl => ?_)
  refine lv_iconst (v := nI 0) hx hb dL_won_2 (by decide) ?_
  refine lv_istore_n (lv' := [(3, .int (nI 0)), (2, .int (nI 0)), (0, .ref a), (1, .int (nI nl))]) hx hb dL_won_3 rfl hl (by decide) rfl (fun ls hl => ?_)
  have cut4 : ∀ (n4 : Nat), ∀ (k : Nat) (n : Nat), (k ≤ nl) → (n = lWc P k) → (nl + 1 - k ≤ n4) → ∀ (H : Heap) (locs : List Loc) (ls : Array Slot), zh g A (oB g a P) s.heap H locs → lv_has ls 4 [(3, .int (nI k)), (2, .int (nI n)), (0, .ref a), (1, .int (nI nl))] → W p l e { frames := 2, cells := 0, slots := 0, locals := 80 } s m ([.ref a, .int (nI nl)] : List Value).toArray below meth c H locs 0 0 (MQ below ((zQi g (P_L_won P nl) (oB g a)) A) ([.ref a, .int (nI nl)] : List Value).toArray s 0 0 A) (F0 m 4 ls []) := by
    intro n4
    induction n4 with
    | zero =>
      intro k n hk hn hn4 H locs ls X hl
      exfalso; omega
    | succ n4 ih4 =>
      intro k n hk hn hn4 H locs ls X hl
      refine lv_iload_n hx hb dL_won_4 rfl (lv_at hl 0 rfl) ?_
      refine lv_iload_n hx hb dL_won_5 rfl (lv_at hl 3 rfl) ?_
      refine lv_icmp_ge (tgt := 40) hx hb dL_won_6 (by decide) (fun c1 => ?_) (fun c1 => ?_)
      · have qc1 := c1
        have c1n : nl ≤ k := zn_let (by omega) (by omega) c1
        refine lv_iload_n hx hb dL_won_40 rfl (lv_at hl 1 rfl) ?_
        exact zreti Z hr hlk P X dL_won_41 rfl (⟨rfl, by rw [hn, show k = nl by omega]⟩)
      · have qc1 := c1
        have c1n : ¬ nl ≤ k := zn_len (by omega) (by omega) c1
        refine lv_iload_n hx hb dL_won_9 rfl (lv_at hl 1 rfl) ?_
        refine lv_aload_n hx hb dL_won_10 rfl (lv_at hl 2 rfl) ?_
        refine lv_iload_n hx hb dL_won_11 rfl (lv_at hl 0 rfl) ?_
        refine zsubS (n := 2) (As := [.ref a, .int (nI k)]) (rest := [.int (nI n)]) (wc := oB g a P) (wr := []) [0] [] rfl rfl rfl rfl (by decide) Z X zSt0 (fun _ _ h => h) (c_L_full l g a P k (by omega)) gL_won_L_full rfl (by decide +kernel) ⟨Nat.le_of_ble_eq_true rfl, Nat.le_of_ble_eq_true rfl⟩ rfl rfl hl.1 (Nat.le_of_ble_eq_true rfl) dL_won_12 ⟨show 0 + 0 ≤ 0 from by omega, show 0 + 0 ≤ 0 from by omega⟩ (fun r2 ur2 H locs hr2 X => ?_)
        obtain ⟨hur2, hr2⟩ := hr2
        rw [hur2] at X
        have X : zh g A (oB g a P) s.heap H locs := X
        refine zrwi (y := nI (lFl P k 4)) hr2 ?_
        refine lv_iconst (v := nI 4) hx hb dL_won_15 (by decide) ?_
        have hfl := lFl_le P k 4
        refine lv_icmp_ne (tgt := 31) hx hb dL_won_16 (by decide) (fun c3 => ?_) (fun c3 => ?_)
        · have qc3 := c3
          have c3n : ¬ (lFl P k 4) = 4 := zn_eqn (by omega) (by omega) c3
          refine lv_iconst (v := nI 0) hx hb dL_won_31 (by decide) ?_
          refine lv_iadd hx hb dL_won_32 ?_
          refine zrwi (y := nI (n + 0)) (nI_add _ _) ?_
          refine lv_istore_n (lv' := [(2, .int (nI (n + 0))), (3, .int (nI k)), (0, .ref a), (1, .int (nI nl))]) hx hb dL_won_33 rfl hl (by decide) rfl (fun ls hl => ?_)
          refine lv_iinc (v := nI (k + 1)) (lv' := [(3, .int (nI (k + 1))), (2, .int (nI (n + 0))), (0, .ref a), (1, .int (nI nl))]) hx hb dL_won_34 hl (k := 1) rfl (zi_inc k) (by decide) rfl (fun ls hl => ?_)
          refine lv_goto (tgt := 4) hx hb dL_won_37 (by decide) ?_
          exact ih4 (k + 1) (n + 0) (by first | assumption | omega) (by first | exact lWc_f1 (by assumption) hn | exact lWc_t (by assumption) (by assumption) hn | exact lWc_f2 (by assumption) hn) (by omega) H locs ls X (lv_sub hl [0, 1, 2, 3] rfl)
        · have qc3 := c3
          have c3n : (lFl P k 4) = 4 := zn_eqt (by omega) (by omega) c3
          refine lv_aload_n hx hb dL_won_19 rfl (lv_at hl 2 rfl) ?_
          refine lv_iload_n hx hb dL_won_20 rfl (lv_at hl 0 rfl) ?_
          refine zsubS (n := 2) (As := [.ref a, .int (nI k)]) (rest := [.int (nI n)]) (wc := oB g a P) (wr := []) [0] [] rfl rfl rfl rfl (by decide) Z X zSt0 (fun _ _ h => h) (c_L_shared l g a P k (by omega)) gL_won_L_shared rfl (by decide +kernel) ⟨Nat.le_of_ble_eq_true rfl, Nat.le_of_ble_eq_true rfl⟩ rfl rfl hl.1 (Nat.le_of_ble_eq_true rfl) dL_won_21 ⟨show 0 + 0 + 0 ≤ 0 from by omega, show 0 + 0 + 0 ≤ 0 from by omega⟩ (fun r4 ur4 H locs hr4 X => ?_)
          obtain ⟨hur4, hr4⟩ := hr4
          rw [hur4] at X
          have X : zh g A (oB g a P) s.heap H locs := X
          refine zrwi (y := lSh P k) hr4 ?_
          refine lv_if_le (tgt := 31) hx hb dL_won_24 (by decide) (fun c5 => ?_) (fun c5 => ?_)
          · have qc5 := c5
            refine lv_iconst (v := nI 0) hx hb dL_won_31 (by decide) ?_
            refine lv_iadd hx hb dL_won_32 ?_
            refine zrwi (y := nI (n + 0)) (nI_add _ _) ?_
            refine lv_istore_n (lv' := [(2, .int (nI (n + 0))), (3, .int (nI k)), (0, .ref a), (1, .int (nI nl))]) hx hb dL_won_33 rfl hl (by decide) rfl (fun ls hl => ?_)
            refine lv_iinc (v := nI (k + 1)) (lv' := [(3, .int (nI (k + 1))), (2, .int (nI (n + 0))), (0, .ref a), (1, .int (nI nl))]) hx hb dL_won_34 hl (k := 1) rfl (zi_inc k) (by decide) rfl (fun ls hl => ?_)
            refine lv_goto (tgt := 4) hx hb dL_won_37 (by decide) ?_
            exact ih4 (k + 1) (n + 0) (by first | assumption | omega) (by first | exact lWc_f1 (by assumption) hn | exact lWc_t (by assumption) (by assumption) hn | exact lWc_f2 (by assumption) hn) (by omega) H locs ls X (lv_sub hl [0, 1, 2, 3] rfl)
          · have qc5 := c5
            refine lv_iconst (v := nI 1) hx hb dL_won_27 (by decide) ?_
            refine lv_goto (tgt := 32) hx hb dL_won_28 (by decide) ?_
            refine lv_iadd hx hb dL_won_32 ?_
            refine zrwi (y := nI (n + 1)) (nI_add _ _) ?_
            refine lv_istore_n (lv' := [(2, .int (nI (n + 1))), (3, .int (nI k)), (0, .ref a), (1, .int (nI nl))]) hx hb dL_won_33 rfl hl (by decide) rfl (fun ls hl => ?_)
            refine lv_iinc (v := nI (k + 1)) (lv' := [(3, .int (nI (k + 1))), (2, .int (nI (n + 1))), (0, .ref a), (1, .int (nI nl))]) hx hb dL_won_34 hl (k := 1) rfl (zi_inc k) (by decide) rfl (fun ls hl => ?_)
            refine lv_goto (tgt := 4) hx hb dL_won_37 (by decide) ?_
            exact ih4 (k + 1) (n + 1) (by first | assumption | omega) (by first | exact lWc_f1 (by assumption) hn | exact lWc_t (by assumption) (by assumption) hn | exact lWc_f2 (by assumption) hn) (by omega) H locs ls X (lv_sub hl [0, 1, 2, 3] rfl)
  exact cut4 (nl + 1) 0 0 (Nat.zero_le _) (rfl) (by omega) H locs ls X (lv_sub hl [0, 1, 2, 3] rfl)
def P_L_isOn (P : Nat → Int32) (pv : Int32) : Int32 → (Nat → Int32) → Prop := fun r u => u = P ∧ r = zb (lHas P pv 16)
set_option maxHeartbeats 1000000 in
set_option maxRecDepth 100000 in
theorem c_L_isOn (l : Launch) (g : zG) (a : Nat) (P : Nat → Int32) (pv : Int32)  : zMk l yL_isOn wsL_isOn 0 0 0 0 g [.ref a, .int pv] (oB g a P) zE0 (zQi g (P_L_isOn P pv) (oB g a)) := by
  refine zstartk (cc := cL_isOn) (maxL := 4) (ret := (some .boolean)) (own := RL) rfl (by decide) rfl zSt0 (Nat.le_of_ble_eq_true rfl) ?_
  intro p e s m below meth c A Z hr hlk _hname H locs X ls hl
  have hx := Z.1.1
  have hb := Z.1.2.1
  have hl : lv_has ls 4 [(0, .ref a), (1, .int pv)] := hl
  have X : zh g A (oB g a P) s.heap H locs := X
  refine lv_iconst (v := (0 : Int32)) hx hb dL_isOn_0 (by decide) ?_
  refine lv_istore_n (lv' := [(2, .int (0 : Int32)), (0, .ref a), (1, .int pv)]) hx hb dL_isOn_1 rfl hl (by decide) rfl (fun ls hl => ?_)
  refine lv_iconst (v := (0 : Int32)) hx hb dL_isOn_2 (by decide) ?_
  refine lv_istore_n (lv' := [(3, .int (0 : Int32)), (2, .int (0 : Int32)), (0, .ref a), (1, .int pv)]) hx hb dL_isOn_3 rfl hl (by decide) rfl (fun ls hl => ?_)
  have cut4 : ∀ (n4 : Nat), ∀ (k : Nat) (o : Int32), (k ≤ 16) → (o = zb (lHas P pv k)) → (17 - k ≤ n4) → ∀ (H : Heap) (locs : List Loc) (ls : Array Slot), zh g A (oB g a P) s.heap H locs → lv_has ls 4 [(3, .int (nI k)), (2, .int o), (0, .ref a), (1, .int pv)] → W p l e { frames := 0, cells := 0, slots := 0, locals := 0 } s m ([.ref a, .int pv] : List Value).toArray below meth c H locs 0 0 (MQ below ((zQi g (P_L_isOn P pv) (oB g a)) A) ([.ref a, .int pv] : List Value).toArray s 0 0 A) (F0 m 4 ls []) := by
    intro n4
    induction n4 with
    | zero =>
      intro k o hk ho hn4 H locs ls X hl
      exfalso; omega
    | succ n4 ih4 =>
      intro k o hk ho hn4 H locs ls X hl
      refine lv_iload_n hx hb dL_isOn_4 rfl (lv_at hl 0 rfl) ?_
      refine lv_bipush (v := (16 : Int32)) hx hb dL_isOn_5 (by decide) ?_
      refine lv_icmp_ge (tgt := 33) hx hb dL_isOn_7 (by decide) (fun c1 => ?_) (fun c1 => ?_)
      · have qc1 := c1
        have c1n : 16 ≤ k := zn_let (by omega) (by omega) c1
        refine lv_iload_n hx hb dL_isOn_33 rfl (lv_at hl 1 rfl) ?_
        exact zreti Z hr hlk P X dL_isOn_34 (by rw [ho]; exact zb_nar _) (⟨rfl, by rw [ho, show k = 16 by omega]⟩)
      · have qc1 := c1
        have c1n : ¬ 16 ≤ k := zn_len (by omega) (by omega) c1
        refine lv_iload_n hx hb dL_isOn_10 rfl (lv_at hl 1 rfl) ?_
        refine lv_if_ne (tgt := 21) hx hb dL_isOn_11 (by decide) (fun c2 => ?_) (fun c2 => ?_)
        · have qc2 := c2
          refine lv_iconst (v := (1 : Int32)) hx hb dL_isOn_21 (by decide) ?_
          refine lv_goto (tgt := 26) hx hb dL_isOn_22 (by decide) ?_
          refine lv_istore_n (lv' := [(2, .int (1 : Int32)), (3, .int (nI k)), (0, .ref a), (1, .int pv)]) hx hb dL_isOn_26 rfl hl (by decide) rfl (fun ls hl => ?_)
          refine lv_iinc (v := nI (k + 1)) (lv' := [(3, .int (nI (k + 1))), (2, .int (1 : Int32)), (0, .ref a), (1, .int pv)]) hx hb dL_isOn_27 hl (k := 1) rfl (zi_inc k) (by decide) rfl (fun ls hl => ?_)
          refine lv_goto (tgt := 4) hx hb dL_isOn_30 (by decide) ?_
          exact ih4 (k + 1) (1 : Int32) (by first | assumption | omega) (by first | exact lHas_1 ho (by assumption) | exact lHas_2 (by assumption) | exact lHas_3 ho (by assumption) (by assumption)) (by omega) H locs ls X (lv_sub hl [0, 1, 2, 3] rfl)
        · have qc2 := c2
          refine lv_aload_n hx hb dL_isOn_14 rfl (lv_at hl 2 rfl) ?_
          refine lv_iload_n hx hb dL_isOn_15 rfl (lv_at hl 0 rfl) ?_
          refine zald (q0 := 0) (n := 16) (f := P) Z X rfl rfl k rfl (by omega) (by decide) dL_isOn_16 ?_
          refine lv_iload_n hx hb dL_isOn_17 rfl (lv_at hl 3 rfl) ?_
          refine lv_icmp_ne (tgt := 25) hx hb dL_isOn_18 (by decide) (fun c3 => ?_) (fun c3 => ?_)
          · have qc3 := c3
            refine lv_iconst (v := (0 : Int32)) hx hb dL_isOn_25 (by decide) ?_
            refine lv_istore_n (lv' := [(2, .int (0 : Int32)), (3, .int (nI k)), (0, .ref a), (1, .int pv)]) hx hb dL_isOn_26 rfl hl (by decide) rfl (fun ls hl => ?_)
            refine lv_iinc (v := nI (k + 1)) (lv' := [(3, .int (nI (k + 1))), (2, .int (0 : Int32)), (0, .ref a), (1, .int pv)]) hx hb dL_isOn_27 hl (k := 1) rfl (zi_inc k) (by decide) rfl (fun ls hl => ?_)
            refine lv_goto (tgt := 4) hx hb dL_isOn_30 (by decide) ?_
            exact ih4 (k + 1) (0 : Int32) (by first | assumption | omega) (by first | exact lHas_1 ho (by assumption) | exact lHas_2 (by assumption) | exact lHas_3 ho (by assumption) (by assumption)) (by omega) H locs ls X (lv_sub hl [0, 1, 2, 3] rfl)
          · have qc3 := c3
            refine lv_iconst (v := (1 : Int32)) hx hb dL_isOn_21 (by decide) ?_
            refine lv_goto (tgt := 26) hx hb dL_isOn_22 (by decide) ?_
            refine lv_istore_n (lv' := [(2, .int (1 : Int32)), (3, .int (nI k)), (0, .ref a), (1, .int pv)]) hx hb dL_isOn_26 rfl hl (by decide) rfl (fun ls hl => ?_)
            refine lv_iinc (v := nI (k + 1)) (lv' := [(3, .int (nI (k + 1))), (2, .int (1 : Int32)), (0, .ref a), (1, .int pv)]) hx hb dL_isOn_27 hl (k := 1) rfl (zi_inc k) (by decide) rfl (fun ls hl => ?_)
            refine lv_goto (tgt := 4) hx hb dL_isOn_30 (by decide) ?_
            exact ih4 (k + 1) (1 : Int32) (by first | assumption | omega) (by first | exact lHas_1 ho (by assumption) | exact lHas_2 (by assumption) | exact lHas_3 ho (by assumption) (by assumption)) (by omega) H locs ls X (lv_sub hl [0, 1, 2, 3] rfl)
  exact cut4 17 0 (0 : Int32) (by decide) (rfl) (by omega) H locs ls X (lv_sub hl [0, 1, 2, 3] rfl)
def P_L_winning (P : Nat → Int32) (nl : Nat) (pv : Int32) : Int32 → (Nat → Int32) → Prop := fun r u => u = P ∧ r = lWs P nl pv
set_option maxHeartbeats 1000000 in
set_option maxRecDepth 100000 in
theorem c_L_winning (l : Launch) (g : zG) (a : Nat) (P : Nat → Int32) (nl : Nat) (pv : Int32) (hnl : nl ≤ 19) (hok : okP P) : zMk l yL_winning wsL_winning 3 120 0 0 g [.ref a, .int (nI nl), .int pv] (oB g a P) zE0 (zQi g (P_L_winning P nl pv) (oB g a)) := by
  refine zstartk (cc := cL_winning) (maxL := 5) (ret := (some .int)) (own := RL) rfl (by decide) rfl zSt0 (Nat.le_of_ble_eq_true rfl) ?_
  intro p e s m below meth c A Z hr hlk _hname H locs X ls hl
  have hx := Z.1.1
  have hb := Z.1.2.1
  have hl : lv_has ls 5 [(0, .ref a), (1, .int (nI nl)), (2, .int pv)] := hl
  have X : zh g A (oB g a P) s.heap H locs := X
  refine lv_iconst (v := (0 : Int32)) hx hb dL_winning_0 (by decide) ?_
  refine lv_istore_n (lv' := [(3, .int (0 : Int32)), (0, .ref a), (1, .int (nI nl)), (2, .int pv)]) hx hb dL_winning_1 rfl hl (by decide) rfl (fun ls hl => ?_)
  refine lv_iconst (v := (0 : Int32)) hx hb dL_winning_2 (by decide) ?_
  refine lv_istore (lv' := [(4, .int (0 : Int32)), (3, .int (0 : Int32)), (0, .ref a), (1, .int (nI nl)), (2, .int pv)]) hx hb dL_winning_3 hl (by decide) rfl (fun ls hl => ?_)
  have cut5 : ∀ (n5 : Nat), ∀ (k : Nat) (acc : Int32), (k ≤ 16) → (acc = setN (lWsF P nl pv) k) → (17 - k ≤ n5) → ∀ (H : Heap) (locs : List Loc) (ls : Array Slot), zh g A (oB g a P) s.heap H locs → lv_has ls 5 [(4, .int (nI k)), (3, .int acc), (0, .ref a), (1, .int (nI nl)), (2, .int pv)] → W p l e { frames := 3, cells := 0, slots := 0, locals := 120 } s m ([.ref a, .int (nI nl), .int pv] : List Value).toArray below meth c H locs 0 0 (MQ below ((zQi g (P_L_winning P nl pv) (oB g a)) A) ([.ref a, .int (nI nl), .int pv] : List Value).toArray s 0 0 A) (F0 m 5 ls []) := by
    intro n5
    induction n5 with
    | zero =>
      intro k acc hk hacc hn5 H locs ls X hl
      exfalso; omega
    | succ n5 ih5 =>
      intro k acc hk hacc hn5 H locs ls X hl
      refine lv_iload hx hb dL_winning_5 (lv_at hl 0 rfl) ?_
      refine lv_bipush (v := (16 : Int32)) hx hb dL_winning_7 (by decide) ?_
      refine lv_icmp_ge (tgt := 54) hx hb dL_winning_9 (by decide) (fun c1 => ?_) (fun c1 => ?_)
      · have qc1 := c1
        have c1n : 16 ≤ k := zn_let (by omega) (by omega) c1
        refine lv_iload_n hx hb dL_winning_54 rfl (lv_at hl 1 rfl) ?_
        exact zreti Z hr hlk P X dL_winning_55 rfl (⟨rfl, by rw [hacc, show k = 16 by omega]; rfl⟩)
      · have qc1 := c1
        have c1n : ¬ 16 ≤ k := zn_len (by omega) (by omega) c1
        refine lv_aload_n hx hb dL_winning_12 rfl (lv_at hl 2 rfl) ?_
        refine lv_iload hx hb dL_winning_13 (lv_at hl 0 rfl) ?_
        refine zald (q0 := 0) (n := 16) (f := P) Z X rfl rfl k rfl (by omega) (by decide) dL_winning_15 ?_
        refine lv_if_ge (tgt := 48) hx hb dL_winning_16 (by decide) (fun c2 => ?_) (fun c2 => ?_)
        · have qc2 := c2
          refine lv_iinc (v := nI (k + 1)) (lv' := [(4, .int (nI (k + 1))), (3, .int acc), (0, .ref a), (1, .int (nI nl)), (2, .int pv)]) hx hb dL_winning_48 hl (k := 0) rfl (zi_inc k) (by decide) rfl (fun ls hl => ?_)
          refine lv_goto (tgt := 5) hx hb dL_winning_51 (by decide) ?_
          exact ih5 (k + 1) acc (by first | assumption | omega) (by first | exact lWs_k (by assumption) hacc | exact lWs_t (by assumption) (by assumption) hacc | exact lWs_f (by assumption) (by assumption) hacc) (by omega) H locs ls X (lv_sub hl [0, 1, 2, 3, 4] rfl)
        · have qc2 := c2
          refine lv_aload_n hx hb dL_winning_19 rfl (lv_at hl 2 rfl) ?_
          refine lv_iload hx hb dL_winning_20 (lv_at hl 0 rfl) ?_
          refine lv_iload_n hx hb dL_winning_22 rfl (lv_at hl 4 rfl) ?_
          refine zast (q0 := 0) (n := 16) (f := P) Z X rfl rfl k rfl (by omega) (by decide) dL_winning_23 (fun H locs X => ?_)
          have X : zh g A (oB g a (upd P k pv)) s.heap H locs := X
          refine lv_iload_n hx hb dL_winning_24 rfl (lv_at hl 1 rfl) ?_
          refine lv_aload_n hx hb dL_winning_25 rfl (lv_at hl 2 rfl) ?_
          refine lv_iload_n hx hb dL_winning_26 rfl (lv_at hl 3 rfl) ?_
          refine zsubS (n := 2) (As := [.ref a, .int (nI nl)]) (rest := [.int acc]) (wc := oB g a (upd P k pv)) (wr := []) [0] [] rfl rfl rfl rfl (by decide) Z X zSt0 (fun _ _ h => h) (c_L_won l g a (upd P k pv) nl (by omega)) gL_winning_L_won rfl (by decide +kernel) ⟨Nat.le_of_ble_eq_true rfl, Nat.le_of_ble_eq_true rfl⟩ rfl rfl hl.1 (Nat.le_of_ble_eq_true rfl) dL_winning_27 ⟨show 0 + 0 ≤ 0 from by omega, show 0 + 0 ≤ 0 from by omega⟩ (fun r3 ur3 H locs hr3 X => ?_)
          obtain ⟨hur3, hr3⟩ := hr3
          rw [hur3] at X
          have X : zh g A (oB g a (upd P k pv)) s.heap H locs := X
          refine zrwi (y := nI (lWc (upd P k pv) nl)) hr3 ?_
          have hwc := lWc_le (upd P k pv) nl
          refine lv_if_le (tgt := 40) hx hb dL_winning_30 (by decide) (fun c4 => ?_) (fun c4 => ?_)
          · have qc4 := c4
            have c4n : (lWc (upd P k pv) nl) ≤ 0 := zn_let (by omega) (by omega) c4
            refine lv_iconst (v := (0 : Int32)) hx hb dL_winning_40 (by decide) ?_
            refine lv_ior hx hb dL_winning_41 ?_
            refine lv_topi (fun x5 ex5 => ?_)
            refine lv_istore_n (lv' := [(3, .int x5), (4, .int (nI k)), (0, .ref a), (1, .int (nI nl)), (2, .int pv)]) hx hb dL_winning_42 rfl hl (by decide) rfl (fun ls hl => ?_)
            refine lv_aload_n hx hb dL_winning_43 rfl (lv_at hl 2 rfl) ?_
            refine lv_iload hx hb dL_winning_44 (lv_at hl 1 rfl) ?_
            refine lv_iconst (v := (-1 : Int32)) hx hb dL_winning_46 (by decide) ?_
            refine zast (q0 := 0) (n := 16) (f := (upd P k pv)) Z X rfl rfl k rfl (by omega) (by decide) dL_winning_47 (fun H locs X => ?_)
            have X : zh g A (oB g a (upd (upd P k pv) k (-1 : Int32))) s.heap H locs := X
            have X : zh g A (oB g a P) s.heap H locs := by rw [upd_back (ok_lt hok (by omega) (by assumption))] at X; exact X
            refine lv_iinc (v := nI (k + 1)) (lv' := [(4, .int (nI (k + 1))), (3, .int x5), (0, .ref a), (1, .int (nI nl)), (2, .int pv)]) hx hb dL_winning_48 hl (k := 1) rfl (zi_inc k) (by decide) rfl (fun ls hl => ?_)
            refine lv_goto (tgt := 5) hx hb dL_winning_51 (by decide) ?_
            exact ih5 (k + 1) x5 (by first | assumption | omega) (by subst ex5; first | exact lWs_k (by assumption) hacc | exact lWs_t (by assumption) (by assumption) hacc | exact lWs_f (by assumption) (by assumption) hacc) (by omega) H locs ls X (lv_sub hl [0, 1, 2, 3, 4] rfl)
          · have qc4 := c4
            have c4n : ¬ (lWc (upd P k pv) nl) ≤ 0 := zn_len (by omega) (by omega) c4
            refine lv_iconst (v := (1 : Int32)) hx hb dL_winning_33 (by decide) ?_
            refine lv_iload hx hb dL_winning_34 (lv_at hl 0 rfl) ?_
            refine lv_ishl hx hb dL_winning_36 ?_
            refine lv_goto (tgt := 41) hx hb dL_winning_37 (by decide) ?_
            refine lv_ior hx hb dL_winning_41 ?_
            refine lv_topi (fun x6 ex6 => ?_)
            refine lv_istore_n (lv' := [(3, .int x6), (4, .int (nI k)), (0, .ref a), (1, .int (nI nl)), (2, .int pv)]) hx hb dL_winning_42 rfl hl (by decide) rfl (fun ls hl => ?_)
            refine lv_aload_n hx hb dL_winning_43 rfl (lv_at hl 2 rfl) ?_
            refine lv_iload hx hb dL_winning_44 (lv_at hl 1 rfl) ?_
            refine lv_iconst (v := (-1 : Int32)) hx hb dL_winning_46 (by decide) ?_
            refine zast (q0 := 0) (n := 16) (f := (upd P k pv)) Z X rfl rfl k rfl (by omega) (by decide) dL_winning_47 (fun H locs X => ?_)
            have X : zh g A (oB g a (upd (upd P k pv) k (-1 : Int32))) s.heap H locs := X
            have X : zh g A (oB g a P) s.heap H locs := by rw [upd_back (ok_lt hok (by omega) (by assumption))] at X; exact X
            refine lv_iinc (v := nI (k + 1)) (lv' := [(4, .int (nI (k + 1))), (3, .int x6), (0, .ref a), (1, .int (nI nl)), (2, .int pv)]) hx hb dL_winning_48 hl (k := 1) rfl (zi_inc k) (by decide) rfl (fun ls hl => ?_)
            refine lv_goto (tgt := 5) hx hb dL_winning_51 (by decide) ?_
            exact ih5 (k + 1) x6 (by first | assumption | omega) (by subst ex6; first | exact lWs_k (by assumption) hacc | exact lWs_t (by assumption) (by assumption) hacc | exact lWs_f (by assumption) (by assumption) hacc) (by omega) H locs ls X (lv_sub hl [0, 1, 2, 3, 4] rfl)
  exact cut5 17 0 (0 : Int32) (by decide) (rfl) (by omega) H locs ls X (lv_sub hl [0, 1, 2, 3, 4] rfl)
def P_L_safe (P : Nat → Int32) (nl : Nat) : Int32 → (Nat → Int32) → Prop := fun r u => u = P ∧ r = lSs P nl
set_option maxHeartbeats 1000000 in
set_option maxRecDepth 100000 in
theorem c_L_safe (l : Launch) (g : zG) (a : Nat) (P : Nat → Int32) (nl : Nat) (hnl : nl ≤ 19) (hok : okP P) : zMk l yL_safe wsL_safe 4 160 0 0 g [.ref a, .int (nI nl)] (oB g a P) zE0 (zQi g (P_L_safe P nl) (oB g a)) := by
  refine zstartk (cc := cL_safe) (maxL := 4) (ret := (some .int)) (own := RL) rfl (by decide) rfl zSt0 (Nat.le_of_ble_eq_true rfl) ?_
  intro p e s m below meth c A Z hr hlk _hname H locs X ls hl
  have hx := Z.1.1
  have hb := Z.1.2.1
  have hl : lv_has ls 4 [(0, .ref a), (1, .int (nI nl))] := hl
  have X : zh g A (oB g a P) s.heap H locs := X
  refine lv_iconst (v := (0 : Int32)) hx hb dL_safe_0 (by decide) ?_
  refine lv_istore_n (lv' := [(2, .int (0 : Int32)), (0, .ref a), (1, .int (nI nl))]) hx hb dL_safe_1 rfl hl (by decide) rfl (fun ls hl => ?_)
  refine lv_iconst (v := (0 : Int32)) hx hb dL_safe_2 (by decide) ?_
  refine lv_istore_n (lv' := [(3, .int (0 : Int32)), (2, .int (0 : Int32)), (0, .ref a), (1, .int (nI nl))]) hx hb dL_safe_3 rfl hl (by decide) rfl (fun ls hl => ?_)
  have cut4 : ∀ (n4 : Nat), ∀ (k : Nat) (acc : Int32), (k ≤ 16) → (acc = setN (lSsF P nl) k) → (17 - k ≤ n4) → ∀ (H : Heap) (locs : List Loc) (ls : Array Slot), zh g A (oB g a P) s.heap H locs → lv_has ls 4 [(3, .int (nI k)), (2, .int acc), (0, .ref a), (1, .int (nI nl))] → W p l e { frames := 4, cells := 0, slots := 0, locals := 160 } s m ([.ref a, .int (nI nl)] : List Value).toArray below meth c H locs 0 0 (MQ below ((zQi g (P_L_safe P nl) (oB g a)) A) ([.ref a, .int (nI nl)] : List Value).toArray s 0 0 A) (F0 m 4 ls []) := by
    intro n4
    induction n4 with
    | zero =>
      intro k acc hk hacc hn4 H locs ls X hl
      exfalso; omega
    | succ n4 ih4 =>
      intro k acc hk hacc hn4 H locs ls X hl
      refine lv_iload_n hx hb dL_safe_4 rfl (lv_at hl 0 rfl) ?_
      refine lv_bipush (v := (16 : Int32)) hx hb dL_safe_5 (by decide) ?_
      refine lv_icmp_ge (tgt := 43) hx hb dL_safe_7 (by decide) (fun c1 => ?_) (fun c1 => ?_)
      · have qc1 := c1
        have c1n : 16 ≤ k := zn_let (by omega) (by omega) c1
        refine lv_iload_n hx hb dL_safe_43 rfl (lv_at hl 1 rfl) ?_
        exact zreti Z hr hlk P X dL_safe_44 rfl (⟨rfl, by rw [hacc, show k = 16 by omega]; rfl⟩)
      · have qc1 := c1
        have c1n : ¬ 16 ≤ k := zn_len (by omega) (by omega) c1
        refine lv_iload_n hx hb dL_safe_10 rfl (lv_at hl 1 rfl) ?_
        refine lv_aload_n hx hb dL_safe_11 rfl (lv_at hl 2 rfl) ?_
        refine lv_iload_n hx hb dL_safe_12 rfl (lv_at hl 0 rfl) ?_
        refine zsubS (n := 2) (As := [.ref a, .int (nI k)]) (rest := [.int acc]) (wc := oB g a P) (wr := []) [0] [] rfl rfl rfl rfl (by decide) Z X zSt0 (fun _ _ h => h) (c_L_isOn l g a P (nI k)) gL_safe_L_isOn rfl (by decide +kernel) ⟨Nat.le_of_ble_eq_true rfl, Nat.le_of_ble_eq_true rfl⟩ rfl rfl hl.1 (Nat.le_of_ble_eq_true rfl) dL_safe_13 ⟨show 0 + 0 ≤ 0 from by omega, show 0 + 0 ≤ 0 from by omega⟩ (fun r2 ur2 H locs hr2 X => ?_)
        obtain ⟨hur2, hr2⟩ := hr2
        rw [hur2] at X
        have X : zh g A (oB g a P) s.heap H locs := X
        refine zrwi (y := zb (lHas P (nI k) 16)) hr2 ?_
        refine lv_if_ne (tgt := 34) hx hb dL_safe_16 (by decide) (fun c3 => ?_) (fun c3 => ?_)
        · have qc3 := c3
          refine lv_iconst (v := (0 : Int32)) hx hb dL_safe_34 (by decide) ?_
          refine lv_ior hx hb dL_safe_35 ?_
          refine lv_topi (fun x4 ex4 => ?_)
          refine lv_istore_n (lv' := [(2, .int x4), (3, .int (nI k)), (0, .ref a), (1, .int (nI nl))]) hx hb dL_safe_36 rfl hl (by decide) rfl (fun ls hl => ?_)
          refine lv_iinc (v := nI (k + 1)) (lv' := [(3, .int (nI (k + 1))), (2, .int x4), (0, .ref a), (1, .int (nI nl))]) hx hb dL_safe_37 hl (k := 1) rfl (zi_inc k) (by decide) rfl (fun ls hl => ?_)
          refine lv_goto (tgt := 4) hx hb dL_safe_40 (by decide) ?_
          exact ih4 (k + 1) x4 (by first | assumption | omega) (by subst ex4; first | exact lSs_t (by assumption) (by assumption) hacc | exact lSs_f1 (by assumption) hacc | exact lSs_f2 (by assumption) hacc) (by omega) H locs ls X (lv_sub hl [0, 1, 2, 3] rfl)
        · have qc3 := c3
          refine lv_aload_n hx hb dL_safe_19 rfl (lv_at hl 2 rfl) ?_
          refine lv_iload_n hx hb dL_safe_20 rfl (lv_at hl 3 rfl) ?_
          refine lv_iload_n hx hb dL_safe_21 rfl (lv_at hl 0 rfl) ?_
          refine zsubS (n := 3) (As := [.ref a, .int (nI nl), .int (nI k)]) (rest := [.int acc]) (wc := oB g a P) (wr := []) [0] [] rfl rfl rfl rfl (by decide) Z X zSt0 (fun _ _ h => h) (c_L_winning l g a P nl (nI k) (by omega) hok) gL_safe_L_winning rfl (by decide +kernel) ⟨Nat.le_of_ble_eq_true rfl, Nat.le_of_ble_eq_true rfl⟩ rfl rfl hl.1 (Nat.le_of_ble_eq_true rfl) dL_safe_22 ⟨show 0 + 0 + 0 ≤ 0 from by omega, show 0 + 0 + 0 ≤ 0 from by omega⟩ (fun r5 ur5 H locs hr5 X => ?_)
          obtain ⟨hur5, hr5⟩ := hr5
          rw [hur5] at X
          have X : zh g A (oB g a P) s.heap H locs := X
          refine zrwi (y := lWs P nl (nI k)) hr5 ?_
          refine lv_if_ne (tgt := 34) hx hb dL_safe_25 (by decide) (fun c6 => ?_) (fun c6 => ?_)
          · have qc6 := c6
            refine lv_iconst (v := (0 : Int32)) hx hb dL_safe_34 (by decide) ?_
            refine lv_ior hx hb dL_safe_35 ?_
            refine lv_topi (fun x7 ex7 => ?_)
            refine lv_istore_n (lv' := [(2, .int x7), (3, .int (nI k)), (0, .ref a), (1, .int (nI nl))]) hx hb dL_safe_36 rfl hl (by decide) rfl (fun ls hl => ?_)
            refine lv_iinc (v := nI (k + 1)) (lv' := [(3, .int (nI (k + 1))), (2, .int x7), (0, .ref a), (1, .int (nI nl))]) hx hb dL_safe_37 hl (k := 1) rfl (zi_inc k) (by decide) rfl (fun ls hl => ?_)
            refine lv_goto (tgt := 4) hx hb dL_safe_40 (by decide) ?_
            exact ih4 (k + 1) x7 (by first | assumption | omega) (by subst ex7; first | exact lSs_t (by assumption) (by assumption) hacc | exact lSs_f1 (by assumption) hacc | exact lSs_f2 (by assumption) hacc) (by omega) H locs ls X (lv_sub hl [0, 1, 2, 3] rfl)
          · have qc6 := c6
            refine lv_iconst (v := (1 : Int32)) hx hb dL_safe_28 (by decide) ?_
            refine lv_iload_n hx hb dL_safe_29 rfl (lv_at hl 0 rfl) ?_
            refine lv_ishl hx hb dL_safe_30 ?_
            refine lv_goto (tgt := 35) hx hb dL_safe_31 (by decide) ?_
            refine lv_ior hx hb dL_safe_35 ?_
            refine lv_topi (fun x8 ex8 => ?_)
            refine lv_istore_n (lv' := [(2, .int x8), (3, .int (nI k)), (0, .ref a), (1, .int (nI nl))]) hx hb dL_safe_36 rfl hl (by decide) rfl (fun ls hl => ?_)
            refine lv_iinc (v := nI (k + 1)) (lv' := [(3, .int (nI (k + 1))), (2, .int x8), (0, .ref a), (1, .int (nI nl))]) hx hb dL_safe_37 hl (k := 1) rfl (zi_inc k) (by decide) rfl (fun ls hl => ?_)
            refine lv_goto (tgt := 4) hx hb dL_safe_40 (by decide) ?_
            exact ih4 (k + 1) x8 (by first | assumption | omega) (by subst ex8; first | exact lSs_t (by assumption) (by assumption) hacc | exact lSs_f1 (by assumption) hacc | exact lSs_f2 (by assumption) hacc) (by omega) H locs ls X (lv_sub hl [0, 1, 2, 3] rfl)
  exact cut4 17 0 (0 : Int32) (by decide) (rfl) (by omega) H locs ls X (lv_sub hl [0, 1, 2, 3] rfl)
def P_L_lowest (v : Int32) : Int32 → Unit → Prop := fun r _ => ∃ k, r = nI k ∧ lowS v k
set_option maxHeartbeats 1000000 in
set_option maxRecDepth 100000 in
theorem c_L_lowest (l : Launch) (g : zG) (v : Int32)  : zMk l yL_lowest wsL_lowest 0 0 0 0 g [.int v] ([]) zE0 (zQi g (P_L_lowest v) (fun _ : Unit => [])) := by
  refine zstartk (cc := cL_lowest) (maxL := 2) (ret := (some .int)) (own := RL) rfl (by decide) rfl zSt0 (Nat.le_of_ble_eq_true rfl) ?_
  intro p e s m below meth c A Z hr hlk _hname H locs X ls hl
  have hx := Z.1.1
  have hb := Z.1.2.1
  have hl : lv_has ls 2 [(0, .int v)] := hl
  have X : zh g A ([]) s.heap H locs := X
  refine lv_iconst (v := (0 : Int32)) hx hb dL_lowest_0 (by decide) ?_
  refine lv_istore_n (lv' := [(1, .int (0 : Int32)), (0, .int v)]) hx hb dL_lowest_1 rfl hl (by decide) rfl (fun ls hl => ?_)
  have cut2 : ∀ (n2 : Nat), ∀ (k : Nat), (k ≤ 16) → (∀ j, j < k → qHas v (nI j) = false) → (17 - k ≤ n2) → ∀ (H : Heap) (locs : List Loc) (ls : Array Slot), zh g A ([]) s.heap H locs → lv_has ls 2 [(1, .int (nI k)), (0, .int v)] → W p l e { frames := 0, cells := 0, slots := 0, locals := 0 } s m ([.int v] : List Value).toArray below meth c H locs 0 0 (MQ below ((zQi g (P_L_lowest v) (fun _ : Unit => [])) A) ([.int v] : List Value).toArray s 0 0 A) (F0 m 2 ls []) := by
    intro n2
    induction n2 with
    | zero =>
      intro k hk hb2 hn2 H locs ls X hl
      exfalso; omega
    | succ n2 ih2 =>
      intro k hk hb2 hn2 H locs ls X hl
      refine lv_iload_n hx hb dL_lowest_2 rfl (lv_at hl 0 rfl) ?_
      refine lv_bipush (v := (16 : Int32)) hx hb dL_lowest_3 (by decide) ?_
      refine lv_icmp_ge (tgt := 22) hx hb dL_lowest_5 (by decide) (fun c1 => ?_) (fun c1 => ?_)
      · have qc1 := c1
        have c1n : 16 ≤ k := zn_let (by omega) (by omega) c1
        refine lv_iload_n hx hb dL_lowest_22 rfl (lv_at hl 0 rfl) ?_
        exact zreti Z hr hlk () X dL_lowest_23 rfl (by first | exact ⟨k, rfl, hk, hb2, fun q => absurd q (by omega)⟩ | exact ⟨k, rfl, hk, hb2, fun q => low_b q (by assumption)⟩)
      · have qc1 := c1
        have c1n : ¬ 16 ≤ k := zn_len (by omega) (by omega) c1
        refine lv_iload_n hx hb dL_lowest_8 rfl (lv_at hl 1 rfl) ?_
        refine lv_iload_n hx hb dL_lowest_9 rfl (lv_at hl 0 rfl) ?_
        refine lv_ishr hx hb dL_lowest_10 ?_
        refine lv_iconst (v := (1 : Int32)) hx hb dL_lowest_11 (by decide) ?_
        refine lv_iand hx hb dL_lowest_12 ?_
        refine lv_if_ne (tgt := 22) hx hb dL_lowest_13 (by decide) (fun c2 => ?_) (fun c2 => ?_)
        · have qc2 := c2
          refine lv_iload_n hx hb dL_lowest_22 rfl (lv_at hl 0 rfl) ?_
          exact zreti Z hr hlk () X dL_lowest_23 rfl (by first | exact ⟨k, rfl, hk, hb2, fun q => absurd q (by omega)⟩ | exact ⟨k, rfl, hk, hb2, fun q => low_b q (by assumption)⟩)
        · have qc2 := c2
          refine lv_iinc (v := nI (k + 1)) (lv' := [(1, .int (nI (k + 1))), (0, .int v)]) hx hb dL_lowest_16 hl (k := 0) rfl (zi_inc k) (by decide) rfl (fun ls hl => ?_)
          refine lv_goto (tgt := 2) hx hb dL_lowest_19 (by decide) ?_
          exact ih2 (k + 1) (by first | assumption | omega) (low_s hb2 (by omega) (by assumption)) (by omega) H locs ls X (lv_sub hl [0, 1] rfl)
  exact cut2 17 0 (by decide) (fun j hj => absurd hj (Nat.not_lt_zero j)) (by omega) H locs ls X (lv_sub hl [0, 1] rfl)
