/-! the class: turning and renaming -/
def tsq (s t : Nat) : Nat := 4 * (if t / 2 % 2 = 0 then (if t % 2 = 0 then s / 4 else s % 4) else 3 - (if t % 2 = 0 then s / 4 else s % 4)) + (if t / 4 % 2 = 0 then (if t % 2 = 0 then s % 4 else s / 4) else 3 - (if t % 2 = 0 then s % 4 else s / 4))
theorem qT1 : ∀ t, t < 8 → (nI t &&& nI 1 = (0 : Int32) ↔ t % 2 = 0) := by decide +kernel
theorem qT2 : ∀ t, t < 8 → (nI t &&& nI 2 = (0 : Int32) ↔ t / 2 % 2 = 0) := by decide +kernel
theorem qT4 : ∀ t, t < 8 → (nI t &&& nI 4 = (0 : Int32) ↔ t / 4 % 2 = 0) := by decide +kernel
def qTrn (x : Int64) (t : Nat) : Nat → Int64
  | 0 => 0
  | k + 1 => qTrn x t k ||| ((((x.toUInt64 >>> ((nI k).toInt64.toUInt64 &&& Int64.toUInt64 63)).toInt64) &&& (281479271743489 : Int64)) <<< ((nI (tsq k t)).toInt64 &&& 63))
def qTurned (x : Int64) (t : Nat) : Int64 := qTrn x t 16
def qLvC (d : Int64) (sq : Int32) : Nat → Int64
  | 0 => d
  | k + 1 => if qOne d (nI k) &&& (sq &&& -sq) = 0 then qLvC d sq k else qLvC d sq k ^^^ (sq.toInt64 <<< (((16 : Int32) * nI k).toInt64 &&& 63))
def qLev (d : Int64) (sq : Int32) : Int64 := qLvC d sq 4
def qEqC (d : Int64) (ones : Int32) : Nat → Nat
  | 0 => 0
  | k + 1 => if qOne d (nI k) = ones then qEqC d ones k + 1 else qEqC d ones k
theorem qEqC_le (d : Int64) (ones : Int32) : ∀ k, qEqC d ones k ≤ k
  | 0 => Nat.le_refl 0
  | k + 1 => by
    have := qEqC_le d ones k
    unfold qEqC
    split <;> omega
def qWyC (mine other : Int64) : Nat → Int32
  | 0 => 1
  | k + 1 => qWyC mine other k * (nI (qEqC other (qOne mine (nI k)) 4) - nI (qEqC mine (qOne mine (nI k)) k))
def qWays (f : Int32) (d : Int64) (t : Nat) (of : Int32) (od : Int64) : Int32 := if ¬ (qTurned f.toInt64 t).toInt32 = of then 0 else if of = 0 then 384 else qWyC (qLev (qTurned d t) of) (qLev od of) 4
def P_X0_turnedSquare (sq t : Nat) : Int32 → Unit → Prop := fun r _ => r = nI (tsq sq t)
set_option maxHeartbeats 4000000 in
set_option maxRecDepth 100000 in
theorem c_X0_turnedSquare (l : Launch) (g : zG) (sq : Nat) (t : Nat) (hsq : sq < 16) (ht : t < 8) : zM l yX0_turnedSquare wsX0_turnedSquare 0 0 g [.int (nI sq), .int (nI t)] ([]) zE0 (zQi g (P_X0_turnedSquare sq t) (fun _ : Unit => [])) := by
  refine zstart (cc := cX0_turnedSquare) (maxL := 5) (ret := (some .int)) (own := RX0) rfl (by decide) rfl zSt0 (Nat.le_of_ble_eq_true rfl) ?_
  intro p e s m below meth c A Z hr hlk H locs X ls hl
  have hx := Z.1.1
  have hb := Z.1.2.1
  have hl : lv_has ls 5 [(0, .int (nI sq)), (1, .int (nI t))] := hl
  have X : zh g A ([]) s.heap H locs := X
  refine lv_iload_n hx hb dX0_turnedSquare_0 rfl (lv_at hl 0 rfl) ?_
  refine lv_iconst (v := nI 4) hx hb dX0_turnedSquare_1 (by decide) ?_
  refine lv_idiv hx hb dX0_turnedSquare_2 (by decide) ?_
  refine zrwi (y := nI (sq / 4)) (pk_div (by omega) (by decide) (by decide)) ?_
  refine lv_istore_n (lv' := [(2, .int (nI (sq / 4))), (0, .int (nI sq)), (1, .int (nI t))]) hx hb dX0_turnedSquare_3 rfl hl (by decide) rfl (fun ls hl => ?_)
  refine lv_iload_n hx hb dX0_turnedSquare_4 rfl (lv_at hl 1 rfl) ?_
  refine lv_iconst (v := nI 4) hx hb dX0_turnedSquare_5 (by decide) ?_
  refine lv_irem hx hb dX0_turnedSquare_6 (by decide) ?_
  refine zrwi (y := nI (sq % 4)) (pk_rem (by omega) (by decide) (by decide)) ?_
  refine lv_istore_n (lv' := [(3, .int (nI (sq % 4))), (2, .int (nI (sq / 4))), (0, .int (nI sq)), (1, .int (nI t))]) hx hb dX0_turnedSquare_7 rfl hl (by decide) rfl (fun ls hl => ?_)
  refine lv_iload_n hx hb dX0_turnedSquare_8 rfl (lv_at hl 3 rfl) ?_
  refine lv_iconst (v := nI 1) hx hb dX0_turnedSquare_9 (by decide) ?_
  refine lv_iand hx hb dX0_turnedSquare_10 ?_
  refine lv_if_eq (tgt := 22) hx hb dX0_turnedSquare_11 (by decide) (fun c1 => ?_) (fun c1 => ?_)
  · have qc1 := c1
    have h1 : t % 2 = 0 := (qT1 t ht).mp c1
    refine lv_iload_n hx hb dX0_turnedSquare_22 rfl (lv_at hl 3 rfl) ?_
    refine lv_iconst (v := nI 2) hx hb dX0_turnedSquare_23 (by decide) ?_
    refine lv_iand hx hb dX0_turnedSquare_24 ?_
    refine lv_if_eq (tgt := 32) hx hb dX0_turnedSquare_25 (by decide) (fun c2 => ?_) (fun c2 => ?_)
    · have qc2 := c2
      have h2 : t / 2 % 2 = 0 := (qT2 t ht).mp c2
      refine lv_iload_n hx hb dX0_turnedSquare_32 rfl (lv_at hl 3 rfl) ?_
      refine lv_iconst (v := nI 4) hx hb dX0_turnedSquare_33 (by decide) ?_
      refine lv_iand hx hb dX0_turnedSquare_34 ?_
      refine lv_if_eq (tgt := 42) hx hb dX0_turnedSquare_35 (by decide) (fun c3 => ?_) (fun c3 => ?_)
      · have qc3 := c3
        have h3 : t / 4 % 2 = 0 := (qT4 t ht).mp c3
        refine lv_iconst (v := nI 4) hx hb dX0_turnedSquare_42 (by decide) ?_
        refine lv_iload_n hx hb dX0_turnedSquare_43 rfl (lv_at hl 1 rfl) ?_
        refine lv_imul hx hb dX0_turnedSquare_44 ?_
        refine zrwi (y := nI (4 * (sq / 4))) (pk_mul _ _) ?_
        refine lv_iload_n hx hb dX0_turnedSquare_45 rfl (lv_at hl 0 rfl) ?_
        refine lv_iadd hx hb dX0_turnedSquare_46 ?_
        refine zrwi (y := nI ((4 * (sq / 4)) + (sq % 4))) (nI_add _ _) ?_
        exact zreti Z hr hlk () X dX0_turnedSquare_47 rfl (by show _ = nI (tsq sq t); simp only [tsq, h1, h2, h3, decide_true, decide_false, Bool.and_true, Bool.and_false, Bool.true_and, Bool.false_and, not_true_eq_false, not_false_eq_true, Bool.not_true, Bool.not_false, if_true, if_false, and_true, true_and, and_false, false_and, Bool.false_eq_true, Bool.true_eq_false, eq_self])
      · have qc3 := c3
        have h3 : ¬ t / 4 % 2 = 0 := fun q => c3 ((qT4 t ht).mpr q)
        refine lv_iconst (v := nI 3) hx hb dX0_turnedSquare_38 (by decide) ?_
        refine lv_iload_n hx hb dX0_turnedSquare_39 rfl (lv_at hl 0 rfl) ?_
        refine lv_isub hx hb dX0_turnedSquare_40 ?_
        refine zrwi (y := nI (3 - (sq % 4))) (pk_sub (by omega)) ?_
        refine lv_istore_n (lv' := [(3, .int (nI (3 - (sq % 4)))), (2, .int (nI (sq / 4))), (0, .int (nI sq)), (1, .int (nI t))]) hx hb dX0_turnedSquare_41 rfl hl (by decide) rfl (fun ls hl => ?_)
        refine lv_iconst (v := nI 4) hx hb dX0_turnedSquare_42 (by decide) ?_
        refine lv_iload_n hx hb dX0_turnedSquare_43 rfl (lv_at hl 1 rfl) ?_
        refine lv_imul hx hb dX0_turnedSquare_44 ?_
        refine zrwi (y := nI (4 * (sq / 4))) (pk_mul _ _) ?_
        refine lv_iload_n hx hb dX0_turnedSquare_45 rfl (lv_at hl 0 rfl) ?_
        refine lv_iadd hx hb dX0_turnedSquare_46 ?_
        refine zrwi (y := nI ((4 * (sq / 4)) + (3 - (sq % 4)))) (nI_add _ _) ?_
        exact zreti Z hr hlk () X dX0_turnedSquare_47 rfl (by show _ = nI (tsq sq t); simp only [tsq, h1, h2, h3, decide_true, decide_false, Bool.and_true, Bool.and_false, Bool.true_and, Bool.false_and, not_true_eq_false, not_false_eq_true, Bool.not_true, Bool.not_false, if_true, if_false, and_true, true_and, and_false, false_and, Bool.false_eq_true, Bool.true_eq_false, eq_self])
    · have qc2 := c2
      have h2 : ¬ t / 2 % 2 = 0 := fun q => c2 ((qT2 t ht).mpr q)
      refine lv_iconst (v := nI 3) hx hb dX0_turnedSquare_28 (by decide) ?_
      refine lv_iload_n hx hb dX0_turnedSquare_29 rfl (lv_at hl 1 rfl) ?_
      refine lv_isub hx hb dX0_turnedSquare_30 ?_
      refine zrwi (y := nI (3 - (sq / 4))) (pk_sub (by omega)) ?_
      refine lv_istore_n (lv' := [(2, .int (nI (3 - (sq / 4)))), (3, .int (nI (sq % 4))), (0, .int (nI sq)), (1, .int (nI t))]) hx hb dX0_turnedSquare_31 rfl hl (by decide) rfl (fun ls hl => ?_)
      refine lv_iload_n hx hb dX0_turnedSquare_32 rfl (lv_at hl 3 rfl) ?_
      refine lv_iconst (v := nI 4) hx hb dX0_turnedSquare_33 (by decide) ?_
      refine lv_iand hx hb dX0_turnedSquare_34 ?_
      refine lv_if_eq (tgt := 42) hx hb dX0_turnedSquare_35 (by decide) (fun c4 => ?_) (fun c4 => ?_)
      · have qc4 := c4
        have h3 : t / 4 % 2 = 0 := (qT4 t ht).mp c4
        refine lv_iconst (v := nI 4) hx hb dX0_turnedSquare_42 (by decide) ?_
        refine lv_iload_n hx hb dX0_turnedSquare_43 rfl (lv_at hl 0 rfl) ?_
        refine lv_imul hx hb dX0_turnedSquare_44 ?_
        refine zrwi (y := nI (4 * (3 - (sq / 4)))) (pk_mul _ _) ?_
        refine lv_iload_n hx hb dX0_turnedSquare_45 rfl (lv_at hl 1 rfl) ?_
        refine lv_iadd hx hb dX0_turnedSquare_46 ?_
        refine zrwi (y := nI ((4 * (3 - (sq / 4))) + (sq % 4))) (nI_add _ _) ?_
        exact zreti Z hr hlk () X dX0_turnedSquare_47 rfl (by show _ = nI (tsq sq t); simp only [tsq, h1, h2, h3, decide_true, decide_false, Bool.and_true, Bool.and_false, Bool.true_and, Bool.false_and, not_true_eq_false, not_false_eq_true, Bool.not_true, Bool.not_false, if_true, if_false, and_true, true_and, and_false, false_and, Bool.false_eq_true, Bool.true_eq_false, eq_self])
      · have qc4 := c4
        have h3 : ¬ t / 4 % 2 = 0 := fun q => c4 ((qT4 t ht).mpr q)
        refine lv_iconst (v := nI 3) hx hb dX0_turnedSquare_38 (by decide) ?_
        refine lv_iload_n hx hb dX0_turnedSquare_39 rfl (lv_at hl 1 rfl) ?_
        refine lv_isub hx hb dX0_turnedSquare_40 ?_
        refine zrwi (y := nI (3 - (sq % 4))) (pk_sub (by omega)) ?_
        refine lv_istore_n (lv' := [(3, .int (nI (3 - (sq % 4)))), (2, .int (nI (3 - (sq / 4)))), (0, .int (nI sq)), (1, .int (nI t))]) hx hb dX0_turnedSquare_41 rfl hl (by decide) rfl (fun ls hl => ?_)
        refine lv_iconst (v := nI 4) hx hb dX0_turnedSquare_42 (by decide) ?_
        refine lv_iload_n hx hb dX0_turnedSquare_43 rfl (lv_at hl 1 rfl) ?_
        refine lv_imul hx hb dX0_turnedSquare_44 ?_
        refine zrwi (y := nI (4 * (3 - (sq / 4)))) (pk_mul _ _) ?_
        refine lv_iload_n hx hb dX0_turnedSquare_45 rfl (lv_at hl 0 rfl) ?_
        refine lv_iadd hx hb dX0_turnedSquare_46 ?_
        refine zrwi (y := nI ((4 * (3 - (sq / 4))) + (3 - (sq % 4)))) (nI_add _ _) ?_
        exact zreti Z hr hlk () X dX0_turnedSquare_47 rfl (by show _ = nI (tsq sq t); simp only [tsq, h1, h2, h3, decide_true, decide_false, Bool.and_true, Bool.and_false, Bool.true_and, Bool.false_and, not_true_eq_false, not_false_eq_true, Bool.not_true, Bool.not_false, if_true, if_false, and_true, true_and, and_false, false_and, Bool.false_eq_true, Bool.true_eq_false, eq_self])
  · have qc1 := c1
    have h1 : ¬ t % 2 = 0 := fun q => c1 ((qT1 t ht).mpr q)
    refine lv_iload_n hx hb dX0_turnedSquare_14 rfl (lv_at hl 1 rfl) ?_
    refine lv_istore (lv' := [(4, .int (nI (sq / 4))), (3, .int (nI (sq % 4))), (2, .int (nI (sq / 4))), (0, .int (nI sq)), (1, .int (nI t))]) hx hb dX0_turnedSquare_15 hl (by decide) rfl (fun ls hl => ?_)
    refine lv_iload_n hx hb dX0_turnedSquare_17 rfl (lv_at hl 1 rfl) ?_
    refine lv_istore_n (lv' := [(2, .int (nI (sq % 4))), (4, .int (nI (sq / 4))), (3, .int (nI (sq % 4))), (0, .int (nI sq)), (1, .int (nI t))]) hx hb dX0_turnedSquare_18 rfl hl (by decide) rfl (fun ls hl => ?_)
    refine lv_iload hx hb dX0_turnedSquare_19 (lv_at hl 1 rfl) ?_
    refine lv_istore_n (lv' := [(3, .int (nI (sq / 4))), (2, .int (nI (sq % 4))), (4, .int (nI (sq / 4))), (0, .int (nI sq)), (1, .int (nI t))]) hx hb dX0_turnedSquare_21 rfl hl (by decide) rfl (fun ls hl => ?_)
    refine lv_iload_n hx hb dX0_turnedSquare_22 rfl (lv_at hl 4 rfl) ?_
    refine lv_iconst (v := nI 2) hx hb dX0_turnedSquare_23 (by decide) ?_
    refine lv_iand hx hb dX0_turnedSquare_24 ?_
    refine lv_if_eq (tgt := 32) hx hb dX0_turnedSquare_25 (by decide) (fun c5 => ?_) (fun c5 => ?_)
    · have qc5 := c5
      have h2 : t / 2 % 2 = 0 := (qT2 t ht).mp c5
      refine lv_iload_n hx hb dX0_turnedSquare_32 rfl (lv_at hl 4 rfl) ?_
      refine lv_iconst (v := nI 4) hx hb dX0_turnedSquare_33 (by decide) ?_
      refine lv_iand hx hb dX0_turnedSquare_34 ?_
      refine lv_if_eq (tgt := 42) hx hb dX0_turnedSquare_35 (by decide) (fun c6 => ?_) (fun c6 => ?_)
      · have qc6 := c6
        have h3 : t / 4 % 2 = 0 := (qT4 t ht).mp c6
        refine lv_iconst (v := nI 4) hx hb dX0_turnedSquare_42 (by decide) ?_
        refine lv_iload_n hx hb dX0_turnedSquare_43 rfl (lv_at hl 1 rfl) ?_
        refine lv_imul hx hb dX0_turnedSquare_44 ?_
        refine zrwi (y := nI (4 * (sq % 4))) (pk_mul _ _) ?_
        refine lv_iload_n hx hb dX0_turnedSquare_45 rfl (lv_at hl 0 rfl) ?_
        refine lv_iadd hx hb dX0_turnedSquare_46 ?_
        refine zrwi (y := nI ((4 * (sq % 4)) + (sq / 4))) (nI_add _ _) ?_
        exact zreti Z hr hlk () X dX0_turnedSquare_47 rfl (by show _ = nI (tsq sq t); simp only [tsq, h1, h2, h3, decide_true, decide_false, Bool.and_true, Bool.and_false, Bool.true_and, Bool.false_and, not_true_eq_false, not_false_eq_true, Bool.not_true, Bool.not_false, if_true, if_false, and_true, true_and, and_false, false_and, Bool.false_eq_true, Bool.true_eq_false, eq_self])
      · have qc6 := c6
        have h3 : ¬ t / 4 % 2 = 0 := fun q => c6 ((qT4 t ht).mpr q)
        refine lv_iconst (v := nI 3) hx hb dX0_turnedSquare_38 (by decide) ?_
        refine lv_iload_n hx hb dX0_turnedSquare_39 rfl (lv_at hl 0 rfl) ?_
        refine lv_isub hx hb dX0_turnedSquare_40 ?_
        refine zrwi (y := nI (3 - (sq / 4))) (pk_sub (by omega)) ?_
        refine lv_istore_n (lv' := [(3, .int (nI (3 - (sq / 4)))), (2, .int (nI (sq % 4))), (4, .int (nI (sq / 4))), (0, .int (nI sq)), (1, .int (nI t))]) hx hb dX0_turnedSquare_41 rfl hl (by decide) rfl (fun ls hl => ?_)
        refine lv_iconst (v := nI 4) hx hb dX0_turnedSquare_42 (by decide) ?_
        refine lv_iload_n hx hb dX0_turnedSquare_43 rfl (lv_at hl 1 rfl) ?_
        refine lv_imul hx hb dX0_turnedSquare_44 ?_
        refine zrwi (y := nI (4 * (sq % 4))) (pk_mul _ _) ?_
        refine lv_iload_n hx hb dX0_turnedSquare_45 rfl (lv_at hl 0 rfl) ?_
        refine lv_iadd hx hb dX0_turnedSquare_46 ?_
        refine zrwi (y := nI ((4 * (sq % 4)) + (3 - (sq / 4)))) (nI_add _ _) ?_
        exact zreti Z hr hlk () X dX0_turnedSquare_47 rfl (by show _ = nI (tsq sq t); simp only [tsq, h1, h2, h3, decide_true, decide_false, Bool.and_true, Bool.and_false, Bool.true_and, Bool.false_and, not_true_eq_false, not_false_eq_true, Bool.not_true, Bool.not_false, if_true, if_false, and_true, true_and, and_false, false_and, Bool.false_eq_true, Bool.true_eq_false, eq_self])
    · have qc5 := c5
      have h2 : ¬ t / 2 % 2 = 0 := fun q => c5 ((qT2 t ht).mpr q)
      refine lv_iconst (v := nI 3) hx hb dX0_turnedSquare_28 (by decide) ?_
      refine lv_iload_n hx hb dX0_turnedSquare_29 rfl (lv_at hl 1 rfl) ?_
      refine lv_isub hx hb dX0_turnedSquare_30 ?_
      refine zrwi (y := nI (3 - (sq % 4))) (pk_sub (by omega)) ?_
      refine lv_istore_n (lv' := [(2, .int (nI (3 - (sq % 4)))), (3, .int (nI (sq / 4))), (4, .int (nI (sq / 4))), (0, .int (nI sq)), (1, .int (nI t))]) hx hb dX0_turnedSquare_31 rfl hl (by decide) rfl (fun ls hl => ?_)
      refine lv_iload_n hx hb dX0_turnedSquare_32 rfl (lv_at hl 4 rfl) ?_
      refine lv_iconst (v := nI 4) hx hb dX0_turnedSquare_33 (by decide) ?_
      refine lv_iand hx hb dX0_turnedSquare_34 ?_
      refine lv_if_eq (tgt := 42) hx hb dX0_turnedSquare_35 (by decide) (fun c7 => ?_) (fun c7 => ?_)
      · have qc7 := c7
        have h3 : t / 4 % 2 = 0 := (qT4 t ht).mp c7
        refine lv_iconst (v := nI 4) hx hb dX0_turnedSquare_42 (by decide) ?_
        refine lv_iload_n hx hb dX0_turnedSquare_43 rfl (lv_at hl 0 rfl) ?_
        refine lv_imul hx hb dX0_turnedSquare_44 ?_
        refine zrwi (y := nI (4 * (3 - (sq % 4)))) (pk_mul _ _) ?_
        refine lv_iload_n hx hb dX0_turnedSquare_45 rfl (lv_at hl 1 rfl) ?_
        refine lv_iadd hx hb dX0_turnedSquare_46 ?_
        refine zrwi (y := nI ((4 * (3 - (sq % 4))) + (sq / 4))) (nI_add _ _) ?_
        exact zreti Z hr hlk () X dX0_turnedSquare_47 rfl (by show _ = nI (tsq sq t); simp only [tsq, h1, h2, h3, decide_true, decide_false, Bool.and_true, Bool.and_false, Bool.true_and, Bool.false_and, not_true_eq_false, not_false_eq_true, Bool.not_true, Bool.not_false, if_true, if_false, and_true, true_and, and_false, false_and, Bool.false_eq_true, Bool.true_eq_false, eq_self])
      · have qc7 := c7
        have h3 : ¬ t / 4 % 2 = 0 := fun q => c7 ((qT4 t ht).mpr q)
        refine lv_iconst (v := nI 3) hx hb dX0_turnedSquare_38 (by decide) ?_
        refine lv_iload_n hx hb dX0_turnedSquare_39 rfl (lv_at hl 1 rfl) ?_
        refine lv_isub hx hb dX0_turnedSquare_40 ?_
        refine zrwi (y := nI (3 - (sq / 4))) (pk_sub (by omega)) ?_
        refine lv_istore_n (lv' := [(3, .int (nI (3 - (sq / 4)))), (2, .int (nI (3 - (sq % 4)))), (4, .int (nI (sq / 4))), (0, .int (nI sq)), (1, .int (nI t))]) hx hb dX0_turnedSquare_41 rfl hl (by decide) rfl (fun ls hl => ?_)
        refine lv_iconst (v := nI 4) hx hb dX0_turnedSquare_42 (by decide) ?_
        refine lv_iload_n hx hb dX0_turnedSquare_43 rfl (lv_at hl 1 rfl) ?_
        refine lv_imul hx hb dX0_turnedSquare_44 ?_
        refine zrwi (y := nI (4 * (3 - (sq % 4)))) (pk_mul _ _) ?_
        refine lv_iload_n hx hb dX0_turnedSquare_45 rfl (lv_at hl 0 rfl) ?_
        refine lv_iadd hx hb dX0_turnedSquare_46 ?_
        refine zrwi (y := nI ((4 * (3 - (sq % 4))) + (3 - (sq / 4)))) (nI_add _ _) ?_
        exact zreti Z hr hlk () X dX0_turnedSquare_47 rfl (by show _ = nI (tsq sq t); simp only [tsq, h1, h2, h3, decide_true, decide_false, Bool.and_true, Bool.and_false, Bool.true_and, Bool.false_and, not_true_eq_false, not_false_eq_true, Bool.not_true, Bool.not_false, if_true, if_false, and_true, true_and, and_false, false_and, Bool.false_eq_true, Bool.true_eq_false, eq_self])
def P_X0_turned (x : Int64) (t : Nat) : Int64 → Unit → Prop := fun r _ => r = qTurned x t
set_option maxHeartbeats 4000000 in
set_option maxRecDepth 100000 in
theorem c_X0_turned (l : Launch) (g : zG) (x : Int64) (t : Nat) (ht : t < 8) : zM l yX0_turned wsX0_turned 1 60 g [.long x, .int (nI t)] ([]) zE0 (zQl g (P_X0_turned x t) (fun _ : Unit => [])) := by
  refine zstart (cc := cX0_turned) (maxL := 6) (ret := (some .long)) (own := RX0) rfl (by decide) rfl zSt0 (Nat.le_of_ble_eq_true rfl) ?_
  intro p e s m below meth c A Z hr hlk H locs X ls hl
  have hx := Z.1.1
  have hb := Z.1.2.1
  have hl : lv_has ls 6 [(0, .long x), (2, .int (nI t))] := hl
  have X : zh g A ([]) s.heap H locs := X
  refine lv_lconst (v := (0 : Int64)) hx hb dX0_turned_0 (by decide) ?_
  refine lv_lstore_n (lv' := [(3, .long (0 : Int64)), (0, .long x), (2, .int (nI t))]) hx hb dX0_turned_1 rfl hl (by decide) rfl (fun ls hl => ?_)
  refine lv_iconst (v := (0 : Int32)) hx hb dX0_turned_2 (by decide) ?_
  refine lv_istore (lv' := [(5, .int (0 : Int32)), (3, .long (0 : Int64)), (0, .long x), (2, .int (nI t))]) hx hb dX0_turned_3 hl (by decide) rfl (fun ls hl => ?_)
  have cut5 : ∀ (n5 : Nat), ∀ (k : Nat) (acc : Int64), (k ≤ 16) → (acc = qTrn x t k) → (17 - k ≤ n5) → ∀ (H : Heap) (locs : List Loc) (ls : Array Slot), zh g A ([]) s.heap H locs → lv_has ls 6 [(5, .int (nI k)), (3, .long acc), (0, .long x), (2, .int (nI t))] → W p l e { frames := 1, cells := 0, slots := 0, locals := 60 } s m ([.long x, .int (nI t)] : List Value).toArray below meth c H locs 0 0 (MQ below ((zQl g (P_X0_turned x t) (fun _ : Unit => [])) A) ([.long x, .int (nI t)] : List Value).toArray s 0 0 A) (F0 m 5 ls []) := by
    intro n5
    induction n5 with
    | zero =>
      intro k acc hk hacc hm5
      exact absurd hm5 (by omega)
    | succ n5 ih5 =>
      intro k acc hk hacc hm5 H locs ls X hl
      refine lv_iload hx hb dX0_turned_5 (lv_at hl 0 rfl) ?_
      refine lv_bipush (v := (16 : Int32)) hx hb dX0_turned_7 (by decide) ?_
      refine lv_icmp_ge (tgt := 36) hx hb dX0_turned_9 (by decide) (fun c1 => ?_) (fun c1 => ?_)
      · have qc1 := c1
        have c1n : 16 ≤ k := zn_let (by omega) (by omega) c1
        refine lv_lload_n hx hb dX0_turned_36 rfl (lv_at hl 1 rfl) ?_
        exact zretl Z hr hlk () X dX0_turned_37 (by show _ = qTurned x t; rw [hacc, show k = 16 by omega]; rfl)
      · have qc1 := c1
        have c1n : ¬ 16 ≤ k := zn_len (by omega) (by omega) c1
        refine lv_lload_n hx hb dX0_turned_12 rfl (lv_at hl 1 rfl) ?_
        refine lv_lload_n hx hb dX0_turned_13 rfl (lv_at hl 2 rfl) ?_
        refine lv_iload hx hb dX0_turned_14 (lv_at hl 0 rfl) ?_
        refine lv_lushr hx hb dX0_turned_16 rfl ?_
        refine lv_ldc2 (v := (281479271743489 : Int64)) hx hb Z.1.2.2.2.1 (Z.1.2.2.2.2 (.constantLong RX0 151 (281479271743489)) (by decide +kernel)) dX0_turned_17 ?_
        refine lv_land hx hb dX0_turned_20 ?_
        refine lv_iload hx hb dX0_turned_21 (lv_at hl 0 rfl) ?_
        refine lv_iload_n hx hb dX0_turned_23 rfl (lv_at hl 3 rfl) ?_
        refine zcallSi (n := 2) (As := [.int (nI k), .int (nI t)]) (rest := [.long (((x.toUInt64 >>> ((nI k).toInt64.toUInt64 &&& Int64.toUInt64 63)).toInt64) &&& (281479271743489 : Int64)), .long acc]) Z X (c_X0_turnedSquare l g k t (by omega) (by omega)) gX0_turned_X0_turnedSquare rfl (by decide +kernel) ⟨Nat.le_of_ble_eq_true rfl, Nat.le_of_ble_eq_true rfl⟩ rfl rfl hl.1 (Nat.le_of_ble_eq_true rfl) dX0_turned_24 ⟨Nat.zero_le _, Nat.zero_le _⟩ (fun r1 H locs hrr1 X => ?_)
        obtain rfl : r1 = nI (tsq k t) := hrr1
        refine lv_lshl hx hb dX0_turned_27 rfl ?_
        refine lv_lor hx hb dX0_turned_28 ?_
        refine lv_topl (fun x3 ex3 => ?_)
        refine lv_lstore_n (lv' := [(3, .long x3), (5, .int (nI k)), (0, .long x), (2, .int (nI t))]) hx hb dX0_turned_29 rfl hl (by decide) rfl (fun ls hl => ?_)
        refine lv_iinc (v := nI (k + 1)) (lv' := [(5, .int (nI (k + 1))), (3, .long x3), (0, .long x), (2, .int (nI t))]) hx hb dX0_turned_30 hl (k := 1) rfl (zi_inc k) (by decide) rfl (fun ls hl => ?_)
        refine lv_goto (tgt := 5) hx hb dX0_turned_33 (by decide) ?_
        exact ih5 (k + 1) x3 (by first | assumption | omega) (by subst ex3; rw [hacc]; rfl) (by omega) H locs ls X (lv_sub hl [0, 1, 2, 3] rfl)
  exact cut5 17 0 0 (by first | assumption | omega) (rfl) (by omega) H locs ls X (lv_sub hl [0, 1, 2, 3] rfl)
def P_X0_levelled (x : Int64) (sq : Int32) : Int64 → Unit → Prop := fun r _ => r = qLev x sq
set_option maxHeartbeats 4000000 in
set_option maxRecDepth 100000 in
theorem c_X0_levelled (l : Launch) (g : zG) (x : Int64) (sq : Int32)  : zM l yX0_levelled wsX0_levelled 1 60 g [.long x, .int sq] ([]) zE0 (zQl g (P_X0_levelled x sq) (fun _ : Unit => [])) := by
  refine zstart (cc := cX0_levelled) (maxL := 7) (ret := (some .long)) (own := RX0) rfl (by decide) rfl zSt0 (Nat.le_of_ble_eq_true rfl) ?_
  intro p e s m below meth c A Z hr hlk H locs X ls hl
  have hx := Z.1.1
  have hb := Z.1.2.1
  have hl : lv_has ls 7 [(0, .long x), (2, .int sq)] := hl
  have X : zh g A ([]) s.heap H locs := X
  refine lv_iload_n hx hb dX0_levelled_0 rfl (lv_at hl 1 rfl) ?_
  refine lv_iload_n hx hb dX0_levelled_1 rfl (lv_at hl 1 rfl) ?_
  refine lv_ineg hx hb dX0_levelled_2 ?_
  refine lv_iand hx hb dX0_levelled_3 ?_
  refine lv_istore_n (lv' := [(3, .int (sq &&& (-sq))), (0, .long x), (2, .int sq)]) hx hb dX0_levelled_4 rfl hl (by decide) rfl (fun ls hl => ?_)
  refine lv_lload_n hx hb dX0_levelled_5 rfl (lv_at hl 1 rfl) ?_
  refine lv_lstore (lv' := [(4, .long x), (3, .int (sq &&& (-sq))), (0, .long x), (2, .int sq)]) hx hb dX0_levelled_6 hl (by decide) rfl (fun ls hl => ?_)
  refine lv_iconst (v := (0 : Int32)) hx hb dX0_levelled_8 (by decide) ?_
  refine lv_istore (lv' := [(6, .int (0 : Int32)), (4, .long x), (3, .int (sq &&& (-sq))), (0, .long x), (2, .int sq)]) hx hb dX0_levelled_9 hl (by decide) rfl (fun ls hl => ?_)
  have cut11 : ∀ (n11 : Nat), ∀ (k : Nat) (acc : Int64), (k ≤ 4) → (acc = qLvC x sq k) → (5 - k ≤ n11) → ∀ (H : Heap) (locs : List Loc) (ls : Array Slot), zh g A ([]) s.heap H locs → lv_has ls 7 [(6, .int (nI k)), (4, .long acc), (3, .int (sq &&& -sq)), (0, .long x), (2, .int sq)] → W p l e { frames := 1, cells := 0, slots := 0, locals := 60 } s m ([.long x, .int sq] : List Value).toArray below meth c H locs 0 0 (MQ below ((zQl g (P_X0_levelled x sq) (fun _ : Unit => [])) A) ([.long x, .int sq] : List Value).toArray s 0 0 A) (F0 m 11 ls []) := by
    intro n11
    induction n11 with
    | zero =>
      intro k acc hk hacc hm11
      exact absurd hm11 (by omega)
    | succ n11 ih11 =>
      intro k acc hk hacc hm11 H locs ls X hl
      refine lv_iload hx hb dX0_levelled_11 (lv_at hl 0 rfl) ?_
      refine lv_iconst (v := (4 : Int32)) hx hb dX0_levelled_13 (by decide) ?_
      refine lv_icmp_ge (tgt := 47) hx hb dX0_levelled_14 (by decide) (fun c1 => ?_) (fun c1 => ?_)
      · have qc1 := c1
        have c1n : 4 ≤ k := zn_let (by omega) (by omega) c1
        refine lv_lload hx hb dX0_levelled_47 (lv_at hl 1 rfl) ?_
        exact zretl Z hr hlk () X dX0_levelled_49 (by show _ = qLev x sq; rw [hacc, show k = 4 by omega]; rfl)
      · have qc1 := c1
        have c1n : ¬ 4 ≤ k := zn_len (by omega) (by omega) c1
        refine lv_lload_n hx hb dX0_levelled_17 rfl (lv_at hl 3 rfl) ?_
        refine lv_iload hx hb dX0_levelled_18 (lv_at hl 0 rfl) ?_
        refine zcallSi (n := 2) (As := [.long x, .int (nI k)]) (rest := []) Z X (c_X0_withOne l g x (nI k)) gX0_levelled_X0_withOne rfl (by decide +kernel) ⟨Nat.le_of_ble_eq_true rfl, Nat.le_of_ble_eq_true rfl⟩ rfl rfl hl.1 (Nat.le_of_ble_eq_true rfl) dX0_levelled_20 ⟨Nat.zero_le _, Nat.zero_le _⟩ (fun r1 H locs hrr1 X => ?_)
        obtain rfl : r1 = qOne x (nI k) := hrr1
        refine lv_iload_n hx hb dX0_levelled_23 rfl (lv_at hl 2 rfl) ?_
        refine lv_iand hx hb dX0_levelled_24 ?_
        refine lv_if_eq (tgt := 41) hx hb dX0_levelled_25 (by decide) (fun c3 => ?_) (fun c3 => ?_)
        · have qc3 := c3
          refine lv_iinc (v := nI (k + 1)) (lv' := [(6, .int (nI (k + 1))), (4, .long acc), (3, .int (sq &&& -sq)), (0, .long x), (2, .int sq)]) hx hb dX0_levelled_41 hl (k := 0) rfl (zi_inc k) (by decide) rfl (fun ls hl => ?_)
          refine lv_goto (tgt := 11) hx hb dX0_levelled_44 (by decide) ?_
          exact ih11 (k + 1) acc (by first | assumption | omega) (by rw [hacc]; simp only [qLvC, c1n, c3, decide_true, decide_false, Bool.and_true, Bool.and_false, Bool.true_and, Bool.false_and, not_true_eq_false, not_false_eq_true, Bool.not_true, Bool.not_false, if_true, if_false, and_true, true_and, and_false, false_and, Bool.false_eq_true, Bool.true_eq_false, eq_self]) (by omega) H locs ls X (lv_sub hl [0, 1, 2, 3, 4] rfl)
        · have qc3 := c3
          refine lv_lload hx hb dX0_levelled_28 (lv_at hl 1 rfl) ?_
          refine lv_iload_n hx hb dX0_levelled_30 rfl (lv_at hl 4 rfl) ?_
          refine lv_i2l hx hb dX0_levelled_31 rfl ?_
          refine lv_bipush (v := (16 : Int32)) hx hb dX0_levelled_32 (by decide) ?_
          refine lv_iload hx hb dX0_levelled_34 (lv_at hl 0 rfl) ?_
          refine lv_imul hx hb dX0_levelled_36 ?_
          refine lv_lshl hx hb dX0_levelled_37 rfl ?_
          refine lv_lxor hx hb dX0_levelled_38 ?_
          refine lv_topl (fun x4 ex4 => ?_)
          refine lv_lstore (lv' := [(4, .long x4), (6, .int (nI k)), (3, .int (sq &&& -sq)), (0, .long x), (2, .int sq)]) hx hb dX0_levelled_39 hl (by decide) rfl (fun ls hl => ?_)
          refine lv_iinc (v := nI (k + 1)) (lv' := [(6, .int (nI (k + 1))), (4, .long x4), (3, .int (sq &&& -sq)), (0, .long x), (2, .int sq)]) hx hb dX0_levelled_41 hl (k := 1) rfl (zi_inc k) (by decide) rfl (fun ls hl => ?_)
          refine lv_goto (tgt := 11) hx hb dX0_levelled_44 (by decide) ?_
          exact ih11 (k + 1) x4 (by first | assumption | omega) (by subst ex4; rw [hacc]; simp only [qLvC, c1n, c3, decide_true, decide_false, Bool.and_true, Bool.and_false, Bool.true_and, Bool.false_and, not_true_eq_false, not_false_eq_true, Bool.not_true, Bool.not_false, if_true, if_false, and_true, true_and, and_false, false_and, Bool.false_eq_true, Bool.true_eq_false, eq_self]) (by omega) H locs ls X (lv_sub hl [0, 1, 2, 3, 4] rfl)
  exact cut11 5 0 x (by first | assumption | omega) (rfl) (by omega) H locs ls X (lv_sub hl [0, 1, 2, 3, 4] rfl)
def P_X0_equalMarks (x : Int64) (M : Nat) (ones : Int32) : Int32 → Unit → Prop := fun r _ => r = nI (qEqC x ones M)
set_option maxHeartbeats 4000000 in
set_option maxRecDepth 100000 in
theorem c_X0_equalMarks (l : Launch) (g : zG) (x : Int64) (M : Nat) (ones : Int32) (hM : M ≤ 4) : zM l yX0_equalMarks wsX0_equalMarks 1 60 g [.long x, .int (nI M), .int ones] ([]) zE0 (zQi g (P_X0_equalMarks x M ones) (fun _ : Unit => [])) := by
  refine zstart (cc := cX0_equalMarks) (maxL := 6) (ret := (some .int)) (own := RX0) rfl (by decide) rfl zSt0 (Nat.le_of_ble_eq_true rfl) ?_
  intro p e s m below meth c A Z hr hlk H locs X ls hl
  have hx := Z.1.1
  have hb := Z.1.2.1
  have hl : lv_has ls 6 [(0, .long x), (2, .int (nI M)), (3, .int ones)] := hl
  have X : zh g A ([]) s.heap H locs := X
  refine lv_iconst (v := (0 : Int32)) hx hb dX0_equalMarks_0 (by decide) ?_
  refine lv_istore (lv' := [(4, .int (0 : Int32)), (0, .long x), (2, .int (nI M)), (3, .int ones)]) hx hb dX0_equalMarks_1 hl (by decide) rfl (fun ls hl => ?_)
  refine lv_iconst (v := (0 : Int32)) hx hb dX0_equalMarks_3 (by decide) ?_
  refine lv_istore (lv' := [(5, .int (0 : Int32)), (4, .int (0 : Int32)), (0, .long x), (2, .int (nI M)), (3, .int ones)]) hx hb dX0_equalMarks_4 hl (by decide) rfl (fun ls hl => ?_)
  have cut6 : ∀ (n6 : Nat), ∀ (k : Nat) (n : Nat), (k ≤ M) → (n = qEqC x ones k) → (M + 1 - k ≤ n6) → ∀ (H : Heap) (locs : List Loc) (ls : Array Slot), zh g A ([]) s.heap H locs → lv_has ls 6 [(5, .int (nI k)), (4, .int (nI n)), (0, .long x), (2, .int (nI M)), (3, .int ones)] → W p l e { frames := 1, cells := 0, slots := 0, locals := 60 } s m ([.long x, .int (nI M), .int ones] : List Value).toArray below meth c H locs 0 0 (MQ below ((zQi g (P_X0_equalMarks x M ones) (fun _ : Unit => [])) A) ([.long x, .int (nI M), .int ones] : List Value).toArray s 0 0 A) (F0 m 6 ls []) := by
    intro n6
    induction n6 with
    | zero =>
      intro k n hk hn hm6
      exact absurd hm6 (by omega)
    | succ n6 ih6 =>
      intro k n hk hn hm6 H locs ls X hl
      refine lv_iload hx hb dX0_equalMarks_6 (lv_at hl 0 rfl) ?_
      refine lv_iload_n hx hb dX0_equalMarks_8 rfl (lv_at hl 3 rfl) ?_
      refine lv_icmp_ge (tgt := 31) hx hb dX0_equalMarks_9 (by decide) (fun c1 => ?_) (fun c1 => ?_)
      · have qc1 := c1
        have c1n : M ≤ k := zn_let (by omega) (by omega) c1
        refine lv_iload hx hb dX0_equalMarks_31 (lv_at hl 1 rfl) ?_
        exact zreti Z hr hlk () X dX0_equalMarks_33 rfl (by show _ = nI (qEqC x ones M); rw [hn, show k = M by omega])
      · have qc1 := c1
        have c1n : ¬ M ≤ k := zn_len (by omega) (by omega) c1
        refine lv_lload_n hx hb dX0_equalMarks_12 rfl (lv_at hl 2 rfl) ?_
        refine lv_iload hx hb dX0_equalMarks_13 (lv_at hl 0 rfl) ?_
        refine zcallSi (n := 2) (As := [.long x, .int (nI k)]) (rest := []) Z X (c_X0_withOne l g x (nI k)) gX0_equalMarks_X0_withOne rfl (by decide +kernel) ⟨Nat.le_of_ble_eq_true rfl, Nat.le_of_ble_eq_true rfl⟩ rfl rfl hl.1 (Nat.le_of_ble_eq_true rfl) dX0_equalMarks_15 ⟨Nat.zero_le _, Nat.zero_le _⟩ (fun r1 H locs hrr1 X => ?_)
        obtain rfl : r1 = qOne x (nI k) := hrr1
        refine lv_iload_n hx hb dX0_equalMarks_18 rfl (lv_at hl 4 rfl) ?_
        refine lv_icmp_ne (tgt := 25) hx hb dX0_equalMarks_19 (by decide) (fun c3 => ?_) (fun c3 => ?_)
        · have qc3 := c3
          refine lv_iinc (v := nI (k + 1)) (lv' := [(5, .int (nI (k + 1))), (4, .int (nI n)), (0, .long x), (2, .int (nI M)), (3, .int ones)]) hx hb dX0_equalMarks_25 hl (k := 0) rfl (zi_inc k) (by decide) rfl (fun ls hl => ?_)
          refine lv_goto (tgt := 6) hx hb dX0_equalMarks_28 (by decide) ?_
          exact ih6 (k + 1) n (by first | assumption | omega) (by rw [hn]; simp only [qEqC, c1n, c3, decide_true, decide_false, Bool.and_true, Bool.and_false, Bool.true_and, Bool.false_and, not_true_eq_false, not_false_eq_true, Bool.not_true, Bool.not_false, if_true, if_false, and_true, true_and, and_false, false_and, Bool.false_eq_true, Bool.true_eq_false, eq_self]) (by omega) H locs ls X (lv_sub hl [0, 1, 2, 3, 4] rfl)
        · have qc3 := c3
          refine lv_iinc (v := nI (n + 1)) (lv' := [(4, .int (nI (n + 1))), (5, .int (nI k)), (0, .long x), (2, .int (nI M)), (3, .int ones)]) hx hb dX0_equalMarks_22 hl (k := 1) rfl (zi_inc n) (by decide) rfl (fun ls hl => ?_)
          refine lv_iinc (v := nI (k + 1)) (lv' := [(5, .int (nI (k + 1))), (4, .int (nI (n + 1))), (0, .long x), (2, .int (nI M)), (3, .int ones)]) hx hb dX0_equalMarks_25 hl (k := 1) rfl (zi_inc k) (by decide) rfl (fun ls hl => ?_)
          refine lv_goto (tgt := 6) hx hb dX0_equalMarks_28 (by decide) ?_
          exact ih6 (k + 1) (n + 1) (by first | assumption | omega) (by rw [hn]; simp only [qEqC, c1n, c3, decide_true, decide_false, Bool.and_true, Bool.and_false, Bool.true_and, Bool.false_and, not_true_eq_false, not_false_eq_true, Bool.not_true, Bool.not_false, if_true, if_false, and_true, true_and, and_false, false_and, Bool.false_eq_true, Bool.true_eq_false, eq_self]) (by omega) H locs ls X (lv_sub hl [0, 1, 2, 3, 4] rfl)
  exact cut6 (M + 1) 0 0 (by first | assumption | omega) (rfl) (by omega) H locs ls X (lv_sub hl [0, 1, 2, 3, 4] rfl)
theorem inw_X0_waysOfMarks : ∀ w ∈ wsX00, w ∈ wsX0_waysOfMarks := by decide +kernel
theorem lk_X0_waysOfMarks_16 : Cond.fieldLink RX0 16 "Quarterboard" "filled" "I" ∈ wsX0_waysOfMarks := by decide +kernel
theorem lk_X0_waysOfMarks_38 : Cond.fieldLink RX0 38 "Quarterboard" "digits" "J" ∈ wsX0_waysOfMarks := by decide +kernel
def P_X0_waysOfMarks (q0 q1 q2 q3 q4 q5 q6 : Int32) (q7 : Int64) (q8 q9 : Int32) (q10 : Int64) (t : Nat) (of : Int32) (od : Int64) : Int32 → QS → Prop := fun r u => u = (q0, q1, q2, q3, q4, q5, q6, q7, q8, q9, q10) ∧ r = qWays q5 q7 t of od
set_option maxHeartbeats 4000000 in
set_option maxRecDepth 100000 in
theorem c_X0_waysOfMarks (l : Launch) (g : zG) (bL h : Nat) (q0 q1 q2 q3 q4 q5 q6 : Int32) (q7 : Int64) (q8 q9 : Int32) (q10 : Int64) (t : Nat) (of : Int32) (od : Int64) (ht : t < 8) : zM l yX0_waysOfMarks wsX0_waysOfMarks 3 200 g [.ref h, .int (nI t), .int of, .long od] (oQ h (q0, q1, q2, q3, q4, q5, q6, q7, q8, q9, q10)) (zEL bL) (zQi g (P_X0_waysOfMarks q0 q1 q2 q3 q4 q5 q6 q7 q8 q9 q10 t of od) (oQ h)) := by
  refine zstart (cc := cX0_waysOfMarks) (maxL := 12) (ret := (some .int)) (own := RX0) rfl (by decide) rfl zStL (Nat.le_of_ble_eq_true rfl) ?_
  intro p e s m below meth c A Z hr hlk H locs X ls hl
  have hx := Z.1.1
  have hb := Z.1.2.1
  have hin : ∀ w ∈ wsX00, w ∈ wsX0_waysOfMarks := inw_X0_waysOfMarks
  have hl : lv_has ls 12 [(0, .ref h), (1, .int (nI t)), (2, .int of), (3, .long od)] := hl
  have X : zh g A (oQ h (q0, q1, q2, q3, q4, q5, q6, q7, q8, q9, q10)) s.heap H locs := X
  refine lv_aload_n hx hb dX0_waysOfMarks_0 rfl (lv_at hl 0 rfl) ?_
  refine zget (fs := [.int q0, .int q1, .int q2, .int q3, .int q4, .int q5, .int q6, .long q7, .int q8, .int q9, .long q10]) (v := .int q5) Z hin X (ci := 0) (C := RX0) (T := TX0) (N := 11) rfl rfl 5 (by decide) lk_X0_waysOfMarks_16 rfl dX0_waysOfMarks_1 ?_
  refine lv_i2l hx hb dX0_waysOfMarks_4 rfl ?_
  refine lv_iload_n hx hb dX0_waysOfMarks_5 rfl (lv_at hl 1 rfl) ?_
  refine zcallSl (n := 2) (As := [.long q5.toInt64, .int (nI t)]) (rest := []) Z X (c_X0_turned l g q5.toInt64 t (by omega)) gX0_waysOfMarks_X0_turned rfl (by decide +kernel) ⟨Nat.le_of_ble_eq_true rfl, Nat.le_of_ble_eq_true rfl⟩ rfl rfl hl.1 (Nat.le_of_ble_eq_true rfl) dX0_waysOfMarks_6 ⟨Nat.zero_le _, Nat.zero_le _⟩ (fun r0 H locs hrr0 X => ?_)
  obtain rfl : r0 = qTurned q5.toInt64 t := hrr0
  refine lv_l2i hx hb dX0_waysOfMarks_9 rfl ?_
  refine lv_iload_n hx hb dX0_waysOfMarks_10 rfl (lv_at hl 2 rfl) ?_
  refine lv_icmp_eq (tgt := 16) hx hb dX0_waysOfMarks_11 (by decide) (fun c2 => ?_) (fun c2 => ?_)
  · have qc2 := c2
    have h1 : (qTurned q5.toInt64 t).toInt32 = of := c2
    refine lv_iload_n hx hb dX0_waysOfMarks_16 rfl (lv_at hl 2 rfl) ?_
    refine lv_if_ne (tgt := 24) hx hb dX0_waysOfMarks_17 (by decide) (fun c3 => ?_) (fun c3 => ?_)
    · have qc3 := c3
      refine lv_aload_n hx hb dX0_waysOfMarks_24 rfl (lv_at hl 0 rfl) ?_
      refine zget (fs := [.int q0, .int q1, .int q2, .int q3, .int q4, .int q5, .int q6, .long q7, .int q8, .int q9, .long q10]) (v := .long q7) Z hin X (ci := 0) (C := RX0) (T := TX0) (N := 11) rfl rfl 7 (by decide) lk_X0_waysOfMarks_38 rfl dX0_waysOfMarks_25 ?_
      refine lv_iload_n hx hb dX0_waysOfMarks_28 rfl (lv_at hl 1 rfl) ?_
      refine zcallSl (n := 2) (As := [.long q7, .int (nI t)]) (rest := []) Z X (c_X0_turned l g q7 t (by omega)) gX0_waysOfMarks_X0_turned rfl (by decide +kernel) ⟨Nat.le_of_ble_eq_true rfl, Nat.le_of_ble_eq_true rfl⟩ rfl rfl hl.1 (Nat.le_of_ble_eq_true rfl) dX0_waysOfMarks_29 ⟨Nat.zero_le _, Nat.zero_le _⟩ (fun r3 H locs hrr3 X => ?_)
      obtain rfl : r3 = qTurned q7 t := hrr3
      refine lv_iload_n hx hb dX0_waysOfMarks_32 rfl (lv_at hl 2 rfl) ?_
      refine zcallSl (n := 2) (As := [.long (qTurned q7 t), .int of]) (rest := []) Z X (c_X0_levelled l g (qTurned q7 t) of ) gX0_waysOfMarks_X0_levelled rfl (by decide +kernel) ⟨Nat.le_of_ble_eq_true rfl, Nat.le_of_ble_eq_true rfl⟩ rfl rfl hl.1 (Nat.le_of_ble_eq_true rfl) dX0_waysOfMarks_33 ⟨Nat.zero_le _, Nat.zero_le _⟩ (fun r4 H locs hrr4 X => ?_)
      obtain rfl : r4 = qLev (qTurned q7 t) of := hrr4
      refine lv_lstore (lv' := [(5, .long (qLev (qTurned q7 t) of)), (0, .ref h), (1, .int (nI t)), (2, .int of), (3, .long od)]) hx hb dX0_waysOfMarks_36 hl (by decide) rfl (fun ls hl => ?_)
      refine lv_lload_n hx hb dX0_waysOfMarks_38 rfl (lv_at hl 4 rfl) ?_
      refine lv_iload_n hx hb dX0_waysOfMarks_39 rfl (lv_at hl 3 rfl) ?_
      refine zcallSl (n := 2) (As := [.long od, .int of]) (rest := []) Z X (c_X0_levelled l g od of ) gX0_waysOfMarks_X0_levelled rfl (by decide +kernel) ⟨Nat.le_of_ble_eq_true rfl, Nat.le_of_ble_eq_true rfl⟩ rfl rfl hl.1 (Nat.le_of_ble_eq_true rfl) dX0_waysOfMarks_40 ⟨Nat.zero_le _, Nat.zero_le _⟩ (fun r5 H locs hrr5 X => ?_)
      obtain rfl : r5 = qLev od of := hrr5
      refine lv_lstore (lv' := [(7, .long (qLev od of)), (5, .long (qLev (qTurned q7 t) of)), (0, .ref h), (1, .int (nI t)), (2, .int of), (3, .long od)]) hx hb dX0_waysOfMarks_43 hl (by decide) rfl (fun ls hl => ?_)
      refine lv_iconst (v := (1 : Int32)) hx hb dX0_waysOfMarks_45 (by decide) ?_
      refine lv_istore (lv' := [(9, .int (1 : Int32)), (7, .long (qLev od of)), (5, .long (qLev (qTurned q7 t) of)), (0, .ref h), (1, .int (nI t)), (2, .int of), (3, .long od)]) hx hb dX0_waysOfMarks_46 hl (by decide) rfl (fun ls hl => ?_)
      refine lv_iconst (v := (0 : Int32)) hx hb dX0_waysOfMarks_48 (by decide) ?_
      refine lv_istore (lv' := [(10, .int (0 : Int32)), (9, .int (1 : Int32)), (7, .long (qLev od of)), (5, .long (qLev (qTurned q7 t) of)), (0, .ref h), (1, .int (nI t)), (2, .int of), (3, .long od)]) hx hb dX0_waysOfMarks_49 hl (by decide) rfl (fun ls hl => ?_)
      have cut51 : ∀ (n51 : Nat), ∀ (k : Nat) (acc : Int32), (k ≤ 4) → (acc = qWyC (qLev (qTurned q7 t) of) (qLev od of) k) → (5 - k ≤ n51) → ∀ (H : Heap) (locs : List Loc) (ls : Array Slot), zh g A (oQ h (q0, q1, q2, q3, q4, q5, q6, q7, q8, q9, q10)) s.heap H locs → lv_has ls 12 [(10, .int (nI k)), (9, .int acc), (7, .long (qLev od of)), (5, .long (qLev (qTurned q7 t) of)), (0, .ref h), (1, .int (nI t)), (2, .int of), (3, .long od)] → W p l e { frames := 3, cells := 0, slots := 0, locals := 200 } s m ([.ref h, .int (nI t), .int of, .long od] : List Value).toArray below meth c H locs 0 0 (MQ below ((zQi g (P_X0_waysOfMarks q0 q1 q2 q3 q4 q5 q6 q7 q8 q9 q10 t of od) (oQ h)) A) ([.ref h, .int (nI t), .int of, .long od] : List Value).toArray s 0 0 A) (F0 m 51 ls []) := by
        intro n51
        induction n51 with
        | zero =>
          intro k acc hk hacc hm51
          exact absurd hm51 (by omega)
        | succ n51 ih51 =>
          intro k acc hk hacc hm51 H locs ls X hl
          refine lv_iload hx hb dX0_waysOfMarks_51 (lv_at hl 0 rfl) ?_
          refine lv_iconst (v := (4 : Int32)) hx hb dX0_waysOfMarks_53 (by decide) ?_
          refine lv_icmp_ge (tgt := 95) hx hb dX0_waysOfMarks_54 (by decide) (fun c7 => ?_) (fun c7 => ?_)
          · have qc7 := c7
            have c7n : 4 ≤ k := zn_let (by omega) (by omega) c7
            refine lv_iload hx hb dX0_waysOfMarks_95 (lv_at hl 1 rfl) ?_
            exact zreti Z hr hlk (q0, q1, q2, q3, q4, q5, q6, q7, q8, q9, q10) X dX0_waysOfMarks_97 rfl (⟨rfl, by simp only [qWays, h1, c3, c7n, decide_true, decide_false, Bool.and_true, Bool.and_false, Bool.true_and, Bool.false_and, not_true_eq_false, not_false_eq_true, Bool.not_true, Bool.not_false, if_true, if_false, and_true, true_and, and_false, false_and, Bool.false_eq_true, Bool.true_eq_false, eq_self]; rw [hacc, show k = 4 by omega]⟩)
          · have qc7 := c7
            have c7n : ¬ 4 ≤ k := zn_len (by omega) (by omega) c7
            refine lv_lload hx hb dX0_waysOfMarks_57 (lv_at hl 3 rfl) ?_
            refine lv_iload hx hb dX0_waysOfMarks_59 (lv_at hl 0 rfl) ?_
            refine zcallSi (n := 2) (As := [.long (qLev (qTurned q7 t) of), .int (nI k)]) (rest := []) Z X (c_X0_withOne l g (qLev (qTurned q7 t) of) (nI k)) gX0_waysOfMarks_X0_withOne rfl (by decide +kernel) ⟨Nat.le_of_ble_eq_true rfl, Nat.le_of_ble_eq_true rfl⟩ rfl rfl hl.1 (Nat.le_of_ble_eq_true rfl) dX0_waysOfMarks_61 ⟨Nat.zero_le _, Nat.zero_le _⟩ (fun r7 H locs hrr7 X => ?_)
            obtain rfl : r7 = qOne (qLev (qTurned q7 t) of) (nI k) := hrr7
            refine lv_istore (lv' := [(11, .int (qOne (qLev (qTurned q7 t) of) (nI k))), (10, .int (nI k)), (9, .int acc), (7, .long (qLev od of)), (5, .long (qLev (qTurned q7 t) of)), (0, .ref h), (1, .int (nI t)), (2, .int of), (3, .long od)]) hx hb dX0_waysOfMarks_64 hl (by decide) rfl (fun ls hl => ?_)
            refine lv_iload hx hb dX0_waysOfMarks_66 (lv_at hl 2 rfl) ?_
            refine lv_lload hx hb dX0_waysOfMarks_68 (lv_at hl 3 rfl) ?_
            refine lv_iconst (v := nI 4) hx hb dX0_waysOfMarks_70 (by decide) ?_
            refine lv_iload hx hb dX0_waysOfMarks_71 (lv_at hl 0 rfl) ?_
            refine zcallSi (n := 3) (As := [.long (qLev od of), .int (nI 4), .int (qOne (qLev (qTurned q7 t) of) (nI k))]) (rest := [.int acc]) Z X (c_X0_equalMarks l g (qLev od of) 4 (qOne (qLev (qTurned q7 t) of) (nI k)) (by omega)) gX0_waysOfMarks_X0_equalMarks rfl (by decide +kernel) ⟨Nat.le_of_ble_eq_true rfl, Nat.le_of_ble_eq_true rfl⟩ rfl rfl hl.1 (Nat.le_of_ble_eq_true rfl) dX0_waysOfMarks_73 ⟨Nat.zero_le _, Nat.zero_le _⟩ (fun r8 H locs hrr8 X => ?_)
            obtain rfl : r8 = nI (qEqC (qLev od of) (qOne (qLev (qTurned q7 t) of) (nI k)) 4) := hrr8
            refine lv_lload hx hb dX0_waysOfMarks_76 (lv_at hl 4 rfl) ?_
            refine lv_iload hx hb dX0_waysOfMarks_78 (lv_at hl 1 rfl) ?_
            refine lv_iload hx hb dX0_waysOfMarks_80 (lv_at hl 0 rfl) ?_
            refine zcallSi (n := 3) (As := [.long (qLev (qTurned q7 t) of), .int (nI k), .int (qOne (qLev (qTurned q7 t) of) (nI k))]) (rest := [.int (nI (qEqC (qLev od of) (qOne (qLev (qTurned q7 t) of) (nI k)) 4)), .int acc]) Z X (c_X0_equalMarks l g (qLev (qTurned q7 t) of) k (qOne (qLev (qTurned q7 t) of) (nI k)) (by omega)) gX0_waysOfMarks_X0_equalMarks rfl (by decide +kernel) ⟨Nat.le_of_ble_eq_true rfl, Nat.le_of_ble_eq_true rfl⟩ rfl rfl hl.1 (Nat.le_of_ble_eq_true rfl) dX0_waysOfMarks_82 ⟨Nat.zero_le _, Nat.zero_le _⟩ (fun r9 H locs hrr9 X => ?_)
            obtain rfl : r9 = nI (qEqC (qLev (qTurned q7 t) of) (qOne (qLev (qTurned q7 t) of) (nI k)) k) := hrr9
            refine lv_isub hx hb dX0_waysOfMarks_85 ?_
            refine lv_imul hx hb dX0_waysOfMarks_86 ?_
            refine lv_topi (fun x11 ex11 => ?_)
            refine lv_istore (lv' := [(9, .int x11), (11, .int (qOne (qLev (qTurned q7 t) of) (nI k))), (10, .int (nI k)), (7, .long (qLev od of)), (5, .long (qLev (qTurned q7 t) of)), (0, .ref h), (1, .int (nI t)), (2, .int of), (3, .long od)]) hx hb dX0_waysOfMarks_87 hl (by decide) rfl (fun ls hl => ?_)
            refine lv_iinc (v := nI (k + 1)) (lv' := [(10, .int (nI (k + 1))), (9, .int x11), (11, .int (qOne (qLev (qTurned q7 t) of) (nI k))), (7, .long (qLev od of)), (5, .long (qLev (qTurned q7 t) of)), (0, .ref h), (1, .int (nI t)), (2, .int of), (3, .long od)]) hx hb dX0_waysOfMarks_89 hl (k := 2) rfl (zi_inc k) (by decide) rfl (fun ls hl => ?_)
            refine lv_goto (tgt := 51) hx hb dX0_waysOfMarks_92 (by decide) ?_
            exact ih51 (k + 1) x11 (by first | assumption | omega) (by subst ex11; rw [hacc]; rfl) (by omega) H locs ls X (lv_sub hl [0, 1, 3, 4, 5, 6, 7, 8] rfl)
      exact cut51 5 0 1 (by first | assumption | omega) (rfl) (by omega) H locs ls X (lv_sub hl [0, 1, 2, 3, 4, 5, 6, 7] rfl)
    · have qc3 := c3
      refine lv_sipush (v := (384 : Int32)) hx hb dX0_waysOfMarks_20 (by decide) ?_
      exact zreti Z hr hlk (q0, q1, q2, q3, q4, q5, q6, q7, q8, q9, q10) X dX0_waysOfMarks_23 rfl (⟨rfl, by simp only [qWays, h1, c3, decide_true, decide_false, Bool.and_true, Bool.and_false, Bool.true_and, Bool.false_and, not_true_eq_false, not_false_eq_true, Bool.not_true, Bool.not_false, if_true, if_false, and_true, true_and, and_false, false_and, Bool.false_eq_true, Bool.true_eq_false, eq_self]⟩)
  · have qc2 := c2
    have h1 : ¬ (qTurned q5.toInt64 t).toInt32 = of := c2
    refine lv_iconst (v := (0 : Int32)) hx hb dX0_waysOfMarks_14 (by decide) ?_
    exact zreti Z hr hlk (q0, q1, q2, q3, q4, q5, q6, q7, q8, q9, q10) X dX0_waysOfMarks_15 rfl (⟨rfl, by simp only [qWays, h1, decide_true, decide_false, Bool.and_true, Bool.and_false, Bool.true_and, Bool.false_and, not_true_eq_false, not_false_eq_true, Bool.not_true, Bool.not_false, if_true, if_false, and_true, true_and, and_false, false_and, Bool.false_eq_true, Bool.true_eq_false, eq_self]⟩)
