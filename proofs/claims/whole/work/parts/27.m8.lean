/-! the twin: boards that are alike -/
def mtq (s t : Nat) : Nat := if t < 4 then 4 * (if t % 2 = 0 then s / 4 else 3 - s / 4) + (if t / 2 % 2 = 0 then s % 4 else 3 - s % 4) else 4 * (if t / 2 % 2 = 0 then s % 4 else 3 - s % 4) + (if t % 2 = 0 then s / 4 else 3 - s / 4)
theorem mtq_lt : ∀ s, s < 16 → ∀ t, t < 8 → mtq s t < 16 := by decide +kernel
def dg (y k : Nat) : Nat := y / 4 ^ k % 4
theorem dg_ok : ∀ y, y < 256 → ∀ k, k < 4 → (nI y >>> (nI (2 * k) &&& 31)) &&& (3 : Int32) = nI (dg y k) := by decide +kernel
def mkN (f : Nat → Int32) (y n : Nat) : Nat → Int32 := fun j => if j < n then nI (dg y j) else f j
theorem mkN_0 (f : Nat → Int32) (y : Nat) : mkN f y 0 = f := by funext j; simp [mkN]
theorem mkN_s (f : Nat → Int32) (y n : Nat) : upd (mkN f y n) n (nI (dg y n)) = mkN f y (n + 1) := by
  funext j
  unfold upd mkN
  by_cases h : j = n
  · rw [if_pos h, if_pos (by omega), h]
  · rw [if_neg h]
    by_cases h2 : j < n
    · rw [if_pos h2, if_pos (by omega)]
    · rw [if_neg h2, if_neg (by omega)]
theorem mkN_at (f : Nat → Int32) (y : Nat) : ∀ j, j < 4 → mkN f y 4 j = nI (dg y j) := fun j h => if_pos h
def mMet (y : Nat) : Nat → Int32
  | 0 => 0
  | k + 1 => mMet y k ||| ((1 : Int32) <<< (nI (dg y k) &&& 31))
def isW (y : Nat) : Bool := decide (mMet y 4 = 15)
def dgr (y : Nat) : Nat → Int32 := fun j => nI (dg y j)
def mRnC (it : Int32) (m : Nat → Int32) : Nat → Int32
  | 0 => 0
  | k + 1 => mRnC it m k ||| (((it >>> (nI k &&& 31)) &&& (1 : Int32)) <<< (m k &&& 31))
def mRn (it : Int32) (y : Nat) (fl : Int32) : Int32 := mRnC it (dgr y) 4 ^^^ fl
def mtF (P T : Nat → Int32) (y k s : Nat) : Bool := if P s = -1 then decide (T (mtq s (k / 16)) = -1) else decide (¬ T (mtq s (k / 16)) = -1) && decide (T (mtq s (k / 16)) = mRn (P s) y (nI (k % 16)))
def waysC2 (P T : Nat → Int32) (y : Nat) : Nat → Nat
  | 0 => 0
  | k + 1 => waysC2 P T y k + (if allN (mtF P T y k) 16 = true then 1 else 0)
def waysC (P T : Nat → Int32) : Nat → Nat
  | 0 => 0
  | y + 1 => waysC P T y + (if isW y = true then waysC2 P T y 128 else 0)
theorem w2_t {P T : Nat → Int32} {y k : Nat} (h : allN (mtF P T y k) 16 = true) : waysC2 P T y (k + 1) = waysC2 P T y k + 1 := by rw [waysC2, if_pos h]
theorem w2_f {P T : Nat → Int32} {y k : Nat} (h : allN (mtF P T y k) 16 = false) : waysC2 P T y (k + 1) = waysC2 P T y k := by rw [waysC2, if_neg (by rw [h]; decide)]; rfl
theorem wc_t {P T : Nat → Int32} {y : Nat} (h : isW y = true) : waysC P T (y + 1) = waysC P T y + waysC2 P T y 128 := by rw [waysC, if_pos h]
theorem wc_f {P T : Nat → Int32} {y : Nat} (h : isW y = false) : waysC P T (y + 1) = waysC P T y := by rw [waysC, if_neg (by rw [h]; decide)]; rfl
theorem w2_le (P T : Nat → Int32) (y : Nat) : ∀ k, waysC2 P T y k ≤ k
  | 0 => Nat.le_refl 0
  | k + 1 => by
    have := w2_le P T y k
    unfold waysC2
    split <;> omega
theorem wc_le (P T : Nat → Int32) : ∀ y, waysC P T y ≤ 128 * y
  | 0 => Nat.le_refl 0
  | y + 1 => by
    have := wc_le P T y
    have := w2_le P T y 128
    unfold waysC
    split <;> omega
theorem al_t {F : Nat → Bool} {k : Nat} (h : allN F k = true) (h2 : F k = true) : (1 : Int32) = zb (allN F (k + 1)) := by rw [allN, h, h2]; rfl
theorem al_f {F : Nat → Bool} {k : Nat} (h2 : F k = false) : (0 : Int32) = zb (allN F (k + 1)) := by rw [allN, h2, Bool.and_false]; rfl
theorem allN_mf {F : Nat → Bool} {k n : Nat} (hk : k ≤ n) (h : allN F k = false) : allN F n = false := by
  cases e : allN F n
  · rfl
  · rw [allN_iff.mpr (fun j hj => allN_iff.mp e j (by omega))] at h; cases h
theorem mt_1 {P T : Nat → Int32} {y k s : Nat} (h : P s = -1) (h2 : T (mtq s (k / 16)) = -1) : mtF P T y k s = true := by unfold mtF; rw [if_pos h]; exact decide_eq_true h2
theorem mt_2 {P T : Nat → Int32} {y k s : Nat} (h : P s = -1) (h2 : ¬ T (mtq s (k / 16)) = -1) : mtF P T y k s = false := by unfold mtF; rw [if_pos h]; exact decide_eq_false h2
theorem mt_3 {P T : Nat → Int32} {y k s : Nat} (h : ¬ P s = -1) (h2 : T (mtq s (k / 16)) = -1) : mtF P T y k s = false := by unfold mtF; rw [if_neg h, decide_eq_false (p := ¬ T (mtq s (k / 16)) = -1) (fun q => q h2)]; rfl
theorem mt_4 {P T : Nat → Int32} {y k s : Nat} (h : ¬ P s = -1) (h2 : ¬ T (mtq s (k / 16)) = mRn (P s) y (nI (k % 16))) : mtF P T y k s = false := by unfold mtF; rw [if_neg h, decide_eq_false h2, Bool.and_false]
theorem mt_5 {P T : Nat → Int32} {y k s : Nat} (h : ¬ P s = -1) (h3 : ¬ T (mtq s (k / 16)) = -1) (h2 : T (mtq s (k / 16)) = mRn (P s) y (nI (k % 16))) : mtF P T y k s = true := by unfold mtF; rw [if_neg h, decide_eq_true h3, decide_eq_true h2]; rfl
def P_X1_turned (sq : Nat) (t : Nat) : Int32 → Unit → Prop := fun r _ => r = nI (mtq sq t)
set_option maxHeartbeats 600000 in
set_option maxRecDepth 100000 in
theorem c_X1_turned (l : Launch) (g : zG) (sq : Nat) (t : Nat) (hsq : sq < 16) (ht : t < 8) : zM l yX1_turned wsX1_turned 0 0 g [.int (nI sq), .int (nI t)] ([]) zE0 (zQi g (P_X1_turned sq t) (fun _ : Unit => [])) := by
  refine zstart (cc := cX1_turned) (maxL := 6) (ret := (some .int)) (own := RX1) rfl (by decide) rfl zSt0 (Nat.le_of_ble_eq_true rfl) ?_
  intro p e s m below meth c A Z hr hlk H locs X ls hl
  have hx := Z.1.1
  have hb := Z.1.2.1
  have hl : lv_has ls 6 [(0, .int (nI sq)), (1, .int (nI t))] := hl
  have X : zh g A ([]) s.heap H locs := X
  refine lv_iload_n hx hb dX1_turned_0 rfl (lv_at hl 0 rfl) ?_
  refine lv_iconst (v := nI 4) hx hb dX1_turned_1 (by decide) ?_
  refine lv_idiv hx hb dX1_turned_2 (by decide) ?_
  refine zrwi (y := nI (sq / 4)) (pk_div (by omega) (by decide) (by decide)) ?_
  refine lv_istore_n (lv' := [(2, .int (nI (sq / 4))), (0, .int (nI sq)), (1, .int (nI t))]) hx hb dX1_turned_3 rfl hl (by decide) rfl (fun ls hl => ?_)
  refine lv_iload_n hx hb dX1_turned_4 rfl (lv_at hl 1 rfl) ?_
  refine lv_iconst (v := nI 4) hx hb dX1_turned_5 (by decide) ?_
  refine lv_irem hx hb dX1_turned_6 (by decide) ?_
  refine zrwi (y := nI (sq % 4)) (pk_rem (by omega) (by decide) (by decide)) ?_
  refine lv_istore_n (lv' := [(3, .int (nI (sq % 4))), (2, .int (nI (sq / 4))), (0, .int (nI sq)), (1, .int (nI t))]) hx hb dX1_turned_7 rfl hl (by decide) rfl (fun ls hl => ?_)
  refine lv_iload_n hx hb dX1_turned_8 rfl (lv_at hl 3 rfl) ?_
  refine lv_iconst (v := nI 2) hx hb dX1_turned_9 (by decide) ?_
  refine lv_irem hx hb dX1_turned_10 (by decide) ?_
  refine zrwi (y := nI (t % 2)) (pk_rem (by omega) (by decide) (by decide)) ?_
  refine lv_if_ne (tgt := 18) hx hb dX1_turned_11 (by decide) (fun c1 => ?_) (fun c1 => ?_)
  · have qc1 := c1
    have c1n : ¬ (t % 2) = 0 := zn_eqn (by omega) (by omega) c1
    have h1 : ¬ t % 2 = 0 := c1n
    refine lv_iconst (v := nI 3) hx hb dX1_turned_18 (by decide) ?_
    refine lv_iload_n hx hb dX1_turned_19 rfl (lv_at hl 1 rfl) ?_
    refine lv_isub hx hb dX1_turned_20 ?_
    refine zrwi (y := nI (3 - (sq / 4))) (pk_sub (by omega)) ?_
    refine lv_istore (lv' := [(4, .int (nI (3 - (sq / 4)))), (3, .int (nI (sq % 4))), (2, .int (nI (sq / 4))), (0, .int (nI sq)), (1, .int (nI t))]) hx hb dX1_turned_21 hl (by decide) rfl (fun ls hl => ?_)
    refine lv_iload_n hx hb dX1_turned_23 rfl (lv_at hl 4 rfl) ?_
    refine lv_iconst (v := nI 2) hx hb dX1_turned_24 (by decide) ?_
    refine lv_idiv hx hb dX1_turned_25 (by decide) ?_
    refine zrwi (y := nI (t / 2)) (pk_div (by omega) (by decide) (by decide)) ?_
    refine lv_iconst (v := nI 2) hx hb dX1_turned_26 (by decide) ?_
    refine lv_irem hx hb dX1_turned_27 (by decide) ?_
    refine zrwi (y := nI ((t / 2) % 2)) (pk_rem (by omega) (by decide) (by decide)) ?_
    refine lv_if_ne (tgt := 35) hx hb dX1_turned_28 (by decide) (fun c2 => ?_) (fun c2 => ?_)
    · have qc2 := c2
      have c2n : ¬ ((t / 2) % 2) = 0 := zn_eqn (by omega) (by omega) c2
      have h2 : ¬ t / 2 % 2 = 0 := c2n
      refine lv_iconst (v := nI 3) hx hb dX1_turned_35 (by decide) ?_
      refine lv_iload_n hx hb dX1_turned_36 rfl (lv_at hl 1 rfl) ?_
      refine lv_isub hx hb dX1_turned_37 ?_
      refine zrwi (y := nI (3 - (sq % 4))) (pk_sub (by omega)) ?_
      refine lv_istore (lv' := [(5, .int (nI (3 - (sq % 4)))), (4, .int (nI (3 - (sq / 4)))), (3, .int (nI (sq % 4))), (2, .int (nI (sq / 4))), (0, .int (nI sq)), (1, .int (nI t))]) hx hb dX1_turned_38 hl (by decide) rfl (fun ls hl => ?_)
      refine lv_iload_n hx hb dX1_turned_40 rfl (lv_at hl 5 rfl) ?_
      refine lv_iconst (v := nI 4) hx hb dX1_turned_41 (by decide) ?_
      refine lv_icmp_ge (tgt := 55) hx hb dX1_turned_42 (by decide) (fun c3 => ?_) (fun c3 => ?_)
      · have qc3 := c3
        have c3n : 4 ≤ t := zn_let (by omega) (by omega) c3
        have h3 : ¬ t < 4 := by omega
        refine lv_iconst (v := nI 4) hx hb dX1_turned_55 (by decide) ?_
        refine lv_iload hx hb dX1_turned_56 (lv_at hl 0 rfl) ?_
        refine lv_imul hx hb dX1_turned_58 ?_
        refine zrwi (y := nI (4 * (3 - (sq % 4)))) (pk_mul _ _) ?_
        refine lv_iload hx hb dX1_turned_59 (lv_at hl 1 rfl) ?_
        refine lv_iadd hx hb dX1_turned_61 ?_
        refine zrwi (y := nI ((4 * (3 - (sq % 4))) + (3 - (sq / 4)))) (nI_add _ _) ?_
        exact zreti Z hr hlk () X dX1_turned_62 rfl (by show _ = nI (mtq sq t); simp only [mtq, h1, h2, h3, decide_true, decide_false, Bool.and_true, Bool.and_false, Bool.true_and, Bool.false_and, not_true_eq_false, not_false_eq_true, Bool.not_true, Bool.not_false, if_true, if_false, and_true, true_and, and_false, false_and, Bool.false_eq_true, Bool.true_eq_false, eq_self])
      · have qc3 := c3
        have c3n : ¬ 4 ≤ t := zn_len (by omega) (by omega) c3
        have h3 : t < 4 := by omega
        refine lv_iconst (v := nI 4) hx hb dX1_turned_45 (by decide) ?_
        refine lv_iload hx hb dX1_turned_46 (lv_at hl 1 rfl) ?_
        refine lv_imul hx hb dX1_turned_48 ?_
        refine zrwi (y := nI (4 * (3 - (sq / 4)))) (pk_mul _ _) ?_
        refine lv_iload hx hb dX1_turned_49 (lv_at hl 0 rfl) ?_
        refine lv_iadd hx hb dX1_turned_51 ?_
        refine zrwi (y := nI ((4 * (3 - (sq / 4))) + (3 - (sq % 4)))) (nI_add _ _) ?_
        refine lv_goto (tgt := 62) hx hb dX1_turned_52 (by decide) ?_
        exact zreti Z hr hlk () X dX1_turned_62 rfl (by show _ = nI (mtq sq t); simp only [mtq, h1, h2, h3, decide_true, decide_false, Bool.and_true, Bool.and_false, Bool.true_and, Bool.false_and, not_true_eq_false, not_false_eq_true, Bool.not_true, Bool.not_false, if_true, if_false, and_true, true_and, and_false, false_and, Bool.false_eq_true, Bool.true_eq_false, eq_self])
    · have qc2 := c2
      have c2n : ((t / 2) % 2) = 0 := zn_eqt (by omega) (by omega) c2
      have h2 : t / 2 % 2 = 0 := c2n
      refine lv_iload_n hx hb dX1_turned_31 rfl (lv_at hl 1 rfl) ?_
      refine lv_goto (tgt := 38) hx hb dX1_turned_32 (by decide) ?_
      refine lv_istore (lv' := [(5, .int (nI (sq % 4))), (4, .int (nI (3 - (sq / 4)))), (3, .int (nI (sq % 4))), (2, .int (nI (sq / 4))), (0, .int (nI sq)), (1, .int (nI t))]) hx hb dX1_turned_38 hl (by decide) rfl (fun ls hl => ?_)
      refine lv_iload_n hx hb dX1_turned_40 rfl (lv_at hl 5 rfl) ?_
      refine lv_iconst (v := nI 4) hx hb dX1_turned_41 (by decide) ?_
      refine lv_icmp_ge (tgt := 55) hx hb dX1_turned_42 (by decide) (fun c4 => ?_) (fun c4 => ?_)
      · have qc4 := c4
        have c4n : 4 ≤ t := zn_let (by omega) (by omega) c4
        have h3 : ¬ t < 4 := by omega
        refine lv_iconst (v := nI 4) hx hb dX1_turned_55 (by decide) ?_
        refine lv_iload hx hb dX1_turned_56 (lv_at hl 0 rfl) ?_
        refine lv_imul hx hb dX1_turned_58 ?_
        refine zrwi (y := nI (4 * (sq % 4))) (pk_mul _ _) ?_
        refine lv_iload hx hb dX1_turned_59 (lv_at hl 1 rfl) ?_
        refine lv_iadd hx hb dX1_turned_61 ?_
        refine zrwi (y := nI ((4 * (sq % 4)) + (3 - (sq / 4)))) (nI_add _ _) ?_
        exact zreti Z hr hlk () X dX1_turned_62 rfl (by show _ = nI (mtq sq t); simp only [mtq, h1, h2, h3, decide_true, decide_false, Bool.and_true, Bool.and_false, Bool.true_and, Bool.false_and, not_true_eq_false, not_false_eq_true, Bool.not_true, Bool.not_false, if_true, if_false, and_true, true_and, and_false, false_and, Bool.false_eq_true, Bool.true_eq_false, eq_self])
      · have qc4 := c4
        have c4n : ¬ 4 ≤ t := zn_len (by omega) (by omega) c4
        have h3 : t < 4 := by omega
        refine lv_iconst (v := nI 4) hx hb dX1_turned_45 (by decide) ?_
        refine lv_iload hx hb dX1_turned_46 (lv_at hl 1 rfl) ?_
        refine lv_imul hx hb dX1_turned_48 ?_
        refine zrwi (y := nI (4 * (3 - (sq / 4)))) (pk_mul _ _) ?_
        refine lv_iload hx hb dX1_turned_49 (lv_at hl 0 rfl) ?_
        refine lv_iadd hx hb dX1_turned_51 ?_
        refine zrwi (y := nI ((4 * (3 - (sq / 4))) + (sq % 4))) (nI_add _ _) ?_
        refine lv_goto (tgt := 62) hx hb dX1_turned_52 (by decide) ?_
        exact zreti Z hr hlk () X dX1_turned_62 rfl (by show _ = nI (mtq sq t); simp only [mtq, h1, h2, h3, decide_true, decide_false, Bool.and_true, Bool.and_false, Bool.true_and, Bool.false_and, not_true_eq_false, not_false_eq_true, Bool.not_true, Bool.not_false, if_true, if_false, and_true, true_and, and_false, false_and, Bool.false_eq_true, Bool.true_eq_false, eq_self])
  · have qc1 := c1
    have c1n : (t % 2) = 0 := zn_eqt (by omega) (by omega) c1
    have h1 : t % 2 = 0 := c1n
    refine lv_iload_n hx hb dX1_turned_14 rfl (lv_at hl 1 rfl) ?_
    refine lv_goto (tgt := 21) hx hb dX1_turned_15 (by decide) ?_
    refine lv_istore (lv' := [(4, .int (nI (sq / 4))), (3, .int (nI (sq % 4))), (2, .int (nI (sq / 4))), (0, .int (nI sq)), (1, .int (nI t))]) hx hb dX1_turned_21 hl (by decide) rfl (fun ls hl => ?_)
    refine lv_iload_n hx hb dX1_turned_23 rfl (lv_at hl 4 rfl) ?_
    refine lv_iconst (v := nI 2) hx hb dX1_turned_24 (by decide) ?_
    refine lv_idiv hx hb dX1_turned_25 (by decide) ?_
    refine zrwi (y := nI (t / 2)) (pk_div (by omega) (by decide) (by decide)) ?_
    refine lv_iconst (v := nI 2) hx hb dX1_turned_26 (by decide) ?_
    refine lv_irem hx hb dX1_turned_27 (by decide) ?_
    refine zrwi (y := nI ((t / 2) % 2)) (pk_rem (by omega) (by decide) (by decide)) ?_
    refine lv_if_ne (tgt := 35) hx hb dX1_turned_28 (by decide) (fun c5 => ?_) (fun c5 => ?_)
    · have qc5 := c5
      have c5n : ¬ ((t / 2) % 2) = 0 := zn_eqn (by omega) (by omega) c5
      have h2 : ¬ t / 2 % 2 = 0 := c5n
      refine lv_iconst (v := nI 3) hx hb dX1_turned_35 (by decide) ?_
      refine lv_iload_n hx hb dX1_turned_36 rfl (lv_at hl 1 rfl) ?_
      refine lv_isub hx hb dX1_turned_37 ?_
      refine zrwi (y := nI (3 - (sq % 4))) (pk_sub (by omega)) ?_
      refine lv_istore (lv' := [(5, .int (nI (3 - (sq % 4)))), (4, .int (nI (sq / 4))), (3, .int (nI (sq % 4))), (2, .int (nI (sq / 4))), (0, .int (nI sq)), (1, .int (nI t))]) hx hb dX1_turned_38 hl (by decide) rfl (fun ls hl => ?_)
      refine lv_iload_n hx hb dX1_turned_40 rfl (lv_at hl 5 rfl) ?_
      refine lv_iconst (v := nI 4) hx hb dX1_turned_41 (by decide) ?_
      refine lv_icmp_ge (tgt := 55) hx hb dX1_turned_42 (by decide) (fun c6 => ?_) (fun c6 => ?_)
      · have qc6 := c6
        have c6n : 4 ≤ t := zn_let (by omega) (by omega) c6
        have h3 : ¬ t < 4 := by omega
        refine lv_iconst (v := nI 4) hx hb dX1_turned_55 (by decide) ?_
        refine lv_iload hx hb dX1_turned_56 (lv_at hl 0 rfl) ?_
        refine lv_imul hx hb dX1_turned_58 ?_
        refine zrwi (y := nI (4 * (3 - (sq % 4)))) (pk_mul _ _) ?_
        refine lv_iload hx hb dX1_turned_59 (lv_at hl 1 rfl) ?_
        refine lv_iadd hx hb dX1_turned_61 ?_
        refine zrwi (y := nI ((4 * (3 - (sq % 4))) + (sq / 4))) (nI_add _ _) ?_
        exact zreti Z hr hlk () X dX1_turned_62 rfl (by show _ = nI (mtq sq t); simp only [mtq, h1, h2, h3, decide_true, decide_false, Bool.and_true, Bool.and_false, Bool.true_and, Bool.false_and, not_true_eq_false, not_false_eq_true, Bool.not_true, Bool.not_false, if_true, if_false, and_true, true_and, and_false, false_and, Bool.false_eq_true, Bool.true_eq_false, eq_self])
      · have qc6 := c6
        have c6n : ¬ 4 ≤ t := zn_len (by omega) (by omega) c6
        have h3 : t < 4 := by omega
        refine lv_iconst (v := nI 4) hx hb dX1_turned_45 (by decide) ?_
        refine lv_iload hx hb dX1_turned_46 (lv_at hl 1 rfl) ?_
        refine lv_imul hx hb dX1_turned_48 ?_
        refine zrwi (y := nI (4 * (sq / 4))) (pk_mul _ _) ?_
        refine lv_iload hx hb dX1_turned_49 (lv_at hl 0 rfl) ?_
        refine lv_iadd hx hb dX1_turned_51 ?_
        refine zrwi (y := nI ((4 * (sq / 4)) + (3 - (sq % 4)))) (nI_add _ _) ?_
        refine lv_goto (tgt := 62) hx hb dX1_turned_52 (by decide) ?_
        exact zreti Z hr hlk () X dX1_turned_62 rfl (by show _ = nI (mtq sq t); simp only [mtq, h1, h2, h3, decide_true, decide_false, Bool.and_true, Bool.and_false, Bool.true_and, Bool.false_and, not_true_eq_false, not_false_eq_true, Bool.not_true, Bool.not_false, if_true, if_false, and_true, true_and, and_false, false_and, Bool.false_eq_true, Bool.true_eq_false, eq_self])
    · have qc5 := c5
      have c5n : ((t / 2) % 2) = 0 := zn_eqt (by omega) (by omega) c5
      have h2 : t / 2 % 2 = 0 := c5n
      refine lv_iload_n hx hb dX1_turned_31 rfl (lv_at hl 1 rfl) ?_
      refine lv_goto (tgt := 38) hx hb dX1_turned_32 (by decide) ?_
      refine lv_istore (lv' := [(5, .int (nI (sq % 4))), (4, .int (nI (sq / 4))), (3, .int (nI (sq % 4))), (2, .int (nI (sq / 4))), (0, .int (nI sq)), (1, .int (nI t))]) hx hb dX1_turned_38 hl (by decide) rfl (fun ls hl => ?_)
      refine lv_iload_n hx hb dX1_turned_40 rfl (lv_at hl 5 rfl) ?_
      refine lv_iconst (v := nI 4) hx hb dX1_turned_41 (by decide) ?_
      refine lv_icmp_ge (tgt := 55) hx hb dX1_turned_42 (by decide) (fun c7 => ?_) (fun c7 => ?_)
      · have qc7 := c7
        have c7n : 4 ≤ t := zn_let (by omega) (by omega) c7
        have h3 : ¬ t < 4 := by omega
        refine lv_iconst (v := nI 4) hx hb dX1_turned_55 (by decide) ?_
        refine lv_iload hx hb dX1_turned_56 (lv_at hl 0 rfl) ?_
        refine lv_imul hx hb dX1_turned_58 ?_
        refine zrwi (y := nI (4 * (sq % 4))) (pk_mul _ _) ?_
        refine lv_iload hx hb dX1_turned_59 (lv_at hl 1 rfl) ?_
        refine lv_iadd hx hb dX1_turned_61 ?_
        refine zrwi (y := nI ((4 * (sq % 4)) + (sq / 4))) (nI_add _ _) ?_
        exact zreti Z hr hlk () X dX1_turned_62 rfl (by show _ = nI (mtq sq t); simp only [mtq, h1, h2, h3, decide_true, decide_false, Bool.and_true, Bool.and_false, Bool.true_and, Bool.false_and, not_true_eq_false, not_false_eq_true, Bool.not_true, Bool.not_false, if_true, if_false, and_true, true_and, and_false, false_and, Bool.false_eq_true, Bool.true_eq_false, eq_self])
      · have qc7 := c7
        have c7n : ¬ 4 ≤ t := zn_len (by omega) (by omega) c7
        have h3 : t < 4 := by omega
        refine lv_iconst (v := nI 4) hx hb dX1_turned_45 (by decide) ?_
        refine lv_iload hx hb dX1_turned_46 (lv_at hl 1 rfl) ?_
        refine lv_imul hx hb dX1_turned_48 ?_
        refine zrwi (y := nI (4 * (sq / 4))) (pk_mul _ _) ?_
        refine lv_iload hx hb dX1_turned_49 (lv_at hl 0 rfl) ?_
        refine lv_iadd hx hb dX1_turned_51 ?_
        refine zrwi (y := nI ((4 * (sq / 4)) + (sq % 4))) (nI_add _ _) ?_
        refine lv_goto (tgt := 62) hx hb dX1_turned_52 (by decide) ?_
        exact zreti Z hr hlk () X dX1_turned_62 rfl (by show _ = nI (mtq sq t); simp only [mtq, h1, h2, h3, decide_true, decide_false, Bool.and_true, Bool.and_false, Bool.true_and, Bool.false_and, not_true_eq_false, not_false_eq_true, Bool.not_true, Bool.not_false, if_true, if_false, and_true, true_and, and_false, false_and, Bool.false_eq_true, Bool.true_eq_false, eq_self])
theorem inw_X1_renames : ∀ w ∈ wsX10, w ∈ wsX1_renames := by decide +kernel
theorem lk_X1_renames_45 : Cond.fieldLink RX1 45 "QuarterboardModel" "marks" "[I" ∈ wsX1_renames := by decide +kernel
def P_X1_renames (bk : Int32) (pn : Nat) (hd ph ot wi ik th : Int32) (P O K kd lf ch be gi mr : Nat → Int32) (y : Nat) : Int32 → MS → Prop := fun r u => u = (bk, nI pn, hd, ph, ot, wi, ik, th, P, O, K, kd, lf, ch, be, gi, (mkN mr y 4)) ∧ r = zb (isW y)
set_option maxHeartbeats 600000 in
set_option maxRecDepth 100000 in
theorem c_X1_renames (l : Launch) (g : zG) (a : Nat → Nat) (bk : Int32) (pn : Nat) (hd ph ot wi ik th : Int32) (P O K kd lf ch be gi mr : Nat → Int32) (y : Nat) (hy : y < 256) : zM l yX1_renames wsX1_renames 0 0 g [.ref (a 0), .int (nI y)] (oM g a (bk, nI pn, hd, ph, ot, wi, ik, th, P, O, K, kd, lf, ch, be, gi, mr)) zE0 (zQi g (P_X1_renames bk pn hd ph ot wi ik th P O K kd lf ch be gi mr y) (oM g a)) := by
  refine zstart (cc := cX1_renames) (maxL := 4) (ret := (some .boolean)) (own := RX1) rfl (by decide) rfl zSt0 (Nat.le_of_ble_eq_true rfl) ?_
  intro p e s m below meth c A Z hr hlk H locs X ls hl
  have hx := Z.1.1
  have hb := Z.1.2.1
  have hin : ∀ w ∈ wsX10, w ∈ wsX1_renames := inw_X1_renames
  have hl : lv_has ls 4 [(0, .ref (a 0)), (1, .int (nI y))] := hl
  have X : zh g A (oM g a (bk, nI pn, hd, ph, ot, wi, ik, th, P, O, K, kd, lf, ch, be, gi, mr)) s.heap H locs := X
  refine lv_iconst (v := (0 : Int32)) hx hb dX1_renames_0 (by decide) ?_
  refine lv_istore_n (lv' := [(2, .int (0 : Int32)), (0, .ref (a 0)), (1, .int (nI y))]) hx hb dX1_renames_1 rfl hl (by decide) rfl (fun ls hl => ?_)
  refine lv_iconst (v := (0 : Int32)) hx hb dX1_renames_2 (by decide) ?_
  refine lv_istore_n (lv' := [(3, .int (0 : Int32)), (2, .int (0 : Int32)), (0, .ref (a 0)), (1, .int (nI y))]) hx hb dX1_renames_3 rfl hl (by decide) rfl (fun ls hl => ?_)
  have cut4 : ∀ (n4 : Nat), ∀ (k : Nat) (acc : Int32), (k ≤ 4) → (acc = mMet y k) → (5 - k ≤ n4) → ∀ (H : Heap) (locs : List Loc) (ls : Array Slot), zh g A (oM g a (bk, nI pn, hd, ph, ot, wi, ik, th, P, O, K, kd, lf, ch, be, gi, (mkN mr y k))) s.heap H locs → lv_has ls 4 [(3, .int (nI k)), (2, .int acc), (0, .ref (a 0)), (1, .int (nI y))] → W p l e { frames := 0, cells := 0, slots := 0, locals := 0 } s m ([.ref (a 0), .int (nI y)] : List Value).toArray below meth c H locs 0 0 (MQ below ((zQi g (P_X1_renames bk pn hd ph ot wi ik th P O K kd lf ch be gi mr y) (oM g a)) A) ([.ref (a 0), .int (nI y)] : List Value).toArray s 0 0 A) (F0 m 4 ls []) := by
    intro n4
    induction n4 with
    | zero =>
      intro k acc hk hacc hm4
      exact absurd hm4 (by omega)
    | succ n4 ih4 =>
      intro k acc hk hacc hm4 H locs ls X hl
      refine lv_iload_n hx hb dX1_renames_4 rfl (lv_at hl 0 rfl) ?_
      refine lv_iconst (v := (4 : Int32)) hx hb dX1_renames_5 (by decide) ?_
      refine lv_icmp_ge (tgt := 39) hx hb dX1_renames_6 (by decide) (fun c1 => ?_) (fun c1 => ?_)
      · have qc1 := c1
        have c1n : 4 ≤ k := zn_let (by omega) (by omega) c1
        refine lv_iload_n hx hb dX1_renames_39 rfl (lv_at hl 1 rfl) ?_
        refine lv_bipush (v := (15 : Int32)) hx hb dX1_renames_40 (by decide) ?_
        refine lv_icmp_ne (tgt := 49) hx hb dX1_renames_42 (by decide) (fun c2 => ?_) (fun c2 => ?_)
        · have qc2 := c2
          have hm : ¬ mMet y 4 = 15 := by rw [show (4 : Nat) = k by omega, ← hacc]; exact c2
          refine lv_iconst (v := (0 : Int32)) hx hb dX1_renames_49 (by decide) ?_
          exact zreti Z hr hlk (bk, nI pn, hd, ph, ot, wi, ik, th, P, O, K, kd, lf, ch, be, gi, (mkN mr y k)) X dX1_renames_50 rfl (⟨by rw [show k = 4 by omega], by unfold isW; first | (rw [decide_eq_true hm]; rfl) | (rw [decide_eq_false hm]; rfl)⟩)
        · have qc2 := c2
          have hm : mMet y 4 = 15 := by rw [show (4 : Nat) = k by omega, ← hacc]; exact c2
          refine lv_iconst (v := (1 : Int32)) hx hb dX1_renames_45 (by decide) ?_
          refine lv_goto (tgt := 50) hx hb dX1_renames_46 (by decide) ?_
          exact zreti Z hr hlk (bk, nI pn, hd, ph, ot, wi, ik, th, P, O, K, kd, lf, ch, be, gi, (mkN mr y k)) X dX1_renames_50 rfl (⟨by rw [show k = 4 by omega], by unfold isW; first | (rw [decide_eq_true hm]; rfl) | (rw [decide_eq_false hm]; rfl)⟩)
      · have qc1 := c1
        have c1n : ¬ 4 ≤ k := zn_len (by omega) (by omega) c1
        refine lv_aload_n hx hb dX1_renames_9 rfl (lv_at hl 2 rfl) ?_
        refine zget (fs := [.int bk, .ref (a 1), .ref (a 2), .int (nI pn), .int hd, .int ph, .int ot, .int wi, .int ik, .ref (a 3), .int th, .ref (a 4), .ref (a 5), .ref (a 6), .ref (a 7), .ref (a 8), .ref (a 9)]) (v := .ref (a 9)) Z hin X (ci := 1) (C := RX1) (T := TX1) (N := 17) rfl rfl 16 (by decide) lk_X1_renames_45 rfl dX1_renames_10 ?_
        refine lv_iload_n hx hb dX1_renames_13 rfl (lv_at hl 0 rfl) ?_
        refine lv_iload_n hx hb dX1_renames_14 rfl (lv_at hl 3 rfl) ?_
        refine lv_iconst (v := nI 2) hx hb dX1_renames_15 (by decide) ?_
        refine lv_iload_n hx hb dX1_renames_16 rfl (lv_at hl 0 rfl) ?_
        refine lv_imul hx hb dX1_renames_17 ?_
        refine zrwi (y := nI (2 * k)) (pk_mul _ _) ?_
        refine lv_ishr hx hb dX1_renames_18 ?_
        refine lv_iconst (v := (3 : Int32)) hx hb dX1_renames_19 (by decide) ?_
        refine lv_iand hx hb dX1_renames_20 ?_
        refine zrwi (y := nI (dg y k)) (dg_ok y hy k (by omega)) ?_
        refine zast (q0 := 9) (n := 4) (f := (mkN mr y k)) Z X rfl rfl k rfl (by omega) (by decide) dX1_renames_21 (fun H locs X => ?_)
        have X : zh g A (oM g a (bk, nI pn, hd, ph, ot, wi, ik, th, P, O, K, kd, lf, ch, be, gi, (upd (mkN mr y k) k (nI (dg y k))))) s.heap H locs := X
        refine lv_iload_n hx hb dX1_renames_22 rfl (lv_at hl 1 rfl) ?_
        refine lv_iconst (v := (1 : Int32)) hx hb dX1_renames_23 (by decide) ?_
        refine lv_aload_n hx hb dX1_renames_24 rfl (lv_at hl 2 rfl) ?_
        refine zget (fs := [.int bk, .ref (a 1), .ref (a 2), .int (nI pn), .int hd, .int ph, .int ot, .int wi, .int ik, .ref (a 3), .int th, .ref (a 4), .ref (a 5), .ref (a 6), .ref (a 7), .ref (a 8), .ref (a 9)]) (v := .ref (a 9)) Z hin X (ci := 1) (C := RX1) (T := TX1) (N := 17) rfl rfl 16 (by decide) lk_X1_renames_45 rfl dX1_renames_25 ?_
        refine lv_iload_n hx hb dX1_renames_28 rfl (lv_at hl 0 rfl) ?_
        refine zald (q0 := 9) (n := 4) (f := (upd (mkN mr y k) k (nI (dg y k)))) Z X rfl rfl k rfl (by omega) (by decide) dX1_renames_29 ?_
        refine zrwi (y := nI (dg y k)) pk_us ?_
        refine lv_ishl hx hb dX1_renames_30 ?_
        refine lv_ior hx hb dX1_renames_31 ?_
        refine lv_topi (fun x3 ex3 => ?_)
        refine lv_istore_n (lv' := [(2, .int x3), (3, .int (nI k)), (0, .ref (a 0)), (1, .int (nI y))]) hx hb dX1_renames_32 rfl hl (by decide) rfl (fun ls hl => ?_)
        refine lv_iinc (v := nI (k + 1)) (lv' := [(3, .int (nI (k + 1))), (2, .int x3), (0, .ref (a 0)), (1, .int (nI y))]) hx hb dX1_renames_33 hl (k := 1) rfl (zi_inc k) (by decide) rfl (fun ls hl => ?_)
        refine lv_goto (tgt := 4) hx hb dX1_renames_36 (by decide) ?_
        exact ih4 (k + 1) x3 (by first | assumption | omega) (by subst ex3; rw [hacc]; rfl) (by omega) H locs ls (by rw [← mkN_s]; exact X) (lv_sub hl [0, 1, 2, 3] rfl)
  exact cut4 5 0 0 (by first | assumption | omega) (rfl) (by omega) H locs ls (by rw [mkN_0]; exact X) (lv_sub hl [0, 1, 2, 3] rfl)
theorem inw_X1_renamed : ∀ w ∈ wsX10, w ∈ wsX1_renamed := by decide +kernel
theorem lk_X1_renamed_45 : Cond.fieldLink RX1 45 "QuarterboardModel" "marks" "[I" ∈ wsX1_renamed := by decide +kernel
def P_X1_renamed (bk : Int32) (pn : Nat) (hd ph ot wi ik th : Int32) (P O K kd lf ch be gi mr : Nat → Int32) (it : Int32) (fl : Int32) (y : Nat) : Int32 → MS → Prop := fun r u => u = (bk, nI pn, hd, ph, ot, wi, ik, th, P, O, K, kd, lf, ch, be, gi, mr) ∧ r = mRn it y fl
set_option maxHeartbeats 600000 in
set_option maxRecDepth 100000 in
theorem c_X1_renamed (l : Launch) (g : zG) (a : Nat → Nat) (bk : Int32) (pn : Nat) (hd ph ot wi ik th : Int32) (P O K kd lf ch be gi mr : Nat → Int32) (it : Int32) (fl : Int32) (y : Nat) (hm : ∀ j, j < 4 → mr j = nI (dg y j)) : zM l yX1_renamed wsX1_renamed 0 0 g [.ref (a 0), .int it, .int fl] (oM g a (bk, nI pn, hd, ph, ot, wi, ik, th, P, O, K, kd, lf, ch, be, gi, mr)) zE0 (zQi g (P_X1_renamed bk pn hd ph ot wi ik th P O K kd lf ch be gi mr it fl y) (oM g a)) := by
  refine zstart (cc := cX1_renamed) (maxL := 5) (ret := (some .int)) (own := RX1) rfl (by decide) rfl zSt0 (Nat.le_of_ble_eq_true rfl) ?_
  intro p e s m below meth c A Z hr hlk H locs X ls hl
  have hx := Z.1.1
  have hb := Z.1.2.1
  have hin : ∀ w ∈ wsX10, w ∈ wsX1_renamed := inw_X1_renamed
  have hl : lv_has ls 5 [(0, .ref (a 0)), (1, .int it), (2, .int fl)] := hl
  have X : zh g A (oM g a (bk, nI pn, hd, ph, ot, wi, ik, th, P, O, K, kd, lf, ch, be, gi, mr)) s.heap H locs := X
  refine lv_iconst (v := (0 : Int32)) hx hb dX1_renamed_0 (by decide) ?_
  refine lv_istore_n (lv' := [(3, .int (0 : Int32)), (0, .ref (a 0)), (1, .int it), (2, .int fl)]) hx hb dX1_renamed_1 rfl hl (by decide) rfl (fun ls hl => ?_)
  refine lv_iconst (v := (0 : Int32)) hx hb dX1_renamed_2 (by decide) ?_
  refine lv_istore (lv' := [(4, .int (0 : Int32)), (3, .int (0 : Int32)), (0, .ref (a 0)), (1, .int it), (2, .int fl)]) hx hb dX1_renamed_3 hl (by decide) rfl (fun ls hl => ?_)
  have cut5 : ∀ (n5 : Nat), ∀ (k : Nat) (acc : Int32), (k ≤ 4) → (acc = mRnC it (dgr y) k) → (5 - k ≤ n5) → ∀ (H : Heap) (locs : List Loc) (ls : Array Slot), zh g A (oM g a (bk, nI pn, hd, ph, ot, wi, ik, th, P, O, K, kd, lf, ch, be, gi, mr)) s.heap H locs → lv_has ls 5 [(4, .int (nI k)), (3, .int acc), (0, .ref (a 0)), (1, .int it), (2, .int fl)] → W p l e { frames := 0, cells := 0, slots := 0, locals := 0 } s m ([.ref (a 0), .int it, .int fl] : List Value).toArray below meth c H locs 0 0 (MQ below ((zQi g (P_X1_renamed bk pn hd ph ot wi ik th P O K kd lf ch be gi mr it fl y) (oM g a)) A) ([.ref (a 0), .int it, .int fl] : List Value).toArray s 0 0 A) (F0 m 5 ls []) := by
    intro n5
    induction n5 with
    | zero =>
      intro k acc hk hacc hm5
      exact absurd hm5 (by omega)
    | succ n5 ih5 =>
      intro k acc hk hacc hm5 H locs ls X hl
      refine lv_iload hx hb dX1_renamed_5 (lv_at hl 0 rfl) ?_
      refine lv_iconst (v := (4 : Int32)) hx hb dX1_renamed_7 (by decide) ?_
      refine lv_icmp_ge (tgt := 34) hx hb dX1_renamed_8 (by decide) (fun c1 => ?_) (fun c1 => ?_)
      · have qc1 := c1
        have c1n : 4 ≤ k := zn_let (by omega) (by omega) c1
        refine lv_iload_n hx hb dX1_renamed_34 rfl (lv_at hl 1 rfl) ?_
        refine lv_iload_n hx hb dX1_renamed_35 rfl (lv_at hl 4 rfl) ?_
        refine lv_ixor hx hb dX1_renamed_36 ?_
        exact zreti Z hr hlk (bk, nI pn, hd, ph, ot, wi, ik, th, P, O, K, kd, lf, ch, be, gi, mr) X dX1_renamed_37 rfl (⟨rfl, by rw [hacc, show k = 4 by omega]; rfl⟩)
      · have qc1 := c1
        have c1n : ¬ 4 ≤ k := zn_len (by omega) (by omega) c1
        refine lv_iload_n hx hb dX1_renamed_11 rfl (lv_at hl 1 rfl) ?_
        refine lv_iload_n hx hb dX1_renamed_12 rfl (lv_at hl 3 rfl) ?_
        refine lv_iload hx hb dX1_renamed_13 (lv_at hl 0 rfl) ?_
        refine lv_ishr hx hb dX1_renamed_15 ?_
        refine lv_iconst (v := (1 : Int32)) hx hb dX1_renamed_16 (by decide) ?_
        refine lv_iand hx hb dX1_renamed_17 ?_
        refine lv_aload_n hx hb dX1_renamed_18 rfl (lv_at hl 2 rfl) ?_
        refine zget (fs := [.int bk, .ref (a 1), .ref (a 2), .int (nI pn), .int hd, .int ph, .int ot, .int wi, .int ik, .ref (a 3), .int th, .ref (a 4), .ref (a 5), .ref (a 6), .ref (a 7), .ref (a 8), .ref (a 9)]) (v := .ref (a 9)) Z hin X (ci := 1) (C := RX1) (T := TX1) (N := 17) rfl rfl 16 (by decide) lk_X1_renamed_45 rfl dX1_renamed_19 ?_
        refine lv_iload hx hb dX1_renamed_22 (lv_at hl 0 rfl) ?_
        refine zald (q0 := 9) (n := 4) (f := mr) Z X rfl rfl k rfl (by omega) (by decide) dX1_renamed_24 ?_
        refine zrwi (y := nI (dg y k)) (hm k (by omega)) ?_
        refine lv_ishl hx hb dX1_renamed_25 ?_
        refine lv_ior hx hb dX1_renamed_26 ?_
        refine lv_topi (fun x2 ex2 => ?_)
        refine lv_istore_n (lv' := [(3, .int x2), (4, .int (nI k)), (0, .ref (a 0)), (1, .int it), (2, .int fl)]) hx hb dX1_renamed_27 rfl hl (by decide) rfl (fun ls hl => ?_)
        refine lv_iinc (v := nI (k + 1)) (lv' := [(4, .int (nI (k + 1))), (3, .int x2), (0, .ref (a 0)), (1, .int it), (2, .int fl)]) hx hb dX1_renamed_28 hl (k := 1) rfl (zi_inc k) (by decide) rfl (fun ls hl => ?_)
        refine lv_goto (tgt := 5) hx hb dX1_renamed_31 (by decide) ?_
        exact ih5 (k + 1) x2 (by first | assumption | omega) (by subst ex2; rw [hacc]; rfl) (by omega) H locs ls X (lv_sub hl [0, 1, 2, 3, 4] rfl)
  exact cut5 5 0 0 (by first | assumption | omega) (rfl) (by omega) H locs ls X (lv_sub hl [0, 1, 2, 3, 4] rfl)
theorem inw_X1_ways : ∀ w ∈ wsX10, w ∈ wsX1_ways := by decide +kernel
theorem lk_X1_ways_7 : Cond.fieldLink RX1 7 "QuarterboardModel" "piece" "[I" ∈ wsX1_ways := by decide +kernel
def P_X1_ways_p (bk : Int32) (pn : Nat) (hd ph ot wi ik th : Int32) (P O K kd lf ch be gi mr : Nat → Int32) : Int32 → MS → Prop := fun r u => ∃ mr2 : Nat → Int32, u = (bk, nI pn, hd, ph, ot, wi, ik, th, P, O, K, kd, lf, ch, be, gi, mr2) ∧ r = nI (waysC P P 256)
set_option maxHeartbeats 600000 in
set_option maxRecDepth 100000 in
theorem c_X1_ways_p (l : Launch) (g : zG) (a : Nat → Nat) (bk : Int32) (pn : Nat) (hd ph ot wi ik th : Int32) (P O K kd lf ch be gi mr : Nat → Int32)   : zM l yX1_ways wsX1_ways 2 100 g [.ref (a 0), .ref (a 1)] (oM g a (bk, nI pn, hd, ph, ot, wi, ik, th, P, O, K, kd, lf, ch, be, gi, mr)) zE0 (zQi g (P_X1_ways_p bk pn hd ph ot wi ik th P O K kd lf ch be gi mr) (oM g a)) := by
  refine zstart (cc := cX1_ways) (maxL := 8) (ret := (some .int)) (own := RX1) rfl (by decide) rfl zSt0 (Nat.le_of_ble_eq_true rfl) ?_
  intro p e s m below meth c A Z hr hlk H locs X ls hl
  have hx := Z.1.1
  have hb := Z.1.2.1
  have hin : ∀ w ∈ wsX10, w ∈ wsX1_ways := inw_X1_ways
  have hl : lv_has ls 8 [(0, .ref (a 0)), (1, .ref (a 1))] := hl
  have X : zh g A (oM g a (bk, nI pn, hd, ph, ot, wi, ik, th, P, O, K, kd, lf, ch, be, gi, mr)) s.heap H locs := X
  refine lv_iconst (v := (0 : Int32)) hx hb dX1_ways_0 (by decide) ?_
  refine lv_istore_n (lv' := [(2, .int (0 : Int32)), (0, .ref (a 0)), (1, .ref (a 1))]) hx hb dX1_ways_1 rfl hl (by decide) rfl (fun ls hl => ?_)
  refine lv_iconst (v := (0 : Int32)) hx hb dX1_ways_2 (by decide) ?_
  refine lv_istore_n (lv' := [(3, .int (0 : Int32)), (2, .int (0 : Int32)), (0, .ref (a 0)), (1, .ref (a 1))]) hx hb dX1_ways_3 rfl hl (by decide) rfl (fun ls hl => ?_)
  have cut4 : ∀ (n4 : Nat), ∀ (y : Nat) (n : Nat) (m1 : Nat → Int32), (y ≤ 256) → (n = waysC P P y) → (257 - y ≤ n4) → ∀ (H : Heap) (locs : List Loc) (ls : Array Slot), zh g A (oM g a (bk, nI pn, hd, ph, ot, wi, ik, th, P, O, K, kd, lf, ch, be, gi, m1)) s.heap H locs → lv_has ls 8 [(3, .int (nI y)), (2, .int (nI n)), (0, .ref (a 0)), (1, .ref (a 1))] → W p l e { frames := 2, cells := 0, slots := 0, locals := 100 } s m ([.ref (a 0), .ref (a 1)] : List Value).toArray below meth c H locs 0 0 (MQ below ((zQi g (P_X1_ways_p bk pn hd ph ot wi ik th P O K kd lf ch be gi mr) (oM g a)) A) ([.ref (a 0), .ref (a 1)] : List Value).toArray s 0 0 A) (F0 m 4 ls []) := by
    intro n4
    induction n4 with
    | zero =>
      intro y n m1 hy hn hm4
      exact absurd hm4 (by omega)
    | succ n4 ih4 =>
      intro y n m1 hy hn hm4 H locs ls X hl
      refine lv_iload_n hx hb dX1_ways_4 rfl (lv_at hl 0 rfl) ?_
      refine lv_sipush (v := (256 : Int32)) hx hb dX1_ways_5 (by decide) ?_
      refine lv_icmp_ge (tgt := 152) hx hb dX1_ways_8 (by decide) (fun c1 => ?_) (fun c1 => ?_)
      · have qc1 := c1
        have c1n : 256 ≤ y := zn_let (by omega) (by omega) c1
        refine lv_iload_n hx hb dX1_ways_152 rfl (lv_at hl 1 rfl) ?_
        exact zreti Z hr hlk (bk, nI pn, hd, ph, ot, wi, ik, th, P, O, K, kd, lf, ch, be, gi, m1) X dX1_ways_153 rfl (⟨m1, rfl, by rw [hn, show y = 256 by omega]⟩)
      · have qc1 := c1
        have c1n : ¬ 256 ≤ y := zn_len (by omega) (by omega) c1
        refine lv_aload_n hx hb dX1_ways_11 rfl (lv_at hl 2 rfl) ?_
        refine lv_iload_n hx hb dX1_ways_12 rfl (lv_at hl 0 rfl) ?_
        refine zcallVi (n := 1) (As := [.int (nI y)]) (rest := []) (ci := 1) (C := RX1) (T := TX1) (N := 17) Z X (c_X1_renames l g a bk pn hd ph ot wi ik th P O K kd lf ch be gi m1 y (by omega)) gX1_ways_X1_renames rfl (by decide +kernel) ⟨Nat.le_of_ble_eq_true rfl, Nat.le_of_ble_eq_true rfl⟩ rfl rfl rfl rfl hl.1 (Nat.le_of_ble_eq_true rfl) dX1_ways_13 ⟨Nat.zero_le _, Nat.zero_le _⟩ (fun r1 ur1 H locs hrr1 X => ?_)
        obtain ⟨rfl, rfl⟩ : ur1 = (bk, nI pn, hd, ph, ot, wi, ik, th, P, O, K, kd, lf, ch, be, gi, (mkN m1 y 4)) ∧ r1 = zb (isW y) := hrr1
        have X : zh g A (oM g a (bk, nI pn, hd, ph, ot, wi, ik, th, P, O, K, kd, lf, ch, be, gi, (mkN m1 y 4))) s.heap H locs := X
        refine lv_if_eq (tgt := 146) hx hb dX1_ways_16 (by decide) (fun c3 => ?_) (fun c3 => ?_)
        · have qc3 := c3
          have hW : isW y = false := zb_0.mp c3
          refine lv_iinc (v := nI (y + 1)) (lv' := [(3, .int (nI (y + 1))), (2, .int (nI n)), (0, .ref (a 0)), (1, .ref (a 1))]) hx hb dX1_ways_146 hl (k := 0) rfl (zi_inc y) (by decide) rfl (fun ls hl => ?_)
          refine lv_goto (tgt := 4) hx hb dX1_ways_149 (by decide) ?_
          exact ih4 (y + 1) n (mkN m1 y 4) (by first | assumption | omega) (by first | (rw [wc_f hW]; exact hn) | (rw [wc_t hW, ← hn, hn2, show k = 128 by omega])) (by omega) H locs ls X (lv_sub hl [0, 1, 2, 3] rfl)
        · have qc3 := c3
          have hW : isW y = true := zb_n0.mp c3
          refine lv_iconst (v := (0 : Int32)) hx hb dX1_ways_19 (by decide) ?_
          refine lv_istore (lv' := [(4, .int (0 : Int32)), (3, .int (nI y)), (2, .int (nI n)), (0, .ref (a 0)), (1, .ref (a 1))]) hx hb dX1_ways_20 hl (by decide) rfl (fun ls hl => ?_)
          have cut22 : ∀ (n22 : Nat), ∀ (k : Nat) (n2 : Nat), (k ≤ 128) → (n2 = n + waysC2 P P y k) → (129 - k ≤ n22) → ∀ (H : Heap) (locs : List Loc) (ls : Array Slot), zh g A (oM g a (bk, nI pn, hd, ph, ot, wi, ik, th, P, O, K, kd, lf, ch, be, gi, (mkN m1 y 4))) s.heap H locs → lv_has ls 8 [(4, .int (nI k)), (3, .int (nI y)), (2, .int (nI n2)), (0, .ref (a 0)), (1, .ref (a 1))] → W p l e { frames := 2, cells := 0, slots := 0, locals := 100 } s m ([.ref (a 0), .ref (a 1)] : List Value).toArray below meth c H locs 0 0 (MQ below ((zQi g (P_X1_ways_p bk pn hd ph ot wi ik th P O K kd lf ch be gi mr) (oM g a)) A) ([.ref (a 0), .ref (a 1)] : List Value).toArray s 0 0 A) (F0 m 22 ls []) := by
            intro n22
            induction n22 with
            | zero =>
              intro k n2 hk hn2 hm22
              exact absurd hm22 (by omega)
            | succ n22 ih22 =>
              intro k n2 hk hn2 hm22 H locs ls X hl
              refine lv_iload hx hb dX1_ways_22 (lv_at hl 0 rfl) ?_
              refine lv_sipush (v := (128 : Int32)) hx hb dX1_ways_24 (by decide) ?_
              refine lv_icmp_ge (tgt := 146) hx hb dX1_ways_27 (by decide) (fun c4 => ?_) (fun c4 => ?_)
              · have qc4 := c4
                have c4n : 128 ≤ k := zn_let (by omega) (by omega) c4
                refine lv_iinc (v := nI (y + 1)) (lv' := [(3, .int (nI (y + 1))), (4, .int (nI k)), (2, .int (nI n2)), (0, .ref (a 0)), (1, .ref (a 1))]) hx hb dX1_ways_146 hl (k := 1) rfl (zi_inc y) (by decide) rfl (fun ls hl => ?_)
                refine lv_goto (tgt := 4) hx hb dX1_ways_149 (by decide) ?_
                exact ih4 (y + 1) n2 (mkN m1 y 4) (by first | assumption | omega) (by first | (rw [wc_f hW]; exact hn) | (rw [wc_t hW, ← hn, hn2, show k = 128 by omega])) (by omega) H locs ls X (lv_sub hl [0, 2, 3, 4] rfl)
              · have qc4 := c4
                have c4n : ¬ 128 ≤ k := zn_len (by omega) (by omega) c4
                refine lv_iconst (v := (1 : Int32)) hx hb dX1_ways_30 (by decide) ?_
                refine lv_istore (lv' := [(5, .int (1 : Int32)), (4, .int (nI k)), (3, .int (nI y)), (2, .int (nI n2)), (0, .ref (a 0)), (1, .ref (a 1))]) hx hb dX1_ways_31 hl (by decide) rfl (fun ls hl => ?_)
                refine lv_iconst (v := (0 : Int32)) hx hb dX1_ways_33 (by decide) ?_
                refine lv_istore (lv' := [(6, .int (0 : Int32)), (5, .int (1 : Int32)), (4, .int (nI k)), (3, .int (nI y)), (2, .int (nI n2)), (0, .ref (a 0)), (1, .ref (a 1))]) hx hb dX1_ways_34 hl (by decide) rfl (fun ls hl => ?_)
                have cut36 : ∀ (n36 : Nat), ∀ (ax : Nat) (tv : Int32), (ax ≤ 16) → (tv = zb (allN (mtF P P y k) ax)) → (17 - ax ≤ n36) → ∀ (H : Heap) (locs : List Loc) (ls : Array Slot), zh g A (oM g a (bk, nI pn, hd, ph, ot, wi, ik, th, P, O, K, kd, lf, ch, be, gi, (mkN m1 y 4))) s.heap H locs → lv_has ls 8 [(6, .int (nI ax)), (5, .int tv), (4, .int (nI k)), (3, .int (nI y)), (2, .int (nI n2)), (0, .ref (a 0)), (1, .ref (a 1))] → W p l e { frames := 2, cells := 0, slots := 0, locals := 100 } s m ([.ref (a 0), .ref (a 1)] : List Value).toArray below meth c H locs 0 0 (MQ below ((zQi g (P_X1_ways_p bk pn hd ph ot wi ik th P O K kd lf ch be gi mr) (oM g a)) A) ([.ref (a 0), .ref (a 1)] : List Value).toArray s 0 0 A) (F0 m 36 ls []) := by
                  intro n36
                  induction n36 with
                  | zero =>
                    intro ax tv hax htv hm36
                    exact absurd hm36 (by omega)
                  | succ n36 ih36 =>
                    intro ax tv hax htv hm36 H locs ls X hl
                    refine lv_iload hx hb dX1_ways_36 (lv_at hl 0 rfl) ?_
                    refine lv_bipush (v := (16 : Int32)) hx hb dX1_ways_38 (by decide) ?_
                    refine lv_icmp_ge (tgt := 127) hx hb dX1_ways_40 (by decide) (fun c5 => ?_) (fun c5 => ?_)
                    · have qc5 := c5
                      have c5n : 16 ≤ ax := zn_let (by omega) (by omega) c5
                      refine lv_iload_n hx hb dX1_ways_127 rfl (lv_at hl 4 rfl) ?_
                      refine lv_iload hx hb dX1_ways_128 (lv_at hl 1 rfl) ?_
                      refine lv_if_eq (tgt := 137) hx hb dX1_ways_130 (by decide) (fun c6 => ?_) (fun c6 => ?_)
                      · have qc6 := c6
                        have hall : allN (mtF P P y k) 16 = false := allN_mf hax (zb_0.mp (htv ▸ c6))
                        refine lv_iconst (v := nI 0) hx hb dX1_ways_137 (by decide) ?_
                        refine lv_iadd hx hb dX1_ways_138 ?_
                        refine zrwi (y := nI (n2 + 0)) (nI_add _ _) ?_
                        refine lv_istore_n (lv' := [(2, .int (nI (n2 + 0))), (6, .int (nI ax)), (5, .int tv), (4, .int (nI k)), (3, .int (nI y)), (0, .ref (a 0)), (1, .ref (a 1))]) hx hb dX1_ways_139 rfl hl (by decide) rfl (fun ls hl => ?_)
                        refine lv_iinc (v := nI (k + 1)) (lv' := [(4, .int (nI (k + 1))), (2, .int (nI (n2 + 0))), (6, .int (nI ax)), (5, .int tv), (3, .int (nI y)), (0, .ref (a 0)), (1, .ref (a 1))]) hx hb dX1_ways_140 hl (k := 3) rfl (zi_inc k) (by decide) rfl (fun ls hl => ?_)
                        refine lv_goto (tgt := 22) hx hb dX1_ways_143 (by decide) ?_
                        exact ih22 (k + 1) (n2 + 0) (by first | assumption | omega) (by first | (rw [hn2, w2_t hall]; rfl) | (rw [hn2, w2_f hall]; rfl)) (by omega) H locs ls X (lv_sub hl [0, 4, 1, 5, 6] rfl)
                      · have qc6 := c6
                        have hall : allN (mtF P P y k) 16 = true := by first | (rw [show (16 : Nat) = ax by omega]; exact zb_n0.mp (htv ▸ c6)) | exact absurd htf (by rw [show allN (mtF P P y k) ax = true from zb_n0.mp (htv ▸ c6)]; decide)
                        refine lv_iconst (v := nI 1) hx hb dX1_ways_133 (by decide) ?_
                        refine lv_goto (tgt := 138) hx hb dX1_ways_134 (by decide) ?_
                        refine lv_iadd hx hb dX1_ways_138 ?_
                        refine zrwi (y := nI (n2 + 1)) (nI_add _ _) ?_
                        refine lv_istore_n (lv' := [(2, .int (nI (n2 + 1))), (6, .int (nI ax)), (5, .int tv), (4, .int (nI k)), (3, .int (nI y)), (0, .ref (a 0)), (1, .ref (a 1))]) hx hb dX1_ways_139 rfl hl (by decide) rfl (fun ls hl => ?_)
                        refine lv_iinc (v := nI (k + 1)) (lv' := [(4, .int (nI (k + 1))), (2, .int (nI (n2 + 1))), (6, .int (nI ax)), (5, .int tv), (3, .int (nI y)), (0, .ref (a 0)), (1, .ref (a 1))]) hx hb dX1_ways_140 hl (k := 3) rfl (zi_inc k) (by decide) rfl (fun ls hl => ?_)
                        refine lv_goto (tgt := 22) hx hb dX1_ways_143 (by decide) ?_
                        exact ih22 (k + 1) (n2 + 1) (by first | assumption | omega) (by first | (rw [hn2, w2_t hall]; rfl) | (rw [hn2, w2_f hall]; rfl)) (by omega) H locs ls X (lv_sub hl [0, 4, 1, 5, 6] rfl)
                    · have qc5 := c5
                      have c5n : ¬ 16 ≤ ax := zn_len (by omega) (by omega) c5
                      refine lv_iload hx hb dX1_ways_43 (lv_at hl 1 rfl) ?_
                      refine lv_if_eq (tgt := 127) hx hb dX1_ways_45 (by decide) (fun c7 => ?_) (fun c7 => ?_)
                      · have qc7 := c7
                        have htf : allN (mtF P P y k) ax = false := zb_0.mp (htv ▸ c7)
                        refine lv_iload_n hx hb dX1_ways_127 rfl (lv_at hl 4 rfl) ?_
                        refine lv_iload hx hb dX1_ways_128 (lv_at hl 1 rfl) ?_
                        refine lv_if_eq (tgt := 137) hx hb dX1_ways_130 (by decide) (fun c8 => ?_) (fun c8 => ?_)
                        · have qc8 := c8
                          have hall : allN (mtF P P y k) 16 = false := allN_mf hax (zb_0.mp (htv ▸ c8))
                          refine lv_iconst (v := nI 0) hx hb dX1_ways_137 (by decide) ?_
                          refine lv_iadd hx hb dX1_ways_138 ?_
                          refine zrwi (y := nI (n2 + 0)) (nI_add _ _) ?_
                          refine lv_istore_n (lv' := [(2, .int (nI (n2 + 0))), (6, .int (nI ax)), (5, .int tv), (4, .int (nI k)), (3, .int (nI y)), (0, .ref (a 0)), (1, .ref (a 1))]) hx hb dX1_ways_139 rfl hl (by decide) rfl (fun ls hl => ?_)
                          refine lv_iinc (v := nI (k + 1)) (lv' := [(4, .int (nI (k + 1))), (2, .int (nI (n2 + 0))), (6, .int (nI ax)), (5, .int tv), (3, .int (nI y)), (0, .ref (a 0)), (1, .ref (a 1))]) hx hb dX1_ways_140 hl (k := 3) rfl (zi_inc k) (by decide) rfl (fun ls hl => ?_)
                          refine lv_goto (tgt := 22) hx hb dX1_ways_143 (by decide) ?_
                          exact ih22 (k + 1) (n2 + 0) (by first | assumption | omega) (by first | (rw [hn2, w2_t hall]; rfl) | (rw [hn2, w2_f hall]; rfl)) (by omega) H locs ls X (lv_sub hl [0, 4, 1, 5, 6] rfl)
                        · have qc8 := c8
                          have hall : allN (mtF P P y k) 16 = true := by first | (rw [show (16 : Nat) = ax by omega]; exact zb_n0.mp (htv ▸ c8)) | exact absurd htf (by rw [show allN (mtF P P y k) ax = true from zb_n0.mp (htv ▸ c8)]; decide)
                          refine lv_iconst (v := nI 1) hx hb dX1_ways_133 (by decide) ?_
                          refine lv_goto (tgt := 138) hx hb dX1_ways_134 (by decide) ?_
                          refine lv_iadd hx hb dX1_ways_138 ?_
                          refine zrwi (y := nI (n2 + 1)) (nI_add _ _) ?_
                          refine lv_istore_n (lv' := [(2, .int (nI (n2 + 1))), (6, .int (nI ax)), (5, .int tv), (4, .int (nI k)), (3, .int (nI y)), (0, .ref (a 0)), (1, .ref (a 1))]) hx hb dX1_ways_139 rfl hl (by decide) rfl (fun ls hl => ?_)
                          refine lv_iinc (v := nI (k + 1)) (lv' := [(4, .int (nI (k + 1))), (2, .int (nI (n2 + 1))), (6, .int (nI ax)), (5, .int tv), (3, .int (nI y)), (0, .ref (a 0)), (1, .ref (a 1))]) hx hb dX1_ways_140 hl (k := 3) rfl (zi_inc k) (by decide) rfl (fun ls hl => ?_)
                          refine lv_goto (tgt := 22) hx hb dX1_ways_143 (by decide) ?_
                          exact ih22 (k + 1) (n2 + 1) (by first | assumption | omega) (by first | (rw [hn2, w2_t hall]; rfl) | (rw [hn2, w2_f hall]; rfl)) (by omega) H locs ls X (lv_sub hl [0, 4, 1, 5, 6] rfl)
                      · have qc7 := c7
                        have htf : allN (mtF P P y k) ax = true := zb_n0.mp (htv ▸ c7)
                        refine lv_aload_n hx hb dX1_ways_48 rfl (lv_at hl 6 rfl) ?_
                        refine lv_iload hx hb dX1_ways_49 (lv_at hl 0 rfl) ?_
                        refine lv_iload hx hb dX1_ways_51 (lv_at hl 2 rfl) ?_
                        refine lv_bipush (v := nI 16) hx hb dX1_ways_53 (by decide) ?_
                        refine lv_idiv hx hb dX1_ways_55 (by decide) ?_
                        refine zrwi (y := nI (k / 16)) (pk_div (by omega) (by decide) (by decide)) ?_
                        refine zcallSi (n := 2) (As := [.int (nI ax), .int (nI (k / 16))]) (rest := [.ref (a 1)]) Z X (c_X1_turned l g ax (k / 16) (by omega) (by omega)) gX1_ways_X1_turned rfl (by decide +kernel) ⟨Nat.le_of_ble_eq_true rfl, Nat.le_of_ble_eq_true rfl⟩ rfl rfl hl.1 (Nat.le_of_ble_eq_true rfl) dX1_ways_56 ⟨Nat.zero_le _, Nat.zero_le _⟩ (fun r8 H locs hrr8 X => ?_)
                        obtain rfl : r8 = nI (mtq ax (k / 16)) := hrr8
                        refine zald (q0 := 1) (n := 16) (f := P) Z X rfl rfl (mtq ax (k / 16)) rfl (mtq_lt ax (by omega) (k / 16) (by omega)) (by decide) dX1_ways_59 ?_
                        refine lv_istore (lv' := [(7, .int (P (mtq ax (k / 16)))), (6, .int (nI ax)), (5, .int tv), (4, .int (nI k)), (3, .int (nI y)), (2, .int (nI n2)), (0, .ref (a 0)), (1, .ref (a 1))]) hx hb dX1_ways_60 hl (by decide) rfl (fun ls hl => ?_)
                        refine lv_aload_n hx hb dX1_ways_62 rfl (lv_at hl 6 rfl) ?_
                        refine zget (fs := [.int bk, .ref (a 1), .ref (a 2), .int (nI pn), .int hd, .int ph, .int ot, .int wi, .int ik, .ref (a 3), .int th, .ref (a 4), .ref (a 5), .ref (a 6), .ref (a 7), .ref (a 8), .ref (a 9)]) (v := .ref (a 1)) Z hin X (ci := 1) (C := RX1) (T := TX1) (N := 17) rfl rfl 1 (by decide) lk_X1_ways_7 rfl dX1_ways_63 ?_
                        refine lv_iload hx hb dX1_ways_66 (lv_at hl 1 rfl) ?_
                        refine zald (q0 := 1) (n := 16) (f := P) Z X rfl rfl ax rfl (by omega) (by decide) dX1_ways_68 ?_
                        refine lv_iconst (v := (-1 : Int32)) hx hb dX1_ways_69 (by decide) ?_
                        refine lv_icmp_ne (tgt := 87) hx hb dX1_ways_70 (by decide) (fun c10 => ?_) (fun c10 => ?_)
                        · have qc10 := c10
                          have hm : ¬ P ax = -1 := c10
                          refine lv_iload hx hb dX1_ways_87 (lv_at hl 0 rfl) ?_
                          refine lv_iconst (v := (-1 : Int32)) hx hb dX1_ways_89 (by decide) ?_
                          refine lv_icmp_eq (tgt := 118) hx hb dX1_ways_90 (by decide) (fun c11 => ?_) (fun c11 => ?_)
                          · have qc11 := c11
                            have ht : P (mtq ax (k / 16)) = -1 := c11
                            refine lv_iconst (v := (0 : Int32)) hx hb dX1_ways_118 (by decide) ?_
                            refine lv_istore (lv' := [(5, .int (0 : Int32)), (7, .int (P (mtq ax (k / 16)))), (6, .int (nI ax)), (4, .int (nI k)), (3, .int (nI y)), (2, .int (nI n2)), (0, .ref (a 0)), (1, .ref (a 1))]) hx hb dX1_ways_119 hl (by decide) rfl (fun ls hl => ?_)
                            refine lv_iinc (v := nI (ax + 1)) (lv' := [(6, .int (nI (ax + 1))), (5, .int (0 : Int32)), (7, .int (P (mtq ax (k / 16)))), (4, .int (nI k)), (3, .int (nI y)), (2, .int (nI n2)), (0, .ref (a 0)), (1, .ref (a 1))]) hx hb dX1_ways_121 hl (k := 2) rfl (zi_inc ax) (by decide) rfl (fun ls hl => ?_)
                            refine lv_goto (tgt := 36) hx hb dX1_ways_124 (by decide) ?_
                            exact ih36 (ax + 1) (0 : Int32) (by first | assumption | omega) (by first | exact al_t htf (mt_1 hm ht) | exact al_f (mt_2 hm ht) | exact al_f (mt_3 hm ht) | exact al_f (mt_4 hm he) | exact al_t htf (mt_5 hm ht he)) (by omega) H locs ls X (lv_sub hl [0, 1, 3, 4, 5, 6, 7] rfl)
                          · have qc11 := c11
                            have ht : ¬ P (mtq ax (k / 16)) = -1 := c11
                            refine lv_iload hx hb dX1_ways_93 (lv_at hl 0 rfl) ?_
                            refine lv_aload_n hx hb dX1_ways_95 rfl (lv_at hl 6 rfl) ?_
                            refine lv_aload_n hx hb dX1_ways_96 rfl (lv_at hl 6 rfl) ?_
                            refine zget (fs := [.int bk, .ref (a 1), .ref (a 2), .int (nI pn), .int hd, .int ph, .int ot, .int wi, .int ik, .ref (a 3), .int th, .ref (a 4), .ref (a 5), .ref (a 6), .ref (a 7), .ref (a 8), .ref (a 9)]) (v := .ref (a 1)) Z hin X (ci := 1) (C := RX1) (T := TX1) (N := 17) rfl rfl 1 (by decide) lk_X1_ways_7 rfl dX1_ways_97 ?_
                            refine lv_iload hx hb dX1_ways_100 (lv_at hl 1 rfl) ?_
                            refine zald (q0 := 1) (n := 16) (f := P) Z X rfl rfl ax rfl (by omega) (by decide) dX1_ways_102 ?_
                            refine lv_iload hx hb dX1_ways_103 (lv_at hl 3 rfl) ?_
                            refine lv_bipush (v := nI 16) hx hb dX1_ways_105 (by decide) ?_
                            refine lv_irem hx hb dX1_ways_107 (by decide) ?_
                            refine zrwi (y := nI (k % 16)) (pk_rem (by omega) (by decide) (by decide)) ?_
                            refine zcallVi (n := 2) (As := [.int (P ax), .int (nI (k % 16))]) (rest := [.int (P (mtq ax (k / 16)))]) (ci := 1) (C := RX1) (T := TX1) (N := 17) Z X (c_X1_renamed l g a bk pn hd ph ot wi ik th P O K kd lf ch be gi (mkN m1 y 4) (P ax) (nI (k % 16)) y (mkN_at m1 y)) gX1_ways_X1_renamed rfl (by decide +kernel) ⟨Nat.le_of_ble_eq_true rfl, Nat.le_of_ble_eq_true rfl⟩ rfl rfl rfl rfl hl.1 (Nat.le_of_ble_eq_true rfl) dX1_ways_108 ⟨Nat.zero_le _, Nat.zero_le _⟩ (fun r11 ur11 H locs hrr11 X => ?_)
                            obtain ⟨rfl, rfl⟩ : ur11 = (bk, nI pn, hd, ph, ot, wi, ik, th, P, O, K, kd, lf, ch, be, gi, (mkN m1 y 4)) ∧ r11 = mRn (P ax) y (nI (k % 16)) := hrr11
                            have X : zh g A (oM g a (bk, nI pn, hd, ph, ot, wi, ik, th, P, O, K, kd, lf, ch, be, gi, (mkN m1 y 4))) s.heap H locs := X
                            refine lv_icmp_ne (tgt := 118) hx hb dX1_ways_111 (by decide) (fun c13 => ?_) (fun c13 => ?_)
                            · have qc13 := c13
                              have he : ¬ P (mtq ax (k / 16)) = mRn (P ax) y (nI (k % 16)) := c13
                              refine lv_iconst (v := (0 : Int32)) hx hb dX1_ways_118 (by decide) ?_
                              refine lv_istore (lv' := [(5, .int (0 : Int32)), (7, .int (P (mtq ax (k / 16)))), (6, .int (nI ax)), (4, .int (nI k)), (3, .int (nI y)), (2, .int (nI n2)), (0, .ref (a 0)), (1, .ref (a 1))]) hx hb dX1_ways_119 hl (by decide) rfl (fun ls hl => ?_)
                              refine lv_iinc (v := nI (ax + 1)) (lv' := [(6, .int (nI (ax + 1))), (5, .int (0 : Int32)), (7, .int (P (mtq ax (k / 16)))), (4, .int (nI k)), (3, .int (nI y)), (2, .int (nI n2)), (0, .ref (a 0)), (1, .ref (a 1))]) hx hb dX1_ways_121 hl (k := 2) rfl (zi_inc ax) (by decide) rfl (fun ls hl => ?_)
                              refine lv_goto (tgt := 36) hx hb dX1_ways_124 (by decide) ?_
                              exact ih36 (ax + 1) (0 : Int32) (by first | assumption | omega) (by first | exact al_t htf (mt_1 hm ht) | exact al_f (mt_2 hm ht) | exact al_f (mt_3 hm ht) | exact al_f (mt_4 hm he) | exact al_t htf (mt_5 hm ht he)) (by omega) H locs ls X (lv_sub hl [0, 1, 3, 4, 5, 6, 7] rfl)
                            · have qc13 := c13
                              have he : P (mtq ax (k / 16)) = mRn (P ax) y (nI (k % 16)) := c13
                              refine lv_iconst (v := (1 : Int32)) hx hb dX1_ways_114 (by decide) ?_
                              refine lv_goto (tgt := 119) hx hb dX1_ways_115 (by decide) ?_
                              refine lv_istore (lv' := [(5, .int (1 : Int32)), (7, .int (P (mtq ax (k / 16)))), (6, .int (nI ax)), (4, .int (nI k)), (3, .int (nI y)), (2, .int (nI n2)), (0, .ref (a 0)), (1, .ref (a 1))]) hx hb dX1_ways_119 hl (by decide) rfl (fun ls hl => ?_)
                              refine lv_iinc (v := nI (ax + 1)) (lv' := [(6, .int (nI (ax + 1))), (5, .int (1 : Int32)), (7, .int (P (mtq ax (k / 16)))), (4, .int (nI k)), (3, .int (nI y)), (2, .int (nI n2)), (0, .ref (a 0)), (1, .ref (a 1))]) hx hb dX1_ways_121 hl (k := 2) rfl (zi_inc ax) (by decide) rfl (fun ls hl => ?_)
                              refine lv_goto (tgt := 36) hx hb dX1_ways_124 (by decide) ?_
                              exact ih36 (ax + 1) (1 : Int32) (by first | assumption | omega) (by first | exact al_t htf (mt_1 hm ht) | exact al_f (mt_2 hm ht) | exact al_f (mt_3 hm ht) | exact al_f (mt_4 hm he) | exact al_t htf (mt_5 hm ht he)) (by omega) H locs ls X (lv_sub hl [0, 1, 3, 4, 5, 6, 7] rfl)
                        · have qc10 := c10
                          have hm : P ax = -1 := c10
                          refine lv_iload hx hb dX1_ways_73 (lv_at hl 0 rfl) ?_
                          refine lv_iconst (v := (-1 : Int32)) hx hb dX1_ways_75 (by decide) ?_
                          refine lv_icmp_ne (tgt := 83) hx hb dX1_ways_76 (by decide) (fun c14 => ?_) (fun c14 => ?_)
                          · have qc14 := c14
                            have ht : ¬ P (mtq ax (k / 16)) = -1 := c14
                            refine lv_iconst (v := (0 : Int32)) hx hb dX1_ways_83 (by decide) ?_
                            refine lv_goto (tgt := 119) hx hb dX1_ways_84 (by decide) ?_
                            refine lv_istore (lv' := [(5, .int (0 : Int32)), (7, .int (P (mtq ax (k / 16)))), (6, .int (nI ax)), (4, .int (nI k)), (3, .int (nI y)), (2, .int (nI n2)), (0, .ref (a 0)), (1, .ref (a 1))]) hx hb dX1_ways_119 hl (by decide) rfl (fun ls hl => ?_)
                            refine lv_iinc (v := nI (ax + 1)) (lv' := [(6, .int (nI (ax + 1))), (5, .int (0 : Int32)), (7, .int (P (mtq ax (k / 16)))), (4, .int (nI k)), (3, .int (nI y)), (2, .int (nI n2)), (0, .ref (a 0)), (1, .ref (a 1))]) hx hb dX1_ways_121 hl (k := 2) rfl (zi_inc ax) (by decide) rfl (fun ls hl => ?_)
                            refine lv_goto (tgt := 36) hx hb dX1_ways_124 (by decide) ?_
                            exact ih36 (ax + 1) (0 : Int32) (by first | assumption | omega) (by first | exact al_t htf (mt_1 hm ht) | exact al_f (mt_2 hm ht) | exact al_f (mt_3 hm ht) | exact al_f (mt_4 hm he) | exact al_t htf (mt_5 hm ht he)) (by omega) H locs ls X (lv_sub hl [0, 1, 3, 4, 5, 6, 7] rfl)
                          · have qc14 := c14
                            have ht : P (mtq ax (k / 16)) = -1 := c14
                            refine lv_iconst (v := (1 : Int32)) hx hb dX1_ways_79 (by decide) ?_
                            refine lv_goto (tgt := 119) hx hb dX1_ways_80 (by decide) ?_
                            refine lv_istore (lv' := [(5, .int (1 : Int32)), (7, .int (P (mtq ax (k / 16)))), (6, .int (nI ax)), (4, .int (nI k)), (3, .int (nI y)), (2, .int (nI n2)), (0, .ref (a 0)), (1, .ref (a 1))]) hx hb dX1_ways_119 hl (by decide) rfl (fun ls hl => ?_)
                            refine lv_iinc (v := nI (ax + 1)) (lv' := [(6, .int (nI (ax + 1))), (5, .int (1 : Int32)), (7, .int (P (mtq ax (k / 16)))), (4, .int (nI k)), (3, .int (nI y)), (2, .int (nI n2)), (0, .ref (a 0)), (1, .ref (a 1))]) hx hb dX1_ways_121 hl (k := 2) rfl (zi_inc ax) (by decide) rfl (fun ls hl => ?_)
                            refine lv_goto (tgt := 36) hx hb dX1_ways_124 (by decide) ?_
                            exact ih36 (ax + 1) (1 : Int32) (by first | assumption | omega) (by first | exact al_t htf (mt_1 hm ht) | exact al_f (mt_2 hm ht) | exact al_f (mt_3 hm ht) | exact al_f (mt_4 hm he) | exact al_t htf (mt_5 hm ht he)) (by omega) H locs ls X (lv_sub hl [0, 1, 3, 4, 5, 6, 7] rfl)
                exact cut36 17 0 1 (by first | assumption | omega) (rfl) (by omega) H locs ls X (lv_sub hl [0, 1, 2, 3, 4, 5, 6] rfl)
          exact cut22 129 0 n (by first | assumption | omega) (rfl) (by omega) H locs ls X (lv_sub hl [0, 1, 2, 3, 4] rfl)
  exact cut4 257 0 0 mr (by first | assumption | omega) (rfl) (by omega) H locs ls X (lv_sub hl [0, 1, 2, 3] rfl)
def P_X1_ways_k (bk : Int32) (pn : Nat) (hd ph ot wi ik th : Int32) (P O K kd lf ch be gi mr : Nat → Int32) : Int32 → MS → Prop := fun r u => ∃ mr2 : Nat → Int32, u = (bk, nI pn, hd, ph, ot, wi, ik, th, P, O, K, kd, lf, ch, be, gi, mr2) ∧ r = nI (waysC P K 256)
set_option maxHeartbeats 600000 in
set_option maxRecDepth 100000 in
theorem c_X1_ways_k (l : Launch) (g : zG) (a : Nat → Nat) (bk : Int32) (pn : Nat) (hd ph ot wi ik th : Int32) (P O K kd lf ch be gi mr : Nat → Int32)   : zM l yX1_ways wsX1_ways 2 100 g [.ref (a 0), .ref (a 3)] (oM g a (bk, nI pn, hd, ph, ot, wi, ik, th, P, O, K, kd, lf, ch, be, gi, mr)) zE0 (zQi g (P_X1_ways_k bk pn hd ph ot wi ik th P O K kd lf ch be gi mr) (oM g a)) := by
  refine zstart (cc := cX1_ways) (maxL := 8) (ret := (some .int)) (own := RX1) rfl (by decide) rfl zSt0 (Nat.le_of_ble_eq_true rfl) ?_
  intro p e s m below meth c A Z hr hlk H locs X ls hl
  have hx := Z.1.1
  have hb := Z.1.2.1
  have hin : ∀ w ∈ wsX10, w ∈ wsX1_ways := inw_X1_ways
  have hl : lv_has ls 8 [(0, .ref (a 0)), (1, .ref (a 3))] := hl
  have X : zh g A (oM g a (bk, nI pn, hd, ph, ot, wi, ik, th, P, O, K, kd, lf, ch, be, gi, mr)) s.heap H locs := X
  refine lv_iconst (v := (0 : Int32)) hx hb dX1_ways_0 (by decide) ?_
  refine lv_istore_n (lv' := [(2, .int (0 : Int32)), (0, .ref (a 0)), (1, .ref (a 3))]) hx hb dX1_ways_1 rfl hl (by decide) rfl (fun ls hl => ?_)
  refine lv_iconst (v := (0 : Int32)) hx hb dX1_ways_2 (by decide) ?_
  refine lv_istore_n (lv' := [(3, .int (0 : Int32)), (2, .int (0 : Int32)), (0, .ref (a 0)), (1, .ref (a 3))]) hx hb dX1_ways_3 rfl hl (by decide) rfl (fun ls hl => ?_)
  have cut4 : ∀ (n4 : Nat), ∀ (y : Nat) (n : Nat) (m1 : Nat → Int32), (y ≤ 256) → (n = waysC P K y) → (257 - y ≤ n4) → ∀ (H : Heap) (locs : List Loc) (ls : Array Slot), zh g A (oM g a (bk, nI pn, hd, ph, ot, wi, ik, th, P, O, K, kd, lf, ch, be, gi, m1)) s.heap H locs → lv_has ls 8 [(3, .int (nI y)), (2, .int (nI n)), (0, .ref (a 0)), (1, .ref (a 3))] → W p l e { frames := 2, cells := 0, slots := 0, locals := 100 } s m ([.ref (a 0), .ref (a 3)] : List Value).toArray below meth c H locs 0 0 (MQ below ((zQi g (P_X1_ways_k bk pn hd ph ot wi ik th P O K kd lf ch be gi mr) (oM g a)) A) ([.ref (a 0), .ref (a 3)] : List Value).toArray s 0 0 A) (F0 m 4 ls []) := by
    intro n4
    induction n4 with
    | zero =>
      intro y n m1 hy hn hm4
      exact absurd hm4 (by omega)
    | succ n4 ih4 =>
      intro y n m1 hy hn hm4 H locs ls X hl
      refine lv_iload_n hx hb dX1_ways_4 rfl (lv_at hl 0 rfl) ?_
      refine lv_sipush (v := (256 : Int32)) hx hb dX1_ways_5 (by decide) ?_
      refine lv_icmp_ge (tgt := 152) hx hb dX1_ways_8 (by decide) (fun c1 => ?_) (fun c1 => ?_)
      · have qc1 := c1
        have c1n : 256 ≤ y := zn_let (by omega) (by omega) c1
        refine lv_iload_n hx hb dX1_ways_152 rfl (lv_at hl 1 rfl) ?_
        exact zreti Z hr hlk (bk, nI pn, hd, ph, ot, wi, ik, th, P, O, K, kd, lf, ch, be, gi, m1) X dX1_ways_153 rfl (⟨m1, rfl, by rw [hn, show y = 256 by omega]⟩)
      · have qc1 := c1
        have c1n : ¬ 256 ≤ y := zn_len (by omega) (by omega) c1
        refine lv_aload_n hx hb dX1_ways_11 rfl (lv_at hl 2 rfl) ?_
        refine lv_iload_n hx hb dX1_ways_12 rfl (lv_at hl 0 rfl) ?_
        refine zcallVi (n := 1) (As := [.int (nI y)]) (rest := []) (ci := 1) (C := RX1) (T := TX1) (N := 17) Z X (c_X1_renames l g a bk pn hd ph ot wi ik th P O K kd lf ch be gi m1 y (by omega)) gX1_ways_X1_renames rfl (by decide +kernel) ⟨Nat.le_of_ble_eq_true rfl, Nat.le_of_ble_eq_true rfl⟩ rfl rfl rfl rfl hl.1 (Nat.le_of_ble_eq_true rfl) dX1_ways_13 ⟨Nat.zero_le _, Nat.zero_le _⟩ (fun r1 ur1 H locs hrr1 X => ?_)
        obtain ⟨rfl, rfl⟩ : ur1 = (bk, nI pn, hd, ph, ot, wi, ik, th, P, O, K, kd, lf, ch, be, gi, (mkN m1 y 4)) ∧ r1 = zb (isW y) := hrr1
        have X : zh g A (oM g a (bk, nI pn, hd, ph, ot, wi, ik, th, P, O, K, kd, lf, ch, be, gi, (mkN m1 y 4))) s.heap H locs := X
        refine lv_if_eq (tgt := 146) hx hb dX1_ways_16 (by decide) (fun c3 => ?_) (fun c3 => ?_)
        · have qc3 := c3
          have hW : isW y = false := zb_0.mp c3
          refine lv_iinc (v := nI (y + 1)) (lv' := [(3, .int (nI (y + 1))), (2, .int (nI n)), (0, .ref (a 0)), (1, .ref (a 3))]) hx hb dX1_ways_146 hl (k := 0) rfl (zi_inc y) (by decide) rfl (fun ls hl => ?_)
          refine lv_goto (tgt := 4) hx hb dX1_ways_149 (by decide) ?_
          exact ih4 (y + 1) n (mkN m1 y 4) (by first | assumption | omega) (by first | (rw [wc_f hW]; exact hn) | (rw [wc_t hW, ← hn, hn2, show k = 128 by omega])) (by omega) H locs ls X (lv_sub hl [0, 1, 2, 3] rfl)
        · have qc3 := c3
          have hW : isW y = true := zb_n0.mp c3
          refine lv_iconst (v := (0 : Int32)) hx hb dX1_ways_19 (by decide) ?_
          refine lv_istore (lv' := [(4, .int (0 : Int32)), (3, .int (nI y)), (2, .int (nI n)), (0, .ref (a 0)), (1, .ref (a 3))]) hx hb dX1_ways_20 hl (by decide) rfl (fun ls hl => ?_)
          have cut22 : ∀ (n22 : Nat), ∀ (k : Nat) (n2 : Nat), (k ≤ 128) → (n2 = n + waysC2 P K y k) → (129 - k ≤ n22) → ∀ (H : Heap) (locs : List Loc) (ls : Array Slot), zh g A (oM g a (bk, nI pn, hd, ph, ot, wi, ik, th, P, O, K, kd, lf, ch, be, gi, (mkN m1 y 4))) s.heap H locs → lv_has ls 8 [(4, .int (nI k)), (3, .int (nI y)), (2, .int (nI n2)), (0, .ref (a 0)), (1, .ref (a 3))] → W p l e { frames := 2, cells := 0, slots := 0, locals := 100 } s m ([.ref (a 0), .ref (a 3)] : List Value).toArray below meth c H locs 0 0 (MQ below ((zQi g (P_X1_ways_k bk pn hd ph ot wi ik th P O K kd lf ch be gi mr) (oM g a)) A) ([.ref (a 0), .ref (a 3)] : List Value).toArray s 0 0 A) (F0 m 22 ls []) := by
            intro n22
            induction n22 with
            | zero =>
              intro k n2 hk hn2 hm22
              exact absurd hm22 (by omega)
            | succ n22 ih22 =>
              intro k n2 hk hn2 hm22 H locs ls X hl
              refine lv_iload hx hb dX1_ways_22 (lv_at hl 0 rfl) ?_
              refine lv_sipush (v := (128 : Int32)) hx hb dX1_ways_24 (by decide) ?_
              refine lv_icmp_ge (tgt := 146) hx hb dX1_ways_27 (by decide) (fun c4 => ?_) (fun c4 => ?_)
              · have qc4 := c4
                have c4n : 128 ≤ k := zn_let (by omega) (by omega) c4
                refine lv_iinc (v := nI (y + 1)) (lv' := [(3, .int (nI (y + 1))), (4, .int (nI k)), (2, .int (nI n2)), (0, .ref (a 0)), (1, .ref (a 3))]) hx hb dX1_ways_146 hl (k := 1) rfl (zi_inc y) (by decide) rfl (fun ls hl => ?_)
                refine lv_goto (tgt := 4) hx hb dX1_ways_149 (by decide) ?_
                exact ih4 (y + 1) n2 (mkN m1 y 4) (by first | assumption | omega) (by first | (rw [wc_f hW]; exact hn) | (rw [wc_t hW, ← hn, hn2, show k = 128 by omega])) (by omega) H locs ls X (lv_sub hl [0, 2, 3, 4] rfl)
              · have qc4 := c4
                have c4n : ¬ 128 ≤ k := zn_len (by omega) (by omega) c4
                refine lv_iconst (v := (1 : Int32)) hx hb dX1_ways_30 (by decide) ?_
                refine lv_istore (lv' := [(5, .int (1 : Int32)), (4, .int (nI k)), (3, .int (nI y)), (2, .int (nI n2)), (0, .ref (a 0)), (1, .ref (a 3))]) hx hb dX1_ways_31 hl (by decide) rfl (fun ls hl => ?_)
                refine lv_iconst (v := (0 : Int32)) hx hb dX1_ways_33 (by decide) ?_
                refine lv_istore (lv' := [(6, .int (0 : Int32)), (5, .int (1 : Int32)), (4, .int (nI k)), (3, .int (nI y)), (2, .int (nI n2)), (0, .ref (a 0)), (1, .ref (a 3))]) hx hb dX1_ways_34 hl (by decide) rfl (fun ls hl => ?_)
                have cut36 : ∀ (n36 : Nat), ∀ (ax : Nat) (tv : Int32), (ax ≤ 16) → (tv = zb (allN (mtF P K y k) ax)) → (17 - ax ≤ n36) → ∀ (H : Heap) (locs : List Loc) (ls : Array Slot), zh g A (oM g a (bk, nI pn, hd, ph, ot, wi, ik, th, P, O, K, kd, lf, ch, be, gi, (mkN m1 y 4))) s.heap H locs → lv_has ls 8 [(6, .int (nI ax)), (5, .int tv), (4, .int (nI k)), (3, .int (nI y)), (2, .int (nI n2)), (0, .ref (a 0)), (1, .ref (a 3))] → W p l e { frames := 2, cells := 0, slots := 0, locals := 100 } s m ([.ref (a 0), .ref (a 3)] : List Value).toArray below meth c H locs 0 0 (MQ below ((zQi g (P_X1_ways_k bk pn hd ph ot wi ik th P O K kd lf ch be gi mr) (oM g a)) A) ([.ref (a 0), .ref (a 3)] : List Value).toArray s 0 0 A) (F0 m 36 ls []) := by
                  intro n36
                  induction n36 with
                  | zero =>
                    intro ax tv hax htv hm36
                    exact absurd hm36 (by omega)
                  | succ n36 ih36 =>
                    intro ax tv hax htv hm36 H locs ls X hl
                    refine lv_iload hx hb dX1_ways_36 (lv_at hl 0 rfl) ?_
                    refine lv_bipush (v := (16 : Int32)) hx hb dX1_ways_38 (by decide) ?_
                    refine lv_icmp_ge (tgt := 127) hx hb dX1_ways_40 (by decide) (fun c5 => ?_) (fun c5 => ?_)
                    · have qc5 := c5
                      have c5n : 16 ≤ ax := zn_let (by omega) (by omega) c5
                      refine lv_iload_n hx hb dX1_ways_127 rfl (lv_at hl 4 rfl) ?_
                      refine lv_iload hx hb dX1_ways_128 (lv_at hl 1 rfl) ?_
                      refine lv_if_eq (tgt := 137) hx hb dX1_ways_130 (by decide) (fun c6 => ?_) (fun c6 => ?_)
                      · have qc6 := c6
                        have hall : allN (mtF P K y k) 16 = false := allN_mf hax (zb_0.mp (htv ▸ c6))
                        refine lv_iconst (v := nI 0) hx hb dX1_ways_137 (by decide) ?_
                        refine lv_iadd hx hb dX1_ways_138 ?_
                        refine zrwi (y := nI (n2 + 0)) (nI_add _ _) ?_
                        refine lv_istore_n (lv' := [(2, .int (nI (n2 + 0))), (6, .int (nI ax)), (5, .int tv), (4, .int (nI k)), (3, .int (nI y)), (0, .ref (a 0)), (1, .ref (a 3))]) hx hb dX1_ways_139 rfl hl (by decide) rfl (fun ls hl => ?_)
                        refine lv_iinc (v := nI (k + 1)) (lv' := [(4, .int (nI (k + 1))), (2, .int (nI (n2 + 0))), (6, .int (nI ax)), (5, .int tv), (3, .int (nI y)), (0, .ref (a 0)), (1, .ref (a 3))]) hx hb dX1_ways_140 hl (k := 3) rfl (zi_inc k) (by decide) rfl (fun ls hl => ?_)
                        refine lv_goto (tgt := 22) hx hb dX1_ways_143 (by decide) ?_
                        exact ih22 (k + 1) (n2 + 0) (by first | assumption | omega) (by first | (rw [hn2, w2_t hall]; rfl) | (rw [hn2, w2_f hall]; rfl)) (by omega) H locs ls X (lv_sub hl [0, 4, 1, 5, 6] rfl)
                      · have qc6 := c6
                        have hall : allN (mtF P K y k) 16 = true := by first | (rw [show (16 : Nat) = ax by omega]; exact zb_n0.mp (htv ▸ c6)) | exact absurd htf (by rw [show allN (mtF P K y k) ax = true from zb_n0.mp (htv ▸ c6)]; decide)
                        refine lv_iconst (v := nI 1) hx hb dX1_ways_133 (by decide) ?_
                        refine lv_goto (tgt := 138) hx hb dX1_ways_134 (by decide) ?_
                        refine lv_iadd hx hb dX1_ways_138 ?_
                        refine zrwi (y := nI (n2 + 1)) (nI_add _ _) ?_
                        refine lv_istore_n (lv' := [(2, .int (nI (n2 + 1))), (6, .int (nI ax)), (5, .int tv), (4, .int (nI k)), (3, .int (nI y)), (0, .ref (a 0)), (1, .ref (a 3))]) hx hb dX1_ways_139 rfl hl (by decide) rfl (fun ls hl => ?_)
                        refine lv_iinc (v := nI (k + 1)) (lv' := [(4, .int (nI (k + 1))), (2, .int (nI (n2 + 1))), (6, .int (nI ax)), (5, .int tv), (3, .int (nI y)), (0, .ref (a 0)), (1, .ref (a 3))]) hx hb dX1_ways_140 hl (k := 3) rfl (zi_inc k) (by decide) rfl (fun ls hl => ?_)
                        refine lv_goto (tgt := 22) hx hb dX1_ways_143 (by decide) ?_
                        exact ih22 (k + 1) (n2 + 1) (by first | assumption | omega) (by first | (rw [hn2, w2_t hall]; rfl) | (rw [hn2, w2_f hall]; rfl)) (by omega) H locs ls X (lv_sub hl [0, 4, 1, 5, 6] rfl)
                    · have qc5 := c5
                      have c5n : ¬ 16 ≤ ax := zn_len (by omega) (by omega) c5
                      refine lv_iload hx hb dX1_ways_43 (lv_at hl 1 rfl) ?_
                      refine lv_if_eq (tgt := 127) hx hb dX1_ways_45 (by decide) (fun c7 => ?_) (fun c7 => ?_)
                      · have qc7 := c7
                        have htf : allN (mtF P K y k) ax = false := zb_0.mp (htv ▸ c7)
                        refine lv_iload_n hx hb dX1_ways_127 rfl (lv_at hl 4 rfl) ?_
                        refine lv_iload hx hb dX1_ways_128 (lv_at hl 1 rfl) ?_
                        refine lv_if_eq (tgt := 137) hx hb dX1_ways_130 (by decide) (fun c8 => ?_) (fun c8 => ?_)
                        · have qc8 := c8
                          have hall : allN (mtF P K y k) 16 = false := allN_mf hax (zb_0.mp (htv ▸ c8))
                          refine lv_iconst (v := nI 0) hx hb dX1_ways_137 (by decide) ?_
                          refine lv_iadd hx hb dX1_ways_138 ?_
                          refine zrwi (y := nI (n2 + 0)) (nI_add _ _) ?_
                          refine lv_istore_n (lv' := [(2, .int (nI (n2 + 0))), (6, .int (nI ax)), (5, .int tv), (4, .int (nI k)), (3, .int (nI y)), (0, .ref (a 0)), (1, .ref (a 3))]) hx hb dX1_ways_139 rfl hl (by decide) rfl (fun ls hl => ?_)
                          refine lv_iinc (v := nI (k + 1)) (lv' := [(4, .int (nI (k + 1))), (2, .int (nI (n2 + 0))), (6, .int (nI ax)), (5, .int tv), (3, .int (nI y)), (0, .ref (a 0)), (1, .ref (a 3))]) hx hb dX1_ways_140 hl (k := 3) rfl (zi_inc k) (by decide) rfl (fun ls hl => ?_)
                          refine lv_goto (tgt := 22) hx hb dX1_ways_143 (by decide) ?_
                          exact ih22 (k + 1) (n2 + 0) (by first | assumption | omega) (by first | (rw [hn2, w2_t hall]; rfl) | (rw [hn2, w2_f hall]; rfl)) (by omega) H locs ls X (lv_sub hl [0, 4, 1, 5, 6] rfl)
                        · have qc8 := c8
                          have hall : allN (mtF P K y k) 16 = true := by first | (rw [show (16 : Nat) = ax by omega]; exact zb_n0.mp (htv ▸ c8)) | exact absurd htf (by rw [show allN (mtF P K y k) ax = true from zb_n0.mp (htv ▸ c8)]; decide)
                          refine lv_iconst (v := nI 1) hx hb dX1_ways_133 (by decide) ?_
                          refine lv_goto (tgt := 138) hx hb dX1_ways_134 (by decide) ?_
                          refine lv_iadd hx hb dX1_ways_138 ?_
                          refine zrwi (y := nI (n2 + 1)) (nI_add _ _) ?_
                          refine lv_istore_n (lv' := [(2, .int (nI (n2 + 1))), (6, .int (nI ax)), (5, .int tv), (4, .int (nI k)), (3, .int (nI y)), (0, .ref (a 0)), (1, .ref (a 3))]) hx hb dX1_ways_139 rfl hl (by decide) rfl (fun ls hl => ?_)
                          refine lv_iinc (v := nI (k + 1)) (lv' := [(4, .int (nI (k + 1))), (2, .int (nI (n2 + 1))), (6, .int (nI ax)), (5, .int tv), (3, .int (nI y)), (0, .ref (a 0)), (1, .ref (a 3))]) hx hb dX1_ways_140 hl (k := 3) rfl (zi_inc k) (by decide) rfl (fun ls hl => ?_)
                          refine lv_goto (tgt := 22) hx hb dX1_ways_143 (by decide) ?_
                          exact ih22 (k + 1) (n2 + 1) (by first | assumption | omega) (by first | (rw [hn2, w2_t hall]; rfl) | (rw [hn2, w2_f hall]; rfl)) (by omega) H locs ls X (lv_sub hl [0, 4, 1, 5, 6] rfl)
                      · have qc7 := c7
                        have htf : allN (mtF P K y k) ax = true := zb_n0.mp (htv ▸ c7)
                        refine lv_aload_n hx hb dX1_ways_48 rfl (lv_at hl 6 rfl) ?_
                        refine lv_iload hx hb dX1_ways_49 (lv_at hl 0 rfl) ?_
                        refine lv_iload hx hb dX1_ways_51 (lv_at hl 2 rfl) ?_
                        refine lv_bipush (v := nI 16) hx hb dX1_ways_53 (by decide) ?_
                        refine lv_idiv hx hb dX1_ways_55 (by decide) ?_
                        refine zrwi (y := nI (k / 16)) (pk_div (by omega) (by decide) (by decide)) ?_
                        refine zcallSi (n := 2) (As := [.int (nI ax), .int (nI (k / 16))]) (rest := [.ref (a 3)]) Z X (c_X1_turned l g ax (k / 16) (by omega) (by omega)) gX1_ways_X1_turned rfl (by decide +kernel) ⟨Nat.le_of_ble_eq_true rfl, Nat.le_of_ble_eq_true rfl⟩ rfl rfl hl.1 (Nat.le_of_ble_eq_true rfl) dX1_ways_56 ⟨Nat.zero_le _, Nat.zero_le _⟩ (fun r8 H locs hrr8 X => ?_)
                        obtain rfl : r8 = nI (mtq ax (k / 16)) := hrr8
                        refine zald (q0 := 3) (n := 16) (f := K) Z X rfl rfl (mtq ax (k / 16)) rfl (mtq_lt ax (by omega) (k / 16) (by omega)) (by decide) dX1_ways_59 ?_
                        refine lv_istore (lv' := [(7, .int (K (mtq ax (k / 16)))), (6, .int (nI ax)), (5, .int tv), (4, .int (nI k)), (3, .int (nI y)), (2, .int (nI n2)), (0, .ref (a 0)), (1, .ref (a 3))]) hx hb dX1_ways_60 hl (by decide) rfl (fun ls hl => ?_)
                        refine lv_aload_n hx hb dX1_ways_62 rfl (lv_at hl 6 rfl) ?_
                        refine zget (fs := [.int bk, .ref (a 1), .ref (a 2), .int (nI pn), .int hd, .int ph, .int ot, .int wi, .int ik, .ref (a 3), .int th, .ref (a 4), .ref (a 5), .ref (a 6), .ref (a 7), .ref (a 8), .ref (a 9)]) (v := .ref (a 1)) Z hin X (ci := 1) (C := RX1) (T := TX1) (N := 17) rfl rfl 1 (by decide) lk_X1_ways_7 rfl dX1_ways_63 ?_
                        refine lv_iload hx hb dX1_ways_66 (lv_at hl 1 rfl) ?_
                        refine zald (q0 := 1) (n := 16) (f := P) Z X rfl rfl ax rfl (by omega) (by decide) dX1_ways_68 ?_
                        refine lv_iconst (v := (-1 : Int32)) hx hb dX1_ways_69 (by decide) ?_
                        refine lv_icmp_ne (tgt := 87) hx hb dX1_ways_70 (by decide) (fun c10 => ?_) (fun c10 => ?_)
                        · have qc10 := c10
                          have hm : ¬ P ax = -1 := c10
                          refine lv_iload hx hb dX1_ways_87 (lv_at hl 0 rfl) ?_
                          refine lv_iconst (v := (-1 : Int32)) hx hb dX1_ways_89 (by decide) ?_
                          refine lv_icmp_eq (tgt := 118) hx hb dX1_ways_90 (by decide) (fun c11 => ?_) (fun c11 => ?_)
                          · have qc11 := c11
                            have ht : K (mtq ax (k / 16)) = -1 := c11
                            refine lv_iconst (v := (0 : Int32)) hx hb dX1_ways_118 (by decide) ?_
                            refine lv_istore (lv' := [(5, .int (0 : Int32)), (7, .int (K (mtq ax (k / 16)))), (6, .int (nI ax)), (4, .int (nI k)), (3, .int (nI y)), (2, .int (nI n2)), (0, .ref (a 0)), (1, .ref (a 3))]) hx hb dX1_ways_119 hl (by decide) rfl (fun ls hl => ?_)
                            refine lv_iinc (v := nI (ax + 1)) (lv' := [(6, .int (nI (ax + 1))), (5, .int (0 : Int32)), (7, .int (K (mtq ax (k / 16)))), (4, .int (nI k)), (3, .int (nI y)), (2, .int (nI n2)), (0, .ref (a 0)), (1, .ref (a 3))]) hx hb dX1_ways_121 hl (k := 2) rfl (zi_inc ax) (by decide) rfl (fun ls hl => ?_)
                            refine lv_goto (tgt := 36) hx hb dX1_ways_124 (by decide) ?_
                            exact ih36 (ax + 1) (0 : Int32) (by first | assumption | omega) (by first | exact al_t htf (mt_1 hm ht) | exact al_f (mt_2 hm ht) | exact al_f (mt_3 hm ht) | exact al_f (mt_4 hm he) | exact al_t htf (mt_5 hm ht he)) (by omega) H locs ls X (lv_sub hl [0, 1, 3, 4, 5, 6, 7] rfl)
                          · have qc11 := c11
                            have ht : ¬ K (mtq ax (k / 16)) = -1 := c11
                            refine lv_iload hx hb dX1_ways_93 (lv_at hl 0 rfl) ?_
                            refine lv_aload_n hx hb dX1_ways_95 rfl (lv_at hl 6 rfl) ?_
                            refine lv_aload_n hx hb dX1_ways_96 rfl (lv_at hl 6 rfl) ?_
                            refine zget (fs := [.int bk, .ref (a 1), .ref (a 2), .int (nI pn), .int hd, .int ph, .int ot, .int wi, .int ik, .ref (a 3), .int th, .ref (a 4), .ref (a 5), .ref (a 6), .ref (a 7), .ref (a 8), .ref (a 9)]) (v := .ref (a 1)) Z hin X (ci := 1) (C := RX1) (T := TX1) (N := 17) rfl rfl 1 (by decide) lk_X1_ways_7 rfl dX1_ways_97 ?_
                            refine lv_iload hx hb dX1_ways_100 (lv_at hl 1 rfl) ?_
                            refine zald (q0 := 1) (n := 16) (f := P) Z X rfl rfl ax rfl (by omega) (by decide) dX1_ways_102 ?_
                            refine lv_iload hx hb dX1_ways_103 (lv_at hl 3 rfl) ?_
                            refine lv_bipush (v := nI 16) hx hb dX1_ways_105 (by decide) ?_
                            refine lv_irem hx hb dX1_ways_107 (by decide) ?_
                            refine zrwi (y := nI (k % 16)) (pk_rem (by omega) (by decide) (by decide)) ?_
                            refine zcallVi (n := 2) (As := [.int (P ax), .int (nI (k % 16))]) (rest := [.int (K (mtq ax (k / 16)))]) (ci := 1) (C := RX1) (T := TX1) (N := 17) Z X (c_X1_renamed l g a bk pn hd ph ot wi ik th P O K kd lf ch be gi (mkN m1 y 4) (P ax) (nI (k % 16)) y (mkN_at m1 y)) gX1_ways_X1_renamed rfl (by decide +kernel) ⟨Nat.le_of_ble_eq_true rfl, Nat.le_of_ble_eq_true rfl⟩ rfl rfl rfl rfl hl.1 (Nat.le_of_ble_eq_true rfl) dX1_ways_108 ⟨Nat.zero_le _, Nat.zero_le _⟩ (fun r11 ur11 H locs hrr11 X => ?_)
                            obtain ⟨rfl, rfl⟩ : ur11 = (bk, nI pn, hd, ph, ot, wi, ik, th, P, O, K, kd, lf, ch, be, gi, (mkN m1 y 4)) ∧ r11 = mRn (P ax) y (nI (k % 16)) := hrr11
                            have X : zh g A (oM g a (bk, nI pn, hd, ph, ot, wi, ik, th, P, O, K, kd, lf, ch, be, gi, (mkN m1 y 4))) s.heap H locs := X
                            refine lv_icmp_ne (tgt := 118) hx hb dX1_ways_111 (by decide) (fun c13 => ?_) (fun c13 => ?_)
                            · have qc13 := c13
                              have he : ¬ K (mtq ax (k / 16)) = mRn (P ax) y (nI (k % 16)) := c13
                              refine lv_iconst (v := (0 : Int32)) hx hb dX1_ways_118 (by decide) ?_
                              refine lv_istore (lv' := [(5, .int (0 : Int32)), (7, .int (K (mtq ax (k / 16)))), (6, .int (nI ax)), (4, .int (nI k)), (3, .int (nI y)), (2, .int (nI n2)), (0, .ref (a 0)), (1, .ref (a 3))]) hx hb dX1_ways_119 hl (by decide) rfl (fun ls hl => ?_)
                              refine lv_iinc (v := nI (ax + 1)) (lv' := [(6, .int (nI (ax + 1))), (5, .int (0 : Int32)), (7, .int (K (mtq ax (k / 16)))), (4, .int (nI k)), (3, .int (nI y)), (2, .int (nI n2)), (0, .ref (a 0)), (1, .ref (a 3))]) hx hb dX1_ways_121 hl (k := 2) rfl (zi_inc ax) (by decide) rfl (fun ls hl => ?_)
                              refine lv_goto (tgt := 36) hx hb dX1_ways_124 (by decide) ?_
                              exact ih36 (ax + 1) (0 : Int32) (by first | assumption | omega) (by first | exact al_t htf (mt_1 hm ht) | exact al_f (mt_2 hm ht) | exact al_f (mt_3 hm ht) | exact al_f (mt_4 hm he) | exact al_t htf (mt_5 hm ht he)) (by omega) H locs ls X (lv_sub hl [0, 1, 3, 4, 5, 6, 7] rfl)
                            · have qc13 := c13
                              have he : K (mtq ax (k / 16)) = mRn (P ax) y (nI (k % 16)) := c13
                              refine lv_iconst (v := (1 : Int32)) hx hb dX1_ways_114 (by decide) ?_
                              refine lv_goto (tgt := 119) hx hb dX1_ways_115 (by decide) ?_
                              refine lv_istore (lv' := [(5, .int (1 : Int32)), (7, .int (K (mtq ax (k / 16)))), (6, .int (nI ax)), (4, .int (nI k)), (3, .int (nI y)), (2, .int (nI n2)), (0, .ref (a 0)), (1, .ref (a 3))]) hx hb dX1_ways_119 hl (by decide) rfl (fun ls hl => ?_)
                              refine lv_iinc (v := nI (ax + 1)) (lv' := [(6, .int (nI (ax + 1))), (5, .int (1 : Int32)), (7, .int (K (mtq ax (k / 16)))), (4, .int (nI k)), (3, .int (nI y)), (2, .int (nI n2)), (0, .ref (a 0)), (1, .ref (a 3))]) hx hb dX1_ways_121 hl (k := 2) rfl (zi_inc ax) (by decide) rfl (fun ls hl => ?_)
                              refine lv_goto (tgt := 36) hx hb dX1_ways_124 (by decide) ?_
                              exact ih36 (ax + 1) (1 : Int32) (by first | assumption | omega) (by first | exact al_t htf (mt_1 hm ht) | exact al_f (mt_2 hm ht) | exact al_f (mt_3 hm ht) | exact al_f (mt_4 hm he) | exact al_t htf (mt_5 hm ht he)) (by omega) H locs ls X (lv_sub hl [0, 1, 3, 4, 5, 6, 7] rfl)
                        · have qc10 := c10
                          have hm : P ax = -1 := c10
                          refine lv_iload hx hb dX1_ways_73 (lv_at hl 0 rfl) ?_
                          refine lv_iconst (v := (-1 : Int32)) hx hb dX1_ways_75 (by decide) ?_
                          refine lv_icmp_ne (tgt := 83) hx hb dX1_ways_76 (by decide) (fun c14 => ?_) (fun c14 => ?_)
                          · have qc14 := c14
                            have ht : ¬ K (mtq ax (k / 16)) = -1 := c14
                            refine lv_iconst (v := (0 : Int32)) hx hb dX1_ways_83 (by decide) ?_
                            refine lv_goto (tgt := 119) hx hb dX1_ways_84 (by decide) ?_
                            refine lv_istore (lv' := [(5, .int (0 : Int32)), (7, .int (K (mtq ax (k / 16)))), (6, .int (nI ax)), (4, .int (nI k)), (3, .int (nI y)), (2, .int (nI n2)), (0, .ref (a 0)), (1, .ref (a 3))]) hx hb dX1_ways_119 hl (by decide) rfl (fun ls hl => ?_)
                            refine lv_iinc (v := nI (ax + 1)) (lv' := [(6, .int (nI (ax + 1))), (5, .int (0 : Int32)), (7, .int (K (mtq ax (k / 16)))), (4, .int (nI k)), (3, .int (nI y)), (2, .int (nI n2)), (0, .ref (a 0)), (1, .ref (a 3))]) hx hb dX1_ways_121 hl (k := 2) rfl (zi_inc ax) (by decide) rfl (fun ls hl => ?_)
                            refine lv_goto (tgt := 36) hx hb dX1_ways_124 (by decide) ?_
                            exact ih36 (ax + 1) (0 : Int32) (by first | assumption | omega) (by first | exact al_t htf (mt_1 hm ht) | exact al_f (mt_2 hm ht) | exact al_f (mt_3 hm ht) | exact al_f (mt_4 hm he) | exact al_t htf (mt_5 hm ht he)) (by omega) H locs ls X (lv_sub hl [0, 1, 3, 4, 5, 6, 7] rfl)
                          · have qc14 := c14
                            have ht : K (mtq ax (k / 16)) = -1 := c14
                            refine lv_iconst (v := (1 : Int32)) hx hb dX1_ways_79 (by decide) ?_
                            refine lv_goto (tgt := 119) hx hb dX1_ways_80 (by decide) ?_
                            refine lv_istore (lv' := [(5, .int (1 : Int32)), (7, .int (K (mtq ax (k / 16)))), (6, .int (nI ax)), (4, .int (nI k)), (3, .int (nI y)), (2, .int (nI n2)), (0, .ref (a 0)), (1, .ref (a 3))]) hx hb dX1_ways_119 hl (by decide) rfl (fun ls hl => ?_)
                            refine lv_iinc (v := nI (ax + 1)) (lv' := [(6, .int (nI (ax + 1))), (5, .int (1 : Int32)), (7, .int (K (mtq ax (k / 16)))), (4, .int (nI k)), (3, .int (nI y)), (2, .int (nI n2)), (0, .ref (a 0)), (1, .ref (a 3))]) hx hb dX1_ways_121 hl (k := 2) rfl (zi_inc ax) (by decide) rfl (fun ls hl => ?_)
                            refine lv_goto (tgt := 36) hx hb dX1_ways_124 (by decide) ?_
                            exact ih36 (ax + 1) (1 : Int32) (by first | assumption | omega) (by first | exact al_t htf (mt_1 hm ht) | exact al_f (mt_2 hm ht) | exact al_f (mt_3 hm ht) | exact al_f (mt_4 hm he) | exact al_t htf (mt_5 hm ht he)) (by omega) H locs ls X (lv_sub hl [0, 1, 3, 4, 5, 6, 7] rfl)
                exact cut36 17 0 1 (by first | assumption | omega) (rfl) (by omega) H locs ls X (lv_sub hl [0, 1, 2, 3, 4, 5, 6] rfl)
          exact cut22 129 0 n (by first | assumption | omega) (rfl) (by omega) H locs ls X (lv_sub hl [0, 1, 2, 3, 4] rfl)
  exact cut4 257 0 0 mr (by first | assumption | omega) (rfl) (by omega) H locs ls X (lv_sub hl [0, 1, 2, 3] rfl)
theorem inw_X1_isAlike : ∀ w ∈ wsX10, w ∈ wsX1_isAlike := by decide +kernel
theorem lk_X1_isAlike_121 : Cond.fieldLink RX1 121 "QuarterboardModel" "isKept" "Z" ∈ wsX1_isAlike := by decide +kernel
theorem lk_X1_isAlike_27 : Cond.fieldLink RX1 27 "QuarterboardModel" "kept" "[I" ∈ wsX1_isAlike := by decide +kernel
def P_X1_isAlike (bk : Int32) (pn : Nat) (hd ph ot wi ik th : Int32) (P O K kd lf ch be gi mr : Nat → Int32) : Int32 → MS → Prop := fun r u => (ik = 0 ∧ u = (bk, nI pn, hd, ph, ot, wi, ik, 1, P, O, K, kd, lf, ch, be, gi, mr) ∧ r = 0) ∨ (¬ ik = 0 ∧ ∃ mr2 : Nat → Int32, u = (bk, nI pn, hd, ph, ot, wi, ik, 0, P, O, K, kd, lf, ch, be, gi, mr2) ∧ r = zb (decide (0 < waysC P K 256)))
set_option maxHeartbeats 600000 in
set_option maxRecDepth 100000 in
theorem c_X1_isAlike (l : Launch) (g : zG) (a : Nat → Nat) (bk : Int32) (pn : Nat) (hd ph ot wi ik th : Int32) (P O K kd lf ch be gi mr : Nat → Int32)   : zM l yX1_isAlike wsX1_isAlike 3 200 g [.ref (a 0)] (oM g a (bk, nI pn, hd, ph, ot, wi, ik, th, P, O, K, kd, lf, ch, be, gi, mr)) zE0 (zQi g (P_X1_isAlike bk pn hd ph ot wi ik th P O K kd lf ch be gi mr) (oM g a)) := by
  refine zstart (cc := cX1_isAlike) (maxL := 1) (ret := (some .boolean)) (own := RX1) rfl (by decide) rfl zSt0 (Nat.le_of_ble_eq_true rfl) ?_
  intro p e s m below meth c A Z hr hlk H locs X ls hl
  have hx := Z.1.1
  have hb := Z.1.2.1
  have hin : ∀ w ∈ wsX10, w ∈ wsX1_isAlike := inw_X1_isAlike
  have hl : lv_has ls 1 [(0, .ref (a 0))] := hl
  have X : zh g A (oM g a (bk, nI pn, hd, ph, ot, wi, ik, th, P, O, K, kd, lf, ch, be, gi, mr)) s.heap H locs := X
  have hwl := wc_le P K 256
  refine lv_aload_n hx hb dX1_isAlike_0 rfl (lv_at hl 0 rfl) ?_
  refine lv_aload_n hx hb dX1_isAlike_1 rfl (lv_at hl 0 rfl) ?_
  refine zget (fs := [.int bk, .ref (a 1), .ref (a 2), .int (nI pn), .int hd, .int ph, .int ot, .int wi, .int ik, .ref (a 3), .int th, .ref (a 4), .ref (a 5), .ref (a 6), .ref (a 7), .ref (a 8), .ref (a 9)]) (v := .int ik) Z hin X (ci := 1) (C := RX1) (T := TX1) (N := 17) rfl rfl 8 (by decide) lk_X1_isAlike_121 rfl dX1_isAlike_2 ?_
  refine lv_if_eq (tgt := 12) hx hb dX1_isAlike_5 (by decide) (fun c1 => ?_) (fun c1 => ?_)
  · have qc1 := c1
    have hs : ik = 0 := c1
    refine lv_iconst (v := (1 : Int32)) hx hb dX1_isAlike_12 (by decide) ?_
    refine zcallVi (n := 1) (As := [.int (1 : Int32)]) (rest := []) (ci := 1) (C := RX1) (T := TX1) (N := 17) Z X (c_X1_fails l g a bk pn hd ph ot wi ik th P O K kd lf ch be gi mr (1 : Int32)) gX1_isAlike_X1_fails rfl (by decide +kernel) ⟨Nat.le_of_ble_eq_true rfl, Nat.le_of_ble_eq_true rfl⟩ rfl rfl rfl rfl hl.1 (Nat.le_of_ble_eq_true rfl) dX1_isAlike_13 ⟨Nat.zero_le _, Nat.zero_le _⟩ (fun r1 ur1 H locs hrr1 X => ?_)
    obtain ⟨rfl, hfr1⟩ : ur1 = (bk, nI pn, hd, ph, ot, wi, ik, (1 : Int32), P, O, K, kd, lf, ch, be, gi, mr) ∧ r1 = zb (decide ((0 : Int32) < (1 : Int32))) := hrr1
    obtain rfl : r1 = (1 : Int32) := hfr1.trans (by decide)
    have X : zh g A (oM g a (bk, nI pn, hd, ph, ot, wi, ik, (1 : Int32), P, O, K, kd, lf, ch, be, gi, mr)) s.heap H locs := X
    refine lv_if_ne (tgt := 34) hx hb dX1_isAlike_16 (by decide) (fun c3 => ?_) (fun c3 => ?_)
    · have qc3 := c3
      refine lv_iconst (v := (0 : Int32)) hx hb dX1_isAlike_34 (by decide) ?_
      exact zreti Z hr hlk (bk, nI pn, hd, ph, ot, wi, ik, (1 : Int32), P, O, K, kd, lf, ch, be, gi, mr) X dX1_isAlike_35 rfl (by first | exact Or.inl ⟨hs, rfl, rfl⟩ | exact Or.inr ⟨hs, _, rfl, by rw [decide_eq_true hw]; rfl⟩ | exact Or.inr ⟨hs, _, rfl, by rw [decide_eq_false hw]; rfl⟩)
    · exact absurd c3 (by decide)
  · have qc1 := c1
    have hs : ¬ ik = 0 := c1
    refine lv_iconst (v := (0 : Int32)) hx hb dX1_isAlike_8 (by decide) ?_
    refine lv_goto (tgt := 13) hx hb dX1_isAlike_9 (by decide) ?_
    refine zcallVi (n := 1) (As := [.int (0 : Int32)]) (rest := []) (ci := 1) (C := RX1) (T := TX1) (N := 17) Z X (c_X1_fails l g a bk pn hd ph ot wi ik th P O K kd lf ch be gi mr (0 : Int32)) gX1_isAlike_X1_fails rfl (by decide +kernel) ⟨Nat.le_of_ble_eq_true rfl, Nat.le_of_ble_eq_true rfl⟩ rfl rfl rfl rfl hl.1 (Nat.le_of_ble_eq_true rfl) dX1_isAlike_13 ⟨Nat.zero_le _, Nat.zero_le _⟩ (fun r3 ur3 H locs hrr3 X => ?_)
    obtain ⟨rfl, hfr3⟩ : ur3 = (bk, nI pn, hd, ph, ot, wi, ik, (0 : Int32), P, O, K, kd, lf, ch, be, gi, mr) ∧ r3 = zb (decide ((0 : Int32) < (0 : Int32))) := hrr3
    obtain rfl : r3 = (0 : Int32) := hfr3.trans (by decide)
    have X : zh g A (oM g a (bk, nI pn, hd, ph, ot, wi, ik, (0 : Int32), P, O, K, kd, lf, ch, be, gi, mr)) s.heap H locs := X
    refine lv_if_ne (tgt := 34) hx hb dX1_isAlike_16 (by decide) (fun c5 => ?_) (fun c5 => ?_)
    · exact absurd c5 (by decide)
    · have qc5 := c5
      refine lv_aload_n hx hb dX1_isAlike_19 rfl (lv_at hl 0 rfl) ?_
      refine lv_aload_n hx hb dX1_isAlike_20 rfl (lv_at hl 0 rfl) ?_
      refine zget (fs := [.int bk, .ref (a 1), .ref (a 2), .int (nI pn), .int hd, .int ph, .int ot, .int wi, .int ik, .ref (a 3), .int (0 : Int32), .ref (a 4), .ref (a 5), .ref (a 6), .ref (a 7), .ref (a 8), .ref (a 9)]) (v := .ref (a 3)) Z hin X (ci := 1) (C := RX1) (T := TX1) (N := 17) rfl rfl 9 (by decide) lk_X1_isAlike_27 rfl dX1_isAlike_21 ?_
      refine zcallVi (n := 1) (As := [.ref (a 3)]) (rest := []) (ci := 1) (C := RX1) (T := TX1) (N := 17) Z X (c_X1_ways_k l g a bk pn hd ph ot wi ik (0 : Int32) P O K kd lf ch be gi mr) gX1_isAlike_X1_ways rfl (by decide +kernel) ⟨Nat.le_of_ble_eq_true rfl, Nat.le_of_ble_eq_true rfl⟩ rfl rfl rfl rfl hl.1 (Nat.le_of_ble_eq_true rfl) dX1_isAlike_24 ⟨Nat.zero_le _, Nat.zero_le _⟩ (fun r5 ur5 H locs hrr5 X => ?_)
      obtain ⟨mrr5, rfl, her5⟩ : ∃ mr2 : Nat → Int32, ur5 = (bk, nI pn, hd, ph, ot, wi, ik, (0 : Int32), P, O, K, kd, lf, ch, be, gi, mr2) ∧ r5 = nI (waysC P K 256) := hrr5
      have X : zh g A (oM g a (bk, nI pn, hd, ph, ot, wi, ik, (0 : Int32), P, O, K, kd, lf, ch, be, gi, mrr5)) s.heap H locs := X
      refine zrwi (y := nI (waysC P K 256)) her5 ?_
      refine lv_if_le (tgt := 34) hx hb dX1_isAlike_27 (by decide) (fun c7 => ?_) (fun c7 => ?_)
      · have qc7 := c7
        have c7n : (waysC P K 256) ≤ 0 := zn_let (by omega) (by omega) c7
        have hw : ¬ 0 < waysC P K 256 := by omega
        refine lv_iconst (v := (0 : Int32)) hx hb dX1_isAlike_34 (by decide) ?_
        exact zreti Z hr hlk (bk, nI pn, hd, ph, ot, wi, ik, (0 : Int32), P, O, K, kd, lf, ch, be, gi, mrr5) X dX1_isAlike_35 rfl (by first | exact Or.inl ⟨hs, rfl, rfl⟩ | exact Or.inr ⟨hs, _, rfl, by rw [decide_eq_true hw]; rfl⟩ | exact Or.inr ⟨hs, _, rfl, by rw [decide_eq_false hw]; rfl⟩)
      · have qc7 := c7
        have c7n : ¬ (waysC P K 256) ≤ 0 := zn_len (by omega) (by omega) c7
        have hw : 0 < waysC P K 256 := by omega
        refine lv_iconst (v := (1 : Int32)) hx hb dX1_isAlike_30 (by decide) ?_
        refine lv_goto (tgt := 35) hx hb dX1_isAlike_31 (by decide) ?_
        exact zreti Z hr hlk (bk, nI pn, hd, ph, ot, wi, ik, (0 : Int32), P, O, K, kd, lf, ch, be, gi, mrr5) X dX1_isAlike_35 rfl (by first | exact Or.inl ⟨hs, rfl, rfl⟩ | exact Or.inr ⟨hs, _, rfl, by rw [decide_eq_true hw]; rfl⟩ | exact Or.inr ⟨hs, _, rfl, by rw [decide_eq_false hw]; rfl⟩)
theorem inw_X1_symmetries : ∀ w ∈ wsX10, w ∈ wsX1_symmetries := by decide +kernel
theorem lk_X1_symmetries_7 : Cond.fieldLink RX1 7 "QuarterboardModel" "piece" "[I" ∈ wsX1_symmetries := by decide +kernel
def P_X1_symmetries (bk : Int32) (pn : Nat) (hd ph ot wi ik th : Int32) (P O K kd lf ch be gi mr : Nat → Int32) : Int32 → MS → Prop := fun r u => ∃ mr2 : Nat → Int32, u = (bk, nI pn, hd, ph, ot, wi, ik, 0, P, O, K, kd, lf, ch, be, gi, mr2) ∧ r = nI (waysC P P 256)
set_option maxHeartbeats 600000 in
set_option maxRecDepth 100000 in
theorem c_X1_symmetries (l : Launch) (g : zG) (a : Nat → Nat) (bk : Int32) (pn : Nat) (hd ph ot wi ik th : Int32) (P O K kd lf ch be gi mr : Nat → Int32)   : zM l yX1_symmetries wsX1_symmetries 3 200 g [.ref (a 0)] (oM g a (bk, nI pn, hd, ph, ot, wi, ik, th, P, O, K, kd, lf, ch, be, gi, mr)) zE0 (zQi g (P_X1_symmetries bk pn hd ph ot wi ik th P O K kd lf ch be gi mr) (oM g a)) := by
  refine zstart (cc := cX1_symmetries) (maxL := 1) (ret := (some .int)) (own := RX1) rfl (by decide) rfl zSt0 (Nat.le_of_ble_eq_true rfl) ?_
  intro p e s m below meth c A Z hr hlk H locs X ls hl
  have hx := Z.1.1
  have hb := Z.1.2.1
  have hin : ∀ w ∈ wsX10, w ∈ wsX1_symmetries := inw_X1_symmetries
  have hl : lv_has ls 1 [(0, .ref (a 0))] := hl
  have X : zh g A (oM g a (bk, nI pn, hd, ph, ot, wi, ik, th, P, O, K, kd, lf, ch, be, gi, mr)) s.heap H locs := X
  refine lv_aload_n hx hb dX1_symmetries_0 rfl (lv_at hl 0 rfl) ?_
  refine lv_aload_n hx hb dX1_symmetries_1 rfl (lv_at hl 0 rfl) ?_
  refine lv_aload_n hx hb dX1_symmetries_2 rfl (lv_at hl 0 rfl) ?_
  refine zget (fs := [.int bk, .ref (a 1), .ref (a 2), .int (nI pn), .int hd, .int ph, .int ot, .int wi, .int ik, .ref (a 3), .int th, .ref (a 4), .ref (a 5), .ref (a 6), .ref (a 7), .ref (a 8), .ref (a 9)]) (v := .ref (a 1)) Z hin X (ci := 1) (C := RX1) (T := TX1) (N := 17) rfl rfl 1 (by decide) lk_X1_symmetries_7 rfl dX1_symmetries_3 ?_
  refine zcallVi (n := 1) (As := [.ref (a 1)]) (rest := [.ref (a 0)]) (ci := 1) (C := RX1) (T := TX1) (N := 17) Z X (c_X1_ways_p l g a bk pn hd ph ot wi ik th P O K kd lf ch be gi mr) gX1_symmetries_X1_ways rfl (by decide +kernel) ⟨Nat.le_of_ble_eq_true rfl, Nat.le_of_ble_eq_true rfl⟩ rfl rfl rfl rfl hl.1 (Nat.le_of_ble_eq_true rfl) dX1_symmetries_6 ⟨Nat.zero_le _, Nat.zero_le _⟩ (fun r0 ur0 H locs hrr0 X => ?_)
  obtain ⟨mrr0, rfl, her0⟩ : ∃ mr2 : Nat → Int32, ur0 = (bk, nI pn, hd, ph, ot, wi, ik, th, P, O, K, kd, lf, ch, be, gi, mr2) ∧ r0 = nI (waysC P P 256) := hrr0
  have X : zh g A (oM g a (bk, nI pn, hd, ph, ot, wi, ik, th, P, O, K, kd, lf, ch, be, gi, mrr0)) s.heap H locs := X
  refine zrwi (y := nI (waysC P P 256)) her0 ?_
  refine zcallVi (n := 1) (As := [.int (nI (waysC P P 256))]) (rest := []) (ci := 1) (C := RX1) (T := TX1) (N := 17) Z X (c_X1_tells l g a bk pn hd ph ot wi ik th P O K kd lf ch be gi mrr0 (nI (waysC P P 256)) ) gX1_symmetries_X1_tells rfl (by decide +kernel) ⟨Nat.le_of_ble_eq_true rfl, Nat.le_of_ble_eq_true rfl⟩ rfl rfl rfl rfl hl.1 (Nat.le_of_ble_eq_true rfl) dX1_symmetries_9 ⟨Nat.zero_le _, Nat.zero_le _⟩ (fun r1 ur1 H locs hrr1 X => ?_)
  obtain ⟨rfl, rfl⟩ : ur1 = (bk, nI pn, hd, ph, ot, wi, ik, 0, P, O, K, kd, lf, ch, be, gi, mrr0) ∧ r1 = nI (waysC P P 256) := hrr1
  have X : zh g A (oM g a (bk, nI pn, hd, ph, ot, wi, ik, 0, P, O, K, kd, lf, ch, be, gi, mrr0)) s.heap H locs := X
  exact zreti Z hr hlk (bk, nI pn, hd, ph, ot, wi, ik, 0, P, O, K, kd, lf, ch, be, gi, mrr0) X dX1_symmetries_12 rfl (⟨_, rfl, rfl⟩)
