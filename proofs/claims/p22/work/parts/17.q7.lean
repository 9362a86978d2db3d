/-! the class: what may throw -/
theorem zclamp {x : Int32} (h : ¬ x < 0) : x = nI x.toNatClampNeg := by
  obtain ⟨j, hj, e⟩ := nI_of h
  rw [e, nI_clamp hj]
theorem zclamp_lt {x : Int32} (h : ¬ x < 0) {n : Nat} (hn : n < 2 ^ 31) (h2 : ¬ nI n ≤ x) : x.toNatClampNeg < n := by
  obtain ⟨j, hj, e⟩ := nI_of h
  rw [e, nI_clamp hj]
  rw [e] at h2
  exact Nat.not_le.mp (fun q => h2 (nI_le q hj))
theorem zplac {x : Int32} (h1 : ¬ x < 1) (h4 : x ≤ 4) : x = nI x.toNatClampNeg ∧ 1 ≤ x.toNatClampNeg ∧ x.toNatClampNeg ≤ 4 := by
  have h0 : ¬ x < 0 := fun q => h1 (Int32.lt_trans q (by decide))
  obtain ⟨j, hj, e⟩ := nI_of h0
  rw [e, nI_clamp hj]
  rw [e] at h1 h4
  refine ⟨rfl, Nat.not_lt.mp (fun q => h1 (nI_lt q (by decide))), Nat.not_lt.mp (fun q => absurd h4 (nI_ge q hj))⟩
def qPA (d : Int64) (s : Int32) : Nat → Int32
  | 0 => 0
  | k + 1 => if qHas (qOne d (nI k)) s = true then qPA d s k ||| qBit (nI k) else qPA d s k
def qAt (f : Int32) (d : Int64) (s : Int32) : Int32 := if qHas f s = true then qPA d s 4 else -1
theorem inw_X0_give : ∀ w ∈ wsX00, w ∈ wsX0_give := by decide +kernel
theorem lk_X0_give_29 : Cond.fieldLink RX0 29 "Quarterboard" "stage" "I" ∈ wsX0_give := by decide +kernel
theorem lk_X0_give_35 : Cond.fieldLink RX0 35 "Quarterboard" "used" "I" ∈ wsX0_give := by decide +kernel
theorem lk_X0_give_9 : Cond.fieldLink RX0 9 "Quarterboard" "held" "I" ∈ wsX0_give := by decide +kernel
theorem lk_X0_give_32 : Cond.fieldLink RX0 32 "Quarterboard" "player" "I" ∈ wsX0_give := by decide +kernel
theorem th_X0_give_46 : Cond.classLink "Quarterboard" 46 eIO ∈ wsX0_give := by decide +kernel
theorem ti_X0_give_46 : Cond.initialized eIO ∈ wsX0_give := by decide +kernel
theorem ta_X0_give_46 : ∀ w ∈ (vx_atS "Quarterboard" 50 eIO zNm).filter goodWord, w ∈ wsX0_give := by decide +kernel
theorem th_X0_give_53 : Cond.classLink "Quarterboard" 53 eIS ∈ wsX0_give := by decide +kernel
theorem ti_X0_give_53 : Cond.initialized eIS ∈ wsX0_give := by decide +kernel
theorem ta_X0_give_53 : ∀ w ∈ (vx_atS "Quarterboard" 57 eIS zNm).filter goodWord, w ∈ wsX0_give := by decide +kernel
def P_X0_give (q0 q1 q2 q3 q4 q5 q6 : Int32) (q7 : Int64) (q8 q9 : Int32) (q10 : Int64) (pn : Int32) : Int32 → QS → Prop := fun r u => (qNum pn = true ∧ q1 = 0 ∧ qHas q6 pn = false) ∧ u = (q0, 1, 1 - q2, pn, q4, q5, q6, q7, q8, q9, q10) ∧ r = 1 - q2
def PX_X0_give (q0 q1 q2 q3 q4 q5 q6 : Int32) (q7 : Int64) (q8 q9 : Int32) (q10 : Int64) (pn : Int32) : String → Prop := fun E => (E = eIO ∧ qNum pn = false) ∨ (E = eIS ∧ qNum pn = true ∧ (¬ q1 = 0 ∨ qHas q6 pn = true))
set_option maxHeartbeats 4000000 in
set_option maxRecDepth 100000 in
theorem c_X0_give (l : Launch) (g : zG) (bL h : Nat) (q0 q1 q2 q3 q4 q5 q6 : Int32) (q7 : Int64) (q8 q9 : Int32) (q10 : Int64) (pn : Int32) (htr : l.stackTraces = false)  : zMX l yX0_give wsX0_give 30 1000 g [.ref h, .int pn] (oQ h (q0, q1, q2, q3, q4, q5, q6, q7, q8, q9, q10)) (zEL bL) (zQi g (P_X0_give q0 q1 q2 q3 q4 q5 q6 q7 q8 q9 q10 pn) (oQ h)) (PX_X0_give q0 q1 q2 q3 q4 q5 q6 q7 q8 q9 q10 pn) := by
  refine zstartX (cc := cX0_give) (maxL := 2) (ret := (some .int)) (own := RX0) rfl (by decide) rfl zStL (Nat.le_of_ble_eq_true rfl) ?_
  intro p e s m below meth c A Z hr hlk ht H locs X ls hl
  have hx := Z.1.1
  have hb := Z.1.2.1
  have hin : ∀ w ∈ wsX00, w ∈ wsX0_give := inw_X0_give
  have hl : lv_has ls 2 [(0, .ref h), (1, .int pn)] := hl
  have X : zh g A (oQ h (q0, q1, q2, q3, q4, q5, q6, q7, q8, q9, q10)) s.heap H locs := X
  refine lv_iload_n hx hb dX0_give_0 rfl (lv_at hl 1 rfl) ?_
  refine zcallSi (n := 1) (As := [.int pn]) (rest := []) Z X (c_X0_isNumber l g pn) gX0_give_X0_isNumber rfl (by decide +kernel) ⟨by show _ ≤ 30; omega, by show _ ≤ 1000; omega⟩ rfl rfl hl.1 (Nat.le_of_ble_eq_true rfl) dX0_give_1 ⟨Nat.zero_le _, Nat.zero_le _⟩ (fun r0 H locs hrr0 X => ?_)
  obtain rfl : r0 = zb (qNum pn) := hrr0
  refine lv_if_ne (tgt := 17) hx hb dX0_give_4 (by decide) (fun c2 => ?_) (fun c2 => ?_)
  · have qc2 := c2
    have hn : qNum pn = true := zb_n0.mp c2
    refine lv_aload_n hx hb dX0_give_17 rfl (lv_at hl 0 rfl) ?_
    refine zget (fs := [.int q0, .int q1, .int q2, .int q3, .int q4, .int q5, .int q6, .long q7, .int q8, .int q9, .long q10]) (v := .int q1) Z hin X (ci := 0) (C := RX0) (T := TX0) (N := 11) rfl rfl 1 (by decide) lk_X0_give_29 rfl dX0_give_18 ?_
    refine lv_if_eq (tgt := 34) hx hb dX0_give_21 (by decide) (fun c3 => ?_) (fun c3 => ?_)
    · have qc3 := c3
      have hs : q1 = 0 := c3
      refine lv_aload_n hx hb dX0_give_34 rfl (lv_at hl 0 rfl) ?_
      refine zget (fs := [.int q0, .int q1, .int q2, .int q3, .int q4, .int q5, .int q6, .long q7, .int q8, .int q9, .long q10]) (v := .int q6) Z hin X (ci := 0) (C := RX0) (T := TX0) (N := 11) rfl rfl 6 (by decide) lk_X0_give_35 rfl dX0_give_35 ?_
      refine lv_iload_n hx hb dX0_give_38 rfl (lv_at hl 1 rfl) ?_
      refine zcallSi (n := 2) (As := [.int q6, .int pn]) (rest := []) Z X (c_X0_has l g q6 pn) gX0_give_X0_has rfl (by decide +kernel) ⟨by show _ ≤ 30; omega, by show _ ≤ 1000; omega⟩ rfl rfl hl.1 (Nat.le_of_ble_eq_true rfl) dX0_give_39 ⟨Nat.zero_le _, Nat.zero_le _⟩ (fun r3 H locs hrr3 X => ?_)
      obtain rfl : r3 = zb (qHas q6 pn) := hrr3
      refine lv_if_eq (tgt := 55) hx hb dX0_give_42 (by decide) (fun c5 => ?_) (fun c5 => ?_)
      · have qc5 := c5
        have hh : qHas q6 pn = false := zb_0.mp c5
        refine lv_aload_n hx hb dX0_give_55 rfl (lv_at hl 0 rfl) ?_
        refine lv_iload_n hx hb dX0_give_56 rfl (lv_at hl 1 rfl) ?_
        refine zput (ty := .int) (fs := [.int q0, .int q1, .int q2, .int q3, .int q4, .int q5, .int q6, .long q7, .int q8, .int q9, .long q10]) (v := .int pn) tyX0 tyX0_ok nmX0 Z hin X (ci := 0) (C := RX0) (T := TX0) (N := 11) rfl rfl 3 (by decide) lk_X0_give_9 rfl (by decide +kernel) rfl rfl (Nat.le_of_ble_eq_true rfl) dX0_give_57 (fun H locs X => ?_)
        have X : zh g A (oQ h (q0, q1, q2, pn, q4, q5, q6, q7, q8, q9, q10)) s.heap H locs := X
        refine lv_aload_n hx hb dX0_give_60 rfl (lv_at hl 0 rfl) ?_
        refine lv_iconst (v := (1 : Int32)) hx hb dX0_give_61 (by decide) ?_
        refine lv_aload_n hx hb dX0_give_62 rfl (lv_at hl 0 rfl) ?_
        refine zget (fs := [.int q0, .int q1, .int q2, .int pn, .int q4, .int q5, .int q6, .long q7, .int q8, .int q9, .long q10]) (v := .int q2) Z hin X (ci := 0) (C := RX0) (T := TX0) (N := 11) rfl rfl 2 (by decide) lk_X0_give_32 rfl dX0_give_63 ?_
        refine lv_isub hx hb dX0_give_66 ?_
        refine zput (ty := .int) (fs := [.int q0, .int q1, .int q2, .int pn, .int q4, .int q5, .int q6, .long q7, .int q8, .int q9, .long q10]) (v := .int ((1 : Int32) - q2)) tyX0 tyX0_ok nmX0 Z hin X (ci := 0) (C := RX0) (T := TX0) (N := 11) rfl rfl 2 (by decide) lk_X0_give_32 rfl (by decide +kernel) rfl rfl (Nat.le_of_ble_eq_true rfl) dX0_give_67 (fun H locs X => ?_)
        have X : zh g A (oQ h (q0, q1, (1 : Int32) - q2, pn, q4, q5, q6, q7, q8, q9, q10)) s.heap H locs := X
        refine lv_aload_n hx hb dX0_give_70 rfl (lv_at hl 0 rfl) ?_
        refine lv_iconst (v := (1 : Int32)) hx hb dX0_give_71 (by decide) ?_
        refine zput (ty := .int) (fs := [.int q0, .int q1, .int ((1 : Int32) - q2), .int pn, .int q4, .int q5, .int q6, .long q7, .int q8, .int q9, .long q10]) (v := .int (1 : Int32)) tyX0 tyX0_ok nmX0 Z hin X (ci := 0) (C := RX0) (T := TX0) (N := 11) rfl rfl 1 (by decide) lk_X0_give_29 rfl (by decide +kernel) rfl rfl (Nat.le_of_ble_eq_true rfl) dX0_give_72 (fun H locs X => ?_)
        have X : zh g A (oQ h (q0, (1 : Int32), (1 : Int32) - q2, pn, q4, q5, q6, q7, q8, q9, q10)) s.heap H locs := X
        refine lv_aload_n hx hb dX0_give_75 rfl (lv_at hl 0 rfl) ?_
        refine zget (fs := [.int q0, .int (1 : Int32), .int ((1 : Int32) - q2), .int pn, .int q4, .int q5, .int q6, .long q7, .int q8, .int q9, .long q10]) (v := .int ((1 : Int32) - q2)) Z hin X (ci := 0) (C := RX0) (T := TX0) (N := 11) rfl rfl 2 (by decide) lk_X0_give_32 rfl dX0_give_76 ?_
        exact vx_ret (W.widen (k := 1) (n := 6) (Nat.zero_le _) (Nat.zero_le _) (zreti Z hr hlk (q0, (1 : Int32), (1 : Int32) - q2, pn, q4, q5, q6, q7, q8, q9, q10) X dX0_give_79 rfl (⟨⟨hn, hs, hh⟩, rfl, rfl⟩)))
      · have qc5 := c5
        have hh : qHas q6 pn = true := zb_n0.mp c5
        exact zthrow (is := 62) (text := "the piece is on the board") Z htr ht hlk X hl.1 (by decide +kernel) th_X0_give_53 ti_X0_give_53 (by decide +kernel) ta_X0_give_53 zB_57 zG_57 dX0_give_45 dX0_give_48 dX0_give_49 dX0_give_51 dX0_give_54 (Nat.le_of_ble_eq_true rfl) (Nat.le_of_ble_eq_true rfl) (Nat.le_refl _) (Nat.le_refl _) (Or.inr ⟨rfl, hn, Or.inr hh⟩)
    · have qc3 := c3
      have hs : ¬ q1 = 0 := c3
      exact zthrow (is := 55) (text := "no piece is to be given") Z htr ht hlk X hl.1 (by decide +kernel) th_X0_give_53 ti_X0_give_53 (by decide +kernel) ta_X0_give_53 zB_57 zG_57 dX0_give_24 dX0_give_27 dX0_give_28 dX0_give_30 dX0_give_33 (Nat.le_of_ble_eq_true rfl) (Nat.le_of_ble_eq_true rfl) (Nat.le_refl _) (Nat.le_refl _) (Or.inr ⟨rfl, hn, Or.inl hs⟩)
  · have qc2 := c2
    have hn : qNum pn = false := zb_0.mp c2
    exact zthrow (is := 48) (text := "no such piece") Z htr ht hlk X hl.1 (by decide +kernel) th_X0_give_46 ti_X0_give_46 (by decide +kernel) ta_X0_give_46 zB_50 zG_50 dX0_give_7 dX0_give_10 dX0_give_11 dX0_give_13 dX0_give_16 (Nat.le_of_ble_eq_true rfl) (Nat.le_of_ble_eq_true rfl) (Nat.le_refl _) (Nat.le_refl _) (Or.inl ⟨rfl, hn⟩)
theorem inw_X0_winning : ∀ w ∈ wsX00, w ∈ wsX0_winning := by decide +kernel
theorem lk_X0_winning_29 : Cond.fieldLink RX0 29 "Quarterboard" "stage" "I" ∈ wsX0_winning := by decide +kernel
theorem lk_X0_winning_35 : Cond.fieldLink RX0 35 "Quarterboard" "used" "I" ∈ wsX0_winning := by decide +kernel
theorem th_X0_winning_46 : Cond.classLink "Quarterboard" 46 eIO ∈ wsX0_winning := by decide +kernel
theorem ti_X0_winning_46 : Cond.initialized eIO ∈ wsX0_winning := by decide +kernel
theorem ta_X0_winning_46 : ∀ w ∈ (vx_atS "Quarterboard" 50 eIO zNm).filter goodWord, w ∈ wsX0_winning := by decide +kernel
theorem th_X0_winning_53 : Cond.classLink "Quarterboard" 53 eIS ∈ wsX0_winning := by decide +kernel
theorem ti_X0_winning_53 : Cond.initialized eIS ∈ wsX0_winning := by decide +kernel
theorem ta_X0_winning_53 : ∀ w ∈ (vx_atS "Quarterboard" 57 eIS zNm).filter goodWord, w ∈ wsX0_winning := by decide +kernel
def P_X0_winning (q0 q1 q2 q3 q4 q5 q6 : Int32) (q7 : Int64) (q8 q9 : Int32) (q10 : Int64) (pn : Int32) : Int32 → QS → Prop := fun r u => (qNum pn = true ∧ ¬ q1 = 2 ∧ qHas q6 pn = false) ∧ u = (q0, q1, q2, q3, q4, q5, q6, q7, q8, q9, q10) ∧ r = qWin q5 q7 q0 pn
def PX_X0_winning (q0 q1 q2 q3 q4 q5 q6 : Int32) (q7 : Int64) (q8 q9 : Int32) (q10 : Int64) (pn : Int32) : String → Prop := fun E => (E = eIO ∧ qNum pn = false) ∨ (E = eIS ∧ qNum pn = true ∧ (q1 = 2 ∨ qHas q6 pn = true))
set_option maxHeartbeats 4000000 in
set_option maxRecDepth 100000 in
theorem c_X0_winning (l : Launch) (g : zG) (bL h : Nat) (q0 q1 q2 q3 q4 q5 q6 : Int32) (q7 : Int64) (q8 q9 : Int32) (q10 : Int64) (pn : Int32) (htr : l.stackTraces = false)  : zMX l yX0_winning wsX0_winning 30 1000 g [.ref h, .int pn] (oQ h (q0, q1, q2, q3, q4, q5, q6, q7, q8, q9, q10)) (zEL bL) (zQi g (P_X0_winning q0 q1 q2 q3 q4 q5 q6 q7 q8 q9 q10 pn) (oQ h)) (PX_X0_winning q0 q1 q2 q3 q4 q5 q6 q7 q8 q9 q10 pn) := by
  refine zstartX (cc := cX0_winning) (maxL := 2) (ret := (some .int)) (own := RX0) rfl (by decide) rfl zStL (Nat.le_of_ble_eq_true rfl) ?_
  intro p e s m below meth c A Z hr hlk ht H locs X ls hl
  have hx := Z.1.1
  have hb := Z.1.2.1
  have hin : ∀ w ∈ wsX00, w ∈ wsX0_winning := inw_X0_winning
  have hl : lv_has ls 2 [(0, .ref h), (1, .int pn)] := hl
  have X : zh g A (oQ h (q0, q1, q2, q3, q4, q5, q6, q7, q8, q9, q10)) s.heap H locs := X
  refine lv_iload_n hx hb dX0_winning_0 rfl (lv_at hl 1 rfl) ?_
  refine zcallSi (n := 1) (As := [.int pn]) (rest := []) Z X (c_X0_isNumber l g pn) gX0_winning_X0_isNumber rfl (by decide +kernel) ⟨by show _ ≤ 30; omega, by show _ ≤ 1000; omega⟩ rfl rfl hl.1 (Nat.le_of_ble_eq_true rfl) dX0_winning_1 ⟨Nat.zero_le _, Nat.zero_le _⟩ (fun r0 H locs hrr0 X => ?_)
  obtain rfl : r0 = zb (qNum pn) := hrr0
  refine lv_if_ne (tgt := 17) hx hb dX0_winning_4 (by decide) (fun c2 => ?_) (fun c2 => ?_)
  · have qc2 := c2
    have hn : qNum pn = true := zb_n0.mp c2
    refine lv_aload_n hx hb dX0_winning_17 rfl (lv_at hl 0 rfl) ?_
    refine zget (fs := [.int q0, .int q1, .int q2, .int q3, .int q4, .int q5, .int q6, .long q7, .int q8, .int q9, .long q10]) (v := .int q1) Z hin X (ci := 0) (C := RX0) (T := TX0) (N := 11) rfl rfl 1 (by decide) lk_X0_winning_29 rfl dX0_winning_18 ?_
    refine lv_iconst (v := (2 : Int32)) hx hb dX0_winning_21 (by decide) ?_
    refine lv_icmp_ne (tgt := 35) hx hb dX0_winning_22 (by decide) (fun c3 => ?_) (fun c3 => ?_)
    · have qc3 := c3
      have hs : ¬ q1 = 2 := c3
      refine lv_aload_n hx hb dX0_winning_35 rfl (lv_at hl 0 rfl) ?_
      refine zget (fs := [.int q0, .int q1, .int q2, .int q3, .int q4, .int q5, .int q6, .long q7, .int q8, .int q9, .long q10]) (v := .int q6) Z hin X (ci := 0) (C := RX0) (T := TX0) (N := 11) rfl rfl 6 (by decide) lk_X0_winning_35 rfl dX0_winning_36 ?_
      refine lv_iload_n hx hb dX0_winning_39 rfl (lv_at hl 1 rfl) ?_
      refine zcallSi (n := 2) (As := [.int q6, .int pn]) (rest := []) Z X (c_X0_has l g q6 pn) gX0_winning_X0_has rfl (by decide +kernel) ⟨by show _ ≤ 30; omega, by show _ ≤ 1000; omega⟩ rfl rfl hl.1 (Nat.le_of_ble_eq_true rfl) dX0_winning_40 ⟨Nat.zero_le _, Nat.zero_le _⟩ (fun r3 H locs hrr3 X => ?_)
      obtain rfl : r3 = zb (qHas q6 pn) := hrr3
      refine lv_if_eq (tgt := 56) hx hb dX0_winning_43 (by decide) (fun c5 => ?_) (fun c5 => ?_)
      · have qc5 := c5
        have hh : qHas q6 pn = false := zb_0.mp c5
        refine lv_aload_n hx hb dX0_winning_56 rfl (lv_at hl 0 rfl) ?_
        refine lv_iload_n hx hb dX0_winning_57 rfl (lv_at hl 1 rfl) ?_
        refine zcallVi (n := 1) (As := [.int pn]) (rest := []) (ci := 0) (C := RX0) (T := TX0) (N := 11) Z X (c_X0_winningSquares l g bL h q0 q1 q2 q3 q4 q5 q6 q7 q8 q9 q10 pn) gX0_winning_X0_winningSquares rfl (by decide +kernel) ⟨by show _ ≤ 30; omega, by show _ ≤ 1000; omega⟩ rfl rfl rfl rfl hl.1 (Nat.le_of_ble_eq_true rfl) dX0_winning_58 ⟨Nat.zero_le _, Nat.zero_le _⟩ (fun r5 ur5 H locs hrr5 X => ?_)
        obtain ⟨rfl, rfl⟩ : ur5 = (q0, q1, q2, q3, q4, q5, q6, q7, q8, q9, q10) ∧ r5 = qWin q5 q7 q0 pn := hrr5
        have X : zh g A (oQ h (q0, q1, q2, q3, q4, q5, q6, q7, q8, q9, q10)) s.heap H locs := X
        exact vx_ret (W.widen (k := 1) (n := 6) (Nat.zero_le _) (Nat.zero_le _) (zreti Z hr hlk (q0, q1, q2, q3, q4, q5, q6, q7, q8, q9, q10) X dX0_winning_61 rfl (⟨⟨hn, hs, hh⟩, rfl, rfl⟩)))
      · have qc5 := c5
        have hh : qHas q6 pn = true := zb_n0.mp c5
        exact zthrow (is := 62) (text := "the piece is on the board") Z htr ht hlk X hl.1 (by decide +kernel) th_X0_winning_53 ti_X0_winning_53 (by decide +kernel) ta_X0_winning_53 zB_57 zG_57 dX0_winning_46 dX0_winning_49 dX0_winning_50 dX0_winning_52 dX0_winning_55 (Nat.le_of_ble_eq_true rfl) (Nat.le_of_ble_eq_true rfl) (Nat.le_refl _) (Nat.le_refl _) (Or.inr ⟨rfl, hn, Or.inr hh⟩)
    · have qc3 := c3
      have hs : q1 = 2 := c3
      exact zthrow (is := 95) (text := "the game is over") Z htr ht hlk X hl.1 (by decide +kernel) th_X0_winning_53 ti_X0_winning_53 (by decide +kernel) ta_X0_winning_53 zB_57 zG_57 dX0_winning_25 dX0_winning_28 dX0_winning_29 dX0_winning_31 dX0_winning_34 (Nat.le_of_ble_eq_true rfl) (Nat.le_of_ble_eq_true rfl) (Nat.le_refl _) (Nat.le_refl _) (Or.inr ⟨rfl, hn, Or.inl hs⟩)
  · have qc2 := c2
    have hn : qNum pn = false := zb_0.mp c2
    exact zthrow (is := 48) (text := "no such piece") Z htr ht hlk X hl.1 (by decide +kernel) th_X0_winning_46 ti_X0_winning_46 (by decide +kernel) ta_X0_winning_46 zB_50 zG_50 dX0_winning_7 dX0_winning_10 dX0_winning_11 dX0_winning_13 dX0_winning_16 (Nat.le_of_ble_eq_true rfl) (Nat.le_of_ble_eq_true rfl) (Nat.le_refl _) (Nat.le_refl _) (Or.inl ⟨rfl, hn⟩)
theorem inw_X0_safe : ∀ w ∈ wsX00, w ∈ wsX0_safe := by decide +kernel
theorem lk_X0_safe_29 : Cond.fieldLink RX0 29 "Quarterboard" "stage" "I" ∈ wsX0_safe := by decide +kernel
theorem th_X0_safe_53 : Cond.classLink "Quarterboard" 53 eIS ∈ wsX0_safe := by decide +kernel
theorem ti_X0_safe_53 : Cond.initialized eIS ∈ wsX0_safe := by decide +kernel
theorem ta_X0_safe_53 : ∀ w ∈ (vx_atS "Quarterboard" 57 eIS zNm).filter goodWord, w ∈ wsX0_safe := by decide +kernel
def P_X0_safe (q0 q1 q2 q3 q4 q5 q6 : Int32) (q7 : Int64) (q8 q9 : Int32) (q10 : Int64) : Int32 → QS → Prop := fun r u => (q1 = 0) ∧ u = (q0, q1, q2, q3, q4, q5, q6, q7, q8, q9, q10) ∧ r = qSafe q5 q6 q7 q0
def PX_X0_safe (q0 q1 q2 q3 q4 q5 q6 : Int32) (q7 : Int64) (q8 q9 : Int32) (q10 : Int64) : String → Prop := fun E => E = eIS ∧ ¬ q1 = 0
set_option maxHeartbeats 4000000 in
set_option maxRecDepth 100000 in
theorem c_X0_safe (l : Launch) (g : zG) (bL h : Nat) (q0 q1 q2 q3 q4 q5 q6 : Int32) (q7 : Int64) (q8 q9 : Int32) (q10 : Int64)  (htr : l.stackTraces = false)  : zMX l yX0_safe wsX0_safe 30 1000 g [.ref h] (oQ h (q0, q1, q2, q3, q4, q5, q6, q7, q8, q9, q10)) (zEL bL) (zQi g (P_X0_safe q0 q1 q2 q3 q4 q5 q6 q7 q8 q9 q10) (oQ h)) (PX_X0_safe q0 q1 q2 q3 q4 q5 q6 q7 q8 q9 q10) := by
  refine zstartX (cc := cX0_safe) (maxL := 1) (ret := (some .int)) (own := RX0) rfl (by decide) rfl zStL (Nat.le_of_ble_eq_true rfl) ?_
  intro p e s m below meth c A Z hr hlk ht H locs X ls hl
  have hx := Z.1.1
  have hb := Z.1.2.1
  have hin : ∀ w ∈ wsX00, w ∈ wsX0_safe := inw_X0_safe
  have hl : lv_has ls 1 [(0, .ref h)] := hl
  have X : zh g A (oQ h (q0, q1, q2, q3, q4, q5, q6, q7, q8, q9, q10)) s.heap H locs := X
  refine lv_aload_n hx hb dX0_safe_0 rfl (lv_at hl 0 rfl) ?_
  refine zget (fs := [.int q0, .int q1, .int q2, .int q3, .int q4, .int q5, .int q6, .long q7, .int q8, .int q9, .long q10]) (v := .int q1) Z hin X (ci := 0) (C := RX0) (T := TX0) (N := 11) rfl rfl 1 (by decide) lk_X0_safe_29 rfl dX0_safe_1 ?_
  refine lv_if_eq (tgt := 17) hx hb dX0_safe_4 (by decide) (fun c1 => ?_) (fun c1 => ?_)
  · have qc1 := c1
    have hs : q1 = 0 := c1
    refine lv_aload_n hx hb dX0_safe_17 rfl (lv_at hl 0 rfl) ?_
    refine zcallVi (n := 0) (As := []) (rest := []) (ci := 0) (C := RX0) (T := TX0) (N := 11) Z X (c_X0_safePieces l g bL h q0 q1 q2 q3 q4 q5 q6 q7 q8 q9 q10 ) gX0_safe_X0_safePieces rfl (by decide +kernel) ⟨by show _ ≤ 30; omega, by show _ ≤ 1000; omega⟩ rfl rfl rfl rfl hl.1 (Nat.le_of_ble_eq_true rfl) dX0_safe_18 ⟨Nat.zero_le _, Nat.zero_le _⟩ (fun r1 ur1 H locs hrr1 X => ?_)
    obtain ⟨rfl, rfl⟩ : ur1 = (q0, q1, q2, q3, q4, q5, q6, q7, q8, q9, q10) ∧ r1 = qSafe q5 q6 q7 q0 := hrr1
    have X : zh g A (oQ h (q0, q1, q2, q3, q4, q5, q6, q7, q8, q9, q10)) s.heap H locs := X
    exact vx_ret (W.widen (k := 1) (n := 6) (Nat.zero_le _) (Nat.zero_le _) (zreti Z hr hlk (q0, q1, q2, q3, q4, q5, q6, q7, q8, q9, q10) X dX0_safe_21 rfl (⟨hs, rfl, rfl⟩)))
  · have qc1 := c1
    have hs : ¬ q1 = 0 := c1
    exact zthrow (is := 55) (text := "no piece is to be given") Z htr ht hlk X hl.1 (by decide +kernel) th_X0_safe_53 ti_X0_safe_53 (by decide +kernel) ta_X0_safe_53 zB_57 zG_57 dX0_safe_7 dX0_safe_10 dX0_safe_11 dX0_safe_13 dX0_safe_16 (Nat.le_of_ble_eq_true rfl) (Nat.le_of_ble_eq_true rfl) (Nat.le_refl _) (Nat.le_refl _) (⟨rfl, hs⟩)
theorem inw_X0_pieceAt : ∀ w ∈ wsX00, w ∈ wsX0_pieceAt := by decide +kernel
theorem lk_X0_pieceAt_16 : Cond.fieldLink RX0 16 "Quarterboard" "filled" "I" ∈ wsX0_pieceAt := by decide +kernel
theorem lk_X0_pieceAt_38 : Cond.fieldLink RX0 38 "Quarterboard" "digits" "J" ∈ wsX0_pieceAt := by decide +kernel
theorem th_X0_pieceAt_46 : Cond.classLink "Quarterboard" 46 eIO ∈ wsX0_pieceAt := by decide +kernel
theorem ti_X0_pieceAt_46 : Cond.initialized eIO ∈ wsX0_pieceAt := by decide +kernel
theorem ta_X0_pieceAt_46 : ∀ w ∈ (vx_atS "Quarterboard" 50 eIO zNm).filter goodWord, w ∈ wsX0_pieceAt := by decide +kernel
def P_X0_pieceAt (q0 q1 q2 q3 q4 q5 q6 : Int32) (q7 : Int64) (q8 q9 : Int32) (q10 : Int64) (sq : Int32) : Int32 → QS → Prop := fun r u => (qNum sq = true) ∧ u = (q0, q1, q2, q3, q4, q5, q6, q7, q8, q9, q10) ∧ r = qAt q5 q7 sq
def PX_X0_pieceAt (q0 q1 q2 q3 q4 q5 q6 : Int32) (q7 : Int64) (q8 q9 : Int32) (q10 : Int64) (sq : Int32) : String → Prop := fun E => E = eIO ∧ qNum sq = false
set_option maxHeartbeats 4000000 in
set_option maxRecDepth 100000 in
theorem c_X0_pieceAt (l : Launch) (g : zG) (bL h : Nat) (q0 q1 q2 q3 q4 q5 q6 : Int32) (q7 : Int64) (q8 q9 : Int32) (q10 : Int64) (sq : Int32) (htr : l.stackTraces = false)  : zMX l yX0_pieceAt wsX0_pieceAt 30 1000 g [.ref h, .int sq] (oQ h (q0, q1, q2, q3, q4, q5, q6, q7, q8, q9, q10)) (zEL bL) (zQi g (P_X0_pieceAt q0 q1 q2 q3 q4 q5 q6 q7 q8 q9 q10 sq) (oQ h)) (PX_X0_pieceAt q0 q1 q2 q3 q4 q5 q6 q7 q8 q9 q10 sq) := by
  refine zstartX (cc := cX0_pieceAt) (maxL := 4) (ret := (some .int)) (own := RX0) rfl (by decide) rfl zStL (Nat.le_of_ble_eq_true rfl) ?_
  intro p e s m below meth c A Z hr hlk ht H locs X ls hl
  have hx := Z.1.1
  have hb := Z.1.2.1
  have hin : ∀ w ∈ wsX00, w ∈ wsX0_pieceAt := inw_X0_pieceAt
  have hl : lv_has ls 4 [(0, .ref h), (1, .int sq)] := hl
  have X : zh g A (oQ h (q0, q1, q2, q3, q4, q5, q6, q7, q8, q9, q10)) s.heap H locs := X
  refine lv_iload_n hx hb dX0_pieceAt_0 rfl (lv_at hl 1 rfl) ?_
  refine zcallSi (n := 1) (As := [.int sq]) (rest := []) Z X (c_X0_isNumber l g sq) gX0_pieceAt_X0_isNumber rfl (by decide +kernel) ⟨by show _ ≤ 30; omega, by show _ ≤ 1000; omega⟩ rfl rfl hl.1 (Nat.le_of_ble_eq_true rfl) dX0_pieceAt_1 ⟨Nat.zero_le _, Nat.zero_le _⟩ (fun r0 H locs hrr0 X => ?_)
  obtain rfl : r0 = zb (qNum sq) := hrr0
  refine lv_if_ne (tgt := 17) hx hb dX0_pieceAt_4 (by decide) (fun c2 => ?_) (fun c2 => ?_)
  · have qc2 := c2
    have hn : qNum sq = true := zb_n0.mp c2
    refine lv_aload_n hx hb dX0_pieceAt_17 rfl (lv_at hl 0 rfl) ?_
    refine zget (fs := [.int q0, .int q1, .int q2, .int q3, .int q4, .int q5, .int q6, .long q7, .int q8, .int q9, .long q10]) (v := .int q5) Z hin X (ci := 0) (C := RX0) (T := TX0) (N := 11) rfl rfl 5 (by decide) lk_X0_pieceAt_16 rfl dX0_pieceAt_18 ?_
    refine lv_iload_n hx hb dX0_pieceAt_21 rfl (lv_at hl 1 rfl) ?_
    refine zcallSi (n := 2) (As := [.int q5, .int sq]) (rest := []) Z X (c_X0_has l g q5 sq) gX0_pieceAt_X0_has rfl (by decide +kernel) ⟨by show _ ≤ 30; omega, by show _ ≤ 1000; omega⟩ rfl rfl hl.1 (Nat.le_of_ble_eq_true rfl) dX0_pieceAt_22 ⟨Nat.zero_le _, Nat.zero_le _⟩ (fun r2 H locs hrr2 X => ?_)
    obtain rfl : r2 = zb (qHas q5 sq) := hrr2
    refine lv_if_ne (tgt := 30) hx hb dX0_pieceAt_25 (by decide) (fun c4 => ?_) (fun c4 => ?_)
    · have qc4 := c4
      have hh : qHas q5 sq = true := zb_n0.mp c4
      refine lv_iconst (v := (0 : Int32)) hx hb dX0_pieceAt_30 (by decide) ?_
      refine lv_istore_n (lv' := [(2, .int (0 : Int32)), (0, .ref h), (1, .int sq)]) hx hb dX0_pieceAt_31 rfl hl (by decide) rfl (fun ls hl => ?_)
      refine lv_iconst (v := (0 : Int32)) hx hb dX0_pieceAt_32 (by decide) ?_
      refine lv_istore_n (lv' := [(3, .int (0 : Int32)), (2, .int (0 : Int32)), (0, .ref h), (1, .int sq)]) hx hb dX0_pieceAt_33 rfl hl (by decide) rfl (fun ls hl => ?_)
      have cut34 : ∀ (n34 : Nat), ∀ (k : Nat) (acc : Int32), (k ≤ 4) → (acc = qPA q7 sq k) → (5 - k ≤ n34) → ∀ (H : Heap) (locs : List Loc) (ls : Array Slot), zh g A (oQ h (q0, q1, q2, q3, q4, q5, q6, q7, q8, q9, q10)) s.heap H locs → lv_has ls 4 [(3, .int (nI k)), (2, .int acc), (0, .ref h), (1, .int sq)] → W p l e { frames := 30, cells := 1, slots := 6, locals := 1000 } s m ([.ref h, .int sq] : List Value).toArray below meth c H locs 0 0 (vx_MQ below ((zQi g (P_X0_pieceAt q0 q1 q2 q3 q4 q5 q6 q7 q8 q9 q10 sq) (oQ h)) A) (zXC g (PX_X0_pieceAt q0 q1 q2 q3 q4 q5 q6 q7 q8 q9 q10 sq) (oQ h (q0, q1, q2, q3, q4, q5, q6, q7, q8, q9, q10)) A) ([.ref h, .int sq] : List Value).toArray s 1 6 A) (F0 m 34 ls []) := by
        intro n34
        induction n34 with
        | zero =>
          intro k acc hk hacc hm34
          exact absurd hm34 (by omega)
        | succ n34 ih34 =>
          intro k acc hk hacc hm34 H locs ls X hl
          refine lv_iload_n hx hb dX0_pieceAt_34 rfl (lv_at hl 0 rfl) ?_
          refine lv_iconst (v := (4 : Int32)) hx hb dX0_pieceAt_35 (by decide) ?_
          refine lv_icmp_ge (tgt := 66) hx hb dX0_pieceAt_36 (by decide) (fun c5 => ?_) (fun c5 => ?_)
          · have qc5 := c5
            have c5n : 4 ≤ k := zn_let (by omega) (by omega) c5
            refine lv_iload_n hx hb dX0_pieceAt_66 rfl (lv_at hl 1 rfl) ?_
            exact vx_ret (W.widen (k := 1) (n := 6) (Nat.zero_le _) (Nat.zero_le _) (zreti Z hr hlk (q0, q1, q2, q3, q4, q5, q6, q7, q8, q9, q10) X dX0_pieceAt_67 rfl (⟨hn, rfl, by rw [hacc, show k = 4 by omega]; simp only [qAt, hh, decide_true, decide_false, Bool.and_true, Bool.and_false, Bool.true_and, Bool.false_and, not_true_eq_false, not_false_eq_true, Bool.not_true, Bool.not_false, if_true, if_false, and_true, true_and, and_false, false_and, Bool.false_eq_true, Bool.true_eq_false, eq_self]⟩)))
          · have qc5 := c5
            have c5n : ¬ 4 ≤ k := zn_len (by omega) (by omega) c5
            refine lv_aload_n hx hb dX0_pieceAt_39 rfl (lv_at hl 2 rfl) ?_
            refine zget (fs := [.int q0, .int q1, .int q2, .int q3, .int q4, .int q5, .int q6, .long q7, .int q8, .int q9, .long q10]) (v := .long q7) Z hin X (ci := 0) (C := RX0) (T := TX0) (N := 11) rfl rfl 7 (by decide) lk_X0_pieceAt_38 rfl dX0_pieceAt_40 ?_
            refine lv_iload_n hx hb dX0_pieceAt_43 rfl (lv_at hl 0 rfl) ?_
            refine zcallSi (n := 2) (As := [.long q7, .int (nI k)]) (rest := []) Z X (c_X0_withOne l g q7 (nI k)) gX0_pieceAt_X0_withOne rfl (by decide +kernel) ⟨by show _ ≤ 30; omega, by show _ ≤ 1000; omega⟩ rfl rfl hl.1 (Nat.le_of_ble_eq_true rfl) dX0_pieceAt_44 ⟨Nat.zero_le _, Nat.zero_le _⟩ (fun r5 H locs hrr5 X => ?_)
            obtain rfl : r5 = qOne q7 (nI k) := hrr5
            refine lv_iload_n hx hb dX0_pieceAt_47 rfl (lv_at hl 3 rfl) ?_
            refine zcallSi (n := 2) (As := [.int (qOne q7 (nI k)), .int sq]) (rest := []) Z X (c_X0_has l g (qOne q7 (nI k)) sq) gX0_pieceAt_X0_has rfl (by decide +kernel) ⟨by show _ ≤ 30; omega, by show _ ≤ 1000; omega⟩ rfl rfl hl.1 (Nat.le_of_ble_eq_true rfl) dX0_pieceAt_48 ⟨Nat.zero_le _, Nat.zero_le _⟩ (fun r6 H locs hrr6 X => ?_)
            obtain rfl : r6 = zb (qHas (qOne q7 (nI k)) sq) := hrr6
            refine lv_if_eq (tgt := 60) hx hb dX0_pieceAt_51 (by decide) (fun c8 => ?_) (fun c8 => ?_)
            · have qc8 := c8
              have hb1 : qHas (qOne q7 (nI k)) sq = false := zb_0.mp c8
              refine lv_iinc (v := nI (k + 1)) (lv' := [(3, .int (nI (k + 1))), (2, .int acc), (0, .ref h), (1, .int sq)]) hx hb dX0_pieceAt_60 hl (k := 0) rfl (zi_inc k) (by decide) rfl (fun ls hl => ?_)
              refine lv_goto (tgt := 34) hx hb dX0_pieceAt_63 (by decide) ?_
              exact ih34 (k + 1) acc (by first | assumption | omega) (by rw [hacc]; simp only [qPA, qBit, hb1, decide_true, decide_false, Bool.and_true, Bool.and_false, Bool.true_and, Bool.false_and, not_true_eq_false, not_false_eq_true, Bool.not_true, Bool.not_false, if_true, if_false, and_true, true_and, and_false, false_and, Bool.false_eq_true, Bool.true_eq_false, eq_self]) (by omega) H locs ls X (lv_sub hl [0, 1, 2, 3] rfl)
            · have qc8 := c8
              have hb1 : qHas (qOne q7 (nI k)) sq = true := zb_n0.mp c8
              refine lv_iload_n hx hb dX0_pieceAt_54 rfl (lv_at hl 1 rfl) ?_
              refine lv_iconst (v := (1 : Int32)) hx hb dX0_pieceAt_55 (by decide) ?_
              refine lv_iload_n hx hb dX0_pieceAt_56 rfl (lv_at hl 0 rfl) ?_
              refine lv_ishl hx hb dX0_pieceAt_57 ?_
              refine lv_ior hx hb dX0_pieceAt_58 ?_
              refine lv_topi (fun x9 ex9 => ?_)
              refine lv_istore_n (lv' := [(2, .int x9), (3, .int (nI k)), (0, .ref h), (1, .int sq)]) hx hb dX0_pieceAt_59 rfl hl (by decide) rfl (fun ls hl => ?_)
              refine lv_iinc (v := nI (k + 1)) (lv' := [(3, .int (nI (k + 1))), (2, .int x9), (0, .ref h), (1, .int sq)]) hx hb dX0_pieceAt_60 hl (k := 1) rfl (zi_inc k) (by decide) rfl (fun ls hl => ?_)
              refine lv_goto (tgt := 34) hx hb dX0_pieceAt_63 (by decide) ?_
              exact ih34 (k + 1) x9 (by first | assumption | omega) (by subst ex9; rw [hacc]; simp only [qPA, qBit, hb1, decide_true, decide_false, Bool.and_true, Bool.and_false, Bool.true_and, Bool.false_and, not_true_eq_false, not_false_eq_true, Bool.not_true, Bool.not_false, if_true, if_false, and_true, true_and, and_false, false_and, Bool.false_eq_true, Bool.true_eq_false, eq_self]) (by omega) H locs ls X (lv_sub hl [0, 1, 2, 3] rfl)
      exact cut34 5 0 0 (by first | assumption | omega) (rfl) (by omega) H locs ls X (lv_sub hl [0, 1, 2, 3] rfl)
    · have qc4 := c4
      have hh : qHas q5 sq = false := zb_0.mp c4
      refine lv_iconst (v := (-1 : Int32)) hx hb dX0_pieceAt_28 (by decide) ?_
      exact vx_ret (W.widen (k := 1) (n := 6) (Nat.zero_le _) (Nat.zero_le _) (zreti Z hr hlk (q0, q1, q2, q3, q4, q5, q6, q7, q8, q9, q10) X dX0_pieceAt_29 rfl (⟨hn, rfl, by simp only [qAt, hh, decide_true, decide_false, Bool.and_true, Bool.and_false, Bool.true_and, Bool.false_and, not_true_eq_false, not_false_eq_true, Bool.not_true, Bool.not_false, if_true, if_false, and_true, true_and, and_false, false_and, Bool.false_eq_true, Bool.true_eq_false, eq_self]⟩)))
  · have qc2 := c2
    have hn : qNum sq = false := zb_0.mp c2
    exact zthrow (is := 64) (text := "no such square") Z htr ht hlk X hl.1 (by decide +kernel) th_X0_pieceAt_46 ti_X0_pieceAt_46 (by decide +kernel) ta_X0_pieceAt_46 zB_50 zG_50 dX0_pieceAt_7 dX0_pieceAt_10 dX0_pieceAt_11 dX0_pieceAt_13 dX0_pieceAt_16 (Nat.le_of_ble_eq_true rfl) (Nat.le_of_ble_eq_true rfl) (Nat.le_refl _) (Nat.le_refl _) (⟨rfl, hn⟩)
theorem inw_X0_onLine : ∀ w ∈ wsX00, w ∈ wsX0_onLine := by decide +kernel
theorem lk_X0_onLine_83 : Cond.fieldLink RX0 83 "Quarterboard" "LINES" "[I" ∈ wsX0_onLine := by decide +kernel
theorem lk_X0_onLine_16 : Cond.fieldLink RX0 16 "Quarterboard" "filled" "I" ∈ wsX0_onLine := by decide +kernel
theorem th_X0_onLine_46 : Cond.classLink "Quarterboard" 46 eIO ∈ wsX0_onLine := by decide +kernel
theorem ti_X0_onLine_46 : Cond.initialized eIO ∈ wsX0_onLine := by decide +kernel
theorem ta_X0_onLine_46 : ∀ w ∈ (vx_atS "Quarterboard" 50 eIO zNm).filter goodWord, w ∈ wsX0_onLine := by decide +kernel
def P_X0_onLine (q0 q1 q2 q3 q4 q5 q6 : Int32) (q7 : Int64) (q8 q9 : Int32) (q10 : Int64) (ln : Int32) : Int32 → QS → Prop := fun r u => (¬ ln < 0 ∧ ¬ nI (qLn q0) ≤ ln) ∧ u = (q0, q1, q2, q3, q4, q5, q6, q7, q8, q9, q10) ∧ r = qBc (LM (ln.toNatClampNeg) &&& q5)
def PX_X0_onLine (q0 q1 q2 q3 q4 q5 q6 : Int32) (q7 : Int64) (q8 q9 : Int32) (q10 : Int64) (ln : Int32) : String → Prop := fun E => E = eIO ∧ (ln < 0 ∨ nI (qLn q0) ≤ ln)
set_option maxHeartbeats 4000000 in
set_option maxRecDepth 100000 in
theorem c_X0_onLine (l : Launch) (g : zG) (bL h : Nat) (q0 q1 q2 q3 q4 q5 q6 : Int32) (q7 : Int64) (q8 q9 : Int32) (q10 : Int64) (ln : Int32) (htr : l.stackTraces = false)  : zMX l yX0_onLine wsX0_onLine 30 1000 g [.ref h, .int ln] (oQ h (q0, q1, q2, q3, q4, q5, q6, q7, q8, q9, q10)) (zEL bL) (zQi g (P_X0_onLine q0 q1 q2 q3 q4 q5 q6 q7 q8 q9 q10 ln) (oQ h)) (PX_X0_onLine q0 q1 q2 q3 q4 q5 q6 q7 q8 q9 q10 ln) := by
  refine zstartX (cc := cX0_onLine) (maxL := 2) (ret := (some .int)) (own := RX0) rfl (by decide) rfl zStL (Nat.le_of_ble_eq_true rfl) ?_
  intro p e s m below meth c A Z hr hlk ht H locs X ls hl
  have hx := Z.1.1
  have hb := Z.1.2.1
  have hin : ∀ w ∈ wsX00, w ∈ wsX0_onLine := inw_X0_onLine
  have hl : lv_has ls 2 [(0, .ref h), (1, .int ln)] := hl
  have X : zh g A (oQ h (q0, q1, q2, q3, q4, q5, q6, q7, q8, q9, q10)) s.heap H locs := X
  have hln := qLn_le q0
  refine lv_iload_n hx hb dX0_onLine_0 rfl (lv_at hl 1 rfl) ?_
  refine lv_if_lt (tgt := 12) hx hb dX0_onLine_1 (by decide) (fun c1 => ?_) (fun c1 => ?_)
  · have qc1 := c1
    have h0 : ln < 0 := c1
    exact zthrow (is := 90) (text := "no such line") Z htr ht hlk X hl.1 (by decide +kernel) th_X0_onLine_46 ti_X0_onLine_46 (by decide +kernel) ta_X0_onLine_46 zB_50 zG_50 dX0_onLine_12 dX0_onLine_15 dX0_onLine_16 dX0_onLine_18 dX0_onLine_21 (Nat.le_of_ble_eq_true rfl) (Nat.le_of_ble_eq_true rfl) (Nat.le_refl _) (Nat.le_refl _) (⟨rfl, by first | exact Or.inl h0 | exact Or.inr h1⟩)
  · have qc1 := c1
    have h0 : ¬ ln < 0 := c1
    refine lv_iload_n hx hb dX0_onLine_4 rfl (lv_at hl 1 rfl) ?_
    refine lv_aload_n hx hb dX0_onLine_5 rfl (lv_at hl 0 rfl) ?_
    refine zcallVi (n := 0) (As := []) (rest := [.int ln]) (ci := 0) (C := RX0) (T := TX0) (N := 11) Z X (c_X0_lines l g bL h q0 q1 q2 q3 q4 q5 q6 q7 q8 q9 q10 ) gX0_onLine_X0_lines rfl (by decide +kernel) ⟨by show _ ≤ 30; omega, by show _ ≤ 1000; omega⟩ rfl rfl rfl rfl hl.1 (Nat.le_of_ble_eq_true rfl) dX0_onLine_6 ⟨Nat.zero_le _, Nat.zero_le _⟩ (fun r1 ur1 H locs hrr1 X => ?_)
    obtain ⟨rfl, rfl⟩ : ur1 = (q0, q1, q2, q3, q4, q5, q6, q7, q8, q9, q10) ∧ r1 = nI (qLn q0) := hrr1
    have X : zh g A (oQ h (q0, q1, q2, q3, q4, q5, q6, q7, q8, q9, q10)) s.heap H locs := X
    refine lv_icmp_lt (tgt := 22) hx hb dX0_onLine_9 (by decide) (fun c3 => ?_) (fun c3 => ?_)
    · have qc3 := c3
      have h1 : ¬ nI (qLn q0) ≤ ln := Int32.not_le.mpr c3
      have hl1 := zclamp h0
      have hl2 := zclamp_lt h0 (by omega) h1
      refine va_gets hx hb Z.2.2.2.1.1 X.2.2 Z.1.2.2.2.1 (Z.1.2.2.2.2 _ lk_X0_onLine_83) (fun _ h => h) dX0_onLine_22 ?_
      refine lv_iload_n hx hb dX0_onLine_25 rfl (lv_at hl 1 rfl) ?_
      refine zlld Z X (ln.toNatClampNeg) hl1 (by omega) dX0_onLine_26 ?_
      refine lv_aload_n hx hb dX0_onLine_27 rfl (lv_at hl 0 rfl) ?_
      refine zget (fs := [.int q0, .int q1, .int q2, .int q3, .int q4, .int q5, .int q6, .long q7, .int q8, .int q9, .long q10]) (v := .int q5) Z hin X (ci := 0) (C := RX0) (T := TX0) (N := 11) rfl rfl 5 (by decide) lk_X0_onLine_16 rfl dX0_onLine_28 ?_
      refine lv_iand hx hb dX0_onLine_31 ?_
      refine zcallSi (n := 1) (As := [.int ((LM (ln.toNatClampNeg)) &&& q5)]) (rest := []) Z X (c_J6_bitCount_0f7a4 l g ((LM (ln.toNatClampNeg)) &&& q5)) gX0_onLine_J6_bitCount_0f7a4 rfl (by decide +kernel) ⟨by show _ ≤ 30; omega, by show _ ≤ 1000; omega⟩ rfl rfl hl.1 (Nat.le_of_ble_eq_true rfl) dX0_onLine_32 ⟨Nat.zero_le _, Nat.zero_le _⟩ (fun r3 H locs hrr3 X => ?_)
      obtain rfl : r3 = qBc ((LM (ln.toNatClampNeg)) &&& q5) := hrr3
      exact vx_ret (W.widen (k := 1) (n := 6) (Nat.zero_le _) (Nat.zero_le _) (zreti Z hr hlk (q0, q1, q2, q3, q4, q5, q6, q7, q8, q9, q10) X dX0_onLine_35 rfl (⟨⟨h0, h1⟩, rfl, rfl⟩)))
    · have qc3 := c3
      have h1 : nI (qLn q0) ≤ ln := Int32.not_lt.mp c3
      exact zthrow (is := 90) (text := "no such line") Z htr ht hlk X hl.1 (by decide +kernel) th_X0_onLine_46 ti_X0_onLine_46 (by decide +kernel) ta_X0_onLine_46 zB_50 zG_50 dX0_onLine_12 dX0_onLine_15 dX0_onLine_16 dX0_onLine_18 dX0_onLine_21 (Nat.le_of_ble_eq_true rfl) (Nat.le_of_ble_eq_true rfl) (Nat.le_refl _) (Nat.le_refl _) (⟨rfl, by first | exact Or.inl h0 | exact Or.inr h1⟩)
theorem inw_X0_shared : ∀ w ∈ wsX00, w ∈ wsX0_shared := by decide +kernel
theorem lk_X0_shared_83 : Cond.fieldLink RX0 83 "Quarterboard" "LINES" "[I" ∈ wsX0_shared := by decide +kernel
theorem th_X0_shared_46 : Cond.classLink "Quarterboard" 46 eIO ∈ wsX0_shared := by decide +kernel
theorem ti_X0_shared_46 : Cond.initialized eIO ∈ wsX0_shared := by decide +kernel
theorem ta_X0_shared_46 : ∀ w ∈ (vx_atS "Quarterboard" 50 eIO zNm).filter goodWord, w ∈ wsX0_shared := by decide +kernel
def P_X0_shared (q0 q1 q2 q3 q4 q5 q6 : Int32) (q7 : Int64) (q8 q9 : Int32) (q10 : Int64) (ln : Int32) : Int32 → QS → Prop := fun r u => (¬ ln < 0 ∧ ¬ nI (qLn q0) ≤ ln) ∧ u = (q0, q1, q2, q3, q4, q5, q6, q7, q8, q9, q10) ∧ r = qIn q5 q7 (LM (ln.toNatClampNeg))
def PX_X0_shared (q0 q1 q2 q3 q4 q5 q6 : Int32) (q7 : Int64) (q8 q9 : Int32) (q10 : Int64) (ln : Int32) : String → Prop := fun E => E = eIO ∧ (ln < 0 ∨ nI (qLn q0) ≤ ln)
set_option maxHeartbeats 4000000 in
set_option maxRecDepth 100000 in
theorem c_X0_shared (l : Launch) (g : zG) (bL h : Nat) (q0 q1 q2 q3 q4 q5 q6 : Int32) (q7 : Int64) (q8 q9 : Int32) (q10 : Int64) (ln : Int32) (htr : l.stackTraces = false)  : zMX l yX0_shared wsX0_shared 30 1000 g [.ref h, .int ln] (oQ h (q0, q1, q2, q3, q4, q5, q6, q7, q8, q9, q10)) (zEL bL) (zQi g (P_X0_shared q0 q1 q2 q3 q4 q5 q6 q7 q8 q9 q10 ln) (oQ h)) (PX_X0_shared q0 q1 q2 q3 q4 q5 q6 q7 q8 q9 q10 ln) := by
  refine zstartX (cc := cX0_shared) (maxL := 2) (ret := (some .int)) (own := RX0) rfl (by decide) rfl zStL (Nat.le_of_ble_eq_true rfl) ?_
  intro p e s m below meth c A Z hr hlk ht H locs X ls hl
  have hx := Z.1.1
  have hb := Z.1.2.1
  have hin : ∀ w ∈ wsX00, w ∈ wsX0_shared := inw_X0_shared
  have hl : lv_has ls 2 [(0, .ref h), (1, .int ln)] := hl
  have X : zh g A (oQ h (q0, q1, q2, q3, q4, q5, q6, q7, q8, q9, q10)) s.heap H locs := X
  have hln := qLn_le q0
  refine lv_iload_n hx hb dX0_shared_0 rfl (lv_at hl 1 rfl) ?_
  refine lv_if_lt (tgt := 12) hx hb dX0_shared_1 (by decide) (fun c1 => ?_) (fun c1 => ?_)
  · have qc1 := c1
    have h0 : ln < 0 := c1
    exact zthrow (is := 90) (text := "no such line") Z htr ht hlk X hl.1 (by decide +kernel) th_X0_shared_46 ti_X0_shared_46 (by decide +kernel) ta_X0_shared_46 zB_50 zG_50 dX0_shared_12 dX0_shared_15 dX0_shared_16 dX0_shared_18 dX0_shared_21 (Nat.le_of_ble_eq_true rfl) (Nat.le_of_ble_eq_true rfl) (Nat.le_refl _) (Nat.le_refl _) (⟨rfl, by first | exact Or.inl h0 | exact Or.inr h1⟩)
  · have qc1 := c1
    have h0 : ¬ ln < 0 := c1
    refine lv_iload_n hx hb dX0_shared_4 rfl (lv_at hl 1 rfl) ?_
    refine lv_aload_n hx hb dX0_shared_5 rfl (lv_at hl 0 rfl) ?_
    refine zcallVi (n := 0) (As := []) (rest := [.int ln]) (ci := 0) (C := RX0) (T := TX0) (N := 11) Z X (c_X0_lines l g bL h q0 q1 q2 q3 q4 q5 q6 q7 q8 q9 q10 ) gX0_shared_X0_lines rfl (by decide +kernel) ⟨by show _ ≤ 30; omega, by show _ ≤ 1000; omega⟩ rfl rfl rfl rfl hl.1 (Nat.le_of_ble_eq_true rfl) dX0_shared_6 ⟨Nat.zero_le _, Nat.zero_le _⟩ (fun r1 ur1 H locs hrr1 X => ?_)
    obtain ⟨rfl, rfl⟩ : ur1 = (q0, q1, q2, q3, q4, q5, q6, q7, q8, q9, q10) ∧ r1 = nI (qLn q0) := hrr1
    have X : zh g A (oQ h (q0, q1, q2, q3, q4, q5, q6, q7, q8, q9, q10)) s.heap H locs := X
    refine lv_icmp_lt (tgt := 22) hx hb dX0_shared_9 (by decide) (fun c3 => ?_) (fun c3 => ?_)
    · have qc3 := c3
      have h1 : ¬ nI (qLn q0) ≤ ln := Int32.not_le.mpr c3
      have hl1 := zclamp h0
      have hl2 := zclamp_lt h0 (by omega) h1
      refine lv_aload_n hx hb dX0_shared_22 rfl (lv_at hl 0 rfl) ?_
      refine va_gets hx hb Z.2.2.2.1.1 X.2.2 Z.1.2.2.2.1 (Z.1.2.2.2.2 _ lk_X0_shared_83) (fun _ h => h) dX0_shared_23 ?_
      refine lv_iload_n hx hb dX0_shared_26 rfl (lv_at hl 1 rfl) ?_
      refine zlld Z X (ln.toNatClampNeg) hl1 (by omega) dX0_shared_27 ?_
      refine zcallVi (n := 1) (As := [.int (LM (ln.toNatClampNeg))]) (rest := []) (ci := 0) (C := RX0) (T := TX0) (N := 11) Z X (c_X0_inCommon l g bL h q0 q1 q2 q3 q4 q5 q6 q7 q8 q9 q10 (LM (ln.toNatClampNeg))) gX0_shared_X0_inCommon rfl (by decide +kernel) ⟨by show _ ≤ 30; omega, by show _ ≤ 1000; omega⟩ rfl rfl rfl rfl hl.1 (Nat.le_of_ble_eq_true rfl) dX0_shared_28 ⟨Nat.zero_le _, Nat.zero_le _⟩ (fun r3 ur3 H locs hrr3 X => ?_)
      obtain ⟨rfl, rfl⟩ : ur3 = (q0, q1, q2, q3, q4, q5, q6, q7, q8, q9, q10) ∧ r3 = qIn q5 q7 (LM (ln.toNatClampNeg)) := hrr3
      have X : zh g A (oQ h (q0, q1, q2, q3, q4, q5, q6, q7, q8, q9, q10)) s.heap H locs := X
      exact vx_ret (W.widen (k := 1) (n := 6) (Nat.zero_le _) (Nat.zero_le _) (zreti Z hr hlk (q0, q1, q2, q3, q4, q5, q6, q7, q8, q9, q10) X dX0_shared_31 rfl (⟨⟨h0, h1⟩, rfl, rfl⟩)))
    · have qc3 := c3
      have h1 : nI (qLn q0) ≤ ln := Int32.not_lt.mp c3
      exact zthrow (is := 90) (text := "no such line") Z htr ht hlk X hl.1 (by decide +kernel) th_X0_shared_46 ti_X0_shared_46 (by decide +kernel) ta_X0_shared_46 zB_50 zG_50 dX0_shared_12 dX0_shared_15 dX0_shared_16 dX0_shared_18 dX0_shared_21 (Nat.le_of_ble_eq_true rfl) (Nat.le_of_ble_eq_true rfl) (Nat.le_refl _) (Nat.le_refl _) (⟨rfl, by first | exact Or.inl h0 | exact Or.inr h1⟩)
theorem inw_X0_worth : ∀ w ∈ wsX00, w ∈ wsX0_worth := by decide +kernel
theorem lk_X0_worth_29 : Cond.fieldLink RX0 29 "Quarterboard" "stage" "I" ∈ wsX0_worth := by decide +kernel
theorem lk_X0_worth_9 : Cond.fieldLink RX0 9 "Quarterboard" "held" "I" ∈ wsX0_worth := by decide +kernel
theorem th_X0_worth_103 : Cond.classLink "Quarterboard" 103 eIA ∈ wsX0_worth := by decide +kernel
theorem ti_X0_worth_103 : Cond.initialized eIA ∈ wsX0_worth := by decide +kernel
theorem ta_X0_worth_103 : ∀ w ∈ (vx_atS "Quarterboard" 107 eIA zNm).filter goodWord, w ∈ wsX0_worth := by decide +kernel
theorem th_X0_worth_53 : Cond.classLink "Quarterboard" 53 eIS ∈ wsX0_worth := by decide +kernel
theorem ti_X0_worth_53 : Cond.initialized eIS ∈ wsX0_worth := by decide +kernel
theorem ta_X0_worth_53 : ∀ w ∈ (vx_atS "Quarterboard" 57 eIS zNm).filter goodWord, w ∈ wsX0_worth := by decide +kernel
def P_X0_worth (q0 q1 q2 q3 q4 q5 q6 : Int32) (q7 : Int64) (q8 q9 : Int32) (q10 : Int64) (np : Int32) (hp : Nat) : Int32 → QS → Prop := fun r u => ((¬ np < 1 ∧ np ≤ 4) ∧ qCan q5 q1 np = true) ∧ u = (q0, q1, q2, q3, q4, q5, q6, q7, q8, q9, q10) ∧ r = (if q1 = 0 then qWG q0 (np.toNatClampNeg) q5 q6 q7 else qWP q0 (np.toNatClampNeg) q5 q6 q7 hp)
def PX_X0_worth (q0 q1 q2 q3 q4 q5 q6 : Int32) (q7 : Int64) (q8 q9 : Int32) (q10 : Int64) (np : Int32) (hp : Nat) : String → Prop := fun E => (E = eIA ∧ (np < 1 ∨ ¬ np ≤ 4)) ∨ (E = eIS ∧ (¬ np < 1 ∧ np ≤ 4) ∧ qCan q5 q1 np = false)
set_option maxHeartbeats 4000000 in
set_option maxRecDepth 100000 in
theorem c_X0_worth (l : Launch) (g : zG) (bL h : Nat) (q0 q1 q2 q3 q4 q5 q6 : Int32) (q7 : Int64) (q8 q9 : Int32) (q10 : Int64) (np : Int32) (htr : l.stackTraces = false) (hp : Nat) (hinv : qInv q5 q7) (hq1 : q1 = 0 ∨ q1 = 1 ∨ q1 = 2) (hq3 : q1 = 1 → q3 = nI hp ∧ hp < 16 ∧ qHas q6 (nI hp) = false) : zMX l yX0_worth wsX0_worth 30 1000 g [.ref h, .int np] (oQ h (q0, q1, q2, q3, q4, q5, q6, q7, q8, q9, q10)) (zEL bL) (zQi g (P_X0_worth q0 q1 q2 q3 q4 q5 q6 q7 q8 q9 q10 np hp) (oQ h)) (PX_X0_worth q0 q1 q2 q3 q4 q5 q6 q7 q8 q9 q10 np hp) := by
  refine zstartX (cc := cX0_worth) (maxL := 2) (ret := (some .int)) (own := RX0) rfl (by decide) rfl zStL (Nat.le_of_ble_eq_true rfl) ?_
  intro p e s m below meth c A Z hr hlk ht H locs X ls hl
  have hx := Z.1.1
  have hb := Z.1.2.1
  have hin : ∀ w ∈ wsX00, w ∈ wsX0_worth := inw_X0_worth
  have hl : lv_has ls 2 [(0, .ref h), (1, .int np)] := hl
  have X : zh g A (oQ h (q0, q1, q2, q3, q4, q5, q6, q7, q8, q9, q10)) s.heap H locs := X
  refine lv_iload_n hx hb dX0_worth_0 rfl (lv_at hl 1 rfl) ?_
  refine lv_iconst (v := (1 : Int32)) hx hb dX0_worth_1 (by decide) ?_
  refine lv_icmp_lt (tgt := 10) hx hb dX0_worth_2 (by decide) (fun c1 => ?_) (fun c1 => ?_)
  · have qc1 := c1
    have ha : np < 1 := c1
    exact zthrow (is := 105) (text := "placings is out of range") Z htr ht hlk X hl.1 (by decide +kernel) th_X0_worth_103 ti_X0_worth_103 (by decide +kernel) ta_X0_worth_103 zB_107 zG_107 dX0_worth_10 dX0_worth_13 dX0_worth_14 dX0_worth_16 dX0_worth_19 (Nat.le_of_ble_eq_true rfl) (Nat.le_of_ble_eq_true rfl) (Nat.le_refl _) (Nat.le_refl _) (Or.inl ⟨rfl, by first | exact Or.inl ha | exact Or.inr hb4⟩)
  · have qc1 := c1
    have ha : ¬ np < 1 := c1
    refine lv_iload_n hx hb dX0_worth_5 rfl (lv_at hl 1 rfl) ?_
    refine lv_iconst (v := (4 : Int32)) hx hb dX0_worth_6 (by decide) ?_
    refine lv_icmp_le (tgt := 20) hx hb dX0_worth_7 (by decide) (fun c2 => ?_) (fun c2 => ?_)
    · have qc2 := c2
      have hb4 : np ≤ 4 := c2
      obtain ⟨hnp, hn1, hn4⟩ := zplac ha hb4
      refine lv_aload_n hx hb dX0_worth_20 rfl (lv_at hl 0 rfl) ?_
      refine lv_iload_n hx hb dX0_worth_21 rfl (lv_at hl 1 rfl) ?_
      refine zcallVi (n := 1) (As := [.int np]) (rest := []) (ci := 0) (C := RX0) (T := TX0) (N := 11) Z X (c_X0_canLookAhead l g bL h q0 q1 q2 q3 q4 q5 q6 q7 q8 q9 q10 np) gX0_worth_X0_canLookAhead rfl (by decide +kernel) ⟨by show _ ≤ 30; omega, by show _ ≤ 1000; omega⟩ rfl rfl rfl rfl hl.1 (Nat.le_of_ble_eq_true rfl) dX0_worth_22 ⟨Nat.zero_le _, Nat.zero_le _⟩ (fun r2 ur2 H locs hrr2 X => ?_)
      obtain ⟨rfl, rfl⟩ : ur2 = (q0, q1, q2, q3, q4, q5, q6, q7, q8, q9, q10) ∧ r2 = zb (qCan q5 q1 np) := hrr2
      have X : zh g A (oQ h (q0, q1, q2, q3, q4, q5, q6, q7, q8, q9, q10)) s.heap H locs := X
      refine lv_if_ne (tgt := 38) hx hb dX0_worth_25 (by decide) (fun c4 => ?_) (fun c4 => ?_)
      · have qc4 := c4
        have hcan : qCan q5 q1 np = true := zb_n0.mp c4
        refine lv_aload_n hx hb dX0_worth_38 rfl (lv_at hl 0 rfl) ?_
        refine zget (fs := [.int q0, .int q1, .int q2, .int q3, .int q4, .int q5, .int q6, .long q7, .int q8, .int q9, .long q10]) (v := .int q1) Z hin X (ci := 0) (C := RX0) (T := TX0) (N := 11) rfl rfl 1 (by decide) lk_X0_worth_29 rfl dX0_worth_39 ?_
        refine lv_if_ne (tgt := 53) hx hb dX0_worth_42 (by decide) (fun c5 => ?_) (fun c5 => ?_)
        · have qc5 := c5
          have hz : ¬ q1 = 0 := c5
          obtain ⟨hh1, hh2, hh3⟩ := hq3 (by rcases hq1 with h | h | h; exact absurd h hz; exact h; exact absurd hcan (by rw [h]; unfold qCan; simp))
          refine lv_aload_n hx hb dX0_worth_53 rfl (lv_at hl 0 rfl) ?_
          refine lv_aload_n hx hb dX0_worth_54 rfl (lv_at hl 0 rfl) ?_
          refine zget (fs := [.int q0, .int q1, .int q2, .int q3, .int q4, .int q5, .int q6, .long q7, .int q8, .int q9, .long q10]) (v := .int q3) Z hin X (ci := 0) (C := RX0) (T := TX0) (N := 11) rfl rfl 3 (by decide) lk_X0_worth_9 rfl dX0_worth_55 ?_
          refine zrwi (y := nI hp) (hh1) ?_
          refine lv_iload_n hx hb dX0_worth_58 rfl (lv_at hl 1 rfl) ?_
          refine zrwi (y := nI (np.toNatClampNeg)) (hnp) ?_
          refine zcallVi (n := 2) (As := [.int (nI hp), .int (nI (np.toNatClampNeg))]) (rest := []) (ci := 0) (C := RX0) (T := TX0) (N := 11) Z X (c_X0_worthToPlace l g bL h q0 q1 q2 q3 q4 q5 q6 q7 q8 q9 q10 (np.toNatClampNeg) hp (by omega) hh2 hh3 hinv) gX0_worth_X0_worthToPlace rfl (by decide +kernel) ⟨by show _ ≤ 30; omega, by show _ ≤ 1000; omega⟩ rfl rfl rfl rfl hl.1 (Nat.le_of_ble_eq_true rfl) dX0_worth_59 ⟨Nat.zero_le _, Nat.zero_le _⟩ (fun r5 ur5 H locs hrr5 X => ?_)
          obtain ⟨rfl, rfl⟩ : ur5 = (q0, q1, q2, q3, q4, q5, q6, q7, q8, q9, q10) ∧ r5 = qWP q0 (np.toNatClampNeg) q5 q6 q7 hp := hrr5
          have X : zh g A (oQ h (q0, q1, q2, q3, q4, q5, q6, q7, q8, q9, q10)) s.heap H locs := X
          exact vx_ret (W.widen (k := 1) (n := 6) (Nat.zero_le _) (Nat.zero_le _) (zreti Z hr hlk (q0, q1, q2, q3, q4, q5, q6, q7, q8, q9, q10) X dX0_worth_62 rfl (⟨⟨⟨ha, hb4⟩, hcan⟩, rfl, by simp only [hz, if_true, if_false]⟩)))
        · have qc5 := c5
          have hz : q1 = 0 := c5
          refine lv_aload_n hx hb dX0_worth_45 rfl (lv_at hl 0 rfl) ?_
          refine lv_iload_n hx hb dX0_worth_46 rfl (lv_at hl 1 rfl) ?_
          refine zrwi (y := nI (np.toNatClampNeg)) (hnp) ?_
          refine zcallVi (n := 1) (As := [.int (nI (np.toNatClampNeg))]) (rest := []) (ci := 0) (C := RX0) (T := TX0) (N := 11) Z X (c_X0_worthToGive l g bL h q0 q1 q2 q3 q4 q5 q6 q7 q8 q9 q10 (np.toNatClampNeg) (by omega) hinv) gX0_worth_X0_worthToGive rfl (by decide +kernel) ⟨by show _ ≤ 30; omega, by show _ ≤ 1000; omega⟩ rfl rfl rfl rfl hl.1 (Nat.le_of_ble_eq_true rfl) dX0_worth_47 ⟨Nat.zero_le _, Nat.zero_le _⟩ (fun r6 ur6 H locs hrr6 X => ?_)
          obtain ⟨rfl, rfl⟩ : ur6 = (q0, q1, q2, q3, q4, q5, q6, q7, q8, q9, q10) ∧ r6 = qWG q0 (np.toNatClampNeg) q5 q6 q7 := hrr6
          have X : zh g A (oQ h (q0, q1, q2, q3, q4, q5, q6, q7, q8, q9, q10)) s.heap H locs := X
          refine lv_goto (tgt := 62) hx hb dX0_worth_50 (by decide) ?_
          exact vx_ret (W.widen (k := 1) (n := 6) (Nat.zero_le _) (Nat.zero_le _) (zreti Z hr hlk (q0, q1, q2, q3, q4, q5, q6, q7, q8, q9, q10) X dX0_worth_62 rfl (⟨⟨⟨ha, hb4⟩, hcan⟩, rfl, by simp only [hz, if_true, if_false]⟩)))
      · have qc4 := c4
        have hcan : qCan q5 q1 np = false := zb_0.mp c4
        exact zthrow (is := 111) (text := "the game is over, or too many squares are empty") Z htr ht hlk X hl.1 (by decide +kernel) th_X0_worth_53 ti_X0_worth_53 (by decide +kernel) ta_X0_worth_53 zB_57 zG_57 dX0_worth_28 dX0_worth_31 dX0_worth_32 dX0_worth_34 dX0_worth_37 (Nat.le_of_ble_eq_true rfl) (Nat.le_of_ble_eq_true rfl) (Nat.le_refl _) (Nat.le_refl _) (Or.inr ⟨rfl, ⟨ha, hb4⟩, hcan⟩)
    · have qc2 := c2
      have hb4 : ¬ np ≤ 4 := c2
      exact zthrow (is := 105) (text := "placings is out of range") Z htr ht hlk X hl.1 (by decide +kernel) th_X0_worth_103 ti_X0_worth_103 (by decide +kernel) ta_X0_worth_103 zB_107 zG_107 dX0_worth_10 dX0_worth_13 dX0_worth_14 dX0_worth_16 dX0_worth_19 (Nat.le_of_ble_eq_true rfl) (Nat.le_of_ble_eq_true rfl) (Nat.le_refl _) (Nat.le_refl _) (Or.inl ⟨rfl, by first | exact Or.inl ha | exact Or.inr hb4⟩)
theorem inw_X0_best : ∀ w ∈ wsX00, w ∈ wsX0_best := by decide +kernel
theorem lk_X0_best_29 : Cond.fieldLink RX0 29 "Quarterboard" "stage" "I" ∈ wsX0_best := by decide +kernel
theorem th_X0_best_103 : Cond.classLink "Quarterboard" 103 eIA ∈ wsX0_best := by decide +kernel
theorem ti_X0_best_103 : Cond.initialized eIA ∈ wsX0_best := by decide +kernel
theorem ta_X0_best_103 : ∀ w ∈ (vx_atS "Quarterboard" 107 eIA zNm).filter goodWord, w ∈ wsX0_best := by decide +kernel
theorem th_X0_best_53 : Cond.classLink "Quarterboard" 53 eIS ∈ wsX0_best := by decide +kernel
theorem ti_X0_best_53 : Cond.initialized eIS ∈ wsX0_best := by decide +kernel
theorem ta_X0_best_53 : ∀ w ∈ (vx_atS "Quarterboard" 57 eIS zNm).filter goodWord, w ∈ wsX0_best := by decide +kernel
def P_X0_best (q0 q1 q2 q3 q4 q5 q6 : Int32) (q7 : Int64) (q8 q9 : Int32) (q10 : Int64) (np : Int32) (hp : Nat) : Int32 → QS → Prop := fun r u => ((¬ np < 1 ∧ np ≤ 4) ∧ qCan q5 q1 np = true) ∧ u = (q0, q1, q2, q3, q4, q5, q6, q7, q8, q9, q10) ∧ r = (if q1 = 0 then nI (qBP q0 (np.toNatClampNeg) q5 q6 q7) else nI (qBS q0 (np.toNatClampNeg) q5 q6 q7 hp))
def PX_X0_best (q0 q1 q2 q3 q4 q5 q6 : Int32) (q7 : Int64) (q8 q9 : Int32) (q10 : Int64) (np : Int32) (hp : Nat) : String → Prop := fun E => (E = eIA ∧ (np < 1 ∨ ¬ np ≤ 4)) ∨ (E = eIS ∧ (¬ np < 1 ∧ np ≤ 4) ∧ qCan q5 q1 np = false)
set_option maxHeartbeats 4000000 in
set_option maxRecDepth 100000 in
theorem c_X0_best (l : Launch) (g : zG) (bL h : Nat) (q0 q1 q2 q3 q4 q5 q6 : Int32) (q7 : Int64) (q8 q9 : Int32) (q10 : Int64) (np : Int32) (htr : l.stackTraces = false) (hp : Nat) (hinv : qInv q5 q7) (hq1 : q1 = 0 ∨ q1 = 1 ∨ q1 = 2) (hq3 : q1 = 1 → q3 = nI hp ∧ hp < 16 ∧ qHas q6 (nI hp) = false) : zMX l yX0_best wsX0_best 30 1000 g [.ref h, .int np] (oQ h (q0, q1, q2, q3, q4, q5, q6, q7, q8, q9, q10)) (zEL bL) (zQi g (P_X0_best q0 q1 q2 q3 q4 q5 q6 q7 q8 q9 q10 np hp) (oQ h)) (PX_X0_best q0 q1 q2 q3 q4 q5 q6 q7 q8 q9 q10 np hp) := by
  refine zstartX (cc := cX0_best) (maxL := 2) (ret := (some .int)) (own := RX0) rfl (by decide) rfl zStL (Nat.le_of_ble_eq_true rfl) ?_
  intro p e s m below meth c A Z hr hlk ht H locs X ls hl
  have hx := Z.1.1
  have hb := Z.1.2.1
  have hin : ∀ w ∈ wsX00, w ∈ wsX0_best := inw_X0_best
  have hl : lv_has ls 2 [(0, .ref h), (1, .int np)] := hl
  have X : zh g A (oQ h (q0, q1, q2, q3, q4, q5, q6, q7, q8, q9, q10)) s.heap H locs := X
  refine lv_iload_n hx hb dX0_best_0 rfl (lv_at hl 1 rfl) ?_
  refine lv_iconst (v := (1 : Int32)) hx hb dX0_best_1 (by decide) ?_
  refine lv_icmp_lt (tgt := 10) hx hb dX0_best_2 (by decide) (fun c1 => ?_) (fun c1 => ?_)
  · have qc1 := c1
    have ha : np < 1 := c1
    exact zthrow (is := 105) (text := "placings is out of range") Z htr ht hlk X hl.1 (by decide +kernel) th_X0_best_103 ti_X0_best_103 (by decide +kernel) ta_X0_best_103 zB_107 zG_107 dX0_best_10 dX0_best_13 dX0_best_14 dX0_best_16 dX0_best_19 (Nat.le_of_ble_eq_true rfl) (Nat.le_of_ble_eq_true rfl) (Nat.le_refl _) (Nat.le_refl _) (Or.inl ⟨rfl, by first | exact Or.inl ha | exact Or.inr hb4⟩)
  · have qc1 := c1
    have ha : ¬ np < 1 := c1
    refine lv_iload_n hx hb dX0_best_5 rfl (lv_at hl 1 rfl) ?_
    refine lv_iconst (v := (4 : Int32)) hx hb dX0_best_6 (by decide) ?_
    refine lv_icmp_le (tgt := 20) hx hb dX0_best_7 (by decide) (fun c2 => ?_) (fun c2 => ?_)
    · have qc2 := c2
      have hb4 : np ≤ 4 := c2
      obtain ⟨hnp, hn1, hn4⟩ := zplac ha hb4
      refine lv_aload_n hx hb dX0_best_20 rfl (lv_at hl 0 rfl) ?_
      refine lv_iload_n hx hb dX0_best_21 rfl (lv_at hl 1 rfl) ?_
      refine zcallVi (n := 1) (As := [.int np]) (rest := []) (ci := 0) (C := RX0) (T := TX0) (N := 11) Z X (c_X0_canLookAhead l g bL h q0 q1 q2 q3 q4 q5 q6 q7 q8 q9 q10 np) gX0_best_X0_canLookAhead rfl (by decide +kernel) ⟨by show _ ≤ 30; omega, by show _ ≤ 1000; omega⟩ rfl rfl rfl rfl hl.1 (Nat.le_of_ble_eq_true rfl) dX0_best_22 ⟨Nat.zero_le _, Nat.zero_le _⟩ (fun r2 ur2 H locs hrr2 X => ?_)
      obtain ⟨rfl, rfl⟩ : ur2 = (q0, q1, q2, q3, q4, q5, q6, q7, q8, q9, q10) ∧ r2 = zb (qCan q5 q1 np) := hrr2
      have X : zh g A (oQ h (q0, q1, q2, q3, q4, q5, q6, q7, q8, q9, q10)) s.heap H locs := X
      refine lv_if_ne (tgt := 38) hx hb dX0_best_25 (by decide) (fun c4 => ?_) (fun c4 => ?_)
      · have qc4 := c4
        have hcan : qCan q5 q1 np = true := zb_n0.mp c4
        refine lv_aload_n hx hb dX0_best_38 rfl (lv_at hl 0 rfl) ?_
        refine zget (fs := [.int q0, .int q1, .int q2, .int q3, .int q4, .int q5, .int q6, .long q7, .int q8, .int q9, .long q10]) (v := .int q1) Z hin X (ci := 0) (C := RX0) (T := TX0) (N := 11) rfl rfl 1 (by decide) lk_X0_best_29 rfl dX0_best_39 ?_
        refine lv_if_ne (tgt := 53) hx hb dX0_best_42 (by decide) (fun c5 => ?_) (fun c5 => ?_)
        · have qc5 := c5
          have hz : ¬ q1 = 0 := c5
          obtain ⟨hh1, hh2, hh3⟩ := hq3 (by rcases hq1 with h | h | h; exact absurd h hz; exact h; exact absurd hcan (by rw [h]; unfold qCan; simp))
          have X : zh g A (oQ h (q0, q1, q2, nI hp, q4, q5, q6, q7, q8, q9, q10)) s.heap H locs := by rw [← hh1]; exact X
          refine lv_aload_n hx hb dX0_best_53 rfl (lv_at hl 0 rfl) ?_
          refine lv_iload_n hx hb dX0_best_54 rfl (lv_at hl 1 rfl) ?_
          refine zrwi (y := nI (np.toNatClampNeg)) (hnp) ?_
          refine zcallVi (n := 1) (As := [.int (nI (np.toNatClampNeg))]) (rest := []) (ci := 0) (C := RX0) (T := TX0) (N := 11) Z X (c_X0_bestSquare l g bL h q0 q1 q2 hp q4 q5 q6 q7 q8 q9 q10 (np.toNatClampNeg) (by omega) (by omega) hh2 hh3 hinv) gX0_best_X0_bestSquare rfl (by decide +kernel) ⟨by show _ ≤ 30; omega, by show _ ≤ 1000; omega⟩ rfl rfl rfl rfl hl.1 (Nat.le_of_ble_eq_true rfl) dX0_best_55 ⟨Nat.zero_le _, Nat.zero_le _⟩ (fun r5 ur5 H locs hrr5 X => ?_)
          obtain ⟨rfl, rfl⟩ : ur5 = (q0, q1, q2, nI hp, q4, q5, q6, q7, q8, q9, q10) ∧ r5 = nI (qBS q0 (np.toNatClampNeg) q5 q6 q7 hp) := hrr5
          have X : zh g A (oQ h (q0, q1, q2, nI hp, q4, q5, q6, q7, q8, q9, q10)) s.heap H locs := X
          exact vx_ret (W.widen (k := 1) (n := 6) (Nat.zero_le _) (Nat.zero_le _) (zreti Z hr hlk (q0, q1, q2, nI hp, q4, q5, q6, q7, q8, q9, q10) X dX0_best_58 rfl (⟨⟨⟨ha, hb4⟩, hcan⟩, by first | rfl | rw [hh1], by simp only [hz, if_true, if_false]⟩)))
        · have qc5 := c5
          have hz : q1 = 0 := c5
          refine lv_aload_n hx hb dX0_best_45 rfl (lv_at hl 0 rfl) ?_
          refine lv_iload_n hx hb dX0_best_46 rfl (lv_at hl 1 rfl) ?_
          refine zrwi (y := nI (np.toNatClampNeg)) (hnp) ?_
          refine zcallVi (n := 1) (As := [.int (nI (np.toNatClampNeg))]) (rest := []) (ci := 0) (C := RX0) (T := TX0) (N := 11) Z X (c_X0_bestPiece l g bL h q0 q1 q2 q3 q4 q5 q6 q7 q8 q9 q10 (np.toNatClampNeg) (by omega) hinv) gX0_best_X0_bestPiece rfl (by decide +kernel) ⟨by show _ ≤ 30; omega, by show _ ≤ 1000; omega⟩ rfl rfl rfl rfl hl.1 (Nat.le_of_ble_eq_true rfl) dX0_best_47 ⟨Nat.zero_le _, Nat.zero_le _⟩ (fun r6 ur6 H locs hrr6 X => ?_)
          obtain ⟨rfl, rfl⟩ : ur6 = (q0, q1, q2, q3, q4, q5, q6, q7, q8, q9, q10) ∧ r6 = nI (qBP q0 (np.toNatClampNeg) q5 q6 q7) := hrr6
          have X : zh g A (oQ h (q0, q1, q2, q3, q4, q5, q6, q7, q8, q9, q10)) s.heap H locs := X
          refine lv_goto (tgt := 58) hx hb dX0_best_50 (by decide) ?_
          exact vx_ret (W.widen (k := 1) (n := 6) (Nat.zero_le _) (Nat.zero_le _) (zreti Z hr hlk (q0, q1, q2, q3, q4, q5, q6, q7, q8, q9, q10) X dX0_best_58 rfl (⟨⟨⟨ha, hb4⟩, hcan⟩, by first | rfl | rw [hh1], by simp only [hz, if_true, if_false]⟩)))
      · have qc4 := c4
        have hcan : qCan q5 q1 np = false := zb_0.mp c4
        exact zthrow (is := 111) (text := "the game is over, or too many squares are empty") Z htr ht hlk X hl.1 (by decide +kernel) th_X0_best_53 ti_X0_best_53 (by decide +kernel) ta_X0_best_53 zB_57 zG_57 dX0_best_28 dX0_best_31 dX0_best_32 dX0_best_34 dX0_best_37 (Nat.le_of_ble_eq_true rfl) (Nat.le_of_ble_eq_true rfl) (Nat.le_refl _) (Nat.le_refl _) (Or.inr ⟨rfl, ⟨ha, hb4⟩, hcan⟩)
    · have qc2 := c2
      have hb4 : ¬ np ≤ 4 := c2
      exact zthrow (is := 105) (text := "placings is out of range") Z htr ht hlk X hl.1 (by decide +kernel) th_X0_best_103 ti_X0_best_103 (by decide +kernel) ta_X0_best_103 zB_107 zG_107 dX0_best_10 dX0_best_13 dX0_best_14 dX0_best_16 dX0_best_19 (Nat.le_of_ble_eq_true rfl) (Nat.le_of_ble_eq_true rfl) (Nat.le_refl _) (Nat.le_refl _) (Or.inl ⟨rfl, by first | exact Or.inl ha | exact Or.inr hb4⟩)
theorem inw_X0_isAlike : ∀ w ∈ wsX00, w ∈ wsX0_isAlike := by decide +kernel
theorem lk_X0_isAlike_126 : Cond.fieldLink RX0 126 "Quarterboard" "hasKept" "Z" ∈ wsX0_isAlike := by decide +kernel
theorem lk_X0_isAlike_129 : Cond.fieldLink RX0 129 "Quarterboard" "keptFilled" "I" ∈ wsX0_isAlike := by decide +kernel
theorem lk_X0_isAlike_132 : Cond.fieldLink RX0 132 "Quarterboard" "keptDigits" "J" ∈ wsX0_isAlike := by decide +kernel
theorem th_X0_isAlike_53 : Cond.classLink "Quarterboard" 53 eIS ∈ wsX0_isAlike := by decide +kernel
theorem ti_X0_isAlike_53 : Cond.initialized eIS ∈ wsX0_isAlike := by decide +kernel
theorem ta_X0_isAlike_53 : ∀ w ∈ (vx_atS "Quarterboard" 57 eIS zNm).filter goodWord, w ∈ wsX0_isAlike := by decide +kernel
def P_X0_isAlike (q0 q1 q2 q3 q4 q5 q6 : Int32) (q7 : Int64) (q8 q9 : Int32) (q10 : Int64) : Int32 → QS → Prop := fun r u => (¬ q8 = 0) ∧ u = (q0, q1, q2, q3, q4, q5, q6, q7, q8, q9, q10) ∧ r = zb (anyN (fun t => decide (0 < qWays q5 q7 t q9 q10)) 8)
def PX_X0_isAlike (q0 q1 q2 q3 q4 q5 q6 : Int32) (q7 : Int64) (q8 q9 : Int32) (q10 : Int64) : String → Prop := fun E => E = eIS ∧ q8 = 0
set_option maxHeartbeats 4000000 in
set_option maxRecDepth 100000 in
theorem c_X0_isAlike (l : Launch) (g : zG) (bL h : Nat) (q0 q1 q2 q3 q4 q5 q6 : Int32) (q7 : Int64) (q8 q9 : Int32) (q10 : Int64)  (htr : l.stackTraces = false)  : zMX l yX0_isAlike wsX0_isAlike 30 1000 g [.ref h] (oQ h (q0, q1, q2, q3, q4, q5, q6, q7, q8, q9, q10)) (zEL bL) (zQi g (P_X0_isAlike q0 q1 q2 q3 q4 q5 q6 q7 q8 q9 q10) (oQ h)) (PX_X0_isAlike q0 q1 q2 q3 q4 q5 q6 q7 q8 q9 q10) := by
  refine zstartX (cc := cX0_isAlike) (maxL := 2) (ret := (some .boolean)) (own := RX0) rfl (by decide) rfl zStL (Nat.le_of_ble_eq_true rfl) ?_
  intro p e s m below meth c A Z hr hlk ht H locs X ls hl
  have hx := Z.1.1
  have hb := Z.1.2.1
  have hin : ∀ w ∈ wsX00, w ∈ wsX0_isAlike := inw_X0_isAlike
  have hl : lv_has ls 2 [(0, .ref h)] := hl
  have X : zh g A (oQ h (q0, q1, q2, q3, q4, q5, q6, q7, q8, q9, q10)) s.heap H locs := X
  refine lv_aload_n hx hb dX0_isAlike_0 rfl (lv_at hl 0 rfl) ?_
  refine zget (fs := [.int q0, .int q1, .int q2, .int q3, .int q4, .int q5, .int q6, .long q7, .int q8, .int q9, .long q10]) (v := .int q8) Z hin X (ci := 0) (C := RX0) (T := TX0) (N := 11) rfl rfl 8 (by decide) lk_X0_isAlike_126 rfl dX0_isAlike_1 ?_
  refine lv_if_ne (tgt := 17) hx hb dX0_isAlike_4 (by decide) (fun c1 => ?_) (fun c1 => ?_)
  · have qc1 := c1
    have hk8 : ¬ q8 = 0 := c1
    refine lv_iconst (v := (0 : Int32)) hx hb dX0_isAlike_17 (by decide) ?_
    refine lv_istore_n (lv' := [(1, .int (0 : Int32)), (0, .ref h)]) hx hb dX0_isAlike_18 rfl hl (by decide) rfl (fun ls hl => ?_)
    have cut19 : ∀ (n19 : Nat), ∀ (k : Nat), (k ≤ 8) → (anyN (fun t => decide (0 < qWays q5 q7 t q9 q10)) k = false) → (9 - k ≤ n19) → ∀ (H : Heap) (locs : List Loc) (ls : Array Slot), zh g A (oQ h (q0, q1, q2, q3, q4, q5, q6, q7, q8, q9, q10)) s.heap H locs → lv_has ls 2 [(1, .int (nI k)), (0, .ref h)] → W p l e { frames := 30, cells := 1, slots := 6, locals := 1000 } s m ([.ref h] : List Value).toArray below meth c H locs 0 0 (vx_MQ below ((zQi g (P_X0_isAlike q0 q1 q2 q3 q4 q5 q6 q7 q8 q9 q10) (oQ h)) A) (zXC g (PX_X0_isAlike q0 q1 q2 q3 q4 q5 q6 q7 q8 q9 q10) (oQ h (q0, q1, q2, q3, q4, q5, q6, q7, q8, q9, q10)) A) ([.ref h] : List Value).toArray s 1 6 A) (F0 m 19 ls []) := by
      intro n19
      induction n19 with
      | zero =>
        intro k hk hall hm19
        exact absurd hm19 (by omega)
      | succ n19 ih19 =>
        intro k hk hall hm19 H locs ls X hl
        refine lv_iload_n hx hb dX0_isAlike_19 rfl (lv_at hl 0 rfl) ?_
        refine lv_bipush (v := (8 : Int32)) hx hb dX0_isAlike_20 (by decide) ?_
        refine lv_icmp_ge (tgt := 49) hx hb dX0_isAlike_22 (by decide) (fun c2 => ?_) (fun c2 => ?_)
        · have qc2 := c2
          have c2n : 8 ≤ k := zn_let (by omega) (by omega) c2
          refine lv_iconst (v := (0 : Int32)) hx hb dX0_isAlike_49 (by decide) ?_
          exact vx_ret (W.widen (k := 1) (n := 6) (Nat.zero_le _) (Nat.zero_le _) (zreti Z hr hlk (q0, q1, q2, q3, q4, q5, q6, q7, q8, q9, q10) X dX0_isAlike_50 rfl (⟨hk8, rfl, (zb_f0 (by rw [show (8 : Nat) = k by omega]; exact hall)).symm⟩)))
        · have qc2 := c2
          have c2n : ¬ 8 ≤ k := zn_len (by omega) (by omega) c2
          refine lv_aload_n hx hb dX0_isAlike_25 rfl (lv_at hl 1 rfl) ?_
          refine lv_iload_n hx hb dX0_isAlike_26 rfl (lv_at hl 0 rfl) ?_
          refine lv_aload_n hx hb dX0_isAlike_27 rfl (lv_at hl 1 rfl) ?_
          refine zget (fs := [.int q0, .int q1, .int q2, .int q3, .int q4, .int q5, .int q6, .long q7, .int q8, .int q9, .long q10]) (v := .int q9) Z hin X (ci := 0) (C := RX0) (T := TX0) (N := 11) rfl rfl 9 (by decide) lk_X0_isAlike_129 rfl dX0_isAlike_28 ?_
          refine lv_aload_n hx hb dX0_isAlike_31 rfl (lv_at hl 1 rfl) ?_
          refine zget (fs := [.int q0, .int q1, .int q2, .int q3, .int q4, .int q5, .int q6, .long q7, .int q8, .int q9, .long q10]) (v := .long q10) Z hin X (ci := 0) (C := RX0) (T := TX0) (N := 11) rfl rfl 10 (by decide) lk_X0_isAlike_132 rfl dX0_isAlike_32 ?_
          refine zcallVi (n := 3) (As := [.int (nI k), .int q9, .long q10]) (rest := []) (ci := 0) (C := RX0) (T := TX0) (N := 11) Z X (c_X0_waysOfMarks l g bL h q0 q1 q2 q3 q4 q5 q6 q7 q8 q9 q10 k q9 q10 (by omega)) gX0_isAlike_X0_waysOfMarks rfl (by decide +kernel) ⟨by show _ ≤ 30; omega, by show _ ≤ 1000; omega⟩ rfl rfl rfl rfl hl.1 (Nat.le_of_ble_eq_true rfl) dX0_isAlike_35 ⟨Nat.zero_le _, Nat.zero_le _⟩ (fun r2 ur2 H locs hrr2 X => ?_)
          obtain ⟨rfl, rfl⟩ : ur2 = (q0, q1, q2, q3, q4, q5, q6, q7, q8, q9, q10) ∧ r2 = qWays q5 q7 k q9 q10 := hrr2
          have X : zh g A (oQ h (q0, q1, q2, q3, q4, q5, q6, q7, q8, q9, q10)) s.heap H locs := X
          refine lv_if_le (tgt := 43) hx hb dX0_isAlike_38 (by decide) (fun c4 => ?_) (fun c4 => ?_)
          · have qc4 := c4
            have hq : ¬ 0 < qWays q5 q7 k q9 q10 := Int32.not_lt.mpr c4
            refine lv_iinc (v := nI (k + 1)) (lv' := [(1, .int (nI (k + 1))), (0, .ref h)]) hx hb dX0_isAlike_43 hl (k := 0) rfl (zi_inc k) (by decide) rfl (fun ls hl => ?_)
            refine lv_goto (tgt := 19) hx hb dX0_isAlike_46 (by decide) ?_
            exact ih19 (k + 1) (by first | assumption | omega) (anyN_s hall (decide_eq_false hq)) (by omega) H locs ls X (lv_sub hl [0, 1] rfl)
          · have qc4 := c4
            have hq : 0 < qWays q5 q7 k q9 q10 := Int32.not_le.mp c4
            refine lv_iconst (v := (1 : Int32)) hx hb dX0_isAlike_41 (by decide) ?_
            exact vx_ret (W.widen (k := 1) (n := 6) (Nat.zero_le _) (Nat.zero_le _) (zreti Z hr hlk (q0, q1, q2, q3, q4, q5, q6, q7, q8, q9, q10) X dX0_isAlike_42 rfl (⟨hk8, rfl, (zb_t (anyN_t (k := k) (by omega) (decide_eq_true hq))).symm⟩)))
    exact cut19 9 0 (by first | assumption | omega) (rfl) (by omega) H locs ls X (lv_sub hl [0, 1] rfl)
  · have qc1 := c1
    have hk8 : q8 = 0 := c1
    exact zthrow (is := 135) (text := "no board is kept") Z htr ht hlk X hl.1 (by decide +kernel) th_X0_isAlike_53 ti_X0_isAlike_53 (by decide +kernel) ta_X0_isAlike_53 zB_57 zG_57 dX0_isAlike_7 dX0_isAlike_10 dX0_isAlike_11 dX0_isAlike_13 dX0_isAlike_16 (Nat.le_of_ble_eq_true rfl) (Nat.le_of_ble_eq_true rfl) (Nat.le_refl _) (Nat.le_refl _) (⟨rfl, hk8⟩)
theorem inw_X0_place : ∀ w ∈ wsX00, w ∈ wsX0_place := by decide +kernel
theorem lk_X0_place_29 : Cond.fieldLink RX0 29 "Quarterboard" "stage" "I" ∈ wsX0_place := by decide +kernel
theorem lk_X0_place_16 : Cond.fieldLink RX0 16 "Quarterboard" "filled" "I" ∈ wsX0_place := by decide +kernel
theorem lk_X0_place_9 : Cond.fieldLink RX0 9 "Quarterboard" "held" "I" ∈ wsX0_place := by decide +kernel
theorem lk_X0_place_32 : Cond.fieldLink RX0 32 "Quarterboard" "player" "I" ∈ wsX0_place := by decide +kernel
theorem lk_X0_place_13 : Cond.fieldLink RX0 13 "Quarterboard" "victor" "I" ∈ wsX0_place := by decide +kernel
theorem th_X0_place_46 : Cond.classLink "Quarterboard" 46 eIO ∈ wsX0_place := by decide +kernel
theorem ti_X0_place_46 : Cond.initialized eIO ∈ wsX0_place := by decide +kernel
theorem ta_X0_place_46 : ∀ w ∈ (vx_atS "Quarterboard" 50 eIO zNm).filter goodWord, w ∈ wsX0_place := by decide +kernel
theorem th_X0_place_53 : Cond.classLink "Quarterboard" 53 eIS ∈ wsX0_place := by decide +kernel
theorem ti_X0_place_53 : Cond.initialized eIS ∈ wsX0_place := by decide +kernel
theorem ta_X0_place_53 : ∀ w ∈ (vx_atS "Quarterboard" 57 eIS zNm).filter goodWord, w ∈ wsX0_place := by decide +kernel
def P_X0_place (q0 q1 q2 q3 q4 q5 q6 : Int32) (q7 : Int64) (q8 q9 : Int32) (q10 : Int64) (sq : Int32) : Int32 → QS → Prop := fun r u => (qNum sq = true ∧ q1 = 1 ∧ qHas q5 sq = false) ∧ u = (q0, (if 0 < (qWon (q5 ||| qBit sq) (qPutD q7 q3 sq) q0) then 2 else if q5 ||| qBit sq = 65535 then 2 else 0), q2, -1, (if 0 < (qWon (q5 ||| qBit sq) (qPutD q7 q3 sq) q0) then q2 else if q5 ||| qBit sq = 65535 then 2 else q4), q5 ||| qBit sq, q6 ||| qBit q3, qPutD q7 q3 sq, q8, q9, q10) ∧ r = nI (qWon (q5 ||| qBit sq) (qPutD q7 q3 sq) q0)
def PX_X0_place (q0 q1 q2 q3 q4 q5 q6 : Int32) (q7 : Int64) (q8 q9 : Int32) (q10 : Int64) (sq : Int32) : String → Prop := fun E => (E = eIO ∧ qNum sq = false) ∨ (E = eIS ∧ qNum sq = true ∧ (¬ q1 = 1 ∨ qHas q5 sq = true))
set_option maxHeartbeats 4000000 in
set_option maxRecDepth 100000 in
theorem c_X0_place (l : Launch) (g : zG) (bL h : Nat) (q0 q1 q2 q3 q4 q5 q6 : Int32) (q7 : Int64) (q8 q9 : Int32) (q10 : Int64) (sq : Int32) (htr : l.stackTraces = false)  : zMX l yX0_place wsX0_place 30 1000 g [.ref h, .int sq] (oQ h (q0, q1, q2, q3, q4, q5, q6, q7, q8, q9, q10)) (zEL bL) (zQi g (P_X0_place q0 q1 q2 q3 q4 q5 q6 q7 q8 q9 q10 sq) (oQ h)) (PX_X0_place q0 q1 q2 q3 q4 q5 q6 q7 q8 q9 q10 sq) := by
  refine zstartX (cc := cX0_place) (maxL := 3) (ret := (some .int)) (own := RX0) rfl (by decide) rfl zStL (Nat.le_of_ble_eq_true rfl) ?_
  intro p e s m below meth c A Z hr hlk ht H locs X ls hl
  have hx := Z.1.1
  have hb := Z.1.2.1
  have hin : ∀ w ∈ wsX00, w ∈ wsX0_place := inw_X0_place
  have hl : lv_has ls 3 [(0, .ref h), (1, .int sq)] := hl
  have X : zh g A (oQ h (q0, q1, q2, q3, q4, q5, q6, q7, q8, q9, q10)) s.heap H locs := X
  have hwl : qWon (q5 ||| qBit sq) (qPutD q7 q3 sq) q0 ≤ 19 := Nat.le_trans (qWonC_le _ _ _) (qLn_le q0).2
  refine lv_iload_n hx hb dX0_place_0 rfl (lv_at hl 1 rfl) ?_
  refine zcallSi (n := 1) (As := [.int sq]) (rest := []) Z X (c_X0_isNumber l g sq) gX0_place_X0_isNumber rfl (by decide +kernel) ⟨by show _ ≤ 30; omega, by show _ ≤ 1000; omega⟩ rfl rfl hl.1 (Nat.le_of_ble_eq_true rfl) dX0_place_1 ⟨Nat.zero_le _, Nat.zero_le _⟩ (fun r0 H locs hrr0 X => ?_)
  obtain rfl : r0 = zb (qNum sq) := hrr0
  refine lv_if_ne (tgt := 17) hx hb dX0_place_4 (by decide) (fun c2 => ?_) (fun c2 => ?_)
  · have qc2 := c2
    have hn : qNum sq = true := zb_n0.mp c2
    refine lv_aload_n hx hb dX0_place_17 rfl (lv_at hl 0 rfl) ?_
    refine zget (fs := [.int q0, .int q1, .int q2, .int q3, .int q4, .int q5, .int q6, .long q7, .int q8, .int q9, .long q10]) (v := .int q1) Z hin X (ci := 0) (C := RX0) (T := TX0) (N := 11) rfl rfl 1 (by decide) lk_X0_place_29 rfl dX0_place_18 ?_
    refine lv_iconst (v := (1 : Int32)) hx hb dX0_place_21 (by decide) ?_
    refine lv_icmp_eq (tgt := 35) hx hb dX0_place_22 (by decide) (fun c3 => ?_) (fun c3 => ?_)
    · have qc3 := c3
      have hs : q1 = 1 := c3
      refine lv_aload_n hx hb dX0_place_35 rfl (lv_at hl 0 rfl) ?_
      refine zget (fs := [.int q0, .int q1, .int q2, .int q3, .int q4, .int q5, .int q6, .long q7, .int q8, .int q9, .long q10]) (v := .int q5) Z hin X (ci := 0) (C := RX0) (T := TX0) (N := 11) rfl rfl 5 (by decide) lk_X0_place_16 rfl dX0_place_36 ?_
      refine lv_iload_n hx hb dX0_place_39 rfl (lv_at hl 1 rfl) ?_
      refine zcallSi (n := 2) (As := [.int q5, .int sq]) (rest := []) Z X (c_X0_has l g q5 sq) gX0_place_X0_has rfl (by decide +kernel) ⟨by show _ ≤ 30; omega, by show _ ≤ 1000; omega⟩ rfl rfl hl.1 (Nat.le_of_ble_eq_true rfl) dX0_place_40 ⟨Nat.zero_le _, Nat.zero_le _⟩ (fun r3 H locs hrr3 X => ?_)
      obtain rfl : r3 = zb (qHas q5 sq) := hrr3
      refine lv_if_eq (tgt := 56) hx hb dX0_place_43 (by decide) (fun c5 => ?_) (fun c5 => ?_)
      · have qc5 := c5
        have hh : qHas q5 sq = false := zb_0.mp c5
        refine lv_aload_n hx hb dX0_place_56 rfl (lv_at hl 0 rfl) ?_
        refine lv_aload_n hx hb dX0_place_57 rfl (lv_at hl 0 rfl) ?_
        refine zget (fs := [.int q0, .int q1, .int q2, .int q3, .int q4, .int q5, .int q6, .long q7, .int q8, .int q9, .long q10]) (v := .int q3) Z hin X (ci := 0) (C := RX0) (T := TX0) (N := 11) rfl rfl 3 (by decide) lk_X0_place_9 rfl dX0_place_58 ?_
        refine lv_iload_n hx hb dX0_place_61 rfl (lv_at hl 1 rfl) ?_
        refine zcallVv (n := 2) (As := [.int q3, .int sq]) (rest := []) (ci := 0) (C := RX0) (T := TX0) (N := 11) Z X (c_X0_put l g bL h q0 q1 q2 q3 q4 q5 q6 q7 q8 q9 q10 q3 sq) gX0_place_X0_put rfl (by decide +kernel) ⟨by show _ ≤ 30; omega, by show _ ≤ 1000; omega⟩ rfl rfl rfl rfl hl.1 (Nat.le_of_ble_eq_true rfl) dX0_place_62 ⟨Nat.zero_le _, Nat.zero_le _⟩ (fun ur5 H locs hrr5 X => ?_)
        obtain rfl : ur5 = (q0, q1, q2, q3, q4, (q5 ||| qBit sq), (q6 ||| qBit q3), (qPutD q7 q3 sq), q8, q9, q10) := hrr5
        have X : zh g A (oQ h (q0, q1, q2, q3, q4, (q5 ||| qBit sq), (q6 ||| qBit q3), (qPutD q7 q3 sq), q8, q9, q10)) s.heap H locs := X
        refine lv_aload_n hx hb dX0_place_65 rfl (lv_at hl 0 rfl) ?_
        refine lv_iconst (v := (-1 : Int32)) hx hb dX0_place_66 (by decide) ?_
        refine zput (ty := .int) (fs := [.int q0, .int q1, .int q2, .int q3, .int q4, .int (q5 ||| qBit sq), .int (q6 ||| qBit q3), .long (qPutD q7 q3 sq), .int q8, .int q9, .long q10]) (v := .int (-1 : Int32)) tyX0 tyX0_ok nmX0 Z hin X (ci := 0) (C := RX0) (T := TX0) (N := 11) rfl rfl 3 (by decide) lk_X0_place_9 rfl (by decide +kernel) rfl rfl (Nat.le_of_ble_eq_true rfl) dX0_place_67 (fun H locs X => ?_)
        have X : zh g A (oQ h (q0, q1, q2, (-1 : Int32), q4, (q5 ||| qBit sq), (q6 ||| qBit q3), (qPutD q7 q3 sq), q8, q9, q10)) s.heap H locs := X
        refine lv_aload_n hx hb dX0_place_70 rfl (lv_at hl 0 rfl) ?_
        refine zcallVi (n := 0) (As := []) (rest := []) (ci := 0) (C := RX0) (T := TX0) (N := 11) Z X (c_X0_wonLines l g bL h q0 q1 q2 (-1 : Int32) q4 (q5 ||| qBit sq) (q6 ||| qBit q3) (qPutD q7 q3 sq) q8 q9 q10 ) gX0_place_X0_wonLines rfl (by decide +kernel) ⟨by show _ ≤ 30; omega, by show _ ≤ 1000; omega⟩ rfl rfl rfl rfl hl.1 (Nat.le_of_ble_eq_true rfl) dX0_place_71 ⟨Nat.zero_le _, Nat.zero_le _⟩ (fun r6 ur6 H locs hrr6 X => ?_)
        obtain ⟨rfl, rfl⟩ : ur6 = (q0, q1, q2, (-1 : Int32), q4, (q5 ||| qBit sq), (q6 ||| qBit q3), (qPutD q7 q3 sq), q8, q9, q10) ∧ r6 = nI (qWon (q5 ||| qBit sq) (qPutD q7 q3 sq) q0) := hrr6
        have X : zh g A (oQ h (q0, q1, q2, (-1 : Int32), q4, (q5 ||| qBit sq), (q6 ||| qBit q3), (qPutD q7 q3 sq), q8, q9, q10)) s.heap H locs := X
        refine lv_istore_n (lv' := [(2, .int (nI (qWon (q5 ||| qBit sq) (qPutD q7 q3 sq) q0))), (0, .ref h), (1, .int sq)]) hx hb dX0_place_74 rfl hl (by decide) rfl (fun ls hl => ?_)
        refine lv_iload_n hx hb dX0_place_75 rfl (lv_at hl 0 rfl) ?_
        refine lv_if_le (tgt := 95) hx hb dX0_place_76 (by decide) (fun c8 => ?_) (fun c8 => ?_)
        · have qc8 := c8
          have c8n : (qWon (q5 ||| qBit sq) (qPutD q7 q3 sq) q0) ≤ 0 := zn_let (by omega) (by omega) c8
          have hw : ¬ 0 < (qWon (q5 ||| qBit sq) (qPutD q7 q3 sq) q0) := by omega
          refine lv_aload_n hx hb dX0_place_95 rfl (lv_at hl 1 rfl) ?_
          refine zget (fs := [.int q0, .int q1, .int q2, .int (-1 : Int32), .int q4, .int (q5 ||| qBit sq), .int (q6 ||| qBit q3), .long (qPutD q7 q3 sq), .int q8, .int q9, .long q10]) (v := .int (q5 ||| qBit sq)) Z hin X (ci := 0) (C := RX0) (T := TX0) (N := 11) rfl rfl 5 (by decide) lk_X0_place_16 rfl dX0_place_96 ?_
          refine lv_ldc (v := (65535 : Int32)) hx hb Z.1.2.2.2.1 (Z.1.2.2.2.2 (.constant RX0 78 (65535)) (by decide +kernel)) dX0_place_99 ?_
          refine lv_icmp_ne (tgt := 117) hx hb dX0_place_101 (by decide) (fun c9 => ?_) (fun c9 => ?_)
          · have qc9 := c9
            have hf5 : ¬ q5 ||| qBit sq = 65535 := c9
            refine lv_aload_n hx hb dX0_place_117 rfl (lv_at hl 1 rfl) ?_
            refine lv_iconst (v := (0 : Int32)) hx hb dX0_place_118 (by decide) ?_
            refine zput (ty := .int) (fs := [.int q0, .int q1, .int q2, .int (-1 : Int32), .int q4, .int (q5 ||| qBit sq), .int (q6 ||| qBit q3), .long (qPutD q7 q3 sq), .int q8, .int q9, .long q10]) (v := .int (0 : Int32)) tyX0 tyX0_ok nmX0 Z hin X (ci := 0) (C := RX0) (T := TX0) (N := 11) rfl rfl 1 (by decide) lk_X0_place_29 rfl (by decide +kernel) rfl rfl (Nat.le_of_ble_eq_true rfl) dX0_place_119 (fun H locs X => ?_)
            have X : zh g A (oQ h (q0, (0 : Int32), q2, (-1 : Int32), q4, (q5 ||| qBit sq), (q6 ||| qBit q3), (qPutD q7 q3 sq), q8, q9, q10)) s.heap H locs := X
            refine lv_iload_n hx hb dX0_place_122 rfl (lv_at hl 0 rfl) ?_
            exact vx_ret (W.widen (k := 1) (n := 6) (Nat.zero_le _) (Nat.zero_le _) (zreti Z hr hlk (q0, (0 : Int32), q2, (-1 : Int32), q4, (q5 ||| qBit sq), (q6 ||| qBit q3), (qPutD q7 q3 sq), q8, q9, q10) X dX0_place_123 rfl (⟨⟨hn, hs, hh⟩, by first | rw [if_pos hw, if_pos hw] | rw [if_neg hw, if_neg hw, if_pos hf5, if_pos hf5] | rw [if_neg hw, if_neg hw, if_neg hf5, if_neg hf5], rfl⟩)))
          · have qc9 := c9
            have hf5 : q5 ||| qBit sq = 65535 := c9
            refine lv_aload_n hx hb dX0_place_104 rfl (lv_at hl 1 rfl) ?_
            refine lv_iconst (v := (2 : Int32)) hx hb dX0_place_105 (by decide) ?_
            refine zput (ty := .int) (fs := [.int q0, .int q1, .int q2, .int (-1 : Int32), .int q4, .int (q5 ||| qBit sq), .int (q6 ||| qBit q3), .long (qPutD q7 q3 sq), .int q8, .int q9, .long q10]) (v := .int (2 : Int32)) tyX0 tyX0_ok nmX0 Z hin X (ci := 0) (C := RX0) (T := TX0) (N := 11) rfl rfl 1 (by decide) lk_X0_place_29 rfl (by decide +kernel) rfl rfl (Nat.le_of_ble_eq_true rfl) dX0_place_106 (fun H locs X => ?_)
            have X : zh g A (oQ h (q0, (2 : Int32), q2, (-1 : Int32), q4, (q5 ||| qBit sq), (q6 ||| qBit q3), (qPutD q7 q3 sq), q8, q9, q10)) s.heap H locs := X
            refine lv_aload_n hx hb dX0_place_109 rfl (lv_at hl 1 rfl) ?_
            refine lv_iconst (v := (2 : Int32)) hx hb dX0_place_110 (by decide) ?_
            refine zput (ty := .int) (fs := [.int q0, .int (2 : Int32), .int q2, .int (-1 : Int32), .int q4, .int (q5 ||| qBit sq), .int (q6 ||| qBit q3), .long (qPutD q7 q3 sq), .int q8, .int q9, .long q10]) (v := .int (2 : Int32)) tyX0 tyX0_ok nmX0 Z hin X (ci := 0) (C := RX0) (T := TX0) (N := 11) rfl rfl 4 (by decide) lk_X0_place_13 rfl (by decide +kernel) rfl rfl (Nat.le_of_ble_eq_true rfl) dX0_place_111 (fun H locs X => ?_)
            have X : zh g A (oQ h (q0, (2 : Int32), q2, (-1 : Int32), (2 : Int32), (q5 ||| qBit sq), (q6 ||| qBit q3), (qPutD q7 q3 sq), q8, q9, q10)) s.heap H locs := X
            refine lv_goto (tgt := 122) hx hb dX0_place_114 (by decide) ?_
            refine lv_iload_n hx hb dX0_place_122 rfl (lv_at hl 0 rfl) ?_
            exact vx_ret (W.widen (k := 1) (n := 6) (Nat.zero_le _) (Nat.zero_le _) (zreti Z hr hlk (q0, (2 : Int32), q2, (-1 : Int32), (2 : Int32), (q5 ||| qBit sq), (q6 ||| qBit q3), (qPutD q7 q3 sq), q8, q9, q10) X dX0_place_123 rfl (⟨⟨hn, hs, hh⟩, by first | rw [if_pos hw, if_pos hw] | rw [if_neg hw, if_neg hw, if_pos hf5, if_pos hf5] | rw [if_neg hw, if_neg hw, if_neg hf5, if_neg hf5], rfl⟩)))
        · have qc8 := c8
          have c8n : ¬ (qWon (q5 ||| qBit sq) (qPutD q7 q3 sq) q0) ≤ 0 := zn_len (by omega) (by omega) c8
          have hw : 0 < (qWon (q5 ||| qBit sq) (qPutD q7 q3 sq) q0) := by omega
          refine lv_aload_n hx hb dX0_place_79 rfl (lv_at hl 1 rfl) ?_
          refine lv_iconst (v := (2 : Int32)) hx hb dX0_place_80 (by decide) ?_
          refine zput (ty := .int) (fs := [.int q0, .int q1, .int q2, .int (-1 : Int32), .int q4, .int (q5 ||| qBit sq), .int (q6 ||| qBit q3), .long (qPutD q7 q3 sq), .int q8, .int q9, .long q10]) (v := .int (2 : Int32)) tyX0 tyX0_ok nmX0 Z hin X (ci := 0) (C := RX0) (T := TX0) (N := 11) rfl rfl 1 (by decide) lk_X0_place_29 rfl (by decide +kernel) rfl rfl (Nat.le_of_ble_eq_true rfl) dX0_place_81 (fun H locs X => ?_)
          have X : zh g A (oQ h (q0, (2 : Int32), q2, (-1 : Int32), q4, (q5 ||| qBit sq), (q6 ||| qBit q3), (qPutD q7 q3 sq), q8, q9, q10)) s.heap H locs := X
          refine lv_aload_n hx hb dX0_place_84 rfl (lv_at hl 1 rfl) ?_
          refine lv_aload_n hx hb dX0_place_85 rfl (lv_at hl 1 rfl) ?_
          refine zget (fs := [.int q0, .int (2 : Int32), .int q2, .int (-1 : Int32), .int q4, .int (q5 ||| qBit sq), .int (q6 ||| qBit q3), .long (qPutD q7 q3 sq), .int q8, .int q9, .long q10]) (v := .int q2) Z hin X (ci := 0) (C := RX0) (T := TX0) (N := 11) rfl rfl 2 (by decide) lk_X0_place_32 rfl dX0_place_86 ?_
          refine zput (ty := .int) (fs := [.int q0, .int (2 : Int32), .int q2, .int (-1 : Int32), .int q4, .int (q5 ||| qBit sq), .int (q6 ||| qBit q3), .long (qPutD q7 q3 sq), .int q8, .int q9, .long q10]) (v := .int q2) tyX0 tyX0_ok nmX0 Z hin X (ci := 0) (C := RX0) (T := TX0) (N := 11) rfl rfl 4 (by decide) lk_X0_place_13 rfl (by decide +kernel) rfl rfl (Nat.le_of_ble_eq_true rfl) dX0_place_89 (fun H locs X => ?_)
          have X : zh g A (oQ h (q0, (2 : Int32), q2, (-1 : Int32), q2, (q5 ||| qBit sq), (q6 ||| qBit q3), (qPutD q7 q3 sq), q8, q9, q10)) s.heap H locs := X
          refine lv_goto (tgt := 122) hx hb dX0_place_92 (by decide) ?_
          refine lv_iload_n hx hb dX0_place_122 rfl (lv_at hl 0 rfl) ?_
          exact vx_ret (W.widen (k := 1) (n := 6) (Nat.zero_le _) (Nat.zero_le _) (zreti Z hr hlk (q0, (2 : Int32), q2, (-1 : Int32), q2, (q5 ||| qBit sq), (q6 ||| qBit q3), (qPutD q7 q3 sq), q8, q9, q10) X dX0_place_123 rfl (⟨⟨hn, hs, hh⟩, by first | rw [if_pos hw, if_pos hw] | rw [if_neg hw, if_neg hw, if_pos hf5, if_pos hf5] | rw [if_neg hw, if_neg hw, if_neg hf5, if_neg hf5], rfl⟩)))
      · have qc5 := c5
        have hh : qHas q5 sq = true := zb_n0.mp c5
        exact zthrow (is := 68) (text := "the square is not empty") Z htr ht hlk X hl.1 (by decide +kernel) th_X0_place_53 ti_X0_place_53 (by decide +kernel) ta_X0_place_53 zB_57 zG_57 dX0_place_46 dX0_place_49 dX0_place_50 dX0_place_52 dX0_place_55 (Nat.le_of_ble_eq_true rfl) (Nat.le_of_ble_eq_true rfl) (Nat.le_refl _) (Nat.le_refl _) (Or.inr ⟨rfl, hn, Or.inr hh⟩)
    · have qc3 := c3
      have hs : ¬ q1 = 1 := c3
      exact zthrow (is := 66) (text := "no piece is in the hand") Z htr ht hlk X hl.1 (by decide +kernel) th_X0_place_53 ti_X0_place_53 (by decide +kernel) ta_X0_place_53 zB_57 zG_57 dX0_place_25 dX0_place_28 dX0_place_29 dX0_place_31 dX0_place_34 (Nat.le_of_ble_eq_true rfl) (Nat.le_of_ble_eq_true rfl) (Nat.le_refl _) (Nat.le_refl _) (Or.inr ⟨rfl, hn, Or.inl hs⟩)
  · have qc2 := c2
    have hn : qNum sq = false := zb_0.mp c2
    exact zthrow (is := 64) (text := "no such square") Z htr ht hlk X hl.1 (by decide +kernel) th_X0_place_46 ti_X0_place_46 (by decide +kernel) ta_X0_place_46 zB_50 zG_50 dX0_place_7 dX0_place_10 dX0_place_11 dX0_place_13 dX0_place_16 (Nat.le_of_ble_eq_true rfl) (Nat.le_of_ble_eq_true rfl) (Nat.le_refl _) (Nat.le_refl _) (Or.inl ⟨rfl, hn⟩)
