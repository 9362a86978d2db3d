/-! the class: the worth, the best -/
theorem c_search (l : Launch) (g : zG) (bL h : Nat) : ∀ n, n ≤ 1000 → K_GW l g bL h n ∧ K_GL l g bL h n ∧ K_PW l g bL h n ∧ K_PL l g bL h n := by
  intro n
  induction n with
  | zero =>
    intro _
    have hpw : K_PW l g bL h 0 := fun q0 q1 q2 q3 q4 q5 q6 q7 q8 q9 q10 pp hpp hu hinv => c_X0_placerWinsLater l g bL h q0 q1 q2 q3 q4 q5 q6 q7 q8 q9 q10 0 pp (by decide) hpp hu hinv (fun q => absurd q (by decide))
    have hpl : K_PL l g bL h 0 := fun q0 q1 q2 q3 q4 q5 q6 q7 q8 q9 q10 pp hpp hu hinv => c_X0_placerLoses l g bL h q0 q1 q2 q3 q4 q5 q6 q7 q8 q9 q10 0 pp (by decide) hpp hu hinv (fun q => absurd q (by decide))
    exact ⟨fun q0 q1 q2 q3 q4 q5 q6 q7 q8 q9 q10 hinv => c_X0_giverWins l g bL h q0 q1 q2 q3 q4 q5 q6 q7 q8 q9 q10 0 (by decide) hinv hpl, fun q0 q1 q2 q3 q4 q5 q6 q7 q8 q9 q10 hinv => c_X0_giverLoses l g bL h q0 q1 q2 q3 q4 q5 q6 q7 q8 q9 q10 0 (by decide) hinv hpw, hpw, hpl⟩
  | succ n ih =>
    intro hn
    obtain ⟨h1, h2, -, -⟩ := ih (by omega)
    have hpw : K_PW l g bL h (n + 1) := fun q0 q1 q2 q3 q4 q5 q6 q7 q8 q9 q10 pp hpp hu hinv => c_X0_placerWinsLater l g bL h q0 q1 q2 q3 q4 q5 q6 q7 q8 q9 q10 (n + 1) pp hn hpp hu hinv (fun _ => h1)
    have hpl : K_PL l g bL h (n + 1) := fun q0 q1 q2 q3 q4 q5 q6 q7 q8 q9 q10 pp hpp hu hinv => c_X0_placerLoses l g bL h q0 q1 q2 q3 q4 q5 q6 q7 q8 q9 q10 (n + 1) pp hn hpp hu hinv (fun _ => h2)
    exact ⟨fun q0 q1 q2 q3 q4 q5 q6 q7 q8 q9 q10 hinv => c_X0_giverWins l g bL h q0 q1 q2 q3 q4 q5 q6 q7 q8 q9 q10 (n + 1) hn hinv hpl, fun q0 q1 q2 q3 q4 q5 q6 q7 q8 q9 q10 hinv => c_X0_giverLoses l g bL h q0 q1 q2 q3 q4 q5 q6 q7 q8 q9 q10 (n + 1) hn hinv hpw, hpw, hpl⟩
theorem inw_X0_worthToGive : ∀ w ∈ wsX00, w ∈ wsX0_worthToGive := by decide +kernel
def P_X0_worthToGive (q0 q1 q2 q3 q4 q5 q6 : Int32) (q7 : Int64) (q8 q9 : Int32) (q10 : Int64) (n : Nat) : Int32 → QS → Prop := fun r u => u = (q0, q1, q2, q3, q4, q5, q6, q7, q8, q9, q10) ∧ r = qWG q0 n q5 q6 q7
set_option maxHeartbeats 4000000 in
set_option maxRecDepth 100000 in
theorem c_X0_worthToGive (l : Launch) (g : zG) (bL h : Nat) (q0 q1 q2 q3 q4 q5 q6 : Int32) (q7 : Int64) (q8 q9 : Int32) (q10 : Int64)  (n : Nat) (hn : n ≤ 1000) (hinv : qInv q5 q7) : zM l yX0_worthToGive wsX0_worthToGive (7 + 2 * n) (250 + 50 * n) g [.ref h, .int (nI n)] (oQ h (q0, q1, q2, q3, q4, q5, q6, q7, q8, q9, q10)) (zEL bL) (zQi g (P_X0_worthToGive q0 q1 q2 q3 q4 q5 q6 q7 q8 q9 q10 n) (oQ h)) := by
  refine zstart (cc := cX0_worthToGive) (maxL := 2) (ret := (some .int)) (own := RX0) rfl (by decide) rfl zStL (Nat.le_of_ble_eq_true rfl) ?_
  intro p e s m below meth c A Z hr hlk H locs X ls hl
  have hx := Z.1.1
  have hb := Z.1.2.1
  have hin : ∀ w ∈ wsX00, w ∈ wsX0_worthToGive := inw_X0_worthToGive
  have hl : lv_has ls 2 [(0, .ref h), (1, .int (nI n))] := hl
  have X : zh g A (oQ h (q0, q1, q2, q3, q4, q5, q6, q7, q8, q9, q10)) s.heap H locs := X
  have hcg := c_search l g bL h n hn
  refine lv_aload_n hx hb dX0_worthToGive_0 rfl (lv_at hl 0 rfl) ?_
  refine lv_iload_n hx hb dX0_worthToGive_1 rfl (lv_at hl 1 rfl) ?_
  refine zcallVi (n := 1) (As := [.int (nI n)]) (rest := []) (ci := 0) (C := RX0) (T := TX0) (N := 11) Z X (hcg.1 q0 q1 q2 q3 q4 q5 q6 q7 q8 q9 q10 hinv) gX0_worthToGive_X0_giverWins rfl (by decide +kernel) ⟨by show _ ≤ (7 + 2 * n); omega, by show _ ≤ (250 + 50 * n); omega⟩ rfl rfl rfl rfl hl.1 (Nat.le_of_ble_eq_true rfl) dX0_worthToGive_2 ⟨Nat.zero_le _, Nat.zero_le _⟩ (fun r0 ur0 H locs hrr0 X => ?_)
  obtain ⟨rfl, rfl⟩ : ur0 = (q0, q1, q2, q3, q4, q5, q6, q7, q8, q9, q10) ∧ r0 = zb (qGw q0 n q5 q6 q7) := hrr0
  have X : zh g A (oQ h (q0, q1, q2, q3, q4, q5, q6, q7, q8, q9, q10)) s.heap H locs := X
  refine lv_if_eq (tgt := 10) hx hb dX0_worthToGive_5 (by decide) (fun c2 => ?_) (fun c2 => ?_)
  · have qc2 := c2
    have h1 : qGw q0 n q5 q6 q7 = false := zb_0.mp c2
    refine lv_aload_n hx hb dX0_worthToGive_10 rfl (lv_at hl 0 rfl) ?_
    refine lv_iload_n hx hb dX0_worthToGive_11 rfl (lv_at hl 1 rfl) ?_
    refine zcallVi (n := 1) (As := [.int (nI n)]) (rest := []) (ci := 0) (C := RX0) (T := TX0) (N := 11) Z X (hcg.2.1 q0 q1 q2 q3 q4 q5 q6 q7 q8 q9 q10 hinv) gX0_worthToGive_X0_giverLoses rfl (by decide +kernel) ⟨by show _ ≤ (7 + 2 * n); omega, by show _ ≤ (250 + 50 * n); omega⟩ rfl rfl rfl rfl hl.1 (Nat.le_of_ble_eq_true rfl) dX0_worthToGive_12 ⟨Nat.zero_le _, Nat.zero_le _⟩ (fun r2 ur2 H locs hrr2 X => ?_)
    obtain ⟨rfl, rfl⟩ : ur2 = (q0, q1, q2, q3, q4, q5, q6, q7, q8, q9, q10) ∧ r2 = zb (qGl q0 n q5 q6 q7) := hrr2
    have X : zh g A (oQ h (q0, q1, q2, q3, q4, q5, q6, q7, q8, q9, q10)) s.heap H locs := X
    refine lv_if_eq (tgt := 22) hx hb dX0_worthToGive_15 (by decide) (fun c4 => ?_) (fun c4 => ?_)
    · have qc4 := c4
      have h2 : qGl q0 n q5 q6 q7 = false := zb_0.mp c4
      refine lv_iconst (v := (0 : Int32)) hx hb dX0_worthToGive_22 (by decide) ?_
      exact zreti Z hr hlk (q0, q1, q2, q3, q4, q5, q6, q7, q8, q9, q10) X dX0_worthToGive_23 rfl (⟨rfl, by simp only [qWG, h1, h2, decide_true, decide_false, Bool.and_true, Bool.and_false, Bool.true_and, Bool.false_and, not_true_eq_false, not_false_eq_true, Bool.not_true, Bool.not_false, if_true, if_false, and_true, true_and, and_false, false_and, Bool.false_eq_true, Bool.true_eq_false, eq_self]⟩)
    · have qc4 := c4
      have h2 : qGl q0 n q5 q6 q7 = true := zb_n0.mp c4
      refine lv_iconst (v := (-1 : Int32)) hx hb dX0_worthToGive_18 (by decide) ?_
      refine lv_goto (tgt := 23) hx hb dX0_worthToGive_19 (by decide) ?_
      exact zreti Z hr hlk (q0, q1, q2, q3, q4, q5, q6, q7, q8, q9, q10) X dX0_worthToGive_23 rfl (⟨rfl, by simp only [qWG, h1, h2, decide_true, decide_false, Bool.and_true, Bool.and_false, Bool.true_and, Bool.false_and, not_true_eq_false, not_false_eq_true, Bool.not_true, Bool.not_false, if_true, if_false, and_true, true_and, and_false, false_and, Bool.false_eq_true, Bool.true_eq_false, eq_self]⟩)
  · have qc2 := c2
    have h1 : qGw q0 n q5 q6 q7 = true := zb_n0.mp c2
    refine lv_iconst (v := (1 : Int32)) hx hb dX0_worthToGive_8 (by decide) ?_
    exact zreti Z hr hlk (q0, q1, q2, q3, q4, q5, q6, q7, q8, q9, q10) X dX0_worthToGive_9 rfl (⟨rfl, by simp only [qWG, h1, decide_true, decide_false, Bool.and_true, Bool.and_false, Bool.true_and, Bool.false_and, not_true_eq_false, not_false_eq_true, Bool.not_true, Bool.not_false, if_true, if_false, and_true, true_and, and_false, false_and, Bool.false_eq_true, Bool.true_eq_false, eq_self]⟩)
theorem inw_X0_worthToPlace : ∀ w ∈ wsX00, w ∈ wsX0_worthToPlace := by decide +kernel
def P_X0_worthToPlace (q0 q1 q2 q3 q4 q5 q6 : Int32) (q7 : Int64) (q8 q9 : Int32) (q10 : Int64) (n pp : Nat) : Int32 → QS → Prop := fun r u => u = (q0, q1, q2, q3, q4, q5, q6, q7, q8, q9, q10) ∧ r = qWP q0 n q5 q6 q7 pp
set_option maxHeartbeats 4000000 in
set_option maxRecDepth 100000 in
theorem c_X0_worthToPlace (l : Launch) (g : zG) (bL h : Nat) (q0 q1 q2 q3 q4 q5 q6 : Int32) (q7 : Int64) (q8 q9 : Int32) (q10 : Int64)  (n pp : Nat) (hn : n ≤ 1000) (hpp : pp < 16) (hu : qHas q6 (nI pp) = false) (hinv : qInv q5 q7) : zM l yX0_worthToPlace wsX0_worthToPlace (7 + 2 * n) (250 + 50 * n) g [.ref h, .int (nI pp), .int (nI n)] (oQ h (q0, q1, q2, q3, q4, q5, q6, q7, q8, q9, q10)) (zEL bL) (zQi g (P_X0_worthToPlace q0 q1 q2 q3 q4 q5 q6 q7 q8 q9 q10 n pp) (oQ h)) := by
  refine zstart (cc := cX0_worthToPlace) (maxL := 3) (ret := (some .int)) (own := RX0) rfl (by decide) rfl zStL (Nat.le_of_ble_eq_true rfl) ?_
  intro p e s m below meth c A Z hr hlk H locs X ls hl
  have hx := Z.1.1
  have hb := Z.1.2.1
  have hin : ∀ w ∈ wsX00, w ∈ wsX0_worthToPlace := inw_X0_worthToPlace
  have hl : lv_has ls 3 [(0, .ref h), (1, .int (nI pp)), (2, .int (nI n))] := hl
  have X : zh g A (oQ h (q0, q1, q2, q3, q4, q5, q6, q7, q8, q9, q10)) s.heap H locs := X
  have hcg := c_search l g bL h n hn
  refine lv_aload_n hx hb dX0_worthToPlace_0 rfl (lv_at hl 0 rfl) ?_
  refine lv_iload_n hx hb dX0_worthToPlace_1 rfl (lv_at hl 1 rfl) ?_
  refine zcallVi (n := 1) (As := [.int (nI pp)]) (rest := []) (ci := 0) (C := RX0) (T := TX0) (N := 11) Z X (c_X0_winningSquares l g bL h q0 q1 q2 q3 q4 q5 q6 q7 q8 q9 q10 (nI pp)) gX0_worthToPlace_X0_winningSquares rfl (by decide +kernel) ⟨by show _ ≤ (7 + 2 * n); omega, by show _ ≤ (250 + 50 * n); omega⟩ rfl rfl rfl rfl hl.1 (Nat.le_of_ble_eq_true rfl) dX0_worthToPlace_2 ⟨Nat.zero_le _, Nat.zero_le _⟩ (fun r0 ur0 H locs hrr0 X => ?_)
  obtain ⟨rfl, rfl⟩ : ur0 = (q0, q1, q2, q3, q4, q5, q6, q7, q8, q9, q10) ∧ r0 = qWin q5 q7 q0 (nI pp) := hrr0
  have X : zh g A (oQ h (q0, q1, q2, q3, q4, q5, q6, q7, q8, q9, q10)) s.heap H locs := X
  refine lv_if_ne (tgt := 17) hx hb dX0_worthToPlace_5 (by decide) (fun c2 => ?_) (fun c2 => ?_)
  · have qc2 := c2
    refine lv_iconst (v := (1 : Int32)) hx hb dX0_worthToPlace_17 (by decide) ?_
    exact zreti Z hr hlk (q0, q1, q2, q3, q4, q5, q6, q7, q8, q9, q10) X dX0_worthToPlace_18 rfl (⟨rfl, by simp only [qWP, c2, or_true, true_or, or_false, false_or, decide_true, decide_false, Bool.and_true, Bool.and_false, Bool.true_and, Bool.false_and, not_true_eq_false, not_false_eq_true, Bool.not_true, Bool.not_false, if_true, if_false, and_true, true_and, and_false, false_and, Bool.false_eq_true, Bool.true_eq_false, eq_self]⟩)
  · have qc2 := c2
    refine lv_aload_n hx hb dX0_worthToPlace_8 rfl (lv_at hl 0 rfl) ?_
    refine lv_iload_n hx hb dX0_worthToPlace_9 rfl (lv_at hl 1 rfl) ?_
    refine lv_iload_n hx hb dX0_worthToPlace_10 rfl (lv_at hl 2 rfl) ?_
    refine zcallVi (n := 2) (As := [.int (nI pp), .int (nI n)]) (rest := []) (ci := 0) (C := RX0) (T := TX0) (N := 11) Z X (hcg.2.2.1 q0 q1 q2 q3 q4 q5 q6 q7 q8 q9 q10 pp hpp hu hinv) gX0_worthToPlace_X0_placerWinsLater rfl (by decide +kernel) ⟨by show _ ≤ (7 + 2 * n); omega, by show _ ≤ (250 + 50 * n); omega⟩ rfl rfl rfl rfl hl.1 (Nat.le_of_ble_eq_true rfl) dX0_worthToPlace_11 ⟨Nat.zero_le _, Nat.zero_le _⟩ (fun r2 ur2 H locs hrr2 X => ?_)
    obtain ⟨rfl, rfl⟩ : ur2 = (q0, q1, q2, q3, q4, q5, q6, q7, q8, q9, q10) ∧ r2 = zb (qPw q0 n q5 q6 q7 pp) := hrr2
    have X : zh g A (oQ h (q0, q1, q2, q3, q4, q5, q6, q7, q8, q9, q10)) s.heap H locs := X
    refine lv_if_eq (tgt := 19) hx hb dX0_worthToPlace_14 (by decide) (fun c4 => ?_) (fun c4 => ?_)
    · have qc4 := c4
      have h1 : qPw q0 n q5 q6 q7 pp = false := zb_0.mp c4
      refine lv_aload_n hx hb dX0_worthToPlace_19 rfl (lv_at hl 0 rfl) ?_
      refine lv_iload_n hx hb dX0_worthToPlace_20 rfl (lv_at hl 1 rfl) ?_
      refine lv_iload_n hx hb dX0_worthToPlace_21 rfl (lv_at hl 2 rfl) ?_
      refine zcallVi (n := 2) (As := [.int (nI pp), .int (nI n)]) (rest := []) (ci := 0) (C := RX0) (T := TX0) (N := 11) Z X (hcg.2.2.2 q0 q1 q2 q3 q4 q5 q6 q7 q8 q9 q10 pp hpp hu hinv) gX0_worthToPlace_X0_placerLoses rfl (by decide +kernel) ⟨by show _ ≤ (7 + 2 * n); omega, by show _ ≤ (250 + 50 * n); omega⟩ rfl rfl rfl rfl hl.1 (Nat.le_of_ble_eq_true rfl) dX0_worthToPlace_22 ⟨Nat.zero_le _, Nat.zero_le _⟩ (fun r4 ur4 H locs hrr4 X => ?_)
      obtain ⟨rfl, rfl⟩ : ur4 = (q0, q1, q2, q3, q4, q5, q6, q7, q8, q9, q10) ∧ r4 = zb (qPl q0 n q5 q6 q7 pp) := hrr4
      have X : zh g A (oQ h (q0, q1, q2, q3, q4, q5, q6, q7, q8, q9, q10)) s.heap H locs := X
      refine lv_if_eq (tgt := 32) hx hb dX0_worthToPlace_25 (by decide) (fun c6 => ?_) (fun c6 => ?_)
      · have qc6 := c6
        have h2 : qPl q0 n q5 q6 q7 pp = false := zb_0.mp c6
        refine lv_iconst (v := (0 : Int32)) hx hb dX0_worthToPlace_32 (by decide) ?_
        exact zreti Z hr hlk (q0, q1, q2, q3, q4, q5, q6, q7, q8, q9, q10) X dX0_worthToPlace_33 rfl (⟨rfl, by simp only [qWP, c2, h1, h2, or_true, true_or, or_false, false_or, decide_true, decide_false, Bool.and_true, Bool.and_false, Bool.true_and, Bool.false_and, not_true_eq_false, not_false_eq_true, Bool.not_true, Bool.not_false, if_true, if_false, and_true, true_and, and_false, false_and, Bool.false_eq_true, Bool.true_eq_false, eq_self]⟩)
      · have qc6 := c6
        have h2 : qPl q0 n q5 q6 q7 pp = true := zb_n0.mp c6
        refine lv_iconst (v := (-1 : Int32)) hx hb dX0_worthToPlace_28 (by decide) ?_
        refine lv_goto (tgt := 33) hx hb dX0_worthToPlace_29 (by decide) ?_
        exact zreti Z hr hlk (q0, q1, q2, q3, q4, q5, q6, q7, q8, q9, q10) X dX0_worthToPlace_33 rfl (⟨rfl, by simp only [qWP, c2, h1, h2, or_true, true_or, or_false, false_or, decide_true, decide_false, Bool.and_true, Bool.and_false, Bool.true_and, Bool.false_and, not_true_eq_false, not_false_eq_true, Bool.not_true, Bool.not_false, if_true, if_false, and_true, true_and, and_false, false_and, Bool.false_eq_true, Bool.true_eq_false, eq_self]⟩)
    · have qc4 := c4
      have h1 : qPw q0 n q5 q6 q7 pp = true := zb_n0.mp c4
      refine lv_iconst (v := (1 : Int32)) hx hb dX0_worthToPlace_17 (by decide) ?_
      exact zreti Z hr hlk (q0, q1, q2, q3, q4, q5, q6, q7, q8, q9, q10) X dX0_worthToPlace_18 rfl (⟨rfl, by simp only [qWP, c2, h1, or_true, true_or, or_false, false_or, decide_true, decide_false, Bool.and_true, Bool.and_false, Bool.true_and, Bool.false_and, not_true_eq_false, not_false_eq_true, Bool.not_true, Bool.not_false, if_true, if_false, and_true, true_and, and_false, false_and, Bool.false_eq_true, Bool.true_eq_false, eq_self]⟩)
theorem inw_X0_worthAfterPlacing : ∀ w ∈ wsX00, w ∈ wsX0_worthAfterPlacing := by decide +kernel
theorem lk_X0_worthAfterPlacing_9 : Cond.fieldLink RX0 9 "Quarterboard" "held" "I" ∈ wsX0_worthAfterPlacing := by decide +kernel
def P_X0_worthAfterPlacing (q0 q1 q2 : Int32) (hp : Nat) (q4 q5 q6 : Int32) (q7 : Int64) (q8 q9 : Int32) (q10 : Int64) (n sq : Nat) : Int32 → QS → Prop := fun r u => u = (q0, q1, q2, nI hp, q4, q5, q6, q7, q8, q9, q10) ∧ r = qWA q0 n q5 q6 q7 hp sq
set_option maxHeartbeats 4000000 in
set_option maxRecDepth 100000 in
theorem c_X0_worthAfterPlacing (l : Launch) (g : zG) (bL h : Nat) (q0 q1 q2 : Int32) (hp : Nat) (q4 q5 q6 : Int32) (q7 : Int64) (q8 q9 : Int32) (q10 : Int64)  (n sq : Nat) (hn1 : 1 ≤ n) (hn : n ≤ 1000) (hpp : hp < 16) (hu : qHas q6 (nI hp) = false) (hsq : sq < 16) (hf : qHas q5 (nI sq) = false) (hinv : qInv q5 q7) : zM l yX0_worthAfterPlacing wsX0_worthAfterPlacing (8 + 2 * n) (300 + 50 * n) g [.ref h, .int (nI sq), .int (nI n)] (oQ h (q0, q1, q2, nI hp, q4, q5, q6, q7, q8, q9, q10)) (zEL bL) (zQi g (P_X0_worthAfterPlacing q0 q1 q2 hp q4 q5 q6 q7 q8 q9 q10 n sq) (oQ h)) := by
  refine zstart (cc := cX0_worthAfterPlacing) (maxL := 4) (ret := (some .int)) (own := RX0) rfl (by decide) rfl zStL (Nat.le_of_ble_eq_true rfl) ?_
  intro p e s m below meth c A Z hr hlk H locs X ls hl
  have hx := Z.1.1
  have hb := Z.1.2.1
  have hin : ∀ w ∈ wsX00, w ∈ wsX0_worthAfterPlacing := inw_X0_worthAfterPlacing
  have hl : lv_has ls 4 [(0, .ref h), (1, .int (nI sq)), (2, .int (nI n))] := hl
  have X : zh g A (oQ h (q0, q1, q2, nI hp, q4, q5, q6, q7, q8, q9, q10)) s.heap H locs := X
  refine lv_aload_n hx hb dX0_worthAfterPlacing_0 rfl (lv_at hl 0 rfl) ?_
  refine lv_aload_n hx hb dX0_worthAfterPlacing_1 rfl (lv_at hl 0 rfl) ?_
  refine zget (fs := [.int q0, .int q1, .int q2, .int (nI hp), .int q4, .int q5, .int q6, .long q7, .int q8, .int q9, .long q10]) (v := .int (nI hp)) Z hin X (ci := 0) (C := RX0) (T := TX0) (N := 11) rfl rfl 3 (by decide) lk_X0_worthAfterPlacing_9 rfl dX0_worthAfterPlacing_2 ?_
  refine zcallVi (n := 1) (As := [.int (nI hp)]) (rest := []) (ci := 0) (C := RX0) (T := TX0) (N := 11) Z X (c_X0_winningSquares l g bL h q0 q1 q2 (nI hp) q4 q5 q6 q7 q8 q9 q10 (nI hp)) gX0_worthAfterPlacing_X0_winningSquares rfl (by decide +kernel) ⟨by show _ ≤ (8 + 2 * n); omega, by show _ ≤ (300 + 50 * n); omega⟩ rfl rfl rfl rfl hl.1 (Nat.le_of_ble_eq_true rfl) dX0_worthAfterPlacing_5 ⟨Nat.zero_le _, Nat.zero_le _⟩ (fun r0 ur0 H locs hrr0 X => ?_)
  obtain ⟨rfl, rfl⟩ : ur0 = (q0, q1, q2, nI hp, q4, q5, q6, q7, q8, q9, q10) ∧ r0 = qWin q5 q7 q0 (nI hp) := hrr0
  have X : zh g A (oQ h (q0, q1, q2, nI hp, q4, q5, q6, q7, q8, q9, q10)) s.heap H locs := X
  refine lv_iload_n hx hb dX0_worthAfterPlacing_8 rfl (lv_at hl 1 rfl) ?_
  refine zcallSi (n := 2) (As := [.int (qWin q5 q7 q0 (nI hp)), .int (nI sq)]) (rest := []) Z X (c_X0_has l g (qWin q5 q7 q0 (nI hp)) (nI sq)) gX0_worthAfterPlacing_X0_has rfl (by decide +kernel) ⟨by show _ ≤ (8 + 2 * n); omega, by show _ ≤ (300 + 50 * n); omega⟩ rfl rfl hl.1 (Nat.le_of_ble_eq_true rfl) dX0_worthAfterPlacing_9 ⟨Nat.zero_le _, Nat.zero_le _⟩ (fun r1 H locs hrr1 X => ?_)
  obtain rfl : r1 = zb (qHas (qWin q5 q7 q0 (nI hp)) (nI sq)) := hrr1
  refine lv_if_eq (tgt := 17) hx hb dX0_worthAfterPlacing_12 (by decide) (fun c3 => ?_) (fun c3 => ?_)
  · have qc3 := c3
    have h1 : qHas (qWin q5 q7 q0 (nI hp)) (nI sq) = false := zb_0.mp c3
    refine lv_aload_n hx hb dX0_worthAfterPlacing_17 rfl (lv_at hl 0 rfl) ?_
    refine lv_aload_n hx hb dX0_worthAfterPlacing_18 rfl (lv_at hl 0 rfl) ?_
    refine zget (fs := [.int q0, .int q1, .int q2, .int (nI hp), .int q4, .int q5, .int q6, .long q7, .int q8, .int q9, .long q10]) (v := .int (nI hp)) Z hin X (ci := 0) (C := RX0) (T := TX0) (N := 11) rfl rfl 3 (by decide) lk_X0_worthAfterPlacing_9 rfl dX0_worthAfterPlacing_19 ?_
    refine lv_iload_n hx hb dX0_worthAfterPlacing_22 rfl (lv_at hl 1 rfl) ?_
    refine zcallVv (n := 2) (As := [.int (nI hp), .int (nI sq)]) (rest := []) (ci := 0) (C := RX0) (T := TX0) (N := 11) Z X (c_X0_put l g bL h q0 q1 q2 (nI hp) q4 q5 q6 q7 q8 q9 q10 (nI hp) (nI sq)) gX0_worthAfterPlacing_X0_put rfl (by decide +kernel) ⟨by show _ ≤ (8 + 2 * n); omega, by show _ ≤ (300 + 50 * n); omega⟩ rfl rfl rfl rfl hl.1 (Nat.le_of_ble_eq_true rfl) dX0_worthAfterPlacing_23 ⟨Nat.zero_le _, Nat.zero_le _⟩ (fun ur3 H locs hrr3 X => ?_)
    obtain rfl : ur3 = (q0, q1, q2, (nI hp), q4, (q5 ||| qBit (nI sq)), (q6 ||| qBit (nI hp)), (qPutD q7 (nI hp) (nI sq)), q8, q9, q10) := hrr3
    have X : zh g A (oQ h (q0, q1, q2, (nI hp), q4, (q5 ||| qBit (nI sq)), (q6 ||| qBit (nI hp)), (qPutD q7 (nI hp) (nI sq)), q8, q9, q10)) s.heap H locs := X
    refine lv_aload_n hx hb dX0_worthAfterPlacing_26 rfl (lv_at hl 0 rfl) ?_
    refine lv_iload_n hx hb dX0_worthAfterPlacing_27 rfl (lv_at hl 2 rfl) ?_
    refine lv_iconst (v := nI 1) hx hb dX0_worthAfterPlacing_28 (by decide) ?_
    refine lv_isub hx hb dX0_worthAfterPlacing_29 ?_
    refine zrwi (y := nI (n - 1)) (pk_sub (by omega)) ?_
    refine zcallVi (n := 1) (As := [.int (nI (n - 1))]) (rest := []) (ci := 0) (C := RX0) (T := TX0) (N := 11) Z X (c_X0_worthToGive l g bL h q0 q1 q2 (nI hp) q4 (q5 ||| qBit (nI sq)) (q6 ||| qBit (nI hp)) (qPutD q7 (nI hp) (nI sq)) q8 q9 q10 (n - 1) (by omega) (qInv_put hinv hpp hsq)) gX0_worthAfterPlacing_X0_worthToGive rfl (by decide +kernel) ⟨by show _ ≤ (8 + 2 * n); omega, by show _ ≤ (300 + 50 * n); omega⟩ rfl rfl rfl rfl hl.1 (Nat.le_of_ble_eq_true rfl) dX0_worthAfterPlacing_30 ⟨Nat.zero_le _, Nat.zero_le _⟩ (fun r4 ur4 H locs hrr4 X => ?_)
    obtain ⟨rfl, rfl⟩ : ur4 = (q0, q1, q2, (nI hp), q4, (q5 ||| qBit (nI sq)), (q6 ||| qBit (nI hp)), (qPutD q7 (nI hp) (nI sq)), q8, q9, q10) ∧ r4 = qWG q0 (n - 1) (q5 ||| qBit (nI sq)) (q6 ||| qBit (nI hp)) (qPutD q7 (nI hp) (nI sq)) := hrr4
    have X : zh g A (oQ h (q0, q1, q2, (nI hp), q4, (q5 ||| qBit (nI sq)), (q6 ||| qBit (nI hp)), (qPutD q7 (nI hp) (nI sq)), q8, q9, q10)) s.heap H locs := X
    refine lv_istore_n (lv' := [(3, .int (qWG q0 (n - 1) (q5 ||| qBit (nI sq)) (q6 ||| qBit (nI hp)) (qPutD q7 (nI hp) (nI sq)))), (0, .ref h), (1, .int (nI sq)), (2, .int (nI n))]) hx hb dX0_worthAfterPlacing_33 rfl hl (by decide) rfl (fun ls hl => ?_)
    refine lv_aload_n hx hb dX0_worthAfterPlacing_34 rfl (lv_at hl 1 rfl) ?_
    refine lv_aload_n hx hb dX0_worthAfterPlacing_35 rfl (lv_at hl 1 rfl) ?_
    refine zget (fs := [.int q0, .int q1, .int q2, .int (nI hp), .int q4, .int (q5 ||| qBit (nI sq)), .int (q6 ||| qBit (nI hp)), .long (qPutD q7 (nI hp) (nI sq)), .int q8, .int q9, .long q10]) (v := .int (nI hp)) Z hin X (ci := 0) (C := RX0) (T := TX0) (N := 11) rfl rfl 3 (by decide) lk_X0_worthAfterPlacing_9 rfl dX0_worthAfterPlacing_36 ?_
    refine lv_iload_n hx hb dX0_worthAfterPlacing_39 rfl (lv_at hl 2 rfl) ?_
    refine zcallVv (n := 2) (As := [.int (nI hp), .int (nI sq)]) (rest := []) (ci := 0) (C := RX0) (T := TX0) (N := 11) Z X (c_X0_lift l g bL h q0 q1 q2 (nI hp) q4 (q5 ||| qBit (nI sq)) (q6 ||| qBit (nI hp)) (qPutD q7 (nI hp) (nI sq)) q8 q9 q10 (nI hp) (nI sq)) gX0_worthAfterPlacing_X0_lift rfl (by decide +kernel) ⟨by show _ ≤ (8 + 2 * n); omega, by show _ ≤ (300 + 50 * n); omega⟩ rfl rfl rfl rfl hl.1 (Nat.le_of_ble_eq_true rfl) dX0_worthAfterPlacing_40 ⟨Nat.zero_le _, Nat.zero_le _⟩ (fun ur5 H locs hrr5 X => ?_)
    obtain rfl : ur5 = (q0, q1, q2, (nI hp), q4, ((q5 ||| qBit (nI sq)) &&& (qBit (nI sq) ^^^ (-1 : Int32))), ((q6 ||| qBit (nI hp)) &&& (qBit (nI hp) ^^^ (-1 : Int32))), (qLiftD (qPutD q7 (nI hp) (nI sq)) (nI sq)), q8, q9, q10) := hrr5
    have X : zh g A (oQ h (q0, q1, q2, (nI hp), q4, ((q5 ||| qBit (nI sq)) &&& (qBit (nI sq) ^^^ (-1 : Int32))), ((q6 ||| qBit (nI hp)) &&& (qBit (nI hp) ^^^ (-1 : Int32))), (qLiftD (qPutD q7 (nI hp) (nI sq)) (nI sq)), q8, q9, q10)) s.heap H locs := X
    have X : zh g A (oQ h (q0, q1, q2, nI hp, q4, q5, q6, q7, q8, q9, q10)) s.heap H locs := by rw [qOrAnd q5 (p := sq) hsq hf, qOrAnd q6 hpp hu, qLiftPut q7 hpp hsq (hinv sq hsq hf)] at X; exact X
    refine lv_iload_n hx hb dX0_worthAfterPlacing_43 rfl (lv_at hl 0 rfl) ?_
    exact zreti Z hr hlk (q0, q1, q2, nI hp, q4, q5, q6, q7, q8, q9, q10) X dX0_worthAfterPlacing_44 rfl (⟨rfl, by simp only [qWA, h1, decide_true, decide_false, Bool.and_true, Bool.and_false, Bool.true_and, Bool.false_and, not_true_eq_false, not_false_eq_true, Bool.not_true, Bool.not_false, if_true, if_false, and_true, true_and, and_false, false_and, Bool.false_eq_true, Bool.true_eq_false, eq_self]⟩)
  · have qc3 := c3
    have h1 : qHas (qWin q5 q7 q0 (nI hp)) (nI sq) = true := zb_n0.mp c3
    refine lv_iconst (v := (1 : Int32)) hx hb dX0_worthAfterPlacing_15 (by decide) ?_
    exact zreti Z hr hlk (q0, q1, q2, nI hp, q4, q5, q6, q7, q8, q9, q10) X dX0_worthAfterPlacing_16 rfl (⟨rfl, by simp only [qWA, h1, decide_true, decide_false, Bool.and_true, Bool.and_false, Bool.true_and, Bool.false_and, not_true_eq_false, not_false_eq_true, Bool.not_true, Bool.not_false, if_true, if_false, and_true, true_and, and_false, false_and, Bool.false_eq_true, Bool.true_eq_false, eq_self]⟩)
theorem inw_X0_bestPiece : ∀ w ∈ wsX00, w ∈ wsX0_bestPiece := by decide +kernel
theorem lk_X0_bestPiece_35 : Cond.fieldLink RX0 35 "Quarterboard" "used" "I" ∈ wsX0_bestPiece := by decide +kernel
def P_X0_bestPiece (q0 q1 q2 q3 q4 q5 q6 : Int32) (q7 : Int64) (q8 q9 : Int32) (q10 : Int64) (n : Nat) : Int32 → QS → Prop := fun r u => u = (q0, q1, q2, q3, q4, q5, q6, q7, q8, q9, q10) ∧ r = nI (qBP q0 n q5 q6 q7)
set_option maxHeartbeats 4000000 in
set_option maxRecDepth 100000 in
theorem c_X0_bestPiece (l : Launch) (g : zG) (bL h : Nat) (q0 q1 q2 q3 q4 q5 q6 : Int32) (q7 : Int64) (q8 q9 : Int32) (q10 : Int64)  (n : Nat) (hn : n ≤ 1000) (hinv : qInv q5 q7) : zM l yX0_bestPiece wsX0_bestPiece (8 + 2 * n) (300 + 50 * n) g [.ref h, .int (nI n)] (oQ h (q0, q1, q2, q3, q4, q5, q6, q7, q8, q9, q10)) (zEL bL) (zQi g (P_X0_bestPiece q0 q1 q2 q3 q4 q5 q6 q7 q8 q9 q10 n) (oQ h)) := by
  refine zstart (cc := cX0_bestPiece) (maxL := 4) (ret := (some .int)) (own := RX0) rfl (by decide) rfl zStL (Nat.le_of_ble_eq_true rfl) ?_
  intro p e s m below meth c A Z hr hlk H locs X ls hl
  have hx := Z.1.1
  have hb := Z.1.2.1
  have hin : ∀ w ∈ wsX00, w ∈ wsX0_bestPiece := inw_X0_bestPiece
  have hl : lv_has ls 4 [(0, .ref h), (1, .int (nI n))] := hl
  have X : zh g A (oQ h (q0, q1, q2, q3, q4, q5, q6, q7, q8, q9, q10)) s.heap H locs := X
  refine lv_aload_n hx hb dX0_bestPiece_0 rfl (lv_at hl 0 rfl) ?_
  refine lv_iload_n hx hb dX0_bestPiece_1 rfl (lv_at hl 1 rfl) ?_
  refine zcallVi (n := 1) (As := [.int (nI n)]) (rest := []) (ci := 0) (C := RX0) (T := TX0) (N := 11) Z X (c_X0_worthToGive l g bL h q0 q1 q2 q3 q4 q5 q6 q7 q8 q9 q10 n hn hinv) gX0_bestPiece_X0_worthToGive rfl (by decide +kernel) ⟨by show _ ≤ (8 + 2 * n); omega, by show _ ≤ (300 + 50 * n); omega⟩ rfl rfl rfl rfl hl.1 (Nat.le_of_ble_eq_true rfl) dX0_bestPiece_2 ⟨Nat.zero_le _, Nat.zero_le _⟩ (fun r0 ur0 H locs hrr0 X => ?_)
  obtain ⟨rfl, rfl⟩ : ur0 = (q0, q1, q2, q3, q4, q5, q6, q7, q8, q9, q10) ∧ r0 = qWG q0 n q5 q6 q7 := hrr0
  have X : zh g A (oQ h (q0, q1, q2, q3, q4, q5, q6, q7, q8, q9, q10)) s.heap H locs := X
  refine lv_istore_n (lv' := [(2, .int (qWG q0 n q5 q6 q7)), (0, .ref h), (1, .int (nI n))]) hx hb dX0_bestPiece_5 rfl hl (by decide) rfl (fun ls hl => ?_)
  refine lv_iconst (v := (0 : Int32)) hx hb dX0_bestPiece_6 (by decide) ?_
  refine lv_istore_n (lv' := [(3, .int (0 : Int32)), (2, .int (qWG q0 n q5 q6 q7)), (0, .ref h), (1, .int (nI n))]) hx hb dX0_bestPiece_7 rfl hl (by decide) rfl (fun ls hl => ?_)
  have cut8 : ∀ (n8 : Nat), ∀ (k : Nat), (k ≤ 15) → (qBP q0 n q5 q6 q7 = findN (qBPF q0 n q5 q6 q7) (15 - k) k) → (16 - k ≤ n8) → ∀ (H : Heap) (locs : List Loc) (ls : Array Slot), zh g A (oQ h (q0, q1, q2, q3, q4, q5, q6, q7, q8, q9, q10)) s.heap H locs → lv_has ls 4 [(3, .int (nI k)), (2, .int (qWG q0 n q5 q6 q7)), (0, .ref h), (1, .int (nI n))] → W p l e { frames := (8 + 2 * n), cells := 0, slots := 0, locals := (300 + 50 * n) } s m ([.ref h, .int (nI n)] : List Value).toArray below meth c H locs 0 0 (MQ below ((zQi g (P_X0_bestPiece q0 q1 q2 q3 q4 q5 q6 q7 q8 q9 q10 n) (oQ h)) A) ([.ref h, .int (nI n)] : List Value).toArray s 0 0 A) (F0 m 8 ls []) := by
    intro n8
    induction n8 with
    | zero =>
      intro k hk hz hm8
      exact absurd hm8 (by omega)
    | succ n8 ih8 =>
      intro k hk hz hm8 H locs ls X hl
      refine lv_iload_n hx hb dX0_bestPiece_8 rfl (lv_at hl 0 rfl) ?_
      refine lv_bipush (v := (15 : Int32)) hx hb dX0_bestPiece_9 (by decide) ?_
      refine lv_icmp_ge (tgt := 42) hx hb dX0_bestPiece_11 (by decide) (fun c2 => ?_) (fun c2 => ?_)
      · have qc2 := c2
        have c2n : 15 ≤ k := zn_let (by omega) (by omega) c2
        refine lv_iload_n hx hb dX0_bestPiece_42 rfl (lv_at hl 0 rfl) ?_
        exact zreti Z hr hlk (q0, q1, q2, q3, q4, q5, q6, q7, q8, q9, q10) X dX0_bestPiece_43 rfl (⟨rfl, congrArg nI (by first | exact (findN_15 (by omega) hz).symm | exact (findN_t (by omega) (by unfold qBPF; rw [hf, decide_eq_true he]; rfl) hz).symm)⟩)
      · have qc2 := c2
        have c2n : ¬ 15 ≤ k := zn_len (by omega) (by omega) c2
        refine lv_aload_n hx hb dX0_bestPiece_14 rfl (lv_at hl 2 rfl) ?_
        refine zget (fs := [.int q0, .int q1, .int q2, .int q3, .int q4, .int q5, .int q6, .long q7, .int q8, .int q9, .long q10]) (v := .int q6) Z hin X (ci := 0) (C := RX0) (T := TX0) (N := 11) rfl rfl 6 (by decide) lk_X0_bestPiece_35 rfl dX0_bestPiece_15 ?_
        refine lv_iload_n hx hb dX0_bestPiece_18 rfl (lv_at hl 0 rfl) ?_
        refine zcallSi (n := 2) (As := [.int q6, .int (nI k)]) (rest := []) Z X (c_X0_has l g q6 (nI k)) gX0_bestPiece_X0_has rfl (by decide +kernel) ⟨by show _ ≤ (8 + 2 * n); omega, by show _ ≤ (300 + 50 * n); omega⟩ rfl rfl hl.1 (Nat.le_of_ble_eq_true rfl) dX0_bestPiece_19 ⟨Nat.zero_le _, Nat.zero_le _⟩ (fun r2 H locs hrr2 X => ?_)
        obtain rfl : r2 = zb (qHas q6 (nI k)) := hrr2
        refine lv_if_ne (tgt := 36) hx hb dX0_bestPiece_22 (by decide) (fun c4 => ?_) (fun c4 => ?_)
        · have qc4 := c4
          have hf : qHas q6 (nI k) = true := zb_n0.mp c4
          refine lv_iinc (v := nI (k + 1)) (lv' := [(3, .int (nI (k + 1))), (2, .int (qWG q0 n q5 q6 q7)), (0, .ref h), (1, .int (nI n))]) hx hb dX0_bestPiece_36 hl (k := 0) rfl (zi_inc k) (by decide) rfl (fun ls hl => ?_)
          refine lv_goto (tgt := 8) hx hb dX0_bestPiece_39 (by decide) ?_
          exact ih8 (k + 1) (by first | assumption | omega) (by first | exact findN_s (by omega) (by unfold qBPF; rw [hf]; rfl) hz | exact findN_s (by omega) (by unfold qBPF; rw [decide_eq_false he, Bool.and_false]) hz) (by omega) H locs ls X (lv_sub hl [0, 1, 2, 3] rfl)
        · have qc4 := c4
          have hf : qHas q6 (nI k) = false := zb_0.mp c4
          refine lv_aload_n hx hb dX0_bestPiece_25 rfl (lv_at hl 2 rfl) ?_
          refine lv_iload_n hx hb dX0_bestPiece_26 rfl (lv_at hl 0 rfl) ?_
          refine lv_iload_n hx hb dX0_bestPiece_27 rfl (lv_at hl 3 rfl) ?_
          refine zcallVi (n := 2) (As := [.int (nI k), .int (nI n)]) (rest := []) (ci := 0) (C := RX0) (T := TX0) (N := 11) Z X (c_X0_worthToPlace l g bL h q0 q1 q2 q3 q4 q5 q6 q7 q8 q9 q10 n k hn (by omega) hf hinv) gX0_bestPiece_X0_worthToPlace rfl (by decide +kernel) ⟨by show _ ≤ (8 + 2 * n); omega, by show _ ≤ (300 + 50 * n); omega⟩ rfl rfl rfl rfl hl.1 (Nat.le_of_ble_eq_true rfl) dX0_bestPiece_28 ⟨Nat.zero_le _, Nat.zero_le _⟩ (fun r4 ur4 H locs hrr4 X => ?_)
          obtain ⟨rfl, rfl⟩ : ur4 = (q0, q1, q2, q3, q4, q5, q6, q7, q8, q9, q10) ∧ r4 = qWP q0 n q5 q6 q7 k := hrr4
          have X : zh g A (oQ h (q0, q1, q2, q3, q4, q5, q6, q7, q8, q9, q10)) s.heap H locs := X
          refine lv_ineg hx hb dX0_bestPiece_31 ?_
          refine lv_iload_n hx hb dX0_bestPiece_32 rfl (lv_at hl 1 rfl) ?_
          refine lv_icmp_eq (tgt := 42) hx hb dX0_bestPiece_33 (by decide) (fun c6 => ?_) (fun c6 => ?_)
          · have qc6 := c6
            have he : -qWP q0 n q5 q6 q7 k = qWG q0 n q5 q6 q7 := c6
            refine lv_iload_n hx hb dX0_bestPiece_42 rfl (lv_at hl 0 rfl) ?_
            exact zreti Z hr hlk (q0, q1, q2, q3, q4, q5, q6, q7, q8, q9, q10) X dX0_bestPiece_43 rfl (⟨rfl, congrArg nI (by first | exact (findN_15 (by omega) hz).symm | exact (findN_t (by omega) (by unfold qBPF; rw [hf, decide_eq_true he]; rfl) hz).symm)⟩)
          · have qc6 := c6
            have he : ¬ -qWP q0 n q5 q6 q7 k = qWG q0 n q5 q6 q7 := c6
            refine lv_iinc (v := nI (k + 1)) (lv' := [(3, .int (nI (k + 1))), (2, .int (qWG q0 n q5 q6 q7)), (0, .ref h), (1, .int (nI n))]) hx hb dX0_bestPiece_36 hl (k := 0) rfl (zi_inc k) (by decide) rfl (fun ls hl => ?_)
            refine lv_goto (tgt := 8) hx hb dX0_bestPiece_39 (by decide) ?_
            exact ih8 (k + 1) (by first | assumption | omega) (by first | exact findN_s (by omega) (by unfold qBPF; rw [hf]; rfl) hz | exact findN_s (by omega) (by unfold qBPF; rw [decide_eq_false he, Bool.and_false]) hz) (by omega) H locs ls X (lv_sub hl [0, 1, 2, 3] rfl)
  exact cut8 16 0 (by first | assumption | omega) (rfl) (by omega) H locs ls X (lv_sub hl [0, 1, 2, 3] rfl)
theorem inw_X0_bestSquare : ∀ w ∈ wsX00, w ∈ wsX0_bestSquare := by decide +kernel
theorem lk_X0_bestSquare_9 : Cond.fieldLink RX0 9 "Quarterboard" "held" "I" ∈ wsX0_bestSquare := by decide +kernel
theorem lk_X0_bestSquare_16 : Cond.fieldLink RX0 16 "Quarterboard" "filled" "I" ∈ wsX0_bestSquare := by decide +kernel
def P_X0_bestSquare (q0 q1 q2 : Int32) (hp : Nat) (q4 q5 q6 : Int32) (q7 : Int64) (q8 q9 : Int32) (q10 : Int64) (n : Nat) : Int32 → QS → Prop := fun r u => u = (q0, q1, q2, nI hp, q4, q5, q6, q7, q8, q9, q10) ∧ r = nI (qBS q0 n q5 q6 q7 hp)
set_option maxHeartbeats 4000000 in
set_option maxRecDepth 100000 in
theorem c_X0_bestSquare (l : Launch) (g : zG) (bL h : Nat) (q0 q1 q2 : Int32) (hp : Nat) (q4 q5 q6 : Int32) (q7 : Int64) (q8 q9 : Int32) (q10 : Int64)  (n : Nat) (hn1 : 1 ≤ n) (hn : n ≤ 1000) (hpp : hp < 16) (hu : qHas q6 (nI hp) = false) (hinv : qInv q5 q7) : zM l yX0_bestSquare wsX0_bestSquare (9 + 2 * n) (350 + 50 * n) g [.ref h, .int (nI n)] (oQ h (q0, q1, q2, nI hp, q4, q5, q6, q7, q8, q9, q10)) (zEL bL) (zQi g (P_X0_bestSquare q0 q1 q2 hp q4 q5 q6 q7 q8 q9 q10 n) (oQ h)) := by
  refine zstart (cc := cX0_bestSquare) (maxL := 4) (ret := (some .int)) (own := RX0) rfl (by decide) rfl zStL (Nat.le_of_ble_eq_true rfl) ?_
  intro p e s m below meth c A Z hr hlk H locs X ls hl
  have hx := Z.1.1
  have hb := Z.1.2.1
  have hin : ∀ w ∈ wsX00, w ∈ wsX0_bestSquare := inw_X0_bestSquare
  have hl : lv_has ls 4 [(0, .ref h), (1, .int (nI n))] := hl
  have X : zh g A (oQ h (q0, q1, q2, nI hp, q4, q5, q6, q7, q8, q9, q10)) s.heap H locs := X
  refine lv_aload_n hx hb dX0_bestSquare_0 rfl (lv_at hl 0 rfl) ?_
  refine lv_aload_n hx hb dX0_bestSquare_1 rfl (lv_at hl 0 rfl) ?_
  refine zget (fs := [.int q0, .int q1, .int q2, .int (nI hp), .int q4, .int q5, .int q6, .long q7, .int q8, .int q9, .long q10]) (v := .int (nI hp)) Z hin X (ci := 0) (C := RX0) (T := TX0) (N := 11) rfl rfl 3 (by decide) lk_X0_bestSquare_9 rfl dX0_bestSquare_2 ?_
  refine lv_iload_n hx hb dX0_bestSquare_5 rfl (lv_at hl 1 rfl) ?_
  refine zcallVi (n := 2) (As := [.int (nI hp), .int (nI n)]) (rest := []) (ci := 0) (C := RX0) (T := TX0) (N := 11) Z X (c_X0_worthToPlace l g bL h q0 q1 q2 (nI hp) q4 q5 q6 q7 q8 q9 q10 n hp hn hpp hu hinv) gX0_bestSquare_X0_worthToPlace rfl (by decide +kernel) ⟨by show _ ≤ (9 + 2 * n); omega, by show _ ≤ (350 + 50 * n); omega⟩ rfl rfl rfl rfl hl.1 (Nat.le_of_ble_eq_true rfl) dX0_bestSquare_6 ⟨Nat.zero_le _, Nat.zero_le _⟩ (fun r0 ur0 H locs hrr0 X => ?_)
  obtain ⟨rfl, rfl⟩ : ur0 = (q0, q1, q2, nI hp, q4, q5, q6, q7, q8, q9, q10) ∧ r0 = qWP q0 n q5 q6 q7 hp := hrr0
  have X : zh g A (oQ h (q0, q1, q2, nI hp, q4, q5, q6, q7, q8, q9, q10)) s.heap H locs := X
  refine lv_istore_n (lv' := [(2, .int (qWP q0 n q5 q6 q7 hp)), (0, .ref h), (1, .int (nI n))]) hx hb dX0_bestSquare_9 rfl hl (by decide) rfl (fun ls hl => ?_)
  refine lv_iconst (v := (0 : Int32)) hx hb dX0_bestSquare_10 (by decide) ?_
  refine lv_istore_n (lv' := [(3, .int (0 : Int32)), (2, .int (qWP q0 n q5 q6 q7 hp)), (0, .ref h), (1, .int (nI n))]) hx hb dX0_bestSquare_11 rfl hl (by decide) rfl (fun ls hl => ?_)
  have cut12 : ∀ (n12 : Nat), ∀ (k : Nat), (k ≤ 15) → (qBS q0 n q5 q6 q7 hp = findN (qBSF q0 n q5 q6 q7 hp) (15 - k) k) → (16 - k ≤ n12) → ∀ (H : Heap) (locs : List Loc) (ls : Array Slot), zh g A (oQ h (q0, q1, q2, nI hp, q4, q5, q6, q7, q8, q9, q10)) s.heap H locs → lv_has ls 4 [(3, .int (nI k)), (2, .int (qWP q0 n q5 q6 q7 hp)), (0, .ref h), (1, .int (nI n))] → W p l e { frames := (9 + 2 * n), cells := 0, slots := 0, locals := (350 + 50 * n) } s m ([.ref h, .int (nI n)] : List Value).toArray below meth c H locs 0 0 (MQ below ((zQi g (P_X0_bestSquare q0 q1 q2 hp q4 q5 q6 q7 q8 q9 q10 n) (oQ h)) A) ([.ref h, .int (nI n)] : List Value).toArray s 0 0 A) (F0 m 12 ls []) := by
    intro n12
    induction n12 with
    | zero =>
      intro k hk hz hm12
      exact absurd hm12 (by omega)
    | succ n12 ih12 =>
      intro k hk hz hm12 H locs ls X hl
      refine lv_iload_n hx hb dX0_bestSquare_12 rfl (lv_at hl 0 rfl) ?_
      refine lv_bipush (v := (15 : Int32)) hx hb dX0_bestSquare_13 (by decide) ?_
      refine lv_icmp_ge (tgt := 45) hx hb dX0_bestSquare_15 (by decide) (fun c2 => ?_) (fun c2 => ?_)
      · have qc2 := c2
        have c2n : 15 ≤ k := zn_let (by omega) (by omega) c2
        refine lv_iload_n hx hb dX0_bestSquare_45 rfl (lv_at hl 0 rfl) ?_
        exact zreti Z hr hlk (q0, q1, q2, nI hp, q4, q5, q6, q7, q8, q9, q10) X dX0_bestSquare_46 rfl (⟨rfl, congrArg nI (by first | exact (findN_15 (by omega) hz).symm | exact (findN_t (by omega) (by unfold qBSF; rw [hf, decide_eq_true he]; rfl) hz).symm)⟩)
      · have qc2 := c2
        have c2n : ¬ 15 ≤ k := zn_len (by omega) (by omega) c2
        refine lv_aload_n hx hb dX0_bestSquare_18 rfl (lv_at hl 2 rfl) ?_
        refine zget (fs := [.int q0, .int q1, .int q2, .int (nI hp), .int q4, .int q5, .int q6, .long q7, .int q8, .int q9, .long q10]) (v := .int q5) Z hin X (ci := 0) (C := RX0) (T := TX0) (N := 11) rfl rfl 5 (by decide) lk_X0_bestSquare_16 rfl dX0_bestSquare_19 ?_
        refine lv_iload_n hx hb dX0_bestSquare_22 rfl (lv_at hl 0 rfl) ?_
        refine zcallSi (n := 2) (As := [.int q5, .int (nI k)]) (rest := []) Z X (c_X0_has l g q5 (nI k)) gX0_bestSquare_X0_has rfl (by decide +kernel) ⟨by show _ ≤ (9 + 2 * n); omega, by show _ ≤ (350 + 50 * n); omega⟩ rfl rfl hl.1 (Nat.le_of_ble_eq_true rfl) dX0_bestSquare_23 ⟨Nat.zero_le _, Nat.zero_le _⟩ (fun r2 H locs hrr2 X => ?_)
        obtain rfl : r2 = zb (qHas q5 (nI k)) := hrr2
        refine lv_if_ne (tgt := 39) hx hb dX0_bestSquare_26 (by decide) (fun c4 => ?_) (fun c4 => ?_)
        · have qc4 := c4
          have hf : qHas q5 (nI k) = true := zb_n0.mp c4
          refine lv_iinc (v := nI (k + 1)) (lv' := [(3, .int (nI (k + 1))), (2, .int (qWP q0 n q5 q6 q7 hp)), (0, .ref h), (1, .int (nI n))]) hx hb dX0_bestSquare_39 hl (k := 0) rfl (zi_inc k) (by decide) rfl (fun ls hl => ?_)
          refine lv_goto (tgt := 12) hx hb dX0_bestSquare_42 (by decide) ?_
          exact ih12 (k + 1) (by first | assumption | omega) (by first | exact findN_s (by omega) (by unfold qBSF; rw [hf]; rfl) hz | exact findN_s (by omega) (by unfold qBSF; rw [decide_eq_false he, Bool.and_false]) hz) (by omega) H locs ls X (lv_sub hl [0, 1, 2, 3] rfl)
        · have qc4 := c4
          have hf : qHas q5 (nI k) = false := zb_0.mp c4
          refine lv_aload_n hx hb dX0_bestSquare_29 rfl (lv_at hl 2 rfl) ?_
          refine lv_iload_n hx hb dX0_bestSquare_30 rfl (lv_at hl 0 rfl) ?_
          refine lv_iload_n hx hb dX0_bestSquare_31 rfl (lv_at hl 3 rfl) ?_
          refine zcallVi (n := 2) (As := [.int (nI k), .int (nI n)]) (rest := []) (ci := 0) (C := RX0) (T := TX0) (N := 11) Z X (c_X0_worthAfterPlacing l g bL h q0 q1 q2 hp q4 q5 q6 q7 q8 q9 q10 n k hn1 hn hpp hu (by omega) hf hinv) gX0_bestSquare_X0_worthAfterPlacing rfl (by decide +kernel) ⟨by show _ ≤ (9 + 2 * n); omega, by show _ ≤ (350 + 50 * n); omega⟩ rfl rfl rfl rfl hl.1 (Nat.le_of_ble_eq_true rfl) dX0_bestSquare_32 ⟨Nat.zero_le _, Nat.zero_le _⟩ (fun r4 ur4 H locs hrr4 X => ?_)
          obtain ⟨rfl, rfl⟩ : ur4 = (q0, q1, q2, nI hp, q4, q5, q6, q7, q8, q9, q10) ∧ r4 = qWA q0 n q5 q6 q7 hp k := hrr4
          have X : zh g A (oQ h (q0, q1, q2, nI hp, q4, q5, q6, q7, q8, q9, q10)) s.heap H locs := X
          refine lv_iload_n hx hb dX0_bestSquare_35 rfl (lv_at hl 1 rfl) ?_
          refine lv_icmp_eq (tgt := 45) hx hb dX0_bestSquare_36 (by decide) (fun c6 => ?_) (fun c6 => ?_)
          · have qc6 := c6
            have he : qWA q0 n q5 q6 q7 hp k = qWP q0 n q5 q6 q7 hp := c6
            refine lv_iload_n hx hb dX0_bestSquare_45 rfl (lv_at hl 0 rfl) ?_
            exact zreti Z hr hlk (q0, q1, q2, nI hp, q4, q5, q6, q7, q8, q9, q10) X dX0_bestSquare_46 rfl (⟨rfl, congrArg nI (by first | exact (findN_15 (by omega) hz).symm | exact (findN_t (by omega) (by unfold qBSF; rw [hf, decide_eq_true he]; rfl) hz).symm)⟩)
          · have qc6 := c6
            have he : ¬ qWA q0 n q5 q6 q7 hp k = qWP q0 n q5 q6 q7 hp := c6
            refine lv_iinc (v := nI (k + 1)) (lv' := [(3, .int (nI (k + 1))), (2, .int (qWP q0 n q5 q6 q7 hp)), (0, .ref h), (1, .int (nI n))]) hx hb dX0_bestSquare_39 hl (k := 0) rfl (zi_inc k) (by decide) rfl (fun ls hl => ?_)
            refine lv_goto (tgt := 12) hx hb dX0_bestSquare_42 (by decide) ?_
            exact ih12 (k + 1) (by first | assumption | omega) (by first | exact findN_s (by omega) (by unfold qBSF; rw [hf]; rfl) hz | exact findN_s (by omega) (by unfold qBSF; rw [decide_eq_false he, Bool.and_false]) hz) (by omega) H locs ls X (lv_sub hl [0, 1, 2, 3] rfl)
  exact cut12 16 0 (by first | assumption | omega) (rfl) (by omega) H locs ls X (lv_sub hl [0, 1, 2, 3] rfl)
