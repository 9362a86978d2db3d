/-! the class: what is asked and what is kept -/
def qSym (f : Int32) (d : Int64) (of : Int32) (od : Int64) : Nat → Int32
  | 0 => 0
  | k + 1 => qSym f d of od k + qWays f d k of od
theorem inw_X0_phase : ∀ w ∈ wsX00, w ∈ wsX0_phase := by decide +kernel
theorem lk_X0_phase_29 : Cond.fieldLink RX0 29 "Quarterboard" "stage" "I" ∈ wsX0_phase := by decide +kernel
def P_X0_phase (q0 q1 q2 q3 q4 q5 q6 : Int32) (q7 : Int64) (q8 q9 : Int32) (q10 : Int64) : Int32 → QS → Prop := fun r u => u = (q0, q1, q2, q3, q4, q5, q6, q7, q8, q9, q10) ∧ r = q1
set_option maxHeartbeats 4000000 in
set_option maxRecDepth 100000 in
theorem c_X0_phase (l : Launch) (g : zG) (bL h : Nat) (q0 q1 q2 q3 q4 q5 q6 : Int32) (q7 : Int64) (q8 q9 : Int32) (q10 : Int64)   : zM l yX0_phase wsX0_phase 0 0 g [.ref h] (oQ h (q0, q1, q2, q3, q4, q5, q6, q7, q8, q9, q10)) (zEL bL) (zQi g (P_X0_phase q0 q1 q2 q3 q4 q5 q6 q7 q8 q9 q10) (oQ h)) := by
  refine zstart (cc := cX0_phase) (maxL := 1) (ret := (some .int)) (own := RX0) rfl (by decide) rfl zStL (Nat.le_of_ble_eq_true rfl) ?_
  intro p e s m below meth c A Z hr hlk H locs X ls hl
  have hx := Z.1.1
  have hb := Z.1.2.1
  have hin : ∀ w ∈ wsX00, w ∈ wsX0_phase := inw_X0_phase
  have hl : lv_has ls 1 [(0, .ref h)] := hl
  have X : zh g A (oQ h (q0, q1, q2, q3, q4, q5, q6, q7, q8, q9, q10)) s.heap H locs := X
  refine lv_aload_n hx hb dX0_phase_0 rfl (lv_at hl 0 rfl) ?_
  refine zget (fs := [.int q0, .int q1, .int q2, .int q3, .int q4, .int q5, .int q6, .long q7, .int q8, .int q9, .long q10]) (v := .int q1) Z hin X (ci := 0) (C := RX0) (T := TX0) (N := 11) rfl rfl 1 (by decide) lk_X0_phase_29 rfl dX0_phase_1 ?_
  exact zreti Z hr hlk (q0, q1, q2, q3, q4, q5, q6, q7, q8, q9, q10) X dX0_phase_4 rfl (⟨rfl, rfl⟩)
theorem inw_X0_onTurn : ∀ w ∈ wsX00, w ∈ wsX0_onTurn := by decide +kernel
theorem lk_X0_onTurn_32 : Cond.fieldLink RX0 32 "Quarterboard" "player" "I" ∈ wsX0_onTurn := by decide +kernel
def P_X0_onTurn (q0 q1 q2 q3 q4 q5 q6 : Int32) (q7 : Int64) (q8 q9 : Int32) (q10 : Int64) : Int32 → QS → Prop := fun r u => u = (q0, q1, q2, q3, q4, q5, q6, q7, q8, q9, q10) ∧ r = q2
set_option maxHeartbeats 4000000 in
set_option maxRecDepth 100000 in
theorem c_X0_onTurn (l : Launch) (g : zG) (bL h : Nat) (q0 q1 q2 q3 q4 q5 q6 : Int32) (q7 : Int64) (q8 q9 : Int32) (q10 : Int64)   : zM l yX0_onTurn wsX0_onTurn 0 0 g [.ref h] (oQ h (q0, q1, q2, q3, q4, q5, q6, q7, q8, q9, q10)) (zEL bL) (zQi g (P_X0_onTurn q0 q1 q2 q3 q4 q5 q6 q7 q8 q9 q10) (oQ h)) := by
  refine zstart (cc := cX0_onTurn) (maxL := 1) (ret := (some .int)) (own := RX0) rfl (by decide) rfl zStL (Nat.le_of_ble_eq_true rfl) ?_
  intro p e s m below meth c A Z hr hlk H locs X ls hl
  have hx := Z.1.1
  have hb := Z.1.2.1
  have hin : ∀ w ∈ wsX00, w ∈ wsX0_onTurn := inw_X0_onTurn
  have hl : lv_has ls 1 [(0, .ref h)] := hl
  have X : zh g A (oQ h (q0, q1, q2, q3, q4, q5, q6, q7, q8, q9, q10)) s.heap H locs := X
  refine lv_aload_n hx hb dX0_onTurn_0 rfl (lv_at hl 0 rfl) ?_
  refine zget (fs := [.int q0, .int q1, .int q2, .int q3, .int q4, .int q5, .int q6, .long q7, .int q8, .int q9, .long q10]) (v := .int q2) Z hin X (ci := 0) (C := RX0) (T := TX0) (N := 11) rfl rfl 2 (by decide) lk_X0_onTurn_32 rfl dX0_onTurn_1 ?_
  exact zreti Z hr hlk (q0, q1, q2, q3, q4, q5, q6, q7, q8, q9, q10) X dX0_onTurn_4 rfl (⟨rfl, rfl⟩)
theorem inw_X0_hand : ∀ w ∈ wsX00, w ∈ wsX0_hand := by decide +kernel
theorem lk_X0_hand_9 : Cond.fieldLink RX0 9 "Quarterboard" "held" "I" ∈ wsX0_hand := by decide +kernel
def P_X0_hand (q0 q1 q2 q3 q4 q5 q6 : Int32) (q7 : Int64) (q8 q9 : Int32) (q10 : Int64) : Int32 → QS → Prop := fun r u => u = (q0, q1, q2, q3, q4, q5, q6, q7, q8, q9, q10) ∧ r = q3
set_option maxHeartbeats 4000000 in
set_option maxRecDepth 100000 in
theorem c_X0_hand (l : Launch) (g : zG) (bL h : Nat) (q0 q1 q2 q3 q4 q5 q6 : Int32) (q7 : Int64) (q8 q9 : Int32) (q10 : Int64)   : zM l yX0_hand wsX0_hand 0 0 g [.ref h] (oQ h (q0, q1, q2, q3, q4, q5, q6, q7, q8, q9, q10)) (zEL bL) (zQi g (P_X0_hand q0 q1 q2 q3 q4 q5 q6 q7 q8 q9 q10) (oQ h)) := by
  refine zstart (cc := cX0_hand) (maxL := 1) (ret := (some .int)) (own := RX0) rfl (by decide) rfl zStL (Nat.le_of_ble_eq_true rfl) ?_
  intro p e s m below meth c A Z hr hlk H locs X ls hl
  have hx := Z.1.1
  have hb := Z.1.2.1
  have hin : ∀ w ∈ wsX00, w ∈ wsX0_hand := inw_X0_hand
  have hl : lv_has ls 1 [(0, .ref h)] := hl
  have X : zh g A (oQ h (q0, q1, q2, q3, q4, q5, q6, q7, q8, q9, q10)) s.heap H locs := X
  refine lv_aload_n hx hb dX0_hand_0 rfl (lv_at hl 0 rfl) ?_
  refine zget (fs := [.int q0, .int q1, .int q2, .int q3, .int q4, .int q5, .int q6, .long q7, .int q8, .int q9, .long q10]) (v := .int q3) Z hin X (ci := 0) (C := RX0) (T := TX0) (N := 11) rfl rfl 3 (by decide) lk_X0_hand_9 rfl dX0_hand_1 ?_
  exact zreti Z hr hlk (q0, q1, q2, q3, q4, q5, q6, q7, q8, q9, q10) X dX0_hand_4 rfl (⟨rfl, rfl⟩)
theorem inw_X0_winner : ∀ w ∈ wsX00, w ∈ wsX0_winner := by decide +kernel
theorem lk_X0_winner_13 : Cond.fieldLink RX0 13 "Quarterboard" "victor" "I" ∈ wsX0_winner := by decide +kernel
def P_X0_winner (q0 q1 q2 q3 q4 q5 q6 : Int32) (q7 : Int64) (q8 q9 : Int32) (q10 : Int64) : Int32 → QS → Prop := fun r u => u = (q0, q1, q2, q3, q4, q5, q6, q7, q8, q9, q10) ∧ r = q4
set_option maxHeartbeats 4000000 in
set_option maxRecDepth 100000 in
theorem c_X0_winner (l : Launch) (g : zG) (bL h : Nat) (q0 q1 q2 q3 q4 q5 q6 : Int32) (q7 : Int64) (q8 q9 : Int32) (q10 : Int64)   : zM l yX0_winner wsX0_winner 0 0 g [.ref h] (oQ h (q0, q1, q2, q3, q4, q5, q6, q7, q8, q9, q10)) (zEL bL) (zQi g (P_X0_winner q0 q1 q2 q3 q4 q5 q6 q7 q8 q9 q10) (oQ h)) := by
  refine zstart (cc := cX0_winner) (maxL := 1) (ret := (some .int)) (own := RX0) rfl (by decide) rfl zStL (Nat.le_of_ble_eq_true rfl) ?_
  intro p e s m below meth c A Z hr hlk H locs X ls hl
  have hx := Z.1.1
  have hb := Z.1.2.1
  have hin : ∀ w ∈ wsX00, w ∈ wsX0_winner := inw_X0_winner
  have hl : lv_has ls 1 [(0, .ref h)] := hl
  have X : zh g A (oQ h (q0, q1, q2, q3, q4, q5, q6, q7, q8, q9, q10)) s.heap H locs := X
  refine lv_aload_n hx hb dX0_winner_0 rfl (lv_at hl 0 rfl) ?_
  refine zget (fs := [.int q0, .int q1, .int q2, .int q3, .int q4, .int q5, .int q6, .long q7, .int q8, .int q9, .long q10]) (v := .int q4) Z hin X (ci := 0) (C := RX0) (T := TX0) (N := 11) rfl rfl 4 (by decide) lk_X0_winner_13 rfl dX0_winner_1 ?_
  exact zreti Z hr hlk (q0, q1, q2, q3, q4, q5, q6, q7, q8, q9, q10) X dX0_winner_4 rfl (⟨rfl, rfl⟩)
theorem inw_X0_placed : ∀ w ∈ wsX00, w ∈ wsX0_placed := by decide +kernel
theorem lk_X0_placed_16 : Cond.fieldLink RX0 16 "Quarterboard" "filled" "I" ∈ wsX0_placed := by decide +kernel
def P_X0_placed (q0 q1 q2 q3 q4 q5 q6 : Int32) (q7 : Int64) (q8 q9 : Int32) (q10 : Int64) : Int32 → QS → Prop := fun r u => u = (q0, q1, q2, q3, q4, q5, q6, q7, q8, q9, q10) ∧ r = qBc q5
set_option maxHeartbeats 4000000 in
set_option maxRecDepth 100000 in
theorem c_X0_placed (l : Launch) (g : zG) (bL h : Nat) (q0 q1 q2 q3 q4 q5 q6 : Int32) (q7 : Int64) (q8 q9 : Int32) (q10 : Int64)   : zM l yX0_placed wsX0_placed 1 40 g [.ref h] (oQ h (q0, q1, q2, q3, q4, q5, q6, q7, q8, q9, q10)) (zEL bL) (zQi g (P_X0_placed q0 q1 q2 q3 q4 q5 q6 q7 q8 q9 q10) (oQ h)) := by
  refine zstart (cc := cX0_placed) (maxL := 1) (ret := (some .int)) (own := RX0) rfl (by decide) rfl zStL (Nat.le_of_ble_eq_true rfl) ?_
  intro p e s m below meth c A Z hr hlk H locs X ls hl
  have hx := Z.1.1
  have hb := Z.1.2.1
  have hin : ∀ w ∈ wsX00, w ∈ wsX0_placed := inw_X0_placed
  have hl : lv_has ls 1 [(0, .ref h)] := hl
  have X : zh g A (oQ h (q0, q1, q2, q3, q4, q5, q6, q7, q8, q9, q10)) s.heap H locs := X
  refine lv_aload_n hx hb dX0_placed_0 rfl (lv_at hl 0 rfl) ?_
  refine zget (fs := [.int q0, .int q1, .int q2, .int q3, .int q4, .int q5, .int q6, .long q7, .int q8, .int q9, .long q10]) (v := .int q5) Z hin X (ci := 0) (C := RX0) (T := TX0) (N := 11) rfl rfl 5 (by decide) lk_X0_placed_16 rfl dX0_placed_1 ?_
  refine zcallSi (n := 1) (As := [.int q5]) (rest := []) Z X (c_J6_bitCount_0f7a4 l g q5) gX0_placed_J6_bitCount_0f7a4 rfl (by decide +kernel) ⟨Nat.le_of_ble_eq_true rfl, Nat.le_of_ble_eq_true rfl⟩ rfl rfl hl.1 (Nat.le_of_ble_eq_true rfl) dX0_placed_4 ⟨Nat.zero_le _, Nat.zero_le _⟩ (fun r0 H locs hrr0 X => ?_)
  obtain rfl : r0 = qBc q5 := hrr0
  exact zreti Z hr hlk (q0, q1, q2, q3, q4, q5, q6, q7, q8, q9, q10) X dX0_placed_7 rfl (⟨rfl, rfl⟩)
theorem inw_X0_keep : ∀ w ∈ wsX00, w ∈ wsX0_keep := by decide +kernel
theorem lk_X0_keep_126 : Cond.fieldLink RX0 126 "Quarterboard" "hasKept" "Z" ∈ wsX0_keep := by decide +kernel
theorem lk_X0_keep_16 : Cond.fieldLink RX0 16 "Quarterboard" "filled" "I" ∈ wsX0_keep := by decide +kernel
theorem lk_X0_keep_129 : Cond.fieldLink RX0 129 "Quarterboard" "keptFilled" "I" ∈ wsX0_keep := by decide +kernel
theorem lk_X0_keep_38 : Cond.fieldLink RX0 38 "Quarterboard" "digits" "J" ∈ wsX0_keep := by decide +kernel
theorem lk_X0_keep_132 : Cond.fieldLink RX0 132 "Quarterboard" "keptDigits" "J" ∈ wsX0_keep := by decide +kernel
def P_X0_keep (q0 q1 q2 q3 q4 q5 q6 : Int32) (q7 : Int64) (q8 q9 : Int32) (q10 : Int64) : Int32 → QS → Prop := fun r u => u = (q0, q1, q2, q3, q4, q5, q6, q7, 1, q5, q7) ∧ r = qBc q5
set_option maxHeartbeats 4000000 in
set_option maxRecDepth 100000 in
theorem c_X0_keep (l : Launch) (g : zG) (bL h : Nat) (q0 q1 q2 q3 q4 q5 q6 : Int32) (q7 : Int64) (q8 q9 : Int32) (q10 : Int64)   : zM l yX0_keep wsX0_keep 1 40 g [.ref h] (oQ h (q0, q1, q2, q3, q4, q5, q6, q7, q8, q9, q10)) (zEL bL) (zQi g (P_X0_keep q0 q1 q2 q3 q4 q5 q6 q7 q8 q9 q10) (oQ h)) := by
  refine zstart (cc := cX0_keep) (maxL := 1) (ret := (some .int)) (own := RX0) rfl (by decide) rfl zStL (Nat.le_of_ble_eq_true rfl) ?_
  intro p e s m below meth c A Z hr hlk H locs X ls hl
  have hx := Z.1.1
  have hb := Z.1.2.1
  have hin : ∀ w ∈ wsX00, w ∈ wsX0_keep := inw_X0_keep
  have hl : lv_has ls 1 [(0, .ref h)] := hl
  have X : zh g A (oQ h (q0, q1, q2, q3, q4, q5, q6, q7, q8, q9, q10)) s.heap H locs := X
  refine lv_aload_n hx hb dX0_keep_0 rfl (lv_at hl 0 rfl) ?_
  refine lv_iconst (v := (1 : Int32)) hx hb dX0_keep_1 (by decide) ?_
  refine zput (ty := .boolean) (fs := [.int q0, .int q1, .int q2, .int q3, .int q4, .int q5, .int q6, .long q7, .int q8, .int q9, .long q10]) (v := .int (1 : Int32)) tyX0 tyX0_ok nmX0 Z hin X (ci := 0) (C := RX0) (T := TX0) (N := 11) rfl rfl 8 (by decide) lk_X0_keep_126 rfl (by decide +kernel) rfl rfl (Nat.le_of_ble_eq_true rfl) dX0_keep_2 (fun H locs X => ?_)
  have X : zh g A (oQ h (q0, q1, q2, q3, q4, q5, q6, q7, (1 : Int32), q9, q10)) s.heap H locs := X
  refine lv_aload_n hx hb dX0_keep_5 rfl (lv_at hl 0 rfl) ?_
  refine lv_aload_n hx hb dX0_keep_6 rfl (lv_at hl 0 rfl) ?_
  refine zget (fs := [.int q0, .int q1, .int q2, .int q3, .int q4, .int q5, .int q6, .long q7, .int (1 : Int32), .int q9, .long q10]) (v := .int q5) Z hin X (ci := 0) (C := RX0) (T := TX0) (N := 11) rfl rfl 5 (by decide) lk_X0_keep_16 rfl dX0_keep_7 ?_
  refine zput (ty := .int) (fs := [.int q0, .int q1, .int q2, .int q3, .int q4, .int q5, .int q6, .long q7, .int (1 : Int32), .int q9, .long q10]) (v := .int q5) tyX0 tyX0_ok nmX0 Z hin X (ci := 0) (C := RX0) (T := TX0) (N := 11) rfl rfl 9 (by decide) lk_X0_keep_129 rfl (by decide +kernel) rfl rfl (Nat.le_of_ble_eq_true rfl) dX0_keep_10 (fun H locs X => ?_)
  have X : zh g A (oQ h (q0, q1, q2, q3, q4, q5, q6, q7, (1 : Int32), q5, q10)) s.heap H locs := X
  refine lv_aload_n hx hb dX0_keep_13 rfl (lv_at hl 0 rfl) ?_
  refine lv_aload_n hx hb dX0_keep_14 rfl (lv_at hl 0 rfl) ?_
  refine zget (fs := [.int q0, .int q1, .int q2, .int q3, .int q4, .int q5, .int q6, .long q7, .int (1 : Int32), .int q5, .long q10]) (v := .long q7) Z hin X (ci := 0) (C := RX0) (T := TX0) (N := 11) rfl rfl 7 (by decide) lk_X0_keep_38 rfl dX0_keep_15 ?_
  refine zput (ty := .long) (fs := [.int q0, .int q1, .int q2, .int q3, .int q4, .int q5, .int q6, .long q7, .int (1 : Int32), .int q5, .long q10]) (v := .long q7) tyX0 tyX0_ok nmX0 Z hin X (ci := 0) (C := RX0) (T := TX0) (N := 11) rfl rfl 10 (by decide) lk_X0_keep_132 rfl (by decide +kernel) rfl rfl (Nat.le_of_ble_eq_true rfl) dX0_keep_18 (fun H locs X => ?_)
  have X : zh g A (oQ h (q0, q1, q2, q3, q4, q5, q6, q7, (1 : Int32), q5, q7)) s.heap H locs := X
  refine lv_aload_n hx hb dX0_keep_21 rfl (lv_at hl 0 rfl) ?_
  refine zget (fs := [.int q0, .int q1, .int q2, .int q3, .int q4, .int q5, .int q6, .long q7, .int (1 : Int32), .int q5, .long q7]) (v := .int q5) Z hin X (ci := 0) (C := RX0) (T := TX0) (N := 11) rfl rfl 5 (by decide) lk_X0_keep_16 rfl dX0_keep_22 ?_
  refine zcallSi (n := 1) (As := [.int q5]) (rest := []) Z X (c_J6_bitCount_0f7a4 l g q5) gX0_keep_J6_bitCount_0f7a4 rfl (by decide +kernel) ⟨Nat.le_of_ble_eq_true rfl, Nat.le_of_ble_eq_true rfl⟩ rfl rfl hl.1 (Nat.le_of_ble_eq_true rfl) dX0_keep_25 ⟨Nat.zero_le _, Nat.zero_le _⟩ (fun r0 H locs hrr0 X => ?_)
  obtain rfl : r0 = qBc q5 := hrr0
  exact zreti Z hr hlk (q0, q1, q2, q3, q4, q5, q6, q7, (1 : Int32), q5, q7) X dX0_keep_28 rfl (⟨rfl, rfl⟩)
theorem inw_X0_begin : ∀ w ∈ wsX00, w ∈ wsX0_begin := by decide +kernel
theorem lk_X0_begin_16 : Cond.fieldLink RX0 16 "Quarterboard" "filled" "I" ∈ wsX0_begin := by decide +kernel
theorem lk_X0_begin_25 : Cond.fieldLink RX0 25 "Quarterboard" "withBlocks" "Z" ∈ wsX0_begin := by decide +kernel
theorem lk_X0_begin_29 : Cond.fieldLink RX0 29 "Quarterboard" "stage" "I" ∈ wsX0_begin := by decide +kernel
theorem lk_X0_begin_32 : Cond.fieldLink RX0 32 "Quarterboard" "player" "I" ∈ wsX0_begin := by decide +kernel
theorem lk_X0_begin_9 : Cond.fieldLink RX0 9 "Quarterboard" "held" "I" ∈ wsX0_begin := by decide +kernel
theorem lk_X0_begin_13 : Cond.fieldLink RX0 13 "Quarterboard" "victor" "I" ∈ wsX0_begin := by decide +kernel
theorem lk_X0_begin_35 : Cond.fieldLink RX0 35 "Quarterboard" "used" "I" ∈ wsX0_begin := by decide +kernel
theorem lk_X0_begin_38 : Cond.fieldLink RX0 38 "Quarterboard" "digits" "J" ∈ wsX0_begin := by decide +kernel
def P_X0_begin (q0 q1 q2 q3 q4 q5 q6 : Int32) (q7 : Int64) (q8 q9 : Int32) (q10 : Int64) (bb : Bool) : Int32 → QS → Prop := fun r u => u = (zb bb, 0, 0, -1, -1, 0, 0, 0, q8, q9, q10) ∧ r = qBc q5
set_option maxHeartbeats 4000000 in
set_option maxRecDepth 100000 in
theorem c_X0_begin (l : Launch) (g : zG) (bL h : Nat) (q0 q1 q2 q3 q4 q5 q6 : Int32) (q7 : Int64) (q8 q9 : Int32) (q10 : Int64)  (bb : Bool) : zM l yX0_begin wsX0_begin 1 40 g [.ref h, .int (zb bb)] (oQ h (q0, q1, q2, q3, q4, q5, q6, q7, q8, q9, q10)) (zEL bL) (zQi g (P_X0_begin q0 q1 q2 q3 q4 q5 q6 q7 q8 q9 q10 bb) (oQ h)) := by
  refine zstart (cc := cX0_begin) (maxL := 3) (ret := (some .int)) (own := RX0) rfl (by decide) rfl zStL (Nat.le_of_ble_eq_true rfl) ?_
  intro p e s m below meth c A Z hr hlk H locs X ls hl
  have hx := Z.1.1
  have hb := Z.1.2.1
  have hin : ∀ w ∈ wsX00, w ∈ wsX0_begin := inw_X0_begin
  have hl : lv_has ls 3 [(0, .ref h), (1, .int (zb bb))] := hl
  have X : zh g A (oQ h (q0, q1, q2, q3, q4, q5, q6, q7, q8, q9, q10)) s.heap H locs := X
  refine lv_aload_n hx hb dX0_begin_0 rfl (lv_at hl 0 rfl) ?_
  refine zget (fs := [.int q0, .int q1, .int q2, .int q3, .int q4, .int q5, .int q6, .long q7, .int q8, .int q9, .long q10]) (v := .int q5) Z hin X (ci := 0) (C := RX0) (T := TX0) (N := 11) rfl rfl 5 (by decide) lk_X0_begin_16 rfl dX0_begin_1 ?_
  refine zcallSi (n := 1) (As := [.int q5]) (rest := []) Z X (c_J6_bitCount_0f7a4 l g q5) gX0_begin_J6_bitCount_0f7a4 rfl (by decide +kernel) ⟨Nat.le_of_ble_eq_true rfl, Nat.le_of_ble_eq_true rfl⟩ rfl rfl hl.1 (Nat.le_of_ble_eq_true rfl) dX0_begin_4 ⟨Nat.zero_le _, Nat.zero_le _⟩ (fun r0 H locs hrr0 X => ?_)
  obtain rfl : r0 = qBc q5 := hrr0
  refine lv_topi (fun x2 ex2 => ?_)
  refine lv_istore_n (lv' := [(2, .int x2), (0, .ref h), (1, .int (zb bb))]) hx hb dX0_begin_7 rfl hl (by decide) rfl (fun ls hl => ?_)
  refine lv_aload_n hx hb dX0_begin_8 rfl (lv_at hl 1 rfl) ?_
  refine lv_iload_n hx hb dX0_begin_9 rfl (lv_at hl 2 rfl) ?_
  refine zput (ty := .boolean) (fs := [.int q0, .int q1, .int q2, .int q3, .int q4, .int q5, .int q6, .long q7, .int q8, .int q9, .long q10]) (v := .int (zb bb)) tyX0 tyX0_ok nmX0 Z hin X (ci := 0) (C := RX0) (T := TX0) (N := 11) rfl rfl 0 (by decide) lk_X0_begin_25 rfl (by decide +kernel) (zb_nar bb) (zb_fit bb) (Nat.le_of_ble_eq_true rfl) dX0_begin_10 (fun H locs X => ?_)
  have X : zh g A (oQ h (zb bb, q1, q2, q3, q4, q5, q6, q7, q8, q9, q10)) s.heap H locs := X
  refine lv_aload_n hx hb dX0_begin_13 rfl (lv_at hl 1 rfl) ?_
  refine lv_iconst (v := (0 : Int32)) hx hb dX0_begin_14 (by decide) ?_
  refine zput (ty := .int) (fs := [.int (zb bb), .int q1, .int q2, .int q3, .int q4, .int q5, .int q6, .long q7, .int q8, .int q9, .long q10]) (v := .int (0 : Int32)) tyX0 tyX0_ok nmX0 Z hin X (ci := 0) (C := RX0) (T := TX0) (N := 11) rfl rfl 1 (by decide) lk_X0_begin_29 rfl (by decide +kernel) rfl rfl (Nat.le_of_ble_eq_true rfl) dX0_begin_15 (fun H locs X => ?_)
  have X : zh g A (oQ h (zb bb, (0 : Int32), q2, q3, q4, q5, q6, q7, q8, q9, q10)) s.heap H locs := X
  refine lv_aload_n hx hb dX0_begin_18 rfl (lv_at hl 1 rfl) ?_
  refine lv_iconst (v := (0 : Int32)) hx hb dX0_begin_19 (by decide) ?_
  refine zput (ty := .int) (fs := [.int (zb bb), .int (0 : Int32), .int q2, .int q3, .int q4, .int q5, .int q6, .long q7, .int q8, .int q9, .long q10]) (v := .int (0 : Int32)) tyX0 tyX0_ok nmX0 Z hin X (ci := 0) (C := RX0) (T := TX0) (N := 11) rfl rfl 2 (by decide) lk_X0_begin_32 rfl (by decide +kernel) rfl rfl (Nat.le_of_ble_eq_true rfl) dX0_begin_20 (fun H locs X => ?_)
  have X : zh g A (oQ h (zb bb, (0 : Int32), (0 : Int32), q3, q4, q5, q6, q7, q8, q9, q10)) s.heap H locs := X
  refine lv_aload_n hx hb dX0_begin_23 rfl (lv_at hl 1 rfl) ?_
  refine lv_iconst (v := (-1 : Int32)) hx hb dX0_begin_24 (by decide) ?_
  refine zput (ty := .int) (fs := [.int (zb bb), .int (0 : Int32), .int (0 : Int32), .int q3, .int q4, .int q5, .int q6, .long q7, .int q8, .int q9, .long q10]) (v := .int (-1 : Int32)) tyX0 tyX0_ok nmX0 Z hin X (ci := 0) (C := RX0) (T := TX0) (N := 11) rfl rfl 3 (by decide) lk_X0_begin_9 rfl (by decide +kernel) rfl rfl (Nat.le_of_ble_eq_true rfl) dX0_begin_25 (fun H locs X => ?_)
  have X : zh g A (oQ h (zb bb, (0 : Int32), (0 : Int32), (-1 : Int32), q4, q5, q6, q7, q8, q9, q10)) s.heap H locs := X
  refine lv_aload_n hx hb dX0_begin_28 rfl (lv_at hl 1 rfl) ?_
  refine lv_iconst (v := (-1 : Int32)) hx hb dX0_begin_29 (by decide) ?_
  refine zput (ty := .int) (fs := [.int (zb bb), .int (0 : Int32), .int (0 : Int32), .int (-1 : Int32), .int q4, .int q5, .int q6, .long q7, .int q8, .int q9, .long q10]) (v := .int (-1 : Int32)) tyX0 tyX0_ok nmX0 Z hin X (ci := 0) (C := RX0) (T := TX0) (N := 11) rfl rfl 4 (by decide) lk_X0_begin_13 rfl (by decide +kernel) rfl rfl (Nat.le_of_ble_eq_true rfl) dX0_begin_30 (fun H locs X => ?_)
  have X : zh g A (oQ h (zb bb, (0 : Int32), (0 : Int32), (-1 : Int32), (-1 : Int32), q5, q6, q7, q8, q9, q10)) s.heap H locs := X
  refine lv_aload_n hx hb dX0_begin_33 rfl (lv_at hl 1 rfl) ?_
  refine lv_iconst (v := (0 : Int32)) hx hb dX0_begin_34 (by decide) ?_
  refine zput (ty := .int) (fs := [.int (zb bb), .int (0 : Int32), .int (0 : Int32), .int (-1 : Int32), .int (-1 : Int32), .int q5, .int q6, .long q7, .int q8, .int q9, .long q10]) (v := .int (0 : Int32)) tyX0 tyX0_ok nmX0 Z hin X (ci := 0) (C := RX0) (T := TX0) (N := 11) rfl rfl 5 (by decide) lk_X0_begin_16 rfl (by decide +kernel) rfl rfl (Nat.le_of_ble_eq_true rfl) dX0_begin_35 (fun H locs X => ?_)
  have X : zh g A (oQ h (zb bb, (0 : Int32), (0 : Int32), (-1 : Int32), (-1 : Int32), (0 : Int32), q6, q7, q8, q9, q10)) s.heap H locs := X
  refine lv_aload_n hx hb dX0_begin_38 rfl (lv_at hl 1 rfl) ?_
  refine lv_iconst (v := (0 : Int32)) hx hb dX0_begin_39 (by decide) ?_
  refine zput (ty := .int) (fs := [.int (zb bb), .int (0 : Int32), .int (0 : Int32), .int (-1 : Int32), .int (-1 : Int32), .int (0 : Int32), .int q6, .long q7, .int q8, .int q9, .long q10]) (v := .int (0 : Int32)) tyX0 tyX0_ok nmX0 Z hin X (ci := 0) (C := RX0) (T := TX0) (N := 11) rfl rfl 6 (by decide) lk_X0_begin_35 rfl (by decide +kernel) rfl rfl (Nat.le_of_ble_eq_true rfl) dX0_begin_40 (fun H locs X => ?_)
  have X : zh g A (oQ h (zb bb, (0 : Int32), (0 : Int32), (-1 : Int32), (-1 : Int32), (0 : Int32), (0 : Int32), q7, q8, q9, q10)) s.heap H locs := X
  refine lv_aload_n hx hb dX0_begin_43 rfl (lv_at hl 1 rfl) ?_
  refine lv_lconst (v := (0 : Int64)) hx hb dX0_begin_44 (by decide) ?_
  refine zput (ty := .long) (fs := [.int (zb bb), .int (0 : Int32), .int (0 : Int32), .int (-1 : Int32), .int (-1 : Int32), .int (0 : Int32), .int (0 : Int32), .long q7, .int q8, .int q9, .long q10]) (v := .long (0 : Int64)) tyX0 tyX0_ok nmX0 Z hin X (ci := 0) (C := RX0) (T := TX0) (N := 11) rfl rfl 7 (by decide) lk_X0_begin_38 rfl (by decide +kernel) rfl rfl (Nat.le_of_ble_eq_true rfl) dX0_begin_45 (fun H locs X => ?_)
  have X : zh g A (oQ h (zb bb, (0 : Int32), (0 : Int32), (-1 : Int32), (-1 : Int32), (0 : Int32), (0 : Int32), (0 : Int64), q8, q9, q10)) s.heap H locs := X
  refine lv_iload_n hx hb dX0_begin_48 rfl (lv_at hl 0 rfl) ?_
  exact zreti Z hr hlk (zb bb, (0 : Int32), (0 : Int32), (-1 : Int32), (-1 : Int32), (0 : Int32), (0 : Int32), (0 : Int64), q8, q9, q10) X dX0_begin_49 rfl (by subst ex2; exact ⟨rfl, rfl⟩)
theorem inw_X0_symmetries : ∀ w ∈ wsX00, w ∈ wsX0_symmetries := by decide +kernel
theorem lk_X0_symmetries_16 : Cond.fieldLink RX0 16 "Quarterboard" "filled" "I" ∈ wsX0_symmetries := by decide +kernel
theorem lk_X0_symmetries_38 : Cond.fieldLink RX0 38 "Quarterboard" "digits" "J" ∈ wsX0_symmetries := by decide +kernel
def P_X0_symmetries (q0 q1 q2 q3 q4 q5 q6 : Int32) (q7 : Int64) (q8 q9 : Int32) (q10 : Int64) : Int32 → QS → Prop := fun r u => u = (q0, q1, q2, q3, q4, q5, q6, q7, q8, q9, q10) ∧ r = qSym q5 q7 q5 q7 8
set_option maxHeartbeats 4000000 in
set_option maxRecDepth 100000 in
theorem c_X0_symmetries (l : Launch) (g : zG) (bL h : Nat) (q0 q1 q2 q3 q4 q5 q6 : Int32) (q7 : Int64) (q8 q9 : Int32) (q10 : Int64)   : zM l yX0_symmetries wsX0_symmetries 4 250 g [.ref h] (oQ h (q0, q1, q2, q3, q4, q5, q6, q7, q8, q9, q10)) (zEL bL) (zQi g (P_X0_symmetries q0 q1 q2 q3 q4 q5 q6 q7 q8 q9 q10) (oQ h)) := by
  refine zstart (cc := cX0_symmetries) (maxL := 3) (ret := (some .int)) (own := RX0) rfl (by decide) rfl zStL (Nat.le_of_ble_eq_true rfl) ?_
  intro p e s m below meth c A Z hr hlk H locs X ls hl
  have hx := Z.1.1
  have hb := Z.1.2.1
  have hin : ∀ w ∈ wsX00, w ∈ wsX0_symmetries := inw_X0_symmetries
  have hl : lv_has ls 3 [(0, .ref h)] := hl
  have X : zh g A (oQ h (q0, q1, q2, q3, q4, q5, q6, q7, q8, q9, q10)) s.heap H locs := X
  refine lv_iconst (v := (0 : Int32)) hx hb dX0_symmetries_0 (by decide) ?_
  refine lv_istore_n (lv' := [(1, .int (0 : Int32)), (0, .ref h)]) hx hb dX0_symmetries_1 rfl hl (by decide) rfl (fun ls hl => ?_)
  refine lv_iconst (v := (0 : Int32)) hx hb dX0_symmetries_2 (by decide) ?_
  refine lv_istore_n (lv' := [(2, .int (0 : Int32)), (1, .int (0 : Int32)), (0, .ref h)]) hx hb dX0_symmetries_3 rfl hl (by decide) rfl (fun ls hl => ?_)
  have cut4 : ∀ (n4 : Nat), ∀ (k : Nat) (acc : Int32), (k ≤ 8) → (acc = qSym q5 q7 q5 q7 k) → (9 - k ≤ n4) → ∀ (H : Heap) (locs : List Loc) (ls : Array Slot), zh g A (oQ h (q0, q1, q2, q3, q4, q5, q6, q7, q8, q9, q10)) s.heap H locs → lv_has ls 3 [(2, .int (nI k)), (1, .int acc), (0, .ref h)] → W p l e { frames := 4, cells := 0, slots := 0, locals := 250 } s m ([.ref h] : List Value).toArray below meth c H locs 0 0 (MQ below ((zQi g (P_X0_symmetries q0 q1 q2 q3 q4 q5 q6 q7 q8 q9 q10) (oQ h)) A) ([.ref h] : List Value).toArray s 0 0 A) (F0 m 4 ls []) := by
    intro n4
    induction n4 with
    | zero =>
      intro k acc hk hacc hm4
      exact absurd hm4 (by omega)
    | succ n4 ih4 =>
      intro k acc hk hacc hm4 H locs ls X hl
      refine lv_iload_n hx hb dX0_symmetries_4 rfl (lv_at hl 0 rfl) ?_
      refine lv_bipush (v := (8 : Int32)) hx hb dX0_symmetries_5 (by decide) ?_
      refine lv_icmp_ge (tgt := 32) hx hb dX0_symmetries_7 (by decide) (fun c1 => ?_) (fun c1 => ?_)
      · have qc1 := c1
        have c1n : 8 ≤ k := zn_let (by omega) (by omega) c1
        refine lv_iload_n hx hb dX0_symmetries_32 rfl (lv_at hl 1 rfl) ?_
        exact zreti Z hr hlk (q0, q1, q2, q3, q4, q5, q6, q7, q8, q9, q10) X dX0_symmetries_33 rfl (⟨rfl, by rw [hacc, show k = 8 by omega]⟩)
      · have qc1 := c1
        have c1n : ¬ 8 ≤ k := zn_len (by omega) (by omega) c1
        refine lv_iload_n hx hb dX0_symmetries_10 rfl (lv_at hl 1 rfl) ?_
        refine lv_aload_n hx hb dX0_symmetries_11 rfl (lv_at hl 2 rfl) ?_
        refine lv_iload_n hx hb dX0_symmetries_12 rfl (lv_at hl 0 rfl) ?_
        refine lv_aload_n hx hb dX0_symmetries_13 rfl (lv_at hl 2 rfl) ?_
        refine zget (fs := [.int q0, .int q1, .int q2, .int q3, .int q4, .int q5, .int q6, .long q7, .int q8, .int q9, .long q10]) (v := .int q5) Z hin X (ci := 0) (C := RX0) (T := TX0) (N := 11) rfl rfl 5 (by decide) lk_X0_symmetries_16 rfl dX0_symmetries_14 ?_
        refine lv_aload_n hx hb dX0_symmetries_17 rfl (lv_at hl 2 rfl) ?_
        refine zget (fs := [.int q0, .int q1, .int q2, .int q3, .int q4, .int q5, .int q6, .long q7, .int q8, .int q9, .long q10]) (v := .long q7) Z hin X (ci := 0) (C := RX0) (T := TX0) (N := 11) rfl rfl 7 (by decide) lk_X0_symmetries_38 rfl dX0_symmetries_18 ?_
        refine zcallVi (n := 3) (As := [.int (nI k), .int q5, .long q7]) (rest := [.int acc]) (ci := 0) (C := RX0) (T := TX0) (N := 11) Z X (c_X0_waysOfMarks l g bL h q0 q1 q2 q3 q4 q5 q6 q7 q8 q9 q10 k q5 q7 (by omega)) gX0_symmetries_X0_waysOfMarks rfl (by decide +kernel) ⟨Nat.le_of_ble_eq_true rfl, Nat.le_of_ble_eq_true rfl⟩ rfl rfl rfl rfl hl.1 (Nat.le_of_ble_eq_true rfl) dX0_symmetries_21 ⟨Nat.zero_le _, Nat.zero_le _⟩ (fun r1 ur1 H locs hrr1 X => ?_)
        obtain ⟨rfl, rfl⟩ : ur1 = (q0, q1, q2, q3, q4, q5, q6, q7, q8, q9, q10) ∧ r1 = qWays q5 q7 k q5 q7 := hrr1
        have X : zh g A (oQ h (q0, q1, q2, q3, q4, q5, q6, q7, q8, q9, q10)) s.heap H locs := X
        refine lv_iadd hx hb dX0_symmetries_24 ?_
        refine lv_topi (fun x3 ex3 => ?_)
        refine lv_istore_n (lv' := [(1, .int x3), (2, .int (nI k)), (0, .ref h)]) hx hb dX0_symmetries_25 rfl hl (by decide) rfl (fun ls hl => ?_)
        refine lv_iinc (v := nI (k + 1)) (lv' := [(2, .int (nI (k + 1))), (1, .int x3), (0, .ref h)]) hx hb dX0_symmetries_26 hl (k := 1) rfl (zi_inc k) (by decide) rfl (fun ls hl => ?_)
        refine lv_goto (tgt := 4) hx hb dX0_symmetries_29 (by decide) ?_
        exact ih4 (k + 1) x3 (by first | assumption | omega) (by subst ex3; rw [hacc]; rfl) (by omega) H locs ls X (lv_sub hl [0, 1, 2] rfl)
  exact cut4 9 0 0 (by first | assumption | omega) (rfl) (by omega) H locs ls X (lv_sub hl [0, 1, 2] rfl)
