/-! the class: lines, what wins, what is safe -/
def qU (x s : Int32) : Int32 := (x.toUInt32 >>> (s.toUInt32 &&& Int32.toUInt32 31)).toInt32
def qB1 (x : Int32) : Int32 := x - (qU x 1 &&& 1431655765)
def qB2 (a : Int32) : Int32 := (a &&& 858993459) + (qU a 2 &&& 858993459)
def qB3 (b : Int32) : Int32 := (b + qU b 4) &&& 252645135
def qB4 (c : Int32) : Int32 := c + qU c 8
def qB5 (d : Int32) : Int32 := d + qU d 16
def qBc (x : Int32) : Int32 := qB5 (qB4 (qB3 (qB2 (qB1 x)))) &&& 63
def qLn (w : Int32) : Nat := if w = 0 then 10 else 19
theorem qLn_le (w : Int32) : 10 ≤ qLn w ∧ qLn w ≤ 19 := by unfold qLn; split <;> decide
def qWonC (f : Int32) (d : Int64) : Nat → Nat
  | 0 => 0
  | k + 1 => if LM k &&& (f ^^^ (-1 : Int32)) = 0 ∧ ¬ qIn f d (LM k) = 0 then qWonC f d k + 1 else qWonC f d k
theorem qWonC_le (f : Int32) (d : Int64) : ∀ k, qWonC f d k ≤ k
  | 0 => Nat.le_refl 0
  | k + 1 => by
    have := qWonC_le f d k
    unfold qWonC
    split <;> omega
def qWon (f : Int32) (d : Int64) (w : Int32) : Nat := qWonC f d (qLn w)
def qLacks (f squares : Int32) : Bool := decide (¬ squares &&& (f ^^^ (-1 : Int32)) = 0) && decide ((squares &&& (f ^^^ (-1 : Int32))) &&& ((squares &&& (f ^^^ (-1 : Int32))) - 1) = 0)
def qWinS (f : Int32) (d : Int64) (ow : Int32) : Nat → Int32
  | 0 => 0
  | k + 1 => if qLacks f (LM k) = true ∧ ¬ qIn f d (LM k) &&& ow = 0 then qWinS f d ow k ||| (LM k &&& (f ^^^ (-1 : Int32))) else qWinS f d ow k
def qWin (f : Int32) (d : Int64) (w p : Int32) : Int32 := qWinS f d (qOwn p) (qLn w)
def qWinDC (f : Int32) (d : Int64) : Nat → Int32
  | 0 => 0
  | k + 1 => if qLacks f (LM k) = true then qWinDC f d k ||| qIn f d (LM k) else qWinDC f d k
def qWinD (f : Int32) (d : Int64) (w : Int32) : Int32 := qWinDC f d (qLn w)
def qSafeC (used win : Int32) : Nat → Int32
  | 0 => 0
  | k + 1 => if qHas used (nI k) = false ∧ qOwn (nI k) &&& win = 0 then qSafeC used win k ||| qBit (nI k) else qSafeC used win k
def qSafe (f used : Int32) (d : Int64) (w : Int32) : Int32 := qSafeC used (qWinD f d w) 16
theorem zn43 : ¬ (4 : Int32) = 3 := by decide
theorem zn34 : ¬ (3 : Int32) = 4 := by decide
def qCan (f st p : Int32) : Bool := decide (¬ (p = 3 ∧ ¬ 16 - qBc f ≤ 8)) && decide (¬ (p = 4 ∧ ¬ 16 - qBc f ≤ 6)) && decide (¬ st = 2)
def P_J6_bitCount_0f7a4 (n : Int32) : Int32 → Unit → Prop := fun r _ => r = qBc n
set_option maxHeartbeats 4000000 in
set_option maxRecDepth 100000 in
theorem c_J6_bitCount_0f7a4 (l : Launch) (g : zG) (n : Int32)  : zM l yJ6_bitCount_0f7a4 wsJ6_bitCount_0f7a4 0 0 g [.int n] ([]) zE0 (zQi g (P_J6_bitCount_0f7a4 n) (fun _ : Unit => [])) := by
  refine zstart (cc := cJ6_bitCount_0f7a4) (maxL := 1) (ret := (some .int)) (own := RJ6) rfl (by decide) rfl zSt0 (Nat.le_of_ble_eq_true rfl) ?_
  intro p e s m below meth c A Z hr hlk H locs X ls hl
  have hx := Z.1.1
  have hb := Z.1.2.1
  have hl : lv_has ls 1 [(0, .int n)] := hl
  have X : zh g A ([]) s.heap H locs := X
  refine lv_iload_n hx hb dJ6_bitCount_0f7a4_0 rfl (lv_at hl 0 rfl) ?_
  refine lv_iload_n hx hb dJ6_bitCount_0f7a4_1 rfl (lv_at hl 0 rfl) ?_
  refine lv_iconst (v := (1 : Int32)) hx hb dJ6_bitCount_0f7a4_2 (by decide) ?_
  refine lv_iushr hx hb dJ6_bitCount_0f7a4_3 rfl ?_
  refine lv_ldcw (v := (1431655765 : Int32)) hx hb Z.1.2.2.2.1 (Z.1.2.2.2.2 (.constant RJ6 265 (1431655765)) (by decide +kernel)) dJ6_bitCount_0f7a4_4 ?_
  refine lv_iand hx hb dJ6_bitCount_0f7a4_7 ?_
  refine lv_isub hx hb dJ6_bitCount_0f7a4_8 ?_
  refine lv_topi (fun x1 ex1 => ?_)
  refine lv_istore_n (lv' := [(0, .int x1)]) hx hb dJ6_bitCount_0f7a4_9 rfl hl (by decide) rfl (fun ls hl => ?_)
  refine lv_iload_n hx hb dJ6_bitCount_0f7a4_10 rfl (lv_at hl 0 rfl) ?_
  refine lv_ldcw (v := (858993459 : Int32)) hx hb Z.1.2.2.2.1 (Z.1.2.2.2.2 (.constant RJ6 266 (858993459)) (by decide +kernel)) dJ6_bitCount_0f7a4_11 ?_
  refine lv_iand hx hb dJ6_bitCount_0f7a4_14 ?_
  refine lv_iload_n hx hb dJ6_bitCount_0f7a4_15 rfl (lv_at hl 0 rfl) ?_
  refine lv_iconst (v := (2 : Int32)) hx hb dJ6_bitCount_0f7a4_16 (by decide) ?_
  refine lv_iushr hx hb dJ6_bitCount_0f7a4_17 rfl ?_
  refine lv_ldcw (v := (858993459 : Int32)) hx hb Z.1.2.2.2.1 (Z.1.2.2.2.2 (.constant RJ6 266 (858993459)) (by decide +kernel)) dJ6_bitCount_0f7a4_18 ?_
  refine lv_iand hx hb dJ6_bitCount_0f7a4_21 ?_
  refine lv_iadd hx hb dJ6_bitCount_0f7a4_22 ?_
  refine lv_topi (fun x2 ex2 => ?_)
  refine lv_istore_n (lv' := [(0, .int x2)]) hx hb dJ6_bitCount_0f7a4_23 rfl hl (by decide) rfl (fun ls hl => ?_)
  refine lv_iload_n hx hb dJ6_bitCount_0f7a4_24 rfl (lv_at hl 0 rfl) ?_
  refine lv_iload_n hx hb dJ6_bitCount_0f7a4_25 rfl (lv_at hl 0 rfl) ?_
  refine lv_iconst (v := (4 : Int32)) hx hb dJ6_bitCount_0f7a4_26 (by decide) ?_
  refine lv_iushr hx hb dJ6_bitCount_0f7a4_27 rfl ?_
  refine lv_iadd hx hb dJ6_bitCount_0f7a4_28 ?_
  refine lv_ldcw (v := (252645135 : Int32)) hx hb Z.1.2.2.2.1 (Z.1.2.2.2.2 (.constant RJ6 267 (252645135)) (by decide +kernel)) dJ6_bitCount_0f7a4_29 ?_
  refine lv_iand hx hb dJ6_bitCount_0f7a4_32 ?_
  refine lv_topi (fun x3 ex3 => ?_)
  refine lv_istore_n (lv' := [(0, .int x3)]) hx hb dJ6_bitCount_0f7a4_33 rfl hl (by decide) rfl (fun ls hl => ?_)
  refine lv_iload_n hx hb dJ6_bitCount_0f7a4_34 rfl (lv_at hl 0 rfl) ?_
  refine lv_iload_n hx hb dJ6_bitCount_0f7a4_35 rfl (lv_at hl 0 rfl) ?_
  refine lv_bipush (v := (8 : Int32)) hx hb dJ6_bitCount_0f7a4_36 (by decide) ?_
  refine lv_iushr hx hb dJ6_bitCount_0f7a4_38 rfl ?_
  refine lv_iadd hx hb dJ6_bitCount_0f7a4_39 ?_
  refine lv_topi (fun x4 ex4 => ?_)
  refine lv_istore_n (lv' := [(0, .int x4)]) hx hb dJ6_bitCount_0f7a4_40 rfl hl (by decide) rfl (fun ls hl => ?_)
  refine lv_iload_n hx hb dJ6_bitCount_0f7a4_41 rfl (lv_at hl 0 rfl) ?_
  refine lv_iload_n hx hb dJ6_bitCount_0f7a4_42 rfl (lv_at hl 0 rfl) ?_
  refine lv_bipush (v := (16 : Int32)) hx hb dJ6_bitCount_0f7a4_43 (by decide) ?_
  refine lv_iushr hx hb dJ6_bitCount_0f7a4_45 rfl ?_
  refine lv_iadd hx hb dJ6_bitCount_0f7a4_46 ?_
  refine lv_topi (fun x5 ex5 => ?_)
  refine lv_istore_n (lv' := [(0, .int x5)]) hx hb dJ6_bitCount_0f7a4_47 rfl hl (by decide) rfl (fun ls hl => ?_)
  refine lv_iload_n hx hb dJ6_bitCount_0f7a4_48 rfl (lv_at hl 0 rfl) ?_
  refine lv_bipush (v := (63 : Int32)) hx hb dJ6_bitCount_0f7a4_49 (by decide) ?_
  refine lv_iand hx hb dJ6_bitCount_0f7a4_51 ?_
  exact zreti Z hr hlk () X dJ6_bitCount_0f7a4_52 rfl (by subst ex5; subst ex4; subst ex3; subst ex2; subst ex1; rfl)
theorem inw_X0_lines : ∀ w ∈ wsX00, w ∈ wsX0_lines := by decide +kernel
theorem lk_X0_lines_25 : Cond.fieldLink RX0 25 "Quarterboard" "withBlocks" "Z" ∈ wsX0_lines := by decide +kernel
theorem lk_X0_lines_83 : Cond.fieldLink RX0 83 "Quarterboard" "LINES" "[I" ∈ wsX0_lines := by decide +kernel
def P_X0_lines (q0 q1 q2 q3 q4 q5 q6 : Int32) (q7 : Int64) (q8 q9 : Int32) (q10 : Int64) : Int32 → QS → Prop := fun r u => u = (q0, q1, q2, q3, q4, q5, q6, q7, q8, q9, q10) ∧ r = nI (qLn q0)
set_option maxHeartbeats 4000000 in
set_option maxRecDepth 100000 in
theorem c_X0_lines (l : Launch) (g : zG) (bL h : Nat) (q0 q1 q2 q3 q4 q5 q6 : Int32) (q7 : Int64) (q8 q9 : Int32) (q10 : Int64)   : zM l yX0_lines wsX0_lines 0 0 g [.ref h] (oQ h (q0, q1, q2, q3, q4, q5, q6, q7, q8, q9, q10)) (zEL bL) (zQi g (P_X0_lines q0 q1 q2 q3 q4 q5 q6 q7 q8 q9 q10) (oQ h)) := by
  refine zstart (cc := cX0_lines) (maxL := 1) (ret := (some .int)) (own := RX0) rfl (by decide) rfl zStL (Nat.le_of_ble_eq_true rfl) ?_
  intro p e s m below meth c A Z hr hlk H locs X ls hl
  have hx := Z.1.1
  have hb := Z.1.2.1
  have hin : ∀ w ∈ wsX00, w ∈ wsX0_lines := inw_X0_lines
  have hl : lv_has ls 1 [(0, .ref h)] := hl
  have X : zh g A (oQ h (q0, q1, q2, q3, q4, q5, q6, q7, q8, q9, q10)) s.heap H locs := X
  refine lv_aload_n hx hb dX0_lines_0 rfl (lv_at hl 0 rfl) ?_
  refine zget (fs := [.int q0, .int q1, .int q2, .int q3, .int q4, .int q5, .int q6, .long q7, .int q8, .int q9, .long q10]) (v := .int q0) Z hin X (ci := 0) (C := RX0) (T := TX0) (N := 11) rfl rfl 0 (by decide) lk_X0_lines_25 rfl dX0_lines_1 ?_
  refine lv_if_eq (tgt := 14) hx hb dX0_lines_4 (by decide) (fun c1 => ?_) (fun c1 => ?_)
  · have qc1 := c1
    refine lv_bipush (v := (10 : Int32)) hx hb dX0_lines_14 (by decide) ?_
    exact zreti Z hr hlk (q0, q1, q2, q3, q4, q5, q6, q7, q8, q9, q10) X dX0_lines_16 rfl (⟨rfl, by first | (rw [show qLn q0 = 10 from if_pos (by assumption)]; rfl) | (rw [show qLn q0 = 19 from if_neg (by assumption)]; done)⟩)
  · have qc1 := c1
    refine va_gets hx hb Z.2.2.2.1.1 X.2.2 Z.1.2.2.2.1 (Z.1.2.2.2.2 _ lk_X0_lines_83) (fun _ h => h) dX0_lines_7 ?_
    refine va_tlen (v := nI 19) hx hb Z.2.2.2.1.2.1 X.2.2 rfl dX0_lines_10 ?_
    refine lv_goto (tgt := 16) hx hb dX0_lines_11 (by decide) ?_
    exact zreti Z hr hlk (q0, q1, q2, q3, q4, q5, q6, q7, q8, q9, q10) X dX0_lines_16 rfl (⟨rfl, by first | (rw [show qLn q0 = 10 from if_pos (by assumption)]; rfl) | (rw [show qLn q0 = 19 from if_neg (by assumption)]; done)⟩)
theorem inw_X0_lacksOne : ∀ w ∈ wsX00, w ∈ wsX0_lacksOne := by decide +kernel
theorem lk_X0_lacksOne_16 : Cond.fieldLink RX0 16 "Quarterboard" "filled" "I" ∈ wsX0_lacksOne := by decide +kernel
def P_X0_lacksOne (q0 q1 q2 q3 q4 q5 q6 : Int32) (q7 : Int64) (q8 q9 : Int32) (q10 : Int64) (squares : Int32) : Int32 → QS → Prop := fun r u => u = (q0, q1, q2, q3, q4, q5, q6, q7, q8, q9, q10) ∧ r = zb (qLacks q5 squares)
set_option maxHeartbeats 4000000 in
set_option maxRecDepth 100000 in
theorem c_X0_lacksOne (l : Launch) (g : zG) (bL h : Nat) (q0 q1 q2 q3 q4 q5 q6 : Int32) (q7 : Int64) (q8 q9 : Int32) (q10 : Int64) (squares : Int32)  : zM l yX0_lacksOne wsX0_lacksOne 0 0 g [.ref h, .int squares] (oQ h (q0, q1, q2, q3, q4, q5, q6, q7, q8, q9, q10)) (zEL bL) (zQi g (P_X0_lacksOne q0 q1 q2 q3 q4 q5 q6 q7 q8 q9 q10 squares) (oQ h)) := by
  refine zstart (cc := cX0_lacksOne) (maxL := 3) (ret := (some .boolean)) (own := RX0) rfl (by decide) rfl zStL (Nat.le_of_ble_eq_true rfl) ?_
  intro p e s m below meth c A Z hr hlk H locs X ls hl
  have hx := Z.1.1
  have hb := Z.1.2.1
  have hin : ∀ w ∈ wsX00, w ∈ wsX0_lacksOne := inw_X0_lacksOne
  have hl : lv_has ls 3 [(0, .ref h), (1, .int squares)] := hl
  have X : zh g A (oQ h (q0, q1, q2, q3, q4, q5, q6, q7, q8, q9, q10)) s.heap H locs := X
  refine lv_iload_n hx hb dX0_lacksOne_0 rfl (lv_at hl 1 rfl) ?_
  refine lv_aload_n hx hb dX0_lacksOne_1 rfl (lv_at hl 0 rfl) ?_
  refine zget (fs := [.int q0, .int q1, .int q2, .int q3, .int q4, .int q5, .int q6, .long q7, .int q8, .int q9, .long q10]) (v := .int q5) Z hin X (ci := 0) (C := RX0) (T := TX0) (N := 11) rfl rfl 5 (by decide) lk_X0_lacksOne_16 rfl dX0_lacksOne_2 ?_
  refine lv_iconst (v := (-1 : Int32)) hx hb dX0_lacksOne_5 (by decide) ?_
  refine lv_ixor hx hb dX0_lacksOne_6 ?_
  refine lv_iand hx hb dX0_lacksOne_7 ?_
  refine lv_topi (fun x1 ex1 => ?_)
  refine lv_istore_n (lv' := [(2, .int x1), (0, .ref h), (1, .int squares)]) hx hb dX0_lacksOne_8 rfl hl (by decide) rfl (fun ls hl => ?_)
  refine lv_iload_n hx hb dX0_lacksOne_9 rfl (lv_at hl 0 rfl) ?_
  refine lv_if_eq (tgt := 25) hx hb dX0_lacksOne_10 (by decide) (fun c2 => ?_) (fun c2 => ?_)
  · have qc2 := c2
    refine lv_iconst (v := (0 : Int32)) hx hb dX0_lacksOne_25 (by decide) ?_
    exact zreti Z hr hlk (q0, q1, q2, q3, q4, q5, q6, q7, q8, q9, q10) X dX0_lacksOne_26 rfl (⟨rfl, by subst ex1; simp only [qLacks, zb, c2, decide_true, decide_false, Bool.and_true, Bool.and_false, Bool.true_and, Bool.false_and, not_true_eq_false, not_false_eq_true, Bool.not_true, Bool.not_false, if_true, if_false, and_true, true_and, and_false, false_and, Bool.false_eq_true, Bool.true_eq_false, eq_self]⟩)
  · have qc2 := c2
    refine lv_iload_n hx hb dX0_lacksOne_13 rfl (lv_at hl 0 rfl) ?_
    refine lv_iload_n hx hb dX0_lacksOne_14 rfl (lv_at hl 0 rfl) ?_
    refine lv_iconst (v := (1 : Int32)) hx hb dX0_lacksOne_15 (by decide) ?_
    refine lv_isub hx hb dX0_lacksOne_16 ?_
    refine lv_iand hx hb dX0_lacksOne_17 ?_
    refine lv_if_ne (tgt := 25) hx hb dX0_lacksOne_18 (by decide) (fun c3 => ?_) (fun c3 => ?_)
    · have qc3 := c3
      refine lv_iconst (v := (0 : Int32)) hx hb dX0_lacksOne_25 (by decide) ?_
      exact zreti Z hr hlk (q0, q1, q2, q3, q4, q5, q6, q7, q8, q9, q10) X dX0_lacksOne_26 rfl (⟨rfl, by subst ex1; simp only [qLacks, zb, c2, c3, decide_true, decide_false, Bool.and_true, Bool.and_false, Bool.true_and, Bool.false_and, not_true_eq_false, not_false_eq_true, Bool.not_true, Bool.not_false, if_true, if_false, and_true, true_and, and_false, false_and, Bool.false_eq_true, Bool.true_eq_false, eq_self]⟩)
    · have qc3 := c3
      refine lv_iconst (v := (1 : Int32)) hx hb dX0_lacksOne_21 (by decide) ?_
      refine lv_goto (tgt := 26) hx hb dX0_lacksOne_22 (by decide) ?_
      exact zreti Z hr hlk (q0, q1, q2, q3, q4, q5, q6, q7, q8, q9, q10) X dX0_lacksOne_26 rfl (⟨rfl, by subst ex1; simp only [qLacks, zb, c2, c3, decide_true, decide_false, Bool.and_true, Bool.and_false, Bool.true_and, Bool.false_and, not_true_eq_false, not_false_eq_true, Bool.not_true, Bool.not_false, if_true, if_false, and_true, true_and, and_false, false_and, Bool.false_eq_true, Bool.true_eq_false, eq_self]⟩)
theorem inw_X0_wonLines : ∀ w ∈ wsX00, w ∈ wsX0_wonLines := by decide +kernel
theorem lk_X0_wonLines_83 : Cond.fieldLink RX0 83 "Quarterboard" "LINES" "[I" ∈ wsX0_wonLines := by decide +kernel
theorem lk_X0_wonLines_16 : Cond.fieldLink RX0 16 "Quarterboard" "filled" "I" ∈ wsX0_wonLines := by decide +kernel
def P_X0_wonLines (q0 q1 q2 q3 q4 q5 q6 : Int32) (q7 : Int64) (q8 q9 : Int32) (q10 : Int64) : Int32 → QS → Prop := fun r u => u = (q0, q1, q2, q3, q4, q5, q6, q7, q8, q9, q10) ∧ r = nI (qWon q5 q7 q0)
set_option maxHeartbeats 4000000 in
set_option maxRecDepth 100000 in
theorem c_X0_wonLines (l : Launch) (g : zG) (bL h : Nat) (q0 q1 q2 q3 q4 q5 q6 : Int32) (q7 : Int64) (q8 q9 : Int32) (q10 : Int64)   : zM l yX0_wonLines wsX0_wonLines 2 80 g [.ref h] (oQ h (q0, q1, q2, q3, q4, q5, q6, q7, q8, q9, q10)) (zEL bL) (zQi g (P_X0_wonLines q0 q1 q2 q3 q4 q5 q6 q7 q8 q9 q10) (oQ h)) := by
  refine zstart (cc := cX0_wonLines) (maxL := 4) (ret := (some .int)) (own := RX0) rfl (by decide) rfl zStL (Nat.le_of_ble_eq_true rfl) ?_
  intro p e s m below meth c A Z hr hlk H locs X ls hl
  have hx := Z.1.1
  have hb := Z.1.2.1
  have hin : ∀ w ∈ wsX00, w ∈ wsX0_wonLines := inw_X0_wonLines
  have hl : lv_has ls 4 [(0, .ref h)] := hl
  have X : zh g A (oQ h (q0, q1, q2, q3, q4, q5, q6, q7, q8, q9, q10)) s.heap H locs := X
  have hln := qLn_le q0
  refine lv_iconst (v := (0 : Int32)) hx hb dX0_wonLines_0 (by decide) ?_
  refine lv_istore_n (lv' := [(1, .int (0 : Int32)), (0, .ref h)]) hx hb dX0_wonLines_1 rfl hl (by decide) rfl (fun ls hl => ?_)
  refine lv_iconst (v := (0 : Int32)) hx hb dX0_wonLines_2 (by decide) ?_
  refine lv_istore_n (lv' := [(2, .int (0 : Int32)), (1, .int (0 : Int32)), (0, .ref h)]) hx hb dX0_wonLines_3 rfl hl (by decide) rfl (fun ls hl => ?_)
  have cut4 : ∀ (n4 : Nat), ∀ (k : Nat) (n : Nat), (k ≤ qLn q0) → (n = qWonC q5 q7 k) → (qLn q0 + 1 - k ≤ n4) → ∀ (H : Heap) (locs : List Loc) (ls : Array Slot), zh g A (oQ h (q0, q1, q2, q3, q4, q5, q6, q7, q8, q9, q10)) s.heap H locs → lv_has ls 4 [(2, .int (nI k)), (1, .int (nI n)), (0, .ref h)] → W p l e { frames := 2, cells := 0, slots := 0, locals := 80 } s m ([.ref h] : List Value).toArray below meth c H locs 0 0 (MQ below ((zQi g (P_X0_wonLines q0 q1 q2 q3 q4 q5 q6 q7 q8 q9 q10) (oQ h)) A) ([.ref h] : List Value).toArray s 0 0 A) (F0 m 4 ls []) := by
    intro n4
    induction n4 with
    | zero =>
      intro k n hk hn hm4
      exact absurd hm4 (by omega)
    | succ n4 ih4 =>
      intro k n hk hn hm4 H locs ls X hl
      refine lv_iload_n hx hb dX0_wonLines_4 rfl (lv_at hl 0 rfl) ?_
      refine lv_aload_n hx hb dX0_wonLines_5 rfl (lv_at hl 2 rfl) ?_
      refine zcallVi (n := 0) (As := []) (rest := [.int (nI k)]) (ci := 0) (C := RX0) (T := TX0) (N := 11) Z X (c_X0_lines l g bL h q0 q1 q2 q3 q4 q5 q6 q7 q8 q9 q10 ) gX0_wonLines_X0_lines rfl (by decide +kernel) ⟨Nat.le_of_ble_eq_true rfl, Nat.le_of_ble_eq_true rfl⟩ rfl rfl rfl rfl hl.1 (Nat.le_of_ble_eq_true rfl) dX0_wonLines_6 ⟨Nat.zero_le _, Nat.zero_le _⟩ (fun r0 ur0 H locs hrr0 X => ?_)
      obtain ⟨rfl, rfl⟩ : ur0 = (q0, q1, q2, q3, q4, q5, q6, q7, q8, q9, q10) ∧ r0 = nI (qLn q0) := hrr0
      have X : zh g A (oQ h (q0, q1, q2, q3, q4, q5, q6, q7, q8, q9, q10)) s.heap H locs := X
      refine lv_icmp_ge (tgt := 46) hx hb dX0_wonLines_9 (by decide) (fun c2 => ?_) (fun c2 => ?_)
      · have qc2 := c2
        have c2n : (qLn q0) ≤ k := zn_let (by omega) (by omega) c2
        refine lv_iload_n hx hb dX0_wonLines_46 rfl (lv_at hl 1 rfl) ?_
        exact zreti Z hr hlk (q0, q1, q2, q3, q4, q5, q6, q7, q8, q9, q10) X dX0_wonLines_47 rfl (⟨rfl, by rw [hn, show k = qLn q0 by omega]; rfl⟩)
      · have qc2 := c2
        have c2n : ¬ (qLn q0) ≤ k := zn_len (by omega) (by omega) c2
        refine va_gets hx hb Z.2.2.2.1.1 X.2.2 Z.1.2.2.2.1 (Z.1.2.2.2.2 _ lk_X0_wonLines_83) (fun _ h => h) dX0_wonLines_12 ?_
        refine lv_iload_n hx hb dX0_wonLines_15 rfl (lv_at hl 0 rfl) ?_
        refine zlld Z X k rfl (by omega) dX0_wonLines_16 ?_
        refine lv_topi (fun x3 ex3 => ?_)
        refine lv_istore_n (lv' := [(3, .int x3), (2, .int (nI k)), (1, .int (nI n)), (0, .ref h)]) hx hb dX0_wonLines_17 rfl hl (by decide) rfl (fun ls hl => ?_)
        refine lv_iload_n hx hb dX0_wonLines_18 rfl (lv_at hl 0 rfl) ?_
        refine lv_aload_n hx hb dX0_wonLines_19 rfl (lv_at hl 3 rfl) ?_
        refine zget (fs := [.int q0, .int q1, .int q2, .int q3, .int q4, .int q5, .int q6, .long q7, .int q8, .int q9, .long q10]) (v := .int q5) Z hin X (ci := 0) (C := RX0) (T := TX0) (N := 11) rfl rfl 5 (by decide) lk_X0_wonLines_16 rfl dX0_wonLines_20 ?_
        refine lv_iconst (v := (-1 : Int32)) hx hb dX0_wonLines_23 (by decide) ?_
        refine lv_ixor hx hb dX0_wonLines_24 ?_
        refine lv_iand hx hb dX0_wonLines_25 ?_
        refine lv_if_ne (tgt := 40) hx hb dX0_wonLines_26 (by decide) (fun c4 => ?_) (fun c4 => ?_)
        · have qc4 := c4
          refine lv_iinc (v := nI (k + 1)) (lv' := [(2, .int (nI (k + 1))), (3, .int x3), (1, .int (nI n)), (0, .ref h)]) hx hb dX0_wonLines_40 hl (k := 1) rfl (zi_inc k) (by decide) rfl (fun ls hl => ?_)
          refine lv_goto (tgt := 4) hx hb dX0_wonLines_43 (by decide) ?_
          exact ih4 (k + 1) n (by first | assumption | omega) (by subst ex3; rw [hn]; simp only [qWonC, c2n, c4, decide_true, decide_false, Bool.and_true, Bool.and_false, Bool.true_and, Bool.false_and, not_true_eq_false, not_false_eq_true, Bool.not_true, Bool.not_false, if_true, if_false, and_true, true_and, and_false, false_and, Bool.false_eq_true, Bool.true_eq_false, eq_self]) (by omega) H locs ls X (lv_sub hl [0, 2, 3] rfl)
        · have qc4 := c4
          refine lv_aload_n hx hb dX0_wonLines_29 rfl (lv_at hl 3 rfl) ?_
          refine lv_iload_n hx hb dX0_wonLines_30 rfl (lv_at hl 0 rfl) ?_
          refine zcallVi (n := 1) (As := [.int x3]) (rest := []) (ci := 0) (C := RX0) (T := TX0) (N := 11) Z X (c_X0_inCommon l g bL h q0 q1 q2 q3 q4 q5 q6 q7 q8 q9 q10 x3) gX0_wonLines_X0_inCommon rfl (by decide +kernel) ⟨Nat.le_of_ble_eq_true rfl, Nat.le_of_ble_eq_true rfl⟩ rfl rfl rfl rfl hl.1 (Nat.le_of_ble_eq_true rfl) dX0_wonLines_31 ⟨Nat.zero_le _, Nat.zero_le _⟩ (fun r4 ur4 H locs hrr4 X => ?_)
          obtain ⟨rfl, rfl⟩ : ur4 = (q0, q1, q2, q3, q4, q5, q6, q7, q8, q9, q10) ∧ r4 = qIn q5 q7 x3 := hrr4
          have X : zh g A (oQ h (q0, q1, q2, q3, q4, q5, q6, q7, q8, q9, q10)) s.heap H locs := X
          refine lv_if_eq (tgt := 40) hx hb dX0_wonLines_34 (by decide) (fun c6 => ?_) (fun c6 => ?_)
          · have qc6 := c6
            refine lv_iinc (v := nI (k + 1)) (lv' := [(2, .int (nI (k + 1))), (3, .int x3), (1, .int (nI n)), (0, .ref h)]) hx hb dX0_wonLines_40 hl (k := 1) rfl (zi_inc k) (by decide) rfl (fun ls hl => ?_)
            refine lv_goto (tgt := 4) hx hb dX0_wonLines_43 (by decide) ?_
            exact ih4 (k + 1) n (by first | assumption | omega) (by subst ex3; rw [hn]; simp only [qWonC, c2n, c4, c6, decide_true, decide_false, Bool.and_true, Bool.and_false, Bool.true_and, Bool.false_and, not_true_eq_false, not_false_eq_true, Bool.not_true, Bool.not_false, if_true, if_false, and_true, true_and, and_false, false_and, Bool.false_eq_true, Bool.true_eq_false, eq_self]) (by omega) H locs ls X (lv_sub hl [0, 2, 3] rfl)
          · have qc6 := c6
            refine lv_iinc (v := nI (n + 1)) (lv' := [(1, .int (nI (n + 1))), (3, .int x3), (2, .int (nI k)), (0, .ref h)]) hx hb dX0_wonLines_37 hl (k := 2) rfl (zi_inc n) (by decide) rfl (fun ls hl => ?_)
            refine lv_iinc (v := nI (k + 1)) (lv' := [(2, .int (nI (k + 1))), (1, .int (nI (n + 1))), (3, .int x3), (0, .ref h)]) hx hb dX0_wonLines_40 hl (k := 2) rfl (zi_inc k) (by decide) rfl (fun ls hl => ?_)
            refine lv_goto (tgt := 4) hx hb dX0_wonLines_43 (by decide) ?_
            exact ih4 (k + 1) (n + 1) (by first | assumption | omega) (by subst ex3; rw [hn]; simp only [qWonC, c2n, c4, c6, decide_true, decide_false, Bool.and_true, Bool.and_false, Bool.true_and, Bool.false_and, not_true_eq_false, not_false_eq_true, Bool.not_true, Bool.not_false, if_true, if_false, and_true, true_and, and_false, false_and, Bool.false_eq_true, Bool.true_eq_false, eq_self]) (by omega) H locs ls X (lv_sub hl [0, 1, 3] rfl)
  exact cut4 (qLn q0 + 1) 0 0 (by first | assumption | omega) (rfl) (by omega) H locs ls X (lv_sub hl [0, 1, 2] rfl)
theorem inw_X0_winningSquares : ∀ w ∈ wsX00, w ∈ wsX0_winningSquares := by decide +kernel
theorem lk_X0_winningSquares_83 : Cond.fieldLink RX0 83 "Quarterboard" "LINES" "[I" ∈ wsX0_winningSquares := by decide +kernel
theorem lk_X0_winningSquares_16 : Cond.fieldLink RX0 16 "Quarterboard" "filled" "I" ∈ wsX0_winningSquares := by decide +kernel
def P_X0_winningSquares (q0 q1 q2 q3 q4 q5 q6 : Int32) (q7 : Int64) (q8 q9 : Int32) (q10 : Int64) (pc : Int32) : Int32 → QS → Prop := fun r u => u = (q0, q1, q2, q3, q4, q5, q6, q7, q8, q9, q10) ∧ r = qWin q5 q7 q0 pc
set_option maxHeartbeats 4000000 in
set_option maxRecDepth 100000 in
theorem c_X0_winningSquares (l : Launch) (g : zG) (bL h : Nat) (q0 q1 q2 q3 q4 q5 q6 : Int32) (q7 : Int64) (q8 q9 : Int32) (q10 : Int64) (pc : Int32)  : zM l yX0_winningSquares wsX0_winningSquares 2 80 g [.ref h, .int pc] (oQ h (q0, q1, q2, q3, q4, q5, q6, q7, q8, q9, q10)) (zEL bL) (zQi g (P_X0_winningSquares q0 q1 q2 q3 q4 q5 q6 q7 q8 q9 q10 pc) (oQ h)) := by
  refine zstart (cc := cX0_winningSquares) (maxL := 6) (ret := (some .int)) (own := RX0) rfl (by decide) rfl zStL (Nat.le_of_ble_eq_true rfl) ?_
  intro p e s m below meth c A Z hr hlk H locs X ls hl
  have hx := Z.1.1
  have hb := Z.1.2.1
  have hin : ∀ w ∈ wsX00, w ∈ wsX0_winningSquares := inw_X0_winningSquares
  have hl : lv_has ls 6 [(0, .ref h), (1, .int pc)] := hl
  have X : zh g A (oQ h (q0, q1, q2, q3, q4, q5, q6, q7, q8, q9, q10)) s.heap H locs := X
  have hln := qLn_le q0
  refine lv_iload_n hx hb dX0_winningSquares_0 rfl (lv_at hl 1 rfl) ?_
  refine zcallSi (n := 1) (As := [.int pc]) (rest := []) Z X (c_X0_ownDigits l g pc) gX0_winningSquares_X0_ownDigits rfl (by decide +kernel) ⟨Nat.le_of_ble_eq_true rfl, Nat.le_of_ble_eq_true rfl⟩ rfl rfl hl.1 (Nat.le_of_ble_eq_true rfl) dX0_winningSquares_1 ⟨Nat.zero_le _, Nat.zero_le _⟩ (fun r0 H locs hrr0 X => ?_)
  obtain rfl : r0 = qOwn pc := hrr0
  refine lv_topi (fun x2 ex2 => ?_)
  refine lv_istore_n (lv' := [(2, .int x2), (0, .ref h), (1, .int pc)]) hx hb dX0_winningSquares_4 rfl hl (by decide) rfl (fun ls hl => ?_)
  refine lv_iconst (v := (0 : Int32)) hx hb dX0_winningSquares_5 (by decide) ?_
  refine lv_istore_n (lv' := [(3, .int (0 : Int32)), (2, .int x2), (0, .ref h), (1, .int pc)]) hx hb dX0_winningSquares_6 rfl hl (by decide) rfl (fun ls hl => ?_)
  refine lv_iconst (v := (0 : Int32)) hx hb dX0_winningSquares_7 (by decide) ?_
  refine lv_istore (lv' := [(4, .int (0 : Int32)), (3, .int (0 : Int32)), (2, .int x2), (0, .ref h), (1, .int pc)]) hx hb dX0_winningSquares_8 hl (by decide) rfl (fun ls hl => ?_)
  have cut10 : ∀ (n10 : Nat), ∀ (k : Nat) (acc : Int32) (ow : Int32), (k ≤ qLn q0) → (ow = qOwn pc) → (acc = qWinS q5 q7 ow k) → (qLn q0 + 1 - k ≤ n10) → ∀ (H : Heap) (locs : List Loc) (ls : Array Slot), zh g A (oQ h (q0, q1, q2, q3, q4, q5, q6, q7, q8, q9, q10)) s.heap H locs → lv_has ls 6 [(4, .int (nI k)), (3, .int acc), (2, .int ow), (0, .ref h), (1, .int pc)] → W p l e { frames := 2, cells := 0, slots := 0, locals := 80 } s m ([.ref h, .int pc] : List Value).toArray below meth c H locs 0 0 (MQ below ((zQi g (P_X0_winningSquares q0 q1 q2 q3 q4 q5 q6 q7 q8 q9 q10 pc) (oQ h)) A) ([.ref h, .int pc] : List Value).toArray s 0 0 A) (F0 m 10 ls []) := by
    intro n10
    induction n10 with
    | zero =>
      intro k acc ow hk how hacc hm10
      exact absurd hm10 (by omega)
    | succ n10 ih10 =>
      intro k acc ow hk how hacc hm10 H locs ls X hl
      refine lv_iload hx hb dX0_winningSquares_10 (lv_at hl 0 rfl) ?_
      refine lv_aload_n hx hb dX0_winningSquares_12 rfl (lv_at hl 3 rfl) ?_
      refine zcallVi (n := 0) (As := []) (rest := [.int (nI k)]) (ci := 0) (C := RX0) (T := TX0) (N := 11) Z X (c_X0_lines l g bL h q0 q1 q2 q3 q4 q5 q6 q7 q8 q9 q10 ) gX0_winningSquares_X0_lines rfl (by decide +kernel) ⟨Nat.le_of_ble_eq_true rfl, Nat.le_of_ble_eq_true rfl⟩ rfl rfl rfl rfl hl.1 (Nat.le_of_ble_eq_true rfl) dX0_winningSquares_13 ⟨Nat.zero_le _, Nat.zero_le _⟩ (fun r2 ur2 H locs hrr2 X => ?_)
      obtain ⟨rfl, rfl⟩ : ur2 = (q0, q1, q2, q3, q4, q5, q6, q7, q8, q9, q10) ∧ r2 = nI (qLn q0) := hrr2
      have X : zh g A (oQ h (q0, q1, q2, q3, q4, q5, q6, q7, q8, q9, q10)) s.heap H locs := X
      refine lv_icmp_ge (tgt := 65) hx hb dX0_winningSquares_16 (by decide) (fun c4 => ?_) (fun c4 => ?_)
      · have qc4 := c4
        have c4n : (qLn q0) ≤ k := zn_let (by omega) (by omega) c4
        refine lv_iload_n hx hb dX0_winningSquares_65 rfl (lv_at hl 1 rfl) ?_
        exact zreti Z hr hlk (q0, q1, q2, q3, q4, q5, q6, q7, q8, q9, q10) X dX0_winningSquares_66 rfl (⟨rfl, by rw [hacc, how, show k = qLn q0 by omega]; rfl⟩)
      · have qc4 := c4
        have c4n : ¬ (qLn q0) ≤ k := zn_len (by omega) (by omega) c4
        refine va_gets hx hb Z.2.2.2.1.1 X.2.2 Z.1.2.2.2.1 (Z.1.2.2.2.2 _ lk_X0_winningSquares_83) (fun _ h => h) dX0_winningSquares_19 ?_
        refine lv_iload hx hb dX0_winningSquares_22 (lv_at hl 0 rfl) ?_
        refine zlld Z X k rfl (by omega) dX0_winningSquares_24 ?_
        refine lv_topi (fun x5 ex5 => ?_)
        refine lv_istore (lv' := [(5, .int x5), (4, .int (nI k)), (3, .int acc), (2, .int ow), (0, .ref h), (1, .int pc)]) hx hb dX0_winningSquares_25 hl (by decide) rfl (fun ls hl => ?_)
        refine lv_aload_n hx hb dX0_winningSquares_27 rfl (lv_at hl 4 rfl) ?_
        refine lv_iload hx hb dX0_winningSquares_28 (lv_at hl 0 rfl) ?_
        refine zcallVi (n := 1) (As := [.int x5]) (rest := []) (ci := 0) (C := RX0) (T := TX0) (N := 11) Z X (c_X0_lacksOne l g bL h q0 q1 q2 q3 q4 q5 q6 q7 q8 q9 q10 x5) gX0_winningSquares_X0_lacksOne rfl (by decide +kernel) ⟨Nat.le_of_ble_eq_true rfl, Nat.le_of_ble_eq_true rfl⟩ rfl rfl rfl rfl hl.1 (Nat.le_of_ble_eq_true rfl) dX0_winningSquares_30 ⟨Nat.zero_le _, Nat.zero_le _⟩ (fun r5 ur5 H locs hrr5 X => ?_)
        obtain ⟨rfl, rfl⟩ : ur5 = (q0, q1, q2, q3, q4, q5, q6, q7, q8, q9, q10) ∧ r5 = zb (qLacks q5 x5) := hrr5
        have X : zh g A (oQ h (q0, q1, q2, q3, q4, q5, q6, q7, q8, q9, q10)) s.heap H locs := X
        refine lv_if_eq (tgt := 59) hx hb dX0_winningSquares_33 (by decide) (fun c7 => ?_) (fun c7 => ?_)
        · have qc7 := c7
          have hc7 := zb_0.mp c7
          refine lv_iinc (v := nI (k + 1)) (lv' := [(4, .int (nI (k + 1))), (5, .int x5), (3, .int acc), (2, .int ow), (0, .ref h), (1, .int pc)]) hx hb dX0_winningSquares_59 hl (k := 1) rfl (zi_inc k) (by decide) rfl (fun ls hl => ?_)
          refine lv_goto (tgt := 10) hx hb dX0_winningSquares_62 (by decide) ?_
          exact ih10 (k + 1) acc ow (by first | assumption | omega) (by first | assumption | omega) (by subst ex5; rw [hacc]; simp only [qWinS, c4n, hc7, decide_true, decide_false, Bool.and_true, Bool.and_false, Bool.true_and, Bool.false_and, not_true_eq_false, not_false_eq_true, Bool.not_true, Bool.not_false, if_true, if_false, and_true, true_and, and_false, false_and, Bool.false_eq_true, Bool.true_eq_false, eq_self]) (by omega) H locs ls X (lv_sub hl [0, 2, 3, 4, 5] rfl)
        · have qc7 := c7
          have hc7 := zb_n0.mp c7
          refine lv_aload_n hx hb dX0_winningSquares_36 rfl (lv_at hl 4 rfl) ?_
          refine lv_iload hx hb dX0_winningSquares_37 (lv_at hl 0 rfl) ?_
          refine zcallVi (n := 1) (As := [.int x5]) (rest := []) (ci := 0) (C := RX0) (T := TX0) (N := 11) Z X (c_X0_inCommon l g bL h q0 q1 q2 q3 q4 q5 q6 q7 q8 q9 q10 x5) gX0_winningSquares_X0_inCommon rfl (by decide +kernel) ⟨Nat.le_of_ble_eq_true rfl, Nat.le_of_ble_eq_true rfl⟩ rfl rfl rfl rfl hl.1 (Nat.le_of_ble_eq_true rfl) dX0_winningSquares_39 ⟨Nat.zero_le _, Nat.zero_le _⟩ (fun r7 ur7 H locs hrr7 X => ?_)
          obtain ⟨rfl, rfl⟩ : ur7 = (q0, q1, q2, q3, q4, q5, q6, q7, q8, q9, q10) ∧ r7 = qIn q5 q7 x5 := hrr7
          have X : zh g A (oQ h (q0, q1, q2, q3, q4, q5, q6, q7, q8, q9, q10)) s.heap H locs := X
          refine lv_iload_n hx hb dX0_winningSquares_42 rfl (lv_at hl 3 rfl) ?_
          refine lv_iand hx hb dX0_winningSquares_43 ?_
          refine lv_if_eq (tgt := 59) hx hb dX0_winningSquares_44 (by decide) (fun c9 => ?_) (fun c9 => ?_)
          · have qc9 := c9
            refine lv_iinc (v := nI (k + 1)) (lv' := [(4, .int (nI (k + 1))), (5, .int x5), (3, .int acc), (2, .int ow), (0, .ref h), (1, .int pc)]) hx hb dX0_winningSquares_59 hl (k := 1) rfl (zi_inc k) (by decide) rfl (fun ls hl => ?_)
            refine lv_goto (tgt := 10) hx hb dX0_winningSquares_62 (by decide) ?_
            exact ih10 (k + 1) acc ow (by first | assumption | omega) (by first | assumption | omega) (by subst ex5; rw [hacc]; simp only [qWinS, c4n, hc7, c9, decide_true, decide_false, Bool.and_true, Bool.and_false, Bool.true_and, Bool.false_and, not_true_eq_false, not_false_eq_true, Bool.not_true, Bool.not_false, if_true, if_false, and_true, true_and, and_false, false_and, Bool.false_eq_true, Bool.true_eq_false, eq_self]) (by omega) H locs ls X (lv_sub hl [0, 2, 3, 4, 5] rfl)
          · have qc9 := c9
            refine lv_iload_n hx hb dX0_winningSquares_47 rfl (lv_at hl 2 rfl) ?_
            refine lv_iload hx hb dX0_winningSquares_48 (lv_at hl 0 rfl) ?_
            refine lv_aload_n hx hb dX0_winningSquares_50 rfl (lv_at hl 4 rfl) ?_
            refine zget (fs := [.int q0, .int q1, .int q2, .int q3, .int q4, .int q5, .int q6, .long q7, .int q8, .int q9, .long q10]) (v := .int q5) Z hin X (ci := 0) (C := RX0) (T := TX0) (N := 11) rfl rfl 5 (by decide) lk_X0_winningSquares_16 rfl dX0_winningSquares_51 ?_
            refine lv_iconst (v := (-1 : Int32)) hx hb dX0_winningSquares_54 (by decide) ?_
            refine lv_ixor hx hb dX0_winningSquares_55 ?_
            refine lv_iand hx hb dX0_winningSquares_56 ?_
            refine lv_ior hx hb dX0_winningSquares_57 ?_
            refine lv_topi (fun x10 ex10 => ?_)
            refine lv_istore_n (lv' := [(3, .int x10), (5, .int x5), (4, .int (nI k)), (2, .int ow), (0, .ref h), (1, .int pc)]) hx hb dX0_winningSquares_58 rfl hl (by decide) rfl (fun ls hl => ?_)
            refine lv_iinc (v := nI (k + 1)) (lv' := [(4, .int (nI (k + 1))), (3, .int x10), (5, .int x5), (2, .int ow), (0, .ref h), (1, .int pc)]) hx hb dX0_winningSquares_59 hl (k := 2) rfl (zi_inc k) (by decide) rfl (fun ls hl => ?_)
            refine lv_goto (tgt := 10) hx hb dX0_winningSquares_62 (by decide) ?_
            exact ih10 (k + 1) x10 ow (by first | assumption | omega) (by first | assumption | omega) (by subst ex10; subst ex5; rw [hacc]; simp only [qWinS, c4n, hc7, c9, decide_true, decide_false, Bool.and_true, Bool.and_false, Bool.true_and, Bool.false_and, not_true_eq_false, not_false_eq_true, Bool.not_true, Bool.not_false, if_true, if_false, and_true, true_and, and_false, false_and, Bool.false_eq_true, Bool.true_eq_false, eq_self]) (by omega) H locs ls X (lv_sub hl [0, 1, 3, 4, 5] rfl)
  exact cut10 (qLn q0 + 1) 0 0 x2 (by first | assumption | omega) (by subst ex2; rfl) (rfl) (by omega) H locs ls X (lv_sub hl [0, 1, 2, 3, 4] rfl)
theorem inw_X0_winningDigits : ∀ w ∈ wsX00, w ∈ wsX0_winningDigits := by decide +kernel
theorem lk_X0_winningDigits_83 : Cond.fieldLink RX0 83 "Quarterboard" "LINES" "[I" ∈ wsX0_winningDigits := by decide +kernel
def P_X0_winningDigits (q0 q1 q2 q3 q4 q5 q6 : Int32) (q7 : Int64) (q8 q9 : Int32) (q10 : Int64) : Int32 → QS → Prop := fun r u => u = (q0, q1, q2, q3, q4, q5, q6, q7, q8, q9, q10) ∧ r = qWinD q5 q7 q0
set_option maxHeartbeats 4000000 in
set_option maxRecDepth 100000 in
theorem c_X0_winningDigits (l : Launch) (g : zG) (bL h : Nat) (q0 q1 q2 q3 q4 q5 q6 : Int32) (q7 : Int64) (q8 q9 : Int32) (q10 : Int64)   : zM l yX0_winningDigits wsX0_winningDigits 2 80 g [.ref h] (oQ h (q0, q1, q2, q3, q4, q5, q6, q7, q8, q9, q10)) (zEL bL) (zQi g (P_X0_winningDigits q0 q1 q2 q3 q4 q5 q6 q7 q8 q9 q10) (oQ h)) := by
  refine zstart (cc := cX0_winningDigits) (maxL := 4) (ret := (some .int)) (own := RX0) rfl (by decide) rfl zStL (Nat.le_of_ble_eq_true rfl) ?_
  intro p e s m below meth c A Z hr hlk H locs X ls hl
  have hx := Z.1.1
  have hb := Z.1.2.1
  have hin : ∀ w ∈ wsX00, w ∈ wsX0_winningDigits := inw_X0_winningDigits
  have hl : lv_has ls 4 [(0, .ref h)] := hl
  have X : zh g A (oQ h (q0, q1, q2, q3, q4, q5, q6, q7, q8, q9, q10)) s.heap H locs := X
  have hln := qLn_le q0
  refine lv_iconst (v := (0 : Int32)) hx hb dX0_winningDigits_0 (by decide) ?_
  refine lv_istore_n (lv' := [(1, .int (0 : Int32)), (0, .ref h)]) hx hb dX0_winningDigits_1 rfl hl (by decide) rfl (fun ls hl => ?_)
  refine lv_iconst (v := (0 : Int32)) hx hb dX0_winningDigits_2 (by decide) ?_
  refine lv_istore_n (lv' := [(2, .int (0 : Int32)), (1, .int (0 : Int32)), (0, .ref h)]) hx hb dX0_winningDigits_3 rfl hl (by decide) rfl (fun ls hl => ?_)
  have cut4 : ∀ (n4 : Nat), ∀ (k : Nat) (acc : Int32), (k ≤ qLn q0) → (acc = qWinDC q5 q7 k) → (qLn q0 + 1 - k ≤ n4) → ∀ (H : Heap) (locs : List Loc) (ls : Array Slot), zh g A (oQ h (q0, q1, q2, q3, q4, q5, q6, q7, q8, q9, q10)) s.heap H locs → lv_has ls 4 [(2, .int (nI k)), (1, .int acc), (0, .ref h)] → W p l e { frames := 2, cells := 0, slots := 0, locals := 80 } s m ([.ref h] : List Value).toArray below meth c H locs 0 0 (MQ below ((zQi g (P_X0_winningDigits q0 q1 q2 q3 q4 q5 q6 q7 q8 q9 q10) (oQ h)) A) ([.ref h] : List Value).toArray s 0 0 A) (F0 m 4 ls []) := by
    intro n4
    induction n4 with
    | zero =>
      intro k acc hk hacc hm4
      exact absurd hm4 (by omega)
    | succ n4 ih4 =>
      intro k acc hk hacc hm4 H locs ls X hl
      refine lv_iload_n hx hb dX0_winningDigits_4 rfl (lv_at hl 0 rfl) ?_
      refine lv_aload_n hx hb dX0_winningDigits_5 rfl (lv_at hl 2 rfl) ?_
      refine zcallVi (n := 0) (As := []) (rest := [.int (nI k)]) (ci := 0) (C := RX0) (T := TX0) (N := 11) Z X (c_X0_lines l g bL h q0 q1 q2 q3 q4 q5 q6 q7 q8 q9 q10 ) gX0_winningDigits_X0_lines rfl (by decide +kernel) ⟨Nat.le_of_ble_eq_true rfl, Nat.le_of_ble_eq_true rfl⟩ rfl rfl rfl rfl hl.1 (Nat.le_of_ble_eq_true rfl) dX0_winningDigits_6 ⟨Nat.zero_le _, Nat.zero_le _⟩ (fun r0 ur0 H locs hrr0 X => ?_)
      obtain ⟨rfl, rfl⟩ : ur0 = (q0, q1, q2, q3, q4, q5, q6, q7, q8, q9, q10) ∧ r0 = nI (qLn q0) := hrr0
      have X : zh g A (oQ h (q0, q1, q2, q3, q4, q5, q6, q7, q8, q9, q10)) s.heap H locs := X
      refine lv_icmp_ge (tgt := 40) hx hb dX0_winningDigits_9 (by decide) (fun c2 => ?_) (fun c2 => ?_)
      · have qc2 := c2
        have c2n : (qLn q0) ≤ k := zn_let (by omega) (by omega) c2
        refine lv_iload_n hx hb dX0_winningDigits_40 rfl (lv_at hl 1 rfl) ?_
        exact zreti Z hr hlk (q0, q1, q2, q3, q4, q5, q6, q7, q8, q9, q10) X dX0_winningDigits_41 rfl (⟨rfl, by rw [hacc, show k = qLn q0 by omega]; rfl⟩)
      · have qc2 := c2
        have c2n : ¬ (qLn q0) ≤ k := zn_len (by omega) (by omega) c2
        refine va_gets hx hb Z.2.2.2.1.1 X.2.2 Z.1.2.2.2.1 (Z.1.2.2.2.2 _ lk_X0_winningDigits_83) (fun _ h => h) dX0_winningDigits_12 ?_
        refine lv_iload_n hx hb dX0_winningDigits_15 rfl (lv_at hl 0 rfl) ?_
        refine zlld Z X k rfl (by omega) dX0_winningDigits_16 ?_
        refine lv_topi (fun x3 ex3 => ?_)
        refine lv_istore_n (lv' := [(3, .int x3), (2, .int (nI k)), (1, .int acc), (0, .ref h)]) hx hb dX0_winningDigits_17 rfl hl (by decide) rfl (fun ls hl => ?_)
        refine lv_aload_n hx hb dX0_winningDigits_18 rfl (lv_at hl 3 rfl) ?_
        refine lv_iload_n hx hb dX0_winningDigits_19 rfl (lv_at hl 0 rfl) ?_
        refine zcallVi (n := 1) (As := [.int x3]) (rest := []) (ci := 0) (C := RX0) (T := TX0) (N := 11) Z X (c_X0_lacksOne l g bL h q0 q1 q2 q3 q4 q5 q6 q7 q8 q9 q10 x3) gX0_winningDigits_X0_lacksOne rfl (by decide +kernel) ⟨Nat.le_of_ble_eq_true rfl, Nat.le_of_ble_eq_true rfl⟩ rfl rfl rfl rfl hl.1 (Nat.le_of_ble_eq_true rfl) dX0_winningDigits_20 ⟨Nat.zero_le _, Nat.zero_le _⟩ (fun r3 ur3 H locs hrr3 X => ?_)
        obtain ⟨rfl, rfl⟩ : ur3 = (q0, q1, q2, q3, q4, q5, q6, q7, q8, q9, q10) ∧ r3 = zb (qLacks q5 x3) := hrr3
        have X : zh g A (oQ h (q0, q1, q2, q3, q4, q5, q6, q7, q8, q9, q10)) s.heap H locs := X
        refine lv_if_eq (tgt := 34) hx hb dX0_winningDigits_23 (by decide) (fun c5 => ?_) (fun c5 => ?_)
        · have qc5 := c5
          have hc5 := zb_0.mp c5
          refine lv_iinc (v := nI (k + 1)) (lv' := [(2, .int (nI (k + 1))), (3, .int x3), (1, .int acc), (0, .ref h)]) hx hb dX0_winningDigits_34 hl (k := 1) rfl (zi_inc k) (by decide) rfl (fun ls hl => ?_)
          refine lv_goto (tgt := 4) hx hb dX0_winningDigits_37 (by decide) ?_
          exact ih4 (k + 1) acc (by first | assumption | omega) (by subst ex3; rw [hacc]; simp only [qWinDC, c2n, hc5, decide_true, decide_false, Bool.and_true, Bool.and_false, Bool.true_and, Bool.false_and, not_true_eq_false, not_false_eq_true, Bool.not_true, Bool.not_false, if_true, if_false, and_true, true_and, and_false, false_and, Bool.false_eq_true, Bool.true_eq_false, eq_self]) (by omega) H locs ls X (lv_sub hl [0, 2, 3] rfl)
        · have qc5 := c5
          have hc5 := zb_n0.mp c5
          refine lv_iload_n hx hb dX0_winningDigits_26 rfl (lv_at hl 2 rfl) ?_
          refine lv_aload_n hx hb dX0_winningDigits_27 rfl (lv_at hl 3 rfl) ?_
          refine lv_iload_n hx hb dX0_winningDigits_28 rfl (lv_at hl 0 rfl) ?_
          refine zcallVi (n := 1) (As := [.int x3]) (rest := [.int acc]) (ci := 0) (C := RX0) (T := TX0) (N := 11) Z X (c_X0_inCommon l g bL h q0 q1 q2 q3 q4 q5 q6 q7 q8 q9 q10 x3) gX0_winningDigits_X0_inCommon rfl (by decide +kernel) ⟨Nat.le_of_ble_eq_true rfl, Nat.le_of_ble_eq_true rfl⟩ rfl rfl rfl rfl hl.1 (Nat.le_of_ble_eq_true rfl) dX0_winningDigits_29 ⟨Nat.zero_le _, Nat.zero_le _⟩ (fun r5 ur5 H locs hrr5 X => ?_)
          obtain ⟨rfl, rfl⟩ : ur5 = (q0, q1, q2, q3, q4, q5, q6, q7, q8, q9, q10) ∧ r5 = qIn q5 q7 x3 := hrr5
          have X : zh g A (oQ h (q0, q1, q2, q3, q4, q5, q6, q7, q8, q9, q10)) s.heap H locs := X
          refine lv_ior hx hb dX0_winningDigits_32 ?_
          refine lv_topi (fun x7 ex7 => ?_)
          refine lv_istore_n (lv' := [(1, .int x7), (3, .int x3), (2, .int (nI k)), (0, .ref h)]) hx hb dX0_winningDigits_33 rfl hl (by decide) rfl (fun ls hl => ?_)
          refine lv_iinc (v := nI (k + 1)) (lv' := [(2, .int (nI (k + 1))), (1, .int x7), (3, .int x3), (0, .ref h)]) hx hb dX0_winningDigits_34 hl (k := 2) rfl (zi_inc k) (by decide) rfl (fun ls hl => ?_)
          refine lv_goto (tgt := 4) hx hb dX0_winningDigits_37 (by decide) ?_
          exact ih4 (k + 1) x7 (by first | assumption | omega) (by subst ex7; subst ex3; rw [hacc]; simp only [qWinDC, c2n, hc5, decide_true, decide_false, Bool.and_true, Bool.and_false, Bool.true_and, Bool.false_and, not_true_eq_false, not_false_eq_true, Bool.not_true, Bool.not_false, if_true, if_false, and_true, true_and, and_false, false_and, Bool.false_eq_true, Bool.true_eq_false, eq_self]) (by omega) H locs ls X (lv_sub hl [0, 1, 3] rfl)
  exact cut4 (qLn q0 + 1) 0 0 (by first | assumption | omega) (rfl) (by omega) H locs ls X (lv_sub hl [0, 1, 2] rfl)
theorem inw_X0_safePieces : ∀ w ∈ wsX00, w ∈ wsX0_safePieces := by decide +kernel
theorem lk_X0_safePieces_35 : Cond.fieldLink RX0 35 "Quarterboard" "used" "I" ∈ wsX0_safePieces := by decide +kernel
def P_X0_safePieces (q0 q1 q2 q3 q4 q5 q6 : Int32) (q7 : Int64) (q8 q9 : Int32) (q10 : Int64) : Int32 → QS → Prop := fun r u => u = (q0, q1, q2, q3, q4, q5, q6, q7, q8, q9, q10) ∧ r = qSafe q5 q6 q7 q0
set_option maxHeartbeats 4000000 in
set_option maxRecDepth 100000 in
theorem c_X0_safePieces (l : Launch) (g : zG) (bL h : Nat) (q0 q1 q2 q3 q4 q5 q6 : Int32) (q7 : Int64) (q8 q9 : Int32) (q10 : Int64)   : zM l yX0_safePieces wsX0_safePieces 3 120 g [.ref h] (oQ h (q0, q1, q2, q3, q4, q5, q6, q7, q8, q9, q10)) (zEL bL) (zQi g (P_X0_safePieces q0 q1 q2 q3 q4 q5 q6 q7 q8 q9 q10) (oQ h)) := by
  refine zstart (cc := cX0_safePieces) (maxL := 4) (ret := (some .int)) (own := RX0) rfl (by decide) rfl zStL (Nat.le_of_ble_eq_true rfl) ?_
  intro p e s m below meth c A Z hr hlk H locs X ls hl
  have hx := Z.1.1
  have hb := Z.1.2.1
  have hin : ∀ w ∈ wsX00, w ∈ wsX0_safePieces := inw_X0_safePieces
  have hl : lv_has ls 4 [(0, .ref h)] := hl
  have X : zh g A (oQ h (q0, q1, q2, q3, q4, q5, q6, q7, q8, q9, q10)) s.heap H locs := X
  refine lv_aload_n hx hb dX0_safePieces_0 rfl (lv_at hl 0 rfl) ?_
  refine zcallVi (n := 0) (As := []) (rest := []) (ci := 0) (C := RX0) (T := TX0) (N := 11) Z X (c_X0_winningDigits l g bL h q0 q1 q2 q3 q4 q5 q6 q7 q8 q9 q10 ) gX0_safePieces_X0_winningDigits rfl (by decide +kernel) ⟨Nat.le_of_ble_eq_true rfl, Nat.le_of_ble_eq_true rfl⟩ rfl rfl rfl rfl hl.1 (Nat.le_of_ble_eq_true rfl) dX0_safePieces_1 ⟨Nat.zero_le _, Nat.zero_le _⟩ (fun r0 ur0 H locs hrr0 X => ?_)
  obtain ⟨rfl, rfl⟩ : ur0 = (q0, q1, q2, q3, q4, q5, q6, q7, q8, q9, q10) ∧ r0 = qWinD q5 q7 q0 := hrr0
  have X : zh g A (oQ h (q0, q1, q2, q3, q4, q5, q6, q7, q8, q9, q10)) s.heap H locs := X
  refine lv_topi (fun x2 ex2 => ?_)
  refine lv_istore_n (lv' := [(1, .int x2), (0, .ref h)]) hx hb dX0_safePieces_4 rfl hl (by decide) rfl (fun ls hl => ?_)
  refine lv_iconst (v := (0 : Int32)) hx hb dX0_safePieces_5 (by decide) ?_
  refine lv_istore_n (lv' := [(2, .int (0 : Int32)), (1, .int x2), (0, .ref h)]) hx hb dX0_safePieces_6 rfl hl (by decide) rfl (fun ls hl => ?_)
  refine lv_iconst (v := (0 : Int32)) hx hb dX0_safePieces_7 (by decide) ?_
  refine lv_istore_n (lv' := [(3, .int (0 : Int32)), (2, .int (0 : Int32)), (1, .int x2), (0, .ref h)]) hx hb dX0_safePieces_8 rfl hl (by decide) rfl (fun ls hl => ?_)
  have cut9 : ∀ (n9 : Nat), ∀ (k : Nat) (acc : Int32) (wi : Int32), (k ≤ 16) → (wi = qWinD q5 q7 q0) → (acc = qSafeC q6 wi k) → (17 - k ≤ n9) → ∀ (H : Heap) (locs : List Loc) (ls : Array Slot), zh g A (oQ h (q0, q1, q2, q3, q4, q5, q6, q7, q8, q9, q10)) s.heap H locs → lv_has ls 4 [(3, .int (nI k)), (2, .int acc), (1, .int wi), (0, .ref h)] → W p l e { frames := 3, cells := 0, slots := 0, locals := 120 } s m ([.ref h] : List Value).toArray below meth c H locs 0 0 (MQ below ((zQi g (P_X0_safePieces q0 q1 q2 q3 q4 q5 q6 q7 q8 q9 q10) (oQ h)) A) ([.ref h] : List Value).toArray s 0 0 A) (F0 m 9 ls []) := by
    intro n9
    induction n9 with
    | zero =>
      intro k acc wi hk hwi hacc hm9
      exact absurd hm9 (by omega)
    | succ n9 ih9 =>
      intro k acc wi hk hwi hacc hm9 H locs ls X hl
      refine lv_iload_n hx hb dX0_safePieces_9 rfl (lv_at hl 0 rfl) ?_
      refine lv_bipush (v := (16 : Int32)) hx hb dX0_safePieces_10 (by decide) ?_
      refine lv_icmp_ge (tgt := 47) hx hb dX0_safePieces_12 (by decide) (fun c3 => ?_) (fun c3 => ?_)
      · have qc3 := c3
        have c3n : 16 ≤ k := zn_let (by omega) (by omega) c3
        refine lv_iload_n hx hb dX0_safePieces_47 rfl (lv_at hl 1 rfl) ?_
        exact zreti Z hr hlk (q0, q1, q2, q3, q4, q5, q6, q7, q8, q9, q10) X dX0_safePieces_48 rfl (⟨rfl, by rw [hacc, hwi, show k = 16 by omega]; rfl⟩)
      · have qc3 := c3
        have c3n : ¬ 16 ≤ k := zn_len (by omega) (by omega) c3
        refine lv_aload_n hx hb dX0_safePieces_15 rfl (lv_at hl 3 rfl) ?_
        refine zget (fs := [.int q0, .int q1, .int q2, .int q3, .int q4, .int q5, .int q6, .long q7, .int q8, .int q9, .long q10]) (v := .int q6) Z hin X (ci := 0) (C := RX0) (T := TX0) (N := 11) rfl rfl 6 (by decide) lk_X0_safePieces_35 rfl dX0_safePieces_16 ?_
        refine lv_iload_n hx hb dX0_safePieces_19 rfl (lv_at hl 0 rfl) ?_
        refine zcallSi (n := 2) (As := [.int q6, .int (nI k)]) (rest := []) Z X (c_X0_has l g q6 (nI k)) gX0_safePieces_X0_has rfl (by decide +kernel) ⟨Nat.le_of_ble_eq_true rfl, Nat.le_of_ble_eq_true rfl⟩ rfl rfl hl.1 (Nat.le_of_ble_eq_true rfl) dX0_safePieces_20 ⟨Nat.zero_le _, Nat.zero_le _⟩ (fun r3 H locs hrr3 X => ?_)
        obtain rfl : r3 = zb (qHas q6 (nI k)) := hrr3
        refine lv_if_ne (tgt := 41) hx hb dX0_safePieces_23 (by decide) (fun c5 => ?_) (fun c5 => ?_)
        · have qc5 := c5
          have hc5 := zb_n0.mp c5
          refine lv_iinc (v := nI (k + 1)) (lv' := [(3, .int (nI (k + 1))), (2, .int acc), (1, .int wi), (0, .ref h)]) hx hb dX0_safePieces_41 hl (k := 0) rfl (zi_inc k) (by decide) rfl (fun ls hl => ?_)
          refine lv_goto (tgt := 9) hx hb dX0_safePieces_44 (by decide) ?_
          exact ih9 (k + 1) acc wi (by first | assumption | omega) (by first | assumption | omega) (by rw [hacc]; simp only [qSafeC, qBit, c3n, hc5, decide_true, decide_false, Bool.and_true, Bool.and_false, Bool.true_and, Bool.false_and, not_true_eq_false, not_false_eq_true, Bool.not_true, Bool.not_false, if_true, if_false, and_true, true_and, and_false, false_and, Bool.false_eq_true, Bool.true_eq_false, eq_self]) (by omega) H locs ls X (lv_sub hl [0, 1, 2, 3] rfl)
        · have qc5 := c5
          have hc5 := zb_0.mp c5
          refine lv_iload_n hx hb dX0_safePieces_26 rfl (lv_at hl 0 rfl) ?_
          refine zcallSi (n := 1) (As := [.int (nI k)]) (rest := []) Z X (c_X0_ownDigits l g (nI k)) gX0_safePieces_X0_ownDigits rfl (by decide +kernel) ⟨Nat.le_of_ble_eq_true rfl, Nat.le_of_ble_eq_true rfl⟩ rfl rfl hl.1 (Nat.le_of_ble_eq_true rfl) dX0_safePieces_27 ⟨Nat.zero_le _, Nat.zero_le _⟩ (fun r5 H locs hrr5 X => ?_)
          obtain rfl : r5 = qOwn (nI k) := hrr5
          refine lv_iload_n hx hb dX0_safePieces_30 rfl (lv_at hl 2 rfl) ?_
          refine lv_iand hx hb dX0_safePieces_31 ?_
          refine lv_if_ne (tgt := 41) hx hb dX0_safePieces_32 (by decide) (fun c7 => ?_) (fun c7 => ?_)
          · have qc7 := c7
            refine lv_iinc (v := nI (k + 1)) (lv' := [(3, .int (nI (k + 1))), (2, .int acc), (1, .int wi), (0, .ref h)]) hx hb dX0_safePieces_41 hl (k := 0) rfl (zi_inc k) (by decide) rfl (fun ls hl => ?_)
            refine lv_goto (tgt := 9) hx hb dX0_safePieces_44 (by decide) ?_
            exact ih9 (k + 1) acc wi (by first | assumption | omega) (by first | assumption | omega) (by rw [hacc]; simp only [qSafeC, qBit, c3n, hc5, c7, decide_true, decide_false, Bool.and_true, Bool.and_false, Bool.true_and, Bool.false_and, not_true_eq_false, not_false_eq_true, Bool.not_true, Bool.not_false, if_true, if_false, and_true, true_and, and_false, false_and, Bool.false_eq_true, Bool.true_eq_false, eq_self]) (by omega) H locs ls X (lv_sub hl [0, 1, 2, 3] rfl)
          · have qc7 := c7
            refine lv_iload_n hx hb dX0_safePieces_35 rfl (lv_at hl 1 rfl) ?_
            refine lv_iconst (v := (1 : Int32)) hx hb dX0_safePieces_36 (by decide) ?_
            refine lv_iload_n hx hb dX0_safePieces_37 rfl (lv_at hl 0 rfl) ?_
            refine lv_ishl hx hb dX0_safePieces_38 ?_
            refine lv_ior hx hb dX0_safePieces_39 ?_
            refine lv_topi (fun x8 ex8 => ?_)
            refine lv_istore_n (lv' := [(2, .int x8), (3, .int (nI k)), (1, .int wi), (0, .ref h)]) hx hb dX0_safePieces_40 rfl hl (by decide) rfl (fun ls hl => ?_)
            refine lv_iinc (v := nI (k + 1)) (lv' := [(3, .int (nI (k + 1))), (2, .int x8), (1, .int wi), (0, .ref h)]) hx hb dX0_safePieces_41 hl (k := 1) rfl (zi_inc k) (by decide) rfl (fun ls hl => ?_)
            refine lv_goto (tgt := 9) hx hb dX0_safePieces_44 (by decide) ?_
            exact ih9 (k + 1) x8 wi (by first | assumption | omega) (by first | assumption | omega) (by subst ex8; rw [hacc]; simp only [qSafeC, qBit, c3n, hc5, c7, decide_true, decide_false, Bool.and_true, Bool.and_false, Bool.true_and, Bool.false_and, not_true_eq_false, not_false_eq_true, Bool.not_true, Bool.not_false, if_true, if_false, and_true, true_and, and_false, false_and, Bool.false_eq_true, Bool.true_eq_false, eq_self]) (by omega) H locs ls X (lv_sub hl [0, 1, 2, 3] rfl)
  exact cut9 17 0 0 x2 (by first | assumption | omega) (by subst ex2; rfl) (rfl) (by omega) H locs ls X (lv_sub hl [0, 1, 2, 3] rfl)
theorem inw_X0_canLookAhead : ∀ w ∈ wsX00, w ∈ wsX0_canLookAhead := by decide +kernel
theorem lk_X0_canLookAhead_16 : Cond.fieldLink RX0 16 "Quarterboard" "filled" "I" ∈ wsX0_canLookAhead := by decide +kernel
theorem lk_X0_canLookAhead_29 : Cond.fieldLink RX0 29 "Quarterboard" "stage" "I" ∈ wsX0_canLookAhead := by decide +kernel
def P_X0_canLookAhead (q0 q1 q2 q3 q4 q5 q6 : Int32) (q7 : Int64) (q8 q9 : Int32) (q10 : Int64) (np : Int32) : Int32 → QS → Prop := fun r u => u = (q0, q1, q2, q3, q4, q5, q6, q7, q8, q9, q10) ∧ r = zb (qCan q5 q1 np)
set_option maxHeartbeats 4000000 in
set_option maxRecDepth 100000 in
theorem c_X0_canLookAhead (l : Launch) (g : zG) (bL h : Nat) (q0 q1 q2 q3 q4 q5 q6 : Int32) (q7 : Int64) (q8 q9 : Int32) (q10 : Int64) (np : Int32)  : zM l yX0_canLookAhead wsX0_canLookAhead 1 40 g [.ref h, .int np] (oQ h (q0, q1, q2, q3, q4, q5, q6, q7, q8, q9, q10)) (zEL bL) (zQi g (P_X0_canLookAhead q0 q1 q2 q3 q4 q5 q6 q7 q8 q9 q10 np) (oQ h)) := by
  refine zstart (cc := cX0_canLookAhead) (maxL := 3) (ret := (some .boolean)) (own := RX0) rfl (by decide) rfl zStL (Nat.le_of_ble_eq_true rfl) ?_
  intro p e s m below meth c A Z hr hlk H locs X ls hl
  have hx := Z.1.1
  have hb := Z.1.2.1
  have hin : ∀ w ∈ wsX00, w ∈ wsX0_canLookAhead := inw_X0_canLookAhead
  have hl : lv_has ls 3 [(0, .ref h), (1, .int np)] := hl
  have X : zh g A (oQ h (q0, q1, q2, q3, q4, q5, q6, q7, q8, q9, q10)) s.heap H locs := X
  refine lv_bipush (v := (16 : Int32)) hx hb dX0_canLookAhead_0 (by decide) ?_
  refine lv_aload_n hx hb dX0_canLookAhead_2 rfl (lv_at hl 0 rfl) ?_
  refine zget (fs := [.int q0, .int q1, .int q2, .int q3, .int q4, .int q5, .int q6, .long q7, .int q8, .int q9, .long q10]) (v := .int q5) Z hin X (ci := 0) (C := RX0) (T := TX0) (N := 11) rfl rfl 5 (by decide) lk_X0_canLookAhead_16 rfl dX0_canLookAhead_3 ?_
  refine zcallSi (n := 1) (As := [.int q5]) (rest := [.int (16 : Int32)]) Z X (c_J6_bitCount_0f7a4 l g q5) gX0_canLookAhead_J6_bitCount_0f7a4 rfl (by decide +kernel) ⟨Nat.le_of_ble_eq_true rfl, Nat.le_of_ble_eq_true rfl⟩ rfl rfl hl.1 (Nat.le_of_ble_eq_true rfl) dX0_canLookAhead_6 ⟨Nat.zero_le _, Nat.zero_le _⟩ (fun r0 H locs hrr0 X => ?_)
  obtain rfl : r0 = qBc q5 := hrr0
  refine lv_isub hx hb dX0_canLookAhead_9 ?_
  refine lv_topi (fun x2 ex2 => ?_)
  refine lv_istore_n (lv' := [(2, .int x2), (0, .ref h), (1, .int np)]) hx hb dX0_canLookAhead_10 rfl hl (by decide) rfl (fun ls hl => ?_)
  refine lv_iload_n hx hb dX0_canLookAhead_11 rfl (lv_at hl 2 rfl) ?_
  refine lv_iconst (v := (3 : Int32)) hx hb dX0_canLookAhead_12 (by decide) ?_
  refine lv_icmp_ne (tgt := 24) hx hb dX0_canLookAhead_13 (by decide) (fun c3 => ?_) (fun c3 => ?_)
  · have qc3 := c3
    refine lv_iload_n hx hb dX0_canLookAhead_24 rfl (lv_at hl 2 rfl) ?_
    refine lv_iconst (v := (4 : Int32)) hx hb dX0_canLookAhead_25 (by decide) ?_
    refine lv_icmp_ne (tgt := 37) hx hb dX0_canLookAhead_26 (by decide) (fun c4 => ?_) (fun c4 => ?_)
    · have qc4 := c4
      refine lv_aload_n hx hb dX0_canLookAhead_37 rfl (lv_at hl 1 rfl) ?_
      refine zget (fs := [.int q0, .int q1, .int q2, .int q3, .int q4, .int q5, .int q6, .long q7, .int q8, .int q9, .long q10]) (v := .int q1) Z hin X (ci := 0) (C := RX0) (T := TX0) (N := 11) rfl rfl 1 (by decide) lk_X0_canLookAhead_29 rfl dX0_canLookAhead_38 ?_
      refine lv_iconst (v := (2 : Int32)) hx hb dX0_canLookAhead_41 (by decide) ?_
      refine lv_icmp_eq (tgt := 49) hx hb dX0_canLookAhead_42 (by decide) (fun c5 => ?_) (fun c5 => ?_)
      · have qc5 := c5
        refine lv_iconst (v := (0 : Int32)) hx hb dX0_canLookAhead_49 (by decide) ?_
        exact zreti Z hr hlk (q0, q1, q2, q3, q4, q5, q6, q7, q8, q9, q10) X dX0_canLookAhead_50 rfl (⟨rfl, by first | (subst ex2; simp only [qCan, zb, zn43, zn34, c3, c4, c5, decide_true, decide_false, Bool.and_true, Bool.and_false, Bool.true_and, Bool.false_and, not_true_eq_false, not_false_eq_true, Bool.not_true, Bool.not_false, if_true, if_false, and_true, true_and, and_false, false_and, Bool.false_eq_true, Bool.true_eq_false, eq_self]; done) | exact absurd (Eq.trans (Eq.symm ‹np = 3›) ‹np = 4›) zn34⟩)
      · have qc5 := c5
        refine lv_iconst (v := (1 : Int32)) hx hb dX0_canLookAhead_45 (by decide) ?_
        refine lv_goto (tgt := 50) hx hb dX0_canLookAhead_46 (by decide) ?_
        exact zreti Z hr hlk (q0, q1, q2, q3, q4, q5, q6, q7, q8, q9, q10) X dX0_canLookAhead_50 rfl (⟨rfl, by first | (subst ex2; simp only [qCan, zb, zn43, zn34, c3, c4, c5, decide_true, decide_false, Bool.and_true, Bool.and_false, Bool.true_and, Bool.false_and, not_true_eq_false, not_false_eq_true, Bool.not_true, Bool.not_false, if_true, if_false, and_true, true_and, and_false, false_and, Bool.false_eq_true, Bool.true_eq_false, eq_self]; done) | exact absurd (Eq.trans (Eq.symm ‹np = 3›) ‹np = 4›) zn34⟩)
    · have qc4 := c4
      refine lv_iload_n hx hb dX0_canLookAhead_29 rfl (lv_at hl 0 rfl) ?_
      refine lv_bipush (v := (6 : Int32)) hx hb dX0_canLookAhead_30 (by decide) ?_
      refine lv_icmp_le (tgt := 37) hx hb dX0_canLookAhead_32 (by decide) (fun c6 => ?_) (fun c6 => ?_)
      · have qc6 := c6
        refine lv_aload_n hx hb dX0_canLookAhead_37 rfl (lv_at hl 1 rfl) ?_
        refine zget (fs := [.int q0, .int q1, .int q2, .int q3, .int q4, .int q5, .int q6, .long q7, .int q8, .int q9, .long q10]) (v := .int q1) Z hin X (ci := 0) (C := RX0) (T := TX0) (N := 11) rfl rfl 1 (by decide) lk_X0_canLookAhead_29 rfl dX0_canLookAhead_38 ?_
        refine lv_iconst (v := (2 : Int32)) hx hb dX0_canLookAhead_41 (by decide) ?_
        refine lv_icmp_eq (tgt := 49) hx hb dX0_canLookAhead_42 (by decide) (fun c7 => ?_) (fun c7 => ?_)
        · have qc7 := c7
          refine lv_iconst (v := (0 : Int32)) hx hb dX0_canLookAhead_49 (by decide) ?_
          exact zreti Z hr hlk (q0, q1, q2, q3, q4, q5, q6, q7, q8, q9, q10) X dX0_canLookAhead_50 rfl (⟨rfl, by first | (subst ex2; simp only [qCan, zb, zn43, zn34, c3, c4, c6, c7, decide_true, decide_false, Bool.and_true, Bool.and_false, Bool.true_and, Bool.false_and, not_true_eq_false, not_false_eq_true, Bool.not_true, Bool.not_false, if_true, if_false, and_true, true_and, and_false, false_and, Bool.false_eq_true, Bool.true_eq_false, eq_self]; done) | exact absurd (Eq.trans (Eq.symm ‹np = 3›) ‹np = 4›) zn34⟩)
        · have qc7 := c7
          refine lv_iconst (v := (1 : Int32)) hx hb dX0_canLookAhead_45 (by decide) ?_
          refine lv_goto (tgt := 50) hx hb dX0_canLookAhead_46 (by decide) ?_
          exact zreti Z hr hlk (q0, q1, q2, q3, q4, q5, q6, q7, q8, q9, q10) X dX0_canLookAhead_50 rfl (⟨rfl, by first | (subst ex2; simp only [qCan, zb, zn43, zn34, c3, c4, c6, c7, decide_true, decide_false, Bool.and_true, Bool.and_false, Bool.true_and, Bool.false_and, not_true_eq_false, not_false_eq_true, Bool.not_true, Bool.not_false, if_true, if_false, and_true, true_and, and_false, false_and, Bool.false_eq_true, Bool.true_eq_false, eq_self]; done) | exact absurd (Eq.trans (Eq.symm ‹np = 3›) ‹np = 4›) zn34⟩)
      · have qc6 := c6
        refine lv_iconst (v := (0 : Int32)) hx hb dX0_canLookAhead_35 (by decide) ?_
        exact zreti Z hr hlk (q0, q1, q2, q3, q4, q5, q6, q7, q8, q9, q10) X dX0_canLookAhead_36 rfl (⟨rfl, by first | (subst ex2; simp only [qCan, zb, zn43, zn34, c3, c4, c6, decide_true, decide_false, Bool.and_true, Bool.and_false, Bool.true_and, Bool.false_and, not_true_eq_false, not_false_eq_true, Bool.not_true, Bool.not_false, if_true, if_false, and_true, true_and, and_false, false_and, Bool.false_eq_true, Bool.true_eq_false, eq_self]; done) | exact absurd (Eq.trans (Eq.symm ‹np = 3›) ‹np = 4›) zn34⟩)
  · have qc3 := c3
    refine lv_iload_n hx hb dX0_canLookAhead_16 rfl (lv_at hl 0 rfl) ?_
    refine lv_bipush (v := (8 : Int32)) hx hb dX0_canLookAhead_17 (by decide) ?_
    refine lv_icmp_le (tgt := 24) hx hb dX0_canLookAhead_19 (by decide) (fun c8 => ?_) (fun c8 => ?_)
    · have qc8 := c8
      refine lv_iload_n hx hb dX0_canLookAhead_24 rfl (lv_at hl 2 rfl) ?_
      refine lv_iconst (v := (4 : Int32)) hx hb dX0_canLookAhead_25 (by decide) ?_
      refine lv_icmp_ne (tgt := 37) hx hb dX0_canLookAhead_26 (by decide) (fun c9 => ?_) (fun c9 => ?_)
      · have qc9 := c9
        refine lv_aload_n hx hb dX0_canLookAhead_37 rfl (lv_at hl 1 rfl) ?_
        refine zget (fs := [.int q0, .int q1, .int q2, .int q3, .int q4, .int q5, .int q6, .long q7, .int q8, .int q9, .long q10]) (v := .int q1) Z hin X (ci := 0) (C := RX0) (T := TX0) (N := 11) rfl rfl 1 (by decide) lk_X0_canLookAhead_29 rfl dX0_canLookAhead_38 ?_
        refine lv_iconst (v := (2 : Int32)) hx hb dX0_canLookAhead_41 (by decide) ?_
        refine lv_icmp_eq (tgt := 49) hx hb dX0_canLookAhead_42 (by decide) (fun c10 => ?_) (fun c10 => ?_)
        · have qc10 := c10
          refine lv_iconst (v := (0 : Int32)) hx hb dX0_canLookAhead_49 (by decide) ?_
          exact zreti Z hr hlk (q0, q1, q2, q3, q4, q5, q6, q7, q8, q9, q10) X dX0_canLookAhead_50 rfl (⟨rfl, by first | (subst ex2; simp only [qCan, zb, zn43, zn34, c3, c8, c9, c10, decide_true, decide_false, Bool.and_true, Bool.and_false, Bool.true_and, Bool.false_and, not_true_eq_false, not_false_eq_true, Bool.not_true, Bool.not_false, if_true, if_false, and_true, true_and, and_false, false_and, Bool.false_eq_true, Bool.true_eq_false, eq_self]; done) | exact absurd (Eq.trans (Eq.symm ‹np = 3›) ‹np = 4›) zn34⟩)
        · have qc10 := c10
          refine lv_iconst (v := (1 : Int32)) hx hb dX0_canLookAhead_45 (by decide) ?_
          refine lv_goto (tgt := 50) hx hb dX0_canLookAhead_46 (by decide) ?_
          exact zreti Z hr hlk (q0, q1, q2, q3, q4, q5, q6, q7, q8, q9, q10) X dX0_canLookAhead_50 rfl (⟨rfl, by first | (subst ex2; simp only [qCan, zb, zn43, zn34, c3, c8, c9, c10, decide_true, decide_false, Bool.and_true, Bool.and_false, Bool.true_and, Bool.false_and, not_true_eq_false, not_false_eq_true, Bool.not_true, Bool.not_false, if_true, if_false, and_true, true_and, and_false, false_and, Bool.false_eq_true, Bool.true_eq_false, eq_self]; done) | exact absurd (Eq.trans (Eq.symm ‹np = 3›) ‹np = 4›) zn34⟩)
      · have qc9 := c9
        refine lv_iload_n hx hb dX0_canLookAhead_29 rfl (lv_at hl 0 rfl) ?_
        refine lv_bipush (v := (6 : Int32)) hx hb dX0_canLookAhead_30 (by decide) ?_
        refine lv_icmp_le (tgt := 37) hx hb dX0_canLookAhead_32 (by decide) (fun c11 => ?_) (fun c11 => ?_)
        · have qc11 := c11
          refine lv_aload_n hx hb dX0_canLookAhead_37 rfl (lv_at hl 1 rfl) ?_
          refine zget (fs := [.int q0, .int q1, .int q2, .int q3, .int q4, .int q5, .int q6, .long q7, .int q8, .int q9, .long q10]) (v := .int q1) Z hin X (ci := 0) (C := RX0) (T := TX0) (N := 11) rfl rfl 1 (by decide) lk_X0_canLookAhead_29 rfl dX0_canLookAhead_38 ?_
          refine lv_iconst (v := (2 : Int32)) hx hb dX0_canLookAhead_41 (by decide) ?_
          refine lv_icmp_eq (tgt := 49) hx hb dX0_canLookAhead_42 (by decide) (fun c12 => ?_) (fun c12 => ?_)
          · have qc12 := c12
            refine lv_iconst (v := (0 : Int32)) hx hb dX0_canLookAhead_49 (by decide) ?_
            exact zreti Z hr hlk (q0, q1, q2, q3, q4, q5, q6, q7, q8, q9, q10) X dX0_canLookAhead_50 rfl (⟨rfl, by first | (subst ex2; simp only [qCan, zb, zn43, zn34, c3, c8, c9, c11, c12, decide_true, decide_false, Bool.and_true, Bool.and_false, Bool.true_and, Bool.false_and, not_true_eq_false, not_false_eq_true, Bool.not_true, Bool.not_false, if_true, if_false, and_true, true_and, and_false, false_and, Bool.false_eq_true, Bool.true_eq_false, eq_self]; done) | exact absurd (Eq.trans (Eq.symm ‹np = 3›) ‹np = 4›) zn34⟩)
          · have qc12 := c12
            refine lv_iconst (v := (1 : Int32)) hx hb dX0_canLookAhead_45 (by decide) ?_
            refine lv_goto (tgt := 50) hx hb dX0_canLookAhead_46 (by decide) ?_
            exact zreti Z hr hlk (q0, q1, q2, q3, q4, q5, q6, q7, q8, q9, q10) X dX0_canLookAhead_50 rfl (⟨rfl, by first | (subst ex2; simp only [qCan, zb, zn43, zn34, c3, c8, c9, c11, c12, decide_true, decide_false, Bool.and_true, Bool.and_false, Bool.true_and, Bool.false_and, not_true_eq_false, not_false_eq_true, Bool.not_true, Bool.not_false, if_true, if_false, and_true, true_and, and_false, false_and, Bool.false_eq_true, Bool.true_eq_false, eq_self]; done) | exact absurd (Eq.trans (Eq.symm ‹np = 3›) ‹np = 4›) zn34⟩)
        · have qc11 := c11
          refine lv_iconst (v := (0 : Int32)) hx hb dX0_canLookAhead_35 (by decide) ?_
          exact zreti Z hr hlk (q0, q1, q2, q3, q4, q5, q6, q7, q8, q9, q10) X dX0_canLookAhead_36 rfl (⟨rfl, by first | (subst ex2; simp only [qCan, zb, zn43, zn34, c3, c8, c9, c11, decide_true, decide_false, Bool.and_true, Bool.and_false, Bool.true_and, Bool.false_and, not_true_eq_false, not_false_eq_true, Bool.not_true, Bool.not_false, if_true, if_false, and_true, true_and, and_false, false_and, Bool.false_eq_true, Bool.true_eq_false, eq_self]; done) | exact absurd (Eq.trans (Eq.symm ‹np = 3›) ‹np = 4›) zn34⟩)
    · have qc8 := c8
      refine lv_iconst (v := (0 : Int32)) hx hb dX0_canLookAhead_22 (by decide) ?_
      exact zreti Z hr hlk (q0, q1, q2, q3, q4, q5, q6, q7, q8, q9, q10) X dX0_canLookAhead_23 rfl (⟨rfl, by first | (subst ex2; simp only [qCan, zb, zn43, zn34, c3, c8, decide_true, decide_false, Bool.and_true, Bool.and_false, Bool.true_and, Bool.false_and, not_true_eq_false, not_false_eq_true, Bool.not_true, Bool.not_false, if_true, if_false, and_true, true_and, and_false, false_and, Bool.false_eq_true, Bool.true_eq_false, eq_self]; done) | exact absurd (Eq.trans (Eq.symm ‹np = 3›) ‹np = 4›) zn34⟩)
