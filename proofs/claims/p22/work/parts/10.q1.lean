/-! the class: numbers and sets -/
def qNum (n : Int32) : Bool := decide (¬ n < 0) && decide (¬ 16 ≤ n)
def qHas (set n : Int32) : Bool := decide (¬ set &&& ((1 : Int32) <<< (n &&& 31)) = 0)
def qOne (d : Int64) (m : Int32) : Int32 := ((d.toUInt64 >>> (((16 : Int32) * m).toInt64.toUInt64 &&& Int64.toUInt64 63)).toInt64).toInt32 &&& (65535 : Int32)
def qOwn (p : Int32) : Int32 := p ||| (((p ^^^ (-1 : Int32)) &&& (15 : Int32)) <<< ((4 : Int32) &&& 31))
def qFirst (p : Int32) : Int64 := (((p.toInt64 &&& (1 : Int64)) ||| ((p.toInt64 &&& (2 : Int64)) <<< ((15 : Int32).toInt64 &&& 63))) ||| ((p.toInt64 &&& (4 : Int64)) <<< ((30 : Int32).toInt64 &&& 63))) ||| ((p.toInt64 &&& (8 : Int64)) <<< ((45 : Int32).toInt64 &&& 63))
def qBit (s : Int32) : Int32 := (1 : Int32) <<< (s &&& 31)
def qPutD (d : Int64) (p s : Int32) : Int64 := d ||| (qFirst p <<< (s.toInt64 &&& 63))
def qLiftD (d : Int64) (s : Int32) : Int64 := d &&& (((281479271743489 : Int64) <<< (s.toInt64 &&& 63)) ^^^ (-1 : Int64))
/-- the digits that k marks show as common to the squares there -/
def qCom (d : Int64) (there : Int32) : Nat → Int32
  | 0 => 0
  | k + 1 => (if qOne d (nI k) &&& there = 0 then (if qOne d (nI k) &&& there = there then qCom d there k ||| qBit (nI k) else qCom d there k) ||| qBit (nI k + 4) else (if qOne d (nI k) &&& there = there then qCom d there k ||| qBit (nI k) else qCom d there k))
def qIn (f : Int32) (d : Int64) (squares : Int32) : Int32 := qCom d (squares &&& f) 4
def P_X0_isNumber (n : Int32) : Int32 → Unit → Prop := fun r _ => r = zb (qNum n)
set_option maxHeartbeats 4000000 in
set_option maxRecDepth 100000 in
theorem c_X0_isNumber (l : Launch) (g : zG) (n : Int32)  : zM l yX0_isNumber wsX0_isNumber 0 0 g [.int n] ([]) zE0 (zQi g (P_X0_isNumber n) (fun _ : Unit => [])) := by
  refine zstart (cc := cX0_isNumber) (maxL := 1) (ret := (some .boolean)) (own := RX0) rfl (by decide) rfl zSt0 (Nat.le_of_ble_eq_true rfl) ?_
  intro p e s m below meth c A Z hr hlk H locs X ls hl
  have hx := Z.1.1
  have hb := Z.1.2.1
  have hl : lv_has ls 1 [(0, .int n)] := hl
  have X : zh g A ([]) s.heap H locs := X
  refine lv_iload_n hx hb dX0_isNumber_0 rfl (lv_at hl 0 rfl) ?_
  refine lv_if_lt (tgt := 14) hx hb dX0_isNumber_1 (by decide) (fun c1 => ?_) (fun c1 => ?_)
  · have qc1 := c1
    refine lv_iconst (v := (0 : Int32)) hx hb dX0_isNumber_14 (by decide) ?_
    exact zreti Z hr hlk () X dX0_isNumber_15 rfl (by simp [P_X0_isNumber, qNum, zb, c1])
  · have qc1 := c1
    refine lv_iload_n hx hb dX0_isNumber_4 rfl (lv_at hl 0 rfl) ?_
    refine lv_bipush (v := (16 : Int32)) hx hb dX0_isNumber_5 (by decide) ?_
    refine lv_icmp_ge (tgt := 14) hx hb dX0_isNumber_7 (by decide) (fun c2 => ?_) (fun c2 => ?_)
    · have qc2 := c2
      refine lv_iconst (v := (0 : Int32)) hx hb dX0_isNumber_14 (by decide) ?_
      exact zreti Z hr hlk () X dX0_isNumber_15 rfl (by simp [P_X0_isNumber, qNum, zb, c1, c2])
    · have qc2 := c2
      refine lv_iconst (v := (1 : Int32)) hx hb dX0_isNumber_10 (by decide) ?_
      refine lv_goto (tgt := 15) hx hb dX0_isNumber_11 (by decide) ?_
      exact zreti Z hr hlk () X dX0_isNumber_15 rfl (by simp [P_X0_isNumber, qNum, zb, c1, c2])
def P_X0_has (set : Int32) (n : Int32) : Int32 → Unit → Prop := fun r _ => r = zb (qHas set n)
set_option maxHeartbeats 4000000 in
set_option maxRecDepth 100000 in
theorem c_X0_has (l : Launch) (g : zG) (set : Int32) (n : Int32)  : zM l yX0_has wsX0_has 0 0 g [.int set, .int n] ([]) zE0 (zQi g (P_X0_has set n) (fun _ : Unit => [])) := by
  refine zstart (cc := cX0_has) (maxL := 2) (ret := (some .boolean)) (own := RX0) rfl (by decide) rfl zSt0 (Nat.le_of_ble_eq_true rfl) ?_
  intro p e s m below meth c A Z hr hlk H locs X ls hl
  have hx := Z.1.1
  have hb := Z.1.2.1
  have hl : lv_has ls 2 [(0, .int set), (1, .int n)] := hl
  have X : zh g A ([]) s.heap H locs := X
  refine lv_iload_n hx hb dX0_has_0 rfl (lv_at hl 0 rfl) ?_
  refine lv_iconst (v := (1 : Int32)) hx hb dX0_has_1 (by decide) ?_
  refine lv_iload_n hx hb dX0_has_2 rfl (lv_at hl 1 rfl) ?_
  refine lv_ishl hx hb dX0_has_3 ?_
  refine lv_iand hx hb dX0_has_4 ?_
  refine lv_if_eq (tgt := 12) hx hb dX0_has_5 (by decide) (fun c1 => ?_) (fun c1 => ?_)
  · have qc1 := c1
    refine lv_iconst (v := (0 : Int32)) hx hb dX0_has_12 (by decide) ?_
    exact zreti Z hr hlk () X dX0_has_13 rfl (by simp [P_X0_has, qHas, zb, c1])
  · have qc1 := c1
    refine lv_iconst (v := (1 : Int32)) hx hb dX0_has_8 (by decide) ?_
    refine lv_goto (tgt := 13) hx hb dX0_has_9 (by decide) ?_
    exact zreti Z hr hlk () X dX0_has_13 rfl (by simp [P_X0_has, qHas, zb, c1])
def P_X0_withOne (d : Int64) (n : Int32) : Int32 → Unit → Prop := fun r _ => r = qOne d n
set_option maxHeartbeats 4000000 in
set_option maxRecDepth 100000 in
theorem c_X0_withOne (l : Launch) (g : zG) (d : Int64) (n : Int32)  : zM l yX0_withOne wsX0_withOne 0 0 g [.long d, .int n] ([]) zE0 (zQi g (P_X0_withOne d n) (fun _ : Unit => [])) := by
  refine zstart (cc := cX0_withOne) (maxL := 3) (ret := (some .int)) (own := RX0) rfl (by decide) rfl zSt0 (Nat.le_of_ble_eq_true rfl) ?_
  intro p e s m below meth c A Z hr hlk H locs X ls hl
  have hx := Z.1.1
  have hb := Z.1.2.1
  have hl : lv_has ls 3 [(0, .long d), (2, .int n)] := hl
  have X : zh g A ([]) s.heap H locs := X
  refine lv_lload_n hx hb dX0_withOne_0 rfl (lv_at hl 0 rfl) ?_
  refine lv_bipush (v := (16 : Int32)) hx hb dX0_withOne_1 (by decide) ?_
  refine lv_iload_n hx hb dX0_withOne_3 rfl (lv_at hl 1 rfl) ?_
  refine lv_imul hx hb dX0_withOne_4 ?_
  refine lv_lushr hx hb dX0_withOne_5 rfl ?_
  refine lv_l2i hx hb dX0_withOne_6 rfl ?_
  refine lv_ldc (v := (65535 : Int32)) hx hb Z.1.2.2.2.1 (Z.1.2.2.2.2 (.constant RX0 78 (65535)) (by decide +kernel)) dX0_withOne_7 ?_
  refine lv_iand hx hb dX0_withOne_9 ?_
  exact zreti Z hr hlk () X dX0_withOne_10 rfl (by first | rfl | simp_all)
def P_X0_ownDigits (n : Int32) : Int32 → Unit → Prop := fun r _ => r = qOwn n
set_option maxHeartbeats 4000000 in
set_option maxRecDepth 100000 in
theorem c_X0_ownDigits (l : Launch) (g : zG) (n : Int32)  : zM l yX0_ownDigits wsX0_ownDigits 0 0 g [.int n] ([]) zE0 (zQi g (P_X0_ownDigits n) (fun _ : Unit => [])) := by
  refine zstart (cc := cX0_ownDigits) (maxL := 1) (ret := (some .int)) (own := RX0) rfl (by decide) rfl zSt0 (Nat.le_of_ble_eq_true rfl) ?_
  intro p e s m below meth c A Z hr hlk H locs X ls hl
  have hx := Z.1.1
  have hb := Z.1.2.1
  have hl : lv_has ls 1 [(0, .int n)] := hl
  have X : zh g A ([]) s.heap H locs := X
  refine lv_iload_n hx hb dX0_ownDigits_0 rfl (lv_at hl 0 rfl) ?_
  refine lv_iload_n hx hb dX0_ownDigits_1 rfl (lv_at hl 0 rfl) ?_
  refine lv_iconst (v := (-1 : Int32)) hx hb dX0_ownDigits_2 (by decide) ?_
  refine lv_ixor hx hb dX0_ownDigits_3 ?_
  refine lv_bipush (v := (15 : Int32)) hx hb dX0_ownDigits_4 (by decide) ?_
  refine lv_iand hx hb dX0_ownDigits_6 ?_
  refine lv_iconst (v := (4 : Int32)) hx hb dX0_ownDigits_7 (by decide) ?_
  refine lv_ishl hx hb dX0_ownDigits_8 ?_
  refine lv_ior hx hb dX0_ownDigits_9 ?_
  exact zreti Z hr hlk () X dX0_ownDigits_10 rfl (by first | rfl | simp_all)
def P_X0_atFirstSquare (n : Int32) : Int64 → Unit → Prop := fun r _ => r = qFirst n
set_option maxHeartbeats 4000000 in
set_option maxRecDepth 100000 in
theorem c_X0_atFirstSquare (l : Launch) (g : zG) (n : Int32)  : zM l yX0_atFirstSquare wsX0_atFirstSquare 0 0 g [.int n] ([]) zE0 (zQl g (P_X0_atFirstSquare n) (fun _ : Unit => [])) := by
  refine zstart (cc := cX0_atFirstSquare) (maxL := 1) (ret := (some .long)) (own := RX0) rfl (by decide) rfl zSt0 (Nat.le_of_ble_eq_true rfl) ?_
  intro p e s m below meth c A Z hr hlk H locs X ls hl
  have hx := Z.1.1
  have hb := Z.1.2.1
  have hl : lv_has ls 1 [(0, .int n)] := hl
  have X : zh g A ([]) s.heap H locs := X
  refine lv_iload_n hx hb dX0_atFirstSquare_0 rfl (lv_at hl 0 rfl) ?_
  refine lv_i2l hx hb dX0_atFirstSquare_1 rfl ?_
  refine lv_lconst (v := (1 : Int64)) hx hb dX0_atFirstSquare_2 (by decide) ?_
  refine lv_land hx hb dX0_atFirstSquare_3 ?_
  refine lv_iload_n hx hb dX0_atFirstSquare_4 rfl (lv_at hl 0 rfl) ?_
  refine lv_i2l hx hb dX0_atFirstSquare_5 rfl ?_
  refine lv_ldc2 (v := (2 : Int64)) hx hb Z.1.2.2.2.1 (Z.1.2.2.2.2 (.constantLong RX0 141 (2)) (by decide +kernel)) dX0_atFirstSquare_6 ?_
  refine lv_land hx hb dX0_atFirstSquare_9 ?_
  refine lv_bipush (v := (15 : Int32)) hx hb dX0_atFirstSquare_10 (by decide) ?_
  refine lv_lshl hx hb dX0_atFirstSquare_12 rfl ?_
  refine lv_lor hx hb dX0_atFirstSquare_13 ?_
  refine lv_iload_n hx hb dX0_atFirstSquare_14 rfl (lv_at hl 0 rfl) ?_
  refine lv_i2l hx hb dX0_atFirstSquare_15 rfl ?_
  refine lv_ldc2 (v := (4 : Int64)) hx hb Z.1.2.2.2.1 (Z.1.2.2.2.2 (.constantLong RX0 143 (4)) (by decide +kernel)) dX0_atFirstSquare_16 ?_
  refine lv_land hx hb dX0_atFirstSquare_19 ?_
  refine lv_bipush (v := (30 : Int32)) hx hb dX0_atFirstSquare_20 (by decide) ?_
  refine lv_lshl hx hb dX0_atFirstSquare_22 rfl ?_
  refine lv_lor hx hb dX0_atFirstSquare_23 ?_
  refine lv_iload_n hx hb dX0_atFirstSquare_24 rfl (lv_at hl 0 rfl) ?_
  refine lv_i2l hx hb dX0_atFirstSquare_25 rfl ?_
  refine lv_ldc2 (v := (8 : Int64)) hx hb Z.1.2.2.2.1 (Z.1.2.2.2.2 (.constantLong RX0 145 (8)) (by decide +kernel)) dX0_atFirstSquare_26 ?_
  refine lv_land hx hb dX0_atFirstSquare_29 ?_
  refine lv_bipush (v := (45 : Int32)) hx hb dX0_atFirstSquare_30 (by decide) ?_
  refine lv_lshl hx hb dX0_atFirstSquare_32 rfl ?_
  refine lv_lor hx hb dX0_atFirstSquare_33 ?_
  exact zretl Z hr hlk () X dX0_atFirstSquare_34 (by first | rfl | simp_all)
theorem inw_X0_put : ∀ w ∈ wsX00, w ∈ wsX0_put := by decide +kernel
theorem lk_X0_put_16 : Cond.fieldLink RX0 16 "Quarterboard" "filled" "I" ∈ wsX0_put := by decide +kernel
theorem lk_X0_put_35 : Cond.fieldLink RX0 35 "Quarterboard" "used" "I" ∈ wsX0_put := by decide +kernel
theorem lk_X0_put_38 : Cond.fieldLink RX0 38 "Quarterboard" "digits" "J" ∈ wsX0_put := by decide +kernel
def P_X0_put (q0 q1 q2 q3 q4 q5 q6 : Int32) (q7 : Int64) (q8 q9 : Int32) (q10 : Int64) (pc : Int32) (sq : Int32) : QS → Prop := fun u => u = (q0, q1, q2, q3, q4, q5 ||| qBit sq, q6 ||| qBit pc, qPutD q7 pc sq, q8, q9, q10)
set_option maxHeartbeats 4000000 in
set_option maxRecDepth 100000 in
theorem c_X0_put (l : Launch) (g : zG) (bL h : Nat) (q0 q1 q2 q3 q4 q5 q6 : Int32) (q7 : Int64) (q8 q9 : Int32) (q10 : Int64) (pc : Int32) (sq : Int32)  : zM l yX0_put wsX0_put 1 40 g [.ref h, .int pc, .int sq] (oQ h (q0, q1, q2, q3, q4, q5, q6, q7, q8, q9, q10)) (zEL bL) (zQv g (P_X0_put q0 q1 q2 q3 q4 q5 q6 q7 q8 q9 q10 pc sq) (oQ h)) := by
  refine zstart (cc := cX0_put) (maxL := 3) (ret := none) (own := RX0) rfl (by decide) rfl zStL (Nat.le_of_ble_eq_true rfl) ?_
  intro p e s m below meth c A Z hr hlk H locs X ls hl
  have hx := Z.1.1
  have hb := Z.1.2.1
  have hin : ∀ w ∈ wsX00, w ∈ wsX0_put := inw_X0_put
  have hl : lv_has ls 3 [(0, .ref h), (1, .int pc), (2, .int sq)] := hl
  have X : zh g A (oQ h (q0, q1, q2, q3, q4, q5, q6, q7, q8, q9, q10)) s.heap H locs := X
  refine lv_aload_n hx hb dX0_put_0 rfl (lv_at hl 0 rfl) ?_
  refine lv_dup hx hb dX0_put_1 rfl ?_
  refine zget (fs := [.int q0, .int q1, .int q2, .int q3, .int q4, .int q5, .int q6, .long q7, .int q8, .int q9, .long q10]) (v := .int q5) Z hin X (ci := 0) (C := RX0) (T := TX0) (N := 11) rfl rfl 5 (by decide) lk_X0_put_16 rfl dX0_put_2 ?_
  refine lv_iconst (v := (1 : Int32)) hx hb dX0_put_5 (by decide) ?_
  refine lv_iload_n hx hb dX0_put_6 rfl (lv_at hl 2 rfl) ?_
  refine lv_ishl hx hb dX0_put_7 ?_
  refine lv_ior hx hb dX0_put_8 ?_
  refine lv_topi (fun x1 ex1 => ?_)
  refine zput (ty := .int) (fs := [.int q0, .int q1, .int q2, .int q3, .int q4, .int q5, .int q6, .long q7, .int q8, .int q9, .long q10]) (v := .int x1) tyX0 tyX0_ok nmX0 Z hin X (ci := 0) (C := RX0) (T := TX0) (N := 11) rfl rfl 5 (by decide) lk_X0_put_16 rfl (by decide +kernel) rfl rfl (Nat.le_of_ble_eq_true rfl) dX0_put_9 (fun H locs X => ?_)
  have X : zh g A (oQ h (q0, q1, q2, q3, q4, x1, q6, q7, q8, q9, q10)) s.heap H locs := X
  refine lv_aload_n hx hb dX0_put_12 rfl (lv_at hl 0 rfl) ?_
  refine lv_dup hx hb dX0_put_13 rfl ?_
  refine zget (fs := [.int q0, .int q1, .int q2, .int q3, .int q4, .int x1, .int q6, .long q7, .int q8, .int q9, .long q10]) (v := .int q6) Z hin X (ci := 0) (C := RX0) (T := TX0) (N := 11) rfl rfl 6 (by decide) lk_X0_put_35 rfl dX0_put_14 ?_
  refine lv_iconst (v := (1 : Int32)) hx hb dX0_put_17 (by decide) ?_
  refine lv_iload_n hx hb dX0_put_18 rfl (lv_at hl 1 rfl) ?_
  refine lv_ishl hx hb dX0_put_19 ?_
  refine lv_ior hx hb dX0_put_20 ?_
  refine lv_topi (fun x2 ex2 => ?_)
  refine zput (ty := .int) (fs := [.int q0, .int q1, .int q2, .int q3, .int q4, .int x1, .int q6, .long q7, .int q8, .int q9, .long q10]) (v := .int x2) tyX0 tyX0_ok nmX0 Z hin X (ci := 0) (C := RX0) (T := TX0) (N := 11) rfl rfl 6 (by decide) lk_X0_put_35 rfl (by decide +kernel) rfl rfl (Nat.le_of_ble_eq_true rfl) dX0_put_21 (fun H locs X => ?_)
  have X : zh g A (oQ h (q0, q1, q2, q3, q4, x1, x2, q7, q8, q9, q10)) s.heap H locs := X
  refine lv_aload_n hx hb dX0_put_24 rfl (lv_at hl 0 rfl) ?_
  refine lv_dup hx hb dX0_put_25 rfl ?_
  refine zget (fs := [.int q0, .int q1, .int q2, .int q3, .int q4, .int x1, .int x2, .long q7, .int q8, .int q9, .long q10]) (v := .long q7) Z hin X (ci := 0) (C := RX0) (T := TX0) (N := 11) rfl rfl 7 (by decide) lk_X0_put_38 rfl dX0_put_26 ?_
  refine lv_iload_n hx hb dX0_put_29 rfl (lv_at hl 1 rfl) ?_
  refine zcallSl (n := 1) (As := [.int pc]) (rest := [.long q7, .ref h]) Z X (c_X0_atFirstSquare l g pc) gX0_put_X0_atFirstSquare rfl (by decide +kernel) ⟨Nat.le_of_ble_eq_true rfl, Nat.le_of_ble_eq_true rfl⟩ rfl rfl hl.1 (Nat.le_of_ble_eq_true rfl) dX0_put_30 ⟨Nat.zero_le _, Nat.zero_le _⟩ (fun r2 H locs hrr2 X => ?_)
  obtain rfl : r2 = qFirst pc := hrr2
  refine lv_iload_n hx hb dX0_put_33 rfl (lv_at hl 2 rfl) ?_
  refine lv_lshl hx hb dX0_put_34 rfl ?_
  refine lv_lor hx hb dX0_put_35 ?_
  refine lv_topl (fun x4 ex4 => ?_)
  refine zput (ty := .long) (fs := [.int q0, .int q1, .int q2, .int q3, .int q4, .int x1, .int x2, .long q7, .int q8, .int q9, .long q10]) (v := .long x4) tyX0 tyX0_ok nmX0 Z hin X (ci := 0) (C := RX0) (T := TX0) (N := 11) rfl rfl 7 (by decide) lk_X0_put_38 rfl (by decide +kernel) rfl rfl (Nat.le_of_ble_eq_true rfl) dX0_put_36 (fun H locs X => ?_)
  have X : zh g A (oQ h (q0, q1, q2, q3, q4, x1, x2, x4, q8, q9, q10)) s.heap H locs := X
  exact zretv Z hr hlk (q0, q1, q2, q3, q4, x1, x2, x4, q8, q9, q10) X dX0_put_39 (by subst ex4; subst ex2; subst ex1; rfl)
theorem inw_X0_lift : ∀ w ∈ wsX00, w ∈ wsX0_lift := by decide +kernel
theorem lk_X0_lift_16 : Cond.fieldLink RX0 16 "Quarterboard" "filled" "I" ∈ wsX0_lift := by decide +kernel
theorem lk_X0_lift_35 : Cond.fieldLink RX0 35 "Quarterboard" "used" "I" ∈ wsX0_lift := by decide +kernel
theorem lk_X0_lift_38 : Cond.fieldLink RX0 38 "Quarterboard" "digits" "J" ∈ wsX0_lift := by decide +kernel
def P_X0_lift (q0 q1 q2 q3 q4 q5 q6 : Int32) (q7 : Int64) (q8 q9 : Int32) (q10 : Int64) (pc : Int32) (sq : Int32) : QS → Prop := fun u => u = (q0, q1, q2, q3, q4, q5 &&& (qBit sq ^^^ (-1 : Int32)), q6 &&& (qBit pc ^^^ (-1 : Int32)), qLiftD q7 sq, q8, q9, q10)
set_option maxHeartbeats 4000000 in
set_option maxRecDepth 100000 in
theorem c_X0_lift (l : Launch) (g : zG) (bL h : Nat) (q0 q1 q2 q3 q4 q5 q6 : Int32) (q7 : Int64) (q8 q9 : Int32) (q10 : Int64) (pc : Int32) (sq : Int32)  : zM l yX0_lift wsX0_lift 0 0 g [.ref h, .int pc, .int sq] (oQ h (q0, q1, q2, q3, q4, q5, q6, q7, q8, q9, q10)) (zEL bL) (zQv g (P_X0_lift q0 q1 q2 q3 q4 q5 q6 q7 q8 q9 q10 pc sq) (oQ h)) := by
  refine zstart (cc := cX0_lift) (maxL := 3) (ret := none) (own := RX0) rfl (by decide) rfl zStL (Nat.le_of_ble_eq_true rfl) ?_
  intro p e s m below meth c A Z hr hlk H locs X ls hl
  have hx := Z.1.1
  have hb := Z.1.2.1
  have hin : ∀ w ∈ wsX00, w ∈ wsX0_lift := inw_X0_lift
  have hl : lv_has ls 3 [(0, .ref h), (1, .int pc), (2, .int sq)] := hl
  have X : zh g A (oQ h (q0, q1, q2, q3, q4, q5, q6, q7, q8, q9, q10)) s.heap H locs := X
  refine lv_aload_n hx hb dX0_lift_0 rfl (lv_at hl 0 rfl) ?_
  refine lv_dup hx hb dX0_lift_1 rfl ?_
  refine zget (fs := [.int q0, .int q1, .int q2, .int q3, .int q4, .int q5, .int q6, .long q7, .int q8, .int q9, .long q10]) (v := .int q5) Z hin X (ci := 0) (C := RX0) (T := TX0) (N := 11) rfl rfl 5 (by decide) lk_X0_lift_16 rfl dX0_lift_2 ?_
  refine lv_iconst (v := (1 : Int32)) hx hb dX0_lift_5 (by decide) ?_
  refine lv_iload_n hx hb dX0_lift_6 rfl (lv_at hl 2 rfl) ?_
  refine lv_ishl hx hb dX0_lift_7 ?_
  refine lv_iconst (v := (-1 : Int32)) hx hb dX0_lift_8 (by decide) ?_
  refine lv_ixor hx hb dX0_lift_9 ?_
  refine lv_iand hx hb dX0_lift_10 ?_
  refine lv_topi (fun x1 ex1 => ?_)
  refine zput (ty := .int) (fs := [.int q0, .int q1, .int q2, .int q3, .int q4, .int q5, .int q6, .long q7, .int q8, .int q9, .long q10]) (v := .int x1) tyX0 tyX0_ok nmX0 Z hin X (ci := 0) (C := RX0) (T := TX0) (N := 11) rfl rfl 5 (by decide) lk_X0_lift_16 rfl (by decide +kernel) rfl rfl (Nat.le_of_ble_eq_true rfl) dX0_lift_11 (fun H locs X => ?_)
  have X : zh g A (oQ h (q0, q1, q2, q3, q4, x1, q6, q7, q8, q9, q10)) s.heap H locs := X
  refine lv_aload_n hx hb dX0_lift_14 rfl (lv_at hl 0 rfl) ?_
  refine lv_dup hx hb dX0_lift_15 rfl ?_
  refine zget (fs := [.int q0, .int q1, .int q2, .int q3, .int q4, .int x1, .int q6, .long q7, .int q8, .int q9, .long q10]) (v := .int q6) Z hin X (ci := 0) (C := RX0) (T := TX0) (N := 11) rfl rfl 6 (by decide) lk_X0_lift_35 rfl dX0_lift_16 ?_
  refine lv_iconst (v := (1 : Int32)) hx hb dX0_lift_19 (by decide) ?_
  refine lv_iload_n hx hb dX0_lift_20 rfl (lv_at hl 1 rfl) ?_
  refine lv_ishl hx hb dX0_lift_21 ?_
  refine lv_iconst (v := (-1 : Int32)) hx hb dX0_lift_22 (by decide) ?_
  refine lv_ixor hx hb dX0_lift_23 ?_
  refine lv_iand hx hb dX0_lift_24 ?_
  refine lv_topi (fun x2 ex2 => ?_)
  refine zput (ty := .int) (fs := [.int q0, .int q1, .int q2, .int q3, .int q4, .int x1, .int q6, .long q7, .int q8, .int q9, .long q10]) (v := .int x2) tyX0 tyX0_ok nmX0 Z hin X (ci := 0) (C := RX0) (T := TX0) (N := 11) rfl rfl 6 (by decide) lk_X0_lift_35 rfl (by decide +kernel) rfl rfl (Nat.le_of_ble_eq_true rfl) dX0_lift_25 (fun H locs X => ?_)
  have X : zh g A (oQ h (q0, q1, q2, q3, q4, x1, x2, q7, q8, q9, q10)) s.heap H locs := X
  refine lv_aload_n hx hb dX0_lift_28 rfl (lv_at hl 0 rfl) ?_
  refine lv_dup hx hb dX0_lift_29 rfl ?_
  refine zget (fs := [.int q0, .int q1, .int q2, .int q3, .int q4, .int x1, .int x2, .long q7, .int q8, .int q9, .long q10]) (v := .long q7) Z hin X (ci := 0) (C := RX0) (T := TX0) (N := 11) rfl rfl 7 (by decide) lk_X0_lift_38 rfl dX0_lift_30 ?_
  refine lv_ldc2 (v := (281479271743489 : Int64)) hx hb Z.1.2.2.2.1 (Z.1.2.2.2.2 (.constantLong RX0 151 (281479271743489)) (by decide +kernel)) dX0_lift_33 ?_
  refine lv_iload_n hx hb dX0_lift_36 rfl (lv_at hl 2 rfl) ?_
  refine lv_lshl hx hb dX0_lift_37 rfl ?_
  refine lv_ldc2 (v := (-1 : Int64)) hx hb Z.1.2.2.2.1 (Z.1.2.2.2.2 (.constantLong RX0 153 (-1)) (by decide +kernel)) dX0_lift_38 ?_
  refine lv_lxor hx hb dX0_lift_41 ?_
  refine lv_land hx hb dX0_lift_42 ?_
  refine lv_topl (fun x3 ex3 => ?_)
  refine zput (ty := .long) (fs := [.int q0, .int q1, .int q2, .int q3, .int q4, .int x1, .int x2, .long q7, .int q8, .int q9, .long q10]) (v := .long x3) tyX0 tyX0_ok nmX0 Z hin X (ci := 0) (C := RX0) (T := TX0) (N := 11) rfl rfl 7 (by decide) lk_X0_lift_38 rfl (by decide +kernel) rfl rfl (Nat.le_of_ble_eq_true rfl) dX0_lift_43 (fun H locs X => ?_)
  have X : zh g A (oQ h (q0, q1, q2, q3, q4, x1, x2, x3, q8, q9, q10)) s.heap H locs := X
  exact zretv Z hr hlk (q0, q1, q2, q3, q4, x1, x2, x3, q8, q9, q10) X dX0_lift_46 (by subst ex3; subst ex2; subst ex1; rfl)
theorem inw_X0_inCommon : ∀ w ∈ wsX00, w ∈ wsX0_inCommon := by decide +kernel
theorem lk_X0_inCommon_16 : Cond.fieldLink RX0 16 "Quarterboard" "filled" "I" ∈ wsX0_inCommon := by decide +kernel
theorem lk_X0_inCommon_38 : Cond.fieldLink RX0 38 "Quarterboard" "digits" "J" ∈ wsX0_inCommon := by decide +kernel
def P_X0_inCommon (q0 q1 q2 q3 q4 q5 q6 : Int32) (q7 : Int64) (q8 q9 : Int32) (q10 : Int64) (squares : Int32) : Int32 → QS → Prop := fun r u => u = (q0, q1, q2, q3, q4, q5, q6, q7, q8, q9, q10) ∧ r = qIn q5 q7 squares
set_option maxHeartbeats 4000000 in
set_option maxRecDepth 100000 in
theorem c_X0_inCommon (l : Launch) (g : zG) (bL h : Nat) (q0 q1 q2 q3 q4 q5 q6 : Int32) (q7 : Int64) (q8 q9 : Int32) (q10 : Int64) (squares : Int32)  : zM l yX0_inCommon wsX0_inCommon 1 40 g [.ref h, .int squares] (oQ h (q0, q1, q2, q3, q4, q5, q6, q7, q8, q9, q10)) (zEL bL) (zQi g (P_X0_inCommon q0 q1 q2 q3 q4 q5 q6 q7 q8 q9 q10 squares) (oQ h)) := by
  refine zstart (cc := cX0_inCommon) (maxL := 6) (ret := (some .int)) (own := RX0) rfl (by decide) rfl zStL (Nat.le_of_ble_eq_true rfl) ?_
  intro p e s m below meth c A Z hr hlk H locs X ls hl
  have hx := Z.1.1
  have hb := Z.1.2.1
  have hin : ∀ w ∈ wsX00, w ∈ wsX0_inCommon := inw_X0_inCommon
  have hl : lv_has ls 6 [(0, .ref h), (1, .int squares)] := hl
  have X : zh g A (oQ h (q0, q1, q2, q3, q4, q5, q6, q7, q8, q9, q10)) s.heap H locs := X
  refine lv_iload_n hx hb dX0_inCommon_0 rfl (lv_at hl 1 rfl) ?_
  refine lv_aload_n hx hb dX0_inCommon_1 rfl (lv_at hl 0 rfl) ?_
  refine zget (fs := [.int q0, .int q1, .int q2, .int q3, .int q4, .int q5, .int q6, .long q7, .int q8, .int q9, .long q10]) (v := .int q5) Z hin X (ci := 0) (C := RX0) (T := TX0) (N := 11) rfl rfl 5 (by decide) lk_X0_inCommon_16 rfl dX0_inCommon_2 ?_
  refine lv_iand hx hb dX0_inCommon_5 ?_
  refine lv_topi (fun x1 ex1 => ?_)
  refine lv_istore_n (lv' := [(2, .int x1), (0, .ref h), (1, .int squares)]) hx hb dX0_inCommon_6 rfl hl (by decide) rfl (fun ls hl => ?_)
  refine lv_iconst (v := (0 : Int32)) hx hb dX0_inCommon_7 (by decide) ?_
  refine lv_istore_n (lv' := [(3, .int (0 : Int32)), (2, .int x1), (0, .ref h), (1, .int squares)]) hx hb dX0_inCommon_8 rfl hl (by decide) rfl (fun ls hl => ?_)
  refine lv_iconst (v := (0 : Int32)) hx hb dX0_inCommon_9 (by decide) ?_
  refine lv_istore (lv' := [(4, .int (0 : Int32)), (3, .int (0 : Int32)), (2, .int x1), (0, .ref h), (1, .int squares)]) hx hb dX0_inCommon_10 hl (by decide) rfl (fun ls hl => ?_)
  have cut12 : ∀ (n12 : Nat), ∀ (k : Nat) (th : Int32) (acc : Int32), (k ≤ 4) → (th = squares &&& q5) → (acc = qCom q7 th k) → (5 - k ≤ n12) → ∀ (H : Heap) (locs : List Loc) (ls : Array Slot), zh g A (oQ h (q0, q1, q2, q3, q4, q5, q6, q7, q8, q9, q10)) s.heap H locs → lv_has ls 6 [(4, .int (nI k)), (3, .int acc), (2, .int th), (0, .ref h), (1, .int squares)] → W p l e { frames := 1, cells := 0, slots := 0, locals := 40 } s m ([.ref h, .int squares] : List Value).toArray below meth c H locs 0 0 (MQ below ((zQi g (P_X0_inCommon q0 q1 q2 q3 q4 q5 q6 q7 q8 q9 q10 squares) (oQ h)) A) ([.ref h, .int squares] : List Value).toArray s 0 0 A) (F0 m 12 ls []) := by
    intro n12
    induction n12 with
    | zero =>
      intro k th acc hk hth hacc hm12
      exact absurd hm12 (by omega)
    | succ n12 ih12 =>
      intro k th acc hk hth hacc hm12 H locs ls X hl
      refine lv_iload hx hb dX0_inCommon_12 (lv_at hl 0 rfl) ?_
      refine lv_iconst (v := (4 : Int32)) hx hb dX0_inCommon_14 (by decide) ?_
      refine lv_icmp_ge (tgt := 64) hx hb dX0_inCommon_15 (by decide) (fun c2 => ?_) (fun c2 => ?_)
      · have qc2 := c2
        have c2n : 4 ≤ k := zn_let (by omega) (by omega) c2
        refine lv_iload_n hx hb dX0_inCommon_64 rfl (lv_at hl 1 rfl) ?_
        exact zreti Z hr hlk (q0, q1, q2, q3, q4, q5, q6, q7, q8, q9, q10) X dX0_inCommon_65 rfl (⟨rfl, by rw [hacc, hth, show k = 4 by omega]; rfl⟩)
      · have qc2 := c2
        have c2n : ¬ 4 ≤ k := zn_len (by omega) (by omega) c2
        refine lv_aload_n hx hb dX0_inCommon_18 rfl (lv_at hl 3 rfl) ?_
        refine zget (fs := [.int q0, .int q1, .int q2, .int q3, .int q4, .int q5, .int q6, .long q7, .int q8, .int q9, .long q10]) (v := .long q7) Z hin X (ci := 0) (C := RX0) (T := TX0) (N := 11) rfl rfl 7 (by decide) lk_X0_inCommon_38 rfl dX0_inCommon_19 ?_
        refine lv_iload hx hb dX0_inCommon_22 (lv_at hl 0 rfl) ?_
        refine zcallSi (n := 2) (As := [.long q7, .int (nI k)]) (rest := []) Z X (c_X0_withOne l g q7 (nI k)) gX0_inCommon_X0_withOne rfl (by decide +kernel) ⟨Nat.le_of_ble_eq_true rfl, Nat.le_of_ble_eq_true rfl⟩ rfl rfl hl.1 (Nat.le_of_ble_eq_true rfl) dX0_inCommon_24 ⟨Nat.zero_le _, Nat.zero_le _⟩ (fun r2 H locs hrr2 X => ?_)
        obtain rfl : r2 = qOne q7 (nI k) := hrr2
        refine lv_iload_n hx hb dX0_inCommon_27 rfl (lv_at hl 2 rfl) ?_
        refine lv_iand hx hb dX0_inCommon_28 ?_
        refine lv_topi (fun x4 ex4 => ?_)
        refine lv_istore (lv' := [(5, .int x4), (4, .int (nI k)), (3, .int acc), (2, .int th), (0, .ref h), (1, .int squares)]) hx hb dX0_inCommon_29 hl (by decide) rfl (fun ls hl => ?_)
        refine lv_iload hx hb dX0_inCommon_31 (lv_at hl 0 rfl) ?_
        refine lv_iload_n hx hb dX0_inCommon_33 rfl (lv_at hl 3 rfl) ?_
        refine lv_icmp_ne (tgt := 44) hx hb dX0_inCommon_34 (by decide) (fun c5 => ?_) (fun c5 => ?_)
        · have qc5 := c5
          refine lv_iload hx hb dX0_inCommon_44 (lv_at hl 0 rfl) ?_
          refine lv_if_ne (tgt := 58) hx hb dX0_inCommon_46 (by decide) (fun c6 => ?_) (fun c6 => ?_)
          · have qc6 := c6
            refine lv_iinc (v := nI (k + 1)) (lv' := [(4, .int (nI (k + 1))), (5, .int x4), (3, .int acc), (2, .int th), (0, .ref h), (1, .int squares)]) hx hb dX0_inCommon_58 hl (k := 1) rfl (zi_inc k) (by decide) rfl (fun ls hl => ?_)
            refine lv_goto (tgt := 12) hx hb dX0_inCommon_61 (by decide) ?_
            exact ih12 (k + 1) th acc (by first | assumption | omega) (by first | assumption | omega) (by subst ex4; rw [hacc]; simp only [qCom]; (repeat' split) <;> first | rfl | contradiction) (by omega) H locs ls X (lv_sub hl [0, 2, 3, 4, 5] rfl)
          · have qc6 := c6
            refine lv_iload_n hx hb dX0_inCommon_49 rfl (lv_at hl 2 rfl) ?_
            refine lv_iconst (v := (1 : Int32)) hx hb dX0_inCommon_50 (by decide) ?_
            refine lv_iload hx hb dX0_inCommon_51 (lv_at hl 1 rfl) ?_
            refine lv_iconst (v := (4 : Int32)) hx hb dX0_inCommon_53 (by decide) ?_
            refine lv_iadd hx hb dX0_inCommon_54 ?_
            refine lv_ishl hx hb dX0_inCommon_55 ?_
            refine lv_ior hx hb dX0_inCommon_56 ?_
            refine lv_topi (fun x7 ex7 => ?_)
            refine lv_istore_n (lv' := [(3, .int x7), (5, .int x4), (4, .int (nI k)), (2, .int th), (0, .ref h), (1, .int squares)]) hx hb dX0_inCommon_57 rfl hl (by decide) rfl (fun ls hl => ?_)
            refine lv_iinc (v := nI (k + 1)) (lv' := [(4, .int (nI (k + 1))), (3, .int x7), (5, .int x4), (2, .int th), (0, .ref h), (1, .int squares)]) hx hb dX0_inCommon_58 hl (k := 2) rfl (zi_inc k) (by decide) rfl (fun ls hl => ?_)
            refine lv_goto (tgt := 12) hx hb dX0_inCommon_61 (by decide) ?_
            exact ih12 (k + 1) th x7 (by first | assumption | omega) (by first | assumption | omega) (by subst ex7; subst ex4; rw [hacc]; simp only [qCom]; (repeat' split) <;> first | rfl | contradiction) (by omega) H locs ls X (lv_sub hl [0, 1, 3, 4, 5] rfl)
        · have qc5 := c5
          refine lv_iload_n hx hb dX0_inCommon_37 rfl (lv_at hl 2 rfl) ?_
          refine lv_iconst (v := (1 : Int32)) hx hb dX0_inCommon_38 (by decide) ?_
          refine lv_iload hx hb dX0_inCommon_39 (lv_at hl 1 rfl) ?_
          refine lv_ishl hx hb dX0_inCommon_41 ?_
          refine lv_ior hx hb dX0_inCommon_42 ?_
          refine lv_topi (fun x8 ex8 => ?_)
          refine lv_istore_n (lv' := [(3, .int x8), (5, .int x4), (4, .int (nI k)), (2, .int th), (0, .ref h), (1, .int squares)]) hx hb dX0_inCommon_43 rfl hl (by decide) rfl (fun ls hl => ?_)
          refine lv_iload hx hb dX0_inCommon_44 (lv_at hl 1 rfl) ?_
          refine lv_if_ne (tgt := 58) hx hb dX0_inCommon_46 (by decide) (fun c9 => ?_) (fun c9 => ?_)
          · have qc9 := c9
            refine lv_iinc (v := nI (k + 1)) (lv' := [(4, .int (nI (k + 1))), (3, .int x8), (5, .int x4), (2, .int th), (0, .ref h), (1, .int squares)]) hx hb dX0_inCommon_58 hl (k := 2) rfl (zi_inc k) (by decide) rfl (fun ls hl => ?_)
            refine lv_goto (tgt := 12) hx hb dX0_inCommon_61 (by decide) ?_
            exact ih12 (k + 1) th x8 (by first | assumption | omega) (by first | assumption | omega) (by subst ex8; subst ex4; rw [hacc]; simp only [qCom]; (repeat' split) <;> first | rfl | contradiction) (by omega) H locs ls X (lv_sub hl [0, 1, 3, 4, 5] rfl)
          · have qc9 := c9
            refine lv_iload_n hx hb dX0_inCommon_49 rfl (lv_at hl 0 rfl) ?_
            refine lv_iconst (v := (1 : Int32)) hx hb dX0_inCommon_50 (by decide) ?_
            refine lv_iload hx hb dX0_inCommon_51 (lv_at hl 2 rfl) ?_
            refine lv_iconst (v := (4 : Int32)) hx hb dX0_inCommon_53 (by decide) ?_
            refine lv_iadd hx hb dX0_inCommon_54 ?_
            refine lv_ishl hx hb dX0_inCommon_55 ?_
            refine lv_ior hx hb dX0_inCommon_56 ?_
            refine lv_topi (fun x10 ex10 => ?_)
            refine lv_istore_n (lv' := [(3, .int x10), (5, .int x4), (4, .int (nI k)), (2, .int th), (0, .ref h), (1, .int squares)]) hx hb dX0_inCommon_57 rfl hl (by decide) rfl (fun ls hl => ?_)
            refine lv_iinc (v := nI (k + 1)) (lv' := [(4, .int (nI (k + 1))), (3, .int x10), (5, .int x4), (2, .int th), (0, .ref h), (1, .int squares)]) hx hb dX0_inCommon_58 hl (k := 2) rfl (zi_inc k) (by decide) rfl (fun ls hl => ?_)
            refine lv_goto (tgt := 12) hx hb dX0_inCommon_61 (by decide) ?_
            exact ih12 (k + 1) th x10 (by first | assumption | omega) (by first | assumption | omega) (by subst ex10; subst ex8; subst ex4; rw [hacc]; simp only [qCom]; (repeat' split) <;> first | rfl | contradiction) (by omega) H locs ls X (lv_sub hl [0, 1, 3, 4, 5] rfl)
  exact cut12 5 0 x1 0 (by first | assumption | omega) (by assumption) (rfl) (by omega) H locs ls X (lv_sub hl [0, 1, 2, 3, 4] rfl)
