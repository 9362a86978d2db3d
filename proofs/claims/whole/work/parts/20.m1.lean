/-! the twin: its small methods -/
def mIn (v z : Int32) : Bool := decide (¬ v < 0) && decide (v < z)
def mMany (w : Int32) : Nat := if w = 0 then 10 else 19
theorem mMany_le (w : Int32) : 10 ≤ mMany w ∧ mMany w ≤ 19 := by unfold mMany; split <;> decide
def sqr (l p : Nat) : Nat := if l < 4 then 4 * l + p else if l < 8 then 4 * p + l - 4 else if l < 10 then (if l = 8 then 5 * p else 3 * p + 3) else 4 * ((l - 10) / 3 + p / 2) + (l - 10) % 3 + p % 2
theorem sqr_lt : ∀ l, l < 19 → ∀ p, p < 4 → sqr l p < 16 := by decide +kernel
def mMk (x : Int32) : Int32 := if x = -1 then 255 else x ||| (((15 : Int32) - x) <<< ((4 : Int32) &&& 31))
def mCom (P : Nat → Int32) (l : Nat) : Nat → Int32
  | 0 => 255
  | k + 1 => mCom P l k &&& mMk (P (sqr l k))
def mFul (P : Nat → Int32) (l : Nat) : Nat → Nat
  | 0 => 0
  | k + 1 => mFul P l k + (if P (sqr l k) = -1 then 0 else 1)
theorem mFul_le (P : Nat → Int32) (l : Nat) : ∀ k, mFul P l k ≤ k
  | 0 => Nat.le_refl 0
  | k + 1 => by
    have := mFul_le P l k
    unfold mFul
    split <;> omega
def thF (l s j : Nat) : Bool := decide (sqr l j = s)
def mWl (P : Nat → Int32) (s k : Nat) : Bool := anyN (thF k s) 4 && (decide (mFul P k 4 = 4) && decide (¬ mCom P k 4 = 0))
def mWonC (P : Nat → Int32) (s : Nat) : Nat → Nat
  | 0 => 0
  | k + 1 => mWonC P s k + (if mWl P s k = true then 1 else 0)
theorem mWonC_le (P : Nat → Int32) (s : Nat) : ∀ k, mWonC P s k ≤ k
  | 0 => Nat.le_refl 0
  | k + 1 => by
    have := mWonC_le P s k
    unfold mWonC
    split <;> omega
def mWon (w : Int32) (P : Nat → Int32) (s : Nat) : Nat := mWonC P s (mMany w)
theorem mWon_le (w : Int32) (P : Nat → Int32) (s : Nat) : mWon w P s ≤ 19 := Nat.le_trans (mWonC_le _ _ _) (mMany_le w).2
theorem wl_f1 {P : Nat → Int32} {s k : Nat} (h : anyN (thF k s) 4 = false) : mWl P s k = false := by unfold mWl; rw [h]; rfl
theorem wl_f2 {P : Nat → Int32} {s k : Nat} (h : ¬ mFul P k 4 = 4) : mWl P s k = false := by unfold mWl; rw [decide_eq_false h, Bool.false_and, Bool.and_false]
theorem wl_f3 {P : Nat → Int32} {s k : Nat} (h : mCom P k 4 = 0) : mWl P s k = false := by unfold mWl; rw [decide_eq_false (p := ¬ mCom P k 4 = 0) (fun q => q h), Bool.and_false, Bool.and_false]
theorem wl_t {P : Nat → Int32} {s k : Nat} (h1 : anyN (thF k s) 4 = true) (h2 : mFul P k 4 = 4) (h3 : ¬ mCom P k 4 = 0) : mWl P s k = true := by unfold mWl; rw [h1, decide_eq_true h2, decide_eq_true h3]; rfl
theorem wonC_t {P : Nat → Int32} {s k n : Nat} (hn : n = mWonC P s k) (h : mWl P s k = true) : n + 1 = mWonC P s (k + 1) := by rw [mWonC, if_pos h, hn]
theorem wonC_f {P : Nat → Int32} {s k n : Nat} (hn : n = mWonC P s k) (h : mWl P s k = false) : n + 0 = mWonC P s (k + 1) := by rw [mWonC, if_neg (by rw [h]; decide), hn]
theorem inw_X1_thrown : ∀ w ∈ wsX10, w ∈ wsX1_thrown := by decide +kernel
theorem lk_X1_thrown_48 : Cond.fieldLink RX1 48 "QuarterboardModel" "thrown" "I" ∈ wsX1_thrown := by decide +kernel
def P_X1_thrown (bk : Int32) (pn : Nat) (hd ph ot wi ik th : Int32) (P O K kd lf ch be gi mr : Nat → Int32) : Int32 → MS → Prop := fun r u => u = (bk, nI pn, hd, ph, ot, wi, ik, th, P, O, K, kd, lf, ch, be, gi, mr) ∧ r = th
set_option maxHeartbeats 4000000 in
set_option maxRecDepth 100000 in
theorem c_X1_thrown (l : Launch) (g : zG) (a : Nat → Nat) (bk : Int32) (pn : Nat) (hd ph ot wi ik th : Int32) (P O K kd lf ch be gi mr : Nat → Int32)   : zM l yX1_thrown wsX1_thrown 0 0 g [.ref (a 0)] (oM g a (bk, nI pn, hd, ph, ot, wi, ik, th, P, O, K, kd, lf, ch, be, gi, mr)) zE0 (zQi g (P_X1_thrown bk pn hd ph ot wi ik th P O K kd lf ch be gi mr) (oM g a)) := by
  refine zstart (cc := cX1_thrown) (maxL := 1) (ret := (some .int)) (own := RX1) rfl (by decide) rfl zSt0 (Nat.le_of_ble_eq_true rfl) ?_
  intro p e s m below meth c A Z hr hlk H locs X ls hl
  have hx := Z.1.1
  have hb := Z.1.2.1
  have hin : ∀ w ∈ wsX10, w ∈ wsX1_thrown := inw_X1_thrown
  have hl : lv_has ls 1 [(0, .ref (a 0))] := hl
  have X : zh g A (oM g a (bk, nI pn, hd, ph, ot, wi, ik, th, P, O, K, kd, lf, ch, be, gi, mr)) s.heap H locs := X
  refine lv_aload_n hx hb dX1_thrown_0 rfl (lv_at hl 0 rfl) ?_
  refine zget (fs := [.int bk, .ref (a 1), .ref (a 2), .int (nI pn), .int hd, .int ph, .int ot, .int wi, .int ik, .ref (a 3), .int th, .ref (a 4), .ref (a 5), .ref (a 6), .ref (a 7), .ref (a 8), .ref (a 9)]) (v := .int th) Z hin X (ci := 1) (C := RX1) (T := TX1) (N := 17) rfl rfl 10 (by decide) lk_X1_thrown_48 rfl dX1_thrown_1 ?_
  exact zreti Z hr hlk (bk, nI pn, hd, ph, ot, wi, ik, th, P, O, K, kd, lf, ch, be, gi, mr) X dX1_thrown_4 rfl (⟨rfl, rfl⟩)
theorem inw_X1_fails : ∀ w ∈ wsX10, w ∈ wsX1_fails := by decide +kernel
theorem lk_X1_fails_48 : Cond.fieldLink RX1 48 "QuarterboardModel" "thrown" "I" ∈ wsX1_fails := by decide +kernel
def P_X1_fails (bk : Int32) (pn : Nat) (hd ph ot wi ik th : Int32) (P O K kd lf ch be gi mr : Nat → Int32) (wh : Int32) : Int32 → MS → Prop := fun r u => u = (bk, nI pn, hd, ph, ot, wi, ik, wh, P, O, K, kd, lf, ch, be, gi, mr) ∧ r = zb (decide ((0 : Int32) < wh))
set_option maxHeartbeats 4000000 in
set_option maxRecDepth 100000 in
theorem c_X1_fails (l : Launch) (g : zG) (a : Nat → Nat) (bk : Int32) (pn : Nat) (hd ph ot wi ik th : Int32) (P O K kd lf ch be gi mr : Nat → Int32) (wh : Int32)  : zM l yX1_fails wsX1_fails 0 0 g [.ref (a 0), .int wh] (oM g a (bk, nI pn, hd, ph, ot, wi, ik, th, P, O, K, kd, lf, ch, be, gi, mr)) zE0 (zQi g (P_X1_fails bk pn hd ph ot wi ik th P O K kd lf ch be gi mr wh) (oM g a)) := by
  refine zstart (cc := cX1_fails) (maxL := 2) (ret := (some .boolean)) (own := RX1) rfl (by decide) rfl zSt0 (Nat.le_of_ble_eq_true rfl) ?_
  intro p e s m below meth c A Z hr hlk H locs X ls hl
  have hx := Z.1.1
  have hb := Z.1.2.1
  have hin : ∀ w ∈ wsX10, w ∈ wsX1_fails := inw_X1_fails
  have hl : lv_has ls 2 [(0, .ref (a 0)), (1, .int wh)] := hl
  have X : zh g A (oM g a (bk, nI pn, hd, ph, ot, wi, ik, th, P, O, K, kd, lf, ch, be, gi, mr)) s.heap H locs := X
  refine lv_aload_n hx hb dX1_fails_0 rfl (lv_at hl 0 rfl) ?_
  refine lv_iload_n hx hb dX1_fails_1 rfl (lv_at hl 1 rfl) ?_
  refine zput (ty := .int) (fs := [.int bk, .ref (a 1), .ref (a 2), .int (nI pn), .int hd, .int ph, .int ot, .int wi, .int ik, .ref (a 3), .int th, .ref (a 4), .ref (a 5), .ref (a 6), .ref (a 7), .ref (a 8), .ref (a 9)]) (v := .int wh) tyX1 tyX1_ok nmX1 Z hin X (ci := 1) (C := RX1) (T := TX1) (N := 17) rfl rfl 10 (by decide) lk_X1_fails_48 rfl (by decide +kernel) rfl rfl (Nat.le_of_ble_eq_true rfl) dX1_fails_2 (fun H locs X => ?_)
  have X : zh g A (oM g a (bk, nI pn, hd, ph, ot, wi, ik, wh, P, O, K, kd, lf, ch, be, gi, mr)) s.heap H locs := X
  refine lv_iload_n hx hb dX1_fails_5 rfl (lv_at hl 1 rfl) ?_
  refine lv_if_le (tgt := 13) hx hb dX1_fails_6 (by decide) (fun c1 => ?_) (fun c1 => ?_)
  · have qc1 := c1
    have hw0 : ¬ 0 < wh := Int32.not_lt.mpr c1
    refine lv_iconst (v := (0 : Int32)) hx hb dX1_fails_13 (by decide) ?_
    exact zreti Z hr hlk (bk, nI pn, hd, ph, ot, wi, ik, wh, P, O, K, kd, lf, ch, be, gi, mr) X dX1_fails_14 rfl (⟨rfl, by simp only [zb, hw0, decide_true, decide_false, Bool.and_true, Bool.and_false, Bool.true_and, Bool.false_and, not_true_eq_false, not_false_eq_true, Bool.not_true, Bool.not_false, if_true, if_false, and_true, true_and, and_false, false_and, Bool.false_eq_true, Bool.true_eq_false, eq_self]⟩)
  · have qc1 := c1
    have hw0 : 0 < wh := Int32.not_le.mp c1
    refine lv_iconst (v := (1 : Int32)) hx hb dX1_fails_9 (by decide) ?_
    refine lv_goto (tgt := 14) hx hb dX1_fails_10 (by decide) ?_
    exact zreti Z hr hlk (bk, nI pn, hd, ph, ot, wi, ik, wh, P, O, K, kd, lf, ch, be, gi, mr) X dX1_fails_14 rfl (⟨rfl, by simp only [zb, hw0, decide_true, decide_false, Bool.and_true, Bool.and_false, Bool.true_and, Bool.false_and, not_true_eq_false, not_false_eq_true, Bool.not_true, Bool.not_false, if_true, if_false, and_true, true_and, and_false, false_and, Bool.false_eq_true, Bool.true_eq_false, eq_self]⟩)
theorem inw_X1_tells : ∀ w ∈ wsX10, w ∈ wsX1_tells := by decide +kernel
theorem lk_X1_tells_48 : Cond.fieldLink RX1 48 "QuarterboardModel" "thrown" "I" ∈ wsX1_tells := by decide +kernel
def P_X1_tells (bk : Int32) (pn : Nat) (hd ph ot wi ik th : Int32) (P O K kd lf ch be gi mr : Nat → Int32) (v : Int32) : Int32 → MS → Prop := fun r u => u = (bk, nI pn, hd, ph, ot, wi, ik, 0, P, O, K, kd, lf, ch, be, gi, mr) ∧ r = v
set_option maxHeartbeats 4000000 in
set_option maxRecDepth 100000 in
theorem c_X1_tells (l : Launch) (g : zG) (a : Nat → Nat) (bk : Int32) (pn : Nat) (hd ph ot wi ik th : Int32) (P O K kd lf ch be gi mr : Nat → Int32) (v : Int32)  : zM l yX1_tells wsX1_tells 0 0 g [.ref (a 0), .int v] (oM g a (bk, nI pn, hd, ph, ot, wi, ik, th, P, O, K, kd, lf, ch, be, gi, mr)) zE0 (zQi g (P_X1_tells bk pn hd ph ot wi ik th P O K kd lf ch be gi mr v) (oM g a)) := by
  refine zstart (cc := cX1_tells) (maxL := 2) (ret := (some .int)) (own := RX1) rfl (by decide) rfl zSt0 (Nat.le_of_ble_eq_true rfl) ?_
  intro p e s m below meth c A Z hr hlk H locs X ls hl
  have hx := Z.1.1
  have hb := Z.1.2.1
  have hin : ∀ w ∈ wsX10, w ∈ wsX1_tells := inw_X1_tells
  have hl : lv_has ls 2 [(0, .ref (a 0)), (1, .int v)] := hl
  have X : zh g A (oM g a (bk, nI pn, hd, ph, ot, wi, ik, th, P, O, K, kd, lf, ch, be, gi, mr)) s.heap H locs := X
  refine lv_aload_n hx hb dX1_tells_0 rfl (lv_at hl 0 rfl) ?_
  refine lv_iconst (v := (0 : Int32)) hx hb dX1_tells_1 (by decide) ?_
  refine zput (ty := .int) (fs := [.int bk, .ref (a 1), .ref (a 2), .int (nI pn), .int hd, .int ph, .int ot, .int wi, .int ik, .ref (a 3), .int th, .ref (a 4), .ref (a 5), .ref (a 6), .ref (a 7), .ref (a 8), .ref (a 9)]) (v := .int (0 : Int32)) tyX1 tyX1_ok nmX1 Z hin X (ci := 1) (C := RX1) (T := TX1) (N := 17) rfl rfl 10 (by decide) lk_X1_tells_48 rfl (by decide +kernel) rfl rfl (Nat.le_of_ble_eq_true rfl) dX1_tells_2 (fun H locs X => ?_)
  have X : zh g A (oM g a (bk, nI pn, hd, ph, ot, wi, ik, (0 : Int32), P, O, K, kd, lf, ch, be, gi, mr)) s.heap H locs := X
  refine lv_iload_n hx hb dX1_tells_5 rfl (lv_at hl 1 rfl) ?_
  exact zreti Z hr hlk (bk, nI pn, hd, ph, ot, wi, ik, (0 : Int32), P, O, K, kd, lf, ch, be, gi, mr) X dX1_tells_6 rfl (⟨rfl, rfl⟩)
def P_X1_isIn (v : Int32) (z : Int32) : Int32 → Unit → Prop := fun r _ => r = zb (mIn v z)
set_option maxHeartbeats 4000000 in
set_option maxRecDepth 100000 in
theorem c_X1_isIn (l : Launch) (g : zG) (v : Int32) (z : Int32)  : zM l yX1_isIn wsX1_isIn 0 0 g [.int v, .int z] ([]) zE0 (zQi g (P_X1_isIn v z) (fun _ : Unit => [])) := by
  refine zstart (cc := cX1_isIn) (maxL := 2) (ret := (some .boolean)) (own := RX1) rfl (by decide) rfl zSt0 (Nat.le_of_ble_eq_true rfl) ?_
  intro p e s m below meth c A Z hr hlk H locs X ls hl
  have hx := Z.1.1
  have hb := Z.1.2.1
  have hl : lv_has ls 2 [(0, .int v), (1, .int z)] := hl
  have X : zh g A ([]) s.heap H locs := X
  refine lv_iload_n hx hb dX1_isIn_0 rfl (lv_at hl 0 rfl) ?_
  refine lv_if_lt (tgt := 13) hx hb dX1_isIn_1 (by decide) (fun c1 => ?_) (fun c1 => ?_)
  · have qc1 := c1
    refine lv_iconst (v := (0 : Int32)) hx hb dX1_isIn_13 (by decide) ?_
    exact zreti Z hr hlk () X dX1_isIn_14 rfl (by show _ = zb (mIn v z); simp only [mIn, zb, c1, Int32.not_lt, decide_true, decide_false, Bool.and_true, Bool.and_false, Bool.true_and, Bool.false_and, not_true_eq_false, not_false_eq_true, Bool.not_true, Bool.not_false, if_true, if_false, and_true, true_and, and_false, false_and, Bool.false_eq_true, Bool.true_eq_false, eq_self])
  · have qc1 := c1
    refine lv_iload_n hx hb dX1_isIn_4 rfl (lv_at hl 0 rfl) ?_
    refine lv_iload_n hx hb dX1_isIn_5 rfl (lv_at hl 1 rfl) ?_
    refine lv_icmp_ge (tgt := 13) hx hb dX1_isIn_6 (by decide) (fun c2 => ?_) (fun c2 => ?_)
    · have qc2 := c2
      have hge : ¬ v < z := Int32.not_lt.mpr c2
      refine lv_iconst (v := (0 : Int32)) hx hb dX1_isIn_13 (by decide) ?_
      exact zreti Z hr hlk () X dX1_isIn_14 rfl (by show _ = zb (mIn v z); simp only [mIn, zb, c1, hge, Int32.not_lt, decide_true, decide_false, Bool.and_true, Bool.and_false, Bool.true_and, Bool.false_and, not_true_eq_false, not_false_eq_true, Bool.not_true, Bool.not_false, if_true, if_false, and_true, true_and, and_false, false_and, Bool.false_eq_true, Bool.true_eq_false, eq_self])
    · have qc2 := c2
      have hlt : v < z := Int32.not_le.mp c2
      refine lv_iconst (v := (1 : Int32)) hx hb dX1_isIn_9 (by decide) ?_
      refine lv_goto (tgt := 14) hx hb dX1_isIn_10 (by decide) ?_
      exact zreti Z hr hlk () X dX1_isIn_14 rfl (by show _ = zb (mIn v z); simp only [mIn, zb, c1, hlt, Int32.not_lt, decide_true, decide_false, Bool.and_true, Bool.and_false, Bool.true_and, Bool.false_and, not_true_eq_false, not_false_eq_true, Bool.not_true, Bool.not_false, if_true, if_false, and_true, true_and, and_false, false_and, Bool.false_eq_true, Bool.true_eq_false, eq_self])
theorem inw_X1_many : ∀ w ∈ wsX10, w ∈ wsX1_many := by decide +kernel
theorem lk_X1_many_51 : Cond.fieldLink RX1 51 "QuarterboardModel" "hasBlocks" "Z" ∈ wsX1_many := by decide +kernel
def P_X1_many (bk : Int32) (pn : Nat) (hd ph ot wi ik th : Int32) (P O K kd lf ch be gi mr : Nat → Int32) : Int32 → MS → Prop := fun r u => u = (bk, nI pn, hd, ph, ot, wi, ik, th, P, O, K, kd, lf, ch, be, gi, mr) ∧ r = nI (mMany bk)
set_option maxHeartbeats 4000000 in
set_option maxRecDepth 100000 in
theorem c_X1_many (l : Launch) (g : zG) (a : Nat → Nat) (bk : Int32) (pn : Nat) (hd ph ot wi ik th : Int32) (P O K kd lf ch be gi mr : Nat → Int32)   : zM l yX1_many wsX1_many 0 0 g [.ref (a 0)] (oM g a (bk, nI pn, hd, ph, ot, wi, ik, th, P, O, K, kd, lf, ch, be, gi, mr)) zE0 (zQi g (P_X1_many bk pn hd ph ot wi ik th P O K kd lf ch be gi mr) (oM g a)) := by
  refine zstart (cc := cX1_many) (maxL := 1) (ret := (some .int)) (own := RX1) rfl (by decide) rfl zSt0 (Nat.le_of_ble_eq_true rfl) ?_
  intro p e s m below meth c A Z hr hlk H locs X ls hl
  have hx := Z.1.1
  have hb := Z.1.2.1
  have hin : ∀ w ∈ wsX10, w ∈ wsX1_many := inw_X1_many
  have hl : lv_has ls 1 [(0, .ref (a 0))] := hl
  have X : zh g A (oM g a (bk, nI pn, hd, ph, ot, wi, ik, th, P, O, K, kd, lf, ch, be, gi, mr)) s.heap H locs := X
  refine lv_aload_n hx hb dX1_many_0 rfl (lv_at hl 0 rfl) ?_
  refine zget (fs := [.int bk, .ref (a 1), .ref (a 2), .int (nI pn), .int hd, .int ph, .int ot, .int wi, .int ik, .ref (a 3), .int th, .ref (a 4), .ref (a 5), .ref (a 6), .ref (a 7), .ref (a 8), .ref (a 9)]) (v := .int bk) Z hin X (ci := 1) (C := RX1) (T := TX1) (N := 17) rfl rfl 0 (by decide) lk_X1_many_51 rfl dX1_many_1 ?_
  refine lv_if_eq (tgt := 12) hx hb dX1_many_4 (by decide) (fun c1 => ?_) (fun c1 => ?_)
  · have qc1 := c1
    refine lv_bipush (v := (10 : Int32)) hx hb dX1_many_12 (by decide) ?_
    exact zreti Z hr hlk (bk, nI pn, hd, ph, ot, wi, ik, th, P, O, K, kd, lf, ch, be, gi, mr) X dX1_many_14 rfl (⟨rfl, by first | (rw [show mMany bk = 10 from if_pos (by assumption)]; rfl) | (rw [show mMany bk = 19 from if_neg (by assumption)]; rfl)⟩)
  · have qc1 := c1
    refine lv_bipush (v := (19 : Int32)) hx hb dX1_many_7 (by decide) ?_
    refine lv_goto (tgt := 14) hx hb dX1_many_9 (by decide) ?_
    exact zreti Z hr hlk (bk, nI pn, hd, ph, ot, wi, ik, th, P, O, K, kd, lf, ch, be, gi, mr) X dX1_many_14 rfl (⟨rfl, by first | (rw [show mMany bk = 10 from if_pos (by assumption)]; rfl) | (rw [show mMany bk = 19 from if_neg (by assumption)]; rfl)⟩)
def P_X1_square (ln : Nat) (pc : Nat) : Int32 → Unit → Prop := fun r _ => r = nI (sqr ln pc)
set_option maxHeartbeats 4000000 in
set_option maxRecDepth 100000 in
theorem c_X1_square (l : Launch) (g : zG) (ln : Nat) (pc : Nat) (hln : ln < 19) (hpc : pc < 4) : zM l yX1_square wsX1_square 0 0 g [.int (nI ln), .int (nI pc)] ([]) zE0 (zQi g (P_X1_square ln pc) (fun _ : Unit => [])) := by
  refine zstart (cc := cX1_square) (maxL := 3) (ret := (some .int)) (own := RX1) rfl (by decide) rfl zSt0 (Nat.le_of_ble_eq_true rfl) ?_
  intro p e s m below meth c A Z hr hlk H locs X ls hl
  have hx := Z.1.1
  have hb := Z.1.2.1
  have hl : lv_has ls 3 [(0, .int (nI ln)), (1, .int (nI pc))] := hl
  have X : zh g A ([]) s.heap H locs := X
  refine lv_iload_n hx hb dX1_square_0 rfl (lv_at hl 0 rfl) ?_
  refine lv_iconst (v := nI 4) hx hb dX1_square_1 (by decide) ?_
  refine lv_icmp_ge (tgt := 11) hx hb dX1_square_2 (by decide) (fun c1 => ?_) (fun c1 => ?_)
  · have qc1 := c1
    have c1n : 4 ≤ ln := zn_let (by omega) (by omega) c1
    refine lv_iload_n hx hb dX1_square_11 rfl (lv_at hl 0 rfl) ?_
    refine lv_bipush (v := nI 8) hx hb dX1_square_12 (by decide) ?_
    refine lv_icmp_ge (tgt := 25) hx hb dX1_square_14 (by decide) (fun c2 => ?_) (fun c2 => ?_)
    · have qc2 := c2
      have c2n : 8 ≤ ln := zn_let (by omega) (by omega) c2
      refine lv_iload_n hx hb dX1_square_25 rfl (lv_at hl 0 rfl) ?_
      refine lv_bipush (v := nI 10) hx hb dX1_square_26 (by decide) ?_
      refine lv_icmp_ge (tgt := 49) hx hb dX1_square_28 (by decide) (fun c3 => ?_) (fun c3 => ?_)
      · have qc3 := c3
        have c3n : 10 ≤ ln := zn_let (by omega) (by omega) c3
        refine lv_iload_n hx hb dX1_square_49 rfl (lv_at hl 0 rfl) ?_
        refine lv_bipush (v := nI 10) hx hb dX1_square_50 (by decide) ?_
        refine lv_isub hx hb dX1_square_52 ?_
        refine zrwi (y := nI (ln - 10)) (pk_sub (by omega)) ?_
        refine lv_iconst (v := nI 3) hx hb dX1_square_53 (by decide) ?_
        refine lv_idiv hx hb dX1_square_54 (by decide) ?_
        refine zrwi (y := nI ((ln - 10) / 3)) (pk_div (by omega) (by decide) (by decide)) ?_
        refine lv_iload_n hx hb dX1_square_55 rfl (lv_at hl 1 rfl) ?_
        refine lv_iconst (v := nI 2) hx hb dX1_square_56 (by decide) ?_
        refine lv_idiv hx hb dX1_square_57 (by decide) ?_
        refine zrwi (y := nI (pc / 2)) (pk_div (by omega) (by decide) (by decide)) ?_
        refine lv_iadd hx hb dX1_square_58 ?_
        refine zrwi (y := nI (((ln - 10) / 3) + (pc / 2))) (nI_add _ _) ?_
        refine lv_istore_n (lv' := [(2, .int (nI (((ln - 10) / 3) + (pc / 2)))), (0, .int (nI ln)), (1, .int (nI pc))]) hx hb dX1_square_59 rfl hl (by decide) rfl (fun ls hl => ?_)
        refine lv_iconst (v := nI 4) hx hb dX1_square_60 (by decide) ?_
        refine lv_iload_n hx hb dX1_square_61 rfl (lv_at hl 0 rfl) ?_
        refine lv_imul hx hb dX1_square_62 ?_
        refine zrwi (y := nI (4 * (((ln - 10) / 3) + (pc / 2)))) (pk_mul _ _) ?_
        refine lv_iload_n hx hb dX1_square_63 rfl (lv_at hl 1 rfl) ?_
        refine lv_bipush (v := nI 10) hx hb dX1_square_64 (by decide) ?_
        refine lv_isub hx hb dX1_square_66 ?_
        refine zrwi (y := nI (ln - 10)) (pk_sub (by omega)) ?_
        refine lv_iconst (v := nI 3) hx hb dX1_square_67 (by decide) ?_
        refine lv_irem hx hb dX1_square_68 (by decide) ?_
        refine zrwi (y := nI ((ln - 10) % 3)) (pk_rem (by omega) (by decide) (by decide)) ?_
        refine lv_iadd hx hb dX1_square_69 ?_
        refine zrwi (y := nI ((4 * (((ln - 10) / 3) + (pc / 2))) + ((ln - 10) % 3))) (nI_add _ _) ?_
        refine lv_iload_n hx hb dX1_square_70 rfl (lv_at hl 2 rfl) ?_
        refine lv_iconst (v := nI 2) hx hb dX1_square_71 (by decide) ?_
        refine lv_irem hx hb dX1_square_72 (by decide) ?_
        refine zrwi (y := nI (pc % 2)) (pk_rem (by omega) (by decide) (by decide)) ?_
        refine lv_iadd hx hb dX1_square_73 ?_
        refine zrwi (y := nI (((4 * (((ln - 10) / 3) + (pc / 2))) + ((ln - 10) % 3)) + (pc % 2))) (nI_add _ _) ?_
        exact zreti Z hr hlk () X dX1_square_74 rfl (by show _ = nI (sqr ln pc); refine congrArg nI ?_; unfold sqr; (repeat' split) <;> omega)
      · have qc3 := c3
        have c3n : ¬ 10 ≤ ln := zn_len (by omega) (by omega) c3
        refine lv_iload_n hx hb dX1_square_31 rfl (lv_at hl 0 rfl) ?_
        refine lv_bipush (v := nI 8) hx hb dX1_square_32 (by decide) ?_
        refine lv_icmp_ne (tgt := 43) hx hb dX1_square_34 (by decide) (fun c4 => ?_) (fun c4 => ?_)
        · have qc4 := c4
          have c4n : ¬ ln = 8 := zn_eqn (by omega) (by omega) c4
          refine lv_iconst (v := nI 3) hx hb dX1_square_43 (by decide) ?_
          refine lv_iload_n hx hb dX1_square_44 rfl (lv_at hl 1 rfl) ?_
          refine lv_imul hx hb dX1_square_45 ?_
          refine zrwi (y := nI (3 * pc)) (pk_mul _ _) ?_
          refine lv_iconst (v := nI 3) hx hb dX1_square_46 (by decide) ?_
          refine lv_iadd hx hb dX1_square_47 ?_
          refine zrwi (y := nI ((3 * pc) + 3)) (nI_add _ _) ?_
          exact zreti Z hr hlk () X dX1_square_48 rfl (by show _ = nI (sqr ln pc); refine congrArg nI ?_; unfold sqr; (repeat' split) <;> omega)
        · have qc4 := c4
          have c4n : ln = 8 := zn_eqt (by omega) (by omega) c4
          refine lv_iconst (v := nI 5) hx hb dX1_square_37 (by decide) ?_
          refine lv_iload_n hx hb dX1_square_38 rfl (lv_at hl 1 rfl) ?_
          refine lv_imul hx hb dX1_square_39 ?_
          refine zrwi (y := nI (5 * pc)) (pk_mul _ _) ?_
          refine lv_goto (tgt := 48) hx hb dX1_square_40 (by decide) ?_
          exact zreti Z hr hlk () X dX1_square_48 rfl (by show _ = nI (sqr ln pc); refine congrArg nI ?_; unfold sqr; (repeat' split) <;> omega)
    · have qc2 := c2
      have c2n : ¬ 8 ≤ ln := zn_len (by omega) (by omega) c2
      refine lv_iconst (v := nI 4) hx hb dX1_square_17 (by decide) ?_
      refine lv_iload_n hx hb dX1_square_18 rfl (lv_at hl 1 rfl) ?_
      refine lv_imul hx hb dX1_square_19 ?_
      refine zrwi (y := nI (4 * pc)) (pk_mul _ _) ?_
      refine lv_iload_n hx hb dX1_square_20 rfl (lv_at hl 0 rfl) ?_
      refine lv_iadd hx hb dX1_square_21 ?_
      refine zrwi (y := nI ((4 * pc) + ln)) (nI_add _ _) ?_
      refine lv_iconst (v := nI 4) hx hb dX1_square_22 (by decide) ?_
      refine lv_isub hx hb dX1_square_23 ?_
      refine zrwi (y := nI (((4 * pc) + ln) - 4)) (pk_sub (by omega)) ?_
      exact zreti Z hr hlk () X dX1_square_24 rfl (by show _ = nI (sqr ln pc); refine congrArg nI ?_; unfold sqr; (repeat' split) <;> omega)
  · have qc1 := c1
    have c1n : ¬ 4 ≤ ln := zn_len (by omega) (by omega) c1
    refine lv_iconst (v := nI 4) hx hb dX1_square_5 (by decide) ?_
    refine lv_iload_n hx hb dX1_square_6 rfl (lv_at hl 0 rfl) ?_
    refine lv_imul hx hb dX1_square_7 ?_
    refine zrwi (y := nI (4 * ln)) (pk_mul _ _) ?_
    refine lv_iload_n hx hb dX1_square_8 rfl (lv_at hl 1 rfl) ?_
    refine lv_iadd hx hb dX1_square_9 ?_
    refine zrwi (y := nI ((4 * ln) + pc)) (nI_add _ _) ?_
    exact zreti Z hr hlk () X dX1_square_10 rfl (by show _ = nI (sqr ln pc); refine congrArg nI ?_; unfold sqr; (repeat' split) <;> omega)
theorem inw_X1_common : ∀ w ∈ wsX10, w ∈ wsX1_common := by decide +kernel
theorem lk_X1_common_7 : Cond.fieldLink RX1 7 "QuarterboardModel" "piece" "[I" ∈ wsX1_common := by decide +kernel
def P_X1_common (bk : Int32) (pn : Nat) (hd ph ot wi ik th : Int32) (P O K kd lf ch be gi mr : Nat → Int32) (ln : Nat) : Int32 → MS → Prop := fun r u => u = (bk, nI pn, hd, ph, ot, wi, ik, th, P, O, K, kd, lf, ch, be, gi, mr) ∧ r = mCom P ln 4
set_option maxHeartbeats 4000000 in
set_option maxRecDepth 100000 in
theorem c_X1_common (l : Launch) (g : zG) (a : Nat → Nat) (bk : Int32) (pn : Nat) (hd ph ot wi ik th : Int32) (P O K kd lf ch be gi mr : Nat → Int32) (ln : Nat) (hln : ln < 19) : zM l yX1_common wsX1_common 1 60 g [.ref (a 0), .int (nI ln)] (oM g a (bk, nI pn, hd, ph, ot, wi, ik, th, P, O, K, kd, lf, ch, be, gi, mr)) zE0 (zQi g (P_X1_common bk pn hd ph ot wi ik th P O K kd lf ch be gi mr ln) (oM g a)) := by
  refine zstart (cc := cX1_common) (maxL := 5) (ret := (some .int)) (own := RX1) rfl (by decide) rfl zSt0 (Nat.le_of_ble_eq_true rfl) ?_
  intro p e s m below meth c A Z hr hlk H locs X ls hl
  have hx := Z.1.1
  have hb := Z.1.2.1
  have hin : ∀ w ∈ wsX10, w ∈ wsX1_common := inw_X1_common
  have hl : lv_has ls 5 [(0, .ref (a 0)), (1, .int (nI ln))] := hl
  have X : zh g A (oM g a (bk, nI pn, hd, ph, ot, wi, ik, th, P, O, K, kd, lf, ch, be, gi, mr)) s.heap H locs := X
  refine lv_sipush (v := (255 : Int32)) hx hb dX1_common_0 (by decide) ?_
  refine lv_istore_n (lv' := [(2, .int (255 : Int32)), (0, .ref (a 0)), (1, .int (nI ln))]) hx hb dX1_common_3 rfl hl (by decide) rfl (fun ls hl => ?_)
  refine lv_iconst (v := (0 : Int32)) hx hb dX1_common_4 (by decide) ?_
  refine lv_istore_n (lv' := [(3, .int (0 : Int32)), (2, .int (255 : Int32)), (0, .ref (a 0)), (1, .int (nI ln))]) hx hb dX1_common_5 rfl hl (by decide) rfl (fun ls hl => ?_)
  have cut6 : ∀ (n6 : Nat), ∀ (k : Nat) (acc : Int32), (k ≤ 4) → (acc = mCom P ln k) → (5 - k ≤ n6) → ∀ (H : Heap) (locs : List Loc) (ls : Array Slot), zh g A (oM g a (bk, nI pn, hd, ph, ot, wi, ik, th, P, O, K, kd, lf, ch, be, gi, mr)) s.heap H locs → lv_has ls 5 [(3, .int (nI k)), (2, .int acc), (0, .ref (a 0)), (1, .int (nI ln))] → W p l e { frames := 1, cells := 0, slots := 0, locals := 60 } s m ([.ref (a 0), .int (nI ln)] : List Value).toArray below meth c H locs 0 0 (MQ below ((zQi g (P_X1_common bk pn hd ph ot wi ik th P O K kd lf ch be gi mr ln) (oM g a)) A) ([.ref (a 0), .int (nI ln)] : List Value).toArray s 0 0 A) (F0 m 6 ls []) := by
    intro n6
    induction n6 with
    | zero =>
      intro k acc hk hacc hm6
      exact absurd hm6 (by omega)
    | succ n6 ih6 =>
      intro k acc hk hacc hm6 H locs ls X hl
      refine lv_iload_n hx hb dX1_common_6 rfl (lv_at hl 0 rfl) ?_
      refine lv_iconst (v := (4 : Int32)) hx hb dX1_common_7 (by decide) ?_
      refine lv_icmp_ge (tgt := 54) hx hb dX1_common_8 (by decide) (fun c1 => ?_) (fun c1 => ?_)
      · have qc1 := c1
        have c1n : 4 ≤ k := zn_let (by omega) (by omega) c1
        refine lv_iload_n hx hb dX1_common_54 rfl (lv_at hl 1 rfl) ?_
        exact zreti Z hr hlk (bk, nI pn, hd, ph, ot, wi, ik, th, P, O, K, kd, lf, ch, be, gi, mr) X dX1_common_55 rfl (⟨rfl, by rw [hacc, show k = 4 by omega]⟩)
      · have qc1 := c1
        have c1n : ¬ 4 ≤ k := zn_len (by omega) (by omega) c1
        refine lv_aload_n hx hb dX1_common_11 rfl (lv_at hl 2 rfl) ?_
        refine zget (fs := [.int bk, .ref (a 1), .ref (a 2), .int (nI pn), .int hd, .int ph, .int ot, .int wi, .int ik, .ref (a 3), .int th, .ref (a 4), .ref (a 5), .ref (a 6), .ref (a 7), .ref (a 8), .ref (a 9)]) (v := .ref (a 1)) Z hin X (ci := 1) (C := RX1) (T := TX1) (N := 17) rfl rfl 1 (by decide) lk_X1_common_7 rfl dX1_common_12 ?_
        refine lv_iload_n hx hb dX1_common_15 rfl (lv_at hl 3 rfl) ?_
        refine lv_iload_n hx hb dX1_common_16 rfl (lv_at hl 0 rfl) ?_
        have hsq : sqr ln k < 16 := sqr_lt ln hln k (by omega)
        refine zcallSi (n := 2) (As := [.int (nI ln), .int (nI k)]) (rest := [.ref (a 1)]) Z X (c_X1_square l g ln k (by omega) (by omega)) gX1_common_X1_square rfl (by decide +kernel) ⟨Nat.le_of_ble_eq_true rfl, Nat.le_of_ble_eq_true rfl⟩ rfl rfl hl.1 (Nat.le_of_ble_eq_true rfl) dX1_common_17 ⟨Nat.zero_le _, Nat.zero_le _⟩ (fun r1 H locs hrr1 X => ?_)
        obtain rfl : r1 = nI (sqr ln k) := hrr1
        refine zald (q0 := 1) (n := 16) (f := P) Z X rfl rfl (sqr ln k) rfl (by omega) (by decide) dX1_common_20 ?_
        refine lv_istore (lv' := [(4, .int (P (sqr ln k))), (3, .int (nI k)), (2, .int acc), (0, .ref (a 0)), (1, .int (nI ln))]) hx hb dX1_common_21 hl (by decide) rfl (fun ls hl => ?_)
        refine lv_iload_n hx hb dX1_common_23 rfl (lv_at hl 2 rfl) ?_
        refine lv_iload hx hb dX1_common_24 (lv_at hl 0 rfl) ?_
        refine lv_iconst (v := (-1 : Int32)) hx hb dX1_common_26 (by decide) ?_
        refine lv_icmp_ne (tgt := 36) hx hb dX1_common_27 (by decide) (fun c3 => ?_) (fun c3 => ?_)
        · have qc3 := c3
          have hm1 : ¬ P (sqr ln k) = -1 := by exact c3
          refine lv_iload hx hb dX1_common_36 (lv_at hl 0 rfl) ?_
          refine lv_bipush (v := (15 : Int32)) hx hb dX1_common_38 (by decide) ?_
          refine lv_iload hx hb dX1_common_40 (lv_at hl 0 rfl) ?_
          refine lv_isub hx hb dX1_common_42 ?_
          refine lv_iconst (v := (4 : Int32)) hx hb dX1_common_43 (by decide) ?_
          refine lv_ishl hx hb dX1_common_44 ?_
          refine lv_ior hx hb dX1_common_45 ?_
          refine lv_iand hx hb dX1_common_46 ?_
          refine lv_topi (fun x4 ex4 => ?_)
          refine lv_istore_n (lv' := [(2, .int x4), (4, .int (P (sqr ln k))), (3, .int (nI k)), (0, .ref (a 0)), (1, .int (nI ln))]) hx hb dX1_common_47 rfl hl (by decide) rfl (fun ls hl => ?_)
          refine lv_iinc (v := nI (k + 1)) (lv' := [(3, .int (nI (k + 1))), (2, .int x4), (4, .int (P (sqr ln k))), (0, .ref (a 0)), (1, .int (nI ln))]) hx hb dX1_common_48 hl (k := 2) rfl (zi_inc k) (by decide) rfl (fun ls hl => ?_)
          refine lv_goto (tgt := 6) hx hb dX1_common_51 (by decide) ?_
          exact ih6 (k + 1) x4 (by first | assumption | omega) (by subst ex4; rw [hacc]; simp only [mCom, mMk, hm1, decide_true, decide_false, Bool.and_true, Bool.and_false, Bool.true_and, Bool.false_and, not_true_eq_false, not_false_eq_true, Bool.not_true, Bool.not_false, if_true, if_false, and_true, true_and, and_false, false_and, Bool.false_eq_true, Bool.true_eq_false, eq_self]) (by omega) H locs ls X (lv_sub hl [0, 1, 3, 4] rfl)
        · have qc3 := c3
          have hm1 : P (sqr ln k) = -1 := by exact c3
          refine lv_sipush (v := (255 : Int32)) hx hb dX1_common_30 (by decide) ?_
          refine lv_goto (tgt := 46) hx hb dX1_common_33 (by decide) ?_
          refine lv_iand hx hb dX1_common_46 ?_
          refine lv_topi (fun x5 ex5 => ?_)
          refine lv_istore_n (lv' := [(2, .int x5), (4, .int (P (sqr ln k))), (3, .int (nI k)), (0, .ref (a 0)), (1, .int (nI ln))]) hx hb dX1_common_47 rfl hl (by decide) rfl (fun ls hl => ?_)
          refine lv_iinc (v := nI (k + 1)) (lv' := [(3, .int (nI (k + 1))), (2, .int x5), (4, .int (P (sqr ln k))), (0, .ref (a 0)), (1, .int (nI ln))]) hx hb dX1_common_48 hl (k := 2) rfl (zi_inc k) (by decide) rfl (fun ls hl => ?_)
          refine lv_goto (tgt := 6) hx hb dX1_common_51 (by decide) ?_
          exact ih6 (k + 1) x5 (by first | assumption | omega) (by subst ex5; rw [hacc]; simp only [mCom, mMk, hm1, decide_true, decide_false, Bool.and_true, Bool.and_false, Bool.true_and, Bool.false_and, not_true_eq_false, not_false_eq_true, Bool.not_true, Bool.not_false, if_true, if_false, and_true, true_and, and_false, false_and, Bool.false_eq_true, Bool.true_eq_false, eq_self]) (by omega) H locs ls X (lv_sub hl [0, 1, 3, 4] rfl)
  exact cut6 5 0 255 (by first | assumption | omega) (rfl) (by omega) H locs ls X (lv_sub hl [0, 1, 2, 3] rfl)
theorem inw_X1_full : ∀ w ∈ wsX10, w ∈ wsX1_full := by decide +kernel
theorem lk_X1_full_7 : Cond.fieldLink RX1 7 "QuarterboardModel" "piece" "[I" ∈ wsX1_full := by decide +kernel
def P_X1_full (bk : Int32) (pn : Nat) (hd ph ot wi ik th : Int32) (P O K kd lf ch be gi mr : Nat → Int32) (ln : Nat) : Int32 → MS → Prop := fun r u => u = (bk, nI pn, hd, ph, ot, wi, ik, th, P, O, K, kd, lf, ch, be, gi, mr) ∧ r = nI (mFul P ln 4)
set_option maxHeartbeats 4000000 in
set_option maxRecDepth 100000 in
theorem c_X1_full (l : Launch) (g : zG) (a : Nat → Nat) (bk : Int32) (pn : Nat) (hd ph ot wi ik th : Int32) (P O K kd lf ch be gi mr : Nat → Int32) (ln : Nat) (hln : ln < 19) : zM l yX1_full wsX1_full 1 60 g [.ref (a 0), .int (nI ln)] (oM g a (bk, nI pn, hd, ph, ot, wi, ik, th, P, O, K, kd, lf, ch, be, gi, mr)) zE0 (zQi g (P_X1_full bk pn hd ph ot wi ik th P O K kd lf ch be gi mr ln) (oM g a)) := by
  refine zstart (cc := cX1_full) (maxL := 4) (ret := (some .int)) (own := RX1) rfl (by decide) rfl zSt0 (Nat.le_of_ble_eq_true rfl) ?_
  intro p e s m below meth c A Z hr hlk H locs X ls hl
  have hx := Z.1.1
  have hb := Z.1.2.1
  have hin : ∀ w ∈ wsX10, w ∈ wsX1_full := inw_X1_full
  have hl : lv_has ls 4 [(0, .ref (a 0)), (1, .int (nI ln))] := hl
  have X : zh g A (oM g a (bk, nI pn, hd, ph, ot, wi, ik, th, P, O, K, kd, lf, ch, be, gi, mr)) s.heap H locs := X
  refine lv_iconst (v := (0 : Int32)) hx hb dX1_full_0 (by decide) ?_
  refine lv_istore_n (lv' := [(2, .int (0 : Int32)), (0, .ref (a 0)), (1, .int (nI ln))]) hx hb dX1_full_1 rfl hl (by decide) rfl (fun ls hl => ?_)
  refine lv_iconst (v := (0 : Int32)) hx hb dX1_full_2 (by decide) ?_
  refine lv_istore_n (lv' := [(3, .int (0 : Int32)), (2, .int (0 : Int32)), (0, .ref (a 0)), (1, .int (nI ln))]) hx hb dX1_full_3 rfl hl (by decide) rfl (fun ls hl => ?_)
  have cut4 : ∀ (n4 : Nat), ∀ (k : Nat) (n : Nat), (k ≤ 4) → (n = mFul P ln k) → (5 - k ≤ n4) → ∀ (H : Heap) (locs : List Loc) (ls : Array Slot), zh g A (oM g a (bk, nI pn, hd, ph, ot, wi, ik, th, P, O, K, kd, lf, ch, be, gi, mr)) s.heap H locs → lv_has ls 4 [(3, .int (nI k)), (2, .int (nI n)), (0, .ref (a 0)), (1, .int (nI ln))] → W p l e { frames := 1, cells := 0, slots := 0, locals := 60 } s m ([.ref (a 0), .int (nI ln)] : List Value).toArray below meth c H locs 0 0 (MQ below ((zQi g (P_X1_full bk pn hd ph ot wi ik th P O K kd lf ch be gi mr ln) (oM g a)) A) ([.ref (a 0), .int (nI ln)] : List Value).toArray s 0 0 A) (F0 m 4 ls []) := by
    intro n4
    induction n4 with
    | zero =>
      intro k n hk hn hm4
      exact absurd hm4 (by omega)
    | succ n4 ih4 =>
      intro k n hk hn hm4 H locs ls X hl
      refine lv_iload_n hx hb dX1_full_4 rfl (lv_at hl 0 rfl) ?_
      refine lv_iconst (v := (4 : Int32)) hx hb dX1_full_5 (by decide) ?_
      refine lv_icmp_ge (tgt := 37) hx hb dX1_full_6 (by decide) (fun c1 => ?_) (fun c1 => ?_)
      · have qc1 := c1
        have c1n : 4 ≤ k := zn_let (by omega) (by omega) c1
        refine lv_iload_n hx hb dX1_full_37 rfl (lv_at hl 1 rfl) ?_
        exact zreti Z hr hlk (bk, nI pn, hd, ph, ot, wi, ik, th, P, O, K, kd, lf, ch, be, gi, mr) X dX1_full_38 rfl (⟨rfl, by rw [hn, show k = 4 by omega]⟩)
      · have qc1 := c1
        have c1n : ¬ 4 ≤ k := zn_len (by omega) (by omega) c1
        refine lv_iload_n hx hb dX1_full_9 rfl (lv_at hl 1 rfl) ?_
        refine lv_aload_n hx hb dX1_full_10 rfl (lv_at hl 2 rfl) ?_
        refine zget (fs := [.int bk, .ref (a 1), .ref (a 2), .int (nI pn), .int hd, .int ph, .int ot, .int wi, .int ik, .ref (a 3), .int th, .ref (a 4), .ref (a 5), .ref (a 6), .ref (a 7), .ref (a 8), .ref (a 9)]) (v := .ref (a 1)) Z hin X (ci := 1) (C := RX1) (T := TX1) (N := 17) rfl rfl 1 (by decide) lk_X1_full_7 rfl dX1_full_11 ?_
        have hsq : sqr ln k < 16 := sqr_lt ln hln k (by omega)
        refine lv_iload_n hx hb dX1_full_14 rfl (lv_at hl 3 rfl) ?_
        refine lv_iload_n hx hb dX1_full_15 rfl (lv_at hl 0 rfl) ?_
        refine zcallSi (n := 2) (As := [.int (nI ln), .int (nI k)]) (rest := [.ref (a 1), .int (nI n)]) Z X (c_X1_square l g ln k (by omega) (by omega)) gX1_full_X1_square rfl (by decide +kernel) ⟨Nat.le_of_ble_eq_true rfl, Nat.le_of_ble_eq_true rfl⟩ rfl rfl hl.1 (Nat.le_of_ble_eq_true rfl) dX1_full_16 ⟨Nat.zero_le _, Nat.zero_le _⟩ (fun r1 H locs hrr1 X => ?_)
        obtain rfl : r1 = nI (sqr ln k) := hrr1
        refine zald (q0 := 1) (n := 16) (f := P) Z X rfl rfl (sqr ln k) rfl (by omega) (by decide) dX1_full_19 ?_
        refine lv_iconst (v := (-1 : Int32)) hx hb dX1_full_20 (by decide) ?_
        refine lv_icmp_ne (tgt := 28) hx hb dX1_full_21 (by decide) (fun c3 => ?_) (fun c3 => ?_)
        · have qc3 := c3
          have hm1 : ¬ P (sqr ln k) = -1 := c3
          refine lv_iconst (v := nI 1) hx hb dX1_full_28 (by decide) ?_
          refine lv_iadd hx hb dX1_full_29 ?_
          refine zrwi (y := nI (n + 1)) (nI_add _ _) ?_
          refine lv_istore_n (lv' := [(2, .int (nI (n + 1))), (3, .int (nI k)), (0, .ref (a 0)), (1, .int (nI ln))]) hx hb dX1_full_30 rfl hl (by decide) rfl (fun ls hl => ?_)
          refine lv_iinc (v := nI (k + 1)) (lv' := [(3, .int (nI (k + 1))), (2, .int (nI (n + 1))), (0, .ref (a 0)), (1, .int (nI ln))]) hx hb dX1_full_31 hl (k := 1) rfl (zi_inc k) (by decide) rfl (fun ls hl => ?_)
          refine lv_goto (tgt := 4) hx hb dX1_full_34 (by decide) ?_
          exact ih4 (k + 1) (n + 1) (by first | assumption | omega) (by rw [hn]; simp only [mFul, hm1, decide_true, decide_false, Bool.and_true, Bool.and_false, Bool.true_and, Bool.false_and, not_true_eq_false, not_false_eq_true, Bool.not_true, Bool.not_false, if_true, if_false, and_true, true_and, and_false, false_and, Bool.false_eq_true, Bool.true_eq_false, eq_self]) (by omega) H locs ls X (lv_sub hl [0, 1, 2, 3] rfl)
        · have qc3 := c3
          have hm1 : P (sqr ln k) = -1 := c3
          refine lv_iconst (v := nI 0) hx hb dX1_full_24 (by decide) ?_
          refine lv_goto (tgt := 29) hx hb dX1_full_25 (by decide) ?_
          refine lv_iadd hx hb dX1_full_29 ?_
          refine zrwi (y := nI (n + 0)) (nI_add _ _) ?_
          refine lv_istore_n (lv' := [(2, .int (nI (n + 0))), (3, .int (nI k)), (0, .ref (a 0)), (1, .int (nI ln))]) hx hb dX1_full_30 rfl hl (by decide) rfl (fun ls hl => ?_)
          refine lv_iinc (v := nI (k + 1)) (lv' := [(3, .int (nI (k + 1))), (2, .int (nI (n + 0))), (0, .ref (a 0)), (1, .int (nI ln))]) hx hb dX1_full_31 hl (k := 1) rfl (zi_inc k) (by decide) rfl (fun ls hl => ?_)
          refine lv_goto (tgt := 4) hx hb dX1_full_34 (by decide) ?_
          exact ih4 (k + 1) (n + 0) (by first | assumption | omega) (by rw [hn]; simp only [mFul, hm1, decide_true, decide_false, Bool.and_true, Bool.and_false, Bool.true_and, Bool.false_and, not_true_eq_false, not_false_eq_true, Bool.not_true, Bool.not_false, if_true, if_false, and_true, true_and, and_false, false_and, Bool.false_eq_true, Bool.true_eq_false, eq_self]) (by omega) H locs ls X (lv_sub hl [0, 1, 2, 3] rfl)
  exact cut4 5 0 0 (by first | assumption | omega) (rfl) (by omega) H locs ls X (lv_sub hl [0, 1, 2, 3] rfl)
theorem inw_X1_won : ∀ w ∈ wsX10, w ∈ wsX1_won := by decide +kernel
def P_X1_won (bk : Int32) (pn : Nat) (hd ph ot wi ik th : Int32) (P O K kd lf ch be gi mr : Nat → Int32) (sq : Nat) : Int32 → MS → Prop := fun r u => u = (bk, nI pn, hd, ph, ot, wi, ik, th, P, O, K, kd, lf, ch, be, gi, mr) ∧ r = nI (mWon bk P sq)
set_option maxHeartbeats 4000000 in
set_option maxRecDepth 100000 in
theorem c_X1_won (l : Launch) (g : zG) (a : Nat → Nat) (bk : Int32) (pn : Nat) (hd ph ot wi ik th : Int32) (P O K kd lf ch be gi mr : Nat → Int32) (sq : Nat) (hsq : sq < 16) : zM l yX1_won wsX1_won 2 120 g [.ref (a 0), .int (nI sq)] (oM g a (bk, nI pn, hd, ph, ot, wi, ik, th, P, O, K, kd, lf, ch, be, gi, mr)) zE0 (zQi g (P_X1_won bk pn hd ph ot wi ik th P O K kd lf ch be gi mr sq) (oM g a)) := by
  refine zstart (cc := cX1_won) (maxL := 6) (ret := (some .int)) (own := RX1) rfl (by decide) rfl zSt0 (Nat.le_of_ble_eq_true rfl) ?_
  intro p e s m below meth c A Z hr hlk H locs X ls hl
  have hx := Z.1.1
  have hb := Z.1.2.1
  have hin : ∀ w ∈ wsX10, w ∈ wsX1_won := inw_X1_won
  have hl : lv_has ls 6 [(0, .ref (a 0)), (1, .int (nI sq))] := hl
  have X : zh g A (oM g a (bk, nI pn, hd, ph, ot, wi, ik, th, P, O, K, kd, lf, ch, be, gi, mr)) s.heap H locs := X
  have hmy := mMany_le bk
  refine lv_iconst (v := (0 : Int32)) hx hb dX1_won_0 (by decide) ?_
  refine lv_istore_n (lv' := [(2, .int (0 : Int32)), (0, .ref (a 0)), (1, .int (nI sq))]) hx hb dX1_won_1 rfl hl (by decide) rfl (fun ls hl => ?_)
  refine lv_iconst (v := (0 : Int32)) hx hb dX1_won_2 (by decide) ?_
  refine lv_istore_n (lv' := [(3, .int (0 : Int32)), (2, .int (0 : Int32)), (0, .ref (a 0)), (1, .int (nI sq))]) hx hb dX1_won_3 rfl hl (by decide) rfl (fun ls hl => ?_)
  have cut4 : ∀ (n4 : Nat), ∀ (k : Nat) (n : Nat), (k ≤ mMany bk) → (n = mWonC P sq k) → (mMany bk + 1 - k ≤ n4) → ∀ (H : Heap) (locs : List Loc) (ls : Array Slot), zh g A (oM g a (bk, nI pn, hd, ph, ot, wi, ik, th, P, O, K, kd, lf, ch, be, gi, mr)) s.heap H locs → lv_has ls 6 [(3, .int (nI k)), (2, .int (nI n)), (0, .ref (a 0)), (1, .int (nI sq))] → W p l e { frames := 2, cells := 0, slots := 0, locals := 120 } s m ([.ref (a 0), .int (nI sq)] : List Value).toArray below meth c H locs 0 0 (MQ below ((zQi g (P_X1_won bk pn hd ph ot wi ik th P O K kd lf ch be gi mr sq) (oM g a)) A) ([.ref (a 0), .int (nI sq)] : List Value).toArray s 0 0 A) (F0 m 4 ls []) := by
    intro n4
    induction n4 with
    | zero =>
      intro k n hk hn hm4
      exact absurd hm4 (by omega)
    | succ n4 ih4 =>
      intro k n hk hn hm4 H locs ls X hl
      refine lv_iload_n hx hb dX1_won_4 rfl (lv_at hl 0 rfl) ?_
      refine lv_aload_n hx hb dX1_won_5 rfl (lv_at hl 2 rfl) ?_
      refine zcallVi (n := 0) (As := []) (rest := [.int (nI k)]) (ci := 1) (C := RX1) (T := TX1) (N := 17) Z X (c_X1_many l g a bk pn hd ph ot wi ik th P O K kd lf ch be gi mr  ) gX1_won_X1_many rfl (by decide +kernel) ⟨Nat.le_of_ble_eq_true rfl, Nat.le_of_ble_eq_true rfl⟩ rfl rfl rfl rfl hl.1 (Nat.le_of_ble_eq_true rfl) dX1_won_6 ⟨Nat.zero_le _, Nat.zero_le _⟩ (fun r0 ur0 H locs hrr0 X => ?_)
      obtain ⟨rfl, rfl⟩ : ur0 = (bk, nI pn, hd, ph, ot, wi, ik, th, P, O, K, kd, lf, ch, be, gi, mr) ∧ r0 = nI (mMany bk) := hrr0
      have X : zh g A (oM g a (bk, nI pn, hd, ph, ot, wi, ik, th, P, O, K, kd, lf, ch, be, gi, mr)) s.heap H locs := X
      refine lv_icmp_ge (tgt := 88) hx hb dX1_won_9 (by decide) (fun c2 => ?_) (fun c2 => ?_)
      · have qc2 := c2
        have c2n : (mMany bk) ≤ k := zn_let (by omega) (by omega) c2
        refine lv_iload_n hx hb dX1_won_88 rfl (lv_at hl 1 rfl) ?_
        exact zreti Z hr hlk (bk, nI pn, hd, ph, ot, wi, ik, th, P, O, K, kd, lf, ch, be, gi, mr) X dX1_won_89 rfl (⟨rfl, by rw [hn, show k = mMany bk by omega]; rfl⟩)
      · have qc2 := c2
        have c2n : ¬ (mMany bk) ≤ k := zn_len (by omega) (by omega) c2
        refine lv_iconst (v := (0 : Int32)) hx hb dX1_won_12 (by decide) ?_
        refine lv_istore (lv' := [(4, .int (0 : Int32)), (3, .int (nI k)), (2, .int (nI n)), (0, .ref (a 0)), (1, .int (nI sq))]) hx hb dX1_won_13 hl (by decide) rfl (fun ls hl => ?_)
        refine lv_iconst (v := (0 : Int32)) hx hb dX1_won_15 (by decide) ?_
        refine lv_istore (lv' := [(5, .int (0 : Int32)), (4, .int (0 : Int32)), (3, .int (nI k)), (2, .int (nI n)), (0, .ref (a 0)), (1, .int (nI sq))]) hx hb dX1_won_16 hl (by decide) rfl (fun ls hl => ?_)
        have cut18 : ∀ (n18 : Nat), ∀ (j : Nat) (tv : Int32), (j ≤ 4) → (tv = zb (anyN (thF k sq) j)) → (5 - j ≤ n18) → ∀ (H : Heap) (locs : List Loc) (ls : Array Slot), zh g A (oM g a (bk, nI pn, hd, ph, ot, wi, ik, th, P, O, K, kd, lf, ch, be, gi, mr)) s.heap H locs → lv_has ls 6 [(5, .int (nI j)), (4, .int tv), (3, .int (nI k)), (2, .int (nI n)), (0, .ref (a 0)), (1, .int (nI sq))] → W p l e { frames := 2, cells := 0, slots := 0, locals := 120 } s m ([.ref (a 0), .int (nI sq)] : List Value).toArray below meth c H locs 0 0 (MQ below ((zQi g (P_X1_won bk pn hd ph ot wi ik th P O K kd lf ch be gi mr sq) (oM g a)) A) ([.ref (a 0), .int (nI sq)] : List Value).toArray s 0 0 A) (F0 m 18 ls []) := by
          intro n18
          induction n18 with
          | zero =>
            intro j tv hj htv hm18
            exact absurd hm18 (by omega)
          | succ n18 ih18 =>
            intro j tv hj htv hm18 H locs ls X hl
            refine lv_iload hx hb dX1_won_18 (lv_at hl 0 rfl) ?_
            refine lv_iconst (v := (4 : Int32)) hx hb dX1_won_20 (by decide) ?_
            refine lv_icmp_ge (tgt := 52) hx hb dX1_won_21 (by decide) (fun c3 => ?_) (fun c3 => ?_)
            · have qc3 := c3
              have c3n : 4 ≤ j := zn_let (by omega) (by omega) c3
              refine lv_iload_n hx hb dX1_won_52 rfl (lv_at hl 3 rfl) ?_
              refine lv_iload hx hb dX1_won_53 (lv_at hl 1 rfl) ?_
              refine lv_if_eq (tgt := 79) hx hb dX1_won_55 (by decide) (fun c4 => ?_) (fun c4 => ?_)
              · have qc4 := c4
                have ht4 : anyN (thF k sq) 4 = false := zb_0.mp (by rw [show (4 : Nat) = j by omega]; exact htv ▸ c4)
                refine lv_iconst (v := nI 0) hx hb dX1_won_79 (by decide) ?_
                refine lv_iadd hx hb dX1_won_80 ?_
                refine zrwi (y := nI (n + 0)) (nI_add _ _) ?_
                refine lv_istore_n (lv' := [(2, .int (nI (n + 0))), (5, .int (nI j)), (4, .int tv), (3, .int (nI k)), (0, .ref (a 0)), (1, .int (nI sq))]) hx hb dX1_won_81 rfl hl (by decide) rfl (fun ls hl => ?_)
                refine lv_iinc (v := nI (k + 1)) (lv' := [(3, .int (nI (k + 1))), (2, .int (nI (n + 0))), (5, .int (nI j)), (4, .int tv), (0, .ref (a 0)), (1, .int (nI sq))]) hx hb dX1_won_82 hl (k := 3) rfl (zi_inc k) (by decide) rfl (fun ls hl => ?_)
                refine lv_goto (tgt := 4) hx hb dX1_won_85 (by decide) ?_
                exact ih4 (k + 1) (n + 0) (by first | assumption | omega) (by first | exact wonC_t hn (wl_t ht4 hf4 hc4) | exact wonC_f hn (wl_f1 ht4) | exact wonC_f hn (wl_f2 hf4) | exact wonC_f hn (wl_f3 hc4)) (by omega) H locs ls X (lv_sub hl [0, 1, 4, 5] rfl)
              · have qc4 := c4
                have ht4 : anyN (thF k sq) 4 = true := zb_n0.mp (by rw [show (4 : Nat) = j by omega]; exact htv ▸ c4)
                refine lv_aload_n hx hb dX1_won_58 rfl (lv_at hl 4 rfl) ?_
                refine lv_iload_n hx hb dX1_won_59 rfl (lv_at hl 2 rfl) ?_
                have hfl := mFul_le P k 4
                refine zcallVi (n := 1) (As := [.int (nI k)]) (rest := [.int (nI n)]) (ci := 1) (C := RX1) (T := TX1) (N := 17) Z X (c_X1_full l g a bk pn hd ph ot wi ik th P O K kd lf ch be gi mr k (by omega)) gX1_won_X1_full rfl (by decide +kernel) ⟨Nat.le_of_ble_eq_true rfl, Nat.le_of_ble_eq_true rfl⟩ rfl rfl rfl rfl hl.1 (Nat.le_of_ble_eq_true rfl) dX1_won_60 ⟨Nat.zero_le _, Nat.zero_le _⟩ (fun r4 ur4 H locs hrr4 X => ?_)
                obtain ⟨rfl, rfl⟩ : ur4 = (bk, nI pn, hd, ph, ot, wi, ik, th, P, O, K, kd, lf, ch, be, gi, mr) ∧ r4 = nI (mFul P k 4) := hrr4
                have X : zh g A (oM g a (bk, nI pn, hd, ph, ot, wi, ik, th, P, O, K, kd, lf, ch, be, gi, mr)) s.heap H locs := X
                refine lv_iconst (v := (4 : Int32)) hx hb dX1_won_63 (by decide) ?_
                refine lv_icmp_ne (tgt := 79) hx hb dX1_won_64 (by decide) (fun c6 => ?_) (fun c6 => ?_)
                · have qc6 := c6
                  have c6n : ¬ (mFul P k 4) = 4 := zn_eqn (by omega) (by omega) c6
                  have hf4 : ¬ mFul P k 4 = 4 := c6n
                  refine lv_iconst (v := nI 0) hx hb dX1_won_79 (by decide) ?_
                  refine lv_iadd hx hb dX1_won_80 ?_
                  refine zrwi (y := nI (n + 0)) (nI_add _ _) ?_
                  refine lv_istore_n (lv' := [(2, .int (nI (n + 0))), (5, .int (nI j)), (4, .int tv), (3, .int (nI k)), (0, .ref (a 0)), (1, .int (nI sq))]) hx hb dX1_won_81 rfl hl (by decide) rfl (fun ls hl => ?_)
                  refine lv_iinc (v := nI (k + 1)) (lv' := [(3, .int (nI (k + 1))), (2, .int (nI (n + 0))), (5, .int (nI j)), (4, .int tv), (0, .ref (a 0)), (1, .int (nI sq))]) hx hb dX1_won_82 hl (k := 3) rfl (zi_inc k) (by decide) rfl (fun ls hl => ?_)
                  refine lv_goto (tgt := 4) hx hb dX1_won_85 (by decide) ?_
                  exact ih4 (k + 1) (n + 0) (by first | assumption | omega) (by first | exact wonC_t hn (wl_t ht4 hf4 hc4) | exact wonC_f hn (wl_f1 ht4) | exact wonC_f hn (wl_f2 hf4) | exact wonC_f hn (wl_f3 hc4)) (by omega) H locs ls X (lv_sub hl [0, 1, 4, 5] rfl)
                · have qc6 := c6
                  have c6n : (mFul P k 4) = 4 := zn_eqt (by omega) (by omega) c6
                  have hf4 : mFul P k 4 = 4 := c6n
                  refine lv_aload_n hx hb dX1_won_67 rfl (lv_at hl 4 rfl) ?_
                  refine lv_iload_n hx hb dX1_won_68 rfl (lv_at hl 2 rfl) ?_
                  refine zcallVi (n := 1) (As := [.int (nI k)]) (rest := [.int (nI n)]) (ci := 1) (C := RX1) (T := TX1) (N := 17) Z X (c_X1_common l g a bk pn hd ph ot wi ik th P O K kd lf ch be gi mr k (by omega)) gX1_won_X1_common rfl (by decide +kernel) ⟨Nat.le_of_ble_eq_true rfl, Nat.le_of_ble_eq_true rfl⟩ rfl rfl rfl rfl hl.1 (Nat.le_of_ble_eq_true rfl) dX1_won_69 ⟨Nat.zero_le _, Nat.zero_le _⟩ (fun r6 ur6 H locs hrr6 X => ?_)
                  obtain ⟨rfl, rfl⟩ : ur6 = (bk, nI pn, hd, ph, ot, wi, ik, th, P, O, K, kd, lf, ch, be, gi, mr) ∧ r6 = mCom P k 4 := hrr6
                  have X : zh g A (oM g a (bk, nI pn, hd, ph, ot, wi, ik, th, P, O, K, kd, lf, ch, be, gi, mr)) s.heap H locs := X
                  refine lv_if_eq (tgt := 79) hx hb dX1_won_72 (by decide) (fun c8 => ?_) (fun c8 => ?_)
                  · have qc8 := c8
                    have hc4 : mCom P k 4 = 0 := c8
                    refine lv_iconst (v := nI 0) hx hb dX1_won_79 (by decide) ?_
                    refine lv_iadd hx hb dX1_won_80 ?_
                    refine zrwi (y := nI (n + 0)) (nI_add _ _) ?_
                    refine lv_istore_n (lv' := [(2, .int (nI (n + 0))), (5, .int (nI j)), (4, .int tv), (3, .int (nI k)), (0, .ref (a 0)), (1, .int (nI sq))]) hx hb dX1_won_81 rfl hl (by decide) rfl (fun ls hl => ?_)
                    refine lv_iinc (v := nI (k + 1)) (lv' := [(3, .int (nI (k + 1))), (2, .int (nI (n + 0))), (5, .int (nI j)), (4, .int tv), (0, .ref (a 0)), (1, .int (nI sq))]) hx hb dX1_won_82 hl (k := 3) rfl (zi_inc k) (by decide) rfl (fun ls hl => ?_)
                    refine lv_goto (tgt := 4) hx hb dX1_won_85 (by decide) ?_
                    exact ih4 (k + 1) (n + 0) (by first | assumption | omega) (by first | exact wonC_t hn (wl_t ht4 hf4 hc4) | exact wonC_f hn (wl_f1 ht4) | exact wonC_f hn (wl_f2 hf4) | exact wonC_f hn (wl_f3 hc4)) (by omega) H locs ls X (lv_sub hl [0, 1, 4, 5] rfl)
                  · have qc8 := c8
                    have hc4 : ¬ mCom P k 4 = 0 := c8
                    refine lv_iconst (v := nI 1) hx hb dX1_won_75 (by decide) ?_
                    refine lv_goto (tgt := 80) hx hb dX1_won_76 (by decide) ?_
                    refine lv_iadd hx hb dX1_won_80 ?_
                    refine zrwi (y := nI (n + 1)) (nI_add _ _) ?_
                    refine lv_istore_n (lv' := [(2, .int (nI (n + 1))), (5, .int (nI j)), (4, .int tv), (3, .int (nI k)), (0, .ref (a 0)), (1, .int (nI sq))]) hx hb dX1_won_81 rfl hl (by decide) rfl (fun ls hl => ?_)
                    refine lv_iinc (v := nI (k + 1)) (lv' := [(3, .int (nI (k + 1))), (2, .int (nI (n + 1))), (5, .int (nI j)), (4, .int tv), (0, .ref (a 0)), (1, .int (nI sq))]) hx hb dX1_won_82 hl (k := 3) rfl (zi_inc k) (by decide) rfl (fun ls hl => ?_)
                    refine lv_goto (tgt := 4) hx hb dX1_won_85 (by decide) ?_
                    exact ih4 (k + 1) (n + 1) (by first | assumption | omega) (by first | exact wonC_t hn (wl_t ht4 hf4 hc4) | exact wonC_f hn (wl_f1 ht4) | exact wonC_f hn (wl_f2 hf4) | exact wonC_f hn (wl_f3 hc4)) (by omega) H locs ls X (lv_sub hl [0, 1, 4, 5] rfl)
            · have qc3 := c3
              have c3n : ¬ 4 ≤ j := zn_len (by omega) (by omega) c3
              refine lv_iload hx hb dX1_won_24 (lv_at hl 1 rfl) ?_
              refine lv_if_ne (tgt := 39) hx hb dX1_won_26 (by decide) (fun c9 => ?_) (fun c9 => ?_)
              · have qc9 := c9
                have ht0 : anyN (thF k sq) j = true := zb_n0.mp (htv ▸ c9)
                refine lv_iconst (v := (1 : Int32)) hx hb dX1_won_39 (by decide) ?_
                refine lv_goto (tgt := 44) hx hb dX1_won_40 (by decide) ?_
                refine lv_istore (lv' := [(4, .int (1 : Int32)), (5, .int (nI j)), (3, .int (nI k)), (2, .int (nI n)), (0, .ref (a 0)), (1, .int (nI sq))]) hx hb dX1_won_44 hl (by decide) rfl (fun ls hl => ?_)
                refine lv_iinc (v := nI (j + 1)) (lv' := [(5, .int (nI (j + 1))), (4, .int (1 : Int32)), (3, .int (nI k)), (2, .int (nI n)), (0, .ref (a 0)), (1, .int (nI sq))]) hx hb dX1_won_46 hl (k := 1) rfl (zi_inc j) (by decide) rfl (fun ls hl => ?_)
                refine lv_goto (tgt := 18) hx hb dX1_won_49 (by decide) ?_
                exact ih18 (j + 1) (1 : Int32) (by first | assumption | omega) (by first | (show (1 : Int32) = zb (anyN (thF k sq) j || thF k sq j); rw [ht0]; rfl) | (show (1 : Int32) = zb (anyN (thF k sq) j || thF k sq j); rw [ht0, hq]; rfl) | (show (0 : Int32) = zb (anyN (thF k sq) j || thF k sq j); rw [ht0, hq]; rfl)) (by omega) H locs ls X (lv_sub hl [0, 1, 2, 3, 4, 5] rfl)
              · have qc9 := c9
                have ht0 : anyN (thF k sq) j = false := zb_0.mp (htv ▸ c9)
                refine lv_iload_n hx hb dX1_won_29 rfl (lv_at hl 2 rfl) ?_
                refine lv_iload hx hb dX1_won_30 (lv_at hl 0 rfl) ?_
                have hsj : sqr k j < 16 := sqr_lt k (by omega) j (by omega)
                refine zcallSi (n := 2) (As := [.int (nI k), .int (nI j)]) (rest := []) Z X (c_X1_square l g k j (by omega) (by omega)) gX1_won_X1_square rfl (by decide +kernel) ⟨Nat.le_of_ble_eq_true rfl, Nat.le_of_ble_eq_true rfl⟩ rfl rfl hl.1 (Nat.le_of_ble_eq_true rfl) dX1_won_32 ⟨Nat.zero_le _, Nat.zero_le _⟩ (fun r9 H locs hrr9 X => ?_)
                obtain rfl : r9 = nI (sqr k j) := hrr9
                refine lv_iload_n hx hb dX1_won_35 rfl (lv_at hl 5 rfl) ?_
                refine lv_icmp_ne (tgt := 43) hx hb dX1_won_36 (by decide) (fun c11 => ?_) (fun c11 => ?_)
                · have qc11 := c11
                  have c11n : ¬ (sqr k j) = sq := zn_eqn (by omega) (by omega) c11
                  have hq : thF k sq j = false := decide_eq_false c11n
                  refine lv_iconst (v := (0 : Int32)) hx hb dX1_won_43 (by decide) ?_
                  refine lv_istore (lv' := [(4, .int (0 : Int32)), (5, .int (nI j)), (3, .int (nI k)), (2, .int (nI n)), (0, .ref (a 0)), (1, .int (nI sq))]) hx hb dX1_won_44 hl (by decide) rfl (fun ls hl => ?_)
                  refine lv_iinc (v := nI (j + 1)) (lv' := [(5, .int (nI (j + 1))), (4, .int (0 : Int32)), (3, .int (nI k)), (2, .int (nI n)), (0, .ref (a 0)), (1, .int (nI sq))]) hx hb dX1_won_46 hl (k := 1) rfl (zi_inc j) (by decide) rfl (fun ls hl => ?_)
                  refine lv_goto (tgt := 18) hx hb dX1_won_49 (by decide) ?_
                  exact ih18 (j + 1) (0 : Int32) (by first | assumption | omega) (by first | (show (1 : Int32) = zb (anyN (thF k sq) j || thF k sq j); rw [ht0]; rfl) | (show (1 : Int32) = zb (anyN (thF k sq) j || thF k sq j); rw [ht0, hq]; rfl) | (show (0 : Int32) = zb (anyN (thF k sq) j || thF k sq j); rw [ht0, hq]; rfl)) (by omega) H locs ls X (lv_sub hl [0, 1, 2, 3, 4, 5] rfl)
                · have qc11 := c11
                  have c11n : (sqr k j) = sq := zn_eqt (by omega) (by omega) c11
                  have hq : thF k sq j = true := decide_eq_true c11n
                  refine lv_iconst (v := (1 : Int32)) hx hb dX1_won_39 (by decide) ?_
                  refine lv_goto (tgt := 44) hx hb dX1_won_40 (by decide) ?_
                  refine lv_istore (lv' := [(4, .int (1 : Int32)), (5, .int (nI j)), (3, .int (nI k)), (2, .int (nI n)), (0, .ref (a 0)), (1, .int (nI sq))]) hx hb dX1_won_44 hl (by decide) rfl (fun ls hl => ?_)
                  refine lv_iinc (v := nI (j + 1)) (lv' := [(5, .int (nI (j + 1))), (4, .int (1 : Int32)), (3, .int (nI k)), (2, .int (nI n)), (0, .ref (a 0)), (1, .int (nI sq))]) hx hb dX1_won_46 hl (k := 1) rfl (zi_inc j) (by decide) rfl (fun ls hl => ?_)
                  refine lv_goto (tgt := 18) hx hb dX1_won_49 (by decide) ?_
                  exact ih18 (j + 1) (1 : Int32) (by first | assumption | omega) (by first | (show (1 : Int32) = zb (anyN (thF k sq) j || thF k sq j); rw [ht0]; rfl) | (show (1 : Int32) = zb (anyN (thF k sq) j || thF k sq j); rw [ht0, hq]; rfl) | (show (0 : Int32) = zb (anyN (thF k sq) j || thF k sq j); rw [ht0, hq]; rfl)) (by omega) H locs ls X (lv_sub hl [0, 1, 2, 3, 4, 5] rfl)
        exact cut18 5 0 0 (by first | assumption | omega) (rfl) (by omega) H locs ls X (lv_sub hl [0, 1, 2, 3, 4, 5] rfl)
  exact cut4 (mMany bk + 1) 0 0 (by first | assumption | omega) (rfl) (by omega) H locs ls X (lv_sub hl [0, 1, 2, 3] rfl)
theorem inw_X1_puts : ∀ w ∈ wsX10, w ∈ wsX1_puts := by decide +kernel
theorem lk_X1_puts_7 : Cond.fieldLink RX1 7 "QuarterboardModel" "piece" "[I" ∈ wsX1_puts := by decide +kernel
theorem lk_X1_puts_13 : Cond.fieldLink RX1 13 "QuarterboardModel" "isOn" "[Z" ∈ wsX1_puts := by decide +kernel
theorem lk_X1_puts_70 : Cond.fieldLink RX1 70 "QuarterboardModel" "placed" "I" ∈ wsX1_puts := by decide +kernel
def P_X1_puts (bk : Int32) (pn : Nat) (hd ph ot wi ik th : Int32) (P O K kd lf ch be gi mr : Nat → Int32) (sq : Nat) (pc : Nat) : MS → Prop := fun u => u = (bk, nI (pn + 1), hd, ph, ot, wi, ik, th, upd P sq (nI pc), upd O pc 1, K, kd, lf, ch, be, gi, mr)
set_option maxHeartbeats 4000000 in
set_option maxRecDepth 100000 in
theorem c_X1_puts (l : Launch) (g : zG) (a : Nat → Nat) (bk : Int32) (pn : Nat) (hd ph ot wi ik th : Int32) (P O K kd lf ch be gi mr : Nat → Int32) (sq : Nat) (pc : Nat) (hsq : sq < 16) (hpc : pc < 16) : zM l yX1_puts wsX1_puts 0 0 g [.ref (a 0), .int (nI sq), .int (nI pc)] (oM g a (bk, nI pn, hd, ph, ot, wi, ik, th, P, O, K, kd, lf, ch, be, gi, mr)) zE0 (zQv g (P_X1_puts bk pn hd ph ot wi ik th P O K kd lf ch be gi mr sq pc) (oM g a)) := by
  refine zstart (cc := cX1_puts) (maxL := 3) (ret := none) (own := RX1) rfl (by decide) rfl zSt0 (Nat.le_of_ble_eq_true rfl) ?_
  intro p e s m below meth c A Z hr hlk H locs X ls hl
  have hx := Z.1.1
  have hb := Z.1.2.1
  have hin : ∀ w ∈ wsX10, w ∈ wsX1_puts := inw_X1_puts
  have hl : lv_has ls 3 [(0, .ref (a 0)), (1, .int (nI sq)), (2, .int (nI pc))] := hl
  have X : zh g A (oM g a (bk, nI pn, hd, ph, ot, wi, ik, th, P, O, K, kd, lf, ch, be, gi, mr)) s.heap H locs := X
  refine lv_aload_n hx hb dX1_puts_0 rfl (lv_at hl 0 rfl) ?_
  refine zget (fs := [.int bk, .ref (a 1), .ref (a 2), .int (nI pn), .int hd, .int ph, .int ot, .int wi, .int ik, .ref (a 3), .int th, .ref (a 4), .ref (a 5), .ref (a 6), .ref (a 7), .ref (a 8), .ref (a 9)]) (v := .ref (a 1)) Z hin X (ci := 1) (C := RX1) (T := TX1) (N := 17) rfl rfl 1 (by decide) lk_X1_puts_7 rfl dX1_puts_1 ?_
  refine lv_iload_n hx hb dX1_puts_4 rfl (lv_at hl 1 rfl) ?_
  refine lv_iload_n hx hb dX1_puts_5 rfl (lv_at hl 2 rfl) ?_
  refine zast (q0 := 1) (n := 16) (f := P) Z X rfl rfl sq rfl (by omega) (by decide) dX1_puts_6 (fun H locs X => ?_)
  have X : zh g A (oM g a (bk, nI pn, hd, ph, ot, wi, ik, th, (upd P sq (nI pc)), O, K, kd, lf, ch, be, gi, mr)) s.heap H locs := X
  refine lv_aload_n hx hb dX1_puts_7 rfl (lv_at hl 0 rfl) ?_
  refine zget (fs := [.int bk, .ref (a 1), .ref (a 2), .int (nI pn), .int hd, .int ph, .int ot, .int wi, .int ik, .ref (a 3), .int th, .ref (a 4), .ref (a 5), .ref (a 6), .ref (a 7), .ref (a 8), .ref (a 9)]) (v := .ref (a 2)) Z hin X (ci := 1) (C := RX1) (T := TX1) (N := 17) rfl rfl 2 (by decide) lk_X1_puts_13 rfl dX1_puts_8 ?_
  refine lv_iload_n hx hb dX1_puts_11 rfl (lv_at hl 2 rfl) ?_
  refine lv_iconst (v := (1 : Int32)) hx hb dX1_puts_12 (by decide) ?_
  refine zbst (q0 := 2) (n := 16) (f := O) Z X rfl rfl pc rfl (by omega) (by decide) rfl dX1_puts_13 (fun H locs X => ?_)
  have X : zh g A (oM g a (bk, nI pn, hd, ph, ot, wi, ik, th, (upd P sq (nI pc)), (upd O pc (1 : Int32)), K, kd, lf, ch, be, gi, mr)) s.heap H locs := X
  refine lv_aload_n hx hb dX1_puts_14 rfl (lv_at hl 0 rfl) ?_
  refine lv_dup hx hb dX1_puts_15 rfl ?_
  refine zget (fs := [.int bk, .ref (a 1), .ref (a 2), .int (nI pn), .int hd, .int ph, .int ot, .int wi, .int ik, .ref (a 3), .int th, .ref (a 4), .ref (a 5), .ref (a 6), .ref (a 7), .ref (a 8), .ref (a 9)]) (v := .int (nI pn)) Z hin X (ci := 1) (C := RX1) (T := TX1) (N := 17) rfl rfl 3 (by decide) lk_X1_puts_70 rfl dX1_puts_16 ?_
  refine lv_iconst (v := nI 1) hx hb dX1_puts_19 (by decide) ?_
  refine lv_iadd hx hb dX1_puts_20 ?_
  refine zrwi (y := nI (pn + 1)) (nI_add _ _) ?_
  refine zput (ty := .int) (fs := [.int bk, .ref (a 1), .ref (a 2), .int (nI pn), .int hd, .int ph, .int ot, .int wi, .int ik, .ref (a 3), .int th, .ref (a 4), .ref (a 5), .ref (a 6), .ref (a 7), .ref (a 8), .ref (a 9)]) (v := .int (nI (pn + 1))) tyX1 tyX1_ok nmX1 Z hin X (ci := 1) (C := RX1) (T := TX1) (N := 17) rfl rfl 3 (by decide) lk_X1_puts_70 rfl (by decide +kernel) rfl rfl (Nat.le_of_ble_eq_true rfl) dX1_puts_21 (fun H locs X => ?_)
  have X : zh g A (oM g a (bk, nI (pn + 1), hd, ph, ot, wi, ik, th, (upd P sq (nI pc)), (upd O pc (1 : Int32)), K, kd, lf, ch, be, gi, mr)) s.heap H locs := X
  exact zretv Z hr hlk (bk, nI (pn + 1), hd, ph, ot, wi, ik, th, (upd P sq (nI pc)), (upd O pc (1 : Int32)), K, kd, lf, ch, be, gi, mr) X dX1_puts_24 (rfl)
