/-! the twin: playing, lines, what wins -/
theorem upd_uu {f : Nat → Int32} {k : Nat} {x y : Int32} : upd (upd f k x) k y = upd f k y := by
  funext j
  unfold upd
  split <;> rfl
theorem upd_id {f : Nat → Int32} {k : Nat} {y : Int32} (h : f k = y) : upd f k y = f := by
  funext j
  unfold upd
  split
  · rename_i e; rw [e, h]
  · rfl
theorem upd_back {f : Nat → Int32} {k : Nat} {x y : Int32} (h : f k = y) : upd (upd f k x) k y = f := by rw [upd_uu, upd_id h]
def filN (f : Nat → Int32) (v : Int32) (n : Nat) : Nat → Int32 := fun j => if j < n then v else f j
theorem filN_0 (f : Nat → Int32) (v : Int32) : filN f v 0 = f := by funext j; simp [filN]
theorem filN_s (f : Nat → Int32) (v : Int32) (n : Nat) : upd (filN f v n) n v = filN f v (n + 1) := by
  funext j
  unfold upd filN
  by_cases h : j = n
  · rw [if_pos h, if_pos (by omega)]
  · rw [if_neg h]
    by_cases h2 : j < n
    · rw [if_pos h2, if_pos (by omega)]
    · rw [if_neg h2, if_neg (by omega)]
def cpN (f p : Nat → Int32) (n : Nat) : Nat → Int32 := fun j => if j < n then p j else f j
theorem cpN_0 (f p : Nat → Int32) : cpN f p 0 = f := by funext j; simp [cpN]
theorem cpN_s (f p : Nat → Int32) (n : Nat) : upd (cpN f p n) n (p n) = cpN f p (n + 1) := by
  funext j
  unfold upd cpN
  by_cases h : j = n
  · rw [if_pos h, if_pos (by omega), h]
  · rw [if_neg h]
    by_cases h2 : j < n
    · rw [if_pos h2, if_pos (by omega)]
    · rw [if_neg h2, if_neg (by omega)]
theorem mIn_of {v : Int32} {n : Nat} (hn : n < 2 ^ 31) (h : mIn v (nI n) = true) : v = nI v.toNatClampNeg ∧ v.toNatClampNeg < n := by
  simp only [mIn, Bool.and_eq_true, decide_eq_true_eq] at h
  exact ⟨zclamp h.1, zclamp_lt h.1 hn (Int32.not_le.mpr h.2)⟩
theorem mIn_16 {v : Int32} (h : mIn v 16 = true) : v = nI v.toNatClampNeg ∧ v.toNatClampNeg < 16 := mIn_of (n := 16) (by decide) h
theorem mIn_q (v : Int32) : mIn v 16 = qNum v := by
  have h : decide (v < 16) = decide (¬ (16 : Int32) ≤ v) := by
    by_cases h : v < 16
    · rw [decide_eq_true h, decide_eq_true (Int32.not_le.mpr h)]
    · rw [decide_eq_false h, decide_eq_false (fun q => h (Int32.not_le.mp q))]
  unfold mIn qNum
  rw [h]
def mWins (w : Int32) (P : Nat → Int32) (p s : Nat) : Bool := decide (P s = -1) && decide (0 < mWon w (upd P s (nI p)) s)
def mWinS (w : Int32) (P : Nat → Int32) (p : Nat) : Nat → Int32
  | 0 => 0
  | k + 1 => mWinS w P p k ||| (if mWins w P p k = true then (1 : Int32) <<< (nI k &&& 31) else 0)
def mSafS (w : Int32) (P O : Nat → Int32) : Nat → Int32
  | 0 => 0
  | k + 1 => mSafS w P O k ||| (if O k = 0 ∧ mWinS w P k 16 = 0 then (1 : Int32) <<< (nI k &&& 31) else 0)
theorem nI_succ_sub (n : Nat) : nI (n + 1) - nI 1 = nI n := pk_sub (Nat.le_add_left 1 n)
theorem inw_X1_takes : ∀ w ∈ wsX10, w ∈ wsX1_takes := by decide +kernel
theorem lk_X1_takes_13 : Cond.fieldLink RX1 13 "QuarterboardModel" "isOn" "[Z" ∈ wsX1_takes := by decide +kernel
theorem lk_X1_takes_7 : Cond.fieldLink RX1 7 "QuarterboardModel" "piece" "[I" ∈ wsX1_takes := by decide +kernel
theorem lk_X1_takes_70 : Cond.fieldLink RX1 70 "QuarterboardModel" "placed" "I" ∈ wsX1_takes := by decide +kernel
def P_X1_takes (bk : Int32) (pn : Nat) (hd ph ot wi ik th : Int32) (P O K kd lf ch be gi mr : Nat → Int32) (sq pc : Nat) : MS → Prop := fun u => u = (bk, nI pn, hd, ph, ot, wi, ik, th, (upd P sq (-1)), (upd O pc 0), K, kd, lf, ch, be, gi, mr)
set_option maxHeartbeats 4000000 in
set_option maxRecDepth 100000 in
theorem c_X1_takes (l : Launch) (g : zG) (a : Nat → Nat) (bk : Int32) (pn : Nat) (hd ph ot wi ik th : Int32) (P O K kd lf ch be gi mr : Nat → Int32) (sq : Nat) (pc : Nat) (hsq : sq < 16) (hpc : pc < 16) (hP : P sq = nI pc) : zM l yX1_takes wsX1_takes 0 0 g [.ref (a 0), .int (nI sq)] (oM g a (bk, nI (pn + 1), hd, ph, ot, wi, ik, th, P, O, K, kd, lf, ch, be, gi, mr)) zE0 (zQv g (P_X1_takes bk pn hd ph ot wi ik th P O K kd lf ch be gi mr sq pc) (oM g a)) := by
  refine zstart (cc := cX1_takes) (maxL := 2) (ret := none) (own := RX1) rfl (by decide) rfl zSt0 (Nat.le_of_ble_eq_true rfl) ?_
  intro p e s m below meth c A Z hr hlk H locs X ls hl
  have hx := Z.1.1
  have hb := Z.1.2.1
  have hin : ∀ w ∈ wsX10, w ∈ wsX1_takes := inw_X1_takes
  have hl : lv_has ls 2 [(0, .ref (a 0)), (1, .int (nI sq))] := hl
  have X : zh g A (oM g a (bk, nI (pn + 1), hd, ph, ot, wi, ik, th, P, O, K, kd, lf, ch, be, gi, mr)) s.heap H locs := X
  refine lv_aload_n hx hb dX1_takes_0 rfl (lv_at hl 0 rfl) ?_
  refine zget (fs := [.int bk, .ref (a 1), .ref (a 2), .int (nI (pn + 1)), .int hd, .int ph, .int ot, .int wi, .int ik, .ref (a 3), .int th, .ref (a 4), .ref (a 5), .ref (a 6), .ref (a 7), .ref (a 8), .ref (a 9)]) (v := .ref (a 2)) Z hin X (ci := 1) (C := RX1) (T := TX1) (N := 17) rfl rfl 2 (by decide) lk_X1_takes_13 rfl dX1_takes_1 ?_
  refine lv_aload_n hx hb dX1_takes_4 rfl (lv_at hl 0 rfl) ?_
  refine zget (fs := [.int bk, .ref (a 1), .ref (a 2), .int (nI (pn + 1)), .int hd, .int ph, .int ot, .int wi, .int ik, .ref (a 3), .int th, .ref (a 4), .ref (a 5), .ref (a 6), .ref (a 7), .ref (a 8), .ref (a 9)]) (v := .ref (a 1)) Z hin X (ci := 1) (C := RX1) (T := TX1) (N := 17) rfl rfl 1 (by decide) lk_X1_takes_7 rfl dX1_takes_5 ?_
  refine lv_iload_n hx hb dX1_takes_8 rfl (lv_at hl 1 rfl) ?_
  refine zald (q0 := 1) (n := 16) (f := P) Z X rfl rfl sq rfl (by omega) (by decide) dX1_takes_9 ?_
  refine lv_iconst (v := (0 : Int32)) hx hb dX1_takes_10 (by decide) ?_
  refine zbst (q0 := 2) (n := 16) (f := O) Z X rfl rfl pc hP (by omega) (by decide) rfl dX1_takes_11 (fun H locs X => ?_)
  have X : zh g A (oM g a (bk, nI (pn + 1), hd, ph, ot, wi, ik, th, P, (upd O pc (0 : Int32)), K, kd, lf, ch, be, gi, mr)) s.heap H locs := X
  refine lv_aload_n hx hb dX1_takes_12 rfl (lv_at hl 0 rfl) ?_
  refine zget (fs := [.int bk, .ref (a 1), .ref (a 2), .int (nI (pn + 1)), .int hd, .int ph, .int ot, .int wi, .int ik, .ref (a 3), .int th, .ref (a 4), .ref (a 5), .ref (a 6), .ref (a 7), .ref (a 8), .ref (a 9)]) (v := .ref (a 1)) Z hin X (ci := 1) (C := RX1) (T := TX1) (N := 17) rfl rfl 1 (by decide) lk_X1_takes_7 rfl dX1_takes_13 ?_
  refine lv_iload_n hx hb dX1_takes_16 rfl (lv_at hl 1 rfl) ?_
  refine lv_iconst (v := (-1 : Int32)) hx hb dX1_takes_17 (by decide) ?_
  refine zast (q0 := 1) (n := 16) (f := P) Z X rfl rfl sq rfl (by omega) (by decide) dX1_takes_18 (fun H locs X => ?_)
  have X : zh g A (oM g a (bk, nI (pn + 1), hd, ph, ot, wi, ik, th, (upd P sq (-1 : Int32)), (upd O pc (0 : Int32)), K, kd, lf, ch, be, gi, mr)) s.heap H locs := X
  refine lv_aload_n hx hb dX1_takes_19 rfl (lv_at hl 0 rfl) ?_
  refine lv_dup hx hb dX1_takes_20 rfl ?_
  refine zget (fs := [.int bk, .ref (a 1), .ref (a 2), .int (nI (pn + 1)), .int hd, .int ph, .int ot, .int wi, .int ik, .ref (a 3), .int th, .ref (a 4), .ref (a 5), .ref (a 6), .ref (a 7), .ref (a 8), .ref (a 9)]) (v := .int (nI (pn + 1))) Z hin X (ci := 1) (C := RX1) (T := TX1) (N := 17) rfl rfl 3 (by decide) lk_X1_takes_70 rfl dX1_takes_21 ?_
  refine lv_iconst (v := (1 : Int32)) hx hb dX1_takes_24 (by decide) ?_
  refine lv_isub hx hb dX1_takes_25 ?_
  refine zrwi (y := nI pn) (nI_succ_sub pn) ?_
  refine zput (ty := .int) (fs := [.int bk, .ref (a 1), .ref (a 2), .int (nI (pn + 1)), .int hd, .int ph, .int ot, .int wi, .int ik, .ref (a 3), .int th, .ref (a 4), .ref (a 5), .ref (a 6), .ref (a 7), .ref (a 8), .ref (a 9)]) (v := .int (nI pn)) tyX1 tyX1_ok nmX1 Z hin X (ci := 1) (C := RX1) (T := TX1) (N := 17) rfl rfl 3 (by decide) lk_X1_takes_70 rfl (by decide +kernel) rfl rfl (Nat.le_of_ble_eq_true rfl) dX1_takes_26 (fun H locs X => ?_)
  have X : zh g A (oM g a (bk, nI pn, hd, ph, ot, wi, ik, th, (upd P sq (-1 : Int32)), (upd O pc (0 : Int32)), K, kd, lf, ch, be, gi, mr)) s.heap H locs := X
  exact zretv Z hr hlk (bk, nI pn, hd, ph, ot, wi, ik, th, (upd P sq (-1 : Int32)), (upd O pc (0 : Int32)), K, kd, lf, ch, be, gi, mr) X dX1_takes_29 (rfl)
theorem inw_X1_wins : ∀ w ∈ wsX10, w ∈ wsX1_wins := by decide +kernel
theorem lk_X1_wins_7 : Cond.fieldLink RX1 7 "QuarterboardModel" "piece" "[I" ∈ wsX1_wins := by decide +kernel
def P_X1_wins (bk : Int32) (pn : Nat) (hd ph ot wi ik th : Int32) (P O K kd lf ch be gi mr : Nat → Int32) (pc : Nat) (sq : Nat) : Int32 → MS → Prop := fun r u => u = (bk, nI pn, hd, ph, ot, wi, ik, th, P, O, K, kd, lf, ch, be, gi, mr) ∧ r = zb (mWins bk P pc sq)
set_option maxHeartbeats 4000000 in
set_option maxRecDepth 100000 in
theorem c_X1_wins (l : Launch) (g : zG) (a : Nat → Nat) (bk : Int32) (pn : Nat) (hd ph ot wi ik th : Int32) (P O K kd lf ch be gi mr : Nat → Int32) (pc : Nat) (sq : Nat) (hpc : pc < 16) (hsq : sq < 16) (hpn : pn < 1000) (hO : O pc = 0) : zM l yX1_wins wsX1_wins 3 180 g [.ref (a 0), .int (nI pc), .int (nI sq)] (oM g a (bk, nI pn, hd, ph, ot, wi, ik, th, P, O, K, kd, lf, ch, be, gi, mr)) zE0 (zQi g (P_X1_wins bk pn hd ph ot wi ik th P O K kd lf ch be gi mr pc sq) (oM g a)) := by
  refine zstart (cc := cX1_wins) (maxL := 4) (ret := (some .boolean)) (own := RX1) rfl (by decide) rfl zSt0 (Nat.le_of_ble_eq_true rfl) ?_
  intro p e s m below meth c A Z hr hlk H locs X ls hl
  have hx := Z.1.1
  have hb := Z.1.2.1
  have hin : ∀ w ∈ wsX10, w ∈ wsX1_wins := inw_X1_wins
  have hl : lv_has ls 4 [(0, .ref (a 0)), (1, .int (nI pc)), (2, .int (nI sq))] := hl
  have X : zh g A (oM g a (bk, nI pn, hd, ph, ot, wi, ik, th, P, O, K, kd, lf, ch, be, gi, mr)) s.heap H locs := X
  refine lv_aload_n hx hb dX1_wins_0 rfl (lv_at hl 0 rfl) ?_
  refine zget (fs := [.int bk, .ref (a 1), .ref (a 2), .int (nI pn), .int hd, .int ph, .int ot, .int wi, .int ik, .ref (a 3), .int th, .ref (a 4), .ref (a 5), .ref (a 6), .ref (a 7), .ref (a 8), .ref (a 9)]) (v := .ref (a 1)) Z hin X (ci := 1) (C := RX1) (T := TX1) (N := 17) rfl rfl 1 (by decide) lk_X1_wins_7 rfl dX1_wins_1 ?_
  refine lv_iload_n hx hb dX1_wins_4 rfl (lv_at hl 2 rfl) ?_
  refine zald (q0 := 1) (n := 16) (f := P) Z X rfl rfl sq rfl (by omega) (by decide) dX1_wins_5 ?_
  refine lv_iconst (v := (-1 : Int32)) hx hb dX1_wins_6 (by decide) ?_
  refine lv_icmp_eq (tgt := 12) hx hb dX1_wins_7 (by decide) (fun c1 => ?_) (fun c1 => ?_)
  · have qc1 := c1
    have hm1 : P sq = -1 := c1
    refine lv_aload_n hx hb dX1_wins_12 rfl (lv_at hl 0 rfl) ?_
    refine lv_iload_n hx hb dX1_wins_13 rfl (lv_at hl 2 rfl) ?_
    refine lv_iload_n hx hb dX1_wins_14 rfl (lv_at hl 1 rfl) ?_
    refine zcallVv (n := 2) (As := [.int (nI sq), .int (nI pc)]) (rest := []) (ci := 1) (C := RX1) (T := TX1) (N := 17) Z X (c_X1_puts l g a bk pn hd ph ot wi ik th P O K kd lf ch be gi mr sq pc (by omega) (by omega)) gX1_wins_X1_puts rfl (by decide +kernel) ⟨Nat.le_of_ble_eq_true rfl, Nat.le_of_ble_eq_true rfl⟩ rfl rfl rfl rfl hl.1 (Nat.le_of_ble_eq_true rfl) dX1_wins_15 ⟨Nat.zero_le _, Nat.zero_le _⟩ (fun ur1 H locs hrr1 X => ?_)
    obtain rfl : ur1 = (bk, nI (pn + 1), hd, ph, ot, wi, ik, th, upd P sq (nI pc), upd O pc 1, K, kd, lf, ch, be, gi, mr) := hrr1
    have X : zh g A (oM g a (bk, nI (pn + 1), hd, ph, ot, wi, ik, th, upd P sq (nI pc), upd O pc 1, K, kd, lf, ch, be, gi, mr)) s.heap H locs := X
    refine lv_aload_n hx hb dX1_wins_18 rfl (lv_at hl 0 rfl) ?_
    refine lv_iload_n hx hb dX1_wins_19 rfl (lv_at hl 2 rfl) ?_
    have hwl := mWon_le bk (upd P sq (nI pc)) sq
    refine zcallVi (n := 1) (As := [.int (nI sq)]) (rest := []) (ci := 1) (C := RX1) (T := TX1) (N := 17) Z X (c_X1_won l g a bk (pn + 1) hd ph ot wi ik th (upd P sq (nI pc)) (upd O pc 1) K kd lf ch be gi mr sq (by omega)) gX1_wins_X1_won rfl (by decide +kernel) ⟨Nat.le_of_ble_eq_true rfl, Nat.le_of_ble_eq_true rfl⟩ rfl rfl rfl rfl hl.1 (Nat.le_of_ble_eq_true rfl) dX1_wins_20 ⟨Nat.zero_le _, Nat.zero_le _⟩ (fun r2 ur2 H locs hrr2 X => ?_)
    obtain ⟨rfl, rfl⟩ : ur2 = (bk, nI (pn + 1), hd, ph, ot, wi, ik, th, upd P sq (nI pc), upd O pc 1, K, kd, lf, ch, be, gi, mr) ∧ r2 = nI (mWon bk (upd P sq (nI pc)) sq) := hrr2
    have X : zh g A (oM g a (bk, nI (pn + 1), hd, ph, ot, wi, ik, th, upd P sq (nI pc), upd O pc 1, K, kd, lf, ch, be, gi, mr)) s.heap H locs := X
    refine lv_if_le (tgt := 30) hx hb dX1_wins_23 (by decide) (fun c4 => ?_) (fun c4 => ?_)
    · have qc4 := c4
      have c4n : (mWon bk (upd P sq (nI pc)) sq) ≤ 0 := zn_let (by omega) (by omega) c4
      have hw : ¬ 0 < mWon bk (upd P sq (nI pc)) sq := by have := mWon_le bk (upd P sq (nI pc)) sq; omega
      refine lv_iconst (v := (0 : Int32)) hx hb dX1_wins_30 (by decide) ?_
      refine lv_istore_n (lv' := [(3, .int (0 : Int32)), (0, .ref (a 0)), (1, .int (nI pc)), (2, .int (nI sq))]) hx hb dX1_wins_31 rfl hl (by decide) rfl (fun ls hl => ?_)
      refine lv_aload_n hx hb dX1_wins_32 rfl (lv_at hl 1 rfl) ?_
      refine lv_iload_n hx hb dX1_wins_33 rfl (lv_at hl 3 rfl) ?_
      refine zcallVv (n := 1) (As := [.int (nI sq)]) (rest := []) (ci := 1) (C := RX1) (T := TX1) (N := 17) Z X (c_X1_takes l g a bk pn hd ph ot wi ik th (upd P sq (nI pc)) (upd O pc 1) K kd lf ch be gi mr sq pc hsq hpc pk_us) gX1_wins_X1_takes rfl (by decide +kernel) ⟨Nat.le_of_ble_eq_true rfl, Nat.le_of_ble_eq_true rfl⟩ rfl rfl rfl rfl hl.1 (Nat.le_of_ble_eq_true rfl) dX1_wins_34 ⟨Nat.zero_le _, Nat.zero_le _⟩ (fun ur4 H locs hrr4 X => ?_)
      obtain rfl : ur4 = (bk, nI pn, hd, ph, ot, wi, ik, th, (upd (upd P sq (nI pc)) sq (-1)), (upd (upd O pc 1) pc 0), K, kd, lf, ch, be, gi, mr) := hrr4
      have X : zh g A (oM g a (bk, nI pn, hd, ph, ot, wi, ik, th, (upd (upd P sq (nI pc)) sq (-1)), (upd (upd O pc 1) pc 0), K, kd, lf, ch, be, gi, mr)) s.heap H locs := X
      have X : zh g A (oM g a (bk, nI pn, hd, ph, ot, wi, ik, th, P, O, K, kd, lf, ch, be, gi, mr)) s.heap H locs := by rw [upd_back (f := P) (k := sq) hm1, upd_back (f := O) hO] at X; exact X
      refine lv_iload_n hx hb dX1_wins_37 rfl (lv_at hl 0 rfl) ?_
      exact zreti Z hr hlk (bk, nI pn, hd, ph, ot, wi, ik, th, P, O, K, kd, lf, ch, be, gi, mr) X dX1_wins_38 rfl (⟨rfl, by show _ = zb (mWins bk P pc sq); unfold mWins; rw [decide_eq_true hm1]; first | (rw [decide_eq_true hw]; rfl) | (rw [decide_eq_false hw]; rfl)⟩)
    · have qc4 := c4
      have c4n : ¬ (mWon bk (upd P sq (nI pc)) sq) ≤ 0 := zn_len (by omega) (by omega) c4
      have hw : 0 < mWon bk (upd P sq (nI pc)) sq := by have := mWon_le bk (upd P sq (nI pc)) sq; omega
      refine lv_iconst (v := (1 : Int32)) hx hb dX1_wins_26 (by decide) ?_
      refine lv_goto (tgt := 31) hx hb dX1_wins_27 (by decide) ?_
      refine lv_istore_n (lv' := [(3, .int (1 : Int32)), (0, .ref (a 0)), (1, .int (nI pc)), (2, .int (nI sq))]) hx hb dX1_wins_31 rfl hl (by decide) rfl (fun ls hl => ?_)
      refine lv_aload_n hx hb dX1_wins_32 rfl (lv_at hl 1 rfl) ?_
      refine lv_iload_n hx hb dX1_wins_33 rfl (lv_at hl 3 rfl) ?_
      refine zcallVv (n := 1) (As := [.int (nI sq)]) (rest := []) (ci := 1) (C := RX1) (T := TX1) (N := 17) Z X (c_X1_takes l g a bk pn hd ph ot wi ik th (upd P sq (nI pc)) (upd O pc 1) K kd lf ch be gi mr sq pc hsq hpc pk_us) gX1_wins_X1_takes rfl (by decide +kernel) ⟨Nat.le_of_ble_eq_true rfl, Nat.le_of_ble_eq_true rfl⟩ rfl rfl rfl rfl hl.1 (Nat.le_of_ble_eq_true rfl) dX1_wins_34 ⟨Nat.zero_le _, Nat.zero_le _⟩ (fun ur5 H locs hrr5 X => ?_)
      obtain rfl : ur5 = (bk, nI pn, hd, ph, ot, wi, ik, th, (upd (upd P sq (nI pc)) sq (-1)), (upd (upd O pc 1) pc 0), K, kd, lf, ch, be, gi, mr) := hrr5
      have X : zh g A (oM g a (bk, nI pn, hd, ph, ot, wi, ik, th, (upd (upd P sq (nI pc)) sq (-1)), (upd (upd O pc 1) pc 0), K, kd, lf, ch, be, gi, mr)) s.heap H locs := X
      have X : zh g A (oM g a (bk, nI pn, hd, ph, ot, wi, ik, th, P, O, K, kd, lf, ch, be, gi, mr)) s.heap H locs := by rw [upd_back (f := P) (k := sq) hm1, upd_back (f := O) hO] at X; exact X
      refine lv_iload_n hx hb dX1_wins_37 rfl (lv_at hl 0 rfl) ?_
      exact zreti Z hr hlk (bk, nI pn, hd, ph, ot, wi, ik, th, P, O, K, kd, lf, ch, be, gi, mr) X dX1_wins_38 rfl (⟨rfl, by show _ = zb (mWins bk P pc sq); unfold mWins; rw [decide_eq_true hm1]; first | (rw [decide_eq_true hw]; rfl) | (rw [decide_eq_false hw]; rfl)⟩)
  · have qc1 := c1
    have hm1 : ¬ P sq = -1 := c1
    refine lv_iconst (v := (0 : Int32)) hx hb dX1_wins_10 (by decide) ?_
    exact zreti Z hr hlk (bk, nI pn, hd, ph, ot, wi, ik, th, P, O, K, kd, lf, ch, be, gi, mr) X dX1_wins_11 rfl (⟨rfl, by show (0 : Int32) = zb (mWins bk P pc sq); unfold mWins; rw [decide_eq_false hm1]; rfl⟩)
theorem inw_X1_winners : ∀ w ∈ wsX10, w ∈ wsX1_winners := by decide +kernel
def P_X1_winners (bk : Int32) (pn : Nat) (hd ph ot wi ik th : Int32) (P O K kd lf ch be gi mr : Nat → Int32) (pc : Nat) : Int32 → MS → Prop := fun r u => u = (bk, nI pn, hd, ph, ot, wi, ik, th, P, O, K, kd, lf, ch, be, gi, mr) ∧ r = mWinS bk P pc 16
set_option maxHeartbeats 4000000 in
set_option maxRecDepth 100000 in
theorem c_X1_winners (l : Launch) (g : zG) (a : Nat → Nat) (bk : Int32) (pn : Nat) (hd ph ot wi ik th : Int32) (P O K kd lf ch be gi mr : Nat → Int32) (pc : Nat) (hpc : pc < 16) (hpn : pn < 1000) (hO : O pc = 0) : zM l yX1_winners wsX1_winners 4 240 g [.ref (a 0), .int (nI pc)] (oM g a (bk, nI pn, hd, ph, ot, wi, ik, th, P, O, K, kd, lf, ch, be, gi, mr)) zE0 (zQi g (P_X1_winners bk pn hd ph ot wi ik th P O K kd lf ch be gi mr pc) (oM g a)) := by
  refine zstart (cc := cX1_winners) (maxL := 4) (ret := (some .int)) (own := RX1) rfl (by decide) rfl zSt0 (Nat.le_of_ble_eq_true rfl) ?_
  intro p e s m below meth c A Z hr hlk H locs X ls hl
  have hx := Z.1.1
  have hb := Z.1.2.1
  have hin : ∀ w ∈ wsX10, w ∈ wsX1_winners := inw_X1_winners
  have hl : lv_has ls 4 [(0, .ref (a 0)), (1, .int (nI pc))] := hl
  have X : zh g A (oM g a (bk, nI pn, hd, ph, ot, wi, ik, th, P, O, K, kd, lf, ch, be, gi, mr)) s.heap H locs := X
  refine lv_iconst (v := (0 : Int32)) hx hb dX1_winners_0 (by decide) ?_
  refine lv_istore_n (lv' := [(2, .int (0 : Int32)), (0, .ref (a 0)), (1, .int (nI pc))]) hx hb dX1_winners_1 rfl hl (by decide) rfl (fun ls hl => ?_)
  refine lv_iconst (v := (0 : Int32)) hx hb dX1_winners_2 (by decide) ?_
  refine lv_istore_n (lv' := [(3, .int (0 : Int32)), (2, .int (0 : Int32)), (0, .ref (a 0)), (1, .int (nI pc))]) hx hb dX1_winners_3 rfl hl (by decide) rfl (fun ls hl => ?_)
  have cut4 : ∀ (n4 : Nat), ∀ (k : Nat) (acc : Int32), (k ≤ 16) → (acc = mWinS bk P pc k) → (17 - k ≤ n4) → ∀ (H : Heap) (locs : List Loc) (ls : Array Slot), zh g A (oM g a (bk, nI pn, hd, ph, ot, wi, ik, th, P, O, K, kd, lf, ch, be, gi, mr)) s.heap H locs → lv_has ls 4 [(3, .int (nI k)), (2, .int acc), (0, .ref (a 0)), (1, .int (nI pc))] → W p l e { frames := 4, cells := 0, slots := 0, locals := 240 } s m ([.ref (a 0), .int (nI pc)] : List Value).toArray below meth c H locs 0 0 (MQ below ((zQi g (P_X1_winners bk pn hd ph ot wi ik th P O K kd lf ch be gi mr pc) (oM g a)) A) ([.ref (a 0), .int (nI pc)] : List Value).toArray s 0 0 A) (F0 m 4 ls []) := by
    intro n4
    induction n4 with
    | zero =>
      intro k acc hk hacc hm4
      exact absurd hm4 (by omega)
    | succ n4 ih4 =>
      intro k acc hk hacc hm4 H locs ls X hl
      refine lv_iload_n hx hb dX1_winners_4 rfl (lv_at hl 0 rfl) ?_
      refine lv_bipush (v := (16 : Int32)) hx hb dX1_winners_5 (by decide) ?_
      refine lv_icmp_ge (tgt := 35) hx hb dX1_winners_7 (by decide) (fun c1 => ?_) (fun c1 => ?_)
      · have qc1 := c1
        have c1n : 16 ≤ k := zn_let (by omega) (by omega) c1
        refine lv_iload_n hx hb dX1_winners_35 rfl (lv_at hl 1 rfl) ?_
        exact zreti Z hr hlk (bk, nI pn, hd, ph, ot, wi, ik, th, P, O, K, kd, lf, ch, be, gi, mr) X dX1_winners_36 rfl (⟨rfl, by rw [hacc, show k = 16 by omega]⟩)
      · have qc1 := c1
        have c1n : ¬ 16 ≤ k := zn_len (by omega) (by omega) c1
        refine lv_iload_n hx hb dX1_winners_10 rfl (lv_at hl 1 rfl) ?_
        refine lv_aload_n hx hb dX1_winners_11 rfl (lv_at hl 2 rfl) ?_
        refine lv_iload_n hx hb dX1_winners_12 rfl (lv_at hl 3 rfl) ?_
        refine lv_iload_n hx hb dX1_winners_13 rfl (lv_at hl 0 rfl) ?_
        refine zcallVi (n := 2) (As := [.int (nI pc), .int (nI k)]) (rest := [.int acc]) (ci := 1) (C := RX1) (T := TX1) (N := 17) Z X (c_X1_wins l g a bk pn hd ph ot wi ik th P O K kd lf ch be gi mr pc k hpc (by omega) hpn hO) gX1_winners_X1_wins rfl (by decide +kernel) ⟨Nat.le_of_ble_eq_true rfl, Nat.le_of_ble_eq_true rfl⟩ rfl rfl rfl rfl hl.1 (Nat.le_of_ble_eq_true rfl) dX1_winners_14 ⟨Nat.zero_le _, Nat.zero_le _⟩ (fun r1 ur1 H locs hrr1 X => ?_)
        obtain ⟨rfl, rfl⟩ : ur1 = (bk, nI pn, hd, ph, ot, wi, ik, th, P, O, K, kd, lf, ch, be, gi, mr) ∧ r1 = zb (mWins bk P pc k) := hrr1
        have X : zh g A (oM g a (bk, nI pn, hd, ph, ot, wi, ik, th, P, O, K, kd, lf, ch, be, gi, mr)) s.heap H locs := X
        refine lv_if_eq (tgt := 26) hx hb dX1_winners_17 (by decide) (fun c3 => ?_) (fun c3 => ?_)
        · have qc3 := c3
          have hw : mWins bk P pc k = false := zb_0.mp c3
          refine lv_iconst (v := (0 : Int32)) hx hb dX1_winners_26 (by decide) ?_
          refine lv_ior hx hb dX1_winners_27 ?_
          refine lv_topi (fun x4 ex4 => ?_)
          refine lv_istore_n (lv' := [(2, .int x4), (3, .int (nI k)), (0, .ref (a 0)), (1, .int (nI pc))]) hx hb dX1_winners_28 rfl hl (by decide) rfl (fun ls hl => ?_)
          refine lv_iinc (v := nI (k + 1)) (lv' := [(3, .int (nI (k + 1))), (2, .int x4), (0, .ref (a 0)), (1, .int (nI pc))]) hx hb dX1_winners_29 hl (k := 1) rfl (zi_inc k) (by decide) rfl (fun ls hl => ?_)
          refine lv_goto (tgt := 4) hx hb dX1_winners_32 (by decide) ?_
          exact ih4 (k + 1) x4 (by first | assumption | omega) (by subst ex4; rw [hacc]; simp only [mWinS, hw, decide_true, decide_false, Bool.and_true, Bool.and_false, Bool.true_and, Bool.false_and, not_true_eq_false, not_false_eq_true, Bool.not_true, Bool.not_false, if_true, if_false, and_true, true_and, and_false, false_and, Bool.false_eq_true, Bool.true_eq_false, eq_self]) (by omega) H locs ls X (lv_sub hl [0, 1, 2, 3] rfl)
        · have qc3 := c3
          have hw : mWins bk P pc k = true := zb_n0.mp c3
          refine lv_iconst (v := (1 : Int32)) hx hb dX1_winners_20 (by decide) ?_
          refine lv_iload_n hx hb dX1_winners_21 rfl (lv_at hl 0 rfl) ?_
          refine lv_ishl hx hb dX1_winners_22 ?_
          refine lv_goto (tgt := 27) hx hb dX1_winners_23 (by decide) ?_
          refine lv_ior hx hb dX1_winners_27 ?_
          refine lv_topi (fun x5 ex5 => ?_)
          refine lv_istore_n (lv' := [(2, .int x5), (3, .int (nI k)), (0, .ref (a 0)), (1, .int (nI pc))]) hx hb dX1_winners_28 rfl hl (by decide) rfl (fun ls hl => ?_)
          refine lv_iinc (v := nI (k + 1)) (lv' := [(3, .int (nI (k + 1))), (2, .int x5), (0, .ref (a 0)), (1, .int (nI pc))]) hx hb dX1_winners_29 hl (k := 1) rfl (zi_inc k) (by decide) rfl (fun ls hl => ?_)
          refine lv_goto (tgt := 4) hx hb dX1_winners_32 (by decide) ?_
          exact ih4 (k + 1) x5 (by first | assumption | omega) (by subst ex5; rw [hacc]; simp only [mWinS, hw, decide_true, decide_false, Bool.and_true, Bool.and_false, Bool.true_and, Bool.false_and, not_true_eq_false, not_false_eq_true, Bool.not_true, Bool.not_false, if_true, if_false, and_true, true_and, and_false, false_and, Bool.false_eq_true, Bool.true_eq_false, eq_self]) (by omega) H locs ls X (lv_sub hl [0, 1, 2, 3] rfl)
  exact cut4 17 0 0 (by first | assumption | omega) (rfl) (by omega) H locs ls X (lv_sub hl [0, 1, 2, 3] rfl)
theorem inw_X1_phase : ∀ w ∈ wsX10, w ∈ wsX1_phase := by decide +kernel
theorem lk_X1_phase_21 : Cond.fieldLink RX1 21 "QuarterboardModel" "phase" "I" ∈ wsX1_phase := by decide +kernel
def P_X1_phase (bk : Int32) (pn : Nat) (hd ph ot wi ik th : Int32) (P O K kd lf ch be gi mr : Nat → Int32) : Int32 → MS → Prop := fun r u => u = (bk, nI pn, hd, ph, ot, wi, ik, 0, P, O, K, kd, lf, ch, be, gi, mr) ∧ r = ph
set_option maxHeartbeats 4000000 in
set_option maxRecDepth 100000 in
theorem c_X1_phase (l : Launch) (g : zG) (a : Nat → Nat) (bk : Int32) (pn : Nat) (hd ph ot wi ik th : Int32) (P O K kd lf ch be gi mr : Nat → Int32)   : zM l yX1_phase wsX1_phase 1 60 g [.ref (a 0)] (oM g a (bk, nI pn, hd, ph, ot, wi, ik, th, P, O, K, kd, lf, ch, be, gi, mr)) zE0 (zQi g (P_X1_phase bk pn hd ph ot wi ik th P O K kd lf ch be gi mr) (oM g a)) := by
  refine zstart (cc := cX1_phase) (maxL := 1) (ret := (some .int)) (own := RX1) rfl (by decide) rfl zSt0 (Nat.le_of_ble_eq_true rfl) ?_
  intro p e s m below meth c A Z hr hlk H locs X ls hl
  have hx := Z.1.1
  have hb := Z.1.2.1
  have hin : ∀ w ∈ wsX10, w ∈ wsX1_phase := inw_X1_phase
  have hl : lv_has ls 1 [(0, .ref (a 0))] := hl
  have X : zh g A (oM g a (bk, nI pn, hd, ph, ot, wi, ik, th, P, O, K, kd, lf, ch, be, gi, mr)) s.heap H locs := X
  refine lv_aload_n hx hb dX1_phase_0 rfl (lv_at hl 0 rfl) ?_
  refine lv_aload_n hx hb dX1_phase_1 rfl (lv_at hl 0 rfl) ?_
  refine zget (fs := [.int bk, .ref (a 1), .ref (a 2), .int (nI pn), .int hd, .int ph, .int ot, .int wi, .int ik, .ref (a 3), .int th, .ref (a 4), .ref (a 5), .ref (a 6), .ref (a 7), .ref (a 8), .ref (a 9)]) (v := .int ph) Z hin X (ci := 1) (C := RX1) (T := TX1) (N := 17) rfl rfl 5 (by decide) lk_X1_phase_21 rfl dX1_phase_2 ?_
  refine zcallVi (n := 1) (As := [.int ph]) (rest := []) (ci := 1) (C := RX1) (T := TX1) (N := 17) Z X (c_X1_tells l g a bk pn hd ph ot wi ik th P O K kd lf ch be gi mr ph ) gX1_phase_X1_tells rfl (by decide +kernel) ⟨Nat.le_of_ble_eq_true rfl, Nat.le_of_ble_eq_true rfl⟩ rfl rfl rfl rfl hl.1 (Nat.le_of_ble_eq_true rfl) dX1_phase_5 ⟨Nat.zero_le _, Nat.zero_le _⟩ (fun r0 ur0 H locs hrr0 X => ?_)
  obtain ⟨rfl, her0⟩ : ur0 = (bk, nI pn, hd, ph, ot, wi, ik, 0, P, O, K, kd, lf, ch, be, gi, mr) ∧ r0 = ph := hrr0
  subst r0
  have X : zh g A (oM g a (bk, nI pn, hd, ph, ot, wi, ik, 0, P, O, K, kd, lf, ch, be, gi, mr)) s.heap H locs := X
  exact zreti Z hr hlk (bk, nI pn, hd, ph, ot, wi, ik, 0, P, O, K, kd, lf, ch, be, gi, mr) X dX1_phase_8 rfl (⟨rfl, rfl⟩)
theorem inw_X1_onTurn : ∀ w ∈ wsX10, w ∈ wsX1_onTurn := by decide +kernel
theorem lk_X1_onTurn_73 : Cond.fieldLink RX1 73 "QuarterboardModel" "onTurn" "I" ∈ wsX1_onTurn := by decide +kernel
def P_X1_onTurn (bk : Int32) (pn : Nat) (hd ph ot wi ik th : Int32) (P O K kd lf ch be gi mr : Nat → Int32) : Int32 → MS → Prop := fun r u => u = (bk, nI pn, hd, ph, ot, wi, ik, 0, P, O, K, kd, lf, ch, be, gi, mr) ∧ r = ot
set_option maxHeartbeats 4000000 in
set_option maxRecDepth 100000 in
theorem c_X1_onTurn (l : Launch) (g : zG) (a : Nat → Nat) (bk : Int32) (pn : Nat) (hd ph ot wi ik th : Int32) (P O K kd lf ch be gi mr : Nat → Int32)   : zM l yX1_onTurn wsX1_onTurn 1 60 g [.ref (a 0)] (oM g a (bk, nI pn, hd, ph, ot, wi, ik, th, P, O, K, kd, lf, ch, be, gi, mr)) zE0 (zQi g (P_X1_onTurn bk pn hd ph ot wi ik th P O K kd lf ch be gi mr) (oM g a)) := by
  refine zstart (cc := cX1_onTurn) (maxL := 1) (ret := (some .int)) (own := RX1) rfl (by decide) rfl zSt0 (Nat.le_of_ble_eq_true rfl) ?_
  intro p e s m below meth c A Z hr hlk H locs X ls hl
  have hx := Z.1.1
  have hb := Z.1.2.1
  have hin : ∀ w ∈ wsX10, w ∈ wsX1_onTurn := inw_X1_onTurn
  have hl : lv_has ls 1 [(0, .ref (a 0))] := hl
  have X : zh g A (oM g a (bk, nI pn, hd, ph, ot, wi, ik, th, P, O, K, kd, lf, ch, be, gi, mr)) s.heap H locs := X
  refine lv_aload_n hx hb dX1_onTurn_0 rfl (lv_at hl 0 rfl) ?_
  refine lv_aload_n hx hb dX1_onTurn_1 rfl (lv_at hl 0 rfl) ?_
  refine zget (fs := [.int bk, .ref (a 1), .ref (a 2), .int (nI pn), .int hd, .int ph, .int ot, .int wi, .int ik, .ref (a 3), .int th, .ref (a 4), .ref (a 5), .ref (a 6), .ref (a 7), .ref (a 8), .ref (a 9)]) (v := .int ot) Z hin X (ci := 1) (C := RX1) (T := TX1) (N := 17) rfl rfl 6 (by decide) lk_X1_onTurn_73 rfl dX1_onTurn_2 ?_
  refine zcallVi (n := 1) (As := [.int ot]) (rest := []) (ci := 1) (C := RX1) (T := TX1) (N := 17) Z X (c_X1_tells l g a bk pn hd ph ot wi ik th P O K kd lf ch be gi mr ot ) gX1_onTurn_X1_tells rfl (by decide +kernel) ⟨Nat.le_of_ble_eq_true rfl, Nat.le_of_ble_eq_true rfl⟩ rfl rfl rfl rfl hl.1 (Nat.le_of_ble_eq_true rfl) dX1_onTurn_5 ⟨Nat.zero_le _, Nat.zero_le _⟩ (fun r0 ur0 H locs hrr0 X => ?_)
  obtain ⟨rfl, her0⟩ : ur0 = (bk, nI pn, hd, ph, ot, wi, ik, 0, P, O, K, kd, lf, ch, be, gi, mr) ∧ r0 = ot := hrr0
  subst r0
  have X : zh g A (oM g a (bk, nI pn, hd, ph, ot, wi, ik, 0, P, O, K, kd, lf, ch, be, gi, mr)) s.heap H locs := X
  exact zreti Z hr hlk (bk, nI pn, hd, ph, ot, wi, ik, 0, P, O, K, kd, lf, ch, be, gi, mr) X dX1_onTurn_8 rfl (⟨rfl, rfl⟩)
theorem inw_X1_hand : ∀ w ∈ wsX10, w ∈ wsX1_hand := by decide +kernel
theorem lk_X1_hand_17 : Cond.fieldLink RX1 17 "QuarterboardModel" "hand" "I" ∈ wsX1_hand := by decide +kernel
def P_X1_hand (bk : Int32) (pn : Nat) (hd ph ot wi ik th : Int32) (P O K kd lf ch be gi mr : Nat → Int32) : Int32 → MS → Prop := fun r u => u = (bk, nI pn, hd, ph, ot, wi, ik, 0, P, O, K, kd, lf, ch, be, gi, mr) ∧ r = hd
set_option maxHeartbeats 4000000 in
set_option maxRecDepth 100000 in
theorem c_X1_hand (l : Launch) (g : zG) (a : Nat → Nat) (bk : Int32) (pn : Nat) (hd ph ot wi ik th : Int32) (P O K kd lf ch be gi mr : Nat → Int32)   : zM l yX1_hand wsX1_hand 1 60 g [.ref (a 0)] (oM g a (bk, nI pn, hd, ph, ot, wi, ik, th, P, O, K, kd, lf, ch, be, gi, mr)) zE0 (zQi g (P_X1_hand bk pn hd ph ot wi ik th P O K kd lf ch be gi mr) (oM g a)) := by
  refine zstart (cc := cX1_hand) (maxL := 1) (ret := (some .int)) (own := RX1) rfl (by decide) rfl zSt0 (Nat.le_of_ble_eq_true rfl) ?_
  intro p e s m below meth c A Z hr hlk H locs X ls hl
  have hx := Z.1.1
  have hb := Z.1.2.1
  have hin : ∀ w ∈ wsX10, w ∈ wsX1_hand := inw_X1_hand
  have hl : lv_has ls 1 [(0, .ref (a 0))] := hl
  have X : zh g A (oM g a (bk, nI pn, hd, ph, ot, wi, ik, th, P, O, K, kd, lf, ch, be, gi, mr)) s.heap H locs := X
  refine lv_aload_n hx hb dX1_hand_0 rfl (lv_at hl 0 rfl) ?_
  refine lv_aload_n hx hb dX1_hand_1 rfl (lv_at hl 0 rfl) ?_
  refine zget (fs := [.int bk, .ref (a 1), .ref (a 2), .int (nI pn), .int hd, .int ph, .int ot, .int wi, .int ik, .ref (a 3), .int th, .ref (a 4), .ref (a 5), .ref (a 6), .ref (a 7), .ref (a 8), .ref (a 9)]) (v := .int hd) Z hin X (ci := 1) (C := RX1) (T := TX1) (N := 17) rfl rfl 4 (by decide) lk_X1_hand_17 rfl dX1_hand_2 ?_
  refine zcallVi (n := 1) (As := [.int hd]) (rest := []) (ci := 1) (C := RX1) (T := TX1) (N := 17) Z X (c_X1_tells l g a bk pn hd ph ot wi ik th P O K kd lf ch be gi mr hd ) gX1_hand_X1_tells rfl (by decide +kernel) ⟨Nat.le_of_ble_eq_true rfl, Nat.le_of_ble_eq_true rfl⟩ rfl rfl rfl rfl hl.1 (Nat.le_of_ble_eq_true rfl) dX1_hand_5 ⟨Nat.zero_le _, Nat.zero_le _⟩ (fun r0 ur0 H locs hrr0 X => ?_)
  obtain ⟨rfl, her0⟩ : ur0 = (bk, nI pn, hd, ph, ot, wi, ik, 0, P, O, K, kd, lf, ch, be, gi, mr) ∧ r0 = hd := hrr0
  subst r0
  have X : zh g A (oM g a (bk, nI pn, hd, ph, ot, wi, ik, 0, P, O, K, kd, lf, ch, be, gi, mr)) s.heap H locs := X
  exact zreti Z hr hlk (bk, nI pn, hd, ph, ot, wi, ik, 0, P, O, K, kd, lf, ch, be, gi, mr) X dX1_hand_8 rfl (⟨rfl, rfl⟩)
theorem inw_X1_placed : ∀ w ∈ wsX10, w ∈ wsX1_placed := by decide +kernel
theorem lk_X1_placed_70 : Cond.fieldLink RX1 70 "QuarterboardModel" "placed" "I" ∈ wsX1_placed := by decide +kernel
def P_X1_placed (bk : Int32) (pn : Nat) (hd ph ot wi ik th : Int32) (P O K kd lf ch be gi mr : Nat → Int32) : Int32 → MS → Prop := fun r u => u = (bk, nI pn, hd, ph, ot, wi, ik, 0, P, O, K, kd, lf, ch, be, gi, mr) ∧ r = nI pn
set_option maxHeartbeats 4000000 in
set_option maxRecDepth 100000 in
theorem c_X1_placed (l : Launch) (g : zG) (a : Nat → Nat) (bk : Int32) (pn : Nat) (hd ph ot wi ik th : Int32) (P O K kd lf ch be gi mr : Nat → Int32)   : zM l yX1_placed wsX1_placed 1 60 g [.ref (a 0)] (oM g a (bk, nI pn, hd, ph, ot, wi, ik, th, P, O, K, kd, lf, ch, be, gi, mr)) zE0 (zQi g (P_X1_placed bk pn hd ph ot wi ik th P O K kd lf ch be gi mr) (oM g a)) := by
  refine zstart (cc := cX1_placed) (maxL := 1) (ret := (some .int)) (own := RX1) rfl (by decide) rfl zSt0 (Nat.le_of_ble_eq_true rfl) ?_
  intro p e s m below meth c A Z hr hlk H locs X ls hl
  have hx := Z.1.1
  have hb := Z.1.2.1
  have hin : ∀ w ∈ wsX10, w ∈ wsX1_placed := inw_X1_placed
  have hl : lv_has ls 1 [(0, .ref (a 0))] := hl
  have X : zh g A (oM g a (bk, nI pn, hd, ph, ot, wi, ik, th, P, O, K, kd, lf, ch, be, gi, mr)) s.heap H locs := X
  refine lv_aload_n hx hb dX1_placed_0 rfl (lv_at hl 0 rfl) ?_
  refine lv_aload_n hx hb dX1_placed_1 rfl (lv_at hl 0 rfl) ?_
  refine zget (fs := [.int bk, .ref (a 1), .ref (a 2), .int (nI pn), .int hd, .int ph, .int ot, .int wi, .int ik, .ref (a 3), .int th, .ref (a 4), .ref (a 5), .ref (a 6), .ref (a 7), .ref (a 8), .ref (a 9)]) (v := .int (nI pn)) Z hin X (ci := 1) (C := RX1) (T := TX1) (N := 17) rfl rfl 3 (by decide) lk_X1_placed_70 rfl dX1_placed_2 ?_
  refine zcallVi (n := 1) (As := [.int (nI pn)]) (rest := []) (ci := 1) (C := RX1) (T := TX1) (N := 17) Z X (c_X1_tells l g a bk pn hd ph ot wi ik th P O K kd lf ch be gi mr (nI pn) ) gX1_placed_X1_tells rfl (by decide +kernel) ⟨Nat.le_of_ble_eq_true rfl, Nat.le_of_ble_eq_true rfl⟩ rfl rfl rfl rfl hl.1 (Nat.le_of_ble_eq_true rfl) dX1_placed_5 ⟨Nat.zero_le _, Nat.zero_le _⟩ (fun r0 ur0 H locs hrr0 X => ?_)
  obtain ⟨rfl, rfl⟩ : ur0 = (bk, nI pn, hd, ph, ot, wi, ik, 0, P, O, K, kd, lf, ch, be, gi, mr) ∧ r0 = nI pn := hrr0
  have X : zh g A (oM g a (bk, nI pn, hd, ph, ot, wi, ik, 0, P, O, K, kd, lf, ch, be, gi, mr)) s.heap H locs := X
  exact zreti Z hr hlk (bk, nI pn, hd, ph, ot, wi, ik, 0, P, O, K, kd, lf, ch, be, gi, mr) X dX1_placed_8 rfl (⟨rfl, rfl⟩)
theorem inw_X1_winner : ∀ w ∈ wsX10, w ∈ wsX1_winner := by decide +kernel
theorem lk_X1_winner_24 : Cond.fieldLink RX1 24 "QuarterboardModel" "winner" "I" ∈ wsX1_winner := by decide +kernel
def P_X1_winner (bk : Int32) (pn : Nat) (hd ph ot wi ik th : Int32) (P O K kd lf ch be gi mr : Nat → Int32) : Int32 → MS → Prop := fun r u => u = (bk, nI pn, hd, ph, ot, wi, ik, 0, P, O, K, kd, lf, ch, be, gi, mr) ∧ r = wi
set_option maxHeartbeats 4000000 in
set_option maxRecDepth 100000 in
theorem c_X1_winner (l : Launch) (g : zG) (a : Nat → Nat) (bk : Int32) (pn : Nat) (hd ph ot wi ik th : Int32) (P O K kd lf ch be gi mr : Nat → Int32)   : zM l yX1_winner wsX1_winner 1 60 g [.ref (a 0)] (oM g a (bk, nI pn, hd, ph, ot, wi, ik, th, P, O, K, kd, lf, ch, be, gi, mr)) zE0 (zQi g (P_X1_winner bk pn hd ph ot wi ik th P O K kd lf ch be gi mr) (oM g a)) := by
  refine zstart (cc := cX1_winner) (maxL := 1) (ret := (some .int)) (own := RX1) rfl (by decide) rfl zSt0 (Nat.le_of_ble_eq_true rfl) ?_
  intro p e s m below meth c A Z hr hlk H locs X ls hl
  have hx := Z.1.1
  have hb := Z.1.2.1
  have hin : ∀ w ∈ wsX10, w ∈ wsX1_winner := inw_X1_winner
  have hl : lv_has ls 1 [(0, .ref (a 0))] := hl
  have X : zh g A (oM g a (bk, nI pn, hd, ph, ot, wi, ik, th, P, O, K, kd, lf, ch, be, gi, mr)) s.heap H locs := X
  refine lv_aload_n hx hb dX1_winner_0 rfl (lv_at hl 0 rfl) ?_
  refine lv_aload_n hx hb dX1_winner_1 rfl (lv_at hl 0 rfl) ?_
  refine zget (fs := [.int bk, .ref (a 1), .ref (a 2), .int (nI pn), .int hd, .int ph, .int ot, .int wi, .int ik, .ref (a 3), .int th, .ref (a 4), .ref (a 5), .ref (a 6), .ref (a 7), .ref (a 8), .ref (a 9)]) (v := .int wi) Z hin X (ci := 1) (C := RX1) (T := TX1) (N := 17) rfl rfl 7 (by decide) lk_X1_winner_24 rfl dX1_winner_2 ?_
  refine zcallVi (n := 1) (As := [.int wi]) (rest := []) (ci := 1) (C := RX1) (T := TX1) (N := 17) Z X (c_X1_tells l g a bk pn hd ph ot wi ik th P O K kd lf ch be gi mr wi ) gX1_winner_X1_tells rfl (by decide +kernel) ⟨Nat.le_of_ble_eq_true rfl, Nat.le_of_ble_eq_true rfl⟩ rfl rfl rfl rfl hl.1 (Nat.le_of_ble_eq_true rfl) dX1_winner_5 ⟨Nat.zero_le _, Nat.zero_le _⟩ (fun r0 ur0 H locs hrr0 X => ?_)
  obtain ⟨rfl, her0⟩ : ur0 = (bk, nI pn, hd, ph, ot, wi, ik, 0, P, O, K, kd, lf, ch, be, gi, mr) ∧ r0 = wi := hrr0
  subst r0
  have X : zh g A (oM g a (bk, nI pn, hd, ph, ot, wi, ik, 0, P, O, K, kd, lf, ch, be, gi, mr)) s.heap H locs := X
  exact zreti Z hr hlk (bk, nI pn, hd, ph, ot, wi, ik, 0, P, O, K, kd, lf, ch, be, gi, mr) X dX1_winner_8 rfl (⟨rfl, rfl⟩)
theorem inw_X1_lines : ∀ w ∈ wsX10, w ∈ wsX1_lines := by decide +kernel
def P_X1_lines (bk : Int32) (pn : Nat) (hd ph ot wi ik th : Int32) (P O K kd lf ch be gi mr : Nat → Int32) : Int32 → MS → Prop := fun r u => u = (bk, nI pn, hd, ph, ot, wi, ik, 0, P, O, K, kd, lf, ch, be, gi, mr) ∧ r = nI (mMany bk)
set_option maxHeartbeats 4000000 in
set_option maxRecDepth 100000 in
theorem c_X1_lines (l : Launch) (g : zG) (a : Nat → Nat) (bk : Int32) (pn : Nat) (hd ph ot wi ik th : Int32) (P O K kd lf ch be gi mr : Nat → Int32)   : zM l yX1_lines wsX1_lines 1 60 g [.ref (a 0)] (oM g a (bk, nI pn, hd, ph, ot, wi, ik, th, P, O, K, kd, lf, ch, be, gi, mr)) zE0 (zQi g (P_X1_lines bk pn hd ph ot wi ik th P O K kd lf ch be gi mr) (oM g a)) := by
  refine zstart (cc := cX1_lines) (maxL := 1) (ret := (some .int)) (own := RX1) rfl (by decide) rfl zSt0 (Nat.le_of_ble_eq_true rfl) ?_
  intro p e s m below meth c A Z hr hlk H locs X ls hl
  have hx := Z.1.1
  have hb := Z.1.2.1
  have hin : ∀ w ∈ wsX10, w ∈ wsX1_lines := inw_X1_lines
  have hl : lv_has ls 1 [(0, .ref (a 0))] := hl
  have X : zh g A (oM g a (bk, nI pn, hd, ph, ot, wi, ik, th, P, O, K, kd, lf, ch, be, gi, mr)) s.heap H locs := X
  refine lv_aload_n hx hb dX1_lines_0 rfl (lv_at hl 0 rfl) ?_
  refine lv_aload_n hx hb dX1_lines_1 rfl (lv_at hl 0 rfl) ?_
  refine zcallVi (n := 0) (As := []) (rest := [.ref (a 0)]) (ci := 1) (C := RX1) (T := TX1) (N := 17) Z X (c_X1_many l g a bk pn hd ph ot wi ik th P O K kd lf ch be gi mr  ) gX1_lines_X1_many rfl (by decide +kernel) ⟨Nat.le_of_ble_eq_true rfl, Nat.le_of_ble_eq_true rfl⟩ rfl rfl rfl rfl hl.1 (Nat.le_of_ble_eq_true rfl) dX1_lines_2 ⟨Nat.zero_le _, Nat.zero_le _⟩ (fun r0 ur0 H locs hrr0 X => ?_)
  obtain ⟨rfl, rfl⟩ : ur0 = (bk, nI pn, hd, ph, ot, wi, ik, th, P, O, K, kd, lf, ch, be, gi, mr) ∧ r0 = nI (mMany bk) := hrr0
  have X : zh g A (oM g a (bk, nI pn, hd, ph, ot, wi, ik, th, P, O, K, kd, lf, ch, be, gi, mr)) s.heap H locs := X
  refine zcallVi (n := 1) (As := [.int (nI (mMany bk))]) (rest := []) (ci := 1) (C := RX1) (T := TX1) (N := 17) Z X (c_X1_tells l g a bk pn hd ph ot wi ik th P O K kd lf ch be gi mr (nI (mMany bk)) ) gX1_lines_X1_tells rfl (by decide +kernel) ⟨Nat.le_of_ble_eq_true rfl, Nat.le_of_ble_eq_true rfl⟩ rfl rfl rfl rfl hl.1 (Nat.le_of_ble_eq_true rfl) dX1_lines_5 ⟨Nat.zero_le _, Nat.zero_le _⟩ (fun r1 ur1 H locs hrr1 X => ?_)
  obtain ⟨rfl, rfl⟩ : ur1 = (bk, nI pn, hd, ph, ot, wi, ik, 0, P, O, K, kd, lf, ch, be, gi, mr) ∧ r1 = nI (mMany bk) := hrr1
  have X : zh g A (oM g a (bk, nI pn, hd, ph, ot, wi, ik, 0, P, O, K, kd, lf, ch, be, gi, mr)) s.heap H locs := X
  exact zreti Z hr hlk (bk, nI pn, hd, ph, ot, wi, ik, 0, P, O, K, kd, lf, ch, be, gi, mr) X dX1_lines_8 rfl (⟨rfl, rfl⟩)
theorem inw_X1_begin : ∀ w ∈ wsX10, w ∈ wsX1_begin := by decide +kernel
theorem lk_X1_begin_48 : Cond.fieldLink RX1 48 "QuarterboardModel" "thrown" "I" ∈ wsX1_begin := by decide +kernel
theorem lk_X1_begin_70 : Cond.fieldLink RX1 70 "QuarterboardModel" "placed" "I" ∈ wsX1_begin := by decide +kernel
theorem lk_X1_begin_51 : Cond.fieldLink RX1 51 "QuarterboardModel" "hasBlocks" "Z" ∈ wsX1_begin := by decide +kernel
theorem lk_X1_begin_7 : Cond.fieldLink RX1 7 "QuarterboardModel" "piece" "[I" ∈ wsX1_begin := by decide +kernel
theorem lk_X1_begin_13 : Cond.fieldLink RX1 13 "QuarterboardModel" "isOn" "[Z" ∈ wsX1_begin := by decide +kernel
theorem lk_X1_begin_17 : Cond.fieldLink RX1 17 "QuarterboardModel" "hand" "I" ∈ wsX1_begin := by decide +kernel
theorem lk_X1_begin_21 : Cond.fieldLink RX1 21 "QuarterboardModel" "phase" "I" ∈ wsX1_begin := by decide +kernel
theorem lk_X1_begin_73 : Cond.fieldLink RX1 73 "QuarterboardModel" "onTurn" "I" ∈ wsX1_begin := by decide +kernel
theorem lk_X1_begin_24 : Cond.fieldLink RX1 24 "QuarterboardModel" "winner" "I" ∈ wsX1_begin := by decide +kernel
def P_X1_begin (bk : Int32) (pn : Nat) (hd ph ot wi ik th : Int32) (P O K kd lf ch be gi mr : Nat → Int32) (bb : Bool) : Int32 → MS → Prop := fun r u => u = (zb bb, nI 0, -1, 0, 0, -1, ik, 0, (filN P (-1) 16), (filN O 0 16), K, kd, lf, ch, be, gi, mr) ∧ r = nI pn
set_option maxHeartbeats 4000000 in
set_option maxRecDepth 100000 in
theorem c_X1_begin (l : Launch) (g : zG) (a : Nat → Nat) (bk : Int32) (pn : Nat) (hd ph ot wi ik th : Int32) (P O K kd lf ch be gi mr : Nat → Int32)  (bb : Bool) : zM l yX1_begin wsX1_begin 0 0 g [.ref (a 0), .int (zb bb)] (oM g a (bk, nI pn, hd, ph, ot, wi, ik, th, P, O, K, kd, lf, ch, be, gi, mr)) zE0 (zQi g (P_X1_begin bk pn hd ph ot wi ik th P O K kd lf ch be gi mr bb) (oM g a)) := by
  refine zstart (cc := cX1_begin) (maxL := 4) (ret := (some .int)) (own := RX1) rfl (by decide) rfl zSt0 (Nat.le_of_ble_eq_true rfl) ?_
  intro p e s m below meth c A Z hr hlk H locs X ls hl
  have hx := Z.1.1
  have hb := Z.1.2.1
  have hin : ∀ w ∈ wsX10, w ∈ wsX1_begin := inw_X1_begin
  have hl : lv_has ls 4 [(0, .ref (a 0)), (1, .int (zb bb))] := hl
  have X : zh g A (oM g a (bk, nI pn, hd, ph, ot, wi, ik, th, P, O, K, kd, lf, ch, be, gi, mr)) s.heap H locs := X
  refine lv_aload_n hx hb dX1_begin_0 rfl (lv_at hl 0 rfl) ?_
  refine lv_iconst (v := (0 : Int32)) hx hb dX1_begin_1 (by decide) ?_
  refine zput (ty := .int) (fs := [.int bk, .ref (a 1), .ref (a 2), .int (nI pn), .int hd, .int ph, .int ot, .int wi, .int ik, .ref (a 3), .int th, .ref (a 4), .ref (a 5), .ref (a 6), .ref (a 7), .ref (a 8), .ref (a 9)]) (v := .int (0 : Int32)) tyX1 tyX1_ok nmX1 Z hin X (ci := 1) (C := RX1) (T := TX1) (N := 17) rfl rfl 10 (by decide) lk_X1_begin_48 rfl (by decide +kernel) rfl rfl (Nat.le_of_ble_eq_true rfl) dX1_begin_2 (fun H locs X => ?_)
  have X : zh g A (oM g a (bk, nI pn, hd, ph, ot, wi, ik, (0 : Int32), P, O, K, kd, lf, ch, be, gi, mr)) s.heap H locs := X
  refine lv_aload_n hx hb dX1_begin_5 rfl (lv_at hl 0 rfl) ?_
  refine zget (fs := [.int bk, .ref (a 1), .ref (a 2), .int (nI pn), .int hd, .int ph, .int ot, .int wi, .int ik, .ref (a 3), .int (0 : Int32), .ref (a 4), .ref (a 5), .ref (a 6), .ref (a 7), .ref (a 8), .ref (a 9)]) (v := .int (nI pn)) Z hin X (ci := 1) (C := RX1) (T := TX1) (N := 17) rfl rfl 3 (by decide) lk_X1_begin_70 rfl dX1_begin_6 ?_
  refine lv_istore_n (lv' := [(2, .int (nI pn)), (0, .ref (a 0)), (1, .int (zb bb))]) hx hb dX1_begin_9 rfl hl (by decide) rfl (fun ls hl => ?_)
  refine lv_aload_n hx hb dX1_begin_10 rfl (lv_at hl 1 rfl) ?_
  refine lv_iload_n hx hb dX1_begin_11 rfl (lv_at hl 2 rfl) ?_
  refine zput (ty := .boolean) (fs := [.int bk, .ref (a 1), .ref (a 2), .int (nI pn), .int hd, .int ph, .int ot, .int wi, .int ik, .ref (a 3), .int (0 : Int32), .ref (a 4), .ref (a 5), .ref (a 6), .ref (a 7), .ref (a 8), .ref (a 9)]) (v := .int (zb bb)) tyX1 tyX1_ok nmX1 Z hin X (ci := 1) (C := RX1) (T := TX1) (N := 17) rfl rfl 0 (by decide) lk_X1_begin_51 rfl (by decide +kernel) (zb_nar bb) (zb_fit bb) (Nat.le_of_ble_eq_true rfl) dX1_begin_12 (fun H locs X => ?_)
  have X : zh g A (oM g a (zb bb, nI pn, hd, ph, ot, wi, ik, (0 : Int32), P, O, K, kd, lf, ch, be, gi, mr)) s.heap H locs := X
  refine lv_iconst (v := (0 : Int32)) hx hb dX1_begin_15 (by decide) ?_
  refine lv_istore_n (lv' := [(3, .int (0 : Int32)), (2, .int (nI pn)), (0, .ref (a 0)), (1, .int (zb bb))]) hx hb dX1_begin_16 rfl hl (by decide) rfl (fun ls hl => ?_)
  have cut17 : ∀ (n17 : Nat), ∀ (k : Nat), (k ≤ 16) → (17 - k ≤ n17) → ∀ (H : Heap) (locs : List Loc) (ls : Array Slot), zh g A (oM g a ((zb bb), nI pn, hd, ph, ot, wi, ik, (0 : Int32), (filN P (-1) k), (filN O 0 k), K, kd, lf, ch, be, gi, mr)) s.heap H locs → lv_has ls 4 [(3, .int (nI k)), (2, .int (nI pn)), (0, .ref (a 0)), (1, .int (zb bb))] → W p l e { frames := 0, cells := 0, slots := 0, locals := 0 } s m ([.ref (a 0), .int (zb bb)] : List Value).toArray below meth c H locs 0 0 (MQ below ((zQi g (P_X1_begin bk pn hd ph ot wi ik th P O K kd lf ch be gi mr bb) (oM g a)) A) ([.ref (a 0), .int (zb bb)] : List Value).toArray s 0 0 A) (F0 m 17 ls []) := by
    intro n17
    induction n17 with
    | zero =>
      intro k hk hm17
      exact absurd hm17 (by omega)
    | succ n17 ih17 =>
      intro k hk hm17 H locs ls X hl
      refine lv_iload_n hx hb dX1_begin_17 rfl (lv_at hl 0 rfl) ?_
      refine lv_bipush (v := (16 : Int32)) hx hb dX1_begin_18 (by decide) ?_
      refine lv_icmp_ge (tgt := 43) hx hb dX1_begin_20 (by decide) (fun c1 => ?_) (fun c1 => ?_)
      · have qc1 := c1
        have c1n : 16 ≤ k := zn_let (by omega) (by omega) c1
        refine lv_aload_n hx hb dX1_begin_43 rfl (lv_at hl 2 rfl) ?_
        refine lv_iconst (v := (0 : Int32)) hx hb dX1_begin_44 (by decide) ?_
        refine zput (ty := .int) (fs := [.int (zb bb), .ref (a 1), .ref (a 2), .int (nI pn), .int hd, .int ph, .int ot, .int wi, .int ik, .ref (a 3), .int (0 : Int32), .ref (a 4), .ref (a 5), .ref (a 6), .ref (a 7), .ref (a 8), .ref (a 9)]) (v := .int (0 : Int32)) tyX1 tyX1_ok nmX1 Z hin X (ci := 1) (C := RX1) (T := TX1) (N := 17) rfl rfl 3 (by decide) lk_X1_begin_70 rfl (by decide +kernel) rfl rfl (Nat.le_of_ble_eq_true rfl) dX1_begin_45 (fun H locs X => ?_)
        have X : zh g A (oM g a ((zb bb), (0 : Int32), hd, ph, ot, wi, ik, (0 : Int32), (filN P (-1) k), (filN O 0 k), K, kd, lf, ch, be, gi, mr)) s.heap H locs := X
        refine lv_aload_n hx hb dX1_begin_48 rfl (lv_at hl 2 rfl) ?_
        refine lv_iconst (v := (-1 : Int32)) hx hb dX1_begin_49 (by decide) ?_
        refine zput (ty := .int) (fs := [.int (zb bb), .ref (a 1), .ref (a 2), .int (0 : Int32), .int hd, .int ph, .int ot, .int wi, .int ik, .ref (a 3), .int (0 : Int32), .ref (a 4), .ref (a 5), .ref (a 6), .ref (a 7), .ref (a 8), .ref (a 9)]) (v := .int (-1 : Int32)) tyX1 tyX1_ok nmX1 Z hin X (ci := 1) (C := RX1) (T := TX1) (N := 17) rfl rfl 4 (by decide) lk_X1_begin_17 rfl (by decide +kernel) rfl rfl (Nat.le_of_ble_eq_true rfl) dX1_begin_50 (fun H locs X => ?_)
        have X : zh g A (oM g a ((zb bb), (0 : Int32), (-1 : Int32), ph, ot, wi, ik, (0 : Int32), (filN P (-1) k), (filN O 0 k), K, kd, lf, ch, be, gi, mr)) s.heap H locs := X
        refine lv_aload_n hx hb dX1_begin_53 rfl (lv_at hl 2 rfl) ?_
        refine lv_iconst (v := (0 : Int32)) hx hb dX1_begin_54 (by decide) ?_
        refine zput (ty := .int) (fs := [.int (zb bb), .ref (a 1), .ref (a 2), .int (0 : Int32), .int (-1 : Int32), .int ph, .int ot, .int wi, .int ik, .ref (a 3), .int (0 : Int32), .ref (a 4), .ref (a 5), .ref (a 6), .ref (a 7), .ref (a 8), .ref (a 9)]) (v := .int (0 : Int32)) tyX1 tyX1_ok nmX1 Z hin X (ci := 1) (C := RX1) (T := TX1) (N := 17) rfl rfl 5 (by decide) lk_X1_begin_21 rfl (by decide +kernel) rfl rfl (Nat.le_of_ble_eq_true rfl) dX1_begin_55 (fun H locs X => ?_)
        have X : zh g A (oM g a ((zb bb), (0 : Int32), (-1 : Int32), (0 : Int32), ot, wi, ik, (0 : Int32), (filN P (-1) k), (filN O 0 k), K, kd, lf, ch, be, gi, mr)) s.heap H locs := X
        refine lv_aload_n hx hb dX1_begin_58 rfl (lv_at hl 2 rfl) ?_
        refine lv_iconst (v := (0 : Int32)) hx hb dX1_begin_59 (by decide) ?_
        refine zput (ty := .int) (fs := [.int (zb bb), .ref (a 1), .ref (a 2), .int (0 : Int32), .int (-1 : Int32), .int (0 : Int32), .int ot, .int wi, .int ik, .ref (a 3), .int (0 : Int32), .ref (a 4), .ref (a 5), .ref (a 6), .ref (a 7), .ref (a 8), .ref (a 9)]) (v := .int (0 : Int32)) tyX1 tyX1_ok nmX1 Z hin X (ci := 1) (C := RX1) (T := TX1) (N := 17) rfl rfl 6 (by decide) lk_X1_begin_73 rfl (by decide +kernel) rfl rfl (Nat.le_of_ble_eq_true rfl) dX1_begin_60 (fun H locs X => ?_)
        have X : zh g A (oM g a ((zb bb), (0 : Int32), (-1 : Int32), (0 : Int32), (0 : Int32), wi, ik, (0 : Int32), (filN P (-1) k), (filN O 0 k), K, kd, lf, ch, be, gi, mr)) s.heap H locs := X
        refine lv_aload_n hx hb dX1_begin_63 rfl (lv_at hl 2 rfl) ?_
        refine lv_iconst (v := (-1 : Int32)) hx hb dX1_begin_64 (by decide) ?_
        refine zput (ty := .int) (fs := [.int (zb bb), .ref (a 1), .ref (a 2), .int (0 : Int32), .int (-1 : Int32), .int (0 : Int32), .int (0 : Int32), .int wi, .int ik, .ref (a 3), .int (0 : Int32), .ref (a 4), .ref (a 5), .ref (a 6), .ref (a 7), .ref (a 8), .ref (a 9)]) (v := .int (-1 : Int32)) tyX1 tyX1_ok nmX1 Z hin X (ci := 1) (C := RX1) (T := TX1) (N := 17) rfl rfl 7 (by decide) lk_X1_begin_24 rfl (by decide +kernel) rfl rfl (Nat.le_of_ble_eq_true rfl) dX1_begin_65 (fun H locs X => ?_)
        have X : zh g A (oM g a ((zb bb), (0 : Int32), (-1 : Int32), (0 : Int32), (0 : Int32), (-1 : Int32), ik, (0 : Int32), (filN P (-1) k), (filN O 0 k), K, kd, lf, ch, be, gi, mr)) s.heap H locs := X
        refine lv_iload_n hx hb dX1_begin_68 rfl (lv_at hl 1 rfl) ?_
        exact zreti Z hr hlk ((zb bb), (0 : Int32), (-1 : Int32), (0 : Int32), (0 : Int32), (-1 : Int32), ik, (0 : Int32), (filN P (-1) k), (filN O 0 k), K, kd, lf, ch, be, gi, mr) X dX1_begin_69 rfl (⟨by rw [show k = 16 by omega]; rfl, rfl⟩)
      · have qc1 := c1
        have c1n : ¬ 16 ≤ k := zn_len (by omega) (by omega) c1
        refine lv_aload_n hx hb dX1_begin_23 rfl (lv_at hl 2 rfl) ?_
        refine zget (fs := [.int (zb bb), .ref (a 1), .ref (a 2), .int (nI pn), .int hd, .int ph, .int ot, .int wi, .int ik, .ref (a 3), .int (0 : Int32), .ref (a 4), .ref (a 5), .ref (a 6), .ref (a 7), .ref (a 8), .ref (a 9)]) (v := .ref (a 1)) Z hin X (ci := 1) (C := RX1) (T := TX1) (N := 17) rfl rfl 1 (by decide) lk_X1_begin_7 rfl dX1_begin_24 ?_
        refine lv_iload_n hx hb dX1_begin_27 rfl (lv_at hl 0 rfl) ?_
        refine lv_iconst (v := (-1 : Int32)) hx hb dX1_begin_28 (by decide) ?_
        refine zast (q0 := 1) (n := 16) (f := (filN P (-1) k)) Z X rfl rfl k rfl (by omega) (by decide) dX1_begin_29 (fun H locs X => ?_)
        have X : zh g A (oM g a ((zb bb), nI pn, hd, ph, ot, wi, ik, (0 : Int32), (upd (filN P (-1) k) k (-1 : Int32)), (filN O 0 k), K, kd, lf, ch, be, gi, mr)) s.heap H locs := X
        refine lv_aload_n hx hb dX1_begin_30 rfl (lv_at hl 2 rfl) ?_
        refine zget (fs := [.int (zb bb), .ref (a 1), .ref (a 2), .int (nI pn), .int hd, .int ph, .int ot, .int wi, .int ik, .ref (a 3), .int (0 : Int32), .ref (a 4), .ref (a 5), .ref (a 6), .ref (a 7), .ref (a 8), .ref (a 9)]) (v := .ref (a 2)) Z hin X (ci := 1) (C := RX1) (T := TX1) (N := 17) rfl rfl 2 (by decide) lk_X1_begin_13 rfl dX1_begin_31 ?_
        refine lv_iload_n hx hb dX1_begin_34 rfl (lv_at hl 0 rfl) ?_
        refine lv_iconst (v := (0 : Int32)) hx hb dX1_begin_35 (by decide) ?_
        refine zbst (q0 := 2) (n := 16) (f := (filN O 0 k)) Z X rfl rfl k rfl (by omega) (by decide) rfl dX1_begin_36 (fun H locs X => ?_)
        have X : zh g A (oM g a ((zb bb), nI pn, hd, ph, ot, wi, ik, (0 : Int32), (upd (filN P (-1) k) k (-1 : Int32)), (upd (filN O 0 k) k (0 : Int32)), K, kd, lf, ch, be, gi, mr)) s.heap H locs := X
        refine lv_iinc (v := nI (k + 1)) (lv' := [(3, .int (nI (k + 1))), (2, .int (nI pn)), (0, .ref (a 0)), (1, .int (zb bb))]) hx hb dX1_begin_37 hl (k := 0) rfl (zi_inc k) (by decide) rfl (fun ls hl => ?_)
        refine lv_goto (tgt := 17) hx hb dX1_begin_40 (by decide) ?_
        exact ih17 (k + 1) (by first | assumption | omega) (by omega) H locs ls (by rw [← filN_s, ← filN_s]; exact X) (lv_sub hl [0, 1, 2, 3] rfl)
  exact cut17 17 0 (by first | assumption | omega) (by omega) H locs ls (by rw [filN_0, filN_0]; exact X) (lv_sub hl [0, 1, 2, 3] rfl)
theorem inw_X1_give : ∀ w ∈ wsX10, w ∈ wsX1_give := by decide +kernel
theorem lk_X1_give_21 : Cond.fieldLink RX1 21 "QuarterboardModel" "phase" "I" ∈ wsX1_give := by decide +kernel
theorem lk_X1_give_13 : Cond.fieldLink RX1 13 "QuarterboardModel" "isOn" "[Z" ∈ wsX1_give := by decide +kernel
theorem lk_X1_give_17 : Cond.fieldLink RX1 17 "QuarterboardModel" "hand" "I" ∈ wsX1_give := by decide +kernel
theorem lk_X1_give_73 : Cond.fieldLink RX1 73 "QuarterboardModel" "onTurn" "I" ∈ wsX1_give := by decide +kernel
def P_X1_give (bk : Int32) (pn : Nat) (hd ph ot wi ik th : Int32) (P O K kd lf ch be gi mr : Nat → Int32) (v : Int32) : Int32 → MS → Prop := fun r u => (mIn v 16 = false ∧ u = (bk, nI pn, hd, ph, ot, wi, ik, 1, P, O, K, kd, lf, ch, be, gi, mr) ∧ r = 0) ∨ ((mIn v 16 = true ∧ (¬ ph = 0 ∨ ¬ O (v.toNatClampNeg) = 0)) ∧ u = (bk, nI pn, hd, ph, ot, wi, ik, 2, P, O, K, kd, lf, ch, be, gi, mr) ∧ r = 0) ∨ ((mIn v 16 = true ∧ ph = 0 ∧ O (v.toNatClampNeg) = 0) ∧ u = (bk, nI pn, v, 1, 1 - ot, wi, ik, 0, P, O, K, kd, lf, ch, be, gi, mr) ∧ r = 1 - ot)
set_option maxHeartbeats 4000000 in
set_option maxRecDepth 100000 in
theorem c_X1_give (l : Launch) (g : zG) (a : Nat → Nat) (bk : Int32) (pn : Nat) (hd ph ot wi ik th : Int32) (P O K kd lf ch be gi mr : Nat → Int32) (v : Int32)  : zM l yX1_give wsX1_give 1 60 g [.ref (a 0), .int v] (oM g a (bk, nI pn, hd, ph, ot, wi, ik, th, P, O, K, kd, lf, ch, be, gi, mr)) zE0 (zQi g (P_X1_give bk pn hd ph ot wi ik th P O K kd lf ch be gi mr v) (oM g a)) := by
  refine zstart (cc := cX1_give) (maxL := 2) (ret := (some .int)) (own := RX1) rfl (by decide) rfl zSt0 (Nat.le_of_ble_eq_true rfl) ?_
  intro p e s m below meth c A Z hr hlk H locs X ls hl
  have hx := Z.1.1
  have hb := Z.1.2.1
  have hin : ∀ w ∈ wsX10, w ∈ wsX1_give := inw_X1_give
  have hl : lv_has ls 2 [(0, .ref (a 0)), (1, .int v)] := hl
  have X : zh g A (oM g a (bk, nI pn, hd, ph, ot, wi, ik, th, P, O, K, kd, lf, ch, be, gi, mr)) s.heap H locs := X
  refine lv_aload_n hx hb dX1_give_0 rfl (lv_at hl 0 rfl) ?_
  refine lv_iload_n hx hb dX1_give_1 rfl (lv_at hl 1 rfl) ?_
  refine lv_bipush (v := (16 : Int32)) hx hb dX1_give_2 (by decide) ?_
  refine zcallSi (n := 2) (As := [.int v, .int (16 : Int32)]) (rest := [.ref (a 0)]) Z X (c_X1_isIn l g v (16 : Int32) ) gX1_give_X1_isIn rfl (by decide +kernel) ⟨Nat.le_of_ble_eq_true rfl, Nat.le_of_ble_eq_true rfl⟩ rfl rfl hl.1 (Nat.le_of_ble_eq_true rfl) dX1_give_4 ⟨Nat.zero_le _, Nat.zero_le _⟩ (fun r0 H locs hrr0 X => ?_)
  obtain rfl : r0 = zb (mIn v (16 : Int32)) := hrr0
  refine lv_if_ne (tgt := 14) hx hb dX1_give_7 (by decide) (fun c2 => ?_) (fun c2 => ?_)
  · have qc2 := c2
    have hn : mIn v 16 = true := zb_n0.mp c2
    have hv1 := (mIn_16 hn).1
    have hv2 := (mIn_16 hn).2
    refine lv_aload_n hx hb dX1_give_14 rfl (lv_at hl 0 rfl) ?_
    refine zget (fs := [.int bk, .ref (a 1), .ref (a 2), .int (nI pn), .int hd, .int ph, .int ot, .int wi, .int ik, .ref (a 3), .int th, .ref (a 4), .ref (a 5), .ref (a 6), .ref (a 7), .ref (a 8), .ref (a 9)]) (v := .int ph) Z hin X (ci := 1) (C := RX1) (T := TX1) (N := 17) rfl rfl 5 (by decide) lk_X1_give_21 rfl dX1_give_15 ?_
    refine lv_if_ne (tgt := 30) hx hb dX1_give_18 (by decide) (fun c3 => ?_) (fun c3 => ?_)
    · have qc3 := c3
      have hs : ¬ ph = 0 := c3
      refine lv_iconst (v := (2 : Int32)) hx hb dX1_give_30 (by decide) ?_
      refine lv_goto (tgt := 35) hx hb dX1_give_31 (by decide) ?_
      refine zcallVi (n := 1) (As := [.int (2 : Int32)]) (rest := []) (ci := 1) (C := RX1) (T := TX1) (N := 17) Z X (c_X1_fails l g a bk pn hd ph ot wi ik th P O K kd lf ch be gi mr (2 : Int32)) gX1_give_X1_fails rfl (by decide +kernel) ⟨Nat.le_of_ble_eq_true rfl, Nat.le_of_ble_eq_true rfl⟩ rfl rfl rfl rfl hl.1 (Nat.le_of_ble_eq_true rfl) dX1_give_35 ⟨Nat.zero_le _, Nat.zero_le _⟩ (fun r3 ur3 H locs hrr3 X => ?_)
      obtain ⟨rfl, hfr3⟩ : ur3 = (bk, nI pn, hd, ph, ot, wi, ik, (2 : Int32), P, O, K, kd, lf, ch, be, gi, mr) ∧ r3 = zb (decide ((0 : Int32) < (2 : Int32))) := hrr3
      obtain rfl : r3 = (1 : Int32) := hfr3.trans (by decide)
      have X : zh g A (oM g a (bk, nI pn, hd, ph, ot, wi, ik, (2 : Int32), P, O, K, kd, lf, ch, be, gi, mr)) s.heap H locs := X
      refine lv_if_eq (tgt := 43) hx hb dX1_give_38 (by decide) (fun c5 => ?_) (fun c5 => ?_)
      · exact absurd c5 (by decide)
      · have qc5 := c5
        refine lv_iconst (v := (0 : Int32)) hx hb dX1_give_41 (by decide) ?_
        exact zreti Z hr hlk (bk, nI pn, hd, ph, ot, wi, ik, (2 : Int32), P, O, K, kd, lf, ch, be, gi, mr) X dX1_give_42 rfl (by first | exact Or.inl ⟨hn, rfl, rfl⟩ | exact Or.inr (Or.inl ⟨⟨hn, Or.inl hs⟩, rfl, rfl⟩) | exact Or.inr (Or.inl ⟨⟨hn, Or.inr hh⟩, rfl, rfl⟩))
    · have qc3 := c3
      have hs : ph = 0 := c3
      refine lv_aload_n hx hb dX1_give_21 rfl (lv_at hl 0 rfl) ?_
      refine zget (fs := [.int bk, .ref (a 1), .ref (a 2), .int (nI pn), .int hd, .int ph, .int ot, .int wi, .int ik, .ref (a 3), .int th, .ref (a 4), .ref (a 5), .ref (a 6), .ref (a 7), .ref (a 8), .ref (a 9)]) (v := .ref (a 2)) Z hin X (ci := 1) (C := RX1) (T := TX1) (N := 17) rfl rfl 2 (by decide) lk_X1_give_13 rfl dX1_give_22 ?_
      refine lv_iload_n hx hb dX1_give_25 rfl (lv_at hl 1 rfl) ?_
      refine zbld (q0 := 2) (n := 16) (f := O) Z X rfl rfl (v.toNatClampNeg) hv1 (by omega) (by decide) dX1_give_26 ?_
      refine lv_if_eq (tgt := 34) hx hb dX1_give_27 (by decide) (fun c6 => ?_) (fun c6 => ?_)
      · have qc6 := c6
        have hh : O (v.toNatClampNeg) = 0 := c6
        refine lv_iconst (v := (0 : Int32)) hx hb dX1_give_34 (by decide) ?_
        refine zcallVi (n := 1) (As := [.int (0 : Int32)]) (rest := []) (ci := 1) (C := RX1) (T := TX1) (N := 17) Z X (c_X1_fails l g a bk pn hd ph ot wi ik th P O K kd lf ch be gi mr (0 : Int32)) gX1_give_X1_fails rfl (by decide +kernel) ⟨Nat.le_of_ble_eq_true rfl, Nat.le_of_ble_eq_true rfl⟩ rfl rfl rfl rfl hl.1 (Nat.le_of_ble_eq_true rfl) dX1_give_35 ⟨Nat.zero_le _, Nat.zero_le _⟩ (fun r6 ur6 H locs hrr6 X => ?_)
        obtain ⟨rfl, hfr6⟩ : ur6 = (bk, nI pn, hd, ph, ot, wi, ik, (0 : Int32), P, O, K, kd, lf, ch, be, gi, mr) ∧ r6 = zb (decide ((0 : Int32) < (0 : Int32))) := hrr6
        obtain rfl : r6 = (0 : Int32) := hfr6.trans (by decide)
        have X : zh g A (oM g a (bk, nI pn, hd, ph, ot, wi, ik, (0 : Int32), P, O, K, kd, lf, ch, be, gi, mr)) s.heap H locs := X
        refine lv_if_eq (tgt := 43) hx hb dX1_give_38 (by decide) (fun c8 => ?_) (fun c8 => ?_)
        · have qc8 := c8
          refine lv_aload_n hx hb dX1_give_43 rfl (lv_at hl 0 rfl) ?_
          refine lv_iload_n hx hb dX1_give_44 rfl (lv_at hl 1 rfl) ?_
          refine zput (ty := .int) (fs := [.int bk, .ref (a 1), .ref (a 2), .int (nI pn), .int hd, .int ph, .int ot, .int wi, .int ik, .ref (a 3), .int (0 : Int32), .ref (a 4), .ref (a 5), .ref (a 6), .ref (a 7), .ref (a 8), .ref (a 9)]) (v := .int v) tyX1 tyX1_ok nmX1 Z hin X (ci := 1) (C := RX1) (T := TX1) (N := 17) rfl rfl 4 (by decide) lk_X1_give_17 rfl (by decide +kernel) rfl rfl (Nat.le_of_ble_eq_true rfl) dX1_give_45 (fun H locs X => ?_)
          have X : zh g A (oM g a (bk, nI pn, v, ph, ot, wi, ik, (0 : Int32), P, O, K, kd, lf, ch, be, gi, mr)) s.heap H locs := X
          refine lv_aload_n hx hb dX1_give_48 rfl (lv_at hl 0 rfl) ?_
          refine lv_iconst (v := (1 : Int32)) hx hb dX1_give_49 (by decide) ?_
          refine zput (ty := .int) (fs := [.int bk, .ref (a 1), .ref (a 2), .int (nI pn), .int v, .int ph, .int ot, .int wi, .int ik, .ref (a 3), .int (0 : Int32), .ref (a 4), .ref (a 5), .ref (a 6), .ref (a 7), .ref (a 8), .ref (a 9)]) (v := .int (1 : Int32)) tyX1 tyX1_ok nmX1 Z hin X (ci := 1) (C := RX1) (T := TX1) (N := 17) rfl rfl 5 (by decide) lk_X1_give_21 rfl (by decide +kernel) rfl rfl (Nat.le_of_ble_eq_true rfl) dX1_give_50 (fun H locs X => ?_)
          have X : zh g A (oM g a (bk, nI pn, v, (1 : Int32), ot, wi, ik, (0 : Int32), P, O, K, kd, lf, ch, be, gi, mr)) s.heap H locs := X
          refine lv_aload_n hx hb dX1_give_53 rfl (lv_at hl 0 rfl) ?_
          refine lv_iconst (v := (1 : Int32)) hx hb dX1_give_54 (by decide) ?_
          refine lv_aload_n hx hb dX1_give_55 rfl (lv_at hl 0 rfl) ?_
          refine zget (fs := [.int bk, .ref (a 1), .ref (a 2), .int (nI pn), .int v, .int (1 : Int32), .int ot, .int wi, .int ik, .ref (a 3), .int (0 : Int32), .ref (a 4), .ref (a 5), .ref (a 6), .ref (a 7), .ref (a 8), .ref (a 9)]) (v := .int ot) Z hin X (ci := 1) (C := RX1) (T := TX1) (N := 17) rfl rfl 6 (by decide) lk_X1_give_73 rfl dX1_give_56 ?_
          refine lv_isub hx hb dX1_give_59 ?_
          refine zput (ty := .int) (fs := [.int bk, .ref (a 1), .ref (a 2), .int (nI pn), .int v, .int (1 : Int32), .int ot, .int wi, .int ik, .ref (a 3), .int (0 : Int32), .ref (a 4), .ref (a 5), .ref (a 6), .ref (a 7), .ref (a 8), .ref (a 9)]) (v := .int ((1 : Int32) - ot)) tyX1 tyX1_ok nmX1 Z hin X (ci := 1) (C := RX1) (T := TX1) (N := 17) rfl rfl 6 (by decide) lk_X1_give_73 rfl (by decide +kernel) rfl rfl (Nat.le_of_ble_eq_true rfl) dX1_give_60 (fun H locs X => ?_)
          have X : zh g A (oM g a (bk, nI pn, v, (1 : Int32), (1 : Int32) - ot, wi, ik, (0 : Int32), P, O, K, kd, lf, ch, be, gi, mr)) s.heap H locs := X
          refine lv_aload_n hx hb dX1_give_63 rfl (lv_at hl 0 rfl) ?_
          refine zget (fs := [.int bk, .ref (a 1), .ref (a 2), .int (nI pn), .int v, .int (1 : Int32), .int ((1 : Int32) - ot), .int wi, .int ik, .ref (a 3), .int (0 : Int32), .ref (a 4), .ref (a 5), .ref (a 6), .ref (a 7), .ref (a 8), .ref (a 9)]) (v := .int ((1 : Int32) - ot)) Z hin X (ci := 1) (C := RX1) (T := TX1) (N := 17) rfl rfl 6 (by decide) lk_X1_give_73 rfl dX1_give_64 ?_
          exact zreti Z hr hlk (bk, nI pn, v, (1 : Int32), (1 : Int32) - ot, wi, ik, (0 : Int32), P, O, K, kd, lf, ch, be, gi, mr) X dX1_give_67 rfl (Or.inr (Or.inr ⟨⟨hn, hs, hh⟩, rfl, rfl⟩))
        · exact absurd c8 (by decide)
      · have qc6 := c6
        have hh : ¬ O (v.toNatClampNeg) = 0 := c6
        refine lv_iconst (v := (2 : Int32)) hx hb dX1_give_30 (by decide) ?_
        refine lv_goto (tgt := 35) hx hb dX1_give_31 (by decide) ?_
        refine zcallVi (n := 1) (As := [.int (2 : Int32)]) (rest := []) (ci := 1) (C := RX1) (T := TX1) (N := 17) Z X (c_X1_fails l g a bk pn hd ph ot wi ik th P O K kd lf ch be gi mr (2 : Int32)) gX1_give_X1_fails rfl (by decide +kernel) ⟨Nat.le_of_ble_eq_true rfl, Nat.le_of_ble_eq_true rfl⟩ rfl rfl rfl rfl hl.1 (Nat.le_of_ble_eq_true rfl) dX1_give_35 ⟨Nat.zero_le _, Nat.zero_le _⟩ (fun r8 ur8 H locs hrr8 X => ?_)
        obtain ⟨rfl, hfr8⟩ : ur8 = (bk, nI pn, hd, ph, ot, wi, ik, (2 : Int32), P, O, K, kd, lf, ch, be, gi, mr) ∧ r8 = zb (decide ((0 : Int32) < (2 : Int32))) := hrr8
        obtain rfl : r8 = (1 : Int32) := hfr8.trans (by decide)
        have X : zh g A (oM g a (bk, nI pn, hd, ph, ot, wi, ik, (2 : Int32), P, O, K, kd, lf, ch, be, gi, mr)) s.heap H locs := X
        refine lv_if_eq (tgt := 43) hx hb dX1_give_38 (by decide) (fun c10 => ?_) (fun c10 => ?_)
        · exact absurd c10 (by decide)
        · have qc10 := c10
          refine lv_iconst (v := (0 : Int32)) hx hb dX1_give_41 (by decide) ?_
          exact zreti Z hr hlk (bk, nI pn, hd, ph, ot, wi, ik, (2 : Int32), P, O, K, kd, lf, ch, be, gi, mr) X dX1_give_42 rfl (by first | exact Or.inl ⟨hn, rfl, rfl⟩ | exact Or.inr (Or.inl ⟨⟨hn, Or.inl hs⟩, rfl, rfl⟩) | exact Or.inr (Or.inl ⟨⟨hn, Or.inr hh⟩, rfl, rfl⟩))
  · have qc2 := c2
    have hn : mIn v 16 = false := zb_0.mp c2
    refine lv_iconst (v := (1 : Int32)) hx hb dX1_give_10 (by decide) ?_
    refine lv_goto (tgt := 35) hx hb dX1_give_11 (by decide) ?_
    refine zcallVi (n := 1) (As := [.int (1 : Int32)]) (rest := []) (ci := 1) (C := RX1) (T := TX1) (N := 17) Z X (c_X1_fails l g a bk pn hd ph ot wi ik th P O K kd lf ch be gi mr (1 : Int32)) gX1_give_X1_fails rfl (by decide +kernel) ⟨Nat.le_of_ble_eq_true rfl, Nat.le_of_ble_eq_true rfl⟩ rfl rfl rfl rfl hl.1 (Nat.le_of_ble_eq_true rfl) dX1_give_35 ⟨Nat.zero_le _, Nat.zero_le _⟩ (fun r10 ur10 H locs hrr10 X => ?_)
    obtain ⟨rfl, hfr10⟩ : ur10 = (bk, nI pn, hd, ph, ot, wi, ik, (1 : Int32), P, O, K, kd, lf, ch, be, gi, mr) ∧ r10 = zb (decide ((0 : Int32) < (1 : Int32))) := hrr10
    obtain rfl : r10 = (1 : Int32) := hfr10.trans (by decide)
    have X : zh g A (oM g a (bk, nI pn, hd, ph, ot, wi, ik, (1 : Int32), P, O, K, kd, lf, ch, be, gi, mr)) s.heap H locs := X
    refine lv_if_eq (tgt := 43) hx hb dX1_give_38 (by decide) (fun c12 => ?_) (fun c12 => ?_)
    · exact absurd c12 (by decide)
    · have qc12 := c12
      refine lv_iconst (v := (0 : Int32)) hx hb dX1_give_41 (by decide) ?_
      exact zreti Z hr hlk (bk, nI pn, hd, ph, ot, wi, ik, (1 : Int32), P, O, K, kd, lf, ch, be, gi, mr) X dX1_give_42 rfl (by first | exact Or.inl ⟨hn, rfl, rfl⟩ | exact Or.inr (Or.inl ⟨⟨hn, Or.inl hs⟩, rfl, rfl⟩) | exact Or.inr (Or.inl ⟨⟨hn, Or.inr hh⟩, rfl, rfl⟩))
theorem inw_X1_place : ∀ w ∈ wsX10, w ∈ wsX1_place := by decide +kernel
theorem lk_X1_place_21 : Cond.fieldLink RX1 21 "QuarterboardModel" "phase" "I" ∈ wsX1_place := by decide +kernel
theorem lk_X1_place_7 : Cond.fieldLink RX1 7 "QuarterboardModel" "piece" "[I" ∈ wsX1_place := by decide +kernel
theorem lk_X1_place_17 : Cond.fieldLink RX1 17 "QuarterboardModel" "hand" "I" ∈ wsX1_place := by decide +kernel
theorem lk_X1_place_73 : Cond.fieldLink RX1 73 "QuarterboardModel" "onTurn" "I" ∈ wsX1_place := by decide +kernel
theorem lk_X1_place_70 : Cond.fieldLink RX1 70 "QuarterboardModel" "placed" "I" ∈ wsX1_place := by decide +kernel
theorem lk_X1_place_24 : Cond.fieldLink RX1 24 "QuarterboardModel" "winner" "I" ∈ wsX1_place := by decide +kernel
def P_X1_place (bk : Int32) (pn : Nat) (hd ph ot wi ik th : Int32) (P O K kd lf ch be gi mr : Nat → Int32) (v : Int32) (hp : Nat) : Int32 → MS → Prop := fun r u => (mIn v 16 = false ∧ u = (bk, nI pn, hd, ph, ot, wi, ik, 1, P, O, K, kd, lf, ch, be, gi, mr) ∧ r = 0) ∨ ((mIn v 16 = true ∧ (¬ ph = 1 ∨ ¬ P (v.toNatClampNeg) = -1)) ∧ u = (bk, nI pn, hd, ph, ot, wi, ik, 2, P, O, K, kd, lf, ch, be, gi, mr) ∧ r = 0) ∨ ((mIn v 16 = true ∧ ph = 1 ∧ P (v.toNatClampNeg) = -1) ∧ u = (bk, nI (pn + 1), -1, (if 0 < (mWon bk (upd P (v.toNatClampNeg) (nI hp)) (v.toNatClampNeg)) then 2 else if pn + 1 = 16 then 2 else 0), ot, (if 0 < (mWon bk (upd P (v.toNatClampNeg) (nI hp)) (v.toNatClampNeg)) then ot else if pn + 1 = 16 then 2 else -1), ik, 0, (upd P (v.toNatClampNeg) (nI hp)), (upd O hp 1), K, kd, lf, ch, be, gi, mr) ∧ r = nI (mWon bk (upd P (v.toNatClampNeg) (nI hp)) (v.toNatClampNeg)))
set_option maxHeartbeats 4000000 in
set_option maxRecDepth 100000 in
theorem c_X1_place (l : Launch) (g : zG) (a : Nat → Nat) (bk : Int32) (pn : Nat) (hd ph ot wi ik th : Int32) (P O K kd lf ch be gi mr : Nat → Int32) (v : Int32) (hp : Nat) (hpn : pn ≤ 16) (hot : ¬ ot = -1) (hhd : ph = 1 → hd = nI hp ∧ hp < 16) : zM l yX1_place wsX1_place 3 200 g [.ref (a 0), .int v] (oM g a (bk, nI pn, hd, ph, ot, wi, ik, th, P, O, K, kd, lf, ch, be, gi, mr)) zE0 (zQi g (P_X1_place bk pn hd ph ot wi ik th P O K kd lf ch be gi mr v hp) (oM g a)) := by
  refine zstart (cc := cX1_place) (maxL := 3) (ret := (some .int)) (own := RX1) rfl (by decide) rfl zSt0 (Nat.le_of_ble_eq_true rfl) ?_
  intro p e s m below meth c A Z hr hlk H locs X ls hl
  have hx := Z.1.1
  have hb := Z.1.2.1
  have hin : ∀ w ∈ wsX10, w ∈ wsX1_place := inw_X1_place
  have hl : lv_has ls 3 [(0, .ref (a 0)), (1, .int v)] := hl
  have X : zh g A (oM g a (bk, nI pn, hd, ph, ot, wi, ik, th, P, O, K, kd, lf, ch, be, gi, mr)) s.heap H locs := X
  have hwl := mWon_le bk (upd P (v.toNatClampNeg) (nI hp)) (v.toNatClampNeg)
  refine lv_aload_n hx hb dX1_place_0 rfl (lv_at hl 0 rfl) ?_
  refine lv_iload_n hx hb dX1_place_1 rfl (lv_at hl 1 rfl) ?_
  refine lv_bipush (v := (16 : Int32)) hx hb dX1_place_2 (by decide) ?_
  refine zcallSi (n := 2) (As := [.int v, .int (16 : Int32)]) (rest := [.ref (a 0)]) Z X (c_X1_isIn l g v (16 : Int32) ) gX1_place_X1_isIn rfl (by decide +kernel) ⟨Nat.le_of_ble_eq_true rfl, Nat.le_of_ble_eq_true rfl⟩ rfl rfl hl.1 (Nat.le_of_ble_eq_true rfl) dX1_place_4 ⟨Nat.zero_le _, Nat.zero_le _⟩ (fun r0 H locs hrr0 X => ?_)
  obtain rfl : r0 = zb (mIn v (16 : Int32)) := hrr0
  refine lv_if_ne (tgt := 14) hx hb dX1_place_7 (by decide) (fun c2 => ?_) (fun c2 => ?_)
  · have qc2 := c2
    have hn : mIn v 16 = true := zb_n0.mp c2
    have hv1 := (mIn_16 hn).1
    have hv2 := (mIn_16 hn).2
    refine lv_aload_n hx hb dX1_place_14 rfl (lv_at hl 0 rfl) ?_
    refine zget (fs := [.int bk, .ref (a 1), .ref (a 2), .int (nI pn), .int hd, .int ph, .int ot, .int wi, .int ik, .ref (a 3), .int th, .ref (a 4), .ref (a 5), .ref (a 6), .ref (a 7), .ref (a 8), .ref (a 9)]) (v := .int ph) Z hin X (ci := 1) (C := RX1) (T := TX1) (N := 17) rfl rfl 5 (by decide) lk_X1_place_21 rfl dX1_place_15 ?_
    refine lv_iconst (v := (1 : Int32)) hx hb dX1_place_18 (by decide) ?_
    refine lv_icmp_ne (tgt := 32) hx hb dX1_place_19 (by decide) (fun c3 => ?_) (fun c3 => ?_)
    · have qc3 := c3
      have hs : ¬ ph = 1 := c3
      refine lv_iconst (v := (2 : Int32)) hx hb dX1_place_32 (by decide) ?_
      refine lv_goto (tgt := 37) hx hb dX1_place_33 (by decide) ?_
      refine zcallVi (n := 1) (As := [.int (2 : Int32)]) (rest := []) (ci := 1) (C := RX1) (T := TX1) (N := 17) Z X (c_X1_fails l g a bk pn hd ph ot wi ik th P O K kd lf ch be gi mr (2 : Int32)) gX1_place_X1_fails rfl (by decide +kernel) ⟨Nat.le_of_ble_eq_true rfl, Nat.le_of_ble_eq_true rfl⟩ rfl rfl rfl rfl hl.1 (Nat.le_of_ble_eq_true rfl) dX1_place_37 ⟨Nat.zero_le _, Nat.zero_le _⟩ (fun r3 ur3 H locs hrr3 X => ?_)
      obtain ⟨rfl, hfr3⟩ : ur3 = (bk, nI pn, hd, ph, ot, wi, ik, (2 : Int32), P, O, K, kd, lf, ch, be, gi, mr) ∧ r3 = zb (decide ((0 : Int32) < (2 : Int32))) := hrr3
      obtain rfl : r3 = (1 : Int32) := hfr3.trans (by decide)
      have X : zh g A (oM g a (bk, nI pn, hd, ph, ot, wi, ik, (2 : Int32), P, O, K, kd, lf, ch, be, gi, mr)) s.heap H locs := X
      refine lv_if_eq (tgt := 45) hx hb dX1_place_40 (by decide) (fun c5 => ?_) (fun c5 => ?_)
      · exact absurd c5 (by decide)
      · have qc5 := c5
        refine lv_iconst (v := (0 : Int32)) hx hb dX1_place_43 (by decide) ?_
        exact zreti Z hr hlk (bk, nI pn, hd, ph, ot, wi, ik, (2 : Int32), P, O, K, kd, lf, ch, be, gi, mr) X dX1_place_44 rfl (by first | exact Or.inl ⟨hn, rfl, rfl⟩ | exact Or.inr (Or.inl ⟨⟨hn, Or.inl hs⟩, rfl, rfl⟩) | exact Or.inr (Or.inl ⟨⟨hn, Or.inr hh⟩, rfl, rfl⟩))
    · have qc3 := c3
      have hs : ph = 1 := c3
      have hq1 := (hhd hs).1
      have hq2 := (hhd hs).2
      refine lv_aload_n hx hb dX1_place_22 rfl (lv_at hl 0 rfl) ?_
      refine zget (fs := [.int bk, .ref (a 1), .ref (a 2), .int (nI pn), .int hd, .int ph, .int ot, .int wi, .int ik, .ref (a 3), .int th, .ref (a 4), .ref (a 5), .ref (a 6), .ref (a 7), .ref (a 8), .ref (a 9)]) (v := .ref (a 1)) Z hin X (ci := 1) (C := RX1) (T := TX1) (N := 17) rfl rfl 1 (by decide) lk_X1_place_7 rfl dX1_place_23 ?_
      refine lv_iload_n hx hb dX1_place_26 rfl (lv_at hl 1 rfl) ?_
      refine zald (q0 := 1) (n := 16) (f := P) Z X rfl rfl (v.toNatClampNeg) hv1 (by omega) (by decide) dX1_place_27 ?_
      refine lv_iconst (v := (-1 : Int32)) hx hb dX1_place_28 (by decide) ?_
      refine lv_icmp_eq (tgt := 36) hx hb dX1_place_29 (by decide) (fun c6 => ?_) (fun c6 => ?_)
      · have qc6 := c6
        have hh : P (v.toNatClampNeg) = -1 := c6
        refine lv_iconst (v := (0 : Int32)) hx hb dX1_place_36 (by decide) ?_
        refine zcallVi (n := 1) (As := [.int (0 : Int32)]) (rest := []) (ci := 1) (C := RX1) (T := TX1) (N := 17) Z X (c_X1_fails l g a bk pn hd ph ot wi ik th P O K kd lf ch be gi mr (0 : Int32)) gX1_place_X1_fails rfl (by decide +kernel) ⟨Nat.le_of_ble_eq_true rfl, Nat.le_of_ble_eq_true rfl⟩ rfl rfl rfl rfl hl.1 (Nat.le_of_ble_eq_true rfl) dX1_place_37 ⟨Nat.zero_le _, Nat.zero_le _⟩ (fun r6 ur6 H locs hrr6 X => ?_)
        obtain ⟨rfl, hfr6⟩ : ur6 = (bk, nI pn, hd, ph, ot, wi, ik, (0 : Int32), P, O, K, kd, lf, ch, be, gi, mr) ∧ r6 = zb (decide ((0 : Int32) < (0 : Int32))) := hrr6
        obtain rfl : r6 = (0 : Int32) := hfr6.trans (by decide)
        have X : zh g A (oM g a (bk, nI pn, hd, ph, ot, wi, ik, (0 : Int32), P, O, K, kd, lf, ch, be, gi, mr)) s.heap H locs := X
        refine lv_if_eq (tgt := 45) hx hb dX1_place_40 (by decide) (fun c8 => ?_) (fun c8 => ?_)
        · have qc8 := c8
          refine lv_aload_n hx hb dX1_place_45 rfl (lv_at hl 0 rfl) ?_
          refine lv_iload_n hx hb dX1_place_46 rfl (lv_at hl 1 rfl) ?_
          refine zrwi (y := nI (v.toNatClampNeg)) (hv1) ?_
          refine lv_aload_n hx hb dX1_place_47 rfl (lv_at hl 0 rfl) ?_
          refine zget (fs := [.int bk, .ref (a 1), .ref (a 2), .int (nI pn), .int hd, .int ph, .int ot, .int wi, .int ik, .ref (a 3), .int (0 : Int32), .ref (a 4), .ref (a 5), .ref (a 6), .ref (a 7), .ref (a 8), .ref (a 9)]) (v := .int hd) Z hin X (ci := 1) (C := RX1) (T := TX1) (N := 17) rfl rfl 4 (by decide) lk_X1_place_17 rfl dX1_place_48 ?_
          refine zrwi (y := nI hp) (hq1) ?_
          refine zcallVv (n := 2) (As := [.int (nI (v.toNatClampNeg)), .int (nI hp)]) (rest := []) (ci := 1) (C := RX1) (T := TX1) (N := 17) Z X (c_X1_puts l g a bk pn hd ph ot wi ik (0 : Int32) P O K kd lf ch be gi mr (v.toNatClampNeg) hp (by omega) (by omega)) gX1_place_X1_puts rfl (by decide +kernel) ⟨Nat.le_of_ble_eq_true rfl, Nat.le_of_ble_eq_true rfl⟩ rfl rfl rfl rfl hl.1 (Nat.le_of_ble_eq_true rfl) dX1_place_51 ⟨Nat.zero_le _, Nat.zero_le _⟩ (fun ur8 H locs hrr8 X => ?_)
          obtain rfl : ur8 = (bk, nI (pn + 1), hd, ph, ot, wi, ik, (0 : Int32), upd P (v.toNatClampNeg) (nI hp), upd O hp 1, K, kd, lf, ch, be, gi, mr) := hrr8
          have X : zh g A (oM g a (bk, nI (pn + 1), hd, ph, ot, wi, ik, (0 : Int32), upd P (v.toNatClampNeg) (nI hp), upd O hp 1, K, kd, lf, ch, be, gi, mr)) s.heap H locs := X
          refine lv_aload_n hx hb dX1_place_54 rfl (lv_at hl 0 rfl) ?_
          refine lv_iconst (v := (-1 : Int32)) hx hb dX1_place_55 (by decide) ?_
          refine zput (ty := .int) (fs := [.int bk, .ref (a 1), .ref (a 2), .int (nI (pn + 1)), .int hd, .int ph, .int ot, .int wi, .int ik, .ref (a 3), .int (0 : Int32), .ref (a 4), .ref (a 5), .ref (a 6), .ref (a 7), .ref (a 8), .ref (a 9)]) (v := .int (-1 : Int32)) tyX1 tyX1_ok nmX1 Z hin X (ci := 1) (C := RX1) (T := TX1) (N := 17) rfl rfl 4 (by decide) lk_X1_place_17 rfl (by decide +kernel) rfl rfl (Nat.le_of_ble_eq_true rfl) dX1_place_56 (fun H locs X => ?_)
          have X : zh g A (oM g a (bk, nI (pn + 1), (-1 : Int32), ph, ot, wi, ik, (0 : Int32), upd P (v.toNatClampNeg) (nI hp), upd O hp 1, K, kd, lf, ch, be, gi, mr)) s.heap H locs := X
          refine lv_aload_n hx hb dX1_place_59 rfl (lv_at hl 0 rfl) ?_
          refine lv_iload_n hx hb dX1_place_60 rfl (lv_at hl 1 rfl) ?_
          refine zrwi (y := nI (v.toNatClampNeg)) (hv1) ?_
          refine zcallVi (n := 1) (As := [.int (nI (v.toNatClampNeg))]) (rest := []) (ci := 1) (C := RX1) (T := TX1) (N := 17) Z X (c_X1_won l g a bk (pn + 1) (-1 : Int32) ph ot wi ik (0 : Int32) (upd P (v.toNatClampNeg) (nI hp)) (upd O hp 1) K kd lf ch be gi mr (v.toNatClampNeg) (by omega)) gX1_place_X1_won rfl (by decide +kernel) ⟨Nat.le_of_ble_eq_true rfl, Nat.le_of_ble_eq_true rfl⟩ rfl rfl rfl rfl hl.1 (Nat.le_of_ble_eq_true rfl) dX1_place_61 ⟨Nat.zero_le _, Nat.zero_le _⟩ (fun r9 ur9 H locs hrr9 X => ?_)
          obtain ⟨rfl, rfl⟩ : ur9 = (bk, nI (pn + 1), (-1 : Int32), ph, ot, wi, ik, (0 : Int32), upd P (v.toNatClampNeg) (nI hp), upd O hp 1, K, kd, lf, ch, be, gi, mr) ∧ r9 = nI (mWon bk (upd P (v.toNatClampNeg) (nI hp)) (v.toNatClampNeg)) := hrr9
          have X : zh g A (oM g a (bk, nI (pn + 1), (-1 : Int32), ph, ot, wi, ik, (0 : Int32), upd P (v.toNatClampNeg) (nI hp), upd O hp 1, K, kd, lf, ch, be, gi, mr)) s.heap H locs := X
          refine lv_istore_n (lv' := [(2, .int (nI (mWon bk (upd P (v.toNatClampNeg) (nI hp)) (v.toNatClampNeg)))), (0, .ref (a 0)), (1, .int v)]) hx hb dX1_place_64 rfl hl (by decide) rfl (fun ls hl => ?_)
          refine lv_aload_n hx hb dX1_place_65 rfl (lv_at hl 1 rfl) ?_
          refine lv_iload_n hx hb dX1_place_66 rfl (lv_at hl 0 rfl) ?_
          refine lv_if_le (tgt := 77) hx hb dX1_place_67 (by decide) (fun c11 => ?_) (fun c11 => ?_)
          · have qc11 := c11
            have c11n : (mWon bk (upd P (v.toNatClampNeg) (nI hp)) (v.toNatClampNeg)) ≤ 0 := zn_let (by omega) (by omega) c11
            have hw : ¬ 0 < (mWon bk (upd P (v.toNatClampNeg) (nI hp)) (v.toNatClampNeg)) := by omega
            refine lv_aload_n hx hb dX1_place_77 rfl (lv_at hl 1 rfl) ?_
            refine zget (fs := [.int bk, .ref (a 1), .ref (a 2), .int (nI (pn + 1)), .int (-1 : Int32), .int ph, .int ot, .int wi, .int ik, .ref (a 3), .int (0 : Int32), .ref (a 4), .ref (a 5), .ref (a 6), .ref (a 7), .ref (a 8), .ref (a 9)]) (v := .int (nI (pn + 1))) Z hin X (ci := 1) (C := RX1) (T := TX1) (N := 17) rfl rfl 3 (by decide) lk_X1_place_70 rfl dX1_place_78 ?_
            refine lv_bipush (v := nI 16) hx hb dX1_place_81 (by decide) ?_
            refine lv_icmp_ne (tgt := 90) hx hb dX1_place_83 (by decide) (fun c12 => ?_) (fun c12 => ?_)
            · have qc12 := c12
              have c12n : ¬ (pn + 1) = 16 := zn_eqn (by omega) (by omega) c12
              have h16 : ¬ pn + 1 = 16 := c12n
              refine lv_iconst (v := (-1 : Int32)) hx hb dX1_place_90 (by decide) ?_
              refine zput (ty := .int) (fs := [.int bk, .ref (a 1), .ref (a 2), .int (nI (pn + 1)), .int (-1 : Int32), .int ph, .int ot, .int wi, .int ik, .ref (a 3), .int (0 : Int32), .ref (a 4), .ref (a 5), .ref (a 6), .ref (a 7), .ref (a 8), .ref (a 9)]) (v := .int (-1 : Int32)) tyX1 tyX1_ok nmX1 Z hin X (ci := 1) (C := RX1) (T := TX1) (N := 17) rfl rfl 7 (by decide) lk_X1_place_24 rfl (by decide +kernel) rfl rfl (Nat.le_of_ble_eq_true rfl) dX1_place_91 (fun H locs X => ?_)
              have X : zh g A (oM g a (bk, nI (pn + 1), (-1 : Int32), ph, ot, (-1 : Int32), ik, (0 : Int32), upd P (v.toNatClampNeg) (nI hp), upd O hp 1, K, kd, lf, ch, be, gi, mr)) s.heap H locs := X
              refine lv_aload_n hx hb dX1_place_94 rfl (lv_at hl 1 rfl) ?_
              refine lv_aload_n hx hb dX1_place_95 rfl (lv_at hl 1 rfl) ?_
              refine zget (fs := [.int bk, .ref (a 1), .ref (a 2), .int (nI (pn + 1)), .int (-1 : Int32), .int ph, .int ot, .int (-1 : Int32), .int ik, .ref (a 3), .int (0 : Int32), .ref (a 4), .ref (a 5), .ref (a 6), .ref (a 7), .ref (a 8), .ref (a 9)]) (v := .int (-1 : Int32)) Z hin X (ci := 1) (C := RX1) (T := TX1) (N := 17) rfl rfl 7 (by decide) lk_X1_place_24 rfl dX1_place_96 ?_
              refine lv_iconst (v := (-1 : Int32)) hx hb dX1_place_99 (by decide) ?_
              refine lv_icmp_ne (tgt := 107) hx hb dX1_place_100 (by decide) (fun c13 => ?_) (fun c13 => ?_)
              · exact absurd c13 (by decide)
              · have qc13 := c13
                refine lv_iconst (v := (0 : Int32)) hx hb dX1_place_103 (by decide) ?_
                refine lv_goto (tgt := 108) hx hb dX1_place_104 (by decide) ?_
                refine zput (ty := .int) (fs := [.int bk, .ref (a 1), .ref (a 2), .int (nI (pn + 1)), .int (-1 : Int32), .int ph, .int ot, .int (-1 : Int32), .int ik, .ref (a 3), .int (0 : Int32), .ref (a 4), .ref (a 5), .ref (a 6), .ref (a 7), .ref (a 8), .ref (a 9)]) (v := .int (0 : Int32)) tyX1 tyX1_ok nmX1 Z hin X (ci := 1) (C := RX1) (T := TX1) (N := 17) rfl rfl 5 (by decide) lk_X1_place_21 rfl (by decide +kernel) rfl rfl (Nat.le_of_ble_eq_true rfl) dX1_place_108 (fun H locs X => ?_)
                have X : zh g A (oM g a (bk, nI (pn + 1), (-1 : Int32), (0 : Int32), ot, (-1 : Int32), ik, (0 : Int32), upd P (v.toNatClampNeg) (nI hp), upd O hp 1, K, kd, lf, ch, be, gi, mr)) s.heap H locs := X
                refine lv_iload_n hx hb dX1_place_111 rfl (lv_at hl 0 rfl) ?_
                exact zreti Z hr hlk (bk, nI (pn + 1), (-1 : Int32), (0 : Int32), ot, (-1 : Int32), ik, (0 : Int32), upd P (v.toNatClampNeg) (nI hp), upd O hp 1, K, kd, lf, ch, be, gi, mr) X dX1_place_112 rfl (Or.inr (Or.inr ⟨⟨hn, hs, hh⟩, by first | rw [if_pos hw, if_pos hw] | rw [if_neg hw, if_neg hw, if_pos h16, if_pos h16] | rw [if_neg hw, if_neg hw, if_neg h16, if_neg h16], rfl⟩))
            · have qc12 := c12
              have c12n : (pn + 1) = 16 := zn_eqt (by omega) (by omega) c12
              have h16 : pn + 1 = 16 := c12n
              refine lv_iconst (v := (2 : Int32)) hx hb dX1_place_86 (by decide) ?_
              refine lv_goto (tgt := 91) hx hb dX1_place_87 (by decide) ?_
              refine zput (ty := .int) (fs := [.int bk, .ref (a 1), .ref (a 2), .int (nI (pn + 1)), .int (-1 : Int32), .int ph, .int ot, .int wi, .int ik, .ref (a 3), .int (0 : Int32), .ref (a 4), .ref (a 5), .ref (a 6), .ref (a 7), .ref (a 8), .ref (a 9)]) (v := .int (2 : Int32)) tyX1 tyX1_ok nmX1 Z hin X (ci := 1) (C := RX1) (T := TX1) (N := 17) rfl rfl 7 (by decide) lk_X1_place_24 rfl (by decide +kernel) rfl rfl (Nat.le_of_ble_eq_true rfl) dX1_place_91 (fun H locs X => ?_)
              have X : zh g A (oM g a (bk, nI (pn + 1), (-1 : Int32), ph, ot, (2 : Int32), ik, (0 : Int32), upd P (v.toNatClampNeg) (nI hp), upd O hp 1, K, kd, lf, ch, be, gi, mr)) s.heap H locs := X
              refine lv_aload_n hx hb dX1_place_94 rfl (lv_at hl 1 rfl) ?_
              refine lv_aload_n hx hb dX1_place_95 rfl (lv_at hl 1 rfl) ?_
              refine zget (fs := [.int bk, .ref (a 1), .ref (a 2), .int (nI (pn + 1)), .int (-1 : Int32), .int ph, .int ot, .int (2 : Int32), .int ik, .ref (a 3), .int (0 : Int32), .ref (a 4), .ref (a 5), .ref (a 6), .ref (a 7), .ref (a 8), .ref (a 9)]) (v := .int (2 : Int32)) Z hin X (ci := 1) (C := RX1) (T := TX1) (N := 17) rfl rfl 7 (by decide) lk_X1_place_24 rfl dX1_place_96 ?_
              refine lv_iconst (v := (-1 : Int32)) hx hb dX1_place_99 (by decide) ?_
              refine lv_icmp_ne (tgt := 107) hx hb dX1_place_100 (by decide) (fun c14 => ?_) (fun c14 => ?_)
              · have qc14 := c14
                refine lv_iconst (v := (2 : Int32)) hx hb dX1_place_107 (by decide) ?_
                refine zput (ty := .int) (fs := [.int bk, .ref (a 1), .ref (a 2), .int (nI (pn + 1)), .int (-1 : Int32), .int ph, .int ot, .int (2 : Int32), .int ik, .ref (a 3), .int (0 : Int32), .ref (a 4), .ref (a 5), .ref (a 6), .ref (a 7), .ref (a 8), .ref (a 9)]) (v := .int (2 : Int32)) tyX1 tyX1_ok nmX1 Z hin X (ci := 1) (C := RX1) (T := TX1) (N := 17) rfl rfl 5 (by decide) lk_X1_place_21 rfl (by decide +kernel) rfl rfl (Nat.le_of_ble_eq_true rfl) dX1_place_108 (fun H locs X => ?_)
                have X : zh g A (oM g a (bk, nI (pn + 1), (-1 : Int32), (2 : Int32), ot, (2 : Int32), ik, (0 : Int32), upd P (v.toNatClampNeg) (nI hp), upd O hp 1, K, kd, lf, ch, be, gi, mr)) s.heap H locs := X
                refine lv_iload_n hx hb dX1_place_111 rfl (lv_at hl 0 rfl) ?_
                exact zreti Z hr hlk (bk, nI (pn + 1), (-1 : Int32), (2 : Int32), ot, (2 : Int32), ik, (0 : Int32), upd P (v.toNatClampNeg) (nI hp), upd O hp 1, K, kd, lf, ch, be, gi, mr) X dX1_place_112 rfl (Or.inr (Or.inr ⟨⟨hn, hs, hh⟩, by first | rw [if_pos hw, if_pos hw] | rw [if_neg hw, if_neg hw, if_pos h16, if_pos h16] | rw [if_neg hw, if_neg hw, if_neg h16, if_neg h16], rfl⟩))
              · exact absurd c14 (by decide)
          · have qc11 := c11
            have c11n : ¬ (mWon bk (upd P (v.toNatClampNeg) (nI hp)) (v.toNatClampNeg)) ≤ 0 := zn_len (by omega) (by omega) c11
            have hw : 0 < (mWon bk (upd P (v.toNatClampNeg) (nI hp)) (v.toNatClampNeg)) := by omega
            refine lv_aload_n hx hb dX1_place_70 rfl (lv_at hl 1 rfl) ?_
            refine zget (fs := [.int bk, .ref (a 1), .ref (a 2), .int (nI (pn + 1)), .int (-1 : Int32), .int ph, .int ot, .int wi, .int ik, .ref (a 3), .int (0 : Int32), .ref (a 4), .ref (a 5), .ref (a 6), .ref (a 7), .ref (a 8), .ref (a 9)]) (v := .int ot) Z hin X (ci := 1) (C := RX1) (T := TX1) (N := 17) rfl rfl 6 (by decide) lk_X1_place_73 rfl dX1_place_71 ?_
            refine lv_goto (tgt := 91) hx hb dX1_place_74 (by decide) ?_
            refine zput (ty := .int) (fs := [.int bk, .ref (a 1), .ref (a 2), .int (nI (pn + 1)), .int (-1 : Int32), .int ph, .int ot, .int wi, .int ik, .ref (a 3), .int (0 : Int32), .ref (a 4), .ref (a 5), .ref (a 6), .ref (a 7), .ref (a 8), .ref (a 9)]) (v := .int ot) tyX1 tyX1_ok nmX1 Z hin X (ci := 1) (C := RX1) (T := TX1) (N := 17) rfl rfl 7 (by decide) lk_X1_place_24 rfl (by decide +kernel) rfl rfl (Nat.le_of_ble_eq_true rfl) dX1_place_91 (fun H locs X => ?_)
            have X : zh g A (oM g a (bk, nI (pn + 1), (-1 : Int32), ph, ot, ot, ik, (0 : Int32), upd P (v.toNatClampNeg) (nI hp), upd O hp 1, K, kd, lf, ch, be, gi, mr)) s.heap H locs := X
            refine lv_aload_n hx hb dX1_place_94 rfl (lv_at hl 1 rfl) ?_
            refine lv_aload_n hx hb dX1_place_95 rfl (lv_at hl 1 rfl) ?_
            refine zget (fs := [.int bk, .ref (a 1), .ref (a 2), .int (nI (pn + 1)), .int (-1 : Int32), .int ph, .int ot, .int ot, .int ik, .ref (a 3), .int (0 : Int32), .ref (a 4), .ref (a 5), .ref (a 6), .ref (a 7), .ref (a 8), .ref (a 9)]) (v := .int ot) Z hin X (ci := 1) (C := RX1) (T := TX1) (N := 17) rfl rfl 7 (by decide) lk_X1_place_24 rfl dX1_place_96 ?_
            refine lv_iconst (v := (-1 : Int32)) hx hb dX1_place_99 (by decide) ?_
            refine lv_icmp_ne (tgt := 107) hx hb dX1_place_100 (by decide) (fun c15 => ?_) (fun c15 => ?_)
            · have qc15 := c15
              refine lv_iconst (v := (2 : Int32)) hx hb dX1_place_107 (by decide) ?_
              refine zput (ty := .int) (fs := [.int bk, .ref (a 1), .ref (a 2), .int (nI (pn + 1)), .int (-1 : Int32), .int ph, .int ot, .int ot, .int ik, .ref (a 3), .int (0 : Int32), .ref (a 4), .ref (a 5), .ref (a 6), .ref (a 7), .ref (a 8), .ref (a 9)]) (v := .int (2 : Int32)) tyX1 tyX1_ok nmX1 Z hin X (ci := 1) (C := RX1) (T := TX1) (N := 17) rfl rfl 5 (by decide) lk_X1_place_21 rfl (by decide +kernel) rfl rfl (Nat.le_of_ble_eq_true rfl) dX1_place_108 (fun H locs X => ?_)
              have X : zh g A (oM g a (bk, nI (pn + 1), (-1 : Int32), (2 : Int32), ot, ot, ik, (0 : Int32), upd P (v.toNatClampNeg) (nI hp), upd O hp 1, K, kd, lf, ch, be, gi, mr)) s.heap H locs := X
              refine lv_iload_n hx hb dX1_place_111 rfl (lv_at hl 0 rfl) ?_
              exact zreti Z hr hlk (bk, nI (pn + 1), (-1 : Int32), (2 : Int32), ot, ot, ik, (0 : Int32), upd P (v.toNatClampNeg) (nI hp), upd O hp 1, K, kd, lf, ch, be, gi, mr) X dX1_place_112 rfl (Or.inr (Or.inr ⟨⟨hn, hs, hh⟩, by first | rw [if_pos hw, if_pos hw] | rw [if_neg hw, if_neg hw, if_pos h16, if_pos h16] | rw [if_neg hw, if_neg hw, if_neg h16, if_neg h16], rfl⟩))
            · have qc15 := c15
              exact absurd c15 hot
        · exact absurd c8 (by decide)
      · have qc6 := c6
        have hh : ¬ P (v.toNatClampNeg) = -1 := c6
        refine lv_iconst (v := (2 : Int32)) hx hb dX1_place_32 (by decide) ?_
        refine lv_goto (tgt := 37) hx hb dX1_place_33 (by decide) ?_
        refine zcallVi (n := 1) (As := [.int (2 : Int32)]) (rest := []) (ci := 1) (C := RX1) (T := TX1) (N := 17) Z X (c_X1_fails l g a bk pn hd ph ot wi ik th P O K kd lf ch be gi mr (2 : Int32)) gX1_place_X1_fails rfl (by decide +kernel) ⟨Nat.le_of_ble_eq_true rfl, Nat.le_of_ble_eq_true rfl⟩ rfl rfl rfl rfl hl.1 (Nat.le_of_ble_eq_true rfl) dX1_place_37 ⟨Nat.zero_le _, Nat.zero_le _⟩ (fun r15 ur15 H locs hrr15 X => ?_)
        obtain ⟨rfl, hfr15⟩ : ur15 = (bk, nI pn, hd, ph, ot, wi, ik, (2 : Int32), P, O, K, kd, lf, ch, be, gi, mr) ∧ r15 = zb (decide ((0 : Int32) < (2 : Int32))) := hrr15
        obtain rfl : r15 = (1 : Int32) := hfr15.trans (by decide)
        have X : zh g A (oM g a (bk, nI pn, hd, ph, ot, wi, ik, (2 : Int32), P, O, K, kd, lf, ch, be, gi, mr)) s.heap H locs := X
        refine lv_if_eq (tgt := 45) hx hb dX1_place_40 (by decide) (fun c17 => ?_) (fun c17 => ?_)
        · exact absurd c17 (by decide)
        · have qc17 := c17
          refine lv_iconst (v := (0 : Int32)) hx hb dX1_place_43 (by decide) ?_
          exact zreti Z hr hlk (bk, nI pn, hd, ph, ot, wi, ik, (2 : Int32), P, O, K, kd, lf, ch, be, gi, mr) X dX1_place_44 rfl (by first | exact Or.inl ⟨hn, rfl, rfl⟩ | exact Or.inr (Or.inl ⟨⟨hn, Or.inl hs⟩, rfl, rfl⟩) | exact Or.inr (Or.inl ⟨⟨hn, Or.inr hh⟩, rfl, rfl⟩))
  · have qc2 := c2
    have hn : mIn v 16 = false := zb_0.mp c2
    refine lv_iconst (v := (1 : Int32)) hx hb dX1_place_10 (by decide) ?_
    refine lv_goto (tgt := 37) hx hb dX1_place_11 (by decide) ?_
    refine zcallVi (n := 1) (As := [.int (1 : Int32)]) (rest := []) (ci := 1) (C := RX1) (T := TX1) (N := 17) Z X (c_X1_fails l g a bk pn hd ph ot wi ik th P O K kd lf ch be gi mr (1 : Int32)) gX1_place_X1_fails rfl (by decide +kernel) ⟨Nat.le_of_ble_eq_true rfl, Nat.le_of_ble_eq_true rfl⟩ rfl rfl rfl rfl hl.1 (Nat.le_of_ble_eq_true rfl) dX1_place_37 ⟨Nat.zero_le _, Nat.zero_le _⟩ (fun r17 ur17 H locs hrr17 X => ?_)
    obtain ⟨rfl, hfr17⟩ : ur17 = (bk, nI pn, hd, ph, ot, wi, ik, (1 : Int32), P, O, K, kd, lf, ch, be, gi, mr) ∧ r17 = zb (decide ((0 : Int32) < (1 : Int32))) := hrr17
    obtain rfl : r17 = (1 : Int32) := hfr17.trans (by decide)
    have X : zh g A (oM g a (bk, nI pn, hd, ph, ot, wi, ik, (1 : Int32), P, O, K, kd, lf, ch, be, gi, mr)) s.heap H locs := X
    refine lv_if_eq (tgt := 45) hx hb dX1_place_40 (by decide) (fun c19 => ?_) (fun c19 => ?_)
    · exact absurd c19 (by decide)
    · have qc19 := c19
      refine lv_iconst (v := (0 : Int32)) hx hb dX1_place_43 (by decide) ?_
      exact zreti Z hr hlk (bk, nI pn, hd, ph, ot, wi, ik, (1 : Int32), P, O, K, kd, lf, ch, be, gi, mr) X dX1_place_44 rfl (by first | exact Or.inl ⟨hn, rfl, rfl⟩ | exact Or.inr (Or.inl ⟨⟨hn, Or.inl hs⟩, rfl, rfl⟩) | exact Or.inr (Or.inl ⟨⟨hn, Or.inr hh⟩, rfl, rfl⟩))
theorem inw_X1_pieceAt : ∀ w ∈ wsX10, w ∈ wsX1_pieceAt := by decide +kernel
theorem lk_X1_pieceAt_7 : Cond.fieldLink RX1 7 "QuarterboardModel" "piece" "[I" ∈ wsX1_pieceAt := by decide +kernel
def P_X1_pieceAt (bk : Int32) (pn : Nat) (hd ph ot wi ik th : Int32) (P O K kd lf ch be gi mr : Nat → Int32) (v : Int32) : Int32 → MS → Prop := fun r u => (mIn v 16 = false ∧ u = (bk, nI pn, hd, ph, ot, wi, ik, 1, P, O, K, kd, lf, ch, be, gi, mr) ∧ r = 0) ∨ (mIn v 16 = true ∧ u = (bk, nI pn, hd, ph, ot, wi, ik, 0, P, O, K, kd, lf, ch, be, gi, mr) ∧ r = P (v.toNatClampNeg))
set_option maxHeartbeats 4000000 in
set_option maxRecDepth 100000 in
theorem c_X1_pieceAt (l : Launch) (g : zG) (a : Nat → Nat) (bk : Int32) (pn : Nat) (hd ph ot wi ik th : Int32) (P O K kd lf ch be gi mr : Nat → Int32) (v : Int32)  : zM l yX1_pieceAt wsX1_pieceAt 1 60 g [.ref (a 0), .int v] (oM g a (bk, nI pn, hd, ph, ot, wi, ik, th, P, O, K, kd, lf, ch, be, gi, mr)) zE0 (zQi g (P_X1_pieceAt bk pn hd ph ot wi ik th P O K kd lf ch be gi mr v) (oM g a)) := by
  refine zstart (cc := cX1_pieceAt) (maxL := 2) (ret := (some .int)) (own := RX1) rfl (by decide) rfl zSt0 (Nat.le_of_ble_eq_true rfl) ?_
  intro p e s m below meth c A Z hr hlk H locs X ls hl
  have hx := Z.1.1
  have hb := Z.1.2.1
  have hin : ∀ w ∈ wsX10, w ∈ wsX1_pieceAt := inw_X1_pieceAt
  have hl : lv_has ls 2 [(0, .ref (a 0)), (1, .int v)] := hl
  have X : zh g A (oM g a (bk, nI pn, hd, ph, ot, wi, ik, th, P, O, K, kd, lf, ch, be, gi, mr)) s.heap H locs := X
  refine lv_aload_n hx hb dX1_pieceAt_0 rfl (lv_at hl 0 rfl) ?_
  refine lv_iload_n hx hb dX1_pieceAt_1 rfl (lv_at hl 1 rfl) ?_
  refine lv_bipush (v := (16 : Int32)) hx hb dX1_pieceAt_2 (by decide) ?_
  refine zcallSi (n := 2) (As := [.int v, .int (16 : Int32)]) (rest := [.ref (a 0)]) Z X (c_X1_isIn l g v (16 : Int32) ) gX1_pieceAt_X1_isIn rfl (by decide +kernel) ⟨Nat.le_of_ble_eq_true rfl, Nat.le_of_ble_eq_true rfl⟩ rfl rfl hl.1 (Nat.le_of_ble_eq_true rfl) dX1_pieceAt_4 ⟨Nat.zero_le _, Nat.zero_le _⟩ (fun r0 H locs hrr0 X => ?_)
  obtain rfl : r0 = zb (mIn v (16 : Int32)) := hrr0
  refine lv_if_eq (tgt := 14) hx hb dX1_pieceAt_7 (by decide) (fun c2 => ?_) (fun c2 => ?_)
  · have qc2 := c2
    have hn : mIn v 16 = false := zb_0.mp c2
    refine lv_iconst (v := (1 : Int32)) hx hb dX1_pieceAt_14 (by decide) ?_
    refine zcallVi (n := 1) (As := [.int (1 : Int32)]) (rest := []) (ci := 1) (C := RX1) (T := TX1) (N := 17) Z X (c_X1_fails l g a bk pn hd ph ot wi ik th P O K kd lf ch be gi mr (1 : Int32)) gX1_pieceAt_X1_fails rfl (by decide +kernel) ⟨Nat.le_of_ble_eq_true rfl, Nat.le_of_ble_eq_true rfl⟩ rfl rfl rfl rfl hl.1 (Nat.le_of_ble_eq_true rfl) dX1_pieceAt_15 ⟨Nat.zero_le _, Nat.zero_le _⟩ (fun r2 ur2 H locs hrr2 X => ?_)
    obtain ⟨rfl, hfr2⟩ : ur2 = (bk, nI pn, hd, ph, ot, wi, ik, (1 : Int32), P, O, K, kd, lf, ch, be, gi, mr) ∧ r2 = zb (decide ((0 : Int32) < (1 : Int32))) := hrr2
    obtain rfl : r2 = (1 : Int32) := hfr2.trans (by decide)
    have X : zh g A (oM g a (bk, nI pn, hd, ph, ot, wi, ik, (1 : Int32), P, O, K, kd, lf, ch, be, gi, mr)) s.heap H locs := X
    refine lv_if_eq (tgt := 25) hx hb dX1_pieceAt_18 (by decide) (fun c4 => ?_) (fun c4 => ?_)
    · exact absurd c4 (by decide)
    · have qc4 := c4
      refine lv_iconst (v := (0 : Int32)) hx hb dX1_pieceAt_21 (by decide) ?_
      refine lv_goto (tgt := 31) hx hb dX1_pieceAt_22 (by decide) ?_
      exact zreti Z hr hlk (bk, nI pn, hd, ph, ot, wi, ik, (1 : Int32), P, O, K, kd, lf, ch, be, gi, mr) X dX1_pieceAt_31 rfl (by first | exact Or.inl ⟨hn, rfl, rfl⟩ | exact Or.inr ⟨hn, rfl, rfl⟩)
  · have qc2 := c2
    have hn : mIn v 16 = true := zb_n0.mp c2
    have hv1 := (mIn_16 hn).1
    have hv2 := (mIn_16 hn).2
    refine lv_iconst (v := (0 : Int32)) hx hb dX1_pieceAt_10 (by decide) ?_
    refine lv_goto (tgt := 15) hx hb dX1_pieceAt_11 (by decide) ?_
    refine zcallVi (n := 1) (As := [.int (0 : Int32)]) (rest := []) (ci := 1) (C := RX1) (T := TX1) (N := 17) Z X (c_X1_fails l g a bk pn hd ph ot wi ik th P O K kd lf ch be gi mr (0 : Int32)) gX1_pieceAt_X1_fails rfl (by decide +kernel) ⟨Nat.le_of_ble_eq_true rfl, Nat.le_of_ble_eq_true rfl⟩ rfl rfl rfl rfl hl.1 (Nat.le_of_ble_eq_true rfl) dX1_pieceAt_15 ⟨Nat.zero_le _, Nat.zero_le _⟩ (fun r4 ur4 H locs hrr4 X => ?_)
    obtain ⟨rfl, hfr4⟩ : ur4 = (bk, nI pn, hd, ph, ot, wi, ik, (0 : Int32), P, O, K, kd, lf, ch, be, gi, mr) ∧ r4 = zb (decide ((0 : Int32) < (0 : Int32))) := hrr4
    obtain rfl : r4 = (0 : Int32) := hfr4.trans (by decide)
    have X : zh g A (oM g a (bk, nI pn, hd, ph, ot, wi, ik, (0 : Int32), P, O, K, kd, lf, ch, be, gi, mr)) s.heap H locs := X
    refine lv_if_eq (tgt := 25) hx hb dX1_pieceAt_18 (by decide) (fun c6 => ?_) (fun c6 => ?_)
    · have qc6 := c6
      refine lv_aload_n hx hb dX1_pieceAt_25 rfl (lv_at hl 0 rfl) ?_
      refine zget (fs := [.int bk, .ref (a 1), .ref (a 2), .int (nI pn), .int hd, .int ph, .int ot, .int wi, .int ik, .ref (a 3), .int (0 : Int32), .ref (a 4), .ref (a 5), .ref (a 6), .ref (a 7), .ref (a 8), .ref (a 9)]) (v := .ref (a 1)) Z hin X (ci := 1) (C := RX1) (T := TX1) (N := 17) rfl rfl 1 (by decide) lk_X1_pieceAt_7 rfl dX1_pieceAt_26 ?_
      refine lv_iload_n hx hb dX1_pieceAt_29 rfl (lv_at hl 1 rfl) ?_
      refine zald (q0 := 1) (n := 16) (f := P) Z X rfl rfl (v.toNatClampNeg) hv1 (by omega) (by decide) dX1_pieceAt_30 ?_
      exact zreti Z hr hlk (bk, nI pn, hd, ph, ot, wi, ik, (0 : Int32), P, O, K, kd, lf, ch, be, gi, mr) X dX1_pieceAt_31 rfl (by first | exact Or.inl ⟨hn, rfl, rfl⟩ | exact Or.inr ⟨hn, rfl, rfl⟩)
    · exact absurd c6 (by decide)
theorem inw_X1_onLine : ∀ w ∈ wsX10, w ∈ wsX1_onLine := by decide +kernel
def P_X1_onLine (bk : Int32) (pn : Nat) (hd ph ot wi ik th : Int32) (P O K kd lf ch be gi mr : Nat → Int32) (v : Int32) : Int32 → MS → Prop := fun r u => (mIn v (nI (mMany bk)) = false ∧ u = (bk, nI pn, hd, ph, ot, wi, ik, 1, P, O, K, kd, lf, ch, be, gi, mr) ∧ r = 0) ∨ (mIn v (nI (mMany bk)) = true ∧ u = (bk, nI pn, hd, ph, ot, wi, ik, 0, P, O, K, kd, lf, ch, be, gi, mr) ∧ r = nI (mFul P (v.toNatClampNeg) 4))
set_option maxHeartbeats 4000000 in
set_option maxRecDepth 100000 in
theorem c_X1_onLine (l : Launch) (g : zG) (a : Nat → Nat) (bk : Int32) (pn : Nat) (hd ph ot wi ik th : Int32) (P O K kd lf ch be gi mr : Nat → Int32) (v : Int32)  : zM l yX1_onLine wsX1_onLine 2 120 g [.ref (a 0), .int v] (oM g a (bk, nI pn, hd, ph, ot, wi, ik, th, P, O, K, kd, lf, ch, be, gi, mr)) zE0 (zQi g (P_X1_onLine bk pn hd ph ot wi ik th P O K kd lf ch be gi mr v) (oM g a)) := by
  refine zstart (cc := cX1_onLine) (maxL := 2) (ret := (some .int)) (own := RX1) rfl (by decide) rfl zSt0 (Nat.le_of_ble_eq_true rfl) ?_
  intro p e s m below meth c A Z hr hlk H locs X ls hl
  have hx := Z.1.1
  have hb := Z.1.2.1
  have hin : ∀ w ∈ wsX10, w ∈ wsX1_onLine := inw_X1_onLine
  have hl : lv_has ls 2 [(0, .ref (a 0)), (1, .int v)] := hl
  have X : zh g A (oM g a (bk, nI pn, hd, ph, ot, wi, ik, th, P, O, K, kd, lf, ch, be, gi, mr)) s.heap H locs := X
  have hmy := mMany_le bk
  refine lv_aload_n hx hb dX1_onLine_0 rfl (lv_at hl 0 rfl) ?_
  refine lv_iload_n hx hb dX1_onLine_1 rfl (lv_at hl 1 rfl) ?_
  refine lv_aload_n hx hb dX1_onLine_2 rfl (lv_at hl 0 rfl) ?_
  refine zcallVi (n := 0) (As := []) (rest := [.int v, .ref (a 0)]) (ci := 1) (C := RX1) (T := TX1) (N := 17) Z X (c_X1_many l g a bk pn hd ph ot wi ik th P O K kd lf ch be gi mr  ) gX1_onLine_X1_many rfl (by decide +kernel) ⟨Nat.le_of_ble_eq_true rfl, Nat.le_of_ble_eq_true rfl⟩ rfl rfl rfl rfl hl.1 (Nat.le_of_ble_eq_true rfl) dX1_onLine_3 ⟨Nat.zero_le _, Nat.zero_le _⟩ (fun r0 ur0 H locs hrr0 X => ?_)
  obtain ⟨rfl, rfl⟩ : ur0 = (bk, nI pn, hd, ph, ot, wi, ik, th, P, O, K, kd, lf, ch, be, gi, mr) ∧ r0 = nI (mMany bk) := hrr0
  have X : zh g A (oM g a (bk, nI pn, hd, ph, ot, wi, ik, th, P, O, K, kd, lf, ch, be, gi, mr)) s.heap H locs := X
  refine zcallSi (n := 2) (As := [.int v, .int (nI (mMany bk))]) (rest := [.ref (a 0)]) Z X (c_X1_isIn l g v (nI (mMany bk)) ) gX1_onLine_X1_isIn rfl (by decide +kernel) ⟨Nat.le_of_ble_eq_true rfl, Nat.le_of_ble_eq_true rfl⟩ rfl rfl hl.1 (Nat.le_of_ble_eq_true rfl) dX1_onLine_6 ⟨Nat.zero_le _, Nat.zero_le _⟩ (fun r1 H locs hrr1 X => ?_)
  obtain rfl : r1 = zb (mIn v (nI (mMany bk))) := hrr1
  refine lv_if_eq (tgt := 16) hx hb dX1_onLine_9 (by decide) (fun c3 => ?_) (fun c3 => ?_)
  · have qc3 := c3
    have hn : mIn v (nI (mMany bk)) = false := zb_0.mp c3
    refine lv_iconst (v := (1 : Int32)) hx hb dX1_onLine_16 (by decide) ?_
    refine zcallVi (n := 1) (As := [.int (1 : Int32)]) (rest := []) (ci := 1) (C := RX1) (T := TX1) (N := 17) Z X (c_X1_fails l g a bk pn hd ph ot wi ik th P O K kd lf ch be gi mr (1 : Int32)) gX1_onLine_X1_fails rfl (by decide +kernel) ⟨Nat.le_of_ble_eq_true rfl, Nat.le_of_ble_eq_true rfl⟩ rfl rfl rfl rfl hl.1 (Nat.le_of_ble_eq_true rfl) dX1_onLine_17 ⟨Nat.zero_le _, Nat.zero_le _⟩ (fun r3 ur3 H locs hrr3 X => ?_)
    obtain ⟨rfl, hfr3⟩ : ur3 = (bk, nI pn, hd, ph, ot, wi, ik, (1 : Int32), P, O, K, kd, lf, ch, be, gi, mr) ∧ r3 = zb (decide ((0 : Int32) < (1 : Int32))) := hrr3
    obtain rfl : r3 = (1 : Int32) := hfr3.trans (by decide)
    have X : zh g A (oM g a (bk, nI pn, hd, ph, ot, wi, ik, (1 : Int32), P, O, K, kd, lf, ch, be, gi, mr)) s.heap H locs := X
    refine lv_if_eq (tgt := 27) hx hb dX1_onLine_20 (by decide) (fun c5 => ?_) (fun c5 => ?_)
    · exact absurd c5 (by decide)
    · have qc5 := c5
      refine lv_iconst (v := (0 : Int32)) hx hb dX1_onLine_23 (by decide) ?_
      refine lv_goto (tgt := 32) hx hb dX1_onLine_24 (by decide) ?_
      exact zreti Z hr hlk (bk, nI pn, hd, ph, ot, wi, ik, (1 : Int32), P, O, K, kd, lf, ch, be, gi, mr) X dX1_onLine_32 rfl (by first | exact Or.inl ⟨hn, rfl, rfl⟩ | exact Or.inr ⟨hn, rfl, rfl⟩)
  · have qc3 := c3
    have hn : mIn v (nI (mMany bk)) = true := zb_n0.mp c3
    have hv1 := (mIn_of (by omega) hn).1
    have hv2 := (mIn_of (by omega) hn).2
    refine lv_iconst (v := (0 : Int32)) hx hb dX1_onLine_12 (by decide) ?_
    refine lv_goto (tgt := 17) hx hb dX1_onLine_13 (by decide) ?_
    refine zcallVi (n := 1) (As := [.int (0 : Int32)]) (rest := []) (ci := 1) (C := RX1) (T := TX1) (N := 17) Z X (c_X1_fails l g a bk pn hd ph ot wi ik th P O K kd lf ch be gi mr (0 : Int32)) gX1_onLine_X1_fails rfl (by decide +kernel) ⟨Nat.le_of_ble_eq_true rfl, Nat.le_of_ble_eq_true rfl⟩ rfl rfl rfl rfl hl.1 (Nat.le_of_ble_eq_true rfl) dX1_onLine_17 ⟨Nat.zero_le _, Nat.zero_le _⟩ (fun r5 ur5 H locs hrr5 X => ?_)
    obtain ⟨rfl, hfr5⟩ : ur5 = (bk, nI pn, hd, ph, ot, wi, ik, (0 : Int32), P, O, K, kd, lf, ch, be, gi, mr) ∧ r5 = zb (decide ((0 : Int32) < (0 : Int32))) := hrr5
    obtain rfl : r5 = (0 : Int32) := hfr5.trans (by decide)
    have X : zh g A (oM g a (bk, nI pn, hd, ph, ot, wi, ik, (0 : Int32), P, O, K, kd, lf, ch, be, gi, mr)) s.heap H locs := X
    refine lv_if_eq (tgt := 27) hx hb dX1_onLine_20 (by decide) (fun c7 => ?_) (fun c7 => ?_)
    · have qc7 := c7
      refine lv_aload_n hx hb dX1_onLine_27 rfl (lv_at hl 0 rfl) ?_
      refine lv_iload_n hx hb dX1_onLine_28 rfl (lv_at hl 1 rfl) ?_
      refine zrwi (y := nI (v.toNatClampNeg)) (hv1) ?_
      refine zcallVi (n := 1) (As := [.int (nI (v.toNatClampNeg))]) (rest := []) (ci := 1) (C := RX1) (T := TX1) (N := 17) Z X (c_X1_full l g a bk pn hd ph ot wi ik (0 : Int32) P O K kd lf ch be gi mr (v.toNatClampNeg) (by omega)) gX1_onLine_X1_full rfl (by decide +kernel) ⟨Nat.le_of_ble_eq_true rfl, Nat.le_of_ble_eq_true rfl⟩ rfl rfl rfl rfl hl.1 (Nat.le_of_ble_eq_true rfl) dX1_onLine_29 ⟨Nat.zero_le _, Nat.zero_le _⟩ (fun r7 ur7 H locs hrr7 X => ?_)
      obtain ⟨rfl, rfl⟩ : ur7 = (bk, nI pn, hd, ph, ot, wi, ik, (0 : Int32), P, O, K, kd, lf, ch, be, gi, mr) ∧ r7 = nI (mFul P (v.toNatClampNeg) 4) := hrr7
      have X : zh g A (oM g a (bk, nI pn, hd, ph, ot, wi, ik, (0 : Int32), P, O, K, kd, lf, ch, be, gi, mr)) s.heap H locs := X
      exact zreti Z hr hlk (bk, nI pn, hd, ph, ot, wi, ik, (0 : Int32), P, O, K, kd, lf, ch, be, gi, mr) X dX1_onLine_32 rfl (by first | exact Or.inl ⟨hn, rfl, rfl⟩ | exact Or.inr ⟨hn, rfl, rfl⟩)
    · exact absurd c7 (by decide)
theorem inw_X1_shared : ∀ w ∈ wsX10, w ∈ wsX1_shared := by decide +kernel
def P_X1_shared (bk : Int32) (pn : Nat) (hd ph ot wi ik th : Int32) (P O K kd lf ch be gi mr : Nat → Int32) (v : Int32) : Int32 → MS → Prop := fun r u => (mIn v (nI (mMany bk)) = false ∧ u = (bk, nI pn, hd, ph, ot, wi, ik, 1, P, O, K, kd, lf, ch, be, gi, mr) ∧ r = 0) ∨ (mIn v (nI (mMany bk)) = true ∧ u = (bk, nI pn, hd, ph, ot, wi, ik, 0, P, O, K, kd, lf, ch, be, gi, mr) ∧ r = mCom P (v.toNatClampNeg) 4)
set_option maxHeartbeats 4000000 in
set_option maxRecDepth 100000 in
theorem c_X1_shared (l : Launch) (g : zG) (a : Nat → Nat) (bk : Int32) (pn : Nat) (hd ph ot wi ik th : Int32) (P O K kd lf ch be gi mr : Nat → Int32) (v : Int32)  : zM l yX1_shared wsX1_shared 2 120 g [.ref (a 0), .int v] (oM g a (bk, nI pn, hd, ph, ot, wi, ik, th, P, O, K, kd, lf, ch, be, gi, mr)) zE0 (zQi g (P_X1_shared bk pn hd ph ot wi ik th P O K kd lf ch be gi mr v) (oM g a)) := by
  refine zstart (cc := cX1_shared) (maxL := 2) (ret := (some .int)) (own := RX1) rfl (by decide) rfl zSt0 (Nat.le_of_ble_eq_true rfl) ?_
  intro p e s m below meth c A Z hr hlk H locs X ls hl
  have hx := Z.1.1
  have hb := Z.1.2.1
  have hin : ∀ w ∈ wsX10, w ∈ wsX1_shared := inw_X1_shared
  have hl : lv_has ls 2 [(0, .ref (a 0)), (1, .int v)] := hl
  have X : zh g A (oM g a (bk, nI pn, hd, ph, ot, wi, ik, th, P, O, K, kd, lf, ch, be, gi, mr)) s.heap H locs := X
  have hmy := mMany_le bk
  refine lv_aload_n hx hb dX1_shared_0 rfl (lv_at hl 0 rfl) ?_
  refine lv_iload_n hx hb dX1_shared_1 rfl (lv_at hl 1 rfl) ?_
  refine lv_aload_n hx hb dX1_shared_2 rfl (lv_at hl 0 rfl) ?_
  refine zcallVi (n := 0) (As := []) (rest := [.int v, .ref (a 0)]) (ci := 1) (C := RX1) (T := TX1) (N := 17) Z X (c_X1_many l g a bk pn hd ph ot wi ik th P O K kd lf ch be gi mr  ) gX1_shared_X1_many rfl (by decide +kernel) ⟨Nat.le_of_ble_eq_true rfl, Nat.le_of_ble_eq_true rfl⟩ rfl rfl rfl rfl hl.1 (Nat.le_of_ble_eq_true rfl) dX1_shared_3 ⟨Nat.zero_le _, Nat.zero_le _⟩ (fun r0 ur0 H locs hrr0 X => ?_)
  obtain ⟨rfl, rfl⟩ : ur0 = (bk, nI pn, hd, ph, ot, wi, ik, th, P, O, K, kd, lf, ch, be, gi, mr) ∧ r0 = nI (mMany bk) := hrr0
  have X : zh g A (oM g a (bk, nI pn, hd, ph, ot, wi, ik, th, P, O, K, kd, lf, ch, be, gi, mr)) s.heap H locs := X
  refine zcallSi (n := 2) (As := [.int v, .int (nI (mMany bk))]) (rest := [.ref (a 0)]) Z X (c_X1_isIn l g v (nI (mMany bk)) ) gX1_shared_X1_isIn rfl (by decide +kernel) ⟨Nat.le_of_ble_eq_true rfl, Nat.le_of_ble_eq_true rfl⟩ rfl rfl hl.1 (Nat.le_of_ble_eq_true rfl) dX1_shared_6 ⟨Nat.zero_le _, Nat.zero_le _⟩ (fun r1 H locs hrr1 X => ?_)
  obtain rfl : r1 = zb (mIn v (nI (mMany bk))) := hrr1
  refine lv_if_eq (tgt := 16) hx hb dX1_shared_9 (by decide) (fun c3 => ?_) (fun c3 => ?_)
  · have qc3 := c3
    have hn : mIn v (nI (mMany bk)) = false := zb_0.mp c3
    refine lv_iconst (v := (1 : Int32)) hx hb dX1_shared_16 (by decide) ?_
    refine zcallVi (n := 1) (As := [.int (1 : Int32)]) (rest := []) (ci := 1) (C := RX1) (T := TX1) (N := 17) Z X (c_X1_fails l g a bk pn hd ph ot wi ik th P O K kd lf ch be gi mr (1 : Int32)) gX1_shared_X1_fails rfl (by decide +kernel) ⟨Nat.le_of_ble_eq_true rfl, Nat.le_of_ble_eq_true rfl⟩ rfl rfl rfl rfl hl.1 (Nat.le_of_ble_eq_true rfl) dX1_shared_17 ⟨Nat.zero_le _, Nat.zero_le _⟩ (fun r3 ur3 H locs hrr3 X => ?_)
    obtain ⟨rfl, hfr3⟩ : ur3 = (bk, nI pn, hd, ph, ot, wi, ik, (1 : Int32), P, O, K, kd, lf, ch, be, gi, mr) ∧ r3 = zb (decide ((0 : Int32) < (1 : Int32))) := hrr3
    obtain rfl : r3 = (1 : Int32) := hfr3.trans (by decide)
    have X : zh g A (oM g a (bk, nI pn, hd, ph, ot, wi, ik, (1 : Int32), P, O, K, kd, lf, ch, be, gi, mr)) s.heap H locs := X
    refine lv_if_eq (tgt := 27) hx hb dX1_shared_20 (by decide) (fun c5 => ?_) (fun c5 => ?_)
    · exact absurd c5 (by decide)
    · have qc5 := c5
      refine lv_iconst (v := (0 : Int32)) hx hb dX1_shared_23 (by decide) ?_
      refine lv_goto (tgt := 32) hx hb dX1_shared_24 (by decide) ?_
      exact zreti Z hr hlk (bk, nI pn, hd, ph, ot, wi, ik, (1 : Int32), P, O, K, kd, lf, ch, be, gi, mr) X dX1_shared_32 rfl (by first | exact Or.inl ⟨hn, rfl, rfl⟩ | exact Or.inr ⟨hn, rfl, rfl⟩)
  · have qc3 := c3
    have hn : mIn v (nI (mMany bk)) = true := zb_n0.mp c3
    have hv1 := (mIn_of (by omega) hn).1
    have hv2 := (mIn_of (by omega) hn).2
    refine lv_iconst (v := (0 : Int32)) hx hb dX1_shared_12 (by decide) ?_
    refine lv_goto (tgt := 17) hx hb dX1_shared_13 (by decide) ?_
    refine zcallVi (n := 1) (As := [.int (0 : Int32)]) (rest := []) (ci := 1) (C := RX1) (T := TX1) (N := 17) Z X (c_X1_fails l g a bk pn hd ph ot wi ik th P O K kd lf ch be gi mr (0 : Int32)) gX1_shared_X1_fails rfl (by decide +kernel) ⟨Nat.le_of_ble_eq_true rfl, Nat.le_of_ble_eq_true rfl⟩ rfl rfl rfl rfl hl.1 (Nat.le_of_ble_eq_true rfl) dX1_shared_17 ⟨Nat.zero_le _, Nat.zero_le _⟩ (fun r5 ur5 H locs hrr5 X => ?_)
    obtain ⟨rfl, hfr5⟩ : ur5 = (bk, nI pn, hd, ph, ot, wi, ik, (0 : Int32), P, O, K, kd, lf, ch, be, gi, mr) ∧ r5 = zb (decide ((0 : Int32) < (0 : Int32))) := hrr5
    obtain rfl : r5 = (0 : Int32) := hfr5.trans (by decide)
    have X : zh g A (oM g a (bk, nI pn, hd, ph, ot, wi, ik, (0 : Int32), P, O, K, kd, lf, ch, be, gi, mr)) s.heap H locs := X
    refine lv_if_eq (tgt := 27) hx hb dX1_shared_20 (by decide) (fun c7 => ?_) (fun c7 => ?_)
    · have qc7 := c7
      refine lv_aload_n hx hb dX1_shared_27 rfl (lv_at hl 0 rfl) ?_
      refine lv_iload_n hx hb dX1_shared_28 rfl (lv_at hl 1 rfl) ?_
      refine zrwi (y := nI (v.toNatClampNeg)) (hv1) ?_
      refine zcallVi (n := 1) (As := [.int (nI (v.toNatClampNeg))]) (rest := []) (ci := 1) (C := RX1) (T := TX1) (N := 17) Z X (c_X1_common l g a bk pn hd ph ot wi ik (0 : Int32) P O K kd lf ch be gi mr (v.toNatClampNeg) (by omega)) gX1_shared_X1_common rfl (by decide +kernel) ⟨Nat.le_of_ble_eq_true rfl, Nat.le_of_ble_eq_true rfl⟩ rfl rfl rfl rfl hl.1 (Nat.le_of_ble_eq_true rfl) dX1_shared_29 ⟨Nat.zero_le _, Nat.zero_le _⟩ (fun r7 ur7 H locs hrr7 X => ?_)
      obtain ⟨rfl, rfl⟩ : ur7 = (bk, nI pn, hd, ph, ot, wi, ik, (0 : Int32), P, O, K, kd, lf, ch, be, gi, mr) ∧ r7 = mCom P (v.toNatClampNeg) 4 := hrr7
      have X : zh g A (oM g a (bk, nI pn, hd, ph, ot, wi, ik, (0 : Int32), P, O, K, kd, lf, ch, be, gi, mr)) s.heap H locs := X
      exact zreti Z hr hlk (bk, nI pn, hd, ph, ot, wi, ik, (0 : Int32), P, O, K, kd, lf, ch, be, gi, mr) X dX1_shared_32 rfl (by first | exact Or.inl ⟨hn, rfl, rfl⟩ | exact Or.inr ⟨hn, rfl, rfl⟩)
    · exact absurd c7 (by decide)
theorem inw_X1_winning : ∀ w ∈ wsX10, w ∈ wsX1_winning := by decide +kernel
theorem lk_X1_winning_13 : Cond.fieldLink RX1 13 "QuarterboardModel" "isOn" "[Z" ∈ wsX1_winning := by decide +kernel
theorem lk_X1_winning_21 : Cond.fieldLink RX1 21 "QuarterboardModel" "phase" "I" ∈ wsX1_winning := by decide +kernel
def P_X1_winning (bk : Int32) (pn : Nat) (hd ph ot wi ik th : Int32) (P O K kd lf ch be gi mr : Nat → Int32) (v : Int32) : Int32 → MS → Prop := fun r u => (mIn v 16 = false ∧ u = (bk, nI pn, hd, ph, ot, wi, ik, 1, P, O, K, kd, lf, ch, be, gi, mr) ∧ r = 0) ∨ ((mIn v 16 = true ∧ (¬ O (v.toNatClampNeg) = 0 ∨ ph = 2)) ∧ u = (bk, nI pn, hd, ph, ot, wi, ik, 2, P, O, K, kd, lf, ch, be, gi, mr) ∧ r = 0) ∨ ((mIn v 16 = true ∧ O (v.toNatClampNeg) = 0 ∧ ¬ ph = 2) ∧ u = (bk, nI pn, hd, ph, ot, wi, ik, 0, P, O, K, kd, lf, ch, be, gi, mr) ∧ r = mWinS bk P (v.toNatClampNeg) 16)
set_option maxHeartbeats 4000000 in
set_option maxRecDepth 100000 in
theorem c_X1_winning (l : Launch) (g : zG) (a : Nat → Nat) (bk : Int32) (pn : Nat) (hd ph ot wi ik th : Int32) (P O K kd lf ch be gi mr : Nat → Int32) (v : Int32) (hpn : pn < 1000) : zM l yX1_winning wsX1_winning 5 300 g [.ref (a 0), .int v] (oM g a (bk, nI pn, hd, ph, ot, wi, ik, th, P, O, K, kd, lf, ch, be, gi, mr)) zE0 (zQi g (P_X1_winning bk pn hd ph ot wi ik th P O K kd lf ch be gi mr v) (oM g a)) := by
  refine zstart (cc := cX1_winning) (maxL := 2) (ret := (some .int)) (own := RX1) rfl (by decide) rfl zSt0 (Nat.le_of_ble_eq_true rfl) ?_
  intro p e s m below meth c A Z hr hlk H locs X ls hl
  have hx := Z.1.1
  have hb := Z.1.2.1
  have hin : ∀ w ∈ wsX10, w ∈ wsX1_winning := inw_X1_winning
  have hl : lv_has ls 2 [(0, .ref (a 0)), (1, .int v)] := hl
  have X : zh g A (oM g a (bk, nI pn, hd, ph, ot, wi, ik, th, P, O, K, kd, lf, ch, be, gi, mr)) s.heap H locs := X
  refine lv_aload_n hx hb dX1_winning_0 rfl (lv_at hl 0 rfl) ?_
  refine lv_iload_n hx hb dX1_winning_1 rfl (lv_at hl 1 rfl) ?_
  refine lv_bipush (v := (16 : Int32)) hx hb dX1_winning_2 (by decide) ?_
  refine zcallSi (n := 2) (As := [.int v, .int (16 : Int32)]) (rest := [.ref (a 0)]) Z X (c_X1_isIn l g v (16 : Int32) ) gX1_winning_X1_isIn rfl (by decide +kernel) ⟨Nat.le_of_ble_eq_true rfl, Nat.le_of_ble_eq_true rfl⟩ rfl rfl hl.1 (Nat.le_of_ble_eq_true rfl) dX1_winning_4 ⟨Nat.zero_le _, Nat.zero_le _⟩ (fun r0 H locs hrr0 X => ?_)
  obtain rfl : r0 = zb (mIn v (16 : Int32)) := hrr0
  refine lv_if_ne (tgt := 14) hx hb dX1_winning_7 (by decide) (fun c2 => ?_) (fun c2 => ?_)
  · have qc2 := c2
    have hn : mIn v 16 = true := zb_n0.mp c2
    have hv1 := (mIn_16 hn).1
    have hv2 := (mIn_16 hn).2
    refine lv_aload_n hx hb dX1_winning_14 rfl (lv_at hl 0 rfl) ?_
    refine zget (fs := [.int bk, .ref (a 1), .ref (a 2), .int (nI pn), .int hd, .int ph, .int ot, .int wi, .int ik, .ref (a 3), .int th, .ref (a 4), .ref (a 5), .ref (a 6), .ref (a 7), .ref (a 8), .ref (a 9)]) (v := .ref (a 2)) Z hin X (ci := 1) (C := RX1) (T := TX1) (N := 17) rfl rfl 2 (by decide) lk_X1_winning_13 rfl dX1_winning_15 ?_
    refine lv_iload_n hx hb dX1_winning_18 rfl (lv_at hl 1 rfl) ?_
    refine zbld (q0 := 2) (n := 16) (f := O) Z X rfl rfl (v.toNatClampNeg) hv1 (by omega) (by decide) dX1_winning_19 ?_
    refine lv_if_ne (tgt := 31) hx hb dX1_winning_20 (by decide) (fun c3 => ?_) (fun c3 => ?_)
    · have qc3 := c3
      have hh : ¬ O (v.toNatClampNeg) = 0 := c3
      refine lv_iconst (v := (2 : Int32)) hx hb dX1_winning_31 (by decide) ?_
      refine lv_goto (tgt := 36) hx hb dX1_winning_32 (by decide) ?_
      refine zcallVi (n := 1) (As := [.int (2 : Int32)]) (rest := []) (ci := 1) (C := RX1) (T := TX1) (N := 17) Z X (c_X1_fails l g a bk pn hd ph ot wi ik th P O K kd lf ch be gi mr (2 : Int32)) gX1_winning_X1_fails rfl (by decide +kernel) ⟨Nat.le_of_ble_eq_true rfl, Nat.le_of_ble_eq_true rfl⟩ rfl rfl rfl rfl hl.1 (Nat.le_of_ble_eq_true rfl) dX1_winning_36 ⟨Nat.zero_le _, Nat.zero_le _⟩ (fun r3 ur3 H locs hrr3 X => ?_)
      obtain ⟨rfl, hfr3⟩ : ur3 = (bk, nI pn, hd, ph, ot, wi, ik, (2 : Int32), P, O, K, kd, lf, ch, be, gi, mr) ∧ r3 = zb (decide ((0 : Int32) < (2 : Int32))) := hrr3
      obtain rfl : r3 = (1 : Int32) := hfr3.trans (by decide)
      have X : zh g A (oM g a (bk, nI pn, hd, ph, ot, wi, ik, (2 : Int32), P, O, K, kd, lf, ch, be, gi, mr)) s.heap H locs := X
      refine lv_if_eq (tgt := 46) hx hb dX1_winning_39 (by decide) (fun c5 => ?_) (fun c5 => ?_)
      · exact absurd c5 (by decide)
      · have qc5 := c5
        refine lv_iconst (v := (0 : Int32)) hx hb dX1_winning_42 (by decide) ?_
        refine lv_goto (tgt := 51) hx hb dX1_winning_43 (by decide) ?_
        exact zreti Z hr hlk (bk, nI pn, hd, ph, ot, wi, ik, (2 : Int32), P, O, K, kd, lf, ch, be, gi, mr) X dX1_winning_51 rfl (by first | exact Or.inl ⟨hn, rfl, rfl⟩ | exact Or.inr (Or.inl ⟨⟨hn, Or.inl hh⟩, rfl, rfl⟩) | exact Or.inr (Or.inl ⟨⟨hn, Or.inr hs⟩, rfl, rfl⟩) | exact Or.inr (Or.inr ⟨⟨hn, hh, hs⟩, rfl, rfl⟩))
    · have qc3 := c3
      have hh : O (v.toNatClampNeg) = 0 := c3
      refine lv_aload_n hx hb dX1_winning_23 rfl (lv_at hl 0 rfl) ?_
      refine zget (fs := [.int bk, .ref (a 1), .ref (a 2), .int (nI pn), .int hd, .int ph, .int ot, .int wi, .int ik, .ref (a 3), .int th, .ref (a 4), .ref (a 5), .ref (a 6), .ref (a 7), .ref (a 8), .ref (a 9)]) (v := .int ph) Z hin X (ci := 1) (C := RX1) (T := TX1) (N := 17) rfl rfl 5 (by decide) lk_X1_winning_21 rfl dX1_winning_24 ?_
      refine lv_iconst (v := (2 : Int32)) hx hb dX1_winning_27 (by decide) ?_
      refine lv_icmp_ne (tgt := 35) hx hb dX1_winning_28 (by decide) (fun c6 => ?_) (fun c6 => ?_)
      · have qc6 := c6
        have hs : ¬ ph = 2 := c6
        refine lv_iconst (v := (0 : Int32)) hx hb dX1_winning_35 (by decide) ?_
        refine zcallVi (n := 1) (As := [.int (0 : Int32)]) (rest := []) (ci := 1) (C := RX1) (T := TX1) (N := 17) Z X (c_X1_fails l g a bk pn hd ph ot wi ik th P O K kd lf ch be gi mr (0 : Int32)) gX1_winning_X1_fails rfl (by decide +kernel) ⟨Nat.le_of_ble_eq_true rfl, Nat.le_of_ble_eq_true rfl⟩ rfl rfl rfl rfl hl.1 (Nat.le_of_ble_eq_true rfl) dX1_winning_36 ⟨Nat.zero_le _, Nat.zero_le _⟩ (fun r6 ur6 H locs hrr6 X => ?_)
        obtain ⟨rfl, hfr6⟩ : ur6 = (bk, nI pn, hd, ph, ot, wi, ik, (0 : Int32), P, O, K, kd, lf, ch, be, gi, mr) ∧ r6 = zb (decide ((0 : Int32) < (0 : Int32))) := hrr6
        obtain rfl : r6 = (0 : Int32) := hfr6.trans (by decide)
        have X : zh g A (oM g a (bk, nI pn, hd, ph, ot, wi, ik, (0 : Int32), P, O, K, kd, lf, ch, be, gi, mr)) s.heap H locs := X
        refine lv_if_eq (tgt := 46) hx hb dX1_winning_39 (by decide) (fun c8 => ?_) (fun c8 => ?_)
        · have qc8 := c8
          refine lv_aload_n hx hb dX1_winning_46 rfl (lv_at hl 0 rfl) ?_
          refine lv_iload_n hx hb dX1_winning_47 rfl (lv_at hl 1 rfl) ?_
          refine zrwi (y := nI (v.toNatClampNeg)) (hv1) ?_
          refine zcallVi (n := 1) (As := [.int (nI (v.toNatClampNeg))]) (rest := []) (ci := 1) (C := RX1) (T := TX1) (N := 17) Z X (c_X1_winners l g a bk pn hd ph ot wi ik (0 : Int32) P O K kd lf ch be gi mr (v.toNatClampNeg) hv2 hpn hh) gX1_winning_X1_winners rfl (by decide +kernel) ⟨Nat.le_of_ble_eq_true rfl, Nat.le_of_ble_eq_true rfl⟩ rfl rfl rfl rfl hl.1 (Nat.le_of_ble_eq_true rfl) dX1_winning_48 ⟨Nat.zero_le _, Nat.zero_le _⟩ (fun r8 ur8 H locs hrr8 X => ?_)
          obtain ⟨rfl, rfl⟩ : ur8 = (bk, nI pn, hd, ph, ot, wi, ik, (0 : Int32), P, O, K, kd, lf, ch, be, gi, mr) ∧ r8 = mWinS bk P (v.toNatClampNeg) 16 := hrr8
          have X : zh g A (oM g a (bk, nI pn, hd, ph, ot, wi, ik, (0 : Int32), P, O, K, kd, lf, ch, be, gi, mr)) s.heap H locs := X
          exact zreti Z hr hlk (bk, nI pn, hd, ph, ot, wi, ik, (0 : Int32), P, O, K, kd, lf, ch, be, gi, mr) X dX1_winning_51 rfl (by first | exact Or.inl ⟨hn, rfl, rfl⟩ | exact Or.inr (Or.inl ⟨⟨hn, Or.inl hh⟩, rfl, rfl⟩) | exact Or.inr (Or.inl ⟨⟨hn, Or.inr hs⟩, rfl, rfl⟩) | exact Or.inr (Or.inr ⟨⟨hn, hh, hs⟩, rfl, rfl⟩))
        · exact absurd c8 (by decide)
      · have qc6 := c6
        have hs : ph = 2 := c6
        refine lv_iconst (v := (2 : Int32)) hx hb dX1_winning_31 (by decide) ?_
        refine lv_goto (tgt := 36) hx hb dX1_winning_32 (by decide) ?_
        refine zcallVi (n := 1) (As := [.int (2 : Int32)]) (rest := []) (ci := 1) (C := RX1) (T := TX1) (N := 17) Z X (c_X1_fails l g a bk pn hd ph ot wi ik th P O K kd lf ch be gi mr (2 : Int32)) gX1_winning_X1_fails rfl (by decide +kernel) ⟨Nat.le_of_ble_eq_true rfl, Nat.le_of_ble_eq_true rfl⟩ rfl rfl rfl rfl hl.1 (Nat.le_of_ble_eq_true rfl) dX1_winning_36 ⟨Nat.zero_le _, Nat.zero_le _⟩ (fun r9 ur9 H locs hrr9 X => ?_)
        obtain ⟨rfl, hfr9⟩ : ur9 = (bk, nI pn, hd, ph, ot, wi, ik, (2 : Int32), P, O, K, kd, lf, ch, be, gi, mr) ∧ r9 = zb (decide ((0 : Int32) < (2 : Int32))) := hrr9
        obtain rfl : r9 = (1 : Int32) := hfr9.trans (by decide)
        have X : zh g A (oM g a (bk, nI pn, hd, ph, ot, wi, ik, (2 : Int32), P, O, K, kd, lf, ch, be, gi, mr)) s.heap H locs := X
        refine lv_if_eq (tgt := 46) hx hb dX1_winning_39 (by decide) (fun c11 => ?_) (fun c11 => ?_)
        · exact absurd c11 (by decide)
        · have qc11 := c11
          refine lv_iconst (v := (0 : Int32)) hx hb dX1_winning_42 (by decide) ?_
          refine lv_goto (tgt := 51) hx hb dX1_winning_43 (by decide) ?_
          exact zreti Z hr hlk (bk, nI pn, hd, ph, ot, wi, ik, (2 : Int32), P, O, K, kd, lf, ch, be, gi, mr) X dX1_winning_51 rfl (by first | exact Or.inl ⟨hn, rfl, rfl⟩ | exact Or.inr (Or.inl ⟨⟨hn, Or.inl hh⟩, rfl, rfl⟩) | exact Or.inr (Or.inl ⟨⟨hn, Or.inr hs⟩, rfl, rfl⟩) | exact Or.inr (Or.inr ⟨⟨hn, hh, hs⟩, rfl, rfl⟩))
  · have qc2 := c2
    have hn : mIn v 16 = false := zb_0.mp c2
    refine lv_iconst (v := (1 : Int32)) hx hb dX1_winning_10 (by decide) ?_
    refine lv_goto (tgt := 36) hx hb dX1_winning_11 (by decide) ?_
    refine zcallVi (n := 1) (As := [.int (1 : Int32)]) (rest := []) (ci := 1) (C := RX1) (T := TX1) (N := 17) Z X (c_X1_fails l g a bk pn hd ph ot wi ik th P O K kd lf ch be gi mr (1 : Int32)) gX1_winning_X1_fails rfl (by decide +kernel) ⟨Nat.le_of_ble_eq_true rfl, Nat.le_of_ble_eq_true rfl⟩ rfl rfl rfl rfl hl.1 (Nat.le_of_ble_eq_true rfl) dX1_winning_36 ⟨Nat.zero_le _, Nat.zero_le _⟩ (fun r11 ur11 H locs hrr11 X => ?_)
    obtain ⟨rfl, hfr11⟩ : ur11 = (bk, nI pn, hd, ph, ot, wi, ik, (1 : Int32), P, O, K, kd, lf, ch, be, gi, mr) ∧ r11 = zb (decide ((0 : Int32) < (1 : Int32))) := hrr11
    obtain rfl : r11 = (1 : Int32) := hfr11.trans (by decide)
    have X : zh g A (oM g a (bk, nI pn, hd, ph, ot, wi, ik, (1 : Int32), P, O, K, kd, lf, ch, be, gi, mr)) s.heap H locs := X
    refine lv_if_eq (tgt := 46) hx hb dX1_winning_39 (by decide) (fun c13 => ?_) (fun c13 => ?_)
    · exact absurd c13 (by decide)
    · have qc13 := c13
      refine lv_iconst (v := (0 : Int32)) hx hb dX1_winning_42 (by decide) ?_
      refine lv_goto (tgt := 51) hx hb dX1_winning_43 (by decide) ?_
      exact zreti Z hr hlk (bk, nI pn, hd, ph, ot, wi, ik, (1 : Int32), P, O, K, kd, lf, ch, be, gi, mr) X dX1_winning_51 rfl (by first | exact Or.inl ⟨hn, rfl, rfl⟩ | exact Or.inr (Or.inl ⟨⟨hn, Or.inl hh⟩, rfl, rfl⟩) | exact Or.inr (Or.inl ⟨⟨hn, Or.inr hs⟩, rfl, rfl⟩) | exact Or.inr (Or.inr ⟨⟨hn, hh, hs⟩, rfl, rfl⟩))
theorem inw_X1_safe : ∀ w ∈ wsX10, w ∈ wsX1_safe := by decide +kernel
theorem lk_X1_safe_21 : Cond.fieldLink RX1 21 "QuarterboardModel" "phase" "I" ∈ wsX1_safe := by decide +kernel
theorem lk_X1_safe_13 : Cond.fieldLink RX1 13 "QuarterboardModel" "isOn" "[Z" ∈ wsX1_safe := by decide +kernel
def P_X1_safe (bk : Int32) (pn : Nat) (hd ph ot wi ik th : Int32) (P O K kd lf ch be gi mr : Nat → Int32) : Int32 → MS → Prop := fun r u => (¬ ph = 0 ∧ u = (bk, nI pn, hd, ph, ot, wi, ik, 1, P, O, K, kd, lf, ch, be, gi, mr) ∧ r = 0) ∨ (ph = 0 ∧ u = (bk, nI pn, hd, ph, ot, wi, ik, 0, P, O, K, kd, lf, ch, be, gi, mr) ∧ r = mSafS bk P O 16)
set_option maxHeartbeats 4000000 in
set_option maxRecDepth 100000 in
theorem c_X1_safe (l : Launch) (g : zG) (a : Nat → Nat) (bk : Int32) (pn : Nat) (hd ph ot wi ik th : Int32) (P O K kd lf ch be gi mr : Nat → Int32)  (hpn : pn < 1000) : zM l yX1_safe wsX1_safe 5 300 g [.ref (a 0)] (oM g a (bk, nI pn, hd, ph, ot, wi, ik, th, P, O, K, kd, lf, ch, be, gi, mr)) zE0 (zQi g (P_X1_safe bk pn hd ph ot wi ik th P O K kd lf ch be gi mr) (oM g a)) := by
  refine zstart (cc := cX1_safe) (maxL := 3) (ret := (some .int)) (own := RX1) rfl (by decide) rfl zSt0 (Nat.le_of_ble_eq_true rfl) ?_
  intro p e s m below meth c A Z hr hlk H locs X ls hl
  have hx := Z.1.1
  have hb := Z.1.2.1
  have hin : ∀ w ∈ wsX10, w ∈ wsX1_safe := inw_X1_safe
  have hl : lv_has ls 3 [(0, .ref (a 0))] := hl
  have X : zh g A (oM g a (bk, nI pn, hd, ph, ot, wi, ik, th, P, O, K, kd, lf, ch, be, gi, mr)) s.heap H locs := X
  refine lv_aload_n hx hb dX1_safe_0 rfl (lv_at hl 0 rfl) ?_
  refine lv_aload_n hx hb dX1_safe_1 rfl (lv_at hl 0 rfl) ?_
  refine zget (fs := [.int bk, .ref (a 1), .ref (a 2), .int (nI pn), .int hd, .int ph, .int ot, .int wi, .int ik, .ref (a 3), .int th, .ref (a 4), .ref (a 5), .ref (a 6), .ref (a 7), .ref (a 8), .ref (a 9)]) (v := .int ph) Z hin X (ci := 1) (C := RX1) (T := TX1) (N := 17) rfl rfl 5 (by decide) lk_X1_safe_21 rfl dX1_safe_2 ?_
  refine lv_if_ne (tgt := 12) hx hb dX1_safe_5 (by decide) (fun c1 => ?_) (fun c1 => ?_)
  · have qc1 := c1
    have hs : ¬ ph = 0 := c1
    refine lv_iconst (v := (1 : Int32)) hx hb dX1_safe_12 (by decide) ?_
    refine zcallVi (n := 1) (As := [.int (1 : Int32)]) (rest := []) (ci := 1) (C := RX1) (T := TX1) (N := 17) Z X (c_X1_fails l g a bk pn hd ph ot wi ik th P O K kd lf ch be gi mr (1 : Int32)) gX1_safe_X1_fails rfl (by decide +kernel) ⟨Nat.le_of_ble_eq_true rfl, Nat.le_of_ble_eq_true rfl⟩ rfl rfl rfl rfl hl.1 (Nat.le_of_ble_eq_true rfl) dX1_safe_13 ⟨Nat.zero_le _, Nat.zero_le _⟩ (fun r1 ur1 H locs hrr1 X => ?_)
    obtain ⟨rfl, hfr1⟩ : ur1 = (bk, nI pn, hd, ph, ot, wi, ik, (1 : Int32), P, O, K, kd, lf, ch, be, gi, mr) ∧ r1 = zb (decide ((0 : Int32) < (1 : Int32))) := hrr1
    obtain rfl : r1 = (1 : Int32) := hfr1.trans (by decide)
    have X : zh g A (oM g a (bk, nI pn, hd, ph, ot, wi, ik, (1 : Int32), P, O, K, kd, lf, ch, be, gi, mr)) s.heap H locs := X
    refine lv_if_eq (tgt := 21) hx hb dX1_safe_16 (by decide) (fun c3 => ?_) (fun c3 => ?_)
    · exact absurd c3 (by decide)
    · have qc3 := c3
      refine lv_iconst (v := (0 : Int32)) hx hb dX1_safe_19 (by decide) ?_
      exact zreti Z hr hlk (bk, nI pn, hd, ph, ot, wi, ik, (1 : Int32), P, O, K, kd, lf, ch, be, gi, mr) X dX1_safe_20 rfl (Or.inl ⟨hs, rfl, rfl⟩)
  · have qc1 := c1
    have hs : ph = 0 := c1
    refine lv_iconst (v := (0 : Int32)) hx hb dX1_safe_8 (by decide) ?_
    refine lv_goto (tgt := 13) hx hb dX1_safe_9 (by decide) ?_
    refine zcallVi (n := 1) (As := [.int (0 : Int32)]) (rest := []) (ci := 1) (C := RX1) (T := TX1) (N := 17) Z X (c_X1_fails l g a bk pn hd ph ot wi ik th P O K kd lf ch be gi mr (0 : Int32)) gX1_safe_X1_fails rfl (by decide +kernel) ⟨Nat.le_of_ble_eq_true rfl, Nat.le_of_ble_eq_true rfl⟩ rfl rfl rfl rfl hl.1 (Nat.le_of_ble_eq_true rfl) dX1_safe_13 ⟨Nat.zero_le _, Nat.zero_le _⟩ (fun r3 ur3 H locs hrr3 X => ?_)
    obtain ⟨rfl, hfr3⟩ : ur3 = (bk, nI pn, hd, ph, ot, wi, ik, (0 : Int32), P, O, K, kd, lf, ch, be, gi, mr) ∧ r3 = zb (decide ((0 : Int32) < (0 : Int32))) := hrr3
    obtain rfl : r3 = (0 : Int32) := hfr3.trans (by decide)
    have X : zh g A (oM g a (bk, nI pn, hd, ph, ot, wi, ik, (0 : Int32), P, O, K, kd, lf, ch, be, gi, mr)) s.heap H locs := X
    refine lv_if_eq (tgt := 21) hx hb dX1_safe_16 (by decide) (fun c5 => ?_) (fun c5 => ?_)
    · have qc5 := c5
      refine lv_iconst (v := (0 : Int32)) hx hb dX1_safe_21 (by decide) ?_
      refine lv_istore_n (lv' := [(1, .int (0 : Int32)), (0, .ref (a 0))]) hx hb dX1_safe_22 rfl hl (by decide) rfl (fun ls hl => ?_)
      refine lv_iconst (v := (0 : Int32)) hx hb dX1_safe_23 (by decide) ?_
      refine lv_istore_n (lv' := [(2, .int (0 : Int32)), (1, .int (0 : Int32)), (0, .ref (a 0))]) hx hb dX1_safe_24 rfl hl (by decide) rfl (fun ls hl => ?_)
      have cut25 : ∀ (n25 : Nat), ∀ (k : Nat) (acc : Int32), (k ≤ 16) → (acc = mSafS bk P O k) → (17 - k ≤ n25) → ∀ (H : Heap) (locs : List Loc) (ls : Array Slot), zh g A (oM g a (bk, nI pn, hd, ph, ot, wi, ik, (0 : Int32), P, O, K, kd, lf, ch, be, gi, mr)) s.heap H locs → lv_has ls 3 [(2, .int (nI k)), (1, .int acc), (0, .ref (a 0))] → W p l e { frames := 5, cells := 0, slots := 0, locals := 300 } s m ([.ref (a 0)] : List Value).toArray below meth c H locs 0 0 (MQ below ((zQi g (P_X1_safe bk pn hd ph ot wi ik th P O K kd lf ch be gi mr) (oM g a)) A) ([.ref (a 0)] : List Value).toArray s 0 0 A) (F0 m 25 ls []) := by
        intro n25
        induction n25 with
        | zero =>
          intro k acc hk hacc hm25
          exact absurd hm25 (by omega)
        | succ n25 ih25 =>
          intro k acc hk hacc hm25 H locs ls X hl
          refine lv_iload_n hx hb dX1_safe_25 rfl (lv_at hl 0 rfl) ?_
          refine lv_bipush (v := (16 : Int32)) hx hb dX1_safe_26 (by decide) ?_
          refine lv_icmp_ge (tgt := 64) hx hb dX1_safe_28 (by decide) (fun c6 => ?_) (fun c6 => ?_)
          · have qc6 := c6
            have c6n : 16 ≤ k := zn_let (by omega) (by omega) c6
            refine lv_iload_n hx hb dX1_safe_64 rfl (lv_at hl 1 rfl) ?_
            exact zreti Z hr hlk (bk, nI pn, hd, ph, ot, wi, ik, (0 : Int32), P, O, K, kd, lf, ch, be, gi, mr) X dX1_safe_65 rfl (Or.inr ⟨hs, rfl, by rw [hacc, show k = 16 by omega]⟩)
          · have qc6 := c6
            have c6n : ¬ 16 ≤ k := zn_len (by omega) (by omega) c6
            refine lv_iload_n hx hb dX1_safe_31 rfl (lv_at hl 1 rfl) ?_
            refine lv_aload_n hx hb dX1_safe_32 rfl (lv_at hl 2 rfl) ?_
            refine zget (fs := [.int bk, .ref (a 1), .ref (a 2), .int (nI pn), .int hd, .int ph, .int ot, .int wi, .int ik, .ref (a 3), .int (0 : Int32), .ref (a 4), .ref (a 5), .ref (a 6), .ref (a 7), .ref (a 8), .ref (a 9)]) (v := .ref (a 2)) Z hin X (ci := 1) (C := RX1) (T := TX1) (N := 17) rfl rfl 2 (by decide) lk_X1_safe_13 rfl dX1_safe_33 ?_
            refine lv_iload_n hx hb dX1_safe_36 rfl (lv_at hl 0 rfl) ?_
            refine zbld (q0 := 2) (n := 16) (f := O) Z X rfl rfl k rfl (by omega) (by decide) dX1_safe_37 ?_
            refine lv_if_ne (tgt := 55) hx hb dX1_safe_38 (by decide) (fun c7 => ?_) (fun c7 => ?_)
            · have qc7 := c7
              have hh : ¬ O k = 0 := c7
              refine lv_iconst (v := (0 : Int32)) hx hb dX1_safe_55 (by decide) ?_
              refine lv_ior hx hb dX1_safe_56 ?_
              refine lv_topi (fun x8 ex8 => ?_)
              refine lv_istore_n (lv' := [(1, .int x8), (2, .int (nI k)), (0, .ref (a 0))]) hx hb dX1_safe_57 rfl hl (by decide) rfl (fun ls hl => ?_)
              refine lv_iinc (v := nI (k + 1)) (lv' := [(2, .int (nI (k + 1))), (1, .int x8), (0, .ref (a 0))]) hx hb dX1_safe_58 hl (k := 1) rfl (zi_inc k) (by decide) rfl (fun ls hl => ?_)
              refine lv_goto (tgt := 25) hx hb dX1_safe_61 (by decide) ?_
              exact ih25 (k + 1) x8 (by first | assumption | omega) (by subst ex8; rw [hacc]; first | (simp only [mSafS, hh, hw0, decide_true, decide_false, Bool.and_true, Bool.and_false, Bool.true_and, Bool.false_and, not_true_eq_false, not_false_eq_true, Bool.not_true, Bool.not_false, if_true, if_false, and_true, true_and, and_false, false_and, Bool.false_eq_true, Bool.true_eq_false, eq_self]; done) | (simp only [mSafS, hh, decide_true, decide_false, Bool.and_true, Bool.and_false, Bool.true_and, Bool.false_and, not_true_eq_false, not_false_eq_true, Bool.not_true, Bool.not_false, if_true, if_false, and_true, true_and, and_false, false_and, Bool.false_eq_true, Bool.true_eq_false, eq_self]; done)) (by omega) H locs ls X (lv_sub hl [0, 1, 2] rfl)
            · have qc7 := c7
              have hh : O k = 0 := c7
              refine lv_aload_n hx hb dX1_safe_41 rfl (lv_at hl 2 rfl) ?_
              refine lv_iload_n hx hb dX1_safe_42 rfl (lv_at hl 0 rfl) ?_
              refine zcallVi (n := 1) (As := [.int (nI k)]) (rest := [.int acc]) (ci := 1) (C := RX1) (T := TX1) (N := 17) Z X (c_X1_winners l g a bk pn hd ph ot wi ik (0 : Int32) P O K kd lf ch be gi mr k (by omega) hpn hh) gX1_safe_X1_winners rfl (by decide +kernel) ⟨Nat.le_of_ble_eq_true rfl, Nat.le_of_ble_eq_true rfl⟩ rfl rfl rfl rfl hl.1 (Nat.le_of_ble_eq_true rfl) dX1_safe_43 ⟨Nat.zero_le _, Nat.zero_le _⟩ (fun r8 ur8 H locs hrr8 X => ?_)
              obtain ⟨rfl, rfl⟩ : ur8 = (bk, nI pn, hd, ph, ot, wi, ik, (0 : Int32), P, O, K, kd, lf, ch, be, gi, mr) ∧ r8 = mWinS bk P k 16 := hrr8
              have X : zh g A (oM g a (bk, nI pn, hd, ph, ot, wi, ik, (0 : Int32), P, O, K, kd, lf, ch, be, gi, mr)) s.heap H locs := X
              refine lv_if_ne (tgt := 55) hx hb dX1_safe_46 (by decide) (fun c10 => ?_) (fun c10 => ?_)
              · have qc10 := c10
                have hw0 : ¬ mWinS bk P k 16 = 0 := c10
                refine lv_iconst (v := (0 : Int32)) hx hb dX1_safe_55 (by decide) ?_
                refine lv_ior hx hb dX1_safe_56 ?_
                refine lv_topi (fun x11 ex11 => ?_)
                refine lv_istore_n (lv' := [(1, .int x11), (2, .int (nI k)), (0, .ref (a 0))]) hx hb dX1_safe_57 rfl hl (by decide) rfl (fun ls hl => ?_)
                refine lv_iinc (v := nI (k + 1)) (lv' := [(2, .int (nI (k + 1))), (1, .int x11), (0, .ref (a 0))]) hx hb dX1_safe_58 hl (k := 1) rfl (zi_inc k) (by decide) rfl (fun ls hl => ?_)
                refine lv_goto (tgt := 25) hx hb dX1_safe_61 (by decide) ?_
                exact ih25 (k + 1) x11 (by first | assumption | omega) (by subst ex11; rw [hacc]; first | (simp only [mSafS, hh, hw0, decide_true, decide_false, Bool.and_true, Bool.and_false, Bool.true_and, Bool.false_and, not_true_eq_false, not_false_eq_true, Bool.not_true, Bool.not_false, if_true, if_false, and_true, true_and, and_false, false_and, Bool.false_eq_true, Bool.true_eq_false, eq_self]; done) | (simp only [mSafS, hh, decide_true, decide_false, Bool.and_true, Bool.and_false, Bool.true_and, Bool.false_and, not_true_eq_false, not_false_eq_true, Bool.not_true, Bool.not_false, if_true, if_false, and_true, true_and, and_false, false_and, Bool.false_eq_true, Bool.true_eq_false, eq_self]; done)) (by omega) H locs ls X (lv_sub hl [0, 1, 2] rfl)
              · have qc10 := c10
                have hw0 : mWinS bk P k 16 = 0 := c10
                refine lv_iconst (v := (1 : Int32)) hx hb dX1_safe_49 (by decide) ?_
                refine lv_iload_n hx hb dX1_safe_50 rfl (lv_at hl 0 rfl) ?_
                refine lv_ishl hx hb dX1_safe_51 ?_
                refine lv_goto (tgt := 56) hx hb dX1_safe_52 (by decide) ?_
                refine lv_ior hx hb dX1_safe_56 ?_
                refine lv_topi (fun x12 ex12 => ?_)
                refine lv_istore_n (lv' := [(1, .int x12), (2, .int (nI k)), (0, .ref (a 0))]) hx hb dX1_safe_57 rfl hl (by decide) rfl (fun ls hl => ?_)
                refine lv_iinc (v := nI (k + 1)) (lv' := [(2, .int (nI (k + 1))), (1, .int x12), (0, .ref (a 0))]) hx hb dX1_safe_58 hl (k := 1) rfl (zi_inc k) (by decide) rfl (fun ls hl => ?_)
                refine lv_goto (tgt := 25) hx hb dX1_safe_61 (by decide) ?_
                exact ih25 (k + 1) x12 (by first | assumption | omega) (by subst ex12; rw [hacc]; first | (simp only [mSafS, hh, hw0, decide_true, decide_false, Bool.and_true, Bool.and_false, Bool.true_and, Bool.false_and, not_true_eq_false, not_false_eq_true, Bool.not_true, Bool.not_false, if_true, if_false, and_true, true_and, and_false, false_and, Bool.false_eq_true, Bool.true_eq_false, eq_self]; done) | (simp only [mSafS, hh, decide_true, decide_false, Bool.and_true, Bool.and_false, Bool.true_and, Bool.false_and, not_true_eq_false, not_false_eq_true, Bool.not_true, Bool.not_false, if_true, if_false, and_true, true_and, and_false, false_and, Bool.false_eq_true, Bool.true_eq_false, eq_self]; done)) (by omega) H locs ls X (lv_sub hl [0, 1, 2] rfl)
      exact cut25 17 0 0 (by first | assumption | omega) (rfl) (by omega) H locs ls X (lv_sub hl [0, 1, 2] rfl)
    · exact absurd c5 (by decide)
theorem inw_X1_keep : ∀ w ∈ wsX10, w ∈ wsX1_keep := by decide +kernel
theorem lk_X1_keep_48 : Cond.fieldLink RX1 48 "QuarterboardModel" "thrown" "I" ∈ wsX1_keep := by decide +kernel
theorem lk_X1_keep_121 : Cond.fieldLink RX1 121 "QuarterboardModel" "isKept" "Z" ∈ wsX1_keep := by decide +kernel
theorem lk_X1_keep_27 : Cond.fieldLink RX1 27 "QuarterboardModel" "kept" "[I" ∈ wsX1_keep := by decide +kernel
theorem lk_X1_keep_7 : Cond.fieldLink RX1 7 "QuarterboardModel" "piece" "[I" ∈ wsX1_keep := by decide +kernel
theorem lk_X1_keep_70 : Cond.fieldLink RX1 70 "QuarterboardModel" "placed" "I" ∈ wsX1_keep := by decide +kernel
def P_X1_keep (bk : Int32) (pn : Nat) (hd ph ot wi ik th : Int32) (P O K kd lf ch be gi mr : Nat → Int32) : Int32 → MS → Prop := fun r u => u = (bk, nI pn, hd, ph, ot, wi, 1, 0, P, O, (cpN K P 16), kd, lf, ch, be, gi, mr) ∧ r = nI pn
set_option maxHeartbeats 4000000 in
set_option maxRecDepth 100000 in
theorem c_X1_keep (l : Launch) (g : zG) (a : Nat → Nat) (bk : Int32) (pn : Nat) (hd ph ot wi ik th : Int32) (P O K kd lf ch be gi mr : Nat → Int32)   : zM l yX1_keep wsX1_keep 0 0 g [.ref (a 0)] (oM g a (bk, nI pn, hd, ph, ot, wi, ik, th, P, O, K, kd, lf, ch, be, gi, mr)) zE0 (zQi g (P_X1_keep bk pn hd ph ot wi ik th P O K kd lf ch be gi mr) (oM g a)) := by
  refine zstart (cc := cX1_keep) (maxL := 2) (ret := (some .int)) (own := RX1) rfl (by decide) rfl zSt0 (Nat.le_of_ble_eq_true rfl) ?_
  intro p e s m below meth c A Z hr hlk H locs X ls hl
  have hx := Z.1.1
  have hb := Z.1.2.1
  have hin : ∀ w ∈ wsX10, w ∈ wsX1_keep := inw_X1_keep
  have hl : lv_has ls 2 [(0, .ref (a 0))] := hl
  have X : zh g A (oM g a (bk, nI pn, hd, ph, ot, wi, ik, th, P, O, K, kd, lf, ch, be, gi, mr)) s.heap H locs := X
  refine lv_aload_n hx hb dX1_keep_0 rfl (lv_at hl 0 rfl) ?_
  refine lv_iconst (v := (0 : Int32)) hx hb dX1_keep_1 (by decide) ?_
  refine zput (ty := .int) (fs := [.int bk, .ref (a 1), .ref (a 2), .int (nI pn), .int hd, .int ph, .int ot, .int wi, .int ik, .ref (a 3), .int th, .ref (a 4), .ref (a 5), .ref (a 6), .ref (a 7), .ref (a 8), .ref (a 9)]) (v := .int (0 : Int32)) tyX1 tyX1_ok nmX1 Z hin X (ci := 1) (C := RX1) (T := TX1) (N := 17) rfl rfl 10 (by decide) lk_X1_keep_48 rfl (by decide +kernel) rfl rfl (Nat.le_of_ble_eq_true rfl) dX1_keep_2 (fun H locs X => ?_)
  have X : zh g A (oM g a (bk, nI pn, hd, ph, ot, wi, ik, (0 : Int32), P, O, K, kd, lf, ch, be, gi, mr)) s.heap H locs := X
  refine lv_aload_n hx hb dX1_keep_5 rfl (lv_at hl 0 rfl) ?_
  refine lv_iconst (v := (1 : Int32)) hx hb dX1_keep_6 (by decide) ?_
  refine zput (ty := .boolean) (fs := [.int bk, .ref (a 1), .ref (a 2), .int (nI pn), .int hd, .int ph, .int ot, .int wi, .int ik, .ref (a 3), .int (0 : Int32), .ref (a 4), .ref (a 5), .ref (a 6), .ref (a 7), .ref (a 8), .ref (a 9)]) (v := .int (1 : Int32)) tyX1 tyX1_ok nmX1 Z hin X (ci := 1) (C := RX1) (T := TX1) (N := 17) rfl rfl 8 (by decide) lk_X1_keep_121 rfl (by decide +kernel) rfl rfl (Nat.le_of_ble_eq_true rfl) dX1_keep_7 (fun H locs X => ?_)
  have X : zh g A (oM g a (bk, nI pn, hd, ph, ot, wi, (1 : Int32), (0 : Int32), P, O, K, kd, lf, ch, be, gi, mr)) s.heap H locs := X
  refine lv_iconst (v := (0 : Int32)) hx hb dX1_keep_10 (by decide) ?_
  refine lv_istore_n (lv' := [(1, .int (0 : Int32)), (0, .ref (a 0))]) hx hb dX1_keep_11 rfl hl (by decide) rfl (fun ls hl => ?_)
  have cut12 : ∀ (n12 : Nat), ∀ (k : Nat), (k ≤ 16) → (17 - k ≤ n12) → ∀ (H : Heap) (locs : List Loc) (ls : Array Slot), zh g A (oM g a (bk, nI pn, hd, ph, ot, wi, (1 : Int32), (0 : Int32), P, O, (cpN K P k), kd, lf, ch, be, gi, mr)) s.heap H locs → lv_has ls 2 [(1, .int (nI k)), (0, .ref (a 0))] → W p l e { frames := 0, cells := 0, slots := 0, locals := 0 } s m ([.ref (a 0)] : List Value).toArray below meth c H locs 0 0 (MQ below ((zQi g (P_X1_keep bk pn hd ph ot wi ik th P O K kd lf ch be gi mr) (oM g a)) A) ([.ref (a 0)] : List Value).toArray s 0 0 A) (F0 m 12 ls []) := by
    intro n12
    induction n12 with
    | zero =>
      intro k hk hm12
      exact absurd hm12 (by omega)
    | succ n12 ih12 =>
      intro k hk hm12 H locs ls X hl
      refine lv_iload_n hx hb dX1_keep_12 rfl (lv_at hl 0 rfl) ?_
      refine lv_bipush (v := (16 : Int32)) hx hb dX1_keep_13 (by decide) ?_
      refine lv_icmp_ge (tgt := 36) hx hb dX1_keep_15 (by decide) (fun c1 => ?_) (fun c1 => ?_)
      · have qc1 := c1
        have c1n : 16 ≤ k := zn_let (by omega) (by omega) c1
        refine lv_aload_n hx hb dX1_keep_36 rfl (lv_at hl 1 rfl) ?_
        refine zget (fs := [.int bk, .ref (a 1), .ref (a 2), .int (nI pn), .int hd, .int ph, .int ot, .int wi, .int (1 : Int32), .ref (a 3), .int (0 : Int32), .ref (a 4), .ref (a 5), .ref (a 6), .ref (a 7), .ref (a 8), .ref (a 9)]) (v := .int (nI pn)) Z hin X (ci := 1) (C := RX1) (T := TX1) (N := 17) rfl rfl 3 (by decide) lk_X1_keep_70 rfl dX1_keep_37 ?_
        exact zreti Z hr hlk (bk, nI pn, hd, ph, ot, wi, (1 : Int32), (0 : Int32), P, O, (cpN K P k), kd, lf, ch, be, gi, mr) X dX1_keep_40 rfl (⟨by rw [show k = 16 by omega], rfl⟩)
      · have qc1 := c1
        have c1n : ¬ 16 ≤ k := zn_len (by omega) (by omega) c1
        refine lv_aload_n hx hb dX1_keep_18 rfl (lv_at hl 1 rfl) ?_
        refine zget (fs := [.int bk, .ref (a 1), .ref (a 2), .int (nI pn), .int hd, .int ph, .int ot, .int wi, .int (1 : Int32), .ref (a 3), .int (0 : Int32), .ref (a 4), .ref (a 5), .ref (a 6), .ref (a 7), .ref (a 8), .ref (a 9)]) (v := .ref (a 3)) Z hin X (ci := 1) (C := RX1) (T := TX1) (N := 17) rfl rfl 9 (by decide) lk_X1_keep_27 rfl dX1_keep_19 ?_
        refine lv_iload_n hx hb dX1_keep_22 rfl (lv_at hl 0 rfl) ?_
        refine lv_aload_n hx hb dX1_keep_23 rfl (lv_at hl 1 rfl) ?_
        refine zget (fs := [.int bk, .ref (a 1), .ref (a 2), .int (nI pn), .int hd, .int ph, .int ot, .int wi, .int (1 : Int32), .ref (a 3), .int (0 : Int32), .ref (a 4), .ref (a 5), .ref (a 6), .ref (a 7), .ref (a 8), .ref (a 9)]) (v := .ref (a 1)) Z hin X (ci := 1) (C := RX1) (T := TX1) (N := 17) rfl rfl 1 (by decide) lk_X1_keep_7 rfl dX1_keep_24 ?_
        refine lv_iload_n hx hb dX1_keep_27 rfl (lv_at hl 0 rfl) ?_
        refine zald (q0 := 1) (n := 16) (f := P) Z X rfl rfl k rfl (by omega) (by decide) dX1_keep_28 ?_
        refine zast (q0 := 3) (n := 16) (f := (cpN K P k)) Z X rfl rfl k rfl (by omega) (by decide) dX1_keep_29 (fun H locs X => ?_)
        have X : zh g A (oM g a (bk, nI pn, hd, ph, ot, wi, (1 : Int32), (0 : Int32), P, O, (upd (cpN K P k) k (P k)), kd, lf, ch, be, gi, mr)) s.heap H locs := X
        refine lv_iinc (v := nI (k + 1)) (lv' := [(1, .int (nI (k + 1))), (0, .ref (a 0))]) hx hb dX1_keep_30 hl (k := 0) rfl (zi_inc k) (by decide) rfl (fun ls hl => ?_)
        refine lv_goto (tgt := 12) hx hb dX1_keep_33 (by decide) ?_
        exact ih12 (k + 1) (by first | assumption | omega) (by omega) H locs ls (by rw [← cpN_s]; exact X) (lv_sub hl [0, 1] rfl)
  exact cut12 17 0 (by first | assumption | omega) (by omega) H locs ls (by rw [cpN_0]; exact X) (lv_sub hl [0, 1] rfl)
