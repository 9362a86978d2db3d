theorem inw_X1_best : ∀ w ∈ wsX10, w ∈ wsX1_best := by decide +kernel
theorem lk_X1_best_21 : Cond.fieldLink RX1 21 "QuarterboardModel" "phase" "I" ∈ wsX1_best := by decide +kernel
theorem lk_X1_best_17 : Cond.fieldLink RX1 17 "QuarterboardModel" "hand" "I" ∈ wsX1_best := by decide +kernel
def P_X1_best (bk : Int32) (pn : Nat) (hd ph ot wi ik th : Int32) (P O K kd lf ch be gi mr : Nat → Int32) (np : Int32) (kq : Bool) (pq : Nat) : Int32 → MS → Prop := fun r u => ((np < 1 ∨ ¬ np ≤ 4) ∧ u = (bk, nI pn, hd, ph, ot, wi, ik, 1, P, O, K, kd, lf, ch, be, gi, mr) ∧ r = 0) ∨ ((¬ np < 1 ∧ np ≤ 4) ∧ (ph = 2 ∨ mFar np pn) ∧ u = (bk, nI pn, hd, ph, ot, wi, ik, 2, P, O, K, kd, lf, ch, be, gi, mr) ∧ r = 0) ∨ ((¬ np < 1 ∧ np ≤ 4) ∧ (¬ ph = 2 ∧ ¬ mFar np pn) ∧ ∃ (z : Nat) (kd2 lf2 ch2 be2 gi2 : Nat → Int32), z < 16 ∧ (lkF bk kq (np.toNatClampNeg) P O pn pq) z = mx32 (lkF bk kq (np.toNatClampNeg) P O pn pq) 16 ∧ (∀ j, j < z → ¬ (lkF bk kq (np.toNatClampNeg) P O pn pq) j = mx32 (lkF bk kq (np.toNatClampNeg) P O pn pq) 16) ∧ u = (bk, nI pn, hd, ph, ot, wi, ik, 0, P, O, K, kd2, lf2, ch2, be2, gi2, mr) ∧ r = nI z)
set_option maxHeartbeats 600000 in
set_option maxRecDepth 100000 in
theorem c_X1_best (l : Launch) (g : zG) (a : Nat → Nat) (bk : Int32) (pn : Nat) (hd ph ot wi ik th : Int32) (P O K kd lf ch be gi mr : Nat → Int32) (np : Int32) (kq : Bool) (pq : Nat) (hpn : pn ≤ 16) (hq1 : ¬ ph = 2 → ph = zb kq) (hok0 : ¬ ph = 2 → okM P O pn) (hpq : kq = true → hd = nI pq ∧ pq < 16 ∧ O pq = 0) : zM l yX1_best wsX1_best 9 500 g [.ref (a 0), .int np] (oM g a (bk, nI pn, hd, ph, ot, wi, ik, th, P, O, K, kd, lf, ch, be, gi, mr)) zE0 (zQi g (P_X1_best bk pn hd ph ot wi ik th P O K kd lf ch be gi mr np kq pq) (oM g a)) := by
  refine zstart (cc := cX1_best) (maxL := 4) (ret := (some .int)) (own := RX1) rfl (by decide) rfl zSt0 (Nat.le_of_ble_eq_true rfl) ?_
  intro p e s m below meth c A Z hr hlk H locs X ls hl
  have hx := Z.1.1
  have hb := Z.1.2.1
  have hin : ∀ w ∈ wsX10, w ∈ wsX1_best := inw_X1_best
  have hl : lv_has ls 4 [(0, .ref (a 0)), (1, .int np)] := hl
  have X : zh g A (oM g a (bk, nI pn, hd, ph, ot, wi, ik, th, P, O, K, kd, lf, ch, be, gi, mr)) s.heap H locs := X
  by_cases hA : np < 1 ∨ ¬ np ≤ 4
  ·
    skip
    refine lv_aload_n hx hb dX1_best_0 rfl (lv_at hl 0 rfl) ?_
    refine lv_iload_n hx hb dX1_best_1 rfl (lv_at hl 1 rfl) ?_
    refine zcallVi (n := 1) (As := [.int np]) (rest := []) (ci := 1) (C := RX1) (T := TX1) (N := 17) Z X (c_X1_cannot_A l g a bk pn hd ph ot wi ik th P O K kd lf ch be gi mr np hpn hA) gX1_best_X1_cannot rfl (by decide +kernel) ⟨Nat.le_of_ble_eq_true rfl, Nat.le_of_ble_eq_true rfl⟩ rfl rfl rfl rfl hl.1 (Nat.le_of_ble_eq_true rfl) dX1_best_2 ⟨Nat.zero_le _, Nat.zero_le _⟩ (fun r0 ur0 H locs hrr0 X => ?_)
    obtain ⟨rfl, rfl⟩ : ur0 = (bk, nI pn, hd, ph, ot, wi, ik, 1, P, O, K, kd, lf, ch, be, gi, mr) ∧ r0 = 1 := hrr0
    have X : zh g A (oM g a (bk, nI pn, hd, ph, ot, wi, ik, 1, P, O, K, kd, lf, ch, be, gi, mr)) s.heap H locs := X
    refine lv_if_eq (tgt := 10) hx hb dX1_best_5 (by decide) (fun c2 => ?_) (fun c2 => ?_)
    · exact absurd c2 (by decide)
    · have qc2 := c2
      refine lv_iconst (v := (0 : Int32)) hx hb dX1_best_8 (by decide) ?_
      exact zreti Z hr hlk (bk, nI pn, hd, ph, ot, wi, ik, 1, P, O, K, kd, lf, ch, be, gi, mr) X dX1_best_9 rfl (by first | exact Or.inl ⟨hA, rfl, rfl⟩ | exact Or.inr (Or.inl ⟨hA, hB, rfl, rfl⟩) | exact Or.inr (Or.inr ⟨hA, hC, z, _, _, _, _, _, hz16, he, hlow, rfl, rfl⟩))
  ·
    have hA : ¬ np < 1 ∧ np ≤ 4 := ⟨fun q => hA (Or.inl q), Classical.byContradiction (fun q => hA (Or.inr q))⟩
    obtain ⟨hnp, hn1, hn4⟩ := zplac hA.1 hA.2
    by_cases hB : ph = 2 ∨ mFar np pn
    ·
      skip
      refine lv_aload_n hx hb dX1_best_0 rfl (lv_at hl 0 rfl) ?_
      refine lv_iload_n hx hb dX1_best_1 rfl (lv_at hl 1 rfl) ?_
      refine zcallVi (n := 1) (As := [.int np]) (rest := []) (ci := 1) (C := RX1) (T := TX1) (N := 17) Z X (c_X1_cannot_B l g a bk pn hd ph ot wi ik th P O K kd lf ch be gi mr np hpn hA hB) gX1_best_X1_cannot rfl (by decide +kernel) ⟨Nat.le_of_ble_eq_true rfl, Nat.le_of_ble_eq_true rfl⟩ rfl rfl rfl rfl hl.1 (Nat.le_of_ble_eq_true rfl) dX1_best_2 ⟨Nat.zero_le _, Nat.zero_le _⟩ (fun r2 ur2 H locs hrr2 X => ?_)
      obtain ⟨rfl, rfl⟩ : ur2 = (bk, nI pn, hd, ph, ot, wi, ik, 2, P, O, K, kd, lf, ch, be, gi, mr) ∧ r2 = 1 := hrr2
      have X : zh g A (oM g a (bk, nI pn, hd, ph, ot, wi, ik, 2, P, O, K, kd, lf, ch, be, gi, mr)) s.heap H locs := X
      refine lv_if_eq (tgt := 10) hx hb dX1_best_5 (by decide) (fun c4 => ?_) (fun c4 => ?_)
      · exact absurd c4 (by decide)
      · have qc4 := c4
        refine lv_iconst (v := (0 : Int32)) hx hb dX1_best_8 (by decide) ?_
        exact zreti Z hr hlk (bk, nI pn, hd, ph, ot, wi, ik, 2, P, O, K, kd, lf, ch, be, gi, mr) X dX1_best_9 rfl (by first | exact Or.inl ⟨hA, rfl, rfl⟩ | exact Or.inr (Or.inl ⟨hA, hB, rfl, rfl⟩) | exact Or.inr (Or.inr ⟨hA, hC, z, _, _, _, _, _, hz16, he, hlow, rfl, rfl⟩))
    ·
      have hC : ¬ ph = 2 ∧ ¬ mFar np pn := ⟨fun q => hB (Or.inl q), fun q => hB (Or.inr q)⟩
      have hph := hq1 hC.1
      have hok := hok0 hC.1
      refine lv_aload_n hx hb dX1_best_0 rfl (lv_at hl 0 rfl) ?_
      refine lv_iload_n hx hb dX1_best_1 rfl (lv_at hl 1 rfl) ?_
      refine zcallVi (n := 1) (As := [.int np]) (rest := []) (ci := 1) (C := RX1) (T := TX1) (N := 17) Z X (c_X1_cannot_C l g a bk pn hd ph ot wi ik th P O K kd lf ch be gi mr np hpn hA hC) gX1_best_X1_cannot rfl (by decide +kernel) ⟨Nat.le_of_ble_eq_true rfl, Nat.le_of_ble_eq_true rfl⟩ rfl rfl rfl rfl hl.1 (Nat.le_of_ble_eq_true rfl) dX1_best_2 ⟨Nat.zero_le _, Nat.zero_le _⟩ (fun r4 ur4 H locs hrr4 X => ?_)
      obtain ⟨rfl, rfl⟩ : ur4 = (bk, nI pn, hd, ph, ot, wi, ik, 0, P, O, K, kd, lf, ch, be, gi, mr) ∧ r4 = 0 := hrr4
      have X : zh g A (oM g a (bk, nI pn, hd, ph, ot, wi, ik, 0, P, O, K, kd, lf, ch, be, gi, mr)) s.heap H locs := X
      refine lv_if_eq (tgt := 10) hx hb dX1_best_5 (by decide) (fun c6 => ?_) (fun c6 => ?_)
      · have qc6 := c6
        refine lv_aload_n hx hb dX1_best_10 rfl (lv_at hl 0 rfl) ?_
        refine lv_aload_n hx hb dX1_best_11 rfl (lv_at hl 0 rfl) ?_
        refine zget (fs := [.int bk, .ref (a 1), .ref (a 2), .int (nI pn), .int hd, .int ph, .int ot, .int wi, .int ik, .ref (a 3), .int 0, .ref (a 4), .ref (a 5), .ref (a 6), .ref (a 7), .ref (a 8), .ref (a 9)]) (v := .int ph) Z hin X (ci := 1) (C := RX1) (T := TX1) (N := 17) rfl rfl 5 (by decide) lk_X1_best_21 rfl dX1_best_12 ?_
        refine zrwi (y := zb kq) (hph) ?_
        refine lv_iload_n hx hb dX1_best_15 rfl (lv_at hl 1 rfl) ?_
        refine zrwi (y := nI (np.toNatClampNeg)) (hnp) ?_
        refine lv_aload_n hx hb dX1_best_16 rfl (lv_at hl 0 rfl) ?_
        refine zget (fs := [.int bk, .ref (a 1), .ref (a 2), .int (nI pn), .int hd, .int ph, .int ot, .int wi, .int ik, .ref (a 3), .int 0, .ref (a 4), .ref (a 5), .ref (a 6), .ref (a 7), .ref (a 8), .ref (a 9)]) (v := .int hd) Z hin X (ci := 1) (C := RX1) (T := TX1) (N := 17) rfl rfl 4 (by decide) lk_X1_best_17 rfl dX1_best_17 ?_
        refine zcallVi (n := 3) (As := [.int (zb kq), .int (nI (np.toNatClampNeg)), .int hd]) (rest := []) (ci := 1) (C := RX1) (T := TX1) (N := 17) Z X (c_X1_looks l g a bk pn hd ph ot wi ik 0 P O K kd lf ch be gi mr kq (np.toNatClampNeg) hd pq hn1 hn4 hok hpq) gX1_best_X1_looks rfl (by decide +kernel) ⟨Nat.le_of_ble_eq_true rfl, Nat.le_of_ble_eq_true rfl⟩ rfl rfl rfl rfl hl.1 (Nat.le_of_ble_eq_true rfl) dX1_best_20 ⟨Nat.zero_le _, Nat.zero_le _⟩ (fun r6 ur6 H locs hrr6 X => ?_)
        obtain ⟨kdr6, lfr6, chr6, ber6, gir6, rfl, her6⟩ : ∃ kd2 lf2 ch2 be2 gi2 : Nat → Int32, ur6 = (bk, nI pn, hd, ph, ot, wi, ik, 0, P, O, K, kd2, lf2, ch2, be2, gi2, mr) ∧ r6 = mx32 (lkF bk kq (np.toNatClampNeg) P O pn pq) 16 := hrr6
        have X : zh g A (oM g a (bk, nI pn, hd, ph, ot, wi, ik, 0, P, O, K, kdr6, lfr6, chr6, ber6, gir6, mr)) s.heap H locs := X
        refine zrwi (y := mx32 (lkF bk kq (np.toNatClampNeg) P O pn pq) 16) her6 ?_
        refine lv_istore_n (lv' := [(2, .int (mx32 (lkF bk kq (np.toNatClampNeg) P O pn pq) 16)), (0, .ref (a 0)), (1, .int np)]) hx hb dX1_best_23 rfl hl (by decide) rfl (fun ls hl => ?_)
        refine lv_iconst (v := (0 : Int32)) hx hb dX1_best_24 (by decide) ?_
        refine lv_istore_n (lv' := [(3, .int (0 : Int32)), (2, .int (mx32 (lkF bk kq (np.toNatClampNeg) P O pn pq) 16)), (0, .ref (a 0)), (1, .int np)]) hx hb dX1_best_25 rfl hl (by decide) rfl (fun ls hl => ?_)
        have cut26 : ∀ (n26 : Nat), ∀ (z : Nat) (kd1 : Nat → Int32) (lf1 : Nat → Int32) (ch1 : Nat → Int32) (be1 : Nat → Int32) (gi1 : Nat → Int32), (z ≤ 16) → (∀ j, j < z → ¬ (lkF bk kq (np.toNatClampNeg) P O pn pq) j = mx32 (lkF bk kq (np.toNatClampNeg) P O pn pq) 16) → (17 - z ≤ n26) → ∀ (H : Heap) (locs : List Loc) (ls : Array Slot), zh g A (oM g a (bk, nI pn, hd, ph, ot, wi, ik, (0 : Int32), P, O, K, kd1, lf1, ch1, be1, gi1, mr)) s.heap H locs → lv_has ls 4 [(3, .int (nI z)), (2, .int (mx32 (lkF bk kq (np.toNatClampNeg) P O pn pq) 16)), (0, .ref (a 0)), (1, .int (nI (np.toNatClampNeg)))] → W p l e { frames := 9, cells := 0, slots := 0, locals := 500 } s m ([.ref (a 0), .int np] : List Value).toArray below meth c H locs 0 0 (MQ below ((zQi g (P_X1_best bk pn hd ph ot wi ik th P O K kd lf ch be gi mr np kq pq) (oM g a)) A) ([.ref (a 0), .int np] : List Value).toArray s 0 0 A) (F0 m 26 ls []) := by
          intro n26
          induction n26 with
          | zero =>
            intro z kd1 lf1 ch1 be1 gi1 hz hlow hm26
            exact absurd hm26 (by omega)
          | succ n26 ih26 =>
            intro z kd1 lf1 ch1 be1 gi1 hz hlow hm26 H locs ls X hl
            have hz16 : z < 16 := by
              obtain ⟨j0, hj1, hj2⟩ := lk_ex bk (kp := kq) (n := (np.toNatClampNeg)) (p := pq) hn1 hok (fun q => ⟨(hpq q).2.1, (hpq q).2.2⟩)
              rcases Nat.lt_or_ge z 16 with q | q
              · exact q
              · exact absurd hj2 (hlow j0 (by omega))
            refine lv_aload_n hx hb dX1_best_26 rfl (lv_at hl 2 rfl) ?_
            refine lv_iload_n hx hb dX1_best_27 rfl (lv_at hl 0 rfl) ?_
            refine lv_iload_n hx hb dX1_best_28 rfl (lv_at hl 3 rfl) ?_
            refine zcallVi (n := 2) (As := [.int (nI z), .int (nI (np.toNatClampNeg))]) (rest := []) (ci := 1) (C := RX1) (T := TX1) (N := 17) Z X (c_X1_behind l g a bk pn hd ph ot wi ik (0 : Int32) P O K kd1 lf1 ch1 be1 gi1 mr z (np.toNatClampNeg) kq pq hz16 hn1 hn4 hph hok hpq) gX1_best_X1_behind rfl (by decide +kernel) ⟨Nat.le_of_ble_eq_true rfl, Nat.le_of_ble_eq_true rfl⟩ rfl rfl rfl rfl hl.1 (Nat.le_of_ble_eq_true rfl) dX1_best_29 ⟨Nat.zero_le _, Nat.zero_le _⟩ (fun r7 ur7 H locs hrr7 X => ?_)
            obtain ⟨kdr7, lfr7, chr7, ber7, gir7, rfl, her7⟩ : ∃ kd2 lf2 ch2 be2 gi2 : Nat → Int32, ur7 = (bk, nI pn, hd, ph, ot, wi, ik, (0 : Int32), P, O, K, kd2, lf2, ch2, be2, gi2, mr) ∧ r7 = lkF bk kq (np.toNatClampNeg) P O pn pq z := hrr7
            have X : zh g A (oM g a (bk, nI pn, hd, ph, ot, wi, ik, (0 : Int32), P, O, K, kdr7, lfr7, chr7, ber7, gir7, mr)) s.heap H locs := X
            refine zrwi (y := lkF bk kq (np.toNatClampNeg) P O pn pq z) her7 ?_
            refine lv_iload_n hx hb dX1_best_32 rfl (lv_at hl 1 rfl) ?_
            refine lv_icmp_eq (tgt := 42) hx hb dX1_best_33 (by decide) (fun c9 => ?_) (fun c9 => ?_)
            · have qc9 := c9
              have he : (lkF bk kq (np.toNatClampNeg) P O pn pq) z = mx32 (lkF bk kq (np.toNatClampNeg) P O pn pq) 16 := c9
              refine lv_iload_n hx hb dX1_best_42 rfl (lv_at hl 0 rfl) ?_
              exact zreti Z hr hlk (bk, nI pn, hd, ph, ot, wi, ik, (0 : Int32), P, O, K, kdr7, lfr7, chr7, ber7, gir7, mr) X dX1_best_43 rfl (by first | exact Or.inl ⟨hA, rfl, rfl⟩ | exact Or.inr (Or.inl ⟨hA, hB, rfl, rfl⟩) | exact Or.inr (Or.inr ⟨hA, hC, z, _, _, _, _, _, hz16, he, hlow, rfl, rfl⟩))
            · have qc9 := c9
              have he : ¬ (lkF bk kq (np.toNatClampNeg) P O pn pq) z = mx32 (lkF bk kq (np.toNatClampNeg) P O pn pq) 16 := c9
              refine lv_iinc (v := nI (z + 1)) (lv' := [(3, .int (nI (z + 1))), (2, .int (mx32 (lkF bk kq (np.toNatClampNeg) P O pn pq) 16)), (0, .ref (a 0)), (1, .int (nI (np.toNatClampNeg)))]) hx hb dX1_best_36 hl (k := 0) rfl (zi_inc z) (by decide) rfl (fun ls hl => ?_)
              refine lv_goto (tgt := 26) hx hb dX1_best_39 (by decide) ?_
              exact ih26 (z + 1) kdr7 lfr7 chr7 ber7 gir7 (by first | assumption | omega) (fun j h => by rcases Nat.lt_succ_iff_lt_or_eq.mp h with q | q; exact hlow j q; rw [q]; exact he) (by omega) H locs ls X (lv_sub hl [0, 1, 2, 3] rfl)
        exact cut26 17 0 kdr6 lfr6 chr6 ber6 gir6 (by first | assumption | omega) (fun j h => absurd h (Nat.not_lt_zero j)) (by omega) H locs ls X (by rw [← hnp]; exact (lv_sub hl [0, 1, 2, 3] rfl))
      · exact absurd c6 (by decide)
