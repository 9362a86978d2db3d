theorem inw_X1_behind : ∀ w ∈ wsX10, w ∈ wsX1_behind := by decide +kernel
theorem lk_X1_behind_21 : Cond.fieldLink RX1 21 "QuarterboardModel" "phase" "I" ∈ wsX1_behind := by decide +kernel
theorem lk_X1_behind_13 : Cond.fieldLink RX1 13 "QuarterboardModel" "isOn" "[Z" ∈ wsX1_behind := by decide +kernel
theorem lk_X1_behind_7 : Cond.fieldLink RX1 7 "QuarterboardModel" "piece" "[I" ∈ wsX1_behind := by decide +kernel
theorem lk_X1_behind_17 : Cond.fieldLink RX1 17 "QuarterboardModel" "hand" "I" ∈ wsX1_behind := by decide +kernel
theorem lk_X1_behind_70 : Cond.fieldLink RX1 70 "QuarterboardModel" "placed" "I" ∈ wsX1_behind := by decide +kernel
def P_X1_behind (bk : Int32) (pn : Nat) (hd ph ot wi ik th : Int32) (P O K kd lf ch be gi mr : Nat → Int32) (z nq : Nat) (kq : Bool) (pq : Nat) : Int32 → MS → Prop := fun r u => ∃ kd2 lf2 ch2 be2 gi2 : Nat → Int32, u = (bk, nI pn, hd, ph, ot, wi, ik, th, P, O, K, kd2, lf2, ch2, be2, gi2, mr) ∧ r = (lkF bk kq nq P O pn pq) z
set_option maxHeartbeats 600000 in
set_option maxRecDepth 100000 in
theorem c_X1_behind (l : Launch) (g : zG) (a : Nat → Nat) (bk : Int32) (pn : Nat) (hd ph ot wi ik th : Int32) (P O K kd lf ch be gi mr : Nat → Int32) (z : Nat) (nq : Nat) (kq : Bool) (pq : Nat) (hz16 : z < 16) (hnq : 1 ≤ nq) (hnq4 : nq ≤ 4) (hph : ph = zb kq) (hok : okM P O pn) (hpq : kq = true → hd = nI pq ∧ pq < 16 ∧ O pq = 0) : zM l yX1_behind wsX1_behind 7 400 g [.ref (a 0), .int (nI z), .int (nI nq)] (oM g a (bk, nI pn, hd, ph, ot, wi, ik, th, P, O, K, kd, lf, ch, be, gi, mr)) zE0 (zQi g (P_X1_behind bk pn hd ph ot wi ik th P O K kd lf ch be gi mr z nq kq pq) (oM g a)) := by
  refine zstart (cc := cX1_behind) (maxL := 4) (ret := (some .int)) (own := RX1) rfl (by decide) rfl zSt0 (Nat.le_of_ble_eq_true rfl) ?_
  intro p e s m below meth c A Z hr hlk H locs X ls hl
  have hx := Z.1.1
  have hb := Z.1.2.1
  have hin : ∀ w ∈ wsX10, w ∈ wsX1_behind := inw_X1_behind
  have hl : lv_has ls 4 [(0, .ref (a 0)), (1, .int (nI z)), (2, .int (nI nq))] := hl
  have X : zh g A (oM g a (bk, nI pn, hd, ph, ot, wi, ik, th, P, O, K, kd, lf, ch, be, gi, mr)) s.heap H locs := X
  have hpn16 := hok.1
  cases kq with
  | false =>
    skip
    by_cases hO : O z = 0
    ·
      skip
      refine lv_aload_n hx hb dX1_behind_0 rfl (lv_at hl 0 rfl) ?_
      refine zget (fs := [.int bk, .ref (a 1), .ref (a 2), .int (nI pn), .int hd, .int ph, .int ot, .int wi, .int ik, .ref (a 3), .int th, .ref (a 4), .ref (a 5), .ref (a 6), .ref (a 7), .ref (a 8), .ref (a 9)]) (v := .int ph) Z hin X (ci := 1) (C := RX1) (T := TX1) (N := 17) rfl rfl 5 (by decide) lk_X1_behind_21 rfl dX1_behind_1 ?_
      refine zrwi (y := (0 : Int32)) (hph) ?_
      refine lv_if_ne (tgt := 30) hx hb dX1_behind_4 (by decide) (fun c1 => ?_) (fun c1 => ?_)
      · exact absurd c1 (by decide)
      · have qc1 := c1
        refine lv_aload_n hx hb dX1_behind_7 rfl (lv_at hl 0 rfl) ?_
        refine zget (fs := [.int bk, .ref (a 1), .ref (a 2), .int (nI pn), .int hd, .int ph, .int ot, .int wi, .int ik, .ref (a 3), .int th, .ref (a 4), .ref (a 5), .ref (a 6), .ref (a 7), .ref (a 8), .ref (a 9)]) (v := .ref (a 2)) Z hin X (ci := 1) (C := RX1) (T := TX1) (N := 17) rfl rfl 2 (by decide) lk_X1_behind_13 rfl dX1_behind_8 ?_
        refine lv_iload_n hx hb dX1_behind_11 rfl (lv_at hl 1 rfl) ?_
        refine zbld (q0 := 2) (n := 16) (f := O) Z X rfl rfl z rfl (by omega) (by decide) dX1_behind_12 ?_
        refine zrwi (y := (0 : Int32)) hO ?_
        refine lv_if_eq (tgt := 21) hx hb dX1_behind_13 (by decide) (fun c2 => ?_) (fun c2 => ?_)
        · have qc2 := c2
          refine lv_aload_n hx hb dX1_behind_21 rfl (lv_at hl 0 rfl) ?_
          refine lv_iconst (v := (1 : Int32)) hx hb dX1_behind_22 (by decide) ?_
          refine zrwi (y := zb true) (rfl) ?_
          refine lv_iload_n hx hb dX1_behind_23 rfl (lv_at hl 2 rfl) ?_
          refine lv_iload_n hx hb dX1_behind_24 rfl (lv_at hl 1 rfl) ?_
          refine zcallVi (n := 3) (As := [.int (zb true), .int (nI nq), .int (nI z)]) (rest := []) (ci := 1) (C := RX1) (T := TX1) (N := 17) Z X (c_X1_looks l g a bk pn hd ph ot wi ik th P O K kd lf ch be gi mr true nq (nI z) z hnq hnq4 hok (fun _ => ⟨rfl, hz16, hO⟩)) gX1_behind_X1_looks rfl (by decide +kernel) ⟨Nat.le_of_ble_eq_true rfl, Nat.le_of_ble_eq_true rfl⟩ rfl rfl rfl rfl hl.1 (Nat.le_of_ble_eq_true rfl) dX1_behind_25 ⟨Nat.zero_le _, Nat.zero_le _⟩ (fun r2 ur2 H locs hrr2 X => ?_)
          obtain ⟨kdr2, lfr2, chr2, ber2, gir2, rfl, her2⟩ : ∃ kd2 lf2 ch2 be2 gi2 : Nat → Int32, ur2 = (bk, nI pn, hd, ph, ot, wi, ik, th, P, O, K, kd2, lf2, ch2, be2, gi2, mr) ∧ r2 = mx32 (lkF bk true nq P O pn z) 16 := hrr2
          have X : zh g A (oM g a (bk, nI pn, hd, ph, ot, wi, ik, th, P, O, K, kdr2, lfr2, chr2, ber2, gir2, mr)) s.heap H locs := X
          refine zrwi (y := mx32 (lkF bk true nq P O pn z) 16) her2 ?_
          refine lv_ineg hx hb dX1_behind_28 ?_
          exact zreti Z hr hlk (bk, nI pn, hd, ph, ot, wi, ik, th, P, O, K, kdr2, lfr2, chr2, ber2, gir2, mr) X dX1_behind_29 rfl (by first | exact ⟨_, _, _, _, _, rfl, (if_neg hO).symm⟩ | exact ⟨_, _, _, _, _, rfl, (if_pos hO).symm⟩)
        · exact absurd c2 (by decide)
    ·
      skip
      refine lv_aload_n hx hb dX1_behind_0 rfl (lv_at hl 0 rfl) ?_
      refine zget (fs := [.int bk, .ref (a 1), .ref (a 2), .int (nI pn), .int hd, .int ph, .int ot, .int wi, .int ik, .ref (a 3), .int th, .ref (a 4), .ref (a 5), .ref (a 6), .ref (a 7), .ref (a 8), .ref (a 9)]) (v := .int ph) Z hin X (ci := 1) (C := RX1) (T := TX1) (N := 17) rfl rfl 5 (by decide) lk_X1_behind_21 rfl dX1_behind_1 ?_
      refine zrwi (y := (0 : Int32)) (hph) ?_
      refine lv_if_ne (tgt := 30) hx hb dX1_behind_4 (by decide) (fun c4 => ?_) (fun c4 => ?_)
      · exact absurd c4 (by decide)
      · have qc4 := c4
        refine lv_aload_n hx hb dX1_behind_7 rfl (lv_at hl 0 rfl) ?_
        refine zget (fs := [.int bk, .ref (a 1), .ref (a 2), .int (nI pn), .int hd, .int ph, .int ot, .int wi, .int ik, .ref (a 3), .int th, .ref (a 4), .ref (a 5), .ref (a 6), .ref (a 7), .ref (a 8), .ref (a 9)]) (v := .ref (a 2)) Z hin X (ci := 1) (C := RX1) (T := TX1) (N := 17) rfl rfl 2 (by decide) lk_X1_behind_13 rfl dX1_behind_8 ?_
        refine lv_iload_n hx hb dX1_behind_11 rfl (lv_at hl 1 rfl) ?_
        refine zbld (q0 := 2) (n := 16) (f := O) Z X rfl rfl z rfl (by omega) (by decide) dX1_behind_12 ?_
        refine lv_if_eq (tgt := 21) hx hb dX1_behind_13 (by decide) (fun c5 => ?_) (fun c5 => ?_)
        · have qc5 := c5
          exact absurd c5 hO
        · have qc5 := c5
          refine lv_bipush (v := (-2 : Int32)) hx hb dX1_behind_16 (by decide) ?_
          refine lv_goto (tgt := 29) hx hb dX1_behind_18 (by decide) ?_
          exact zreti Z hr hlk (bk, nI pn, hd, ph, ot, wi, ik, th, P, O, K, kd, lf, ch, be, gi, mr) X dX1_behind_29 rfl (by first | exact ⟨_, _, _, _, _, rfl, (if_neg hO).symm⟩ | exact ⟨_, _, _, _, _, rfl, (if_pos hO).symm⟩)
  | true =>
    obtain ⟨hd1, hp1, hO⟩ := hpq rfl
    by_cases hm : P z = -1
    ·
      have hwl := mWon_le bk (upd P z (nI pq)) z
      by_cases hw : 0 < mWon bk (upd P z (nI pq)) z
      ·
        skip
        refine lv_aload_n hx hb dX1_behind_0 rfl (lv_at hl 0 rfl) ?_
        refine zget (fs := [.int bk, .ref (a 1), .ref (a 2), .int (nI pn), .int hd, .int ph, .int ot, .int wi, .int ik, .ref (a 3), .int th, .ref (a 4), .ref (a 5), .ref (a 6), .ref (a 7), .ref (a 8), .ref (a 9)]) (v := .int ph) Z hin X (ci := 1) (C := RX1) (T := TX1) (N := 17) rfl rfl 5 (by decide) lk_X1_behind_21 rfl dX1_behind_1 ?_
        refine zrwi (y := (1 : Int32)) (hph) ?_
        refine lv_if_ne (tgt := 30) hx hb dX1_behind_4 (by decide) (fun c6 => ?_) (fun c6 => ?_)
        · have qc6 := c6
          refine lv_aload_n hx hb dX1_behind_30 rfl (lv_at hl 0 rfl) ?_
          refine zget (fs := [.int bk, .ref (a 1), .ref (a 2), .int (nI pn), .int hd, .int ph, .int ot, .int wi, .int ik, .ref (a 3), .int th, .ref (a 4), .ref (a 5), .ref (a 6), .ref (a 7), .ref (a 8), .ref (a 9)]) (v := .ref (a 1)) Z hin X (ci := 1) (C := RX1) (T := TX1) (N := 17) rfl rfl 1 (by decide) lk_X1_behind_7 rfl dX1_behind_31 ?_
          refine lv_iload_n hx hb dX1_behind_34 rfl (lv_at hl 1 rfl) ?_
          refine zald (q0 := 1) (n := 16) (f := P) Z X rfl rfl z rfl (by omega) (by decide) dX1_behind_35 ?_
          refine zrwi (y := (-1 : Int32)) hm ?_
          refine lv_iconst (v := (-1 : Int32)) hx hb dX1_behind_36 (by decide) ?_
          refine lv_icmp_eq (tgt := 43) hx hb dX1_behind_37 (by decide) (fun c7 => ?_) (fun c7 => ?_)
          · have qc7 := c7
            refine lv_aload_n hx hb dX1_behind_43 rfl (lv_at hl 0 rfl) ?_
            refine lv_iload_n hx hb dX1_behind_44 rfl (lv_at hl 1 rfl) ?_
            refine lv_aload_n hx hb dX1_behind_45 rfl (lv_at hl 0 rfl) ?_
            refine zget (fs := [.int bk, .ref (a 1), .ref (a 2), .int (nI pn), .int hd, .int ph, .int ot, .int wi, .int ik, .ref (a 3), .int th, .ref (a 4), .ref (a 5), .ref (a 6), .ref (a 7), .ref (a 8), .ref (a 9)]) (v := .int hd) Z hin X (ci := 1) (C := RX1) (T := TX1) (N := 17) rfl rfl 4 (by decide) lk_X1_behind_17 rfl dX1_behind_46 ?_
            refine zrwi (y := nI pq) (hd1) ?_
            refine zcallVv (n := 2) (As := [.int (nI z), .int (nI pq)]) (rest := []) (ci := 1) (C := RX1) (T := TX1) (N := 17) Z X (c_X1_puts l g a bk pn hd ph ot wi ik th P O K kd lf ch be gi mr z pq (by omega) (by omega)) gX1_behind_X1_puts rfl (by decide +kernel) ⟨Nat.le_of_ble_eq_true rfl, Nat.le_of_ble_eq_true rfl⟩ rfl rfl rfl rfl hl.1 (Nat.le_of_ble_eq_true rfl) dX1_behind_49 ⟨Nat.zero_le _, Nat.zero_le _⟩ (fun ur7 H locs hrr7 X => ?_)
            obtain rfl : ur7 = (bk, nI (pn + 1), hd, ph, ot, wi, ik, th, upd P z (nI pq), upd O pq 1, K, kd, lf, ch, be, gi, mr) := hrr7
            have X : zh g A (oM g a (bk, nI (pn + 1), hd, ph, ot, wi, ik, th, upd P z (nI pq), upd O pq 1, K, kd, lf, ch, be, gi, mr)) s.heap H locs := X
            refine lv_aload_n hx hb dX1_behind_52 rfl (lv_at hl 0 rfl) ?_
            refine lv_iload_n hx hb dX1_behind_53 rfl (lv_at hl 1 rfl) ?_
            refine zcallVi (n := 1) (As := [.int (nI z)]) (rest := []) (ci := 1) (C := RX1) (T := TX1) (N := 17) Z X (c_X1_won l g a bk (pn + 1) hd ph ot wi ik th (upd P z (nI pq)) (upd O pq 1) K kd lf ch be gi mr z (by omega)) gX1_behind_X1_won rfl (by decide +kernel) ⟨Nat.le_of_ble_eq_true rfl, Nat.le_of_ble_eq_true rfl⟩ rfl rfl rfl rfl hl.1 (Nat.le_of_ble_eq_true rfl) dX1_behind_54 ⟨Nat.zero_le _, Nat.zero_le _⟩ (fun r8 ur8 H locs hrr8 X => ?_)
            obtain ⟨rfl, rfl⟩ : ur8 = (bk, nI (pn + 1), hd, ph, ot, wi, ik, th, upd P z (nI pq), upd O pq 1, K, kd, lf, ch, be, gi, mr) ∧ r8 = nI (mWon bk (upd P z (nI pq)) z) := hrr8
            have X : zh g A (oM g a (bk, nI (pn + 1), hd, ph, ot, wi, ik, th, upd P z (nI pq), upd O pq 1, K, kd, lf, ch, be, gi, mr)) s.heap H locs := X
            refine lv_if_le (tgt := 64) hx hb dX1_behind_57 (by decide) (fun c10 => ?_) (fun c10 => ?_)
            · have qc10 := c10
              have c10n : (mWon bk (upd P z (nI pq)) z) ≤ 0 := zn_let (by omega) (by omega) c10
              have hwn : ¬ 0 < mWon bk (upd P z (nI pq)) z := by omega
              exact absurd hw hwn
            · have qc10 := c10
              have c10n : ¬ (mWon bk (upd P z (nI pq)) z) ≤ 0 := zn_len (by omega) (by omega) c10
              have hwy : 0 < mWon bk (upd P z (nI pq)) z := by omega
              refine lv_iconst (v := (1 : Int32)) hx hb dX1_behind_60 (by decide) ?_
              refine lv_goto (tgt := 91) hx hb dX1_behind_61 (by decide) ?_
              refine lv_istore_n (lv' := [(3, .int (1 : Int32)), (0, .ref (a 0)), (1, .int (nI z)), (2, .int (nI nq))]) hx hb dX1_behind_91 rfl hl (by decide) rfl (fun ls hl => ?_)
              refine lv_aload_n hx hb dX1_behind_92 rfl (lv_at hl 1 rfl) ?_
              refine lv_iload_n hx hb dX1_behind_93 rfl (lv_at hl 2 rfl) ?_
              refine zcallVv (n := 1) (As := [.int (nI z)]) (rest := []) (ci := 1) (C := RX1) (T := TX1) (N := 17) Z X (c_X1_takes l g a bk pn hd ph ot wi ik th (upd P z (nI pq)) (upd O pq 1) K kd lf ch be gi mr z pq hz16 hp1 pk_us) gX1_behind_X1_takes rfl (by decide +kernel) ⟨Nat.le_of_ble_eq_true rfl, Nat.le_of_ble_eq_true rfl⟩ rfl rfl rfl rfl hl.1 (Nat.le_of_ble_eq_true rfl) dX1_behind_94 ⟨Nat.zero_le _, Nat.zero_le _⟩ (fun ur10 H locs hrr10 X => ?_)
              obtain rfl : ur10 = (bk, nI pn, hd, ph, ot, wi, ik, th, (upd (upd P z (nI pq)) z (-1)), (upd (upd O pq 1) pq 0), K, kd, lf, ch, be, gi, mr) := hrr10
              have X : zh g A (oM g a (bk, nI pn, hd, ph, ot, wi, ik, th, (upd (upd P z (nI pq)) z (-1)), (upd (upd O pq 1) pq 0), K, kd, lf, ch, be, gi, mr)) s.heap H locs := X
              have X : zh g A (oM g a (bk, nI pn, hd, ph, ot, wi, ik, th, P, O, K, kd, lf, ch, be, gi, mr)) s.heap H locs := by rw [upd_back (f := P) (k := z) hm, upd_back (f := O) hO] at X; exact X
              refine lv_iload_n hx hb dX1_behind_97 rfl (lv_at hl 0 rfl) ?_
              exact zreti Z hr hlk (bk, nI pn, hd, ph, ot, wi, ik, th, P, O, K, kd, lf, ch, be, gi, mr) X dX1_behind_98 rfl (by first | exact ⟨_, _, _, _, _, rfl, ((if_pos hm).trans (if_pos hw)).symm⟩ | exact ⟨_, _, _, _, _, rfl, ((if_pos hm).trans ((if_neg hw).trans (if_pos hz))).symm⟩ | exact ⟨_, _, _, _, _, rfl, ((if_pos hm).trans ((if_neg hw).trans ((if_neg hz).trans (mG_eq bk (by omega) _ _ _)))).symm⟩)
          · exact absurd c7 (by decide)
        · exact absurd c6 (by decide)
      ·
        skip
        by_cases hz : pn + 1 = 16 ∨ nq = 1
        ·
          skip
          refine lv_aload_n hx hb dX1_behind_0 rfl (lv_at hl 0 rfl) ?_
          refine zget (fs := [.int bk, .ref (a 1), .ref (a 2), .int (nI pn), .int hd, .int ph, .int ot, .int wi, .int ik, .ref (a 3), .int th, .ref (a 4), .ref (a 5), .ref (a 6), .ref (a 7), .ref (a 8), .ref (a 9)]) (v := .int ph) Z hin X (ci := 1) (C := RX1) (T := TX1) (N := 17) rfl rfl 5 (by decide) lk_X1_behind_21 rfl dX1_behind_1 ?_
          refine zrwi (y := (1 : Int32)) (hph) ?_
          refine lv_if_ne (tgt := 30) hx hb dX1_behind_4 (by decide) (fun c12 => ?_) (fun c12 => ?_)
          · have qc12 := c12
            refine lv_aload_n hx hb dX1_behind_30 rfl (lv_at hl 0 rfl) ?_
            refine zget (fs := [.int bk, .ref (a 1), .ref (a 2), .int (nI pn), .int hd, .int ph, .int ot, .int wi, .int ik, .ref (a 3), .int th, .ref (a 4), .ref (a 5), .ref (a 6), .ref (a 7), .ref (a 8), .ref (a 9)]) (v := .ref (a 1)) Z hin X (ci := 1) (C := RX1) (T := TX1) (N := 17) rfl rfl 1 (by decide) lk_X1_behind_7 rfl dX1_behind_31 ?_
            refine lv_iload_n hx hb dX1_behind_34 rfl (lv_at hl 1 rfl) ?_
            refine zald (q0 := 1) (n := 16) (f := P) Z X rfl rfl z rfl (by omega) (by decide) dX1_behind_35 ?_
            refine zrwi (y := (-1 : Int32)) hm ?_
            refine lv_iconst (v := (-1 : Int32)) hx hb dX1_behind_36 (by decide) ?_
            refine lv_icmp_eq (tgt := 43) hx hb dX1_behind_37 (by decide) (fun c13 => ?_) (fun c13 => ?_)
            · have qc13 := c13
              refine lv_aload_n hx hb dX1_behind_43 rfl (lv_at hl 0 rfl) ?_
              refine lv_iload_n hx hb dX1_behind_44 rfl (lv_at hl 1 rfl) ?_
              refine lv_aload_n hx hb dX1_behind_45 rfl (lv_at hl 0 rfl) ?_
              refine zget (fs := [.int bk, .ref (a 1), .ref (a 2), .int (nI pn), .int hd, .int ph, .int ot, .int wi, .int ik, .ref (a 3), .int th, .ref (a 4), .ref (a 5), .ref (a 6), .ref (a 7), .ref (a 8), .ref (a 9)]) (v := .int hd) Z hin X (ci := 1) (C := RX1) (T := TX1) (N := 17) rfl rfl 4 (by decide) lk_X1_behind_17 rfl dX1_behind_46 ?_
              refine zrwi (y := nI pq) (hd1) ?_
              refine zcallVv (n := 2) (As := [.int (nI z), .int (nI pq)]) (rest := []) (ci := 1) (C := RX1) (T := TX1) (N := 17) Z X (c_X1_puts l g a bk pn hd ph ot wi ik th P O K kd lf ch be gi mr z pq (by omega) (by omega)) gX1_behind_X1_puts rfl (by decide +kernel) ⟨Nat.le_of_ble_eq_true rfl, Nat.le_of_ble_eq_true rfl⟩ rfl rfl rfl rfl hl.1 (Nat.le_of_ble_eq_true rfl) dX1_behind_49 ⟨Nat.zero_le _, Nat.zero_le _⟩ (fun ur13 H locs hrr13 X => ?_)
              obtain rfl : ur13 = (bk, nI (pn + 1), hd, ph, ot, wi, ik, th, upd P z (nI pq), upd O pq 1, K, kd, lf, ch, be, gi, mr) := hrr13
              have X : zh g A (oM g a (bk, nI (pn + 1), hd, ph, ot, wi, ik, th, upd P z (nI pq), upd O pq 1, K, kd, lf, ch, be, gi, mr)) s.heap H locs := X
              refine lv_aload_n hx hb dX1_behind_52 rfl (lv_at hl 0 rfl) ?_
              refine lv_iload_n hx hb dX1_behind_53 rfl (lv_at hl 1 rfl) ?_
              refine zcallVi (n := 1) (As := [.int (nI z)]) (rest := []) (ci := 1) (C := RX1) (T := TX1) (N := 17) Z X (c_X1_won l g a bk (pn + 1) hd ph ot wi ik th (upd P z (nI pq)) (upd O pq 1) K kd lf ch be gi mr z (by omega)) gX1_behind_X1_won rfl (by decide +kernel) ⟨Nat.le_of_ble_eq_true rfl, Nat.le_of_ble_eq_true rfl⟩ rfl rfl rfl rfl hl.1 (Nat.le_of_ble_eq_true rfl) dX1_behind_54 ⟨Nat.zero_le _, Nat.zero_le _⟩ (fun r14 ur14 H locs hrr14 X => ?_)
              obtain ⟨rfl, rfl⟩ : ur14 = (bk, nI (pn + 1), hd, ph, ot, wi, ik, th, upd P z (nI pq), upd O pq 1, K, kd, lf, ch, be, gi, mr) ∧ r14 = nI (mWon bk (upd P z (nI pq)) z) := hrr14
              have X : zh g A (oM g a (bk, nI (pn + 1), hd, ph, ot, wi, ik, th, upd P z (nI pq), upd O pq 1, K, kd, lf, ch, be, gi, mr)) s.heap H locs := X
              refine lv_if_le (tgt := 64) hx hb dX1_behind_57 (by decide) (fun c16 => ?_) (fun c16 => ?_)
              · have qc16 := c16
                have c16n : (mWon bk (upd P z (nI pq)) z) ≤ 0 := zn_let (by omega) (by omega) c16
                have hwn : ¬ 0 < mWon bk (upd P z (nI pq)) z := by omega
                refine lv_aload_n hx hb dX1_behind_64 rfl (lv_at hl 0 rfl) ?_
                refine zget (fs := [.int bk, .ref (a 1), .ref (a 2), .int (nI (pn + 1)), .int hd, .int ph, .int ot, .int wi, .int ik, .ref (a 3), .int th, .ref (a 4), .ref (a 5), .ref (a 6), .ref (a 7), .ref (a 8), .ref (a 9)]) (v := .int (nI (pn + 1))) Z hin X (ci := 1) (C := RX1) (T := TX1) (N := 17) rfl rfl 3 (by decide) lk_X1_behind_70 rfl dX1_behind_65 ?_
                refine lv_bipush (v := nI 16) hx hb dX1_behind_68 (by decide) ?_
                refine lv_icmp_eq (tgt := 78) hx hb dX1_behind_70 (by decide) (fun c17 => ?_) (fun c17 => ?_)
                · have qc17 := c17
                  have c17n : (pn + 1) = 16 := zn_eqt (by omega) (by omega) c17
                  refine lv_iconst (v := (0 : Int32)) hx hb dX1_behind_78 (by decide) ?_
                  refine lv_goto (tgt := 91) hx hb dX1_behind_79 (by decide) ?_
                  refine lv_istore_n (lv' := [(3, .int (0 : Int32)), (0, .ref (a 0)), (1, .int (nI z)), (2, .int (nI nq))]) hx hb dX1_behind_91 rfl hl (by decide) rfl (fun ls hl => ?_)
                  refine lv_aload_n hx hb dX1_behind_92 rfl (lv_at hl 1 rfl) ?_
                  refine lv_iload_n hx hb dX1_behind_93 rfl (lv_at hl 2 rfl) ?_
                  refine zcallVv (n := 1) (As := [.int (nI z)]) (rest := []) (ci := 1) (C := RX1) (T := TX1) (N := 17) Z X (c_X1_takes l g a bk pn hd ph ot wi ik th (upd P z (nI pq)) (upd O pq 1) K kd lf ch be gi mr z pq hz16 hp1 pk_us) gX1_behind_X1_takes rfl (by decide +kernel) ⟨Nat.le_of_ble_eq_true rfl, Nat.le_of_ble_eq_true rfl⟩ rfl rfl rfl rfl hl.1 (Nat.le_of_ble_eq_true rfl) dX1_behind_94 ⟨Nat.zero_le _, Nat.zero_le _⟩ (fun ur17 H locs hrr17 X => ?_)
                  obtain rfl : ur17 = (bk, nI pn, hd, ph, ot, wi, ik, th, (upd (upd P z (nI pq)) z (-1)), (upd (upd O pq 1) pq 0), K, kd, lf, ch, be, gi, mr) := hrr17
                  have X : zh g A (oM g a (bk, nI pn, hd, ph, ot, wi, ik, th, (upd (upd P z (nI pq)) z (-1)), (upd (upd O pq 1) pq 0), K, kd, lf, ch, be, gi, mr)) s.heap H locs := X
                  have X : zh g A (oM g a (bk, nI pn, hd, ph, ot, wi, ik, th, P, O, K, kd, lf, ch, be, gi, mr)) s.heap H locs := by rw [upd_back (f := P) (k := z) hm, upd_back (f := O) hO] at X; exact X
                  refine lv_iload_n hx hb dX1_behind_97 rfl (lv_at hl 0 rfl) ?_
                  exact zreti Z hr hlk (bk, nI pn, hd, ph, ot, wi, ik, th, P, O, K, kd, lf, ch, be, gi, mr) X dX1_behind_98 rfl (by first | exact ⟨_, _, _, _, _, rfl, ((if_pos hm).trans (if_pos hw)).symm⟩ | exact ⟨_, _, _, _, _, rfl, ((if_pos hm).trans ((if_neg hw).trans (if_pos hz))).symm⟩ | exact ⟨_, _, _, _, _, rfl, ((if_pos hm).trans ((if_neg hw).trans ((if_neg hz).trans (mG_eq bk (by omega) _ _ _)))).symm⟩)
                · have qc17 := c17
                  have c17n : ¬ (pn + 1) = 16 := zn_eqn (by omega) (by omega) c17
                  refine lv_iload_n hx hb dX1_behind_73 rfl (lv_at hl 2 rfl) ?_
                  refine lv_iconst (v := nI 1) hx hb dX1_behind_74 (by decide) ?_
                  refine lv_icmp_ne (tgt := 82) hx hb dX1_behind_75 (by decide) (fun c19 => ?_) (fun c19 => ?_)
                  · have qc19 := c19
                    have c19n : ¬ nq = 1 := zn_eqn (by omega) (by omega) c19
                    exact absurd hz (by omega)
                  · have qc19 := c19
                    have c19n : nq = 1 := zn_eqt (by omega) (by omega) c19
                    refine lv_iconst (v := (0 : Int32)) hx hb dX1_behind_78 (by decide) ?_
                    refine lv_goto (tgt := 91) hx hb dX1_behind_79 (by decide) ?_
                    refine lv_istore_n (lv' := [(3, .int (0 : Int32)), (0, .ref (a 0)), (1, .int (nI z)), (2, .int (nI nq))]) hx hb dX1_behind_91 rfl hl (by decide) rfl (fun ls hl => ?_)
                    refine lv_aload_n hx hb dX1_behind_92 rfl (lv_at hl 1 rfl) ?_
                    refine lv_iload_n hx hb dX1_behind_93 rfl (lv_at hl 2 rfl) ?_
                    refine zcallVv (n := 1) (As := [.int (nI z)]) (rest := []) (ci := 1) (C := RX1) (T := TX1) (N := 17) Z X (c_X1_takes l g a bk pn hd ph ot wi ik th (upd P z (nI pq)) (upd O pq 1) K kd lf ch be gi mr z pq hz16 hp1 pk_us) gX1_behind_X1_takes rfl (by decide +kernel) ⟨Nat.le_of_ble_eq_true rfl, Nat.le_of_ble_eq_true rfl⟩ rfl rfl rfl rfl hl.1 (Nat.le_of_ble_eq_true rfl) dX1_behind_94 ⟨Nat.zero_le _, Nat.zero_le _⟩ (fun ur19 H locs hrr19 X => ?_)
                    obtain rfl : ur19 = (bk, nI pn, hd, ph, ot, wi, ik, th, (upd (upd P z (nI pq)) z (-1)), (upd (upd O pq 1) pq 0), K, kd, lf, ch, be, gi, mr) := hrr19
                    have X : zh g A (oM g a (bk, nI pn, hd, ph, ot, wi, ik, th, (upd (upd P z (nI pq)) z (-1)), (upd (upd O pq 1) pq 0), K, kd, lf, ch, be, gi, mr)) s.heap H locs := X
                    have X : zh g A (oM g a (bk, nI pn, hd, ph, ot, wi, ik, th, P, O, K, kd, lf, ch, be, gi, mr)) s.heap H locs := by rw [upd_back (f := P) (k := z) hm, upd_back (f := O) hO] at X; exact X
                    refine lv_iload_n hx hb dX1_behind_97 rfl (lv_at hl 0 rfl) ?_
                    exact zreti Z hr hlk (bk, nI pn, hd, ph, ot, wi, ik, th, P, O, K, kd, lf, ch, be, gi, mr) X dX1_behind_98 rfl (by first | exact ⟨_, _, _, _, _, rfl, ((if_pos hm).trans (if_pos hw)).symm⟩ | exact ⟨_, _, _, _, _, rfl, ((if_pos hm).trans ((if_neg hw).trans (if_pos hz))).symm⟩ | exact ⟨_, _, _, _, _, rfl, ((if_pos hm).trans ((if_neg hw).trans ((if_neg hz).trans (mG_eq bk (by omega) _ _ _)))).symm⟩)
              · have qc16 := c16
                have c16n : ¬ (mWon bk (upd P z (nI pq)) z) ≤ 0 := zn_len (by omega) (by omega) c16
                have hwy : 0 < mWon bk (upd P z (nI pq)) z := by omega
                exact absurd hwy hw
            · exact absurd c13 (by decide)
          · exact absurd c12 (by decide)
        ·
          have hokP := okM_put hok hz16 hp1 hm hO (fun q => hz (Or.inl q))
          refine lv_aload_n hx hb dX1_behind_0 rfl (lv_at hl 0 rfl) ?_
          refine zget (fs := [.int bk, .ref (a 1), .ref (a 2), .int (nI pn), .int hd, .int ph, .int ot, .int wi, .int ik, .ref (a 3), .int th, .ref (a 4), .ref (a 5), .ref (a 6), .ref (a 7), .ref (a 8), .ref (a 9)]) (v := .int ph) Z hin X (ci := 1) (C := RX1) (T := TX1) (N := 17) rfl rfl 5 (by decide) lk_X1_behind_21 rfl dX1_behind_1 ?_
          refine zrwi (y := (1 : Int32)) (hph) ?_
          refine lv_if_ne (tgt := 30) hx hb dX1_behind_4 (by decide) (fun c21 => ?_) (fun c21 => ?_)
          · have qc21 := c21
            refine lv_aload_n hx hb dX1_behind_30 rfl (lv_at hl 0 rfl) ?_
            refine zget (fs := [.int bk, .ref (a 1), .ref (a 2), .int (nI pn), .int hd, .int ph, .int ot, .int wi, .int ik, .ref (a 3), .int th, .ref (a 4), .ref (a 5), .ref (a 6), .ref (a 7), .ref (a 8), .ref (a 9)]) (v := .ref (a 1)) Z hin X (ci := 1) (C := RX1) (T := TX1) (N := 17) rfl rfl 1 (by decide) lk_X1_behind_7 rfl dX1_behind_31 ?_
            refine lv_iload_n hx hb dX1_behind_34 rfl (lv_at hl 1 rfl) ?_
            refine zald (q0 := 1) (n := 16) (f := P) Z X rfl rfl z rfl (by omega) (by decide) dX1_behind_35 ?_
            refine zrwi (y := (-1 : Int32)) hm ?_
            refine lv_iconst (v := (-1 : Int32)) hx hb dX1_behind_36 (by decide) ?_
            refine lv_icmp_eq (tgt := 43) hx hb dX1_behind_37 (by decide) (fun c22 => ?_) (fun c22 => ?_)
            · have qc22 := c22
              refine lv_aload_n hx hb dX1_behind_43 rfl (lv_at hl 0 rfl) ?_
              refine lv_iload_n hx hb dX1_behind_44 rfl (lv_at hl 1 rfl) ?_
              refine lv_aload_n hx hb dX1_behind_45 rfl (lv_at hl 0 rfl) ?_
              refine zget (fs := [.int bk, .ref (a 1), .ref (a 2), .int (nI pn), .int hd, .int ph, .int ot, .int wi, .int ik, .ref (a 3), .int th, .ref (a 4), .ref (a 5), .ref (a 6), .ref (a 7), .ref (a 8), .ref (a 9)]) (v := .int hd) Z hin X (ci := 1) (C := RX1) (T := TX1) (N := 17) rfl rfl 4 (by decide) lk_X1_behind_17 rfl dX1_behind_46 ?_
              refine zrwi (y := nI pq) (hd1) ?_
              refine zcallVv (n := 2) (As := [.int (nI z), .int (nI pq)]) (rest := []) (ci := 1) (C := RX1) (T := TX1) (N := 17) Z X (c_X1_puts l g a bk pn hd ph ot wi ik th P O K kd lf ch be gi mr z pq (by omega) (by omega)) gX1_behind_X1_puts rfl (by decide +kernel) ⟨Nat.le_of_ble_eq_true rfl, Nat.le_of_ble_eq_true rfl⟩ rfl rfl rfl rfl hl.1 (Nat.le_of_ble_eq_true rfl) dX1_behind_49 ⟨Nat.zero_le _, Nat.zero_le _⟩ (fun ur22 H locs hrr22 X => ?_)
              obtain rfl : ur22 = (bk, nI (pn + 1), hd, ph, ot, wi, ik, th, upd P z (nI pq), upd O pq 1, K, kd, lf, ch, be, gi, mr) := hrr22
              have X : zh g A (oM g a (bk, nI (pn + 1), hd, ph, ot, wi, ik, th, upd P z (nI pq), upd O pq 1, K, kd, lf, ch, be, gi, mr)) s.heap H locs := X
              refine lv_aload_n hx hb dX1_behind_52 rfl (lv_at hl 0 rfl) ?_
              refine lv_iload_n hx hb dX1_behind_53 rfl (lv_at hl 1 rfl) ?_
              refine zcallVi (n := 1) (As := [.int (nI z)]) (rest := []) (ci := 1) (C := RX1) (T := TX1) (N := 17) Z X (c_X1_won l g a bk (pn + 1) hd ph ot wi ik th (upd P z (nI pq)) (upd O pq 1) K kd lf ch be gi mr z (by omega)) gX1_behind_X1_won rfl (by decide +kernel) ⟨Nat.le_of_ble_eq_true rfl, Nat.le_of_ble_eq_true rfl⟩ rfl rfl rfl rfl hl.1 (Nat.le_of_ble_eq_true rfl) dX1_behind_54 ⟨Nat.zero_le _, Nat.zero_le _⟩ (fun r23 ur23 H locs hrr23 X => ?_)
              obtain ⟨rfl, rfl⟩ : ur23 = (bk, nI (pn + 1), hd, ph, ot, wi, ik, th, upd P z (nI pq), upd O pq 1, K, kd, lf, ch, be, gi, mr) ∧ r23 = nI (mWon bk (upd P z (nI pq)) z) := hrr23
              have X : zh g A (oM g a (bk, nI (pn + 1), hd, ph, ot, wi, ik, th, upd P z (nI pq), upd O pq 1, K, kd, lf, ch, be, gi, mr)) s.heap H locs := X
              refine lv_if_le (tgt := 64) hx hb dX1_behind_57 (by decide) (fun c25 => ?_) (fun c25 => ?_)
              · have qc25 := c25
                have c25n : (mWon bk (upd P z (nI pq)) z) ≤ 0 := zn_let (by omega) (by omega) c25
                have hwn : ¬ 0 < mWon bk (upd P z (nI pq)) z := by omega
                refine lv_aload_n hx hb dX1_behind_64 rfl (lv_at hl 0 rfl) ?_
                refine zget (fs := [.int bk, .ref (a 1), .ref (a 2), .int (nI (pn + 1)), .int hd, .int ph, .int ot, .int wi, .int ik, .ref (a 3), .int th, .ref (a 4), .ref (a 5), .ref (a 6), .ref (a 7), .ref (a 8), .ref (a 9)]) (v := .int (nI (pn + 1))) Z hin X (ci := 1) (C := RX1) (T := TX1) (N := 17) rfl rfl 3 (by decide) lk_X1_behind_70 rfl dX1_behind_65 ?_
                refine lv_bipush (v := nI 16) hx hb dX1_behind_68 (by decide) ?_
                refine lv_icmp_eq (tgt := 78) hx hb dX1_behind_70 (by decide) (fun c26 => ?_) (fun c26 => ?_)
                · have qc26 := c26
                  have c26n : (pn + 1) = 16 := zn_eqt (by omega) (by omega) c26
                  exact absurd (Or.inl c26n) hz
                · have qc26 := c26
                  have c26n : ¬ (pn + 1) = 16 := zn_eqn (by omega) (by omega) c26
                  refine lv_iload_n hx hb dX1_behind_73 rfl (lv_at hl 2 rfl) ?_
                  refine lv_iconst (v := nI 1) hx hb dX1_behind_74 (by decide) ?_
                  refine lv_icmp_ne (tgt := 82) hx hb dX1_behind_75 (by decide) (fun c27 => ?_) (fun c27 => ?_)
                  · have qc27 := c27
                    have c27n : ¬ nq = 1 := zn_eqn (by omega) (by omega) c27
                    refine lv_aload_n hx hb dX1_behind_82 rfl (lv_at hl 0 rfl) ?_
                    refine lv_iconst (v := (0 : Int32)) hx hb dX1_behind_83 (by decide) ?_
                    refine zrwi (y := zb false) (rfl) ?_
                    refine lv_iload_n hx hb dX1_behind_84 rfl (lv_at hl 2 rfl) ?_
                    refine lv_iconst (v := nI 1) hx hb dX1_behind_85 (by decide) ?_
                    refine lv_isub hx hb dX1_behind_86 ?_
                    refine zrwi (y := nI (nq - 1)) (pk_sub (by omega)) ?_
                    refine lv_iconst (v := (-1 : Int32)) hx hb dX1_behind_87 (by decide) ?_
                    refine zcallVi (n := 3) (As := [.int (zb false), .int (nI (nq - 1)), .int (-1 : Int32)]) (rest := []) (ci := 1) (C := RX1) (T := TX1) (N := 17) Z X (c_X1_looks l g a bk (pn + 1) hd ph ot wi ik th (upd P z (nI pq)) (upd O pq 1) K kd lf ch be gi mr false (nq - 1) (-1 : Int32) 0 (by omega) (by omega) hokP (by intro q; exact absurd q (by decide))) gX1_behind_X1_looks rfl (by decide +kernel) ⟨Nat.le_of_ble_eq_true rfl, Nat.le_of_ble_eq_true rfl⟩ rfl rfl rfl rfl hl.1 (Nat.le_of_ble_eq_true rfl) dX1_behind_88 ⟨Nat.zero_le _, Nat.zero_le _⟩ (fun r27 ur27 H locs hrr27 X => ?_)
                    obtain ⟨kdr27, lfr27, chr27, ber27, gir27, rfl, her27⟩ : ∃ kd2 lf2 ch2 be2 gi2 : Nat → Int32, ur27 = (bk, nI (pn + 1), hd, ph, ot, wi, ik, th, upd P z (nI pq), upd O pq 1, K, kd2, lf2, ch2, be2, gi2, mr) ∧ r27 = mx32 (lkF bk false (nq - 1) (upd P z (nI pq)) (upd O pq 1) (pn + 1) 0) 16 := hrr27
                    have X : zh g A (oM g a (bk, nI (pn + 1), hd, ph, ot, wi, ik, th, upd P z (nI pq), upd O pq 1, K, kdr27, lfr27, chr27, ber27, gir27, mr)) s.heap H locs := X
                    refine zrwi (y := mx32 (lkF bk false (nq - 1) (upd P z (nI pq)) (upd O pq 1) (pn + 1) 0) 16) her27 ?_
                    refine lv_istore_n (lv' := [(3, .int (mx32 (lkF bk false (nq - 1) (upd P z (nI pq)) (upd O pq 1) (pn + 1) 0) 16)), (0, .ref (a 0)), (1, .int (nI z)), (2, .int (nI nq))]) hx hb dX1_behind_91 rfl hl (by decide) rfl (fun ls hl => ?_)
                    refine lv_aload_n hx hb dX1_behind_92 rfl (lv_at hl 1 rfl) ?_
                    refine lv_iload_n hx hb dX1_behind_93 rfl (lv_at hl 2 rfl) ?_
                    refine zcallVv (n := 1) (As := [.int (nI z)]) (rest := []) (ci := 1) (C := RX1) (T := TX1) (N := 17) Z X (c_X1_takes l g a bk pn hd ph ot wi ik th (upd P z (nI pq)) (upd O pq 1) K kdr27 lfr27 chr27 ber27 gir27 mr z pq hz16 hp1 pk_us) gX1_behind_X1_takes rfl (by decide +kernel) ⟨Nat.le_of_ble_eq_true rfl, Nat.le_of_ble_eq_true rfl⟩ rfl rfl rfl rfl hl.1 (Nat.le_of_ble_eq_true rfl) dX1_behind_94 ⟨Nat.zero_le _, Nat.zero_le _⟩ (fun ur28 H locs hrr28 X => ?_)
                    obtain rfl : ur28 = (bk, nI pn, hd, ph, ot, wi, ik, th, (upd (upd P z (nI pq)) z (-1)), (upd (upd O pq 1) pq 0), K, kdr27, lfr27, chr27, ber27, gir27, mr) := hrr28
                    have X : zh g A (oM g a (bk, nI pn, hd, ph, ot, wi, ik, th, (upd (upd P z (nI pq)) z (-1)), (upd (upd O pq 1) pq 0), K, kdr27, lfr27, chr27, ber27, gir27, mr)) s.heap H locs := X
                    have X : zh g A (oM g a (bk, nI pn, hd, ph, ot, wi, ik, th, P, O, K, kdr27, lfr27, chr27, ber27, gir27, mr)) s.heap H locs := by rw [upd_back (f := P) (k := z) hm, upd_back (f := O) hO] at X; exact X
                    refine lv_iload_n hx hb dX1_behind_97 rfl (lv_at hl 0 rfl) ?_
                    exact zreti Z hr hlk (bk, nI pn, hd, ph, ot, wi, ik, th, P, O, K, kdr27, lfr27, chr27, ber27, gir27, mr) X dX1_behind_98 rfl (by first | exact ⟨_, _, _, _, _, rfl, ((if_pos hm).trans (if_pos hw)).symm⟩ | exact ⟨_, _, _, _, _, rfl, ((if_pos hm).trans ((if_neg hw).trans (if_pos hz))).symm⟩ | exact ⟨_, _, _, _, _, rfl, ((if_pos hm).trans ((if_neg hw).trans ((if_neg hz).trans (mG_eq bk (by omega) _ _ _)))).symm⟩)
                  · have qc27 := c27
                    have c27n : nq = 1 := zn_eqt (by omega) (by omega) c27
                    exact absurd (Or.inr c27n) hz
              · have qc25 := c25
                have c25n : ¬ (mWon bk (upd P z (nI pq)) z) ≤ 0 := zn_len (by omega) (by omega) c25
                have hwy : 0 < mWon bk (upd P z (nI pq)) z := by omega
                exact absurd hwy hw
            · exact absurd c22 (by decide)
          · exact absurd c21 (by decide)
    ·
      skip
      refine lv_aload_n hx hb dX1_behind_0 rfl (lv_at hl 0 rfl) ?_
      refine zget (fs := [.int bk, .ref (a 1), .ref (a 2), .int (nI pn), .int hd, .int ph, .int ot, .int wi, .int ik, .ref (a 3), .int th, .ref (a 4), .ref (a 5), .ref (a 6), .ref (a 7), .ref (a 8), .ref (a 9)]) (v := .int ph) Z hin X (ci := 1) (C := RX1) (T := TX1) (N := 17) rfl rfl 5 (by decide) lk_X1_behind_21 rfl dX1_behind_1 ?_
      refine zrwi (y := (1 : Int32)) (hph) ?_
      refine lv_if_ne (tgt := 30) hx hb dX1_behind_4 (by decide) (fun c30 => ?_) (fun c30 => ?_)
      · have qc30 := c30
        refine lv_aload_n hx hb dX1_behind_30 rfl (lv_at hl 0 rfl) ?_
        refine zget (fs := [.int bk, .ref (a 1), .ref (a 2), .int (nI pn), .int hd, .int ph, .int ot, .int wi, .int ik, .ref (a 3), .int th, .ref (a 4), .ref (a 5), .ref (a 6), .ref (a 7), .ref (a 8), .ref (a 9)]) (v := .ref (a 1)) Z hin X (ci := 1) (C := RX1) (T := TX1) (N := 17) rfl rfl 1 (by decide) lk_X1_behind_7 rfl dX1_behind_31 ?_
        refine lv_iload_n hx hb dX1_behind_34 rfl (lv_at hl 1 rfl) ?_
        refine zald (q0 := 1) (n := 16) (f := P) Z X rfl rfl z rfl (by omega) (by decide) dX1_behind_35 ?_
        refine lv_iconst (v := (-1 : Int32)) hx hb dX1_behind_36 (by decide) ?_
        refine lv_icmp_eq (tgt := 43) hx hb dX1_behind_37 (by decide) (fun c31 => ?_) (fun c31 => ?_)
        · have qc31 := c31
          exact absurd c31 hm
        · have qc31 := c31
          refine lv_bipush (v := (-2 : Int32)) hx hb dX1_behind_40 (by decide) ?_
          exact zreti Z hr hlk (bk, nI pn, hd, ph, ot, wi, ik, th, P, O, K, kd, lf, ch, be, gi, mr) X dX1_behind_42 rfl (⟨_, _, _, _, _, rfl, (if_neg hm).symm⟩)
      · exact absurd c30 (by decide)
