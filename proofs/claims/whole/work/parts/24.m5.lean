/-! the twin: worth and best -/
def mFar (np : Int32) (pn : Nat) : Prop := (np = 3 ∧ 8 < 16 - pn) ∨ (np = 4 ∧ 6 < 16 - pn)
theorem mx_ex {F : Nat → Int32} : ∀ {k : Nat}, ¬ mx32 F k = -2 → ∃ j, j < k ∧ F j = mx32 F k
  | 0, h => absurd rfl h
  | k + 1, h => by
    unfold mx32 at h ⊢
    by_cases e : F k ≤ mx32 F k
    · rw [if_pos e] at h ⊢
      obtain ⟨j, h1, h2⟩ := mx_ex (k := k) h
      exact ⟨j, by omega, h2⟩
    · rw [if_neg e]
      exact ⟨k, by omega, rfl⟩
theorem lk_ex (w : Int32) {kp : Bool} {n : Nat} {P O : Nat → Int32} {pn p : Nat} (hn : 1 ≤ n) (ho : okM P O pn) (hp : kp = true → p < 16 ∧ O p = 0) : ∃ j, j < 16 ∧ lkF w kp n P O pn p j = mx32 (lkF w kp n P O pn p) 16 := by
  refine mx_ex (fun q => ?_)
  cases kp with
  | false =>
    have h := ((m_range w n).1 P O pn ho).1
    rw [mG_eq w hn, show mx32 (mGF w n P O pn) 16 = -2 from q] at h
    exact absurd h (by decide)
  | true =>
    have h := ((m_range w n).2 P O pn p ho (hp rfl).1 (hp rfl).2).2.1
    rw [show mPv w n P O pn p = -2 from q] at h
    exact absurd h (by decide)
theorem inw_X1_cannot : ∀ w ∈ wsX10, w ∈ wsX1_cannot := by decide +kernel
theorem lk_X1_cannot_70 : Cond.fieldLink RX1 70 "QuarterboardModel" "placed" "I" ∈ wsX1_cannot := by decide +kernel
theorem lk_X1_cannot_21 : Cond.fieldLink RX1 21 "QuarterboardModel" "phase" "I" ∈ wsX1_cannot := by decide +kernel
def P_X1_cannot_A (bk : Int32) (pn : Nat) (hd ph ot wi ik th : Int32) (P O K kd lf ch be gi mr : Nat → Int32) (np : Int32) : Int32 → MS → Prop := fun r u => u = (bk, nI pn, hd, ph, ot, wi, ik, 1, P, O, K, kd, lf, ch, be, gi, mr) ∧ r = 1
set_option maxHeartbeats 600000 in
set_option maxRecDepth 100000 in
theorem c_X1_cannot_A (l : Launch) (g : zG) (a : Nat → Nat) (bk : Int32) (pn : Nat) (hd ph ot wi ik th : Int32) (P O K kd lf ch be gi mr : Nat → Int32) (np : Int32) (hpn : pn ≤ 16) (hA : np < 1 ∨ ¬ np ≤ 4) : zM l yX1_cannot wsX1_cannot 1 60 g [.ref (a 0), .int np] (oM g a (bk, nI pn, hd, ph, ot, wi, ik, th, P, O, K, kd, lf, ch, be, gi, mr)) zE0 (zQi g (P_X1_cannot_A bk pn hd ph ot wi ik th P O K kd lf ch be gi mr np) (oM g a)) := by
  refine zstart (cc := cX1_cannot) (maxL := 4) (ret := (some .boolean)) (own := RX1) rfl (by decide) rfl zSt0 (Nat.le_of_ble_eq_true rfl) ?_
  intro p e s m below meth c A Z hr hlk H locs X ls hl
  have hx := Z.1.1
  have hb := Z.1.2.1
  have hin : ∀ w ∈ wsX10, w ∈ wsX1_cannot := inw_X1_cannot
  have hl : lv_has ls 4 [(0, .ref (a 0)), (1, .int np)] := hl
  have X : zh g A (oM g a (bk, nI pn, hd, ph, ot, wi, ik, th, P, O, K, kd, lf, ch, be, gi, mr)) s.heap H locs := X
  refine lv_bipush (v := nI 16) hx hb dX1_cannot_0 (by decide) ?_
  refine lv_aload_n hx hb dX1_cannot_2 rfl (lv_at hl 0 rfl) ?_
  refine zget (fs := [.int bk, .ref (a 1), .ref (a 2), .int (nI pn), .int hd, .int ph, .int ot, .int wi, .int ik, .ref (a 3), .int th, .ref (a 4), .ref (a 5), .ref (a 6), .ref (a 7), .ref (a 8), .ref (a 9)]) (v := .int (nI pn)) Z hin X (ci := 1) (C := RX1) (T := TX1) (N := 17) rfl rfl 3 (by decide) lk_X1_cannot_70 rfl dX1_cannot_3 ?_
  refine lv_isub hx hb dX1_cannot_6 ?_
  refine zrwi (y := nI (16 - pn)) (pk_sub (by omega)) ?_
  refine lv_istore_n (lv' := [(2, .int (nI (16 - pn))), (0, .ref (a 0)), (1, .int np)]) hx hb dX1_cannot_7 rfl hl (by decide) rfl (fun ls hl => ?_)
  refine lv_iload_n hx hb dX1_cannot_8 rfl (lv_at hl 2 rfl) ?_
  refine lv_iconst (v := (3 : Int32)) hx hb dX1_cannot_9 (by decide) ?_
  refine lv_icmp_ne (tgt := 19) hx hb dX1_cannot_10 (by decide) (fun c1 => ?_) (fun c1 => ?_)
  · have qc1 := c1
    refine lv_iload_n hx hb dX1_cannot_19 rfl (lv_at hl 2 rfl) ?_
    refine lv_iconst (v := (4 : Int32)) hx hb dX1_cannot_20 (by decide) ?_
    refine lv_icmp_ne (tgt := 34) hx hb dX1_cannot_21 (by decide) (fun c2 => ?_) (fun c2 => ?_)
    · have qc2 := c2
      have hfar : ¬ mFar np pn := by unfold mFar; rintro (⟨h1, h2⟩ | ⟨h1, h2⟩) <;> first | contradiction | omega
      refine lv_iconst (v := (0 : Int32)) hx hb dX1_cannot_34 (by decide) ?_
      refine lv_istore_n (lv' := [(3, .int (0 : Int32)), (2, .int (nI (16 - pn))), (0, .ref (a 0)), (1, .int np)]) hx hb dX1_cannot_35 rfl hl (by decide) rfl (fun ls hl => ?_)
      refine lv_aload_n hx hb dX1_cannot_36 rfl (lv_at hl 2 rfl) ?_
      refine lv_iload_n hx hb dX1_cannot_37 rfl (lv_at hl 3 rfl) ?_
      refine lv_iconst (v := (1 : Int32)) hx hb dX1_cannot_38 (by decide) ?_
      refine lv_icmp_lt (tgt := 47) hx hb dX1_cannot_39 (by decide) (fun c3 => ?_) (fun c3 => ?_)
      · have qc3 := c3
        have ha : np < 1 := c3
        refine lv_iconst (v := (1 : Int32)) hx hb dX1_cannot_47 (by decide) ?_
        refine lv_goto (tgt := 68) hx hb dX1_cannot_48 (by decide) ?_
        refine zcallVi (n := 1) (As := [.int (1 : Int32)]) (rest := []) (ci := 1) (C := RX1) (T := TX1) (N := 17) Z X (c_X1_fails l g a bk pn hd ph ot wi ik th P O K kd lf ch be gi mr (1 : Int32)) gX1_cannot_X1_fails rfl (by decide +kernel) ⟨Nat.le_of_ble_eq_true rfl, Nat.le_of_ble_eq_true rfl⟩ rfl rfl rfl rfl hl.1 (Nat.le_of_ble_eq_true rfl) dX1_cannot_68 ⟨Nat.zero_le _, Nat.zero_le _⟩ (fun r3 ur3 H locs hrr3 X => ?_)
        obtain ⟨rfl, hfr3⟩ : ur3 = (bk, nI pn, hd, ph, ot, wi, ik, (1 : Int32), P, O, K, kd, lf, ch, be, gi, mr) ∧ r3 = zb (decide ((0 : Int32) < (1 : Int32))) := hrr3
        obtain rfl : r3 = (1 : Int32) := hfr3.trans (by decide)
        have X : zh g A (oM g a (bk, nI pn, hd, ph, ot, wi, ik, (1 : Int32), P, O, K, kd, lf, ch, be, gi, mr)) s.heap H locs := X
        exact zreti Z hr hlk (bk, nI pn, hd, ph, ot, wi, ik, (1 : Int32), P, O, K, kd, lf, ch, be, gi, mr) X dX1_cannot_71 rfl (⟨rfl, rfl⟩)
      · have qc3 := c3
        have ha : ¬ np < 1 := c3
        refine lv_iload_n hx hb dX1_cannot_42 rfl (lv_at hl 3 rfl) ?_
        refine lv_iconst (v := (4 : Int32)) hx hb dX1_cannot_43 (by decide) ?_
        refine lv_icmp_le (tgt := 51) hx hb dX1_cannot_44 (by decide) (fun c5 => ?_) (fun c5 => ?_)
        · have qc5 := c5
          exact hA.elim (fun q => absurd q ha) (fun q => absurd c5 q)
        · have qc5 := c5
          refine lv_iconst (v := (1 : Int32)) hx hb dX1_cannot_47 (by decide) ?_
          refine lv_goto (tgt := 68) hx hb dX1_cannot_48 (by decide) ?_
          refine zcallVi (n := 1) (As := [.int (1 : Int32)]) (rest := []) (ci := 1) (C := RX1) (T := TX1) (N := 17) Z X (c_X1_fails l g a bk pn hd ph ot wi ik th P O K kd lf ch be gi mr (1 : Int32)) gX1_cannot_X1_fails rfl (by decide +kernel) ⟨Nat.le_of_ble_eq_true rfl, Nat.le_of_ble_eq_true rfl⟩ rfl rfl rfl rfl hl.1 (Nat.le_of_ble_eq_true rfl) dX1_cannot_68 ⟨Nat.zero_le _, Nat.zero_le _⟩ (fun r5 ur5 H locs hrr5 X => ?_)
          obtain ⟨rfl, hfr5⟩ : ur5 = (bk, nI pn, hd, ph, ot, wi, ik, (1 : Int32), P, O, K, kd, lf, ch, be, gi, mr) ∧ r5 = zb (decide ((0 : Int32) < (1 : Int32))) := hrr5
          obtain rfl : r5 = (1 : Int32) := hfr5.trans (by decide)
          have X : zh g A (oM g a (bk, nI pn, hd, ph, ot, wi, ik, (1 : Int32), P, O, K, kd, lf, ch, be, gi, mr)) s.heap H locs := X
          exact zreti Z hr hlk (bk, nI pn, hd, ph, ot, wi, ik, (1 : Int32), P, O, K, kd, lf, ch, be, gi, mr) X dX1_cannot_71 rfl (⟨rfl, rfl⟩)
    · have qc2 := c2
      refine lv_iload_n hx hb dX1_cannot_24 rfl (lv_at hl 0 rfl) ?_
      refine lv_bipush (v := nI 6) hx hb dX1_cannot_25 (by decide) ?_
      refine lv_icmp_le (tgt := 34) hx hb dX1_cannot_27 (by decide) (fun c7 => ?_) (fun c7 => ?_)
      · have qc7 := c7
        have c7n : (16 - pn) ≤ 6 := zn_let (by omega) (by omega) c7
        have hfar : ¬ mFar np pn := by unfold mFar; rintro (⟨h1, h2⟩ | ⟨h1, h2⟩) <;> first | contradiction | omega
        refine lv_iconst (v := (0 : Int32)) hx hb dX1_cannot_34 (by decide) ?_
        refine lv_istore_n (lv' := [(3, .int (0 : Int32)), (2, .int (nI (16 - pn))), (0, .ref (a 0)), (1, .int np)]) hx hb dX1_cannot_35 rfl hl (by decide) rfl (fun ls hl => ?_)
        refine lv_aload_n hx hb dX1_cannot_36 rfl (lv_at hl 2 rfl) ?_
        refine lv_iload_n hx hb dX1_cannot_37 rfl (lv_at hl 3 rfl) ?_
        refine lv_iconst (v := (1 : Int32)) hx hb dX1_cannot_38 (by decide) ?_
        refine lv_icmp_lt (tgt := 47) hx hb dX1_cannot_39 (by decide) (fun c8 => ?_) (fun c8 => ?_)
        · have qc8 := c8
          have ha : np < 1 := c8
          refine lv_iconst (v := (1 : Int32)) hx hb dX1_cannot_47 (by decide) ?_
          refine lv_goto (tgt := 68) hx hb dX1_cannot_48 (by decide) ?_
          refine zcallVi (n := 1) (As := [.int (1 : Int32)]) (rest := []) (ci := 1) (C := RX1) (T := TX1) (N := 17) Z X (c_X1_fails l g a bk pn hd ph ot wi ik th P O K kd lf ch be gi mr (1 : Int32)) gX1_cannot_X1_fails rfl (by decide +kernel) ⟨Nat.le_of_ble_eq_true rfl, Nat.le_of_ble_eq_true rfl⟩ rfl rfl rfl rfl hl.1 (Nat.le_of_ble_eq_true rfl) dX1_cannot_68 ⟨Nat.zero_le _, Nat.zero_le _⟩ (fun r8 ur8 H locs hrr8 X => ?_)
          obtain ⟨rfl, hfr8⟩ : ur8 = (bk, nI pn, hd, ph, ot, wi, ik, (1 : Int32), P, O, K, kd, lf, ch, be, gi, mr) ∧ r8 = zb (decide ((0 : Int32) < (1 : Int32))) := hrr8
          obtain rfl : r8 = (1 : Int32) := hfr8.trans (by decide)
          have X : zh g A (oM g a (bk, nI pn, hd, ph, ot, wi, ik, (1 : Int32), P, O, K, kd, lf, ch, be, gi, mr)) s.heap H locs := X
          exact zreti Z hr hlk (bk, nI pn, hd, ph, ot, wi, ik, (1 : Int32), P, O, K, kd, lf, ch, be, gi, mr) X dX1_cannot_71 rfl (⟨rfl, rfl⟩)
        · have qc8 := c8
          have ha : ¬ np < 1 := c8
          refine lv_iload_n hx hb dX1_cannot_42 rfl (lv_at hl 3 rfl) ?_
          refine lv_iconst (v := (4 : Int32)) hx hb dX1_cannot_43 (by decide) ?_
          refine lv_icmp_le (tgt := 51) hx hb dX1_cannot_44 (by decide) (fun c10 => ?_) (fun c10 => ?_)
          · have qc10 := c10
            exact hA.elim (fun q => absurd q ha) (fun q => absurd c10 q)
          · have qc10 := c10
            refine lv_iconst (v := (1 : Int32)) hx hb dX1_cannot_47 (by decide) ?_
            refine lv_goto (tgt := 68) hx hb dX1_cannot_48 (by decide) ?_
            refine zcallVi (n := 1) (As := [.int (1 : Int32)]) (rest := []) (ci := 1) (C := RX1) (T := TX1) (N := 17) Z X (c_X1_fails l g a bk pn hd ph ot wi ik th P O K kd lf ch be gi mr (1 : Int32)) gX1_cannot_X1_fails rfl (by decide +kernel) ⟨Nat.le_of_ble_eq_true rfl, Nat.le_of_ble_eq_true rfl⟩ rfl rfl rfl rfl hl.1 (Nat.le_of_ble_eq_true rfl) dX1_cannot_68 ⟨Nat.zero_le _, Nat.zero_le _⟩ (fun r10 ur10 H locs hrr10 X => ?_)
            obtain ⟨rfl, hfr10⟩ : ur10 = (bk, nI pn, hd, ph, ot, wi, ik, (1 : Int32), P, O, K, kd, lf, ch, be, gi, mr) ∧ r10 = zb (decide ((0 : Int32) < (1 : Int32))) := hrr10
            obtain rfl : r10 = (1 : Int32) := hfr10.trans (by decide)
            have X : zh g A (oM g a (bk, nI pn, hd, ph, ot, wi, ik, (1 : Int32), P, O, K, kd, lf, ch, be, gi, mr)) s.heap H locs := X
            exact zreti Z hr hlk (bk, nI pn, hd, ph, ot, wi, ik, (1 : Int32), P, O, K, kd, lf, ch, be, gi, mr) X dX1_cannot_71 rfl (⟨rfl, rfl⟩)
      · have qc7 := c7
        have c7n : ¬ (16 - pn) ≤ 6 := zn_len (by omega) (by omega) c7
        have hfar : mFar np pn := by unfold mFar; first | exact Or.inl ⟨‹np = 3›, by omega⟩ | exact Or.inr ⟨‹np = 4›, by omega⟩
        refine lv_iconst (v := (1 : Int32)) hx hb dX1_cannot_30 (by decide) ?_
        refine lv_goto (tgt := 35) hx hb dX1_cannot_31 (by decide) ?_
        refine lv_istore_n (lv' := [(3, .int (1 : Int32)), (2, .int (nI (16 - pn))), (0, .ref (a 0)), (1, .int np)]) hx hb dX1_cannot_35 rfl hl (by decide) rfl (fun ls hl => ?_)
        refine lv_aload_n hx hb dX1_cannot_36 rfl (lv_at hl 2 rfl) ?_
        refine lv_iload_n hx hb dX1_cannot_37 rfl (lv_at hl 3 rfl) ?_
        refine lv_iconst (v := (1 : Int32)) hx hb dX1_cannot_38 (by decide) ?_
        refine lv_icmp_lt (tgt := 47) hx hb dX1_cannot_39 (by decide) (fun c12 => ?_) (fun c12 => ?_)
        · have qc12 := c12
          have ha : np < 1 := c12
          refine lv_iconst (v := (1 : Int32)) hx hb dX1_cannot_47 (by decide) ?_
          refine lv_goto (tgt := 68) hx hb dX1_cannot_48 (by decide) ?_
          refine zcallVi (n := 1) (As := [.int (1 : Int32)]) (rest := []) (ci := 1) (C := RX1) (T := TX1) (N := 17) Z X (c_X1_fails l g a bk pn hd ph ot wi ik th P O K kd lf ch be gi mr (1 : Int32)) gX1_cannot_X1_fails rfl (by decide +kernel) ⟨Nat.le_of_ble_eq_true rfl, Nat.le_of_ble_eq_true rfl⟩ rfl rfl rfl rfl hl.1 (Nat.le_of_ble_eq_true rfl) dX1_cannot_68 ⟨Nat.zero_le _, Nat.zero_le _⟩ (fun r12 ur12 H locs hrr12 X => ?_)
          obtain ⟨rfl, hfr12⟩ : ur12 = (bk, nI pn, hd, ph, ot, wi, ik, (1 : Int32), P, O, K, kd, lf, ch, be, gi, mr) ∧ r12 = zb (decide ((0 : Int32) < (1 : Int32))) := hrr12
          obtain rfl : r12 = (1 : Int32) := hfr12.trans (by decide)
          have X : zh g A (oM g a (bk, nI pn, hd, ph, ot, wi, ik, (1 : Int32), P, O, K, kd, lf, ch, be, gi, mr)) s.heap H locs := X
          exact zreti Z hr hlk (bk, nI pn, hd, ph, ot, wi, ik, (1 : Int32), P, O, K, kd, lf, ch, be, gi, mr) X dX1_cannot_71 rfl (⟨rfl, rfl⟩)
        · have qc12 := c12
          have ha : ¬ np < 1 := c12
          refine lv_iload_n hx hb dX1_cannot_42 rfl (lv_at hl 3 rfl) ?_
          refine lv_iconst (v := (4 : Int32)) hx hb dX1_cannot_43 (by decide) ?_
          refine lv_icmp_le (tgt := 51) hx hb dX1_cannot_44 (by decide) (fun c14 => ?_) (fun c14 => ?_)
          · have qc14 := c14
            exact hA.elim (fun q => absurd q ha) (fun q => absurd c14 q)
          · have qc14 := c14
            refine lv_iconst (v := (1 : Int32)) hx hb dX1_cannot_47 (by decide) ?_
            refine lv_goto (tgt := 68) hx hb dX1_cannot_48 (by decide) ?_
            refine zcallVi (n := 1) (As := [.int (1 : Int32)]) (rest := []) (ci := 1) (C := RX1) (T := TX1) (N := 17) Z X (c_X1_fails l g a bk pn hd ph ot wi ik th P O K kd lf ch be gi mr (1 : Int32)) gX1_cannot_X1_fails rfl (by decide +kernel) ⟨Nat.le_of_ble_eq_true rfl, Nat.le_of_ble_eq_true rfl⟩ rfl rfl rfl rfl hl.1 (Nat.le_of_ble_eq_true rfl) dX1_cannot_68 ⟨Nat.zero_le _, Nat.zero_le _⟩ (fun r14 ur14 H locs hrr14 X => ?_)
            obtain ⟨rfl, hfr14⟩ : ur14 = (bk, nI pn, hd, ph, ot, wi, ik, (1 : Int32), P, O, K, kd, lf, ch, be, gi, mr) ∧ r14 = zb (decide ((0 : Int32) < (1 : Int32))) := hrr14
            obtain rfl : r14 = (1 : Int32) := hfr14.trans (by decide)
            have X : zh g A (oM g a (bk, nI pn, hd, ph, ot, wi, ik, (1 : Int32), P, O, K, kd, lf, ch, be, gi, mr)) s.heap H locs := X
            exact zreti Z hr hlk (bk, nI pn, hd, ph, ot, wi, ik, (1 : Int32), P, O, K, kd, lf, ch, be, gi, mr) X dX1_cannot_71 rfl (⟨rfl, rfl⟩)
  · have qc1 := c1
    refine lv_iload_n hx hb dX1_cannot_13 rfl (lv_at hl 0 rfl) ?_
    refine lv_bipush (v := nI 8) hx hb dX1_cannot_14 (by decide) ?_
    refine lv_icmp_gt (tgt := 30) hx hb dX1_cannot_16 (by decide) (fun c16 => ?_) (fun c16 => ?_)
    · have qc16 := c16
      have c16n : 8 < (16 - pn) := zn_ltt (by omega) (by omega) c16
      have hfar : mFar np pn := by unfold mFar; first | exact Or.inl ⟨‹np = 3›, by omega⟩ | exact Or.inr ⟨‹np = 4›, by omega⟩
      refine lv_iconst (v := (1 : Int32)) hx hb dX1_cannot_30 (by decide) ?_
      refine lv_goto (tgt := 35) hx hb dX1_cannot_31 (by decide) ?_
      refine lv_istore_n (lv' := [(3, .int (1 : Int32)), (2, .int (nI (16 - pn))), (0, .ref (a 0)), (1, .int np)]) hx hb dX1_cannot_35 rfl hl (by decide) rfl (fun ls hl => ?_)
      refine lv_aload_n hx hb dX1_cannot_36 rfl (lv_at hl 2 rfl) ?_
      refine lv_iload_n hx hb dX1_cannot_37 rfl (lv_at hl 3 rfl) ?_
      refine lv_iconst (v := (1 : Int32)) hx hb dX1_cannot_38 (by decide) ?_
      refine lv_icmp_lt (tgt := 47) hx hb dX1_cannot_39 (by decide) (fun c17 => ?_) (fun c17 => ?_)
      · have qc17 := c17
        have ha : np < 1 := c17
        refine lv_iconst (v := (1 : Int32)) hx hb dX1_cannot_47 (by decide) ?_
        refine lv_goto (tgt := 68) hx hb dX1_cannot_48 (by decide) ?_
        refine zcallVi (n := 1) (As := [.int (1 : Int32)]) (rest := []) (ci := 1) (C := RX1) (T := TX1) (N := 17) Z X (c_X1_fails l g a bk pn hd ph ot wi ik th P O K kd lf ch be gi mr (1 : Int32)) gX1_cannot_X1_fails rfl (by decide +kernel) ⟨Nat.le_of_ble_eq_true rfl, Nat.le_of_ble_eq_true rfl⟩ rfl rfl rfl rfl hl.1 (Nat.le_of_ble_eq_true rfl) dX1_cannot_68 ⟨Nat.zero_le _, Nat.zero_le _⟩ (fun r17 ur17 H locs hrr17 X => ?_)
        obtain ⟨rfl, hfr17⟩ : ur17 = (bk, nI pn, hd, ph, ot, wi, ik, (1 : Int32), P, O, K, kd, lf, ch, be, gi, mr) ∧ r17 = zb (decide ((0 : Int32) < (1 : Int32))) := hrr17
        obtain rfl : r17 = (1 : Int32) := hfr17.trans (by decide)
        have X : zh g A (oM g a (bk, nI pn, hd, ph, ot, wi, ik, (1 : Int32), P, O, K, kd, lf, ch, be, gi, mr)) s.heap H locs := X
        exact zreti Z hr hlk (bk, nI pn, hd, ph, ot, wi, ik, (1 : Int32), P, O, K, kd, lf, ch, be, gi, mr) X dX1_cannot_71 rfl (⟨rfl, rfl⟩)
      · have qc17 := c17
        have ha : ¬ np < 1 := c17
        refine lv_iload_n hx hb dX1_cannot_42 rfl (lv_at hl 3 rfl) ?_
        refine lv_iconst (v := (4 : Int32)) hx hb dX1_cannot_43 (by decide) ?_
        refine lv_icmp_le (tgt := 51) hx hb dX1_cannot_44 (by decide) (fun c19 => ?_) (fun c19 => ?_)
        · have qc19 := c19
          exact hA.elim (fun q => absurd q ha) (fun q => absurd c19 q)
        · have qc19 := c19
          refine lv_iconst (v := (1 : Int32)) hx hb dX1_cannot_47 (by decide) ?_
          refine lv_goto (tgt := 68) hx hb dX1_cannot_48 (by decide) ?_
          refine zcallVi (n := 1) (As := [.int (1 : Int32)]) (rest := []) (ci := 1) (C := RX1) (T := TX1) (N := 17) Z X (c_X1_fails l g a bk pn hd ph ot wi ik th P O K kd lf ch be gi mr (1 : Int32)) gX1_cannot_X1_fails rfl (by decide +kernel) ⟨Nat.le_of_ble_eq_true rfl, Nat.le_of_ble_eq_true rfl⟩ rfl rfl rfl rfl hl.1 (Nat.le_of_ble_eq_true rfl) dX1_cannot_68 ⟨Nat.zero_le _, Nat.zero_le _⟩ (fun r19 ur19 H locs hrr19 X => ?_)
          obtain ⟨rfl, hfr19⟩ : ur19 = (bk, nI pn, hd, ph, ot, wi, ik, (1 : Int32), P, O, K, kd, lf, ch, be, gi, mr) ∧ r19 = zb (decide ((0 : Int32) < (1 : Int32))) := hrr19
          obtain rfl : r19 = (1 : Int32) := hfr19.trans (by decide)
          have X : zh g A (oM g a (bk, nI pn, hd, ph, ot, wi, ik, (1 : Int32), P, O, K, kd, lf, ch, be, gi, mr)) s.heap H locs := X
          exact zreti Z hr hlk (bk, nI pn, hd, ph, ot, wi, ik, (1 : Int32), P, O, K, kd, lf, ch, be, gi, mr) X dX1_cannot_71 rfl (⟨rfl, rfl⟩)
    · have qc16 := c16
      have c16n : ¬ 8 < (16 - pn) := zn_ltn (by omega) (by omega) c16
      refine lv_iload_n hx hb dX1_cannot_19 rfl (lv_at hl 2 rfl) ?_
      refine lv_iconst (v := (4 : Int32)) hx hb dX1_cannot_20 (by decide) ?_
      refine lv_icmp_ne (tgt := 34) hx hb dX1_cannot_21 (by decide) (fun c21 => ?_) (fun c21 => ?_)
      · have qc21 := c21
        have hfar : ¬ mFar np pn := by unfold mFar; rintro (⟨h1, h2⟩ | ⟨h1, h2⟩) <;> first | contradiction | omega
        refine lv_iconst (v := (0 : Int32)) hx hb dX1_cannot_34 (by decide) ?_
        refine lv_istore_n (lv' := [(3, .int (0 : Int32)), (2, .int (nI (16 - pn))), (0, .ref (a 0)), (1, .int np)]) hx hb dX1_cannot_35 rfl hl (by decide) rfl (fun ls hl => ?_)
        refine lv_aload_n hx hb dX1_cannot_36 rfl (lv_at hl 2 rfl) ?_
        refine lv_iload_n hx hb dX1_cannot_37 rfl (lv_at hl 3 rfl) ?_
        refine lv_iconst (v := (1 : Int32)) hx hb dX1_cannot_38 (by decide) ?_
        refine lv_icmp_lt (tgt := 47) hx hb dX1_cannot_39 (by decide) (fun c22 => ?_) (fun c22 => ?_)
        · have qc22 := c22
          have ha : np < 1 := c22
          refine lv_iconst (v := (1 : Int32)) hx hb dX1_cannot_47 (by decide) ?_
          refine lv_goto (tgt := 68) hx hb dX1_cannot_48 (by decide) ?_
          refine zcallVi (n := 1) (As := [.int (1 : Int32)]) (rest := []) (ci := 1) (C := RX1) (T := TX1) (N := 17) Z X (c_X1_fails l g a bk pn hd ph ot wi ik th P O K kd lf ch be gi mr (1 : Int32)) gX1_cannot_X1_fails rfl (by decide +kernel) ⟨Nat.le_of_ble_eq_true rfl, Nat.le_of_ble_eq_true rfl⟩ rfl rfl rfl rfl hl.1 (Nat.le_of_ble_eq_true rfl) dX1_cannot_68 ⟨Nat.zero_le _, Nat.zero_le _⟩ (fun r22 ur22 H locs hrr22 X => ?_)
          obtain ⟨rfl, hfr22⟩ : ur22 = (bk, nI pn, hd, ph, ot, wi, ik, (1 : Int32), P, O, K, kd, lf, ch, be, gi, mr) ∧ r22 = zb (decide ((0 : Int32) < (1 : Int32))) := hrr22
          obtain rfl : r22 = (1 : Int32) := hfr22.trans (by decide)
          have X : zh g A (oM g a (bk, nI pn, hd, ph, ot, wi, ik, (1 : Int32), P, O, K, kd, lf, ch, be, gi, mr)) s.heap H locs := X
          exact zreti Z hr hlk (bk, nI pn, hd, ph, ot, wi, ik, (1 : Int32), P, O, K, kd, lf, ch, be, gi, mr) X dX1_cannot_71 rfl (⟨rfl, rfl⟩)
        · have qc22 := c22
          have ha : ¬ np < 1 := c22
          refine lv_iload_n hx hb dX1_cannot_42 rfl (lv_at hl 3 rfl) ?_
          refine lv_iconst (v := (4 : Int32)) hx hb dX1_cannot_43 (by decide) ?_
          refine lv_icmp_le (tgt := 51) hx hb dX1_cannot_44 (by decide) (fun c24 => ?_) (fun c24 => ?_)
          · have qc24 := c24
            exact hA.elim (fun q => absurd q ha) (fun q => absurd c24 q)
          · have qc24 := c24
            refine lv_iconst (v := (1 : Int32)) hx hb dX1_cannot_47 (by decide) ?_
            refine lv_goto (tgt := 68) hx hb dX1_cannot_48 (by decide) ?_
            refine zcallVi (n := 1) (As := [.int (1 : Int32)]) (rest := []) (ci := 1) (C := RX1) (T := TX1) (N := 17) Z X (c_X1_fails l g a bk pn hd ph ot wi ik th P O K kd lf ch be gi mr (1 : Int32)) gX1_cannot_X1_fails rfl (by decide +kernel) ⟨Nat.le_of_ble_eq_true rfl, Nat.le_of_ble_eq_true rfl⟩ rfl rfl rfl rfl hl.1 (Nat.le_of_ble_eq_true rfl) dX1_cannot_68 ⟨Nat.zero_le _, Nat.zero_le _⟩ (fun r24 ur24 H locs hrr24 X => ?_)
            obtain ⟨rfl, hfr24⟩ : ur24 = (bk, nI pn, hd, ph, ot, wi, ik, (1 : Int32), P, O, K, kd, lf, ch, be, gi, mr) ∧ r24 = zb (decide ((0 : Int32) < (1 : Int32))) := hrr24
            obtain rfl : r24 = (1 : Int32) := hfr24.trans (by decide)
            have X : zh g A (oM g a (bk, nI pn, hd, ph, ot, wi, ik, (1 : Int32), P, O, K, kd, lf, ch, be, gi, mr)) s.heap H locs := X
            exact zreti Z hr hlk (bk, nI pn, hd, ph, ot, wi, ik, (1 : Int32), P, O, K, kd, lf, ch, be, gi, mr) X dX1_cannot_71 rfl (⟨rfl, rfl⟩)
      · have qc21 := c21
        refine lv_iload_n hx hb dX1_cannot_24 rfl (lv_at hl 0 rfl) ?_
        refine lv_bipush (v := nI 6) hx hb dX1_cannot_25 (by decide) ?_
        refine lv_icmp_le (tgt := 34) hx hb dX1_cannot_27 (by decide) (fun c26 => ?_) (fun c26 => ?_)
        · have qc26 := c26
          have c26n : (16 - pn) ≤ 6 := zn_let (by omega) (by omega) c26
          have hfar : ¬ mFar np pn := by unfold mFar; rintro (⟨h1, h2⟩ | ⟨h1, h2⟩) <;> first | contradiction | omega
          refine lv_iconst (v := (0 : Int32)) hx hb dX1_cannot_34 (by decide) ?_
          refine lv_istore_n (lv' := [(3, .int (0 : Int32)), (2, .int (nI (16 - pn))), (0, .ref (a 0)), (1, .int np)]) hx hb dX1_cannot_35 rfl hl (by decide) rfl (fun ls hl => ?_)
          refine lv_aload_n hx hb dX1_cannot_36 rfl (lv_at hl 2 rfl) ?_
          refine lv_iload_n hx hb dX1_cannot_37 rfl (lv_at hl 3 rfl) ?_
          refine lv_iconst (v := (1 : Int32)) hx hb dX1_cannot_38 (by decide) ?_
          refine lv_icmp_lt (tgt := 47) hx hb dX1_cannot_39 (by decide) (fun c27 => ?_) (fun c27 => ?_)
          · have qc27 := c27
            have ha : np < 1 := c27
            refine lv_iconst (v := (1 : Int32)) hx hb dX1_cannot_47 (by decide) ?_
            refine lv_goto (tgt := 68) hx hb dX1_cannot_48 (by decide) ?_
            refine zcallVi (n := 1) (As := [.int (1 : Int32)]) (rest := []) (ci := 1) (C := RX1) (T := TX1) (N := 17) Z X (c_X1_fails l g a bk pn hd ph ot wi ik th P O K kd lf ch be gi mr (1 : Int32)) gX1_cannot_X1_fails rfl (by decide +kernel) ⟨Nat.le_of_ble_eq_true rfl, Nat.le_of_ble_eq_true rfl⟩ rfl rfl rfl rfl hl.1 (Nat.le_of_ble_eq_true rfl) dX1_cannot_68 ⟨Nat.zero_le _, Nat.zero_le _⟩ (fun r27 ur27 H locs hrr27 X => ?_)
            obtain ⟨rfl, hfr27⟩ : ur27 = (bk, nI pn, hd, ph, ot, wi, ik, (1 : Int32), P, O, K, kd, lf, ch, be, gi, mr) ∧ r27 = zb (decide ((0 : Int32) < (1 : Int32))) := hrr27
            obtain rfl : r27 = (1 : Int32) := hfr27.trans (by decide)
            have X : zh g A (oM g a (bk, nI pn, hd, ph, ot, wi, ik, (1 : Int32), P, O, K, kd, lf, ch, be, gi, mr)) s.heap H locs := X
            exact zreti Z hr hlk (bk, nI pn, hd, ph, ot, wi, ik, (1 : Int32), P, O, K, kd, lf, ch, be, gi, mr) X dX1_cannot_71 rfl (⟨rfl, rfl⟩)
          · have qc27 := c27
            have ha : ¬ np < 1 := c27
            refine lv_iload_n hx hb dX1_cannot_42 rfl (lv_at hl 3 rfl) ?_
            refine lv_iconst (v := (4 : Int32)) hx hb dX1_cannot_43 (by decide) ?_
            refine lv_icmp_le (tgt := 51) hx hb dX1_cannot_44 (by decide) (fun c29 => ?_) (fun c29 => ?_)
            · have qc29 := c29
              exact hA.elim (fun q => absurd q ha) (fun q => absurd c29 q)
            · have qc29 := c29
              refine lv_iconst (v := (1 : Int32)) hx hb dX1_cannot_47 (by decide) ?_
              refine lv_goto (tgt := 68) hx hb dX1_cannot_48 (by decide) ?_
              refine zcallVi (n := 1) (As := [.int (1 : Int32)]) (rest := []) (ci := 1) (C := RX1) (T := TX1) (N := 17) Z X (c_X1_fails l g a bk pn hd ph ot wi ik th P O K kd lf ch be gi mr (1 : Int32)) gX1_cannot_X1_fails rfl (by decide +kernel) ⟨Nat.le_of_ble_eq_true rfl, Nat.le_of_ble_eq_true rfl⟩ rfl rfl rfl rfl hl.1 (Nat.le_of_ble_eq_true rfl) dX1_cannot_68 ⟨Nat.zero_le _, Nat.zero_le _⟩ (fun r29 ur29 H locs hrr29 X => ?_)
              obtain ⟨rfl, hfr29⟩ : ur29 = (bk, nI pn, hd, ph, ot, wi, ik, (1 : Int32), P, O, K, kd, lf, ch, be, gi, mr) ∧ r29 = zb (decide ((0 : Int32) < (1 : Int32))) := hrr29
              obtain rfl : r29 = (1 : Int32) := hfr29.trans (by decide)
              have X : zh g A (oM g a (bk, nI pn, hd, ph, ot, wi, ik, (1 : Int32), P, O, K, kd, lf, ch, be, gi, mr)) s.heap H locs := X
              exact zreti Z hr hlk (bk, nI pn, hd, ph, ot, wi, ik, (1 : Int32), P, O, K, kd, lf, ch, be, gi, mr) X dX1_cannot_71 rfl (⟨rfl, rfl⟩)
        · have qc26 := c26
          have c26n : ¬ (16 - pn) ≤ 6 := zn_len (by omega) (by omega) c26
          have hfar : mFar np pn := by unfold mFar; first | exact Or.inl ⟨‹np = 3›, by omega⟩ | exact Or.inr ⟨‹np = 4›, by omega⟩
          refine lv_iconst (v := (1 : Int32)) hx hb dX1_cannot_30 (by decide) ?_
          refine lv_goto (tgt := 35) hx hb dX1_cannot_31 (by decide) ?_
          refine lv_istore_n (lv' := [(3, .int (1 : Int32)), (2, .int (nI (16 - pn))), (0, .ref (a 0)), (1, .int np)]) hx hb dX1_cannot_35 rfl hl (by decide) rfl (fun ls hl => ?_)
          refine lv_aload_n hx hb dX1_cannot_36 rfl (lv_at hl 2 rfl) ?_
          refine lv_iload_n hx hb dX1_cannot_37 rfl (lv_at hl 3 rfl) ?_
          refine lv_iconst (v := (1 : Int32)) hx hb dX1_cannot_38 (by decide) ?_
          refine lv_icmp_lt (tgt := 47) hx hb dX1_cannot_39 (by decide) (fun c31 => ?_) (fun c31 => ?_)
          · have qc31 := c31
            have ha : np < 1 := c31
            refine lv_iconst (v := (1 : Int32)) hx hb dX1_cannot_47 (by decide) ?_
            refine lv_goto (tgt := 68) hx hb dX1_cannot_48 (by decide) ?_
            refine zcallVi (n := 1) (As := [.int (1 : Int32)]) (rest := []) (ci := 1) (C := RX1) (T := TX1) (N := 17) Z X (c_X1_fails l g a bk pn hd ph ot wi ik th P O K kd lf ch be gi mr (1 : Int32)) gX1_cannot_X1_fails rfl (by decide +kernel) ⟨Nat.le_of_ble_eq_true rfl, Nat.le_of_ble_eq_true rfl⟩ rfl rfl rfl rfl hl.1 (Nat.le_of_ble_eq_true rfl) dX1_cannot_68 ⟨Nat.zero_le _, Nat.zero_le _⟩ (fun r31 ur31 H locs hrr31 X => ?_)
            obtain ⟨rfl, hfr31⟩ : ur31 = (bk, nI pn, hd, ph, ot, wi, ik, (1 : Int32), P, O, K, kd, lf, ch, be, gi, mr) ∧ r31 = zb (decide ((0 : Int32) < (1 : Int32))) := hrr31
            obtain rfl : r31 = (1 : Int32) := hfr31.trans (by decide)
            have X : zh g A (oM g a (bk, nI pn, hd, ph, ot, wi, ik, (1 : Int32), P, O, K, kd, lf, ch, be, gi, mr)) s.heap H locs := X
            exact zreti Z hr hlk (bk, nI pn, hd, ph, ot, wi, ik, (1 : Int32), P, O, K, kd, lf, ch, be, gi, mr) X dX1_cannot_71 rfl (⟨rfl, rfl⟩)
          · have qc31 := c31
            have ha : ¬ np < 1 := c31
            refine lv_iload_n hx hb dX1_cannot_42 rfl (lv_at hl 3 rfl) ?_
            refine lv_iconst (v := (4 : Int32)) hx hb dX1_cannot_43 (by decide) ?_
            refine lv_icmp_le (tgt := 51) hx hb dX1_cannot_44 (by decide) (fun c33 => ?_) (fun c33 => ?_)
            · have qc33 := c33
              exact hA.elim (fun q => absurd q ha) (fun q => absurd c33 q)
            · have qc33 := c33
              refine lv_iconst (v := (1 : Int32)) hx hb dX1_cannot_47 (by decide) ?_
              refine lv_goto (tgt := 68) hx hb dX1_cannot_48 (by decide) ?_
              refine zcallVi (n := 1) (As := [.int (1 : Int32)]) (rest := []) (ci := 1) (C := RX1) (T := TX1) (N := 17) Z X (c_X1_fails l g a bk pn hd ph ot wi ik th P O K kd lf ch be gi mr (1 : Int32)) gX1_cannot_X1_fails rfl (by decide +kernel) ⟨Nat.le_of_ble_eq_true rfl, Nat.le_of_ble_eq_true rfl⟩ rfl rfl rfl rfl hl.1 (Nat.le_of_ble_eq_true rfl) dX1_cannot_68 ⟨Nat.zero_le _, Nat.zero_le _⟩ (fun r33 ur33 H locs hrr33 X => ?_)
              obtain ⟨rfl, hfr33⟩ : ur33 = (bk, nI pn, hd, ph, ot, wi, ik, (1 : Int32), P, O, K, kd, lf, ch, be, gi, mr) ∧ r33 = zb (decide ((0 : Int32) < (1 : Int32))) := hrr33
              obtain rfl : r33 = (1 : Int32) := hfr33.trans (by decide)
              have X : zh g A (oM g a (bk, nI pn, hd, ph, ot, wi, ik, (1 : Int32), P, O, K, kd, lf, ch, be, gi, mr)) s.heap H locs := X
              exact zreti Z hr hlk (bk, nI pn, hd, ph, ot, wi, ik, (1 : Int32), P, O, K, kd, lf, ch, be, gi, mr) X dX1_cannot_71 rfl (⟨rfl, rfl⟩)
def P_X1_cannot_B (bk : Int32) (pn : Nat) (hd ph ot wi ik th : Int32) (P O K kd lf ch be gi mr : Nat → Int32) (np : Int32) : Int32 → MS → Prop := fun r u => u = (bk, nI pn, hd, ph, ot, wi, ik, 2, P, O, K, kd, lf, ch, be, gi, mr) ∧ r = 1
set_option maxHeartbeats 600000 in
set_option maxRecDepth 100000 in
theorem c_X1_cannot_B (l : Launch) (g : zG) (a : Nat → Nat) (bk : Int32) (pn : Nat) (hd ph ot wi ik th : Int32) (P O K kd lf ch be gi mr : Nat → Int32) (np : Int32) (hpn : pn ≤ 16) (hA : ¬ np < 1 ∧ np ≤ 4) (hB : ph = 2 ∨ mFar np pn) : zM l yX1_cannot wsX1_cannot 1 60 g [.ref (a 0), .int np] (oM g a (bk, nI pn, hd, ph, ot, wi, ik, th, P, O, K, kd, lf, ch, be, gi, mr)) zE0 (zQi g (P_X1_cannot_B bk pn hd ph ot wi ik th P O K kd lf ch be gi mr np) (oM g a)) := by
  refine zstart (cc := cX1_cannot) (maxL := 4) (ret := (some .boolean)) (own := RX1) rfl (by decide) rfl zSt0 (Nat.le_of_ble_eq_true rfl) ?_
  intro p e s m below meth c A Z hr hlk H locs X ls hl
  have hx := Z.1.1
  have hb := Z.1.2.1
  have hin : ∀ w ∈ wsX10, w ∈ wsX1_cannot := inw_X1_cannot
  have hl : lv_has ls 4 [(0, .ref (a 0)), (1, .int np)] := hl
  have X : zh g A (oM g a (bk, nI pn, hd, ph, ot, wi, ik, th, P, O, K, kd, lf, ch, be, gi, mr)) s.heap H locs := X
  refine lv_bipush (v := nI 16) hx hb dX1_cannot_0 (by decide) ?_
  refine lv_aload_n hx hb dX1_cannot_2 rfl (lv_at hl 0 rfl) ?_
  refine zget (fs := [.int bk, .ref (a 1), .ref (a 2), .int (nI pn), .int hd, .int ph, .int ot, .int wi, .int ik, .ref (a 3), .int th, .ref (a 4), .ref (a 5), .ref (a 6), .ref (a 7), .ref (a 8), .ref (a 9)]) (v := .int (nI pn)) Z hin X (ci := 1) (C := RX1) (T := TX1) (N := 17) rfl rfl 3 (by decide) lk_X1_cannot_70 rfl dX1_cannot_3 ?_
  refine lv_isub hx hb dX1_cannot_6 ?_
  refine zrwi (y := nI (16 - pn)) (pk_sub (by omega)) ?_
  refine lv_istore_n (lv' := [(2, .int (nI (16 - pn))), (0, .ref (a 0)), (1, .int np)]) hx hb dX1_cannot_7 rfl hl (by decide) rfl (fun ls hl => ?_)
  refine lv_iload_n hx hb dX1_cannot_8 rfl (lv_at hl 2 rfl) ?_
  refine lv_iconst (v := (3 : Int32)) hx hb dX1_cannot_9 (by decide) ?_
  refine lv_icmp_ne (tgt := 19) hx hb dX1_cannot_10 (by decide) (fun c1 => ?_) (fun c1 => ?_)
  · have qc1 := c1
    refine lv_iload_n hx hb dX1_cannot_19 rfl (lv_at hl 2 rfl) ?_
    refine lv_iconst (v := (4 : Int32)) hx hb dX1_cannot_20 (by decide) ?_
    refine lv_icmp_ne (tgt := 34) hx hb dX1_cannot_21 (by decide) (fun c2 => ?_) (fun c2 => ?_)
    · have qc2 := c2
      have hfar : ¬ mFar np pn := by unfold mFar; rintro (⟨h1, h2⟩ | ⟨h1, h2⟩) <;> first | contradiction | omega
      refine lv_iconst (v := (0 : Int32)) hx hb dX1_cannot_34 (by decide) ?_
      refine lv_istore_n (lv' := [(3, .int (0 : Int32)), (2, .int (nI (16 - pn))), (0, .ref (a 0)), (1, .int np)]) hx hb dX1_cannot_35 rfl hl (by decide) rfl (fun ls hl => ?_)
      refine lv_aload_n hx hb dX1_cannot_36 rfl (lv_at hl 2 rfl) ?_
      refine lv_iload_n hx hb dX1_cannot_37 rfl (lv_at hl 3 rfl) ?_
      refine lv_iconst (v := (1 : Int32)) hx hb dX1_cannot_38 (by decide) ?_
      refine lv_icmp_lt (tgt := 47) hx hb dX1_cannot_39 (by decide) (fun c3 => ?_) (fun c3 => ?_)
      · have qc3 := c3
        have ha : np < 1 := c3
        exact absurd c3 hA.1
      · have qc3 := c3
        have ha : ¬ np < 1 := c3
        refine lv_iload_n hx hb dX1_cannot_42 rfl (lv_at hl 3 rfl) ?_
        refine lv_iconst (v := (4 : Int32)) hx hb dX1_cannot_43 (by decide) ?_
        refine lv_icmp_le (tgt := 51) hx hb dX1_cannot_44 (by decide) (fun c4 => ?_) (fun c4 => ?_)
        · have qc4 := c4
          refine lv_aload_n hx hb dX1_cannot_51 rfl (lv_at hl 2 rfl) ?_
          refine zget (fs := [.int bk, .ref (a 1), .ref (a 2), .int (nI pn), .int hd, .int ph, .int ot, .int wi, .int ik, .ref (a 3), .int th, .ref (a 4), .ref (a 5), .ref (a 6), .ref (a 7), .ref (a 8), .ref (a 9)]) (v := .int ph) Z hin X (ci := 1) (C := RX1) (T := TX1) (N := 17) rfl rfl 5 (by decide) lk_X1_cannot_21 rfl dX1_cannot_52 ?_
          refine lv_iconst (v := (2 : Int32)) hx hb dX1_cannot_55 (by decide) ?_
          refine lv_icmp_eq (tgt := 63) hx hb dX1_cannot_56 (by decide) (fun c5 => ?_) (fun c5 => ?_)
          · have qc5 := c5
            have hph2 : ph = 2 := c5
            refine lv_iconst (v := (2 : Int32)) hx hb dX1_cannot_63 (by decide) ?_
            refine lv_goto (tgt := 68) hx hb dX1_cannot_64 (by decide) ?_
            refine zcallVi (n := 1) (As := [.int (2 : Int32)]) (rest := []) (ci := 1) (C := RX1) (T := TX1) (N := 17) Z X (c_X1_fails l g a bk pn hd ph ot wi ik th P O K kd lf ch be gi mr (2 : Int32)) gX1_cannot_X1_fails rfl (by decide +kernel) ⟨Nat.le_of_ble_eq_true rfl, Nat.le_of_ble_eq_true rfl⟩ rfl rfl rfl rfl hl.1 (Nat.le_of_ble_eq_true rfl) dX1_cannot_68 ⟨Nat.zero_le _, Nat.zero_le _⟩ (fun r5 ur5 H locs hrr5 X => ?_)
            obtain ⟨rfl, hfr5⟩ : ur5 = (bk, nI pn, hd, ph, ot, wi, ik, (2 : Int32), P, O, K, kd, lf, ch, be, gi, mr) ∧ r5 = zb (decide ((0 : Int32) < (2 : Int32))) := hrr5
            obtain rfl : r5 = (1 : Int32) := hfr5.trans (by decide)
            have X : zh g A (oM g a (bk, nI pn, hd, ph, ot, wi, ik, (2 : Int32), P, O, K, kd, lf, ch, be, gi, mr)) s.heap H locs := X
            exact zreti Z hr hlk (bk, nI pn, hd, ph, ot, wi, ik, (2 : Int32), P, O, K, kd, lf, ch, be, gi, mr) X dX1_cannot_71 rfl (⟨rfl, rfl⟩)
          · have qc5 := c5
            have hph2 : ¬ ph = 2 := c5
            refine lv_iload_n hx hb dX1_cannot_59 rfl (lv_at hl 0 rfl) ?_
            refine lv_if_eq (tgt := 67) hx hb dX1_cannot_60 (by decide) (fun c7 => ?_) (fun c7 => ?_)
            · have qc7 := c7
              exact hB.elim (fun q => absurd q hph2) (fun q => absurd q hfar)
            · exact absurd c7 (by decide)
        · have qc4 := c4
          exact absurd hA.2 c4
    · have qc2 := c2
      refine lv_iload_n hx hb dX1_cannot_24 rfl (lv_at hl 0 rfl) ?_
      refine lv_bipush (v := nI 6) hx hb dX1_cannot_25 (by decide) ?_
      refine lv_icmp_le (tgt := 34) hx hb dX1_cannot_27 (by decide) (fun c8 => ?_) (fun c8 => ?_)
      · have qc8 := c8
        have c8n : (16 - pn) ≤ 6 := zn_let (by omega) (by omega) c8
        have hfar : ¬ mFar np pn := by unfold mFar; rintro (⟨h1, h2⟩ | ⟨h1, h2⟩) <;> first | contradiction | omega
        refine lv_iconst (v := (0 : Int32)) hx hb dX1_cannot_34 (by decide) ?_
        refine lv_istore_n (lv' := [(3, .int (0 : Int32)), (2, .int (nI (16 - pn))), (0, .ref (a 0)), (1, .int np)]) hx hb dX1_cannot_35 rfl hl (by decide) rfl (fun ls hl => ?_)
        refine lv_aload_n hx hb dX1_cannot_36 rfl (lv_at hl 2 rfl) ?_
        refine lv_iload_n hx hb dX1_cannot_37 rfl (lv_at hl 3 rfl) ?_
        refine lv_iconst (v := (1 : Int32)) hx hb dX1_cannot_38 (by decide) ?_
        refine lv_icmp_lt (tgt := 47) hx hb dX1_cannot_39 (by decide) (fun c9 => ?_) (fun c9 => ?_)
        · have qc9 := c9
          have ha : np < 1 := c9
          exact absurd c9 hA.1
        · have qc9 := c9
          have ha : ¬ np < 1 := c9
          refine lv_iload_n hx hb dX1_cannot_42 rfl (lv_at hl 3 rfl) ?_
          refine lv_iconst (v := (4 : Int32)) hx hb dX1_cannot_43 (by decide) ?_
          refine lv_icmp_le (tgt := 51) hx hb dX1_cannot_44 (by decide) (fun c10 => ?_) (fun c10 => ?_)
          · have qc10 := c10
            refine lv_aload_n hx hb dX1_cannot_51 rfl (lv_at hl 2 rfl) ?_
            refine zget (fs := [.int bk, .ref (a 1), .ref (a 2), .int (nI pn), .int hd, .int ph, .int ot, .int wi, .int ik, .ref (a 3), .int th, .ref (a 4), .ref (a 5), .ref (a 6), .ref (a 7), .ref (a 8), .ref (a 9)]) (v := .int ph) Z hin X (ci := 1) (C := RX1) (T := TX1) (N := 17) rfl rfl 5 (by decide) lk_X1_cannot_21 rfl dX1_cannot_52 ?_
            refine lv_iconst (v := (2 : Int32)) hx hb dX1_cannot_55 (by decide) ?_
            refine lv_icmp_eq (tgt := 63) hx hb dX1_cannot_56 (by decide) (fun c11 => ?_) (fun c11 => ?_)
            · have qc11 := c11
              have hph2 : ph = 2 := c11
              refine lv_iconst (v := (2 : Int32)) hx hb dX1_cannot_63 (by decide) ?_
              refine lv_goto (tgt := 68) hx hb dX1_cannot_64 (by decide) ?_
              refine zcallVi (n := 1) (As := [.int (2 : Int32)]) (rest := []) (ci := 1) (C := RX1) (T := TX1) (N := 17) Z X (c_X1_fails l g a bk pn hd ph ot wi ik th P O K kd lf ch be gi mr (2 : Int32)) gX1_cannot_X1_fails rfl (by decide +kernel) ⟨Nat.le_of_ble_eq_true rfl, Nat.le_of_ble_eq_true rfl⟩ rfl rfl rfl rfl hl.1 (Nat.le_of_ble_eq_true rfl) dX1_cannot_68 ⟨Nat.zero_le _, Nat.zero_le _⟩ (fun r11 ur11 H locs hrr11 X => ?_)
              obtain ⟨rfl, hfr11⟩ : ur11 = (bk, nI pn, hd, ph, ot, wi, ik, (2 : Int32), P, O, K, kd, lf, ch, be, gi, mr) ∧ r11 = zb (decide ((0 : Int32) < (2 : Int32))) := hrr11
              obtain rfl : r11 = (1 : Int32) := hfr11.trans (by decide)
              have X : zh g A (oM g a (bk, nI pn, hd, ph, ot, wi, ik, (2 : Int32), P, O, K, kd, lf, ch, be, gi, mr)) s.heap H locs := X
              exact zreti Z hr hlk (bk, nI pn, hd, ph, ot, wi, ik, (2 : Int32), P, O, K, kd, lf, ch, be, gi, mr) X dX1_cannot_71 rfl (⟨rfl, rfl⟩)
            · have qc11 := c11
              have hph2 : ¬ ph = 2 := c11
              refine lv_iload_n hx hb dX1_cannot_59 rfl (lv_at hl 0 rfl) ?_
              refine lv_if_eq (tgt := 67) hx hb dX1_cannot_60 (by decide) (fun c13 => ?_) (fun c13 => ?_)
              · have qc13 := c13
                exact hB.elim (fun q => absurd q hph2) (fun q => absurd q hfar)
              · exact absurd c13 (by decide)
          · have qc10 := c10
            exact absurd hA.2 c10
      · have qc8 := c8
        have c8n : ¬ (16 - pn) ≤ 6 := zn_len (by omega) (by omega) c8
        have hfar : mFar np pn := by unfold mFar; first | exact Or.inl ⟨‹np = 3›, by omega⟩ | exact Or.inr ⟨‹np = 4›, by omega⟩
        refine lv_iconst (v := (1 : Int32)) hx hb dX1_cannot_30 (by decide) ?_
        refine lv_goto (tgt := 35) hx hb dX1_cannot_31 (by decide) ?_
        refine lv_istore_n (lv' := [(3, .int (1 : Int32)), (2, .int (nI (16 - pn))), (0, .ref (a 0)), (1, .int np)]) hx hb dX1_cannot_35 rfl hl (by decide) rfl (fun ls hl => ?_)
        refine lv_aload_n hx hb dX1_cannot_36 rfl (lv_at hl 2 rfl) ?_
        refine lv_iload_n hx hb dX1_cannot_37 rfl (lv_at hl 3 rfl) ?_
        refine lv_iconst (v := (1 : Int32)) hx hb dX1_cannot_38 (by decide) ?_
        refine lv_icmp_lt (tgt := 47) hx hb dX1_cannot_39 (by decide) (fun c14 => ?_) (fun c14 => ?_)
        · have qc14 := c14
          have ha : np < 1 := c14
          exact absurd c14 hA.1
        · have qc14 := c14
          have ha : ¬ np < 1 := c14
          refine lv_iload_n hx hb dX1_cannot_42 rfl (lv_at hl 3 rfl) ?_
          refine lv_iconst (v := (4 : Int32)) hx hb dX1_cannot_43 (by decide) ?_
          refine lv_icmp_le (tgt := 51) hx hb dX1_cannot_44 (by decide) (fun c15 => ?_) (fun c15 => ?_)
          · have qc15 := c15
            refine lv_aload_n hx hb dX1_cannot_51 rfl (lv_at hl 2 rfl) ?_
            refine zget (fs := [.int bk, .ref (a 1), .ref (a 2), .int (nI pn), .int hd, .int ph, .int ot, .int wi, .int ik, .ref (a 3), .int th, .ref (a 4), .ref (a 5), .ref (a 6), .ref (a 7), .ref (a 8), .ref (a 9)]) (v := .int ph) Z hin X (ci := 1) (C := RX1) (T := TX1) (N := 17) rfl rfl 5 (by decide) lk_X1_cannot_21 rfl dX1_cannot_52 ?_
            refine lv_iconst (v := (2 : Int32)) hx hb dX1_cannot_55 (by decide) ?_
            refine lv_icmp_eq (tgt := 63) hx hb dX1_cannot_56 (by decide) (fun c16 => ?_) (fun c16 => ?_)
            · have qc16 := c16
              have hph2 : ph = 2 := c16
              refine lv_iconst (v := (2 : Int32)) hx hb dX1_cannot_63 (by decide) ?_
              refine lv_goto (tgt := 68) hx hb dX1_cannot_64 (by decide) ?_
              refine zcallVi (n := 1) (As := [.int (2 : Int32)]) (rest := []) (ci := 1) (C := RX1) (T := TX1) (N := 17) Z X (c_X1_fails l g a bk pn hd ph ot wi ik th P O K kd lf ch be gi mr (2 : Int32)) gX1_cannot_X1_fails rfl (by decide +kernel) ⟨Nat.le_of_ble_eq_true rfl, Nat.le_of_ble_eq_true rfl⟩ rfl rfl rfl rfl hl.1 (Nat.le_of_ble_eq_true rfl) dX1_cannot_68 ⟨Nat.zero_le _, Nat.zero_le _⟩ (fun r16 ur16 H locs hrr16 X => ?_)
              obtain ⟨rfl, hfr16⟩ : ur16 = (bk, nI pn, hd, ph, ot, wi, ik, (2 : Int32), P, O, K, kd, lf, ch, be, gi, mr) ∧ r16 = zb (decide ((0 : Int32) < (2 : Int32))) := hrr16
              obtain rfl : r16 = (1 : Int32) := hfr16.trans (by decide)
              have X : zh g A (oM g a (bk, nI pn, hd, ph, ot, wi, ik, (2 : Int32), P, O, K, kd, lf, ch, be, gi, mr)) s.heap H locs := X
              exact zreti Z hr hlk (bk, nI pn, hd, ph, ot, wi, ik, (2 : Int32), P, O, K, kd, lf, ch, be, gi, mr) X dX1_cannot_71 rfl (⟨rfl, rfl⟩)
            · have qc16 := c16
              have hph2 : ¬ ph = 2 := c16
              refine lv_iload_n hx hb dX1_cannot_59 rfl (lv_at hl 0 rfl) ?_
              refine lv_if_eq (tgt := 67) hx hb dX1_cannot_60 (by decide) (fun c18 => ?_) (fun c18 => ?_)
              · exact absurd c18 (by decide)
              · have qc18 := c18
                refine lv_iconst (v := (2 : Int32)) hx hb dX1_cannot_63 (by decide) ?_
                refine lv_goto (tgt := 68) hx hb dX1_cannot_64 (by decide) ?_
                refine zcallVi (n := 1) (As := [.int (2 : Int32)]) (rest := []) (ci := 1) (C := RX1) (T := TX1) (N := 17) Z X (c_X1_fails l g a bk pn hd ph ot wi ik th P O K kd lf ch be gi mr (2 : Int32)) gX1_cannot_X1_fails rfl (by decide +kernel) ⟨Nat.le_of_ble_eq_true rfl, Nat.le_of_ble_eq_true rfl⟩ rfl rfl rfl rfl hl.1 (Nat.le_of_ble_eq_true rfl) dX1_cannot_68 ⟨Nat.zero_le _, Nat.zero_le _⟩ (fun r18 ur18 H locs hrr18 X => ?_)
                obtain ⟨rfl, hfr18⟩ : ur18 = (bk, nI pn, hd, ph, ot, wi, ik, (2 : Int32), P, O, K, kd, lf, ch, be, gi, mr) ∧ r18 = zb (decide ((0 : Int32) < (2 : Int32))) := hrr18
                obtain rfl : r18 = (1 : Int32) := hfr18.trans (by decide)
                have X : zh g A (oM g a (bk, nI pn, hd, ph, ot, wi, ik, (2 : Int32), P, O, K, kd, lf, ch, be, gi, mr)) s.heap H locs := X
                exact zreti Z hr hlk (bk, nI pn, hd, ph, ot, wi, ik, (2 : Int32), P, O, K, kd, lf, ch, be, gi, mr) X dX1_cannot_71 rfl (⟨rfl, rfl⟩)
          · have qc15 := c15
            exact absurd hA.2 c15
  · have qc1 := c1
    refine lv_iload_n hx hb dX1_cannot_13 rfl (lv_at hl 0 rfl) ?_
    refine lv_bipush (v := nI 8) hx hb dX1_cannot_14 (by decide) ?_
    refine lv_icmp_gt (tgt := 30) hx hb dX1_cannot_16 (by decide) (fun c20 => ?_) (fun c20 => ?_)
    · have qc20 := c20
      have c20n : 8 < (16 - pn) := zn_ltt (by omega) (by omega) c20
      have hfar : mFar np pn := by unfold mFar; first | exact Or.inl ⟨‹np = 3›, by omega⟩ | exact Or.inr ⟨‹np = 4›, by omega⟩
      refine lv_iconst (v := (1 : Int32)) hx hb dX1_cannot_30 (by decide) ?_
      refine lv_goto (tgt := 35) hx hb dX1_cannot_31 (by decide) ?_
      refine lv_istore_n (lv' := [(3, .int (1 : Int32)), (2, .int (nI (16 - pn))), (0, .ref (a 0)), (1, .int np)]) hx hb dX1_cannot_35 rfl hl (by decide) rfl (fun ls hl => ?_)
      refine lv_aload_n hx hb dX1_cannot_36 rfl (lv_at hl 2 rfl) ?_
      refine lv_iload_n hx hb dX1_cannot_37 rfl (lv_at hl 3 rfl) ?_
      refine lv_iconst (v := (1 : Int32)) hx hb dX1_cannot_38 (by decide) ?_
      refine lv_icmp_lt (tgt := 47) hx hb dX1_cannot_39 (by decide) (fun c21 => ?_) (fun c21 => ?_)
      · have qc21 := c21
        have ha : np < 1 := c21
        exact absurd c21 hA.1
      · have qc21 := c21
        have ha : ¬ np < 1 := c21
        refine lv_iload_n hx hb dX1_cannot_42 rfl (lv_at hl 3 rfl) ?_
        refine lv_iconst (v := (4 : Int32)) hx hb dX1_cannot_43 (by decide) ?_
        refine lv_icmp_le (tgt := 51) hx hb dX1_cannot_44 (by decide) (fun c22 => ?_) (fun c22 => ?_)
        · have qc22 := c22
          refine lv_aload_n hx hb dX1_cannot_51 rfl (lv_at hl 2 rfl) ?_
          refine zget (fs := [.int bk, .ref (a 1), .ref (a 2), .int (nI pn), .int hd, .int ph, .int ot, .int wi, .int ik, .ref (a 3), .int th, .ref (a 4), .ref (a 5), .ref (a 6), .ref (a 7), .ref (a 8), .ref (a 9)]) (v := .int ph) Z hin X (ci := 1) (C := RX1) (T := TX1) (N := 17) rfl rfl 5 (by decide) lk_X1_cannot_21 rfl dX1_cannot_52 ?_
          refine lv_iconst (v := (2 : Int32)) hx hb dX1_cannot_55 (by decide) ?_
          refine lv_icmp_eq (tgt := 63) hx hb dX1_cannot_56 (by decide) (fun c23 => ?_) (fun c23 => ?_)
          · have qc23 := c23
            have hph2 : ph = 2 := c23
            refine lv_iconst (v := (2 : Int32)) hx hb dX1_cannot_63 (by decide) ?_
            refine lv_goto (tgt := 68) hx hb dX1_cannot_64 (by decide) ?_
            refine zcallVi (n := 1) (As := [.int (2 : Int32)]) (rest := []) (ci := 1) (C := RX1) (T := TX1) (N := 17) Z X (c_X1_fails l g a bk pn hd ph ot wi ik th P O K kd lf ch be gi mr (2 : Int32)) gX1_cannot_X1_fails rfl (by decide +kernel) ⟨Nat.le_of_ble_eq_true rfl, Nat.le_of_ble_eq_true rfl⟩ rfl rfl rfl rfl hl.1 (Nat.le_of_ble_eq_true rfl) dX1_cannot_68 ⟨Nat.zero_le _, Nat.zero_le _⟩ (fun r23 ur23 H locs hrr23 X => ?_)
            obtain ⟨rfl, hfr23⟩ : ur23 = (bk, nI pn, hd, ph, ot, wi, ik, (2 : Int32), P, O, K, kd, lf, ch, be, gi, mr) ∧ r23 = zb (decide ((0 : Int32) < (2 : Int32))) := hrr23
            obtain rfl : r23 = (1 : Int32) := hfr23.trans (by decide)
            have X : zh g A (oM g a (bk, nI pn, hd, ph, ot, wi, ik, (2 : Int32), P, O, K, kd, lf, ch, be, gi, mr)) s.heap H locs := X
            exact zreti Z hr hlk (bk, nI pn, hd, ph, ot, wi, ik, (2 : Int32), P, O, K, kd, lf, ch, be, gi, mr) X dX1_cannot_71 rfl (⟨rfl, rfl⟩)
          · have qc23 := c23
            have hph2 : ¬ ph = 2 := c23
            refine lv_iload_n hx hb dX1_cannot_59 rfl (lv_at hl 0 rfl) ?_
            refine lv_if_eq (tgt := 67) hx hb dX1_cannot_60 (by decide) (fun c25 => ?_) (fun c25 => ?_)
            · exact absurd c25 (by decide)
            · have qc25 := c25
              refine lv_iconst (v := (2 : Int32)) hx hb dX1_cannot_63 (by decide) ?_
              refine lv_goto (tgt := 68) hx hb dX1_cannot_64 (by decide) ?_
              refine zcallVi (n := 1) (As := [.int (2 : Int32)]) (rest := []) (ci := 1) (C := RX1) (T := TX1) (N := 17) Z X (c_X1_fails l g a bk pn hd ph ot wi ik th P O K kd lf ch be gi mr (2 : Int32)) gX1_cannot_X1_fails rfl (by decide +kernel) ⟨Nat.le_of_ble_eq_true rfl, Nat.le_of_ble_eq_true rfl⟩ rfl rfl rfl rfl hl.1 (Nat.le_of_ble_eq_true rfl) dX1_cannot_68 ⟨Nat.zero_le _, Nat.zero_le _⟩ (fun r25 ur25 H locs hrr25 X => ?_)
              obtain ⟨rfl, hfr25⟩ : ur25 = (bk, nI pn, hd, ph, ot, wi, ik, (2 : Int32), P, O, K, kd, lf, ch, be, gi, mr) ∧ r25 = zb (decide ((0 : Int32) < (2 : Int32))) := hrr25
              obtain rfl : r25 = (1 : Int32) := hfr25.trans (by decide)
              have X : zh g A (oM g a (bk, nI pn, hd, ph, ot, wi, ik, (2 : Int32), P, O, K, kd, lf, ch, be, gi, mr)) s.heap H locs := X
              exact zreti Z hr hlk (bk, nI pn, hd, ph, ot, wi, ik, (2 : Int32), P, O, K, kd, lf, ch, be, gi, mr) X dX1_cannot_71 rfl (⟨rfl, rfl⟩)
        · have qc22 := c22
          exact absurd hA.2 c22
    · have qc20 := c20
      have c20n : ¬ 8 < (16 - pn) := zn_ltn (by omega) (by omega) c20
      refine lv_iload_n hx hb dX1_cannot_19 rfl (lv_at hl 2 rfl) ?_
      refine lv_iconst (v := (4 : Int32)) hx hb dX1_cannot_20 (by decide) ?_
      refine lv_icmp_ne (tgt := 34) hx hb dX1_cannot_21 (by decide) (fun c27 => ?_) (fun c27 => ?_)
      · have qc27 := c27
        have hfar : ¬ mFar np pn := by unfold mFar; rintro (⟨h1, h2⟩ | ⟨h1, h2⟩) <;> first | contradiction | omega
        refine lv_iconst (v := (0 : Int32)) hx hb dX1_cannot_34 (by decide) ?_
        refine lv_istore_n (lv' := [(3, .int (0 : Int32)), (2, .int (nI (16 - pn))), (0, .ref (a 0)), (1, .int np)]) hx hb dX1_cannot_35 rfl hl (by decide) rfl (fun ls hl => ?_)
        refine lv_aload_n hx hb dX1_cannot_36 rfl (lv_at hl 2 rfl) ?_
        refine lv_iload_n hx hb dX1_cannot_37 rfl (lv_at hl 3 rfl) ?_
        refine lv_iconst (v := (1 : Int32)) hx hb dX1_cannot_38 (by decide) ?_
        refine lv_icmp_lt (tgt := 47) hx hb dX1_cannot_39 (by decide) (fun c28 => ?_) (fun c28 => ?_)
        · have qc28 := c28
          have ha : np < 1 := c28
          exact absurd c28 hA.1
        · have qc28 := c28
          have ha : ¬ np < 1 := c28
          refine lv_iload_n hx hb dX1_cannot_42 rfl (lv_at hl 3 rfl) ?_
          refine lv_iconst (v := (4 : Int32)) hx hb dX1_cannot_43 (by decide) ?_
          refine lv_icmp_le (tgt := 51) hx hb dX1_cannot_44 (by decide) (fun c29 => ?_) (fun c29 => ?_)
          · have qc29 := c29
            refine lv_aload_n hx hb dX1_cannot_51 rfl (lv_at hl 2 rfl) ?_
            refine zget (fs := [.int bk, .ref (a 1), .ref (a 2), .int (nI pn), .int hd, .int ph, .int ot, .int wi, .int ik, .ref (a 3), .int th, .ref (a 4), .ref (a 5), .ref (a 6), .ref (a 7), .ref (a 8), .ref (a 9)]) (v := .int ph) Z hin X (ci := 1) (C := RX1) (T := TX1) (N := 17) rfl rfl 5 (by decide) lk_X1_cannot_21 rfl dX1_cannot_52 ?_
            refine lv_iconst (v := (2 : Int32)) hx hb dX1_cannot_55 (by decide) ?_
            refine lv_icmp_eq (tgt := 63) hx hb dX1_cannot_56 (by decide) (fun c30 => ?_) (fun c30 => ?_)
            · have qc30 := c30
              have hph2 : ph = 2 := c30
              refine lv_iconst (v := (2 : Int32)) hx hb dX1_cannot_63 (by decide) ?_
              refine lv_goto (tgt := 68) hx hb dX1_cannot_64 (by decide) ?_
              refine zcallVi (n := 1) (As := [.int (2 : Int32)]) (rest := []) (ci := 1) (C := RX1) (T := TX1) (N := 17) Z X (c_X1_fails l g a bk pn hd ph ot wi ik th P O K kd lf ch be gi mr (2 : Int32)) gX1_cannot_X1_fails rfl (by decide +kernel) ⟨Nat.le_of_ble_eq_true rfl, Nat.le_of_ble_eq_true rfl⟩ rfl rfl rfl rfl hl.1 (Nat.le_of_ble_eq_true rfl) dX1_cannot_68 ⟨Nat.zero_le _, Nat.zero_le _⟩ (fun r30 ur30 H locs hrr30 X => ?_)
              obtain ⟨rfl, hfr30⟩ : ur30 = (bk, nI pn, hd, ph, ot, wi, ik, (2 : Int32), P, O, K, kd, lf, ch, be, gi, mr) ∧ r30 = zb (decide ((0 : Int32) < (2 : Int32))) := hrr30
              obtain rfl : r30 = (1 : Int32) := hfr30.trans (by decide)
              have X : zh g A (oM g a (bk, nI pn, hd, ph, ot, wi, ik, (2 : Int32), P, O, K, kd, lf, ch, be, gi, mr)) s.heap H locs := X
              exact zreti Z hr hlk (bk, nI pn, hd, ph, ot, wi, ik, (2 : Int32), P, O, K, kd, lf, ch, be, gi, mr) X dX1_cannot_71 rfl (⟨rfl, rfl⟩)
            · have qc30 := c30
              have hph2 : ¬ ph = 2 := c30
              refine lv_iload_n hx hb dX1_cannot_59 rfl (lv_at hl 0 rfl) ?_
              refine lv_if_eq (tgt := 67) hx hb dX1_cannot_60 (by decide) (fun c32 => ?_) (fun c32 => ?_)
              · have qc32 := c32
                exact hB.elim (fun q => absurd q hph2) (fun q => absurd q hfar)
              · exact absurd c32 (by decide)
          · have qc29 := c29
            exact absurd hA.2 c29
      · have qc27 := c27
        refine lv_iload_n hx hb dX1_cannot_24 rfl (lv_at hl 0 rfl) ?_
        refine lv_bipush (v := nI 6) hx hb dX1_cannot_25 (by decide) ?_
        refine lv_icmp_le (tgt := 34) hx hb dX1_cannot_27 (by decide) (fun c33 => ?_) (fun c33 => ?_)
        · have qc33 := c33
          have c33n : (16 - pn) ≤ 6 := zn_let (by omega) (by omega) c33
          have hfar : ¬ mFar np pn := by unfold mFar; rintro (⟨h1, h2⟩ | ⟨h1, h2⟩) <;> first | contradiction | omega
          refine lv_iconst (v := (0 : Int32)) hx hb dX1_cannot_34 (by decide) ?_
          refine lv_istore_n (lv' := [(3, .int (0 : Int32)), (2, .int (nI (16 - pn))), (0, .ref (a 0)), (1, .int np)]) hx hb dX1_cannot_35 rfl hl (by decide) rfl (fun ls hl => ?_)
          refine lv_aload_n hx hb dX1_cannot_36 rfl (lv_at hl 2 rfl) ?_
          refine lv_iload_n hx hb dX1_cannot_37 rfl (lv_at hl 3 rfl) ?_
          refine lv_iconst (v := (1 : Int32)) hx hb dX1_cannot_38 (by decide) ?_
          refine lv_icmp_lt (tgt := 47) hx hb dX1_cannot_39 (by decide) (fun c34 => ?_) (fun c34 => ?_)
          · have qc34 := c34
            have ha : np < 1 := c34
            exact absurd c34 hA.1
          · have qc34 := c34
            have ha : ¬ np < 1 := c34
            refine lv_iload_n hx hb dX1_cannot_42 rfl (lv_at hl 3 rfl) ?_
            refine lv_iconst (v := (4 : Int32)) hx hb dX1_cannot_43 (by decide) ?_
            refine lv_icmp_le (tgt := 51) hx hb dX1_cannot_44 (by decide) (fun c35 => ?_) (fun c35 => ?_)
            · have qc35 := c35
              refine lv_aload_n hx hb dX1_cannot_51 rfl (lv_at hl 2 rfl) ?_
              refine zget (fs := [.int bk, .ref (a 1), .ref (a 2), .int (nI pn), .int hd, .int ph, .int ot, .int wi, .int ik, .ref (a 3), .int th, .ref (a 4), .ref (a 5), .ref (a 6), .ref (a 7), .ref (a 8), .ref (a 9)]) (v := .int ph) Z hin X (ci := 1) (C := RX1) (T := TX1) (N := 17) rfl rfl 5 (by decide) lk_X1_cannot_21 rfl dX1_cannot_52 ?_
              refine lv_iconst (v := (2 : Int32)) hx hb dX1_cannot_55 (by decide) ?_
              refine lv_icmp_eq (tgt := 63) hx hb dX1_cannot_56 (by decide) (fun c36 => ?_) (fun c36 => ?_)
              · have qc36 := c36
                have hph2 : ph = 2 := c36
                refine lv_iconst (v := (2 : Int32)) hx hb dX1_cannot_63 (by decide) ?_
                refine lv_goto (tgt := 68) hx hb dX1_cannot_64 (by decide) ?_
                refine zcallVi (n := 1) (As := [.int (2 : Int32)]) (rest := []) (ci := 1) (C := RX1) (T := TX1) (N := 17) Z X (c_X1_fails l g a bk pn hd ph ot wi ik th P O K kd lf ch be gi mr (2 : Int32)) gX1_cannot_X1_fails rfl (by decide +kernel) ⟨Nat.le_of_ble_eq_true rfl, Nat.le_of_ble_eq_true rfl⟩ rfl rfl rfl rfl hl.1 (Nat.le_of_ble_eq_true rfl) dX1_cannot_68 ⟨Nat.zero_le _, Nat.zero_le _⟩ (fun r36 ur36 H locs hrr36 X => ?_)
                obtain ⟨rfl, hfr36⟩ : ur36 = (bk, nI pn, hd, ph, ot, wi, ik, (2 : Int32), P, O, K, kd, lf, ch, be, gi, mr) ∧ r36 = zb (decide ((0 : Int32) < (2 : Int32))) := hrr36
                obtain rfl : r36 = (1 : Int32) := hfr36.trans (by decide)
                have X : zh g A (oM g a (bk, nI pn, hd, ph, ot, wi, ik, (2 : Int32), P, O, K, kd, lf, ch, be, gi, mr)) s.heap H locs := X
                exact zreti Z hr hlk (bk, nI pn, hd, ph, ot, wi, ik, (2 : Int32), P, O, K, kd, lf, ch, be, gi, mr) X dX1_cannot_71 rfl (⟨rfl, rfl⟩)
              · have qc36 := c36
                have hph2 : ¬ ph = 2 := c36
                refine lv_iload_n hx hb dX1_cannot_59 rfl (lv_at hl 0 rfl) ?_
                refine lv_if_eq (tgt := 67) hx hb dX1_cannot_60 (by decide) (fun c38 => ?_) (fun c38 => ?_)
                · have qc38 := c38
                  exact hB.elim (fun q => absurd q hph2) (fun q => absurd q hfar)
                · exact absurd c38 (by decide)
            · have qc35 := c35
              exact absurd hA.2 c35
        · have qc33 := c33
          have c33n : ¬ (16 - pn) ≤ 6 := zn_len (by omega) (by omega) c33
          have hfar : mFar np pn := by unfold mFar; first | exact Or.inl ⟨‹np = 3›, by omega⟩ | exact Or.inr ⟨‹np = 4›, by omega⟩
          refine lv_iconst (v := (1 : Int32)) hx hb dX1_cannot_30 (by decide) ?_
          refine lv_goto (tgt := 35) hx hb dX1_cannot_31 (by decide) ?_
          refine lv_istore_n (lv' := [(3, .int (1 : Int32)), (2, .int (nI (16 - pn))), (0, .ref (a 0)), (1, .int np)]) hx hb dX1_cannot_35 rfl hl (by decide) rfl (fun ls hl => ?_)
          refine lv_aload_n hx hb dX1_cannot_36 rfl (lv_at hl 2 rfl) ?_
          refine lv_iload_n hx hb dX1_cannot_37 rfl (lv_at hl 3 rfl) ?_
          refine lv_iconst (v := (1 : Int32)) hx hb dX1_cannot_38 (by decide) ?_
          refine lv_icmp_lt (tgt := 47) hx hb dX1_cannot_39 (by decide) (fun c39 => ?_) (fun c39 => ?_)
          · have qc39 := c39
            have ha : np < 1 := c39
            exact absurd c39 hA.1
          · have qc39 := c39
            have ha : ¬ np < 1 := c39
            refine lv_iload_n hx hb dX1_cannot_42 rfl (lv_at hl 3 rfl) ?_
            refine lv_iconst (v := (4 : Int32)) hx hb dX1_cannot_43 (by decide) ?_
            refine lv_icmp_le (tgt := 51) hx hb dX1_cannot_44 (by decide) (fun c40 => ?_) (fun c40 => ?_)
            · have qc40 := c40
              refine lv_aload_n hx hb dX1_cannot_51 rfl (lv_at hl 2 rfl) ?_
              refine zget (fs := [.int bk, .ref (a 1), .ref (a 2), .int (nI pn), .int hd, .int ph, .int ot, .int wi, .int ik, .ref (a 3), .int th, .ref (a 4), .ref (a 5), .ref (a 6), .ref (a 7), .ref (a 8), .ref (a 9)]) (v := .int ph) Z hin X (ci := 1) (C := RX1) (T := TX1) (N := 17) rfl rfl 5 (by decide) lk_X1_cannot_21 rfl dX1_cannot_52 ?_
              refine lv_iconst (v := (2 : Int32)) hx hb dX1_cannot_55 (by decide) ?_
              refine lv_icmp_eq (tgt := 63) hx hb dX1_cannot_56 (by decide) (fun c41 => ?_) (fun c41 => ?_)
              · have qc41 := c41
                have hph2 : ph = 2 := c41
                refine lv_iconst (v := (2 : Int32)) hx hb dX1_cannot_63 (by decide) ?_
                refine lv_goto (tgt := 68) hx hb dX1_cannot_64 (by decide) ?_
                refine zcallVi (n := 1) (As := [.int (2 : Int32)]) (rest := []) (ci := 1) (C := RX1) (T := TX1) (N := 17) Z X (c_X1_fails l g a bk pn hd ph ot wi ik th P O K kd lf ch be gi mr (2 : Int32)) gX1_cannot_X1_fails rfl (by decide +kernel) ⟨Nat.le_of_ble_eq_true rfl, Nat.le_of_ble_eq_true rfl⟩ rfl rfl rfl rfl hl.1 (Nat.le_of_ble_eq_true rfl) dX1_cannot_68 ⟨Nat.zero_le _, Nat.zero_le _⟩ (fun r41 ur41 H locs hrr41 X => ?_)
                obtain ⟨rfl, hfr41⟩ : ur41 = (bk, nI pn, hd, ph, ot, wi, ik, (2 : Int32), P, O, K, kd, lf, ch, be, gi, mr) ∧ r41 = zb (decide ((0 : Int32) < (2 : Int32))) := hrr41
                obtain rfl : r41 = (1 : Int32) := hfr41.trans (by decide)
                have X : zh g A (oM g a (bk, nI pn, hd, ph, ot, wi, ik, (2 : Int32), P, O, K, kd, lf, ch, be, gi, mr)) s.heap H locs := X
                exact zreti Z hr hlk (bk, nI pn, hd, ph, ot, wi, ik, (2 : Int32), P, O, K, kd, lf, ch, be, gi, mr) X dX1_cannot_71 rfl (⟨rfl, rfl⟩)
              · have qc41 := c41
                have hph2 : ¬ ph = 2 := c41
                refine lv_iload_n hx hb dX1_cannot_59 rfl (lv_at hl 0 rfl) ?_
                refine lv_if_eq (tgt := 67) hx hb dX1_cannot_60 (by decide) (fun c43 => ?_) (fun c43 => ?_)
                · exact absurd c43 (by decide)
                · have qc43 := c43
                  refine lv_iconst (v := (2 : Int32)) hx hb dX1_cannot_63 (by decide) ?_
                  refine lv_goto (tgt := 68) hx hb dX1_cannot_64 (by decide) ?_
                  refine zcallVi (n := 1) (As := [.int (2 : Int32)]) (rest := []) (ci := 1) (C := RX1) (T := TX1) (N := 17) Z X (c_X1_fails l g a bk pn hd ph ot wi ik th P O K kd lf ch be gi mr (2 : Int32)) gX1_cannot_X1_fails rfl (by decide +kernel) ⟨Nat.le_of_ble_eq_true rfl, Nat.le_of_ble_eq_true rfl⟩ rfl rfl rfl rfl hl.1 (Nat.le_of_ble_eq_true rfl) dX1_cannot_68 ⟨Nat.zero_le _, Nat.zero_le _⟩ (fun r43 ur43 H locs hrr43 X => ?_)
                  obtain ⟨rfl, hfr43⟩ : ur43 = (bk, nI pn, hd, ph, ot, wi, ik, (2 : Int32), P, O, K, kd, lf, ch, be, gi, mr) ∧ r43 = zb (decide ((0 : Int32) < (2 : Int32))) := hrr43
                  obtain rfl : r43 = (1 : Int32) := hfr43.trans (by decide)
                  have X : zh g A (oM g a (bk, nI pn, hd, ph, ot, wi, ik, (2 : Int32), P, O, K, kd, lf, ch, be, gi, mr)) s.heap H locs := X
                  exact zreti Z hr hlk (bk, nI pn, hd, ph, ot, wi, ik, (2 : Int32), P, O, K, kd, lf, ch, be, gi, mr) X dX1_cannot_71 rfl (⟨rfl, rfl⟩)
            · have qc40 := c40
              exact absurd hA.2 c40
def P_X1_cannot_C (bk : Int32) (pn : Nat) (hd ph ot wi ik th : Int32) (P O K kd lf ch be gi mr : Nat → Int32) (np : Int32) : Int32 → MS → Prop := fun r u => u = (bk, nI pn, hd, ph, ot, wi, ik, 0, P, O, K, kd, lf, ch, be, gi, mr) ∧ r = 0
set_option maxHeartbeats 600000 in
set_option maxRecDepth 100000 in
theorem c_X1_cannot_C (l : Launch) (g : zG) (a : Nat → Nat) (bk : Int32) (pn : Nat) (hd ph ot wi ik th : Int32) (P O K kd lf ch be gi mr : Nat → Int32) (np : Int32) (hpn : pn ≤ 16) (hA : ¬ np < 1 ∧ np ≤ 4) (hC : ¬ ph = 2 ∧ ¬ mFar np pn) : zM l yX1_cannot wsX1_cannot 1 60 g [.ref (a 0), .int np] (oM g a (bk, nI pn, hd, ph, ot, wi, ik, th, P, O, K, kd, lf, ch, be, gi, mr)) zE0 (zQi g (P_X1_cannot_C bk pn hd ph ot wi ik th P O K kd lf ch be gi mr np) (oM g a)) := by
  refine zstart (cc := cX1_cannot) (maxL := 4) (ret := (some .boolean)) (own := RX1) rfl (by decide) rfl zSt0 (Nat.le_of_ble_eq_true rfl) ?_
  intro p e s m below meth c A Z hr hlk H locs X ls hl
  have hx := Z.1.1
  have hb := Z.1.2.1
  have hin : ∀ w ∈ wsX10, w ∈ wsX1_cannot := inw_X1_cannot
  have hl : lv_has ls 4 [(0, .ref (a 0)), (1, .int np)] := hl
  have X : zh g A (oM g a (bk, nI pn, hd, ph, ot, wi, ik, th, P, O, K, kd, lf, ch, be, gi, mr)) s.heap H locs := X
  refine lv_bipush (v := nI 16) hx hb dX1_cannot_0 (by decide) ?_
  refine lv_aload_n hx hb dX1_cannot_2 rfl (lv_at hl 0 rfl) ?_
  refine zget (fs := [.int bk, .ref (a 1), .ref (a 2), .int (nI pn), .int hd, .int ph, .int ot, .int wi, .int ik, .ref (a 3), .int th, .ref (a 4), .ref (a 5), .ref (a 6), .ref (a 7), .ref (a 8), .ref (a 9)]) (v := .int (nI pn)) Z hin X (ci := 1) (C := RX1) (T := TX1) (N := 17) rfl rfl 3 (by decide) lk_X1_cannot_70 rfl dX1_cannot_3 ?_
  refine lv_isub hx hb dX1_cannot_6 ?_
  refine zrwi (y := nI (16 - pn)) (pk_sub (by omega)) ?_
  refine lv_istore_n (lv' := [(2, .int (nI (16 - pn))), (0, .ref (a 0)), (1, .int np)]) hx hb dX1_cannot_7 rfl hl (by decide) rfl (fun ls hl => ?_)
  refine lv_iload_n hx hb dX1_cannot_8 rfl (lv_at hl 2 rfl) ?_
  refine lv_iconst (v := (3 : Int32)) hx hb dX1_cannot_9 (by decide) ?_
  refine lv_icmp_ne (tgt := 19) hx hb dX1_cannot_10 (by decide) (fun c1 => ?_) (fun c1 => ?_)
  · have qc1 := c1
    refine lv_iload_n hx hb dX1_cannot_19 rfl (lv_at hl 2 rfl) ?_
    refine lv_iconst (v := (4 : Int32)) hx hb dX1_cannot_20 (by decide) ?_
    refine lv_icmp_ne (tgt := 34) hx hb dX1_cannot_21 (by decide) (fun c2 => ?_) (fun c2 => ?_)
    · have qc2 := c2
      have hfar : ¬ mFar np pn := by unfold mFar; rintro (⟨h1, h2⟩ | ⟨h1, h2⟩) <;> first | contradiction | omega
      refine lv_iconst (v := (0 : Int32)) hx hb dX1_cannot_34 (by decide) ?_
      refine lv_istore_n (lv' := [(3, .int (0 : Int32)), (2, .int (nI (16 - pn))), (0, .ref (a 0)), (1, .int np)]) hx hb dX1_cannot_35 rfl hl (by decide) rfl (fun ls hl => ?_)
      refine lv_aload_n hx hb dX1_cannot_36 rfl (lv_at hl 2 rfl) ?_
      refine lv_iload_n hx hb dX1_cannot_37 rfl (lv_at hl 3 rfl) ?_
      refine lv_iconst (v := (1 : Int32)) hx hb dX1_cannot_38 (by decide) ?_
      refine lv_icmp_lt (tgt := 47) hx hb dX1_cannot_39 (by decide) (fun c3 => ?_) (fun c3 => ?_)
      · have qc3 := c3
        have ha : np < 1 := c3
        exact absurd c3 hA.1
      · have qc3 := c3
        have ha : ¬ np < 1 := c3
        refine lv_iload_n hx hb dX1_cannot_42 rfl (lv_at hl 3 rfl) ?_
        refine lv_iconst (v := (4 : Int32)) hx hb dX1_cannot_43 (by decide) ?_
        refine lv_icmp_le (tgt := 51) hx hb dX1_cannot_44 (by decide) (fun c4 => ?_) (fun c4 => ?_)
        · have qc4 := c4
          refine lv_aload_n hx hb dX1_cannot_51 rfl (lv_at hl 2 rfl) ?_
          refine zget (fs := [.int bk, .ref (a 1), .ref (a 2), .int (nI pn), .int hd, .int ph, .int ot, .int wi, .int ik, .ref (a 3), .int th, .ref (a 4), .ref (a 5), .ref (a 6), .ref (a 7), .ref (a 8), .ref (a 9)]) (v := .int ph) Z hin X (ci := 1) (C := RX1) (T := TX1) (N := 17) rfl rfl 5 (by decide) lk_X1_cannot_21 rfl dX1_cannot_52 ?_
          refine lv_iconst (v := (2 : Int32)) hx hb dX1_cannot_55 (by decide) ?_
          refine lv_icmp_eq (tgt := 63) hx hb dX1_cannot_56 (by decide) (fun c5 => ?_) (fun c5 => ?_)
          · have qc5 := c5
            have hph2 : ph = 2 := c5
            exact absurd c5 hC.1
          · have qc5 := c5
            have hph2 : ¬ ph = 2 := c5
            refine lv_iload_n hx hb dX1_cannot_59 rfl (lv_at hl 0 rfl) ?_
            refine lv_if_eq (tgt := 67) hx hb dX1_cannot_60 (by decide) (fun c6 => ?_) (fun c6 => ?_)
            · have qc6 := c6
              refine lv_iconst (v := (0 : Int32)) hx hb dX1_cannot_67 (by decide) ?_
              refine zcallVi (n := 1) (As := [.int (0 : Int32)]) (rest := []) (ci := 1) (C := RX1) (T := TX1) (N := 17) Z X (c_X1_fails l g a bk pn hd ph ot wi ik th P O K kd lf ch be gi mr (0 : Int32)) gX1_cannot_X1_fails rfl (by decide +kernel) ⟨Nat.le_of_ble_eq_true rfl, Nat.le_of_ble_eq_true rfl⟩ rfl rfl rfl rfl hl.1 (Nat.le_of_ble_eq_true rfl) dX1_cannot_68 ⟨Nat.zero_le _, Nat.zero_le _⟩ (fun r6 ur6 H locs hrr6 X => ?_)
              obtain ⟨rfl, hfr6⟩ : ur6 = (bk, nI pn, hd, ph, ot, wi, ik, (0 : Int32), P, O, K, kd, lf, ch, be, gi, mr) ∧ r6 = zb (decide ((0 : Int32) < (0 : Int32))) := hrr6
              obtain rfl : r6 = (0 : Int32) := hfr6.trans (by decide)
              have X : zh g A (oM g a (bk, nI pn, hd, ph, ot, wi, ik, (0 : Int32), P, O, K, kd, lf, ch, be, gi, mr)) s.heap H locs := X
              exact zreti Z hr hlk (bk, nI pn, hd, ph, ot, wi, ik, (0 : Int32), P, O, K, kd, lf, ch, be, gi, mr) X dX1_cannot_71 rfl (⟨rfl, rfl⟩)
            · exact absurd c6 (by decide)
        · have qc4 := c4
          exact absurd hA.2 c4
    · have qc2 := c2
      refine lv_iload_n hx hb dX1_cannot_24 rfl (lv_at hl 0 rfl) ?_
      refine lv_bipush (v := nI 6) hx hb dX1_cannot_25 (by decide) ?_
      refine lv_icmp_le (tgt := 34) hx hb dX1_cannot_27 (by decide) (fun c8 => ?_) (fun c8 => ?_)
      · have qc8 := c8
        have c8n : (16 - pn) ≤ 6 := zn_let (by omega) (by omega) c8
        have hfar : ¬ mFar np pn := by unfold mFar; rintro (⟨h1, h2⟩ | ⟨h1, h2⟩) <;> first | contradiction | omega
        refine lv_iconst (v := (0 : Int32)) hx hb dX1_cannot_34 (by decide) ?_
        refine lv_istore_n (lv' := [(3, .int (0 : Int32)), (2, .int (nI (16 - pn))), (0, .ref (a 0)), (1, .int np)]) hx hb dX1_cannot_35 rfl hl (by decide) rfl (fun ls hl => ?_)
        refine lv_aload_n hx hb dX1_cannot_36 rfl (lv_at hl 2 rfl) ?_
        refine lv_iload_n hx hb dX1_cannot_37 rfl (lv_at hl 3 rfl) ?_
        refine lv_iconst (v := (1 : Int32)) hx hb dX1_cannot_38 (by decide) ?_
        refine lv_icmp_lt (tgt := 47) hx hb dX1_cannot_39 (by decide) (fun c9 => ?_) (fun c9 => ?_)
        · have qc9 := c9
          have ha : np < 1 := c9
          exact absurd c9 hA.1
        · have qc9 := c9
          have ha : ¬ np < 1 := c9
          refine lv_iload_n hx hb dX1_cannot_42 rfl (lv_at hl 3 rfl) ?_
          refine lv_iconst (v := (4 : Int32)) hx hb dX1_cannot_43 (by decide) ?_
          refine lv_icmp_le (tgt := 51) hx hb dX1_cannot_44 (by decide) (fun c10 => ?_) (fun c10 => ?_)
          · have qc10 := c10
            refine lv_aload_n hx hb dX1_cannot_51 rfl (lv_at hl 2 rfl) ?_
            refine zget (fs := [.int bk, .ref (a 1), .ref (a 2), .int (nI pn), .int hd, .int ph, .int ot, .int wi, .int ik, .ref (a 3), .int th, .ref (a 4), .ref (a 5), .ref (a 6), .ref (a 7), .ref (a 8), .ref (a 9)]) (v := .int ph) Z hin X (ci := 1) (C := RX1) (T := TX1) (N := 17) rfl rfl 5 (by decide) lk_X1_cannot_21 rfl dX1_cannot_52 ?_
            refine lv_iconst (v := (2 : Int32)) hx hb dX1_cannot_55 (by decide) ?_
            refine lv_icmp_eq (tgt := 63) hx hb dX1_cannot_56 (by decide) (fun c11 => ?_) (fun c11 => ?_)
            · have qc11 := c11
              have hph2 : ph = 2 := c11
              exact absurd c11 hC.1
            · have qc11 := c11
              have hph2 : ¬ ph = 2 := c11
              refine lv_iload_n hx hb dX1_cannot_59 rfl (lv_at hl 0 rfl) ?_
              refine lv_if_eq (tgt := 67) hx hb dX1_cannot_60 (by decide) (fun c12 => ?_) (fun c12 => ?_)
              · have qc12 := c12
                refine lv_iconst (v := (0 : Int32)) hx hb dX1_cannot_67 (by decide) ?_
                refine zcallVi (n := 1) (As := [.int (0 : Int32)]) (rest := []) (ci := 1) (C := RX1) (T := TX1) (N := 17) Z X (c_X1_fails l g a bk pn hd ph ot wi ik th P O K kd lf ch be gi mr (0 : Int32)) gX1_cannot_X1_fails rfl (by decide +kernel) ⟨Nat.le_of_ble_eq_true rfl, Nat.le_of_ble_eq_true rfl⟩ rfl rfl rfl rfl hl.1 (Nat.le_of_ble_eq_true rfl) dX1_cannot_68 ⟨Nat.zero_le _, Nat.zero_le _⟩ (fun r12 ur12 H locs hrr12 X => ?_)
                obtain ⟨rfl, hfr12⟩ : ur12 = (bk, nI pn, hd, ph, ot, wi, ik, (0 : Int32), P, O, K, kd, lf, ch, be, gi, mr) ∧ r12 = zb (decide ((0 : Int32) < (0 : Int32))) := hrr12
                obtain rfl : r12 = (0 : Int32) := hfr12.trans (by decide)
                have X : zh g A (oM g a (bk, nI pn, hd, ph, ot, wi, ik, (0 : Int32), P, O, K, kd, lf, ch, be, gi, mr)) s.heap H locs := X
                exact zreti Z hr hlk (bk, nI pn, hd, ph, ot, wi, ik, (0 : Int32), P, O, K, kd, lf, ch, be, gi, mr) X dX1_cannot_71 rfl (⟨rfl, rfl⟩)
              · exact absurd c12 (by decide)
          · have qc10 := c10
            exact absurd hA.2 c10
      · have qc8 := c8
        have c8n : ¬ (16 - pn) ≤ 6 := zn_len (by omega) (by omega) c8
        have hfar : mFar np pn := by unfold mFar; first | exact Or.inl ⟨‹np = 3›, by omega⟩ | exact Or.inr ⟨‹np = 4›, by omega⟩
        refine lv_iconst (v := (1 : Int32)) hx hb dX1_cannot_30 (by decide) ?_
        refine lv_goto (tgt := 35) hx hb dX1_cannot_31 (by decide) ?_
        refine lv_istore_n (lv' := [(3, .int (1 : Int32)), (2, .int (nI (16 - pn))), (0, .ref (a 0)), (1, .int np)]) hx hb dX1_cannot_35 rfl hl (by decide) rfl (fun ls hl => ?_)
        refine lv_aload_n hx hb dX1_cannot_36 rfl (lv_at hl 2 rfl) ?_
        refine lv_iload_n hx hb dX1_cannot_37 rfl (lv_at hl 3 rfl) ?_
        refine lv_iconst (v := (1 : Int32)) hx hb dX1_cannot_38 (by decide) ?_
        refine lv_icmp_lt (tgt := 47) hx hb dX1_cannot_39 (by decide) (fun c14 => ?_) (fun c14 => ?_)
        · have qc14 := c14
          have ha : np < 1 := c14
          exact absurd c14 hA.1
        · have qc14 := c14
          have ha : ¬ np < 1 := c14
          refine lv_iload_n hx hb dX1_cannot_42 rfl (lv_at hl 3 rfl) ?_
          refine lv_iconst (v := (4 : Int32)) hx hb dX1_cannot_43 (by decide) ?_
          refine lv_icmp_le (tgt := 51) hx hb dX1_cannot_44 (by decide) (fun c15 => ?_) (fun c15 => ?_)
          · have qc15 := c15
            refine lv_aload_n hx hb dX1_cannot_51 rfl (lv_at hl 2 rfl) ?_
            refine zget (fs := [.int bk, .ref (a 1), .ref (a 2), .int (nI pn), .int hd, .int ph, .int ot, .int wi, .int ik, .ref (a 3), .int th, .ref (a 4), .ref (a 5), .ref (a 6), .ref (a 7), .ref (a 8), .ref (a 9)]) (v := .int ph) Z hin X (ci := 1) (C := RX1) (T := TX1) (N := 17) rfl rfl 5 (by decide) lk_X1_cannot_21 rfl dX1_cannot_52 ?_
            refine lv_iconst (v := (2 : Int32)) hx hb dX1_cannot_55 (by decide) ?_
            refine lv_icmp_eq (tgt := 63) hx hb dX1_cannot_56 (by decide) (fun c16 => ?_) (fun c16 => ?_)
            · have qc16 := c16
              have hph2 : ph = 2 := c16
              exact absurd c16 hC.1
            · have qc16 := c16
              have hph2 : ¬ ph = 2 := c16
              refine lv_iload_n hx hb dX1_cannot_59 rfl (lv_at hl 0 rfl) ?_
              refine lv_if_eq (tgt := 67) hx hb dX1_cannot_60 (by decide) (fun c17 => ?_) (fun c17 => ?_)
              · exact absurd c17 (by decide)
              · have qc17 := c17
                exact absurd hfar hC.2
          · have qc15 := c15
            exact absurd hA.2 c15
  · have qc1 := c1
    refine lv_iload_n hx hb dX1_cannot_13 rfl (lv_at hl 0 rfl) ?_
    refine lv_bipush (v := nI 8) hx hb dX1_cannot_14 (by decide) ?_
    refine lv_icmp_gt (tgt := 30) hx hb dX1_cannot_16 (by decide) (fun c18 => ?_) (fun c18 => ?_)
    · have qc18 := c18
      have c18n : 8 < (16 - pn) := zn_ltt (by omega) (by omega) c18
      have hfar : mFar np pn := by unfold mFar; first | exact Or.inl ⟨‹np = 3›, by omega⟩ | exact Or.inr ⟨‹np = 4›, by omega⟩
      refine lv_iconst (v := (1 : Int32)) hx hb dX1_cannot_30 (by decide) ?_
      refine lv_goto (tgt := 35) hx hb dX1_cannot_31 (by decide) ?_
      refine lv_istore_n (lv' := [(3, .int (1 : Int32)), (2, .int (nI (16 - pn))), (0, .ref (a 0)), (1, .int np)]) hx hb dX1_cannot_35 rfl hl (by decide) rfl (fun ls hl => ?_)
      refine lv_aload_n hx hb dX1_cannot_36 rfl (lv_at hl 2 rfl) ?_
      refine lv_iload_n hx hb dX1_cannot_37 rfl (lv_at hl 3 rfl) ?_
      refine lv_iconst (v := (1 : Int32)) hx hb dX1_cannot_38 (by decide) ?_
      refine lv_icmp_lt (tgt := 47) hx hb dX1_cannot_39 (by decide) (fun c19 => ?_) (fun c19 => ?_)
      · have qc19 := c19
        have ha : np < 1 := c19
        exact absurd c19 hA.1
      · have qc19 := c19
        have ha : ¬ np < 1 := c19
        refine lv_iload_n hx hb dX1_cannot_42 rfl (lv_at hl 3 rfl) ?_
        refine lv_iconst (v := (4 : Int32)) hx hb dX1_cannot_43 (by decide) ?_
        refine lv_icmp_le (tgt := 51) hx hb dX1_cannot_44 (by decide) (fun c20 => ?_) (fun c20 => ?_)
        · have qc20 := c20
          refine lv_aload_n hx hb dX1_cannot_51 rfl (lv_at hl 2 rfl) ?_
          refine zget (fs := [.int bk, .ref (a 1), .ref (a 2), .int (nI pn), .int hd, .int ph, .int ot, .int wi, .int ik, .ref (a 3), .int th, .ref (a 4), .ref (a 5), .ref (a 6), .ref (a 7), .ref (a 8), .ref (a 9)]) (v := .int ph) Z hin X (ci := 1) (C := RX1) (T := TX1) (N := 17) rfl rfl 5 (by decide) lk_X1_cannot_21 rfl dX1_cannot_52 ?_
          refine lv_iconst (v := (2 : Int32)) hx hb dX1_cannot_55 (by decide) ?_
          refine lv_icmp_eq (tgt := 63) hx hb dX1_cannot_56 (by decide) (fun c21 => ?_) (fun c21 => ?_)
          · have qc21 := c21
            have hph2 : ph = 2 := c21
            exact absurd c21 hC.1
          · have qc21 := c21
            have hph2 : ¬ ph = 2 := c21
            refine lv_iload_n hx hb dX1_cannot_59 rfl (lv_at hl 0 rfl) ?_
            refine lv_if_eq (tgt := 67) hx hb dX1_cannot_60 (by decide) (fun c22 => ?_) (fun c22 => ?_)
            · exact absurd c22 (by decide)
            · have qc22 := c22
              exact absurd hfar hC.2
        · have qc20 := c20
          exact absurd hA.2 c20
    · have qc18 := c18
      have c18n : ¬ 8 < (16 - pn) := zn_ltn (by omega) (by omega) c18
      refine lv_iload_n hx hb dX1_cannot_19 rfl (lv_at hl 2 rfl) ?_
      refine lv_iconst (v := (4 : Int32)) hx hb dX1_cannot_20 (by decide) ?_
      refine lv_icmp_ne (tgt := 34) hx hb dX1_cannot_21 (by decide) (fun c23 => ?_) (fun c23 => ?_)
      · have qc23 := c23
        have hfar : ¬ mFar np pn := by unfold mFar; rintro (⟨h1, h2⟩ | ⟨h1, h2⟩) <;> first | contradiction | omega
        refine lv_iconst (v := (0 : Int32)) hx hb dX1_cannot_34 (by decide) ?_
        refine lv_istore_n (lv' := [(3, .int (0 : Int32)), (2, .int (nI (16 - pn))), (0, .ref (a 0)), (1, .int np)]) hx hb dX1_cannot_35 rfl hl (by decide) rfl (fun ls hl => ?_)
        refine lv_aload_n hx hb dX1_cannot_36 rfl (lv_at hl 2 rfl) ?_
        refine lv_iload_n hx hb dX1_cannot_37 rfl (lv_at hl 3 rfl) ?_
        refine lv_iconst (v := (1 : Int32)) hx hb dX1_cannot_38 (by decide) ?_
        refine lv_icmp_lt (tgt := 47) hx hb dX1_cannot_39 (by decide) (fun c24 => ?_) (fun c24 => ?_)
        · have qc24 := c24
          have ha : np < 1 := c24
          exact absurd c24 hA.1
        · have qc24 := c24
          have ha : ¬ np < 1 := c24
          refine lv_iload_n hx hb dX1_cannot_42 rfl (lv_at hl 3 rfl) ?_
          refine lv_iconst (v := (4 : Int32)) hx hb dX1_cannot_43 (by decide) ?_
          refine lv_icmp_le (tgt := 51) hx hb dX1_cannot_44 (by decide) (fun c25 => ?_) (fun c25 => ?_)
          · have qc25 := c25
            refine lv_aload_n hx hb dX1_cannot_51 rfl (lv_at hl 2 rfl) ?_
            refine zget (fs := [.int bk, .ref (a 1), .ref (a 2), .int (nI pn), .int hd, .int ph, .int ot, .int wi, .int ik, .ref (a 3), .int th, .ref (a 4), .ref (a 5), .ref (a 6), .ref (a 7), .ref (a 8), .ref (a 9)]) (v := .int ph) Z hin X (ci := 1) (C := RX1) (T := TX1) (N := 17) rfl rfl 5 (by decide) lk_X1_cannot_21 rfl dX1_cannot_52 ?_
            refine lv_iconst (v := (2 : Int32)) hx hb dX1_cannot_55 (by decide) ?_
            refine lv_icmp_eq (tgt := 63) hx hb dX1_cannot_56 (by decide) (fun c26 => ?_) (fun c26 => ?_)
            · have qc26 := c26
              have hph2 : ph = 2 := c26
              exact absurd c26 hC.1
            · have qc26 := c26
              have hph2 : ¬ ph = 2 := c26
              refine lv_iload_n hx hb dX1_cannot_59 rfl (lv_at hl 0 rfl) ?_
              refine lv_if_eq (tgt := 67) hx hb dX1_cannot_60 (by decide) (fun c27 => ?_) (fun c27 => ?_)
              · have qc27 := c27
                refine lv_iconst (v := (0 : Int32)) hx hb dX1_cannot_67 (by decide) ?_
                refine zcallVi (n := 1) (As := [.int (0 : Int32)]) (rest := []) (ci := 1) (C := RX1) (T := TX1) (N := 17) Z X (c_X1_fails l g a bk pn hd ph ot wi ik th P O K kd lf ch be gi mr (0 : Int32)) gX1_cannot_X1_fails rfl (by decide +kernel) ⟨Nat.le_of_ble_eq_true rfl, Nat.le_of_ble_eq_true rfl⟩ rfl rfl rfl rfl hl.1 (Nat.le_of_ble_eq_true rfl) dX1_cannot_68 ⟨Nat.zero_le _, Nat.zero_le _⟩ (fun r27 ur27 H locs hrr27 X => ?_)
                obtain ⟨rfl, hfr27⟩ : ur27 = (bk, nI pn, hd, ph, ot, wi, ik, (0 : Int32), P, O, K, kd, lf, ch, be, gi, mr) ∧ r27 = zb (decide ((0 : Int32) < (0 : Int32))) := hrr27
                obtain rfl : r27 = (0 : Int32) := hfr27.trans (by decide)
                have X : zh g A (oM g a (bk, nI pn, hd, ph, ot, wi, ik, (0 : Int32), P, O, K, kd, lf, ch, be, gi, mr)) s.heap H locs := X
                exact zreti Z hr hlk (bk, nI pn, hd, ph, ot, wi, ik, (0 : Int32), P, O, K, kd, lf, ch, be, gi, mr) X dX1_cannot_71 rfl (⟨rfl, rfl⟩)
              · exact absurd c27 (by decide)
          · have qc25 := c25
            exact absurd hA.2 c25
      · have qc23 := c23
        refine lv_iload_n hx hb dX1_cannot_24 rfl (lv_at hl 0 rfl) ?_
        refine lv_bipush (v := nI 6) hx hb dX1_cannot_25 (by decide) ?_
        refine lv_icmp_le (tgt := 34) hx hb dX1_cannot_27 (by decide) (fun c29 => ?_) (fun c29 => ?_)
        · have qc29 := c29
          have c29n : (16 - pn) ≤ 6 := zn_let (by omega) (by omega) c29
          have hfar : ¬ mFar np pn := by unfold mFar; rintro (⟨h1, h2⟩ | ⟨h1, h2⟩) <;> first | contradiction | omega
          refine lv_iconst (v := (0 : Int32)) hx hb dX1_cannot_34 (by decide) ?_
          refine lv_istore_n (lv' := [(3, .int (0 : Int32)), (2, .int (nI (16 - pn))), (0, .ref (a 0)), (1, .int np)]) hx hb dX1_cannot_35 rfl hl (by decide) rfl (fun ls hl => ?_)
          refine lv_aload_n hx hb dX1_cannot_36 rfl (lv_at hl 2 rfl) ?_
          refine lv_iload_n hx hb dX1_cannot_37 rfl (lv_at hl 3 rfl) ?_
          refine lv_iconst (v := (1 : Int32)) hx hb dX1_cannot_38 (by decide) ?_
          refine lv_icmp_lt (tgt := 47) hx hb dX1_cannot_39 (by decide) (fun c30 => ?_) (fun c30 => ?_)
          · have qc30 := c30
            have ha : np < 1 := c30
            exact absurd c30 hA.1
          · have qc30 := c30
            have ha : ¬ np < 1 := c30
            refine lv_iload_n hx hb dX1_cannot_42 rfl (lv_at hl 3 rfl) ?_
            refine lv_iconst (v := (4 : Int32)) hx hb dX1_cannot_43 (by decide) ?_
            refine lv_icmp_le (tgt := 51) hx hb dX1_cannot_44 (by decide) (fun c31 => ?_) (fun c31 => ?_)
            · have qc31 := c31
              refine lv_aload_n hx hb dX1_cannot_51 rfl (lv_at hl 2 rfl) ?_
              refine zget (fs := [.int bk, .ref (a 1), .ref (a 2), .int (nI pn), .int hd, .int ph, .int ot, .int wi, .int ik, .ref (a 3), .int th, .ref (a 4), .ref (a 5), .ref (a 6), .ref (a 7), .ref (a 8), .ref (a 9)]) (v := .int ph) Z hin X (ci := 1) (C := RX1) (T := TX1) (N := 17) rfl rfl 5 (by decide) lk_X1_cannot_21 rfl dX1_cannot_52 ?_
              refine lv_iconst (v := (2 : Int32)) hx hb dX1_cannot_55 (by decide) ?_
              refine lv_icmp_eq (tgt := 63) hx hb dX1_cannot_56 (by decide) (fun c32 => ?_) (fun c32 => ?_)
              · have qc32 := c32
                have hph2 : ph = 2 := c32
                exact absurd c32 hC.1
              · have qc32 := c32
                have hph2 : ¬ ph = 2 := c32
                refine lv_iload_n hx hb dX1_cannot_59 rfl (lv_at hl 0 rfl) ?_
                refine lv_if_eq (tgt := 67) hx hb dX1_cannot_60 (by decide) (fun c33 => ?_) (fun c33 => ?_)
                · have qc33 := c33
                  refine lv_iconst (v := (0 : Int32)) hx hb dX1_cannot_67 (by decide) ?_
                  refine zcallVi (n := 1) (As := [.int (0 : Int32)]) (rest := []) (ci := 1) (C := RX1) (T := TX1) (N := 17) Z X (c_X1_fails l g a bk pn hd ph ot wi ik th P O K kd lf ch be gi mr (0 : Int32)) gX1_cannot_X1_fails rfl (by decide +kernel) ⟨Nat.le_of_ble_eq_true rfl, Nat.le_of_ble_eq_true rfl⟩ rfl rfl rfl rfl hl.1 (Nat.le_of_ble_eq_true rfl) dX1_cannot_68 ⟨Nat.zero_le _, Nat.zero_le _⟩ (fun r33 ur33 H locs hrr33 X => ?_)
                  obtain ⟨rfl, hfr33⟩ : ur33 = (bk, nI pn, hd, ph, ot, wi, ik, (0 : Int32), P, O, K, kd, lf, ch, be, gi, mr) ∧ r33 = zb (decide ((0 : Int32) < (0 : Int32))) := hrr33
                  obtain rfl : r33 = (0 : Int32) := hfr33.trans (by decide)
                  have X : zh g A (oM g a (bk, nI pn, hd, ph, ot, wi, ik, (0 : Int32), P, O, K, kd, lf, ch, be, gi, mr)) s.heap H locs := X
                  exact zreti Z hr hlk (bk, nI pn, hd, ph, ot, wi, ik, (0 : Int32), P, O, K, kd, lf, ch, be, gi, mr) X dX1_cannot_71 rfl (⟨rfl, rfl⟩)
                · exact absurd c33 (by decide)
            · have qc31 := c31
              exact absurd hA.2 c31
        · have qc29 := c29
          have c29n : ¬ (16 - pn) ≤ 6 := zn_len (by omega) (by omega) c29
          have hfar : mFar np pn := by unfold mFar; first | exact Or.inl ⟨‹np = 3›, by omega⟩ | exact Or.inr ⟨‹np = 4›, by omega⟩
          refine lv_iconst (v := (1 : Int32)) hx hb dX1_cannot_30 (by decide) ?_
          refine lv_goto (tgt := 35) hx hb dX1_cannot_31 (by decide) ?_
          refine lv_istore_n (lv' := [(3, .int (1 : Int32)), (2, .int (nI (16 - pn))), (0, .ref (a 0)), (1, .int np)]) hx hb dX1_cannot_35 rfl hl (by decide) rfl (fun ls hl => ?_)
          refine lv_aload_n hx hb dX1_cannot_36 rfl (lv_at hl 2 rfl) ?_
          refine lv_iload_n hx hb dX1_cannot_37 rfl (lv_at hl 3 rfl) ?_
          refine lv_iconst (v := (1 : Int32)) hx hb dX1_cannot_38 (by decide) ?_
          refine lv_icmp_lt (tgt := 47) hx hb dX1_cannot_39 (by decide) (fun c35 => ?_) (fun c35 => ?_)
          · have qc35 := c35
            have ha : np < 1 := c35
            exact absurd c35 hA.1
          · have qc35 := c35
            have ha : ¬ np < 1 := c35
            refine lv_iload_n hx hb dX1_cannot_42 rfl (lv_at hl 3 rfl) ?_
            refine lv_iconst (v := (4 : Int32)) hx hb dX1_cannot_43 (by decide) ?_
            refine lv_icmp_le (tgt := 51) hx hb dX1_cannot_44 (by decide) (fun c36 => ?_) (fun c36 => ?_)
            · have qc36 := c36
              refine lv_aload_n hx hb dX1_cannot_51 rfl (lv_at hl 2 rfl) ?_
              refine zget (fs := [.int bk, .ref (a 1), .ref (a 2), .int (nI pn), .int hd, .int ph, .int ot, .int wi, .int ik, .ref (a 3), .int th, .ref (a 4), .ref (a 5), .ref (a 6), .ref (a 7), .ref (a 8), .ref (a 9)]) (v := .int ph) Z hin X (ci := 1) (C := RX1) (T := TX1) (N := 17) rfl rfl 5 (by decide) lk_X1_cannot_21 rfl dX1_cannot_52 ?_
              refine lv_iconst (v := (2 : Int32)) hx hb dX1_cannot_55 (by decide) ?_
              refine lv_icmp_eq (tgt := 63) hx hb dX1_cannot_56 (by decide) (fun c37 => ?_) (fun c37 => ?_)
              · have qc37 := c37
                have hph2 : ph = 2 := c37
                exact absurd c37 hC.1
              · have qc37 := c37
                have hph2 : ¬ ph = 2 := c37
                refine lv_iload_n hx hb dX1_cannot_59 rfl (lv_at hl 0 rfl) ?_
                refine lv_if_eq (tgt := 67) hx hb dX1_cannot_60 (by decide) (fun c38 => ?_) (fun c38 => ?_)
                · exact absurd c38 (by decide)
                · have qc38 := c38
                  exact absurd hfar hC.2
            · have qc36 := c36
              exact absurd hA.2 c36
theorem inw_X1_worth : ∀ w ∈ wsX10, w ∈ wsX1_worth := by decide +kernel
theorem lk_X1_worth_21 : Cond.fieldLink RX1 21 "QuarterboardModel" "phase" "I" ∈ wsX1_worth := by decide +kernel
theorem lk_X1_worth_17 : Cond.fieldLink RX1 17 "QuarterboardModel" "hand" "I" ∈ wsX1_worth := by decide +kernel
def P_X1_worth (bk : Int32) (pn : Nat) (hd ph ot wi ik th : Int32) (P O K kd lf ch be gi mr : Nat → Int32) (np : Int32) (kq : Bool) (pq : Nat) : Int32 → MS → Prop := fun r u => ((np < 1 ∨ ¬ np ≤ 4) ∧ u = (bk, nI pn, hd, ph, ot, wi, ik, 1, P, O, K, kd, lf, ch, be, gi, mr) ∧ r = 0) ∨ ((¬ np < 1 ∧ np ≤ 4) ∧ (ph = 2 ∨ mFar np pn) ∧ u = (bk, nI pn, hd, ph, ot, wi, ik, 2, P, O, K, kd, lf, ch, be, gi, mr) ∧ r = 0) ∨ ((¬ np < 1 ∧ np ≤ 4) ∧ (¬ ph = 2 ∧ ¬ mFar np pn) ∧ ∃ kd2 lf2 ch2 be2 gi2 : Nat → Int32, u = (bk, nI pn, hd, ph, ot, wi, ik, 0, P, O, K, kd2, lf2, ch2, be2, gi2, mr) ∧ r = mx32 (lkF bk kq (np.toNatClampNeg) P O pn pq) 16)
set_option maxHeartbeats 600000 in
set_option maxRecDepth 100000 in
theorem c_X1_worth (l : Launch) (g : zG) (a : Nat → Nat) (bk : Int32) (pn : Nat) (hd ph ot wi ik th : Int32) (P O K kd lf ch be gi mr : Nat → Int32) (np : Int32) (kq : Bool) (pq : Nat) (hpn : pn ≤ 16) (hq1 : ¬ ph = 2 → ph = zb kq) (hok0 : ¬ ph = 2 → okM P O pn) (hpq : kq = true → hd = nI pq ∧ pq < 16 ∧ O pq = 0) : zM l yX1_worth wsX1_worth 7 400 g [.ref (a 0), .int np] (oM g a (bk, nI pn, hd, ph, ot, wi, ik, th, P, O, K, kd, lf, ch, be, gi, mr)) zE0 (zQi g (P_X1_worth bk pn hd ph ot wi ik th P O K kd lf ch be gi mr np kq pq) (oM g a)) := by
  refine zstart (cc := cX1_worth) (maxL := 2) (ret := (some .int)) (own := RX1) rfl (by decide) rfl zSt0 (Nat.le_of_ble_eq_true rfl) ?_
  intro p e s m below meth c A Z hr hlk H locs X ls hl
  have hx := Z.1.1
  have hb := Z.1.2.1
  have hin : ∀ w ∈ wsX10, w ∈ wsX1_worth := inw_X1_worth
  have hl : lv_has ls 2 [(0, .ref (a 0)), (1, .int np)] := hl
  have X : zh g A (oM g a (bk, nI pn, hd, ph, ot, wi, ik, th, P, O, K, kd, lf, ch, be, gi, mr)) s.heap H locs := X
  by_cases hA : np < 1 ∨ ¬ np ≤ 4
  ·
    skip
    refine lv_aload_n hx hb dX1_worth_0 rfl (lv_at hl 0 rfl) ?_
    refine lv_iload_n hx hb dX1_worth_1 rfl (lv_at hl 1 rfl) ?_
    refine zcallVi (n := 1) (As := [.int np]) (rest := []) (ci := 1) (C := RX1) (T := TX1) (N := 17) Z X (c_X1_cannot_A l g a bk pn hd ph ot wi ik th P O K kd lf ch be gi mr np hpn hA) gX1_worth_X1_cannot rfl (by decide +kernel) ⟨Nat.le_of_ble_eq_true rfl, Nat.le_of_ble_eq_true rfl⟩ rfl rfl rfl rfl hl.1 (Nat.le_of_ble_eq_true rfl) dX1_worth_2 ⟨Nat.zero_le _, Nat.zero_le _⟩ (fun r0 ur0 H locs hrr0 X => ?_)
    obtain ⟨rfl, rfl⟩ : ur0 = (bk, nI pn, hd, ph, ot, wi, ik, 1, P, O, K, kd, lf, ch, be, gi, mr) ∧ r0 = 1 := hrr0
    have X : zh g A (oM g a (bk, nI pn, hd, ph, ot, wi, ik, 1, P, O, K, kd, lf, ch, be, gi, mr)) s.heap H locs := X
    refine lv_if_eq (tgt := 12) hx hb dX1_worth_5 (by decide) (fun c2 => ?_) (fun c2 => ?_)
    · exact absurd c2 (by decide)
    · have qc2 := c2
      refine lv_iconst (v := (0 : Int32)) hx hb dX1_worth_8 (by decide) ?_
      refine lv_goto (tgt := 25) hx hb dX1_worth_9 (by decide) ?_
      exact zreti Z hr hlk (bk, nI pn, hd, ph, ot, wi, ik, 1, P, O, K, kd, lf, ch, be, gi, mr) X dX1_worth_25 rfl (by first | exact Or.inl ⟨hA, rfl, rfl⟩ | exact Or.inr (Or.inl ⟨hA, hB, rfl, rfl⟩) | exact Or.inr (Or.inr ⟨hA, hC, _, _, _, _, _, rfl, rfl⟩))
  ·
    have hA : ¬ np < 1 ∧ np ≤ 4 := ⟨fun q => hA (Or.inl q), Classical.byContradiction (fun q => hA (Or.inr q))⟩
    obtain ⟨hnp, hn1, hn4⟩ := zplac hA.1 hA.2
    by_cases hB : ph = 2 ∨ mFar np pn
    ·
      skip
      refine lv_aload_n hx hb dX1_worth_0 rfl (lv_at hl 0 rfl) ?_
      refine lv_iload_n hx hb dX1_worth_1 rfl (lv_at hl 1 rfl) ?_
      refine zcallVi (n := 1) (As := [.int np]) (rest := []) (ci := 1) (C := RX1) (T := TX1) (N := 17) Z X (c_X1_cannot_B l g a bk pn hd ph ot wi ik th P O K kd lf ch be gi mr np hpn hA hB) gX1_worth_X1_cannot rfl (by decide +kernel) ⟨Nat.le_of_ble_eq_true rfl, Nat.le_of_ble_eq_true rfl⟩ rfl rfl rfl rfl hl.1 (Nat.le_of_ble_eq_true rfl) dX1_worth_2 ⟨Nat.zero_le _, Nat.zero_le _⟩ (fun r2 ur2 H locs hrr2 X => ?_)
      obtain ⟨rfl, rfl⟩ : ur2 = (bk, nI pn, hd, ph, ot, wi, ik, 2, P, O, K, kd, lf, ch, be, gi, mr) ∧ r2 = 1 := hrr2
      have X : zh g A (oM g a (bk, nI pn, hd, ph, ot, wi, ik, 2, P, O, K, kd, lf, ch, be, gi, mr)) s.heap H locs := X
      refine lv_if_eq (tgt := 12) hx hb dX1_worth_5 (by decide) (fun c4 => ?_) (fun c4 => ?_)
      · exact absurd c4 (by decide)
      · have qc4 := c4
        refine lv_iconst (v := (0 : Int32)) hx hb dX1_worth_8 (by decide) ?_
        refine lv_goto (tgt := 25) hx hb dX1_worth_9 (by decide) ?_
        exact zreti Z hr hlk (bk, nI pn, hd, ph, ot, wi, ik, 2, P, O, K, kd, lf, ch, be, gi, mr) X dX1_worth_25 rfl (by first | exact Or.inl ⟨hA, rfl, rfl⟩ | exact Or.inr (Or.inl ⟨hA, hB, rfl, rfl⟩) | exact Or.inr (Or.inr ⟨hA, hC, _, _, _, _, _, rfl, rfl⟩))
    ·
      have hC : ¬ ph = 2 ∧ ¬ mFar np pn := ⟨fun q => hB (Or.inl q), fun q => hB (Or.inr q)⟩
      have hph := hq1 hC.1
      have hok := hok0 hC.1
      refine lv_aload_n hx hb dX1_worth_0 rfl (lv_at hl 0 rfl) ?_
      refine lv_iload_n hx hb dX1_worth_1 rfl (lv_at hl 1 rfl) ?_
      refine zcallVi (n := 1) (As := [.int np]) (rest := []) (ci := 1) (C := RX1) (T := TX1) (N := 17) Z X (c_X1_cannot_C l g a bk pn hd ph ot wi ik th P O K kd lf ch be gi mr np hpn hA hC) gX1_worth_X1_cannot rfl (by decide +kernel) ⟨Nat.le_of_ble_eq_true rfl, Nat.le_of_ble_eq_true rfl⟩ rfl rfl rfl rfl hl.1 (Nat.le_of_ble_eq_true rfl) dX1_worth_2 ⟨Nat.zero_le _, Nat.zero_le _⟩ (fun r4 ur4 H locs hrr4 X => ?_)
      obtain ⟨rfl, rfl⟩ : ur4 = (bk, nI pn, hd, ph, ot, wi, ik, 0, P, O, K, kd, lf, ch, be, gi, mr) ∧ r4 = 0 := hrr4
      have X : zh g A (oM g a (bk, nI pn, hd, ph, ot, wi, ik, 0, P, O, K, kd, lf, ch, be, gi, mr)) s.heap H locs := X
      refine lv_if_eq (tgt := 12) hx hb dX1_worth_5 (by decide) (fun c6 => ?_) (fun c6 => ?_)
      · have qc6 := c6
        refine lv_aload_n hx hb dX1_worth_12 rfl (lv_at hl 0 rfl) ?_
        refine lv_aload_n hx hb dX1_worth_13 rfl (lv_at hl 0 rfl) ?_
        refine zget (fs := [.int bk, .ref (a 1), .ref (a 2), .int (nI pn), .int hd, .int ph, .int ot, .int wi, .int ik, .ref (a 3), .int 0, .ref (a 4), .ref (a 5), .ref (a 6), .ref (a 7), .ref (a 8), .ref (a 9)]) (v := .int ph) Z hin X (ci := 1) (C := RX1) (T := TX1) (N := 17) rfl rfl 5 (by decide) lk_X1_worth_21 rfl dX1_worth_14 ?_
        refine zrwi (y := zb kq) (hph) ?_
        refine lv_iload_n hx hb dX1_worth_17 rfl (lv_at hl 1 rfl) ?_
        refine zrwi (y := nI (np.toNatClampNeg)) (hnp) ?_
        refine lv_aload_n hx hb dX1_worth_18 rfl (lv_at hl 0 rfl) ?_
        refine zget (fs := [.int bk, .ref (a 1), .ref (a 2), .int (nI pn), .int hd, .int ph, .int ot, .int wi, .int ik, .ref (a 3), .int 0, .ref (a 4), .ref (a 5), .ref (a 6), .ref (a 7), .ref (a 8), .ref (a 9)]) (v := .int hd) Z hin X (ci := 1) (C := RX1) (T := TX1) (N := 17) rfl rfl 4 (by decide) lk_X1_worth_17 rfl dX1_worth_19 ?_
        refine zcallVi (n := 3) (As := [.int (zb kq), .int (nI (np.toNatClampNeg)), .int hd]) (rest := []) (ci := 1) (C := RX1) (T := TX1) (N := 17) Z X (c_X1_looks l g a bk pn hd ph ot wi ik 0 P O K kd lf ch be gi mr kq (np.toNatClampNeg) hd pq hn1 hn4 hok hpq) gX1_worth_X1_looks rfl (by decide +kernel) ⟨Nat.le_of_ble_eq_true rfl, Nat.le_of_ble_eq_true rfl⟩ rfl rfl rfl rfl hl.1 (Nat.le_of_ble_eq_true rfl) dX1_worth_22 ⟨Nat.zero_le _, Nat.zero_le _⟩ (fun r6 ur6 H locs hrr6 X => ?_)
        obtain ⟨kdr6, lfr6, chr6, ber6, gir6, rfl, her6⟩ : ∃ kd2 lf2 ch2 be2 gi2 : Nat → Int32, ur6 = (bk, nI pn, hd, ph, ot, wi, ik, 0, P, O, K, kd2, lf2, ch2, be2, gi2, mr) ∧ r6 = mx32 (lkF bk kq (np.toNatClampNeg) P O pn pq) 16 := hrr6
        have X : zh g A (oM g a (bk, nI pn, hd, ph, ot, wi, ik, 0, P, O, K, kdr6, lfr6, chr6, ber6, gir6, mr)) s.heap H locs := X
        refine zrwi (y := mx32 (lkF bk kq (np.toNatClampNeg) P O pn pq) 16) her6 ?_
        exact zreti Z hr hlk (bk, nI pn, hd, ph, ot, wi, ik, 0, P, O, K, kdr6, lfr6, chr6, ber6, gir6, mr) X dX1_worth_25 rfl (by first | exact Or.inl ⟨hA, rfl, rfl⟩ | exact Or.inr (Or.inl ⟨hA, hB, rfl, rfl⟩) | exact Or.inr (Or.inr ⟨hA, hC, _, _, _, _, _, rfl, rfl⟩))
      · exact absurd c6 (by decide)
