/-! the class: looking ahead -/
def P_X0_giverWins (q0 q1 q2 q3 q4 q5 q6 : Int32) (q7 : Int64) (q8 q9 : Int32) (q10 : Int64) (n : Nat) : Int32 → QS → Prop := fun r u => u = (q0, q1, q2, q3, q4, q5, q6, q7, q8, q9, q10) ∧ r = zb (qGw q0 n q5 q6 q7)
def P_X0_giverLoses (q0 q1 q2 q3 q4 q5 q6 : Int32) (q7 : Int64) (q8 q9 : Int32) (q10 : Int64) (n : Nat) : Int32 → QS → Prop := fun r u => u = (q0, q1, q2, q3, q4, q5, q6, q7, q8, q9, q10) ∧ r = zb (qGl q0 n q5 q6 q7)
def P_X0_placerWinsLater (q0 q1 q2 q3 q4 q5 q6 : Int32) (q7 : Int64) (q8 q9 : Int32) (q10 : Int64) (n pp : Nat) : Int32 → QS → Prop := fun r u => u = (q0, q1, q2, q3, q4, q5, q6, q7, q8, q9, q10) ∧ r = zb (qPw q0 n q5 q6 q7 pp)
def P_X0_placerLoses (q0 q1 q2 q3 q4 q5 q6 : Int32) (q7 : Int64) (q8 q9 : Int32) (q10 : Int64) (n pp : Nat) : Int32 → QS → Prop := fun r u => u = (q0, q1, q2, q3, q4, q5, q6, q7, q8, q9, q10) ∧ r = zb (qPl q0 n q5 q6 q7 pp)
def K_GW (l : Launch) (g : zG) (bL h n : Nat) : Prop := ∀ (q0 q1 q2 q3 q4 q5 q6 : Int32) (q7 : Int64) (q8 q9 : Int32) (q10 : Int64), qInv q5 q7 → zM l yX0_giverWins wsX0_giverWins (6 + 2 * n) (200 + 50 * n) g [.ref h, .int (nI n)] (oQ h (q0, q1, q2, q3, q4, q5, q6, q7, q8, q9, q10)) (zEL bL) (zQi g (P_X0_giverWins q0 q1 q2 q3 q4 q5 q6 q7 q8 q9 q10 n) (oQ h))
def K_GL (l : Launch) (g : zG) (bL h n : Nat) : Prop := ∀ (q0 q1 q2 q3 q4 q5 q6 : Int32) (q7 : Int64) (q8 q9 : Int32) (q10 : Int64), qInv q5 q7 → zM l yX0_giverLoses wsX0_giverLoses (6 + 2 * n) (200 + 50 * n) g [.ref h, .int (nI n)] (oQ h (q0, q1, q2, q3, q4, q5, q6, q7, q8, q9, q10)) (zEL bL) (zQi g (P_X0_giverLoses q0 q1 q2 q3 q4 q5 q6 q7 q8 q9 q10 n) (oQ h))
def K_PW (l : Launch) (g : zG) (bL h n : Nat) : Prop := ∀ (q0 q1 q2 q3 q4 q5 q6 : Int32) (q7 : Int64) (q8 q9 : Int32) (q10 : Int64) (pp : Nat), pp < 16 → qHas q6 (nI pp) = false → qInv q5 q7 → zM l yX0_placerWinsLater wsX0_placerWinsLater (5 + 2 * n) (175 + 50 * n) g [.ref h, .int (nI pp), .int (nI n)] (oQ h (q0, q1, q2, q3, q4, q5, q6, q7, q8, q9, q10)) (zEL bL) (zQi g (P_X0_placerWinsLater q0 q1 q2 q3 q4 q5 q6 q7 q8 q9 q10 n pp) (oQ h))
def K_PL (l : Launch) (g : zG) (bL h n : Nat) : Prop := ∀ (q0 q1 q2 q3 q4 q5 q6 : Int32) (q7 : Int64) (q8 q9 : Int32) (q10 : Int64) (pp : Nat), pp < 16 → qHas q6 (nI pp) = false → qInv q5 q7 → zM l yX0_placerLoses wsX0_placerLoses (5 + 2 * n) (175 + 50 * n) g [.ref h, .int (nI pp), .int (nI n)] (oQ h (q0, q1, q2, q3, q4, q5, q6, q7, q8, q9, q10)) (zEL bL) (zQi g (P_X0_placerLoses q0 q1 q2 q3 q4 q5 q6 q7 q8 q9 q10 n pp) (oQ h))
theorem inw_X0_giverWins : ∀ w ∈ wsX00, w ∈ wsX0_giverWins := by decide +kernel
set_option maxHeartbeats 4000000 in
set_option maxRecDepth 100000 in
theorem c_X0_giverWins (l : Launch) (g : zG) (bL h : Nat) (q0 q1 q2 q3 q4 q5 q6 : Int32) (q7 : Int64) (q8 q9 : Int32) (q10 : Int64)  (n : Nat) (hn : n ≤ 1000) (hinv : qInv q5 q7) (hPL : K_PL l g bL h n) : zM l yX0_giverWins wsX0_giverWins (6 + 2 * n) (200 + 50 * n) g [.ref h, .int (nI n)] (oQ h (q0, q1, q2, q3, q4, q5, q6, q7, q8, q9, q10)) (zEL bL) (zQi g (P_X0_giverWins q0 q1 q2 q3 q4 q5 q6 q7 q8 q9 q10 n) (oQ h)) := by
  refine zstart (cc := cX0_giverWins) (maxL := 4) (ret := (some .boolean)) (own := RX0) rfl (by decide) rfl zStL (Nat.le_of_ble_eq_true rfl) ?_
  intro p e s m below meth c A Z hr hlk H locs X ls hl
  have hx := Z.1.1
  have hb := Z.1.2.1
  have hin : ∀ w ∈ wsX00, w ∈ wsX0_giverWins := inw_X0_giverWins
  have hl : lv_has ls 4 [(0, .ref h), (1, .int (nI n))] := hl
  have X : zh g A (oQ h (q0, q1, q2, q3, q4, q5, q6, q7, q8, q9, q10)) s.heap H locs := X
  refine lv_iload_n hx hb dX0_giverWins_0 rfl (lv_at hl 1 rfl) ?_
  refine lv_iconst (v := (2 : Int32)) hx hb dX0_giverWins_1 (by decide) ?_
  refine lv_icmp_ge (tgt := 7) hx hb dX0_giverWins_2 (by decide) (fun c1 => ?_) (fun c1 => ?_)
  · have qc1 := c1
    have c1n : 2 ≤ n := zn_let (by omega) (by omega) c1
    refine lv_aload_n hx hb dX0_giverWins_7 rfl (lv_at hl 0 rfl) ?_
    refine zcallVi (n := 0) (As := []) (rest := []) (ci := 0) (C := RX0) (T := TX0) (N := 11) Z X (c_X0_safePieces l g bL h q0 q1 q2 q3 q4 q5 q6 q7 q8 q9 q10 ) gX0_giverWins_X0_safePieces rfl (by decide +kernel) ⟨by show _ ≤ (6 + 2 * n); omega, by show _ ≤ (200 + 50 * n); omega⟩ rfl rfl rfl rfl hl.1 (Nat.le_of_ble_eq_true rfl) dX0_giverWins_8 ⟨Nat.zero_le _, Nat.zero_le _⟩ (fun r1 ur1 H locs hrr1 X => ?_)
    obtain ⟨rfl, rfl⟩ : ur1 = (q0, q1, q2, q3, q4, q5, q6, q7, q8, q9, q10) ∧ r1 = qSafe q5 q6 q7 q0 := hrr1
    have X : zh g A (oQ h (q0, q1, q2, q3, q4, q5, q6, q7, q8, q9, q10)) s.heap H locs := X
    refine lv_istore_n (lv' := [(2, .int (qSafe q5 q6 q7 q0)), (0, .ref h), (1, .int (nI n))]) hx hb dX0_giverWins_11 rfl hl (by decide) rfl (fun ls hl => ?_)
    refine lv_iconst (v := (0 : Int32)) hx hb dX0_giverWins_12 (by decide) ?_
    refine lv_istore_n (lv' := [(3, .int (0 : Int32)), (2, .int (qSafe q5 q6 q7 q0)), (0, .ref h), (1, .int (nI n))]) hx hb dX0_giverWins_13 rfl hl (by decide) rfl (fun ls hl => ?_)
    have cut14 : ∀ (n14 : Nat), ∀ (k : Nat), (k ≤ 16) → (anyN (qGwF q0 n q5 q6 q7) k = false) → (17 - k ≤ n14) → ∀ (H : Heap) (locs : List Loc) (ls : Array Slot), zh g A (oQ h (q0, q1, q2, q3, q4, q5, q6, q7, q8, q9, q10)) s.heap H locs → lv_has ls 4 [(3, .int (nI k)), (2, .int (qSafe q5 q6 q7 q0)), (0, .ref h), (1, .int (nI n))] → W p l e { frames := (6 + 2 * n), cells := 0, slots := 0, locals := (200 + 50 * n) } s m ([.ref h, .int (nI n)] : List Value).toArray below meth c H locs 0 0 (MQ below ((zQi g (P_X0_giverWins q0 q1 q2 q3 q4 q5 q6 q7 q8 q9 q10 n) (oQ h)) A) ([.ref h, .int (nI n)] : List Value).toArray s 0 0 A) (F0 m 14 ls []) := by
      intro n14
      induction n14 with
      | zero =>
        intro k hk hall hm14
        exact absurd hm14 (by omega)
      | succ n14 ih14 =>
        intro k hk hall hm14 H locs ls X hl
        refine lv_iload_n hx hb dX0_giverWins_14 rfl (lv_at hl 0 rfl) ?_
        refine lv_bipush (v := (16 : Int32)) hx hb dX0_giverWins_15 (by decide) ?_
        refine lv_icmp_ge (tgt := 45) hx hb dX0_giverWins_17 (by decide) (fun c3 => ?_) (fun c3 => ?_)
        · have qc3 := c3
          have c3n : 16 ≤ k := zn_let (by omega) (by omega) c3
          refine lv_iconst (v := (0 : Int32)) hx hb dX0_giverWins_45 (by decide) ?_
          exact zreti Z hr hlk (q0, q1, q2, q3, q4, q5, q6, q7, q8, q9, q10) X dX0_giverWins_46 rfl (⟨rfl, (zb_f0 (qGw_b (by omega) (by rw [show (16 : Nat) = k by omega]; exact hall))).symm⟩)
        · have qc3 := c3
          have c3n : ¬ 16 ≤ k := zn_len (by omega) (by omega) c3
          refine lv_iload_n hx hb dX0_giverWins_20 rfl (lv_at hl 1 rfl) ?_
          refine lv_iload_n hx hb dX0_giverWins_21 rfl (lv_at hl 0 rfl) ?_
          refine zcallSi (n := 2) (As := [.int (qSafe q5 q6 q7 q0), .int (nI k)]) (rest := []) Z X (c_X0_has l g (qSafe q5 q6 q7 q0) (nI k)) gX0_giverWins_X0_has rfl (by decide +kernel) ⟨by show _ ≤ (6 + 2 * n); omega, by show _ ≤ (200 + 50 * n); omega⟩ rfl rfl hl.1 (Nat.le_of_ble_eq_true rfl) dX0_giverWins_22 ⟨Nat.zero_le _, Nat.zero_le _⟩ (fun r3 H locs hrr3 X => ?_)
          obtain rfl : r3 = zb (qHas (qSafe q5 q6 q7 q0) (nI k)) := hrr3
          refine lv_if_eq (tgt := 39) hx hb dX0_giverWins_25 (by decide) (fun c5 => ?_) (fun c5 => ?_)
          · have qc5 := c5
            have hh : qHas (qSafe q5 q6 q7 q0) (nI k) = false := zb_0.mp c5
            refine lv_iinc (v := nI (k + 1)) (lv' := [(3, .int (nI (k + 1))), (2, .int (qSafe q5 q6 q7 q0)), (0, .ref h), (1, .int (nI n))]) hx hb dX0_giverWins_39 hl (k := 0) rfl (zi_inc k) (by decide) rfl (fun ls hl => ?_)
            refine lv_goto (tgt := 14) hx hb dX0_giverWins_42 (by decide) ?_
            exact ih14 (k + 1) (by first | assumption | omega) (by first | exact anyN_s hall (by unfold qGwF; rw [hh]; rfl) | exact anyN_s hall (by unfold qGwF; rw [hq, Bool.and_false])) (by omega) H locs ls X (lv_sub hl [0, 1, 2, 3] rfl)
          · have qc5 := c5
            have hh : qHas (qSafe q5 q6 q7 q0) (nI k) = true := zb_n0.mp c5
            refine lv_aload_n hx hb dX0_giverWins_28 rfl (lv_at hl 2 rfl) ?_
            refine lv_iload_n hx hb dX0_giverWins_29 rfl (lv_at hl 0 rfl) ?_
            refine lv_iload_n hx hb dX0_giverWins_30 rfl (lv_at hl 3 rfl) ?_
            refine zcallVi (n := 2) (As := [.int (nI k), .int (nI n)]) (rest := []) (ci := 0) (C := RX0) (T := TX0) (N := 11) Z X (hPL q0 q1 q2 q3 q4 q5 q6 q7 q8 q9 q10 k (by omega) (qSafe_used (by omega) hh) hinv) gX0_giverWins_X0_placerLoses rfl (by decide +kernel) ⟨by show _ ≤ (6 + 2 * n); omega, by show _ ≤ (200 + 50 * n); omega⟩ rfl rfl rfl rfl hl.1 (Nat.le_of_ble_eq_true rfl) dX0_giverWins_31 ⟨Nat.zero_le _, Nat.zero_le _⟩ (fun r5 ur5 H locs hrr5 X => ?_)
            obtain ⟨rfl, rfl⟩ : ur5 = (q0, q1, q2, q3, q4, q5, q6, q7, q8, q9, q10) ∧ r5 = zb (qPl q0 n q5 q6 q7 k) := hrr5
            have X : zh g A (oQ h (q0, q1, q2, q3, q4, q5, q6, q7, q8, q9, q10)) s.heap H locs := X
            refine lv_if_eq (tgt := 39) hx hb dX0_giverWins_34 (by decide) (fun c7 => ?_) (fun c7 => ?_)
            · have qc7 := c7
              have hq : qPl q0 n q5 q6 q7 k = false := zb_0.mp c7
              refine lv_iinc (v := nI (k + 1)) (lv' := [(3, .int (nI (k + 1))), (2, .int (qSafe q5 q6 q7 q0)), (0, .ref h), (1, .int (nI n))]) hx hb dX0_giverWins_39 hl (k := 0) rfl (zi_inc k) (by decide) rfl (fun ls hl => ?_)
              refine lv_goto (tgt := 14) hx hb dX0_giverWins_42 (by decide) ?_
              exact ih14 (k + 1) (by first | assumption | omega) (by first | exact anyN_s hall (by unfold qGwF; rw [hh]; rfl) | exact anyN_s hall (by unfold qGwF; rw [hq, Bool.and_false])) (by omega) H locs ls X (lv_sub hl [0, 1, 2, 3] rfl)
            · have qc7 := c7
              have hq : qPl q0 n q5 q6 q7 k = true := zb_n0.mp c7
              refine lv_iconst (v := (1 : Int32)) hx hb dX0_giverWins_37 (by decide) ?_
              exact zreti Z hr hlk (q0, q1, q2, q3, q4, q5, q6, q7, q8, q9, q10) X dX0_giverWins_38 rfl (⟨rfl, (zb_t (qGw_b (by omega) (anyN_t (k := k) (by omega) (by unfold qGwF; rw [hh, hq]; rfl)))).symm⟩)
    exact cut14 17 0 (by first | assumption | omega) (rfl) (by omega) H locs ls X (lv_sub hl [0, 1, 2, 3] rfl)
  · have qc1 := c1
    have c1n : ¬ 2 ≤ n := zn_len (by omega) (by omega) c1
    refine lv_iconst (v := (0 : Int32)) hx hb dX0_giverWins_5 (by decide) ?_
    exact zreti Z hr hlk (q0, q1, q2, q3, q4, q5, q6, q7, q8, q9, q10) X dX0_giverWins_6 rfl (⟨rfl, (zb_f0 (qGw_n (by omega))).symm⟩)
theorem inw_X0_giverLoses : ∀ w ∈ wsX00, w ∈ wsX0_giverLoses := by decide +kernel
theorem lk_X0_giverLoses_16 : Cond.fieldLink RX0 16 "Quarterboard" "filled" "I" ∈ wsX0_giverLoses := by decide +kernel
set_option maxHeartbeats 4000000 in
set_option maxRecDepth 100000 in
theorem c_X0_giverLoses (l : Launch) (g : zG) (bL h : Nat) (q0 q1 q2 q3 q4 q5 q6 : Int32) (q7 : Int64) (q8 q9 : Int32) (q10 : Int64)  (n : Nat) (hn : n ≤ 1000) (hinv : qInv q5 q7) (hPW : K_PW l g bL h n) : zM l yX0_giverLoses wsX0_giverLoses (6 + 2 * n) (200 + 50 * n) g [.ref h, .int (nI n)] (oQ h (q0, q1, q2, q3, q4, q5, q6, q7, q8, q9, q10)) (zEL bL) (zQi g (P_X0_giverLoses q0 q1 q2 q3 q4 q5 q6 q7 q8 q9 q10 n) (oQ h)) := by
  refine zstart (cc := cX0_giverLoses) (maxL := 4) (ret := (some .boolean)) (own := RX0) rfl (by decide) rfl zStL (Nat.le_of_ble_eq_true rfl) ?_
  intro p e s m below meth c A Z hr hlk H locs X ls hl
  have hx := Z.1.1
  have hb := Z.1.2.1
  have hin : ∀ w ∈ wsX00, w ∈ wsX0_giverLoses := inw_X0_giverLoses
  have hl : lv_has ls 4 [(0, .ref h), (1, .int (nI n))] := hl
  have X : zh g A (oQ h (q0, q1, q2, q3, q4, q5, q6, q7, q8, q9, q10)) s.heap H locs := X
  refine lv_iload_n hx hb dX0_giverLoses_0 rfl (lv_at hl 1 rfl) ?_
  refine lv_iconst (v := (1 : Int32)) hx hb dX0_giverLoses_1 (by decide) ?_
  refine lv_icmp_lt (tgt := 14) hx hb dX0_giverLoses_2 (by decide) (fun c1 => ?_) (fun c1 => ?_)
  · have qc1 := c1
    have c1n : n < 1 := zn_ltt (by omega) (by omega) c1
    refine lv_iconst (v := (0 : Int32)) hx hb dX0_giverLoses_14 (by decide) ?_
    exact zreti Z hr hlk (q0, q1, q2, q3, q4, q5, q6, q7, q8, q9, q10) X dX0_giverLoses_15 rfl (⟨rfl, by first | exact (zb_f0 (qGl_n2 hne)).symm | exact (zb_f0 (qGl_n (by omega))).symm⟩)
  · have qc1 := c1
    have c1n : ¬ n < 1 := zn_ltn (by omega) (by omega) c1
    refine lv_aload_n hx hb dX0_giverLoses_5 rfl (lv_at hl 0 rfl) ?_
    refine zget (fs := [.int q0, .int q1, .int q2, .int q3, .int q4, .int q5, .int q6, .long q7, .int q8, .int q9, .long q10]) (v := .int q5) Z hin X (ci := 0) (C := RX0) (T := TX0) (N := 11) rfl rfl 5 (by decide) lk_X0_giverLoses_16 rfl dX0_giverLoses_6 ?_
    refine lv_ldc (v := (65535 : Int32)) hx hb Z.1.2.2.2.1 (Z.1.2.2.2.2 (.constant RX0 78 (65535)) (by decide +kernel)) dX0_giverLoses_9 ?_
    refine lv_icmp_ne (tgt := 16) hx hb dX0_giverLoses_11 (by decide) (fun c2 => ?_) (fun c2 => ?_)
    · have qc2 := c2
      have hne : ¬ q5 = 65535 := c2
      refine lv_aload_n hx hb dX0_giverLoses_16 rfl (lv_at hl 0 rfl) ?_
      refine zcallVi (n := 0) (As := []) (rest := []) (ci := 0) (C := RX0) (T := TX0) (N := 11) Z X (c_X0_safePieces l g bL h q0 q1 q2 q3 q4 q5 q6 q7 q8 q9 q10 ) gX0_giverLoses_X0_safePieces rfl (by decide +kernel) ⟨by show _ ≤ (6 + 2 * n); omega, by show _ ≤ (200 + 50 * n); omega⟩ rfl rfl rfl rfl hl.1 (Nat.le_of_ble_eq_true rfl) dX0_giverLoses_17 ⟨Nat.zero_le _, Nat.zero_le _⟩ (fun r2 ur2 H locs hrr2 X => ?_)
      obtain ⟨rfl, rfl⟩ : ur2 = (q0, q1, q2, q3, q4, q5, q6, q7, q8, q9, q10) ∧ r2 = qSafe q5 q6 q7 q0 := hrr2
      have X : zh g A (oQ h (q0, q1, q2, q3, q4, q5, q6, q7, q8, q9, q10)) s.heap H locs := X
      refine lv_istore_n (lv' := [(2, .int (qSafe q5 q6 q7 q0)), (0, .ref h), (1, .int (nI n))]) hx hb dX0_giverLoses_20 rfl hl (by decide) rfl (fun ls hl => ?_)
      refine lv_iconst (v := (0 : Int32)) hx hb dX0_giverLoses_21 (by decide) ?_
      refine lv_istore_n (lv' := [(3, .int (0 : Int32)), (2, .int (qSafe q5 q6 q7 q0)), (0, .ref h), (1, .int (nI n))]) hx hb dX0_giverLoses_22 rfl hl (by decide) rfl (fun ls hl => ?_)
      have cut23 : ∀ (n23 : Nat), ∀ (k : Nat), (k ≤ 16) → (allN (qGlF q0 n q5 q6 q7) k = true) → (17 - k ≤ n23) → ∀ (H : Heap) (locs : List Loc) (ls : Array Slot), zh g A (oQ h (q0, q1, q2, q3, q4, q5, q6, q7, q8, q9, q10)) s.heap H locs → lv_has ls 4 [(3, .int (nI k)), (2, .int (qSafe q5 q6 q7 q0)), (0, .ref h), (1, .int (nI n))] → W p l e { frames := (6 + 2 * n), cells := 0, slots := 0, locals := (200 + 50 * n) } s m ([.ref h, .int (nI n)] : List Value).toArray below meth c H locs 0 0 (MQ below ((zQi g (P_X0_giverLoses q0 q1 q2 q3 q4 q5 q6 q7 q8 q9 q10 n) (oQ h)) A) ([.ref h, .int (nI n)] : List Value).toArray s 0 0 A) (F0 m 23 ls []) := by
        intro n23
        induction n23 with
        | zero =>
          intro k hk hall hm23
          exact absurd hm23 (by omega)
        | succ n23 ih23 =>
          intro k hk hall hm23 H locs ls X hl
          refine lv_iload_n hx hb dX0_giverLoses_23 rfl (lv_at hl 0 rfl) ?_
          refine lv_bipush (v := (16 : Int32)) hx hb dX0_giverLoses_24 (by decide) ?_
          refine lv_icmp_ge (tgt := 54) hx hb dX0_giverLoses_26 (by decide) (fun c4 => ?_) (fun c4 => ?_)
          · have qc4 := c4
            have c4n : 16 ≤ k := zn_let (by omega) (by omega) c4
            refine lv_iconst (v := (1 : Int32)) hx hb dX0_giverLoses_54 (by decide) ?_
            exact zreti Z hr hlk (q0, q1, q2, q3, q4, q5, q6, q7, q8, q9, q10) X dX0_giverLoses_55 rfl (⟨rfl, (zb_t (qGl_b (by omega) hne (by rw [show (16 : Nat) = k by omega]; exact hall))).symm⟩)
          · have qc4 := c4
            have c4n : ¬ 16 ≤ k := zn_len (by omega) (by omega) c4
            refine lv_iload_n hx hb dX0_giverLoses_29 rfl (lv_at hl 1 rfl) ?_
            refine lv_iload_n hx hb dX0_giverLoses_30 rfl (lv_at hl 0 rfl) ?_
            refine zcallSi (n := 2) (As := [.int (qSafe q5 q6 q7 q0), .int (nI k)]) (rest := []) Z X (c_X0_has l g (qSafe q5 q6 q7 q0) (nI k)) gX0_giverLoses_X0_has rfl (by decide +kernel) ⟨by show _ ≤ (6 + 2 * n); omega, by show _ ≤ (200 + 50 * n); omega⟩ rfl rfl hl.1 (Nat.le_of_ble_eq_true rfl) dX0_giverLoses_31 ⟨Nat.zero_le _, Nat.zero_le _⟩ (fun r4 H locs hrr4 X => ?_)
            obtain rfl : r4 = zb (qHas (qSafe q5 q6 q7 q0) (nI k)) := hrr4
            refine lv_if_eq (tgt := 48) hx hb dX0_giverLoses_34 (by decide) (fun c6 => ?_) (fun c6 => ?_)
            · have qc6 := c6
              have hh : qHas (qSafe q5 q6 q7 q0) (nI k) = false := zb_0.mp c6
              refine lv_iinc (v := nI (k + 1)) (lv' := [(3, .int (nI (k + 1))), (2, .int (qSafe q5 q6 q7 q0)), (0, .ref h), (1, .int (nI n))]) hx hb dX0_giverLoses_48 hl (k := 0) rfl (zi_inc k) (by decide) rfl (fun ls hl => ?_)
              refine lv_goto (tgt := 23) hx hb dX0_giverLoses_51 (by decide) ?_
              exact ih23 (k + 1) (by first | assumption | omega) (by first | exact allN_s hall (by unfold qGlF; rw [hh]; rfl) | exact allN_s hall (by unfold qGlF; rw [hq, Bool.or_true])) (by omega) H locs ls X (lv_sub hl [0, 1, 2, 3] rfl)
            · have qc6 := c6
              have hh : qHas (qSafe q5 q6 q7 q0) (nI k) = true := zb_n0.mp c6
              refine lv_aload_n hx hb dX0_giverLoses_37 rfl (lv_at hl 2 rfl) ?_
              refine lv_iload_n hx hb dX0_giverLoses_38 rfl (lv_at hl 0 rfl) ?_
              refine lv_iload_n hx hb dX0_giverLoses_39 rfl (lv_at hl 3 rfl) ?_
              refine zcallVi (n := 2) (As := [.int (nI k), .int (nI n)]) (rest := []) (ci := 0) (C := RX0) (T := TX0) (N := 11) Z X (hPW q0 q1 q2 q3 q4 q5 q6 q7 q8 q9 q10 k (by omega) (qSafe_used (by omega) hh) hinv) gX0_giverLoses_X0_placerWinsLater rfl (by decide +kernel) ⟨by show _ ≤ (6 + 2 * n); omega, by show _ ≤ (200 + 50 * n); omega⟩ rfl rfl rfl rfl hl.1 (Nat.le_of_ble_eq_true rfl) dX0_giverLoses_40 ⟨Nat.zero_le _, Nat.zero_le _⟩ (fun r6 ur6 H locs hrr6 X => ?_)
              obtain ⟨rfl, rfl⟩ : ur6 = (q0, q1, q2, q3, q4, q5, q6, q7, q8, q9, q10) ∧ r6 = zb (qPw q0 n q5 q6 q7 k) := hrr6
              have X : zh g A (oQ h (q0, q1, q2, q3, q4, q5, q6, q7, q8, q9, q10)) s.heap H locs := X
              refine lv_if_ne (tgt := 48) hx hb dX0_giverLoses_43 (by decide) (fun c8 => ?_) (fun c8 => ?_)
              · have qc8 := c8
                have hq : qPw q0 n q5 q6 q7 k = true := zb_n0.mp c8
                refine lv_iinc (v := nI (k + 1)) (lv' := [(3, .int (nI (k + 1))), (2, .int (qSafe q5 q6 q7 q0)), (0, .ref h), (1, .int (nI n))]) hx hb dX0_giverLoses_48 hl (k := 0) rfl (zi_inc k) (by decide) rfl (fun ls hl => ?_)
                refine lv_goto (tgt := 23) hx hb dX0_giverLoses_51 (by decide) ?_
                exact ih23 (k + 1) (by first | assumption | omega) (by first | exact allN_s hall (by unfold qGlF; rw [hh]; rfl) | exact allN_s hall (by unfold qGlF; rw [hq, Bool.or_true])) (by omega) H locs ls X (lv_sub hl [0, 1, 2, 3] rfl)
              · have qc8 := c8
                have hq : qPw q0 n q5 q6 q7 k = false := zb_0.mp c8
                refine lv_iconst (v := (0 : Int32)) hx hb dX0_giverLoses_46 (by decide) ?_
                exact zreti Z hr hlk (q0, q1, q2, q3, q4, q5, q6, q7, q8, q9, q10) X dX0_giverLoses_47 rfl (⟨rfl, (zb_f0 (qGl_b (by omega) hne (allN_f (k := k) (by omega) (by unfold qGlF; rw [hh, hq]; rfl)))).symm⟩)
      exact cut23 17 0 (by first | assumption | omega) (rfl) (by omega) H locs ls X (lv_sub hl [0, 1, 2, 3] rfl)
    · have qc2 := c2
      have hne : q5 = 65535 := c2
      refine lv_iconst (v := (0 : Int32)) hx hb dX0_giverLoses_14 (by decide) ?_
      exact zreti Z hr hlk (q0, q1, q2, q3, q4, q5, q6, q7, q8, q9, q10) X dX0_giverLoses_15 rfl (⟨rfl, by first | exact (zb_f0 (qGl_n2 hne)).symm | exact (zb_f0 (qGl_n (by omega))).symm⟩)
theorem inw_X0_placerWinsLater : ∀ w ∈ wsX00, w ∈ wsX0_placerWinsLater := by decide +kernel
theorem lk_X0_placerWinsLater_16 : Cond.fieldLink RX0 16 "Quarterboard" "filled" "I" ∈ wsX0_placerWinsLater := by decide +kernel
set_option maxHeartbeats 4000000 in
set_option maxRecDepth 100000 in
theorem c_X0_placerWinsLater (l : Launch) (g : zG) (bL h : Nat) (q0 q1 q2 q3 q4 q5 q6 : Int32) (q7 : Int64) (q8 q9 : Int32) (q10 : Int64)  (n pp : Nat) (hn : n ≤ 1000) (hpp : pp < 16) (hu : qHas q6 (nI pp) = false) (hinv : qInv q5 q7) (hsub : 3 ≤ n → K_GW l g bL h (n - 1)) : zM l yX0_placerWinsLater wsX0_placerWinsLater (5 + 2 * n) (175 + 50 * n) g [.ref h, .int (nI pp), .int (nI n)] (oQ h (q0, q1, q2, q3, q4, q5, q6, q7, q8, q9, q10)) (zEL bL) (zQi g (P_X0_placerWinsLater q0 q1 q2 q3 q4 q5 q6 q7 q8 q9 q10 n pp) (oQ h)) := by
  refine zstart (cc := cX0_placerWinsLater) (maxL := 5) (ret := (some .boolean)) (own := RX0) rfl (by decide) rfl zStL (Nat.le_of_ble_eq_true rfl) ?_
  intro p e s m below meth c A Z hr hlk H locs X ls hl
  have hx := Z.1.1
  have hb := Z.1.2.1
  have hin : ∀ w ∈ wsX00, w ∈ wsX0_placerWinsLater := inw_X0_placerWinsLater
  have hl : lv_has ls 5 [(0, .ref h), (1, .int (nI pp)), (2, .int (nI n))] := hl
  have X : zh g A (oQ h (q0, q1, q2, q3, q4, q5, q6, q7, q8, q9, q10)) s.heap H locs := X
  refine lv_iload_n hx hb dX0_placerWinsLater_0 rfl (lv_at hl 2 rfl) ?_
  refine lv_iconst (v := (3 : Int32)) hx hb dX0_placerWinsLater_1 (by decide) ?_
  refine lv_icmp_ge (tgt := 7) hx hb dX0_placerWinsLater_2 (by decide) (fun c1 => ?_) (fun c1 => ?_)
  · have qc1 := c1
    have c1n : 3 ≤ n := zn_let (by omega) (by omega) c1
    refine lv_iconst (v := (0 : Int32)) hx hb dX0_placerWinsLater_7 (by decide) ?_
    refine lv_istore_n (lv' := [(3, .int (0 : Int32)), (0, .ref h), (1, .int (nI pp)), (2, .int (nI n))]) hx hb dX0_placerWinsLater_8 rfl hl (by decide) rfl (fun ls hl => ?_)
    have cut9 : ∀ (n9 : Nat), ∀ (k : Nat), (k ≤ 16) → (anyN (qPwF q0 n q5 q6 q7 pp) k = false) → (17 - k ≤ n9) → ∀ (H : Heap) (locs : List Loc) (ls : Array Slot), zh g A (oQ h (q0, q1, q2, q3, q4, q5, q6, q7, q8, q9, q10)) s.heap H locs → lv_has ls 5 [(3, .int (nI k)), (0, .ref h), (1, .int (nI pp)), (2, .int (nI n))] → W p l e { frames := (5 + 2 * n), cells := 0, slots := 0, locals := (175 + 50 * n) } s m ([.ref h, .int (nI pp), .int (nI n)] : List Value).toArray below meth c H locs 0 0 (MQ below ((zQi g (P_X0_placerWinsLater q0 q1 q2 q3 q4 q5 q6 q7 q8 q9 q10 n pp) (oQ h)) A) ([.ref h, .int (nI pp), .int (nI n)] : List Value).toArray s 0 0 A) (F0 m 9 ls []) := by
      intro n9
      induction n9 with
      | zero =>
        intro k hk hall hm9
        exact absurd hm9 (by omega)
      | succ n9 ih9 =>
        intro k hk hall hm9 H locs ls X hl
        refine lv_iload_n hx hb dX0_placerWinsLater_9 rfl (lv_at hl 0 rfl) ?_
        refine lv_bipush (v := (16 : Int32)) hx hb dX0_placerWinsLater_10 (by decide) ?_
        refine lv_icmp_ge (tgt := 60) hx hb dX0_placerWinsLater_12 (by decide) (fun c2 => ?_) (fun c2 => ?_)
        · have qc2 := c2
          have c2n : 16 ≤ k := zn_let (by omega) (by omega) c2
          refine lv_iconst (v := (0 : Int32)) hx hb dX0_placerWinsLater_60 (by decide) ?_
          exact zreti Z hr hlk (q0, q1, q2, q3, q4, q5, q6, q7, q8, q9, q10) X dX0_placerWinsLater_61 rfl (⟨rfl, (zb_f0 (qPw_b (by omega) (by rw [show (16 : Nat) = k by omega]; exact hall))).symm⟩)
        · have qc2 := c2
          have c2n : ¬ 16 ≤ k := zn_len (by omega) (by omega) c2
          refine lv_aload_n hx hb dX0_placerWinsLater_15 rfl (lv_at hl 1 rfl) ?_
          refine zget (fs := [.int q0, .int q1, .int q2, .int q3, .int q4, .int q5, .int q6, .long q7, .int q8, .int q9, .long q10]) (v := .int q5) Z hin X (ci := 0) (C := RX0) (T := TX0) (N := 11) rfl rfl 5 (by decide) lk_X0_placerWinsLater_16 rfl dX0_placerWinsLater_16 ?_
          refine lv_iload_n hx hb dX0_placerWinsLater_19 rfl (lv_at hl 0 rfl) ?_
          refine zcallSi (n := 2) (As := [.int q5, .int (nI k)]) (rest := []) Z X (c_X0_has l g q5 (nI k)) gX0_placerWinsLater_X0_has rfl (by decide +kernel) ⟨by show _ ≤ (5 + 2 * n); omega, by show _ ≤ (175 + 50 * n); omega⟩ rfl rfl hl.1 (Nat.le_of_ble_eq_true rfl) dX0_placerWinsLater_20 ⟨Nat.zero_le _, Nat.zero_le _⟩ (fun r2 H locs hrr2 X => ?_)
          obtain rfl : r2 = zb (qHas q5 (nI k)) := hrr2
          refine lv_if_ne (tgt := 54) hx hb dX0_placerWinsLater_23 (by decide) (fun c4 => ?_) (fun c4 => ?_)
          · have qc4 := c4
            have hf : qHas q5 (nI k) = true := zb_n0.mp c4
            refine lv_iinc (v := nI (k + 1)) (lv' := [(3, .int (nI (k + 1))), (0, .ref h), (1, .int (nI pp)), (2, .int (nI n))]) hx hb dX0_placerWinsLater_54 hl (k := 0) rfl (zi_inc k) (by decide) rfl (fun ls hl => ?_)
            refine lv_goto (tgt := 9) hx hb dX0_placerWinsLater_57 (by decide) ?_
            exact ih9 (k + 1) (by first | assumption | omega) (by first | exact anyN_s hall (by unfold qPwF; rw [hf]; rfl) | exact anyN_s hall (by unfold qPwF; rw [hf, hq]; rfl)) (by omega) H locs ls X (lv_sub hl [0, 1, 2, 3] rfl)
          · have qc4 := c4
            have hf : qHas q5 (nI k) = false := zb_0.mp c4
            refine lv_aload_n hx hb dX0_placerWinsLater_26 rfl (lv_at hl 1 rfl) ?_
            refine lv_iload_n hx hb dX0_placerWinsLater_27 rfl (lv_at hl 2 rfl) ?_
            refine lv_iload_n hx hb dX0_placerWinsLater_28 rfl (lv_at hl 0 rfl) ?_
            refine zcallVv (n := 2) (As := [.int (nI pp), .int (nI k)]) (rest := []) (ci := 0) (C := RX0) (T := TX0) (N := 11) Z X (c_X0_put l g bL h q0 q1 q2 q3 q4 q5 q6 q7 q8 q9 q10 (nI pp) (nI k)) gX0_placerWinsLater_X0_put rfl (by decide +kernel) ⟨by show _ ≤ (5 + 2 * n); omega, by show _ ≤ (175 + 50 * n); omega⟩ rfl rfl rfl rfl hl.1 (Nat.le_of_ble_eq_true rfl) dX0_placerWinsLater_29 ⟨Nat.zero_le _, Nat.zero_le _⟩ (fun ur4 H locs hrr4 X => ?_)
            obtain rfl : ur4 = (q0, q1, q2, q3, q4, (q5 ||| qBit (nI k)), (q6 ||| qBit (nI pp)), (qPutD q7 (nI pp) (nI k)), q8, q9, q10) := hrr4
            have X : zh g A (oQ h (q0, q1, q2, q3, q4, (q5 ||| qBit (nI k)), (q6 ||| qBit (nI pp)), (qPutD q7 (nI pp) (nI k)), q8, q9, q10)) s.heap H locs := X
            refine lv_aload_n hx hb dX0_placerWinsLater_32 rfl (lv_at hl 1 rfl) ?_
            refine lv_iload_n hx hb dX0_placerWinsLater_33 rfl (lv_at hl 3 rfl) ?_
            refine lv_iconst (v := nI 1) hx hb dX0_placerWinsLater_34 (by decide) ?_
            refine lv_isub hx hb dX0_placerWinsLater_35 ?_
            refine zrwi (y := nI (n - 1)) (pk_sub (by omega)) ?_
            refine zcallVi (n := 1) (As := [.int (nI (n - 1))]) (rest := []) (ci := 0) (C := RX0) (T := TX0) (N := 11) Z X (hsub (by omega) q0 q1 q2 q3 q4 (q5 ||| qBit (nI k)) (q6 ||| qBit (nI pp)) (qPutD q7 (nI pp) (nI k)) q8 q9 q10 (qInv_put hinv hpp (by omega))) gX0_placerWinsLater_X0_giverWins rfl (by decide +kernel) ⟨by show _ ≤ (5 + 2 * n); omega, by show _ ≤ (175 + 50 * n); omega⟩ rfl rfl rfl rfl hl.1 (Nat.le_of_ble_eq_true rfl) dX0_placerWinsLater_36 ⟨Nat.zero_le _, Nat.zero_le _⟩ (fun r5 ur5 H locs hrr5 X => ?_)
            obtain ⟨rfl, rfl⟩ : ur5 = (q0, q1, q2, q3, q4, (q5 ||| qBit (nI k)), (q6 ||| qBit (nI pp)), (qPutD q7 (nI pp) (nI k)), q8, q9, q10) ∧ r5 = zb (qGw q0 (n - 1) (q5 ||| qBit (nI k)) (q6 ||| qBit (nI pp)) (qPutD q7 (nI pp) (nI k))) := hrr5
            have X : zh g A (oQ h (q0, q1, q2, q3, q4, (q5 ||| qBit (nI k)), (q6 ||| qBit (nI pp)), (qPutD q7 (nI pp) (nI k)), q8, q9, q10)) s.heap H locs := X
            refine lv_istore (lv' := [(4, .int (zb (qGw q0 (n - 1) (q5 ||| qBit (nI k)) (q6 ||| qBit (nI pp)) (qPutD q7 (nI pp) (nI k))))), (3, .int (nI k)), (0, .ref h), (1, .int (nI pp)), (2, .int (nI n))]) hx hb dX0_placerWinsLater_39 hl (by decide) rfl (fun ls hl => ?_)
            refine lv_aload_n hx hb dX0_placerWinsLater_41 rfl (lv_at hl 2 rfl) ?_
            refine lv_iload_n hx hb dX0_placerWinsLater_42 rfl (lv_at hl 3 rfl) ?_
            refine lv_iload_n hx hb dX0_placerWinsLater_43 rfl (lv_at hl 1 rfl) ?_
            refine zcallVv (n := 2) (As := [.int (nI pp), .int (nI k)]) (rest := []) (ci := 0) (C := RX0) (T := TX0) (N := 11) Z X (c_X0_lift l g bL h q0 q1 q2 q3 q4 (q5 ||| qBit (nI k)) (q6 ||| qBit (nI pp)) (qPutD q7 (nI pp) (nI k)) q8 q9 q10 (nI pp) (nI k)) gX0_placerWinsLater_X0_lift rfl (by decide +kernel) ⟨by show _ ≤ (5 + 2 * n); omega, by show _ ≤ (175 + 50 * n); omega⟩ rfl rfl rfl rfl hl.1 (Nat.le_of_ble_eq_true rfl) dX0_placerWinsLater_44 ⟨Nat.zero_le _, Nat.zero_le _⟩ (fun ur6 H locs hrr6 X => ?_)
            obtain rfl : ur6 = (q0, q1, q2, q3, q4, ((q5 ||| qBit (nI k)) &&& (qBit (nI k) ^^^ (-1 : Int32))), ((q6 ||| qBit (nI pp)) &&& (qBit (nI pp) ^^^ (-1 : Int32))), (qLiftD (qPutD q7 (nI pp) (nI k)) (nI k)), q8, q9, q10) := hrr6
            have X : zh g A (oQ h (q0, q1, q2, q3, q4, ((q5 ||| qBit (nI k)) &&& (qBit (nI k) ^^^ (-1 : Int32))), ((q6 ||| qBit (nI pp)) &&& (qBit (nI pp) ^^^ (-1 : Int32))), (qLiftD (qPutD q7 (nI pp) (nI k)) (nI k)), q8, q9, q10)) s.heap H locs := X
            have X : zh g A (oQ h (q0, q1, q2, q3, q4, q5, q6, q7, q8, q9, q10)) s.heap H locs := by rw [qOrAnd q5 (p := k) (by omega) hf, qOrAnd q6 hpp hu, qLiftPut q7 hpp (by omega) (hinv k (by omega) hf)] at X; exact X
            refine lv_iload hx hb dX0_placerWinsLater_47 (lv_at hl 0 rfl) ?_
            refine lv_if_eq (tgt := 54) hx hb dX0_placerWinsLater_49 (by decide) (fun c8 => ?_) (fun c8 => ?_)
            · have qc8 := c8
              have hq : qGw q0 (n - 1) (q5 ||| qBit (nI k)) (q6 ||| qBit (nI pp)) (qPutD q7 (nI pp) (nI k)) = false := zb_0.mp c8
              refine lv_iinc (v := nI (k + 1)) (lv' := [(3, .int (nI (k + 1))), (4, .int (zb (qGw q0 (n - 1) (q5 ||| qBit (nI k)) (q6 ||| qBit (nI pp)) (qPutD q7 (nI pp) (nI k))))), (0, .ref h), (1, .int (nI pp)), (2, .int (nI n))]) hx hb dX0_placerWinsLater_54 hl (k := 1) rfl (zi_inc k) (by decide) rfl (fun ls hl => ?_)
              refine lv_goto (tgt := 9) hx hb dX0_placerWinsLater_57 (by decide) ?_
              exact ih9 (k + 1) (by first | assumption | omega) (by first | exact anyN_s hall (by unfold qPwF; rw [hf]; rfl) | exact anyN_s hall (by unfold qPwF; rw [hf, hq]; rfl)) (by omega) H locs ls X (lv_sub hl [0, 2, 3, 4] rfl)
            · have qc8 := c8
              have hq : qGw q0 (n - 1) (q5 ||| qBit (nI k)) (q6 ||| qBit (nI pp)) (qPutD q7 (nI pp) (nI k)) = true := zb_n0.mp c8
              refine lv_iconst (v := (1 : Int32)) hx hb dX0_placerWinsLater_52 (by decide) ?_
              exact zreti Z hr hlk (q0, q1, q2, q3, q4, q5, q6, q7, q8, q9, q10) X dX0_placerWinsLater_53 rfl (⟨rfl, (zb_t (qPw_b (by omega) (anyN_t (k := k) (by omega) (by unfold qPwF; rw [hf, hq]; rfl)))).symm⟩)
    exact cut9 17 0 (by first | assumption | omega) (rfl) (by omega) H locs ls X (lv_sub hl [0, 1, 2, 3] rfl)
  · have qc1 := c1
    have c1n : ¬ 3 ≤ n := zn_len (by omega) (by omega) c1
    refine lv_iconst (v := (0 : Int32)) hx hb dX0_placerWinsLater_5 (by decide) ?_
    exact zreti Z hr hlk (q0, q1, q2, q3, q4, q5, q6, q7, q8, q9, q10) X dX0_placerWinsLater_6 rfl (⟨rfl, (zb_f0 (qPw_n (by omega))).symm⟩)
theorem inw_X0_placerLoses : ∀ w ∈ wsX00, w ∈ wsX0_placerLoses := by decide +kernel
theorem lk_X0_placerLoses_16 : Cond.fieldLink RX0 16 "Quarterboard" "filled" "I" ∈ wsX0_placerLoses := by decide +kernel
set_option maxHeartbeats 4000000 in
set_option maxRecDepth 100000 in
theorem c_X0_placerLoses (l : Launch) (g : zG) (bL h : Nat) (q0 q1 q2 q3 q4 q5 q6 : Int32) (q7 : Int64) (q8 q9 : Int32) (q10 : Int64)  (n pp : Nat) (hn : n ≤ 1000) (hpp : pp < 16) (hu : qHas q6 (nI pp) = false) (hinv : qInv q5 q7) (hsub : 2 ≤ n → K_GL l g bL h (n - 1)) : zM l yX0_placerLoses wsX0_placerLoses (5 + 2 * n) (175 + 50 * n) g [.ref h, .int (nI pp), .int (nI n)] (oQ h (q0, q1, q2, q3, q4, q5, q6, q7, q8, q9, q10)) (zEL bL) (zQi g (P_X0_placerLoses q0 q1 q2 q3 q4 q5 q6 q7 q8 q9 q10 n pp) (oQ h)) := by
  refine zstart (cc := cX0_placerLoses) (maxL := 5) (ret := (some .boolean)) (own := RX0) rfl (by decide) rfl zStL (Nat.le_of_ble_eq_true rfl) ?_
  intro p e s m below meth c A Z hr hlk H locs X ls hl
  have hx := Z.1.1
  have hb := Z.1.2.1
  have hin : ∀ w ∈ wsX00, w ∈ wsX0_placerLoses := inw_X0_placerLoses
  have hl : lv_has ls 5 [(0, .ref h), (1, .int (nI pp)), (2, .int (nI n))] := hl
  have X : zh g A (oQ h (q0, q1, q2, q3, q4, q5, q6, q7, q8, q9, q10)) s.heap H locs := X
  refine lv_iload_n hx hb dX0_placerLoses_0 rfl (lv_at hl 2 rfl) ?_
  refine lv_iconst (v := (2 : Int32)) hx hb dX0_placerLoses_1 (by decide) ?_
  refine lv_icmp_ge (tgt := 7) hx hb dX0_placerLoses_2 (by decide) (fun c1 => ?_) (fun c1 => ?_)
  · have qc1 := c1
    have c1n : 2 ≤ n := zn_let (by omega) (by omega) c1
    refine lv_iconst (v := (0 : Int32)) hx hb dX0_placerLoses_7 (by decide) ?_
    refine lv_istore_n (lv' := [(3, .int (0 : Int32)), (0, .ref h), (1, .int (nI pp)), (2, .int (nI n))]) hx hb dX0_placerLoses_8 rfl hl (by decide) rfl (fun ls hl => ?_)
    have cut9 : ∀ (n9 : Nat), ∀ (k : Nat), (k ≤ 16) → (allN (qPlF q0 n q5 q6 q7 pp) k = true) → (17 - k ≤ n9) → ∀ (H : Heap) (locs : List Loc) (ls : Array Slot), zh g A (oQ h (q0, q1, q2, q3, q4, q5, q6, q7, q8, q9, q10)) s.heap H locs → lv_has ls 5 [(3, .int (nI k)), (0, .ref h), (1, .int (nI pp)), (2, .int (nI n))] → W p l e { frames := (5 + 2 * n), cells := 0, slots := 0, locals := (175 + 50 * n) } s m ([.ref h, .int (nI pp), .int (nI n)] : List Value).toArray below meth c H locs 0 0 (MQ below ((zQi g (P_X0_placerLoses q0 q1 q2 q3 q4 q5 q6 q7 q8 q9 q10 n pp) (oQ h)) A) ([.ref h, .int (nI pp), .int (nI n)] : List Value).toArray s 0 0 A) (F0 m 9 ls []) := by
      intro n9
      induction n9 with
      | zero =>
        intro k hk hall hm9
        exact absurd hm9 (by omega)
      | succ n9 ih9 =>
        intro k hk hall hm9 H locs ls X hl
        refine lv_iload_n hx hb dX0_placerLoses_9 rfl (lv_at hl 0 rfl) ?_
        refine lv_bipush (v := (16 : Int32)) hx hb dX0_placerLoses_10 (by decide) ?_
        refine lv_icmp_ge (tgt := 60) hx hb dX0_placerLoses_12 (by decide) (fun c2 => ?_) (fun c2 => ?_)
        · have qc2 := c2
          have c2n : 16 ≤ k := zn_let (by omega) (by omega) c2
          refine lv_iconst (v := (1 : Int32)) hx hb dX0_placerLoses_60 (by decide) ?_
          exact zreti Z hr hlk (q0, q1, q2, q3, q4, q5, q6, q7, q8, q9, q10) X dX0_placerLoses_61 rfl (⟨rfl, (zb_t (qPl_b (by omega) (by rw [show (16 : Nat) = k by omega]; exact hall))).symm⟩)
        · have qc2 := c2
          have c2n : ¬ 16 ≤ k := zn_len (by omega) (by omega) c2
          refine lv_aload_n hx hb dX0_placerLoses_15 rfl (lv_at hl 1 rfl) ?_
          refine zget (fs := [.int q0, .int q1, .int q2, .int q3, .int q4, .int q5, .int q6, .long q7, .int q8, .int q9, .long q10]) (v := .int q5) Z hin X (ci := 0) (C := RX0) (T := TX0) (N := 11) rfl rfl 5 (by decide) lk_X0_placerLoses_16 rfl dX0_placerLoses_16 ?_
          refine lv_iload_n hx hb dX0_placerLoses_19 rfl (lv_at hl 0 rfl) ?_
          refine zcallSi (n := 2) (As := [.int q5, .int (nI k)]) (rest := []) Z X (c_X0_has l g q5 (nI k)) gX0_placerLoses_X0_has rfl (by decide +kernel) ⟨by show _ ≤ (5 + 2 * n); omega, by show _ ≤ (175 + 50 * n); omega⟩ rfl rfl hl.1 (Nat.le_of_ble_eq_true rfl) dX0_placerLoses_20 ⟨Nat.zero_le _, Nat.zero_le _⟩ (fun r2 H locs hrr2 X => ?_)
          obtain rfl : r2 = zb (qHas q5 (nI k)) := hrr2
          refine lv_if_ne (tgt := 54) hx hb dX0_placerLoses_23 (by decide) (fun c4 => ?_) (fun c4 => ?_)
          · have qc4 := c4
            have hf : qHas q5 (nI k) = true := zb_n0.mp c4
            refine lv_iinc (v := nI (k + 1)) (lv' := [(3, .int (nI (k + 1))), (0, .ref h), (1, .int (nI pp)), (2, .int (nI n))]) hx hb dX0_placerLoses_54 hl (k := 0) rfl (zi_inc k) (by decide) rfl (fun ls hl => ?_)
            refine lv_goto (tgt := 9) hx hb dX0_placerLoses_57 (by decide) ?_
            exact ih9 (k + 1) (by first | assumption | omega) (by first | exact allN_s hall (by unfold qPlF; rw [hf]; rfl) | exact allN_s hall (by unfold qPlF; rw [hf, hq]; rfl)) (by omega) H locs ls X (lv_sub hl [0, 1, 2, 3] rfl)
          · have qc4 := c4
            have hf : qHas q5 (nI k) = false := zb_0.mp c4
            refine lv_aload_n hx hb dX0_placerLoses_26 rfl (lv_at hl 1 rfl) ?_
            refine lv_iload_n hx hb dX0_placerLoses_27 rfl (lv_at hl 2 rfl) ?_
            refine lv_iload_n hx hb dX0_placerLoses_28 rfl (lv_at hl 0 rfl) ?_
            refine zcallVv (n := 2) (As := [.int (nI pp), .int (nI k)]) (rest := []) (ci := 0) (C := RX0) (T := TX0) (N := 11) Z X (c_X0_put l g bL h q0 q1 q2 q3 q4 q5 q6 q7 q8 q9 q10 (nI pp) (nI k)) gX0_placerLoses_X0_put rfl (by decide +kernel) ⟨by show _ ≤ (5 + 2 * n); omega, by show _ ≤ (175 + 50 * n); omega⟩ rfl rfl rfl rfl hl.1 (Nat.le_of_ble_eq_true rfl) dX0_placerLoses_29 ⟨Nat.zero_le _, Nat.zero_le _⟩ (fun ur4 H locs hrr4 X => ?_)
            obtain rfl : ur4 = (q0, q1, q2, q3, q4, (q5 ||| qBit (nI k)), (q6 ||| qBit (nI pp)), (qPutD q7 (nI pp) (nI k)), q8, q9, q10) := hrr4
            have X : zh g A (oQ h (q0, q1, q2, q3, q4, (q5 ||| qBit (nI k)), (q6 ||| qBit (nI pp)), (qPutD q7 (nI pp) (nI k)), q8, q9, q10)) s.heap H locs := X
            refine lv_aload_n hx hb dX0_placerLoses_32 rfl (lv_at hl 1 rfl) ?_
            refine lv_iload_n hx hb dX0_placerLoses_33 rfl (lv_at hl 3 rfl) ?_
            refine lv_iconst (v := nI 1) hx hb dX0_placerLoses_34 (by decide) ?_
            refine lv_isub hx hb dX0_placerLoses_35 ?_
            refine zrwi (y := nI (n - 1)) (pk_sub (by omega)) ?_
            refine zcallVi (n := 1) (As := [.int (nI (n - 1))]) (rest := []) (ci := 0) (C := RX0) (T := TX0) (N := 11) Z X (hsub (by omega) q0 q1 q2 q3 q4 (q5 ||| qBit (nI k)) (q6 ||| qBit (nI pp)) (qPutD q7 (nI pp) (nI k)) q8 q9 q10 (qInv_put hinv hpp (by omega))) gX0_placerLoses_X0_giverLoses rfl (by decide +kernel) ⟨by show _ ≤ (5 + 2 * n); omega, by show _ ≤ (175 + 50 * n); omega⟩ rfl rfl rfl rfl hl.1 (Nat.le_of_ble_eq_true rfl) dX0_placerLoses_36 ⟨Nat.zero_le _, Nat.zero_le _⟩ (fun r5 ur5 H locs hrr5 X => ?_)
            obtain ⟨rfl, rfl⟩ : ur5 = (q0, q1, q2, q3, q4, (q5 ||| qBit (nI k)), (q6 ||| qBit (nI pp)), (qPutD q7 (nI pp) (nI k)), q8, q9, q10) ∧ r5 = zb (qGl q0 (n - 1) (q5 ||| qBit (nI k)) (q6 ||| qBit (nI pp)) (qPutD q7 (nI pp) (nI k))) := hrr5
            have X : zh g A (oQ h (q0, q1, q2, q3, q4, (q5 ||| qBit (nI k)), (q6 ||| qBit (nI pp)), (qPutD q7 (nI pp) (nI k)), q8, q9, q10)) s.heap H locs := X
            refine lv_istore (lv' := [(4, .int (zb (qGl q0 (n - 1) (q5 ||| qBit (nI k)) (q6 ||| qBit (nI pp)) (qPutD q7 (nI pp) (nI k))))), (3, .int (nI k)), (0, .ref h), (1, .int (nI pp)), (2, .int (nI n))]) hx hb dX0_placerLoses_39 hl (by decide) rfl (fun ls hl => ?_)
            refine lv_aload_n hx hb dX0_placerLoses_41 rfl (lv_at hl 2 rfl) ?_
            refine lv_iload_n hx hb dX0_placerLoses_42 rfl (lv_at hl 3 rfl) ?_
            refine lv_iload_n hx hb dX0_placerLoses_43 rfl (lv_at hl 1 rfl) ?_
            refine zcallVv (n := 2) (As := [.int (nI pp), .int (nI k)]) (rest := []) (ci := 0) (C := RX0) (T := TX0) (N := 11) Z X (c_X0_lift l g bL h q0 q1 q2 q3 q4 (q5 ||| qBit (nI k)) (q6 ||| qBit (nI pp)) (qPutD q7 (nI pp) (nI k)) q8 q9 q10 (nI pp) (nI k)) gX0_placerLoses_X0_lift rfl (by decide +kernel) ⟨by show _ ≤ (5 + 2 * n); omega, by show _ ≤ (175 + 50 * n); omega⟩ rfl rfl rfl rfl hl.1 (Nat.le_of_ble_eq_true rfl) dX0_placerLoses_44 ⟨Nat.zero_le _, Nat.zero_le _⟩ (fun ur6 H locs hrr6 X => ?_)
            obtain rfl : ur6 = (q0, q1, q2, q3, q4, ((q5 ||| qBit (nI k)) &&& (qBit (nI k) ^^^ (-1 : Int32))), ((q6 ||| qBit (nI pp)) &&& (qBit (nI pp) ^^^ (-1 : Int32))), (qLiftD (qPutD q7 (nI pp) (nI k)) (nI k)), q8, q9, q10) := hrr6
            have X : zh g A (oQ h (q0, q1, q2, q3, q4, ((q5 ||| qBit (nI k)) &&& (qBit (nI k) ^^^ (-1 : Int32))), ((q6 ||| qBit (nI pp)) &&& (qBit (nI pp) ^^^ (-1 : Int32))), (qLiftD (qPutD q7 (nI pp) (nI k)) (nI k)), q8, q9, q10)) s.heap H locs := X
            have X : zh g A (oQ h (q0, q1, q2, q3, q4, q5, q6, q7, q8, q9, q10)) s.heap H locs := by rw [qOrAnd q5 (p := k) (by omega) hf, qOrAnd q6 hpp hu, qLiftPut q7 hpp (by omega) (hinv k (by omega) hf)] at X; exact X
            refine lv_iload hx hb dX0_placerLoses_47 (lv_at hl 0 rfl) ?_
            refine lv_if_ne (tgt := 54) hx hb dX0_placerLoses_49 (by decide) (fun c8 => ?_) (fun c8 => ?_)
            · have qc8 := c8
              have hq : qGl q0 (n - 1) (q5 ||| qBit (nI k)) (q6 ||| qBit (nI pp)) (qPutD q7 (nI pp) (nI k)) = true := zb_n0.mp c8
              refine lv_iinc (v := nI (k + 1)) (lv' := [(3, .int (nI (k + 1))), (4, .int (zb (qGl q0 (n - 1) (q5 ||| qBit (nI k)) (q6 ||| qBit (nI pp)) (qPutD q7 (nI pp) (nI k))))), (0, .ref h), (1, .int (nI pp)), (2, .int (nI n))]) hx hb dX0_placerLoses_54 hl (k := 1) rfl (zi_inc k) (by decide) rfl (fun ls hl => ?_)
              refine lv_goto (tgt := 9) hx hb dX0_placerLoses_57 (by decide) ?_
              exact ih9 (k + 1) (by first | assumption | omega) (by first | exact allN_s hall (by unfold qPlF; rw [hf]; rfl) | exact allN_s hall (by unfold qPlF; rw [hf, hq]; rfl)) (by omega) H locs ls X (lv_sub hl [0, 2, 3, 4] rfl)
            · have qc8 := c8
              have hq : qGl q0 (n - 1) (q5 ||| qBit (nI k)) (q6 ||| qBit (nI pp)) (qPutD q7 (nI pp) (nI k)) = false := zb_0.mp c8
              refine lv_iconst (v := (0 : Int32)) hx hb dX0_placerLoses_52 (by decide) ?_
              exact zreti Z hr hlk (q0, q1, q2, q3, q4, q5, q6, q7, q8, q9, q10) X dX0_placerLoses_53 rfl (⟨rfl, (zb_f0 (qPl_b (by omega) (allN_f (k := k) (by omega) (by unfold qPlF; rw [hf, hq]; rfl)))).symm⟩)
    exact cut9 17 0 (by first | assumption | omega) (rfl) (by omega) H locs ls X (lv_sub hl [0, 1, 2, 3] rfl)
  · have qc1 := c1
    have c1n : ¬ 2 ≤ n := zn_len (by omega) (by omega) c1
    refine lv_iconst (v := (0 : Int32)) hx hb dX0_placerLoses_5 (by decide) ?_
    exact zreti Z hr hlk (q0, q1, q2, q3, q4, q5, q6, q7, q8, q9, q10) X dX0_placerLoses_6 rfl (⟨rfl, (zb_f0 (qPl_n (by omega))).symm⟩)
