/-! the law looks at the board, and at what wins -/
def P_L_isBoard (q0 q1 q2 q3 q4 q5 q6 : Int32) (q7 : Int64) (q8 q9 : Int32) (q10 : Int64) (P G : Nat → Int32) : Int32 → LSt → Prop := fun r u => u = ((q0, q1, q2, q3, q4, q5, q6, q7, q8, q9, q10), P, G) ∧ r = 1
set_option maxHeartbeats 1000000 in
set_option maxRecDepth 100000 in
theorem c_L_isBoard (l : Launch) (g : zG) (bL h a b : Nat) (q0 q1 q2 q3 q4 q5 q6 : Int32) (q7 : Int64) (q8 q9 : Int32) (q10 : Int64) (P G : Nat → Int32)  (htr : l.stackTraces = false) (pn : Nat) (O : Nat → Int32) (hR : RG q0 q1 q2 q3 q4 q5 q6 q7 P G pn O) : zMk l yL_isBoard wsL_isBoard 34 1400 60 360 g [.ref h, .ref a, .ref b] (oL g h a b ((q0, q1, q2, q3, q4, q5, q6, q7, q8, q9, q10), P, G)) (zEL bL) (zQi g (P_L_isBoard q0 q1 q2 q3 q4 q5 q6 q7 q8 q9 q10 P G) (oL g h a b)) := by
  refine zstartk (cc := cL_isBoard) (maxL := 5) (ret := (some .boolean)) (own := RL) rfl (by decide) rfl zStL (Nat.le_of_ble_eq_true rfl) ?_
  intro p e s m below meth c A Z hr hlk _hname H locs X ls hl
  have hx := Z.1.1
  have hb := Z.1.2.1
  have hl : lv_has ls 5 [(0, .ref h), (1, .ref a), (2, .ref b)] := hl
  have X : zh g A (oL g h a b ((q0, q1, q2, q3, q4, q5, q6, q7, q8, q9, q10), P, G)) s.heap H locs := X
  obtain ⟨⟨hG0, hG1, hG2, hG3, hG4, hG5⟩, hph, hot, hrb, hone, hgo, hov⟩ := hR
  have hok : okP P := hrb.1.1
  have hqn := qLn_le q0
  have hpl := RB_le hrb
  refine lv_aload_n hx hb dL_isBoard_0 rfl (lv_at hl 0 rfl) ?_
  refine zsubVi (n := 0) (As := []) (rest := []) (wc := oQ h (q0, q1, q2, q3, q4, q5, q6, q7, q8, q9, q10)) (wr := oB g a P ++ oG g b G) (ci := 0) (C := RX0) (T := TX0) (N := 11) [0] [1, 2] rfl rfl rfl rfl (by decide) Z X zStL (fun _ _ h => h) (c_X0_lines l g bL h q0 q1 q2 q3 q4 q5 q6 q7 q8 q9 q10) gL_isBoard_X0_lines rfl (by decide +kernel) ⟨Nat.le_of_ble_eq_true rfl, Nat.le_of_ble_eq_true rfl⟩ rfl rfl rfl rfl hl.1 (Nat.le_of_ble_eq_true rfl) dL_isBoard_1 ⟨by simp only []; omega, by simp only []; omega⟩ (fun r1 ur1 H locs hr1 X => ?_)
  obtain ⟨hur1, hr1⟩ := hr1
  rw [hur1] at X
  have X : zh g A (oL g h a b ((q0, q1, q2, q3, q4, q5, q6, q7, q8, q9, q10), P, G)) s.heap H locs := zhsub X [2, 0, 1] rfl rfl
  refine zrwi (y := nI (qLn q0)) hr1 ?_
  refine lv_aload_n hx hb dL_isBoard_4 rfl (lv_at hl 2 rfl) ?_
  refine lv_iconst (v := (0 : Int32)) hx hb dL_isBoard_5 (by decide) ?_
  refine zald (q0 := 2) (n := 6) (f := G) Z X rfl rfl 0 (by decide) (by decide) (by decide) dL_isBoard_6 ?_
  refine zrwi (y := nI (qLn q0)) hG0 ?_
  refine lv_icmp_ne (tgt := 64) hx hb dL_isBoard_7 (by decide) (fun c2 => ?_) (fun c2 => ?_)
  · exact absurd rfl c2
  · have qc2 := c2
    refine lv_aload_n hx hb dL_isBoard_10 rfl (lv_at hl 0 rfl) ?_
    refine zsubVi (n := 0) (As := []) (rest := []) (wc := oQ h (q0, q1, q2, q3, q4, q5, q6, q7, q8, q9, q10)) (wr := oB g a P ++ oG g b G) (ci := 0) (C := RX0) (T := TX0) (N := 11) [0] [1, 2] rfl rfl rfl rfl (by decide) Z X zStL (fun _ _ h => h) (c_X0_phase l g bL h q0 q1 q2 q3 q4 q5 q6 q7 q8 q9 q10) gL_isBoard_X0_phase rfl (by decide +kernel) ⟨Nat.le_of_ble_eq_true rfl, Nat.le_of_ble_eq_true rfl⟩ rfl rfl rfl rfl hl.1 (Nat.le_of_ble_eq_true rfl) dL_isBoard_11 ⟨by simp only []; omega, by simp only []; omega⟩ (fun r3 ur3 H locs hr3 X => ?_)
    obtain ⟨hur3, hr3⟩ := hr3
    rw [hur3] at X
    have X : zh g A (oL g h a b ((q0, q1, q2, q3, q4, q5, q6, q7, q8, q9, q10), P, G)) s.heap H locs := zhsub X [2, 0, 1] rfl rfl
    refine zrwi (y := q1) hr3 ?_
    refine lv_aload_n hx hb dL_isBoard_14 rfl (lv_at hl 2 rfl) ?_
    refine lv_iconst (v := (1 : Int32)) hx hb dL_isBoard_15 (by decide) ?_
    refine zald (q0 := 2) (n := 6) (f := G) Z X rfl rfl 1 (by decide) (by decide) (by decide) dL_isBoard_16 ?_
    refine zrwi (y := q1) hG1 ?_
    refine lv_icmp_ne (tgt := 64) hx hb dL_isBoard_17 (by decide) (fun c4 => ?_) (fun c4 => ?_)
    · exact absurd rfl c4
    · have qc4 := c4
      refine lv_aload_n hx hb dL_isBoard_20 rfl (lv_at hl 0 rfl) ?_
      refine zsubVi (n := 0) (As := []) (rest := []) (wc := oQ h (q0, q1, q2, q3, q4, q5, q6, q7, q8, q9, q10)) (wr := oB g a P ++ oG g b G) (ci := 0) (C := RX0) (T := TX0) (N := 11) [0] [1, 2] rfl rfl rfl rfl (by decide) Z X zStL (fun _ _ h => h) (c_X0_onTurn l g bL h q0 q1 q2 q3 q4 q5 q6 q7 q8 q9 q10) gL_isBoard_X0_onTurn rfl (by decide +kernel) ⟨Nat.le_of_ble_eq_true rfl, Nat.le_of_ble_eq_true rfl⟩ rfl rfl rfl rfl hl.1 (Nat.le_of_ble_eq_true rfl) dL_isBoard_21 ⟨by simp only []; omega, by simp only []; omega⟩ (fun r5 ur5 H locs hr5 X => ?_)
      obtain ⟨hur5, hr5⟩ := hr5
      rw [hur5] at X
      have X : zh g A (oL g h a b ((q0, q1, q2, q3, q4, q5, q6, q7, q8, q9, q10), P, G)) s.heap H locs := zhsub X [2, 0, 1] rfl rfl
      refine zrwi (y := q2) hr5 ?_
      refine lv_aload_n hx hb dL_isBoard_24 rfl (lv_at hl 2 rfl) ?_
      refine lv_iconst (v := (2 : Int32)) hx hb dL_isBoard_25 (by decide) ?_
      refine zald (q0 := 2) (n := 6) (f := G) Z X rfl rfl 2 (by decide) (by decide) (by decide) dL_isBoard_26 ?_
      refine zrwi (y := q2) hG2 ?_
      refine lv_icmp_ne (tgt := 64) hx hb dL_isBoard_27 (by decide) (fun c6 => ?_) (fun c6 => ?_)
      · exact absurd rfl c6
      · have qc6 := c6
        refine lv_aload_n hx hb dL_isBoard_30 rfl (lv_at hl 0 rfl) ?_
        refine zsubVi (n := 0) (As := []) (rest := []) (wc := oQ h (q0, q1, q2, q3, q4, q5, q6, q7, q8, q9, q10)) (wr := oB g a P ++ oG g b G) (ci := 0) (C := RX0) (T := TX0) (N := 11) [0] [1, 2] rfl rfl rfl rfl (by decide) Z X zStL (fun _ _ h => h) (c_X0_hand l g bL h q0 q1 q2 q3 q4 q5 q6 q7 q8 q9 q10) gL_isBoard_X0_hand rfl (by decide +kernel) ⟨Nat.le_of_ble_eq_true rfl, Nat.le_of_ble_eq_true rfl⟩ rfl rfl rfl rfl hl.1 (Nat.le_of_ble_eq_true rfl) dL_isBoard_31 ⟨by simp only []; omega, by simp only []; omega⟩ (fun r7 ur7 H locs hr7 X => ?_)
        obtain ⟨hur7, hr7⟩ := hr7
        rw [hur7] at X
        have X : zh g A (oL g h a b ((q0, q1, q2, q3, q4, q5, q6, q7, q8, q9, q10), P, G)) s.heap H locs := zhsub X [2, 0, 1] rfl rfl
        refine zrwi (y := q3) hr7 ?_
        refine lv_aload_n hx hb dL_isBoard_34 rfl (lv_at hl 2 rfl) ?_
        refine lv_iconst (v := (3 : Int32)) hx hb dL_isBoard_35 (by decide) ?_
        refine zald (q0 := 2) (n := 6) (f := G) Z X rfl rfl 3 (by decide) (by decide) (by decide) dL_isBoard_36 ?_
        refine zrwi (y := q3) hG3 ?_
        refine lv_icmp_ne (tgt := 64) hx hb dL_isBoard_37 (by decide) (fun c8 => ?_) (fun c8 => ?_)
        · exact absurd rfl c8
        · have qc8 := c8
          refine lv_aload_n hx hb dL_isBoard_40 rfl (lv_at hl 0 rfl) ?_
          refine zsubVi (n := 0) (As := []) (rest := []) (wc := oQ h (q0, q1, q2, q3, q4, q5, q6, q7, q8, q9, q10)) (wr := oB g a P ++ oG g b G) (ci := 0) (C := RX0) (T := TX0) (N := 11) [0] [1, 2] rfl rfl rfl rfl (by decide) Z X zStL (fun _ _ h => h) (c_X0_placed l g bL h q0 q1 q2 q3 q4 q5 q6 q7 q8 q9 q10) gL_isBoard_X0_placed rfl (by decide +kernel) ⟨Nat.le_of_ble_eq_true rfl, Nat.le_of_ble_eq_true rfl⟩ rfl rfl rfl rfl hl.1 (Nat.le_of_ble_eq_true rfl) dL_isBoard_41 ⟨by simp only []; omega, by simp only []; omega⟩ (fun r9 ur9 H locs hr9 X => ?_)
          obtain ⟨hur9, hr9⟩ := hr9
          rw [hur9] at X
          have X : zh g A (oL g h a b ((q0, q1, q2, q3, q4, q5, q6, q7, q8, q9, q10), P, G)) s.heap H locs := zhsub X [2, 0, 1] rfl rfl
          refine zrwi (y := qBc q5) hr9 ?_
          refine zrwi (y := nI pn) (RB_bc hrb) ?_
          refine lv_aload_n hx hb dL_isBoard_44 rfl (lv_at hl 2 rfl) ?_
          refine lv_iconst (v := (4 : Int32)) hx hb dL_isBoard_45 (by decide) ?_
          refine zald (q0 := 2) (n := 6) (f := G) Z X rfl rfl 4 (by decide) (by decide) (by decide) dL_isBoard_46 ?_
          refine zrwi (y := nI pn) hG4 ?_
          refine lv_icmp_ne (tgt := 64) hx hb dL_isBoard_47 (by decide) (fun c10 => ?_) (fun c10 => ?_)
          · exact absurd rfl c10
          · have qc10 := c10
            refine lv_aload_n hx hb dL_isBoard_50 rfl (lv_at hl 0 rfl) ?_
            refine zsubVi (n := 0) (As := []) (rest := []) (wc := oQ h (q0, q1, q2, q3, q4, q5, q6, q7, q8, q9, q10)) (wr := oB g a P ++ oG g b G) (ci := 0) (C := RX0) (T := TX0) (N := 11) [0] [1, 2] rfl rfl rfl rfl (by decide) Z X zStL (fun _ _ h => h) (c_X0_winner l g bL h q0 q1 q2 q3 q4 q5 q6 q7 q8 q9 q10) gL_isBoard_X0_winner rfl (by decide +kernel) ⟨Nat.le_of_ble_eq_true rfl, Nat.le_of_ble_eq_true rfl⟩ rfl rfl rfl rfl hl.1 (Nat.le_of_ble_eq_true rfl) dL_isBoard_51 ⟨by simp only []; omega, by simp only []; omega⟩ (fun r11 ur11 H locs hr11 X => ?_)
            obtain ⟨hur11, hr11⟩ := hr11
            rw [hur11] at X
            have X : zh g A (oL g h a b ((q0, q1, q2, q3, q4, q5, q6, q7, q8, q9, q10), P, G)) s.heap H locs := zhsub X [2, 0, 1] rfl rfl
            refine zrwi (y := q4) hr11 ?_
            refine lv_aload_n hx hb dL_isBoard_54 rfl (lv_at hl 2 rfl) ?_
            refine lv_iconst (v := (5 : Int32)) hx hb dL_isBoard_55 (by decide) ?_
            refine zald (q0 := 2) (n := 6) (f := G) Z X rfl rfl 5 (by decide) (by decide) (by decide) dL_isBoard_56 ?_
            refine zrwi (y := q4) hG5 ?_
            refine lv_icmp_ne (tgt := 64) hx hb dL_isBoard_57 (by decide) (fun c12 => ?_) (fun c12 => ?_)
            · exact absurd rfl c12
            · have qc12 := c12
              refine lv_iconst (v := (1 : Int32)) hx hb dL_isBoard_60 (by decide) ?_
              refine lv_goto (tgt := 65) hx hb dL_isBoard_61 (by decide) ?_
              refine lv_istore_n (lv' := [(3, .int (1 : Int32)), (0, .ref h), (1, .ref a), (2, .ref b)]) hx hb dL_isBoard_65 rfl hl (by decide) rfl (fun ls hl => ?_)
              refine lv_iconst (v := (0 : Int32)) hx hb dL_isBoard_66 (by decide) ?_
              refine lv_istore (lv' := [(4, .int (0 : Int32)), (3, .int (1 : Int32)), (0, .ref h), (1, .ref a), (2, .ref b)]) hx hb dL_isBoard_67 hl (by decide) rfl (fun ls hl => ?_)
              have cut69 : ∀ (n69 : Nat), ∀ (k : Nat), (k ≤ 16) → (17 - k ≤ n69) → ∀ (H : Heap) (locs : List Loc) (ls : Array Slot), zh g A (oL g h a b ((q0, q1, q2, q3, q4, q5, q6, q7, q8, q9, q10), P, G)) s.heap H locs → lv_has ls 5 [(4, .int (nI k)), (3, .int (1 : Int32)), (0, .ref h), (1, .ref a), (2, .ref b)] → W p l e { frames := 34, cells := 60, slots := 360, locals := 1400 } s m ([.ref h, .ref a, .ref b] : List Value).toArray below meth c H locs (0 + k) (0 + 6 * k) (MQ below ((zQi g (P_L_isBoard q0 q1 q2 q3 q4 q5 q6 q7 q8 q9 q10 P G) (oL g h a b)) A) ([.ref h, .ref a, .ref b] : List Value).toArray s 60 360 A) (F0 m 69 ls []) := by
                intro n69
                induction n69 with
                | zero =>
                  intro k hk hn69 H locs ls X hl
                  exfalso; omega
                | succ n69 ih69 =>
                  intro k hk hn69 H locs ls X hl
                  refine lv_iload hx hb dL_isBoard_69 (lv_at hl 0 rfl) ?_
                  refine lv_bipush (v := (16 : Int32)) hx hb dL_isBoard_71 (by decide) ?_
                  refine lv_icmp_ge (tgt := 105) hx hb dL_isBoard_73 (by decide) (fun c13 => ?_) (fun c13 => ?_)
                  · have qc13 := c13
                    have c13n : 16 ≤ k := zn_let (by omega) (by omega) c13
                    refine lv_iconst (v := (0 : Int32)) hx hb dL_isBoard_105 (by decide) ?_
                    refine lv_istore (lv' := [(4, .int (0 : Int32)), (3, .int (1 : Int32)), (0, .ref h), (1, .ref a), (2, .ref b)]) hx hb dL_isBoard_106 hl (by decide) rfl (fun ls hl => ?_)
                    have cut108 : ∀ (n108 : Nat), ∀ (k : Nat), (k ≤ qLn q0) → (qLn q0 + 1 - k ≤ n108) → ∀ (H : Heap) (locs : List Loc) (ls : Array Slot), zh g A (oL g h a b ((q0, q1, q2, q3, q4, q5, q6, q7, q8, q9, q10), P, G)) s.heap H locs → lv_has ls 5 [(4, .int (nI k)), (3, .int (1 : Int32)), (0, .ref h), (1, .ref a), (2, .ref b)] → W p l e { frames := 34, cells := 60, slots := 360, locals := 1400 } s m ([.ref h, .ref a, .ref b] : List Value).toArray below meth c H locs (16 + 2 * k) (96 + 12 * k) (MQ below ((zQi g (P_L_isBoard q0 q1 q2 q3 q4 q5 q6 q7 q8 q9 q10 P G) (oL g h a b)) A) ([.ref h, .ref a, .ref b] : List Value).toArray s 60 360 A) (F0 m 108 ls []) := by
                      intro n108
                      induction n108 with
                      | zero =>
                        intro k hk hn108 H locs ls X hl
                        exfalso; omega
                      | succ n108 ih108 =>
                        intro k hk hn108 H locs ls X hl
                        refine lv_iload hx hb dL_isBoard_108 (lv_at hl 0 rfl) ?_
                        refine lv_aload_n hx hb dL_isBoard_110 rfl (lv_at hl 4 rfl) ?_
                        refine lv_iconst (v := (0 : Int32)) hx hb dL_isBoard_111 (by decide) ?_
                        refine zald (q0 := 2) (n := 6) (f := G) Z X rfl rfl 0 (by decide) (by decide) (by decide) dL_isBoard_112 ?_
                        refine zrwi (y := nI (qLn q0)) hG0 ?_
                        refine lv_icmp_ge (tgt := 162) hx hb dL_isBoard_113 (by decide) (fun c14 => ?_) (fun c14 => ?_)
                        · have qc14 := c14
                          have c14n : (qLn q0) ≤ k := zn_let (by omega) (by omega) c14
                          refine lv_iload_n hx hb dL_isBoard_162 rfl (lv_at hl 1 rfl) ?_
                          refine lv_if_eq (tgt := 206) hx hb dL_isBoard_163 (by decide) (fun c15 => ?_) (fun c15 => ?_)
                          · exact absurd c15 (by decide)
                          · have qc15 := c15
                            refine lv_aload_n hx hb dL_isBoard_166 rfl (lv_at hl 2 rfl) ?_
                            refine lv_iconst (v := (1 : Int32)) hx hb dL_isBoard_167 (by decide) ?_
                            refine lv_aload_n hx hb dL_isBoard_168 rfl (lv_at hl 4 rfl) ?_
                            refine lv_iconst (v := (0 : Int32)) hx hb dL_isBoard_169 (by decide) ?_
                            refine zald (q0 := 2) (n := 6) (f := G) Z X rfl rfl 0 (by decide) (by decide) (by decide) dL_isBoard_170 ?_
                            refine zrwi (y := nI (qLn q0)) hG0 ?_
                            refine zsubSi (n := 3) (As := [.ref h, .int (1 : Int32), .int (nI (qLn q0))]) (rest := []) (wc := oQ h (q0, q1, q2, q3, q4, q5, q6, q7, q8, q9, q10)) (wr := oB g a P ++ oG g b G) [0] [1, 2] rfl rfl rfl rfl (by decide) Z X zStL (fun _ _ h => h) (c_L_asks1 l g bL h q0 q1 q2 q3 q4 q5 q6 q7 q8 q9 q10 (nI (qLn q0)) htr) gL_isBoard_L_asks rfl ⟨by decide, by decide, by decide +kernel⟩ ⟨Nat.le_of_ble_eq_true rfl, Nat.le_of_ble_eq_true rfl⟩ rfl rfl hl.1 (Nat.le_of_ble_eq_true rfl) dL_isBoard_171 ⟨show 16 + 2 * k + 1 ≤ 60 from by omega, show 96 + 12 * k + 6 ≤ 360 from by omega⟩ (fun r16 ur16 H locs hr16 X => ?_)
                            obtain ⟨hur16, hr16⟩ := hr16
                            rw [hur16] at X
                            have X : zh g A (oL g h a b ((q0, q1, q2, q3, q4, q5, q6, q7, q8, q9, q10), P, G)) s.heap H locs := zhsub X [2, 0, 1] rfl rfl
                            refine zrwi (y := aA1 q0 q5 (nI (qLn q0))) hr16 ?_
                            refine zrwi (y := (-30 : Int32)) (aA1_ln _ _) ?_
                            refine lv_bipush (v := (-30 : Int32)) hx hb dL_isBoard_174 (by decide) ?_
                            refine lv_icmp_ne (tgt := 206) hx hb dL_isBoard_176 (by decide) (fun c17 => ?_) (fun c17 => ?_)
                            · exact absurd c17 (by decide)
                            · have qc17 := c17
                              refine lv_aload_n hx hb dL_isBoard_179 rfl (lv_at hl 2 rfl) ?_
                              refine lv_iconst (v := (2 : Int32)) hx hb dL_isBoard_180 (by decide) ?_
                              refine lv_iconst (v := (-1 : Int32)) hx hb dL_isBoard_181 (by decide) ?_
                              refine zsubSi (n := 3) (As := [.ref h, .int (2 : Int32), .int (-1 : Int32)]) (rest := []) (wc := oQ h (q0, q1, q2, q3, q4, q5, q6, q7, q8, q9, q10)) (wr := oB g a P ++ oG g b G) [0] [1, 2] rfl rfl rfl rfl (by decide) Z X zStL (fun _ _ h => h) (c_L_asks2 l g bL h q0 q1 q2 q3 q4 q5 q6 q7 q8 q9 q10 (-1 : Int32) htr) gL_isBoard_L_asks rfl ⟨by decide, by decide, by decide +kernel⟩ ⟨Nat.le_of_ble_eq_true rfl, Nat.le_of_ble_eq_true rfl⟩ rfl rfl hl.1 (Nat.le_of_ble_eq_true rfl) dL_isBoard_182 ⟨show 16 + 2 * k + 1 + 1 ≤ 60 from by omega, show 96 + 12 * k + 6 + 6 ≤ 360 from by omega⟩ (fun r18 ur18 H locs hr18 X => ?_)
                              obtain ⟨hur18, hr18⟩ := hr18
                              rw [hur18] at X
                              have X : zh g A (oL g h a b ((q0, q1, q2, q3, q4, q5, q6, q7, q8, q9, q10), P, G)) s.heap H locs := zhsub X [2, 0, 1] rfl rfl
                              refine zrwi (y := aA2 q0 q5 q7 (-1 : Int32)) hr18 ?_
                              refine zrwi (y := (-30 : Int32)) (aA2_m1 _ _ _) ?_
                              refine lv_bipush (v := (-30 : Int32)) hx hb dL_isBoard_185 (by decide) ?_
                              refine lv_icmp_ne (tgt := 206) hx hb dL_isBoard_187 (by decide) (fun c19 => ?_) (fun c19 => ?_)
                              · exact absurd c19 (by decide)
                              · have qc19 := c19
                                refine lv_aload_n hx hb dL_isBoard_190 rfl (lv_at hl 2 rfl) ?_
                                refine lv_iconst (v := (0 : Int32)) hx hb dL_isBoard_191 (by decide) ?_
                                refine lv_bipush (v := (16 : Int32)) hx hb dL_isBoard_192 (by decide) ?_
                                refine zsubSi (n := 3) (As := [.ref h, .int (0 : Int32), .int (16 : Int32)]) (rest := []) (wc := oQ h (q0, q1, q2, q3, q4, q5, q6, q7, q8, q9, q10)) (wr := oB g a P ++ oG g b G) [0] [1, 2] rfl rfl rfl rfl (by decide) Z X zStL (fun _ _ h => h) (c_L_asks0 l g bL h q0 q1 q2 q3 q4 q5 q6 q7 q8 q9 q10 (16 : Int32) htr) gL_isBoard_L_asks rfl ⟨by decide, by decide, by decide +kernel⟩ ⟨Nat.le_of_ble_eq_true rfl, Nat.le_of_ble_eq_true rfl⟩ rfl rfl hl.1 (Nat.le_of_ble_eq_true rfl) dL_isBoard_194 ⟨show 16 + 2 * k + 1 + 1 + 1 ≤ 60 from by omega, show 96 + 12 * k + 6 + 6 + 6 ≤ 360 from by omega⟩ (fun r20 ur20 H locs hr20 X => ?_)
                                obtain ⟨hur20, hr20⟩ := hr20
                                rw [hur20] at X
                                have X : zh g A (oL g h a b ((q0, q1, q2, q3, q4, q5, q6, q7, q8, q9, q10), P, G)) s.heap H locs := zhsub X [2, 0, 1] rfl rfl
                                refine zrwi (y := aA0 q5 q7 (16 : Int32)) hr20 ?_
                                refine zrwi (y := (-30 : Int32)) (aA0_16 _ _) ?_
                                refine lv_bipush (v := (-30 : Int32)) hx hb dL_isBoard_197 (by decide) ?_
                                refine lv_icmp_ne (tgt := 206) hx hb dL_isBoard_199 (by decide) (fun c21 => ?_) (fun c21 => ?_)
                                · exact absurd c21 (by decide)
                                · have qc21 := c21
                                  refine lv_iconst (v := (1 : Int32)) hx hb dL_isBoard_202 (by decide) ?_
                                  refine lv_goto (tgt := 207) hx hb dL_isBoard_203 (by decide) ?_
                                  exact W.widen (k := 60) (n := 360) (by omega) (by omega) (zreti Z hr hlk ((q0, q1, q2, q3, q4, q5, q6, q7, q8, q9, q10), P, G) X dL_isBoard_207 rfl (⟨rfl, rfl⟩))
                        · have qc14 := c14
                          have c14n : ¬ (qLn q0) ≤ k := zn_len (by omega) (by omega) c14
                          refine lv_iload_n hx hb dL_isBoard_116 rfl (lv_at hl 1 rfl) ?_
                          refine lv_if_eq (tgt := 162) hx hb dL_isBoard_117 (by decide) (fun c22 => ?_) (fun c22 => ?_)
                          · exact absurd c22 (by decide)
                          · have qc22 := c22
                            refine lv_aload_n hx hb dL_isBoard_120 rfl (lv_at hl 2 rfl) ?_
                            refine lv_iload hx hb dL_isBoard_121 (lv_at hl 0 rfl) ?_
                            refine zsubX (n := 1) (As := [.int (nI k)]) (rest := []) (wc := oQ h (q0, q1, q2, q3, q4, q5, q6, q7, q8, q9, q10)) (wr := oB g a P ++ oG g b G) (ci := 0) (C := RX0) (T := TX0) (N := 11) [0] [1, 2] rfl rfl rfl rfl (by decide) Z X zStL (fun _ _ h => h) (c_X0_onLine l g bL h q0 q1 q2 q3 q4 q5 q6 q7 q8 q9 q10 (nI k) htr) gL_isBoard_X0_onLine rfl (by decide +kernel) ⟨Nat.le_of_ble_eq_true rfl, Nat.le_of_ble_eq_true rfl⟩ rfl rfl rfl rfl hl.1 (Nat.le_of_ble_eq_true rfl) dL_isBoard_123 ⟨show 16 + 2 * k + 1 ≤ 60 from by omega, show 96 + 12 * k + 6 ≤ 360 from by omega⟩ (fun X9 ce qE H locs hpx X hce hcv hcl => ?_) (fun r23 ur23 H locs hr23 X => ?_)
                            · exact ((fun z => z.2.elim (nI_pos (by omega)) (fun y => absurd ((nI_leI (by omega) (by omega)).mp y) (by omega)) : PX_X0_onLine q0 q1 q2 q3 q4 q5 q6 q7 q8 q9 q10 (nI k) X9 → False) hpx).elim
                            obtain ⟨-, hur23, hr23⟩ := hr23
                            rw [hur23] at X
                            have X : zh g A (oL g h a b ((q0, q1, q2, q3, q4, q5, q6, q7, q8, q9, q10), P, G)) s.heap H locs := zhsub X [2, 0, 1] rfl rfl
                            refine zrwi (y := qBc (LM ((nI k).toNatClampNeg) &&& q5)) hr23 ?_
                            refine zrwi (y := nI (lFl P k 4)) (b_on hrb (by omega)) ?_
                            refine lv_aload_n hx hb dL_isBoard_126 rfl (lv_at hl 3 rfl) ?_
                            refine lv_iload hx hb dL_isBoard_127 (lv_at hl 0 rfl) ?_
                            refine zsubS (n := 2) (As := [.ref a, .int (nI k)]) (rest := [.int (nI (lFl P k 4))]) (wc := oB g a P) (wr := oQ h (q0, q1, q2, q3, q4, q5, q6, q7, q8, q9, q10) ++ oG g b G) [1] [0, 2] rfl rfl rfl rfl (by decide) Z X zSt0 (fun _ _ _ => trivial) (c_L_full l g a P k (by omega)) gL_isBoard_L_full rfl (by decide +kernel) ⟨Nat.le_of_ble_eq_true rfl, Nat.le_of_ble_eq_true rfl⟩ rfl rfl hl.1 (Nat.le_of_ble_eq_true rfl) dL_isBoard_129 ⟨show 16 + 2 * k + 1 + 0 ≤ 60 from by omega, show 96 + 12 * k + 6 + 0 ≤ 360 from by omega⟩ (fun r24 ur24 H locs hr24 X => ?_)
                            obtain ⟨hur24, hr24⟩ := hr24
                            rw [hur24] at X
                            have X : zh g A (oL g h a b ((q0, q1, q2, q3, q4, q5, q6, q7, q8, q9, q10), P, G)) s.heap H locs := zhsub X [0, 2, 1] rfl rfl
                            refine zrwi (y := nI (lFl P k 4)) hr24 ?_
                            refine lv_icmp_ne (tgt := 154) hx hb dL_isBoard_132 (by decide) (fun c25 => ?_) (fun c25 => ?_)
                            · exact absurd rfl c25
                            · have qc25 := c25
                              refine lv_aload_n hx hb dL_isBoard_135 rfl (lv_at hl 2 rfl) ?_
                              refine lv_iload hx hb dL_isBoard_136 (lv_at hl 0 rfl) ?_
                              refine zsubX (n := 1) (As := [.int (nI k)]) (rest := []) (wc := oQ h (q0, q1, q2, q3, q4, q5, q6, q7, q8, q9, q10)) (wr := oB g a P ++ oG g b G) (ci := 0) (C := RX0) (T := TX0) (N := 11) [0] [1, 2] rfl rfl rfl rfl (by decide) Z X zStL (fun _ _ h => h) (c_X0_shared l g bL h q0 q1 q2 q3 q4 q5 q6 q7 q8 q9 q10 (nI k) htr) gL_isBoard_X0_shared rfl (by decide +kernel) ⟨Nat.le_of_ble_eq_true rfl, Nat.le_of_ble_eq_true rfl⟩ rfl rfl rfl rfl hl.1 (Nat.le_of_ble_eq_true rfl) dL_isBoard_138 ⟨show 16 + 2 * k + 1 + 0 + 1 ≤ 60 from by omega, show 96 + 12 * k + 6 + 0 + 6 ≤ 360 from by omega⟩ (fun X9 ce qE H locs hpx X hce hcv hcl => ?_) (fun r26 ur26 H locs hr26 X => ?_)
                              · exact ((fun z => z.2.elim (nI_pos (by omega)) (fun y => absurd ((nI_leI (by omega) (by omega)).mp y) (by omega)) : PX_X0_shared q0 q1 q2 q3 q4 q5 q6 q7 q8 q9 q10 (nI k) X9 → False) hpx).elim
                              obtain ⟨-, hur26, hr26⟩ := hr26
                              rw [hur26] at X
                              have X : zh g A (oL g h a b ((q0, q1, q2, q3, q4, q5, q6, q7, q8, q9, q10), P, G)) s.heap H locs := zhsub X [2, 0, 1] rfl rfl
                              refine zrwi (y := qIn q5 q7 (LM ((nI k).toNatClampNeg))) hr26 ?_
                              refine zrwi (y := lSh P k) (b_sh hrb (by omega)) ?_
                              refine lv_aload_n hx hb dL_isBoard_141 rfl (lv_at hl 3 rfl) ?_
                              refine lv_iload hx hb dL_isBoard_142 (lv_at hl 0 rfl) ?_
                              refine zsubS (n := 2) (As := [.ref a, .int (nI k)]) (rest := [.int (lSh P k)]) (wc := oB g a P) (wr := oQ h (q0, q1, q2, q3, q4, q5, q6, q7, q8, q9, q10) ++ oG g b G) [1] [0, 2] rfl rfl rfl rfl (by decide) Z X zSt0 (fun _ _ _ => trivial) (c_L_shared l g a P k (by omega)) gL_isBoard_L_shared rfl (by decide +kernel) ⟨Nat.le_of_ble_eq_true rfl, Nat.le_of_ble_eq_true rfl⟩ rfl rfl hl.1 (Nat.le_of_ble_eq_true rfl) dL_isBoard_144 ⟨show 16 + 2 * k + 1 + 0 + 1 + 0 ≤ 60 from by omega, show 96 + 12 * k + 6 + 0 + 6 + 0 ≤ 360 from by omega⟩ (fun r27 ur27 H locs hr27 X => ?_)
                              obtain ⟨hur27, hr27⟩ := hr27
                              rw [hur27] at X
                              have X : zh g A (oL g h a b ((q0, q1, q2, q3, q4, q5, q6, q7, q8, q9, q10), P, G)) s.heap H locs := zhsub X [0, 2, 1] rfl rfl
                              refine zrwi (y := lSh P k) hr27 ?_
                              refine lv_icmp_ne (tgt := 154) hx hb dL_isBoard_147 (by decide) (fun c28 => ?_) (fun c28 => ?_)
                              · exact absurd rfl c28
                              · have qc28 := c28
                                refine lv_iconst (v := (1 : Int32)) hx hb dL_isBoard_150 (by decide) ?_
                                refine lv_goto (tgt := 155) hx hb dL_isBoard_151 (by decide) ?_
                                refine lv_istore_n (lv' := [(3, .int (1 : Int32)), (4, .int (nI k)), (0, .ref h), (1, .ref a), (2, .ref b)]) hx hb dL_isBoard_155 rfl hl (by decide) rfl (fun ls hl => ?_)
                                refine lv_iinc (v := nI (k + 1)) (lv' := [(4, .int (nI (k + 1))), (3, .int (1 : Int32)), (0, .ref h), (1, .ref a), (2, .ref b)]) hx hb dL_isBoard_156 hl (k := 1) rfl (zi_inc k) (by decide) rfl (fun ls hl => ?_)
                                refine lv_goto (tgt := 108) hx hb dL_isBoard_159 (by decide) ?_
                                exact W.widen (by omega) (by omega) (ih108 (k + 1) (by first | assumption | omega) (by omega) H locs ls X (lv_sub hl [0, 1, 2, 3, 4] rfl))
                    exact W.widen (by omega) (by omega) (cut108 (qLn q0 + 1) 0 (Nat.zero_le _) (by omega) H locs ls X (lv_sub hl [0, 1, 2, 3, 4] rfl))
                  · have qc13 := c13
                    have c13n : ¬ 16 ≤ k := zn_len (by omega) (by omega) c13
                    refine lv_iload_n hx hb dL_isBoard_76 rfl (lv_at hl 1 rfl) ?_
                    refine lv_if_eq (tgt := 105) hx hb dL_isBoard_77 (by decide) (fun c29 => ?_) (fun c29 => ?_)
                    · exact absurd c29 (by decide)
                    · have qc29 := c29
                      refine lv_aload_n hx hb dL_isBoard_80 rfl (lv_at hl 2 rfl) ?_
                      refine lv_iload hx hb dL_isBoard_81 (lv_at hl 0 rfl) ?_
                      refine zsubX (n := 1) (As := [.int (nI k)]) (rest := []) (wc := oQ h (q0, q1, q2, q3, q4, q5, q6, q7, q8, q9, q10)) (wr := oB g a P ++ oG g b G) (ci := 0) (C := RX0) (T := TX0) (N := 11) [0] [1, 2] rfl rfl rfl rfl (by decide) Z X zStL (fun _ _ h => h) (c_X0_pieceAt l g bL h q0 q1 q2 q3 q4 q5 q6 q7 q8 q9 q10 (nI k) htr) gL_isBoard_X0_pieceAt rfl (by decide +kernel) ⟨Nat.le_of_ble_eq_true rfl, Nat.le_of_ble_eq_true rfl⟩ rfl rfl rfl rfl hl.1 (Nat.le_of_ble_eq_true rfl) dL_isBoard_83 ⟨show 0 + k + 1 ≤ 60 from by omega, show 0 + 6 * k + 6 ≤ 360 from by omega⟩ (fun X9 ce qE H locs hpx X hce hcv hcl => ?_) (fun r30 ur30 H locs hr30 X => ?_)
                      · exact ((fun z => (by have y := z.2; rw [qNum_k _ (by omega)] at y; cases y) : PX_X0_pieceAt q0 q1 q2 q3 q4 q5 q6 q7 q8 q9 q10 (nI k) X9 → False) hpx).elim
                      obtain ⟨-, hur30, hr30⟩ := hr30
                      rw [hur30] at X
                      have X : zh g A (oL g h a b ((q0, q1, q2, q3, q4, q5, q6, q7, q8, q9, q10), P, G)) s.heap H locs := zhsub X [2, 0, 1] rfl rfl
                      refine zrwi (y := qAt q5 q7 (nI k)) hr30 ?_
                      refine zrwi (y := P k) (b_at hrb (by omega)) ?_
                      refine lv_aload_n hx hb dL_isBoard_86 rfl (lv_at hl 3 rfl) ?_
                      refine lv_iload hx hb dL_isBoard_87 (lv_at hl 0 rfl) ?_
                      refine zald (q0 := 1) (n := 16) (f := P) Z X rfl rfl k rfl (by omega) (by decide) dL_isBoard_89 ?_
                      refine lv_icmp_ne (tgt := 97) hx hb dL_isBoard_90 (by decide) (fun c31 => ?_) (fun c31 => ?_)
                      · exact absurd rfl c31
                      · have qc31 := c31
                        refine lv_iconst (v := (1 : Int32)) hx hb dL_isBoard_93 (by decide) ?_
                        refine lv_goto (tgt := 98) hx hb dL_isBoard_94 (by decide) ?_
                        refine lv_istore_n (lv' := [(3, .int (1 : Int32)), (4, .int (nI k)), (0, .ref h), (1, .ref a), (2, .ref b)]) hx hb dL_isBoard_98 rfl hl (by decide) rfl (fun ls hl => ?_)
                        refine lv_iinc (v := nI (k + 1)) (lv' := [(4, .int (nI (k + 1))), (3, .int (1 : Int32)), (0, .ref h), (1, .ref a), (2, .ref b)]) hx hb dL_isBoard_99 hl (k := 1) rfl (zi_inc k) (by decide) rfl (fun ls hl => ?_)
                        refine lv_goto (tgt := 69) hx hb dL_isBoard_102 (by decide) ?_
                        exact W.widen (by omega) (by omega) (ih69 (k + 1) (by first | assumption | omega) (by omega) H locs ls X (lv_sub hl [0, 1, 2, 3, 4] rfl))
              exact W.widen (by omega) (by omega) (cut69 17 0 (by decide) (by omega) H locs ls X (lv_sub hl [0, 1, 2, 3, 4] rfl))
def P_L_isSafe (q0 q1 q2 q3 q4 q5 q6 : Int32) (q7 : Int64) (q8 q9 : Int32) (q10 : Int64) (P G : Nat → Int32) : Int32 → LSt → Prop := fun r u => u = ((q0, q1, q2, q3, q4, q5, q6, q7, q8, q9, q10), P, G) ∧ r = 1
set_option maxHeartbeats 1000000 in
set_option maxRecDepth 100000 in
theorem c_L_isSafe (l : Launch) (g : zG) (bL h a b : Nat) (q0 q1 q2 q3 q4 q5 q6 : Int32) (q7 : Int64) (q8 q9 : Int32) (q10 : Int64) (P G : Nat → Int32)  (htr : l.stackTraces = false) (pn : Nat) (O : Nat → Int32) (hR : RG q0 q1 q2 q3 q4 q5 q6 q7 P G pn O) : zMk l yL_isSafe wsL_isSafe 34 1400 20 120 g [.ref h, .ref a, .ref b] (oL g h a b ((q0, q1, q2, q3, q4, q5, q6, q7, q8, q9, q10), P, G)) (zEL bL) (zQi g (P_L_isSafe q0 q1 q2 q3 q4 q5 q6 q7 q8 q9 q10 P G) (oL g h a b)) := by
  refine zstartk (cc := cL_isSafe) (maxL := 5) (ret := (some .boolean)) (own := RL) rfl (by decide) rfl zStL (Nat.le_of_ble_eq_true rfl) ?_
  intro p e s m below meth c A Z hr hlk _hname H locs X ls hl
  have hx := Z.1.1
  have hb := Z.1.2.1
  have hl : lv_has ls 5 [(0, .ref h), (1, .ref a), (2, .ref b)] := hl
  have X : zh g A (oL g h a b ((q0, q1, q2, q3, q4, q5, q6, q7, q8, q9, q10), P, G)) s.heap H locs := X
  obtain ⟨⟨hG0, hG1, hG2, hG3, hG4, hG5⟩, hph, hot, hrb, hone, hgo, hov⟩ := hR
  have hok : okP P := hrb.1.1
  have hqn := qLn_le q0
  have hpl := RB_le hrb
  refine lv_iconst (v := (1 : Int32)) hx hb dL_isSafe_0 (by decide) ?_
  refine lv_istore_n (lv' := [(3, .int (1 : Int32)), (0, .ref h), (1, .ref a), (2, .ref b)]) hx hb dL_isSafe_1 rfl hl (by decide) rfl (fun ls hl => ?_)
  refine lv_iconst (v := (0 : Int32)) hx hb dL_isSafe_2 (by decide) ?_
  refine lv_istore (lv' := [(4, .int (0 : Int32)), (3, .int (1 : Int32)), (0, .ref h), (1, .ref a), (2, .ref b)]) hx hb dL_isSafe_3 hl (by decide) rfl (fun ls hl => ?_)
  have cut5 : ∀ (n5 : Nat), ∀ (k : Nat), (k ≤ 16) → (17 - k ≤ n5) → ∀ (H : Heap) (locs : List Loc) (ls : Array Slot), zh g A (oL g h a b ((q0, q1, q2, q3, q4, q5, q6, q7, q8, q9, q10), P, G)) s.heap H locs → lv_has ls 5 [(4, .int (nI k)), (3, .int (1 : Int32)), (0, .ref h), (1, .ref a), (2, .ref b)] → W p l e { frames := 34, cells := 20, slots := 120, locals := 1400 } s m ([.ref h, .ref a, .ref b] : List Value).toArray below meth c H locs (0 + k) (0 + 6 * k) (MQ below ((zQi g (P_L_isSafe q0 q1 q2 q3 q4 q5 q6 q7 q8 q9 q10 P G) (oL g h a b)) A) ([.ref h, .ref a, .ref b] : List Value).toArray s 20 120 A) (F0 m 5 ls []) := by
    intro n5
    induction n5 with
    | zero =>
      intro k hk hn5 H locs ls X hl
      exfalso; omega
    | succ n5 ih5 =>
      intro k hk hn5 H locs ls X hl
      refine lv_iload hx hb dL_isSafe_5 (lv_at hl 0 rfl) ?_
      refine lv_bipush (v := (16 : Int32)) hx hb dL_isSafe_7 (by decide) ?_
      refine lv_icmp_ge (tgt := 68) hx hb dL_isSafe_9 (by decide) (fun c1 => ?_) (fun c1 => ?_)
      · have qc1 := c1
        have c1n : 16 ≤ k := zn_let (by omega) (by omega) c1
        refine lv_iload_n hx hb dL_isSafe_68 rfl (lv_at hl 1 rfl) ?_
        refine lv_if_eq (tgt := 115) hx hb dL_isSafe_69 (by decide) (fun c2 => ?_) (fun c2 => ?_)
        · exact absurd c2 (by decide)
        · have qc2 := c2
          refine lv_aload_n hx hb dL_isSafe_72 rfl (lv_at hl 2 rfl) ?_
          refine lv_iconst (v := (3 : Int32)) hx hb dL_isSafe_73 (by decide) ?_
          refine lv_bipush (v := (16 : Int32)) hx hb dL_isSafe_74 (by decide) ?_
          refine zsubSi (n := 3) (As := [.ref h, .int (3 : Int32), .int (16 : Int32)]) (rest := []) (wc := oQ h (q0, q1, q2, q3, q4, q5, q6, q7, q8, q9, q10)) (wr := oB g a P ++ oG g b G) [0] [1, 2] rfl rfl rfl rfl (by decide) Z X zStL (fun _ _ h => h) (c_L_asks3 l g bL h q0 q1 q2 q3 q4 q5 q6 q7 q8 q9 q10 (16 : Int32) htr) gL_isSafe_L_asks rfl ⟨by decide, by decide, by decide +kernel⟩ ⟨Nat.le_of_ble_eq_true rfl, Nat.le_of_ble_eq_true rfl⟩ rfl rfl hl.1 (Nat.le_of_ble_eq_true rfl) dL_isSafe_76 ⟨show 0 + k + 1 ≤ 20 from by omega, show 0 + 6 * k + 6 ≤ 120 from by omega⟩ (fun r3 ur3 H locs hr3 X => ?_)
          obtain ⟨hur3, hr3⟩ := hr3
          rw [hur3] at X
          have X : zh g A (oL g h a b ((q0, q1, q2, q3, q4, q5, q6, q7, q8, q9, q10), P, G)) s.heap H locs := zhsub X [2, 0, 1] rfl rfl
          refine zrwi (y := aA3 q1 q0 q5 q6 q7 (16 : Int32)) hr3 ?_
          refine zrwi (y := (-30 : Int32)) (aA3_16 _ _ _ _ _) ?_
          refine lv_bipush (v := (-30 : Int32)) hx hb dL_isSafe_79 (by decide) ?_
          refine lv_icmp_ne (tgt := 115) hx hb dL_isSafe_81 (by decide) (fun c4 => ?_) (fun c4 => ?_)
          · exact absurd c4 (by decide)
          · have qc4 := c4
            refine lv_aload_n hx hb dL_isSafe_84 rfl (lv_at hl 2 rfl) ?_
            refine lv_iconst (v := (4 : Int32)) hx hb dL_isSafe_85 (by decide) ?_
            refine lv_iconst (v := (0 : Int32)) hx hb dL_isSafe_86 (by decide) ?_
            refine zsubSi (n := 3) (As := [.ref h, .int (4 : Int32), .int (0 : Int32)]) (rest := []) (wc := oQ h (q0, q1, q2, q3, q4, q5, q6, q7, q8, q9, q10)) (wr := oB g a P ++ oG g b G) [0] [1, 2] rfl rfl rfl rfl (by decide) Z X zStL (fun _ _ h => h) (c_L_asks4 l g bL h q0 q1 q2 q3 q4 q5 q6 q7 q8 q9 q10 (0 : Int32) htr) gL_isSafe_L_asks rfl ⟨by decide, by decide, by decide +kernel⟩ ⟨Nat.le_of_ble_eq_true rfl, Nat.le_of_ble_eq_true rfl⟩ rfl rfl hl.1 (Nat.le_of_ble_eq_true rfl) dL_isSafe_87 ⟨show 0 + k + 1 + 1 ≤ 20 from by omega, show 0 + 6 * k + 6 + 6 ≤ 120 from by omega⟩ (fun r5 ur5 H locs hr5 X => ?_)
            obtain ⟨hur5, hr5⟩ := hr5
            rw [hur5] at X
            have X : zh g A (oL g h a b ((q0, q1, q2, q3, q4, q5, q6, q7, q8, q9, q10), P, G)) s.heap H locs := zhsub X [2, 0, 1] rfl rfl
            refine zrwi (y := aA4 q1 q0 q5 q6 q7) hr5 ?_
            refine lv_aload_n hx hb dL_isSafe_90 rfl (lv_at hl 4 rfl) ?_
            refine lv_iconst (v := (1 : Int32)) hx hb dL_isSafe_91 (by decide) ?_
            refine zald (q0 := 2) (n := 6) (f := G) Z X rfl rfl 1 (by decide) (by decide) (by decide) dL_isSafe_92 ?_
            refine zrwi (y := q1) hG1 ?_
            refine lv_if_eq (tgt := 101) hx hb dL_isSafe_93 (by decide) (fun c6 => ?_) (fun c6 => ?_)
            · have qc6 := c6
              refine lv_aload_n hx hb dL_isSafe_101 rfl (lv_at hl 3 rfl) ?_
              refine lv_aload_n hx hb dL_isSafe_102 rfl (lv_at hl 4 rfl) ?_
              refine lv_iconst (v := (0 : Int32)) hx hb dL_isSafe_103 (by decide) ?_
              refine zald (q0 := 2) (n := 6) (f := G) Z X rfl rfl 0 (by decide) (by decide) (by decide) dL_isSafe_104 ?_
              refine zrwi (y := nI (qLn q0)) hG0 ?_
              refine zsubS (n := 2) (As := [.ref a, .int (nI (qLn q0))]) (rest := [.int (aA4 q1 q0 q5 q6 q7)]) (wc := oB g a P) (wr := oQ h (q0, q1, q2, q3, q4, q5, q6, q7, q8, q9, q10) ++ oG g b G) [1] [0, 2] rfl rfl rfl rfl (by decide) Z X zSt0 (fun _ _ _ => trivial) (c_L_safe l g a P (qLn q0) (by omega) hok) gL_isSafe_L_safe rfl (by decide +kernel) ⟨Nat.le_of_ble_eq_true rfl, Nat.le_of_ble_eq_true rfl⟩ rfl rfl hl.1 (Nat.le_of_ble_eq_true rfl) dL_isSafe_105 ⟨show 0 + k + 1 + 1 + 0 ≤ 20 from by omega, show 0 + 6 * k + 6 + 6 + 0 ≤ 120 from by omega⟩ (fun r7 ur7 H locs hr7 X => ?_)
              obtain ⟨hur7, hr7⟩ := hr7
              rw [hur7] at X
              have X : zh g A (oL g h a b ((q0, q1, q2, q3, q4, q5, q6, q7, q8, q9, q10), P, G)) s.heap H locs := zhsub X [0, 2, 1] rfl rfl
              refine zrwi (y := lSs P (qLn q0)) hr7 ?_
              refine lv_icmp_ne (tgt := 115) hx hb dL_isSafe_108 (by decide) (fun c8 => ?_) (fun c8 => ?_)
              · have qc8 := c8
                exact absurd (by first | exact s4_1 (by assumption) | exact s4_2 hrb hgo (by assumption)) c8
              · have qc8 := c8
                refine lv_iconst (v := (1 : Int32)) hx hb dL_isSafe_111 (by decide) ?_
                refine lv_goto (tgt := 116) hx hb dL_isSafe_112 (by decide) ?_
                exact W.widen (k := 20) (n := 120) (by omega) (by omega) (zreti Z hr hlk ((q0, q1, q2, q3, q4, q5, q6, q7, q8, q9, q10), P, G) X dL_isSafe_116 rfl (⟨rfl, rfl⟩))
            · have qc6 := c6
              refine lv_bipush (v := (-10 : Int32)) hx hb dL_isSafe_96 (by decide) ?_
              refine lv_goto (tgt := 108) hx hb dL_isSafe_98 (by decide) ?_
              refine lv_icmp_ne (tgt := 115) hx hb dL_isSafe_108 (by decide) (fun c9 => ?_) (fun c9 => ?_)
              · have qc9 := c9
                exact absurd (by first | exact s4_1 (by assumption) | exact s4_2 hrb hgo (by assumption)) c9
              · have qc9 := c9
                refine lv_iconst (v := (1 : Int32)) hx hb dL_isSafe_111 (by decide) ?_
                refine lv_goto (tgt := 116) hx hb dL_isSafe_112 (by decide) ?_
                exact W.widen (k := 20) (n := 120) (by omega) (by omega) (zreti Z hr hlk ((q0, q1, q2, q3, q4, q5, q6, q7, q8, q9, q10), P, G) X dL_isSafe_116 rfl (⟨rfl, rfl⟩))
      · have qc1 := c1
        have c1n : ¬ 16 ≤ k := zn_len (by omega) (by omega) c1
        refine lv_iload_n hx hb dL_isSafe_12 rfl (lv_at hl 1 rfl) ?_
        refine lv_if_eq (tgt := 68) hx hb dL_isSafe_13 (by decide) (fun c10 => ?_) (fun c10 => ?_)
        · exact absurd c10 (by decide)
        · have qc10 := c10
          refine lv_aload_n hx hb dL_isSafe_16 rfl (lv_at hl 2 rfl) ?_
          refine lv_iconst (v := (3 : Int32)) hx hb dL_isSafe_17 (by decide) ?_
          refine lv_iload hx hb dL_isSafe_18 (lv_at hl 0 rfl) ?_
          refine zsubSi (n := 3) (As := [.ref h, .int (3 : Int32), .int (nI k)]) (rest := []) (wc := oQ h (q0, q1, q2, q3, q4, q5, q6, q7, q8, q9, q10)) (wr := oB g a P ++ oG g b G) [0] [1, 2] rfl rfl rfl rfl (by decide) Z X zStL (fun _ _ h => h) (c_L_asks3 l g bL h q0 q1 q2 q3 q4 q5 q6 q7 q8 q9 q10 (nI k) htr) gL_isSafe_L_asks rfl ⟨by decide, by decide, by decide +kernel⟩ ⟨Nat.le_of_ble_eq_true rfl, Nat.le_of_ble_eq_true rfl⟩ rfl rfl hl.1 (Nat.le_of_ble_eq_true rfl) dL_isSafe_20 ⟨show 0 + k + 1 ≤ 20 from by omega, show 0 + 6 * k + 6 ≤ 120 from by omega⟩ (fun r11 ur11 H locs hr11 X => ?_)
          obtain ⟨hur11, hr11⟩ := hr11
          rw [hur11] at X
          have X : zh g A (oL g h a b ((q0, q1, q2, q3, q4, q5, q6, q7, q8, q9, q10), P, G)) s.heap H locs := zhsub X [2, 0, 1] rfl rfl
          refine zrwi (y := aA3 q1 q0 q5 q6 q7 (nI k)) hr11 ?_
          refine lv_aload_n hx hb dL_isSafe_23 rfl (lv_at hl 4 rfl) ?_
          refine lv_iconst (v := (1 : Int32)) hx hb dL_isSafe_24 (by decide) ?_
          refine zald (q0 := 2) (n := 6) (f := G) Z X rfl rfl 1 (by decide) (by decide) (by decide) dL_isSafe_25 ?_
          refine zrwi (y := q1) hG1 ?_
          refine lv_iconst (v := (2 : Int32)) hx hb dL_isSafe_26 (by decide) ?_
          refine lv_icmp_eq (tgt := 39) hx hb dL_isSafe_27 (by decide) (fun c12 => ?_) (fun c12 => ?_)
          · have qc12 := c12
            refine lv_bipush (v := (-10 : Int32)) hx hb dL_isSafe_39 (by decide) ?_
            refine lv_goto (tgt := 53) hx hb dL_isSafe_41 (by decide) ?_
            refine lv_icmp_ne (tgt := 60) hx hb dL_isSafe_53 (by decide) (fun c13 => ?_) (fun c13 => ?_)
            · have qc13 := c13
              exact absurd (by first | exact s3_1 (by assumption) (by omega) | exact s3_2 hrb (by omega) (by assumption) | exact s3_3 hrb hgo (by omega) (by assumption) (by assumption)) c13
            · have qc13 := c13
              refine lv_iconst (v := (1 : Int32)) hx hb dL_isSafe_56 (by decide) ?_
              refine lv_goto (tgt := 61) hx hb dL_isSafe_57 (by decide) ?_
              refine lv_istore_n (lv' := [(3, .int (1 : Int32)), (4, .int (nI k)), (0, .ref h), (1, .ref a), (2, .ref b)]) hx hb dL_isSafe_61 rfl hl (by decide) rfl (fun ls hl => ?_)
              refine lv_iinc (v := nI (k + 1)) (lv' := [(4, .int (nI (k + 1))), (3, .int (1 : Int32)), (0, .ref h), (1, .ref a), (2, .ref b)]) hx hb dL_isSafe_62 hl (k := 1) rfl (zi_inc k) (by decide) rfl (fun ls hl => ?_)
              refine lv_goto (tgt := 5) hx hb dL_isSafe_65 (by decide) ?_
              exact W.widen (by omega) (by omega) (ih5 (k + 1) (by first | assumption | omega) (by omega) H locs ls X (lv_sub hl [0, 1, 2, 3, 4] rfl))
          · have qc12 := c12
            refine lv_aload_n hx hb dL_isSafe_30 rfl (lv_at hl 3 rfl) ?_
            refine lv_iload hx hb dL_isSafe_31 (lv_at hl 0 rfl) ?_
            refine zsubS (n := 2) (As := [.ref a, .int (nI k)]) (rest := [.int (aA3 q1 q0 q5 q6 q7 (nI k))]) (wc := oB g a P) (wr := oQ h (q0, q1, q2, q3, q4, q5, q6, q7, q8, q9, q10) ++ oG g b G) [1] [0, 2] rfl rfl rfl rfl (by decide) Z X zSt0 (fun _ _ _ => trivial) (c_L_isOn l g a P (nI k)) gL_isSafe_L_isOn rfl (by decide +kernel) ⟨Nat.le_of_ble_eq_true rfl, Nat.le_of_ble_eq_true rfl⟩ rfl rfl hl.1 (Nat.le_of_ble_eq_true rfl) dL_isSafe_33 ⟨show 0 + k + 1 + 0 ≤ 20 from by omega, show 0 + 6 * k + 6 + 0 ≤ 120 from by omega⟩ (fun r14 ur14 H locs hr14 X => ?_)
            obtain ⟨hur14, hr14⟩ := hr14
            rw [hur14] at X
            have X : zh g A (oL g h a b ((q0, q1, q2, q3, q4, q5, q6, q7, q8, q9, q10), P, G)) s.heap H locs := zhsub X [0, 2, 1] rfl rfl
            refine zrwi (y := zb (lHas P (nI k) 16)) hr14 ?_
            refine lv_if_eq (tgt := 44) hx hb dL_isSafe_36 (by decide) (fun c15 => ?_) (fun c15 => ?_)
            · have qc15 := c15
              refine lv_aload_n hx hb dL_isSafe_44 rfl (lv_at hl 3 rfl) ?_
              refine lv_aload_n hx hb dL_isSafe_45 rfl (lv_at hl 4 rfl) ?_
              refine lv_iconst (v := (0 : Int32)) hx hb dL_isSafe_46 (by decide) ?_
              refine zald (q0 := 2) (n := 6) (f := G) Z X rfl rfl 0 (by decide) (by decide) (by decide) dL_isSafe_47 ?_
              refine zrwi (y := nI (qLn q0)) hG0 ?_
              refine lv_iload hx hb dL_isSafe_48 (lv_at hl 0 rfl) ?_
              refine zsubS (n := 3) (As := [.ref a, .int (nI (qLn q0)), .int (nI k)]) (rest := [.int (aA3 q1 q0 q5 q6 q7 (nI k))]) (wc := oB g a P) (wr := oQ h (q0, q1, q2, q3, q4, q5, q6, q7, q8, q9, q10) ++ oG g b G) [1] [0, 2] rfl rfl rfl rfl (by decide) Z X zSt0 (fun _ _ _ => trivial) (c_L_winning l g a P (qLn q0) (nI k) (by omega) hok) gL_isSafe_L_winning rfl (by decide +kernel) ⟨Nat.le_of_ble_eq_true rfl, Nat.le_of_ble_eq_true rfl⟩ rfl rfl hl.1 (Nat.le_of_ble_eq_true rfl) dL_isSafe_50 ⟨show 0 + k + 1 + 0 + 0 ≤ 20 from by omega, show 0 + 6 * k + 6 + 0 + 0 ≤ 120 from by omega⟩ (fun r16 ur16 H locs hr16 X => ?_)
              obtain ⟨hur16, hr16⟩ := hr16
              rw [hur16] at X
              have X : zh g A (oL g h a b ((q0, q1, q2, q3, q4, q5, q6, q7, q8, q9, q10), P, G)) s.heap H locs := zhsub X [0, 2, 1] rfl rfl
              refine zrwi (y := lWs P (qLn q0) (nI k)) hr16 ?_
              refine lv_icmp_ne (tgt := 60) hx hb dL_isSafe_53 (by decide) (fun c17 => ?_) (fun c17 => ?_)
              · have qc17 := c17
                exact absurd (by first | exact s3_1 (by assumption) (by omega) | exact s3_2 hrb (by omega) (by assumption) | exact s3_3 hrb hgo (by omega) (by assumption) (by assumption)) c17
              · have qc17 := c17
                refine lv_iconst (v := (1 : Int32)) hx hb dL_isSafe_56 (by decide) ?_
                refine lv_goto (tgt := 61) hx hb dL_isSafe_57 (by decide) ?_
                refine lv_istore_n (lv' := [(3, .int (1 : Int32)), (4, .int (nI k)), (0, .ref h), (1, .ref a), (2, .ref b)]) hx hb dL_isSafe_61 rfl hl (by decide) rfl (fun ls hl => ?_)
                refine lv_iinc (v := nI (k + 1)) (lv' := [(4, .int (nI (k + 1))), (3, .int (1 : Int32)), (0, .ref h), (1, .ref a), (2, .ref b)]) hx hb dL_isSafe_62 hl (k := 1) rfl (zi_inc k) (by decide) rfl (fun ls hl => ?_)
                refine lv_goto (tgt := 5) hx hb dL_isSafe_65 (by decide) ?_
                exact W.widen (by omega) (by omega) (ih5 (k + 1) (by first | assumption | omega) (by omega) H locs ls X (lv_sub hl [0, 1, 2, 3, 4] rfl))
            · have qc15 := c15
              refine lv_bipush (v := (-10 : Int32)) hx hb dL_isSafe_39 (by decide) ?_
              refine lv_goto (tgt := 53) hx hb dL_isSafe_41 (by decide) ?_
              refine lv_icmp_ne (tgt := 60) hx hb dL_isSafe_53 (by decide) (fun c18 => ?_) (fun c18 => ?_)
              · have qc18 := c18
                exact absurd (by first | exact s3_1 (by assumption) (by omega) | exact s3_2 hrb (by omega) (by assumption) | exact s3_3 hrb hgo (by omega) (by assumption) (by assumption)) c18
              · have qc18 := c18
                refine lv_iconst (v := (1 : Int32)) hx hb dL_isSafe_56 (by decide) ?_
                refine lv_goto (tgt := 61) hx hb dL_isSafe_57 (by decide) ?_
                refine lv_istore_n (lv' := [(3, .int (1 : Int32)), (4, .int (nI k)), (0, .ref h), (1, .ref a), (2, .ref b)]) hx hb dL_isSafe_61 rfl hl (by decide) rfl (fun ls hl => ?_)
                refine lv_iinc (v := nI (k + 1)) (lv' := [(4, .int (nI (k + 1))), (3, .int (1 : Int32)), (0, .ref h), (1, .ref a), (2, .ref b)]) hx hb dL_isSafe_62 hl (k := 1) rfl (zi_inc k) (by decide) rfl (fun ls hl => ?_)
                refine lv_goto (tgt := 5) hx hb dL_isSafe_65 (by decide) ?_
                exact W.widen (by omega) (by omega) (ih5 (k + 1) (by first | assumption | omega) (by omega) H locs ls X (lv_sub hl [0, 1, 2, 3, 4] rfl))
  exact W.widen (by omega) (by omega) (cut5 17 0 (by decide) (by omega) H locs ls X (lv_sub hl [0, 1, 2, 3, 4] rfl))
