/-! the law asks, and hears what was thrown as a number -/
theorem aAL_0 {f : Int32} {d : Int64} {ik kf : Int32} {kd : Int64} {r : Int32} (h : ¬ ik = 0 ∧ r = zb (anyN (fun t => decide (0 < qWays f d t kf kd)) 8)) (c : r = 0) : (0 : Int32) = aAL f d ik kf kd := by
  rw [aAL, if_neg h.1, ← h.2, c]
theorem aAL_1 {f : Int32} {d : Int64} {ik kf : Int32} {kd : Int64} {r : Int32} (h : ¬ ik = 0 ∧ r = zb (anyN (fun t => decide (0 < qWays f d t kf kd)) 8)) (c : ¬ r = 0) : (1 : Int32) = aAL f d ik kf kd := by
  rw [aAL, if_neg h.1, ← h.2]
  rw [h.2] at c ⊢
  exact (zb_t (zb_n0.mp c)).symm
def P_L_asks0 (q0 q1 q2 q3 q4 q5 q6 : Int32) (q7 : Int64) (q8 q9 : Int32) (q10 : Int64) (v : Int32) : Int32 → QS → Prop := fun r u => u = (q0, q1, q2, q3, q4, q5, q6, q7, q8, q9, q10) ∧ r = aA0 q5 q7 v
set_option maxHeartbeats 1000000 in
set_option maxRecDepth 100000 in
theorem c_L_asks0 (l : Launch) (g : zG) (bL h : Nat) (q0 q1 q2 q3 q4 q5 q6 : Int32) (q7 : Int64) (q8 q9 : Int32) (q10 : Int64) (v : Int32) (htr : l.stackTraces = false)  : zMk l yL_asks wsL_asks 32 1100 1 6 g [.ref h, .int (0 : Int32), .int v] (oQ h (q0, q1, q2, q3, q4, q5, q6, q7, q8, q9, q10)) (zEL bL) (zQi g (P_L_asks0 q0 q1 q2 q3 q4 q5 q6 q7 q8 q9 q10 v) (oQ h)) := by
  refine zstartH (cc := cL_asks) (maxL := 4) (ret := (some .int)) (own := RL) (hh := [(0, 81, 82, 17), (0, 81, 86, 43), (0, 81, 90, 19)]) rfl (by decide) rfl zStL (Nat.le_of_ble_eq_true rfl) ?_
  intro p e s m below meth c A Z hr hlk htab H locs X ls hl
  have hown := Z.1.2.2.2.1
  have hts := Z.1.2.2.2.2
  have hE := Z.2.2.2.1
  have hx := Z.1.1
  have hb := Z.1.2.1
  have hl : lv_has ls 4 [(0, .ref h), (1, .int (0 : Int32)), (2, .int v)] := hl
  have X : zh g A (oQ h (q0, q1, q2, q3, q4, q5, q6, q7, q8, q9, q10)) s.heap H locs := X
  refine lv_iload_n hx hb dL_asks_0 rfl (lv_at hl 1 rfl) ?_
  refine lv_if_ne (tgt := 12) hx hb dL_asks_1 (by decide) (fun c1 => ?_) (fun c1 => ?_)
  · exact absurd c1 (by decide)
  · have qc1 := c1
    refine lv_aload_n hx hb dL_asks_4 rfl (lv_at hl 0 rfl) ?_
    refine lv_iload_n hx hb dL_asks_5 rfl (lv_at hl 2 rfl) ?_
    refine zsubX (n := 1) (As := [.int v]) (rest := []) (wc := oQ h (q0, q1, q2, q3, q4, q5, q6, q7, q8, q9, q10)) (wr := []) (ci := 0) (C := RX0) (T := TX0) (N := 11) [0] [] rfl rfl rfl rfl (by decide) Z X zStL (fun _ _ h => h) (c_X0_pieceAt l g bL h q0 q1 q2 q3 q4 q5 q6 q7 q8 q9 q10 v htr) gL_asks_X0_pieceAt rfl (by decide +kernel) ⟨Nat.le_of_ble_eq_true rfl, Nat.le_of_ble_eq_true rfl⟩ rfl rfl rfl rfl hl.1 (Nat.le_of_ble_eq_true rfl) dL_asks_6 ⟨Nat.le_of_ble_eq_true rfl, Nat.le_of_ble_eq_true rfl⟩ (fun X9 ce qE H locs hpx X hce hcv hcl => ?_) (fun r9 u9 H locs h9 X => ?_)
    · have X : zh g A (oQ h (q0, q1, q2, q3, q4, q5, q6, q7, q8, q9, q10)) s.heap H locs := X
      obtain ⟨rfl, e9⟩ := aA0_x hpx
      refine vx_catch (own := RL) (name := eIO) (E := eIO) hown [] ⟨0, 81, 82, 17⟩ [⟨0, 81, 86, 43⟩, ⟨0, 81, 90, 19⟩] htab (fun z hz => nomatch hz) (by decide) (by decide) (hts (.classLink RL 17 eIO) (by decide +kernel)) (zcast hE (by decide +kernel)) hce hcv hcl ?_
      refine lv_astore_n (lv' := [(3, .ref qE), (0, .ref h), (1, .int (0 : Int32)), (2, .int v)]) hx hb dL_asks_82 rfl hl (by decide) rfl (fun ls hl => ?_)
      refine lv_bipush (v := (-30 : Int32)) hx hb dL_asks_83 (by decide) ?_
      exact zreti Z hr hlk (q0, q1, q2, q3, q4, q5, q6, q7, q8, q9, q10) X dL_asks_85 rfl (⟨rfl, e9⟩)
    obtain ⟨hu9, e9⟩ := aA0_r h9
    rw [hu9] at X
    have X : zh g A (oQ h (q0, q1, q2, q3, q4, q5, q6, q7, q8, q9, q10)) s.heap H locs := X
    refine lv_goto (tgt := 81) hx hb dL_asks_9 (by decide) ?_
    exact W.widen (k := 1) (n := 6) (by omega) (by omega) (zreti Z hr hlk (q0, q1, q2, q3, q4, q5, q6, q7, q8, q9, q10) X dL_asks_81 rfl (⟨rfl, e9⟩))
def P_L_asks1 (q0 q1 q2 q3 q4 q5 q6 : Int32) (q7 : Int64) (q8 q9 : Int32) (q10 : Int64) (v : Int32) : Int32 → QS → Prop := fun r u => u = (q0, q1, q2, q3, q4, q5, q6, q7, q8, q9, q10) ∧ r = aA1 q0 q5 v
set_option maxHeartbeats 1000000 in
set_option maxRecDepth 100000 in
theorem c_L_asks1 (l : Launch) (g : zG) (bL h : Nat) (q0 q1 q2 q3 q4 q5 q6 : Int32) (q7 : Int64) (q8 q9 : Int32) (q10 : Int64) (v : Int32) (htr : l.stackTraces = false)  : zMk l yL_asks wsL_asks 32 1100 1 6 g [.ref h, .int (1 : Int32), .int v] (oQ h (q0, q1, q2, q3, q4, q5, q6, q7, q8, q9, q10)) (zEL bL) (zQi g (P_L_asks1 q0 q1 q2 q3 q4 q5 q6 q7 q8 q9 q10 v) (oQ h)) := by
  refine zstartH (cc := cL_asks) (maxL := 4) (ret := (some .int)) (own := RL) (hh := [(0, 81, 82, 17), (0, 81, 86, 43), (0, 81, 90, 19)]) rfl (by decide) rfl zStL (Nat.le_of_ble_eq_true rfl) ?_
  intro p e s m below meth c A Z hr hlk htab H locs X ls hl
  have hown := Z.1.2.2.2.1
  have hts := Z.1.2.2.2.2
  have hE := Z.2.2.2.1
  have hx := Z.1.1
  have hb := Z.1.2.1
  have hl : lv_has ls 4 [(0, .ref h), (1, .int (1 : Int32)), (2, .int v)] := hl
  have X : zh g A (oQ h (q0, q1, q2, q3, q4, q5, q6, q7, q8, q9, q10)) s.heap H locs := X
  refine lv_iload_n hx hb dL_asks_0 rfl (lv_at hl 1 rfl) ?_
  refine lv_if_ne (tgt := 12) hx hb dL_asks_1 (by decide) (fun c1 => ?_) (fun c1 => ?_)
  · have qc1 := c1
    refine lv_iload_n hx hb dL_asks_12 rfl (lv_at hl 1 rfl) ?_
    refine lv_iconst (v := (1 : Int32)) hx hb dL_asks_13 (by decide) ?_
    refine lv_icmp_ne (tgt := 25) hx hb dL_asks_14 (by decide) (fun c2 => ?_) (fun c2 => ?_)
    · exact absurd c2 (by decide)
    · have qc2 := c2
      refine lv_aload_n hx hb dL_asks_17 rfl (lv_at hl 0 rfl) ?_
      refine lv_iload_n hx hb dL_asks_18 rfl (lv_at hl 2 rfl) ?_
      refine zsubX (n := 1) (As := [.int v]) (rest := []) (wc := oQ h (q0, q1, q2, q3, q4, q5, q6, q7, q8, q9, q10)) (wr := []) (ci := 0) (C := RX0) (T := TX0) (N := 11) [0] [] rfl rfl rfl rfl (by decide) Z X zStL (fun _ _ h => h) (c_X0_onLine l g bL h q0 q1 q2 q3 q4 q5 q6 q7 q8 q9 q10 v htr) gL_asks_X0_onLine rfl (by decide +kernel) ⟨Nat.le_of_ble_eq_true rfl, Nat.le_of_ble_eq_true rfl⟩ rfl rfl rfl rfl hl.1 (Nat.le_of_ble_eq_true rfl) dL_asks_19 ⟨Nat.le_of_ble_eq_true rfl, Nat.le_of_ble_eq_true rfl⟩ (fun X9 ce qE H locs hpx X hce hcv hcl => ?_) (fun r9 u9 H locs h9 X => ?_)
      · have X : zh g A (oQ h (q0, q1, q2, q3, q4, q5, q6, q7, q8, q9, q10)) s.heap H locs := X
        obtain ⟨rfl, e9⟩ := aA1_x hpx
        refine vx_catch (own := RL) (name := eIO) (E := eIO) hown [] ⟨0, 81, 82, 17⟩ [⟨0, 81, 86, 43⟩, ⟨0, 81, 90, 19⟩] htab (fun z hz => nomatch hz) (by decide) (by decide) (hts (.classLink RL 17 eIO) (by decide +kernel)) (zcast hE (by decide +kernel)) hce hcv hcl ?_
        refine lv_astore_n (lv' := [(3, .ref qE), (0, .ref h), (1, .int (1 : Int32)), (2, .int v)]) hx hb dL_asks_82 rfl hl (by decide) rfl (fun ls hl => ?_)
        refine lv_bipush (v := (-30 : Int32)) hx hb dL_asks_83 (by decide) ?_
        exact zreti Z hr hlk (q0, q1, q2, q3, q4, q5, q6, q7, q8, q9, q10) X dL_asks_85 rfl (⟨rfl, e9⟩)
      obtain ⟨hu9, e9⟩ := aA1_r h9
      rw [hu9] at X
      have X : zh g A (oQ h (q0, q1, q2, q3, q4, q5, q6, q7, q8, q9, q10)) s.heap H locs := X
      refine lv_goto (tgt := 81) hx hb dL_asks_22 (by decide) ?_
      exact W.widen (k := 1) (n := 6) (by omega) (by omega) (zreti Z hr hlk (q0, q1, q2, q3, q4, q5, q6, q7, q8, q9, q10) X dL_asks_81 rfl (⟨rfl, e9⟩))
  · exact absurd c1 (by decide)
def P_L_asks2 (q0 q1 q2 q3 q4 q5 q6 : Int32) (q7 : Int64) (q8 q9 : Int32) (q10 : Int64) (v : Int32) : Int32 → QS → Prop := fun r u => u = (q0, q1, q2, q3, q4, q5, q6, q7, q8, q9, q10) ∧ r = aA2 q0 q5 q7 v
set_option maxHeartbeats 1000000 in
set_option maxRecDepth 100000 in
theorem c_L_asks2 (l : Launch) (g : zG) (bL h : Nat) (q0 q1 q2 q3 q4 q5 q6 : Int32) (q7 : Int64) (q8 q9 : Int32) (q10 : Int64) (v : Int32) (htr : l.stackTraces = false)  : zMk l yL_asks wsL_asks 32 1100 1 6 g [.ref h, .int (2 : Int32), .int v] (oQ h (q0, q1, q2, q3, q4, q5, q6, q7, q8, q9, q10)) (zEL bL) (zQi g (P_L_asks2 q0 q1 q2 q3 q4 q5 q6 q7 q8 q9 q10 v) (oQ h)) := by
  refine zstartH (cc := cL_asks) (maxL := 4) (ret := (some .int)) (own := RL) (hh := [(0, 81, 82, 17), (0, 81, 86, 43), (0, 81, 90, 19)]) rfl (by decide) rfl zStL (Nat.le_of_ble_eq_true rfl) ?_
  intro p e s m below meth c A Z hr hlk htab H locs X ls hl
  have hown := Z.1.2.2.2.1
  have hts := Z.1.2.2.2.2
  have hE := Z.2.2.2.1
  have hx := Z.1.1
  have hb := Z.1.2.1
  have hl : lv_has ls 4 [(0, .ref h), (1, .int (2 : Int32)), (2, .int v)] := hl
  have X : zh g A (oQ h (q0, q1, q2, q3, q4, q5, q6, q7, q8, q9, q10)) s.heap H locs := X
  refine lv_iload_n hx hb dL_asks_0 rfl (lv_at hl 1 rfl) ?_
  refine lv_if_ne (tgt := 12) hx hb dL_asks_1 (by decide) (fun c1 => ?_) (fun c1 => ?_)
  · have qc1 := c1
    refine lv_iload_n hx hb dL_asks_12 rfl (lv_at hl 1 rfl) ?_
    refine lv_iconst (v := (1 : Int32)) hx hb dL_asks_13 (by decide) ?_
    refine lv_icmp_ne (tgt := 25) hx hb dL_asks_14 (by decide) (fun c2 => ?_) (fun c2 => ?_)
    · have qc2 := c2
      refine lv_iload_n hx hb dL_asks_25 rfl (lv_at hl 1 rfl) ?_
      refine lv_iconst (v := (2 : Int32)) hx hb dL_asks_26 (by decide) ?_
      refine lv_icmp_ne (tgt := 38) hx hb dL_asks_27 (by decide) (fun c3 => ?_) (fun c3 => ?_)
      · exact absurd c3 (by decide)
      · have qc3 := c3
        refine lv_aload_n hx hb dL_asks_30 rfl (lv_at hl 0 rfl) ?_
        refine lv_iload_n hx hb dL_asks_31 rfl (lv_at hl 2 rfl) ?_
        refine zsubX (n := 1) (As := [.int v]) (rest := []) (wc := oQ h (q0, q1, q2, q3, q4, q5, q6, q7, q8, q9, q10)) (wr := []) (ci := 0) (C := RX0) (T := TX0) (N := 11) [0] [] rfl rfl rfl rfl (by decide) Z X zStL (fun _ _ h => h) (c_X0_shared l g bL h q0 q1 q2 q3 q4 q5 q6 q7 q8 q9 q10 v htr) gL_asks_X0_shared rfl (by decide +kernel) ⟨Nat.le_of_ble_eq_true rfl, Nat.le_of_ble_eq_true rfl⟩ rfl rfl rfl rfl hl.1 (Nat.le_of_ble_eq_true rfl) dL_asks_32 ⟨Nat.le_of_ble_eq_true rfl, Nat.le_of_ble_eq_true rfl⟩ (fun X9 ce qE H locs hpx X hce hcv hcl => ?_) (fun r9 u9 H locs h9 X => ?_)
        · have X : zh g A (oQ h (q0, q1, q2, q3, q4, q5, q6, q7, q8, q9, q10)) s.heap H locs := X
          obtain ⟨rfl, e9⟩ := aA2_x hpx
          refine vx_catch (own := RL) (name := eIO) (E := eIO) hown [] ⟨0, 81, 82, 17⟩ [⟨0, 81, 86, 43⟩, ⟨0, 81, 90, 19⟩] htab (fun z hz => nomatch hz) (by decide) (by decide) (hts (.classLink RL 17 eIO) (by decide +kernel)) (zcast hE (by decide +kernel)) hce hcv hcl ?_
          refine lv_astore_n (lv' := [(3, .ref qE), (0, .ref h), (1, .int (2 : Int32)), (2, .int v)]) hx hb dL_asks_82 rfl hl (by decide) rfl (fun ls hl => ?_)
          refine lv_bipush (v := (-30 : Int32)) hx hb dL_asks_83 (by decide) ?_
          exact zreti Z hr hlk (q0, q1, q2, q3, q4, q5, q6, q7, q8, q9, q10) X dL_asks_85 rfl (⟨rfl, e9⟩)
        obtain ⟨hu9, e9⟩ := aA2_r h9
        rw [hu9] at X
        have X : zh g A (oQ h (q0, q1, q2, q3, q4, q5, q6, q7, q8, q9, q10)) s.heap H locs := X
        refine lv_goto (tgt := 81) hx hb dL_asks_35 (by decide) ?_
        exact W.widen (k := 1) (n := 6) (by omega) (by omega) (zreti Z hr hlk (q0, q1, q2, q3, q4, q5, q6, q7, q8, q9, q10) X dL_asks_81 rfl (⟨rfl, e9⟩))
    · exact absurd c2 (by decide)
  · exact absurd c1 (by decide)
def P_L_asks3 (q0 q1 q2 q3 q4 q5 q6 : Int32) (q7 : Int64) (q8 q9 : Int32) (q10 : Int64) (v : Int32) : Int32 → QS → Prop := fun r u => u = (q0, q1, q2, q3, q4, q5, q6, q7, q8, q9, q10) ∧ r = aA3 q1 q0 q5 q6 q7 v
set_option maxHeartbeats 1000000 in
set_option maxRecDepth 100000 in
theorem c_L_asks3 (l : Launch) (g : zG) (bL h : Nat) (q0 q1 q2 q3 q4 q5 q6 : Int32) (q7 : Int64) (q8 q9 : Int32) (q10 : Int64) (v : Int32) (htr : l.stackTraces = false)  : zMk l yL_asks wsL_asks 32 1100 1 6 g [.ref h, .int (3 : Int32), .int v] (oQ h (q0, q1, q2, q3, q4, q5, q6, q7, q8, q9, q10)) (zEL bL) (zQi g (P_L_asks3 q0 q1 q2 q3 q4 q5 q6 q7 q8 q9 q10 v) (oQ h)) := by
  refine zstartH (cc := cL_asks) (maxL := 4) (ret := (some .int)) (own := RL) (hh := [(0, 81, 82, 17), (0, 81, 86, 43), (0, 81, 90, 19)]) rfl (by decide) rfl zStL (Nat.le_of_ble_eq_true rfl) ?_
  intro p e s m below meth c A Z hr hlk htab H locs X ls hl
  have hown := Z.1.2.2.2.1
  have hts := Z.1.2.2.2.2
  have hE := Z.2.2.2.1
  have hx := Z.1.1
  have hb := Z.1.2.1
  have hl : lv_has ls 4 [(0, .ref h), (1, .int (3 : Int32)), (2, .int v)] := hl
  have X : zh g A (oQ h (q0, q1, q2, q3, q4, q5, q6, q7, q8, q9, q10)) s.heap H locs := X
  refine lv_iload_n hx hb dL_asks_0 rfl (lv_at hl 1 rfl) ?_
  refine lv_if_ne (tgt := 12) hx hb dL_asks_1 (by decide) (fun c1 => ?_) (fun c1 => ?_)
  · have qc1 := c1
    refine lv_iload_n hx hb dL_asks_12 rfl (lv_at hl 1 rfl) ?_
    refine lv_iconst (v := (1 : Int32)) hx hb dL_asks_13 (by decide) ?_
    refine lv_icmp_ne (tgt := 25) hx hb dL_asks_14 (by decide) (fun c2 => ?_) (fun c2 => ?_)
    · have qc2 := c2
      refine lv_iload_n hx hb dL_asks_25 rfl (lv_at hl 1 rfl) ?_
      refine lv_iconst (v := (2 : Int32)) hx hb dL_asks_26 (by decide) ?_
      refine lv_icmp_ne (tgt := 38) hx hb dL_asks_27 (by decide) (fun c3 => ?_) (fun c3 => ?_)
      · have qc3 := c3
        refine lv_iload_n hx hb dL_asks_38 rfl (lv_at hl 1 rfl) ?_
        refine lv_iconst (v := (3 : Int32)) hx hb dL_asks_39 (by decide) ?_
        refine lv_icmp_ne (tgt := 51) hx hb dL_asks_40 (by decide) (fun c4 => ?_) (fun c4 => ?_)
        · exact absurd c4 (by decide)
        · have qc4 := c4
          refine lv_aload_n hx hb dL_asks_43 rfl (lv_at hl 0 rfl) ?_
          refine lv_iload_n hx hb dL_asks_44 rfl (lv_at hl 2 rfl) ?_
          refine zsubX (n := 1) (As := [.int v]) (rest := []) (wc := oQ h (q0, q1, q2, q3, q4, q5, q6, q7, q8, q9, q10)) (wr := []) (ci := 0) (C := RX0) (T := TX0) (N := 11) [0] [] rfl rfl rfl rfl (by decide) Z X zStL (fun _ _ h => h) (c_X0_winning l g bL h q0 q1 q2 q3 q4 q5 q6 q7 q8 q9 q10 v htr) gL_asks_X0_winning rfl (by decide +kernel) ⟨Nat.le_of_ble_eq_true rfl, Nat.le_of_ble_eq_true rfl⟩ rfl rfl rfl rfl hl.1 (Nat.le_of_ble_eq_true rfl) dL_asks_45 ⟨Nat.le_of_ble_eq_true rfl, Nat.le_of_ble_eq_true rfl⟩ (fun X9 ce qE H locs hpx X hce hcv hcl => ?_) (fun r9 u9 H locs h9 X => ?_)
          · have X : zh g A (oQ h (q0, q1, q2, q3, q4, q5, q6, q7, q8, q9, q10)) s.heap H locs := X
            rcases aA3_x hpx with ⟨rfl, e9⟩ | ⟨rfl, e9⟩
            · refine vx_catch (own := RL) (name := eIO) (E := eIO) hown [] ⟨0, 81, 82, 17⟩ [⟨0, 81, 86, 43⟩, ⟨0, 81, 90, 19⟩] htab (fun z hz => nomatch hz) (by decide) (by decide) (hts (.classLink RL 17 eIO) (by decide +kernel)) (zcast hE (by decide +kernel)) hce hcv hcl ?_
              refine lv_astore_n (lv' := [(3, .ref qE), (0, .ref h), (1, .int (3 : Int32)), (2, .int v)]) hx hb dL_asks_82 rfl hl (by decide) rfl (fun ls hl => ?_)
              refine lv_bipush (v := (-30 : Int32)) hx hb dL_asks_83 (by decide) ?_
              exact zreti Z hr hlk (q0, q1, q2, q3, q4, q5, q6, q7, q8, q9, q10) X dL_asks_85 rfl (⟨rfl, e9⟩)
            · refine vx_catch (own := RL) (name := eIS) (E := eIS) hown [⟨0, 81, 82, 17⟩, ⟨0, 81, 86, 43⟩] ⟨0, 81, 90, 19⟩ [] htab (fun z hz => by rcases List.mem_cons.mp hz with rfl | hz; exact Or.inr ⟨by decide, eIO, hts (.classLink RL 17 eIO) (by decide +kernel), hE.2.2.2.2.2.2 (eIS, eIO) (by decide +kernel)⟩; obtain rfl := List.mem_singleton.mp hz; exact Or.inr ⟨by decide, eIA, hts (.classLink RL 43 eIA) (by decide +kernel), hE.2.2.2.2.2.2 (eIS, eIA) (by decide +kernel)⟩) (by decide) (by decide) (hts (.classLink RL 19 eIS) (by decide +kernel)) (zcast hE (by decide +kernel)) hce hcv hcl ?_
              refine lv_astore_n (lv' := [(3, .ref qE), (0, .ref h), (1, .int (3 : Int32)), (2, .int v)]) hx hb dL_asks_90 rfl hl (by decide) rfl (fun ls hl => ?_)
              refine lv_bipush (v := (-10 : Int32)) hx hb dL_asks_91 (by decide) ?_
              exact zreti Z hr hlk (q0, q1, q2, q3, q4, q5, q6, q7, q8, q9, q10) X dL_asks_93 rfl (⟨rfl, e9⟩)
          obtain ⟨hu9, e9⟩ := aA3_r h9
          rw [hu9] at X
          have X : zh g A (oQ h (q0, q1, q2, q3, q4, q5, q6, q7, q8, q9, q10)) s.heap H locs := X
          refine lv_goto (tgt := 81) hx hb dL_asks_48 (by decide) ?_
          exact W.widen (k := 1) (n := 6) (by omega) (by omega) (zreti Z hr hlk (q0, q1, q2, q3, q4, q5, q6, q7, q8, q9, q10) X dL_asks_81 rfl (⟨rfl, e9⟩))
      · exact absurd c3 (by decide)
    · exact absurd c2 (by decide)
  · exact absurd c1 (by decide)
def P_L_asks4 (q0 q1 q2 q3 q4 q5 q6 : Int32) (q7 : Int64) (q8 q9 : Int32) (q10 : Int64) : Int32 → QS → Prop := fun r u => u = (q0, q1, q2, q3, q4, q5, q6, q7, q8, q9, q10) ∧ r = aA4 q1 q0 q5 q6 q7
set_option maxHeartbeats 1000000 in
set_option maxRecDepth 100000 in
theorem c_L_asks4 (l : Launch) (g : zG) (bL h : Nat) (q0 q1 q2 q3 q4 q5 q6 : Int32) (q7 : Int64) (q8 q9 : Int32) (q10 : Int64) (v : Int32) (htr : l.stackTraces = false)  : zMk l yL_asks wsL_asks 32 1100 1 6 g [.ref h, .int (4 : Int32), .int v] (oQ h (q0, q1, q2, q3, q4, q5, q6, q7, q8, q9, q10)) (zEL bL) (zQi g (P_L_asks4 q0 q1 q2 q3 q4 q5 q6 q7 q8 q9 q10 ) (oQ h)) := by
  refine zstartH (cc := cL_asks) (maxL := 4) (ret := (some .int)) (own := RL) (hh := [(0, 81, 82, 17), (0, 81, 86, 43), (0, 81, 90, 19)]) rfl (by decide) rfl zStL (Nat.le_of_ble_eq_true rfl) ?_
  intro p e s m below meth c A Z hr hlk htab H locs X ls hl
  have hown := Z.1.2.2.2.1
  have hts := Z.1.2.2.2.2
  have hE := Z.2.2.2.1
  have hx := Z.1.1
  have hb := Z.1.2.1
  have hl : lv_has ls 4 [(0, .ref h), (1, .int (4 : Int32)), (2, .int v)] := hl
  have X : zh g A (oQ h (q0, q1, q2, q3, q4, q5, q6, q7, q8, q9, q10)) s.heap H locs := X
  refine lv_iload_n hx hb dL_asks_0 rfl (lv_at hl 1 rfl) ?_
  refine lv_if_ne (tgt := 12) hx hb dL_asks_1 (by decide) (fun c1 => ?_) (fun c1 => ?_)
  · have qc1 := c1
    refine lv_iload_n hx hb dL_asks_12 rfl (lv_at hl 1 rfl) ?_
    refine lv_iconst (v := (1 : Int32)) hx hb dL_asks_13 (by decide) ?_
    refine lv_icmp_ne (tgt := 25) hx hb dL_asks_14 (by decide) (fun c2 => ?_) (fun c2 => ?_)
    · have qc2 := c2
      refine lv_iload_n hx hb dL_asks_25 rfl (lv_at hl 1 rfl) ?_
      refine lv_iconst (v := (2 : Int32)) hx hb dL_asks_26 (by decide) ?_
      refine lv_icmp_ne (tgt := 38) hx hb dL_asks_27 (by decide) (fun c3 => ?_) (fun c3 => ?_)
      · have qc3 := c3
        refine lv_iload_n hx hb dL_asks_38 rfl (lv_at hl 1 rfl) ?_
        refine lv_iconst (v := (3 : Int32)) hx hb dL_asks_39 (by decide) ?_
        refine lv_icmp_ne (tgt := 51) hx hb dL_asks_40 (by decide) (fun c4 => ?_) (fun c4 => ?_)
        · have qc4 := c4
          refine lv_iload_n hx hb dL_asks_51 rfl (lv_at hl 1 rfl) ?_
          refine lv_iconst (v := (4 : Int32)) hx hb dL_asks_52 (by decide) ?_
          refine lv_icmp_ne (tgt := 63) hx hb dL_asks_53 (by decide) (fun c5 => ?_) (fun c5 => ?_)
          · exact absurd c5 (by decide)
          · have qc5 := c5
            refine lv_aload_n hx hb dL_asks_56 rfl (lv_at hl 0 rfl) ?_
            refine zsubX (n := 0) (As := []) (rest := []) (wc := oQ h (q0, q1, q2, q3, q4, q5, q6, q7, q8, q9, q10)) (wr := []) (ci := 0) (C := RX0) (T := TX0) (N := 11) [0] [] rfl rfl rfl rfl (by decide) Z X zStL (fun _ _ h => h) (c_X0_safe l g bL h q0 q1 q2 q3 q4 q5 q6 q7 q8 q9 q10 htr) gL_asks_X0_safe rfl (by decide +kernel) ⟨Nat.le_of_ble_eq_true rfl, Nat.le_of_ble_eq_true rfl⟩ rfl rfl rfl rfl hl.1 (Nat.le_of_ble_eq_true rfl) dL_asks_57 ⟨Nat.le_of_ble_eq_true rfl, Nat.le_of_ble_eq_true rfl⟩ (fun X9 ce qE H locs hpx X hce hcv hcl => ?_) (fun r9 u9 H locs h9 X => ?_)
            · have X : zh g A (oQ h (q0, q1, q2, q3, q4, q5, q6, q7, q8, q9, q10)) s.heap H locs := X
              obtain ⟨rfl, e9⟩ := aA4_x hpx
              refine vx_catch (own := RL) (name := eIS) (E := eIS) hown [⟨0, 81, 82, 17⟩, ⟨0, 81, 86, 43⟩] ⟨0, 81, 90, 19⟩ [] htab (fun z hz => by rcases List.mem_cons.mp hz with rfl | hz; exact Or.inr ⟨by decide, eIO, hts (.classLink RL 17 eIO) (by decide +kernel), hE.2.2.2.2.2.2 (eIS, eIO) (by decide +kernel)⟩; obtain rfl := List.mem_singleton.mp hz; exact Or.inr ⟨by decide, eIA, hts (.classLink RL 43 eIA) (by decide +kernel), hE.2.2.2.2.2.2 (eIS, eIA) (by decide +kernel)⟩) (by decide) (by decide) (hts (.classLink RL 19 eIS) (by decide +kernel)) (zcast hE (by decide +kernel)) hce hcv hcl ?_
              refine lv_astore_n (lv' := [(3, .ref qE), (0, .ref h), (1, .int (4 : Int32)), (2, .int v)]) hx hb dL_asks_90 rfl hl (by decide) rfl (fun ls hl => ?_)
              refine lv_bipush (v := (-10 : Int32)) hx hb dL_asks_91 (by decide) ?_
              exact zreti Z hr hlk (q0, q1, q2, q3, q4, q5, q6, q7, q8, q9, q10) X dL_asks_93 rfl (⟨rfl, e9⟩)
            obtain ⟨hu9, e9⟩ := aA4_r h9
            rw [hu9] at X
            have X : zh g A (oQ h (q0, q1, q2, q3, q4, q5, q6, q7, q8, q9, q10)) s.heap H locs := X
            refine lv_goto (tgt := 81) hx hb dL_asks_60 (by decide) ?_
            exact W.widen (k := 1) (n := 6) (by omega) (by omega) (zreti Z hr hlk (q0, q1, q2, q3, q4, q5, q6, q7, q8, q9, q10) X dL_asks_81 rfl (⟨rfl, e9⟩))
        · exact absurd c4 (by decide)
      · exact absurd c3 (by decide)
    · exact absurd c2 (by decide)
  · exact absurd c1 (by decide)
def P_L_asks5 (q0 q1 q2 q3 q4 q5 q6 : Int32) (q7 : Int64) (q8 q9 : Int32) (q10 : Int64) (v : Int32) (hp : Nat) : Int32 → QS → Prop := fun r u => u = (q0, q1, q2, q3, q4, q5, q6, q7, q8, q9, q10) ∧ r = aA5 q1 q0 q5 q6 q7 v hp
set_option maxHeartbeats 1000000 in
set_option maxRecDepth 100000 in
theorem c_L_asks5 (l : Launch) (g : zG) (bL h : Nat) (q0 q1 q2 q3 q4 q5 q6 : Int32) (q7 : Int64) (q8 q9 : Int32) (q10 : Int64) (v : Int32) (htr : l.stackTraces = false) (hp : Nat) (hinv : qInv q5 q7) (hq1 : q1 = 0 ∨ q1 = 1 ∨ q1 = 2) (hq3 : q1 = 1 → q3 = nI hp ∧ hp < 16 ∧ qHas q6 (nI hp) = false) : zMk l yL_asks wsL_asks 32 1100 1 6 g [.ref h, .int (5 : Int32), .int v] (oQ h (q0, q1, q2, q3, q4, q5, q6, q7, q8, q9, q10)) (zEL bL) (zQi g (P_L_asks5 q0 q1 q2 q3 q4 q5 q6 q7 q8 q9 q10 v hp) (oQ h)) := by
  refine zstartH (cc := cL_asks) (maxL := 4) (ret := (some .int)) (own := RL) (hh := [(0, 81, 82, 17), (0, 81, 86, 43), (0, 81, 90, 19)]) rfl (by decide) rfl zStL (Nat.le_of_ble_eq_true rfl) ?_
  intro p e s m below meth c A Z hr hlk htab H locs X ls hl
  have hown := Z.1.2.2.2.1
  have hts := Z.1.2.2.2.2
  have hE := Z.2.2.2.1
  have hx := Z.1.1
  have hb := Z.1.2.1
  have hl : lv_has ls 4 [(0, .ref h), (1, .int (5 : Int32)), (2, .int v)] := hl
  have X : zh g A (oQ h (q0, q1, q2, q3, q4, q5, q6, q7, q8, q9, q10)) s.heap H locs := X
  refine lv_iload_n hx hb dL_asks_0 rfl (lv_at hl 1 rfl) ?_
  refine lv_if_ne (tgt := 12) hx hb dL_asks_1 (by decide) (fun c1 => ?_) (fun c1 => ?_)
  · have qc1 := c1
    refine lv_iload_n hx hb dL_asks_12 rfl (lv_at hl 1 rfl) ?_
    refine lv_iconst (v := (1 : Int32)) hx hb dL_asks_13 (by decide) ?_
    refine lv_icmp_ne (tgt := 25) hx hb dL_asks_14 (by decide) (fun c2 => ?_) (fun c2 => ?_)
    · have qc2 := c2
      refine lv_iload_n hx hb dL_asks_25 rfl (lv_at hl 1 rfl) ?_
      refine lv_iconst (v := (2 : Int32)) hx hb dL_asks_26 (by decide) ?_
      refine lv_icmp_ne (tgt := 38) hx hb dL_asks_27 (by decide) (fun c3 => ?_) (fun c3 => ?_)
      · have qc3 := c3
        refine lv_iload_n hx hb dL_asks_38 rfl (lv_at hl 1 rfl) ?_
        refine lv_iconst (v := (3 : Int32)) hx hb dL_asks_39 (by decide) ?_
        refine lv_icmp_ne (tgt := 51) hx hb dL_asks_40 (by decide) (fun c4 => ?_) (fun c4 => ?_)
        · have qc4 := c4
          refine lv_iload_n hx hb dL_asks_51 rfl (lv_at hl 1 rfl) ?_
          refine lv_iconst (v := (4 : Int32)) hx hb dL_asks_52 (by decide) ?_
          refine lv_icmp_ne (tgt := 63) hx hb dL_asks_53 (by decide) (fun c5 => ?_) (fun c5 => ?_)
          · have qc5 := c5
            refine lv_iload_n hx hb dL_asks_63 rfl (lv_at hl 1 rfl) ?_
            refine lv_iconst (v := (5 : Int32)) hx hb dL_asks_64 (by decide) ?_
            refine lv_icmp_ne (tgt := 76) hx hb dL_asks_65 (by decide) (fun c6 => ?_) (fun c6 => ?_)
            · exact absurd c6 (by decide)
            · have qc6 := c6
              refine lv_aload_n hx hb dL_asks_68 rfl (lv_at hl 0 rfl) ?_
              refine lv_iload_n hx hb dL_asks_69 rfl (lv_at hl 2 rfl) ?_
              refine zsubX (n := 1) (As := [.int v]) (rest := []) (wc := oQ h (q0, q1, q2, q3, q4, q5, q6, q7, q8, q9, q10)) (wr := []) (ci := 0) (C := RX0) (T := TX0) (N := 11) [0] [] rfl rfl rfl rfl (by decide) Z X zStL (fun _ _ h => h) (c_X0_worth l g bL h q0 q1 q2 q3 q4 q5 q6 q7 q8 q9 q10 v htr hp hinv hq1 hq3) gL_asks_X0_worth rfl (by decide +kernel) ⟨Nat.le_of_ble_eq_true rfl, Nat.le_of_ble_eq_true rfl⟩ rfl rfl rfl rfl hl.1 (Nat.le_of_ble_eq_true rfl) dL_asks_70 ⟨Nat.le_of_ble_eq_true rfl, Nat.le_of_ble_eq_true rfl⟩ (fun X9 ce qE H locs hpx X hce hcv hcl => ?_) (fun r9 u9 H locs h9 X => ?_)
              · have X : zh g A (oQ h (q0, q1, q2, q3, q4, q5, q6, q7, q8, q9, q10)) s.heap H locs := X
                rcases aA5_x hpx with ⟨rfl, e9⟩ | ⟨rfl, e9⟩
                · refine vx_catch (own := RL) (name := eIA) (E := eIA) hown [⟨0, 81, 82, 17⟩] ⟨0, 81, 86, 43⟩ [⟨0, 81, 90, 19⟩] htab (fun z hz => by obtain rfl := List.mem_singleton.mp hz; exact Or.inr ⟨by decide, eIO, hts (.classLink RL 17 eIO) (by decide +kernel), hE.2.2.2.2.2.2 (eIA, eIO) (by decide +kernel)⟩) (by decide) (by decide) (hts (.classLink RL 43 eIA) (by decide +kernel)) (zcast hE (by decide +kernel)) hce hcv hcl ?_
                  refine lv_astore_n (lv' := [(3, .ref qE), (0, .ref h), (1, .int (5 : Int32)), (2, .int v)]) hx hb dL_asks_86 rfl hl (by decide) rfl (fun ls hl => ?_)
                  refine lv_bipush (v := (-20 : Int32)) hx hb dL_asks_87 (by decide) ?_
                  exact zreti Z hr hlk (q0, q1, q2, q3, q4, q5, q6, q7, q8, q9, q10) X dL_asks_89 rfl (⟨rfl, e9⟩)
                · refine vx_catch (own := RL) (name := eIS) (E := eIS) hown [⟨0, 81, 82, 17⟩, ⟨0, 81, 86, 43⟩] ⟨0, 81, 90, 19⟩ [] htab (fun z hz => by rcases List.mem_cons.mp hz with rfl | hz; exact Or.inr ⟨by decide, eIO, hts (.classLink RL 17 eIO) (by decide +kernel), hE.2.2.2.2.2.2 (eIS, eIO) (by decide +kernel)⟩; obtain rfl := List.mem_singleton.mp hz; exact Or.inr ⟨by decide, eIA, hts (.classLink RL 43 eIA) (by decide +kernel), hE.2.2.2.2.2.2 (eIS, eIA) (by decide +kernel)⟩) (by decide) (by decide) (hts (.classLink RL 19 eIS) (by decide +kernel)) (zcast hE (by decide +kernel)) hce hcv hcl ?_
                  refine lv_astore_n (lv' := [(3, .ref qE), (0, .ref h), (1, .int (5 : Int32)), (2, .int v)]) hx hb dL_asks_90 rfl hl (by decide) rfl (fun ls hl => ?_)
                  refine lv_bipush (v := (-10 : Int32)) hx hb dL_asks_91 (by decide) ?_
                  exact zreti Z hr hlk (q0, q1, q2, q3, q4, q5, q6, q7, q8, q9, q10) X dL_asks_93 rfl (⟨rfl, e9⟩)
              obtain ⟨hu9, e9⟩ := aA5_r h9
              rw [hu9] at X
              have X : zh g A (oQ h (q0, q1, q2, q3, q4, q5, q6, q7, q8, q9, q10)) s.heap H locs := X
              refine lv_goto (tgt := 81) hx hb dL_asks_73 (by decide) ?_
              exact W.widen (k := 1) (n := 6) (by omega) (by omega) (zreti Z hr hlk (q0, q1, q2, q3, q4, q5, q6, q7, q8, q9, q10) X dL_asks_81 rfl (⟨rfl, e9⟩))
          · exact absurd c5 (by decide)
        · exact absurd c4 (by decide)
      · exact absurd c3 (by decide)
    · exact absurd c2 (by decide)
  · exact absurd c1 (by decide)
def P_L_asks6 (q0 q1 q2 q3 q4 q5 q6 : Int32) (q7 : Int64) (q8 q9 : Int32) (q10 : Int64) (v : Int32) (hp : Nat) : Int32 → QS → Prop := fun r u => u = (q0, q1, q2, q3, q4, q5, q6, q7, q8, q9, q10) ∧ r = aA6 q1 q0 q5 q6 q7 v hp
set_option maxHeartbeats 1000000 in
set_option maxRecDepth 100000 in
theorem c_L_asks6 (l : Launch) (g : zG) (bL h : Nat) (q0 q1 q2 q3 q4 q5 q6 : Int32) (q7 : Int64) (q8 q9 : Int32) (q10 : Int64) (v : Int32) (htr : l.stackTraces = false) (hp : Nat) (hinv : qInv q5 q7) (hq1 : q1 = 0 ∨ q1 = 1 ∨ q1 = 2) (hq3 : q1 = 1 → q3 = nI hp ∧ hp < 16 ∧ qHas q6 (nI hp) = false) : zMk l yL_asks wsL_asks 32 1100 1 6 g [.ref h, .int (6 : Int32), .int v] (oQ h (q0, q1, q2, q3, q4, q5, q6, q7, q8, q9, q10)) (zEL bL) (zQi g (P_L_asks6 q0 q1 q2 q3 q4 q5 q6 q7 q8 q9 q10 v hp) (oQ h)) := by
  refine zstartH (cc := cL_asks) (maxL := 4) (ret := (some .int)) (own := RL) (hh := [(0, 81, 82, 17), (0, 81, 86, 43), (0, 81, 90, 19)]) rfl (by decide) rfl zStL (Nat.le_of_ble_eq_true rfl) ?_
  intro p e s m below meth c A Z hr hlk htab H locs X ls hl
  have hown := Z.1.2.2.2.1
  have hts := Z.1.2.2.2.2
  have hE := Z.2.2.2.1
  have hx := Z.1.1
  have hb := Z.1.2.1
  have hl : lv_has ls 4 [(0, .ref h), (1, .int (6 : Int32)), (2, .int v)] := hl
  have X : zh g A (oQ h (q0, q1, q2, q3, q4, q5, q6, q7, q8, q9, q10)) s.heap H locs := X
  refine lv_iload_n hx hb dL_asks_0 rfl (lv_at hl 1 rfl) ?_
  refine lv_if_ne (tgt := 12) hx hb dL_asks_1 (by decide) (fun c1 => ?_) (fun c1 => ?_)
  · have qc1 := c1
    refine lv_iload_n hx hb dL_asks_12 rfl (lv_at hl 1 rfl) ?_
    refine lv_iconst (v := (1 : Int32)) hx hb dL_asks_13 (by decide) ?_
    refine lv_icmp_ne (tgt := 25) hx hb dL_asks_14 (by decide) (fun c2 => ?_) (fun c2 => ?_)
    · have qc2 := c2
      refine lv_iload_n hx hb dL_asks_25 rfl (lv_at hl 1 rfl) ?_
      refine lv_iconst (v := (2 : Int32)) hx hb dL_asks_26 (by decide) ?_
      refine lv_icmp_ne (tgt := 38) hx hb dL_asks_27 (by decide) (fun c3 => ?_) (fun c3 => ?_)
      · have qc3 := c3
        refine lv_iload_n hx hb dL_asks_38 rfl (lv_at hl 1 rfl) ?_
        refine lv_iconst (v := (3 : Int32)) hx hb dL_asks_39 (by decide) ?_
        refine lv_icmp_ne (tgt := 51) hx hb dL_asks_40 (by decide) (fun c4 => ?_) (fun c4 => ?_)
        · have qc4 := c4
          refine lv_iload_n hx hb dL_asks_51 rfl (lv_at hl 1 rfl) ?_
          refine lv_iconst (v := (4 : Int32)) hx hb dL_asks_52 (by decide) ?_
          refine lv_icmp_ne (tgt := 63) hx hb dL_asks_53 (by decide) (fun c5 => ?_) (fun c5 => ?_)
          · have qc5 := c5
            refine lv_iload_n hx hb dL_asks_63 rfl (lv_at hl 1 rfl) ?_
            refine lv_iconst (v := (5 : Int32)) hx hb dL_asks_64 (by decide) ?_
            refine lv_icmp_ne (tgt := 76) hx hb dL_asks_65 (by decide) (fun c6 => ?_) (fun c6 => ?_)
            · have qc6 := c6
              refine lv_aload_n hx hb dL_asks_76 rfl (lv_at hl 0 rfl) ?_
              refine lv_iload_n hx hb dL_asks_77 rfl (lv_at hl 2 rfl) ?_
              refine zsubX (n := 1) (As := [.int v]) (rest := []) (wc := oQ h (q0, q1, q2, q3, q4, q5, q6, q7, q8, q9, q10)) (wr := []) (ci := 0) (C := RX0) (T := TX0) (N := 11) [0] [] rfl rfl rfl rfl (by decide) Z X zStL (fun _ _ h => h) (c_X0_best l g bL h q0 q1 q2 q3 q4 q5 q6 q7 q8 q9 q10 v htr hp hinv hq1 hq3) gL_asks_X0_best rfl (by decide +kernel) ⟨Nat.le_of_ble_eq_true rfl, Nat.le_of_ble_eq_true rfl⟩ rfl rfl rfl rfl hl.1 (Nat.le_of_ble_eq_true rfl) dL_asks_78 ⟨Nat.le_of_ble_eq_true rfl, Nat.le_of_ble_eq_true rfl⟩ (fun X9 ce qE H locs hpx X hce hcv hcl => ?_) (fun r9 u9 H locs h9 X => ?_)
              · have X : zh g A (oQ h (q0, q1, q2, q3, q4, q5, q6, q7, q8, q9, q10)) s.heap H locs := X
                rcases aA6_x hpx with ⟨rfl, e9⟩ | ⟨rfl, e9⟩
                · refine vx_catch (own := RL) (name := eIA) (E := eIA) hown [⟨0, 81, 82, 17⟩] ⟨0, 81, 86, 43⟩ [⟨0, 81, 90, 19⟩] htab (fun z hz => by obtain rfl := List.mem_singleton.mp hz; exact Or.inr ⟨by decide, eIO, hts (.classLink RL 17 eIO) (by decide +kernel), hE.2.2.2.2.2.2 (eIA, eIO) (by decide +kernel)⟩) (by decide) (by decide) (hts (.classLink RL 43 eIA) (by decide +kernel)) (zcast hE (by decide +kernel)) hce hcv hcl ?_
                  refine lv_astore_n (lv' := [(3, .ref qE), (0, .ref h), (1, .int (6 : Int32)), (2, .int v)]) hx hb dL_asks_86 rfl hl (by decide) rfl (fun ls hl => ?_)
                  refine lv_bipush (v := (-20 : Int32)) hx hb dL_asks_87 (by decide) ?_
                  exact zreti Z hr hlk (q0, q1, q2, q3, q4, q5, q6, q7, q8, q9, q10) X dL_asks_89 rfl (⟨rfl, e9⟩)
                · refine vx_catch (own := RL) (name := eIS) (E := eIS) hown [⟨0, 81, 82, 17⟩, ⟨0, 81, 86, 43⟩] ⟨0, 81, 90, 19⟩ [] htab (fun z hz => by rcases List.mem_cons.mp hz with rfl | hz; exact Or.inr ⟨by decide, eIO, hts (.classLink RL 17 eIO) (by decide +kernel), hE.2.2.2.2.2.2 (eIS, eIO) (by decide +kernel)⟩; obtain rfl := List.mem_singleton.mp hz; exact Or.inr ⟨by decide, eIA, hts (.classLink RL 43 eIA) (by decide +kernel), hE.2.2.2.2.2.2 (eIS, eIA) (by decide +kernel)⟩) (by decide) (by decide) (hts (.classLink RL 19 eIS) (by decide +kernel)) (zcast hE (by decide +kernel)) hce hcv hcl ?_
                  refine lv_astore_n (lv' := [(3, .ref qE), (0, .ref h), (1, .int (6 : Int32)), (2, .int v)]) hx hb dL_asks_90 rfl hl (by decide) rfl (fun ls hl => ?_)
                  refine lv_bipush (v := (-10 : Int32)) hx hb dL_asks_91 (by decide) ?_
                  exact zreti Z hr hlk (q0, q1, q2, q3, q4, q5, q6, q7, q8, q9, q10) X dL_asks_93 rfl (⟨rfl, e9⟩)
              obtain ⟨hu9, e9⟩ := aA6_r h9
              rw [hu9] at X
              have X : zh g A (oQ h (q0, q1, q2, q3, q4, q5, q6, q7, q8, q9, q10)) s.heap H locs := X
              exact W.widen (k := 1) (n := 6) (by omega) (by omega) (zreti Z hr hlk (q0, q1, q2, q3, q4, q5, q6, q7, q8, q9, q10) X dL_asks_81 rfl (⟨rfl, e9⟩))
            · exact absurd c6 (by decide)
          · exact absurd c5 (by decide)
        · exact absurd c4 (by decide)
      · exact absurd c3 (by decide)
    · exact absurd c2 (by decide)
  · exact absurd c1 (by decide)
def P_L_does1 (q0 q1 q2 q3 q4 q5 q6 : Int32) (q7 : Int64) (q8 q9 : Int32) (q10 : Int64) (v : Int32) : Int32 → QS → Prop := fun r u => P_X0_give q0 q1 q2 q3 q4 q5 q6 q7 q8 q9 q10 v r u ∨ (r = -30 ∧ PX_X0_give q0 q1 q2 q3 q4 q5 q6 q7 q8 q9 q10 v eIO ∧ u = (q0, q1, q2, q3, q4, q5, q6, q7, q8, q9, q10)) ∨ (r = -10 ∧ PX_X0_give q0 q1 q2 q3 q4 q5 q6 q7 q8 q9 q10 v eIS ∧ u = (q0, q1, q2, q3, q4, q5, q6, q7, q8, q9, q10))
set_option maxHeartbeats 1000000 in
set_option maxRecDepth 100000 in
theorem c_L_does1 (l : Launch) (g : zG) (bL h : Nat) (q0 q1 q2 q3 q4 q5 q6 : Int32) (q7 : Int64) (q8 q9 : Int32) (q10 : Int64) (v : Int32) (htr : l.stackTraces = false)  : zMk l yL_does wsL_does 32 1100 1 6 g [.ref h, .int (1 : Int32), .int v] (oQ h (q0, q1, q2, q3, q4, q5, q6, q7, q8, q9, q10)) (zEL bL) (zQi g (P_L_does1 q0 q1 q2 q3 q4 q5 q6 q7 q8 q9 q10 v) (oQ h)) := by
  refine zstartH (cc := cL_does) (maxL := 4) (ret := (some .int)) (own := RL) (hh := [(0, 17, 18, 17), (0, 17, 22, 19)]) rfl (by decide) rfl zStL (Nat.le_of_ble_eq_true rfl) ?_
  intro p e s m below meth c A Z hr hlk htab H locs X ls hl
  have hown := Z.1.2.2.2.1
  have hts := Z.1.2.2.2.2
  have hE := Z.2.2.2.1
  have hx := Z.1.1
  have hb := Z.1.2.1
  have hl : lv_has ls 4 [(0, .ref h), (1, .int (1 : Int32)), (2, .int v)] := hl
  have X : zh g A (oQ h (q0, q1, q2, q3, q4, q5, q6, q7, q8, q9, q10)) s.heap H locs := X
  refine lv_iload_n hx hb dL_does_0 rfl (lv_at hl 1 rfl) ?_
  refine lv_if_eq (tgt := 12) hx hb dL_does_1 (by decide) (fun c1 => ?_) (fun c1 => ?_)
  · exact absurd c1 (by decide)
  · have qc1 := c1
    refine lv_aload_n hx hb dL_does_4 rfl (lv_at hl 0 rfl) ?_
    refine lv_iload_n hx hb dL_does_5 rfl (lv_at hl 2 rfl) ?_
    refine zsubX (n := 1) (As := [.int v]) (rest := []) (wc := oQ h (q0, q1, q2, q3, q4, q5, q6, q7, q8, q9, q10)) (wr := []) (ci := 0) (C := RX0) (T := TX0) (N := 11) [0] [] rfl rfl rfl rfl (by decide) Z X zStL (fun _ _ h => h) (c_X0_give l g bL h q0 q1 q2 q3 q4 q5 q6 q7 q8 q9 q10 v htr) gL_does_X0_give rfl (by decide +kernel) ⟨Nat.le_of_ble_eq_true rfl, Nat.le_of_ble_eq_true rfl⟩ rfl rfl rfl rfl hl.1 (Nat.le_of_ble_eq_true rfl) dL_does_6 ⟨Nat.le_of_ble_eq_true rfl, Nat.le_of_ble_eq_true rfl⟩ (fun X9 ce qE H locs hpx X hce hcv hcl => ?_) (fun r9 u9 H locs h9 X => ?_)
    · have X : zh g A (oQ h (q0, q1, q2, q3, q4, q5, q6, q7, q8, q9, q10)) s.heap H locs := X
      have hE9 : X9 = eIO ∨ X9 = eIS := by
        rcases hpx with q | q
        · exact Or.inl q.1
        · exact Or.inr q.1
      rcases hE9 with rfl | rfl
      · refine vx_catch (own := RL) (name := eIO) (E := eIO) hown [] ⟨0, 17, 18, 17⟩ [⟨0, 17, 22, 19⟩] htab (fun z hz => nomatch hz) (by decide) (by decide) (hts (.classLink RL 17 eIO) (by decide +kernel)) (zcast hE (by decide +kernel)) hce hcv hcl ?_
        refine lv_astore_n (lv' := [(3, .ref qE), (0, .ref h), (1, .int (1 : Int32)), (2, .int v)]) hx hb dL_does_18 rfl hl (by decide) rfl (fun ls hl => ?_)
        refine lv_bipush (v := (-30 : Int32)) hx hb dL_does_19 (by decide) ?_
        exact zreti Z hr hlk (q0, q1, q2, q3, q4, q5, q6, q7, q8, q9, q10) X dL_does_21 rfl (Or.inr (Or.inl ⟨rfl, hpx, rfl⟩))
      · refine vx_catch (own := RL) (name := eIS) (E := eIS) hown [⟨0, 17, 18, 17⟩] ⟨0, 17, 22, 19⟩ [] htab (fun z hz => by obtain rfl := List.mem_singleton.mp hz; exact Or.inr ⟨by decide, eIO, hts (.classLink RL 17 eIO) (by decide +kernel), hE.2.2.2.2.2.2 (eIS, eIO) (by decide +kernel)⟩) (by decide) (by decide) (hts (.classLink RL 19 eIS) (by decide +kernel)) (zcast hE (by decide +kernel)) hce hcv hcl ?_
        refine lv_astore_n (lv' := [(3, .ref qE), (0, .ref h), (1, .int (1 : Int32)), (2, .int v)]) hx hb dL_does_22 rfl hl (by decide) rfl (fun ls hl => ?_)
        refine lv_bipush (v := (-10 : Int32)) hx hb dL_does_23 (by decide) ?_
        exact zreti Z hr hlk (q0, q1, q2, q3, q4, q5, q6, q7, q8, q9, q10) X dL_does_25 rfl (Or.inr (Or.inr ⟨rfl, hpx, rfl⟩))
    obtain ⟨u90, u91, u92, u93, u94, u95, u96, u97, u98, u99, u910⟩ := u9
    have X : zh g A (oQ h (u90, u91, u92, u93, u94, u95, u96, u97, u98, u99, u910)) s.heap H locs := X
    refine lv_goto (tgt := 17) hx hb dL_does_9 (by decide) ?_
    exact W.widen (k := 1) (n := 6) (by omega) (by omega) (zreti Z hr hlk (u90, u91, u92, u93, u94, u95, u96, u97, u98, u99, u910) X dL_does_17 rfl (Or.inl h9))
def P_L_does0 (q0 q1 q2 q3 q4 q5 q6 : Int32) (q7 : Int64) (q8 q9 : Int32) (q10 : Int64) (v : Int32) : Int32 → QS → Prop := fun r u => P_X0_place q0 q1 q2 q3 q4 q5 q6 q7 q8 q9 q10 v r u ∨ (r = -30 ∧ PX_X0_place q0 q1 q2 q3 q4 q5 q6 q7 q8 q9 q10 v eIO ∧ u = (q0, q1, q2, q3, q4, q5, q6, q7, q8, q9, q10)) ∨ (r = -10 ∧ PX_X0_place q0 q1 q2 q3 q4 q5 q6 q7 q8 q9 q10 v eIS ∧ u = (q0, q1, q2, q3, q4, q5, q6, q7, q8, q9, q10))
set_option maxHeartbeats 1000000 in
set_option maxRecDepth 100000 in
theorem c_L_does0 (l : Launch) (g : zG) (bL h : Nat) (q0 q1 q2 q3 q4 q5 q6 : Int32) (q7 : Int64) (q8 q9 : Int32) (q10 : Int64) (v : Int32) (htr : l.stackTraces = false)  : zMk l yL_does wsL_does 32 1100 1 6 g [.ref h, .int (0 : Int32), .int v] (oQ h (q0, q1, q2, q3, q4, q5, q6, q7, q8, q9, q10)) (zEL bL) (zQi g (P_L_does0 q0 q1 q2 q3 q4 q5 q6 q7 q8 q9 q10 v) (oQ h)) := by
  refine zstartH (cc := cL_does) (maxL := 4) (ret := (some .int)) (own := RL) (hh := [(0, 17, 18, 17), (0, 17, 22, 19)]) rfl (by decide) rfl zStL (Nat.le_of_ble_eq_true rfl) ?_
  intro p e s m below meth c A Z hr hlk htab H locs X ls hl
  have hown := Z.1.2.2.2.1
  have hts := Z.1.2.2.2.2
  have hE := Z.2.2.2.1
  have hx := Z.1.1
  have hb := Z.1.2.1
  have hl : lv_has ls 4 [(0, .ref h), (1, .int (0 : Int32)), (2, .int v)] := hl
  have X : zh g A (oQ h (q0, q1, q2, q3, q4, q5, q6, q7, q8, q9, q10)) s.heap H locs := X
  refine lv_iload_n hx hb dL_does_0 rfl (lv_at hl 1 rfl) ?_
  refine lv_if_eq (tgt := 12) hx hb dL_does_1 (by decide) (fun c1 => ?_) (fun c1 => ?_)
  · have qc1 := c1
    refine lv_aload_n hx hb dL_does_12 rfl (lv_at hl 0 rfl) ?_
    refine lv_iload_n hx hb dL_does_13 rfl (lv_at hl 2 rfl) ?_
    refine zsubX (n := 1) (As := [.int v]) (rest := []) (wc := oQ h (q0, q1, q2, q3, q4, q5, q6, q7, q8, q9, q10)) (wr := []) (ci := 0) (C := RX0) (T := TX0) (N := 11) [0] [] rfl rfl rfl rfl (by decide) Z X zStL (fun _ _ h => h) (c_X0_place l g bL h q0 q1 q2 q3 q4 q5 q6 q7 q8 q9 q10 v htr) gL_does_X0_place rfl (by decide +kernel) ⟨Nat.le_of_ble_eq_true rfl, Nat.le_of_ble_eq_true rfl⟩ rfl rfl rfl rfl hl.1 (Nat.le_of_ble_eq_true rfl) dL_does_14 ⟨Nat.le_of_ble_eq_true rfl, Nat.le_of_ble_eq_true rfl⟩ (fun X9 ce qE H locs hpx X hce hcv hcl => ?_) (fun r9 u9 H locs h9 X => ?_)
    · have X : zh g A (oQ h (q0, q1, q2, q3, q4, q5, q6, q7, q8, q9, q10)) s.heap H locs := X
      have hE9 : X9 = eIO ∨ X9 = eIS := by
        rcases hpx with q | q
        · exact Or.inl q.1
        · exact Or.inr q.1
      rcases hE9 with rfl | rfl
      · refine vx_catch (own := RL) (name := eIO) (E := eIO) hown [] ⟨0, 17, 18, 17⟩ [⟨0, 17, 22, 19⟩] htab (fun z hz => nomatch hz) (by decide) (by decide) (hts (.classLink RL 17 eIO) (by decide +kernel)) (zcast hE (by decide +kernel)) hce hcv hcl ?_
        refine lv_astore_n (lv' := [(3, .ref qE), (0, .ref h), (1, .int (0 : Int32)), (2, .int v)]) hx hb dL_does_18 rfl hl (by decide) rfl (fun ls hl => ?_)
        refine lv_bipush (v := (-30 : Int32)) hx hb dL_does_19 (by decide) ?_
        exact zreti Z hr hlk (q0, q1, q2, q3, q4, q5, q6, q7, q8, q9, q10) X dL_does_21 rfl (Or.inr (Or.inl ⟨rfl, hpx, rfl⟩))
      · refine vx_catch (own := RL) (name := eIS) (E := eIS) hown [⟨0, 17, 18, 17⟩] ⟨0, 17, 22, 19⟩ [] htab (fun z hz => by obtain rfl := List.mem_singleton.mp hz; exact Or.inr ⟨by decide, eIO, hts (.classLink RL 17 eIO) (by decide +kernel), hE.2.2.2.2.2.2 (eIS, eIO) (by decide +kernel)⟩) (by decide) (by decide) (hts (.classLink RL 19 eIS) (by decide +kernel)) (zcast hE (by decide +kernel)) hce hcv hcl ?_
        refine lv_astore_n (lv' := [(3, .ref qE), (0, .ref h), (1, .int (0 : Int32)), (2, .int v)]) hx hb dL_does_22 rfl hl (by decide) rfl (fun ls hl => ?_)
        refine lv_bipush (v := (-10 : Int32)) hx hb dL_does_23 (by decide) ?_
        exact zreti Z hr hlk (q0, q1, q2, q3, q4, q5, q6, q7, q8, q9, q10) X dL_does_25 rfl (Or.inr (Or.inr ⟨rfl, hpx, rfl⟩))
    obtain ⟨u90, u91, u92, u93, u94, u95, u96, u97, u98, u99, u910⟩ := u9
    have X : zh g A (oQ h (u90, u91, u92, u93, u94, u95, u96, u97, u98, u99, u910)) s.heap H locs := X
    exact W.widen (k := 1) (n := 6) (by omega) (by omega) (zreti Z hr hlk (u90, u91, u92, u93, u94, u95, u96, u97, u98, u99, u910) X dL_does_17 rfl (Or.inl h9))
  · exact absurd c1 (by decide)
def P_L_alike (q0 q1 q2 q3 q4 q5 q6 : Int32) (q7 : Int64) (q8 q9 : Int32) (q10 : Int64) : Int32 → QS → Prop := fun r u => u = (q0, q1, q2, q3, q4, q5, q6, q7, q8, q9, q10) ∧ r = aAL q5 q7 q8 q9 q10
set_option maxHeartbeats 1000000 in
set_option maxRecDepth 100000 in
theorem c_L_alike (l : Launch) (g : zG) (bL h : Nat) (q0 q1 q2 q3 q4 q5 q6 : Int32) (q7 : Int64) (q8 q9 : Int32) (q10 : Int64)  (htr : l.stackTraces = false)  : zMk l yL_alike wsL_alike 32 1100 1 6 g [.ref h] (oQ h (q0, q1, q2, q3, q4, q5, q6, q7, q8, q9, q10)) (zEL bL) (zQi g (P_L_alike q0 q1 q2 q3 q4 q5 q6 q7 q8 q9 q10) (oQ h)) := by
  refine zstartH (cc := cL_alike) (maxL := 2) (ret := (some .int)) (own := RL) (hh := [(0, 12, 13, 19)]) rfl (by decide) rfl zStL (Nat.le_of_ble_eq_true rfl) ?_
  intro p e s m below meth c A Z hr hlk htab H locs X ls hl
  have hown := Z.1.2.2.2.1
  have hts := Z.1.2.2.2.2
  have hE := Z.2.2.2.1
  have hx := Z.1.1
  have hb := Z.1.2.1
  have hl : lv_has ls 2 [(0, .ref h)] := hl
  have X : zh g A (oQ h (q0, q1, q2, q3, q4, q5, q6, q7, q8, q9, q10)) s.heap H locs := X
  refine lv_aload_n hx hb dL_alike_0 rfl (lv_at hl 0 rfl) ?_
  refine zsubX (n := 0) (As := []) (rest := []) (wc := oQ h (q0, q1, q2, q3, q4, q5, q6, q7, q8, q9, q10)) (wr := []) (ci := 0) (C := RX0) (T := TX0) (N := 11) [0] [] rfl rfl rfl rfl (by decide) Z X zStL (fun _ _ h => h) (c_X0_isAlike l g bL h q0 q1 q2 q3 q4 q5 q6 q7 q8 q9 q10 htr) gL_alike_X0_isAlike rfl (by decide +kernel) ⟨Nat.le_of_ble_eq_true rfl, Nat.le_of_ble_eq_true rfl⟩ rfl rfl rfl rfl hl.1 (Nat.le_of_ble_eq_true rfl) dL_alike_1 ⟨Nat.le_of_ble_eq_true rfl, Nat.le_of_ble_eq_true rfl⟩ (fun X9 ce qE H locs hpx X hce hcv hcl => ?_) (fun r9 u9 H locs h9 X => ?_)
  · have X : zh g A (oQ h (q0, q1, q2, q3, q4, q5, q6, q7, q8, q9, q10)) s.heap H locs := X
    obtain ⟨rfl, e9⟩ := aAL_x hpx
    refine vx_catch (own := RL) (name := eIS) (E := eIS) hown [] ⟨0, 12, 13, 19⟩ [] htab (fun z hz => nomatch hz) (by decide) (by decide) (hts (.classLink RL 19 eIS) (by decide +kernel)) (zcast hE (by decide +kernel)) hce hcv hcl ?_
    refine lv_astore_n (lv' := [(1, .ref qE), (0, .ref h)]) hx hb dL_alike_13 rfl hl (by decide) rfl (fun ls hl => ?_)
    refine lv_bipush (v := (-10 : Int32)) hx hb dL_alike_14 (by decide) ?_
    exact zreti Z hr hlk (q0, q1, q2, q3, q4, q5, q6, q7, q8, q9, q10) X dL_alike_16 rfl (⟨rfl, e9⟩)
  obtain ⟨hu9, e9⟩ := aAL_r h9
  rw [hu9] at X
  have X : zh g A (oQ h (q0, q1, q2, q3, q4, q5, q6, q7, q8, q9, q10)) s.heap H locs := X
  refine lv_if_eq (tgt := 11) hx hb dL_alike_4 (by decide) (fun c1 => ?_) (fun c1 => ?_)
  · have qc1 := c1
    refine lv_iconst (v := (0 : Int32)) hx hb dL_alike_11 (by decide) ?_
    exact W.widen (k := 1) (n := 6) (by omega) (by omega) (zreti Z hr hlk (q0, q1, q2, q3, q4, q5, q6, q7, q8, q9, q10) X dL_alike_12 rfl (⟨rfl, by first | exact aAL_0 e9 (by assumption) | exact aAL_1 e9 (by assumption)⟩))
  · have qc1 := c1
    refine lv_iconst (v := (1 : Int32)) hx hb dL_alike_7 (by decide) ?_
    refine lv_goto (tgt := 12) hx hb dL_alike_8 (by decide) ?_
    exact W.widen (k := 1) (n := 6) (by omega) (by omega) (zreti Z hr hlk (q0, q1, q2, q3, q4, q5, q6, q7, q8, q9, q10) X dL_alike_12 rfl (⟨rfl, by first | exact aAL_0 e9 (by assumption) | exact aAL_1 e9 (by assumption)⟩))
