/-! the law's helpers: a call, or the number of its exception -/
abbrev WH (g : zG) (h o : Nat) (u : QS × (Nat → Int64)) : va_W := oQ h u.1 ++ oOut g o u.2
theorem zcast {bL : Nat} {A : Nat → Prop} {s : State} {args : Array Value} (h : zEL bL A s) {w : Cond} (hw : w ∈ zXB) : w.before args s = true := va_tabs (zXB_tab w hw) rfl (h.2.2.1 w hw)
def PL_give (q0 q1 q2 q3 q4 q5 q6 : Int32) (q7 : Int64) (q8 q9 : Int32) (q10 : Int64) (pn : Int32) : Int32 → QS × (Nat → Int64) → Prop := fun r u => (r = 0 ∧ ∃ v : Int32, P_X0_give q0 q1 q2 q3 q4 q5 q6 q7 q8 q9 q10 pn v u.1 ∧ u.2 0 = v.toInt64) ∨ (r = 1 ∧ PX_X0_give q0 q1 q2 q3 q4 q5 q6 q7 q8 q9 q10 pn eIO ∧ u.1 = (q0, q1, q2, q3, q4, q5, q6, q7, q8, q9, q10)) ∨ (r = 2 ∧ PX_X0_give q0 q1 q2 q3 q4 q5 q6 q7 q8 q9 q10 pn eIS ∧ u.1 = (q0, q1, q2, q3, q4, q5, q6, q7, q8, q9, q10))
set_option maxHeartbeats 1000000 in
set_option maxRecDepth 100000 in
theorem c_L_give (l : Launch) (g : zG) (bL h o : Nat) (q0 q1 q2 q3 q4 q5 q6 : Int32) (q7 : Int64) (q8 q9 : Int32) (q10 : Int64) (pn : Int32) (f : Nat → Int64) (htr : l.stackTraces = false)  : zMk l yL_give wsL_give 32 1100 1 6 g [.ref h, .int pn, .ref o] (WH g h o ((q0, q1, q2, q3, q4, q5, q6, q7, q8, q9, q10), f)) (zEL bL) (zQi g (PL_give q0 q1 q2 q3 q4 q5 q6 q7 q8 q9 q10 pn) (WH g h o)) := by
  refine zstartH (cc := cL_give) (maxL := 4) (ret := some .int) (own := RL) (hh := [(0, 9, 12, 13), (0, 9, 15, 15)]) rfl (by decide) rfl zStL (Nat.le_of_ble_eq_true rfl) ?_
  intro p e s m below meth c A Z hr hlk htab H locs X ls hl
  have hx := Z.1.1
  have hb := Z.1.2.1
  have hown := Z.1.2.2.2.1
  have hts := Z.1.2.2.2.2
  have hE := Z.2.2.2.1
  have hl : lv_has ls 4 [(0, .ref h), (1, .int pn), (2, .ref o)] := hl
  refine lv_aload_n hx hb dL_give_0 rfl (lv_at hl 2 rfl) ?_
  refine lv_iconst (v := nI 0) hx hb dL_give_1 (by decide) ?_
  refine lv_aload_n hx hb dL_give_2 rfl (lv_at hl 0 rfl) ?_
  refine lv_iload_n hx hb dL_give_3 rfl (lv_at hl 1 rfl) ?_
  refine zsubX (n := 1) (As := [.int pn]) (rest := [.int (nI 0), .ref o]) (wc := oQ h (q0, q1, q2, q3, q4, q5, q6, q7, q8, q9, q10)) (wr := oOut g o f) (ci := 0) (C := RX0) (T := TX0) (N := 11) [0] [1] rfl rfl rfl rfl (by decide) Z X (c_X0_give l g bL h q0 q1 q2 q3 q4 q5 q6 q7 q8 q9 q10 pn htr) gL_give_X0_give rfl (by decide +kernel) ⟨Nat.le_of_ble_eq_true rfl, Nat.le_of_ble_eq_true rfl⟩ rfl rfl rfl rfl hl.1 (Nat.le_of_ble_eq_true rfl) dL_give_4 ⟨Nat.le_of_ble_eq_true rfl, Nat.le_of_ble_eq_true rfl⟩ (fun X9 ce qE H locs hpx X hce hcv hcl => ?_) (fun r u H locs hpost X => ?_)
  · have X : zh g A (WH g h o ((q0, q1, q2, q3, q4, q5, q6, q7, q8, q9, q10), f)) s.heap H locs := zhsub X [1, 0] rfl rfl
    have hE9 : X9 = eIO ∨ X9 = eIS := by
      rcases hpx with q | q
      · exact Or.inl q.1
      · exact Or.inr q.1
    rcases hE9 with rfl | rfl
    · refine vx_catch (own := RL) (name := eIO) (E := eIO) hown [] ⟨0, 9, 12, 13⟩ [⟨0, 9, 15, 15⟩] htab (fun z hz => nomatch hz) (by decide) (by decide) (hts (.classLink RL 13 eIO) (by decide +kernel)) (zcast hE (by decide +kernel)) hce hcv hcl ?_
      refine lv_astore_n (lv' := [(3, .ref qE), (0, .ref h), (1, .int pn), (2, .ref o)]) hx hb dL_give_12 rfl hl (by decide) rfl (fun ls hl => ?_)
      refine lv_iconst (v := (1 : Int32)) hx hb dL_give_13 (by decide) ?_
      exact zreti Z hr hlk ((q0, q1, q2, q3, q4, q5, q6, q7, q8, q9, q10), f) X dL_give_14 rfl (Or.inr (Or.inl ⟨rfl, hpx, rfl⟩))
    · refine vx_catch (own := RL) (name := eIS) (E := eIS) hown [⟨0, 9, 12, 13⟩] ⟨0, 9, 15, 15⟩ [] htab (fun z hz => by obtain rfl := List.mem_singleton.mp hz; exact Or.inr ⟨by decide, eIO, hts (.classLink RL 13 eIO) (by decide +kernel), hE.2.2.2.2.2.2 (eIS, eIO) (by decide +kernel)⟩) (by decide) (by decide) (hts (.classLink RL 15 eIS) (by decide +kernel)) (zcast hE (by decide +kernel)) hce hcv hcl ?_
      refine lv_astore_n (lv' := [(3, .ref qE), (0, .ref h), (1, .int pn), (2, .ref o)]) hx hb dL_give_15 rfl hl (by decide) rfl (fun ls hl => ?_)
      refine lv_iconst (v := (2 : Int32)) hx hb dL_give_16 (by decide) ?_
      exact zreti Z hr hlk ((q0, q1, q2, q3, q4, q5, q6, q7, q8, q9, q10), f) X dL_give_17 rfl (Or.inr (Or.inr ⟨rfl, hpx, rfl⟩))
  · obtain ⟨u0, u1, u2, u3, u4, u5, u6, u7, u8, u9, u10⟩ := u
    have X : zh g A (WH g h o ((u0, u1, u2, u3, u4, u5, u6, u7, u8, u9, u10), f)) s.heap H locs := zhsub X [1, 0] rfl rfl
    refine lv_i2l hx hb dL_give_7 rfl ?_
    refine va_last hx hb Z.2.1 X.1 X.2.1 X.2.2 1 2 (cA := g.2.2.2) (n := 1) (f := f) rfl rfl (vp_in_nI (n := 0) (by decide) (by decide)) dL_give_8 (fun H locs hP hD hS => ?_)
    have X : zh g A (WH g h o ((u0, u1, u2, u3, u4, u5, u6, u7, u8, u9, u10), vp_updL f 0 r.toInt64)) s.heap H locs := ⟨hP, hD, hS⟩
    refine lv_goto (tgt := 18) hx hb dL_give_9 (by decide) ?_
    refine lv_iconst (v := (0 : Int32)) hx hb dL_give_18 (by decide) ?_
    exact zreti Z hr hlk ((u0, u1, u2, u3, u4, u5, u6, u7, u8, u9, u10), vp_updL f 0 r.toInt64) X dL_give_19 rfl (Or.inl ⟨rfl, r, hpost, (pk_uLs : vp_updL f 0 r.toInt64 0 = r.toInt64)⟩)
def PL_place (q0 q1 q2 q3 q4 q5 q6 : Int32) (q7 : Int64) (q8 q9 : Int32) (q10 : Int64) (sq : Int32) : Int32 → QS × (Nat → Int64) → Prop := fun r u => (r = 0 ∧ ∃ v : Int32, P_X0_place q0 q1 q2 q3 q4 q5 q6 q7 q8 q9 q10 sq v u.1 ∧ u.2 0 = v.toInt64) ∨ (r = 1 ∧ PX_X0_place q0 q1 q2 q3 q4 q5 q6 q7 q8 q9 q10 sq eIO ∧ u.1 = (q0, q1, q2, q3, q4, q5, q6, q7, q8, q9, q10)) ∨ (r = 2 ∧ PX_X0_place q0 q1 q2 q3 q4 q5 q6 q7 q8 q9 q10 sq eIS ∧ u.1 = (q0, q1, q2, q3, q4, q5, q6, q7, q8, q9, q10))
set_option maxHeartbeats 1000000 in
set_option maxRecDepth 100000 in
theorem c_L_place (l : Launch) (g : zG) (bL h o : Nat) (q0 q1 q2 q3 q4 q5 q6 : Int32) (q7 : Int64) (q8 q9 : Int32) (q10 : Int64) (sq : Int32) (f : Nat → Int64) (htr : l.stackTraces = false)  : zMk l yL_place wsL_place 32 1100 1 6 g [.ref h, .int sq, .ref o] (WH g h o ((q0, q1, q2, q3, q4, q5, q6, q7, q8, q9, q10), f)) (zEL bL) (zQi g (PL_place q0 q1 q2 q3 q4 q5 q6 q7 q8 q9 q10 sq) (WH g h o)) := by
  refine zstartH (cc := cL_place) (maxL := 4) (ret := some .int) (own := RL) (hh := [(0, 9, 12, 13), (0, 9, 15, 15)]) rfl (by decide) rfl zStL (Nat.le_of_ble_eq_true rfl) ?_
  intro p e s m below meth c A Z hr hlk htab H locs X ls hl
  have hx := Z.1.1
  have hb := Z.1.2.1
  have hown := Z.1.2.2.2.1
  have hts := Z.1.2.2.2.2
  have hE := Z.2.2.2.1
  have hl : lv_has ls 4 [(0, .ref h), (1, .int sq), (2, .ref o)] := hl
  refine lv_aload_n hx hb dL_place_0 rfl (lv_at hl 2 rfl) ?_
  refine lv_iconst (v := nI 0) hx hb dL_place_1 (by decide) ?_
  refine lv_aload_n hx hb dL_place_2 rfl (lv_at hl 0 rfl) ?_
  refine lv_iload_n hx hb dL_place_3 rfl (lv_at hl 1 rfl) ?_
  refine zsubX (n := 1) (As := [.int sq]) (rest := [.int (nI 0), .ref o]) (wc := oQ h (q0, q1, q2, q3, q4, q5, q6, q7, q8, q9, q10)) (wr := oOut g o f) (ci := 0) (C := RX0) (T := TX0) (N := 11) [0] [1] rfl rfl rfl rfl (by decide) Z X (c_X0_place l g bL h q0 q1 q2 q3 q4 q5 q6 q7 q8 q9 q10 sq htr) gL_place_X0_place rfl (by decide +kernel) ⟨Nat.le_of_ble_eq_true rfl, Nat.le_of_ble_eq_true rfl⟩ rfl rfl rfl rfl hl.1 (Nat.le_of_ble_eq_true rfl) dL_place_4 ⟨Nat.le_of_ble_eq_true rfl, Nat.le_of_ble_eq_true rfl⟩ (fun X9 ce qE H locs hpx X hce hcv hcl => ?_) (fun r u H locs hpost X => ?_)
  · have X : zh g A (WH g h o ((q0, q1, q2, q3, q4, q5, q6, q7, q8, q9, q10), f)) s.heap H locs := zhsub X [1, 0] rfl rfl
    have hE9 : X9 = eIO ∨ X9 = eIS := by
      rcases hpx with q | q
      · exact Or.inl q.1
      · exact Or.inr q.1
    rcases hE9 with rfl | rfl
    · refine vx_catch (own := RL) (name := eIO) (E := eIO) hown [] ⟨0, 9, 12, 13⟩ [⟨0, 9, 15, 15⟩] htab (fun z hz => nomatch hz) (by decide) (by decide) (hts (.classLink RL 13 eIO) (by decide +kernel)) (zcast hE (by decide +kernel)) hce hcv hcl ?_
      refine lv_astore_n (lv' := [(3, .ref qE), (0, .ref h), (1, .int sq), (2, .ref o)]) hx hb dL_place_12 rfl hl (by decide) rfl (fun ls hl => ?_)
      refine lv_iconst (v := (1 : Int32)) hx hb dL_place_13 (by decide) ?_
      exact zreti Z hr hlk ((q0, q1, q2, q3, q4, q5, q6, q7, q8, q9, q10), f) X dL_place_14 rfl (Or.inr (Or.inl ⟨rfl, hpx, rfl⟩))
    · refine vx_catch (own := RL) (name := eIS) (E := eIS) hown [⟨0, 9, 12, 13⟩] ⟨0, 9, 15, 15⟩ [] htab (fun z hz => by obtain rfl := List.mem_singleton.mp hz; exact Or.inr ⟨by decide, eIO, hts (.classLink RL 13 eIO) (by decide +kernel), hE.2.2.2.2.2.2 (eIS, eIO) (by decide +kernel)⟩) (by decide) (by decide) (hts (.classLink RL 15 eIS) (by decide +kernel)) (zcast hE (by decide +kernel)) hce hcv hcl ?_
      refine lv_astore_n (lv' := [(3, .ref qE), (0, .ref h), (1, .int sq), (2, .ref o)]) hx hb dL_place_15 rfl hl (by decide) rfl (fun ls hl => ?_)
      refine lv_iconst (v := (2 : Int32)) hx hb dL_place_16 (by decide) ?_
      exact zreti Z hr hlk ((q0, q1, q2, q3, q4, q5, q6, q7, q8, q9, q10), f) X dL_place_17 rfl (Or.inr (Or.inr ⟨rfl, hpx, rfl⟩))
  · obtain ⟨u0, u1, u2, u3, u4, u5, u6, u7, u8, u9, u10⟩ := u
    have X : zh g A (WH g h o ((u0, u1, u2, u3, u4, u5, u6, u7, u8, u9, u10), f)) s.heap H locs := zhsub X [1, 0] rfl rfl
    refine lv_i2l hx hb dL_place_7 rfl ?_
    refine va_last hx hb Z.2.1 X.1 X.2.1 X.2.2 1 2 (cA := g.2.2.2) (n := 1) (f := f) rfl rfl (vp_in_nI (n := 0) (by decide) (by decide)) dL_place_8 (fun H locs hP hD hS => ?_)
    have X : zh g A (WH g h o ((u0, u1, u2, u3, u4, u5, u6, u7, u8, u9, u10), vp_updL f 0 r.toInt64)) s.heap H locs := ⟨hP, hD, hS⟩
    refine lv_goto (tgt := 18) hx hb dL_place_9 (by decide) ?_
    refine lv_iconst (v := (0 : Int32)) hx hb dL_place_18 (by decide) ?_
    exact zreti Z hr hlk ((u0, u1, u2, u3, u4, u5, u6, u7, u8, u9, u10), vp_updL f 0 r.toInt64) X dL_place_19 rfl (Or.inl ⟨rfl, r, hpost, (pk_uLs : vp_updL f 0 r.toInt64 0 = r.toInt64)⟩)
def PL_winning (q0 q1 q2 q3 q4 q5 q6 : Int32) (q7 : Int64) (q8 q9 : Int32) (q10 : Int64) (pn : Int32) : Int32 → QS × (Nat → Int64) → Prop := fun r u => (r = 0 ∧ ∃ v : Int32, P_X0_winning q0 q1 q2 q3 q4 q5 q6 q7 q8 q9 q10 pn v u.1 ∧ u.2 0 = v.toInt64) ∨ (r = 1 ∧ PX_X0_winning q0 q1 q2 q3 q4 q5 q6 q7 q8 q9 q10 pn eIO ∧ u.1 = (q0, q1, q2, q3, q4, q5, q6, q7, q8, q9, q10)) ∨ (r = 2 ∧ PX_X0_winning q0 q1 q2 q3 q4 q5 q6 q7 q8 q9 q10 pn eIS ∧ u.1 = (q0, q1, q2, q3, q4, q5, q6, q7, q8, q9, q10))
set_option maxHeartbeats 1000000 in
set_option maxRecDepth 100000 in
theorem c_L_winning (l : Launch) (g : zG) (bL h o : Nat) (q0 q1 q2 q3 q4 q5 q6 : Int32) (q7 : Int64) (q8 q9 : Int32) (q10 : Int64) (pn : Int32) (f : Nat → Int64) (htr : l.stackTraces = false)  : zMk l yL_winning wsL_winning 32 1100 1 6 g [.ref h, .int pn, .ref o] (WH g h o ((q0, q1, q2, q3, q4, q5, q6, q7, q8, q9, q10), f)) (zEL bL) (zQi g (PL_winning q0 q1 q2 q3 q4 q5 q6 q7 q8 q9 q10 pn) (WH g h o)) := by
  refine zstartH (cc := cL_winning) (maxL := 4) (ret := some .int) (own := RL) (hh := [(0, 9, 12, 13), (0, 9, 15, 15)]) rfl (by decide) rfl zStL (Nat.le_of_ble_eq_true rfl) ?_
  intro p e s m below meth c A Z hr hlk htab H locs X ls hl
  have hx := Z.1.1
  have hb := Z.1.2.1
  have hown := Z.1.2.2.2.1
  have hts := Z.1.2.2.2.2
  have hE := Z.2.2.2.1
  have hl : lv_has ls 4 [(0, .ref h), (1, .int pn), (2, .ref o)] := hl
  refine lv_aload_n hx hb dL_winning_0 rfl (lv_at hl 2 rfl) ?_
  refine lv_iconst (v := nI 0) hx hb dL_winning_1 (by decide) ?_
  refine lv_aload_n hx hb dL_winning_2 rfl (lv_at hl 0 rfl) ?_
  refine lv_iload_n hx hb dL_winning_3 rfl (lv_at hl 1 rfl) ?_
  refine zsubX (n := 1) (As := [.int pn]) (rest := [.int (nI 0), .ref o]) (wc := oQ h (q0, q1, q2, q3, q4, q5, q6, q7, q8, q9, q10)) (wr := oOut g o f) (ci := 0) (C := RX0) (T := TX0) (N := 11) [0] [1] rfl rfl rfl rfl (by decide) Z X (c_X0_winning l g bL h q0 q1 q2 q3 q4 q5 q6 q7 q8 q9 q10 pn htr) gL_winning_X0_winning rfl (by decide +kernel) ⟨Nat.le_of_ble_eq_true rfl, Nat.le_of_ble_eq_true rfl⟩ rfl rfl rfl rfl hl.1 (Nat.le_of_ble_eq_true rfl) dL_winning_4 ⟨Nat.le_of_ble_eq_true rfl, Nat.le_of_ble_eq_true rfl⟩ (fun X9 ce qE H locs hpx X hce hcv hcl => ?_) (fun r u H locs hpost X => ?_)
  · have X : zh g A (WH g h o ((q0, q1, q2, q3, q4, q5, q6, q7, q8, q9, q10), f)) s.heap H locs := zhsub X [1, 0] rfl rfl
    have hE9 : X9 = eIO ∨ X9 = eIS := by
      rcases hpx with q | q
      · exact Or.inl q.1
      · exact Or.inr q.1
    rcases hE9 with rfl | rfl
    · refine vx_catch (own := RL) (name := eIO) (E := eIO) hown [] ⟨0, 9, 12, 13⟩ [⟨0, 9, 15, 15⟩] htab (fun z hz => nomatch hz) (by decide) (by decide) (hts (.classLink RL 13 eIO) (by decide +kernel)) (zcast hE (by decide +kernel)) hce hcv hcl ?_
      refine lv_astore_n (lv' := [(3, .ref qE), (0, .ref h), (1, .int pn), (2, .ref o)]) hx hb dL_winning_12 rfl hl (by decide) rfl (fun ls hl => ?_)
      refine lv_iconst (v := (1 : Int32)) hx hb dL_winning_13 (by decide) ?_
      exact zreti Z hr hlk ((q0, q1, q2, q3, q4, q5, q6, q7, q8, q9, q10), f) X dL_winning_14 rfl (Or.inr (Or.inl ⟨rfl, hpx, rfl⟩))
    · refine vx_catch (own := RL) (name := eIS) (E := eIS) hown [⟨0, 9, 12, 13⟩] ⟨0, 9, 15, 15⟩ [] htab (fun z hz => by obtain rfl := List.mem_singleton.mp hz; exact Or.inr ⟨by decide, eIO, hts (.classLink RL 13 eIO) (by decide +kernel), hE.2.2.2.2.2.2 (eIS, eIO) (by decide +kernel)⟩) (by decide) (by decide) (hts (.classLink RL 15 eIS) (by decide +kernel)) (zcast hE (by decide +kernel)) hce hcv hcl ?_
      refine lv_astore_n (lv' := [(3, .ref qE), (0, .ref h), (1, .int pn), (2, .ref o)]) hx hb dL_winning_15 rfl hl (by decide) rfl (fun ls hl => ?_)
      refine lv_iconst (v := (2 : Int32)) hx hb dL_winning_16 (by decide) ?_
      exact zreti Z hr hlk ((q0, q1, q2, q3, q4, q5, q6, q7, q8, q9, q10), f) X dL_winning_17 rfl (Or.inr (Or.inr ⟨rfl, hpx, rfl⟩))
  · obtain ⟨u0, u1, u2, u3, u4, u5, u6, u7, u8, u9, u10⟩ := u
    have X : zh g A (WH g h o ((u0, u1, u2, u3, u4, u5, u6, u7, u8, u9, u10), f)) s.heap H locs := zhsub X [1, 0] rfl rfl
    refine lv_i2l hx hb dL_winning_7 rfl ?_
    refine va_last hx hb Z.2.1 X.1 X.2.1 X.2.2 1 2 (cA := g.2.2.2) (n := 1) (f := f) rfl rfl (vp_in_nI (n := 0) (by decide) (by decide)) dL_winning_8 (fun H locs hP hD hS => ?_)
    have X : zh g A (WH g h o ((u0, u1, u2, u3, u4, u5, u6, u7, u8, u9, u10), vp_updL f 0 r.toInt64)) s.heap H locs := ⟨hP, hD, hS⟩
    refine lv_goto (tgt := 18) hx hb dL_winning_9 (by decide) ?_
    refine lv_iconst (v := (0 : Int32)) hx hb dL_winning_18 (by decide) ?_
    exact zreti Z hr hlk ((u0, u1, u2, u3, u4, u5, u6, u7, u8, u9, u10), vp_updL f 0 r.toInt64) X dL_winning_19 rfl (Or.inl ⟨rfl, r, hpost, (pk_uLs : vp_updL f 0 r.toInt64 0 = r.toInt64)⟩)
def PL_pieceAt (q0 q1 q2 q3 q4 q5 q6 : Int32) (q7 : Int64) (q8 q9 : Int32) (q10 : Int64) (sq : Int32) : Int32 → QS × (Nat → Int64) → Prop := fun r u => (r = 0 ∧ ∃ v : Int32, P_X0_pieceAt q0 q1 q2 q3 q4 q5 q6 q7 q8 q9 q10 sq v u.1 ∧ u.2 0 = v.toInt64) ∨ (r = 1 ∧ PX_X0_pieceAt q0 q1 q2 q3 q4 q5 q6 q7 q8 q9 q10 sq eIO ∧ u.1 = (q0, q1, q2, q3, q4, q5, q6, q7, q8, q9, q10))
set_option maxHeartbeats 1000000 in
set_option maxRecDepth 100000 in
theorem c_L_pieceAt (l : Launch) (g : zG) (bL h o : Nat) (q0 q1 q2 q3 q4 q5 q6 : Int32) (q7 : Int64) (q8 q9 : Int32) (q10 : Int64) (sq : Int32) (f : Nat → Int64) (htr : l.stackTraces = false)  : zMk l yL_pieceAt wsL_pieceAt 32 1100 1 6 g [.ref h, .int sq, .ref o] (WH g h o ((q0, q1, q2, q3, q4, q5, q6, q7, q8, q9, q10), f)) (zEL bL) (zQi g (PL_pieceAt q0 q1 q2 q3 q4 q5 q6 q7 q8 q9 q10 sq) (WH g h o)) := by
  refine zstartH (cc := cL_pieceAt) (maxL := 4) (ret := some .int) (own := RL) (hh := [(0, 9, 12, 13)]) rfl (by decide) rfl zStL (Nat.le_of_ble_eq_true rfl) ?_
  intro p e s m below meth c A Z hr hlk htab H locs X ls hl
  have hx := Z.1.1
  have hb := Z.1.2.1
  have hown := Z.1.2.2.2.1
  have hts := Z.1.2.2.2.2
  have hE := Z.2.2.2.1
  have hl : lv_has ls 4 [(0, .ref h), (1, .int sq), (2, .ref o)] := hl
  refine lv_aload_n hx hb dL_pieceAt_0 rfl (lv_at hl 2 rfl) ?_
  refine lv_iconst (v := nI 0) hx hb dL_pieceAt_1 (by decide) ?_
  refine lv_aload_n hx hb dL_pieceAt_2 rfl (lv_at hl 0 rfl) ?_
  refine lv_iload_n hx hb dL_pieceAt_3 rfl (lv_at hl 1 rfl) ?_
  refine zsubX (n := 1) (As := [.int sq]) (rest := [.int (nI 0), .ref o]) (wc := oQ h (q0, q1, q2, q3, q4, q5, q6, q7, q8, q9, q10)) (wr := oOut g o f) (ci := 0) (C := RX0) (T := TX0) (N := 11) [0] [1] rfl rfl rfl rfl (by decide) Z X (c_X0_pieceAt l g bL h q0 q1 q2 q3 q4 q5 q6 q7 q8 q9 q10 sq htr) gL_pieceAt_X0_pieceAt rfl (by decide +kernel) ⟨Nat.le_of_ble_eq_true rfl, Nat.le_of_ble_eq_true rfl⟩ rfl rfl rfl rfl hl.1 (Nat.le_of_ble_eq_true rfl) dL_pieceAt_4 ⟨Nat.le_of_ble_eq_true rfl, Nat.le_of_ble_eq_true rfl⟩ (fun X9 ce qE H locs hpx X hce hcv hcl => ?_) (fun r u H locs hpost X => ?_)
  · have X : zh g A (WH g h o ((q0, q1, q2, q3, q4, q5, q6, q7, q8, q9, q10), f)) s.heap H locs := zhsub X [1, 0] rfl rfl
    obtain rfl : X9 = eIO := hpx.1
    refine vx_catch (own := RL) (name := eIO) (E := eIO) hown [] ⟨0, 9, 12, 13⟩ [] htab (fun z hz => nomatch hz) (by decide) (by decide) (hts (.classLink RL 13 eIO) (by decide +kernel)) (zcast hE (by decide +kernel)) hce hcv hcl ?_
    refine lv_astore_n (lv' := [(3, .ref qE), (0, .ref h), (1, .int sq), (2, .ref o)]) hx hb dL_pieceAt_12 rfl hl (by decide) rfl (fun ls hl => ?_)
    refine lv_iconst (v := (1 : Int32)) hx hb dL_pieceAt_13 (by decide) ?_
    exact zreti Z hr hlk ((q0, q1, q2, q3, q4, q5, q6, q7, q8, q9, q10), f) X dL_pieceAt_14 rfl (Or.inr ⟨rfl, hpx, rfl⟩)
  · obtain ⟨u0, u1, u2, u3, u4, u5, u6, u7, u8, u9, u10⟩ := u
    have X : zh g A (WH g h o ((u0, u1, u2, u3, u4, u5, u6, u7, u8, u9, u10), f)) s.heap H locs := zhsub X [1, 0] rfl rfl
    refine lv_i2l hx hb dL_pieceAt_7 rfl ?_
    refine va_last hx hb Z.2.1 X.1 X.2.1 X.2.2 1 2 (cA := g.2.2.2) (n := 1) (f := f) rfl rfl (vp_in_nI (n := 0) (by decide) (by decide)) dL_pieceAt_8 (fun H locs hP hD hS => ?_)
    have X : zh g A (WH g h o ((u0, u1, u2, u3, u4, u5, u6, u7, u8, u9, u10), vp_updL f 0 r.toInt64)) s.heap H locs := ⟨hP, hD, hS⟩
    refine lv_goto (tgt := 15) hx hb dL_pieceAt_9 (by decide) ?_
    refine lv_iconst (v := (0 : Int32)) hx hb dL_pieceAt_15 (by decide) ?_
    exact zreti Z hr hlk ((u0, u1, u2, u3, u4, u5, u6, u7, u8, u9, u10), vp_updL f 0 r.toInt64) X dL_pieceAt_16 rfl (Or.inl ⟨rfl, r, hpost, (pk_uLs : vp_updL f 0 r.toInt64 0 = r.toInt64)⟩)
def PL_onLine (q0 q1 q2 q3 q4 q5 q6 : Int32) (q7 : Int64) (q8 q9 : Int32) (q10 : Int64) (ln : Int32) : Int32 → QS × (Nat → Int64) → Prop := fun r u => (r = 0 ∧ ∃ v : Int32, P_X0_onLine q0 q1 q2 q3 q4 q5 q6 q7 q8 q9 q10 ln v u.1 ∧ u.2 0 = v.toInt64) ∨ (r = 1 ∧ PX_X0_onLine q0 q1 q2 q3 q4 q5 q6 q7 q8 q9 q10 ln eIO ∧ u.1 = (q0, q1, q2, q3, q4, q5, q6, q7, q8, q9, q10))
set_option maxHeartbeats 1000000 in
set_option maxRecDepth 100000 in
theorem c_L_onLine (l : Launch) (g : zG) (bL h o : Nat) (q0 q1 q2 q3 q4 q5 q6 : Int32) (q7 : Int64) (q8 q9 : Int32) (q10 : Int64) (ln : Int32) (f : Nat → Int64) (htr : l.stackTraces = false)  : zMk l yL_onLine wsL_onLine 32 1100 1 6 g [.ref h, .int ln, .ref o] (WH g h o ((q0, q1, q2, q3, q4, q5, q6, q7, q8, q9, q10), f)) (zEL bL) (zQi g (PL_onLine q0 q1 q2 q3 q4 q5 q6 q7 q8 q9 q10 ln) (WH g h o)) := by
  refine zstartH (cc := cL_onLine) (maxL := 4) (ret := some .int) (own := RL) (hh := [(0, 9, 12, 13)]) rfl (by decide) rfl zStL (Nat.le_of_ble_eq_true rfl) ?_
  intro p e s m below meth c A Z hr hlk htab H locs X ls hl
  have hx := Z.1.1
  have hb := Z.1.2.1
  have hown := Z.1.2.2.2.1
  have hts := Z.1.2.2.2.2
  have hE := Z.2.2.2.1
  have hl : lv_has ls 4 [(0, .ref h), (1, .int ln), (2, .ref o)] := hl
  refine lv_aload_n hx hb dL_onLine_0 rfl (lv_at hl 2 rfl) ?_
  refine lv_iconst (v := nI 0) hx hb dL_onLine_1 (by decide) ?_
  refine lv_aload_n hx hb dL_onLine_2 rfl (lv_at hl 0 rfl) ?_
  refine lv_iload_n hx hb dL_onLine_3 rfl (lv_at hl 1 rfl) ?_
  refine zsubX (n := 1) (As := [.int ln]) (rest := [.int (nI 0), .ref o]) (wc := oQ h (q0, q1, q2, q3, q4, q5, q6, q7, q8, q9, q10)) (wr := oOut g o f) (ci := 0) (C := RX0) (T := TX0) (N := 11) [0] [1] rfl rfl rfl rfl (by decide) Z X (c_X0_onLine l g bL h q0 q1 q2 q3 q4 q5 q6 q7 q8 q9 q10 ln htr) gL_onLine_X0_onLine rfl (by decide +kernel) ⟨Nat.le_of_ble_eq_true rfl, Nat.le_of_ble_eq_true rfl⟩ rfl rfl rfl rfl hl.1 (Nat.le_of_ble_eq_true rfl) dL_onLine_4 ⟨Nat.le_of_ble_eq_true rfl, Nat.le_of_ble_eq_true rfl⟩ (fun X9 ce qE H locs hpx X hce hcv hcl => ?_) (fun r u H locs hpost X => ?_)
  · have X : zh g A (WH g h o ((q0, q1, q2, q3, q4, q5, q6, q7, q8, q9, q10), f)) s.heap H locs := zhsub X [1, 0] rfl rfl
    obtain rfl : X9 = eIO := hpx.1
    refine vx_catch (own := RL) (name := eIO) (E := eIO) hown [] ⟨0, 9, 12, 13⟩ [] htab (fun z hz => nomatch hz) (by decide) (by decide) (hts (.classLink RL 13 eIO) (by decide +kernel)) (zcast hE (by decide +kernel)) hce hcv hcl ?_
    refine lv_astore_n (lv' := [(3, .ref qE), (0, .ref h), (1, .int ln), (2, .ref o)]) hx hb dL_onLine_12 rfl hl (by decide) rfl (fun ls hl => ?_)
    refine lv_iconst (v := (1 : Int32)) hx hb dL_onLine_13 (by decide) ?_
    exact zreti Z hr hlk ((q0, q1, q2, q3, q4, q5, q6, q7, q8, q9, q10), f) X dL_onLine_14 rfl (Or.inr ⟨rfl, hpx, rfl⟩)
  · obtain ⟨u0, u1, u2, u3, u4, u5, u6, u7, u8, u9, u10⟩ := u
    have X : zh g A (WH g h o ((u0, u1, u2, u3, u4, u5, u6, u7, u8, u9, u10), f)) s.heap H locs := zhsub X [1, 0] rfl rfl
    refine lv_i2l hx hb dL_onLine_7 rfl ?_
    refine va_last hx hb Z.2.1 X.1 X.2.1 X.2.2 1 2 (cA := g.2.2.2) (n := 1) (f := f) rfl rfl (vp_in_nI (n := 0) (by decide) (by decide)) dL_onLine_8 (fun H locs hP hD hS => ?_)
    have X : zh g A (WH g h o ((u0, u1, u2, u3, u4, u5, u6, u7, u8, u9, u10), vp_updL f 0 r.toInt64)) s.heap H locs := ⟨hP, hD, hS⟩
    refine lv_goto (tgt := 15) hx hb dL_onLine_9 (by decide) ?_
    refine lv_iconst (v := (0 : Int32)) hx hb dL_onLine_15 (by decide) ?_
    exact zreti Z hr hlk ((u0, u1, u2, u3, u4, u5, u6, u7, u8, u9, u10), vp_updL f 0 r.toInt64) X dL_onLine_16 rfl (Or.inl ⟨rfl, r, hpost, (pk_uLs : vp_updL f 0 r.toInt64 0 = r.toInt64)⟩)
def PL_shared (q0 q1 q2 q3 q4 q5 q6 : Int32) (q7 : Int64) (q8 q9 : Int32) (q10 : Int64) (ln : Int32) : Int32 → QS × (Nat → Int64) → Prop := fun r u => (r = 0 ∧ ∃ v : Int32, P_X0_shared q0 q1 q2 q3 q4 q5 q6 q7 q8 q9 q10 ln v u.1 ∧ u.2 0 = v.toInt64) ∨ (r = 1 ∧ PX_X0_shared q0 q1 q2 q3 q4 q5 q6 q7 q8 q9 q10 ln eIO ∧ u.1 = (q0, q1, q2, q3, q4, q5, q6, q7, q8, q9, q10))
set_option maxHeartbeats 1000000 in
set_option maxRecDepth 100000 in
theorem c_L_shared (l : Launch) (g : zG) (bL h o : Nat) (q0 q1 q2 q3 q4 q5 q6 : Int32) (q7 : Int64) (q8 q9 : Int32) (q10 : Int64) (ln : Int32) (f : Nat → Int64) (htr : l.stackTraces = false)  : zMk l yL_shared wsL_shared 32 1100 1 6 g [.ref h, .int ln, .ref o] (WH g h o ((q0, q1, q2, q3, q4, q5, q6, q7, q8, q9, q10), f)) (zEL bL) (zQi g (PL_shared q0 q1 q2 q3 q4 q5 q6 q7 q8 q9 q10 ln) (WH g h o)) := by
  refine zstartH (cc := cL_shared) (maxL := 4) (ret := some .int) (own := RL) (hh := [(0, 9, 12, 13)]) rfl (by decide) rfl zStL (Nat.le_of_ble_eq_true rfl) ?_
  intro p e s m below meth c A Z hr hlk htab H locs X ls hl
  have hx := Z.1.1
  have hb := Z.1.2.1
  have hown := Z.1.2.2.2.1
  have hts := Z.1.2.2.2.2
  have hE := Z.2.2.2.1
  have hl : lv_has ls 4 [(0, .ref h), (1, .int ln), (2, .ref o)] := hl
  refine lv_aload_n hx hb dL_shared_0 rfl (lv_at hl 2 rfl) ?_
  refine lv_iconst (v := nI 0) hx hb dL_shared_1 (by decide) ?_
  refine lv_aload_n hx hb dL_shared_2 rfl (lv_at hl 0 rfl) ?_
  refine lv_iload_n hx hb dL_shared_3 rfl (lv_at hl 1 rfl) ?_
  refine zsubX (n := 1) (As := [.int ln]) (rest := [.int (nI 0), .ref o]) (wc := oQ h (q0, q1, q2, q3, q4, q5, q6, q7, q8, q9, q10)) (wr := oOut g o f) (ci := 0) (C := RX0) (T := TX0) (N := 11) [0] [1] rfl rfl rfl rfl (by decide) Z X (c_X0_shared l g bL h q0 q1 q2 q3 q4 q5 q6 q7 q8 q9 q10 ln htr) gL_shared_X0_shared rfl (by decide +kernel) ⟨Nat.le_of_ble_eq_true rfl, Nat.le_of_ble_eq_true rfl⟩ rfl rfl rfl rfl hl.1 (Nat.le_of_ble_eq_true rfl) dL_shared_4 ⟨Nat.le_of_ble_eq_true rfl, Nat.le_of_ble_eq_true rfl⟩ (fun X9 ce qE H locs hpx X hce hcv hcl => ?_) (fun r u H locs hpost X => ?_)
  · have X : zh g A (WH g h o ((q0, q1, q2, q3, q4, q5, q6, q7, q8, q9, q10), f)) s.heap H locs := zhsub X [1, 0] rfl rfl
    obtain rfl : X9 = eIO := hpx.1
    refine vx_catch (own := RL) (name := eIO) (E := eIO) hown [] ⟨0, 9, 12, 13⟩ [] htab (fun z hz => nomatch hz) (by decide) (by decide) (hts (.classLink RL 13 eIO) (by decide +kernel)) (zcast hE (by decide +kernel)) hce hcv hcl ?_
    refine lv_astore_n (lv' := [(3, .ref qE), (0, .ref h), (1, .int ln), (2, .ref o)]) hx hb dL_shared_12 rfl hl (by decide) rfl (fun ls hl => ?_)
    refine lv_iconst (v := (1 : Int32)) hx hb dL_shared_13 (by decide) ?_
    exact zreti Z hr hlk ((q0, q1, q2, q3, q4, q5, q6, q7, q8, q9, q10), f) X dL_shared_14 rfl (Or.inr ⟨rfl, hpx, rfl⟩)
  · obtain ⟨u0, u1, u2, u3, u4, u5, u6, u7, u8, u9, u10⟩ := u
    have X : zh g A (WH g h o ((u0, u1, u2, u3, u4, u5, u6, u7, u8, u9, u10), f)) s.heap H locs := zhsub X [1, 0] rfl rfl
    refine lv_i2l hx hb dL_shared_7 rfl ?_
    refine va_last hx hb Z.2.1 X.1 X.2.1 X.2.2 1 2 (cA := g.2.2.2) (n := 1) (f := f) rfl rfl (vp_in_nI (n := 0) (by decide) (by decide)) dL_shared_8 (fun H locs hP hD hS => ?_)
    have X : zh g A (WH g h o ((u0, u1, u2, u3, u4, u5, u6, u7, u8, u9, u10), vp_updL f 0 r.toInt64)) s.heap H locs := ⟨hP, hD, hS⟩
    refine lv_goto (tgt := 15) hx hb dL_shared_9 (by decide) ?_
    refine lv_iconst (v := (0 : Int32)) hx hb dL_shared_15 (by decide) ?_
    exact zreti Z hr hlk ((u0, u1, u2, u3, u4, u5, u6, u7, u8, u9, u10), vp_updL f 0 r.toInt64) X dL_shared_16 rfl (Or.inl ⟨rfl, r, hpost, (pk_uLs : vp_updL f 0 r.toInt64 0 = r.toInt64)⟩)
def PL_safe (q0 q1 q2 q3 q4 q5 q6 : Int32) (q7 : Int64) (q8 q9 : Int32) (q10 : Int64) : Int32 → QS × (Nat → Int64) → Prop := fun r u => (r = 0 ∧ ∃ v : Int32, P_X0_safe q0 q1 q2 q3 q4 q5 q6 q7 q8 q9 q10 v u.1 ∧ u.2 0 = v.toInt64) ∨ (r = 1 ∧ PX_X0_safe q0 q1 q2 q3 q4 q5 q6 q7 q8 q9 q10 eIS ∧ u.1 = (q0, q1, q2, q3, q4, q5, q6, q7, q8, q9, q10))
set_option maxHeartbeats 1000000 in
set_option maxRecDepth 100000 in
theorem c_L_safe (l : Launch) (g : zG) (bL h o : Nat) (q0 q1 q2 q3 q4 q5 q6 : Int32) (q7 : Int64) (q8 q9 : Int32) (q10 : Int64) (f : Nat → Int64) (htr : l.stackTraces = false)  : zMk l yL_safe wsL_safe 32 1100 1 6 g [.ref h, .ref o] (WH g h o ((q0, q1, q2, q3, q4, q5, q6, q7, q8, q9, q10), f)) (zEL bL) (zQi g (PL_safe q0 q1 q2 q3 q4 q5 q6 q7 q8 q9 q10) (WH g h o)) := by
  refine zstartH (cc := cL_safe) (maxL := 3) (ret := some .int) (own := RL) (hh := [(0, 8, 11, 15)]) rfl (by decide) rfl zStL (Nat.le_of_ble_eq_true rfl) ?_
  intro p e s m below meth c A Z hr hlk htab H locs X ls hl
  have hx := Z.1.1
  have hb := Z.1.2.1
  have hown := Z.1.2.2.2.1
  have hts := Z.1.2.2.2.2
  have hE := Z.2.2.2.1
  have hl : lv_has ls 3 [(0, .ref h), (1, .ref o)] := hl
  refine lv_aload_n hx hb dL_safe_0 rfl (lv_at hl 1 rfl) ?_
  refine lv_iconst (v := nI 0) hx hb dL_safe_1 (by decide) ?_
  refine lv_aload_n hx hb dL_safe_2 rfl (lv_at hl 0 rfl) ?_
  refine zsubX (n := 0) (As := []) (rest := [.int (nI 0), .ref o]) (wc := oQ h (q0, q1, q2, q3, q4, q5, q6, q7, q8, q9, q10)) (wr := oOut g o f) (ci := 0) (C := RX0) (T := TX0) (N := 11) [0] [1] rfl rfl rfl rfl (by decide) Z X (c_X0_safe l g bL h q0 q1 q2 q3 q4 q5 q6 q7 q8 q9 q10 htr) gL_safe_X0_safe rfl (by decide +kernel) ⟨Nat.le_of_ble_eq_true rfl, Nat.le_of_ble_eq_true rfl⟩ rfl rfl rfl rfl hl.1 (Nat.le_of_ble_eq_true rfl) dL_safe_3 ⟨Nat.le_of_ble_eq_true rfl, Nat.le_of_ble_eq_true rfl⟩ (fun X9 ce qE H locs hpx X hce hcv hcl => ?_) (fun r u H locs hpost X => ?_)
  · have X : zh g A (WH g h o ((q0, q1, q2, q3, q4, q5, q6, q7, q8, q9, q10), f)) s.heap H locs := zhsub X [1, 0] rfl rfl
    obtain rfl : X9 = eIS := hpx.1
    refine vx_catch (own := RL) (name := eIS) (E := eIS) hown [] ⟨0, 8, 11, 15⟩ [] htab (fun z hz => nomatch hz) (by decide) (by decide) (hts (.classLink RL 15 eIS) (by decide +kernel)) (zcast hE (by decide +kernel)) hce hcv hcl ?_
    refine lv_astore_n (lv' := [(2, .ref qE), (0, .ref h), (1, .ref o)]) hx hb dL_safe_11 rfl hl (by decide) rfl (fun ls hl => ?_)
    refine lv_iconst (v := (1 : Int32)) hx hb dL_safe_12 (by decide) ?_
    exact zreti Z hr hlk ((q0, q1, q2, q3, q4, q5, q6, q7, q8, q9, q10), f) X dL_safe_13 rfl (Or.inr ⟨rfl, hpx, rfl⟩)
  · obtain ⟨u0, u1, u2, u3, u4, u5, u6, u7, u8, u9, u10⟩ := u
    have X : zh g A (WH g h o ((u0, u1, u2, u3, u4, u5, u6, u7, u8, u9, u10), f)) s.heap H locs := zhsub X [1, 0] rfl rfl
    refine lv_i2l hx hb dL_safe_6 rfl ?_
    refine va_last hx hb Z.2.1 X.1 X.2.1 X.2.2 1 2 (cA := g.2.2.2) (n := 1) (f := f) rfl rfl (vp_in_nI (n := 0) (by decide) (by decide)) dL_safe_7 (fun H locs hP hD hS => ?_)
    have X : zh g A (WH g h o ((u0, u1, u2, u3, u4, u5, u6, u7, u8, u9, u10), vp_updL f 0 r.toInt64)) s.heap H locs := ⟨hP, hD, hS⟩
    refine lv_goto (tgt := 14) hx hb dL_safe_8 (by decide) ?_
    refine lv_iconst (v := (0 : Int32)) hx hb dL_safe_14 (by decide) ?_
    exact zreti Z hr hlk ((u0, u1, u2, u3, u4, u5, u6, u7, u8, u9, u10), vp_updL f 0 r.toInt64) X dL_safe_15 rfl (Or.inl ⟨rfl, r, hpost, (pk_uLs : vp_updL f 0 r.toInt64 0 = r.toInt64)⟩)
def PL_worth (q0 q1 q2 q3 q4 q5 q6 : Int32) (q7 : Int64) (q8 q9 : Int32) (q10 : Int64) (np : Int32) (hp : Nat) : Int32 → QS × (Nat → Int64) → Prop := fun r u => (r = 0 ∧ ∃ v : Int32, P_X0_worth q0 q1 q2 q3 q4 q5 q6 q7 q8 q9 q10 np hp v u.1 ∧ u.2 0 = v.toInt64) ∨ (r = 1 ∧ PX_X0_worth q0 q1 q2 q3 q4 q5 q6 q7 q8 q9 q10 np hp eIA ∧ u.1 = (q0, q1, q2, q3, q4, q5, q6, q7, q8, q9, q10)) ∨ (r = 2 ∧ PX_X0_worth q0 q1 q2 q3 q4 q5 q6 q7 q8 q9 q10 np hp eIS ∧ u.1 = (q0, q1, q2, q3, q4, q5, q6, q7, q8, q9, q10))
set_option maxHeartbeats 1000000 in
set_option maxRecDepth 100000 in
theorem c_L_worth (l : Launch) (g : zG) (bL h o : Nat) (q0 q1 q2 q3 q4 q5 q6 : Int32) (q7 : Int64) (q8 q9 : Int32) (q10 : Int64) (np : Int32) (hp : Nat) (f : Nat → Int64) (htr : l.stackTraces = false) (hinv : qInv q5 q7) (hq1 : q1 = 0 ∨ q1 = 1 ∨ q1 = 2) (hq3 : q1 = 1 → q3 = nI hp ∧ hp < 16 ∧ qHas q6 (nI hp) = false) : zMk l yL_worth wsL_worth 32 1100 1 6 g [.ref h, .int np, .ref o] (WH g h o ((q0, q1, q2, q3, q4, q5, q6, q7, q8, q9, q10), f)) (zEL bL) (zQi g (PL_worth q0 q1 q2 q3 q4 q5 q6 q7 q8 q9 q10 np hp) (WH g h o)) := by
  refine zstartH (cc := cL_worth) (maxL := 4) (ret := some .int) (own := RL) (hh := [(0, 9, 12, 39), (0, 9, 15, 15)]) rfl (by decide) rfl zStL (Nat.le_of_ble_eq_true rfl) ?_
  intro p e s m below meth c A Z hr hlk htab H locs X ls hl
  have hx := Z.1.1
  have hb := Z.1.2.1
  have hown := Z.1.2.2.2.1
  have hts := Z.1.2.2.2.2
  have hE := Z.2.2.2.1
  have hl : lv_has ls 4 [(0, .ref h), (1, .int np), (2, .ref o)] := hl
  refine lv_aload_n hx hb dL_worth_0 rfl (lv_at hl 2 rfl) ?_
  refine lv_iconst (v := nI 0) hx hb dL_worth_1 (by decide) ?_
  refine lv_aload_n hx hb dL_worth_2 rfl (lv_at hl 0 rfl) ?_
  refine lv_iload_n hx hb dL_worth_3 rfl (lv_at hl 1 rfl) ?_
  refine zsubX (n := 1) (As := [.int np]) (rest := [.int (nI 0), .ref o]) (wc := oQ h (q0, q1, q2, q3, q4, q5, q6, q7, q8, q9, q10)) (wr := oOut g o f) (ci := 0) (C := RX0) (T := TX0) (N := 11) [0] [1] rfl rfl rfl rfl (by decide) Z X (c_X0_worth l g bL h q0 q1 q2 q3 q4 q5 q6 q7 q8 q9 q10 np htr hp hinv hq1 hq3) gL_worth_X0_worth rfl (by decide +kernel) ⟨Nat.le_of_ble_eq_true rfl, Nat.le_of_ble_eq_true rfl⟩ rfl rfl rfl rfl hl.1 (Nat.le_of_ble_eq_true rfl) dL_worth_4 ⟨Nat.le_of_ble_eq_true rfl, Nat.le_of_ble_eq_true rfl⟩ (fun X9 ce qE H locs hpx X hce hcv hcl => ?_) (fun r u H locs hpost X => ?_)
  · have X : zh g A (WH g h o ((q0, q1, q2, q3, q4, q5, q6, q7, q8, q9, q10), f)) s.heap H locs := zhsub X [1, 0] rfl rfl
    have hE9 : X9 = eIA ∨ X9 = eIS := by
      rcases hpx with q | q
      · exact Or.inl q.1
      · exact Or.inr q.1
    rcases hE9 with rfl | rfl
    · refine vx_catch (own := RL) (name := eIA) (E := eIA) hown [] ⟨0, 9, 12, 39⟩ [⟨0, 9, 15, 15⟩] htab (fun z hz => nomatch hz) (by decide) (by decide) (hts (.classLink RL 39 eIA) (by decide +kernel)) (zcast hE (by decide +kernel)) hce hcv hcl ?_
      refine lv_astore_n (lv' := [(3, .ref qE), (0, .ref h), (1, .int np), (2, .ref o)]) hx hb dL_worth_12 rfl hl (by decide) rfl (fun ls hl => ?_)
      refine lv_iconst (v := (1 : Int32)) hx hb dL_worth_13 (by decide) ?_
      exact zreti Z hr hlk ((q0, q1, q2, q3, q4, q5, q6, q7, q8, q9, q10), f) X dL_worth_14 rfl (Or.inr (Or.inl ⟨rfl, hpx, rfl⟩))
    · refine vx_catch (own := RL) (name := eIS) (E := eIS) hown [⟨0, 9, 12, 39⟩] ⟨0, 9, 15, 15⟩ [] htab (fun z hz => by obtain rfl := List.mem_singleton.mp hz; exact Or.inr ⟨by decide, eIA, hts (.classLink RL 39 eIA) (by decide +kernel), hE.2.2.2.2.2.2 (eIS, eIA) (by decide +kernel)⟩) (by decide) (by decide) (hts (.classLink RL 15 eIS) (by decide +kernel)) (zcast hE (by decide +kernel)) hce hcv hcl ?_
      refine lv_astore_n (lv' := [(3, .ref qE), (0, .ref h), (1, .int np), (2, .ref o)]) hx hb dL_worth_15 rfl hl (by decide) rfl (fun ls hl => ?_)
      refine lv_iconst (v := (2 : Int32)) hx hb dL_worth_16 (by decide) ?_
      exact zreti Z hr hlk ((q0, q1, q2, q3, q4, q5, q6, q7, q8, q9, q10), f) X dL_worth_17 rfl (Or.inr (Or.inr ⟨rfl, hpx, rfl⟩))
  · obtain ⟨u0, u1, u2, u3, u4, u5, u6, u7, u8, u9, u10⟩ := u
    have X : zh g A (WH g h o ((u0, u1, u2, u3, u4, u5, u6, u7, u8, u9, u10), f)) s.heap H locs := zhsub X [1, 0] rfl rfl
    refine lv_i2l hx hb dL_worth_7 rfl ?_
    refine va_last hx hb Z.2.1 X.1 X.2.1 X.2.2 1 2 (cA := g.2.2.2) (n := 1) (f := f) rfl rfl (vp_in_nI (n := 0) (by decide) (by decide)) dL_worth_8 (fun H locs hP hD hS => ?_)
    have X : zh g A (WH g h o ((u0, u1, u2, u3, u4, u5, u6, u7, u8, u9, u10), vp_updL f 0 r.toInt64)) s.heap H locs := ⟨hP, hD, hS⟩
    refine lv_goto (tgt := 18) hx hb dL_worth_9 (by decide) ?_
    refine lv_iconst (v := (0 : Int32)) hx hb dL_worth_18 (by decide) ?_
    exact zreti Z hr hlk ((u0, u1, u2, u3, u4, u5, u6, u7, u8, u9, u10), vp_updL f 0 r.toInt64) X dL_worth_19 rfl (Or.inl ⟨rfl, r, hpost, (pk_uLs : vp_updL f 0 r.toInt64 0 = r.toInt64)⟩)
def PL_best (q0 q1 q2 q3 q4 q5 q6 : Int32) (q7 : Int64) (q8 q9 : Int32) (q10 : Int64) (np : Int32) (hp : Nat) : Int32 → QS × (Nat → Int64) → Prop := fun r u => (r = 0 ∧ ∃ v : Int32, P_X0_best q0 q1 q2 q3 q4 q5 q6 q7 q8 q9 q10 np hp v u.1 ∧ u.2 0 = v.toInt64) ∨ (r = 1 ∧ PX_X0_best q0 q1 q2 q3 q4 q5 q6 q7 q8 q9 q10 np hp eIA ∧ u.1 = (q0, q1, q2, q3, q4, q5, q6, q7, q8, q9, q10)) ∨ (r = 2 ∧ PX_X0_best q0 q1 q2 q3 q4 q5 q6 q7 q8 q9 q10 np hp eIS ∧ u.1 = (q0, q1, q2, q3, q4, q5, q6, q7, q8, q9, q10))
set_option maxHeartbeats 1000000 in
set_option maxRecDepth 100000 in
theorem c_L_best (l : Launch) (g : zG) (bL h o : Nat) (q0 q1 q2 q3 q4 q5 q6 : Int32) (q7 : Int64) (q8 q9 : Int32) (q10 : Int64) (np : Int32) (hp : Nat) (f : Nat → Int64) (htr : l.stackTraces = false) (hinv : qInv q5 q7) (hq1 : q1 = 0 ∨ q1 = 1 ∨ q1 = 2) (hq3 : q1 = 1 → q3 = nI hp ∧ hp < 16 ∧ qHas q6 (nI hp) = false) : zMk l yL_best wsL_best 32 1100 1 6 g [.ref h, .int np, .ref o] (WH g h o ((q0, q1, q2, q3, q4, q5, q6, q7, q8, q9, q10), f)) (zEL bL) (zQi g (PL_best q0 q1 q2 q3 q4 q5 q6 q7 q8 q9 q10 np hp) (WH g h o)) := by
  refine zstartH (cc := cL_best) (maxL := 4) (ret := some .int) (own := RL) (hh := [(0, 9, 12, 39), (0, 9, 15, 15)]) rfl (by decide) rfl zStL (Nat.le_of_ble_eq_true rfl) ?_
  intro p e s m below meth c A Z hr hlk htab H locs X ls hl
  have hx := Z.1.1
  have hb := Z.1.2.1
  have hown := Z.1.2.2.2.1
  have hts := Z.1.2.2.2.2
  have hE := Z.2.2.2.1
  have hl : lv_has ls 4 [(0, .ref h), (1, .int np), (2, .ref o)] := hl
  refine lv_aload_n hx hb dL_best_0 rfl (lv_at hl 2 rfl) ?_
  refine lv_iconst (v := nI 0) hx hb dL_best_1 (by decide) ?_
  refine lv_aload_n hx hb dL_best_2 rfl (lv_at hl 0 rfl) ?_
  refine lv_iload_n hx hb dL_best_3 rfl (lv_at hl 1 rfl) ?_
  refine zsubX (n := 1) (As := [.int np]) (rest := [.int (nI 0), .ref o]) (wc := oQ h (q0, q1, q2, q3, q4, q5, q6, q7, q8, q9, q10)) (wr := oOut g o f) (ci := 0) (C := RX0) (T := TX0) (N := 11) [0] [1] rfl rfl rfl rfl (by decide) Z X (c_X0_best l g bL h q0 q1 q2 q3 q4 q5 q6 q7 q8 q9 q10 np htr hp hinv hq1 hq3) gL_best_X0_best rfl (by decide +kernel) ⟨Nat.le_of_ble_eq_true rfl, Nat.le_of_ble_eq_true rfl⟩ rfl rfl rfl rfl hl.1 (Nat.le_of_ble_eq_true rfl) dL_best_4 ⟨Nat.le_of_ble_eq_true rfl, Nat.le_of_ble_eq_true rfl⟩ (fun X9 ce qE H locs hpx X hce hcv hcl => ?_) (fun r u H locs hpost X => ?_)
  · have X : zh g A (WH g h o ((q0, q1, q2, q3, q4, q5, q6, q7, q8, q9, q10), f)) s.heap H locs := zhsub X [1, 0] rfl rfl
    have hE9 : X9 = eIA ∨ X9 = eIS := by
      rcases hpx with q | q
      · exact Or.inl q.1
      · exact Or.inr q.1
    rcases hE9 with rfl | rfl
    · refine vx_catch (own := RL) (name := eIA) (E := eIA) hown [] ⟨0, 9, 12, 39⟩ [⟨0, 9, 15, 15⟩] htab (fun z hz => nomatch hz) (by decide) (by decide) (hts (.classLink RL 39 eIA) (by decide +kernel)) (zcast hE (by decide +kernel)) hce hcv hcl ?_
      refine lv_astore_n (lv' := [(3, .ref qE), (0, .ref h), (1, .int np), (2, .ref o)]) hx hb dL_best_12 rfl hl (by decide) rfl (fun ls hl => ?_)
      refine lv_iconst (v := (1 : Int32)) hx hb dL_best_13 (by decide) ?_
      exact zreti Z hr hlk ((q0, q1, q2, q3, q4, q5, q6, q7, q8, q9, q10), f) X dL_best_14 rfl (Or.inr (Or.inl ⟨rfl, hpx, rfl⟩))
    · refine vx_catch (own := RL) (name := eIS) (E := eIS) hown [⟨0, 9, 12, 39⟩] ⟨0, 9, 15, 15⟩ [] htab (fun z hz => by obtain rfl := List.mem_singleton.mp hz; exact Or.inr ⟨by decide, eIA, hts (.classLink RL 39 eIA) (by decide +kernel), hE.2.2.2.2.2.2 (eIS, eIA) (by decide +kernel)⟩) (by decide) (by decide) (hts (.classLink RL 15 eIS) (by decide +kernel)) (zcast hE (by decide +kernel)) hce hcv hcl ?_
      refine lv_astore_n (lv' := [(3, .ref qE), (0, .ref h), (1, .int np), (2, .ref o)]) hx hb dL_best_15 rfl hl (by decide) rfl (fun ls hl => ?_)
      refine lv_iconst (v := (2 : Int32)) hx hb dL_best_16 (by decide) ?_
      exact zreti Z hr hlk ((q0, q1, q2, q3, q4, q5, q6, q7, q8, q9, q10), f) X dL_best_17 rfl (Or.inr (Or.inr ⟨rfl, hpx, rfl⟩))
  · obtain ⟨u0, u1, u2, u3, u4, u5, u6, u7, u8, u9, u10⟩ := u
    have X : zh g A (WH g h o ((u0, u1, u2, u3, u4, u5, u6, u7, u8, u9, u10), f)) s.heap H locs := zhsub X [1, 0] rfl rfl
    refine lv_i2l hx hb dL_best_7 rfl ?_
    refine va_last hx hb Z.2.1 X.1 X.2.1 X.2.2 1 2 (cA := g.2.2.2) (n := 1) (f := f) rfl rfl (vp_in_nI (n := 0) (by decide) (by decide)) dL_best_8 (fun H locs hP hD hS => ?_)
    have X : zh g A (WH g h o ((u0, u1, u2, u3, u4, u5, u6, u7, u8, u9, u10), vp_updL f 0 r.toInt64)) s.heap H locs := ⟨hP, hD, hS⟩
    refine lv_goto (tgt := 18) hx hb dL_best_9 (by decide) ?_
    refine lv_iconst (v := (0 : Int32)) hx hb dL_best_18 (by decide) ?_
    exact zreti Z hr hlk ((u0, u1, u2, u3, u4, u5, u6, u7, u8, u9, u10), vp_updL f 0 r.toInt64) X dL_best_19 rfl (Or.inl ⟨rfl, r, hpost, (pk_uLs : vp_updL f 0 r.toInt64 0 = r.toInt64)⟩)
theorem zalike1 {q0 q1 q2 q3 q4 q5 q6 : Int32} {q7 : Int64} {q8 q9 : Int32} {q10 : Int64} {r : Int32} {u : QS} (h : P_X0_isAlike q0 q1 q2 q3 q4 q5 q6 q7 q8 q9 q10 r u) (c : ¬ r = 0) : r = 1 := by
  have e : r = zb _ := h.2.2
  rw [e] at c ⊢
  exact zb_t (zb_n0.mp c)
def PL_isAlike (q0 q1 q2 q3 q4 q5 q6 : Int32) (q7 : Int64) (q8 q9 : Int32) (q10 : Int64) : Int32 → QS × (Nat → Int64) → Prop := fun r u => (r = 0 ∧ ∃ v : Int32, P_X0_isAlike q0 q1 q2 q3 q4 q5 q6 q7 q8 q9 q10 v u.1 ∧ u.2 0 = v.toInt64) ∨ (r = 1 ∧ PX_X0_isAlike q0 q1 q2 q3 q4 q5 q6 q7 q8 q9 q10 eIS ∧ u.1 = (q0, q1, q2, q3, q4, q5, q6, q7, q8, q9, q10))
set_option maxHeartbeats 1000000 in
set_option maxRecDepth 100000 in
theorem c_L_isAlike (l : Launch) (g : zG) (bL h o : Nat) (q0 q1 q2 q3 q4 q5 q6 : Int32) (q7 : Int64) (q8 q9 : Int32) (q10 : Int64) (f : Nat → Int64) (htr : l.stackTraces = false)  : zMk l yL_isAlike wsL_isAlike 32 1100 1 6 g [.ref h, .ref o] (WH g h o ((q0, q1, q2, q3, q4, q5, q6, q7, q8, q9, q10), f)) (zEL bL) (zQi g (PL_isAlike q0 q1 q2 q3 q4 q5 q6 q7 q8 q9 q10) (WH g h o)) := by
  refine zstartH (cc := cL_isAlike) (maxL := 3) (ret := some .int) (own := RL) (hh := [(0, 15, 18, 15)]) rfl (by decide) rfl zStL (Nat.le_of_ble_eq_true rfl) ?_
  intro p e s m below meth c A Z hr hlk htab H locs X ls hl
  have hx := Z.1.1
  have hb := Z.1.2.1
  have hown := Z.1.2.2.2.1
  have hts := Z.1.2.2.2.2
  have hE := Z.2.2.2.1
  have hl : lv_has ls 3 [(0, .ref h), (1, .ref o)] := hl
  refine lv_aload_n hx hb dL_isAlike_0 rfl (lv_at hl 1 rfl) ?_
  refine lv_iconst (v := nI 0) hx hb dL_isAlike_1 (by decide) ?_
  refine lv_aload_n hx hb dL_isAlike_2 rfl (lv_at hl 0 rfl) ?_
  refine zsubX (n := 0) (As := []) (rest := [.int (nI 0), .ref o]) (wc := oQ h (q0, q1, q2, q3, q4, q5, q6, q7, q8, q9, q10)) (wr := oOut g o f) (ci := 0) (C := RX0) (T := TX0) (N := 11) [0] [1] rfl rfl rfl rfl (by decide) Z X (c_X0_isAlike l g bL h q0 q1 q2 q3 q4 q5 q6 q7 q8 q9 q10 htr) gL_isAlike_X0_isAlike rfl (by decide +kernel) ⟨Nat.le_of_ble_eq_true rfl, Nat.le_of_ble_eq_true rfl⟩ rfl rfl rfl rfl hl.1 (Nat.le_of_ble_eq_true rfl) dL_isAlike_3 ⟨Nat.le_of_ble_eq_true rfl, Nat.le_of_ble_eq_true rfl⟩ (fun X9 ce qE H locs hpx X hce hcv hcl => ?_) (fun r u H locs hpost X => ?_)
  · have X : zh g A (WH g h o ((q0, q1, q2, q3, q4, q5, q6, q7, q8, q9, q10), f)) s.heap H locs := zhsub X [1, 0] rfl rfl
    obtain rfl : X9 = eIS := hpx.1
    refine vx_catch (own := RL) (name := eIS) (E := eIS) hown [] ⟨0, 15, 18, 15⟩ [] htab (fun z hz => nomatch hz) (by decide) (by decide) (hts (.classLink RL 15 eIS) (by decide +kernel)) (zcast hE (by decide +kernel)) hce hcv hcl ?_
    refine lv_astore_n (lv' := [(2, .ref qE), (0, .ref h), (1, .ref o)]) hx hb dL_isAlike_18 rfl hl (by decide) rfl (fun ls hl => ?_)
    refine lv_iconst (v := (1 : Int32)) hx hb dL_isAlike_19 (by decide) ?_
    exact zreti Z hr hlk ((q0, q1, q2, q3, q4, q5, q6, q7, q8, q9, q10), f) X dL_isAlike_20 rfl (Or.inr ⟨rfl, hpx, rfl⟩)
  · obtain ⟨u0, u1, u2, u3, u4, u5, u6, u7, u8, u9, u10⟩ := u
    have X : zh g A (WH g h o ((u0, u1, u2, u3, u4, u5, u6, u7, u8, u9, u10), f)) s.heap H locs := zhsub X [1, 0] rfl rfl
    refine lv_if_eq (tgt := 13) hx hb dL_isAlike_6 (by decide) (fun c1 => ?_) (fun c1 => ?_)
    · refine lv_lconst (v := (0 : Int64)) hx hb dL_isAlike_13 (by decide) ?_
      refine va_last hx hb Z.2.1 X.1 X.2.1 X.2.2 1 2 (cA := g.2.2.2) (n := 1) (f := f) rfl rfl (vp_in_nI (n := 0) (by decide) (by decide)) dL_isAlike_14 (fun H locs hP hD hS => ?_)
      have X : zh g A (WH g h o ((u0, u1, u2, u3, u4, u5, u6, u7, u8, u9, u10), vp_updL f 0 (0 : Int64))) s.heap H locs := ⟨hP, hD, hS⟩
      refine lv_goto (tgt := 21) hx hb dL_isAlike_15 (by decide) ?_
      refine lv_iconst (v := (0 : Int32)) hx hb dL_isAlike_21 (by decide) ?_
      exact zreti Z hr hlk ((u0, u1, u2, u3, u4, u5, u6, u7, u8, u9, u10), vp_updL f 0 0) X dL_isAlike_22 rfl (Or.inl ⟨rfl, r, hpost, (pk_uLs : vp_updL f 0 0 0 = 0).trans (by rw [c1]; rfl)⟩)
    · refine lv_lconst (v := (1 : Int64)) hx hb dL_isAlike_9 (by decide) ?_
      refine lv_goto (tgt := 14) hx hb dL_isAlike_10 (by decide) ?_
      refine va_last hx hb Z.2.1 X.1 X.2.1 X.2.2 1 2 (cA := g.2.2.2) (n := 1) (f := f) rfl rfl (vp_in_nI (n := 0) (by decide) (by decide)) dL_isAlike_14 (fun H locs hP hD hS => ?_)
      have X : zh g A (WH g h o ((u0, u1, u2, u3, u4, u5, u6, u7, u8, u9, u10), vp_updL f 0 (1 : Int64))) s.heap H locs := ⟨hP, hD, hS⟩
      refine lv_goto (tgt := 21) hx hb dL_isAlike_15 (by decide) ?_
      refine lv_iconst (v := (0 : Int32)) hx hb dL_isAlike_21 (by decide) ?_
      exact zreti Z hr hlk ((u0, u1, u2, u3, u4, u5, u6, u7, u8, u9, u10), vp_updL f 0 1) X dL_isAlike_22 rfl (Or.inl ⟨rfl, r, hpost, (pk_uLs : vp_updL f 0 1 0 = 1).trans (by rw [zalike1 hpost c1]; rfl)⟩)
