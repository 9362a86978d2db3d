/-! the law gives, places, begins -/
section RD
variable {q0 q1 q2 q3 q4 q5 q6 : Int32} {q7 : Int64} {q8 q9 : Int32} {q10 : Int64} {P G O : Nat → Int32} {pn ii : Nat} {r : Int32} {u : QS}
theorem RGs_i (h : RG q0 q1 q2 q3 q4 q5 q6 q7 P G pn O) : RGs ((q0, q1, q2, q3, q4, q5, q6, q7, q8, q9, q10), P, G) := by
  show ∃ pn O, RG q0 q1 q2 q3 q4 q5 q6 q7 P G pn O
  exact ⟨pn, O, h⟩
theorem qNum_16 (hi : ii ≤ 16) (c : ¬ ii ≤ 15) : qNum (nI ii) = false := by
  obtain rfl : ii = 16 := by omega
  decide
theorem gv_30 (hi : ii ≤ 16) (c : ¬ ii ≤ 15) (h : P_L_does1 q0 q1 q2 q3 q4 q5 q6 q7 q8 q9 q10 (nI ii) r u) : u = (q0, q1, q2, q3, q4, q5, q6, q7, q8, q9, q10) ∧ r = -30 := by
  have e := qNum_16 hi c
  rcases h with h | ⟨h1, h2, h3⟩ | ⟨h1, h2, h3⟩
  · have := h.1.1
    rw [e] at this; cases this
  · exact ⟨h3, h1⟩
  · rcases h2 with x | x
    · exact absurd x.1 (by decide)
    · have := x.2.1
      rw [e] at this; cases this
theorem gv_10 (hi : ii ≤ 15) (c : ¬ q1 = 0 ∨ qHas q6 (nI ii) = true) (h : P_L_does1 q0 q1 q2 q3 q4 q5 q6 q7 q8 q9 q10 (nI ii) r u) : u = (q0, q1, q2, q3, q4, q5, q6, q7, q8, q9, q10) ∧ r = -10 := by
  have e := qNum_k ii (by omega)
  rcases h with h | ⟨h1, h2, h3⟩ | ⟨h1, h2, h3⟩
  · rcases c with c | c
    · exact absurd h.1.2.1 c
    · have := h.1.2.2
      rw [c] at this; cases this
  · rcases h2 with x | x
    · have := x.2
      rw [e] at this; cases this
    · exact absurd x.1 (by decide)
  · exact ⟨h3, h1⟩
theorem gv_10a (hi : ii ≤ 15) (c : ¬ q1 = 0) (h : P_L_does1 q0 q1 q2 q3 q4 q5 q6 q7 q8 q9 q10 (nI ii) r u) : u = (q0, q1, q2, q3, q4, q5, q6, q7, q8, q9, q10) ∧ r = -10 := gv_10 hi (Or.inl c) h
theorem gv_10b (hrb : RB P O pn q5 q6 q7) (hi : ii ≤ 15) (c : ¬ zb (lHas P (nI ii) 16) = 0) (h : P_L_does1 q0 q1 q2 q3 q4 q5 q6 q7 q8 q9 q10 (nI ii) r u) : u = (q0, q1, q2, q3, q4, q5, q6, q7, q8, q9, q10) ∧ r = -10 := gv_10 hi (Or.inr (by rw [← lHas_us hrb (by omega)]; exact zb_n0.mp c)) h
theorem gv_ok (hrb : RB P O pn q5 q6 q7) (hi : ii ≤ 15) (c1 : q1 = 0) (c : zb (lHas P (nI ii) 16) = 0) (h : P_L_does1 q0 q1 q2 q3 q4 q5 q6 q7 q8 q9 q10 (nI ii) r u) : u = (q0, 1, 1 - q2, nI ii, q4, q5, q6, q7, q8, q9, q10) ∧ r = 1 - q2 := by
  have e := qNum_k ii (by omega)
  have e2 := zb_0.mp c
  rw [lHas_us hrb (by omega)] at e2
  rcases h with h | ⟨h1, h2, h3⟩ | ⟨h1, h2, h3⟩
  · exact h.2
  · rcases h2 with x | x
    · have := x.2
      rw [e] at this; cases this
    · exact absurd x.1 (by decide)
  · rcases h2 with x | x
    · exact absurd x.1 (by decide)
    · rcases x.2.2 with z | z
      · exact absurd c1 z
      · rw [e2] at z; cases z
theorem q2_sub (hot : q2 = 0 ∨ q2 = 1) : ¬ (1 : Int32) - q2 < 0 := by
  rcases hot with z | z <;> rw [z] <;> decide
theorem q2_ge (hot : q2 = 0 ∨ q2 = 1) : 0 ≤ q2 := by
  rcases hot with z | z <;> rw [z] <;> decide
theorem RG_give (h : RG q0 q1 q2 q3 q4 q5 q6 q7 P G pn O) (c : q1 = 0) (hi : ii ≤ 15) (hn : zb (lHas P (nI ii) 16) = 0) : RG q0 1 (1 - q2) (nI ii) q4 q5 q6 q7 P (upd (upd (upd G 1 (1 : Int32)) 2 ((1 : Int32) - q2)) 3 (nI ii)) pn O := by
  obtain ⟨⟨hG0, hG1, hG2, hG3, hG4, hG5⟩, hph, hot, hrb, hone, hgo, hov⟩ := h
  refine ⟨⟨hG0, rfl, rfl, rfl, hG4, hG5⟩, Or.inr (Or.inl rfl), ?_, hrb, fun _ => ⟨ii, by omega, rfl, (lHas_O hrb (by omega)).mp (zb_0.mp hn)⟩, fun _ => hgo (by rw [c]; decide), fun q => absurd q (by decide)⟩
  rcases hot with z | z <;> rw [z]
  · exact Or.inr (by decide)
  · exact Or.inl (by decide)
-- placing
theorem pl_30 (hi : ii ≤ 16) (c : ¬ ii ≤ 15) (h : P_L_does0 q0 q1 q2 q3 q4 q5 q6 q7 q8 q9 q10 (nI ii) r u) : u = (q0, q1, q2, q3, q4, q5, q6, q7, q8, q9, q10) ∧ r = -30 := by
  have e := qNum_16 hi c
  rcases h with h | ⟨h1, h2, h3⟩ | ⟨h1, h2, h3⟩
  · have := h.1.1
    rw [e] at this; cases this
  · exact ⟨h3, h1⟩
  · rcases h2 with x | x
    · exact absurd x.1 (by decide)
    · have := x.2.1
      rw [e] at this; cases this
theorem pl_10 (hi : ii ≤ 15) (c : ¬ q1 = 1 ∨ qHas q5 (nI ii) = true) (h : P_L_does0 q0 q1 q2 q3 q4 q5 q6 q7 q8 q9 q10 (nI ii) r u) : u = (q0, q1, q2, q3, q4, q5, q6, q7, q8, q9, q10) ∧ r = -10 := by
  have e := qNum_k ii (by omega)
  rcases h with h | ⟨h1, h2, h3⟩ | ⟨h1, h2, h3⟩
  · rcases c with c | c
    · exact absurd h.1.2.1 c
    · have := h.1.2.2
      rw [c] at this; cases this
  · rcases h2 with x | x
    · have := x.2
      rw [e] at this; cases this
    · exact absurd x.1 (by decide)
  · exact ⟨h3, h1⟩
theorem pl_10a (hi : ii ≤ 15) (c : ¬ q1 = 1) (h : P_L_does0 q0 q1 q2 q3 q4 q5 q6 q7 q8 q9 q10 (nI ii) r u) : u = (q0, q1, q2, q3, q4, q5, q6, q7, q8, q9, q10) ∧ r = -10 := pl_10 hi (Or.inl c) h
theorem pl_10b (hrb : RB P O pn q5 q6 q7) (hi : ii ≤ 15) (c : ¬ P ii < 0) (h : P_L_does0 q0 q1 q2 q3 q4 q5 q6 q7 q8 q9 q10 (nI ii) r u) : u = (q0, q1, q2, q3, q4, q5, q6, q7, q8, q9, q10) ∧ r = -10 := by
  refine pl_10 hi (Or.inr ?_) h
  cases z : qHas q5 (nI ii)
  · have y := (RB_f hrb (s := ii) (by omega)).mp z
    rw [y] at c
    exact absurd (by decide) c
  · rfl
theorem pl_all (hi : ii ≤ 15) (c1 : q1 = 1) (c : qHas q5 (nI ii) = false) (h : P_L_does0 q0 q1 q2 q3 q4 q5 q6 q7 q8 q9 q10 (nI ii) r u) : P_X0_place q0 q1 q2 q3 q4 q5 q6 q7 q8 q9 q10 (nI ii) r u := by
  have e := qNum_k ii (by omega)
  rcases h with h | ⟨h1, h2, h3⟩ | ⟨h1, h2, h3⟩
  · exact h
  · rcases h2 with x | x
    · have := x.2
      rw [e] at this; cases this
    · exact absurd x.1 (by decide)
  · rcases h2 with x | x
    · exact absurd x.1 (by decide)
    · rcases x.2.2 with z | z
      · exact absurd c1 z
      · rw [c] at z; cases z
theorem pl_core (h : RG q0 q1 q2 q3 q4 q5 q6 q7 P G pn O) (c1 : q1 = 1) (hi : ii ≤ 15) (hP : P ii < 0) : pn < 16 ∧ q4 = -1 ∧ qHas q5 (nI ii) = false ∧ qWon (q5 ||| qBit (nI ii)) (qPutD q7 q3 (nI ii)) q0 = lWc (upd P ii q3) (qLn q0) ∧ (lWc (upd P ii q3) (qLn q0) ≤ 0 → NW q0 (upd P ii q3)) ∧ ∃ O', RB (upd P ii q3) O' (pn + 1) (q5 ||| qBit (nI ii)) (q6 ||| qBit q3) (qPutD q7 q3 (nI ii)) := by
  obtain ⟨⟨hG0, hG1, hG2, hG3, hG4, hG5⟩, hph, hot, hrb, hone, hgo, hov⟩ := h
  obtain ⟨hpn, hnw, h4⟩ := hgo (by rw [c1]; decide)
  obtain ⟨p, hp, e3, hO⟩ := hone c1
  have hs : ii < 16 := by omega
  have h1 : P ii = -1 := ok_lt hrb.1.1 hs (Int32.not_le.mpr hP)
  have hb := RB_put hrb hp hs h1 hO
  rw [← e3] at hb
  have ew := lWon_eq (w := q0) hb.1
  have em : qWon (q5 ||| qBit (nI ii)) (qPutD q7 q3 (nI ii)) q0 = mWon q0 (upd P ii q3) ii := won_eq hb.1 (NW_off hnw)
  refine ⟨hpn, h4, (RB_f hrb hs).mpr h1, ew.symm, fun q => ?_, _, hb⟩
  refine NW_put hnw (fun z => ?_)
  rw [← em, ← ew] at z
  omega
theorem pl_w (h : RG q0 q1 q2 q3 q4 q5 q6 q7 P G pn O) (c1 : q1 = 1) (hi : ii ≤ 15) (hP : P ii < 0) (hw : ¬ lWc (upd P ii q3) (qLn q0) ≤ 0) (hd : P_L_does0 q0 q1 q2 q3 q4 q5 q6 q7 q8 q9 q10 (nI ii) r u) : u = (q0, 2, q2, -1, q2, q5 ||| qBit (nI ii), q6 ||| qBit q3, qPutD q7 q3 (nI ii), q8, q9, q10) ∧ r = nI (lWc (upd P ii q3) (qLn q0)) := by
  obtain ⟨hpn, h4, hf, ew, -, -⟩ := pl_core h c1 hi hP
  obtain ⟨-, hu, hr⟩ := pl_all hi c1 hf hd
  rw [ew] at hu hr
  rw [if_pos (by omega), if_pos (by omega)] at hu
  exact ⟨hu, hr⟩
theorem pl_full (h : RG q0 q1 q2 q3 q4 q5 q6 q7 P G pn O) (c1 : q1 = 1) (hi : ii ≤ 15) (hP : P ii < 0) : (q5 ||| qBit (nI ii) = 65535) ↔ pn + 1 = 16 := by
  obtain ⟨hpn, -, -, -, -, O', hb⟩ := pl_core h c1 hi hP
  constructor
  · intro q
    apply Classical.byContradiction
    intro z
    exact not_full hb (by omega) q
  · intro q
    rw [q] at hb
    exact full_f hb
theorem pl_f (h : RG q0 q1 q2 q3 q4 q5 q6 q7 P G pn O) (c1 : q1 = 1) (hi : ii ≤ 15) (hP : P ii < 0) (hw : lWc (upd P ii q3) (qLn q0) ≤ 0) (hx : pn + 1 = 16) (hd : P_L_does0 q0 q1 q2 q3 q4 q5 q6 q7 q8 q9 q10 (nI ii) r u) : u = (q0, 2, q2, -1, 2, q5 ||| qBit (nI ii), q6 ||| qBit q3, qPutD q7 q3 (nI ii), q8, q9, q10) ∧ r = nI (lWc (upd P ii q3) (qLn q0)) := by
  have hfu := (pl_full h c1 hi hP).mpr hx
  obtain ⟨hpn, h4, hf, ew, -, -⟩ := pl_core h c1 hi hP
  obtain ⟨-, hu, hr⟩ := pl_all hi c1 hf hd
  rw [ew] at hu hr
  have nw : ¬ 0 < lWc (upd P ii q3) (qLn q0) := by omega
  rw [if_neg nw, if_neg nw, if_pos hfu, if_pos hfu] at hu
  exact ⟨hu, hr⟩
theorem pl_m (h : RG q0 q1 q2 q3 q4 q5 q6 q7 P G pn O) (c1 : q1 = 1) (hi : ii ≤ 15) (hP : P ii < 0) (hw : lWc (upd P ii q3) (qLn q0) ≤ 0) (hx : ¬ pn + 1 = 16) (hd : P_L_does0 q0 q1 q2 q3 q4 q5 q6 q7 q8 q9 q10 (nI ii) r u) : u = (q0, 0, q2, -1, -1, q5 ||| qBit (nI ii), q6 ||| qBit q3, qPutD q7 q3 (nI ii), q8, q9, q10) ∧ r = nI (lWc (upd P ii q3) (qLn q0)) := by
  have hfu : ¬ q5 ||| qBit (nI ii) = 65535 := fun q => hx ((pl_full h c1 hi hP).mp q)
  obtain ⟨hpn, h4, hf, ew, -, -⟩ := pl_core h c1 hi hP
  obtain ⟨-, hu, hr⟩ := pl_all hi c1 hf hd
  rw [ew] at hu hr
  have nw : ¬ 0 < lWc (upd P ii q3) (qLn q0) := by omega
  rw [if_neg nw, if_neg nw, if_neg hfu, if_neg hfu, h4] at hu
  exact ⟨hu, hr⟩
theorem RG_w (h : RG q0 q1 q2 q3 q4 q5 q6 q7 P G pn O) (c1 : q1 = 1) (hi : ii ≤ 15) (hP : P ii < 0) : RGs ((q0, 2, q2, -1, q2, q5 ||| qBit (nI ii), q6 ||| qBit q3, qPutD q7 q3 (nI ii), q8, q9, q10), (upd P ii q3), upd (upd (upd (upd G 3 (-1 : Int32)) 4 (nI (pn + 1))) 5 q2) 1 (2 : Int32)) := by
  obtain ⟨hpn, h4, hf, ew, -, O', hb⟩ := pl_core h c1 hi hP
  obtain ⟨⟨hG0, hG1, hG2, hG3, hG4, hG5⟩, hph, hot, hrb, hone, hgo, hov⟩ := h
  exact RGs_i ⟨⟨hG0, rfl, hG2, rfl, rfl, rfl⟩, Or.inr (Or.inr rfl), hot, hb, fun q => absurd q (by decide), fun q => absurd rfl q, fun _ => q2_ge hot⟩
theorem RG_f (h : RG q0 q1 q2 q3 q4 q5 q6 q7 P G pn O) (c1 : q1 = 1) (hi : ii ≤ 15) (hP : P ii < 0) : RGs ((q0, 2, q2, -1, 2, q5 ||| qBit (nI ii), q6 ||| qBit q3, qPutD q7 q3 (nI ii), q8, q9, q10), (upd P ii q3), upd (upd (upd (upd G 3 (-1 : Int32)) 4 (nI (pn + 1))) 5 (2 : Int32)) 1 (2 : Int32)) := by
  obtain ⟨hpn, h4, hf, ew, -, O', hb⟩ := pl_core h c1 hi hP
  obtain ⟨⟨hG0, hG1, hG2, hG3, hG4, hG5⟩, hph, hot, hrb, hone, hgo, hov⟩ := h
  exact RGs_i ⟨⟨hG0, rfl, hG2, rfl, rfl, rfl⟩, Or.inr (Or.inr rfl), hot, hb, fun q => absurd q (by decide), fun q => absurd rfl q, fun _ => by decide⟩
theorem RG_m (h : RG q0 q1 q2 q3 q4 q5 q6 q7 P G pn O) (c1 : q1 = 1) (hi : ii ≤ 15) (hP : P ii < 0) (hw : lWc (upd P ii q3) (qLn q0) ≤ 0) (hx : ¬ pn + 1 = 16) : RGs ((q0, 0, q2, -1, -1, q5 ||| qBit (nI ii), q6 ||| qBit q3, qPutD q7 q3 (nI ii), q8, q9, q10), (upd P ii q3), upd (upd (upd (upd G 3 (-1 : Int32)) 4 (nI (pn + 1))) 5 (-1 : Int32)) 1 (0 : Int32)) := by
  obtain ⟨hpn, h4, hf, ew, hnw, O', hb⟩ := pl_core h c1 hi hP
  obtain ⟨⟨hG0, hG1, hG2, hG3, hG4, hG5⟩, hph, hot, hrb, hone, hgo, hov⟩ := h
  exact RGs_i ⟨⟨hG0, rfl, hG2, rfl, rfl, rfl⟩, Or.inl rfl, hot, hb, fun q => absurd q (by decide), fun _ => ⟨by omega, hnw hw, rfl⟩, fun q => absurd q (by decide)⟩
-- what is drawn is found
theorem tgt_ex (hrb : RB P O pn q5 q6 q7) (hpn : pn < 16) (n : Nat) : ∃ t, t < 16 ∧ lHas P (nI t) 16 = false ∧ (¬ lSs P n = 0 → qHas (lSs P n) (nI t) = true) := by
  by_cases e : lSs P n = 0
  · obtain ⟨j, hj, z⟩ := cntv_ex (f := O) (v := 0) (k := 16) (by have := hrb.2.2.2.2; omega)
    exact ⟨j, hj, (lHas_O hrb hj).mpr z, fun q => absurd e q⟩
  · have : ∃ i, i < 16 ∧ lSsF P n i = true := by
      apply Classical.byContradiction
      intro q
      apply e
      refine (setN_0 _).mpr (fun i hi => ?_)
      cases y : lSsF P n i
      · rfl
      · exact absurd ⟨i, hi, y⟩ q
    obtain ⟨i, hi, y⟩ := this
    refine ⟨i, hi, ?_, fun _ => ?_⟩
    · unfold lSsF at y
      rw [Bool.and_eq_true] at y
      simpa using y.1
    · rw [lSs, setN_has _ hi, y]
theorem emp_ex (hrb : RB P O pn q5 q6 q7) (hpn : pn < 16) : ∃ t, t < 16 ∧ P t = -1 := cntv_ex (f := P) (v := -1) (k := 16) (by have := hrb.2.2.2.1; omega)
theorem ne_on {t k : Nat} (h : lHas P (nI t) 16 = false) (c : ¬ zb (lHas P (nI k) 16) = 0) : ¬ k = t := fun q => by
  rw [q, h] at c
  exact c rfl
theorem ne_sf {t k n : Nat} (hk : k < 16) (h : ¬ lSs P n = 0 → qHas (lSs P n) (nI t) = true) (c1 : ¬ lSs P n = 0) (c : (lSs P n >>> (nI k &&& 31)) &&& 1 = 0) : ¬ k = t := fun q => by
  have a := (shr_bit _ hk).mp c
  rw [q, h c1] at a
  cases a
theorem ne_emp {t k : Nat} (h : P t = -1) (c : ¬ P k < 0) : ¬ k = t := fun q => by
  rw [q, h] at c
  exact c (by decide)
theorem fil_0 {k : Nat} (hk : k = 16) : ∀ s, s < 16 → filN P (-1) k s = -1 := fun s hs => by
  unfold filN
  rw [if_pos (by omega)]
theorem RG_b {bb : Bool} {k : Nat} {x : Int32} (hk : k = 16) (hx : x = nI (qLn (zb bb))) : RGs ((zb bb, 0, 0, -1, -1, 0, 0, 0, q8, q9, q10), (filN P (-1) k), upd (upd (upd (upd (upd (upd G 0 x) 1 (0 : Int32)) 2 (0 : Int32)) 3 (-1 : Int32)) 4 (0 : Int32)) 5 (-1 : Int32)) := by
  have hP := fil_0 (P := P) hk
  exact RGs_i (pn := 0) (O := fun _ => 0) ⟨⟨hx, rfl, rfl, rfl, rfl, rfl⟩, Or.inl rfl, Or.inl rfl, RB_0 hP (fun _ _ => rfl), fun q => absurd q (by decide), fun _ => ⟨by decide, NW_0 hP, rfl⟩, fun q => absurd q (by decide)⟩
theorem ln_b0 {bb : Bool} (c : zb bb = 0) : (10 : Int32) = nI (qLn (zb bb)) := by
  unfold qLn
  rw [if_pos c]; rfl
theorem ln_b1 {bb : Bool} (c : ¬ zb bb = 0) : (19 : Int32) = nI (qLn (zb bb)) := by
  unfold qLn
  rw [if_neg c]; rfl
end RD
def P_L_isGiven : Int32 → LSt → Prop := fun r u => r = 1 ∧ RGs u
set_option maxHeartbeats 1000000 in
set_option maxRecDepth 100000 in
theorem c_L_isGiven (l : Launch) (g : zG) (bL h a b : Nat) (q0 q1 q2 q3 q4 q5 q6 : Int32) (q7 : Int64) (q8 q9 : Int32) (q10 : Int64) (P G : Nat → Int32) (ii : Nat) (htr : l.stackTraces = false) (pn : Nat) (O : Nat → Int32) (hR : RG q0 q1 q2 q3 q4 q5 q6 q7 P G pn O) (hi : ii ≤ 16) : zMk l yL_isGiven wsL_isGiven 34 1400 1 6 g [.ref h, .ref a, .ref b, .int (nI ii)] (oL g h a b ((q0, q1, q2, q3, q4, q5, q6, q7, q8, q9, q10), P, G)) (zEL bL) (zQi g (P_L_isGiven) (oL g h a b)) := by
  refine zstartk (cc := cL_isGiven) (maxL := 5) (ret := (some .boolean)) (own := RL) rfl (by decide) rfl zStL (Nat.le_of_ble_eq_true rfl) ?_
  intro p e s m below meth c A Z hr hlk _hname H locs X ls hl
  have hx := Z.1.1
  have hb := Z.1.2.1
  have hl : lv_has ls 5 [(0, .ref h), (1, .ref a), (2, .ref b), (3, .int (nI ii))] := hl
  have X : zh g A (oL g h a b ((q0, q1, q2, q3, q4, q5, q6, q7, q8, q9, q10), P, G)) s.heap H locs := X
  have hR0 := hR
  obtain ⟨⟨hG0, hG1, hG2, hG3, hG4, hG5⟩, hph, hot, hrb, hone, hgo, hov⟩ := hR
  have hok : okP P := hrb.1.1
  have hqn := qLn_le q0
  have hpl := RB_le hrb
  refine lv_iload_n hx hb dL_isGiven_0 rfl (lv_at hl 3 rfl) ?_
  refine lv_bipush (v := (15 : Int32)) hx hb dL_isGiven_1 (by decide) ?_
  refine lv_icmp_le (tgt := 11) hx hb dL_isGiven_3 (by decide) (fun c1 => ?_) (fun c1 => ?_)
  · have qc1 := c1
    have c1n : ii ≤ 15 := zn_let (by omega) (by omega) c1
    refine lv_aload_n hx hb dL_isGiven_11 rfl (lv_at hl 2 rfl) ?_
    refine lv_iconst (v := (1 : Int32)) hx hb dL_isGiven_12 (by decide) ?_
    refine zald (q0 := 2) (n := 6) (f := G) Z X rfl rfl 1 (by decide) (by decide) (by decide) dL_isGiven_13 ?_
    refine zrwi (y := q1) hG1 ?_
    refine lv_if_ne (tgt := 25) hx hb dL_isGiven_14 (by decide) (fun c2 => ?_) (fun c2 => ?_)
    · have qc2 := c2
      refine lv_bipush (v := (-10 : Int32)) hx hb dL_isGiven_25 (by decide) ?_
      refine lv_goto (tgt := 35) hx hb dL_isGiven_27 (by decide) ?_
      refine lv_istore (lv' := [(4, .int (-10 : Int32)), (0, .ref h), (1, .ref a), (2, .ref b), (3, .int (nI ii))]) hx hb dL_isGiven_35 hl (by decide) rfl (fun ls hl => ?_)
      refine lv_iload hx hb dL_isGiven_37 (lv_at hl 0 rfl) ?_
      refine lv_if_lt (tgt := 55) hx hb dL_isGiven_39 (by decide) (fun c3 => ?_) (fun c3 => ?_)
      · have qc3 := c3
        refine lv_aload_n hx hb dL_isGiven_55 rfl (lv_at hl 1 rfl) ?_
        refine lv_iconst (v := (1 : Int32)) hx hb dL_isGiven_56 (by decide) ?_
        refine lv_iload_n hx hb dL_isGiven_57 rfl (lv_at hl 4 rfl) ?_
        refine zsubSi (n := 3) (As := [.ref h, .int (1 : Int32), .int (nI ii)]) (rest := []) (wc := oQ h (q0, q1, q2, q3, q4, q5, q6, q7, q8, q9, q10)) (wr := oB g a P ++ oG g b G) [0] [1, 2] rfl rfl rfl rfl (by decide) Z X zStL (fun _ _ h => h) (c_L_does1 l g bL h q0 q1 q2 q3 q4 q5 q6 q7 q8 q9 q10 (nI ii) htr) gL_isGiven_L_does rfl ⟨by decide, by decide, by decide +kernel⟩ ⟨Nat.le_of_ble_eq_true rfl, Nat.le_of_ble_eq_true rfl⟩ rfl rfl hl.1 (Nat.le_of_ble_eq_true rfl) dL_isGiven_58 ⟨show 0 + 1 ≤ 1 from by omega, show 0 + 6 ≤ 6 from by omega⟩ (fun r4 ur4 H locs hr4 X => ?_)
        obtain ⟨hur4, hr4⟩ := gv_10a (by assumption) (by assumption) hr4
        rw [hur4] at X
        refine zrwi (y := (-10 : Int32)) hr4 ?_
        have X : zh g A (oL g h a b ((q0, q1, q2, q3, q4, q5, q6, q7, q8, q9, q10), P, G)) s.heap H locs := zhsub X [2, 0, 1] rfl rfl
        refine lv_iload hx hb dL_isGiven_61 (lv_at hl 0 rfl) ?_
        refine lv_icmp_ne (tgt := 70) hx hb dL_isGiven_63 (by decide) (fun c5 => ?_) (fun c5 => ?_)
        · exact absurd c5 (by decide)
        · have qc5 := c5
          refine lv_iconst (v := (1 : Int32)) hx hb dL_isGiven_66 (by decide) ?_
          refine lv_goto (tgt := 71) hx hb dL_isGiven_67 (by decide) ?_
          exact W.widen (k := 1) (n := 6) (by omega) (by omega) (zreti Z hr hlk ((q0, q1, q2, q3, q4, q5, q6, q7, q8, q9, q10), P, G) X dL_isGiven_71 rfl (⟨rfl, RGs_i hR0⟩))
      · exact absurd c3 (by decide)
    · have qc2 := c2
      refine lv_aload_n hx hb dL_isGiven_17 rfl (lv_at hl 1 rfl) ?_
      refine lv_iload_n hx hb dL_isGiven_18 rfl (lv_at hl 3 rfl) ?_
      refine zsubS (n := 2) (As := [.ref a, .int (nI ii)]) (rest := []) (wc := oB g a P) (wr := oQ h (q0, q1, q2, q3, q4, q5, q6, q7, q8, q9, q10) ++ oG g b G) [1] [0, 2] rfl rfl rfl rfl (by decide) Z X zSt0 (fun _ _ _ => trivial) (c_L_isOn l g a P (nI ii)) gL_isGiven_L_isOn rfl (by decide +kernel) ⟨Nat.le_of_ble_eq_true rfl, Nat.le_of_ble_eq_true rfl⟩ rfl rfl hl.1 (Nat.le_of_ble_eq_true rfl) dL_isGiven_19 ⟨show 0 + 0 ≤ 1 from by omega, show 0 + 0 ≤ 6 from by omega⟩ (fun r6 ur6 H locs hr6 X => ?_)
      obtain ⟨hur6, hr6⟩ := hr6
      rw [hur6] at X
      have X : zh g A (oL g h a b ((q0, q1, q2, q3, q4, q5, q6, q7, q8, q9, q10), P, G)) s.heap H locs := zhsub X [0, 2, 1] rfl rfl
      refine zrwi (y := zb (lHas P (nI ii) 16)) hr6 ?_
      refine lv_if_eq (tgt := 30) hx hb dL_isGiven_22 (by decide) (fun c7 => ?_) (fun c7 => ?_)
      · have qc7 := c7
        refine lv_iconst (v := (1 : Int32)) hx hb dL_isGiven_30 (by decide) ?_
        refine lv_aload_n hx hb dL_isGiven_31 rfl (lv_at hl 2 rfl) ?_
        refine lv_iconst (v := (2 : Int32)) hx hb dL_isGiven_32 (by decide) ?_
        refine zald (q0 := 2) (n := 6) (f := G) Z X rfl rfl 2 (by decide) (by decide) (by decide) dL_isGiven_33 ?_
        refine zrwi (y := q2) hG2 ?_
        refine lv_isub hx hb dL_isGiven_34 ?_
        refine lv_istore (lv' := [(4, .int ((1 : Int32) - q2)), (0, .ref h), (1, .ref a), (2, .ref b), (3, .int (nI ii))]) hx hb dL_isGiven_35 hl (by decide) rfl (fun ls hl => ?_)
        refine lv_iload hx hb dL_isGiven_37 (lv_at hl 0 rfl) ?_
        refine lv_if_lt (tgt := 55) hx hb dL_isGiven_39 (by decide) (fun c8 => ?_) (fun c8 => ?_)
        · have qc8 := c8
          exact absurd c8 (q2_sub hot)
        · have qc8 := c8
          refine lv_aload_n hx hb dL_isGiven_42 rfl (lv_at hl 3 rfl) ?_
          refine lv_iconst (v := (1 : Int32)) hx hb dL_isGiven_43 (by decide) ?_
          refine lv_iconst (v := (1 : Int32)) hx hb dL_isGiven_44 (by decide) ?_
          refine zast (q0 := 2) (n := 6) (f := G) Z X rfl rfl 1 (by decide) (by decide) (by decide) dL_isGiven_45 (fun H locs X => ?_)
          have X : zh g A (oL g h a b ((q0, q1, q2, q3, q4, q5, q6, q7, q8, q9, q10), P, upd G 1 (1 : Int32))) s.heap H locs := X
          refine lv_aload_n hx hb dL_isGiven_46 rfl (lv_at hl 3 rfl) ?_
          refine lv_iconst (v := (2 : Int32)) hx hb dL_isGiven_47 (by decide) ?_
          refine lv_iload hx hb dL_isGiven_48 (lv_at hl 0 rfl) ?_
          refine zast (q0 := 2) (n := 6) (f := upd G 1 (1 : Int32)) Z X rfl rfl 2 (by decide) (by decide) (by decide) dL_isGiven_50 (fun H locs X => ?_)
          have X : zh g A (oL g h a b ((q0, q1, q2, q3, q4, q5, q6, q7, q8, q9, q10), P, upd (upd G 1 (1 : Int32)) 2 ((1 : Int32) - q2))) s.heap H locs := X
          refine lv_aload_n hx hb dL_isGiven_51 rfl (lv_at hl 3 rfl) ?_
          refine lv_iconst (v := (3 : Int32)) hx hb dL_isGiven_52 (by decide) ?_
          refine lv_iload_n hx hb dL_isGiven_53 rfl (lv_at hl 4 rfl) ?_
          refine zast (q0 := 2) (n := 6) (f := upd (upd G 1 (1 : Int32)) 2 ((1 : Int32) - q2)) Z X rfl rfl 3 (by decide) (by decide) (by decide) dL_isGiven_54 (fun H locs X => ?_)
          have X : zh g A (oL g h a b ((q0, q1, q2, q3, q4, q5, q6, q7, q8, q9, q10), P, upd (upd (upd G 1 (1 : Int32)) 2 ((1 : Int32) - q2)) 3 (nI ii))) s.heap H locs := X
          refine lv_aload_n hx hb dL_isGiven_55 rfl (lv_at hl 1 rfl) ?_
          refine lv_iconst (v := (1 : Int32)) hx hb dL_isGiven_56 (by decide) ?_
          refine lv_iload_n hx hb dL_isGiven_57 rfl (lv_at hl 4 rfl) ?_
          refine zsubSi (n := 3) (As := [.ref h, .int (1 : Int32), .int (nI ii)]) (rest := []) (wc := oQ h (q0, q1, q2, q3, q4, q5, q6, q7, q8, q9, q10)) (wr := oB g a P ++ oG g b (upd (upd (upd G 1 (1 : Int32)) 2 ((1 : Int32) - q2)) 3 (nI ii))) [0] [1, 2] rfl rfl rfl rfl (by decide) Z X zStL (fun _ _ h => h) (c_L_does1 l g bL h q0 q1 q2 q3 q4 q5 q6 q7 q8 q9 q10 (nI ii) htr) gL_isGiven_L_does rfl ⟨by decide, by decide, by decide +kernel⟩ ⟨Nat.le_of_ble_eq_true rfl, Nat.le_of_ble_eq_true rfl⟩ rfl rfl hl.1 (Nat.le_of_ble_eq_true rfl) dL_isGiven_58 ⟨show 0 + 0 + 1 ≤ 1 from by omega, show 0 + 0 + 6 ≤ 6 from by omega⟩ (fun r9 ur9 H locs hr9 X => ?_)
          obtain ⟨hur9, hr9⟩ := gv_ok hrb (by assumption) (by assumption) (by assumption) hr9
          rw [hur9] at X
          refine zrwi (y := (1 : Int32) - q2) hr9 ?_
          have X : zh g A (oL g h a b ((q0, 1, 1 - q2, nI ii, q4, q5, q6, q7, q8, q9, q10), P, upd (upd (upd G 1 (1 : Int32)) 2 ((1 : Int32) - q2)) 3 (nI ii))) s.heap H locs := zhsub X [2, 0, 1] rfl rfl
          refine lv_iload hx hb dL_isGiven_61 (lv_at hl 0 rfl) ?_
          refine lv_icmp_ne (tgt := 70) hx hb dL_isGiven_63 (by decide) (fun c10 => ?_) (fun c10 => ?_)
          · exact absurd rfl c10
          · have qc10 := c10
            refine lv_iconst (v := (1 : Int32)) hx hb dL_isGiven_66 (by decide) ?_
            refine lv_goto (tgt := 71) hx hb dL_isGiven_67 (by decide) ?_
            exact W.widen (k := 1) (n := 6) (by omega) (by omega) (zreti Z hr hlk ((q0, 1, 1 - q2, nI ii, q4, q5, q6, q7, q8, q9, q10), P, upd (upd (upd G 1 (1 : Int32)) 2 ((1 : Int32) - q2)) 3 (nI ii)) X dL_isGiven_71 rfl (⟨rfl, RGs_i (RG_give hR0 (by assumption) (by assumption) (by assumption))⟩))
      · have qc7 := c7
        refine lv_bipush (v := (-10 : Int32)) hx hb dL_isGiven_25 (by decide) ?_
        refine lv_goto (tgt := 35) hx hb dL_isGiven_27 (by decide) ?_
        refine lv_istore (lv' := [(4, .int (-10 : Int32)), (0, .ref h), (1, .ref a), (2, .ref b), (3, .int (nI ii))]) hx hb dL_isGiven_35 hl (by decide) rfl (fun ls hl => ?_)
        refine lv_iload hx hb dL_isGiven_37 (lv_at hl 0 rfl) ?_
        refine lv_if_lt (tgt := 55) hx hb dL_isGiven_39 (by decide) (fun c11 => ?_) (fun c11 => ?_)
        · have qc11 := c11
          refine lv_aload_n hx hb dL_isGiven_55 rfl (lv_at hl 1 rfl) ?_
          refine lv_iconst (v := (1 : Int32)) hx hb dL_isGiven_56 (by decide) ?_
          refine lv_iload_n hx hb dL_isGiven_57 rfl (lv_at hl 4 rfl) ?_
          refine zsubSi (n := 3) (As := [.ref h, .int (1 : Int32), .int (nI ii)]) (rest := []) (wc := oQ h (q0, q1, q2, q3, q4, q5, q6, q7, q8, q9, q10)) (wr := oB g a P ++ oG g b G) [0] [1, 2] rfl rfl rfl rfl (by decide) Z X zStL (fun _ _ h => h) (c_L_does1 l g bL h q0 q1 q2 q3 q4 q5 q6 q7 q8 q9 q10 (nI ii) htr) gL_isGiven_L_does rfl ⟨by decide, by decide, by decide +kernel⟩ ⟨Nat.le_of_ble_eq_true rfl, Nat.le_of_ble_eq_true rfl⟩ rfl rfl hl.1 (Nat.le_of_ble_eq_true rfl) dL_isGiven_58 ⟨show 0 + 0 + 1 ≤ 1 from by omega, show 0 + 0 + 6 ≤ 6 from by omega⟩ (fun r12 ur12 H locs hr12 X => ?_)
          obtain ⟨hur12, hr12⟩ := gv_10b hrb (by assumption) (by assumption) hr12
          rw [hur12] at X
          refine zrwi (y := (-10 : Int32)) hr12 ?_
          have X : zh g A (oL g h a b ((q0, q1, q2, q3, q4, q5, q6, q7, q8, q9, q10), P, G)) s.heap H locs := zhsub X [2, 0, 1] rfl rfl
          refine lv_iload hx hb dL_isGiven_61 (lv_at hl 0 rfl) ?_
          refine lv_icmp_ne (tgt := 70) hx hb dL_isGiven_63 (by decide) (fun c13 => ?_) (fun c13 => ?_)
          · exact absurd c13 (by decide)
          · have qc13 := c13
            refine lv_iconst (v := (1 : Int32)) hx hb dL_isGiven_66 (by decide) ?_
            refine lv_goto (tgt := 71) hx hb dL_isGiven_67 (by decide) ?_
            exact W.widen (k := 1) (n := 6) (by omega) (by omega) (zreti Z hr hlk ((q0, q1, q2, q3, q4, q5, q6, q7, q8, q9, q10), P, G) X dL_isGiven_71 rfl (⟨rfl, RGs_i hR0⟩))
        · exact absurd c11 (by decide)
  · have qc1 := c1
    have c1n : ¬ ii ≤ 15 := zn_len (by omega) (by omega) c1
    refine lv_bipush (v := (-30 : Int32)) hx hb dL_isGiven_6 (by decide) ?_
    refine lv_goto (tgt := 35) hx hb dL_isGiven_8 (by decide) ?_
    refine lv_istore (lv' := [(4, .int (-30 : Int32)), (0, .ref h), (1, .ref a), (2, .ref b), (3, .int (nI ii))]) hx hb dL_isGiven_35 hl (by decide) rfl (fun ls hl => ?_)
    refine lv_iload hx hb dL_isGiven_37 (lv_at hl 0 rfl) ?_
    refine lv_if_lt (tgt := 55) hx hb dL_isGiven_39 (by decide) (fun c14 => ?_) (fun c14 => ?_)
    · have qc14 := c14
      refine lv_aload_n hx hb dL_isGiven_55 rfl (lv_at hl 1 rfl) ?_
      refine lv_iconst (v := (1 : Int32)) hx hb dL_isGiven_56 (by decide) ?_
      refine lv_iload_n hx hb dL_isGiven_57 rfl (lv_at hl 4 rfl) ?_
      refine zsubSi (n := 3) (As := [.ref h, .int (1 : Int32), .int (nI ii)]) (rest := []) (wc := oQ h (q0, q1, q2, q3, q4, q5, q6, q7, q8, q9, q10)) (wr := oB g a P ++ oG g b G) [0] [1, 2] rfl rfl rfl rfl (by decide) Z X zStL (fun _ _ h => h) (c_L_does1 l g bL h q0 q1 q2 q3 q4 q5 q6 q7 q8 q9 q10 (nI ii) htr) gL_isGiven_L_does rfl ⟨by decide, by decide, by decide +kernel⟩ ⟨Nat.le_of_ble_eq_true rfl, Nat.le_of_ble_eq_true rfl⟩ rfl rfl hl.1 (Nat.le_of_ble_eq_true rfl) dL_isGiven_58 ⟨show 0 + 1 ≤ 1 from by omega, show 0 + 6 ≤ 6 from by omega⟩ (fun r15 ur15 H locs hr15 X => ?_)
      obtain ⟨hur15, hr15⟩ := gv_30 hi (by assumption) hr15
      rw [hur15] at X
      refine zrwi (y := (-30 : Int32)) hr15 ?_
      have X : zh g A (oL g h a b ((q0, q1, q2, q3, q4, q5, q6, q7, q8, q9, q10), P, G)) s.heap H locs := zhsub X [2, 0, 1] rfl rfl
      refine lv_iload hx hb dL_isGiven_61 (lv_at hl 0 rfl) ?_
      refine lv_icmp_ne (tgt := 70) hx hb dL_isGiven_63 (by decide) (fun c16 => ?_) (fun c16 => ?_)
      · exact absurd c16 (by decide)
      · have qc16 := c16
        refine lv_iconst (v := (1 : Int32)) hx hb dL_isGiven_66 (by decide) ?_
        refine lv_goto (tgt := 71) hx hb dL_isGiven_67 (by decide) ?_
        exact W.widen (k := 1) (n := 6) (by omega) (by omega) (zreti Z hr hlk ((q0, q1, q2, q3, q4, q5, q6, q7, q8, q9, q10), P, G) X dL_isGiven_71 rfl (⟨rfl, RGs_i hR0⟩))
    · exact absurd c14 (by decide)
def P_L_isPlaced : Int32 → LSt → Prop := fun r u => r = 1 ∧ RGs u
set_option maxHeartbeats 1000000 in
set_option maxRecDepth 100000 in
theorem c_L_isPlaced (l : Launch) (g : zG) (bL h a b : Nat) (q0 q1 q2 q3 q4 q5 q6 : Int32) (q7 : Int64) (q8 q9 : Int32) (q10 : Int64) (P G : Nat → Int32) (ii : Nat) (htr : l.stackTraces = false) (pn : Nat) (O : Nat → Int32) (hR : RG q0 q1 q2 q3 q4 q5 q6 q7 P G pn O) (hi : ii ≤ 16) : zMk l yL_isPlaced wsL_isPlaced 34 1400 2 12 g [.ref h, .ref a, .ref b, .int (nI ii)] (oL g h a b ((q0, q1, q2, q3, q4, q5, q6, q7, q8, q9, q10), P, G)) (zEL bL) (zQi g (P_L_isPlaced) (oL g h a b)) := by
  refine zstartk (cc := cL_isPlaced) (maxL := 5) (ret := (some .boolean)) (own := RL) rfl (by decide) rfl zStL (Nat.le_of_ble_eq_true rfl) ?_
  intro p e s m below meth c A Z hr hlk _hname H locs X ls hl
  have hx := Z.1.1
  have hb := Z.1.2.1
  have hl : lv_has ls 5 [(0, .ref h), (1, .ref a), (2, .ref b), (3, .int (nI ii))] := hl
  have X : zh g A (oL g h a b ((q0, q1, q2, q3, q4, q5, q6, q7, q8, q9, q10), P, G)) s.heap H locs := X
  have hR0 := hR
  obtain ⟨⟨hG0, hG1, hG2, hG3, hG4, hG5⟩, hph, hot, hrb, hone, hgo, hov⟩ := hR
  have hok : okP P := hrb.1.1
  have hqn := qLn_le q0
  have hpl := RB_le hrb
  refine lv_iload_n hx hb dL_isPlaced_0 rfl (lv_at hl 3 rfl) ?_
  refine lv_bipush (v := (15 : Int32)) hx hb dL_isPlaced_1 (by decide) ?_
  refine lv_icmp_gt (tgt := 19) hx hb dL_isPlaced_3 (by decide) (fun c1 => ?_) (fun c1 => ?_)
  · have qc1 := c1
    have c1n : 15 < ii := zn_ltt (by omega) (by omega) c1
    refine lv_aload_n hx hb dL_isPlaced_19 rfl (lv_at hl 0 rfl) ?_
    refine lv_iconst (v := (0 : Int32)) hx hb dL_isPlaced_20 (by decide) ?_
    refine lv_iload_n hx hb dL_isPlaced_21 rfl (lv_at hl 3 rfl) ?_
    refine zsubSi (n := 3) (As := [.ref h, .int (0 : Int32), .int (nI ii)]) (rest := []) (wc := oQ h (q0, q1, q2, q3, q4, q5, q6, q7, q8, q9, q10)) (wr := oB g a P ++ oG g b G) [0] [1, 2] rfl rfl rfl rfl (by decide) Z X zStL (fun _ _ h => h) (c_L_does0 l g bL h q0 q1 q2 q3 q4 q5 q6 q7 q8 q9 q10 (nI ii) htr) gL_isPlaced_L_does rfl ⟨by decide, by decide, by decide +kernel⟩ ⟨Nat.le_of_ble_eq_true rfl, Nat.le_of_ble_eq_true rfl⟩ rfl rfl hl.1 (Nat.le_of_ble_eq_true rfl) dL_isPlaced_22 ⟨show 0 + 1 ≤ 2 from by omega, show 0 + 6 ≤ 12 from by omega⟩ (fun r2 ur2 H locs hr2 X => ?_)
    obtain ⟨hur2, hr2⟩ := pl_30 hi (by omega) hr2
    rw [hur2] at X
    refine zrwi (y := (-30 : Int32)) hr2 ?_
    have X : zh g A (oL g h a b ((q0, q1, q2, q3, q4, q5, q6, q7, q8, q9, q10), P, G)) s.heap H locs := zhsub X [2, 0, 1] rfl rfl
    refine lv_iload_n hx hb dL_isPlaced_25 rfl (lv_at hl 3 rfl) ?_
    refine lv_bipush (v := (15 : Int32)) hx hb dL_isPlaced_26 (by decide) ?_
    refine lv_icmp_le (tgt := 36) hx hb dL_isPlaced_28 (by decide) (fun c3 => ?_) (fun c3 => ?_)
    · exact absurd c3 (Int32.not_le.mpr (by assumption))
    · have qc3 := c3
      refine lv_bipush (v := (-30 : Int32)) hx hb dL_isPlaced_31 (by decide) ?_
      refine lv_goto (tgt := 38) hx hb dL_isPlaced_33 (by decide) ?_
      refine lv_icmp_ne (tgt := 45) hx hb dL_isPlaced_38 (by decide) (fun c4 => ?_) (fun c4 => ?_)
      · exact absurd c4 (by decide)
      · have qc4 := c4
        refine lv_iconst (v := (1 : Int32)) hx hb dL_isPlaced_41 (by decide) ?_
        refine lv_goto (tgt := 46) hx hb dL_isPlaced_42 (by decide) ?_
        exact W.widen (k := 2) (n := 12) (by omega) (by omega) (zreti Z hr hlk ((q0, q1, q2, q3, q4, q5, q6, q7, q8, q9, q10), P, G) X dL_isPlaced_46 rfl (⟨rfl, RGs_i hR0⟩))
  · have qc1 := c1
    have c1n : ¬ 15 < ii := zn_ltn (by omega) (by omega) c1
    have hi15 : ii ≤ 15 := by omega
    refine lv_aload_n hx hb dL_isPlaced_6 rfl (lv_at hl 2 rfl) ?_
    refine lv_iconst (v := (1 : Int32)) hx hb dL_isPlaced_7 (by decide) ?_
    refine zald (q0 := 2) (n := 6) (f := G) Z X rfl rfl 1 (by decide) (by decide) (by decide) dL_isPlaced_8 ?_
    refine zrwi (y := q1) hG1 ?_
    refine lv_iconst (v := (1 : Int32)) hx hb dL_isPlaced_9 (by decide) ?_
    refine lv_icmp_ne (tgt := 19) hx hb dL_isPlaced_10 (by decide) (fun c5 => ?_) (fun c5 => ?_)
    · have qc5 := c5
      refine lv_aload_n hx hb dL_isPlaced_19 rfl (lv_at hl 0 rfl) ?_
      refine lv_iconst (v := (0 : Int32)) hx hb dL_isPlaced_20 (by decide) ?_
      refine lv_iload_n hx hb dL_isPlaced_21 rfl (lv_at hl 3 rfl) ?_
      refine zsubSi (n := 3) (As := [.ref h, .int (0 : Int32), .int (nI ii)]) (rest := []) (wc := oQ h (q0, q1, q2, q3, q4, q5, q6, q7, q8, q9, q10)) (wr := oB g a P ++ oG g b G) [0] [1, 2] rfl rfl rfl rfl (by decide) Z X zStL (fun _ _ h => h) (c_L_does0 l g bL h q0 q1 q2 q3 q4 q5 q6 q7 q8 q9 q10 (nI ii) htr) gL_isPlaced_L_does rfl ⟨by decide, by decide, by decide +kernel⟩ ⟨Nat.le_of_ble_eq_true rfl, Nat.le_of_ble_eq_true rfl⟩ rfl rfl hl.1 (Nat.le_of_ble_eq_true rfl) dL_isPlaced_22 ⟨show 0 + 1 ≤ 2 from by omega, show 0 + 6 ≤ 12 from by omega⟩ (fun r6 ur6 H locs hr6 X => ?_)
      obtain ⟨hur6, hr6⟩ := pl_10a (by assumption) (by assumption) hr6
      rw [hur6] at X
      refine zrwi (y := (-10 : Int32)) hr6 ?_
      have X : zh g A (oL g h a b ((q0, q1, q2, q3, q4, q5, q6, q7, q8, q9, q10), P, G)) s.heap H locs := zhsub X [2, 0, 1] rfl rfl
      refine lv_iload_n hx hb dL_isPlaced_25 rfl (lv_at hl 3 rfl) ?_
      refine lv_bipush (v := (15 : Int32)) hx hb dL_isPlaced_26 (by decide) ?_
      refine lv_icmp_le (tgt := 36) hx hb dL_isPlaced_28 (by decide) (fun c7 => ?_) (fun c7 => ?_)
      · have qc7 := c7
        refine lv_bipush (v := (-10 : Int32)) hx hb dL_isPlaced_36 (by decide) ?_
        refine lv_icmp_ne (tgt := 45) hx hb dL_isPlaced_38 (by decide) (fun c8 => ?_) (fun c8 => ?_)
        · exact absurd c8 (by decide)
        · have qc8 := c8
          refine lv_iconst (v := (1 : Int32)) hx hb dL_isPlaced_41 (by decide) ?_
          refine lv_goto (tgt := 46) hx hb dL_isPlaced_42 (by decide) ?_
          exact W.widen (k := 2) (n := 12) (by omega) (by omega) (zreti Z hr hlk ((q0, q1, q2, q3, q4, q5, q6, q7, q8, q9, q10), P, G) X dL_isPlaced_46 rfl (⟨rfl, RGs_i hR0⟩))
      · exact absurd (Int32.not_lt.mp (by assumption)) c7
    · have qc5 := c5
      refine lv_aload_n hx hb dL_isPlaced_13 rfl (lv_at hl 1 rfl) ?_
      refine lv_iload_n hx hb dL_isPlaced_14 rfl (lv_at hl 3 rfl) ?_
      refine zald (q0 := 1) (n := 16) (f := P) Z X rfl rfl ii rfl (by omega) (by decide) dL_isPlaced_15 ?_
      refine lv_if_lt (tgt := 47) hx hb dL_isPlaced_16 (by decide) (fun c9 => ?_) (fun c9 => ?_)
      · have qc9 := c9
        refine lv_aload_n hx hb dL_isPlaced_47 rfl (lv_at hl 1 rfl) ?_
        refine lv_iload_n hx hb dL_isPlaced_48 rfl (lv_at hl 3 rfl) ?_
        refine lv_aload_n hx hb dL_isPlaced_49 rfl (lv_at hl 2 rfl) ?_
        refine lv_iconst (v := (3 : Int32)) hx hb dL_isPlaced_50 (by decide) ?_
        refine zald (q0 := 2) (n := 6) (f := G) Z X rfl rfl 3 (by decide) (by decide) (by decide) dL_isPlaced_51 ?_
        refine zrwi (y := q3) hG3 ?_
        refine zast (q0 := 1) (n := 16) (f := P) Z X rfl rfl ii rfl (by omega) (by decide) dL_isPlaced_52 (fun H locs X => ?_)
        have X : zh g A (oL g h a b ((q0, q1, q2, q3, q4, q5, q6, q7, q8, q9, q10), (upd P ii q3), G)) s.heap H locs := X
        refine lv_aload_n hx hb dL_isPlaced_53 rfl (lv_at hl 2 rfl) ?_
        refine lv_iconst (v := (3 : Int32)) hx hb dL_isPlaced_54 (by decide) ?_
        refine lv_iconst (v := (-1 : Int32)) hx hb dL_isPlaced_55 (by decide) ?_
        refine zast (q0 := 2) (n := 6) (f := G) Z X rfl rfl 3 (by decide) (by decide) (by decide) dL_isPlaced_56 (fun H locs X => ?_)
        have X : zh g A (oL g h a b ((q0, q1, q2, q3, q4, q5, q6, q7, q8, q9, q10), (upd P ii q3), upd G 3 (-1 : Int32))) s.heap H locs := X
        refine lv_aload_n hx hb dL_isPlaced_57 rfl (lv_at hl 2 rfl) ?_
        refine lv_iconst (v := (4 : Int32)) hx hb dL_isPlaced_58 (by decide) ?_
        refine lv_dup2_11 hx hb dL_isPlaced_59 rfl rfl ?_
        refine zald (q0 := 2) (n := 6) (f := upd G 3 (-1 : Int32)) Z X rfl rfl 4 (by decide) (by decide) (by decide) dL_isPlaced_60 ?_
        refine zrwi (y := nI pn) ((pk_un (by decide)).trans hG4) ?_
        refine lv_iconst (v := nI 1) hx hb dL_isPlaced_61 (by decide) ?_
        refine lv_iadd hx hb dL_isPlaced_62 ?_
        refine zrwi (y := nI (pn + 1)) (nI_add _ _) ?_
        refine zast (q0 := 2) (n := 6) (f := upd G 3 (-1 : Int32)) Z X rfl rfl 4 (by decide) (by decide) (by decide) dL_isPlaced_63 (fun H locs X => ?_)
        have X : zh g A (oL g h a b ((q0, q1, q2, q3, q4, q5, q6, q7, q8, q9, q10), (upd P ii q3), upd (upd G 3 (-1 : Int32)) 4 (nI (pn + 1)))) s.heap H locs := X
        refine lv_aload_n hx hb dL_isPlaced_64 rfl (lv_at hl 1 rfl) ?_
        refine lv_aload_n hx hb dL_isPlaced_65 rfl (lv_at hl 2 rfl) ?_
        refine lv_iconst (v := (0 : Int32)) hx hb dL_isPlaced_66 (by decide) ?_
        refine zald (q0 := 2) (n := 6) (f := upd (upd G 3 (-1 : Int32)) 4 (nI (pn + 1))) Z X rfl rfl 0 (by decide) (by decide) (by decide) dL_isPlaced_67 ?_
        refine zrwi (y := nI (qLn q0)) ((pk_un (by decide)).trans ((pk_un (by decide)).trans hG0)) ?_
        refine zsubS (n := 2) (As := [.ref a, .int (nI (qLn q0))]) (rest := []) (wc := oB g a (upd P ii q3)) (wr := oQ h (q0, q1, q2, q3, q4, q5, q6, q7, q8, q9, q10) ++ oG g b (upd (upd G 3 (-1 : Int32)) 4 (nI (pn + 1)))) [1] [0, 2] rfl rfl rfl rfl (by decide) Z X zSt0 (fun _ _ _ => trivial) (c_L_won l g a (upd P ii q3) (qLn q0) (by omega)) gL_isPlaced_L_won rfl (by decide +kernel) ⟨Nat.le_of_ble_eq_true rfl, Nat.le_of_ble_eq_true rfl⟩ rfl rfl hl.1 (Nat.le_of_ble_eq_true rfl) dL_isPlaced_68 ⟨show 0 + 0 ≤ 2 from by omega, show 0 + 0 ≤ 12 from by omega⟩ (fun r10 ur10 H locs hr10 X => ?_)
        obtain ⟨hur10, hr10⟩ := hr10
        rw [hur10] at X
        have X : zh g A (oL g h a b ((q0, q1, q2, q3, q4, q5, q6, q7, q8, q9, q10), (upd P ii q3), upd (upd G 3 (-1 : Int32)) 4 (nI (pn + 1)))) s.heap H locs := zhsub X [0, 2, 1] rfl rfl
        refine zrwi (y := nI (lWc (upd P ii q3) (qLn q0))) hr10 ?_
        refine lv_istore (lv' := [(4, .int (nI (lWc (upd P ii q3) (qLn q0)))), (0, .ref h), (1, .ref a), (2, .ref b), (3, .int (nI ii))]) hx hb dL_isPlaced_71 hl (by decide) rfl (fun ls hl => ?_)
        refine lv_aload_n hx hb dL_isPlaced_73 rfl (lv_at hl 3 rfl) ?_
        refine lv_iconst (v := (5 : Int32)) hx hb dL_isPlaced_74 (by decide) ?_
        refine lv_iload hx hb dL_isPlaced_75 (lv_at hl 0 rfl) ?_
        have hwc := lWc_le (upd P ii q3) (qLn q0)
        refine lv_if_le (tgt := 86) hx hb dL_isPlaced_77 (by decide) (fun c11 => ?_) (fun c11 => ?_)
        · have qc11 := c11
          have c11n : (lWc (upd P ii q3) (qLn q0)) ≤ 0 := zn_let (by omega) (by omega) c11
          refine lv_aload_n hx hb dL_isPlaced_86 rfl (lv_at hl 3 rfl) ?_
          refine lv_iconst (v := (4 : Int32)) hx hb dL_isPlaced_87 (by decide) ?_
          refine zald (q0 := 2) (n := 6) (f := upd (upd G 3 (-1 : Int32)) 4 (nI (pn + 1))) Z X rfl rfl 4 (by decide) (by decide) (by decide) dL_isPlaced_88 ?_
          refine zrwi (y := nI (pn + 1)) pk_us ?_
          refine lv_bipush (v := (16 : Int32)) hx hb dL_isPlaced_89 (by decide) ?_
          refine lv_icmp_ne (tgt := 98) hx hb dL_isPlaced_91 (by decide) (fun c12 => ?_) (fun c12 => ?_)
          · have qc12 := c12
            have c12n : ¬ (pn + 1) = 16 := zn_eqn (by omega) (by omega) c12
            refine lv_iconst (v := (-1 : Int32)) hx hb dL_isPlaced_98 (by decide) ?_
            refine zast (q0 := 2) (n := 6) (f := upd (upd G 3 (-1 : Int32)) 4 (nI (pn + 1))) Z X rfl rfl 5 (by decide) (by decide) (by decide) dL_isPlaced_99 (fun H locs X => ?_)
            have X : zh g A (oL g h a b ((q0, q1, q2, q3, q4, q5, q6, q7, q8, q9, q10), (upd P ii q3), upd (upd (upd G 3 (-1 : Int32)) 4 (nI (pn + 1))) 5 (-1 : Int32))) s.heap H locs := X
            refine lv_aload_n hx hb dL_isPlaced_100 rfl (lv_at hl 3 rfl) ?_
            refine lv_iconst (v := (1 : Int32)) hx hb dL_isPlaced_101 (by decide) ?_
            refine lv_aload_n hx hb dL_isPlaced_102 rfl (lv_at hl 3 rfl) ?_
            refine lv_iconst (v := (5 : Int32)) hx hb dL_isPlaced_103 (by decide) ?_
            refine zald (q0 := 2) (n := 6) (f := upd (upd (upd G 3 (-1 : Int32)) 4 (nI (pn + 1))) 5 (-1 : Int32)) Z X rfl rfl 5 (by decide) (by decide) (by decide) dL_isPlaced_104 ?_
            refine zrwi (y := (-1 : Int32)) pk_us ?_
            refine lv_if_ge (tgt := 112) hx hb dL_isPlaced_105 (by decide) (fun c13 => ?_) (fun c13 => ?_)
            · exact absurd c13 (by decide)
            · have qc13 := c13
              refine lv_iconst (v := (0 : Int32)) hx hb dL_isPlaced_108 (by decide) ?_
              refine lv_goto (tgt := 113) hx hb dL_isPlaced_109 (by decide) ?_
              refine zast (q0 := 2) (n := 6) (f := upd (upd (upd G 3 (-1 : Int32)) 4 (nI (pn + 1))) 5 (-1 : Int32)) Z X rfl rfl 1 (by decide) (by decide) (by decide) dL_isPlaced_113 (fun H locs X => ?_)
              have X : zh g A (oL g h a b ((q0, q1, q2, q3, q4, q5, q6, q7, q8, q9, q10), (upd P ii q3), upd (upd (upd (upd G 3 (-1 : Int32)) 4 (nI (pn + 1))) 5 (-1 : Int32)) 1 (0 : Int32))) s.heap H locs := X
              refine lv_aload_n hx hb dL_isPlaced_114 rfl (lv_at hl 1 rfl) ?_
              refine lv_iconst (v := (0 : Int32)) hx hb dL_isPlaced_115 (by decide) ?_
              refine lv_iload_n hx hb dL_isPlaced_116 rfl (lv_at hl 4 rfl) ?_
              refine zsubSi (n := 3) (As := [.ref h, .int (0 : Int32), .int (nI ii)]) (rest := []) (wc := oQ h (q0, q1, q2, q3, q4, q5, q6, q7, q8, q9, q10)) (wr := oB g a (upd P ii q3) ++ oG g b (upd (upd (upd (upd G 3 (-1 : Int32)) 4 (nI (pn + 1))) 5 (-1 : Int32)) 1 (0 : Int32))) [0] [1, 2] rfl rfl rfl rfl (by decide) Z X zStL (fun _ _ h => h) (c_L_does0 l g bL h q0 q1 q2 q3 q4 q5 q6 q7 q8 q9 q10 (nI ii) htr) gL_isPlaced_L_does rfl ⟨by decide, by decide, by decide +kernel⟩ ⟨Nat.le_of_ble_eq_true rfl, Nat.le_of_ble_eq_true rfl⟩ rfl rfl hl.1 (Nat.le_of_ble_eq_true rfl) dL_isPlaced_117 ⟨show 0 + 0 + 1 ≤ 2 from by omega, show 0 + 0 + 6 ≤ 12 from by omega⟩ (fun r14 ur14 H locs hr14 X => ?_)
              obtain ⟨hur14, hr14⟩ := pl_m hR0 (by assumption) (by assumption) (by assumption) (by assumption) (by assumption) hr14
              rw [hur14] at X
              refine zrwi (y := nI (lWc (upd P ii q3) (qLn q0))) hr14 ?_
              have X : zh g A (oL g h a b ((q0, 0, q2, -1, -1, q5 ||| qBit (nI ii), q6 ||| qBit q3, qPutD q7 q3 (nI ii), q8, q9, q10), (upd P ii q3), upd (upd (upd (upd G 3 (-1 : Int32)) 4 (nI (pn + 1))) 5 (-1 : Int32)) 1 (0 : Int32))) s.heap H locs := zhsub X [2, 0, 1] rfl rfl
              refine lv_iload hx hb dL_isPlaced_120 (lv_at hl 0 rfl) ?_
              refine lv_icmp_ne (tgt := 129) hx hb dL_isPlaced_122 (by decide) (fun c15 => ?_) (fun c15 => ?_)
              · exact absurd rfl c15
              · have qc15 := c15
                refine lv_iconst (v := (1 : Int32)) hx hb dL_isPlaced_125 (by decide) ?_
                refine lv_goto (tgt := 130) hx hb dL_isPlaced_126 (by decide) ?_
                exact W.widen (k := 2) (n := 12) (by omega) (by omega) (zreti Z hr hlk ((q0, 0, q2, -1, -1, q5 ||| qBit (nI ii), q6 ||| qBit q3, qPutD q7 q3 (nI ii), q8, q9, q10), (upd P ii q3), upd (upd (upd (upd G 3 (-1 : Int32)) 4 (nI (pn + 1))) 5 (-1 : Int32)) 1 (0 : Int32)) X dL_isPlaced_130 rfl (⟨rfl, RG_m hR0 (by assumption) (by assumption) (by assumption) (by assumption) (by assumption)⟩))
          · have qc12 := c12
            have c12n : (pn + 1) = 16 := zn_eqt (by omega) (by omega) c12
            refine lv_iconst (v := (2 : Int32)) hx hb dL_isPlaced_94 (by decide) ?_
            refine lv_goto (tgt := 99) hx hb dL_isPlaced_95 (by decide) ?_
            refine zast (q0 := 2) (n := 6) (f := upd (upd G 3 (-1 : Int32)) 4 (nI (pn + 1))) Z X rfl rfl 5 (by decide) (by decide) (by decide) dL_isPlaced_99 (fun H locs X => ?_)
            have X : zh g A (oL g h a b ((q0, q1, q2, q3, q4, q5, q6, q7, q8, q9, q10), (upd P ii q3), upd (upd (upd G 3 (-1 : Int32)) 4 (nI (pn + 1))) 5 (2 : Int32))) s.heap H locs := X
            refine lv_aload_n hx hb dL_isPlaced_100 rfl (lv_at hl 3 rfl) ?_
            refine lv_iconst (v := (1 : Int32)) hx hb dL_isPlaced_101 (by decide) ?_
            refine lv_aload_n hx hb dL_isPlaced_102 rfl (lv_at hl 3 rfl) ?_
            refine lv_iconst (v := (5 : Int32)) hx hb dL_isPlaced_103 (by decide) ?_
            refine zald (q0 := 2) (n := 6) (f := upd (upd (upd G 3 (-1 : Int32)) 4 (nI (pn + 1))) 5 (2 : Int32)) Z X rfl rfl 5 (by decide) (by decide) (by decide) dL_isPlaced_104 ?_
            refine zrwi (y := (2 : Int32)) pk_us ?_
            refine lv_if_ge (tgt := 112) hx hb dL_isPlaced_105 (by decide) (fun c16 => ?_) (fun c16 => ?_)
            · have qc16 := c16
              refine lv_iconst (v := (2 : Int32)) hx hb dL_isPlaced_112 (by decide) ?_
              refine zast (q0 := 2) (n := 6) (f := upd (upd (upd G 3 (-1 : Int32)) 4 (nI (pn + 1))) 5 (2 : Int32)) Z X rfl rfl 1 (by decide) (by decide) (by decide) dL_isPlaced_113 (fun H locs X => ?_)
              have X : zh g A (oL g h a b ((q0, q1, q2, q3, q4, q5, q6, q7, q8, q9, q10), (upd P ii q3), upd (upd (upd (upd G 3 (-1 : Int32)) 4 (nI (pn + 1))) 5 (2 : Int32)) 1 (2 : Int32))) s.heap H locs := X
              refine lv_aload_n hx hb dL_isPlaced_114 rfl (lv_at hl 1 rfl) ?_
              refine lv_iconst (v := (0 : Int32)) hx hb dL_isPlaced_115 (by decide) ?_
              refine lv_iload_n hx hb dL_isPlaced_116 rfl (lv_at hl 4 rfl) ?_
              refine zsubSi (n := 3) (As := [.ref h, .int (0 : Int32), .int (nI ii)]) (rest := []) (wc := oQ h (q0, q1, q2, q3, q4, q5, q6, q7, q8, q9, q10)) (wr := oB g a (upd P ii q3) ++ oG g b (upd (upd (upd (upd G 3 (-1 : Int32)) 4 (nI (pn + 1))) 5 (2 : Int32)) 1 (2 : Int32))) [0] [1, 2] rfl rfl rfl rfl (by decide) Z X zStL (fun _ _ h => h) (c_L_does0 l g bL h q0 q1 q2 q3 q4 q5 q6 q7 q8 q9 q10 (nI ii) htr) gL_isPlaced_L_does rfl ⟨by decide, by decide, by decide +kernel⟩ ⟨Nat.le_of_ble_eq_true rfl, Nat.le_of_ble_eq_true rfl⟩ rfl rfl hl.1 (Nat.le_of_ble_eq_true rfl) dL_isPlaced_117 ⟨show 0 + 0 + 1 ≤ 2 from by omega, show 0 + 0 + 6 ≤ 12 from by omega⟩ (fun r17 ur17 H locs hr17 X => ?_)
              obtain ⟨hur17, hr17⟩ := pl_f hR0 (by assumption) (by assumption) (by assumption) (by assumption) (by assumption) hr17
              rw [hur17] at X
              refine zrwi (y := nI (lWc (upd P ii q3) (qLn q0))) hr17 ?_
              have X : zh g A (oL g h a b ((q0, 2, q2, -1, 2, q5 ||| qBit (nI ii), q6 ||| qBit q3, qPutD q7 q3 (nI ii), q8, q9, q10), (upd P ii q3), upd (upd (upd (upd G 3 (-1 : Int32)) 4 (nI (pn + 1))) 5 (2 : Int32)) 1 (2 : Int32))) s.heap H locs := zhsub X [2, 0, 1] rfl rfl
              refine lv_iload hx hb dL_isPlaced_120 (lv_at hl 0 rfl) ?_
              refine lv_icmp_ne (tgt := 129) hx hb dL_isPlaced_122 (by decide) (fun c18 => ?_) (fun c18 => ?_)
              · exact absurd rfl c18
              · have qc18 := c18
                refine lv_iconst (v := (1 : Int32)) hx hb dL_isPlaced_125 (by decide) ?_
                refine lv_goto (tgt := 130) hx hb dL_isPlaced_126 (by decide) ?_
                exact W.widen (k := 2) (n := 12) (by omega) (by omega) (zreti Z hr hlk ((q0, 2, q2, -1, 2, q5 ||| qBit (nI ii), q6 ||| qBit q3, qPutD q7 q3 (nI ii), q8, q9, q10), (upd P ii q3), upd (upd (upd (upd G 3 (-1 : Int32)) 4 (nI (pn + 1))) 5 (2 : Int32)) 1 (2 : Int32)) X dL_isPlaced_130 rfl (⟨rfl, RG_f hR0 (by assumption) (by assumption) (by assumption)⟩))
            · exact absurd c16 (by decide)
        · have qc11 := c11
          have c11n : ¬ (lWc (upd P ii q3) (qLn q0)) ≤ 0 := zn_len (by omega) (by omega) c11
          refine lv_aload_n hx hb dL_isPlaced_80 rfl (lv_at hl 3 rfl) ?_
          refine lv_iconst (v := (2 : Int32)) hx hb dL_isPlaced_81 (by decide) ?_
          refine zald (q0 := 2) (n := 6) (f := upd (upd G 3 (-1 : Int32)) 4 (nI (pn + 1))) Z X rfl rfl 2 (by decide) (by decide) (by decide) dL_isPlaced_82 ?_
          refine zrwi (y := q2) ((pk_un (by decide)).trans ((pk_un (by decide)).trans hG2)) ?_
          refine lv_goto (tgt := 99) hx hb dL_isPlaced_83 (by decide) ?_
          refine zast (q0 := 2) (n := 6) (f := upd (upd G 3 (-1 : Int32)) 4 (nI (pn + 1))) Z X rfl rfl 5 (by decide) (by decide) (by decide) dL_isPlaced_99 (fun H locs X => ?_)
          have X : zh g A (oL g h a b ((q0, q1, q2, q3, q4, q5, q6, q7, q8, q9, q10), (upd P ii q3), upd (upd (upd G 3 (-1 : Int32)) 4 (nI (pn + 1))) 5 q2)) s.heap H locs := X
          refine lv_aload_n hx hb dL_isPlaced_100 rfl (lv_at hl 3 rfl) ?_
          refine lv_iconst (v := (1 : Int32)) hx hb dL_isPlaced_101 (by decide) ?_
          refine lv_aload_n hx hb dL_isPlaced_102 rfl (lv_at hl 3 rfl) ?_
          refine lv_iconst (v := (5 : Int32)) hx hb dL_isPlaced_103 (by decide) ?_
          refine zald (q0 := 2) (n := 6) (f := upd (upd (upd G 3 (-1 : Int32)) 4 (nI (pn + 1))) 5 q2) Z X rfl rfl 5 (by decide) (by decide) (by decide) dL_isPlaced_104 ?_
          refine zrwi (y := q2) pk_us ?_
          refine lv_if_ge (tgt := 112) hx hb dL_isPlaced_105 (by decide) (fun c19 => ?_) (fun c19 => ?_)
          · have qc19 := c19
            refine lv_iconst (v := (2 : Int32)) hx hb dL_isPlaced_112 (by decide) ?_
            refine zast (q0 := 2) (n := 6) (f := upd (upd (upd G 3 (-1 : Int32)) 4 (nI (pn + 1))) 5 q2) Z X rfl rfl 1 (by decide) (by decide) (by decide) dL_isPlaced_113 (fun H locs X => ?_)
            have X : zh g A (oL g h a b ((q0, q1, q2, q3, q4, q5, q6, q7, q8, q9, q10), (upd P ii q3), upd (upd (upd (upd G 3 (-1 : Int32)) 4 (nI (pn + 1))) 5 q2) 1 (2 : Int32))) s.heap H locs := X
            refine lv_aload_n hx hb dL_isPlaced_114 rfl (lv_at hl 1 rfl) ?_
            refine lv_iconst (v := (0 : Int32)) hx hb dL_isPlaced_115 (by decide) ?_
            refine lv_iload_n hx hb dL_isPlaced_116 rfl (lv_at hl 4 rfl) ?_
            refine zsubSi (n := 3) (As := [.ref h, .int (0 : Int32), .int (nI ii)]) (rest := []) (wc := oQ h (q0, q1, q2, q3, q4, q5, q6, q7, q8, q9, q10)) (wr := oB g a (upd P ii q3) ++ oG g b (upd (upd (upd (upd G 3 (-1 : Int32)) 4 (nI (pn + 1))) 5 q2) 1 (2 : Int32))) [0] [1, 2] rfl rfl rfl rfl (by decide) Z X zStL (fun _ _ h => h) (c_L_does0 l g bL h q0 q1 q2 q3 q4 q5 q6 q7 q8 q9 q10 (nI ii) htr) gL_isPlaced_L_does rfl ⟨by decide, by decide, by decide +kernel⟩ ⟨Nat.le_of_ble_eq_true rfl, Nat.le_of_ble_eq_true rfl⟩ rfl rfl hl.1 (Nat.le_of_ble_eq_true rfl) dL_isPlaced_117 ⟨show 0 + 0 + 1 ≤ 2 from by omega, show 0 + 0 + 6 ≤ 12 from by omega⟩ (fun r20 ur20 H locs hr20 X => ?_)
            obtain ⟨hur20, hr20⟩ := pl_w hR0 (by assumption) (by assumption) (by assumption) (by assumption) hr20
            rw [hur20] at X
            refine zrwi (y := nI (lWc (upd P ii q3) (qLn q0))) hr20 ?_
            have X : zh g A (oL g h a b ((q0, 2, q2, -1, q2, q5 ||| qBit (nI ii), q6 ||| qBit q3, qPutD q7 q3 (nI ii), q8, q9, q10), (upd P ii q3), upd (upd (upd (upd G 3 (-1 : Int32)) 4 (nI (pn + 1))) 5 q2) 1 (2 : Int32))) s.heap H locs := zhsub X [2, 0, 1] rfl rfl
            refine lv_iload hx hb dL_isPlaced_120 (lv_at hl 0 rfl) ?_
            refine lv_icmp_ne (tgt := 129) hx hb dL_isPlaced_122 (by decide) (fun c21 => ?_) (fun c21 => ?_)
            · exact absurd rfl c21
            · have qc21 := c21
              refine lv_iconst (v := (1 : Int32)) hx hb dL_isPlaced_125 (by decide) ?_
              refine lv_goto (tgt := 130) hx hb dL_isPlaced_126 (by decide) ?_
              exact W.widen (k := 2) (n := 12) (by omega) (by omega) (zreti Z hr hlk ((q0, 2, q2, -1, q2, q5 ||| qBit (nI ii), q6 ||| qBit q3, qPutD q7 q3 (nI ii), q8, q9, q10), (upd P ii q3), upd (upd (upd (upd G 3 (-1 : Int32)) 4 (nI (pn + 1))) 5 q2) 1 (2 : Int32)) X dL_isPlaced_130 rfl (⟨rfl, RG_w hR0 (by assumption) (by assumption) (by assumption)⟩))
          · have qc19 := c19
            exact absurd (q2_ge hot) c19
      · have qc9 := c9
        refine lv_aload_n hx hb dL_isPlaced_19 rfl (lv_at hl 0 rfl) ?_
        refine lv_iconst (v := (0 : Int32)) hx hb dL_isPlaced_20 (by decide) ?_
        refine lv_iload_n hx hb dL_isPlaced_21 rfl (lv_at hl 3 rfl) ?_
        refine zsubSi (n := 3) (As := [.ref h, .int (0 : Int32), .int (nI ii)]) (rest := []) (wc := oQ h (q0, q1, q2, q3, q4, q5, q6, q7, q8, q9, q10)) (wr := oB g a P ++ oG g b G) [0] [1, 2] rfl rfl rfl rfl (by decide) Z X zStL (fun _ _ h => h) (c_L_does0 l g bL h q0 q1 q2 q3 q4 q5 q6 q7 q8 q9 q10 (nI ii) htr) gL_isPlaced_L_does rfl ⟨by decide, by decide, by decide +kernel⟩ ⟨Nat.le_of_ble_eq_true rfl, Nat.le_of_ble_eq_true rfl⟩ rfl rfl hl.1 (Nat.le_of_ble_eq_true rfl) dL_isPlaced_22 ⟨show 0 + 1 ≤ 2 from by omega, show 0 + 6 ≤ 12 from by omega⟩ (fun r22 ur22 H locs hr22 X => ?_)
        obtain ⟨hur22, hr22⟩ := pl_10b hrb (by assumption) (by assumption) hr22
        rw [hur22] at X
        refine zrwi (y := (-10 : Int32)) hr22 ?_
        have X : zh g A (oL g h a b ((q0, q1, q2, q3, q4, q5, q6, q7, q8, q9, q10), P, G)) s.heap H locs := zhsub X [2, 0, 1] rfl rfl
        refine lv_iload_n hx hb dL_isPlaced_25 rfl (lv_at hl 3 rfl) ?_
        refine lv_bipush (v := (15 : Int32)) hx hb dL_isPlaced_26 (by decide) ?_
        refine lv_icmp_le (tgt := 36) hx hb dL_isPlaced_28 (by decide) (fun c23 => ?_) (fun c23 => ?_)
        · have qc23 := c23
          refine lv_bipush (v := (-10 : Int32)) hx hb dL_isPlaced_36 (by decide) ?_
          refine lv_icmp_ne (tgt := 45) hx hb dL_isPlaced_38 (by decide) (fun c24 => ?_) (fun c24 => ?_)
          · exact absurd c24 (by decide)
          · have qc24 := c24
            refine lv_iconst (v := (1 : Int32)) hx hb dL_isPlaced_41 (by decide) ?_
            refine lv_goto (tgt := 46) hx hb dL_isPlaced_42 (by decide) ?_
            exact W.widen (k := 2) (n := 12) (by omega) (by omega) (zreti Z hr hlk ((q0, q1, q2, q3, q4, q5, q6, q7, q8, q9, q10), P, G) X dL_isPlaced_46 rfl (⟨rfl, RGs_i hR0⟩))
        · exact absurd (Int32.not_lt.mp (by assumption)) c23
def P_L_isPlayed : Int32 → LSt → Prop := fun r u => r = 1 ∧ RGs u
set_option maxHeartbeats 1000000 in
set_option maxRecDepth 100000 in
theorem c_L_isPlayed (l : Launch) (g : zG) (bL h a b : Nat) (q0 q1 q2 q3 q4 q5 q6 : Int32) (q7 : Int64) (q8 q9 : Int32) (q10 : Int64) (P G : Nat → Int32) (oo : Nat) (cc : Int32) (htr : l.stackTraces = false) (pn : Nat) (O : Nat → Int32) (hR : RG q0 q1 q2 q3 q4 q5 q6 q7 P G pn O) (ho4 : oo < 4000) : zMk l yL_isPlayed wsL_isPlayed 36 1700 3 18 g [.ref h, .ref a, .ref b, .int (nI oo), .int cc] (oL g h a b ((q0, q1, q2, q3, q4, q5, q6, q7, q8, q9, q10), P, G)) (zEL bL) (zQi g (P_L_isPlayed) (oL g h a b)) := by
  refine zstartk (cc := cL_isPlayed) (maxL := 7) (ret := (some .boolean)) (own := RL) rfl (by decide) rfl zStL (Nat.le_of_ble_eq_true rfl) ?_
  intro p e s m below meth c A Z hr hlk _hname H locs X ls hl
  have hx := Z.1.1
  have hb := Z.1.2.1
  have hl : lv_has ls 7 [(0, .ref h), (1, .ref a), (2, .ref b), (3, .int (nI oo)), (4, .int cc)] := hl
  have X : zh g A (oL g h a b ((q0, q1, q2, q3, q4, q5, q6, q7, q8, q9, q10), P, G)) s.heap H locs := X
  have hR0 := hR
  obtain ⟨⟨hG0, hG1, hG2, hG3, hG4, hG5⟩, hph, hot, hrb, hone, hgo, hov⟩ := hR
  have hok : okP P := hrb.1.1
  have hqn := qLn_le q0
  have hpl := RB_le hrb
  refine lv_aload_n hx hb dL_isPlayed_0 rfl (lv_at hl 2 rfl) ?_
  refine lv_iconst (v := (1 : Int32)) hx hb dL_isPlayed_1 (by decide) ?_
  refine zald (q0 := 2) (n := 6) (f := G) Z X rfl rfl 1 (by decide) (by decide) (by decide) dL_isPlayed_2 ?_
  refine zrwi (y := q1) hG1 ?_
  refine lv_if_ne (tgt := 71) hx hb dL_isPlayed_3 (by decide) (fun c1 => ?_) (fun c1 => ?_)
  · have qc1 := c1
    refine lv_aload_n hx hb dL_isPlayed_71 rfl (lv_at hl 2 rfl) ?_
    refine lv_iconst (v := (1 : Int32)) hx hb dL_isPlayed_72 (by decide) ?_
    refine zald (q0 := 2) (n := 6) (f := G) Z X rfl rfl 1 (by decide) (by decide) (by decide) dL_isPlayed_73 ?_
    refine zrwi (y := q1) hG1 ?_
    refine lv_iconst (v := (1 : Int32)) hx hb dL_isPlayed_74 (by decide) ?_
    refine lv_icmp_ne (tgt := 112) hx hb dL_isPlayed_75 (by decide) (fun c2 => ?_) (fun c2 => ?_)
    · have qc2 := c2
      refine lv_aload_n hx hb dL_isPlayed_112 rfl (lv_at hl 0 rfl) ?_
      refine zsubVi (n := 0) (As := []) (rest := []) (wc := oQ h (q0, q1, q2, q3, q4, q5, q6, q7, q8, q9, q10)) (wr := oB g a P ++ oG g b G) (ci := 0) (C := RX0) (T := TX0) (N := 11) [0] [1, 2] rfl rfl rfl rfl (by decide) Z X zStL (fun _ _ h => h) (c_X0_winner l g bL h q0 q1 q2 q3 q4 q5 q6 q7 q8 q9 q10) gL_isPlayed_X0_winner rfl (by decide +kernel) ⟨Nat.le_of_ble_eq_true rfl, Nat.le_of_ble_eq_true rfl⟩ rfl rfl rfl rfl hl.1 (Nat.le_of_ble_eq_true rfl) dL_isPlayed_113 ⟨by simp only []; omega, by simp only []; omega⟩ (fun r3 ur3 H locs hr3 X => ?_)
      obtain ⟨hur3, hr3⟩ := hr3
      rw [hur3] at X
      have X : zh g A (oL g h a b ((q0, q1, q2, q3, q4, q5, q6, q7, q8, q9, q10), P, G)) s.heap H locs := zhsub X [2, 0, 1] rfl rfl
      refine zrwi (y := q4) hr3 ?_
      refine lv_if_lt (tgt := 123) hx hb dL_isPlayed_116 (by decide) (fun c4 => ?_) (fun c4 => ?_)
      · have qc4 := c4
        exact absurd c4 (Int32.not_lt.mpr (hov (by rcases hph with z | z | z; exact absurd z (by assumption); exact absurd z (by assumption); exact z)))
      · have qc4 := c4
        refine lv_iconst (v := (1 : Int32)) hx hb dL_isPlayed_119 (by decide) ?_
        refine lv_goto (tgt := 124) hx hb dL_isPlayed_120 (by decide) ?_
        exact W.widen (k := 3) (n := 18) (by omega) (by omega) (zreti Z hr hlk ((q0, q1, q2, q3, q4, q5, q6, q7, q8, q9, q10), P, G) X dL_isPlayed_124 rfl (⟨rfl, RGs_i hR0⟩))
    · have qc2 := c2
      obtain ⟨t, ht16, hte⟩ := emp_ex hrb (hgo (by rw [show q1 = 1 by assumption]; decide)).1
      refine lv_iload_n hx hb dL_isPlayed_78 rfl (lv_at hl 3 rfl) ?_
      refine lv_bipush (v := nI 16) hx hb dL_isPlayed_79 (by decide) ?_
      refine lv_irem hx hb dL_isPlayed_81 (by decide) ?_
      refine zrwi (y := nI (oo % 16)) (pk_rem (by omega) (by omega) (by omega)) ?_
      refine lv_istore (lv' := [(5, .int (nI (oo % 16))), (0, .ref h), (1, .ref a), (2, .ref b), (3, .int (nI oo)), (4, .int cc)]) hx hb dL_isPlayed_82 hl (by decide) rfl (fun ls hl => ?_)
      have cut84 : ∀ (n84 : Nat), ∀ (k : Nat), (k < 16) → ((t + 16 - k) % 16 + 1 ≤ n84) → ∀ (H : Heap) (locs : List Loc) (ls : Array Slot), zh g A (oL g h a b ((q0, q1, q2, q3, q4, q5, q6, q7, q8, q9, q10), P, G)) s.heap H locs → lv_has ls 7 [(5, .int (nI k)), (0, .ref h), (1, .ref a), (2, .ref b), (3, .int (nI oo)), (4, .int cc)] → W p l e { frames := 36, cells := 3, slots := 18, locals := 1700 } s m ([.ref h, .ref a, .ref b, .int (nI oo), .int cc] : List Value).toArray below meth c H locs 0 0 (MQ below ((zQi g (P_L_isPlayed) (oL g h a b)) A) ([.ref h, .ref a, .ref b, .int (nI oo), .int cc] : List Value).toArray s 3 18 A) (F0 m 84 ls []) := by
        intro n84
        induction n84 with
        | zero =>
          intro k hk hn84 H locs ls X hl
          exfalso; omega
        | succ n84 ih84 =>
          intro k hk hn84 H locs ls X hl
          refine lv_aload_n hx hb dL_isPlayed_84 rfl (lv_at hl 2 rfl) ?_
          refine lv_iload hx hb dL_isPlayed_85 (lv_at hl 0 rfl) ?_
          refine zald (q0 := 1) (n := 16) (f := P) Z X rfl rfl k rfl (by omega) (by decide) dL_isPlayed_87 ?_
          refine lv_if_lt (tgt := 103) hx hb dL_isPlayed_88 (by decide) (fun c5 => ?_) (fun c5 => ?_)
          · have qc5 := c5
            refine lv_aload_n hx hb dL_isPlayed_103 rfl (lv_at hl 1 rfl) ?_
            refine lv_aload_n hx hb dL_isPlayed_104 rfl (lv_at hl 2 rfl) ?_
            refine lv_aload_n hx hb dL_isPlayed_105 rfl (lv_at hl 3 rfl) ?_
            refine lv_iload hx hb dL_isPlayed_106 (lv_at hl 0 rfl) ?_
            refine zsubS (n := 4) (As := [.ref h, .ref a, .ref b, .int (nI k)]) (rest := []) (wc := oL g h a b ((q0, q1, q2, q3, q4, q5, q6, q7, q8, q9, q10), P, G)) (wr := []) [0, 1, 2] [] rfl rfl rfl rfl (by decide) Z X zStL (fun _ _ h => h) (c_L_isPlaced l g bL h a b q0 q1 q2 q3 q4 q5 q6 q7 q8 q9 q10 P G k htr pn O hR0 (by omega)) gL_isPlayed_L_isPlaced rfl ⟨by decide, by decide, by decide +kernel⟩ ⟨Nat.le_of_ble_eq_true rfl, Nat.le_of_ble_eq_true rfl⟩ rfl rfl hl.1 (Nat.le_of_ble_eq_true rfl) dL_isPlayed_108 ⟨show 0 + 2 ≤ 3 from by omega, show 0 + 12 ≤ 18 from by omega⟩ (fun r6 ur6 H locs hr6 X => ?_)
            obtain ⟨h1r6, h2r6⟩ := hr6
            obtain ⟨⟨u0r6, u1r6, u2r6, u3r6, u4r6, u5r6, u6r6, u7r6, u8r6, u9r6, u10r6⟩, Pr6, Gr6⟩ := ur6
            refine zrwi (y := (1 : Int32)) h1r6 ?_
            have X : zh g A (oL g h a b ((u0r6, u1r6, u2r6, u3r6, u4r6, u5r6, u6r6, u7r6, u8r6, u9r6, u10r6), Pr6, Gr6)) s.heap H locs := X
            exact W.widen (k := 3) (n := 18) (by omega) (by omega) (zreti Z hr hlk ((u0r6, u1r6, u2r6, u3r6, u4r6, u5r6, u6r6, u7r6, u8r6, u9r6, u10r6), Pr6, Gr6) X dL_isPlayed_111 rfl (⟨rfl, h2r6⟩))
          · have qc5 := c5
            have hne : ¬ k = t := ne_emp hte (by assumption)
            refine lv_iload hx hb dL_isPlayed_91 (lv_at hl 0 rfl) ?_
            refine lv_iconst (v := nI 1) hx hb dL_isPlayed_93 (by decide) ?_
            refine lv_iadd hx hb dL_isPlayed_94 ?_
            refine zrwi (y := nI (k + 1)) (nI_add _ _) ?_
            refine lv_bipush (v := nI 16) hx hb dL_isPlayed_95 (by decide) ?_
            refine lv_irem hx hb dL_isPlayed_97 (by decide) ?_
            refine zrwi (y := nI ((k + 1) % 16)) (pk_rem (by omega) (by omega) (by omega)) ?_
            refine lv_istore (lv' := [(5, .int (nI ((k + 1) % 16))), (0, .ref h), (1, .ref a), (2, .ref b), (3, .int (nI oo)), (4, .int cc)]) hx hb dL_isPlayed_98 hl (by decide) rfl (fun ls hl => ?_)
            refine lv_goto (tgt := 84) hx hb dL_isPlayed_100 (by decide) ?_
            exact W.widen (by omega) (by omega) (ih84 ((k + 1) % 16) (by omega) (by have := hne; omega) H locs ls X (lv_sub hl [0, 1, 2, 3, 4, 5] rfl))
      exact W.widen (by omega) (by omega) (cut84 17 (oo % 16) (by omega) (by omega) H locs ls X (lv_sub hl [0, 1, 2, 3, 4, 5] rfl))
  · have qc1 := c1
    refine lv_aload_n hx hb dL_isPlayed_6 rfl (lv_at hl 1 rfl) ?_
    refine lv_aload_n hx hb dL_isPlayed_7 rfl (lv_at hl 2 rfl) ?_
    refine lv_iconst (v := (0 : Int32)) hx hb dL_isPlayed_8 (by decide) ?_
    refine zald (q0 := 2) (n := 6) (f := G) Z X rfl rfl 0 (by decide) (by decide) (by decide) dL_isPlayed_9 ?_
    refine zrwi (y := nI (qLn q0)) hG0 ?_
    refine zsubS (n := 2) (As := [.ref a, .int (nI (qLn q0))]) (rest := []) (wc := oB g a P) (wr := oQ h (q0, q1, q2, q3, q4, q5, q6, q7, q8, q9, q10) ++ oG g b G) [1] [0, 2] rfl rfl rfl rfl (by decide) Z X zSt0 (fun _ _ _ => trivial) (c_L_safe l g a P (qLn q0) (by omega) hok) gL_isPlayed_L_safe rfl (by decide +kernel) ⟨Nat.le_of_ble_eq_true rfl, Nat.le_of_ble_eq_true rfl⟩ rfl rfl hl.1 (Nat.le_of_ble_eq_true rfl) dL_isPlayed_10 ⟨show 0 + 0 ≤ 3 from by omega, show 0 + 0 ≤ 18 from by omega⟩ (fun r7 ur7 H locs hr7 X => ?_)
    obtain ⟨hur7, hr7⟩ := hr7
    rw [hur7] at X
    have X : zh g A (oL g h a b ((q0, q1, q2, q3, q4, q5, q6, q7, q8, q9, q10), P, G)) s.heap H locs := zhsub X [0, 2, 1] rfl rfl
    refine zrwi (y := lSs P (qLn q0)) hr7 ?_
    refine lv_istore (lv' := [(5, .int (lSs P (qLn q0))), (0, .ref h), (1, .ref a), (2, .ref b), (3, .int (nI oo)), (4, .int cc)]) hx hb dL_isPlayed_13 hl (by decide) rfl (fun ls hl => ?_)
    obtain ⟨t, ht16, hton, htsf⟩ := tgt_ex hrb (hgo (by rw [show q1 = 0 by assumption]; decide)).1 (qLn q0)
    refine lv_iload_n hx hb dL_isPlayed_15 rfl (lv_at hl 4 rfl) ?_
    refine lv_bipush (v := nI 16) hx hb dL_isPlayed_16 (by decide) ?_
    refine lv_irem hx hb dL_isPlayed_18 (by decide) ?_
    refine zrwi (y := nI (oo % 16)) (pk_rem (by omega) (by omega) (by omega)) ?_
    refine lv_istore (lv' := [(6, .int (nI (oo % 16))), (5, .int (lSs P (qLn q0))), (0, .ref h), (1, .ref a), (2, .ref b), (3, .int (nI oo)), (4, .int cc)]) hx hb dL_isPlayed_19 hl (by decide) rfl (fun ls hl => ?_)
    have cut21 : ∀ (n21 : Nat), ∀ (k : Nat), (k < 16) → ((t + 16 - k) % 16 + 1 ≤ n21) → ∀ (H : Heap) (locs : List Loc) (ls : Array Slot), zh g A (oL g h a b ((q0, q1, q2, q3, q4, q5, q6, q7, q8, q9, q10), P, G)) s.heap H locs → lv_has ls 7 [(6, .int (nI k)), (5, .int (lSs P (qLn q0))), (0, .ref h), (1, .ref a), (2, .ref b), (3, .int (nI oo)), (4, .int cc)] → W p l e { frames := 36, cells := 3, slots := 18, locals := 1700 } s m ([.ref h, .ref a, .ref b, .int (nI oo), .int cc] : List Value).toArray below meth c H locs 0 0 (MQ below ((zQi g (P_L_isPlayed) (oL g h a b)) A) ([.ref h, .ref a, .ref b, .int (nI oo), .int cc] : List Value).toArray s 3 18 A) (F0 m 21 ls []) := by
      intro n21
      induction n21 with
      | zero =>
        intro k hk hn21 H locs ls X hl
        exfalso; omega
      | succ n21 ih21 =>
        intro k hk hn21 H locs ls X hl
        refine lv_aload_n hx hb dL_isPlayed_21 rfl (lv_at hl 3 rfl) ?_
        refine lv_iload hx hb dL_isPlayed_22 (lv_at hl 0 rfl) ?_
        refine zsubS (n := 2) (As := [.ref a, .int (nI k)]) (rest := []) (wc := oB g a P) (wr := oQ h (q0, q1, q2, q3, q4, q5, q6, q7, q8, q9, q10) ++ oG g b G) [1] [0, 2] rfl rfl rfl rfl (by decide) Z X zSt0 (fun _ _ _ => trivial) (c_L_isOn l g a P (nI k)) gL_isPlayed_L_isOn rfl (by decide +kernel) ⟨Nat.le_of_ble_eq_true rfl, Nat.le_of_ble_eq_true rfl⟩ rfl rfl hl.1 (Nat.le_of_ble_eq_true rfl) dL_isPlayed_24 ⟨show 0 + 0 ≤ 3 from by omega, show 0 + 0 ≤ 18 from by omega⟩ (fun r8 ur8 H locs hr8 X => ?_)
        obtain ⟨hur8, hr8⟩ := hr8
        rw [hur8] at X
        have X : zh g A (oL g h a b ((q0, q1, q2, q3, q4, q5, q6, q7, q8, q9, q10), P, G)) s.heap H locs := zhsub X [0, 2, 1] rfl rfl
        refine zrwi (y := zb (lHas P (nI k) 16)) hr8 ?_
        refine lv_if_ne (tgt := 50) hx hb dL_isPlayed_27 (by decide) (fun c9 => ?_) (fun c9 => ?_)
        · have qc9 := c9
          have hne : ¬ k = t := by first | exact ne_on hton (by assumption) | exact ne_sf hk htsf (by assumption) (by assumption)
          refine lv_iload hx hb dL_isPlayed_50 (lv_at hl 0 rfl) ?_
          refine lv_iconst (v := nI 1) hx hb dL_isPlayed_52 (by decide) ?_
          refine lv_iadd hx hb dL_isPlayed_53 ?_
          refine zrwi (y := nI (k + 1)) (nI_add _ _) ?_
          refine lv_bipush (v := nI 16) hx hb dL_isPlayed_54 (by decide) ?_
          refine lv_irem hx hb dL_isPlayed_56 (by decide) ?_
          refine zrwi (y := nI ((k + 1) % 16)) (pk_rem (by omega) (by omega) (by omega)) ?_
          refine lv_istore (lv' := [(6, .int (nI ((k + 1) % 16))), (5, .int (lSs P (qLn q0))), (0, .ref h), (1, .ref a), (2, .ref b), (3, .int (nI oo)), (4, .int cc)]) hx hb dL_isPlayed_57 hl (by decide) rfl (fun ls hl => ?_)
          refine lv_goto (tgt := 21) hx hb dL_isPlayed_59 (by decide) ?_
          exact W.widen (by omega) (by omega) (ih21 ((k + 1) % 16) (by omega) (by have := hne; omega) H locs ls X (lv_sub hl [0, 1, 2, 3, 4, 5, 6] rfl))
        · have qc9 := c9
          refine lv_iload hx hb dL_isPlayed_30 (lv_at hl 6 rfl) ?_
          refine lv_if_eq (tgt := 62) hx hb dL_isPlayed_32 (by decide) (fun c10 => ?_) (fun c10 => ?_)
          · have qc10 := c10
            refine lv_aload_n hx hb dL_isPlayed_62 rfl (lv_at hl 2 rfl) ?_
            refine lv_aload_n hx hb dL_isPlayed_63 rfl (lv_at hl 3 rfl) ?_
            refine lv_aload_n hx hb dL_isPlayed_64 rfl (lv_at hl 4 rfl) ?_
            refine lv_iload hx hb dL_isPlayed_65 (lv_at hl 0 rfl) ?_
            refine zsubS (n := 4) (As := [.ref h, .ref a, .ref b, .int (nI k)]) (rest := []) (wc := oL g h a b ((q0, q1, q2, q3, q4, q5, q6, q7, q8, q9, q10), P, G)) (wr := []) [0, 1, 2] [] rfl rfl rfl rfl (by decide) Z X zStL (fun _ _ h => h) (c_L_isGiven l g bL h a b q0 q1 q2 q3 q4 q5 q6 q7 q8 q9 q10 P G k htr pn O hR0 (by omega)) gL_isPlayed_L_isGiven rfl ⟨by decide, by decide, by decide +kernel⟩ ⟨Nat.le_of_ble_eq_true rfl, Nat.le_of_ble_eq_true rfl⟩ rfl rfl hl.1 (Nat.le_of_ble_eq_true rfl) dL_isPlayed_67 ⟨show 0 + 0 + 1 ≤ 3 from by omega, show 0 + 0 + 6 ≤ 18 from by omega⟩ (fun r11 ur11 H locs hr11 X => ?_)
            obtain ⟨h1r11, h2r11⟩ := hr11
            obtain ⟨⟨u0r11, u1r11, u2r11, u3r11, u4r11, u5r11, u6r11, u7r11, u8r11, u9r11, u10r11⟩, Pr11, Gr11⟩ := ur11
            refine zrwi (y := (1 : Int32)) h1r11 ?_
            have X : zh g A (oL g h a b ((u0r11, u1r11, u2r11, u3r11, u4r11, u5r11, u6r11, u7r11, u8r11, u9r11, u10r11), Pr11, Gr11)) s.heap H locs := X
            exact W.widen (k := 3) (n := 18) (by omega) (by omega) (zreti Z hr hlk ((u0r11, u1r11, u2r11, u3r11, u4r11, u5r11, u6r11, u7r11, u8r11, u9r11, u10r11), Pr11, Gr11) X dL_isPlayed_70 rfl (⟨rfl, h2r11⟩))
          · have qc10 := c10
            refine lv_iload hx hb dL_isPlayed_35 (lv_at hl 1 rfl) ?_
            refine lv_if_eq (tgt := 62) hx hb dL_isPlayed_37 (by decide) (fun c12 => ?_) (fun c12 => ?_)
            · have qc12 := c12
              refine lv_aload_n hx hb dL_isPlayed_62 rfl (lv_at hl 2 rfl) ?_
              refine lv_aload_n hx hb dL_isPlayed_63 rfl (lv_at hl 3 rfl) ?_
              refine lv_aload_n hx hb dL_isPlayed_64 rfl (lv_at hl 4 rfl) ?_
              refine lv_iload hx hb dL_isPlayed_65 (lv_at hl 0 rfl) ?_
              refine zsubS (n := 4) (As := [.ref h, .ref a, .ref b, .int (nI k)]) (rest := []) (wc := oL g h a b ((q0, q1, q2, q3, q4, q5, q6, q7, q8, q9, q10), P, G)) (wr := []) [0, 1, 2] [] rfl rfl rfl rfl (by decide) Z X zStL (fun _ _ h => h) (c_L_isGiven l g bL h a b q0 q1 q2 q3 q4 q5 q6 q7 q8 q9 q10 P G k htr pn O hR0 (by omega)) gL_isPlayed_L_isGiven rfl ⟨by decide, by decide, by decide +kernel⟩ ⟨Nat.le_of_ble_eq_true rfl, Nat.le_of_ble_eq_true rfl⟩ rfl rfl hl.1 (Nat.le_of_ble_eq_true rfl) dL_isPlayed_67 ⟨show 0 + 0 + 1 ≤ 3 from by omega, show 0 + 0 + 6 ≤ 18 from by omega⟩ (fun r13 ur13 H locs hr13 X => ?_)
              obtain ⟨h1r13, h2r13⟩ := hr13
              obtain ⟨⟨u0r13, u1r13, u2r13, u3r13, u4r13, u5r13, u6r13, u7r13, u8r13, u9r13, u10r13⟩, Pr13, Gr13⟩ := ur13
              refine zrwi (y := (1 : Int32)) h1r13 ?_
              have X : zh g A (oL g h a b ((u0r13, u1r13, u2r13, u3r13, u4r13, u5r13, u6r13, u7r13, u8r13, u9r13, u10r13), Pr13, Gr13)) s.heap H locs := X
              exact W.widen (k := 3) (n := 18) (by omega) (by omega) (zreti Z hr hlk ((u0r13, u1r13, u2r13, u3r13, u4r13, u5r13, u6r13, u7r13, u8r13, u9r13, u10r13), Pr13, Gr13) X dL_isPlayed_70 rfl (⟨rfl, h2r13⟩))
            · have qc12 := c12
              refine lv_iload hx hb dL_isPlayed_40 (lv_at hl 1 rfl) ?_
              refine lv_iload hx hb dL_isPlayed_42 (lv_at hl 0 rfl) ?_
              refine lv_ishr hx hb dL_isPlayed_44 ?_
              refine lv_iconst (v := (1 : Int32)) hx hb dL_isPlayed_45 (by decide) ?_
              refine lv_iand hx hb dL_isPlayed_46 ?_
              refine lv_if_ne (tgt := 62) hx hb dL_isPlayed_47 (by decide) (fun c14 => ?_) (fun c14 => ?_)
              · have qc14 := c14
                refine lv_aload_n hx hb dL_isPlayed_62 rfl (lv_at hl 2 rfl) ?_
                refine lv_aload_n hx hb dL_isPlayed_63 rfl (lv_at hl 3 rfl) ?_
                refine lv_aload_n hx hb dL_isPlayed_64 rfl (lv_at hl 4 rfl) ?_
                refine lv_iload hx hb dL_isPlayed_65 (lv_at hl 0 rfl) ?_
                refine zsubS (n := 4) (As := [.ref h, .ref a, .ref b, .int (nI k)]) (rest := []) (wc := oL g h a b ((q0, q1, q2, q3, q4, q5, q6, q7, q8, q9, q10), P, G)) (wr := []) [0, 1, 2] [] rfl rfl rfl rfl (by decide) Z X zStL (fun _ _ h => h) (c_L_isGiven l g bL h a b q0 q1 q2 q3 q4 q5 q6 q7 q8 q9 q10 P G k htr pn O hR0 (by omega)) gL_isPlayed_L_isGiven rfl ⟨by decide, by decide, by decide +kernel⟩ ⟨Nat.le_of_ble_eq_true rfl, Nat.le_of_ble_eq_true rfl⟩ rfl rfl hl.1 (Nat.le_of_ble_eq_true rfl) dL_isPlayed_67 ⟨show 0 + 0 + 1 ≤ 3 from by omega, show 0 + 0 + 6 ≤ 18 from by omega⟩ (fun r15 ur15 H locs hr15 X => ?_)
                obtain ⟨h1r15, h2r15⟩ := hr15
                obtain ⟨⟨u0r15, u1r15, u2r15, u3r15, u4r15, u5r15, u6r15, u7r15, u8r15, u9r15, u10r15⟩, Pr15, Gr15⟩ := ur15
                refine zrwi (y := (1 : Int32)) h1r15 ?_
                have X : zh g A (oL g h a b ((u0r15, u1r15, u2r15, u3r15, u4r15, u5r15, u6r15, u7r15, u8r15, u9r15, u10r15), Pr15, Gr15)) s.heap H locs := X
                exact W.widen (k := 3) (n := 18) (by omega) (by omega) (zreti Z hr hlk ((u0r15, u1r15, u2r15, u3r15, u4r15, u5r15, u6r15, u7r15, u8r15, u9r15, u10r15), Pr15, Gr15) X dL_isPlayed_70 rfl (⟨rfl, h2r15⟩))
              · have qc14 := c14
                have hne : ¬ k = t := by first | exact ne_on hton (by assumption) | exact ne_sf hk htsf (by assumption) (by assumption)
                refine lv_iload hx hb dL_isPlayed_50 (lv_at hl 0 rfl) ?_
                refine lv_iconst (v := nI 1) hx hb dL_isPlayed_52 (by decide) ?_
                refine lv_iadd hx hb dL_isPlayed_53 ?_
                refine zrwi (y := nI (k + 1)) (nI_add _ _) ?_
                refine lv_bipush (v := nI 16) hx hb dL_isPlayed_54 (by decide) ?_
                refine lv_irem hx hb dL_isPlayed_56 (by decide) ?_
                refine zrwi (y := nI ((k + 1) % 16)) (pk_rem (by omega) (by omega) (by omega)) ?_
                refine lv_istore (lv' := [(6, .int (nI ((k + 1) % 16))), (5, .int (lSs P (qLn q0))), (0, .ref h), (1, .ref a), (2, .ref b), (3, .int (nI oo)), (4, .int cc)]) hx hb dL_isPlayed_57 hl (by decide) rfl (fun ls hl => ?_)
                refine lv_goto (tgt := 21) hx hb dL_isPlayed_59 (by decide) ?_
                exact W.widen (by omega) (by omega) (ih21 ((k + 1) % 16) (by omega) (by have := hne; omega) H locs ls X (lv_sub hl [0, 1, 2, 3, 4, 5, 6] rfl))
    exact W.widen (by omega) (by omega) (cut21 17 (oo % 16) (by omega) (by omega) H locs ls X (lv_sub hl [0, 1, 2, 3, 4, 5, 6] rfl))
def P_L_isBegun : Int32 → LSt → Prop := fun r u => r = 1 ∧ RGs u
set_option maxHeartbeats 1000000 in
set_option maxRecDepth 100000 in
theorem c_L_isBegun (l : Launch) (g : zG) (bL h a b : Nat) (q0 q1 q2 q3 q4 q5 q6 : Int32) (q7 : Int64) (q8 q9 : Int32) (q10 : Int64) (P G : Nat → Int32)  (htr : l.stackTraces = false) (pn : Nat) (O : Nat → Int32) (hR : RG q0 q1 q2 q3 q4 q5 q6 q7 P G pn O) (bb : Bool) : zMk l yL_isBegun wsL_isBegun 34 1400 0 0 g [.ref h, .ref a, .ref b, .int (zb bb)] (oL g h a b ((q0, q1, q2, q3, q4, q5, q6, q7, q8, q9, q10), P, G)) (zEL bL) (zQi g (P_L_isBegun) (oL g h a b)) := by
  refine zstartk (cc := cL_isBegun) (maxL := 6) (ret := (some .boolean)) (own := RL) rfl (by decide) rfl zStL (Nat.le_of_ble_eq_true rfl) ?_
  intro p e s m below meth c A Z hr hlk _hname H locs X ls hl
  have hx := Z.1.1
  have hb := Z.1.2.1
  have hl : lv_has ls 6 [(0, .ref h), (1, .ref a), (2, .ref b), (3, .int (zb bb))] := hl
  have X : zh g A (oL g h a b ((q0, q1, q2, q3, q4, q5, q6, q7, q8, q9, q10), P, G)) s.heap H locs := X
  have hR0 := hR
  obtain ⟨⟨hG0, hG1, hG2, hG3, hG4, hG5⟩, hph, hot, hrb, hone, hgo, hov⟩ := hR
  have hok : okP P := hrb.1.1
  have hqn := qLn_le q0
  have hpl := RB_le hrb
  refine lv_aload_n hx hb dL_isBegun_0 rfl (lv_at hl 2 rfl) ?_
  refine lv_iconst (v := (4 : Int32)) hx hb dL_isBegun_1 (by decide) ?_
  refine zald (q0 := 2) (n := 6) (f := G) Z X rfl rfl 4 (by decide) (by decide) (by decide) dL_isBegun_2 ?_
  refine zrwi (y := nI pn) hG4 ?_
  refine lv_istore (lv' := [(4, .int (nI pn)), (0, .ref h), (1, .ref a), (2, .ref b), (3, .int (zb bb))]) hx hb dL_isBegun_3 hl (by decide) rfl (fun ls hl => ?_)
  refine lv_iconst (v := (0 : Int32)) hx hb dL_isBegun_5 (by decide) ?_
  refine lv_istore (lv' := [(5, .int (0 : Int32)), (4, .int (nI pn)), (0, .ref h), (1, .ref a), (2, .ref b), (3, .int (zb bb))]) hx hb dL_isBegun_6 hl (by decide) rfl (fun ls hl => ?_)
  have cut8 : ∀ (n8 : Nat), ∀ (k : Nat), (k ≤ 16) → (17 - k ≤ n8) → ∀ (H : Heap) (locs : List Loc) (ls : Array Slot), zh g A (oL g h a b ((q0, q1, q2, q3, q4, q5, q6, q7, q8, q9, q10), (filN P (-1) k), G)) s.heap H locs → lv_has ls 6 [(5, .int (nI k)), (4, .int (nI pn)), (0, .ref h), (1, .ref a), (2, .ref b), (3, .int (zb bb))] → W p l e { frames := 34, cells := 0, slots := 0, locals := 1400 } s m ([.ref h, .ref a, .ref b, .int (zb bb)] : List Value).toArray below meth c H locs 0 0 (MQ below ((zQi g (P_L_isBegun) (oL g h a b)) A) ([.ref h, .ref a, .ref b, .int (zb bb)] : List Value).toArray s 0 0 A) (F0 m 8 ls []) := by
    intro n8
    induction n8 with
    | zero =>
      intro k hk hn8 H locs ls X hl
      exfalso; omega
    | succ n8 ih8 =>
      intro k hk hn8 H locs ls X hl
      refine lv_iload hx hb dL_isBegun_8 (lv_at hl 0 rfl) ?_
      refine lv_bipush (v := (16 : Int32)) hx hb dL_isBegun_10 (by decide) ?_
      refine lv_icmp_ge (tgt := 26) hx hb dL_isBegun_12 (by decide) (fun c1 => ?_) (fun c1 => ?_)
      · have qc1 := c1
        have c1n : 16 ≤ k := zn_let (by omega) (by omega) c1
        have hk16 : k = 16 := by omega
        refine lv_aload_n hx hb dL_isBegun_26 rfl (lv_at hl 4 rfl) ?_
        refine lv_iconst (v := (0 : Int32)) hx hb dL_isBegun_27 (by decide) ?_
        refine lv_iload_n hx hb dL_isBegun_28 rfl (lv_at hl 5 rfl) ?_
        refine lv_if_eq (tgt := 37) hx hb dL_isBegun_29 (by decide) (fun c2 => ?_) (fun c2 => ?_)
        · have qc2 := c2
          refine lv_bipush (v := (10 : Int32)) hx hb dL_isBegun_37 (by decide) ?_
          refine zast (q0 := 2) (n := 6) (f := G) Z X rfl rfl 0 (by decide) (by decide) (by decide) dL_isBegun_39 (fun H locs X => ?_)
          have X : zh g A (oL g h a b ((q0, q1, q2, q3, q4, q5, q6, q7, q8, q9, q10), (filN P (-1) k), upd G 0 (10 : Int32))) s.heap H locs := X
          refine lv_aload_n hx hb dL_isBegun_40 rfl (lv_at hl 4 rfl) ?_
          refine lv_iconst (v := (1 : Int32)) hx hb dL_isBegun_41 (by decide) ?_
          refine lv_iconst (v := (0 : Int32)) hx hb dL_isBegun_42 (by decide) ?_
          refine zast (q0 := 2) (n := 6) (f := upd G 0 (10 : Int32)) Z X rfl rfl 1 (by decide) (by decide) (by decide) dL_isBegun_43 (fun H locs X => ?_)
          have X : zh g A (oL g h a b ((q0, q1, q2, q3, q4, q5, q6, q7, q8, q9, q10), (filN P (-1) k), upd (upd G 0 (10 : Int32)) 1 (0 : Int32))) s.heap H locs := X
          refine lv_aload_n hx hb dL_isBegun_44 rfl (lv_at hl 4 rfl) ?_
          refine lv_iconst (v := (2 : Int32)) hx hb dL_isBegun_45 (by decide) ?_
          refine lv_iconst (v := (0 : Int32)) hx hb dL_isBegun_46 (by decide) ?_
          refine zast (q0 := 2) (n := 6) (f := upd (upd G 0 (10 : Int32)) 1 (0 : Int32)) Z X rfl rfl 2 (by decide) (by decide) (by decide) dL_isBegun_47 (fun H locs X => ?_)
          have X : zh g A (oL g h a b ((q0, q1, q2, q3, q4, q5, q6, q7, q8, q9, q10), (filN P (-1) k), upd (upd (upd G 0 (10 : Int32)) 1 (0 : Int32)) 2 (0 : Int32))) s.heap H locs := X
          refine lv_aload_n hx hb dL_isBegun_48 rfl (lv_at hl 4 rfl) ?_
          refine lv_iconst (v := (3 : Int32)) hx hb dL_isBegun_49 (by decide) ?_
          refine lv_iconst (v := (-1 : Int32)) hx hb dL_isBegun_50 (by decide) ?_
          refine zast (q0 := 2) (n := 6) (f := upd (upd (upd G 0 (10 : Int32)) 1 (0 : Int32)) 2 (0 : Int32)) Z X rfl rfl 3 (by decide) (by decide) (by decide) dL_isBegun_51 (fun H locs X => ?_)
          have X : zh g A (oL g h a b ((q0, q1, q2, q3, q4, q5, q6, q7, q8, q9, q10), (filN P (-1) k), upd (upd (upd (upd G 0 (10 : Int32)) 1 (0 : Int32)) 2 (0 : Int32)) 3 (-1 : Int32))) s.heap H locs := X
          refine lv_aload_n hx hb dL_isBegun_52 rfl (lv_at hl 4 rfl) ?_
          refine lv_iconst (v := (4 : Int32)) hx hb dL_isBegun_53 (by decide) ?_
          refine lv_iconst (v := (0 : Int32)) hx hb dL_isBegun_54 (by decide) ?_
          refine zast (q0 := 2) (n := 6) (f := upd (upd (upd (upd G 0 (10 : Int32)) 1 (0 : Int32)) 2 (0 : Int32)) 3 (-1 : Int32)) Z X rfl rfl 4 (by decide) (by decide) (by decide) dL_isBegun_55 (fun H locs X => ?_)
          have X : zh g A (oL g h a b ((q0, q1, q2, q3, q4, q5, q6, q7, q8, q9, q10), (filN P (-1) k), upd (upd (upd (upd (upd G 0 (10 : Int32)) 1 (0 : Int32)) 2 (0 : Int32)) 3 (-1 : Int32)) 4 (0 : Int32))) s.heap H locs := X
          refine lv_aload_n hx hb dL_isBegun_56 rfl (lv_at hl 4 rfl) ?_
          refine lv_iconst (v := (5 : Int32)) hx hb dL_isBegun_57 (by decide) ?_
          refine lv_iconst (v := (-1 : Int32)) hx hb dL_isBegun_58 (by decide) ?_
          refine zast (q0 := 2) (n := 6) (f := upd (upd (upd (upd (upd G 0 (10 : Int32)) 1 (0 : Int32)) 2 (0 : Int32)) 3 (-1 : Int32)) 4 (0 : Int32)) Z X rfl rfl 5 (by decide) (by decide) (by decide) dL_isBegun_59 (fun H locs X => ?_)
          have X : zh g A (oL g h a b ((q0, q1, q2, q3, q4, q5, q6, q7, q8, q9, q10), (filN P (-1) k), upd (upd (upd (upd (upd (upd G 0 (10 : Int32)) 1 (0 : Int32)) 2 (0 : Int32)) 3 (-1 : Int32)) 4 (0 : Int32)) 5 (-1 : Int32))) s.heap H locs := X
          refine lv_aload_n hx hb dL_isBegun_60 rfl (lv_at hl 2 rfl) ?_
          refine lv_iload_n hx hb dL_isBegun_61 rfl (lv_at hl 5 rfl) ?_
          refine zsubVi (n := 1) (As := [.int (zb bb)]) (rest := []) (wc := oQ h (q0, q1, q2, q3, q4, q5, q6, q7, q8, q9, q10)) (wr := oB g a (filN P (-1) k) ++ oG g b (upd (upd (upd (upd (upd (upd G 0 (10 : Int32)) 1 (0 : Int32)) 2 (0 : Int32)) 3 (-1 : Int32)) 4 (0 : Int32)) 5 (-1 : Int32))) (ci := 0) (C := RX0) (T := TX0) (N := 11) [0] [1, 2] rfl rfl rfl rfl (by decide) Z X zStL (fun _ _ h => h) (c_X0_begin l g bL h q0 q1 q2 q3 q4 q5 q6 q7 q8 q9 q10 bb) gL_isBegun_X0_begin rfl (by decide +kernel) ⟨Nat.le_of_ble_eq_true rfl, Nat.le_of_ble_eq_true rfl⟩ rfl rfl rfl rfl hl.1 (Nat.le_of_ble_eq_true rfl) dL_isBegun_62 ⟨by simp only []; omega, by simp only []; omega⟩ (fun r3 ur3 H locs hr3 X => ?_)
          obtain ⟨hur3, hr3⟩ := hr3
          rw [hur3] at X
          have X : zh g A (oL g h a b ((zb bb, 0, 0, -1, -1, 0, 0, 0, q8, q9, q10), (filN P (-1) k), upd (upd (upd (upd (upd (upd G 0 (10 : Int32)) 1 (0 : Int32)) 2 (0 : Int32)) 3 (-1 : Int32)) 4 (0 : Int32)) 5 (-1 : Int32))) s.heap H locs := zhsub X [2, 0, 1] rfl rfl
          refine zrwi (y := qBc q5) hr3 ?_
          refine zrwi (y := nI pn) (RB_bc hrb) ?_
          refine lv_iload hx hb dL_isBegun_65 (lv_at hl 1 rfl) ?_
          refine lv_icmp_ne (tgt := 84) hx hb dL_isBegun_67 (by decide) (fun c4 => ?_) (fun c4 => ?_)
          · exact absurd rfl c4
          · have qc4 := c4
            refine lv_aload_n hx hb dL_isBegun_70 rfl (lv_at hl 2 rfl) ?_
            refine zsubVi (n := 0) (As := []) (rest := []) (wc := oQ h (zb bb, 0, 0, -1, -1, 0, 0, 0, q8, q9, q10)) (wr := oB g a (filN P (-1) k) ++ oG g b (upd (upd (upd (upd (upd (upd G 0 (10 : Int32)) 1 (0 : Int32)) 2 (0 : Int32)) 3 (-1 : Int32)) 4 (0 : Int32)) 5 (-1 : Int32))) (ci := 0) (C := RX0) (T := TX0) (N := 11) [0] [1, 2] rfl rfl rfl rfl (by decide) Z X zStL (fun _ _ h => h) (c_X0_symmetries l g bL h (zb bb) 0 0 (-1) (-1) 0 0 0 q8 q9 q10) gL_isBegun_X0_symmetries rfl (by decide +kernel) ⟨Nat.le_of_ble_eq_true rfl, Nat.le_of_ble_eq_true rfl⟩ rfl rfl rfl rfl hl.1 (Nat.le_of_ble_eq_true rfl) dL_isBegun_71 ⟨by simp only []; omega, by simp only []; omega⟩ (fun r5 ur5 H locs hr5 X => ?_)
            obtain ⟨hur5, hr5⟩ := hr5
            rw [hur5] at X
            have X : zh g A (oL g h a b ((zb bb, 0, 0, -1, -1, 0, 0, 0, q8, q9, q10), (filN P (-1) k), upd (upd (upd (upd (upd (upd G 0 (10 : Int32)) 1 (0 : Int32)) 2 (0 : Int32)) 3 (-1 : Int32)) 4 (0 : Int32)) 5 (-1 : Int32))) s.heap H locs := zhsub X [2, 0, 1] rfl rfl
            refine zrwi (y := qSym 0 0 0 0 8) hr5 ?_
            refine zrwi (y := (3072 : Int32)) (sym_0) ?_
            refine lv_sipush (v := (3072 : Int32)) hx hb dL_isBegun_74 (by decide) ?_
            refine lv_icmp_ne (tgt := 84) hx hb dL_isBegun_77 (by decide) (fun c6 => ?_) (fun c6 => ?_)
            · exact absurd c6 (by decide)
            · have qc6 := c6
              refine lv_iconst (v := (1 : Int32)) hx hb dL_isBegun_80 (by decide) ?_
              refine lv_goto (tgt := 85) hx hb dL_isBegun_81 (by decide) ?_
              exact zreti Z hr hlk ((zb bb, 0, 0, -1, -1, 0, 0, 0, q8, q9, q10), (filN P (-1) k), upd (upd (upd (upd (upd (upd G 0 (10 : Int32)) 1 (0 : Int32)) 2 (0 : Int32)) 3 (-1 : Int32)) 4 (0 : Int32)) 5 (-1 : Int32)) X dL_isBegun_85 rfl (⟨rfl, RG_b hk16 (by first | exact ln_b0 (by assumption) | exact ln_b1 (by assumption))⟩)
        · have qc2 := c2
          refine lv_bipush (v := (19 : Int32)) hx hb dL_isBegun_32 (by decide) ?_
          refine lv_goto (tgt := 39) hx hb dL_isBegun_34 (by decide) ?_
          refine zast (q0 := 2) (n := 6) (f := G) Z X rfl rfl 0 (by decide) (by decide) (by decide) dL_isBegun_39 (fun H locs X => ?_)
          have X : zh g A (oL g h a b ((q0, q1, q2, q3, q4, q5, q6, q7, q8, q9, q10), (filN P (-1) k), upd G 0 (19 : Int32))) s.heap H locs := X
          refine lv_aload_n hx hb dL_isBegun_40 rfl (lv_at hl 4 rfl) ?_
          refine lv_iconst (v := (1 : Int32)) hx hb dL_isBegun_41 (by decide) ?_
          refine lv_iconst (v := (0 : Int32)) hx hb dL_isBegun_42 (by decide) ?_
          refine zast (q0 := 2) (n := 6) (f := upd G 0 (19 : Int32)) Z X rfl rfl 1 (by decide) (by decide) (by decide) dL_isBegun_43 (fun H locs X => ?_)
          have X : zh g A (oL g h a b ((q0, q1, q2, q3, q4, q5, q6, q7, q8, q9, q10), (filN P (-1) k), upd (upd G 0 (19 : Int32)) 1 (0 : Int32))) s.heap H locs := X
          refine lv_aload_n hx hb dL_isBegun_44 rfl (lv_at hl 4 rfl) ?_
          refine lv_iconst (v := (2 : Int32)) hx hb dL_isBegun_45 (by decide) ?_
          refine lv_iconst (v := (0 : Int32)) hx hb dL_isBegun_46 (by decide) ?_
          refine zast (q0 := 2) (n := 6) (f := upd (upd G 0 (19 : Int32)) 1 (0 : Int32)) Z X rfl rfl 2 (by decide) (by decide) (by decide) dL_isBegun_47 (fun H locs X => ?_)
          have X : zh g A (oL g h a b ((q0, q1, q2, q3, q4, q5, q6, q7, q8, q9, q10), (filN P (-1) k), upd (upd (upd G 0 (19 : Int32)) 1 (0 : Int32)) 2 (0 : Int32))) s.heap H locs := X
          refine lv_aload_n hx hb dL_isBegun_48 rfl (lv_at hl 4 rfl) ?_
          refine lv_iconst (v := (3 : Int32)) hx hb dL_isBegun_49 (by decide) ?_
          refine lv_iconst (v := (-1 : Int32)) hx hb dL_isBegun_50 (by decide) ?_
          refine zast (q0 := 2) (n := 6) (f := upd (upd (upd G 0 (19 : Int32)) 1 (0 : Int32)) 2 (0 : Int32)) Z X rfl rfl 3 (by decide) (by decide) (by decide) dL_isBegun_51 (fun H locs X => ?_)
          have X : zh g A (oL g h a b ((q0, q1, q2, q3, q4, q5, q6, q7, q8, q9, q10), (filN P (-1) k), upd (upd (upd (upd G 0 (19 : Int32)) 1 (0 : Int32)) 2 (0 : Int32)) 3 (-1 : Int32))) s.heap H locs := X
          refine lv_aload_n hx hb dL_isBegun_52 rfl (lv_at hl 4 rfl) ?_
          refine lv_iconst (v := (4 : Int32)) hx hb dL_isBegun_53 (by decide) ?_
          refine lv_iconst (v := (0 : Int32)) hx hb dL_isBegun_54 (by decide) ?_
          refine zast (q0 := 2) (n := 6) (f := upd (upd (upd (upd G 0 (19 : Int32)) 1 (0 : Int32)) 2 (0 : Int32)) 3 (-1 : Int32)) Z X rfl rfl 4 (by decide) (by decide) (by decide) dL_isBegun_55 (fun H locs X => ?_)
          have X : zh g A (oL g h a b ((q0, q1, q2, q3, q4, q5, q6, q7, q8, q9, q10), (filN P (-1) k), upd (upd (upd (upd (upd G 0 (19 : Int32)) 1 (0 : Int32)) 2 (0 : Int32)) 3 (-1 : Int32)) 4 (0 : Int32))) s.heap H locs := X
          refine lv_aload_n hx hb dL_isBegun_56 rfl (lv_at hl 4 rfl) ?_
          refine lv_iconst (v := (5 : Int32)) hx hb dL_isBegun_57 (by decide) ?_
          refine lv_iconst (v := (-1 : Int32)) hx hb dL_isBegun_58 (by decide) ?_
          refine zast (q0 := 2) (n := 6) (f := upd (upd (upd (upd (upd G 0 (19 : Int32)) 1 (0 : Int32)) 2 (0 : Int32)) 3 (-1 : Int32)) 4 (0 : Int32)) Z X rfl rfl 5 (by decide) (by decide) (by decide) dL_isBegun_59 (fun H locs X => ?_)
          have X : zh g A (oL g h a b ((q0, q1, q2, q3, q4, q5, q6, q7, q8, q9, q10), (filN P (-1) k), upd (upd (upd (upd (upd (upd G 0 (19 : Int32)) 1 (0 : Int32)) 2 (0 : Int32)) 3 (-1 : Int32)) 4 (0 : Int32)) 5 (-1 : Int32))) s.heap H locs := X
          refine lv_aload_n hx hb dL_isBegun_60 rfl (lv_at hl 2 rfl) ?_
          refine lv_iload_n hx hb dL_isBegun_61 rfl (lv_at hl 5 rfl) ?_
          refine zsubVi (n := 1) (As := [.int (zb bb)]) (rest := []) (wc := oQ h (q0, q1, q2, q3, q4, q5, q6, q7, q8, q9, q10)) (wr := oB g a (filN P (-1) k) ++ oG g b (upd (upd (upd (upd (upd (upd G 0 (19 : Int32)) 1 (0 : Int32)) 2 (0 : Int32)) 3 (-1 : Int32)) 4 (0 : Int32)) 5 (-1 : Int32))) (ci := 0) (C := RX0) (T := TX0) (N := 11) [0] [1, 2] rfl rfl rfl rfl (by decide) Z X zStL (fun _ _ h => h) (c_X0_begin l g bL h q0 q1 q2 q3 q4 q5 q6 q7 q8 q9 q10 bb) gL_isBegun_X0_begin rfl (by decide +kernel) ⟨Nat.le_of_ble_eq_true rfl, Nat.le_of_ble_eq_true rfl⟩ rfl rfl rfl rfl hl.1 (Nat.le_of_ble_eq_true rfl) dL_isBegun_62 ⟨by simp only []; omega, by simp only []; omega⟩ (fun r7 ur7 H locs hr7 X => ?_)
          obtain ⟨hur7, hr7⟩ := hr7
          rw [hur7] at X
          have X : zh g A (oL g h a b ((zb bb, 0, 0, -1, -1, 0, 0, 0, q8, q9, q10), (filN P (-1) k), upd (upd (upd (upd (upd (upd G 0 (19 : Int32)) 1 (0 : Int32)) 2 (0 : Int32)) 3 (-1 : Int32)) 4 (0 : Int32)) 5 (-1 : Int32))) s.heap H locs := zhsub X [2, 0, 1] rfl rfl
          refine zrwi (y := qBc q5) hr7 ?_
          refine zrwi (y := nI pn) (RB_bc hrb) ?_
          refine lv_iload hx hb dL_isBegun_65 (lv_at hl 1 rfl) ?_
          refine lv_icmp_ne (tgt := 84) hx hb dL_isBegun_67 (by decide) (fun c8 => ?_) (fun c8 => ?_)
          · exact absurd rfl c8
          · have qc8 := c8
            refine lv_aload_n hx hb dL_isBegun_70 rfl (lv_at hl 2 rfl) ?_
            refine zsubVi (n := 0) (As := []) (rest := []) (wc := oQ h (zb bb, 0, 0, -1, -1, 0, 0, 0, q8, q9, q10)) (wr := oB g a (filN P (-1) k) ++ oG g b (upd (upd (upd (upd (upd (upd G 0 (19 : Int32)) 1 (0 : Int32)) 2 (0 : Int32)) 3 (-1 : Int32)) 4 (0 : Int32)) 5 (-1 : Int32))) (ci := 0) (C := RX0) (T := TX0) (N := 11) [0] [1, 2] rfl rfl rfl rfl (by decide) Z X zStL (fun _ _ h => h) (c_X0_symmetries l g bL h (zb bb) 0 0 (-1) (-1) 0 0 0 q8 q9 q10) gL_isBegun_X0_symmetries rfl (by decide +kernel) ⟨Nat.le_of_ble_eq_true rfl, Nat.le_of_ble_eq_true rfl⟩ rfl rfl rfl rfl hl.1 (Nat.le_of_ble_eq_true rfl) dL_isBegun_71 ⟨by simp only []; omega, by simp only []; omega⟩ (fun r9 ur9 H locs hr9 X => ?_)
            obtain ⟨hur9, hr9⟩ := hr9
            rw [hur9] at X
            have X : zh g A (oL g h a b ((zb bb, 0, 0, -1, -1, 0, 0, 0, q8, q9, q10), (filN P (-1) k), upd (upd (upd (upd (upd (upd G 0 (19 : Int32)) 1 (0 : Int32)) 2 (0 : Int32)) 3 (-1 : Int32)) 4 (0 : Int32)) 5 (-1 : Int32))) s.heap H locs := zhsub X [2, 0, 1] rfl rfl
            refine zrwi (y := qSym 0 0 0 0 8) hr9 ?_
            refine zrwi (y := (3072 : Int32)) (sym_0) ?_
            refine lv_sipush (v := (3072 : Int32)) hx hb dL_isBegun_74 (by decide) ?_
            refine lv_icmp_ne (tgt := 84) hx hb dL_isBegun_77 (by decide) (fun c10 => ?_) (fun c10 => ?_)
            · exact absurd c10 (by decide)
            · have qc10 := c10
              refine lv_iconst (v := (1 : Int32)) hx hb dL_isBegun_80 (by decide) ?_
              refine lv_goto (tgt := 85) hx hb dL_isBegun_81 (by decide) ?_
              exact zreti Z hr hlk ((zb bb, 0, 0, -1, -1, 0, 0, 0, q8, q9, q10), (filN P (-1) k), upd (upd (upd (upd (upd (upd G 0 (19 : Int32)) 1 (0 : Int32)) 2 (0 : Int32)) 3 (-1 : Int32)) 4 (0 : Int32)) 5 (-1 : Int32)) X dL_isBegun_85 rfl (⟨rfl, RG_b hk16 (by first | exact ln_b0 (by assumption) | exact ln_b1 (by assumption))⟩)
      · have qc1 := c1
        have c1n : ¬ 16 ≤ k := zn_len (by omega) (by omega) c1
        refine lv_aload_n hx hb dL_isBegun_15 rfl (lv_at hl 3 rfl) ?_
        refine lv_iload hx hb dL_isBegun_16 (lv_at hl 0 rfl) ?_
        refine lv_iconst (v := (-1 : Int32)) hx hb dL_isBegun_18 (by decide) ?_
        refine zast (q0 := 1) (n := 16) (f := (filN P (-1) k)) Z X rfl rfl k rfl (by omega) (by decide) dL_isBegun_19 (fun H locs X => ?_)
        have X : zh g A (oL g h a b ((q0, q1, q2, q3, q4, q5, q6, q7, q8, q9, q10), (upd (filN P (-1) k) k (-1 : Int32)), G)) s.heap H locs := X
        have X : zh g A (oL g h a b ((q0, q1, q2, q3, q4, q5, q6, q7, q8, q9, q10), (filN P (-1) (k + 1)), G)) s.heap H locs := by rw [filN_s] at X; exact X
        refine lv_iinc (v := nI (k + 1)) (lv' := [(5, .int (nI (k + 1))), (4, .int (nI pn)), (0, .ref h), (1, .ref a), (2, .ref b), (3, .int (zb bb))]) hx hb dL_isBegun_20 hl (k := 0) rfl (zi_inc k) (by decide) rfl (fun ls hl => ?_)
        refine lv_goto (tgt := 8) hx hb dL_isBegun_23 (by decide) ?_
        exact ih8 (k + 1) (by first | assumption | omega) (by omega) H locs ls X (lv_sub hl [0, 1, 2, 3, 4, 5] rfl)
  exact cut8 17 0 (by decide) (by omega) H locs ls (by rw [filN_0]; exact X) (lv_sub hl [0, 1, 2, 3, 4, 5] rfl)
