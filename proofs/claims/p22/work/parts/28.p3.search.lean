/-! pure: the relation of the boards; what is safe; the looking ahead -/
def RB (P O : Nat → Int32) (pn : Nat) (f us : Int32) (d : Int64) : Prop := KB P f d ∧ (∀ p, p < 16 → (O p = 0 ∧ ∀ s, s < 16 → ¬ P s = nI p) ∨ (O p = 1 ∧ ∃ s, s < 16 ∧ P s = nI p)) ∧ (∀ p, p < 16 → qHas us (nI p) = decide (¬ O p = 0)) ∧ cntv P (-1) 16 + pn = 16 ∧ cntv O 0 16 + pn = 16
section SR
variable {P O : Nat → Int32} {pn : Nat} {f us : Int32} {d : Int64} {w : Int32} {p : Nat}
theorem RB_ok (h : RB P O pn f us d) (hp : pn < 16) : okM P O pn := ⟨hp, h.2.2.2.1, h.2.2.2.2⟩
theorem RB_u (h : RB P O pn f us d) {p : Nat} (hp : p < 16) : qHas us (nI p) = false ↔ O p = 0 := by
  rw [h.2.2.1 p hp, decide_eq_false_iff_not, Classical.not_not]
theorem RB_f (h : RB P O pn f us d) {s : Nat} (hs : s < 16) : qHas f (nI s) = false ↔ P s = -1 := by
  rw [h.1.2.1 s hs, decide_eq_false_iff_not, Classical.not_not]
theorem and_or_0 {a x y : Int32} : a &&& (x ||| y) = 0 ↔ a &&& x = 0 ∧ a &&& y = 0 := by
  have : a &&& (x ||| y) = (a &&& x) ||| (a &&& y) := bx32 (fun i _ => by rw [b_and, b_or, b_or, b_and, b_and, Bool.and_or_distrib_left])
  rw [this, or_0]
theorem winD_0C (h : KB P f d) (hp : p < 16) : ∀ k, k ≤ 19 → (qOwn (nI p) &&& qWinDC f d k = 0 ↔ ∀ l, l < k → mFul P l 4 = 3 → mCom P l 4 &&& mMk (nI p) = 0)
  | 0, _ => ⟨fun _ l hl => absurd hl (Nat.not_lt_zero l), fun _ => by show qOwn (nI p) &&& 0 = 0; exact Int32.and_zero⟩
  | k + 1, hk => by
    have ih := winD_0C h hp k (by omega)
    have hl : k < 19 := by omega
    rw [qWinDC, ln_lacks h hl, ln_com h hl]
    by_cases c : mFul P k 4 = 3
    · rw [if_pos (decide_eq_true c), and_or_0, ih, own_mk p hp]
      constructor
      · rintro ⟨a, b⟩ l hl' h3
        rcases Nat.lt_succ_iff_lt_or_eq.mp hl' with z | z
        · exact a l z h3
        · subst z; rw [Int32.and_comm]; exact b
      · intro q
        exact ⟨fun l hl' h3 => q l (by omega) h3, by rw [Int32.and_comm]; exact q k (by omega) c⟩
    · rw [if_neg (by rw [decide_eq_false c]; decide), ih]
      constructor
      · intro q l hl' h3
        rcases Nat.lt_succ_iff_lt_or_eq.mp hl' with z | z
        · exact q l z h3
        · subst z; exact absurd h3 c
      · intro q l hl' h3
        exact q l (by omega) h3
theorem win_0 (h : KB P f d) (hp : p < 16) : qWin f d w (nI p) = 0 ↔ noW w P p := win_0C h hp (qLn w) (qLn_le w).2
theorem winS_0 (h : KB P f d) (hp : p < 16) : mWinS w P p 16 = 0 ↔ noW w P p := by rw [← win_eq h hp]; exact win_0 h hp
theorem safe_has (h : RB P O pn f us d) (hp : p < 16) : qHas (qSafe f us d w) (nI p) = true ↔ O p = 0 ∧ noW w P p := by
  have e := qSafeC_has us (qWinD f d w) 16 (Nat.le_refl 16) p hp
  rw [show qSafe f us d w = qSafeC us (qWinD f d w) 16 from rfl, e, decide_eq_true_eq]
  have e2 : qOwn (nI p) &&& qWinD f d w = 0 ↔ noW w P p := winD_0C h.1 hp (qLn w) (qLn_le w).2
  rw [RB_u h hp, e2]
  exact ⟨fun q => q.2, fun q => ⟨hp, q⟩⟩
theorem safC_hi (us win : Int32) : ∀ k, k ≤ 16 → ∀ i, 16 ≤ i → (qSafeC us win k).toBitVec.getLsbD i = false
  | 0, _, i, _ => b_0 i
  | k + 1, hk, i, hi => by
    have ih := safC_hi us win k (by omega) i hi
    rw [qSafeC]
    split
    · rw [b_or, ih, qBit_get (by omega), decide_eq_false (by omega)]; rfl
    · exact ih
theorem mSaf_bit : ∀ k, k ≤ 16 → ∀ i, (mSafS w P O k).toBitVec.getLsbD i = (decide (i < k) && decide (O i = 0 ∧ mWinS w P i 16 = 0))
  | 0, _, i => by rw [show mSafS w P O 0 = 0 from rfl, b_0]; simp
  | k + 1, hk, i => by
    have ih := mSaf_bit k (by omega) i
    rw [mSafS, b_or, ih]
    have e : (if O k = 0 ∧ mWinS w P k 16 = 0 then (1 : Int32) <<< (nI k &&& 31) else 0).toBitVec.getLsbD i = (decide (O k = 0 ∧ mWinS w P k 16 = 0) && decide (k = i)) := by
      by_cases c : O k = 0 ∧ mWinS w P k 16 = 0
      · rw [if_pos c, decide_eq_true c, Bool.true_and]; exact qBit_get (by omega)
      · rw [if_neg c, decide_eq_false c, b_0]; rfl
    rw [e]
    by_cases h : k = i
    · subst h
      rw [decide_eq_false (Nat.lt_irrefl k), decide_eq_true (Nat.lt_succ_self k), decide_eq_true (p := k = k) rfl, Bool.false_and, Bool.false_or, Bool.true_and, Bool.and_true]
    · rw [decide_eq_false h, Bool.and_false, Bool.or_false]
      have : decide (i < k) = decide (i < k + 1) := decide_eq_decide.mpr ⟨fun q => by omega, fun q => by omega⟩
      rw [this]
theorem safe_eq (h : RB P O pn f us d) : qSafe f us d w = mSafS w P O 16 := by
  refine bx32 (fun i hi => ?_)
  rw [mSaf_bit 16 (Nat.le_refl 16) i]
  by_cases h16 : i < 16
  · rw [decide_eq_true h16, Bool.true_and, ← qHas_bv _ h16]
    have e := safe_has (w := w) h h16
    have e2 : (O i = 0 ∧ mWinS w P i 16 = 0) ↔ (O i = 0 ∧ noW w P i) := by rw [winS_0 h.1 h16]
    cases c : qHas (qSafe f us d w) (nI i)
    · refine (decide_eq_false (fun q => ?_)).symm
      rw [e.mpr (e2.mp q)] at c
      cases c
    · exact (decide_eq_true (e2.mpr (e.mp c))).symm
  · rw [decide_eq_false h16, Bool.false_and]
    exact safC_hi us _ 16 (Nat.le_refl 16) i (by omega)
/-- small numbers -/
theorem i4 {x : Int32} (h1 : -2 ≤ x) (h2 : x ≤ 1) : x = -2 ∨ x = -1 ∨ x = 0 ∨ x = 1 := by
  have a := Int32.le_iff_toInt_le.mp h1
  have b := Int32.le_iff_toInt_le.mp h2
  have a1 : (-2 : Int32).toInt = -2 := by decide
  have b1 : (1 : Int32).toInt = 1 := by decide
  rw [a1] at a
  rw [b1] at b
  rcases (by omega : x.toInt = -2 ∨ x.toInt = -1 ∨ x.toInt = 0 ∨ x.toInt = 1) with h | h | h | h
  · exact Or.inl (Int32.toInt_inj.mp (h.trans a1.symm))
  · exact Or.inr (Or.inl (Int32.toInt_inj.mp (h.trans (by decide))))
  · exact Or.inr (Or.inr (Or.inl (Int32.toInt_inj.mp (h.trans (by decide)))))
  · exact Or.inr (Or.inr (Or.inr (Int32.toInt_inj.mp (h.trans (by decide)))))
theorem mx_eq1 {F : Nat → Int32} (hr : ∀ j, j < 16 → -2 ≤ F j ∧ F j ≤ 1) : mx32 F 16 = 1 ↔ ∃ j, j < 16 ∧ F j = 1 := by
  obtain ⟨a, b, c⟩ := mx_range (k := 16) hr
  constructor
  · intro h
    obtain ⟨j, h1, h2⟩ := mx_ex (F := F) (k := 16) (by rw [h]; decide)
    exact ⟨j, h1, h2.trans h⟩
  · rintro ⟨j, h1, h2⟩
    have := c j h1
    rw [h2] at this
    exact Int32.le_antisymm b this
theorem mx_eqm {F : Nat → Int32} (hr : ∀ j, j < 16 → -2 ≤ F j ∧ F j ≤ 1) (hx : ∃ j, j < 16 ∧ ¬ F j = -2) : mx32 F 16 = -1 ↔ ∀ j, j < 16 → F j = -2 ∨ F j = -1 := by
  obtain ⟨a, b, c⟩ := mx_range (k := 16) hr
  constructor
  · intro h j hj
    have h1 := c j hj
    rw [h] at h1
    rcases i4 (hr j hj).1 (hr j hj).2 with q | q | q | q
    · exact Or.inl q
    · exact Or.inr q
    · rw [q] at h1; exact absurd h1 (by decide)
    · rw [q] at h1; exact absurd h1 (by decide)
  · intro h
    obtain ⟨j0, hj0, hn⟩ := hx
    have e0 := (h j0 hj0).resolve_left hn
    have h1 := c j0 hj0
    rw [e0] at h1
    obtain ⟨j, hj, e⟩ := mx_ex (F := F) (k := 16) (fun q => by rw [q] at h1; exact absurd h1 (by decide))
    rcases h j hj with q | q
    · rw [← e, q] at h1; exact absurd h1 (by decide)
    · rw [← e, q]
theorem neg_1 {x : Int32} : -x = 1 ↔ x = -1 := ⟨fun h => by rw [← Int32.neg_neg (a := x), h], fun h => by rw [h]; rfl⟩
theorem neg_m1 {x : Int32} : -x = -1 ↔ x = 1 := ⟨fun h => by rw [← Int32.neg_neg (a := x), h]; rfl, fun h => by rw [h]⟩
theorem neg_m2 {x : Int32} (h1 : -1 ≤ x) (h2 : x ≤ 1) : ¬ -x = -2 := by
  rcases i4 (Int32.le_trans (by decide) h1) h2 with q | q | q | q
  · rw [q] at h1; exact absurd h1 (by decide)
  · rw [q]; decide
  · rw [q]; decide
  · rw [q]; decide
theorem cnt_pos {F : Nat → Int32} {v : Int32} : ∀ {k j : Nat}, j < k → F j = v → 0 < cntv F v k
  | 0, j, h, _ => absurd h (Nat.not_lt_zero j)
  | k + 1, j, h, e => by
    unfold cntv
    by_cases z : F k = v
    · rw [if_pos z]; omega
    · have : j < k := by
        rcases Nat.lt_succ_iff_lt_or_eq.mp h with q | q
        · exact q
        · subst q; exact absurd e z
      have := cnt_pos (F := F) (k := k) this e
      omega
/-- a full board -/
theorem full_used (h : RB P O 16 f us d) (hp : p < 16) : ¬ O p = 0 := fun q => by
  have := cnt_pos (F := O) (k := 16) hp q
  have := h.2.2.2.2
  omega
theorem full_gw (h : RB P O 16 f us d) (n : Nat) : qGw w n f us d = false := by
  rw [qGw_e]
  cases c : anyN (qGwF w n f us d) 16
  · exact Bool.and_false _
  · obtain ⟨p, hp, e⟩ := anyN_iff.mp c
    unfold qGwF at e
    rw [Bool.and_eq_true] at e
    exact absurd ((RB_u h hp).mp (qSafe_used hp e.1)) (full_used h hp)
theorem f_full : ∀ s, s < 16 → qHas 65535 (nI s) = true := by decide +kernel
theorem full_f (h : RB P O 16 f us d) : f = 65535 := by
  have g : ∀ s, s < 16 → ¬ P s = -1 := fun s hs q => by
    have := cnt_pos (F := P) (k := 16) hs q
    have := h.2.2.2.1
    omega
  refine bx32 (fun i hi => ?_)
  by_cases h16 : i < 16
  · rw [KB_f h.1 h16, decide_eq_false (g i h16), ← qHas_bv _ h16, f_full i h16]; rfl
  · rw [f_hi h.1 (by omega)]
    have : ∀ i, i < 32 → 16 ≤ i → (65535 : Int32).toBitVec.getLsbD i = false := by decide +kernel
    exact (this i hi (by omega)).symm
theorem full_gl (h : RB P O 16 f us d) (n : Nat) : qGl w n f us d = false := qGl_n2 (full_f h)
theorem not_full (h : RB P O pn f us d) (hp : pn < 16) : ¬ f = 65535 := by
  obtain ⟨s, hs, e⟩ := cntv_ex (f := P) (v := -1) (k := 16) (by have := h.2.2.2.1; omega)
  intro q
  have := (RB_f h hs).mpr e
  rw [q, f_full s hs] at this
  cases this
end SR
