/-! pure: what wins, what is safe -/
theorem own_mk : ∀ p, p < 16 → qOwn (nI p) = mMk (nI p) := by decide +kernel
theorem many_eq (w : Int32) : mMany w = qLn w := rfl
theorem thr_bit {l s : Nat} (hl : l < 19) (hs : s < 32) : (LM l).toBitVec.getLsbD s = anyN (thF l s) 4 := by
  rw [LM_bits l hl s hs]
  show _ = ((((false || decide (sqr l 0 = s)) || decide (sqr l 1 = s)) || decide (sqr l 2 = s)) || decide (sqr l 3 = s))
  rw [Bool.false_or]
theorem sqr_inj : ∀ l, l < 19 → ∀ j, j < 4 → ∀ k, k < 4 → sqr l j = sqr l k → j = k := by decide +kernel
theorem ful_congr {P R : Nat → Int32} {l : Nat} : ∀ n, (∀ k, k < n → P (sqr l k) = R (sqr l k)) → mFul P l n = mFul R l n
  | 0, _ => rfl
  | n + 1, h => by rw [mFul, mFul, ful_congr n (fun k hk => h k (by omega)), h n (by omega)]
theorem com_congr {P R : Nat → Int32} {l : Nat} : ∀ n, (∀ k, k < n → P (sqr l k) = R (sqr l k)) → mCom P l n = mCom R l n
  | 0, _ => rfl
  | n + 1, h => by rw [mCom, mCom, com_congr n (fun k hk => h k (by omega)), h n (by omega)]
theorem ln_off {l s : Nat} (h : anyN (thF l s) 4 = false) : ∀ k, k < 4 → ¬ sqr l k = s := by
  intro k hk e
  have := anyN_t (P := thF l s) hk (decide_eq_true e)
  rw [h] at this
  cases this
theorem upd_off {P : Nat → Int32} {l s : Nat} {x : Int32} (h : anyN (thF l s) 4 = false) : ∀ k, k < 4 → upd P s x (sqr l k) = P (sqr l k) := fun k hk => pk_un (ln_off h k hk)
theorem b_255 : ∀ i, i < 32 → (255 : Int32).toBitVec.getLsbD i = decide (i < 8) := by decide +kernel
/-- a piece put on a line -/
theorem ful_put {P : Nat → Int32} {l s : Nat} {x : Int32} (hl : l < 19) (h : anyN (thF l s) 4 = true) (h1 : P s = -1) (hx : ¬ x = -1) : mFul (upd P s x) l 4 = mFul P l 4 + 1 := by
  obtain ⟨j, hj, e⟩ := anyN_iff.mp h
  have e := of_decide_eq_true e
  have a := ful_e P l
  have b := ful_e (upd P s x) l
  have hn : ∀ k, k < 4 → ¬ k = j → em (upd P s x) l k = em P l k := fun k hk hkj => by
    unfold em
    rw [pk_un (f := P) (k := s) (j := sqr l k) (fun q => hkj (sqr_inj l hl k hk j hj (q.trans e.symm)))]
  have hj1 : em (upd P s x) l j = false := by
    unfold em
    rw [e, pk_us]
    exact decide_eq_false hx
  have hj2 : em P l j = true := by
    unfold em
    rw [e]
    exact decide_eq_true h1
  have hc : j = 0 ∨ j = 1 ∨ j = 2 ∨ j = 3 := by omega
  rcases hc with rfl | rfl | rfl | rfl
  · rw [hj1, hn 1 (by decide) (by decide), hn 2 (by decide) (by decide), hn 3 (by decide) (by decide)] at b
    rw [hj2] at a
    simp only [Bool.toNat_true, Bool.toNat_false] at a b
    omega
  · rw [hj1, hn 0 (by decide) (by decide), hn 2 (by decide) (by decide), hn 3 (by decide) (by decide)] at b
    rw [hj2] at a
    simp only [Bool.toNat_true, Bool.toNat_false] at a b
    omega
  · rw [hj1, hn 0 (by decide) (by decide), hn 1 (by decide) (by decide), hn 3 (by decide) (by decide)] at b
    rw [hj2] at a
    simp only [Bool.toNat_true, Bool.toNat_false] at a b
    omega
  · rw [hj1, hn 0 (by decide) (by decide), hn 1 (by decide) (by decide), hn 2 (by decide) (by decide)] at b
    rw [hj2] at a
    simp only [Bool.toNat_true, Bool.toNat_false] at a b
    omega
theorem com_put {P : Nat → Int32} {l s : Nat} {x : Int32} (hl : l < 19) (h : anyN (thF l s) 4 = true) (h1 : P s = -1) : mCom (upd P s x) l 4 = mCom P l 4 &&& mMk x := by
  obtain ⟨j, hj, e⟩ := anyN_iff.mp h
  have e := of_decide_eq_true e
  have hn : ∀ k, k < 4 → ¬ k = j → upd P s x (sqr l k) = P (sqr l k) := fun k hk hkj => pk_un (fun q => hkj (sqr_inj l hl k hk j hj (q.trans e.symm)))
  have hj1 : upd P s x (sqr l j) = x := by rw [e]; exact pk_us
  have hj2 : P (sqr l j) = -1 := by rw [e]; exact h1
  refine bx32 (fun i hi => ?_)
  rw [b_and, com_bit _ l i hi, com_bit _ l i hi]
  have m1 := mMk_bit0 i hi
  have hc : j = 0 ∨ j = 1 ∨ j = 2 ∨ j = 3 := by omega
  rcases hc with rfl | rfl | rfl | rfl
  · rw [hj1, hj2, m1, hn 1 (by decide) (by decide), hn 2 (by decide) (by decide), hn 3 (by decide) (by decide)]
    cases decide (i < 8) <;> cases (mMk x).toBitVec.getLsbD i <;> cases (mMk (P (sqr l 1))).toBitVec.getLsbD i <;> cases (mMk (P (sqr l 2))).toBitVec.getLsbD i <;> cases (mMk (P (sqr l 3))).toBitVec.getLsbD i <;> rfl
  · rw [hj1, hj2, m1, hn 0 (by decide) (by decide), hn 2 (by decide) (by decide), hn 3 (by decide) (by decide)]
    cases decide (i < 8) <;> cases (mMk x).toBitVec.getLsbD i <;> cases (mMk (P (sqr l 0))).toBitVec.getLsbD i <;> cases (mMk (P (sqr l 2))).toBitVec.getLsbD i <;> cases (mMk (P (sqr l 3))).toBitVec.getLsbD i <;> rfl
  · rw [hj1, hj2, m1, hn 0 (by decide) (by decide), hn 1 (by decide) (by decide), hn 3 (by decide) (by decide)]
    cases decide (i < 8) <;> cases (mMk x).toBitVec.getLsbD i <;> cases (mMk (P (sqr l 0))).toBitVec.getLsbD i <;> cases (mMk (P (sqr l 1))).toBitVec.getLsbD i <;> cases (mMk (P (sqr l 3))).toBitVec.getLsbD i <;> rfl
  · rw [hj1, hj2, m1, hn 0 (by decide) (by decide), hn 1 (by decide) (by decide), hn 2 (by decide) (by decide)]
    cases decide (i < 8) <;> cases (mMk x).toBitVec.getLsbD i <;> cases (mMk (P (sqr l 0))).toBitVec.getLsbD i <;> cases (mMk (P (sqr l 1))).toBitVec.getLsbD i <;> cases (mMk (P (sqr l 2))).toBitVec.getLsbD i <;> rfl
/-- no line is won -/
def NW (w : Int32) (P : Nat → Int32) : Prop := ∀ l, l < mMany w → ¬ (mFul P l 4 = 4 ∧ ¬ mCom P l 4 = 0)
theorem mWl_iff {P : Nat → Int32} {s l : Nat} : mWl P s l = true ↔ anyN (thF l s) 4 = true ∧ (mFul P l 4 = 4 ∧ ¬ mCom P l 4 = 0) := by
  unfold mWl
  rw [Bool.and_eq_true, Bool.and_eq_true, decide_eq_true_eq, decide_eq_true_eq]
theorem won_eqC {P : Nat → Int32} {f : Int32} {d : Int64} {w : Int32} {s : Nat} (h : KB P f d) (hnw : ∀ l, l < mMany w → anyN (thF l s) 4 = false → ¬ (mFul P l 4 = 4 ∧ ¬ mCom P l 4 = 0)) : ∀ k, k ≤ mMany w → qWonC f d k = mWonC P s k
  | 0, _ => rfl
  | k + 1, hk => by
    have hl : k < 19 := by have := (mMany_le w).2; omega
    have ih := won_eqC h hnw k (by omega)
    rw [qWonC, mWonC, ih, ln_com h hl]
    by_cases c : mFul P k 4 = 4 ∧ ¬ mCom P k 4 = 0
    · have t : anyN (thF k s) 4 = true := by
        cases e : anyN (thF k s) 4
        · exact absurd c (hnw k (by omega) e)
        · rfl
      rw [if_pos ⟨(ln_full h hl).mpr c.1, c.2⟩, if_pos (mWl_iff.mpr ⟨t, c⟩)]
    · rw [if_neg (fun q => c ⟨(ln_full h hl).mp q.1, q.2⟩), if_neg (fun q => c (mWl_iff.mp q).2)]
      rfl
theorem won_eq {P : Nat → Int32} {f : Int32} {d : Int64} {w : Int32} {s : Nat} (h : KB P f d) (hnw : ∀ l, l < mMany w → anyN (thF l s) 4 = false → ¬ (mFul P l 4 = 4 ∧ ¬ mCom P l 4 = 0)) : qWon f d w = mWon w P s := won_eqC h hnw (mMany w) (Nat.le_refl _)
theorem NW_off {w : Int32} {P : Nat → Int32} {s : Nat} {x : Int32} (h : NW w P) : ∀ l, l < mMany w → anyN (thF l s) 4 = false → ¬ (mFul (upd P s x) l 4 = 4 ∧ ¬ mCom (upd P s x) l 4 = 0) := by
  intro l hl ht
  rw [ful_congr 4 (upd_off ht), com_congr 4 (upd_off ht)]
  exact h l hl
theorem wonC_pos {P : Nat → Int32} {s : Nat} : ∀ k, 0 < mWonC P s k ↔ anyN (mWl P s) k = true
  | 0 => ⟨fun h => absurd h (Nat.lt_irrefl 0), fun h => by cases h⟩
  | k + 1 => by
    have ih := wonC_pos (P := P) (s := s) k
    rw [mWonC, anyN, Bool.or_eq_true, ← ih]
    by_cases e : mWl P s k = true
    · rw [if_pos e]; exact ⟨fun _ => Or.inr e, fun _ => by omega⟩
    · rw [if_neg e]; exact ⟨fun h => Or.inl (by omega), fun h => h.elim (fun q => by omega) (fun q => absurd q e)⟩
/-- after a placing that wins nothing, no line is won -/
theorem NW_put {w : Int32} {P : Nat → Int32} {s : Nat} {x : Int32} (h : NW w P) (hw : ¬ 0 < mWon w (upd P s x) s) : NW w (upd P s x) := by
  intro l hl q
  cases e : anyN (thF l s) 4
  · exact NW_off h l hl e q
  · exact hw ((wonC_pos _).mpr (anyN_t hl (mWl_iff.mpr ⟨e, q⟩)))
theorem ex_empty {P : Nat → Int32} {l : Nat} (h : ¬ mFul P l 4 = 4) : ∃ k, k < 4 ∧ P (sqr l k) = -1 := by
  have a := ful_e P l
  apply Classical.byContradiction
  intro hn
  have g : ∀ k, k < 4 → em P l k = false := fun k hk => decide_eq_false (fun q => hn ⟨k, hk, q⟩)
  rw [g 0 (by decide), g 1 (by decide), g 2 (by decide), g 3 (by decide)] at a
  exact h a
section WN
variable {P : Nat → Int32} {f : Int32} {d : Int64} {w : Int32} {p : Nat}
/-- the line l would be won by p -/
def wlp (P : Nat → Int32) (p l : Nat) : Bool := decide (mFul P l 4 = 3) && decide (¬ mCom P l 4 &&& mMk (nI p) = 0)
theorem wins_eq (hp : p < 16) {s : Nat} (hs : s < 16) : mWins w P p s = (decide (P s = -1) && anyN (fun l => wlp P p l && anyN (thF l s) 4) (mMany w)) := by
  unfold mWins
  by_cases h1 : P s = -1
  · rw [decide_eq_true h1, Bool.true_and, Bool.true_and]
    have key : ∀ l, l < mMany w → (mWl (upd P s (nI p)) s l = true ↔ (wlp P p l && anyN (thF l s) 4) = true) := by
      intro l hl
      have hl19 : l < 19 := by have := (mMany_le w).2; omega
      rw [mWl_iff, Bool.and_eq_true]
      unfold wlp
      rw [Bool.and_eq_true, decide_eq_true_eq, decide_eq_true_eq]
      constructor
      · rintro ⟨t, a, b⟩
        rw [ful_put hl19 t h1 (nI_n1 p hp)] at a
        rw [com_put hl19 t h1] at b
        exact ⟨⟨by omega, b⟩, t⟩
      · rintro ⟨⟨a, b⟩, t⟩
        rw [ful_put hl19 t h1 (nI_n1 p hp), com_put hl19 t h1]
        exact ⟨t, by omega, b⟩
    have : (0 < mWon w (upd P s (nI p)) s) ↔ anyN (fun l => wlp P p l && anyN (thF l s) 4) (mMany w) = true := by
      refine (wonC_pos _).trans ?_
      rw [anyN_iff, anyN_iff]
      exact ⟨fun ⟨l, a, b⟩ => ⟨l, a, (key l a).mp b⟩, fun ⟨l, a, b⟩ => ⟨l, a, (key l a).mpr b⟩⟩
    cases e : anyN (fun l => wlp P p l && anyN (thF l s) 4) (mMany w)
    · exact decide_eq_false (fun q => by rw [this.mp q] at e; cases e)
    · exact decide_eq_true (this.mpr e)
  · rw [decide_eq_false h1, Bool.false_and, Bool.false_and]
theorem winS_bit : ∀ k, k ≤ 16 → ∀ i, (mWinS w P p k).toBitVec.getLsbD i = (decide (i < k) && mWins w P p i)
  | 0, _, i => by rw [show mWinS w P p 0 = 0 from rfl, b_0]; simp
  | k + 1, hk, i => by
    have ih := winS_bit k (by omega) i
    rw [mWinS, b_or, ih]
    have e : (if mWins w P p k = true then (1 : Int32) <<< (nI k &&& 31) else 0).toBitVec.getLsbD i = (mWins w P p k && decide (k = i)) := b_if (mWins w P p k) (s := k) (by omega) i
    rw [e]
    by_cases h : k = i
    · subst h
      simp
    · rw [decide_eq_false h, Bool.and_false, Bool.or_false]
      have : decide (i < k) = decide (i < k + 1) := decide_eq_decide.mpr ⟨fun q => by omega, fun q => by omega⟩
      rw [this]
theorem qwinS_bit (h : KB P f d) (hp : p < 16) : ∀ k, k ≤ 19 → ∀ i, i < 32 → (qWinS f d (qOwn (nI p)) k).toBitVec.getLsbD i = anyN (fun l => wlp P p l && (anyN (thF l i) 4 && !f.toBitVec.getLsbD i)) k
  | 0, _, i, _ => b_0 i
  | k + 1, hk, i, hi => by
    have ih := qwinS_bit h hp k (by omega) i hi
    have hl : k < 19 := by omega
    rw [qWinS, anyN, ← ih, ln_lacks h hl, ln_com h hl, own_mk p hp]
    have hb : (LM k &&& (f ^^^ (-1 : Int32))).toBitVec.getLsbD i = (anyN (thF k i) 4 && !f.toBitVec.getLsbD i) := by rw [b_and, b_not f hi, thr_bit hl hi]
    by_cases c : mFul P k 4 = 3 ∧ ¬ mCom P k 4 &&& mMk (nI p) = 0
    · rw [if_pos ⟨decide_eq_true c.1, c.2⟩, b_or, hb]
      unfold wlp
      rw [decide_eq_true c.1, decide_eq_true c.2, Bool.true_and, Bool.true_and]
    · rw [if_neg (fun q => c ⟨of_decide_eq_true q.1, q.2⟩)]
      have : wlp P p k = false := by
        cases e : wlp P p k
        · rfl
        · unfold wlp at e
          rw [Bool.and_eq_true, decide_eq_true_eq, decide_eq_true_eq] at e
          exact absurd e c
      rw [this, Bool.false_and, Bool.or_false]
theorem f_hi (h : KB P f d) {i : Nat} (hi : 16 ≤ i) : f.toBitVec.getLsbD i = false := by
  have h1 := h.2.2.1
  show f.toBitVec.toNat.testBit i = false
  exact Nat.testBit_lt_two_pow (Nat.lt_of_lt_of_le h1 (Nat.pow_le_pow_right (n := 2) (by decide) hi))
/-- the squares on which a piece wins -/
theorem win_eq (h : KB P f d) (hp : p < 16) : qWin f d w (nI p) = mWinS w P p 16 := by
  refine bx32 (fun i hi => ?_)
  unfold qWin
  rw [qwinS_bit h hp (qLn w) (qLn_le w).2 i hi, winS_bit 16 (Nat.le_refl 16) i]
  by_cases h16 : i < 16
  · rw [decide_eq_true h16, Bool.true_and, wins_eq hp h16, KB_f h h16, Bool.not_not]
    cases e : decide (P i = -1)
    · rw [Bool.false_and]
      cases e2 : anyN (fun l => wlp P p l && (anyN (thF l i) 4 && false)) (qLn w)
      · rfl
      · obtain ⟨l, a, b⟩ := anyN_iff.mp e2
        simp at b
    · rw [Bool.true_and]
      simp only [Bool.and_true]
      rfl
  · rw [decide_eq_false h16, Bool.false_and]
    cases e2 : anyN (fun l => wlp P p l && (anyN (thF l i) 4 && !f.toBitVec.getLsbD i)) (qLn w)
    · rfl
    · obtain ⟨l, a, b⟩ := anyN_iff.mp e2
      have hl : l < 19 := by have := (qLn_le w).2; omega
      simp only [Bool.and_eq_true] at b
      obtain ⟨j, hj, ej⟩ := anyN_iff.mp b.2.1
      have := of_decide_eq_true ej
      have := sqr_lt l hl j hj
      omega
/-- p wins nowhere -/
def noW (w : Int32) (P : Nat → Int32) (p : Nat) : Prop := ∀ l, l < mMany w → mFul P l 4 = 3 → mCom P l 4 &&& mMk (nI p) = 0
theorem or_0 {x y : Int32} : x ||| y = 0 ↔ x = 0 ∧ y = 0 := by
  constructor
  · intro h
    have g : ∀ i, i < 32 → x.toBitVec.getLsbD i = false ∧ y.toBitVec.getLsbD i = false := fun i _ => by
      have := congrArg (fun z : Int32 => z.toBitVec.getLsbD i) h
      simp only [b_or, b_0, Bool.or_eq_false_iff] at this
      exact this
    exact ⟨bx32 (fun i hi => by rw [(g i hi).1, b_0]), bx32 (fun i hi => by rw [(g i hi).2, b_0])⟩
  · rintro ⟨rfl, rfl⟩; rfl
theorem win_0C (h : KB P f d) (hp : p < 16) : ∀ k, k ≤ 19 → (qWinS f d (qOwn (nI p)) k = 0 ↔ ∀ l, l < k → mFul P l 4 = 3 → mCom P l 4 &&& mMk (nI p) = 0)
  | 0, _ => ⟨fun _ l hl => absurd hl (Nat.not_lt_zero l), fun _ => rfl⟩
  | k + 1, hk => by
    have ih := win_0C h hp k (by omega)
    have hl : k < 19 := by omega
    rw [qWinS, ln_lacks h hl, ln_com h hl, own_mk p hp]
    by_cases c : mFul P k 4 = 3 ∧ ¬ mCom P k 4 &&& mMk (nI p) = 0
    · rw [if_pos ⟨decide_eq_true c.1, c.2⟩, or_0]
      constructor
      · intro q
        exact absurd ((ln_full h hl).mp q.2) (by rw [c.1]; decide)
      · intro q
        exact absurd (q k (by omega) c.1) c.2
    · rw [if_neg (fun q => c ⟨of_decide_eq_true q.1, q.2⟩), ← own_mk p hp, ih]
      constructor
      · intro q l hl' h3
        rcases Nat.lt_succ_iff_lt_or_eq.mp hl' with z | z
        · rw [own_mk p hp]; exact (own_mk p hp) ▸ q l z h3
        · subst z
          rw [own_mk p hp]
          exact Classical.byContradiction (fun z => c ⟨h3, z⟩)
      · intro q l hl' h3
        rw [← own_mk p hp]
        exact q l (by omega) h3
end WN
