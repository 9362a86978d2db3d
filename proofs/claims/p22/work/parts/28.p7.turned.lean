/-! pure: turned and levelled boards, bit by bit -/
theorem each_bit : ∀ j, j < 64 → (281479271743489 : Int64).toBitVec.getLsbD j = decide (j % 16 = 0) := by decide +kernel
theorem sh_e : ∀ k, k < 16 → ((nI k).toInt64.toUInt64 &&& Int64.toUInt64 63).toBitVec % 64 = BitVec.ofNat 64 k := by decide +kernel
theorem sl_e : ∀ k, k < 16 → ((nI k).toInt64 &&& 63).toBitVec.smod 64 = BitVec.ofNat 64 k := by decide +kernel
theorem sl16_e : ∀ k, k < 4 → (((16 : Int32) * nI k).toInt64 &&& 63).toBitVec.smod 64 = BitVec.ofNat 64 (16 * k) := by decide +kernel
theorem sr_bit (x : Int64) {k : Nat} (hk : k < 16) (j : Nat) : ((x.toUInt64 >>> ((nI k).toInt64.toUInt64 &&& Int64.toUInt64 63)).toInt64).toBitVec.getLsbD j = x.toBitVec.getLsbD (k + j) := by
  show ((x.toUInt64 >>> ((nI k).toInt64.toUInt64 &&& Int64.toUInt64 63)).toBitVec).getLsbD j = _
  rw [UInt64.toBitVec_shiftRight, sh_e k hk, BitVec.ushiftRight_eq', BitVec.getLsbD_ushiftRight, BitVec.toNat_ofNat, Nat.mod_eq_of_lt (by omega : k < 2 ^ 64)]
  rfl
theorem sl_bit {x y : Int64} {n : Nat} (h : y.toBitVec.smod 64 = BitVec.ofNat 64 n) (hn : n < 64) {j : Nat} (hj : j < 64) : (x <<< y).toBitVec.getLsbD j = (!decide (j < n) && x.toBitVec.getLsbD (j - n)) := by
  rw [Int64.toBitVec_shiftLeft, h, BitVec.shiftLeft_eq', BitVec.getLsbD_shiftLeft, BitVec.toNat_ofNat, Nat.mod_eq_of_lt (by omega : n < 2 ^ 64), decide_eq_true hj, Bool.true_and]
theorem trn_term (x : Int64) {s u m i : Nat} (hs : s < 16) (hu : u < 16) (hm : m < 4) (hi : i < 16) : ((((x.toUInt64 >>> ((nI s).toInt64.toUInt64 &&& Int64.toUInt64 63)).toInt64) &&& (281479271743489 : Int64)) <<< ((nI u).toInt64 &&& 63)).toBitVec.getLsbD (16 * m + i) = (decide (u = i) && x.toBitVec.getLsbD (16 * m + s)) := by
  rw [sl_bit (sl_e u hu) (by omega) (by omega), Int64.toBitVec_and, BitVec.getLsbD_and, sr_bit x hs, each_bit _ (by omega)]
  by_cases e : u = i
  · subst e
    rw [decide_eq_false (p := 16 * m + u < u) (by omega), show s + (16 * m + u - u) = 16 * m + s by omega, decide_eq_true (p := (16 * m + u - u) % 16 = 0) (by omega), decide_eq_true (p := u = u) rfl, Bool.and_true]
    rfl
  · rw [decide_eq_false e, Bool.false_and]
    by_cases q : 16 * m + i < u
    · rw [decide_eq_true q]; rfl
    · rw [decide_eq_false (p := (16 * m + i - u) % 16 = 0) (by omega), Bool.and_false, Bool.and_false]
theorem tsq_in : ∀ t, t < 8 → ∀ s, s < 16 → tsq s t < 16 := by decide +kernel
theorem tsq_inj : ∀ t, t < 8 → ∀ s, s < 16 → ∀ r, r < 16 → tsq s t = tsq r t → s = r := by decide +kernel
theorem tsq_sur : ∀ t, t < 8 → ∀ i, i < 16 → ∃ s, s < 16 ∧ tsq s t = i := by decide +kernel
theorem trn_bit (x : Int64) {t m i : Nat} (ht : t < 8) (hm : m < 4) (hi : i < 16) : ∀ k, k ≤ 16 → (qTrn x t k).toBitVec.getLsbD (16 * m + i) = anyN (fun s => decide (tsq s t = i) && x.toBitVec.getLsbD (16 * m + s)) k
  | 0, _ => by
    show (0 : Int64).toBitVec.getLsbD _ = false
    rw [show (0 : Int64).toBitVec = 0#64 from rfl]
    exact BitVec.getLsbD_zero
  | k + 1, hk => by
    rw [qTrn, Int64.toBitVec_or, BitVec.getLsbD_or, trn_bit x ht hm hi k (by omega), trn_term x (by omega) (tsq_in t ht k (by omega)) hm hi]
    rfl
theorem turned_bit (x : Int64) {t m s : Nat} (ht : t < 8) (hm : m < 4) (hs : s < 16) : (qTurned x t).toBitVec.getLsbD (16 * m + tsq s t) = x.toBitVec.getLsbD (16 * m + s) := by
  unfold qTurned
  rw [trn_bit x ht hm (tsq_in t ht s hs) 16 (Nat.le_refl 16)]
  cases e : x.toBitVec.getLsbD (16 * m + s)
  · cases e2 : anyN (fun r => decide (tsq r t = tsq s t) && x.toBitVec.getLsbD (16 * m + r)) 16
    · rfl
    · obtain ⟨r, hr, q⟩ := anyN_iff.mp e2
      rw [Bool.and_eq_true, decide_eq_true_eq] at q
      have := tsq_inj t ht r hr s hs q.1
      subst this
      rw [e] at q
      exact absurd q.2 (by decide)
  · exact anyN_t hs (by rw [decide_eq_true rfl, e]; rfl)
/-- the turned set of filled squares -/
theorem tfil_bit {f : Int32} (hf : ∀ i, 16 ≤ i → f.toBitVec.getLsbD i = false) {t s : Nat} (ht : t < 8) (hs : s < 16) : (qTurned f.toInt64 t).toInt32.toBitVec.getLsbD (tsq s t) = f.toBitVec.getLsbD s := by
  have hi := tsq_in t ht s hs
  rw [Int64.toBitVec_toInt32, BitVec.signExtend_eq_setWidth_of_le _ (by decide), BitVec.getLsbD_setWidth, decide_eq_true (show tsq s t < 32 by omega), Bool.true_and]
  have := turned_bit f.toInt64 (m := 0) ht (by decide) hs
  rw [Nat.mul_zero, Nat.zero_add, Nat.zero_add] at this
  rw [this, Int32.toBitVec_toInt64, BitVec.getLsbD_signExtend, decide_eq_true (show s < 64 by omega), Bool.true_and, if_pos (show s < 32 by omega)]
theorem tfil_hi {f : Int32} (hf : ∀ i, 16 ≤ i → f.toBitVec.getLsbD i = false) {t i : Nat} (ht : t < 8) (h1 : 16 ≤ i) (h2 : i < 32) : (qTurned f.toInt64 t).toInt32.toBitVec.getLsbD i = false := by
  rw [Int64.toBitVec_toInt32, BitVec.signExtend_eq_setWidth_of_le _ (by decide), BitVec.getLsbD_setWidth, decide_eq_true h2, Bool.true_and]
  obtain ⟨s, hs, e⟩ := tsq_sur t ht (i - 16) (by omega)
  have := turned_bit f.toInt64 (m := 1) ht (by decide) hs
  rw [show 16 * 1 + tsq s t = i by omega] at this
  rw [this, Int32.toBitVec_toInt64, BitVec.getLsbD_signExtend, decide_eq_true (show 16 * 1 + s < 64 by omega), Bool.true_and, if_pos (show 16 * 1 + s < 32 by omega)]
  exact hf _ (by omega)
section TN
variable {P T : Nat → Int32} {f fo : Int32} {d dd : Int64} {t : Nat}
theorem tfil_iff (h : KB P f d) (ho : KB T fo dd) (ht : t < 8) : (qTurned f.toInt64 t).toInt32 = fo ↔ ∀ s, s < 16 → (P s = -1 ↔ T (tsq s t) = -1) := by
  have hf : ∀ i, 16 ≤ i → f.toBitVec.getLsbD i = false := fun i hi => f_hi h hi
  constructor
  · intro q s hs
    have a := tfil_bit hf ht hs
    rw [q, KB_f ho (tsq_in t ht s hs), KB_f h hs] at a
    have a : decide (T (tsq s t) = -1) = decide (P s = -1) := by
      cases x : decide (T (tsq s t) = -1) <;> cases y : decide (P s = -1) <;> rw [x, y] at a <;> first | rfl | exact absurd a (by decide)
    exact (decide_eq_decide.mp a).symm
  · intro q
    refine bx32 (fun i hi => ?_)
    by_cases h16 : i < 16
    · obtain ⟨s, hs, e⟩ := tsq_sur t ht i h16
      subst e
      rw [tfil_bit hf ht hs, KB_f ho (tsq_in t ht s hs), KB_f h hs, decide_eq_decide.mpr (q s hs)]
    · rw [tfil_hi hf ht (by omega) hi, f_hi ho (by omega)]
/-- the lowest square of a set -/
theorem low_ex {x : Int32} (hx : ∀ i, 16 ≤ i → x.toBitVec.getLsbD i = false) (h0 : ¬ x = 0) : ∃ s, s < 16 ∧ x.toBitVec.getLsbD s = true ∧ x &&& -x = qBit (nI s) := by
  have ex : ∃ s, x.toBitVec.getLsbD s = true := by
    apply Classical.byContradiction
    intro q
    apply h0
    refine bx32 (fun i hi => ?_)
    rw [b_0]
    cases e : x.toBitVec.getLsbD i
    · rfl
    · exact absurd ⟨i, e⟩ q
  have key : ∀ n, (∀ j, j < n → x.toBitVec.getLsbD j = false) ∨ ∃ s, s < n ∧ x.toBitVec.getLsbD s = true ∧ ∀ j, j < s → x.toBitVec.getLsbD j = false := by
    intro n
    induction n with
    | zero => exact Or.inl (fun j hj => absurd hj (Nat.not_lt_zero j))
    | succ n ih =>
      rcases ih with ih | ⟨s, a, b, c⟩
      · cases e : x.toBitVec.getLsbD n
        · refine Or.inl (fun j hj => ?_)
          rcases Nat.lt_succ_iff_lt_or_eq.mp hj with z | z
          · exact ih j z
          · rw [z]; exact e
        · exact Or.inr ⟨n, Nat.lt_succ_self n, e, ih⟩
      · exact Or.inr ⟨s, by omega, b, c⟩
  obtain ⟨s1, e1⟩ := ex
  rcases key (s1 + 1) with q | ⟨s, a, b, c⟩
  · rw [q s1 (Nat.lt_succ_self s1)] at e1
    cases e1
  · have hs : s < 16 := by
      apply Classical.byContradiction
      intro q
      rw [hx s (by omega)] at b
      cases b
    refine ⟨s, hs, b, bx32 (fun i hi => ?_)⟩
    rw [b_and, qBit_get hs, Int32.toBitVec_neg, BitVec.getLsbD_neg]
    by_cases e : s = i
    · subst e
      have : ¬ ∃ j, j < s ∧ x.toBitVec.getLsbD j = true := fun ⟨j, hj, q⟩ => by rw [c j hj] at q; cases q
      simp [b, this, hi]
    · rw [decide_eq_false e]
      cases z : x.toBitVec.getLsbD i
      · rfl
      · have l : s < i := by
          apply Classical.byContradiction
          intro q
          rw [c i (by omega)] at z
          cases z
        have : ∃ j, j < i ∧ x.toBitVec.getLsbD j = true := ⟨s, l, b⟩
        simp [hi, this]
end TN
