/-! pure: levelled marks; which renaming fits -/
theorem i64_hi {x : Int32} (hx : ∀ i, 16 ≤ i → x.toBitVec.getLsbD i = false) {n : Nat} (hn : n < 64) : x.toInt64.toBitVec.getLsbD n = x.toBitVec.getLsbD n := by
  rw [Int32.toBitVec_toInt64, BitVec.getLsbD_signExtend, decide_eq_true hn, Bool.true_and]
  by_cases h : n < 32
  · rw [if_pos h]
  · rw [if_neg h, BitVec.msb_eq_getLsbD_last]
    rw [hx n (by omega)]
    exact hx _ (by decide)
theorem hb_and (x : Int32) {s : Nat} : x &&& qBit (nI s) = 0 ↔ qHas x (nI s) = false := by
  show _ ↔ decide (¬ x &&& qBit (nI s) = 0) = false
  rw [decide_eq_false_iff_not, Classical.not_not]
theorem lvl_bit (d : Int64) {x : Int32} (hx : ∀ i, 16 ≤ i → x.toBitVec.getLsbD i = false) {s : Nat} (hs : s < 16) (hl : x &&& -x = qBit (nI s)) {m i : Nat} (hm : m < 4) (hi : i < 16) : ∀ k, k ≤ 4 → (qLvC d x k).toBitVec.getLsbD (16 * m + i) = (d.toBitVec.getLsbD (16 * m + i) ^^ (decide (m < k) && (d.toBitVec.getLsbD (16 * m + s) && x.toBitVec.getLsbD i)))
  | 0, _ => by
    rw [decide_eq_false (Nat.not_lt_zero m), Bool.false_and, Bool.xor_false]
    rfl
  | k + 1, hk => by
    have ih := lvl_bit d hx hs hl hm hi k (by omega)
    have ht : (x.toInt64 <<< (((16 : Int32) * nI k).toInt64 &&& 63)).toBitVec.getLsbD (16 * m + i) = (decide (m = k) && x.toBitVec.getLsbD i) := by
      rw [sl_bit (sl16_e k (by omega)) (by omega) (by omega)]
      by_cases e : m = k
      · subst e
        rw [decide_eq_false (p := 16 * m + i < 16 * m) (by omega), show 16 * m + i - 16 * m = i by omega, decide_eq_true (p := m = m) rfl, i64_hi hx (by omega)]
        rfl
      · rw [decide_eq_false e, Bool.false_and]
        by_cases q : 16 * m + i < 16 * k
        · rw [decide_eq_true q]; rfl
        · rw [i64_hi hx (by omega), hx _ (by omega), Bool.and_false]
    have hc : qHas (qOne d (nI k)) (nI s) = d.toBitVec.getLsbD (16 * k + s) := by rw [qHas_bv _ hs, qOne_bit d (by omega) hs]
    rw [qLvC, hl]
    by_cases c : qOne d (nI k) &&& qBit (nI s) = 0
    · rw [if_pos c, ih]
      have c := (hb_and _).mp c
      rw [hc] at c
      by_cases e : m = k
      · subst e
        rw [c, Bool.false_and, Bool.and_false, Bool.and_false]
      · rw [decide_eq_decide.mpr (show m < k ↔ m < k + 1 by omega)]
    · rw [if_neg c, Int64.toBitVec_xor, BitVec.getLsbD_xor, ih, ht]
      have c : d.toBitVec.getLsbD (16 * k + s) = true := by
        cases z : d.toBitVec.getLsbD (16 * k + s)
        · rw [z] at hc
          exact absurd ((hb_and _).mpr hc) c
        · rfl
      by_cases e : m = k
      · subst e
        rw [c, decide_eq_false (Nat.lt_irrefl m), decide_eq_true (Nat.lt_succ_self m), decide_eq_true (p := m = m) rfl, Bool.false_and, Bool.xor_false, Bool.true_and, Bool.true_and]
      · rw [decide_eq_false e, Bool.false_and, Bool.xor_false, decide_eq_decide.mpr (show m < k ↔ m < k + 1 by omega)]
theorem lev_bit (d : Int64) {x : Int32} (hx : ∀ i, 16 ≤ i → x.toBitVec.getLsbD i = false) {s : Nat} (hs : s < 16) (hl : x &&& -x = qBit (nI s)) {m i : Nat} (hm : m < 4) (hi : i < 16) : (qOne (qLev d x) (nI m)).toBitVec.getLsbD i = (d.toBitVec.getLsbD (16 * m + i) ^^ (d.toBitVec.getLsbD (16 * m + s) && x.toBitVec.getLsbD i)) := by
  rw [qOne_bit _ hm hi]
  unfold qLev
  rw [lvl_bit d hx hs hl hm hi 4 (Nat.le_refl 4), decide_eq_true hm, Bool.true_and]
theorem one_hi (d : Int64) (m : Int32) {i : Nat} (hi : i < 32) (h : 16 ≤ i) : (qOne d m).toBitVec.getLsbD i = false := by
  unfold qOne
  have : ∀ i, i < 32 → 16 ≤ i → (65535 : Int32).toBitVec.getLsbD i = false := by decide +kernel
  rw [b_and, this i hi h, Bool.and_false]
section CL
variable {P T : Nat → Int32} {f fo : Int32} {d dd : Int64} {t : Nat}
theorem KB_bit (h : KB P f d) {m s : Nat} (hm : m < 4) (hs : s < 16) : d.toBitVec.getLsbD (16 * m + s) = pbit (P s) m := by
  rw [← h.2.2.2 m hm s hs, qHas_bv _ hs, qOne_bit d hm hs]
theorem pbit_1 (m : Nat) : pbit (-1) m = false := by
  unfold pbit
  rw [decide_eq_false (p := ¬ (-1 : Int32) = -1) (by decide), Bool.false_and]
/-- when are a mark of the other board and one of this, turned, alike -/
theorem col_iff (h : KB P f d) (ho : KB T fo dd) (ht : t < 8) (hsp : ∀ s, s < 16 → (P s = -1 ↔ T (tsq s t) = -1)) {r0 : Nat} (hr0 : r0 < 16) (hP0 : ¬ P r0 = -1) (hl : fo &&& -fo = qBit (nI (tsq r0 t))) {j k : Nat} (hj : j < 4) (hk : k < 4) :
    qOne (qLev dd fo) (nI j) = qOne (qLev (qTurned d t) fo) (nI k) ↔ ∀ s, s < 16 → ¬ P s = -1 → (pbit (T (tsq s t)) j ^^ pbit (T (tsq r0 t)) j) = (pbit (P s) k ^^ pbit (P r0) k) := by
  have hx : ∀ i, 16 ≤ i → fo.toBitVec.getLsbD i = false := fun i hi => f_hi ho hi
  have h0 := tsq_in t ht r0 hr0
  have a : ∀ s, s < 16 → (qOne (qLev dd fo) (nI j)).toBitVec.getLsbD (tsq s t) = (pbit (T (tsq s t)) j ^^ (pbit (T (tsq r0 t)) j && !decide (P s = -1))) := fun s hs => by
    have hi := tsq_in t ht s hs
    rw [lev_bit dd hx h0 hl hj hi, KB_bit ho hj hi, KB_bit ho hj h0, KB_f ho hi, decide_eq_decide.mpr (hsp s hs).symm]
  have b : ∀ s, s < 16 → (qOne (qLev (qTurned d t) fo) (nI k)).toBitVec.getLsbD (tsq s t) = (pbit (P s) k ^^ (pbit (P r0) k && !decide (P s = -1))) := fun s hs => by
    have hi := tsq_in t ht s hs
    rw [lev_bit _ hx h0 hl hk hi, turned_bit d ht hk hs, turned_bit d ht hk hr0, KB_bit h hk hs, KB_bit h hk hr0, KB_f ho hi, decide_eq_decide.mpr (hsp s hs).symm]
  constructor
  · intro q s hs hn
    have a := a s hs
    have b := b s hs
    rw [q, b, decide_eq_false hn, Bool.not_false, Bool.and_true, Bool.and_true] at a
    exact a.symm
  · intro q
    refine bx32 (fun i hi => ?_)
    by_cases h16 : i < 16
    · obtain ⟨s, hs, e⟩ := tsq_sur t ht i h16
      subst e
      rw [a s hs, b s hs]
      by_cases c : P s = -1
      · rw [decide_eq_true c, Bool.not_true, Bool.and_false, Bool.and_false, Bool.xor_false, Bool.xor_false, c, (hsp s hs).mp c, pbit_1, pbit_1]
      · rw [decide_eq_false c, Bool.not_false, Bool.and_true, Bool.and_true]
        exact q s hs c
    · rw [one_hi _ _ hi (by omega), one_hi _ _ hi (by omega)]
end CL
theorem rn_bit : ∀ y, y < 256 → isW y = true → ∀ p, p < 16 → ∀ k, k < 4 → (mRnC (nI p) (dgr y) 4).toBitVec.getLsbD (dg y k) = (nI p).toBitVec.getLsbD k := by decide +kernel
theorem rn_lt : ∀ y, y < 256 → isW y = true → ∀ p, p < 16 → (mRnC (nI p) (dgr y) 4).toBitVec.toNat < 2 ^ 4 := by decide +kernel
theorem w_sur : ∀ y, y < 256 → isW y = true → ∀ i, i < 4 → ∃ k, k < 4 ∧ dg y k = i := by decide +kernel
theorem dg_lt (y k : Nat) : dg y k < 4 := Nat.mod_lt _ (by decide)
theorem b_xor (x y : Int32) (i : Nat) : (x ^^^ y).toBitVec.getLsbD i = (x.toBitVec.getLsbD i ^^ y.toBitVec.getLsbD i) := by rw [Int32.toBitVec_xor, BitVec.getLsbD_xor]
theorem n4_hi {x : Int32} (h : x.toBitVec.toNat < 2 ^ 4) {i : Nat} (hi : 4 ≤ i) : x.toBitVec.getLsbD i = false := by
  show x.toBitVec.toNat.testBit i = false
  exact Nat.testBit_lt_two_pow (Nat.lt_of_lt_of_le h (Nat.pow_le_pow_right (n := 2) (by decide) hi))
theorem nI_4 : ∀ p, p < 16 → (nI p).toBitVec.toNat < 2 ^ 4 := by decide +kernel
theorem pbit_n {p : Nat} (hp : p < 16) (m : Nat) : pbit (nI p) m = (nI p).toBitVec.getLsbD m := by
  unfold pbit
  rw [decide_eq_true (nI_n1 p hp), Bool.true_and]
/-- a piece is another one renamed -/
theorem rn_iff {y p q fl : Nat} (hy : y < 256) (hw : isW y = true) (hp : p < 16) (hq : q < 16) (hfl : fl < 16) : nI q = mRn (nI p) y (nI fl) ↔ ∀ k, k < 4 → (nI q).toBitVec.getLsbD (dg y k) = ((nI p).toBitVec.getLsbD k ^^ (nI fl).toBitVec.getLsbD (dg y k)) := by
  unfold mRn
  constructor
  · intro e k hk
    rw [e, b_xor, rn_bit y hy hw p hp k hk]
  · intro e
    refine bx32 (fun i hi => ?_)
    by_cases h4 : i < 4
    · obtain ⟨k, hk, z⟩ := w_sur y hy hw i h4
      subst z
      rw [e k hk, b_xor, rn_bit y hy hw p hp k hk]
    · rw [b_xor, n4_hi (nI_4 q hq) (by omega), n4_hi (rn_lt y hy hw p hp) (by omega), n4_hi (nI_4 fl hfl) (by omega)]
      rfl
theorem n16_ex {x : Int32} (h : x.toBitVec.toNat < 2 ^ 4) : ∃ n, n < 16 ∧ x = nI n := by
  refine ⟨x.toBitVec.toNat, h, ?_⟩
  rw [← Int32.toBitVec_inj]
  apply BitVec.eq_of_toNat_eq
  rw [nI_nat _ (by omega)]
/-- sums -/
def sumN (g : Nat → Nat) : Nat → Nat
  | 0 => 0
  | k + 1 => sumN g k + g k
theorem sumN_congr {g h : Nat → Nat} : ∀ n, (∀ k, k < n → g k = h k) → sumN g n = sumN h n
  | 0, _ => rfl
  | n + 1, e => by rw [sumN, sumN, sumN_congr n (fun k hk => e k (by omega)), e n (by omega)]
theorem sumN_0 {g : Nat → Nat} (n : Nat) (h : ∀ k, k < n → g k = 0) : sumN g n = 0 := by
  induction n with
  | zero => rfl
  | succ n ih => rw [sumN, ih (fun k hk => h k (by omega)), h n (by omega)]
theorem sumN_one {F : Nat → Bool} : ∀ n, (∀ a b, a < n → b < n → F a = true → F b = true → a = b) → sumN (fun k => if F k = true then 1 else 0) n = if anyN F n = true then 1 else 0
  | 0, _ => rfl
  | n + 1, h => by
    have ih := sumN_one (F := F) n (fun a b ha hb => h a b (by omega) (by omega))
    rw [sumN, ih, anyN]
    cases e : F n
    · rw [Bool.or_false, if_neg (c := false = true) (by decide)]
      rfl
    · have z : anyN F n = false := by
        cases q : anyN F n
        · rfl
        · obtain ⟨j, hj, e2⟩ := anyN_iff.mp q
          have := h j n (by omega) (by omega) e2 e
          omega
      rw [z]; rfl
