/-! the law's own functions, pure, and what they are of the class's bits -/
def lO1 (P : Nat → Int32) (l : Nat) : Nat → Int32
  | 0 => 15
  | k + 1 => lO1 P l k &&& (if 0 ≤ P (sqr l k) then P (sqr l k) else 15)
def lZr (P : Nat → Int32) (l : Nat) : Nat → Int32
  | 0 => 15
  | k + 1 => lZr P l k &&& (if 0 ≤ P (sqr l k) then 15 - P (sqr l k) else 15)
def lSh (P : Nat → Int32) (l : Nat) : Int32 := lO1 P l 4 + 16 * lZr P l 4
def lFl (P : Nat → Int32) (l : Nat) : Nat → Nat
  | 0 => 0
  | k + 1 => if 0 ≤ P (sqr l k) then lFl P l k + 1 else lFl P l k
theorem lFl_le (P : Nat → Int32) (l : Nat) : ∀ k, lFl P l k ≤ k
  | 0 => Nat.le_refl 0
  | k + 1 => by
    have := lFl_le P l k
    unfold lFl
    split <;> omega
def lWc (P : Nat → Int32) : Nat → Nat
  | 0 => 0
  | k + 1 => if lFl P k 4 = 4 ∧ 0 < lSh P k then lWc P k + 1 else lWc P k
theorem lWc_le (P : Nat → Int32) : ∀ k, lWc P k ≤ k
  | 0 => Nat.le_refl 0
  | k + 1 => by
    have := lWc_le P k
    unfold lWc
    split <;> omega
def lHas (P : Nat → Int32) (p : Int32) (k : Nat) : Bool := anyN (fun j => decide (P j = p)) k
def setN (F : Nat → Bool) : Nat → Int32
  | 0 => 0
  | k + 1 => setN F k ||| (if F k = true then qBit (nI k) else 0)
def lWsF (P : Nat → Int32) (n : Nat) (p : Int32) (k : Nat) : Bool := !decide (0 ≤ P k) && decide (0 < lWc (upd P k p) n)
def lWs (P : Nat → Int32) (n : Nat) (p : Int32) : Int32 := setN (lWsF P n p) 16
def lSsF (P : Nat → Int32) (n : Nat) (k : Nat) : Bool := !lHas P (nI k) 16 && decide (lWs P n (nI k) = 0)
def lSs (P : Nat → Int32) (n : Nat) : Int32 := setN (lSsF P n) 16
/-- the lowest number of a set -/
def lowS (x : Int32) (k : Nat) : Prop := k ≤ 16 ∧ (∀ j, j < k → qHas x (nI j) = false) ∧ (k < 16 → qHas x (nI k) = true)
def lEmF (P : Nat → Int32) (k : Nat) : Bool := !decide (0 ≤ P k)
def lHlF (P : Nat → Int32) (n : Nat) (p : Int32) (pn : Nat) (k : Nat) : Bool := !decide (0 ≤ P k) && (decide (pn = 15) || decide (¬ lSs (upd P k p) n = 0))
-- sets
theorem setN_bit (F : Nat → Bool) (i : Nat) : ∀ k, k ≤ 16 → (setN F k).toBitVec.getLsbD i = (decide (i < k) && F i)
  | 0, _ => by
    rw [show setN F 0 = (0 : Int32) from rfl, b_0]
    simp
  | k + 1, hk => by
    rw [setN, b_or, setN_bit F i k (by omega), b_if (F k) (by omega)]
    by_cases c : k = i
    · subst c
      simp
    · rw [decide_eq_false c, Bool.and_false, Bool.or_false]
      congr 1
      exact decide_eq_decide.mpr (by omega)
theorem setN_has (F : Nat → Bool) {i : Nat} (hi : i < 16) : qHas (setN F 16) (nI i) = F i := by
  rw [qHas_bv _ hi, setN_bit F i 16 (Nat.le_refl 16), decide_eq_true hi, Bool.true_and]
theorem setN_of {F : Nat → Bool} {x : Int32} (h : ∀ i, i < 32 → x.toBitVec.getLsbD i = (decide (i < 16) && F i)) : x = setN F 16 := bx32 (fun i hi => by rw [h i hi, setN_bit F i 16 (Nat.le_refl 16)])
theorem setN_0 (F : Nat → Bool) : setN F 16 = 0 ↔ ∀ i, i < 16 → F i = false := by
  constructor
  · intro h i hi
    rw [← setN_has F hi, h, qHas_0 i hi]
  · intro h
    refine (setN_of (F := F) (x := 0) (fun i hi => ?_)).symm
    rw [b_0]
    by_cases c : i < 16
    · rw [h i c, Bool.and_false]
    · rw [decide_eq_false c, Bool.false_and]
theorem setN_t {F : Nat → Bool} {k : Nat} (h : F k = true) : setN F k ||| qBit (nI k) = setN F (k + 1) := by rw [setN, if_pos h]
theorem setN_f {F : Nat → Bool} {k : Nat} (h : F k = false) : setN F k ||| 0 = setN F (k + 1) := by rw [setN, if_neg (by rw [h]; decide)]
theorem setN_k {F : Nat → Bool} {k : Nat} (h : F k = false) : setN F k = setN F (k + 1) := by rw [← setN_f h, Int32.or_zero]
theorem low_eq {x : Int32} {a b : Nat} (ha : lowS x a) (hb : lowS x b) : a = b := by
  obtain ⟨a1, a2, a3⟩ := ha
  obtain ⟨b1, b2, b3⟩ := hb
  rcases Nat.lt_trichotomy a b with z | z | z
  · have := b2 a z
    rw [a3 (by omega)] at this
    cases this
  · exact z
  · have := a2 b z
    rw [b3 (by omega)] at this
    cases this
-- lines
section LB
variable {P O : Nat → Int32} {pn : Nat} {f us : Int32} {d : Int64} {w : Int32} {p : Nat}
theorem n1_lt0 : ¬ (0 : Int32) ≤ -1 := by decide
theorem nI16_ge : ∀ p, p < 16 → (0 : Int32) ≤ nI p := by decide +kernel
theorem ok_ge (h : okP P) {s : Nat} (hs : s < 16) : 0 ≤ P s ↔ ¬ P s = -1 := by
  rcases h s hs with q | ⟨p, hp, q⟩
  · rw [q]; decide
  · rw [q]
    exact ⟨fun _ => nI_n1 p hp, fun _ => nI16_ge p hp⟩
theorem ok_lt (h : okP P) {s : Nat} (hs : s < 16) (c : ¬ 0 ≤ P s) : P s = -1 := Classical.byContradiction (fun q => c ((ok_ge h hs).mpr q))
theorem okP_put (h : okP P) {s : Nat} (hp : p < 16) : okP (upd P s (nI p)) := by
  intro t ht
  by_cases c : t = s
  · subst c
    exact Or.inr ⟨p, hp, pk_us⟩
  · rw [pk_un c]
    exact h t ht
theorem lFl_eq (h : okP P) {l : Nat} (hl : l < 19) : ∀ k, k ≤ 4 → lFl P l k = mFul P l k
  | 0, _ => rfl
  | k + 1, hk => by
    rw [lFl, mFul, lFl_eq h hl k (by omega)]
    have := ok_ge h (sqr_lt l hl k (by omega))
    by_cases c : P (sqr l k) = -1
    · rw [if_neg (fun q => this.mp q c), if_pos c]; rfl
    · rw [if_pos (this.mpr c), if_neg c]
theorem sh_t1 : ∀ o, o < 16 → ∀ z, z < 16 → (nI o + 16 * nI z) &&& mMk (-1) = (nI o &&& 15) + 16 * (nI z &&& 15) := by decide +kernel
theorem sh_t2 : ∀ o, o < 16 → ∀ z, z < 16 → ∀ p, p < 16 → (nI o + 16 * nI z) &&& mMk (nI p) = (nI o &&& nI p) + 16 * (nI z &&& (15 - nI p)) := by decide +kernel
theorem sh_t3 : ∀ o, o < 16 → ∀ p, p < 16 → ∃ x, x < 16 ∧ nI o &&& nI p = nI x := by decide +kernel
theorem sh_t4 : ∀ p, p < 16 → ∃ x, x < 16 ∧ (15 : Int32) - nI p = nI x := by decide +kernel
theorem lSh_inv (h : okP P) {l : Nat} (hl : l < 19) : ∀ k, k ≤ 4 → ∃ o z, o < 16 ∧ z < 16 ∧ lO1 P l k = nI o ∧ lZr P l k = nI z ∧ mCom P l k = nI o + 16 * nI z
  | 0, _ => ⟨15, 15, by decide, by decide, rfl, rfl, show (255 : Int32) = nI 15 + 16 * nI 15 from by decide⟩
  | k + 1, hk => by
    obtain ⟨o, z, ho, hz, e1, e2, e3⟩ := lSh_inv h hl k (by omega)
    have hs := sqr_lt l hl k (by omega)
    rcases h (sqr l k) hs with q | ⟨p, hp, q⟩
    · obtain ⟨x, hx, ex⟩ := sh_t3 o ho 15 (by decide)
      obtain ⟨y, hy, ey⟩ := sh_t3 z hz 15 (by decide)
      refine ⟨x, y, hx, hy, ?_, ?_, ?_⟩
      · rw [lO1, q, if_neg n1_lt0, e1]; exact ex
      · rw [lZr, q, if_neg n1_lt0, e2]; exact ey
      · rw [mCom, q, e3, sh_t1 o ho z hz, ← ex, ← ey]; rfl
    · obtain ⟨x, hx, ex⟩ := sh_t3 o ho p hp
      obtain ⟨p', hp', ep⟩ := sh_t4 p hp
      obtain ⟨y, hy, ey⟩ := sh_t3 z hz p' hp'
      refine ⟨x, y, hx, hy, ?_, ?_, ?_⟩
      · rw [lO1, q, if_pos (nI16_ge p hp), e1]; exact ex
      · rw [lZr, q, if_pos (nI16_ge p hp), e2, ep]; exact ey
      · rw [mCom, q, e3, sh_t2 o ho z hz p hp, ep, ex, ey]
theorem lSh_eq (h : okP P) {l : Nat} (hl : l < 19) : lSh P l = mCom P l 4 := by
  obtain ⟨o, z, -, -, e1, e2, e3⟩ := lSh_inv h hl 4 (Nat.le_refl 4)
  rw [lSh, e1, e2, e3]
theorem sh_t5 : ∀ o, o < 16 → ∀ z, z < 16 → ((0 : Int32) < nI o + 16 * nI z ↔ ¬ nI o + 16 * nI z = 0) := by decide +kernel
theorem lSh_pos (h : okP P) {l : Nat} (hl : l < 19) : 0 < lSh P l ↔ ¬ mCom P l 4 = 0 := by
  obtain ⟨o, z, ho, hz, e1, e2, e3⟩ := lSh_inv h hl 4 (Nat.le_refl 4)
  rw [lSh, e1, e2, e3]
  exact sh_t5 o ho z hz
theorem lWc_eq (h : KB P f d) : ∀ k, k ≤ 19 → lWc P k = qWonC f d k
  | 0, _ => rfl
  | k + 1, hk => by
    have hl : k < 19 := by omega
    have e : (lFl P k 4 = 4 ∧ 0 < lSh P k) ↔ (LM k &&& (f ^^^ (-1 : Int32)) = 0 ∧ ¬ qIn f d (LM k) = 0) := by
      rw [lFl_eq h.1 hl 4 (Nat.le_refl 4), lSh_pos h.1 hl, ln_full h hl, ln_com h hl]
    rw [lWc, qWonC, lWc_eq h k (by omega)]
    by_cases c : lFl P k 4 = 4 ∧ 0 < lSh P k
    · rw [if_pos c, if_pos (e.mp c)]
    · rw [if_neg c, if_neg (fun q => c (e.mpr q))]
theorem lWon_eq (h : KB P f d) : lWc P (qLn w) = qWon f d w := lWc_eq h _ (qLn_le w).2
theorem lHas_iff {p : Int32} : lHas P p 16 = true ↔ ∃ s, s < 16 ∧ P s = p := by
  unfold lHas
  rw [anyN_iff]
  exact ⟨fun ⟨j, a, b⟩ => ⟨j, a, of_decide_eq_true b⟩, fun ⟨j, a, b⟩ => ⟨j, a, decide_eq_true b⟩⟩
theorem lHas_O (h : RB P O pn f us d) (hp : p < 16) : lHas P (nI p) 16 = false ↔ O p = 0 := by
  rcases h.2.1 p hp with ⟨a, b⟩ | ⟨a, b⟩
  · refine ⟨fun _ => a, fun _ => ?_⟩
    rw [Bool.eq_false_iff]
    intro q
    obtain ⟨s, x, y⟩ := lHas_iff.mp q
    exact b s x y
  · rw [lHas_iff.mpr b, a]
    exact ⟨fun q => (by cases q), fun q => absurd q (by decide)⟩
theorem lHas_us (h : RB P O pn f us d) (hp : p < 16) : lHas P (nI p) 16 = qHas us (nI p) := by
  have a := lHas_O h hp
  have b := RB_u h hp
  cases e1 : lHas P (nI p) 16 <;> cases e2 : qHas us (nI p)
  · rfl
  · rw [b.mpr (a.mp e1)] at e2; cases e2
  · rw [a.mpr (b.mp e2)] at e1; cases e1
  · rfl
theorem lWsF_eq (h : KB P f d) (hnw : NW w P) (hp : p < 16) {s : Nat} (hs : s < 16) : lWsF P (qLn w) (nI p) s = mWins w P p s := by
  unfold lWsF mWins
  have g := ok_ge h.1 hs
  by_cases c : P s = -1
  · have hb := KB_put h hp hs c
    rw [decide_eq_false (fun q => g.mp q c), decide_eq_true c, lWon_eq hb, won_eq hb (NW_off hnw)]
    rfl
  · rw [decide_eq_true (g.mpr c), decide_eq_false c]
    rfl
theorem lWs_eq (h : KB P f d) (hnw : NW w P) (hp : p < 16) : lWs P (qLn w) (nI p) = qWin f d w (nI p) := by
  rw [win_eq h hp]
  refine (setN_of (fun i hi => ?_)).symm
  rw [winS_bit 16 (Nat.le_refl 16)]
  by_cases c : i < 16
  · rw [lWsF_eq h hnw hp c]
  · rw [decide_eq_false c, Bool.false_and, Bool.false_and]
theorem lSs_eq (h : RB P O pn f us d) (hnw : NW w P) : lSs P (qLn w) = qSafe f us d w := by
  rw [safe_eq h]
  refine (setN_of (fun i hi => ?_)).symm
  rw [mSaf_bit 16 (Nat.le_refl 16)]
  by_cases c : i < 16
  · congr 1
    unfold lSsF
    have a := lHas_O h c
    rw [lWs_eq h.1 hnw c, win_eq h.1 c]
    by_cases z : O i = 0
    · rw [a.mpr z, Bool.not_false, Bool.true_and]
      exact decide_eq_decide.mpr ⟨fun q => q.2, fun q => ⟨z, q⟩⟩
    · rw [show lHas P (nI i) 16 = true from by
        cases e : lHas P (nI i) 16
        · exact absurd (a.mp e) z
        · rfl]
      exact decide_eq_false (fun q => z q.1)
  · rw [decide_eq_false c, Bool.false_and, Bool.false_and]
end LB
-- the lowest: a bit by shifting
theorem shr_e : ∀ j, j < 16 → ((nI j &&& 31).toBitVec.smod 32).toNat = j := by decide +kernel
theorem shr_bit (x : Int32) {j : Nat} (hj : j < 16) : ((x >>> (nI j &&& 31)) &&& 1 = 0) ↔ qHas x (nI j) = false := by
  have e : ∀ i, i < 32 → ((x >>> (nI j &&& 31)) &&& 1).toBitVec.getLsbD i = (decide (i = 0) && x.toBitVec.getLsbD j) := by
    intro i hi
    rw [b_and, Int32.toBitVec_shiftRight, BitVec.sshiftRight', shr_e j hj, BitVec.getLsbD_sshiftRight]
    by_cases c : i = 0
    · subst c
      rw [decide_eq_true (p := (0 : Nat) = 0) rfl]
      have : j + 0 < 32 := by omega
      simp [this]
      intro q
      omega
    · rw [decide_eq_false c]
      have : (1 : Int32).toBitVec.getLsbD i = false := by
        rcases i with _ | i
        · exact absurd rfl c
        · exact (by decide +kernel : ∀ i, i < 31 → (1 : Int32).toBitVec.getLsbD (i + 1) = false) i (by omega)
      rw [this, Bool.and_false, Bool.false_and]
  rw [qHas_bv x hj]
  constructor
  · intro h
    have := e 0 (by decide)
    rw [h, b_0, decide_eq_true (p := (0 : Nat) = 0) rfl, Bool.true_and] at this
    exact this.symm
  · intro h
    refine bx32 (fun i hi => ?_)
    rw [e i hi, h, Bool.and_false, b_0]
