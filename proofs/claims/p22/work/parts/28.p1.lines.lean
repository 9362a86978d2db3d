/-! pure: the two boards and their lines -/
def pbit (x : Int32) (m : Nat) : Bool := decide (¬ x = -1) && x.toBitVec.getLsbD m
def okP (P : Nat → Int32) : Prop := ∀ s, s < 16 → P s = -1 ∨ ∃ p, p < 16 ∧ P s = nI p
/-- the board as the class has it -/
def KB (P : Nat → Int32) (f : Int32) (d : Int64) : Prop := okP P ∧ (∀ s, s < 16 → qHas f (nI s) = decide (¬ P s = -1)) ∧ f.toBitVec.toNat < 65536 ∧ ∀ m, m < 4 → ∀ s, s < 16 → qHas (qOne d (nI m)) (nI s) = pbit (P s) m
theorem bx32 {x y : Int32} (h : ∀ i, i < 32 → x.toBitVec.getLsbD i = y.toBitVec.getLsbD i) : x = y := by
  rw [← Int32.toBitVec_inj]
  exact BitVec.eq_of_getLsbD_eq (fun i hi => h i hi)
theorem b_and (x y : Int32) (i : Nat) : (x &&& y).toBitVec.getLsbD i = (x.toBitVec.getLsbD i && y.toBitVec.getLsbD i) := by rw [Int32.toBitVec_and, BitVec.getLsbD_and]
theorem b_or (x y : Int32) (i : Nat) : (x ||| y).toBitVec.getLsbD i = (x.toBitVec.getLsbD i || y.toBitVec.getLsbD i) := by rw [Int32.toBitVec_or, BitVec.getLsbD_or]
theorem b_not (x : Int32) {i : Nat} (hi : i < 32) : (x ^^^ (-1 : Int32)).toBitVec.getLsbD i = !x.toBitVec.getLsbD i := by
  have h1 : (-1 : Int32).toBitVec.getLsbD i = true := by
    rw [show (-1 : Int32).toBitVec = BitVec.allOnes 32 by decide, BitVec.getLsbD_allOnes]
    exact decide_eq_true hi
  rw [Int32.toBitVec_xor, BitVec.getLsbD_xor, h1, Bool.xor_true]
theorem b_0 (i : Nat) : (0 : Int32).toBitVec.getLsbD i = false := by
  rw [show (0 : Int32).toBitVec = 0#32 from rfl]
  exact BitVec.getLsbD_zero
theorem b_if (e : Bool) {s : Nat} (hs : s < 16) (i : Nat) : (if e = true then qBit (nI s) else (0 : Int32)).toBitVec.getLsbD i = (e && decide (s = i)) := by
  cases e
  · rw [if_neg (by decide), b_0]; rfl
  · rw [if_pos rfl, qBit_get hs]; rfl
theorem LM_bits : ∀ l, l < 19 → ∀ i, i < 32 → (LM l).toBitVec.getLsbD i = (((decide (sqr l 0 = i) || decide (sqr l 1 = i)) || decide (sqr l 2 = i)) || decide (sqr l 3 = i)) := by decide +kernel
def lmE (l : Nat) (e0 e1 e2 e3 : Bool) : Int32 := (((if e0 = true then qBit (nI (sqr l 0)) else 0) ||| (if e1 = true then qBit (nI (sqr l 1)) else 0)) ||| (if e2 = true then qBit (nI (sqr l 2)) else 0)) ||| (if e3 = true then qBit (nI (sqr l 3)) else 0)
theorem lmE_bit {l : Nat} (hl : l < 19) (e0 e1 e2 e3 : Bool) (i : Nat) : (lmE l e0 e1 e2 e3).toBitVec.getLsbD i = ((((e0 && decide (sqr l 0 = i)) || (e1 && decide (sqr l 1 = i))) || (e2 && decide (sqr l 2 = i))) || (e3 && decide (sqr l 3 = i))) := by
  unfold lmE
  rw [b_or, b_or, b_or, b_if _ (sqr_lt l hl 0 (by decide)), b_if _ (sqr_lt l hl 1 (by decide)), b_if _ (sqr_lt l hl 2 (by decide)), b_if _ (sqr_lt l hl 3 (by decide))]
/-- a line's part of a set, by its four squares -/
theorem lm_and {l : Nat} (hl : l < 19) (x : Int32) (e0 e1 e2 e3 : Bool) (h0 : x.toBitVec.getLsbD (sqr l 0) = e0) (h1 : x.toBitVec.getLsbD (sqr l 1) = e1) (h2 : x.toBitVec.getLsbD (sqr l 2) = e2) (h3 : x.toBitVec.getLsbD (sqr l 3) = e3) : LM l &&& x = lmE l e0 e1 e2 e3 := by
  refine bx32 (fun i hi => ?_)
  rw [b_and, LM_bits l hl i hi, lmE_bit hl, ← h0, ← h1, ← h2, ← h3]
  have key : ∀ s : Nat, (decide (s = i) && x.toBitVec.getLsbD i) = (x.toBitVec.getLsbD s && decide (s = i)) := by
    intro s
    by_cases h : s = i
    · subst h; rw [Bool.and_comm]
    · rw [decide_eq_false h, Bool.false_and, Bool.and_false]
  rw [← key (sqr l 0), ← key (sqr l 1), ← key (sqr l 2), ← key (sqr l 3)]
  cases decide (sqr l 0 = i) <;> cases decide (sqr l 1 = i) <;> cases decide (sqr l 2 = i) <;> cases decide (sqr l 3 = i) <;> cases x.toBitVec.getLsbD i <;> rfl
theorem lmE_0 : ∀ l, l < 19 → ∀ e0 e1 e2 e3 : Bool, lmE l e0 e1 e2 e3 = 0 ↔ (((e0 || e1) || e2) || e3) = false := by decide +kernel
theorem lmE_1 : ∀ l, l < 19 → ∀ e0 e1 e2 e3 : Bool, (decide (¬ lmE l e0 e1 e2 e3 = 0) && decide (lmE l e0 e1 e2 e3 &&& (lmE l e0 e1 e2 e3 - 1) = 0)) = decide (e0.toNat + e1.toNat + e2.toNat + e3.toNat = 1) := by decide +kernel
theorem lmE_inj : ∀ l, l < 19 → ∀ e0 e1 e2 e3 f0 f1 f2 f3 : Bool, lmE l e0 e1 e2 e3 = lmE l f0 f1 f2 f3 ↔ (e0 = f0 ∧ e1 = f1) ∧ (e2 = f2 ∧ e3 = f3) := by decide +kernel
theorem f4z : ∀ a b c d : Bool, ((((a || b) || c) || d) = false ↔ a.toNat + b.toNat + c.toNat + d.toNat = 0) := by decide
theorem f4n : ∀ a b c d : Bool, decide ((((a || b) || c) || d) = false) = (((!a && !b) && !c) && !d) := by decide
theorem any4 (F : Nat → Bool) : anyN F 4 = ((((false || F 0) || F 1) || F 2) || F 3) := rfl
section LN
variable {P : Nat → Int32} {f : Int32} {d : Int64} {l : Nat}
def em (P : Nat → Int32) (l k : Nat) : Bool := decide (P (sqr l k) = -1)
theorem KB_f (h : KB P f d) {s : Nat} (hs : s < 16) : f.toBitVec.getLsbD s = !decide (P s = -1) := by
  rw [← qHas_bv f hs, h.2.1 s hs]
  by_cases e : P s = -1
  · rw [decide_eq_true e, decide_eq_false (fun q => q e)]; rfl
  · rw [decide_eq_false e, decide_eq_true e]; rfl
theorem ln_not (h : KB P f d) (hl : l < 19) : LM l &&& (f ^^^ (-1 : Int32)) = lmE l (em P l 0) (em P l 1) (em P l 2) (em P l 3) := by
  have g : ∀ k, k < 4 → (f ^^^ (-1 : Int32)).toBitVec.getLsbD (sqr l k) = em P l k := fun k hk => by
    have := sqr_lt l hl k hk
    rw [b_not f (by omega), KB_f h this, Bool.not_not]
    rfl
  exact lm_and hl _ _ _ _ _ (g 0 (by decide)) (g 1 (by decide)) (g 2 (by decide)) (g 3 (by decide))
theorem ln_and (h : KB P f d) (hl : l < 19) : LM l &&& f = lmE l (!em P l 0) (!em P l 1) (!em P l 2) (!em P l 3) := by
  have g : ∀ k, k < 4 → f.toBitVec.getLsbD (sqr l k) = !em P l k := fun k hk => KB_f h (sqr_lt l hl k hk)
  exact lm_and hl _ _ _ _ _ (g 0 (by decide)) (g 1 (by decide)) (g 2 (by decide)) (g 3 (by decide))
theorem ful_e (P : Nat → Int32) (l : Nat) : mFul P l 4 + ((em P l 0).toNat + (em P l 1).toNat + (em P l 2).toNat + (em P l 3).toNat) = 4 := by
  have g : ∀ k, (if P (sqr l k) = -1 then 0 else 1) + (em P l k).toNat = 1 := fun k => by
    unfold em
    by_cases e : P (sqr l k) = -1
    · rw [if_pos e, decide_eq_true e]; rfl
    · rw [if_neg e, decide_eq_false e]; rfl
  have g0 := g 0
  have g1 := g 1
  have g2 := g 2
  have g3 := g 3
  have e : mFul P l 4 = ((((0 + (if P (sqr l 0) = -1 then 0 else 1)) + (if P (sqr l 1) = -1 then 0 else 1)) + (if P (sqr l 2) = -1 then 0 else 1)) + (if P (sqr l 3) = -1 then 0 else 1)) := rfl
  rw [e]
  omega
theorem ln_full (h : KB P f d) (hl : l < 19) : LM l &&& (f ^^^ (-1 : Int32)) = 0 ↔ mFul P l 4 = 4 := by
  rw [ln_not h hl, lmE_0 l hl]
  have := ful_e P l
  rw [f4z]
  constructor <;> intro q <;> omega
theorem ln_lacks (h : KB P f d) (hl : l < 19) : qLacks f (LM l) = decide (mFul P l 4 = 3) := by
  unfold qLacks
  rw [ln_not h hl, lmE_1 l hl]
  have := ful_e P l
  by_cases e : mFul P l 4 = 3
  · rw [decide_eq_true e]; exact decide_eq_true (by omega)
  · rw [decide_eq_false e]; exact decide_eq_false (by omega)
theorem mMk_bit0 : ∀ i, i < 32 → (mMk (-1)).toBitVec.getLsbD i = decide (i < 8) := by decide +kernel
theorem mMk_bit : ∀ p, p < 16 → ∀ i, i < 32 → (mMk (nI p)).toBitVec.getLsbD i = (decide (i < 4) && (nI p).toBitVec.getLsbD i || (decide (4 ≤ i) && decide (i < 8) && !(nI p).toBitVec.getLsbD (i - 4))) := by decide +kernel
theorem nI_n1 : ∀ p, p < 16 → ¬ nI p = -1 := by decide +kernel
/-- the marks of a square, or all -/
theorem mk_bits {x : Int32} (hx : x = -1 ∨ ∃ p, p < 16 ∧ x = nI p) {i : Nat} (hi : i < 32) : (mMk x).toBitVec.getLsbD i = ((decide (i < 4) && (decide (x = -1) || pbit x i)) || (decide (4 ≤ i) && decide (i < 8) && (decide (x = -1) || !pbit x (i - 4)))) := by
  rcases hx with rfl | ⟨p, hp, rfl⟩
  · rw [mMk_bit0 i hi]
    by_cases h4 : i < 4
    · simp [h4, show i < 8 by omega]
    · by_cases h8 : i < 8
      · simp [h4, h8]; omega
      · simp [h4, h8]
  · rw [mMk_bit p hp i hi]
    unfold pbit
    rw [decide_eq_false (nI_n1 p hp), decide_eq_true (nI_n1 p hp)]
    simp
theorem com_bit (P : Nat → Int32) (l : Nat) (i : Nat) (hi : i < 32) : (mCom P l 4).toBitVec.getLsbD i = ((((decide (i < 8) && (mMk (P (sqr l 0))).toBitVec.getLsbD i) && (mMk (P (sqr l 1))).toBitVec.getLsbD i) && (mMk (P (sqr l 2))).toBitVec.getLsbD i) && (mMk (P (sqr l 3))).toBitVec.getLsbD i) := by
  show (((((255 : Int32) &&& _) &&& _) &&& _) &&& _).toBitVec.getLsbD i = _
  rw [b_and, b_and, b_and, b_and]
  have : ∀ i, i < 32 → (255 : Int32).toBitVec.getLsbD i = decide (i < 8) := by decide +kernel
  rw [this i hi]
theorem qCom_bit (d : Int64) (there : Int32) {i : Nat} : ∀ k, k ≤ 4 → (qCom d there k).toBitVec.getLsbD i = anyN (fun m => (decide (qOne d (nI m) &&& there = there) && decide (m = i)) || (decide (qOne d (nI m) &&& there = 0) && decide (m + 4 = i))) k
  | 0, _ => b_0 i
  | k + 1, hk => by
    have ih := qCom_bit d there (i := i) k (by omega)
    have e4 : qBit (nI k + 4) = qBit (nI (k + 4)) := by rw [show (4 : Int32) = nI 4 from rfl, nI_add]
    unfold qCom anyN
    rw [← ih, e4]
    by_cases a : qOne d (nI k) &&& there = there <;> by_cases b : qOne d (nI k) &&& there = 0
    · rw [if_pos b, if_pos a, b_or, b_or, qBit_get (by omega), qBit_get (by omega), decide_eq_true a, decide_eq_true b, Bool.true_and, Bool.true_and, Bool.or_assoc]
    · rw [if_neg b, if_pos a, b_or, qBit_get (by omega), decide_eq_true a, decide_eq_false b, Bool.true_and, Bool.false_and, Bool.or_false]
    · rw [if_pos b, if_neg a, b_or, qBit_get (by omega), decide_eq_false a, decide_eq_true b, Bool.true_and, Bool.false_and, Bool.false_or]
    · rw [if_neg b, if_neg a, decide_eq_false a, decide_eq_false b, Bool.false_and, Bool.false_and, Bool.or_false, Bool.or_false]
theorem one_bit (d : Int64) (m : Nat) {s : Nat} (hs : s < 16) : (qOne d (nI m)).toBitVec.getLsbD s = qHas (qOne d (nI m)) (nI s) := (qHas_bv _ hs).symm
theorem ln_ones (h : KB P f d) (hl : l < 19) {m : Nat} (hm : m < 4) : qOne d (nI m) &&& (LM l &&& f) = lmE l (pbit (P (sqr l 0)) m) (pbit (P (sqr l 1)) m) (pbit (P (sqr l 2)) m) (pbit (P (sqr l 3)) m) := by
  rw [show qOne d (nI m) &&& (LM l &&& f) = LM l &&& (qOne d (nI m) &&& f) by rw [← Int32.and_assoc, Int32.and_comm (qOne d (nI m)) (LM l), Int32.and_assoc]]
  have g : ∀ k, k < 4 → (qOne d (nI m) &&& f).toBitVec.getLsbD (sqr l k) = pbit (P (sqr l k)) m := fun k hk => by
    have hs := sqr_lt l hl k hk
    rw [b_and, one_bit d m hs, h.2.2.2 m hm _ hs, KB_f h hs]
    unfold pbit
    by_cases e : P (sqr l k) = -1
    · rw [decide_eq_true e, decide_eq_false (p := ¬ P (sqr l k) = -1) (fun q => q e)]; rfl
    · rw [decide_eq_false e, decide_eq_true (p := ¬ P (sqr l k) = -1) e, Bool.not_false, Bool.and_true]
  exact lm_and hl _ _ _ _ _ (g 0 (by decide)) (g 1 (by decide)) (g 2 (by decide)) (g 3 (by decide))
/-- what the pieces of a line have in common: the class's and the twin's -/
theorem ln_com (h : KB P f d) (hl : l < 19) : qIn f d (LM l) = mCom P l 4 := by
  refine bx32 (fun i hi => ?_)
  have hP : ∀ k, k < 4 → P (sqr l k) = -1 ∨ ∃ p, p < 16 ∧ P (sqr l k) = nI p := fun k hk => h.1 _ (sqr_lt l hl k hk)
  unfold qIn
  rw [qCom_bit d _ 4 (Nat.le_refl 4), com_bit P l i hi, mk_bits (hP 0 (by decide)) hi, mk_bits (hP 1 (by decide)) hi, mk_bits (hP 2 (by decide)) hi, mk_bits (hP 3 (by decide)) hi]
  have e1 : ∀ m, m < 4 → decide (qOne d (nI m) &&& (LM l &&& f) = LM l &&& f) = ((((em P l 0 || pbit (P (sqr l 0)) m) && (em P l 1 || pbit (P (sqr l 1)) m)) && (em P l 2 || pbit (P (sqr l 2)) m)) && (em P l 3 || pbit (P (sqr l 3)) m)) := by
    intro m hm
    rw [ln_ones h hl hm, ln_and h hl]
    have q : ∀ k, (em P l k || pbit (P (sqr l k)) m) = decide (pbit (P (sqr l k)) m = !em P l k) := by
      intro k
      unfold em pbit
      by_cases e : P (sqr l k) = -1
      · rw [decide_eq_true e, decide_eq_false (p := ¬ P (sqr l k) = -1) (fun q => q e)]; rfl
      · rw [decide_eq_false e, decide_eq_true (p := ¬ P (sqr l k) = -1) e, Bool.true_and, Bool.false_or]
        cases (P (sqr l k)).toBitVec.getLsbD m <;> rfl
    rw [q 0, q 1, q 2, q 3]
    have := lmE_inj l hl (pbit (P (sqr l 0)) m) (pbit (P (sqr l 1)) m) (pbit (P (sqr l 2)) m) (pbit (P (sqr l 3)) m) (!em P l 0) (!em P l 1) (!em P l 2) (!em P l 3)
    rw [decide_eq_decide.mpr this]
    rw [Bool.decide_and, Bool.decide_and, Bool.decide_and]
    simp only [Bool.and_assoc]
  have e2 : ∀ m, m < 4 → decide (qOne d (nI m) &&& (LM l &&& f) = 0) = ((((em P l 0 || !pbit (P (sqr l 0)) m) && (em P l 1 || !pbit (P (sqr l 1)) m)) && (em P l 2 || !pbit (P (sqr l 2)) m)) && (em P l 3 || !pbit (P (sqr l 3)) m)) := by
    intro m hm
    rw [ln_ones h hl hm, decide_eq_decide.mpr (lmE_0 l hl _ _ _ _)]
    have q : ∀ k, (em P l k || !pbit (P (sqr l k)) m) = !pbit (P (sqr l k)) m := by
      intro k
      unfold em pbit
      by_cases e : P (sqr l k) = -1
      · rw [decide_eq_true e, decide_eq_false (p := ¬ P (sqr l k) = -1) (fun q => q e)]; rfl
      · rw [decide_eq_false e, Bool.false_or]
    rw [q 0, q 1, q 2, q 3]
    exact f4n _ _ _ _
  rw [any4, e1 0 (by decide), e1 1 (by decide), e1 2 (by decide), e1 3 (by decide), e2 0 (by decide), e2 1 (by decide), e2 2 (by decide), e2 3 (by decide)]
  have h8 : i < 8 ∨ 8 ≤ i := by omega
  rcases h8 with h8 | h8
  · have : i = 0 ∨ i = 1 ∨ i = 2 ∨ i = 3 ∨ i = 4 ∨ i = 5 ∨ i = 6 ∨ i = 7 := by omega
    rcases this with rfl | rfl | rfl | rfl | rfl | rfl | rfl | rfl <;> simp [em]
  · have e : ∀ m, m < 4 → decide (m = i) = false ∧ decide (m + 4 = i) = false := fun m hm => ⟨decide_eq_false (by omega), decide_eq_false (by omega)⟩
    rw [(e 0 (by decide)).1, (e 1 (by decide)).1, (e 2 (by decide)).1, (e 3 (by decide)).1, (e 0 (by decide)).2, (e 1 (by decide)).2, (e 2 (by decide)).2, (e 3 (by decide)).2, decide_eq_false (p := i < 8) (by omega)]
    simp
end LN
