/-! bits of the class's sets: what put and lift do -/
theorem qBit_bv : ∀ p, p < 16 → (qBit (nI p)).toBitVec = BitVec.twoPow 32 p := by decide +kernel
theorem tp_ne : ∀ p, p < 16 → ¬ BitVec.twoPow 32 p = 0#32 := by decide +kernel
theorem qHas_bv (x : Int32) {p : Nat} (hp : p < 16) : qHas x (nI p) = x.toBitVec.getLsbD p := by
  have h := qBit_bv p hp
  have e : (x &&& qBit (nI p) = 0) ↔ x.toBitVec.getLsbD p = false := by
    rw [← Int32.toBitVec_inj, Int32.toBitVec_and, h, BitVec.and_twoPow]
    cases hb : x.toBitVec.getLsbD p
    · simp
    · simp [tp_ne p hp]
  show decide (¬ x &&& qBit (nI p) = 0) = _
  cases hb : x.toBitVec.getLsbD p
  · exact decide_eq_false (fun q => q (e.mpr hb))
  · exact decide_eq_true (fun q => by rw [e.mp q] at hb; cases hb)
theorem qBit_get {p i : Nat} (hp : p < 16) : (qBit (nI p)).toBitVec.getLsbD i = decide (p = i) := by
  rw [qBit_bv p hp, BitVec.getLsbD_twoPow]
  by_cases h : p = i
  · subst h; simp; omega
  · simp [h]
theorem qHas_or (x : Int32) {k p : Nat} (hk : k < 16) (hp : p < 16) : qHas (x ||| qBit (nI k)) (nI p) = (qHas x (nI p) || decide (k = p)) := by
  rw [qHas_bv _ hp, qHas_bv _ hp, Int32.toBitVec_or, BitVec.getLsbD_or, qBit_get hk]
theorem qOrAnd (x : Int32) {p : Nat} (hp : p < 16) (h : qHas x (nI p) = false) : (x ||| qBit (nI p)) &&& (qBit (nI p) ^^^ (-1 : Int32)) = x := by
  rw [qHas_bv x hp] at h
  rw [← Int32.toBitVec_inj]
  apply BitVec.eq_of_getLsbD_eq
  intro i hi
  simp only [Int32.toBitVec_and, Int32.toBitVec_or, Int32.toBitVec_xor, BitVec.getLsbD_and, BitVec.getLsbD_or, BitVec.getLsbD_xor, qBit_get hp]
  have h1 : (-1 : Int32).toBitVec.getLsbD i = true := by
    rw [show (-1 : Int32).toBitVec = BitVec.allOnes 32 by decide, BitVec.getLsbD_allOnes]
    exact decide_eq_true hi
  rw [h1]
  by_cases e : p = i
  · subst e; rw [h]; simp
  · simp [e]
def qEach (s : Int32) : Int64 := (281479271743489 : Int64) <<< (s.toInt64 &&& 63)
def qInv (f : Int32) (d : Int64) : Prop := ∀ s, s < 16 → qHas f (nI s) = false → d &&& qEach (nI s) = 0
theorem qFE : ∀ p, p < 16 → ∀ s, s < 16 → ∀ t, t < 16 → (qFirst (nI p) <<< ((nI s).toInt64 &&& 63)) &&& qEach (nI t) = (if s = t then (qFirst (nI p) <<< ((nI s).toInt64 &&& 63)) else 0) := by decide +kernel
theorem bvq {a b : BitVec 64} (h : a &&& b = 0#64) (c : BitVec 64) (hc : c &&& b = c) : (a ||| c) &&& (b ^^^ BitVec.allOnes 64) = a := by
  apply BitVec.eq_of_getLsbD_eq
  intro i hi
  have h1 := congrArg (fun x => x.getLsbD i) h
  have h2 := congrArg (fun x => x.getLsbD i) hc
  simp only [BitVec.getLsbD_and, BitVec.getLsbD_or, BitVec.getLsbD_xor, BitVec.getLsbD_allOnes, BitVec.getLsbD_zero, hi, decide_true] at h1 h2 ⊢
  cases ha : a.getLsbD i <;> cases hb : b.getLsbD i <;> cases hc : c.getLsbD i <;> simp_all
theorem qLiftPut (d : Int64) {p s : Nat} (hp : p < 16) (hs : s < 16) (h : d &&& qEach (nI s) = 0) : qLiftD (qPutD d (nI p) (nI s)) (nI s) = d := by
  have h2 := qFE p hp s hs s hs
  rw [if_pos rfl] at h2
  rw [← Int64.toBitVec_inj, Int64.toBitVec_and] at h h2
  rw [← Int64.toBitVec_inj]
  show ((d ||| (qFirst (nI p) <<< ((nI s).toInt64 &&& 63))) &&& (qEach (nI s) ^^^ (-1 : Int64))).toBitVec = d.toBitVec
  rw [Int64.toBitVec_and, Int64.toBitVec_or, Int64.toBitVec_xor, show (-1 : Int64).toBitVec = BitVec.allOnes 64 by decide]
  exact bvq h _ h2
theorem bvz {a b c : BitVec 64} (h : a &&& b = 0#64) (hc : c &&& b = 0#64) : (a ||| c) &&& b = 0#64 := by
  apply BitVec.eq_of_getLsbD_eq
  intro i hi
  have h1 := congrArg (fun x => x.getLsbD i) h
  have h2 := congrArg (fun x => x.getLsbD i) hc
  simp only [BitVec.getLsbD_and, BitVec.getLsbD_or, BitVec.getLsbD_zero] at h1 h2 ⊢
  cases ha : a.getLsbD i <;> cases hb : b.getLsbD i <;> cases hc : c.getLsbD i <;> simp_all
theorem qInv_put {f : Int32} {d : Int64} {p s : Nat} (h : qInv f d) (hp : p < 16) (hs : s < 16) : qInv (f ||| qBit (nI s)) (qPutD d (nI p) (nI s)) := by
  intro t ht hf
  rw [qHas_or f hs ht] at hf
  simp only [Bool.or_eq_false_iff, decide_eq_false_iff_not] at hf
  have h1 := h t ht hf.1
  have h2 := qFE p hp s hs t ht
  rw [if_neg hf.2] at h2
  rw [← Int64.toBitVec_inj, Int64.toBitVec_and] at h1 h2
  rw [← Int64.toBitVec_inj]
  show ((d ||| (qFirst (nI p) <<< ((nI s).toInt64 &&& 63))) &&& qEach (nI t)).toBitVec = _
  rw [Int64.toBitVec_and, Int64.toBitVec_or]
  exact bvz h1 h2
theorem qHas_0 (p : Nat) (hp : p < 16) : qHas 0 (nI p) = false := by
  rw [qHas_bv _ hp]
  simp
theorem qSafeC_has (used win : Int32) : ∀ k, k ≤ 16 → ∀ p, p < 16 → qHas (qSafeC used win k) (nI p) = decide (p < k ∧ qHas used (nI p) = false ∧ qOwn (nI p) &&& win = 0)
  | 0, _, p, hp => by
    rw [show qSafeC used win 0 = 0 from rfl, qHas_0 p hp]
    simp
  | k + 1, hk, p, hp => by
    have ih := qSafeC_has used win k (by omega) p hp
    unfold qSafeC
    by_cases e : p = k
    · subst e
      split
      · rename_i h
        rw [qHas_or _ (by omega) hp, ih]
        simp [h.1, h.2]
      · rename_i h
        rw [ih]
        simp only [Nat.lt_irrefl, false_and, decide_false, Nat.lt_succ_self, true_and]
        exact (decide_eq_false h).symm
    · have e2 : (p < k + 1) = (p < k) := propext ⟨fun q => by omega, fun q => by omega⟩
      simp only [e2]
      split
      · rw [qHas_or _ (by omega) hp, ih, decide_eq_false (fun q : k = p => e q.symm), Bool.or_false]
      · exact ih
theorem qSafe_used {f used : Int32} {d : Int64} {w : Int32} {p : Nat} (hp : p < 16) (h : qHas (qSafe f used d w) (nI p) = true) : qHas used (nI p) = false := by
  have e := qSafeC_has used (qWinD f d w) 16 (Nat.le_refl 16) p hp
  rw [show qSafe f used d w = qSafeC used (qWinD f d w) 16 from rfl] at h
  rw [e] at h
  exact (of_decide_eq_true h).2.1
def allN (P : Nat → Bool) : Nat → Bool
  | 0 => true
  | k + 1 => allN P k && P k
def anyN (P : Nat → Bool) : Nat → Bool
  | 0 => false
  | k + 1 => anyN P k || P k
theorem allN_iff {P : Nat → Bool} : ∀ {k : Nat}, allN P k = true ↔ ∀ j, j < k → P j = true
  | 0 => ⟨fun _ j h => absurd h (Nat.not_lt_zero j), fun _ => rfl⟩
  | k + 1 => by
    simp only [allN, Bool.and_eq_true, allN_iff (k := k)]
    exact ⟨fun h j hj => by rcases Nat.lt_succ_iff_lt_or_eq.mp hj with q | q; exact h.1 j q; rw [q]; exact h.2, fun h => ⟨fun j hj => h j (by omega), h k (by omega)⟩⟩
theorem anyN_iff {P : Nat → Bool} : ∀ {k : Nat}, anyN P k = true ↔ ∃ j, j < k ∧ P j = true
  | 0 => ⟨fun h => (by cases h), fun ⟨j, h, _⟩ => absurd h (Nat.not_lt_zero j)⟩
  | k + 1 => by
    simp only [anyN, Bool.or_eq_true, anyN_iff (k := k)]
    constructor
    · rintro (⟨j, h1, h2⟩ | h)
      · exact ⟨j, by omega, h2⟩
      · exact ⟨k, by omega, h⟩
    · rintro ⟨j, h1, h2⟩
      rcases Nat.lt_succ_iff_lt_or_eq.mp h1 with q | q
      · exact Or.inl ⟨j, q, h2⟩
      · exact Or.inr (q ▸ h2)
theorem allN_f {P : Nat → Bool} {k n : Nat} (hk : k < n) (h : P k = false) : allN P n = false := by
  cases e : allN P n
  · rfl
  · rw [allN_iff.mp e k hk] at h; cases h
theorem anyN_t {P : Nat → Bool} {k n : Nat} (hk : k < n) (h : P k = true) : anyN P n = true := anyN_iff.mpr ⟨k, hk, h⟩
/-! the looking ahead, as the class does it: (who gives can force to win, .. to lose) -/
def qPL (sub : Int32 → Int32 → Int64 → Bool × Bool) (n : Nat) (f u : Int32) (d : Int64) (p : Nat) : Bool := decide (2 ≤ n) && allN (fun s => qHas f (nI s) || (sub (f ||| qBit (nI s)) (u ||| qBit (nI p)) (qPutD d (nI p) (nI s))).2) 16
def qPW (sub : Int32 → Int32 → Int64 → Bool × Bool) (n : Nat) (f u : Int32) (d : Int64) (p : Nat) : Bool := decide (3 ≤ n) && anyN (fun s => !qHas f (nI s) && (sub (f ||| qBit (nI s)) (u ||| qBit (nI p)) (qPutD d (nI p) (nI s))).1) 16
def qGW (sub : Int32 → Int32 → Int64 → Bool × Bool) (w : Int32) (n : Nat) (f u : Int32) (d : Int64) : Bool := decide (2 ≤ n) && anyN (fun p => qHas (qSafe f u d w) (nI p) && qPL sub n f u d p) 16
def qGL (sub : Int32 → Int32 → Int64 → Bool × Bool) (w : Int32) (n : Nat) (f u : Int32) (d : Int64) : Bool := decide (1 ≤ n) && decide (¬ f = 65535) && allN (fun p => !qHas (qSafe f u d w) (nI p) || qPW sub n f u d p) 16
def qS (w : Int32) : Nat → Int32 → Int32 → Int64 → Bool × Bool
  | 0 => fun _ _ _ => (false, false)
  | n + 1 => fun f u d => (qGW (qS w n) w (n + 1) f u d, qGL (qS w n) w (n + 1) f u d)
/-- with n placings left: the giver wins, loses; the placer of p loses, wins later -/
def qGw (w : Int32) (n : Nat) (f u : Int32) (d : Int64) : Bool := (qS w n f u d).1
def qGl (w : Int32) (n : Nat) (f u : Int32) (d : Int64) : Bool := (qS w n f u d).2
def qPl (w : Int32) (n : Nat) (f u : Int32) (d : Int64) (p : Nat) : Bool := qPL (qS w (n - 1)) n f u d p
def qPw (w : Int32) (n : Nat) (f u : Int32) (d : Int64) (p : Nat) : Bool := qPW (qS w (n - 1)) n f u d p
theorem qGw_eq (w : Int32) (n : Nat) (f u : Int32) (d : Int64) : qGw w n f u d = (decide (2 ≤ n) && anyN (fun p => qHas (qSafe f u d w) (nI p) && qPl w n f u d p) 16) := by
  cases n
  · rfl
  · rfl
theorem qGl_eq (w : Int32) (n : Nat) (f u : Int32) (d : Int64) : qGl w n f u d = (decide (1 ≤ n) && decide (¬ f = 65535) && allN (fun p => !qHas (qSafe f u d w) (nI p) || qPw w n f u d p) 16) := by
  cases n
  · rfl
  · rfl
theorem zb_f0 {b : Bool} (h : b = false) : zb b = 0 := by rw [h]; rfl
theorem anyN_s {P : Nat → Bool} {k : Nat} (h : anyN P k = false) (h2 : P k = false) : anyN P (k + 1) = false := by rw [anyN, h, h2]; rfl
theorem allN_s {P : Nat → Bool} {k : Nat} (h : allN P k = true) (h2 : P k = true) : allN P (k + 1) = true := by rw [allN, h, h2]; rfl
def qPwF (w : Int32) (n : Nat) (f u : Int32) (d : Int64) (p : Nat) (s : Nat) : Bool := !qHas f (nI s) && qGw w (n - 1) (f ||| qBit (nI s)) (u ||| qBit (nI p)) (qPutD d (nI p) (nI s))
def qPlF (w : Int32) (n : Nat) (f u : Int32) (d : Int64) (p : Nat) (s : Nat) : Bool := qHas f (nI s) || qGl w (n - 1) (f ||| qBit (nI s)) (u ||| qBit (nI p)) (qPutD d (nI p) (nI s))
def qGwF (w : Int32) (n : Nat) (f u : Int32) (d : Int64) (p : Nat) : Bool := qHas (qSafe f u d w) (nI p) && qPl w n f u d p
def qGlF (w : Int32) (n : Nat) (f u : Int32) (d : Int64) (p : Nat) : Bool := !qHas (qSafe f u d w) (nI p) || qPw w n f u d p
theorem qPw_e (w : Int32) (n : Nat) (f u : Int32) (d : Int64) (p : Nat) : qPw w n f u d p = (decide (3 ≤ n) && anyN (qPwF w n f u d p) 16) := rfl
theorem qPl_e (w : Int32) (n : Nat) (f u : Int32) (d : Int64) (p : Nat) : qPl w n f u d p = (decide (2 ≤ n) && allN (qPlF w n f u d p) 16) := rfl
theorem qGw_e (w : Int32) (n : Nat) (f u : Int32) (d : Int64) : qGw w n f u d = (decide (2 ≤ n) && anyN (qGwF w n f u d) 16) := qGw_eq w n f u d
theorem qGl_e (w : Int32) (n : Nat) (f u : Int32) (d : Int64) : qGl w n f u d = (decide (1 ≤ n) && decide (¬ f = 65535) && allN (qGlF w n f u d) 16) := qGl_eq w n f u d
theorem qPw_n {w : Int32} {n : Nat} {f u : Int32} {d : Int64} {p : Nat} (h : ¬ 3 ≤ n) : qPw w n f u d p = false := by rw [qPw_e, decide_eq_false h]; rfl
theorem qPl_n {w : Int32} {n : Nat} {f u : Int32} {d : Int64} {p : Nat} (h : ¬ 2 ≤ n) : qPl w n f u d p = false := by rw [qPl_e, decide_eq_false h]; rfl
theorem qGw_n {w : Int32} {n : Nat} {f u : Int32} {d : Int64} (h : ¬ 2 ≤ n) : qGw w n f u d = false := by rw [qGw_e, decide_eq_false h]; rfl
theorem qGl_n {w : Int32} {n : Nat} {f u : Int32} {d : Int64} (h : ¬ 1 ≤ n) : qGl w n f u d = false := by rw [qGl_e, decide_eq_false h]; rfl
theorem qGl_n2 {w : Int32} {n : Nat} {f u : Int32} {d : Int64} (h : f = 65535) : qGl w n f u d = false := by rw [qGl_e, decide_eq_false (p := ¬ f = 65535) (fun q => q h), Bool.and_false]; rfl
theorem qPw_b {w : Int32} {n : Nat} {f u : Int32} {d : Int64} {p : Nat} {b : Bool} (h : 3 ≤ n) (e : anyN (qPwF w n f u d p) 16 = b) : qPw w n f u d p = b := by rw [qPw_e, decide_eq_true h, e, Bool.true_and]
theorem qPl_b {w : Int32} {n : Nat} {f u : Int32} {d : Int64} {p : Nat} {b : Bool} (h : 2 ≤ n) (e : allN (qPlF w n f u d p) 16 = b) : qPl w n f u d p = b := by rw [qPl_e, decide_eq_true h, e, Bool.true_and]
theorem qGw_b {w : Int32} {n : Nat} {f u : Int32} {d : Int64} {b : Bool} (h : 2 ≤ n) (e : anyN (qGwF w n f u d) 16 = b) : qGw w n f u d = b := by rw [qGw_e, decide_eq_true h, e, Bool.true_and]
theorem qGl_b {w : Int32} {n : Nat} {f u : Int32} {d : Int64} {b : Bool} (h : 1 ≤ n) (h2 : ¬ f = 65535) (e : allN (qGlF w n f u d) 16 = b) : qGl w n f u d = b := by rw [qGl_e, decide_eq_true h, decide_eq_true h2, e, Bool.true_and]; rfl
/-- the worth, for the player who is to give; to place p; who has placed p on s -/
def qWG (w : Int32) (n : Nat) (f u : Int32) (d : Int64) : Int32 := if qGw w n f u d = true then 1 else if qGl w n f u d = true then -1 else 0
def qWP (w : Int32) (n : Nat) (f u : Int32) (d : Int64) (p : Nat) : Int32 := if ¬ qWin f d w (nI p) = 0 ∨ qPw w n f u d p = true then 1 else if qPl w n f u d p = true then -1 else 0
def qWA (w : Int32) (n : Nat) (f u : Int32) (d : Int64) (p s : Nat) : Int32 := if qHas (qWin f d w (nI p)) (nI s) = true then 1 else qWG w (n - 1) (f ||| qBit (nI s)) (u ||| qBit (nI p)) (qPutD d (nI p) (nI s))
def findN (P : Nat → Bool) : Nat → Nat → Nat
  | 0, k => k
  | m + 1, k => if P k = true then k else findN P m (k + 1)
theorem findN_s {P : Nat → Bool} {k z : Nat} (hk : k < 15) (h : P k = false) (e : z = findN P (15 - k) k) : z = findN P (15 - (k + 1)) (k + 1) := by
  rw [e, show 15 - k = (15 - (k + 1)) + 1 by omega]
  exact if_neg (by rw [h]; decide)
theorem findN_t {P : Nat → Bool} {k z : Nat} (hk : k < 15) (h : P k = true) (e : z = findN P (15 - k) k) : z = k := by
  rw [e, show 15 - k = (15 - (k + 1)) + 1 by omega]
  exact if_pos h
theorem findN_15 {P : Nat → Bool} {k z : Nat} (hk : k = 15) (e : z = findN P (15 - k) k) : z = k := by
  subst hk; exact e
def qBPF (w : Int32) (n : Nat) (f u : Int32) (d : Int64) (k : Nat) : Bool := !qHas u (nI k) && decide (-qWP w n f u d k = qWG w n f u d)
def qBP (w : Int32) (n : Nat) (f u : Int32) (d : Int64) : Nat := findN (qBPF w n f u d) 15 0
def qBSF (w : Int32) (n : Nat) (f u : Int32) (d : Int64) (p k : Nat) : Bool := !qHas f (nI k) && decide (qWA w n f u d p k = qWP w n f u d p)
def qBS (w : Int32) (n : Nat) (f u : Int32) (d : Int64) (p : Nat) : Nat := findN (qBSF w n f u d p) 15 0
