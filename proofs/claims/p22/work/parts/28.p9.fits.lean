/-! pure: in how many ways one board is the other -/
section WY
variable {P T : Nat → Int32} {f fo : Int32} {d dd : Int64} {t u y : Nat}
/-- the marks of a renaming fit -/
def fitY (G : Nat → Nat → Bool) (y : Nat) : Bool := allN (fun k => G (dg y k) k) 4
def colG (fo : Int32) (D dd : Int64) (j k : Nat) : Bool := decide (qOne (qLev dd fo) (nI j) = qOne (qLev D fo) (nI k))
theorem mtF_iff (hsp : ∀ s, s < 16 → (P s = -1 ↔ T (mtq s u) = -1)) {fl : Nat} (hfl : fl < 16) : allN (mtF P T y (16 * u + fl)) 16 = true ↔ ∀ s, s < 16 → ¬ P s = -1 → T (mtq s u) = mRn (P s) y (nI fl) := by
  rw [allN_iff]
  have e1 : (16 * u + fl) / 16 = u := by omega
  have e2 : (16 * u + fl) % 16 = fl := by omega
  constructor
  · intro q s hs hn
    have := q s hs
    unfold mtF at this
    rw [if_neg hn, e1, e2, Bool.and_eq_true, decide_eq_true_eq, decide_eq_true_eq] at this
    exact this.2
  · intro q s hs
    unfold mtF
    rw [e1, e2]
    by_cases c : P s = -1
    · rw [if_pos c]; exact decide_eq_true ((hsp s hs).mp c)
    · rw [if_neg c, Bool.and_eq_true, decide_eq_true_eq, decide_eq_true_eq]
      exact ⟨fun z => c ((hsp s hs).mpr z), q s hs c⟩
/-- one renaming, all sixteen exchanges: at most one fits -/
theorem inner_eq (h : KB P f d) (ho : KB T fo dd) (ht : t < 8) (hu : ∀ s, s < 16 → mtq s u = tsq s t) (hsp : ∀ s, s < 16 → (P s = -1 ↔ T (tsq s t) = -1)) {r0 : Nat} (hr0 : r0 < 16) (hP0 : ¬ P r0 = -1) (hl : fo &&& -fo = qBit (nI (tsq r0 t))) (hy : y < 256) (hw : isW y = true) :
    sumN (fun fl => if allN (mtF P T y (16 * u + fl)) 16 = true then 1 else 0) 16 = if fitY (colG fo (qTurned d t) dd) y = true then 1 else 0 := by
  have hsp2 : ∀ s, s < 16 → (P s = -1 ↔ T (mtq s u) = -1) := fun s hs => by rw [hu s hs]; exact hsp s hs
  have pc : ∀ s, s < 16 → ¬ P s = -1 → ∃ p, p < 16 ∧ P s = nI p := fun s hs hn => (h.1 s hs).resolve_left hn
  have tc : ∀ s, s < 16 → ¬ P s = -1 → ∃ q, q < 16 ∧ T (tsq s t) = nI q := fun s hs hn => (ho.1 _ (tsq_in t ht s hs)).resolve_left (fun z => hn ((hsp s hs).mpr z))
  have mt : ∀ fl, fl < 16 → (allN (mtF P T y (16 * u + fl)) 16 = true ↔ ∀ s, s < 16 → ¬ P s = -1 → ∀ k, k < 4 → pbit (T (tsq s t)) (dg y k) = (pbit (P s) k ^^ (nI fl).toBitVec.getLsbD (dg y k))) := by
    intro fl hfl
    rw [mtF_iff hsp2 hfl]
    constructor
    · intro z s hs hn k hk
      have z := z s hs hn
      obtain ⟨p, hp, e⟩ := pc s hs hn
      obtain ⟨q, hq, e2⟩ := tc s hs hn
      rw [hu s hs, e, e2] at z
      rw [e, e2, pbit_n hp, pbit_n hq]
      exact (rn_iff hy hw hp hq hfl).mp z k hk
    · intro z s hs hn
      obtain ⟨p, hp, e⟩ := pc s hs hn
      obtain ⟨q, hq, e2⟩ := tc s hs hn
      rw [hu s hs, e, e2]
      refine (rn_iff hy hw hp hq hfl).mpr (fun k hk => ?_)
      have z := z s hs hn k hk
      rw [e, e2, pbit_n hp, pbit_n hq] at z
      exact z
  rw [sumN_one (F := fun fl => allN (mtF P T y (16 * u + fl)) 16) 16 ?_]
  · have key : anyN (fun fl => allN (mtF P T y (16 * u + fl)) 16) 16 = fitY (colG fo (qTurned d t) dd) y := by
      rw [Bool.eq_iff_iff, anyN_iff]
      unfold fitY
      rw [allN_iff]
      constructor
      · rintro ⟨fl, hfl, z⟩ k hk
        have z := (mt fl hfl).mp z
        refine decide_eq_true ((col_iff h ho ht hsp hr0 hP0 hl (dg_lt y k) hk).mpr (fun s hs hn => ?_))
        rw [z s hs hn k hk, z r0 hr0 hP0 k hk]
        cases pbit (P s) k <;> cases pbit (P r0) k <;> cases (nI fl).toBitVec.getLsbD (dg y k) <;> rfl
      · intro z
        have z : ∀ k, k < 4 → ∀ s, s < 16 → ¬ P s = -1 → (pbit (T (tsq s t)) (dg y k) ^^ pbit (T (tsq r0 t)) (dg y k)) = (pbit (P s) k ^^ pbit (P r0) k) := fun k hk => (col_iff h ho ht hsp hr0 hP0 hl (dg_lt y k) hk).mp (of_decide_eq_true (z k hk))
        obtain ⟨p0, hp0, e0⟩ := pc r0 hr0 hP0
        obtain ⟨q0, hq0, e1⟩ := tc r0 hr0 hP0
        have hx : (nI q0 ^^^ mRnC (nI p0) (dgr y) 4).toBitVec.toNat < 2 ^ 4 := by
          rw [Int32.toBitVec_xor, BitVec.toNat_xor]
          exact Nat.xor_lt_two_pow (nI_4 q0 hq0) (rn_lt y hy hw p0 hp0)
        obtain ⟨fl, hfl, e2⟩ := n16_ex hx
        refine ⟨fl, hfl, (mt fl hfl).mpr (fun s hs hn k hk => ?_)⟩
        have z := z k hk s hs hn
        rw [← e2, b_xor, rn_bit y hy hw p0 hp0 k hk]
        rw [e0, e1, pbit_n hp0, pbit_n hq0] at z
        revert z
        cases pbit (T (tsq s t)) (dg y k) <;> cases pbit (P s) k <;> cases (nI q0).toBitVec.getLsbD (dg y k) <;> cases (nI p0).toBitVec.getLsbD k <;> decide
    rw [key]
  · intro a b ha hb x1 x2
    have x1 := (mt a ha).mp x1 r0 hr0 hP0
    have x2 := (mt b hb).mp x2 r0 hr0 hP0
    refine nI_i16 ha hb (bx32 (fun i hi => ?_))
    by_cases h4 : i < 4
    · obtain ⟨k, hk, z⟩ := w_sur y hy hw i h4
      subst z
      have c1 := x1 k hk
      have c2 := x2 k hk
      rw [c1] at c2
      revert c2
      cases pbit (P r0) k <;> cases (nI a).toBitVec.getLsbD (dg y k) <;> cases (nI b).toBitVec.getLsbD (dg y k) <;> decide
    · rw [n4_hi (nI_4 a ha) (by omega), n4_hi (nI_4 b hb) (by omega)]
end WY
/-! how many renamings fit: one after the other -/
def sum4 (h : Nat → Int) : Int := h 0 + h 1 + h 2 + h 3
def sm4 (h : Nat → Nat) : Nat := h 0 + h 1 + h 2 + h 3
def Ib (b : Bool) : Int := if b = true then 1 else 0
theorem sumN_split (g : Nat → Nat) : ∀ n, sumN g (4 * n) = sm4 (fun r => sumN (fun q => g (4 * q + r)) n)
  | 0 => rfl
  | n + 1 => by
    have ih : sumN g (4 * n) = sumN (fun q => g (4 * q + 0)) n + sumN (fun q => g (4 * q + 1)) n + sumN (fun q => g (4 * q + 2)) n + sumN (fun q => g (4 * q + 3)) n := sumN_split g n
    show sumN g (4 * n) + g (4 * n) + g (4 * n + 1) + g (4 * n + 2) + g (4 * n + 3) = (sumN (fun q => g (4 * q + 0)) n + g (4 * n + 0)) + (sumN (fun q => g (4 * q + 1)) n + g (4 * n + 1)) + (sumN (fun q => g (4 * q + 2)) n + g (4 * n + 2)) + (sumN (fun q => g (4 * q + 3)) n + g (4 * n + 3))
    rw [ih, show g (4 * n + 0) = g (4 * n) from rfl]
    omega
def di2 (a b : Nat) : Bool := !decide (a = b)
def di3 (a b c : Nat) : Bool := di2 a b && !decide (a = c) && !decide (b = c)
def di4 (a b c e : Nat) : Bool := di3 a b c && !decide (a = e) && !decide (b = e) && !decide (c = e)
theorem isW_d : ∀ a, a < 4 → ∀ b, b < 4 → ∀ c, c < 4 → ∀ e, e < 4 → isW (4 * (4 * (4 * e + c) + b) + a) = di4 a b c e := by decide +kernel
theorem dg_d : ∀ a, a < 4 → ∀ b, b < 4 → ∀ c, c < 4 → ∀ e, e < 4 → dg (4 * (4 * (4 * e + c) + b) + a) 0 = a ∧ dg (4 * (4 * (4 * e + c) + b) + a) 1 = b ∧ dg (4 * (4 * (4 * e + c) + b) + a) 2 = c ∧ dg (4 * (4 * (4 * e + c) + b) + a) 3 = e := by decide +kernel
def num4 (g0 g1 g2 g3 : Bool) (j : Nat) : Bool := if j = 0 then g0 else if j = 1 then g1 else if j = 2 then g2 else g3
theorem st3 : ∀ a, a < 4 → ∀ b, b < 4 → ∀ c, c < 4 → ∀ g0 g1 g2 g3 : Bool, di3 a b c = true → sum4 (fun e => Ib (di4 a b c e && num4 g0 g1 g2 g3 e)) = sum4 (fun e => Ib (num4 g0 g1 g2 g3 e)) - (Ib (num4 g0 g1 g2 g3 a) + Ib (num4 g0 g1 g2 g3 b) + Ib (num4 g0 g1 g2 g3 c)) := by decide +kernel
theorem st2 : ∀ a, a < 4 → ∀ b, b < 4 → ∀ g0 g1 g2 g3 : Bool, di2 a b = true → sum4 (fun e => Ib (di3 a b e && num4 g0 g1 g2 g3 e)) = sum4 (fun e => Ib (num4 g0 g1 g2 g3 e)) - (Ib (num4 g0 g1 g2 g3 a) + Ib (num4 g0 g1 g2 g3 b)) := by decide +kernel
theorem st1 : ∀ a, a < 4 → ∀ g0 g1 g2 g3 : Bool, sum4 (fun e => Ib (di2 a e && num4 g0 g1 g2 g3 e)) = sum4 (fun e => Ib (num4 g0 g1 g2 g3 e)) - Ib (num4 g0 g1 g2 g3 a) := by decide +kernel
