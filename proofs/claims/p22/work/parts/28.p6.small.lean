/-! pure: how many; the piece on a square; whether looking ahead is allowed -/
theorem qU_n {x s : Int32} {k : Nat} (h : (s.toUInt32 &&& Int32.toUInt32 31).toBitVec % 32 = BitVec.ofNat 32 k) (hk : k < 32) : (qU x s).toBitVec.toNat = x.toBitVec.toNat >>> k := by
  show ((x.toUInt32 >>> (s.toUInt32 &&& Int32.toUInt32 31)).toBitVec).toNat = _
  rw [UInt32.toBitVec_shiftRight, h, BitVec.ushiftRight_eq', BitVec.toNat_ushiftRight, BitVec.toNat_ofNat, Nat.mod_eq_of_lt (by omega)]
  rfl
theorem nn_and (a b : Int32) : (a &&& b).toBitVec.toNat = a.toBitVec.toNat &&& b.toBitVec.toNat := by rw [Int32.toBitVec_and, BitVec.toNat_and]
theorem nn_add {a b : Int32} (h : a.toBitVec.toNat + b.toBitVec.toNat < 2 ^ 32) : (a + b).toBitVec.toNat = a.toBitVec.toNat + b.toBitVec.toNat := by rw [Int32.toBitVec_add, BitVec.toNat_add, Nat.mod_eq_of_lt h]
theorem nn_sub {a b : Int32} (h : b.toBitVec.toNat ≤ a.toBitVec.toNat) : (a - b).toBitVec.toNat = a.toBitVec.toNat - b.toBitVec.toNat := by
  rw [Int32.toBitVec_sub, BitVec.toNat_sub_of_le h]
theorem bc_n {f : Int32} (hf : f.toBitVec.toNat < 65536) : (qBc f).toBitVec.toNat = npc f.toBitVec.toNat := by
  have sh : ∀ (x k : Nat), x >>> k ≤ x := fun x k => by rw [Nat.shiftRight_eq_div_pow]; exact Nat.div_le_self _ _
  have c1 : (1431655765 : Int32).toBitVec.toNat = 1431655765 := by decide
  have c2 : (858993459 : Int32).toBitVec.toNat = 858993459 := by decide
  have c3 : (252645135 : Int32).toBitVec.toNat = 252645135 := by decide
  have c4 : (63 : Int32).toBitVec.toNat = 63 := by decide
  have u1 : ∀ x, (qU x 1).toBitVec.toNat = x.toBitVec.toNat >>> 1 := fun x => qU_n (by decide) (by decide)
  have u2 : ∀ x, (qU x 2).toBitVec.toNat = x.toBitVec.toNat >>> 2 := fun x => qU_n (by decide) (by decide)
  have u4 : ∀ x, (qU x 4).toBitVec.toNat = x.toBitVec.toNat >>> 4 := fun x => qU_n (by decide) (by decide)
  have u8 : ∀ x, (qU x 8).toBitVec.toNat = x.toBitVec.toNat >>> 8 := fun x => qU_n (by decide) (by decide)
  have u16 : ∀ x, (qU x 16).toBitVec.toNat = x.toBitVec.toNat >>> 16 := fun x => qU_n (by decide) (by decide)
  have e1 : (qB1 f).toBitVec.toNat = f.toBitVec.toNat - ((f.toBitVec.toNat >>> 1) &&& 1431655765) := by
    unfold qB1
    have e : (qU f 1 &&& 1431655765).toBitVec.toNat = (f.toBitVec.toNat >>> 1) &&& 1431655765 := by rw [nn_and, u1, c1]
    rw [nn_sub (by rw [e]; exact Nat.le_trans Nat.and_le_left (sh _ _)), e]
  have l1 : (qB1 f).toBitVec.toNat < 65536 := by rw [e1]; omega
  have e2 : (qB2 (qB1 f)).toBitVec.toNat = ((qB1 f).toBitVec.toNat &&& 858993459) + (((qB1 f).toBitVec.toNat >>> 2) &&& 858993459) ∧ (qB2 (qB1 f)).toBitVec.toNat < 131072 := by
    unfold qB2
    have a : ((qB1 f) &&& 858993459).toBitVec.toNat = (qB1 f).toBitVec.toNat &&& 858993459 := by rw [nn_and, c2]
    have b : (qU (qB1 f) 2 &&& 858993459).toBitVec.toNat = ((qB1 f).toBitVec.toNat >>> 2) &&& 858993459 := by rw [nn_and, u2, c2]
    have la : (qB1 f).toBitVec.toNat &&& 858993459 ≤ (qB1 f).toBitVec.toNat := Nat.and_le_left
    have lb : ((qB1 f).toBitVec.toNat >>> 2) &&& 858993459 ≤ (qB1 f).toBitVec.toNat := Nat.le_trans Nat.and_le_left (sh _ _)
    rw [nn_add (by rw [a, b]; omega), a, b]
    exact ⟨rfl, by omega⟩
  have e3 : (qB3 (qB2 (qB1 f))).toBitVec.toNat = ((qB2 (qB1 f)).toBitVec.toNat + ((qB2 (qB1 f)).toBitVec.toNat >>> 4)) &&& 252645135 ∧ (qB3 (qB2 (qB1 f))).toBitVec.toNat < 262144 := by
    unfold qB3
    have l2 := e2.2
    have lb := sh (qB2 (qB1 f)).toBitVec.toNat 4
    have le : ((qB2 (qB1 f)).toBitVec.toNat + ((qB2 (qB1 f)).toBitVec.toNat >>> 4)) &&& 252645135 ≤ ((qB2 (qB1 f)).toBitVec.toNat + ((qB2 (qB1 f)).toBitVec.toNat >>> 4)) := Nat.and_le_left
    rw [nn_and, nn_add (by rw [u4]; omega), u4, c3]
    exact ⟨rfl, by omega⟩
  have e4 : (qB4 (qB3 (qB2 (qB1 f)))).toBitVec.toNat = (qB3 (qB2 (qB1 f))).toBitVec.toNat + ((qB3 (qB2 (qB1 f))).toBitVec.toNat >>> 8) ∧ (qB4 (qB3 (qB2 (qB1 f)))).toBitVec.toNat < 524288 := by
    unfold qB4
    have l2 := e3.2
    have lb := sh (qB3 (qB2 (qB1 f))).toBitVec.toNat 8
    rw [nn_add (by rw [u8]; omega), u8]
    exact ⟨rfl, by omega⟩
  have e5 : (qB5 (qB4 (qB3 (qB2 (qB1 f))))).toBitVec.toNat = (qB4 (qB3 (qB2 (qB1 f)))).toBitVec.toNat + ((qB4 (qB3 (qB2 (qB1 f)))).toBitVec.toNat >>> 16) := by
    unfold qB5
    have l2 := e4.2
    have lb := sh (qB4 (qB3 (qB2 (qB1 f)))).toBitVec.toNat 16
    rw [nn_add (by rw [u16]; omega), u16]
  show (qB5 (qB4 (qB3 (qB2 _))) &&& 63).toBitVec.toNat = _
  rw [nn_and, c4, e5, e4.1, e3.1, e2.1, e1]
  rfl
theorem nI_nat : ∀ k, k < 64 → (nI k).toBitVec.toNat = k := by decide +kernel
theorem pcn_le (x : Nat) : ∀ k, pcn x k ≤ k
  | 0 => Nat.le_refl 0
  | k + 1 => by
    have := pcn_le x k
    have := Bool.toNat_le (x.testBit k)
    unfold pcn
    omega
theorem bc_pcn {f : Int32} (hf : f.toBitVec.toNat < 65536) : qBc f = nI (pcn f.toBitVec.toNat 16) := by
  have h := pcn_le f.toBitVec.toNat 16
  rw [← Int32.toBitVec_inj]
  apply BitVec.eq_of_toNat_eq
  rw [bc_n hf, nI_nat _ (by omega), npc_ok hf]
section PM
variable {P O : Nat → Int32} {pn : Nat} {f us : Int32} {d : Int64} {w : Int32} {p n : Nat}
theorem pcn_cnt (h : KB P f d) : ∀ k, k ≤ 16 → pcn f.toBitVec.toNat k + cntv P (-1) k = k
  | 0, _ => rfl
  | k + 1, hk => by
    have ih := pcn_cnt h k (by omega)
    have e : f.toBitVec.toNat.testBit k = !decide (P k = -1) := KB_f h (by omega)
    rw [pcn, cntv, e]
    by_cases c : P k = -1
    · rw [if_pos c, decide_eq_true c, show (!true).toNat = 0 from rfl]; omega
    · rw [if_neg c, decide_eq_false c, show (!false).toNat = 1 from rfl]; omega
theorem KB_cnt (h : KB P f d) : qBc f = nI (16 - cntv P (-1) 16) := by
  rw [bc_pcn h.2.2.1]
  have := pcn_cnt h 16 (Nat.le_refl 16)
  rw [show pcn f.toBitVec.toNat 16 = 16 - cntv P (-1) 16 by omega]
theorem RB_bc (h : RB P O pn f us d) : qBc f = nI pn := by
  have := h.2.2.2.1
  rw [KB_cnt h.1, show 16 - cntv P (-1) 16 = pn by omega]
theorem RB_le (h : RB P O pn f us d) : pn ≤ 16 := by
  have := h.2.2.2.1
  omega
theorem lmE_bc : ∀ l, l < 19 → ∀ e0 e1 e2 e3 : Bool, qBc (lmE l e0 e1 e2 e3) = nI (e0.toNat + e1.toNat + e2.toNat + e3.toNat) := by decide +kernel
theorem nn_c : ∀ a b c e : Bool, a.toNat + b.toNat + c.toNat + e.toNat + ((!a).toNat + (!b).toNat + (!c).toNat + (!e).toNat) = 4 := by decide
theorem ln_many (h : KB P f d) {l : Nat} (hl : l < 19) : qBc (LM l &&& f) = nI (mFul P l 4) := by
  rw [ln_and h hl, lmE_bc l hl]
  have a := ful_e P l
  have b := nn_c (em P l 0) (em P l 1) (em P l 2) (em P l 3)
  rw [show (!em P l 0).toNat + (!em P l 1).toNat + (!em P l 2).toNat + (!em P l 3).toNat = mFul P l 4 by omega]
def paE (a b c e : Bool) : Int32 :=
  let x0 : Int32 := if a = true then 0 ||| qBit (nI 0) else 0
  let x1 := if b = true then x0 ||| qBit (nI 1) else x0
  let x2 := if c = true then x1 ||| qBit (nI 2) else x1
  if e = true then x2 ||| qBit (nI 3) else x2
theorem paE_ok : ∀ p, p < 16 → paE (pbit (nI p) 0) (pbit (nI p) 1) (pbit (nI p) 2) (pbit (nI p) 3) = nI p := by decide +kernel
theorem at_eq (h : KB P f d) {s : Nat} (hs : s < 16) : qAt f d (nI s) = P s := by
  unfold qAt
  rw [h.2.1 s hs]
  rcases h.1 s hs with e | ⟨p, hp, e⟩
  · rw [e, if_neg (by decide)]
  · rw [e, if_pos (decide_eq_true (nI_n1 p hp))]
    refine Eq.trans ?_ (paE_ok p hp)
    rw [← e, ← h.2.2.2 0 (by decide) s hs, ← h.2.2.2 1 (by decide) s hs, ← h.2.2.2 2 (by decide) s hs, ← h.2.2.2 3 (by decide) s hs]
    rfl
theorem far_3 : ∀ k, k ≤ 16 → ((¬ (16 : Int32) - nI k ≤ 8) ↔ 8 < 16 - k) := by decide +kernel
theorem far_4 : ∀ k, k ≤ 16 → ((¬ (16 : Int32) - nI k ≤ 6) ↔ 6 < 16 - k) := by decide +kernel
theorem can_iff (h : RB P O pn f us d) {st np : Int32} : qCan f st np = true ↔ ¬ st = 2 ∧ ¬ mFar np pn := by
  have a := far_3 pn (RB_le h)
  have b := far_4 pn (RB_le h)
  unfold qCan mFar
  rw [RB_bc h, Bool.and_eq_true, Bool.and_eq_true, decide_eq_true_eq, decide_eq_true_eq, decide_eq_true_eq, a, b]
  constructor
  · rintro ⟨⟨x, y⟩, z⟩
    exact ⟨z, fun q => q.elim x y⟩
  · rintro ⟨z, q⟩
    exact ⟨⟨fun x => q (Or.inl x), fun y => q (Or.inr y)⟩, z⟩
theorem num_in (v : Int32) : qNum v = mIn v 16 := by
  unfold qNum mIn
  rw [decide_eq_decide.mpr ((Int32.not_le : ¬ (16 : Int32) ≤ v ↔ v < 16))]
theorem ln_in (v w : Int32) : mIn v (nI (mMany w)) = true ↔ (¬ v < 0 ∧ ¬ nI (qLn w) ≤ v) := by
  unfold mIn
  rw [Bool.and_eq_true, decide_eq_true_eq, decide_eq_true_eq, many_eq, Int32.not_le]
end PM
