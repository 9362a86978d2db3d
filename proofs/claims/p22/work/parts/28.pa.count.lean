/-! pure: the number of ways, both ways of counting -/
theorem sum4_congr {g h : Nat → Int} (e : ∀ j, j < 4 → g j = h j) : sum4 g = sum4 h := by
  unfold sum4
  rw [e 0 (by decide), e 1 (by decide), e 2 (by decide), e 3 (by decide)]
theorem sum4_mul (h : Nat → Int) (x : Int) : sum4 (fun j => h j * x) = sum4 h * x := by
  unfold sum4
  rw [Int.add_mul, Int.add_mul, Int.add_mul]
theorem sum4_0 {h : Nat → Int} (e : ∀ j, j < 4 → h j = 0) : sum4 h = 0 := by
  unfold sum4
  rw [e 0 (by decide), e 1 (by decide), e 2 (by decide), e 3 (by decide)]; rfl
theorem sm4_cast (h : Nat → Nat) : ((sm4 h : Nat) : Int) = sum4 (fun j => (h j : Int)) := by
  unfold sm4 sum4
  rw [Int.natCast_add, Int.natCast_add, Int.natCast_add]
theorem num4_at (G : Nat → Bool) : ∀ j, j < 4 → num4 (G 0) (G 1) (G 2) (G 3) j = G j := by
  intro j hj
  rcases (by omega : j = 0 ∨ j = 1 ∨ j = 2 ∨ j = 3) with e | e | e | e <;> subst e <;> rfl
theorem Ib_f : Ib false = 0 := rfl
theorem Ib_t : Ib true = 1 := rfl
section CN
variable {G N : Nat → Nat → Bool}
def cC (G : Nat → Nat → Bool) (k : Nat) : Int := sum4 (fun j => Ib (G j k))
def dD (G N : Nat → Nat → Bool) : Nat → Int
  | 0 => cC G 0
  | 1 => cC G 1 - Ib (N 0 1)
  | 2 => cC G 2 - (Ib (N 0 2) + Ib (N 1 2))
  | _ => cC G 3 - (Ib (N 0 3) + Ib (N 1 3) + Ib (N 2 3))
def cons (G N : Nat → Nat → Bool) : Prop := ∀ j i k, G j i = true → G j k = N i k
theorem cn3 (h : cons G N) {a b c : Nat} (ha : a < 4) (hb : b < 4) (hc : c < 4) : sum4 (fun e => Ib (di4 a b c e && (((G a 0 && G b 1) && G c 2) && G e 3))) = Ib (di3 a b c && ((G a 0 && G b 1) && G c 2)) * dD G N 3 := by
  cases e1 : di3 a b c
  · rw [Bool.false_and, Ib_f, Int.zero_mul]
    refine sum4_0 (fun e _ => ?_)
    unfold di4
    rw [e1]; rfl
  · cases e2 : ((G a 0 && G b 1) && G c 2)
    · rw [Bool.and_false, Ib_f, Int.zero_mul]
      refine sum4_0 (fun e _ => ?_)
      rw [Bool.false_and, Bool.and_false]; rfl
    · have s := st3 a ha b hb c hc (G 0 3) (G 1 3) (G 2 3) (G 3 3) e1
      rw [num4_at (fun j => G j 3) a ha, num4_at (fun j => G j 3) b hb, num4_at (fun j => G j 3) c hc] at s
      have e2 := Bool.and_eq_true_iff.mp e2
      have e3 := Bool.and_eq_true_iff.mp e2.1
      rw [h a 0 3 e3.1, h b 1 3 e3.2, h c 2 3 e2.2] at s
      have q1 : sum4 (fun e => Ib (di4 a b c e && num4 (G 0 3) (G 1 3) (G 2 3) (G 3 3) e)) = sum4 (fun e => Ib (di4 a b c e && G e 3)) := sum4_congr (fun e he => by rw [num4_at (fun j => G j 3) e he])
      have q2 : sum4 (fun e => Ib (num4 (G 0 3) (G 1 3) (G 2 3) (G 3 3) e)) = cC G 3 := sum4_congr (fun e he => by rw [num4_at (fun j => G j 3) e he])
      rw [q1, q2] at s
      simp only [Bool.true_and]
      rw [Ib_t, Int.one_mul]
      exact s
theorem cn2 (h : cons G N) {a b : Nat} (ha : a < 4) (hb : b < 4) : sum4 (fun e => Ib (di3 a b e && ((G a 0 && G b 1) && G e 2))) = Ib (di2 a b && (G a 0 && G b 1)) * dD G N 2 := by
  cases e1 : di2 a b
  · rw [Bool.false_and, Ib_f, Int.zero_mul]
    refine sum4_0 (fun e _ => ?_)
    unfold di3
    rw [e1]; rfl
  · cases e2 : (G a 0 && G b 1)
    · rw [Bool.and_false, Ib_f, Int.zero_mul]
      refine sum4_0 (fun e _ => ?_)
      rw [Bool.false_and, Bool.and_false]; rfl
    · have s := st2 a ha b hb (G 0 2) (G 1 2) (G 2 2) (G 3 2) e1
      rw [num4_at (fun j => G j 2) a ha, num4_at (fun j => G j 2) b hb] at s
      have e2 := Bool.and_eq_true_iff.mp e2
      rw [h a 0 2 e2.1, h b 1 2 e2.2] at s
      have q1 : sum4 (fun e => Ib (di3 a b e && num4 (G 0 2) (G 1 2) (G 2 2) (G 3 2) e)) = sum4 (fun e => Ib (di3 a b e && G e 2)) := sum4_congr (fun e he => by rw [num4_at (fun j => G j 2) e he])
      have q2 : sum4 (fun e => Ib (num4 (G 0 2) (G 1 2) (G 2 2) (G 3 2) e)) = cC G 2 := sum4_congr (fun e he => by rw [num4_at (fun j => G j 2) e he])
      rw [q1, q2] at s
      simp only [Bool.true_and]
      rw [Ib_t, Int.one_mul]
      exact s
theorem cn1 (h : cons G N) {a : Nat} (ha : a < 4) : sum4 (fun e => Ib (di2 a e && (G a 0 && G e 1))) = Ib (G a 0) * dD G N 1 := by
  cases e2 : G a 0
  · rw [Ib_f, Int.zero_mul]
    refine sum4_0 (fun e _ => ?_)
    rw [Bool.false_and, Bool.and_false]; rfl
  · have s := st1 a ha (G 0 1) (G 1 1) (G 2 1) (G 3 1)
    rw [num4_at (fun j => G j 1) a ha] at s
    rw [h a 0 1 e2] at s
    have q1 : sum4 (fun e => Ib (di2 a e && num4 (G 0 1) (G 1 1) (G 2 1) (G 3 1) e)) = sum4 (fun e => Ib (di2 a e && G e 1)) := sum4_congr (fun e he => by rw [num4_at (fun j => G j 1) e he])
    have q2 : sum4 (fun e => Ib (num4 (G 0 1) (G 1 1) (G 2 1) (G 3 1) e)) = cC G 1 := sum4_congr (fun e he => by rw [num4_at (fun j => G j 1) e he])
    rw [q1, q2] at s
    simp only [Bool.true_and]
    rw [Ib_t, Int.one_mul]
    exact s
def indY (G : Nat → Nat → Bool) (y : Nat) : Nat := if isW y = true then (if fitY G y = true then 1 else 0) else 0
theorem ind_at (G : Nat → Nat → Bool) {a b c e : Nat} (ha : a < 4) (hb : b < 4) (hc : c < 4) (he : e < 4) : ((indY G (4 * (4 * (4 * e + c) + b) + a) : Nat) : Int) = Ib (di4 a b c e && (((G a 0 && G b 1) && G c 2) && G e 3)) := by
  obtain ⟨d0, d1, d2, d3⟩ := dg_d a ha b hb c hc e he
  have hf : fitY G (4 * (4 * (4 * e + c) + b) + a) = (((G a 0 && G b 1) && G c 2) && G e 3) := by
    show ((((true && G (dg _ 0) 0) && G (dg _ 1) 1) && G (dg _ 2) 2) && G (dg _ 3) 3) = _
    rw [d0, d1, d2, d3, Bool.true_and]
  unfold indY
  rw [isW_d a ha b hb c hc e he, hf]
  cases di4 a b c e
  · rfl
  · cases (((G a 0 && G b 1) && G c 2) && G e 3) <;> rfl
theorem cn_all (h : cons G N) : ((sumN (indY G) 256 : Nat) : Int) = ((dD G N 0 * dD G N 1) * dD G N 2) * dD G N 3 := by
  have e : sumN (indY G) 256 = sm4 (fun a => sm4 (fun b => sm4 (fun c => sm4 (fun e => indY G (4 * (4 * (4 * e + c) + b) + a))))) := by
    rw [show (256 : Nat) = 4 * 64 from rfl, sumN_split]
    have e2 : ∀ a, sumN (fun q => indY G (4 * q + a)) 64 = sm4 (fun b => sm4 (fun c => sm4 (fun e => indY G (4 * (4 * (4 * e + c) + b) + a)))) := by
      intro a
      rw [show (64 : Nat) = 4 * 16 from rfl, sumN_split (fun q => indY G (4 * q + a))]
      have e3 : ∀ b, sumN (fun q => indY G (4 * (4 * q + b) + a)) 16 = sm4 (fun c => sm4 (fun e => indY G (4 * (4 * (4 * e + c) + b) + a))) := by
        intro b
        rw [show (16 : Nat) = 4 * 4 from rfl, sumN_split (fun q => indY G (4 * (4 * q + b) + a))]
        have e4 : ∀ c, sumN (fun q => indY G (4 * (4 * (4 * q + c) + b) + a)) 4 = sm4 (fun e => indY G (4 * (4 * (4 * e + c) + b) + a)) := by
          intro c
          show 0 + _ + _ + _ + _ = _
          rw [Nat.zero_add]; rfl
        simp only [e4]
      simp only [e3]
    simp only [e2]
  rw [e, sm4_cast]
  have s0 : ∀ a, a < 4 → ((sm4 (fun b => sm4 (fun c => sm4 (fun e => indY G (4 * (4 * (4 * e + c) + b) + a)))) : Nat) : Int) = Ib (G a 0) * (dD G N 1 * (dD G N 2 * dD G N 3)) := by
    intro a ha
    rw [sm4_cast, ← Int.mul_assoc, ← cn1 h ha, ← sum4_mul]
    refine sum4_congr (fun b hb => ?_)
    rw [sm4_cast, ← Int.mul_assoc, ← cn2 h ha hb, ← sum4_mul]
    refine sum4_congr (fun c hc => ?_)
    rw [sm4_cast, ← cn3 h ha hb hc]
    exact sum4_congr (fun e he => ind_at G ha hb hc he)
  rw [sum4_congr s0, sum4_mul]
  show cC G 0 * _ = ((cC G 0 * _) * _) * _
  rw [← Int.mul_assoc, ← Int.mul_assoc]
end CN
theorem eqc_s (d : Int64) (ones : Int32) (k : Nat) : ((qEqC d ones (k + 1) : Nat) : Int) = (qEqC d ones k : Nat) + Ib (decide (qOne d (nI k) = ones)) := by
  rw [qEqC]
  by_cases c : qOne d (nI k) = ones
  · rw [if_pos c, decide_eq_true c, Int.natCast_add]; rfl
  · rw [if_neg c, decide_eq_false c, Ib_f, Int.add_zero]
theorem eqc_0 (d : Int64) (ones : Int32) : ((qEqC d ones 0 : Nat) : Int) = 0 := rfl
theorem nI_z (k : Nat) : nI k = Int32.ofInt (k : Int) := Int32.ofInt_eq_ofNat.symm
theorem nI_sb (a b : Nat) : nI a - nI b = Int32.ofInt ((a : Int) - (b : Int)) := by rw [nI_z, nI_z, Int32.ofInt_sub]
def colN (fo : Int32) (D : Int64) (i k : Nat) : Bool := decide (qOne (qLev D fo) (nI i) = qOne (qLev D fo) (nI k))
theorem col_cons (fo : Int32) (D dd : Int64) : cons (colG fo D dd) (colN fo D) := by
  intro j i k h
  have h := of_decide_eq_true h
  unfold colG colN
  rw [h]
theorem wy_eq (fo : Int32) (D dd : Int64) : qWyC (qLev D fo) (qLev dd fo) 4 = nI (sumN (indY (colG fo D dd)) 256) := by
  rw [nI_z, cn_all (col_cons fo D dd)]
  have e4 : ∀ k, ((qEqC (qLev dd fo) (qOne (qLev D fo) (nI k)) 4 : Nat) : Int) = cC (colG fo D dd) k := by
    intro k
    rw [eqc_s, eqc_s, eqc_s, eqc_s, eqc_0, Int.zero_add]
    rfl
  have f0 : nI (qEqC (qLev dd fo) (qOne (qLev D fo) (nI 0)) 4) - nI (qEqC (qLev D fo) (qOne (qLev D fo) (nI 0)) 0) = Int32.ofInt (dD (colG fo D dd) (colN fo D) 0) := by
    rw [nI_sb, e4, eqc_0, Int.sub_zero]; rfl
  have f1 : nI (qEqC (qLev dd fo) (qOne (qLev D fo) (nI 1)) 4) - nI (qEqC (qLev D fo) (qOne (qLev D fo) (nI 1)) 1) = Int32.ofInt (dD (colG fo D dd) (colN fo D) 1) := by
    rw [nI_sb, e4, eqc_s, eqc_0, Int.zero_add]; rfl
  have f2 : nI (qEqC (qLev dd fo) (qOne (qLev D fo) (nI 2)) 4) - nI (qEqC (qLev D fo) (qOne (qLev D fo) (nI 2)) 2) = Int32.ofInt (dD (colG fo D dd) (colN fo D) 2) := by
    rw [nI_sb, e4, eqc_s, eqc_s, eqc_0, Int.zero_add]; rfl
  have f3 : nI (qEqC (qLev dd fo) (qOne (qLev D fo) (nI 3)) 4) - nI (qEqC (qLev D fo) (qOne (qLev D fo) (nI 3)) 3) = Int32.ofInt (dD (colG fo D dd) (colN fo D) 3) := by
    rw [nI_sb, e4, eqc_s, eqc_s, eqc_s, eqc_0, Int.zero_add]; rfl
  show (((1 * (_ - _)) * (_ - _)) * (_ - _)) * (_ - _) = _
  rw [f0, f1, f2, f3, Int32.one_mul, ← Int32.ofInt_mul, ← Int32.ofInt_mul, ← Int32.ofInt_mul]
