/-! pure: the number of ways, over all turns -/
theorem sumN_add (g : Nat → Nat) (a : Nat) : ∀ b, sumN g (a + b) = sumN g a + sumN (fun j => g (a + j)) b
  | 0 => rfl
  | b + 1 => by
    show sumN g (a + b) + g (a + b) = sumN g a + (sumN (fun j => g (a + j)) b + g (a + b))
    rw [sumN_add g a b, Nat.add_assoc]
theorem sumN_16 (g : Nat → Nat) : ∀ n, sumN g (16 * n) = sumN (fun u => sumN (fun fl => g (16 * u + fl)) 16) n
  | 0 => rfl
  | n + 1 => by
    rw [show 16 * (n + 1) = 16 * n + 16 by omega, sumN_add, sumN_16 g n]
    rfl
theorem sumN_pl (g h : Nat → Nat) : ∀ n, sumN (fun k => g k + h k) n = sumN g n + sumN h n
  | 0 => rfl
  | n + 1 => by rw [sumN, sumN, sumN, sumN_pl g h n]; omega
theorem sumN_com (A : Nat → Nat → Nat) (n : Nat) : ∀ m, sumN (fun y => sumN (fun u => A y u) n) m = sumN (fun u => sumN (fun y => A y u) m) n
  | 0 => (sumN_0 n (fun _ _ => rfl)).symm
  | m + 1 => by
    rw [sumN, sumN_com A n m, ← sumN_pl]
    rfl
def aW (P T : Nat → Int32) (y u : Nat) : Nat := if isW y = true then sumN (fun fl => if allN (mtF P T y (16 * u + fl)) 16 = true then 1 else 0) 16 else 0
theorem w2_sum (P T : Nat → Int32) (y : Nat) : ∀ n, waysC2 P T y n = sumN (fun k => if allN (mtF P T y k) 16 = true then 1 else 0) n
  | 0 => rfl
  | n + 1 => by rw [waysC2, sumN, w2_sum P T y n]
theorem wc_sum (P T : Nat → Int32) : ∀ n, waysC P T n = sumN (fun y => sumN (fun u => aW P T y u) 8) n
  | 0 => rfl
  | n + 1 => by
    rw [waysC, sumN, wc_sum P T n]
    refine congrArg (fun z => sumN (fun y => sumN (fun u => aW P T y u) 8) n + z) ?_
    by_cases c : isW n = true
    · rw [if_pos c, w2_sum, show (128 : Nat) = 16 * 8 from rfl, sumN_16]
      exact sumN_congr 8 (fun u _ => (if_pos c).symm)
    · rw [if_neg c]
      exact (sumN_0 8 (fun u _ => if_neg c)).symm
/-- the ways of one turn of the twin -/
def wT (P T : Nat → Int32) (u : Nat) : Nat := sumN (fun y => aW P T y u) 256
theorem wc_turns (P T : Nat → Int32) : waysC P T 256 = sumN (wT P T) 8 := by
  rw [wc_sum, sumN_com]
  rfl
def tau (t : Nat) : Nat := [0, 4, 1, 6, 2, 5, 3, 7].getD t 0
theorem tau_ok : ∀ t, t < 8 → ∀ s, s < 16 → mtq s (tau t) = tsq s t := by decide +kernel
theorem w24 : sumN (fun y => if isW y = true then 16 else 0) 256 = 384 := by decide +kernel
section WT
variable {P T : Nat → Int32} {f fo : Int32} {d dd : Int64} {t : Nat}
theorem f_zero (ho : KB T fo dd) : fo = 0 ↔ ∀ s, s < 16 → T s = -1 := by
  constructor
  · intro e s hs
    have := KB_f ho hs
    rw [e, b_0] at this
    cases q : decide (T s = -1)
    · rw [q] at this; exact absurd this (by decide)
    · exact of_decide_eq_true q
  · intro e
    refine bx32 (fun i hi => ?_)
    rw [b_0]
    by_cases h16 : i < 16
    · rw [KB_f ho h16, decide_eq_true (e i h16)]; rfl
    · exact f_hi ho (by omega)
theorem ways_eq (h : KB P f d) (ho : KB T fo dd) (ht : t < 8) : qWays f d t fo dd = nI (wT P T (tau t)) := by
  have hu : ∀ s, s < 16 → mtq s (tau t) = tsq s t := tau_ok t ht
  unfold qWays
  by_cases hs : (qTurned f.toInt64 t).toInt32 = fo
  · rw [if_neg (fun q => q hs)]
    have hsp := (tfil_iff h ho ht).mp hs
    by_cases h0 : fo = 0
    · rw [if_pos h0]
      have hT := (f_zero ho).mp h0
      have hP : ∀ s, s < 16 → P s = -1 := fun s hs => (hsp s hs).mpr (hT _ (tsq_in t ht s hs))
      have e : wT P T (tau t) = 384 := by
        rw [← w24]
        refine sumN_congr 256 (fun y hy => ?_)
        unfold aW
        have q : ∀ fl, fl < 16 → (if allN (mtF P T y (16 * tau t + fl)) 16 = true then 1 else 0) = 1 := fun fl hfl => by
          rw [if_pos]
          refine (mtF_iff (fun s hs => ?_) hfl).mpr (fun s hs hn => absurd (hP s hs) hn)
          rw [hu s hs]
          exact hsp s hs
        rw [sumN_congr 16 q]
        rfl
      rw [e]; rfl
    · rw [if_neg h0]
      obtain ⟨s0, hs0, b0, hl⟩ := low_ex (fun i hi => f_hi ho hi) h0
      obtain ⟨r0, hr0, e0⟩ := tsq_sur t ht s0 hs0
      subst e0
      have hP0 : ¬ P r0 = -1 := fun q => by
        rw [KB_f ho (tsq_in t ht r0 hr0), decide_eq_true ((hsp r0 hr0).mp q)] at b0
        cases b0
      rw [wy_eq]
      refine congrArg nI ?_
      refine sumN_congr 256 (fun y hy => ?_)
      unfold indY aW
      by_cases c : isW y = true
      · rw [if_pos c, if_pos c]
        exact (inner_eq h ho ht hu hsp hr0 hP0 hl hy c).symm
      · rw [if_neg c, if_neg c]
  · rw [if_pos hs]
    have hn : ¬ ∀ s, s < 16 → (P s = -1 ↔ T (tsq s t) = -1) := fun q => hs ((tfil_iff h ho ht).mpr q)
    have e : wT P T (tau t) = 0 := by
      refine sumN_0 256 (fun y hy => ?_)
      unfold aW
      by_cases c : isW y = true
      · rw [if_pos c]
        refine sumN_0 16 (fun fl hfl => if_neg (fun q => hn (fun s hs => ?_)))
        have q := allN_iff.mp q s hs
        unfold mtF at q
        rw [show (16 * tau t + fl) / 16 = tau t by omega, hu s hs] at q
        by_cases z : P s = -1
        · rw [if_pos z] at q
          exact ⟨fun _ => of_decide_eq_true q, fun _ => z⟩
        · rw [if_neg z, Bool.and_eq_true, decide_eq_true_eq] at q
          exact ⟨fun x => absurd x z, fun x => absurd x q.1⟩
      · rw [if_neg c]
    rw [e]; rfl
theorem sum_tau (g : Nat → Nat) : sumN (fun t => g (tau t)) 8 = sumN g 8 := by
  show (((((((0 + g 0) + g 4) + g 1) + g 6) + g 2) + g 5) + g 3) + g 7 = (((((((0 + g 0) + g 1) + g 2) + g 3) + g 4) + g 5) + g 6) + g 7
  omega
theorem qSym_sum (h : KB P f d) (ho : KB T fo dd) : ∀ n, n ≤ 8 → qSym f d fo dd n = nI (sumN (fun t => wT P T (tau t)) n)
  | 0, _ => rfl
  | n + 1, hn => by
    rw [qSym, sumN, qSym_sum h ho n (by omega), ways_eq h ho (by omega), nI_add]
theorem sym_eq (h : KB P f d) (ho : KB T fo dd) : qSym f d fo dd 8 = nI (waysC P T 256) := by
  rw [qSym_sum h ho 8 (Nat.le_refl 8), sum_tau (wT P T), wc_turns]
theorem aW_le (P T : Nat → Int32) (y u : Nat) : aW P T y u ≤ 16 := by
  unfold aW
  split
  · have : ∀ n, sumN (fun fl => if allN (mtF P T y (16 * u + fl)) 16 = true then 1 else 0) n ≤ n := by
      intro n
      induction n with
      | zero => exact Nat.le_refl 0
      | succ n ih =>
        rw [sumN]
        split <;> omega
    exact this 16
  · omega
theorem wT_le (P T : Nat → Int32) (u : Nat) : wT P T u ≤ 4096 := by
  have : ∀ n, sumN (fun y => aW P T y u) n ≤ 16 * n := by
    intro n
    induction n with
    | zero => exact Nat.le_refl 0
    | succ n ih =>
      have := aW_le P T n u
      rw [sumN]
      omega
  exact this 256
theorem sum_pos (g : Nat → Nat) : ∀ n, 0 < sumN g n ↔ ∃ j, j < n ∧ 0 < g j
  | 0 => ⟨fun h => absurd h (Nat.lt_irrefl 0), fun ⟨j, h, _⟩ => absurd h (Nat.not_lt_zero j)⟩
  | n + 1 => by
    have ih := sum_pos g n
    rw [sumN]
    constructor
    · intro h
      by_cases c : 0 < sumN g n
      · obtain ⟨j, a, b⟩ := ih.mp c
        exact ⟨j, by omega, b⟩
      · exact ⟨n, by omega, by omega⟩
    · rintro ⟨j, a, b⟩
      rcases Nat.lt_succ_iff_lt_or_eq.mp a with z | z
      · have := ih.mpr ⟨j, z, b⟩
        omega
      · subst z; omega
theorem alike_eq (h : KB P f d) (ho : KB T fo dd) : anyN (fun t => decide (0 < qWays f d t fo dd)) 8 = decide (0 < waysC P T 256) := by
  rw [Bool.eq_iff_iff, anyN_iff, decide_eq_true_eq, wc_turns, ← sum_tau (wT P T), sum_pos]
  have e : ∀ t, t < 8 → (decide (0 < qWays f d t fo dd) = true ↔ 0 < wT P T (tau t)) := fun t ht => by
    have := wT_le P T (tau t)
    rw [decide_eq_true_eq, ways_eq h ho ht, show (0 : Int32) = nI 0 from rfl, nI_ltI (by decide) (by omega)]
  exact ⟨fun ⟨t, a, b⟩ => ⟨t, a, (e t a).mp b⟩, fun ⟨t, a, b⟩ => ⟨t, a, (e t a).mpr b⟩⟩
end WT
