/-! the law: the classes it knows -/
theorem arrK {b : Nat} {s : State} {ty : FieldType} (h : (Cond.arrayClass ty).before #[.ref b] s = true) (ho : ∀ C, ¬ ty = .object C) : ∃ cA, ArrOfT s cA ty ∧ va_RA s cA ty := by
  obtain ⟨cA, kA, comp, h1, h2, h3⟩ := Cond.arrayClass_spec h
  refine ⟨cA, fun n z => ⟨fun k h => (by cases h), kA, h2, comp, h3⟩, ?_⟩
  unfold va_RA
  split
  · rename_i C
    exact absurd rfl (ho C)
  · exact h1
theorem zK_ok {b : Nat} {s : State} (hts : ∀ w ∈ lw_tbl, w.before #[.ref b] s = true) : ∃ g : zG, zK g s := by
  have hl : ∀ w ∈ wsL_law, w.before #[.ref b] s = true := fun w h => hts w (wsL_law_in w h)
  obtain ⟨c0, i0, k0⟩ := u_known (C := RX0) (T := TX0) (N := 11) (n := 11) hl inlX0 (hts (.instantiable RX0 11) (by decide +kernel))
  obtain ⟨c1, i1, k1⟩ := u_known (C := RX1) (T := TX1) (N := 17) (n := 17) hl inlX1 (hts (.instantiable RX1 17) (by decide +kernel))
  obtain ⟨cI, a1, a2⟩ := arrK (b := b) (hts (.arrayClass .int) (by decide +kernel)) (fun C h => by cases h)
  obtain ⟨cZ, b1, b2⟩ := arrK (b := b) (hts (.arrayClass .boolean) (by decide +kernel)) (fun C h => by cases h)
  obtain ⟨cL, d1, d2⟩ := arrK (b := b) (hts (.arrayClass .long) (by decide +kernel)) (fun C h => by cases h)
  refine ⟨((fun k => if k = 0 then c0 else c1, fun k => if k = 0 then i0 else i1), (cI, (cZ, cL))), ?_, ?_⟩
  · intro k q hq
    match k, hq with
    | 0, hq => cases hq; exact k0
    | 1, hq => cases hq; exact k1
    | k + 2, hq => simp [vwCl] at hq
  · intro k q hq
    match k, hq with
    | 0, hq => cases hq; exact ⟨a1, a2⟩
    | 1, hq => cases hq; exact ⟨b1, b2⟩
    | 2, hq => cases hq; exact ⟨d1, d2⟩
    | k + 3, hq => simp [zT] at hq
