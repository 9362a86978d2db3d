/-! the law: the classes it knows -/
theorem arrK {b : Nat} {s : State} {ty : FieldType} (h : (Cond.arrayClass ty).before #[.ref b] s = true) (ho : ∀ C, ¬ ty = .object C) : ∃ cA, ArrOfT s cA ty ∧ va_RA s cA ty := by
  obtain ⟨cA, kA, comp, h1, h2, h3⟩ := Cond.arrayClass_spec h
  refine ⟨cA, fun n z => ⟨fun k h => (by cases h), kA, h2, comp, h3⟩, ?_⟩
  unfold va_RA
  split
  · rename_i C
    exact absurd rfl (ho C)
  · exact h1
theorem zK_ok {b : Nat} {s : State} (hts : ∀ w ∈ lw_tbl, w.before #[.ref b] s = true) : ∃ g : zG, zK g s := by
  have hl : ∀ w ∈ wsL_law, w.before #[.ref b] s = true := fun w h => hts w (wsL_law_in w h)
  obtain ⟨c0, i0, k0⟩ := u_known (C := RX0) (T := TX0) (N := 11) (n := 11) hl inlX0 (hts (.instantiable RX0 11) (by decide +kernel))
  obtain ⟨cI, a1, a2⟩ := arrK (b := b) (hts (.arrayClass .int) (by decide +kernel)) (fun C h => by cases h)
  refine ⟨((fun _ => c0, fun _ => i0), (cI, (cI, cI))), ?_, ?_⟩
  · intro k q hq
    match k, hq with
    | 0, hq => cases hq; exact k0
    | k + 1, hq => simp [vwCl] at hq
  · intro k q hq
    match k, hq with
    | 0, hq => cases hq; exact ⟨a1, a2⟩
    | k + 1, hq => simp [zT] at hq
