/-! the law: what it starts from -/
theorem sz_not {s : State} : ∀ q : Nat, q < s.heap.size → ¬ s.heap.size ≤ q := fun q h => by omega
abbrev tLN : Term := .static "Quarterboard" "LINES" "[I"
theorem in_lines : ∀ j, j < 19 → Cond.eq (.elem tLN (.int (Int32.ofNat j))) (.int (LM j)) ∈ flatC (Cond.and given_1 narrow_1) := by decide +kernel
theorem zEL_a {b : Nat} {s : State} (hts : ∀ w ∈ lw_tbl, w.before #[.ref b] s = true) (hs : ∀ w ∈ flatC (Cond.and given_1 narrow_1), w.before #[.ref b] s = true) : ∃ bL, va_Z "Quarterboard" "LINES" "[I" (.ref bL) (fun q => s.heap.size ≤ q) s s.heap ∧ va_T .int bL 19 (fun j => .int (LM j)) (fun q => s.heap.size ≤ q) s s.heap := by
  obtain ⟨bL, ht, hT⟩ := va_Tof (args := #[.ref b]) (s := s) (tm := tLN) (ty := .int) (N := 19) (f := fun j => .int (LM j)) (A := fun q => s.heap.size ≤ q) (by decide) (hs _ (by decide +kernel)) (va_eqt (hs (Cond.eq (.length tLN) (.int 19)) (by decide +kernel))) (fun j hj => va_eqt (hs _ (in_lines j hj))) sz_not
  exact ⟨bL, va_Zof (hts (.laysStatic "Quarterboard" "LINES" "[I") (by decide +kernel)) (hts (.initialized "Quarterboard") (by decide +kernel)) ht sz_not, hT⟩
theorem zEL_b {b : Nat} {s : State} (hts : ∀ w ∈ lw_tbl, w.before #[.ref b] s = true) (hs : ∀ w ∈ flatC (Cond.and given_1 narrow_1), w.before #[.ref b] s = true) : vx_Zq Bundle.tN "UNASSIGNED_STACK" Bundle.steD (fun q => s.heap.size ≤ q) s s.heap ∧ vx_Zq Bundle.tN "SUPPRESSED_SENTINEL" Bundle.listD (fun q => s.heap.size ≤ q) s s.heap :=
  ⟨vx_Zqof (args := #[.ref b]) (hts _ (by decide +kernel)) (hts _ (by decide +kernel)) (hs _ (by decide +kernel)) sz_not, vx_Zqof (args := #[.ref b]) (hts _ (by decide +kernel)) (hts _ (by decide +kernel)) (hs _ (by decide +kernel)) sz_not⟩
theorem zEL_c {b : Nat} {s : State} (hs : ∀ w ∈ flatC (Cond.and given_1 narrow_1), w.before #[.ref b] s = true) : ∀ q ∈ zNc, va_Nc q.1 q.2 s := by
  intro q hq
  simp only [zNc, List.mem_cons, List.not_mem_nil, or_false] at hq
  rcases hq with rfl | rfl | rfl
  · exact va_Nc.of (args := #[.ref b]) (hs _ (by decide +kernel))
  · exact va_Nc.of (args := #[.ref b]) (hs _ (by decide +kernel))
  · exact va_Nc.of (args := #[.ref b]) (hs _ (by decide +kernel))
theorem zXB_in : ∀ w ∈ zXB, w ∈ lw_tbl := by decide +kernel
theorem zEL_d {b : Nat} {s : State} (hts : ∀ w ∈ lw_tbl, w.before #[.ref b] s = true) : ∀ w ∈ zXB, w.before #[] s = true := fun w hw => va_tabs (zXB_tab w hw) rfl (hts w (zXB_in w hw))
theorem zTx_in : ∀ q ∈ zTx, Cond.stringRef "Quarterboard" q.1 q.2 ∈ lw_tbl ∧ Cond.exactly (.string "Quarterboard" q.1) "java/lang/String" ∈ flatC (Cond.and given_1 narrow_1) := by decide +kernel
theorem zEL_e {b : Nat} {s : State} (hts : ∀ w ∈ lw_tbl, w.before #[.ref b] s = true) (hs : ∀ w ∈ flatC (Cond.and given_1 narrow_1), w.before #[.ref b] s = true) : ∀ q ∈ zTx, ∃ sa, vk_R "Quarterboard" q.1 q.2 sa s := by
  intro q hq
  obtain ⟨h1, h2⟩ := zTx_in q hq
  obtain ⟨sa, c, cell, k, e, -⟩ := Cond.exactly_spec (hs _ h2)
  exact ⟨sa, vk_R.of (hts _ h1) e⟩
theorem zEL_ok {b : Nat} {s : State} (hts : ∀ w ∈ lw_tbl, w.before #[.ref b] s = true) (hs : ∀ w ∈ flatC (Cond.and given_1 narrow_1), w.before #[.ref b] s = true) : ∃ bL, zEL bL (fun q => s.heap.size ≤ q) s := by
  obtain ⟨bL, h1, h2⟩ := zEL_a hts hs
  obtain ⟨h5, h6⟩ := zEL_b hts hs
  exact ⟨bL, h1, h2, zEL_d hts, zEL_e hts hs, h5, h6, zEL_c hs⟩
