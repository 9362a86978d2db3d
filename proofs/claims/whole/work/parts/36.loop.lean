/-! the law: its loop -/
theorem and31 (v : Int32) : ∃ k, k < 32 ∧ v &&& 31 = nI k := by
  have hz : (v &&& 31).toBitVec.toNat ≤ 31 := by
    rw [nn_and]
    exact Nat.and_le_right
  refine ⟨(v &&& 31).toBitVec.toNat, by omega, ?_⟩
  rw [← Int32.toBitVec_inj]
  apply BitVec.eq_of_toNat_eq
  rw [nI_nat _ (by omega)]
theorem lim {i L : Nat} (hL : L ≤ 1024) (hi : i ≤ 1026) (h : ¬ nI L - 2 < nI i) : i + 2 ≤ L := by
  by_cases q : 2 ≤ L
  · have e : nI L - 2 = nI (L - 2) := by
      rw [show (2 : Int32) = nI 2 from rfl, nI_sb, nI_z]
      congr 1
      omega
    rw [e] at h
    have := zn_ltn (a := L - 2) (b := i) (by omega) (by omega) h
    omega
  · exfalso
    apply h
    have h0 : (0 : Int32) ≤ nI i := Int32.not_lt.mp (nI_pos (by omega))
    rcases (by omega : L = 0 ∨ L = 1) with z | z <;> subst z
    · exact Int32.lt_of_lt_of_le (by decide) h0
    · exact Int32.lt_of_lt_of_le (by decide) h0
section LP
variable {p : Program} {l : Launch} {e : Env} {s : State} {m : MethodId} {below : List Frame} {meth : Method} {c : Code} {g : zG} {b L bL h o : Nat} {xs : Nat → Int32} {a : Nat → Nat} {Q : State → Prop} {i cells slots : Nat}
variable {q0 q1 q2 q3 q4 q5 q6 : Int32} {q7 : Int64} {q8 q9 : Int32} {q10 : Int64} {bk : Int32} {pn : Nat} {hd ph ot wi ik th : Int32} {P O K kd lf ch be gi mr : Nat → Int32} {f : Nat → Int64} {H : Heap} {locs : List Loc} {ls : Array Slot}
set_option maxHeartbeats 1000000 in
set_option maxRecDepth 100000 in
theorem law_loop (C : LZ p m c s b L xs bL g) (htr : l.stackTraces = false) (hend : ∀ (H : Heap) (locs : List Loc) (ls : Array Slot) (cells slots : Nat), va_S (fun q => s.heap.size ≤ q) s.heap H locs → cells ≤ 669252 → slots ≤ 7088349 → W p l e room_1 s m #[.ref b] below meth c H locs cells slots Q (F0 m 822 ls [])) :
    ∀ n i : Nat, L ≤ i + n → i ≤ 1026 → ∀ (u : QS) (w : MS) (f : Nat → Int64) (H : Heap) (locs : List Loc) (ls : Array Slot), RelT u w → zh g (fun q => s.heap.size ≤ q) (WL g h a o u w f) s.heap H locs → lv_has ls 7 (lvL b h (a 0) o i) → W p l e room_1 s m #[.ref b] below meth c H locs (20 + i) (300 + 6 * i) Q (F0 m 23 ls []) := by
  have hx := C.1.1.1
  have hb := C.1.1.2.1
  have hL := C.2.2.2
  intro n
  induction n with
  | zero =>
    intro i h1 h2 u w f H locs ls hrel X hl
    refine lv_iload hx hb dL_law_23 (lv_at hl 0 rfl) ?_
    refine lv_aload_n hx hb dL_law_25 rfl (lv_at hl 1 rfl) ?_
    refine va_slen hx hb C.2.1 C.2.2.1 (Nat.not_le.mpr C.2.2.1) X.2.2 dL_law_26 ?_
    refine lv_iconst (v := (2 : Int32)) hx hb dL_law_27 (by decide) ?_
    refine lv_isub hx hb dL_law_28 ?_
    refine lv_icmp_gt (tgt := 822) hx hb dL_law_29 (by decide) (fun _ => hend H locs ls _ _ X.2.2 (by omega) (by omega)) (fun c1 => ?_)
    have hlim := lim hL h2 c1
    omega
  | succ n ih =>
    intro i h1 h2 u w f H locs ls hrel X hl
    refine lv_iload hx hb dL_law_23 (lv_at hl 0 rfl) ?_
    refine lv_aload_n hx hb dL_law_25 rfl (lv_at hl 1 rfl) ?_
    refine va_slen hx hb C.2.1 C.2.2.1 (Nat.not_le.mpr C.2.2.1) X.2.2 dL_law_26 ?_
    refine lv_iconst (v := (2 : Int32)) hx hb dL_law_27 (by decide) ?_
    refine lv_isub hx hb dL_law_28 ?_
    refine lv_icmp_gt (tgt := 822) hx hb dL_law_29 (by decide) (fun _ => hend H locs ls _ _ X.2.2 (by omega) (by omega)) (fun c1 => ?_)
    have hlim := lim hL h2 c1
    refine lv_aload_n hx hb dL_law_32 rfl (lv_at hl 1 rfl) ?_
    refine lv_iload hx hb dL_law_33 (lv_at hl 0 rfl) ?_
    refine va_sld hx hb C.2.1 C.2.2.1 (Nat.not_le.mpr C.2.2.1) X.2.2 (vp_in_nI (by omega) (by omega)) dL_law_35 ?_
    refine lv_bipush (v := (31 : Int32)) hx hb dL_law_36 (by decide) ?_
    refine lv_iand hx hb dL_law_38 ?_
    obtain ⟨k, hk, ek⟩ := and31 (xs (nI i).toNatClampNeg)
    refine zrwi ek ?_
    have kk : LK p l e s m b below meth c g h o a i (20 + i) (300 + 6 * i) Q := by
      intro u w f H locs ls hrel X hl
      refine lv_iinc (v := nI (i + 2)) (lv' := lvL b h (a 0) o (i + 2)) hx hb dL_law_816 hl (k := 0) rfl (zi_incn i 2 (by decide)) (by decide) rfl (fun ls hl => ?_)
      refine lv_goto (tgt := 23) hx hb dL_law_819 (by decide) ?_
      exact W.widen (by omega) (by omega) (ih (i + 2) (by omega) (by omega) u w f H locs ls hrel X hl)
    have hcs : 20 + i + 1 ≤ room_1.cells ∧ 300 + 6 * i + 6 ≤ room_1.slots := by
      show 20 + i + 1 ≤ 669252 ∧ 300 + 6 * i + 6 ≤ 7088349
      omega
    by_cases h19 : 19 ≤ k
    · exact lv_tableOut (tgt := 816) hx hb dL_law_39 (Or.inr (by rw [nI_toInt (show k < 2 ^ 31 by omega)]; omega)) (by decide) (W.widen (by omega) (by omega) (kk u w f H locs ls hrel X hl))
    obtain ⟨q0, q1, q2, q3, q4, q5, q6, q7, q8, q9, q10⟩ := u
    obtain ⟨bk, pl, hd, ph, ot, wi, ik, th, P, O, K, kd, lf, ch, be, gi, mr⟩ := w
    obtain ⟨pn, rfl, hR⟩ := hrel
    rcases (by omega : k = 0 ∨ k = 1 ∨ k = 2 ∨ k = 3 ∨ k = 4 ∨ k = 5 ∨ k = 6 ∨ k = 7 ∨ k = 8 ∨ k = 9 ∨ k = 10 ∨ k = 11 ∨ k = 12 ∨ k = 13 ∨ k = 14 ∨ k = 15 ∨ k = 16 ∨ k = 17 ∨ k = 18) with z | z | z | z | z | z | z | z | z | z | z | z | z | z | z | z | z | z | z <;> subst z
    · exact lv_tableIn (off := 89) (tgt := 128) hx hb dL_law_39 (by decide +kernel) (by decide +kernel) (by decide +kernel) (by decide) (s_begin C (by omega) hcs hR X hl kk)
    · exact lv_tableIn (off := 130) (tgt := 169) hx hb dL_law_39 (by decide +kernel) (by decide +kernel) (by decide +kernel) (by decide) (s_give C htr (by omega) hcs hR X hl kk)
    · exact lv_tableIn (off := 186) (tgt := 225) hx hb dL_law_39 (by decide +kernel) (by decide +kernel) (by decide +kernel) (by decide) (s_place C htr (by omega) hcs hR X hl kk)
    · exact lv_tableIn (off := 242) (tgt := 281) hx hb dL_law_39 (by decide +kernel) (by decide +kernel) (by decide +kernel) (by decide) (s_phase C (by omega) hcs hR X hl kk)
    · exact lv_tableIn (off := 255) (tgt := 294) hx hb dL_law_39 (by decide +kernel) (by decide +kernel) (by decide +kernel) (by decide) (s_onTurn C (by omega) hcs hR X hl kk)
    · exact lv_tableIn (off := 268) (tgt := 307) hx hb dL_law_39 (by decide +kernel) (by decide +kernel) (by decide +kernel) (by decide) (s_hand C (by omega) hcs hR X hl kk)
    · exact lv_tableIn (off := 281) (tgt := 320) hx hb dL_law_39 (by decide +kernel) (by decide +kernel) (by decide +kernel) (by decide) (s_pieceAt C htr (by omega) hcs hR X hl kk)
    · exact lv_tableIn (off := 337) (tgt := 376) hx hb dL_law_39 (by decide +kernel) (by decide +kernel) (by decide +kernel) (by decide) (s_placed C (by omega) hcs hR X hl kk)
    · exact lv_tableIn (off := 350) (tgt := 389) hx hb dL_law_39 (by decide +kernel) (by decide +kernel) (by decide +kernel) (by decide) (s_winner C (by omega) hcs hR X hl kk)
    · exact lv_tableIn (off := 363) (tgt := 402) hx hb dL_law_39 (by decide +kernel) (by decide +kernel) (by decide +kernel) (by decide) (s_lines C (by omega) hcs hR X hl kk)
    · exact lv_tableIn (off := 376) (tgt := 415) hx hb dL_law_39 (by decide +kernel) (by decide +kernel) (by decide +kernel) (by decide) (s_onLine C htr (by omega) hcs hR X hl kk)
    · exact lv_tableIn (off := 432) (tgt := 471) hx hb dL_law_39 (by decide +kernel) (by decide +kernel) (by decide +kernel) (by decide) (s_shared C htr (by omega) hcs hR X hl kk)
    · exact lv_tableIn (off := 488) (tgt := 527) hx hb dL_law_39 (by decide +kernel) (by decide +kernel) (by decide +kernel) (by decide) (s_winning C htr (by omega) hcs hR X hl kk)
    · exact lv_tableIn (off := 544) (tgt := 583) hx hb dL_law_39 (by decide +kernel) (by decide +kernel) (by decide +kernel) (by decide) (s_safe C htr (by omega) hcs hR X hl kk)
    · exact lv_tableIn (off := 588) (tgt := 627) hx hb dL_law_39 (by decide +kernel) (by decide +kernel) (by decide +kernel) (by decide) (s_worth C htr (by omega) hcs hR X hl kk)
    · exact lv_tableIn (off := 644) (tgt := 683) hx hb dL_law_39 (by decide +kernel) (by decide +kernel) (by decide +kernel) (by decide) (s_best C htr (by omega) hcs hR X hl kk)
    · exact lv_tableIn (off := 700) (tgt := 739) hx hb dL_law_39 (by decide +kernel) (by decide +kernel) (by decide +kernel) (by decide) (s_keep C (by omega) hcs hR X hl kk)
    · exact lv_tableIn (off := 713) (tgt := 752) hx hb dL_law_39 (by decide +kernel) (by decide +kernel) (by decide +kernel) (by decide) (s_isAlike C htr (by omega) hcs hR X hl kk)
    · exact lv_tableIn (off := 764) (tgt := 803) hx hb dL_law_39 (by decide +kernel) (by decide +kernel) (by decide +kernel) (by decide) (s_symmetries C (by omega) hcs hR X hl kk)
end LP
