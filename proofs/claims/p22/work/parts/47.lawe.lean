/-! the law itself -/
section RE
variable {q0 q1 q2 q3 q4 q5 q6 : Int32} {q7 : Int64} {q8 q9 : Int32} {q10 : Int64} {r : Int32} {u : QS} {O : Nat → Int32}
theorem dn1 (h : P_L_does1 q0 q1 q2 q3 q4 q5 q6 q7 q8 q9 q10 (-1 : Int32) r u) : u = (q0, q1, q2, q3, q4, q5, q6, q7, q8, q9, q10) ∧ r = -30 := by
  have e : qNum (-1) = false := by decide
  rcases h with h | ⟨h1, h2, h3⟩ | ⟨h1, h2, h3⟩
  · have := h.1.1
    rw [e] at this; cases this
  · exact ⟨h3, h1⟩
  · rcases h2 with x | x
    · exact absurd x.1 (by decide)
    · have := x.2.1
      rw [e] at this; cases this
theorem dn0 (h : P_L_does0 q0 q1 q2 q3 q4 q5 q6 q7 q8 q9 q10 (-1 : Int32) r u) : u = (q0, q1, q2, q3, q4, q5, q6, q7, q8, q9, q10) ∧ r = -30 := by
  have e : qNum (-1) = false := by decide
  rcases h with h | ⟨h1, h2, h3⟩ | ⟨h1, h2, h3⟩
  · have := h.1.1
    rw [e] at this; cases this
  · exact ⟨h3, h1⟩
  · rcases h2 with x | x
    · exact absurd x.1 (by decide)
    · have := x.2.1
      rw [e] at this; cases this
theorem aAL_z {f : Int32} {d : Int64} {kf : Int32} {kd : Int64} (h : q8 = 0) : aAL f d q8 kf kd = -10 := by rw [aAL, if_pos h]
theorem hp_ex (hone : q1 = 1 → ∃ p, p < 16 ∧ q3 = nI p ∧ O p = 0) : ∃ hp, q1 = 1 → q3 = nI hp ∧ hp < 16 ∧ O hp = 0 := by
  by_cases c : q1 = 1
  · obtain ⟨p, hp, e, z⟩ := hone c
    exact ⟨p, fun _ => ⟨e, hp, z⟩⟩
  · exact ⟨0, fun q => absurd q c⟩
theorem safe_0 : qSafe 0 0 0 0 = 65535 := by decide +kernel
end RE
set_option maxHeartbeats 4000000 in
set_option maxRecDepth 100000 in
theorem law_fill {p : Program} {l : Launch} {e : Env} {s : State} {m : MethodId} {below : List Frame} {meth : Method} {c : Code} {g : zG} {A : Nat → Prop} {Q : State → Prop} {bs Ls bL h a b : Nat} {xs : Nat → Int32} (Z : zc p m c cL_law 9 s #[.ref bs] wsL_law RL g A (zEP bL bs Ls xs)) (cut52 : ∀ (H : Heap) (locs : List Loc) (ls : Array Slot), zh g A (oL g h a b ((0, 0, 0, -1, -1, 0, 0, 0, 0, 0, 0), (filN (fun _ => 0) (-1) 16), upd (upd (upd (fun _ => 0) 0 (10 : Int32)) 3 (-1 : Int32)) 5 (-1 : Int32))) s.heap H locs → lv_has ls 9 [(3, .ref b), (2, .ref a), (1, .ref h), (0, .ref bs)] → W p l e room_1 s m #[.ref bs] below meth c H locs 10 60 Q (F0 m 52 ls [])) {H : Heap} {locs : List Loc} {ls : Array Slot} (X : zh g A (oL g h a b ((0, 0, 0, -1, -1, 0, 0, 0, 0, 0, 0), (fun _ => 0), (fun _ => 0))) s.heap H locs) (hl : lv_has ls 9 [(3, .ref b), (2, .ref a), (1, .ref h), (0, .ref bs)]) : W p l e room_1 s m #[.ref bs] below meth c H locs 10 60 Q (F0 m 18 ls []) := by
  have hx := Z.1.1
  have hb := Z.1.2.1
  refine lv_iconst (v := (0 : Int32)) hx hb dL_law_18 (by decide) ?_
  refine lv_istore (lv' := [(4, .int (0 : Int32)), (3, .ref b), (2, .ref a), (1, .ref h), (0, .ref bs)]) hx hb dL_law_19 hl (by decide) rfl (fun ls hl => ?_)
  have cut21 : ∀ (n21 : Nat), ∀ (k : Nat), (k ≤ 16) → (17 - k ≤ n21) → ∀ (H : Heap) (locs : List Loc) (ls : Array Slot), zh g A (oL g h a b ((0, 0, 0, -1, -1, 0, 0, 0, 0, 0, 0), (filN (fun _ => 0) (-1) k), (fun _ => 0))) s.heap H locs → lv_has ls 9 [(4, .int (nI k)), (3, .ref b), (2, .ref a), (1, .ref h), (0, .ref bs)] → W p l e room_1 s m #[.ref bs] below meth c H locs 10 60 Q (F0 m 21 ls []) := by
    intro n21
    induction n21 with
    | zero =>
      intro k hk hn21 H locs ls X hl
      exfalso; omega
    | succ n21 ih21 =>
      intro k hk hn21 H locs ls X hl
      refine lv_iload hx hb dL_law_21 (lv_at hl 0 rfl) ?_
      refine lv_bipush (v := (16 : Int32)) hx hb dL_law_23 (by decide) ?_
      refine lv_icmp_ge (tgt := 39) hx hb dL_law_25 (by decide) (fun c1 => ?_) (fun c1 => ?_)
      · have qc1 := c1
        have c1n : 16 ≤ k := zn_let (by omega) (by omega) c1
        have hk16 : k = 16 := by omega
        rw [hk16] at X
        refine lv_aload_n hx hb dL_law_39 rfl (lv_at hl 1 rfl) ?_
        refine lv_iconst (v := (0 : Int32)) hx hb dL_law_40 (by decide) ?_
        refine lv_bipush (v := (10 : Int32)) hx hb dL_law_41 (by decide) ?_
        refine zast (q0 := 2) (n := 6) (f := (fun _ => 0)) Z X rfl rfl 0 (by decide) (by decide) (by decide) dL_law_43 (fun H locs X => ?_)
        have X : zh g A (oL g h a b ((0, 0, 0, -1, -1, 0, 0, 0, 0, 0, 0), (filN (fun _ => 0) (-1) 16), upd (fun _ => 0) 0 (10 : Int32))) s.heap H locs := X
        refine lv_aload_n hx hb dL_law_44 rfl (lv_at hl 1 rfl) ?_
        refine lv_iconst (v := (3 : Int32)) hx hb dL_law_45 (by decide) ?_
        refine lv_iconst (v := (-1 : Int32)) hx hb dL_law_46 (by decide) ?_
        refine zast (q0 := 2) (n := 6) (f := upd (fun _ => 0) 0 (10 : Int32)) Z X rfl rfl 3 (by decide) (by decide) (by decide) dL_law_47 (fun H locs X => ?_)
        have X : zh g A (oL g h a b ((0, 0, 0, -1, -1, 0, 0, 0, 0, 0, 0), (filN (fun _ => 0) (-1) 16), upd (upd (fun _ => 0) 0 (10 : Int32)) 3 (-1 : Int32))) s.heap H locs := X
        refine lv_aload_n hx hb dL_law_48 rfl (lv_at hl 1 rfl) ?_
        refine lv_iconst (v := (5 : Int32)) hx hb dL_law_49 (by decide) ?_
        refine lv_iconst (v := (-1 : Int32)) hx hb dL_law_50 (by decide) ?_
        refine zast (q0 := 2) (n := 6) (f := upd (upd (fun _ => 0) 0 (10 : Int32)) 3 (-1 : Int32)) Z X rfl rfl 5 (by decide) (by decide) (by decide) dL_law_51 (fun H locs X => ?_)
        have X : zh g A (oL g h a b ((0, 0, 0, -1, -1, 0, 0, 0, 0, 0, 0), (filN (fun _ => 0) (-1) 16), upd (upd (upd (fun _ => 0) 0 (10 : Int32)) 3 (-1 : Int32)) 5 (-1 : Int32))) s.heap H locs := X
        exact W.widen (by omega) (by omega) (cut52  H locs ls X (lv_sub hl [1, 2, 3, 4] rfl))
      · have qc1 := c1
        have c1n : ¬ 16 ≤ k := zn_len (by omega) (by omega) c1
        refine lv_aload_n hx hb dL_law_28 rfl (lv_at hl 2 rfl) ?_
        refine lv_iload hx hb dL_law_29 (lv_at hl 0 rfl) ?_
        refine lv_iconst (v := (-1 : Int32)) hx hb dL_law_31 (by decide) ?_
        refine zast (q0 := 1) (n := 16) (f := (filN (fun _ => 0) (-1) k)) Z X rfl rfl k rfl (by omega) (by decide) dL_law_32 (fun H locs X => ?_)
        have X : zh g A (oL g h a b ((0, 0, 0, -1, -1, 0, 0, 0, 0, 0, 0), (upd (filN (fun _ => 0) (-1) k) k (-1 : Int32)), (fun _ => 0))) s.heap H locs := X
        have X : zh g A (oL g h a b ((0, 0, 0, -1, -1, 0, 0, 0, 0, 0, 0), (filN (fun _ => 0) (-1) (k + 1)), (fun _ => 0))) s.heap H locs := by rw [filN_s] at X; exact X
        refine lv_iinc (v := nI (k + 1)) (lv' := [(4, .int (nI (k + 1))), (3, .ref b), (2, .ref a), (1, .ref h), (0, .ref bs)]) hx hb dL_law_33 hl (k := 0) rfl (zi_inc k) (by decide) rfl (fun ls hl => ?_)
        refine lv_goto (tgt := 21) hx hb dL_law_36 (by decide) ?_
        exact W.widen (by omega) (by omega) (ih21 (k + 1) (by first | assumption | omega) (by omega) H locs ls X (lv_sub hl [0, 1, 2, 3, 4] rfl))
  exact W.widen (by omega) (by omega) (cut21 17 0 (by decide) (by omega) H locs ls (by rw [filN_0]; exact X) (lv_sub hl [0, 1, 2, 3, 4] rfl))
set_option maxHeartbeats 4000000 in
set_option maxRecDepth 100000 in
theorem law_run {p : Program} {l : Launch} {e : Env} {s : State} {m : MethodId} {below : List Frame} {meth : Method} {c : Code} {g : zG} {A : Nat → Prop} {Q : State → Prop} {bs Ls bL h a b : Nat} {xs : Nat → Int32} (Z : zc p m c cL_law 9 s #[.ref bs] wsL_law RL g A (zEP bL bs Ls xs)) (htr : l.stackTraces = false) (hL : Ls ≤ 260) (hend : ∀ (H : Heap) (locs : List Loc) (ls : Array Slot) (cells slots : Nat), va_S A s.heap H locs → cells ≤ 622557 → slots ≤ 7233016 → W p l e room_1 s m #[.ref bs] below meth c H locs cells slots Q (F0 m 432 ls [.int (1 : Int32)])) {q0 q1 q2 q3 q4 q5 q6 : Int32} {q7 : Int64} {q8 q9 : Int32} {q10 : Int64} {P G O : Nat → Int32} {pn : Nat} (hR : RG q0 q1 q2 q3 q4 q5 q6 q7 P G pn O) (hs1 : q1 = 0) (hs8 : q8 = 0) (hsafe : qSafe q5 q6 q7 q0 = 65535) {H : Heap} {locs : List Loc} {ls : Array Slot} (X : zh g A (oL g h a b ((q0, q1, q2, q3, q4, q5, q6, q7, q8, q9, q10), P, G)) s.heap H locs) (hl : lv_has ls 9 [(3, .ref b), (2, .ref a), (1, .ref h), (0, .ref bs)]) : W p l e room_1 s m #[.ref bs] below meth c H locs 10 60 Q (F0 m 52 ls []) := by
  have hx := Z.1.1
  have hb := Z.1.2.1
  have hR0 := hR
  obtain ⟨⟨hG0, hG1, hG2, hG3, hG4, hG5⟩, hph, hot, hrb, hone, hgo, hov⟩ := hR
  have hpl := RB_le hrb
  refine lv_aload_n hx hb dL_law_52 rfl (lv_at hl 2 rfl) ?_
  refine lv_aload_n hx hb dL_law_53 rfl (lv_at hl 1 rfl) ?_
  refine lv_aload_n hx hb dL_law_54 rfl (lv_at hl 0 rfl) ?_
  refine zsubS (n := 3) (As := [.ref h, .ref a, .ref b]) (rest := []) (wc := oL g h a b ((q0, q1, q2, q3, q4, q5, q6, q7, q8, q9, q10), P, G)) (wr := []) [0, 1, 2] [] rfl rfl rfl rfl (by decide) Z X zStL (fun _ _ h => h.1) (c_L_isBoard l g bL h a b q0 q1 q2 q3 q4 q5 q6 q7 q8 q9 q10 P G htr pn O hR0) gL_law_L_isBoard rfl ⟨by decide, by decide, by decide +kernel⟩ ⟨Nat.le_of_ble_eq_true rfl, Nat.le_of_ble_eq_true rfl⟩ rfl rfl hl.1 (Nat.le_of_ble_eq_true rfl) dL_law_55 ⟨show 10 + 60 ≤ 622557 from by omega, show 60 + 360 ≤ 7233016 from by omega⟩ (fun r1 ur1 H locs hr1 X => ?_)
  obtain ⟨hur1, hr1⟩ := hr1
  rw [hur1] at X
  have X : zh g A (oL g h a b ((q0, q1, q2, q3, q4, q5, q6, q7, q8, q9, q10), P, G)) s.heap H locs := X
  refine zrwi (y := (1 : Int32)) hr1 ?_
  refine lv_if_eq (tgt := 83) hx hb dL_law_58 (by decide) (fun c2 => ?_) (fun c2 => ?_)
  · exact absurd c2 (by decide)
  · have qc2 := c2
    refine lv_aload_n hx hb dL_law_61 rfl (lv_at hl 2 rfl) ?_
    refine zsubSi (n := 1) (As := [.ref h]) (rest := []) (wc := oQ h (q0, q1, q2, q3, q4, q5, q6, q7, q8, q9, q10)) (wr := oB g a P ++ oG g b G) [0] [1, 2] rfl rfl rfl rfl (by decide) Z X zStL (fun _ _ h => h.1) (c_L_alike l g bL h q0 q1 q2 q3 q4 q5 q6 q7 q8 q9 q10 htr) gL_law_L_alike rfl ⟨by decide, by decide, by decide +kernel⟩ ⟨Nat.le_of_ble_eq_true rfl, Nat.le_of_ble_eq_true rfl⟩ rfl rfl hl.1 (Nat.le_of_ble_eq_true rfl) dL_law_62 ⟨show 10 + 60 + 1 ≤ 622557 from by omega, show 60 + 360 + 6 ≤ 7233016 from by omega⟩ (fun r3 ur3 H locs hr3 X => ?_)
    obtain ⟨hur3, hr3⟩ := hr3
    rw [hur3] at X
    have X : zh g A (oL g h a b ((q0, q1, q2, q3, q4, q5, q6, q7, q8, q9, q10), P, G)) s.heap H locs := zhsub X [2, 0, 1] rfl rfl
    refine zrwi (y := aAL q5 q7 q8 q9 q10) hr3 ?_
    refine zrwi (y := (-10 : Int32)) (aAL_z hs8) ?_
    refine lv_bipush (v := (-10 : Int32)) hx hb dL_law_65 (by decide) ?_
    refine lv_icmp_ne (tgt := 83) hx hb dL_law_67 (by decide) (fun c4 => ?_) (fun c4 => ?_)
    · exact absurd c4 (by decide)
    · have qc4 := c4
      refine lv_aload_n hx hb dL_law_70 rfl (lv_at hl 2 rfl) ?_
      refine zsubX (n := 0) (As := []) (rest := []) (wc := oQ h (q0, q1, q2, q3, q4, q5, q6, q7, q8, q9, q10)) (wr := oB g a P ++ oG g b G) (ci := 0) (C := RX0) (T := TX0) (N := 11) [0] [1, 2] rfl rfl rfl rfl (by decide) Z X zStL (fun _ _ h => h.1) (c_X0_safe l g bL h q0 q1 q2 q3 q4 q5 q6 q7 q8 q9 q10 htr) gL_law_X0_safe rfl (by decide +kernel) ⟨Nat.le_of_ble_eq_true rfl, Nat.le_of_ble_eq_true rfl⟩ rfl rfl rfl rfl hl.1 (Nat.le_of_ble_eq_true rfl) dL_law_71 ⟨show 10 + 60 + 1 + 1 ≤ 622557 from by omega, show 60 + 360 + 6 + 6 ≤ 7233016 from by omega⟩ (fun X9 ce qE H locs hpx X hce hcv hcl => ?_) (fun r5 ur5 H locs hr5 X => ?_)
      · exact ((fun z => z.2 hs1 : PX_X0_safe q0 q1 q2 q3 q4 q5 q6 q7 q8 q9 q10 X9 → False) hpx).elim
      obtain ⟨-, hur5, hr5⟩ := hr5
      rw [hur5] at X
      have X : zh g A (oL g h a b ((q0, q1, q2, q3, q4, q5, q6, q7, q8, q9, q10), P, G)) s.heap H locs := zhsub X [2, 0, 1] rfl rfl
      refine zrwi (y := qSafe q5 q6 q7 q0) hr5 ?_
      refine zrwi (y := (65535 : Int32)) (hsafe) ?_
      refine lv_ldc (v := (65535 : Int32)) hx hb Z.1.2.2.2.1 (Z.1.2.2.2.2 (.constant RL 125 (65535)) (by decide +kernel)) dL_law_74 ?_
      refine lv_icmp_ne (tgt := 83) hx hb dL_law_76 (by decide) (fun c6 => ?_) (fun c6 => ?_)
      · exact absurd c6 (by decide)
      · have qc6 := c6
        refine lv_iconst (v := (1 : Int32)) hx hb dL_law_79 (by decide) ?_
        refine lv_goto (tgt := 84) hx hb dL_law_80 (by decide) ?_
        refine lv_istore (lv' := [(4, .int (1 : Int32)), (3, .ref b), (2, .ref a), (1, .ref h), (0, .ref bs)]) hx hb dL_law_84 hl (by decide) rfl (fun ls hl => ?_)
        refine lv_iconst (v := (0 : Int32)) hx hb dL_law_86 (by decide) ?_
        refine lv_istore (lv' := [(5, .int (0 : Int32)), (4, .int (1 : Int32)), (3, .ref b), (2, .ref a), (1, .ref h), (0, .ref bs)]) hx hb dL_law_87 hl (by decide) rfl (fun ls hl => ?_)
        have cut89 : ∀ (n89 : Nat), ∀ (k : Nat) (q0 : Int32) (q1 : Int32) (q2 : Int32) (q3 : Int32) (q4 : Int32) (q5 : Int32) (q6 : Int32) (q7 : Int64) (q8 : Int32) (q9 : Int32) (q10 : Int64) (P : Nat → Int32) (G : Nat → Int32), (k ≤ 56) → (RGs ((q0, q1, q2, q3, q4, q5, q6, q7, q8, q9, q10), P, G)) → (57 - k ≤ n89) → ∀ (H : Heap) (locs : List Loc) (ls : Array Slot), zh g A (oL g h a b ((q0, q1, q2, q3, q4, q5, q6, q7, q8, q9, q10), P, G)) s.heap H locs → lv_has ls 9 [(4, .int (1 : Int32)), (5, .int (nI k)), (3, .ref b), (2, .ref a), (1, .ref h), (0, .ref bs)] → W p l e room_1 s m #[.ref bs] below meth c H locs (200 + 200 * k) (1200 + 1200 * k) Q (F0 m 89 ls []) := by
          intro n89
          induction n89 with
          | zero =>
            intro k q0 q1 q2 q3 q4 q5 q6 q7 q8 q9 q10 P G hk hrel hn89 H locs ls X hl
            exfalso; omega
          | succ n89 ih89 =>
            intro k q0 q1 q2 q3 q4 q5 q6 q7 q8 q9 q10 P G hk hrel hn89 H locs ls X hl
            obtain ⟨pn, O, hR⟩ := hrel
            have hR0 := hR
            obtain ⟨⟨hG0, hG1, hG2, hG3, hG4, hG5⟩, hph, hot, hrb, hone, hgo, hov⟩ := hR
            have hpl := RB_le hrb
            refine lv_iload hx hb dL_law_89 (lv_at hl 1 rfl) ?_
            refine lv_bipush (v := (56 : Int32)) hx hb dL_law_91 (by decide) ?_
            refine lv_icmp_ge (tgt := 352) hx hb dL_law_93 (by decide) (fun c7 => ?_) (fun c7 => ?_)
            · have qc7 := c7
              have c7n : 56 ≤ k := zn_let (by omega) (by omega) c7
              refine lv_iload hx hb dL_law_352 (lv_at hl 0 rfl) ?_
              refine lv_if_eq (tgt := 431) hx hb dL_law_354 (by decide) (fun c8 => ?_) (fun c8 => ?_)
              · exact absurd c8 (by decide)
              · have qc8 := c8
                refine lv_aload_n hx hb dL_law_357 rfl (lv_at hl 4 rfl) ?_
                refine lv_iconst (v := (1 : Int32)) hx hb dL_law_358 (by decide) ?_
                refine lv_iconst (v := (-1 : Int32)) hx hb dL_law_359 (by decide) ?_
                refine zsubSi (n := 3) (As := [.ref h, .int (1 : Int32), .int (-1 : Int32)]) (rest := []) (wc := oQ h (q0, q1, q2, q3, q4, q5, q6, q7, q8, q9, q10)) (wr := oB g a P ++ oG g b G) [0] [1, 2] rfl rfl rfl rfl (by decide) Z X zStL (fun _ _ h => h.1) (c_L_does1 l g bL h q0 q1 q2 q3 q4 q5 q6 q7 q8 q9 q10 (-1 : Int32) htr) gL_law_L_does rfl ⟨by decide, by decide, by decide +kernel⟩ ⟨Nat.le_of_ble_eq_true rfl, Nat.le_of_ble_eq_true rfl⟩ rfl rfl hl.1 (Nat.le_of_ble_eq_true rfl) dL_law_360 ⟨show 200 + 200 * k + 1 ≤ 622557 from by omega, show 1200 + 1200 * k + 6 ≤ 7233016 from by omega⟩ (fun r9 ur9 H locs hr9 X => ?_)
                obtain ⟨hur9, hr9⟩ := dn1 hr9
                rw [hur9] at X
                refine zrwi (y := (-30 : Int32)) hr9 ?_
                have X : zh g A (oL g h a b ((q0, q1, q2, q3, q4, q5, q6, q7, q8, q9, q10), P, G)) s.heap H locs := zhsub X [2, 0, 1] rfl rfl
                refine lv_bipush (v := (-30 : Int32)) hx hb dL_law_363 (by decide) ?_
                refine lv_icmp_ne (tgt := 431) hx hb dL_law_365 (by decide) (fun c10 => ?_) (fun c10 => ?_)
                · exact absurd c10 (by decide)
                · have qc10 := c10
                  refine lv_aload_n hx hb dL_law_368 rfl (lv_at hl 4 rfl) ?_
                  refine lv_iconst (v := (0 : Int32)) hx hb dL_law_369 (by decide) ?_
                  refine lv_iconst (v := (-1 : Int32)) hx hb dL_law_370 (by decide) ?_
                  refine zsubSi (n := 3) (As := [.ref h, .int (0 : Int32), .int (-1 : Int32)]) (rest := []) (wc := oQ h (q0, q1, q2, q3, q4, q5, q6, q7, q8, q9, q10)) (wr := oB g a P ++ oG g b G) [0] [1, 2] rfl rfl rfl rfl (by decide) Z X zStL (fun _ _ h => h.1) (c_L_does0 l g bL h q0 q1 q2 q3 q4 q5 q6 q7 q8 q9 q10 (-1 : Int32) htr) gL_law_L_does rfl ⟨by decide, by decide, by decide +kernel⟩ ⟨Nat.le_of_ble_eq_true rfl, Nat.le_of_ble_eq_true rfl⟩ rfl rfl hl.1 (Nat.le_of_ble_eq_true rfl) dL_law_371 ⟨show 200 + 200 * k + 1 + 1 ≤ 622557 from by omega, show 1200 + 1200 * k + 6 + 6 ≤ 7233016 from by omega⟩ (fun r11 ur11 H locs hr11 X => ?_)
                  obtain ⟨hur11, hr11⟩ := dn0 hr11
                  rw [hur11] at X
                  refine zrwi (y := (-30 : Int32)) hr11 ?_
                  have X : zh g A (oL g h a b ((q0, q1, q2, q3, q4, q5, q6, q7, q8, q9, q10), P, G)) s.heap H locs := zhsub X [2, 0, 1] rfl rfl
                  refine lv_bipush (v := (-30 : Int32)) hx hb dL_law_374 (by decide) ?_
                  refine lv_icmp_ne (tgt := 431) hx hb dL_law_376 (by decide) (fun c12 => ?_) (fun c12 => ?_)
                  · exact absurd c12 (by decide)
                  · have qc12 := c12
                    refine lv_aload_n hx hb dL_law_379 rfl (lv_at hl 4 rfl) ?_
                    refine lv_iconst (v := (3 : Int32)) hx hb dL_law_380 (by decide) ?_
                    refine lv_iconst (v := (-1 : Int32)) hx hb dL_law_381 (by decide) ?_
                    refine zsubSi (n := 3) (As := [.ref h, .int (3 : Int32), .int (-1 : Int32)]) (rest := []) (wc := oQ h (q0, q1, q2, q3, q4, q5, q6, q7, q8, q9, q10)) (wr := oB g a P ++ oG g b G) [0] [1, 2] rfl rfl rfl rfl (by decide) Z X zStL (fun _ _ h => h.1) (c_L_asks3 l g bL h q0 q1 q2 q3 q4 q5 q6 q7 q8 q9 q10 (-1 : Int32) htr) gL_law_L_asks rfl ⟨by decide, by decide, by decide +kernel⟩ ⟨Nat.le_of_ble_eq_true rfl, Nat.le_of_ble_eq_true rfl⟩ rfl rfl hl.1 (Nat.le_of_ble_eq_true rfl) dL_law_382 ⟨show 200 + 200 * k + 1 + 1 + 1 ≤ 622557 from by omega, show 1200 + 1200 * k + 6 + 6 + 6 ≤ 7233016 from by omega⟩ (fun r13 ur13 H locs hr13 X => ?_)
                    obtain ⟨hur13, hr13⟩ := hr13
                    rw [hur13] at X
                    have X : zh g A (oL g h a b ((q0, q1, q2, q3, q4, q5, q6, q7, q8, q9, q10), P, G)) s.heap H locs := zhsub X [2, 0, 1] rfl rfl
                    refine zrwi (y := aA3 q1 q0 q5 q6 q7 (-1 : Int32)) hr13 ?_
                    refine zrwi (y := (-30 : Int32)) (aA3_m1 _ _ _ _ _) ?_
                    refine lv_bipush (v := (-30 : Int32)) hx hb dL_law_385 (by decide) ?_
                    refine lv_icmp_ne (tgt := 431) hx hb dL_law_387 (by decide) (fun c14 => ?_) (fun c14 => ?_)
                    · exact absurd c14 (by decide)
                    · have qc14 := c14
                      refine lv_aload_n hx hb dL_law_390 rfl (lv_at hl 4 rfl) ?_
                      refine lv_iconst (v := (1 : Int32)) hx hb dL_law_391 (by decide) ?_
                      refine lv_bipush (v := (19 : Int32)) hx hb dL_law_392 (by decide) ?_
                      refine zsubSi (n := 3) (As := [.ref h, .int (1 : Int32), .int (19 : Int32)]) (rest := []) (wc := oQ h (q0, q1, q2, q3, q4, q5, q6, q7, q8, q9, q10)) (wr := oB g a P ++ oG g b G) [0] [1, 2] rfl rfl rfl rfl (by decide) Z X zStL (fun _ _ h => h.1) (c_L_asks1 l g bL h q0 q1 q2 q3 q4 q5 q6 q7 q8 q9 q10 (19 : Int32) htr) gL_law_L_asks rfl ⟨by decide, by decide, by decide +kernel⟩ ⟨Nat.le_of_ble_eq_true rfl, Nat.le_of_ble_eq_true rfl⟩ rfl rfl hl.1 (Nat.le_of_ble_eq_true rfl) dL_law_394 ⟨show 200 + 200 * k + 1 + 1 + 1 + 1 ≤ 622557 from by omega, show 1200 + 1200 * k + 6 + 6 + 6 + 6 ≤ 7233016 from by omega⟩ (fun r15 ur15 H locs hr15 X => ?_)
                      obtain ⟨hur15, hr15⟩ := hr15
                      rw [hur15] at X
                      have X : zh g A (oL g h a b ((q0, q1, q2, q3, q4, q5, q6, q7, q8, q9, q10), P, G)) s.heap H locs := zhsub X [2, 0, 1] rfl rfl
                      refine zrwi (y := aA1 q0 q5 (19 : Int32)) hr15 ?_
                      refine zrwi (y := (-30 : Int32)) (aA1_19 _ _) ?_
                      refine lv_bipush (v := (-30 : Int32)) hx hb dL_law_397 (by decide) ?_
                      refine lv_icmp_ne (tgt := 431) hx hb dL_law_399 (by decide) (fun c16 => ?_) (fun c16 => ?_)
                      · exact absurd c16 (by decide)
                      · have qc16 := c16
                        refine lv_aload_n hx hb dL_law_402 rfl (lv_at hl 4 rfl) ?_
                        refine zsubVi (n := 0) (As := []) (rest := []) (wc := oQ h (q0, q1, q2, q3, q4, q5, q6, q7, q8, q9, q10)) (wr := oB g a P ++ oG g b G) (ci := 0) (C := RX0) (T := TX0) (N := 11) [0] [1, 2] rfl rfl rfl rfl (by decide) Z X zStL (fun _ _ h => h.1) (c_X0_symmetries l g bL h q0 q1 q2 q3 q4 q5 q6 q7 q8 q9 q10) gL_law_X0_symmetries rfl (by decide +kernel) ⟨Nat.le_of_ble_eq_true rfl, Nat.le_of_ble_eq_true rfl⟩ rfl rfl rfl rfl hl.1 (Nat.le_of_ble_eq_true rfl) dL_law_403 ⟨show 200 + 200 * k + 1 + 1 + 1 + 1 ≤ 622557 from by omega, show 1200 + 1200 * k + 6 + 6 + 6 + 6 ≤ 7233016 from by omega⟩ (fun r17 ur17 H locs hr17 X => ?_)
                        obtain ⟨hur17, hr17⟩ := hr17
                        rw [hur17] at X
                        have X : zh g A (oL g h a b ((q0, q1, q2, q3, q4, q5, q6, q7, q8, q9, q10), P, G)) s.heap H locs := zhsub X [2, 0, 1] rfl rfl
                        refine zrwi (y := qSym q5 q7 q5 q7 8) hr17 ?_
                        refine lv_if_le (tgt := 431) hx hb dL_law_406 (by decide) (fun c18 => ?_) (fun c18 => ?_)
                        · have qc18 := c18
                          exact absurd c18 (sym_pos hrb.1)
                        · have qc18 := c18
                          refine lv_aload_n hx hb dL_law_409 rfl (lv_at hl 4 rfl) ?_
                          refine zsubVi (n := 0) (As := []) (rest := []) (wc := oQ h (q0, q1, q2, q3, q4, q5, q6, q7, q8, q9, q10)) (wr := oB g a P ++ oG g b G) (ci := 0) (C := RX0) (T := TX0) (N := 11) [0] [1, 2] rfl rfl rfl rfl (by decide) Z X zStL (fun _ _ h => h.1) (c_X0_keep l g bL h q0 q1 q2 q3 q4 q5 q6 q7 q8 q9 q10) gL_law_X0_keep rfl (by decide +kernel) ⟨Nat.le_of_ble_eq_true rfl, Nat.le_of_ble_eq_true rfl⟩ rfl rfl rfl rfl hl.1 (Nat.le_of_ble_eq_true rfl) dL_law_410 ⟨show 200 + 200 * k + 1 + 1 + 1 + 1 ≤ 622557 from by omega, show 1200 + 1200 * k + 6 + 6 + 6 + 6 ≤ 7233016 from by omega⟩ (fun r19 ur19 H locs hr19 X => ?_)
                          obtain ⟨hur19, hr19⟩ := hr19
                          rw [hur19] at X
                          have X : zh g A (oL g h a b ((q0, q1, q2, q3, q4, q5, q6, q7, 1, q5, q7), P, G)) s.heap H locs := zhsub X [2, 0, 1] rfl rfl
                          refine zrwi (y := qBc q5) hr19 ?_
                          refine zrwi (y := nI pn) (RB_bc hrb) ?_
                          refine lv_aload_n hx hb dL_law_413 rfl (lv_at hl 2 rfl) ?_
                          refine lv_iconst (v := (4 : Int32)) hx hb dL_law_414 (by decide) ?_
                          refine zald (q0 := 2) (n := 6) (f := G) Z X rfl rfl 4 (by decide) (by decide) (by decide) dL_law_415 ?_
                          refine zrwi (y := nI pn) hG4 ?_
                          refine lv_icmp_ne (tgt := 431) hx hb dL_law_416 (by decide) (fun c20 => ?_) (fun c20 => ?_)
                          · exact absurd rfl c20
                          · have qc20 := c20
                            refine lv_aload_n hx hb dL_law_419 rfl (lv_at hl 4 rfl) ?_
                            refine zsubSi (n := 1) (As := [.ref h]) (rest := []) (wc := oQ h (q0, q1, q2, q3, q4, q5, q6, q7, 1, q5, q7)) (wr := oB g a P ++ oG g b G) [0] [1, 2] rfl rfl rfl rfl (by decide) Z X zStL (fun _ _ h => h.1) (c_L_alike l g bL h q0 q1 q2 q3 q4 q5 q6 q7 1 q5 q7 htr) gL_law_L_alike rfl ⟨by decide, by decide, by decide +kernel⟩ ⟨Nat.le_of_ble_eq_true rfl, Nat.le_of_ble_eq_true rfl⟩ rfl rfl hl.1 (Nat.le_of_ble_eq_true rfl) dL_law_420 ⟨show 200 + 200 * k + 1 + 1 + 1 + 1 + 1 ≤ 622557 from by omega, show 1200 + 1200 * k + 6 + 6 + 6 + 6 + 6 ≤ 7233016 from by omega⟩ (fun r21 ur21 H locs hr21 X => ?_)
                            obtain ⟨hur21, hr21⟩ := hr21
                            rw [hur21] at X
                            have X : zh g A (oL g h a b ((q0, q1, q2, q3, q4, q5, q6, q7, 1, q5, q7), P, G)) s.heap H locs := zhsub X [2, 0, 1] rfl rfl
                            refine zrwi (y := aAL q5 q7 1 q5 q7) hr21 ?_
                            refine zrwi (y := (1 : Int32)) (alike_self hrb.1) ?_
                            refine lv_iconst (v := (1 : Int32)) hx hb dL_law_423 (by decide) ?_
                            refine lv_icmp_ne (tgt := 431) hx hb dL_law_424 (by decide) (fun c22 => ?_) (fun c22 => ?_)
                            · exact absurd c22 (by decide)
                            · have qc22 := c22
                              refine lv_iconst (v := (1 : Int32)) hx hb dL_law_427 (by decide) ?_
                              refine lv_goto (tgt := 432) hx hb dL_law_428 (by decide) ?_
                              exact hend _ _ _ _ _ X.2.2 (by omega) (by omega)
            · have qc7 := c7
              have c7n : ¬ 56 ≤ k := zn_len (by omega) (by omega) c7
              refine lv_iload hx hb dL_law_96 (lv_at hl 0 rfl) ?_
              refine lv_if_eq (tgt := 352) hx hb dL_law_98 (by decide) (fun c23 => ?_) (fun c23 => ?_)
              · exact absurd c23 (by decide)
              · have qc23 := c23
                refine lv_aload_n hx hb dL_law_101 rfl (lv_at hl 5 rfl) ?_
                refine lv_iconst (v := nI 3) hx hb dL_law_102 (by decide) ?_
                refine lv_iload hx hb dL_law_103 (lv_at hl 1 rfl) ?_
                refine lv_imul hx hb dL_law_105 ?_
                refine zrwi (y := nI (3 * k)) (pk_mul _ _) ?_
                refine lv_bipush (v := nI 16) hx hb dL_law_106 (by decide) ?_
                refine zsubS (n := 3) (As := [.ref bs, .int (nI (3 * k)), .int (nI 16)]) (rest := []) (wc := []) (wr := oQ h (q0, q1, q2, q3, q4, q5, q6, q7, q8, q9, q10) ++ oB g a P ++ oG g b G) [] [0, 1, 2] rfl rfl rfl rfl (by decide) Z X zStS (fun _ _ h => h.2) (c_L_part l g bs Ls xs (3 * k) 16 hL (by omega) (by omega) (by omega)) gL_law_L_part rfl (by decide +kernel) ⟨Nat.le_of_ble_eq_true rfl, Nat.le_of_ble_eq_true rfl⟩ rfl rfl hl.1 (Nat.le_of_ble_eq_true rfl) dL_law_108 ⟨show 200 + 200 * k + 0 ≤ 622557 from by omega, show 1200 + 1200 * k + 0 ≤ 7233016 from by omega⟩ (fun r24 ur24 H locs hr24 X => ?_)
                obtain ⟨vr24, hvr24, hr24⟩ := hr24
                have X : zh g A (oL g h a b ((q0, q1, q2, q3, q4, q5, q6, q7, q8, q9, q10), P, G)) s.heap H locs := zhsub X [0, 1, 2] rfl rfl
                refine zrwi (y := nI vr24) hr24 ?_
                refine lv_istore (lv' := [(6, .int (nI vr24)), (4, .int (1 : Int32)), (5, .int (nI k)), (3, .ref b), (2, .ref a), (1, .ref h), (0, .ref bs)]) hx hb dL_law_111 hl (by decide) rfl (fun ls hl => ?_)
                refine lv_aload_n hx hb dL_law_113 rfl (lv_at hl 6 rfl) ?_
                refine lv_iconst (v := nI 3) hx hb dL_law_114 (by decide) ?_
                refine lv_iload hx hb dL_law_115 (lv_at hl 2 rfl) ?_
                refine lv_imul hx hb dL_law_117 ?_
                refine zrwi (y := nI (3 * k)) (pk_mul _ _) ?_
                refine lv_iconst (v := nI 1) hx hb dL_law_118 (by decide) ?_
                refine lv_iadd hx hb dL_law_119 ?_
                refine zrwi (y := nI ((3 * k) + 1)) (nI_add _ _) ?_
                refine lv_sipush (v := nI 4000) hx hb dL_law_120 (by decide) ?_
                refine zsubS (n := 3) (As := [.ref bs, .int (nI ((3 * k) + 1)), .int (nI 4000)]) (rest := []) (wc := []) (wr := oQ h (q0, q1, q2, q3, q4, q5, q6, q7, q8, q9, q10) ++ oB g a P ++ oG g b G) [] [0, 1, 2] rfl rfl rfl rfl (by decide) Z X zStS (fun _ _ h => h.2) (c_L_part l g bs Ls xs ((3 * k) + 1) 4000 hL (by omega) (by omega) (by omega)) gL_law_L_part rfl (by decide +kernel) ⟨Nat.le_of_ble_eq_true rfl, Nat.le_of_ble_eq_true rfl⟩ rfl rfl hl.1 (Nat.le_of_ble_eq_true rfl) dL_law_123 ⟨show 200 + 200 * k + 0 + 0 ≤ 622557 from by omega, show 1200 + 1200 * k + 0 + 0 ≤ 7233016 from by omega⟩ (fun r25 ur25 H locs hr25 X => ?_)
                obtain ⟨vr25, hvr25, hr25⟩ := hr25
                have X : zh g A (oL g h a b ((q0, q1, q2, q3, q4, q5, q6, q7, q8, q9, q10), P, G)) s.heap H locs := zhsub X [0, 1, 2] rfl rfl
                refine zrwi (y := nI vr25) hr25 ?_
                refine lv_istore (lv' := [(7, .int (nI vr25)), (6, .int (nI vr24)), (4, .int (1 : Int32)), (5, .int (nI k)), (3, .ref b), (2, .ref a), (1, .ref h), (0, .ref bs)]) hx hb dL_law_126 hl (by decide) rfl (fun ls hl => ?_)
                refine lv_aload_n hx hb dL_law_128 rfl (lv_at hl 7 rfl) ?_
                refine lv_iconst (v := nI 3) hx hb dL_law_129 (by decide) ?_
                refine lv_iload hx hb dL_law_130 (lv_at hl 3 rfl) ?_
                refine lv_imul hx hb dL_law_132 ?_
                refine zrwi (y := nI (3 * k)) (pk_mul _ _) ?_
                refine lv_iconst (v := nI 2) hx hb dL_law_133 (by decide) ?_
                refine lv_iadd hx hb dL_law_134 ?_
                refine zrwi (y := nI ((3 * k) + 2)) (nI_add _ _) ?_
                refine lv_sipush (v := nI 5000) hx hb dL_law_135 (by decide) ?_
                refine zsubS (n := 3) (As := [.ref bs, .int (nI ((3 * k) + 2)), .int (nI 5000)]) (rest := []) (wc := []) (wr := oQ h (q0, q1, q2, q3, q4, q5, q6, q7, q8, q9, q10) ++ oB g a P ++ oG g b G) [] [0, 1, 2] rfl rfl rfl rfl (by decide) Z X zStS (fun _ _ h => h.2) (c_L_part l g bs Ls xs ((3 * k) + 2) 5000 hL (by omega) (by omega) (by omega)) gL_law_L_part rfl (by decide +kernel) ⟨Nat.le_of_ble_eq_true rfl, Nat.le_of_ble_eq_true rfl⟩ rfl rfl hl.1 (Nat.le_of_ble_eq_true rfl) dL_law_138 ⟨show 200 + 200 * k + 0 + 0 + 0 ≤ 622557 from by omega, show 1200 + 1200 * k + 0 + 0 + 0 ≤ 7233016 from by omega⟩ (fun r26 ur26 H locs hr26 X => ?_)
                obtain ⟨vr26, hvr26, hr26⟩ := hr26
                have X : zh g A (oL g h a b ((q0, q1, q2, q3, q4, q5, q6, q7, q8, q9, q10), P, G)) s.heap H locs := zhsub X [0, 1, 2] rfl rfl
                refine zrwi (y := nI vr26) hr26 ?_
                refine lv_istore (lv' := [(8, .int (nI vr26)), (7, .int (nI vr25)), (6, .int (nI vr24)), (4, .int (1 : Int32)), (5, .int (nI k)), (3, .ref b), (2, .ref a), (1, .ref h), (0, .ref bs)]) hx hb dL_law_141 hl (by decide) rfl (fun ls hl => ?_)
                have cut289 : ∀ (q0 : Int32) (q1 : Int32) (q2 : Int32) (q3 : Int32) (q4 : Int32) (q5 : Int32) (q6 : Int32) (q7 : Int64) (q8 : Int32) (q9 : Int32) (q10 : Int64) (P : Nat → Int32) (G : Nat → Int32), (RGs ((q0, q1, q2, q3, q4, q5, q6, q7, q8, q9, q10), P, G)) → ∀ (H : Heap) (locs : List Loc) (ls : Array Slot), zh g A (oL g h a b ((q0, q1, q2, q3, q4, q5, q6, q7, q8, q9, q10), P, G)) s.heap H locs → lv_has ls 9 [(4, .int (1 : Int32)), (5, .int (nI k)), (3, .ref b), (2, .ref a), (1, .ref h), (0, .ref bs)] → W p l e room_1 s m #[.ref bs] below meth c H locs (220 + 200 * k) (1320 + 1200 * k) Q (F0 m 289 ls []) := by
                  intro q0 q1 q2 q3 q4 q5 q6 q7 q8 q9 q10 P G hrel H locs ls X hl
                  obtain ⟨pn, O, hR⟩ := hrel
                  have hR0 := hR
                  obtain ⟨⟨hG0, hG1, hG2, hG3, hG4, hG5⟩, hph, hot, hrb, hone, hgo, hov⟩ := hR
                  have hpl := RB_le hrb
                  obtain ⟨hp, h3⟩ := hp_ex hone
                  refine lv_iload hx hb dL_law_289 (lv_at hl 0 rfl) ?_
                  refine lv_if_eq (tgt := 343) hx hb dL_law_291 (by decide) (fun c27 => ?_) (fun c27 => ?_)
                  · exact absurd c27 (by decide)
                  · have qc27 := c27
                    refine lv_aload_n hx hb dL_law_294 rfl (lv_at hl 4 rfl) ?_
                    refine lv_aload_n hx hb dL_law_295 rfl (lv_at hl 3 rfl) ?_
                    refine lv_aload_n hx hb dL_law_296 rfl (lv_at hl 2 rfl) ?_
                    refine zsubS (n := 3) (As := [.ref h, .ref a, .ref b]) (rest := []) (wc := oL g h a b ((q0, q1, q2, q3, q4, q5, q6, q7, q8, q9, q10), P, G)) (wr := []) [0, 1, 2] [] rfl rfl rfl rfl (by decide) Z X zStL (fun _ _ h => h.1) (c_L_isBoard l g bL h a b q0 q1 q2 q3 q4 q5 q6 q7 q8 q9 q10 P G htr pn O hR0) gL_law_L_isBoard rfl ⟨by decide, by decide, by decide +kernel⟩ ⟨Nat.le_of_ble_eq_true rfl, Nat.le_of_ble_eq_true rfl⟩ rfl rfl hl.1 (Nat.le_of_ble_eq_true rfl) dL_law_297 ⟨show 220 + 200 * k + 60 ≤ 622557 from by omega, show 1320 + 1200 * k + 360 ≤ 7233016 from by omega⟩ (fun r28 ur28 H locs hr28 X => ?_)
                    obtain ⟨hur28, hr28⟩ := hr28
                    rw [hur28] at X
                    have X : zh g A (oL g h a b ((q0, q1, q2, q3, q4, q5, q6, q7, q8, q9, q10), P, G)) s.heap H locs := X
                    refine zrwi (y := (1 : Int32)) hr28 ?_
                    refine lv_if_eq (tgt := 343) hx hb dL_law_300 (by decide) (fun c29 => ?_) (fun c29 => ?_)
                    · exact absurd c29 (by decide)
                    · have qc29 := c29
                      refine lv_aload_n hx hb dL_law_303 rfl (lv_at hl 4 rfl) ?_
                      refine lv_aload_n hx hb dL_law_304 rfl (lv_at hl 3 rfl) ?_
                      refine lv_aload_n hx hb dL_law_305 rfl (lv_at hl 2 rfl) ?_
                      refine zsubS (n := 3) (As := [.ref h, .ref a, .ref b]) (rest := []) (wc := oL g h a b ((q0, q1, q2, q3, q4, q5, q6, q7, q8, q9, q10), P, G)) (wr := []) [0, 1, 2] [] rfl rfl rfl rfl (by decide) Z X zStL (fun _ _ h => h.1) (c_L_isSafe l g bL h a b q0 q1 q2 q3 q4 q5 q6 q7 q8 q9 q10 P G htr pn O hR0) gL_law_L_isSafe rfl ⟨by decide, by decide, by decide +kernel⟩ ⟨Nat.le_of_ble_eq_true rfl, Nat.le_of_ble_eq_true rfl⟩ rfl rfl hl.1 (Nat.le_of_ble_eq_true rfl) dL_law_306 ⟨show 220 + 200 * k + 60 + 20 ≤ 622557 from by omega, show 1320 + 1200 * k + 360 + 120 ≤ 7233016 from by omega⟩ (fun r30 ur30 H locs hr30 X => ?_)
                      obtain ⟨hur30, hr30⟩ := hr30
                      rw [hur30] at X
                      have X : zh g A (oL g h a b ((q0, q1, q2, q3, q4, q5, q6, q7, q8, q9, q10), P, G)) s.heap H locs := X
                      refine zrwi (y := (1 : Int32)) hr30 ?_
                      refine lv_if_eq (tgt := 343) hx hb dL_law_309 (by decide) (fun c31 => ?_) (fun c31 => ?_)
                      · exact absurd c31 (by decide)
                      · have qc31 := c31
                        refine lv_iload hx hb dL_law_312 (lv_at hl 1 rfl) ?_
                        refine lv_bipush (v := nI 7) hx hb dL_law_314 (by decide) ?_
                        refine lv_irem hx hb dL_law_316 (by decide) ?_
                        refine zrwi (y := nI (k % 7)) (pk_rem (by omega) (by omega) (by omega)) ?_
                        refine lv_bipush (v := (6 : Int32)) hx hb dL_law_317 (by decide) ?_
                        refine lv_icmp_ge (tgt := 330) hx hb dL_law_319 (by decide) (fun c32 => ?_) (fun c32 => ?_)
                        · have qc32 := c32
                          have c32n : 6 ≤ (k % 7) := zn_let (by omega) (by omega) c32
                          refine lv_aload_n hx hb dL_law_330 rfl (lv_at hl 4 rfl) ?_
                          refine lv_aload_n hx hb dL_law_331 rfl (lv_at hl 3 rfl) ?_
                          refine lv_aload_n hx hb dL_law_332 rfl (lv_at hl 2 rfl) ?_
                          refine zsubS (n := 3) (As := [.ref h, .ref a, .ref b]) (rest := []) (wc := oL g h a b ((q0, q1, q2, q3, q4, q5, q6, q7, q8, q9, q10), P, G)) (wr := []) [0, 1, 2] [] rfl rfl rfl rfl (by decide) Z X zStL (fun _ _ h => h.1) (c_L_isWorth l g bL h a b q0 q1 q2 q3 q4 q5 q6 q7 q8 q9 q10 P G htr pn O hR0 hp h3) gL_law_L_isWorth rfl ⟨by decide, by decide, by decide +kernel⟩ ⟨Nat.le_of_ble_eq_true rfl, Nat.le_of_ble_eq_true rfl⟩ rfl rfl hl.1 (Nat.le_of_ble_eq_true rfl) dL_law_333 ⟨show 220 + 200 * k + 60 + 20 + 12 ≤ 622557 from by omega, show 1320 + 1200 * k + 360 + 120 + 72 ≤ 7233016 from by omega⟩ (fun r33 ur33 H locs hr33 X => ?_)
                          obtain ⟨hur33, hr33⟩ := hr33
                          rw [hur33] at X
                          have X : zh g A (oL g h a b ((q0, q1, q2, q3, q4, q5, q6, q7, q8, q9, q10), P, G)) s.heap H locs := X
                          refine zrwi (y := (1 : Int32)) hr33 ?_
                          refine lv_if_eq (tgt := 343) hx hb dL_law_336 (by decide) (fun c34 => ?_) (fun c34 => ?_)
                          · exact absurd c34 (by decide)
                          · have qc34 := c34
                            refine lv_iconst (v := (1 : Int32)) hx hb dL_law_339 (by decide) ?_
                            refine lv_goto (tgt := 344) hx hb dL_law_340 (by decide) ?_
                            refine lv_istore (lv' := [(4, .int (1 : Int32)), (5, .int (nI k)), (3, .ref b), (2, .ref a), (1, .ref h), (0, .ref bs)]) hx hb dL_law_344 hl (by decide) rfl (fun ls hl => ?_)
                            refine lv_iinc (v := nI (k + 1)) (lv' := [(5, .int (nI (k + 1))), (4, .int (1 : Int32)), (3, .ref b), (2, .ref a), (1, .ref h), (0, .ref bs)]) hx hb dL_law_346 hl (k := 1) rfl (zi_inc k) (by decide) rfl (fun ls hl => ?_)
                            refine lv_goto (tgt := 89) hx hb dL_law_349 (by decide) ?_
                            exact W.widen (by omega) (by omega) (ih89 (k + 1) q0 q1 q2 q3 q4 q5 q6 q7 q8 q9 q10 P G (by omega) (RGs_i hR0) (by omega) H locs ls X (lv_sub hl [1, 0, 2, 3, 4, 5] rfl))
                        · have qc32 := c32
                          have c32n : ¬ 6 ≤ (k % 7) := zn_len (by omega) (by omega) c32
                          refine lv_aload_n hx hb dL_law_322 rfl (lv_at hl 2 rfl) ?_
                          refine lv_iconst (v := (4 : Int32)) hx hb dL_law_323 (by decide) ?_
                          refine zald (q0 := 2) (n := 6) (f := G) Z X rfl rfl 4 (by decide) (by decide) (by decide) dL_law_324 ?_
                          refine zrwi (y := nI pn) hG4 ?_
                          refine lv_bipush (v := (10 : Int32)) hx hb dL_law_325 (by decide) ?_
                          refine lv_icmp_lt (tgt := 339) hx hb dL_law_327 (by decide) (fun c35 => ?_) (fun c35 => ?_)
                          · have qc35 := c35
                            have c35n : pn < 10 := zn_ltt (by omega) (by omega) c35
                            refine lv_iconst (v := (1 : Int32)) hx hb dL_law_339 (by decide) ?_
                            refine lv_goto (tgt := 344) hx hb dL_law_340 (by decide) ?_
                            refine lv_istore (lv' := [(4, .int (1 : Int32)), (5, .int (nI k)), (3, .ref b), (2, .ref a), (1, .ref h), (0, .ref bs)]) hx hb dL_law_344 hl (by decide) rfl (fun ls hl => ?_)
                            refine lv_iinc (v := nI (k + 1)) (lv' := [(5, .int (nI (k + 1))), (4, .int (1 : Int32)), (3, .ref b), (2, .ref a), (1, .ref h), (0, .ref bs)]) hx hb dL_law_346 hl (k := 1) rfl (zi_inc k) (by decide) rfl (fun ls hl => ?_)
                            refine lv_goto (tgt := 89) hx hb dL_law_349 (by decide) ?_
                            exact W.widen (by omega) (by omega) (ih89 (k + 1) q0 q1 q2 q3 q4 q5 q6 q7 q8 q9 q10 P G (by omega) (RGs_i hR0) (by omega) H locs ls X (lv_sub hl [1, 0, 2, 3, 4, 5] rfl))
                          · have qc35 := c35
                            have c35n : ¬ pn < 10 := zn_ltn (by omega) (by omega) c35
                            refine lv_aload_n hx hb dL_law_330 rfl (lv_at hl 4 rfl) ?_
                            refine lv_aload_n hx hb dL_law_331 rfl (lv_at hl 3 rfl) ?_
                            refine lv_aload_n hx hb dL_law_332 rfl (lv_at hl 2 rfl) ?_
                            refine zsubS (n := 3) (As := [.ref h, .ref a, .ref b]) (rest := []) (wc := oL g h a b ((q0, q1, q2, q3, q4, q5, q6, q7, q8, q9, q10), P, G)) (wr := []) [0, 1, 2] [] rfl rfl rfl rfl (by decide) Z X zStL (fun _ _ h => h.1) (c_L_isWorth l g bL h a b q0 q1 q2 q3 q4 q5 q6 q7 q8 q9 q10 P G htr pn O hR0 hp h3) gL_law_L_isWorth rfl ⟨by decide, by decide, by decide +kernel⟩ ⟨Nat.le_of_ble_eq_true rfl, Nat.le_of_ble_eq_true rfl⟩ rfl rfl hl.1 (Nat.le_of_ble_eq_true rfl) dL_law_333 ⟨show 220 + 200 * k + 60 + 20 + 12 ≤ 622557 from by omega, show 1320 + 1200 * k + 360 + 120 + 72 ≤ 7233016 from by omega⟩ (fun r36 ur36 H locs hr36 X => ?_)
                            obtain ⟨hur36, hr36⟩ := hr36
                            rw [hur36] at X
                            have X : zh g A (oL g h a b ((q0, q1, q2, q3, q4, q5, q6, q7, q8, q9, q10), P, G)) s.heap H locs := X
                            refine zrwi (y := (1 : Int32)) hr36 ?_
                            refine lv_if_eq (tgt := 343) hx hb dL_law_336 (by decide) (fun c37 => ?_) (fun c37 => ?_)
                            · exact absurd c37 (by decide)
                            · have qc37 := c37
                              refine lv_iconst (v := (1 : Int32)) hx hb dL_law_339 (by decide) ?_
                              refine lv_goto (tgt := 344) hx hb dL_law_340 (by decide) ?_
                              refine lv_istore (lv' := [(4, .int (1 : Int32)), (5, .int (nI k)), (3, .ref b), (2, .ref a), (1, .ref h), (0, .ref bs)]) hx hb dL_law_344 hl (by decide) rfl (fun ls hl => ?_)
                              refine lv_iinc (v := nI (k + 1)) (lv' := [(5, .int (nI (k + 1))), (4, .int (1 : Int32)), (3, .ref b), (2, .ref a), (1, .ref h), (0, .ref bs)]) hx hb dL_law_346 hl (k := 1) rfl (zi_inc k) (by decide) rfl (fun ls hl => ?_)
                              refine lv_goto (tgt := 89) hx hb dL_law_349 (by decide) ?_
                              exact W.widen (by omega) (by omega) (ih89 (k + 1) q0 q1 q2 q3 q4 q5 q6 q7 q8 q9 q10 P G (by omega) (RGs_i hR0) (by omega) H locs ls X (lv_sub hl [1, 0, 2, 3, 4, 5] rfl))
                refine lv_iload hx hb dL_law_143 (lv_at hl 2 rfl) ?_
                refine lv_bipush (v := (15 : Int32)) hx hb dL_law_145 (by decide) ?_
                refine lv_icmp_eq (tgt := 164) hx hb dL_law_147 (by decide) (fun c38 => ?_) (fun c38 => ?_)
                · have qc38 := c38
                  have c38n : vr24 = 15 := zn_eqt (by omega) (by omega) c38
                  refine lv_aload_n hx hb dL_law_164 rfl (lv_at hl 7 rfl) ?_
                  refine lv_aload_n hx hb dL_law_165 rfl (lv_at hl 6 rfl) ?_
                  refine lv_aload_n hx hb dL_law_166 rfl (lv_at hl 5 rfl) ?_
                  refine lv_iload hx hb dL_law_167 (lv_at hl 1 rfl) ?_
                  refine lv_iconst (v := nI 2) hx hb dL_law_169 (by decide) ?_
                  refine lv_irem hx hb dL_law_170 (by decide) ?_
                  refine zrwi (y := nI (vr25 % 2)) (pk_rem (by omega) (by omega) (by omega)) ?_
                  refine lv_if_ne (tgt := 178) hx hb dL_law_171 (by decide) (fun c39 => ?_) (fun c39 => ?_)
                  · have qc39 := c39
                    have c39n : ¬ (vr25 % 2) = 0 := zn_eqn (by omega) (by omega) c39
                    refine lv_iconst (v := (0 : Int32)) hx hb dL_law_178 (by decide) ?_
                    refine zsubS (n := 4) (As := [.ref h, .ref a, .ref b, .int (0 : Int32)]) (rest := []) (wc := oL g h a b ((q0, q1, q2, q3, q4, q5, q6, q7, q8, q9, q10), P, G)) (wr := []) [0, 1, 2] [] rfl rfl rfl rfl (by decide) Z X zStL (fun _ _ h => h.1) (c_L_isBegun l g bL h a b q0 q1 q2 q3 q4 q5 q6 q7 q8 q9 q10 P G htr pn O hR0 false) gL_law_L_isBegun rfl ⟨by decide, by decide, by decide +kernel⟩ ⟨Nat.le_of_ble_eq_true rfl, Nat.le_of_ble_eq_true rfl⟩ rfl rfl hl.1 (Nat.le_of_ble_eq_true rfl) dL_law_179 ⟨show 200 + 200 * k + 0 + 0 + 0 + 0 ≤ 622557 from by omega, show 1200 + 1200 * k + 0 + 0 + 0 + 0 ≤ 7233016 from by omega⟩ (fun r40 ur40 H locs hr40 X => ?_)
                    obtain ⟨h1r40, h2r40⟩ := hr40
                    obtain ⟨⟨u0r40, u1r40, u2r40, u3r40, u4r40, u5r40, u6r40, u7r40, u8r40, u9r40, u10r40⟩, Pr40, Gr40⟩ := ur40
                    refine zrwi (y := (1 : Int32)) h1r40 ?_
                    have X : zh g A (oL g h a b ((u0r40, u1r40, u2r40, u3r40, u4r40, u5r40, u6r40, u7r40, u8r40, u9r40, u10r40), Pr40, Gr40)) s.heap H locs := X
                    refine lv_istore (lv' := [(4, .int (1 : Int32)), (8, .int (nI vr26)), (7, .int (nI vr25)), (6, .int (nI vr24)), (5, .int (nI k)), (3, .ref b), (2, .ref a), (1, .ref h), (0, .ref bs)]) hx hb dL_law_182 hl (by decide) rfl (fun ls hl => ?_)
                    refine lv_goto (tgt := 289) hx hb dL_law_184 (by decide) ?_
                    exact W.widen (by omega) (by omega) (cut289 u0r40 u1r40 u2r40 u3r40 u4r40 u5r40 u6r40 u7r40 u8r40 u9r40 u10r40 Pr40 Gr40 (by first | assumption | exact RGs_i hR0) H locs ls X (lv_sub hl [0, 4, 5, 6, 7, 8] rfl))
                  · have qc39 := c39
                    have c39n : (vr25 % 2) = 0 := zn_eqt (by omega) (by omega) c39
                    refine lv_iconst (v := (1 : Int32)) hx hb dL_law_174 (by decide) ?_
                    refine lv_goto (tgt := 179) hx hb dL_law_175 (by decide) ?_
                    refine zsubS (n := 4) (As := [.ref h, .ref a, .ref b, .int (1 : Int32)]) (rest := []) (wc := oL g h a b ((q0, q1, q2, q3, q4, q5, q6, q7, q8, q9, q10), P, G)) (wr := []) [0, 1, 2] [] rfl rfl rfl rfl (by decide) Z X zStL (fun _ _ h => h.1) (c_L_isBegun l g bL h a b q0 q1 q2 q3 q4 q5 q6 q7 q8 q9 q10 P G htr pn O hR0 true) gL_law_L_isBegun rfl ⟨by decide, by decide, by decide +kernel⟩ ⟨Nat.le_of_ble_eq_true rfl, Nat.le_of_ble_eq_true rfl⟩ rfl rfl hl.1 (Nat.le_of_ble_eq_true rfl) dL_law_179 ⟨show 200 + 200 * k + 0 + 0 + 0 + 0 ≤ 622557 from by omega, show 1200 + 1200 * k + 0 + 0 + 0 + 0 ≤ 7233016 from by omega⟩ (fun r41 ur41 H locs hr41 X => ?_)
                    obtain ⟨h1r41, h2r41⟩ := hr41
                    obtain ⟨⟨u0r41, u1r41, u2r41, u3r41, u4r41, u5r41, u6r41, u7r41, u8r41, u9r41, u10r41⟩, Pr41, Gr41⟩ := ur41
                    refine zrwi (y := (1 : Int32)) h1r41 ?_
                    have X : zh g A (oL g h a b ((u0r41, u1r41, u2r41, u3r41, u4r41, u5r41, u6r41, u7r41, u8r41, u9r41, u10r41), Pr41, Gr41)) s.heap H locs := X
                    refine lv_istore (lv' := [(4, .int (1 : Int32)), (8, .int (nI vr26)), (7, .int (nI vr25)), (6, .int (nI vr24)), (5, .int (nI k)), (3, .ref b), (2, .ref a), (1, .ref h), (0, .ref bs)]) hx hb dL_law_182 hl (by decide) rfl (fun ls hl => ?_)
                    refine lv_goto (tgt := 289) hx hb dL_law_184 (by decide) ?_
                    exact W.widen (by omega) (by omega) (cut289 u0r41 u1r41 u2r41 u3r41 u4r41 u5r41 u6r41 u7r41 u8r41 u9r41 u10r41 Pr41 Gr41 (by first | assumption | exact RGs_i hR0) H locs ls X (lv_sub hl [0, 4, 5, 6, 7, 8] rfl))
                · have qc38 := c38
                  have c38n : ¬ vr24 = 15 := zn_eqn (by omega) (by omega) c38
                  refine lv_iload hx hb dL_law_150 (lv_at hl 2 rfl) ?_
                  refine lv_bipush (v := (14 : Int32)) hx hb dL_law_152 (by decide) ?_
                  refine lv_icmp_ne (tgt := 187) hx hb dL_law_154 (by decide) (fun c42 => ?_) (fun c42 => ?_)
                  · have qc42 := c42
                    have c42n : ¬ vr24 = 14 := zn_eqn (by omega) (by omega) c42
                    refine lv_iload hx hb dL_law_187 (lv_at hl 2 rfl) ?_
                    refine lv_bipush (v := (14 : Int32)) hx hb dL_law_189 (by decide) ?_
                    refine lv_icmp_ne (tgt := 222) hx hb dL_law_191 (by decide) (fun c43 => ?_) (fun c43 => ?_)
                    · have qc43 := c43
                      have c43n : ¬ vr24 = 14 := zn_eqn (by omega) (by omega) c43
                      refine lv_iload hx hb dL_law_222 (lv_at hl 2 rfl) ?_
                      refine lv_iconst (v := (2 : Int32)) hx hb dL_law_224 (by decide) ?_
                      refine lv_icmp_ge (tgt := 244) hx hb dL_law_225 (by decide) (fun c44 => ?_) (fun c44 => ?_)
                      · have qc44 := c44
                        have c44n : 2 ≤ vr24 := zn_let (by omega) (by omega) c44
                        refine lv_iload hx hb dL_law_244 (lv_at hl 2 rfl) ?_
                        refine lv_iconst (v := (4 : Int32)) hx hb dL_law_246 (by decide) ?_
                        refine lv_icmp_ge (tgt := 266) hx hb dL_law_247 (by decide) (fun c45 => ?_) (fun c45 => ?_)
                        · have qc45 := c45
                          have c45n : 4 ≤ vr24 := zn_let (by omega) (by omega) c45
                          refine lv_aload_n hx hb dL_law_266 rfl (lv_at hl 7 rfl) ?_
                          refine lv_aload_n hx hb dL_law_267 rfl (lv_at hl 6 rfl) ?_
                          refine lv_aload_n hx hb dL_law_268 rfl (lv_at hl 5 rfl) ?_
                          refine lv_iload hx hb dL_law_269 (lv_at hl 1 rfl) ?_
                          refine lv_iload hx hb dL_law_271 (lv_at hl 0 rfl) ?_
                          refine lv_bipush (v := nI 8) hx hb dL_law_273 (by decide) ?_
                          refine lv_irem hx hb dL_law_275 (by decide) ?_
                          refine zrwi (y := nI (vr26 % 8)) (pk_rem (by omega) (by omega) (by omega)) ?_
                          refine lv_if_le (tgt := 283) hx hb dL_law_276 (by decide) (fun c46 => ?_) (fun c46 => ?_)
                          · have qc46 := c46
                            have c46n : (vr26 % 8) ≤ 0 := zn_let (by omega) (by omega) c46
                            refine lv_iconst (v := (0 : Int32)) hx hb dL_law_283 (by decide) ?_
                            refine zsubS (n := 5) (As := [.ref h, .ref a, .ref b, .int (nI vr25), .int (0 : Int32)]) (rest := []) (wc := oL g h a b ((q0, q1, q2, q3, q4, q5, q6, q7, q8, q9, q10), P, G)) (wr := []) [0, 1, 2] [] rfl rfl rfl rfl (by decide) Z X zStL (fun _ _ h => h.1) (c_L_isPlayed l g bL h a b q0 q1 q2 q3 q4 q5 q6 q7 q8 q9 q10 P G vr25 (0 : Int32) htr pn O hR0 (by omega)) gL_law_L_isPlayed rfl ⟨by decide, by decide, by decide +kernel⟩ ⟨Nat.le_of_ble_eq_true rfl, Nat.le_of_ble_eq_true rfl⟩ rfl rfl hl.1 (Nat.le_of_ble_eq_true rfl) dL_law_284 ⟨show 200 + 200 * k + 0 + 0 + 0 + 3 ≤ 622557 from by omega, show 1200 + 1200 * k + 0 + 0 + 0 + 18 ≤ 7233016 from by omega⟩ (fun r47 ur47 H locs hr47 X => ?_)
                            obtain ⟨h1r47, h2r47⟩ := hr47
                            obtain ⟨⟨u0r47, u1r47, u2r47, u3r47, u4r47, u5r47, u6r47, u7r47, u8r47, u9r47, u10r47⟩, Pr47, Gr47⟩ := ur47
                            refine zrwi (y := (1 : Int32)) h1r47 ?_
                            have X : zh g A (oL g h a b ((u0r47, u1r47, u2r47, u3r47, u4r47, u5r47, u6r47, u7r47, u8r47, u9r47, u10r47), Pr47, Gr47)) s.heap H locs := X
                            refine lv_istore (lv' := [(4, .int (1 : Int32)), (8, .int (nI vr26)), (7, .int (nI vr25)), (6, .int (nI vr24)), (5, .int (nI k)), (3, .ref b), (2, .ref a), (1, .ref h), (0, .ref bs)]) hx hb dL_law_287 hl (by decide) rfl (fun ls hl => ?_)
                            exact W.widen (by omega) (by omega) (cut289 u0r47 u1r47 u2r47 u3r47 u4r47 u5r47 u6r47 u7r47 u8r47 u9r47 u10r47 Pr47 Gr47 (by first | assumption | exact RGs_i hR0) H locs ls X (lv_sub hl [0, 4, 5, 6, 7, 8] rfl))
                          · have qc46 := c46
                            have c46n : ¬ (vr26 % 8) ≤ 0 := zn_len (by omega) (by omega) c46
                            refine lv_iconst (v := (1 : Int32)) hx hb dL_law_279 (by decide) ?_
                            refine lv_goto (tgt := 284) hx hb dL_law_280 (by decide) ?_
                            refine zsubS (n := 5) (As := [.ref h, .ref a, .ref b, .int (nI vr25), .int (1 : Int32)]) (rest := []) (wc := oL g h a b ((q0, q1, q2, q3, q4, q5, q6, q7, q8, q9, q10), P, G)) (wr := []) [0, 1, 2] [] rfl rfl rfl rfl (by decide) Z X zStL (fun _ _ h => h.1) (c_L_isPlayed l g bL h a b q0 q1 q2 q3 q4 q5 q6 q7 q8 q9 q10 P G vr25 (1 : Int32) htr pn O hR0 (by omega)) gL_law_L_isPlayed rfl ⟨by decide, by decide, by decide +kernel⟩ ⟨Nat.le_of_ble_eq_true rfl, Nat.le_of_ble_eq_true rfl⟩ rfl rfl hl.1 (Nat.le_of_ble_eq_true rfl) dL_law_284 ⟨show 200 + 200 * k + 0 + 0 + 0 + 3 ≤ 622557 from by omega, show 1200 + 1200 * k + 0 + 0 + 0 + 18 ≤ 7233016 from by omega⟩ (fun r48 ur48 H locs hr48 X => ?_)
                            obtain ⟨h1r48, h2r48⟩ := hr48
                            obtain ⟨⟨u0r48, u1r48, u2r48, u3r48, u4r48, u5r48, u6r48, u7r48, u8r48, u9r48, u10r48⟩, Pr48, Gr48⟩ := ur48
                            refine zrwi (y := (1 : Int32)) h1r48 ?_
                            have X : zh g A (oL g h a b ((u0r48, u1r48, u2r48, u3r48, u4r48, u5r48, u6r48, u7r48, u8r48, u9r48, u10r48), Pr48, Gr48)) s.heap H locs := X
                            refine lv_istore (lv' := [(4, .int (1 : Int32)), (8, .int (nI vr26)), (7, .int (nI vr25)), (6, .int (nI vr24)), (5, .int (nI k)), (3, .ref b), (2, .ref a), (1, .ref h), (0, .ref bs)]) hx hb dL_law_287 hl (by decide) rfl (fun ls hl => ?_)
                            exact W.widen (by omega) (by omega) (cut289 u0r48 u1r48 u2r48 u3r48 u4r48 u5r48 u6r48 u7r48 u8r48 u9r48 u10r48 Pr48 Gr48 (by first | assumption | exact RGs_i hR0) H locs ls X (lv_sub hl [0, 4, 5, 6, 7, 8] rfl))
                        · have qc45 := c45
                          have c45n : ¬ 4 ≤ vr24 := zn_len (by omega) (by omega) c45
                          refine lv_aload_n hx hb dL_law_250 rfl (lv_at hl 7 rfl) ?_
                          refine lv_aload_n hx hb dL_law_251 rfl (lv_at hl 6 rfl) ?_
                          refine lv_aload_n hx hb dL_law_252 rfl (lv_at hl 5 rfl) ?_
                          refine lv_iload hx hb dL_law_253 (lv_at hl 1 rfl) ?_
                          refine lv_bipush (v := nI 17) hx hb dL_law_255 (by decide) ?_
                          refine lv_irem hx hb dL_law_257 (by decide) ?_
                          refine zrwi (y := nI (vr25 % 17)) (pk_rem (by omega) (by omega) (by omega)) ?_
                          refine zsubS (n := 4) (As := [.ref h, .ref a, .ref b, .int (nI (vr25 % 17))]) (rest := []) (wc := oL g h a b ((q0, q1, q2, q3, q4, q5, q6, q7, q8, q9, q10), P, G)) (wr := []) [0, 1, 2] [] rfl rfl rfl rfl (by decide) Z X zStL (fun _ _ h => h.1) (c_L_isPlaced l g bL h a b q0 q1 q2 q3 q4 q5 q6 q7 q8 q9 q10 P G (vr25 % 17) htr pn O hR0 (by omega)) gL_law_L_isPlaced rfl ⟨by decide, by decide, by decide +kernel⟩ ⟨Nat.le_of_ble_eq_true rfl, Nat.le_of_ble_eq_true rfl⟩ rfl rfl hl.1 (Nat.le_of_ble_eq_true rfl) dL_law_258 ⟨show 200 + 200 * k + 0 + 0 + 0 + 2 ≤ 622557 from by omega, show 1200 + 1200 * k + 0 + 0 + 0 + 12 ≤ 7233016 from by omega⟩ (fun r49 ur49 H locs hr49 X => ?_)
                          obtain ⟨h1r49, h2r49⟩ := hr49
                          obtain ⟨⟨u0r49, u1r49, u2r49, u3r49, u4r49, u5r49, u6r49, u7r49, u8r49, u9r49, u10r49⟩, Pr49, Gr49⟩ := ur49
                          refine zrwi (y := (1 : Int32)) h1r49 ?_
                          have X : zh g A (oL g h a b ((u0r49, u1r49, u2r49, u3r49, u4r49, u5r49, u6r49, u7r49, u8r49, u9r49, u10r49), Pr49, Gr49)) s.heap H locs := X
                          refine lv_istore (lv' := [(4, .int (1 : Int32)), (8, .int (nI vr26)), (7, .int (nI vr25)), (6, .int (nI vr24)), (5, .int (nI k)), (3, .ref b), (2, .ref a), (1, .ref h), (0, .ref bs)]) hx hb dL_law_261 hl (by decide) rfl (fun ls hl => ?_)
                          refine lv_goto (tgt := 289) hx hb dL_law_263 (by decide) ?_
                          exact W.widen (by omega) (by omega) (cut289 u0r49 u1r49 u2r49 u3r49 u4r49 u5r49 u6r49 u7r49 u8r49 u9r49 u10r49 Pr49 Gr49 (by first | assumption | exact RGs_i hR0) H locs ls X (lv_sub hl [0, 4, 5, 6, 7, 8] rfl))
                      · have qc44 := c44
                        have c44n : ¬ 2 ≤ vr24 := zn_len (by omega) (by omega) c44
                        refine lv_aload_n hx hb dL_law_228 rfl (lv_at hl 7 rfl) ?_
                        refine lv_aload_n hx hb dL_law_229 rfl (lv_at hl 6 rfl) ?_
                        refine lv_aload_n hx hb dL_law_230 rfl (lv_at hl 5 rfl) ?_
                        refine lv_iload hx hb dL_law_231 (lv_at hl 1 rfl) ?_
                        refine lv_bipush (v := nI 17) hx hb dL_law_233 (by decide) ?_
                        refine lv_irem hx hb dL_law_235 (by decide) ?_
                        refine zrwi (y := nI (vr25 % 17)) (pk_rem (by omega) (by omega) (by omega)) ?_
                        refine zsubS (n := 4) (As := [.ref h, .ref a, .ref b, .int (nI (vr25 % 17))]) (rest := []) (wc := oL g h a b ((q0, q1, q2, q3, q4, q5, q6, q7, q8, q9, q10), P, G)) (wr := []) [0, 1, 2] [] rfl rfl rfl rfl (by decide) Z X zStL (fun _ _ h => h.1) (c_L_isGiven l g bL h a b q0 q1 q2 q3 q4 q5 q6 q7 q8 q9 q10 P G (vr25 % 17) htr pn O hR0 (by omega)) gL_law_L_isGiven rfl ⟨by decide, by decide, by decide +kernel⟩ ⟨Nat.le_of_ble_eq_true rfl, Nat.le_of_ble_eq_true rfl⟩ rfl rfl hl.1 (Nat.le_of_ble_eq_true rfl) dL_law_236 ⟨show 200 + 200 * k + 0 + 0 + 0 + 1 ≤ 622557 from by omega, show 1200 + 1200 * k + 0 + 0 + 0 + 6 ≤ 7233016 from by omega⟩ (fun r50 ur50 H locs hr50 X => ?_)
                        obtain ⟨h1r50, h2r50⟩ := hr50
                        obtain ⟨⟨u0r50, u1r50, u2r50, u3r50, u4r50, u5r50, u6r50, u7r50, u8r50, u9r50, u10r50⟩, Pr50, Gr50⟩ := ur50
                        refine zrwi (y := (1 : Int32)) h1r50 ?_
                        have X : zh g A (oL g h a b ((u0r50, u1r50, u2r50, u3r50, u4r50, u5r50, u6r50, u7r50, u8r50, u9r50, u10r50), Pr50, Gr50)) s.heap H locs := X
                        refine lv_istore (lv' := [(4, .int (1 : Int32)), (8, .int (nI vr26)), (7, .int (nI vr25)), (6, .int (nI vr24)), (5, .int (nI k)), (3, .ref b), (2, .ref a), (1, .ref h), (0, .ref bs)]) hx hb dL_law_239 hl (by decide) rfl (fun ls hl => ?_)
                        refine lv_goto (tgt := 289) hx hb dL_law_241 (by decide) ?_
                        exact W.widen (by omega) (by omega) (cut289 u0r50 u1r50 u2r50 u3r50 u4r50 u5r50 u6r50 u7r50 u8r50 u9r50 u10r50 Pr50 Gr50 (by first | assumption | exact RGs_i hR0) H locs ls X (lv_sub hl [0, 4, 5, 6, 7, 8] rfl))
                    · have qc43 := c43
                      have c43n : vr24 = 14 := zn_eqt (by omega) (by omega) c43
                      refine lv_aload_n hx hb dL_law_194 rfl (lv_at hl 7 rfl) ?_
                      refine zsubVi (n := 0) (As := []) (rest := []) (wc := oQ h (q0, q1, q2, q3, q4, q5, q6, q7, q8, q9, q10)) (wr := oB g a P ++ oG g b G) (ci := 0) (C := RX0) (T := TX0) (N := 11) [0] [1, 2] rfl rfl rfl rfl (by decide) Z X zStL (fun _ _ h => h.1) (c_X0_keep l g bL h q0 q1 q2 q3 q4 q5 q6 q7 q8 q9 q10) gL_law_X0_keep rfl (by decide +kernel) ⟨Nat.le_of_ble_eq_true rfl, Nat.le_of_ble_eq_true rfl⟩ rfl rfl rfl rfl hl.1 (Nat.le_of_ble_eq_true rfl) dL_law_195 ⟨show 200 + 200 * k + 0 + 0 + 0 ≤ 622557 from by omega, show 1200 + 1200 * k + 0 + 0 + 0 ≤ 7233016 from by omega⟩ (fun r51 ur51 H locs hr51 X => ?_)
                      obtain ⟨hur51, hr51⟩ := hr51
                      rw [hur51] at X
                      have X : zh g A (oL g h a b ((q0, q1, q2, q3, q4, q5, q6, q7, 1, q5, q7), P, G)) s.heap H locs := zhsub X [2, 0, 1] rfl rfl
                      refine zrwi (y := qBc q5) hr51 ?_
                      refine zrwi (y := nI pn) (RB_bc hrb) ?_
                      refine lv_aload_n hx hb dL_law_198 rfl (lv_at hl 5 rfl) ?_
                      refine lv_iconst (v := (4 : Int32)) hx hb dL_law_199 (by decide) ?_
                      refine zald (q0 := 2) (n := 6) (f := G) Z X rfl rfl 4 (by decide) (by decide) (by decide) dL_law_200 ?_
                      refine zrwi (y := nI pn) hG4 ?_
                      refine lv_icmp_ne (tgt := 216) hx hb dL_law_201 (by decide) (fun c52 => ?_) (fun c52 => ?_)
                      · exact absurd rfl c52
                      · have qc52 := c52
                        refine lv_aload_n hx hb dL_law_204 rfl (lv_at hl 7 rfl) ?_
                        refine zsubSi (n := 1) (As := [.ref h]) (rest := []) (wc := oQ h (q0, q1, q2, q3, q4, q5, q6, q7, 1, q5, q7)) (wr := oB g a P ++ oG g b G) [0] [1, 2] rfl rfl rfl rfl (by decide) Z X zStL (fun _ _ h => h.1) (c_L_alike l g bL h q0 q1 q2 q3 q4 q5 q6 q7 1 q5 q7 htr) gL_law_L_alike rfl ⟨by decide, by decide, by decide +kernel⟩ ⟨Nat.le_of_ble_eq_true rfl, Nat.le_of_ble_eq_true rfl⟩ rfl rfl hl.1 (Nat.le_of_ble_eq_true rfl) dL_law_205 ⟨show 200 + 200 * k + 0 + 0 + 0 + 1 ≤ 622557 from by omega, show 1200 + 1200 * k + 0 + 0 + 0 + 6 ≤ 7233016 from by omega⟩ (fun r53 ur53 H locs hr53 X => ?_)
                        obtain ⟨hur53, hr53⟩ := hr53
                        rw [hur53] at X
                        have X : zh g A (oL g h a b ((q0, q1, q2, q3, q4, q5, q6, q7, 1, q5, q7), P, G)) s.heap H locs := zhsub X [2, 0, 1] rfl rfl
                        refine zrwi (y := aAL q5 q7 1 q5 q7) hr53 ?_
                        refine zrwi (y := (1 : Int32)) (alike_self hrb.1) ?_
                        refine lv_iconst (v := (1 : Int32)) hx hb dL_law_208 (by decide) ?_
                        refine lv_icmp_ne (tgt := 216) hx hb dL_law_209 (by decide) (fun c54 => ?_) (fun c54 => ?_)
                        · exact absurd c54 (by decide)
                        · have qc54 := c54
                          refine lv_iconst (v := (1 : Int32)) hx hb dL_law_212 (by decide) ?_
                          refine lv_goto (tgt := 217) hx hb dL_law_213 (by decide) ?_
                          refine lv_istore (lv' := [(4, .int (1 : Int32)), (8, .int (nI vr26)), (7, .int (nI vr25)), (6, .int (nI vr24)), (5, .int (nI k)), (3, .ref b), (2, .ref a), (1, .ref h), (0, .ref bs)]) hx hb dL_law_217 hl (by decide) rfl (fun ls hl => ?_)
                          refine lv_goto (tgt := 289) hx hb dL_law_219 (by decide) ?_
                          exact W.widen (by omega) (by omega) (cut289 q0 q1 q2 q3 q4 q5 q6 q7 1 q5 q7 P G (by first | assumption | exact RGs_i hR0) H locs ls X (lv_sub hl [0, 4, 5, 6, 7, 8] rfl))
                  · have qc42 := c42
                    have c42n : vr24 = 14 := zn_eqt (by omega) (by omega) c42
                    refine lv_aload_n hx hb dL_law_157 rfl (lv_at hl 5 rfl) ?_
                    refine lv_iconst (v := (1 : Int32)) hx hb dL_law_158 (by decide) ?_
                    refine zald (q0 := 2) (n := 6) (f := G) Z X rfl rfl 1 (by decide) (by decide) (by decide) dL_law_159 ?_
                    refine zrwi (y := q1) hG1 ?_
                    refine lv_iconst (v := (2 : Int32)) hx hb dL_law_160 (by decide) ?_
                    refine lv_icmp_ne (tgt := 187) hx hb dL_law_161 (by decide) (fun c55 => ?_) (fun c55 => ?_)
                    · have qc55 := c55
                      refine lv_iload hx hb dL_law_187 (lv_at hl 2 rfl) ?_
                      refine lv_bipush (v := (14 : Int32)) hx hb dL_law_189 (by decide) ?_
                      refine lv_icmp_ne (tgt := 222) hx hb dL_law_191 (by decide) (fun c56 => ?_) (fun c56 => ?_)
                      · have qc56 := c56
                        have c56n : ¬ vr24 = 14 := zn_eqn (by omega) (by omega) c56
                        refine lv_iload hx hb dL_law_222 (lv_at hl 2 rfl) ?_
                        refine lv_iconst (v := (2 : Int32)) hx hb dL_law_224 (by decide) ?_
                        refine lv_icmp_ge (tgt := 244) hx hb dL_law_225 (by decide) (fun c57 => ?_) (fun c57 => ?_)
                        · have qc57 := c57
                          have c57n : 2 ≤ vr24 := zn_let (by omega) (by omega) c57
                          refine lv_iload hx hb dL_law_244 (lv_at hl 2 rfl) ?_
                          refine lv_iconst (v := (4 : Int32)) hx hb dL_law_246 (by decide) ?_
                          refine lv_icmp_ge (tgt := 266) hx hb dL_law_247 (by decide) (fun c58 => ?_) (fun c58 => ?_)
                          · have qc58 := c58
                            have c58n : 4 ≤ vr24 := zn_let (by omega) (by omega) c58
                            refine lv_aload_n hx hb dL_law_266 rfl (lv_at hl 7 rfl) ?_
                            refine lv_aload_n hx hb dL_law_267 rfl (lv_at hl 6 rfl) ?_
                            refine lv_aload_n hx hb dL_law_268 rfl (lv_at hl 5 rfl) ?_
                            refine lv_iload hx hb dL_law_269 (lv_at hl 1 rfl) ?_
                            refine lv_iload hx hb dL_law_271 (lv_at hl 0 rfl) ?_
                            refine lv_bipush (v := nI 8) hx hb dL_law_273 (by decide) ?_
                            refine lv_irem hx hb dL_law_275 (by decide) ?_
                            refine zrwi (y := nI (vr26 % 8)) (pk_rem (by omega) (by omega) (by omega)) ?_
                            refine lv_if_le (tgt := 283) hx hb dL_law_276 (by decide) (fun c59 => ?_) (fun c59 => ?_)
                            · have qc59 := c59
                              have c59n : (vr26 % 8) ≤ 0 := zn_let (by omega) (by omega) c59
                              refine lv_iconst (v := (0 : Int32)) hx hb dL_law_283 (by decide) ?_
                              refine zsubS (n := 5) (As := [.ref h, .ref a, .ref b, .int (nI vr25), .int (0 : Int32)]) (rest := []) (wc := oL g h a b ((q0, q1, q2, q3, q4, q5, q6, q7, q8, q9, q10), P, G)) (wr := []) [0, 1, 2] [] rfl rfl rfl rfl (by decide) Z X zStL (fun _ _ h => h.1) (c_L_isPlayed l g bL h a b q0 q1 q2 q3 q4 q5 q6 q7 q8 q9 q10 P G vr25 (0 : Int32) htr pn O hR0 (by omega)) gL_law_L_isPlayed rfl ⟨by decide, by decide, by decide +kernel⟩ ⟨Nat.le_of_ble_eq_true rfl, Nat.le_of_ble_eq_true rfl⟩ rfl rfl hl.1 (Nat.le_of_ble_eq_true rfl) dL_law_284 ⟨show 200 + 200 * k + 0 + 0 + 0 + 3 ≤ 622557 from by omega, show 1200 + 1200 * k + 0 + 0 + 0 + 18 ≤ 7233016 from by omega⟩ (fun r60 ur60 H locs hr60 X => ?_)
                              obtain ⟨h1r60, h2r60⟩ := hr60
                              obtain ⟨⟨u0r60, u1r60, u2r60, u3r60, u4r60, u5r60, u6r60, u7r60, u8r60, u9r60, u10r60⟩, Pr60, Gr60⟩ := ur60
                              refine zrwi (y := (1 : Int32)) h1r60 ?_
                              have X : zh g A (oL g h a b ((u0r60, u1r60, u2r60, u3r60, u4r60, u5r60, u6r60, u7r60, u8r60, u9r60, u10r60), Pr60, Gr60)) s.heap H locs := X
                              refine lv_istore (lv' := [(4, .int (1 : Int32)), (8, .int (nI vr26)), (7, .int (nI vr25)), (6, .int (nI vr24)), (5, .int (nI k)), (3, .ref b), (2, .ref a), (1, .ref h), (0, .ref bs)]) hx hb dL_law_287 hl (by decide) rfl (fun ls hl => ?_)
                              exact W.widen (by omega) (by omega) (cut289 u0r60 u1r60 u2r60 u3r60 u4r60 u5r60 u6r60 u7r60 u8r60 u9r60 u10r60 Pr60 Gr60 (by first | assumption | exact RGs_i hR0) H locs ls X (lv_sub hl [0, 4, 5, 6, 7, 8] rfl))
                            · have qc59 := c59
                              have c59n : ¬ (vr26 % 8) ≤ 0 := zn_len (by omega) (by omega) c59
                              refine lv_iconst (v := (1 : Int32)) hx hb dL_law_279 (by decide) ?_
                              refine lv_goto (tgt := 284) hx hb dL_law_280 (by decide) ?_
                              refine zsubS (n := 5) (As := [.ref h, .ref a, .ref b, .int (nI vr25), .int (1 : Int32)]) (rest := []) (wc := oL g h a b ((q0, q1, q2, q3, q4, q5, q6, q7, q8, q9, q10), P, G)) (wr := []) [0, 1, 2] [] rfl rfl rfl rfl (by decide) Z X zStL (fun _ _ h => h.1) (c_L_isPlayed l g bL h a b q0 q1 q2 q3 q4 q5 q6 q7 q8 q9 q10 P G vr25 (1 : Int32) htr pn O hR0 (by omega)) gL_law_L_isPlayed rfl ⟨by decide, by decide, by decide +kernel⟩ ⟨Nat.le_of_ble_eq_true rfl, Nat.le_of_ble_eq_true rfl⟩ rfl rfl hl.1 (Nat.le_of_ble_eq_true rfl) dL_law_284 ⟨show 200 + 200 * k + 0 + 0 + 0 + 3 ≤ 622557 from by omega, show 1200 + 1200 * k + 0 + 0 + 0 + 18 ≤ 7233016 from by omega⟩ (fun r61 ur61 H locs hr61 X => ?_)
                              obtain ⟨h1r61, h2r61⟩ := hr61
                              obtain ⟨⟨u0r61, u1r61, u2r61, u3r61, u4r61, u5r61, u6r61, u7r61, u8r61, u9r61, u10r61⟩, Pr61, Gr61⟩ := ur61
                              refine zrwi (y := (1 : Int32)) h1r61 ?_
                              have X : zh g A (oL g h a b ((u0r61, u1r61, u2r61, u3r61, u4r61, u5r61, u6r61, u7r61, u8r61, u9r61, u10r61), Pr61, Gr61)) s.heap H locs := X
                              refine lv_istore (lv' := [(4, .int (1 : Int32)), (8, .int (nI vr26)), (7, .int (nI vr25)), (6, .int (nI vr24)), (5, .int (nI k)), (3, .ref b), (2, .ref a), (1, .ref h), (0, .ref bs)]) hx hb dL_law_287 hl (by decide) rfl (fun ls hl => ?_)
                              exact W.widen (by omega) (by omega) (cut289 u0r61 u1r61 u2r61 u3r61 u4r61 u5r61 u6r61 u7r61 u8r61 u9r61 u10r61 Pr61 Gr61 (by first | assumption | exact RGs_i hR0) H locs ls X (lv_sub hl [0, 4, 5, 6, 7, 8] rfl))
                          · have qc58 := c58
                            have c58n : ¬ 4 ≤ vr24 := zn_len (by omega) (by omega) c58
                            refine lv_aload_n hx hb dL_law_250 rfl (lv_at hl 7 rfl) ?_
                            refine lv_aload_n hx hb dL_law_251 rfl (lv_at hl 6 rfl) ?_
                            refine lv_aload_n hx hb dL_law_252 rfl (lv_at hl 5 rfl) ?_
                            refine lv_iload hx hb dL_law_253 (lv_at hl 1 rfl) ?_
                            refine lv_bipush (v := nI 17) hx hb dL_law_255 (by decide) ?_
                            refine lv_irem hx hb dL_law_257 (by decide) ?_
                            refine zrwi (y := nI (vr25 % 17)) (pk_rem (by omega) (by omega) (by omega)) ?_
                            refine zsubS (n := 4) (As := [.ref h, .ref a, .ref b, .int (nI (vr25 % 17))]) (rest := []) (wc := oL g h a b ((q0, q1, q2, q3, q4, q5, q6, q7, q8, q9, q10), P, G)) (wr := []) [0, 1, 2] [] rfl rfl rfl rfl (by decide) Z X zStL (fun _ _ h => h.1) (c_L_isPlaced l g bL h a b q0 q1 q2 q3 q4 q5 q6 q7 q8 q9 q10 P G (vr25 % 17) htr pn O hR0 (by omega)) gL_law_L_isPlaced rfl ⟨by decide, by decide, by decide +kernel⟩ ⟨Nat.le_of_ble_eq_true rfl, Nat.le_of_ble_eq_true rfl⟩ rfl rfl hl.1 (Nat.le_of_ble_eq_true rfl) dL_law_258 ⟨show 200 + 200 * k + 0 + 0 + 0 + 2 ≤ 622557 from by omega, show 1200 + 1200 * k + 0 + 0 + 0 + 12 ≤ 7233016 from by omega⟩ (fun r62 ur62 H locs hr62 X => ?_)
                            obtain ⟨h1r62, h2r62⟩ := hr62
                            obtain ⟨⟨u0r62, u1r62, u2r62, u3r62, u4r62, u5r62, u6r62, u7r62, u8r62, u9r62, u10r62⟩, Pr62, Gr62⟩ := ur62
                            refine zrwi (y := (1 : Int32)) h1r62 ?_
                            have X : zh g A (oL g h a b ((u0r62, u1r62, u2r62, u3r62, u4r62, u5r62, u6r62, u7r62, u8r62, u9r62, u10r62), Pr62, Gr62)) s.heap H locs := X
                            refine lv_istore (lv' := [(4, .int (1 : Int32)), (8, .int (nI vr26)), (7, .int (nI vr25)), (6, .int (nI vr24)), (5, .int (nI k)), (3, .ref b), (2, .ref a), (1, .ref h), (0, .ref bs)]) hx hb dL_law_261 hl (by decide) rfl (fun ls hl => ?_)
                            refine lv_goto (tgt := 289) hx hb dL_law_263 (by decide) ?_
                            exact W.widen (by omega) (by omega) (cut289 u0r62 u1r62 u2r62 u3r62 u4r62 u5r62 u6r62 u7r62 u8r62 u9r62 u10r62 Pr62 Gr62 (by first | assumption | exact RGs_i hR0) H locs ls X (lv_sub hl [0, 4, 5, 6, 7, 8] rfl))
                        · have qc57 := c57
                          have c57n : ¬ 2 ≤ vr24 := zn_len (by omega) (by omega) c57
                          refine lv_aload_n hx hb dL_law_228 rfl (lv_at hl 7 rfl) ?_
                          refine lv_aload_n hx hb dL_law_229 rfl (lv_at hl 6 rfl) ?_
                          refine lv_aload_n hx hb dL_law_230 rfl (lv_at hl 5 rfl) ?_
                          refine lv_iload hx hb dL_law_231 (lv_at hl 1 rfl) ?_
                          refine lv_bipush (v := nI 17) hx hb dL_law_233 (by decide) ?_
                          refine lv_irem hx hb dL_law_235 (by decide) ?_
                          refine zrwi (y := nI (vr25 % 17)) (pk_rem (by omega) (by omega) (by omega)) ?_
                          refine zsubS (n := 4) (As := [.ref h, .ref a, .ref b, .int (nI (vr25 % 17))]) (rest := []) (wc := oL g h a b ((q0, q1, q2, q3, q4, q5, q6, q7, q8, q9, q10), P, G)) (wr := []) [0, 1, 2] [] rfl rfl rfl rfl (by decide) Z X zStL (fun _ _ h => h.1) (c_L_isGiven l g bL h a b q0 q1 q2 q3 q4 q5 q6 q7 q8 q9 q10 P G (vr25 % 17) htr pn O hR0 (by omega)) gL_law_L_isGiven rfl ⟨by decide, by decide, by decide +kernel⟩ ⟨Nat.le_of_ble_eq_true rfl, Nat.le_of_ble_eq_true rfl⟩ rfl rfl hl.1 (Nat.le_of_ble_eq_true rfl) dL_law_236 ⟨show 200 + 200 * k + 0 + 0 + 0 + 1 ≤ 622557 from by omega, show 1200 + 1200 * k + 0 + 0 + 0 + 6 ≤ 7233016 from by omega⟩ (fun r63 ur63 H locs hr63 X => ?_)
                          obtain ⟨h1r63, h2r63⟩ := hr63
                          obtain ⟨⟨u0r63, u1r63, u2r63, u3r63, u4r63, u5r63, u6r63, u7r63, u8r63, u9r63, u10r63⟩, Pr63, Gr63⟩ := ur63
                          refine zrwi (y := (1 : Int32)) h1r63 ?_
                          have X : zh g A (oL g h a b ((u0r63, u1r63, u2r63, u3r63, u4r63, u5r63, u6r63, u7r63, u8r63, u9r63, u10r63), Pr63, Gr63)) s.heap H locs := X
                          refine lv_istore (lv' := [(4, .int (1 : Int32)), (8, .int (nI vr26)), (7, .int (nI vr25)), (6, .int (nI vr24)), (5, .int (nI k)), (3, .ref b), (2, .ref a), (1, .ref h), (0, .ref bs)]) hx hb dL_law_239 hl (by decide) rfl (fun ls hl => ?_)
                          refine lv_goto (tgt := 289) hx hb dL_law_241 (by decide) ?_
                          exact W.widen (by omega) (by omega) (cut289 u0r63 u1r63 u2r63 u3r63 u4r63 u5r63 u6r63 u7r63 u8r63 u9r63 u10r63 Pr63 Gr63 (by first | assumption | exact RGs_i hR0) H locs ls X (lv_sub hl [0, 4, 5, 6, 7, 8] rfl))
                      · have qc56 := c56
                        have c56n : vr24 = 14 := zn_eqt (by omega) (by omega) c56
                        refine lv_aload_n hx hb dL_law_194 rfl (lv_at hl 7 rfl) ?_
                        refine zsubVi (n := 0) (As := []) (rest := []) (wc := oQ h (q0, q1, q2, q3, q4, q5, q6, q7, q8, q9, q10)) (wr := oB g a P ++ oG g b G) (ci := 0) (C := RX0) (T := TX0) (N := 11) [0] [1, 2] rfl rfl rfl rfl (by decide) Z X zStL (fun _ _ h => h.1) (c_X0_keep l g bL h q0 q1 q2 q3 q4 q5 q6 q7 q8 q9 q10) gL_law_X0_keep rfl (by decide +kernel) ⟨Nat.le_of_ble_eq_true rfl, Nat.le_of_ble_eq_true rfl⟩ rfl rfl rfl rfl hl.1 (Nat.le_of_ble_eq_true rfl) dL_law_195 ⟨show 200 + 200 * k + 0 + 0 + 0 ≤ 622557 from by omega, show 1200 + 1200 * k + 0 + 0 + 0 ≤ 7233016 from by omega⟩ (fun r64 ur64 H locs hr64 X => ?_)
                        obtain ⟨hur64, hr64⟩ := hr64
                        rw [hur64] at X
                        have X : zh g A (oL g h a b ((q0, q1, q2, q3, q4, q5, q6, q7, 1, q5, q7), P, G)) s.heap H locs := zhsub X [2, 0, 1] rfl rfl
                        refine zrwi (y := qBc q5) hr64 ?_
                        refine zrwi (y := nI pn) (RB_bc hrb) ?_
                        refine lv_aload_n hx hb dL_law_198 rfl (lv_at hl 5 rfl) ?_
                        refine lv_iconst (v := (4 : Int32)) hx hb dL_law_199 (by decide) ?_
                        refine zald (q0 := 2) (n := 6) (f := G) Z X rfl rfl 4 (by decide) (by decide) (by decide) dL_law_200 ?_
                        refine zrwi (y := nI pn) hG4 ?_
                        refine lv_icmp_ne (tgt := 216) hx hb dL_law_201 (by decide) (fun c65 => ?_) (fun c65 => ?_)
                        · exact absurd rfl c65
                        · have qc65 := c65
                          refine lv_aload_n hx hb dL_law_204 rfl (lv_at hl 7 rfl) ?_
                          refine zsubSi (n := 1) (As := [.ref h]) (rest := []) (wc := oQ h (q0, q1, q2, q3, q4, q5, q6, q7, 1, q5, q7)) (wr := oB g a P ++ oG g b G) [0] [1, 2] rfl rfl rfl rfl (by decide) Z X zStL (fun _ _ h => h.1) (c_L_alike l g bL h q0 q1 q2 q3 q4 q5 q6 q7 1 q5 q7 htr) gL_law_L_alike rfl ⟨by decide, by decide, by decide +kernel⟩ ⟨Nat.le_of_ble_eq_true rfl, Nat.le_of_ble_eq_true rfl⟩ rfl rfl hl.1 (Nat.le_of_ble_eq_true rfl) dL_law_205 ⟨show 200 + 200 * k + 0 + 0 + 0 + 1 ≤ 622557 from by omega, show 1200 + 1200 * k + 0 + 0 + 0 + 6 ≤ 7233016 from by omega⟩ (fun r66 ur66 H locs hr66 X => ?_)
                          obtain ⟨hur66, hr66⟩ := hr66
                          rw [hur66] at X
                          have X : zh g A (oL g h a b ((q0, q1, q2, q3, q4, q5, q6, q7, 1, q5, q7), P, G)) s.heap H locs := zhsub X [2, 0, 1] rfl rfl
                          refine zrwi (y := aAL q5 q7 1 q5 q7) hr66 ?_
                          refine zrwi (y := (1 : Int32)) (alike_self hrb.1) ?_
                          refine lv_iconst (v := (1 : Int32)) hx hb dL_law_208 (by decide) ?_
                          refine lv_icmp_ne (tgt := 216) hx hb dL_law_209 (by decide) (fun c67 => ?_) (fun c67 => ?_)
                          · exact absurd c67 (by decide)
                          · have qc67 := c67
                            refine lv_iconst (v := (1 : Int32)) hx hb dL_law_212 (by decide) ?_
                            refine lv_goto (tgt := 217) hx hb dL_law_213 (by decide) ?_
                            refine lv_istore (lv' := [(4, .int (1 : Int32)), (8, .int (nI vr26)), (7, .int (nI vr25)), (6, .int (nI vr24)), (5, .int (nI k)), (3, .ref b), (2, .ref a), (1, .ref h), (0, .ref bs)]) hx hb dL_law_217 hl (by decide) rfl (fun ls hl => ?_)
                            refine lv_goto (tgt := 289) hx hb dL_law_219 (by decide) ?_
                            exact W.widen (by omega) (by omega) (cut289 q0 q1 q2 q3 q4 q5 q6 q7 1 q5 q7 P G (by first | assumption | exact RGs_i hR0) H locs ls X (lv_sub hl [0, 4, 5, 6, 7, 8] rfl))
                    · have qc55 := c55
                      refine lv_aload_n hx hb dL_law_164 rfl (lv_at hl 7 rfl) ?_
                      refine lv_aload_n hx hb dL_law_165 rfl (lv_at hl 6 rfl) ?_
                      refine lv_aload_n hx hb dL_law_166 rfl (lv_at hl 5 rfl) ?_
                      refine lv_iload hx hb dL_law_167 (lv_at hl 1 rfl) ?_
                      refine lv_iconst (v := nI 2) hx hb dL_law_169 (by decide) ?_
                      refine lv_irem hx hb dL_law_170 (by decide) ?_
                      refine zrwi (y := nI (vr25 % 2)) (pk_rem (by omega) (by omega) (by omega)) ?_
                      refine lv_if_ne (tgt := 178) hx hb dL_law_171 (by decide) (fun c68 => ?_) (fun c68 => ?_)
                      · have qc68 := c68
                        have c68n : ¬ (vr25 % 2) = 0 := zn_eqn (by omega) (by omega) c68
                        refine lv_iconst (v := (0 : Int32)) hx hb dL_law_178 (by decide) ?_
                        refine zsubS (n := 4) (As := [.ref h, .ref a, .ref b, .int (0 : Int32)]) (rest := []) (wc := oL g h a b ((q0, q1, q2, q3, q4, q5, q6, q7, q8, q9, q10), P, G)) (wr := []) [0, 1, 2] [] rfl rfl rfl rfl (by decide) Z X zStL (fun _ _ h => h.1) (c_L_isBegun l g bL h a b q0 q1 q2 q3 q4 q5 q6 q7 q8 q9 q10 P G htr pn O hR0 false) gL_law_L_isBegun rfl ⟨by decide, by decide, by decide +kernel⟩ ⟨Nat.le_of_ble_eq_true rfl, Nat.le_of_ble_eq_true rfl⟩ rfl rfl hl.1 (Nat.le_of_ble_eq_true rfl) dL_law_179 ⟨show 200 + 200 * k + 0 + 0 + 0 + 0 ≤ 622557 from by omega, show 1200 + 1200 * k + 0 + 0 + 0 + 0 ≤ 7233016 from by omega⟩ (fun r69 ur69 H locs hr69 X => ?_)
                        obtain ⟨h1r69, h2r69⟩ := hr69
                        obtain ⟨⟨u0r69, u1r69, u2r69, u3r69, u4r69, u5r69, u6r69, u7r69, u8r69, u9r69, u10r69⟩, Pr69, Gr69⟩ := ur69
                        refine zrwi (y := (1 : Int32)) h1r69 ?_
                        have X : zh g A (oL g h a b ((u0r69, u1r69, u2r69, u3r69, u4r69, u5r69, u6r69, u7r69, u8r69, u9r69, u10r69), Pr69, Gr69)) s.heap H locs := X
                        refine lv_istore (lv' := [(4, .int (1 : Int32)), (8, .int (nI vr26)), (7, .int (nI vr25)), (6, .int (nI vr24)), (5, .int (nI k)), (3, .ref b), (2, .ref a), (1, .ref h), (0, .ref bs)]) hx hb dL_law_182 hl (by decide) rfl (fun ls hl => ?_)
                        refine lv_goto (tgt := 289) hx hb dL_law_184 (by decide) ?_
                        exact W.widen (by omega) (by omega) (cut289 u0r69 u1r69 u2r69 u3r69 u4r69 u5r69 u6r69 u7r69 u8r69 u9r69 u10r69 Pr69 Gr69 (by first | assumption | exact RGs_i hR0) H locs ls X (lv_sub hl [0, 4, 5, 6, 7, 8] rfl))
                      · have qc68 := c68
                        have c68n : (vr25 % 2) = 0 := zn_eqt (by omega) (by omega) c68
                        refine lv_iconst (v := (1 : Int32)) hx hb dL_law_174 (by decide) ?_
                        refine lv_goto (tgt := 179) hx hb dL_law_175 (by decide) ?_
                        refine zsubS (n := 4) (As := [.ref h, .ref a, .ref b, .int (1 : Int32)]) (rest := []) (wc := oL g h a b ((q0, q1, q2, q3, q4, q5, q6, q7, q8, q9, q10), P, G)) (wr := []) [0, 1, 2] [] rfl rfl rfl rfl (by decide) Z X zStL (fun _ _ h => h.1) (c_L_isBegun l g bL h a b q0 q1 q2 q3 q4 q5 q6 q7 q8 q9 q10 P G htr pn O hR0 true) gL_law_L_isBegun rfl ⟨by decide, by decide, by decide +kernel⟩ ⟨Nat.le_of_ble_eq_true rfl, Nat.le_of_ble_eq_true rfl⟩ rfl rfl hl.1 (Nat.le_of_ble_eq_true rfl) dL_law_179 ⟨show 200 + 200 * k + 0 + 0 + 0 + 0 ≤ 622557 from by omega, show 1200 + 1200 * k + 0 + 0 + 0 + 0 ≤ 7233016 from by omega⟩ (fun r70 ur70 H locs hr70 X => ?_)
                        obtain ⟨h1r70, h2r70⟩ := hr70
                        obtain ⟨⟨u0r70, u1r70, u2r70, u3r70, u4r70, u5r70, u6r70, u7r70, u8r70, u9r70, u10r70⟩, Pr70, Gr70⟩ := ur70
                        refine zrwi (y := (1 : Int32)) h1r70 ?_
                        have X : zh g A (oL g h a b ((u0r70, u1r70, u2r70, u3r70, u4r70, u5r70, u6r70, u7r70, u8r70, u9r70, u10r70), Pr70, Gr70)) s.heap H locs := X
                        refine lv_istore (lv' := [(4, .int (1 : Int32)), (8, .int (nI vr26)), (7, .int (nI vr25)), (6, .int (nI vr24)), (5, .int (nI k)), (3, .ref b), (2, .ref a), (1, .ref h), (0, .ref bs)]) hx hb dL_law_182 hl (by decide) rfl (fun ls hl => ?_)
                        refine lv_goto (tgt := 289) hx hb dL_law_184 (by decide) ?_
                        exact W.widen (by omega) (by omega) (cut289 u0r70 u1r70 u2r70 u3r70 u4r70 u5r70 u6r70 u7r70 u8r70 u9r70 u10r70 Pr70 Gr70 (by first | assumption | exact RGs_i hR0) H locs ls X (lv_sub hl [0, 4, 5, 6, 7, 8] rfl))
        exact W.widen (by omega) (by omega) (cut89 57 0 q0 q1 q2 q3 q4 q5 q6 q7 q8 q9 q10 P G (by decide) (RGs_i hR0) (by omega) H locs ls X (lv_sub hl [1, 0, 2, 3, 4, 5] rfl))
