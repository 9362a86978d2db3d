/-! the law looks at what a placing or two are worth -/
def P_L_isWorth (q0 q1 q2 q3 q4 q5 q6 : Int32) (q7 : Int64) (q8 q9 : Int32) (q10 : Int64) (P G : Nat → Int32) : Int32 → LSt → Prop := fun r u => u = ((q0, q1, q2, q3, q4, q5, q6, q7, q8, q9, q10), P, G) ∧ r = 1
set_option maxHeartbeats 4000000 in
set_option maxRecDepth 100000 in
theorem c_L_isWorth (l : Launch) (g : zG) (bL h a b : Nat) (q0 q1 q2 q3 q4 q5 q6 : Int32) (q7 : Int64) (q8 q9 : Int32) (q10 : Int64) (P G : Nat → Int32)  (htr : l.stackTraces = false) (pn : Nat) (O : Nat → Int32) (hR : RG q0 q1 q2 q3 q4 q5 q6 q7 P G pn O) (hp : Nat) (h3 : q1 = 1 → q3 = nI hp ∧ hp < 16 ∧ O hp = 0) : zMk l yL_isWorth wsL_isWorth 34 1400 12 72 g [.ref h, .ref a, .ref b] (oL g h a b ((q0, q1, q2, q3, q4, q5, q6, q7, q8, q9, q10), P, G)) (zEL bL) (zQi g (P_L_isWorth q0 q1 q2 q3 q4 q5 q6 q7 q8 q9 q10 P G) (oL g h a b)) := by
  refine zstartk (cc := cL_isWorth) (maxL := 10) (ret := (some .boolean)) (own := RL) rfl (by decide) rfl zStL (Nat.le_of_ble_eq_true rfl) ?_
  intro p e s m below meth c A Z hr hlk _hname H locs X ls hl
  have hx := Z.1.1
  have hb := Z.1.2.1
  have hl : lv_has ls 10 [(0, .ref h), (1, .ref a), (2, .ref b)] := hl
  have X : zh g A (oL g h a b ((q0, q1, q2, q3, q4, q5, q6, q7, q8, q9, q10), P, G)) s.heap H locs := X
  obtain ⟨⟨hG0, hG1, hG2, hG3, hG4, hG5⟩, hph, hot, hrb, hone, hgo, hov⟩ := hR
  have hok : okP P := hrb.1.1
  have hqn := qLn_le q0
  have hpl := RB_le hrb
  refine lv_aload_n hx hb dL_isWorth_0 rfl (lv_at hl 0 rfl) ?_
  refine lv_iconst (v := (5 : Int32)) hx hb dL_isWorth_1 (by decide) ?_
  refine lv_iconst (v := (1 : Int32)) hx hb dL_isWorth_2 (by decide) ?_
  refine zsubSi (n := 3) (As := [.ref h, .int (5 : Int32), .int (1 : Int32)]) (rest := []) (wc := oQ h (q0, q1, q2, q3, q4, q5, q6, q7, q8, q9, q10)) (wr := oB g a P ++ oG g b G) [0] [1, 2] rfl rfl rfl rfl (by decide) Z X zStL (fun _ _ h => h) (c_L_asks5 l g bL h q0 q1 q2 q3 q4 q5 q6 q7 q8 q9 q10 (1 : Int32) htr hp (KB_inv hrb.1) hph (fun z => by obtain ⟨y1, y2, y3⟩ := h3 z; exact ⟨y1, y2, (RB_u hrb y2).mpr y3⟩)) gL_isWorth_L_asks rfl ⟨by decide, by decide, by decide +kernel⟩ ⟨Nat.le_of_ble_eq_true rfl, Nat.le_of_ble_eq_true rfl⟩ rfl rfl hl.1 (Nat.le_of_ble_eq_true rfl) dL_isWorth_3 ⟨show 0 + 1 ≤ 12 from by omega, show 0 + 6 ≤ 72 from by omega⟩ (fun r1 ur1 H locs hr1 X => ?_)
  obtain ⟨hur1, hr1⟩ := hr1
  rw [hur1] at X
  have X : zh g A (oL g h a b ((q0, q1, q2, q3, q4, q5, q6, q7, q8, q9, q10), P, G)) s.heap H locs := zhsub X [2, 0, 1] rfl rfl
  refine zrwi (y := aA5 q1 q0 q5 q6 q7 (1 : Int32) hp) hr1 ?_
  refine lv_istore_n (lv' := [(3, .int (aA5 q1 q0 q5 q6 q7 (1 : Int32) hp)), (0, .ref h), (1, .ref a), (2, .ref b)]) hx hb dL_isWorth_6 rfl hl (by decide) rfl (fun ls hl => ?_)
  refine lv_aload_n hx hb dL_isWorth_7 rfl (lv_at hl 1 rfl) ?_
  refine lv_iconst (v := (5 : Int32)) hx hb dL_isWorth_8 (by decide) ?_
  refine lv_iconst (v := (2 : Int32)) hx hb dL_isWorth_9 (by decide) ?_
  refine zsubSi (n := 3) (As := [.ref h, .int (5 : Int32), .int (2 : Int32)]) (rest := []) (wc := oQ h (q0, q1, q2, q3, q4, q5, q6, q7, q8, q9, q10)) (wr := oB g a P ++ oG g b G) [0] [1, 2] rfl rfl rfl rfl (by decide) Z X zStL (fun _ _ h => h) (c_L_asks5 l g bL h q0 q1 q2 q3 q4 q5 q6 q7 q8 q9 q10 (2 : Int32) htr hp (KB_inv hrb.1) hph (fun z => by obtain ⟨y1, y2, y3⟩ := h3 z; exact ⟨y1, y2, (RB_u hrb y2).mpr y3⟩)) gL_isWorth_L_asks rfl ⟨by decide, by decide, by decide +kernel⟩ ⟨Nat.le_of_ble_eq_true rfl, Nat.le_of_ble_eq_true rfl⟩ rfl rfl hl.1 (Nat.le_of_ble_eq_true rfl) dL_isWorth_10 ⟨show 0 + 1 + 1 ≤ 12 from by omega, show 0 + 6 + 6 ≤ 72 from by omega⟩ (fun r2 ur2 H locs hr2 X => ?_)
  obtain ⟨hur2, hr2⟩ := hr2
  rw [hur2] at X
  have X : zh g A (oL g h a b ((q0, q1, q2, q3, q4, q5, q6, q7, q8, q9, q10), P, G)) s.heap H locs := zhsub X [2, 0, 1] rfl rfl
  refine zrwi (y := aA5 q1 q0 q5 q6 q7 (2 : Int32) hp) hr2 ?_
  refine lv_istore (lv' := [(4, .int (aA5 q1 q0 q5 q6 q7 (2 : Int32) hp)), (3, .int (aA5 q1 q0 q5 q6 q7 (1 : Int32) hp)), (0, .ref h), (1, .ref a), (2, .ref b)]) hx hb dL_isWorth_13 hl (by decide) rfl (fun ls hl => ?_)
  refine lv_aload_n hx hb dL_isWorth_15 rfl (lv_at hl 4 rfl) ?_
  refine lv_iconst (v := (1 : Int32)) hx hb dL_isWorth_16 (by decide) ?_
  refine zald (q0 := 2) (n := 6) (f := G) Z X rfl rfl 1 (by decide) (by decide) (by decide) dL_isWorth_17 ?_
  refine zrwi (y := q1) hG1 ?_
  refine lv_iconst (v := (2 : Int32)) hx hb dL_isWorth_18 (by decide) ?_
  refine lv_icmp_ne (tgt := 64) hx hb dL_isWorth_19 (by decide) (fun c3 => ?_) (fun c3 => ?_)
  · have qc3 := c3
    have cut74 : ∀ (H : Heap) (locs : List Loc) (ls : Array Slot), zh g A (oL g h a b ((q0, q1, q2, q3, q4, q5, q6, q7, q8, q9, q10), P, G)) s.heap H locs → lv_has ls 10 [(0, .ref h), (1, .ref a), (2, .ref b), (3, .int (aA5 q1 q0 q5 q6 q7 (1 : Int32) hp)), (4, .int (aA5 q1 q0 q5 q6 q7 (2 : Int32) hp))] → W p l e { frames := 34, cells := 12, slots := 72, locals := 1400 } s m ([.ref h, .ref a, .ref b] : List Value).toArray below meth c H locs 2 12 (MQ below ((zQi g (P_L_isWorth q0 q1 q2 q3 q4 q5 q6 q7 q8 q9 q10 P G) (oL g h a b)) A) ([.ref h, .ref a, .ref b] : List Value).toArray s 12 72 A) (F0 m 74 ls []) := by
      intro  H locs ls X hl
      refine lv_aload_n hx hb dL_isWorth_74 rfl (lv_at hl 0 rfl) ?_
      refine lv_iconst (v := (5 : Int32)) hx hb dL_isWorth_75 (by decide) ?_
      refine lv_iconst (v := (5 : Int32)) hx hb dL_isWorth_76 (by decide) ?_
      refine zsubSi (n := 3) (As := [.ref h, .int (5 : Int32), .int (5 : Int32)]) (rest := []) (wc := oQ h (q0, q1, q2, q3, q4, q5, q6, q7, q8, q9, q10)) (wr := oB g a P ++ oG g b G) [0] [1, 2] rfl rfl rfl rfl (by decide) Z X zStL (fun _ _ h => h) (c_L_asks5 l g bL h q0 q1 q2 q3 q4 q5 q6 q7 q8 q9 q10 (5 : Int32) htr hp (KB_inv hrb.1) hph (fun z => by obtain ⟨y1, y2, y3⟩ := h3 z; exact ⟨y1, y2, (RB_u hrb y2).mpr y3⟩)) gL_isWorth_L_asks rfl ⟨by decide, by decide, by decide +kernel⟩ ⟨Nat.le_of_ble_eq_true rfl, Nat.le_of_ble_eq_true rfl⟩ rfl rfl hl.1 (Nat.le_of_ble_eq_true rfl) dL_isWorth_77 ⟨show 2 + 1 ≤ 12 from by omega, show 12 + 6 ≤ 72 from by omega⟩ (fun r4 ur4 H locs hr4 X => ?_)
      obtain ⟨hur4, hr4⟩ := hr4
      rw [hur4] at X
      have X : zh g A (oL g h a b ((q0, q1, q2, q3, q4, q5, q6, q7, q8, q9, q10), P, G)) s.heap H locs := zhsub X [2, 0, 1] rfl rfl
      refine zrwi (y := aA5 q1 q0 q5 q6 q7 (5 : Int32) hp) hr4 ?_
      refine zrwi (y := (-20 : Int32)) (w_55) ?_
      refine lv_bipush (v := (-20 : Int32)) hx hb dL_isWorth_80 (by decide) ?_
      refine lv_icmp_ne (tgt := 140) hx hb dL_isWorth_82 (by decide) (fun c5 => ?_) (fun c5 => ?_)
      · exact absurd c5 (by decide)
      · have qc5 := c5
        refine lv_aload_n hx hb dL_isWorth_85 rfl (lv_at hl 0 rfl) ?_
        refine lv_bipush (v := (6 : Int32)) hx hb dL_isWorth_86 (by decide) ?_
        refine lv_iconst (v := (0 : Int32)) hx hb dL_isWorth_88 (by decide) ?_
        refine zsubSi (n := 3) (As := [.ref h, .int (6 : Int32), .int (0 : Int32)]) (rest := []) (wc := oQ h (q0, q1, q2, q3, q4, q5, q6, q7, q8, q9, q10)) (wr := oB g a P ++ oG g b G) [0] [1, 2] rfl rfl rfl rfl (by decide) Z X zStL (fun _ _ h => h) (c_L_asks6 l g bL h q0 q1 q2 q3 q4 q5 q6 q7 q8 q9 q10 (0 : Int32) htr hp (KB_inv hrb.1) hph (fun z => by obtain ⟨y1, y2, y3⟩ := h3 z; exact ⟨y1, y2, (RB_u hrb y2).mpr y3⟩)) gL_isWorth_L_asks rfl ⟨by decide, by decide, by decide +kernel⟩ ⟨Nat.le_of_ble_eq_true rfl, Nat.le_of_ble_eq_true rfl⟩ rfl rfl hl.1 (Nat.le_of_ble_eq_true rfl) dL_isWorth_89 ⟨show 2 + 1 + 1 ≤ 12 from by omega, show 12 + 6 + 6 ≤ 72 from by omega⟩ (fun r6 ur6 H locs hr6 X => ?_)
        obtain ⟨hur6, hr6⟩ := hr6
        rw [hur6] at X
        have X : zh g A (oL g h a b ((q0, q1, q2, q3, q4, q5, q6, q7, q8, q9, q10), P, G)) s.heap H locs := zhsub X [2, 0, 1] rfl rfl
        refine zrwi (y := aA6 q1 q0 q5 q6 q7 (0 : Int32) hp) hr6 ?_
        refine zrwi (y := (-20 : Int32)) (w_60) ?_
        refine lv_bipush (v := (-20 : Int32)) hx hb dL_isWorth_92 (by decide) ?_
        refine lv_icmp_ne (tgt := 140) hx hb dL_isWorth_94 (by decide) (fun c7 => ?_) (fun c7 => ?_)
        · exact absurd c7 (by decide)
        · have qc7 := c7
          refine lv_aload_n hx hb dL_isWorth_97 rfl (lv_at hl 2 rfl) ?_
          refine lv_iconst (v := (4 : Int32)) hx hb dL_isWorth_98 (by decide) ?_
          refine zald (q0 := 2) (n := 6) (f := G) Z X rfl rfl 4 (by decide) (by decide) (by decide) dL_isWorth_99 ?_
          refine zrwi (y := nI pn) hG4 ?_
          refine lv_bipush (v := (7 : Int32)) hx hb dL_isWorth_100 (by decide) ?_
          have cut116 : ∀ (H : Heap) (locs : List Loc) (ls : Array Slot), zh g A (oL g h a b ((q0, q1, q2, q3, q4, q5, q6, q7, q8, q9, q10), P, G)) s.heap H locs → lv_has ls 10 [(0, .ref h), (1, .ref a), (2, .ref b), (3, .int (aA5 q1 q0 q5 q6 q7 (1 : Int32) hp)), (4, .int (aA5 q1 q0 q5 q6 q7 (2 : Int32) hp))] → W p l e { frames := 34, cells := 12, slots := 72, locals := 1400 } s m ([.ref h, .ref a, .ref b] : List Value).toArray below meth c H locs 5 30 (MQ below ((zQi g (P_L_isWorth q0 q1 q2 q3 q4 q5 q6 q7 q8 q9 q10 P G) (oL g h a b)) A) ([.ref h, .ref a, .ref b] : List Value).toArray s 12 72 A) (F0 m 116 ls []) := by
            intro  H locs ls X hl
            refine lv_aload_n hx hb dL_isWorth_116 rfl (lv_at hl 2 rfl) ?_
            refine lv_iconst (v := (4 : Int32)) hx hb dL_isWorth_117 (by decide) ?_
            refine zald (q0 := 2) (n := 6) (f := G) Z X rfl rfl 4 (by decide) (by decide) (by decide) dL_isWorth_118 ?_
            refine zrwi (y := nI pn) hG4 ?_
            refine lv_bipush (v := (9 : Int32)) hx hb dL_isWorth_119 (by decide) ?_
            have cut136 : ∀ (H : Heap) (locs : List Loc) (ls : Array Slot), zh g A (oL g h a b ((q0, q1, q2, q3, q4, q5, q6, q7, q8, q9, q10), P, G)) s.heap H locs → lv_has ls 10 [(0, .ref h), (1, .ref a), (2, .ref b), (3, .int (aA5 q1 q0 q5 q6 q7 (1 : Int32) hp)), (4, .int (aA5 q1 q0 q5 q6 q7 (2 : Int32) hp))] → W p l e { frames := 34, cells := 12, slots := 72, locals := 1400 } s m ([.ref h, .ref a, .ref b] : List Value).toArray below meth c H locs 6 36 (MQ below ((zQi g (P_L_isWorth q0 q1 q2 q3 q4 q5 q6 q7 q8 q9 q10 P G) (oL g h a b)) A) ([.ref h, .ref a, .ref b] : List Value).toArray s 12 72 A) (F0 m 136 ls []) := by
              intro  H locs ls X hl
              refine lv_iconst (v := (1 : Int32)) hx hb dL_isWorth_136 (by decide) ?_
              refine lv_goto (tgt := 141) hx hb dL_isWorth_137 (by decide) ?_
              refine lv_istore (lv' := [(5, .int (1 : Int32)), (0, .ref h), (1, .ref a), (2, .ref b), (3, .int (aA5 q1 q0 q5 q6 q7 (1 : Int32) hp)), (4, .int (aA5 q1 q0 q5 q6 q7 (2 : Int32) hp))]) hx hb dL_isWorth_141 hl (by decide) rfl (fun ls hl => ?_)
              refine lv_aload_n hx hb dL_isWorth_143 rfl (lv_at hl 3 rfl) ?_
              refine lv_iconst (v := (1 : Int32)) hx hb dL_isWorth_144 (by decide) ?_
              refine zald (q0 := 2) (n := 6) (f := G) Z X rfl rfl 1 (by decide) (by decide) (by decide) dL_isWorth_145 ?_
              refine zrwi (y := q1) hG1 ?_
              refine lv_if_ne (tgt := 232) hx hb dL_isWorth_146 (by decide) (fun c8 => ?_) (fun c8 => ?_)
              · have qc8 := c8
                have hq11 : q1 = 1 := by rcases hph with z | z | z; exact absurd z (by assumption); exact z; exact absurd z (by assumption)
                obtain ⟨e3, hh16, hO⟩ := h3 hq11
                refine lv_aload_n hx hb dL_isWorth_232 rfl (lv_at hl 2 rfl) ?_
                refine lv_aload_n hx hb dL_isWorth_233 rfl (lv_at hl 3 rfl) ?_
                refine lv_iconst (v := (0 : Int32)) hx hb dL_isWorth_234 (by decide) ?_
                refine zald (q0 := 2) (n := 6) (f := G) Z X rfl rfl 0 (by decide) (by decide) (by decide) dL_isWorth_235 ?_
                refine zrwi (y := nI (qLn q0)) hG0 ?_
                refine lv_aload_n hx hb dL_isWorth_236 rfl (lv_at hl 3 rfl) ?_
                refine lv_iconst (v := (3 : Int32)) hx hb dL_isWorth_237 (by decide) ?_
                refine zald (q0 := 2) (n := 6) (f := G) Z X rfl rfl 3 (by decide) (by decide) (by decide) dL_isWorth_238 ?_
                refine zrwi (y := q3) hG3 ?_
                refine zsubS (n := 3) (As := [.ref a, .int (nI (qLn q0)), .int q3]) (rest := []) (wc := oB g a P) (wr := oQ h (q0, q1, q2, q3, q4, q5, q6, q7, q8, q9, q10) ++ oG g b G) [1] [0, 2] rfl rfl rfl rfl (by decide) Z X zSt0 (fun _ _ _ => trivial) (c_L_winning l g a P (qLn q0) q3 (by omega) hok) gL_isWorth_L_winning rfl (by decide +kernel) ⟨Nat.le_of_ble_eq_true rfl, Nat.le_of_ble_eq_true rfl⟩ rfl rfl hl.1 (Nat.le_of_ble_eq_true rfl) dL_isWorth_239 ⟨show 6 + 0 ≤ 12 from by omega, show 36 + 0 ≤ 72 from by omega⟩ (fun r9 ur9 H locs hr9 X => ?_)
                obtain ⟨hur9, hr9⟩ := hr9
                rw [hur9] at X
                have X : zh g A (oL g h a b ((q0, q1, q2, q3, q4, q5, q6, q7, q8, q9, q10), P, G)) s.heap H locs := zhsub X [0, 2, 1] rfl rfl
                refine zrwi (y := lWs P (qLn q0) q3) hr9 ?_
                refine lv_istore (lv' := [(6, .int (lWs P (qLn q0) q3)), (5, .int (1 : Int32)), (0, .ref h), (1, .ref a), (2, .ref b), (3, .int (aA5 q1 q0 q5 q6 q7 (1 : Int32) hp)), (4, .int (aA5 q1 q0 q5 q6 q7 (2 : Int32) hp))]) hx hb dL_isWorth_242 hl (by decide) rfl (fun ls hl => ?_)
                refine lv_iconst (v := (0 : Int32)) hx hb dL_isWorth_244 (by decide) ?_
                refine lv_istore (lv' := [(7, .int (0 : Int32)), (6, .int (lWs P (qLn q0) q3)), (5, .int (1 : Int32)), (0, .ref h), (1, .ref a), (2, .ref b), (3, .int (aA5 q1 q0 q5 q6 q7 (1 : Int32) hp)), (4, .int (aA5 q1 q0 q5 q6 q7 (2 : Int32) hp))]) hx hb dL_isWorth_245 hl (by decide) rfl (fun ls hl => ?_)
                refine lv_iconst (v := (0 : Int32)) hx hb dL_isWorth_247 (by decide) ?_
                refine lv_istore (lv' := [(8, .int (0 : Int32)), (7, .int (0 : Int32)), (6, .int (lWs P (qLn q0) q3)), (5, .int (1 : Int32)), (0, .ref h), (1, .ref a), (2, .ref b), (3, .int (aA5 q1 q0 q5 q6 q7 (1 : Int32) hp)), (4, .int (aA5 q1 q0 q5 q6 q7 (2 : Int32) hp))]) hx hb dL_isWorth_248 hl (by decide) rfl (fun ls hl => ?_)
                refine lv_iconst (v := (0 : Int32)) hx hb dL_isWorth_250 (by decide) ?_
                refine lv_istore (lv' := [(9, .int (0 : Int32)), (8, .int (0 : Int32)), (7, .int (0 : Int32)), (6, .int (lWs P (qLn q0) q3)), (5, .int (1 : Int32)), (0, .ref h), (1, .ref a), (2, .ref b), (3, .int (aA5 q1 q0 q5 q6 q7 (1 : Int32) hp)), (4, .int (aA5 q1 q0 q5 q6 q7 (2 : Int32) hp))]) hx hb dL_isWorth_251 hl (by decide) rfl (fun ls hl => ?_)
                have cut253 : ∀ (n253 : Nat), ∀ (k : Nat) (hol : Int32) (emp : Int32), (k ≤ 16) → (hol = setN (lHlF P (qLn q0) q3 pn) k) → (emp = setN (lEmF P) k) → (17 - k ≤ n253) → ∀ (H : Heap) (locs : List Loc) (ls : Array Slot), zh g A (oL g h a b ((q0, q1, q2, q3, q4, q5, q6, q7, q8, q9, q10), P, G)) s.heap H locs → lv_has ls 10 [(9, .int (nI k)), (7, .int hol), (8, .int emp), (6, .int (lWs P (qLn q0) q3)), (0, .ref h), (1, .ref a), (2, .ref b), (3, .int (aA5 q1 q0 q5 q6 q7 (1 : Int32) hp)), (4, .int (aA5 q1 q0 q5 q6 q7 (2 : Int32) hp)), (5, .int (1 : Int32))] → W p l e { frames := 34, cells := 12, slots := 72, locals := 1400 } s m ([.ref h, .ref a, .ref b] : List Value).toArray below meth c H locs 6 36 (MQ below ((zQi g (P_L_isWorth q0 q1 q2 q3 q4 q5 q6 q7 q8 q9 q10 P G) (oL g h a b)) A) ([.ref h, .ref a, .ref b] : List Value).toArray s 12 72 A) (F0 m 253 ls []) := by
                  intro n253
                  induction n253 with
                  | zero =>
                    intro k hol emp hk hhol hemp hn253 H locs ls X hl
                    exfalso; omega
                  | succ n253 ih253 =>
                    intro k hol emp hk hhol hemp hn253 H locs ls X hl
                    refine lv_iload hx hb dL_isWorth_253 (lv_at hl 0 rfl) ?_
                    refine lv_bipush (v := (16 : Int32)) hx hb dL_isWorth_255 (by decide) ?_
                    refine lv_icmp_ge (tgt := 325) hx hb dL_isWorth_257 (by decide) (fun c10 => ?_) (fun c10 => ?_)
                    · have qc10 := c10
                      have c10n : 16 ≤ k := zn_let (by omega) (by omega) c10
                      have hk16 : k = 16 := by omega
                      rw [hk16] at hhol hemp
                      refine lv_iload hx hb dL_isWorth_325 (lv_at hl 3 rfl) ?_
                      refine lv_if_eq (tgt := 334) hx hb dL_isWorth_327 (by decide) (fun c11 => ?_) (fun c11 => ?_)
                      · have qc11 := c11
                        refine lv_iload hx hb dL_isWorth_334 (lv_at hl 1 rfl) ?_
                        refine lv_if_eq (tgt := 343) hx hb dL_isWorth_336 (by decide) (fun c12 => ?_) (fun c12 => ?_)
                        · have qc12 := c12
                          have y9 : setN (lHlF P (qLn q0) q3 pn) 16 = 0 := hhol.symm.trans c12
                          refine lv_iconst (v := (-1 : Int32)) hx hb dL_isWorth_343 (by decide) ?_
                          refine lv_istore (lv' := [(9, .int (-1 : Int32)), (7, .int hol), (8, .int emp), (6, .int (lWs P (qLn q0) q3)), (0, .ref h), (1, .ref a), (2, .ref b), (3, .int (aA5 q1 q0 q5 q6 q7 (1 : Int32) hp)), (4, .int (aA5 q1 q0 q5 q6 q7 (2 : Int32) hp)), (5, .int (1 : Int32))]) hx hb dL_isWorth_344 hl (by decide) rfl (fun ls hl => ?_)
                          refine lv_iload hx hb dL_isWorth_346 (lv_at hl 9 rfl) ?_
                          refine lv_if_eq (tgt := 437) hx hb dL_isWorth_348 (by decide) (fun c13 => ?_) (fun c13 => ?_)
                          · exact absurd c13 (by decide)
                          · have qc13 := c13
                            refine lv_iload_n hx hb dL_isWorth_351 rfl (lv_at hl 7 rfl) ?_
                            refine lv_iload hx hb dL_isWorth_352 (lv_at hl 3 rfl) ?_
                            refine lv_if_ne (tgt := 361) hx hb dL_isWorth_354 (by decide) (fun c14 => ?_) (fun c14 => ?_)
                            · exact absurd (by assumption) c14
                            · have qc14 := c14
                              refine lv_iconst (v := (0 : Int32)) hx hb dL_isWorth_357 (by decide) ?_
                              refine lv_goto (tgt := 362) hx hb dL_isWorth_358 (by decide) ?_
                              refine lv_icmp_ne (tgt := 437) hx hb dL_isWorth_362 (by decide) (fun c15 => ?_) (fun c15 => ?_)
                              · have qc15 := c15
                                exact absurd (p_1a hrb hgo hq11 e3 hh16 (by assumption)) c15
                              · have qc15 := c15
                                refine lv_iload hx hb dL_isWorth_365 (lv_at hl 8 rfl) ?_
                                refine lv_iload hx hb dL_isWorth_367 (lv_at hl 0 rfl) ?_
                                refine lv_icmp_ne (tgt := 437) hx hb dL_isWorth_369 (by decide) (fun c16 => ?_) (fun c16 => ?_)
                                · have qc16 := c16
                                  exact absurd (p_2e hrb hgo hq11 e3 hh16 hO (by assumption) (by assumption)) c16
                                · have qc16 := c16
                                  refine lv_aload_n hx hb dL_isWorth_372 rfl (lv_at hl 4 rfl) ?_
                                  refine lv_bipush (v := (6 : Int32)) hx hb dL_isWorth_373 (by decide) ?_
                                  refine lv_iconst (v := (1 : Int32)) hx hb dL_isWorth_375 (by decide) ?_
                                  refine zsubSi (n := 3) (As := [.ref h, .int (6 : Int32), .int (1 : Int32)]) (rest := []) (wc := oQ h (q0, q1, q2, q3, q4, q5, q6, q7, q8, q9, q10)) (wr := oB g a P ++ oG g b G) [0] [1, 2] rfl rfl rfl rfl (by decide) Z X zStL (fun _ _ h => h) (c_L_asks6 l g bL h q0 q1 q2 q3 q4 q5 q6 q7 q8 q9 q10 (1 : Int32) htr hp (KB_inv hrb.1) hph (fun z => by obtain ⟨y1, y2, y3⟩ := h3 z; exact ⟨y1, y2, (RB_u hrb y2).mpr y3⟩)) gL_isWorth_L_asks rfl ⟨by decide, by decide, by decide +kernel⟩ ⟨Nat.le_of_ble_eq_true rfl, Nat.le_of_ble_eq_true rfl⟩ rfl rfl hl.1 (Nat.le_of_ble_eq_true rfl) dL_isWorth_376 ⟨show 6 + 1 ≤ 12 from by omega, show 36 + 6 ≤ 72 from by omega⟩ (fun r17 ur17 H locs hr17 X => ?_)
                                  obtain ⟨hur17, hr17⟩ := hr17
                                  rw [hur17] at X
                                  have X : zh g A (oL g h a b ((q0, q1, q2, q3, q4, q5, q6, q7, q8, q9, q10), P, G)) s.heap H locs := zhsub X [2, 0, 1] rfl rfl
                                  refine zrwi (y := aA6 q1 q0 q5 q6 q7 (1 : Int32) hp) hr17 ?_
                                  refine lv_iload hx hb dL_isWorth_379 (lv_at hl 3 rfl) ?_
                                  refine lv_if_ne (tgt := 389) hx hb dL_isWorth_381 (by decide) (fun c18 => ?_) (fun c18 => ?_)
                                  · exact absurd (by assumption) c18
                                  · have qc18 := c18
                                    refine lv_iload hx hb dL_isWorth_384 (lv_at hl 2 rfl) ?_
                                    refine lv_goto (tgt := 391) hx hb dL_isWorth_386 (by decide) ?_
                                    refine zcallSi (n := 1) (As := [.int emp]) (rest := [.int (aA6 q1 q0 q5 q6 q7 (1 : Int32) hp)]) Z X (c_L_lowest l g emp) gL_isWorth_L_lowest rfl (by decide +kernel) ⟨Nat.le_of_ble_eq_true rfl, Nat.le_of_ble_eq_true rfl⟩ rfl rfl hl.1 (Nat.le_of_ble_eq_true rfl) dL_isWorth_391 ⟨show 6 + 1 ≤ 12 from by omega, show 36 + 6 ≤ 72 from by omega⟩ (fun r19 H locs hr19 X => ?_)
                                    obtain ⟨kr19, hkr19, hlowr19⟩ := hr19
                                    first | rw [hhol] at hlowr19 | rw [hemp] at hlowr19 | skip
                                    refine zrwi (y := nI kr19) hkr19 ?_
                                    refine lv_icmp_ne (tgt := 437) hx hb dL_isWorth_394 (by decide) (fun c20 => ?_) (fun c20 => ?_)
                                    · have qc20 := c20
                                      exact absurd (bp_1e hrb hgo hq11 e3 hh16 (by assumption) (by assumption)) c20
                                    · have qc20 := c20
                                      refine lv_aload_n hx hb dL_isWorth_397 rfl (lv_at hl 4 rfl) ?_
                                      refine lv_bipush (v := (6 : Int32)) hx hb dL_isWorth_398 (by decide) ?_
                                      refine lv_iconst (v := (2 : Int32)) hx hb dL_isWorth_400 (by decide) ?_
                                      refine zsubSi (n := 3) (As := [.ref h, .int (6 : Int32), .int (2 : Int32)]) (rest := []) (wc := oQ h (q0, q1, q2, q3, q4, q5, q6, q7, q8, q9, q10)) (wr := oB g a P ++ oG g b G) [0] [1, 2] rfl rfl rfl rfl (by decide) Z X zStL (fun _ _ h => h) (c_L_asks6 l g bL h q0 q1 q2 q3 q4 q5 q6 q7 q8 q9 q10 (2 : Int32) htr hp (KB_inv hrb.1) hph (fun z => by obtain ⟨y1, y2, y3⟩ := h3 z; exact ⟨y1, y2, (RB_u hrb y2).mpr y3⟩)) gL_isWorth_L_asks rfl ⟨by decide, by decide, by decide +kernel⟩ ⟨Nat.le_of_ble_eq_true rfl, Nat.le_of_ble_eq_true rfl⟩ rfl rfl hl.1 (Nat.le_of_ble_eq_true rfl) dL_isWorth_401 ⟨show 6 + 1 + 1 ≤ 12 from by omega, show 36 + 6 + 6 ≤ 72 from by omega⟩ (fun r21 ur21 H locs hr21 X => ?_)
                                      obtain ⟨hur21, hr21⟩ := hr21
                                      rw [hur21] at X
                                      have X : zh g A (oL g h a b ((q0, q1, q2, q3, q4, q5, q6, q7, q8, q9, q10), P, G)) s.heap H locs := zhsub X [2, 0, 1] rfl rfl
                                      refine zrwi (y := aA6 q1 q0 q5 q6 q7 (2 : Int32) hp) hr21 ?_
                                      refine lv_iload hx hb dL_isWorth_404 (lv_at hl 0 rfl) ?_
                                      refine lv_iconst (v := (1 : Int32)) hx hb dL_isWorth_406 (by decide) ?_
                                      refine lv_icmp_ne (tgt := 415) hx hb dL_isWorth_407 (by decide) (fun c22 => ?_) (fun c22 => ?_)
                                      · have qc22 := c22
                                        refine lv_iload hx hb dL_isWorth_415 (lv_at hl 0 rfl) ?_
                                        refine lv_if_ne (tgt := 425) hx hb dL_isWorth_417 (by decide) (fun c23 => ?_) (fun c23 => ?_)
                                        · have qc23 := c23
                                          refine lv_iload hx hb dL_isWorth_425 (lv_at hl 2 rfl) ?_
                                          refine zcallSi (n := 1) (As := [.int emp]) (rest := [.int (aA6 q1 q0 q5 q6 q7 (2 : Int32) hp)]) Z X (c_L_lowest l g emp) gL_isWorth_L_lowest rfl (by decide +kernel) ⟨Nat.le_of_ble_eq_true rfl, Nat.le_of_ble_eq_true rfl⟩ rfl rfl hl.1 (Nat.le_of_ble_eq_true rfl) dL_isWorth_427 ⟨show 6 + 1 + 1 ≤ 12 from by omega, show 36 + 6 + 6 ≤ 72 from by omega⟩ (fun r24 H locs hr24 X => ?_)
                                          obtain ⟨kr24, hkr24, hlowr24⟩ := hr24
                                          first | rw [hhol] at hlowr24 | rw [hemp] at hlowr24 | skip
                                          refine zrwi (y := nI kr24) hkr24 ?_
                                          refine lv_icmp_ne (tgt := 437) hx hb dL_isWorth_430 (by decide) (fun c25 => ?_) (fun c25 => ?_)
                                          · have qc25 := c25
                                            exact absurd (bp_2e hrb hgo hq11 e3 hh16 hO (by assumption) (by assumption) (by assumption)) c25
                                          · have qc25 := c25
                                            refine lv_iconst (v := (1 : Int32)) hx hb dL_isWorth_433 (by decide) ?_
                                            refine lv_goto (tgt := 438) hx hb dL_isWorth_434 (by decide) ?_
                                            exact W.widen (k := 12) (n := 72) (by omega) (by omega) (zreti Z hr hlk ((q0, q1, q2, q3, q4, q5, q6, q7, q8, q9, q10), P, G) X dL_isWorth_438 rfl (⟨rfl, rfl⟩))
                                        · exact absurd c23 (by decide)
                                      · exact absurd c22 (by decide)
                        · have qc12 := c12
                          have y9 : ¬ setN (lHlF P (qLn q0) q3 pn) 16 = 0 := fun q => c12 (hhol.trans q)
                          refine lv_iconst (v := (0 : Int32)) hx hb dL_isWorth_339 (by decide) ?_
                          refine lv_goto (tgt := 344) hx hb dL_isWorth_340 (by decide) ?_
                          refine lv_istore (lv' := [(9, .int (0 : Int32)), (7, .int hol), (8, .int emp), (6, .int (lWs P (qLn q0) q3)), (0, .ref h), (1, .ref a), (2, .ref b), (3, .int (aA5 q1 q0 q5 q6 q7 (1 : Int32) hp)), (4, .int (aA5 q1 q0 q5 q6 q7 (2 : Int32) hp)), (5, .int (1 : Int32))]) hx hb dL_isWorth_344 hl (by decide) rfl (fun ls hl => ?_)
                          refine lv_iload hx hb dL_isWorth_346 (lv_at hl 9 rfl) ?_
                          refine lv_if_eq (tgt := 437) hx hb dL_isWorth_348 (by decide) (fun c26 => ?_) (fun c26 => ?_)
                          · exact absurd c26 (by decide)
                          · have qc26 := c26
                            refine lv_iload_n hx hb dL_isWorth_351 rfl (lv_at hl 7 rfl) ?_
                            refine lv_iload hx hb dL_isWorth_352 (lv_at hl 3 rfl) ?_
                            refine lv_if_ne (tgt := 361) hx hb dL_isWorth_354 (by decide) (fun c27 => ?_) (fun c27 => ?_)
                            · exact absurd (by assumption) c27
                            · have qc27 := c27
                              refine lv_iconst (v := (0 : Int32)) hx hb dL_isWorth_357 (by decide) ?_
                              refine lv_goto (tgt := 362) hx hb dL_isWorth_358 (by decide) ?_
                              refine lv_icmp_ne (tgt := 437) hx hb dL_isWorth_362 (by decide) (fun c28 => ?_) (fun c28 => ?_)
                              · have qc28 := c28
                                exact absurd (p_1a hrb hgo hq11 e3 hh16 (by assumption)) c28
                              · have qc28 := c28
                                refine lv_iload hx hb dL_isWorth_365 (lv_at hl 8 rfl) ?_
                                refine lv_iload hx hb dL_isWorth_367 (lv_at hl 0 rfl) ?_
                                refine lv_icmp_ne (tgt := 437) hx hb dL_isWorth_369 (by decide) (fun c29 => ?_) (fun c29 => ?_)
                                · have qc29 := c29
                                  exact absurd (p_2h hrb hgo hq11 e3 hh16 hO (by assumption) (by assumption)) c29
                                · have qc29 := c29
                                  refine lv_aload_n hx hb dL_isWorth_372 rfl (lv_at hl 4 rfl) ?_
                                  refine lv_bipush (v := (6 : Int32)) hx hb dL_isWorth_373 (by decide) ?_
                                  refine lv_iconst (v := (1 : Int32)) hx hb dL_isWorth_375 (by decide) ?_
                                  refine zsubSi (n := 3) (As := [.ref h, .int (6 : Int32), .int (1 : Int32)]) (rest := []) (wc := oQ h (q0, q1, q2, q3, q4, q5, q6, q7, q8, q9, q10)) (wr := oB g a P ++ oG g b G) [0] [1, 2] rfl rfl rfl rfl (by decide) Z X zStL (fun _ _ h => h) (c_L_asks6 l g bL h q0 q1 q2 q3 q4 q5 q6 q7 q8 q9 q10 (1 : Int32) htr hp (KB_inv hrb.1) hph (fun z => by obtain ⟨y1, y2, y3⟩ := h3 z; exact ⟨y1, y2, (RB_u hrb y2).mpr y3⟩)) gL_isWorth_L_asks rfl ⟨by decide, by decide, by decide +kernel⟩ ⟨Nat.le_of_ble_eq_true rfl, Nat.le_of_ble_eq_true rfl⟩ rfl rfl hl.1 (Nat.le_of_ble_eq_true rfl) dL_isWorth_376 ⟨show 6 + 1 ≤ 12 from by omega, show 36 + 6 ≤ 72 from by omega⟩ (fun r30 ur30 H locs hr30 X => ?_)
                                  obtain ⟨hur30, hr30⟩ := hr30
                                  rw [hur30] at X
                                  have X : zh g A (oL g h a b ((q0, q1, q2, q3, q4, q5, q6, q7, q8, q9, q10), P, G)) s.heap H locs := zhsub X [2, 0, 1] rfl rfl
                                  refine zrwi (y := aA6 q1 q0 q5 q6 q7 (1 : Int32) hp) hr30 ?_
                                  refine lv_iload hx hb dL_isWorth_379 (lv_at hl 3 rfl) ?_
                                  refine lv_if_ne (tgt := 389) hx hb dL_isWorth_381 (by decide) (fun c31 => ?_) (fun c31 => ?_)
                                  · exact absurd (by assumption) c31
                                  · have qc31 := c31
                                    refine lv_iload hx hb dL_isWorth_384 (lv_at hl 2 rfl) ?_
                                    refine lv_goto (tgt := 391) hx hb dL_isWorth_386 (by decide) ?_
                                    refine zcallSi (n := 1) (As := [.int emp]) (rest := [.int (aA6 q1 q0 q5 q6 q7 (1 : Int32) hp)]) Z X (c_L_lowest l g emp) gL_isWorth_L_lowest rfl (by decide +kernel) ⟨Nat.le_of_ble_eq_true rfl, Nat.le_of_ble_eq_true rfl⟩ rfl rfl hl.1 (Nat.le_of_ble_eq_true rfl) dL_isWorth_391 ⟨show 6 + 1 ≤ 12 from by omega, show 36 + 6 ≤ 72 from by omega⟩ (fun r32 H locs hr32 X => ?_)
                                    obtain ⟨kr32, hkr32, hlowr32⟩ := hr32
                                    first | rw [hhol] at hlowr32 | rw [hemp] at hlowr32 | skip
                                    refine zrwi (y := nI kr32) hkr32 ?_
                                    refine lv_icmp_ne (tgt := 437) hx hb dL_isWorth_394 (by decide) (fun c33 => ?_) (fun c33 => ?_)
                                    · have qc33 := c33
                                      exact absurd (bp_1e hrb hgo hq11 e3 hh16 (by assumption) (by assumption)) c33
                                    · have qc33 := c33
                                      refine lv_aload_n hx hb dL_isWorth_397 rfl (lv_at hl 4 rfl) ?_
                                      refine lv_bipush (v := (6 : Int32)) hx hb dL_isWorth_398 (by decide) ?_
                                      refine lv_iconst (v := (2 : Int32)) hx hb dL_isWorth_400 (by decide) ?_
                                      refine zsubSi (n := 3) (As := [.ref h, .int (6 : Int32), .int (2 : Int32)]) (rest := []) (wc := oQ h (q0, q1, q2, q3, q4, q5, q6, q7, q8, q9, q10)) (wr := oB g a P ++ oG g b G) [0] [1, 2] rfl rfl rfl rfl (by decide) Z X zStL (fun _ _ h => h) (c_L_asks6 l g bL h q0 q1 q2 q3 q4 q5 q6 q7 q8 q9 q10 (2 : Int32) htr hp (KB_inv hrb.1) hph (fun z => by obtain ⟨y1, y2, y3⟩ := h3 z; exact ⟨y1, y2, (RB_u hrb y2).mpr y3⟩)) gL_isWorth_L_asks rfl ⟨by decide, by decide, by decide +kernel⟩ ⟨Nat.le_of_ble_eq_true rfl, Nat.le_of_ble_eq_true rfl⟩ rfl rfl hl.1 (Nat.le_of_ble_eq_true rfl) dL_isWorth_401 ⟨show 6 + 1 + 1 ≤ 12 from by omega, show 36 + 6 + 6 ≤ 72 from by omega⟩ (fun r34 ur34 H locs hr34 X => ?_)
                                      obtain ⟨hur34, hr34⟩ := hr34
                                      rw [hur34] at X
                                      have X : zh g A (oL g h a b ((q0, q1, q2, q3, q4, q5, q6, q7, q8, q9, q10), P, G)) s.heap H locs := zhsub X [2, 0, 1] rfl rfl
                                      refine zrwi (y := aA6 q1 q0 q5 q6 q7 (2 : Int32) hp) hr34 ?_
                                      refine lv_iload hx hb dL_isWorth_404 (lv_at hl 0 rfl) ?_
                                      refine lv_iconst (v := (1 : Int32)) hx hb dL_isWorth_406 (by decide) ?_
                                      refine lv_icmp_ne (tgt := 415) hx hb dL_isWorth_407 (by decide) (fun c35 => ?_) (fun c35 => ?_)
                                      · have qc35 := c35
                                        refine lv_iload hx hb dL_isWorth_415 (lv_at hl 0 rfl) ?_
                                        refine lv_if_ne (tgt := 425) hx hb dL_isWorth_417 (by decide) (fun c36 => ?_) (fun c36 => ?_)
                                        · exact absurd c36 (by decide)
                                        · have qc36 := c36
                                          refine lv_iload hx hb dL_isWorth_420 (lv_at hl 1 rfl) ?_
                                          refine lv_goto (tgt := 427) hx hb dL_isWorth_422 (by decide) ?_
                                          refine zcallSi (n := 1) (As := [.int hol]) (rest := [.int (aA6 q1 q0 q5 q6 q7 (2 : Int32) hp)]) Z X (c_L_lowest l g hol) gL_isWorth_L_lowest rfl (by decide +kernel) ⟨Nat.le_of_ble_eq_true rfl, Nat.le_of_ble_eq_true rfl⟩ rfl rfl hl.1 (Nat.le_of_ble_eq_true rfl) dL_isWorth_427 ⟨show 6 + 1 + 1 ≤ 12 from by omega, show 36 + 6 + 6 ≤ 72 from by omega⟩ (fun r37 H locs hr37 X => ?_)
                                          obtain ⟨kr37, hkr37, hlowr37⟩ := hr37
                                          first | rw [hhol] at hlowr37 | rw [hemp] at hlowr37 | skip
                                          refine zrwi (y := nI kr37) hkr37 ?_
                                          refine lv_icmp_ne (tgt := 437) hx hb dL_isWorth_430 (by decide) (fun c38 => ?_) (fun c38 => ?_)
                                          · have qc38 := c38
                                            exact absurd (bp_2h hrb hgo hq11 e3 hh16 hO (by assumption) (by assumption) (by assumption)) c38
                                          · have qc38 := c38
                                            refine lv_iconst (v := (1 : Int32)) hx hb dL_isWorth_433 (by decide) ?_
                                            refine lv_goto (tgt := 438) hx hb dL_isWorth_434 (by decide) ?_
                                            exact W.widen (k := 12) (n := 72) (by omega) (by omega) (zreti Z hr hlk ((q0, q1, q2, q3, q4, q5, q6, q7, q8, q9, q10), P, G) X dL_isWorth_438 rfl (⟨rfl, rfl⟩))
                                      · exact absurd c35 (by decide)
                      · have qc11 := c11
                        refine lv_iconst (v := (1 : Int32)) hx hb dL_isWorth_330 (by decide) ?_
                        refine lv_goto (tgt := 344) hx hb dL_isWorth_331 (by decide) ?_
                        refine lv_istore (lv' := [(9, .int (1 : Int32)), (7, .int hol), (8, .int emp), (6, .int (lWs P (qLn q0) q3)), (0, .ref h), (1, .ref a), (2, .ref b), (3, .int (aA5 q1 q0 q5 q6 q7 (1 : Int32) hp)), (4, .int (aA5 q1 q0 q5 q6 q7 (2 : Int32) hp)), (5, .int (1 : Int32))]) hx hb dL_isWorth_344 hl (by decide) rfl (fun ls hl => ?_)
                        refine lv_iload hx hb dL_isWorth_346 (lv_at hl 9 rfl) ?_
                        refine lv_if_eq (tgt := 437) hx hb dL_isWorth_348 (by decide) (fun c39 => ?_) (fun c39 => ?_)
                        · exact absurd c39 (by decide)
                        · have qc39 := c39
                          refine lv_iload_n hx hb dL_isWorth_351 rfl (lv_at hl 7 rfl) ?_
                          refine lv_iload hx hb dL_isWorth_352 (lv_at hl 3 rfl) ?_
                          refine lv_if_ne (tgt := 361) hx hb dL_isWorth_354 (by decide) (fun c40 => ?_) (fun c40 => ?_)
                          · have qc40 := c40
                            refine lv_iconst (v := (1 : Int32)) hx hb dL_isWorth_361 (by decide) ?_
                            refine lv_icmp_ne (tgt := 437) hx hb dL_isWorth_362 (by decide) (fun c41 => ?_) (fun c41 => ?_)
                            · have qc41 := c41
                              exact absurd (p_1b hrb hgo hq11 e3 hh16 (by assumption)) c41
                            · have qc41 := c41
                              refine lv_iload hx hb dL_isWorth_365 (lv_at hl 8 rfl) ?_
                              refine lv_iload hx hb dL_isWorth_367 (lv_at hl 0 rfl) ?_
                              refine lv_icmp_ne (tgt := 437) hx hb dL_isWorth_369 (by decide) (fun c42 => ?_) (fun c42 => ?_)
                              · have qc42 := c42
                                exact absurd (p_2w hrb hgo hq11 e3 hh16 (by assumption)) c42
                              · have qc42 := c42
                                refine lv_aload_n hx hb dL_isWorth_372 rfl (lv_at hl 4 rfl) ?_
                                refine lv_bipush (v := (6 : Int32)) hx hb dL_isWorth_373 (by decide) ?_
                                refine lv_iconst (v := (1 : Int32)) hx hb dL_isWorth_375 (by decide) ?_
                                refine zsubSi (n := 3) (As := [.ref h, .int (6 : Int32), .int (1 : Int32)]) (rest := []) (wc := oQ h (q0, q1, q2, q3, q4, q5, q6, q7, q8, q9, q10)) (wr := oB g a P ++ oG g b G) [0] [1, 2] rfl rfl rfl rfl (by decide) Z X zStL (fun _ _ h => h) (c_L_asks6 l g bL h q0 q1 q2 q3 q4 q5 q6 q7 q8 q9 q10 (1 : Int32) htr hp (KB_inv hrb.1) hph (fun z => by obtain ⟨y1, y2, y3⟩ := h3 z; exact ⟨y1, y2, (RB_u hrb y2).mpr y3⟩)) gL_isWorth_L_asks rfl ⟨by decide, by decide, by decide +kernel⟩ ⟨Nat.le_of_ble_eq_true rfl, Nat.le_of_ble_eq_true rfl⟩ rfl rfl hl.1 (Nat.le_of_ble_eq_true rfl) dL_isWorth_376 ⟨show 6 + 1 ≤ 12 from by omega, show 36 + 6 ≤ 72 from by omega⟩ (fun r43 ur43 H locs hr43 X => ?_)
                                obtain ⟨hur43, hr43⟩ := hr43
                                rw [hur43] at X
                                have X : zh g A (oL g h a b ((q0, q1, q2, q3, q4, q5, q6, q7, q8, q9, q10), P, G)) s.heap H locs := zhsub X [2, 0, 1] rfl rfl
                                refine zrwi (y := aA6 q1 q0 q5 q6 q7 (1 : Int32) hp) hr43 ?_
                                refine lv_iload hx hb dL_isWorth_379 (lv_at hl 3 rfl) ?_
                                refine lv_if_ne (tgt := 389) hx hb dL_isWorth_381 (by decide) (fun c44 => ?_) (fun c44 => ?_)
                                · have qc44 := c44
                                  refine lv_iload hx hb dL_isWorth_389 (lv_at hl 3 rfl) ?_
                                  refine zcallSi (n := 1) (As := [.int (lWs P (qLn q0) q3)]) (rest := [.int (aA6 q1 q0 q5 q6 q7 (1 : Int32) hp)]) Z X (c_L_lowest l g (lWs P (qLn q0) q3)) gL_isWorth_L_lowest rfl (by decide +kernel) ⟨Nat.le_of_ble_eq_true rfl, Nat.le_of_ble_eq_true rfl⟩ rfl rfl hl.1 (Nat.le_of_ble_eq_true rfl) dL_isWorth_391 ⟨show 6 + 1 ≤ 12 from by omega, show 36 + 6 ≤ 72 from by omega⟩ (fun r45 H locs hr45 X => ?_)
                                  obtain ⟨kr45, hkr45, hlowr45⟩ := hr45
                                  first | rw [hhol] at hlowr45 | rw [hemp] at hlowr45 | skip
                                  refine zrwi (y := nI kr45) hkr45 ?_
                                  refine lv_icmp_ne (tgt := 437) hx hb dL_isWorth_394 (by decide) (fun c46 => ?_) (fun c46 => ?_)
                                  · have qc46 := c46
                                    exact absurd (bp_1w hrb hgo hq11 e3 hh16 (by assumption) (by assumption)) c46
                                  · have qc46 := c46
                                    refine lv_aload_n hx hb dL_isWorth_397 rfl (lv_at hl 4 rfl) ?_
                                    refine lv_bipush (v := (6 : Int32)) hx hb dL_isWorth_398 (by decide) ?_
                                    refine lv_iconst (v := (2 : Int32)) hx hb dL_isWorth_400 (by decide) ?_
                                    refine zsubSi (n := 3) (As := [.ref h, .int (6 : Int32), .int (2 : Int32)]) (rest := []) (wc := oQ h (q0, q1, q2, q3, q4, q5, q6, q7, q8, q9, q10)) (wr := oB g a P ++ oG g b G) [0] [1, 2] rfl rfl rfl rfl (by decide) Z X zStL (fun _ _ h => h) (c_L_asks6 l g bL h q0 q1 q2 q3 q4 q5 q6 q7 q8 q9 q10 (2 : Int32) htr hp (KB_inv hrb.1) hph (fun z => by obtain ⟨y1, y2, y3⟩ := h3 z; exact ⟨y1, y2, (RB_u hrb y2).mpr y3⟩)) gL_isWorth_L_asks rfl ⟨by decide, by decide, by decide +kernel⟩ ⟨Nat.le_of_ble_eq_true rfl, Nat.le_of_ble_eq_true rfl⟩ rfl rfl hl.1 (Nat.le_of_ble_eq_true rfl) dL_isWorth_401 ⟨show 6 + 1 + 1 ≤ 12 from by omega, show 36 + 6 + 6 ≤ 72 from by omega⟩ (fun r47 ur47 H locs hr47 X => ?_)
                                    obtain ⟨hur47, hr47⟩ := hr47
                                    rw [hur47] at X
                                    have X : zh g A (oL g h a b ((q0, q1, q2, q3, q4, q5, q6, q7, q8, q9, q10), P, G)) s.heap H locs := zhsub X [2, 0, 1] rfl rfl
                                    refine zrwi (y := aA6 q1 q0 q5 q6 q7 (2 : Int32) hp) hr47 ?_
                                    refine lv_iload hx hb dL_isWorth_404 (lv_at hl 0 rfl) ?_
                                    refine lv_iconst (v := (1 : Int32)) hx hb dL_isWorth_406 (by decide) ?_
                                    refine lv_icmp_ne (tgt := 415) hx hb dL_isWorth_407 (by decide) (fun c48 => ?_) (fun c48 => ?_)
                                    · exact absurd c48 (by decide)
                                    · have qc48 := c48
                                      refine lv_iload hx hb dL_isWorth_410 (lv_at hl 3 rfl) ?_
                                      refine lv_goto (tgt := 427) hx hb dL_isWorth_412 (by decide) ?_
                                      refine zcallSi (n := 1) (As := [.int (lWs P (qLn q0) q3)]) (rest := [.int (aA6 q1 q0 q5 q6 q7 (2 : Int32) hp)]) Z X (c_L_lowest l g (lWs P (qLn q0) q3)) gL_isWorth_L_lowest rfl (by decide +kernel) ⟨Nat.le_of_ble_eq_true rfl, Nat.le_of_ble_eq_true rfl⟩ rfl rfl hl.1 (Nat.le_of_ble_eq_true rfl) dL_isWorth_427 ⟨show 6 + 1 + 1 ≤ 12 from by omega, show 36 + 6 + 6 ≤ 72 from by omega⟩ (fun r49 H locs hr49 X => ?_)
                                      obtain ⟨kr49, hkr49, hlowr49⟩ := hr49
                                      first | rw [hhol] at hlowr49 | rw [hemp] at hlowr49 | skip
                                      refine zrwi (y := nI kr49) hkr49 ?_
                                      refine lv_icmp_ne (tgt := 437) hx hb dL_isWorth_430 (by decide) (fun c50 => ?_) (fun c50 => ?_)
                                      · have qc50 := c50
                                        exact absurd (bp_2w hrb hgo hq11 e3 hh16 (by assumption) (by assumption)) c50
                                      · have qc50 := c50
                                        refine lv_iconst (v := (1 : Int32)) hx hb dL_isWorth_433 (by decide) ?_
                                        refine lv_goto (tgt := 438) hx hb dL_isWorth_434 (by decide) ?_
                                        exact W.widen (k := 12) (n := 72) (by omega) (by omega) (zreti Z hr hlk ((q0, q1, q2, q3, q4, q5, q6, q7, q8, q9, q10), P, G) X dL_isWorth_438 rfl (⟨rfl, rfl⟩))
                                · exact absurd c44 (by assumption)
                          · exact absurd c40 (by assumption)
                    · have qc10 := c10
                      have c10n : ¬ 16 ≤ k := zn_len (by omega) (by omega) c10
                      refine lv_aload_n hx hb dL_isWorth_260 rfl (lv_at hl 5 rfl) ?_
                      refine lv_iload hx hb dL_isWorth_261 (lv_at hl 0 rfl) ?_
                      refine zald (q0 := 1) (n := 16) (f := P) Z X rfl rfl k rfl (by omega) (by decide) dL_isWorth_263 ?_
                      refine lv_if_ge (tgt := 319) hx hb dL_isWorth_264 (by decide) (fun c51 => ?_) (fun c51 => ?_)
                      · have qc51 := c51
                        refine lv_iinc (v := nI (k + 1)) (lv' := [(9, .int (nI (k + 1))), (7, .int hol), (8, .int emp), (6, .int (lWs P (qLn q0) q3)), (0, .ref h), (1, .ref a), (2, .ref b), (3, .int (aA5 q1 q0 q5 q6 q7 (1 : Int32) hp)), (4, .int (aA5 q1 q0 q5 q6 q7 (2 : Int32) hp)), (5, .int (1 : Int32))]) hx hb dL_isWorth_319 hl (k := 0) rfl (zi_inc k) (by decide) rfl (fun ls hl => ?_)
                        refine lv_goto (tgt := 253) hx hb dL_isWorth_322 (by decide) ?_
                        exact W.widen (by omega) (by omega) (ih253 (k + 1) hol emp (by first | assumption | omega) (by first | exact lHl_k (by assumption) hhol | exact lHl_t1 (by assumption) (by assumption) hhol | exact lHl_t2 (by assumption) (by assumption) hhol | exact lHl_f (by assumption) (by assumption) (by assumption) hhol) (by first | exact lEm_k (by assumption) hemp | exact lEm_t (by assumption) hemp) (by omega) H locs ls X (lv_sub hl [0, 1, 2, 3, 4, 5, 6, 7, 8, 9] rfl))
                      · have qc51 := c51
                        refine lv_aload_n hx hb dL_isWorth_267 rfl (lv_at hl 5 rfl) ?_
                        refine lv_iload hx hb dL_isWorth_268 (lv_at hl 0 rfl) ?_
                        refine lv_aload_n hx hb dL_isWorth_270 rfl (lv_at hl 6 rfl) ?_
                        refine lv_iconst (v := (3 : Int32)) hx hb dL_isWorth_271 (by decide) ?_
                        refine zald (q0 := 2) (n := 6) (f := G) Z X rfl rfl 3 (by decide) (by decide) (by decide) dL_isWorth_272 ?_
                        refine zrwi (y := q3) hG3 ?_
                        refine zast (q0 := 1) (n := 16) (f := P) Z X rfl rfl k rfl (by omega) (by decide) dL_isWorth_273 (fun H locs X => ?_)
                        have X : zh g A (oL g h a b ((q0, q1, q2, q3, q4, q5, q6, q7, q8, q9, q10), (upd P k q3), G)) s.heap H locs := X
                        refine lv_iload hx hb dL_isWorth_274 (lv_at hl 2 rfl) ?_
                        refine lv_iconst (v := (1 : Int32)) hx hb dL_isWorth_276 (by decide) ?_
                        refine lv_iload hx hb dL_isWorth_277 (lv_at hl 0 rfl) ?_
                        refine lv_ishl hx hb dL_isWorth_279 ?_
                        refine lv_ior hx hb dL_isWorth_280 ?_
                        refine lv_topi (fun x52 ex52 => ?_)
                        refine lv_istore (lv' := [(8, .int x52), (9, .int (nI k)), (7, .int hol), (6, .int (lWs P (qLn q0) q3)), (0, .ref h), (1, .ref a), (2, .ref b), (3, .int (aA5 q1 q0 q5 q6 q7 (1 : Int32) hp)), (4, .int (aA5 q1 q0 q5 q6 q7 (2 : Int32) hp)), (5, .int (1 : Int32))]) hx hb dL_isWorth_281 hl (by decide) rfl (fun ls hl => ?_)
                        refine lv_iload hx hb dL_isWorth_283 (lv_at hl 2 rfl) ?_
                        refine lv_aload_n hx hb dL_isWorth_285 rfl (lv_at hl 6 rfl) ?_
                        refine lv_iconst (v := (4 : Int32)) hx hb dL_isWorth_286 (by decide) ?_
                        refine zald (q0 := 2) (n := 6) (f := G) Z X rfl rfl 4 (by decide) (by decide) (by decide) dL_isWorth_287 ?_
                        refine zrwi (y := nI pn) hG4 ?_
                        refine lv_bipush (v := (15 : Int32)) hx hb dL_isWorth_288 (by decide) ?_
                        refine lv_icmp_eq (tgt := 303) hx hb dL_isWorth_290 (by decide) (fun c53 => ?_) (fun c53 => ?_)
                        · have qc53 := c53
                          have c53n : pn = 15 := zn_eqt (by omega) (by omega) c53
                          refine lv_iconst (v := (1 : Int32)) hx hb dL_isWorth_303 (by decide) ?_
                          refine lv_iload hx hb dL_isWorth_304 (lv_at hl 1 rfl) ?_
                          refine lv_ishl hx hb dL_isWorth_306 ?_
                          refine lv_goto (tgt := 311) hx hb dL_isWorth_307 (by decide) ?_
                          refine lv_ior hx hb dL_isWorth_311 ?_
                          refine lv_topi (fun x54 ex54 => ?_)
                          refine lv_istore (lv' := [(7, .int x54), (8, .int x52), (9, .int (nI k)), (6, .int (lWs P (qLn q0) q3)), (0, .ref h), (1, .ref a), (2, .ref b), (3, .int (aA5 q1 q0 q5 q6 q7 (1 : Int32) hp)), (4, .int (aA5 q1 q0 q5 q6 q7 (2 : Int32) hp)), (5, .int (1 : Int32))]) hx hb dL_isWorth_312 hl (by decide) rfl (fun ls hl => ?_)
                          refine lv_aload_n hx hb dL_isWorth_314 rfl (lv_at hl 5 rfl) ?_
                          refine lv_iload hx hb dL_isWorth_315 (lv_at hl 2 rfl) ?_
                          refine lv_iconst (v := (-1 : Int32)) hx hb dL_isWorth_317 (by decide) ?_
                          refine zast (q0 := 1) (n := 16) (f := (upd P k q3)) Z X rfl rfl k rfl (by omega) (by decide) dL_isWorth_318 (fun H locs X => ?_)
                          have X : zh g A (oL g h a b ((q0, q1, q2, q3, q4, q5, q6, q7, q8, q9, q10), (upd (upd P k q3) k (-1 : Int32)), G)) s.heap H locs := X
                          have X : zh g A (oL g h a b ((q0, q1, q2, q3, q4, q5, q6, q7, q8, q9, q10), P, G)) s.heap H locs := by rw [upd_back (ok_lt hok (by omega) (by assumption))] at X; exact X
                          refine lv_iinc (v := nI (k + 1)) (lv' := [(9, .int (nI (k + 1))), (7, .int x54), (8, .int x52), (6, .int (lWs P (qLn q0) q3)), (0, .ref h), (1, .ref a), (2, .ref b), (3, .int (aA5 q1 q0 q5 q6 q7 (1 : Int32) hp)), (4, .int (aA5 q1 q0 q5 q6 q7 (2 : Int32) hp)), (5, .int (1 : Int32))]) hx hb dL_isWorth_319 hl (k := 2) rfl (zi_inc k) (by decide) rfl (fun ls hl => ?_)
                          refine lv_goto (tgt := 253) hx hb dL_isWorth_322 (by decide) ?_
                          exact W.widen (by omega) (by omega) (ih253 (k + 1) x54 x52 (by first | assumption | omega) (by subst ex54; subst ex52; first | exact lHl_k (by assumption) hhol | exact lHl_t1 (by assumption) (by assumption) hhol | exact lHl_t2 (by assumption) (by assumption) hhol | exact lHl_f (by assumption) (by assumption) (by assumption) hhol) (by subst ex54; subst ex52; first | exact lEm_k (by assumption) hemp | exact lEm_t (by assumption) hemp) (by omega) H locs ls X (lv_sub hl [0, 1, 2, 3, 4, 5, 6, 7, 8, 9] rfl))
                        · have qc53 := c53
                          have c53n : ¬ pn = 15 := zn_eqn (by omega) (by omega) c53
                          refine lv_aload_n hx hb dL_isWorth_293 rfl (lv_at hl 5 rfl) ?_
                          refine lv_aload_n hx hb dL_isWorth_294 rfl (lv_at hl 6 rfl) ?_
                          refine lv_iconst (v := (0 : Int32)) hx hb dL_isWorth_295 (by decide) ?_
                          refine zald (q0 := 2) (n := 6) (f := G) Z X rfl rfl 0 (by decide) (by decide) (by decide) dL_isWorth_296 ?_
                          refine zrwi (y := nI (qLn q0)) hG0 ?_
                          refine zsubS (n := 2) (As := [.ref a, .int (nI (qLn q0))]) (rest := [.int hol]) (wc := oB g a (upd P k q3)) (wr := oQ h (q0, q1, q2, q3, q4, q5, q6, q7, q8, q9, q10) ++ oG g b G) [1] [0, 2] rfl rfl rfl rfl (by decide) Z X zSt0 (fun _ _ _ => trivial) (c_L_safe l g a (upd P k q3) (qLn q0) (by omega) (by rw [e3]; exact okP_put hok hh16)) gL_isWorth_L_safe rfl (by decide +kernel) ⟨Nat.le_of_ble_eq_true rfl, Nat.le_of_ble_eq_true rfl⟩ rfl rfl hl.1 (Nat.le_of_ble_eq_true rfl) dL_isWorth_297 ⟨show 6 + 0 ≤ 12 from by omega, show 36 + 0 ≤ 72 from by omega⟩ (fun r55 ur55 H locs hr55 X => ?_)
                          obtain ⟨hur55, hr55⟩ := hr55
                          rw [hur55] at X
                          have X : zh g A (oL g h a b ((q0, q1, q2, q3, q4, q5, q6, q7, q8, q9, q10), (upd P k q3), G)) s.heap H locs := zhsub X [0, 2, 1] rfl rfl
                          refine zrwi (y := lSs (upd P k q3) (qLn q0)) hr55 ?_
                          refine lv_if_eq (tgt := 310) hx hb dL_isWorth_300 (by decide) (fun c56 => ?_) (fun c56 => ?_)
                          · have qc56 := c56
                            refine lv_iconst (v := (0 : Int32)) hx hb dL_isWorth_310 (by decide) ?_
                            refine lv_ior hx hb dL_isWorth_311 ?_
                            refine lv_topi (fun x57 ex57 => ?_)
                            refine lv_istore (lv' := [(7, .int x57), (8, .int x52), (9, .int (nI k)), (6, .int (lWs P (qLn q0) q3)), (0, .ref h), (1, .ref a), (2, .ref b), (3, .int (aA5 q1 q0 q5 q6 q7 (1 : Int32) hp)), (4, .int (aA5 q1 q0 q5 q6 q7 (2 : Int32) hp)), (5, .int (1 : Int32))]) hx hb dL_isWorth_312 hl (by decide) rfl (fun ls hl => ?_)
                            refine lv_aload_n hx hb dL_isWorth_314 rfl (lv_at hl 5 rfl) ?_
                            refine lv_iload hx hb dL_isWorth_315 (lv_at hl 2 rfl) ?_
                            refine lv_iconst (v := (-1 : Int32)) hx hb dL_isWorth_317 (by decide) ?_
                            refine zast (q0 := 1) (n := 16) (f := (upd P k q3)) Z X rfl rfl k rfl (by omega) (by decide) dL_isWorth_318 (fun H locs X => ?_)
                            have X : zh g A (oL g h a b ((q0, q1, q2, q3, q4, q5, q6, q7, q8, q9, q10), (upd (upd P k q3) k (-1 : Int32)), G)) s.heap H locs := X
                            have X : zh g A (oL g h a b ((q0, q1, q2, q3, q4, q5, q6, q7, q8, q9, q10), P, G)) s.heap H locs := by rw [upd_back (ok_lt hok (by omega) (by assumption))] at X; exact X
                            refine lv_iinc (v := nI (k + 1)) (lv' := [(9, .int (nI (k + 1))), (7, .int x57), (8, .int x52), (6, .int (lWs P (qLn q0) q3)), (0, .ref h), (1, .ref a), (2, .ref b), (3, .int (aA5 q1 q0 q5 q6 q7 (1 : Int32) hp)), (4, .int (aA5 q1 q0 q5 q6 q7 (2 : Int32) hp)), (5, .int (1 : Int32))]) hx hb dL_isWorth_319 hl (k := 2) rfl (zi_inc k) (by decide) rfl (fun ls hl => ?_)
                            refine lv_goto (tgt := 253) hx hb dL_isWorth_322 (by decide) ?_
                            exact W.widen (by omega) (by omega) (ih253 (k + 1) x57 x52 (by first | assumption | omega) (by subst ex57; subst ex52; first | exact lHl_k (by assumption) hhol | exact lHl_t1 (by assumption) (by assumption) hhol | exact lHl_t2 (by assumption) (by assumption) hhol | exact lHl_f (by assumption) (by assumption) (by assumption) hhol) (by subst ex57; subst ex52; first | exact lEm_k (by assumption) hemp | exact lEm_t (by assumption) hemp) (by omega) H locs ls X (lv_sub hl [0, 1, 2, 3, 4, 5, 6, 7, 8, 9] rfl))
                          · have qc56 := c56
                            refine lv_iconst (v := (1 : Int32)) hx hb dL_isWorth_303 (by decide) ?_
                            refine lv_iload hx hb dL_isWorth_304 (lv_at hl 1 rfl) ?_
                            refine lv_ishl hx hb dL_isWorth_306 ?_
                            refine lv_goto (tgt := 311) hx hb dL_isWorth_307 (by decide) ?_
                            refine lv_ior hx hb dL_isWorth_311 ?_
                            refine lv_topi (fun x58 ex58 => ?_)
                            refine lv_istore (lv' := [(7, .int x58), (8, .int x52), (9, .int (nI k)), (6, .int (lWs P (qLn q0) q3)), (0, .ref h), (1, .ref a), (2, .ref b), (3, .int (aA5 q1 q0 q5 q6 q7 (1 : Int32) hp)), (4, .int (aA5 q1 q0 q5 q6 q7 (2 : Int32) hp)), (5, .int (1 : Int32))]) hx hb dL_isWorth_312 hl (by decide) rfl (fun ls hl => ?_)
                            refine lv_aload_n hx hb dL_isWorth_314 rfl (lv_at hl 5 rfl) ?_
                            refine lv_iload hx hb dL_isWorth_315 (lv_at hl 2 rfl) ?_
                            refine lv_iconst (v := (-1 : Int32)) hx hb dL_isWorth_317 (by decide) ?_
                            refine zast (q0 := 1) (n := 16) (f := (upd P k q3)) Z X rfl rfl k rfl (by omega) (by decide) dL_isWorth_318 (fun H locs X => ?_)
                            have X : zh g A (oL g h a b ((q0, q1, q2, q3, q4, q5, q6, q7, q8, q9, q10), (upd (upd P k q3) k (-1 : Int32)), G)) s.heap H locs := X
                            have X : zh g A (oL g h a b ((q0, q1, q2, q3, q4, q5, q6, q7, q8, q9, q10), P, G)) s.heap H locs := by rw [upd_back (ok_lt hok (by omega) (by assumption))] at X; exact X
                            refine lv_iinc (v := nI (k + 1)) (lv' := [(9, .int (nI (k + 1))), (7, .int x58), (8, .int x52), (6, .int (lWs P (qLn q0) q3)), (0, .ref h), (1, .ref a), (2, .ref b), (3, .int (aA5 q1 q0 q5 q6 q7 (1 : Int32) hp)), (4, .int (aA5 q1 q0 q5 q6 q7 (2 : Int32) hp)), (5, .int (1 : Int32))]) hx hb dL_isWorth_319 hl (k := 2) rfl (zi_inc k) (by decide) rfl (fun ls hl => ?_)
                            refine lv_goto (tgt := 253) hx hb dL_isWorth_322 (by decide) ?_
                            exact W.widen (by omega) (by omega) (ih253 (k + 1) x58 x52 (by first | assumption | omega) (by subst ex58; subst ex52; first | exact lHl_k (by assumption) hhol | exact lHl_t1 (by assumption) (by assumption) hhol | exact lHl_t2 (by assumption) (by assumption) hhol | exact lHl_f (by assumption) (by assumption) (by assumption) hhol) (by subst ex58; subst ex52; first | exact lEm_k (by assumption) hemp | exact lEm_t (by assumption) hemp) (by omega) H locs ls X (lv_sub hl [0, 1, 2, 3, 4, 5, 6, 7, 8, 9] rfl))
                exact W.widen (by omega) (by omega) (cut253 17 0 (0 : Int32) (0 : Int32) (by decide) (rfl) (rfl) (by omega) H locs ls X (lv_sub hl [0, 2, 1, 3, 5, 6, 7, 8, 9, 4] rfl))
              · have qc8 := c8
                refine lv_aload_n hx hb dL_isWorth_149 rfl (lv_at hl 2 rfl) ?_
                refine lv_aload_n hx hb dL_isWorth_150 rfl (lv_at hl 3 rfl) ?_
                refine lv_iconst (v := (0 : Int32)) hx hb dL_isWorth_151 (by decide) ?_
                refine zald (q0 := 2) (n := 6) (f := G) Z X rfl rfl 0 (by decide) (by decide) (by decide) dL_isWorth_152 ?_
                refine zrwi (y := nI (qLn q0)) hG0 ?_
                refine zsubS (n := 2) (As := [.ref a, .int (nI (qLn q0))]) (rest := []) (wc := oB g a P) (wr := oQ h (q0, q1, q2, q3, q4, q5, q6, q7, q8, q9, q10) ++ oG g b G) [1] [0, 2] rfl rfl rfl rfl (by decide) Z X zSt0 (fun _ _ _ => trivial) (c_L_safe l g a P (qLn q0) (by omega) hok) gL_isWorth_L_safe rfl (by decide +kernel) ⟨Nat.le_of_ble_eq_true rfl, Nat.le_of_ble_eq_true rfl⟩ rfl rfl hl.1 (Nat.le_of_ble_eq_true rfl) dL_isWorth_153 ⟨show 6 + 0 ≤ 12 from by omega, show 36 + 0 ≤ 72 from by omega⟩ (fun r59 ur59 H locs hr59 X => ?_)
                obtain ⟨hur59, hr59⟩ := hr59
                rw [hur59] at X
                have X : zh g A (oL g h a b ((q0, q1, q2, q3, q4, q5, q6, q7, q8, q9, q10), P, G)) s.heap H locs := zhsub X [0, 2, 1] rfl rfl
                refine zrwi (y := lSs P (qLn q0)) hr59 ?_
                refine lv_istore (lv' := [(6, .int (lSs P (qLn q0))), (5, .int (1 : Int32)), (0, .ref h), (1, .ref a), (2, .ref b), (3, .int (aA5 q1 q0 q5 q6 q7 (1 : Int32) hp)), (4, .int (aA5 q1 q0 q5 q6 q7 (2 : Int32) hp))]) hx hb dL_isWorth_156 hl (by decide) rfl (fun ls hl => ?_)
                refine lv_iconst (v := (0 : Int32)) hx hb dL_isWorth_158 (by decide) ?_
                refine lv_istore (lv' := [(7, .int (0 : Int32)), (6, .int (lSs P (qLn q0))), (5, .int (1 : Int32)), (0, .ref h), (1, .ref a), (2, .ref b), (3, .int (aA5 q1 q0 q5 q6 q7 (1 : Int32) hp)), (4, .int (aA5 q1 q0 q5 q6 q7 (2 : Int32) hp))]) hx hb dL_isWorth_159 hl (by decide) rfl (fun ls hl => ?_)
                have cut161 : ∀ (n161 : Nat), ∀ (k : Nat), (k ≤ 15) → (∀ j, j < k → lHas P (nI j) 16 = true) → (17 - k ≤ n161) → ∀ (H : Heap) (locs : List Loc) (ls : Array Slot), zh g A (oL g h a b ((q0, q1, q2, q3, q4, q5, q6, q7, q8, q9, q10), P, G)) s.heap H locs → lv_has ls 10 [(7, .int (nI k)), (6, .int (lSs P (qLn q0))), (0, .ref h), (1, .ref a), (2, .ref b), (3, .int (aA5 q1 q0 q5 q6 q7 (1 : Int32) hp)), (4, .int (aA5 q1 q0 q5 q6 q7 (2 : Int32) hp)), (5, .int (1 : Int32))] → W p l e { frames := 34, cells := 12, slots := 72, locals := 1400 } s m ([.ref h, .ref a, .ref b] : List Value).toArray below meth c H locs 6 36 (MQ below ((zQi g (P_L_isWorth q0 q1 q2 q3 q4 q5 q6 q7 q8 q9 q10 P G) (oL g h a b)) A) ([.ref h, .ref a, .ref b] : List Value).toArray s 12 72 A) (F0 m 161 ls []) := by
                  intro n161
                  induction n161 with
                  | zero =>
                    intro k hk hall hn161 H locs ls X hl
                    exfalso; omega
                  | succ n161 ih161 =>
                    intro k hk hall hn161 H locs ls X hl
                    refine lv_aload_n hx hb dL_isWorth_161 rfl (lv_at hl 3 rfl) ?_
                    refine lv_iload hx hb dL_isWorth_162 (lv_at hl 0 rfl) ?_
                    refine zsubS (n := 2) (As := [.ref a, .int (nI k)]) (rest := []) (wc := oB g a P) (wr := oQ h (q0, q1, q2, q3, q4, q5, q6, q7, q8, q9, q10) ++ oG g b G) [1] [0, 2] rfl rfl rfl rfl (by decide) Z X zSt0 (fun _ _ _ => trivial) (c_L_isOn l g a P (nI k)) gL_isWorth_L_isOn rfl (by decide +kernel) ⟨Nat.le_of_ble_eq_true rfl, Nat.le_of_ble_eq_true rfl⟩ rfl rfl hl.1 (Nat.le_of_ble_eq_true rfl) dL_isWorth_164 ⟨show 6 + 0 ≤ 12 from by omega, show 36 + 0 ≤ 72 from by omega⟩ (fun r60 ur60 H locs hr60 X => ?_)
                    obtain ⟨hur60, hr60⟩ := hr60
                    rw [hur60] at X
                    have X : zh g A (oL g h a b ((q0, q1, q2, q3, q4, q5, q6, q7, q8, q9, q10), P, G)) s.heap H locs := zhsub X [0, 2, 1] rfl rfl
                    refine zrwi (y := zb (lHas P (nI k) 16)) hr60 ?_
                    refine lv_if_eq (tgt := 176) hx hb dL_isWorth_167 (by decide) (fun c61 => ?_) (fun c61 => ?_)
                    · have qc61 := c61
                      refine lv_iload hx hb dL_isWorth_176 (lv_at hl 7 rfl) ?_
                      refine lv_if_eq (tgt := 230) hx hb dL_isWorth_178 (by decide) (fun c62 => ?_) (fun c62 => ?_)
                      · exact absurd c62 (by decide)
                      · have qc62 := c62
                        refine lv_iload_n hx hb dL_isWorth_181 rfl (lv_at hl 5 rfl) ?_
                        refine lv_iload hx hb dL_isWorth_182 (lv_at hl 1 rfl) ?_
                        refine lv_if_ne (tgt := 191) hx hb dL_isWorth_184 (by decide) (fun c63 => ?_) (fun c63 => ?_)
                        · have qc63 := c63
                          refine lv_iconst (v := (0 : Int32)) hx hb dL_isWorth_191 (by decide) ?_
                          refine lv_icmp_ne (tgt := 230) hx hb dL_isWorth_192 (by decide) (fun c64 => ?_) (fun c64 => ?_)
                          · have qc64 := c64
                            exact absurd (by first | exact g_1a hrb hgo (by assumption) (by assumption) | exact g_1b hrb hgo (by assumption) (by assumption)) c64
                          · have qc64 := c64
                            refine lv_aload_n hx hb dL_isWorth_195 rfl (lv_at hl 2 rfl) ?_
                            refine lv_bipush (v := (6 : Int32)) hx hb dL_isWorth_196 (by decide) ?_
                            refine lv_iconst (v := (1 : Int32)) hx hb dL_isWorth_198 (by decide) ?_
                            refine zsubSi (n := 3) (As := [.ref h, .int (6 : Int32), .int (1 : Int32)]) (rest := []) (wc := oQ h (q0, q1, q2, q3, q4, q5, q6, q7, q8, q9, q10)) (wr := oB g a P ++ oG g b G) [0] [1, 2] rfl rfl rfl rfl (by decide) Z X zStL (fun _ _ h => h) (c_L_asks6 l g bL h q0 q1 q2 q3 q4 q5 q6 q7 q8 q9 q10 (1 : Int32) htr hp (KB_inv hrb.1) hph (fun z => by obtain ⟨y1, y2, y3⟩ := h3 z; exact ⟨y1, y2, (RB_u hrb y2).mpr y3⟩)) gL_isWorth_L_asks rfl ⟨by decide, by decide, by decide +kernel⟩ ⟨Nat.le_of_ble_eq_true rfl, Nat.le_of_ble_eq_true rfl⟩ rfl rfl hl.1 (Nat.le_of_ble_eq_true rfl) dL_isWorth_199 ⟨show 6 + 0 + 1 ≤ 12 from by omega, show 36 + 0 + 6 ≤ 72 from by omega⟩ (fun r65 ur65 H locs hr65 X => ?_)
                            obtain ⟨hur65, hr65⟩ := hr65
                            rw [hur65] at X
                            have X : zh g A (oL g h a b ((q0, q1, q2, q3, q4, q5, q6, q7, q8, q9, q10), P, G)) s.heap H locs := zhsub X [2, 0, 1] rfl rfl
                            refine zrwi (y := aA6 q1 q0 q5 q6 q7 (1 : Int32) hp) hr65 ?_
                            refine lv_iload hx hb dL_isWorth_202 (lv_at hl 1 rfl) ?_
                            refine lv_if_ne (tgt := 212) hx hb dL_isWorth_204 (by decide) (fun c66 => ?_) (fun c66 => ?_)
                            · have qc66 := c66
                              refine lv_iload hx hb dL_isWorth_212 (lv_at hl 1 rfl) ?_
                              refine zcallSi (n := 1) (As := [.int (lSs P (qLn q0))]) (rest := [.int (aA6 q1 q0 q5 q6 q7 (1 : Int32) hp)]) Z X (c_L_lowest l g (lSs P (qLn q0))) gL_isWorth_L_lowest rfl (by decide +kernel) ⟨Nat.le_of_ble_eq_true rfl, Nat.le_of_ble_eq_true rfl⟩ rfl rfl hl.1 (Nat.le_of_ble_eq_true rfl) dL_isWorth_214 ⟨show 6 + 0 + 1 ≤ 12 from by omega, show 36 + 0 + 6 ≤ 72 from by omega⟩ (fun r67 H locs hr67 X => ?_)
                              obtain ⟨kr67, hkr67, hlowr67⟩ := hr67
                              first | rw [hhol] at hlowr67 | rw [hemp] at hlowr67 | skip
                              refine zrwi (y := nI kr67) hkr67 ?_
                              refine lv_icmp_ne (tgt := 230) hx hb dL_isWorth_217 (by decide) (fun c68 => ?_) (fun c68 => ?_)
                              · have qc68 := c68
                                exact absurd (bg_b hrb hgo (by assumption) (by assumption) (by assumption)) c68
                              · have qc68 := c68
                                refine lv_iload hx hb dL_isWorth_220 (lv_at hl 6 rfl) ?_
                                refine lv_iload_n hx hb dL_isWorth_222 rfl (lv_at hl 5 rfl) ?_
                                refine lv_icmp_lt (tgt := 230) hx hb dL_isWorth_223 (by decide) (fun c69 => ?_) (fun c69 => ?_)
                                · have qc69 := c69
                                  exact absurd c69 (Int32.not_lt.mpr (g_le hrb hgo (by assumption)))
                                · have qc69 := c69
                                  refine lv_iconst (v := (1 : Int32)) hx hb dL_isWorth_226 (by decide) ?_
                                  refine lv_goto (tgt := 231) hx hb dL_isWorth_227 (by decide) ?_
                                  exact W.widen (k := 12) (n := 72) (by omega) (by omega) (zreti Z hr hlk ((q0, q1, q2, q3, q4, q5, q6, q7, q8, q9, q10), P, G) X dL_isWorth_231 rfl (⟨rfl, rfl⟩))
                            · exact absurd c66 (by assumption)
                        · have qc63 := c63
                          refine lv_iconst (v := (-1 : Int32)) hx hb dL_isWorth_187 (by decide) ?_
                          refine lv_goto (tgt := 192) hx hb dL_isWorth_188 (by decide) ?_
                          refine lv_icmp_ne (tgt := 230) hx hb dL_isWorth_192 (by decide) (fun c70 => ?_) (fun c70 => ?_)
                          · have qc70 := c70
                            exact absurd (by first | exact g_1a hrb hgo (by assumption) (by assumption) | exact g_1b hrb hgo (by assumption) (by assumption)) c70
                          · have qc70 := c70
                            refine lv_aload_n hx hb dL_isWorth_195 rfl (lv_at hl 2 rfl) ?_
                            refine lv_bipush (v := (6 : Int32)) hx hb dL_isWorth_196 (by decide) ?_
                            refine lv_iconst (v := (1 : Int32)) hx hb dL_isWorth_198 (by decide) ?_
                            refine zsubSi (n := 3) (As := [.ref h, .int (6 : Int32), .int (1 : Int32)]) (rest := []) (wc := oQ h (q0, q1, q2, q3, q4, q5, q6, q7, q8, q9, q10)) (wr := oB g a P ++ oG g b G) [0] [1, 2] rfl rfl rfl rfl (by decide) Z X zStL (fun _ _ h => h) (c_L_asks6 l g bL h q0 q1 q2 q3 q4 q5 q6 q7 q8 q9 q10 (1 : Int32) htr hp (KB_inv hrb.1) hph (fun z => by obtain ⟨y1, y2, y3⟩ := h3 z; exact ⟨y1, y2, (RB_u hrb y2).mpr y3⟩)) gL_isWorth_L_asks rfl ⟨by decide, by decide, by decide +kernel⟩ ⟨Nat.le_of_ble_eq_true rfl, Nat.le_of_ble_eq_true rfl⟩ rfl rfl hl.1 (Nat.le_of_ble_eq_true rfl) dL_isWorth_199 ⟨show 6 + 0 + 1 ≤ 12 from by omega, show 36 + 0 + 6 ≤ 72 from by omega⟩ (fun r71 ur71 H locs hr71 X => ?_)
                            obtain ⟨hur71, hr71⟩ := hr71
                            rw [hur71] at X
                            have X : zh g A (oL g h a b ((q0, q1, q2, q3, q4, q5, q6, q7, q8, q9, q10), P, G)) s.heap H locs := zhsub X [2, 0, 1] rfl rfl
                            refine zrwi (y := aA6 q1 q0 q5 q6 q7 (1 : Int32) hp) hr71 ?_
                            refine lv_iload hx hb dL_isWorth_202 (lv_at hl 1 rfl) ?_
                            refine lv_if_ne (tgt := 212) hx hb dL_isWorth_204 (by decide) (fun c72 => ?_) (fun c72 => ?_)
                            · exact absurd (by assumption) c72
                            · have qc72 := c72
                              refine lv_iload hx hb dL_isWorth_207 (lv_at hl 0 rfl) ?_
                              refine lv_goto (tgt := 217) hx hb dL_isWorth_209 (by decide) ?_
                              refine lv_icmp_ne (tgt := 230) hx hb dL_isWorth_217 (by decide) (fun c73 => ?_) (fun c73 => ?_)
                              · have qc73 := c73
                                exact absurd (bg_a hrb hgo (by assumption) (by assumption) hk hall (by assumption)) c73
                              · have qc73 := c73
                                refine lv_iload hx hb dL_isWorth_220 (lv_at hl 6 rfl) ?_
                                refine lv_iload_n hx hb dL_isWorth_222 rfl (lv_at hl 5 rfl) ?_
                                refine lv_icmp_lt (tgt := 230) hx hb dL_isWorth_223 (by decide) (fun c74 => ?_) (fun c74 => ?_)
                                · have qc74 := c74
                                  exact absurd c74 (Int32.not_lt.mpr (g_le hrb hgo (by assumption)))
                                · have qc74 := c74
                                  refine lv_iconst (v := (1 : Int32)) hx hb dL_isWorth_226 (by decide) ?_
                                  refine lv_goto (tgt := 231) hx hb dL_isWorth_227 (by decide) ?_
                                  exact W.widen (k := 12) (n := 72) (by omega) (by omega) (zreti Z hr hlk ((q0, q1, q2, q3, q4, q5, q6, q7, q8, q9, q10), P, G) X dL_isWorth_231 rfl (⟨rfl, rfl⟩))
                    · have qc61 := c61
                      refine lv_iinc (v := nI (k + 1)) (lv' := [(7, .int (nI (k + 1))), (6, .int (lSs P (qLn q0))), (0, .ref h), (1, .ref a), (2, .ref b), (3, .int (aA5 q1 q0 q5 q6 q7 (1 : Int32) hp)), (4, .int (aA5 q1 q0 q5 q6 q7 (2 : Int32) hp)), (5, .int (1 : Int32))]) hx hb dL_isWorth_170 hl (k := 0) rfl (zi_inc k) (by decide) rfl (fun ls hl => ?_)
                      refine lv_goto (tgt := 161) hx hb dL_isWorth_173 (by decide) ?_
                      exact W.widen (by omega) (by omega) (ih161 (k + 1) (on_lt hrb (hgo (by assumption)).1 (on_s hall (by assumption))) (on_s hall (by assumption)) (by omega) H locs ls X (lv_sub hl [0, 1, 2, 3, 4, 5, 6, 7] rfl))
                exact W.widen (by omega) (by omega) (cut161 17 0 (by decide) (fun j hj => absurd hj (Nat.not_lt_zero j)) (by omega) H locs ls X (lv_sub hl [0, 1, 3, 4, 5, 6, 7, 2] rfl))
            refine lv_icmp_gt (tgt := 136) hx hb dL_isWorth_121 (by decide) (fun c75 => ?_) (fun c75 => ?_)
            · have qc75 := c75
              have c75n : 9 < pn := zn_ltt (by omega) (by omega) c75
              exact W.widen (by omega) (by omega) (cut136  H locs ls X (lv_sub hl [0, 1, 2, 3, 4] rfl))
            · have qc75 := c75
              have c75n : ¬ 9 < pn := zn_ltn (by omega) (by omega) c75
              refine lv_aload_n hx hb dL_isWorth_124 rfl (lv_at hl 0 rfl) ?_
              refine lv_bipush (v := (6 : Int32)) hx hb dL_isWorth_125 (by decide) ?_
              refine lv_iconst (v := (4 : Int32)) hx hb dL_isWorth_127 (by decide) ?_
              refine zsubSi (n := 3) (As := [.ref h, .int (6 : Int32), .int (4 : Int32)]) (rest := []) (wc := oQ h (q0, q1, q2, q3, q4, q5, q6, q7, q8, q9, q10)) (wr := oB g a P ++ oG g b G) [0] [1, 2] rfl rfl rfl rfl (by decide) Z X zStL (fun _ _ h => h) (c_L_asks6 l g bL h q0 q1 q2 q3 q4 q5 q6 q7 q8 q9 q10 (4 : Int32) htr hp (KB_inv hrb.1) hph (fun z => by obtain ⟨y1, y2, y3⟩ := h3 z; exact ⟨y1, y2, (RB_u hrb y2).mpr y3⟩)) gL_isWorth_L_asks rfl ⟨by decide, by decide, by decide +kernel⟩ ⟨Nat.le_of_ble_eq_true rfl, Nat.le_of_ble_eq_true rfl⟩ rfl rfl hl.1 (Nat.le_of_ble_eq_true rfl) dL_isWorth_128 ⟨show 5 + 1 ≤ 12 from by omega, show 30 + 6 ≤ 72 from by omega⟩ (fun r76 ur76 H locs hr76 X => ?_)
              obtain ⟨hur76, hr76⟩ := hr76
              rw [hur76] at X
              have X : zh g A (oL g h a b ((q0, q1, q2, q3, q4, q5, q6, q7, q8, q9, q10), P, G)) s.heap H locs := zhsub X [2, 0, 1] rfl rfl
              refine zrwi (y := aA6 q1 q0 q5 q6 q7 (4 : Int32) hp) hr76 ?_
              refine zrwi (y := (-10 : Int32)) (w_64 hrb (by omega)) ?_
              refine lv_bipush (v := (-10 : Int32)) hx hb dL_isWorth_131 (by decide) ?_
              refine lv_icmp_ne (tgt := 140) hx hb dL_isWorth_133 (by decide) (fun c77 => ?_) (fun c77 => ?_)
              · exact absurd c77 (by decide)
              · have qc77 := c77
                exact W.widen (by omega) (by omega) (cut136  H locs ls X (lv_sub hl [0, 1, 2, 3, 4] rfl))
          refine lv_icmp_gt (tgt := 116) hx hb dL_isWorth_102 (by decide) (fun c78 => ?_) (fun c78 => ?_)
          · have qc78 := c78
            have c78n : 7 < pn := zn_ltt (by omega) (by omega) c78
            exact W.widen (by omega) (by omega) (cut116  H locs ls X (lv_sub hl [0, 1, 2, 3, 4] rfl))
          · have qc78 := c78
            have c78n : ¬ 7 < pn := zn_ltn (by omega) (by omega) c78
            refine lv_aload_n hx hb dL_isWorth_105 rfl (lv_at hl 0 rfl) ?_
            refine lv_iconst (v := (5 : Int32)) hx hb dL_isWorth_106 (by decide) ?_
            refine lv_iconst (v := (3 : Int32)) hx hb dL_isWorth_107 (by decide) ?_
            refine zsubSi (n := 3) (As := [.ref h, .int (5 : Int32), .int (3 : Int32)]) (rest := []) (wc := oQ h (q0, q1, q2, q3, q4, q5, q6, q7, q8, q9, q10)) (wr := oB g a P ++ oG g b G) [0] [1, 2] rfl rfl rfl rfl (by decide) Z X zStL (fun _ _ h => h) (c_L_asks5 l g bL h q0 q1 q2 q3 q4 q5 q6 q7 q8 q9 q10 (3 : Int32) htr hp (KB_inv hrb.1) hph (fun z => by obtain ⟨y1, y2, y3⟩ := h3 z; exact ⟨y1, y2, (RB_u hrb y2).mpr y3⟩)) gL_isWorth_L_asks rfl ⟨by decide, by decide, by decide +kernel⟩ ⟨Nat.le_of_ble_eq_true rfl, Nat.le_of_ble_eq_true rfl⟩ rfl rfl hl.1 (Nat.le_of_ble_eq_true rfl) dL_isWorth_108 ⟨show 2 + 1 + 1 + 1 ≤ 12 from by omega, show 12 + 6 + 6 + 6 ≤ 72 from by omega⟩ (fun r79 ur79 H locs hr79 X => ?_)
            obtain ⟨hur79, hr79⟩ := hr79
            rw [hur79] at X
            have X : zh g A (oL g h a b ((q0, q1, q2, q3, q4, q5, q6, q7, q8, q9, q10), P, G)) s.heap H locs := zhsub X [2, 0, 1] rfl rfl
            refine zrwi (y := aA5 q1 q0 q5 q6 q7 (3 : Int32) hp) hr79 ?_
            refine zrwi (y := (-10 : Int32)) (w_53 hrb (by omega)) ?_
            refine lv_bipush (v := (-10 : Int32)) hx hb dL_isWorth_111 (by decide) ?_
            refine lv_icmp_ne (tgt := 140) hx hb dL_isWorth_113 (by decide) (fun c80 => ?_) (fun c80 => ?_)
            · exact absurd c80 (by decide)
            · have qc80 := c80
              exact W.widen (by omega) (by omega) (cut116  H locs ls X (lv_sub hl [0, 1, 2, 3, 4] rfl))
    refine lv_iload_n hx hb dL_isWorth_64 rfl (lv_at hl 1 rfl) ?_
    refine lv_if_eq (tgt := 74) hx hb dL_isWorth_65 (by decide) (fun c81 => ?_) (fun c81 => ?_)
    · have qc81 := c81
      exact W.widen (by omega) (by omega) (cut74  H locs ls X (lv_sub hl [2, 3, 4, 1, 0] rfl))
    · have qc81 := c81
      refine lv_iload hx hb dL_isWorth_68 (lv_at hl 0 rfl) ?_
      refine lv_iload_n hx hb dL_isWorth_70 rfl (lv_at hl 1 rfl) ?_
      refine lv_icmp_ne (tgt := 140) hx hb dL_isWorth_71 (by decide) (fun c82 => ?_) (fun c82 => ?_)
      · have qc82 := c82
        exact absurd (t_1 hrb hgo hph (by assumption) h3 (by assumption)) c82
      · have qc82 := c82
        exact W.widen (by omega) (by omega) (cut74  H locs ls X (lv_sub hl [2, 3, 4, 1, 0] rfl))
  · have qc3 := c3
    refine lv_iload_n hx hb dL_isWorth_22 rfl (lv_at hl 1 rfl) ?_
    refine lv_bipush (v := (-10 : Int32)) hx hb dL_isWorth_23 (by decide) ?_
    refine lv_icmp_ne (tgt := 62) hx hb dL_isWorth_25 (by decide) (fun c83 => ?_) (fun c83 => ?_)
    · have qc83 := c83
      exact absurd (w2_5 (by assumption) (by decide)) c83
    · have qc83 := c83
      refine lv_iload hx hb dL_isWorth_28 (lv_at hl 0 rfl) ?_
      refine lv_bipush (v := (-10 : Int32)) hx hb dL_isWorth_30 (by decide) ?_
      refine lv_icmp_ne (tgt := 62) hx hb dL_isWorth_32 (by decide) (fun c84 => ?_) (fun c84 => ?_)
      · have qc84 := c84
        exact absurd (w2_5 (by assumption) (by decide)) c84
      · have qc84 := c84
        refine lv_aload_n hx hb dL_isWorth_35 rfl (lv_at hl 2 rfl) ?_
        refine lv_bipush (v := (6 : Int32)) hx hb dL_isWorth_36 (by decide) ?_
        refine lv_iconst (v := (1 : Int32)) hx hb dL_isWorth_38 (by decide) ?_
        refine zsubSi (n := 3) (As := [.ref h, .int (6 : Int32), .int (1 : Int32)]) (rest := []) (wc := oQ h (q0, q1, q2, q3, q4, q5, q6, q7, q8, q9, q10)) (wr := oB g a P ++ oG g b G) [0] [1, 2] rfl rfl rfl rfl (by decide) Z X zStL (fun _ _ h => h) (c_L_asks6 l g bL h q0 q1 q2 q3 q4 q5 q6 q7 q8 q9 q10 (1 : Int32) htr hp (KB_inv hrb.1) hph (fun z => by obtain ⟨y1, y2, y3⟩ := h3 z; exact ⟨y1, y2, (RB_u hrb y2).mpr y3⟩)) gL_isWorth_L_asks rfl ⟨by decide, by decide, by decide +kernel⟩ ⟨Nat.le_of_ble_eq_true rfl, Nat.le_of_ble_eq_true rfl⟩ rfl rfl hl.1 (Nat.le_of_ble_eq_true rfl) dL_isWorth_39 ⟨show 0 + 1 + 1 + 1 ≤ 12 from by omega, show 0 + 6 + 6 + 6 ≤ 72 from by omega⟩ (fun r85 ur85 H locs hr85 X => ?_)
        obtain ⟨hur85, hr85⟩ := hr85
        rw [hur85] at X
        have X : zh g A (oL g h a b ((q0, q1, q2, q3, q4, q5, q6, q7, q8, q9, q10), P, G)) s.heap H locs := zhsub X [2, 0, 1] rfl rfl
        refine zrwi (y := aA6 q1 q0 q5 q6 q7 (1 : Int32) hp) hr85 ?_
        refine zrwi (y := (-10 : Int32)) (w2_6 (by assumption) (by decide)) ?_
        refine lv_bipush (v := (-10 : Int32)) hx hb dL_isWorth_42 (by decide) ?_
        refine lv_icmp_ne (tgt := 62) hx hb dL_isWorth_44 (by decide) (fun c86 => ?_) (fun c86 => ?_)
        · exact absurd c86 (by decide)
        · have qc86 := c86
          refine lv_aload_n hx hb dL_isWorth_47 rfl (lv_at hl 2 rfl) ?_
          refine lv_iconst (v := (5 : Int32)) hx hb dL_isWorth_48 (by decide) ?_
          refine lv_iconst (v := (0 : Int32)) hx hb dL_isWorth_49 (by decide) ?_
          refine zsubSi (n := 3) (As := [.ref h, .int (5 : Int32), .int (0 : Int32)]) (rest := []) (wc := oQ h (q0, q1, q2, q3, q4, q5, q6, q7, q8, q9, q10)) (wr := oB g a P ++ oG g b G) [0] [1, 2] rfl rfl rfl rfl (by decide) Z X zStL (fun _ _ h => h) (c_L_asks5 l g bL h q0 q1 q2 q3 q4 q5 q6 q7 q8 q9 q10 (0 : Int32) htr hp (KB_inv hrb.1) hph (fun z => by obtain ⟨y1, y2, y3⟩ := h3 z; exact ⟨y1, y2, (RB_u hrb y2).mpr y3⟩)) gL_isWorth_L_asks rfl ⟨by decide, by decide, by decide +kernel⟩ ⟨Nat.le_of_ble_eq_true rfl, Nat.le_of_ble_eq_true rfl⟩ rfl rfl hl.1 (Nat.le_of_ble_eq_true rfl) dL_isWorth_50 ⟨show 0 + 1 + 1 + 1 + 1 ≤ 12 from by omega, show 0 + 6 + 6 + 6 + 6 ≤ 72 from by omega⟩ (fun r87 ur87 H locs hr87 X => ?_)
          obtain ⟨hur87, hr87⟩ := hr87
          rw [hur87] at X
          have X : zh g A (oL g h a b ((q0, q1, q2, q3, q4, q5, q6, q7, q8, q9, q10), P, G)) s.heap H locs := zhsub X [2, 0, 1] rfl rfl
          refine zrwi (y := aA5 q1 q0 q5 q6 q7 (0 : Int32) hp) hr87 ?_
          refine zrwi (y := (-20 : Int32)) (w_50) ?_
          refine lv_bipush (v := (-20 : Int32)) hx hb dL_isWorth_53 (by decide) ?_
          refine lv_icmp_ne (tgt := 62) hx hb dL_isWorth_55 (by decide) (fun c88 => ?_) (fun c88 => ?_)
          · exact absurd c88 (by decide)
          · have qc88 := c88
            refine lv_iconst (v := (1 : Int32)) hx hb dL_isWorth_58 (by decide) ?_
            refine lv_goto (tgt := 63) hx hb dL_isWorth_59 (by decide) ?_
            exact W.widen (k := 12) (n := 72) (by omega) (by omega) (zreti Z hr hlk ((q0, q1, q2, q3, q4, q5, q6, q7, q8, q9, q10), P, G) X dL_isWorth_63 rfl (⟨rfl, rfl⟩))
