/-! the twin: looks, worth, behind, best -/
theorem inw_X1_looks : ∀ w ∈ wsX10, w ∈ wsX1_looks := by decide +kernel
theorem lk_X1_looks_36 : Cond.fieldLink RX1 36 "QuarterboardModel" "choice" "[I" ∈ wsX1_looks := by decide +kernel
theorem lk_X1_looks_39 : Cond.fieldLink RX1 39 "QuarterboardModel" "best" "[I" ∈ wsX1_looks := by decide +kernel
theorem lk_X1_looks_30 : Cond.fieldLink RX1 30 "QuarterboardModel" "kind" "[I" ∈ wsX1_looks := by decide +kernel
theorem lk_X1_looks_33 : Cond.fieldLink RX1 33 "QuarterboardModel" "left" "[I" ∈ wsX1_looks := by decide +kernel
def P_X1_looks (bk : Int32) (pn : Nat) (hd ph ot wi ik th : Int32) (P O K kd lf ch be gi mr : Nat → Int32) (kq : Bool) (nq : Nat) (its : Int32) (pq : Nat) : Int32 → MS → Prop := fun r u => ∃ kd2 lf2 ch2 be2 gi2 : Nat → Int32, u = (bk, nI pn, hd, ph, ot, wi, ik, th, P, O, K, kd2, lf2, ch2, be2, gi2, mr) ∧ r = mx32 (lkF bk kq nq P O pn pq) 16
set_option maxHeartbeats 1000000 in
set_option maxRecDepth 100000 in
theorem c_X1_looks (l : Launch) (g : zG) (a : Nat → Nat) (bk : Int32) (pn : Nat) (hd ph ot wi ik th : Int32) (P O K kd lf ch be gi mr : Nat → Int32)  (kq : Bool) (nq : Nat) (its : Int32) (pq : Nat) (hnq : 1 ≤ nq) (hnq4 : nq ≤ 4) (hok : okM P O pn) (hpq : kq = true → its = nI pq ∧ pq < 16 ∧ O pq = 0) : zM l yX1_looks wsX1_looks 5 300 g [.ref (a 0), .int (zb kq), .int (nI nq), .int its] (oM g a (bk, nI pn, hd, ph, ot, wi, ik, th, P, O, K, kd, lf, ch, be, gi, mr)) zE0 (zQi g (P_X1_looks bk pn hd ph ot wi ik th P O K kd lf ch be gi mr kq nq its pq) (oM g a)) := by
  refine zstart (cc := cX1_looks) (maxL := 8) (ret := (some .int)) (own := RX1) rfl (by decide) rfl zSt0 (Nat.le_of_ble_eq_true rfl) ?_
  intro p e s m below meth c A Z hr hlk H locs X ls hl
  have hx := Z.1.1
  have hb := Z.1.2.1
  have hin : ∀ w ∈ wsX10, w ∈ wsX1_looks := inw_X1_looks
  have hl : lv_has ls 8 [(0, .ref (a 0)), (1, .int (zb kq)), (2, .int (nI nq)), (3, .int its)] := hl
  have X : zh g A (oM g a (bk, nI pn, hd, ph, ot, wi, ik, th, P, O, K, kd, lf, ch, be, gi, mr)) s.heap H locs := X
  refine lv_iconst (v := nI 0) hx hb dX1_looks_0 (by decide) ?_
  refine lv_istore (lv' := [(4, .int (nI 0)), (0, .ref (a 0)), (1, .int (zb kq)), (2, .int (nI nq)), (3, .int its)]) hx hb dX1_looks_1 hl (by decide) rfl (fun ls hl => ?_)
  refine lv_aload_n hx hb dX1_looks_3 rfl (lv_at hl 1 rfl) ?_
  refine lv_iconst (v := nI 0) hx hb dX1_looks_4 (by decide) ?_
  refine lv_iload_n hx hb dX1_looks_5 rfl (lv_at hl 2 rfl) ?_
  refine lv_iload_n hx hb dX1_looks_6 rfl (lv_at hl 3 rfl) ?_
  refine lv_iload_n hx hb dX1_looks_7 rfl (lv_at hl 4 rfl) ?_
  refine zcallVv (n := 4) (As := [.int (nI 0), .int (zb kq), .int (nI nq), .int its]) (rest := []) (ci := 1) (C := RX1) (T := TX1) (N := 17) Z X (c_X1_enters l g a bk pn hd ph ot wi ik th P O K kd lf ch be gi mr 0 (zb kq) (nI nq) its (by omega)) gX1_looks_X1_enters rfl (by decide +kernel) ⟨Nat.le_of_ble_eq_true rfl, Nat.le_of_ble_eq_true rfl⟩ rfl rfl rfl rfl hl.1 (Nat.le_of_ble_eq_true rfl) dX1_looks_8 ⟨Nat.zero_le _, Nat.zero_le _⟩ (fun ur0 H locs hrr0 X => ?_)
  obtain rfl : ur0 = (bk, nI pn, hd, ph, ot, wi, ik, th, P, O, K, upd kd 0 (zb kq), upd lf 0 (nI nq), upd ch 0 (-1), upd be 0 (-2), upd gi 0 its, mr) := hrr0
  have X : zh g A (oM g a (bk, nI pn, hd, ph, ot, wi, ik, th, P, O, K, upd kd 0 (zb kq), upd lf 0 (nI nq), upd ch 0 (-1), upd be 0 (-2), upd gi 0 its, mr)) s.heap H locs := X
  refine lv_bipush (v := (-2 : Int32)) hx hb dX1_looks_11 (by decide) ?_
  refine lv_istore (lv' := [(5, .int (-2 : Int32)), (4, .int (nI 0)), (0, .ref (a 0)), (1, .int (zb kq)), (2, .int (nI nq)), (3, .int its)]) hx hb dX1_looks_13 hl (by decide) rfl (fun ls hl => ?_)
  have cut15 : ∀ (n15 : Nat), ∀ (kp : Bool) (L : Nat) (n : Nat) (pc2 : Nat) (cx : Nat) (bn : Nat) (B : Nat → Int32) (U : Nat → Int32) (kd1 : Nat → Int32) (lf1 : Nat → Int32) (ch1 : Nat → Int32) (be1 : Nat → Int32) (gi1 : Nat → Int32) (told : Int32), (L + lkD kp n ≤ 8) → (1 ≤ n) → (cx ≤ 16) → (okM B U bn) → (kp = true → pc2 < 16 ∧ U pc2 = 0) → (kd1 L = (if kp = true then 1 else 0)) → (lf1 L = nI n) → (kp = true → gi1 L = nI pc2) → (ch1 L + 1 = nI cx) → (be1 L = mx32 (lkF bk kp n B U bn pc2) cx) → (∀ (kd2 lf2 ch2 be2 gi2 : Nat → Int32) (told2 : Int32), lag L kd1 lf1 ch1 be1 gi1 kd2 lf2 ch2 be2 gi2 → be2 L = mx32 (lkF bk kp n B U bn pc2) 16 → ∀ (H : Heap) (locs : List Loc) (ls : Array Slot), zh g A (oM g a (bk, nI bn, hd, ph, ot, wi, ik, th, B, U, K, kd2, lf2, ch2, be2, gi2, mr)) s.heap H locs → lv_has ls 8 [(4, .int (nI L)), (5, .int told2), (0, .ref (a 0))] → W p l e { frames := 5, cells := 0, slots := 0, locals := 300 } s m ([.ref (a 0), .int (zb kq), .int (nI nq), .int its] : List Value).toArray below meth c H locs 0 0 (MQ below ((zQi g (P_X1_looks bk pn hd ph ot wi ik th P O K kd lf ch be gi mr kq nq its pq) (oM g a)) A) ([.ref (a 0), .int (zb kq), .int (nI nq), .int its] : List Value).toArray s 0 0 A) (F0 m 54 ls [])) → (17 * lkD kp n + 17 - cx ≤ n15) → ∀ (H : Heap) (locs : List Loc) (ls : Array Slot), zh g A (oM g a (bk, nI bn, hd, ph, ot, wi, ik, th, B, U, K, kd1, lf1, ch1, be1, gi1, mr)) s.heap H locs → lv_has ls 8 [(4, .int (nI L)), (5, .int told), (0, .ref (a 0))] → W p l e { frames := 5, cells := 0, slots := 0, locals := 300 } s m ([.ref (a 0), .int (zb kq), .int (nI nq), .int its] : List Value).toArray below meth c H locs 0 0 (MQ below ((zQi g (P_X1_looks bk pn hd ph ot wi ik th P O K kd lf ch be gi mr kq nq its pq) (oM g a)) A) ([.ref (a 0), .int (zb kq), .int (nI nq), .int its] : List Value).toArray s 0 0 A) (F0 m 15 ls []) := by
    intro n15
    induction n15 with
    | zero =>
      intro kp L n pc2 cx bn B U kd1 lf1 ch1 be1 gi1 told hL hn1 hc hok2 hp hkd hlf hgi hch hbe hA hm15
      exact absurd hm15 (by omega)
    | succ n15 ih15 =>
      intro kp L n pc2 cx bn B U kd1 lf1 ch1 be1 gi1 told hL hn1 hc hok2 hp hkd hlf hgi hch hbe hA hm15 H locs ls X hl
      refine lv_iload hx hb dX1_looks_15 (lv_at hl 0 rfl) ?_
      refine lv_if_lt (tgt := 270) hx hb dX1_looks_17 (by decide) (fun c2 => ?_) (fun c2 => ?_)
      · have qc2 := c2
        have c2n : L < 0 := zn_ltt (by omega) (by omega) c2
        exact absurd c2n (Nat.not_lt_zero _)
      · have qc2 := c2
        have c2n : ¬ L < 0 := zn_ltn (by omega) (by omega) c2
        cases kp with
        | false =>
          have hD : lkD false n = 2 * n := rfl
          rw [hD] at hL hm15
          have hk0 : kd1 L = 0 := hkd
          refine lv_aload_n hx hb dX1_looks_20 rfl (lv_at hl 2 rfl) ?_
          refine zget (fs := [.int bk, .ref (a 1), .ref (a 2), .int (nI bn), .int hd, .int ph, .int ot, .int wi, .int ik, .ref (a 3), .int th, .ref (a 4), .ref (a 5), .ref (a 6), .ref (a 7), .ref (a 8), .ref (a 9)]) (v := .ref (a 6)) Z hin X (ci := 1) (C := RX1) (T := TX1) (N := 17) rfl rfl 13 (by decide) lk_X1_looks_36 rfl dX1_looks_21 ?_
          refine lv_iload hx hb dX1_looks_24 (lv_at hl 0 rfl) ?_
          refine lv_dup2_11 hx hb dX1_looks_26 rfl rfl ?_
          refine zald (q0 := 6) (n := 10) (f := ch1) Z X rfl rfl L rfl (by omega) (by decide) dX1_looks_27 ?_
          refine lv_iconst (v := (1 : Int32)) hx hb dX1_looks_28 (by decide) ?_
          refine lv_iadd hx hb dX1_looks_29 ?_
          refine zrwi (y := nI cx) (hch) ?_
          refine zast (q0 := 6) (n := 10) (f := ch1) Z X rfl rfl L rfl (by omega) (by decide) dX1_looks_30 (fun H locs X => ?_)
          have X : zh g A (oM g a (bk, nI bn, hd, ph, ot, wi, ik, th, B, U, K, kd1, lf1, (upd ch1 L (nI cx)), be1, gi1, mr)) s.heap H locs := X
          refine lv_aload_n hx hb dX1_looks_31 rfl (lv_at hl 2 rfl) ?_
          refine zget (fs := [.int bk, .ref (a 1), .ref (a 2), .int (nI bn), .int hd, .int ph, .int ot, .int wi, .int ik, .ref (a 3), .int th, .ref (a 4), .ref (a 5), .ref (a 6), .ref (a 7), .ref (a 8), .ref (a 9)]) (v := .ref (a 6)) Z hin X (ci := 1) (C := RX1) (T := TX1) (N := 17) rfl rfl 13 (by decide) lk_X1_looks_36 rfl dX1_looks_32 ?_
          refine lv_iload hx hb dX1_looks_35 (lv_at hl 0 rfl) ?_
          refine zald (q0 := 6) (n := 10) (f := (upd ch1 L (nI cx))) Z X rfl rfl L rfl (by omega) (by decide) dX1_looks_37 ?_
          refine zrwi (y := nI cx) pk_us ?_
          refine lv_bipush (v := nI 16) hx hb dX1_looks_38 (by decide) ?_
          refine lv_icmp_eq (tgt := 54) hx hb dX1_looks_40 (by decide) (fun c3 => ?_) (fun c3 => ?_)
          · have qc3 := c3
            have c3n : cx = 16 := zn_eqt (by omega) (by omega) c3
            have hc16 : cx = 16 := c3n
            have hend : be1 L = mx32 (lkF bk false n B U bn pc2) 16 := hbe.trans (mx_end (lk_le bk (kp := false) hok2 (by intro q; exact absurd q (by decide))) hc (by first | exact Or.inl hc16 | exact Or.inr hb1))
            exact hA kd1 lf1 (upd ch1 L (nI cx)) be1 gi1 told lag_0 hend H locs ls X (lv_sub hl [0, 1, 2] rfl)
          · have qc3 := c3
            have c3n : ¬ cx = 16 := zn_eqn (by omega) (by omega) c3
            have hc16 : ¬ cx = 16 := c3n
            refine lv_aload_n hx hb dX1_looks_43 rfl (lv_at hl 2 rfl) ?_
            refine zget (fs := [.int bk, .ref (a 1), .ref (a 2), .int (nI bn), .int hd, .int ph, .int ot, .int wi, .int ik, .ref (a 3), .int th, .ref (a 4), .ref (a 5), .ref (a 6), .ref (a 7), .ref (a 8), .ref (a 9)]) (v := .ref (a 7)) Z hin X (ci := 1) (C := RX1) (T := TX1) (N := 17) rfl rfl 14 (by decide) lk_X1_looks_39 rfl dX1_looks_44 ?_
            refine lv_iload hx hb dX1_looks_47 (lv_at hl 0 rfl) ?_
            refine zald (q0 := 7) (n := 10) (f := be1) Z X rfl rfl L rfl (by omega) (by decide) dX1_looks_49 ?_
            refine zrwi (y := mx32 (lkF bk false n B U bn pc2) cx) hbe ?_
            refine lv_iconst (v := (1 : Int32)) hx hb dX1_looks_50 (by decide) ?_
            refine lv_icmp_ne (tgt := 147) hx hb dX1_looks_51 (by decide) (fun c4 => ?_) (fun c4 => ?_)
            · have qc4 := c4
              by_cases hO : U cx = 0
              ·
                skip
                refine lv_aload_n hx hb dX1_looks_147 rfl (lv_at hl 2 rfl) ?_
                refine lv_iload hx hb dX1_looks_148 (lv_at hl 0 rfl) ?_
                refine zcallVi (n := 1) (As := [.int (nI L)]) (rest := []) (ci := 1) (C := RX1) (T := TX1) (N := 17) Z X (c_X1_tries_G2 l g a bk bn hd ph ot wi ik th B U K kd1 lf1 (upd ch1 L (nI cx)) be1 gi1 mr L cx 0 n (by omega) (by omega) (by omega) (by have := hok2.1; omega) pk_us hk0 hO) gX1_looks_X1_tries rfl (by decide +kernel) ⟨Nat.le_of_ble_eq_true rfl, Nat.le_of_ble_eq_true rfl⟩ rfl rfl rfl rfl hl.1 (Nat.le_of_ble_eq_true rfl) dX1_looks_150 ⟨Nat.zero_le _, Nat.zero_le _⟩ (fun r4 ur4 H locs hrr4 X => ?_)
                obtain ⟨rfl, rfl⟩ : ur4 = (bk, nI bn, hd, ph, ot, wi, ik, th, B, U, K, kd1, lf1, (upd ch1 L (nI cx)), be1, gi1, mr) ∧ r4 = (2 : Int32) := hrr4
                have X : zh g A (oM g a (bk, nI bn, hd, ph, ot, wi, ik, th, B, U, K, kd1, lf1, (upd ch1 L (nI cx)), be1, gi1, mr)) s.heap H locs := X
                refine lv_istore (lv' := [(6, .int (2 : Int32)), (4, .int (nI L)), (5, .int told), (0, .ref (a 0))]) hx hb dX1_looks_153 hl (by decide) rfl (fun ls hl => ?_)
                refine lv_aload_n hx hb dX1_looks_155 rfl (lv_at hl 3 rfl) ?_
                refine zget (fs := [.int bk, .ref (a 1), .ref (a 2), .int (nI bn), .int hd, .int ph, .int ot, .int wi, .int ik, .ref (a 3), .int th, .ref (a 4), .ref (a 5), .ref (a 6), .ref (a 7), .ref (a 8), .ref (a 9)]) (v := .ref (a 7)) Z hin X (ci := 1) (C := RX1) (T := TX1) (N := 17) rfl rfl 14 (by decide) lk_X1_looks_39 rfl dX1_looks_156 ?_
                refine lv_iload hx hb dX1_looks_159 (lv_at hl 1 rfl) ?_
                refine lv_iload hx hb dX1_looks_161 (lv_at hl 0 rfl) ?_
                refine lv_iconst (v := (2 : Int32)) hx hb dX1_looks_163 (by decide) ?_
                refine lv_icmp_ge (tgt := 184) hx hb dX1_looks_164 (by decide) (fun c6 => ?_) (fun c6 => ?_)
                · have qc6 := c6
                  refine lv_aload_n hx hb dX1_looks_184 rfl (lv_at hl 3 rfl) ?_
                  refine zget (fs := [.int bk, .ref (a 1), .ref (a 2), .int (nI bn), .int hd, .int ph, .int ot, .int wi, .int ik, .ref (a 3), .int th, .ref (a 4), .ref (a 5), .ref (a 6), .ref (a 7), .ref (a 8), .ref (a 9)]) (v := .ref (a 7)) Z hin X (ci := 1) (C := RX1) (T := TX1) (N := 17) rfl rfl 14 (by decide) lk_X1_looks_39 rfl dX1_looks_185 ?_
                  refine lv_iload hx hb dX1_looks_188 (lv_at hl 1 rfl) ?_
                  refine zald (q0 := 7) (n := 10) (f := be1) Z X rfl rfl L rfl (by omega) (by decide) dX1_looks_190 ?_
                  refine zrwi (y := mx32 (lkF bk false n B U bn pc2) cx) hbe ?_
                  refine zast (q0 := 7) (n := 10) (f := be1) Z X rfl rfl L rfl (by omega) (by decide) dX1_looks_191 (fun H locs X => ?_)
                  have X : zh g A (oM g a (bk, nI bn, hd, ph, ot, wi, ik, th, B, U, K, kd1, lf1, (upd ch1 L (nI cx)), (upd be1 L (mx32 (lkF bk false n B U bn pc2) cx)), gi1, mr)) s.heap H locs := X
                  refine lv_iload hx hb dX1_looks_192 (lv_at hl 0 rfl) ?_
                  refine lv_iconst (v := (2 : Int32)) hx hb dX1_looks_194 (by decide) ?_
                  refine lv_icmp_ne (tgt := 267) hx hb dX1_looks_195 (by decide) (fun c7 => ?_) (fun c7 => ?_)
                  · exact absurd c7 (by decide)
                  · have qc7 := c7
                    refine lv_aload_n hx hb dX1_looks_198 rfl (lv_at hl 3 rfl) ?_
                    refine zget (fs := [.int bk, .ref (a 1), .ref (a 2), .int (nI bn), .int hd, .int ph, .int ot, .int wi, .int ik, .ref (a 3), .int th, .ref (a 4), .ref (a 5), .ref (a 6), .ref (a 7), .ref (a 8), .ref (a 9)]) (v := .ref (a 4)) Z hin X (ci := 1) (C := RX1) (T := TX1) (N := 17) rfl rfl 11 (by decide) lk_X1_looks_30 rfl dX1_looks_199 ?_
                    refine lv_iload hx hb dX1_looks_202 (lv_at hl 1 rfl) ?_
                    refine zald (q0 := 4) (n := 10) (f := kd1) Z X rfl rfl L rfl (by omega) (by decide) dX1_looks_204 ?_
                    refine zrwi (y := (0 : Int32)) hk0 ?_
                    refine lv_if_ne (tgt := 212) hx hb dX1_looks_205 (by decide) (fun c8 => ?_) (fun c8 => ?_)
                    · exact absurd c8 (by decide)
                    · have qc8 := c8
                      refine lv_iconst (v := (1 : Int32)) hx hb dX1_looks_208 (by decide) ?_
                      refine lv_goto (tgt := 213) hx hb dX1_looks_209 (by decide) ?_
                      refine lv_istore (lv' := [(7, .int (1 : Int32)), (6, .int (2 : Int32)), (4, .int (nI L)), (5, .int told), (0, .ref (a 0))]) hx hb dX1_looks_213 hl (by decide) rfl (fun ls hl => ?_)
                      refine lv_aload_n hx hb dX1_looks_215 rfl (lv_at hl 4 rfl) ?_
                      refine lv_iload hx hb dX1_looks_216 (lv_at hl 2 rfl) ?_
                      refine lv_iconst (v := nI 1) hx hb dX1_looks_218 (by decide) ?_
                      refine lv_iadd hx hb dX1_looks_219 ?_
                      refine zrwi (y := nI (L + 1)) (nI_add _ _) ?_
                      refine lv_iload hx hb dX1_looks_220 (lv_at hl 0 rfl) ?_
                      refine lv_if_eq (tgt := 229) hx hb dX1_looks_222 (by decide) (fun c9 => ?_) (fun c9 => ?_)
                      · exact absurd c9 (by decide)
                      · have qc9 := c9
                        refine lv_iconst (v := (1 : Int32)) hx hb dX1_looks_225 (by decide) ?_
                        refine lv_goto (tgt := 230) hx hb dX1_looks_226 (by decide) ?_
                        refine lv_iload hx hb dX1_looks_230 (lv_at hl 0 rfl) ?_
                        refine lv_if_eq (tgt := 245) hx hb dX1_looks_232 (by decide) (fun c10 => ?_) (fun c10 => ?_)
                        · exact absurd c10 (by decide)
                        · have qc10 := c10
                          refine lv_aload_n hx hb dX1_looks_235 rfl (lv_at hl 4 rfl) ?_
                          refine zget (fs := [.int bk, .ref (a 1), .ref (a 2), .int (nI bn), .int hd, .int ph, .int ot, .int wi, .int ik, .ref (a 3), .int th, .ref (a 4), .ref (a 5), .ref (a 6), .ref (a 7), .ref (a 8), .ref (a 9)]) (v := .ref (a 5)) Z hin X (ci := 1) (C := RX1) (T := TX1) (N := 17) rfl rfl 12 (by decide) lk_X1_looks_33 rfl dX1_looks_236 ?_
                          refine lv_iload hx hb dX1_looks_239 (lv_at hl 2 rfl) ?_
                          refine zald (q0 := 5) (n := 10) (f := lf1) Z X rfl rfl L rfl (by omega) (by decide) dX1_looks_241 ?_
                          refine zrwi (y := nI n) hlf ?_
                          refine lv_goto (tgt := 254) hx hb dX1_looks_242 (by decide) ?_
                          refine lv_aload_n hx hb dX1_looks_254 rfl (lv_at hl 4 rfl) ?_
                          refine zget (fs := [.int bk, .ref (a 1), .ref (a 2), .int (nI bn), .int hd, .int ph, .int ot, .int wi, .int ik, .ref (a 3), .int th, .ref (a 4), .ref (a 5), .ref (a 6), .ref (a 7), .ref (a 8), .ref (a 9)]) (v := .ref (a 6)) Z hin X (ci := 1) (C := RX1) (T := TX1) (N := 17) rfl rfl 13 (by decide) lk_X1_looks_36 rfl dX1_looks_255 ?_
                          refine lv_iload hx hb dX1_looks_258 (lv_at hl 2 rfl) ?_
                          refine zald (q0 := 6) (n := 10) (f := (upd ch1 L (nI cx))) Z X rfl rfl L rfl (by omega) (by decide) dX1_looks_260 ?_
                          refine zrwi (y := nI cx) pk_us ?_
                          refine zcallVv (n := 4) (As := [.int (nI (L + 1)), .int (1 : Int32), .int (nI n), .int (nI cx)]) (rest := []) (ci := 1) (C := RX1) (T := TX1) (N := 17) Z X (c_X1_enters l g a bk bn hd ph ot wi ik th B U K kd1 lf1 (upd ch1 L (nI cx)) (upd be1 L (mx32 (lkF bk false n B U bn pc2) cx)) gi1 mr (L + 1) (1 : Int32) (nI n) (nI cx) (by omega)) gX1_looks_X1_enters rfl (by decide +kernel) ⟨Nat.le_of_ble_eq_true rfl, Nat.le_of_ble_eq_true rfl⟩ rfl rfl rfl rfl hl.1 (Nat.le_of_ble_eq_true rfl) dX1_looks_261 ⟨Nat.zero_le _, Nat.zero_le _⟩ (fun ur10 H locs hrr10 X => ?_)
                          obtain rfl : ur10 = (bk, nI bn, hd, ph, ot, wi, ik, th, B, U, K, upd kd1 (L + 1) (1 : Int32), upd lf1 (L + 1) (nI n), upd (upd ch1 L (nI cx)) (L + 1) (-1), upd (upd be1 L (mx32 (lkF bk false n B U bn pc2) cx)) (L + 1) (-2), upd gi1 (L + 1) (nI cx), mr) := hrr10
                          have X : zh g A (oM g a (bk, nI bn, hd, ph, ot, wi, ik, th, B, U, K, upd kd1 (L + 1) (1 : Int32), upd lf1 (L + 1) (nI n), upd (upd ch1 L (nI cx)) (L + 1) (-1), upd (upd be1 L (mx32 (lkF bk false n B U bn pc2) cx)) (L + 1) (-2), upd gi1 (L + 1) (nI cx), mr)) s.heap H locs := X
                          refine lv_iinc (v := nI (L + 1)) (lv' := [(4, .int (nI (L + 1))), (7, .int (1 : Int32)), (6, .int (2 : Int32)), (5, .int told), (0, .ref (a 0))]) hx hb dX1_looks_264 hl (k := 2) rfl (zi_inc L) (by decide) rfl (fun ls hl => ?_)
                          refine lv_goto (tgt := 15) hx hb dX1_looks_267 (by decide) ?_
                          refine ih15 true (L + 1) n cx 0 bn B U (upd kd1 (L + 1) (1 : Int32)) (upd lf1 (L + 1) (nI n)) (upd (upd ch1 L (nI cx)) (L + 1) (-1)) (upd (upd be1 L (mx32 (lkF bk false n B U bn pc2) cx)) (L + 1) (-2)) (upd gi1 (L + 1) (nI cx)) told (by simp only [lkD]; omega) (by omega) (by omega) hok2 (fun _ => ⟨by omega, hO⟩) pk_us pk_us (fun _ => pk_us) (by rw [pk_us]; decide) (by rw [pk_us]; rfl) ?_ (by simp only [lkD]; omega) H locs ls X (lv_sub hl [0, 3, 4] rfl)
                          clear hl X
                          intro kd2 lf2 ch2 be2 gi2 told2 hag hv H locs ls X hl
                          have hag1 := hag L (by omega)
                          have hk2 : kd2 L = 0 := hag1.1.trans ((pk_un (by omega)).trans hk0)
                          have hl2 : lf2 L = nI n := hag1.2.1.trans ((pk_un (by omega)).trans hlf)
                          have hc2 : ch2 L = nI cx := hag1.2.2.1.trans ((pk_un (by omega)).trans pk_us)
                          have hb2 : be2 L = mx32 (lkF bk false n B U bn pc2) cx := hag1.2.2.2.1.trans ((pk_un (by omega)).trans pk_us)
                          have hF : (lkF bk false n B U bn pc2) cx = -mx32 (lkF bk true n B U bn cx) 16 := if_pos hO
                          refine lv_aload_n hx hb dX1_looks_54 rfl (lv_at hl 2 rfl) ?_
                          refine zget (fs := [.int bk, .ref (a 1), .ref (a 2), .int (nI bn), .int hd, .int ph, .int ot, .int wi, .int ik, .ref (a 3), .int th, .ref (a 4), .ref (a 5), .ref (a 6), .ref (a 7), .ref (a 8), .ref (a 9)]) (v := .ref (a 7)) Z hin X (ci := 1) (C := RX1) (T := TX1) (N := 17) rfl rfl 14 (by decide) lk_X1_looks_39 rfl dX1_looks_55 ?_
                          refine lv_iload hx hb dX1_looks_58 (lv_at hl 0 rfl) ?_
                          refine zald (q0 := 7) (n := 10) (f := be2) Z X rfl rfl (L + 1) rfl (by omega) (by decide) dX1_looks_60 ?_
                          refine zrwi (y := mx32 (lkF bk true n B U bn cx) 16) hv ?_
                          refine lv_istore (lv' := [(5, .int (mx32 (lkF bk true n B U bn cx) 16)), (4, .int (nI (L + 1))), (0, .ref (a 0))]) hx hb dX1_looks_61 hl (by decide) rfl (fun ls hl => ?_)
                          refine lv_iinc (v := nI L) (lv' := [(4, .int (nI L)), (5, .int (mx32 (lkF bk true n B U bn cx) 16)), (0, .ref (a 0))]) hx hb dX1_looks_63 hl (k := 1) rfl (zi_dec L) (by decide) rfl (fun ls hl => ?_)
                          refine lv_iload hx hb dX1_looks_66 (lv_at hl 0 rfl) ?_
                          refine lv_if_lt (tgt := 15) hx hb dX1_looks_68 (by decide) (fun c12 => ?_) (fun c12 => ?_)
                          · have qc12 := c12
                            have c12n : L < 0 := zn_ltt (by omega) (by omega) c12
                            exact absurd c12n (Nat.not_lt_zero _)
                          · have qc12 := c12
                            have c12n : ¬ L < 0 := zn_ltn (by omega) (by omega) c12
                            refine lv_aload_n hx hb dX1_looks_71 rfl (lv_at hl 2 rfl) ?_
                            refine zget (fs := [.int bk, .ref (a 1), .ref (a 2), .int (nI bn), .int hd, .int ph, .int ot, .int wi, .int ik, .ref (a 3), .int th, .ref (a 4), .ref (a 5), .ref (a 6), .ref (a 7), .ref (a 8), .ref (a 9)]) (v := .ref (a 4)) Z hin X (ci := 1) (C := RX1) (T := TX1) (N := 17) rfl rfl 11 (by decide) lk_X1_looks_30 rfl dX1_looks_72 ?_
                            refine lv_iload hx hb dX1_looks_75 (lv_at hl 0 rfl) ?_
                            refine zald (q0 := 4) (n := 10) (f := kd2) Z X rfl rfl L rfl (by omega) (by decide) dX1_looks_77 ?_
                            refine zrwi (y := (0 : Int32)) hk2 ?_
                            refine lv_if_ne (tgt := 87) hx hb dX1_looks_78 (by decide) (fun c13 => ?_) (fun c13 => ?_)
                            · exact absurd c13 (by decide)
                            · have qc13 := c13
                              refine lv_iload hx hb dX1_looks_81 (lv_at hl 1 rfl) ?_
                              refine lv_ineg hx hb dX1_looks_83 ?_
                              refine lv_goto (tgt := 89) hx hb dX1_looks_84 (by decide) ?_
                              refine lv_istore (lv' := [(6, .int (-(mx32 (lkF bk true n B U bn cx) 16))), (4, .int (nI L)), (5, .int (mx32 (lkF bk true n B U bn cx) 16)), (0, .ref (a 0))]) hx hb dX1_looks_89 hl (by decide) rfl (fun ls hl => ?_)
                              refine lv_aload_n hx hb dX1_looks_91 rfl (lv_at hl 3 rfl) ?_
                              refine zget (fs := [.int bk, .ref (a 1), .ref (a 2), .int (nI bn), .int hd, .int ph, .int ot, .int wi, .int ik, .ref (a 3), .int th, .ref (a 4), .ref (a 5), .ref (a 6), .ref (a 7), .ref (a 8), .ref (a 9)]) (v := .ref (a 7)) Z hin X (ci := 1) (C := RX1) (T := TX1) (N := 17) rfl rfl 14 (by decide) lk_X1_looks_39 rfl dX1_looks_92 ?_
                              refine lv_iload hx hb dX1_looks_95 (lv_at hl 1 rfl) ?_
                              refine lv_iload hx hb dX1_looks_97 (lv_at hl 0 rfl) ?_
                              refine lv_aload_n hx hb dX1_looks_99 rfl (lv_at hl 3 rfl) ?_
                              refine zget (fs := [.int bk, .ref (a 1), .ref (a 2), .int (nI bn), .int hd, .int ph, .int ot, .int wi, .int ik, .ref (a 3), .int th, .ref (a 4), .ref (a 5), .ref (a 6), .ref (a 7), .ref (a 8), .ref (a 9)]) (v := .ref (a 7)) Z hin X (ci := 1) (C := RX1) (T := TX1) (N := 17) rfl rfl 14 (by decide) lk_X1_looks_39 rfl dX1_looks_100 ?_
                              refine lv_iload hx hb dX1_looks_103 (lv_at hl 1 rfl) ?_
                              refine zald (q0 := 7) (n := 10) (f := be2) Z X rfl rfl L rfl (by omega) (by decide) dX1_looks_105 ?_
                              refine zrwi (y := mx32 (lkF bk false n B U bn pc2) cx) hb2 ?_
                              refine lv_icmp_le (tgt := 114) hx hb dX1_looks_106 (by decide) (fun c14 => ?_) (fun c14 => ?_)
                              · have qc14 := c14
                                have hmx := mx_le hF c14
                                refine lv_aload_n hx hb dX1_looks_114 rfl (lv_at hl 3 rfl) ?_
                                refine zget (fs := [.int bk, .ref (a 1), .ref (a 2), .int (nI bn), .int hd, .int ph, .int ot, .int wi, .int ik, .ref (a 3), .int th, .ref (a 4), .ref (a 5), .ref (a 6), .ref (a 7), .ref (a 8), .ref (a 9)]) (v := .ref (a 7)) Z hin X (ci := 1) (C := RX1) (T := TX1) (N := 17) rfl rfl 14 (by decide) lk_X1_looks_39 rfl dX1_looks_115 ?_
                                refine lv_iload hx hb dX1_looks_118 (lv_at hl 1 rfl) ?_
                                refine zald (q0 := 7) (n := 10) (f := be2) Z X rfl rfl L rfl (by omega) (by decide) dX1_looks_120 ?_
                                refine zrwi (y := mx32 (lkF bk false n B U bn pc2) cx) hb2 ?_
                                refine zast (q0 := 7) (n := 10) (f := be2) Z X rfl rfl L rfl (by omega) (by decide) dX1_looks_121 (fun H locs X => ?_)
                                have X : zh g A (oM g a (bk, nI bn, hd, ph, ot, wi, ik, th, B, U, K, kd2, lf2, ch2, (upd be2 L (mx32 (lkF bk false n B U bn pc2) cx)), gi2, mr)) s.heap H locs := X
                                refine lv_aload_n hx hb dX1_looks_122 rfl (lv_at hl 3 rfl) ?_
                                refine zget (fs := [.int bk, .ref (a 1), .ref (a 2), .int (nI bn), .int hd, .int ph, .int ot, .int wi, .int ik, .ref (a 3), .int th, .ref (a 4), .ref (a 5), .ref (a 6), .ref (a 7), .ref (a 8), .ref (a 9)]) (v := .ref (a 4)) Z hin X (ci := 1) (C := RX1) (T := TX1) (N := 17) rfl rfl 11 (by decide) lk_X1_looks_30 rfl dX1_looks_123 ?_
                                refine lv_iload hx hb dX1_looks_126 (lv_at hl 1 rfl) ?_
                                refine zald (q0 := 4) (n := 10) (f := kd2) Z X rfl rfl L rfl (by omega) (by decide) dX1_looks_128 ?_
                                refine zrwi (y := (0 : Int32)) hk2 ?_
                                refine lv_iconst (v := (1 : Int32)) hx hb dX1_looks_129 (by decide) ?_
                                refine lv_icmp_ne (tgt := 144) hx hb dX1_looks_130 (by decide) (fun c15 => ?_) (fun c15 => ?_)
                                · have qc15 := c15
                                  refine lv_goto (tgt := 15) hx hb dX1_looks_144 (by decide) ?_
                                  have hkX : kd2 L = (if false = true then 1 else 0) := hk2
                                  have hlX := hl2
                                  have hcX : ch2 L + 1 = nI (cx + 1) := by rw [hc2]; exact nI_1 cx
                                  have hbX : (upd be2 L (mx32 (lkF bk false n B U bn pc2) cx)) L = mx32 (lkF bk false n B U bn pc2) (cx + 1) := by rw [pk_us]; exact hmx.symm
                                  have hokX := hok2
                                  exact ih15 false L n pc2 (cx + 1) bn B U kd2 lf2 ch2 (upd be2 L (mx32 (lkF bk false n B U bn pc2) cx)) gi2 (mx32 (lkF bk true n B U bn cx) 16) (by show L + _ ≤ 8; simp only [lkD]; omega) hn1 (by omega) hokX (by intro q; exact absurd q (by decide)) hkX hlX (by intro q; exact absurd q (by decide)) hcX hbX (fun kd2 lf2 ch2 be2 gi2 told2 g1 g2 => hA kd2 lf2 ch2 be2 gi2 told2 (lag_tr (lag_2 hag) g1) g2) (by simp only [lkD]; omega) H locs ls X (lv_sub hl [1, 2, 3] rfl)
                                · exact absurd c15 (by decide)
                              · have qc14 := c14
                                have hmx := mx_gt hF c14
                                refine lv_iload hx hb dX1_looks_109 (lv_at hl 0 rfl) ?_
                                refine lv_goto (tgt := 121) hx hb dX1_looks_111 (by decide) ?_
                                refine zast (q0 := 7) (n := 10) (f := be2) Z X rfl rfl L rfl (by omega) (by decide) dX1_looks_121 (fun H locs X => ?_)
                                have X : zh g A (oM g a (bk, nI bn, hd, ph, ot, wi, ik, th, B, U, K, kd2, lf2, ch2, (upd be2 L (-(mx32 (lkF bk true n B U bn cx) 16))), gi2, mr)) s.heap H locs := X
                                refine lv_aload_n hx hb dX1_looks_122 rfl (lv_at hl 3 rfl) ?_
                                refine zget (fs := [.int bk, .ref (a 1), .ref (a 2), .int (nI bn), .int hd, .int ph, .int ot, .int wi, .int ik, .ref (a 3), .int th, .ref (a 4), .ref (a 5), .ref (a 6), .ref (a 7), .ref (a 8), .ref (a 9)]) (v := .ref (a 4)) Z hin X (ci := 1) (C := RX1) (T := TX1) (N := 17) rfl rfl 11 (by decide) lk_X1_looks_30 rfl dX1_looks_123 ?_
                                refine lv_iload hx hb dX1_looks_126 (lv_at hl 1 rfl) ?_
                                refine zald (q0 := 4) (n := 10) (f := kd2) Z X rfl rfl L rfl (by omega) (by decide) dX1_looks_128 ?_
                                refine zrwi (y := (0 : Int32)) hk2 ?_
                                refine lv_iconst (v := (1 : Int32)) hx hb dX1_looks_129 (by decide) ?_
                                refine lv_icmp_ne (tgt := 144) hx hb dX1_looks_130 (by decide) (fun c16 => ?_) (fun c16 => ?_)
                                · have qc16 := c16
                                  refine lv_goto (tgt := 15) hx hb dX1_looks_144 (by decide) ?_
                                  have hkX : kd2 L = (if false = true then 1 else 0) := hk2
                                  have hlX := hl2
                                  have hcX : ch2 L + 1 = nI (cx + 1) := by rw [hc2]; exact nI_1 cx
                                  have hbX : (upd be2 L (-(mx32 (lkF bk true n B U bn cx) 16))) L = mx32 (lkF bk false n B U bn pc2) (cx + 1) := by rw [pk_us]; exact hmx.symm
                                  have hokX := hok2
                                  exact ih15 false L n pc2 (cx + 1) bn B U kd2 lf2 ch2 (upd be2 L (-(mx32 (lkF bk true n B U bn cx) 16))) gi2 (mx32 (lkF bk true n B U bn cx) 16) (by show L + _ ≤ 8; simp only [lkD]; omega) hn1 (by omega) hokX (by intro q; exact absurd q (by decide)) hkX hlX (by intro q; exact absurd q (by decide)) hcX hbX (fun kd2 lf2 ch2 be2 gi2 told2 g1 g2 => hA kd2 lf2 ch2 be2 gi2 told2 (lag_tr (lag_2 hag) g1) g2) (by simp only [lkD]; omega) H locs ls X (lv_sub hl [1, 2, 3] rfl)
                                · exact absurd c16 (by decide)
                · exact absurd c6 (by decide)
              ·
                have hF : (lkF bk false n B U bn pc2) cx = -2 := if_neg hO
                refine lv_aload_n hx hb dX1_looks_147 rfl (lv_at hl 2 rfl) ?_
                refine lv_iload hx hb dX1_looks_148 (lv_at hl 0 rfl) ?_
                refine zcallVi (n := 1) (As := [.int (nI L)]) (rest := []) (ci := 1) (C := RX1) (T := TX1) (N := 17) Z X (c_X1_tries_Gm l g a bk bn hd ph ot wi ik th B U K kd1 lf1 (upd ch1 L (nI cx)) be1 gi1 mr L cx 0 n (by omega) (by omega) (by omega) (by have := hok2.1; omega) pk_us hk0 hO) gX1_looks_X1_tries rfl (by decide +kernel) ⟨Nat.le_of_ble_eq_true rfl, Nat.le_of_ble_eq_true rfl⟩ rfl rfl rfl rfl hl.1 (Nat.le_of_ble_eq_true rfl) dX1_looks_150 ⟨Nat.zero_le _, Nat.zero_le _⟩ (fun r16 ur16 H locs hrr16 X => ?_)
                obtain ⟨rfl, rfl⟩ : ur16 = (bk, nI bn, hd, ph, ot, wi, ik, th, B, U, K, kd1, lf1, (upd ch1 L (nI cx)), be1, gi1, mr) ∧ r16 = (-2 : Int32) := hrr16
                have X : zh g A (oM g a (bk, nI bn, hd, ph, ot, wi, ik, th, B, U, K, kd1, lf1, (upd ch1 L (nI cx)), be1, gi1, mr)) s.heap H locs := X
                refine lv_istore (lv' := [(6, .int (-2 : Int32)), (4, .int (nI L)), (5, .int told), (0, .ref (a 0))]) hx hb dX1_looks_153 hl (by decide) rfl (fun ls hl => ?_)
                refine lv_aload_n hx hb dX1_looks_155 rfl (lv_at hl 3 rfl) ?_
                refine zget (fs := [.int bk, .ref (a 1), .ref (a 2), .int (nI bn), .int hd, .int ph, .int ot, .int wi, .int ik, .ref (a 3), .int th, .ref (a 4), .ref (a 5), .ref (a 6), .ref (a 7), .ref (a 8), .ref (a 9)]) (v := .ref (a 7)) Z hin X (ci := 1) (C := RX1) (T := TX1) (N := 17) rfl rfl 14 (by decide) lk_X1_looks_39 rfl dX1_looks_156 ?_
                refine lv_iload hx hb dX1_looks_159 (lv_at hl 1 rfl) ?_
                refine lv_iload hx hb dX1_looks_161 (lv_at hl 0 rfl) ?_
                refine lv_iconst (v := (2 : Int32)) hx hb dX1_looks_163 (by decide) ?_
                refine lv_icmp_ge (tgt := 184) hx hb dX1_looks_164 (by decide) (fun c18 => ?_) (fun c18 => ?_)
                · exact absurd c18 (by decide)
                · have qc18 := c18
                  refine lv_iload hx hb dX1_looks_167 (lv_at hl 0 rfl) ?_
                  refine lv_aload_n hx hb dX1_looks_169 rfl (lv_at hl 3 rfl) ?_
                  refine zget (fs := [.int bk, .ref (a 1), .ref (a 2), .int (nI bn), .int hd, .int ph, .int ot, .int wi, .int ik, .ref (a 3), .int th, .ref (a 4), .ref (a 5), .ref (a 6), .ref (a 7), .ref (a 8), .ref (a 9)]) (v := .ref (a 7)) Z hin X (ci := 1) (C := RX1) (T := TX1) (N := 17) rfl rfl 14 (by decide) lk_X1_looks_39 rfl dX1_looks_170 ?_
                  refine lv_iload hx hb dX1_looks_173 (lv_at hl 1 rfl) ?_
                  refine zald (q0 := 7) (n := 10) (f := be1) Z X rfl rfl L rfl (by omega) (by decide) dX1_looks_175 ?_
                  refine zrwi (y := mx32 (lkF bk false n B U bn pc2) cx) hbe ?_
                  refine lv_icmp_le (tgt := 184) hx hb dX1_looks_176 (by decide) (fun c19 => ?_) (fun c19 => ?_)
                  · have qc19 := c19
                    have hmx := mx_le hF c19
                    refine lv_aload_n hx hb dX1_looks_184 rfl (lv_at hl 3 rfl) ?_
                    refine zget (fs := [.int bk, .ref (a 1), .ref (a 2), .int (nI bn), .int hd, .int ph, .int ot, .int wi, .int ik, .ref (a 3), .int th, .ref (a 4), .ref (a 5), .ref (a 6), .ref (a 7), .ref (a 8), .ref (a 9)]) (v := .ref (a 7)) Z hin X (ci := 1) (C := RX1) (T := TX1) (N := 17) rfl rfl 14 (by decide) lk_X1_looks_39 rfl dX1_looks_185 ?_
                    refine lv_iload hx hb dX1_looks_188 (lv_at hl 1 rfl) ?_
                    refine zald (q0 := 7) (n := 10) (f := be1) Z X rfl rfl L rfl (by omega) (by decide) dX1_looks_190 ?_
                    refine zrwi (y := mx32 (lkF bk false n B U bn pc2) cx) hbe ?_
                    refine zast (q0 := 7) (n := 10) (f := be1) Z X rfl rfl L rfl (by omega) (by decide) dX1_looks_191 (fun H locs X => ?_)
                    have X : zh g A (oM g a (bk, nI bn, hd, ph, ot, wi, ik, th, B, U, K, kd1, lf1, (upd ch1 L (nI cx)), (upd be1 L (mx32 (lkF bk false n B U bn pc2) cx)), gi1, mr)) s.heap H locs := X
                    refine lv_iload hx hb dX1_looks_192 (lv_at hl 0 rfl) ?_
                    refine lv_iconst (v := (2 : Int32)) hx hb dX1_looks_194 (by decide) ?_
                    refine lv_icmp_ne (tgt := 267) hx hb dX1_looks_195 (by decide) (fun c20 => ?_) (fun c20 => ?_)
                    · have qc20 := c20
                      refine lv_goto (tgt := 15) hx hb dX1_looks_267 (by decide) ?_
                      have hkX : kd1 L = (if false = true then 1 else 0) := hk0
                      have hlX : lf1 L = nI n := hlf
                      have hcX : (upd ch1 L (nI cx)) L + 1 = nI (cx + 1) := by rw [pk_us]; exact nI_1 cx
                      have hbX : (upd be1 L (mx32 (lkF bk false n B U bn pc2) cx)) L = mx32 (lkF bk false n B U bn pc2) (cx + 1) := by rw [pk_us]; exact hmx.symm
                      have hokX := hok2
                      exact ih15 false L n pc2 (cx + 1) bn B U kd1 lf1 (upd ch1 L (nI cx)) (upd be1 L (mx32 (lkF bk false n B U bn pc2) cx)) gi1 told (by show L + _ ≤ 8; simp only [lkD]; omega) hn1 (by omega) hokX (by intro q; exact absurd q (by decide)) hkX hlX (by intro q; exact absurd q (by decide)) hcX hbX (fun kd2 lf2 ch2 be2 gi2 told2 g1 g2 => hA kd2 lf2 ch2 be2 gi2 told2 (lag_tr lag_1 g1) g2) (by simp only [lkD]; omega) H locs ls X (lv_sub hl [1, 2, 3] rfl)
                    · exact absurd c20 (by decide)
                  · have qc19 := c19
                    have hmx := mx_gt hF c19
                    refine lv_iload hx hb dX1_looks_179 (lv_at hl 0 rfl) ?_
                    refine lv_goto (tgt := 191) hx hb dX1_looks_181 (by decide) ?_
                    refine zast (q0 := 7) (n := 10) (f := be1) Z X rfl rfl L rfl (by omega) (by decide) dX1_looks_191 (fun H locs X => ?_)
                    have X : zh g A (oM g a (bk, nI bn, hd, ph, ot, wi, ik, th, B, U, K, kd1, lf1, (upd ch1 L (nI cx)), (upd be1 L (-2 : Int32)), gi1, mr)) s.heap H locs := X
                    refine lv_iload hx hb dX1_looks_192 (lv_at hl 0 rfl) ?_
                    refine lv_iconst (v := (2 : Int32)) hx hb dX1_looks_194 (by decide) ?_
                    refine lv_icmp_ne (tgt := 267) hx hb dX1_looks_195 (by decide) (fun c21 => ?_) (fun c21 => ?_)
                    · have qc21 := c21
                      refine lv_goto (tgt := 15) hx hb dX1_looks_267 (by decide) ?_
                      have hkX : kd1 L = (if false = true then 1 else 0) := hk0
                      have hlX : lf1 L = nI n := hlf
                      have hcX : (upd ch1 L (nI cx)) L + 1 = nI (cx + 1) := by rw [pk_us]; exact nI_1 cx
                      have hbX : (upd be1 L (-2 : Int32)) L = mx32 (lkF bk false n B U bn pc2) (cx + 1) := by rw [pk_us]; exact hmx.symm
                      have hokX := hok2
                      exact ih15 false L n pc2 (cx + 1) bn B U kd1 lf1 (upd ch1 L (nI cx)) (upd be1 L (-2 : Int32)) gi1 told (by show L + _ ≤ 8; simp only [lkD]; omega) hn1 (by omega) hokX (by intro q; exact absurd q (by decide)) hkX hlX (by intro q; exact absurd q (by decide)) hcX hbX (fun kd2 lf2 ch2 be2 gi2 told2 g1 g2 => hA kd2 lf2 ch2 be2 gi2 told2 (lag_tr lag_1 g1) g2) (by simp only [lkD]; omega) H locs ls X (lv_sub hl [1, 2, 3] rfl)
                    · exact absurd c21 (by decide)
            · have qc4 := c4
              have hb1 := c4
              have hend : be1 L = mx32 (lkF bk false n B U bn pc2) 16 := hbe.trans (mx_end (lk_le bk (kp := false) hok2 (by intro q; exact absurd q (by decide))) hc (by first | exact Or.inl hc16 | exact Or.inr hb1))
              exact hA kd1 lf1 (upd ch1 L (nI cx)) be1 gi1 told lag_0 hend H locs ls X (lv_sub hl [0, 1, 2] rfl)
        | true =>
          have hD : lkD true n = 2 * n - 1 := rfl
          rw [hD] at hL hm15
          have hk0 : kd1 L = 1 := hkd
          obtain ⟨hp1, hp2⟩ := hp rfl
          have hg0 : gi1 L = nI pc2 := hgi rfl
          refine lv_aload_n hx hb dX1_looks_20 rfl (lv_at hl 2 rfl) ?_
          refine zget (fs := [.int bk, .ref (a 1), .ref (a 2), .int (nI bn), .int hd, .int ph, .int ot, .int wi, .int ik, .ref (a 3), .int th, .ref (a 4), .ref (a 5), .ref (a 6), .ref (a 7), .ref (a 8), .ref (a 9)]) (v := .ref (a 6)) Z hin X (ci := 1) (C := RX1) (T := TX1) (N := 17) rfl rfl 13 (by decide) lk_X1_looks_36 rfl dX1_looks_21 ?_
          refine lv_iload hx hb dX1_looks_24 (lv_at hl 0 rfl) ?_
          refine lv_dup2_11 hx hb dX1_looks_26 rfl rfl ?_
          refine zald (q0 := 6) (n := 10) (f := ch1) Z X rfl rfl L rfl (by omega) (by decide) dX1_looks_27 ?_
          refine lv_iconst (v := (1 : Int32)) hx hb dX1_looks_28 (by decide) ?_
          refine lv_iadd hx hb dX1_looks_29 ?_
          refine zrwi (y := nI cx) (hch) ?_
          refine zast (q0 := 6) (n := 10) (f := ch1) Z X rfl rfl L rfl (by omega) (by decide) dX1_looks_30 (fun H locs X => ?_)
          have X : zh g A (oM g a (bk, nI bn, hd, ph, ot, wi, ik, th, B, U, K, kd1, lf1, (upd ch1 L (nI cx)), be1, gi1, mr)) s.heap H locs := X
          refine lv_aload_n hx hb dX1_looks_31 rfl (lv_at hl 2 rfl) ?_
          refine zget (fs := [.int bk, .ref (a 1), .ref (a 2), .int (nI bn), .int hd, .int ph, .int ot, .int wi, .int ik, .ref (a 3), .int th, .ref (a 4), .ref (a 5), .ref (a 6), .ref (a 7), .ref (a 8), .ref (a 9)]) (v := .ref (a 6)) Z hin X (ci := 1) (C := RX1) (T := TX1) (N := 17) rfl rfl 13 (by decide) lk_X1_looks_36 rfl dX1_looks_32 ?_
          refine lv_iload hx hb dX1_looks_35 (lv_at hl 0 rfl) ?_
          refine zald (q0 := 6) (n := 10) (f := (upd ch1 L (nI cx))) Z X rfl rfl L rfl (by omega) (by decide) dX1_looks_37 ?_
          refine zrwi (y := nI cx) pk_us ?_
          refine lv_bipush (v := nI 16) hx hb dX1_looks_38 (by decide) ?_
          refine lv_icmp_eq (tgt := 54) hx hb dX1_looks_40 (by decide) (fun c22 => ?_) (fun c22 => ?_)
          · have qc22 := c22
            have c22n : cx = 16 := zn_eqt (by omega) (by omega) c22
            have hc16 : cx = 16 := c22n
            have hend : be1 L = mx32 (lkF bk true n B U bn pc2) 16 := hbe.trans (mx_end (lk_le bk (kp := true) hok2 hp) hc (by first | exact Or.inl hc16 | exact Or.inr hb1))
            exact hA kd1 lf1 (upd ch1 L (nI cx)) be1 gi1 told lag_0 hend H locs ls X (lv_sub hl [0, 1, 2] rfl)
          · have qc22 := c22
            have c22n : ¬ cx = 16 := zn_eqn (by omega) (by omega) c22
            have hc16 : ¬ cx = 16 := c22n
            refine lv_aload_n hx hb dX1_looks_43 rfl (lv_at hl 2 rfl) ?_
            refine zget (fs := [.int bk, .ref (a 1), .ref (a 2), .int (nI bn), .int hd, .int ph, .int ot, .int wi, .int ik, .ref (a 3), .int th, .ref (a 4), .ref (a 5), .ref (a 6), .ref (a 7), .ref (a 8), .ref (a 9)]) (v := .ref (a 7)) Z hin X (ci := 1) (C := RX1) (T := TX1) (N := 17) rfl rfl 14 (by decide) lk_X1_looks_39 rfl dX1_looks_44 ?_
            refine lv_iload hx hb dX1_looks_47 (lv_at hl 0 rfl) ?_
            refine zald (q0 := 7) (n := 10) (f := be1) Z X rfl rfl L rfl (by omega) (by decide) dX1_looks_49 ?_
            refine zrwi (y := mx32 (lkF bk true n B U bn pc2) cx) hbe ?_
            refine lv_iconst (v := (1 : Int32)) hx hb dX1_looks_50 (by decide) ?_
            refine lv_icmp_ne (tgt := 147) hx hb dX1_looks_51 (by decide) (fun c23 => ?_) (fun c23 => ?_)
            · have qc23 := c23
              by_cases hm : B cx = -1
              ·
                skip
                by_cases hw : 0 < mWon bk (upd B cx (nI pc2)) cx
                ·
                  have hF : (lkF bk true n B U bn pc2) cx = 1 := (if_pos hm).trans (if_pos hw)
                  refine lv_aload_n hx hb dX1_looks_147 rfl (lv_at hl 2 rfl) ?_
                  refine lv_iload hx hb dX1_looks_148 (lv_at hl 0 rfl) ?_
                  refine zcallVi (n := 1) (As := [.int (nI L)]) (rest := []) (ci := 1) (C := RX1) (T := TX1) (N := 17) Z X (c_X1_tries_P1 l g a bk bn hd ph ot wi ik th B U K kd1 lf1 (upd ch1 L (nI cx)) be1 gi1 mr L cx pc2 n (by omega) (by omega) hp1 (by have := hok2.1; omega) pk_us hk0 hm hg0 hp2 hlf (by omega) hw) gX1_looks_X1_tries rfl (by decide +kernel) ⟨Nat.le_of_ble_eq_true rfl, Nat.le_of_ble_eq_true rfl⟩ rfl rfl rfl rfl hl.1 (Nat.le_of_ble_eq_true rfl) dX1_looks_150 ⟨Nat.zero_le _, Nat.zero_le _⟩ (fun r23 ur23 H locs hrr23 X => ?_)
                  obtain ⟨rfl, rfl⟩ : ur23 = (bk, nI bn, hd, ph, ot, wi, ik, th, B, U, K, kd1, lf1, (upd ch1 L (nI cx)), be1, gi1, mr) ∧ r23 = (1 : Int32) := hrr23
                  have X : zh g A (oM g a (bk, nI bn, hd, ph, ot, wi, ik, th, B, U, K, kd1, lf1, (upd ch1 L (nI cx)), be1, gi1, mr)) s.heap H locs := X
                  refine lv_istore (lv' := [(6, .int (1 : Int32)), (4, .int (nI L)), (5, .int told), (0, .ref (a 0))]) hx hb dX1_looks_153 hl (by decide) rfl (fun ls hl => ?_)
                  refine lv_aload_n hx hb dX1_looks_155 rfl (lv_at hl 3 rfl) ?_
                  refine zget (fs := [.int bk, .ref (a 1), .ref (a 2), .int (nI bn), .int hd, .int ph, .int ot, .int wi, .int ik, .ref (a 3), .int th, .ref (a 4), .ref (a 5), .ref (a 6), .ref (a 7), .ref (a 8), .ref (a 9)]) (v := .ref (a 7)) Z hin X (ci := 1) (C := RX1) (T := TX1) (N := 17) rfl rfl 14 (by decide) lk_X1_looks_39 rfl dX1_looks_156 ?_
                  refine lv_iload hx hb dX1_looks_159 (lv_at hl 1 rfl) ?_
                  refine lv_iload hx hb dX1_looks_161 (lv_at hl 0 rfl) ?_
                  refine lv_iconst (v := (2 : Int32)) hx hb dX1_looks_163 (by decide) ?_
                  refine lv_icmp_ge (tgt := 184) hx hb dX1_looks_164 (by decide) (fun c25 => ?_) (fun c25 => ?_)
                  · exact absurd c25 (by decide)
                  · have qc25 := c25
                    refine lv_iload hx hb dX1_looks_167 (lv_at hl 0 rfl) ?_
                    refine lv_aload_n hx hb dX1_looks_169 rfl (lv_at hl 3 rfl) ?_
                    refine zget (fs := [.int bk, .ref (a 1), .ref (a 2), .int (nI bn), .int hd, .int ph, .int ot, .int wi, .int ik, .ref (a 3), .int th, .ref (a 4), .ref (a 5), .ref (a 6), .ref (a 7), .ref (a 8), .ref (a 9)]) (v := .ref (a 7)) Z hin X (ci := 1) (C := RX1) (T := TX1) (N := 17) rfl rfl 14 (by decide) lk_X1_looks_39 rfl dX1_looks_170 ?_
                    refine lv_iload hx hb dX1_looks_173 (lv_at hl 1 rfl) ?_
                    refine zald (q0 := 7) (n := 10) (f := be1) Z X rfl rfl L rfl (by omega) (by decide) dX1_looks_175 ?_
                    refine zrwi (y := mx32 (lkF bk true n B U bn pc2) cx) hbe ?_
                    refine lv_icmp_le (tgt := 184) hx hb dX1_looks_176 (by decide) (fun c26 => ?_) (fun c26 => ?_)
                    · have qc26 := c26
                      have hmx := mx_le hF c26
                      refine lv_aload_n hx hb dX1_looks_184 rfl (lv_at hl 3 rfl) ?_
                      refine zget (fs := [.int bk, .ref (a 1), .ref (a 2), .int (nI bn), .int hd, .int ph, .int ot, .int wi, .int ik, .ref (a 3), .int th, .ref (a 4), .ref (a 5), .ref (a 6), .ref (a 7), .ref (a 8), .ref (a 9)]) (v := .ref (a 7)) Z hin X (ci := 1) (C := RX1) (T := TX1) (N := 17) rfl rfl 14 (by decide) lk_X1_looks_39 rfl dX1_looks_185 ?_
                      refine lv_iload hx hb dX1_looks_188 (lv_at hl 1 rfl) ?_
                      refine zald (q0 := 7) (n := 10) (f := be1) Z X rfl rfl L rfl (by omega) (by decide) dX1_looks_190 ?_
                      refine zrwi (y := mx32 (lkF bk true n B U bn pc2) cx) hbe ?_
                      refine zast (q0 := 7) (n := 10) (f := be1) Z X rfl rfl L rfl (by omega) (by decide) dX1_looks_191 (fun H locs X => ?_)
                      have X : zh g A (oM g a (bk, nI bn, hd, ph, ot, wi, ik, th, B, U, K, kd1, lf1, (upd ch1 L (nI cx)), (upd be1 L (mx32 (lkF bk true n B U bn pc2) cx)), gi1, mr)) s.heap H locs := X
                      refine lv_iload hx hb dX1_looks_192 (lv_at hl 0 rfl) ?_
                      refine lv_iconst (v := (2 : Int32)) hx hb dX1_looks_194 (by decide) ?_
                      refine lv_icmp_ne (tgt := 267) hx hb dX1_looks_195 (by decide) (fun c27 => ?_) (fun c27 => ?_)
                      · have qc27 := c27
                        refine lv_goto (tgt := 15) hx hb dX1_looks_267 (by decide) ?_
                        have hkX : kd1 L = (if true = true then 1 else 0) := hk0
                        have hlX : lf1 L = nI n := hlf
                        have hgX : gi1 L = nI pc2 := hg0
                        have hcX : (upd ch1 L (nI cx)) L + 1 = nI (cx + 1) := by rw [pk_us]; exact nI_1 cx
                        have hbX : (upd be1 L (mx32 (lkF bk true n B U bn pc2) cx)) L = mx32 (lkF bk true n B U bn pc2) (cx + 1) := by rw [pk_us]; exact hmx.symm
                        have hokX := hok2
                        exact ih15 true L n pc2 (cx + 1) bn B U kd1 lf1 (upd ch1 L (nI cx)) (upd be1 L (mx32 (lkF bk true n B U bn pc2) cx)) gi1 told (by show L + _ ≤ 8; simp only [lkD]; omega) hn1 (by omega) hokX (fun _ => ⟨hp1, hp2⟩) hkX hlX (fun _ => hgX) hcX hbX (fun kd2 lf2 ch2 be2 gi2 told2 g1 g2 => hA kd2 lf2 ch2 be2 gi2 told2 (lag_tr lag_1 g1) g2) (by simp only [lkD]; omega) H locs ls X (lv_sub hl [1, 2, 3] rfl)
                      · exact absurd c27 (by decide)
                    · have qc26 := c26
                      have hmx := mx_gt hF c26
                      refine lv_iload hx hb dX1_looks_179 (lv_at hl 0 rfl) ?_
                      refine lv_goto (tgt := 191) hx hb dX1_looks_181 (by decide) ?_
                      refine zast (q0 := 7) (n := 10) (f := be1) Z X rfl rfl L rfl (by omega) (by decide) dX1_looks_191 (fun H locs X => ?_)
                      have X : zh g A (oM g a (bk, nI bn, hd, ph, ot, wi, ik, th, B, U, K, kd1, lf1, (upd ch1 L (nI cx)), (upd be1 L (1 : Int32)), gi1, mr)) s.heap H locs := X
                      refine lv_iload hx hb dX1_looks_192 (lv_at hl 0 rfl) ?_
                      refine lv_iconst (v := (2 : Int32)) hx hb dX1_looks_194 (by decide) ?_
                      refine lv_icmp_ne (tgt := 267) hx hb dX1_looks_195 (by decide) (fun c28 => ?_) (fun c28 => ?_)
                      · have qc28 := c28
                        refine lv_goto (tgt := 15) hx hb dX1_looks_267 (by decide) ?_
                        have hkX : kd1 L = (if true = true then 1 else 0) := hk0
                        have hlX : lf1 L = nI n := hlf
                        have hgX : gi1 L = nI pc2 := hg0
                        have hcX : (upd ch1 L (nI cx)) L + 1 = nI (cx + 1) := by rw [pk_us]; exact nI_1 cx
                        have hbX : (upd be1 L (1 : Int32)) L = mx32 (lkF bk true n B U bn pc2) (cx + 1) := by rw [pk_us]; exact hmx.symm
                        have hokX := hok2
                        exact ih15 true L n pc2 (cx + 1) bn B U kd1 lf1 (upd ch1 L (nI cx)) (upd be1 L (1 : Int32)) gi1 told (by show L + _ ≤ 8; simp only [lkD]; omega) hn1 (by omega) hokX (fun _ => ⟨hp1, hp2⟩) hkX hlX (fun _ => hgX) hcX hbX (fun kd2 lf2 ch2 be2 gi2 told2 g1 g2 => hA kd2 lf2 ch2 be2 gi2 told2 (lag_tr lag_1 g1) g2) (by simp only [lkD]; omega) H locs ls X (lv_sub hl [1, 2, 3] rfl)
                      · exact absurd c28 (by decide)
                ·
                  skip
                  by_cases hz : bn + 1 = 16 ∨ n = 1
                  ·
                    have hF : (lkF bk true n B U bn pc2) cx = 0 := (if_pos hm).trans ((if_neg hw).trans (if_pos hz))
                    refine lv_aload_n hx hb dX1_looks_147 rfl (lv_at hl 2 rfl) ?_
                    refine lv_iload hx hb dX1_looks_148 (lv_at hl 0 rfl) ?_
                    refine zcallVi (n := 1) (As := [.int (nI L)]) (rest := []) (ci := 1) (C := RX1) (T := TX1) (N := 17) Z X (c_X1_tries_P0 l g a bk bn hd ph ot wi ik th B U K kd1 lf1 (upd ch1 L (nI cx)) be1 gi1 mr L cx pc2 n (by omega) (by omega) hp1 (by have := hok2.1; omega) pk_us hk0 hm hg0 hp2 hlf (by omega) hw hz) gX1_looks_X1_tries rfl (by decide +kernel) ⟨Nat.le_of_ble_eq_true rfl, Nat.le_of_ble_eq_true rfl⟩ rfl rfl rfl rfl hl.1 (Nat.le_of_ble_eq_true rfl) dX1_looks_150 ⟨Nat.zero_le _, Nat.zero_le _⟩ (fun r28 ur28 H locs hrr28 X => ?_)
                    obtain ⟨rfl, rfl⟩ : ur28 = (bk, nI bn, hd, ph, ot, wi, ik, th, B, U, K, kd1, lf1, (upd ch1 L (nI cx)), be1, gi1, mr) ∧ r28 = (0 : Int32) := hrr28
                    have X : zh g A (oM g a (bk, nI bn, hd, ph, ot, wi, ik, th, B, U, K, kd1, lf1, (upd ch1 L (nI cx)), be1, gi1, mr)) s.heap H locs := X
                    refine lv_istore (lv' := [(6, .int (0 : Int32)), (4, .int (nI L)), (5, .int told), (0, .ref (a 0))]) hx hb dX1_looks_153 hl (by decide) rfl (fun ls hl => ?_)
                    refine lv_aload_n hx hb dX1_looks_155 rfl (lv_at hl 3 rfl) ?_
                    refine zget (fs := [.int bk, .ref (a 1), .ref (a 2), .int (nI bn), .int hd, .int ph, .int ot, .int wi, .int ik, .ref (a 3), .int th, .ref (a 4), .ref (a 5), .ref (a 6), .ref (a 7), .ref (a 8), .ref (a 9)]) (v := .ref (a 7)) Z hin X (ci := 1) (C := RX1) (T := TX1) (N := 17) rfl rfl 14 (by decide) lk_X1_looks_39 rfl dX1_looks_156 ?_
                    refine lv_iload hx hb dX1_looks_159 (lv_at hl 1 rfl) ?_
                    refine lv_iload hx hb dX1_looks_161 (lv_at hl 0 rfl) ?_
                    refine lv_iconst (v := (2 : Int32)) hx hb dX1_looks_163 (by decide) ?_
                    refine lv_icmp_ge (tgt := 184) hx hb dX1_looks_164 (by decide) (fun c30 => ?_) (fun c30 => ?_)
                    · exact absurd c30 (by decide)
                    · have qc30 := c30
                      refine lv_iload hx hb dX1_looks_167 (lv_at hl 0 rfl) ?_
                      refine lv_aload_n hx hb dX1_looks_169 rfl (lv_at hl 3 rfl) ?_
                      refine zget (fs := [.int bk, .ref (a 1), .ref (a 2), .int (nI bn), .int hd, .int ph, .int ot, .int wi, .int ik, .ref (a 3), .int th, .ref (a 4), .ref (a 5), .ref (a 6), .ref (a 7), .ref (a 8), .ref (a 9)]) (v := .ref (a 7)) Z hin X (ci := 1) (C := RX1) (T := TX1) (N := 17) rfl rfl 14 (by decide) lk_X1_looks_39 rfl dX1_looks_170 ?_
                      refine lv_iload hx hb dX1_looks_173 (lv_at hl 1 rfl) ?_
                      refine zald (q0 := 7) (n := 10) (f := be1) Z X rfl rfl L rfl (by omega) (by decide) dX1_looks_175 ?_
                      refine zrwi (y := mx32 (lkF bk true n B U bn pc2) cx) hbe ?_
                      refine lv_icmp_le (tgt := 184) hx hb dX1_looks_176 (by decide) (fun c31 => ?_) (fun c31 => ?_)
                      · have qc31 := c31
                        have hmx := mx_le hF c31
                        refine lv_aload_n hx hb dX1_looks_184 rfl (lv_at hl 3 rfl) ?_
                        refine zget (fs := [.int bk, .ref (a 1), .ref (a 2), .int (nI bn), .int hd, .int ph, .int ot, .int wi, .int ik, .ref (a 3), .int th, .ref (a 4), .ref (a 5), .ref (a 6), .ref (a 7), .ref (a 8), .ref (a 9)]) (v := .ref (a 7)) Z hin X (ci := 1) (C := RX1) (T := TX1) (N := 17) rfl rfl 14 (by decide) lk_X1_looks_39 rfl dX1_looks_185 ?_
                        refine lv_iload hx hb dX1_looks_188 (lv_at hl 1 rfl) ?_
                        refine zald (q0 := 7) (n := 10) (f := be1) Z X rfl rfl L rfl (by omega) (by decide) dX1_looks_190 ?_
                        refine zrwi (y := mx32 (lkF bk true n B U bn pc2) cx) hbe ?_
                        refine zast (q0 := 7) (n := 10) (f := be1) Z X rfl rfl L rfl (by omega) (by decide) dX1_looks_191 (fun H locs X => ?_)
                        have X : zh g A (oM g a (bk, nI bn, hd, ph, ot, wi, ik, th, B, U, K, kd1, lf1, (upd ch1 L (nI cx)), (upd be1 L (mx32 (lkF bk true n B U bn pc2) cx)), gi1, mr)) s.heap H locs := X
                        refine lv_iload hx hb dX1_looks_192 (lv_at hl 0 rfl) ?_
                        refine lv_iconst (v := (2 : Int32)) hx hb dX1_looks_194 (by decide) ?_
                        refine lv_icmp_ne (tgt := 267) hx hb dX1_looks_195 (by decide) (fun c32 => ?_) (fun c32 => ?_)
                        · have qc32 := c32
                          refine lv_goto (tgt := 15) hx hb dX1_looks_267 (by decide) ?_
                          have hkX : kd1 L = (if true = true then 1 else 0) := hk0
                          have hlX : lf1 L = nI n := hlf
                          have hgX : gi1 L = nI pc2 := hg0
                          have hcX : (upd ch1 L (nI cx)) L + 1 = nI (cx + 1) := by rw [pk_us]; exact nI_1 cx
                          have hbX : (upd be1 L (mx32 (lkF bk true n B U bn pc2) cx)) L = mx32 (lkF bk true n B U bn pc2) (cx + 1) := by rw [pk_us]; exact hmx.symm
                          have hokX := hok2
                          exact ih15 true L n pc2 (cx + 1) bn B U kd1 lf1 (upd ch1 L (nI cx)) (upd be1 L (mx32 (lkF bk true n B U bn pc2) cx)) gi1 told (by show L + _ ≤ 8; simp only [lkD]; omega) hn1 (by omega) hokX (fun _ => ⟨hp1, hp2⟩) hkX hlX (fun _ => hgX) hcX hbX (fun kd2 lf2 ch2 be2 gi2 told2 g1 g2 => hA kd2 lf2 ch2 be2 gi2 told2 (lag_tr lag_1 g1) g2) (by simp only [lkD]; omega) H locs ls X (lv_sub hl [1, 2, 3] rfl)
                        · exact absurd c32 (by decide)
                      · have qc31 := c31
                        have hmx := mx_gt hF c31
                        refine lv_iload hx hb dX1_looks_179 (lv_at hl 0 rfl) ?_
                        refine lv_goto (tgt := 191) hx hb dX1_looks_181 (by decide) ?_
                        refine zast (q0 := 7) (n := 10) (f := be1) Z X rfl rfl L rfl (by omega) (by decide) dX1_looks_191 (fun H locs X => ?_)
                        have X : zh g A (oM g a (bk, nI bn, hd, ph, ot, wi, ik, th, B, U, K, kd1, lf1, (upd ch1 L (nI cx)), (upd be1 L (0 : Int32)), gi1, mr)) s.heap H locs := X
                        refine lv_iload hx hb dX1_looks_192 (lv_at hl 0 rfl) ?_
                        refine lv_iconst (v := (2 : Int32)) hx hb dX1_looks_194 (by decide) ?_
                        refine lv_icmp_ne (tgt := 267) hx hb dX1_looks_195 (by decide) (fun c33 => ?_) (fun c33 => ?_)
                        · have qc33 := c33
                          refine lv_goto (tgt := 15) hx hb dX1_looks_267 (by decide) ?_
                          have hkX : kd1 L = (if true = true then 1 else 0) := hk0
                          have hlX : lf1 L = nI n := hlf
                          have hgX : gi1 L = nI pc2 := hg0
                          have hcX : (upd ch1 L (nI cx)) L + 1 = nI (cx + 1) := by rw [pk_us]; exact nI_1 cx
                          have hbX : (upd be1 L (0 : Int32)) L = mx32 (lkF bk true n B U bn pc2) (cx + 1) := by rw [pk_us]; exact hmx.symm
                          have hokX := hok2
                          exact ih15 true L n pc2 (cx + 1) bn B U kd1 lf1 (upd ch1 L (nI cx)) (upd be1 L (0 : Int32)) gi1 told (by show L + _ ≤ 8; simp only [lkD]; omega) hn1 (by omega) hokX (fun _ => ⟨hp1, hp2⟩) hkX hlX (fun _ => hgX) hcX hbX (fun kd2 lf2 ch2 be2 gi2 told2 g1 g2 => hA kd2 lf2 ch2 be2 gi2 told2 (lag_tr lag_1 g1) g2) (by simp only [lkD]; omega) H locs ls X (lv_sub hl [1, 2, 3] rfl)
                        · exact absurd c33 (by decide)
                  ·
                    have hokP := okM_put hok2 (by omega) hp1 hm hp2 (fun q => hz (Or.inl q))
                    refine lv_aload_n hx hb dX1_looks_147 rfl (lv_at hl 2 rfl) ?_
                    refine lv_iload hx hb dX1_looks_148 (lv_at hl 0 rfl) ?_
                    refine zcallVi (n := 1) (As := [.int (nI L)]) (rest := []) (ci := 1) (C := RX1) (T := TX1) (N := 17) Z X (c_X1_tries_P2 l g a bk bn hd ph ot wi ik th B U K kd1 lf1 (upd ch1 L (nI cx)) be1 gi1 mr L cx pc2 n (by omega) (by omega) hp1 (by have := hok2.1; omega) pk_us hk0 hm hg0 hp2 hlf (by omega) hw hz) gX1_looks_X1_tries rfl (by decide +kernel) ⟨Nat.le_of_ble_eq_true rfl, Nat.le_of_ble_eq_true rfl⟩ rfl rfl rfl rfl hl.1 (Nat.le_of_ble_eq_true rfl) dX1_looks_150 ⟨Nat.zero_le _, Nat.zero_le _⟩ (fun r33 ur33 H locs hrr33 X => ?_)
                    obtain ⟨rfl, rfl⟩ : ur33 = (bk, nI (bn + 1), hd, ph, ot, wi, ik, th, (upd B cx (nI pc2)), (upd U pc2 1), K, kd1, lf1, (upd ch1 L (nI cx)), be1, gi1, mr) ∧ r33 = (2 : Int32) := hrr33
                    have X : zh g A (oM g a (bk, nI (bn + 1), hd, ph, ot, wi, ik, th, (upd B cx (nI pc2)), (upd U pc2 1), K, kd1, lf1, (upd ch1 L (nI cx)), be1, gi1, mr)) s.heap H locs := X
                    refine lv_istore (lv' := [(6, .int (2 : Int32)), (4, .int (nI L)), (5, .int told), (0, .ref (a 0))]) hx hb dX1_looks_153 hl (by decide) rfl (fun ls hl => ?_)
                    refine lv_aload_n hx hb dX1_looks_155 rfl (lv_at hl 3 rfl) ?_
                    refine zget (fs := [.int bk, .ref (a 1), .ref (a 2), .int (nI (bn + 1)), .int hd, .int ph, .int ot, .int wi, .int ik, .ref (a 3), .int th, .ref (a 4), .ref (a 5), .ref (a 6), .ref (a 7), .ref (a 8), .ref (a 9)]) (v := .ref (a 7)) Z hin X (ci := 1) (C := RX1) (T := TX1) (N := 17) rfl rfl 14 (by decide) lk_X1_looks_39 rfl dX1_looks_156 ?_
                    refine lv_iload hx hb dX1_looks_159 (lv_at hl 1 rfl) ?_
                    refine lv_iload hx hb dX1_looks_161 (lv_at hl 0 rfl) ?_
                    refine lv_iconst (v := (2 : Int32)) hx hb dX1_looks_163 (by decide) ?_
                    refine lv_icmp_ge (tgt := 184) hx hb dX1_looks_164 (by decide) (fun c35 => ?_) (fun c35 => ?_)
                    · have qc35 := c35
                      refine lv_aload_n hx hb dX1_looks_184 rfl (lv_at hl 3 rfl) ?_
                      refine zget (fs := [.int bk, .ref (a 1), .ref (a 2), .int (nI (bn + 1)), .int hd, .int ph, .int ot, .int wi, .int ik, .ref (a 3), .int th, .ref (a 4), .ref (a 5), .ref (a 6), .ref (a 7), .ref (a 8), .ref (a 9)]) (v := .ref (a 7)) Z hin X (ci := 1) (C := RX1) (T := TX1) (N := 17) rfl rfl 14 (by decide) lk_X1_looks_39 rfl dX1_looks_185 ?_
                      refine lv_iload hx hb dX1_looks_188 (lv_at hl 1 rfl) ?_
                      refine zald (q0 := 7) (n := 10) (f := be1) Z X rfl rfl L rfl (by omega) (by decide) dX1_looks_190 ?_
                      refine zrwi (y := mx32 (lkF bk true n B U bn pc2) cx) hbe ?_
                      refine zast (q0 := 7) (n := 10) (f := be1) Z X rfl rfl L rfl (by omega) (by decide) dX1_looks_191 (fun H locs X => ?_)
                      have X : zh g A (oM g a (bk, nI (bn + 1), hd, ph, ot, wi, ik, th, (upd B cx (nI pc2)), (upd U pc2 1), K, kd1, lf1, (upd ch1 L (nI cx)), (upd be1 L (mx32 (lkF bk true n B U bn pc2) cx)), gi1, mr)) s.heap H locs := X
                      refine lv_iload hx hb dX1_looks_192 (lv_at hl 0 rfl) ?_
                      refine lv_iconst (v := (2 : Int32)) hx hb dX1_looks_194 (by decide) ?_
                      refine lv_icmp_ne (tgt := 267) hx hb dX1_looks_195 (by decide) (fun c36 => ?_) (fun c36 => ?_)
                      · exact absurd c36 (by decide)
                      · have qc36 := c36
                        refine lv_aload_n hx hb dX1_looks_198 rfl (lv_at hl 3 rfl) ?_
                        refine zget (fs := [.int bk, .ref (a 1), .ref (a 2), .int (nI (bn + 1)), .int hd, .int ph, .int ot, .int wi, .int ik, .ref (a 3), .int th, .ref (a 4), .ref (a 5), .ref (a 6), .ref (a 7), .ref (a 8), .ref (a 9)]) (v := .ref (a 4)) Z hin X (ci := 1) (C := RX1) (T := TX1) (N := 17) rfl rfl 11 (by decide) lk_X1_looks_30 rfl dX1_looks_199 ?_
                        refine lv_iload hx hb dX1_looks_202 (lv_at hl 1 rfl) ?_
                        refine zald (q0 := 4) (n := 10) (f := kd1) Z X rfl rfl L rfl (by omega) (by decide) dX1_looks_204 ?_
                        refine zrwi (y := (1 : Int32)) hk0 ?_
                        refine lv_if_ne (tgt := 212) hx hb dX1_looks_205 (by decide) (fun c37 => ?_) (fun c37 => ?_)
                        · have qc37 := c37
                          refine lv_iconst (v := (0 : Int32)) hx hb dX1_looks_212 (by decide) ?_
                          refine lv_istore (lv' := [(7, .int (0 : Int32)), (6, .int (2 : Int32)), (4, .int (nI L)), (5, .int told), (0, .ref (a 0))]) hx hb dX1_looks_213 hl (by decide) rfl (fun ls hl => ?_)
                          refine lv_aload_n hx hb dX1_looks_215 rfl (lv_at hl 4 rfl) ?_
                          refine lv_iload hx hb dX1_looks_216 (lv_at hl 2 rfl) ?_
                          refine lv_iconst (v := nI 1) hx hb dX1_looks_218 (by decide) ?_
                          refine lv_iadd hx hb dX1_looks_219 ?_
                          refine zrwi (y := nI (L + 1)) (nI_add _ _) ?_
                          refine lv_iload hx hb dX1_looks_220 (lv_at hl 0 rfl) ?_
                          refine lv_if_eq (tgt := 229) hx hb dX1_looks_222 (by decide) (fun c38 => ?_) (fun c38 => ?_)
                          · have qc38 := c38
                            refine lv_iconst (v := (0 : Int32)) hx hb dX1_looks_229 (by decide) ?_
                            refine lv_iload hx hb dX1_looks_230 (lv_at hl 0 rfl) ?_
                            refine lv_if_eq (tgt := 245) hx hb dX1_looks_232 (by decide) (fun c39 => ?_) (fun c39 => ?_)
                            · have qc39 := c39
                              refine lv_aload_n hx hb dX1_looks_245 rfl (lv_at hl 4 rfl) ?_
                              refine zget (fs := [.int bk, .ref (a 1), .ref (a 2), .int (nI (bn + 1)), .int hd, .int ph, .int ot, .int wi, .int ik, .ref (a 3), .int th, .ref (a 4), .ref (a 5), .ref (a 6), .ref (a 7), .ref (a 8), .ref (a 9)]) (v := .ref (a 5)) Z hin X (ci := 1) (C := RX1) (T := TX1) (N := 17) rfl rfl 12 (by decide) lk_X1_looks_33 rfl dX1_looks_246 ?_
                              refine lv_iload hx hb dX1_looks_249 (lv_at hl 2 rfl) ?_
                              refine zald (q0 := 5) (n := 10) (f := lf1) Z X rfl rfl L rfl (by omega) (by decide) dX1_looks_251 ?_
                              refine zrwi (y := nI n) hlf ?_
                              refine lv_iconst (v := nI 1) hx hb dX1_looks_252 (by decide) ?_
                              refine lv_isub hx hb dX1_looks_253 ?_
                              refine zrwi (y := nI (n - 1)) (pk_sub (by omega)) ?_
                              refine lv_aload_n hx hb dX1_looks_254 rfl (lv_at hl 4 rfl) ?_
                              refine zget (fs := [.int bk, .ref (a 1), .ref (a 2), .int (nI (bn + 1)), .int hd, .int ph, .int ot, .int wi, .int ik, .ref (a 3), .int th, .ref (a 4), .ref (a 5), .ref (a 6), .ref (a 7), .ref (a 8), .ref (a 9)]) (v := .ref (a 6)) Z hin X (ci := 1) (C := RX1) (T := TX1) (N := 17) rfl rfl 13 (by decide) lk_X1_looks_36 rfl dX1_looks_255 ?_
                              refine lv_iload hx hb dX1_looks_258 (lv_at hl 2 rfl) ?_
                              refine zald (q0 := 6) (n := 10) (f := (upd ch1 L (nI cx))) Z X rfl rfl L rfl (by omega) (by decide) dX1_looks_260 ?_
                              refine zrwi (y := nI cx) pk_us ?_
                              refine zcallVv (n := 4) (As := [.int (nI (L + 1)), .int (0 : Int32), .int (nI (n - 1)), .int (nI cx)]) (rest := []) (ci := 1) (C := RX1) (T := TX1) (N := 17) Z X (c_X1_enters l g a bk (bn + 1) hd ph ot wi ik th (upd B cx (nI pc2)) (upd U pc2 1) K kd1 lf1 (upd ch1 L (nI cx)) (upd be1 L (mx32 (lkF bk true n B U bn pc2) cx)) gi1 mr (L + 1) (0 : Int32) (nI (n - 1)) (nI cx) (by omega)) gX1_looks_X1_enters rfl (by decide +kernel) ⟨Nat.le_of_ble_eq_true rfl, Nat.le_of_ble_eq_true rfl⟩ rfl rfl rfl rfl hl.1 (Nat.le_of_ble_eq_true rfl) dX1_looks_261 ⟨Nat.zero_le _, Nat.zero_le _⟩ (fun ur39 H locs hrr39 X => ?_)
                              obtain rfl : ur39 = (bk, nI (bn + 1), hd, ph, ot, wi, ik, th, (upd B cx (nI pc2)), (upd U pc2 1), K, upd kd1 (L + 1) (0 : Int32), upd lf1 (L + 1) (nI (n - 1)), upd (upd ch1 L (nI cx)) (L + 1) (-1), upd (upd be1 L (mx32 (lkF bk true n B U bn pc2) cx)) (L + 1) (-2), upd gi1 (L + 1) (nI cx), mr) := hrr39
                              have X : zh g A (oM g a (bk, nI (bn + 1), hd, ph, ot, wi, ik, th, (upd B cx (nI pc2)), (upd U pc2 1), K, upd kd1 (L + 1) (0 : Int32), upd lf1 (L + 1) (nI (n - 1)), upd (upd ch1 L (nI cx)) (L + 1) (-1), upd (upd be1 L (mx32 (lkF bk true n B U bn pc2) cx)) (L + 1) (-2), upd gi1 (L + 1) (nI cx), mr)) s.heap H locs := X
                              refine lv_iinc (v := nI (L + 1)) (lv' := [(4, .int (nI (L + 1))), (7, .int (0 : Int32)), (6, .int (2 : Int32)), (5, .int told), (0, .ref (a 0))]) hx hb dX1_looks_264 hl (k := 2) rfl (zi_inc L) (by decide) rfl (fun ls hl => ?_)
                              refine lv_goto (tgt := 15) hx hb dX1_looks_267 (by decide) ?_
                              refine ih15 false (L + 1) (n - 1) 0 0 (bn + 1) (upd B cx (nI pc2)) (upd U pc2 1) (upd kd1 (L + 1) (0 : Int32)) (upd lf1 (L + 1) (nI (n - 1))) (upd (upd ch1 L (nI cx)) (L + 1) (-1)) (upd (upd be1 L (mx32 (lkF bk true n B U bn pc2) cx)) (L + 1) (-2)) (upd gi1 (L + 1) (nI cx)) told (by simp only [lkD]; omega) (by omega) (by omega) hokP (by intro q; exact absurd q (by decide)) pk_us pk_us (by intro q; exact absurd q (by decide)) (by rw [pk_us]; decide) (by rw [pk_us]; rfl) ?_ (by simp only [lkD]; omega) H locs ls X (lv_sub hl [0, 3, 4] rfl)
                              clear hl X
                              intro kd2 lf2 ch2 be2 gi2 told2 hag hv H locs ls X hl
                              have hag1 := hag L (by omega)
                              have hk2 : kd2 L = 1 := hag1.1.trans ((pk_un (by omega)).trans hk0)
                              have hl2 : lf2 L = nI n := hag1.2.1.trans ((pk_un (by omega)).trans hlf)
                              have hc2 : ch2 L = nI cx := hag1.2.2.1.trans ((pk_un (by omega)).trans pk_us)
                              have hb2 : be2 L = mx32 (lkF bk true n B U bn pc2) cx := hag1.2.2.2.1.trans ((pk_un (by omega)).trans pk_us)
                              have hg2 : gi2 L = nI pc2 := hag1.2.2.2.2.trans ((pk_un (by omega)).trans hg0)
                              have hF : (lkF bk true n B U bn pc2) cx = mx32 (lkF bk false (n - 1) (upd B cx (nI pc2)) (upd U pc2 1) (bn + 1) 0) 16 := (if_pos hm).trans ((if_neg hw).trans ((if_neg hz).trans (mG_eq bk (by omega) _ _ _)))
                              refine lv_aload_n hx hb dX1_looks_54 rfl (lv_at hl 2 rfl) ?_
                              refine zget (fs := [.int bk, .ref (a 1), .ref (a 2), .int (nI (bn + 1)), .int hd, .int ph, .int ot, .int wi, .int ik, .ref (a 3), .int th, .ref (a 4), .ref (a 5), .ref (a 6), .ref (a 7), .ref (a 8), .ref (a 9)]) (v := .ref (a 7)) Z hin X (ci := 1) (C := RX1) (T := TX1) (N := 17) rfl rfl 14 (by decide) lk_X1_looks_39 rfl dX1_looks_55 ?_
                              refine lv_iload hx hb dX1_looks_58 (lv_at hl 0 rfl) ?_
                              refine zald (q0 := 7) (n := 10) (f := be2) Z X rfl rfl (L + 1) rfl (by omega) (by decide) dX1_looks_60 ?_
                              refine zrwi (y := mx32 (lkF bk false (n - 1) (upd B cx (nI pc2)) (upd U pc2 1) (bn + 1) 0) 16) hv ?_
                              refine lv_istore (lv' := [(5, .int (mx32 (lkF bk false (n - 1) (upd B cx (nI pc2)) (upd U pc2 1) (bn + 1) 0) 16)), (4, .int (nI (L + 1))), (0, .ref (a 0))]) hx hb dX1_looks_61 hl (by decide) rfl (fun ls hl => ?_)
                              refine lv_iinc (v := nI L) (lv' := [(4, .int (nI L)), (5, .int (mx32 (lkF bk false (n - 1) (upd B cx (nI pc2)) (upd U pc2 1) (bn + 1) 0) 16)), (0, .ref (a 0))]) hx hb dX1_looks_63 hl (k := 1) rfl (zi_dec L) (by decide) rfl (fun ls hl => ?_)
                              refine lv_iload hx hb dX1_looks_66 (lv_at hl 0 rfl) ?_
                              refine lv_if_lt (tgt := 15) hx hb dX1_looks_68 (by decide) (fun c41 => ?_) (fun c41 => ?_)
                              · have qc41 := c41
                                have c41n : L < 0 := zn_ltt (by omega) (by omega) c41
                                exact absurd c41n (Nat.not_lt_zero _)
                              · have qc41 := c41
                                have c41n : ¬ L < 0 := zn_ltn (by omega) (by omega) c41
                                refine lv_aload_n hx hb dX1_looks_71 rfl (lv_at hl 2 rfl) ?_
                                refine zget (fs := [.int bk, .ref (a 1), .ref (a 2), .int (nI (bn + 1)), .int hd, .int ph, .int ot, .int wi, .int ik, .ref (a 3), .int th, .ref (a 4), .ref (a 5), .ref (a 6), .ref (a 7), .ref (a 8), .ref (a 9)]) (v := .ref (a 4)) Z hin X (ci := 1) (C := RX1) (T := TX1) (N := 17) rfl rfl 11 (by decide) lk_X1_looks_30 rfl dX1_looks_72 ?_
                                refine lv_iload hx hb dX1_looks_75 (lv_at hl 0 rfl) ?_
                                refine zald (q0 := 4) (n := 10) (f := kd2) Z X rfl rfl L rfl (by omega) (by decide) dX1_looks_77 ?_
                                refine zrwi (y := (1 : Int32)) hk2 ?_
                                refine lv_if_ne (tgt := 87) hx hb dX1_looks_78 (by decide) (fun c42 => ?_) (fun c42 => ?_)
                                · have qc42 := c42
                                  refine lv_iload hx hb dX1_looks_87 (lv_at hl 1 rfl) ?_
                                  refine lv_istore (lv' := [(6, .int (mx32 (lkF bk false (n - 1) (upd B cx (nI pc2)) (upd U pc2 1) (bn + 1) 0) 16)), (4, .int (nI L)), (5, .int (mx32 (lkF bk false (n - 1) (upd B cx (nI pc2)) (upd U pc2 1) (bn + 1) 0) 16)), (0, .ref (a 0))]) hx hb dX1_looks_89 hl (by decide) rfl (fun ls hl => ?_)
                                  refine lv_aload_n hx hb dX1_looks_91 rfl (lv_at hl 3 rfl) ?_
                                  refine zget (fs := [.int bk, .ref (a 1), .ref (a 2), .int (nI (bn + 1)), .int hd, .int ph, .int ot, .int wi, .int ik, .ref (a 3), .int th, .ref (a 4), .ref (a 5), .ref (a 6), .ref (a 7), .ref (a 8), .ref (a 9)]) (v := .ref (a 7)) Z hin X (ci := 1) (C := RX1) (T := TX1) (N := 17) rfl rfl 14 (by decide) lk_X1_looks_39 rfl dX1_looks_92 ?_
                                  refine lv_iload hx hb dX1_looks_95 (lv_at hl 1 rfl) ?_
                                  refine lv_iload hx hb dX1_looks_97 (lv_at hl 0 rfl) ?_
                                  refine lv_aload_n hx hb dX1_looks_99 rfl (lv_at hl 3 rfl) ?_
                                  refine zget (fs := [.int bk, .ref (a 1), .ref (a 2), .int (nI (bn + 1)), .int hd, .int ph, .int ot, .int wi, .int ik, .ref (a 3), .int th, .ref (a 4), .ref (a 5), .ref (a 6), .ref (a 7), .ref (a 8), .ref (a 9)]) (v := .ref (a 7)) Z hin X (ci := 1) (C := RX1) (T := TX1) (N := 17) rfl rfl 14 (by decide) lk_X1_looks_39 rfl dX1_looks_100 ?_
                                  refine lv_iload hx hb dX1_looks_103 (lv_at hl 1 rfl) ?_
                                  refine zald (q0 := 7) (n := 10) (f := be2) Z X rfl rfl L rfl (by omega) (by decide) dX1_looks_105 ?_
                                  refine zrwi (y := mx32 (lkF bk true n B U bn pc2) cx) hb2 ?_
                                  refine lv_icmp_le (tgt := 114) hx hb dX1_looks_106 (by decide) (fun c43 => ?_) (fun c43 => ?_)
                                  · have qc43 := c43
                                    have hmx := mx_le hF c43
                                    refine lv_aload_n hx hb dX1_looks_114 rfl (lv_at hl 3 rfl) ?_
                                    refine zget (fs := [.int bk, .ref (a 1), .ref (a 2), .int (nI (bn + 1)), .int hd, .int ph, .int ot, .int wi, .int ik, .ref (a 3), .int th, .ref (a 4), .ref (a 5), .ref (a 6), .ref (a 7), .ref (a 8), .ref (a 9)]) (v := .ref (a 7)) Z hin X (ci := 1) (C := RX1) (T := TX1) (N := 17) rfl rfl 14 (by decide) lk_X1_looks_39 rfl dX1_looks_115 ?_
                                    refine lv_iload hx hb dX1_looks_118 (lv_at hl 1 rfl) ?_
                                    refine zald (q0 := 7) (n := 10) (f := be2) Z X rfl rfl L rfl (by omega) (by decide) dX1_looks_120 ?_
                                    refine zrwi (y := mx32 (lkF bk true n B U bn pc2) cx) hb2 ?_
                                    refine zast (q0 := 7) (n := 10) (f := be2) Z X rfl rfl L rfl (by omega) (by decide) dX1_looks_121 (fun H locs X => ?_)
                                    have X : zh g A (oM g a (bk, nI (bn + 1), hd, ph, ot, wi, ik, th, (upd B cx (nI pc2)), (upd U pc2 1), K, kd2, lf2, ch2, (upd be2 L (mx32 (lkF bk true n B U bn pc2) cx)), gi2, mr)) s.heap H locs := X
                                    refine lv_aload_n hx hb dX1_looks_122 rfl (lv_at hl 3 rfl) ?_
                                    refine zget (fs := [.int bk, .ref (a 1), .ref (a 2), .int (nI (bn + 1)), .int hd, .int ph, .int ot, .int wi, .int ik, .ref (a 3), .int th, .ref (a 4), .ref (a 5), .ref (a 6), .ref (a 7), .ref (a 8), .ref (a 9)]) (v := .ref (a 4)) Z hin X (ci := 1) (C := RX1) (T := TX1) (N := 17) rfl rfl 11 (by decide) lk_X1_looks_30 rfl dX1_looks_123 ?_
                                    refine lv_iload hx hb dX1_looks_126 (lv_at hl 1 rfl) ?_
                                    refine zald (q0 := 4) (n := 10) (f := kd2) Z X rfl rfl L rfl (by omega) (by decide) dX1_looks_128 ?_
                                    refine zrwi (y := (1 : Int32)) hk2 ?_
                                    refine lv_iconst (v := (1 : Int32)) hx hb dX1_looks_129 (by decide) ?_
                                    refine lv_icmp_ne (tgt := 144) hx hb dX1_looks_130 (by decide) (fun c44 => ?_) (fun c44 => ?_)
                                    · exact absurd c44 (by decide)
                                    · have qc44 := c44
                                      refine lv_aload_n hx hb dX1_looks_133 rfl (lv_at hl 3 rfl) ?_
                                      refine lv_aload_n hx hb dX1_looks_134 rfl (lv_at hl 3 rfl) ?_
                                      refine zget (fs := [.int bk, .ref (a 1), .ref (a 2), .int (nI (bn + 1)), .int hd, .int ph, .int ot, .int wi, .int ik, .ref (a 3), .int th, .ref (a 4), .ref (a 5), .ref (a 6), .ref (a 7), .ref (a 8), .ref (a 9)]) (v := .ref (a 6)) Z hin X (ci := 1) (C := RX1) (T := TX1) (N := 17) rfl rfl 13 (by decide) lk_X1_looks_36 rfl dX1_looks_135 ?_
                                      refine lv_iload hx hb dX1_looks_138 (lv_at hl 1 rfl) ?_
                                      refine zald (q0 := 6) (n := 10) (f := ch2) Z X rfl rfl L rfl (by omega) (by decide) dX1_looks_140 ?_
                                      refine zrwi (y := nI cx) hc2 ?_
                                      refine zcallVv (n := 1) (As := [.int (nI cx)]) (rest := []) (ci := 1) (C := RX1) (T := TX1) (N := 17) Z X (c_X1_takes l g a bk bn hd ph ot wi ik th (upd B cx (nI pc2)) (upd U pc2 1) K kd2 lf2 ch2 (upd be2 L (mx32 (lkF bk true n B U bn pc2) cx)) gi2 mr cx pc2 (by omega) hp1 pk_us) gX1_looks_X1_takes rfl (by decide +kernel) ⟨Nat.le_of_ble_eq_true rfl, Nat.le_of_ble_eq_true rfl⟩ rfl rfl rfl rfl hl.1 (Nat.le_of_ble_eq_true rfl) dX1_looks_141 ⟨Nat.zero_le _, Nat.zero_le _⟩ (fun ur44 H locs hrr44 X => ?_)
                                      obtain rfl : ur44 = (bk, nI bn, hd, ph, ot, wi, ik, th, (upd (upd B cx (nI pc2)) cx (-1)), (upd (upd U pc2 1) pc2 0), K, kd2, lf2, ch2, (upd be2 L (mx32 (lkF bk true n B U bn pc2) cx)), gi2, mr) := hrr44
                                      have X : zh g A (oM g a (bk, nI bn, hd, ph, ot, wi, ik, th, (upd (upd B cx (nI pc2)) cx (-1)), (upd (upd U pc2 1) pc2 0), K, kd2, lf2, ch2, (upd be2 L (mx32 (lkF bk true n B U bn pc2) cx)), gi2, mr)) s.heap H locs := X
                                      have X : zh g A (oM g a (bk, nI bn, hd, ph, ot, wi, ik, th, B, U, K, kd2, lf2, ch2, (upd be2 L (mx32 (lkF bk true n B U bn pc2) cx)), gi2, mr)) s.heap H locs := by rw [upd_back (f := B) (k := cx) hm, upd_back (f := U) hp2] at X; exact X
                                      refine lv_goto (tgt := 15) hx hb dX1_looks_144 (by decide) ?_
                                      have hkX : kd2 L = (if true = true then 1 else 0) := hk2
                                      have hlX := hl2
                                      have hgX := hg2
                                      have hcX : ch2 L + 1 = nI (cx + 1) := by rw [hc2]; exact nI_1 cx
                                      have hbX : (upd be2 L (mx32 (lkF bk true n B U bn pc2) cx)) L = mx32 (lkF bk true n B U bn pc2) (cx + 1) := by rw [pk_us]; exact hmx.symm
                                      have hokX := hok2
                                      exact ih15 true L n pc2 (cx + 1) bn B U kd2 lf2 ch2 (upd be2 L (mx32 (lkF bk true n B U bn pc2) cx)) gi2 (mx32 (lkF bk false (n - 1) (upd B cx (nI pc2)) (upd U pc2 1) (bn + 1) 0) 16) (by show L + _ ≤ 8; simp only [lkD]; omega) hn1 (by omega) hokX (fun _ => ⟨hp1, hp2⟩) hkX hlX (fun _ => hgX) hcX hbX (fun kd2 lf2 ch2 be2 gi2 told2 g1 g2 => hA kd2 lf2 ch2 be2 gi2 told2 (lag_tr (lag_2 hag) g1) g2) (by simp only [lkD]; omega) H locs ls X (lv_sub hl [1, 2, 3] rfl)
                                  · have qc43 := c43
                                    have hmx := mx_gt hF c43
                                    refine lv_iload hx hb dX1_looks_109 (lv_at hl 0 rfl) ?_
                                    refine lv_goto (tgt := 121) hx hb dX1_looks_111 (by decide) ?_
                                    refine zast (q0 := 7) (n := 10) (f := be2) Z X rfl rfl L rfl (by omega) (by decide) dX1_looks_121 (fun H locs X => ?_)
                                    have X : zh g A (oM g a (bk, nI (bn + 1), hd, ph, ot, wi, ik, th, (upd B cx (nI pc2)), (upd U pc2 1), K, kd2, lf2, ch2, (upd be2 L (mx32 (lkF bk false (n - 1) (upd B cx (nI pc2)) (upd U pc2 1) (bn + 1) 0) 16)), gi2, mr)) s.heap H locs := X
                                    refine lv_aload_n hx hb dX1_looks_122 rfl (lv_at hl 3 rfl) ?_
                                    refine zget (fs := [.int bk, .ref (a 1), .ref (a 2), .int (nI (bn + 1)), .int hd, .int ph, .int ot, .int wi, .int ik, .ref (a 3), .int th, .ref (a 4), .ref (a 5), .ref (a 6), .ref (a 7), .ref (a 8), .ref (a 9)]) (v := .ref (a 4)) Z hin X (ci := 1) (C := RX1) (T := TX1) (N := 17) rfl rfl 11 (by decide) lk_X1_looks_30 rfl dX1_looks_123 ?_
                                    refine lv_iload hx hb dX1_looks_126 (lv_at hl 1 rfl) ?_
                                    refine zald (q0 := 4) (n := 10) (f := kd2) Z X rfl rfl L rfl (by omega) (by decide) dX1_looks_128 ?_
                                    refine zrwi (y := (1 : Int32)) hk2 ?_
                                    refine lv_iconst (v := (1 : Int32)) hx hb dX1_looks_129 (by decide) ?_
                                    refine lv_icmp_ne (tgt := 144) hx hb dX1_looks_130 (by decide) (fun c46 => ?_) (fun c46 => ?_)
                                    · exact absurd c46 (by decide)
                                    · have qc46 := c46
                                      refine lv_aload_n hx hb dX1_looks_133 rfl (lv_at hl 3 rfl) ?_
                                      refine lv_aload_n hx hb dX1_looks_134 rfl (lv_at hl 3 rfl) ?_
                                      refine zget (fs := [.int bk, .ref (a 1), .ref (a 2), .int (nI (bn + 1)), .int hd, .int ph, .int ot, .int wi, .int ik, .ref (a 3), .int th, .ref (a 4), .ref (a 5), .ref (a 6), .ref (a 7), .ref (a 8), .ref (a 9)]) (v := .ref (a 6)) Z hin X (ci := 1) (C := RX1) (T := TX1) (N := 17) rfl rfl 13 (by decide) lk_X1_looks_36 rfl dX1_looks_135 ?_
                                      refine lv_iload hx hb dX1_looks_138 (lv_at hl 1 rfl) ?_
                                      refine zald (q0 := 6) (n := 10) (f := ch2) Z X rfl rfl L rfl (by omega) (by decide) dX1_looks_140 ?_
                                      refine zrwi (y := nI cx) hc2 ?_
                                      refine zcallVv (n := 1) (As := [.int (nI cx)]) (rest := []) (ci := 1) (C := RX1) (T := TX1) (N := 17) Z X (c_X1_takes l g a bk bn hd ph ot wi ik th (upd B cx (nI pc2)) (upd U pc2 1) K kd2 lf2 ch2 (upd be2 L (mx32 (lkF bk false (n - 1) (upd B cx (nI pc2)) (upd U pc2 1) (bn + 1) 0) 16)) gi2 mr cx pc2 (by omega) hp1 pk_us) gX1_looks_X1_takes rfl (by decide +kernel) ⟨Nat.le_of_ble_eq_true rfl, Nat.le_of_ble_eq_true rfl⟩ rfl rfl rfl rfl hl.1 (Nat.le_of_ble_eq_true rfl) dX1_looks_141 ⟨Nat.zero_le _, Nat.zero_le _⟩ (fun ur46 H locs hrr46 X => ?_)
                                      obtain rfl : ur46 = (bk, nI bn, hd, ph, ot, wi, ik, th, (upd (upd B cx (nI pc2)) cx (-1)), (upd (upd U pc2 1) pc2 0), K, kd2, lf2, ch2, (upd be2 L (mx32 (lkF bk false (n - 1) (upd B cx (nI pc2)) (upd U pc2 1) (bn + 1) 0) 16)), gi2, mr) := hrr46
                                      have X : zh g A (oM g a (bk, nI bn, hd, ph, ot, wi, ik, th, (upd (upd B cx (nI pc2)) cx (-1)), (upd (upd U pc2 1) pc2 0), K, kd2, lf2, ch2, (upd be2 L (mx32 (lkF bk false (n - 1) (upd B cx (nI pc2)) (upd U pc2 1) (bn + 1) 0) 16)), gi2, mr)) s.heap H locs := X
                                      have X : zh g A (oM g a (bk, nI bn, hd, ph, ot, wi, ik, th, B, U, K, kd2, lf2, ch2, (upd be2 L (mx32 (lkF bk false (n - 1) (upd B cx (nI pc2)) (upd U pc2 1) (bn + 1) 0) 16)), gi2, mr)) s.heap H locs := by rw [upd_back (f := B) (k := cx) hm, upd_back (f := U) hp2] at X; exact X
                                      refine lv_goto (tgt := 15) hx hb dX1_looks_144 (by decide) ?_
                                      have hkX : kd2 L = (if true = true then 1 else 0) := hk2
                                      have hlX := hl2
                                      have hgX := hg2
                                      have hcX : ch2 L + 1 = nI (cx + 1) := by rw [hc2]; exact nI_1 cx
                                      have hbX : (upd be2 L (mx32 (lkF bk false (n - 1) (upd B cx (nI pc2)) (upd U pc2 1) (bn + 1) 0) 16)) L = mx32 (lkF bk true n B U bn pc2) (cx + 1) := by rw [pk_us]; exact hmx.symm
                                      have hokX := hok2
                                      exact ih15 true L n pc2 (cx + 1) bn B U kd2 lf2 ch2 (upd be2 L (mx32 (lkF bk false (n - 1) (upd B cx (nI pc2)) (upd U pc2 1) (bn + 1) 0) 16)) gi2 (mx32 (lkF bk false (n - 1) (upd B cx (nI pc2)) (upd U pc2 1) (bn + 1) 0) 16) (by show L + _ ≤ 8; simp only [lkD]; omega) hn1 (by omega) hokX (fun _ => ⟨hp1, hp2⟩) hkX hlX (fun _ => hgX) hcX hbX (fun kd2 lf2 ch2 be2 gi2 told2 g1 g2 => hA kd2 lf2 ch2 be2 gi2 told2 (lag_tr (lag_2 hag) g1) g2) (by simp only [lkD]; omega) H locs ls X (lv_sub hl [1, 2, 3] rfl)
                                · exact absurd c42 (by decide)
                            · exact absurd c39 (by decide)
                          · exact absurd c38 (by decide)
                        · exact absurd c37 (by decide)
                    · exact absurd c35 (by decide)
              ·
                have hF : (lkF bk true n B U bn pc2) cx = -2 := if_neg hm
                refine lv_aload_n hx hb dX1_looks_147 rfl (lv_at hl 2 rfl) ?_
                refine lv_iload hx hb dX1_looks_148 (lv_at hl 0 rfl) ?_
                refine zcallVi (n := 1) (As := [.int (nI L)]) (rest := []) (ci := 1) (C := RX1) (T := TX1) (N := 17) Z X (c_X1_tries_Pm l g a bk bn hd ph ot wi ik th B U K kd1 lf1 (upd ch1 L (nI cx)) be1 gi1 mr L cx pc2 n (by omega) (by omega) hp1 (by have := hok2.1; omega) pk_us hk0 hm) gX1_looks_X1_tries rfl (by decide +kernel) ⟨Nat.le_of_ble_eq_true rfl, Nat.le_of_ble_eq_true rfl⟩ rfl rfl rfl rfl hl.1 (Nat.le_of_ble_eq_true rfl) dX1_looks_150 ⟨Nat.zero_le _, Nat.zero_le _⟩ (fun r47 ur47 H locs hrr47 X => ?_)
                obtain ⟨rfl, rfl⟩ : ur47 = (bk, nI bn, hd, ph, ot, wi, ik, th, B, U, K, kd1, lf1, (upd ch1 L (nI cx)), be1, gi1, mr) ∧ r47 = (-2 : Int32) := hrr47
                have X : zh g A (oM g a (bk, nI bn, hd, ph, ot, wi, ik, th, B, U, K, kd1, lf1, (upd ch1 L (nI cx)), be1, gi1, mr)) s.heap H locs := X
                refine lv_istore (lv' := [(6, .int (-2 : Int32)), (4, .int (nI L)), (5, .int told), (0, .ref (a 0))]) hx hb dX1_looks_153 hl (by decide) rfl (fun ls hl => ?_)
                refine lv_aload_n hx hb dX1_looks_155 rfl (lv_at hl 3 rfl) ?_
                refine zget (fs := [.int bk, .ref (a 1), .ref (a 2), .int (nI bn), .int hd, .int ph, .int ot, .int wi, .int ik, .ref (a 3), .int th, .ref (a 4), .ref (a 5), .ref (a 6), .ref (a 7), .ref (a 8), .ref (a 9)]) (v := .ref (a 7)) Z hin X (ci := 1) (C := RX1) (T := TX1) (N := 17) rfl rfl 14 (by decide) lk_X1_looks_39 rfl dX1_looks_156 ?_
                refine lv_iload hx hb dX1_looks_159 (lv_at hl 1 rfl) ?_
                refine lv_iload hx hb dX1_looks_161 (lv_at hl 0 rfl) ?_
                refine lv_iconst (v := (2 : Int32)) hx hb dX1_looks_163 (by decide) ?_
                refine lv_icmp_ge (tgt := 184) hx hb dX1_looks_164 (by decide) (fun c49 => ?_) (fun c49 => ?_)
                · exact absurd c49 (by decide)
                · have qc49 := c49
                  refine lv_iload hx hb dX1_looks_167 (lv_at hl 0 rfl) ?_
                  refine lv_aload_n hx hb dX1_looks_169 rfl (lv_at hl 3 rfl) ?_
                  refine zget (fs := [.int bk, .ref (a 1), .ref (a 2), .int (nI bn), .int hd, .int ph, .int ot, .int wi, .int ik, .ref (a 3), .int th, .ref (a 4), .ref (a 5), .ref (a 6), .ref (a 7), .ref (a 8), .ref (a 9)]) (v := .ref (a 7)) Z hin X (ci := 1) (C := RX1) (T := TX1) (N := 17) rfl rfl 14 (by decide) lk_X1_looks_39 rfl dX1_looks_170 ?_
                  refine lv_iload hx hb dX1_looks_173 (lv_at hl 1 rfl) ?_
                  refine zald (q0 := 7) (n := 10) (f := be1) Z X rfl rfl L rfl (by omega) (by decide) dX1_looks_175 ?_
                  refine zrwi (y := mx32 (lkF bk true n B U bn pc2) cx) hbe ?_
                  refine lv_icmp_le (tgt := 184) hx hb dX1_looks_176 (by decide) (fun c50 => ?_) (fun c50 => ?_)
                  · have qc50 := c50
                    have hmx := mx_le hF c50
                    refine lv_aload_n hx hb dX1_looks_184 rfl (lv_at hl 3 rfl) ?_
                    refine zget (fs := [.int bk, .ref (a 1), .ref (a 2), .int (nI bn), .int hd, .int ph, .int ot, .int wi, .int ik, .ref (a 3), .int th, .ref (a 4), .ref (a 5), .ref (a 6), .ref (a 7), .ref (a 8), .ref (a 9)]) (v := .ref (a 7)) Z hin X (ci := 1) (C := RX1) (T := TX1) (N := 17) rfl rfl 14 (by decide) lk_X1_looks_39 rfl dX1_looks_185 ?_
                    refine lv_iload hx hb dX1_looks_188 (lv_at hl 1 rfl) ?_
                    refine zald (q0 := 7) (n := 10) (f := be1) Z X rfl rfl L rfl (by omega) (by decide) dX1_looks_190 ?_
                    refine zrwi (y := mx32 (lkF bk true n B U bn pc2) cx) hbe ?_
                    refine zast (q0 := 7) (n := 10) (f := be1) Z X rfl rfl L rfl (by omega) (by decide) dX1_looks_191 (fun H locs X => ?_)
                    have X : zh g A (oM g a (bk, nI bn, hd, ph, ot, wi, ik, th, B, U, K, kd1, lf1, (upd ch1 L (nI cx)), (upd be1 L (mx32 (lkF bk true n B U bn pc2) cx)), gi1, mr)) s.heap H locs := X
                    refine lv_iload hx hb dX1_looks_192 (lv_at hl 0 rfl) ?_
                    refine lv_iconst (v := (2 : Int32)) hx hb dX1_looks_194 (by decide) ?_
                    refine lv_icmp_ne (tgt := 267) hx hb dX1_looks_195 (by decide) (fun c51 => ?_) (fun c51 => ?_)
                    · have qc51 := c51
                      refine lv_goto (tgt := 15) hx hb dX1_looks_267 (by decide) ?_
                      have hkX : kd1 L = (if true = true then 1 else 0) := hk0
                      have hlX : lf1 L = nI n := hlf
                      have hgX : gi1 L = nI pc2 := hg0
                      have hcX : (upd ch1 L (nI cx)) L + 1 = nI (cx + 1) := by rw [pk_us]; exact nI_1 cx
                      have hbX : (upd be1 L (mx32 (lkF bk true n B U bn pc2) cx)) L = mx32 (lkF bk true n B U bn pc2) (cx + 1) := by rw [pk_us]; exact hmx.symm
                      have hokX := hok2
                      exact ih15 true L n pc2 (cx + 1) bn B U kd1 lf1 (upd ch1 L (nI cx)) (upd be1 L (mx32 (lkF bk true n B U bn pc2) cx)) gi1 told (by show L + _ ≤ 8; simp only [lkD]; omega) hn1 (by omega) hokX (fun _ => ⟨hp1, hp2⟩) hkX hlX (fun _ => hgX) hcX hbX (fun kd2 lf2 ch2 be2 gi2 told2 g1 g2 => hA kd2 lf2 ch2 be2 gi2 told2 (lag_tr lag_1 g1) g2) (by simp only [lkD]; omega) H locs ls X (lv_sub hl [1, 2, 3] rfl)
                    · exact absurd c51 (by decide)
                  · have qc50 := c50
                    have hmx := mx_gt hF c50
                    refine lv_iload hx hb dX1_looks_179 (lv_at hl 0 rfl) ?_
                    refine lv_goto (tgt := 191) hx hb dX1_looks_181 (by decide) ?_
                    refine zast (q0 := 7) (n := 10) (f := be1) Z X rfl rfl L rfl (by omega) (by decide) dX1_looks_191 (fun H locs X => ?_)
                    have X : zh g A (oM g a (bk, nI bn, hd, ph, ot, wi, ik, th, B, U, K, kd1, lf1, (upd ch1 L (nI cx)), (upd be1 L (-2 : Int32)), gi1, mr)) s.heap H locs := X
                    refine lv_iload hx hb dX1_looks_192 (lv_at hl 0 rfl) ?_
                    refine lv_iconst (v := (2 : Int32)) hx hb dX1_looks_194 (by decide) ?_
                    refine lv_icmp_ne (tgt := 267) hx hb dX1_looks_195 (by decide) (fun c52 => ?_) (fun c52 => ?_)
                    · have qc52 := c52
                      refine lv_goto (tgt := 15) hx hb dX1_looks_267 (by decide) ?_
                      have hkX : kd1 L = (if true = true then 1 else 0) := hk0
                      have hlX : lf1 L = nI n := hlf
                      have hgX : gi1 L = nI pc2 := hg0
                      have hcX : (upd ch1 L (nI cx)) L + 1 = nI (cx + 1) := by rw [pk_us]; exact nI_1 cx
                      have hbX : (upd be1 L (-2 : Int32)) L = mx32 (lkF bk true n B U bn pc2) (cx + 1) := by rw [pk_us]; exact hmx.symm
                      have hokX := hok2
                      exact ih15 true L n pc2 (cx + 1) bn B U kd1 lf1 (upd ch1 L (nI cx)) (upd be1 L (-2 : Int32)) gi1 told (by show L + _ ≤ 8; simp only [lkD]; omega) hn1 (by omega) hokX (fun _ => ⟨hp1, hp2⟩) hkX hlX (fun _ => hgX) hcX hbX (fun kd2 lf2 ch2 be2 gi2 told2 g1 g2 => hA kd2 lf2 ch2 be2 gi2 told2 (lag_tr lag_1 g1) g2) (by simp only [lkD]; omega) H locs ls X (lv_sub hl [1, 2, 3] rfl)
                    · exact absurd c52 (by decide)
            · have qc23 := c23
              have hb1 := c23
              have hend : be1 L = mx32 (lkF bk true n B U bn pc2) 16 := hbe.trans (mx_end (lk_le bk (kp := true) hok2 hp) hc (by first | exact Or.inl hc16 | exact Or.inr hb1))
              exact hA kd1 lf1 (upd ch1 L (nI cx)) be1 gi1 told lag_0 hend H locs ls X (lv_sub hl [0, 1, 2] rfl)
  refine cut15 (17 * lkD kq nq + 17) kq 0 nq pq 0 pn P O (upd kd 0 (zb kq)) (upd lf 0 (nI nq)) (upd ch 0 (-1)) (upd be 0 (-2)) (upd gi 0 its) (-2 : Int32) (by cases kq <;> simp only [lkD] <;> omega) hnq (by omega) hok (fun q => ⟨(hpq q).2.1, (hpq q).2.2⟩) (by rw [pk_us]; cases kq <;> rfl) pk_us (fun q => by rw [pk_us]; exact (hpq q).1) (by rw [pk_us]; decide) (by rw [pk_us]; rfl) ?_ (by omega) H locs ls X (lv_sub hl [1, 0, 2] rfl)
  clear hl X
  intro kd2 lf2 ch2 be2 gi2 told2 hag hv H locs ls X hl
  refine lv_aload_n hx hb dX1_looks_54 rfl (lv_at hl 2 rfl) ?_
  refine zget (fs := [.int bk, .ref (a 1), .ref (a 2), .int (nI pn), .int hd, .int ph, .int ot, .int wi, .int ik, .ref (a 3), .int th, .ref (a 4), .ref (a 5), .ref (a 6), .ref (a 7), .ref (a 8), .ref (a 9)]) (v := .ref (a 7)) Z hin X (ci := 1) (C := RX1) (T := TX1) (N := 17) rfl rfl 14 (by decide) lk_X1_looks_39 rfl dX1_looks_55 ?_
  refine lv_iload hx hb dX1_looks_58 (lv_at hl 0 rfl) ?_
  refine zald (q0 := 7) (n := 10) (f := be2) Z X rfl rfl 0 rfl (by omega) (by decide) dX1_looks_60 ?_
  refine zrwi (y := mx32 (lkF bk kq nq P O pn pq) 16) hv ?_
  refine lv_istore (lv' := [(5, .int (mx32 (lkF bk kq nq P O pn pq) 16)), (4, .int (nI 0)), (0, .ref (a 0))]) hx hb dX1_looks_61 hl (by decide) rfl (fun ls hl => ?_)
  refine lv_iinc (v := (-1 : Int32)) (lv' := [(4, .int (-1 : Int32)), (5, .int (mx32 (lkF bk kq nq P O pn pq) 16)), (0, .ref (a 0))]) hx hb dX1_looks_63 hl (k := 1) rfl (by decide) (by decide) rfl (fun ls hl => ?_)
  refine lv_iload hx hb dX1_looks_66 (lv_at hl 0 rfl) ?_
  refine lv_if_lt (tgt := 15) hx hb dX1_looks_68 (by decide) (fun c53 => ?_) (fun c53 => ?_)
  · have qc53 := c53
    refine lv_iload hx hb dX1_looks_15 (lv_at hl 0 rfl) ?_
    refine lv_if_lt (tgt := 270) hx hb dX1_looks_17 (by decide) (fun c54 => ?_) (fun c54 => ?_)
    · have qc54 := c54
      refine lv_iload hx hb dX1_looks_270 (lv_at hl 1 rfl) ?_
      exact zreti Z hr hlk (bk, nI pn, hd, ph, ot, wi, ik, th, P, O, K, kd2, lf2, ch2, be2, gi2, mr) X dX1_looks_272 rfl (⟨kd2, lf2, ch2, be2, gi2, rfl, rfl⟩)
    · exact absurd c54 (by decide)
  · exact absurd c53 (by decide)
