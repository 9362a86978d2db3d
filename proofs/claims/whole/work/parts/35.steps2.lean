/-! the law: the steps that never throw -/
section LP
variable {p : Program} {l : Launch} {e : Env} {s : State} {m : MethodId} {below : List Frame} {meth : Method} {c : Code} {g : zG} {b L bL h o : Nat} {xs : Nat → Int32} {a : Nat → Nat} {Q : State → Prop} {i cells slots : Nat}
variable {q0 q1 q2 q3 q4 q5 q6 : Int32} {q7 : Int64} {q8 q9 : Int32} {q10 : Int64} {bk : Int32} {pn : Nat} {hd ph ot wi ik th : Int32} {P O K kd lf ch be gi mr : Nat → Int32} {f : Nat → Int64} {H : Heap} {locs : List Loc} {ls : Array Slot}
set_option maxHeartbeats 1000000 in
set_option maxRecDepth 100000 in
theorem s_begin (C : LZ p m c s b L xs bL g) (hi : i + 1 < L) (hcs : cells + 1 ≤ room_1.cells ∧ slots + 6 ≤ room_1.slots) (hR : RelE q0 q1 q2 q3 q4 q5 q6 q7 q8 q9 q10 bk pn hd ph ot wi ik P O K) (X : zh g (fun q => s.heap.size ≤ q) (WL g h a o (q0, q1, q2, q3, q4, q5, q6, q7, q8, q9, q10) (bk, nI pn, hd, ph, ot, wi, ik, th, P, O, K, kd, lf, ch, be, gi, mr) f) s.heap H locs) (hl : lv_has ls 7 (lvL b h (a 0) o i)) (kk : LK p l e s m b below meth c g h o a i cells slots Q) : W p l e room_1 s m #[.ref b] below meth c H locs cells slots Q (F0 m 128 ls []) := by
  have hx := C.1.1.1
  have hb := C.1.1.2.1
  have hcs0 : cells ≤ room_1.cells ∧ slots ≤ room_1.slots := ⟨by omega, by omega⟩
  obtain ⟨v, hv⟩ : ∃ v, v = xs (nI (i + 1)).toNatClampNeg := ⟨_, rfl⟩
  obtain ⟨bb, hbb⟩ : ∃ bb, bb = decide (¬ v = 0) := ⟨_, rfl⟩
  have hz0 : v = 0 → zb bb = 0 := fun z => by rw [hbb, decide_eq_false (fun q => q z)]; rfl
  have hz1 : ¬ v = 0 → zb bb = 1 := fun z => by rw [hbb, decide_eq_true z]; rfl
  refine lv_aload_n hx hb dL_law_128 rfl (lv_at hl 2 rfl) ?_
  refine zrd C hi X hl 1 0 rfl rfl hv dL_law_129 dL_law_130 dL_law_132 dL_law_133 dL_law_134 ?_
  have h143 : W p l e room_1 s m #[.ref b] below meth c H locs cells slots Q (F0 m 143 ls [.int (zb bb), .ref h]) := by
    refine zsubVi (n := 1) (As := [.int (zb bb)]) (rest := []) (ci := 0) (C := RX0) (T := TX0) (N := 11) (wc := oQ h (q0, q1, q2, q3, q4, q5, q6, q7, q8, q9, q10)) (wr := oOut g o f ++ oM g a (bk, nI pn, hd, ph, ot, wi, ik, th, P, O, K, kd, lf, ch, be, gi, mr)) [0] [1, 2, 3, 4, 5, 6, 7, 8, 9, 10, 11] rfl rfl rfl rfl (by decide) C.1 X zStL (fun _ _ h => h) (c_X0_begin l g bL h q0 q1 q2 q3 q4 q5 q6 q7 q8 q9 q10 bb) gL_law_X0_begin rfl ⟨rfl, by decide, by decide, by decide +kernel⟩ ⟨Nat.le_of_ble_eq_true rfl, Nat.le_of_ble_eq_true rfl⟩ rfl rfl rfl rfl hl.1 (Nat.le_of_ble_eq_true rfl) dL_law_143 hcs0 (fun r1 u H locs hp1 X => ?_)
    obtain ⟨u0, u1, u2, u3, u4, u5, u6, u7, u8, u9, u10⟩ := u
    refine lv_aload_n hx hb dL_law_146 rfl (lv_at hl 3 rfl) ?_
    refine zrd C hi X hl 1 0 rfl rfl hv dL_law_147 dL_law_148 dL_law_150 dL_law_151 dL_law_152 ?_
    have h161 : W p l e room_1 s m #[.ref b] below meth c H locs cells slots Q (F0 m 161 ls [.int (zb bb), .ref (a 0), .int r1]) := by
      refine zsubVi (n := 1) (As := [.int (zb bb)]) (rest := [.int r1]) (ci := 1) (C := RX1) (T := TX1) (N := 17) (wc := oM g a (bk, nI pn, hd, ph, ot, wi, ik, th, P, O, K, kd, lf, ch, be, gi, mr)) (wr := oOut g o f ++ oQ h (u0, u1, u2, u3, u4, u5, u6, u7, u8, u9, u10)) [1, 2, 3, 4, 5, 6, 7, 8, 9, 10] [0, 11] rfl rfl rfl rfl (by decide) C.1 X zSt0 (fun _ _ _ => trivial) (c_X1_begin l g a bk pn hd ph ot wi ik th P O K kd lf ch be gi mr bb) gL_law_X1_begin rfl ⟨rfl, by decide, by decide, by decide +kernel⟩ ⟨Nat.le_of_ble_eq_true rfl, Nat.le_of_ble_eq_true rfl⟩ rfl rfl rfl rfl hl.1 (Nat.le_of_ble_eq_true rfl) dL_law_161 hcs0 (fun r2 w H locs hp2 X => ?_)
      obtain ⟨bk2, pl2, hd2, ph2, ot2, wi2, ik2, th2, P2, O2, K2, kd2, lf2, ch2, be2, gi2, mr2⟩ := w
      obtain ⟨heq, hrel⟩ := R_begin hR hp1 hp2
      have X : zh g (fun q => s.heap.size ≤ q) (WL g h a o (u0, u1, u2, u3, u4, u5, u6, u7, u8, u9, u10) (bk2, pl2, hd2, ph2, ot2, wi2, ik2, th2, P2, O2, K2, kd2, lf2, ch2, be2, gi2, mr2) f) s.heap H locs := zhsub X [1, 0, 2, 3, 4, 5, 6, 7, 8, 9, 10, 11] rfl rfl
      exact lv_icmp_eq (tgt := 816) hx hb dL_law_164 (by decide) (fun _ => W.widen (by omega) (by omega) (kk _ _ f H locs ls hrel X hl)) (fun c1 => absurd heq c1)
    refine lv_if_eq (tgt := 160) hx hb dL_law_153 (by decide) (fun c1 => ?_) (fun c1 => ?_)
    · rw [hz0 c1] at h161
      exact lv_iconst (v := (0 : Int32)) hx hb dL_law_160 (by decide) h161
    · rw [hz1 c1] at h161
      exact lv_iconst (v := (1 : Int32)) hx hb dL_law_156 (by decide) (lv_goto (tgt := 161) hx hb dL_law_157 (by decide) h161)
  refine lv_if_eq (tgt := 142) hx hb dL_law_135 (by decide) (fun c1 => ?_) (fun c1 => ?_)
  · rw [hz0 c1] at h143
    exact lv_iconst (v := (0 : Int32)) hx hb dL_law_142 (by decide) h143
  · rw [hz1 c1] at h143
    exact lv_iconst (v := (1 : Int32)) hx hb dL_law_138 (by decide) (lv_goto (tgt := 143) hx hb dL_law_139 (by decide) h143)
set_option maxHeartbeats 1000000 in
set_option maxRecDepth 100000 in
theorem s_phase (C : LZ p m c s b L xs bL g) (hi : i + 1 < L) (hcs : cells + 1 ≤ room_1.cells ∧ slots + 6 ≤ room_1.slots) (hR : RelE q0 q1 q2 q3 q4 q5 q6 q7 q8 q9 q10 bk pn hd ph ot wi ik P O K) (X : zh g (fun q => s.heap.size ≤ q) (WL g h a o (q0, q1, q2, q3, q4, q5, q6, q7, q8, q9, q10) (bk, nI pn, hd, ph, ot, wi, ik, th, P, O, K, kd, lf, ch, be, gi, mr) f) s.heap H locs) (hl : lv_has ls 7 (lvL b h (a 0) o i)) (kk : LK p l e s m b below meth c g h o a i cells slots Q) : W p l e room_1 s m #[.ref b] below meth c H locs cells slots Q (F0 m 281 ls []) := by
  have hx := C.1.1.1
  have hb := C.1.1.2.1
  have hcs0 : cells ≤ room_1.cells ∧ slots ≤ room_1.slots := ⟨by omega, by omega⟩
  refine lv_aload_n hx hb dL_law_281 rfl (lv_at hl 2 rfl) ?_
  refine zsubVi (n := 0) (As := []) (rest := []) (ci := 0) (C := RX0) (T := TX0) (N := 11) (wc := oQ h (q0, q1, q2, q3, q4, q5, q6, q7, q8, q9, q10)) (wr := oOut g o f ++ oM g a (bk, nI pn, hd, ph, ot, wi, ik, th, P, O, K, kd, lf, ch, be, gi, mr)) [0] [1, 2, 3, 4, 5, 6, 7, 8, 9, 10, 11] rfl rfl rfl rfl (by decide) C.1 X zStL (fun _ _ h => h) (c_X0_phase l g bL h q0 q1 q2 q3 q4 q5 q6 q7 q8 q9 q10) gL_law_X0_phase rfl ⟨rfl, by decide, by decide, by decide +kernel⟩ ⟨Nat.le_of_ble_eq_true rfl, Nat.le_of_ble_eq_true rfl⟩ rfl rfl rfl rfl hl.1 (Nat.le_of_ble_eq_true rfl) dL_law_282 hcs0 (fun r1 u H locs hp1 X => ?_)
  obtain ⟨u0, u1, u2, u3, u4, u5, u6, u7, u8, u9, u10⟩ := u
  refine lv_aload_n hx hb dL_law_285 rfl (lv_at hl 3 rfl) ?_
  refine zsubVi (n := 0) (As := []) (rest := [.int r1]) (ci := 1) (C := RX1) (T := TX1) (N := 17) (wc := oM g a (bk, nI pn, hd, ph, ot, wi, ik, th, P, O, K, kd, lf, ch, be, gi, mr)) (wr := oOut g o f ++ oQ h (u0, u1, u2, u3, u4, u5, u6, u7, u8, u9, u10)) [1, 2, 3, 4, 5, 6, 7, 8, 9, 10] [0, 11] rfl rfl rfl rfl (by decide) C.1 X zSt0 (fun _ _ _ => trivial) (c_X1_phase l g a bk pn hd ph ot wi ik th P O K kd lf ch be gi mr) gL_law_X1_phase rfl ⟨rfl, by decide, by decide, by decide +kernel⟩ ⟨Nat.le_of_ble_eq_true rfl, Nat.le_of_ble_eq_true rfl⟩ rfl rfl rfl rfl hl.1 (Nat.le_of_ble_eq_true rfl) dL_law_286 hcs0 (fun r2 w H locs hp2 X => ?_)
  obtain ⟨bk2, pl2, hd2, ph2, ot2, wi2, ik2, th2, P2, O2, K2, kd2, lf2, ch2, be2, gi2, mr2⟩ := w
  obtain ⟨heq, hrel⟩ := R_phase hR hp1 hp2
  have X : zh g (fun q => s.heap.size ≤ q) (WL g h a o (u0, u1, u2, u3, u4, u5, u6, u7, u8, u9, u10) (bk2, pl2, hd2, ph2, ot2, wi2, ik2, th2, P2, O2, K2, kd2, lf2, ch2, be2, gi2, mr2) f) s.heap H locs := zhsub X [1, 0, 2, 3, 4, 5, 6, 7, 8, 9, 10, 11] rfl rfl
  exact lv_icmp_eq (tgt := 816) hx hb dL_law_289 (by decide) (fun _ => W.widen (by omega) (by omega) (kk _ _ f H locs ls hrel X hl)) (fun c1 => absurd heq c1)
set_option maxHeartbeats 1000000 in
set_option maxRecDepth 100000 in
theorem s_onTurn (C : LZ p m c s b L xs bL g) (hi : i + 1 < L) (hcs : cells + 1 ≤ room_1.cells ∧ slots + 6 ≤ room_1.slots) (hR : RelE q0 q1 q2 q3 q4 q5 q6 q7 q8 q9 q10 bk pn hd ph ot wi ik P O K) (X : zh g (fun q => s.heap.size ≤ q) (WL g h a o (q0, q1, q2, q3, q4, q5, q6, q7, q8, q9, q10) (bk, nI pn, hd, ph, ot, wi, ik, th, P, O, K, kd, lf, ch, be, gi, mr) f) s.heap H locs) (hl : lv_has ls 7 (lvL b h (a 0) o i)) (kk : LK p l e s m b below meth c g h o a i cells slots Q) : W p l e room_1 s m #[.ref b] below meth c H locs cells slots Q (F0 m 294 ls []) := by
  have hx := C.1.1.1
  have hb := C.1.1.2.1
  have hcs0 : cells ≤ room_1.cells ∧ slots ≤ room_1.slots := ⟨by omega, by omega⟩
  refine lv_aload_n hx hb dL_law_294 rfl (lv_at hl 2 rfl) ?_
  refine zsubVi (n := 0) (As := []) (rest := []) (ci := 0) (C := RX0) (T := TX0) (N := 11) (wc := oQ h (q0, q1, q2, q3, q4, q5, q6, q7, q8, q9, q10)) (wr := oOut g o f ++ oM g a (bk, nI pn, hd, ph, ot, wi, ik, th, P, O, K, kd, lf, ch, be, gi, mr)) [0] [1, 2, 3, 4, 5, 6, 7, 8, 9, 10, 11] rfl rfl rfl rfl (by decide) C.1 X zStL (fun _ _ h => h) (c_X0_onTurn l g bL h q0 q1 q2 q3 q4 q5 q6 q7 q8 q9 q10) gL_law_X0_onTurn rfl ⟨rfl, by decide, by decide, by decide +kernel⟩ ⟨Nat.le_of_ble_eq_true rfl, Nat.le_of_ble_eq_true rfl⟩ rfl rfl rfl rfl hl.1 (Nat.le_of_ble_eq_true rfl) dL_law_295 hcs0 (fun r1 u H locs hp1 X => ?_)
  obtain ⟨u0, u1, u2, u3, u4, u5, u6, u7, u8, u9, u10⟩ := u
  refine lv_aload_n hx hb dL_law_298 rfl (lv_at hl 3 rfl) ?_
  refine zsubVi (n := 0) (As := []) (rest := [.int r1]) (ci := 1) (C := RX1) (T := TX1) (N := 17) (wc := oM g a (bk, nI pn, hd, ph, ot, wi, ik, th, P, O, K, kd, lf, ch, be, gi, mr)) (wr := oOut g o f ++ oQ h (u0, u1, u2, u3, u4, u5, u6, u7, u8, u9, u10)) [1, 2, 3, 4, 5, 6, 7, 8, 9, 10] [0, 11] rfl rfl rfl rfl (by decide) C.1 X zSt0 (fun _ _ _ => trivial) (c_X1_onTurn l g a bk pn hd ph ot wi ik th P O K kd lf ch be gi mr) gL_law_X1_onTurn rfl ⟨rfl, by decide, by decide, by decide +kernel⟩ ⟨Nat.le_of_ble_eq_true rfl, Nat.le_of_ble_eq_true rfl⟩ rfl rfl rfl rfl hl.1 (Nat.le_of_ble_eq_true rfl) dL_law_299 hcs0 (fun r2 w H locs hp2 X => ?_)
  obtain ⟨bk2, pl2, hd2, ph2, ot2, wi2, ik2, th2, P2, O2, K2, kd2, lf2, ch2, be2, gi2, mr2⟩ := w
  obtain ⟨heq, hrel⟩ := R_onTurn hR hp1 hp2
  have X : zh g (fun q => s.heap.size ≤ q) (WL g h a o (u0, u1, u2, u3, u4, u5, u6, u7, u8, u9, u10) (bk2, pl2, hd2, ph2, ot2, wi2, ik2, th2, P2, O2, K2, kd2, lf2, ch2, be2, gi2, mr2) f) s.heap H locs := zhsub X [1, 0, 2, 3, 4, 5, 6, 7, 8, 9, 10, 11] rfl rfl
  exact lv_icmp_eq (tgt := 816) hx hb dL_law_302 (by decide) (fun _ => W.widen (by omega) (by omega) (kk _ _ f H locs ls hrel X hl)) (fun c1 => absurd heq c1)
set_option maxHeartbeats 1000000 in
set_option maxRecDepth 100000 in
theorem s_hand (C : LZ p m c s b L xs bL g) (hi : i + 1 < L) (hcs : cells + 1 ≤ room_1.cells ∧ slots + 6 ≤ room_1.slots) (hR : RelE q0 q1 q2 q3 q4 q5 q6 q7 q8 q9 q10 bk pn hd ph ot wi ik P O K) (X : zh g (fun q => s.heap.size ≤ q) (WL g h a o (q0, q1, q2, q3, q4, q5, q6, q7, q8, q9, q10) (bk, nI pn, hd, ph, ot, wi, ik, th, P, O, K, kd, lf, ch, be, gi, mr) f) s.heap H locs) (hl : lv_has ls 7 (lvL b h (a 0) o i)) (kk : LK p l e s m b below meth c g h o a i cells slots Q) : W p l e room_1 s m #[.ref b] below meth c H locs cells slots Q (F0 m 307 ls []) := by
  have hx := C.1.1.1
  have hb := C.1.1.2.1
  have hcs0 : cells ≤ room_1.cells ∧ slots ≤ room_1.slots := ⟨by omega, by omega⟩
  refine lv_aload_n hx hb dL_law_307 rfl (lv_at hl 2 rfl) ?_
  refine zsubVi (n := 0) (As := []) (rest := []) (ci := 0) (C := RX0) (T := TX0) (N := 11) (wc := oQ h (q0, q1, q2, q3, q4, q5, q6, q7, q8, q9, q10)) (wr := oOut g o f ++ oM g a (bk, nI pn, hd, ph, ot, wi, ik, th, P, O, K, kd, lf, ch, be, gi, mr)) [0] [1, 2, 3, 4, 5, 6, 7, 8, 9, 10, 11] rfl rfl rfl rfl (by decide) C.1 X zStL (fun _ _ h => h) (c_X0_hand l g bL h q0 q1 q2 q3 q4 q5 q6 q7 q8 q9 q10) gL_law_X0_hand rfl ⟨rfl, by decide, by decide, by decide +kernel⟩ ⟨Nat.le_of_ble_eq_true rfl, Nat.le_of_ble_eq_true rfl⟩ rfl rfl rfl rfl hl.1 (Nat.le_of_ble_eq_true rfl) dL_law_308 hcs0 (fun r1 u H locs hp1 X => ?_)
  obtain ⟨u0, u1, u2, u3, u4, u5, u6, u7, u8, u9, u10⟩ := u
  refine lv_aload_n hx hb dL_law_311 rfl (lv_at hl 3 rfl) ?_
  refine zsubVi (n := 0) (As := []) (rest := [.int r1]) (ci := 1) (C := RX1) (T := TX1) (N := 17) (wc := oM g a (bk, nI pn, hd, ph, ot, wi, ik, th, P, O, K, kd, lf, ch, be, gi, mr)) (wr := oOut g o f ++ oQ h (u0, u1, u2, u3, u4, u5, u6, u7, u8, u9, u10)) [1, 2, 3, 4, 5, 6, 7, 8, 9, 10] [0, 11] rfl rfl rfl rfl (by decide) C.1 X zSt0 (fun _ _ _ => trivial) (c_X1_hand l g a bk pn hd ph ot wi ik th P O K kd lf ch be gi mr) gL_law_X1_hand rfl ⟨rfl, by decide, by decide, by decide +kernel⟩ ⟨Nat.le_of_ble_eq_true rfl, Nat.le_of_ble_eq_true rfl⟩ rfl rfl rfl rfl hl.1 (Nat.le_of_ble_eq_true rfl) dL_law_312 hcs0 (fun r2 w H locs hp2 X => ?_)
  obtain ⟨bk2, pl2, hd2, ph2, ot2, wi2, ik2, th2, P2, O2, K2, kd2, lf2, ch2, be2, gi2, mr2⟩ := w
  obtain ⟨heq, hrel⟩ := R_hand hR hp1 hp2
  have X : zh g (fun q => s.heap.size ≤ q) (WL g h a o (u0, u1, u2, u3, u4, u5, u6, u7, u8, u9, u10) (bk2, pl2, hd2, ph2, ot2, wi2, ik2, th2, P2, O2, K2, kd2, lf2, ch2, be2, gi2, mr2) f) s.heap H locs := zhsub X [1, 0, 2, 3, 4, 5, 6, 7, 8, 9, 10, 11] rfl rfl
  exact lv_icmp_eq (tgt := 816) hx hb dL_law_315 (by decide) (fun _ => W.widen (by omega) (by omega) (kk _ _ f H locs ls hrel X hl)) (fun c1 => absurd heq c1)
set_option maxHeartbeats 1000000 in
set_option maxRecDepth 100000 in
theorem s_placed (C : LZ p m c s b L xs bL g) (hi : i + 1 < L) (hcs : cells + 1 ≤ room_1.cells ∧ slots + 6 ≤ room_1.slots) (hR : RelE q0 q1 q2 q3 q4 q5 q6 q7 q8 q9 q10 bk pn hd ph ot wi ik P O K) (X : zh g (fun q => s.heap.size ≤ q) (WL g h a o (q0, q1, q2, q3, q4, q5, q6, q7, q8, q9, q10) (bk, nI pn, hd, ph, ot, wi, ik, th, P, O, K, kd, lf, ch, be, gi, mr) f) s.heap H locs) (hl : lv_has ls 7 (lvL b h (a 0) o i)) (kk : LK p l e s m b below meth c g h o a i cells slots Q) : W p l e room_1 s m #[.ref b] below meth c H locs cells slots Q (F0 m 376 ls []) := by
  have hx := C.1.1.1
  have hb := C.1.1.2.1
  have hcs0 : cells ≤ room_1.cells ∧ slots ≤ room_1.slots := ⟨by omega, by omega⟩
  refine lv_aload_n hx hb dL_law_376 rfl (lv_at hl 2 rfl) ?_
  refine zsubVi (n := 0) (As := []) (rest := []) (ci := 0) (C := RX0) (T := TX0) (N := 11) (wc := oQ h (q0, q1, q2, q3, q4, q5, q6, q7, q8, q9, q10)) (wr := oOut g o f ++ oM g a (bk, nI pn, hd, ph, ot, wi, ik, th, P, O, K, kd, lf, ch, be, gi, mr)) [0] [1, 2, 3, 4, 5, 6, 7, 8, 9, 10, 11] rfl rfl rfl rfl (by decide) C.1 X zStL (fun _ _ h => h) (c_X0_placed l g bL h q0 q1 q2 q3 q4 q5 q6 q7 q8 q9 q10) gL_law_X0_placed rfl ⟨rfl, by decide, by decide, by decide +kernel⟩ ⟨Nat.le_of_ble_eq_true rfl, Nat.le_of_ble_eq_true rfl⟩ rfl rfl rfl rfl hl.1 (Nat.le_of_ble_eq_true rfl) dL_law_377 hcs0 (fun r1 u H locs hp1 X => ?_)
  obtain ⟨u0, u1, u2, u3, u4, u5, u6, u7, u8, u9, u10⟩ := u
  refine lv_aload_n hx hb dL_law_380 rfl (lv_at hl 3 rfl) ?_
  refine zsubVi (n := 0) (As := []) (rest := [.int r1]) (ci := 1) (C := RX1) (T := TX1) (N := 17) (wc := oM g a (bk, nI pn, hd, ph, ot, wi, ik, th, P, O, K, kd, lf, ch, be, gi, mr)) (wr := oOut g o f ++ oQ h (u0, u1, u2, u3, u4, u5, u6, u7, u8, u9, u10)) [1, 2, 3, 4, 5, 6, 7, 8, 9, 10] [0, 11] rfl rfl rfl rfl (by decide) C.1 X zSt0 (fun _ _ _ => trivial) (c_X1_placed l g a bk pn hd ph ot wi ik th P O K kd lf ch be gi mr) gL_law_X1_placed rfl ⟨rfl, by decide, by decide, by decide +kernel⟩ ⟨Nat.le_of_ble_eq_true rfl, Nat.le_of_ble_eq_true rfl⟩ rfl rfl rfl rfl hl.1 (Nat.le_of_ble_eq_true rfl) dL_law_381 hcs0 (fun r2 w H locs hp2 X => ?_)
  obtain ⟨bk2, pl2, hd2, ph2, ot2, wi2, ik2, th2, P2, O2, K2, kd2, lf2, ch2, be2, gi2, mr2⟩ := w
  obtain ⟨heq, hrel⟩ := R_placed hR hp1 hp2
  have X : zh g (fun q => s.heap.size ≤ q) (WL g h a o (u0, u1, u2, u3, u4, u5, u6, u7, u8, u9, u10) (bk2, pl2, hd2, ph2, ot2, wi2, ik2, th2, P2, O2, K2, kd2, lf2, ch2, be2, gi2, mr2) f) s.heap H locs := zhsub X [1, 0, 2, 3, 4, 5, 6, 7, 8, 9, 10, 11] rfl rfl
  exact lv_icmp_eq (tgt := 816) hx hb dL_law_384 (by decide) (fun _ => W.widen (by omega) (by omega) (kk _ _ f H locs ls hrel X hl)) (fun c1 => absurd heq c1)
set_option maxHeartbeats 1000000 in
set_option maxRecDepth 100000 in
theorem s_winner (C : LZ p m c s b L xs bL g) (hi : i + 1 < L) (hcs : cells + 1 ≤ room_1.cells ∧ slots + 6 ≤ room_1.slots) (hR : RelE q0 q1 q2 q3 q4 q5 q6 q7 q8 q9 q10 bk pn hd ph ot wi ik P O K) (X : zh g (fun q => s.heap.size ≤ q) (WL g h a o (q0, q1, q2, q3, q4, q5, q6, q7, q8, q9, q10) (bk, nI pn, hd, ph, ot, wi, ik, th, P, O, K, kd, lf, ch, be, gi, mr) f) s.heap H locs) (hl : lv_has ls 7 (lvL b h (a 0) o i)) (kk : LK p l e s m b below meth c g h o a i cells slots Q) : W p l e room_1 s m #[.ref b] below meth c H locs cells slots Q (F0 m 389 ls []) := by
  have hx := C.1.1.1
  have hb := C.1.1.2.1
  have hcs0 : cells ≤ room_1.cells ∧ slots ≤ room_1.slots := ⟨by omega, by omega⟩
  refine lv_aload_n hx hb dL_law_389 rfl (lv_at hl 2 rfl) ?_
  refine zsubVi (n := 0) (As := []) (rest := []) (ci := 0) (C := RX0) (T := TX0) (N := 11) (wc := oQ h (q0, q1, q2, q3, q4, q5, q6, q7, q8, q9, q10)) (wr := oOut g o f ++ oM g a (bk, nI pn, hd, ph, ot, wi, ik, th, P, O, K, kd, lf, ch, be, gi, mr)) [0] [1, 2, 3, 4, 5, 6, 7, 8, 9, 10, 11] rfl rfl rfl rfl (by decide) C.1 X zStL (fun _ _ h => h) (c_X0_winner l g bL h q0 q1 q2 q3 q4 q5 q6 q7 q8 q9 q10) gL_law_X0_winner rfl ⟨rfl, by decide, by decide, by decide +kernel⟩ ⟨Nat.le_of_ble_eq_true rfl, Nat.le_of_ble_eq_true rfl⟩ rfl rfl rfl rfl hl.1 (Nat.le_of_ble_eq_true rfl) dL_law_390 hcs0 (fun r1 u H locs hp1 X => ?_)
  obtain ⟨u0, u1, u2, u3, u4, u5, u6, u7, u8, u9, u10⟩ := u
  refine lv_aload_n hx hb dL_law_393 rfl (lv_at hl 3 rfl) ?_
  refine zsubVi (n := 0) (As := []) (rest := [.int r1]) (ci := 1) (C := RX1) (T := TX1) (N := 17) (wc := oM g a (bk, nI pn, hd, ph, ot, wi, ik, th, P, O, K, kd, lf, ch, be, gi, mr)) (wr := oOut g o f ++ oQ h (u0, u1, u2, u3, u4, u5, u6, u7, u8, u9, u10)) [1, 2, 3, 4, 5, 6, 7, 8, 9, 10] [0, 11] rfl rfl rfl rfl (by decide) C.1 X zSt0 (fun _ _ _ => trivial) (c_X1_winner l g a bk pn hd ph ot wi ik th P O K kd lf ch be gi mr) gL_law_X1_winner rfl ⟨rfl, by decide, by decide, by decide +kernel⟩ ⟨Nat.le_of_ble_eq_true rfl, Nat.le_of_ble_eq_true rfl⟩ rfl rfl rfl rfl hl.1 (Nat.le_of_ble_eq_true rfl) dL_law_394 hcs0 (fun r2 w H locs hp2 X => ?_)
  obtain ⟨bk2, pl2, hd2, ph2, ot2, wi2, ik2, th2, P2, O2, K2, kd2, lf2, ch2, be2, gi2, mr2⟩ := w
  obtain ⟨heq, hrel⟩ := R_winner hR hp1 hp2
  have X : zh g (fun q => s.heap.size ≤ q) (WL g h a o (u0, u1, u2, u3, u4, u5, u6, u7, u8, u9, u10) (bk2, pl2, hd2, ph2, ot2, wi2, ik2, th2, P2, O2, K2, kd2, lf2, ch2, be2, gi2, mr2) f) s.heap H locs := zhsub X [1, 0, 2, 3, 4, 5, 6, 7, 8, 9, 10, 11] rfl rfl
  exact lv_icmp_eq (tgt := 816) hx hb dL_law_397 (by decide) (fun _ => W.widen (by omega) (by omega) (kk _ _ f H locs ls hrel X hl)) (fun c1 => absurd heq c1)
set_option maxHeartbeats 1000000 in
set_option maxRecDepth 100000 in
theorem s_lines (C : LZ p m c s b L xs bL g) (hi : i + 1 < L) (hcs : cells + 1 ≤ room_1.cells ∧ slots + 6 ≤ room_1.slots) (hR : RelE q0 q1 q2 q3 q4 q5 q6 q7 q8 q9 q10 bk pn hd ph ot wi ik P O K) (X : zh g (fun q => s.heap.size ≤ q) (WL g h a o (q0, q1, q2, q3, q4, q5, q6, q7, q8, q9, q10) (bk, nI pn, hd, ph, ot, wi, ik, th, P, O, K, kd, lf, ch, be, gi, mr) f) s.heap H locs) (hl : lv_has ls 7 (lvL b h (a 0) o i)) (kk : LK p l e s m b below meth c g h o a i cells slots Q) : W p l e room_1 s m #[.ref b] below meth c H locs cells slots Q (F0 m 402 ls []) := by
  have hx := C.1.1.1
  have hb := C.1.1.2.1
  have hcs0 : cells ≤ room_1.cells ∧ slots ≤ room_1.slots := ⟨by omega, by omega⟩
  refine lv_aload_n hx hb dL_law_402 rfl (lv_at hl 2 rfl) ?_
  refine zsubVi (n := 0) (As := []) (rest := []) (ci := 0) (C := RX0) (T := TX0) (N := 11) (wc := oQ h (q0, q1, q2, q3, q4, q5, q6, q7, q8, q9, q10)) (wr := oOut g o f ++ oM g a (bk, nI pn, hd, ph, ot, wi, ik, th, P, O, K, kd, lf, ch, be, gi, mr)) [0] [1, 2, 3, 4, 5, 6, 7, 8, 9, 10, 11] rfl rfl rfl rfl (by decide) C.1 X zStL (fun _ _ h => h) (c_X0_lines l g bL h q0 q1 q2 q3 q4 q5 q6 q7 q8 q9 q10) gL_law_X0_lines rfl ⟨rfl, by decide, by decide, by decide +kernel⟩ ⟨Nat.le_of_ble_eq_true rfl, Nat.le_of_ble_eq_true rfl⟩ rfl rfl rfl rfl hl.1 (Nat.le_of_ble_eq_true rfl) dL_law_403 hcs0 (fun r1 u H locs hp1 X => ?_)
  obtain ⟨u0, u1, u2, u3, u4, u5, u6, u7, u8, u9, u10⟩ := u
  refine lv_aload_n hx hb dL_law_406 rfl (lv_at hl 3 rfl) ?_
  refine zsubVi (n := 0) (As := []) (rest := [.int r1]) (ci := 1) (C := RX1) (T := TX1) (N := 17) (wc := oM g a (bk, nI pn, hd, ph, ot, wi, ik, th, P, O, K, kd, lf, ch, be, gi, mr)) (wr := oOut g o f ++ oQ h (u0, u1, u2, u3, u4, u5, u6, u7, u8, u9, u10)) [1, 2, 3, 4, 5, 6, 7, 8, 9, 10] [0, 11] rfl rfl rfl rfl (by decide) C.1 X zSt0 (fun _ _ _ => trivial) (c_X1_lines l g a bk pn hd ph ot wi ik th P O K kd lf ch be gi mr) gL_law_X1_lines rfl ⟨rfl, by decide, by decide, by decide +kernel⟩ ⟨Nat.le_of_ble_eq_true rfl, Nat.le_of_ble_eq_true rfl⟩ rfl rfl rfl rfl hl.1 (Nat.le_of_ble_eq_true rfl) dL_law_407 hcs0 (fun r2 w H locs hp2 X => ?_)
  obtain ⟨bk2, pl2, hd2, ph2, ot2, wi2, ik2, th2, P2, O2, K2, kd2, lf2, ch2, be2, gi2, mr2⟩ := w
  obtain ⟨heq, hrel⟩ := R_lines hR hp1 hp2
  have X : zh g (fun q => s.heap.size ≤ q) (WL g h a o (u0, u1, u2, u3, u4, u5, u6, u7, u8, u9, u10) (bk2, pl2, hd2, ph2, ot2, wi2, ik2, th2, P2, O2, K2, kd2, lf2, ch2, be2, gi2, mr2) f) s.heap H locs := zhsub X [1, 0, 2, 3, 4, 5, 6, 7, 8, 9, 10, 11] rfl rfl
  exact lv_icmp_eq (tgt := 816) hx hb dL_law_410 (by decide) (fun _ => W.widen (by omega) (by omega) (kk _ _ f H locs ls hrel X hl)) (fun c1 => absurd heq c1)
set_option maxHeartbeats 1000000 in
set_option maxRecDepth 100000 in
theorem s_keep (C : LZ p m c s b L xs bL g) (hi : i + 1 < L) (hcs : cells + 1 ≤ room_1.cells ∧ slots + 6 ≤ room_1.slots) (hR : RelE q0 q1 q2 q3 q4 q5 q6 q7 q8 q9 q10 bk pn hd ph ot wi ik P O K) (X : zh g (fun q => s.heap.size ≤ q) (WL g h a o (q0, q1, q2, q3, q4, q5, q6, q7, q8, q9, q10) (bk, nI pn, hd, ph, ot, wi, ik, th, P, O, K, kd, lf, ch, be, gi, mr) f) s.heap H locs) (hl : lv_has ls 7 (lvL b h (a 0) o i)) (kk : LK p l e s m b below meth c g h o a i cells slots Q) : W p l e room_1 s m #[.ref b] below meth c H locs cells slots Q (F0 m 739 ls []) := by
  have hx := C.1.1.1
  have hb := C.1.1.2.1
  have hcs0 : cells ≤ room_1.cells ∧ slots ≤ room_1.slots := ⟨by omega, by omega⟩
  refine lv_aload_n hx hb dL_law_739 rfl (lv_at hl 2 rfl) ?_
  refine zsubVi (n := 0) (As := []) (rest := []) (ci := 0) (C := RX0) (T := TX0) (N := 11) (wc := oQ h (q0, q1, q2, q3, q4, q5, q6, q7, q8, q9, q10)) (wr := oOut g o f ++ oM g a (bk, nI pn, hd, ph, ot, wi, ik, th, P, O, K, kd, lf, ch, be, gi, mr)) [0] [1, 2, 3, 4, 5, 6, 7, 8, 9, 10, 11] rfl rfl rfl rfl (by decide) C.1 X zStL (fun _ _ h => h) (c_X0_keep l g bL h q0 q1 q2 q3 q4 q5 q6 q7 q8 q9 q10) gL_law_X0_keep rfl ⟨rfl, by decide, by decide, by decide +kernel⟩ ⟨Nat.le_of_ble_eq_true rfl, Nat.le_of_ble_eq_true rfl⟩ rfl rfl rfl rfl hl.1 (Nat.le_of_ble_eq_true rfl) dL_law_740 hcs0 (fun r1 u H locs hp1 X => ?_)
  obtain ⟨u0, u1, u2, u3, u4, u5, u6, u7, u8, u9, u10⟩ := u
  refine lv_aload_n hx hb dL_law_743 rfl (lv_at hl 3 rfl) ?_
  refine zsubVi (n := 0) (As := []) (rest := [.int r1]) (ci := 1) (C := RX1) (T := TX1) (N := 17) (wc := oM g a (bk, nI pn, hd, ph, ot, wi, ik, th, P, O, K, kd, lf, ch, be, gi, mr)) (wr := oOut g o f ++ oQ h (u0, u1, u2, u3, u4, u5, u6, u7, u8, u9, u10)) [1, 2, 3, 4, 5, 6, 7, 8, 9, 10] [0, 11] rfl rfl rfl rfl (by decide) C.1 X zSt0 (fun _ _ _ => trivial) (c_X1_keep l g a bk pn hd ph ot wi ik th P O K kd lf ch be gi mr) gL_law_X1_keep rfl ⟨rfl, by decide, by decide, by decide +kernel⟩ ⟨Nat.le_of_ble_eq_true rfl, Nat.le_of_ble_eq_true rfl⟩ rfl rfl rfl rfl hl.1 (Nat.le_of_ble_eq_true rfl) dL_law_744 hcs0 (fun r2 w H locs hp2 X => ?_)
  obtain ⟨bk2, pl2, hd2, ph2, ot2, wi2, ik2, th2, P2, O2, K2, kd2, lf2, ch2, be2, gi2, mr2⟩ := w
  obtain ⟨heq, hrel⟩ := R_keep hR hp1 hp2
  have X : zh g (fun q => s.heap.size ≤ q) (WL g h a o (u0, u1, u2, u3, u4, u5, u6, u7, u8, u9, u10) (bk2, pl2, hd2, ph2, ot2, wi2, ik2, th2, P2, O2, K2, kd2, lf2, ch2, be2, gi2, mr2) f) s.heap H locs := zhsub X [1, 0, 2, 3, 4, 5, 6, 7, 8, 9, 10, 11] rfl rfl
  exact lv_icmp_eq (tgt := 816) hx hb dL_law_747 (by decide) (fun _ => W.widen (by omega) (by omega) (kk _ _ f H locs ls hrel X hl)) (fun c1 => absurd heq c1)
set_option maxHeartbeats 1000000 in
set_option maxRecDepth 100000 in
theorem s_symmetries (C : LZ p m c s b L xs bL g) (hi : i + 1 < L) (hcs : cells + 1 ≤ room_1.cells ∧ slots + 6 ≤ room_1.slots) (hR : RelE q0 q1 q2 q3 q4 q5 q6 q7 q8 q9 q10 bk pn hd ph ot wi ik P O K) (X : zh g (fun q => s.heap.size ≤ q) (WL g h a o (q0, q1, q2, q3, q4, q5, q6, q7, q8, q9, q10) (bk, nI pn, hd, ph, ot, wi, ik, th, P, O, K, kd, lf, ch, be, gi, mr) f) s.heap H locs) (hl : lv_has ls 7 (lvL b h (a 0) o i)) (kk : LK p l e s m b below meth c g h o a i cells slots Q) : W p l e room_1 s m #[.ref b] below meth c H locs cells slots Q (F0 m 803 ls []) := by
  have hx := C.1.1.1
  have hb := C.1.1.2.1
  have hcs0 : cells ≤ room_1.cells ∧ slots ≤ room_1.slots := ⟨by omega, by omega⟩
  refine lv_aload_n hx hb dL_law_803 rfl (lv_at hl 2 rfl) ?_
  refine zsubVi (n := 0) (As := []) (rest := []) (ci := 0) (C := RX0) (T := TX0) (N := 11) (wc := oQ h (q0, q1, q2, q3, q4, q5, q6, q7, q8, q9, q10)) (wr := oOut g o f ++ oM g a (bk, nI pn, hd, ph, ot, wi, ik, th, P, O, K, kd, lf, ch, be, gi, mr)) [0] [1, 2, 3, 4, 5, 6, 7, 8, 9, 10, 11] rfl rfl rfl rfl (by decide) C.1 X zStL (fun _ _ h => h) (c_X0_symmetries l g bL h q0 q1 q2 q3 q4 q5 q6 q7 q8 q9 q10) gL_law_X0_symmetries rfl ⟨rfl, by decide, by decide, by decide +kernel⟩ ⟨Nat.le_of_ble_eq_true rfl, Nat.le_of_ble_eq_true rfl⟩ rfl rfl rfl rfl hl.1 (Nat.le_of_ble_eq_true rfl) dL_law_804 hcs0 (fun r1 u H locs hp1 X => ?_)
  obtain ⟨u0, u1, u2, u3, u4, u5, u6, u7, u8, u9, u10⟩ := u
  refine lv_aload_n hx hb dL_law_807 rfl (lv_at hl 3 rfl) ?_
  refine zsubVi (n := 0) (As := []) (rest := [.int r1]) (ci := 1) (C := RX1) (T := TX1) (N := 17) (wc := oM g a (bk, nI pn, hd, ph, ot, wi, ik, th, P, O, K, kd, lf, ch, be, gi, mr)) (wr := oOut g o f ++ oQ h (u0, u1, u2, u3, u4, u5, u6, u7, u8, u9, u10)) [1, 2, 3, 4, 5, 6, 7, 8, 9, 10] [0, 11] rfl rfl rfl rfl (by decide) C.1 X zSt0 (fun _ _ _ => trivial) (c_X1_symmetries l g a bk pn hd ph ot wi ik th P O K kd lf ch be gi mr) gL_law_X1_symmetries rfl ⟨rfl, by decide, by decide, by decide +kernel⟩ ⟨Nat.le_of_ble_eq_true rfl, Nat.le_of_ble_eq_true rfl⟩ rfl rfl rfl rfl hl.1 (Nat.le_of_ble_eq_true rfl) dL_law_808 hcs0 (fun r2 w H locs hp2 X => ?_)
  obtain ⟨bk2, pl2, hd2, ph2, ot2, wi2, ik2, th2, P2, O2, K2, kd2, lf2, ch2, be2, gi2, mr2⟩ := w
  obtain ⟨heq, hrel⟩ := R_symmetries hR hp1 hp2
  have X : zh g (fun q => s.heap.size ≤ q) (WL g h a o (u0, u1, u2, u3, u4, u5, u6, u7, u8, u9, u10) (bk2, pl2, hd2, ph2, ot2, wi2, ik2, th2, P2, O2, K2, kd2, lf2, ch2, be2, gi2, mr2) f) s.heap H locs := zhsub X [1, 0, 2, 3, 4, 5, 6, 7, 8, 9, 10, 11] rfl rfl
  exact lv_icmp_eq (tgt := 816) hx hb dL_law_811 (by decide) (fun _ => W.widen (by omega) (by omega) (kk _ _ f H locs ls hrel X hl)) (fun c1 => absurd heq c1)
end LP
