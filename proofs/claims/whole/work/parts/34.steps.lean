/-! the law: one step for each operation -/
abbrev WL (g : zG) (h : Nat) (a : Nat → Nat) (o : Nat) (u : QS) (w : MS) (f : Nat → Int64) : va_W := WH g h o (u, f) ++ oM g a w
def LZ (p : Program) (m : MethodId) (c : Code) (s : State) (b L : Nat) (xs : Nat → Int32) (bL : Nat) (g : zG) : Prop := zc p m c cL_law 7 s #[.ref b] wsL_law RL g (fun q => s.heap.size ≤ q) (zEL bL) ∧ va_X b L xs s s.heap ∧ b < s.heap.size ∧ L ≤ 1024
abbrev lvL (b h a0 o i : Nat) : List (Nat × Value) := [(4, .int (nI i)), (0, .ref b), (1, .ref h), (2, .ref a0), (3, .ref o)]
def LK (p : Program) (l : Launch) (e : Env) (s : State) (m : MethodId) (b : Nat) (below : List Frame) (meth : Method) (c : Code) (g : zG) (h o : Nat) (a : Nat → Nat) (i cells slots : Nat) (Q : State → Prop) : Prop :=
  ∀ (u : QS) (w : MS) (f : Nat → Int64) (H : Heap) (locs : List Loc) (ls : Array Slot), RelT u w → zh g (fun q => s.heap.size ≤ q) (WL g h a o u w f) s.heap H locs → lv_has ls 7 (lvL b h (a 0) o i) → W p l e room_1 s m #[.ref b] below meth c H locs (cells + 1) (slots + 6) Q (F0 m 816 ls [])
theorem nI_s (k : Nat) : nI k + 1 = nI (k + 1) := nI_1 k
theorem RelT_pn {u : QS} {bk pl hd ph ot wi ik th : Int32} {P O K kd lf ch be gi mr : Nat → Int32} (h : RelT u (bk, pl, hd, ph, ot, wi, ik, th, P, O, K, kd, lf, ch, be, gi, mr)) : ∃ pn : Nat, pl = nI pn := by
  obtain ⟨q0, q1, q2, q3, q4, q5, q6, q7, q8, q9, q10⟩ := u
  obtain ⟨pn, e, _⟩ := h
  exact ⟨pn, e⟩
theorem cmp_eq (x : Int64) : lg_cmp x x = 0 := by
  unfold lg_cmp
  rw [if_neg (show ¬ x > x from Int64.lt_irrefl), if_pos rfl]
section LP
variable {p : Program} {l : Launch} {e : Env} {s : State} {m : MethodId} {below : List Frame} {meth : Method} {c : Code} {g : zG} {b L bL h o : Nat} {xs : Nat → Int32} {a : Nat → Nat} {Q : State → Prop} {i cells slots : Nat}
variable {q0 q1 q2 q3 q4 q5 q6 : Int32} {q7 : Int64} {q8 q9 : Int32} {q10 : Int64} {bk : Int32} {pn : Nat} {hd ph ot wi ik th : Int32} {P O K kd lf ch be gi mr : Nat → Int32} {f : Nat → Int64} {H : Heap} {locs : List Loc} {ls : Array Slot}
theorem zrd {pc : Nat} {rest : List Value} {v : Int32} (C : LZ p m c s b L xs bL g) (hi : i + 1 < L) {ws : va_W} (X : zh g (fun q => s.heap.size ≤ q) ws s.heap H locs) {lv : List (Nat × Value)} (hl : lv_has ls 7 lv) (j0 j4 : Nat) (h0 : lv[j0]? = some (0, .ref b)) (h4 : lv[j4]? = some (4, .int (nI i))) (hv : v = xs (nI (i + 1)).toNatClampNeg)
    (d0 : decode cL_law pc = .ok (.aload_n 0, 1)) (d1 : decode cL_law (pc + 1) = .ok (.iload 4, 2)) (d3 : decode cL_law (pc + 3) = .ok (.iconst 1, 1)) (d4 : decode cL_law (pc + 4) = .ok (.iadd, 1)) (d5 : decode cL_law (pc + 5) = .ok (.iaload, 1))
    (kk : W p l e room_1 s m #[.ref b] below meth c H locs cells slots Q (F0 m (pc + 6) ls (.int v :: rest))) : W p l e room_1 s m #[.ref b] below meth c H locs cells slots Q (F0 m pc ls rest) := by
  have hx := C.1.1.1
  have hb := C.1.1.2.1
  have hL := C.2.2.2
  subst hv
  refine lv_aload_n hx hb d0 rfl (lv_at hl j0 h0) ?_
  refine lv_iload hx hb d1 (lv_at hl j4 h4) ?_
  refine lv_iconst (v := (1 : Int32)) hx hb d3 (by decide) ?_
  refine lv_iadd hx hb d4 ?_
  refine zrwi (nI_s i) ?_
  exact va_sld hx hb C.2.1 C.2.2.1 (Nat.not_le.mpr C.2.2.1) X.2.2 (vp_in_nI hi (by omega)) d5 kk
set_option maxHeartbeats 1000000 in
set_option maxRecDepth 100000 in
theorem s_give (C : LZ p m c s b L xs bL g) (htr : l.stackTraces = false) (hi : i + 1 < L) (hcs : cells + 1 ≤ room_1.cells ∧ slots + 6 ≤ room_1.slots) (hR : RelE q0 q1 q2 q3 q4 q5 q6 q7 q8 q9 q10 bk pn hd ph ot wi ik P O K) (X : zh g (fun q => s.heap.size ≤ q) (WL g h a o (q0, q1, q2, q3, q4, q5, q6, q7, q8, q9, q10) (bk, nI pn, hd, ph, ot, wi, ik, th, P, O, K, kd, lf, ch, be, gi, mr) f) s.heap H locs) (hl : lv_has ls 7 (lvL b h (a 0) o i)) (kk : LK p l e s m b below meth c g h o a i cells slots Q) : W p l e room_1 s m #[.ref b] below meth c H locs cells slots Q (F0 m 169 ls []) := by
  have hx := C.1.1.1
  have hb := C.1.1.2.1
  obtain ⟨v, hv⟩ : ∃ v, v = xs (nI (i + 1)).toNatClampNeg := ⟨_, rfl⟩
  refine lv_aload_n hx hb dL_law_169 rfl (lv_at hl 2 rfl) ?_
  refine zrd C hi X hl 1 0 rfl rfl hv dL_law_170 dL_law_171 dL_law_173 dL_law_174 dL_law_175 ?_
  refine lv_aload_n hx hb dL_law_176 rfl (lv_at hl 4 rfl) ?_
  refine zsubSi (n := 3) (As := [.ref h, .int v, .ref o]) (rest := []) (wc := WH g h o ((q0, q1, q2, q3, q4, q5, q6, q7, q8, q9, q10), f)) (wr := oM g a (bk, nI pn, hd, ph, ot, wi, ik, th, P, O, K, kd, lf, ch, be, gi, mr)) [0, 1] [2, 3, 4, 5, 6, 7, 8, 9, 10, 11] rfl rfl rfl rfl (by decide) C.1 X (c_L_give l g bL h o q0 q1 q2 q3 q4 q5 q6 q7 q8 q9 q10 v f htr) gL_law_L_give rfl ⟨by decide, by decide, by decide +kernel⟩ ⟨Nat.le_of_ble_eq_true rfl, Nat.le_of_ble_eq_true rfl⟩ rfl rfl hl.1 (Nat.le_of_ble_eq_true rfl) dL_law_177 hcs (fun k u H locs hp1 X => ?_)
  refine lv_istore (lv' := (5, .int k) :: lvL b h (a 0) o i) hx hb dL_law_180 hl (by decide) rfl (fun ls hl => ?_)
  refine lv_aload_n hx hb dL_law_182 rfl (lv_at hl 4 rfl) ?_
  refine zrd C hi X hl 2 1 rfl rfl hv dL_law_183 dL_law_184 dL_law_186 dL_law_187 dL_law_188 ?_
  refine zsubVi (n := 1) (As := [.int v]) (rest := []) (ci := 1) (C := RX1) (T := TX1) (N := 17) (wc := oM g a (bk, nI pn, hd, ph, ot, wi, ik, th, P, O, K, kd, lf, ch, be, gi, mr)) (wr := WH g h o u) [0, 1, 2, 3, 4, 5, 6, 7, 8, 9] [10, 11] rfl rfl rfl rfl (by decide) C.1 X zSt0 (fun _ _ _ => trivial) (c_X1_give l g a bk pn hd ph ot wi ik th P O K kd lf ch be gi mr v) gL_law_X1_give rfl ⟨rfl, by decide, by decide, by decide +kernel⟩ ⟨Nat.le_of_ble_eq_true rfl, Nat.le_of_ble_eq_true rfl⟩ rfl rfl rfl rfl hl.1 (Nat.le_of_ble_eq_true rfl) dL_law_189 hcs (fun r w H locs hp2 X => ?_)
  obtain ⟨bk2, pl2, hd2, ph2, ot2, wi2, ik2, th2, P2, O2, K2, kd2, lf2, ch2, be2, gi2, mr2⟩ := w
  obtain ⟨hth, hout, hrel⟩ := R_give hR hp1 hp2
  obtain ⟨pn2, rfl⟩ := RelT_pn hrel
  refine lv_istore (lv' := (6, .int r) :: (5, .int k) :: lvL b h (a 0) o i) hx hb dL_law_192 hl (by decide) rfl (fun ls hl => ?_)
  refine lv_aload_n hx hb dL_law_194 rfl (lv_at hl 5 rfl) ?_
  refine zsubVi (n := 0) (As := []) (rest := []) (ci := 1) (C := RX1) (T := TX1) (N := 17) (wc := oM g a (bk2, nI pn2, hd2, ph2, ot2, wi2, ik2, th2, P2, O2, K2, kd2, lf2, ch2, be2, gi2, mr2)) (wr := WH g h o u) [2, 3, 4, 5, 6, 7, 8, 9, 10, 11] [0, 1] rfl rfl rfl rfl (by decide) C.1 X zSt0 (fun _ _ _ => trivial) (c_X1_thrown l g a bk2 pn2 hd2 ph2 ot2 wi2 ik2 th2 P2 O2 K2 kd2 lf2 ch2 be2 gi2 mr2) gL_law_X1_thrown rfl ⟨rfl, by decide, by decide, by decide +kernel⟩ ⟨Nat.le_of_ble_eq_true rfl, Nat.le_of_ble_eq_true rfl⟩ rfl rfl rfl rfl hl.1 (Nat.le_of_ble_eq_true rfl) dL_law_195 hcs (fun r3 w3 H locs hp3 X => ?_)
  obtain ⟨e3, hr3⟩ := hp3
  rw [e3] at X
  have hr3 : r3 = k := hr3.trans hth
  refine lv_iload hx hb dL_law_198 (lv_at hl 1 rfl) ?_
  refine lv_icmp_eq (tgt := 205) hx hb dL_law_200 (by decide) (fun _ => ?_) (fun c1 => absurd hr3 c1)
  refine lv_iload hx hb dL_law_205 (lv_at hl 1 rfl) ?_
  have fin : ∀ ls : Array Slot, lv_has ls 7 ((6, .int r) :: (5, .int k) :: lvL b h (a 0) o i) → W p l e room_1 s m #[.ref b] below meth c H locs (cells + 1) (slots + 6) Q (F0 m 222 ls []) := fun ls hl => lv_goto (tgt := 816) hx hb dL_law_222 (by decide) (kk u.1 _ u.2 H locs ls hrel X (lv_sub hl [2, 3, 4, 5, 6] rfl))
  refine lv_if_ne (tgt := 222) hx hb dL_law_207 (by decide) (fun _ => fin ls hl) (fun c2 => ?_)
  have hout := hout c2
  refine lv_aload_n hx hb dL_law_210 rfl (lv_at hl 6 rfl) ?_
  refine lv_iconst (v := nI 0) hx hb dL_law_211 (by decide) ?_
  refine va_lald hx hb C.1.2.1 X.1 1 2 (cA := g.2.2.2) (n := 1) (f := u.2) rfl rfl (vp_in_nI (n := 0) (by decide) (by decide)) dL_law_212 ?_
  refine lv_iload hx hb dL_law_213 (lv_at hl 0 rfl) ?_
  refine lv_i2l hx hb dL_law_215 rfl ?_
  refine W.lcmp hx hb dL_law_216 ?_
  have hz : lg_cmp (u.2 (nI 0).toNatClampNeg) r.toInt64 = 0 := by rw [show u.2 (nI 0).toNatClampNeg = r.toInt64 from hout]; exact cmp_eq _
  refine lv_if_eq (tgt := 222) hx hb dL_law_217 (by decide) (fun _ => fin ls hl) (fun c3 => absurd hz c3)
set_option maxHeartbeats 1000000 in
set_option maxRecDepth 100000 in
theorem s_place (C : LZ p m c s b L xs bL g) (htr : l.stackTraces = false) (hi : i + 1 < L) (hcs : cells + 1 ≤ room_1.cells ∧ slots + 6 ≤ room_1.slots) (hR : RelE q0 q1 q2 q3 q4 q5 q6 q7 q8 q9 q10 bk pn hd ph ot wi ik P O K) (X : zh g (fun q => s.heap.size ≤ q) (WL g h a o (q0, q1, q2, q3, q4, q5, q6, q7, q8, q9, q10) (bk, nI pn, hd, ph, ot, wi, ik, th, P, O, K, kd, lf, ch, be, gi, mr) f) s.heap H locs) (hl : lv_has ls 7 (lvL b h (a 0) o i)) (kk : LK p l e s m b below meth c g h o a i cells slots Q) : W p l e room_1 s m #[.ref b] below meth c H locs cells slots Q (F0 m 225 ls []) := by
  have hx := C.1.1.1
  have hb := C.1.1.2.1
  obtain ⟨v, hv⟩ : ∃ v, v = xs (nI (i + 1)).toNatClampNeg := ⟨_, rfl⟩
  obtain ⟨hp, hhp⟩ : ∃ hp : Nat, ph = 1 → hd = nI hp ∧ hp < 16 ∧ O hp = 0 := by
    by_cases z : ph = 1
    · obtain ⟨hp, h1, h2, h3⟩ := hR.2.2.2.2.2.2.2.1 z
      exact ⟨hp, fun _ => ⟨h2, h1, h3⟩⟩
    · exact ⟨0, fun q => absurd q z⟩
  have hpn := RB_le hR.2.2.2.2.2.2.1
  refine lv_aload_n hx hb dL_law_225 rfl (lv_at hl 2 rfl) ?_
  refine zrd C hi X hl 1 0 rfl rfl hv dL_law_226 dL_law_227 dL_law_229 dL_law_230 dL_law_231 ?_
  refine lv_aload_n hx hb dL_law_232 rfl (lv_at hl 4 rfl) ?_
  refine zsubSi (n := 3) (As := [.ref h, .int v, .ref o]) (rest := []) (wc := WH g h o ((q0, q1, q2, q3, q4, q5, q6, q7, q8, q9, q10), f)) (wr := oM g a (bk, nI pn, hd, ph, ot, wi, ik, th, P, O, K, kd, lf, ch, be, gi, mr)) [0, 1] [2, 3, 4, 5, 6, 7, 8, 9, 10, 11] rfl rfl rfl rfl (by decide) C.1 X (c_L_place l g bL h o q0 q1 q2 q3 q4 q5 q6 q7 q8 q9 q10 v f htr) gL_law_L_place rfl ⟨by decide, by decide, by decide +kernel⟩ ⟨Nat.le_of_ble_eq_true rfl, Nat.le_of_ble_eq_true rfl⟩ rfl rfl hl.1 (Nat.le_of_ble_eq_true rfl) dL_law_233 hcs (fun k u H locs hp1 X => ?_)
  refine lv_istore (lv' := (5, .int k) :: lvL b h (a 0) o i) hx hb dL_law_236 hl (by decide) rfl (fun ls hl => ?_)
  refine lv_aload_n hx hb dL_law_238 rfl (lv_at hl 4 rfl) ?_
  refine zrd C hi X hl 2 1 rfl rfl hv dL_law_239 dL_law_240 dL_law_242 dL_law_243 dL_law_244 ?_
  refine zsubVi (n := 1) (As := [.int v]) (rest := []) (ci := 1) (C := RX1) (T := TX1) (N := 17) (wc := oM g a (bk, nI pn, hd, ph, ot, wi, ik, th, P, O, K, kd, lf, ch, be, gi, mr)) (wr := WH g h o u) [0, 1, 2, 3, 4, 5, 6, 7, 8, 9] [10, 11] rfl rfl rfl rfl (by decide) C.1 X zSt0 (fun _ _ _ => trivial) (c_X1_place l g a bk pn hd ph ot wi ik th P O K kd lf ch be gi mr v hp hpn (by rcases hR.2.2.1.2 with z | z <;> rw [z] <;> decide) (fun z => ⟨(hhp z).1, (hhp z).2.1⟩)) gL_law_X1_place rfl ⟨rfl, by decide, by decide, by decide +kernel⟩ ⟨Nat.le_of_ble_eq_true rfl, Nat.le_of_ble_eq_true rfl⟩ rfl rfl rfl rfl hl.1 (Nat.le_of_ble_eq_true rfl) dL_law_245 hcs (fun r w H locs hp2 X => ?_)
  obtain ⟨bk2, pl2, hd2, ph2, ot2, wi2, ik2, th2, P2, O2, K2, kd2, lf2, ch2, be2, gi2, mr2⟩ := w
  obtain ⟨hth, hout, hrel⟩ := R_place hR hhp hp1 hp2
  obtain ⟨pn2, rfl⟩ := RelT_pn hrel
  refine lv_istore (lv' := (6, .int r) :: (5, .int k) :: lvL b h (a 0) o i) hx hb dL_law_248 hl (by decide) rfl (fun ls hl => ?_)
  refine lv_aload_n hx hb dL_law_250 rfl (lv_at hl 5 rfl) ?_
  refine zsubVi (n := 0) (As := []) (rest := []) (ci := 1) (C := RX1) (T := TX1) (N := 17) (wc := oM g a (bk2, nI pn2, hd2, ph2, ot2, wi2, ik2, th2, P2, O2, K2, kd2, lf2, ch2, be2, gi2, mr2)) (wr := WH g h o u) [2, 3, 4, 5, 6, 7, 8, 9, 10, 11] [0, 1] rfl rfl rfl rfl (by decide) C.1 X zSt0 (fun _ _ _ => trivial) (c_X1_thrown l g a bk2 pn2 hd2 ph2 ot2 wi2 ik2 th2 P2 O2 K2 kd2 lf2 ch2 be2 gi2 mr2) gL_law_X1_thrown rfl ⟨rfl, by decide, by decide, by decide +kernel⟩ ⟨Nat.le_of_ble_eq_true rfl, Nat.le_of_ble_eq_true rfl⟩ rfl rfl rfl rfl hl.1 (Nat.le_of_ble_eq_true rfl) dL_law_251 hcs (fun r3 w3 H locs hp3 X => ?_)
  obtain ⟨e3, hr3⟩ := hp3
  rw [e3] at X
  have hr3 : r3 = k := hr3.trans hth
  refine lv_iload hx hb dL_law_254 (lv_at hl 1 rfl) ?_
  refine lv_icmp_eq (tgt := 261) hx hb dL_law_256 (by decide) (fun _ => ?_) (fun c1 => absurd hr3 c1)
  refine lv_iload hx hb dL_law_261 (lv_at hl 1 rfl) ?_
  have fin : ∀ ls : Array Slot, lv_has ls 7 ((6, .int r) :: (5, .int k) :: lvL b h (a 0) o i) → W p l e room_1 s m #[.ref b] below meth c H locs (cells + 1) (slots + 6) Q (F0 m 278 ls []) := fun ls hl => lv_goto (tgt := 816) hx hb dL_law_278 (by decide) (kk u.1 _ u.2 H locs ls hrel X (lv_sub hl [2, 3, 4, 5, 6] rfl))
  refine lv_if_ne (tgt := 278) hx hb dL_law_263 (by decide) (fun _ => fin ls hl) (fun c2 => ?_)
  have hout := hout c2
  refine lv_aload_n hx hb dL_law_266 rfl (lv_at hl 6 rfl) ?_
  refine lv_iconst (v := nI 0) hx hb dL_law_267 (by decide) ?_
  refine va_lald hx hb C.1.2.1 X.1 1 2 (cA := g.2.2.2) (n := 1) (f := u.2) rfl rfl (vp_in_nI (n := 0) (by decide) (by decide)) dL_law_268 ?_
  refine lv_iload hx hb dL_law_269 (lv_at hl 0 rfl) ?_
  refine lv_i2l hx hb dL_law_271 rfl ?_
  refine W.lcmp hx hb dL_law_272 ?_
  have hz : lg_cmp (u.2 (nI 0).toNatClampNeg) r.toInt64 = 0 := by rw [show u.2 (nI 0).toNatClampNeg = r.toInt64 from hout]; exact cmp_eq _
  refine lv_if_eq (tgt := 278) hx hb dL_law_273 (by decide) (fun _ => fin ls hl) (fun c3 => absurd hz c3)
set_option maxHeartbeats 1000000 in
set_option maxRecDepth 100000 in
theorem s_pieceAt (C : LZ p m c s b L xs bL g) (htr : l.stackTraces = false) (hi : i + 1 < L) (hcs : cells + 1 ≤ room_1.cells ∧ slots + 6 ≤ room_1.slots) (hR : RelE q0 q1 q2 q3 q4 q5 q6 q7 q8 q9 q10 bk pn hd ph ot wi ik P O K) (X : zh g (fun q => s.heap.size ≤ q) (WL g h a o (q0, q1, q2, q3, q4, q5, q6, q7, q8, q9, q10) (bk, nI pn, hd, ph, ot, wi, ik, th, P, O, K, kd, lf, ch, be, gi, mr) f) s.heap H locs) (hl : lv_has ls 7 (lvL b h (a 0) o i)) (kk : LK p l e s m b below meth c g h o a i cells slots Q) : W p l e room_1 s m #[.ref b] below meth c H locs cells slots Q (F0 m 320 ls []) := by
  have hx := C.1.1.1
  have hb := C.1.1.2.1
  obtain ⟨v, hv⟩ : ∃ v, v = xs (nI (i + 1)).toNatClampNeg := ⟨_, rfl⟩
  refine lv_aload_n hx hb dL_law_320 rfl (lv_at hl 2 rfl) ?_
  refine zrd C hi X hl 1 0 rfl rfl hv dL_law_321 dL_law_322 dL_law_324 dL_law_325 dL_law_326 ?_
  refine lv_aload_n hx hb dL_law_327 rfl (lv_at hl 4 rfl) ?_
  refine zsubSi (n := 3) (As := [.ref h, .int v, .ref o]) (rest := []) (wc := WH g h o ((q0, q1, q2, q3, q4, q5, q6, q7, q8, q9, q10), f)) (wr := oM g a (bk, nI pn, hd, ph, ot, wi, ik, th, P, O, K, kd, lf, ch, be, gi, mr)) [0, 1] [2, 3, 4, 5, 6, 7, 8, 9, 10, 11] rfl rfl rfl rfl (by decide) C.1 X (c_L_pieceAt l g bL h o q0 q1 q2 q3 q4 q5 q6 q7 q8 q9 q10 v f htr) gL_law_L_pieceAt rfl ⟨by decide, by decide, by decide +kernel⟩ ⟨Nat.le_of_ble_eq_true rfl, Nat.le_of_ble_eq_true rfl⟩ rfl rfl hl.1 (Nat.le_of_ble_eq_true rfl) dL_law_328 hcs (fun k u H locs hp1 X => ?_)
  refine lv_istore (lv' := (5, .int k) :: lvL b h (a 0) o i) hx hb dL_law_331 hl (by decide) rfl (fun ls hl => ?_)
  refine lv_aload_n hx hb dL_law_333 rfl (lv_at hl 4 rfl) ?_
  refine zrd C hi X hl 2 1 rfl rfl hv dL_law_334 dL_law_335 dL_law_337 dL_law_338 dL_law_339 ?_
  refine zsubVi (n := 1) (As := [.int v]) (rest := []) (ci := 1) (C := RX1) (T := TX1) (N := 17) (wc := oM g a (bk, nI pn, hd, ph, ot, wi, ik, th, P, O, K, kd, lf, ch, be, gi, mr)) (wr := WH g h o u) [0, 1, 2, 3, 4, 5, 6, 7, 8, 9] [10, 11] rfl rfl rfl rfl (by decide) C.1 X zSt0 (fun _ _ _ => trivial) (c_X1_pieceAt l g a bk pn hd ph ot wi ik th P O K kd lf ch be gi mr v) gL_law_X1_pieceAt rfl ⟨rfl, by decide, by decide, by decide +kernel⟩ ⟨Nat.le_of_ble_eq_true rfl, Nat.le_of_ble_eq_true rfl⟩ rfl rfl rfl rfl hl.1 (Nat.le_of_ble_eq_true rfl) dL_law_340 hcs (fun r w H locs hp2 X => ?_)
  obtain ⟨bk2, pl2, hd2, ph2, ot2, wi2, ik2, th2, P2, O2, K2, kd2, lf2, ch2, be2, gi2, mr2⟩ := w
  obtain ⟨hth, hout, hrel⟩ := R_pieceAt hR hp1 hp2
  obtain ⟨pn2, rfl⟩ := RelT_pn hrel
  refine lv_istore (lv' := (6, .int r) :: (5, .int k) :: lvL b h (a 0) o i) hx hb dL_law_343 hl (by decide) rfl (fun ls hl => ?_)
  refine lv_aload_n hx hb dL_law_345 rfl (lv_at hl 5 rfl) ?_
  refine zsubVi (n := 0) (As := []) (rest := []) (ci := 1) (C := RX1) (T := TX1) (N := 17) (wc := oM g a (bk2, nI pn2, hd2, ph2, ot2, wi2, ik2, th2, P2, O2, K2, kd2, lf2, ch2, be2, gi2, mr2)) (wr := WH g h o u) [2, 3, 4, 5, 6, 7, 8, 9, 10, 11] [0, 1] rfl rfl rfl rfl (by decide) C.1 X zSt0 (fun _ _ _ => trivial) (c_X1_thrown l g a bk2 pn2 hd2 ph2 ot2 wi2 ik2 th2 P2 O2 K2 kd2 lf2 ch2 be2 gi2 mr2) gL_law_X1_thrown rfl ⟨rfl, by decide, by decide, by decide +kernel⟩ ⟨Nat.le_of_ble_eq_true rfl, Nat.le_of_ble_eq_true rfl⟩ rfl rfl rfl rfl hl.1 (Nat.le_of_ble_eq_true rfl) dL_law_346 hcs (fun r3 w3 H locs hp3 X => ?_)
  obtain ⟨e3, hr3⟩ := hp3
  rw [e3] at X
  have hr3 : r3 = k := hr3.trans hth
  refine lv_iload hx hb dL_law_349 (lv_at hl 1 rfl) ?_
  refine lv_icmp_eq (tgt := 356) hx hb dL_law_351 (by decide) (fun _ => ?_) (fun c1 => absurd hr3 c1)
  refine lv_iload hx hb dL_law_356 (lv_at hl 1 rfl) ?_
  have fin : ∀ ls : Array Slot, lv_has ls 7 ((6, .int r) :: (5, .int k) :: lvL b h (a 0) o i) → W p l e room_1 s m #[.ref b] below meth c H locs (cells + 1) (slots + 6) Q (F0 m 373 ls []) := fun ls hl => lv_goto (tgt := 816) hx hb dL_law_373 (by decide) (kk u.1 _ u.2 H locs ls hrel X (lv_sub hl [2, 3, 4, 5, 6] rfl))
  refine lv_if_ne (tgt := 373) hx hb dL_law_358 (by decide) (fun _ => fin ls hl) (fun c2 => ?_)
  have hout := hout c2
  refine lv_aload_n hx hb dL_law_361 rfl (lv_at hl 6 rfl) ?_
  refine lv_iconst (v := nI 0) hx hb dL_law_362 (by decide) ?_
  refine va_lald hx hb C.1.2.1 X.1 1 2 (cA := g.2.2.2) (n := 1) (f := u.2) rfl rfl (vp_in_nI (n := 0) (by decide) (by decide)) dL_law_363 ?_
  refine lv_iload hx hb dL_law_364 (lv_at hl 0 rfl) ?_
  refine lv_i2l hx hb dL_law_366 rfl ?_
  refine W.lcmp hx hb dL_law_367 ?_
  have hz : lg_cmp (u.2 (nI 0).toNatClampNeg) r.toInt64 = 0 := by rw [show u.2 (nI 0).toNatClampNeg = r.toInt64 from hout]; exact cmp_eq _
  refine lv_if_eq (tgt := 373) hx hb dL_law_368 (by decide) (fun _ => fin ls hl) (fun c3 => absurd hz c3)
set_option maxHeartbeats 1000000 in
set_option maxRecDepth 100000 in
theorem s_onLine (C : LZ p m c s b L xs bL g) (htr : l.stackTraces = false) (hi : i + 1 < L) (hcs : cells + 1 ≤ room_1.cells ∧ slots + 6 ≤ room_1.slots) (hR : RelE q0 q1 q2 q3 q4 q5 q6 q7 q8 q9 q10 bk pn hd ph ot wi ik P O K) (X : zh g (fun q => s.heap.size ≤ q) (WL g h a o (q0, q1, q2, q3, q4, q5, q6, q7, q8, q9, q10) (bk, nI pn, hd, ph, ot, wi, ik, th, P, O, K, kd, lf, ch, be, gi, mr) f) s.heap H locs) (hl : lv_has ls 7 (lvL b h (a 0) o i)) (kk : LK p l e s m b below meth c g h o a i cells slots Q) : W p l e room_1 s m #[.ref b] below meth c H locs cells slots Q (F0 m 415 ls []) := by
  have hx := C.1.1.1
  have hb := C.1.1.2.1
  obtain ⟨v, hv⟩ : ∃ v, v = xs (nI (i + 1)).toNatClampNeg := ⟨_, rfl⟩
  refine lv_aload_n hx hb dL_law_415 rfl (lv_at hl 2 rfl) ?_
  refine zrd C hi X hl 1 0 rfl rfl hv dL_law_416 dL_law_417 dL_law_419 dL_law_420 dL_law_421 ?_
  refine lv_aload_n hx hb dL_law_422 rfl (lv_at hl 4 rfl) ?_
  refine zsubSi (n := 3) (As := [.ref h, .int v, .ref o]) (rest := []) (wc := WH g h o ((q0, q1, q2, q3, q4, q5, q6, q7, q8, q9, q10), f)) (wr := oM g a (bk, nI pn, hd, ph, ot, wi, ik, th, P, O, K, kd, lf, ch, be, gi, mr)) [0, 1] [2, 3, 4, 5, 6, 7, 8, 9, 10, 11] rfl rfl rfl rfl (by decide) C.1 X (c_L_onLine l g bL h o q0 q1 q2 q3 q4 q5 q6 q7 q8 q9 q10 v f htr) gL_law_L_onLine rfl ⟨by decide, by decide, by decide +kernel⟩ ⟨Nat.le_of_ble_eq_true rfl, Nat.le_of_ble_eq_true rfl⟩ rfl rfl hl.1 (Nat.le_of_ble_eq_true rfl) dL_law_423 hcs (fun k u H locs hp1 X => ?_)
  refine lv_istore (lv' := (5, .int k) :: lvL b h (a 0) o i) hx hb dL_law_426 hl (by decide) rfl (fun ls hl => ?_)
  refine lv_aload_n hx hb dL_law_428 rfl (lv_at hl 4 rfl) ?_
  refine zrd C hi X hl 2 1 rfl rfl hv dL_law_429 dL_law_430 dL_law_432 dL_law_433 dL_law_434 ?_
  refine zsubVi (n := 1) (As := [.int v]) (rest := []) (ci := 1) (C := RX1) (T := TX1) (N := 17) (wc := oM g a (bk, nI pn, hd, ph, ot, wi, ik, th, P, O, K, kd, lf, ch, be, gi, mr)) (wr := WH g h o u) [0, 1, 2, 3, 4, 5, 6, 7, 8, 9] [10, 11] rfl rfl rfl rfl (by decide) C.1 X zSt0 (fun _ _ _ => trivial) (c_X1_onLine l g a bk pn hd ph ot wi ik th P O K kd lf ch be gi mr v) gL_law_X1_onLine rfl ⟨rfl, by decide, by decide, by decide +kernel⟩ ⟨Nat.le_of_ble_eq_true rfl, Nat.le_of_ble_eq_true rfl⟩ rfl rfl rfl rfl hl.1 (Nat.le_of_ble_eq_true rfl) dL_law_435 hcs (fun r w H locs hp2 X => ?_)
  obtain ⟨bk2, pl2, hd2, ph2, ot2, wi2, ik2, th2, P2, O2, K2, kd2, lf2, ch2, be2, gi2, mr2⟩ := w
  obtain ⟨hth, hout, hrel⟩ := R_onLine hR hp1 hp2
  obtain ⟨pn2, rfl⟩ := RelT_pn hrel
  refine lv_istore (lv' := (6, .int r) :: (5, .int k) :: lvL b h (a 0) o i) hx hb dL_law_438 hl (by decide) rfl (fun ls hl => ?_)
  refine lv_aload_n hx hb dL_law_440 rfl (lv_at hl 5 rfl) ?_
  refine zsubVi (n := 0) (As := []) (rest := []) (ci := 1) (C := RX1) (T := TX1) (N := 17) (wc := oM g a (bk2, nI pn2, hd2, ph2, ot2, wi2, ik2, th2, P2, O2, K2, kd2, lf2, ch2, be2, gi2, mr2)) (wr := WH g h o u) [2, 3, 4, 5, 6, 7, 8, 9, 10, 11] [0, 1] rfl rfl rfl rfl (by decide) C.1 X zSt0 (fun _ _ _ => trivial) (c_X1_thrown l g a bk2 pn2 hd2 ph2 ot2 wi2 ik2 th2 P2 O2 K2 kd2 lf2 ch2 be2 gi2 mr2) gL_law_X1_thrown rfl ⟨rfl, by decide, by decide, by decide +kernel⟩ ⟨Nat.le_of_ble_eq_true rfl, Nat.le_of_ble_eq_true rfl⟩ rfl rfl rfl rfl hl.1 (Nat.le_of_ble_eq_true rfl) dL_law_441 hcs (fun r3 w3 H locs hp3 X => ?_)
  obtain ⟨e3, hr3⟩ := hp3
  rw [e3] at X
  have hr3 : r3 = k := hr3.trans hth
  refine lv_iload hx hb dL_law_444 (lv_at hl 1 rfl) ?_
  refine lv_icmp_eq (tgt := 451) hx hb dL_law_446 (by decide) (fun _ => ?_) (fun c1 => absurd hr3 c1)
  refine lv_iload hx hb dL_law_451 (lv_at hl 1 rfl) ?_
  have fin : ∀ ls : Array Slot, lv_has ls 7 ((6, .int r) :: (5, .int k) :: lvL b h (a 0) o i) → W p l e room_1 s m #[.ref b] below meth c H locs (cells + 1) (slots + 6) Q (F0 m 468 ls []) := fun ls hl => lv_goto (tgt := 816) hx hb dL_law_468 (by decide) (kk u.1 _ u.2 H locs ls hrel X (lv_sub hl [2, 3, 4, 5, 6] rfl))
  refine lv_if_ne (tgt := 468) hx hb dL_law_453 (by decide) (fun _ => fin ls hl) (fun c2 => ?_)
  have hout := hout c2
  refine lv_aload_n hx hb dL_law_456 rfl (lv_at hl 6 rfl) ?_
  refine lv_iconst (v := nI 0) hx hb dL_law_457 (by decide) ?_
  refine va_lald hx hb C.1.2.1 X.1 1 2 (cA := g.2.2.2) (n := 1) (f := u.2) rfl rfl (vp_in_nI (n := 0) (by decide) (by decide)) dL_law_458 ?_
  refine lv_iload hx hb dL_law_459 (lv_at hl 0 rfl) ?_
  refine lv_i2l hx hb dL_law_461 rfl ?_
  refine W.lcmp hx hb dL_law_462 ?_
  have hz : lg_cmp (u.2 (nI 0).toNatClampNeg) r.toInt64 = 0 := by rw [show u.2 (nI 0).toNatClampNeg = r.toInt64 from hout]; exact cmp_eq _
  refine lv_if_eq (tgt := 468) hx hb dL_law_463 (by decide) (fun _ => fin ls hl) (fun c3 => absurd hz c3)
set_option maxHeartbeats 1000000 in
set_option maxRecDepth 100000 in
theorem s_shared (C : LZ p m c s b L xs bL g) (htr : l.stackTraces = false) (hi : i + 1 < L) (hcs : cells + 1 ≤ room_1.cells ∧ slots + 6 ≤ room_1.slots) (hR : RelE q0 q1 q2 q3 q4 q5 q6 q7 q8 q9 q10 bk pn hd ph ot wi ik P O K) (X : zh g (fun q => s.heap.size ≤ q) (WL g h a o (q0, q1, q2, q3, q4, q5, q6, q7, q8, q9, q10) (bk, nI pn, hd, ph, ot, wi, ik, th, P, O, K, kd, lf, ch, be, gi, mr) f) s.heap H locs) (hl : lv_has ls 7 (lvL b h (a 0) o i)) (kk : LK p l e s m b below meth c g h o a i cells slots Q) : W p l e room_1 s m #[.ref b] below meth c H locs cells slots Q (F0 m 471 ls []) := by
  have hx := C.1.1.1
  have hb := C.1.1.2.1
  obtain ⟨v, hv⟩ : ∃ v, v = xs (nI (i + 1)).toNatClampNeg := ⟨_, rfl⟩
  refine lv_aload_n hx hb dL_law_471 rfl (lv_at hl 2 rfl) ?_
  refine zrd C hi X hl 1 0 rfl rfl hv dL_law_472 dL_law_473 dL_law_475 dL_law_476 dL_law_477 ?_
  refine lv_aload_n hx hb dL_law_478 rfl (lv_at hl 4 rfl) ?_
  refine zsubSi (n := 3) (As := [.ref h, .int v, .ref o]) (rest := []) (wc := WH g h o ((q0, q1, q2, q3, q4, q5, q6, q7, q8, q9, q10), f)) (wr := oM g a (bk, nI pn, hd, ph, ot, wi, ik, th, P, O, K, kd, lf, ch, be, gi, mr)) [0, 1] [2, 3, 4, 5, 6, 7, 8, 9, 10, 11] rfl rfl rfl rfl (by decide) C.1 X (c_L_shared l g bL h o q0 q1 q2 q3 q4 q5 q6 q7 q8 q9 q10 v f htr) gL_law_L_shared rfl ⟨by decide, by decide, by decide +kernel⟩ ⟨Nat.le_of_ble_eq_true rfl, Nat.le_of_ble_eq_true rfl⟩ rfl rfl hl.1 (Nat.le_of_ble_eq_true rfl) dL_law_479 hcs (fun k u H locs hp1 X => ?_)
  refine lv_istore (lv' := (5, .int k) :: lvL b h (a 0) o i) hx hb dL_law_482 hl (by decide) rfl (fun ls hl => ?_)
  refine lv_aload_n hx hb dL_law_484 rfl (lv_at hl 4 rfl) ?_
  refine zrd C hi X hl 2 1 rfl rfl hv dL_law_485 dL_law_486 dL_law_488 dL_law_489 dL_law_490 ?_
  refine zsubVi (n := 1) (As := [.int v]) (rest := []) (ci := 1) (C := RX1) (T := TX1) (N := 17) (wc := oM g a (bk, nI pn, hd, ph, ot, wi, ik, th, P, O, K, kd, lf, ch, be, gi, mr)) (wr := WH g h o u) [0, 1, 2, 3, 4, 5, 6, 7, 8, 9] [10, 11] rfl rfl rfl rfl (by decide) C.1 X zSt0 (fun _ _ _ => trivial) (c_X1_shared l g a bk pn hd ph ot wi ik th P O K kd lf ch be gi mr v) gL_law_X1_shared rfl ⟨rfl, by decide, by decide, by decide +kernel⟩ ⟨Nat.le_of_ble_eq_true rfl, Nat.le_of_ble_eq_true rfl⟩ rfl rfl rfl rfl hl.1 (Nat.le_of_ble_eq_true rfl) dL_law_491 hcs (fun r w H locs hp2 X => ?_)
  obtain ⟨bk2, pl2, hd2, ph2, ot2, wi2, ik2, th2, P2, O2, K2, kd2, lf2, ch2, be2, gi2, mr2⟩ := w
  obtain ⟨hth, hout, hrel⟩ := R_shared hR hp1 hp2
  obtain ⟨pn2, rfl⟩ := RelT_pn hrel
  refine lv_istore (lv' := (6, .int r) :: (5, .int k) :: lvL b h (a 0) o i) hx hb dL_law_494 hl (by decide) rfl (fun ls hl => ?_)
  refine lv_aload_n hx hb dL_law_496 rfl (lv_at hl 5 rfl) ?_
  refine zsubVi (n := 0) (As := []) (rest := []) (ci := 1) (C := RX1) (T := TX1) (N := 17) (wc := oM g a (bk2, nI pn2, hd2, ph2, ot2, wi2, ik2, th2, P2, O2, K2, kd2, lf2, ch2, be2, gi2, mr2)) (wr := WH g h o u) [2, 3, 4, 5, 6, 7, 8, 9, 10, 11] [0, 1] rfl rfl rfl rfl (by decide) C.1 X zSt0 (fun _ _ _ => trivial) (c_X1_thrown l g a bk2 pn2 hd2 ph2 ot2 wi2 ik2 th2 P2 O2 K2 kd2 lf2 ch2 be2 gi2 mr2) gL_law_X1_thrown rfl ⟨rfl, by decide, by decide, by decide +kernel⟩ ⟨Nat.le_of_ble_eq_true rfl, Nat.le_of_ble_eq_true rfl⟩ rfl rfl rfl rfl hl.1 (Nat.le_of_ble_eq_true rfl) dL_law_497 hcs (fun r3 w3 H locs hp3 X => ?_)
  obtain ⟨e3, hr3⟩ := hp3
  rw [e3] at X
  have hr3 : r3 = k := hr3.trans hth
  refine lv_iload hx hb dL_law_500 (lv_at hl 1 rfl) ?_
  refine lv_icmp_eq (tgt := 507) hx hb dL_law_502 (by decide) (fun _ => ?_) (fun c1 => absurd hr3 c1)
  refine lv_iload hx hb dL_law_507 (lv_at hl 1 rfl) ?_
  have fin : ∀ ls : Array Slot, lv_has ls 7 ((6, .int r) :: (5, .int k) :: lvL b h (a 0) o i) → W p l e room_1 s m #[.ref b] below meth c H locs (cells + 1) (slots + 6) Q (F0 m 524 ls []) := fun ls hl => lv_goto (tgt := 816) hx hb dL_law_524 (by decide) (kk u.1 _ u.2 H locs ls hrel X (lv_sub hl [2, 3, 4, 5, 6] rfl))
  refine lv_if_ne (tgt := 524) hx hb dL_law_509 (by decide) (fun _ => fin ls hl) (fun c2 => ?_)
  have hout := hout c2
  refine lv_aload_n hx hb dL_law_512 rfl (lv_at hl 6 rfl) ?_
  refine lv_iconst (v := nI 0) hx hb dL_law_513 (by decide) ?_
  refine va_lald hx hb C.1.2.1 X.1 1 2 (cA := g.2.2.2) (n := 1) (f := u.2) rfl rfl (vp_in_nI (n := 0) (by decide) (by decide)) dL_law_514 ?_
  refine lv_iload hx hb dL_law_515 (lv_at hl 0 rfl) ?_
  refine lv_i2l hx hb dL_law_517 rfl ?_
  refine W.lcmp hx hb dL_law_518 ?_
  have hz : lg_cmp (u.2 (nI 0).toNatClampNeg) r.toInt64 = 0 := by rw [show u.2 (nI 0).toNatClampNeg = r.toInt64 from hout]; exact cmp_eq _
  refine lv_if_eq (tgt := 524) hx hb dL_law_519 (by decide) (fun _ => fin ls hl) (fun c3 => absurd hz c3)
set_option maxHeartbeats 1000000 in
set_option maxRecDepth 100000 in
theorem s_winning (C : LZ p m c s b L xs bL g) (htr : l.stackTraces = false) (hi : i + 1 < L) (hcs : cells + 1 ≤ room_1.cells ∧ slots + 6 ≤ room_1.slots) (hR : RelE q0 q1 q2 q3 q4 q5 q6 q7 q8 q9 q10 bk pn hd ph ot wi ik P O K) (X : zh g (fun q => s.heap.size ≤ q) (WL g h a o (q0, q1, q2, q3, q4, q5, q6, q7, q8, q9, q10) (bk, nI pn, hd, ph, ot, wi, ik, th, P, O, K, kd, lf, ch, be, gi, mr) f) s.heap H locs) (hl : lv_has ls 7 (lvL b h (a 0) o i)) (kk : LK p l e s m b below meth c g h o a i cells slots Q) : W p l e room_1 s m #[.ref b] below meth c H locs cells slots Q (F0 m 527 ls []) := by
  have hx := C.1.1.1
  have hb := C.1.1.2.1
  obtain ⟨v, hv⟩ : ∃ v, v = xs (nI (i + 1)).toNatClampNeg := ⟨_, rfl⟩
  have hpn := RB_le hR.2.2.2.2.2.2.1
  refine lv_aload_n hx hb dL_law_527 rfl (lv_at hl 2 rfl) ?_
  refine zrd C hi X hl 1 0 rfl rfl hv dL_law_528 dL_law_529 dL_law_531 dL_law_532 dL_law_533 ?_
  refine lv_aload_n hx hb dL_law_534 rfl (lv_at hl 4 rfl) ?_
  refine zsubSi (n := 3) (As := [.ref h, .int v, .ref o]) (rest := []) (wc := WH g h o ((q0, q1, q2, q3, q4, q5, q6, q7, q8, q9, q10), f)) (wr := oM g a (bk, nI pn, hd, ph, ot, wi, ik, th, P, O, K, kd, lf, ch, be, gi, mr)) [0, 1] [2, 3, 4, 5, 6, 7, 8, 9, 10, 11] rfl rfl rfl rfl (by decide) C.1 X (c_L_winning l g bL h o q0 q1 q2 q3 q4 q5 q6 q7 q8 q9 q10 v f htr) gL_law_L_winning rfl ⟨by decide, by decide, by decide +kernel⟩ ⟨Nat.le_of_ble_eq_true rfl, Nat.le_of_ble_eq_true rfl⟩ rfl rfl hl.1 (Nat.le_of_ble_eq_true rfl) dL_law_535 hcs (fun k u H locs hp1 X => ?_)
  refine lv_istore (lv' := (5, .int k) :: lvL b h (a 0) o i) hx hb dL_law_538 hl (by decide) rfl (fun ls hl => ?_)
  refine lv_aload_n hx hb dL_law_540 rfl (lv_at hl 4 rfl) ?_
  refine zrd C hi X hl 2 1 rfl rfl hv dL_law_541 dL_law_542 dL_law_544 dL_law_545 dL_law_546 ?_
  refine zsubVi (n := 1) (As := [.int v]) (rest := []) (ci := 1) (C := RX1) (T := TX1) (N := 17) (wc := oM g a (bk, nI pn, hd, ph, ot, wi, ik, th, P, O, K, kd, lf, ch, be, gi, mr)) (wr := WH g h o u) [0, 1, 2, 3, 4, 5, 6, 7, 8, 9] [10, 11] rfl rfl rfl rfl (by decide) C.1 X zSt0 (fun _ _ _ => trivial) (c_X1_winning l g a bk pn hd ph ot wi ik th P O K kd lf ch be gi mr v (by omega)) gL_law_X1_winning rfl ⟨rfl, by decide, by decide, by decide +kernel⟩ ⟨Nat.le_of_ble_eq_true rfl, Nat.le_of_ble_eq_true rfl⟩ rfl rfl rfl rfl hl.1 (Nat.le_of_ble_eq_true rfl) dL_law_547 hcs (fun r w H locs hp2 X => ?_)
  obtain ⟨bk2, pl2, hd2, ph2, ot2, wi2, ik2, th2, P2, O2, K2, kd2, lf2, ch2, be2, gi2, mr2⟩ := w
  obtain ⟨hth, hout, hrel⟩ := R_winning hR hp1 hp2
  obtain ⟨pn2, rfl⟩ := RelT_pn hrel
  refine lv_istore (lv' := (6, .int r) :: (5, .int k) :: lvL b h (a 0) o i) hx hb dL_law_550 hl (by decide) rfl (fun ls hl => ?_)
  refine lv_aload_n hx hb dL_law_552 rfl (lv_at hl 5 rfl) ?_
  refine zsubVi (n := 0) (As := []) (rest := []) (ci := 1) (C := RX1) (T := TX1) (N := 17) (wc := oM g a (bk2, nI pn2, hd2, ph2, ot2, wi2, ik2, th2, P2, O2, K2, kd2, lf2, ch2, be2, gi2, mr2)) (wr := WH g h o u) [2, 3, 4, 5, 6, 7, 8, 9, 10, 11] [0, 1] rfl rfl rfl rfl (by decide) C.1 X zSt0 (fun _ _ _ => trivial) (c_X1_thrown l g a bk2 pn2 hd2 ph2 ot2 wi2 ik2 th2 P2 O2 K2 kd2 lf2 ch2 be2 gi2 mr2) gL_law_X1_thrown rfl ⟨rfl, by decide, by decide, by decide +kernel⟩ ⟨Nat.le_of_ble_eq_true rfl, Nat.le_of_ble_eq_true rfl⟩ rfl rfl rfl rfl hl.1 (Nat.le_of_ble_eq_true rfl) dL_law_553 hcs (fun r3 w3 H locs hp3 X => ?_)
  obtain ⟨e3, hr3⟩ := hp3
  rw [e3] at X
  have hr3 : r3 = k := hr3.trans hth
  refine lv_iload hx hb dL_law_556 (lv_at hl 1 rfl) ?_
  refine lv_icmp_eq (tgt := 563) hx hb dL_law_558 (by decide) (fun _ => ?_) (fun c1 => absurd hr3 c1)
  refine lv_iload hx hb dL_law_563 (lv_at hl 1 rfl) ?_
  have fin : ∀ ls : Array Slot, lv_has ls 7 ((6, .int r) :: (5, .int k) :: lvL b h (a 0) o i) → W p l e room_1 s m #[.ref b] below meth c H locs (cells + 1) (slots + 6) Q (F0 m 580 ls []) := fun ls hl => lv_goto (tgt := 816) hx hb dL_law_580 (by decide) (kk u.1 _ u.2 H locs ls hrel X (lv_sub hl [2, 3, 4, 5, 6] rfl))
  refine lv_if_ne (tgt := 580) hx hb dL_law_565 (by decide) (fun _ => fin ls hl) (fun c2 => ?_)
  have hout := hout c2
  refine lv_aload_n hx hb dL_law_568 rfl (lv_at hl 6 rfl) ?_
  refine lv_iconst (v := nI 0) hx hb dL_law_569 (by decide) ?_
  refine va_lald hx hb C.1.2.1 X.1 1 2 (cA := g.2.2.2) (n := 1) (f := u.2) rfl rfl (vp_in_nI (n := 0) (by decide) (by decide)) dL_law_570 ?_
  refine lv_iload hx hb dL_law_571 (lv_at hl 0 rfl) ?_
  refine lv_i2l hx hb dL_law_573 rfl ?_
  refine W.lcmp hx hb dL_law_574 ?_
  have hz : lg_cmp (u.2 (nI 0).toNatClampNeg) r.toInt64 = 0 := by rw [show u.2 (nI 0).toNatClampNeg = r.toInt64 from hout]; exact cmp_eq _
  refine lv_if_eq (tgt := 580) hx hb dL_law_575 (by decide) (fun _ => fin ls hl) (fun c3 => absurd hz c3)
set_option maxHeartbeats 1000000 in
set_option maxRecDepth 100000 in
theorem s_safe (C : LZ p m c s b L xs bL g) (htr : l.stackTraces = false) (hi : i + 1 < L) (hcs : cells + 1 ≤ room_1.cells ∧ slots + 6 ≤ room_1.slots) (hR : RelE q0 q1 q2 q3 q4 q5 q6 q7 q8 q9 q10 bk pn hd ph ot wi ik P O K) (X : zh g (fun q => s.heap.size ≤ q) (WL g h a o (q0, q1, q2, q3, q4, q5, q6, q7, q8, q9, q10) (bk, nI pn, hd, ph, ot, wi, ik, th, P, O, K, kd, lf, ch, be, gi, mr) f) s.heap H locs) (hl : lv_has ls 7 (lvL b h (a 0) o i)) (kk : LK p l e s m b below meth c g h o a i cells slots Q) : W p l e room_1 s m #[.ref b] below meth c H locs cells slots Q (F0 m 583 ls []) := by
  have hx := C.1.1.1
  have hb := C.1.1.2.1
  have hpn := RB_le hR.2.2.2.2.2.2.1
  refine lv_aload_n hx hb dL_law_583 rfl (lv_at hl 2 rfl) ?_
  refine lv_aload_n hx hb dL_law_584 rfl (lv_at hl 4 rfl) ?_
  refine zsubSi (n := 2) (As := [.ref h, .ref o]) (rest := []) (wc := WH g h o ((q0, q1, q2, q3, q4, q5, q6, q7, q8, q9, q10), f)) (wr := oM g a (bk, nI pn, hd, ph, ot, wi, ik, th, P, O, K, kd, lf, ch, be, gi, mr)) [0, 1] [2, 3, 4, 5, 6, 7, 8, 9, 10, 11] rfl rfl rfl rfl (by decide) C.1 X (c_L_safe l g bL h o q0 q1 q2 q3 q4 q5 q6 q7 q8 q9 q10 f htr) gL_law_L_safe rfl ⟨by decide, by decide, by decide +kernel⟩ ⟨Nat.le_of_ble_eq_true rfl, Nat.le_of_ble_eq_true rfl⟩ rfl rfl hl.1 (Nat.le_of_ble_eq_true rfl) dL_law_585 hcs (fun k u H locs hp1 X => ?_)
  refine lv_istore (lv' := (5, .int k) :: lvL b h (a 0) o i) hx hb dL_law_588 hl (by decide) rfl (fun ls hl => ?_)
  refine lv_aload_n hx hb dL_law_590 rfl (lv_at hl 4 rfl) ?_
  refine zsubVi (n := 0) (As := []) (rest := []) (ci := 1) (C := RX1) (T := TX1) (N := 17) (wc := oM g a (bk, nI pn, hd, ph, ot, wi, ik, th, P, O, K, kd, lf, ch, be, gi, mr)) (wr := WH g h o u) [0, 1, 2, 3, 4, 5, 6, 7, 8, 9] [10, 11] rfl rfl rfl rfl (by decide) C.1 X zSt0 (fun _ _ _ => trivial) (c_X1_safe l g a bk pn hd ph ot wi ik th P O K kd lf ch be gi mr (by omega)) gL_law_X1_safe rfl ⟨rfl, by decide, by decide, by decide +kernel⟩ ⟨Nat.le_of_ble_eq_true rfl, Nat.le_of_ble_eq_true rfl⟩ rfl rfl rfl rfl hl.1 (Nat.le_of_ble_eq_true rfl) dL_law_591 hcs (fun r w H locs hp2 X => ?_)
  obtain ⟨bk2, pl2, hd2, ph2, ot2, wi2, ik2, th2, P2, O2, K2, kd2, lf2, ch2, be2, gi2, mr2⟩ := w
  obtain ⟨hth, hout, hrel⟩ := R_safe hR hp1 hp2
  obtain ⟨pn2, rfl⟩ := RelT_pn hrel
  refine lv_istore (lv' := (6, .int r) :: (5, .int k) :: lvL b h (a 0) o i) hx hb dL_law_594 hl (by decide) rfl (fun ls hl => ?_)
  refine lv_aload_n hx hb dL_law_596 rfl (lv_at hl 5 rfl) ?_
  refine zsubVi (n := 0) (As := []) (rest := []) (ci := 1) (C := RX1) (T := TX1) (N := 17) (wc := oM g a (bk2, nI pn2, hd2, ph2, ot2, wi2, ik2, th2, P2, O2, K2, kd2, lf2, ch2, be2, gi2, mr2)) (wr := WH g h o u) [2, 3, 4, 5, 6, 7, 8, 9, 10, 11] [0, 1] rfl rfl rfl rfl (by decide) C.1 X zSt0 (fun _ _ _ => trivial) (c_X1_thrown l g a bk2 pn2 hd2 ph2 ot2 wi2 ik2 th2 P2 O2 K2 kd2 lf2 ch2 be2 gi2 mr2) gL_law_X1_thrown rfl ⟨rfl, by decide, by decide, by decide +kernel⟩ ⟨Nat.le_of_ble_eq_true rfl, Nat.le_of_ble_eq_true rfl⟩ rfl rfl rfl rfl hl.1 (Nat.le_of_ble_eq_true rfl) dL_law_597 hcs (fun r3 w3 H locs hp3 X => ?_)
  obtain ⟨e3, hr3⟩ := hp3
  rw [e3] at X
  have hr3 : r3 = k := hr3.trans hth
  refine lv_iload hx hb dL_law_600 (lv_at hl 1 rfl) ?_
  refine lv_icmp_eq (tgt := 607) hx hb dL_law_602 (by decide) (fun _ => ?_) (fun c1 => absurd hr3 c1)
  refine lv_iload hx hb dL_law_607 (lv_at hl 1 rfl) ?_
  have fin : ∀ ls : Array Slot, lv_has ls 7 ((6, .int r) :: (5, .int k) :: lvL b h (a 0) o i) → W p l e room_1 s m #[.ref b] below meth c H locs (cells + 1) (slots + 6) Q (F0 m 624 ls []) := fun ls hl => lv_goto (tgt := 816) hx hb dL_law_624 (by decide) (kk u.1 _ u.2 H locs ls hrel X (lv_sub hl [2, 3, 4, 5, 6] rfl))
  refine lv_if_ne (tgt := 624) hx hb dL_law_609 (by decide) (fun _ => fin ls hl) (fun c2 => ?_)
  have hout := hout c2
  refine lv_aload_n hx hb dL_law_612 rfl (lv_at hl 6 rfl) ?_
  refine lv_iconst (v := nI 0) hx hb dL_law_613 (by decide) ?_
  refine va_lald hx hb C.1.2.1 X.1 1 2 (cA := g.2.2.2) (n := 1) (f := u.2) rfl rfl (vp_in_nI (n := 0) (by decide) (by decide)) dL_law_614 ?_
  refine lv_iload hx hb dL_law_615 (lv_at hl 0 rfl) ?_
  refine lv_i2l hx hb dL_law_617 rfl ?_
  refine W.lcmp hx hb dL_law_618 ?_
  have hz : lg_cmp (u.2 (nI 0).toNatClampNeg) r.toInt64 = 0 := by rw [show u.2 (nI 0).toNatClampNeg = r.toInt64 from hout]; exact cmp_eq _
  refine lv_if_eq (tgt := 624) hx hb dL_law_619 (by decide) (fun _ => fin ls hl) (fun c3 => absurd hz c3)
set_option maxHeartbeats 1000000 in
set_option maxRecDepth 100000 in
theorem s_worth (C : LZ p m c s b L xs bL g) (htr : l.stackTraces = false) (hi : i + 1 < L) (hcs : cells + 1 ≤ room_1.cells ∧ slots + 6 ≤ room_1.slots) (hR : RelE q0 q1 q2 q3 q4 q5 q6 q7 q8 q9 q10 bk pn hd ph ot wi ik P O K) (X : zh g (fun q => s.heap.size ≤ q) (WL g h a o (q0, q1, q2, q3, q4, q5, q6, q7, q8, q9, q10) (bk, nI pn, hd, ph, ot, wi, ik, th, P, O, K, kd, lf, ch, be, gi, mr) f) s.heap H locs) (hl : lv_has ls 7 (lvL b h (a 0) o i)) (kk : LK p l e s m b below meth c g h o a i cells slots Q) : W p l e room_1 s m #[.ref b] below meth c H locs cells slots Q (F0 m 627 ls []) := by
  have hx := C.1.1.1
  have hb := C.1.1.2.1
  obtain ⟨v, hv⟩ : ∃ v, v = xs (nI (i + 1)).toNatClampNeg := ⟨_, rfl⟩
  obtain ⟨hp, hhp⟩ : ∃ hp : Nat, ph = 1 → hd = nI hp ∧ hp < 16 ∧ O hp = 0 := by
    by_cases z : ph = 1
    · obtain ⟨hp, h1, h2, h3⟩ := hR.2.2.2.2.2.2.2.1 z
      exact ⟨hp, fun _ => ⟨h2, h1, h3⟩⟩
    · exact ⟨0, fun q => absurd q z⟩
  obtain ⟨kq, hkq, hk1⟩ : ∃ kq : Bool, (¬ ph = 2 → ph = zb kq) ∧ (kq = true → ph = 1) := by
    rcases hR.2.1.2 with z | z | z
    · exact ⟨false, fun _ => z, fun q => by cases q⟩
    · exact ⟨true, fun _ => z, fun _ => z⟩
    · exact ⟨false, fun q => absurd z q, fun q => by cases q⟩
  have hrb := hR.2.2.2.2.2.2.1
  have hinv := KB_inv hrb.1
  have hpn := RB_le hR.2.2.2.2.2.2.1
  have hq3 : q1 = 1 → q3 = nI hp ∧ hp < 16 ∧ qHas q6 (nI hp) = false := fun z => by
    obtain ⟨x1, x2, x3⟩ := hhp (hR.2.1.1 ▸ z)
    exact ⟨hR.2.2.2.1.trans x1, x2, (RB_u hrb x2).mpr x3⟩
  have hq1 : q1 = 0 ∨ q1 = 1 ∨ q1 = 2 := by rw [hR.2.1.1]; exact hR.2.1.2
  refine lv_aload_n hx hb dL_law_627 rfl (lv_at hl 2 rfl) ?_
  refine zrd C hi X hl 1 0 rfl rfl hv dL_law_628 dL_law_629 dL_law_631 dL_law_632 dL_law_633 ?_
  refine lv_aload_n hx hb dL_law_634 rfl (lv_at hl 4 rfl) ?_
  refine zsubSi (n := 3) (As := [.ref h, .int v, .ref o]) (rest := []) (wc := WH g h o ((q0, q1, q2, q3, q4, q5, q6, q7, q8, q9, q10), f)) (wr := oM g a (bk, nI pn, hd, ph, ot, wi, ik, th, P, O, K, kd, lf, ch, be, gi, mr)) [0, 1] [2, 3, 4, 5, 6, 7, 8, 9, 10, 11] rfl rfl rfl rfl (by decide) C.1 X (c_L_worth l g bL h o q0 q1 q2 q3 q4 q5 q6 q7 q8 q9 q10 v hp f htr hinv hq1 hq3) gL_law_L_worth rfl ⟨by decide, by decide, by decide +kernel⟩ ⟨Nat.le_of_ble_eq_true rfl, Nat.le_of_ble_eq_true rfl⟩ rfl rfl hl.1 (Nat.le_of_ble_eq_true rfl) dL_law_635 hcs (fun k u H locs hp1 X => ?_)
  refine lv_istore (lv' := (5, .int k) :: lvL b h (a 0) o i) hx hb dL_law_638 hl (by decide) rfl (fun ls hl => ?_)
  refine lv_aload_n hx hb dL_law_640 rfl (lv_at hl 4 rfl) ?_
  refine zrd C hi X hl 2 1 rfl rfl hv dL_law_641 dL_law_642 dL_law_644 dL_law_645 dL_law_646 ?_
  refine zsubVi (n := 1) (As := [.int v]) (rest := []) (ci := 1) (C := RX1) (T := TX1) (N := 17) (wc := oM g a (bk, nI pn, hd, ph, ot, wi, ik, th, P, O, K, kd, lf, ch, be, gi, mr)) (wr := WH g h o u) [0, 1, 2, 3, 4, 5, 6, 7, 8, 9] [10, 11] rfl rfl rfl rfl (by decide) C.1 X zSt0 (fun _ _ _ => trivial) (c_X1_worth l g a bk pn hd ph ot wi ik th P O K kd lf ch be gi mr v kq hp hpn hkq (fun z => RB_ok hrb (hR.2.2.2.2.2.2.2.2.1 z).1) (fun z => hhp (hk1 z))) gL_law_X1_worth rfl ⟨rfl, by decide, by decide, by decide +kernel⟩ ⟨Nat.le_of_ble_eq_true rfl, Nat.le_of_ble_eq_true rfl⟩ rfl rfl rfl rfl hl.1 (Nat.le_of_ble_eq_true rfl) dL_law_647 hcs (fun r w H locs hp2 X => ?_)
  obtain ⟨bk2, pl2, hd2, ph2, ot2, wi2, ik2, th2, P2, O2, K2, kd2, lf2, ch2, be2, gi2, mr2⟩ := w
  obtain ⟨hth, hout, hrel⟩ := R_worth hR hkq (fun z => hhp (hk1 z)) hp1 hp2
  obtain ⟨pn2, rfl⟩ := RelT_pn hrel
  refine lv_istore (lv' := (6, .int r) :: (5, .int k) :: lvL b h (a 0) o i) hx hb dL_law_650 hl (by decide) rfl (fun ls hl => ?_)
  refine lv_aload_n hx hb dL_law_652 rfl (lv_at hl 5 rfl) ?_
  refine zsubVi (n := 0) (As := []) (rest := []) (ci := 1) (C := RX1) (T := TX1) (N := 17) (wc := oM g a (bk2, nI pn2, hd2, ph2, ot2, wi2, ik2, th2, P2, O2, K2, kd2, lf2, ch2, be2, gi2, mr2)) (wr := WH g h o u) [2, 3, 4, 5, 6, 7, 8, 9, 10, 11] [0, 1] rfl rfl rfl rfl (by decide) C.1 X zSt0 (fun _ _ _ => trivial) (c_X1_thrown l g a bk2 pn2 hd2 ph2 ot2 wi2 ik2 th2 P2 O2 K2 kd2 lf2 ch2 be2 gi2 mr2) gL_law_X1_thrown rfl ⟨rfl, by decide, by decide, by decide +kernel⟩ ⟨Nat.le_of_ble_eq_true rfl, Nat.le_of_ble_eq_true rfl⟩ rfl rfl rfl rfl hl.1 (Nat.le_of_ble_eq_true rfl) dL_law_653 hcs (fun r3 w3 H locs hp3 X => ?_)
  obtain ⟨e3, hr3⟩ := hp3
  rw [e3] at X
  have hr3 : r3 = k := hr3.trans hth
  refine lv_iload hx hb dL_law_656 (lv_at hl 1 rfl) ?_
  refine lv_icmp_eq (tgt := 663) hx hb dL_law_658 (by decide) (fun _ => ?_) (fun c1 => absurd hr3 c1)
  refine lv_iload hx hb dL_law_663 (lv_at hl 1 rfl) ?_
  have fin : ∀ ls : Array Slot, lv_has ls 7 ((6, .int r) :: (5, .int k) :: lvL b h (a 0) o i) → W p l e room_1 s m #[.ref b] below meth c H locs (cells + 1) (slots + 6) Q (F0 m 680 ls []) := fun ls hl => lv_goto (tgt := 816) hx hb dL_law_680 (by decide) (kk u.1 _ u.2 H locs ls hrel X (lv_sub hl [2, 3, 4, 5, 6] rfl))
  refine lv_if_ne (tgt := 680) hx hb dL_law_665 (by decide) (fun _ => fin ls hl) (fun c2 => ?_)
  have hout := hout c2
  refine lv_aload_n hx hb dL_law_668 rfl (lv_at hl 6 rfl) ?_
  refine lv_iconst (v := nI 0) hx hb dL_law_669 (by decide) ?_
  refine va_lald hx hb C.1.2.1 X.1 1 2 (cA := g.2.2.2) (n := 1) (f := u.2) rfl rfl (vp_in_nI (n := 0) (by decide) (by decide)) dL_law_670 ?_
  refine lv_iload hx hb dL_law_671 (lv_at hl 0 rfl) ?_
  refine lv_i2l hx hb dL_law_673 rfl ?_
  refine W.lcmp hx hb dL_law_674 ?_
  have hz : lg_cmp (u.2 (nI 0).toNatClampNeg) r.toInt64 = 0 := by rw [show u.2 (nI 0).toNatClampNeg = r.toInt64 from hout]; exact cmp_eq _
  refine lv_if_eq (tgt := 680) hx hb dL_law_675 (by decide) (fun _ => fin ls hl) (fun c3 => absurd hz c3)
set_option maxHeartbeats 1000000 in
set_option maxRecDepth 100000 in
theorem s_best (C : LZ p m c s b L xs bL g) (htr : l.stackTraces = false) (hi : i + 1 < L) (hcs : cells + 1 ≤ room_1.cells ∧ slots + 6 ≤ room_1.slots) (hR : RelE q0 q1 q2 q3 q4 q5 q6 q7 q8 q9 q10 bk pn hd ph ot wi ik P O K) (X : zh g (fun q => s.heap.size ≤ q) (WL g h a o (q0, q1, q2, q3, q4, q5, q6, q7, q8, q9, q10) (bk, nI pn, hd, ph, ot, wi, ik, th, P, O, K, kd, lf, ch, be, gi, mr) f) s.heap H locs) (hl : lv_has ls 7 (lvL b h (a 0) o i)) (kk : LK p l e s m b below meth c g h o a i cells slots Q) : W p l e room_1 s m #[.ref b] below meth c H locs cells slots Q (F0 m 683 ls []) := by
  have hx := C.1.1.1
  have hb := C.1.1.2.1
  obtain ⟨v, hv⟩ : ∃ v, v = xs (nI (i + 1)).toNatClampNeg := ⟨_, rfl⟩
  obtain ⟨hp, hhp⟩ : ∃ hp : Nat, ph = 1 → hd = nI hp ∧ hp < 16 ∧ O hp = 0 := by
    by_cases z : ph = 1
    · obtain ⟨hp, h1, h2, h3⟩ := hR.2.2.2.2.2.2.2.1 z
      exact ⟨hp, fun _ => ⟨h2, h1, h3⟩⟩
    · exact ⟨0, fun q => absurd q z⟩
  obtain ⟨kq, hkq, hk1⟩ : ∃ kq : Bool, (¬ ph = 2 → ph = zb kq) ∧ (kq = true → ph = 1) := by
    rcases hR.2.1.2 with z | z | z
    · exact ⟨false, fun _ => z, fun q => by cases q⟩
    · exact ⟨true, fun _ => z, fun _ => z⟩
    · exact ⟨false, fun q => absurd z q, fun q => by cases q⟩
  have hrb := hR.2.2.2.2.2.2.1
  have hinv := KB_inv hrb.1
  have hpn := RB_le hR.2.2.2.2.2.2.1
  have hq3 : q1 = 1 → q3 = nI hp ∧ hp < 16 ∧ qHas q6 (nI hp) = false := fun z => by
    obtain ⟨x1, x2, x3⟩ := hhp (hR.2.1.1 ▸ z)
    exact ⟨hR.2.2.2.1.trans x1, x2, (RB_u hrb x2).mpr x3⟩
  have hq1 : q1 = 0 ∨ q1 = 1 ∨ q1 = 2 := by rw [hR.2.1.1]; exact hR.2.1.2
  refine lv_aload_n hx hb dL_law_683 rfl (lv_at hl 2 rfl) ?_
  refine zrd C hi X hl 1 0 rfl rfl hv dL_law_684 dL_law_685 dL_law_687 dL_law_688 dL_law_689 ?_
  refine lv_aload_n hx hb dL_law_690 rfl (lv_at hl 4 rfl) ?_
  refine zsubSi (n := 3) (As := [.ref h, .int v, .ref o]) (rest := []) (wc := WH g h o ((q0, q1, q2, q3, q4, q5, q6, q7, q8, q9, q10), f)) (wr := oM g a (bk, nI pn, hd, ph, ot, wi, ik, th, P, O, K, kd, lf, ch, be, gi, mr)) [0, 1] [2, 3, 4, 5, 6, 7, 8, 9, 10, 11] rfl rfl rfl rfl (by decide) C.1 X (c_L_best l g bL h o q0 q1 q2 q3 q4 q5 q6 q7 q8 q9 q10 v hp f htr hinv hq1 hq3) gL_law_L_best rfl ⟨by decide, by decide, by decide +kernel⟩ ⟨Nat.le_of_ble_eq_true rfl, Nat.le_of_ble_eq_true rfl⟩ rfl rfl hl.1 (Nat.le_of_ble_eq_true rfl) dL_law_691 hcs (fun k u H locs hp1 X => ?_)
  refine lv_istore (lv' := (5, .int k) :: lvL b h (a 0) o i) hx hb dL_law_694 hl (by decide) rfl (fun ls hl => ?_)
  refine lv_aload_n hx hb dL_law_696 rfl (lv_at hl 4 rfl) ?_
  refine zrd C hi X hl 2 1 rfl rfl hv dL_law_697 dL_law_698 dL_law_700 dL_law_701 dL_law_702 ?_
  refine zsubVi (n := 1) (As := [.int v]) (rest := []) (ci := 1) (C := RX1) (T := TX1) (N := 17) (wc := oM g a (bk, nI pn, hd, ph, ot, wi, ik, th, P, O, K, kd, lf, ch, be, gi, mr)) (wr := WH g h o u) [0, 1, 2, 3, 4, 5, 6, 7, 8, 9] [10, 11] rfl rfl rfl rfl (by decide) C.1 X zSt0 (fun _ _ _ => trivial) (c_X1_best l g a bk pn hd ph ot wi ik th P O K kd lf ch be gi mr v kq hp hpn hkq (fun z => RB_ok hrb (hR.2.2.2.2.2.2.2.2.1 z).1) (fun z => hhp (hk1 z))) gL_law_X1_best rfl ⟨rfl, by decide, by decide, by decide +kernel⟩ ⟨Nat.le_of_ble_eq_true rfl, Nat.le_of_ble_eq_true rfl⟩ rfl rfl rfl rfl hl.1 (Nat.le_of_ble_eq_true rfl) dL_law_703 hcs (fun r w H locs hp2 X => ?_)
  obtain ⟨bk2, pl2, hd2, ph2, ot2, wi2, ik2, th2, P2, O2, K2, kd2, lf2, ch2, be2, gi2, mr2⟩ := w
  obtain ⟨hth, hout, hrel⟩ := R_best hR hkq (fun z => hhp (hk1 z)) hp1 hp2
  obtain ⟨pn2, rfl⟩ := RelT_pn hrel
  refine lv_istore (lv' := (6, .int r) :: (5, .int k) :: lvL b h (a 0) o i) hx hb dL_law_706 hl (by decide) rfl (fun ls hl => ?_)
  refine lv_aload_n hx hb dL_law_708 rfl (lv_at hl 5 rfl) ?_
  refine zsubVi (n := 0) (As := []) (rest := []) (ci := 1) (C := RX1) (T := TX1) (N := 17) (wc := oM g a (bk2, nI pn2, hd2, ph2, ot2, wi2, ik2, th2, P2, O2, K2, kd2, lf2, ch2, be2, gi2, mr2)) (wr := WH g h o u) [2, 3, 4, 5, 6, 7, 8, 9, 10, 11] [0, 1] rfl rfl rfl rfl (by decide) C.1 X zSt0 (fun _ _ _ => trivial) (c_X1_thrown l g a bk2 pn2 hd2 ph2 ot2 wi2 ik2 th2 P2 O2 K2 kd2 lf2 ch2 be2 gi2 mr2) gL_law_X1_thrown rfl ⟨rfl, by decide, by decide, by decide +kernel⟩ ⟨Nat.le_of_ble_eq_true rfl, Nat.le_of_ble_eq_true rfl⟩ rfl rfl rfl rfl hl.1 (Nat.le_of_ble_eq_true rfl) dL_law_709 hcs (fun r3 w3 H locs hp3 X => ?_)
  obtain ⟨e3, hr3⟩ := hp3
  rw [e3] at X
  have hr3 : r3 = k := hr3.trans hth
  refine lv_iload hx hb dL_law_712 (lv_at hl 1 rfl) ?_
  refine lv_icmp_eq (tgt := 719) hx hb dL_law_714 (by decide) (fun _ => ?_) (fun c1 => absurd hr3 c1)
  refine lv_iload hx hb dL_law_719 (lv_at hl 1 rfl) ?_
  have fin : ∀ ls : Array Slot, lv_has ls 7 ((6, .int r) :: (5, .int k) :: lvL b h (a 0) o i) → W p l e room_1 s m #[.ref b] below meth c H locs (cells + 1) (slots + 6) Q (F0 m 736 ls []) := fun ls hl => lv_goto (tgt := 816) hx hb dL_law_736 (by decide) (kk u.1 _ u.2 H locs ls hrel X (lv_sub hl [2, 3, 4, 5, 6] rfl))
  refine lv_if_ne (tgt := 736) hx hb dL_law_721 (by decide) (fun _ => fin ls hl) (fun c2 => ?_)
  have hout := hout c2
  refine lv_aload_n hx hb dL_law_724 rfl (lv_at hl 6 rfl) ?_
  refine lv_iconst (v := nI 0) hx hb dL_law_725 (by decide) ?_
  refine va_lald hx hb C.1.2.1 X.1 1 2 (cA := g.2.2.2) (n := 1) (f := u.2) rfl rfl (vp_in_nI (n := 0) (by decide) (by decide)) dL_law_726 ?_
  refine lv_iload hx hb dL_law_727 (lv_at hl 0 rfl) ?_
  refine lv_i2l hx hb dL_law_729 rfl ?_
  refine W.lcmp hx hb dL_law_730 ?_
  have hz : lg_cmp (u.2 (nI 0).toNatClampNeg) r.toInt64 = 0 := by rw [show u.2 (nI 0).toNatClampNeg = r.toInt64 from hout]; exact cmp_eq _
  refine lv_if_eq (tgt := 736) hx hb dL_law_731 (by decide) (fun _ => fin ls hl) (fun c3 => absurd hz c3)
set_option maxHeartbeats 1000000 in
set_option maxRecDepth 100000 in
theorem s_isAlike (C : LZ p m c s b L xs bL g) (htr : l.stackTraces = false) (hi : i + 1 < L) (hcs : cells + 1 ≤ room_1.cells ∧ slots + 6 ≤ room_1.slots) (hR : RelE q0 q1 q2 q3 q4 q5 q6 q7 q8 q9 q10 bk pn hd ph ot wi ik P O K) (X : zh g (fun q => s.heap.size ≤ q) (WL g h a o (q0, q1, q2, q3, q4, q5, q6, q7, q8, q9, q10) (bk, nI pn, hd, ph, ot, wi, ik, th, P, O, K, kd, lf, ch, be, gi, mr) f) s.heap H locs) (hl : lv_has ls 7 (lvL b h (a 0) o i)) (kk : LK p l e s m b below meth c g h o a i cells slots Q) : W p l e room_1 s m #[.ref b] below meth c H locs cells slots Q (F0 m 752 ls []) := by
  have hx := C.1.1.1
  have hb := C.1.1.2.1
  refine lv_aload_n hx hb dL_law_752 rfl (lv_at hl 2 rfl) ?_
  refine lv_aload_n hx hb dL_law_753 rfl (lv_at hl 4 rfl) ?_
  refine zsubSi (n := 2) (As := [.ref h, .ref o]) (rest := []) (wc := WH g h o ((q0, q1, q2, q3, q4, q5, q6, q7, q8, q9, q10), f)) (wr := oM g a (bk, nI pn, hd, ph, ot, wi, ik, th, P, O, K, kd, lf, ch, be, gi, mr)) [0, 1] [2, 3, 4, 5, 6, 7, 8, 9, 10, 11] rfl rfl rfl rfl (by decide) C.1 X (c_L_isAlike l g bL h o q0 q1 q2 q3 q4 q5 q6 q7 q8 q9 q10 f htr) gL_law_L_isAlike rfl ⟨by decide, by decide, by decide +kernel⟩ ⟨Nat.le_of_ble_eq_true rfl, Nat.le_of_ble_eq_true rfl⟩ rfl rfl hl.1 (Nat.le_of_ble_eq_true rfl) dL_law_754 hcs (fun k u H locs hp1 X => ?_)
  refine lv_istore (lv' := (5, .int k) :: lvL b h (a 0) o i) hx hb dL_law_757 hl (by decide) rfl (fun ls hl => ?_)
  refine lv_aload_n hx hb dL_law_759 rfl (lv_at hl 4 rfl) ?_
  refine zsubVi (n := 0) (As := []) (rest := []) (ci := 1) (C := RX1) (T := TX1) (N := 17) (wc := oM g a (bk, nI pn, hd, ph, ot, wi, ik, th, P, O, K, kd, lf, ch, be, gi, mr)) (wr := WH g h o u) [0, 1, 2, 3, 4, 5, 6, 7, 8, 9] [10, 11] rfl rfl rfl rfl (by decide) C.1 X zSt0 (fun _ _ _ => trivial) (c_X1_isAlike l g a bk pn hd ph ot wi ik th P O K kd lf ch be gi mr) gL_law_X1_isAlike rfl ⟨rfl, by decide, by decide, by decide +kernel⟩ ⟨Nat.le_of_ble_eq_true rfl, Nat.le_of_ble_eq_true rfl⟩ rfl rfl rfl rfl hl.1 (Nat.le_of_ble_eq_true rfl) dL_law_760 hcs (fun r w H locs hp2 X => ?_)
  obtain ⟨bk2, pl2, hd2, ph2, ot2, wi2, ik2, th2, P2, O2, K2, kd2, lf2, ch2, be2, gi2, mr2⟩ := w
  obtain ⟨⟨hth, hout, hrel⟩, bb, hbb⟩ := R_isAlike hR hp1 hp2
  obtain ⟨pn2, rfl⟩ := RelT_pn hrel
  refine lv_istore (lv' := (6, .int r) :: (5, .int k) :: lvL b h (a 0) o i) hx hb dL_law_763 hl (by decide) rfl (fun ls hl => ?_)
  refine lv_aload_n hx hb dL_law_765 rfl (lv_at hl 5 rfl) ?_
  refine zsubVi (n := 0) (As := []) (rest := []) (ci := 1) (C := RX1) (T := TX1) (N := 17) (wc := oM g a (bk2, nI pn2, hd2, ph2, ot2, wi2, ik2, th2, P2, O2, K2, kd2, lf2, ch2, be2, gi2, mr2)) (wr := WH g h o u) [2, 3, 4, 5, 6, 7, 8, 9, 10, 11] [0, 1] rfl rfl rfl rfl (by decide) C.1 X zSt0 (fun _ _ _ => trivial) (c_X1_thrown l g a bk2 pn2 hd2 ph2 ot2 wi2 ik2 th2 P2 O2 K2 kd2 lf2 ch2 be2 gi2 mr2) gL_law_X1_thrown rfl ⟨rfl, by decide, by decide, by decide +kernel⟩ ⟨Nat.le_of_ble_eq_true rfl, Nat.le_of_ble_eq_true rfl⟩ rfl rfl rfl rfl hl.1 (Nat.le_of_ble_eq_true rfl) dL_law_766 hcs (fun r3 w3 H locs hp3 X => ?_)
  obtain ⟨e3, hr3⟩ := hp3
  rw [e3] at X
  have hr3 : r3 = k := hr3.trans hth
  refine lv_iload hx hb dL_law_769 (lv_at hl 1 rfl) ?_
  refine lv_icmp_eq (tgt := 776) hx hb dL_law_771 (by decide) (fun _ => ?_) (fun c1 => absurd hr3 c1)
  refine lv_iload hx hb dL_law_776 (lv_at hl 1 rfl) ?_
  have fin : ∀ ls : Array Slot, lv_has ls 7 ((6, .int r) :: (5, .int k) :: lvL b h (a 0) o i) → W p l e room_1 s m #[.ref b] below meth c H locs (cells + 1) (slots + 6) Q (F0 m 800 ls []) := fun ls hl => lv_goto (tgt := 816) hx hb dL_law_800 (by decide) (kk u.1 _ u.2 H locs ls hrel X (lv_sub hl [2, 3, 4, 5, 6] rfl))
  refine lv_if_ne (tgt := 800) hx hb dL_law_778 (by decide) (fun _ => fin ls hl) (fun c2 => ?_)
  have hout := hout c2
  refine lv_aload_n hx hb dL_law_781 rfl (lv_at hl 6 rfl) ?_
  refine lv_iconst (v := nI 0) hx hb dL_law_782 (by decide) ?_
  refine va_lald hx hb C.1.2.1 X.1 1 2 (cA := g.2.2.2) (n := 1) (f := u.2) rfl rfl (vp_in_nI (n := 0) (by decide) (by decide)) dL_law_783 ?_
  have hlast : ∀ y : Int64, y = r.toInt64 → W p l e room_1 s m #[.ref b] below meth c H locs (cells + 1) (slots + 6) Q (F0 m 794 ls [.long y, .long (u.2 (nI 0).toNatClampNeg)]) := fun y hy => by
    refine W.lcmp hx hb dL_law_794 ?_
    have hz : lg_cmp (u.2 (nI 0).toNatClampNeg) y = 0 := by rw [show u.2 (nI 0).toNatClampNeg = y from hout.trans hy.symm]; exact cmp_eq _
    exact lv_if_eq (tgt := 800) hx hb dL_law_795 (by decide) (fun _ => fin ls hl) (fun c3 => absurd hz c3)
  refine lv_iload hx hb dL_law_784 (lv_at hl 0 rfl) ?_
  refine lv_if_eq (tgt := 793) hx hb dL_law_786 (by decide) (fun c4 => ?_) (fun c4 => ?_)
  · exact lv_lconst (v := (0 : Int64)) hx hb dL_law_793 (by decide) (hlast 0 (by rw [c4]; rfl))
  · refine lv_lconst (v := (1 : Int64)) hx hb dL_law_789 (by decide) ?_
    exact lv_goto (tgt := 794) hx hb dL_law_790 (by decide) (hlast 1 (by rw [hbb] at c4 ⊢; rw [zb_t (zb_n0.mp c4)]; rfl))
end LP
