/-! the twin: looking ahead by rows -/
def mx32 (F : Nat → Int32) : Nat → Int32
  | 0 => -2
  | k + 1 => if F k ≤ mx32 F k then mx32 F k else F k
theorem mx_le {F : Nat → Int32} {c : Nat} {e : Int32} (hF : F c = e) (h : e ≤ mx32 F c) : mx32 F (c + 1) = mx32 F c := by rw [mx32, hF, if_pos h]
theorem mx_gt {F : Nat → Int32} {c : Nat} {e : Int32} (hF : F c = e) (h : ¬ e ≤ mx32 F c) : mx32 F (c + 1) = e := by rw [mx32, hF, if_neg h]
/-- how often a row has v, of its first k -/
def cntv (f : Nat → Int32) (v : Int32) : Nat → Nat
  | 0 => 0
  | k + 1 => cntv f v k + (if f k = v then 1 else 0)
theorem cntv_le (f : Nat → Int32) (v : Int32) : ∀ k, cntv f v k ≤ k
  | 0 => Nat.le_refl 0
  | k + 1 => by
    have := cntv_le f v k
    unfold cntv
    split <;> omega
theorem cntv_ex {f : Nat → Int32} {v : Int32} : ∀ {k : Nat}, 0 < cntv f v k → ∃ j, j < k ∧ f j = v
  | 0, h => absurd h (Nat.lt_irrefl 0)
  | k + 1, h => by
    unfold cntv at h
    by_cases e : f k = v
    · exact ⟨k, Nat.lt_succ_self k, e⟩
    · rw [if_neg e] at h
      obtain ⟨j, h1, h2⟩ := cntv_ex (k := k) h
      exact ⟨j, Nat.lt_succ_of_lt h1, h2⟩
theorem cntv_un {f : Nat → Int32} {v x : Int32} {s : Nat} : ∀ {k : Nat}, k ≤ s → cntv (upd f s x) v k = cntv f v k
  | 0, _ => rfl
  | k + 1, h => by
    unfold cntv
    rw [cntv_un (k := k) (by omega), pk_un (f := f) (k := s) (j := k) (by omega)]
theorem cntv_up {f : Nat → Int32} {v x : Int32} {s : Nat} (hv : f s = v) (hx : ¬ x = v) : ∀ {k : Nat}, s < k → cntv (upd f s x) v k + 1 = cntv f v k
  | 0, h => absurd h (Nat.not_lt_zero s)
  | k + 1, h => by
    unfold cntv
    by_cases e : s = k
    · subst e
      rw [cntv_un (Nat.le_refl s), pk_us, if_neg hx, if_pos hv]
    · have := cntv_up (f := f) hv hx (k := k) (by omega)
      rw [pk_un (f := f) (k := s) (j := k) (by omega)]
      omega
def mPF (w : Int32) (sub : (Nat → Int32) → (Nat → Int32) → Nat → Int32) (n : Nat) (P O : Nat → Int32) (pn p s : Nat) : Int32 := if P s = -1 then (if 0 < mWon w (upd P s (nI p)) s then 1 else if pn + 1 = 16 ∨ n = 1 then 0 else sub (upd P s (nI p)) (upd O p 1) (pn + 1)) else -2
def mG (w : Int32) : Nat → (Nat → Int32) → (Nat → Int32) → Nat → Int32
  | 0 => fun _ _ _ => 0
  | n + 1 => fun P O pn => mx32 (fun p => if O p = 0 then -mx32 (mPF w (mG w n) (n + 1) P O pn p) 16 else -2) 16
def mPv (w : Int32) (n : Nat) (P O : Nat → Int32) (pn p : Nat) : Int32 := mx32 (mPF w (mG w (n - 1)) n P O pn p) 16
def mGF (w : Int32) (n : Nat) (P O : Nat → Int32) (pn p : Nat) : Int32 := if O p = 0 then -mPv w n P O pn p else -2
theorem mG_eq (w : Int32) {n : Nat} (hn : 1 ≤ n) (P O : Nat → Int32) (pn : Nat) : mG w n P O pn = mx32 (mGF w n P O pn) 16 := by
  cases n with
  | zero => exact absurd hn (by decide)
  | succ n => rfl
theorem mx_range {F : Nat → Int32} : ∀ {k : Nat}, (∀ j, j < k → -2 ≤ F j ∧ F j ≤ 1) → -2 ≤ mx32 F k ∧ mx32 F k ≤ 1 ∧ ∀ j, j < k → F j ≤ mx32 F k
  | 0, _ => ⟨by show (-2 : Int32) ≤ -2; decide, by show (-2 : Int32) ≤ 1; decide, fun j h => absurd h (Nat.not_lt_zero j)⟩
  | k + 1, h => by
    obtain ⟨h1, h2, h3⟩ := mx_range (F := F) (k := k) (fun j hj => h j (by omega))
    have hk := h k (Nat.lt_succ_self k)
    unfold mx32
    split
    · rename_i e
      exact ⟨h1, h2, fun j hj => by rcases Nat.lt_succ_iff_lt_or_eq.mp hj with q | q; exact h3 j q; rw [q]; exact e⟩
    · rename_i e
      have e2 : mx32 F k ≤ F k := Int32.le_of_lt (Int32.not_le.mp e)
      exact ⟨hk.1, hk.2, fun j hj => by rcases Nat.lt_succ_iff_lt_or_eq.mp hj with q | q; exact Int32.le_trans (h3 j q) e2; rw [q]; exact Int32.le_refl _⟩
theorem neg_range {x : Int32} (h1 : -1 ≤ x) (h2 : x ≤ 1) : -1 ≤ -x ∧ -x ≤ 1 := by
  have a := Int32.le_iff_toInt_le.mp h1
  have b := Int32.le_iff_toInt_le.mp h2
  have a1 : (-1 : Int32).toInt = -1 := by decide
  have b1 : (1 : Int32).toInt = 1 := by decide
  rw [a1] at a
  rw [b1] at b
  have e : x = -1 ∨ x = 0 ∨ x = 1 := by
    rcases (by omega : x.toInt = -1 ∨ x.toInt = 0 ∨ x.toInt = 1) with h | h | h
    · exact Or.inl (Int32.toInt_inj.mp (h.trans a1.symm))
    · exact Or.inr (Or.inl (Int32.toInt_inj.mp h))
    · exact Or.inr (Or.inr (Int32.toInt_inj.mp (h.trans b1.symm)))
  rcases e with rfl | rfl | rfl <;> decide
/-- a position that can be looked at -/
def okM (P O : Nat → Int32) (pn : Nat) : Prop := pn < 16 ∧ cntv P (-1) 16 + pn = 16 ∧ cntv O 0 16 + pn = 16
theorem okM_put {P O : Nat → Int32} {pn p s : Nat} (h : okM P O pn) (hs : s < 16) (hp : p < 16) (h1 : P s = -1) (h2 : O p = 0) (hf : ¬ pn + 1 = 16) : okM (upd P s (nI p)) (upd O p 1) (pn + 1) := by
  obtain ⟨a, b, c⟩ := h
  have hx : ¬ nI p = -1 := fun q => by
    have : nI p < 0 := by rw [q]; decide
    exact nI_pos (by omega) this
  have e1 := cntv_up (f := P) (x := nI p) h1 hx (k := 16) hs
  have e2 := cntv_up (f := O) (x := 1) h2 (by decide) (k := 16) hp
  exact ⟨by omega, by omega, by omega⟩
theorem m_range (w : Int32) : ∀ n, (∀ P O pn, okM P O pn → -1 ≤ mG w n P O pn ∧ mG w n P O pn ≤ 1) ∧ (∀ P O pn p, okM P O pn → p < 16 → O p = 0 → (∀ s, s < 16 → -2 ≤ mPF w (mG w (n - 1)) n P O pn p s ∧ mPF w (mG w (n - 1)) n P O pn p s ≤ 1) ∧ -1 ≤ mPv w n P O pn p ∧ mPv w n P O pn p ≤ 1) := by
  intro n
  induction n with
  | zero =>
    refine ⟨fun _ _ _ _ => ⟨by show (-1 : Int32) ≤ 0; decide, by show (0 : Int32) ≤ 1; decide⟩, fun P O pn p ho hp hO => ?_⟩
    have hr : ∀ s, s < 16 → (-2 ≤ mPF w (mG w 0) 0 P O pn p s ∧ mPF w (mG w 0) 0 P O pn p s ≤ 1) ∧ (P s = -1 → -1 ≤ mPF w (mG w 0) 0 P O pn p s) := by
      intro s _
      unfold mPF
      by_cases e : P s = -1
      · rw [if_pos e]
        split
        · exact ⟨⟨by decide, by decide⟩, fun _ => by decide⟩
        · split
          · exact ⟨⟨by decide, by decide⟩, fun _ => by decide⟩
          · exact ⟨⟨by show (-2 : Int32) ≤ 0; decide, by show (0 : Int32) ≤ 1; decide⟩, fun _ => by show (-1 : Int32) ≤ 0; decide⟩
      · rw [if_neg e]
        exact ⟨⟨by decide, by decide⟩, fun q => absurd q e⟩
    obtain ⟨s, hs, hm⟩ := cntv_ex (f := P) (v := -1) (k := 16) (by have := ho.2.1; have := ho.1; omega)
    have hx := mx_range (F := mPF w (mG w 0) 0 P O pn p) (k := 16) (fun j hj => (hr j hj).1)
    exact ⟨fun s hs => (hr s hs).1, Int32.le_trans ((hr s hs).2 hm) (hx.2.2 s hs), hx.2.1⟩
  | succ n ih =>
    have hP : ∀ P O pn p, okM P O pn → p < 16 → O p = 0 → (∀ s, s < 16 → -2 ≤ mPF w (mG w n) (n + 1) P O pn p s ∧ mPF w (mG w n) (n + 1) P O pn p s ≤ 1) ∧ -1 ≤ mPv w (n + 1) P O pn p ∧ mPv w (n + 1) P O pn p ≤ 1 := by
      intro P O pn p ho hp hO
      have hr : ∀ s, s < 16 → (-2 ≤ mPF w (mG w n) (n + 1) P O pn p s ∧ mPF w (mG w n) (n + 1) P O pn p s ≤ 1) ∧ (P s = -1 → -1 ≤ mPF w (mG w n) (n + 1) P O pn p s) := by
        intro s hs
        unfold mPF
        by_cases e : P s = -1
        · rw [if_pos e]
          split
          · exact ⟨⟨by decide, by decide⟩, fun _ => by decide⟩
          · split
            · exact ⟨⟨by decide, by decide⟩, fun _ => by decide⟩
            · rename_i q
              have := ih.1 _ _ _ (okM_put ho hs hp e hO (fun z => q (Or.inl z)))
              exact ⟨⟨Int32.le_trans (by decide) this.1, this.2⟩, fun _ => this.1⟩
        · rw [if_neg e]
          exact ⟨⟨by decide, by decide⟩, fun q => absurd q e⟩
      obtain ⟨s, hs, hm⟩ := cntv_ex (f := P) (v := -1) (k := 16) (by have := ho.2.1; have := ho.1; omega)
      have hx := mx_range (F := mPF w (mG w n) (n + 1) P O pn p) (k := 16) (fun j hj => (hr j hj).1)
      exact ⟨fun s hs => (hr s hs).1, Int32.le_trans ((hr s hs).2 hm) (hx.2.2 s hs), hx.2.1⟩
    refine ⟨fun P O pn ho => ?_, hP⟩
    rw [mG_eq w (by omega)]
    have hr : ∀ p, p < 16 → (-2 ≤ mGF w (n + 1) P O pn p ∧ mGF w (n + 1) P O pn p ≤ 1) ∧ (O p = 0 → -1 ≤ mGF w (n + 1) P O pn p) := by
      intro p hp
      unfold mGF
      by_cases e : O p = 0
      · rw [if_pos e]
        have := (hP P O pn p ho hp e).2
        have h2 := neg_range this.1 this.2
        exact ⟨⟨Int32.le_trans (by decide) h2.1, h2.2⟩, fun _ => h2.1⟩
      · rw [if_neg e]
        exact ⟨⟨by decide, by decide⟩, fun q => absurd q e⟩
    obtain ⟨p, hp, hm⟩ := cntv_ex (f := O) (v := 0) (k := 16) (by have := ho.2.2; have := ho.1; omega)
    have hx := mx_range (F := mGF w (n + 1) P O pn) (k := 16) (fun j hj => (hr j hj).1)
    exact ⟨Int32.le_trans ((hr p hp).2 hm) (hx.2.2 p hp), hx.2.1⟩
/-- the row that a level runs over: of the giver, of the placer of p -/
def lkF (w : Int32) (kp : Bool) (n : Nat) (P O : Nat → Int32) (pn p : Nat) : Nat → Int32 := match kp with
  | false => mGF w n P O pn
  | true => mPF w (mG w (n - 1)) n P O pn p
def lkD (kp : Bool) (n : Nat) : Nat := match kp with
  | false => 2 * n
  | true => 2 * n - 1
theorem lk_le (w : Int32) {kp : Bool} {n : Nat} {P O : Nat → Int32} {pn p : Nat} (ho : okM P O pn) (hp : kp = true → p < 16 ∧ O p = 0) : ∀ k, k < 16 → -2 ≤ lkF w kp n P O pn p k ∧ lkF w kp n P O pn p k ≤ 1 := by
  intro k hk
  cases kp with
  | false =>
    show -2 ≤ mGF w n P O pn k ∧ mGF w n P O pn k ≤ 1
    unfold mGF
    split
    · rename_i e
      have := ((m_range w n).2 P O pn k ho hk e).2
      have h2 := neg_range this.1 this.2
      exact ⟨Int32.le_trans (by decide) h2.1, h2.2⟩
    · exact ⟨by decide, by decide⟩
  | true =>
    obtain ⟨h1, h2⟩ := hp rfl
    exact ((m_range w n).2 P O pn p ho h1 h2).1 k hk
theorem mx_early {F : Nat → Int32} (hF : ∀ k, k < 16 → -2 ≤ F k ∧ F k ≤ 1) : ∀ (m c : Nat), c + m = 16 → mx32 F c = 1 → mx32 F 16 = 1
  | 0, c, h, e => by rw [show (16 : Nat) = c by omega]; exact e
  | m + 1, c, h, e => mx_early hF m (c + 1) (by omega) (by rw [mx_le rfl (by rw [e]; exact (hF c (by omega)).2)]; exact e)
theorem mx_end {F : Nat → Int32} (hF : ∀ k, k < 16 → -2 ≤ F k ∧ F k ≤ 1) {c : Nat} (hc : c ≤ 16) (h : c = 16 ∨ mx32 F c = 1) : mx32 F c = mx32 F 16 := by
  rcases h with h | h
  · rw [h]
  · rw [h, mx_early hF (16 - c) c (by omega) h]
def lag (L : Nat) (kd lf ch be gi kd2 lf2 ch2 be2 gi2 : Nat → Int32) : Prop := ∀ i, i < L → kd2 i = kd i ∧ lf2 i = lf i ∧ ch2 i = ch i ∧ be2 i = be i ∧ gi2 i = gi i
theorem lag_tr {L : Nat} {kd lf ch be gi kd2 lf2 ch2 be2 gi2 kd3 lf3 ch3 be3 gi3 : Nat → Int32} (h1 : lag L kd lf ch be gi kd2 lf2 ch2 be2 gi2) (h2 : lag L kd2 lf2 ch2 be2 gi2 kd3 lf3 ch3 be3 gi3) : lag L kd lf ch be gi kd3 lf3 ch3 be3 gi3 := fun i hi => ⟨(h2 i hi).1.trans (h1 i hi).1, (h2 i hi).2.1.trans (h1 i hi).2.1, (h2 i hi).2.2.1.trans (h1 i hi).2.2.1, (h2 i hi).2.2.2.1.trans (h1 i hi).2.2.2.1, (h2 i hi).2.2.2.2.trans (h1 i hi).2.2.2.2⟩
theorem lag_1 {L : Nat} {kd lf ch be gi : Nat → Int32} {x y : Int32} : lag L kd lf ch be gi kd lf (upd ch L x) (upd be L y) gi := fun i hi => ⟨rfl, rfl, pk_un (by omega), pk_un (by omega), rfl⟩
theorem lag_0 {L : Nat} {kd lf ch be gi : Nat → Int32} {x : Int32} : lag L kd lf ch be gi kd lf (upd ch L x) be gi := fun i hi => ⟨rfl, rfl, pk_un (by omega), rfl, rfl⟩
theorem lag_2 {L : Nat} {kd lf ch be gi kd2 lf2 ch2 be2 gi2 : Nat → Int32} {x y z1 z2 z3 z4 z5 y2 : Int32} (h : lag (L + 1) (upd kd (L + 1) z1) (upd lf (L + 1) z2) (upd (upd ch L x) (L + 1) z3) (upd (upd be L y) (L + 1) z4) (upd gi (L + 1) z5) kd2 lf2 ch2 be2 gi2) : lag L kd lf ch be gi kd2 lf2 ch2 (upd be2 L y2) gi2 := by
  intro i hi
  obtain ⟨h1, h2, h3, h4, h5⟩ := h i (by omega)
  exact ⟨h1.trans (pk_un (by omega)), h2.trans (pk_un (by omega)), h3.trans ((pk_un (by omega)).trans (pk_un (by omega))), (pk_un (by omega)).trans (h4.trans ((pk_un (by omega)).trans (pk_un (by omega)))), h5.trans (pk_un (by omega))⟩
theorem zi_dec (k : Nat) : nI (k + 1) + Int32.ofInt (-1) = nI k := pk_m1 k
theorem inw_X1_enters : ∀ w ∈ wsX10, w ∈ wsX1_enters := by decide +kernel
theorem lk_X1_enters_30 : Cond.fieldLink RX1 30 "QuarterboardModel" "kind" "[I" ∈ wsX1_enters := by decide +kernel
theorem lk_X1_enters_33 : Cond.fieldLink RX1 33 "QuarterboardModel" "left" "[I" ∈ wsX1_enters := by decide +kernel
theorem lk_X1_enters_36 : Cond.fieldLink RX1 36 "QuarterboardModel" "choice" "[I" ∈ wsX1_enters := by decide +kernel
theorem lk_X1_enters_39 : Cond.fieldLink RX1 39 "QuarterboardModel" "best" "[I" ∈ wsX1_enters := by decide +kernel
theorem lk_X1_enters_42 : Cond.fieldLink RX1 42 "QuarterboardModel" "given" "[I" ∈ wsX1_enters := by decide +kernel
def P_X1_enters (bk : Int32) (pn : Nat) (hd ph ot wi ik th : Int32) (P O K kd lf ch be gi mr : Nat → Int32) (lv : Nat) (wh : Int32) (np : Int32) (it : Int32) : MS → Prop := fun u => u = (bk, nI pn, hd, ph, ot, wi, ik, th, P, O, K, upd kd lv wh, upd lf lv np, upd ch lv (-1), upd be lv (-2), upd gi lv it, mr)
set_option maxHeartbeats 4000000 in
set_option maxRecDepth 100000 in
theorem c_X1_enters (l : Launch) (g : zG) (a : Nat → Nat) (bk : Int32) (pn : Nat) (hd ph ot wi ik th : Int32) (P O K kd lf ch be gi mr : Nat → Int32) (lv : Nat) (wh : Int32) (np : Int32) (it : Int32) (hlv : lv < 10) : zM l yX1_enters wsX1_enters 0 0 g [.ref (a 0), .int (nI lv), .int wh, .int np, .int it] (oM g a (bk, nI pn, hd, ph, ot, wi, ik, th, P, O, K, kd, lf, ch, be, gi, mr)) zE0 (zQv g (P_X1_enters bk pn hd ph ot wi ik th P O K kd lf ch be gi mr lv wh np it) (oM g a)) := by
  refine zstart (cc := cX1_enters) (maxL := 5) (ret := none) (own := RX1) rfl (by decide) rfl zSt0 (Nat.le_of_ble_eq_true rfl) ?_
  intro p e s m below meth c A Z hr hlk H locs X ls hl
  have hx := Z.1.1
  have hb := Z.1.2.1
  have hin : ∀ w ∈ wsX10, w ∈ wsX1_enters := inw_X1_enters
  have hl : lv_has ls 5 [(0, .ref (a 0)), (1, .int (nI lv)), (2, .int wh), (3, .int np), (4, .int it)] := hl
  have X : zh g A (oM g a (bk, nI pn, hd, ph, ot, wi, ik, th, P, O, K, kd, lf, ch, be, gi, mr)) s.heap H locs := X
  refine lv_aload_n hx hb dX1_enters_0 rfl (lv_at hl 0 rfl) ?_
  refine zget (fs := [.int bk, .ref (a 1), .ref (a 2), .int (nI pn), .int hd, .int ph, .int ot, .int wi, .int ik, .ref (a 3), .int th, .ref (a 4), .ref (a 5), .ref (a 6), .ref (a 7), .ref (a 8), .ref (a 9)]) (v := .ref (a 4)) Z hin X (ci := 1) (C := RX1) (T := TX1) (N := 17) rfl rfl 11 (by decide) lk_X1_enters_30 rfl dX1_enters_1 ?_
  refine lv_iload_n hx hb dX1_enters_4 rfl (lv_at hl 1 rfl) ?_
  refine lv_iload_n hx hb dX1_enters_5 rfl (lv_at hl 2 rfl) ?_
  refine zast (q0 := 4) (n := 10) (f := kd) Z X rfl rfl lv rfl (by omega) (by decide) dX1_enters_6 (fun H locs X => ?_)
  have X : zh g A (oM g a (bk, nI pn, hd, ph, ot, wi, ik, th, P, O, K, (upd kd lv wh), lf, ch, be, gi, mr)) s.heap H locs := X
  refine lv_aload_n hx hb dX1_enters_7 rfl (lv_at hl 0 rfl) ?_
  refine zget (fs := [.int bk, .ref (a 1), .ref (a 2), .int (nI pn), .int hd, .int ph, .int ot, .int wi, .int ik, .ref (a 3), .int th, .ref (a 4), .ref (a 5), .ref (a 6), .ref (a 7), .ref (a 8), .ref (a 9)]) (v := .ref (a 5)) Z hin X (ci := 1) (C := RX1) (T := TX1) (N := 17) rfl rfl 12 (by decide) lk_X1_enters_33 rfl dX1_enters_8 ?_
  refine lv_iload_n hx hb dX1_enters_11 rfl (lv_at hl 1 rfl) ?_
  refine lv_iload_n hx hb dX1_enters_12 rfl (lv_at hl 3 rfl) ?_
  refine zast (q0 := 5) (n := 10) (f := lf) Z X rfl rfl lv rfl (by omega) (by decide) dX1_enters_13 (fun H locs X => ?_)
  have X : zh g A (oM g a (bk, nI pn, hd, ph, ot, wi, ik, th, P, O, K, (upd kd lv wh), (upd lf lv np), ch, be, gi, mr)) s.heap H locs := X
  refine lv_aload_n hx hb dX1_enters_14 rfl (lv_at hl 0 rfl) ?_
  refine zget (fs := [.int bk, .ref (a 1), .ref (a 2), .int (nI pn), .int hd, .int ph, .int ot, .int wi, .int ik, .ref (a 3), .int th, .ref (a 4), .ref (a 5), .ref (a 6), .ref (a 7), .ref (a 8), .ref (a 9)]) (v := .ref (a 6)) Z hin X (ci := 1) (C := RX1) (T := TX1) (N := 17) rfl rfl 13 (by decide) lk_X1_enters_36 rfl dX1_enters_15 ?_
  refine lv_iload_n hx hb dX1_enters_18 rfl (lv_at hl 1 rfl) ?_
  refine lv_iconst (v := (-1 : Int32)) hx hb dX1_enters_19 (by decide) ?_
  refine zast (q0 := 6) (n := 10) (f := ch) Z X rfl rfl lv rfl (by omega) (by decide) dX1_enters_20 (fun H locs X => ?_)
  have X : zh g A (oM g a (bk, nI pn, hd, ph, ot, wi, ik, th, P, O, K, (upd kd lv wh), (upd lf lv np), (upd ch lv (-1 : Int32)), be, gi, mr)) s.heap H locs := X
  refine lv_aload_n hx hb dX1_enters_21 rfl (lv_at hl 0 rfl) ?_
  refine zget (fs := [.int bk, .ref (a 1), .ref (a 2), .int (nI pn), .int hd, .int ph, .int ot, .int wi, .int ik, .ref (a 3), .int th, .ref (a 4), .ref (a 5), .ref (a 6), .ref (a 7), .ref (a 8), .ref (a 9)]) (v := .ref (a 7)) Z hin X (ci := 1) (C := RX1) (T := TX1) (N := 17) rfl rfl 14 (by decide) lk_X1_enters_39 rfl dX1_enters_22 ?_
  refine lv_iload_n hx hb dX1_enters_25 rfl (lv_at hl 1 rfl) ?_
  refine lv_bipush (v := (-2 : Int32)) hx hb dX1_enters_26 (by decide) ?_
  refine zast (q0 := 7) (n := 10) (f := be) Z X rfl rfl lv rfl (by omega) (by decide) dX1_enters_28 (fun H locs X => ?_)
  have X : zh g A (oM g a (bk, nI pn, hd, ph, ot, wi, ik, th, P, O, K, (upd kd lv wh), (upd lf lv np), (upd ch lv (-1 : Int32)), (upd be lv (-2 : Int32)), gi, mr)) s.heap H locs := X
  refine lv_aload_n hx hb dX1_enters_29 rfl (lv_at hl 0 rfl) ?_
  refine zget (fs := [.int bk, .ref (a 1), .ref (a 2), .int (nI pn), .int hd, .int ph, .int ot, .int wi, .int ik, .ref (a 3), .int th, .ref (a 4), .ref (a 5), .ref (a 6), .ref (a 7), .ref (a 8), .ref (a 9)]) (v := .ref (a 8)) Z hin X (ci := 1) (C := RX1) (T := TX1) (N := 17) rfl rfl 15 (by decide) lk_X1_enters_42 rfl dX1_enters_30 ?_
  refine lv_iload_n hx hb dX1_enters_33 rfl (lv_at hl 1 rfl) ?_
  refine lv_iload hx hb dX1_enters_34 (lv_at hl 4 rfl) ?_
  refine zast (q0 := 8) (n := 10) (f := gi) Z X rfl rfl lv rfl (by omega) (by decide) dX1_enters_36 (fun H locs X => ?_)
  have X : zh g A (oM g a (bk, nI pn, hd, ph, ot, wi, ik, th, P, O, K, (upd kd lv wh), (upd lf lv np), (upd ch lv (-1 : Int32)), (upd be lv (-2 : Int32)), (upd gi lv it), mr)) s.heap H locs := X
  exact zretv Z hr hlk (bk, nI pn, hd, ph, ot, wi, ik, th, P, O, K, (upd kd lv wh), (upd lf lv np), (upd ch lv (-1 : Int32)), (upd be lv (-2 : Int32)), (upd gi lv it), mr) X dX1_enters_37 (rfl)
theorem inw_X1_tries : ∀ w ∈ wsX10, w ∈ wsX1_tries := by decide +kernel
theorem lk_X1_tries_36 : Cond.fieldLink RX1 36 "QuarterboardModel" "choice" "[I" ∈ wsX1_tries := by decide +kernel
theorem lk_X1_tries_30 : Cond.fieldLink RX1 30 "QuarterboardModel" "kind" "[I" ∈ wsX1_tries := by decide +kernel
theorem lk_X1_tries_13 : Cond.fieldLink RX1 13 "QuarterboardModel" "isOn" "[Z" ∈ wsX1_tries := by decide +kernel
theorem lk_X1_tries_7 : Cond.fieldLink RX1 7 "QuarterboardModel" "piece" "[I" ∈ wsX1_tries := by decide +kernel
theorem lk_X1_tries_42 : Cond.fieldLink RX1 42 "QuarterboardModel" "given" "[I" ∈ wsX1_tries := by decide +kernel
theorem lk_X1_tries_70 : Cond.fieldLink RX1 70 "QuarterboardModel" "placed" "I" ∈ wsX1_tries := by decide +kernel
theorem lk_X1_tries_33 : Cond.fieldLink RX1 33 "QuarterboardModel" "left" "[I" ∈ wsX1_tries := by decide +kernel
def P_X1_tries_G2 (bk : Int32) (pn : Nat) (hd ph ot wi ik th : Int32) (P O K kd lf ch be gi mr : Nat → Int32) (cx px nx : Nat) : Int32 → MS → Prop := fun r u => u = (bk, nI pn, hd, ph, ot, wi, ik, th, P, O, K, kd, lf, ch, be, gi, mr) ∧ r = (2 : Int32)
set_option maxHeartbeats 4000000 in
set_option maxRecDepth 100000 in
theorem c_X1_tries_G2 (l : Launch) (g : zG) (a : Nat → Nat) (bk : Int32) (pn : Nat) (hd ph ot wi ik th : Int32) (P O K kd lf ch be gi mr : Nat → Int32) (lv : Nat) (cx px nx : Nat) (hlv : lv < 10) (hc : cx < 16) (hp : px < 16) (hpn : pn < 1000) (hch : ch lv = nI cx) (hkd : kd lv = 0) (hO : O cx = 0) : zM l yX1_tries wsX1_tries 3 200 g [.ref (a 0), .int (nI lv)] (oM g a (bk, nI pn, hd, ph, ot, wi, ik, th, P, O, K, kd, lf, ch, be, gi, mr)) zE0 (zQi g (P_X1_tries_G2 bk pn hd ph ot wi ik th P O K kd lf ch be gi mr cx px nx) (oM g a)) := by
  refine zstart (cc := cX1_tries) (maxL := 4) (ret := (some .int)) (own := RX1) rfl (by decide) rfl zSt0 (Nat.le_of_ble_eq_true rfl) ?_
  intro p e s m below meth c A Z hr hlk H locs X ls hl
  have hx := Z.1.1
  have hb := Z.1.2.1
  have hin : ∀ w ∈ wsX10, w ∈ wsX1_tries := inw_X1_tries
  have hl : lv_has ls 4 [(0, .ref (a 0)), (1, .int (nI lv))] := hl
  have X : zh g A (oM g a (bk, nI pn, hd, ph, ot, wi, ik, th, P, O, K, kd, lf, ch, be, gi, mr)) s.heap H locs := X
  refine lv_aload_n hx hb dX1_tries_0 rfl (lv_at hl 0 rfl) ?_
  refine zget (fs := [.int bk, .ref (a 1), .ref (a 2), .int (nI pn), .int hd, .int ph, .int ot, .int wi, .int ik, .ref (a 3), .int th, .ref (a 4), .ref (a 5), .ref (a 6), .ref (a 7), .ref (a 8), .ref (a 9)]) (v := .ref (a 6)) Z hin X (ci := 1) (C := RX1) (T := TX1) (N := 17) rfl rfl 13 (by decide) lk_X1_tries_36 rfl dX1_tries_1 ?_
  refine lv_iload_n hx hb dX1_tries_4 rfl (lv_at hl 1 rfl) ?_
  refine zald (q0 := 6) (n := 10) (f := ch) Z X rfl rfl lv rfl (by omega) (by decide) dX1_tries_5 ?_
  refine zrwi (y := nI cx) hch ?_
  refine lv_istore_n (lv' := [(2, .int (nI cx)), (0, .ref (a 0)), (1, .int (nI lv))]) hx hb dX1_tries_6 rfl hl (by decide) rfl (fun ls hl => ?_)
  refine lv_aload_n hx hb dX1_tries_7 rfl (lv_at hl 1 rfl) ?_
  refine zget (fs := [.int bk, .ref (a 1), .ref (a 2), .int (nI pn), .int hd, .int ph, .int ot, .int wi, .int ik, .ref (a 3), .int th, .ref (a 4), .ref (a 5), .ref (a 6), .ref (a 7), .ref (a 8), .ref (a 9)]) (v := .ref (a 4)) Z hin X (ci := 1) (C := RX1) (T := TX1) (N := 17) rfl rfl 11 (by decide) lk_X1_tries_30 rfl dX1_tries_8 ?_
  refine lv_iload_n hx hb dX1_tries_11 rfl (lv_at hl 2 rfl) ?_
  refine zald (q0 := 4) (n := 10) (f := kd) Z X rfl rfl lv rfl (by omega) (by decide) dX1_tries_12 ?_
  refine zrwi (y := (0 : Int32)) hkd ?_
  refine lv_if_ne (tgt := 32) hx hb dX1_tries_13 (by decide) (fun c1 => ?_) (fun c1 => ?_)
  · exact absurd c1 (by decide)
  · have qc1 := c1
    refine lv_aload_n hx hb dX1_tries_16 rfl (lv_at hl 1 rfl) ?_
    refine zget (fs := [.int bk, .ref (a 1), .ref (a 2), .int (nI pn), .int hd, .int ph, .int ot, .int wi, .int ik, .ref (a 3), .int th, .ref (a 4), .ref (a 5), .ref (a 6), .ref (a 7), .ref (a 8), .ref (a 9)]) (v := .ref (a 2)) Z hin X (ci := 1) (C := RX1) (T := TX1) (N := 17) rfl rfl 2 (by decide) lk_X1_tries_13 rfl dX1_tries_17 ?_
    refine lv_iload_n hx hb dX1_tries_20 rfl (lv_at hl 0 rfl) ?_
    refine zbld (q0 := 2) (n := 16) (f := O) Z X rfl rfl cx rfl (by omega) (by decide) dX1_tries_21 ?_
    refine zrwi (y := (0 : Int32)) hO ?_
    refine lv_if_eq (tgt := 30) hx hb dX1_tries_22 (by decide) (fun c2 => ?_) (fun c2 => ?_)
    · have qc2 := c2
      refine lv_iconst (v := (2 : Int32)) hx hb dX1_tries_30 (by decide) ?_
      exact zreti Z hr hlk (bk, nI pn, hd, ph, ot, wi, ik, th, P, O, K, kd, lf, ch, be, gi, mr) X dX1_tries_31 rfl (⟨rfl, rfl⟩)
    · exact absurd c2 (by decide)
def P_X1_tries_Gm (bk : Int32) (pn : Nat) (hd ph ot wi ik th : Int32) (P O K kd lf ch be gi mr : Nat → Int32) (cx px nx : Nat) : Int32 → MS → Prop := fun r u => u = (bk, nI pn, hd, ph, ot, wi, ik, th, P, O, K, kd, lf, ch, be, gi, mr) ∧ r = (-2 : Int32)
set_option maxHeartbeats 4000000 in
set_option maxRecDepth 100000 in
theorem c_X1_tries_Gm (l : Launch) (g : zG) (a : Nat → Nat) (bk : Int32) (pn : Nat) (hd ph ot wi ik th : Int32) (P O K kd lf ch be gi mr : Nat → Int32) (lv : Nat) (cx px nx : Nat) (hlv : lv < 10) (hc : cx < 16) (hp : px < 16) (hpn : pn < 1000) (hch : ch lv = nI cx) (hkd : kd lv = 0) (hO : ¬ O cx = 0) : zM l yX1_tries wsX1_tries 3 200 g [.ref (a 0), .int (nI lv)] (oM g a (bk, nI pn, hd, ph, ot, wi, ik, th, P, O, K, kd, lf, ch, be, gi, mr)) zE0 (zQi g (P_X1_tries_Gm bk pn hd ph ot wi ik th P O K kd lf ch be gi mr cx px nx) (oM g a)) := by
  refine zstart (cc := cX1_tries) (maxL := 4) (ret := (some .int)) (own := RX1) rfl (by decide) rfl zSt0 (Nat.le_of_ble_eq_true rfl) ?_
  intro p e s m below meth c A Z hr hlk H locs X ls hl
  have hx := Z.1.1
  have hb := Z.1.2.1
  have hin : ∀ w ∈ wsX10, w ∈ wsX1_tries := inw_X1_tries
  have hl : lv_has ls 4 [(0, .ref (a 0)), (1, .int (nI lv))] := hl
  have X : zh g A (oM g a (bk, nI pn, hd, ph, ot, wi, ik, th, P, O, K, kd, lf, ch, be, gi, mr)) s.heap H locs := X
  refine lv_aload_n hx hb dX1_tries_0 rfl (lv_at hl 0 rfl) ?_
  refine zget (fs := [.int bk, .ref (a 1), .ref (a 2), .int (nI pn), .int hd, .int ph, .int ot, .int wi, .int ik, .ref (a 3), .int th, .ref (a 4), .ref (a 5), .ref (a 6), .ref (a 7), .ref (a 8), .ref (a 9)]) (v := .ref (a 6)) Z hin X (ci := 1) (C := RX1) (T := TX1) (N := 17) rfl rfl 13 (by decide) lk_X1_tries_36 rfl dX1_tries_1 ?_
  refine lv_iload_n hx hb dX1_tries_4 rfl (lv_at hl 1 rfl) ?_
  refine zald (q0 := 6) (n := 10) (f := ch) Z X rfl rfl lv rfl (by omega) (by decide) dX1_tries_5 ?_
  refine zrwi (y := nI cx) hch ?_
  refine lv_istore_n (lv' := [(2, .int (nI cx)), (0, .ref (a 0)), (1, .int (nI lv))]) hx hb dX1_tries_6 rfl hl (by decide) rfl (fun ls hl => ?_)
  refine lv_aload_n hx hb dX1_tries_7 rfl (lv_at hl 1 rfl) ?_
  refine zget (fs := [.int bk, .ref (a 1), .ref (a 2), .int (nI pn), .int hd, .int ph, .int ot, .int wi, .int ik, .ref (a 3), .int th, .ref (a 4), .ref (a 5), .ref (a 6), .ref (a 7), .ref (a 8), .ref (a 9)]) (v := .ref (a 4)) Z hin X (ci := 1) (C := RX1) (T := TX1) (N := 17) rfl rfl 11 (by decide) lk_X1_tries_30 rfl dX1_tries_8 ?_
  refine lv_iload_n hx hb dX1_tries_11 rfl (lv_at hl 2 rfl) ?_
  refine zald (q0 := 4) (n := 10) (f := kd) Z X rfl rfl lv rfl (by omega) (by decide) dX1_tries_12 ?_
  refine zrwi (y := (0 : Int32)) hkd ?_
  refine lv_if_ne (tgt := 32) hx hb dX1_tries_13 (by decide) (fun c1 => ?_) (fun c1 => ?_)
  · exact absurd c1 (by decide)
  · have qc1 := c1
    refine lv_aload_n hx hb dX1_tries_16 rfl (lv_at hl 1 rfl) ?_
    refine zget (fs := [.int bk, .ref (a 1), .ref (a 2), .int (nI pn), .int hd, .int ph, .int ot, .int wi, .int ik, .ref (a 3), .int th, .ref (a 4), .ref (a 5), .ref (a 6), .ref (a 7), .ref (a 8), .ref (a 9)]) (v := .ref (a 2)) Z hin X (ci := 1) (C := RX1) (T := TX1) (N := 17) rfl rfl 2 (by decide) lk_X1_tries_13 rfl dX1_tries_17 ?_
    refine lv_iload_n hx hb dX1_tries_20 rfl (lv_at hl 0 rfl) ?_
    refine zbld (q0 := 2) (n := 16) (f := O) Z X rfl rfl cx rfl (by omega) (by decide) dX1_tries_21 ?_
    refine lv_if_eq (tgt := 30) hx hb dX1_tries_22 (by decide) (fun c2 => ?_) (fun c2 => ?_)
    · have qc2 := c2
      exact absurd c2 hO
    · have qc2 := c2
      refine lv_bipush (v := (-2 : Int32)) hx hb dX1_tries_25 (by decide) ?_
      refine lv_goto (tgt := 31) hx hb dX1_tries_27 (by decide) ?_
      exact zreti Z hr hlk (bk, nI pn, hd, ph, ot, wi, ik, th, P, O, K, kd, lf, ch, be, gi, mr) X dX1_tries_31 rfl (⟨rfl, rfl⟩)
def P_X1_tries_Pm (bk : Int32) (pn : Nat) (hd ph ot wi ik th : Int32) (P O K kd lf ch be gi mr : Nat → Int32) (cx px nx : Nat) : Int32 → MS → Prop := fun r u => u = (bk, nI pn, hd, ph, ot, wi, ik, th, P, O, K, kd, lf, ch, be, gi, mr) ∧ r = (-2 : Int32)
set_option maxHeartbeats 4000000 in
set_option maxRecDepth 100000 in
theorem c_X1_tries_Pm (l : Launch) (g : zG) (a : Nat → Nat) (bk : Int32) (pn : Nat) (hd ph ot wi ik th : Int32) (P O K kd lf ch be gi mr : Nat → Int32) (lv : Nat) (cx px nx : Nat) (hlv : lv < 10) (hc : cx < 16) (hp : px < 16) (hpn : pn < 1000) (hch : ch lv = nI cx) (hkd : kd lv = 1) (hm : ¬ P cx = -1) : zM l yX1_tries wsX1_tries 3 200 g [.ref (a 0), .int (nI lv)] (oM g a (bk, nI pn, hd, ph, ot, wi, ik, th, P, O, K, kd, lf, ch, be, gi, mr)) zE0 (zQi g (P_X1_tries_Pm bk pn hd ph ot wi ik th P O K kd lf ch be gi mr cx px nx) (oM g a)) := by
  refine zstart (cc := cX1_tries) (maxL := 4) (ret := (some .int)) (own := RX1) rfl (by decide) rfl zSt0 (Nat.le_of_ble_eq_true rfl) ?_
  intro p e s m below meth c A Z hr hlk H locs X ls hl
  have hx := Z.1.1
  have hb := Z.1.2.1
  have hin : ∀ w ∈ wsX10, w ∈ wsX1_tries := inw_X1_tries
  have hl : lv_has ls 4 [(0, .ref (a 0)), (1, .int (nI lv))] := hl
  have X : zh g A (oM g a (bk, nI pn, hd, ph, ot, wi, ik, th, P, O, K, kd, lf, ch, be, gi, mr)) s.heap H locs := X
  refine lv_aload_n hx hb dX1_tries_0 rfl (lv_at hl 0 rfl) ?_
  refine zget (fs := [.int bk, .ref (a 1), .ref (a 2), .int (nI pn), .int hd, .int ph, .int ot, .int wi, .int ik, .ref (a 3), .int th, .ref (a 4), .ref (a 5), .ref (a 6), .ref (a 7), .ref (a 8), .ref (a 9)]) (v := .ref (a 6)) Z hin X (ci := 1) (C := RX1) (T := TX1) (N := 17) rfl rfl 13 (by decide) lk_X1_tries_36 rfl dX1_tries_1 ?_
  refine lv_iload_n hx hb dX1_tries_4 rfl (lv_at hl 1 rfl) ?_
  refine zald (q0 := 6) (n := 10) (f := ch) Z X rfl rfl lv rfl (by omega) (by decide) dX1_tries_5 ?_
  refine zrwi (y := nI cx) hch ?_
  refine lv_istore_n (lv' := [(2, .int (nI cx)), (0, .ref (a 0)), (1, .int (nI lv))]) hx hb dX1_tries_6 rfl hl (by decide) rfl (fun ls hl => ?_)
  refine lv_aload_n hx hb dX1_tries_7 rfl (lv_at hl 1 rfl) ?_
  refine zget (fs := [.int bk, .ref (a 1), .ref (a 2), .int (nI pn), .int hd, .int ph, .int ot, .int wi, .int ik, .ref (a 3), .int th, .ref (a 4), .ref (a 5), .ref (a 6), .ref (a 7), .ref (a 8), .ref (a 9)]) (v := .ref (a 4)) Z hin X (ci := 1) (C := RX1) (T := TX1) (N := 17) rfl rfl 11 (by decide) lk_X1_tries_30 rfl dX1_tries_8 ?_
  refine lv_iload_n hx hb dX1_tries_11 rfl (lv_at hl 2 rfl) ?_
  refine zald (q0 := 4) (n := 10) (f := kd) Z X rfl rfl lv rfl (by omega) (by decide) dX1_tries_12 ?_
  refine zrwi (y := (1 : Int32)) hkd ?_
  refine lv_if_ne (tgt := 32) hx hb dX1_tries_13 (by decide) (fun c1 => ?_) (fun c1 => ?_)
  · have qc1 := c1
    refine lv_aload_n hx hb dX1_tries_32 rfl (lv_at hl 1 rfl) ?_
    refine zget (fs := [.int bk, .ref (a 1), .ref (a 2), .int (nI pn), .int hd, .int ph, .int ot, .int wi, .int ik, .ref (a 3), .int th, .ref (a 4), .ref (a 5), .ref (a 6), .ref (a 7), .ref (a 8), .ref (a 9)]) (v := .ref (a 1)) Z hin X (ci := 1) (C := RX1) (T := TX1) (N := 17) rfl rfl 1 (by decide) lk_X1_tries_7 rfl dX1_tries_33 ?_
    refine lv_iload_n hx hb dX1_tries_36 rfl (lv_at hl 0 rfl) ?_
    refine zald (q0 := 1) (n := 16) (f := P) Z X rfl rfl cx rfl (by omega) (by decide) dX1_tries_37 ?_
    refine lv_iconst (v := (-1 : Int32)) hx hb dX1_tries_38 (by decide) ?_
    refine lv_icmp_eq (tgt := 45) hx hb dX1_tries_39 (by decide) (fun c2 => ?_) (fun c2 => ?_)
    · have qc2 := c2
      exact absurd c2 hm
    · have qc2 := c2
      refine lv_bipush (v := (-2 : Int32)) hx hb dX1_tries_42 (by decide) ?_
      exact zreti Z hr hlk (bk, nI pn, hd, ph, ot, wi, ik, th, P, O, K, kd, lf, ch, be, gi, mr) X dX1_tries_44 rfl (⟨rfl, rfl⟩)
  · exact absurd c1 (by decide)
def P_X1_tries_P1 (bk : Int32) (pn : Nat) (hd ph ot wi ik th : Int32) (P O K kd lf ch be gi mr : Nat → Int32) (cx px nx : Nat) : Int32 → MS → Prop := fun r u => u = (bk, nI pn, hd, ph, ot, wi, ik, th, P, O, K, kd, lf, ch, be, gi, mr) ∧ r = (1 : Int32)
set_option maxHeartbeats 4000000 in
set_option maxRecDepth 100000 in
theorem c_X1_tries_P1 (l : Launch) (g : zG) (a : Nat → Nat) (bk : Int32) (pn : Nat) (hd ph ot wi ik th : Int32) (P O K kd lf ch be gi mr : Nat → Int32) (lv : Nat) (cx px nx : Nat) (hlv : lv < 10) (hc : cx < 16) (hp : px < 16) (hpn : pn < 1000) (hch : ch lv = nI cx) (hkd : kd lv = 1) (hm : P cx = -1) (hgi : gi lv = nI px) (hO : O px = 0) (hlf : lf lv = nI nx) (hn : nx < 1000) (hw : 0 < (mWon bk (upd P cx (nI px)) cx)) : zM l yX1_tries wsX1_tries 3 200 g [.ref (a 0), .int (nI lv)] (oM g a (bk, nI pn, hd, ph, ot, wi, ik, th, P, O, K, kd, lf, ch, be, gi, mr)) zE0 (zQi g (P_X1_tries_P1 bk pn hd ph ot wi ik th P O K kd lf ch be gi mr cx px nx) (oM g a)) := by
  refine zstart (cc := cX1_tries) (maxL := 4) (ret := (some .int)) (own := RX1) rfl (by decide) rfl zSt0 (Nat.le_of_ble_eq_true rfl) ?_
  intro p e s m below meth c A Z hr hlk H locs X ls hl
  have hx := Z.1.1
  have hb := Z.1.2.1
  have hin : ∀ w ∈ wsX10, w ∈ wsX1_tries := inw_X1_tries
  have hl : lv_has ls 4 [(0, .ref (a 0)), (1, .int (nI lv))] := hl
  have X : zh g A (oM g a (bk, nI pn, hd, ph, ot, wi, ik, th, P, O, K, kd, lf, ch, be, gi, mr)) s.heap H locs := X
  refine lv_aload_n hx hb dX1_tries_0 rfl (lv_at hl 0 rfl) ?_
  refine zget (fs := [.int bk, .ref (a 1), .ref (a 2), .int (nI pn), .int hd, .int ph, .int ot, .int wi, .int ik, .ref (a 3), .int th, .ref (a 4), .ref (a 5), .ref (a 6), .ref (a 7), .ref (a 8), .ref (a 9)]) (v := .ref (a 6)) Z hin X (ci := 1) (C := RX1) (T := TX1) (N := 17) rfl rfl 13 (by decide) lk_X1_tries_36 rfl dX1_tries_1 ?_
  refine lv_iload_n hx hb dX1_tries_4 rfl (lv_at hl 1 rfl) ?_
  refine zald (q0 := 6) (n := 10) (f := ch) Z X rfl rfl lv rfl (by omega) (by decide) dX1_tries_5 ?_
  refine zrwi (y := nI cx) hch ?_
  refine lv_istore_n (lv' := [(2, .int (nI cx)), (0, .ref (a 0)), (1, .int (nI lv))]) hx hb dX1_tries_6 rfl hl (by decide) rfl (fun ls hl => ?_)
  refine lv_aload_n hx hb dX1_tries_7 rfl (lv_at hl 1 rfl) ?_
  refine zget (fs := [.int bk, .ref (a 1), .ref (a 2), .int (nI pn), .int hd, .int ph, .int ot, .int wi, .int ik, .ref (a 3), .int th, .ref (a 4), .ref (a 5), .ref (a 6), .ref (a 7), .ref (a 8), .ref (a 9)]) (v := .ref (a 4)) Z hin X (ci := 1) (C := RX1) (T := TX1) (N := 17) rfl rfl 11 (by decide) lk_X1_tries_30 rfl dX1_tries_8 ?_
  refine lv_iload_n hx hb dX1_tries_11 rfl (lv_at hl 2 rfl) ?_
  refine zald (q0 := 4) (n := 10) (f := kd) Z X rfl rfl lv rfl (by omega) (by decide) dX1_tries_12 ?_
  refine zrwi (y := (1 : Int32)) hkd ?_
  refine lv_if_ne (tgt := 32) hx hb dX1_tries_13 (by decide) (fun c1 => ?_) (fun c1 => ?_)
  · have qc1 := c1
    refine lv_aload_n hx hb dX1_tries_32 rfl (lv_at hl 1 rfl) ?_
    refine zget (fs := [.int bk, .ref (a 1), .ref (a 2), .int (nI pn), .int hd, .int ph, .int ot, .int wi, .int ik, .ref (a 3), .int th, .ref (a 4), .ref (a 5), .ref (a 6), .ref (a 7), .ref (a 8), .ref (a 9)]) (v := .ref (a 1)) Z hin X (ci := 1) (C := RX1) (T := TX1) (N := 17) rfl rfl 1 (by decide) lk_X1_tries_7 rfl dX1_tries_33 ?_
    refine lv_iload_n hx hb dX1_tries_36 rfl (lv_at hl 0 rfl) ?_
    refine zald (q0 := 1) (n := 16) (f := P) Z X rfl rfl cx rfl (by omega) (by decide) dX1_tries_37 ?_
    refine zrwi (y := (-1 : Int32)) hm ?_
    refine lv_iconst (v := (-1 : Int32)) hx hb dX1_tries_38 (by decide) ?_
    refine lv_icmp_eq (tgt := 45) hx hb dX1_tries_39 (by decide) (fun c2 => ?_) (fun c2 => ?_)
    · have qc2 := c2
      refine lv_aload_n hx hb dX1_tries_45 rfl (lv_at hl 1 rfl) ?_
      refine lv_iload_n hx hb dX1_tries_46 rfl (lv_at hl 0 rfl) ?_
      refine lv_aload_n hx hb dX1_tries_47 rfl (lv_at hl 1 rfl) ?_
      refine zget (fs := [.int bk, .ref (a 1), .ref (a 2), .int (nI pn), .int hd, .int ph, .int ot, .int wi, .int ik, .ref (a 3), .int th, .ref (a 4), .ref (a 5), .ref (a 6), .ref (a 7), .ref (a 8), .ref (a 9)]) (v := .ref (a 8)) Z hin X (ci := 1) (C := RX1) (T := TX1) (N := 17) rfl rfl 15 (by decide) lk_X1_tries_42 rfl dX1_tries_48 ?_
      refine lv_iload_n hx hb dX1_tries_51 rfl (lv_at hl 2 rfl) ?_
      refine zald (q0 := 8) (n := 10) (f := gi) Z X rfl rfl lv rfl (by omega) (by decide) dX1_tries_52 ?_
      refine zrwi (y := nI px) hgi ?_
      refine zcallVv (n := 2) (As := [.int (nI cx), .int (nI px)]) (rest := []) (ci := 1) (C := RX1) (T := TX1) (N := 17) Z X (c_X1_puts l g a bk pn hd ph ot wi ik th P O K kd lf ch be gi mr cx px (by omega) (by omega)) gX1_tries_X1_puts rfl (by decide +kernel) ⟨Nat.le_of_ble_eq_true rfl, Nat.le_of_ble_eq_true rfl⟩ rfl rfl rfl rfl hl.1 (Nat.le_of_ble_eq_true rfl) dX1_tries_53 ⟨Nat.zero_le _, Nat.zero_le _⟩ (fun ur2 H locs hrr2 X => ?_)
      obtain rfl : ur2 = (bk, nI (pn + 1), hd, ph, ot, wi, ik, th, upd P cx (nI px), upd O px 1, K, kd, lf, ch, be, gi, mr) := hrr2
      have X : zh g A (oM g a (bk, nI (pn + 1), hd, ph, ot, wi, ik, th, upd P cx (nI px), upd O px 1, K, kd, lf, ch, be, gi, mr)) s.heap H locs := X
      refine lv_aload_n hx hb dX1_tries_56 rfl (lv_at hl 1 rfl) ?_
      refine lv_iload_n hx hb dX1_tries_57 rfl (lv_at hl 0 rfl) ?_
      have hwl := mWon_le bk (upd P cx (nI px)) cx
      refine zcallVi (n := 1) (As := [.int (nI cx)]) (rest := []) (ci := 1) (C := RX1) (T := TX1) (N := 17) Z X (c_X1_won l g a bk (pn + 1) hd ph ot wi ik th (upd P cx (nI px)) (upd O px 1) K kd lf ch be gi mr cx (by omega)) gX1_tries_X1_won rfl (by decide +kernel) ⟨Nat.le_of_ble_eq_true rfl, Nat.le_of_ble_eq_true rfl⟩ rfl rfl rfl rfl hl.1 (Nat.le_of_ble_eq_true rfl) dX1_tries_58 ⟨Nat.zero_le _, Nat.zero_le _⟩ (fun r3 ur3 H locs hrr3 X => ?_)
      obtain ⟨rfl, rfl⟩ : ur3 = (bk, nI (pn + 1), hd, ph, ot, wi, ik, th, upd P cx (nI px), upd O px 1, K, kd, lf, ch, be, gi, mr) ∧ r3 = nI (mWon bk (upd P cx (nI px)) cx) := hrr3
      have X : zh g A (oM g a (bk, nI (pn + 1), hd, ph, ot, wi, ik, th, upd P cx (nI px), upd O px 1, K, kd, lf, ch, be, gi, mr)) s.heap H locs := X
      refine lv_if_le (tgt := 68) hx hb dX1_tries_61 (by decide) (fun c5 => ?_) (fun c5 => ?_)
      · have qc5 := c5
        have c5n : (mWon bk (upd P cx (nI px)) cx) ≤ 0 := zn_let (by omega) (by omega) c5
        exact absurd c5n (by omega)
      · have qc5 := c5
        have c5n : ¬ (mWon bk (upd P cx (nI px)) cx) ≤ 0 := zn_len (by omega) (by omega) c5
        refine lv_iconst (v := (1 : Int32)) hx hb dX1_tries_64 (by decide) ?_
        refine lv_goto (tgt := 92) hx hb dX1_tries_65 (by decide) ?_
        refine lv_istore_n (lv' := [(3, .int (1 : Int32)), (2, .int (nI cx)), (0, .ref (a 0)), (1, .int (nI lv))]) hx hb dX1_tries_92 rfl hl (by decide) rfl (fun ls hl => ?_)
        refine lv_iload_n hx hb dX1_tries_93 rfl (lv_at hl 0 rfl) ?_
        refine lv_iconst (v := (2 : Int32)) hx hb dX1_tries_94 (by decide) ?_
        refine lv_icmp_ge (tgt := 103) hx hb dX1_tries_95 (by decide) (fun c6 => ?_) (fun c6 => ?_)
        · exact absurd c6 (by decide)
        · have qc6 := c6
          refine lv_aload_n hx hb dX1_tries_98 rfl (lv_at hl 2 rfl) ?_
          refine lv_iload_n hx hb dX1_tries_99 rfl (lv_at hl 1 rfl) ?_
          refine zcallVv (n := 1) (As := [.int (nI cx)]) (rest := []) (ci := 1) (C := RX1) (T := TX1) (N := 17) Z X (c_X1_takes l g a bk pn hd ph ot wi ik th (upd P cx (nI px)) (upd O px 1) K kd lf ch be gi mr cx px hc hp pk_us) gX1_tries_X1_takes rfl (by decide +kernel) ⟨Nat.le_of_ble_eq_true rfl, Nat.le_of_ble_eq_true rfl⟩ rfl rfl rfl rfl hl.1 (Nat.le_of_ble_eq_true rfl) dX1_tries_100 ⟨Nat.zero_le _, Nat.zero_le _⟩ (fun ur6 H locs hrr6 X => ?_)
          obtain rfl : ur6 = (bk, nI pn, hd, ph, ot, wi, ik, th, (upd (upd P cx (nI px)) cx (-1)), (upd (upd O px 1) px 0), K, kd, lf, ch, be, gi, mr) := hrr6
          have X : zh g A (oM g a (bk, nI pn, hd, ph, ot, wi, ik, th, (upd (upd P cx (nI px)) cx (-1)), (upd (upd O px 1) px 0), K, kd, lf, ch, be, gi, mr)) s.heap H locs := X
          have X : zh g A (oM g a (bk, nI pn, hd, ph, ot, wi, ik, th, P, O, K, kd, lf, ch, be, gi, mr)) s.heap H locs := by rw [upd_back (f := P) (k := cx) hm, upd_back (f := O) hO] at X; exact X
          refine lv_iload_n hx hb dX1_tries_103 rfl (lv_at hl 0 rfl) ?_
          exact zreti Z hr hlk (bk, nI pn, hd, ph, ot, wi, ik, th, P, O, K, kd, lf, ch, be, gi, mr) X dX1_tries_104 rfl (⟨rfl, rfl⟩)
    · exact absurd c2 (by decide)
  · exact absurd c1 (by decide)
def P_X1_tries_P0 (bk : Int32) (pn : Nat) (hd ph ot wi ik th : Int32) (P O K kd lf ch be gi mr : Nat → Int32) (cx px nx : Nat) : Int32 → MS → Prop := fun r u => u = (bk, nI pn, hd, ph, ot, wi, ik, th, P, O, K, kd, lf, ch, be, gi, mr) ∧ r = (0 : Int32)
set_option maxHeartbeats 4000000 in
set_option maxRecDepth 100000 in
theorem c_X1_tries_P0 (l : Launch) (g : zG) (a : Nat → Nat) (bk : Int32) (pn : Nat) (hd ph ot wi ik th : Int32) (P O K kd lf ch be gi mr : Nat → Int32) (lv : Nat) (cx px nx : Nat) (hlv : lv < 10) (hc : cx < 16) (hp : px < 16) (hpn : pn < 1000) (hch : ch lv = nI cx) (hkd : kd lv = 1) (hm : P cx = -1) (hgi : gi lv = nI px) (hO : O px = 0) (hlf : lf lv = nI nx) (hn : nx < 1000) (hw : ¬ 0 < (mWon bk (upd P cx (nI px)) cx)) (hz : pn + 1 = 16 ∨ nx = 1) : zM l yX1_tries wsX1_tries 3 200 g [.ref (a 0), .int (nI lv)] (oM g a (bk, nI pn, hd, ph, ot, wi, ik, th, P, O, K, kd, lf, ch, be, gi, mr)) zE0 (zQi g (P_X1_tries_P0 bk pn hd ph ot wi ik th P O K kd lf ch be gi mr cx px nx) (oM g a)) := by
  refine zstart (cc := cX1_tries) (maxL := 4) (ret := (some .int)) (own := RX1) rfl (by decide) rfl zSt0 (Nat.le_of_ble_eq_true rfl) ?_
  intro p e s m below meth c A Z hr hlk H locs X ls hl
  have hx := Z.1.1
  have hb := Z.1.2.1
  have hin : ∀ w ∈ wsX10, w ∈ wsX1_tries := inw_X1_tries
  have hl : lv_has ls 4 [(0, .ref (a 0)), (1, .int (nI lv))] := hl
  have X : zh g A (oM g a (bk, nI pn, hd, ph, ot, wi, ik, th, P, O, K, kd, lf, ch, be, gi, mr)) s.heap H locs := X
  refine lv_aload_n hx hb dX1_tries_0 rfl (lv_at hl 0 rfl) ?_
  refine zget (fs := [.int bk, .ref (a 1), .ref (a 2), .int (nI pn), .int hd, .int ph, .int ot, .int wi, .int ik, .ref (a 3), .int th, .ref (a 4), .ref (a 5), .ref (a 6), .ref (a 7), .ref (a 8), .ref (a 9)]) (v := .ref (a 6)) Z hin X (ci := 1) (C := RX1) (T := TX1) (N := 17) rfl rfl 13 (by decide) lk_X1_tries_36 rfl dX1_tries_1 ?_
  refine lv_iload_n hx hb dX1_tries_4 rfl (lv_at hl 1 rfl) ?_
  refine zald (q0 := 6) (n := 10) (f := ch) Z X rfl rfl lv rfl (by omega) (by decide) dX1_tries_5 ?_
  refine zrwi (y := nI cx) hch ?_
  refine lv_istore_n (lv' := [(2, .int (nI cx)), (0, .ref (a 0)), (1, .int (nI lv))]) hx hb dX1_tries_6 rfl hl (by decide) rfl (fun ls hl => ?_)
  refine lv_aload_n hx hb dX1_tries_7 rfl (lv_at hl 1 rfl) ?_
  refine zget (fs := [.int bk, .ref (a 1), .ref (a 2), .int (nI pn), .int hd, .int ph, .int ot, .int wi, .int ik, .ref (a 3), .int th, .ref (a 4), .ref (a 5), .ref (a 6), .ref (a 7), .ref (a 8), .ref (a 9)]) (v := .ref (a 4)) Z hin X (ci := 1) (C := RX1) (T := TX1) (N := 17) rfl rfl 11 (by decide) lk_X1_tries_30 rfl dX1_tries_8 ?_
  refine lv_iload_n hx hb dX1_tries_11 rfl (lv_at hl 2 rfl) ?_
  refine zald (q0 := 4) (n := 10) (f := kd) Z X rfl rfl lv rfl (by omega) (by decide) dX1_tries_12 ?_
  refine zrwi (y := (1 : Int32)) hkd ?_
  refine lv_if_ne (tgt := 32) hx hb dX1_tries_13 (by decide) (fun c1 => ?_) (fun c1 => ?_)
  · have qc1 := c1
    refine lv_aload_n hx hb dX1_tries_32 rfl (lv_at hl 1 rfl) ?_
    refine zget (fs := [.int bk, .ref (a 1), .ref (a 2), .int (nI pn), .int hd, .int ph, .int ot, .int wi, .int ik, .ref (a 3), .int th, .ref (a 4), .ref (a 5), .ref (a 6), .ref (a 7), .ref (a 8), .ref (a 9)]) (v := .ref (a 1)) Z hin X (ci := 1) (C := RX1) (T := TX1) (N := 17) rfl rfl 1 (by decide) lk_X1_tries_7 rfl dX1_tries_33 ?_
    refine lv_iload_n hx hb dX1_tries_36 rfl (lv_at hl 0 rfl) ?_
    refine zald (q0 := 1) (n := 16) (f := P) Z X rfl rfl cx rfl (by omega) (by decide) dX1_tries_37 ?_
    refine zrwi (y := (-1 : Int32)) hm ?_
    refine lv_iconst (v := (-1 : Int32)) hx hb dX1_tries_38 (by decide) ?_
    refine lv_icmp_eq (tgt := 45) hx hb dX1_tries_39 (by decide) (fun c2 => ?_) (fun c2 => ?_)
    · have qc2 := c2
      refine lv_aload_n hx hb dX1_tries_45 rfl (lv_at hl 1 rfl) ?_
      refine lv_iload_n hx hb dX1_tries_46 rfl (lv_at hl 0 rfl) ?_
      refine lv_aload_n hx hb dX1_tries_47 rfl (lv_at hl 1 rfl) ?_
      refine zget (fs := [.int bk, .ref (a 1), .ref (a 2), .int (nI pn), .int hd, .int ph, .int ot, .int wi, .int ik, .ref (a 3), .int th, .ref (a 4), .ref (a 5), .ref (a 6), .ref (a 7), .ref (a 8), .ref (a 9)]) (v := .ref (a 8)) Z hin X (ci := 1) (C := RX1) (T := TX1) (N := 17) rfl rfl 15 (by decide) lk_X1_tries_42 rfl dX1_tries_48 ?_
      refine lv_iload_n hx hb dX1_tries_51 rfl (lv_at hl 2 rfl) ?_
      refine zald (q0 := 8) (n := 10) (f := gi) Z X rfl rfl lv rfl (by omega) (by decide) dX1_tries_52 ?_
      refine zrwi (y := nI px) hgi ?_
      refine zcallVv (n := 2) (As := [.int (nI cx), .int (nI px)]) (rest := []) (ci := 1) (C := RX1) (T := TX1) (N := 17) Z X (c_X1_puts l g a bk pn hd ph ot wi ik th P O K kd lf ch be gi mr cx px (by omega) (by omega)) gX1_tries_X1_puts rfl (by decide +kernel) ⟨Nat.le_of_ble_eq_true rfl, Nat.le_of_ble_eq_true rfl⟩ rfl rfl rfl rfl hl.1 (Nat.le_of_ble_eq_true rfl) dX1_tries_53 ⟨Nat.zero_le _, Nat.zero_le _⟩ (fun ur2 H locs hrr2 X => ?_)
      obtain rfl : ur2 = (bk, nI (pn + 1), hd, ph, ot, wi, ik, th, upd P cx (nI px), upd O px 1, K, kd, lf, ch, be, gi, mr) := hrr2
      have X : zh g A (oM g a (bk, nI (pn + 1), hd, ph, ot, wi, ik, th, upd P cx (nI px), upd O px 1, K, kd, lf, ch, be, gi, mr)) s.heap H locs := X
      refine lv_aload_n hx hb dX1_tries_56 rfl (lv_at hl 1 rfl) ?_
      refine lv_iload_n hx hb dX1_tries_57 rfl (lv_at hl 0 rfl) ?_
      have hwl := mWon_le bk (upd P cx (nI px)) cx
      refine zcallVi (n := 1) (As := [.int (nI cx)]) (rest := []) (ci := 1) (C := RX1) (T := TX1) (N := 17) Z X (c_X1_won l g a bk (pn + 1) hd ph ot wi ik th (upd P cx (nI px)) (upd O px 1) K kd lf ch be gi mr cx (by omega)) gX1_tries_X1_won rfl (by decide +kernel) ⟨Nat.le_of_ble_eq_true rfl, Nat.le_of_ble_eq_true rfl⟩ rfl rfl rfl rfl hl.1 (Nat.le_of_ble_eq_true rfl) dX1_tries_58 ⟨Nat.zero_le _, Nat.zero_le _⟩ (fun r3 ur3 H locs hrr3 X => ?_)
      obtain ⟨rfl, rfl⟩ : ur3 = (bk, nI (pn + 1), hd, ph, ot, wi, ik, th, upd P cx (nI px), upd O px 1, K, kd, lf, ch, be, gi, mr) ∧ r3 = nI (mWon bk (upd P cx (nI px)) cx) := hrr3
      have X : zh g A (oM g a (bk, nI (pn + 1), hd, ph, ot, wi, ik, th, upd P cx (nI px), upd O px 1, K, kd, lf, ch, be, gi, mr)) s.heap H locs := X
      refine lv_if_le (tgt := 68) hx hb dX1_tries_61 (by decide) (fun c5 => ?_) (fun c5 => ?_)
      · have qc5 := c5
        have c5n : (mWon bk (upd P cx (nI px)) cx) ≤ 0 := zn_let (by omega) (by omega) c5
        refine lv_aload_n hx hb dX1_tries_68 rfl (lv_at hl 1 rfl) ?_
        refine zget (fs := [.int bk, .ref (a 1), .ref (a 2), .int (nI (pn + 1)), .int hd, .int ph, .int ot, .int wi, .int ik, .ref (a 3), .int th, .ref (a 4), .ref (a 5), .ref (a 6), .ref (a 7), .ref (a 8), .ref (a 9)]) (v := .int (nI (pn + 1))) Z hin X (ci := 1) (C := RX1) (T := TX1) (N := 17) rfl rfl 3 (by decide) lk_X1_tries_70 rfl dX1_tries_69 ?_
        refine lv_bipush (v := nI 16) hx hb dX1_tries_72 (by decide) ?_
        refine lv_icmp_eq (tgt := 87) hx hb dX1_tries_74 (by decide) (fun c6 => ?_) (fun c6 => ?_)
        · have qc6 := c6
          have c6n : (pn + 1) = 16 := zn_eqt (by omega) (by omega) c6
          refine lv_iconst (v := (0 : Int32)) hx hb dX1_tries_87 (by decide) ?_
          refine lv_goto (tgt := 92) hx hb dX1_tries_88 (by decide) ?_
          refine lv_istore_n (lv' := [(3, .int (0 : Int32)), (2, .int (nI cx)), (0, .ref (a 0)), (1, .int (nI lv))]) hx hb dX1_tries_92 rfl hl (by decide) rfl (fun ls hl => ?_)
          refine lv_iload_n hx hb dX1_tries_93 rfl (lv_at hl 0 rfl) ?_
          refine lv_iconst (v := (2 : Int32)) hx hb dX1_tries_94 (by decide) ?_
          refine lv_icmp_ge (tgt := 103) hx hb dX1_tries_95 (by decide) (fun c7 => ?_) (fun c7 => ?_)
          · exact absurd c7 (by decide)
          · have qc7 := c7
            refine lv_aload_n hx hb dX1_tries_98 rfl (lv_at hl 2 rfl) ?_
            refine lv_iload_n hx hb dX1_tries_99 rfl (lv_at hl 1 rfl) ?_
            refine zcallVv (n := 1) (As := [.int (nI cx)]) (rest := []) (ci := 1) (C := RX1) (T := TX1) (N := 17) Z X (c_X1_takes l g a bk pn hd ph ot wi ik th (upd P cx (nI px)) (upd O px 1) K kd lf ch be gi mr cx px hc hp pk_us) gX1_tries_X1_takes rfl (by decide +kernel) ⟨Nat.le_of_ble_eq_true rfl, Nat.le_of_ble_eq_true rfl⟩ rfl rfl rfl rfl hl.1 (Nat.le_of_ble_eq_true rfl) dX1_tries_100 ⟨Nat.zero_le _, Nat.zero_le _⟩ (fun ur7 H locs hrr7 X => ?_)
            obtain rfl : ur7 = (bk, nI pn, hd, ph, ot, wi, ik, th, (upd (upd P cx (nI px)) cx (-1)), (upd (upd O px 1) px 0), K, kd, lf, ch, be, gi, mr) := hrr7
            have X : zh g A (oM g a (bk, nI pn, hd, ph, ot, wi, ik, th, (upd (upd P cx (nI px)) cx (-1)), (upd (upd O px 1) px 0), K, kd, lf, ch, be, gi, mr)) s.heap H locs := X
            have X : zh g A (oM g a (bk, nI pn, hd, ph, ot, wi, ik, th, P, O, K, kd, lf, ch, be, gi, mr)) s.heap H locs := by rw [upd_back (f := P) (k := cx) hm, upd_back (f := O) hO] at X; exact X
            refine lv_iload_n hx hb dX1_tries_103 rfl (lv_at hl 0 rfl) ?_
            exact zreti Z hr hlk (bk, nI pn, hd, ph, ot, wi, ik, th, P, O, K, kd, lf, ch, be, gi, mr) X dX1_tries_104 rfl (⟨rfl, rfl⟩)
        · have qc6 := c6
          have c6n : ¬ (pn + 1) = 16 := zn_eqn (by omega) (by omega) c6
          refine lv_aload_n hx hb dX1_tries_77 rfl (lv_at hl 1 rfl) ?_
          refine zget (fs := [.int bk, .ref (a 1), .ref (a 2), .int (nI (pn + 1)), .int hd, .int ph, .int ot, .int wi, .int ik, .ref (a 3), .int th, .ref (a 4), .ref (a 5), .ref (a 6), .ref (a 7), .ref (a 8), .ref (a 9)]) (v := .ref (a 5)) Z hin X (ci := 1) (C := RX1) (T := TX1) (N := 17) rfl rfl 12 (by decide) lk_X1_tries_33 rfl dX1_tries_78 ?_
          refine lv_iload_n hx hb dX1_tries_81 rfl (lv_at hl 2 rfl) ?_
          refine zald (q0 := 5) (n := 10) (f := lf) Z X rfl rfl lv rfl (by omega) (by decide) dX1_tries_82 ?_
          refine zrwi (y := nI nx) hlf ?_
          refine lv_iconst (v := nI 1) hx hb dX1_tries_83 (by decide) ?_
          refine lv_icmp_ne (tgt := 91) hx hb dX1_tries_84 (by decide) (fun c9 => ?_) (fun c9 => ?_)
          · have qc9 := c9
            have c9n : ¬ nx = 1 := zn_eqn (by omega) (by omega) c9
            exact absurd hz (by omega)
          · have qc9 := c9
            have c9n : nx = 1 := zn_eqt (by omega) (by omega) c9
            refine lv_iconst (v := (0 : Int32)) hx hb dX1_tries_87 (by decide) ?_
            refine lv_goto (tgt := 92) hx hb dX1_tries_88 (by decide) ?_
            refine lv_istore_n (lv' := [(3, .int (0 : Int32)), (2, .int (nI cx)), (0, .ref (a 0)), (1, .int (nI lv))]) hx hb dX1_tries_92 rfl hl (by decide) rfl (fun ls hl => ?_)
            refine lv_iload_n hx hb dX1_tries_93 rfl (lv_at hl 0 rfl) ?_
            refine lv_iconst (v := (2 : Int32)) hx hb dX1_tries_94 (by decide) ?_
            refine lv_icmp_ge (tgt := 103) hx hb dX1_tries_95 (by decide) (fun c10 => ?_) (fun c10 => ?_)
            · exact absurd c10 (by decide)
            · have qc10 := c10
              refine lv_aload_n hx hb dX1_tries_98 rfl (lv_at hl 2 rfl) ?_
              refine lv_iload_n hx hb dX1_tries_99 rfl (lv_at hl 1 rfl) ?_
              refine zcallVv (n := 1) (As := [.int (nI cx)]) (rest := []) (ci := 1) (C := RX1) (T := TX1) (N := 17) Z X (c_X1_takes l g a bk pn hd ph ot wi ik th (upd P cx (nI px)) (upd O px 1) K kd lf ch be gi mr cx px hc hp pk_us) gX1_tries_X1_takes rfl (by decide +kernel) ⟨Nat.le_of_ble_eq_true rfl, Nat.le_of_ble_eq_true rfl⟩ rfl rfl rfl rfl hl.1 (Nat.le_of_ble_eq_true rfl) dX1_tries_100 ⟨Nat.zero_le _, Nat.zero_le _⟩ (fun ur10 H locs hrr10 X => ?_)
              obtain rfl : ur10 = (bk, nI pn, hd, ph, ot, wi, ik, th, (upd (upd P cx (nI px)) cx (-1)), (upd (upd O px 1) px 0), K, kd, lf, ch, be, gi, mr) := hrr10
              have X : zh g A (oM g a (bk, nI pn, hd, ph, ot, wi, ik, th, (upd (upd P cx (nI px)) cx (-1)), (upd (upd O px 1) px 0), K, kd, lf, ch, be, gi, mr)) s.heap H locs := X
              have X : zh g A (oM g a (bk, nI pn, hd, ph, ot, wi, ik, th, P, O, K, kd, lf, ch, be, gi, mr)) s.heap H locs := by rw [upd_back (f := P) (k := cx) hm, upd_back (f := O) hO] at X; exact X
              refine lv_iload_n hx hb dX1_tries_103 rfl (lv_at hl 0 rfl) ?_
              exact zreti Z hr hlk (bk, nI pn, hd, ph, ot, wi, ik, th, P, O, K, kd, lf, ch, be, gi, mr) X dX1_tries_104 rfl (⟨rfl, rfl⟩)
      · have qc5 := c5
        have c5n : ¬ (mWon bk (upd P cx (nI px)) cx) ≤ 0 := zn_len (by omega) (by omega) c5
        exact absurd c5n (by omega)
    · exact absurd c2 (by decide)
  · exact absurd c1 (by decide)
def P_X1_tries_P2 (bk : Int32) (pn : Nat) (hd ph ot wi ik th : Int32) (P O K kd lf ch be gi mr : Nat → Int32) (cx px nx : Nat) : Int32 → MS → Prop := fun r u => u = (bk, nI (pn + 1), hd, ph, ot, wi, ik, th, (upd P cx (nI px)), (upd O px 1), K, kd, lf, ch, be, gi, mr) ∧ r = (2 : Int32)
set_option maxHeartbeats 4000000 in
set_option maxRecDepth 100000 in
theorem c_X1_tries_P2 (l : Launch) (g : zG) (a : Nat → Nat) (bk : Int32) (pn : Nat) (hd ph ot wi ik th : Int32) (P O K kd lf ch be gi mr : Nat → Int32) (lv : Nat) (cx px nx : Nat) (hlv : lv < 10) (hc : cx < 16) (hp : px < 16) (hpn : pn < 1000) (hch : ch lv = nI cx) (hkd : kd lv = 1) (hm : P cx = -1) (hgi : gi lv = nI px) (hO : O px = 0) (hlf : lf lv = nI nx) (hn : nx < 1000) (hw : ¬ 0 < (mWon bk (upd P cx (nI px)) cx)) (hz : ¬ (pn + 1 = 16 ∨ nx = 1)) : zM l yX1_tries wsX1_tries 3 200 g [.ref (a 0), .int (nI lv)] (oM g a (bk, nI pn, hd, ph, ot, wi, ik, th, P, O, K, kd, lf, ch, be, gi, mr)) zE0 (zQi g (P_X1_tries_P2 bk pn hd ph ot wi ik th P O K kd lf ch be gi mr cx px nx) (oM g a)) := by
  refine zstart (cc := cX1_tries) (maxL := 4) (ret := (some .int)) (own := RX1) rfl (by decide) rfl zSt0 (Nat.le_of_ble_eq_true rfl) ?_
  intro p e s m below meth c A Z hr hlk H locs X ls hl
  have hx := Z.1.1
  have hb := Z.1.2.1
  have hin : ∀ w ∈ wsX10, w ∈ wsX1_tries := inw_X1_tries
  have hl : lv_has ls 4 [(0, .ref (a 0)), (1, .int (nI lv))] := hl
  have X : zh g A (oM g a (bk, nI pn, hd, ph, ot, wi, ik, th, P, O, K, kd, lf, ch, be, gi, mr)) s.heap H locs := X
  refine lv_aload_n hx hb dX1_tries_0 rfl (lv_at hl 0 rfl) ?_
  refine zget (fs := [.int bk, .ref (a 1), .ref (a 2), .int (nI pn), .int hd, .int ph, .int ot, .int wi, .int ik, .ref (a 3), .int th, .ref (a 4), .ref (a 5), .ref (a 6), .ref (a 7), .ref (a 8), .ref (a 9)]) (v := .ref (a 6)) Z hin X (ci := 1) (C := RX1) (T := TX1) (N := 17) rfl rfl 13 (by decide) lk_X1_tries_36 rfl dX1_tries_1 ?_
  refine lv_iload_n hx hb dX1_tries_4 rfl (lv_at hl 1 rfl) ?_
  refine zald (q0 := 6) (n := 10) (f := ch) Z X rfl rfl lv rfl (by omega) (by decide) dX1_tries_5 ?_
  refine zrwi (y := nI cx) hch ?_
  refine lv_istore_n (lv' := [(2, .int (nI cx)), (0, .ref (a 0)), (1, .int (nI lv))]) hx hb dX1_tries_6 rfl hl (by decide) rfl (fun ls hl => ?_)
  refine lv_aload_n hx hb dX1_tries_7 rfl (lv_at hl 1 rfl) ?_
  refine zget (fs := [.int bk, .ref (a 1), .ref (a 2), .int (nI pn), .int hd, .int ph, .int ot, .int wi, .int ik, .ref (a 3), .int th, .ref (a 4), .ref (a 5), .ref (a 6), .ref (a 7), .ref (a 8), .ref (a 9)]) (v := .ref (a 4)) Z hin X (ci := 1) (C := RX1) (T := TX1) (N := 17) rfl rfl 11 (by decide) lk_X1_tries_30 rfl dX1_tries_8 ?_
  refine lv_iload_n hx hb dX1_tries_11 rfl (lv_at hl 2 rfl) ?_
  refine zald (q0 := 4) (n := 10) (f := kd) Z X rfl rfl lv rfl (by omega) (by decide) dX1_tries_12 ?_
  refine zrwi (y := (1 : Int32)) hkd ?_
  refine lv_if_ne (tgt := 32) hx hb dX1_tries_13 (by decide) (fun c1 => ?_) (fun c1 => ?_)
  · have qc1 := c1
    refine lv_aload_n hx hb dX1_tries_32 rfl (lv_at hl 1 rfl) ?_
    refine zget (fs := [.int bk, .ref (a 1), .ref (a 2), .int (nI pn), .int hd, .int ph, .int ot, .int wi, .int ik, .ref (a 3), .int th, .ref (a 4), .ref (a 5), .ref (a 6), .ref (a 7), .ref (a 8), .ref (a 9)]) (v := .ref (a 1)) Z hin X (ci := 1) (C := RX1) (T := TX1) (N := 17) rfl rfl 1 (by decide) lk_X1_tries_7 rfl dX1_tries_33 ?_
    refine lv_iload_n hx hb dX1_tries_36 rfl (lv_at hl 0 rfl) ?_
    refine zald (q0 := 1) (n := 16) (f := P) Z X rfl rfl cx rfl (by omega) (by decide) dX1_tries_37 ?_
    refine zrwi (y := (-1 : Int32)) hm ?_
    refine lv_iconst (v := (-1 : Int32)) hx hb dX1_tries_38 (by decide) ?_
    refine lv_icmp_eq (tgt := 45) hx hb dX1_tries_39 (by decide) (fun c2 => ?_) (fun c2 => ?_)
    · have qc2 := c2
      refine lv_aload_n hx hb dX1_tries_45 rfl (lv_at hl 1 rfl) ?_
      refine lv_iload_n hx hb dX1_tries_46 rfl (lv_at hl 0 rfl) ?_
      refine lv_aload_n hx hb dX1_tries_47 rfl (lv_at hl 1 rfl) ?_
      refine zget (fs := [.int bk, .ref (a 1), .ref (a 2), .int (nI pn), .int hd, .int ph, .int ot, .int wi, .int ik, .ref (a 3), .int th, .ref (a 4), .ref (a 5), .ref (a 6), .ref (a 7), .ref (a 8), .ref (a 9)]) (v := .ref (a 8)) Z hin X (ci := 1) (C := RX1) (T := TX1) (N := 17) rfl rfl 15 (by decide) lk_X1_tries_42 rfl dX1_tries_48 ?_
      refine lv_iload_n hx hb dX1_tries_51 rfl (lv_at hl 2 rfl) ?_
      refine zald (q0 := 8) (n := 10) (f := gi) Z X rfl rfl lv rfl (by omega) (by decide) dX1_tries_52 ?_
      refine zrwi (y := nI px) hgi ?_
      refine zcallVv (n := 2) (As := [.int (nI cx), .int (nI px)]) (rest := []) (ci := 1) (C := RX1) (T := TX1) (N := 17) Z X (c_X1_puts l g a bk pn hd ph ot wi ik th P O K kd lf ch be gi mr cx px (by omega) (by omega)) gX1_tries_X1_puts rfl (by decide +kernel) ⟨Nat.le_of_ble_eq_true rfl, Nat.le_of_ble_eq_true rfl⟩ rfl rfl rfl rfl hl.1 (Nat.le_of_ble_eq_true rfl) dX1_tries_53 ⟨Nat.zero_le _, Nat.zero_le _⟩ (fun ur2 H locs hrr2 X => ?_)
      obtain rfl : ur2 = (bk, nI (pn + 1), hd, ph, ot, wi, ik, th, upd P cx (nI px), upd O px 1, K, kd, lf, ch, be, gi, mr) := hrr2
      have X : zh g A (oM g a (bk, nI (pn + 1), hd, ph, ot, wi, ik, th, upd P cx (nI px), upd O px 1, K, kd, lf, ch, be, gi, mr)) s.heap H locs := X
      refine lv_aload_n hx hb dX1_tries_56 rfl (lv_at hl 1 rfl) ?_
      refine lv_iload_n hx hb dX1_tries_57 rfl (lv_at hl 0 rfl) ?_
      have hwl := mWon_le bk (upd P cx (nI px)) cx
      refine zcallVi (n := 1) (As := [.int (nI cx)]) (rest := []) (ci := 1) (C := RX1) (T := TX1) (N := 17) Z X (c_X1_won l g a bk (pn + 1) hd ph ot wi ik th (upd P cx (nI px)) (upd O px 1) K kd lf ch be gi mr cx (by omega)) gX1_tries_X1_won rfl (by decide +kernel) ⟨Nat.le_of_ble_eq_true rfl, Nat.le_of_ble_eq_true rfl⟩ rfl rfl rfl rfl hl.1 (Nat.le_of_ble_eq_true rfl) dX1_tries_58 ⟨Nat.zero_le _, Nat.zero_le _⟩ (fun r3 ur3 H locs hrr3 X => ?_)
      obtain ⟨rfl, rfl⟩ : ur3 = (bk, nI (pn + 1), hd, ph, ot, wi, ik, th, upd P cx (nI px), upd O px 1, K, kd, lf, ch, be, gi, mr) ∧ r3 = nI (mWon bk (upd P cx (nI px)) cx) := hrr3
      have X : zh g A (oM g a (bk, nI (pn + 1), hd, ph, ot, wi, ik, th, upd P cx (nI px), upd O px 1, K, kd, lf, ch, be, gi, mr)) s.heap H locs := X
      refine lv_if_le (tgt := 68) hx hb dX1_tries_61 (by decide) (fun c5 => ?_) (fun c5 => ?_)
      · have qc5 := c5
        have c5n : (mWon bk (upd P cx (nI px)) cx) ≤ 0 := zn_let (by omega) (by omega) c5
        refine lv_aload_n hx hb dX1_tries_68 rfl (lv_at hl 1 rfl) ?_
        refine zget (fs := [.int bk, .ref (a 1), .ref (a 2), .int (nI (pn + 1)), .int hd, .int ph, .int ot, .int wi, .int ik, .ref (a 3), .int th, .ref (a 4), .ref (a 5), .ref (a 6), .ref (a 7), .ref (a 8), .ref (a 9)]) (v := .int (nI (pn + 1))) Z hin X (ci := 1) (C := RX1) (T := TX1) (N := 17) rfl rfl 3 (by decide) lk_X1_tries_70 rfl dX1_tries_69 ?_
        refine lv_bipush (v := nI 16) hx hb dX1_tries_72 (by decide) ?_
        refine lv_icmp_eq (tgt := 87) hx hb dX1_tries_74 (by decide) (fun c6 => ?_) (fun c6 => ?_)
        · have qc6 := c6
          have c6n : (pn + 1) = 16 := zn_eqt (by omega) (by omega) c6
          exact absurd (Or.inl c6n) hz
        · have qc6 := c6
          have c6n : ¬ (pn + 1) = 16 := zn_eqn (by omega) (by omega) c6
          refine lv_aload_n hx hb dX1_tries_77 rfl (lv_at hl 1 rfl) ?_
          refine zget (fs := [.int bk, .ref (a 1), .ref (a 2), .int (nI (pn + 1)), .int hd, .int ph, .int ot, .int wi, .int ik, .ref (a 3), .int th, .ref (a 4), .ref (a 5), .ref (a 6), .ref (a 7), .ref (a 8), .ref (a 9)]) (v := .ref (a 5)) Z hin X (ci := 1) (C := RX1) (T := TX1) (N := 17) rfl rfl 12 (by decide) lk_X1_tries_33 rfl dX1_tries_78 ?_
          refine lv_iload_n hx hb dX1_tries_81 rfl (lv_at hl 2 rfl) ?_
          refine zald (q0 := 5) (n := 10) (f := lf) Z X rfl rfl lv rfl (by omega) (by decide) dX1_tries_82 ?_
          refine zrwi (y := nI nx) hlf ?_
          refine lv_iconst (v := nI 1) hx hb dX1_tries_83 (by decide) ?_
          refine lv_icmp_ne (tgt := 91) hx hb dX1_tries_84 (by decide) (fun c7 => ?_) (fun c7 => ?_)
          · have qc7 := c7
            have c7n : ¬ nx = 1 := zn_eqn (by omega) (by omega) c7
            refine lv_iconst (v := (2 : Int32)) hx hb dX1_tries_91 (by decide) ?_
            refine lv_istore_n (lv' := [(3, .int (2 : Int32)), (2, .int (nI cx)), (0, .ref (a 0)), (1, .int (nI lv))]) hx hb dX1_tries_92 rfl hl (by decide) rfl (fun ls hl => ?_)
            refine lv_iload_n hx hb dX1_tries_93 rfl (lv_at hl 0 rfl) ?_
            refine lv_iconst (v := (2 : Int32)) hx hb dX1_tries_94 (by decide) ?_
            refine lv_icmp_ge (tgt := 103) hx hb dX1_tries_95 (by decide) (fun c8 => ?_) (fun c8 => ?_)
            · have qc8 := c8
              refine lv_iload_n hx hb dX1_tries_103 rfl (lv_at hl 0 rfl) ?_
              exact zreti Z hr hlk (bk, nI (pn + 1), hd, ph, ot, wi, ik, th, upd P cx (nI px), upd O px 1, K, kd, lf, ch, be, gi, mr) X dX1_tries_104 rfl (⟨rfl, rfl⟩)
            · exact absurd c8 (by decide)
          · have qc7 := c7
            have c7n : nx = 1 := zn_eqt (by omega) (by omega) c7
            exact absurd (Or.inr c7n) hz
      · have qc5 := c5
        have c5n : ¬ (mWon bk (upd P cx (nI px)) cx) ≤ 0 := zn_len (by omega) (by omega) c5
        exact absurd c5n (by omega)
    · exact absurd c2 (by decide)
  · exact absurd c1 (by decide)
