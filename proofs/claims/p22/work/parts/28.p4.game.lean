/-! pure: a piece put on both boards; the looking ahead -/
theorem s16_e : ∀ m, m < 4 → (((16 : Int32) * nI m).toInt64.toUInt64 &&& Int64.toUInt64 63).toBitVec % 64 = BitVec.ofNat 64 (16 * m) := by decide +kernel
theorem b_ffff : ∀ i, i < 16 → (65535 : Int32).toBitVec.getLsbD i = true := by decide +kernel
theorem qOne_bit (d : Int64) {m i : Nat} (hm : m < 4) (hi : i < 16) : (qOne d (nI m)).toBitVec.getLsbD i = d.toBitVec.getLsbD (16 * m + i) := by
  unfold qOne
  rw [b_and, b_ffff i hi, Bool.and_true, Int64.toBitVec_toInt32, BitVec.signExtend_eq_setWidth_of_le _ (by decide), BitVec.getLsbD_setWidth, decide_eq_true (show i < 32 by omega), Bool.true_and]
  show ((d.toUInt64 >>> (((16 : Int32) * nI m).toInt64.toUInt64 &&& Int64.toUInt64 63)).toBitVec).getLsbD i = _
  rw [UInt64.toBitVec_shiftRight, s16_e m hm, BitVec.ushiftRight_eq', BitVec.getLsbD_ushiftRight, BitVec.toNat_ofNat, Nat.mod_eq_of_lt (by omega : 16 * m < 2 ^ 64)]
  rfl
theorem first_bit : ∀ p, p < 16 → ∀ s, s < 16 → ∀ m, m < 4 → ∀ t, t < 16 → (qFirst (nI p) <<< ((nI s).toInt64 &&& 63)).toBitVec.getLsbD (16 * m + t) = (decide (s = t) && (nI p).toBitVec.getLsbD m) := by decide +kernel
theorem put_one (d : Int64) {p s m t : Nat} (hp : p < 16) (hs : s < 16) (hm : m < 4) (ht : t < 16) : qHas (qOne (qPutD d (nI p) (nI s)) (nI m)) (nI t) = (qHas (qOne d (nI m)) (nI t) || (decide (s = t) && (nI p).toBitVec.getLsbD m)) := by
  rw [qHas_bv _ ht, qHas_bv _ ht, qOne_bit _ hm ht, qOne_bit _ hm ht, ← first_bit p hp s hs m hm t ht]
  show (d ||| (qFirst (nI p) <<< ((nI s).toInt64 &&& 63))).toBitVec.getLsbD (16 * m + t) = _
  rw [Int64.toBitVec_or, BitVec.getLsbD_or]
theorem bit_lt : ∀ s, s < 16 → (qBit (nI s)).toBitVec.toNat < 2 ^ 16 := by decide +kernel
theorem KB_put {P : Nat → Int32} {f : Int32} {d : Int64} {p s : Nat} (h : KB P f d) (hp : p < 16) (hs : s < 16) (h1 : P s = -1) : KB (upd P s (nI p)) (f ||| qBit (nI s)) (qPutD d (nI p) (nI s)) := by
  refine ⟨fun t ht => ?_, fun t ht => ?_, ?_, fun m hm t ht => ?_⟩
  · by_cases e : t = s
    · subst e
      rw [pk_us]
      exact Or.inr ⟨p, hp, rfl⟩
    · rw [pk_un (f := P) (k := s) (j := t) e]
      exact h.1 t ht
  · rw [qHas_or f hs ht, h.2.1 t ht]
    by_cases e : t = s
    · subst e
      rw [pk_us, decide_eq_true (p := t = t) rfl, Bool.or_true]
      exact (decide_eq_true (nI_n1 p hp)).symm
    · rw [pk_un (f := P) (k := s) (j := t) e, decide_eq_false (fun q : s = t => e q.symm), Bool.or_false]
  · rw [Int32.toBitVec_or, BitVec.toNat_or]
    exact Nat.or_lt_two_pow (n := 16) h.2.2.1 (bit_lt s hs)
  · rw [put_one d hp hs hm ht, h.2.2.2 m hm t ht]
    by_cases e : t = s
    · subst e
      rw [pk_us, h1]
      unfold pbit
      rw [decide_eq_true (p := t = t) rfl, decide_eq_true (nI_n1 p hp), Bool.true_and, decide_eq_false (p := ¬ (-1 : Int32) = -1) (by decide), Bool.false_and, Bool.false_or]
    · rw [pk_un (f := P) (k := s) (j := t) e, decide_eq_false (fun q : s = t => e q.symm), Bool.false_and, Bool.or_false]
theorem nI_i16 {a b : Nat} (ha : a < 16) (hb : b < 16) (h : nI a = nI b) : a = b := (nI_eq (by omega) (by omega)).mp h
theorem RB_put {P O : Nat → Int32} {pn : Nat} {f us : Int32} {d : Int64} {p s : Nat} (h : RB P O pn f us d) (hp : p < 16) (hs : s < 16) (h1 : P s = -1) (h2 : O p = 0) : RB (upd P s (nI p)) (upd O p 1) (pn + 1) (f ||| qBit (nI s)) (us ||| qBit (nI p)) (qPutD d (nI p) (nI s)) := by
  obtain ⟨a, b, c, e1, e2⟩ := h
  refine ⟨KB_put a hp hs h1, fun q hq => ?_, fun q hq => ?_, ?_, ?_⟩
  · by_cases e : q = p
    · subst e
      rw [pk_us]
      exact Or.inr ⟨rfl, s, hs, pk_us⟩
    · rw [pk_un (f := O) (k := p) (j := q) e]
      rcases b q hq with ⟨x, y⟩ | ⟨x, t, ht, y⟩
      · refine Or.inl ⟨x, fun t ht => ?_⟩
        by_cases z : t = s
        · subst z
          rw [pk_us]
          exact fun g => e (nI_i16 hp hq g).symm
        · rw [pk_un (f := P) (k := s) (j := t) z]
          exact y t ht
      · refine Or.inr ⟨x, t, ht, ?_⟩
        have z : ¬ t = s := fun z => by
          subst z
          rw [h1] at y
          exact nI_n1 q hq y.symm
        rw [pk_un (f := P) (k := s) (j := t) z]
        exact y
  · rw [qHas_or us hp hq, c q hq]
    by_cases e : q = p
    · subst e
      rw [pk_us, decide_eq_true (p := q = q) rfl, Bool.or_true]
      rfl
    · rw [pk_un (f := O) (k := p) (j := q) e, decide_eq_false (fun z : p = q => e z.symm), Bool.or_false]
  · have := cntv_up (f := P) (x := nI p) h1 (nI_n1 p hp) (k := 16) hs
    omega
  · have := cntv_up (f := O) (x := 1) h2 (by decide) (k := 16) hp
    omega
section GM
variable {P O : Nat → Int32} {pn : Nat} {f us : Int32} {d : Int64} {w : Int32} {p : Nat}
theorem noW_not (hp : p < 16) (hn : noW w P p) {s : Nat} (hs : s < 16) (h1 : P s = -1) : ¬ 0 < mWon w (upd P s (nI p)) s := by
  intro q
  have e : mWins w P p s = true := by
    unfold mWins
    rw [decide_eq_true h1, decide_eq_true q]; rfl
  rw [wins_eq hp hs, Bool.and_eq_true] at e
  obtain ⟨l, a, b⟩ := anyN_iff.mp e.2
  rw [Bool.and_eq_true] at b
  have b := b.1
  unfold wlp at b
  rw [Bool.and_eq_true, decide_eq_true_eq, decide_eq_true_eq] at b
  exact b.2 (hn l a b.1)
theorem win_at (hp : p < 16) (hn : ¬ noW w P p) : ∃ s, s < 16 ∧ P s = -1 ∧ 0 < mWon w (upd P s (nI p)) s := by
  apply Classical.byContradiction
  intro hc
  apply hn
  intro l hl h3
  apply Classical.byContradiction
  intro h4
  have hl19 : l < 19 := by have := (mMany_le w).2; omega
  obtain ⟨k, hk, e⟩ := ex_empty (P := P) (l := l) (by rw [h3]; decide)
  have hs := sqr_lt l hl19 k hk
  apply hc
  refine ⟨sqr l k, hs, e, ?_⟩
  have t : mWins w P p (sqr l k) = true := by
    rw [wins_eq hp hs, decide_eq_true e, Bool.true_and]
    refine anyN_t hl ?_
    have t1 : anyN (thF l (sqr l k)) 4 = true := anyN_t hk (decide_eq_true rfl)
    unfold wlp
    rw [decide_eq_true h3, decide_eq_true h4, t1]; rfl
  unfold mWins at t
  rw [Bool.and_eq_true] at t
  exact of_decide_eq_true t.2
theorem PF_no {n : Nat} {sub : (Nat → Int32) → (Nat → Int32) → Nat → Int32} {s : Nat} (h : ¬ P s = -1) : mPF w sub n P O pn p s = -2 := by
  unfold mPF
  rw [if_neg h]
theorem PF_win {n : Nat} {sub : (Nat → Int32) → (Nat → Int32) → Nat → Int32} {s : Nat} (h : P s = -1) (h2 : 0 < mWon w (upd P s (nI p)) s) : mPF w sub n P O pn p s = 1 := by
  unfold mPF
  rw [if_pos h, if_pos h2]
theorem PF_end {n : Nat} {sub : (Nat → Int32) → (Nat → Int32) → Nat → Int32} {s : Nat} (h : P s = -1) (h2 : ¬ 0 < mWon w (upd P s (nI p)) s) (h3 : pn + 1 = 16 ∨ n = 1) : mPF w sub n P O pn p s = 0 := by
  unfold mPF
  rw [if_pos h, if_neg h2, if_pos h3]
theorem PF_sub {n : Nat} {sub : (Nat → Int32) → (Nat → Int32) → Nat → Int32} {s : Nat} (h : P s = -1) (h2 : ¬ 0 < mWon w (upd P s (nI p)) s) (h3 : ¬ (pn + 1 = 16 ∨ n = 1)) : mPF w sub n P O pn p s = sub (upd P s (nI p)) (upd O p 1) (pn + 1) := by
  unfold mPF
  rw [if_pos h, if_neg h2, if_neg h3]
theorem Pv_win (h : RB P O pn f us d) (hpn : pn < 16) (hp : p < 16) (hO : O p = 0) (hn : ¬ noW w P p) (n : Nat) : mPv w n P O pn p = 1 := by
  obtain ⟨s, hs, h1, h2⟩ := win_at hp hn
  exact (mx_eq1 ((m_range w n).2 P O pn p (RB_ok h hpn) hp hO).1).mpr ⟨s, hs, PF_win h1 h2⟩
end GM
theorem qGw_2 {w : Int32} {n : Nat} {f u : Int32} {d : Int64} (h : qGw w n f u d = true) : 2 ≤ n := Classical.byContradiction (fun q => by rw [qGw_n q] at h; cases h)
theorem qGl_1 {w : Int32} {n : Nat} {f u : Int32} {d : Int64} (h : qGl w n f u d = true) : 1 ≤ n := Classical.byContradiction (fun q => by rw [qGl_n q] at h; cases h)
theorem qPl_2 {w : Int32} {n : Nat} {f u : Int32} {d : Int64} {p : Nat} (h : qPl w n f u d p = true) : 2 ≤ n := Classical.byContradiction (fun q => by rw [qPl_n q] at h; cases h)
def SG (w : Int32) (n : Nat) : Prop := ∀ (P O : Nat → Int32) (pn : Nat) (f us : Int32) (d : Int64), RB P O pn f us d → NW w P → pn < 16 → 1 ≤ n → (qGw w n f us d = true ↔ mG w n P O pn = 1) ∧ (qGl w n f us d = true ↔ mG w n P O pn = -1)
def SP (w : Int32) (n : Nat) : Prop := ∀ (P O : Nat → Int32) (pn : Nat) (f us : Int32) (d : Int64) (p : Nat), RB P O pn f us d → NW w P → pn < 16 → p < 16 → O p = 0 → noW w P p → 1 ≤ n → (qPw w n f us d p = true ↔ mPv w n P O pn p = 1) ∧ (qPl w n f us d p = true ↔ mPv w n P O pn p = -1)
theorem SP_s {w : Int32} {n : Nat} (ih : SG w n) : SP w (n + 1) := by
  intro P O pn f us d p h hnw hpn hp hO hno _
  have ok := RB_ok h hpn
  have hr := ((m_range w (n + 1)).2 P O pn p ok hp hO).1
  have hb : ∀ s, s < 16 → P s = -1 → RB (upd P s (nI p)) (upd O p 1) (pn + 1) (f ||| qBit (nI s)) (us ||| qBit (nI p)) (qPutD d (nI p) (nI s)) ∧ NW w (upd P s (nI p)) := fun s hs h1 => ⟨RB_put h hp hs h1 hO, NW_put hnw (noW_not hp hno hs h1)⟩
  have c1 : ∀ s, s < 16 → (qPwF w (n + 1) f us d p s = true ↔ mPF w (mG w n) (n + 1) P O pn p s = 1) := by
    intro s hs
    unfold qPwF
    rw [Bool.and_eq_true, Bool.not_eq_true', RB_f h hs]
    by_cases h1 : P s = -1
    · have nw := noW_not hp hno hs h1
      by_cases h3 : pn + 1 = 16 ∨ n + 1 = 1
      · rw [PF_end h1 nw h3]
        constructor
        · rintro ⟨_, q⟩
          have q : qGw w n (f ||| qBit (nI s)) (us ||| qBit (nI p)) (qPutD d (nI p) (nI s)) = true := q
          rcases h3 with z | z
          · have hh := (hb s hs h1).1
            rw [z] at hh
            rw [full_gw hh] at q
            cases q
          · have := qGw_2 q
            omega
        · intro q
          exact absurd q (by decide)
      · rw [PF_sub h1 nw h3]
        have := (ih _ _ _ _ _ _ (hb s hs h1).1 (hb s hs h1).2 (by omega) (by omega)).1
        exact ⟨fun q => this.mp q.2, fun q => ⟨h1, this.mpr q⟩⟩
    · rw [PF_no h1]
      exact ⟨fun q => absurd q.1 h1, fun q => absurd q (by decide)⟩
  have c2 : ∀ s, s < 16 → P s = -1 → (qGl w n (f ||| qBit (nI s)) (us ||| qBit (nI p)) (qPutD d (nI p) (nI s)) = true ↔ mPF w (mG w n) (n + 1) P O pn p s = -1) ∧ ¬ mPF w (mG w n) (n + 1) P O pn p s = -2 := by
    intro s hs h1
    have nw := noW_not hp hno hs h1
    by_cases h3 : pn + 1 = 16 ∨ n + 1 = 1
    · rw [PF_end h1 nw h3]
      refine ⟨⟨fun q => ?_, fun q => absurd q (by decide)⟩, by decide⟩
      rcases h3 with z | z
      · have hh := (hb s hs h1).1
        rw [z] at hh
        rw [full_gl hh] at q
        cases q
      · have := qGl_1 q
        omega
    · rw [PF_sub h1 nw h3]
      refine ⟨(ih _ _ _ _ _ _ (hb s hs h1).1 (hb s hs h1).2 (by omega) (by omega)).2, fun q => ?_⟩
      have := ((m_range w n).1 _ _ _ (RB_ok (hb s hs h1).1 (by omega))).1
      rw [q] at this
      exact absurd this (by decide)
  obtain ⟨s0, hs0, e0⟩ := cntv_ex (f := P) (v := -1) (k := 16) (by have := ok.2.1; omega)
  constructor
  · refine Iff.trans ?_ (mx_eq1 hr).symm
    rw [qPw_e, Bool.and_eq_true, decide_eq_true_eq, anyN_iff]
    constructor
    · rintro ⟨_, s, hs, q⟩
      exact ⟨s, hs, (c1 s hs).mp q⟩
    · rintro ⟨s, hs, q⟩
      have q := (c1 s hs).mpr q
      refine ⟨?_, s, hs, q⟩
      unfold qPwF at q
      rw [Bool.and_eq_true] at q
      have := qGw_2 q.2
      omega
  · refine Iff.trans ?_ (mx_eqm hr ⟨s0, hs0, (c2 s0 hs0 e0).2⟩).symm
    rw [qPl_e, Bool.and_eq_true, decide_eq_true_eq, allN_iff]
    have c3 : ∀ s, s < 16 → (qPlF w (n + 1) f us d p s = true ↔ mPF w (mG w n) (n + 1) P O pn p s = -2 ∨ mPF w (mG w n) (n + 1) P O pn p s = -1) := by
      intro s hs
      unfold qPlF
      rw [Bool.or_eq_true]
      by_cases h1 : P s = -1
      · have a := c2 s hs h1
        have b := (RB_f h hs).mpr h1
        exact ⟨fun q => q.elim (fun q => by rw [b] at q; cases q) (fun q => Or.inr (a.1.mp q)), fun q => q.elim (fun q => absurd q a.2) (fun q => Or.inr (a.1.mpr q))⟩
      · refine ⟨fun _ => Or.inl (PF_no h1), fun _ => Or.inl ?_⟩
        rw [h.1.2.1 s hs]
        exact decide_eq_true h1
    constructor
    · rintro ⟨_, q⟩ s hs
      exact (c3 s hs).mp (q s hs)
    · intro q
      refine ⟨?_, fun s hs => (c3 s hs).mpr (q s hs)⟩
      have a := ((c2 s0 hs0 e0).1).mpr ((q s0 hs0).resolve_left (c2 s0 hs0 e0).2)
      have := qGl_1 a
      omega
theorem SG_s {w : Int32} {n : Nat} (ih : SP w (n + 1)) : SG w (n + 1) := by
  intro P O pn f us d h hnw hpn _
  have ok := RB_ok h hpn
  have hr := lk_le w (kp := false) (n := n + 1) (p := 0) ok (fun q => by cases q)
  have hr : ∀ k, k < 16 → -2 ≤ mGF w (n + 1) P O pn k ∧ mGF w (n + 1) P O pn k ≤ 1 := hr
  have c1 : ∀ q, q < 16 → (qGwF w (n + 1) f us d q = true ↔ mGF w (n + 1) P O pn q = 1) := by
    intro q hq
    unfold qGwF mGF
    rw [Bool.and_eq_true, safe_has h hq]
    by_cases hO : O q = 0
    · rw [if_pos hO, neg_1]
      by_cases hn : noW w P q
      · have := (ih P O pn f us d q h hnw hpn hq hO hn (by omega)).2
        exact ⟨fun z => this.mp z.2, fun z => ⟨⟨hO, hn⟩, this.mpr z⟩⟩
      · rw [Pv_win h hpn hq hO hn]
        exact ⟨fun z => absurd z.1.2 hn, fun z => absurd z (by decide)⟩
    · rw [if_neg hO]
      exact ⟨fun z => absurd z.1.1 hO, fun z => absurd z (by decide)⟩
  have c2 : ∀ q, q < 16 → (qGlF w (n + 1) f us d q = true ↔ mGF w (n + 1) P O pn q = -2 ∨ mGF w (n + 1) P O pn q = -1) := by
    intro q hq
    unfold qGlF mGF
    rw [Bool.or_eq_true, Bool.not_eq_true']
    have hs := safe_has (w := w) h hq
    by_cases hO : O q = 0
    · rw [if_pos hO, neg_m1]
      have n2 := neg_m2 ((m_range w (n + 1)).2 P O pn q ok hq hO).2.1 ((m_range w (n + 1)).2 P O pn q ok hq hO).2.2
      by_cases hn : noW w P q
      · have := (ih P O pn f us d q h hnw hpn hq hO hn (by omega)).1
        rw [hs.mpr ⟨hO, hn⟩]
        exact ⟨fun z => z.elim (fun z => by cases z) (fun z => Or.inr (this.mp z)), fun z => z.elim (fun z => absurd z n2) (fun z => Or.inr (this.mpr z))⟩
      · refine ⟨fun _ => Or.inr (Pv_win h hpn hq hO hn _), fun _ => Or.inl ?_⟩
        cases c : qHas (qSafe f us d w) (nI q)
        · rfl
        · exact absurd (hs.mp c).2 hn
    · rw [if_neg hO]
      refine ⟨fun _ => Or.inl rfl, fun _ => Or.inl ?_⟩
      cases c : qHas (qSafe f us d w) (nI q)
      · rfl
      · exact absurd (hs.mp c).1 hO
  obtain ⟨q0, hq0, e0⟩ := cntv_ex (f := O) (v := 0) (k := 16) (by have := ok.2.2; omega)
  rw [mG_eq w (by omega)]
  constructor
  · refine Iff.trans ?_ (mx_eq1 hr).symm
    rw [qGw_e, Bool.and_eq_true, decide_eq_true_eq, anyN_iff]
    constructor
    · rintro ⟨_, s, hs, q⟩
      exact ⟨s, hs, (c1 s hs).mp q⟩
    · rintro ⟨s, hs, q⟩
      have q := (c1 s hs).mpr q
      refine ⟨?_, s, hs, q⟩
      unfold qGwF at q
      rw [Bool.and_eq_true] at q
      exact qPl_2 q.2
  · have n2 : ¬ mGF w (n + 1) P O pn q0 = -2 := by
      unfold mGF
      rw [if_pos e0]
      exact neg_m2 ((m_range w (n + 1)).2 P O pn q0 ok hq0 e0).2.1 ((m_range w (n + 1)).2 P O pn q0 ok hq0 e0).2.2
    refine Iff.trans ?_ (mx_eqm hr ⟨q0, hq0, n2⟩).symm
    rw [qGl_e, Bool.and_eq_true, Bool.and_eq_true, decide_eq_true_eq, decide_eq_true_eq, allN_iff]
    exact ⟨fun z s hs => (c2 s hs).mp (z.2 s hs), fun z => ⟨⟨by omega, not_full h hpn⟩, fun s hs => (c2 s hs).mpr (z s hs)⟩⟩
theorem srch (w : Int32) : ∀ n, SG w n ∧ SP w n
  | 0 => ⟨fun _ _ _ _ _ _ _ _ _ q => absurd q (by decide), fun _ _ _ _ _ _ _ _ _ _ _ _ _ q => absurd q (by decide)⟩
  | n + 1 => by
    have h := SP_s (srch w n).1
    exact ⟨SG_s h, h⟩
section WR
variable {P O : Nat → Int32} {pn : Nat} {f us : Int32} {d : Int64} {w : Int32} {p n : Nat}
theorem i3 {x : Int32} (h1 : -1 ≤ x) (h2 : x ≤ 1) : x = -1 ∨ x = 0 ∨ x = 1 := by
  rcases i4 (Int32.le_trans (by decide) h1) h2 with q | q | q | q
  · rw [q] at h1; exact absurd h1 (by decide)
  · exact Or.inl q
  · exact Or.inr (Or.inl q)
  · exact Or.inr (Or.inr q)
theorem three {a b : Bool} {x : Int32} (h1 : -1 ≤ x) (h2 : x ≤ 1) (ha : a = true ↔ x = 1) (hb : b = true ↔ x = -1) : (if a = true then (1 : Int32) else if b = true then -1 else 0) = x := by
  rcases i3 h1 h2 with q | q | q
  · rw [if_neg (fun z => by rw [ha.mp z] at q; exact absurd q (by decide)), if_pos (hb.mpr q), q]
  · rw [if_neg (fun z => by rw [ha.mp z] at q; exact absurd q (by decide)), if_neg (fun z => by rw [hb.mp z] at q; exact absurd q (by decide)), q]
  · rw [if_pos (ha.mpr q), q]
theorem WG_eq (h : RB P O pn f us d) (hnw : NW w P) (hpn : pn < 16) (hn : 1 ≤ n) : qWG w n f us d = mG w n P O pn := by
  have a := (srch w n).1 P O pn f us d h hnw hpn hn
  have b := (m_range w n).1 P O pn (RB_ok h hpn)
  exact three b.1 b.2 a.1 a.2
theorem WP_eq (h : RB P O pn f us d) (hnw : NW w P) (hpn : pn < 16) (hp : p < 16) (hO : O p = 0) (hn : 1 ≤ n) : qWP w n f us d p = mPv w n P O pn p := by
  have hw : qWin f d w (nI p) = 0 ↔ noW w P p := win_0 h.1 hp
  unfold qWP
  by_cases c : noW w P p
  · have a := (srch w n).2 P O pn f us d p h hnw hpn hp hO c hn
    have b := ((m_range w n).2 P O pn p (RB_ok h hpn) hp hO).2
    have e : (¬ qWin f d w (nI p) = 0 ∨ qPw w n f us d p = true) ↔ qPw w n f us d p = true := ⟨fun q => q.elim (fun q => absurd (hw.mpr c) q) id, Or.inr⟩
    refine Eq.trans ?_ (three b.1 b.2 a.1 a.2)
    by_cases z : qPw w n f us d p = true
    · rw [if_pos (e.mpr z), if_pos z]
    · rw [if_neg (fun q => z (e.mp q)), if_neg z]
  · rw [if_pos (Or.inl (fun q => c (hw.mp q))), Pv_win h hpn hp hO c]
theorem WA_eq (h : RB P O pn f us d) (hnw : NW w P) (hpn : pn < 16) (hp : p < 16) (hO : O p = 0) {s : Nat} (hs : s < 16) (h1 : P s = -1) (hn : 1 ≤ n) : qWA w n f us d p s = mPF w (mG w (n - 1)) n P O pn p s := by
  have hw : qHas (qWin f d w (nI p)) (nI s) = decide (0 < mWon w (upd P s (nI p)) s) := by
    rw [win_eq h.1 hp, qHas_bv _ hs, winS_bit 16 (Nat.le_refl 16), decide_eq_true hs, Bool.true_and]
    unfold mWins
    rw [decide_eq_true h1, Bool.true_and]
  unfold qWA
  rw [hw]
  by_cases c : 0 < mWon w (upd P s (nI p)) s
  · rw [if_pos (decide_eq_true c), PF_win h1 c]
  · rw [if_neg (fun q => c (of_decide_eq_true q))]
    have hb := RB_put h hp hs h1 hO
    by_cases h3 : pn + 1 = 16 ∨ n = 1
    · rw [PF_end h1 c h3]
      unfold qWG
      rcases h3 with z | z
      · rw [z] at hb
        rw [full_gw hb, full_gl hb]; rfl
      · rw [qGw_n (by omega), qGl_n (by omega)]; rfl
    · rw [PF_sub h1 c h3]
      exact WG_eq hb (NW_put hnw c) (by omega) (by omega)
theorem findN_at {F : Nat → Bool} : ∀ (m k z : Nat), k ≤ z → z ≤ k + m → (∀ j, k ≤ j → j < z → F j = false) → F z = true → findN F m k = z
  | 0, k, z, h1, h2, _, _ => by show k = z; omega
  | m + 1, k, z, h1, h2, h3, h4 => by
    rw [findN]
    by_cases e : k = z
    · subst e
      rw [if_pos h4]
    · rw [if_neg (by rw [h3 k (Nat.le_refl k) (by omega)]; decide)]
      exact findN_at m (k + 1) z (by omega) (by omega) (fun j a b => h3 j (by omega) b) h4
theorem bp_eq (h : RB P O pn f us d) (hnw : NW w P) (hpn : pn < 16) (hn : 1 ≤ n) {z : Nat} (hz : z < 16) (e : mGF w n P O pn z = mx32 (mGF w n P O pn) 16) (hl : ∀ j, j < z → ¬ mGF w n P O pn j = mx32 (mGF w n P O pn) 16) : qBP w n f us d = z := by
  have ok := RB_ok h hpn
  have b := (m_range w n).1 P O pn ok
  rw [mG_eq w hn] at b
  have c : ∀ j, j < 16 → (qBPF w n f us d j = true ↔ mGF w n P O pn j = mx32 (mGF w n P O pn) 16) := by
    intro j hj
    unfold qBPF mGF
    rw [Bool.and_eq_true, Bool.not_eq_true', RB_u h hj, decide_eq_true_eq]
    by_cases hO : O j = 0
    · rw [if_pos hO, WP_eq h hnw hpn hj hO hn, WG_eq h hnw hpn hn, mG_eq w hn]
      exact ⟨fun q => q.2, fun q => ⟨hO, q⟩⟩
    · rw [if_neg hO]
      refine ⟨fun q => absurd q.1 hO, fun q => ?_⟩
      have b := b.1
      rw [← show (-2 : Int32) = mx32 (mGF w n P O pn) 16 from q] at b
      exact absurd b (by decide)
  refine findN_at 15 0 z (Nat.zero_le z) (by omega) (fun j _ hj => ?_) ((c z hz).mpr e)
  cases e2 : qBPF w n f us d j
  · rfl
  · exact absurd ((c j (by omega)).mp e2) (hl j hj)
theorem bs_eq (h : RB P O pn f us d) (hnw : NW w P) (hpn : pn < 16) (hp : p < 16) (hO : O p = 0) (hn : 1 ≤ n) {z : Nat} (hz : z < 16) (e : mPF w (mG w (n - 1)) n P O pn p z = mx32 (mPF w (mG w (n - 1)) n P O pn p) 16) (hl : ∀ j, j < z → ¬ mPF w (mG w (n - 1)) n P O pn p j = mx32 (mPF w (mG w (n - 1)) n P O pn p) 16) : qBS w n f us d p = z := by
  have ok := RB_ok h hpn
  have b := ((m_range w n).2 P O pn p ok hp hO).2
  have c : ∀ j, j < 16 → (qBSF w n f us d p j = true ↔ mPF w (mG w (n - 1)) n P O pn p j = mx32 (mPF w (mG w (n - 1)) n P O pn p) 16) := by
    intro j hj
    unfold qBSF
    rw [Bool.and_eq_true, Bool.not_eq_true', RB_f h hj, decide_eq_true_eq, WP_eq h hnw hpn hp hO hn]
    by_cases h1 : P j = -1
    · rw [WA_eq h hnw hpn hp hO hj h1 hn]
      exact ⟨fun q => q.2, fun q => ⟨h1, q⟩⟩
    · rw [PF_no h1]
      refine ⟨fun q => absurd q.1 h1, fun q => ?_⟩
      have b : -1 ≤ mx32 (mPF w (mG w (n - 1)) n P O pn p) 16 := b.1
      rw [← q] at b
      exact absurd b (by decide)
  refine findN_at 15 0 z (Nat.zero_le z) (by omega) (fun j _ hj => ?_) ((c z hz).mpr e)
  cases e2 : qBSF w n f us d p j
  · rfl
  · exact absurd ((c j (by omega)).mp e2) (hl j hj)
end WR
