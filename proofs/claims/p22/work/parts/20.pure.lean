/-! pure, out of 20.m1 -/
/-! the twin: its small methods -/
def mIn (v z : Int32) : Bool := decide (¬ v < 0) && decide (v < z)
def mMany (w : Int32) : Nat := if w = 0 then 10 else 19
theorem mMany_le (w : Int32) : 10 ≤ mMany w ∧ mMany w ≤ 19 := by unfold mMany; split <;> decide
def sqr (l p : Nat) : Nat := if l < 4 then 4 * l + p else if l < 8 then 4 * p + l - 4 else if l < 10 then (if l = 8 then 5 * p else 3 * p + 3) else 4 * ((l - 10) / 3 + p / 2) + (l - 10) % 3 + p % 2
theorem sqr_lt : ∀ l, l < 19 → ∀ p, p < 4 → sqr l p < 16 := by decide +kernel
def mMk (x : Int32) : Int32 := if x = -1 then 255 else x ||| (((15 : Int32) - x) <<< ((4 : Int32) &&& 31))
def mCom (P : Nat → Int32) (l : Nat) : Nat → Int32
  | 0 => 255
  | k + 1 => mCom P l k &&& mMk (P (sqr l k))
def mFul (P : Nat → Int32) (l : Nat) : Nat → Nat
  | 0 => 0
  | k + 1 => mFul P l k + (if P (sqr l k) = -1 then 0 else 1)
theorem mFul_le (P : Nat → Int32) (l : Nat) : ∀ k, mFul P l k ≤ k
  | 0 => Nat.le_refl 0
  | k + 1 => by
    have := mFul_le P l k
    unfold mFul
    split <;> omega
def thF (l s j : Nat) : Bool := decide (sqr l j = s)
def mWl (P : Nat → Int32) (s k : Nat) : Bool := anyN (thF k s) 4 && (decide (mFul P k 4 = 4) && decide (¬ mCom P k 4 = 0))
def mWonC (P : Nat → Int32) (s : Nat) : Nat → Nat
  | 0 => 0
  | k + 1 => mWonC P s k + (if mWl P s k = true then 1 else 0)
theorem mWonC_le (P : Nat → Int32) (s : Nat) : ∀ k, mWonC P s k ≤ k
  | 0 => Nat.le_refl 0
  | k + 1 => by
    have := mWonC_le P s k
    unfold mWonC
    split <;> omega
def mWon (w : Int32) (P : Nat → Int32) (s : Nat) : Nat := mWonC P s (mMany w)
theorem mWon_le (w : Int32) (P : Nat → Int32) (s : Nat) : mWon w P s ≤ 19 := Nat.le_trans (mWonC_le _ _ _) (mMany_le w).2
theorem wl_f1 {P : Nat → Int32} {s k : Nat} (h : anyN (thF k s) 4 = false) : mWl P s k = false := by unfold mWl; rw [h]; rfl
theorem wl_f2 {P : Nat → Int32} {s k : Nat} (h : ¬ mFul P k 4 = 4) : mWl P s k = false := by unfold mWl; rw [decide_eq_false h, Bool.false_and, Bool.and_false]
theorem wl_f3 {P : Nat → Int32} {s k : Nat} (h : mCom P k 4 = 0) : mWl P s k = false := by unfold mWl; rw [decide_eq_false (p := ¬ mCom P k 4 = 0) (fun q => q h), Bool.and_false, Bool.and_false]
theorem wl_t {P : Nat → Int32} {s k : Nat} (h1 : anyN (thF k s) 4 = true) (h2 : mFul P k 4 = 4) (h3 : ¬ mCom P k 4 = 0) : mWl P s k = true := by unfold mWl; rw [h1, decide_eq_true h2, decide_eq_true h3]; rfl
theorem wonC_t {P : Nat → Int32} {s k n : Nat} (hn : n = mWonC P s k) (h : mWl P s k = true) : n + 1 = mWonC P s (k + 1) := by rw [mWonC, if_pos h, hn]
theorem wonC_f {P : Nat → Int32} {s k n : Nat} (hn : n = mWonC P s k) (h : mWl P s k = false) : n + 0 = mWonC P s (k + 1) := by rw [mWonC, if_neg (by rw [h]; decide), hn]
/-! pure, out of 21.m2 -/
/-! the twin: playing, lines, what wins -/
theorem upd_uu {f : Nat → Int32} {k : Nat} {x y : Int32} : upd (upd f k x) k y = upd f k y := by
  funext j
  unfold upd
  split <;> rfl
theorem upd_id {f : Nat → Int32} {k : Nat} {y : Int32} (h : f k = y) : upd f k y = f := by
  funext j
  unfold upd
  split
  · rename_i e; rw [e, h]
  · rfl
theorem upd_back {f : Nat → Int32} {k : Nat} {x y : Int32} (h : f k = y) : upd (upd f k x) k y = f := by rw [upd_uu, upd_id h]
def filN (f : Nat → Int32) (v : Int32) (n : Nat) : Nat → Int32 := fun j => if j < n then v else f j
theorem filN_0 (f : Nat → Int32) (v : Int32) : filN f v 0 = f := by funext j; simp [filN]
theorem filN_s (f : Nat → Int32) (v : Int32) (n : Nat) : upd (filN f v n) n v = filN f v (n + 1) := by
  funext j
  unfold upd filN
  by_cases h : j = n
  · rw [if_pos h, if_pos (by omega)]
  · rw [if_neg h]
    by_cases h2 : j < n
    · rw [if_pos h2, if_pos (by omega)]
    · rw [if_neg h2, if_neg (by omega)]
def cpN (f p : Nat → Int32) (n : Nat) : Nat → Int32 := fun j => if j < n then p j else f j
theorem cpN_0 (f p : Nat → Int32) : cpN f p 0 = f := by funext j; simp [cpN]
theorem cpN_s (f p : Nat → Int32) (n : Nat) : upd (cpN f p n) n (p n) = cpN f p (n + 1) := by
  funext j
  unfold upd cpN
  by_cases h : j = n
  · rw [if_pos h, if_pos (by omega), h]
  · rw [if_neg h]
    by_cases h2 : j < n
    · rw [if_pos h2, if_pos (by omega)]
    · rw [if_neg h2, if_neg (by omega)]
theorem mIn_of {v : Int32} {n : Nat} (hn : n < 2 ^ 31) (h : mIn v (nI n) = true) : v = nI v.toNatClampNeg ∧ v.toNatClampNeg < n := by
  simp only [mIn, Bool.and_eq_true, decide_eq_true_eq] at h
  exact ⟨zclamp h.1, zclamp_lt h.1 hn (Int32.not_le.mpr h.2)⟩
theorem mIn_16 {v : Int32} (h : mIn v 16 = true) : v = nI v.toNatClampNeg ∧ v.toNatClampNeg < 16 := mIn_of (n := 16) (by decide) h
theorem mIn_q (v : Int32) : mIn v 16 = qNum v := by
  have h : decide (v < 16) = decide (¬ (16 : Int32) ≤ v) := by
    by_cases h : v < 16
    · rw [decide_eq_true h, decide_eq_true (Int32.not_le.mpr h)]
    · rw [decide_eq_false h, decide_eq_false (fun q => h (Int32.not_le.mp q))]
  unfold mIn qNum
  rw [h]
def mWins (w : Int32) (P : Nat → Int32) (p s : Nat) : Bool := decide (P s = -1) && decide (0 < mWon w (upd P s (nI p)) s)
def mWinS (w : Int32) (P : Nat → Int32) (p : Nat) : Nat → Int32
  | 0 => 0
  | k + 1 => mWinS w P p k ||| (if mWins w P p k = true then (1 : Int32) <<< (nI k &&& 31) else 0)
def mSafS (w : Int32) (P O : Nat → Int32) : Nat → Int32
  | 0 => 0
  | k + 1 => mSafS w P O k ||| (if O k = 0 ∧ mWinS w P k 16 = 0 then (1 : Int32) <<< (nI k &&& 31) else 0)
theorem nI_succ_sub (n : Nat) : nI (n + 1) - nI 1 = nI n := pk_sub (Nat.le_add_left 1 n)
/-! pure, out of 22.m3 -/
/-! the twin: looking ahead by rows -/
def mx32 (F : Nat → Int32) : Nat → Int32
  | 0 => -2
  | k + 1 => if F k ≤ mx32 F k then mx32 F k else F k
theorem mx_le {F : Nat → Int32} {c : Nat} {e : Int32} (hF : F c = e) (h : e ≤ mx32 F c) : mx32 F (c + 1) = mx32 F c := by rw [mx32, hF, if_pos h]
theorem mx_gt {F : Nat → Int32} {c : Nat} {e : Int32} (hF : F c = e) (h : ¬ e ≤ mx32 F c) : mx32 F (c + 1) = e := by rw [mx32, hF, if_neg h]
/-- how often a row has v, of its first k -/
def cntv (f : Nat → Int32) (v : Int32) : Nat → Nat
  | 0 => 0
  | k + 1 => cntv f v k + (if f k = v then 1 else 0)
theorem cntv_le (f : Nat → Int32) (v : Int32) : ∀ k, cntv f v k ≤ k
  | 0 => Nat.le_refl 0
  | k + 1 => by
    have := cntv_le f v k
    unfold cntv
    split <;> omega
theorem cntv_ex {f : Nat → Int32} {v : Int32} : ∀ {k : Nat}, 0 < cntv f v k → ∃ j, j < k ∧ f j = v
  | 0, h => absurd h (Nat.lt_irrefl 0)
  | k + 1, h => by
    unfold cntv at h
    by_cases e : f k = v
    · exact ⟨k, Nat.lt_succ_self k, e⟩
    · rw [if_neg e] at h
      obtain ⟨j, h1, h2⟩ := cntv_ex (k := k) h
      exact ⟨j, Nat.lt_succ_of_lt h1, h2⟩
theorem cntv_un {f : Nat → Int32} {v x : Int32} {s : Nat} : ∀ {k : Nat}, k ≤ s → cntv (upd f s x) v k = cntv f v k
  | 0, _ => rfl
  | k + 1, h => by
    unfold cntv
    rw [cntv_un (k := k) (by omega), pk_un (f := f) (k := s) (j := k) (by omega)]
theorem cntv_up {f : Nat → Int32} {v x : Int32} {s : Nat} (hv : f s = v) (hx : ¬ x = v) : ∀ {k : Nat}, s < k → cntv (upd f s x) v k + 1 = cntv f v k
  | 0, h => absurd h (Nat.not_lt_zero s)
  | k + 1, h => by
    unfold cntv
    by_cases e : s = k
    · subst e
      rw [cntv_un (Nat.le_refl s), pk_us, if_neg hx, if_pos hv]
    · have := cntv_up (f := f) hv hx (k := k) (by omega)
      rw [pk_un (f := f) (k := s) (j := k) (by omega)]
      omega
def mPF (w : Int32) (sub : (Nat → Int32) → (Nat → Int32) → Nat → Int32) (n : Nat) (P O : Nat → Int32) (pn p s : Nat) : Int32 := if P s = -1 then (if 0 < mWon w (upd P s (nI p)) s then 1 else if pn + 1 = 16 ∨ n = 1 then 0 else sub (upd P s (nI p)) (upd O p 1) (pn + 1)) else -2
def mG (w : Int32) : Nat → (Nat → Int32) → (Nat → Int32) → Nat → Int32
  | 0 => fun _ _ _ => 0
  | n + 1 => fun P O pn => mx32 (fun p => if O p = 0 then -mx32 (mPF w (mG w n) (n + 1) P O pn p) 16 else -2) 16
def mPv (w : Int32) (n : Nat) (P O : Nat → Int32) (pn p : Nat) : Int32 := mx32 (mPF w (mG w (n - 1)) n P O pn p) 16
def mGF (w : Int32) (n : Nat) (P O : Nat → Int32) (pn p : Nat) : Int32 := if O p = 0 then -mPv w n P O pn p else -2
theorem mG_eq (w : Int32) {n : Nat} (hn : 1 ≤ n) (P O : Nat → Int32) (pn : Nat) : mG w n P O pn = mx32 (mGF w n P O pn) 16 := by
  cases n with
  | zero => exact absurd hn (by decide)
  | succ n => rfl
theorem mx_range {F : Nat → Int32} : ∀ {k : Nat}, (∀ j, j < k → -2 ≤ F j ∧ F j ≤ 1) → -2 ≤ mx32 F k ∧ mx32 F k ≤ 1 ∧ ∀ j, j < k → F j ≤ mx32 F k
  | 0, _ => ⟨by show (-2 : Int32) ≤ -2; decide, by show (-2 : Int32) ≤ 1; decide, fun j h => absurd h (Nat.not_lt_zero j)⟩
  | k + 1, h => by
    obtain ⟨h1, h2, h3⟩ := mx_range (F := F) (k := k) (fun j hj => h j (by omega))
    have hk := h k (Nat.lt_succ_self k)
    unfold mx32
    split
    · rename_i e
      exact ⟨h1, h2, fun j hj => by rcases Nat.lt_succ_iff_lt_or_eq.mp hj with q | q; exact h3 j q; rw [q]; exact e⟩
    · rename_i e
      have e2 : mx32 F k ≤ F k := Int32.le_of_lt (Int32.not_le.mp e)
      exact ⟨hk.1, hk.2, fun j hj => by rcases Nat.lt_succ_iff_lt_or_eq.mp hj with q | q; exact Int32.le_trans (h3 j q) e2; rw [q]; exact Int32.le_refl _⟩
theorem neg_range {x : Int32} (h1 : -1 ≤ x) (h2 : x ≤ 1) : -1 ≤ -x ∧ -x ≤ 1 := by
  have a := Int32.le_iff_toInt_le.mp h1
  have b := Int32.le_iff_toInt_le.mp h2
  have a1 : (-1 : Int32).toInt = -1 := by decide
  have b1 : (1 : Int32).toInt = 1 := by decide
  rw [a1] at a
  rw [b1] at b
  have e : x = -1 ∨ x = 0 ∨ x = 1 := by
    rcases (by omega : x.toInt = -1 ∨ x.toInt = 0 ∨ x.toInt = 1) with h | h | h
    · exact Or.inl (Int32.toInt_inj.mp (h.trans a1.symm))
    · exact Or.inr (Or.inl (Int32.toInt_inj.mp h))
    · exact Or.inr (Or.inr (Int32.toInt_inj.mp (h.trans b1.symm)))
  rcases e with rfl | rfl | rfl <;> decide
/-- a position that can be looked at -/
def okM (P O : Nat → Int32) (pn : Nat) : Prop := pn < 16 ∧ cntv P (-1) 16 + pn = 16 ∧ cntv O 0 16 + pn = 16
theorem okM_put {P O : Nat → Int32} {pn p s : Nat} (h : okM P O pn) (hs : s < 16) (hp : p < 16) (h1 : P s = -1) (h2 : O p = 0) (hf : ¬ pn + 1 = 16) : okM (upd P s (nI p)) (upd O p 1) (pn + 1) := by
  obtain ⟨a, b, c⟩ := h
  have hx : ¬ nI p = -1 := fun q => by
    have : nI p < 0 := by rw [q]; decide
    exact nI_pos (by omega) this
  have e1 := cntv_up (f := P) (x := nI p) h1 hx (k := 16) hs
  have e2 := cntv_up (f := O) (x := 1) h2 (by decide) (k := 16) hp
  exact ⟨by omega, by omega, by omega⟩
theorem m_range (w : Int32) : ∀ n, (∀ P O pn, okM P O pn → -1 ≤ mG w n P O pn ∧ mG w n P O pn ≤ 1) ∧ (∀ P O pn p, okM P O pn → p < 16 → O p = 0 → (∀ s, s < 16 → -2 ≤ mPF w (mG w (n - 1)) n P O pn p s ∧ mPF w (mG w (n - 1)) n P O pn p s ≤ 1) ∧ -1 ≤ mPv w n P O pn p ∧ mPv w n P O pn p ≤ 1) := by
  intro n
  induction n with
  | zero =>
    refine ⟨fun _ _ _ _ => ⟨by show (-1 : Int32) ≤ 0; decide, by show (0 : Int32) ≤ 1; decide⟩, fun P O pn p ho hp hO => ?_⟩
    have hr : ∀ s, s < 16 → (-2 ≤ mPF w (mG w 0) 0 P O pn p s ∧ mPF w (mG w 0) 0 P O pn p s ≤ 1) ∧ (P s = -1 → -1 ≤ mPF w (mG w 0) 0 P O pn p s) := by
      intro s _
      unfold mPF
      by_cases e : P s = -1
      · rw [if_pos e]
        split
        · exact ⟨⟨by decide, by decide⟩, fun _ => by decide⟩
        · split
          · exact ⟨⟨by decide, by decide⟩, fun _ => by decide⟩
          · exact ⟨⟨by show (-2 : Int32) ≤ 0; decide, by show (0 : Int32) ≤ 1; decide⟩, fun _ => by show (-1 : Int32) ≤ 0; decide⟩
      · rw [if_neg e]
        exact ⟨⟨by decide, by decide⟩, fun q => absurd q e⟩
    obtain ⟨s, hs, hm⟩ := cntv_ex (f := P) (v := -1) (k := 16) (by have := ho.2.1; have := ho.1; omega)
    have hx := mx_range (F := mPF w (mG w 0) 0 P O pn p) (k := 16) (fun j hj => (hr j hj).1)
    exact ⟨fun s hs => (hr s hs).1, Int32.le_trans ((hr s hs).2 hm) (hx.2.2 s hs), hx.2.1⟩
  | succ n ih =>
    have hP : ∀ P O pn p, okM P O pn → p < 16 → O p = 0 → (∀ s, s < 16 → -2 ≤ mPF w (mG w n) (n + 1) P O pn p s ∧ mPF w (mG w n) (n + 1) P O pn p s ≤ 1) ∧ -1 ≤ mPv w (n + 1) P O pn p ∧ mPv w (n + 1) P O pn p ≤ 1 := by
      intro P O pn p ho hp hO
      have hr : ∀ s, s < 16 → (-2 ≤ mPF w (mG w n) (n + 1) P O pn p s ∧ mPF w (mG w n) (n + 1) P O pn p s ≤ 1) ∧ (P s = -1 → -1 ≤ mPF w (mG w n) (n + 1) P O pn p s) := by
        intro s hs
        unfold mPF
        by_cases e : P s = -1
        · rw [if_pos e]
          split
          · exact ⟨⟨by decide, by decide⟩, fun _ => by decide⟩
          · split
            · exact ⟨⟨by decide, by decide⟩, fun _ => by decide⟩
            · rename_i q
              have := ih.1 _ _ _ (okM_put ho hs hp e hO (fun z => q (Or.inl z)))
              exact ⟨⟨Int32.le_trans (by decide) this.1, this.2⟩, fun _ => this.1⟩
        · rw [if_neg e]
          exact ⟨⟨by decide, by decide⟩, fun q => absurd q e⟩
      obtain ⟨s, hs, hm⟩ := cntv_ex (f := P) (v := -1) (k := 16) (by have := ho.2.1; have := ho.1; omega)
      have hx := mx_range (F := mPF w (mG w n) (n + 1) P O pn p) (k := 16) (fun j hj => (hr j hj).1)
      exact ⟨fun s hs => (hr s hs).1, Int32.le_trans ((hr s hs).2 hm) (hx.2.2 s hs), hx.2.1⟩
    refine ⟨fun P O pn ho => ?_, hP⟩
    rw [mG_eq w (by omega)]
    have hr : ∀ p, p < 16 → (-2 ≤ mGF w (n + 1) P O pn p ∧ mGF w (n + 1) P O pn p ≤ 1) ∧ (O p = 0 → -1 ≤ mGF w (n + 1) P O pn p) := by
      intro p hp
      unfold mGF
      by_cases e : O p = 0
      · rw [if_pos e]
        have := (hP P O pn p ho hp e).2
        have h2 := neg_range this.1 this.2
        exact ⟨⟨Int32.le_trans (by decide) h2.1, h2.2⟩, fun _ => h2.1⟩
      · rw [if_neg e]
        exact ⟨⟨by decide, by decide⟩, fun q => absurd q e⟩
    obtain ⟨p, hp, hm⟩ := cntv_ex (f := O) (v := 0) (k := 16) (by have := ho.2.2; have := ho.1; omega)
    have hx := mx_range (F := mGF w (n + 1) P O pn) (k := 16) (fun j hj => (hr j hj).1)
    exact ⟨Int32.le_trans ((hr p hp).2 hm) (hx.2.2 p hp), hx.2.1⟩
/-- the row that a level runs over: of the giver, of the placer of p -/
def lkF (w : Int32) (kp : Bool) (n : Nat) (P O : Nat → Int32) (pn p : Nat) : Nat → Int32 := match kp with
  | false => mGF w n P O pn
  | true => mPF w (mG w (n - 1)) n P O pn p
def lkD (kp : Bool) (n : Nat) : Nat := match kp with
  | false => 2 * n
  | true => 2 * n - 1
theorem lk_le (w : Int32) {kp : Bool} {n : Nat} {P O : Nat → Int32} {pn p : Nat} (ho : okM P O pn) (hp : kp = true → p < 16 ∧ O p = 0) : ∀ k, k < 16 → -2 ≤ lkF w kp n P O pn p k ∧ lkF w kp n P O pn p k ≤ 1 := by
  intro k hk
  cases kp with
  | false =>
    show -2 ≤ mGF w n P O pn k ∧ mGF w n P O pn k ≤ 1
    unfold mGF
    split
    · rename_i e
      have := ((m_range w n).2 P O pn k ho hk e).2
      have h2 := neg_range this.1 this.2
      exact ⟨Int32.le_trans (by decide) h2.1, h2.2⟩
    · exact ⟨by decide, by decide⟩
  | true =>
    obtain ⟨h1, h2⟩ := hp rfl
    exact ((m_range w n).2 P O pn p ho h1 h2).1 k hk
theorem mx_early {F : Nat → Int32} (hF : ∀ k, k < 16 → -2 ≤ F k ∧ F k ≤ 1) : ∀ (m c : Nat), c + m = 16 → mx32 F c = 1 → mx32 F 16 = 1
  | 0, c, h, e => by rw [show (16 : Nat) = c by omega]; exact e
  | m + 1, c, h, e => mx_early hF m (c + 1) (by omega) (by rw [mx_le rfl (by rw [e]; exact (hF c (by omega)).2)]; exact e)
theorem mx_end {F : Nat → Int32} (hF : ∀ k, k < 16 → -2 ≤ F k ∧ F k ≤ 1) {c : Nat} (hc : c ≤ 16) (h : c = 16 ∨ mx32 F c = 1) : mx32 F c = mx32 F 16 := by
  rcases h with h | h
  · rw [h]
  · rw [h, mx_early hF (16 - c) c (by omega) h]
def lag (L : Nat) (kd lf ch be gi kd2 lf2 ch2 be2 gi2 : Nat → Int32) : Prop := ∀ i, i < L → kd2 i = kd i ∧ lf2 i = lf i ∧ ch2 i = ch i ∧ be2 i = be i ∧ gi2 i = gi i
theorem lag_tr {L : Nat} {kd lf ch be gi kd2 lf2 ch2 be2 gi2 kd3 lf3 ch3 be3 gi3 : Nat → Int32} (h1 : lag L kd lf ch be gi kd2 lf2 ch2 be2 gi2) (h2 : lag L kd2 lf2 ch2 be2 gi2 kd3 lf3 ch3 be3 gi3) : lag L kd lf ch be gi kd3 lf3 ch3 be3 gi3 := fun i hi => ⟨(h2 i hi).1.trans (h1 i hi).1, (h2 i hi).2.1.trans (h1 i hi).2.1, (h2 i hi).2.2.1.trans (h1 i hi).2.2.1, (h2 i hi).2.2.2.1.trans (h1 i hi).2.2.2.1, (h2 i hi).2.2.2.2.trans (h1 i hi).2.2.2.2⟩
theorem lag_1 {L : Nat} {kd lf ch be gi : Nat → Int32} {x y : Int32} : lag L kd lf ch be gi kd lf (upd ch L x) (upd be L y) gi := fun i hi => ⟨rfl, rfl, pk_un (by omega), pk_un (by omega), rfl⟩
theorem lag_0 {L : Nat} {kd lf ch be gi : Nat → Int32} {x : Int32} : lag L kd lf ch be gi kd lf (upd ch L x) be gi := fun i hi => ⟨rfl, rfl, pk_un (by omega), rfl, rfl⟩
theorem lag_2 {L : Nat} {kd lf ch be gi kd2 lf2 ch2 be2 gi2 : Nat → Int32} {x y z1 z2 z3 z4 z5 y2 : Int32} (h : lag (L + 1) (upd kd (L + 1) z1) (upd lf (L + 1) z2) (upd (upd ch L x) (L + 1) z3) (upd (upd be L y) (L + 1) z4) (upd gi (L + 1) z5) kd2 lf2 ch2 be2 gi2) : lag L kd lf ch be gi kd2 lf2 ch2 (upd be2 L y2) gi2 := by
  intro i hi
  obtain ⟨h1, h2, h3, h4, h5⟩ := h i (by omega)
  exact ⟨h1.trans (pk_un (by omega)), h2.trans (pk_un (by omega)), h3.trans ((pk_un (by omega)).trans (pk_un (by omega))), (pk_un (by omega)).trans (h4.trans ((pk_un (by omega)).trans (pk_un (by omega)))), h5.trans (pk_un (by omega))⟩
theorem zi_dec (k : Nat) : nI (k + 1) + Int32.ofInt (-1) = nI k := pk_m1 k
/-! pure, out of 23.m4 -/
/-! the twin: looks, worth, behind, best -/
/-! pure, out of 24.m5 -/
/-! the twin: worth and best -/
def mFar (np : Int32) (pn : Nat) : Prop := (np = 3 ∧ 8 < 16 - pn) ∨ (np = 4 ∧ 6 < 16 - pn)
theorem mx_ex {F : Nat → Int32} : ∀ {k : Nat}, ¬ mx32 F k = -2 → ∃ j, j < k ∧ F j = mx32 F k
  | 0, h => absurd rfl h
  | k + 1, h => by
    unfold mx32 at h ⊢
    by_cases e : F k ≤ mx32 F k
    · rw [if_pos e] at h ⊢
      obtain ⟨j, h1, h2⟩ := mx_ex (k := k) h
      exact ⟨j, by omega, h2⟩
    · rw [if_neg e]
      exact ⟨k, by omega, rfl⟩
theorem lk_ex (w : Int32) {kp : Bool} {n : Nat} {P O : Nat → Int32} {pn p : Nat} (hn : 1 ≤ n) (ho : okM P O pn) (hp : kp = true → p < 16 ∧ O p = 0) : ∃ j, j < 16 ∧ lkF w kp n P O pn p j = mx32 (lkF w kp n P O pn p) 16 := by
  refine mx_ex (fun q => ?_)
  cases kp with
  | false =>
    have h := ((m_range w n).1 P O pn ho).1
    rw [mG_eq w hn, show mx32 (mGF w n P O pn) 16 = -2 from q] at h
    exact absurd h (by decide)
  | true =>
    have h := ((m_range w n).2 P O pn p ho (hp rfl).1 (hp rfl).2).2.1
    rw [show mPv w n P O pn p = -2 from q] at h
    exact absurd h (by decide)
/-! pure, out of 25.m6 -/
/-! pure, out of 26.m7 -/
/-! pure, out of 27.m8 -/
/-! the twin: boards that are alike -/
def mtq (s t : Nat) : Nat := if t < 4 then 4 * (if t % 2 = 0 then s / 4 else 3 - s / 4) + (if t / 2 % 2 = 0 then s % 4 else 3 - s % 4) else 4 * (if t / 2 % 2 = 0 then s % 4 else 3 - s % 4) + (if t % 2 = 0 then s / 4 else 3 - s / 4)
theorem mtq_lt : ∀ s, s < 16 → ∀ t, t < 8 → mtq s t < 16 := by decide +kernel
def dg (y k : Nat) : Nat := y / 4 ^ k % 4
theorem dg_ok : ∀ y, y < 256 → ∀ k, k < 4 → (nI y >>> (nI (2 * k) &&& 31)) &&& (3 : Int32) = nI (dg y k) := by decide +kernel
def mkN (f : Nat → Int32) (y n : Nat) : Nat → Int32 := fun j => if j < n then nI (dg y j) else f j
theorem mkN_0 (f : Nat → Int32) (y : Nat) : mkN f y 0 = f := by funext j; simp [mkN]
theorem mkN_s (f : Nat → Int32) (y n : Nat) : upd (mkN f y n) n (nI (dg y n)) = mkN f y (n + 1) := by
  funext j
  unfold upd mkN
  by_cases h : j = n
  · rw [if_pos h, if_pos (by omega), h]
  · rw [if_neg h]
    by_cases h2 : j < n
    · rw [if_pos h2, if_pos (by omega)]
    · rw [if_neg h2, if_neg (by omega)]
theorem mkN_at (f : Nat → Int32) (y : Nat) : ∀ j, j < 4 → mkN f y 4 j = nI (dg y j) := fun j h => if_pos h
def mMet (y : Nat) : Nat → Int32
  | 0 => 0
  | k + 1 => mMet y k ||| ((1 : Int32) <<< (nI (dg y k) &&& 31))
def isW (y : Nat) : Bool := decide (mMet y 4 = 15)
def dgr (y : Nat) : Nat → Int32 := fun j => nI (dg y j)
def mRnC (it : Int32) (m : Nat → Int32) : Nat → Int32
  | 0 => 0
  | k + 1 => mRnC it m k ||| (((it >>> (nI k &&& 31)) &&& (1 : Int32)) <<< (m k &&& 31))
def mRn (it : Int32) (y : Nat) (fl : Int32) : Int32 := mRnC it (dgr y) 4 ^^^ fl
def mtF (P T : Nat → Int32) (y k s : Nat) : Bool := if P s = -1 then decide (T (mtq s (k / 16)) = -1) else decide (¬ T (mtq s (k / 16)) = -1) && decide (T (mtq s (k / 16)) = mRn (P s) y (nI (k % 16)))
def waysC2 (P T : Nat → Int32) (y : Nat) : Nat → Nat
  | 0 => 0
  | k + 1 => waysC2 P T y k + (if allN (mtF P T y k) 16 = true then 1 else 0)
def waysC (P T : Nat → Int32) : Nat → Nat
  | 0 => 0
  | y + 1 => waysC P T y + (if isW y = true then waysC2 P T y 128 else 0)
theorem w2_t {P T : Nat → Int32} {y k : Nat} (h : allN (mtF P T y k) 16 = true) : waysC2 P T y (k + 1) = waysC2 P T y k + 1 := by rw [waysC2, if_pos h]
theorem w2_f {P T : Nat → Int32} {y k : Nat} (h : allN (mtF P T y k) 16 = false) : waysC2 P T y (k + 1) = waysC2 P T y k := by rw [waysC2, if_neg (by rw [h]; decide)]; rfl
theorem wc_t {P T : Nat → Int32} {y : Nat} (h : isW y = true) : waysC P T (y + 1) = waysC P T y + waysC2 P T y 128 := by rw [waysC, if_pos h]
theorem wc_f {P T : Nat → Int32} {y : Nat} (h : isW y = false) : waysC P T (y + 1) = waysC P T y := by rw [waysC, if_neg (by rw [h]; decide)]; rfl
theorem w2_le (P T : Nat → Int32) (y : Nat) : ∀ k, waysC2 P T y k ≤ k
  | 0 => Nat.le_refl 0
  | k + 1 => by
    have := w2_le P T y k
    unfold waysC2
    split <;> omega
theorem wc_le (P T : Nat → Int32) : ∀ y, waysC P T y ≤ 128 * y
  | 0 => Nat.le_refl 0
  | y + 1 => by
    have := wc_le P T y
    have := w2_le P T y 128
    unfold waysC
    split <;> omega
theorem al_t {F : Nat → Bool} {k : Nat} (h : allN F k = true) (h2 : F k = true) : (1 : Int32) = zb (allN F (k + 1)) := by rw [allN, h, h2]; rfl
theorem al_f {F : Nat → Bool} {k : Nat} (h2 : F k = false) : (0 : Int32) = zb (allN F (k + 1)) := by rw [allN, h2, Bool.and_false]; rfl
theorem allN_mf {F : Nat → Bool} {k n : Nat} (hk : k ≤ n) (h : allN F k = false) : allN F n = false := by
  cases e : allN F n
  · rfl
  · rw [allN_iff.mpr (fun j hj => allN_iff.mp e j (by omega))] at h; cases h
theorem mt_1 {P T : Nat → Int32} {y k s : Nat} (h : P s = -1) (h2 : T (mtq s (k / 16)) = -1) : mtF P T y k s = true := by unfold mtF; rw [if_pos h]; exact decide_eq_true h2
theorem mt_2 {P T : Nat → Int32} {y k s : Nat} (h : P s = -1) (h2 : ¬ T (mtq s (k / 16)) = -1) : mtF P T y k s = false := by unfold mtF; rw [if_pos h]; exact decide_eq_false h2
theorem mt_3 {P T : Nat → Int32} {y k s : Nat} (h : ¬ P s = -1) (h2 : T (mtq s (k / 16)) = -1) : mtF P T y k s = false := by unfold mtF; rw [if_neg h, decide_eq_false (p := ¬ T (mtq s (k / 16)) = -1) (fun q => q h2)]; rfl
theorem mt_4 {P T : Nat → Int32} {y k s : Nat} (h : ¬ P s = -1) (h2 : ¬ T (mtq s (k / 16)) = mRn (P s) y (nI (k % 16))) : mtF P T y k s = false := by unfold mtF; rw [if_neg h, decide_eq_false h2, Bool.and_false]
theorem mt_5 {P T : Nat → Int32} {y k s : Nat} (h : ¬ P s = -1) (h3 : ¬ T (mtq s (k / 16)) = -1) (h2 : T (mtq s (k / 16)) = mRn (P s) y (nI (k % 16))) : mtF P T y k s = true := by unfold mtF; rw [if_neg h, decide_eq_true h3, decide_eq_true h2]; rfl
