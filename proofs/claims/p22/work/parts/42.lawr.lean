/-! the law's numbers against the class: the relation, and what the class answers in it -/
def RG (q0 q1 q2 q3 q4 q5 q6 : Int32) (q7 : Int64) (P G : Nat → Int32) (pn : Nat) (O : Nat → Int32) : Prop :=
  (G 0 = nI (qLn q0) ∧ G 1 = q1 ∧ G 2 = q2 ∧ G 3 = q3 ∧ G 4 = nI pn ∧ G 5 = q4) ∧ (q1 = 0 ∨ q1 = 1 ∨ q1 = 2) ∧ (q2 = 0 ∨ q2 = 1) ∧ RB P O pn q5 q6 q7 ∧ (q1 = 1 → ∃ p, p < 16 ∧ q3 = nI p ∧ O p = 0) ∧ (¬ q1 = 2 → pn < 16 ∧ NW q0 P ∧ q4 = -1) ∧ (q1 = 2 → 0 ≤ q4)
def RGs (u : LSt) : Prop := match u with
  | ((q0, q1, q2, q3, q4, q5, q6, q7, _, _, _), P, G) => ∃ pn O, RG q0 q1 q2 q3 q4 q5 q6 q7 P G pn O
-- what the law hears
def aA0 (f : Int32) (d : Int64) (v : Int32) : Int32 := if qNum v = true then qAt f d v else -30
def aA1 (w f v : Int32) : Int32 := if v < 0 ∨ nI (qLn w) ≤ v then -30 else qBc (LM v.toNatClampNeg &&& f)
def aA2 (w f : Int32) (d : Int64) (v : Int32) : Int32 := if v < 0 ∨ nI (qLn w) ≤ v then -30 else qIn f d (LM v.toNatClampNeg)
def aA3 (st w f us : Int32) (d : Int64) (v : Int32) : Int32 := if qNum v = false then -30 else if st = 2 ∨ qHas us v = true then -10 else qWin f d w v
def aA4 (st w f us : Int32) (d : Int64) : Int32 := if st = 0 then qSafe f us d w else -10
def aA5 (st w f us : Int32) (d : Int64) (np : Int32) (hp : Nat) : Int32 := if np < 1 ∨ ¬ np ≤ 4 then -20 else if qCan f st np = true then (if st = 0 then qWG w np.toNatClampNeg f us d else qWP w np.toNatClampNeg f us d hp) else -10
def aA6 (st w f us : Int32) (d : Int64) (np : Int32) (hp : Nat) : Int32 := if np < 1 ∨ ¬ np ≤ 4 then -20 else if qCan f st np = true then (if st = 0 then nI (qBP w np.toNatClampNeg f us d) else nI (qBS w np.toNatClampNeg f us d hp)) else -10
def aAL (f : Int32) (d : Int64) (ik kf : Int32) (kd : Int64) : Int32 := if ik = 0 then -10 else zb (anyN (fun t => decide (0 < qWays f d t kf kd)) 8)
section RA
variable {q0 q1 q2 q3 q4 q5 q6 : Int32} {q7 : Int64} {q8 q9 : Int32} {q10 : Int64} {v r : Int32} {u : QS} {E : String} {hp : Nat}
theorem aA0_r (h : P_X0_pieceAt q0 q1 q2 q3 q4 q5 q6 q7 q8 q9 q10 v r u) : u = (q0, q1, q2, q3, q4, q5, q6, q7, q8, q9, q10) ∧ r = aA0 q5 q7 v := ⟨h.2.1, by rw [aA0, if_pos h.1]; exact h.2.2⟩
theorem aA0_x (h : PX_X0_pieceAt q0 q1 q2 q3 q4 q5 q6 q7 q8 q9 q10 v E) : E = eIO ∧ (-30 : Int32) = aA0 q5 q7 v := ⟨h.1, by rw [aA0, if_neg (by rw [h.2]; decide)]⟩
theorem aA1_r (h : P_X0_onLine q0 q1 q2 q3 q4 q5 q6 q7 q8 q9 q10 v r u) : u = (q0, q1, q2, q3, q4, q5, q6, q7, q8, q9, q10) ∧ r = aA1 q0 q5 v := ⟨h.2.1, by rw [aA1, if_neg (fun q => q.elim h.1.1 h.1.2)]; exact h.2.2⟩
theorem aA1_x (h : PX_X0_onLine q0 q1 q2 q3 q4 q5 q6 q7 q8 q9 q10 v E) : E = eIO ∧ (-30 : Int32) = aA1 q0 q5 v := ⟨h.1, by rw [aA1, if_pos h.2]⟩
theorem aA2_r (h : P_X0_shared q0 q1 q2 q3 q4 q5 q6 q7 q8 q9 q10 v r u) : u = (q0, q1, q2, q3, q4, q5, q6, q7, q8, q9, q10) ∧ r = aA2 q0 q5 q7 v := ⟨h.2.1, by rw [aA2, if_neg (fun q => q.elim h.1.1 h.1.2)]; exact h.2.2⟩
theorem aA2_x (h : PX_X0_shared q0 q1 q2 q3 q4 q5 q6 q7 q8 q9 q10 v E) : E = eIO ∧ (-30 : Int32) = aA2 q0 q5 q7 v := ⟨h.1, by rw [aA2, if_pos h.2]⟩
theorem aA3_r (h : P_X0_winning q0 q1 q2 q3 q4 q5 q6 q7 q8 q9 q10 v r u) : u = (q0, q1, q2, q3, q4, q5, q6, q7, q8, q9, q10) ∧ r = aA3 q1 q0 q5 q6 q7 v := ⟨h.2.1, by
  rw [aA3, if_neg (by rw [h.1.1]; decide), if_neg (fun q => q.elim h.1.2.1 (fun z => by rw [h.1.2.2] at z; cases z))]; exact h.2.2⟩
theorem aA3_x (h : PX_X0_winning q0 q1 q2 q3 q4 q5 q6 q7 q8 q9 q10 v E) : (E = eIO ∧ (-30 : Int32) = aA3 q1 q0 q5 q6 q7 v) ∨ (E = eIS ∧ (-10 : Int32) = aA3 q1 q0 q5 q6 q7 v) := by
  rcases h with ⟨a, b⟩ | ⟨a, b, c⟩
  · exact Or.inl ⟨a, by rw [aA3, if_pos b]⟩
  · exact Or.inr ⟨a, by rw [aA3, if_neg (by rw [b]; decide), if_pos c]⟩
theorem aA4_r (h : P_X0_safe q0 q1 q2 q3 q4 q5 q6 q7 q8 q9 q10 r u) : u = (q0, q1, q2, q3, q4, q5, q6, q7, q8, q9, q10) ∧ r = aA4 q1 q0 q5 q6 q7 := ⟨h.2.1, by rw [aA4, if_pos h.1]; exact h.2.2⟩
theorem aA4_x (h : PX_X0_safe q0 q1 q2 q3 q4 q5 q6 q7 q8 q9 q10 E) : E = eIS ∧ (-10 : Int32) = aA4 q1 q0 q5 q6 q7 := ⟨h.1, by rw [aA4, if_neg h.2]⟩
theorem aA5_r (h : P_X0_worth q0 q1 q2 q3 q4 q5 q6 q7 q8 q9 q10 v hp r u) : u = (q0, q1, q2, q3, q4, q5, q6, q7, q8, q9, q10) ∧ r = aA5 q1 q0 q5 q6 q7 v hp := ⟨h.2.1, by rw [aA5, if_neg (fun q => q.elim h.1.1.1 (fun z => z h.1.1.2)), if_pos h.1.2]; exact h.2.2⟩
theorem aA5_x (h : PX_X0_worth q0 q1 q2 q3 q4 q5 q6 q7 q8 q9 q10 v hp E) : (E = eIA ∧ (-20 : Int32) = aA5 q1 q0 q5 q6 q7 v hp) ∨ (E = eIS ∧ (-10 : Int32) = aA5 q1 q0 q5 q6 q7 v hp) := by
  rcases h with ⟨a, b⟩ | ⟨a, b, c⟩
  · exact Or.inl ⟨a, by rw [aA5, if_pos b]⟩
  · exact Or.inr ⟨a, by rw [aA5, if_neg (fun q => q.elim b.1 (fun z => z b.2)), if_neg (by rw [c]; decide)]⟩
theorem aA6_r (h : P_X0_best q0 q1 q2 q3 q4 q5 q6 q7 q8 q9 q10 v hp r u) : u = (q0, q1, q2, q3, q4, q5, q6, q7, q8, q9, q10) ∧ r = aA6 q1 q0 q5 q6 q7 v hp := ⟨h.2.1, by rw [aA6, if_neg (fun q => q.elim h.1.1.1 (fun z => z h.1.1.2)), if_pos h.1.2]; exact h.2.2⟩
theorem aA6_x (h : PX_X0_best q0 q1 q2 q3 q4 q5 q6 q7 q8 q9 q10 v hp E) : (E = eIA ∧ (-20 : Int32) = aA6 q1 q0 q5 q6 q7 v hp) ∨ (E = eIS ∧ (-10 : Int32) = aA6 q1 q0 q5 q6 q7 v hp) := by
  rcases h with ⟨a, b⟩ | ⟨a, b, c⟩
  · exact Or.inl ⟨a, by rw [aA6, if_pos b]⟩
  · exact Or.inr ⟨a, by rw [aA6, if_neg (fun q => q.elim b.1 (fun z => z b.2)), if_neg (by rw [c]; decide)]⟩
theorem aAL_r (h : P_X0_isAlike q0 q1 q2 q3 q4 q5 q6 q7 q8 q9 q10 r u) : u = (q0, q1, q2, q3, q4, q5, q6, q7, q8, q9, q10) ∧ ¬ q8 = 0 ∧ r = zb (anyN (fun t => decide (0 < qWays q5 q7 t q9 q10)) 8) := ⟨h.2.1, h.1, h.2.2⟩
theorem aAL_x (h : PX_X0_isAlike q0 q1 q2 q3 q4 q5 q6 q7 q8 q9 q10 E) : E = eIS ∧ (-10 : Int32) = aAL q5 q7 q8 q9 q10 := ⟨h.1, by rw [aAL, if_pos h.2]⟩
end RA
-- the board as the law reads it
theorem KB_inv {P : Nat → Int32} {f : Int32} {d : Int64} (h : KB P f d) : qInv f d := by
  intro s hs hf
  rw [← Int64.toBitVec_inj]
  apply BitVec.eq_of_getLsbD_eq
  intro j hj
  rw [Int64.toBitVec_and, BitVec.getLsbD_and, show (0 : Int64).toBitVec = 0#64 from rfl, BitVec.getLsbD_zero]
  unfold qEach
  rw [sl_bit (sl_e s hs) (by omega) hj, each_bit _ (by omega)]
  have hP : P s = -1 := by
    have := h.2.1 s hs
    rw [hf] at this
    exact Classical.not_not.mp (of_decide_eq_false this.symm)
  by_cases c : j < s
  · rw [decide_eq_true c]; simp
  · by_cases c2 : (j - s) % 16 = 0
    · have e : j = 16 * ((j - s) / 16) + s := by omega
      have := KB_bit h (m := (j - s) / 16) (by omega) hs
      rw [← e, hP, pbit_1] at this
      rw [this]; simp
    · rw [decide_eq_false c2]; simp
theorem cntv_all {F : Nat → Int32} {v : Int32} (h : ∀ s, s < 16 → F s = v) : ∀ k, k ≤ 16 → cntv F v k = k
  | 0, _ => rfl
  | k + 1, hk => by rw [cntv, cntv_all h k (by omega), if_pos (h k (by omega))]
theorem RB_0 {P O : Nat → Int32} (hP : ∀ s, s < 16 → P s = -1) (hO : ∀ s, s < 16 → O s = 0) : RB P O 0 0 0 0 := by
  refine ⟨⟨fun s hs => Or.inl (hP s hs), fun s hs => ?_, by decide, fun m hm s hs => ?_⟩, fun p hp => Or.inl ⟨hO p hp, fun s hs q => ?_⟩, fun p hp => ?_, ?_, ?_⟩
  · rw [qHas_0 s hs, hP s hs]; rfl
  · rw [qHas_bv _ hs, qOne_bit _ hm hs, hP s hs, pbit_1, show (0 : Int64).toBitVec = 0#64 from rfl]
    exact BitVec.getLsbD_zero
  · rw [hP s hs] at q
    exact nI_n1 p hp q.symm
  · rw [qHas_0 p hp, hO p hp]; rfl
  · rw [cntv_all hP 16 (Nat.le_refl 16)]
  · rw [cntv_all hO 16 (Nat.le_refl 16)]
theorem NW_0 {w : Int32} {P : Nat → Int32} (hP : ∀ s, s < 16 → P s = -1) : NW w P := by
  intro l hl q
  have hl19 : l < 19 := by have := (mMany_le w).2; omega
  have a := ful_e P l
  have g : ∀ k, k < 4 → em P l k = true := fun k hk => decide_eq_true (hP _ (sqr_lt l hl19 k hk))
  rw [g 0 (by decide), g 1 (by decide), g 2 (by decide), g 3 (by decide), q.1] at a
  exact absurd a (by decide)
section RB2
variable {P O : Nat → Int32} {pn : Nat} {q0 q1 q4 f us : Int32} {d : Int64} {k hp : Nat}
theorem b_at (h : RB P O pn f us d) (hk : k < 16) : qAt f d (nI k) = P k := at_eq h.1 hk
theorem b_on (h : RB P O pn f us d) (hk : k < 19) : qBc (LM (nI k).toNatClampNeg &&& f) = nI (lFl P k 4) := by
  rw [nI_clamp (by omega), ln_many h.1 hk, lFl_eq h.1.1 hk 4 (Nat.le_refl 4)]
theorem b_sh (h : RB P O pn f us d) (hk : k < 19) : qIn f d (LM (nI k).toNatClampNeg) = lSh P k := by
  rw [nI_clamp (by omega), ln_com h.1 hk, lSh_eq h.1.1 hk]
theorem aA1_ln (w f : Int32) : aA1 w f (nI (qLn w)) = -30 := by rw [aA1, if_pos (Or.inr (Int32.le_refl _))]
theorem aA1_19 (w f : Int32) : aA1 w f 19 = -30 := by
  rw [aA1, if_pos (Or.inr ?_)]
  rw [show (19 : Int32) = nI 19 from rfl, nI_leI (by have := (qLn_le w).2; omega) (by decide)]
  exact (qLn_le w).2
theorem aA2_m1 (w f : Int32) (d : Int64) : aA2 w f d (-1) = -30 := by rw [aA2, if_pos (Or.inl (by decide))]
theorem aA0_16 (f : Int32) (d : Int64) : aA0 f d 16 = -30 := by rw [aA0, if_neg (by decide)]
theorem aA3_16 (st w f us : Int32) (d : Int64) : aA3 st w f us d 16 = -30 := by rw [aA3, if_pos (by decide)]
theorem aA3_m1 (st w f us : Int32) (d : Int64) : aA3 st w f us d (-1) = -30 := by rw [aA3, if_pos (by decide)]
theorem qNum_k : ∀ k, k < 16 → qNum (nI k) = true := by decide +kernel
theorem s3_1 (c : q1 = 2) (hk : k < 16) : aA3 q1 q0 f us d (nI k) = -10 := by
  rw [aA3, if_neg (by rw [qNum_k k hk]; decide), if_pos (Or.inl c)]
theorem s3_2 (h : RB P O pn f us d) (hk : k < 16) (c : ¬ zb (lHas P (nI k) 16) = 0) : aA3 q1 q0 f us d (nI k) = -10 := by
  have e := zb_n0.mp c
  rw [lHas_us h hk] at e
  rw [aA3, if_neg (by rw [qNum_k k hk]; decide), if_pos (Or.inr e)]
theorem s3_3 (h : RB P O pn f us d) (hgo : ¬ q1 = 2 → pn < 16 ∧ NW q0 P ∧ q4 = -1) (hk : k < 16) (c1 : ¬ q1 = 2) (c : zb (lHas P (nI k) 16) = 0) : aA3 q1 q0 f us d (nI k) = lWs P (qLn q0) (nI k) := by
  have e := zb_0.mp c
  rw [lHas_us h hk] at e
  rw [aA3, if_neg (by rw [qNum_k k hk]; decide), if_neg (fun q => q.elim c1 (fun z => by rw [e] at z; cases z)), lWs_eq h.1 (hgo c1).2.1 hk]
theorem s4_1 (c : ¬ q1 = 0) : aA4 q1 q0 f us d = -10 := by rw [aA4, if_neg c]
theorem s4_2 (h : RB P O pn f us d) (hgo : ¬ q1 = 2 → pn < 16 ∧ NW q0 P ∧ q4 = -1) (c : q1 = 0) : aA4 q1 q0 f us d = lSs P (qLn q0) := by
  rw [aA4, if_pos c, lSs_eq h (hgo (by rw [c]; decide)).2.1]
-- the safe set
theorem sf_0 (h : RB P O pn f us d) (hnw : NW q0 P) : lSs P (qLn q0) = 0 ↔ ∀ p, p < 16 → qHas (qSafe f us d q0) (nI p) = false := by
  constructor
  · intro e p hp
    rw [← lSs_eq h hnw, e, qHas_0 p hp]
  · intro e
    refine (setN_0 _).mpr (fun i hi => ?_)
    have := e i hi
    rw [← lSs_eq h hnw] at this
    rwa [lSs, setN_has _ hi] at this
theorem gl_1 (h : RB P O pn f us d) (hpn : pn < 16) (hnw : NW q0 P) : qGl q0 1 f us d = true ↔ lSs P (qLn q0) = 0 := by
  rw [sf_0 h hnw, qGl_eq, decide_eq_true (not_full h hpn), decide_eq_true (p := 1 ≤ 1) (Nat.le_refl 1), Bool.true_and, Bool.true_and, allN_iff]
  constructor
  · intro q p hp
    have := q p hp
    rw [qPw_n (by omega), Bool.or_false] at this
    simpa using this
  · intro q p hp
    rw [q p hp]; rfl
theorem gl_2 (h : RB P O pn f us d) (hpn : pn < 16) (hnw : NW q0 P) : qGl q0 2 f us d = true ↔ lSs P (qLn q0) = 0 := by
  rw [sf_0 h hnw, qGl_eq, decide_eq_true (not_full h hpn), decide_eq_true (p := 1 ≤ 2) (by decide), Bool.true_and, Bool.true_and, allN_iff]
  constructor
  · intro q p hp
    have := q p hp
    rw [qPw_n (by omega), Bool.or_false] at this
    simpa using this
  · intro q p hp
    rw [q p hp]; rfl
theorem gw_2 (h : RB P O pn f us d) (hnw : NW q0 P) (e : lSs P (qLn q0) = 0) : qGw q0 2 f us d = false := by
  rw [qGw_eq]
  have : anyN (fun p => qHas (qSafe f us d q0) (nI p) && qPl q0 2 f us d p) 16 = false := by
    rw [Bool.eq_false_iff]
    intro q
    obtain ⟨p, hp, z⟩ := anyN_iff.mp q
    rw [(sf_0 h hnw).mp e p hp] at z
    cases z
  rw [this, Bool.and_false]
theorem wg_1 (h : RB P O pn f us d) (hpn : pn < 16) (hnw : NW q0 P) : qWG q0 1 f us d = if lSs P (qLn q0) = 0 then -1 else 0 := by
  unfold qWG
  rw [qGw_n (by omega), if_neg (by decide)]
  by_cases c : lSs P (qLn q0) = 0
  · rw [if_pos ((gl_1 h hpn hnw).mpr c), if_pos c]
  · rw [if_neg (fun q => c ((gl_1 h hpn hnw).mp q)), if_neg c]
theorem wg_2a (h : RB P O pn f us d) (hpn : pn < 16) (hnw : NW q0 P) (e : lSs P (qLn q0) = 0) : qWG q0 2 f us d = -1 := by
  unfold qWG
  rw [gw_2 h hnw e, if_neg (by decide), if_pos ((gl_2 h hpn hnw).mpr e)]
theorem wg_2b (h : RB P O pn f us d) (hpn : pn < 16) (hnw : NW q0 P) (e : ¬ lSs P (qLn q0) = 0) : 0 ≤ qWG q0 2 f us d := by
  unfold qWG
  split
  · decide
  · rw [if_neg (fun q => e ((gl_2 h hpn hnw).mp q))]; decide
theorem wg_0 (f us : Int32) (d : Int64) : qWG q0 0 f us d = 0 := by
  unfold qWG
  rw [qGw_n (by omega), qGl_n (by omega), if_neg (by decide), if_neg (by decide)]
theorem wp_1 (h : RB P O pn f us d) (hnw : NW q0 P) (hh : hp < 16) : qWP q0 1 f us d hp = if lWs P (qLn q0) (nI hp) = 0 then 0 else 1 := by
  unfold qWP
  rw [lWs_eq h.1 hnw hh, qPw_n (by omega), qPl_n (by omega)]
  by_cases c : qWin f d q0 (nI hp) = 0
  · rw [if_neg (fun q => q.elim (fun z => z c) (fun z => by cases z)), if_neg (by decide), if_pos c]
  · rw [if_pos (Or.inl c), if_neg c]
end RB2
-- what a placing or two are worth
section RW
variable {P O G : Nat → Int32} {pn : Nat} {q0 q1 q2 q3 q4 f us : Int32} {d : Int64} {hp : Nat}
theorem can_2 (f np : Int32) : qCan f 2 np = false := by
  unfold qCan
  rw [decide_eq_false (p := ¬ (2 : Int32) = 2) (fun q => q rfl), Bool.and_false]
theorem can_n1 (h : RB P O pn f us d) (c : ¬ q1 = 2) : qCan f q1 1 = true := (can_iff h).mpr ⟨c, fun q => by
  rcases q with ⟨q, _⟩ | ⟨q, _⟩
  · exact absurd q (by decide)
  · exact absurd q (by decide)⟩
theorem can_n2 (h : RB P O pn f us d) (c : ¬ q1 = 2) : qCan f q1 2 = true := (can_iff h).mpr ⟨c, fun q => by
  rcases q with ⟨q, _⟩ | ⟨q, _⟩
  · exact absurd q (by decide)
  · exact absurd q (by decide)⟩
theorem w2_5 {np : Int32} (c : q1 = 2) (h1 : ¬ (np < 1 ∨ ¬ np ≤ 4)) : aA5 q1 q0 f us d np hp = -10 := by
  rw [c, aA5, if_neg h1, if_neg (by rw [can_2]; decide)]
theorem w2_6 {np : Int32} (c : q1 = 2) (h1 : ¬ (np < 1 ∨ ¬ np ≤ 4)) : aA6 q1 q0 f us d np hp = -10 := by
  rw [c, aA6, if_neg h1, if_neg (by rw [can_2]; decide)]
theorem w_50 : aA5 q1 q0 f us d 0 hp = -20 := by rw [aA5, if_pos (Or.inl (by decide))]
theorem w_55 : aA5 q1 q0 f us d 5 hp = -20 := by rw [aA5, if_pos (Or.inr (by decide))]
theorem w_60 : aA6 q1 q0 f us d 0 hp = -20 := by rw [aA6, if_pos (Or.inl (by decide))]
theorem w_53 (h : RB P O pn f us d) (c : pn ≤ 7) : aA5 q1 q0 f us d 3 hp = -10 := by
  rw [aA5, if_neg (by decide), if_neg (fun q => ((can_iff h).mp q).2 (Or.inl ⟨rfl, by omega⟩))]
theorem w_64 (h : RB P O pn f us d) (c : pn ≤ 9) : aA6 q1 q0 f us d 4 hp = -10 := by
  rw [aA6, if_neg (by decide), if_neg (fun q => ((can_iff h).mp q).2 (Or.inr ⟨rfl, by omega⟩))]
theorem tc1 : (1 : Int32).toNatClampNeg = 1 := by decide
theorem tc2 : (2 : Int32).toNatClampNeg = 2 := by decide
theorem a5_g1 (h : RB P O pn f us d) (c : q1 = 0) : aA5 q1 q0 f us d 1 hp = qWG q0 1 f us d := by
  rw [aA5, if_neg (by decide), if_pos (can_n1 h (by rw [c]; decide)), if_pos c, tc1]
theorem a5_g2 (h : RB P O pn f us d) (c : q1 = 0) : aA5 q1 q0 f us d 2 hp = qWG q0 2 f us d := by
  rw [aA5, if_neg (by decide), if_pos (can_n2 h (by rw [c]; decide)), if_pos c, tc2]
theorem a5_p1 (h : RB P O pn f us d) (c : q1 = 1) : aA5 q1 q0 f us d 1 hp = qWP q0 1 f us d hp := by
  rw [aA5, if_neg (by decide), if_pos (can_n1 h (by rw [c]; decide)), if_neg (by rw [c]; decide), tc1]
theorem a5_p2 (h : RB P O pn f us d) (c : q1 = 1) : aA5 q1 q0 f us d 2 hp = qWP q0 2 f us d hp := by
  rw [aA5, if_neg (by decide), if_pos (can_n2 h (by rw [c]; decide)), if_neg (by rw [c]; decide), tc2]
theorem a6_g1 (h : RB P O pn f us d) (c : q1 = 0) : aA6 q1 q0 f us d 1 hp = nI (qBP q0 1 f us d) := by
  rw [aA6, if_neg (by decide), if_pos (can_n1 h (by rw [c]; decide)), if_pos c, tc1]
theorem a6_p1 (h : RB P O pn f us d) (c : q1 = 1) : aA6 q1 q0 f us d 1 hp = nI (qBS q0 1 f us d hp) := by
  rw [aA6, if_neg (by decide), if_pos (can_n1 h (by rw [c]; decide)), if_neg (by rw [c]; decide), tc1]
theorem a6_p2 (h : RB P O pn f us d) (c : q1 = 1) : aA6 q1 q0 f us d 2 hp = nI (qBS q0 2 f us d hp) := by
  rw [aA6, if_neg (by decide), if_pos (can_n2 h (by rw [c]; decide)), if_neg (by rw [c]; decide), tc2]
-- to give
theorem g_1a (h : RB P O pn f us d) (hgo : ¬ q1 = 2 → pn < 16 ∧ NW q0 P ∧ q4 = -1) (c : q1 = 0) (e : lSs P (qLn q0) = 0) : aA5 q1 q0 f us d 1 hp = -1 := by
  have z := hgo (by rw [c]; decide)
  rw [a5_g1 h c, wg_1 h z.1 z.2.1, if_pos e]
theorem g_1b (h : RB P O pn f us d) (hgo : ¬ q1 = 2 → pn < 16 ∧ NW q0 P ∧ q4 = -1) (c : q1 = 0) (e : ¬ lSs P (qLn q0) = 0) : aA5 q1 q0 f us d 1 hp = 0 := by
  have z := hgo (by rw [c]; decide)
  rw [a5_g1 h c, wg_1 h z.1 z.2.1, if_neg e]
theorem g_2a (h : RB P O pn f us d) (hgo : ¬ q1 = 2 → pn < 16 ∧ NW q0 P ∧ q4 = -1) (c : q1 = 0) (e : lSs P (qLn q0) = 0) : aA5 q1 q0 f us d 2 hp = -1 := by
  have z := hgo (by rw [c]; decide)
  rw [a5_g2 h c, wg_2a h z.1 z.2.1 e]
theorem g_2b (h : RB P O pn f us d) (hgo : ¬ q1 = 2 → pn < 16 ∧ NW q0 P ∧ q4 = -1) (c : q1 = 0) (e : ¬ lSs P (qLn q0) = 0) : 0 ≤ aA5 q1 q0 f us d 2 hp := by
  have z := hgo (by rw [c]; decide)
  rw [a5_g2 h c]
  exact wg_2b h z.1 z.2.1 e
theorem g_le (h : RB P O pn f us d) (hgo : ¬ q1 = 2 → pn < 16 ∧ NW q0 P ∧ q4 = -1) (c : q1 = 0) : aA5 q1 q0 f us d 1 hp ≤ aA5 q1 q0 f us d 2 hp := by
  by_cases e : lSs P (qLn q0) = 0
  · rw [g_1a h hgo c e, g_2a h hgo c e]; exact Int32.le_refl _
  · rw [g_1b h hgo c e]; exact g_2b h hgo c e
theorem find_low {F : Nat → Bool} {S : Int32} {k : Nat} (hF : ∀ j, j < 16 → F j = qHas S (nI j)) (hl : lowS S k) (hk : k < 16) : findN F 15 0 = k :=
  findN_at 15 0 k (Nat.zero_le _) (by omega) (fun j _ hj => by rw [hF j (by omega)]; exact hl.2.1 j hj) (by rw [hF k hk]; exact hl.2.2 hk)
theorem low_lt {F : Nat → Bool} {k : Nat} (hl : lowS (setN F 16) k) (hne : ¬ setN F 16 = 0) : k < 16 := by
  apply Classical.byContradiction
  intro z
  apply hne
  refine (setN_0 F).mpr (fun i hi => ?_)
  rw [← setN_has F hi]
  exact hl.2.1 i (by have := hl.1; omega)
theorem on_lt (h : RB P O pn f us d) (hpn : pn < 16) {k : Nat} (hall : ∀ j, j < k → lHas P (nI j) 16 = true) : k ≤ 15 := by
  obtain ⟨j, hj, e⟩ := cntv_ex (f := O) (v := 0) (k := 16) (by have := h.2.2.2.2; omega)
  apply Classical.byContradiction
  intro z
  have a := hall j (by omega)
  rw [(lHas_O h hj).mpr e] at a
  cases a
theorem bg_b (h : RB P O pn f us d) (hgo : ¬ q1 = 2 → pn < 16 ∧ NW q0 P ∧ q4 = -1) (c : q1 = 0) (e : ¬ lSs P (qLn q0) = 0) {k : Nat} (hl : lowS (lSs P (qLn q0)) k) : aA6 q1 q0 f us d 1 hp = nI k := by
  have z := hgo (by rw [c]; decide)
  rw [a6_g1 h c]
  refine congrArg nI (find_low (S := lSs P (qLn q0)) (fun j hj => ?_) hl (low_lt hl e))
  rw [lSs, setN_has _ hj]
  unfold qBPF lSsF
  rw [← lHas_us h hj, wp_1 h z.2.1 hj, wg_1 h z.1 z.2.1, if_neg e]
  congr 1
  refine decide_eq_decide.mpr ?_
  by_cases y : lWs P (qLn q0) (nI j) = 0
  · rw [if_pos y]; exact ⟨fun _ => y, fun _ => by decide⟩
  · rw [if_neg y]; exact ⟨fun q => absurd q (by decide), fun q => absurd q y⟩
theorem bg_a (h : RB P O pn f us d) (hgo : ¬ q1 = 2 → pn < 16 ∧ NW q0 P ∧ q4 = -1) (c : q1 = 0) (e : lSs P (qLn q0) = 0) {k : Nat} (hk : k ≤ 15) (hall : ∀ j, j < k → lHas P (nI j) 16 = true) (ho : zb (lHas P (nI k) 16) = 0) : aA6 q1 q0 f us d 1 hp = nI k := by
  have z := hgo (by rw [c]; decide)
  rw [a6_g1 h c]
  have hF : ∀ j, j < 16 → qBPF q0 1 f us d j = !lHas P (nI j) 16 := fun j hj => by
    unfold qBPF
    rw [← lHas_us h hj, wp_1 h z.2.1 hj, wg_1 h z.1 z.2.1, if_pos e]
    cases y : lHas P (nI j) 16
    · have : lSsF P (qLn q0) j = false := (setN_0 _).mp e j hj
      unfold lSsF at this
      rw [y, Bool.not_false, Bool.true_and] at this
      rw [if_neg (of_decide_eq_false this), Bool.not_false, Bool.true_and]
      exact decide_eq_true (by decide)
    · rfl
  refine congrArg nI (findN_at 15 0 k (Nat.zero_le _) (by omega) (fun j _ hj => ?_) ?_)
  · rw [hF j (by omega), hall j hj]; rfl
  · rw [hF k (by omega), zb_0.mp ho]; rfl
-- to place
theorem p_1a (h : RB P O pn f us d) (hgo : ¬ q1 = 2 → pn < 16 ∧ NW q0 P ∧ q4 = -1) (c : q1 = 1) (e3 : q3 = nI hp) (hh : hp < 16) (e : lWs P (qLn q0) q3 = 0) : aA5 q1 q0 f us d 1 hp = 0 := by
  have z := hgo (by rw [c]; decide)
  rw [a5_p1 h c, wp_1 h z.2.1 hh, ← e3, if_pos e]
theorem p_1b (h : RB P O pn f us d) (hgo : ¬ q1 = 2 → pn < 16 ∧ NW q0 P ∧ q4 = -1) (c : q1 = 1) (e3 : q3 = nI hp) (hh : hp < 16) (e : ¬ lWs P (qLn q0) q3 = 0) : aA5 q1 q0 f us d 1 hp = 1 := by
  have z := hgo (by rw [c]; decide)
  rw [a5_p1 h c, wp_1 h z.2.1 hh, ← e3, if_neg e]
theorem p_2w (h : RB P O pn f us d) (hgo : ¬ q1 = 2 → pn < 16 ∧ NW q0 P ∧ q4 = -1) (c : q1 = 1) (e3 : q3 = nI hp) (hh : hp < 16) (e : ¬ lWs P (qLn q0) q3 = 0) : aA5 q1 q0 f us d 2 hp = 1 := by
  have z := hgo (by rw [c]; decide)
  rw [a5_p2 h c]
  unfold qWP
  rw [e3, lWs_eq h.1 z.2.1 hh] at e
  rw [if_pos (Or.inl e)]
theorem t_1 (h : RB P O pn f us d) (hgo : ¬ q1 = 2 → pn < 16 ∧ NW q0 P ∧ q4 = -1) (hph : q1 = 0 ∨ q1 = 1 ∨ q1 = 2) (c : ¬ q1 = 2) (h3 : q1 = 1 → q3 = nI hp ∧ hp < 16 ∧ O hp = 0) (c1 : ¬ aA5 q1 q0 f us d 1 hp = 0) : aA5 q1 q0 f us d 2 hp = aA5 q1 q0 f us d 1 hp := by
  rcases hph with z | z | z
  · by_cases e : lSs P (qLn q0) = 0
    · rw [g_1a h hgo z e, g_2a h hgo z e]
    · exact absurd (g_1b h hgo z e) c1
  · obtain ⟨e3, hh, -⟩ := h3 z
    by_cases e : lWs P (qLn q0) q3 = 0
    · exact absurd (p_1a h hgo z e3 hh e) c1
    · rw [p_1b h hgo z e3 hh e, p_2w h hgo z e3 hh e]
  · exact absurd z c
theorem nw_put (h : RB P O pn f us d) (hnw : NW q0 P) (hh : hp < 16) (e : lWs P (qLn q0) (nI hp) = 0) {s : Nat} (hs : s < 16) (hP : P s = -1) : NW q0 (upd P s (nI hp)) := by
  rw [lWs_eq h.1 hnw hh] at e
  exact NW_put hnw (noW_not hh ((win_0 h.1 hh).mp e) hs hP)
theorem gl_at (h : RB P O pn f us d) (hpn : pn < 16) (hnw : NW q0 P) (hh : hp < 16) (hO : O hp = 0) (e : lWs P (qLn q0) (nI hp) = 0) {s : Nat} (hs : s < 16) (hP : P s = -1) : qGl q0 1 (f ||| qBit (nI s)) (us ||| qBit (nI hp)) (qPutD d (nI hp) (nI s)) = !lHlF P (qLn q0) (nI hp) pn s := by
  have hb := RB_put h hh hs hP hO
  have hn2 := nw_put h hnw hh e hs hP
  unfold lHlF
  rw [decide_eq_false (p := 0 ≤ P s) (by rw [hP]; exact n1_lt0), Bool.not_false, Bool.true_and]
  by_cases z : pn = 15
  · subst z
    rw [full_gl hb 1]; rfl
  · have a := gl_1 hb (by omega) hn2
    rw [decide_eq_false z, Bool.false_or]
    by_cases y : lSs (upd P s (nI hp)) (qLn q0) = 0
    · rw [a.mpr y, decide_eq_false (fun q => q y)]; rfl
    · rw [decide_eq_true y, Bool.eq_false_iff.mpr (fun q => y (a.mp q))]; rfl
theorem hl_full (h : RB P O pn f us d) {s : Nat} (hs : s < 16) (hf : qHas f (nI s) = true) (n : Nat) (p : Int32) : lHlF P n p pn s = false ∧ lEmF P s = false := by
  have a : ¬ P s = -1 := fun q => by rw [(RB_f h hs).mpr q] at hf; cases hf
  have b := (ok_ge h.1.1 hs).mpr a
  exact ⟨by unfold lHlF; rw [decide_eq_true b]; rfl, by unfold lEmF; rw [decide_eq_true b]; rfl⟩
theorem pl_2 (h : RB P O pn f us d) (hpn : pn < 16) (hnw : NW q0 P) (hh : hp < 16) (hO : O hp = 0) (e : lWs P (qLn q0) (nI hp) = 0) : qPl q0 2 f us d hp = true ↔ setN (lHlF P (qLn q0) (nI hp) pn) 16 = 0 := by
  rw [qPl_e, decide_eq_true (p := 2 ≤ 2) (Nat.le_refl 2), Bool.true_and, allN_iff, setN_0]
  constructor
  · intro q s hs
    have := q s hs
    unfold qPlF at this
    cases y : qHas f (nI s)
    · rw [y, Bool.false_or, show 2 - 1 = 1 from rfl, gl_at h hpn hnw hh hO e hs ((RB_f h hs).mp y)] at this
      simpa using this
    · exact (hl_full h hs y _ _).1
  · intro q s hs
    unfold qPlF
    cases y : qHas f (nI s)
    · rw [Bool.false_or, show 2 - 1 = 1 from rfl, gl_at h hpn hnw hh hO e hs ((RB_f h hs).mp y), q s hs]; rfl
    · rfl
theorem p_2n (h : RB P O pn f us d) (hgo : ¬ q1 = 2 → pn < 16 ∧ NW q0 P ∧ q4 = -1) (c : q1 = 1) (e3 : q3 = nI hp) (hh : hp < 16) (hO : O hp = 0) (e : lWs P (qLn q0) q3 = 0) : aA5 q1 q0 f us d 2 hp = if setN (lHlF P (qLn q0) q3 pn) 16 = 0 then -1 else 0 := by
  have z := hgo (by rw [c]; decide)
  rw [e3] at e ⊢
  have a := pl_2 h z.1 z.2.1 hh hO e
  rw [a5_p2 h c]
  unfold qWP
  have e' := e
  rw [lWs_eq h.1 z.2.1 hh] at e'
  rw [if_neg (fun q => q.elim (fun y => y e') (fun y => by rw [qPw_n (by omega)] at y; cases y))]
  by_cases y : setN (lHlF P (qLn q0) (nI hp) pn) 16 = 0
  · rw [if_pos (a.mpr y), if_pos y]
  · rw [if_neg (fun q => y (a.mp q)), if_neg y]
theorem p_2h (h : RB P O pn f us d) (hgo : ¬ q1 = 2 → pn < 16 ∧ NW q0 P ∧ q4 = -1) (c : q1 = 1) (e3 : q3 = nI hp) (hh : hp < 16) (hO : O hp = 0) (e : lWs P (qLn q0) q3 = 0) (y : ¬ setN (lHlF P (qLn q0) q3 pn) 16 = 0) : aA5 q1 q0 f us d 2 hp = 0 := by
  rw [p_2n h hgo c e3 hh hO e, if_neg y]
theorem p_2e (h : RB P O pn f us d) (hgo : ¬ q1 = 2 → pn < 16 ∧ NW q0 P ∧ q4 = -1) (c : q1 = 1) (e3 : q3 = nI hp) (hh : hp < 16) (hO : O hp = 0) (e : lWs P (qLn q0) q3 = 0) (y : setN (lHlF P (qLn q0) q3 pn) 16 = 0) : aA5 q1 q0 f us d 2 hp = -1 := by
  rw [p_2n h hgo c e3 hh hO e, if_pos y]
theorem wa_1 (s : Nat) : qWA q0 1 f us d hp s = if qHas (qWin f d q0 (nI hp)) (nI s) = true then 1 else 0 := by
  unfold qWA
  rw [show 1 - 1 = 0 from rfl, wg_0]
theorem win_emp (h : RB P O pn f us d) (hnw : NW q0 P) (hh : hp < 16) {s : Nat} (hs : s < 16) (e : qHas (qWin f d q0 (nI hp)) (nI s) = true) : qHas f (nI s) = false := by
  rw [← lWs_eq h.1 hnw hh, lWs, setN_has _ hs] at e
  unfold lWsF at e
  rw [Bool.and_eq_true] at e
  refine (RB_f h hs).mpr (ok_lt h.1.1 hs (fun q => ?_))
  rw [decide_eq_true q] at e
  exact absurd e.1 (by decide)
theorem em_f (h : RB P O pn f us d) {s : Nat} (hs : s < 16) : lEmF P s = !qHas f (nI s) := by
  unfold lEmF
  have a := RB_f h hs
  have b := ok_ge h.1.1 hs
  cases y : qHas f (nI s)
  · rw [decide_eq_false (fun q => b.mp q (a.mp y))]
  · rw [decide_eq_true (b.mpr (fun q => by rw [a.mpr q] at y; cases y))]
theorem em_ne (h : RB P O pn f us d) (hpn : pn < 16) : ¬ setN (lEmF P) 16 = 0 := by
  intro e
  obtain ⟨j, hj, z⟩ := cntv_ex (f := P) (v := -1) (k := 16) (by have := h.2.2.2.1; omega)
  have := (setN_0 _).mp e j hj
  unfold lEmF at this
  rw [z, decide_eq_false n1_lt0] at this
  cases this
theorem bp_1w (h : RB P O pn f us d) (hgo : ¬ q1 = 2 → pn < 16 ∧ NW q0 P ∧ q4 = -1) (c : q1 = 1) (e3 : q3 = nI hp) (hh : hp < 16) (e : ¬ lWs P (qLn q0) q3 = 0) {k : Nat} (hl : lowS (lWs P (qLn q0) q3) k) : aA6 q1 q0 f us d 1 hp = nI k := by
  have z := hgo (by rw [c]; decide)
  rw [e3] at e hl
  rw [a6_p1 h c]
  refine congrArg nI (find_low (S := lWs P (qLn q0) (nI hp)) (fun j hj => ?_) hl (low_lt hl e))
  unfold qBSF
  rw [wp_1 h z.2.1 hh, if_neg e, wa_1, lWs_eq h.1 z.2.1 hh]
  cases y : qHas (qWin f d q0 (nI hp)) (nI j)
  · rw [if_neg (by decide), decide_eq_false (by decide), Bool.and_false]
  · rw [win_emp h z.2.1 hh hj y, if_pos rfl]; rfl
theorem bp_1e (h : RB P O pn f us d) (hgo : ¬ q1 = 2 → pn < 16 ∧ NW q0 P ∧ q4 = -1) (c : q1 = 1) (e3 : q3 = nI hp) (hh : hp < 16) (e : lWs P (qLn q0) q3 = 0) {k : Nat} (hl : lowS (setN (lEmF P) 16) k) : aA6 q1 q0 f us d 1 hp = nI k := by
  have z := hgo (by rw [c]; decide)
  rw [e3] at e
  rw [a6_p1 h c]
  refine congrArg nI (find_low (fun j hj => ?_) hl (low_lt hl (em_ne h z.1)))
  unfold qBSF
  rw [wp_1 h z.2.1 hh, if_pos e, wa_1, ← lWs_eq h.1 z.2.1 hh, e, qHas_0 j hj, setN_has _ hj, em_f h hj, if_neg (by decide), decide_eq_true rfl, Bool.and_true]
theorem wa_2 (h : RB P O pn f us d) (s : Nat) : qWA q0 2 f us d hp s = if qHas (qWin f d q0 (nI hp)) (nI s) = true then 1 else if qGl q0 1 (f ||| qBit (nI s)) (us ||| qBit (nI hp)) (qPutD d (nI hp) (nI s)) = true then -1 else 0 := by
  unfold qWA
  rw [show 2 - 1 = 1 from rfl]
  unfold qWG
  rw [qGw_n (n := 1) (by omega), if_neg (by decide : ¬ false = true)]
theorem bp_2w (h : RB P O pn f us d) (hgo : ¬ q1 = 2 → pn < 16 ∧ NW q0 P ∧ q4 = -1) (c : q1 = 1) (e3 : q3 = nI hp) (hh : hp < 16) (e : ¬ lWs P (qLn q0) q3 = 0) {k : Nat} (hl : lowS (lWs P (qLn q0) q3) k) : aA6 q1 q0 f us d 2 hp = nI k := by
  have z := hgo (by rw [c]; decide)
  have e2 := p_2w h hgo c e3 hh e
  rw [a5_p2 h c] at e2
  rw [e3] at e hl
  rw [a6_p2 h c]
  refine congrArg nI (find_low (S := lWs P (qLn q0) (nI hp)) (fun j hj => ?_) hl (low_lt hl e))
  unfold qBSF
  rw [e2, wa_2 h, lWs_eq h.1 z.2.1 hh]
  cases y : qHas (qWin f d q0 (nI hp)) (nI j)
  · rw [if_neg (by decide)]
    split
    · rw [decide_eq_false (by decide), Bool.and_false]
    · rw [decide_eq_false (by decide), Bool.and_false]
  · rw [win_emp h z.2.1 hh hj y, if_pos rfl]; rfl
theorem bp_2n (h : RB P O pn f us d) (hpn : pn < 16) (hnw : NW q0 P) (hh : hp < 16) (hO : O hp = 0) (e : lWs P (qLn q0) (nI hp) = 0) {v : Int32} (e2 : qWP q0 2 f us d hp = v) {j : Nat} (hj : j < 16) : qBSF q0 2 f us d hp j = (!qHas f (nI j) && decide ((if lHlF P (qLn q0) (nI hp) pn j = true then (0 : Int32) else -1) = v)) := by
  unfold qBSF
  rw [e2, wa_2 h, ← lWs_eq h.1 hnw hh, e, qHas_0 j hj, if_neg (by decide)]
  cases y : qHas f (nI j)
  · rw [gl_at h hpn hnw hh hO e hj ((RB_f h hj).mp y)]
    cases lHlF P (qLn q0) (nI hp) pn j <;> rfl
  · rfl
theorem bp_2h (h : RB P O pn f us d) (hgo : ¬ q1 = 2 → pn < 16 ∧ NW q0 P ∧ q4 = -1) (c : q1 = 1) (e3 : q3 = nI hp) (hh : hp < 16) (hO : O hp = 0) (e : lWs P (qLn q0) q3 = 0) (y : ¬ setN (lHlF P (qLn q0) q3 pn) 16 = 0) {k : Nat} (hl : lowS (setN (lHlF P (qLn q0) q3 pn) 16) k) : aA6 q1 q0 f us d 2 hp = nI k := by
  have z := hgo (by rw [c]; decide)
  have e2 := p_2h h hgo c e3 hh hO e y
  rw [a5_p2 h c] at e2
  rw [e3] at e hl y
  rw [a6_p2 h c]
  refine congrArg nI (find_low (fun j hj => ?_) hl (low_lt hl y))
  rw [bp_2n h z.1 z.2.1 hh hO e e2 hj, setN_has _ hj]
  cases x : qHas f (nI j)
  · cases lHlF P (qLn q0) (nI hp) pn j <;> rfl
  · rw [(hl_full h hj x _ _).1]; rfl
theorem bp_2e (h : RB P O pn f us d) (hgo : ¬ q1 = 2 → pn < 16 ∧ NW q0 P ∧ q4 = -1) (c : q1 = 1) (e3 : q3 = nI hp) (hh : hp < 16) (hO : O hp = 0) (e : lWs P (qLn q0) q3 = 0) (y : setN (lHlF P (qLn q0) q3 pn) 16 = 0) {k : Nat} (hl : lowS (setN (lEmF P) 16) k) : aA6 q1 q0 f us d 2 hp = nI k := by
  have z := hgo (by rw [c]; decide)
  have e2 := p_2e h hgo c e3 hh hO e y
  rw [a5_p2 h c] at e2
  rw [e3] at e y
  rw [a6_p2 h c]
  refine congrArg nI (find_low (fun j hj => ?_) hl (low_lt hl (em_ne h z.1)))
  rw [bp_2n h z.1 z.2.1 hh hO e e2 hj, setN_has _ hj, (setN_0 _).mp y j hj, em_f h hj]
  cases qHas f (nI j) <;> rfl
-- the loop over what could be placed
theorem lHl_t1 {k : Nat} {acc p : Int32} {n : Nat} (h : ¬ 0 ≤ P k) (c : pn = 15) (ha : acc = setN (lHlF P n p pn) k) : acc ||| ((1 : Int32) <<< (nI k &&& 31)) = setN (lHlF P n p pn) (k + 1) := by
  rw [ha]
  refine setN_t ?_
  unfold lHlF
  rw [decide_eq_false h, decide_eq_true c]; rfl
theorem lHl_t2 {k : Nat} {acc p : Int32} {n : Nat} (h : ¬ 0 ≤ P k) (c : ¬ lSs (upd P k p) n = 0) (ha : acc = setN (lHlF P n p pn) k) : acc ||| ((1 : Int32) <<< (nI k &&& 31)) = setN (lHlF P n p pn) (k + 1) := by
  rw [ha]
  refine setN_t ?_
  unfold lHlF
  rw [decide_eq_false h, decide_eq_true c, Bool.or_true]; rfl
theorem lHl_f {k : Nat} {acc p : Int32} {n : Nat} (h : ¬ 0 ≤ P k) (c1 : ¬ pn = 15) (c : lSs (upd P k p) n = 0) (ha : acc = setN (lHlF P n p pn) k) : acc ||| 0 = setN (lHlF P n p pn) (k + 1) := by
  rw [ha]
  refine setN_f ?_
  unfold lHlF
  rw [decide_eq_false h, decide_eq_false c1, decide_eq_false (fun q => q c)]; rfl
theorem lHl_k {k : Nat} {acc p : Int32} {n : Nat} (h : 0 ≤ P k) (ha : acc = setN (lHlF P n p pn) k) : acc = setN (lHlF P n p pn) (k + 1) := by
  rw [ha]
  refine setN_k ?_
  unfold lHlF
  rw [decide_eq_true h]; rfl
theorem lEm_t {k : Nat} {acc : Int32} (h : ¬ 0 ≤ P k) (ha : acc = setN (lEmF P) k) : acc ||| ((1 : Int32) <<< (nI k &&& 31)) = setN (lEmF P) (k + 1) := by
  rw [ha]
  refine setN_t ?_
  unfold lEmF
  rw [decide_eq_false h]; rfl
theorem lEm_k {k : Nat} {acc : Int32} (h : 0 ≤ P k) (ha : acc = setN (lEmF P) k) : acc = setN (lEmF P) (k + 1) := by
  rw [ha]
  refine setN_k ?_
  unfold lEmF
  rw [decide_eq_true h]; rfl
theorem on_s {k : Nat} (hall : ∀ j, j < k → lHas P (nI j) 16 = true) (c : ¬ zb (lHas P (nI k) 16) = 0) : ∀ j, j < k + 1 → lHas P (nI j) 16 = true := by
  intro j hj
  rcases Nat.lt_succ_iff_lt_or_eq.mp hj with q | q
  · exact hall j q
  · rw [q]; exact zb_n0.mp c
end RW
-- the ways by which a board becomes itself
section RY
variable {P : Nat → Int32} {f : Int32} {d : Int64}
theorem mtq_id : ∀ s, s < 16 → mtq s 0 = s := by decide +kernel
theorem mRn_id : ∀ p, p < 16 → mRn (nI p) 228 (nI 0) = nI p := by decide +kernel
theorem isW_id : isW 228 = true := by decide +kernel
theorem ways_pos (h : KB P f d) : 0 < waysC P P 256 := by
  have h1 : allN (mtF P P 228 (16 * 0 + 0)) 16 = true := by
    refine allN_iff.mpr (fun s hs => ?_)
    have e0 : mtq s ((16 * 0 + 0) / 16) = s := mtq_id s hs
    rcases h.1 s hs with q | ⟨p, hp, q⟩
    · exact mt_1 q (by rw [e0]; exact q)
    · have n : ¬ P s = -1 := by rw [q]; exact nI_n1 p hp
      exact mt_5 n (by rw [e0]; exact n) (by rw [e0, q]; exact (mRn_id p hp).symm)
  have h2 : 0 < aW P P 228 0 := by
    unfold aW
    rw [if_pos isW_id]
    refine (sum_pos _ 16).mpr ⟨0, by decide, ?_⟩
    show 0 < if allN (mtF P P 228 (16 * 0 + 0)) 16 = true then 1 else 0
    rw [if_pos h1]
    decide
  have h3 : 0 < wT P P 0 := (sum_pos _ 256).mpr ⟨228, by decide, h2⟩
  rw [wc_turns]
  exact (sum_pos _ 8).mpr ⟨0, by decide, h3⟩
theorem sym_pos (h : KB P f d) : ¬ qSym f d f d 8 ≤ 0 := by
  have a := ways_pos h
  have b := wc_le P P 256
  rw [sym_eq h h, show (0 : Int32) = nI 0 from rfl, nI_leI (by omega) (by decide)]
  omega
theorem alike_self (h : KB P f d) : aAL f d 1 f d = 1 := by
  rw [aAL, if_neg (by decide), alike_eq h h, decide_eq_true (ways_pos h)]; rfl
theorem sym_0 : qSym 0 0 0 0 8 = 3072 := by decide +kernel
end RY
