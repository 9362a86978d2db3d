/-! the other calls keep the relation -/
section RM
variable {q0 q1 q2 q3 q4 q5 q6 : Int32} {q7 : Int64} {q8 q9 : Int32} {q10 : Int64} {bk : Int32} {pn : Nat} {hd ph ot wi ik th : Int32} {P O K kd lf ch be gi mr : Nat → Int32}
theorem R_place {v k b : Int32} {hp : Nat} {u : QS × (Nat → Int64)} {w : MS} (h : RelE q0 q1 q2 q3 q4 q5 q6 q7 q8 q9 q10 bk pn hd ph ot wi ik P O K) (hhd : ph = 1 → hd = nI hp ∧ hp < 16 ∧ O hp = 0) (h1 : PL_place q0 q1 q2 q3 q4 q5 q6 q7 q8 q9 q10 v k u) (h2 : P_X1_place bk pn hd ph ot wi ik th P O K kd lf ch be gi mr v hp b w) : Same k b u w := by
  obtain ⟨u1, u2⟩ := u
  have h0 := h
  obtain ⟨⟨rfl, hbk⟩, ⟨rfl, hph⟩, ⟨rfl, hot⟩, rfl, rfl, rfl, hrb, hone, hgo, hk⟩ := h
  have hnum := num_in v
  rcases h2 with ⟨a1, rfl, rfl⟩ | ⟨⟨a1, a2⟩, rfl, rfl⟩ | ⟨⟨a1, a2, a3⟩, rfl, rfl⟩
  · rw [a1] at hnum
    rcases h1 with ⟨rfl, x, y, -⟩ | ⟨rfl, x, rfl⟩ | ⟨rfl, x, rfl⟩
    · exact absurd (hnum.symm.trans y.1.1) (by decide)
    · exact ⟨rfl, fun q => absurd q (by decide), pn, rfl, h0⟩
    · rcases x with x | x
      · exact absurd x.1 (by decide)
      · exact absurd (hnum.symm.trans x.2.1) (by decide)
  · have hv := rnum a1
    rw [a1] at hnum
    have hu := RB_f hrb hv.2
    rw [← hv.1] at hu
    rcases h1 with ⟨rfl, x, y, -⟩ | ⟨rfl, x, rfl⟩ | ⟨rfl, x, rfl⟩
    · rcases a2 with a2 | a2
      · exact absurd y.1.2.1 a2
      · exact absurd (hu.mp y.1.2.2) a2
    · rcases x with x | x
      · exact absurd (hnum.symm.trans x.2) (by decide)
      · exact absurd x.1 (by decide)
    · exact ⟨rfl, fun q => absurd q (by decide), pn, rfl, h0⟩
  · have hv := rnum a1
    rw [a1] at hnum
    have hu := RB_f hrb hv.2
    rw [← hv.1] at hu
    rcases h1 with ⟨rfl, x, ⟨y1, rfl, rfl⟩, y2⟩ | ⟨rfl, x, rfl⟩ | ⟨rfl, x, rfl⟩
    · generalize v.toNatClampNeg = s at hv a3 ⊢
      obtain ⟨rfl, hs⟩ := hv
      obtain ⟨rfl, hp16, hO⟩ := hhd a2
      obtain ⟨hpn, hnw, rfl⟩ := hgo (by rw [a2]; decide)
      have hb := RB_put hrb hp16 hs a3 hO
      have ew : qWon (q5 ||| qBit (nI s)) (qPutD q7 (nI hp) (nI s)) q0 = mWon q0 (upd P s (nI hp)) s := won_eq hb.1 (NW_off hnw)
      have ef : (q5 ||| qBit (nI s) = 65535) ↔ pn + 1 = 16 := by
        constructor
        · intro q
          apply Classical.byContradiction
          intro z
          exact not_full hb (by omega) q
        · intro q
          rw [q] at hb
          exact full_f hb
      rw [ew] at y2 ⊢
      refine ⟨rfl, fun _ => y2, pn + 1, rfl, ⟨rfl, hbk⟩, ?_⟩
      by_cases c : 0 < mWon q0 (upd P s (nI hp)) s
      · rw [if_pos c, if_pos c, if_pos c, if_pos c]
        exact ⟨⟨rfl, by decide⟩, ⟨rfl, hot⟩, rfl, rfl, rfl, hb, fun q => absurd q (by decide), fun q => absurd rfl q, hk⟩
      · rw [if_neg c, if_neg c, if_neg c, if_neg c]
        by_cases z : pn + 1 = 16
        · rw [if_pos (ef.mpr z), if_pos (ef.mpr z), if_pos z, if_pos z]
          exact ⟨⟨rfl, by decide⟩, ⟨rfl, hot⟩, rfl, rfl, rfl, hb, fun q => absurd q (by decide), fun q => absurd rfl q, hk⟩
        · rw [if_neg (fun q => z (ef.mp q)), if_neg (fun q => z (ef.mp q)), if_neg z, if_neg z]
          exact ⟨⟨rfl, by decide⟩, ⟨rfl, hot⟩, rfl, rfl, rfl, hb, fun q => absurd q (by decide), fun _ => ⟨by omega, NW_put hnw c, rfl⟩, hk⟩
    · rcases x with x | x
      · exact absurd (hnum.symm.trans x.2) (by decide)
      · exact absurd x.1 (by decide)
    · rcases x with x | x
      · exact absurd x.1 (by decide)
      · rcases x.2.2 with z | z
        · exact absurd a2 z
        · rw [hu.mpr a3] at z; cases z
theorem R_worth {v k b : Int32} {kq : Bool} {hp : Nat} {u : QS × (Nat → Int64)} {w : MS} (h : RelE q0 q1 q2 q3 q4 q5 q6 q7 q8 q9 q10 bk pn hd ph ot wi ik P O K) (hkq : ¬ ph = 2 → ph = zb kq) (hhd : kq = true → hd = nI hp ∧ hp < 16 ∧ O hp = 0) (h1 : PL_worth q0 q1 q2 q3 q4 q5 q6 q7 q8 q9 q10 v hp k u) (h2 : P_X1_worth bk pn hd ph ot wi ik th P O K kd lf ch be gi mr v kq hp b w) : Same k b u w := by
  obtain ⟨u1, u2⟩ := u
  have h0 := h
  obtain ⟨⟨rfl, hbk⟩, ⟨rfl, hph⟩, ⟨rfl, hot⟩, rfl, rfl, rfl, hrb, hone, hgo, hk⟩ := h
  have hcan := can_iff hrb (st := q1) (np := v)
  rcases h2 with ⟨a1, rfl, rfl⟩ | ⟨a1, a2, rfl, rfl⟩ | ⟨a1, a2, kd2, lf2, ch2, be2, gi2, rfl, hbr⟩
  · rcases h1 with ⟨rfl, x, y, -⟩ | ⟨rfl, x, rfl⟩ | ⟨rfl, x, rfl⟩
    · exact absurd a1 (fun q => q.elim y.1.1.1 (fun z => z y.1.1.2))
    · exact ⟨rfl, fun q => absurd q (by decide), pn, rfl, h0⟩
    · rcases x with x | x
      · exact absurd x.1 (by decide)
      · exact absurd a1 (fun q => q.elim x.2.1.1 (fun z => z x.2.1.2))
  · rcases h1 with ⟨rfl, x, y, -⟩ | ⟨rfl, x, rfl⟩ | ⟨rfl, x, rfl⟩
    · have := hcan.mp y.1.2
      exact absurd a2 (fun q => q.elim this.1 this.2)
    · rcases x with x | x
      · exact absurd x.2 (fun q => q.elim a1.1 (fun z => z a1.2))
      · exact absurd x.1 (by decide)
    · exact ⟨rfl, fun q => absurd q (by decide), pn, rfl, h0⟩
  · obtain ⟨e1, e2, e3⟩ := zplac a1.1 a1.2
    rcases h1 with ⟨rfl, x, ⟨y1, rfl, rfl⟩, y2⟩ | ⟨rfl, x, rfl⟩ | ⟨rfl, x, rfl⟩
    · refine ⟨rfl, fun _ => y2.trans ?_, pn, rfl, h0⟩
      refine congrArg Int32.toInt64 ?_
      rw [hbr]
      clear hbr y2
      obtain ⟨hpn, hnw, -⟩ := hgo a2.1
      have hz := hkq a2.1
      cases kq with
      | false =>
        have hz : q1 = 0 := hz
        rw [if_pos hz]
        exact (WG_eq hrb hnw hpn e2).trans (mG_eq q0 e2 P O pn)
      | true =>
        obtain ⟨rfl, hp16, hO⟩ := hhd rfl
        rw [if_neg (by rw [hz]; decide)]
        exact WP_eq hrb hnw hpn hp16 hO e2
    · rcases x with x | x
      · exact absurd x.2 (fun q => q.elim a1.1 (fun z => z a1.2))
      · exact absurd x.1 (by decide)
    · rcases x with x | x
      · exact absurd x.1 (by decide)
      · have := hcan.mpr a2
        rw [this] at x
        exact absurd x.2.2 (by decide)
theorem R_best {v k b : Int32} {kq : Bool} {hp : Nat} {u : QS × (Nat → Int64)} {w : MS} (h : RelE q0 q1 q2 q3 q4 q5 q6 q7 q8 q9 q10 bk pn hd ph ot wi ik P O K) (hkq : ¬ ph = 2 → ph = zb kq) (hhd : kq = true → hd = nI hp ∧ hp < 16 ∧ O hp = 0) (h1 : PL_best q0 q1 q2 q3 q4 q5 q6 q7 q8 q9 q10 v hp k u) (h2 : P_X1_best bk pn hd ph ot wi ik th P O K kd lf ch be gi mr v kq hp b w) : Same k b u w := by
  obtain ⟨u1, u2⟩ := u
  have h0 := h
  obtain ⟨⟨rfl, hbk⟩, ⟨rfl, hph⟩, ⟨rfl, hot⟩, rfl, rfl, rfl, hrb, hone, hgo, hk⟩ := h
  have hcan := can_iff hrb (st := q1) (np := v)
  rcases h2 with ⟨a1, rfl, rfl⟩ | ⟨a1, a2, rfl, rfl⟩ | ⟨a1, a2, z, kd2, lf2, ch2, be2, gi2, hz16, hze, hzl, rfl, rfl⟩
  · rcases h1 with ⟨rfl, x, y, -⟩ | ⟨rfl, x, rfl⟩ | ⟨rfl, x, rfl⟩
    · exact absurd a1 (fun q => q.elim y.1.1.1 (fun z => z y.1.1.2))
    · exact ⟨rfl, fun q => absurd q (by decide), pn, rfl, h0⟩
    · rcases x with x | x
      · exact absurd x.1 (by decide)
      · exact absurd a1 (fun q => q.elim x.2.1.1 (fun z => z x.2.1.2))
  · rcases h1 with ⟨rfl, x, y, -⟩ | ⟨rfl, x, rfl⟩ | ⟨rfl, x, rfl⟩
    · have := hcan.mp y.1.2
      exact absurd a2 (fun q => q.elim this.1 this.2)
    · rcases x with x | x
      · exact absurd x.2 (fun q => q.elim a1.1 (fun z => z a1.2))
      · exact absurd x.1 (by decide)
    · exact ⟨rfl, fun q => absurd q (by decide), pn, rfl, h0⟩
  · obtain ⟨e1, e2, e3⟩ := zplac a1.1 a1.2
    rcases h1 with ⟨rfl, x, ⟨y1, rfl, rfl⟩, y2⟩ | ⟨rfl, x, rfl⟩ | ⟨rfl, x, rfl⟩
    · refine ⟨rfl, fun _ => y2.trans ?_, pn, rfl, h0⟩
      refine congrArg Int32.toInt64 ?_
      obtain ⟨hpn, hnw, -⟩ := hgo a2.1
      have hz := hkq a2.1
      cases kq with
      | false =>
        have hz : q1 = 0 := hz
        rw [if_pos hz, bp_eq hrb hnw hpn e2 hz16 hze hzl]
      | true =>
        obtain ⟨rfl, hp16, hO⟩ := hhd rfl
        rw [if_neg (by rw [hz]; decide), bs_eq hrb hnw hpn hp16 hO e2 hz16 hze hzl]
    · rcases x with x | x
      · exact absurd x.2 (fun q => q.elim a1.1 (fun z => z a1.2))
      · exact absurd x.1 (by decide)
    · rcases x with x | x
      · exact absurd x.1 (by decide)
      · have := hcan.mpr a2
        rw [this] at x
        exact absurd x.2.2 (by decide)
theorem R_isAlike {k b : Int32} {u : QS × (Nat → Int64)} {w : MS} (h : RelE q0 q1 q2 q3 q4 q5 q6 q7 q8 q9 q10 bk pn hd ph ot wi ik P O K) (h1 : PL_isAlike q0 q1 q2 q3 q4 q5 q6 q7 q8 q9 q10 k u) (h2 : P_X1_isAlike bk pn hd ph ot wi ik th P O K kd lf ch be gi mr b w) : Same k b u w ∧ ∃ bb, b = zb bb := by
  obtain ⟨u1, u2⟩ := u
  have h0 := h
  obtain ⟨⟨rfl, hbk⟩, ⟨rfl, hph⟩, ⟨rfl, hot⟩, rfl, rfl, rfl, hrb, hone, hgo, hk⟩ := h
  rcases h2 with ⟨a1, rfl, rfl⟩ | ⟨a1, mr2, rfl, rfl⟩
  · rcases h1 with ⟨rfl, x, y, -⟩ | ⟨rfl, x, rfl⟩
    · exact absurd a1 y.1
    · exact ⟨⟨rfl, fun q => absurd q (by decide), pn, rfl, h0⟩, false, rfl⟩
  · rcases h1 with ⟨rfl, x, ⟨y1, rfl, rfl⟩, y2⟩ | ⟨rfl, x, rfl⟩
    · refine ⟨⟨rfl, fun _ => y2.trans ?_, pn, rfl, h0⟩, _, rfl⟩
      rw [alike_eq hrb.1 (hk a1)]
    · exact absurd x.2 a1
theorem cntv_all {F : Nat → Int32} {v : Int32} (h : ∀ s, s < 16 → F s = v) : ∀ k, k ≤ 16 → cntv F v k = k
  | 0, _ => rfl
  | k + 1, hk => by rw [cntv, cntv_all h k (by omega), if_pos (h k (by omega))]
theorem RB_0 {P O : Nat → Int32} (hP : ∀ s, s < 16 → P s = -1) (hO : ∀ s, s < 16 → O s = 0) : RB P O 0 0 0 0 := by
  refine ⟨⟨fun s hs => Or.inl (hP s hs), fun s hs => ?_, by decide, fun m hm s hs => ?_⟩, fun p hp => Or.inl ⟨hO p hp, fun s hs q => ?_⟩, fun p hp => ?_, ?_, ?_⟩
  · rw [qHas_0 s hs, hP s hs]; rfl
  · rw [qHas_bv _ hs, qOne_bit _ hm hs, hP s hs, pbit_1, show (0 : Int64).toBitVec = 0#64 from rfl]
    exact BitVec.getLsbD_zero
  · rw [hP s hs] at q
    exact nI_n1 p hp q.symm
  · rw [qHas_0 p hp, hO p hp]; rfl
  · rw [cntv_all hP 16 (Nat.le_refl 16)]
  · rw [cntv_all hO 16 (Nat.le_refl 16)]
theorem NW_0 {w : Int32} {P : Nat → Int32} (hP : ∀ s, s < 16 → P s = -1) : NW w P := by
  intro l hl q
  have hl19 : l < 19 := by have := (mMany_le w).2; omega
  have a := ful_e P l
  have g : ∀ k, k < 4 → em P l k = true := fun k hk => decide_eq_true (hP _ (sqr_lt l hl19 k hk))
  rw [g 0 (by decide), g 1 (by decide), g 2 (by decide), g 3 (by decide), q.1] at a
  exact absurd a (by decide)
theorem KB_congr {P R : Nat → Int32} {f : Int32} {d : Int64} (h : KB P f d) (e : ∀ s, s < 16 → R s = P s) : KB R f d := by
  obtain ⟨a, b, c, x⟩ := h
  exact ⟨fun s hs => by rw [e s hs]; exact a s hs, fun s hs => by rw [e s hs]; exact b s hs, c, fun m hm s hs => by rw [e s hs]; exact x m hm s hs⟩
theorem R_begin {bb : Bool} {r b : Int32} {u : QS} {w : MS} (h : RelE q0 q1 q2 q3 q4 q5 q6 q7 q8 q9 q10 bk pn hd ph ot wi ik P O K) (h1 : P_X0_begin q0 q1 q2 q3 q4 q5 q6 q7 q8 q9 q10 bb r u) (h2 : P_X1_begin bk pn hd ph ot wi ik th P O K kd lf ch be gi mr bb b w) : r = b ∧ RelT u w := by
  obtain ⟨⟨rfl, hbk⟩, ⟨rfl, hph⟩, ⟨rfl, hot⟩, rfl, rfl, rfl, hrb, hone, hgo, hk⟩ := h
  obtain ⟨rfl, rfl⟩ := h1
  obtain ⟨rfl, rfl⟩ := h2
  have hP : ∀ s, s < 16 → filN P (-1) 16 s = -1 := fun s hs => if_pos hs
  have hO : ∀ s, s < 16 → filN O 0 16 s = 0 := fun s hs => if_pos hs
  refine ⟨RB_bc hrb, 0, rfl, ⟨rfl, ?_⟩, ⟨rfl, by decide⟩, ⟨rfl, by decide⟩, rfl, rfl, rfl, RB_0 hP hO, fun q => absurd q (by decide), fun _ => ⟨by decide, NW_0 hP, rfl⟩, hk⟩
  cases bb
  · exact Or.inl rfl
  · exact Or.inr rfl
theorem R_phase {r b : Int32} {u : QS} {w : MS} (h : RelE q0 q1 q2 q3 q4 q5 q6 q7 q8 q9 q10 bk pn hd ph ot wi ik P O K) (h1 : P_X0_phase q0 q1 q2 q3 q4 q5 q6 q7 q8 q9 q10 r u) (h2 : P_X1_phase bk pn hd ph ot wi ik th P O K kd lf ch be gi mr b w) : r = b ∧ RelT u w := by
  obtain ⟨rfl, rfl⟩ := h1
  obtain ⟨rfl, rfl⟩ := h2
  exact ⟨h.2.1.1, pn, rfl, h⟩
theorem R_onTurn {r b : Int32} {u : QS} {w : MS} (h : RelE q0 q1 q2 q3 q4 q5 q6 q7 q8 q9 q10 bk pn hd ph ot wi ik P O K) (h1 : P_X0_onTurn q0 q1 q2 q3 q4 q5 q6 q7 q8 q9 q10 r u) (h2 : P_X1_onTurn bk pn hd ph ot wi ik th P O K kd lf ch be gi mr b w) : r = b ∧ RelT u w := by
  obtain ⟨rfl, rfl⟩ := h1
  obtain ⟨rfl, rfl⟩ := h2
  exact ⟨h.2.2.1.1, pn, rfl, h⟩
theorem R_hand {r b : Int32} {u : QS} {w : MS} (h : RelE q0 q1 q2 q3 q4 q5 q6 q7 q8 q9 q10 bk pn hd ph ot wi ik P O K) (h1 : P_X0_hand q0 q1 q2 q3 q4 q5 q6 q7 q8 q9 q10 r u) (h2 : P_X1_hand bk pn hd ph ot wi ik th P O K kd lf ch be gi mr b w) : r = b ∧ RelT u w := by
  obtain ⟨rfl, rfl⟩ := h1
  obtain ⟨rfl, rfl⟩ := h2
  exact ⟨h.2.2.2.1, pn, rfl, h⟩
theorem R_placed {r b : Int32} {u : QS} {w : MS} (h : RelE q0 q1 q2 q3 q4 q5 q6 q7 q8 q9 q10 bk pn hd ph ot wi ik P O K) (h1 : P_X0_placed q0 q1 q2 q3 q4 q5 q6 q7 q8 q9 q10 r u) (h2 : P_X1_placed bk pn hd ph ot wi ik th P O K kd lf ch be gi mr b w) : r = b ∧ RelT u w := by
  obtain ⟨rfl, rfl⟩ := h1
  obtain ⟨rfl, rfl⟩ := h2
  exact ⟨RB_bc h.2.2.2.2.2.2.1, pn, rfl, h⟩
theorem R_winner {r b : Int32} {u : QS} {w : MS} (h : RelE q0 q1 q2 q3 q4 q5 q6 q7 q8 q9 q10 bk pn hd ph ot wi ik P O K) (h1 : P_X0_winner q0 q1 q2 q3 q4 q5 q6 q7 q8 q9 q10 r u) (h2 : P_X1_winner bk pn hd ph ot wi ik th P O K kd lf ch be gi mr b w) : r = b ∧ RelT u w := by
  obtain ⟨rfl, rfl⟩ := h1
  obtain ⟨rfl, rfl⟩ := h2
  exact ⟨h.2.2.2.2.1, pn, rfl, h⟩
theorem R_lines {r b : Int32} {u : QS} {w : MS} (h : RelE q0 q1 q2 q3 q4 q5 q6 q7 q8 q9 q10 bk pn hd ph ot wi ik P O K) (h1 : P_X0_lines q0 q1 q2 q3 q4 q5 q6 q7 q8 q9 q10 r u) (h2 : P_X1_lines bk pn hd ph ot wi ik th P O K kd lf ch be gi mr b w) : r = b ∧ RelT u w := by
  obtain ⟨rfl, rfl⟩ := h1
  obtain ⟨rfl, rfl⟩ := h2
  refine ⟨?_, pn, rfl, h⟩
  rw [h.1.1]
  rfl
theorem R_keep {r b : Int32} {u : QS} {w : MS} (h : RelE q0 q1 q2 q3 q4 q5 q6 q7 q8 q9 q10 bk pn hd ph ot wi ik P O K) (h1 : P_X0_keep q0 q1 q2 q3 q4 q5 q6 q7 q8 q9 q10 r u) (h2 : P_X1_keep bk pn hd ph ot wi ik th P O K kd lf ch be gi mr b w) : r = b ∧ RelT u w := by
  obtain ⟨a1, a2, a3, a4, a5, a6, hrb, hone, hgo, hk⟩ := h
  obtain ⟨rfl, rfl⟩ := h1
  obtain ⟨rfl, rfl⟩ := h2
  exact ⟨RB_bc hrb, pn, rfl, a1, a2, a3, a4, a5, rfl, hrb, hone, hgo, fun _ => KB_congr hrb.1 (fun s hs => if_pos hs)⟩
theorem R_symmetries {r b : Int32} {u : QS} {w : MS} (h : RelE q0 q1 q2 q3 q4 q5 q6 q7 q8 q9 q10 bk pn hd ph ot wi ik P O K) (h1 : P_X0_symmetries q0 q1 q2 q3 q4 q5 q6 q7 q8 q9 q10 r u) (h2 : P_X1_symmetries bk pn hd ph ot wi ik th P O K kd lf ch be gi mr b w) : r = b ∧ RelT u w := by
  obtain ⟨rfl, rfl⟩ := h1
  obtain ⟨mr2, rfl, rfl⟩ := h2
  exact ⟨sym_eq h.2.2.2.2.2.2.1.1 h.2.2.2.2.2.2.1.1, pn, rfl, h⟩
theorem R_thrown {b : Int32} {u : QS} {w w2 : MS} {pl : Int32} (h : RelT u (bk, pl, hd, ph, ot, wi, ik, th, P, O, K, kd, lf, ch, be, gi, mr)) : ∃ pn : Nat, pl = nI pn := by
  obtain ⟨q0, q1, q2, q3, q4, q5, q6, q7, q8, q9, q10⟩ := u
  obtain ⟨pn, e, _⟩ := h
  exact ⟨pn, e⟩
end RM
