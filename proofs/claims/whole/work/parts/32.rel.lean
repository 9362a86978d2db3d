/-! what holds between the class and the twin, and that each call keeps it -/
def RelE (q0 q1 q2 q3 q4 q5 q6 : Int32) (q7 : Int64) (q8 q9 : Int32) (q10 : Int64) (bk : Int32) (pn : Nat) (hd ph ot wi ik : Int32) (P O K : Nat → Int32) : Prop :=
  (q0 = bk ∧ (bk = 0 ∨ bk = 1)) ∧ (q1 = ph ∧ (ph = 0 ∨ ph = 1 ∨ ph = 2)) ∧ (q2 = ot ∧ (ot = 0 ∨ ot = 1)) ∧ q3 = hd ∧ q4 = wi ∧ q8 = ik ∧ RB P O pn q5 q6 q7 ∧ (ph = 1 → ∃ p, p < 16 ∧ hd = nI p ∧ O p = 0) ∧ (¬ ph = 2 → pn < 16 ∧ NW bk P ∧ wi = -1) ∧ (¬ ik = 0 → KB K q9 q10)
def RelT (u : QS) (w : MS) : Prop := match u, w with
  | (q0, q1, q2, q3, q4, q5, q6, q7, q8, q9, q10), (bk, pl, hd, ph, ot, wi, ik, _, P, O, K, _, _, _, _, _, _) => ∃ pn : Nat, pl = nI pn ∧ RelE q0 q1 q2 q3 q4 q5 q6 q7 q8 q9 q10 bk pn hd ph ot wi ik P O K
def thw (w : MS) : Int32 := match w with
  | (_, _, _, _, _, _, _, th, _, _, _, _, _, _, _, _, _) => th
section RL
variable {q0 q1 q2 q3 q4 q5 q6 : Int32} {q7 : Int64} {q8 q9 : Int32} {q10 : Int64} {bk : Int32} {pn : Nat} {hd ph ot wi ik th : Int32} {P O K kd lf ch be gi mr : Nat → Int32}
theorem KB_inv {P : Nat → Int32} {f : Int32} {d : Int64} (h : KB P f d) : qInv f d := by
  intro s hs hf
  rw [← Int64.toBitVec_inj]
  apply BitVec.eq_of_getLsbD_eq
  intro j hj
  rw [Int64.toBitVec_and, BitVec.getLsbD_and, show (0 : Int64).toBitVec = 0#64 from rfl, BitVec.getLsbD_zero]
  unfold qEach
  rw [sl_bit (sl_e s hs) (by omega) hj, each_bit _ (by omega)]
  have hP : P s = -1 := by
    have := h.2.1 s hs
    rw [hf] at this
    exact Classical.not_not.mp (of_decide_eq_false this.symm)
  by_cases c : j < s
  · rw [decide_eq_true c]; simp
  · by_cases c2 : (j - s) % 16 = 0
    · have e : j = 16 * ((j - s) / 16) + s := by omega
      have := KB_bit h (m := (j - s) / 16) (by omega) hs
      rw [← e, hP, pbit_1] at this
      rw [this]; simp
    · rw [decide_eq_false c2]; simp
theorem rnum {v : Int32} (h : mIn v 16 = true) : v = nI v.toNatClampNeg ∧ v.toNatClampNeg < 16 := by
  unfold mIn at h
  rw [Bool.and_eq_true, decide_eq_true_eq, decide_eq_true_eq] at h
  exact ⟨zclamp h.1, zclamp_lt h.1 (by decide) (fun q => Int32.not_le.mpr h.2 q)⟩
/-- a kind of answer with an exception's number -/
def Same (k b : Int32) (u : QS × (Nat → Int64)) (w : MS) : Prop := thw w = k ∧ (k = 0 → u.2 0 = b.toInt64) ∧ RelT u.1 w
theorem R_give {v k b : Int32} {u : QS × (Nat → Int64)} {w : MS} (h : RelE q0 q1 q2 q3 q4 q5 q6 q7 q8 q9 q10 bk pn hd ph ot wi ik P O K) (h1 : PL_give q0 q1 q2 q3 q4 q5 q6 q7 q8 q9 q10 v k u) (h2 : P_X1_give bk pn hd ph ot wi ik th P O K kd lf ch be gi mr v b w) : Same k b u w := by
  obtain ⟨u1, u2⟩ := u
  have h0 := h
  obtain ⟨⟨rfl, hbk⟩, ⟨rfl, hph⟩, ⟨rfl, hot⟩, rfl, rfl, rfl, hrb, hone, hgo, hk⟩ := h
  have hnum := num_in v
  rcases h2 with ⟨a1, rfl, rfl⟩ | ⟨⟨a1, a2⟩, rfl, rfl⟩ | ⟨⟨a1, a2, a3⟩, rfl, rfl⟩
  · rw [a1] at hnum
    rcases h1 with ⟨rfl, x, y, -⟩ | ⟨rfl, x, rfl⟩ | ⟨rfl, x, rfl⟩
    · exact absurd (hnum.symm.trans y.1.1) (by decide)
    · exact ⟨rfl, fun q => absurd q (by decide), pn, rfl, h0⟩
    · rcases x with x | x
      · exact absurd x.1 (by decide)
      · exact absurd (hnum.symm.trans x.2.1) (by decide)
  · have hv := rnum a1
    rw [a1] at hnum
    have hu := RB_u hrb hv.2
    rw [← hv.1] at hu
    rcases h1 with ⟨rfl, x, y, -⟩ | ⟨rfl, x, rfl⟩ | ⟨rfl, x, rfl⟩
    · rcases a2 with a2 | a2
      · exact absurd y.1.2.1 a2
      · exact absurd (hu.mp y.1.2.2) a2
    · rcases x with x | x
      · exact absurd (hnum.symm.trans x.2) (by decide)
      · exact absurd x.1 (by decide)
    · exact ⟨rfl, fun q => absurd q (by decide), pn, rfl, h0⟩
  · have hv := rnum a1
    rw [a1] at hnum
    have hu := RB_u hrb hv.2
    rw [← hv.1] at hu
    rcases h1 with ⟨rfl, x, ⟨y1, rfl, rfl⟩, y2⟩ | ⟨rfl, x, rfl⟩ | ⟨rfl, x, rfl⟩
    · refine ⟨rfl, fun _ => y2, pn, rfl, ⟨rfl, hbk⟩, ⟨rfl, by decide⟩, ⟨rfl, ?_⟩, rfl, rfl, rfl, hrb, fun _ => ⟨_, hv.2, hv.1, a3⟩, fun _ => hgo (by rw [a2]; decide), hk⟩
      rcases hot with rfl | rfl
      · exact Or.inr (by decide)
      · exact Or.inl (by decide)
    · rcases x with x | x
      · exact absurd (hnum.symm.trans x.2) (by decide)
      · exact absurd x.1 (by decide)
    · rcases x with x | x
      · exact absurd x.1 (by decide)
      · rcases x.2.2 with z | z
        · exact absurd a2 z
        · rw [hu.mpr a3] at z; cases z
theorem R_winning {v k b : Int32} {u : QS × (Nat → Int64)} {w : MS} (h : RelE q0 q1 q2 q3 q4 q5 q6 q7 q8 q9 q10 bk pn hd ph ot wi ik P O K) (h1 : PL_winning q0 q1 q2 q3 q4 q5 q6 q7 q8 q9 q10 v k u) (h2 : P_X1_winning bk pn hd ph ot wi ik th P O K kd lf ch be gi mr v b w) : Same k b u w := by
  obtain ⟨u1, u2⟩ := u
  have h0 := h
  obtain ⟨⟨rfl, hbk⟩, ⟨rfl, hph⟩, ⟨rfl, hot⟩, rfl, rfl, rfl, hrb, hone, hgo, hk⟩ := h
  have hnum := num_in v
  rcases h2 with ⟨a1, rfl, rfl⟩ | ⟨⟨a1, a2⟩, rfl, rfl⟩ | ⟨⟨a1, a2, a3⟩, rfl, rfl⟩
  · rw [a1] at hnum
    rcases h1 with ⟨rfl, x, y, -⟩ | ⟨rfl, x, rfl⟩ | ⟨rfl, x, rfl⟩
    · exact absurd (hnum.symm.trans y.1.1) (by decide)
    · exact ⟨rfl, fun q => absurd q (by decide), pn, rfl, h0⟩
    · rcases x with x | x
      · exact absurd x.1 (by decide)
      · exact absurd (hnum.symm.trans x.2.1) (by decide)
  · have hv := rnum a1
    rw [a1] at hnum
    have hu := RB_u hrb hv.2
    rw [← hv.1] at hu
    rcases h1 with ⟨rfl, x, y, -⟩ | ⟨rfl, x, rfl⟩ | ⟨rfl, x, rfl⟩
    · rcases a2 with a2 | a2
      · exact absurd (hu.mp y.1.2.2) a2
      · exact absurd a2 y.1.2.1
    · rcases x with x | x
      · exact absurd (hnum.symm.trans x.2) (by decide)
      · exact absurd x.1 (by decide)
    · exact ⟨rfl, fun q => absurd q (by decide), pn, rfl, h0⟩
  · have hv := rnum a1
    rw [a1] at hnum
    have hu := RB_u hrb hv.2
    rw [← hv.1] at hu
    rcases h1 with ⟨rfl, x, ⟨y1, rfl, rfl⟩, y2⟩ | ⟨rfl, x, rfl⟩ | ⟨rfl, x, rfl⟩
    · refine ⟨rfl, fun _ => y2.trans ?_, pn, rfl, h0⟩
      have e : qWin q5 q7 q0 v = mWinS q0 P v.toNatClampNeg 16 := by
        have e := win_eq (w := q0) hrb.1 hv.2
        rw [← hv.1] at e
        exact e
      rw [e]
    · rcases x with x | x
      · exact absurd (hnum.symm.trans x.2) (by decide)
      · exact absurd x.1 (by decide)
    · rcases x with x | x
      · exact absurd x.1 (by decide)
      · rcases x.2.2 with z | z
        · exact absurd z a3
        · rw [hu.mpr a2] at z; cases z
theorem R_pieceAt {v k b : Int32} {u : QS × (Nat → Int64)} {w : MS} (h : RelE q0 q1 q2 q3 q4 q5 q6 q7 q8 q9 q10 bk pn hd ph ot wi ik P O K) (h1 : PL_pieceAt q0 q1 q2 q3 q4 q5 q6 q7 q8 q9 q10 v k u) (h2 : P_X1_pieceAt bk pn hd ph ot wi ik th P O K kd lf ch be gi mr v b w) : Same k b u w := by
  obtain ⟨u1, u2⟩ := u
  have h0 := h
  obtain ⟨⟨rfl, hbk⟩, ⟨rfl, hph⟩, ⟨rfl, hot⟩, rfl, rfl, rfl, hrb, hone, hgo, hk⟩ := h
  have hnum := num_in v
  rcases h2 with ⟨a1, rfl, rfl⟩ | ⟨a1, rfl, rfl⟩
  · rw [a1] at hnum
    rcases h1 with ⟨rfl, x, y, -⟩ | ⟨rfl, x, rfl⟩
    · exact absurd (hnum.symm.trans y.1) (by decide)
    · exact ⟨rfl, fun q => absurd q (by decide), pn, rfl, h0⟩
  · have hv := rnum a1
    rw [a1] at hnum
    rcases h1 with ⟨rfl, x, ⟨y1, rfl, rfl⟩, y2⟩ | ⟨rfl, x, rfl⟩
    · refine ⟨rfl, fun _ => y2.trans ?_, pn, rfl, h0⟩
      have e := at_eq hrb.1 hv.2
      rw [← hv.1] at e
      rw [e]
    · exact absurd (hnum.symm.trans x.2) (by decide)
theorem lnum {v : Int32} {w : Int32} (h : ¬ v < 0 ∧ ¬ nI (qLn w) ≤ v) : v.toNatClampNeg < 19 := by
  have := zclamp_lt h.1 (n := qLn w) (by have := (qLn_le w).2; omega) h.2
  have := (qLn_le w).2
  omega
theorem R_onLine {v k b : Int32} {u : QS × (Nat → Int64)} {w : MS} (h : RelE q0 q1 q2 q3 q4 q5 q6 q7 q8 q9 q10 bk pn hd ph ot wi ik P O K) (h1 : PL_onLine q0 q1 q2 q3 q4 q5 q6 q7 q8 q9 q10 v k u) (h2 : P_X1_onLine bk pn hd ph ot wi ik th P O K kd lf ch be gi mr v b w) : Same k b u w := by
  obtain ⟨u1, u2⟩ := u
  have h0 := h
  obtain ⟨⟨rfl, hbk⟩, ⟨rfl, hph⟩, ⟨rfl, hot⟩, rfl, rfl, rfl, hrb, hone, hgo, hk⟩ := h
  have hnum := ln_in v q0
  rcases h2 with ⟨a1, rfl, rfl⟩ | ⟨a1, rfl, rfl⟩
  · rcases h1 with ⟨rfl, x, y, -⟩ | ⟨rfl, x, rfl⟩
    · exact absurd (a1.symm.trans (hnum.mpr y.1)) (by decide)
    · exact ⟨rfl, fun q => absurd q (by decide), pn, rfl, h0⟩
  · have hv := hnum.mp a1
    rcases h1 with ⟨rfl, x, ⟨y1, rfl, rfl⟩, y2⟩ | ⟨rfl, x, rfl⟩
    · refine ⟨rfl, fun _ => y2.trans ?_, pn, rfl, h0⟩
      rw [ln_many hrb.1 (lnum hv)]
    · exact absurd x.2 (fun q => q.elim hv.1 hv.2)
theorem R_shared {v k b : Int32} {u : QS × (Nat → Int64)} {w : MS} (h : RelE q0 q1 q2 q3 q4 q5 q6 q7 q8 q9 q10 bk pn hd ph ot wi ik P O K) (h1 : PL_shared q0 q1 q2 q3 q4 q5 q6 q7 q8 q9 q10 v k u) (h2 : P_X1_shared bk pn hd ph ot wi ik th P O K kd lf ch be gi mr v b w) : Same k b u w := by
  obtain ⟨u1, u2⟩ := u
  have h0 := h
  obtain ⟨⟨rfl, hbk⟩, ⟨rfl, hph⟩, ⟨rfl, hot⟩, rfl, rfl, rfl, hrb, hone, hgo, hk⟩ := h
  have hnum := ln_in v q0
  rcases h2 with ⟨a1, rfl, rfl⟩ | ⟨a1, rfl, rfl⟩
  · rcases h1 with ⟨rfl, x, y, -⟩ | ⟨rfl, x, rfl⟩
    · exact absurd (a1.symm.trans (hnum.mpr y.1)) (by decide)
    · exact ⟨rfl, fun q => absurd q (by decide), pn, rfl, h0⟩
  · have hv := hnum.mp a1
    rcases h1 with ⟨rfl, x, ⟨y1, rfl, rfl⟩, y2⟩ | ⟨rfl, x, rfl⟩
    · refine ⟨rfl, fun _ => y2.trans ?_, pn, rfl, h0⟩
      rw [ln_com hrb.1 (lnum hv)]
    · exact absurd x.2 (fun q => q.elim hv.1 hv.2)
theorem R_safe {k b : Int32} {u : QS × (Nat → Int64)} {w : MS} (h : RelE q0 q1 q2 q3 q4 q5 q6 q7 q8 q9 q10 bk pn hd ph ot wi ik P O K) (h1 : PL_safe q0 q1 q2 q3 q4 q5 q6 q7 q8 q9 q10 k u) (h2 : P_X1_safe bk pn hd ph ot wi ik th P O K kd lf ch be gi mr b w) : Same k b u w := by
  obtain ⟨u1, u2⟩ := u
  have h0 := h
  obtain ⟨⟨rfl, hbk⟩, ⟨rfl, hph⟩, ⟨rfl, hot⟩, rfl, rfl, rfl, hrb, hone, hgo, hk⟩ := h
  rcases h2 with ⟨a1, rfl, rfl⟩ | ⟨a1, rfl, rfl⟩
  · rcases h1 with ⟨rfl, x, y, -⟩ | ⟨rfl, x, rfl⟩
    · exact absurd y.1 a1
    · exact ⟨rfl, fun q => absurd q (by decide), pn, rfl, h0⟩
  · rcases h1 with ⟨rfl, x, ⟨y1, rfl, rfl⟩, y2⟩ | ⟨rfl, x, rfl⟩
    · refine ⟨rfl, fun _ => y2.trans ?_, pn, rfl, h0⟩
      rw [safe_eq hrb]
    · exact absurd a1 x.2
end RL
