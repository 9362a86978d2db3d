/-! small rows over numbers, the static row of lines, the two worlds -/
theorem zn_eqt {a b : Nat} (ha : a < 2 ^ 31) (hb : b < 2 ^ 31) (c : nI a = nI b) : a = b := (nI_eq ha hb).mp c
theorem zn_eqn {a b : Nat} (ha : a < 2 ^ 31) (hb : b < 2 ^ 31) (c : ¬ nI a = nI b) : ¬ a = b := fun q => c ((nI_eq ha hb).mpr q)
theorem zn_ltt {a b : Nat} (ha : a < 2 ^ 31) (hb : b < 2 ^ 31) (c : nI a < nI b) : a < b := (nI_ltI ha hb).mp c
theorem zn_ltn {a b : Nat} (ha : a < 2 ^ 31) (hb : b < 2 ^ 31) (c : ¬ nI a < nI b) : ¬ a < b := fun q => c ((nI_ltI ha hb).mpr q)
theorem zn_let {a b : Nat} (ha : a < 2 ^ 31) (hb : b < 2 ^ 31) (c : nI a ≤ nI b) : a ≤ b := (nI_leI ha hb).mp c
theorem zn_len {a b : Nat} (ha : a < 2 ^ 31) (hb : b < 2 ^ 31) (c : ¬ nI a ≤ nI b) : ¬ a ≤ b := fun q => c ((nI_leI ha hb).mpr q)
theorem zi_inc (k : Nat) : nI k + Int32.ofInt 1 = nI (k + 1) := nI_1 k
theorem zi_incn (k n : Nat) {j : Int} (h : Int32.ofInt j = nI n) : nI k + Int32.ofInt j = nI (k + n) := by rw [h, nI_add]
def zb (b : Bool) : Int32 := if b then 1 else 0
theorem zb_t {b : Bool} (h : b = true) : zb b = 1 := by rw [h]; rfl
theorem zb_f {b : Bool} (h : ¬ b = true) : zb b = 0 := by
  cases b
  · rfl
  · exact absurd rfl h
theorem zb_0 {b : Bool} : zb b = 0 ↔ b = false := by cases b <;> simp [zb]
theorem zb_n0 {b : Bool} : ¬ zb b = 0 ↔ b = true := by cases b <;> simp [zb]
theorem zb_nar (b : Bool) : narrow .boolean (.int (zb b)) = .int (zb b) := by cases b <;> rfl
theorem zb_fit (b : Bool) : fits .boolean (.int (zb b)) = true := by cases b <;> rfl
/-- the lines, as the class holds them -/
def LMl : List Int32 := [15, 240, 3840, 61440, 4369, 8738, 17476, 34952, 33825, 4680, 51, 102, 204, 816, 1632, 3264, 13056, 26112, 52224]
def LM (k : Nat) : Int32 := LMl.getD k 0
abbrev eIO : String := "java/lang/IndexOutOfBoundsException"
abbrev eIS : String := "java/lang/IllegalStateException"
abbrev eIA : String := "java/lang/IllegalArgumentException"
/-- what a throw asks of the tables beside the words that stay by themselves -/
def zXB : List Cond := [.castable eIO eIO, .castable eIS eIS, .castable eIA eIA, .declares (Bundle.initS "java/lang/RuntimeException"), .declares (Bundle.initS "java/lang/Exception"), .declares (Bundle.initS Bundle.tN)]
def zTx : List (Nat × String) := [(48, "no such piece"), (55, "no piece is to be given"), (62, "the piece is on the board"), (64, "no such square"), (66, "no piece is in the hand"), (68, "the square is not empty"), (90, "no such line"), (95, "the game is over"), (105, "placings is out of range"), (111, "the game is over, or too many squares are empty"), (135, "no board is kept")]
def zNc : List (String × String) := [(eIS, eIO), (eIS, eIA), (eIA, eIO)]
theorem zXB_tab : ∀ w ∈ zXB, w.onTables = true := by decide +kernel
theorem zXB_moved {args : Array Value} {s U : State} (hvm : s.vm.Alike U.vm) {w : Cond} (hw : w ∈ zXB) (h : w.before args s = true) : w.before #[] U = true := by
  have h2 : w.before args (s.setVm U.vm) = true := by
    simp only [zXB, List.mem_cons, List.not_mem_nil, or_false] at hw
    rcases hw with rfl | rfl | rfl | rfl | rfl | rfl <;> first | (rw [Cond.castable_setVm hvm]; exact h) | (rw [Cond.declares_setVm hvm]; exact h)
  exact va_tabs (u := s.setVm U.vm) (zXB_tab w hw) rfl h2
def zEL (bL : Nat) : zEt := fun A U => va_Z "Quarterboard" "LINES" "[I" (.ref bL) A U U.heap ∧ va_T .int bL 19 (fun j => .int (LM j)) A U U.heap ∧ (∀ w ∈ zXB, w.before #[] U = true) ∧ (∀ q ∈ zTx, ∃ sa, vk_R "Quarterboard" q.1 q.2 sa U) ∧ vx_Zq Bundle.tN "UNASSIGNED_STACK" Bundle.steD A U U.heap ∧ vx_Zq Bundle.tN "SUPPRESSED_SENTINEL" Bundle.listD A U U.heap ∧ (∀ q ∈ zNc, va_Nc q.1 q.2 U)
theorem zStL {bL : Nat} : zSt (zEL bL) := by
  intro A B s U h hB hW hq
  obtain ⟨h1, h2, h3, h4, h5, h6, h7⟩ := h
  have hvm := hW.alike
  refine ⟨((va_Z.moved hvm h1).kept (fun a h1 h2 => hq a h1 h2)).narrow hB, ((va_T.moved hvm h2).kept (fun a h1 h2 => hq a h1 h2)).narrow hB, fun w hw => zXB_moved hvm hw (h3 w hw), fun q hw => ?_, ((vx_Zq.moved hvm h5).kept (fun a h1 h2 => hq a h1 h2)).narrow hB, ((vx_Zq.moved hvm h6).kept (fun a h1 h2 => hq a h1 h2)).narrow hB, fun q hw => va_Nc.moved hvm (h7 q hw)⟩
  obtain ⟨sa, hsa⟩ := h4 q hw
  exact ⟨sa, vk_R.warm hW hsa⟩
section ZV
variable {p : Program} {l : Launch} {e : Env} {R : Room} {s : State} {m : MethodId} {args : Array Value} {below : List Frame} {meth : Method} {c : Code} {H : Heap} {locs : List Loc} {cells slots : Nat} {Q : State → Prop}
variable {cc : ByteArray} {nL : Nat} {Ts : List Cond} {own : String} {g : zG} {A : Nat → Prop} {pc : Nat} {ls : Array Slot} {rest : List Value} {ws : va_W}
theorem zrwi {x y : Int32} (h : x = y) (k : W p l e R s m args below meth c H locs cells slots Q (F0 m pc ls (.int y :: rest))) : W p l e R s m args below meth c H locs cells slots Q (F0 m pc ls (.int x :: rest)) := h ▸ k
theorem zrwl {x y : Int64} (h : x = y) (k : W p l e R s m args below meth c H locs cells slots Q (F0 m pc ls (.long y :: rest))) : W p l e R s m args below meth c H locs cells slots Q (F0 m pc ls (.long x :: rest)) := h ▸ k
theorem zlld {bL : Nat} {x : Int32} (Z : zc p m c cc nL s args Ts own g A (zEL bL)) (X : zh g A ws s.heap H locs) (k : Nat) (hx : x = nI k) (hk : k < 19) (hdg : decode cc pc = .ok (.iaload, 1))
    (kk : W p l e R s m args below meth c H locs cells slots Q (F0 m (pc + 1) ls (.int (LM k) :: rest))) : W p l e R s m args below meth c H locs cells slots Q (F0 m pc ls (.int x :: .ref bL :: rest)) := by
  subst hx
  refine va_ti (v := .int (LM k)) Z.1.1 Z.1.2.1 Z.2.2.2.1.2.1 X.2.2 (vp_in_nI hk (by decide)) ?_ hdg kk
  show Value.int (LM (nI k).toNatClampNeg) = _
  rw [nI_clamp (by omega)]
end ZV
abbrev QS : Type := Int32 × Int32 × Int32 × Int32 × Int32 × Int32 × Int32 × Int64 × Int32 × Int32 × Int64
abbrev oQ (h : Nat) (u : QS) : va_W := match u with
  | (q0, q1, q2, q3, q4, q5, q6, q7, q8, q9, q10) => [(h, .inr (0, [.int q0, .int q1, .int q2, .int q3, .int q4, .int q5, .int q6, .long q7, .int q8, .int q9, .long q10]))]
