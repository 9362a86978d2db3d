section
-- ===== PART A: goes FIRST, ahead of the names: the tables' words, and 'selects' of the private methods out of them =====
/-- a private method of a class that the tables say can be made, by its rows of tables_1 -/
def lw_okq (q : MethodName × Nat) : Prop := (q.1.cls ≠ "java/lang/invoke/MethodHandle" ∧ q.1.cls ≠ "java/lang/invoke/VarHandle") ∧ Cond.instantiable q.1.cls q.2 ∈ tables_1 ∧ Cond.privateMethod q.1 ∈ tables_1 ∧ Cond.instanceMethod q.1 ∈ tables_1
theorem lw_p0 : lw_okq (⟨"Quarterboard", "waysOfMarks", "(IIJ)I"⟩, 11) := ⟨⟨by decide +kernel, by decide +kernel⟩, List.mem_of_getElem? (i := 11) (by decide +kernel), List.mem_of_getElem? (i := 97) (by decide +kernel), List.mem_of_getElem? (i := 98) (by decide +kernel)⟩
theorem lw_p1 : lw_okq (⟨"java/lang/Throwable", "fillInStackTrace", "(I)Ljava/lang/Throwable;"⟩, 6) := ⟨⟨by decide +kernel, by decide +kernel⟩, List.mem_of_getElem? (i := 168) (by decide +kernel), List.mem_of_getElem? (i := 166) (by decide +kernel), List.mem_of_getElem? (i := 167) (by decide +kernel)⟩
theorem lw_p2 : lw_okq (⟨"Quarterboard", "put", "(II)V"⟩, 11) := ⟨⟨by decide +kernel, by decide +kernel⟩, List.mem_of_getElem? (i := 11) (by decide +kernel), List.mem_of_getElem? (i := 228) (by decide +kernel), List.mem_of_getElem? (i := 229) (by decide +kernel)⟩
theorem lw_p3 : lw_okq (⟨"Quarterboard", "wonLines", "()I"⟩, 11) := ⟨⟨by decide +kernel, by decide +kernel⟩, List.mem_of_getElem? (i := 11) (by decide +kernel), List.mem_of_getElem? (i := 238) (by decide +kernel), List.mem_of_getElem? (i := 239) (by decide +kernel)⟩
theorem lw_p4 : lw_okq (⟨"Quarterboard", "inCommon", "(I)I"⟩, 11) := ⟨⟨by decide +kernel, by decide +kernel⟩, List.mem_of_getElem? (i := 11) (by decide +kernel), List.mem_of_getElem? (i := 243) (by decide +kernel), List.mem_of_getElem? (i := 244) (by decide +kernel)⟩
theorem lw_p5 : lw_okq (⟨"Quarterboard", "winningSquares", "(I)I"⟩, 11) := ⟨⟨by decide +kernel, by decide +kernel⟩, List.mem_of_getElem? (i := 11) (by decide +kernel), List.mem_of_getElem? (i := 277) (by decide +kernel), List.mem_of_getElem? (i := 278) (by decide +kernel)⟩
theorem lw_p6 : lw_okq (⟨"Quarterboard", "lacksOne", "(I)Z"⟩, 11) := ⟨⟨by decide +kernel, by decide +kernel⟩, List.mem_of_getElem? (i := 11) (by decide +kernel), List.mem_of_getElem? (i := 284) (by decide +kernel), List.mem_of_getElem? (i := 285) (by decide +kernel)⟩
theorem lw_p7 : lw_okq (⟨"Quarterboard", "safePieces", "()I"⟩, 11) := ⟨⟨by decide +kernel, by decide +kernel⟩, List.mem_of_getElem? (i := 11) (by decide +kernel), List.mem_of_getElem? (i := 295) (by decide +kernel), List.mem_of_getElem? (i := 296) (by decide +kernel)⟩
theorem lw_p8 : lw_okq (⟨"Quarterboard", "winningDigits", "()I"⟩, 11) := ⟨⟨by decide +kernel, by decide +kernel⟩, List.mem_of_getElem? (i := 11) (by decide +kernel), List.mem_of_getElem? (i := 299) (by decide +kernel), List.mem_of_getElem? (i := 300) (by decide +kernel)⟩
theorem lw_p9 : lw_okq (⟨"Quarterboard", "canLookAhead", "(I)Z"⟩, 11) := ⟨⟨by decide +kernel, by decide +kernel⟩, List.mem_of_getElem? (i := 11) (by decide +kernel), List.mem_of_getElem? (i := 327) (by decide +kernel), List.mem_of_getElem? (i := 328) (by decide +kernel)⟩
theorem lw_p10 : lw_okq (⟨"Quarterboard", "worthToGive", "(I)I"⟩, 11) := ⟨⟨by decide +kernel, by decide +kernel⟩, List.mem_of_getElem? (i := 11) (by decide +kernel), List.mem_of_getElem? (i := 332) (by decide +kernel), List.mem_of_getElem? (i := 333) (by decide +kernel)⟩
theorem lw_p11 : lw_okq (⟨"Quarterboard", "giverWins", "(I)Z"⟩, 11) := ⟨⟨by decide +kernel, by decide +kernel⟩, List.mem_of_getElem? (i := 11) (by decide +kernel), List.mem_of_getElem? (i := 336) (by decide +kernel), List.mem_of_getElem? (i := 337) (by decide +kernel)⟩
theorem lw_p12 : lw_okq (⟨"Quarterboard", "placerLoses", "(II)Z"⟩, 11) := ⟨⟨by decide +kernel, by decide +kernel⟩, List.mem_of_getElem? (i := 11) (by decide +kernel), List.mem_of_getElem? (i := 340) (by decide +kernel), List.mem_of_getElem? (i := 341) (by decide +kernel)⟩
theorem lw_p13 : lw_okq (⟨"Quarterboard", "giverLoses", "(I)Z"⟩, 11) := ⟨⟨by decide +kernel, by decide +kernel⟩, List.mem_of_getElem? (i := 11) (by decide +kernel), List.mem_of_getElem? (i := 344) (by decide +kernel), List.mem_of_getElem? (i := 345) (by decide +kernel)⟩
theorem lw_p14 : lw_okq (⟨"Quarterboard", "placerWinsLater", "(II)Z"⟩, 11) := ⟨⟨by decide +kernel, by decide +kernel⟩, List.mem_of_getElem? (i := 11) (by decide +kernel), List.mem_of_getElem? (i := 348) (by decide +kernel), List.mem_of_getElem? (i := 349) (by decide +kernel)⟩
theorem lw_p15 : lw_okq (⟨"Quarterboard", "lift", "(II)V"⟩, 11) := ⟨⟨by decide +kernel, by decide +kernel⟩, List.mem_of_getElem? (i := 11) (by decide +kernel), List.mem_of_getElem? (i := 352) (by decide +kernel), List.mem_of_getElem? (i := 353) (by decide +kernel)⟩
def lw_privs_1 : List (MethodName × Nat) := [(⟨"Quarterboard", "waysOfMarks", "(IIJ)I"⟩, 11), (⟨"java/lang/Throwable", "fillInStackTrace", "(I)Ljava/lang/Throwable;"⟩, 6), (⟨"Quarterboard", "put", "(II)V"⟩, 11), (⟨"Quarterboard", "wonLines", "()I"⟩, 11), (⟨"Quarterboard", "inCommon", "(I)I"⟩, 11), (⟨"Quarterboard", "winningSquares", "(I)I"⟩, 11), (⟨"Quarterboard", "lacksOne", "(I)Z"⟩, 11), (⟨"Quarterboard", "safePieces", "()I"⟩, 11), (⟨"Quarterboard", "winningDigits", "()I"⟩, 11), (⟨"Quarterboard", "canLookAhead", "(I)Z"⟩, 11), (⟨"Quarterboard", "worthToGive", "(I)I"⟩, 11), (⟨"Quarterboard", "giverWins", "(I)Z"⟩, 11), (⟨"Quarterboard", "placerLoses", "(II)Z"⟩, 11), (⟨"Quarterboard", "giverLoses", "(I)Z"⟩, 11), (⟨"Quarterboard", "placerWinsLater", "(II)Z"⟩, 11), (⟨"Quarterboard", "lift", "(II)V"⟩, 11)]
theorem lw_r1 : ∀ q ∈ lw_privs_1, lw_okq q := List.forall_mem_cons.mpr ⟨lw_p0, List.forall_mem_cons.mpr ⟨lw_p1, List.forall_mem_cons.mpr ⟨lw_p2, List.forall_mem_cons.mpr ⟨lw_p3, List.forall_mem_cons.mpr ⟨lw_p4, List.forall_mem_cons.mpr ⟨lw_p5, List.forall_mem_cons.mpr ⟨lw_p6, List.forall_mem_cons.mpr ⟨lw_p7, List.forall_mem_cons.mpr ⟨lw_p8, List.forall_mem_cons.mpr ⟨lw_p9, List.forall_mem_cons.mpr ⟨lw_p10, List.forall_mem_cons.mpr ⟨lw_p11, List.forall_mem_cons.mpr ⟨lw_p12, List.forall_mem_cons.mpr ⟨lw_p13, List.forall_mem_cons.mpr ⟨lw_p14, List.forall_mem_cons.mpr ⟨lw_p15, fun _ h => absurd h List.not_mem_nil⟩⟩⟩⟩⟩⟩⟩⟩⟩⟩⟩⟩⟩⟩⟩⟩
theorem lw_p16 : lw_okq (⟨"Quarterboard", "worthToPlace", "(II)I"⟩, 11) := ⟨⟨by decide +kernel, by decide +kernel⟩, List.mem_of_getElem? (i := 11) (by decide +kernel), List.mem_of_getElem? (i := 357) (by decide +kernel), List.mem_of_getElem? (i := 358) (by decide +kernel)⟩
theorem lw_p17 : lw_okq (⟨"Quarterboard", "bestPiece", "(I)I"⟩, 11) := ⟨⟨by decide +kernel, by decide +kernel⟩, List.mem_of_getElem? (i := 11) (by decide +kernel), List.mem_of_getElem? (i := 368) (by decide +kernel), List.mem_of_getElem? (i := 369) (by decide +kernel)⟩
theorem lw_p18 : lw_okq (⟨"Quarterboard", "bestSquare", "(I)I"⟩, 11) := ⟨⟨by decide +kernel, by decide +kernel⟩, List.mem_of_getElem? (i := 11) (by decide +kernel), List.mem_of_getElem? (i := 372) (by decide +kernel), List.mem_of_getElem? (i := 373) (by decide +kernel)⟩
theorem lw_p19 : lw_okq (⟨"Quarterboard", "worthAfterPlacing", "(II)I"⟩, 11) := ⟨⟨by decide +kernel, by decide +kernel⟩, List.mem_of_getElem? (i := 11) (by decide +kernel), List.mem_of_getElem? (i := 376) (by decide +kernel), List.mem_of_getElem? (i := 377) (by decide +kernel)⟩
theorem lw_p20 : lw_okq (⟨"QuarterboardModel", "fails", "(I)Z"⟩, 17) := ⟨⟨by decide +kernel, by decide +kernel⟩, List.mem_of_getElem? (i := 388) (by decide +kernel), List.mem_of_getElem? (i := 463) (by decide +kernel), List.mem_of_getElem? (i := 464) (by decide +kernel)⟩
theorem lw_p21 : lw_okq (⟨"QuarterboardModel", "puts", "(II)V"⟩, 17) := ⟨⟨by decide +kernel, by decide +kernel⟩, List.mem_of_getElem? (i := 388) (by decide +kernel), List.mem_of_getElem? (i := 471) (by decide +kernel), List.mem_of_getElem? (i := 472) (by decide +kernel)⟩
theorem lw_p22 : lw_okq (⟨"QuarterboardModel", "won", "(I)I"⟩, 17) := ⟨⟨by decide +kernel, by decide +kernel⟩, List.mem_of_getElem? (i := 388) (by decide +kernel), List.mem_of_getElem? (i := 475) (by decide +kernel), List.mem_of_getElem? (i := 476) (by decide +kernel)⟩
theorem lw_p23 : lw_okq (⟨"QuarterboardModel", "many", "()I"⟩, 17) := ⟨⟨by decide +kernel, by decide +kernel⟩, List.mem_of_getElem? (i := 388) (by decide +kernel), List.mem_of_getElem? (i := 479) (by decide +kernel), List.mem_of_getElem? (i := 480) (by decide +kernel)⟩
theorem lw_p24 : lw_okq (⟨"QuarterboardModel", "full", "(I)I"⟩, 17) := ⟨⟨by decide +kernel, by decide +kernel⟩, List.mem_of_getElem? (i := 388) (by decide +kernel), List.mem_of_getElem? (i := 486) (by decide +kernel), List.mem_of_getElem? (i := 487) (by decide +kernel)⟩
theorem lw_p25 : lw_okq (⟨"QuarterboardModel", "common", "(I)I"⟩, 17) := ⟨⟨by decide +kernel, by decide +kernel⟩, List.mem_of_getElem? (i := 388) (by decide +kernel), List.mem_of_getElem? (i := 490) (by decide +kernel), List.mem_of_getElem? (i := 491) (by decide +kernel)⟩
theorem lw_p26 : lw_okq (⟨"QuarterboardModel", "tells", "(I)I"⟩, 17) := ⟨⟨by decide +kernel, by decide +kernel⟩, List.mem_of_getElem? (i := 388) (by decide +kernel), List.mem_of_getElem? (i := 498) (by decide +kernel), List.mem_of_getElem? (i := 499) (by decide +kernel)⟩
theorem lw_p27 : lw_okq (⟨"QuarterboardModel", "winners", "(I)I"⟩, 17) := ⟨⟨by decide +kernel, by decide +kernel⟩, List.mem_of_getElem? (i := 388) (by decide +kernel), List.mem_of_getElem? (i := 538) (by decide +kernel), List.mem_of_getElem? (i := 539) (by decide +kernel)⟩
theorem lw_p28 : lw_okq (⟨"QuarterboardModel", "wins", "(II)Z"⟩, 17) := ⟨⟨by decide +kernel, by decide +kernel⟩, List.mem_of_getElem? (i := 388) (by decide +kernel), List.mem_of_getElem? (i := 542) (by decide +kernel), List.mem_of_getElem? (i := 543) (by decide +kernel)⟩
theorem lw_p29 : lw_okq (⟨"QuarterboardModel", "takes", "(I)V"⟩, 17) := ⟨⟨by decide +kernel, by decide +kernel⟩, List.mem_of_getElem? (i := 388) (by decide +kernel), List.mem_of_getElem? (i := 546) (by decide +kernel), List.mem_of_getElem? (i := 547) (by decide +kernel)⟩
theorem lw_p30 : lw_okq (⟨"QuarterboardModel", "cannot", "(I)Z"⟩, 17) := ⟨⟨by decide +kernel, by decide +kernel⟩, List.mem_of_getElem? (i := 388) (by decide +kernel), List.mem_of_getElem? (i := 558) (by decide +kernel), List.mem_of_getElem? (i := 559) (by decide +kernel)⟩
theorem lw_p31 : lw_okq (⟨"QuarterboardModel", "looks", "(III)I"⟩, 17) := ⟨⟨by decide +kernel, by decide +kernel⟩, List.mem_of_getElem? (i := 388) (by decide +kernel), List.mem_of_getElem? (i := 562) (by decide +kernel), List.mem_of_getElem? (i := 563) (by decide +kernel)⟩
def lw_privs_2 : List (MethodName × Nat) := [(⟨"Quarterboard", "worthToPlace", "(II)I"⟩, 11), (⟨"Quarterboard", "bestPiece", "(I)I"⟩, 11), (⟨"Quarterboard", "bestSquare", "(I)I"⟩, 11), (⟨"Quarterboard", "worthAfterPlacing", "(II)I"⟩, 11), (⟨"QuarterboardModel", "fails", "(I)Z"⟩, 17), (⟨"QuarterboardModel", "puts", "(II)V"⟩, 17), (⟨"QuarterboardModel", "won", "(I)I"⟩, 17), (⟨"QuarterboardModel", "many", "()I"⟩, 17), (⟨"QuarterboardModel", "full", "(I)I"⟩, 17), (⟨"QuarterboardModel", "common", "(I)I"⟩, 17), (⟨"QuarterboardModel", "tells", "(I)I"⟩, 17), (⟨"QuarterboardModel", "winners", "(I)I"⟩, 17), (⟨"QuarterboardModel", "wins", "(II)Z"⟩, 17), (⟨"QuarterboardModel", "takes", "(I)V"⟩, 17), (⟨"QuarterboardModel", "cannot", "(I)Z"⟩, 17), (⟨"QuarterboardModel", "looks", "(III)I"⟩, 17)]
theorem lw_r2 : ∀ q ∈ lw_privs_2, lw_okq q := List.forall_mem_cons.mpr ⟨lw_p16, List.forall_mem_cons.mpr ⟨lw_p17, List.forall_mem_cons.mpr ⟨lw_p18, List.forall_mem_cons.mpr ⟨lw_p19, List.forall_mem_cons.mpr ⟨lw_p20, List.forall_mem_cons.mpr ⟨lw_p21, List.forall_mem_cons.mpr ⟨lw_p22, List.forall_mem_cons.mpr ⟨lw_p23, List.forall_mem_cons.mpr ⟨lw_p24, List.forall_mem_cons.mpr ⟨lw_p25, List.forall_mem_cons.mpr ⟨lw_p26, List.forall_mem_cons.mpr ⟨lw_p27, List.forall_mem_cons.mpr ⟨lw_p28, List.forall_mem_cons.mpr ⟨lw_p29, List.forall_mem_cons.mpr ⟨lw_p30, List.forall_mem_cons.mpr ⟨lw_p31, fun _ h => absurd h List.not_mem_nil⟩⟩⟩⟩⟩⟩⟩⟩⟩⟩⟩⟩⟩⟩⟩⟩
theorem lw_p32 : lw_okq (⟨"QuarterboardModel", "enters", "(IIII)V"⟩, 17) := ⟨⟨by decide +kernel, by decide +kernel⟩, List.mem_of_getElem? (i := 388) (by decide +kernel), List.mem_of_getElem? (i := 566) (by decide +kernel), List.mem_of_getElem? (i := 567) (by decide +kernel)⟩
theorem lw_p33 : lw_okq (⟨"QuarterboardModel", "tries", "(I)I"⟩, 17) := ⟨⟨by decide +kernel, by decide +kernel⟩, List.mem_of_getElem? (i := 388) (by decide +kernel), List.mem_of_getElem? (i := 570) (by decide +kernel), List.mem_of_getElem? (i := 571) (by decide +kernel)⟩
theorem lw_p34 : lw_okq (⟨"QuarterboardModel", "behind", "(II)I"⟩, 17) := ⟨⟨by decide +kernel, by decide +kernel⟩, List.mem_of_getElem? (i := 388) (by decide +kernel), List.mem_of_getElem? (i := 578) (by decide +kernel), List.mem_of_getElem? (i := 579) (by decide +kernel)⟩
theorem lw_p35 : lw_okq (⟨"QuarterboardModel", "ways", "([I)I"⟩, 17) := ⟨⟨by decide +kernel, by decide +kernel⟩, List.mem_of_getElem? (i := 388) (by decide +kernel), List.mem_of_getElem? (i := 590) (by decide +kernel), List.mem_of_getElem? (i := 591) (by decide +kernel)⟩
theorem lw_p36 : lw_okq (⟨"QuarterboardModel", "renames", "(I)Z"⟩, 17) := ⟨⟨by decide +kernel, by decide +kernel⟩, List.mem_of_getElem? (i := 388) (by decide +kernel), List.mem_of_getElem? (i := 594) (by decide +kernel), List.mem_of_getElem? (i := 595) (by decide +kernel)⟩
theorem lw_p37 : lw_okq (⟨"QuarterboardModel", "renamed", "(II)I"⟩, 17) := ⟨⟨by decide +kernel, by decide +kernel⟩, List.mem_of_getElem? (i := 388) (by decide +kernel), List.mem_of_getElem? (i := 601) (by decide +kernel), List.mem_of_getElem? (i := 602) (by decide +kernel)⟩
def lw_privs_3 : List (MethodName × Nat) := [(⟨"QuarterboardModel", "enters", "(IIII)V"⟩, 17), (⟨"QuarterboardModel", "tries", "(I)I"⟩, 17), (⟨"QuarterboardModel", "behind", "(II)I"⟩, 17), (⟨"QuarterboardModel", "ways", "([I)I"⟩, 17), (⟨"QuarterboardModel", "renames", "(I)Z"⟩, 17), (⟨"QuarterboardModel", "renamed", "(II)I"⟩, 17)]
theorem lw_r3 : ∀ q ∈ lw_privs_3, lw_okq q := List.forall_mem_cons.mpr ⟨lw_p32, List.forall_mem_cons.mpr ⟨lw_p33, List.forall_mem_cons.mpr ⟨lw_p34, List.forall_mem_cons.mpr ⟨lw_p35, List.forall_mem_cons.mpr ⟨lw_p36, List.forall_mem_cons.mpr ⟨lw_p37, fun _ h => absurd h List.not_mem_nil⟩⟩⟩⟩⟩⟩
def lw_privs : List (MethodName × Nat) := lw_privs_1 ++ (lw_privs_2 ++ (lw_privs_3))
def lw_tbl : List Cond := k2_sels lw_privs ++ tables_1
theorem lw_privs_ok : ∀ q ∈ lw_privs, lw_okq q := by
  show ∀ q ∈ lw_privs_1 ++ (lw_privs_2 ++ (lw_privs_3)), lw_okq q
  exact List.forall_mem_append.mpr ⟨lw_r1, List.forall_mem_append.mpr ⟨lw_r2, lw_r3⟩⟩
-- ===== end of PART A; then your names; then what follows =====
end
section
/-! ===== BEGIN words of one list among another's, by their places ===== -/
theorem goodIn_r {big : List Cond} (ws : List Cond) (ps : List Nat) (hp : ws = ps.filterMap (fun i => big[i]?)) (h : ws.all goodWord = true) : GoodIn big ws := by
  intro w hw
  have h1 := List.all_eq_true.mp h w hw
  rw [hp] at hw
  obtain ⟨i, -, hi⟩ := List.mem_filterMap.mp hw
  have hm : w ∈ big := by first | exact List.mem_of_getElem? hi | exact List.getElem?_mem hi
  exact ⟨hm, good_of_word h1⟩
theorem goodIn_app {big a b : List Cond} (ha : GoodIn big a) (hb : GoodIn big b) : GoodIn big (a ++ b) := fun w h => (List.mem_append.mp h).elim (ha w) (hb w)
theorem goodIn_ca {big a b : List Cond} {c : Cond} (ha : GoodIn big (c :: a)) (hb : GoodIn big b) : GoodIn big (c :: (a ++ b)) := fun w h => (List.mem_cons.mp h).elim (fun e => ha w (List.mem_cons.mpr (Or.inl e))) (fun h => (List.mem_append.mp h).elim (fun h => ha w (List.mem_cons.mpr (Or.inr h))) (hb w))
theorem goodIn_sub {big ws : List Cond} (hm : ∀ w ∈ ws, w ∈ big) (h : ws.all goodWord = true) : GoodIn big ws := fun w hw => ⟨hm w hw, good_of_word (List.all_eq_true.mp h w hw)⟩
/-! ===== END ===== -/

/-! ===== BEGIN exceptions that leave a method, and their catching by the caller (launches without stack traces) ===== -/
section VXA
/-! The laws vx_back, vx_callV, vx_callS, vx_callSW, vx_throw0, vx_throwS follow proofs of the library, with one case more: JvmDerived/Free/Laws.lean (Back.of_free), Shelf42/LK1.lean (callV, callS), Shelf/KitTraced.lean (throwNew0V, throwNewS). -/
/-- where a method has thrown q: the class by its name, the cell, what was written, the world -/
def vx_T (XC : String → State → State → Prop) (st : State) (q : Addr) (t : State) (mc ms : Nat) (free : Addr → Prop) : Prop :=
  ∃ (E : String) (ce : Cell) (L : List Loc), XC E st t ∧ t.heap[q]? = some ce ∧ ce.vm = .none ∧ st.vm.findClass E = some ce.cls ∧ st.WarmedH t.vm ∧ st.sameButNew ({ t with vm := st.vm } : State) L mc ms ∧ ∀ z ∈ L, free z.base
def vx_Q (Qc : Array Value → State → Outcome → State → Prop) (XC : String → State → State → Prop) (mc ms : Nat) (free : Addr → Prop) : Array Value → State → Outcome → State → Prop := fun a st o t =>
  (Qc a st o t ∧ ∃ L, FrameEnd st o t L mc ms ∧ ∀ q ∈ L, free q.base) ∨ ∃ q, o = .threw q ∧ vx_T XC st q t mc ms free
/-- a callee that returns or throws -/
def vx_Met (l : Launch) (y : MethodName) (ws : List Cond) (rm : Room) (Pc : Array Value → State → Prop) (Qc : Array Value → State → Outcome → State → Prop) (XC : String → State → State → Prop) (mc ms : Nat) (free : Addr → Prop) : Prop :=
  MetFree l y (headSpec ws rm) Pc (fun _ _ _ _ _ => True) (vx_Q Qc XC mc ms free)
def vx_Post (XC : String → State → State → Prop) (mc ms : Nat) (free : Addr → Prop) : Pt → Array Value → Addr → Pt → Prop := fun A a q B =>
  ∃ (g : JFrame) (mk : MethodId) (t : State) (L : List Loc) (E : String) (ce : Cell), B.U.heap = t.heap ∧ B.U.vm = t.vm ∧ XC E (A.U.calling g mk a) t ∧ t.heap[q]? = some ce ∧ ce.vm = .none ∧ A.U.vm.findClass E = some ce.cls ∧ B.locs = A.locs ++ L ∧ (∀ z ∈ L, free z.base) ∧ B.cells = A.cells + mc ∧ B.slots = A.slots + ms
def vx_Back (l : Launch) (R : Room) (p : Program) (e : Env) (below : List Frame) (s : State) (sargs : Array Value) (y : MethodName) (len W9 : Nat)
    (Pre : Pt → Array Value → Prop) (Post : Pt → Array Value → Option Value → Pt → Prop) (PostX : Pt → Array Value → Addr → Pt → Prop) : Prop :=
  ∀ (m : MethodId) (meth : Method) (c : Code) (A : Pt) (g : JFrame) (ig : Instr) (mk : MethodId) (a : Array Value),
    Stand p l e R s m sargs below meth c A.U A.locs A.cells A.slots → g.method = m → g.locals.size = c.maxLocals → decode c.code g.pc = .ok (ig, len) →
    2 * g.monitorRoom + (g.stack.map fun v => v.category).sum ≤ W9 → A.U.methodNamed? y = some mk → Pre A a →
    (∃ (v : Option Value) (B : Pt), Stand p l e R s m sargs below meth c B.U B.locs B.cells B.slots ∧ Post A a v B ∧
      Steps p.tables e below (doInvoke e (A.U.setTop g) [] mk a).1 (B.U.setTop { g with pc := g.pc + len, stack := v.toList ++ g.stack })) ∨
    (∃ (q : Addr) (B : Pt), Stand p l e R s m sargs below meth c B.U B.locs B.cells B.slots ∧ PostX A a q B ∧
      Steps p.tables e below (doInvoke e (A.U.setTop g) [] mk a).1 ((B.U.setTop g).pushFrame (.throwing q)))
section Payer
variable {l : Launch} {R : Room} {p : Program} {e : Env} {below : List Frame} {s : State} {sargs : Array Value} {y : MethodName} {len W9 : Nat}
theorem vx_back {ws : List Cond} {rm : Room} {Pc : Array Value → State → Prop} {Qc : Array Value → State → Outcome → State → Prop} {XC : String → State → State → Prop} {mc ms : Nat} {free : Addr → Prop} {bytes : ByteArray} {maxL : Nat} {ret : Option FieldType}
    (hM : vx_Met l y ws rm Pc Qc XC mc ms free) (hblind : FrameBlind Pc) (hrc : rm.cells = mc) (hrs : rm.slots = ms)
    (hframes : rm.frames + 1 ≤ R.frames) (hlocals : W9 + (maxL + 11) + rm.locals ≤ R.locals)
    (hws : ∀ w ∈ ws, ∀ a' U, s.WarmedH U.vm → w.before a' U = true) (hcode : Cond.code y bytes maxL ret ∈ ws) (hinit : ∀ a' U, s.WarmedH U.vm → (Cond.initialized y.cls).before a' U = true) :
    vx_Back l R p e below s sargs y len W9 (PreOf R mc ms Pc) (PostOf Qc mc ms free) (vx_Post XC mc ms free) := by
  intro m meth c A g ig mk a X hg hsize hdg hW hn hp
  have h1 : (headSpec ws rm).pre.before a A.U = true := atoms_intro fun w hw => hws w hw _ _ X.warmed
  have h2 : (Cond.code y bytes maxL ret).before a A.U = true := hws _ hcode _ _ X.warmed
  have h3 : (Cond.initialized y.cls).before a A.U = true := hinit _ _ X.warmed
  have h4 : A.cells + (headSpec ws rm).room.cells ≤ R.cells := by rw [show (headSpec ws rm).room.cells = mc from hrc]; exact hp.1
  have h5 : A.slots + (headSpec ws rm).room.slots ≤ R.slots := by rw [show (headSpec ws rm).room.slots = ms from hrs]; exact hp.2.1
  have hPc : Pc a (A.U.calling g mk a) := hblind _ _ _ _ hp.2.2
  obtain ⟨U, Ls, c0, s0⟩ := A
  dsimp only [Pt.U, Pt.locs, Pt.cells, Pt.slots] at h1 h2 h3 h4 h5 X hn hPc ⊢
  obtain ⟨methY, cY, hmY, hcY, -, hlY, -, -, -, -⟩ := Cond.code_spec hn h2
  obtain ⟨kY, hkY, -⟩ := className_of_methodNamed hn
  have hinitY : kY.init = .initialized := Cond.initialized_spec (findClass_of_methodNamed hn) hkY h3
  have h : At U g.method c below := by rw [hg]; exact X.here
  have hlocals9 : W9 + (maxL + 11) + (headSpec ws rm).room.locals ≤ R.locals := hlocals
  have happ : (headSpec ws rm).appliesLoose y e.platform (U.calling g mk a) = true :=
    Spec.appliesLoose_calling (g := g) h hdg hn hkY hinitY
      (X.room_calling (g := g) (R' := (headSpec ws rm).room) hsize hmY hcY hframes (by rw [hlY]; omega) h4 h5) h1
  obtain ⟨mid, hmid⟩ := h.above
  have hfr : (U.setTop g).frames = (.java g :: mid) ++ below := by rw [State.frames_setTop' g h.top, hmid]; rfl
  obtain ⟨o, s₂, hsteps, -, hend, hq⟩ := Steps.callFree hM p X.admits X.cas X.clock (acts := []) hfr happ hPc trivial
  have hq' : vx_Q Qc XC mc ms free a (U.calling g mk a) o s₂ := hq
  rw [State.frames_setTop' g h.top] at hend
  obtain ⟨g₀, hg0⟩ := Option.isSome_iff_exists.mp h.top
  obtain ⟨r, hr⟩ := State.topJava?_eq_some.mp hg0
  have hr' : (({ U with heap := s₂.heap, slotsUsed := s₂.slotsUsed } : State).setVm s₂.vm).frames = .java g₀ :: r := hr
  rcases hq' with ⟨hqc, L, hfe, hL⟩ | ⟨q, rfl, E, ce, L, hx, hce, hcv, hcl, hW₂, hsm, hL⟩
  · obtain ⟨⟨v, rfl⟩, hW₂, e2, q2, q3, q4, q5, q6⟩ := id hfe
    have e3 : s₂ = ({ (U.calling g mk a).setFrames s₂.frames with heap := s₂.heap, slotsUsed := s₂.slotsUsed } : State).setVm s₂.vm := by
      have : s₂ = ({ s₂ with vm := (U.calling g mk a).vm } : State).setVm s₂.vm := rfl
      rw [e2] at this
      exact this
    obtain ⟨c₂, i₂, len₂, hc₂, hd₂, hf₂⟩ := hend
    have hW' : U.WarmedH s₂.vm := hW₂
    have hcc : c₂ = c := by
      have h1 : s₂.code? g.method = U.code? g.method := by
        rw [State.code?_eq, State.code?_eq, hW'.alike.method?]
      exact Option.some.inj (hc₂.symm.trans (h1.trans h.code))
    subst hcc
    have hlen : len₂ = len := by rw [hdg] at hd₂; cases hd₂; rfl
    subst hlen
    have hs₂ : s₂ = (({ U with heap := s₂.heap, slotsUsed := s₂.slotsUsed } : State).setVm s₂.vm).setTop { g with pc := g.pc + len₂, stack := v.toList ++ g.stack } := by
      refine e3.trans ?_
      rw [hf₂, State.calling_eq h.top, State.setFrames_setFrames, State.setTop_of_frames _ hr', hr]
      rfl
    have hsame : U.sameButNew ({ U with heap := s₂.heap, slotsUsed := s₂.slotsUsed } : State) L mc ms := by
      refine ⟨?_, q2, q3, q4, q5, q6⟩
      obtain ⟨t, ht, -⟩ := State.frames_cons hr
      show ({ U with heap := s₂.heap, slotsUsed := s₂.slotsUsed } : State) = { U.setFrames U.frames with heap := s₂.heap, slotsUsed := s₂.slotsUsed }
      rw [State.setFrames_self ht]
    subst hg
    refine Or.inl ⟨v, ⟨(({ U with heap := s₂.heap, slotsUsed := s₂.slotsUsed } : State).setVm s₂.vm), Ls ++ L, c0 + mc, s0 + ms⟩,
      ⟨X.admits, X.cas, X.clock, X.frames, X.room, X.hears, X.method, X.code, (X.here.setHeapUsed s₂.heap s₂.slotsUsed).setVm hW'.alike, X.tail, State.WarmedH.trans X.warmed hW', X.limits, X.bytes, X.same.trans (hsame.setVm s.vm)⟩,
      ⟨g, mk, s₂, L, rfl, rfl, hqc, rfl, hL, rfl, rfl⟩, ?_⟩
    show Steps p.tables e below _ ((({ U with heap := s₂.heap, slotsUsed := s₂.slotsUsed } : State).setVm s₂.vm).setTop { g with pc := g.pc + len₂, stack := v.toList ++ g.stack })
    rw [← hs₂]
    exact hsteps
  · obtain ⟨e2, q2, q3, q4, q5, q6⟩ := id hsm
    have e3 : s₂ = ({ (U.calling g mk a).setFrames s₂.frames with heap := s₂.heap, slotsUsed := s₂.slotsUsed } : State).setVm s₂.vm := by
      have : s₂ = ({ s₂ with vm := (U.calling g mk a).vm } : State).setVm s₂.vm := rfl
      rw [e2] at this
      exact this
    have hf₂ : s₂.frames = .throwing q :: .java g :: U.frames.tail := hend
    have hW' : U.WarmedH s₂.vm := hW₂
    have hs₂ : s₂ = ((({ U with heap := s₂.heap, slotsUsed := s₂.slotsUsed } : State).setVm s₂.vm).setTop g).pushFrame (.throwing q) := by
      refine e3.trans ?_
      rw [hf₂, State.calling_eq h.top, State.setFrames_setFrames, State.pushFrame, State.frames_setTop _ hr', State.setTop_of_frames _ hr', State.setFrames_setFrames, hr]
      rfl
    have hsame : U.sameButNew ({ U with heap := s₂.heap, slotsUsed := s₂.slotsUsed } : State) L mc ms := by
      refine ⟨?_, q2, q3, q4, q5, q6⟩
      obtain ⟨t, ht, -⟩ := State.frames_cons hr
      show ({ U with heap := s₂.heap, slotsUsed := s₂.slotsUsed } : State) = { U.setFrames U.frames with heap := s₂.heap, slotsUsed := s₂.slotsUsed }
      rw [State.setFrames_self ht]
    subst hg
    refine Or.inr ⟨q, ⟨(({ U with heap := s₂.heap, slotsUsed := s₂.slotsUsed } : State).setVm s₂.vm), Ls ++ L, c0 + mc, s0 + ms⟩,
      ⟨X.admits, X.cas, X.clock, X.frames, X.room, X.hears, X.method, X.code, (X.here.setHeapUsed s₂.heap s₂.slotsUsed).setVm hW'.alike, X.tail, State.WarmedH.trans X.warmed hW', X.limits, X.bytes, X.same.trans (hsame.setVm s.vm)⟩,
      ⟨g, mk, s₂, L, E, ce, rfl, rfl, hx, hce, hcv, hcl, rfl, hL, rfl, rfl⟩, ?_⟩
    show Steps p.tables e below _ (((({ U with heap := s₂.heap, slotsUsed := s₂.slotsUsed } : State).setVm s₂.vm).setTop g).pushFrame (.throwing q))
    rw [← hs₂]
    exact hsteps
end Payer
section Calls
variable {p : Program} {l : Launch} {e : Env} {R : Room} {s : State} {m : MethodId} {args : Array Value} {below : List Frame} {meth : Method} {c : Code} {T : State} {locs : List Loc} {cells slots : Nat}
theorem vx_callV (X : Stand p l e R s m args below meth c T locs cells slots) (hexec : p.tables.exec = Jvm.exec) {own C : String} {index : Nat} {y : MethodName} {bytes : ByteArray} {maxL : Nat} {ret : Option FieldType}
    (hown : s.vm.findClass own = some m.cls) (hlink : (Cond.methodLink own index y).before args s = true) (hinst : (Cond.instanceMethod y).before args s = true) (hsel : (Cond.selects C y y).before args s = true)
    (hcode : (Cond.code y bytes maxL ret).before args s = true) (hy : y.cls ≠ "java/lang/invoke/MethodHandle" ∧ y.cls ≠ "java/lang/invoke/VarHandle")
    {W9 : Nat} {Pre : Pt → Array Value → Prop} {Post : Pt → Array Value → Option Value → Pt → Prop} {PostX : Pt → Array Value → Addr → Pt → Prop} (hK : vx_Back l R p e below s args y 3 W9 Pre Post PostX)
    {b : Addr} {cellB : Cell} (hcell : T.heap[b]? = some cellB) (hobj : cellB.vm.isStatics = false) (hcls : s.vm.findClass C = some cellB.cls)
    {g : JFrame} (hg : g.method = m) (hsize : g.locals.size = c.maxLocals) {argsL rest : List Value} (hlen : ∀ sig, parseMethodDescriptor y.desc = some sig → argsL.length = sig.parameters.length)
    (hstack : g.stack = argsL.reverse ++ .ref b :: rest) (hW : 2 * g.monitorRoom + (rest.map fun v => v.category).sum ≤ W9) (hdg : decode c.code g.pc = .ok (.invokevirtual index, 3))
    (hpre : ∀ vm₁, s.WarmedH vm₁ → Pre ⟨T.setVm vm₁, locs, cells, slots⟩ (Value.ref b :: argsL).toArray) :
    (∃ (v : Option Value) (vm₁ : Vm) (B : Pt), s.WarmedH vm₁ ∧ Stand p l e R s m args below meth c B.U B.locs B.cells B.slots ∧ Post ⟨T.setVm vm₁, locs, cells, slots⟩ (Value.ref b :: argsL).toArray v B ∧
      ∀ target, Steps p.tables e below (B.U.setTop { g with pc := g.pc + 3, stack := v.toList ++ rest }) target → Steps p.tables e below (T.setTop g) target) ∨
    (∃ (q : Addr) (vm₁ : Vm) (B : Pt), s.WarmedH vm₁ ∧ Stand p l e R s m args below meth c B.U B.locs B.cells B.slots ∧ PostX ⟨T.setVm vm₁, locs, cells, slots⟩ (Value.ref b :: argsL).toArray q B ∧
      Steps p.tables e below (T.setTop g) ((B.U.setTop { g with stack := rest }).pushFrame (.throwing q))) := by
  obtain ⟨mk, methM, hnamed, hmethM, hstM, habM⟩ := Cond.instanceMethod_spec hinst
  obtain ⟨methM', cM, hmethM', -, -, -, -, -, -, hsigM⟩ := Cond.code_spec hnamed hcode
  cases hmethM.symm.trans hmethM'
  obtain ⟨c2, r2, m2, q1, q2, q3, q4, kP, hkP, hkPi⟩ := Cond.selects_spec hsel
  cases hcls.symm.trans q1
  cases (State.methodFound?_of_named hnamed hy).symm.trans q2
  cases hnamed.symm.trans q3
  have hselP : selectMethod e.platform s.vm cellB.cls mk = .method mk := by rw [Launch.admits_selectMethod X.admits]; exact q4
  obtain ⟨vm₁, X₁, hstep₁⟩ := X.invokevirtual hexec hown hlink hnamed hmethM hstM hkP hkPi hy (a := b) (cell := cellB) hcell
    (fun z h => by rw [h] at hobj; cases hobj) hselP hmethM habM hkP hkPi (g := g) hg (argsL := argsL) (rest := rest) (hlen _ hsigM) hstack hdg
  rcases hK m meth c ⟨T.setVm vm₁, locs, cells, slots⟩ { g with stack := rest } (.invokevirtual index) mk (Value.ref b :: argsL).toArray X₁ hg hsize hdg hW (X₁.named hnamed) (hpre vm₁ X₁.warmed) with ⟨v, B, X', hpost, hsteps⟩ | ⟨q, B, X', hpost, hsteps⟩
  · exact Or.inl ⟨v, vm₁, B, X₁.warmed, X', hpost, fun target h => hstep₁ _ fun acts => by rw [doInvoke_state]; exact hsteps.trans h⟩
  · exact Or.inr ⟨q, vm₁, B, X₁.warmed, X', hpost, hstep₁ _ fun acts => by rw [doInvoke_state]; exact hsteps⟩
theorem vx_callS (X : Stand p l e R s m args below meth c T locs cells slots) (hexec : p.tables.exec = Jvm.exec) {own : String} {index : Nat} {y : MethodName} {bytes : ByteArray} {maxL : Nat} {ret : Option FieldType}
    (hown : s.vm.findClass own = some m.cls) (hlink : (Cond.methodLink own index y).before args s = true) (hstat : (Cond.static y).before args s = true) (hinit : (Cond.initialized y.cls).before args s = true)
    (hcode : (Cond.code y bytes maxL ret).before args s = true) (hy : y.cls ≠ "java/lang/invoke/MethodHandle" ∧ y.cls ≠ "java/lang/invoke/VarHandle")
    {W9 : Nat} {Pre : Pt → Array Value → Prop} {Post : Pt → Array Value → Option Value → Pt → Prop} {PostX : Pt → Array Value → Addr → Pt → Prop} (hK : vx_Back l R p e below s args y 3 W9 Pre Post PostX)
    {g : JFrame} (hg : g.method = m) (hsize : g.locals.size = c.maxLocals) {argsL rest : List Value} (hlen : ∀ sig, parseMethodDescriptor y.desc = some sig → argsL.length = sig.parameters.length)
    (hstack : g.stack = argsL.reverse ++ rest) (hW : 2 * g.monitorRoom + (rest.map fun v => v.category).sum ≤ W9) (hdg : decode c.code g.pc = .ok (.invokestatic index, 3))
    (hpre : ∀ vm₁, s.WarmedH vm₁ → Pre ⟨T.setVm vm₁, locs, cells, slots⟩ argsL.toArray) :
    (∃ (v : Option Value) (vm₁ : Vm) (B : Pt), s.WarmedH vm₁ ∧ Stand p l e R s m args below meth c B.U B.locs B.cells B.slots ∧ Post ⟨T.setVm vm₁, locs, cells, slots⟩ argsL.toArray v B ∧
      ∀ target, Steps p.tables e below (B.U.setTop { g with pc := g.pc + 3, stack := v.toList ++ rest }) target → Steps p.tables e below (T.setTop g) target) ∨
    (∃ (q : Addr) (vm₁ : Vm) (B : Pt), s.WarmedH vm₁ ∧ Stand p l e R s m args below meth c B.U B.locs B.cells B.slots ∧ PostX ⟨T.setVm vm₁, locs, cells, slots⟩ argsL.toArray q B ∧
      Steps p.tables e below (T.setTop g) ((B.U.setTop { g with stack := rest }).pushFrame (.throwing q))) := by
  obtain ⟨mk, hnamed⟩ := Cond.code_named hcode
  obtain ⟨methM, cM, hmethM, -, -, -, -, -, -, hsigM⟩ := Cond.code_spec hnamed hcode
  have hstatic : methM.isStatic = true := Cond.static_spec hnamed hmethM hstat
  obtain ⟨kP, hkP, -⟩ := className_of_methodNamed hnamed
  have hinitP : kP.init = .initialized := Cond.initialized_spec (findClass_of_methodNamed hnamed) hkP hinit
  obtain ⟨vm₁, X₁, hstep₁⟩ := X.invokestatic hexec hown hlink hnamed hmethM hstatic hkP hinitP hy (g := g) hg (argsL := argsL) (rest := rest) (hlen _ hsigM) hstack hdg
  rcases hK m meth c ⟨T.setVm vm₁, locs, cells, slots⟩ { g with stack := rest } (.invokestatic index) mk argsL.toArray X₁ hg hsize hdg hW (X₁.named hnamed) (hpre vm₁ X₁.warmed) with ⟨v, B, X', hpost, hsteps⟩ | ⟨q, B, X', hpost, hsteps⟩
  · exact Or.inl ⟨v, vm₁, B, X₁.warmed, X', hpost, fun target h => hstep₁ _ fun acts => by rw [doInvoke_state]; exact hsteps.trans h⟩
  · exact Or.inr ⟨q, vm₁, B, X₁.warmed, X', hpost, hstep₁ _ fun acts => by rw [doInvoke_state]; exact hsteps⟩
end Calls
theorem vx_cls {s : State} {T : State} {vm₁ : Vm} {E : String} {k : ClassId} (hW : s.WarmedH vm₁) (h : (T.setVm vm₁).vm.findClass E = some k) : s.vm.findClass E = some k := by
  have h1 : vm₁.findClass E = some k := h
  rw [hW.alike.findClass] at h1
  exact h1
/-- the method's frame g, with q thrown over it -/
def vx_W (p : Program) (l : Launch) (e : Env) (R : Room) (s : State) (m : MethodId) (args : Array Value) (below : List Frame) (meth : Method) (c : Code) (H : Heap) (locs : List Loc) (cells slots : Nat) (Q : State → Prop) (g : JFrame) (q : Addr) : Prop :=
  ∀ T : State, T.heap = H → Stand p l e R s m args below meth c T locs cells slots → ∃ t, Steps p.tables e below ((T.setTop g).pushFrame (.throwing q)) t ∧ Q t
def vx_Run (p : Program) (l : Launch) (e : Env) (R : Room) (s : State) (m : MethodId) (args : Array Value) (below : List Frame) (meth : Method) (c : Code) (H : Heap) (locs : List Loc) (cells slots mc ms : Nat) (g : JFrame) (rest : List Value) (Qa : State → Outcome → State → Prop) (XC : String → State → State → Prop) (free : Addr → Prop) : Prop :=
  ∀ T : State, T.heap = H → Stand p l e R s m args below meth c T locs cells slots →
    (∃ (v : Option Value) (st₀ t T' : State) (L : List Loc), st₀.heap = H ∧ Stand p l e R s m args below meth c T' (locs ++ L) (cells + mc) (slots + ms) ∧ (∀ q ∈ L, free q.base) ∧ T'.heap = t.heap ∧ T'.vm = t.vm ∧ Qa st₀ (.returned v) t ∧
      Goes p e below T g T' { g with pc := g.pc + 3, stack := v.toList ++ rest }) ∨
    (∃ (q : Addr) (st₀ t T' : State) (L : List Loc) (E : String) (ce : Cell), st₀.heap = H ∧ Stand p l e R s m args below meth c T' (locs ++ L) (cells + mc) (slots + ms) ∧ (∀ z ∈ L, free z.base) ∧ T'.heap = t.heap ∧ T'.vm = t.vm ∧ XC E st₀ t ∧ t.heap[q]? = some ce ∧ ce.vm = .none ∧ s.vm.findClass E = some ce.cls ∧
      Steps p.tables e below (T.setTop g) ((T'.setTop { g with stack := rest }).pushFrame (.throwing q)))
def vx_X {S : Type} (px : S → Prop) (B : String → S → State → Prop) (A : Nat → Prop) : String → State → State → Prop := fun E st t => ∃ u : S, px u ∧ B E u t ∧ va_F A st t
section Runs
variable {p : Program} {l : Launch} {e : Env} {R : Room} {s : State} {m : MethodId} {args : Array Value} {below : List Frame} {meth : Method} {c : Code} {H : Heap} {locs : List Loc} {cells slots : Nat}
variable {y : MethodName} {bytes cc : ByteArray} {maxL nL mc ms n index : Nat} {ret : Option FieldType} {ws : List Cond} {rm : Room} {Pc : Array Value → State → Prop} {Qc : Array Value → State → Outcome → State → Prop} {XC : String → State → State → Prop} {free : Addr → Prop} {Ts : List Cond} {own C : String} {b : Addr} {As rest : List Value} {g : JFrame}
theorem vx_callBack (cb : CallB R s args own index y bytes maxL ret ws rm mc ms n) (hM : vx_Met l y ws rm Pc Qc XC mc ms free) (hbl : FrameBlind Pc) : vx_Back l R p e below s args y 3 8 (PreOf R mc ms Pc) (PostOf Qc mc ms free) (vx_Post XC mc ms free) := by
  obtain ⟨hrc, hrs, hfr, hlo, hws, hcw, -, hini, -⟩ := cb
  exact vx_back (bytes := bytes) (maxL := maxL) (ret := ret) hM hbl hrc hrs hfr hlo hws hcw (fun a' U hW => word_at hW (Or.inl (by first | rfl | simp [Cond.onTables, Cond.keeps, Cond.steady])) hini)
theorem vx_runV (S : CallFix p m c cc nL s args Ts own) (hM : vx_Met l y ws rm Pc Qc XC mc ms free) (cw : CallW R s args own C index y bytes maxL ret ws rm mc ms n) (hp : PreV s H C b Pc As)
    (hg : g.method = m) (hn : As.length = n) (hsize : g.locals.size = nL) (hstack : g.stack = As.reverse ++ .ref b :: rest) (hW : 2 * g.monitorRoom + (rest.map fun v => v.category).sum ≤ 8) (hdg : decode cc g.pc = .ok (.invokevirtual index, 3)) (hf : cells + mc ≤ R.cells ∧ slots + ms ≤ R.slots) :
    vx_Run p l e R s m args below meth c H locs cells slots mc ms g rest (Qc (Value.ref b :: As).toArray) XC free := by
  have hK : vx_Back l R p e below s args y 3 8 (PreOf R mc ms Pc) (PostOf Qc mc ms free) (vx_Post XC mc ms free) := vx_callBack cw.1 hM hp.1
  obtain ⟨⟨-, -, -, -, -, -, hcode, -, hy, hlen, hl⟩, hin, hse⟩ := cw
  obtain ⟨hx, hb, hml, ho, -⟩ := S
  obtain ⟨-, ⟨cellB, hcB, hoB, hclB⟩, hPc⟩ := hp
  intro T hT X
  rcases vx_callV X hx (C := C) (bytes := bytes) (maxL := maxL) (ret := ret) ho hl hin hse hcode hy hK (by rw [hT]; exact hcB) hoB hclB hg (hsize.trans hml.symm) (argsL := As) (rest := rest) (fun sig h => hn.trans (hlen sig h)) hstack hW (by rw [hb]; exact hdg)
    (fun vm₁ hW₁ => ⟨hf.1, hf.2, hPc (T.setVm vm₁) hT hW₁⟩) with ⟨v, vm₁, ⟨U', l2, c2, s2⟩, hW₁, X', ⟨g', mk, t, L, e1, e2, hq, h1, hL, h2, h3⟩, st⟩ | ⟨q, vm₁, ⟨U', l2, c2, s2⟩, hW₁, X', ⟨g', mk, t, L, E, ce, e1, e2, hq, hce, hcv, hcl, h1, hL, h2, h3⟩, st⟩
  · dsimp only [Pt.U, Pt.locs, Pt.cells, Pt.slots] at X' e1 e2 h1 h2 h3 st
    subst h1; subst h2; subst h3
    exact Or.inl ⟨v, (T.setVm vm₁).calling g' mk (Value.ref b :: As).toArray, t, U', L, hT, X', hL, e1, e2, hq, st⟩
  · dsimp only [Pt.U, Pt.locs, Pt.cells, Pt.slots] at X' e1 e2 h1 h2 h3 st hcl
    subst h1; subst h2; subst h3
    exact Or.inr ⟨q, (T.setVm vm₁).calling g' mk (Value.ref b :: As).toArray, t, U', L, E, ce, hT, X', hL, e1, e2, hq, hce, hcv, vx_cls hW₁ hcl, st⟩
theorem vx_runS (S : CallFix p m c cc nL s args Ts own) (hM : vx_Met l y ws rm Pc Qc XC mc ms free) (cw : CallB R s args own index y bytes maxL ret ws rm mc ms n ∧ (Cond.static y).before args s = true) (hp : PreS s H Pc As)
    (hg : g.method = m) (hn : As.length = n) (hsize : g.locals.size = nL) (hstack : g.stack = As.reverse ++ rest) (hW : 2 * g.monitorRoom + (rest.map fun v => v.category).sum ≤ 8) (hdg : decode cc g.pc = .ok (.invokestatic index, 3)) (hf : cells + mc ≤ R.cells ∧ slots + ms ≤ R.slots) :
    vx_Run p l e R s m args below meth c H locs cells slots mc ms g rest (Qc As.toArray) XC free := by
  have hK : vx_Back l R p e below s args y 3 8 (PreOf R mc ms Pc) (PostOf Qc mc ms free) (vx_Post XC mc ms free) := vx_callBack cw.1 hM hp.1
  obtain ⟨⟨-, -, -, -, -, -, hcode, hini, hy, hlen, hl⟩, hstt⟩ := cw
  obtain ⟨hx, hb, hml, ho, -⟩ := S
  intro T hT X
  rcases vx_callS X hx (bytes := bytes) (maxL := maxL) (ret := ret) ho hl hstt hini hcode hy hK hg (hsize.trans hml.symm) (argsL := As) (rest := rest) (fun sig h => hn.trans (hlen sig h)) hstack hW (by rw [hb]; exact hdg)
    (fun vm₁ hW₁ => ⟨hf.1, hf.2, hp.2 (T.setVm vm₁) hT hW₁⟩) with ⟨v, vm₁, ⟨U', l2, c2, s2⟩, hW₁, X', ⟨g', mk, t, L, e1, e2, hq, h1, hL, h2, h3⟩, st⟩ | ⟨q, vm₁, ⟨U', l2, c2, s2⟩, hW₁, X', ⟨g', mk, t, L, E, ce, e1, e2, hq, hce, hcv, hcl, h1, hL, h2, h3⟩, st⟩
  · dsimp only [Pt.U, Pt.locs, Pt.cells, Pt.slots] at X' e1 e2 h1 h2 h3 st
    subst h1; subst h2; subst h3
    exact Or.inl ⟨v, (T.setVm vm₁).calling g' mk As.toArray, t, U', L, hT, X', hL, e1, e2, hq, st⟩
  · dsimp only [Pt.U, Pt.locs, Pt.cells, Pt.slots] at X' e1 e2 h1 h2 h3 st hcl
    subst h1; subst h2; subst h3
    exact Or.inr ⟨q, (T.setVm vm₁).calling g' mk As.toArray, t, U', L, E, ce, hT, X', hL, e1, e2, hq, hce, hcv, vx_cls hW₁ hcl, st⟩
end Runs
section Rows
variable {p : Program} {l : Launch} {e : Env} {R : Room} {s : State} {m : MethodId} {args : Array Value} {below : List Frame} {meth : Method} {c : Code} {H : Heap} {locs : List Loc} {cells slots : Nat} {Q : State → Prop}
variable {mc ms : Nat} {free : Addr → Prop} {A0 A1 : Nat → Prop} {H0 : Heap} {a : Array Value} {pc : Nat} {ls : Array Slot} {st0 rest : List Value}
theorem vx_keep {st₀ t T' : State} {L : List Loc} (h0 : st₀.heap = H) (e1 : T'.heap = t.heap) (hS : va_S A0 H0 H locs) (hA : ∀ q, q < H.size → A1 q → A0 q) (hf : ∀ q, free q → A0 q) (hL : ∀ q ∈ L, free q.base) (hF : va_F A1 st₀ t) :
    H.size ≤ T'.heap.size ∧ (∀ q : Nat, q < H.size → ¬ A1 q → T'.heap[q]? = H[q]?) ∧ va_S A0 H0 T'.heap (locs ++ L) := by
  obtain ⟨hz, hk⟩ := hF
  rw [h0] at hz hk
  exact ⟨by rw [e1]; exact hz, fun q h1 h2 => by rw [e1]; exact hk q h1 h2,
    ⟨Nat.le_trans hS.1 (by rw [e1]; exact hz), fun q h1 h2 => by rw [e1, hk q (Nat.lt_of_lt_of_le h1 hS.1) (fun z => h2 (hA q (Nat.lt_of_lt_of_le h1 hS.1) z))]; exact hS.2.1 q h1 h2, fun q hq => by
      rcases List.mem_append.mp hq with h | h
      · exact hS.2.2 q h
      · exact hf _ (hL q h)⟩⟩
theorem vx_calli {S SX : Type} {post : Int32 → S → Prop} {px : SX → Prop} {B : S → State → Prop} {BX : String → SX → State → Prop} {AX : Nat → Prop} (hr : vx_Run p l e R s m args below meth c H locs cells slots mc ms (F0 m pc ls st0) rest (va_Qi post B A1 a) (vx_X px BX AX) free) (hS : va_S A0 H0 H locs) (hA : ∀ q, q < H.size → A1 q → A0 q) (hf : ∀ q, free q → A0 q) (hAX : ∀ q, q < H.size → AX q → A0 q)
    (kx : ∀ (E : String) (ce : Cell) (q9 : Addr) (u : SX) (t : State) (H1 : Heap) (locs1 : List Loc), t.heap = H1 → s.vm.Alike t.vm → px u → BX E u t → H.size ≤ H1.size → (∀ q : Nat, q < H.size → ¬ AX q → H1[q]? = H[q]?) → va_S A0 H0 H1 locs1 → H1[q9]? = some ce → ce.vm = .none → s.vm.findClass E = some ce.cls → vx_W p l e R s m args below meth c H1 locs1 (cells + mc) (slots + ms) Q (F0 m pc ls rest) q9)
    (kk : ∀ (r : Int32) (u : S) (t : State) (H1 : Heap) (locs1 : List Loc), t.heap = H1 → s.vm.Alike t.vm → post r u → B u t → H.size ≤ H1.size → (∀ q : Nat, q < H.size → ¬ A1 q → H1[q]? = H[q]?) → va_S A0 H0 H1 locs1 → W p l e R s m args below meth c H1 locs1 (cells + mc) (slots + ms) Q (F0 m (pc + 3) ls (.int r :: rest))) : W p l e R s m args below meth c H locs cells slots Q (F0 m pc ls st0) := by
  intro T hT X
  rcases hr T hT X with ⟨v, st₀, t, T', L, h0, X', hL, e1, e2, ⟨⟨r, u, hv, hp, hb⟩, hF⟩, st⟩ | ⟨q, st₀, t, T', L, E, ce, h0, X', hL, e1, e2, ⟨u, hp, hb, hF⟩, hce, hcv, hcl, st⟩
  · cases hv
    obtain ⟨k1, k2, k3⟩ := vx_keep h0 e1 hS hA hf hL hF
    obtain ⟨t2, a1, b1⟩ := kk r u t T'.heap (locs ++ L) e1.symm (by rw [← e2]; exact X'.warmed.alike) hp hb k1 k2 k3 T' rfl X'
    exact ⟨t2, st t2 a1, b1⟩
  · obtain ⟨k1, k2, k3⟩ := vx_keep h0 e1 hS hAX hf hL hF
    obtain ⟨t2, a1, b1⟩ := kx E ce q u t T'.heap (locs ++ L) e1.symm (by rw [← e2]; exact X'.warmed.alike) hp hb k1 k2 k3 (by rw [e1]; exact hce) hcv hcl T' rfl X'
    exact ⟨t2, st.trans a1, b1⟩
theorem vx_calll {S SX : Type} {post : Int64 → S → Prop} {px : SX → Prop} {B : S → State → Prop} {BX : String → SX → State → Prop} {AX : Nat → Prop} (hr : vx_Run p l e R s m args below meth c H locs cells slots mc ms (F0 m pc ls st0) rest (va_Ql post B A1 a) (vx_X px BX AX) free) (hS : va_S A0 H0 H locs) (hA : ∀ q, q < H.size → A1 q → A0 q) (hf : ∀ q, free q → A0 q) (hAX : ∀ q, q < H.size → AX q → A0 q)
    (kx : ∀ (E : String) (ce : Cell) (q9 : Addr) (u : SX) (t : State) (H1 : Heap) (locs1 : List Loc), t.heap = H1 → s.vm.Alike t.vm → px u → BX E u t → H.size ≤ H1.size → (∀ q : Nat, q < H.size → ¬ AX q → H1[q]? = H[q]?) → va_S A0 H0 H1 locs1 → H1[q9]? = some ce → ce.vm = .none → s.vm.findClass E = some ce.cls → vx_W p l e R s m args below meth c H1 locs1 (cells + mc) (slots + ms) Q (F0 m pc ls rest) q9)
    (kk : ∀ (r : Int64) (u : S) (t : State) (H1 : Heap) (locs1 : List Loc), t.heap = H1 → s.vm.Alike t.vm → post r u → B u t → H.size ≤ H1.size → (∀ q : Nat, q < H.size → ¬ A1 q → H1[q]? = H[q]?) → va_S A0 H0 H1 locs1 → W p l e R s m args below meth c H1 locs1 (cells + mc) (slots + ms) Q (F0 m (pc + 3) ls (.long r :: rest))) : W p l e R s m args below meth c H locs cells slots Q (F0 m pc ls st0) := by
  intro T hT X
  rcases hr T hT X with ⟨v, st₀, t, T', L, h0, X', hL, e1, e2, ⟨⟨r, u, hv, hp, hb⟩, hF⟩, st⟩ | ⟨q, st₀, t, T', L, E, ce, h0, X', hL, e1, e2, ⟨u, hp, hb, hF⟩, hce, hcv, hcl, st⟩
  · cases hv
    obtain ⟨k1, k2, k3⟩ := vx_keep h0 e1 hS hA hf hL hF
    obtain ⟨t2, a1, b1⟩ := kk r u t T'.heap (locs ++ L) e1.symm (by rw [← e2]; exact X'.warmed.alike) hp hb k1 k2 k3 T' rfl X'
    exact ⟨t2, st t2 a1, b1⟩
  · obtain ⟨k1, k2, k3⟩ := vx_keep h0 e1 hS hAX hf hL hF
    obtain ⟨t2, a1, b1⟩ := kx E ce q u t T'.heap (locs ++ L) e1.symm (by rw [← e2]; exact X'.warmed.alike) hp hb k1 k2 k3 (by rw [e1]; exact hce) hcv hcl T' rfl X'
    exact ⟨t2, st.trans a1, b1⟩
theorem vx_callf {S SX : Type} {post : UInt32 → S → Prop} {px : SX → Prop} {B : S → State → Prop} {BX : String → SX → State → Prop} {AX : Nat → Prop} (hr : vx_Run p l e R s m args below meth c H locs cells slots mc ms (F0 m pc ls st0) rest (va_Qf post B A1 a) (vx_X px BX AX) free) (hS : va_S A0 H0 H locs) (hA : ∀ q, q < H.size → A1 q → A0 q) (hf : ∀ q, free q → A0 q) (hAX : ∀ q, q < H.size → AX q → A0 q)
    (kx : ∀ (E : String) (ce : Cell) (q9 : Addr) (u : SX) (t : State) (H1 : Heap) (locs1 : List Loc), t.heap = H1 → s.vm.Alike t.vm → px u → BX E u t → H.size ≤ H1.size → (∀ q : Nat, q < H.size → ¬ AX q → H1[q]? = H[q]?) → va_S A0 H0 H1 locs1 → H1[q9]? = some ce → ce.vm = .none → s.vm.findClass E = some ce.cls → vx_W p l e R s m args below meth c H1 locs1 (cells + mc) (slots + ms) Q (F0 m pc ls rest) q9)
    (kk : ∀ (r : UInt32) (u : S) (t : State) (H1 : Heap) (locs1 : List Loc), t.heap = H1 → s.vm.Alike t.vm → post r u → B u t → H.size ≤ H1.size → (∀ q : Nat, q < H.size → ¬ A1 q → H1[q]? = H[q]?) → va_S A0 H0 H1 locs1 → W p l e R s m args below meth c H1 locs1 (cells + mc) (slots + ms) Q (F0 m (pc + 3) ls (.float r :: rest))) : W p l e R s m args below meth c H locs cells slots Q (F0 m pc ls st0) := by
  intro T hT X
  rcases hr T hT X with ⟨v, st₀, t, T', L, h0, X', hL, e1, e2, ⟨⟨r, u, hv, hp, hb⟩, hF⟩, st⟩ | ⟨q, st₀, t, T', L, E, ce, h0, X', hL, e1, e2, ⟨u, hp, hb, hF⟩, hce, hcv, hcl, st⟩
  · cases hv
    obtain ⟨k1, k2, k3⟩ := vx_keep h0 e1 hS hA hf hL hF
    obtain ⟨t2, a1, b1⟩ := kk r u t T'.heap (locs ++ L) e1.symm (by rw [← e2]; exact X'.warmed.alike) hp hb k1 k2 k3 T' rfl X'
    exact ⟨t2, st t2 a1, b1⟩
  · obtain ⟨k1, k2, k3⟩ := vx_keep h0 e1 hS hAX hf hL hF
    obtain ⟨t2, a1, b1⟩ := kx E ce q u t T'.heap (locs ++ L) e1.symm (by rw [← e2]; exact X'.warmed.alike) hp hb k1 k2 k3 (by rw [e1]; exact hce) hcv hcl T' rfl X'
    exact ⟨t2, st.trans a1, b1⟩
theorem vx_calld {S SX : Type} {post : UInt64 → S → Prop} {px : SX → Prop} {B : S → State → Prop} {BX : String → SX → State → Prop} {AX : Nat → Prop} (hr : vx_Run p l e R s m args below meth c H locs cells slots mc ms (F0 m pc ls st0) rest (va_Qd post B A1 a) (vx_X px BX AX) free) (hS : va_S A0 H0 H locs) (hA : ∀ q, q < H.size → A1 q → A0 q) (hf : ∀ q, free q → A0 q) (hAX : ∀ q, q < H.size → AX q → A0 q)
    (kx : ∀ (E : String) (ce : Cell) (q9 : Addr) (u : SX) (t : State) (H1 : Heap) (locs1 : List Loc), t.heap = H1 → s.vm.Alike t.vm → px u → BX E u t → H.size ≤ H1.size → (∀ q : Nat, q < H.size → ¬ AX q → H1[q]? = H[q]?) → va_S A0 H0 H1 locs1 → H1[q9]? = some ce → ce.vm = .none → s.vm.findClass E = some ce.cls → vx_W p l e R s m args below meth c H1 locs1 (cells + mc) (slots + ms) Q (F0 m pc ls rest) q9)
    (kk : ∀ (r : UInt64) (u : S) (t : State) (H1 : Heap) (locs1 : List Loc), t.heap = H1 → s.vm.Alike t.vm → post r u → B u t → H.size ≤ H1.size → (∀ q : Nat, q < H.size → ¬ A1 q → H1[q]? = H[q]?) → va_S A0 H0 H1 locs1 → W p l e R s m args below meth c H1 locs1 (cells + mc) (slots + ms) Q (F0 m (pc + 3) ls (.double r :: rest))) : W p l e R s m args below meth c H locs cells slots Q (F0 m pc ls st0) := by
  intro T hT X
  rcases hr T hT X with ⟨v, st₀, t, T', L, h0, X', hL, e1, e2, ⟨⟨r, u, hv, hp, hb⟩, hF⟩, st⟩ | ⟨q, st₀, t, T', L, E, ce, h0, X', hL, e1, e2, ⟨u, hp, hb, hF⟩, hce, hcv, hcl, st⟩
  · cases hv
    obtain ⟨k1, k2, k3⟩ := vx_keep h0 e1 hS hA hf hL hF
    obtain ⟨t2, a1, b1⟩ := kk r u t T'.heap (locs ++ L) e1.symm (by rw [← e2]; exact X'.warmed.alike) hp hb k1 k2 k3 T' rfl X'
    exact ⟨t2, st t2 a1, b1⟩
  · obtain ⟨k1, k2, k3⟩ := vx_keep h0 e1 hS hAX hf hL hF
    obtain ⟨t2, a1, b1⟩ := kx E ce q u t T'.heap (locs ++ L) e1.symm (by rw [← e2]; exact X'.warmed.alike) hp hb k1 k2 k3 (by rw [e1]; exact hce) hcv hcl T' rfl X'
    exact ⟨t2, st.trans a1, b1⟩
theorem vx_callv {S SX : Type} {post : S → Prop} {px : SX → Prop} {B : S → State → Prop} {BX : String → SX → State → Prop} {AX : Nat → Prop} (hr : vx_Run p l e R s m args below meth c H locs cells slots mc ms (F0 m pc ls st0) rest (va_Qv post B A1 a) (vx_X px BX AX) free) (hS : va_S A0 H0 H locs) (hA : ∀ q, q < H.size → A1 q → A0 q) (hf : ∀ q, free q → A0 q) (hAX : ∀ q, q < H.size → AX q → A0 q)
    (kx : ∀ (E : String) (ce : Cell) (q9 : Addr) (u : SX) (t : State) (H1 : Heap) (locs1 : List Loc), t.heap = H1 → s.vm.Alike t.vm → px u → BX E u t → H.size ≤ H1.size → (∀ q : Nat, q < H.size → ¬ AX q → H1[q]? = H[q]?) → va_S A0 H0 H1 locs1 → H1[q9]? = some ce → ce.vm = .none → s.vm.findClass E = some ce.cls → vx_W p l e R s m args below meth c H1 locs1 (cells + mc) (slots + ms) Q (F0 m pc ls rest) q9)
    (kk : ∀ (u : S) (t : State) (H1 : Heap) (locs1 : List Loc), t.heap = H1 → s.vm.Alike t.vm → post u → B u t → H.size ≤ H1.size → (∀ q : Nat, q < H.size → ¬ A1 q → H1[q]? = H[q]?) → va_S A0 H0 H1 locs1 → W p l e R s m args below meth c H1 locs1 (cells + mc) (slots + ms) Q (F0 m (pc + 3) ls (rest))) : W p l e R s m args below meth c H locs cells slots Q (F0 m pc ls st0) := by
  intro T hT X
  rcases hr T hT X with ⟨v, st₀, t, T', L, h0, X', hL, e1, e2, ⟨⟨u, hv, hp, hb⟩, hF⟩, st⟩ | ⟨q, st₀, t, T', L, E, ce, h0, X', hL, e1, e2, ⟨u, hp, hb, hF⟩, hce, hcv, hcl, st⟩
  · cases hv
    obtain ⟨k1, k2, k3⟩ := vx_keep h0 e1 hS hA hf hL hF
    obtain ⟨t2, a1, b1⟩ := kk u t T'.heap (locs ++ L) e1.symm (by rw [← e2]; exact X'.warmed.alike) hp hb k1 k2 k3 T' rfl X'
    exact ⟨t2, st t2 a1, b1⟩
  · obtain ⟨k1, k2, k3⟩ := vx_keep h0 e1 hS hAX hf hL hF
    obtain ⟨t2, a1, b1⟩ := kx E ce q u t T'.heap (locs ++ L) e1.symm (by rw [← e2]; exact X'.warmed.alike) hp hb k1 k2 k3 (by rw [e1]; exact hce) hcv hcl T' rfl X'
    exact ⟨t2, st.trans a1, b1⟩
/-- caught by the row x of this method's table; the rows ahead don't take it -/
theorem vx_catch {own name : String} {E : String} {ce : Cell} {q : Addr} (hown : s.vm.findClass own = some m.cls) (pre : List ExceptionTableEntry) (x : ExceptionTableEntry) (suf : List ExceptionTableEntry) (hsplit : c.exceptionTable.toList = pre ++ x :: suf)
    (hpass : ∀ z ∈ pre, covers z pc = false ∨ (z.catchType ≠ 0 ∧ ∃ nm : String, (Cond.classLink own z.catchType nm).before args s = true ∧ va_Nc E nm s)) (hx : covers x pc = true) (h0 : x.catchType ≠ 0)
    (hlink : (Cond.classLink own x.catchType name).before args s = true) (hcast : (Cond.castable E name).before args s = true) (hcell : H[q]? = some ce) (hv : ce.vm = .none) (hcl : s.vm.findClass E = some ce.cls)
    (kk : W p l e R s m args below meth c H locs cells slots Q (F0 m x.handlerPc ls [.ref q])) : vx_W p l e R s m args below meth c H locs cells slots Q (F0 m pc ls rest) q := by
  intro T hT X
  have hpl : e.platform.magicAccessors = ({} : Platform).magicAccessors := by rw [X.admits.platform]
  obtain ⟨c3, c4, hc3, hc4, hasg⟩ := Cond.castable_spec hcast
  cases Option.some.inj (hc3.symm.trans hcl)
  obtain ⟨c5, hc5, hcl5⟩ := Cond.classLink_spec hown hlink e.platform hpl
  cases Option.some.inj (hc4.symm.trans hc5)
  obtain ⟨vm', X', st⟩ := X.thenCaughtThrough q (g := F0 m pc ls rest) rfl (Steps.refl _) (by rw [hT]; exact hcell) (by rw [hv]; rfl) (by obtain ⟨k9, h9, -⟩ := Vm.findClass_spec hcl; exact ⟨k9, h9⟩) pre x suf hsplit
    (fun z hz => by
      rcases hpass z hz with h | ⟨hz0, nm, hl1, hn1⟩
      · exact Or.inl h
      · obtain ⟨c6, hc6, hcl6⟩ := Cond.classLink_spec hown hl1 e.platform hpl
        obtain ⟨a8, b8, h1, h2, h3⟩ := hn1
        cases Option.some.inj (h1.symm.trans hcl)
        cases Option.some.inj (h2.symm.trans hc6)
        exact Or.inr ⟨hz0, _, hcl6, h3⟩) hx (Or.inr ⟨h0, c4, hcl5, hasg⟩)
  obtain ⟨t, a1, b1⟩ := kk (T.setVm vm') hT X'
  exact ⟨t, st.trans a1, b1⟩
end Rows
section Ends
variable {p : Program} {l : Launch} {e : Env} {R : Room} {s : State} {m : MethodId} {args : Array Value} {below : List Frame} {meth : Method} {c : Code} {H : Heap} {locs : List Loc} {cells slots : Nat} {Q : State → Prop}
variable {mc ms : Nat} {free : Addr → Prop} {A0 A1 : Nat → Prop} {H0 : Heap} {a : Array Value} {ls : Array Slot} {st0 rest : List Value}
variable {Qc : Array Value → State → Outcome → State → Prop} {XC : String → State → State → Prop}
/-- what a body that may throw owes at its end -/
def vx_MQ (below : List Frame) (Qc : Array Value → State → Outcome → State → Prop) (XC : String → State → State → Prop) (a : Array Value) (s : State) (mc ms : Nat) (free : Addr → Prop) : State → Prop := fun t =>
  ∃ o, t.status = .running ∧ Ended t below o ∧ vx_Q Qc XC mc ms free a s o t
theorem vx_ret {g : JFrame} {mc ms : Nat} (k : W p l e R s m args below meth c H locs cells slots (MQ below Qc args s mc ms free) g) : W p l e R s m args below meth c H locs cells slots (vx_MQ below Qc XC args s mc ms free) g := by
  intro T hT X
  obtain ⟨t, a1, o, b1, b2, b3, b4⟩ := k T hT X
  exact ⟨t, a1, o, b1, b2, Or.inl ⟨b3, b4⟩⟩
/-- not caught here: it goes on to the caller -/
theorem vx_widen {g : JFrame} {q : Addr} {k n : Nat} (h1 : cells ≤ k) (h2 : slots ≤ n) (kk : vx_W p l e R s m args below meth c H locs k n Q g q) : vx_W p l e R s m args below meth c H locs cells slots Q g q := fun T hT X => kk T hT (stand_widen X h1 h2)
theorem vx_out {pc : Nat} {E : String} {ce : Cell} {q : Addr} {mc ms : Nat} (hout : ∀ x ∈ c.exceptionTable.toList, covers x pc = false) (hlocks : meth.locks = false) (hcell : H[q]? = some ce) (hv : ce.vm = .none) (hcl : s.vm.findClass E = some ce.cls)
    (hx : ∀ t : State, t.heap = H → s.vm.Alike t.vm → XC E s t) (hf : ∀ z ∈ locs, free z.base) (hc : cells ≤ mc) (hs : slots ≤ ms) :
    vx_W p l e R s m args below meth c H locs cells slots (vx_MQ below Qc XC args s mc ms free) (F0 m pc ls rest) q := by
  intro T hT X
  obtain ⟨st1, hrun, hend, hW, hsm⟩ := X.leaveThrown q (g := F0 m pc ls rest) rfl rfl rfl hout hlocks
  have hcell9 : (T.setFrames (.throwing q :: below)).heap[q]? = some ce := by
    show T.heap[q]? = some ce
    rw [hT]; exact hcell
  exact ⟨_, st1, .threw q, hrun, hend, Or.inr ⟨q, rfl, E, ce, locs, hx _ hT hW.alike, hcell9, hv, hcl, hW, hsm.mono hc hs, hf⟩⟩
theorem vx_frame {U : State} {k n : Nat} (h : s.sameButNew ({ U with vm := s.vm } : State) locs k n) : s.heap.size ≤ U.heap.size ∧ ∀ q : Nat, q < s.heap.size → (∀ z ∈ locs, z.base ≠ q) → U.heap[q]? = s.heap[q]? := by
  obtain ⟨-, h2, -, -, -, h6⟩ := h
  refine ⟨h2, fun q hq hz => ?_⟩
  obtain ⟨c9, e1, e2, e3, e4⟩ := h6 q _ (Array.getElem?_eq_getElem hq)
  have hs : c9.slots = (s.heap[q]).slots := Array.ext_getElem? fun i => e4 i fun hm => hz _ hm rfl
  have h9 : c9 = s.heap[q] := by
    rw [hs] at e2
    exact e2
  have e5 : U.heap[q]? = some c9 := e1
  rw [e5, h9, Array.getElem?_eq_getElem hq]
/-- the words of a throw but the four that speak of the heap -/
def vx_no (w : Cond) : Bool := decide (w ≠ .isRef (.static Bundle.tN "UNASSIGNED_STACK" Bundle.steD)) && decide (w ≠ .isRef (.static Bundle.tN "SUPPRESSED_SENTINEL" Bundle.listD)) && decide (w ≠ .laysStatic Bundle.tN "UNASSIGNED_STACK" Bundle.steD) && decide (w ≠ .laysStatic Bundle.tN "SUPPRESSED_SENTINEL" Bundle.listD)
def vx_at0 (own : String) (ic : Nat) (X : String) (names : List String) : List Cond := (Bundle.ownAtoms0 own ic X names).filter vx_no
def vx_atS (own : String) (ic : Nat) (X : String) (names : List String) : List Cond := (Bundle.ownAtoms own ic X names).filter vx_no
/-- a word that the tables alone decide, or a good one -/
def vx_ot (w : Cond) : Bool := w.onTables || goodWord w
theorem vx_ot_at {args a' : Array Value} {s U : State} {w : Cond} (hW : s.WarmedH U.vm) (hvm : s.vm = U.vm) (hg : vx_ot w = true) (h : w.before args s = true) : w.before a' U = true := by
  simp only [vx_ot, Bool.or_eq_true] at hg
  rcases hg with hg | hg
  · exact va_tabs hg hvm h
  · exact word_at hW (good_of_word hg) h
/-- a list's words: the good ones out of the method's own list, the others by premises of their own -/
theorem vx_hat {args : Array Value} {s : State} {L B : List Cond} (h1 : ∀ w ∈ L.filter goodWord, w.before args s = true) (h2 : ∀ w ∈ L.filter (fun w => !goodWord w), w ∈ B) (h3 : ∀ w ∈ B, w.before args s = true) : ∀ w ∈ L, w.before args s = true := by
  intro w hw
  by_cases g : goodWord w = true
  · exact h1 w (List.mem_filter.mpr ⟨hw, g⟩)
  · refine h3 w (h2 w (List.mem_filter.mpr ⟨hw, ?_⟩))
    show (!goodWord w) = true
    cases hgw : goodWord w
    · rfl
    · exact absurd hgw g
theorem vx_c {args : Array Value} {s : State} {w : Cond} {B : List Cond} (h : w.before args s = true) (t : ∀ w ∈ B, w.before args s = true) : ∀ w' ∈ w :: B, w'.before args s = true := fun w' h' => (List.mem_cons.mp h').elim (fun e => by rw [e]; exact h) (t w')
theorem vx_n {args : Array Value} {s : State} : ∀ w ∈ ([] : List Cond), w.before args s = true := fun _ h => nomatch h
theorem vx_own {args : Array Value} {s : State} {L : List Cond} (h1 : ∀ w ∈ L.filter vx_no, w.before args s = true)
    (hU : (Cond.isRef (.static Bundle.tN "UNASSIGNED_STACK" Bundle.steD)).before args s = true) (hN : (Cond.isRef (.static Bundle.tN "SUPPRESSED_SENTINEL" Bundle.listD)).before args s = true)
    (lU : (Cond.laysStatic Bundle.tN "UNASSIGNED_STACK" Bundle.steD).before args s = true) (lN : (Cond.laysStatic Bundle.tN "SUPPRESSED_SENTINEL" Bundle.listD).before args s = true) : ∀ w ∈ L, w.before args s = true := by
  intro w hw
  by_cases e1 : w = .isRef (.static Bundle.tN "UNASSIGNED_STACK" Bundle.steD)
  · rw [e1]; exact hU
  · by_cases e2 : w = .isRef (.static Bundle.tN "SUPPRESSED_SENTINEL" Bundle.listD)
    · rw [e2]; exact hN
    · by_cases e3 : w = .laysStatic Bundle.tN "UNASSIGNED_STACK" Bundle.steD
      · rw [e3]; exact lU
      · by_cases e4 : w = .laysStatic Bundle.tN "SUPPRESSED_SENTINEL" Bundle.listD
        · rw [e4]; exact lN
        · exact h1 w (List.mem_filter.mpr ⟨hw, by unfold vx_no; rw [decide_eq_true e1, decide_eq_true e2, decide_eq_true e3, decide_eq_true e4]; rfl⟩)
/-- where a static field lies, its class's statics cell in H -/
def vx_L (C n d : String) (A : Nat → Prop) (U : State) (H : Heap) : Prop := ∃ (c : ClassId) (k : Class) (i : Nat) (f : Field) (a : Nat) (cell : Cell), U.vm.findClass C = some c ∧ U.fieldFound? C n d = some (c, k, i, f) ∧ f.isStatic = true ∧ k.statics = some a ∧ H[a]? = some cell ∧ cell.vm.isStatics = true ∧ cell.cls = c ∧ f.slot < cell.slots.size ∧ k.staticTypes[f.slot]? = some f.type ∧ ¬ A a
theorem vx_L.moved {C n d : String} {A : Nat → Prop} {u U : State} {H : Heap} (hvm : u.vm.Alike U.vm) (h : vx_L C n d A u H) : vx_L C n d A U H := by
  obtain ⟨c, k, i, f, a, cell, h1, h2, h3, h4, h5, h6, h7, h8, h9, h10⟩ := h
  obtain ⟨k', hi', he⟩ := State.fieldFound?_setVm hvm h2
  exact ⟨c, k', i, f, a, cell, by rw [hvm.findClass]; exact h1, hi', h3, by rw [he]; exact h4, h5, h6, h7, h8, by rw [he]; exact h9, h10⟩
theorem vx_L.kept {C n d : String} {A : Nat → Prop} {U : State} {H H1 : Heap} (h : vx_L C n d A U H) (hq : ∀ a : Nat, a < H.size → ¬ A a → H1[a]? = H[a]?) : vx_L C n d A U H1 := by
  obtain ⟨c, k, i, f, a, cell, h1, h2, h3, h4, h5, h6, h7, h8, h9, h10⟩ := h
  exact ⟨c, k, i, f, a, cell, h1, h2, h3, h4, by rw [hq a (Array.getElem?_eq_some_iff.mp h5).1 h10]; exact h5, h6, h7, h8, h9, h10⟩
theorem vx_L.narrow {C n d : String} {A B : Nat → Prop} {U : State} {H : Heap} (h : vx_L C n d A U H) (hAB : ∀ q, B q → A q) : vx_L C n d B U H := by
  obtain ⟨c, k, i, f, a, cell, h1, h2, h3, h4, h5, h6, h7, h8, h9, h10⟩ := h
  exact ⟨c, k, i, f, a, cell, h1, h2, h3, h4, h5, h6, h7, h8, h9, fun z => h10 (hAB _ z)⟩
theorem vx_L.word {C n d : String} {A : Nat → Prop} {s : State} {args : Array Value} (h : vx_L C n d A s s.heap) : (Cond.laysStatic C n d).before args s = true := by
  obtain ⟨c, k, i, f, a, cell, h1, h2, h3, h4, h5, h6, h7, h8, h9, -⟩ := h
  show (Cond.laysStatic C n d).holds args s none s [] = true
  exact Cond.laysStatic_of h1 h2 h3 h4 h5 h6 h7 h8 h9
/-- .. and what it holds: null or some reference -/
def vx_Zq (C n d : String) (A : Nat → Prop) (U : State) (H : Heap) : Prop := va_Zq C n d A U H ∧ vx_L C n d A U H
theorem vx_Zq.moved {C n d : String} {A : Nat → Prop} {u U : State} {H : Heap} (hvm : u.vm.Alike U.vm) (h : vx_Zq C n d A u H) : vx_Zq C n d A U H := ⟨va_Zq.moved hvm h.1, vx_L.moved hvm h.2⟩
theorem vx_Zq.kept {C n d : String} {A : Nat → Prop} {U : State} {H H1 : Heap} (h : vx_Zq C n d A U H) (hq : ∀ a : Nat, a < H.size → ¬ A a → H1[a]? = H[a]?) : vx_Zq C n d A U H1 := ⟨va_Zq.kept h.1 hq, vx_L.kept h.2 hq⟩
theorem vx_Zq.narrow {C n d : String} {A B : Nat → Prop} {U : State} {H : Heap} (h : vx_Zq C n d A U H) (hAB : ∀ q, B q → A q) : vx_Zq C n d B U H := ⟨va_Zq.narrow h.1 hAB, vx_L.narrow h.2 hAB⟩
theorem vx_Zqof {args : Array Value} {s : State} {C n d : String} {A : Nat → Prop} (hl : (Cond.laysStatic C n d).before args s = true) (hini : (Cond.initialized C).before args s = true) (h : (Cond.isRef (.static C n d)).before args s = true) (hA : ∀ a : Nat, a < s.heap.size → ¬ A a) : vx_Zq C n d A s s.heap := by
  refine ⟨va_Zqof hl hini h hA, ?_⟩
  obtain ⟨c, k, i, f, a, cell, h1, h2, h3, h4, h5, h6, h7, h8, h9⟩ := Cond.laysStatic_spec hl
  exact ⟨c, k, i, f, a, cell, h1, h2, h3, h4, h5, h6, h7, h8, h9, hA a (Array.getElem?_eq_some_iff.mp h5).1⟩
theorem vx_isRef {C n d : String} {v : Value} {A : Nat → Prop} {s : State} {args : Array Value} (h : va_Z C n d v A s s.heap) (hv : v.isRef = true) : (Cond.isRef (.static C n d)).before args s = true := by
  obtain ⟨cf, kf, fi, f, a, cell, h1, h2, h3, h4, h5, h6, h7, -⟩ := h
  have he : (Term.static C n d).eval args s none [] s = some v := by
    simp [Term.eval, State.fieldNamed?, h1, h2, h4, h5, h6, h7]
  simp only [Cond.before, Cond.holds, Cond.value, he]
  cases v <;> simp_all [Value.isRef]
theorem vx_isRefq {C n d : String} {A : Nat → Prop} {s : State} {args : Array Value} (h : va_Zq C n d A s s.heap) : (Cond.isRef (.static C n d)).before args s = true := by
  rcases h with h | ⟨t, h⟩
  · exact vx_isRef h rfl
  · exact vx_isRef h rfl
/-- the same frame, seen from here: as if the method were called anew in this heap -/
theorem vx_rebase {T : State} (X : Stand p l e R s m args below meth c T locs cells slots) {R' : Room} (hf : R'.frames ≤ R.frames) (hl : R'.locals ≤ R.locals) (hc : cells + R'.cells ≤ R.cells) (hs : slots + R'.slots ≤ R.slots) :
    Stand p l e R' ((T.setVm s.vm).setFrames (.invoking m args :: below)) m args below meth c T [] 0 0 := by
  have htop : (T.setVm s.vm).topJava?.isSome := X.here.top
  have hF : ((T.setVm s.vm).setFrames (.invoking m args :: below)).frames = .invoking m args :: below := State.frames_setFrames _ (State.cur_lt_of_top htop)
  obtain ⟨g₀, hg0⟩ := Option.isSome_iff_exists.mp htop
  obtain ⟨r, hr⟩ := State.topJava?_eq_some.mp hg0
  have hl9 : e.platform.stackLimits (T.setVm s.vm).me = e.platform.stackLimits s.me := X.limits
  have hb9 : (T.setVm s.vm).me.stackBytes = s.me.stackBytes := X.bytes
  refine ⟨X.admits, X.cas, X.clock, hF, ?_, X.hears, X.method, X.code, X.here, X.tail, X.warmed, ?_, ?_, ?_⟩
  · have h := X.room
    have hU : ((T.setVm s.vm).setFrames (.invoking m args :: below)).localsInUse = s.localsInUse := by
      rw [State.localsInUse_invoking hF (meth := meth) (c := c) X.method X.code, State.localsInUse_invoking X.frames X.method X.code]
    simp only [State.hasRoom, Bool.and_eq_true, decide_eq_true_eq] at h ⊢
    obtain ⟨⟨⟨⟨h1, h2, h3, h4, h5, h6⟩, h7⟩, h8⟩, h9⟩ := h
    rw [X.frames, List.length_cons] at h2 h3
    have q1 := X.heapSize
    have q2 := X.used
    simp only [hF, hU, List.length_cons, State.stackLimits_setFrames, State.stackBytes_setFrames, hl9, hb9]
    refine ⟨⟨⟨⟨by omega, by omega, by omega, by omega, by omega, h6⟩, ?_⟩, ?_⟩, X.book⟩
    · show T.heap.size + R'.cells ≤ e.platform.maxCells
      omega
    · show T.slotsUsed + R'.slots ≤ e.platform.maxSlots
      omega
  · rw [State.stackLimits_setFrames]; rfl
  · rw [State.stackBytes_setFrames]; rfl
  · refine ⟨?_, Nat.le_refl _, Nat.le_refl _, ?_, ?_, fun a c9 h9 => ⟨c9, h9, rfl, rfl, fun _ _ => rfl⟩⟩
    · obtain ⟨t, ht, -⟩ := State.frames_cons hr
      show T.setVm s.vm = { ((T.setVm s.vm).setFrames (.invoking m args :: below)).setFrames (T.setVm s.vm).frames with heap := T.heap, slotsUsed := T.slotsUsed }
      rw [State.setFrames_setFrames, State.setFrames_self ht]
      rfl
    · show T.slotsUsed = T.slotsUsed + ((T.heap.toList.drop T.heap.size).map (·.slots.size)).sum
      rw [List.drop_eq_nil_of_le (Nat.le_of_eq Array.length_toList)]
      rfl
    · show ((T.heap.toList.drop T.heap.size).map (·.slots.size)).sum ≤ 0
      rw [List.drop_eq_nil_of_le (Nat.le_of_eq Array.length_toList)]
      exact Nat.le_refl _
/-- 'throw new E()': new; dup; invokespecial; athrow -/
theorem vx_throw0 {cc : ByteArray} {pc : Nat} (hexec : p.tables.exec = Jvm.exec) (hb : c.code = cc) (hl : l.stackTraces = false) {own cls : String} {names : List String} {ik ic mc ms : Nat} {A : Nat → Prop}
    (hown : s.vm.findClass own = some m.cls) (hcls : Bundle.fit cls = true) (hnames : ∀ n ∈ names, Bundle.fit n = true)
    (hk : (Cond.classLink own ik cls).before args s = true) (hini : (Cond.initialized cls).before args s = true) (hat : ∀ w ∈ vx_at0 own ic cls names, w.before args s = true)
    (hgood : ∀ w ∈ Cond.classLink own ik cls :: Cond.initialized cls :: vx_at0 own ic cls names, vx_ot w = true)
    (hU : vx_Zq Bundle.tN "UNASSIGNED_STACK" Bundle.steD A s s.heap) (hN : vx_Zq Bundle.tN "SUPPRESSED_SENTINEL" Bundle.listD A s s.heap) (hS : va_S A s.heap H locs) (hsize : ls.size = c.maxLocals)
    (d0 : decode cc pc = .ok (.new ik, 3)) (d3 : decode cc (pc + 3) = .ok (.dup, 1)) (d4 : decode cc (pc + 4) = .ok (.invokespecial ic, 3)) (d7 : decode cc (pc + 7) = .ok (.athrow, 1))
    (hout : ∀ x ∈ c.exceptionTable.toList, covers x (pc + 7) = false)
    (hRframes : names.length + 3 < R.frames) (hRlocals : (rest.map fun v => v.category).sum + (13 * (names.length + 1) + 42) ≤ R.locals) (hRcells : cells + 1 ≤ R.cells) (hRslots : slots + 6 ≤ R.slots) (hlocks : meth.locks = false)
    (hx : ∀ t : State, s.vm.Alike t.vm → H.size ≤ t.heap.size → (∀ q : Nat, q < H.size → t.heap[q]? = H[q]?) → XC cls s t)
    (hf : ∀ z ∈ locs, free z.base) (hc : cells + 1 ≤ mc) (hs : slots + 6 ≤ ms) :
    W p l e R s m args below meth c H locs cells slots (vx_MQ below Qc XC args s mc ms free) (F0 m pc ls rest) := by
  intro T hT X
  have htr : e.platform.stackTraces = false := (show e.platform.stackTraces = l.stackTraces by rw [X.admits.platform]).trans hl
  have Y := vx_rebase X (R' := { frames := R.frames, locals := R.locals, cells := 1, slots := 6 }) (Nat.le_refl _) (Nat.le_refl _) hRcells hRslots
  obtain ⟨s', hA⟩ : ∃ z, z = (T.setVm s.vm).setFrames (.invoking m args :: below) := ⟨_, rfl⟩
  rw [← hA] at Y
  have hvm : s'.vm = s.vm := by rw [hA]; rfl
  have hhp : s'.heap = H := by rw [hA]; exact hT
  have hW0 : s.WarmedH s'.vm := by rw [hvm]; exact State.WarmedH.refl s
  have hat' : ∀ w ∈ vx_at0 own ic cls names, w.before args s' = true := fun w hw => vx_ot_at hW0 hvm.symm (hgood w (List.mem_cons_of_mem _ (List.mem_cons_of_mem _ hw))) (hat w hw)
  have hk' : (Cond.classLink own ik cls).before args s' = true := vx_ot_at hW0 hvm.symm (hgood _ List.mem_cons_self) hk
  have hini' : (Cond.initialized cls).before args s' = true := vx_ot_at hW0 hvm.symm (hgood _ (List.mem_cons_of_mem _ List.mem_cons_self)) hini
  have hU' : vx_Zq Bundle.tN "UNASSIGNED_STACK" Bundle.steD A s' s'.heap := by rw [hhp]; exact vx_Zq.moved hW0.alike (hU.kept hS.2.1)
  have hN' : vx_Zq Bundle.tN "SUPPRESSED_SENTINEL" Bundle.listD A s' s'.heap := by rw [hhp]; exact vx_Zq.moved hW0.alike (hN.kept hS.2.1)
  have h : ∀ w ∈ Bundle.ownAtoms0 own ic cls names, w.before args s' = true := vx_own hat' (vx_isRefq hU'.1) (vx_isRefq hN'.1) hU'.2.word hN'.2.word
  have hown' : s'.vm.findClass own = some m.cls := by rw [hvm]; exact hown
  have hins : (Cond.instantiable cls 6).before args s' = true := h _ (by simp [Bundle.ownAtoms0])
  obtain ⟨vm₁, cX, kX, hfX, hkX, -, -, X₁, st1⟩ := Y.newCold hexec (own := own) (C := cls) (index := ik) (n := 6) hown' hk' hins hini'
    (g := F0 m pc ls rest) rfl (by rw [hb]; exact d0) (Nat.le_refl _) (Nat.le_refl _)
  generalize hT1 : (T.setVm vm₁).pushCell { cls := cX, slots := kX.instanceTypes.map defaultValue, vm := .none } = T1 at X₁ st1
  have hcat : (Value.ref T.heap.size).category = 1 := rfl
  have hcellA : T1.heap[T.heap.size]? = some (freshCell cX kX) := by rw [← hT1]; exact State.heap_pushCell_size _ _
  have d3' : decode c.code (pc + 3) = .ok (.dup, 1) := by rw [hb]; exact d3
  obtain ⟨U, hsteps, hrun, hend, hW, hsame, ce, hce, hO⟩ := X₁.ctorThrow0 hexec htr (own := own) (cls := cls) (names := names) (ic := ic) hown' hcls hnames h (fun x hx => nomatch hx) hfX hkX hcellA (by rw [hhp, hT]; exact Nat.le_refl _)
    (g := { method := m, pc := pc + 4, locals := ls, stack := .ref T.heap.size :: .ref T.heap.size :: rest, locked := none }) rfl hsize rfl rfl (rest := rest) rfl
    (by rw [hb]; exact d4) (by rw [hb]; exact d7) hout hRframes (by simp only [List.map_cons, List.sum_cons, hcat]; omega) hlocks
  obtain ⟨f1, f2⟩ := vx_frame hsame
  rw [hhp] at f1 f2
  have hWs : s.WarmedH U.vm := State.WarmedH.trans hW0 hW
  have hcl : s.vm.findClass cls = some ce.cls := by
    have h9 := hO.cls
    rw [hvm] at h9
    exact h9
  have hall : s.sameButNew ({ U with vm := s.vm } : State) locs mc ms := by
    subst hA
    obtain ⟨e1, e2⟩ := hsame
    rw [State.setFrames_setFrames] at e1
    have h2 : (T.setVm s.vm).sameButNew ({ U with vm := s.vm } : State) [] (0 + 1) (0 + 6) := ⟨e1, e2⟩
    have h3 := X.same.trans h2
    rw [List.append_nil] at h3
    exact h3.mono hc hs
  refine ⟨U, ?_, .threw T.heap.size, hrun, hend, Or.inr ⟨T.heap.size, rfl, cls, ce, locs, hx U hWs.alike f1 (fun q hq => f2 q hq (fun z hz => nomatch hz)), hce, hO.vm, hcl, hWs, hall, hf⟩⟩
  refine st1 _ ?_
  show Steps p.tables e below (T1.setTop { method := m, pc := pc + 3, locals := ls, stack := .ref T.heap.size :: rest, locked := none }) _
  jvm_step X₁.here [X₁.here.top, hexec, d3', Value.category]
  exact hsteps
/-- 'throw new E("text")': new; dup; ldc; invokespecial; athrow -/
theorem vx_throwS {cc : ByteArray} {pc : Nat} (hexec : p.tables.exec = Jvm.exec) (hb : c.code = cc) (hl : l.stackTraces = false) {own cls text : String} {names : List String} {ik is ic mc ms sa : Nat} {A : Nat → Prop}
    (hown : s.vm.findClass own = some m.cls) (hcls : Bundle.fit cls = true) (hnames : ∀ n ∈ names, Bundle.fit n = true)
    (hk : (Cond.classLink own ik cls).before args s = true) (hini : (Cond.initialized cls).before args s = true) (hstr : vk_R own is text sa s) (hat : ∀ w ∈ vx_atS own ic cls names, w.before args s = true)
    (hgood : ∀ w ∈ Cond.classLink own ik cls :: Cond.initialized cls :: vx_atS own ic cls names, vx_ot w = true)
    (hU : vx_Zq Bundle.tN "UNASSIGNED_STACK" Bundle.steD A s s.heap) (hN : vx_Zq Bundle.tN "SUPPRESSED_SENTINEL" Bundle.listD A s s.heap) (hS : va_S A s.heap H locs) (hsize : ls.size = c.maxLocals)
    (d0 : decode cc pc = .ok (.new ik, 3)) (d3 : decode cc (pc + 3) = .ok (.dup, 1)) (d4 : decode cc (pc + 4) = .ok (.ldc is, 2)) (d6 : decode cc (pc + 6) = .ok (.invokespecial ic, 3)) (d9 : decode cc (pc + 9) = .ok (.athrow, 1))
    (hout : ∀ x ∈ c.exceptionTable.toList, covers x (pc + 9) = false)
    (hRframes : names.length + 3 < R.frames) (hRlocals : (rest.map fun v => v.category).sum + (13 * (names.length + 1) + 43) ≤ R.locals) (hRcells : cells + 1 ≤ R.cells) (hRslots : slots + 6 ≤ R.slots) (hlocks : meth.locks = false)
    (hx : ∀ t : State, s.vm.Alike t.vm → H.size ≤ t.heap.size → (∀ q : Nat, q < H.size → t.heap[q]? = H[q]?) → XC cls s t)
    (hf : ∀ z ∈ locs, free z.base) (hc : cells + 1 ≤ mc) (hs : slots + 6 ≤ ms) :
    W p l e R s m args below meth c H locs cells slots (vx_MQ below Qc XC args s mc ms free) (F0 m pc ls rest) := by
  intro T hT X
  have htr : e.platform.stackTraces = false := (show e.platform.stackTraces = l.stackTraces by rw [X.admits.platform]).trans hl
  have Y := vx_rebase X (R' := { frames := R.frames, locals := R.locals, cells := 1, slots := 6 }) (Nat.le_refl _) (Nat.le_refl _) hRcells hRslots
  obtain ⟨s', hA⟩ : ∃ z, z = (T.setVm s.vm).setFrames (.invoking m args :: below) := ⟨_, rfl⟩
  rw [← hA] at Y
  have hvm : s'.vm = s.vm := by rw [hA]; rfl
  have hhp : s'.heap = H := by rw [hA]; exact hT
  have hW0 : s.WarmedH s'.vm := by rw [hvm]; exact State.WarmedH.refl s
  have hat' : ∀ w ∈ vx_atS own ic cls names, w.before args s' = true := fun w hw => vx_ot_at hW0 hvm.symm (hgood w (List.mem_cons_of_mem _ (List.mem_cons_of_mem _ hw))) (hat w hw)
  have hk' : (Cond.classLink own ik cls).before args s' = true := vx_ot_at hW0 hvm.symm (hgood _ List.mem_cons_self) hk
  have hini' : (Cond.initialized cls).before args s' = true := vx_ot_at hW0 hvm.symm (hgood _ (List.mem_cons_of_mem _ List.mem_cons_self)) hini
  have hU' : vx_Zq Bundle.tN "UNASSIGNED_STACK" Bundle.steD A s' s'.heap := by rw [hhp]; exact vx_Zq.moved hW0.alike (hU.kept hS.2.1)
  have hN' : vx_Zq Bundle.tN "SUPPRESSED_SENTINEL" Bundle.listD A s' s'.heap := by rw [hhp]; exact vx_Zq.moved hW0.alike (hN.kept hS.2.1)
  have h : ∀ w ∈ Bundle.ownAtoms own ic cls names, w.before args s' = true := vx_own hat' (vx_isRefq hU'.1) (vx_isRefq hN'.1) hU'.2.word hN'.2.word
  have hown' : s'.vm.findClass own = some m.cls := by rw [hvm]; exact hown
  have hins : (Cond.instantiable cls 6).before args s' = true := h _ (by simp [Bundle.ownAtoms])
  obtain ⟨vm₁, cX, kX, hfX, hkX, -, -, X₁, st1⟩ := Y.newCold hexec (own := own) (C := cls) (index := ik) (n := 6) hown' hk' hins hini'
    (g := F0 m pc ls rest) rfl (by rw [hb]; exact d0) (Nat.le_refl _) (Nat.le_refl _)
  generalize hT1 : (T.setVm vm₁).pushCell { cls := cX, slots := kX.instanceTypes.map defaultValue, vm := .none } = T1 at X₁ st1
  have hcat : (Value.ref T.heap.size).category = 1 := rfl
  have hcellA : T1.heap[T.heap.size]? = some (freshCell cX kX) := by rw [← hT1]; exact State.heap_pushCell_size _ _
  have d3' : decode c.code (pc + 3) = .ok (.dup, 1) := by rw [hb]; exact d3
  have d4' : decode c.code (pc + 4) = .ok (.ldc is, 2) := by rw [hb]; exact d4
  have hstr' : vk_R own is text sa s' := vk_R.warm hW0 hstr
  obtain ⟨U, hsteps, hrun, hend, hW, hsame, ce, hce, hO⟩ := X₁.ctorThrowS hexec htr (own := own) (cls := cls) (names := names) (ic := ic) hown' hcls hnames h (fun x hx => nomatch hx) hfX hkX hcellA (by rw [hhp, hT]; exact Nat.le_refl _) (msg := .ref sa) rfl
    (g := { method := m, pc := pc + 6, locals := ls, stack := .ref sa :: .ref T.heap.size :: .ref T.heap.size :: rest, locked := none }) rfl hsize rfl rfl (rest := rest) rfl
    (by rw [hb]; exact d6) (by rw [hb]; exact d9) hout hRframes (by simp only [List.map_cons, List.sum_cons, hcat]; omega) hlocks
  obtain ⟨f1, f2⟩ := vx_frame hsame
  rw [hhp] at f1 f2
  have hWs : s.WarmedH U.vm := State.WarmedH.trans hW0 hW
  have hcl : s.vm.findClass cls = some ce.cls := by
    have h9 := hO.cls
    rw [hvm] at h9
    exact h9
  have hall : s.sameButNew ({ U with vm := s.vm } : State) locs mc ms := by
    subst hA
    obtain ⟨e1, e2⟩ := hsame
    rw [State.setFrames_setFrames] at e1
    have h2 : (T.setVm s.vm).sameButNew ({ U with vm := s.vm } : State) [] (0 + 1) (0 + 6) := ⟨e1, e2⟩
    have h3 := X.same.trans h2
    rw [List.append_nil] at h3
    exact h3.mono hc hs
  refine ⟨U, ?_, .threw T.heap.size, hrun, hend, Or.inr ⟨T.heap.size, rfl, cls, ce, locs, hx U hWs.alike f1 (fun q hq => f2 q hq (fun z hz => nomatch hz)), hce, hO.vm, hcl, hWs, hall, hf⟩⟩
  refine st1 _ ?_
  show Steps p.tables e below (T1.setTop { method := m, pc := pc + 3, locals := ls, stack := .ref T.heap.size :: rest, locked := none }) _
  jvm_step X₁.here [X₁.here.top, hexec, d3', Value.category]
  exact X₁.ldcString hexec (own := own) (text := text) (index := is) (a := sa) hown' hstr'.1 hstr'.2
    (g := { method := m, pc := pc + 4, locals := ls, stack := .ref T.heap.size :: .ref T.heap.size :: rest, locked := none }) rfl d4' _ hsteps
/-- 'throw new E("text")', the text by a wide index -/
theorem vx_throwSW {cc : ByteArray} {pc : Nat} (hexec : p.tables.exec = Jvm.exec) (hb : c.code = cc) (hl : l.stackTraces = false) {own cls text : String} {names : List String} {ik is ic mc ms sa : Nat} {A : Nat → Prop}
    (hown : s.vm.findClass own = some m.cls) (hcls : Bundle.fit cls = true) (hnames : ∀ n ∈ names, Bundle.fit n = true)
    (hk : (Cond.classLink own ik cls).before args s = true) (hini : (Cond.initialized cls).before args s = true) (hstr : vk_R own is text sa s) (hat : ∀ w ∈ vx_atS own ic cls names, w.before args s = true)
    (hgood : ∀ w ∈ Cond.classLink own ik cls :: Cond.initialized cls :: vx_atS own ic cls names, vx_ot w = true)
    (hU : vx_Zq Bundle.tN "UNASSIGNED_STACK" Bundle.steD A s s.heap) (hN : vx_Zq Bundle.tN "SUPPRESSED_SENTINEL" Bundle.listD A s s.heap) (hS : va_S A s.heap H locs) (hsize : ls.size = c.maxLocals)
    (d0 : decode cc pc = .ok (.new ik, 3)) (d3 : decode cc (pc + 3) = .ok (.dup, 1)) (d4 : decode cc (pc + 4) = .ok (.ldc_w is, 3)) (d7 : decode cc (pc + 7) = .ok (.invokespecial ic, 3)) (d10 : decode cc (pc + 10) = .ok (.athrow, 1))
    (hout : ∀ x ∈ c.exceptionTable.toList, covers x (pc + 10) = false)
    (hRframes : names.length + 3 < R.frames) (hRlocals : (rest.map fun v => v.category).sum + (13 * (names.length + 1) + 43) ≤ R.locals) (hRcells : cells + 1 ≤ R.cells) (hRslots : slots + 6 ≤ R.slots) (hlocks : meth.locks = false)
    (hx : ∀ t : State, s.vm.Alike t.vm → H.size ≤ t.heap.size → (∀ q : Nat, q < H.size → t.heap[q]? = H[q]?) → XC cls s t)
    (hf : ∀ z ∈ locs, free z.base) (hc : cells + 1 ≤ mc) (hs : slots + 6 ≤ ms) :
    W p l e R s m args below meth c H locs cells slots (vx_MQ below Qc XC args s mc ms free) (F0 m pc ls rest) := by
  intro T hT X
  have htr : e.platform.stackTraces = false := (show e.platform.stackTraces = l.stackTraces by rw [X.admits.platform]).trans hl
  have Y := vx_rebase X (R' := { frames := R.frames, locals := R.locals, cells := 1, slots := 6 }) (Nat.le_refl _) (Nat.le_refl _) hRcells hRslots
  obtain ⟨s', hA⟩ : ∃ z, z = (T.setVm s.vm).setFrames (.invoking m args :: below) := ⟨_, rfl⟩
  rw [← hA] at Y
  have hvm : s'.vm = s.vm := by rw [hA]; rfl
  have hhp : s'.heap = H := by rw [hA]; exact hT
  have hW0 : s.WarmedH s'.vm := by rw [hvm]; exact State.WarmedH.refl s
  have hat' : ∀ w ∈ vx_atS own ic cls names, w.before args s' = true := fun w hw => vx_ot_at hW0 hvm.symm (hgood w (List.mem_cons_of_mem _ (List.mem_cons_of_mem _ hw))) (hat w hw)
  have hk' : (Cond.classLink own ik cls).before args s' = true := vx_ot_at hW0 hvm.symm (hgood _ List.mem_cons_self) hk
  have hini' : (Cond.initialized cls).before args s' = true := vx_ot_at hW0 hvm.symm (hgood _ (List.mem_cons_of_mem _ List.mem_cons_self)) hini
  have hU' : vx_Zq Bundle.tN "UNASSIGNED_STACK" Bundle.steD A s' s'.heap := by rw [hhp]; exact vx_Zq.moved hW0.alike (hU.kept hS.2.1)
  have hN' : vx_Zq Bundle.tN "SUPPRESSED_SENTINEL" Bundle.listD A s' s'.heap := by rw [hhp]; exact vx_Zq.moved hW0.alike (hN.kept hS.2.1)
  have h : ∀ w ∈ Bundle.ownAtoms own ic cls names, w.before args s' = true := vx_own hat' (vx_isRefq hU'.1) (vx_isRefq hN'.1) hU'.2.word hN'.2.word
  have hown' : s'.vm.findClass own = some m.cls := by rw [hvm]; exact hown
  have hins : (Cond.instantiable cls 6).before args s' = true := h _ (by simp [Bundle.ownAtoms])
  obtain ⟨vm₁, cX, kX, hfX, hkX, -, -, X₁, st1⟩ := Y.newCold hexec (own := own) (C := cls) (index := ik) (n := 6) hown' hk' hins hini'
    (g := F0 m pc ls rest) rfl (by rw [hb]; exact d0) (Nat.le_refl _) (Nat.le_refl _)
  generalize hT1 : (T.setVm vm₁).pushCell { cls := cX, slots := kX.instanceTypes.map defaultValue, vm := .none } = T1 at X₁ st1
  have hcat : (Value.ref T.heap.size).category = 1 := rfl
  have hcellA : T1.heap[T.heap.size]? = some (freshCell cX kX) := by rw [← hT1]; exact State.heap_pushCell_size _ _
  have d3' : decode c.code (pc + 3) = .ok (.dup, 1) := by rw [hb]; exact d3
  have d4' : decode c.code (pc + 4) = .ok (.ldc_w is, 3) := by rw [hb]; exact d4
  have hstr' : vk_R own is text sa s' := vk_R.warm hW0 hstr
  obtain ⟨U, hsteps, hrun, hend, hW, hsame, ce, hce, hO⟩ := X₁.ctorThrowS hexec htr (own := own) (cls := cls) (names := names) (ic := ic) hown' hcls hnames h (fun x hx => nomatch hx) hfX hkX hcellA (by rw [hhp, hT]; exact Nat.le_refl _) (msg := .ref sa) rfl
    (g := { method := m, pc := pc + 7, locals := ls, stack := .ref sa :: .ref T.heap.size :: .ref T.heap.size :: rest, locked := none }) rfl hsize rfl rfl (rest := rest) rfl
    (by rw [hb]; exact d7) (by rw [hb]; exact d10) hout hRframes (by simp only [List.map_cons, List.sum_cons, hcat]; omega) hlocks
  obtain ⟨f1, f2⟩ := vx_frame hsame
  rw [hhp] at f1 f2
  have hWs : s.WarmedH U.vm := State.WarmedH.trans hW0 hW
  have hcl : s.vm.findClass cls = some ce.cls := by
    have h9 := hO.cls
    rw [hvm] at h9
    exact h9
  have hall : s.sameButNew ({ U with vm := s.vm } : State) locs mc ms := by
    subst hA
    obtain ⟨e1, e2⟩ := hsame
    rw [State.setFrames_setFrames] at e1
    have h2 : (T.setVm s.vm).sameButNew ({ U with vm := s.vm } : State) [] (0 + 1) (0 + 6) := ⟨e1, e2⟩
    have h3 := X.same.trans h2
    rw [List.append_nil] at h3
    exact h3.mono hc hs
  refine ⟨U, ?_, .threw T.heap.size, hrun, hend, Or.inr ⟨T.heap.size, rfl, cls, ce, locs, hx U hWs.alike f1 (fun q hq => f2 q hq (fun z hz => nomatch hz)), hce, hO.vm, hcl, hWs, hall, hf⟩⟩
  refine st1 _ ?_
  show Steps p.tables e below (T1.setTop { method := m, pc := pc + 3, locals := ls, stack := .ref T.heap.size :: rest, locked := none }) _
  jvm_step X₁.here [X₁.here.top, hexec, d3', Value.category]
  exact X₁.ldcStringW hexec (own := own) (text := text) (index := is) (a := sa) hown' hstr'.1 hstr'.2
    (g := { method := m, pc := pc + 4, locals := ls, stack := .ref T.heap.size :: .ref T.heap.size :: rest, locked := none }) rfl d4' _ hsteps
end Ends
section Bodies
variable {l : Launch}
theorem vx_ofW {y : MethodName} {ws ws' : List Cond} {rm : Room} {Pc : Array Value → State → Prop} {Qc : Array Value → State → Outcome → State → Prop} {XC : String → State → State → Prop} {mc ms : Nat} {free : Addr → Prop} {cc : ByteArray} {maxL : Nat} {ret : Option FieldType}
    (hy : plainName y.cls = true) (hw : ws = Cond.code y cc maxL ret :: ws')
    (body : ∀ p e s m args below meth c s₁, BodyLoose p l y (headSpec ws rm) cc maxL ret e s m args below meth c s₁ → c.maxLocals = maxL → (∀ x ∈ c.exceptionTable.toList, False) → Pc args s →
      W p l e (headSpec ws rm).room s m args below meth c s.heap [] 0 0 (vx_MQ below Qc XC args s mc ms free) (entryFrame m args maxL)) : vx_Met l y ws rm Pc Qc XC mc ms free := by
  refine MetFree.of_bodyS (code := cc) (maxLocals := maxL) (ret := ret) hy ?_ ?_
  · intro args s m h hn
    obtain ⟨meth, c, h1, h2, h3, h4, h5, h6, -, -⟩ := Cond.code_spec hn (atoms_spec (ws := ws) h _ (by rw [hw]; exact List.mem_cons_self))
    exact ⟨meth, c, h1, h2, h3, h4, h5, h6⟩
  · intro p e s m args below meth c s₁ B hml hP _
    have hh0 : s₁.heap = s.heap := by rw [B.state]; rfl
    have ht : ∀ x ∈ c.exceptionTable.toList, False := by
      obtain ⟨meth9, c9, h1, h2, -, -, -, -, h7, -⟩ := Cond.code_spec B.named (atoms_spec (ws := ws) B.pre _ (by rw [hw]; exact List.mem_cons_self))
      cases Option.some.inj (h1.symm.trans B.method)
      cases Option.some.inj (h2.symm.trans (Stand.of_body B).code)
      intro x hx
      rw [Array.isEmpty_iff.mp h7] at hx
      cases hx
    obtain ⟨t, a1, o, b1, b2, b3⟩ := body p e s m args below meth c s₁ B hml ht hP s₁ hh0 (Stand.of_body B)
    exact ⟨t, o, a1, b1, b2, b3⟩
/-- the table of a body with handlers -/
theorem vx_table {p : Program} {x y : MethodName} {S : Spec} {cc bytes : ByteArray} {maxL maxL' : Nat} {ret ret' : Option FieldType} {e : Env} {s s₁ : State} {m : MethodId} {args : Array Value} {below : List Frame} {meth : Method} {c : Code} {hh : List (Nat × Nat × Nat × Nat)}
    (B : BodyLoose p l y S cc maxL ret e s m args below meth c s₁) (h : (Cond.codeWith y bytes maxL' ret' hh).before args s = true) : c.exceptionTable.toList = tableOf hh := by
  obtain ⟨m9, meth9, c9, hn9, h1, h2, -, -, h6, -⟩ := Cond.codeWith_spec h
  cases Option.some.inj (hn9.symm.trans B.named)
  cases Option.some.inj (h1.symm.trans B.method)
  cases Option.some.inj (h2.symm.trans (Stand.of_body B).code)
  rw [← h6, table_eq]
end Bodies
end VXA
/-! ===== END ===== -/
/-! ===== BEGIN a static call of a method with an exception table ===== -/
section VXS
variable {p : Program} {l : Launch} {e : Env} {R : Room} {s : State} {m : MethodId} {args : Array Value} {below : List Frame} {meth : Method} {c : Code} {T : State} {H : Heap} {locs : List Loc} {cells slots : Nat}
abbrev vx_CSW (R : Room) (s : State) (args : Array Value) (own : String) (index : Nat) (y : MethodName) (bytes : ByteArray) (maxL : Nat) (ret : Option FieldType) (hh : List (Nat × Nat × Nat × Nat)) (ws : List Cond) (rm : Room) (mc ms n : Nat) : Prop :=
  (rm.cells = mc ∧ rm.slots = ms ∧ rm.frames + 1 ≤ R.frames ∧ 8 + (maxL + 11) + rm.locals ≤ R.locals ∧ (∀ w ∈ ws, ∀ (a' : Array Value) (U : State), s.WarmedH U.vm → w.before a' U = true) ∧ Cond.codeWith y bytes maxL ret hh ∈ ws) ∧
  (Cond.codeWith y bytes maxL ret hh).before args s = true ∧ (Cond.initialized y.cls).before args s = true ∧ (y.cls ≠ "java/lang/invoke/MethodHandle" ∧ y.cls ≠ "java/lang/invoke/VarHandle") ∧
  (∀ sig, parseMethodDescriptor y.desc = some sig → n = sig.parameters.length) ∧ (Cond.methodLink own index y).before args s = true ∧ (Cond.static y).before args s = true
theorem vx_cwSW {own : String} {index maxL mc ms : Nat} {y : MethodName} {bytes : ByteArray} {ret : Option FieldType} {hh : List (Nat × Nat × Nat × Nat)} {Ts ws ws' : List Cond} {rm : Room} (n : Nat) (ht : ∀ w ∈ Ts, w.before args s = true) (hT : GoodIn Ts (va_wsS own index y ws)) (hw : ws = Cond.codeWith y bytes maxL ret hh :: ws') (hrc : rm.cells = mc) (hrs : rm.slots = ms)
    (hd : y.cls ≠ "java/lang/invoke/MethodHandle" ∧ y.cls ≠ "java/lang/invoke/VarHandle" ∧ (parseMethodDescriptor y.desc).map (fun d => d.parameters.length) = some n) (hR : rm.frames + 1 ≤ R.frames ∧ 8 + (maxL + 11) + rm.locals ≤ R.locals) :
    vx_CSW R s args own index y bytes maxL ret hh ws rm mc ms n := by
  have ok : ∀ w ∈ va_wsS own index y ws, w.before args s = true := fun w h => ht w (hT w h).1
  have hG : GoodIn Ts ws := fun w h => hT w (by unfold va_wsS; exact List.mem_append_right _ h)
  have hc : Cond.codeWith y bytes maxL ret hh ∈ ws := by rw [hw]; exact List.mem_cons_self
  refine ⟨⟨hrc, hrs, hR.1, hR.2, pay_in ht hG, hc⟩, ht _ (hG _ hc).1, ok _ (by simp [va_wsS]), ⟨hd.1, hd.2.1⟩, fun sig h => ?_, ok _ (by simp [va_wsS]), ok _ (by simp [va_wsS])⟩
  have h2 := hd.2.2
  rw [h] at h2
  exact (Option.some.inj h2).symm
theorem vx_callSW (X : Stand p l e R s m args below meth c T locs cells slots) (hexec : p.tables.exec = Jvm.exec) {own : String} {index : Nat} {y : MethodName} {bytes : ByteArray} {maxL : Nat} {ret : Option FieldType} {hh : List (Nat × Nat × Nat × Nat)}
    (hown : s.vm.findClass own = some m.cls) (hlink : (Cond.methodLink own index y).before args s = true) (hstat : (Cond.static y).before args s = true) (hinit : (Cond.initialized y.cls).before args s = true)
    (hcode : (Cond.codeWith y bytes maxL ret hh).before args s = true) (hy : y.cls ≠ "java/lang/invoke/MethodHandle" ∧ y.cls ≠ "java/lang/invoke/VarHandle")
    {W9 : Nat} {Pre : Pt → Array Value → Prop} {Post : Pt → Array Value → Option Value → Pt → Prop} (hK : Back l R p e below s args y 3 W9 Pre Post)
    {g : JFrame} (hg : g.method = m) (hsize : g.locals.size = c.maxLocals) {argsL rest : List Value} (hlen : ∀ sig, parseMethodDescriptor y.desc = some sig → argsL.length = sig.parameters.length)
    (hstack : g.stack = argsL.reverse ++ rest) (hW : 2 * g.monitorRoom + (rest.map fun v => v.category).sum ≤ W9) (hdg : decode c.code g.pc = .ok (.invokestatic index, 3))
    (hpre : ∀ vm₁, s.WarmedH vm₁ → Pre ⟨T.setVm vm₁, locs, cells, slots⟩ argsL.toArray) :
    ∃ (v : Option Value) (vm₁ : Vm) (B : Pt), s.WarmedH vm₁ ∧ Stand p l e R s m args below meth c B.U B.locs B.cells B.slots ∧ Post ⟨T.setVm vm₁, locs, cells, slots⟩ argsL.toArray v B ∧
      ∀ target, Steps p.tables e below (B.U.setTop { g with pc := g.pc + 3, stack := v.toList ++ rest }) target → Steps p.tables e below (T.setTop g) target := by
  obtain ⟨mk, methM, cM, hnamed, hmethM, -, -, -, -, -, -, hsigM⟩ := Cond.codeWith_spec hcode
  have hstatic : methM.isStatic = true := Cond.static_spec hnamed hmethM hstat
  obtain ⟨kP, hkP, -⟩ := className_of_methodNamed hnamed
  have hinitP : kP.init = .initialized := Cond.initialized_spec (findClass_of_methodNamed hnamed) hkP hinit
  obtain ⟨vm₁, X₁, hstep₁⟩ := X.invokestatic hexec hown hlink hnamed hmethM hstatic hkP hinitP hy (g := g) hg (argsL := argsL) (rest := rest) (hlen _ hsigM) hstack hdg
  obtain ⟨v, B, X', hpost, hsteps⟩ := hK m meth c ⟨T.setVm vm₁, locs, cells, slots⟩ { g with stack := rest } (.invokestatic index) mk argsL.toArray X₁ hg hsize hdg hW (X₁.named hnamed) (hpre vm₁ X₁.warmed)
  exact ⟨v, vm₁, B, X₁.warmed, X', hpost, fun target h => hstep₁ _ fun acts => by rw [doInvoke_state]; exact hsteps.trans h⟩
theorem vx_runSW {y : MethodName} {bytes cc : ByteArray} {maxL nL mc ms n index : Nat} {ret : Option FieldType} {hh : List (Nat × Nat × Nat × Nat)} {ws : List Cond} {rm : Room} {Pc : Array Value → State → Prop} {Qc : Array Value → State → Outcome → State → Prop} {free : Addr → Prop} {Ts : List Cond} {own : String} {As rest : List Value} {g : JFrame}
    (S : CallFix p m c cc nL s args Ts own) (hM : Met l y ws rm Pc Qc mc ms free) (cw : vx_CSW R s args own index y bytes maxL ret hh ws rm mc ms n) (hp : PreS s H Pc As)
    (hg : g.method = m) (hn : As.length = n) (hsize : g.locals.size = nL) (hstack : g.stack = As.reverse ++ rest) (hW : 2 * g.monitorRoom + (rest.map fun v => v.category).sum ≤ 8) (hdg : decode cc g.pc = .ok (.invokestatic index, 3)) (hf : cells + mc ≤ R.cells ∧ slots + ms ≤ R.slots) :
    va_Run p l e R s m args below meth c H locs cells slots mc ms g rest (Qc As.toArray) (free) := by
  obtain ⟨⟨hrc, hrs, hfr, hlo, hws, hcw⟩, hcode, hini, hy, hlen, hl, hstt⟩ := cw
  have hK : Back l R p e below s args y 3 8 (PreOf R mc ms Pc) (PostOf Qc mc ms free) := va_backW (hh := hh) (bytes := bytes) (maxL := maxL) (ret := ret) hM hp.1 hrc hrs hfr hlo hws hcw (fun a' U hW => word_at hW (Or.inl (by first | rfl | simp [Cond.onTables, Cond.keeps, Cond.steady])) hini)
  obtain ⟨hx, hb, hml, ho, -⟩ := S
  intro T hT X
  obtain ⟨v, vm₁, ⟨U', l2, c2, s2⟩, hW₁, X', ⟨g', mk, t, L, e1, e2, hq, h1, hL, h2, h3⟩, st⟩ := vx_callSW X hx (hh := hh) (bytes := bytes) (maxL := maxL) (ret := ret) ho hl hstt hini hcode hy hK hg (hsize.trans hml.symm) (argsL := As) (rest := rest) (fun sig h => hn.trans (hlen sig h)) hstack hW (by rw [hb]; exact hdg)
    (fun vm₁ hW₁ => ⟨hf.1, hf.2, hp.2 (T.setVm vm₁) hT hW₁⟩)
  dsimp only [Pt.U, Pt.locs, Pt.cells, Pt.slots] at X' e1 e2 h1 h2 h3 st
  subst h1; subst h2; subst h3
  exact ⟨v, (T.setVm vm₁).calling g' mk As.toArray, t, U', L, hT, X', hL, e1, e2, hq, st⟩
/-- not caught here, past rows that name other classes: it goes on to the caller -/
theorem vx_outP {p : Program} {l : Launch} {e : Env} {R : Room} {s : State} {m : MethodId} {args : Array Value} {below : List Frame} {meth : Method} {c : Code} {H : Heap} {locs : List Loc} {cells slots : Nat} {free : Addr → Prop} {ls : Array Slot} {rest : List Value} {Qc : Array Value → State → Outcome → State → Prop} {XC : String → State → State → Prop}
    {pc : Nat} {own E : String} {ce : Cell} {q : Addr} {mc ms : Nat} (hown : s.vm.findClass own = some m.cls) (hlocks : meth.locks = false)
    (hpass : ∀ z ∈ c.exceptionTable.toList, covers z pc = false ∨ (z.catchType ≠ 0 ∧ ∃ nm : String, (Cond.classLink own z.catchType nm).before args s = true ∧ va_Nc E nm s)) (hcell : H[q]? = some ce) (hv : ce.vm = .none) (hcl : s.vm.findClass E = some ce.cls)
    (hx : ∀ t : State, t.heap = H → s.vm.Alike t.vm → XC E s t) (hf : ∀ z ∈ locs, free z.base) (hc : cells ≤ mc) (hs : slots ≤ ms) :
    vx_W p l e R s m args below meth c H locs cells slots (vx_MQ below Qc XC args s mc ms free) (F0 m pc ls rest) q := by
  intro T hT X
  have hpl : e.platform.magicAccessors = ({} : Platform).magicAccessors := by rw [X.admits.platform]
  obtain ⟨vm', hW', X', st⟩ := X.outThrough hlocks q (g := F0 m pc ls rest) rfl rfl rfl (cell := ce) (by rw [hT]; exact hcell) (by rw [hv]; rfl)
    (by obtain ⟨k9, h9, -⟩ := Vm.findClass_spec hcl; exact ⟨k9, h9⟩) (fun z hz => by
      rcases hpass z hz with h | ⟨hz0, nm, hl1, hn1⟩
      · exact Or.inl h
      · obtain ⟨c6, hc6, hcl6⟩ := Cond.classLink_spec hown hl1 e.platform hpl
        obtain ⟨a8, b8, h1, h2, h3⟩ := hn1
        cases Option.some.inj (h1.symm.trans hcl)
        cases Option.some.inj (h2.symm.trans hc6)
        exact Or.inr ⟨hz0, _, hcl6, h3⟩)
  obtain ⟨g₀, hfr⟩ := X'.frames_eq
  have hcell9 : ((T.setVm vm').setFrames (.throwing q :: below)).heap[q]? = some ce := by
    show T.heap[q]? = some ce
    rw [hT]; exact hcell
  have hend : Ended ((T.setVm vm').setFrames (.throwing q :: below)) below (.threw q) := State.frames_setFrames _ (State.cur_lt_of_frames hfr)
  refine ⟨(T.setVm vm').setFrames (.throwing q :: below), ?_, .threw q, X'.here.running, hend, Or.inr ⟨q, rfl, E, ce, locs, hx _ hT (X'.ends _).1.alike, hcell9, hv, hcl, (X'.ends _).1, (X'.ends _).2.mono hc hs, hf⟩⟩
  rw [X.pushThrowing_eq]
  exact st
/-- a thing of a world lies in the heap -/
theorem vx_lt {D : va_G} {cl : List vw_C} {ws : va_W} {H1 : Heap} (h : va_P D cl ws H1) {k : Nat} {q : Nat × va_E} (hk : ws[k]? = some q) : q.1 < H1.size := (h k q hk).lt
end VXS
/-! ===== END ===== -/
/-! ===== BEGIN methods with a table of their own: called by a name, returning or throwing ===== -/
section VXH
/-! vx_backW, vx_callVX, vx_callSX, vx_callVW, vx_runVW, vx_runVX, vx_runSX, vx_ofWH follow the same proofs as their sisters above (Free/Laws.lean, Shelf42/LK1.lean); vx_outP calls Shelf42/NT130.lean (outThrough). -/
section
variable {l : Launch} {R : Room} {p : Program} {e : Env} {below : List Frame} {s : State} {sargs : Array Value} {y : MethodName} {len W9 : Nat}
theorem vx_backW {ws : List Cond} {rm : Room} {Pc : Array Value → State → Prop} {Qc : Array Value → State → Outcome → State → Prop} {XC : String → State → State → Prop} {mc ms : Nat} {free : Addr → Prop} {bytes : ByteArray} {maxL : Nat} {ret : Option FieldType} {hh : List (Nat × Nat × Nat × Nat)}
    (hM : vx_Met l y ws rm Pc Qc XC mc ms free) (hblind : FrameBlind Pc) (hrc : rm.cells = mc) (hrs : rm.slots = ms)
    (hframes : rm.frames + 1 ≤ R.frames) (hlocals : W9 + (maxL + 11) + rm.locals ≤ R.locals)
    (hws : ∀ w ∈ ws, ∀ a' U, s.WarmedH U.vm → w.before a' U = true) (hcode : Cond.codeWith y bytes maxL ret hh ∈ ws) (hinit : ∀ a' U, s.WarmedH U.vm → (Cond.initialized y.cls).before a' U = true) :
    vx_Back l R p e below s sargs y len W9 (PreOf R mc ms Pc) (PostOf Qc mc ms free) (vx_Post XC mc ms free) := by
  intro m meth c A g ig mk a X hg hsize hdg hW hn hp
  have h1 : (headSpec ws rm).pre.before a A.U = true := atoms_intro fun w hw => hws w hw _ _ X.warmed
  have h2 : (Cond.codeWith y bytes maxL ret hh).before a A.U = true := hws _ hcode _ _ X.warmed
  have h3 : (Cond.initialized y.cls).before a A.U = true := hinit _ _ X.warmed
  have h4 : A.cells + (headSpec ws rm).room.cells ≤ R.cells := by rw [show (headSpec ws rm).room.cells = mc from hrc]; exact hp.1
  have h5 : A.slots + (headSpec ws rm).room.slots ≤ R.slots := by rw [show (headSpec ws rm).room.slots = ms from hrs]; exact hp.2.1
  have hPc : Pc a (A.U.calling g mk a) := hblind _ _ _ _ hp.2.2
  obtain ⟨U, Ls, c0, s0⟩ := A
  dsimp only [Pt.U, Pt.locs, Pt.cells, Pt.slots] at h1 h2 h3 h4 h5 X hn hPc ⊢
  obtain ⟨m9, methY, cY, hn9, hmY, hcY, -, hlY, -⟩ := Cond.codeWith_spec h2
  cases Option.some.inj (hn9.symm.trans hn)
  obtain ⟨kY, hkY, -⟩ := className_of_methodNamed hn
  have hinitY : kY.init = .initialized := Cond.initialized_spec (findClass_of_methodNamed hn) hkY h3
  have h : At U g.method c below := by rw [hg]; exact X.here
  have hlocals9 : W9 + (maxL + 11) + (headSpec ws rm).room.locals ≤ R.locals := hlocals
  have happ : (headSpec ws rm).appliesLoose y e.platform (U.calling g mk a) = true :=
    Spec.appliesLoose_calling (g := g) h hdg hn hkY hinitY
      (X.room_calling (g := g) (R' := (headSpec ws rm).room) hsize hmY hcY hframes (by rw [hlY]; omega) h4 h5) h1
  obtain ⟨mid, hmid⟩ := h.above
  have hfr : (U.setTop g).frames = (.java g :: mid) ++ below := by rw [State.frames_setTop' g h.top, hmid]; rfl
  obtain ⟨o, s₂, hsteps, -, hend, hq⟩ := Steps.callFree hM p X.admits X.cas X.clock (acts := []) hfr happ hPc trivial
  have hq' : vx_Q Qc XC mc ms free a (U.calling g mk a) o s₂ := hq
  rw [State.frames_setTop' g h.top] at hend
  obtain ⟨g₀, hg0⟩ := Option.isSome_iff_exists.mp h.top
  obtain ⟨r, hr⟩ := State.topJava?_eq_some.mp hg0
  have hr' : (({ U with heap := s₂.heap, slotsUsed := s₂.slotsUsed } : State).setVm s₂.vm).frames = .java g₀ :: r := hr
  rcases hq' with ⟨hqc, L, hfe, hL⟩ | ⟨q, rfl, E, ce, L, hx, hce, hcv, hcl, hW₂, hsm, hL⟩
  · obtain ⟨⟨v, rfl⟩, hW₂, e2, q2, q3, q4, q5, q6⟩ := id hfe
    have e3 : s₂ = ({ (U.calling g mk a).setFrames s₂.frames with heap := s₂.heap, slotsUsed := s₂.slotsUsed } : State).setVm s₂.vm := by
      have : s₂ = ({ s₂ with vm := (U.calling g mk a).vm } : State).setVm s₂.vm := rfl
      rw [e2] at this
      exact this
    obtain ⟨c₂, i₂, len₂, hc₂, hd₂, hf₂⟩ := hend
    have hW' : U.WarmedH s₂.vm := hW₂
    have hcc : c₂ = c := by
      have h1 : s₂.code? g.method = U.code? g.method := by
        rw [State.code?_eq, State.code?_eq, hW'.alike.method?]
      exact Option.some.inj (hc₂.symm.trans (h1.trans h.code))
    subst hcc
    have hlen : len₂ = len := by rw [hdg] at hd₂; cases hd₂; rfl
    subst hlen
    have hs₂ : s₂ = (({ U with heap := s₂.heap, slotsUsed := s₂.slotsUsed } : State).setVm s₂.vm).setTop { g with pc := g.pc + len₂, stack := v.toList ++ g.stack } := by
      refine e3.trans ?_
      rw [hf₂, State.calling_eq h.top, State.setFrames_setFrames, State.setTop_of_frames _ hr', hr]
      rfl
    have hsame : U.sameButNew ({ U with heap := s₂.heap, slotsUsed := s₂.slotsUsed } : State) L mc ms := by
      refine ⟨?_, q2, q3, q4, q5, q6⟩
      obtain ⟨t, ht, -⟩ := State.frames_cons hr
      show ({ U with heap := s₂.heap, slotsUsed := s₂.slotsUsed } : State) = { U.setFrames U.frames with heap := s₂.heap, slotsUsed := s₂.slotsUsed }
      rw [State.setFrames_self ht]
    subst hg
    refine Or.inl ⟨v, ⟨(({ U with heap := s₂.heap, slotsUsed := s₂.slotsUsed } : State).setVm s₂.vm), Ls ++ L, c0 + mc, s0 + ms⟩,
      ⟨X.admits, X.cas, X.clock, X.frames, X.room, X.hears, X.method, X.code, (X.here.setHeapUsed s₂.heap s₂.slotsUsed).setVm hW'.alike, X.tail, State.WarmedH.trans X.warmed hW', X.limits, X.bytes, X.same.trans (hsame.setVm s.vm)⟩,
      ⟨g, mk, s₂, L, rfl, rfl, hqc, rfl, hL, rfl, rfl⟩, ?_⟩
    show Steps p.tables e below _ ((({ U with heap := s₂.heap, slotsUsed := s₂.slotsUsed } : State).setVm s₂.vm).setTop { g with pc := g.pc + len₂, stack := v.toList ++ g.stack })
    rw [← hs₂]
    exact hsteps
  · obtain ⟨e2, q2, q3, q4, q5, q6⟩ := id hsm
    have e3 : s₂ = ({ (U.calling g mk a).setFrames s₂.frames with heap := s₂.heap, slotsUsed := s₂.slotsUsed } : State).setVm s₂.vm := by
      have : s₂ = ({ s₂ with vm := (U.calling g mk a).vm } : State).setVm s₂.vm := rfl
      rw [e2] at this
      exact this
    have hf₂ : s₂.frames = .throwing q :: .java g :: U.frames.tail := hend
    have hW' : U.WarmedH s₂.vm := hW₂
    have hs₂ : s₂ = ((({ U with heap := s₂.heap, slotsUsed := s₂.slotsUsed } : State).setVm s₂.vm).setTop g).pushFrame (.throwing q) := by
      refine e3.trans ?_
      rw [hf₂, State.calling_eq h.top, State.setFrames_setFrames, State.pushFrame, State.frames_setTop _ hr', State.setTop_of_frames _ hr', State.setFrames_setFrames, hr]
      rfl
    have hsame : U.sameButNew ({ U with heap := s₂.heap, slotsUsed := s₂.slotsUsed } : State) L mc ms := by
      refine ⟨?_, q2, q3, q4, q5, q6⟩
      obtain ⟨t, ht, -⟩ := State.frames_cons hr
      show ({ U with heap := s₂.heap, slotsUsed := s₂.slotsUsed } : State) = { U.setFrames U.frames with heap := s₂.heap, slotsUsed := s₂.slotsUsed }
      rw [State.setFrames_self ht]
    subst hg
    refine Or.inr ⟨q, ⟨(({ U with heap := s₂.heap, slotsUsed := s₂.slotsUsed } : State).setVm s₂.vm), Ls ++ L, c0 + mc, s0 + ms⟩,
      ⟨X.admits, X.cas, X.clock, X.frames, X.room, X.hears, X.method, X.code, (X.here.setHeapUsed s₂.heap s₂.slotsUsed).setVm hW'.alike, X.tail, State.WarmedH.trans X.warmed hW', X.limits, X.bytes, X.same.trans (hsame.setVm s.vm)⟩,
      ⟨g, mk, s₂, L, E, ce, rfl, rfl, hx, hce, hcv, hcl, rfl, hL, rfl, rfl⟩, ?_⟩
    show Steps p.tables e below _ (((({ U with heap := s₂.heap, slotsUsed := s₂.slotsUsed } : State).setVm s₂.vm).setTop g).pushFrame (.throwing q))
    rw [← hs₂]
    exact hsteps
end
variable {p : Program} {l : Launch} {e : Env} {R : Room} {s : State} {m : MethodId} {args : Array Value} {below : List Frame} {meth : Method} {c : Code} {T : State} {H : Heap} {locs : List Loc} {cells slots : Nat}
theorem vx_callVX (X : Stand p l e R s m args below meth c T locs cells slots) (hexec : p.tables.exec = Jvm.exec) {own C : String} {index : Nat} {y : MethodName} {bytes : ByteArray} {maxL : Nat} {ret : Option FieldType} {hh : List (Nat × Nat × Nat × Nat)}
    (hown : s.vm.findClass own = some m.cls) (hlink : (Cond.methodLink own index y).before args s = true) (hinst : (Cond.instanceMethod y).before args s = true) (hsel : (Cond.selects C y y).before args s = true)
    (hcode : (Cond.codeWith y bytes maxL ret hh).before args s = true) (hy : y.cls ≠ "java/lang/invoke/MethodHandle" ∧ y.cls ≠ "java/lang/invoke/VarHandle")
    {W9 : Nat} {Pre : Pt → Array Value → Prop} {Post : Pt → Array Value → Option Value → Pt → Prop} {PostX : Pt → Array Value → Addr → Pt → Prop} (hK : vx_Back l R p e below s args y 3 W9 Pre Post PostX)
    {b : Addr} {cellB : Cell} (hcell : T.heap[b]? = some cellB) (hobj : cellB.vm.isStatics = false) (hcls : s.vm.findClass C = some cellB.cls)
    {g : JFrame} (hg : g.method = m) (hsize : g.locals.size = c.maxLocals) {argsL rest : List Value} (hlen : ∀ sig, parseMethodDescriptor y.desc = some sig → argsL.length = sig.parameters.length)
    (hstack : g.stack = argsL.reverse ++ .ref b :: rest) (hW : 2 * g.monitorRoom + (rest.map fun v => v.category).sum ≤ W9) (hdg : decode c.code g.pc = .ok (.invokevirtual index, 3))
    (hpre : ∀ vm₁, s.WarmedH vm₁ → Pre ⟨T.setVm vm₁, locs, cells, slots⟩ (Value.ref b :: argsL).toArray) :
    (∃ (v : Option Value) (vm₁ : Vm) (B : Pt), s.WarmedH vm₁ ∧ Stand p l e R s m args below meth c B.U B.locs B.cells B.slots ∧ Post ⟨T.setVm vm₁, locs, cells, slots⟩ (Value.ref b :: argsL).toArray v B ∧
      ∀ target, Steps p.tables e below (B.U.setTop { g with pc := g.pc + 3, stack := v.toList ++ rest }) target → Steps p.tables e below (T.setTop g) target) ∨
    (∃ (q : Addr) (vm₁ : Vm) (B : Pt), s.WarmedH vm₁ ∧ Stand p l e R s m args below meth c B.U B.locs B.cells B.slots ∧ PostX ⟨T.setVm vm₁, locs, cells, slots⟩ (Value.ref b :: argsL).toArray q B ∧
      Steps p.tables e below (T.setTop g) ((B.U.setTop { g with stack := rest }).pushFrame (.throwing q))) := by
  obtain ⟨mk, methM, hnamed, hmethM, hstM, habM⟩ := Cond.instanceMethod_spec hinst
  obtain ⟨m8, methM', cM, hn8, hmethM', -, -, -, -, -, -, hsigM⟩ := Cond.codeWith_spec hcode
  cases Option.some.inj (hn8.symm.trans hnamed)
  cases hmethM.symm.trans hmethM'
  obtain ⟨c2, r2, m2, q1, q2, q3, q4, kP, hkP, hkPi⟩ := Cond.selects_spec hsel
  cases hcls.symm.trans q1
  cases (State.methodFound?_of_named hnamed hy).symm.trans q2
  cases hnamed.symm.trans q3
  have hselP : selectMethod e.platform s.vm cellB.cls mk = .method mk := by rw [Launch.admits_selectMethod X.admits]; exact q4
  obtain ⟨vm₁, X₁, hstep₁⟩ := X.invokevirtual hexec hown hlink hnamed hmethM hstM hkP hkPi hy (a := b) (cell := cellB) hcell
    (fun z h => by rw [h] at hobj; cases hobj) hselP hmethM habM hkP hkPi (g := g) hg (argsL := argsL) (rest := rest) (hlen _ hsigM) hstack hdg
  rcases hK m meth c ⟨T.setVm vm₁, locs, cells, slots⟩ { g with stack := rest } (.invokevirtual index) mk (Value.ref b :: argsL).toArray X₁ hg hsize hdg hW (X₁.named hnamed) (hpre vm₁ X₁.warmed) with ⟨v, B, X', hpost, hsteps⟩ | ⟨q, B, X', hpost, hsteps⟩
  · exact Or.inl ⟨v, vm₁, B, X₁.warmed, X', hpost, fun target h => hstep₁ _ fun acts => by rw [doInvoke_state]; exact hsteps.trans h⟩
  · exact Or.inr ⟨q, vm₁, B, X₁.warmed, X', hpost, hstep₁ _ fun acts => by rw [doInvoke_state]; exact hsteps⟩
theorem vx_callSX (X : Stand p l e R s m args below meth c T locs cells slots) (hexec : p.tables.exec = Jvm.exec) {own : String} {index : Nat} {y : MethodName} {bytes : ByteArray} {maxL : Nat} {ret : Option FieldType} {hh : List (Nat × Nat × Nat × Nat)}
    (hown : s.vm.findClass own = some m.cls) (hlink : (Cond.methodLink own index y).before args s = true) (hstat : (Cond.static y).before args s = true) (hinit : (Cond.initialized y.cls).before args s = true)
    (hcode : (Cond.codeWith y bytes maxL ret hh).before args s = true) (hy : y.cls ≠ "java/lang/invoke/MethodHandle" ∧ y.cls ≠ "java/lang/invoke/VarHandle")
    {W9 : Nat} {Pre : Pt → Array Value → Prop} {Post : Pt → Array Value → Option Value → Pt → Prop} {PostX : Pt → Array Value → Addr → Pt → Prop} (hK : vx_Back l R p e below s args y 3 W9 Pre Post PostX)
    {g : JFrame} (hg : g.method = m) (hsize : g.locals.size = c.maxLocals) {argsL rest : List Value} (hlen : ∀ sig, parseMethodDescriptor y.desc = some sig → argsL.length = sig.parameters.length)
    (hstack : g.stack = argsL.reverse ++ rest) (hW : 2 * g.monitorRoom + (rest.map fun v => v.category).sum ≤ W9) (hdg : decode c.code g.pc = .ok (.invokestatic index, 3))
    (hpre : ∀ vm₁, s.WarmedH vm₁ → Pre ⟨T.setVm vm₁, locs, cells, slots⟩ argsL.toArray) :
    (∃ (v : Option Value) (vm₁ : Vm) (B : Pt), s.WarmedH vm₁ ∧ Stand p l e R s m args below meth c B.U B.locs B.cells B.slots ∧ Post ⟨T.setVm vm₁, locs, cells, slots⟩ argsL.toArray v B ∧
      ∀ target, Steps p.tables e below (B.U.setTop { g with pc := g.pc + 3, stack := v.toList ++ rest }) target → Steps p.tables e below (T.setTop g) target) ∨
    (∃ (q : Addr) (vm₁ : Vm) (B : Pt), s.WarmedH vm₁ ∧ Stand p l e R s m args below meth c B.U B.locs B.cells B.slots ∧ PostX ⟨T.setVm vm₁, locs, cells, slots⟩ argsL.toArray q B ∧
      Steps p.tables e below (T.setTop g) ((B.U.setTop { g with stack := rest }).pushFrame (.throwing q))) := by
  obtain ⟨mk, methM, cM, hnamed, hmethM, -, -, -, -, -, -, hsigM⟩ := Cond.codeWith_spec hcode
  have hstatic : methM.isStatic = true := Cond.static_spec hnamed hmethM hstat
  obtain ⟨kP, hkP, -⟩ := className_of_methodNamed hnamed
  have hinitP : kP.init = .initialized := Cond.initialized_spec (findClass_of_methodNamed hnamed) hkP hinit
  obtain ⟨vm₁, X₁, hstep₁⟩ := X.invokestatic hexec hown hlink hnamed hmethM hstatic hkP hinitP hy (g := g) hg (argsL := argsL) (rest := rest) (hlen _ hsigM) hstack hdg
  rcases hK m meth c ⟨T.setVm vm₁, locs, cells, slots⟩ { g with stack := rest } (.invokestatic index) mk argsL.toArray X₁ hg hsize hdg hW (X₁.named hnamed) (hpre vm₁ X₁.warmed) with ⟨v, B, X', hpost, hsteps⟩ | ⟨q, B, X', hpost, hsteps⟩
  · exact Or.inl ⟨v, vm₁, B, X₁.warmed, X', hpost, fun target h => hstep₁ _ fun acts => by rw [doInvoke_state]; exact hsteps.trans h⟩
  · exact Or.inr ⟨q, vm₁, B, X₁.warmed, X', hpost, hstep₁ _ fun acts => by rw [doInvoke_state]; exact hsteps⟩
theorem vx_callVW (X : Stand p l e R s m args below meth c T locs cells slots) (hexec : p.tables.exec = Jvm.exec) {own C : String} {index : Nat} {y : MethodName} {bytes : ByteArray} {maxL : Nat} {ret : Option FieldType} {hh : List (Nat × Nat × Nat × Nat)}
    (hown : s.vm.findClass own = some m.cls) (hlink : (Cond.methodLink own index y).before args s = true) (hinst : (Cond.instanceMethod y).before args s = true) (hsel : (Cond.selects C y y).before args s = true)
    (hcode : (Cond.codeWith y bytes maxL ret hh).before args s = true) (hy : y.cls ≠ "java/lang/invoke/MethodHandle" ∧ y.cls ≠ "java/lang/invoke/VarHandle")
    {W9 : Nat} {Pre : Pt → Array Value → Prop} {Post : Pt → Array Value → Option Value → Pt → Prop} (hK : Back l R p e below s args y 3 W9 Pre Post)
    {b : Addr} {cellB : Cell} (hcell : T.heap[b]? = some cellB) (hobj : cellB.vm.isStatics = false) (hcls : s.vm.findClass C = some cellB.cls)
    {g : JFrame} (hg : g.method = m) (hsize : g.locals.size = c.maxLocals) {argsL rest : List Value} (hlen : ∀ sig, parseMethodDescriptor y.desc = some sig → argsL.length = sig.parameters.length)
    (hstack : g.stack = argsL.reverse ++ .ref b :: rest) (hW : 2 * g.monitorRoom + (rest.map fun v => v.category).sum ≤ W9) (hdg : decode c.code g.pc = .ok (.invokevirtual index, 3))
    (hpre : ∀ vm₁, s.WarmedH vm₁ → Pre ⟨T.setVm vm₁, locs, cells, slots⟩ (Value.ref b :: argsL).toArray) :
    ∃ (v : Option Value) (vm₁ : Vm) (B : Pt), s.WarmedH vm₁ ∧ Stand p l e R s m args below meth c B.U B.locs B.cells B.slots ∧ Post ⟨T.setVm vm₁, locs, cells, slots⟩ (Value.ref b :: argsL).toArray v B ∧
      ∀ target, Steps p.tables e below (B.U.setTop { g with pc := g.pc + 3, stack := v.toList ++ rest }) target → Steps p.tables e below (T.setTop g) target := by
  obtain ⟨mk, methM, hnamed, hmethM, hstM, habM⟩ := Cond.instanceMethod_spec hinst
  obtain ⟨m8, methM', cM, hn8, hmethM', -, -, -, -, -, -, hsigM⟩ := Cond.codeWith_spec hcode
  cases Option.some.inj (hn8.symm.trans hnamed)
  cases hmethM.symm.trans hmethM'
  obtain ⟨c2, r2, m2, q1, q2, q3, q4, kP, hkP, hkPi⟩ := Cond.selects_spec hsel
  cases hcls.symm.trans q1
  cases (State.methodFound?_of_named hnamed hy).symm.trans q2
  cases hnamed.symm.trans q3
  have hselP : selectMethod e.platform s.vm cellB.cls mk = .method mk := by rw [Launch.admits_selectMethod X.admits]; exact q4
  obtain ⟨vm₁, X₁, hstep₁⟩ := X.invokevirtual hexec hown hlink hnamed hmethM hstM hkP hkPi hy (a := b) (cell := cellB) hcell
    (fun z h => by rw [h] at hobj; cases hobj) hselP hmethM habM hkP hkPi (g := g) hg (argsL := argsL) (rest := rest) (hlen _ hsigM) hstack hdg
  obtain ⟨v, B, X', hpost, hsteps⟩ := hK m meth c ⟨T.setVm vm₁, locs, cells, slots⟩ { g with stack := rest } (.invokevirtual index) mk (Value.ref b :: argsL).toArray X₁ hg hsize hdg hW (X₁.named hnamed) (hpre vm₁ X₁.warmed)
  exact ⟨v, vm₁, B, X₁.warmed, X', hpost, fun target h => hstep₁ _ fun acts => by rw [doInvoke_state]; exact hsteps.trans h⟩
abbrev vx_CVW (R : Room) (s : State) (args : Array Value) (own C : String) (index : Nat) (y : MethodName) (bytes : ByteArray) (maxL : Nat) (ret : Option FieldType) (hh : List (Nat × Nat × Nat × Nat)) (ws : List Cond) (rm : Room) (mc ms n : Nat) : Prop :=
  (rm.cells = mc ∧ rm.slots = ms ∧ rm.frames + 1 ≤ R.frames ∧ 8 + (maxL + 11) + rm.locals ≤ R.locals ∧ (∀ w ∈ ws, ∀ (a' : Array Value) (U : State), s.WarmedH U.vm → w.before a' U = true) ∧ Cond.codeWith y bytes maxL ret hh ∈ ws) ∧
  (Cond.codeWith y bytes maxL ret hh).before args s = true ∧ (Cond.initialized y.cls).before args s = true ∧ (y.cls ≠ "java/lang/invoke/MethodHandle" ∧ y.cls ≠ "java/lang/invoke/VarHandle") ∧
  (∀ sig, parseMethodDescriptor y.desc = some sig → n = sig.parameters.length) ∧ (Cond.methodLink own index y).before args s = true ∧ (Cond.instanceMethod y).before args s = true ∧ (Cond.selects C y y).before args s = true
theorem vx_cwVW {own C : String} {index maxL mc ms : Nat} {y : MethodName} {bytes : ByteArray} {ret : Option FieldType} {hh : List (Nat × Nat × Nat × Nat)} {Ts ws ws' : List Cond} {rm : Room} (n : Nat) (ht : ∀ w ∈ Ts, w.before args s = true) (hT : GoodIn Ts (wsV own index C y ws)) (hw : ws = Cond.codeWith y bytes maxL ret hh :: ws') (hrc : rm.cells = mc) (hrs : rm.slots = ms)
    (hd : y.cls = C ∧ y.cls ≠ "java/lang/invoke/MethodHandle" ∧ y.cls ≠ "java/lang/invoke/VarHandle" ∧ (parseMethodDescriptor y.desc).map (fun d => d.parameters.length) = some n) (hR : rm.frames + 1 ≤ R.frames ∧ 8 + (maxL + 11) + rm.locals ≤ R.locals) :
    vx_CVW R s args own C index y bytes maxL ret hh ws rm mc ms n := by
  obtain ⟨hC, hd⟩ := hd
  subst hC
  have ok : ∀ w ∈ wsV own index y.cls y ws, w.before args s = true := fun w h => ht w (hT w h).1
  have hG : GoodIn Ts ws := fun w h => hT w (by unfold wsV; exact List.mem_append_right _ h)
  have hc : Cond.codeWith y bytes maxL ret hh ∈ ws := by rw [hw]; exact List.mem_cons_self
  refine ⟨⟨hrc, hrs, hR.1, hR.2, pay_in ht hG, hc⟩, ht _ (hG _ hc).1, ok _ (by simp [wsV]), ⟨hd.1, hd.2.1⟩, fun sig h => ?_, ok _ (by simp [wsV]), ok _ (by simp [wsV]), ok _ (by simp [wsV])⟩
  have h2 := hd.2.2
  rw [h] at h2
  exact (Option.some.inj h2).symm
theorem vx_runVW {y : MethodName} {bytes cc : ByteArray} {maxL nL mc ms n index : Nat} {ret : Option FieldType} {hh : List (Nat × Nat × Nat × Nat)} {ws : List Cond} {rm : Room} {Pc : Array Value → State → Prop} {Qc : Array Value → State → Outcome → State → Prop} {free : Addr → Prop} {Ts : List Cond} {own C : String} {b : Addr} {As rest : List Value} {g : JFrame}
    (S : CallFix p m c cc nL s args Ts own) (hM : Met l y ws rm Pc Qc mc ms free) (cw : vx_CVW R s args own C index y bytes maxL ret hh ws rm mc ms n) (hp : PreV s H C b Pc As)
    (hg : g.method = m) (hn : As.length = n) (hsize : g.locals.size = nL) (hstack : g.stack = As.reverse ++ .ref b :: rest) (hW : 2 * g.monitorRoom + (rest.map fun v => v.category).sum ≤ 8) (hdg : decode cc g.pc = .ok (.invokevirtual index, 3)) (hf : cells + mc ≤ R.cells ∧ slots + ms ≤ R.slots) :
    va_Run p l e R s m args below meth c H locs cells slots mc ms g rest (Qc (Value.ref b :: As).toArray) free := by
  obtain ⟨⟨hrc, hrs, hfr, hlo, hws, hcw⟩, hcode, hini, hy, hlen, hl, hin, hse⟩ := cw
  have hK : Back l R p e below s args y 3 8 (PreOf R mc ms Pc) (PostOf Qc mc ms free) := va_backW (hh := hh) (bytes := bytes) (maxL := maxL) (ret := ret) hM hp.1 hrc hrs hfr hlo hws hcw (fun a' U hW => word_at hW (Or.inl (by first | rfl | simp [Cond.onTables, Cond.keeps, Cond.steady])) hini)
  obtain ⟨hx, hb, hml, ho, -⟩ := S
  obtain ⟨-, ⟨cellB, hcB, hoB, hclB⟩, hPc⟩ := hp
  intro T hT X
  obtain ⟨v, vm₁, ⟨U', l2, c2, s2⟩, hW₁, X', ⟨g', mk, t, L, e1, e2, hq, h1, hL, h2, h3⟩, st⟩ := vx_callVW X hx (C := C) (hh := hh) (bytes := bytes) (maxL := maxL) (ret := ret) ho hl hin hse hcode hy hK (by rw [hT]; exact hcB) hoB hclB hg (hsize.trans hml.symm) (argsL := As) (rest := rest) (fun sig h => hn.trans (hlen sig h)) hstack hW (by rw [hb]; exact hdg)
    (fun vm₁ hW₁ => ⟨hf.1, hf.2, hPc (T.setVm vm₁) hT hW₁⟩)
  dsimp only [Pt.U, Pt.locs, Pt.cells, Pt.slots] at X' e1 e2 h1 h2 h3 st
  subst h1; subst h2; subst h3
  exact ⟨v, (T.setVm vm₁).calling g' mk (Value.ref b :: As).toArray, t, U', L, hT, X', hL, e1, e2, hq, st⟩
section
variable {y : MethodName} {bytes cc : ByteArray} {maxL nL mc ms n index : Nat} {ret : Option FieldType} {ws : List Cond} {rm : Room} {Pc : Array Value → State → Prop} {Qc : Array Value → State → Outcome → State → Prop} {XC : String → State → State → Prop} {free : Addr → Prop} {Ts : List Cond} {own C : String} {b : Addr} {As rest : List Value} {g : JFrame}
theorem vx_runVX {hh : List (Nat × Nat × Nat × Nat)} (S : CallFix p m c cc nL s args Ts own) (hM : vx_Met l y ws rm Pc Qc XC mc ms free) (cw : vx_CVW R s args own C index y bytes maxL ret hh ws rm mc ms n) (hp : PreV s H C b Pc As)
    (hg : g.method = m) (hn : As.length = n) (hsize : g.locals.size = nL) (hstack : g.stack = As.reverse ++ .ref b :: rest) (hW : 2 * g.monitorRoom + (rest.map fun v => v.category).sum ≤ 8) (hdg : decode cc g.pc = .ok (.invokevirtual index, 3)) (hf : cells + mc ≤ R.cells ∧ slots + ms ≤ R.slots) :
    vx_Run p l e R s m args below meth c H locs cells slots mc ms g rest (Qc (Value.ref b :: As).toArray) XC free := by
  obtain ⟨⟨hrc, hrs, hfr, hlo, hws, hcw⟩, hcode, hini, hy, hlen, hl, hin, hse⟩ := cw
  have hK : vx_Back l R p e below s args y 3 8 (PreOf R mc ms Pc) (PostOf Qc mc ms free) (vx_Post XC mc ms free) := vx_backW (hh := hh) (bytes := bytes) (maxL := maxL) (ret := ret) hM hp.1 hrc hrs hfr hlo hws hcw (fun a' U hW => word_at hW (Or.inl (by first | rfl | simp [Cond.onTables, Cond.keeps, Cond.steady])) hini)
  obtain ⟨hx, hb, hml, ho, -⟩ := S
  obtain ⟨-, ⟨cellB, hcB, hoB, hclB⟩, hPc⟩ := hp
  intro T hT X
  rcases vx_callVX X hx (C := C) (hh := hh) (bytes := bytes) (maxL := maxL) (ret := ret) ho hl hin hse hcode hy hK (by rw [hT]; exact hcB) hoB hclB hg (hsize.trans hml.symm) (argsL := As) (rest := rest) (fun sig h => hn.trans (hlen sig h)) hstack hW (by rw [hb]; exact hdg)
    (fun vm₁ hW₁ => ⟨hf.1, hf.2, hPc (T.setVm vm₁) hT hW₁⟩) with ⟨v, vm₁, ⟨U', l2, c2, s2⟩, hW₁, X', ⟨g', mk, t, L, e1, e2, hq, h1, hL, h2, h3⟩, st⟩ | ⟨q, vm₁, ⟨U', l2, c2, s2⟩, hW₁, X', ⟨g', mk, t, L, E, ce, e1, e2, hq, hce, hcv, hcl, h1, hL, h2, h3⟩, st⟩
  · dsimp only [Pt.U, Pt.locs, Pt.cells, Pt.slots] at X' e1 e2 h1 h2 h3 st
    subst h1; subst h2; subst h3
    exact Or.inl ⟨v, (T.setVm vm₁).calling g' mk (Value.ref b :: As).toArray, t, U', L, hT, X', hL, e1, e2, hq, st⟩
  · dsimp only [Pt.U, Pt.locs, Pt.cells, Pt.slots] at X' e1 e2 h1 h2 h3 st hcl
    subst h1; subst h2; subst h3
    exact Or.inr ⟨q, (T.setVm vm₁).calling g' mk (Value.ref b :: As).toArray, t, U', L, E, ce, hT, X', hL, e1, e2, hq, hce, hcv, vx_cls hW₁ hcl, st⟩
theorem vx_runSX {hh : List (Nat × Nat × Nat × Nat)} (S : CallFix p m c cc nL s args Ts own) (hM : vx_Met l y ws rm Pc Qc XC mc ms free) (cw : vx_CSW R s args own index y bytes maxL ret hh ws rm mc ms n) (hp : PreS s H Pc As)
    (hg : g.method = m) (hn : As.length = n) (hsize : g.locals.size = nL) (hstack : g.stack = As.reverse ++ rest) (hW : 2 * g.monitorRoom + (rest.map fun v => v.category).sum ≤ 8) (hdg : decode cc g.pc = .ok (.invokestatic index, 3)) (hf : cells + mc ≤ R.cells ∧ slots + ms ≤ R.slots) :
    vx_Run p l e R s m args below meth c H locs cells slots mc ms g rest (Qc As.toArray) XC free := by
  obtain ⟨⟨hrc, hrs, hfr, hlo, hws, hcw⟩, hcode, hini, hy, hlen, hl, hstt⟩ := cw
  have hK : vx_Back l R p e below s args y 3 8 (PreOf R mc ms Pc) (PostOf Qc mc ms free) (vx_Post XC mc ms free) := vx_backW (hh := hh) (bytes := bytes) (maxL := maxL) (ret := ret) hM hp.1 hrc hrs hfr hlo hws hcw (fun a' U hW => word_at hW (Or.inl (by first | rfl | simp [Cond.onTables, Cond.keeps, Cond.steady])) hini)
  obtain ⟨hx, hb, hml, ho, -⟩ := S
  intro T hT X
  rcases vx_callSX X hx (hh := hh) (bytes := bytes) (maxL := maxL) (ret := ret) ho hl hstt hini hcode hy hK hg (hsize.trans hml.symm) (argsL := As) (rest := rest) (fun sig h => hn.trans (hlen sig h)) hstack hW (by rw [hb]; exact hdg)
    (fun vm₁ hW₁ => ⟨hf.1, hf.2, hp.2 (T.setVm vm₁) hT hW₁⟩) with ⟨v, vm₁, ⟨U', l2, c2, s2⟩, hW₁, X', ⟨g', mk, t, L, e1, e2, hq, h1, hL, h2, h3⟩, st⟩ | ⟨q, vm₁, ⟨U', l2, c2, s2⟩, hW₁, X', ⟨g', mk, t, L, E, ce, e1, e2, hq, hce, hcv, hcl, h1, hL, h2, h3⟩, st⟩
  · dsimp only [Pt.U, Pt.locs, Pt.cells, Pt.slots] at X' e1 e2 h1 h2 h3 st
    subst h1; subst h2; subst h3
    exact Or.inl ⟨v, (T.setVm vm₁).calling g' mk As.toArray, t, U', L, hT, X', hL, e1, e2, hq, st⟩
  · dsimp only [Pt.U, Pt.locs, Pt.cells, Pt.slots] at X' e1 e2 h1 h2 h3 st hcl
    subst h1; subst h2; subst h3
    exact Or.inr ⟨q, (T.setVm vm₁).calling g' mk As.toArray, t, U', L, E, ce, hT, X', hL, e1, e2, hq, hce, hcv, vx_cls hW₁ hcl, st⟩
end
end VXH
theorem vx_ofWH {l : Launch} {y : MethodName} {ws ws' : List Cond} {rm : Room} {Pc : Array Value → State → Prop} {Qc : Array Value → State → Outcome → State → Prop} {XC : String → State → State → Prop} {mc ms : Nat} {free : Addr → Prop} {cc : ByteArray} {maxL : Nat} {ret : Option FieldType} {hh : List (Nat × Nat × Nat × Nat)}
    (hy : plainName y.cls = true) (hw : ws = Cond.codeWith y cc maxL ret hh :: ws')
    (body : ∀ p e s m args below meth c s₁, BodyLoose p l y (headSpec ws rm) cc maxL ret e s m args below meth c s₁ → c.maxLocals = maxL → Pc args s →
      W p l e (headSpec ws rm).room s m args below meth c s.heap [] 0 0 (vx_MQ below Qc XC args s mc ms free) (entryFrame m args maxL)) : vx_Met l y ws rm Pc Qc XC mc ms free := by
  refine MetFree.of_bodyS (code := cc) (maxLocals := maxL) (ret := ret) hy ?_ ?_
  · intro args s m h hn
    obtain ⟨m9, meth, c, hn9, h1, h2, h3, h4, -, h5, h6, -⟩ := Cond.codeWith_spec (atoms_spec (ws := ws) h _ (by rw [hw]; exact List.mem_cons_self))
    cases hn.symm.trans hn9
    exact ⟨meth, c, h1, h2, h3, h4, h5, h6⟩
  · intro p e s m args below meth c s₁ B hml hP _
    have hh0 : s₁.heap = s.heap := by rw [B.state]; rfl
    obtain ⟨t, a1, o, b1, b2, b3⟩ := body p e s m args below meth c s₁ B hml hP s₁ hh0 (Stand.of_body B)
    exact ⟨t, o, a1, b1, b2, b3⟩
/-! ===== END ===== -/
end
section
/-! ===== BEGIN printed: names, fields, word lists, decode rows ===== -/
def RX0 : String := "Quarterboard"
def TX0 : u_T := fun k => match k with
  | 0 => ("Quarterboard", "withBlocks", "Z", false)
  | 1 => ("Quarterboard", "stage", "I", false)
  | 2 => ("Quarterboard", "player", "I", false)
  | 3 => ("Quarterboard", "held", "I", false)
  | 4 => ("Quarterboard", "victor", "I", false)
  | 5 => ("Quarterboard", "filled", "I", false)
  | 6 => ("Quarterboard", "used", "I", false)
  | 7 => ("Quarterboard", "digits", "J", false)
  | 8 => ("Quarterboard", "hasKept", "Z", false)
  | 9 => ("Quarterboard", "keptFilled", "I", false)
  | _ => ("Quarterboard", "keptDigits", "J", false)
def tyX0 : Nat → FieldType := fun k => match k with
  | 0 => .boolean
  | 1 => .int
  | 2 => .int
  | 3 => .int
  | 4 => .int
  | 5 => .int
  | 6 => .int
  | 7 => .long
  | 8 => .boolean
  | 9 => .int
  | _ => .long
abbrev wsX00 : List Cond := u_ws RX0 TX0 11
theorem nmX0 : ∀ a, a < 11 → ∀ b, b < 11 → a ≠ b → (TX0 a).2.1 ≠ (TX0 b).2.1 := by decide +kernel
theorem tyX0_ok : ∀ k, k < 11 → parseFieldDescriptor (TX0 k).2.2.1 = some (tyX0 k) := by decide +kernel
abbrev cX0_init : ByteArray := prog_1_method_1_code
def yX0_init : MethodName := ⟨RX0, "<init>", "()V"⟩
abbrev cX0_begin : ByteArray := prog_1_method_2_code
def yX0_begin : MethodName := ⟨RX0, "begin", "(Z)I"⟩
abbrev cX0_give : ByteArray := prog_1_method_3_code
def yX0_give : MethodName := ⟨RX0, "give", "(I)I"⟩
abbrev cX0_place : ByteArray := prog_1_method_4_code
def yX0_place : MethodName := ⟨RX0, "place", "(I)I"⟩
abbrev cX0_phase : ByteArray := prog_1_method_5_code
def yX0_phase : MethodName := ⟨RX0, "phase", "()I"⟩
abbrev cX0_onTurn : ByteArray := prog_1_method_6_code
def yX0_onTurn : MethodName := ⟨RX0, "onTurn", "()I"⟩
abbrev cX0_hand : ByteArray := prog_1_method_7_code
def yX0_hand : MethodName := ⟨RX0, "hand", "()I"⟩
abbrev cX0_pieceAt : ByteArray := prog_1_method_8_code
def yX0_pieceAt : MethodName := ⟨RX0, "pieceAt", "(I)I"⟩
abbrev cX0_placed : ByteArray := prog_1_method_9_code
def yX0_placed : MethodName := ⟨RX0, "placed", "()I"⟩
abbrev cX0_winner : ByteArray := prog_1_method_10_code
def yX0_winner : MethodName := ⟨RX0, "winner", "()I"⟩
abbrev cX0_lines : ByteArray := prog_1_method_11_code
def yX0_lines : MethodName := ⟨RX0, "lines", "()I"⟩
abbrev cX0_onLine : ByteArray := prog_1_method_12_code
def yX0_onLine : MethodName := ⟨RX0, "onLine", "(I)I"⟩
abbrev cX0_shared : ByteArray := prog_1_method_13_code
def yX0_shared : MethodName := ⟨RX0, "shared", "(I)I"⟩
abbrev cX0_winning : ByteArray := prog_1_method_14_code
def yX0_winning : MethodName := ⟨RX0, "winning", "(I)I"⟩
abbrev cX0_safe : ByteArray := prog_1_method_15_code
def yX0_safe : MethodName := ⟨RX0, "safe", "()I"⟩
abbrev cX0_worth : ByteArray := prog_1_method_16_code
def yX0_worth : MethodName := ⟨RX0, "worth", "(I)I"⟩
abbrev cX0_best : ByteArray := prog_1_method_17_code
def yX0_best : MethodName := ⟨RX0, "best", "(I)I"⟩
abbrev cX0_keep : ByteArray := prog_1_method_18_code
def yX0_keep : MethodName := ⟨RX0, "keep", "()I"⟩
abbrev cX0_isAlike : ByteArray := prog_1_method_19_code
def yX0_isAlike : MethodName := ⟨RX0, "isAlike", "()Z"⟩
abbrev cX0_symmetries : ByteArray := prog_1_method_20_code
def yX0_symmetries : MethodName := ⟨RX0, "symmetries", "()I"⟩
abbrev cX0_isNumber : ByteArray := prog_1_method_21_code
def yX0_isNumber : MethodName := ⟨RX0, "isNumber", "(I)Z"⟩
abbrev cX0_has : ByteArray := prog_1_method_22_code
def yX0_has : MethodName := ⟨RX0, "has", "(II)Z"⟩
abbrev cX0_withOne : ByteArray := prog_1_method_23_code
def yX0_withOne : MethodName := ⟨RX0, "withOne", "(JI)I"⟩
abbrev cX0_ownDigits : ByteArray := prog_1_method_24_code
def yX0_ownDigits : MethodName := ⟨RX0, "ownDigits", "(I)I"⟩
abbrev cX0_atFirstSquare : ByteArray := prog_1_method_25_code
def yX0_atFirstSquare : MethodName := ⟨RX0, "atFirstSquare", "(I)J"⟩
abbrev cX0_put : ByteArray := prog_1_method_26_code
def yX0_put : MethodName := ⟨RX0, "put", "(II)V"⟩
abbrev cX0_lift : ByteArray := prog_1_method_27_code
def yX0_lift : MethodName := ⟨RX0, "lift", "(II)V"⟩
abbrev cX0_inCommon : ByteArray := prog_1_method_28_code
def yX0_inCommon : MethodName := ⟨RX0, "inCommon", "(I)I"⟩
abbrev cX0_wonLines : ByteArray := prog_1_method_29_code
def yX0_wonLines : MethodName := ⟨RX0, "wonLines", "()I"⟩
abbrev cX0_lacksOne : ByteArray := prog_1_method_30_code
def yX0_lacksOne : MethodName := ⟨RX0, "lacksOne", "(I)Z"⟩
abbrev cX0_winningSquares : ByteArray := prog_1_method_31_code
def yX0_winningSquares : MethodName := ⟨RX0, "winningSquares", "(I)I"⟩
abbrev cX0_winningDigits : ByteArray := prog_1_method_32_code
def yX0_winningDigits : MethodName := ⟨RX0, "winningDigits", "()I"⟩
abbrev cX0_safePieces : ByteArray := prog_1_method_33_code
def yX0_safePieces : MethodName := ⟨RX0, "safePieces", "()I"⟩
abbrev cX0_canLookAhead : ByteArray := prog_1_method_34_code
def yX0_canLookAhead : MethodName := ⟨RX0, "canLookAhead", "(I)Z"⟩
abbrev cX0_bestPiece : ByteArray := prog_1_method_35_code
def yX0_bestPiece : MethodName := ⟨RX0, "bestPiece", "(I)I"⟩
abbrev cX0_bestSquare : ByteArray := prog_1_method_36_code
def yX0_bestSquare : MethodName := ⟨RX0, "bestSquare", "(I)I"⟩
abbrev cX0_worthAfterPlacing : ByteArray := prog_1_method_37_code
def yX0_worthAfterPlacing : MethodName := ⟨RX0, "worthAfterPlacing", "(II)I"⟩
abbrev cX0_worthToGive : ByteArray := prog_1_method_38_code
def yX0_worthToGive : MethodName := ⟨RX0, "worthToGive", "(I)I"⟩
abbrev cX0_worthToPlace : ByteArray := prog_1_method_39_code
def yX0_worthToPlace : MethodName := ⟨RX0, "worthToPlace", "(II)I"⟩
abbrev cX0_giverWins : ByteArray := prog_1_method_40_code
def yX0_giverWins : MethodName := ⟨RX0, "giverWins", "(I)Z"⟩
abbrev cX0_giverLoses : ByteArray := prog_1_method_41_code
def yX0_giverLoses : MethodName := ⟨RX0, "giverLoses", "(I)Z"⟩
abbrev cX0_placerWinsLater : ByteArray := prog_1_method_42_code
def yX0_placerWinsLater : MethodName := ⟨RX0, "placerWinsLater", "(II)Z"⟩
abbrev cX0_placerLoses : ByteArray := prog_1_method_43_code
def yX0_placerLoses : MethodName := ⟨RX0, "placerLoses", "(II)Z"⟩
abbrev cX0_turnedSquare : ByteArray := prog_1_method_44_code
def yX0_turnedSquare : MethodName := ⟨RX0, "turnedSquare", "(II)I"⟩
abbrev cX0_turned : ByteArray := prog_1_method_45_code
def yX0_turned : MethodName := ⟨RX0, "turned", "(JI)J"⟩
abbrev cX0_levelled : ByteArray := prog_1_method_46_code
def yX0_levelled : MethodName := ⟨RX0, "levelled", "(JI)J"⟩
abbrev cX0_waysOfMarks : ByteArray := prog_1_method_47_code
def yX0_waysOfMarks : MethodName := ⟨RX0, "waysOfMarks", "(IIJ)I"⟩
abbrev cX0_equalMarks : ByteArray := prog_1_method_48_code
def yX0_equalMarks : MethodName := ⟨RX0, "equalMarks", "(JII)I"⟩
def RX1 : String := "QuarterboardModel"
def TX1 : u_T := fun k => match k with
  | 0 => ("QuarterboardModel", "hasBlocks", "Z", false)
  | 1 => ("QuarterboardModel", "piece", "[I", true)
  | 2 => ("QuarterboardModel", "isOn", "[Z", true)
  | 3 => ("QuarterboardModel", "placed", "I", false)
  | 4 => ("QuarterboardModel", "hand", "I", false)
  | 5 => ("QuarterboardModel", "phase", "I", false)
  | 6 => ("QuarterboardModel", "onTurn", "I", false)
  | 7 => ("QuarterboardModel", "winner", "I", false)
  | 8 => ("QuarterboardModel", "isKept", "Z", false)
  | 9 => ("QuarterboardModel", "kept", "[I", true)
  | 10 => ("QuarterboardModel", "thrown", "I", false)
  | 11 => ("QuarterboardModel", "kind", "[I", true)
  | 12 => ("QuarterboardModel", "left", "[I", true)
  | 13 => ("QuarterboardModel", "choice", "[I", true)
  | 14 => ("QuarterboardModel", "best", "[I", true)
  | 15 => ("QuarterboardModel", "given", "[I", true)
  | _ => ("QuarterboardModel", "marks", "[I", true)
def tyX1 : Nat → FieldType := fun k => match k with
  | 0 => .boolean
  | 1 => .array .int
  | 2 => .array .boolean
  | 3 => .int
  | 4 => .int
  | 5 => .int
  | 6 => .int
  | 7 => .int
  | 8 => .boolean
  | 9 => .array .int
  | 10 => .int
  | 11 => .array .int
  | 12 => .array .int
  | 13 => .array .int
  | 14 => .array .int
  | 15 => .array .int
  | _ => .array .int
abbrev wsX10 : List Cond := u_ws RX1 TX1 17
theorem nmX1 : ∀ a, a < 17 → ∀ b, b < 17 → a ≠ b → (TX1 a).2.1 ≠ (TX1 b).2.1 := by decide +kernel
theorem tyX1_ok : ∀ k, k < 17 → parseFieldDescriptor (TX1 k).2.2.1 = some (tyX1 k) := by decide +kernel
abbrev cX1_init : ByteArray := prog_3_method_1_code
def yX1_init : MethodName := ⟨RX1, "<init>", "()V"⟩
abbrev cX1_thrown : ByteArray := prog_3_method_2_code
def yX1_thrown : MethodName := ⟨RX1, "thrown", "()I"⟩
abbrev cX1_fails : ByteArray := prog_3_method_3_code
def yX1_fails : MethodName := ⟨RX1, "fails", "(I)Z"⟩
abbrev cX1_tells : ByteArray := prog_3_method_4_code
def yX1_tells : MethodName := ⟨RX1, "tells", "(I)I"⟩
abbrev cX1_isIn : ByteArray := prog_3_method_5_code
def yX1_isIn : MethodName := ⟨RX1, "isIn", "(II)Z"⟩
abbrev cX1_many : ByteArray := prog_3_method_6_code
def yX1_many : MethodName := ⟨RX1, "many", "()I"⟩
abbrev cX1_square : ByteArray := prog_3_method_7_code
def yX1_square : MethodName := ⟨RX1, "square", "(II)I"⟩
abbrev cX1_common : ByteArray := prog_3_method_8_code
def yX1_common : MethodName := ⟨RX1, "common", "(I)I"⟩
abbrev cX1_full : ByteArray := prog_3_method_9_code
def yX1_full : MethodName := ⟨RX1, "full", "(I)I"⟩
abbrev cX1_won : ByteArray := prog_3_method_10_code
def yX1_won : MethodName := ⟨RX1, "won", "(I)I"⟩
abbrev cX1_begin : ByteArray := prog_3_method_11_code
def yX1_begin : MethodName := ⟨RX1, "begin", "(Z)I"⟩
abbrev cX1_give : ByteArray := prog_3_method_12_code
def yX1_give : MethodName := ⟨RX1, "give", "(I)I"⟩
abbrev cX1_puts : ByteArray := prog_3_method_13_code
def yX1_puts : MethodName := ⟨RX1, "puts", "(II)V"⟩
abbrev cX1_takes : ByteArray := prog_3_method_14_code
def yX1_takes : MethodName := ⟨RX1, "takes", "(I)V"⟩
abbrev cX1_place : ByteArray := prog_3_method_15_code
def yX1_place : MethodName := ⟨RX1, "place", "(I)I"⟩
abbrev cX1_phase : ByteArray := prog_3_method_16_code
def yX1_phase : MethodName := ⟨RX1, "phase", "()I"⟩
abbrev cX1_onTurn : ByteArray := prog_3_method_17_code
def yX1_onTurn : MethodName := ⟨RX1, "onTurn", "()I"⟩
abbrev cX1_hand : ByteArray := prog_3_method_18_code
def yX1_hand : MethodName := ⟨RX1, "hand", "()I"⟩
abbrev cX1_pieceAt : ByteArray := prog_3_method_19_code
def yX1_pieceAt : MethodName := ⟨RX1, "pieceAt", "(I)I"⟩
abbrev cX1_placed : ByteArray := prog_3_method_20_code
def yX1_placed : MethodName := ⟨RX1, "placed", "()I"⟩
abbrev cX1_winner : ByteArray := prog_3_method_21_code
def yX1_winner : MethodName := ⟨RX1, "winner", "()I"⟩
abbrev cX1_lines : ByteArray := prog_3_method_22_code
def yX1_lines : MethodName := ⟨RX1, "lines", "()I"⟩
abbrev cX1_onLine : ByteArray := prog_3_method_23_code
def yX1_onLine : MethodName := ⟨RX1, "onLine", "(I)I"⟩
abbrev cX1_shared : ByteArray := prog_3_method_24_code
def yX1_shared : MethodName := ⟨RX1, "shared", "(I)I"⟩
abbrev cX1_wins : ByteArray := prog_3_method_25_code
def yX1_wins : MethodName := ⟨RX1, "wins", "(II)Z"⟩
abbrev cX1_winners : ByteArray := prog_3_method_26_code
def yX1_winners : MethodName := ⟨RX1, "winners", "(I)I"⟩
abbrev cX1_winning : ByteArray := prog_3_method_27_code
def yX1_winning : MethodName := ⟨RX1, "winning", "(I)I"⟩
abbrev cX1_safe : ByteArray := prog_3_method_28_code
def yX1_safe : MethodName := ⟨RX1, "safe", "()I"⟩
abbrev cX1_enters : ByteArray := prog_3_method_29_code
def yX1_enters : MethodName := ⟨RX1, "enters", "(IIII)V"⟩
abbrev cX1_tries : ByteArray := prog_3_method_30_code
def yX1_tries : MethodName := ⟨RX1, "tries", "(I)I"⟩
abbrev cX1_looks : ByteArray := prog_3_method_31_code
def yX1_looks : MethodName := ⟨RX1, "looks", "(III)I"⟩
abbrev cX1_cannot : ByteArray := prog_3_method_32_code
def yX1_cannot : MethodName := ⟨RX1, "cannot", "(I)Z"⟩
abbrev cX1_worth : ByteArray := prog_3_method_33_code
def yX1_worth : MethodName := ⟨RX1, "worth", "(I)I"⟩
abbrev cX1_behind : ByteArray := prog_3_method_34_code
def yX1_behind : MethodName := ⟨RX1, "behind", "(II)I"⟩
abbrev cX1_best : ByteArray := prog_3_method_35_code
def yX1_best : MethodName := ⟨RX1, "best", "(I)I"⟩
abbrev cX1_keep : ByteArray := prog_3_method_36_code
def yX1_keep : MethodName := ⟨RX1, "keep", "()I"⟩
abbrev cX1_turned : ByteArray := prog_3_method_37_code
def yX1_turned : MethodName := ⟨RX1, "turned", "(II)I"⟩
abbrev cX1_renames : ByteArray := prog_3_method_38_code
def yX1_renames : MethodName := ⟨RX1, "renames", "(I)Z"⟩
abbrev cX1_renamed : ByteArray := prog_3_method_39_code
def yX1_renamed : MethodName := ⟨RX1, "renamed", "(II)I"⟩
abbrev cX1_ways : ByteArray := prog_3_method_40_code
def yX1_ways : MethodName := ⟨RX1, "ways", "([I)I"⟩
abbrev cX1_isAlike : ByteArray := prog_3_method_41_code
def yX1_isAlike : MethodName := ⟨RX1, "isAlike", "()Z"⟩
abbrev cX1_symmetries : ByteArray := prog_3_method_42_code
def yX1_symmetries : MethodName := ⟨RX1, "symmetries", "()I"⟩
def RJ6 : String := "java/lang/Integer"
def TJ6 : u_T := fun k => match k with
  | _ => ("", "", "", false)
def tyJ6 : Nat → FieldType := fun k => match k with
  | _ => .int
abbrev wsJ60 : List Cond := u_ws RJ6 TJ6 0
theorem nmJ6 : ∀ a, a < 0 → ∀ b, b < 0 → a ≠ b → (TJ6 a).2.1 ≠ (TJ6 b).2.1 := by decide +kernel
theorem tyJ6_ok : ∀ k, k < 0 → parseFieldDescriptor (TJ6 k).2.2.1 = some (tyJ6 k) := by decide +kernel
abbrev cJ6_bitCount_0f7a4 : ByteArray := prog_8_method_49_code
def yJ6_bitCount_0f7a4 : MethodName := ⟨RJ6, "bitCount", "(I)I"⟩
def RJ0 : String := "java/lang/String"
def TJ0 : u_T := fun k => match k with
  | _ => ("", "", "", false)
def tyJ0 : Nat → FieldType := fun k => match k with
  | _ => .int
abbrev wsJ00 : List Cond := u_ws RJ0 TJ0 0
theorem nmJ0 : ∀ a, a < 0 → ∀ b, b < 0 → a ≠ b → (TJ0 a).2.1 ≠ (TJ0 b).2.1 := by decide +kernel
theorem tyJ0_ok : ∀ k, k < 0 → parseFieldDescriptor (TJ0 k).2.2.1 = some (tyJ0 k) := by decide +kernel
def RL : String := "QuarterboardLaw"
def wsX0_init : List Cond := .code yX0_init cX0_init 1 none :: ([.methodLink RX0 1 objectInit, .instanceMethod objectInit, .code objectInit ⟨#[0xb1]⟩ 1 none, .fieldLink RX0 9 "Quarterboard" "held" "I", .fieldLink RX0 13 "Quarterboard" "victor" "I"] ++ wsX00)
def wsJ6_bitCount_0f7a4 : List Cond := .code yJ6_bitCount_0f7a4 cJ6_bitCount_0f7a4 1 (some .int) :: ([.constant RJ6 265 (1431655765), .constant RJ6 266 (858993459), .constant RJ6 267 (252645135)])
def wsX0_begin : List Cond := .code yX0_begin cX0_begin 3 (some .int) :: ([.fieldLink RX0 16 "Quarterboard" "filled" "I", .fieldLink RX0 25 "Quarterboard" "withBlocks" "Z", .fieldLink RX0 29 "Quarterboard" "stage" "I", .fieldLink RX0 32 "Quarterboard" "player" "I", .fieldLink RX0 9 "Quarterboard" "held" "I", .fieldLink RX0 13 "Quarterboard" "victor" "I", .fieldLink RX0 35 "Quarterboard" "used" "I", .fieldLink RX0 38 "Quarterboard" "digits" "J", .methodLink RX0 19 yJ6_bitCount_0f7a4, .static yJ6_bitCount_0f7a4, .initialized RJ6, .code yJ6_bitCount_0f7a4 cJ6_bitCount_0f7a4 1 (some .int), .constant RJ6 265 (1431655765), .constant RJ6 266 (858993459), .constant RJ6 267 (252645135)] ++ wsX00)
def wsX0_isNumber : List Cond := .code yX0_isNumber cX0_isNumber 1 (some .boolean) :: ([])
def wsX0_has : List Cond := .code yX0_has cX0_has 2 (some .boolean) :: ([])
def wsX0_give : List Cond := .code yX0_give cX0_give 2 (some .int) :: ([.classLink RX0 46 "java/lang/IndexOutOfBoundsException", .initialized "java/lang/IndexOutOfBoundsException", .classLink RX0 53 "java/lang/IllegalStateException", .initialized "java/lang/IllegalStateException", .fieldLink RX0 29 "Quarterboard" "stage" "I", .fieldLink RX0 35 "Quarterboard" "used" "I", .fieldLink RX0 9 "Quarterboard" "held" "I", .fieldLink RX0 32 "Quarterboard" "player" "I", .methodLink RX0 42 yX0_isNumber, .static yX0_isNumber, .initialized RX0, .code yX0_isNumber cX0_isNumber 1 (some .boolean), .methodLink RX0 58 yX0_has, .static yX0_has, .code yX0_has cX0_has 2 (some .boolean)] ++ wsX00 ++ (vx_atS RX0 50 "java/lang/IndexOutOfBoundsException" ["java/lang/RuntimeException", "java/lang/Exception"]).filter goodWord ++ (vx_atS RX0 57 "java/lang/IllegalStateException" ["java/lang/RuntimeException", "java/lang/Exception"]).filter goodWord)
def wsX0_atFirstSquare : List Cond := .code yX0_atFirstSquare cX0_atFirstSquare 1 (some .long) :: ([.constantLong RX0 141 (2), .constantLong RX0 143 (4), .constantLong RX0 145 (8)])
def wsX0_put : List Cond := .code yX0_put cX0_put 3 none :: ([.fieldLink RX0 16 "Quarterboard" "filled" "I", .fieldLink RX0 35 "Quarterboard" "used" "I", .fieldLink RX0 38 "Quarterboard" "digits" "J", .methodLink RX0 147 yX0_atFirstSquare, .static yX0_atFirstSquare, .initialized RX0, .code yX0_atFirstSquare cX0_atFirstSquare 1 (some .long), .constantLong RX0 141 (2), .constantLong RX0 143 (4), .constantLong RX0 145 (8)] ++ wsX00)
def wsX0_lines : List Cond := .code yX0_lines cX0_lines 1 (some .int) :: ([.fieldLink RX0 25 "Quarterboard" "withBlocks" "Z", .fieldLink RX0 83 "Quarterboard" "LINES" "[I"] ++ wsX00)
def wsX0_withOne : List Cond := .code yX0_withOne cX0_withOne 3 (some .int) :: ([.constant RX0 78 (65535)])
def wsX0_inCommon : List Cond := .code yX0_inCommon cX0_inCommon 6 (some .int) :: ([.fieldLink RX0 16 "Quarterboard" "filled" "I", .fieldLink RX0 38 "Quarterboard" "digits" "J", .methodLink RX0 79 yX0_withOne, .static yX0_withOne, .initialized RX0, .code yX0_withOne cX0_withOne 3 (some .int), .constant RX0 78 (65535)] ++ wsX00)
def wsX0_wonLines : List Cond := .code yX0_wonLines cX0_wonLines 4 (some .int) :: ([.fieldLink RX0 83 "Quarterboard" "LINES" "[I", .fieldLink RX0 16 "Quarterboard" "filled" "I", .methodLink RX0 87 yX0_lines, .instanceMethod yX0_lines, .selects RX0 yX0_lines yX0_lines, .initialized RX0, .code yX0_lines cX0_lines 1 (some .int), .fieldLink RX0 25 "Quarterboard" "withBlocks" "Z", .methodLink RX0 92 yX0_inCommon, .instanceMethod yX0_inCommon, .selects RX0 yX0_inCommon yX0_inCommon, .code yX0_inCommon cX0_inCommon 6 (some .int), .fieldLink RX0 38 "Quarterboard" "digits" "J", .methodLink RX0 79 yX0_withOne, .static yX0_withOne, .code yX0_withOne cX0_withOne 3 (some .int), .constant RX0 78 (65535)] ++ wsX00)
def wsX0_place_r1 : List Cond := [Cond.classLink RX0 46 "java/lang/IndexOutOfBoundsException", Cond.initialized "java/lang/IndexOutOfBoundsException", Cond.classLink RX0 53 "java/lang/IllegalStateException", Cond.initialized "java/lang/IllegalStateException", Cond.fieldLink RX0 29 "Quarterboard" "stage" "I", Cond.fieldLink RX0 16 "Quarterboard" "filled" "I", Cond.fieldLink RX0 9 "Quarterboard" "held" "I", Cond.fieldLink RX0 32 "Quarterboard" "player" "I", Cond.fieldLink RX0 13 "Quarterboard" "victor" "I", Cond.constant RX0 78 (65535), Cond.methodLink RX0 42 yX0_isNumber, Cond.static yX0_isNumber, Cond.initialized RX0, Cond.code yX0_isNumber cX0_isNumber 1 (some .boolean), Cond.methodLink RX0 58 yX0_has, Cond.static yX0_has, Cond.code yX0_has cX0_has 2 (some .boolean), Cond.methodLink RX0 70 yX0_put, Cond.instanceMethod yX0_put, Cond.selects RX0 yX0_put yX0_put, Cond.code yX0_put cX0_put 3 none, Cond.fieldLink RX0 35 "Quarterboard" "used" "I", Cond.fieldLink RX0 38 "Quarterboard" "digits" "J", Cond.methodLink RX0 147 yX0_atFirstSquare]
def wsX0_place_r2 : List Cond := [Cond.static yX0_atFirstSquare, Cond.code yX0_atFirstSquare cX0_atFirstSquare 1 (some .long), Cond.constantLong RX0 141 (2), Cond.constantLong RX0 143 (4), Cond.constantLong RX0 145 (8), Cond.methodLink RX0 74 yX0_wonLines, Cond.instanceMethod yX0_wonLines, Cond.selects RX0 yX0_wonLines yX0_wonLines, Cond.code yX0_wonLines cX0_wonLines 4 (some .int), Cond.fieldLink RX0 83 "Quarterboard" "LINES" "[I", Cond.methodLink RX0 87 yX0_lines, Cond.instanceMethod yX0_lines, Cond.selects RX0 yX0_lines yX0_lines, Cond.code yX0_lines cX0_lines 1 (some .int), Cond.fieldLink RX0 25 "Quarterboard" "withBlocks" "Z", Cond.methodLink RX0 92 yX0_inCommon, Cond.instanceMethod yX0_inCommon, Cond.selects RX0 yX0_inCommon yX0_inCommon, Cond.code yX0_inCommon cX0_inCommon 6 (some .int), Cond.methodLink RX0 79 yX0_withOne, Cond.static yX0_withOne, Cond.code yX0_withOne cX0_withOne 3 (some .int)]
def wsX0_place : List Cond := .code yX0_place cX0_place 3 (some .int) :: ((wsX0_place_r1 ++ wsX0_place_r2) ++ wsX00 ++ (vx_atS RX0 50 "java/lang/IndexOutOfBoundsException" ["java/lang/RuntimeException", "java/lang/Exception"]).filter goodWord ++ (vx_atS RX0 57 "java/lang/IllegalStateException" ["java/lang/RuntimeException", "java/lang/Exception"]).filter goodWord)
def wsX0_phase : List Cond := .code yX0_phase cX0_phase 1 (some .int) :: ([.fieldLink RX0 29 "Quarterboard" "stage" "I"] ++ wsX00)
def wsX0_onTurn : List Cond := .code yX0_onTurn cX0_onTurn 1 (some .int) :: ([.fieldLink RX0 32 "Quarterboard" "player" "I"] ++ wsX00)
def wsX0_hand : List Cond := .code yX0_hand cX0_hand 1 (some .int) :: ([.fieldLink RX0 9 "Quarterboard" "held" "I"] ++ wsX00)
def wsX0_pieceAt : List Cond := .code yX0_pieceAt cX0_pieceAt 4 (some .int) :: ([.classLink RX0 46 "java/lang/IndexOutOfBoundsException", .initialized "java/lang/IndexOutOfBoundsException", .fieldLink RX0 16 "Quarterboard" "filled" "I", .fieldLink RX0 38 "Quarterboard" "digits" "J", .methodLink RX0 42 yX0_isNumber, .static yX0_isNumber, .initialized RX0, .code yX0_isNumber cX0_isNumber 1 (some .boolean), .methodLink RX0 58 yX0_has, .static yX0_has, .code yX0_has cX0_has 2 (some .boolean), .methodLink RX0 79 yX0_withOne, .static yX0_withOne, .code yX0_withOne cX0_withOne 3 (some .int), .constant RX0 78 (65535)] ++ wsX00 ++ (vx_atS RX0 50 "java/lang/IndexOutOfBoundsException" ["java/lang/RuntimeException", "java/lang/Exception"]).filter goodWord)
def wsX0_placed : List Cond := .code yX0_placed cX0_placed 1 (some .int) :: ([.fieldLink RX0 16 "Quarterboard" "filled" "I", .methodLink RX0 19 yJ6_bitCount_0f7a4, .static yJ6_bitCount_0f7a4, .initialized RJ6, .code yJ6_bitCount_0f7a4 cJ6_bitCount_0f7a4 1 (some .int), .constant RJ6 265 (1431655765), .constant RJ6 266 (858993459), .constant RJ6 267 (252645135)] ++ wsX00)
def wsX0_winner : List Cond := .code yX0_winner cX0_winner 1 (some .int) :: ([.fieldLink RX0 13 "Quarterboard" "victor" "I"] ++ wsX00)
def wsX0_onLine : List Cond := .code yX0_onLine cX0_onLine 2 (some .int) :: ([.classLink RX0 46 "java/lang/IndexOutOfBoundsException", .initialized "java/lang/IndexOutOfBoundsException", .fieldLink RX0 83 "Quarterboard" "LINES" "[I", .fieldLink RX0 16 "Quarterboard" "filled" "I", .methodLink RX0 87 yX0_lines, .instanceMethod yX0_lines, .selects RX0 yX0_lines yX0_lines, .initialized RX0, .code yX0_lines cX0_lines 1 (some .int), .fieldLink RX0 25 "Quarterboard" "withBlocks" "Z", .methodLink RX0 19 yJ6_bitCount_0f7a4, .static yJ6_bitCount_0f7a4, .initialized RJ6, .code yJ6_bitCount_0f7a4 cJ6_bitCount_0f7a4 1 (some .int), .constant RJ6 265 (1431655765), .constant RJ6 266 (858993459), .constant RJ6 267 (252645135)] ++ wsX00 ++ (vx_atS RX0 50 "java/lang/IndexOutOfBoundsException" ["java/lang/RuntimeException", "java/lang/Exception"]).filter goodWord)
def wsX0_shared : List Cond := .code yX0_shared cX0_shared 2 (some .int) :: ([.classLink RX0 46 "java/lang/IndexOutOfBoundsException", .initialized "java/lang/IndexOutOfBoundsException", .fieldLink RX0 83 "Quarterboard" "LINES" "[I", .methodLink RX0 87 yX0_lines, .instanceMethod yX0_lines, .selects RX0 yX0_lines yX0_lines, .initialized RX0, .code yX0_lines cX0_lines 1 (some .int), .fieldLink RX0 25 "Quarterboard" "withBlocks" "Z", .methodLink RX0 92 yX0_inCommon, .instanceMethod yX0_inCommon, .selects RX0 yX0_inCommon yX0_inCommon, .code yX0_inCommon cX0_inCommon 6 (some .int), .fieldLink RX0 16 "Quarterboard" "filled" "I", .fieldLink RX0 38 "Quarterboard" "digits" "J", .methodLink RX0 79 yX0_withOne, .static yX0_withOne, .code yX0_withOne cX0_withOne 3 (some .int), .constant RX0 78 (65535)] ++ wsX00 ++ (vx_atS RX0 50 "java/lang/IndexOutOfBoundsException" ["java/lang/RuntimeException", "java/lang/Exception"]).filter goodWord)
def wsX0_ownDigits : List Cond := .code yX0_ownDigits cX0_ownDigits 1 (some .int) :: ([])
def wsX0_lacksOne : List Cond := .code yX0_lacksOne cX0_lacksOne 3 (some .boolean) :: ([.fieldLink RX0 16 "Quarterboard" "filled" "I"] ++ wsX00)
def wsX0_winningSquares : List Cond := .code yX0_winningSquares cX0_winningSquares 6 (some .int) :: ([.fieldLink RX0 83 "Quarterboard" "LINES" "[I", .fieldLink RX0 16 "Quarterboard" "filled" "I", .methodLink RX0 155 yX0_ownDigits, .static yX0_ownDigits, .initialized RX0, .code yX0_ownDigits cX0_ownDigits 1 (some .int), .methodLink RX0 87 yX0_lines, .instanceMethod yX0_lines, .selects RX0 yX0_lines yX0_lines, .code yX0_lines cX0_lines 1 (some .int), .fieldLink RX0 25 "Quarterboard" "withBlocks" "Z", .methodLink RX0 158 yX0_lacksOne, .instanceMethod yX0_lacksOne, .selects RX0 yX0_lacksOne yX0_lacksOne, .code yX0_lacksOne cX0_lacksOne 3 (some .boolean), .methodLink RX0 92 yX0_inCommon, .instanceMethod yX0_inCommon, .selects RX0 yX0_inCommon yX0_inCommon, .code yX0_inCommon cX0_inCommon 6 (some .int), .fieldLink RX0 38 "Quarterboard" "digits" "J", .methodLink RX0 79 yX0_withOne, .static yX0_withOne, .code yX0_withOne cX0_withOne 3 (some .int), .constant RX0 78 (65535)] ++ wsX00)
def wsX0_winning_r1 : List Cond := [Cond.classLink RX0 46 "java/lang/IndexOutOfBoundsException", Cond.initialized "java/lang/IndexOutOfBoundsException", Cond.classLink RX0 53 "java/lang/IllegalStateException", Cond.initialized "java/lang/IllegalStateException", Cond.fieldLink RX0 29 "Quarterboard" "stage" "I", Cond.fieldLink RX0 35 "Quarterboard" "used" "I", Cond.methodLink RX0 42 yX0_isNumber, Cond.static yX0_isNumber, Cond.initialized RX0, Cond.code yX0_isNumber cX0_isNumber 1 (some .boolean), Cond.methodLink RX0 58 yX0_has, Cond.static yX0_has, Cond.code yX0_has cX0_has 2 (some .boolean), Cond.methodLink RX0 97 yX0_winningSquares, Cond.instanceMethod yX0_winningSquares, Cond.selects RX0 yX0_winningSquares yX0_winningSquares, Cond.code yX0_winningSquares cX0_winningSquares 6 (some .int), Cond.fieldLink RX0 83 "Quarterboard" "LINES" "[I", Cond.fieldLink RX0 16 "Quarterboard" "filled" "I", Cond.methodLink RX0 155 yX0_ownDigits, Cond.static yX0_ownDigits, Cond.code yX0_ownDigits cX0_ownDigits 1 (some .int), Cond.methodLink RX0 87 yX0_lines, Cond.instanceMethod yX0_lines]
def wsX0_winning_r2 : List Cond := [Cond.selects RX0 yX0_lines yX0_lines, Cond.code yX0_lines cX0_lines 1 (some .int), Cond.fieldLink RX0 25 "Quarterboard" "withBlocks" "Z", Cond.methodLink RX0 158 yX0_lacksOne, Cond.instanceMethod yX0_lacksOne, Cond.selects RX0 yX0_lacksOne yX0_lacksOne, Cond.code yX0_lacksOne cX0_lacksOne 3 (some .boolean), Cond.methodLink RX0 92 yX0_inCommon, Cond.instanceMethod yX0_inCommon, Cond.selects RX0 yX0_inCommon yX0_inCommon, Cond.code yX0_inCommon cX0_inCommon 6 (some .int), Cond.fieldLink RX0 38 "Quarterboard" "digits" "J", Cond.methodLink RX0 79 yX0_withOne, Cond.static yX0_withOne, Cond.code yX0_withOne cX0_withOne 3 (some .int), Cond.constant RX0 78 (65535)]
def wsX0_winning : List Cond := .code yX0_winning cX0_winning 2 (some .int) :: ((wsX0_winning_r1 ++ wsX0_winning_r2) ++ wsX00 ++ (vx_atS RX0 50 "java/lang/IndexOutOfBoundsException" ["java/lang/RuntimeException", "java/lang/Exception"]).filter goodWord ++ (vx_atS RX0 57 "java/lang/IllegalStateException" ["java/lang/RuntimeException", "java/lang/Exception"]).filter goodWord)
def wsX0_winningDigits : List Cond := .code yX0_winningDigits cX0_winningDigits 4 (some .int) :: ([.fieldLink RX0 83 "Quarterboard" "LINES" "[I", .methodLink RX0 87 yX0_lines, .instanceMethod yX0_lines, .selects RX0 yX0_lines yX0_lines, .initialized RX0, .code yX0_lines cX0_lines 1 (some .int), .fieldLink RX0 25 "Quarterboard" "withBlocks" "Z", .methodLink RX0 158 yX0_lacksOne, .instanceMethod yX0_lacksOne, .selects RX0 yX0_lacksOne yX0_lacksOne, .code yX0_lacksOne cX0_lacksOne 3 (some .boolean), .fieldLink RX0 16 "Quarterboard" "filled" "I", .methodLink RX0 92 yX0_inCommon, .instanceMethod yX0_inCommon, .selects RX0 yX0_inCommon yX0_inCommon, .code yX0_inCommon cX0_inCommon 6 (some .int), .fieldLink RX0 38 "Quarterboard" "digits" "J", .methodLink RX0 79 yX0_withOne, .static yX0_withOne, .code yX0_withOne cX0_withOne 3 (some .int), .constant RX0 78 (65535)] ++ wsX00)
def wsX0_safePieces_r1 : List Cond := [Cond.fieldLink RX0 35 "Quarterboard" "used" "I", Cond.methodLink RX0 161 yX0_winningDigits, Cond.instanceMethod yX0_winningDigits, Cond.selects RX0 yX0_winningDigits yX0_winningDigits, Cond.initialized RX0, Cond.code yX0_winningDigits cX0_winningDigits 4 (some .int), Cond.fieldLink RX0 83 "Quarterboard" "LINES" "[I", Cond.methodLink RX0 87 yX0_lines, Cond.instanceMethod yX0_lines, Cond.selects RX0 yX0_lines yX0_lines, Cond.code yX0_lines cX0_lines 1 (some .int), Cond.fieldLink RX0 25 "Quarterboard" "withBlocks" "Z", Cond.methodLink RX0 158 yX0_lacksOne, Cond.instanceMethod yX0_lacksOne, Cond.selects RX0 yX0_lacksOne yX0_lacksOne, Cond.code yX0_lacksOne cX0_lacksOne 3 (some .boolean), Cond.fieldLink RX0 16 "Quarterboard" "filled" "I", Cond.methodLink RX0 92 yX0_inCommon, Cond.instanceMethod yX0_inCommon, Cond.selects RX0 yX0_inCommon yX0_inCommon, Cond.code yX0_inCommon cX0_inCommon 6 (some .int), Cond.fieldLink RX0 38 "Quarterboard" "digits" "J", Cond.methodLink RX0 79 yX0_withOne, Cond.static yX0_withOne]
def wsX0_safePieces_r2 : List Cond := [Cond.code yX0_withOne cX0_withOne 3 (some .int), Cond.constant RX0 78 (65535), Cond.methodLink RX0 58 yX0_has, Cond.static yX0_has, Cond.code yX0_has cX0_has 2 (some .boolean), Cond.methodLink RX0 155 yX0_ownDigits, Cond.static yX0_ownDigits, Cond.code yX0_ownDigits cX0_ownDigits 1 (some .int)]
def wsX0_safePieces : List Cond := .code yX0_safePieces cX0_safePieces 4 (some .int) :: ((wsX0_safePieces_r1 ++ wsX0_safePieces_r2) ++ wsX00)
def wsX0_safe_r1 : List Cond := [Cond.classLink RX0 53 "java/lang/IllegalStateException", Cond.initialized "java/lang/IllegalStateException", Cond.fieldLink RX0 29 "Quarterboard" "stage" "I", Cond.methodLink RX0 100 yX0_safePieces, Cond.instanceMethod yX0_safePieces, Cond.selects RX0 yX0_safePieces yX0_safePieces, Cond.initialized RX0, Cond.code yX0_safePieces cX0_safePieces 4 (some .int), Cond.fieldLink RX0 35 "Quarterboard" "used" "I", Cond.methodLink RX0 161 yX0_winningDigits, Cond.instanceMethod yX0_winningDigits, Cond.selects RX0 yX0_winningDigits yX0_winningDigits, Cond.code yX0_winningDigits cX0_winningDigits 4 (some .int), Cond.fieldLink RX0 83 "Quarterboard" "LINES" "[I", Cond.methodLink RX0 87 yX0_lines, Cond.instanceMethod yX0_lines, Cond.selects RX0 yX0_lines yX0_lines, Cond.code yX0_lines cX0_lines 1 (some .int), Cond.fieldLink RX0 25 "Quarterboard" "withBlocks" "Z", Cond.methodLink RX0 158 yX0_lacksOne, Cond.instanceMethod yX0_lacksOne, Cond.selects RX0 yX0_lacksOne yX0_lacksOne, Cond.code yX0_lacksOne cX0_lacksOne 3 (some .boolean), Cond.fieldLink RX0 16 "Quarterboard" "filled" "I"]
def wsX0_safe_r2 : List Cond := [Cond.methodLink RX0 92 yX0_inCommon, Cond.instanceMethod yX0_inCommon, Cond.selects RX0 yX0_inCommon yX0_inCommon, Cond.code yX0_inCommon cX0_inCommon 6 (some .int), Cond.fieldLink RX0 38 "Quarterboard" "digits" "J", Cond.methodLink RX0 79 yX0_withOne, Cond.static yX0_withOne, Cond.code yX0_withOne cX0_withOne 3 (some .int), Cond.constant RX0 78 (65535), Cond.methodLink RX0 58 yX0_has, Cond.static yX0_has, Cond.code yX0_has cX0_has 2 (some .boolean), Cond.methodLink RX0 155 yX0_ownDigits, Cond.static yX0_ownDigits, Cond.code yX0_ownDigits cX0_ownDigits 1 (some .int)]
def wsX0_safe : List Cond := .code yX0_safe cX0_safe 1 (some .int) :: ((wsX0_safe_r1 ++ wsX0_safe_r2) ++ wsX00 ++ (vx_atS RX0 57 "java/lang/IllegalStateException" ["java/lang/RuntimeException", "java/lang/Exception"]).filter goodWord)
def wsX0_canLookAhead : List Cond := .code yX0_canLookAhead cX0_canLookAhead 3 (some .boolean) :: ([.fieldLink RX0 16 "Quarterboard" "filled" "I", .fieldLink RX0 29 "Quarterboard" "stage" "I", .methodLink RX0 19 yJ6_bitCount_0f7a4, .static yJ6_bitCount_0f7a4, .initialized RJ6, .code yJ6_bitCount_0f7a4 cJ6_bitCount_0f7a4 1 (some .int), .constant RJ6 265 (1431655765), .constant RJ6 266 (858993459), .constant RJ6 267 (252645135)] ++ wsX00)
def wsX0_lift : List Cond := .code yX0_lift cX0_lift 3 none :: ([.fieldLink RX0 16 "Quarterboard" "filled" "I", .fieldLink RX0 35 "Quarterboard" "used" "I", .fieldLink RX0 38 "Quarterboard" "digits" "J", .constantLong RX0 151 (281479271743489), .constantLong RX0 153 (-1)] ++ wsX00)
def wsX0_giverLoses_r1 : List Cond := [Cond.fieldLink RX0 16 "Quarterboard" "filled" "I", Cond.constant RX0 78 (65535), Cond.methodLink RX0 100 yX0_safePieces, Cond.instanceMethod yX0_safePieces, Cond.selects RX0 yX0_safePieces yX0_safePieces, Cond.initialized RX0, Cond.code yX0_safePieces cX0_safePieces 4 (some .int), Cond.fieldLink RX0 35 "Quarterboard" "used" "I", Cond.methodLink RX0 161 yX0_winningDigits, Cond.instanceMethod yX0_winningDigits, Cond.selects RX0 yX0_winningDigits yX0_winningDigits, Cond.code yX0_winningDigits cX0_winningDigits 4 (some .int), Cond.fieldLink RX0 83 "Quarterboard" "LINES" "[I", Cond.methodLink RX0 87 yX0_lines, Cond.instanceMethod yX0_lines, Cond.selects RX0 yX0_lines yX0_lines, Cond.code yX0_lines cX0_lines 1 (some .int), Cond.fieldLink RX0 25 "Quarterboard" "withBlocks" "Z", Cond.methodLink RX0 158 yX0_lacksOne, Cond.instanceMethod yX0_lacksOne, Cond.selects RX0 yX0_lacksOne yX0_lacksOne, Cond.code yX0_lacksOne cX0_lacksOne 3 (some .boolean), Cond.methodLink RX0 92 yX0_inCommon, Cond.instanceMethod yX0_inCommon]
def wsX0_giverLoses_r2 : List Cond := [Cond.selects RX0 yX0_inCommon yX0_inCommon, Cond.code yX0_inCommon cX0_inCommon 6 (some .int), Cond.fieldLink RX0 38 "Quarterboard" "digits" "J", Cond.methodLink RX0 79 yX0_withOne, Cond.static yX0_withOne, Cond.code yX0_withOne cX0_withOne 3 (some .int), Cond.methodLink RX0 58 yX0_has, Cond.static yX0_has, Cond.code yX0_has cX0_has 2 (some .boolean), Cond.methodLink RX0 155 yX0_ownDigits, Cond.static yX0_ownDigits, Cond.code yX0_ownDigits cX0_ownDigits 1 (some .int), Cond.methodLink RX0 176 yX0_placerWinsLater, Cond.instanceMethod yX0_placerWinsLater, Cond.selects RX0 yX0_placerWinsLater yX0_placerWinsLater, Cond.code yX0_giverWins cX0_giverWins 4 (some .boolean), Cond.methodLink RX0 179 yX0_placerLoses, Cond.instanceMethod yX0_placerLoses, Cond.selects RX0 yX0_placerLoses yX0_placerLoses, Cond.code yX0_placerLoses cX0_placerLoses 5 (some .boolean), Cond.methodLink RX0 70 yX0_put, Cond.instanceMethod yX0_put, Cond.selects RX0 yX0_put yX0_put, Cond.code yX0_put cX0_put 3 none]
def wsX0_giverLoses_r3 : List Cond := [Cond.methodLink RX0 147 yX0_atFirstSquare, Cond.static yX0_atFirstSquare, Cond.code yX0_atFirstSquare cX0_atFirstSquare 1 (some .long), Cond.constantLong RX0 141 (2), Cond.constantLong RX0 143 (4), Cond.constantLong RX0 145 (8), Cond.methodLink RX0 173 yX0_giverLoses, Cond.instanceMethod yX0_giverLoses, Cond.selects RX0 yX0_giverLoses yX0_giverLoses, Cond.methodLink RX0 167 yX0_lift, Cond.instanceMethod yX0_lift, Cond.selects RX0 yX0_lift yX0_lift, Cond.code yX0_lift cX0_lift 3 none, Cond.constantLong RX0 151 (281479271743489), Cond.constantLong RX0 153 (-1), Cond.code yX0_placerWinsLater cX0_placerWinsLater 5 (some .boolean), Cond.methodLink RX0 170 yX0_giverWins, Cond.instanceMethod yX0_giverWins, Cond.selects RX0 yX0_giverWins yX0_giverWins]
def wsX0_giverLoses : List Cond := .code yX0_giverLoses cX0_giverLoses 4 (some .boolean) :: ((wsX0_giverLoses_r1 ++ (wsX0_giverLoses_r2 ++ wsX0_giverLoses_r3)) ++ wsX00)
def wsX0_giverWins_r1 : List Cond := [Cond.methodLink RX0 100 yX0_safePieces, Cond.instanceMethod yX0_safePieces, Cond.selects RX0 yX0_safePieces yX0_safePieces, Cond.initialized RX0, Cond.code yX0_safePieces cX0_safePieces 4 (some .int), Cond.fieldLink RX0 35 "Quarterboard" "used" "I", Cond.methodLink RX0 161 yX0_winningDigits, Cond.instanceMethod yX0_winningDigits, Cond.selects RX0 yX0_winningDigits yX0_winningDigits, Cond.code yX0_winningDigits cX0_winningDigits 4 (some .int), Cond.fieldLink RX0 83 "Quarterboard" "LINES" "[I", Cond.methodLink RX0 87 yX0_lines, Cond.instanceMethod yX0_lines, Cond.selects RX0 yX0_lines yX0_lines, Cond.code yX0_lines cX0_lines 1 (some .int), Cond.fieldLink RX0 25 "Quarterboard" "withBlocks" "Z", Cond.methodLink RX0 158 yX0_lacksOne, Cond.instanceMethod yX0_lacksOne, Cond.selects RX0 yX0_lacksOne yX0_lacksOne, Cond.code yX0_lacksOne cX0_lacksOne 3 (some .boolean), Cond.fieldLink RX0 16 "Quarterboard" "filled" "I", Cond.methodLink RX0 92 yX0_inCommon, Cond.instanceMethod yX0_inCommon, Cond.selects RX0 yX0_inCommon yX0_inCommon]
def wsX0_giverWins_r2 : List Cond := [Cond.code yX0_inCommon cX0_inCommon 6 (some .int), Cond.fieldLink RX0 38 "Quarterboard" "digits" "J", Cond.methodLink RX0 79 yX0_withOne, Cond.static yX0_withOne, Cond.code yX0_withOne cX0_withOne 3 (some .int), Cond.constant RX0 78 (65535), Cond.methodLink RX0 58 yX0_has, Cond.static yX0_has, Cond.code yX0_has cX0_has 2 (some .boolean), Cond.methodLink RX0 155 yX0_ownDigits, Cond.static yX0_ownDigits, Cond.code yX0_ownDigits cX0_ownDigits 1 (some .int), Cond.methodLink RX0 179 yX0_placerLoses, Cond.instanceMethod yX0_placerLoses, Cond.selects RX0 yX0_placerLoses yX0_placerLoses, Cond.code yX0_giverLoses cX0_giverLoses 4 (some .boolean), Cond.methodLink RX0 176 yX0_placerWinsLater, Cond.instanceMethod yX0_placerWinsLater, Cond.selects RX0 yX0_placerWinsLater yX0_placerWinsLater, Cond.code yX0_placerLoses cX0_placerLoses 5 (some .boolean), Cond.methodLink RX0 70 yX0_put, Cond.instanceMethod yX0_put, Cond.selects RX0 yX0_put yX0_put, Cond.code yX0_put cX0_put 3 none]
def wsX0_giverWins_r3 : List Cond := [Cond.methodLink RX0 147 yX0_atFirstSquare, Cond.static yX0_atFirstSquare, Cond.code yX0_atFirstSquare cX0_atFirstSquare 1 (some .long), Cond.constantLong RX0 141 (2), Cond.constantLong RX0 143 (4), Cond.constantLong RX0 145 (8), Cond.methodLink RX0 173 yX0_giverLoses, Cond.instanceMethod yX0_giverLoses, Cond.selects RX0 yX0_giverLoses yX0_giverLoses, Cond.methodLink RX0 167 yX0_lift, Cond.instanceMethod yX0_lift, Cond.selects RX0 yX0_lift yX0_lift, Cond.code yX0_lift cX0_lift 3 none, Cond.constantLong RX0 151 (281479271743489), Cond.constantLong RX0 153 (-1), Cond.code yX0_placerWinsLater cX0_placerWinsLater 5 (some .boolean), Cond.methodLink RX0 170 yX0_giverWins, Cond.instanceMethod yX0_giverWins, Cond.selects RX0 yX0_giverWins yX0_giverWins]
def wsX0_giverWins : List Cond := .code yX0_giverWins cX0_giverWins 4 (some .boolean) :: ((wsX0_giverWins_r1 ++ (wsX0_giverWins_r2 ++ wsX0_giverWins_r3)) ++ wsX00)
def wsX0_placerLoses_r1 : List Cond := [Cond.fieldLink RX0 16 "Quarterboard" "filled" "I", Cond.methodLink RX0 58 yX0_has, Cond.static yX0_has, Cond.initialized RX0, Cond.code yX0_has cX0_has 2 (some .boolean), Cond.methodLink RX0 70 yX0_put, Cond.instanceMethod yX0_put, Cond.selects RX0 yX0_put yX0_put, Cond.code yX0_put cX0_put 3 none, Cond.fieldLink RX0 35 "Quarterboard" "used" "I", Cond.fieldLink RX0 38 "Quarterboard" "digits" "J", Cond.methodLink RX0 147 yX0_atFirstSquare, Cond.static yX0_atFirstSquare, Cond.code yX0_atFirstSquare cX0_atFirstSquare 1 (some .long), Cond.constantLong RX0 141 (2), Cond.constantLong RX0 143 (4), Cond.constantLong RX0 145 (8), Cond.methodLink RX0 173 yX0_giverLoses, Cond.instanceMethod yX0_giverLoses, Cond.selects RX0 yX0_giverLoses yX0_giverLoses, Cond.methodLink RX0 167 yX0_lift, Cond.instanceMethod yX0_lift, Cond.selects RX0 yX0_lift yX0_lift, Cond.code yX0_lift cX0_lift 3 none]
def wsX0_placerLoses_r2 : List Cond := [Cond.constantLong RX0 151 (281479271743489), Cond.constantLong RX0 153 (-1), Cond.code yX0_giverLoses cX0_giverLoses 4 (some .boolean), Cond.constant RX0 78 (65535), Cond.methodLink RX0 100 yX0_safePieces, Cond.instanceMethod yX0_safePieces, Cond.selects RX0 yX0_safePieces yX0_safePieces, Cond.code yX0_safePieces cX0_safePieces 4 (some .int), Cond.methodLink RX0 161 yX0_winningDigits, Cond.instanceMethod yX0_winningDigits, Cond.selects RX0 yX0_winningDigits yX0_winningDigits, Cond.code yX0_winningDigits cX0_winningDigits 4 (some .int), Cond.fieldLink RX0 83 "Quarterboard" "LINES" "[I", Cond.methodLink RX0 87 yX0_lines, Cond.instanceMethod yX0_lines, Cond.selects RX0 yX0_lines yX0_lines, Cond.code yX0_lines cX0_lines 1 (some .int), Cond.fieldLink RX0 25 "Quarterboard" "withBlocks" "Z", Cond.methodLink RX0 158 yX0_lacksOne, Cond.instanceMethod yX0_lacksOne, Cond.selects RX0 yX0_lacksOne yX0_lacksOne, Cond.code yX0_lacksOne cX0_lacksOne 3 (some .boolean), Cond.methodLink RX0 92 yX0_inCommon, Cond.instanceMethod yX0_inCommon]
def wsX0_placerLoses_r3 : List Cond := [Cond.selects RX0 yX0_inCommon yX0_inCommon, Cond.code yX0_inCommon cX0_inCommon 6 (some .int), Cond.methodLink RX0 79 yX0_withOne, Cond.static yX0_withOne, Cond.code yX0_withOne cX0_withOne 3 (some .int), Cond.methodLink RX0 155 yX0_ownDigits, Cond.static yX0_ownDigits, Cond.code yX0_ownDigits cX0_ownDigits 1 (some .int), Cond.methodLink RX0 176 yX0_placerWinsLater, Cond.instanceMethod yX0_placerWinsLater, Cond.selects RX0 yX0_placerWinsLater yX0_placerWinsLater, Cond.code yX0_giverWins cX0_giverWins 4 (some .boolean), Cond.methodLink RX0 179 yX0_placerLoses, Cond.instanceMethod yX0_placerLoses, Cond.selects RX0 yX0_placerLoses yX0_placerLoses, Cond.code yX0_placerWinsLater cX0_placerWinsLater 5 (some .boolean), Cond.methodLink RX0 170 yX0_giverWins, Cond.instanceMethod yX0_giverWins, Cond.selects RX0 yX0_giverWins yX0_giverWins]
def wsX0_placerLoses : List Cond := .code yX0_placerLoses cX0_placerLoses 5 (some .boolean) :: ((wsX0_placerLoses_r1 ++ (wsX0_placerLoses_r2 ++ wsX0_placerLoses_r3)) ++ wsX00)
def wsX0_placerWinsLater_r1 : List Cond := [Cond.fieldLink RX0 16 "Quarterboard" "filled" "I", Cond.methodLink RX0 58 yX0_has, Cond.static yX0_has, Cond.initialized RX0, Cond.code yX0_has cX0_has 2 (some .boolean), Cond.methodLink RX0 70 yX0_put, Cond.instanceMethod yX0_put, Cond.selects RX0 yX0_put yX0_put, Cond.code yX0_put cX0_put 3 none, Cond.fieldLink RX0 35 "Quarterboard" "used" "I", Cond.fieldLink RX0 38 "Quarterboard" "digits" "J", Cond.methodLink RX0 147 yX0_atFirstSquare, Cond.static yX0_atFirstSquare, Cond.code yX0_atFirstSquare cX0_atFirstSquare 1 (some .long), Cond.constantLong RX0 141 (2), Cond.constantLong RX0 143 (4), Cond.constantLong RX0 145 (8), Cond.methodLink RX0 170 yX0_giverWins, Cond.instanceMethod yX0_giverWins, Cond.selects RX0 yX0_giverWins yX0_giverWins, Cond.methodLink RX0 167 yX0_lift, Cond.instanceMethod yX0_lift, Cond.selects RX0 yX0_lift yX0_lift, Cond.code yX0_lift cX0_lift 3 none]
def wsX0_placerWinsLater_r2 : List Cond := [Cond.constantLong RX0 151 (281479271743489), Cond.constantLong RX0 153 (-1), Cond.code yX0_giverLoses cX0_giverLoses 4 (some .boolean), Cond.constant RX0 78 (65535), Cond.methodLink RX0 100 yX0_safePieces, Cond.instanceMethod yX0_safePieces, Cond.selects RX0 yX0_safePieces yX0_safePieces, Cond.code yX0_safePieces cX0_safePieces 4 (some .int), Cond.methodLink RX0 161 yX0_winningDigits, Cond.instanceMethod yX0_winningDigits, Cond.selects RX0 yX0_winningDigits yX0_winningDigits, Cond.code yX0_winningDigits cX0_winningDigits 4 (some .int), Cond.fieldLink RX0 83 "Quarterboard" "LINES" "[I", Cond.methodLink RX0 87 yX0_lines, Cond.instanceMethod yX0_lines, Cond.selects RX0 yX0_lines yX0_lines, Cond.code yX0_lines cX0_lines 1 (some .int), Cond.fieldLink RX0 25 "Quarterboard" "withBlocks" "Z", Cond.methodLink RX0 158 yX0_lacksOne, Cond.instanceMethod yX0_lacksOne, Cond.selects RX0 yX0_lacksOne yX0_lacksOne, Cond.code yX0_lacksOne cX0_lacksOne 3 (some .boolean), Cond.methodLink RX0 92 yX0_inCommon, Cond.instanceMethod yX0_inCommon]
def wsX0_placerWinsLater_r3 : List Cond := [Cond.selects RX0 yX0_inCommon yX0_inCommon, Cond.code yX0_inCommon cX0_inCommon 6 (some .int), Cond.methodLink RX0 79 yX0_withOne, Cond.static yX0_withOne, Cond.code yX0_withOne cX0_withOne 3 (some .int), Cond.methodLink RX0 155 yX0_ownDigits, Cond.static yX0_ownDigits, Cond.code yX0_ownDigits cX0_ownDigits 1 (some .int), Cond.methodLink RX0 176 yX0_placerWinsLater, Cond.instanceMethod yX0_placerWinsLater, Cond.selects RX0 yX0_placerWinsLater yX0_placerWinsLater, Cond.code yX0_giverWins cX0_giverWins 4 (some .boolean), Cond.methodLink RX0 179 yX0_placerLoses, Cond.instanceMethod yX0_placerLoses, Cond.selects RX0 yX0_placerLoses yX0_placerLoses, Cond.code yX0_placerLoses cX0_placerLoses 5 (some .boolean), Cond.methodLink RX0 173 yX0_giverLoses, Cond.instanceMethod yX0_giverLoses, Cond.selects RX0 yX0_giverLoses yX0_giverLoses]
def wsX0_placerWinsLater : List Cond := .code yX0_placerWinsLater cX0_placerWinsLater 5 (some .boolean) :: ((wsX0_placerWinsLater_r1 ++ (wsX0_placerWinsLater_r2 ++ wsX0_placerWinsLater_r3)) ++ wsX00)
def wsX0_worthToGive_r1 : List Cond := [Cond.methodLink RX0 170 yX0_giverWins, Cond.instanceMethod yX0_giverWins, Cond.selects RX0 yX0_giverWins yX0_giverWins, Cond.initialized RX0, Cond.code yX0_giverWins cX0_giverWins 4 (some .boolean), Cond.methodLink RX0 100 yX0_safePieces, Cond.instanceMethod yX0_safePieces, Cond.selects RX0 yX0_safePieces yX0_safePieces, Cond.code yX0_safePieces cX0_safePieces 4 (some .int), Cond.fieldLink RX0 35 "Quarterboard" "used" "I", Cond.methodLink RX0 161 yX0_winningDigits, Cond.instanceMethod yX0_winningDigits, Cond.selects RX0 yX0_winningDigits yX0_winningDigits, Cond.code yX0_winningDigits cX0_winningDigits 4 (some .int), Cond.fieldLink RX0 83 "Quarterboard" "LINES" "[I", Cond.methodLink RX0 87 yX0_lines, Cond.instanceMethod yX0_lines, Cond.selects RX0 yX0_lines yX0_lines, Cond.code yX0_lines cX0_lines 1 (some .int), Cond.fieldLink RX0 25 "Quarterboard" "withBlocks" "Z", Cond.methodLink RX0 158 yX0_lacksOne, Cond.instanceMethod yX0_lacksOne, Cond.selects RX0 yX0_lacksOne yX0_lacksOne, Cond.code yX0_lacksOne cX0_lacksOne 3 (some .boolean)]
def wsX0_worthToGive_r2 : List Cond := [Cond.fieldLink RX0 16 "Quarterboard" "filled" "I", Cond.methodLink RX0 92 yX0_inCommon, Cond.instanceMethod yX0_inCommon, Cond.selects RX0 yX0_inCommon yX0_inCommon, Cond.code yX0_inCommon cX0_inCommon 6 (some .int), Cond.fieldLink RX0 38 "Quarterboard" "digits" "J", Cond.methodLink RX0 79 yX0_withOne, Cond.static yX0_withOne, Cond.code yX0_withOne cX0_withOne 3 (some .int), Cond.constant RX0 78 (65535), Cond.methodLink RX0 58 yX0_has, Cond.static yX0_has, Cond.code yX0_has cX0_has 2 (some .boolean), Cond.methodLink RX0 155 yX0_ownDigits, Cond.static yX0_ownDigits, Cond.code yX0_ownDigits cX0_ownDigits 1 (some .int), Cond.methodLink RX0 179 yX0_placerLoses, Cond.instanceMethod yX0_placerLoses, Cond.selects RX0 yX0_placerLoses yX0_placerLoses, Cond.code yX0_giverLoses cX0_giverLoses 4 (some .boolean), Cond.methodLink RX0 176 yX0_placerWinsLater, Cond.instanceMethod yX0_placerWinsLater, Cond.selects RX0 yX0_placerWinsLater yX0_placerWinsLater, Cond.code yX0_placerLoses cX0_placerLoses 5 (some .boolean)]
def wsX0_worthToGive_r3 : List Cond := [Cond.methodLink RX0 70 yX0_put, Cond.instanceMethod yX0_put, Cond.selects RX0 yX0_put yX0_put, Cond.code yX0_put cX0_put 3 none, Cond.methodLink RX0 147 yX0_atFirstSquare, Cond.static yX0_atFirstSquare, Cond.code yX0_atFirstSquare cX0_atFirstSquare 1 (some .long), Cond.constantLong RX0 141 (2), Cond.constantLong RX0 143 (4), Cond.constantLong RX0 145 (8), Cond.methodLink RX0 173 yX0_giverLoses, Cond.instanceMethod yX0_giverLoses, Cond.selects RX0 yX0_giverLoses yX0_giverLoses, Cond.methodLink RX0 167 yX0_lift, Cond.instanceMethod yX0_lift, Cond.selects RX0 yX0_lift yX0_lift, Cond.code yX0_lift cX0_lift 3 none, Cond.constantLong RX0 151 (281479271743489), Cond.constantLong RX0 153 (-1), Cond.code yX0_placerWinsLater cX0_placerWinsLater 5 (some .boolean)]
def wsX0_worthToGive : List Cond := .code yX0_worthToGive cX0_worthToGive 2 (some .int) :: ((wsX0_worthToGive_r1 ++ (wsX0_worthToGive_r2 ++ wsX0_worthToGive_r3)) ++ wsX00)
def wsX0_worthToPlace_r1 : List Cond := [Cond.methodLink RX0 97 yX0_winningSquares, Cond.instanceMethod yX0_winningSquares, Cond.selects RX0 yX0_winningSquares yX0_winningSquares, Cond.initialized RX0, Cond.code yX0_winningSquares cX0_winningSquares 6 (some .int), Cond.fieldLink RX0 83 "Quarterboard" "LINES" "[I", Cond.fieldLink RX0 16 "Quarterboard" "filled" "I", Cond.methodLink RX0 155 yX0_ownDigits, Cond.static yX0_ownDigits, Cond.code yX0_ownDigits cX0_ownDigits 1 (some .int), Cond.methodLink RX0 87 yX0_lines, Cond.instanceMethod yX0_lines, Cond.selects RX0 yX0_lines yX0_lines, Cond.code yX0_lines cX0_lines 1 (some .int), Cond.fieldLink RX0 25 "Quarterboard" "withBlocks" "Z", Cond.methodLink RX0 158 yX0_lacksOne, Cond.instanceMethod yX0_lacksOne, Cond.selects RX0 yX0_lacksOne yX0_lacksOne, Cond.code yX0_lacksOne cX0_lacksOne 3 (some .boolean), Cond.methodLink RX0 92 yX0_inCommon, Cond.instanceMethod yX0_inCommon, Cond.selects RX0 yX0_inCommon yX0_inCommon, Cond.code yX0_inCommon cX0_inCommon 6 (some .int), Cond.fieldLink RX0 38 "Quarterboard" "digits" "J"]
def wsX0_worthToPlace_r2 : List Cond := [Cond.methodLink RX0 79 yX0_withOne, Cond.static yX0_withOne, Cond.code yX0_withOne cX0_withOne 3 (some .int), Cond.constant RX0 78 (65535), Cond.methodLink RX0 176 yX0_placerWinsLater, Cond.instanceMethod yX0_placerWinsLater, Cond.selects RX0 yX0_placerWinsLater yX0_placerWinsLater, Cond.code yX0_placerWinsLater cX0_placerWinsLater 5 (some .boolean), Cond.methodLink RX0 58 yX0_has, Cond.static yX0_has, Cond.code yX0_has cX0_has 2 (some .boolean), Cond.methodLink RX0 70 yX0_put, Cond.instanceMethod yX0_put, Cond.selects RX0 yX0_put yX0_put, Cond.code yX0_put cX0_put 3 none, Cond.fieldLink RX0 35 "Quarterboard" "used" "I", Cond.methodLink RX0 147 yX0_atFirstSquare, Cond.static yX0_atFirstSquare, Cond.code yX0_atFirstSquare cX0_atFirstSquare 1 (some .long), Cond.constantLong RX0 141 (2), Cond.constantLong RX0 143 (4), Cond.constantLong RX0 145 (8), Cond.methodLink RX0 170 yX0_giverWins, Cond.instanceMethod yX0_giverWins]
def wsX0_worthToPlace_r3 : List Cond := [Cond.selects RX0 yX0_giverWins yX0_giverWins, Cond.methodLink RX0 167 yX0_lift, Cond.instanceMethod yX0_lift, Cond.selects RX0 yX0_lift yX0_lift, Cond.code yX0_lift cX0_lift 3 none, Cond.constantLong RX0 151 (281479271743489), Cond.constantLong RX0 153 (-1), Cond.code yX0_giverLoses cX0_giverLoses 4 (some .boolean), Cond.methodLink RX0 100 yX0_safePieces, Cond.instanceMethod yX0_safePieces, Cond.selects RX0 yX0_safePieces yX0_safePieces, Cond.code yX0_safePieces cX0_safePieces 4 (some .int), Cond.methodLink RX0 161 yX0_winningDigits, Cond.instanceMethod yX0_winningDigits, Cond.selects RX0 yX0_winningDigits yX0_winningDigits, Cond.code yX0_winningDigits cX0_winningDigits 4 (some .int), Cond.code yX0_giverWins cX0_giverWins 4 (some .boolean), Cond.methodLink RX0 179 yX0_placerLoses, Cond.instanceMethod yX0_placerLoses, Cond.selects RX0 yX0_placerLoses yX0_placerLoses, Cond.code yX0_placerLoses cX0_placerLoses 5 (some .boolean), Cond.methodLink RX0 173 yX0_giverLoses, Cond.instanceMethod yX0_giverLoses, Cond.selects RX0 yX0_giverLoses yX0_giverLoses]
def wsX0_worthToPlace : List Cond := .code yX0_worthToPlace cX0_worthToPlace 3 (some .int) :: ((wsX0_worthToPlace_r1 ++ (wsX0_worthToPlace_r2 ++ wsX0_worthToPlace_r3)) ++ wsX00)
def wsX0_worth_r1 : List Cond := [Cond.classLink RX0 103 "java/lang/IllegalArgumentException", Cond.initialized "java/lang/IllegalArgumentException", Cond.classLink RX0 53 "java/lang/IllegalStateException", Cond.initialized "java/lang/IllegalStateException", Cond.fieldLink RX0 29 "Quarterboard" "stage" "I", Cond.fieldLink RX0 9 "Quarterboard" "held" "I", Cond.methodLink RX0 108 yX0_canLookAhead, Cond.instanceMethod yX0_canLookAhead, Cond.selects RX0 yX0_canLookAhead yX0_canLookAhead, Cond.initialized RX0, Cond.code yX0_canLookAhead cX0_canLookAhead 3 (some .boolean), Cond.fieldLink RX0 16 "Quarterboard" "filled" "I", Cond.methodLink RX0 19 yJ6_bitCount_0f7a4, Cond.static yJ6_bitCount_0f7a4, Cond.initialized RJ6, Cond.code yJ6_bitCount_0f7a4 cJ6_bitCount_0f7a4 1 (some .int), Cond.constant RJ6 265 (1431655765), Cond.constant RJ6 266 (858993459), Cond.constant RJ6 267 (252645135), Cond.methodLink RX0 113 yX0_worthToGive, Cond.instanceMethod yX0_worthToGive, Cond.selects RX0 yX0_worthToGive yX0_worthToGive, Cond.code yX0_worthToGive cX0_worthToGive 2 (some .int), Cond.methodLink RX0 170 yX0_giverWins]
def wsX0_worth_r2 : List Cond := [Cond.instanceMethod yX0_giverWins, Cond.selects RX0 yX0_giverWins yX0_giverWins, Cond.code yX0_giverWins cX0_giverWins 4 (some .boolean), Cond.methodLink RX0 100 yX0_safePieces, Cond.instanceMethod yX0_safePieces, Cond.selects RX0 yX0_safePieces yX0_safePieces, Cond.code yX0_safePieces cX0_safePieces 4 (some .int), Cond.fieldLink RX0 35 "Quarterboard" "used" "I", Cond.methodLink RX0 161 yX0_winningDigits, Cond.instanceMethod yX0_winningDigits, Cond.selects RX0 yX0_winningDigits yX0_winningDigits, Cond.code yX0_winningDigits cX0_winningDigits 4 (some .int), Cond.fieldLink RX0 83 "Quarterboard" "LINES" "[I", Cond.methodLink RX0 87 yX0_lines, Cond.instanceMethod yX0_lines, Cond.selects RX0 yX0_lines yX0_lines, Cond.code yX0_lines cX0_lines 1 (some .int), Cond.fieldLink RX0 25 "Quarterboard" "withBlocks" "Z", Cond.methodLink RX0 158 yX0_lacksOne, Cond.instanceMethod yX0_lacksOne, Cond.selects RX0 yX0_lacksOne yX0_lacksOne, Cond.code yX0_lacksOne cX0_lacksOne 3 (some .boolean), Cond.methodLink RX0 92 yX0_inCommon, Cond.instanceMethod yX0_inCommon]
def wsX0_worth_r3 : List Cond := [Cond.selects RX0 yX0_inCommon yX0_inCommon, Cond.code yX0_inCommon cX0_inCommon 6 (some .int), Cond.fieldLink RX0 38 "Quarterboard" "digits" "J", Cond.methodLink RX0 79 yX0_withOne, Cond.static yX0_withOne, Cond.code yX0_withOne cX0_withOne 3 (some .int), Cond.constant RX0 78 (65535), Cond.methodLink RX0 58 yX0_has, Cond.static yX0_has, Cond.code yX0_has cX0_has 2 (some .boolean), Cond.methodLink RX0 155 yX0_ownDigits, Cond.static yX0_ownDigits, Cond.code yX0_ownDigits cX0_ownDigits 1 (some .int), Cond.methodLink RX0 179 yX0_placerLoses, Cond.instanceMethod yX0_placerLoses, Cond.selects RX0 yX0_placerLoses yX0_placerLoses, Cond.code yX0_giverLoses cX0_giverLoses 4 (some .boolean), Cond.methodLink RX0 176 yX0_placerWinsLater, Cond.instanceMethod yX0_placerWinsLater, Cond.selects RX0 yX0_placerWinsLater yX0_placerWinsLater, Cond.code yX0_placerLoses cX0_placerLoses 5 (some .boolean), Cond.methodLink RX0 70 yX0_put, Cond.instanceMethod yX0_put, Cond.selects RX0 yX0_put yX0_put]
def wsX0_worth_r4 : List Cond := [Cond.code yX0_put cX0_put 3 none, Cond.methodLink RX0 147 yX0_atFirstSquare, Cond.static yX0_atFirstSquare, Cond.code yX0_atFirstSquare cX0_atFirstSquare 1 (some .long), Cond.constantLong RX0 141 (2), Cond.constantLong RX0 143 (4), Cond.constantLong RX0 145 (8), Cond.methodLink RX0 173 yX0_giverLoses, Cond.instanceMethod yX0_giverLoses, Cond.selects RX0 yX0_giverLoses yX0_giverLoses, Cond.methodLink RX0 167 yX0_lift, Cond.instanceMethod yX0_lift, Cond.selects RX0 yX0_lift yX0_lift, Cond.code yX0_lift cX0_lift 3 none, Cond.constantLong RX0 151 (281479271743489), Cond.constantLong RX0 153 (-1), Cond.code yX0_placerWinsLater cX0_placerWinsLater 5 (some .boolean), Cond.methodLink RX0 116 yX0_worthToPlace, Cond.instanceMethod yX0_worthToPlace, Cond.selects RX0 yX0_worthToPlace yX0_worthToPlace, Cond.code yX0_worthToPlace cX0_worthToPlace 3 (some .int), Cond.methodLink RX0 97 yX0_winningSquares, Cond.instanceMethod yX0_winningSquares, Cond.selects RX0 yX0_winningSquares yX0_winningSquares]
def wsX0_worth_r5 : List Cond := [Cond.code yX0_winningSquares cX0_winningSquares 6 (some .int)]
def wsX0_worth : List Cond := .code yX0_worth cX0_worth 2 (some .int) :: ((wsX0_worth_r1 ++ (wsX0_worth_r2 ++ (wsX0_worth_r3 ++ (wsX0_worth_r4 ++ wsX0_worth_r5)))) ++ wsX00 ++ (vx_atS RX0 107 "java/lang/IllegalArgumentException" ["java/lang/RuntimeException", "java/lang/Exception"]).filter goodWord ++ (vx_atS RX0 57 "java/lang/IllegalStateException" ["java/lang/RuntimeException", "java/lang/Exception"]).filter goodWord)
def wsX0_bestPiece_r1 : List Cond := [Cond.fieldLink RX0 35 "Quarterboard" "used" "I", Cond.methodLink RX0 113 yX0_worthToGive, Cond.instanceMethod yX0_worthToGive, Cond.selects RX0 yX0_worthToGive yX0_worthToGive, Cond.initialized RX0, Cond.code yX0_worthToGive cX0_worthToGive 2 (some .int), Cond.methodLink RX0 170 yX0_giverWins, Cond.instanceMethod yX0_giverWins, Cond.selects RX0 yX0_giverWins yX0_giverWins, Cond.code yX0_giverWins cX0_giverWins 4 (some .boolean), Cond.methodLink RX0 100 yX0_safePieces, Cond.instanceMethod yX0_safePieces, Cond.selects RX0 yX0_safePieces yX0_safePieces, Cond.code yX0_safePieces cX0_safePieces 4 (some .int), Cond.methodLink RX0 161 yX0_winningDigits, Cond.instanceMethod yX0_winningDigits, Cond.selects RX0 yX0_winningDigits yX0_winningDigits, Cond.code yX0_winningDigits cX0_winningDigits 4 (some .int), Cond.fieldLink RX0 83 "Quarterboard" "LINES" "[I", Cond.methodLink RX0 87 yX0_lines, Cond.instanceMethod yX0_lines, Cond.selects RX0 yX0_lines yX0_lines, Cond.code yX0_lines cX0_lines 1 (some .int), Cond.fieldLink RX0 25 "Quarterboard" "withBlocks" "Z"]
def wsX0_bestPiece_r2 : List Cond := [Cond.methodLink RX0 158 yX0_lacksOne, Cond.instanceMethod yX0_lacksOne, Cond.selects RX0 yX0_lacksOne yX0_lacksOne, Cond.code yX0_lacksOne cX0_lacksOne 3 (some .boolean), Cond.fieldLink RX0 16 "Quarterboard" "filled" "I", Cond.methodLink RX0 92 yX0_inCommon, Cond.instanceMethod yX0_inCommon, Cond.selects RX0 yX0_inCommon yX0_inCommon, Cond.code yX0_inCommon cX0_inCommon 6 (some .int), Cond.fieldLink RX0 38 "Quarterboard" "digits" "J", Cond.methodLink RX0 79 yX0_withOne, Cond.static yX0_withOne, Cond.code yX0_withOne cX0_withOne 3 (some .int), Cond.constant RX0 78 (65535), Cond.methodLink RX0 58 yX0_has, Cond.static yX0_has, Cond.code yX0_has cX0_has 2 (some .boolean), Cond.methodLink RX0 155 yX0_ownDigits, Cond.static yX0_ownDigits, Cond.code yX0_ownDigits cX0_ownDigits 1 (some .int), Cond.methodLink RX0 179 yX0_placerLoses, Cond.instanceMethod yX0_placerLoses, Cond.selects RX0 yX0_placerLoses yX0_placerLoses, Cond.code yX0_giverLoses cX0_giverLoses 4 (some .boolean)]
def wsX0_bestPiece_r3 : List Cond := [Cond.methodLink RX0 176 yX0_placerWinsLater, Cond.instanceMethod yX0_placerWinsLater, Cond.selects RX0 yX0_placerWinsLater yX0_placerWinsLater, Cond.code yX0_placerLoses cX0_placerLoses 5 (some .boolean), Cond.methodLink RX0 70 yX0_put, Cond.instanceMethod yX0_put, Cond.selects RX0 yX0_put yX0_put, Cond.code yX0_put cX0_put 3 none, Cond.methodLink RX0 147 yX0_atFirstSquare, Cond.static yX0_atFirstSquare, Cond.code yX0_atFirstSquare cX0_atFirstSquare 1 (some .long), Cond.constantLong RX0 141 (2), Cond.constantLong RX0 143 (4), Cond.constantLong RX0 145 (8), Cond.methodLink RX0 173 yX0_giverLoses, Cond.instanceMethod yX0_giverLoses, Cond.selects RX0 yX0_giverLoses yX0_giverLoses, Cond.methodLink RX0 167 yX0_lift, Cond.instanceMethod yX0_lift, Cond.selects RX0 yX0_lift yX0_lift, Cond.code yX0_lift cX0_lift 3 none, Cond.constantLong RX0 151 (281479271743489), Cond.constantLong RX0 153 (-1), Cond.code yX0_placerWinsLater cX0_placerWinsLater 5 (some .boolean)]
def wsX0_bestPiece_r4 : List Cond := [Cond.methodLink RX0 116 yX0_worthToPlace, Cond.instanceMethod yX0_worthToPlace, Cond.selects RX0 yX0_worthToPlace yX0_worthToPlace, Cond.code yX0_worthToPlace cX0_worthToPlace 3 (some .int), Cond.methodLink RX0 97 yX0_winningSquares, Cond.instanceMethod yX0_winningSquares, Cond.selects RX0 yX0_winningSquares yX0_winningSquares, Cond.code yX0_winningSquares cX0_winningSquares 6 (some .int)]
def wsX0_bestPiece : List Cond := .code yX0_bestPiece cX0_bestPiece 4 (some .int) :: ((wsX0_bestPiece_r1 ++ (wsX0_bestPiece_r2 ++ (wsX0_bestPiece_r3 ++ wsX0_bestPiece_r4))) ++ wsX00)
def wsX0_worthAfterPlacing_r1 : List Cond := [Cond.fieldLink RX0 9 "Quarterboard" "held" "I", Cond.methodLink RX0 97 yX0_winningSquares, Cond.instanceMethod yX0_winningSquares, Cond.selects RX0 yX0_winningSquares yX0_winningSquares, Cond.initialized RX0, Cond.code yX0_winningSquares cX0_winningSquares 6 (some .int), Cond.fieldLink RX0 83 "Quarterboard" "LINES" "[I", Cond.fieldLink RX0 16 "Quarterboard" "filled" "I", Cond.methodLink RX0 155 yX0_ownDigits, Cond.static yX0_ownDigits, Cond.code yX0_ownDigits cX0_ownDigits 1 (some .int), Cond.methodLink RX0 87 yX0_lines, Cond.instanceMethod yX0_lines, Cond.selects RX0 yX0_lines yX0_lines, Cond.code yX0_lines cX0_lines 1 (some .int), Cond.fieldLink RX0 25 "Quarterboard" "withBlocks" "Z", Cond.methodLink RX0 158 yX0_lacksOne, Cond.instanceMethod yX0_lacksOne, Cond.selects RX0 yX0_lacksOne yX0_lacksOne, Cond.code yX0_lacksOne cX0_lacksOne 3 (some .boolean), Cond.methodLink RX0 92 yX0_inCommon, Cond.instanceMethod yX0_inCommon, Cond.selects RX0 yX0_inCommon yX0_inCommon, Cond.code yX0_inCommon cX0_inCommon 6 (some .int)]
def wsX0_worthAfterPlacing_r2 : List Cond := [Cond.fieldLink RX0 38 "Quarterboard" "digits" "J", Cond.methodLink RX0 79 yX0_withOne, Cond.static yX0_withOne, Cond.code yX0_withOne cX0_withOne 3 (some .int), Cond.constant RX0 78 (65535), Cond.methodLink RX0 58 yX0_has, Cond.static yX0_has, Cond.code yX0_has cX0_has 2 (some .boolean), Cond.methodLink RX0 70 yX0_put, Cond.instanceMethod yX0_put, Cond.selects RX0 yX0_put yX0_put, Cond.code yX0_put cX0_put 3 none, Cond.fieldLink RX0 35 "Quarterboard" "used" "I", Cond.methodLink RX0 147 yX0_atFirstSquare, Cond.static yX0_atFirstSquare, Cond.code yX0_atFirstSquare cX0_atFirstSquare 1 (some .long), Cond.constantLong RX0 141 (2), Cond.constantLong RX0 143 (4), Cond.constantLong RX0 145 (8), Cond.methodLink RX0 113 yX0_worthToGive, Cond.instanceMethod yX0_worthToGive, Cond.selects RX0 yX0_worthToGive yX0_worthToGive, Cond.code yX0_worthToGive cX0_worthToGive 2 (some .int), Cond.methodLink RX0 170 yX0_giverWins]
def wsX0_worthAfterPlacing_r3 : List Cond := [Cond.instanceMethod yX0_giverWins, Cond.selects RX0 yX0_giverWins yX0_giverWins, Cond.code yX0_giverWins cX0_giverWins 4 (some .boolean), Cond.methodLink RX0 100 yX0_safePieces, Cond.instanceMethod yX0_safePieces, Cond.selects RX0 yX0_safePieces yX0_safePieces, Cond.code yX0_safePieces cX0_safePieces 4 (some .int), Cond.methodLink RX0 161 yX0_winningDigits, Cond.instanceMethod yX0_winningDigits, Cond.selects RX0 yX0_winningDigits yX0_winningDigits, Cond.code yX0_winningDigits cX0_winningDigits 4 (some .int), Cond.methodLink RX0 179 yX0_placerLoses, Cond.instanceMethod yX0_placerLoses, Cond.selects RX0 yX0_placerLoses yX0_placerLoses, Cond.code yX0_giverLoses cX0_giverLoses 4 (some .boolean), Cond.methodLink RX0 176 yX0_placerWinsLater, Cond.instanceMethod yX0_placerWinsLater, Cond.selects RX0 yX0_placerWinsLater yX0_placerWinsLater, Cond.code yX0_placerLoses cX0_placerLoses 5 (some .boolean), Cond.methodLink RX0 173 yX0_giverLoses, Cond.instanceMethod yX0_giverLoses, Cond.selects RX0 yX0_giverLoses yX0_giverLoses, Cond.methodLink RX0 167 yX0_lift, Cond.instanceMethod yX0_lift]
def wsX0_worthAfterPlacing_r4 : List Cond := [Cond.selects RX0 yX0_lift yX0_lift, Cond.code yX0_lift cX0_lift 3 none, Cond.constantLong RX0 151 (281479271743489), Cond.constantLong RX0 153 (-1), Cond.code yX0_placerWinsLater cX0_placerWinsLater 5 (some .boolean)]
def wsX0_worthAfterPlacing : List Cond := .code yX0_worthAfterPlacing cX0_worthAfterPlacing 4 (some .int) :: ((wsX0_worthAfterPlacing_r1 ++ (wsX0_worthAfterPlacing_r2 ++ (wsX0_worthAfterPlacing_r3 ++ wsX0_worthAfterPlacing_r4))) ++ wsX00)
def wsX0_bestSquare_r1 : List Cond := [Cond.fieldLink RX0 9 "Quarterboard" "held" "I", Cond.fieldLink RX0 16 "Quarterboard" "filled" "I", Cond.methodLink RX0 116 yX0_worthToPlace, Cond.instanceMethod yX0_worthToPlace, Cond.selects RX0 yX0_worthToPlace yX0_worthToPlace, Cond.initialized RX0, Cond.code yX0_worthToPlace cX0_worthToPlace 3 (some .int), Cond.methodLink RX0 97 yX0_winningSquares, Cond.instanceMethod yX0_winningSquares, Cond.selects RX0 yX0_winningSquares yX0_winningSquares, Cond.code yX0_winningSquares cX0_winningSquares 6 (some .int), Cond.fieldLink RX0 83 "Quarterboard" "LINES" "[I", Cond.methodLink RX0 155 yX0_ownDigits, Cond.static yX0_ownDigits, Cond.code yX0_ownDigits cX0_ownDigits 1 (some .int), Cond.methodLink RX0 87 yX0_lines, Cond.instanceMethod yX0_lines, Cond.selects RX0 yX0_lines yX0_lines, Cond.code yX0_lines cX0_lines 1 (some .int), Cond.fieldLink RX0 25 "Quarterboard" "withBlocks" "Z", Cond.methodLink RX0 158 yX0_lacksOne, Cond.instanceMethod yX0_lacksOne, Cond.selects RX0 yX0_lacksOne yX0_lacksOne, Cond.code yX0_lacksOne cX0_lacksOne 3 (some .boolean)]
def wsX0_bestSquare_r2 : List Cond := [Cond.methodLink RX0 92 yX0_inCommon, Cond.instanceMethod yX0_inCommon, Cond.selects RX0 yX0_inCommon yX0_inCommon, Cond.code yX0_inCommon cX0_inCommon 6 (some .int), Cond.fieldLink RX0 38 "Quarterboard" "digits" "J", Cond.methodLink RX0 79 yX0_withOne, Cond.static yX0_withOne, Cond.code yX0_withOne cX0_withOne 3 (some .int), Cond.constant RX0 78 (65535), Cond.methodLink RX0 176 yX0_placerWinsLater, Cond.instanceMethod yX0_placerWinsLater, Cond.selects RX0 yX0_placerWinsLater yX0_placerWinsLater, Cond.code yX0_placerWinsLater cX0_placerWinsLater 5 (some .boolean), Cond.methodLink RX0 58 yX0_has, Cond.static yX0_has, Cond.code yX0_has cX0_has 2 (some .boolean), Cond.methodLink RX0 70 yX0_put, Cond.instanceMethod yX0_put, Cond.selects RX0 yX0_put yX0_put, Cond.code yX0_put cX0_put 3 none, Cond.fieldLink RX0 35 "Quarterboard" "used" "I", Cond.methodLink RX0 147 yX0_atFirstSquare, Cond.static yX0_atFirstSquare, Cond.code yX0_atFirstSquare cX0_atFirstSquare 1 (some .long)]
def wsX0_bestSquare_r3 : List Cond := [Cond.constantLong RX0 141 (2), Cond.constantLong RX0 143 (4), Cond.constantLong RX0 145 (8), Cond.methodLink RX0 170 yX0_giverWins, Cond.instanceMethod yX0_giverWins, Cond.selects RX0 yX0_giverWins yX0_giverWins, Cond.methodLink RX0 167 yX0_lift, Cond.instanceMethod yX0_lift, Cond.selects RX0 yX0_lift yX0_lift, Cond.code yX0_lift cX0_lift 3 none, Cond.constantLong RX0 151 (281479271743489), Cond.constantLong RX0 153 (-1), Cond.code yX0_giverLoses cX0_giverLoses 4 (some .boolean), Cond.methodLink RX0 100 yX0_safePieces, Cond.instanceMethod yX0_safePieces, Cond.selects RX0 yX0_safePieces yX0_safePieces, Cond.code yX0_safePieces cX0_safePieces 4 (some .int), Cond.methodLink RX0 161 yX0_winningDigits, Cond.instanceMethod yX0_winningDigits, Cond.selects RX0 yX0_winningDigits yX0_winningDigits, Cond.code yX0_winningDigits cX0_winningDigits 4 (some .int), Cond.code yX0_giverWins cX0_giverWins 4 (some .boolean), Cond.methodLink RX0 179 yX0_placerLoses, Cond.instanceMethod yX0_placerLoses]
def wsX0_bestSquare_r4 : List Cond := [Cond.selects RX0 yX0_placerLoses yX0_placerLoses, Cond.code yX0_placerLoses cX0_placerLoses 5 (some .boolean), Cond.methodLink RX0 173 yX0_giverLoses, Cond.instanceMethod yX0_giverLoses, Cond.selects RX0 yX0_giverLoses yX0_giverLoses, Cond.methodLink RX0 164 yX0_worthAfterPlacing, Cond.instanceMethod yX0_worthAfterPlacing, Cond.selects RX0 yX0_worthAfterPlacing yX0_worthAfterPlacing, Cond.code yX0_worthAfterPlacing cX0_worthAfterPlacing 4 (some .int), Cond.methodLink RX0 113 yX0_worthToGive, Cond.instanceMethod yX0_worthToGive, Cond.selects RX0 yX0_worthToGive yX0_worthToGive, Cond.code yX0_worthToGive cX0_worthToGive 2 (some .int)]
def wsX0_bestSquare : List Cond := .code yX0_bestSquare cX0_bestSquare 4 (some .int) :: ((wsX0_bestSquare_r1 ++ (wsX0_bestSquare_r2 ++ (wsX0_bestSquare_r3 ++ wsX0_bestSquare_r4))) ++ wsX00)
def wsX0_best_r1 : List Cond := [Cond.classLink RX0 103 "java/lang/IllegalArgumentException", Cond.initialized "java/lang/IllegalArgumentException", Cond.classLink RX0 53 "java/lang/IllegalStateException", Cond.initialized "java/lang/IllegalStateException", Cond.fieldLink RX0 29 "Quarterboard" "stage" "I", Cond.methodLink RX0 108 yX0_canLookAhead, Cond.instanceMethod yX0_canLookAhead, Cond.selects RX0 yX0_canLookAhead yX0_canLookAhead, Cond.initialized RX0, Cond.code yX0_canLookAhead cX0_canLookAhead 3 (some .boolean), Cond.fieldLink RX0 16 "Quarterboard" "filled" "I", Cond.methodLink RX0 19 yJ6_bitCount_0f7a4, Cond.static yJ6_bitCount_0f7a4, Cond.initialized RJ6, Cond.code yJ6_bitCount_0f7a4 cJ6_bitCount_0f7a4 1 (some .int), Cond.constant RJ6 265 (1431655765), Cond.constant RJ6 266 (858993459), Cond.constant RJ6 267 (252645135), Cond.methodLink RX0 120 yX0_bestPiece, Cond.instanceMethod yX0_bestPiece, Cond.selects RX0 yX0_bestPiece yX0_bestPiece, Cond.code yX0_bestPiece cX0_bestPiece 4 (some .int), Cond.fieldLink RX0 35 "Quarterboard" "used" "I", Cond.methodLink RX0 113 yX0_worthToGive]
def wsX0_best_r2 : List Cond := [Cond.instanceMethod yX0_worthToGive, Cond.selects RX0 yX0_worthToGive yX0_worthToGive, Cond.code yX0_worthToGive cX0_worthToGive 2 (some .int), Cond.methodLink RX0 170 yX0_giverWins, Cond.instanceMethod yX0_giverWins, Cond.selects RX0 yX0_giverWins yX0_giverWins, Cond.code yX0_giverWins cX0_giverWins 4 (some .boolean), Cond.methodLink RX0 100 yX0_safePieces, Cond.instanceMethod yX0_safePieces, Cond.selects RX0 yX0_safePieces yX0_safePieces, Cond.code yX0_safePieces cX0_safePieces 4 (some .int), Cond.methodLink RX0 161 yX0_winningDigits, Cond.instanceMethod yX0_winningDigits, Cond.selects RX0 yX0_winningDigits yX0_winningDigits, Cond.code yX0_winningDigits cX0_winningDigits 4 (some .int), Cond.fieldLink RX0 83 "Quarterboard" "LINES" "[I", Cond.methodLink RX0 87 yX0_lines, Cond.instanceMethod yX0_lines, Cond.selects RX0 yX0_lines yX0_lines, Cond.code yX0_lines cX0_lines 1 (some .int), Cond.fieldLink RX0 25 "Quarterboard" "withBlocks" "Z", Cond.methodLink RX0 158 yX0_lacksOne, Cond.instanceMethod yX0_lacksOne, Cond.selects RX0 yX0_lacksOne yX0_lacksOne]
def wsX0_best_r3 : List Cond := [Cond.code yX0_lacksOne cX0_lacksOne 3 (some .boolean), Cond.methodLink RX0 92 yX0_inCommon, Cond.instanceMethod yX0_inCommon, Cond.selects RX0 yX0_inCommon yX0_inCommon, Cond.code yX0_inCommon cX0_inCommon 6 (some .int), Cond.fieldLink RX0 38 "Quarterboard" "digits" "J", Cond.methodLink RX0 79 yX0_withOne, Cond.static yX0_withOne, Cond.code yX0_withOne cX0_withOne 3 (some .int), Cond.constant RX0 78 (65535), Cond.methodLink RX0 58 yX0_has, Cond.static yX0_has, Cond.code yX0_has cX0_has 2 (some .boolean), Cond.methodLink RX0 155 yX0_ownDigits, Cond.static yX0_ownDigits, Cond.code yX0_ownDigits cX0_ownDigits 1 (some .int), Cond.methodLink RX0 179 yX0_placerLoses, Cond.instanceMethod yX0_placerLoses, Cond.selects RX0 yX0_placerLoses yX0_placerLoses, Cond.code yX0_giverLoses cX0_giverLoses 4 (some .boolean), Cond.methodLink RX0 176 yX0_placerWinsLater, Cond.instanceMethod yX0_placerWinsLater, Cond.selects RX0 yX0_placerWinsLater yX0_placerWinsLater, Cond.code yX0_placerLoses cX0_placerLoses 5 (some .boolean)]
def wsX0_best_r4 : List Cond := [Cond.methodLink RX0 70 yX0_put, Cond.instanceMethod yX0_put, Cond.selects RX0 yX0_put yX0_put, Cond.code yX0_put cX0_put 3 none, Cond.methodLink RX0 147 yX0_atFirstSquare, Cond.static yX0_atFirstSquare, Cond.code yX0_atFirstSquare cX0_atFirstSquare 1 (some .long), Cond.constantLong RX0 141 (2), Cond.constantLong RX0 143 (4), Cond.constantLong RX0 145 (8), Cond.methodLink RX0 173 yX0_giverLoses, Cond.instanceMethod yX0_giverLoses, Cond.selects RX0 yX0_giverLoses yX0_giverLoses, Cond.methodLink RX0 167 yX0_lift, Cond.instanceMethod yX0_lift, Cond.selects RX0 yX0_lift yX0_lift, Cond.code yX0_lift cX0_lift 3 none, Cond.constantLong RX0 151 (281479271743489), Cond.constantLong RX0 153 (-1), Cond.code yX0_placerWinsLater cX0_placerWinsLater 5 (some .boolean), Cond.methodLink RX0 116 yX0_worthToPlace, Cond.instanceMethod yX0_worthToPlace, Cond.selects RX0 yX0_worthToPlace yX0_worthToPlace, Cond.code yX0_worthToPlace cX0_worthToPlace 3 (some .int)]
def wsX0_best_r5 : List Cond := [Cond.methodLink RX0 97 yX0_winningSquares, Cond.instanceMethod yX0_winningSquares, Cond.selects RX0 yX0_winningSquares yX0_winningSquares, Cond.code yX0_winningSquares cX0_winningSquares 6 (some .int), Cond.methodLink RX0 123 yX0_bestSquare, Cond.instanceMethod yX0_bestSquare, Cond.selects RX0 yX0_bestSquare yX0_bestSquare, Cond.code yX0_bestSquare cX0_bestSquare 4 (some .int), Cond.fieldLink RX0 9 "Quarterboard" "held" "I", Cond.methodLink RX0 164 yX0_worthAfterPlacing, Cond.instanceMethod yX0_worthAfterPlacing, Cond.selects RX0 yX0_worthAfterPlacing yX0_worthAfterPlacing, Cond.code yX0_worthAfterPlacing cX0_worthAfterPlacing 4 (some .int)]
def wsX0_best : List Cond := .code yX0_best cX0_best 2 (some .int) :: ((wsX0_best_r1 ++ (wsX0_best_r2 ++ (wsX0_best_r3 ++ (wsX0_best_r4 ++ wsX0_best_r5)))) ++ wsX00 ++ (vx_atS RX0 107 "java/lang/IllegalArgumentException" ["java/lang/RuntimeException", "java/lang/Exception"]).filter goodWord ++ (vx_atS RX0 57 "java/lang/IllegalStateException" ["java/lang/RuntimeException", "java/lang/Exception"]).filter goodWord)
def wsX0_keep : List Cond := .code yX0_keep cX0_keep 1 (some .int) :: ([.fieldLink RX0 126 "Quarterboard" "hasKept" "Z", .fieldLink RX0 16 "Quarterboard" "filled" "I", .fieldLink RX0 129 "Quarterboard" "keptFilled" "I", .fieldLink RX0 38 "Quarterboard" "digits" "J", .fieldLink RX0 132 "Quarterboard" "keptDigits" "J", .methodLink RX0 19 yJ6_bitCount_0f7a4, .static yJ6_bitCount_0f7a4, .initialized RJ6, .code yJ6_bitCount_0f7a4 cJ6_bitCount_0f7a4 1 (some .int), .constant RJ6 265 (1431655765), .constant RJ6 266 (858993459), .constant RJ6 267 (252645135)] ++ wsX00)
def wsX0_turnedSquare : List Cond := .code yX0_turnedSquare cX0_turnedSquare 5 (some .int) :: ([])
def wsX0_turned : List Cond := .code yX0_turned cX0_turned 6 (some .long) :: ([.constantLong RX0 151 (281479271743489), .methodLink RX0 182 yX0_turnedSquare, .static yX0_turnedSquare, .initialized RX0, .code yX0_turnedSquare cX0_turnedSquare 5 (some .int)])
def wsX0_levelled : List Cond := .code yX0_levelled cX0_levelled 7 (some .long) :: ([.methodLink RX0 79 yX0_withOne, .static yX0_withOne, .initialized RX0, .code yX0_withOne cX0_withOne 3 (some .int), .constant RX0 78 (65535)])
def wsX0_equalMarks : List Cond := .code yX0_equalMarks cX0_equalMarks 6 (some .int) :: ([.methodLink RX0 79 yX0_withOne, .static yX0_withOne, .initialized RX0, .code yX0_withOne cX0_withOne 3 (some .int), .constant RX0 78 (65535)])
def wsX0_waysOfMarks : List Cond := .code yX0_waysOfMarks cX0_waysOfMarks 12 (some .int) :: ([.fieldLink RX0 16 "Quarterboard" "filled" "I", .fieldLink RX0 38 "Quarterboard" "digits" "J", .methodLink RX0 185 yX0_turned, .static yX0_turned, .initialized RX0, .code yX0_turned cX0_turned 6 (some .long), .constantLong RX0 151 (281479271743489), .methodLink RX0 182 yX0_turnedSquare, .static yX0_turnedSquare, .code yX0_turnedSquare cX0_turnedSquare 5 (some .int), .methodLink RX0 189 yX0_levelled, .static yX0_levelled, .code yX0_levelled cX0_levelled 7 (some .long), .methodLink RX0 79 yX0_withOne, .static yX0_withOne, .code yX0_withOne cX0_withOne 3 (some .int), .constant RX0 78 (65535), .methodLink RX0 192 yX0_equalMarks, .static yX0_equalMarks, .code yX0_equalMarks cX0_equalMarks 6 (some .int)] ++ wsX00)
def wsX0_isAlike_r1 : List Cond := [Cond.classLink RX0 53 "java/lang/IllegalStateException", Cond.initialized "java/lang/IllegalStateException", Cond.fieldLink RX0 126 "Quarterboard" "hasKept" "Z", Cond.fieldLink RX0 129 "Quarterboard" "keptFilled" "I", Cond.fieldLink RX0 132 "Quarterboard" "keptDigits" "J", Cond.methodLink RX0 137 yX0_waysOfMarks, Cond.instanceMethod yX0_waysOfMarks, Cond.selects RX0 yX0_waysOfMarks yX0_waysOfMarks, Cond.initialized RX0, Cond.code yX0_waysOfMarks cX0_waysOfMarks 12 (some .int), Cond.fieldLink RX0 16 "Quarterboard" "filled" "I", Cond.fieldLink RX0 38 "Quarterboard" "digits" "J", Cond.methodLink RX0 185 yX0_turned, Cond.static yX0_turned, Cond.code yX0_turned cX0_turned 6 (some .long), Cond.constantLong RX0 151 (281479271743489), Cond.methodLink RX0 182 yX0_turnedSquare, Cond.static yX0_turnedSquare, Cond.code yX0_turnedSquare cX0_turnedSquare 5 (some .int), Cond.methodLink RX0 189 yX0_levelled, Cond.static yX0_levelled, Cond.code yX0_levelled cX0_levelled 7 (some .long), Cond.methodLink RX0 79 yX0_withOne, Cond.static yX0_withOne]
def wsX0_isAlike_r2 : List Cond := [Cond.code yX0_withOne cX0_withOne 3 (some .int), Cond.constant RX0 78 (65535), Cond.methodLink RX0 192 yX0_equalMarks, Cond.static yX0_equalMarks, Cond.code yX0_equalMarks cX0_equalMarks 6 (some .int)]
def wsX0_isAlike : List Cond := .code yX0_isAlike cX0_isAlike 2 (some .boolean) :: ((wsX0_isAlike_r1 ++ wsX0_isAlike_r2) ++ wsX00 ++ (vx_atS RX0 57 "java/lang/IllegalStateException" ["java/lang/RuntimeException", "java/lang/Exception"]).filter goodWord)
def wsX0_symmetries : List Cond := .code yX0_symmetries cX0_symmetries 3 (some .int) :: ([.fieldLink RX0 16 "Quarterboard" "filled" "I", .fieldLink RX0 38 "Quarterboard" "digits" "J", .methodLink RX0 137 yX0_waysOfMarks, .instanceMethod yX0_waysOfMarks, .selects RX0 yX0_waysOfMarks yX0_waysOfMarks, .initialized RX0, .code yX0_waysOfMarks cX0_waysOfMarks 12 (some .int), .methodLink RX0 185 yX0_turned, .static yX0_turned, .code yX0_turned cX0_turned 6 (some .long), .constantLong RX0 151 (281479271743489), .methodLink RX0 182 yX0_turnedSquare, .static yX0_turnedSquare, .code yX0_turnedSquare cX0_turnedSquare 5 (some .int), .methodLink RX0 189 yX0_levelled, .static yX0_levelled, .code yX0_levelled cX0_levelled 7 (some .long), .methodLink RX0 79 yX0_withOne, .static yX0_withOne, .code yX0_withOne cX0_withOne 3 (some .int), .constant RX0 78 (65535), .methodLink RX0 192 yX0_equalMarks, .static yX0_equalMarks, .code yX0_equalMarks cX0_equalMarks 6 (some .int)] ++ wsX00)
def wsX1_init : List Cond := .code yX1_init cX1_init 2 none :: ([.methodLink RX1 1 objectInit, .instanceMethod objectInit, .code objectInit ⟨#[0xb1]⟩ 1 none, .arrayClass .int, .fieldLink RX1 7 "QuarterboardModel" "piece" "[I", .arrayClass .boolean, .fieldLink RX1 13 "QuarterboardModel" "isOn" "[Z", .fieldLink RX1 17 "QuarterboardModel" "hand" "I", .fieldLink RX1 21 "QuarterboardModel" "phase" "I", .fieldLink RX1 24 "QuarterboardModel" "winner" "I", .fieldLink RX1 27 "QuarterboardModel" "kept" "[I", .fieldLink RX1 30 "QuarterboardModel" "kind" "[I", .fieldLink RX1 33 "QuarterboardModel" "left" "[I", .fieldLink RX1 36 "QuarterboardModel" "choice" "[I", .fieldLink RX1 39 "QuarterboardModel" "best" "[I", .fieldLink RX1 42 "QuarterboardModel" "given" "[I", .fieldLink RX1 45 "QuarterboardModel" "marks" "[I"] ++ wsX10)
def wsX1_thrown : List Cond := .code yX1_thrown cX1_thrown 1 (some .int) :: ([.fieldLink RX1 48 "QuarterboardModel" "thrown" "I"] ++ wsX10)
def wsX1_fails : List Cond := .code yX1_fails cX1_fails 2 (some .boolean) :: ([.fieldLink RX1 48 "QuarterboardModel" "thrown" "I"] ++ wsX10)
def wsX1_tells : List Cond := .code yX1_tells cX1_tells 2 (some .int) :: ([.fieldLink RX1 48 "QuarterboardModel" "thrown" "I"] ++ wsX10)
def wsX1_isIn : List Cond := .code yX1_isIn cX1_isIn 2 (some .boolean) :: ([])
def wsX1_many : List Cond := .code yX1_many cX1_many 1 (some .int) :: ([.fieldLink RX1 51 "QuarterboardModel" "hasBlocks" "Z"] ++ wsX10)
def wsX1_square : List Cond := .code yX1_square cX1_square 3 (some .int) :: ([])
def wsX1_common : List Cond := .code yX1_common cX1_common 5 (some .int) :: ([.fieldLink RX1 7 "QuarterboardModel" "piece" "[I", .methodLink RX1 55 yX1_square, .static yX1_square, .initialized RX1, .code yX1_square cX1_square 3 (some .int)] ++ wsX10)
def wsX1_full : List Cond := .code yX1_full cX1_full 4 (some .int) :: ([.fieldLink RX1 7 "QuarterboardModel" "piece" "[I", .methodLink RX1 55 yX1_square, .static yX1_square, .initialized RX1, .code yX1_square cX1_square 3 (some .int)] ++ wsX10)
def wsX1_won : List Cond := .code yX1_won cX1_won 6 (some .int) :: ([.methodLink RX1 59 yX1_many, .instanceMethod yX1_many, .selects RX1 yX1_many yX1_many, .initialized RX1, .code yX1_many cX1_many 1 (some .int), .fieldLink RX1 51 "QuarterboardModel" "hasBlocks" "Z", .methodLink RX1 55 yX1_square, .static yX1_square, .code yX1_square cX1_square 3 (some .int), .methodLink RX1 63 yX1_full, .instanceMethod yX1_full, .selects RX1 yX1_full yX1_full, .code yX1_full cX1_full 4 (some .int), .fieldLink RX1 7 "QuarterboardModel" "piece" "[I", .methodLink RX1 67 yX1_common, .instanceMethod yX1_common, .selects RX1 yX1_common yX1_common, .code yX1_common cX1_common 5 (some .int)] ++ wsX10)
def wsX1_begin : List Cond := .code yX1_begin cX1_begin 4 (some .int) :: ([.fieldLink RX1 48 "QuarterboardModel" "thrown" "I", .fieldLink RX1 70 "QuarterboardModel" "placed" "I", .fieldLink RX1 51 "QuarterboardModel" "hasBlocks" "Z", .fieldLink RX1 7 "QuarterboardModel" "piece" "[I", .fieldLink RX1 13 "QuarterboardModel" "isOn" "[Z", .fieldLink RX1 17 "QuarterboardModel" "hand" "I", .fieldLink RX1 21 "QuarterboardModel" "phase" "I", .fieldLink RX1 73 "QuarterboardModel" "onTurn" "I", .fieldLink RX1 24 "QuarterboardModel" "winner" "I"] ++ wsX10)
def wsX1_give : List Cond := .code yX1_give cX1_give 2 (some .int) :: ([.fieldLink RX1 21 "QuarterboardModel" "phase" "I", .fieldLink RX1 13 "QuarterboardModel" "isOn" "[Z", .fieldLink RX1 17 "QuarterboardModel" "hand" "I", .fieldLink RX1 73 "QuarterboardModel" "onTurn" "I", .methodLink RX1 76 yX1_isIn, .static yX1_isIn, .initialized RX1, .code yX1_isIn cX1_isIn 2 (some .boolean), .methodLink RX1 80 yX1_fails, .instanceMethod yX1_fails, .selects RX1 yX1_fails yX1_fails, .code yX1_fails cX1_fails 2 (some .boolean), .fieldLink RX1 48 "QuarterboardModel" "thrown" "I"] ++ wsX10)
def wsX1_puts : List Cond := .code yX1_puts cX1_puts 3 none :: ([.fieldLink RX1 7 "QuarterboardModel" "piece" "[I", .fieldLink RX1 13 "QuarterboardModel" "isOn" "[Z", .fieldLink RX1 70 "QuarterboardModel" "placed" "I"] ++ wsX10)
def wsX1_takes : List Cond := .code yX1_takes cX1_takes 2 none :: ([.fieldLink RX1 13 "QuarterboardModel" "isOn" "[Z", .fieldLink RX1 7 "QuarterboardModel" "piece" "[I", .fieldLink RX1 70 "QuarterboardModel" "placed" "I"] ++ wsX10)
def wsX1_place_r1 : List Cond := [Cond.fieldLink RX1 21 "QuarterboardModel" "phase" "I", Cond.fieldLink RX1 7 "QuarterboardModel" "piece" "[I", Cond.fieldLink RX1 17 "QuarterboardModel" "hand" "I", Cond.fieldLink RX1 73 "QuarterboardModel" "onTurn" "I", Cond.fieldLink RX1 70 "QuarterboardModel" "placed" "I", Cond.fieldLink RX1 24 "QuarterboardModel" "winner" "I", Cond.methodLink RX1 76 yX1_isIn, Cond.static yX1_isIn, Cond.initialized RX1, Cond.code yX1_isIn cX1_isIn 2 (some .boolean), Cond.methodLink RX1 80 yX1_fails, Cond.instanceMethod yX1_fails, Cond.selects RX1 yX1_fails yX1_fails, Cond.code yX1_fails cX1_fails 2 (some .boolean), Cond.fieldLink RX1 48 "QuarterboardModel" "thrown" "I", Cond.methodLink RX1 84 yX1_puts, Cond.instanceMethod yX1_puts, Cond.selects RX1 yX1_puts yX1_puts, Cond.code yX1_puts cX1_puts 3 none, Cond.fieldLink RX1 13 "QuarterboardModel" "isOn" "[Z", Cond.methodLink RX1 88 yX1_won, Cond.instanceMethod yX1_won, Cond.selects RX1 yX1_won yX1_won, Cond.code yX1_won cX1_won 6 (some .int)]
def wsX1_place_r2 : List Cond := [Cond.methodLink RX1 59 yX1_many, Cond.instanceMethod yX1_many, Cond.selects RX1 yX1_many yX1_many, Cond.code yX1_many cX1_many 1 (some .int), Cond.fieldLink RX1 51 "QuarterboardModel" "hasBlocks" "Z", Cond.methodLink RX1 55 yX1_square, Cond.static yX1_square, Cond.code yX1_square cX1_square 3 (some .int), Cond.methodLink RX1 63 yX1_full, Cond.instanceMethod yX1_full, Cond.selects RX1 yX1_full yX1_full, Cond.code yX1_full cX1_full 4 (some .int), Cond.methodLink RX1 67 yX1_common, Cond.instanceMethod yX1_common, Cond.selects RX1 yX1_common yX1_common, Cond.code yX1_common cX1_common 5 (some .int)]
def wsX1_place : List Cond := .code yX1_place cX1_place 3 (some .int) :: ((wsX1_place_r1 ++ wsX1_place_r2) ++ wsX10)
def wsX1_phase : List Cond := .code yX1_phase cX1_phase 1 (some .int) :: ([.fieldLink RX1 21 "QuarterboardModel" "phase" "I", .methodLink RX1 91 yX1_tells, .instanceMethod yX1_tells, .selects RX1 yX1_tells yX1_tells, .initialized RX1, .code yX1_tells cX1_tells 2 (some .int), .fieldLink RX1 48 "QuarterboardModel" "thrown" "I"] ++ wsX10)
def wsX1_onTurn : List Cond := .code yX1_onTurn cX1_onTurn 1 (some .int) :: ([.fieldLink RX1 73 "QuarterboardModel" "onTurn" "I", .methodLink RX1 91 yX1_tells, .instanceMethod yX1_tells, .selects RX1 yX1_tells yX1_tells, .initialized RX1, .code yX1_tells cX1_tells 2 (some .int), .fieldLink RX1 48 "QuarterboardModel" "thrown" "I"] ++ wsX10)
def wsX1_hand : List Cond := .code yX1_hand cX1_hand 1 (some .int) :: ([.fieldLink RX1 17 "QuarterboardModel" "hand" "I", .methodLink RX1 91 yX1_tells, .instanceMethod yX1_tells, .selects RX1 yX1_tells yX1_tells, .initialized RX1, .code yX1_tells cX1_tells 2 (some .int), .fieldLink RX1 48 "QuarterboardModel" "thrown" "I"] ++ wsX10)
def wsX1_pieceAt : List Cond := .code yX1_pieceAt cX1_pieceAt 2 (some .int) :: ([.fieldLink RX1 7 "QuarterboardModel" "piece" "[I", .methodLink RX1 76 yX1_isIn, .static yX1_isIn, .initialized RX1, .code yX1_isIn cX1_isIn 2 (some .boolean), .methodLink RX1 80 yX1_fails, .instanceMethod yX1_fails, .selects RX1 yX1_fails yX1_fails, .code yX1_fails cX1_fails 2 (some .boolean), .fieldLink RX1 48 "QuarterboardModel" "thrown" "I"] ++ wsX10)
def wsX1_placed : List Cond := .code yX1_placed cX1_placed 1 (some .int) :: ([.fieldLink RX1 70 "QuarterboardModel" "placed" "I", .methodLink RX1 91 yX1_tells, .instanceMethod yX1_tells, .selects RX1 yX1_tells yX1_tells, .initialized RX1, .code yX1_tells cX1_tells 2 (some .int), .fieldLink RX1 48 "QuarterboardModel" "thrown" "I"] ++ wsX10)
def wsX1_winner : List Cond := .code yX1_winner cX1_winner 1 (some .int) :: ([.fieldLink RX1 24 "QuarterboardModel" "winner" "I", .methodLink RX1 91 yX1_tells, .instanceMethod yX1_tells, .selects RX1 yX1_tells yX1_tells, .initialized RX1, .code yX1_tells cX1_tells 2 (some .int), .fieldLink RX1 48 "QuarterboardModel" "thrown" "I"] ++ wsX10)
def wsX1_lines : List Cond := .code yX1_lines cX1_lines 1 (some .int) :: ([.methodLink RX1 59 yX1_many, .instanceMethod yX1_many, .selects RX1 yX1_many yX1_many, .initialized RX1, .code yX1_many cX1_many 1 (some .int), .fieldLink RX1 51 "QuarterboardModel" "hasBlocks" "Z", .methodLink RX1 91 yX1_tells, .instanceMethod yX1_tells, .selects RX1 yX1_tells yX1_tells, .code yX1_tells cX1_tells 2 (some .int), .fieldLink RX1 48 "QuarterboardModel" "thrown" "I"] ++ wsX10)
def wsX1_onLine : List Cond := .code yX1_onLine cX1_onLine 2 (some .int) :: ([.methodLink RX1 59 yX1_many, .instanceMethod yX1_many, .selects RX1 yX1_many yX1_many, .initialized RX1, .code yX1_many cX1_many 1 (some .int), .fieldLink RX1 51 "QuarterboardModel" "hasBlocks" "Z", .methodLink RX1 76 yX1_isIn, .static yX1_isIn, .code yX1_isIn cX1_isIn 2 (some .boolean), .methodLink RX1 80 yX1_fails, .instanceMethod yX1_fails, .selects RX1 yX1_fails yX1_fails, .code yX1_fails cX1_fails 2 (some .boolean), .fieldLink RX1 48 "QuarterboardModel" "thrown" "I", .methodLink RX1 63 yX1_full, .instanceMethod yX1_full, .selects RX1 yX1_full yX1_full, .code yX1_full cX1_full 4 (some .int), .fieldLink RX1 7 "QuarterboardModel" "piece" "[I", .methodLink RX1 55 yX1_square, .static yX1_square, .code yX1_square cX1_square 3 (some .int)] ++ wsX10)
def wsX1_shared : List Cond := .code yX1_shared cX1_shared 2 (some .int) :: ([.methodLink RX1 59 yX1_many, .instanceMethod yX1_many, .selects RX1 yX1_many yX1_many, .initialized RX1, .code yX1_many cX1_many 1 (some .int), .fieldLink RX1 51 "QuarterboardModel" "hasBlocks" "Z", .methodLink RX1 76 yX1_isIn, .static yX1_isIn, .code yX1_isIn cX1_isIn 2 (some .boolean), .methodLink RX1 80 yX1_fails, .instanceMethod yX1_fails, .selects RX1 yX1_fails yX1_fails, .code yX1_fails cX1_fails 2 (some .boolean), .fieldLink RX1 48 "QuarterboardModel" "thrown" "I", .methodLink RX1 67 yX1_common, .instanceMethod yX1_common, .selects RX1 yX1_common yX1_common, .code yX1_common cX1_common 5 (some .int), .fieldLink RX1 7 "QuarterboardModel" "piece" "[I", .methodLink RX1 55 yX1_square, .static yX1_square, .code yX1_square cX1_square 3 (some .int)] ++ wsX10)
def wsX1_wins_r1 : List Cond := [Cond.fieldLink RX1 7 "QuarterboardModel" "piece" "[I", Cond.methodLink RX1 84 yX1_puts, Cond.instanceMethod yX1_puts, Cond.selects RX1 yX1_puts yX1_puts, Cond.initialized RX1, Cond.code yX1_puts cX1_puts 3 none, Cond.fieldLink RX1 13 "QuarterboardModel" "isOn" "[Z", Cond.fieldLink RX1 70 "QuarterboardModel" "placed" "I", Cond.methodLink RX1 88 yX1_won, Cond.instanceMethod yX1_won, Cond.selects RX1 yX1_won yX1_won, Cond.code yX1_won cX1_won 6 (some .int), Cond.methodLink RX1 59 yX1_many, Cond.instanceMethod yX1_many, Cond.selects RX1 yX1_many yX1_many, Cond.code yX1_many cX1_many 1 (some .int), Cond.fieldLink RX1 51 "QuarterboardModel" "hasBlocks" "Z", Cond.methodLink RX1 55 yX1_square, Cond.static yX1_square, Cond.code yX1_square cX1_square 3 (some .int), Cond.methodLink RX1 63 yX1_full, Cond.instanceMethod yX1_full, Cond.selects RX1 yX1_full yX1_full, Cond.code yX1_full cX1_full 4 (some .int)]
def wsX1_wins_r2 : List Cond := [Cond.methodLink RX1 67 yX1_common, Cond.instanceMethod yX1_common, Cond.selects RX1 yX1_common yX1_common, Cond.code yX1_common cX1_common 5 (some .int), Cond.methodLink RX1 94 yX1_takes, Cond.instanceMethod yX1_takes, Cond.selects RX1 yX1_takes yX1_takes, Cond.code yX1_takes cX1_takes 2 none]
def wsX1_wins : List Cond := .code yX1_wins cX1_wins 4 (some .boolean) :: ((wsX1_wins_r1 ++ wsX1_wins_r2) ++ wsX10)
def wsX1_winners_r1 : List Cond := [Cond.methodLink RX1 98 yX1_wins, Cond.instanceMethod yX1_wins, Cond.selects RX1 yX1_wins yX1_wins, Cond.initialized RX1, Cond.code yX1_wins cX1_wins 4 (some .boolean), Cond.fieldLink RX1 7 "QuarterboardModel" "piece" "[I", Cond.methodLink RX1 84 yX1_puts, Cond.instanceMethod yX1_puts, Cond.selects RX1 yX1_puts yX1_puts, Cond.code yX1_puts cX1_puts 3 none, Cond.fieldLink RX1 13 "QuarterboardModel" "isOn" "[Z", Cond.fieldLink RX1 70 "QuarterboardModel" "placed" "I", Cond.methodLink RX1 88 yX1_won, Cond.instanceMethod yX1_won, Cond.selects RX1 yX1_won yX1_won, Cond.code yX1_won cX1_won 6 (some .int), Cond.methodLink RX1 59 yX1_many, Cond.instanceMethod yX1_many, Cond.selects RX1 yX1_many yX1_many, Cond.code yX1_many cX1_many 1 (some .int), Cond.fieldLink RX1 51 "QuarterboardModel" "hasBlocks" "Z", Cond.methodLink RX1 55 yX1_square, Cond.static yX1_square, Cond.code yX1_square cX1_square 3 (some .int)]
def wsX1_winners_r2 : List Cond := [Cond.methodLink RX1 63 yX1_full, Cond.instanceMethod yX1_full, Cond.selects RX1 yX1_full yX1_full, Cond.code yX1_full cX1_full 4 (some .int), Cond.methodLink RX1 67 yX1_common, Cond.instanceMethod yX1_common, Cond.selects RX1 yX1_common yX1_common, Cond.code yX1_common cX1_common 5 (some .int), Cond.methodLink RX1 94 yX1_takes, Cond.instanceMethod yX1_takes, Cond.selects RX1 yX1_takes yX1_takes, Cond.code yX1_takes cX1_takes 2 none]
def wsX1_winners : List Cond := .code yX1_winners cX1_winners 4 (some .int) :: ((wsX1_winners_r1 ++ wsX1_winners_r2) ++ wsX10)
def wsX1_winning_r1 : List Cond := [Cond.fieldLink RX1 13 "QuarterboardModel" "isOn" "[Z", Cond.fieldLink RX1 21 "QuarterboardModel" "phase" "I", Cond.methodLink RX1 76 yX1_isIn, Cond.static yX1_isIn, Cond.initialized RX1, Cond.code yX1_isIn cX1_isIn 2 (some .boolean), Cond.methodLink RX1 80 yX1_fails, Cond.instanceMethod yX1_fails, Cond.selects RX1 yX1_fails yX1_fails, Cond.code yX1_fails cX1_fails 2 (some .boolean), Cond.fieldLink RX1 48 "QuarterboardModel" "thrown" "I", Cond.methodLink RX1 101 yX1_winners, Cond.instanceMethod yX1_winners, Cond.selects RX1 yX1_winners yX1_winners, Cond.code yX1_winners cX1_winners 4 (some .int), Cond.methodLink RX1 98 yX1_wins, Cond.instanceMethod yX1_wins, Cond.selects RX1 yX1_wins yX1_wins, Cond.code yX1_wins cX1_wins 4 (some .boolean), Cond.fieldLink RX1 7 "QuarterboardModel" "piece" "[I", Cond.methodLink RX1 84 yX1_puts, Cond.instanceMethod yX1_puts, Cond.selects RX1 yX1_puts yX1_puts, Cond.code yX1_puts cX1_puts 3 none]
def wsX1_winning_r2 : List Cond := [Cond.fieldLink RX1 70 "QuarterboardModel" "placed" "I", Cond.methodLink RX1 88 yX1_won, Cond.instanceMethod yX1_won, Cond.selects RX1 yX1_won yX1_won, Cond.code yX1_won cX1_won 6 (some .int), Cond.methodLink RX1 59 yX1_many, Cond.instanceMethod yX1_many, Cond.selects RX1 yX1_many yX1_many, Cond.code yX1_many cX1_many 1 (some .int), Cond.fieldLink RX1 51 "QuarterboardModel" "hasBlocks" "Z", Cond.methodLink RX1 55 yX1_square, Cond.static yX1_square, Cond.code yX1_square cX1_square 3 (some .int), Cond.methodLink RX1 63 yX1_full, Cond.instanceMethod yX1_full, Cond.selects RX1 yX1_full yX1_full, Cond.code yX1_full cX1_full 4 (some .int), Cond.methodLink RX1 67 yX1_common, Cond.instanceMethod yX1_common, Cond.selects RX1 yX1_common yX1_common, Cond.code yX1_common cX1_common 5 (some .int), Cond.methodLink RX1 94 yX1_takes, Cond.instanceMethod yX1_takes, Cond.selects RX1 yX1_takes yX1_takes]
def wsX1_winning_r3 : List Cond := [Cond.code yX1_takes cX1_takes 2 none]
def wsX1_winning : List Cond := .code yX1_winning cX1_winning 2 (some .int) :: ((wsX1_winning_r1 ++ (wsX1_winning_r2 ++ wsX1_winning_r3)) ++ wsX10)
def wsX1_safe_r1 : List Cond := [Cond.fieldLink RX1 21 "QuarterboardModel" "phase" "I", Cond.fieldLink RX1 13 "QuarterboardModel" "isOn" "[Z", Cond.methodLink RX1 80 yX1_fails, Cond.instanceMethod yX1_fails, Cond.selects RX1 yX1_fails yX1_fails, Cond.initialized RX1, Cond.code yX1_fails cX1_fails 2 (some .boolean), Cond.fieldLink RX1 48 "QuarterboardModel" "thrown" "I", Cond.methodLink RX1 101 yX1_winners, Cond.instanceMethod yX1_winners, Cond.selects RX1 yX1_winners yX1_winners, Cond.code yX1_winners cX1_winners 4 (some .int), Cond.methodLink RX1 98 yX1_wins, Cond.instanceMethod yX1_wins, Cond.selects RX1 yX1_wins yX1_wins, Cond.code yX1_wins cX1_wins 4 (some .boolean), Cond.fieldLink RX1 7 "QuarterboardModel" "piece" "[I", Cond.methodLink RX1 84 yX1_puts, Cond.instanceMethod yX1_puts, Cond.selects RX1 yX1_puts yX1_puts, Cond.code yX1_puts cX1_puts 3 none, Cond.fieldLink RX1 70 "QuarterboardModel" "placed" "I", Cond.methodLink RX1 88 yX1_won, Cond.instanceMethod yX1_won]
def wsX1_safe_r2 : List Cond := [Cond.selects RX1 yX1_won yX1_won, Cond.code yX1_won cX1_won 6 (some .int), Cond.methodLink RX1 59 yX1_many, Cond.instanceMethod yX1_many, Cond.selects RX1 yX1_many yX1_many, Cond.code yX1_many cX1_many 1 (some .int), Cond.fieldLink RX1 51 "QuarterboardModel" "hasBlocks" "Z", Cond.methodLink RX1 55 yX1_square, Cond.static yX1_square, Cond.code yX1_square cX1_square 3 (some .int), Cond.methodLink RX1 63 yX1_full, Cond.instanceMethod yX1_full, Cond.selects RX1 yX1_full yX1_full, Cond.code yX1_full cX1_full 4 (some .int), Cond.methodLink RX1 67 yX1_common, Cond.instanceMethod yX1_common, Cond.selects RX1 yX1_common yX1_common, Cond.code yX1_common cX1_common 5 (some .int), Cond.methodLink RX1 94 yX1_takes, Cond.instanceMethod yX1_takes, Cond.selects RX1 yX1_takes yX1_takes, Cond.code yX1_takes cX1_takes 2 none]
def wsX1_safe : List Cond := .code yX1_safe cX1_safe 3 (some .int) :: ((wsX1_safe_r1 ++ wsX1_safe_r2) ++ wsX10)
def wsX1_enters : List Cond := .code yX1_enters cX1_enters 5 none :: ([.fieldLink RX1 30 "QuarterboardModel" "kind" "[I", .fieldLink RX1 33 "QuarterboardModel" "left" "[I", .fieldLink RX1 36 "QuarterboardModel" "choice" "[I", .fieldLink RX1 39 "QuarterboardModel" "best" "[I", .fieldLink RX1 42 "QuarterboardModel" "given" "[I"] ++ wsX10)
def wsX1_tries_r1 : List Cond := [Cond.fieldLink RX1 36 "QuarterboardModel" "choice" "[I", Cond.fieldLink RX1 30 "QuarterboardModel" "kind" "[I", Cond.fieldLink RX1 13 "QuarterboardModel" "isOn" "[Z", Cond.fieldLink RX1 7 "QuarterboardModel" "piece" "[I", Cond.fieldLink RX1 42 "QuarterboardModel" "given" "[I", Cond.fieldLink RX1 70 "QuarterboardModel" "placed" "I", Cond.fieldLink RX1 33 "QuarterboardModel" "left" "[I", Cond.methodLink RX1 84 yX1_puts, Cond.instanceMethod yX1_puts, Cond.selects RX1 yX1_puts yX1_puts, Cond.initialized RX1, Cond.code yX1_puts cX1_puts 3 none, Cond.methodLink RX1 88 yX1_won, Cond.instanceMethod yX1_won, Cond.selects RX1 yX1_won yX1_won, Cond.code yX1_won cX1_won 6 (some .int), Cond.methodLink RX1 59 yX1_many, Cond.instanceMethod yX1_many, Cond.selects RX1 yX1_many yX1_many, Cond.code yX1_many cX1_many 1 (some .int), Cond.fieldLink RX1 51 "QuarterboardModel" "hasBlocks" "Z", Cond.methodLink RX1 55 yX1_square, Cond.static yX1_square, Cond.code yX1_square cX1_square 3 (some .int)]
def wsX1_tries_r2 : List Cond := [Cond.methodLink RX1 63 yX1_full, Cond.instanceMethod yX1_full, Cond.selects RX1 yX1_full yX1_full, Cond.code yX1_full cX1_full 4 (some .int), Cond.methodLink RX1 67 yX1_common, Cond.instanceMethod yX1_common, Cond.selects RX1 yX1_common yX1_common, Cond.code yX1_common cX1_common 5 (some .int), Cond.methodLink RX1 94 yX1_takes, Cond.instanceMethod yX1_takes, Cond.selects RX1 yX1_takes yX1_takes, Cond.code yX1_takes cX1_takes 2 none]
def wsX1_tries : List Cond := .code yX1_tries cX1_tries 4 (some .int) :: ((wsX1_tries_r1 ++ wsX1_tries_r2) ++ wsX10)
def wsX1_looks_r1 : List Cond := [Cond.fieldLink RX1 36 "QuarterboardModel" "choice" "[I", Cond.fieldLink RX1 39 "QuarterboardModel" "best" "[I", Cond.fieldLink RX1 30 "QuarterboardModel" "kind" "[I", Cond.fieldLink RX1 33 "QuarterboardModel" "left" "[I", Cond.methodLink RX1 104 yX1_enters, Cond.instanceMethod yX1_enters, Cond.selects RX1 yX1_enters yX1_enters, Cond.initialized RX1, Cond.code yX1_enters cX1_enters 5 none, Cond.fieldLink RX1 42 "QuarterboardModel" "given" "[I", Cond.methodLink RX1 94 yX1_takes, Cond.instanceMethod yX1_takes, Cond.selects RX1 yX1_takes yX1_takes, Cond.code yX1_takes cX1_takes 2 none, Cond.fieldLink RX1 13 "QuarterboardModel" "isOn" "[Z", Cond.fieldLink RX1 7 "QuarterboardModel" "piece" "[I", Cond.fieldLink RX1 70 "QuarterboardModel" "placed" "I", Cond.methodLink RX1 108 yX1_tries, Cond.instanceMethod yX1_tries, Cond.selects RX1 yX1_tries yX1_tries, Cond.code yX1_tries cX1_tries 4 (some .int), Cond.methodLink RX1 84 yX1_puts, Cond.instanceMethod yX1_puts, Cond.selects RX1 yX1_puts yX1_puts]
def wsX1_looks_r2 : List Cond := [Cond.code yX1_puts cX1_puts 3 none, Cond.methodLink RX1 88 yX1_won, Cond.instanceMethod yX1_won, Cond.selects RX1 yX1_won yX1_won, Cond.code yX1_won cX1_won 6 (some .int), Cond.methodLink RX1 59 yX1_many, Cond.instanceMethod yX1_many, Cond.selects RX1 yX1_many yX1_many, Cond.code yX1_many cX1_many 1 (some .int), Cond.fieldLink RX1 51 "QuarterboardModel" "hasBlocks" "Z", Cond.methodLink RX1 55 yX1_square, Cond.static yX1_square, Cond.code yX1_square cX1_square 3 (some .int), Cond.methodLink RX1 63 yX1_full, Cond.instanceMethod yX1_full, Cond.selects RX1 yX1_full yX1_full, Cond.code yX1_full cX1_full 4 (some .int), Cond.methodLink RX1 67 yX1_common, Cond.instanceMethod yX1_common, Cond.selects RX1 yX1_common yX1_common, Cond.code yX1_common cX1_common 5 (some .int)]
def wsX1_looks : List Cond := .code yX1_looks cX1_looks 8 (some .int) :: ((wsX1_looks_r1 ++ wsX1_looks_r2) ++ wsX10)
def wsX1_cannot : List Cond := .code yX1_cannot cX1_cannot 4 (some .boolean) :: ([.fieldLink RX1 70 "QuarterboardModel" "placed" "I", .fieldLink RX1 21 "QuarterboardModel" "phase" "I", .methodLink RX1 80 yX1_fails, .instanceMethod yX1_fails, .selects RX1 yX1_fails yX1_fails, .initialized RX1, .code yX1_fails cX1_fails 2 (some .boolean), .fieldLink RX1 48 "QuarterboardModel" "thrown" "I"] ++ wsX10)
def wsX1_worth_r1 : List Cond := [Cond.fieldLink RX1 21 "QuarterboardModel" "phase" "I", Cond.fieldLink RX1 17 "QuarterboardModel" "hand" "I", Cond.methodLink RX1 111 yX1_cannot, Cond.instanceMethod yX1_cannot, Cond.selects RX1 yX1_cannot yX1_cannot, Cond.initialized RX1, Cond.code yX1_cannot cX1_cannot 4 (some .boolean), Cond.fieldLink RX1 70 "QuarterboardModel" "placed" "I", Cond.methodLink RX1 80 yX1_fails, Cond.instanceMethod yX1_fails, Cond.selects RX1 yX1_fails yX1_fails, Cond.code yX1_fails cX1_fails 2 (some .boolean), Cond.fieldLink RX1 48 "QuarterboardModel" "thrown" "I", Cond.methodLink RX1 114 yX1_looks, Cond.instanceMethod yX1_looks, Cond.selects RX1 yX1_looks yX1_looks, Cond.code yX1_looks cX1_looks 8 (some .int), Cond.fieldLink RX1 36 "QuarterboardModel" "choice" "[I", Cond.fieldLink RX1 39 "QuarterboardModel" "best" "[I", Cond.fieldLink RX1 30 "QuarterboardModel" "kind" "[I", Cond.fieldLink RX1 33 "QuarterboardModel" "left" "[I", Cond.methodLink RX1 104 yX1_enters, Cond.instanceMethod yX1_enters, Cond.selects RX1 yX1_enters yX1_enters]
def wsX1_worth_r2 : List Cond := [Cond.code yX1_enters cX1_enters 5 none, Cond.fieldLink RX1 42 "QuarterboardModel" "given" "[I", Cond.methodLink RX1 94 yX1_takes, Cond.instanceMethod yX1_takes, Cond.selects RX1 yX1_takes yX1_takes, Cond.code yX1_takes cX1_takes 2 none, Cond.fieldLink RX1 13 "QuarterboardModel" "isOn" "[Z", Cond.fieldLink RX1 7 "QuarterboardModel" "piece" "[I", Cond.methodLink RX1 108 yX1_tries, Cond.instanceMethod yX1_tries, Cond.selects RX1 yX1_tries yX1_tries, Cond.code yX1_tries cX1_tries 4 (some .int), Cond.methodLink RX1 84 yX1_puts, Cond.instanceMethod yX1_puts, Cond.selects RX1 yX1_puts yX1_puts, Cond.code yX1_puts cX1_puts 3 none, Cond.methodLink RX1 88 yX1_won, Cond.instanceMethod yX1_won, Cond.selects RX1 yX1_won yX1_won, Cond.code yX1_won cX1_won 6 (some .int), Cond.methodLink RX1 59 yX1_many, Cond.instanceMethod yX1_many, Cond.selects RX1 yX1_many yX1_many, Cond.code yX1_many cX1_many 1 (some .int)]
def wsX1_worth_r3 : List Cond := [Cond.fieldLink RX1 51 "QuarterboardModel" "hasBlocks" "Z", Cond.methodLink RX1 55 yX1_square, Cond.static yX1_square, Cond.code yX1_square cX1_square 3 (some .int), Cond.methodLink RX1 63 yX1_full, Cond.instanceMethod yX1_full, Cond.selects RX1 yX1_full yX1_full, Cond.code yX1_full cX1_full 4 (some .int), Cond.methodLink RX1 67 yX1_common, Cond.instanceMethod yX1_common, Cond.selects RX1 yX1_common yX1_common, Cond.code yX1_common cX1_common 5 (some .int)]
def wsX1_worth : List Cond := .code yX1_worth cX1_worth 2 (some .int) :: ((wsX1_worth_r1 ++ (wsX1_worth_r2 ++ wsX1_worth_r3)) ++ wsX10)
def wsX1_behind_r1 : List Cond := [Cond.fieldLink RX1 21 "QuarterboardModel" "phase" "I", Cond.fieldLink RX1 13 "QuarterboardModel" "isOn" "[Z", Cond.fieldLink RX1 7 "QuarterboardModel" "piece" "[I", Cond.fieldLink RX1 17 "QuarterboardModel" "hand" "I", Cond.fieldLink RX1 70 "QuarterboardModel" "placed" "I", Cond.methodLink RX1 114 yX1_looks, Cond.instanceMethod yX1_looks, Cond.selects RX1 yX1_looks yX1_looks, Cond.initialized RX1, Cond.code yX1_looks cX1_looks 8 (some .int), Cond.fieldLink RX1 36 "QuarterboardModel" "choice" "[I", Cond.fieldLink RX1 39 "QuarterboardModel" "best" "[I", Cond.fieldLink RX1 30 "QuarterboardModel" "kind" "[I", Cond.fieldLink RX1 33 "QuarterboardModel" "left" "[I", Cond.methodLink RX1 104 yX1_enters, Cond.instanceMethod yX1_enters, Cond.selects RX1 yX1_enters yX1_enters, Cond.code yX1_enters cX1_enters 5 none, Cond.fieldLink RX1 42 "QuarterboardModel" "given" "[I", Cond.methodLink RX1 94 yX1_takes, Cond.instanceMethod yX1_takes, Cond.selects RX1 yX1_takes yX1_takes, Cond.code yX1_takes cX1_takes 2 none, Cond.methodLink RX1 108 yX1_tries]
def wsX1_behind_r2 : List Cond := [Cond.instanceMethod yX1_tries, Cond.selects RX1 yX1_tries yX1_tries, Cond.code yX1_tries cX1_tries 4 (some .int), Cond.methodLink RX1 84 yX1_puts, Cond.instanceMethod yX1_puts, Cond.selects RX1 yX1_puts yX1_puts, Cond.code yX1_puts cX1_puts 3 none, Cond.methodLink RX1 88 yX1_won, Cond.instanceMethod yX1_won, Cond.selects RX1 yX1_won yX1_won, Cond.code yX1_won cX1_won 6 (some .int), Cond.methodLink RX1 59 yX1_many, Cond.instanceMethod yX1_many, Cond.selects RX1 yX1_many yX1_many, Cond.code yX1_many cX1_many 1 (some .int), Cond.fieldLink RX1 51 "QuarterboardModel" "hasBlocks" "Z", Cond.methodLink RX1 55 yX1_square, Cond.static yX1_square, Cond.code yX1_square cX1_square 3 (some .int), Cond.methodLink RX1 63 yX1_full, Cond.instanceMethod yX1_full, Cond.selects RX1 yX1_full yX1_full, Cond.code yX1_full cX1_full 4 (some .int), Cond.methodLink RX1 67 yX1_common]
def wsX1_behind_r3 : List Cond := [Cond.instanceMethod yX1_common, Cond.selects RX1 yX1_common yX1_common, Cond.code yX1_common cX1_common 5 (some .int)]
def wsX1_behind : List Cond := .code yX1_behind cX1_behind 4 (some .int) :: ((wsX1_behind_r1 ++ (wsX1_behind_r2 ++ wsX1_behind_r3)) ++ wsX10)
def wsX1_best_r1 : List Cond := [Cond.fieldLink RX1 21 "QuarterboardModel" "phase" "I", Cond.fieldLink RX1 17 "QuarterboardModel" "hand" "I", Cond.methodLink RX1 111 yX1_cannot, Cond.instanceMethod yX1_cannot, Cond.selects RX1 yX1_cannot yX1_cannot, Cond.initialized RX1, Cond.code yX1_cannot cX1_cannot 4 (some .boolean), Cond.fieldLink RX1 70 "QuarterboardModel" "placed" "I", Cond.methodLink RX1 80 yX1_fails, Cond.instanceMethod yX1_fails, Cond.selects RX1 yX1_fails yX1_fails, Cond.code yX1_fails cX1_fails 2 (some .boolean), Cond.fieldLink RX1 48 "QuarterboardModel" "thrown" "I", Cond.methodLink RX1 114 yX1_looks, Cond.instanceMethod yX1_looks, Cond.selects RX1 yX1_looks yX1_looks, Cond.code yX1_looks cX1_looks 8 (some .int), Cond.fieldLink RX1 36 "QuarterboardModel" "choice" "[I", Cond.fieldLink RX1 39 "QuarterboardModel" "best" "[I", Cond.fieldLink RX1 30 "QuarterboardModel" "kind" "[I", Cond.fieldLink RX1 33 "QuarterboardModel" "left" "[I", Cond.methodLink RX1 104 yX1_enters, Cond.instanceMethod yX1_enters, Cond.selects RX1 yX1_enters yX1_enters]
def wsX1_best_r2 : List Cond := [Cond.code yX1_enters cX1_enters 5 none, Cond.fieldLink RX1 42 "QuarterboardModel" "given" "[I", Cond.methodLink RX1 94 yX1_takes, Cond.instanceMethod yX1_takes, Cond.selects RX1 yX1_takes yX1_takes, Cond.code yX1_takes cX1_takes 2 none, Cond.fieldLink RX1 13 "QuarterboardModel" "isOn" "[Z", Cond.fieldLink RX1 7 "QuarterboardModel" "piece" "[I", Cond.methodLink RX1 108 yX1_tries, Cond.instanceMethod yX1_tries, Cond.selects RX1 yX1_tries yX1_tries, Cond.code yX1_tries cX1_tries 4 (some .int), Cond.methodLink RX1 84 yX1_puts, Cond.instanceMethod yX1_puts, Cond.selects RX1 yX1_puts yX1_puts, Cond.code yX1_puts cX1_puts 3 none, Cond.methodLink RX1 88 yX1_won, Cond.instanceMethod yX1_won, Cond.selects RX1 yX1_won yX1_won, Cond.code yX1_won cX1_won 6 (some .int), Cond.methodLink RX1 59 yX1_many, Cond.instanceMethod yX1_many, Cond.selects RX1 yX1_many yX1_many, Cond.code yX1_many cX1_many 1 (some .int)]
def wsX1_best_r3 : List Cond := [Cond.fieldLink RX1 51 "QuarterboardModel" "hasBlocks" "Z", Cond.methodLink RX1 55 yX1_square, Cond.static yX1_square, Cond.code yX1_square cX1_square 3 (some .int), Cond.methodLink RX1 63 yX1_full, Cond.instanceMethod yX1_full, Cond.selects RX1 yX1_full yX1_full, Cond.code yX1_full cX1_full 4 (some .int), Cond.methodLink RX1 67 yX1_common, Cond.instanceMethod yX1_common, Cond.selects RX1 yX1_common yX1_common, Cond.code yX1_common cX1_common 5 (some .int), Cond.methodLink RX1 118 yX1_behind, Cond.instanceMethod yX1_behind, Cond.selects RX1 yX1_behind yX1_behind, Cond.code yX1_behind cX1_behind 4 (some .int)]
def wsX1_best : List Cond := .code yX1_best cX1_best 4 (some .int) :: ((wsX1_best_r1 ++ (wsX1_best_r2 ++ wsX1_best_r3)) ++ wsX10)
def wsX1_keep : List Cond := .code yX1_keep cX1_keep 2 (some .int) :: ([.fieldLink RX1 48 "QuarterboardModel" "thrown" "I", .fieldLink RX1 121 "QuarterboardModel" "isKept" "Z", .fieldLink RX1 27 "QuarterboardModel" "kept" "[I", .fieldLink RX1 7 "QuarterboardModel" "piece" "[I", .fieldLink RX1 70 "QuarterboardModel" "placed" "I"] ++ wsX10)
def wsX1_turned : List Cond := .code yX1_turned cX1_turned 6 (some .int) :: ([])
def wsX1_renames : List Cond := .code yX1_renames cX1_renames 4 (some .boolean) :: ([.fieldLink RX1 45 "QuarterboardModel" "marks" "[I"] ++ wsX10)
def wsX1_renamed : List Cond := .code yX1_renamed cX1_renamed 5 (some .int) :: ([.fieldLink RX1 45 "QuarterboardModel" "marks" "[I"] ++ wsX10)
def wsX1_ways : List Cond := .code yX1_ways cX1_ways 8 (some .int) :: ([.fieldLink RX1 7 "QuarterboardModel" "piece" "[I", .methodLink RX1 124 yX1_renames, .instanceMethod yX1_renames, .selects RX1 yX1_renames yX1_renames, .initialized RX1, .code yX1_renames cX1_renames 4 (some .boolean), .fieldLink RX1 45 "QuarterboardModel" "marks" "[I", .methodLink RX1 127 yX1_turned, .static yX1_turned, .code yX1_turned cX1_turned 6 (some .int), .methodLink RX1 130 yX1_renamed, .instanceMethod yX1_renamed, .selects RX1 yX1_renamed yX1_renamed, .code yX1_renamed cX1_renamed 5 (some .int)] ++ wsX10)
def wsX1_isAlike_r1 : List Cond := [Cond.fieldLink RX1 121 "QuarterboardModel" "isKept" "Z", Cond.fieldLink RX1 27 "QuarterboardModel" "kept" "[I", Cond.methodLink RX1 80 yX1_fails, Cond.instanceMethod yX1_fails, Cond.selects RX1 yX1_fails yX1_fails, Cond.initialized RX1, Cond.code yX1_fails cX1_fails 2 (some .boolean), Cond.fieldLink RX1 48 "QuarterboardModel" "thrown" "I", Cond.methodLink RX1 133 yX1_ways, Cond.instanceMethod yX1_ways, Cond.selects RX1 yX1_ways yX1_ways, Cond.code yX1_ways cX1_ways 8 (some .int), Cond.fieldLink RX1 7 "QuarterboardModel" "piece" "[I", Cond.methodLink RX1 124 yX1_renames, Cond.instanceMethod yX1_renames, Cond.selects RX1 yX1_renames yX1_renames, Cond.code yX1_renames cX1_renames 4 (some .boolean), Cond.fieldLink RX1 45 "QuarterboardModel" "marks" "[I", Cond.methodLink RX1 127 yX1_turned, Cond.static yX1_turned, Cond.code yX1_turned cX1_turned 6 (some .int), Cond.methodLink RX1 130 yX1_renamed, Cond.instanceMethod yX1_renamed, Cond.selects RX1 yX1_renamed yX1_renamed]
def wsX1_isAlike_r2 : List Cond := [Cond.code yX1_renamed cX1_renamed 5 (some .int)]
def wsX1_isAlike : List Cond := .code yX1_isAlike cX1_isAlike 1 (some .boolean) :: ((wsX1_isAlike_r1 ++ wsX1_isAlike_r2) ++ wsX10)
def wsX1_symmetries : List Cond := .code yX1_symmetries cX1_symmetries 1 (some .int) :: ([.fieldLink RX1 7 "QuarterboardModel" "piece" "[I", .methodLink RX1 133 yX1_ways, .instanceMethod yX1_ways, .selects RX1 yX1_ways yX1_ways, .initialized RX1, .code yX1_ways cX1_ways 8 (some .int), .methodLink RX1 124 yX1_renames, .instanceMethod yX1_renames, .selects RX1 yX1_renames yX1_renames, .code yX1_renames cX1_renames 4 (some .boolean), .fieldLink RX1 45 "QuarterboardModel" "marks" "[I", .methodLink RX1 127 yX1_turned, .static yX1_turned, .code yX1_turned cX1_turned 6 (some .int), .methodLink RX1 130 yX1_renamed, .instanceMethod yX1_renamed, .selects RX1 yX1_renamed yX1_renamed, .code yX1_renamed cX1_renamed 5 (some .int), .methodLink RX1 91 yX1_tells, .instanceMethod yX1_tells, .selects RX1 yX1_tells yX1_tells, .code yX1_tells cX1_tells 2 (some .int), .fieldLink RX1 48 "QuarterboardModel" "thrown" "I"] ++ wsX10)
abbrev vwCl : List vw_C := [(RX0, TX0, 11), (RX1, TX1, 17)]
end
section
theorem dX0_init_0 : decode cX0_init 0 = .ok (.aload_n 0, 1) := by decide +kernel
theorem dX0_init_1 : decode cX0_init 1 = .ok (.invokespecial 1, 3) := by decide +kernel
theorem dX0_init_4 : decode cX0_init 4 = .ok (.aload_n 0, 1) := by decide +kernel
theorem dX0_init_5 : decode cX0_init 5 = .ok (.iconst (-1), 1) := by decide +kernel
theorem dX0_init_6 : decode cX0_init 6 = .ok (.putfield 9, 3) := by decide +kernel
theorem dX0_init_9 : decode cX0_init 9 = .ok (.aload_n 0, 1) := by decide +kernel
theorem dX0_init_10 : decode cX0_init 10 = .ok (.iconst (-1), 1) := by decide +kernel
theorem dX0_init_11 : decode cX0_init 11 = .ok (.putfield 13, 3) := by decide +kernel
theorem dX0_init_14 : decode cX0_init 14 = .ok (.return_, 1) := by decide +kernel
set_option maxRecDepth 20000 in
theorem ggX0_begin_J6_bitCount_0f7a4 : GoodIn wsX0_begin wsJ6_bitCount_0f7a4 := goodIn_r _ [12, 13, 14, 15] (by decide +kernel) (by decide +kernel)
set_option maxRecDepth 20000 in
theorem gX0_begin_J6_bitCount_0f7a4 : GoodIn wsX0_begin (va_wsS RX0 19 yJ6_bitCount_0f7a4 wsJ6_bitCount_0f7a4) := goodIn_app (goodIn_of _ (by decide +kernel)) ggX0_begin_J6_bitCount_0f7a4
theorem dX0_begin_0 : decode cX0_begin 0 = .ok (.aload_n 0, 1) := by decide +kernel
theorem dX0_begin_1 : decode cX0_begin 1 = .ok (.getfield 16, 3) := by decide +kernel
theorem dX0_begin_4 : decode cX0_begin 4 = .ok (.invokestatic 19, 3) := by decide +kernel
theorem dX0_begin_7 : decode cX0_begin 7 = .ok (.istore_n 2, 1) := by decide +kernel
theorem dX0_begin_8 : decode cX0_begin 8 = .ok (.aload_n 0, 1) := by decide +kernel
theorem dX0_begin_9 : decode cX0_begin 9 = .ok (.iload_n 1, 1) := by decide +kernel
theorem dX0_begin_10 : decode cX0_begin 10 = .ok (.putfield 25, 3) := by decide +kernel
theorem dX0_begin_13 : decode cX0_begin 13 = .ok (.aload_n 0, 1) := by decide +kernel
theorem dX0_begin_14 : decode cX0_begin 14 = .ok (.iconst 0, 1) := by decide +kernel
theorem dX0_begin_15 : decode cX0_begin 15 = .ok (.putfield 29, 3) := by decide +kernel
theorem dX0_begin_18 : decode cX0_begin 18 = .ok (.aload_n 0, 1) := by decide +kernel
theorem dX0_begin_19 : decode cX0_begin 19 = .ok (.iconst 0, 1) := by decide +kernel
theorem dX0_begin_20 : decode cX0_begin 20 = .ok (.putfield 32, 3) := by decide +kernel
theorem dX0_begin_23 : decode cX0_begin 23 = .ok (.aload_n 0, 1) := by decide +kernel
theorem dX0_begin_24 : decode cX0_begin 24 = .ok (.iconst (-1), 1) := by decide +kernel
theorem dX0_begin_25 : decode cX0_begin 25 = .ok (.putfield 9, 3) := by decide +kernel
theorem dX0_begin_28 : decode cX0_begin 28 = .ok (.aload_n 0, 1) := by decide +kernel
theorem dX0_begin_29 : decode cX0_begin 29 = .ok (.iconst (-1), 1) := by decide +kernel
theorem dX0_begin_30 : decode cX0_begin 30 = .ok (.putfield 13, 3) := by decide +kernel
theorem dX0_begin_33 : decode cX0_begin 33 = .ok (.aload_n 0, 1) := by decide +kernel
theorem dX0_begin_34 : decode cX0_begin 34 = .ok (.iconst 0, 1) := by decide +kernel
theorem dX0_begin_35 : decode cX0_begin 35 = .ok (.putfield 16, 3) := by decide +kernel
theorem dX0_begin_38 : decode cX0_begin 38 = .ok (.aload_n 0, 1) := by decide +kernel
theorem dX0_begin_39 : decode cX0_begin 39 = .ok (.iconst 0, 1) := by decide +kernel
theorem dX0_begin_40 : decode cX0_begin 40 = .ok (.putfield 35, 3) := by decide +kernel
theorem dX0_begin_43 : decode cX0_begin 43 = .ok (.aload_n 0, 1) := by decide +kernel
theorem dX0_begin_44 : decode cX0_begin 44 = .ok (.lconst 0, 1) := by decide +kernel
theorem dX0_begin_45 : decode cX0_begin 45 = .ok (.putfield 38, 3) := by decide +kernel
theorem dX0_begin_48 : decode cX0_begin 48 = .ok (.iload_n 2, 1) := by decide +kernel
theorem dX0_begin_49 : decode cX0_begin 49 = .ok (.ireturn, 1) := by decide +kernel
set_option maxRecDepth 20000 in
theorem ggX0_give_X0_isNumber : GoodIn wsX0_give wsX0_isNumber := goodIn_r _ [12] (by decide +kernel) (by decide +kernel)
set_option maxRecDepth 20000 in
theorem gX0_give_X0_isNumber : GoodIn wsX0_give (va_wsS RX0 42 yX0_isNumber wsX0_isNumber) := goodIn_app (goodIn_of _ (by decide +kernel)) ggX0_give_X0_isNumber
set_option maxRecDepth 20000 in
theorem ggX0_give_X0_has : GoodIn wsX0_give wsX0_has := goodIn_r _ [15] (by decide +kernel) (by decide +kernel)
set_option maxRecDepth 20000 in
theorem gX0_give_X0_has : GoodIn wsX0_give (va_wsS RX0 58 yX0_has wsX0_has) := goodIn_app (goodIn_of _ (by decide +kernel)) ggX0_give_X0_has
theorem dX0_give_0 : decode cX0_give 0 = .ok (.iload_n 1, 1) := by decide +kernel
theorem dX0_give_1 : decode cX0_give 1 = .ok (.invokestatic 42, 3) := by decide +kernel
theorem dX0_give_4 : decode cX0_give 4 = .ok (.ifCond .ne 13, 3) := by decide +kernel
theorem dX0_give_7 : decode cX0_give 7 = .ok (.new 46, 3) := by decide +kernel
theorem dX0_give_10 : decode cX0_give 10 = .ok (.dup, 1) := by decide +kernel
theorem dX0_give_11 : decode cX0_give 11 = .ok (.ldc 48, 2) := by decide +kernel
theorem dX0_give_13 : decode cX0_give 13 = .ok (.invokespecial 50, 3) := by decide +kernel
theorem dX0_give_16 : decode cX0_give 16 = .ok (.athrow, 1) := by decide +kernel
theorem dX0_give_17 : decode cX0_give 17 = .ok (.aload_n 0, 1) := by decide +kernel
theorem dX0_give_18 : decode cX0_give 18 = .ok (.getfield 29, 3) := by decide +kernel
theorem dX0_give_21 : decode cX0_give 21 = .ok (.ifCond .eq 13, 3) := by decide +kernel
theorem dX0_give_24 : decode cX0_give 24 = .ok (.new 53, 3) := by decide +kernel
theorem dX0_give_27 : decode cX0_give 27 = .ok (.dup, 1) := by decide +kernel
theorem dX0_give_28 : decode cX0_give 28 = .ok (.ldc 55, 2) := by decide +kernel
theorem dX0_give_30 : decode cX0_give 30 = .ok (.invokespecial 57, 3) := by decide +kernel
theorem dX0_give_33 : decode cX0_give 33 = .ok (.athrow, 1) := by decide +kernel
theorem dX0_give_34 : decode cX0_give 34 = .ok (.aload_n 0, 1) := by decide +kernel
theorem dX0_give_35 : decode cX0_give 35 = .ok (.getfield 35, 3) := by decide +kernel
theorem dX0_give_38 : decode cX0_give 38 = .ok (.iload_n 1, 1) := by decide +kernel
theorem dX0_give_39 : decode cX0_give 39 = .ok (.invokestatic 58, 3) := by decide +kernel
theorem dX0_give_42 : decode cX0_give 42 = .ok (.ifCond .eq 13, 3) := by decide +kernel
theorem dX0_give_45 : decode cX0_give 45 = .ok (.new 53, 3) := by decide +kernel
theorem dX0_give_48 : decode cX0_give 48 = .ok (.dup, 1) := by decide +kernel
theorem dX0_give_49 : decode cX0_give 49 = .ok (.ldc 62, 2) := by decide +kernel
theorem dX0_give_51 : decode cX0_give 51 = .ok (.invokespecial 57, 3) := by decide +kernel
theorem dX0_give_54 : decode cX0_give 54 = .ok (.athrow, 1) := by decide +kernel
theorem dX0_give_55 : decode cX0_give 55 = .ok (.aload_n 0, 1) := by decide +kernel
theorem dX0_give_56 : decode cX0_give 56 = .ok (.iload_n 1, 1) := by decide +kernel
theorem dX0_give_57 : decode cX0_give 57 = .ok (.putfield 9, 3) := by decide +kernel
theorem dX0_give_60 : decode cX0_give 60 = .ok (.aload_n 0, 1) := by decide +kernel
theorem dX0_give_61 : decode cX0_give 61 = .ok (.iconst 1, 1) := by decide +kernel
theorem dX0_give_62 : decode cX0_give 62 = .ok (.aload_n 0, 1) := by decide +kernel
theorem dX0_give_63 : decode cX0_give 63 = .ok (.getfield 32, 3) := by decide +kernel
theorem dX0_give_66 : decode cX0_give 66 = .ok (.isub, 1) := by decide +kernel
theorem dX0_give_67 : decode cX0_give 67 = .ok (.putfield 32, 3) := by decide +kernel
theorem dX0_give_70 : decode cX0_give 70 = .ok (.aload_n 0, 1) := by decide +kernel
theorem dX0_give_71 : decode cX0_give 71 = .ok (.iconst 1, 1) := by decide +kernel
theorem dX0_give_72 : decode cX0_give 72 = .ok (.putfield 29, 3) := by decide +kernel
theorem dX0_give_75 : decode cX0_give 75 = .ok (.aload_n 0, 1) := by decide +kernel
theorem dX0_give_76 : decode cX0_give 76 = .ok (.getfield 32, 3) := by decide +kernel
theorem dX0_give_79 : decode cX0_give 79 = .ok (.ireturn, 1) := by decide +kernel
set_option maxRecDepth 20000 in
theorem ggX0_place_X0_isNumber : GoodIn wsX0_place wsX0_isNumber := goodIn_r _ [14] (by decide +kernel) (by decide +kernel)
set_option maxRecDepth 20000 in
theorem gX0_place_X0_isNumber : GoodIn wsX0_place (va_wsS RX0 42 yX0_isNumber wsX0_isNumber) := goodIn_app (goodIn_of _ (by decide +kernel)) ggX0_place_X0_isNumber
set_option maxRecDepth 20000 in
theorem ggX0_place_X0_has : GoodIn wsX0_place wsX0_has := goodIn_r _ [17] (by decide +kernel) (by decide +kernel)
set_option maxRecDepth 20000 in
theorem gX0_place_X0_has : GoodIn wsX0_place (va_wsS RX0 58 yX0_has wsX0_has) := goodIn_app (goodIn_of _ (by decide +kernel)) ggX0_place_X0_has
set_option maxRecDepth 20000 in
theorem ggX0_place_X0_put : GoodIn wsX0_place wsX0_put := goodIn_r _ [21, 6, 22, 23, 24, 25, 13, 26, 27, 28, 29, 47, 48, 49, 50, 51, 52, 53, 54, 55, 56, 57] (by decide +kernel) (by decide +kernel)
set_option maxRecDepth 20000 in
theorem gX0_place_X0_put : GoodIn wsX0_place (wsV RX0 70 RX0 yX0_put wsX0_put) := goodIn_app (goodIn_of _ (by decide +kernel)) ggX0_place_X0_put
set_option maxRecDepth 20000 in
theorem ggX0_place_X0_wonLines : GoodIn wsX0_place wsX0_wonLines := goodIn_r _ [33, 34, 6, 35, 36, 37, 13, 38, 39, 40, 41, 42, 43, 23, 44, 45, 46, 10, 47, 48, 49, 50, 51, 52, 53, 54, 55, 56, 57] (by decide +kernel) (by decide +kernel)
set_option maxRecDepth 20000 in
theorem gX0_place_X0_wonLines : GoodIn wsX0_place (wsV RX0 74 RX0 yX0_wonLines wsX0_wonLines) := goodIn_app (goodIn_of _ (by decide +kernel)) ggX0_place_X0_wonLines
theorem dX0_place_0 : decode cX0_place 0 = .ok (.iload_n 1, 1) := by decide +kernel
theorem dX0_place_1 : decode cX0_place 1 = .ok (.invokestatic 42, 3) := by decide +kernel
theorem dX0_place_4 : decode cX0_place 4 = .ok (.ifCond .ne 13, 3) := by decide +kernel
theorem dX0_place_7 : decode cX0_place 7 = .ok (.new 46, 3) := by decide +kernel
theorem dX0_place_10 : decode cX0_place 10 = .ok (.dup, 1) := by decide +kernel
theorem dX0_place_11 : decode cX0_place 11 = .ok (.ldc 64, 2) := by decide +kernel
theorem dX0_place_13 : decode cX0_place 13 = .ok (.invokespecial 50, 3) := by decide +kernel
theorem dX0_place_16 : decode cX0_place 16 = .ok (.athrow, 1) := by decide +kernel
theorem dX0_place_17 : decode cX0_place 17 = .ok (.aload_n 0, 1) := by decide +kernel
theorem dX0_place_18 : decode cX0_place 18 = .ok (.getfield 29, 3) := by decide +kernel
theorem dX0_place_21 : decode cX0_place 21 = .ok (.iconst 1, 1) := by decide +kernel
theorem dX0_place_22 : decode cX0_place 22 = .ok (.if_icmp .eq 13, 3) := by decide +kernel
theorem dX0_place_25 : decode cX0_place 25 = .ok (.new 53, 3) := by decide +kernel
theorem dX0_place_28 : decode cX0_place 28 = .ok (.dup, 1) := by decide +kernel
theorem dX0_place_29 : decode cX0_place 29 = .ok (.ldc 66, 2) := by decide +kernel
theorem dX0_place_31 : decode cX0_place 31 = .ok (.invokespecial 57, 3) := by decide +kernel
theorem dX0_place_34 : decode cX0_place 34 = .ok (.athrow, 1) := by decide +kernel
theorem dX0_place_35 : decode cX0_place 35 = .ok (.aload_n 0, 1) := by decide +kernel
theorem dX0_place_36 : decode cX0_place 36 = .ok (.getfield 16, 3) := by decide +kernel
theorem dX0_place_39 : decode cX0_place 39 = .ok (.iload_n 1, 1) := by decide +kernel
theorem dX0_place_40 : decode cX0_place 40 = .ok (.invokestatic 58, 3) := by decide +kernel
theorem dX0_place_43 : decode cX0_place 43 = .ok (.ifCond .eq 13, 3) := by decide +kernel
theorem dX0_place_46 : decode cX0_place 46 = .ok (.new 53, 3) := by decide +kernel
theorem dX0_place_49 : decode cX0_place 49 = .ok (.dup, 1) := by decide +kernel
theorem dX0_place_50 : decode cX0_place 50 = .ok (.ldc 68, 2) := by decide +kernel
theorem dX0_place_52 : decode cX0_place 52 = .ok (.invokespecial 57, 3) := by decide +kernel
theorem dX0_place_55 : decode cX0_place 55 = .ok (.athrow, 1) := by decide +kernel
theorem dX0_place_56 : decode cX0_place 56 = .ok (.aload_n 0, 1) := by decide +kernel
theorem dX0_place_57 : decode cX0_place 57 = .ok (.aload_n 0, 1) := by decide +kernel
theorem dX0_place_58 : decode cX0_place 58 = .ok (.getfield 9, 3) := by decide +kernel
theorem dX0_place_61 : decode cX0_place 61 = .ok (.iload_n 1, 1) := by decide +kernel
theorem dX0_place_62 : decode cX0_place 62 = .ok (.invokevirtual 70, 3) := by decide +kernel
theorem dX0_place_65 : decode cX0_place 65 = .ok (.aload_n 0, 1) := by decide +kernel
theorem dX0_place_66 : decode cX0_place 66 = .ok (.iconst (-1), 1) := by decide +kernel
theorem dX0_place_67 : decode cX0_place 67 = .ok (.putfield 9, 3) := by decide +kernel
theorem dX0_place_70 : decode cX0_place 70 = .ok (.aload_n 0, 1) := by decide +kernel
theorem dX0_place_71 : decode cX0_place 71 = .ok (.invokevirtual 74, 3) := by decide +kernel
theorem dX0_place_74 : decode cX0_place 74 = .ok (.istore_n 2, 1) := by decide +kernel
theorem dX0_place_75 : decode cX0_place 75 = .ok (.iload_n 2, 1) := by decide +kernel
theorem dX0_place_76 : decode cX0_place 76 = .ok (.ifCond .le 19, 3) := by decide +kernel
theorem dX0_place_79 : decode cX0_place 79 = .ok (.aload_n 0, 1) := by decide +kernel
theorem dX0_place_80 : decode cX0_place 80 = .ok (.iconst 2, 1) := by decide +kernel
theorem dX0_place_81 : decode cX0_place 81 = .ok (.putfield 29, 3) := by decide +kernel
theorem dX0_place_84 : decode cX0_place 84 = .ok (.aload_n 0, 1) := by decide +kernel
theorem dX0_place_85 : decode cX0_place 85 = .ok (.aload_n 0, 1) := by decide +kernel
theorem dX0_place_86 : decode cX0_place 86 = .ok (.getfield 32, 3) := by decide +kernel
theorem dX0_place_89 : decode cX0_place 89 = .ok (.putfield 13, 3) := by decide +kernel
theorem dX0_place_92 : decode cX0_place 92 = .ok (.goto 30, 3) := by decide +kernel
theorem dX0_place_95 : decode cX0_place 95 = .ok (.aload_n 0, 1) := by decide +kernel
theorem dX0_place_96 : decode cX0_place 96 = .ok (.getfield 16, 3) := by decide +kernel
theorem dX0_place_99 : decode cX0_place 99 = .ok (.ldc 78, 2) := by decide +kernel
theorem dX0_place_101 : decode cX0_place 101 = .ok (.if_icmp .ne 16, 3) := by decide +kernel
theorem dX0_place_104 : decode cX0_place 104 = .ok (.aload_n 0, 1) := by decide +kernel
theorem dX0_place_105 : decode cX0_place 105 = .ok (.iconst 2, 1) := by decide +kernel
theorem dX0_place_106 : decode cX0_place 106 = .ok (.putfield 29, 3) := by decide +kernel
theorem dX0_place_109 : decode cX0_place 109 = .ok (.aload_n 0, 1) := by decide +kernel
theorem dX0_place_110 : decode cX0_place 110 = .ok (.iconst 2, 1) := by decide +kernel
theorem dX0_place_111 : decode cX0_place 111 = .ok (.putfield 13, 3) := by decide +kernel
theorem dX0_place_114 : decode cX0_place 114 = .ok (.goto 8, 3) := by decide +kernel
theorem dX0_place_117 : decode cX0_place 117 = .ok (.aload_n 0, 1) := by decide +kernel
theorem dX0_place_118 : decode cX0_place 118 = .ok (.iconst 0, 1) := by decide +kernel
theorem dX0_place_119 : decode cX0_place 119 = .ok (.putfield 29, 3) := by decide +kernel
theorem dX0_place_122 : decode cX0_place 122 = .ok (.iload_n 2, 1) := by decide +kernel
theorem dX0_place_123 : decode cX0_place 123 = .ok (.ireturn, 1) := by decide +kernel
theorem dX0_phase_0 : decode cX0_phase 0 = .ok (.aload_n 0, 1) := by decide +kernel
theorem dX0_phase_1 : decode cX0_phase 1 = .ok (.getfield 29, 3) := by decide +kernel
theorem dX0_phase_4 : decode cX0_phase 4 = .ok (.ireturn, 1) := by decide +kernel
theorem dX0_onTurn_0 : decode cX0_onTurn 0 = .ok (.aload_n 0, 1) := by decide +kernel
theorem dX0_onTurn_1 : decode cX0_onTurn 1 = .ok (.getfield 32, 3) := by decide +kernel
theorem dX0_onTurn_4 : decode cX0_onTurn 4 = .ok (.ireturn, 1) := by decide +kernel
theorem dX0_hand_0 : decode cX0_hand 0 = .ok (.aload_n 0, 1) := by decide +kernel
theorem dX0_hand_1 : decode cX0_hand 1 = .ok (.getfield 9, 3) := by decide +kernel
theorem dX0_hand_4 : decode cX0_hand 4 = .ok (.ireturn, 1) := by decide +kernel
set_option maxRecDepth 20000 in
theorem ggX0_pieceAt_X0_isNumber : GoodIn wsX0_pieceAt wsX0_isNumber := goodIn_r _ [8] (by decide +kernel) (by decide +kernel)
set_option maxRecDepth 20000 in
theorem gX0_pieceAt_X0_isNumber : GoodIn wsX0_pieceAt (va_wsS RX0 42 yX0_isNumber wsX0_isNumber) := goodIn_app (goodIn_of _ (by decide +kernel)) ggX0_pieceAt_X0_isNumber
set_option maxRecDepth 20000 in
theorem ggX0_pieceAt_X0_has : GoodIn wsX0_pieceAt wsX0_has := goodIn_r _ [11] (by decide +kernel) (by decide +kernel)
set_option maxRecDepth 20000 in
theorem gX0_pieceAt_X0_has : GoodIn wsX0_pieceAt (va_wsS RX0 58 yX0_has wsX0_has) := goodIn_app (goodIn_of _ (by decide +kernel)) ggX0_pieceAt_X0_has
set_option maxRecDepth 20000 in
theorem ggX0_pieceAt_X0_withOne : GoodIn wsX0_pieceAt wsX0_withOne := goodIn_r _ [14, 15] (by decide +kernel) (by decide +kernel)
set_option maxRecDepth 20000 in
theorem gX0_pieceAt_X0_withOne : GoodIn wsX0_pieceAt (va_wsS RX0 79 yX0_withOne wsX0_withOne) := goodIn_app (goodIn_of _ (by decide +kernel)) ggX0_pieceAt_X0_withOne
theorem dX0_pieceAt_0 : decode cX0_pieceAt 0 = .ok (.iload_n 1, 1) := by decide +kernel
theorem dX0_pieceAt_1 : decode cX0_pieceAt 1 = .ok (.invokestatic 42, 3) := by decide +kernel
theorem dX0_pieceAt_4 : decode cX0_pieceAt 4 = .ok (.ifCond .ne 13, 3) := by decide +kernel
theorem dX0_pieceAt_7 : decode cX0_pieceAt 7 = .ok (.new 46, 3) := by decide +kernel
theorem dX0_pieceAt_10 : decode cX0_pieceAt 10 = .ok (.dup, 1) := by decide +kernel
theorem dX0_pieceAt_11 : decode cX0_pieceAt 11 = .ok (.ldc 64, 2) := by decide +kernel
theorem dX0_pieceAt_13 : decode cX0_pieceAt 13 = .ok (.invokespecial 50, 3) := by decide +kernel
theorem dX0_pieceAt_16 : decode cX0_pieceAt 16 = .ok (.athrow, 1) := by decide +kernel
theorem dX0_pieceAt_17 : decode cX0_pieceAt 17 = .ok (.aload_n 0, 1) := by decide +kernel
theorem dX0_pieceAt_18 : decode cX0_pieceAt 18 = .ok (.getfield 16, 3) := by decide +kernel
theorem dX0_pieceAt_21 : decode cX0_pieceAt 21 = .ok (.iload_n 1, 1) := by decide +kernel
theorem dX0_pieceAt_22 : decode cX0_pieceAt 22 = .ok (.invokestatic 58, 3) := by decide +kernel
theorem dX0_pieceAt_25 : decode cX0_pieceAt 25 = .ok (.ifCond .ne 5, 3) := by decide +kernel
theorem dX0_pieceAt_28 : decode cX0_pieceAt 28 = .ok (.iconst (-1), 1) := by decide +kernel
theorem dX0_pieceAt_29 : decode cX0_pieceAt 29 = .ok (.ireturn, 1) := by decide +kernel
theorem dX0_pieceAt_30 : decode cX0_pieceAt 30 = .ok (.iconst 0, 1) := by decide +kernel
theorem dX0_pieceAt_31 : decode cX0_pieceAt 31 = .ok (.istore_n 2, 1) := by decide +kernel
theorem dX0_pieceAt_32 : decode cX0_pieceAt 32 = .ok (.iconst 0, 1) := by decide +kernel
theorem dX0_pieceAt_33 : decode cX0_pieceAt 33 = .ok (.istore_n 3, 1) := by decide +kernel
theorem dX0_pieceAt_34 : decode cX0_pieceAt 34 = .ok (.iload_n 3, 1) := by decide +kernel
theorem dX0_pieceAt_35 : decode cX0_pieceAt 35 = .ok (.iconst 4, 1) := by decide +kernel
theorem dX0_pieceAt_36 : decode cX0_pieceAt 36 = .ok (.if_icmp .ge 30, 3) := by decide +kernel
theorem dX0_pieceAt_39 : decode cX0_pieceAt 39 = .ok (.aload_n 0, 1) := by decide +kernel
theorem dX0_pieceAt_40 : decode cX0_pieceAt 40 = .ok (.getfield 38, 3) := by decide +kernel
theorem dX0_pieceAt_43 : decode cX0_pieceAt 43 = .ok (.iload_n 3, 1) := by decide +kernel
theorem dX0_pieceAt_44 : decode cX0_pieceAt 44 = .ok (.invokestatic 79, 3) := by decide +kernel
theorem dX0_pieceAt_47 : decode cX0_pieceAt 47 = .ok (.iload_n 1, 1) := by decide +kernel
theorem dX0_pieceAt_48 : decode cX0_pieceAt 48 = .ok (.invokestatic 58, 3) := by decide +kernel
theorem dX0_pieceAt_51 : decode cX0_pieceAt 51 = .ok (.ifCond .eq 9, 3) := by decide +kernel
theorem dX0_pieceAt_54 : decode cX0_pieceAt 54 = .ok (.iload_n 2, 1) := by decide +kernel
theorem dX0_pieceAt_55 : decode cX0_pieceAt 55 = .ok (.iconst 1, 1) := by decide +kernel
theorem dX0_pieceAt_56 : decode cX0_pieceAt 56 = .ok (.iload_n 3, 1) := by decide +kernel
theorem dX0_pieceAt_57 : decode cX0_pieceAt 57 = .ok (.ishl, 1) := by decide +kernel
theorem dX0_pieceAt_58 : decode cX0_pieceAt 58 = .ok (.ior, 1) := by decide +kernel
theorem dX0_pieceAt_59 : decode cX0_pieceAt 59 = .ok (.istore_n 2, 1) := by decide +kernel
theorem dX0_pieceAt_60 : decode cX0_pieceAt 60 = .ok (.iinc 3 1, 3) := by decide +kernel
theorem dX0_pieceAt_63 : decode cX0_pieceAt 63 = .ok (.goto (-29), 3) := by decide +kernel
theorem dX0_pieceAt_66 : decode cX0_pieceAt 66 = .ok (.iload_n 2, 1) := by decide +kernel
theorem dX0_pieceAt_67 : decode cX0_pieceAt 67 = .ok (.ireturn, 1) := by decide +kernel
set_option maxRecDepth 20000 in
theorem ggX0_placed_J6_bitCount_0f7a4 : GoodIn wsX0_placed wsJ6_bitCount_0f7a4 := goodIn_r _ [5, 6, 7, 8] (by decide +kernel) (by decide +kernel)
set_option maxRecDepth 20000 in
theorem gX0_placed_J6_bitCount_0f7a4 : GoodIn wsX0_placed (va_wsS RX0 19 yJ6_bitCount_0f7a4 wsJ6_bitCount_0f7a4) := goodIn_app (goodIn_of _ (by decide +kernel)) ggX0_placed_J6_bitCount_0f7a4
theorem dX0_placed_0 : decode cX0_placed 0 = .ok (.aload_n 0, 1) := by decide +kernel
theorem dX0_placed_1 : decode cX0_placed 1 = .ok (.getfield 16, 3) := by decide +kernel
theorem dX0_placed_4 : decode cX0_placed 4 = .ok (.invokestatic 19, 3) := by decide +kernel
theorem dX0_placed_7 : decode cX0_placed 7 = .ok (.ireturn, 1) := by decide +kernel
theorem dX0_winner_0 : decode cX0_winner 0 = .ok (.aload_n 0, 1) := by decide +kernel
theorem dX0_winner_1 : decode cX0_winner 1 = .ok (.getfield 13, 3) := by decide +kernel
theorem dX0_winner_4 : decode cX0_winner 4 = .ok (.ireturn, 1) := by decide +kernel
theorem dX0_lines_0 : decode cX0_lines 0 = .ok (.aload_n 0, 1) := by decide +kernel
theorem dX0_lines_1 : decode cX0_lines 1 = .ok (.getfield 25, 3) := by decide +kernel
theorem dX0_lines_4 : decode cX0_lines 4 = .ok (.ifCond .eq 10, 3) := by decide +kernel
theorem dX0_lines_7 : decode cX0_lines 7 = .ok (.getstatic 83, 3) := by decide +kernel
theorem dX0_lines_10 : decode cX0_lines 10 = .ok (.arraylength, 1) := by decide +kernel
theorem dX0_lines_11 : decode cX0_lines 11 = .ok (.goto 5, 3) := by decide +kernel
theorem dX0_lines_14 : decode cX0_lines 14 = .ok (.bipush 10, 2) := by decide +kernel
theorem dX0_lines_16 : decode cX0_lines 16 = .ok (.ireturn, 1) := by decide +kernel
set_option maxRecDepth 20000 in
theorem ggX0_onLine_X0_lines : GoodIn wsX0_onLine wsX0_lines := goodIn_r _ [9, 10, 3, 18, 19, 20, 21, 22, 23, 24, 25, 26, 27, 28] (by decide +kernel) (by decide +kernel)
set_option maxRecDepth 20000 in
theorem gX0_onLine_X0_lines : GoodIn wsX0_onLine (wsV RX0 87 RX0 yX0_lines wsX0_lines) := goodIn_app (goodIn_of _ (by decide +kernel)) ggX0_onLine_X0_lines
set_option maxRecDepth 20000 in
theorem ggX0_onLine_J6_bitCount_0f7a4 : GoodIn wsX0_onLine wsJ6_bitCount_0f7a4 := goodIn_r _ [14, 15, 16, 17] (by decide +kernel) (by decide +kernel)
set_option maxRecDepth 20000 in
theorem gX0_onLine_J6_bitCount_0f7a4 : GoodIn wsX0_onLine (va_wsS RX0 19 yJ6_bitCount_0f7a4 wsJ6_bitCount_0f7a4) := goodIn_app (goodIn_of _ (by decide +kernel)) ggX0_onLine_J6_bitCount_0f7a4
theorem dX0_onLine_0 : decode cX0_onLine 0 = .ok (.iload_n 1, 1) := by decide +kernel
theorem dX0_onLine_1 : decode cX0_onLine 1 = .ok (.ifCond .lt 11, 3) := by decide +kernel
theorem dX0_onLine_4 : decode cX0_onLine 4 = .ok (.iload_n 1, 1) := by decide +kernel
theorem dX0_onLine_5 : decode cX0_onLine 5 = .ok (.aload_n 0, 1) := by decide +kernel
theorem dX0_onLine_6 : decode cX0_onLine 6 = .ok (.invokevirtual 87, 3) := by decide +kernel
theorem dX0_onLine_9 : decode cX0_onLine 9 = .ok (.if_icmp .lt 13, 3) := by decide +kernel
theorem dX0_onLine_12 : decode cX0_onLine 12 = .ok (.new 46, 3) := by decide +kernel
theorem dX0_onLine_15 : decode cX0_onLine 15 = .ok (.dup, 1) := by decide +kernel
theorem dX0_onLine_16 : decode cX0_onLine 16 = .ok (.ldc 90, 2) := by decide +kernel
theorem dX0_onLine_18 : decode cX0_onLine 18 = .ok (.invokespecial 50, 3) := by decide +kernel
theorem dX0_onLine_21 : decode cX0_onLine 21 = .ok (.athrow, 1) := by decide +kernel
theorem dX0_onLine_22 : decode cX0_onLine 22 = .ok (.getstatic 83, 3) := by decide +kernel
theorem dX0_onLine_25 : decode cX0_onLine 25 = .ok (.iload_n 1, 1) := by decide +kernel
theorem dX0_onLine_26 : decode cX0_onLine 26 = .ok (.iaload, 1) := by decide +kernel
theorem dX0_onLine_27 : decode cX0_onLine 27 = .ok (.aload_n 0, 1) := by decide +kernel
theorem dX0_onLine_28 : decode cX0_onLine 28 = .ok (.getfield 16, 3) := by decide +kernel
theorem dX0_onLine_31 : decode cX0_onLine 31 = .ok (.iand, 1) := by decide +kernel
theorem dX0_onLine_32 : decode cX0_onLine 32 = .ok (.invokestatic 19, 3) := by decide +kernel
theorem dX0_onLine_35 : decode cX0_onLine 35 = .ok (.ireturn, 1) := by decide +kernel
set_option maxRecDepth 20000 in
theorem ggX0_shared_X0_lines : GoodIn wsX0_shared wsX0_lines := goodIn_r _ [8, 9, 3, 20, 21, 22, 23, 24, 25, 26, 27, 28, 29, 30] (by decide +kernel) (by decide +kernel)
set_option maxRecDepth 20000 in
theorem gX0_shared_X0_lines : GoodIn wsX0_shared (wsV RX0 87 RX0 yX0_lines wsX0_lines) := goodIn_app (goodIn_of _ (by decide +kernel)) ggX0_shared_X0_lines
set_option maxRecDepth 20000 in
theorem ggX0_shared_X0_inCommon : GoodIn wsX0_shared wsX0_inCommon := goodIn_r _ [13, 14, 15, 16, 17, 7, 18, 19, 20, 21, 22, 23, 24, 25, 26, 27, 28, 29, 30] (by decide +kernel) (by decide +kernel)
set_option maxRecDepth 20000 in
theorem gX0_shared_X0_inCommon : GoodIn wsX0_shared (wsV RX0 92 RX0 yX0_inCommon wsX0_inCommon) := goodIn_app (goodIn_of _ (by decide +kernel)) ggX0_shared_X0_inCommon
theorem dX0_shared_0 : decode cX0_shared 0 = .ok (.iload_n 1, 1) := by decide +kernel
theorem dX0_shared_1 : decode cX0_shared 1 = .ok (.ifCond .lt 11, 3) := by decide +kernel
theorem dX0_shared_4 : decode cX0_shared 4 = .ok (.iload_n 1, 1) := by decide +kernel
theorem dX0_shared_5 : decode cX0_shared 5 = .ok (.aload_n 0, 1) := by decide +kernel
theorem dX0_shared_6 : decode cX0_shared 6 = .ok (.invokevirtual 87, 3) := by decide +kernel
theorem dX0_shared_9 : decode cX0_shared 9 = .ok (.if_icmp .lt 13, 3) := by decide +kernel
theorem dX0_shared_12 : decode cX0_shared 12 = .ok (.new 46, 3) := by decide +kernel
theorem dX0_shared_15 : decode cX0_shared 15 = .ok (.dup, 1) := by decide +kernel
theorem dX0_shared_16 : decode cX0_shared 16 = .ok (.ldc 90, 2) := by decide +kernel
theorem dX0_shared_18 : decode cX0_shared 18 = .ok (.invokespecial 50, 3) := by decide +kernel
theorem dX0_shared_21 : decode cX0_shared 21 = .ok (.athrow, 1) := by decide +kernel
theorem dX0_shared_22 : decode cX0_shared 22 = .ok (.aload_n 0, 1) := by decide +kernel
theorem dX0_shared_23 : decode cX0_shared 23 = .ok (.getstatic 83, 3) := by decide +kernel
theorem dX0_shared_26 : decode cX0_shared 26 = .ok (.iload_n 1, 1) := by decide +kernel
theorem dX0_shared_27 : decode cX0_shared 27 = .ok (.iaload, 1) := by decide +kernel
theorem dX0_shared_28 : decode cX0_shared 28 = .ok (.invokevirtual 92, 3) := by decide +kernel
theorem dX0_shared_31 : decode cX0_shared 31 = .ok (.ireturn, 1) := by decide +kernel
set_option maxRecDepth 20000 in
theorem ggX0_winning_X0_isNumber : GoodIn wsX0_winning wsX0_isNumber := goodIn_r _ [10] (by decide +kernel) (by decide +kernel)
set_option maxRecDepth 20000 in
theorem gX0_winning_X0_isNumber : GoodIn wsX0_winning (va_wsS RX0 42 yX0_isNumber wsX0_isNumber) := goodIn_app (goodIn_of _ (by decide +kernel)) ggX0_winning_X0_isNumber
set_option maxRecDepth 20000 in
theorem ggX0_winning_X0_has : GoodIn wsX0_winning wsX0_has := goodIn_r _ [13] (by decide +kernel) (by decide +kernel)
set_option maxRecDepth 20000 in
theorem gX0_winning_X0_has : GoodIn wsX0_winning (va_wsS RX0 58 yX0_has wsX0_has) := goodIn_app (goodIn_of _ (by decide +kernel)) ggX0_winning_X0_has
set_option maxRecDepth 20000 in
theorem ggX0_winning_X0_winningSquares : GoodIn wsX0_winning wsX0_winningSquares := goodIn_r _ [17, 18, 19, 20, 21, 9, 22, 23, 24, 25, 26, 27, 28, 29, 30, 31, 32, 33, 34, 35, 36, 37, 38, 39, 40, 41, 42, 43, 44, 45, 46, 47, 48, 49, 50, 51] (by decide +kernel) (by decide +kernel)
set_option maxRecDepth 20000 in
theorem gX0_winning_X0_winningSquares : GoodIn wsX0_winning (wsV RX0 97 RX0 yX0_winningSquares wsX0_winningSquares) := goodIn_app (goodIn_of _ (by decide +kernel)) ggX0_winning_X0_winningSquares
theorem dX0_winning_0 : decode cX0_winning 0 = .ok (.iload_n 1, 1) := by decide +kernel
theorem dX0_winning_1 : decode cX0_winning 1 = .ok (.invokestatic 42, 3) := by decide +kernel
theorem dX0_winning_4 : decode cX0_winning 4 = .ok (.ifCond .ne 13, 3) := by decide +kernel
theorem dX0_winning_7 : decode cX0_winning 7 = .ok (.new 46, 3) := by decide +kernel
theorem dX0_winning_10 : decode cX0_winning 10 = .ok (.dup, 1) := by decide +kernel
theorem dX0_winning_11 : decode cX0_winning 11 = .ok (.ldc 48, 2) := by decide +kernel
theorem dX0_winning_13 : decode cX0_winning 13 = .ok (.invokespecial 50, 3) := by decide +kernel
theorem dX0_winning_16 : decode cX0_winning 16 = .ok (.athrow, 1) := by decide +kernel
theorem dX0_winning_17 : decode cX0_winning 17 = .ok (.aload_n 0, 1) := by decide +kernel
theorem dX0_winning_18 : decode cX0_winning 18 = .ok (.getfield 29, 3) := by decide +kernel
theorem dX0_winning_21 : decode cX0_winning 21 = .ok (.iconst 2, 1) := by decide +kernel
theorem dX0_winning_22 : decode cX0_winning 22 = .ok (.if_icmp .ne 13, 3) := by decide +kernel
theorem dX0_winning_25 : decode cX0_winning 25 = .ok (.new 53, 3) := by decide +kernel
theorem dX0_winning_28 : decode cX0_winning 28 = .ok (.dup, 1) := by decide +kernel
theorem dX0_winning_29 : decode cX0_winning 29 = .ok (.ldc 95, 2) := by decide +kernel
theorem dX0_winning_31 : decode cX0_winning 31 = .ok (.invokespecial 57, 3) := by decide +kernel
theorem dX0_winning_34 : decode cX0_winning 34 = .ok (.athrow, 1) := by decide +kernel
theorem dX0_winning_35 : decode cX0_winning 35 = .ok (.aload_n 0, 1) := by decide +kernel
theorem dX0_winning_36 : decode cX0_winning 36 = .ok (.getfield 35, 3) := by decide +kernel
theorem dX0_winning_39 : decode cX0_winning 39 = .ok (.iload_n 1, 1) := by decide +kernel
theorem dX0_winning_40 : decode cX0_winning 40 = .ok (.invokestatic 58, 3) := by decide +kernel
theorem dX0_winning_43 : decode cX0_winning 43 = .ok (.ifCond .eq 13, 3) := by decide +kernel
theorem dX0_winning_46 : decode cX0_winning 46 = .ok (.new 53, 3) := by decide +kernel
theorem dX0_winning_49 : decode cX0_winning 49 = .ok (.dup, 1) := by decide +kernel
theorem dX0_winning_50 : decode cX0_winning 50 = .ok (.ldc 62, 2) := by decide +kernel
theorem dX0_winning_52 : decode cX0_winning 52 = .ok (.invokespecial 57, 3) := by decide +kernel
theorem dX0_winning_55 : decode cX0_winning 55 = .ok (.athrow, 1) := by decide +kernel
theorem dX0_winning_56 : decode cX0_winning 56 = .ok (.aload_n 0, 1) := by decide +kernel
theorem dX0_winning_57 : decode cX0_winning 57 = .ok (.iload_n 1, 1) := by decide +kernel
theorem dX0_winning_58 : decode cX0_winning 58 = .ok (.invokevirtual 97, 3) := by decide +kernel
theorem dX0_winning_61 : decode cX0_winning 61 = .ok (.ireturn, 1) := by decide +kernel
set_option maxRecDepth 20000 in
theorem ggX0_safe_X0_safePieces : GoodIn wsX0_safe wsX0_safePieces := goodIn_r _ [8, 9, 10, 11, 12, 7, 13, 14, 15, 16, 17, 18, 19, 20, 21, 22, 23, 24, 25, 26, 27, 28, 29, 30, 31, 32, 33, 34, 35, 36, 37, 38, 39, 40, 41, 42, 43, 44, 45, 46, 47, 48, 49, 50] (by decide +kernel) (by decide +kernel)
set_option maxRecDepth 20000 in
theorem gX0_safe_X0_safePieces : GoodIn wsX0_safe (wsV RX0 100 RX0 yX0_safePieces wsX0_safePieces) := goodIn_app (goodIn_of _ (by decide +kernel)) ggX0_safe_X0_safePieces
theorem dX0_safe_0 : decode cX0_safe 0 = .ok (.aload_n 0, 1) := by decide +kernel
theorem dX0_safe_1 : decode cX0_safe 1 = .ok (.getfield 29, 3) := by decide +kernel
theorem dX0_safe_4 : decode cX0_safe 4 = .ok (.ifCond .eq 13, 3) := by decide +kernel
theorem dX0_safe_7 : decode cX0_safe 7 = .ok (.new 53, 3) := by decide +kernel
theorem dX0_safe_10 : decode cX0_safe 10 = .ok (.dup, 1) := by decide +kernel
theorem dX0_safe_11 : decode cX0_safe 11 = .ok (.ldc 55, 2) := by decide +kernel
theorem dX0_safe_13 : decode cX0_safe 13 = .ok (.invokespecial 57, 3) := by decide +kernel
theorem dX0_safe_16 : decode cX0_safe 16 = .ok (.athrow, 1) := by decide +kernel
theorem dX0_safe_17 : decode cX0_safe 17 = .ok (.aload_n 0, 1) := by decide +kernel
theorem dX0_safe_18 : decode cX0_safe 18 = .ok (.invokevirtual 100, 3) := by decide +kernel
theorem dX0_safe_21 : decode cX0_safe 21 = .ok (.ireturn, 1) := by decide +kernel
set_option maxRecDepth 20000 in
theorem ggX0_worth_X0_canLookAhead : GoodIn wsX0_worth wsX0_canLookAhead := goodIn_r _ [11, 12, 5, 13, 14, 15, 16, 17, 18, 19, 98, 99, 100, 101, 102, 103, 104, 105, 106, 107, 108] (by decide +kernel) (by decide +kernel)
set_option maxRecDepth 20000 in
theorem gX0_worth_X0_canLookAhead : GoodIn wsX0_worth (wsV RX0 108 RX0 yX0_canLookAhead wsX0_canLookAhead) := goodIn_app (goodIn_of _ (by decide +kernel)) ggX0_worth_X0_canLookAhead
set_option maxRecDepth 20000 in
theorem ggX0_worth_X0_worthToGive : GoodIn wsX0_worth wsX0_worthToGive := goodIn_r _ [23, 24, 25, 26, 10, 27, 28, 29, 30, 31, 32, 33, 34, 35, 36, 37, 38, 39, 40, 41, 42, 43, 44, 45, 46, 12, 47, 48, 49, 50, 51, 52, 53, 54, 55, 56, 57, 58, 59, 60, 61, 62, 63, 64, 65, 66, 67, 68, 69, 70, 71, 72, 73, 74, 75, 76, 77, 78, 79, 80, 81, 82, 83, 84, 85, 86, 87, 88, 89, 98, 99, 100, 101, 102, 103, 104, 105, 106, 107, 108] (by decide +kernel) (by decide +kernel)
set_option maxRecDepth 20000 in
theorem gX0_worth_X0_worthToGive : GoodIn wsX0_worth (wsV RX0 113 RX0 yX0_worthToGive wsX0_worthToGive) := goodIn_app (goodIn_of _ (by decide +kernel)) ggX0_worth_X0_worthToGive
set_option maxRecDepth 20000 in
theorem ggX0_worth_X0_worthToPlace : GoodIn wsX0_worth wsX0_worthToPlace := goodIn_r _ [93, 94, 95, 96, 10, 97, 37, 12, 59, 60, 61, 38, 39, 40, 41, 42, 43, 44, 45, 46, 47, 48, 49, 50, 51, 52, 53, 54, 55, 66, 67, 68, 89, 56, 57, 58, 70, 71, 72, 73, 32, 74, 75, 76, 77, 78, 79, 24, 25, 26, 83, 84, 85, 86, 87, 88, 65, 28, 29, 30, 31, 33, 34, 35, 36, 27, 62, 63, 64, 69, 80, 81, 82, 98, 99, 100, 101, 102, 103, 104, 105, 106, 107, 108] (by decide +kernel) (by decide +kernel)
set_option maxRecDepth 20000 in
theorem gX0_worth_X0_worthToPlace : GoodIn wsX0_worth (wsV RX0 116 RX0 yX0_worthToPlace wsX0_worthToPlace) := goodIn_app (goodIn_of _ (by decide +kernel)) ggX0_worth_X0_worthToPlace
theorem dX0_worth_0 : decode cX0_worth 0 = .ok (.iload_n 1, 1) := by decide +kernel
theorem dX0_worth_1 : decode cX0_worth 1 = .ok (.iconst 1, 1) := by decide +kernel
theorem dX0_worth_2 : decode cX0_worth 2 = .ok (.if_icmp .lt 8, 3) := by decide +kernel
theorem dX0_worth_5 : decode cX0_worth 5 = .ok (.iload_n 1, 1) := by decide +kernel
theorem dX0_worth_6 : decode cX0_worth 6 = .ok (.iconst 4, 1) := by decide +kernel
theorem dX0_worth_7 : decode cX0_worth 7 = .ok (.if_icmp .le 13, 3) := by decide +kernel
theorem dX0_worth_10 : decode cX0_worth 10 = .ok (.new 103, 3) := by decide +kernel
theorem dX0_worth_13 : decode cX0_worth 13 = .ok (.dup, 1) := by decide +kernel
theorem dX0_worth_14 : decode cX0_worth 14 = .ok (.ldc 105, 2) := by decide +kernel
theorem dX0_worth_16 : decode cX0_worth 16 = .ok (.invokespecial 107, 3) := by decide +kernel
theorem dX0_worth_19 : decode cX0_worth 19 = .ok (.athrow, 1) := by decide +kernel
theorem dX0_worth_20 : decode cX0_worth 20 = .ok (.aload_n 0, 1) := by decide +kernel
theorem dX0_worth_21 : decode cX0_worth 21 = .ok (.iload_n 1, 1) := by decide +kernel
theorem dX0_worth_22 : decode cX0_worth 22 = .ok (.invokevirtual 108, 3) := by decide +kernel
theorem dX0_worth_25 : decode cX0_worth 25 = .ok (.ifCond .ne 13, 3) := by decide +kernel
theorem dX0_worth_28 : decode cX0_worth 28 = .ok (.new 53, 3) := by decide +kernel
theorem dX0_worth_31 : decode cX0_worth 31 = .ok (.dup, 1) := by decide +kernel
theorem dX0_worth_32 : decode cX0_worth 32 = .ok (.ldc 111, 2) := by decide +kernel
theorem dX0_worth_34 : decode cX0_worth 34 = .ok (.invokespecial 57, 3) := by decide +kernel
theorem dX0_worth_37 : decode cX0_worth 37 = .ok (.athrow, 1) := by decide +kernel
theorem dX0_worth_38 : decode cX0_worth 38 = .ok (.aload_n 0, 1) := by decide +kernel
theorem dX0_worth_39 : decode cX0_worth 39 = .ok (.getfield 29, 3) := by decide +kernel
theorem dX0_worth_42 : decode cX0_worth 42 = .ok (.ifCond .ne 11, 3) := by decide +kernel
theorem dX0_worth_45 : decode cX0_worth 45 = .ok (.aload_n 0, 1) := by decide +kernel
theorem dX0_worth_46 : decode cX0_worth 46 = .ok (.iload_n 1, 1) := by decide +kernel
theorem dX0_worth_47 : decode cX0_worth 47 = .ok (.invokevirtual 113, 3) := by decide +kernel
theorem dX0_worth_50 : decode cX0_worth 50 = .ok (.goto 12, 3) := by decide +kernel
theorem dX0_worth_53 : decode cX0_worth 53 = .ok (.aload_n 0, 1) := by decide +kernel
theorem dX0_worth_54 : decode cX0_worth 54 = .ok (.aload_n 0, 1) := by decide +kernel
theorem dX0_worth_55 : decode cX0_worth 55 = .ok (.getfield 9, 3) := by decide +kernel
theorem dX0_worth_58 : decode cX0_worth 58 = .ok (.iload_n 1, 1) := by decide +kernel
theorem dX0_worth_59 : decode cX0_worth 59 = .ok (.invokevirtual 116, 3) := by decide +kernel
theorem dX0_worth_62 : decode cX0_worth 62 = .ok (.ireturn, 1) := by decide +kernel
set_option maxRecDepth 20000 in
theorem ggX0_best_X0_canLookAhead : GoodIn wsX0_best wsX0_canLookAhead := goodIn_r _ [10, 11, 5, 12, 13, 14, 15, 16, 17, 18, 110, 111, 112, 113, 114, 115, 116, 117, 118, 119, 120] (by decide +kernel) (by decide +kernel)
set_option maxRecDepth 20000 in
theorem gX0_best_X0_canLookAhead : GoodIn wsX0_best (wsV RX0 108 RX0 yX0_canLookAhead wsX0_canLookAhead) := goodIn_app (goodIn_of _ (by decide +kernel)) ggX0_best_X0_canLookAhead
set_option maxRecDepth 20000 in
theorem ggX0_best_X0_bestPiece : GoodIn wsX0_best wsX0_bestPiece := goodIn_r _ [22, 23, 24, 25, 26, 9, 27, 28, 29, 30, 31, 32, 33, 34, 35, 36, 37, 38, 39, 40, 41, 42, 43, 44, 45, 46, 47, 48, 49, 11, 50, 51, 52, 53, 54, 55, 56, 57, 58, 59, 60, 61, 62, 63, 64, 65, 66, 67, 68, 69, 70, 71, 72, 73, 74, 75, 76, 77, 78, 79, 80, 81, 82, 83, 84, 85, 86, 87, 88, 89, 90, 91, 92, 93, 94, 95, 96, 97, 98, 99, 100, 110, 111, 112, 113, 114, 115, 116, 117, 118, 119, 120] (by decide +kernel) (by decide +kernel)
set_option maxRecDepth 20000 in
theorem gX0_best_X0_bestPiece : GoodIn wsX0_best (wsV RX0 120 RX0 yX0_bestPiece wsX0_bestPiece) := goodIn_app (goodIn_of _ (by decide +kernel)) ggX0_best_X0_bestPiece
set_option maxRecDepth 20000 in
theorem ggX0_best_X0_bestSquare : GoodIn wsX0_best wsX0_bestSquare := goodIn_r _ [104, 105, 11, 93, 94, 95, 9, 96, 97, 98, 99, 100, 40, 62, 63, 64, 41, 42, 43, 44, 45, 46, 47, 48, 49, 50, 51, 52, 53, 54, 55, 56, 57, 58, 69, 70, 71, 92, 59, 60, 61, 73, 74, 75, 76, 23, 77, 78, 79, 80, 81, 82, 28, 29, 30, 86, 87, 88, 89, 90, 91, 68, 32, 33, 34, 35, 36, 37, 38, 39, 31, 65, 66, 67, 72, 83, 84, 85, 106, 107, 108, 109, 24, 25, 26, 27, 110, 111, 112, 113, 114, 115, 116, 117, 118, 119, 120] (by decide +kernel) (by decide +kernel)
set_option maxRecDepth 20000 in
theorem gX0_best_X0_bestSquare : GoodIn wsX0_best (wsV RX0 123 RX0 yX0_bestSquare wsX0_bestSquare) := goodIn_app (goodIn_of _ (by decide +kernel)) ggX0_best_X0_bestSquare
theorem dX0_best_0 : decode cX0_best 0 = .ok (.iload_n 1, 1) := by decide +kernel
theorem dX0_best_1 : decode cX0_best 1 = .ok (.iconst 1, 1) := by decide +kernel
theorem dX0_best_2 : decode cX0_best 2 = .ok (.if_icmp .lt 8, 3) := by decide +kernel
theorem dX0_best_5 : decode cX0_best 5 = .ok (.iload_n 1, 1) := by decide +kernel
theorem dX0_best_6 : decode cX0_best 6 = .ok (.iconst 4, 1) := by decide +kernel
theorem dX0_best_7 : decode cX0_best 7 = .ok (.if_icmp .le 13, 3) := by decide +kernel
theorem dX0_best_10 : decode cX0_best 10 = .ok (.new 103, 3) := by decide +kernel
theorem dX0_best_13 : decode cX0_best 13 = .ok (.dup, 1) := by decide +kernel
theorem dX0_best_14 : decode cX0_best 14 = .ok (.ldc 105, 2) := by decide +kernel
theorem dX0_best_16 : decode cX0_best 16 = .ok (.invokespecial 107, 3) := by decide +kernel
theorem dX0_best_19 : decode cX0_best 19 = .ok (.athrow, 1) := by decide +kernel
theorem dX0_best_20 : decode cX0_best 20 = .ok (.aload_n 0, 1) := by decide +kernel
theorem dX0_best_21 : decode cX0_best 21 = .ok (.iload_n 1, 1) := by decide +kernel
theorem dX0_best_22 : decode cX0_best 22 = .ok (.invokevirtual 108, 3) := by decide +kernel
theorem dX0_best_25 : decode cX0_best 25 = .ok (.ifCond .ne 13, 3) := by decide +kernel
theorem dX0_best_28 : decode cX0_best 28 = .ok (.new 53, 3) := by decide +kernel
theorem dX0_best_31 : decode cX0_best 31 = .ok (.dup, 1) := by decide +kernel
theorem dX0_best_32 : decode cX0_best 32 = .ok (.ldc 111, 2) := by decide +kernel
theorem dX0_best_34 : decode cX0_best 34 = .ok (.invokespecial 57, 3) := by decide +kernel
theorem dX0_best_37 : decode cX0_best 37 = .ok (.athrow, 1) := by decide +kernel
theorem dX0_best_38 : decode cX0_best 38 = .ok (.aload_n 0, 1) := by decide +kernel
theorem dX0_best_39 : decode cX0_best 39 = .ok (.getfield 29, 3) := by decide +kernel
theorem dX0_best_42 : decode cX0_best 42 = .ok (.ifCond .ne 11, 3) := by decide +kernel
theorem dX0_best_45 : decode cX0_best 45 = .ok (.aload_n 0, 1) := by decide +kernel
theorem dX0_best_46 : decode cX0_best 46 = .ok (.iload_n 1, 1) := by decide +kernel
theorem dX0_best_47 : decode cX0_best 47 = .ok (.invokevirtual 120, 3) := by decide +kernel
theorem dX0_best_50 : decode cX0_best 50 = .ok (.goto 8, 3) := by decide +kernel
theorem dX0_best_53 : decode cX0_best 53 = .ok (.aload_n 0, 1) := by decide +kernel
theorem dX0_best_54 : decode cX0_best 54 = .ok (.iload_n 1, 1) := by decide +kernel
theorem dX0_best_55 : decode cX0_best 55 = .ok (.invokevirtual 123, 3) := by decide +kernel
theorem dX0_best_58 : decode cX0_best 58 = .ok (.ireturn, 1) := by decide +kernel
set_option maxRecDepth 20000 in
theorem ggX0_keep_J6_bitCount_0f7a4 : GoodIn wsX0_keep wsJ6_bitCount_0f7a4 := goodIn_r _ [9, 10, 11, 12] (by decide +kernel) (by decide +kernel)
set_option maxRecDepth 20000 in
theorem gX0_keep_J6_bitCount_0f7a4 : GoodIn wsX0_keep (va_wsS RX0 19 yJ6_bitCount_0f7a4 wsJ6_bitCount_0f7a4) := goodIn_app (goodIn_of _ (by decide +kernel)) ggX0_keep_J6_bitCount_0f7a4
theorem dX0_keep_0 : decode cX0_keep 0 = .ok (.aload_n 0, 1) := by decide +kernel
theorem dX0_keep_1 : decode cX0_keep 1 = .ok (.iconst 1, 1) := by decide +kernel
theorem dX0_keep_2 : decode cX0_keep 2 = .ok (.putfield 126, 3) := by decide +kernel
theorem dX0_keep_5 : decode cX0_keep 5 = .ok (.aload_n 0, 1) := by decide +kernel
theorem dX0_keep_6 : decode cX0_keep 6 = .ok (.aload_n 0, 1) := by decide +kernel
theorem dX0_keep_7 : decode cX0_keep 7 = .ok (.getfield 16, 3) := by decide +kernel
theorem dX0_keep_10 : decode cX0_keep 10 = .ok (.putfield 129, 3) := by decide +kernel
theorem dX0_keep_13 : decode cX0_keep 13 = .ok (.aload_n 0, 1) := by decide +kernel
theorem dX0_keep_14 : decode cX0_keep 14 = .ok (.aload_n 0, 1) := by decide +kernel
theorem dX0_keep_15 : decode cX0_keep 15 = .ok (.getfield 38, 3) := by decide +kernel
theorem dX0_keep_18 : decode cX0_keep 18 = .ok (.putfield 132, 3) := by decide +kernel
theorem dX0_keep_21 : decode cX0_keep 21 = .ok (.aload_n 0, 1) := by decide +kernel
theorem dX0_keep_22 : decode cX0_keep 22 = .ok (.getfield 16, 3) := by decide +kernel
theorem dX0_keep_25 : decode cX0_keep 25 = .ok (.invokestatic 19, 3) := by decide +kernel
theorem dX0_keep_28 : decode cX0_keep 28 = .ok (.ireturn, 1) := by decide +kernel
set_option maxRecDepth 20000 in
theorem ggX0_isAlike_X0_waysOfMarks : GoodIn wsX0_isAlike wsX0_waysOfMarks := goodIn_r _ [10, 11, 12, 13, 14, 9, 15, 16, 17, 18, 19, 20, 21, 22, 23, 24, 25, 26, 27, 28, 29, 30, 31, 32, 33, 34, 35, 36, 37, 38, 39, 40] (by decide +kernel) (by decide +kernel)
set_option maxRecDepth 20000 in
theorem gX0_isAlike_X0_waysOfMarks : GoodIn wsX0_isAlike (wsV RX0 137 RX0 yX0_waysOfMarks wsX0_waysOfMarks) := goodIn_app (goodIn_of _ (by decide +kernel)) ggX0_isAlike_X0_waysOfMarks
theorem dX0_isAlike_0 : decode cX0_isAlike 0 = .ok (.aload_n 0, 1) := by decide +kernel
theorem dX0_isAlike_1 : decode cX0_isAlike 1 = .ok (.getfield 126, 3) := by decide +kernel
theorem dX0_isAlike_4 : decode cX0_isAlike 4 = .ok (.ifCond .ne 13, 3) := by decide +kernel
theorem dX0_isAlike_7 : decode cX0_isAlike 7 = .ok (.new 53, 3) := by decide +kernel
theorem dX0_isAlike_10 : decode cX0_isAlike 10 = .ok (.dup, 1) := by decide +kernel
theorem dX0_isAlike_11 : decode cX0_isAlike 11 = .ok (.ldc 135, 2) := by decide +kernel
theorem dX0_isAlike_13 : decode cX0_isAlike 13 = .ok (.invokespecial 57, 3) := by decide +kernel
theorem dX0_isAlike_16 : decode cX0_isAlike 16 = .ok (.athrow, 1) := by decide +kernel
theorem dX0_isAlike_17 : decode cX0_isAlike 17 = .ok (.iconst 0, 1) := by decide +kernel
theorem dX0_isAlike_18 : decode cX0_isAlike 18 = .ok (.istore_n 1, 1) := by decide +kernel
theorem dX0_isAlike_19 : decode cX0_isAlike 19 = .ok (.iload_n 1, 1) := by decide +kernel
theorem dX0_isAlike_20 : decode cX0_isAlike 20 = .ok (.bipush 8, 2) := by decide +kernel
theorem dX0_isAlike_22 : decode cX0_isAlike 22 = .ok (.if_icmp .ge 27, 3) := by decide +kernel
theorem dX0_isAlike_25 : decode cX0_isAlike 25 = .ok (.aload_n 0, 1) := by decide +kernel
theorem dX0_isAlike_26 : decode cX0_isAlike 26 = .ok (.iload_n 1, 1) := by decide +kernel
theorem dX0_isAlike_27 : decode cX0_isAlike 27 = .ok (.aload_n 0, 1) := by decide +kernel
theorem dX0_isAlike_28 : decode cX0_isAlike 28 = .ok (.getfield 129, 3) := by decide +kernel
theorem dX0_isAlike_31 : decode cX0_isAlike 31 = .ok (.aload_n 0, 1) := by decide +kernel
theorem dX0_isAlike_32 : decode cX0_isAlike 32 = .ok (.getfield 132, 3) := by decide +kernel
theorem dX0_isAlike_35 : decode cX0_isAlike 35 = .ok (.invokevirtual 137, 3) := by decide +kernel
theorem dX0_isAlike_38 : decode cX0_isAlike 38 = .ok (.ifCond .le 5, 3) := by decide +kernel
theorem dX0_isAlike_41 : decode cX0_isAlike 41 = .ok (.iconst 1, 1) := by decide +kernel
theorem dX0_isAlike_42 : decode cX0_isAlike 42 = .ok (.ireturn, 1) := by decide +kernel
theorem dX0_isAlike_43 : decode cX0_isAlike 43 = .ok (.iinc 1 1, 3) := by decide +kernel
theorem dX0_isAlike_46 : decode cX0_isAlike 46 = .ok (.goto (-27), 3) := by decide +kernel
theorem dX0_isAlike_49 : decode cX0_isAlike 49 = .ok (.iconst 0, 1) := by decide +kernel
theorem dX0_isAlike_50 : decode cX0_isAlike 50 = .ok (.ireturn, 1) := by decide +kernel
set_option maxRecDepth 20000 in
theorem ggX0_symmetries_X0_waysOfMarks : GoodIn wsX0_symmetries wsX0_waysOfMarks := goodIn_r _ [7, 1, 2, 8, 9, 6, 10, 11, 12, 13, 14, 15, 16, 17, 18, 19, 20, 21, 22, 23, 24, 25, 26, 27, 28, 29, 30, 31, 32, 33, 34, 35] (by decide +kernel) (by decide +kernel)
set_option maxRecDepth 20000 in
theorem gX0_symmetries_X0_waysOfMarks : GoodIn wsX0_symmetries (wsV RX0 137 RX0 yX0_waysOfMarks wsX0_waysOfMarks) := goodIn_app (goodIn_of _ (by decide +kernel)) ggX0_symmetries_X0_waysOfMarks
theorem dX0_symmetries_0 : decode cX0_symmetries 0 = .ok (.iconst 0, 1) := by decide +kernel
theorem dX0_symmetries_1 : decode cX0_symmetries 1 = .ok (.istore_n 1, 1) := by decide +kernel
theorem dX0_symmetries_2 : decode cX0_symmetries 2 = .ok (.iconst 0, 1) := by decide +kernel
theorem dX0_symmetries_3 : decode cX0_symmetries 3 = .ok (.istore_n 2, 1) := by decide +kernel
theorem dX0_symmetries_4 : decode cX0_symmetries 4 = .ok (.iload_n 2, 1) := by decide +kernel
theorem dX0_symmetries_5 : decode cX0_symmetries 5 = .ok (.bipush 8, 2) := by decide +kernel
theorem dX0_symmetries_7 : decode cX0_symmetries 7 = .ok (.if_icmp .ge 25, 3) := by decide +kernel
theorem dX0_symmetries_10 : decode cX0_symmetries 10 = .ok (.iload_n 1, 1) := by decide +kernel
theorem dX0_symmetries_11 : decode cX0_symmetries 11 = .ok (.aload_n 0, 1) := by decide +kernel
theorem dX0_symmetries_12 : decode cX0_symmetries 12 = .ok (.iload_n 2, 1) := by decide +kernel
theorem dX0_symmetries_13 : decode cX0_symmetries 13 = .ok (.aload_n 0, 1) := by decide +kernel
theorem dX0_symmetries_14 : decode cX0_symmetries 14 = .ok (.getfield 16, 3) := by decide +kernel
theorem dX0_symmetries_17 : decode cX0_symmetries 17 = .ok (.aload_n 0, 1) := by decide +kernel
theorem dX0_symmetries_18 : decode cX0_symmetries 18 = .ok (.getfield 38, 3) := by decide +kernel
theorem dX0_symmetries_21 : decode cX0_symmetries 21 = .ok (.invokevirtual 137, 3) := by decide +kernel
theorem dX0_symmetries_24 : decode cX0_symmetries 24 = .ok (.iadd, 1) := by decide +kernel
theorem dX0_symmetries_25 : decode cX0_symmetries 25 = .ok (.istore_n 1, 1) := by decide +kernel
theorem dX0_symmetries_26 : decode cX0_symmetries 26 = .ok (.iinc 2 1, 3) := by decide +kernel
theorem dX0_symmetries_29 : decode cX0_symmetries 29 = .ok (.goto (-25), 3) := by decide +kernel
theorem dX0_symmetries_32 : decode cX0_symmetries 32 = .ok (.iload_n 1, 1) := by decide +kernel
theorem dX0_symmetries_33 : decode cX0_symmetries 33 = .ok (.ireturn, 1) := by decide +kernel
theorem dX0_isNumber_0 : decode cX0_isNumber 0 = .ok (.iload_n 0, 1) := by decide +kernel
theorem dX0_isNumber_1 : decode cX0_isNumber 1 = .ok (.ifCond .lt 13, 3) := by decide +kernel
theorem dX0_isNumber_4 : decode cX0_isNumber 4 = .ok (.iload_n 0, 1) := by decide +kernel
theorem dX0_isNumber_5 : decode cX0_isNumber 5 = .ok (.bipush 16, 2) := by decide +kernel
theorem dX0_isNumber_7 : decode cX0_isNumber 7 = .ok (.if_icmp .ge 7, 3) := by decide +kernel
theorem dX0_isNumber_10 : decode cX0_isNumber 10 = .ok (.iconst 1, 1) := by decide +kernel
theorem dX0_isNumber_11 : decode cX0_isNumber 11 = .ok (.goto 4, 3) := by decide +kernel
theorem dX0_isNumber_14 : decode cX0_isNumber 14 = .ok (.iconst 0, 1) := by decide +kernel
theorem dX0_isNumber_15 : decode cX0_isNumber 15 = .ok (.ireturn, 1) := by decide +kernel
theorem dX0_has_0 : decode cX0_has 0 = .ok (.iload_n 0, 1) := by decide +kernel
theorem dX0_has_1 : decode cX0_has 1 = .ok (.iconst 1, 1) := by decide +kernel
theorem dX0_has_2 : decode cX0_has 2 = .ok (.iload_n 1, 1) := by decide +kernel
theorem dX0_has_3 : decode cX0_has 3 = .ok (.ishl, 1) := by decide +kernel
theorem dX0_has_4 : decode cX0_has 4 = .ok (.iand, 1) := by decide +kernel
theorem dX0_has_5 : decode cX0_has 5 = .ok (.ifCond .eq 7, 3) := by decide +kernel
theorem dX0_has_8 : decode cX0_has 8 = .ok (.iconst 1, 1) := by decide +kernel
theorem dX0_has_9 : decode cX0_has 9 = .ok (.goto 4, 3) := by decide +kernel
theorem dX0_has_12 : decode cX0_has 12 = .ok (.iconst 0, 1) := by decide +kernel
theorem dX0_has_13 : decode cX0_has 13 = .ok (.ireturn, 1) := by decide +kernel
theorem dX0_withOne_0 : decode cX0_withOne 0 = .ok (.lload_n 0, 1) := by decide +kernel
theorem dX0_withOne_1 : decode cX0_withOne 1 = .ok (.bipush 16, 2) := by decide +kernel
theorem dX0_withOne_3 : decode cX0_withOne 3 = .ok (.iload_n 2, 1) := by decide +kernel
theorem dX0_withOne_4 : decode cX0_withOne 4 = .ok (.imul, 1) := by decide +kernel
theorem dX0_withOne_5 : decode cX0_withOne 5 = .ok (.lushr, 1) := by decide +kernel
theorem dX0_withOne_6 : decode cX0_withOne 6 = .ok (.l2i, 1) := by decide +kernel
theorem dX0_withOne_7 : decode cX0_withOne 7 = .ok (.ldc 78, 2) := by decide +kernel
theorem dX0_withOne_9 : decode cX0_withOne 9 = .ok (.iand, 1) := by decide +kernel
theorem dX0_withOne_10 : decode cX0_withOne 10 = .ok (.ireturn, 1) := by decide +kernel
theorem dX0_ownDigits_0 : decode cX0_ownDigits 0 = .ok (.iload_n 0, 1) := by decide +kernel
theorem dX0_ownDigits_1 : decode cX0_ownDigits 1 = .ok (.iload_n 0, 1) := by decide +kernel
theorem dX0_ownDigits_2 : decode cX0_ownDigits 2 = .ok (.iconst (-1), 1) := by decide +kernel
theorem dX0_ownDigits_3 : decode cX0_ownDigits 3 = .ok (.ixor, 1) := by decide +kernel
theorem dX0_ownDigits_4 : decode cX0_ownDigits 4 = .ok (.bipush 15, 2) := by decide +kernel
theorem dX0_ownDigits_6 : decode cX0_ownDigits 6 = .ok (.iand, 1) := by decide +kernel
theorem dX0_ownDigits_7 : decode cX0_ownDigits 7 = .ok (.iconst 4, 1) := by decide +kernel
theorem dX0_ownDigits_8 : decode cX0_ownDigits 8 = .ok (.ishl, 1) := by decide +kernel
theorem dX0_ownDigits_9 : decode cX0_ownDigits 9 = .ok (.ior, 1) := by decide +kernel
theorem dX0_ownDigits_10 : decode cX0_ownDigits 10 = .ok (.ireturn, 1) := by decide +kernel
theorem dX0_atFirstSquare_0 : decode cX0_atFirstSquare 0 = .ok (.iload_n 0, 1) := by decide +kernel
theorem dX0_atFirstSquare_1 : decode cX0_atFirstSquare 1 = .ok (.i2l, 1) := by decide +kernel
theorem dX0_atFirstSquare_2 : decode cX0_atFirstSquare 2 = .ok (.lconst 1, 1) := by decide +kernel
theorem dX0_atFirstSquare_3 : decode cX0_atFirstSquare 3 = .ok (.land, 1) := by decide +kernel
theorem dX0_atFirstSquare_4 : decode cX0_atFirstSquare 4 = .ok (.iload_n 0, 1) := by decide +kernel
theorem dX0_atFirstSquare_5 : decode cX0_atFirstSquare 5 = .ok (.i2l, 1) := by decide +kernel
theorem dX0_atFirstSquare_6 : decode cX0_atFirstSquare 6 = .ok (.ldc2_w 141, 3) := by decide +kernel
theorem dX0_atFirstSquare_9 : decode cX0_atFirstSquare 9 = .ok (.land, 1) := by decide +kernel
theorem dX0_atFirstSquare_10 : decode cX0_atFirstSquare 10 = .ok (.bipush 15, 2) := by decide +kernel
theorem dX0_atFirstSquare_12 : decode cX0_atFirstSquare 12 = .ok (.lshl, 1) := by decide +kernel
theorem dX0_atFirstSquare_13 : decode cX0_atFirstSquare 13 = .ok (.lor, 1) := by decide +kernel
theorem dX0_atFirstSquare_14 : decode cX0_atFirstSquare 14 = .ok (.iload_n 0, 1) := by decide +kernel
theorem dX0_atFirstSquare_15 : decode cX0_atFirstSquare 15 = .ok (.i2l, 1) := by decide +kernel
theorem dX0_atFirstSquare_16 : decode cX0_atFirstSquare 16 = .ok (.ldc2_w 143, 3) := by decide +kernel
theorem dX0_atFirstSquare_19 : decode cX0_atFirstSquare 19 = .ok (.land, 1) := by decide +kernel
theorem dX0_atFirstSquare_20 : decode cX0_atFirstSquare 20 = .ok (.bipush 30, 2) := by decide +kernel
theorem dX0_atFirstSquare_22 : decode cX0_atFirstSquare 22 = .ok (.lshl, 1) := by decide +kernel
theorem dX0_atFirstSquare_23 : decode cX0_atFirstSquare 23 = .ok (.lor, 1) := by decide +kernel
theorem dX0_atFirstSquare_24 : decode cX0_atFirstSquare 24 = .ok (.iload_n 0, 1) := by decide +kernel
theorem dX0_atFirstSquare_25 : decode cX0_atFirstSquare 25 = .ok (.i2l, 1) := by decide +kernel
theorem dX0_atFirstSquare_26 : decode cX0_atFirstSquare 26 = .ok (.ldc2_w 145, 3) := by decide +kernel
theorem dX0_atFirstSquare_29 : decode cX0_atFirstSquare 29 = .ok (.land, 1) := by decide +kernel
theorem dX0_atFirstSquare_30 : decode cX0_atFirstSquare 30 = .ok (.bipush 45, 2) := by decide +kernel
theorem dX0_atFirstSquare_32 : decode cX0_atFirstSquare 32 = .ok (.lshl, 1) := by decide +kernel
theorem dX0_atFirstSquare_33 : decode cX0_atFirstSquare 33 = .ok (.lor, 1) := by decide +kernel
theorem dX0_atFirstSquare_34 : decode cX0_atFirstSquare 34 = .ok (.lreturn, 1) := by decide +kernel
set_option maxRecDepth 20000 in
theorem ggX0_put_X0_atFirstSquare : GoodIn wsX0_put wsX0_atFirstSquare := goodIn_r _ [7, 8, 9, 10] (by decide +kernel) (by decide +kernel)
set_option maxRecDepth 20000 in
theorem gX0_put_X0_atFirstSquare : GoodIn wsX0_put (va_wsS RX0 147 yX0_atFirstSquare wsX0_atFirstSquare) := goodIn_app (goodIn_of _ (by decide +kernel)) ggX0_put_X0_atFirstSquare
theorem dX0_put_0 : decode cX0_put 0 = .ok (.aload_n 0, 1) := by decide +kernel
theorem dX0_put_1 : decode cX0_put 1 = .ok (.dup, 1) := by decide +kernel
theorem dX0_put_2 : decode cX0_put 2 = .ok (.getfield 16, 3) := by decide +kernel
theorem dX0_put_5 : decode cX0_put 5 = .ok (.iconst 1, 1) := by decide +kernel
theorem dX0_put_6 : decode cX0_put 6 = .ok (.iload_n 2, 1) := by decide +kernel
theorem dX0_put_7 : decode cX0_put 7 = .ok (.ishl, 1) := by decide +kernel
theorem dX0_put_8 : decode cX0_put 8 = .ok (.ior, 1) := by decide +kernel
theorem dX0_put_9 : decode cX0_put 9 = .ok (.putfield 16, 3) := by decide +kernel
theorem dX0_put_12 : decode cX0_put 12 = .ok (.aload_n 0, 1) := by decide +kernel
theorem dX0_put_13 : decode cX0_put 13 = .ok (.dup, 1) := by decide +kernel
theorem dX0_put_14 : decode cX0_put 14 = .ok (.getfield 35, 3) := by decide +kernel
theorem dX0_put_17 : decode cX0_put 17 = .ok (.iconst 1, 1) := by decide +kernel
theorem dX0_put_18 : decode cX0_put 18 = .ok (.iload_n 1, 1) := by decide +kernel
theorem dX0_put_19 : decode cX0_put 19 = .ok (.ishl, 1) := by decide +kernel
theorem dX0_put_20 : decode cX0_put 20 = .ok (.ior, 1) := by decide +kernel
theorem dX0_put_21 : decode cX0_put 21 = .ok (.putfield 35, 3) := by decide +kernel
theorem dX0_put_24 : decode cX0_put 24 = .ok (.aload_n 0, 1) := by decide +kernel
theorem dX0_put_25 : decode cX0_put 25 = .ok (.dup, 1) := by decide +kernel
theorem dX0_put_26 : decode cX0_put 26 = .ok (.getfield 38, 3) := by decide +kernel
theorem dX0_put_29 : decode cX0_put 29 = .ok (.iload_n 1, 1) := by decide +kernel
theorem dX0_put_30 : decode cX0_put 30 = .ok (.invokestatic 147, 3) := by decide +kernel
theorem dX0_put_33 : decode cX0_put 33 = .ok (.iload_n 2, 1) := by decide +kernel
theorem dX0_put_34 : decode cX0_put 34 = .ok (.lshl, 1) := by decide +kernel
theorem dX0_put_35 : decode cX0_put 35 = .ok (.lor, 1) := by decide +kernel
theorem dX0_put_36 : decode cX0_put 36 = .ok (.putfield 38, 3) := by decide +kernel
theorem dX0_put_39 : decode cX0_put 39 = .ok (.return_, 1) := by decide +kernel
theorem dX0_lift_0 : decode cX0_lift 0 = .ok (.aload_n 0, 1) := by decide +kernel
theorem dX0_lift_1 : decode cX0_lift 1 = .ok (.dup, 1) := by decide +kernel
theorem dX0_lift_2 : decode cX0_lift 2 = .ok (.getfield 16, 3) := by decide +kernel
theorem dX0_lift_5 : decode cX0_lift 5 = .ok (.iconst 1, 1) := by decide +kernel
theorem dX0_lift_6 : decode cX0_lift 6 = .ok (.iload_n 2, 1) := by decide +kernel
theorem dX0_lift_7 : decode cX0_lift 7 = .ok (.ishl, 1) := by decide +kernel
theorem dX0_lift_8 : decode cX0_lift 8 = .ok (.iconst (-1), 1) := by decide +kernel
theorem dX0_lift_9 : decode cX0_lift 9 = .ok (.ixor, 1) := by decide +kernel
theorem dX0_lift_10 : decode cX0_lift 10 = .ok (.iand, 1) := by decide +kernel
theorem dX0_lift_11 : decode cX0_lift 11 = .ok (.putfield 16, 3) := by decide +kernel
theorem dX0_lift_14 : decode cX0_lift 14 = .ok (.aload_n 0, 1) := by decide +kernel
theorem dX0_lift_15 : decode cX0_lift 15 = .ok (.dup, 1) := by decide +kernel
theorem dX0_lift_16 : decode cX0_lift 16 = .ok (.getfield 35, 3) := by decide +kernel
theorem dX0_lift_19 : decode cX0_lift 19 = .ok (.iconst 1, 1) := by decide +kernel
theorem dX0_lift_20 : decode cX0_lift 20 = .ok (.iload_n 1, 1) := by decide +kernel
theorem dX0_lift_21 : decode cX0_lift 21 = .ok (.ishl, 1) := by decide +kernel
theorem dX0_lift_22 : decode cX0_lift 22 = .ok (.iconst (-1), 1) := by decide +kernel
theorem dX0_lift_23 : decode cX0_lift 23 = .ok (.ixor, 1) := by decide +kernel
theorem dX0_lift_24 : decode cX0_lift 24 = .ok (.iand, 1) := by decide +kernel
theorem dX0_lift_25 : decode cX0_lift 25 = .ok (.putfield 35, 3) := by decide +kernel
theorem dX0_lift_28 : decode cX0_lift 28 = .ok (.aload_n 0, 1) := by decide +kernel
theorem dX0_lift_29 : decode cX0_lift 29 = .ok (.dup, 1) := by decide +kernel
theorem dX0_lift_30 : decode cX0_lift 30 = .ok (.getfield 38, 3) := by decide +kernel
theorem dX0_lift_33 : decode cX0_lift 33 = .ok (.ldc2_w 151, 3) := by decide +kernel
theorem dX0_lift_36 : decode cX0_lift 36 = .ok (.iload_n 2, 1) := by decide +kernel
theorem dX0_lift_37 : decode cX0_lift 37 = .ok (.lshl, 1) := by decide +kernel
theorem dX0_lift_38 : decode cX0_lift 38 = .ok (.ldc2_w 153, 3) := by decide +kernel
theorem dX0_lift_41 : decode cX0_lift 41 = .ok (.lxor, 1) := by decide +kernel
theorem dX0_lift_42 : decode cX0_lift 42 = .ok (.land, 1) := by decide +kernel
theorem dX0_lift_43 : decode cX0_lift 43 = .ok (.putfield 38, 3) := by decide +kernel
theorem dX0_lift_46 : decode cX0_lift 46 = .ok (.return_, 1) := by decide +kernel
set_option maxRecDepth 20000 in
theorem ggX0_inCommon_X0_withOne : GoodIn wsX0_inCommon wsX0_withOne := goodIn_r _ [6, 7] (by decide +kernel) (by decide +kernel)
set_option maxRecDepth 20000 in
theorem gX0_inCommon_X0_withOne : GoodIn wsX0_inCommon (va_wsS RX0 79 yX0_withOne wsX0_withOne) := goodIn_app (goodIn_of _ (by decide +kernel)) ggX0_inCommon_X0_withOne
theorem dX0_inCommon_0 : decode cX0_inCommon 0 = .ok (.iload_n 1, 1) := by decide +kernel
theorem dX0_inCommon_1 : decode cX0_inCommon 1 = .ok (.aload_n 0, 1) := by decide +kernel
theorem dX0_inCommon_2 : decode cX0_inCommon 2 = .ok (.getfield 16, 3) := by decide +kernel
theorem dX0_inCommon_5 : decode cX0_inCommon 5 = .ok (.iand, 1) := by decide +kernel
theorem dX0_inCommon_6 : decode cX0_inCommon 6 = .ok (.istore_n 2, 1) := by decide +kernel
theorem dX0_inCommon_7 : decode cX0_inCommon 7 = .ok (.iconst 0, 1) := by decide +kernel
theorem dX0_inCommon_8 : decode cX0_inCommon 8 = .ok (.istore_n 3, 1) := by decide +kernel
theorem dX0_inCommon_9 : decode cX0_inCommon 9 = .ok (.iconst 0, 1) := by decide +kernel
theorem dX0_inCommon_10 : decode cX0_inCommon 10 = .ok (.istore 4, 2) := by decide +kernel
theorem dX0_inCommon_12 : decode cX0_inCommon 12 = .ok (.iload 4, 2) := by decide +kernel
theorem dX0_inCommon_14 : decode cX0_inCommon 14 = .ok (.iconst 4, 1) := by decide +kernel
theorem dX0_inCommon_15 : decode cX0_inCommon 15 = .ok (.if_icmp .ge 49, 3) := by decide +kernel
theorem dX0_inCommon_18 : decode cX0_inCommon 18 = .ok (.aload_n 0, 1) := by decide +kernel
theorem dX0_inCommon_19 : decode cX0_inCommon 19 = .ok (.getfield 38, 3) := by decide +kernel
theorem dX0_inCommon_22 : decode cX0_inCommon 22 = .ok (.iload 4, 2) := by decide +kernel
theorem dX0_inCommon_24 : decode cX0_inCommon 24 = .ok (.invokestatic 79, 3) := by decide +kernel
theorem dX0_inCommon_27 : decode cX0_inCommon 27 = .ok (.iload_n 2, 1) := by decide +kernel
theorem dX0_inCommon_28 : decode cX0_inCommon 28 = .ok (.iand, 1) := by decide +kernel
theorem dX0_inCommon_29 : decode cX0_inCommon 29 = .ok (.istore 5, 2) := by decide +kernel
theorem dX0_inCommon_31 : decode cX0_inCommon 31 = .ok (.iload 5, 2) := by decide +kernel
theorem dX0_inCommon_33 : decode cX0_inCommon 33 = .ok (.iload_n 2, 1) := by decide +kernel
theorem dX0_inCommon_34 : decode cX0_inCommon 34 = .ok (.if_icmp .ne 10, 3) := by decide +kernel
theorem dX0_inCommon_37 : decode cX0_inCommon 37 = .ok (.iload_n 3, 1) := by decide +kernel
theorem dX0_inCommon_38 : decode cX0_inCommon 38 = .ok (.iconst 1, 1) := by decide +kernel
theorem dX0_inCommon_39 : decode cX0_inCommon 39 = .ok (.iload 4, 2) := by decide +kernel
theorem dX0_inCommon_41 : decode cX0_inCommon 41 = .ok (.ishl, 1) := by decide +kernel
theorem dX0_inCommon_42 : decode cX0_inCommon 42 = .ok (.ior, 1) := by decide +kernel
theorem dX0_inCommon_43 : decode cX0_inCommon 43 = .ok (.istore_n 3, 1) := by decide +kernel
theorem dX0_inCommon_44 : decode cX0_inCommon 44 = .ok (.iload 5, 2) := by decide +kernel
theorem dX0_inCommon_46 : decode cX0_inCommon 46 = .ok (.ifCond .ne 12, 3) := by decide +kernel
theorem dX0_inCommon_49 : decode cX0_inCommon 49 = .ok (.iload_n 3, 1) := by decide +kernel
theorem dX0_inCommon_50 : decode cX0_inCommon 50 = .ok (.iconst 1, 1) := by decide +kernel
theorem dX0_inCommon_51 : decode cX0_inCommon 51 = .ok (.iload 4, 2) := by decide +kernel
theorem dX0_inCommon_53 : decode cX0_inCommon 53 = .ok (.iconst 4, 1) := by decide +kernel
theorem dX0_inCommon_54 : decode cX0_inCommon 54 = .ok (.iadd, 1) := by decide +kernel
theorem dX0_inCommon_55 : decode cX0_inCommon 55 = .ok (.ishl, 1) := by decide +kernel
theorem dX0_inCommon_56 : decode cX0_inCommon 56 = .ok (.ior, 1) := by decide +kernel
theorem dX0_inCommon_57 : decode cX0_inCommon 57 = .ok (.istore_n 3, 1) := by decide +kernel
theorem dX0_inCommon_58 : decode cX0_inCommon 58 = .ok (.iinc 4 1, 3) := by decide +kernel
theorem dX0_inCommon_61 : decode cX0_inCommon 61 = .ok (.goto (-49), 3) := by decide +kernel
theorem dX0_inCommon_64 : decode cX0_inCommon 64 = .ok (.iload_n 3, 1) := by decide +kernel
theorem dX0_inCommon_65 : decode cX0_inCommon 65 = .ok (.ireturn, 1) := by decide +kernel
set_option maxRecDepth 20000 in
theorem ggX0_wonLines_X0_lines : GoodIn wsX0_wonLines wsX0_lines := goodIn_r _ [7, 8, 1, 18, 19, 20, 21, 22, 23, 24, 25, 26, 27, 28] (by decide +kernel) (by decide +kernel)
set_option maxRecDepth 20000 in
theorem gX0_wonLines_X0_lines : GoodIn wsX0_wonLines (wsV RX0 87 RX0 yX0_lines wsX0_lines) := goodIn_app (goodIn_of _ (by decide +kernel)) ggX0_wonLines_X0_lines
set_option maxRecDepth 20000 in
theorem ggX0_wonLines_X0_inCommon : GoodIn wsX0_wonLines wsX0_inCommon := goodIn_r _ [12, 2, 13, 14, 15, 6, 16, 17, 18, 19, 20, 21, 22, 23, 24, 25, 26, 27, 28] (by decide +kernel) (by decide +kernel)
set_option maxRecDepth 20000 in
theorem gX0_wonLines_X0_inCommon : GoodIn wsX0_wonLines (wsV RX0 92 RX0 yX0_inCommon wsX0_inCommon) := goodIn_app (goodIn_of _ (by decide +kernel)) ggX0_wonLines_X0_inCommon
theorem dX0_wonLines_0 : decode cX0_wonLines 0 = .ok (.iconst 0, 1) := by decide +kernel
theorem dX0_wonLines_1 : decode cX0_wonLines 1 = .ok (.istore_n 1, 1) := by decide +kernel
theorem dX0_wonLines_2 : decode cX0_wonLines 2 = .ok (.iconst 0, 1) := by decide +kernel
theorem dX0_wonLines_3 : decode cX0_wonLines 3 = .ok (.istore_n 2, 1) := by decide +kernel
theorem dX0_wonLines_4 : decode cX0_wonLines 4 = .ok (.iload_n 2, 1) := by decide +kernel
theorem dX0_wonLines_5 : decode cX0_wonLines 5 = .ok (.aload_n 0, 1) := by decide +kernel
theorem dX0_wonLines_6 : decode cX0_wonLines 6 = .ok (.invokevirtual 87, 3) := by decide +kernel
theorem dX0_wonLines_9 : decode cX0_wonLines 9 = .ok (.if_icmp .ge 37, 3) := by decide +kernel
theorem dX0_wonLines_12 : decode cX0_wonLines 12 = .ok (.getstatic 83, 3) := by decide +kernel
theorem dX0_wonLines_15 : decode cX0_wonLines 15 = .ok (.iload_n 2, 1) := by decide +kernel
theorem dX0_wonLines_16 : decode cX0_wonLines 16 = .ok (.iaload, 1) := by decide +kernel
theorem dX0_wonLines_17 : decode cX0_wonLines 17 = .ok (.istore_n 3, 1) := by decide +kernel
theorem dX0_wonLines_18 : decode cX0_wonLines 18 = .ok (.iload_n 3, 1) := by decide +kernel
theorem dX0_wonLines_19 : decode cX0_wonLines 19 = .ok (.aload_n 0, 1) := by decide +kernel
theorem dX0_wonLines_20 : decode cX0_wonLines 20 = .ok (.getfield 16, 3) := by decide +kernel
theorem dX0_wonLines_23 : decode cX0_wonLines 23 = .ok (.iconst (-1), 1) := by decide +kernel
theorem dX0_wonLines_24 : decode cX0_wonLines 24 = .ok (.ixor, 1) := by decide +kernel
theorem dX0_wonLines_25 : decode cX0_wonLines 25 = .ok (.iand, 1) := by decide +kernel
theorem dX0_wonLines_26 : decode cX0_wonLines 26 = .ok (.ifCond .ne 14, 3) := by decide +kernel
theorem dX0_wonLines_29 : decode cX0_wonLines 29 = .ok (.aload_n 0, 1) := by decide +kernel
theorem dX0_wonLines_30 : decode cX0_wonLines 30 = .ok (.iload_n 3, 1) := by decide +kernel
theorem dX0_wonLines_31 : decode cX0_wonLines 31 = .ok (.invokevirtual 92, 3) := by decide +kernel
theorem dX0_wonLines_34 : decode cX0_wonLines 34 = .ok (.ifCond .eq 6, 3) := by decide +kernel
theorem dX0_wonLines_37 : decode cX0_wonLines 37 = .ok (.iinc 1 1, 3) := by decide +kernel
theorem dX0_wonLines_40 : decode cX0_wonLines 40 = .ok (.iinc 2 1, 3) := by decide +kernel
theorem dX0_wonLines_43 : decode cX0_wonLines 43 = .ok (.goto (-39), 3) := by decide +kernel
theorem dX0_wonLines_46 : decode cX0_wonLines 46 = .ok (.iload_n 1, 1) := by decide +kernel
theorem dX0_wonLines_47 : decode cX0_wonLines 47 = .ok (.ireturn, 1) := by decide +kernel
theorem dX0_lacksOne_0 : decode cX0_lacksOne 0 = .ok (.iload_n 1, 1) := by decide +kernel
theorem dX0_lacksOne_1 : decode cX0_lacksOne 1 = .ok (.aload_n 0, 1) := by decide +kernel
theorem dX0_lacksOne_2 : decode cX0_lacksOne 2 = .ok (.getfield 16, 3) := by decide +kernel
theorem dX0_lacksOne_5 : decode cX0_lacksOne 5 = .ok (.iconst (-1), 1) := by decide +kernel
theorem dX0_lacksOne_6 : decode cX0_lacksOne 6 = .ok (.ixor, 1) := by decide +kernel
theorem dX0_lacksOne_7 : decode cX0_lacksOne 7 = .ok (.iand, 1) := by decide +kernel
theorem dX0_lacksOne_8 : decode cX0_lacksOne 8 = .ok (.istore_n 2, 1) := by decide +kernel
theorem dX0_lacksOne_9 : decode cX0_lacksOne 9 = .ok (.iload_n 2, 1) := by decide +kernel
theorem dX0_lacksOne_10 : decode cX0_lacksOne 10 = .ok (.ifCond .eq 15, 3) := by decide +kernel
theorem dX0_lacksOne_13 : decode cX0_lacksOne 13 = .ok (.iload_n 2, 1) := by decide +kernel
theorem dX0_lacksOne_14 : decode cX0_lacksOne 14 = .ok (.iload_n 2, 1) := by decide +kernel
theorem dX0_lacksOne_15 : decode cX0_lacksOne 15 = .ok (.iconst 1, 1) := by decide +kernel
theorem dX0_lacksOne_16 : decode cX0_lacksOne 16 = .ok (.isub, 1) := by decide +kernel
theorem dX0_lacksOne_17 : decode cX0_lacksOne 17 = .ok (.iand, 1) := by decide +kernel
theorem dX0_lacksOne_18 : decode cX0_lacksOne 18 = .ok (.ifCond .ne 7, 3) := by decide +kernel
theorem dX0_lacksOne_21 : decode cX0_lacksOne 21 = .ok (.iconst 1, 1) := by decide +kernel
theorem dX0_lacksOne_22 : decode cX0_lacksOne 22 = .ok (.goto 4, 3) := by decide +kernel
theorem dX0_lacksOne_25 : decode cX0_lacksOne 25 = .ok (.iconst 0, 1) := by decide +kernel
theorem dX0_lacksOne_26 : decode cX0_lacksOne 26 = .ok (.ireturn, 1) := by decide +kernel
set_option maxRecDepth 20000 in
theorem ggX0_winningSquares_X0_ownDigits : GoodIn wsX0_winningSquares wsX0_ownDigits := goodIn_r _ [6] (by decide +kernel) (by decide +kernel)
set_option maxRecDepth 20000 in
theorem gX0_winningSquares_X0_ownDigits : GoodIn wsX0_winningSquares (va_wsS RX0 155 yX0_ownDigits wsX0_ownDigits) := goodIn_app (goodIn_of _ (by decide +kernel)) ggX0_winningSquares_X0_ownDigits
set_option maxRecDepth 20000 in
theorem ggX0_winningSquares_X0_lines : GoodIn wsX0_winningSquares wsX0_lines := goodIn_r _ [10, 11, 1, 25, 26, 27, 28, 29, 30, 31, 32, 33, 34, 35] (by decide +kernel) (by decide +kernel)
set_option maxRecDepth 20000 in
theorem gX0_winningSquares_X0_lines : GoodIn wsX0_winningSquares (wsV RX0 87 RX0 yX0_lines wsX0_lines) := goodIn_app (goodIn_of _ (by decide +kernel)) ggX0_winningSquares_X0_lines
set_option maxRecDepth 20000 in
theorem ggX0_winningSquares_X0_lacksOne : GoodIn wsX0_winningSquares wsX0_lacksOne := goodIn_r _ [15, 2, 25, 26, 27, 28, 29, 30, 31, 32, 33, 34, 35] (by decide +kernel) (by decide +kernel)
set_option maxRecDepth 20000 in
theorem gX0_winningSquares_X0_lacksOne : GoodIn wsX0_winningSquares (wsV RX0 158 RX0 yX0_lacksOne wsX0_lacksOne) := goodIn_app (goodIn_of _ (by decide +kernel)) ggX0_winningSquares_X0_lacksOne
set_option maxRecDepth 20000 in
theorem ggX0_winningSquares_X0_inCommon : GoodIn wsX0_winningSquares wsX0_inCommon := goodIn_r _ [19, 2, 20, 21, 22, 5, 23, 24, 25, 26, 27, 28, 29, 30, 31, 32, 33, 34, 35] (by decide +kernel) (by decide +kernel)
set_option maxRecDepth 20000 in
theorem gX0_winningSquares_X0_inCommon : GoodIn wsX0_winningSquares (wsV RX0 92 RX0 yX0_inCommon wsX0_inCommon) := goodIn_app (goodIn_of _ (by decide +kernel)) ggX0_winningSquares_X0_inCommon
theorem dX0_winningSquares_0 : decode cX0_winningSquares 0 = .ok (.iload_n 1, 1) := by decide +kernel
theorem dX0_winningSquares_1 : decode cX0_winningSquares 1 = .ok (.invokestatic 155, 3) := by decide +kernel
theorem dX0_winningSquares_4 : decode cX0_winningSquares 4 = .ok (.istore_n 2, 1) := by decide +kernel
theorem dX0_winningSquares_5 : decode cX0_winningSquares 5 = .ok (.iconst 0, 1) := by decide +kernel
theorem dX0_winningSquares_6 : decode cX0_winningSquares 6 = .ok (.istore_n 3, 1) := by decide +kernel
theorem dX0_winningSquares_7 : decode cX0_winningSquares 7 = .ok (.iconst 0, 1) := by decide +kernel
theorem dX0_winningSquares_8 : decode cX0_winningSquares 8 = .ok (.istore 4, 2) := by decide +kernel
theorem dX0_winningSquares_10 : decode cX0_winningSquares 10 = .ok (.iload 4, 2) := by decide +kernel
theorem dX0_winningSquares_12 : decode cX0_winningSquares 12 = .ok (.aload_n 0, 1) := by decide +kernel
theorem dX0_winningSquares_13 : decode cX0_winningSquares 13 = .ok (.invokevirtual 87, 3) := by decide +kernel
theorem dX0_winningSquares_16 : decode cX0_winningSquares 16 = .ok (.if_icmp .ge 49, 3) := by decide +kernel
theorem dX0_winningSquares_19 : decode cX0_winningSquares 19 = .ok (.getstatic 83, 3) := by decide +kernel
theorem dX0_winningSquares_22 : decode cX0_winningSquares 22 = .ok (.iload 4, 2) := by decide +kernel
theorem dX0_winningSquares_24 : decode cX0_winningSquares 24 = .ok (.iaload, 1) := by decide +kernel
theorem dX0_winningSquares_25 : decode cX0_winningSquares 25 = .ok (.istore 5, 2) := by decide +kernel
theorem dX0_winningSquares_27 : decode cX0_winningSquares 27 = .ok (.aload_n 0, 1) := by decide +kernel
theorem dX0_winningSquares_28 : decode cX0_winningSquares 28 = .ok (.iload 5, 2) := by decide +kernel
theorem dX0_winningSquares_30 : decode cX0_winningSquares 30 = .ok (.invokevirtual 158, 3) := by decide +kernel
theorem dX0_winningSquares_33 : decode cX0_winningSquares 33 = .ok (.ifCond .eq 26, 3) := by decide +kernel
theorem dX0_winningSquares_36 : decode cX0_winningSquares 36 = .ok (.aload_n 0, 1) := by decide +kernel
theorem dX0_winningSquares_37 : decode cX0_winningSquares 37 = .ok (.iload 5, 2) := by decide +kernel
theorem dX0_winningSquares_39 : decode cX0_winningSquares 39 = .ok (.invokevirtual 92, 3) := by decide +kernel
theorem dX0_winningSquares_42 : decode cX0_winningSquares 42 = .ok (.iload_n 2, 1) := by decide +kernel
theorem dX0_winningSquares_43 : decode cX0_winningSquares 43 = .ok (.iand, 1) := by decide +kernel
theorem dX0_winningSquares_44 : decode cX0_winningSquares 44 = .ok (.ifCond .eq 15, 3) := by decide +kernel
theorem dX0_winningSquares_47 : decode cX0_winningSquares 47 = .ok (.iload_n 3, 1) := by decide +kernel
theorem dX0_winningSquares_48 : decode cX0_winningSquares 48 = .ok (.iload 5, 2) := by decide +kernel
theorem dX0_winningSquares_50 : decode cX0_winningSquares 50 = .ok (.aload_n 0, 1) := by decide +kernel
theorem dX0_winningSquares_51 : decode cX0_winningSquares 51 = .ok (.getfield 16, 3) := by decide +kernel
theorem dX0_winningSquares_54 : decode cX0_winningSquares 54 = .ok (.iconst (-1), 1) := by decide +kernel
theorem dX0_winningSquares_55 : decode cX0_winningSquares 55 = .ok (.ixor, 1) := by decide +kernel
theorem dX0_winningSquares_56 : decode cX0_winningSquares 56 = .ok (.iand, 1) := by decide +kernel
theorem dX0_winningSquares_57 : decode cX0_winningSquares 57 = .ok (.ior, 1) := by decide +kernel
theorem dX0_winningSquares_58 : decode cX0_winningSquares 58 = .ok (.istore_n 3, 1) := by decide +kernel
theorem dX0_winningSquares_59 : decode cX0_winningSquares 59 = .ok (.iinc 4 1, 3) := by decide +kernel
theorem dX0_winningSquares_62 : decode cX0_winningSquares 62 = .ok (.goto (-52), 3) := by decide +kernel
theorem dX0_winningSquares_65 : decode cX0_winningSquares 65 = .ok (.iload_n 3, 1) := by decide +kernel
theorem dX0_winningSquares_66 : decode cX0_winningSquares 66 = .ok (.ireturn, 1) := by decide +kernel
set_option maxRecDepth 20000 in
theorem ggX0_winningDigits_X0_lines : GoodIn wsX0_winningDigits wsX0_lines := goodIn_r _ [6, 7, 1, 22, 23, 24, 25, 26, 27, 28, 29, 30, 31, 32] (by decide +kernel) (by decide +kernel)
set_option maxRecDepth 20000 in
theorem gX0_winningDigits_X0_lines : GoodIn wsX0_winningDigits (wsV RX0 87 RX0 yX0_lines wsX0_lines) := goodIn_app (goodIn_of _ (by decide +kernel)) ggX0_winningDigits_X0_lines
set_option maxRecDepth 20000 in
theorem ggX0_winningDigits_X0_lacksOne : GoodIn wsX0_winningDigits wsX0_lacksOne := goodIn_r _ [11, 12, 22, 23, 24, 25, 26, 27, 28, 29, 30, 31, 32] (by decide +kernel) (by decide +kernel)
set_option maxRecDepth 20000 in
theorem gX0_winningDigits_X0_lacksOne : GoodIn wsX0_winningDigits (wsV RX0 158 RX0 yX0_lacksOne wsX0_lacksOne) := goodIn_app (goodIn_of _ (by decide +kernel)) ggX0_winningDigits_X0_lacksOne
set_option maxRecDepth 20000 in
theorem ggX0_winningDigits_X0_inCommon : GoodIn wsX0_winningDigits wsX0_inCommon := goodIn_r _ [16, 12, 17, 18, 19, 5, 20, 21, 22, 23, 24, 25, 26, 27, 28, 29, 30, 31, 32] (by decide +kernel) (by decide +kernel)
set_option maxRecDepth 20000 in
theorem gX0_winningDigits_X0_inCommon : GoodIn wsX0_winningDigits (wsV RX0 92 RX0 yX0_inCommon wsX0_inCommon) := goodIn_app (goodIn_of _ (by decide +kernel)) ggX0_winningDigits_X0_inCommon
theorem dX0_winningDigits_0 : decode cX0_winningDigits 0 = .ok (.iconst 0, 1) := by decide +kernel
theorem dX0_winningDigits_1 : decode cX0_winningDigits 1 = .ok (.istore_n 1, 1) := by decide +kernel
theorem dX0_winningDigits_2 : decode cX0_winningDigits 2 = .ok (.iconst 0, 1) := by decide +kernel
theorem dX0_winningDigits_3 : decode cX0_winningDigits 3 = .ok (.istore_n 2, 1) := by decide +kernel
theorem dX0_winningDigits_4 : decode cX0_winningDigits 4 = .ok (.iload_n 2, 1) := by decide +kernel
theorem dX0_winningDigits_5 : decode cX0_winningDigits 5 = .ok (.aload_n 0, 1) := by decide +kernel
theorem dX0_winningDigits_6 : decode cX0_winningDigits 6 = .ok (.invokevirtual 87, 3) := by decide +kernel
theorem dX0_winningDigits_9 : decode cX0_winningDigits 9 = .ok (.if_icmp .ge 31, 3) := by decide +kernel
theorem dX0_winningDigits_12 : decode cX0_winningDigits 12 = .ok (.getstatic 83, 3) := by decide +kernel
theorem dX0_winningDigits_15 : decode cX0_winningDigits 15 = .ok (.iload_n 2, 1) := by decide +kernel
theorem dX0_winningDigits_16 : decode cX0_winningDigits 16 = .ok (.iaload, 1) := by decide +kernel
theorem dX0_winningDigits_17 : decode cX0_winningDigits 17 = .ok (.istore_n 3, 1) := by decide +kernel
theorem dX0_winningDigits_18 : decode cX0_winningDigits 18 = .ok (.aload_n 0, 1) := by decide +kernel
theorem dX0_winningDigits_19 : decode cX0_winningDigits 19 = .ok (.iload_n 3, 1) := by decide +kernel
theorem dX0_winningDigits_20 : decode cX0_winningDigits 20 = .ok (.invokevirtual 158, 3) := by decide +kernel
theorem dX0_winningDigits_23 : decode cX0_winningDigits 23 = .ok (.ifCond .eq 11, 3) := by decide +kernel
theorem dX0_winningDigits_26 : decode cX0_winningDigits 26 = .ok (.iload_n 1, 1) := by decide +kernel
theorem dX0_winningDigits_27 : decode cX0_winningDigits 27 = .ok (.aload_n 0, 1) := by decide +kernel
theorem dX0_winningDigits_28 : decode cX0_winningDigits 28 = .ok (.iload_n 3, 1) := by decide +kernel
theorem dX0_winningDigits_29 : decode cX0_winningDigits 29 = .ok (.invokevirtual 92, 3) := by decide +kernel
theorem dX0_winningDigits_32 : decode cX0_winningDigits 32 = .ok (.ior, 1) := by decide +kernel
theorem dX0_winningDigits_33 : decode cX0_winningDigits 33 = .ok (.istore_n 1, 1) := by decide +kernel
theorem dX0_winningDigits_34 : decode cX0_winningDigits 34 = .ok (.iinc 2 1, 3) := by decide +kernel
theorem dX0_winningDigits_37 : decode cX0_winningDigits 37 = .ok (.goto (-33), 3) := by decide +kernel
theorem dX0_winningDigits_40 : decode cX0_winningDigits 40 = .ok (.iload_n 1, 1) := by decide +kernel
theorem dX0_winningDigits_41 : decode cX0_winningDigits 41 = .ok (.ireturn, 1) := by decide +kernel
set_option maxRecDepth 20000 in
theorem ggX0_safePieces_X0_winningDigits : GoodIn wsX0_safePieces wsX0_winningDigits := goodIn_r _ [6, 7, 8, 9, 10, 5, 11, 12, 13, 14, 15, 16, 17, 18, 19, 20, 21, 22, 23, 24, 25, 26, 33, 34, 35, 36, 37, 38, 39, 40, 41, 42, 43] (by decide +kernel) (by decide +kernel)
set_option maxRecDepth 20000 in
theorem gX0_safePieces_X0_winningDigits : GoodIn wsX0_safePieces (wsV RX0 161 RX0 yX0_winningDigits wsX0_winningDigits) := goodIn_app (goodIn_of _ (by decide +kernel)) ggX0_safePieces_X0_winningDigits
set_option maxRecDepth 20000 in
theorem ggX0_safePieces_X0_has : GoodIn wsX0_safePieces wsX0_has := goodIn_r _ [29] (by decide +kernel) (by decide +kernel)
set_option maxRecDepth 20000 in
theorem gX0_safePieces_X0_has : GoodIn wsX0_safePieces (va_wsS RX0 58 yX0_has wsX0_has) := goodIn_app (goodIn_of _ (by decide +kernel)) ggX0_safePieces_X0_has
set_option maxRecDepth 20000 in
theorem ggX0_safePieces_X0_ownDigits : GoodIn wsX0_safePieces wsX0_ownDigits := goodIn_r _ [32] (by decide +kernel) (by decide +kernel)
set_option maxRecDepth 20000 in
theorem gX0_safePieces_X0_ownDigits : GoodIn wsX0_safePieces (va_wsS RX0 155 yX0_ownDigits wsX0_ownDigits) := goodIn_app (goodIn_of _ (by decide +kernel)) ggX0_safePieces_X0_ownDigits
theorem dX0_safePieces_0 : decode cX0_safePieces 0 = .ok (.aload_n 0, 1) := by decide +kernel
theorem dX0_safePieces_1 : decode cX0_safePieces 1 = .ok (.invokevirtual 161, 3) := by decide +kernel
theorem dX0_safePieces_4 : decode cX0_safePieces 4 = .ok (.istore_n 1, 1) := by decide +kernel
theorem dX0_safePieces_5 : decode cX0_safePieces 5 = .ok (.iconst 0, 1) := by decide +kernel
theorem dX0_safePieces_6 : decode cX0_safePieces 6 = .ok (.istore_n 2, 1) := by decide +kernel
theorem dX0_safePieces_7 : decode cX0_safePieces 7 = .ok (.iconst 0, 1) := by decide +kernel
theorem dX0_safePieces_8 : decode cX0_safePieces 8 = .ok (.istore_n 3, 1) := by decide +kernel
theorem dX0_safePieces_9 : decode cX0_safePieces 9 = .ok (.iload_n 3, 1) := by decide +kernel
theorem dX0_safePieces_10 : decode cX0_safePieces 10 = .ok (.bipush 16, 2) := by decide +kernel
theorem dX0_safePieces_12 : decode cX0_safePieces 12 = .ok (.if_icmp .ge 35, 3) := by decide +kernel
theorem dX0_safePieces_15 : decode cX0_safePieces 15 = .ok (.aload_n 0, 1) := by decide +kernel
theorem dX0_safePieces_16 : decode cX0_safePieces 16 = .ok (.getfield 35, 3) := by decide +kernel
theorem dX0_safePieces_19 : decode cX0_safePieces 19 = .ok (.iload_n 3, 1) := by decide +kernel
theorem dX0_safePieces_20 : decode cX0_safePieces 20 = .ok (.invokestatic 58, 3) := by decide +kernel
theorem dX0_safePieces_23 : decode cX0_safePieces 23 = .ok (.ifCond .ne 18, 3) := by decide +kernel
theorem dX0_safePieces_26 : decode cX0_safePieces 26 = .ok (.iload_n 3, 1) := by decide +kernel
theorem dX0_safePieces_27 : decode cX0_safePieces 27 = .ok (.invokestatic 155, 3) := by decide +kernel
theorem dX0_safePieces_30 : decode cX0_safePieces 30 = .ok (.iload_n 1, 1) := by decide +kernel
theorem dX0_safePieces_31 : decode cX0_safePieces 31 = .ok (.iand, 1) := by decide +kernel
theorem dX0_safePieces_32 : decode cX0_safePieces 32 = .ok (.ifCond .ne 9, 3) := by decide +kernel
theorem dX0_safePieces_35 : decode cX0_safePieces 35 = .ok (.iload_n 2, 1) := by decide +kernel
theorem dX0_safePieces_36 : decode cX0_safePieces 36 = .ok (.iconst 1, 1) := by decide +kernel
theorem dX0_safePieces_37 : decode cX0_safePieces 37 = .ok (.iload_n 3, 1) := by decide +kernel
theorem dX0_safePieces_38 : decode cX0_safePieces 38 = .ok (.ishl, 1) := by decide +kernel
theorem dX0_safePieces_39 : decode cX0_safePieces 39 = .ok (.ior, 1) := by decide +kernel
theorem dX0_safePieces_40 : decode cX0_safePieces 40 = .ok (.istore_n 2, 1) := by decide +kernel
theorem dX0_safePieces_41 : decode cX0_safePieces 41 = .ok (.iinc 3 1, 3) := by decide +kernel
theorem dX0_safePieces_44 : decode cX0_safePieces 44 = .ok (.goto (-35), 3) := by decide +kernel
theorem dX0_safePieces_47 : decode cX0_safePieces 47 = .ok (.iload_n 2, 1) := by decide +kernel
theorem dX0_safePieces_48 : decode cX0_safePieces 48 = .ok (.ireturn, 1) := by decide +kernel
set_option maxRecDepth 20000 in
theorem ggX0_canLookAhead_J6_bitCount_0f7a4 : GoodIn wsX0_canLookAhead wsJ6_bitCount_0f7a4 := goodIn_r _ [6, 7, 8, 9] (by decide +kernel) (by decide +kernel)
set_option maxRecDepth 20000 in
theorem gX0_canLookAhead_J6_bitCount_0f7a4 : GoodIn wsX0_canLookAhead (va_wsS RX0 19 yJ6_bitCount_0f7a4 wsJ6_bitCount_0f7a4) := goodIn_app (goodIn_of _ (by decide +kernel)) ggX0_canLookAhead_J6_bitCount_0f7a4
theorem dX0_canLookAhead_0 : decode cX0_canLookAhead 0 = .ok (.bipush 16, 2) := by decide +kernel
theorem dX0_canLookAhead_2 : decode cX0_canLookAhead 2 = .ok (.aload_n 0, 1) := by decide +kernel
theorem dX0_canLookAhead_3 : decode cX0_canLookAhead 3 = .ok (.getfield 16, 3) := by decide +kernel
theorem dX0_canLookAhead_6 : decode cX0_canLookAhead 6 = .ok (.invokestatic 19, 3) := by decide +kernel
theorem dX0_canLookAhead_9 : decode cX0_canLookAhead 9 = .ok (.isub, 1) := by decide +kernel
theorem dX0_canLookAhead_10 : decode cX0_canLookAhead 10 = .ok (.istore_n 2, 1) := by decide +kernel
theorem dX0_canLookAhead_11 : decode cX0_canLookAhead 11 = .ok (.iload_n 1, 1) := by decide +kernel
theorem dX0_canLookAhead_12 : decode cX0_canLookAhead 12 = .ok (.iconst 3, 1) := by decide +kernel
theorem dX0_canLookAhead_13 : decode cX0_canLookAhead 13 = .ok (.if_icmp .ne 11, 3) := by decide +kernel
theorem dX0_canLookAhead_16 : decode cX0_canLookAhead 16 = .ok (.iload_n 2, 1) := by decide +kernel
theorem dX0_canLookAhead_17 : decode cX0_canLookAhead 17 = .ok (.bipush 8, 2) := by decide +kernel
theorem dX0_canLookAhead_19 : decode cX0_canLookAhead 19 = .ok (.if_icmp .le 5, 3) := by decide +kernel
theorem dX0_canLookAhead_22 : decode cX0_canLookAhead 22 = .ok (.iconst 0, 1) := by decide +kernel
theorem dX0_canLookAhead_23 : decode cX0_canLookAhead 23 = .ok (.ireturn, 1) := by decide +kernel
theorem dX0_canLookAhead_24 : decode cX0_canLookAhead 24 = .ok (.iload_n 1, 1) := by decide +kernel
theorem dX0_canLookAhead_25 : decode cX0_canLookAhead 25 = .ok (.iconst 4, 1) := by decide +kernel
theorem dX0_canLookAhead_26 : decode cX0_canLookAhead 26 = .ok (.if_icmp .ne 11, 3) := by decide +kernel
theorem dX0_canLookAhead_29 : decode cX0_canLookAhead 29 = .ok (.iload_n 2, 1) := by decide +kernel
theorem dX0_canLookAhead_30 : decode cX0_canLookAhead 30 = .ok (.bipush 6, 2) := by decide +kernel
theorem dX0_canLookAhead_32 : decode cX0_canLookAhead 32 = .ok (.if_icmp .le 5, 3) := by decide +kernel
theorem dX0_canLookAhead_35 : decode cX0_canLookAhead 35 = .ok (.iconst 0, 1) := by decide +kernel
theorem dX0_canLookAhead_36 : decode cX0_canLookAhead 36 = .ok (.ireturn, 1) := by decide +kernel
theorem dX0_canLookAhead_37 : decode cX0_canLookAhead 37 = .ok (.aload_n 0, 1) := by decide +kernel
theorem dX0_canLookAhead_38 : decode cX0_canLookAhead 38 = .ok (.getfield 29, 3) := by decide +kernel
theorem dX0_canLookAhead_41 : decode cX0_canLookAhead 41 = .ok (.iconst 2, 1) := by decide +kernel
theorem dX0_canLookAhead_42 : decode cX0_canLookAhead 42 = .ok (.if_icmp .eq 7, 3) := by decide +kernel
theorem dX0_canLookAhead_45 : decode cX0_canLookAhead 45 = .ok (.iconst 1, 1) := by decide +kernel
theorem dX0_canLookAhead_46 : decode cX0_canLookAhead 46 = .ok (.goto 4, 3) := by decide +kernel
theorem dX0_canLookAhead_49 : decode cX0_canLookAhead 49 = .ok (.iconst 0, 1) := by decide +kernel
theorem dX0_canLookAhead_50 : decode cX0_canLookAhead 50 = .ok (.ireturn, 1) := by decide +kernel
set_option maxRecDepth 20000 in
theorem ggX0_bestPiece_X0_worthToGive : GoodIn wsX0_bestPiece wsX0_worthToGive := goodIn_r _ [6, 7, 8, 9, 5, 10, 11, 12, 13, 14, 1, 15, 16, 17, 18, 19, 20, 21, 22, 23, 24, 25, 26, 27, 28, 29, 30, 31, 32, 33, 34, 35, 36, 37, 38, 39, 40, 41, 42, 43, 44, 45, 46, 47, 48, 49, 50, 51, 52, 53, 54, 55, 56, 57, 58, 59, 60, 61, 62, 63, 64, 65, 66, 67, 68, 69, 70, 71, 72, 81, 82, 83, 84, 85, 86, 87, 88, 89, 90, 91] (by decide +kernel) (by decide +kernel)
set_option maxRecDepth 20000 in
theorem gX0_bestPiece_X0_worthToGive : GoodIn wsX0_bestPiece (wsV RX0 113 RX0 yX0_worthToGive wsX0_worthToGive) := goodIn_app (goodIn_of _ (by decide +kernel)) ggX0_bestPiece_X0_worthToGive
set_option maxRecDepth 20000 in
theorem ggX0_bestPiece_X0_has : GoodIn wsX0_bestPiece wsX0_has := goodIn_r _ [41] (by decide +kernel) (by decide +kernel)
set_option maxRecDepth 20000 in
theorem gX0_bestPiece_X0_has : GoodIn wsX0_bestPiece (va_wsS RX0 58 yX0_has wsX0_has) := goodIn_app (goodIn_of _ (by decide +kernel)) ggX0_bestPiece_X0_has
set_option maxRecDepth 20000 in
theorem ggX0_bestPiece_X0_worthToPlace : GoodIn wsX0_bestPiece wsX0_worthToPlace := goodIn_r _ [76, 77, 78, 79, 5, 80, 19, 29, 42, 43, 44, 20, 21, 22, 23, 24, 25, 26, 27, 28, 30, 31, 32, 33, 34, 35, 36, 37, 38, 49, 50, 51, 72, 39, 40, 41, 53, 54, 55, 56, 1, 57, 58, 59, 60, 61, 62, 7, 8, 9, 66, 67, 68, 69, 70, 71, 48, 11, 12, 13, 14, 15, 16, 17, 18, 10, 45, 46, 47, 52, 63, 64, 65, 81, 82, 83, 84, 85, 86, 87, 88, 89, 90, 91] (by decide +kernel) (by decide +kernel)
set_option maxRecDepth 20000 in
theorem gX0_bestPiece_X0_worthToPlace : GoodIn wsX0_bestPiece (wsV RX0 116 RX0 yX0_worthToPlace wsX0_worthToPlace) := goodIn_app (goodIn_of _ (by decide +kernel)) ggX0_bestPiece_X0_worthToPlace
theorem dX0_bestPiece_0 : decode cX0_bestPiece 0 = .ok (.aload_n 0, 1) := by decide +kernel
theorem dX0_bestPiece_1 : decode cX0_bestPiece 1 = .ok (.iload_n 1, 1) := by decide +kernel
theorem dX0_bestPiece_2 : decode cX0_bestPiece 2 = .ok (.invokevirtual 113, 3) := by decide +kernel
theorem dX0_bestPiece_5 : decode cX0_bestPiece 5 = .ok (.istore_n 2, 1) := by decide +kernel
theorem dX0_bestPiece_6 : decode cX0_bestPiece 6 = .ok (.iconst 0, 1) := by decide +kernel
theorem dX0_bestPiece_7 : decode cX0_bestPiece 7 = .ok (.istore_n 3, 1) := by decide +kernel
theorem dX0_bestPiece_8 : decode cX0_bestPiece 8 = .ok (.iload_n 3, 1) := by decide +kernel
theorem dX0_bestPiece_9 : decode cX0_bestPiece 9 = .ok (.bipush 15, 2) := by decide +kernel
theorem dX0_bestPiece_11 : decode cX0_bestPiece 11 = .ok (.if_icmp .ge 31, 3) := by decide +kernel
theorem dX0_bestPiece_14 : decode cX0_bestPiece 14 = .ok (.aload_n 0, 1) := by decide +kernel
theorem dX0_bestPiece_15 : decode cX0_bestPiece 15 = .ok (.getfield 35, 3) := by decide +kernel
theorem dX0_bestPiece_18 : decode cX0_bestPiece 18 = .ok (.iload_n 3, 1) := by decide +kernel
theorem dX0_bestPiece_19 : decode cX0_bestPiece 19 = .ok (.invokestatic 58, 3) := by decide +kernel
theorem dX0_bestPiece_22 : decode cX0_bestPiece 22 = .ok (.ifCond .ne 14, 3) := by decide +kernel
theorem dX0_bestPiece_25 : decode cX0_bestPiece 25 = .ok (.aload_n 0, 1) := by decide +kernel
theorem dX0_bestPiece_26 : decode cX0_bestPiece 26 = .ok (.iload_n 3, 1) := by decide +kernel
theorem dX0_bestPiece_27 : decode cX0_bestPiece 27 = .ok (.iload_n 1, 1) := by decide +kernel
theorem dX0_bestPiece_28 : decode cX0_bestPiece 28 = .ok (.invokevirtual 116, 3) := by decide +kernel
theorem dX0_bestPiece_31 : decode cX0_bestPiece 31 = .ok (.ineg, 1) := by decide +kernel
theorem dX0_bestPiece_32 : decode cX0_bestPiece 32 = .ok (.iload_n 2, 1) := by decide +kernel
theorem dX0_bestPiece_33 : decode cX0_bestPiece 33 = .ok (.if_icmp .eq 9, 3) := by decide +kernel
theorem dX0_bestPiece_36 : decode cX0_bestPiece 36 = .ok (.iinc 3 1, 3) := by decide +kernel
theorem dX0_bestPiece_39 : decode cX0_bestPiece 39 = .ok (.goto (-31), 3) := by decide +kernel
theorem dX0_bestPiece_42 : decode cX0_bestPiece 42 = .ok (.iload_n 3, 1) := by decide +kernel
theorem dX0_bestPiece_43 : decode cX0_bestPiece 43 = .ok (.ireturn, 1) := by decide +kernel
set_option maxRecDepth 20000 in
theorem ggX0_bestSquare_X0_worthToPlace : GoodIn wsX0_bestSquare wsX0_worthToPlace := goodIn_r _ [7, 8, 9, 10, 6, 11, 12, 2, 13, 14, 15, 16, 17, 18, 19, 20, 21, 22, 23, 24, 25, 26, 27, 28, 29, 30, 31, 32, 33, 34, 35, 36, 37, 38, 39, 40, 41, 42, 43, 44, 45, 46, 47, 48, 49, 50, 51, 52, 53, 54, 55, 56, 57, 58, 59, 60, 61, 62, 63, 64, 65, 66, 67, 68, 69, 70, 71, 72, 73, 74, 75, 76, 77, 86, 87, 88, 89, 90, 91, 92, 93, 94, 95, 96] (by decide +kernel) (by decide +kernel)
set_option maxRecDepth 20000 in
theorem gX0_bestSquare_X0_worthToPlace : GoodIn wsX0_bestSquare (wsV RX0 116 RX0 yX0_worthToPlace wsX0_worthToPlace) := goodIn_app (goodIn_of _ (by decide +kernel)) ggX0_bestSquare_X0_worthToPlace
set_option maxRecDepth 20000 in
theorem ggX0_bestSquare_X0_has : GoodIn wsX0_bestSquare wsX0_has := goodIn_r _ [40] (by decide +kernel) (by decide +kernel)
set_option maxRecDepth 20000 in
theorem gX0_bestSquare_X0_has : GoodIn wsX0_bestSquare (va_wsS RX0 58 yX0_has wsX0_has) := goodIn_app (goodIn_of _ (by decide +kernel)) ggX0_bestSquare_X0_has
set_option maxRecDepth 20000 in
theorem ggX0_bestSquare_X0_worthAfterPlacing : GoodIn wsX0_bestSquare wsX0_worthAfterPlacing := goodIn_r _ [81, 1, 8, 9, 10, 6, 11, 12, 2, 13, 14, 15, 16, 17, 18, 19, 20, 21, 22, 23, 24, 25, 26, 27, 28, 29, 30, 31, 32, 33, 38, 39, 40, 41, 42, 43, 44, 45, 46, 47, 48, 49, 50, 51, 82, 83, 84, 85, 52, 53, 54, 70, 62, 63, 64, 65, 66, 67, 68, 69, 71, 72, 73, 61, 34, 35, 36, 74, 75, 76, 77, 55, 56, 57, 58, 59, 60, 37, 86, 87, 88, 89, 90, 91, 92, 93, 94, 95, 96] (by decide +kernel) (by decide +kernel)
set_option maxRecDepth 20000 in
theorem gX0_bestSquare_X0_worthAfterPlacing : GoodIn wsX0_bestSquare (wsV RX0 164 RX0 yX0_worthAfterPlacing wsX0_worthAfterPlacing) := goodIn_app (goodIn_of _ (by decide +kernel)) ggX0_bestSquare_X0_worthAfterPlacing
theorem dX0_bestSquare_0 : decode cX0_bestSquare 0 = .ok (.aload_n 0, 1) := by decide +kernel
theorem dX0_bestSquare_1 : decode cX0_bestSquare 1 = .ok (.aload_n 0, 1) := by decide +kernel
theorem dX0_bestSquare_2 : decode cX0_bestSquare 2 = .ok (.getfield 9, 3) := by decide +kernel
theorem dX0_bestSquare_5 : decode cX0_bestSquare 5 = .ok (.iload_n 1, 1) := by decide +kernel
theorem dX0_bestSquare_6 : decode cX0_bestSquare 6 = .ok (.invokevirtual 116, 3) := by decide +kernel
theorem dX0_bestSquare_9 : decode cX0_bestSquare 9 = .ok (.istore_n 2, 1) := by decide +kernel
theorem dX0_bestSquare_10 : decode cX0_bestSquare 10 = .ok (.iconst 0, 1) := by decide +kernel
theorem dX0_bestSquare_11 : decode cX0_bestSquare 11 = .ok (.istore_n 3, 1) := by decide +kernel
theorem dX0_bestSquare_12 : decode cX0_bestSquare 12 = .ok (.iload_n 3, 1) := by decide +kernel
theorem dX0_bestSquare_13 : decode cX0_bestSquare 13 = .ok (.bipush 15, 2) := by decide +kernel
theorem dX0_bestSquare_15 : decode cX0_bestSquare 15 = .ok (.if_icmp .ge 30, 3) := by decide +kernel
theorem dX0_bestSquare_18 : decode cX0_bestSquare 18 = .ok (.aload_n 0, 1) := by decide +kernel
theorem dX0_bestSquare_19 : decode cX0_bestSquare 19 = .ok (.getfield 16, 3) := by decide +kernel
theorem dX0_bestSquare_22 : decode cX0_bestSquare 22 = .ok (.iload_n 3, 1) := by decide +kernel
theorem dX0_bestSquare_23 : decode cX0_bestSquare 23 = .ok (.invokestatic 58, 3) := by decide +kernel
theorem dX0_bestSquare_26 : decode cX0_bestSquare 26 = .ok (.ifCond .ne 13, 3) := by decide +kernel
theorem dX0_bestSquare_29 : decode cX0_bestSquare 29 = .ok (.aload_n 0, 1) := by decide +kernel
theorem dX0_bestSquare_30 : decode cX0_bestSquare 30 = .ok (.iload_n 3, 1) := by decide +kernel
theorem dX0_bestSquare_31 : decode cX0_bestSquare 31 = .ok (.iload_n 1, 1) := by decide +kernel
theorem dX0_bestSquare_32 : decode cX0_bestSquare 32 = .ok (.invokevirtual 164, 3) := by decide +kernel
theorem dX0_bestSquare_35 : decode cX0_bestSquare 35 = .ok (.iload_n 2, 1) := by decide +kernel
theorem dX0_bestSquare_36 : decode cX0_bestSquare 36 = .ok (.if_icmp .eq 9, 3) := by decide +kernel
theorem dX0_bestSquare_39 : decode cX0_bestSquare 39 = .ok (.iinc 3 1, 3) := by decide +kernel
theorem dX0_bestSquare_42 : decode cX0_bestSquare 42 = .ok (.goto (-30), 3) := by decide +kernel
theorem dX0_bestSquare_45 : decode cX0_bestSquare 45 = .ok (.iload_n 3, 1) := by decide +kernel
theorem dX0_bestSquare_46 : decode cX0_bestSquare 46 = .ok (.ireturn, 1) := by decide +kernel
set_option maxRecDepth 20000 in
theorem ggX0_worthAfterPlacing_X0_winningSquares : GoodIn wsX0_worthAfterPlacing wsX0_winningSquares := goodIn_r _ [6, 7, 8, 9, 10, 5, 11, 12, 13, 14, 15, 16, 17, 18, 19, 20, 21, 22, 23, 24, 25, 26, 27, 28, 29, 78, 79, 80, 81, 82, 83, 84, 85, 86, 87, 88] (by decide +kernel) (by decide +kernel)
set_option maxRecDepth 20000 in
theorem gX0_worthAfterPlacing_X0_winningSquares : GoodIn wsX0_worthAfterPlacing (wsV RX0 97 RX0 yX0_winningSquares wsX0_winningSquares) := goodIn_app (goodIn_of _ (by decide +kernel)) ggX0_worthAfterPlacing_X0_winningSquares
set_option maxRecDepth 20000 in
theorem ggX0_worthAfterPlacing_X0_has : GoodIn wsX0_worthAfterPlacing wsX0_has := goodIn_r _ [32] (by decide +kernel) (by decide +kernel)
set_option maxRecDepth 20000 in
theorem gX0_worthAfterPlacing_X0_has : GoodIn wsX0_worthAfterPlacing (va_wsS RX0 58 yX0_has wsX0_has) := goodIn_app (goodIn_of _ (by decide +kernel)) ggX0_worthAfterPlacing_X0_has
set_option maxRecDepth 20000 in
theorem ggX0_worthAfterPlacing_X0_put : GoodIn wsX0_worthAfterPlacing wsX0_put := goodIn_r _ [36, 8, 37, 25, 38, 39, 5, 40, 41, 42, 43, 78, 79, 80, 81, 82, 83, 84, 85, 86, 87, 88] (by decide +kernel) (by decide +kernel)
set_option maxRecDepth 20000 in
theorem gX0_worthAfterPlacing_X0_put : GoodIn wsX0_worthAfterPlacing (wsV RX0 70 RX0 yX0_put wsX0_put) := goodIn_app (goodIn_of _ (by decide +kernel)) ggX0_worthAfterPlacing_X0_put
set_option maxRecDepth 20000 in
theorem ggX0_worthAfterPlacing_X0_worthToGive : GoodIn wsX0_worthAfterPlacing wsX0_worthToGive := goodIn_r _ [47, 48, 49, 50, 5, 51, 52, 53, 54, 55, 37, 56, 57, 58, 59, 7, 12, 13, 14, 15, 16, 17, 18, 19, 20, 8, 21, 22, 23, 24, 25, 26, 27, 28, 29, 30, 31, 32, 9, 10, 11, 60, 61, 62, 63, 64, 65, 66, 67, 33, 34, 35, 36, 38, 39, 40, 41, 42, 43, 68, 69, 70, 71, 72, 73, 74, 75, 76, 77, 78, 79, 80, 81, 82, 83, 84, 85, 86, 87, 88] (by decide +kernel) (by decide +kernel)
set_option maxRecDepth 20000 in
theorem gX0_worthAfterPlacing_X0_worthToGive : GoodIn wsX0_worthAfterPlacing (wsV RX0 113 RX0 yX0_worthToGive wsX0_worthToGive) := goodIn_app (goodIn_of _ (by decide +kernel)) ggX0_worthAfterPlacing_X0_worthToGive
set_option maxRecDepth 20000 in
theorem ggX0_worthAfterPlacing_X0_lift : GoodIn wsX0_worthAfterPlacing wsX0_lift := goodIn_r _ [74, 8, 37, 25, 75, 76, 78, 79, 80, 81, 82, 83, 84, 85, 86, 87, 88] (by decide +kernel) (by decide +kernel)
set_option maxRecDepth 20000 in
theorem gX0_worthAfterPlacing_X0_lift : GoodIn wsX0_worthAfterPlacing (wsV RX0 167 RX0 yX0_lift wsX0_lift) := goodIn_app (goodIn_of _ (by decide +kernel)) ggX0_worthAfterPlacing_X0_lift
theorem dX0_worthAfterPlacing_0 : decode cX0_worthAfterPlacing 0 = .ok (.aload_n 0, 1) := by decide +kernel
theorem dX0_worthAfterPlacing_1 : decode cX0_worthAfterPlacing 1 = .ok (.aload_n 0, 1) := by decide +kernel
theorem dX0_worthAfterPlacing_2 : decode cX0_worthAfterPlacing 2 = .ok (.getfield 9, 3) := by decide +kernel
theorem dX0_worthAfterPlacing_5 : decode cX0_worthAfterPlacing 5 = .ok (.invokevirtual 97, 3) := by decide +kernel
theorem dX0_worthAfterPlacing_8 : decode cX0_worthAfterPlacing 8 = .ok (.iload_n 1, 1) := by decide +kernel
theorem dX0_worthAfterPlacing_9 : decode cX0_worthAfterPlacing 9 = .ok (.invokestatic 58, 3) := by decide +kernel
theorem dX0_worthAfterPlacing_12 : decode cX0_worthAfterPlacing 12 = .ok (.ifCond .eq 5, 3) := by decide +kernel
theorem dX0_worthAfterPlacing_15 : decode cX0_worthAfterPlacing 15 = .ok (.iconst 1, 1) := by decide +kernel
theorem dX0_worthAfterPlacing_16 : decode cX0_worthAfterPlacing 16 = .ok (.ireturn, 1) := by decide +kernel
theorem dX0_worthAfterPlacing_17 : decode cX0_worthAfterPlacing 17 = .ok (.aload_n 0, 1) := by decide +kernel
theorem dX0_worthAfterPlacing_18 : decode cX0_worthAfterPlacing 18 = .ok (.aload_n 0, 1) := by decide +kernel
theorem dX0_worthAfterPlacing_19 : decode cX0_worthAfterPlacing 19 = .ok (.getfield 9, 3) := by decide +kernel
theorem dX0_worthAfterPlacing_22 : decode cX0_worthAfterPlacing 22 = .ok (.iload_n 1, 1) := by decide +kernel
theorem dX0_worthAfterPlacing_23 : decode cX0_worthAfterPlacing 23 = .ok (.invokevirtual 70, 3) := by decide +kernel
theorem dX0_worthAfterPlacing_26 : decode cX0_worthAfterPlacing 26 = .ok (.aload_n 0, 1) := by decide +kernel
theorem dX0_worthAfterPlacing_27 : decode cX0_worthAfterPlacing 27 = .ok (.iload_n 2, 1) := by decide +kernel
theorem dX0_worthAfterPlacing_28 : decode cX0_worthAfterPlacing 28 = .ok (.iconst 1, 1) := by decide +kernel
theorem dX0_worthAfterPlacing_29 : decode cX0_worthAfterPlacing 29 = .ok (.isub, 1) := by decide +kernel
theorem dX0_worthAfterPlacing_30 : decode cX0_worthAfterPlacing 30 = .ok (.invokevirtual 113, 3) := by decide +kernel
theorem dX0_worthAfterPlacing_33 : decode cX0_worthAfterPlacing 33 = .ok (.istore_n 3, 1) := by decide +kernel
theorem dX0_worthAfterPlacing_34 : decode cX0_worthAfterPlacing 34 = .ok (.aload_n 0, 1) := by decide +kernel
theorem dX0_worthAfterPlacing_35 : decode cX0_worthAfterPlacing 35 = .ok (.aload_n 0, 1) := by decide +kernel
theorem dX0_worthAfterPlacing_36 : decode cX0_worthAfterPlacing 36 = .ok (.getfield 9, 3) := by decide +kernel
theorem dX0_worthAfterPlacing_39 : decode cX0_worthAfterPlacing 39 = .ok (.iload_n 1, 1) := by decide +kernel
theorem dX0_worthAfterPlacing_40 : decode cX0_worthAfterPlacing 40 = .ok (.invokevirtual 167, 3) := by decide +kernel
theorem dX0_worthAfterPlacing_43 : decode cX0_worthAfterPlacing 43 = .ok (.iload_n 3, 1) := by decide +kernel
theorem dX0_worthAfterPlacing_44 : decode cX0_worthAfterPlacing 44 = .ok (.ireturn, 1) := by decide +kernel
set_option maxRecDepth 20000 in
theorem ggX0_worthToGive_X0_giverWins : GoodIn wsX0_worthToGive wsX0_giverWins := goodIn_r _ [5, 6, 7, 8, 4, 9, 10, 11, 12, 13, 14, 15, 16, 17, 18, 19, 20, 21, 22, 23, 24, 25, 26, 27, 28, 29, 30, 31, 32, 33, 34, 35, 36, 37, 38, 39, 40, 41, 42, 43, 44, 45, 46, 47, 48, 49, 50, 51, 52, 53, 54, 55, 56, 57, 58, 59, 60, 61, 62, 63, 64, 65, 66, 67, 68, 1, 2, 3, 69, 70, 71, 72, 73, 74, 75, 76, 77, 78, 79] (by decide +kernel) (by decide +kernel)
set_option maxRecDepth 20000 in
theorem gX0_worthToGive_X0_giverWins : GoodIn wsX0_worthToGive (wsV RX0 170 RX0 yX0_giverWins wsX0_giverWins) := goodIn_app (goodIn_of _ (by decide +kernel)) ggX0_worthToGive_X0_giverWins
set_option maxRecDepth 20000 in
theorem ggX0_worthToGive_X0_giverLoses : GoodIn wsX0_worthToGive wsX0_giverLoses := goodIn_r _ [44, 25, 34, 6, 7, 8, 4, 9, 10, 11, 12, 13, 14, 15, 16, 17, 18, 19, 20, 21, 22, 23, 24, 26, 27, 28, 29, 30, 31, 32, 33, 35, 36, 37, 38, 39, 40, 45, 46, 47, 5, 41, 42, 43, 48, 49, 50, 51, 52, 53, 54, 55, 56, 57, 58, 59, 60, 61, 62, 63, 64, 65, 66, 67, 68, 1, 2, 3, 69, 70, 71, 72, 73, 74, 75, 76, 77, 78, 79] (by decide +kernel) (by decide +kernel)
set_option maxRecDepth 20000 in
theorem gX0_worthToGive_X0_giverLoses : GoodIn wsX0_worthToGive (wsV RX0 173 RX0 yX0_giverLoses wsX0_giverLoses) := goodIn_app (goodIn_of _ (by decide +kernel)) ggX0_worthToGive_X0_giverLoses
theorem dX0_worthToGive_0 : decode cX0_worthToGive 0 = .ok (.aload_n 0, 1) := by decide +kernel
theorem dX0_worthToGive_1 : decode cX0_worthToGive 1 = .ok (.iload_n 1, 1) := by decide +kernel
theorem dX0_worthToGive_2 : decode cX0_worthToGive 2 = .ok (.invokevirtual 170, 3) := by decide +kernel
theorem dX0_worthToGive_5 : decode cX0_worthToGive 5 = .ok (.ifCond .eq 5, 3) := by decide +kernel
theorem dX0_worthToGive_8 : decode cX0_worthToGive 8 = .ok (.iconst 1, 1) := by decide +kernel
theorem dX0_worthToGive_9 : decode cX0_worthToGive 9 = .ok (.ireturn, 1) := by decide +kernel
theorem dX0_worthToGive_10 : decode cX0_worthToGive 10 = .ok (.aload_n 0, 1) := by decide +kernel
theorem dX0_worthToGive_11 : decode cX0_worthToGive 11 = .ok (.iload_n 1, 1) := by decide +kernel
theorem dX0_worthToGive_12 : decode cX0_worthToGive 12 = .ok (.invokevirtual 173, 3) := by decide +kernel
theorem dX0_worthToGive_15 : decode cX0_worthToGive 15 = .ok (.ifCond .eq 7, 3) := by decide +kernel
theorem dX0_worthToGive_18 : decode cX0_worthToGive 18 = .ok (.iconst (-1), 1) := by decide +kernel
theorem dX0_worthToGive_19 : decode cX0_worthToGive 19 = .ok (.goto 4, 3) := by decide +kernel
theorem dX0_worthToGive_22 : decode cX0_worthToGive 22 = .ok (.iconst 0, 1) := by decide +kernel
theorem dX0_worthToGive_23 : decode cX0_worthToGive 23 = .ok (.ireturn, 1) := by decide +kernel
set_option maxRecDepth 20000 in
theorem ggX0_worthToPlace_X0_winningSquares : GoodIn wsX0_worthToPlace wsX0_winningSquares := goodIn_r _ [5, 6, 7, 8, 9, 4, 10, 11, 12, 13, 14, 15, 16, 17, 18, 19, 20, 21, 22, 23, 24, 25, 26, 27, 28, 73, 74, 75, 76, 77, 78, 79, 80, 81, 82, 83] (by decide +kernel) (by decide +kernel)
set_option maxRecDepth 20000 in
theorem gX0_worthToPlace_X0_winningSquares : GoodIn wsX0_worthToPlace (wsV RX0 97 RX0 yX0_winningSquares wsX0_winningSquares) := goodIn_app (goodIn_of _ (by decide +kernel)) ggX0_worthToPlace_X0_winningSquares
set_option maxRecDepth 20000 in
theorem ggX0_worthToPlace_X0_placerWinsLater : GoodIn wsX0_worthToPlace wsX0_placerWinsLater := goodIn_r _ [32, 7, 33, 34, 4, 35, 36, 37, 38, 39, 40, 24, 41, 42, 43, 44, 45, 46, 47, 48, 49, 50, 51, 52, 53, 54, 55, 56, 28, 57, 58, 59, 60, 61, 62, 63, 64, 6, 11, 12, 13, 14, 15, 16, 17, 18, 19, 20, 21, 22, 23, 25, 26, 27, 8, 9, 10, 29, 30, 31, 65, 66, 67, 68, 69, 70, 71, 72, 73, 74, 75, 76, 77, 78, 79, 80, 81, 82, 83] (by decide +kernel) (by decide +kernel)
set_option maxRecDepth 20000 in
theorem gX0_worthToPlace_X0_placerWinsLater : GoodIn wsX0_worthToPlace (wsV RX0 176 RX0 yX0_placerWinsLater wsX0_placerWinsLater) := goodIn_app (goodIn_of _ (by decide +kernel)) ggX0_worthToPlace_X0_placerWinsLater
set_option maxRecDepth 20000 in
theorem ggX0_worthToPlace_X0_placerLoses : GoodIn wsX0_worthToPlace wsX0_placerLoses := goodIn_r _ [69, 7, 33, 34, 4, 35, 36, 37, 38, 39, 40, 24, 41, 42, 43, 44, 45, 46, 70, 71, 72, 50, 51, 52, 53, 54, 55, 56, 28, 57, 58, 59, 60, 61, 62, 63, 64, 6, 11, 12, 13, 14, 15, 16, 17, 18, 19, 20, 21, 22, 23, 25, 26, 27, 8, 9, 10, 29, 30, 31, 65, 66, 67, 68, 32, 47, 48, 49, 73, 74, 75, 76, 77, 78, 79, 80, 81, 82, 83] (by decide +kernel) (by decide +kernel)
set_option maxRecDepth 20000 in
theorem gX0_worthToPlace_X0_placerLoses : GoodIn wsX0_worthToPlace (wsV RX0 179 RX0 yX0_placerLoses wsX0_placerLoses) := goodIn_app (goodIn_of _ (by decide +kernel)) ggX0_worthToPlace_X0_placerLoses
theorem dX0_worthToPlace_0 : decode cX0_worthToPlace 0 = .ok (.aload_n 0, 1) := by decide +kernel
theorem dX0_worthToPlace_1 : decode cX0_worthToPlace 1 = .ok (.iload_n 1, 1) := by decide +kernel
theorem dX0_worthToPlace_2 : decode cX0_worthToPlace 2 = .ok (.invokevirtual 97, 3) := by decide +kernel
theorem dX0_worthToPlace_5 : decode cX0_worthToPlace 5 = .ok (.ifCond .ne 12, 3) := by decide +kernel
theorem dX0_worthToPlace_8 : decode cX0_worthToPlace 8 = .ok (.aload_n 0, 1) := by decide +kernel
theorem dX0_worthToPlace_9 : decode cX0_worthToPlace 9 = .ok (.iload_n 1, 1) := by decide +kernel
theorem dX0_worthToPlace_10 : decode cX0_worthToPlace 10 = .ok (.iload_n 2, 1) := by decide +kernel
theorem dX0_worthToPlace_11 : decode cX0_worthToPlace 11 = .ok (.invokevirtual 176, 3) := by decide +kernel
theorem dX0_worthToPlace_14 : decode cX0_worthToPlace 14 = .ok (.ifCond .eq 5, 3) := by decide +kernel
theorem dX0_worthToPlace_17 : decode cX0_worthToPlace 17 = .ok (.iconst 1, 1) := by decide +kernel
theorem dX0_worthToPlace_18 : decode cX0_worthToPlace 18 = .ok (.ireturn, 1) := by decide +kernel
theorem dX0_worthToPlace_19 : decode cX0_worthToPlace 19 = .ok (.aload_n 0, 1) := by decide +kernel
theorem dX0_worthToPlace_20 : decode cX0_worthToPlace 20 = .ok (.iload_n 1, 1) := by decide +kernel
theorem dX0_worthToPlace_21 : decode cX0_worthToPlace 21 = .ok (.iload_n 2, 1) := by decide +kernel
theorem dX0_worthToPlace_22 : decode cX0_worthToPlace 22 = .ok (.invokevirtual 179, 3) := by decide +kernel
theorem dX0_worthToPlace_25 : decode cX0_worthToPlace 25 = .ok (.ifCond .eq 7, 3) := by decide +kernel
theorem dX0_worthToPlace_28 : decode cX0_worthToPlace 28 = .ok (.iconst (-1), 1) := by decide +kernel
theorem dX0_worthToPlace_29 : decode cX0_worthToPlace 29 = .ok (.goto 4, 3) := by decide +kernel
theorem dX0_worthToPlace_32 : decode cX0_worthToPlace 32 = .ok (.iconst 0, 1) := by decide +kernel
theorem dX0_worthToPlace_33 : decode cX0_worthToPlace 33 = .ok (.ireturn, 1) := by decide +kernel
set_option maxRecDepth 20000 in
theorem ggX0_giverWins_X0_safePieces : GoodIn wsX0_giverWins wsX0_safePieces := goodIn_r _ [5, 6, 7, 8, 9, 4, 10, 11, 12, 13, 14, 15, 16, 17, 18, 19, 20, 21, 22, 23, 24, 25, 26, 27, 28, 29, 30, 31, 32, 33, 34, 35, 36, 68, 69, 70, 71, 72, 73, 74, 75, 76, 77, 78] (by decide +kernel) (by decide +kernel)
set_option maxRecDepth 20000 in
theorem gX0_giverWins_X0_safePieces : GoodIn wsX0_giverWins (wsV RX0 100 RX0 yX0_safePieces wsX0_safePieces) := goodIn_app (goodIn_of _ (by decide +kernel)) ggX0_giverWins_X0_safePieces
set_option maxRecDepth 20000 in
theorem ggX0_giverWins_X0_has : GoodIn wsX0_giverWins wsX0_has := goodIn_r _ [33] (by decide +kernel) (by decide +kernel)
set_option maxRecDepth 20000 in
theorem gX0_giverWins_X0_has : GoodIn wsX0_giverWins (va_wsS RX0 58 yX0_has wsX0_has) := goodIn_app (goodIn_of _ (by decide +kernel)) ggX0_giverWins_X0_has
set_option maxRecDepth 20000 in
theorem ggX0_giverWins_X0_placerLoses : GoodIn wsX0_giverWins wsX0_placerLoses := goodIn_r _ [44, 21, 31, 32, 4, 33, 45, 46, 47, 48, 6, 26, 49, 50, 51, 52, 53, 54, 55, 56, 57, 58, 59, 60, 61, 62, 63, 40, 30, 1, 2, 3, 5, 7, 8, 9, 10, 11, 12, 13, 14, 15, 16, 17, 18, 19, 20, 22, 23, 24, 25, 27, 28, 29, 34, 35, 36, 41, 42, 43, 0, 37, 38, 39, 64, 65, 66, 67, 68, 69, 70, 71, 72, 73, 74, 75, 76, 77, 78] (by decide +kernel) (by decide +kernel)
set_option maxRecDepth 20000 in
theorem gX0_giverWins_X0_placerLoses : GoodIn wsX0_giverWins (wsV RX0 179 RX0 yX0_placerLoses wsX0_placerLoses) := goodIn_app (goodIn_of _ (by decide +kernel)) ggX0_giverWins_X0_placerLoses
theorem dX0_giverWins_0 : decode cX0_giverWins 0 = .ok (.iload_n 1, 1) := by decide +kernel
theorem dX0_giverWins_1 : decode cX0_giverWins 1 = .ok (.iconst 2, 1) := by decide +kernel
theorem dX0_giverWins_2 : decode cX0_giverWins 2 = .ok (.if_icmp .ge 5, 3) := by decide +kernel
theorem dX0_giverWins_5 : decode cX0_giverWins 5 = .ok (.iconst 0, 1) := by decide +kernel
theorem dX0_giverWins_6 : decode cX0_giverWins 6 = .ok (.ireturn, 1) := by decide +kernel
theorem dX0_giverWins_7 : decode cX0_giverWins 7 = .ok (.aload_n 0, 1) := by decide +kernel
theorem dX0_giverWins_8 : decode cX0_giverWins 8 = .ok (.invokevirtual 100, 3) := by decide +kernel
theorem dX0_giverWins_11 : decode cX0_giverWins 11 = .ok (.istore_n 2, 1) := by decide +kernel
theorem dX0_giverWins_12 : decode cX0_giverWins 12 = .ok (.iconst 0, 1) := by decide +kernel
theorem dX0_giverWins_13 : decode cX0_giverWins 13 = .ok (.istore_n 3, 1) := by decide +kernel
theorem dX0_giverWins_14 : decode cX0_giverWins 14 = .ok (.iload_n 3, 1) := by decide +kernel
theorem dX0_giverWins_15 : decode cX0_giverWins 15 = .ok (.bipush 16, 2) := by decide +kernel
theorem dX0_giverWins_17 : decode cX0_giverWins 17 = .ok (.if_icmp .ge 28, 3) := by decide +kernel
theorem dX0_giverWins_20 : decode cX0_giverWins 20 = .ok (.iload_n 2, 1) := by decide +kernel
theorem dX0_giverWins_21 : decode cX0_giverWins 21 = .ok (.iload_n 3, 1) := by decide +kernel
theorem dX0_giverWins_22 : decode cX0_giverWins 22 = .ok (.invokestatic 58, 3) := by decide +kernel
theorem dX0_giverWins_25 : decode cX0_giverWins 25 = .ok (.ifCond .eq 14, 3) := by decide +kernel
theorem dX0_giverWins_28 : decode cX0_giverWins 28 = .ok (.aload_n 0, 1) := by decide +kernel
theorem dX0_giverWins_29 : decode cX0_giverWins 29 = .ok (.iload_n 3, 1) := by decide +kernel
theorem dX0_giverWins_30 : decode cX0_giverWins 30 = .ok (.iload_n 1, 1) := by decide +kernel
theorem dX0_giverWins_31 : decode cX0_giverWins 31 = .ok (.invokevirtual 179, 3) := by decide +kernel
theorem dX0_giverWins_34 : decode cX0_giverWins 34 = .ok (.ifCond .eq 5, 3) := by decide +kernel
theorem dX0_giverWins_37 : decode cX0_giverWins 37 = .ok (.iconst 1, 1) := by decide +kernel
theorem dX0_giverWins_38 : decode cX0_giverWins 38 = .ok (.ireturn, 1) := by decide +kernel
theorem dX0_giverWins_39 : decode cX0_giverWins 39 = .ok (.iinc 3 1, 3) := by decide +kernel
theorem dX0_giverWins_42 : decode cX0_giverWins 42 = .ok (.goto (-28), 3) := by decide +kernel
theorem dX0_giverWins_45 : decode cX0_giverWins 45 = .ok (.iconst 0, 1) := by decide +kernel
theorem dX0_giverWins_46 : decode cX0_giverWins 46 = .ok (.ireturn, 1) := by decide +kernel
set_option maxRecDepth 20000 in
theorem ggX0_giverLoses_X0_safePieces : GoodIn wsX0_giverLoses wsX0_safePieces := goodIn_r _ [7, 8, 9, 10, 11, 6, 12, 13, 14, 15, 16, 17, 18, 19, 20, 21, 22, 1, 23, 24, 25, 26, 27, 28, 29, 30, 2, 31, 32, 33, 34, 35, 36, 68, 69, 70, 71, 72, 73, 74, 75, 76, 77, 78] (by decide +kernel) (by decide +kernel)
set_option maxRecDepth 20000 in
theorem gX0_giverLoses_X0_safePieces : GoodIn wsX0_giverLoses (wsV RX0 100 RX0 yX0_safePieces wsX0_safePieces) := goodIn_app (goodIn_of _ (by decide +kernel)) ggX0_giverLoses_X0_safePieces
set_option maxRecDepth 20000 in
theorem ggX0_giverLoses_X0_has : GoodIn wsX0_giverLoses wsX0_has := goodIn_r _ [33] (by decide +kernel) (by decide +kernel)
set_option maxRecDepth 20000 in
theorem gX0_giverLoses_X0_has : GoodIn wsX0_giverLoses (va_wsS RX0 58 yX0_has wsX0_has) := goodIn_app (goodIn_of _ (by decide +kernel)) ggX0_giverLoses_X0_has
set_option maxRecDepth 20000 in
theorem ggX0_giverLoses_X0_placerWinsLater : GoodIn wsX0_giverLoses wsX0_placerWinsLater := goodIn_r _ [64, 1, 31, 32, 6, 33, 45, 46, 47, 48, 8, 27, 49, 50, 51, 52, 53, 54, 65, 66, 67, 58, 59, 60, 61, 62, 63, 0, 2, 3, 4, 5, 7, 9, 10, 11, 12, 13, 14, 15, 16, 17, 18, 19, 20, 21, 22, 23, 24, 25, 26, 28, 29, 30, 34, 35, 36, 37, 38, 39, 40, 41, 42, 43, 44, 55, 56, 57, 68, 69, 70, 71, 72, 73, 74, 75, 76, 77, 78] (by decide +kernel) (by decide +kernel)
set_option maxRecDepth 20000 in
theorem gX0_giverLoses_X0_placerWinsLater : GoodIn wsX0_giverLoses (wsV RX0 176 RX0 yX0_placerWinsLater wsX0_placerWinsLater) := goodIn_app (goodIn_of _ (by decide +kernel)) ggX0_giverLoses_X0_placerWinsLater
theorem dX0_giverLoses_0 : decode cX0_giverLoses 0 = .ok (.iload_n 1, 1) := by decide +kernel
theorem dX0_giverLoses_1 : decode cX0_giverLoses 1 = .ok (.iconst 1, 1) := by decide +kernel
theorem dX0_giverLoses_2 : decode cX0_giverLoses 2 = .ok (.if_icmp .lt 12, 3) := by decide +kernel
theorem dX0_giverLoses_5 : decode cX0_giverLoses 5 = .ok (.aload_n 0, 1) := by decide +kernel
theorem dX0_giverLoses_6 : decode cX0_giverLoses 6 = .ok (.getfield 16, 3) := by decide +kernel
theorem dX0_giverLoses_9 : decode cX0_giverLoses 9 = .ok (.ldc 78, 2) := by decide +kernel
theorem dX0_giverLoses_11 : decode cX0_giverLoses 11 = .ok (.if_icmp .ne 5, 3) := by decide +kernel
theorem dX0_giverLoses_14 : decode cX0_giverLoses 14 = .ok (.iconst 0, 1) := by decide +kernel
theorem dX0_giverLoses_15 : decode cX0_giverLoses 15 = .ok (.ireturn, 1) := by decide +kernel
theorem dX0_giverLoses_16 : decode cX0_giverLoses 16 = .ok (.aload_n 0, 1) := by decide +kernel
theorem dX0_giverLoses_17 : decode cX0_giverLoses 17 = .ok (.invokevirtual 100, 3) := by decide +kernel
theorem dX0_giverLoses_20 : decode cX0_giverLoses 20 = .ok (.istore_n 2, 1) := by decide +kernel
theorem dX0_giverLoses_21 : decode cX0_giverLoses 21 = .ok (.iconst 0, 1) := by decide +kernel
theorem dX0_giverLoses_22 : decode cX0_giverLoses 22 = .ok (.istore_n 3, 1) := by decide +kernel
theorem dX0_giverLoses_23 : decode cX0_giverLoses 23 = .ok (.iload_n 3, 1) := by decide +kernel
theorem dX0_giverLoses_24 : decode cX0_giverLoses 24 = .ok (.bipush 16, 2) := by decide +kernel
theorem dX0_giverLoses_26 : decode cX0_giverLoses 26 = .ok (.if_icmp .ge 28, 3) := by decide +kernel
theorem dX0_giverLoses_29 : decode cX0_giverLoses 29 = .ok (.iload_n 2, 1) := by decide +kernel
theorem dX0_giverLoses_30 : decode cX0_giverLoses 30 = .ok (.iload_n 3, 1) := by decide +kernel
theorem dX0_giverLoses_31 : decode cX0_giverLoses 31 = .ok (.invokestatic 58, 3) := by decide +kernel
theorem dX0_giverLoses_34 : decode cX0_giverLoses 34 = .ok (.ifCond .eq 14, 3) := by decide +kernel
theorem dX0_giverLoses_37 : decode cX0_giverLoses 37 = .ok (.aload_n 0, 1) := by decide +kernel
theorem dX0_giverLoses_38 : decode cX0_giverLoses 38 = .ok (.iload_n 3, 1) := by decide +kernel
theorem dX0_giverLoses_39 : decode cX0_giverLoses 39 = .ok (.iload_n 1, 1) := by decide +kernel
theorem dX0_giverLoses_40 : decode cX0_giverLoses 40 = .ok (.invokevirtual 176, 3) := by decide +kernel
theorem dX0_giverLoses_43 : decode cX0_giverLoses 43 = .ok (.ifCond .ne 5, 3) := by decide +kernel
theorem dX0_giverLoses_46 : decode cX0_giverLoses 46 = .ok (.iconst 0, 1) := by decide +kernel
theorem dX0_giverLoses_47 : decode cX0_giverLoses 47 = .ok (.ireturn, 1) := by decide +kernel
theorem dX0_giverLoses_48 : decode cX0_giverLoses 48 = .ok (.iinc 3 1, 3) := by decide +kernel
theorem dX0_giverLoses_51 : decode cX0_giverLoses 51 = .ok (.goto (-28), 3) := by decide +kernel
theorem dX0_giverLoses_54 : decode cX0_giverLoses 54 = .ok (.iconst 1, 1) := by decide +kernel
theorem dX0_giverLoses_55 : decode cX0_giverLoses 55 = .ok (.ireturn, 1) := by decide +kernel
set_option maxRecDepth 20000 in
theorem ggX0_placerWinsLater_X0_has : GoodIn wsX0_placerWinsLater wsX0_has := goodIn_r _ [5] (by decide +kernel) (by decide +kernel)
set_option maxRecDepth 20000 in
theorem gX0_placerWinsLater_X0_has : GoodIn wsX0_placerWinsLater (va_wsS RX0 58 yX0_has wsX0_has) := goodIn_app (goodIn_of _ (by decide +kernel)) ggX0_placerWinsLater_X0_has
set_option maxRecDepth 20000 in
theorem ggX0_placerWinsLater_X0_put : GoodIn wsX0_placerWinsLater wsX0_put := goodIn_r _ [9, 1, 10, 11, 12, 13, 4, 14, 15, 16, 17, 68, 69, 70, 71, 72, 73, 74, 75, 76, 77, 78] (by decide +kernel) (by decide +kernel)
set_option maxRecDepth 20000 in
theorem gX0_placerWinsLater_X0_put : GoodIn wsX0_placerWinsLater (wsV RX0 70 RX0 yX0_put wsX0_put) := goodIn_app (goodIn_of _ (by decide +kernel)) ggX0_placerWinsLater_X0_put
set_option maxRecDepth 20000 in
theorem ggX0_placerWinsLater_X0_giverWins : GoodIn wsX0_placerWinsLater wsX0_giverWins := goodIn_r _ [60, 29, 30, 31, 4, 32, 10, 33, 34, 35, 36, 37, 38, 39, 40, 41, 42, 43, 44, 45, 46, 1, 47, 48, 49, 50, 11, 51, 52, 53, 28, 2, 3, 5, 54, 55, 56, 61, 62, 63, 27, 57, 58, 59, 64, 6, 7, 8, 9, 12, 13, 14, 15, 16, 17, 65, 66, 67, 21, 22, 23, 24, 25, 26, 0, 18, 19, 20, 68, 69, 70, 71, 72, 73, 74, 75, 76, 77, 78] (by decide +kernel) (by decide +kernel)
set_option maxRecDepth 20000 in
theorem gX0_placerWinsLater_X0_giverWins : GoodIn wsX0_placerWinsLater (wsV RX0 170 RX0 yX0_giverWins wsX0_giverWins) := goodIn_app (goodIn_of _ (by decide +kernel)) ggX0_placerWinsLater_X0_giverWins
set_option maxRecDepth 20000 in
theorem ggX0_placerWinsLater_X0_lift : GoodIn wsX0_placerWinsLater wsX0_lift := goodIn_r _ [24, 1, 10, 11, 25, 26, 68, 69, 70, 71, 72, 73, 74, 75, 76, 77, 78] (by decide +kernel) (by decide +kernel)
set_option maxRecDepth 20000 in
theorem gX0_placerWinsLater_X0_lift : GoodIn wsX0_placerWinsLater (wsV RX0 167 RX0 yX0_lift wsX0_lift) := goodIn_app (goodIn_of _ (by decide +kernel)) ggX0_placerWinsLater_X0_lift
theorem dX0_placerWinsLater_0 : decode cX0_placerWinsLater 0 = .ok (.iload_n 2, 1) := by decide +kernel
theorem dX0_placerWinsLater_1 : decode cX0_placerWinsLater 1 = .ok (.iconst 3, 1) := by decide +kernel
theorem dX0_placerWinsLater_2 : decode cX0_placerWinsLater 2 = .ok (.if_icmp .ge 5, 3) := by decide +kernel
theorem dX0_placerWinsLater_5 : decode cX0_placerWinsLater 5 = .ok (.iconst 0, 1) := by decide +kernel
theorem dX0_placerWinsLater_6 : decode cX0_placerWinsLater 6 = .ok (.ireturn, 1) := by decide +kernel
theorem dX0_placerWinsLater_7 : decode cX0_placerWinsLater 7 = .ok (.iconst 0, 1) := by decide +kernel
theorem dX0_placerWinsLater_8 : decode cX0_placerWinsLater 8 = .ok (.istore_n 3, 1) := by decide +kernel
theorem dX0_placerWinsLater_9 : decode cX0_placerWinsLater 9 = .ok (.iload_n 3, 1) := by decide +kernel
theorem dX0_placerWinsLater_10 : decode cX0_placerWinsLater 10 = .ok (.bipush 16, 2) := by decide +kernel
theorem dX0_placerWinsLater_12 : decode cX0_placerWinsLater 12 = .ok (.if_icmp .ge 48, 3) := by decide +kernel
theorem dX0_placerWinsLater_15 : decode cX0_placerWinsLater 15 = .ok (.aload_n 0, 1) := by decide +kernel
theorem dX0_placerWinsLater_16 : decode cX0_placerWinsLater 16 = .ok (.getfield 16, 3) := by decide +kernel
theorem dX0_placerWinsLater_19 : decode cX0_placerWinsLater 19 = .ok (.iload_n 3, 1) := by decide +kernel
theorem dX0_placerWinsLater_20 : decode cX0_placerWinsLater 20 = .ok (.invokestatic 58, 3) := by decide +kernel
theorem dX0_placerWinsLater_23 : decode cX0_placerWinsLater 23 = .ok (.ifCond .ne 31, 3) := by decide +kernel
theorem dX0_placerWinsLater_26 : decode cX0_placerWinsLater 26 = .ok (.aload_n 0, 1) := by decide +kernel
theorem dX0_placerWinsLater_27 : decode cX0_placerWinsLater 27 = .ok (.iload_n 1, 1) := by decide +kernel
theorem dX0_placerWinsLater_28 : decode cX0_placerWinsLater 28 = .ok (.iload_n 3, 1) := by decide +kernel
theorem dX0_placerWinsLater_29 : decode cX0_placerWinsLater 29 = .ok (.invokevirtual 70, 3) := by decide +kernel
theorem dX0_placerWinsLater_32 : decode cX0_placerWinsLater 32 = .ok (.aload_n 0, 1) := by decide +kernel
theorem dX0_placerWinsLater_33 : decode cX0_placerWinsLater 33 = .ok (.iload_n 2, 1) := by decide +kernel
theorem dX0_placerWinsLater_34 : decode cX0_placerWinsLater 34 = .ok (.iconst 1, 1) := by decide +kernel
theorem dX0_placerWinsLater_35 : decode cX0_placerWinsLater 35 = .ok (.isub, 1) := by decide +kernel
theorem dX0_placerWinsLater_36 : decode cX0_placerWinsLater 36 = .ok (.invokevirtual 170, 3) := by decide +kernel
theorem dX0_placerWinsLater_39 : decode cX0_placerWinsLater 39 = .ok (.istore 4, 2) := by decide +kernel
theorem dX0_placerWinsLater_41 : decode cX0_placerWinsLater 41 = .ok (.aload_n 0, 1) := by decide +kernel
theorem dX0_placerWinsLater_42 : decode cX0_placerWinsLater 42 = .ok (.iload_n 1, 1) := by decide +kernel
theorem dX0_placerWinsLater_43 : decode cX0_placerWinsLater 43 = .ok (.iload_n 3, 1) := by decide +kernel
theorem dX0_placerWinsLater_44 : decode cX0_placerWinsLater 44 = .ok (.invokevirtual 167, 3) := by decide +kernel
theorem dX0_placerWinsLater_47 : decode cX0_placerWinsLater 47 = .ok (.iload 4, 2) := by decide +kernel
theorem dX0_placerWinsLater_49 : decode cX0_placerWinsLater 49 = .ok (.ifCond .eq 5, 3) := by decide +kernel
theorem dX0_placerWinsLater_52 : decode cX0_placerWinsLater 52 = .ok (.iconst 1, 1) := by decide +kernel
theorem dX0_placerWinsLater_53 : decode cX0_placerWinsLater 53 = .ok (.ireturn, 1) := by decide +kernel
theorem dX0_placerWinsLater_54 : decode cX0_placerWinsLater 54 = .ok (.iinc 3 1, 3) := by decide +kernel
theorem dX0_placerWinsLater_57 : decode cX0_placerWinsLater 57 = .ok (.goto (-48), 3) := by decide +kernel
theorem dX0_placerWinsLater_60 : decode cX0_placerWinsLater 60 = .ok (.iconst 0, 1) := by decide +kernel
theorem dX0_placerWinsLater_61 : decode cX0_placerWinsLater 61 = .ok (.ireturn, 1) := by decide +kernel
set_option maxRecDepth 20000 in
theorem ggX0_placerLoses_X0_has : GoodIn wsX0_placerLoses wsX0_has := goodIn_r _ [5] (by decide +kernel) (by decide +kernel)
set_option maxRecDepth 20000 in
theorem gX0_placerLoses_X0_has : GoodIn wsX0_placerLoses (va_wsS RX0 58 yX0_has wsX0_has) := goodIn_app (goodIn_of _ (by decide +kernel)) ggX0_placerLoses_X0_has
set_option maxRecDepth 20000 in
theorem ggX0_placerLoses_X0_put : GoodIn wsX0_placerLoses wsX0_put := goodIn_r _ [9, 1, 10, 11, 12, 13, 4, 14, 15, 16, 17, 68, 69, 70, 71, 72, 73, 74, 75, 76, 77, 78] (by decide +kernel) (by decide +kernel)
set_option maxRecDepth 20000 in
theorem gX0_placerLoses_X0_put : GoodIn wsX0_placerLoses (wsV RX0 70 RX0 yX0_put wsX0_put) := goodIn_app (goodIn_of _ (by decide +kernel)) ggX0_placerLoses_X0_put
set_option maxRecDepth 20000 in
theorem ggX0_placerLoses_X0_giverLoses : GoodIn wsX0_placerLoses wsX0_giverLoses := goodIn_r _ [27, 1, 28, 29, 30, 31, 4, 32, 10, 33, 34, 35, 36, 37, 38, 39, 40, 41, 42, 43, 44, 45, 46, 47, 48, 49, 50, 11, 51, 52, 53, 2, 3, 5, 54, 55, 56, 57, 58, 59, 60, 61, 62, 63, 0, 6, 7, 8, 9, 12, 13, 14, 15, 16, 17, 18, 19, 20, 21, 22, 23, 24, 25, 26, 64, 65, 66, 67, 68, 69, 70, 71, 72, 73, 74, 75, 76, 77, 78] (by decide +kernel) (by decide +kernel)
set_option maxRecDepth 20000 in
theorem gX0_placerLoses_X0_giverLoses : GoodIn wsX0_placerLoses (wsV RX0 173 RX0 yX0_giverLoses wsX0_giverLoses) := goodIn_app (goodIn_of _ (by decide +kernel)) ggX0_placerLoses_X0_giverLoses
set_option maxRecDepth 20000 in
theorem ggX0_placerLoses_X0_lift : GoodIn wsX0_placerLoses wsX0_lift := goodIn_r _ [24, 1, 10, 11, 25, 26, 68, 69, 70, 71, 72, 73, 74, 75, 76, 77, 78] (by decide +kernel) (by decide +kernel)
set_option maxRecDepth 20000 in
theorem gX0_placerLoses_X0_lift : GoodIn wsX0_placerLoses (wsV RX0 167 RX0 yX0_lift wsX0_lift) := goodIn_app (goodIn_of _ (by decide +kernel)) ggX0_placerLoses_X0_lift
theorem dX0_placerLoses_0 : decode cX0_placerLoses 0 = .ok (.iload_n 2, 1) := by decide +kernel
theorem dX0_placerLoses_1 : decode cX0_placerLoses 1 = .ok (.iconst 2, 1) := by decide +kernel
theorem dX0_placerLoses_2 : decode cX0_placerLoses 2 = .ok (.if_icmp .ge 5, 3) := by decide +kernel
theorem dX0_placerLoses_5 : decode cX0_placerLoses 5 = .ok (.iconst 0, 1) := by decide +kernel
theorem dX0_placerLoses_6 : decode cX0_placerLoses 6 = .ok (.ireturn, 1) := by decide +kernel
theorem dX0_placerLoses_7 : decode cX0_placerLoses 7 = .ok (.iconst 0, 1) := by decide +kernel
theorem dX0_placerLoses_8 : decode cX0_placerLoses 8 = .ok (.istore_n 3, 1) := by decide +kernel
theorem dX0_placerLoses_9 : decode cX0_placerLoses 9 = .ok (.iload_n 3, 1) := by decide +kernel
theorem dX0_placerLoses_10 : decode cX0_placerLoses 10 = .ok (.bipush 16, 2) := by decide +kernel
theorem dX0_placerLoses_12 : decode cX0_placerLoses 12 = .ok (.if_icmp .ge 48, 3) := by decide +kernel
theorem dX0_placerLoses_15 : decode cX0_placerLoses 15 = .ok (.aload_n 0, 1) := by decide +kernel
theorem dX0_placerLoses_16 : decode cX0_placerLoses 16 = .ok (.getfield 16, 3) := by decide +kernel
theorem dX0_placerLoses_19 : decode cX0_placerLoses 19 = .ok (.iload_n 3, 1) := by decide +kernel
theorem dX0_placerLoses_20 : decode cX0_placerLoses 20 = .ok (.invokestatic 58, 3) := by decide +kernel
theorem dX0_placerLoses_23 : decode cX0_placerLoses 23 = .ok (.ifCond .ne 31, 3) := by decide +kernel
theorem dX0_placerLoses_26 : decode cX0_placerLoses 26 = .ok (.aload_n 0, 1) := by decide +kernel
theorem dX0_placerLoses_27 : decode cX0_placerLoses 27 = .ok (.iload_n 1, 1) := by decide +kernel
theorem dX0_placerLoses_28 : decode cX0_placerLoses 28 = .ok (.iload_n 3, 1) := by decide +kernel
theorem dX0_placerLoses_29 : decode cX0_placerLoses 29 = .ok (.invokevirtual 70, 3) := by decide +kernel
theorem dX0_placerLoses_32 : decode cX0_placerLoses 32 = .ok (.aload_n 0, 1) := by decide +kernel
theorem dX0_placerLoses_33 : decode cX0_placerLoses 33 = .ok (.iload_n 2, 1) := by decide +kernel
theorem dX0_placerLoses_34 : decode cX0_placerLoses 34 = .ok (.iconst 1, 1) := by decide +kernel
theorem dX0_placerLoses_35 : decode cX0_placerLoses 35 = .ok (.isub, 1) := by decide +kernel
theorem dX0_placerLoses_36 : decode cX0_placerLoses 36 = .ok (.invokevirtual 173, 3) := by decide +kernel
theorem dX0_placerLoses_39 : decode cX0_placerLoses 39 = .ok (.istore 4, 2) := by decide +kernel
theorem dX0_placerLoses_41 : decode cX0_placerLoses 41 = .ok (.aload_n 0, 1) := by decide +kernel
theorem dX0_placerLoses_42 : decode cX0_placerLoses 42 = .ok (.iload_n 1, 1) := by decide +kernel
theorem dX0_placerLoses_43 : decode cX0_placerLoses 43 = .ok (.iload_n 3, 1) := by decide +kernel
theorem dX0_placerLoses_44 : decode cX0_placerLoses 44 = .ok (.invokevirtual 167, 3) := by decide +kernel
theorem dX0_placerLoses_47 : decode cX0_placerLoses 47 = .ok (.iload 4, 2) := by decide +kernel
theorem dX0_placerLoses_49 : decode cX0_placerLoses 49 = .ok (.ifCond .ne 5, 3) := by decide +kernel
theorem dX0_placerLoses_52 : decode cX0_placerLoses 52 = .ok (.iconst 0, 1) := by decide +kernel
theorem dX0_placerLoses_53 : decode cX0_placerLoses 53 = .ok (.ireturn, 1) := by decide +kernel
theorem dX0_placerLoses_54 : decode cX0_placerLoses 54 = .ok (.iinc 3 1, 3) := by decide +kernel
theorem dX0_placerLoses_57 : decode cX0_placerLoses 57 = .ok (.goto (-48), 3) := by decide +kernel
theorem dX0_placerLoses_60 : decode cX0_placerLoses 60 = .ok (.iconst 1, 1) := by decide +kernel
theorem dX0_placerLoses_61 : decode cX0_placerLoses 61 = .ok (.ireturn, 1) := by decide +kernel
theorem dX0_turnedSquare_0 : decode cX0_turnedSquare 0 = .ok (.iload_n 0, 1) := by decide +kernel
theorem dX0_turnedSquare_1 : decode cX0_turnedSquare 1 = .ok (.iconst 4, 1) := by decide +kernel
theorem dX0_turnedSquare_2 : decode cX0_turnedSquare 2 = .ok (.idiv, 1) := by decide +kernel
theorem dX0_turnedSquare_3 : decode cX0_turnedSquare 3 = .ok (.istore_n 2, 1) := by decide +kernel
theorem dX0_turnedSquare_4 : decode cX0_turnedSquare 4 = .ok (.iload_n 0, 1) := by decide +kernel
theorem dX0_turnedSquare_5 : decode cX0_turnedSquare 5 = .ok (.iconst 4, 1) := by decide +kernel
theorem dX0_turnedSquare_6 : decode cX0_turnedSquare 6 = .ok (.irem, 1) := by decide +kernel
theorem dX0_turnedSquare_7 : decode cX0_turnedSquare 7 = .ok (.istore_n 3, 1) := by decide +kernel
theorem dX0_turnedSquare_8 : decode cX0_turnedSquare 8 = .ok (.iload_n 1, 1) := by decide +kernel
theorem dX0_turnedSquare_9 : decode cX0_turnedSquare 9 = .ok (.iconst 1, 1) := by decide +kernel
theorem dX0_turnedSquare_10 : decode cX0_turnedSquare 10 = .ok (.iand, 1) := by decide +kernel
theorem dX0_turnedSquare_11 : decode cX0_turnedSquare 11 = .ok (.ifCond .eq 11, 3) := by decide +kernel
theorem dX0_turnedSquare_14 : decode cX0_turnedSquare 14 = .ok (.iload_n 2, 1) := by decide +kernel
theorem dX0_turnedSquare_15 : decode cX0_turnedSquare 15 = .ok (.istore 4, 2) := by decide +kernel
theorem dX0_turnedSquare_17 : decode cX0_turnedSquare 17 = .ok (.iload_n 3, 1) := by decide +kernel
theorem dX0_turnedSquare_18 : decode cX0_turnedSquare 18 = .ok (.istore_n 2, 1) := by decide +kernel
theorem dX0_turnedSquare_19 : decode cX0_turnedSquare 19 = .ok (.iload 4, 2) := by decide +kernel
theorem dX0_turnedSquare_21 : decode cX0_turnedSquare 21 = .ok (.istore_n 3, 1) := by decide +kernel
theorem dX0_turnedSquare_22 : decode cX0_turnedSquare 22 = .ok (.iload_n 1, 1) := by decide +kernel
theorem dX0_turnedSquare_23 : decode cX0_turnedSquare 23 = .ok (.iconst 2, 1) := by decide +kernel
theorem dX0_turnedSquare_24 : decode cX0_turnedSquare 24 = .ok (.iand, 1) := by decide +kernel
theorem dX0_turnedSquare_25 : decode cX0_turnedSquare 25 = .ok (.ifCond .eq 7, 3) := by decide +kernel
theorem dX0_turnedSquare_28 : decode cX0_turnedSquare 28 = .ok (.iconst 3, 1) := by decide +kernel
theorem dX0_turnedSquare_29 : decode cX0_turnedSquare 29 = .ok (.iload_n 2, 1) := by decide +kernel
theorem dX0_turnedSquare_30 : decode cX0_turnedSquare 30 = .ok (.isub, 1) := by decide +kernel
theorem dX0_turnedSquare_31 : decode cX0_turnedSquare 31 = .ok (.istore_n 2, 1) := by decide +kernel
theorem dX0_turnedSquare_32 : decode cX0_turnedSquare 32 = .ok (.iload_n 1, 1) := by decide +kernel
theorem dX0_turnedSquare_33 : decode cX0_turnedSquare 33 = .ok (.iconst 4, 1) := by decide +kernel
theorem dX0_turnedSquare_34 : decode cX0_turnedSquare 34 = .ok (.iand, 1) := by decide +kernel
theorem dX0_turnedSquare_35 : decode cX0_turnedSquare 35 = .ok (.ifCond .eq 7, 3) := by decide +kernel
theorem dX0_turnedSquare_38 : decode cX0_turnedSquare 38 = .ok (.iconst 3, 1) := by decide +kernel
theorem dX0_turnedSquare_39 : decode cX0_turnedSquare 39 = .ok (.iload_n 3, 1) := by decide +kernel
theorem dX0_turnedSquare_40 : decode cX0_turnedSquare 40 = .ok (.isub, 1) := by decide +kernel
theorem dX0_turnedSquare_41 : decode cX0_turnedSquare 41 = .ok (.istore_n 3, 1) := by decide +kernel
theorem dX0_turnedSquare_42 : decode cX0_turnedSquare 42 = .ok (.iconst 4, 1) := by decide +kernel
theorem dX0_turnedSquare_43 : decode cX0_turnedSquare 43 = .ok (.iload_n 2, 1) := by decide +kernel
theorem dX0_turnedSquare_44 : decode cX0_turnedSquare 44 = .ok (.imul, 1) := by decide +kernel
theorem dX0_turnedSquare_45 : decode cX0_turnedSquare 45 = .ok (.iload_n 3, 1) := by decide +kernel
theorem dX0_turnedSquare_46 : decode cX0_turnedSquare 46 = .ok (.iadd, 1) := by decide +kernel
theorem dX0_turnedSquare_47 : decode cX0_turnedSquare 47 = .ok (.ireturn, 1) := by decide +kernel
set_option maxRecDepth 20000 in
theorem ggX0_turned_X0_turnedSquare : GoodIn wsX0_turned wsX0_turnedSquare := goodIn_r _ [5] (by decide +kernel) (by decide +kernel)
set_option maxRecDepth 20000 in
theorem gX0_turned_X0_turnedSquare : GoodIn wsX0_turned (va_wsS RX0 182 yX0_turnedSquare wsX0_turnedSquare) := goodIn_app (goodIn_of _ (by decide +kernel)) ggX0_turned_X0_turnedSquare
theorem dX0_turned_0 : decode cX0_turned 0 = .ok (.lconst 0, 1) := by decide +kernel
theorem dX0_turned_1 : decode cX0_turned 1 = .ok (.lstore_n 3, 1) := by decide +kernel
theorem dX0_turned_2 : decode cX0_turned 2 = .ok (.iconst 0, 1) := by decide +kernel
theorem dX0_turned_3 : decode cX0_turned 3 = .ok (.istore 5, 2) := by decide +kernel
theorem dX0_turned_5 : decode cX0_turned 5 = .ok (.iload 5, 2) := by decide +kernel
theorem dX0_turned_7 : decode cX0_turned 7 = .ok (.bipush 16, 2) := by decide +kernel
theorem dX0_turned_9 : decode cX0_turned 9 = .ok (.if_icmp .ge 27, 3) := by decide +kernel
theorem dX0_turned_12 : decode cX0_turned 12 = .ok (.lload_n 3, 1) := by decide +kernel
theorem dX0_turned_13 : decode cX0_turned 13 = .ok (.lload_n 0, 1) := by decide +kernel
theorem dX0_turned_14 : decode cX0_turned 14 = .ok (.iload 5, 2) := by decide +kernel
theorem dX0_turned_16 : decode cX0_turned 16 = .ok (.lushr, 1) := by decide +kernel
theorem dX0_turned_17 : decode cX0_turned 17 = .ok (.ldc2_w 151, 3) := by decide +kernel
theorem dX0_turned_20 : decode cX0_turned 20 = .ok (.land, 1) := by decide +kernel
theorem dX0_turned_21 : decode cX0_turned 21 = .ok (.iload 5, 2) := by decide +kernel
theorem dX0_turned_23 : decode cX0_turned 23 = .ok (.iload_n 2, 1) := by decide +kernel
theorem dX0_turned_24 : decode cX0_turned 24 = .ok (.invokestatic 182, 3) := by decide +kernel
theorem dX0_turned_27 : decode cX0_turned 27 = .ok (.lshl, 1) := by decide +kernel
theorem dX0_turned_28 : decode cX0_turned 28 = .ok (.lor, 1) := by decide +kernel
theorem dX0_turned_29 : decode cX0_turned 29 = .ok (.lstore_n 3, 1) := by decide +kernel
theorem dX0_turned_30 : decode cX0_turned 30 = .ok (.iinc 5 1, 3) := by decide +kernel
theorem dX0_turned_33 : decode cX0_turned 33 = .ok (.goto (-28), 3) := by decide +kernel
theorem dX0_turned_36 : decode cX0_turned 36 = .ok (.lload_n 3, 1) := by decide +kernel
theorem dX0_turned_37 : decode cX0_turned 37 = .ok (.lreturn, 1) := by decide +kernel
set_option maxRecDepth 20000 in
theorem ggX0_levelled_X0_withOne : GoodIn wsX0_levelled wsX0_withOne := goodIn_r _ [4, 5] (by decide +kernel) (by decide +kernel)
set_option maxRecDepth 20000 in
theorem gX0_levelled_X0_withOne : GoodIn wsX0_levelled (va_wsS RX0 79 yX0_withOne wsX0_withOne) := goodIn_app (goodIn_of _ (by decide +kernel)) ggX0_levelled_X0_withOne
theorem dX0_levelled_0 : decode cX0_levelled 0 = .ok (.iload_n 2, 1) := by decide +kernel
theorem dX0_levelled_1 : decode cX0_levelled 1 = .ok (.iload_n 2, 1) := by decide +kernel
theorem dX0_levelled_2 : decode cX0_levelled 2 = .ok (.ineg, 1) := by decide +kernel
theorem dX0_levelled_3 : decode cX0_levelled 3 = .ok (.iand, 1) := by decide +kernel
theorem dX0_levelled_4 : decode cX0_levelled 4 = .ok (.istore_n 3, 1) := by decide +kernel
theorem dX0_levelled_5 : decode cX0_levelled 5 = .ok (.lload_n 0, 1) := by decide +kernel
theorem dX0_levelled_6 : decode cX0_levelled 6 = .ok (.lstore 4, 2) := by decide +kernel
theorem dX0_levelled_8 : decode cX0_levelled 8 = .ok (.iconst 0, 1) := by decide +kernel
theorem dX0_levelled_9 : decode cX0_levelled 9 = .ok (.istore 6, 2) := by decide +kernel
theorem dX0_levelled_11 : decode cX0_levelled 11 = .ok (.iload 6, 2) := by decide +kernel
theorem dX0_levelled_13 : decode cX0_levelled 13 = .ok (.iconst 4, 1) := by decide +kernel
theorem dX0_levelled_14 : decode cX0_levelled 14 = .ok (.if_icmp .ge 33, 3) := by decide +kernel
theorem dX0_levelled_17 : decode cX0_levelled 17 = .ok (.lload_n 0, 1) := by decide +kernel
theorem dX0_levelled_18 : decode cX0_levelled 18 = .ok (.iload 6, 2) := by decide +kernel
theorem dX0_levelled_20 : decode cX0_levelled 20 = .ok (.invokestatic 79, 3) := by decide +kernel
theorem dX0_levelled_23 : decode cX0_levelled 23 = .ok (.iload_n 3, 1) := by decide +kernel
theorem dX0_levelled_24 : decode cX0_levelled 24 = .ok (.iand, 1) := by decide +kernel
theorem dX0_levelled_25 : decode cX0_levelled 25 = .ok (.ifCond .eq 16, 3) := by decide +kernel
theorem dX0_levelled_28 : decode cX0_levelled 28 = .ok (.lload 4, 2) := by decide +kernel
theorem dX0_levelled_30 : decode cX0_levelled 30 = .ok (.iload_n 2, 1) := by decide +kernel
theorem dX0_levelled_31 : decode cX0_levelled 31 = .ok (.i2l, 1) := by decide +kernel
theorem dX0_levelled_32 : decode cX0_levelled 32 = .ok (.bipush 16, 2) := by decide +kernel
theorem dX0_levelled_34 : decode cX0_levelled 34 = .ok (.iload 6, 2) := by decide +kernel
theorem dX0_levelled_36 : decode cX0_levelled 36 = .ok (.imul, 1) := by decide +kernel
theorem dX0_levelled_37 : decode cX0_levelled 37 = .ok (.lshl, 1) := by decide +kernel
theorem dX0_levelled_38 : decode cX0_levelled 38 = .ok (.lxor, 1) := by decide +kernel
theorem dX0_levelled_39 : decode cX0_levelled 39 = .ok (.lstore 4, 2) := by decide +kernel
theorem dX0_levelled_41 : decode cX0_levelled 41 = .ok (.iinc 6 1, 3) := by decide +kernel
theorem dX0_levelled_44 : decode cX0_levelled 44 = .ok (.goto (-33), 3) := by decide +kernel
theorem dX0_levelled_47 : decode cX0_levelled 47 = .ok (.lload 4, 2) := by decide +kernel
theorem dX0_levelled_49 : decode cX0_levelled 49 = .ok (.lreturn, 1) := by decide +kernel
set_option maxRecDepth 20000 in
theorem ggX0_waysOfMarks_X0_turned : GoodIn wsX0_waysOfMarks wsX0_turned := goodIn_r _ [6, 7, 8, 9, 5, 10] (by decide +kernel) (by decide +kernel)
set_option maxRecDepth 20000 in
theorem gX0_waysOfMarks_X0_turned : GoodIn wsX0_waysOfMarks (va_wsS RX0 185 yX0_turned wsX0_turned) := goodIn_app (goodIn_of _ (by decide +kernel)) ggX0_waysOfMarks_X0_turned
set_option maxRecDepth 20000 in
theorem ggX0_waysOfMarks_X0_levelled : GoodIn wsX0_waysOfMarks wsX0_levelled := goodIn_r _ [13, 14, 15, 5, 16, 17] (by decide +kernel) (by decide +kernel)
set_option maxRecDepth 20000 in
theorem gX0_waysOfMarks_X0_levelled : GoodIn wsX0_waysOfMarks (va_wsS RX0 189 yX0_levelled wsX0_levelled) := goodIn_app (goodIn_of _ (by decide +kernel)) ggX0_waysOfMarks_X0_levelled
set_option maxRecDepth 20000 in
theorem ggX0_waysOfMarks_X0_withOne : GoodIn wsX0_waysOfMarks wsX0_withOne := goodIn_r _ [16, 17] (by decide +kernel) (by decide +kernel)
set_option maxRecDepth 20000 in
theorem gX0_waysOfMarks_X0_withOne : GoodIn wsX0_waysOfMarks (va_wsS RX0 79 yX0_withOne wsX0_withOne) := goodIn_app (goodIn_of _ (by decide +kernel)) ggX0_waysOfMarks_X0_withOne
set_option maxRecDepth 20000 in
theorem ggX0_waysOfMarks_X0_equalMarks : GoodIn wsX0_waysOfMarks wsX0_equalMarks := goodIn_r _ [20, 14, 15, 5, 16, 17] (by decide +kernel) (by decide +kernel)
set_option maxRecDepth 20000 in
theorem gX0_waysOfMarks_X0_equalMarks : GoodIn wsX0_waysOfMarks (va_wsS RX0 192 yX0_equalMarks wsX0_equalMarks) := goodIn_app (goodIn_of _ (by decide +kernel)) ggX0_waysOfMarks_X0_equalMarks
theorem dX0_waysOfMarks_0 : decode cX0_waysOfMarks 0 = .ok (.aload_n 0, 1) := by decide +kernel
theorem dX0_waysOfMarks_1 : decode cX0_waysOfMarks 1 = .ok (.getfield 16, 3) := by decide +kernel
theorem dX0_waysOfMarks_4 : decode cX0_waysOfMarks 4 = .ok (.i2l, 1) := by decide +kernel
theorem dX0_waysOfMarks_5 : decode cX0_waysOfMarks 5 = .ok (.iload_n 1, 1) := by decide +kernel
theorem dX0_waysOfMarks_6 : decode cX0_waysOfMarks 6 = .ok (.invokestatic 185, 3) := by decide +kernel
theorem dX0_waysOfMarks_9 : decode cX0_waysOfMarks 9 = .ok (.l2i, 1) := by decide +kernel
theorem dX0_waysOfMarks_10 : decode cX0_waysOfMarks 10 = .ok (.iload_n 2, 1) := by decide +kernel
theorem dX0_waysOfMarks_11 : decode cX0_waysOfMarks 11 = .ok (.if_icmp .eq 5, 3) := by decide +kernel
theorem dX0_waysOfMarks_14 : decode cX0_waysOfMarks 14 = .ok (.iconst 0, 1) := by decide +kernel
theorem dX0_waysOfMarks_15 : decode cX0_waysOfMarks 15 = .ok (.ireturn, 1) := by decide +kernel
theorem dX0_waysOfMarks_16 : decode cX0_waysOfMarks 16 = .ok (.iload_n 2, 1) := by decide +kernel
theorem dX0_waysOfMarks_17 : decode cX0_waysOfMarks 17 = .ok (.ifCond .ne 7, 3) := by decide +kernel
theorem dX0_waysOfMarks_20 : decode cX0_waysOfMarks 20 = .ok (.sipush 384, 3) := by decide +kernel
theorem dX0_waysOfMarks_23 : decode cX0_waysOfMarks 23 = .ok (.ireturn, 1) := by decide +kernel
theorem dX0_waysOfMarks_24 : decode cX0_waysOfMarks 24 = .ok (.aload_n 0, 1) := by decide +kernel
theorem dX0_waysOfMarks_25 : decode cX0_waysOfMarks 25 = .ok (.getfield 38, 3) := by decide +kernel
theorem dX0_waysOfMarks_28 : decode cX0_waysOfMarks 28 = .ok (.iload_n 1, 1) := by decide +kernel
theorem dX0_waysOfMarks_29 : decode cX0_waysOfMarks 29 = .ok (.invokestatic 185, 3) := by decide +kernel
theorem dX0_waysOfMarks_32 : decode cX0_waysOfMarks 32 = .ok (.iload_n 2, 1) := by decide +kernel
theorem dX0_waysOfMarks_33 : decode cX0_waysOfMarks 33 = .ok (.invokestatic 189, 3) := by decide +kernel
theorem dX0_waysOfMarks_36 : decode cX0_waysOfMarks 36 = .ok (.lstore 5, 2) := by decide +kernel
theorem dX0_waysOfMarks_38 : decode cX0_waysOfMarks 38 = .ok (.lload_n 3, 1) := by decide +kernel
theorem dX0_waysOfMarks_39 : decode cX0_waysOfMarks 39 = .ok (.iload_n 2, 1) := by decide +kernel
theorem dX0_waysOfMarks_40 : decode cX0_waysOfMarks 40 = .ok (.invokestatic 189, 3) := by decide +kernel
theorem dX0_waysOfMarks_43 : decode cX0_waysOfMarks 43 = .ok (.lstore 7, 2) := by decide +kernel
theorem dX0_waysOfMarks_45 : decode cX0_waysOfMarks 45 = .ok (.iconst 1, 1) := by decide +kernel
theorem dX0_waysOfMarks_46 : decode cX0_waysOfMarks 46 = .ok (.istore 9, 2) := by decide +kernel
theorem dX0_waysOfMarks_48 : decode cX0_waysOfMarks 48 = .ok (.iconst 0, 1) := by decide +kernel
theorem dX0_waysOfMarks_49 : decode cX0_waysOfMarks 49 = .ok (.istore 10, 2) := by decide +kernel
theorem dX0_waysOfMarks_51 : decode cX0_waysOfMarks 51 = .ok (.iload 10, 2) := by decide +kernel
theorem dX0_waysOfMarks_53 : decode cX0_waysOfMarks 53 = .ok (.iconst 4, 1) := by decide +kernel
theorem dX0_waysOfMarks_54 : decode cX0_waysOfMarks 54 = .ok (.if_icmp .ge 41, 3) := by decide +kernel
theorem dX0_waysOfMarks_57 : decode cX0_waysOfMarks 57 = .ok (.lload 5, 2) := by decide +kernel
theorem dX0_waysOfMarks_59 : decode cX0_waysOfMarks 59 = .ok (.iload 10, 2) := by decide +kernel
theorem dX0_waysOfMarks_61 : decode cX0_waysOfMarks 61 = .ok (.invokestatic 79, 3) := by decide +kernel
theorem dX0_waysOfMarks_64 : decode cX0_waysOfMarks 64 = .ok (.istore 11, 2) := by decide +kernel
theorem dX0_waysOfMarks_66 : decode cX0_waysOfMarks 66 = .ok (.iload 9, 2) := by decide +kernel
theorem dX0_waysOfMarks_68 : decode cX0_waysOfMarks 68 = .ok (.lload 7, 2) := by decide +kernel
theorem dX0_waysOfMarks_70 : decode cX0_waysOfMarks 70 = .ok (.iconst 4, 1) := by decide +kernel
theorem dX0_waysOfMarks_71 : decode cX0_waysOfMarks 71 = .ok (.iload 11, 2) := by decide +kernel
theorem dX0_waysOfMarks_73 : decode cX0_waysOfMarks 73 = .ok (.invokestatic 192, 3) := by decide +kernel
theorem dX0_waysOfMarks_76 : decode cX0_waysOfMarks 76 = .ok (.lload 5, 2) := by decide +kernel
theorem dX0_waysOfMarks_78 : decode cX0_waysOfMarks 78 = .ok (.iload 10, 2) := by decide +kernel
theorem dX0_waysOfMarks_80 : decode cX0_waysOfMarks 80 = .ok (.iload 11, 2) := by decide +kernel
theorem dX0_waysOfMarks_82 : decode cX0_waysOfMarks 82 = .ok (.invokestatic 192, 3) := by decide +kernel
theorem dX0_waysOfMarks_85 : decode cX0_waysOfMarks 85 = .ok (.isub, 1) := by decide +kernel
theorem dX0_waysOfMarks_86 : decode cX0_waysOfMarks 86 = .ok (.imul, 1) := by decide +kernel
theorem dX0_waysOfMarks_87 : decode cX0_waysOfMarks 87 = .ok (.istore 9, 2) := by decide +kernel
theorem dX0_waysOfMarks_89 : decode cX0_waysOfMarks 89 = .ok (.iinc 10 1, 3) := by decide +kernel
theorem dX0_waysOfMarks_92 : decode cX0_waysOfMarks 92 = .ok (.goto (-41), 3) := by decide +kernel
theorem dX0_waysOfMarks_95 : decode cX0_waysOfMarks 95 = .ok (.iload 9, 2) := by decide +kernel
theorem dX0_waysOfMarks_97 : decode cX0_waysOfMarks 97 = .ok (.ireturn, 1) := by decide +kernel
set_option maxRecDepth 20000 in
theorem ggX0_equalMarks_X0_withOne : GoodIn wsX0_equalMarks wsX0_withOne := goodIn_r _ [4, 5] (by decide +kernel) (by decide +kernel)
set_option maxRecDepth 20000 in
theorem gX0_equalMarks_X0_withOne : GoodIn wsX0_equalMarks (va_wsS RX0 79 yX0_withOne wsX0_withOne) := goodIn_app (goodIn_of _ (by decide +kernel)) ggX0_equalMarks_X0_withOne
theorem dX0_equalMarks_0 : decode cX0_equalMarks 0 = .ok (.iconst 0, 1) := by decide +kernel
theorem dX0_equalMarks_1 : decode cX0_equalMarks 1 = .ok (.istore 4, 2) := by decide +kernel
theorem dX0_equalMarks_3 : decode cX0_equalMarks 3 = .ok (.iconst 0, 1) := by decide +kernel
theorem dX0_equalMarks_4 : decode cX0_equalMarks 4 = .ok (.istore 5, 2) := by decide +kernel
theorem dX0_equalMarks_6 : decode cX0_equalMarks 6 = .ok (.iload 5, 2) := by decide +kernel
theorem dX0_equalMarks_8 : decode cX0_equalMarks 8 = .ok (.iload_n 2, 1) := by decide +kernel
theorem dX0_equalMarks_9 : decode cX0_equalMarks 9 = .ok (.if_icmp .ge 22, 3) := by decide +kernel
theorem dX0_equalMarks_12 : decode cX0_equalMarks 12 = .ok (.lload_n 0, 1) := by decide +kernel
theorem dX0_equalMarks_13 : decode cX0_equalMarks 13 = .ok (.iload 5, 2) := by decide +kernel
theorem dX0_equalMarks_15 : decode cX0_equalMarks 15 = .ok (.invokestatic 79, 3) := by decide +kernel
theorem dX0_equalMarks_18 : decode cX0_equalMarks 18 = .ok (.iload_n 3, 1) := by decide +kernel
theorem dX0_equalMarks_19 : decode cX0_equalMarks 19 = .ok (.if_icmp .ne 6, 3) := by decide +kernel
theorem dX0_equalMarks_22 : decode cX0_equalMarks 22 = .ok (.iinc 4 1, 3) := by decide +kernel
theorem dX0_equalMarks_25 : decode cX0_equalMarks 25 = .ok (.iinc 5 1, 3) := by decide +kernel
theorem dX0_equalMarks_28 : decode cX0_equalMarks 28 = .ok (.goto (-22), 3) := by decide +kernel
theorem dX0_equalMarks_31 : decode cX0_equalMarks 31 = .ok (.iload 4, 2) := by decide +kernel
theorem dX0_equalMarks_33 : decode cX0_equalMarks 33 = .ok (.ireturn, 1) := by decide +kernel
theorem dJ6_bitCount_0f7a4_0 : decode cJ6_bitCount_0f7a4 0 = .ok (.iload_n 0, 1) := by decide +kernel
theorem dJ6_bitCount_0f7a4_1 : decode cJ6_bitCount_0f7a4 1 = .ok (.iload_n 0, 1) := by decide +kernel
theorem dJ6_bitCount_0f7a4_2 : decode cJ6_bitCount_0f7a4 2 = .ok (.iconst 1, 1) := by decide +kernel
theorem dJ6_bitCount_0f7a4_3 : decode cJ6_bitCount_0f7a4 3 = .ok (.iushr, 1) := by decide +kernel
theorem dJ6_bitCount_0f7a4_4 : decode cJ6_bitCount_0f7a4 4 = .ok (.ldc_w 265, 3) := by decide +kernel
theorem dJ6_bitCount_0f7a4_7 : decode cJ6_bitCount_0f7a4 7 = .ok (.iand, 1) := by decide +kernel
theorem dJ6_bitCount_0f7a4_8 : decode cJ6_bitCount_0f7a4 8 = .ok (.isub, 1) := by decide +kernel
theorem dJ6_bitCount_0f7a4_9 : decode cJ6_bitCount_0f7a4 9 = .ok (.istore_n 0, 1) := by decide +kernel
theorem dJ6_bitCount_0f7a4_10 : decode cJ6_bitCount_0f7a4 10 = .ok (.iload_n 0, 1) := by decide +kernel
theorem dJ6_bitCount_0f7a4_11 : decode cJ6_bitCount_0f7a4 11 = .ok (.ldc_w 266, 3) := by decide +kernel
theorem dJ6_bitCount_0f7a4_14 : decode cJ6_bitCount_0f7a4 14 = .ok (.iand, 1) := by decide +kernel
theorem dJ6_bitCount_0f7a4_15 : decode cJ6_bitCount_0f7a4 15 = .ok (.iload_n 0, 1) := by decide +kernel
theorem dJ6_bitCount_0f7a4_16 : decode cJ6_bitCount_0f7a4 16 = .ok (.iconst 2, 1) := by decide +kernel
theorem dJ6_bitCount_0f7a4_17 : decode cJ6_bitCount_0f7a4 17 = .ok (.iushr, 1) := by decide +kernel
theorem dJ6_bitCount_0f7a4_18 : decode cJ6_bitCount_0f7a4 18 = .ok (.ldc_w 266, 3) := by decide +kernel
theorem dJ6_bitCount_0f7a4_21 : decode cJ6_bitCount_0f7a4 21 = .ok (.iand, 1) := by decide +kernel
theorem dJ6_bitCount_0f7a4_22 : decode cJ6_bitCount_0f7a4 22 = .ok (.iadd, 1) := by decide +kernel
theorem dJ6_bitCount_0f7a4_23 : decode cJ6_bitCount_0f7a4 23 = .ok (.istore_n 0, 1) := by decide +kernel
theorem dJ6_bitCount_0f7a4_24 : decode cJ6_bitCount_0f7a4 24 = .ok (.iload_n 0, 1) := by decide +kernel
theorem dJ6_bitCount_0f7a4_25 : decode cJ6_bitCount_0f7a4 25 = .ok (.iload_n 0, 1) := by decide +kernel
theorem dJ6_bitCount_0f7a4_26 : decode cJ6_bitCount_0f7a4 26 = .ok (.iconst 4, 1) := by decide +kernel
theorem dJ6_bitCount_0f7a4_27 : decode cJ6_bitCount_0f7a4 27 = .ok (.iushr, 1) := by decide +kernel
theorem dJ6_bitCount_0f7a4_28 : decode cJ6_bitCount_0f7a4 28 = .ok (.iadd, 1) := by decide +kernel
theorem dJ6_bitCount_0f7a4_29 : decode cJ6_bitCount_0f7a4 29 = .ok (.ldc_w 267, 3) := by decide +kernel
theorem dJ6_bitCount_0f7a4_32 : decode cJ6_bitCount_0f7a4 32 = .ok (.iand, 1) := by decide +kernel
theorem dJ6_bitCount_0f7a4_33 : decode cJ6_bitCount_0f7a4 33 = .ok (.istore_n 0, 1) := by decide +kernel
theorem dJ6_bitCount_0f7a4_34 : decode cJ6_bitCount_0f7a4 34 = .ok (.iload_n 0, 1) := by decide +kernel
theorem dJ6_bitCount_0f7a4_35 : decode cJ6_bitCount_0f7a4 35 = .ok (.iload_n 0, 1) := by decide +kernel
theorem dJ6_bitCount_0f7a4_36 : decode cJ6_bitCount_0f7a4 36 = .ok (.bipush 8, 2) := by decide +kernel
theorem dJ6_bitCount_0f7a4_38 : decode cJ6_bitCount_0f7a4 38 = .ok (.iushr, 1) := by decide +kernel
theorem dJ6_bitCount_0f7a4_39 : decode cJ6_bitCount_0f7a4 39 = .ok (.iadd, 1) := by decide +kernel
theorem dJ6_bitCount_0f7a4_40 : decode cJ6_bitCount_0f7a4 40 = .ok (.istore_n 0, 1) := by decide +kernel
theorem dJ6_bitCount_0f7a4_41 : decode cJ6_bitCount_0f7a4 41 = .ok (.iload_n 0, 1) := by decide +kernel
theorem dJ6_bitCount_0f7a4_42 : decode cJ6_bitCount_0f7a4 42 = .ok (.iload_n 0, 1) := by decide +kernel
theorem dJ6_bitCount_0f7a4_43 : decode cJ6_bitCount_0f7a4 43 = .ok (.bipush 16, 2) := by decide +kernel
theorem dJ6_bitCount_0f7a4_45 : decode cJ6_bitCount_0f7a4 45 = .ok (.iushr, 1) := by decide +kernel
theorem dJ6_bitCount_0f7a4_46 : decode cJ6_bitCount_0f7a4 46 = .ok (.iadd, 1) := by decide +kernel
theorem dJ6_bitCount_0f7a4_47 : decode cJ6_bitCount_0f7a4 47 = .ok (.istore_n 0, 1) := by decide +kernel
theorem dJ6_bitCount_0f7a4_48 : decode cJ6_bitCount_0f7a4 48 = .ok (.iload_n 0, 1) := by decide +kernel
theorem dJ6_bitCount_0f7a4_49 : decode cJ6_bitCount_0f7a4 49 = .ok (.bipush 63, 2) := by decide +kernel
theorem dJ6_bitCount_0f7a4_51 : decode cJ6_bitCount_0f7a4 51 = .ok (.iand, 1) := by decide +kernel
theorem dJ6_bitCount_0f7a4_52 : decode cJ6_bitCount_0f7a4 52 = .ok (.ireturn, 1) := by decide +kernel
end
section
theorem dX1_init_0 : decode cX1_init 0 = .ok (.aload_n 0, 1) := by decide +kernel
theorem dX1_init_1 : decode cX1_init 1 = .ok (.invokespecial 1, 3) := by decide +kernel
theorem dX1_init_4 : decode cX1_init 4 = .ok (.aload_n 0, 1) := by decide +kernel
theorem dX1_init_5 : decode cX1_init 5 = .ok (.bipush 16, 2) := by decide +kernel
theorem dX1_init_7 : decode cX1_init 7 = .ok (.newarray .int, 2) := by decide +kernel
theorem dX1_init_9 : decode cX1_init 9 = .ok (.putfield 7, 3) := by decide +kernel
theorem dX1_init_12 : decode cX1_init 12 = .ok (.aload_n 0, 1) := by decide +kernel
theorem dX1_init_13 : decode cX1_init 13 = .ok (.bipush 16, 2) := by decide +kernel
theorem dX1_init_15 : decode cX1_init 15 = .ok (.newarray .boolean, 2) := by decide +kernel
theorem dX1_init_17 : decode cX1_init 17 = .ok (.putfield 13, 3) := by decide +kernel
theorem dX1_init_20 : decode cX1_init 20 = .ok (.aload_n 0, 1) := by decide +kernel
theorem dX1_init_21 : decode cX1_init 21 = .ok (.iconst (-1), 1) := by decide +kernel
theorem dX1_init_22 : decode cX1_init 22 = .ok (.putfield 17, 3) := by decide +kernel
theorem dX1_init_25 : decode cX1_init 25 = .ok (.aload_n 0, 1) := by decide +kernel
theorem dX1_init_26 : decode cX1_init 26 = .ok (.iconst 0, 1) := by decide +kernel
theorem dX1_init_27 : decode cX1_init 27 = .ok (.putfield 21, 3) := by decide +kernel
theorem dX1_init_30 : decode cX1_init 30 = .ok (.aload_n 0, 1) := by decide +kernel
theorem dX1_init_31 : decode cX1_init 31 = .ok (.iconst (-1), 1) := by decide +kernel
theorem dX1_init_32 : decode cX1_init 32 = .ok (.putfield 24, 3) := by decide +kernel
theorem dX1_init_35 : decode cX1_init 35 = .ok (.aload_n 0, 1) := by decide +kernel
theorem dX1_init_36 : decode cX1_init 36 = .ok (.bipush 16, 2) := by decide +kernel
theorem dX1_init_38 : decode cX1_init 38 = .ok (.newarray .int, 2) := by decide +kernel
theorem dX1_init_40 : decode cX1_init 40 = .ok (.putfield 27, 3) := by decide +kernel
theorem dX1_init_43 : decode cX1_init 43 = .ok (.aload_n 0, 1) := by decide +kernel
theorem dX1_init_44 : decode cX1_init 44 = .ok (.bipush 10, 2) := by decide +kernel
theorem dX1_init_46 : decode cX1_init 46 = .ok (.newarray .int, 2) := by decide +kernel
theorem dX1_init_48 : decode cX1_init 48 = .ok (.putfield 30, 3) := by decide +kernel
theorem dX1_init_51 : decode cX1_init 51 = .ok (.aload_n 0, 1) := by decide +kernel
theorem dX1_init_52 : decode cX1_init 52 = .ok (.bipush 10, 2) := by decide +kernel
theorem dX1_init_54 : decode cX1_init 54 = .ok (.newarray .int, 2) := by decide +kernel
theorem dX1_init_56 : decode cX1_init 56 = .ok (.putfield 33, 3) := by decide +kernel
theorem dX1_init_59 : decode cX1_init 59 = .ok (.aload_n 0, 1) := by decide +kernel
theorem dX1_init_60 : decode cX1_init 60 = .ok (.bipush 10, 2) := by decide +kernel
theorem dX1_init_62 : decode cX1_init 62 = .ok (.newarray .int, 2) := by decide +kernel
theorem dX1_init_64 : decode cX1_init 64 = .ok (.putfield 36, 3) := by decide +kernel
theorem dX1_init_67 : decode cX1_init 67 = .ok (.aload_n 0, 1) := by decide +kernel
theorem dX1_init_68 : decode cX1_init 68 = .ok (.bipush 10, 2) := by decide +kernel
theorem dX1_init_70 : decode cX1_init 70 = .ok (.newarray .int, 2) := by decide +kernel
theorem dX1_init_72 : decode cX1_init 72 = .ok (.putfield 39, 3) := by decide +kernel
theorem dX1_init_75 : decode cX1_init 75 = .ok (.aload_n 0, 1) := by decide +kernel
theorem dX1_init_76 : decode cX1_init 76 = .ok (.bipush 10, 2) := by decide +kernel
theorem dX1_init_78 : decode cX1_init 78 = .ok (.newarray .int, 2) := by decide +kernel
theorem dX1_init_80 : decode cX1_init 80 = .ok (.putfield 42, 3) := by decide +kernel
theorem dX1_init_83 : decode cX1_init 83 = .ok (.aload_n 0, 1) := by decide +kernel
theorem dX1_init_84 : decode cX1_init 84 = .ok (.iconst 4, 1) := by decide +kernel
theorem dX1_init_85 : decode cX1_init 85 = .ok (.newarray .int, 2) := by decide +kernel
theorem dX1_init_87 : decode cX1_init 87 = .ok (.putfield 45, 3) := by decide +kernel
theorem dX1_init_90 : decode cX1_init 90 = .ok (.iconst 0, 1) := by decide +kernel
theorem dX1_init_91 : decode cX1_init 91 = .ok (.istore_n 1, 1) := by decide +kernel
theorem dX1_init_92 : decode cX1_init 92 = .ok (.iload_n 1, 1) := by decide +kernel
theorem dX1_init_93 : decode cX1_init 93 = .ok (.bipush 16, 2) := by decide +kernel
theorem dX1_init_95 : decode cX1_init 95 = .ok (.if_icmp .ge 16, 3) := by decide +kernel
theorem dX1_init_98 : decode cX1_init 98 = .ok (.aload_n 0, 1) := by decide +kernel
theorem dX1_init_99 : decode cX1_init 99 = .ok (.getfield 7, 3) := by decide +kernel
theorem dX1_init_102 : decode cX1_init 102 = .ok (.iload_n 1, 1) := by decide +kernel
theorem dX1_init_103 : decode cX1_init 103 = .ok (.iconst (-1), 1) := by decide +kernel
theorem dX1_init_104 : decode cX1_init 104 = .ok (.iastore, 1) := by decide +kernel
theorem dX1_init_105 : decode cX1_init 105 = .ok (.iinc 1 1, 3) := by decide +kernel
theorem dX1_init_108 : decode cX1_init 108 = .ok (.goto (-16), 3) := by decide +kernel
theorem dX1_init_111 : decode cX1_init 111 = .ok (.return_, 1) := by decide +kernel
theorem dX1_thrown_0 : decode cX1_thrown 0 = .ok (.aload_n 0, 1) := by decide +kernel
theorem dX1_thrown_1 : decode cX1_thrown 1 = .ok (.getfield 48, 3) := by decide +kernel
theorem dX1_thrown_4 : decode cX1_thrown 4 = .ok (.ireturn, 1) := by decide +kernel
theorem dX1_fails_0 : decode cX1_fails 0 = .ok (.aload_n 0, 1) := by decide +kernel
theorem dX1_fails_1 : decode cX1_fails 1 = .ok (.iload_n 1, 1) := by decide +kernel
theorem dX1_fails_2 : decode cX1_fails 2 = .ok (.putfield 48, 3) := by decide +kernel
theorem dX1_fails_5 : decode cX1_fails 5 = .ok (.iload_n 1, 1) := by decide +kernel
theorem dX1_fails_6 : decode cX1_fails 6 = .ok (.ifCond .le 7, 3) := by decide +kernel
theorem dX1_fails_9 : decode cX1_fails 9 = .ok (.iconst 1, 1) := by decide +kernel
theorem dX1_fails_10 : decode cX1_fails 10 = .ok (.goto 4, 3) := by decide +kernel
theorem dX1_fails_13 : decode cX1_fails 13 = .ok (.iconst 0, 1) := by decide +kernel
theorem dX1_fails_14 : decode cX1_fails 14 = .ok (.ireturn, 1) := by decide +kernel
theorem dX1_tells_0 : decode cX1_tells 0 = .ok (.aload_n 0, 1) := by decide +kernel
theorem dX1_tells_1 : decode cX1_tells 1 = .ok (.iconst 0, 1) := by decide +kernel
theorem dX1_tells_2 : decode cX1_tells 2 = .ok (.putfield 48, 3) := by decide +kernel
theorem dX1_tells_5 : decode cX1_tells 5 = .ok (.iload_n 1, 1) := by decide +kernel
theorem dX1_tells_6 : decode cX1_tells 6 = .ok (.ireturn, 1) := by decide +kernel
theorem dX1_isIn_0 : decode cX1_isIn 0 = .ok (.iload_n 0, 1) := by decide +kernel
theorem dX1_isIn_1 : decode cX1_isIn 1 = .ok (.ifCond .lt 12, 3) := by decide +kernel
theorem dX1_isIn_4 : decode cX1_isIn 4 = .ok (.iload_n 0, 1) := by decide +kernel
theorem dX1_isIn_5 : decode cX1_isIn 5 = .ok (.iload_n 1, 1) := by decide +kernel
theorem dX1_isIn_6 : decode cX1_isIn 6 = .ok (.if_icmp .ge 7, 3) := by decide +kernel
theorem dX1_isIn_9 : decode cX1_isIn 9 = .ok (.iconst 1, 1) := by decide +kernel
theorem dX1_isIn_10 : decode cX1_isIn 10 = .ok (.goto 4, 3) := by decide +kernel
theorem dX1_isIn_13 : decode cX1_isIn 13 = .ok (.iconst 0, 1) := by decide +kernel
theorem dX1_isIn_14 : decode cX1_isIn 14 = .ok (.ireturn, 1) := by decide +kernel
theorem dX1_many_0 : decode cX1_many 0 = .ok (.aload_n 0, 1) := by decide +kernel
theorem dX1_many_1 : decode cX1_many 1 = .ok (.getfield 51, 3) := by decide +kernel
theorem dX1_many_4 : decode cX1_many 4 = .ok (.ifCond .eq 8, 3) := by decide +kernel
theorem dX1_many_7 : decode cX1_many 7 = .ok (.bipush 19, 2) := by decide +kernel
theorem dX1_many_9 : decode cX1_many 9 = .ok (.goto 5, 3) := by decide +kernel
theorem dX1_many_12 : decode cX1_many 12 = .ok (.bipush 10, 2) := by decide +kernel
theorem dX1_many_14 : decode cX1_many 14 = .ok (.ireturn, 1) := by decide +kernel
theorem dX1_square_0 : decode cX1_square 0 = .ok (.iload_n 0, 1) := by decide +kernel
theorem dX1_square_1 : decode cX1_square 1 = .ok (.iconst 4, 1) := by decide +kernel
theorem dX1_square_2 : decode cX1_square 2 = .ok (.if_icmp .ge 9, 3) := by decide +kernel
theorem dX1_square_5 : decode cX1_square 5 = .ok (.iconst 4, 1) := by decide +kernel
theorem dX1_square_6 : decode cX1_square 6 = .ok (.iload_n 0, 1) := by decide +kernel
theorem dX1_square_7 : decode cX1_square 7 = .ok (.imul, 1) := by decide +kernel
theorem dX1_square_8 : decode cX1_square 8 = .ok (.iload_n 1, 1) := by decide +kernel
theorem dX1_square_9 : decode cX1_square 9 = .ok (.iadd, 1) := by decide +kernel
theorem dX1_square_10 : decode cX1_square 10 = .ok (.ireturn, 1) := by decide +kernel
theorem dX1_square_11 : decode cX1_square 11 = .ok (.iload_n 0, 1) := by decide +kernel
theorem dX1_square_12 : decode cX1_square 12 = .ok (.bipush 8, 2) := by decide +kernel
theorem dX1_square_14 : decode cX1_square 14 = .ok (.if_icmp .ge 11, 3) := by decide +kernel
theorem dX1_square_17 : decode cX1_square 17 = .ok (.iconst 4, 1) := by decide +kernel
theorem dX1_square_18 : decode cX1_square 18 = .ok (.iload_n 1, 1) := by decide +kernel
theorem dX1_square_19 : decode cX1_square 19 = .ok (.imul, 1) := by decide +kernel
theorem dX1_square_20 : decode cX1_square 20 = .ok (.iload_n 0, 1) := by decide +kernel
theorem dX1_square_21 : decode cX1_square 21 = .ok (.iadd, 1) := by decide +kernel
theorem dX1_square_22 : decode cX1_square 22 = .ok (.iconst 4, 1) := by decide +kernel
theorem dX1_square_23 : decode cX1_square 23 = .ok (.isub, 1) := by decide +kernel
theorem dX1_square_24 : decode cX1_square 24 = .ok (.ireturn, 1) := by decide +kernel
theorem dX1_square_25 : decode cX1_square 25 = .ok (.iload_n 0, 1) := by decide +kernel
theorem dX1_square_26 : decode cX1_square 26 = .ok (.bipush 10, 2) := by decide +kernel
theorem dX1_square_28 : decode cX1_square 28 = .ok (.if_icmp .ge 21, 3) := by decide +kernel
theorem dX1_square_31 : decode cX1_square 31 = .ok (.iload_n 0, 1) := by decide +kernel
theorem dX1_square_32 : decode cX1_square 32 = .ok (.bipush 8, 2) := by decide +kernel
theorem dX1_square_34 : decode cX1_square 34 = .ok (.if_icmp .ne 9, 3) := by decide +kernel
theorem dX1_square_37 : decode cX1_square 37 = .ok (.iconst 5, 1) := by decide +kernel
theorem dX1_square_38 : decode cX1_square 38 = .ok (.iload_n 1, 1) := by decide +kernel
theorem dX1_square_39 : decode cX1_square 39 = .ok (.imul, 1) := by decide +kernel
theorem dX1_square_40 : decode cX1_square 40 = .ok (.goto 8, 3) := by decide +kernel
theorem dX1_square_43 : decode cX1_square 43 = .ok (.iconst 3, 1) := by decide +kernel
theorem dX1_square_44 : decode cX1_square 44 = .ok (.iload_n 1, 1) := by decide +kernel
theorem dX1_square_45 : decode cX1_square 45 = .ok (.imul, 1) := by decide +kernel
theorem dX1_square_46 : decode cX1_square 46 = .ok (.iconst 3, 1) := by decide +kernel
theorem dX1_square_47 : decode cX1_square 47 = .ok (.iadd, 1) := by decide +kernel
theorem dX1_square_48 : decode cX1_square 48 = .ok (.ireturn, 1) := by decide +kernel
theorem dX1_square_49 : decode cX1_square 49 = .ok (.iload_n 0, 1) := by decide +kernel
theorem dX1_square_50 : decode cX1_square 50 = .ok (.bipush 10, 2) := by decide +kernel
theorem dX1_square_52 : decode cX1_square 52 = .ok (.isub, 1) := by decide +kernel
theorem dX1_square_53 : decode cX1_square 53 = .ok (.iconst 3, 1) := by decide +kernel
theorem dX1_square_54 : decode cX1_square 54 = .ok (.idiv, 1) := by decide +kernel
theorem dX1_square_55 : decode cX1_square 55 = .ok (.iload_n 1, 1) := by decide +kernel
theorem dX1_square_56 : decode cX1_square 56 = .ok (.iconst 2, 1) := by decide +kernel
theorem dX1_square_57 : decode cX1_square 57 = .ok (.idiv, 1) := by decide +kernel
theorem dX1_square_58 : decode cX1_square 58 = .ok (.iadd, 1) := by decide +kernel
theorem dX1_square_59 : decode cX1_square 59 = .ok (.istore_n 2, 1) := by decide +kernel
theorem dX1_square_60 : decode cX1_square 60 = .ok (.iconst 4, 1) := by decide +kernel
theorem dX1_square_61 : decode cX1_square 61 = .ok (.iload_n 2, 1) := by decide +kernel
theorem dX1_square_62 : decode cX1_square 62 = .ok (.imul, 1) := by decide +kernel
theorem dX1_square_63 : decode cX1_square 63 = .ok (.iload_n 0, 1) := by decide +kernel
theorem dX1_square_64 : decode cX1_square 64 = .ok (.bipush 10, 2) := by decide +kernel
theorem dX1_square_66 : decode cX1_square 66 = .ok (.isub, 1) := by decide +kernel
theorem dX1_square_67 : decode cX1_square 67 = .ok (.iconst 3, 1) := by decide +kernel
theorem dX1_square_68 : decode cX1_square 68 = .ok (.irem, 1) := by decide +kernel
theorem dX1_square_69 : decode cX1_square 69 = .ok (.iadd, 1) := by decide +kernel
theorem dX1_square_70 : decode cX1_square 70 = .ok (.iload_n 1, 1) := by decide +kernel
theorem dX1_square_71 : decode cX1_square 71 = .ok (.iconst 2, 1) := by decide +kernel
theorem dX1_square_72 : decode cX1_square 72 = .ok (.irem, 1) := by decide +kernel
theorem dX1_square_73 : decode cX1_square 73 = .ok (.iadd, 1) := by decide +kernel
theorem dX1_square_74 : decode cX1_square 74 = .ok (.ireturn, 1) := by decide +kernel
set_option maxRecDepth 20000 in
theorem ggX1_common_X1_square : GoodIn wsX1_common wsX1_square := goodIn_r _ [5] (by decide +kernel) (by decide +kernel)
set_option maxRecDepth 20000 in
theorem gX1_common_X1_square : GoodIn wsX1_common (va_wsS RX1 55 yX1_square wsX1_square) := goodIn_app (goodIn_of _ (by decide +kernel)) ggX1_common_X1_square
theorem dX1_common_0 : decode cX1_common 0 = .ok (.sipush 255, 3) := by decide +kernel
theorem dX1_common_3 : decode cX1_common 3 = .ok (.istore_n 2, 1) := by decide +kernel
theorem dX1_common_4 : decode cX1_common 4 = .ok (.iconst 0, 1) := by decide +kernel
theorem dX1_common_5 : decode cX1_common 5 = .ok (.istore_n 3, 1) := by decide +kernel
theorem dX1_common_6 : decode cX1_common 6 = .ok (.iload_n 3, 1) := by decide +kernel
theorem dX1_common_7 : decode cX1_common 7 = .ok (.iconst 4, 1) := by decide +kernel
theorem dX1_common_8 : decode cX1_common 8 = .ok (.if_icmp .ge 46, 3) := by decide +kernel
theorem dX1_common_11 : decode cX1_common 11 = .ok (.aload_n 0, 1) := by decide +kernel
theorem dX1_common_12 : decode cX1_common 12 = .ok (.getfield 7, 3) := by decide +kernel
theorem dX1_common_15 : decode cX1_common 15 = .ok (.iload_n 1, 1) := by decide +kernel
theorem dX1_common_16 : decode cX1_common 16 = .ok (.iload_n 3, 1) := by decide +kernel
theorem dX1_common_17 : decode cX1_common 17 = .ok (.invokestatic 55, 3) := by decide +kernel
theorem dX1_common_20 : decode cX1_common 20 = .ok (.iaload, 1) := by decide +kernel
theorem dX1_common_21 : decode cX1_common 21 = .ok (.istore 4, 2) := by decide +kernel
theorem dX1_common_23 : decode cX1_common 23 = .ok (.iload_n 2, 1) := by decide +kernel
theorem dX1_common_24 : decode cX1_common 24 = .ok (.iload 4, 2) := by decide +kernel
theorem dX1_common_26 : decode cX1_common 26 = .ok (.iconst (-1), 1) := by decide +kernel
theorem dX1_common_27 : decode cX1_common 27 = .ok (.if_icmp .ne 9, 3) := by decide +kernel
theorem dX1_common_30 : decode cX1_common 30 = .ok (.sipush 255, 3) := by decide +kernel
theorem dX1_common_33 : decode cX1_common 33 = .ok (.goto 13, 3) := by decide +kernel
theorem dX1_common_36 : decode cX1_common 36 = .ok (.iload 4, 2) := by decide +kernel
theorem dX1_common_38 : decode cX1_common 38 = .ok (.bipush 15, 2) := by decide +kernel
theorem dX1_common_40 : decode cX1_common 40 = .ok (.iload 4, 2) := by decide +kernel
theorem dX1_common_42 : decode cX1_common 42 = .ok (.isub, 1) := by decide +kernel
theorem dX1_common_43 : decode cX1_common 43 = .ok (.iconst 4, 1) := by decide +kernel
theorem dX1_common_44 : decode cX1_common 44 = .ok (.ishl, 1) := by decide +kernel
theorem dX1_common_45 : decode cX1_common 45 = .ok (.ior, 1) := by decide +kernel
theorem dX1_common_46 : decode cX1_common 46 = .ok (.iand, 1) := by decide +kernel
theorem dX1_common_47 : decode cX1_common 47 = .ok (.istore_n 2, 1) := by decide +kernel
theorem dX1_common_48 : decode cX1_common 48 = .ok (.iinc 3 1, 3) := by decide +kernel
theorem dX1_common_51 : decode cX1_common 51 = .ok (.goto (-45), 3) := by decide +kernel
theorem dX1_common_54 : decode cX1_common 54 = .ok (.iload_n 2, 1) := by decide +kernel
theorem dX1_common_55 : decode cX1_common 55 = .ok (.ireturn, 1) := by decide +kernel
set_option maxRecDepth 20000 in
theorem ggX1_full_X1_square : GoodIn wsX1_full wsX1_square := goodIn_r _ [5] (by decide +kernel) (by decide +kernel)
set_option maxRecDepth 20000 in
theorem gX1_full_X1_square : GoodIn wsX1_full (va_wsS RX1 55 yX1_square wsX1_square) := goodIn_app (goodIn_of _ (by decide +kernel)) ggX1_full_X1_square
theorem dX1_full_0 : decode cX1_full 0 = .ok (.iconst 0, 1) := by decide +kernel
theorem dX1_full_1 : decode cX1_full 1 = .ok (.istore_n 2, 1) := by decide +kernel
theorem dX1_full_2 : decode cX1_full 2 = .ok (.iconst 0, 1) := by decide +kernel
theorem dX1_full_3 : decode cX1_full 3 = .ok (.istore_n 3, 1) := by decide +kernel
theorem dX1_full_4 : decode cX1_full 4 = .ok (.iload_n 3, 1) := by decide +kernel
theorem dX1_full_5 : decode cX1_full 5 = .ok (.iconst 4, 1) := by decide +kernel
theorem dX1_full_6 : decode cX1_full 6 = .ok (.if_icmp .ge 31, 3) := by decide +kernel
theorem dX1_full_9 : decode cX1_full 9 = .ok (.iload_n 2, 1) := by decide +kernel
theorem dX1_full_10 : decode cX1_full 10 = .ok (.aload_n 0, 1) := by decide +kernel
theorem dX1_full_11 : decode cX1_full 11 = .ok (.getfield 7, 3) := by decide +kernel
theorem dX1_full_14 : decode cX1_full 14 = .ok (.iload_n 1, 1) := by decide +kernel
theorem dX1_full_15 : decode cX1_full 15 = .ok (.iload_n 3, 1) := by decide +kernel
theorem dX1_full_16 : decode cX1_full 16 = .ok (.invokestatic 55, 3) := by decide +kernel
theorem dX1_full_19 : decode cX1_full 19 = .ok (.iaload, 1) := by decide +kernel
theorem dX1_full_20 : decode cX1_full 20 = .ok (.iconst (-1), 1) := by decide +kernel
theorem dX1_full_21 : decode cX1_full 21 = .ok (.if_icmp .ne 7, 3) := by decide +kernel
theorem dX1_full_24 : decode cX1_full 24 = .ok (.iconst 0, 1) := by decide +kernel
theorem dX1_full_25 : decode cX1_full 25 = .ok (.goto 4, 3) := by decide +kernel
theorem dX1_full_28 : decode cX1_full 28 = .ok (.iconst 1, 1) := by decide +kernel
theorem dX1_full_29 : decode cX1_full 29 = .ok (.iadd, 1) := by decide +kernel
theorem dX1_full_30 : decode cX1_full 30 = .ok (.istore_n 2, 1) := by decide +kernel
theorem dX1_full_31 : decode cX1_full 31 = .ok (.iinc 3 1, 3) := by decide +kernel
theorem dX1_full_34 : decode cX1_full 34 = .ok (.goto (-30), 3) := by decide +kernel
theorem dX1_full_37 : decode cX1_full 37 = .ok (.iload_n 2, 1) := by decide +kernel
theorem dX1_full_38 : decode cX1_full 38 = .ok (.ireturn, 1) := by decide +kernel
set_option maxRecDepth 20000 in
theorem ggX1_won_X1_many : GoodIn wsX1_won wsX1_many := goodIn_r _ [5, 6, 19, 20, 21, 22, 23, 24, 25, 26, 27, 28, 29, 30, 31, 32, 33, 34, 35] (by decide +kernel) (by decide +kernel)
set_option maxRecDepth 20000 in
theorem gX1_won_X1_many : GoodIn wsX1_won (wsV RX1 59 RX1 yX1_many wsX1_many) := goodIn_app (goodIn_of _ (by decide +kernel)) ggX1_won_X1_many
set_option maxRecDepth 20000 in
theorem ggX1_won_X1_square : GoodIn wsX1_won wsX1_square := goodIn_r _ [9] (by decide +kernel) (by decide +kernel)
set_option maxRecDepth 20000 in
theorem gX1_won_X1_square : GoodIn wsX1_won (va_wsS RX1 55 yX1_square wsX1_square) := goodIn_app (goodIn_of _ (by decide +kernel)) ggX1_won_X1_square
set_option maxRecDepth 20000 in
theorem ggX1_won_X1_full : GoodIn wsX1_won wsX1_full := goodIn_r _ [13, 14, 7, 8, 4, 9, 19, 20, 21, 22, 23, 24, 25, 26, 27, 28, 29, 30, 31, 32, 33, 34, 35] (by decide +kernel) (by decide +kernel)
set_option maxRecDepth 20000 in
theorem gX1_won_X1_full : GoodIn wsX1_won (wsV RX1 63 RX1 yX1_full wsX1_full) := goodIn_app (goodIn_of _ (by decide +kernel)) ggX1_won_X1_full
set_option maxRecDepth 20000 in
theorem ggX1_won_X1_common : GoodIn wsX1_won wsX1_common := goodIn_r _ [18, 14, 7, 8, 4, 9, 19, 20, 21, 22, 23, 24, 25, 26, 27, 28, 29, 30, 31, 32, 33, 34, 35] (by decide +kernel) (by decide +kernel)
set_option maxRecDepth 20000 in
theorem gX1_won_X1_common : GoodIn wsX1_won (wsV RX1 67 RX1 yX1_common wsX1_common) := goodIn_app (goodIn_of _ (by decide +kernel)) ggX1_won_X1_common
theorem dX1_won_0 : decode cX1_won 0 = .ok (.iconst 0, 1) := by decide +kernel
theorem dX1_won_1 : decode cX1_won 1 = .ok (.istore_n 2, 1) := by decide +kernel
theorem dX1_won_2 : decode cX1_won 2 = .ok (.iconst 0, 1) := by decide +kernel
theorem dX1_won_3 : decode cX1_won 3 = .ok (.istore_n 3, 1) := by decide +kernel
theorem dX1_won_4 : decode cX1_won 4 = .ok (.iload_n 3, 1) := by decide +kernel
theorem dX1_won_5 : decode cX1_won 5 = .ok (.aload_n 0, 1) := by decide +kernel
theorem dX1_won_6 : decode cX1_won 6 = .ok (.invokevirtual 59, 3) := by decide +kernel
theorem dX1_won_9 : decode cX1_won 9 = .ok (.if_icmp .ge 79, 3) := by decide +kernel
theorem dX1_won_12 : decode cX1_won 12 = .ok (.iconst 0, 1) := by decide +kernel
theorem dX1_won_13 : decode cX1_won 13 = .ok (.istore 4, 2) := by decide +kernel
theorem dX1_won_15 : decode cX1_won 15 = .ok (.iconst 0, 1) := by decide +kernel
theorem dX1_won_16 : decode cX1_won 16 = .ok (.istore 5, 2) := by decide +kernel
theorem dX1_won_18 : decode cX1_won 18 = .ok (.iload 5, 2) := by decide +kernel
theorem dX1_won_20 : decode cX1_won 20 = .ok (.iconst 4, 1) := by decide +kernel
theorem dX1_won_21 : decode cX1_won 21 = .ok (.if_icmp .ge 31, 3) := by decide +kernel
theorem dX1_won_24 : decode cX1_won 24 = .ok (.iload 4, 2) := by decide +kernel
theorem dX1_won_26 : decode cX1_won 26 = .ok (.ifCond .ne 13, 3) := by decide +kernel
theorem dX1_won_29 : decode cX1_won 29 = .ok (.iload_n 3, 1) := by decide +kernel
theorem dX1_won_30 : decode cX1_won 30 = .ok (.iload 5, 2) := by decide +kernel
theorem dX1_won_32 : decode cX1_won 32 = .ok (.invokestatic 55, 3) := by decide +kernel
theorem dX1_won_35 : decode cX1_won 35 = .ok (.iload_n 1, 1) := by decide +kernel
theorem dX1_won_36 : decode cX1_won 36 = .ok (.if_icmp .ne 7, 3) := by decide +kernel
theorem dX1_won_39 : decode cX1_won 39 = .ok (.iconst 1, 1) := by decide +kernel
theorem dX1_won_40 : decode cX1_won 40 = .ok (.goto 4, 3) := by decide +kernel
theorem dX1_won_43 : decode cX1_won 43 = .ok (.iconst 0, 1) := by decide +kernel
theorem dX1_won_44 : decode cX1_won 44 = .ok (.istore 4, 2) := by decide +kernel
theorem dX1_won_46 : decode cX1_won 46 = .ok (.iinc 5 1, 3) := by decide +kernel
theorem dX1_won_49 : decode cX1_won 49 = .ok (.goto (-31), 3) := by decide +kernel
theorem dX1_won_52 : decode cX1_won 52 = .ok (.iload_n 2, 1) := by decide +kernel
theorem dX1_won_53 : decode cX1_won 53 = .ok (.iload 4, 2) := by decide +kernel
theorem dX1_won_55 : decode cX1_won 55 = .ok (.ifCond .eq 24, 3) := by decide +kernel
theorem dX1_won_58 : decode cX1_won 58 = .ok (.aload_n 0, 1) := by decide +kernel
theorem dX1_won_59 : decode cX1_won 59 = .ok (.iload_n 3, 1) := by decide +kernel
theorem dX1_won_60 : decode cX1_won 60 = .ok (.invokevirtual 63, 3) := by decide +kernel
theorem dX1_won_63 : decode cX1_won 63 = .ok (.iconst 4, 1) := by decide +kernel
theorem dX1_won_64 : decode cX1_won 64 = .ok (.if_icmp .ne 15, 3) := by decide +kernel
theorem dX1_won_67 : decode cX1_won 67 = .ok (.aload_n 0, 1) := by decide +kernel
theorem dX1_won_68 : decode cX1_won 68 = .ok (.iload_n 3, 1) := by decide +kernel
theorem dX1_won_69 : decode cX1_won 69 = .ok (.invokevirtual 67, 3) := by decide +kernel
theorem dX1_won_72 : decode cX1_won 72 = .ok (.ifCond .eq 7, 3) := by decide +kernel
theorem dX1_won_75 : decode cX1_won 75 = .ok (.iconst 1, 1) := by decide +kernel
theorem dX1_won_76 : decode cX1_won 76 = .ok (.goto 4, 3) := by decide +kernel
theorem dX1_won_79 : decode cX1_won 79 = .ok (.iconst 0, 1) := by decide +kernel
theorem dX1_won_80 : decode cX1_won 80 = .ok (.iadd, 1) := by decide +kernel
theorem dX1_won_81 : decode cX1_won 81 = .ok (.istore_n 2, 1) := by decide +kernel
theorem dX1_won_82 : decode cX1_won 82 = .ok (.iinc 3 1, 3) := by decide +kernel
theorem dX1_won_85 : decode cX1_won 85 = .ok (.goto (-81), 3) := by decide +kernel
theorem dX1_won_88 : decode cX1_won 88 = .ok (.iload_n 2, 1) := by decide +kernel
theorem dX1_won_89 : decode cX1_won 89 = .ok (.ireturn, 1) := by decide +kernel
theorem dX1_begin_0 : decode cX1_begin 0 = .ok (.aload_n 0, 1) := by decide +kernel
theorem dX1_begin_1 : decode cX1_begin 1 = .ok (.iconst 0, 1) := by decide +kernel
theorem dX1_begin_2 : decode cX1_begin 2 = .ok (.putfield 48, 3) := by decide +kernel
theorem dX1_begin_5 : decode cX1_begin 5 = .ok (.aload_n 0, 1) := by decide +kernel
theorem dX1_begin_6 : decode cX1_begin 6 = .ok (.getfield 70, 3) := by decide +kernel
theorem dX1_begin_9 : decode cX1_begin 9 = .ok (.istore_n 2, 1) := by decide +kernel
theorem dX1_begin_10 : decode cX1_begin 10 = .ok (.aload_n 0, 1) := by decide +kernel
theorem dX1_begin_11 : decode cX1_begin 11 = .ok (.iload_n 1, 1) := by decide +kernel
theorem dX1_begin_12 : decode cX1_begin 12 = .ok (.putfield 51, 3) := by decide +kernel
theorem dX1_begin_15 : decode cX1_begin 15 = .ok (.iconst 0, 1) := by decide +kernel
theorem dX1_begin_16 : decode cX1_begin 16 = .ok (.istore_n 3, 1) := by decide +kernel
theorem dX1_begin_17 : decode cX1_begin 17 = .ok (.iload_n 3, 1) := by decide +kernel
theorem dX1_begin_18 : decode cX1_begin 18 = .ok (.bipush 16, 2) := by decide +kernel
theorem dX1_begin_20 : decode cX1_begin 20 = .ok (.if_icmp .ge 23, 3) := by decide +kernel
theorem dX1_begin_23 : decode cX1_begin 23 = .ok (.aload_n 0, 1) := by decide +kernel
theorem dX1_begin_24 : decode cX1_begin 24 = .ok (.getfield 7, 3) := by decide +kernel
theorem dX1_begin_27 : decode cX1_begin 27 = .ok (.iload_n 3, 1) := by decide +kernel
theorem dX1_begin_28 : decode cX1_begin 28 = .ok (.iconst (-1), 1) := by decide +kernel
theorem dX1_begin_29 : decode cX1_begin 29 = .ok (.iastore, 1) := by decide +kernel
theorem dX1_begin_30 : decode cX1_begin 30 = .ok (.aload_n 0, 1) := by decide +kernel
theorem dX1_begin_31 : decode cX1_begin 31 = .ok (.getfield 13, 3) := by decide +kernel
theorem dX1_begin_34 : decode cX1_begin 34 = .ok (.iload_n 3, 1) := by decide +kernel
theorem dX1_begin_35 : decode cX1_begin 35 = .ok (.iconst 0, 1) := by decide +kernel
theorem dX1_begin_36 : decode cX1_begin 36 = .ok (.bastore, 1) := by decide +kernel
theorem dX1_begin_37 : decode cX1_begin 37 = .ok (.iinc 3 1, 3) := by decide +kernel
theorem dX1_begin_40 : decode cX1_begin 40 = .ok (.goto (-23), 3) := by decide +kernel
theorem dX1_begin_43 : decode cX1_begin 43 = .ok (.aload_n 0, 1) := by decide +kernel
theorem dX1_begin_44 : decode cX1_begin 44 = .ok (.iconst 0, 1) := by decide +kernel
theorem dX1_begin_45 : decode cX1_begin 45 = .ok (.putfield 70, 3) := by decide +kernel
theorem dX1_begin_48 : decode cX1_begin 48 = .ok (.aload_n 0, 1) := by decide +kernel
theorem dX1_begin_49 : decode cX1_begin 49 = .ok (.iconst (-1), 1) := by decide +kernel
theorem dX1_begin_50 : decode cX1_begin 50 = .ok (.putfield 17, 3) := by decide +kernel
theorem dX1_begin_53 : decode cX1_begin 53 = .ok (.aload_n 0, 1) := by decide +kernel
theorem dX1_begin_54 : decode cX1_begin 54 = .ok (.iconst 0, 1) := by decide +kernel
theorem dX1_begin_55 : decode cX1_begin 55 = .ok (.putfield 21, 3) := by decide +kernel
theorem dX1_begin_58 : decode cX1_begin 58 = .ok (.aload_n 0, 1) := by decide +kernel
theorem dX1_begin_59 : decode cX1_begin 59 = .ok (.iconst 0, 1) := by decide +kernel
theorem dX1_begin_60 : decode cX1_begin 60 = .ok (.putfield 73, 3) := by decide +kernel
theorem dX1_begin_63 : decode cX1_begin 63 = .ok (.aload_n 0, 1) := by decide +kernel
theorem dX1_begin_64 : decode cX1_begin 64 = .ok (.iconst (-1), 1) := by decide +kernel
theorem dX1_begin_65 : decode cX1_begin 65 = .ok (.putfield 24, 3) := by decide +kernel
theorem dX1_begin_68 : decode cX1_begin 68 = .ok (.iload_n 2, 1) := by decide +kernel
theorem dX1_begin_69 : decode cX1_begin 69 = .ok (.ireturn, 1) := by decide +kernel
set_option maxRecDepth 20000 in
theorem ggX1_give_X1_isIn : GoodIn wsX1_give wsX1_isIn := goodIn_r _ [8] (by decide +kernel) (by decide +kernel)
set_option maxRecDepth 20000 in
theorem gX1_give_X1_isIn : GoodIn wsX1_give (va_wsS RX1 76 yX1_isIn wsX1_isIn) := goodIn_app (goodIn_of _ (by decide +kernel)) ggX1_give_X1_isIn
set_option maxRecDepth 20000 in
theorem ggX1_give_X1_fails : GoodIn wsX1_give wsX1_fails := goodIn_r _ [12, 13, 14, 15, 16, 17, 18, 19, 20, 21, 22, 23, 24, 25, 26, 27, 28, 29, 30] (by decide +kernel) (by decide +kernel)
set_option maxRecDepth 20000 in
theorem gX1_give_X1_fails : GoodIn wsX1_give (wsV RX1 80 RX1 yX1_fails wsX1_fails) := goodIn_app (goodIn_of _ (by decide +kernel)) ggX1_give_X1_fails
theorem dX1_give_0 : decode cX1_give 0 = .ok (.aload_n 0, 1) := by decide +kernel
theorem dX1_give_1 : decode cX1_give 1 = .ok (.iload_n 1, 1) := by decide +kernel
theorem dX1_give_2 : decode cX1_give 2 = .ok (.bipush 16, 2) := by decide +kernel
theorem dX1_give_4 : decode cX1_give 4 = .ok (.invokestatic 76, 3) := by decide +kernel
theorem dX1_give_7 : decode cX1_give 7 = .ok (.ifCond .ne 7, 3) := by decide +kernel
theorem dX1_give_10 : decode cX1_give 10 = .ok (.iconst 1, 1) := by decide +kernel
theorem dX1_give_11 : decode cX1_give 11 = .ok (.goto 24, 3) := by decide +kernel
theorem dX1_give_14 : decode cX1_give 14 = .ok (.aload_n 0, 1) := by decide +kernel
theorem dX1_give_15 : decode cX1_give 15 = .ok (.getfield 21, 3) := by decide +kernel
theorem dX1_give_18 : decode cX1_give 18 = .ok (.ifCond .ne 12, 3) := by decide +kernel
theorem dX1_give_21 : decode cX1_give 21 = .ok (.aload_n 0, 1) := by decide +kernel
theorem dX1_give_22 : decode cX1_give 22 = .ok (.getfield 13, 3) := by decide +kernel
theorem dX1_give_25 : decode cX1_give 25 = .ok (.iload_n 1, 1) := by decide +kernel
theorem dX1_give_26 : decode cX1_give 26 = .ok (.baload, 1) := by decide +kernel
theorem dX1_give_27 : decode cX1_give 27 = .ok (.ifCond .eq 7, 3) := by decide +kernel
theorem dX1_give_30 : decode cX1_give 30 = .ok (.iconst 2, 1) := by decide +kernel
theorem dX1_give_31 : decode cX1_give 31 = .ok (.goto 4, 3) := by decide +kernel
theorem dX1_give_34 : decode cX1_give 34 = .ok (.iconst 0, 1) := by decide +kernel
theorem dX1_give_35 : decode cX1_give 35 = .ok (.invokevirtual 80, 3) := by decide +kernel
theorem dX1_give_38 : decode cX1_give 38 = .ok (.ifCond .eq 5, 3) := by decide +kernel
theorem dX1_give_41 : decode cX1_give 41 = .ok (.iconst 0, 1) := by decide +kernel
theorem dX1_give_42 : decode cX1_give 42 = .ok (.ireturn, 1) := by decide +kernel
theorem dX1_give_43 : decode cX1_give 43 = .ok (.aload_n 0, 1) := by decide +kernel
theorem dX1_give_44 : decode cX1_give 44 = .ok (.iload_n 1, 1) := by decide +kernel
theorem dX1_give_45 : decode cX1_give 45 = .ok (.putfield 17, 3) := by decide +kernel
theorem dX1_give_48 : decode cX1_give 48 = .ok (.aload_n 0, 1) := by decide +kernel
theorem dX1_give_49 : decode cX1_give 49 = .ok (.iconst 1, 1) := by decide +kernel
theorem dX1_give_50 : decode cX1_give 50 = .ok (.putfield 21, 3) := by decide +kernel
theorem dX1_give_53 : decode cX1_give 53 = .ok (.aload_n 0, 1) := by decide +kernel
theorem dX1_give_54 : decode cX1_give 54 = .ok (.iconst 1, 1) := by decide +kernel
theorem dX1_give_55 : decode cX1_give 55 = .ok (.aload_n 0, 1) := by decide +kernel
theorem dX1_give_56 : decode cX1_give 56 = .ok (.getfield 73, 3) := by decide +kernel
theorem dX1_give_59 : decode cX1_give 59 = .ok (.isub, 1) := by decide +kernel
theorem dX1_give_60 : decode cX1_give 60 = .ok (.putfield 73, 3) := by decide +kernel
theorem dX1_give_63 : decode cX1_give 63 = .ok (.aload_n 0, 1) := by decide +kernel
theorem dX1_give_64 : decode cX1_give 64 = .ok (.getfield 73, 3) := by decide +kernel
theorem dX1_give_67 : decode cX1_give 67 = .ok (.ireturn, 1) := by decide +kernel
theorem dX1_puts_0 : decode cX1_puts 0 = .ok (.aload_n 0, 1) := by decide +kernel
theorem dX1_puts_1 : decode cX1_puts 1 = .ok (.getfield 7, 3) := by decide +kernel
theorem dX1_puts_4 : decode cX1_puts 4 = .ok (.iload_n 1, 1) := by decide +kernel
theorem dX1_puts_5 : decode cX1_puts 5 = .ok (.iload_n 2, 1) := by decide +kernel
theorem dX1_puts_6 : decode cX1_puts 6 = .ok (.iastore, 1) := by decide +kernel
theorem dX1_puts_7 : decode cX1_puts 7 = .ok (.aload_n 0, 1) := by decide +kernel
theorem dX1_puts_8 : decode cX1_puts 8 = .ok (.getfield 13, 3) := by decide +kernel
theorem dX1_puts_11 : decode cX1_puts 11 = .ok (.iload_n 2, 1) := by decide +kernel
theorem dX1_puts_12 : decode cX1_puts 12 = .ok (.iconst 1, 1) := by decide +kernel
theorem dX1_puts_13 : decode cX1_puts 13 = .ok (.bastore, 1) := by decide +kernel
theorem dX1_puts_14 : decode cX1_puts 14 = .ok (.aload_n 0, 1) := by decide +kernel
theorem dX1_puts_15 : decode cX1_puts 15 = .ok (.dup, 1) := by decide +kernel
theorem dX1_puts_16 : decode cX1_puts 16 = .ok (.getfield 70, 3) := by decide +kernel
theorem dX1_puts_19 : decode cX1_puts 19 = .ok (.iconst 1, 1) := by decide +kernel
theorem dX1_puts_20 : decode cX1_puts 20 = .ok (.iadd, 1) := by decide +kernel
theorem dX1_puts_21 : decode cX1_puts 21 = .ok (.putfield 70, 3) := by decide +kernel
theorem dX1_puts_24 : decode cX1_puts 24 = .ok (.return_, 1) := by decide +kernel
theorem dX1_takes_0 : decode cX1_takes 0 = .ok (.aload_n 0, 1) := by decide +kernel
theorem dX1_takes_1 : decode cX1_takes 1 = .ok (.getfield 13, 3) := by decide +kernel
theorem dX1_takes_4 : decode cX1_takes 4 = .ok (.aload_n 0, 1) := by decide +kernel
theorem dX1_takes_5 : decode cX1_takes 5 = .ok (.getfield 7, 3) := by decide +kernel
theorem dX1_takes_8 : decode cX1_takes 8 = .ok (.iload_n 1, 1) := by decide +kernel
theorem dX1_takes_9 : decode cX1_takes 9 = .ok (.iaload, 1) := by decide +kernel
theorem dX1_takes_10 : decode cX1_takes 10 = .ok (.iconst 0, 1) := by decide +kernel
theorem dX1_takes_11 : decode cX1_takes 11 = .ok (.bastore, 1) := by decide +kernel
theorem dX1_takes_12 : decode cX1_takes 12 = .ok (.aload_n 0, 1) := by decide +kernel
theorem dX1_takes_13 : decode cX1_takes 13 = .ok (.getfield 7, 3) := by decide +kernel
theorem dX1_takes_16 : decode cX1_takes 16 = .ok (.iload_n 1, 1) := by decide +kernel
theorem dX1_takes_17 : decode cX1_takes 17 = .ok (.iconst (-1), 1) := by decide +kernel
theorem dX1_takes_18 : decode cX1_takes 18 = .ok (.iastore, 1) := by decide +kernel
theorem dX1_takes_19 : decode cX1_takes 19 = .ok (.aload_n 0, 1) := by decide +kernel
theorem dX1_takes_20 : decode cX1_takes 20 = .ok (.dup, 1) := by decide +kernel
theorem dX1_takes_21 : decode cX1_takes 21 = .ok (.getfield 70, 3) := by decide +kernel
theorem dX1_takes_24 : decode cX1_takes 24 = .ok (.iconst 1, 1) := by decide +kernel
theorem dX1_takes_25 : decode cX1_takes 25 = .ok (.isub, 1) := by decide +kernel
theorem dX1_takes_26 : decode cX1_takes 26 = .ok (.putfield 70, 3) := by decide +kernel
theorem dX1_takes_29 : decode cX1_takes 29 = .ok (.return_, 1) := by decide +kernel
set_option maxRecDepth 20000 in
theorem ggX1_place_X1_isIn : GoodIn wsX1_place wsX1_isIn := goodIn_r _ [10] (by decide +kernel) (by decide +kernel)
set_option maxRecDepth 20000 in
theorem gX1_place_X1_isIn : GoodIn wsX1_place (va_wsS RX1 76 yX1_isIn wsX1_isIn) := goodIn_app (goodIn_of _ (by decide +kernel)) ggX1_place_X1_isIn
set_option maxRecDepth 20000 in
theorem ggX1_place_X1_fails : GoodIn wsX1_place wsX1_fails := goodIn_r _ [14, 15, 41, 42, 43, 44, 45, 46, 47, 48, 49, 50, 51, 52, 53, 54, 55, 56, 57] (by decide +kernel) (by decide +kernel)
set_option maxRecDepth 20000 in
theorem gX1_place_X1_fails : GoodIn wsX1_place (wsV RX1 80 RX1 yX1_fails wsX1_fails) := goodIn_app (goodIn_of _ (by decide +kernel)) ggX1_place_X1_fails
set_option maxRecDepth 20000 in
theorem ggX1_place_X1_puts : GoodIn wsX1_place wsX1_puts := goodIn_r _ [19, 2, 20, 5, 41, 42, 43, 44, 45, 46, 47, 48, 49, 50, 51, 52, 53, 54, 55, 56, 57] (by decide +kernel) (by decide +kernel)
set_option maxRecDepth 20000 in
theorem gX1_place_X1_puts : GoodIn wsX1_place (wsV RX1 84 RX1 yX1_puts wsX1_puts) := goodIn_app (goodIn_of _ (by decide +kernel)) ggX1_place_X1_puts
set_option maxRecDepth 20000 in
theorem ggX1_place_X1_won : GoodIn wsX1_place wsX1_won := goodIn_r _ [24, 25, 26, 27, 9, 28, 29, 30, 31, 32, 33, 34, 35, 36, 2, 37, 38, 39, 40, 41, 42, 43, 44, 45, 46, 47, 48, 49, 50, 51, 52, 53, 54, 55, 56, 57] (by decide +kernel) (by decide +kernel)
set_option maxRecDepth 20000 in
theorem gX1_place_X1_won : GoodIn wsX1_place (wsV RX1 88 RX1 yX1_won wsX1_won) := goodIn_app (goodIn_of _ (by decide +kernel)) ggX1_place_X1_won
theorem dX1_place_0 : decode cX1_place 0 = .ok (.aload_n 0, 1) := by decide +kernel
theorem dX1_place_1 : decode cX1_place 1 = .ok (.iload_n 1, 1) := by decide +kernel
theorem dX1_place_2 : decode cX1_place 2 = .ok (.bipush 16, 2) := by decide +kernel
theorem dX1_place_4 : decode cX1_place 4 = .ok (.invokestatic 76, 3) := by decide +kernel
theorem dX1_place_7 : decode cX1_place 7 = .ok (.ifCond .ne 7, 3) := by decide +kernel
theorem dX1_place_10 : decode cX1_place 10 = .ok (.iconst 1, 1) := by decide +kernel
theorem dX1_place_11 : decode cX1_place 11 = .ok (.goto 26, 3) := by decide +kernel
theorem dX1_place_14 : decode cX1_place 14 = .ok (.aload_n 0, 1) := by decide +kernel
theorem dX1_place_15 : decode cX1_place 15 = .ok (.getfield 21, 3) := by decide +kernel
theorem dX1_place_18 : decode cX1_place 18 = .ok (.iconst 1, 1) := by decide +kernel
theorem dX1_place_19 : decode cX1_place 19 = .ok (.if_icmp .ne 13, 3) := by decide +kernel
theorem dX1_place_22 : decode cX1_place 22 = .ok (.aload_n 0, 1) := by decide +kernel
theorem dX1_place_23 : decode cX1_place 23 = .ok (.getfield 7, 3) := by decide +kernel
theorem dX1_place_26 : decode cX1_place 26 = .ok (.iload_n 1, 1) := by decide +kernel
theorem dX1_place_27 : decode cX1_place 27 = .ok (.iaload, 1) := by decide +kernel
theorem dX1_place_28 : decode cX1_place 28 = .ok (.iconst (-1), 1) := by decide +kernel
theorem dX1_place_29 : decode cX1_place 29 = .ok (.if_icmp .eq 7, 3) := by decide +kernel
theorem dX1_place_32 : decode cX1_place 32 = .ok (.iconst 2, 1) := by decide +kernel
theorem dX1_place_33 : decode cX1_place 33 = .ok (.goto 4, 3) := by decide +kernel
theorem dX1_place_36 : decode cX1_place 36 = .ok (.iconst 0, 1) := by decide +kernel
theorem dX1_place_37 : decode cX1_place 37 = .ok (.invokevirtual 80, 3) := by decide +kernel
theorem dX1_place_40 : decode cX1_place 40 = .ok (.ifCond .eq 5, 3) := by decide +kernel
theorem dX1_place_43 : decode cX1_place 43 = .ok (.iconst 0, 1) := by decide +kernel
theorem dX1_place_44 : decode cX1_place 44 = .ok (.ireturn, 1) := by decide +kernel
theorem dX1_place_45 : decode cX1_place 45 = .ok (.aload_n 0, 1) := by decide +kernel
theorem dX1_place_46 : decode cX1_place 46 = .ok (.iload_n 1, 1) := by decide +kernel
theorem dX1_place_47 : decode cX1_place 47 = .ok (.aload_n 0, 1) := by decide +kernel
theorem dX1_place_48 : decode cX1_place 48 = .ok (.getfield 17, 3) := by decide +kernel
theorem dX1_place_51 : decode cX1_place 51 = .ok (.invokevirtual 84, 3) := by decide +kernel
theorem dX1_place_54 : decode cX1_place 54 = .ok (.aload_n 0, 1) := by decide +kernel
theorem dX1_place_55 : decode cX1_place 55 = .ok (.iconst (-1), 1) := by decide +kernel
theorem dX1_place_56 : decode cX1_place 56 = .ok (.putfield 17, 3) := by decide +kernel
theorem dX1_place_59 : decode cX1_place 59 = .ok (.aload_n 0, 1) := by decide +kernel
theorem dX1_place_60 : decode cX1_place 60 = .ok (.iload_n 1, 1) := by decide +kernel
theorem dX1_place_61 : decode cX1_place 61 = .ok (.invokevirtual 88, 3) := by decide +kernel
theorem dX1_place_64 : decode cX1_place 64 = .ok (.istore_n 2, 1) := by decide +kernel
theorem dX1_place_65 : decode cX1_place 65 = .ok (.aload_n 0, 1) := by decide +kernel
theorem dX1_place_66 : decode cX1_place 66 = .ok (.iload_n 2, 1) := by decide +kernel
theorem dX1_place_67 : decode cX1_place 67 = .ok (.ifCond .le 10, 3) := by decide +kernel
theorem dX1_place_70 : decode cX1_place 70 = .ok (.aload_n 0, 1) := by decide +kernel
theorem dX1_place_71 : decode cX1_place 71 = .ok (.getfield 73, 3) := by decide +kernel
theorem dX1_place_74 : decode cX1_place 74 = .ok (.goto 17, 3) := by decide +kernel
theorem dX1_place_77 : decode cX1_place 77 = .ok (.aload_n 0, 1) := by decide +kernel
theorem dX1_place_78 : decode cX1_place 78 = .ok (.getfield 70, 3) := by decide +kernel
theorem dX1_place_81 : decode cX1_place 81 = .ok (.bipush 16, 2) := by decide +kernel
theorem dX1_place_83 : decode cX1_place 83 = .ok (.if_icmp .ne 7, 3) := by decide +kernel
theorem dX1_place_86 : decode cX1_place 86 = .ok (.iconst 2, 1) := by decide +kernel
theorem dX1_place_87 : decode cX1_place 87 = .ok (.goto 4, 3) := by decide +kernel
theorem dX1_place_90 : decode cX1_place 90 = .ok (.iconst (-1), 1) := by decide +kernel
theorem dX1_place_91 : decode cX1_place 91 = .ok (.putfield 24, 3) := by decide +kernel
theorem dX1_place_94 : decode cX1_place 94 = .ok (.aload_n 0, 1) := by decide +kernel
theorem dX1_place_95 : decode cX1_place 95 = .ok (.aload_n 0, 1) := by decide +kernel
theorem dX1_place_96 : decode cX1_place 96 = .ok (.getfield 24, 3) := by decide +kernel
theorem dX1_place_99 : decode cX1_place 99 = .ok (.iconst (-1), 1) := by decide +kernel
theorem dX1_place_100 : decode cX1_place 100 = .ok (.if_icmp .ne 7, 3) := by decide +kernel
theorem dX1_place_103 : decode cX1_place 103 = .ok (.iconst 0, 1) := by decide +kernel
theorem dX1_place_104 : decode cX1_place 104 = .ok (.goto 4, 3) := by decide +kernel
theorem dX1_place_107 : decode cX1_place 107 = .ok (.iconst 2, 1) := by decide +kernel
theorem dX1_place_108 : decode cX1_place 108 = .ok (.putfield 21, 3) := by decide +kernel
theorem dX1_place_111 : decode cX1_place 111 = .ok (.iload_n 2, 1) := by decide +kernel
theorem dX1_place_112 : decode cX1_place 112 = .ok (.ireturn, 1) := by decide +kernel
set_option maxRecDepth 20000 in
theorem ggX1_phase_X1_tells : GoodIn wsX1_phase wsX1_tells := goodIn_r _ [6, 7, 8, 9, 10, 11, 12, 13, 14, 15, 16, 17, 18, 19, 20, 21, 22, 23, 24] (by decide +kernel) (by decide +kernel)
set_option maxRecDepth 20000 in
theorem gX1_phase_X1_tells : GoodIn wsX1_phase (wsV RX1 91 RX1 yX1_tells wsX1_tells) := goodIn_app (goodIn_of _ (by decide +kernel)) ggX1_phase_X1_tells
theorem dX1_phase_0 : decode cX1_phase 0 = .ok (.aload_n 0, 1) := by decide +kernel
theorem dX1_phase_1 : decode cX1_phase 1 = .ok (.aload_n 0, 1) := by decide +kernel
theorem dX1_phase_2 : decode cX1_phase 2 = .ok (.getfield 21, 3) := by decide +kernel
theorem dX1_phase_5 : decode cX1_phase 5 = .ok (.invokevirtual 91, 3) := by decide +kernel
theorem dX1_phase_8 : decode cX1_phase 8 = .ok (.ireturn, 1) := by decide +kernel
set_option maxRecDepth 20000 in
theorem ggX1_onTurn_X1_tells : GoodIn wsX1_onTurn wsX1_tells := goodIn_r _ [6, 7, 8, 9, 10, 11, 12, 13, 14, 15, 16, 17, 18, 19, 20, 21, 22, 23, 24] (by decide +kernel) (by decide +kernel)
set_option maxRecDepth 20000 in
theorem gX1_onTurn_X1_tells : GoodIn wsX1_onTurn (wsV RX1 91 RX1 yX1_tells wsX1_tells) := goodIn_app (goodIn_of _ (by decide +kernel)) ggX1_onTurn_X1_tells
theorem dX1_onTurn_0 : decode cX1_onTurn 0 = .ok (.aload_n 0, 1) := by decide +kernel
theorem dX1_onTurn_1 : decode cX1_onTurn 1 = .ok (.aload_n 0, 1) := by decide +kernel
theorem dX1_onTurn_2 : decode cX1_onTurn 2 = .ok (.getfield 73, 3) := by decide +kernel
theorem dX1_onTurn_5 : decode cX1_onTurn 5 = .ok (.invokevirtual 91, 3) := by decide +kernel
theorem dX1_onTurn_8 : decode cX1_onTurn 8 = .ok (.ireturn, 1) := by decide +kernel
set_option maxRecDepth 20000 in
theorem ggX1_hand_X1_tells : GoodIn wsX1_hand wsX1_tells := goodIn_r _ [6, 7, 8, 9, 10, 11, 12, 13, 14, 15, 16, 17, 18, 19, 20, 21, 22, 23, 24] (by decide +kernel) (by decide +kernel)
set_option maxRecDepth 20000 in
theorem gX1_hand_X1_tells : GoodIn wsX1_hand (wsV RX1 91 RX1 yX1_tells wsX1_tells) := goodIn_app (goodIn_of _ (by decide +kernel)) ggX1_hand_X1_tells
theorem dX1_hand_0 : decode cX1_hand 0 = .ok (.aload_n 0, 1) := by decide +kernel
theorem dX1_hand_1 : decode cX1_hand 1 = .ok (.aload_n 0, 1) := by decide +kernel
theorem dX1_hand_2 : decode cX1_hand 2 = .ok (.getfield 17, 3) := by decide +kernel
theorem dX1_hand_5 : decode cX1_hand 5 = .ok (.invokevirtual 91, 3) := by decide +kernel
theorem dX1_hand_8 : decode cX1_hand 8 = .ok (.ireturn, 1) := by decide +kernel
set_option maxRecDepth 20000 in
theorem ggX1_pieceAt_X1_isIn : GoodIn wsX1_pieceAt wsX1_isIn := goodIn_r _ [5] (by decide +kernel) (by decide +kernel)
set_option maxRecDepth 20000 in
theorem gX1_pieceAt_X1_isIn : GoodIn wsX1_pieceAt (va_wsS RX1 76 yX1_isIn wsX1_isIn) := goodIn_app (goodIn_of _ (by decide +kernel)) ggX1_pieceAt_X1_isIn
set_option maxRecDepth 20000 in
theorem ggX1_pieceAt_X1_fails : GoodIn wsX1_pieceAt wsX1_fails := goodIn_r _ [9, 10, 11, 12, 13, 14, 15, 16, 17, 18, 19, 20, 21, 22, 23, 24, 25, 26, 27] (by decide +kernel) (by decide +kernel)
set_option maxRecDepth 20000 in
theorem gX1_pieceAt_X1_fails : GoodIn wsX1_pieceAt (wsV RX1 80 RX1 yX1_fails wsX1_fails) := goodIn_app (goodIn_of _ (by decide +kernel)) ggX1_pieceAt_X1_fails
theorem dX1_pieceAt_0 : decode cX1_pieceAt 0 = .ok (.aload_n 0, 1) := by decide +kernel
theorem dX1_pieceAt_1 : decode cX1_pieceAt 1 = .ok (.iload_n 1, 1) := by decide +kernel
theorem dX1_pieceAt_2 : decode cX1_pieceAt 2 = .ok (.bipush 16, 2) := by decide +kernel
theorem dX1_pieceAt_4 : decode cX1_pieceAt 4 = .ok (.invokestatic 76, 3) := by decide +kernel
theorem dX1_pieceAt_7 : decode cX1_pieceAt 7 = .ok (.ifCond .eq 7, 3) := by decide +kernel
theorem dX1_pieceAt_10 : decode cX1_pieceAt 10 = .ok (.iconst 0, 1) := by decide +kernel
theorem dX1_pieceAt_11 : decode cX1_pieceAt 11 = .ok (.goto 4, 3) := by decide +kernel
theorem dX1_pieceAt_14 : decode cX1_pieceAt 14 = .ok (.iconst 1, 1) := by decide +kernel
theorem dX1_pieceAt_15 : decode cX1_pieceAt 15 = .ok (.invokevirtual 80, 3) := by decide +kernel
theorem dX1_pieceAt_18 : decode cX1_pieceAt 18 = .ok (.ifCond .eq 7, 3) := by decide +kernel
theorem dX1_pieceAt_21 : decode cX1_pieceAt 21 = .ok (.iconst 0, 1) := by decide +kernel
theorem dX1_pieceAt_22 : decode cX1_pieceAt 22 = .ok (.goto 9, 3) := by decide +kernel
theorem dX1_pieceAt_25 : decode cX1_pieceAt 25 = .ok (.aload_n 0, 1) := by decide +kernel
theorem dX1_pieceAt_26 : decode cX1_pieceAt 26 = .ok (.getfield 7, 3) := by decide +kernel
theorem dX1_pieceAt_29 : decode cX1_pieceAt 29 = .ok (.iload_n 1, 1) := by decide +kernel
theorem dX1_pieceAt_30 : decode cX1_pieceAt 30 = .ok (.iaload, 1) := by decide +kernel
theorem dX1_pieceAt_31 : decode cX1_pieceAt 31 = .ok (.ireturn, 1) := by decide +kernel
set_option maxRecDepth 20000 in
theorem ggX1_placed_X1_tells : GoodIn wsX1_placed wsX1_tells := goodIn_r _ [6, 7, 8, 9, 10, 11, 12, 13, 14, 15, 16, 17, 18, 19, 20, 21, 22, 23, 24] (by decide +kernel) (by decide +kernel)
set_option maxRecDepth 20000 in
theorem gX1_placed_X1_tells : GoodIn wsX1_placed (wsV RX1 91 RX1 yX1_tells wsX1_tells) := goodIn_app (goodIn_of _ (by decide +kernel)) ggX1_placed_X1_tells
theorem dX1_placed_0 : decode cX1_placed 0 = .ok (.aload_n 0, 1) := by decide +kernel
theorem dX1_placed_1 : decode cX1_placed 1 = .ok (.aload_n 0, 1) := by decide +kernel
theorem dX1_placed_2 : decode cX1_placed 2 = .ok (.getfield 70, 3) := by decide +kernel
theorem dX1_placed_5 : decode cX1_placed 5 = .ok (.invokevirtual 91, 3) := by decide +kernel
theorem dX1_placed_8 : decode cX1_placed 8 = .ok (.ireturn, 1) := by decide +kernel
set_option maxRecDepth 20000 in
theorem ggX1_winner_X1_tells : GoodIn wsX1_winner wsX1_tells := goodIn_r _ [6, 7, 8, 9, 10, 11, 12, 13, 14, 15, 16, 17, 18, 19, 20, 21, 22, 23, 24] (by decide +kernel) (by decide +kernel)
set_option maxRecDepth 20000 in
theorem gX1_winner_X1_tells : GoodIn wsX1_winner (wsV RX1 91 RX1 yX1_tells wsX1_tells) := goodIn_app (goodIn_of _ (by decide +kernel)) ggX1_winner_X1_tells
theorem dX1_winner_0 : decode cX1_winner 0 = .ok (.aload_n 0, 1) := by decide +kernel
theorem dX1_winner_1 : decode cX1_winner 1 = .ok (.aload_n 0, 1) := by decide +kernel
theorem dX1_winner_2 : decode cX1_winner 2 = .ok (.getfield 24, 3) := by decide +kernel
theorem dX1_winner_5 : decode cX1_winner 5 = .ok (.invokevirtual 91, 3) := by decide +kernel
theorem dX1_winner_8 : decode cX1_winner 8 = .ok (.ireturn, 1) := by decide +kernel
set_option maxRecDepth 20000 in
theorem ggX1_lines_X1_many : GoodIn wsX1_lines wsX1_many := goodIn_r _ [5, 6, 12, 13, 14, 15, 16, 17, 18, 19, 20, 21, 22, 23, 24, 25, 26, 27, 28] (by decide +kernel) (by decide +kernel)
set_option maxRecDepth 20000 in
theorem gX1_lines_X1_many : GoodIn wsX1_lines (wsV RX1 59 RX1 yX1_many wsX1_many) := goodIn_app (goodIn_of _ (by decide +kernel)) ggX1_lines_X1_many
set_option maxRecDepth 20000 in
theorem ggX1_lines_X1_tells : GoodIn wsX1_lines wsX1_tells := goodIn_r _ [10, 11, 12, 13, 14, 15, 16, 17, 18, 19, 20, 21, 22, 23, 24, 25, 26, 27, 28] (by decide +kernel) (by decide +kernel)
set_option maxRecDepth 20000 in
theorem gX1_lines_X1_tells : GoodIn wsX1_lines (wsV RX1 91 RX1 yX1_tells wsX1_tells) := goodIn_app (goodIn_of _ (by decide +kernel)) ggX1_lines_X1_tells
theorem dX1_lines_0 : decode cX1_lines 0 = .ok (.aload_n 0, 1) := by decide +kernel
theorem dX1_lines_1 : decode cX1_lines 1 = .ok (.aload_n 0, 1) := by decide +kernel
theorem dX1_lines_2 : decode cX1_lines 2 = .ok (.invokevirtual 59, 3) := by decide +kernel
theorem dX1_lines_5 : decode cX1_lines 5 = .ok (.invokevirtual 91, 3) := by decide +kernel
theorem dX1_lines_8 : decode cX1_lines 8 = .ok (.ireturn, 1) := by decide +kernel
set_option maxRecDepth 20000 in
theorem ggX1_onLine_X1_many : GoodIn wsX1_onLine wsX1_many := goodIn_r _ [5, 6, 23, 24, 25, 26, 27, 28, 29, 30, 31, 32, 33, 34, 35, 36, 37, 38, 39] (by decide +kernel) (by decide +kernel)
set_option maxRecDepth 20000 in
theorem gX1_onLine_X1_many : GoodIn wsX1_onLine (wsV RX1 59 RX1 yX1_many wsX1_many) := goodIn_app (goodIn_of _ (by decide +kernel)) ggX1_onLine_X1_many
set_option maxRecDepth 20000 in
theorem ggX1_onLine_X1_isIn : GoodIn wsX1_onLine wsX1_isIn := goodIn_r _ [9] (by decide +kernel) (by decide +kernel)
set_option maxRecDepth 20000 in
theorem gX1_onLine_X1_isIn : GoodIn wsX1_onLine (va_wsS RX1 76 yX1_isIn wsX1_isIn) := goodIn_app (goodIn_of _ (by decide +kernel)) ggX1_onLine_X1_isIn
set_option maxRecDepth 20000 in
theorem ggX1_onLine_X1_fails : GoodIn wsX1_onLine wsX1_fails := goodIn_r _ [13, 14, 23, 24, 25, 26, 27, 28, 29, 30, 31, 32, 33, 34, 35, 36, 37, 38, 39] (by decide +kernel) (by decide +kernel)
set_option maxRecDepth 20000 in
theorem gX1_onLine_X1_fails : GoodIn wsX1_onLine (wsV RX1 80 RX1 yX1_fails wsX1_fails) := goodIn_app (goodIn_of _ (by decide +kernel)) ggX1_onLine_X1_fails
set_option maxRecDepth 20000 in
theorem ggX1_onLine_X1_full : GoodIn wsX1_onLine wsX1_full := goodIn_r _ [18, 19, 20, 21, 4, 22, 23, 24, 25, 26, 27, 28, 29, 30, 31, 32, 33, 34, 35, 36, 37, 38, 39] (by decide +kernel) (by decide +kernel)
set_option maxRecDepth 20000 in
theorem gX1_onLine_X1_full : GoodIn wsX1_onLine (wsV RX1 63 RX1 yX1_full wsX1_full) := goodIn_app (goodIn_of _ (by decide +kernel)) ggX1_onLine_X1_full
theorem dX1_onLine_0 : decode cX1_onLine 0 = .ok (.aload_n 0, 1) := by decide +kernel
theorem dX1_onLine_1 : decode cX1_onLine 1 = .ok (.iload_n 1, 1) := by decide +kernel
theorem dX1_onLine_2 : decode cX1_onLine 2 = .ok (.aload_n 0, 1) := by decide +kernel
theorem dX1_onLine_3 : decode cX1_onLine 3 = .ok (.invokevirtual 59, 3) := by decide +kernel
theorem dX1_onLine_6 : decode cX1_onLine 6 = .ok (.invokestatic 76, 3) := by decide +kernel
theorem dX1_onLine_9 : decode cX1_onLine 9 = .ok (.ifCond .eq 7, 3) := by decide +kernel
theorem dX1_onLine_12 : decode cX1_onLine 12 = .ok (.iconst 0, 1) := by decide +kernel
theorem dX1_onLine_13 : decode cX1_onLine 13 = .ok (.goto 4, 3) := by decide +kernel
theorem dX1_onLine_16 : decode cX1_onLine 16 = .ok (.iconst 1, 1) := by decide +kernel
theorem dX1_onLine_17 : decode cX1_onLine 17 = .ok (.invokevirtual 80, 3) := by decide +kernel
theorem dX1_onLine_20 : decode cX1_onLine 20 = .ok (.ifCond .eq 7, 3) := by decide +kernel
theorem dX1_onLine_23 : decode cX1_onLine 23 = .ok (.iconst 0, 1) := by decide +kernel
theorem dX1_onLine_24 : decode cX1_onLine 24 = .ok (.goto 8, 3) := by decide +kernel
theorem dX1_onLine_27 : decode cX1_onLine 27 = .ok (.aload_n 0, 1) := by decide +kernel
theorem dX1_onLine_28 : decode cX1_onLine 28 = .ok (.iload_n 1, 1) := by decide +kernel
theorem dX1_onLine_29 : decode cX1_onLine 29 = .ok (.invokevirtual 63, 3) := by decide +kernel
theorem dX1_onLine_32 : decode cX1_onLine 32 = .ok (.ireturn, 1) := by decide +kernel
set_option maxRecDepth 20000 in
theorem ggX1_shared_X1_many : GoodIn wsX1_shared wsX1_many := goodIn_r _ [5, 6, 23, 24, 25, 26, 27, 28, 29, 30, 31, 32, 33, 34, 35, 36, 37, 38, 39] (by decide +kernel) (by decide +kernel)
set_option maxRecDepth 20000 in
theorem gX1_shared_X1_many : GoodIn wsX1_shared (wsV RX1 59 RX1 yX1_many wsX1_many) := goodIn_app (goodIn_of _ (by decide +kernel)) ggX1_shared_X1_many
set_option maxRecDepth 20000 in
theorem ggX1_shared_X1_isIn : GoodIn wsX1_shared wsX1_isIn := goodIn_r _ [9] (by decide +kernel) (by decide +kernel)
set_option maxRecDepth 20000 in
theorem gX1_shared_X1_isIn : GoodIn wsX1_shared (va_wsS RX1 76 yX1_isIn wsX1_isIn) := goodIn_app (goodIn_of _ (by decide +kernel)) ggX1_shared_X1_isIn
set_option maxRecDepth 20000 in
theorem ggX1_shared_X1_fails : GoodIn wsX1_shared wsX1_fails := goodIn_r _ [13, 14, 23, 24, 25, 26, 27, 28, 29, 30, 31, 32, 33, 34, 35, 36, 37, 38, 39] (by decide +kernel) (by decide +kernel)
set_option maxRecDepth 20000 in
theorem gX1_shared_X1_fails : GoodIn wsX1_shared (wsV RX1 80 RX1 yX1_fails wsX1_fails) := goodIn_app (goodIn_of _ (by decide +kernel)) ggX1_shared_X1_fails
set_option maxRecDepth 20000 in
theorem ggX1_shared_X1_common : GoodIn wsX1_shared wsX1_common := goodIn_r _ [18, 19, 20, 21, 4, 22, 23, 24, 25, 26, 27, 28, 29, 30, 31, 32, 33, 34, 35, 36, 37, 38, 39] (by decide +kernel) (by decide +kernel)
set_option maxRecDepth 20000 in
theorem gX1_shared_X1_common : GoodIn wsX1_shared (wsV RX1 67 RX1 yX1_common wsX1_common) := goodIn_app (goodIn_of _ (by decide +kernel)) ggX1_shared_X1_common
theorem dX1_shared_0 : decode cX1_shared 0 = .ok (.aload_n 0, 1) := by decide +kernel
theorem dX1_shared_1 : decode cX1_shared 1 = .ok (.iload_n 1, 1) := by decide +kernel
theorem dX1_shared_2 : decode cX1_shared 2 = .ok (.aload_n 0, 1) := by decide +kernel
theorem dX1_shared_3 : decode cX1_shared 3 = .ok (.invokevirtual 59, 3) := by decide +kernel
theorem dX1_shared_6 : decode cX1_shared 6 = .ok (.invokestatic 76, 3) := by decide +kernel
theorem dX1_shared_9 : decode cX1_shared 9 = .ok (.ifCond .eq 7, 3) := by decide +kernel
theorem dX1_shared_12 : decode cX1_shared 12 = .ok (.iconst 0, 1) := by decide +kernel
theorem dX1_shared_13 : decode cX1_shared 13 = .ok (.goto 4, 3) := by decide +kernel
theorem dX1_shared_16 : decode cX1_shared 16 = .ok (.iconst 1, 1) := by decide +kernel
theorem dX1_shared_17 : decode cX1_shared 17 = .ok (.invokevirtual 80, 3) := by decide +kernel
theorem dX1_shared_20 : decode cX1_shared 20 = .ok (.ifCond .eq 7, 3) := by decide +kernel
theorem dX1_shared_23 : decode cX1_shared 23 = .ok (.iconst 0, 1) := by decide +kernel
theorem dX1_shared_24 : decode cX1_shared 24 = .ok (.goto 8, 3) := by decide +kernel
theorem dX1_shared_27 : decode cX1_shared 27 = .ok (.aload_n 0, 1) := by decide +kernel
theorem dX1_shared_28 : decode cX1_shared 28 = .ok (.iload_n 1, 1) := by decide +kernel
theorem dX1_shared_29 : decode cX1_shared 29 = .ok (.invokevirtual 67, 3) := by decide +kernel
theorem dX1_shared_32 : decode cX1_shared 32 = .ok (.ireturn, 1) := by decide +kernel
set_option maxRecDepth 20000 in
theorem ggX1_wins_X1_puts : GoodIn wsX1_wins wsX1_puts := goodIn_r _ [6, 1, 7, 8, 33, 34, 35, 36, 37, 38, 39, 40, 41, 42, 43, 44, 45, 46, 47, 48, 49] (by decide +kernel) (by decide +kernel)
set_option maxRecDepth 20000 in
theorem gX1_wins_X1_puts : GoodIn wsX1_wins (wsV RX1 84 RX1 yX1_puts wsX1_puts) := goodIn_app (goodIn_of _ (by decide +kernel)) ggX1_wins_X1_puts
set_option maxRecDepth 20000 in
theorem ggX1_wins_X1_won : GoodIn wsX1_wins wsX1_won := goodIn_r _ [12, 13, 14, 15, 5, 16, 17, 18, 19, 20, 21, 22, 23, 24, 1, 25, 26, 27, 28, 33, 34, 35, 36, 37, 38, 39, 40, 41, 42, 43, 44, 45, 46, 47, 48, 49] (by decide +kernel) (by decide +kernel)
set_option maxRecDepth 20000 in
theorem gX1_wins_X1_won : GoodIn wsX1_wins (wsV RX1 88 RX1 yX1_won wsX1_won) := goodIn_app (goodIn_of _ (by decide +kernel)) ggX1_wins_X1_won
set_option maxRecDepth 20000 in
theorem ggX1_wins_X1_takes : GoodIn wsX1_wins wsX1_takes := goodIn_r _ [32, 7, 1, 8, 33, 34, 35, 36, 37, 38, 39, 40, 41, 42, 43, 44, 45, 46, 47, 48, 49] (by decide +kernel) (by decide +kernel)
set_option maxRecDepth 20000 in
theorem gX1_wins_X1_takes : GoodIn wsX1_wins (wsV RX1 94 RX1 yX1_takes wsX1_takes) := goodIn_app (goodIn_of _ (by decide +kernel)) ggX1_wins_X1_takes
theorem dX1_wins_0 : decode cX1_wins 0 = .ok (.aload_n 0, 1) := by decide +kernel
theorem dX1_wins_1 : decode cX1_wins 1 = .ok (.getfield 7, 3) := by decide +kernel
theorem dX1_wins_4 : decode cX1_wins 4 = .ok (.iload_n 2, 1) := by decide +kernel
theorem dX1_wins_5 : decode cX1_wins 5 = .ok (.iaload, 1) := by decide +kernel
theorem dX1_wins_6 : decode cX1_wins 6 = .ok (.iconst (-1), 1) := by decide +kernel
theorem dX1_wins_7 : decode cX1_wins 7 = .ok (.if_icmp .eq 5, 3) := by decide +kernel
theorem dX1_wins_10 : decode cX1_wins 10 = .ok (.iconst 0, 1) := by decide +kernel
theorem dX1_wins_11 : decode cX1_wins 11 = .ok (.ireturn, 1) := by decide +kernel
theorem dX1_wins_12 : decode cX1_wins 12 = .ok (.aload_n 0, 1) := by decide +kernel
theorem dX1_wins_13 : decode cX1_wins 13 = .ok (.iload_n 2, 1) := by decide +kernel
theorem dX1_wins_14 : decode cX1_wins 14 = .ok (.iload_n 1, 1) := by decide +kernel
theorem dX1_wins_15 : decode cX1_wins 15 = .ok (.invokevirtual 84, 3) := by decide +kernel
theorem dX1_wins_18 : decode cX1_wins 18 = .ok (.aload_n 0, 1) := by decide +kernel
theorem dX1_wins_19 : decode cX1_wins 19 = .ok (.iload_n 2, 1) := by decide +kernel
theorem dX1_wins_20 : decode cX1_wins 20 = .ok (.invokevirtual 88, 3) := by decide +kernel
theorem dX1_wins_23 : decode cX1_wins 23 = .ok (.ifCond .le 7, 3) := by decide +kernel
theorem dX1_wins_26 : decode cX1_wins 26 = .ok (.iconst 1, 1) := by decide +kernel
theorem dX1_wins_27 : decode cX1_wins 27 = .ok (.goto 4, 3) := by decide +kernel
theorem dX1_wins_30 : decode cX1_wins 30 = .ok (.iconst 0, 1) := by decide +kernel
theorem dX1_wins_31 : decode cX1_wins 31 = .ok (.istore_n 3, 1) := by decide +kernel
theorem dX1_wins_32 : decode cX1_wins 32 = .ok (.aload_n 0, 1) := by decide +kernel
theorem dX1_wins_33 : decode cX1_wins 33 = .ok (.iload_n 2, 1) := by decide +kernel
theorem dX1_wins_34 : decode cX1_wins 34 = .ok (.invokevirtual 94, 3) := by decide +kernel
theorem dX1_wins_37 : decode cX1_wins 37 = .ok (.iload_n 3, 1) := by decide +kernel
theorem dX1_wins_38 : decode cX1_wins 38 = .ok (.ireturn, 1) := by decide +kernel
set_option maxRecDepth 20000 in
theorem ggX1_winners_X1_wins : GoodIn wsX1_winners wsX1_wins := goodIn_r _ [5, 6, 7, 8, 9, 4, 10, 11, 12, 13, 14, 15, 16, 17, 18, 19, 20, 21, 22, 23, 24, 25, 26, 27, 28, 29, 30, 31, 32, 33, 34, 35, 36, 37, 38, 39, 40, 41, 42, 43, 44, 45, 46, 47, 48, 49, 50, 51, 52, 53] (by decide +kernel) (by decide +kernel)
set_option maxRecDepth 20000 in
theorem gX1_winners_X1_wins : GoodIn wsX1_winners (wsV RX1 98 RX1 yX1_wins wsX1_wins) := goodIn_app (goodIn_of _ (by decide +kernel)) ggX1_winners_X1_wins
theorem dX1_winners_0 : decode cX1_winners 0 = .ok (.iconst 0, 1) := by decide +kernel
theorem dX1_winners_1 : decode cX1_winners 1 = .ok (.istore_n 2, 1) := by decide +kernel
theorem dX1_winners_2 : decode cX1_winners 2 = .ok (.iconst 0, 1) := by decide +kernel
theorem dX1_winners_3 : decode cX1_winners 3 = .ok (.istore_n 3, 1) := by decide +kernel
theorem dX1_winners_4 : decode cX1_winners 4 = .ok (.iload_n 3, 1) := by decide +kernel
theorem dX1_winners_5 : decode cX1_winners 5 = .ok (.bipush 16, 2) := by decide +kernel
theorem dX1_winners_7 : decode cX1_winners 7 = .ok (.if_icmp .ge 28, 3) := by decide +kernel
theorem dX1_winners_10 : decode cX1_winners 10 = .ok (.iload_n 2, 1) := by decide +kernel
theorem dX1_winners_11 : decode cX1_winners 11 = .ok (.aload_n 0, 1) := by decide +kernel
theorem dX1_winners_12 : decode cX1_winners 12 = .ok (.iload_n 1, 1) := by decide +kernel
theorem dX1_winners_13 : decode cX1_winners 13 = .ok (.iload_n 3, 1) := by decide +kernel
theorem dX1_winners_14 : decode cX1_winners 14 = .ok (.invokevirtual 98, 3) := by decide +kernel
theorem dX1_winners_17 : decode cX1_winners 17 = .ok (.ifCond .eq 9, 3) := by decide +kernel
theorem dX1_winners_20 : decode cX1_winners 20 = .ok (.iconst 1, 1) := by decide +kernel
theorem dX1_winners_21 : decode cX1_winners 21 = .ok (.iload_n 3, 1) := by decide +kernel
theorem dX1_winners_22 : decode cX1_winners 22 = .ok (.ishl, 1) := by decide +kernel
theorem dX1_winners_23 : decode cX1_winners 23 = .ok (.goto 4, 3) := by decide +kernel
theorem dX1_winners_26 : decode cX1_winners 26 = .ok (.iconst 0, 1) := by decide +kernel
theorem dX1_winners_27 : decode cX1_winners 27 = .ok (.ior, 1) := by decide +kernel
theorem dX1_winners_28 : decode cX1_winners 28 = .ok (.istore_n 2, 1) := by decide +kernel
theorem dX1_winners_29 : decode cX1_winners 29 = .ok (.iinc 3 1, 3) := by decide +kernel
theorem dX1_winners_32 : decode cX1_winners 32 = .ok (.goto (-28), 3) := by decide +kernel
theorem dX1_winners_35 : decode cX1_winners 35 = .ok (.iload_n 2, 1) := by decide +kernel
theorem dX1_winners_36 : decode cX1_winners 36 = .ok (.ireturn, 1) := by decide +kernel
set_option maxRecDepth 20000 in
theorem ggX1_winning_X1_isIn : GoodIn wsX1_winning wsX1_isIn := goodIn_r _ [6] (by decide +kernel) (by decide +kernel)
set_option maxRecDepth 20000 in
theorem gX1_winning_X1_isIn : GoodIn wsX1_winning (va_wsS RX1 76 yX1_isIn wsX1_isIn) := goodIn_app (goodIn_of _ (by decide +kernel)) ggX1_winning_X1_isIn
set_option maxRecDepth 20000 in
theorem ggX1_winning_X1_fails : GoodIn wsX1_winning wsX1_fails := goodIn_r _ [10, 11, 50, 51, 52, 53, 54, 55, 56, 57, 58, 59, 60, 61, 62, 63, 64, 65, 66] (by decide +kernel) (by decide +kernel)
set_option maxRecDepth 20000 in
theorem gX1_winning_X1_fails : GoodIn wsX1_winning (wsV RX1 80 RX1 yX1_fails wsX1_fails) := goodIn_app (goodIn_of _ (by decide +kernel)) ggX1_winning_X1_fails
set_option maxRecDepth 20000 in
theorem ggX1_winning_X1_winners : GoodIn wsX1_winning wsX1_winners := goodIn_r _ [15, 16, 17, 18, 5, 19, 20, 21, 22, 23, 24, 1, 25, 26, 27, 28, 29, 30, 31, 32, 33, 34, 35, 36, 37, 38, 39, 40, 41, 42, 43, 44, 45, 46, 47, 48, 49, 50, 51, 52, 53, 54, 55, 56, 57, 58, 59, 60, 61, 62, 63, 64, 65, 66] (by decide +kernel) (by decide +kernel)
set_option maxRecDepth 20000 in
theorem gX1_winning_X1_winners : GoodIn wsX1_winning (wsV RX1 101 RX1 yX1_winners wsX1_winners) := goodIn_app (goodIn_of _ (by decide +kernel)) ggX1_winning_X1_winners
theorem dX1_winning_0 : decode cX1_winning 0 = .ok (.aload_n 0, 1) := by decide +kernel
theorem dX1_winning_1 : decode cX1_winning 1 = .ok (.iload_n 1, 1) := by decide +kernel
theorem dX1_winning_2 : decode cX1_winning 2 = .ok (.bipush 16, 2) := by decide +kernel
theorem dX1_winning_4 : decode cX1_winning 4 = .ok (.invokestatic 76, 3) := by decide +kernel
theorem dX1_winning_7 : decode cX1_winning 7 = .ok (.ifCond .ne 7, 3) := by decide +kernel
theorem dX1_winning_10 : decode cX1_winning 10 = .ok (.iconst 1, 1) := by decide +kernel
theorem dX1_winning_11 : decode cX1_winning 11 = .ok (.goto 25, 3) := by decide +kernel
theorem dX1_winning_14 : decode cX1_winning 14 = .ok (.aload_n 0, 1) := by decide +kernel
theorem dX1_winning_15 : decode cX1_winning 15 = .ok (.getfield 13, 3) := by decide +kernel
theorem dX1_winning_18 : decode cX1_winning 18 = .ok (.iload_n 1, 1) := by decide +kernel
theorem dX1_winning_19 : decode cX1_winning 19 = .ok (.baload, 1) := by decide +kernel
theorem dX1_winning_20 : decode cX1_winning 20 = .ok (.ifCond .ne 11, 3) := by decide +kernel
theorem dX1_winning_23 : decode cX1_winning 23 = .ok (.aload_n 0, 1) := by decide +kernel
theorem dX1_winning_24 : decode cX1_winning 24 = .ok (.getfield 21, 3) := by decide +kernel
theorem dX1_winning_27 : decode cX1_winning 27 = .ok (.iconst 2, 1) := by decide +kernel
theorem dX1_winning_28 : decode cX1_winning 28 = .ok (.if_icmp .ne 7, 3) := by decide +kernel
theorem dX1_winning_31 : decode cX1_winning 31 = .ok (.iconst 2, 1) := by decide +kernel
theorem dX1_winning_32 : decode cX1_winning 32 = .ok (.goto 4, 3) := by decide +kernel
theorem dX1_winning_35 : decode cX1_winning 35 = .ok (.iconst 0, 1) := by decide +kernel
theorem dX1_winning_36 : decode cX1_winning 36 = .ok (.invokevirtual 80, 3) := by decide +kernel
theorem dX1_winning_39 : decode cX1_winning 39 = .ok (.ifCond .eq 7, 3) := by decide +kernel
theorem dX1_winning_42 : decode cX1_winning 42 = .ok (.iconst 0, 1) := by decide +kernel
theorem dX1_winning_43 : decode cX1_winning 43 = .ok (.goto 8, 3) := by decide +kernel
theorem dX1_winning_46 : decode cX1_winning 46 = .ok (.aload_n 0, 1) := by decide +kernel
theorem dX1_winning_47 : decode cX1_winning 47 = .ok (.iload_n 1, 1) := by decide +kernel
theorem dX1_winning_48 : decode cX1_winning 48 = .ok (.invokevirtual 101, 3) := by decide +kernel
theorem dX1_winning_51 : decode cX1_winning 51 = .ok (.ireturn, 1) := by decide +kernel
set_option maxRecDepth 20000 in
theorem ggX1_safe_X1_fails : GoodIn wsX1_safe wsX1_fails := goodIn_r _ [7, 8, 47, 48, 49, 50, 51, 52, 53, 54, 55, 56, 57, 58, 59, 60, 61, 62, 63] (by decide +kernel) (by decide +kernel)
set_option maxRecDepth 20000 in
theorem gX1_safe_X1_fails : GoodIn wsX1_safe (wsV RX1 80 RX1 yX1_fails wsX1_fails) := goodIn_app (goodIn_of _ (by decide +kernel)) ggX1_safe_X1_fails
set_option maxRecDepth 20000 in
theorem ggX1_safe_X1_winners : GoodIn wsX1_safe wsX1_winners := goodIn_r _ [12, 13, 14, 15, 6, 16, 17, 18, 19, 20, 21, 2, 22, 23, 24, 25, 26, 27, 28, 29, 30, 31, 32, 33, 34, 35, 36, 37, 38, 39, 40, 41, 42, 43, 44, 45, 46, 47, 48, 49, 50, 51, 52, 53, 54, 55, 56, 57, 58, 59, 60, 61, 62, 63] (by decide +kernel) (by decide +kernel)
set_option maxRecDepth 20000 in
theorem gX1_safe_X1_winners : GoodIn wsX1_safe (wsV RX1 101 RX1 yX1_winners wsX1_winners) := goodIn_app (goodIn_of _ (by decide +kernel)) ggX1_safe_X1_winners
theorem dX1_safe_0 : decode cX1_safe 0 = .ok (.aload_n 0, 1) := by decide +kernel
theorem dX1_safe_1 : decode cX1_safe 1 = .ok (.aload_n 0, 1) := by decide +kernel
theorem dX1_safe_2 : decode cX1_safe 2 = .ok (.getfield 21, 3) := by decide +kernel
theorem dX1_safe_5 : decode cX1_safe 5 = .ok (.ifCond .ne 7, 3) := by decide +kernel
theorem dX1_safe_8 : decode cX1_safe 8 = .ok (.iconst 0, 1) := by decide +kernel
theorem dX1_safe_9 : decode cX1_safe 9 = .ok (.goto 4, 3) := by decide +kernel
theorem dX1_safe_12 : decode cX1_safe 12 = .ok (.iconst 1, 1) := by decide +kernel
theorem dX1_safe_13 : decode cX1_safe 13 = .ok (.invokevirtual 80, 3) := by decide +kernel
theorem dX1_safe_16 : decode cX1_safe 16 = .ok (.ifCond .eq 5, 3) := by decide +kernel
theorem dX1_safe_19 : decode cX1_safe 19 = .ok (.iconst 0, 1) := by decide +kernel
theorem dX1_safe_20 : decode cX1_safe 20 = .ok (.ireturn, 1) := by decide +kernel
theorem dX1_safe_21 : decode cX1_safe 21 = .ok (.iconst 0, 1) := by decide +kernel
theorem dX1_safe_22 : decode cX1_safe 22 = .ok (.istore_n 1, 1) := by decide +kernel
theorem dX1_safe_23 : decode cX1_safe 23 = .ok (.iconst 0, 1) := by decide +kernel
theorem dX1_safe_24 : decode cX1_safe 24 = .ok (.istore_n 2, 1) := by decide +kernel
theorem dX1_safe_25 : decode cX1_safe 25 = .ok (.iload_n 2, 1) := by decide +kernel
theorem dX1_safe_26 : decode cX1_safe 26 = .ok (.bipush 16, 2) := by decide +kernel
theorem dX1_safe_28 : decode cX1_safe 28 = .ok (.if_icmp .ge 36, 3) := by decide +kernel
theorem dX1_safe_31 : decode cX1_safe 31 = .ok (.iload_n 1, 1) := by decide +kernel
theorem dX1_safe_32 : decode cX1_safe 32 = .ok (.aload_n 0, 1) := by decide +kernel
theorem dX1_safe_33 : decode cX1_safe 33 = .ok (.getfield 13, 3) := by decide +kernel
theorem dX1_safe_36 : decode cX1_safe 36 = .ok (.iload_n 2, 1) := by decide +kernel
theorem dX1_safe_37 : decode cX1_safe 37 = .ok (.baload, 1) := by decide +kernel
theorem dX1_safe_38 : decode cX1_safe 38 = .ok (.ifCond .ne 17, 3) := by decide +kernel
theorem dX1_safe_41 : decode cX1_safe 41 = .ok (.aload_n 0, 1) := by decide +kernel
theorem dX1_safe_42 : decode cX1_safe 42 = .ok (.iload_n 2, 1) := by decide +kernel
theorem dX1_safe_43 : decode cX1_safe 43 = .ok (.invokevirtual 101, 3) := by decide +kernel
theorem dX1_safe_46 : decode cX1_safe 46 = .ok (.ifCond .ne 9, 3) := by decide +kernel
theorem dX1_safe_49 : decode cX1_safe 49 = .ok (.iconst 1, 1) := by decide +kernel
theorem dX1_safe_50 : decode cX1_safe 50 = .ok (.iload_n 2, 1) := by decide +kernel
theorem dX1_safe_51 : decode cX1_safe 51 = .ok (.ishl, 1) := by decide +kernel
theorem dX1_safe_52 : decode cX1_safe 52 = .ok (.goto 4, 3) := by decide +kernel
theorem dX1_safe_55 : decode cX1_safe 55 = .ok (.iconst 0, 1) := by decide +kernel
theorem dX1_safe_56 : decode cX1_safe 56 = .ok (.ior, 1) := by decide +kernel
theorem dX1_safe_57 : decode cX1_safe 57 = .ok (.istore_n 1, 1) := by decide +kernel
theorem dX1_safe_58 : decode cX1_safe 58 = .ok (.iinc 2 1, 3) := by decide +kernel
theorem dX1_safe_61 : decode cX1_safe 61 = .ok (.goto (-36), 3) := by decide +kernel
theorem dX1_safe_64 : decode cX1_safe 64 = .ok (.iload_n 1, 1) := by decide +kernel
theorem dX1_safe_65 : decode cX1_safe 65 = .ok (.ireturn, 1) := by decide +kernel
theorem dX1_enters_0 : decode cX1_enters 0 = .ok (.aload_n 0, 1) := by decide +kernel
theorem dX1_enters_1 : decode cX1_enters 1 = .ok (.getfield 30, 3) := by decide +kernel
theorem dX1_enters_4 : decode cX1_enters 4 = .ok (.iload_n 1, 1) := by decide +kernel
theorem dX1_enters_5 : decode cX1_enters 5 = .ok (.iload_n 2, 1) := by decide +kernel
theorem dX1_enters_6 : decode cX1_enters 6 = .ok (.iastore, 1) := by decide +kernel
theorem dX1_enters_7 : decode cX1_enters 7 = .ok (.aload_n 0, 1) := by decide +kernel
theorem dX1_enters_8 : decode cX1_enters 8 = .ok (.getfield 33, 3) := by decide +kernel
theorem dX1_enters_11 : decode cX1_enters 11 = .ok (.iload_n 1, 1) := by decide +kernel
theorem dX1_enters_12 : decode cX1_enters 12 = .ok (.iload_n 3, 1) := by decide +kernel
theorem dX1_enters_13 : decode cX1_enters 13 = .ok (.iastore, 1) := by decide +kernel
theorem dX1_enters_14 : decode cX1_enters 14 = .ok (.aload_n 0, 1) := by decide +kernel
theorem dX1_enters_15 : decode cX1_enters 15 = .ok (.getfield 36, 3) := by decide +kernel
theorem dX1_enters_18 : decode cX1_enters 18 = .ok (.iload_n 1, 1) := by decide +kernel
theorem dX1_enters_19 : decode cX1_enters 19 = .ok (.iconst (-1), 1) := by decide +kernel
theorem dX1_enters_20 : decode cX1_enters 20 = .ok (.iastore, 1) := by decide +kernel
theorem dX1_enters_21 : decode cX1_enters 21 = .ok (.aload_n 0, 1) := by decide +kernel
theorem dX1_enters_22 : decode cX1_enters 22 = .ok (.getfield 39, 3) := by decide +kernel
theorem dX1_enters_25 : decode cX1_enters 25 = .ok (.iload_n 1, 1) := by decide +kernel
theorem dX1_enters_26 : decode cX1_enters 26 = .ok (.bipush (-2), 2) := by decide +kernel
theorem dX1_enters_28 : decode cX1_enters 28 = .ok (.iastore, 1) := by decide +kernel
theorem dX1_enters_29 : decode cX1_enters 29 = .ok (.aload_n 0, 1) := by decide +kernel
theorem dX1_enters_30 : decode cX1_enters 30 = .ok (.getfield 42, 3) := by decide +kernel
theorem dX1_enters_33 : decode cX1_enters 33 = .ok (.iload_n 1, 1) := by decide +kernel
theorem dX1_enters_34 : decode cX1_enters 34 = .ok (.iload 4, 2) := by decide +kernel
theorem dX1_enters_36 : decode cX1_enters 36 = .ok (.iastore, 1) := by decide +kernel
theorem dX1_enters_37 : decode cX1_enters 37 = .ok (.return_, 1) := by decide +kernel
set_option maxRecDepth 20000 in
theorem ggX1_tries_X1_puts : GoodIn wsX1_tries wsX1_puts := goodIn_r _ [12, 4, 3, 6, 37, 38, 39, 40, 41, 42, 43, 44, 45, 46, 47, 48, 49, 50, 51, 52, 53] (by decide +kernel) (by decide +kernel)
set_option maxRecDepth 20000 in
theorem gX1_tries_X1_puts : GoodIn wsX1_tries (wsV RX1 84 RX1 yX1_puts wsX1_puts) := goodIn_app (goodIn_of _ (by decide +kernel)) ggX1_tries_X1_puts
set_option maxRecDepth 20000 in
theorem ggX1_tries_X1_won : GoodIn wsX1_tries wsX1_won := goodIn_r _ [16, 17, 18, 19, 11, 20, 21, 22, 23, 24, 25, 26, 27, 28, 4, 29, 30, 31, 32, 37, 38, 39, 40, 41, 42, 43, 44, 45, 46, 47, 48, 49, 50, 51, 52, 53] (by decide +kernel) (by decide +kernel)
set_option maxRecDepth 20000 in
theorem gX1_tries_X1_won : GoodIn wsX1_tries (wsV RX1 88 RX1 yX1_won wsX1_won) := goodIn_app (goodIn_of _ (by decide +kernel)) ggX1_tries_X1_won
set_option maxRecDepth 20000 in
theorem ggX1_tries_X1_takes : GoodIn wsX1_tries wsX1_takes := goodIn_r _ [36, 3, 4, 6, 37, 38, 39, 40, 41, 42, 43, 44, 45, 46, 47, 48, 49, 50, 51, 52, 53] (by decide +kernel) (by decide +kernel)
set_option maxRecDepth 20000 in
theorem gX1_tries_X1_takes : GoodIn wsX1_tries (wsV RX1 94 RX1 yX1_takes wsX1_takes) := goodIn_app (goodIn_of _ (by decide +kernel)) ggX1_tries_X1_takes
theorem dX1_tries_0 : decode cX1_tries 0 = .ok (.aload_n 0, 1) := by decide +kernel
theorem dX1_tries_1 : decode cX1_tries 1 = .ok (.getfield 36, 3) := by decide +kernel
theorem dX1_tries_4 : decode cX1_tries 4 = .ok (.iload_n 1, 1) := by decide +kernel
theorem dX1_tries_5 : decode cX1_tries 5 = .ok (.iaload, 1) := by decide +kernel
theorem dX1_tries_6 : decode cX1_tries 6 = .ok (.istore_n 2, 1) := by decide +kernel
theorem dX1_tries_7 : decode cX1_tries 7 = .ok (.aload_n 0, 1) := by decide +kernel
theorem dX1_tries_8 : decode cX1_tries 8 = .ok (.getfield 30, 3) := by decide +kernel
theorem dX1_tries_11 : decode cX1_tries 11 = .ok (.iload_n 1, 1) := by decide +kernel
theorem dX1_tries_12 : decode cX1_tries 12 = .ok (.iaload, 1) := by decide +kernel
theorem dX1_tries_13 : decode cX1_tries 13 = .ok (.ifCond .ne 19, 3) := by decide +kernel
theorem dX1_tries_16 : decode cX1_tries 16 = .ok (.aload_n 0, 1) := by decide +kernel
theorem dX1_tries_17 : decode cX1_tries 17 = .ok (.getfield 13, 3) := by decide +kernel
theorem dX1_tries_20 : decode cX1_tries 20 = .ok (.iload_n 2, 1) := by decide +kernel
theorem dX1_tries_21 : decode cX1_tries 21 = .ok (.baload, 1) := by decide +kernel
theorem dX1_tries_22 : decode cX1_tries 22 = .ok (.ifCond .eq 8, 3) := by decide +kernel
theorem dX1_tries_25 : decode cX1_tries 25 = .ok (.bipush (-2), 2) := by decide +kernel
theorem dX1_tries_27 : decode cX1_tries 27 = .ok (.goto 4, 3) := by decide +kernel
theorem dX1_tries_30 : decode cX1_tries 30 = .ok (.iconst 2, 1) := by decide +kernel
theorem dX1_tries_31 : decode cX1_tries 31 = .ok (.ireturn, 1) := by decide +kernel
theorem dX1_tries_32 : decode cX1_tries 32 = .ok (.aload_n 0, 1) := by decide +kernel
theorem dX1_tries_33 : decode cX1_tries 33 = .ok (.getfield 7, 3) := by decide +kernel
theorem dX1_tries_36 : decode cX1_tries 36 = .ok (.iload_n 2, 1) := by decide +kernel
theorem dX1_tries_37 : decode cX1_tries 37 = .ok (.iaload, 1) := by decide +kernel
theorem dX1_tries_38 : decode cX1_tries 38 = .ok (.iconst (-1), 1) := by decide +kernel
theorem dX1_tries_39 : decode cX1_tries 39 = .ok (.if_icmp .eq 6, 3) := by decide +kernel
theorem dX1_tries_42 : decode cX1_tries 42 = .ok (.bipush (-2), 2) := by decide +kernel
theorem dX1_tries_44 : decode cX1_tries 44 = .ok (.ireturn, 1) := by decide +kernel
theorem dX1_tries_45 : decode cX1_tries 45 = .ok (.aload_n 0, 1) := by decide +kernel
theorem dX1_tries_46 : decode cX1_tries 46 = .ok (.iload_n 2, 1) := by decide +kernel
theorem dX1_tries_47 : decode cX1_tries 47 = .ok (.aload_n 0, 1) := by decide +kernel
theorem dX1_tries_48 : decode cX1_tries 48 = .ok (.getfield 42, 3) := by decide +kernel
theorem dX1_tries_51 : decode cX1_tries 51 = .ok (.iload_n 1, 1) := by decide +kernel
theorem dX1_tries_52 : decode cX1_tries 52 = .ok (.iaload, 1) := by decide +kernel
theorem dX1_tries_53 : decode cX1_tries 53 = .ok (.invokevirtual 84, 3) := by decide +kernel
theorem dX1_tries_56 : decode cX1_tries 56 = .ok (.aload_n 0, 1) := by decide +kernel
theorem dX1_tries_57 : decode cX1_tries 57 = .ok (.iload_n 2, 1) := by decide +kernel
theorem dX1_tries_58 : decode cX1_tries 58 = .ok (.invokevirtual 88, 3) := by decide +kernel
theorem dX1_tries_61 : decode cX1_tries 61 = .ok (.ifCond .le 7, 3) := by decide +kernel
theorem dX1_tries_64 : decode cX1_tries 64 = .ok (.iconst 1, 1) := by decide +kernel
theorem dX1_tries_65 : decode cX1_tries 65 = .ok (.goto 27, 3) := by decide +kernel
theorem dX1_tries_68 : decode cX1_tries 68 = .ok (.aload_n 0, 1) := by decide +kernel
theorem dX1_tries_69 : decode cX1_tries 69 = .ok (.getfield 70, 3) := by decide +kernel
theorem dX1_tries_72 : decode cX1_tries 72 = .ok (.bipush 16, 2) := by decide +kernel
theorem dX1_tries_74 : decode cX1_tries 74 = .ok (.if_icmp .eq 13, 3) := by decide +kernel
theorem dX1_tries_77 : decode cX1_tries 77 = .ok (.aload_n 0, 1) := by decide +kernel
theorem dX1_tries_78 : decode cX1_tries 78 = .ok (.getfield 33, 3) := by decide +kernel
theorem dX1_tries_81 : decode cX1_tries 81 = .ok (.iload_n 1, 1) := by decide +kernel
theorem dX1_tries_82 : decode cX1_tries 82 = .ok (.iaload, 1) := by decide +kernel
theorem dX1_tries_83 : decode cX1_tries 83 = .ok (.iconst 1, 1) := by decide +kernel
theorem dX1_tries_84 : decode cX1_tries 84 = .ok (.if_icmp .ne 7, 3) := by decide +kernel
theorem dX1_tries_87 : decode cX1_tries 87 = .ok (.iconst 0, 1) := by decide +kernel
theorem dX1_tries_88 : decode cX1_tries 88 = .ok (.goto 4, 3) := by decide +kernel
theorem dX1_tries_91 : decode cX1_tries 91 = .ok (.iconst 2, 1) := by decide +kernel
theorem dX1_tries_92 : decode cX1_tries 92 = .ok (.istore_n 3, 1) := by decide +kernel
theorem dX1_tries_93 : decode cX1_tries 93 = .ok (.iload_n 3, 1) := by decide +kernel
theorem dX1_tries_94 : decode cX1_tries 94 = .ok (.iconst 2, 1) := by decide +kernel
theorem dX1_tries_95 : decode cX1_tries 95 = .ok (.if_icmp .ge 8, 3) := by decide +kernel
theorem dX1_tries_98 : decode cX1_tries 98 = .ok (.aload_n 0, 1) := by decide +kernel
theorem dX1_tries_99 : decode cX1_tries 99 = .ok (.iload_n 2, 1) := by decide +kernel
theorem dX1_tries_100 : decode cX1_tries 100 = .ok (.invokevirtual 94, 3) := by decide +kernel
theorem dX1_tries_103 : decode cX1_tries 103 = .ok (.iload_n 3, 1) := by decide +kernel
theorem dX1_tries_104 : decode cX1_tries 104 = .ok (.ireturn, 1) := by decide +kernel
set_option maxRecDepth 20000 in
theorem ggX1_looks_X1_enters : GoodIn wsX1_looks wsX1_enters := goodIn_r _ [9, 3, 4, 1, 2, 10, 46, 47, 48, 49, 50, 51, 52, 53, 54, 55, 56, 57, 58, 59, 60, 61, 62] (by decide +kernel) (by decide +kernel)
set_option maxRecDepth 20000 in
theorem gX1_looks_X1_enters : GoodIn wsX1_looks (wsV RX1 104 RX1 yX1_enters wsX1_enters) := goodIn_app (goodIn_of _ (by decide +kernel)) ggX1_looks_X1_enters
set_option maxRecDepth 20000 in
theorem ggX1_looks_X1_takes : GoodIn wsX1_looks wsX1_takes := goodIn_r _ [14, 15, 16, 17, 46, 47, 48, 49, 50, 51, 52, 53, 54, 55, 56, 57, 58, 59, 60, 61, 62] (by decide +kernel) (by decide +kernel)
set_option maxRecDepth 20000 in
theorem gX1_looks_X1_takes : GoodIn wsX1_looks (wsV RX1 94 RX1 yX1_takes wsX1_takes) := goodIn_app (goodIn_of _ (by decide +kernel)) ggX1_looks_X1_takes
set_option maxRecDepth 20000 in
theorem ggX1_looks_X1_tries : GoodIn wsX1_looks wsX1_tries := goodIn_r _ [21, 1, 3, 15, 16, 10, 17, 4, 22, 23, 24, 8, 25, 26, 27, 28, 29, 30, 31, 32, 33, 34, 35, 36, 37, 38, 39, 40, 41, 42, 43, 44, 45, 11, 12, 13, 14, 46, 47, 48, 49, 50, 51, 52, 53, 54, 55, 56, 57, 58, 59, 60, 61, 62] (by decide +kernel) (by decide +kernel)
set_option maxRecDepth 20000 in
theorem gX1_looks_X1_tries : GoodIn wsX1_looks (wsV RX1 108 RX1 yX1_tries wsX1_tries) := goodIn_app (goodIn_of _ (by decide +kernel)) ggX1_looks_X1_tries
theorem dX1_looks_0 : decode cX1_looks 0 = .ok (.iconst 0, 1) := by decide +kernel
theorem dX1_looks_1 : decode cX1_looks 1 = .ok (.istore 4, 2) := by decide +kernel
theorem dX1_looks_3 : decode cX1_looks 3 = .ok (.aload_n 0, 1) := by decide +kernel
theorem dX1_looks_4 : decode cX1_looks 4 = .ok (.iconst 0, 1) := by decide +kernel
theorem dX1_looks_5 : decode cX1_looks 5 = .ok (.iload_n 1, 1) := by decide +kernel
theorem dX1_looks_6 : decode cX1_looks 6 = .ok (.iload_n 2, 1) := by decide +kernel
theorem dX1_looks_7 : decode cX1_looks 7 = .ok (.iload_n 3, 1) := by decide +kernel
theorem dX1_looks_8 : decode cX1_looks 8 = .ok (.invokevirtual 104, 3) := by decide +kernel
theorem dX1_looks_11 : decode cX1_looks 11 = .ok (.bipush (-2), 2) := by decide +kernel
theorem dX1_looks_13 : decode cX1_looks 13 = .ok (.istore 5, 2) := by decide +kernel
theorem dX1_looks_15 : decode cX1_looks 15 = .ok (.iload 4, 2) := by decide +kernel
theorem dX1_looks_17 : decode cX1_looks 17 = .ok (.ifCond .lt 253, 3) := by decide +kernel
theorem dX1_looks_20 : decode cX1_looks 20 = .ok (.aload_n 0, 1) := by decide +kernel
theorem dX1_looks_21 : decode cX1_looks 21 = .ok (.getfield 36, 3) := by decide +kernel
theorem dX1_looks_24 : decode cX1_looks 24 = .ok (.iload 4, 2) := by decide +kernel
theorem dX1_looks_26 : decode cX1_looks 26 = .ok (.dup2, 1) := by decide +kernel
theorem dX1_looks_27 : decode cX1_looks 27 = .ok (.iaload, 1) := by decide +kernel
theorem dX1_looks_28 : decode cX1_looks 28 = .ok (.iconst 1, 1) := by decide +kernel
theorem dX1_looks_29 : decode cX1_looks 29 = .ok (.iadd, 1) := by decide +kernel
theorem dX1_looks_30 : decode cX1_looks 30 = .ok (.iastore, 1) := by decide +kernel
theorem dX1_looks_31 : decode cX1_looks 31 = .ok (.aload_n 0, 1) := by decide +kernel
theorem dX1_looks_32 : decode cX1_looks 32 = .ok (.getfield 36, 3) := by decide +kernel
theorem dX1_looks_35 : decode cX1_looks 35 = .ok (.iload 4, 2) := by decide +kernel
theorem dX1_looks_37 : decode cX1_looks 37 = .ok (.iaload, 1) := by decide +kernel
theorem dX1_looks_38 : decode cX1_looks 38 = .ok (.bipush 16, 2) := by decide +kernel
theorem dX1_looks_40 : decode cX1_looks 40 = .ok (.if_icmp .eq 14, 3) := by decide +kernel
theorem dX1_looks_43 : decode cX1_looks 43 = .ok (.aload_n 0, 1) := by decide +kernel
theorem dX1_looks_44 : decode cX1_looks 44 = .ok (.getfield 39, 3) := by decide +kernel
theorem dX1_looks_47 : decode cX1_looks 47 = .ok (.iload 4, 2) := by decide +kernel
theorem dX1_looks_49 : decode cX1_looks 49 = .ok (.iaload, 1) := by decide +kernel
theorem dX1_looks_50 : decode cX1_looks 50 = .ok (.iconst 1, 1) := by decide +kernel
theorem dX1_looks_51 : decode cX1_looks 51 = .ok (.if_icmp .ne 96, 3) := by decide +kernel
theorem dX1_looks_54 : decode cX1_looks 54 = .ok (.aload_n 0, 1) := by decide +kernel
theorem dX1_looks_55 : decode cX1_looks 55 = .ok (.getfield 39, 3) := by decide +kernel
theorem dX1_looks_58 : decode cX1_looks 58 = .ok (.iload 4, 2) := by decide +kernel
theorem dX1_looks_60 : decode cX1_looks 60 = .ok (.iaload, 1) := by decide +kernel
theorem dX1_looks_61 : decode cX1_looks 61 = .ok (.istore 5, 2) := by decide +kernel
theorem dX1_looks_63 : decode cX1_looks 63 = .ok (.iinc 4 (-1), 3) := by decide +kernel
theorem dX1_looks_66 : decode cX1_looks 66 = .ok (.iload 4, 2) := by decide +kernel
theorem dX1_looks_68 : decode cX1_looks 68 = .ok (.ifCond .lt (-53), 3) := by decide +kernel
theorem dX1_looks_71 : decode cX1_looks 71 = .ok (.aload_n 0, 1) := by decide +kernel
theorem dX1_looks_72 : decode cX1_looks 72 = .ok (.getfield 30, 3) := by decide +kernel
theorem dX1_looks_75 : decode cX1_looks 75 = .ok (.iload 4, 2) := by decide +kernel
theorem dX1_looks_77 : decode cX1_looks 77 = .ok (.iaload, 1) := by decide +kernel
theorem dX1_looks_78 : decode cX1_looks 78 = .ok (.ifCond .ne 9, 3) := by decide +kernel
theorem dX1_looks_81 : decode cX1_looks 81 = .ok (.iload 5, 2) := by decide +kernel
theorem dX1_looks_83 : decode cX1_looks 83 = .ok (.ineg, 1) := by decide +kernel
theorem dX1_looks_84 : decode cX1_looks 84 = .ok (.goto 5, 3) := by decide +kernel
theorem dX1_looks_87 : decode cX1_looks 87 = .ok (.iload 5, 2) := by decide +kernel
theorem dX1_looks_89 : decode cX1_looks 89 = .ok (.istore 6, 2) := by decide +kernel
theorem dX1_looks_91 : decode cX1_looks 91 = .ok (.aload_n 0, 1) := by decide +kernel
theorem dX1_looks_92 : decode cX1_looks 92 = .ok (.getfield 39, 3) := by decide +kernel
theorem dX1_looks_95 : decode cX1_looks 95 = .ok (.iload 4, 2) := by decide +kernel
theorem dX1_looks_97 : decode cX1_looks 97 = .ok (.iload 6, 2) := by decide +kernel
theorem dX1_looks_99 : decode cX1_looks 99 = .ok (.aload_n 0, 1) := by decide +kernel
theorem dX1_looks_100 : decode cX1_looks 100 = .ok (.getfield 39, 3) := by decide +kernel
theorem dX1_looks_103 : decode cX1_looks 103 = .ok (.iload 4, 2) := by decide +kernel
theorem dX1_looks_105 : decode cX1_looks 105 = .ok (.iaload, 1) := by decide +kernel
theorem dX1_looks_106 : decode cX1_looks 106 = .ok (.if_icmp .le 8, 3) := by decide +kernel
theorem dX1_looks_109 : decode cX1_looks 109 = .ok (.iload 6, 2) := by decide +kernel
theorem dX1_looks_111 : decode cX1_looks 111 = .ok (.goto 10, 3) := by decide +kernel
theorem dX1_looks_114 : decode cX1_looks 114 = .ok (.aload_n 0, 1) := by decide +kernel
theorem dX1_looks_115 : decode cX1_looks 115 = .ok (.getfield 39, 3) := by decide +kernel
theorem dX1_looks_118 : decode cX1_looks 118 = .ok (.iload 4, 2) := by decide +kernel
theorem dX1_looks_120 : decode cX1_looks 120 = .ok (.iaload, 1) := by decide +kernel
theorem dX1_looks_121 : decode cX1_looks 121 = .ok (.iastore, 1) := by decide +kernel
theorem dX1_looks_122 : decode cX1_looks 122 = .ok (.aload_n 0, 1) := by decide +kernel
theorem dX1_looks_123 : decode cX1_looks 123 = .ok (.getfield 30, 3) := by decide +kernel
theorem dX1_looks_126 : decode cX1_looks 126 = .ok (.iload 4, 2) := by decide +kernel
theorem dX1_looks_128 : decode cX1_looks 128 = .ok (.iaload, 1) := by decide +kernel
theorem dX1_looks_129 : decode cX1_looks 129 = .ok (.iconst 1, 1) := by decide +kernel
theorem dX1_looks_130 : decode cX1_looks 130 = .ok (.if_icmp .ne 14, 3) := by decide +kernel
theorem dX1_looks_133 : decode cX1_looks 133 = .ok (.aload_n 0, 1) := by decide +kernel
theorem dX1_looks_134 : decode cX1_looks 134 = .ok (.aload_n 0, 1) := by decide +kernel
theorem dX1_looks_135 : decode cX1_looks 135 = .ok (.getfield 36, 3) := by decide +kernel
theorem dX1_looks_138 : decode cX1_looks 138 = .ok (.iload 4, 2) := by decide +kernel
theorem dX1_looks_140 : decode cX1_looks 140 = .ok (.iaload, 1) := by decide +kernel
theorem dX1_looks_141 : decode cX1_looks 141 = .ok (.invokevirtual 94, 3) := by decide +kernel
theorem dX1_looks_144 : decode cX1_looks 144 = .ok (.goto (-129), 3) := by decide +kernel
theorem dX1_looks_147 : decode cX1_looks 147 = .ok (.aload_n 0, 1) := by decide +kernel
theorem dX1_looks_148 : decode cX1_looks 148 = .ok (.iload 4, 2) := by decide +kernel
theorem dX1_looks_150 : decode cX1_looks 150 = .ok (.invokevirtual 108, 3) := by decide +kernel
theorem dX1_looks_153 : decode cX1_looks 153 = .ok (.istore 6, 2) := by decide +kernel
theorem dX1_looks_155 : decode cX1_looks 155 = .ok (.aload_n 0, 1) := by decide +kernel
theorem dX1_looks_156 : decode cX1_looks 156 = .ok (.getfield 39, 3) := by decide +kernel
theorem dX1_looks_159 : decode cX1_looks 159 = .ok (.iload 4, 2) := by decide +kernel
theorem dX1_looks_161 : decode cX1_looks 161 = .ok (.iload 6, 2) := by decide +kernel
theorem dX1_looks_163 : decode cX1_looks 163 = .ok (.iconst 2, 1) := by decide +kernel
theorem dX1_looks_164 : decode cX1_looks 164 = .ok (.if_icmp .ge 20, 3) := by decide +kernel
theorem dX1_looks_167 : decode cX1_looks 167 = .ok (.iload 6, 2) := by decide +kernel
theorem dX1_looks_169 : decode cX1_looks 169 = .ok (.aload_n 0, 1) := by decide +kernel
theorem dX1_looks_170 : decode cX1_looks 170 = .ok (.getfield 39, 3) := by decide +kernel
theorem dX1_looks_173 : decode cX1_looks 173 = .ok (.iload 4, 2) := by decide +kernel
theorem dX1_looks_175 : decode cX1_looks 175 = .ok (.iaload, 1) := by decide +kernel
theorem dX1_looks_176 : decode cX1_looks 176 = .ok (.if_icmp .le 8, 3) := by decide +kernel
theorem dX1_looks_179 : decode cX1_looks 179 = .ok (.iload 6, 2) := by decide +kernel
theorem dX1_looks_181 : decode cX1_looks 181 = .ok (.goto 10, 3) := by decide +kernel
theorem dX1_looks_184 : decode cX1_looks 184 = .ok (.aload_n 0, 1) := by decide +kernel
theorem dX1_looks_185 : decode cX1_looks 185 = .ok (.getfield 39, 3) := by decide +kernel
theorem dX1_looks_188 : decode cX1_looks 188 = .ok (.iload 4, 2) := by decide +kernel
theorem dX1_looks_190 : decode cX1_looks 190 = .ok (.iaload, 1) := by decide +kernel
theorem dX1_looks_191 : decode cX1_looks 191 = .ok (.iastore, 1) := by decide +kernel
theorem dX1_looks_192 : decode cX1_looks 192 = .ok (.iload 6, 2) := by decide +kernel
theorem dX1_looks_194 : decode cX1_looks 194 = .ok (.iconst 2, 1) := by decide +kernel
theorem dX1_looks_195 : decode cX1_looks 195 = .ok (.if_icmp .ne 72, 3) := by decide +kernel
theorem dX1_looks_198 : decode cX1_looks 198 = .ok (.aload_n 0, 1) := by decide +kernel
theorem dX1_looks_199 : decode cX1_looks 199 = .ok (.getfield 30, 3) := by decide +kernel
theorem dX1_looks_202 : decode cX1_looks 202 = .ok (.iload 4, 2) := by decide +kernel
theorem dX1_looks_204 : decode cX1_looks 204 = .ok (.iaload, 1) := by decide +kernel
theorem dX1_looks_205 : decode cX1_looks 205 = .ok (.ifCond .ne 7, 3) := by decide +kernel
theorem dX1_looks_208 : decode cX1_looks 208 = .ok (.iconst 1, 1) := by decide +kernel
theorem dX1_looks_209 : decode cX1_looks 209 = .ok (.goto 4, 3) := by decide +kernel
theorem dX1_looks_212 : decode cX1_looks 212 = .ok (.iconst 0, 1) := by decide +kernel
theorem dX1_looks_213 : decode cX1_looks 213 = .ok (.istore 7, 2) := by decide +kernel
theorem dX1_looks_215 : decode cX1_looks 215 = .ok (.aload_n 0, 1) := by decide +kernel
theorem dX1_looks_216 : decode cX1_looks 216 = .ok (.iload 4, 2) := by decide +kernel
theorem dX1_looks_218 : decode cX1_looks 218 = .ok (.iconst 1, 1) := by decide +kernel
theorem dX1_looks_219 : decode cX1_looks 219 = .ok (.iadd, 1) := by decide +kernel
theorem dX1_looks_220 : decode cX1_looks 220 = .ok (.iload 7, 2) := by decide +kernel
theorem dX1_looks_222 : decode cX1_looks 222 = .ok (.ifCond .eq 7, 3) := by decide +kernel
theorem dX1_looks_225 : decode cX1_looks 225 = .ok (.iconst 1, 1) := by decide +kernel
theorem dX1_looks_226 : decode cX1_looks 226 = .ok (.goto 4, 3) := by decide +kernel
theorem dX1_looks_229 : decode cX1_looks 229 = .ok (.iconst 0, 1) := by decide +kernel
theorem dX1_looks_230 : decode cX1_looks 230 = .ok (.iload 7, 2) := by decide +kernel
theorem dX1_looks_232 : decode cX1_looks 232 = .ok (.ifCond .eq 13, 3) := by decide +kernel
theorem dX1_looks_235 : decode cX1_looks 235 = .ok (.aload_n 0, 1) := by decide +kernel
theorem dX1_looks_236 : decode cX1_looks 236 = .ok (.getfield 33, 3) := by decide +kernel
theorem dX1_looks_239 : decode cX1_looks 239 = .ok (.iload 4, 2) := by decide +kernel
theorem dX1_looks_241 : decode cX1_looks 241 = .ok (.iaload, 1) := by decide +kernel
theorem dX1_looks_242 : decode cX1_looks 242 = .ok (.goto 12, 3) := by decide +kernel
theorem dX1_looks_245 : decode cX1_looks 245 = .ok (.aload_n 0, 1) := by decide +kernel
theorem dX1_looks_246 : decode cX1_looks 246 = .ok (.getfield 33, 3) := by decide +kernel
theorem dX1_looks_249 : decode cX1_looks 249 = .ok (.iload 4, 2) := by decide +kernel
theorem dX1_looks_251 : decode cX1_looks 251 = .ok (.iaload, 1) := by decide +kernel
theorem dX1_looks_252 : decode cX1_looks 252 = .ok (.iconst 1, 1) := by decide +kernel
theorem dX1_looks_253 : decode cX1_looks 253 = .ok (.isub, 1) := by decide +kernel
theorem dX1_looks_254 : decode cX1_looks 254 = .ok (.aload_n 0, 1) := by decide +kernel
theorem dX1_looks_255 : decode cX1_looks 255 = .ok (.getfield 36, 3) := by decide +kernel
theorem dX1_looks_258 : decode cX1_looks 258 = .ok (.iload 4, 2) := by decide +kernel
theorem dX1_looks_260 : decode cX1_looks 260 = .ok (.iaload, 1) := by decide +kernel
theorem dX1_looks_261 : decode cX1_looks 261 = .ok (.invokevirtual 104, 3) := by decide +kernel
theorem dX1_looks_264 : decode cX1_looks 264 = .ok (.iinc 4 1, 3) := by decide +kernel
theorem dX1_looks_267 : decode cX1_looks 267 = .ok (.goto (-252), 3) := by decide +kernel
theorem dX1_looks_270 : decode cX1_looks 270 = .ok (.iload 5, 2) := by decide +kernel
theorem dX1_looks_272 : decode cX1_looks 272 = .ok (.ireturn, 1) := by decide +kernel
set_option maxRecDepth 20000 in
theorem ggX1_cannot_X1_fails : GoodIn wsX1_cannot wsX1_fails := goodIn_r _ [7, 8, 9, 10, 11, 12, 13, 14, 15, 16, 17, 18, 19, 20, 21, 22, 23, 24, 25] (by decide +kernel) (by decide +kernel)
set_option maxRecDepth 20000 in
theorem gX1_cannot_X1_fails : GoodIn wsX1_cannot (wsV RX1 80 RX1 yX1_fails wsX1_fails) := goodIn_app (goodIn_of _ (by decide +kernel)) ggX1_cannot_X1_fails
theorem dX1_cannot_0 : decode cX1_cannot 0 = .ok (.bipush 16, 2) := by decide +kernel
theorem dX1_cannot_2 : decode cX1_cannot 2 = .ok (.aload_n 0, 1) := by decide +kernel
theorem dX1_cannot_3 : decode cX1_cannot 3 = .ok (.getfield 70, 3) := by decide +kernel
theorem dX1_cannot_6 : decode cX1_cannot 6 = .ok (.isub, 1) := by decide +kernel
theorem dX1_cannot_7 : decode cX1_cannot 7 = .ok (.istore_n 2, 1) := by decide +kernel
theorem dX1_cannot_8 : decode cX1_cannot 8 = .ok (.iload_n 1, 1) := by decide +kernel
theorem dX1_cannot_9 : decode cX1_cannot 9 = .ok (.iconst 3, 1) := by decide +kernel
theorem dX1_cannot_10 : decode cX1_cannot 10 = .ok (.if_icmp .ne 9, 3) := by decide +kernel
theorem dX1_cannot_13 : decode cX1_cannot 13 = .ok (.iload_n 2, 1) := by decide +kernel
theorem dX1_cannot_14 : decode cX1_cannot 14 = .ok (.bipush 8, 2) := by decide +kernel
theorem dX1_cannot_16 : decode cX1_cannot 16 = .ok (.if_icmp .gt 14, 3) := by decide +kernel
theorem dX1_cannot_19 : decode cX1_cannot 19 = .ok (.iload_n 1, 1) := by decide +kernel
theorem dX1_cannot_20 : decode cX1_cannot 20 = .ok (.iconst 4, 1) := by decide +kernel
theorem dX1_cannot_21 : decode cX1_cannot 21 = .ok (.if_icmp .ne 13, 3) := by decide +kernel
theorem dX1_cannot_24 : decode cX1_cannot 24 = .ok (.iload_n 2, 1) := by decide +kernel
theorem dX1_cannot_25 : decode cX1_cannot 25 = .ok (.bipush 6, 2) := by decide +kernel
theorem dX1_cannot_27 : decode cX1_cannot 27 = .ok (.if_icmp .le 7, 3) := by decide +kernel
theorem dX1_cannot_30 : decode cX1_cannot 30 = .ok (.iconst 1, 1) := by decide +kernel
theorem dX1_cannot_31 : decode cX1_cannot 31 = .ok (.goto 4, 3) := by decide +kernel
theorem dX1_cannot_34 : decode cX1_cannot 34 = .ok (.iconst 0, 1) := by decide +kernel
theorem dX1_cannot_35 : decode cX1_cannot 35 = .ok (.istore_n 3, 1) := by decide +kernel
theorem dX1_cannot_36 : decode cX1_cannot 36 = .ok (.aload_n 0, 1) := by decide +kernel
theorem dX1_cannot_37 : decode cX1_cannot 37 = .ok (.iload_n 1, 1) := by decide +kernel
theorem dX1_cannot_38 : decode cX1_cannot 38 = .ok (.iconst 1, 1) := by decide +kernel
theorem dX1_cannot_39 : decode cX1_cannot 39 = .ok (.if_icmp .lt 8, 3) := by decide +kernel
theorem dX1_cannot_42 : decode cX1_cannot 42 = .ok (.iload_n 1, 1) := by decide +kernel
theorem dX1_cannot_43 : decode cX1_cannot 43 = .ok (.iconst 4, 1) := by decide +kernel
theorem dX1_cannot_44 : decode cX1_cannot 44 = .ok (.if_icmp .le 7, 3) := by decide +kernel
theorem dX1_cannot_47 : decode cX1_cannot 47 = .ok (.iconst 1, 1) := by decide +kernel
theorem dX1_cannot_48 : decode cX1_cannot 48 = .ok (.goto 20, 3) := by decide +kernel
theorem dX1_cannot_51 : decode cX1_cannot 51 = .ok (.aload_n 0, 1) := by decide +kernel
theorem dX1_cannot_52 : decode cX1_cannot 52 = .ok (.getfield 21, 3) := by decide +kernel
theorem dX1_cannot_55 : decode cX1_cannot 55 = .ok (.iconst 2, 1) := by decide +kernel
theorem dX1_cannot_56 : decode cX1_cannot 56 = .ok (.if_icmp .eq 7, 3) := by decide +kernel
theorem dX1_cannot_59 : decode cX1_cannot 59 = .ok (.iload_n 3, 1) := by decide +kernel
theorem dX1_cannot_60 : decode cX1_cannot 60 = .ok (.ifCond .eq 7, 3) := by decide +kernel
theorem dX1_cannot_63 : decode cX1_cannot 63 = .ok (.iconst 2, 1) := by decide +kernel
theorem dX1_cannot_64 : decode cX1_cannot 64 = .ok (.goto 4, 3) := by decide +kernel
theorem dX1_cannot_67 : decode cX1_cannot 67 = .ok (.iconst 0, 1) := by decide +kernel
theorem dX1_cannot_68 : decode cX1_cannot 68 = .ok (.invokevirtual 80, 3) := by decide +kernel
theorem dX1_cannot_71 : decode cX1_cannot 71 = .ok (.ireturn, 1) := by decide +kernel
set_option maxRecDepth 20000 in
theorem ggX1_worth_X1_cannot : GoodIn wsX1_worth wsX1_cannot := goodIn_r _ [7, 8, 1, 9, 10, 11, 6, 12, 13, 61, 62, 63, 64, 65, 66, 67, 68, 69, 70, 71, 72, 73, 74, 75, 76, 77] (by decide +kernel) (by decide +kernel)
set_option maxRecDepth 20000 in
theorem gX1_worth_X1_cannot : GoodIn wsX1_worth (wsV RX1 111 RX1 yX1_cannot wsX1_cannot) := goodIn_app (goodIn_of _ (by decide +kernel)) ggX1_worth_X1_cannot
set_option maxRecDepth 20000 in
theorem ggX1_worth_X1_looks : GoodIn wsX1_worth wsX1_looks := goodIn_r _ [17, 18, 19, 20, 21, 22, 23, 24, 6, 25, 26, 27, 28, 29, 30, 31, 32, 8, 33, 34, 35, 36, 37, 38, 39, 40, 41, 42, 43, 44, 45, 46, 47, 48, 49, 50, 51, 52, 53, 54, 55, 56, 57, 58, 59, 60, 61, 62, 63, 64, 65, 66, 67, 68, 69, 70, 71, 72, 73, 74, 75, 76, 77] (by decide +kernel) (by decide +kernel)
set_option maxRecDepth 20000 in
theorem gX1_worth_X1_looks : GoodIn wsX1_worth (wsV RX1 114 RX1 yX1_looks wsX1_looks) := goodIn_app (goodIn_of _ (by decide +kernel)) ggX1_worth_X1_looks
theorem dX1_worth_0 : decode cX1_worth 0 = .ok (.aload_n 0, 1) := by decide +kernel
theorem dX1_worth_1 : decode cX1_worth 1 = .ok (.iload_n 1, 1) := by decide +kernel
theorem dX1_worth_2 : decode cX1_worth 2 = .ok (.invokevirtual 111, 3) := by decide +kernel
theorem dX1_worth_5 : decode cX1_worth 5 = .ok (.ifCond .eq 7, 3) := by decide +kernel
theorem dX1_worth_8 : decode cX1_worth 8 = .ok (.iconst 0, 1) := by decide +kernel
theorem dX1_worth_9 : decode cX1_worth 9 = .ok (.goto 16, 3) := by decide +kernel
theorem dX1_worth_12 : decode cX1_worth 12 = .ok (.aload_n 0, 1) := by decide +kernel
theorem dX1_worth_13 : decode cX1_worth 13 = .ok (.aload_n 0, 1) := by decide +kernel
theorem dX1_worth_14 : decode cX1_worth 14 = .ok (.getfield 21, 3) := by decide +kernel
theorem dX1_worth_17 : decode cX1_worth 17 = .ok (.iload_n 1, 1) := by decide +kernel
theorem dX1_worth_18 : decode cX1_worth 18 = .ok (.aload_n 0, 1) := by decide +kernel
theorem dX1_worth_19 : decode cX1_worth 19 = .ok (.getfield 17, 3) := by decide +kernel
theorem dX1_worth_22 : decode cX1_worth 22 = .ok (.invokevirtual 114, 3) := by decide +kernel
theorem dX1_worth_25 : decode cX1_worth 25 = .ok (.ireturn, 1) := by decide +kernel
set_option maxRecDepth 20000 in
theorem ggX1_behind_X1_looks : GoodIn wsX1_behind wsX1_looks := goodIn_r _ [10, 11, 12, 13, 14, 15, 16, 17, 9, 18, 19, 20, 21, 22, 23, 2, 3, 5, 24, 25, 26, 27, 28, 29, 30, 31, 32, 33, 34, 35, 36, 37, 38, 39, 40, 41, 42, 43, 44, 45, 46, 47, 48, 49, 50, 51, 52, 53, 54, 55, 56, 57, 58, 59, 60, 61, 62, 63, 64, 65, 66, 67, 68] (by decide +kernel) (by decide +kernel)
set_option maxRecDepth 20000 in
theorem gX1_behind_X1_looks : GoodIn wsX1_behind (wsV RX1 114 RX1 yX1_looks wsX1_looks) := goodIn_app (goodIn_of _ (by decide +kernel)) ggX1_behind_X1_looks
set_option maxRecDepth 20000 in
theorem ggX1_behind_X1_puts : GoodIn wsX1_behind wsX1_puts := goodIn_r _ [31, 3, 2, 5, 52, 53, 54, 55, 56, 57, 58, 59, 60, 61, 62, 63, 64, 65, 66, 67, 68] (by decide +kernel) (by decide +kernel)
set_option maxRecDepth 20000 in
theorem gX1_behind_X1_puts : GoodIn wsX1_behind (wsV RX1 84 RX1 yX1_puts wsX1_puts) := goodIn_app (goodIn_of _ (by decide +kernel)) ggX1_behind_X1_puts
set_option maxRecDepth 20000 in
theorem ggX1_behind_X1_won : GoodIn wsX1_behind wsX1_won := goodIn_r _ [35, 36, 37, 38, 9, 39, 40, 41, 42, 43, 44, 45, 46, 47, 3, 48, 49, 50, 51, 52, 53, 54, 55, 56, 57, 58, 59, 60, 61, 62, 63, 64, 65, 66, 67, 68] (by decide +kernel) (by decide +kernel)
set_option maxRecDepth 20000 in
theorem gX1_behind_X1_won : GoodIn wsX1_behind (wsV RX1 88 RX1 yX1_won wsX1_won) := goodIn_app (goodIn_of _ (by decide +kernel)) ggX1_behind_X1_won
set_option maxRecDepth 20000 in
theorem ggX1_behind_X1_takes : GoodIn wsX1_behind wsX1_takes := goodIn_r _ [23, 2, 3, 5, 52, 53, 54, 55, 56, 57, 58, 59, 60, 61, 62, 63, 64, 65, 66, 67, 68] (by decide +kernel) (by decide +kernel)
set_option maxRecDepth 20000 in
theorem gX1_behind_X1_takes : GoodIn wsX1_behind (wsV RX1 94 RX1 yX1_takes wsX1_takes) := goodIn_app (goodIn_of _ (by decide +kernel)) ggX1_behind_X1_takes
theorem dX1_behind_0 : decode cX1_behind 0 = .ok (.aload_n 0, 1) := by decide +kernel
theorem dX1_behind_1 : decode cX1_behind 1 = .ok (.getfield 21, 3) := by decide +kernel
theorem dX1_behind_4 : decode cX1_behind 4 = .ok (.ifCond .ne 26, 3) := by decide +kernel
theorem dX1_behind_7 : decode cX1_behind 7 = .ok (.aload_n 0, 1) := by decide +kernel
theorem dX1_behind_8 : decode cX1_behind 8 = .ok (.getfield 13, 3) := by decide +kernel
theorem dX1_behind_11 : decode cX1_behind 11 = .ok (.iload_n 1, 1) := by decide +kernel
theorem dX1_behind_12 : decode cX1_behind 12 = .ok (.baload, 1) := by decide +kernel
theorem dX1_behind_13 : decode cX1_behind 13 = .ok (.ifCond .eq 8, 3) := by decide +kernel
theorem dX1_behind_16 : decode cX1_behind 16 = .ok (.bipush (-2), 2) := by decide +kernel
theorem dX1_behind_18 : decode cX1_behind 18 = .ok (.goto 11, 3) := by decide +kernel
theorem dX1_behind_21 : decode cX1_behind 21 = .ok (.aload_n 0, 1) := by decide +kernel
theorem dX1_behind_22 : decode cX1_behind 22 = .ok (.iconst 1, 1) := by decide +kernel
theorem dX1_behind_23 : decode cX1_behind 23 = .ok (.iload_n 2, 1) := by decide +kernel
theorem dX1_behind_24 : decode cX1_behind 24 = .ok (.iload_n 1, 1) := by decide +kernel
theorem dX1_behind_25 : decode cX1_behind 25 = .ok (.invokevirtual 114, 3) := by decide +kernel
theorem dX1_behind_28 : decode cX1_behind 28 = .ok (.ineg, 1) := by decide +kernel
theorem dX1_behind_29 : decode cX1_behind 29 = .ok (.ireturn, 1) := by decide +kernel
theorem dX1_behind_30 : decode cX1_behind 30 = .ok (.aload_n 0, 1) := by decide +kernel
theorem dX1_behind_31 : decode cX1_behind 31 = .ok (.getfield 7, 3) := by decide +kernel
theorem dX1_behind_34 : decode cX1_behind 34 = .ok (.iload_n 1, 1) := by decide +kernel
theorem dX1_behind_35 : decode cX1_behind 35 = .ok (.iaload, 1) := by decide +kernel
theorem dX1_behind_36 : decode cX1_behind 36 = .ok (.iconst (-1), 1) := by decide +kernel
theorem dX1_behind_37 : decode cX1_behind 37 = .ok (.if_icmp .eq 6, 3) := by decide +kernel
theorem dX1_behind_40 : decode cX1_behind 40 = .ok (.bipush (-2), 2) := by decide +kernel
theorem dX1_behind_42 : decode cX1_behind 42 = .ok (.ireturn, 1) := by decide +kernel
theorem dX1_behind_43 : decode cX1_behind 43 = .ok (.aload_n 0, 1) := by decide +kernel
theorem dX1_behind_44 : decode cX1_behind 44 = .ok (.iload_n 1, 1) := by decide +kernel
theorem dX1_behind_45 : decode cX1_behind 45 = .ok (.aload_n 0, 1) := by decide +kernel
theorem dX1_behind_46 : decode cX1_behind 46 = .ok (.getfield 17, 3) := by decide +kernel
theorem dX1_behind_49 : decode cX1_behind 49 = .ok (.invokevirtual 84, 3) := by decide +kernel
theorem dX1_behind_52 : decode cX1_behind 52 = .ok (.aload_n 0, 1) := by decide +kernel
theorem dX1_behind_53 : decode cX1_behind 53 = .ok (.iload_n 1, 1) := by decide +kernel
theorem dX1_behind_54 : decode cX1_behind 54 = .ok (.invokevirtual 88, 3) := by decide +kernel
theorem dX1_behind_57 : decode cX1_behind 57 = .ok (.ifCond .le 7, 3) := by decide +kernel
theorem dX1_behind_60 : decode cX1_behind 60 = .ok (.iconst 1, 1) := by decide +kernel
theorem dX1_behind_61 : decode cX1_behind 61 = .ok (.goto 30, 3) := by decide +kernel
theorem dX1_behind_64 : decode cX1_behind 64 = .ok (.aload_n 0, 1) := by decide +kernel
theorem dX1_behind_65 : decode cX1_behind 65 = .ok (.getfield 70, 3) := by decide +kernel
theorem dX1_behind_68 : decode cX1_behind 68 = .ok (.bipush 16, 2) := by decide +kernel
theorem dX1_behind_70 : decode cX1_behind 70 = .ok (.if_icmp .eq 8, 3) := by decide +kernel
theorem dX1_behind_73 : decode cX1_behind 73 = .ok (.iload_n 2, 1) := by decide +kernel
theorem dX1_behind_74 : decode cX1_behind 74 = .ok (.iconst 1, 1) := by decide +kernel
theorem dX1_behind_75 : decode cX1_behind 75 = .ok (.if_icmp .ne 7, 3) := by decide +kernel
theorem dX1_behind_78 : decode cX1_behind 78 = .ok (.iconst 0, 1) := by decide +kernel
theorem dX1_behind_79 : decode cX1_behind 79 = .ok (.goto 12, 3) := by decide +kernel
theorem dX1_behind_82 : decode cX1_behind 82 = .ok (.aload_n 0, 1) := by decide +kernel
theorem dX1_behind_83 : decode cX1_behind 83 = .ok (.iconst 0, 1) := by decide +kernel
theorem dX1_behind_84 : decode cX1_behind 84 = .ok (.iload_n 2, 1) := by decide +kernel
theorem dX1_behind_85 : decode cX1_behind 85 = .ok (.iconst 1, 1) := by decide +kernel
theorem dX1_behind_86 : decode cX1_behind 86 = .ok (.isub, 1) := by decide +kernel
theorem dX1_behind_87 : decode cX1_behind 87 = .ok (.iconst (-1), 1) := by decide +kernel
theorem dX1_behind_88 : decode cX1_behind 88 = .ok (.invokevirtual 114, 3) := by decide +kernel
theorem dX1_behind_91 : decode cX1_behind 91 = .ok (.istore_n 3, 1) := by decide +kernel
theorem dX1_behind_92 : decode cX1_behind 92 = .ok (.aload_n 0, 1) := by decide +kernel
theorem dX1_behind_93 : decode cX1_behind 93 = .ok (.iload_n 1, 1) := by decide +kernel
theorem dX1_behind_94 : decode cX1_behind 94 = .ok (.invokevirtual 94, 3) := by decide +kernel
theorem dX1_behind_97 : decode cX1_behind 97 = .ok (.iload_n 3, 1) := by decide +kernel
theorem dX1_behind_98 : decode cX1_behind 98 = .ok (.ireturn, 1) := by decide +kernel
set_option maxRecDepth 20000 in
theorem ggX1_best_X1_cannot : GoodIn wsX1_best wsX1_cannot := goodIn_r _ [7, 8, 1, 9, 10, 11, 6, 12, 13, 65, 66, 67, 68, 69, 70, 71, 72, 73, 74, 75, 76, 77, 78, 79, 80, 81] (by decide +kernel) (by decide +kernel)
set_option maxRecDepth 20000 in
theorem gX1_best_X1_cannot : GoodIn wsX1_best (wsV RX1 111 RX1 yX1_cannot wsX1_cannot) := goodIn_app (goodIn_of _ (by decide +kernel)) ggX1_best_X1_cannot
set_option maxRecDepth 20000 in
theorem ggX1_best_X1_looks : GoodIn wsX1_best wsX1_looks := goodIn_r _ [17, 18, 19, 20, 21, 22, 23, 24, 6, 25, 26, 27, 28, 29, 30, 31, 32, 8, 33, 34, 35, 36, 37, 38, 39, 40, 41, 42, 43, 44, 45, 46, 47, 48, 49, 50, 51, 52, 53, 54, 55, 56, 57, 58, 59, 60, 65, 66, 67, 68, 69, 70, 71, 72, 73, 74, 75, 76, 77, 78, 79, 80, 81] (by decide +kernel) (by decide +kernel)
set_option maxRecDepth 20000 in
theorem gX1_best_X1_looks : GoodIn wsX1_best (wsV RX1 114 RX1 yX1_looks wsX1_looks) := goodIn_app (goodIn_of _ (by decide +kernel)) ggX1_best_X1_looks
set_option maxRecDepth 20000 in
theorem ggX1_best_X1_behind : GoodIn wsX1_best wsX1_behind := goodIn_r _ [64, 1, 31, 32, 2, 8, 14, 15, 16, 6, 17, 18, 19, 20, 21, 22, 23, 24, 25, 26, 27, 28, 29, 30, 33, 34, 35, 36, 37, 38, 39, 40, 41, 42, 43, 44, 45, 46, 47, 48, 49, 50, 51, 52, 53, 54, 55, 56, 57, 58, 59, 60, 65, 66, 67, 68, 69, 70, 71, 72, 73, 74, 75, 76, 77, 78, 79, 80, 81] (by decide +kernel) (by decide +kernel)
set_option maxRecDepth 20000 in
theorem gX1_best_X1_behind : GoodIn wsX1_best (wsV RX1 118 RX1 yX1_behind wsX1_behind) := goodIn_app (goodIn_of _ (by decide +kernel)) ggX1_best_X1_behind
theorem dX1_best_0 : decode cX1_best 0 = .ok (.aload_n 0, 1) := by decide +kernel
theorem dX1_best_1 : decode cX1_best 1 = .ok (.iload_n 1, 1) := by decide +kernel
theorem dX1_best_2 : decode cX1_best 2 = .ok (.invokevirtual 111, 3) := by decide +kernel
theorem dX1_best_5 : decode cX1_best 5 = .ok (.ifCond .eq 5, 3) := by decide +kernel
theorem dX1_best_8 : decode cX1_best 8 = .ok (.iconst 0, 1) := by decide +kernel
theorem dX1_best_9 : decode cX1_best 9 = .ok (.ireturn, 1) := by decide +kernel
theorem dX1_best_10 : decode cX1_best 10 = .ok (.aload_n 0, 1) := by decide +kernel
theorem dX1_best_11 : decode cX1_best 11 = .ok (.aload_n 0, 1) := by decide +kernel
theorem dX1_best_12 : decode cX1_best 12 = .ok (.getfield 21, 3) := by decide +kernel
theorem dX1_best_15 : decode cX1_best 15 = .ok (.iload_n 1, 1) := by decide +kernel
theorem dX1_best_16 : decode cX1_best 16 = .ok (.aload_n 0, 1) := by decide +kernel
theorem dX1_best_17 : decode cX1_best 17 = .ok (.getfield 17, 3) := by decide +kernel
theorem dX1_best_20 : decode cX1_best 20 = .ok (.invokevirtual 114, 3) := by decide +kernel
theorem dX1_best_23 : decode cX1_best 23 = .ok (.istore_n 2, 1) := by decide +kernel
theorem dX1_best_24 : decode cX1_best 24 = .ok (.iconst 0, 1) := by decide +kernel
theorem dX1_best_25 : decode cX1_best 25 = .ok (.istore_n 3, 1) := by decide +kernel
theorem dX1_best_26 : decode cX1_best 26 = .ok (.aload_n 0, 1) := by decide +kernel
theorem dX1_best_27 : decode cX1_best 27 = .ok (.iload_n 3, 1) := by decide +kernel
theorem dX1_best_28 : decode cX1_best 28 = .ok (.iload_n 1, 1) := by decide +kernel
theorem dX1_best_29 : decode cX1_best 29 = .ok (.invokevirtual 118, 3) := by decide +kernel
theorem dX1_best_32 : decode cX1_best 32 = .ok (.iload_n 2, 1) := by decide +kernel
theorem dX1_best_33 : decode cX1_best 33 = .ok (.if_icmp .eq 9, 3) := by decide +kernel
theorem dX1_best_36 : decode cX1_best 36 = .ok (.iinc 3 1, 3) := by decide +kernel
theorem dX1_best_39 : decode cX1_best 39 = .ok (.goto (-13), 3) := by decide +kernel
theorem dX1_best_42 : decode cX1_best 42 = .ok (.iload_n 3, 1) := by decide +kernel
theorem dX1_best_43 : decode cX1_best 43 = .ok (.ireturn, 1) := by decide +kernel
theorem dX1_keep_0 : decode cX1_keep 0 = .ok (.aload_n 0, 1) := by decide +kernel
theorem dX1_keep_1 : decode cX1_keep 1 = .ok (.iconst 0, 1) := by decide +kernel
theorem dX1_keep_2 : decode cX1_keep 2 = .ok (.putfield 48, 3) := by decide +kernel
theorem dX1_keep_5 : decode cX1_keep 5 = .ok (.aload_n 0, 1) := by decide +kernel
theorem dX1_keep_6 : decode cX1_keep 6 = .ok (.iconst 1, 1) := by decide +kernel
theorem dX1_keep_7 : decode cX1_keep 7 = .ok (.putfield 121, 3) := by decide +kernel
theorem dX1_keep_10 : decode cX1_keep 10 = .ok (.iconst 0, 1) := by decide +kernel
theorem dX1_keep_11 : decode cX1_keep 11 = .ok (.istore_n 1, 1) := by decide +kernel
theorem dX1_keep_12 : decode cX1_keep 12 = .ok (.iload_n 1, 1) := by decide +kernel
theorem dX1_keep_13 : decode cX1_keep 13 = .ok (.bipush 16, 2) := by decide +kernel
theorem dX1_keep_15 : decode cX1_keep 15 = .ok (.if_icmp .ge 21, 3) := by decide +kernel
theorem dX1_keep_18 : decode cX1_keep 18 = .ok (.aload_n 0, 1) := by decide +kernel
theorem dX1_keep_19 : decode cX1_keep 19 = .ok (.getfield 27, 3) := by decide +kernel
theorem dX1_keep_22 : decode cX1_keep 22 = .ok (.iload_n 1, 1) := by decide +kernel
theorem dX1_keep_23 : decode cX1_keep 23 = .ok (.aload_n 0, 1) := by decide +kernel
theorem dX1_keep_24 : decode cX1_keep 24 = .ok (.getfield 7, 3) := by decide +kernel
theorem dX1_keep_27 : decode cX1_keep 27 = .ok (.iload_n 1, 1) := by decide +kernel
theorem dX1_keep_28 : decode cX1_keep 28 = .ok (.iaload, 1) := by decide +kernel
theorem dX1_keep_29 : decode cX1_keep 29 = .ok (.iastore, 1) := by decide +kernel
theorem dX1_keep_30 : decode cX1_keep 30 = .ok (.iinc 1 1, 3) := by decide +kernel
theorem dX1_keep_33 : decode cX1_keep 33 = .ok (.goto (-21), 3) := by decide +kernel
theorem dX1_keep_36 : decode cX1_keep 36 = .ok (.aload_n 0, 1) := by decide +kernel
theorem dX1_keep_37 : decode cX1_keep 37 = .ok (.getfield 70, 3) := by decide +kernel
theorem dX1_keep_40 : decode cX1_keep 40 = .ok (.ireturn, 1) := by decide +kernel
theorem dX1_turned_0 : decode cX1_turned 0 = .ok (.iload_n 0, 1) := by decide +kernel
theorem dX1_turned_1 : decode cX1_turned 1 = .ok (.iconst 4, 1) := by decide +kernel
theorem dX1_turned_2 : decode cX1_turned 2 = .ok (.idiv, 1) := by decide +kernel
theorem dX1_turned_3 : decode cX1_turned 3 = .ok (.istore_n 2, 1) := by decide +kernel
theorem dX1_turned_4 : decode cX1_turned 4 = .ok (.iload_n 0, 1) := by decide +kernel
theorem dX1_turned_5 : decode cX1_turned 5 = .ok (.iconst 4, 1) := by decide +kernel
theorem dX1_turned_6 : decode cX1_turned 6 = .ok (.irem, 1) := by decide +kernel
theorem dX1_turned_7 : decode cX1_turned 7 = .ok (.istore_n 3, 1) := by decide +kernel
theorem dX1_turned_8 : decode cX1_turned 8 = .ok (.iload_n 1, 1) := by decide +kernel
theorem dX1_turned_9 : decode cX1_turned 9 = .ok (.iconst 2, 1) := by decide +kernel
theorem dX1_turned_10 : decode cX1_turned 10 = .ok (.irem, 1) := by decide +kernel
theorem dX1_turned_11 : decode cX1_turned 11 = .ok (.ifCond .ne 7, 3) := by decide +kernel
theorem dX1_turned_14 : decode cX1_turned 14 = .ok (.iload_n 2, 1) := by decide +kernel
theorem dX1_turned_15 : decode cX1_turned 15 = .ok (.goto 6, 3) := by decide +kernel
theorem dX1_turned_18 : decode cX1_turned 18 = .ok (.iconst 3, 1) := by decide +kernel
theorem dX1_turned_19 : decode cX1_turned 19 = .ok (.iload_n 2, 1) := by decide +kernel
theorem dX1_turned_20 : decode cX1_turned 20 = .ok (.isub, 1) := by decide +kernel
theorem dX1_turned_21 : decode cX1_turned 21 = .ok (.istore 4, 2) := by decide +kernel
theorem dX1_turned_23 : decode cX1_turned 23 = .ok (.iload_n 1, 1) := by decide +kernel
theorem dX1_turned_24 : decode cX1_turned 24 = .ok (.iconst 2, 1) := by decide +kernel
theorem dX1_turned_25 : decode cX1_turned 25 = .ok (.idiv, 1) := by decide +kernel
theorem dX1_turned_26 : decode cX1_turned 26 = .ok (.iconst 2, 1) := by decide +kernel
theorem dX1_turned_27 : decode cX1_turned 27 = .ok (.irem, 1) := by decide +kernel
theorem dX1_turned_28 : decode cX1_turned 28 = .ok (.ifCond .ne 7, 3) := by decide +kernel
theorem dX1_turned_31 : decode cX1_turned 31 = .ok (.iload_n 3, 1) := by decide +kernel
theorem dX1_turned_32 : decode cX1_turned 32 = .ok (.goto 6, 3) := by decide +kernel
theorem dX1_turned_35 : decode cX1_turned 35 = .ok (.iconst 3, 1) := by decide +kernel
theorem dX1_turned_36 : decode cX1_turned 36 = .ok (.iload_n 3, 1) := by decide +kernel
theorem dX1_turned_37 : decode cX1_turned 37 = .ok (.isub, 1) := by decide +kernel
theorem dX1_turned_38 : decode cX1_turned 38 = .ok (.istore 5, 2) := by decide +kernel
theorem dX1_turned_40 : decode cX1_turned 40 = .ok (.iload_n 1, 1) := by decide +kernel
theorem dX1_turned_41 : decode cX1_turned 41 = .ok (.iconst 4, 1) := by decide +kernel
theorem dX1_turned_42 : decode cX1_turned 42 = .ok (.if_icmp .ge 13, 3) := by decide +kernel
theorem dX1_turned_45 : decode cX1_turned 45 = .ok (.iconst 4, 1) := by decide +kernel
theorem dX1_turned_46 : decode cX1_turned 46 = .ok (.iload 4, 2) := by decide +kernel
theorem dX1_turned_48 : decode cX1_turned 48 = .ok (.imul, 1) := by decide +kernel
theorem dX1_turned_49 : decode cX1_turned 49 = .ok (.iload 5, 2) := by decide +kernel
theorem dX1_turned_51 : decode cX1_turned 51 = .ok (.iadd, 1) := by decide +kernel
theorem dX1_turned_52 : decode cX1_turned 52 = .ok (.goto 10, 3) := by decide +kernel
theorem dX1_turned_55 : decode cX1_turned 55 = .ok (.iconst 4, 1) := by decide +kernel
theorem dX1_turned_56 : decode cX1_turned 56 = .ok (.iload 5, 2) := by decide +kernel
theorem dX1_turned_58 : decode cX1_turned 58 = .ok (.imul, 1) := by decide +kernel
theorem dX1_turned_59 : decode cX1_turned 59 = .ok (.iload 4, 2) := by decide +kernel
theorem dX1_turned_61 : decode cX1_turned 61 = .ok (.iadd, 1) := by decide +kernel
theorem dX1_turned_62 : decode cX1_turned 62 = .ok (.ireturn, 1) := by decide +kernel
theorem dX1_renames_0 : decode cX1_renames 0 = .ok (.iconst 0, 1) := by decide +kernel
theorem dX1_renames_1 : decode cX1_renames 1 = .ok (.istore_n 2, 1) := by decide +kernel
theorem dX1_renames_2 : decode cX1_renames 2 = .ok (.iconst 0, 1) := by decide +kernel
theorem dX1_renames_3 : decode cX1_renames 3 = .ok (.istore_n 3, 1) := by decide +kernel
theorem dX1_renames_4 : decode cX1_renames 4 = .ok (.iload_n 3, 1) := by decide +kernel
theorem dX1_renames_5 : decode cX1_renames 5 = .ok (.iconst 4, 1) := by decide +kernel
theorem dX1_renames_6 : decode cX1_renames 6 = .ok (.if_icmp .ge 33, 3) := by decide +kernel
theorem dX1_renames_9 : decode cX1_renames 9 = .ok (.aload_n 0, 1) := by decide +kernel
theorem dX1_renames_10 : decode cX1_renames 10 = .ok (.getfield 45, 3) := by decide +kernel
theorem dX1_renames_13 : decode cX1_renames 13 = .ok (.iload_n 3, 1) := by decide +kernel
theorem dX1_renames_14 : decode cX1_renames 14 = .ok (.iload_n 1, 1) := by decide +kernel
theorem dX1_renames_15 : decode cX1_renames 15 = .ok (.iconst 2, 1) := by decide +kernel
theorem dX1_renames_16 : decode cX1_renames 16 = .ok (.iload_n 3, 1) := by decide +kernel
theorem dX1_renames_17 : decode cX1_renames 17 = .ok (.imul, 1) := by decide +kernel
theorem dX1_renames_18 : decode cX1_renames 18 = .ok (.ishr, 1) := by decide +kernel
theorem dX1_renames_19 : decode cX1_renames 19 = .ok (.iconst 3, 1) := by decide +kernel
theorem dX1_renames_20 : decode cX1_renames 20 = .ok (.iand, 1) := by decide +kernel
theorem dX1_renames_21 : decode cX1_renames 21 = .ok (.iastore, 1) := by decide +kernel
theorem dX1_renames_22 : decode cX1_renames 22 = .ok (.iload_n 2, 1) := by decide +kernel
theorem dX1_renames_23 : decode cX1_renames 23 = .ok (.iconst 1, 1) := by decide +kernel
theorem dX1_renames_24 : decode cX1_renames 24 = .ok (.aload_n 0, 1) := by decide +kernel
theorem dX1_renames_25 : decode cX1_renames 25 = .ok (.getfield 45, 3) := by decide +kernel
theorem dX1_renames_28 : decode cX1_renames 28 = .ok (.iload_n 3, 1) := by decide +kernel
theorem dX1_renames_29 : decode cX1_renames 29 = .ok (.iaload, 1) := by decide +kernel
theorem dX1_renames_30 : decode cX1_renames 30 = .ok (.ishl, 1) := by decide +kernel
theorem dX1_renames_31 : decode cX1_renames 31 = .ok (.ior, 1) := by decide +kernel
theorem dX1_renames_32 : decode cX1_renames 32 = .ok (.istore_n 2, 1) := by decide +kernel
theorem dX1_renames_33 : decode cX1_renames 33 = .ok (.iinc 3 1, 3) := by decide +kernel
theorem dX1_renames_36 : decode cX1_renames 36 = .ok (.goto (-32), 3) := by decide +kernel
theorem dX1_renames_39 : decode cX1_renames 39 = .ok (.iload_n 2, 1) := by decide +kernel
theorem dX1_renames_40 : decode cX1_renames 40 = .ok (.bipush 15, 2) := by decide +kernel
theorem dX1_renames_42 : decode cX1_renames 42 = .ok (.if_icmp .ne 7, 3) := by decide +kernel
theorem dX1_renames_45 : decode cX1_renames 45 = .ok (.iconst 1, 1) := by decide +kernel
theorem dX1_renames_46 : decode cX1_renames 46 = .ok (.goto 4, 3) := by decide +kernel
theorem dX1_renames_49 : decode cX1_renames 49 = .ok (.iconst 0, 1) := by decide +kernel
theorem dX1_renames_50 : decode cX1_renames 50 = .ok (.ireturn, 1) := by decide +kernel
theorem dX1_renamed_0 : decode cX1_renamed 0 = .ok (.iconst 0, 1) := by decide +kernel
theorem dX1_renamed_1 : decode cX1_renamed 1 = .ok (.istore_n 3, 1) := by decide +kernel
theorem dX1_renamed_2 : decode cX1_renamed 2 = .ok (.iconst 0, 1) := by decide +kernel
theorem dX1_renamed_3 : decode cX1_renamed 3 = .ok (.istore 4, 2) := by decide +kernel
theorem dX1_renamed_5 : decode cX1_renamed 5 = .ok (.iload 4, 2) := by decide +kernel
theorem dX1_renamed_7 : decode cX1_renamed 7 = .ok (.iconst 4, 1) := by decide +kernel
theorem dX1_renamed_8 : decode cX1_renamed 8 = .ok (.if_icmp .ge 26, 3) := by decide +kernel
theorem dX1_renamed_11 : decode cX1_renamed 11 = .ok (.iload_n 3, 1) := by decide +kernel
theorem dX1_renamed_12 : decode cX1_renamed 12 = .ok (.iload_n 1, 1) := by decide +kernel
theorem dX1_renamed_13 : decode cX1_renamed 13 = .ok (.iload 4, 2) := by decide +kernel
theorem dX1_renamed_15 : decode cX1_renamed 15 = .ok (.ishr, 1) := by decide +kernel
theorem dX1_renamed_16 : decode cX1_renamed 16 = .ok (.iconst 1, 1) := by decide +kernel
theorem dX1_renamed_17 : decode cX1_renamed 17 = .ok (.iand, 1) := by decide +kernel
theorem dX1_renamed_18 : decode cX1_renamed 18 = .ok (.aload_n 0, 1) := by decide +kernel
theorem dX1_renamed_19 : decode cX1_renamed 19 = .ok (.getfield 45, 3) := by decide +kernel
theorem dX1_renamed_22 : decode cX1_renamed 22 = .ok (.iload 4, 2) := by decide +kernel
theorem dX1_renamed_24 : decode cX1_renamed 24 = .ok (.iaload, 1) := by decide +kernel
theorem dX1_renamed_25 : decode cX1_renamed 25 = .ok (.ishl, 1) := by decide +kernel
theorem dX1_renamed_26 : decode cX1_renamed 26 = .ok (.ior, 1) := by decide +kernel
theorem dX1_renamed_27 : decode cX1_renamed 27 = .ok (.istore_n 3, 1) := by decide +kernel
theorem dX1_renamed_28 : decode cX1_renamed 28 = .ok (.iinc 4 1, 3) := by decide +kernel
theorem dX1_renamed_31 : decode cX1_renamed 31 = .ok (.goto (-26), 3) := by decide +kernel
theorem dX1_renamed_34 : decode cX1_renamed 34 = .ok (.iload_n 3, 1) := by decide +kernel
theorem dX1_renamed_35 : decode cX1_renamed 35 = .ok (.iload_n 2, 1) := by decide +kernel
theorem dX1_renamed_36 : decode cX1_renamed 36 = .ok (.ixor, 1) := by decide +kernel
theorem dX1_renamed_37 : decode cX1_renamed 37 = .ok (.ireturn, 1) := by decide +kernel
set_option maxRecDepth 20000 in
theorem ggX1_ways_X1_renames : GoodIn wsX1_ways wsX1_renames := goodIn_r _ [6, 7, 15, 16, 17, 18, 19, 20, 21, 22, 23, 24, 25, 26, 27, 28, 29, 30, 31] (by decide +kernel) (by decide +kernel)
set_option maxRecDepth 20000 in
theorem gX1_ways_X1_renames : GoodIn wsX1_ways (wsV RX1 124 RX1 yX1_renames wsX1_renames) := goodIn_app (goodIn_of _ (by decide +kernel)) ggX1_ways_X1_renames
set_option maxRecDepth 20000 in
theorem ggX1_ways_X1_turned : GoodIn wsX1_ways wsX1_turned := goodIn_r _ [10] (by decide +kernel) (by decide +kernel)
set_option maxRecDepth 20000 in
theorem gX1_ways_X1_turned : GoodIn wsX1_ways (va_wsS RX1 127 yX1_turned wsX1_turned) := goodIn_app (goodIn_of _ (by decide +kernel)) ggX1_ways_X1_turned
set_option maxRecDepth 20000 in
theorem ggX1_ways_X1_renamed : GoodIn wsX1_ways wsX1_renamed := goodIn_r _ [14, 7, 15, 16, 17, 18, 19, 20, 21, 22, 23, 24, 25, 26, 27, 28, 29, 30, 31] (by decide +kernel) (by decide +kernel)
set_option maxRecDepth 20000 in
theorem gX1_ways_X1_renamed : GoodIn wsX1_ways (wsV RX1 130 RX1 yX1_renamed wsX1_renamed) := goodIn_app (goodIn_of _ (by decide +kernel)) ggX1_ways_X1_renamed
theorem dX1_ways_0 : decode cX1_ways 0 = .ok (.iconst 0, 1) := by decide +kernel
theorem dX1_ways_1 : decode cX1_ways 1 = .ok (.istore_n 2, 1) := by decide +kernel
theorem dX1_ways_2 : decode cX1_ways 2 = .ok (.iconst 0, 1) := by decide +kernel
theorem dX1_ways_3 : decode cX1_ways 3 = .ok (.istore_n 3, 1) := by decide +kernel
theorem dX1_ways_4 : decode cX1_ways 4 = .ok (.iload_n 3, 1) := by decide +kernel
theorem dX1_ways_5 : decode cX1_ways 5 = .ok (.sipush 256, 3) := by decide +kernel
theorem dX1_ways_8 : decode cX1_ways 8 = .ok (.if_icmp .ge 144, 3) := by decide +kernel
theorem dX1_ways_11 : decode cX1_ways 11 = .ok (.aload_n 0, 1) := by decide +kernel
theorem dX1_ways_12 : decode cX1_ways 12 = .ok (.iload_n 3, 1) := by decide +kernel
theorem dX1_ways_13 : decode cX1_ways 13 = .ok (.invokevirtual 124, 3) := by decide +kernel
theorem dX1_ways_16 : decode cX1_ways 16 = .ok (.ifCond .eq 130, 3) := by decide +kernel
theorem dX1_ways_19 : decode cX1_ways 19 = .ok (.iconst 0, 1) := by decide +kernel
theorem dX1_ways_20 : decode cX1_ways 20 = .ok (.istore 4, 2) := by decide +kernel
theorem dX1_ways_22 : decode cX1_ways 22 = .ok (.iload 4, 2) := by decide +kernel
theorem dX1_ways_24 : decode cX1_ways 24 = .ok (.sipush 128, 3) := by decide +kernel
theorem dX1_ways_27 : decode cX1_ways 27 = .ok (.if_icmp .ge 119, 3) := by decide +kernel
theorem dX1_ways_30 : decode cX1_ways 30 = .ok (.iconst 1, 1) := by decide +kernel
theorem dX1_ways_31 : decode cX1_ways 31 = .ok (.istore 5, 2) := by decide +kernel
theorem dX1_ways_33 : decode cX1_ways 33 = .ok (.iconst 0, 1) := by decide +kernel
theorem dX1_ways_34 : decode cX1_ways 34 = .ok (.istore 6, 2) := by decide +kernel
theorem dX1_ways_36 : decode cX1_ways 36 = .ok (.iload 6, 2) := by decide +kernel
theorem dX1_ways_38 : decode cX1_ways 38 = .ok (.bipush 16, 2) := by decide +kernel
theorem dX1_ways_40 : decode cX1_ways 40 = .ok (.if_icmp .ge 87, 3) := by decide +kernel
theorem dX1_ways_43 : decode cX1_ways 43 = .ok (.iload 5, 2) := by decide +kernel
theorem dX1_ways_45 : decode cX1_ways 45 = .ok (.ifCond .eq 82, 3) := by decide +kernel
theorem dX1_ways_48 : decode cX1_ways 48 = .ok (.aload_n 1, 1) := by decide +kernel
theorem dX1_ways_49 : decode cX1_ways 49 = .ok (.iload 6, 2) := by decide +kernel
theorem dX1_ways_51 : decode cX1_ways 51 = .ok (.iload 4, 2) := by decide +kernel
theorem dX1_ways_53 : decode cX1_ways 53 = .ok (.bipush 16, 2) := by decide +kernel
theorem dX1_ways_55 : decode cX1_ways 55 = .ok (.idiv, 1) := by decide +kernel
theorem dX1_ways_56 : decode cX1_ways 56 = .ok (.invokestatic 127, 3) := by decide +kernel
theorem dX1_ways_59 : decode cX1_ways 59 = .ok (.iaload, 1) := by decide +kernel
theorem dX1_ways_60 : decode cX1_ways 60 = .ok (.istore 7, 2) := by decide +kernel
theorem dX1_ways_62 : decode cX1_ways 62 = .ok (.aload_n 0, 1) := by decide +kernel
theorem dX1_ways_63 : decode cX1_ways 63 = .ok (.getfield 7, 3) := by decide +kernel
theorem dX1_ways_66 : decode cX1_ways 66 = .ok (.iload 6, 2) := by decide +kernel
theorem dX1_ways_68 : decode cX1_ways 68 = .ok (.iaload, 1) := by decide +kernel
theorem dX1_ways_69 : decode cX1_ways 69 = .ok (.iconst (-1), 1) := by decide +kernel
theorem dX1_ways_70 : decode cX1_ways 70 = .ok (.if_icmp .ne 17, 3) := by decide +kernel
theorem dX1_ways_73 : decode cX1_ways 73 = .ok (.iload 7, 2) := by decide +kernel
theorem dX1_ways_75 : decode cX1_ways 75 = .ok (.iconst (-1), 1) := by decide +kernel
theorem dX1_ways_76 : decode cX1_ways 76 = .ok (.if_icmp .ne 7, 3) := by decide +kernel
theorem dX1_ways_79 : decode cX1_ways 79 = .ok (.iconst 1, 1) := by decide +kernel
theorem dX1_ways_80 : decode cX1_ways 80 = .ok (.goto 39, 3) := by decide +kernel
theorem dX1_ways_83 : decode cX1_ways 83 = .ok (.iconst 0, 1) := by decide +kernel
theorem dX1_ways_84 : decode cX1_ways 84 = .ok (.goto 35, 3) := by decide +kernel
theorem dX1_ways_87 : decode cX1_ways 87 = .ok (.iload 7, 2) := by decide +kernel
theorem dX1_ways_89 : decode cX1_ways 89 = .ok (.iconst (-1), 1) := by decide +kernel
theorem dX1_ways_90 : decode cX1_ways 90 = .ok (.if_icmp .eq 28, 3) := by decide +kernel
theorem dX1_ways_93 : decode cX1_ways 93 = .ok (.iload 7, 2) := by decide +kernel
theorem dX1_ways_95 : decode cX1_ways 95 = .ok (.aload_n 0, 1) := by decide +kernel
theorem dX1_ways_96 : decode cX1_ways 96 = .ok (.aload_n 0, 1) := by decide +kernel
theorem dX1_ways_97 : decode cX1_ways 97 = .ok (.getfield 7, 3) := by decide +kernel
theorem dX1_ways_100 : decode cX1_ways 100 = .ok (.iload 6, 2) := by decide +kernel
theorem dX1_ways_102 : decode cX1_ways 102 = .ok (.iaload, 1) := by decide +kernel
theorem dX1_ways_103 : decode cX1_ways 103 = .ok (.iload 4, 2) := by decide +kernel
theorem dX1_ways_105 : decode cX1_ways 105 = .ok (.bipush 16, 2) := by decide +kernel
theorem dX1_ways_107 : decode cX1_ways 107 = .ok (.irem, 1) := by decide +kernel
theorem dX1_ways_108 : decode cX1_ways 108 = .ok (.invokevirtual 130, 3) := by decide +kernel
theorem dX1_ways_111 : decode cX1_ways 111 = .ok (.if_icmp .ne 7, 3) := by decide +kernel
theorem dX1_ways_114 : decode cX1_ways 114 = .ok (.iconst 1, 1) := by decide +kernel
theorem dX1_ways_115 : decode cX1_ways 115 = .ok (.goto 4, 3) := by decide +kernel
theorem dX1_ways_118 : decode cX1_ways 118 = .ok (.iconst 0, 1) := by decide +kernel
theorem dX1_ways_119 : decode cX1_ways 119 = .ok (.istore 5, 2) := by decide +kernel
theorem dX1_ways_121 : decode cX1_ways 121 = .ok (.iinc 6 1, 3) := by decide +kernel
theorem dX1_ways_124 : decode cX1_ways 124 = .ok (.goto (-88), 3) := by decide +kernel
theorem dX1_ways_127 : decode cX1_ways 127 = .ok (.iload_n 2, 1) := by decide +kernel
theorem dX1_ways_128 : decode cX1_ways 128 = .ok (.iload 5, 2) := by decide +kernel
theorem dX1_ways_130 : decode cX1_ways 130 = .ok (.ifCond .eq 7, 3) := by decide +kernel
theorem dX1_ways_133 : decode cX1_ways 133 = .ok (.iconst 1, 1) := by decide +kernel
theorem dX1_ways_134 : decode cX1_ways 134 = .ok (.goto 4, 3) := by decide +kernel
theorem dX1_ways_137 : decode cX1_ways 137 = .ok (.iconst 0, 1) := by decide +kernel
theorem dX1_ways_138 : decode cX1_ways 138 = .ok (.iadd, 1) := by decide +kernel
theorem dX1_ways_139 : decode cX1_ways 139 = .ok (.istore_n 2, 1) := by decide +kernel
theorem dX1_ways_140 : decode cX1_ways 140 = .ok (.iinc 4 1, 3) := by decide +kernel
theorem dX1_ways_143 : decode cX1_ways 143 = .ok (.goto (-121), 3) := by decide +kernel
theorem dX1_ways_146 : decode cX1_ways 146 = .ok (.iinc 3 1, 3) := by decide +kernel
theorem dX1_ways_149 : decode cX1_ways 149 = .ok (.goto (-145), 3) := by decide +kernel
theorem dX1_ways_152 : decode cX1_ways 152 = .ok (.iload_n 2, 1) := by decide +kernel
theorem dX1_ways_153 : decode cX1_ways 153 = .ok (.ireturn, 1) := by decide +kernel
set_option maxRecDepth 20000 in
theorem ggX1_isAlike_X1_fails : GoodIn wsX1_isAlike wsX1_fails := goodIn_r _ [7, 8, 26, 27, 28, 29, 30, 31, 32, 33, 34, 35, 36, 37, 38, 39, 40, 41, 42] (by decide +kernel) (by decide +kernel)
set_option maxRecDepth 20000 in
theorem gX1_isAlike_X1_fails : GoodIn wsX1_isAlike (wsV RX1 80 RX1 yX1_fails wsX1_fails) := goodIn_app (goodIn_of _ (by decide +kernel)) ggX1_isAlike_X1_fails
set_option maxRecDepth 20000 in
theorem ggX1_isAlike_X1_ways : GoodIn wsX1_isAlike wsX1_ways := goodIn_r _ [12, 13, 14, 15, 16, 6, 17, 18, 19, 20, 21, 22, 23, 24, 25, 26, 27, 28, 29, 30, 31, 32, 33, 34, 35, 36, 37, 38, 39, 40, 41, 42] (by decide +kernel) (by decide +kernel)
set_option maxRecDepth 20000 in
theorem gX1_isAlike_X1_ways : GoodIn wsX1_isAlike (wsV RX1 133 RX1 yX1_ways wsX1_ways) := goodIn_app (goodIn_of _ (by decide +kernel)) ggX1_isAlike_X1_ways
theorem dX1_isAlike_0 : decode cX1_isAlike 0 = .ok (.aload_n 0, 1) := by decide +kernel
theorem dX1_isAlike_1 : decode cX1_isAlike 1 = .ok (.aload_n 0, 1) := by decide +kernel
theorem dX1_isAlike_2 : decode cX1_isAlike 2 = .ok (.getfield 121, 3) := by decide +kernel
theorem dX1_isAlike_5 : decode cX1_isAlike 5 = .ok (.ifCond .eq 7, 3) := by decide +kernel
theorem dX1_isAlike_8 : decode cX1_isAlike 8 = .ok (.iconst 0, 1) := by decide +kernel
theorem dX1_isAlike_9 : decode cX1_isAlike 9 = .ok (.goto 4, 3) := by decide +kernel
theorem dX1_isAlike_12 : decode cX1_isAlike 12 = .ok (.iconst 1, 1) := by decide +kernel
theorem dX1_isAlike_13 : decode cX1_isAlike 13 = .ok (.invokevirtual 80, 3) := by decide +kernel
theorem dX1_isAlike_16 : decode cX1_isAlike 16 = .ok (.ifCond .ne 18, 3) := by decide +kernel
theorem dX1_isAlike_19 : decode cX1_isAlike 19 = .ok (.aload_n 0, 1) := by decide +kernel
theorem dX1_isAlike_20 : decode cX1_isAlike 20 = .ok (.aload_n 0, 1) := by decide +kernel
theorem dX1_isAlike_21 : decode cX1_isAlike 21 = .ok (.getfield 27, 3) := by decide +kernel
theorem dX1_isAlike_24 : decode cX1_isAlike 24 = .ok (.invokevirtual 133, 3) := by decide +kernel
theorem dX1_isAlike_27 : decode cX1_isAlike 27 = .ok (.ifCond .le 7, 3) := by decide +kernel
theorem dX1_isAlike_30 : decode cX1_isAlike 30 = .ok (.iconst 1, 1) := by decide +kernel
theorem dX1_isAlike_31 : decode cX1_isAlike 31 = .ok (.goto 4, 3) := by decide +kernel
theorem dX1_isAlike_34 : decode cX1_isAlike 34 = .ok (.iconst 0, 1) := by decide +kernel
theorem dX1_isAlike_35 : decode cX1_isAlike 35 = .ok (.ireturn, 1) := by decide +kernel
set_option maxRecDepth 20000 in
theorem ggX1_symmetries_X1_ways : GoodIn wsX1_symmetries wsX1_ways := goodIn_r _ [6, 1, 7, 8, 9, 5, 10, 11, 12, 13, 14, 15, 16, 17, 18, 24, 25, 26, 27, 28, 29, 30, 31, 32, 33, 34, 35, 36, 37, 38, 39, 40] (by decide +kernel) (by decide +kernel)
set_option maxRecDepth 20000 in
theorem gX1_symmetries_X1_ways : GoodIn wsX1_symmetries (wsV RX1 133 RX1 yX1_ways wsX1_ways) := goodIn_app (goodIn_of _ (by decide +kernel)) ggX1_symmetries_X1_ways
set_option maxRecDepth 20000 in
theorem ggX1_symmetries_X1_tells : GoodIn wsX1_symmetries wsX1_tells := goodIn_r _ [22, 23, 24, 25, 26, 27, 28, 29, 30, 31, 32, 33, 34, 35, 36, 37, 38, 39, 40] (by decide +kernel) (by decide +kernel)
set_option maxRecDepth 20000 in
theorem gX1_symmetries_X1_tells : GoodIn wsX1_symmetries (wsV RX1 91 RX1 yX1_tells wsX1_tells) := goodIn_app (goodIn_of _ (by decide +kernel)) ggX1_symmetries_X1_tells
theorem dX1_symmetries_0 : decode cX1_symmetries 0 = .ok (.aload_n 0, 1) := by decide +kernel
theorem dX1_symmetries_1 : decode cX1_symmetries 1 = .ok (.aload_n 0, 1) := by decide +kernel
theorem dX1_symmetries_2 : decode cX1_symmetries 2 = .ok (.aload_n 0, 1) := by decide +kernel
theorem dX1_symmetries_3 : decode cX1_symmetries 3 = .ok (.getfield 7, 3) := by decide +kernel
theorem dX1_symmetries_6 : decode cX1_symmetries 6 = .ok (.invokevirtual 133, 3) := by decide +kernel
theorem dX1_symmetries_9 : decode cX1_symmetries 9 = .ok (.invokevirtual 91, 3) := by decide +kernel
theorem dX1_symmetries_12 : decode cX1_symmetries 12 = .ok (.ireturn, 1) := by decide +kernel
end
section
/-! THE LAYER: what a walk has (zc), what its heap holds (zh), a contract (zM), its start, its ends, its calls -/
abbrev zG : Type := va_G × (ClassId × (ClassId × ClassId))
abbrev zT (g : zG) : List (ClassId × FieldType) := [(g.2.1, .int), (g.2.2.1, .boolean), (g.2.2.2, .long)]
abbrev zK (g : zG) (U : State) : Prop := va_K g.1 vwCl (zT g) U
abbrev zEt : Type := (Nat → Prop) → State → Prop
def zE0 : zEt := fun _ _ => True
/-- what else is known of the state is of cells that stay -/
def zSt (E : zEt) : Prop := ∀ (A B : Nat → Prop) (s U : State), E A s → (∀ q : Nat, B q → A q) → s.WarmedH U.vm → (∀ q : Nat, q < s.heap.size → ¬ A q → U.heap[q]? = s.heap[q]?) → E B U
theorem zSt0 : zSt zE0 := fun _ _ _ _ _ _ _ _ => trivial
def zh (g : zG) (A : Nat → Prop) (ws : va_W) (H0 H : Heap) (locs : List Loc) : Prop := va_P g.1 vwCl ws H ∧ va_D A ws ∧ va_S A H0 H locs
def zc (p : Program) (m : MethodId) (c : Code) (cc : ByteArray) (nL : Nat) (s : State) (args : Array Value) (Ts : List Cond) (own : String) (g : zG) (A : Nat → Prop) (E : zEt) : Prop :=
  CallFix p m c cc nL s args Ts own ∧ zK g s ∧ (∀ q : Nat, s.heap.size ≤ q → A q) ∧ E A s ∧ zSt E
def zM (l : Launch) (y : MethodName) (wds : List Cond) (fr lo : Nat) (g : zG) (av : List Value) (ws : va_W) (E : zEt) (Qc : (Nat → Prop) → Array Value → State → Outcome → State → Prop) : Prop :=
  ∀ sz : Nat, Met l y wds { frames := fr, cells := 0, slots := 0, locals := lo } (va_Pc av (fun U => U.heap.size = sz ∧ zK g U ∧ va_P g.1 vwCl ws U.heap ∧ va_D (fun _ => True) ws ∧ E (va_A ws sz) U)) (Qc (va_A ws sz)) 0 0 (va_A ws sz)
def zQi (g : zG) {S : Type} (post : Int32 → S → Prop) (w : S → va_W) (A : Nat → Prop) : Array Value → State → Outcome → State → Prop := va_Qi post (fun u t => va_P g.1 vwCl (w u) t.heap ∧ va_D A (w u)) A
def zQl (g : zG) {S : Type} (post : Int64 → S → Prop) (w : S → va_W) (A : Nat → Prop) : Array Value → State → Outcome → State → Prop := va_Ql post (fun u t => va_P g.1 vwCl (w u) t.heap ∧ va_D A (w u)) A
def zQv (g : zG) {S : Type} (post : S → Prop) (w : S → va_W) (A : Nat → Prop) : Array Value → State → Outcome → State → Prop := va_Qv post (fun u t => va_P g.1 vwCl (w u) t.heap ∧ va_D A (w u)) A
theorem zblind {g : zG} {av : List Value} {ws : va_W} {E : zEt} (hst : zSt E) (sz : Nat) : FrameBlind (va_Pc av (fun U => U.heap.size = sz ∧ zK g U ∧ va_P g.1 vwCl ws U.heap ∧ va_D (fun _ => True) ws ∧ E (va_A ws sz) U)) := by
  intro a U gg mk q
  obtain ⟨q0, q1, qK, qP, qD, qE⟩ := q
  exact ⟨q0, q1, va_K.moved (u := U) (U := U.calling gg mk a) (Vm.Alike.refl U.vm) qK, qP, qD, hst _ _ U (U.calling gg mk a) qE (fun _ h => h) (State.WarmedH.refl U) (fun _ _ _ => rfl)⟩
theorem zstart {l : Launch} {y : MethodName} {wds ws' : List Cond} {fr lo : Nat} {g : zG} {av : List Value} {ws : va_W} {E : zEt} {Qc : (Nat → Prop) → Array Value → State → Outcome → State → Prop} {cc : ByteArray} {maxL : Nat} {ret : Option FieldType} {own : String}
    (ho : y.cls = own) (hy : plainName own = true) (hw : wds = Cond.code y cc maxL ret :: ws') (hst : zSt E) (hlen : (lg_sl av).length ≤ maxL)
    (body : ∀ (p : Program) (e : Env) (s : State) (m : MethodId) (below : List Frame) (meth : Method) (c : Code) (A : Nat → Prop), zc p m c cc maxL s av.toArray wds own g A E → meth.sig.returnType = ret → meth.locks = false → ∀ (H : Heap) (locs : List Loc), zh g A ws s.heap H locs → ∀ ls : Array Slot, lv_has ls maxL (lv_args 0 av) →
      W p l e { frames := fr, cells := 0, slots := 0, locals := lo } s m av.toArray below meth c H locs 0 0 (MQ below (Qc A) av.toArray s 0 0 A) (F0 m 0 ls [])) : zM l y wds fr lo g av ws E Qc := by
  subst ho
  intro sz
  refine Met.ofW (cc := cc) (maxL := maxL) (ret := ret) hy hw ?_
  intro p e s m args below meth c s₁ B hml hv
  obtain ⟨rfl, rfl, hK, hP, hD0, hE⟩ := hv
  have hts := atoms_spec (ws := wds) B.pre
  have hown : s.vm.findClass y.cls = some m.cls := findClass_of_methodNamed B.named
  rw [lg_entry_eq]
  exact body p e s m below meth c _ ⟨⟨B.exec, B.bytes, hml, hown, hts⟩, hK, fun q h => Or.inr h, hE, hst⟩ B.returns B.notSynchronized _ _ ⟨hP, hD0.self, va_S.rf⟩ _ (lv_entry av hlen)
section ZW
variable {p : Program} {l : Launch} {e : Env} {R : Room} {s : State} {m : MethodId} {args : Array Value} {below : List Frame} {meth : Method} {c : Code} {H : Heap} {locs : List Loc} {cells slots : Nat} {Q : State → Prop}
variable {cc : ByteArray} {nL : Nat} {Ts : List Cond} {own : String} {g : zG} {A : Nat → Prop} {E E' : zEt} {pc : Nat} {ls : Array Slot} {rest st0 : List Value} {ws : va_W}
theorem zreti {S : Type} {post : Int32 → S → Prop} {w : S → va_W} {v : Int32} {ty : FieldType} (Z : zc p m c cc nL s args Ts own g A E) (hr : meth.sig.returnType = some ty) (hlk : meth.locks = false) (u : S) (X : zh g A (w u) s.heap H locs) (hdg : decode cc pc = .ok (.ireturn, 1)) (hn : narrow ty (.int v) = .int v) (hp : post v u) :
    W p l e R s m args below meth c H locs cells slots (MQ below (zQi g post w A) args s cells slots A) (F0 m pc ls [.int v]) :=
  W.zret Z.1.1 Z.1.2.1 hr hn (fun t ht _ => ⟨⟨v, u, rfl, hp, by rw [ht]; exact X.1, X.2.1⟩, X.2.2.F ht⟩) X.2.2.2.2 hdg hlk
theorem zretl {S : Type} {post : Int64 → S → Prop} {w : S → va_W} {v : Int64} (Z : zc p m c cc nL s args Ts own g A E) (hr : meth.sig.returnType = some .long) (hlk : meth.locks = false) (u : S) (X : zh g A (w u) s.heap H locs) (hdg : decode cc pc = .ok (.lreturn, 1)) (hp : post v u) :
    W p l e R s m args below meth c H locs cells slots (MQ below (zQl g post w A) args s cells slots A) (F0 m pc ls [.long v]) :=
  W.lret Z.1.1 Z.1.2.1 hr (fun t ht _ => ⟨⟨v, u, rfl, hp, by rw [ht]; exact X.1, X.2.1⟩, X.2.2.F ht⟩) X.2.2.2.2 hdg hlk
theorem zretv {S : Type} {post : S → Prop} {w : S → va_W} (Z : zc p m c cc nL s args Ts own g A E) (hr : meth.sig.returnType = none) (hlk : meth.locks = false) (u : S) (X : zh g A (w u) s.heap H locs) (hdg : decode cc pc = .ok (.return_, 1)) (hp : post u) :
    W p l e R s m args below meth c H locs cells slots (MQ below (zQv g post w A) args s cells slots A) (F0 m pc ls []) :=
  W.vret Z.1.1 Z.1.2.1 hr (fun t ht _ => ⟨⟨u, rfl, hp, by rw [ht]; exact X.1, X.2.1⟩, X.2.2.F ht⟩) X.2.2.2.2 hdg hlk
theorem zfree (hA : ∀ q : Nat, s.heap.size ≤ q → A q) (X : zh g A ws s.heap H locs) : ∀ q, va_A ws H.size q → A q := by
  intro q h
  rcases h with ⟨k, x, h⟩ | h
  · exact X.2.1.2 k (q, x) h
  · exact hA q (Nat.le_trans X.2.2.1 h)
/-- what a callee that takes the whole world finds -/
theorem zpre {av : List Value} (Z : zc p m c cc nL s args Ts own g A E) (X : zh g A ws s.heap H locs) : ∀ U : State, U.heap = H → s.WarmedH U.vm → va_Pc av (fun U => U.heap.size = H.size ∧ zK g U ∧ va_P g.1 vwCl ws U.heap ∧ va_D (fun _ => True) ws ∧ E (va_A ws H.size) U) av.toArray U := by
  intro U hU hW
  refine ⟨rfl, by rw [hU], va_K.moved hW.alike Z.2.1, by rw [hU]; exact X.1, X.2.1.weaken (fun _ _ _ _ => trivial), ?_⟩
  exact Z.2.2.2.2 _ _ s U Z.2.2.2.1 (zfree Z.2.2.1 X) hW (fun q h1 h2 => by rw [hU]; exact X.2.2.2.1 q h1 h2)
/-- .. one that needs no world -/
theorem zpre0 {av : List Value} (hK : zK g s) : ∀ U : State, U.heap = H → s.WarmedH U.vm → va_Pc av (fun U => U.heap.size = H.size ∧ zK g U ∧ va_P g.1 vwCl [] U.heap ∧ va_D (fun _ => True) [] ∧ zE0 (va_A [] H.size) U) av.toArray U := by
  intro U hU hW
  exact ⟨rfl, by rw [hU], va_K.moved hW.alike hK, fun k q h => by simp at h, ⟨fun i j p q h => by simp at h, fun k q h => by simp at h⟩, trivial⟩
theorem zafter {A1 : Nat → Prop} {w1 : va_W} {t : State} {H1 : Heap} {locs1 : List Loc} (hfc : ∀ q, A1 q → A q) (ht : t.heap = H1) (hB : va_P g.1 vwCl w1 t.heap ∧ va_D A1 w1) (hS : va_S A s.heap H1 locs1) : zh g A w1 s.heap H1 locs1 :=
  ⟨by rw [← ht]; exact hB.1, hB.2.weaken (fun k q _ h => hfc _ h), hS⟩
theorem zkeep {H1 : Heap} {locs1 : List Loc} (X : zh g A ws s.heap H locs) (hk : ∀ q : Nat, q < H.size → ¬ va_A [] H.size q → H1[q]? = H[q]?) (hS : va_S A s.heap H1 locs1) : zh g A ws s.heap H1 locs1 := by
  refine ⟨fun k q hq => (X.1 k q hq).kept (hk _ (X.1 k q hq).lt ?_), X.2.1, hS⟩
  rintro (⟨k2, x, h⟩ | h)
  · simp at h
  · exact absurd (X.1 k q hq).lt (Nat.not_lt.mpr h)
theorem zfree0 (hA : ∀ q : Nat, s.heap.size ≤ q → A q) (X : zh g A ws s.heap H locs) : ∀ q, va_A [] H.size q → A q := by
  intro q h
  rcases h with ⟨k, x, h⟩ | h
  · simp at h
  · exact hA q (Nat.le_trans X.2.2.1 h)
theorem zcallVi {y : MethodName} {wds wds' : List Cond} {fr lo n idx maxL ci N : Nat} {b : Addr} {As : List Value} {S : Type} {post : Int32 → S → Prop} {w : S → va_W} {C : String} {T : u_T} {fs : List Value} {bytes : ByteArray} {ret : Option FieldType}
    (Z : zc p m c cc nL s args Ts own g A E) (X : zh g A ws s.heap H locs) (hM : zM l y wds fr lo g (.ref b :: As) ws E (zQi g post w)) (gi : GoodIn Ts (wsV own idx C y wds)) (hw : wds = Cond.code y bytes maxL ret :: wds')
    (hd : y.cls = C ∧ y.cls ≠ "java/lang/invoke/MethodHandle" ∧ y.cls ≠ "java/lang/invoke/VarHandle" ∧ (parseMethodDescriptor y.desc).map (fun d => d.parameters.length) = some n) (hR : fr + 1 ≤ R.frames ∧ 8 + (maxL + 11) + lo ≤ R.locals)
    (hci : vwCl[ci]? = some (C, T, N)) (hb0 : ws[0]? = some (b, .inr (ci, fs))) (hn : As.length = n) (hs : st0 = As.reverse ++ .ref b :: rest) (hsz : ls.size = nL) (hsum : (rest.map fun v => v.category).sum ≤ 8) (hdg : decode cc pc = .ok (.invokevirtual idx, 3)) (hcs : cells ≤ R.cells ∧ slots ≤ R.slots)
    (kk : ∀ (r : Int32) (u : S) (H1 : Heap) (locs1 : List Loc), post r u → zh g A (w u) s.heap H1 locs1 → W p l e R s m args below meth c H1 locs1 cells slots Q (F0 m (pc + 3) ls (.int r :: rest))) : W p l e R s m args below meth c H locs cells slots Q (F0 m pc ls st0) := by
  have hFc := zfree Z.2.2.1 X
  refine va_calli (va_runV (As := As) (rest := rest) Z.1 (hM H.size) (cwV n Z.1.2.2.2.2 gi hw rfl rfl hd hR) ⟨zblind Z.2.2.2.2 _, va_recv Z.2.1 X.1 hci hb0, zpre Z X⟩ rfl hn hsz hs (lv_room hsum) hdg hcs) X.2.2 (fun q _ h => hFc q h) hFc (fun r u t H1 locs1 ht hvm hp hB hz hk hS => ?_)
  exact kk r u H1 locs1 hp (zafter hFc ht hB hS)
theorem zcallVv {y : MethodName} {wds wds' : List Cond} {fr lo n idx maxL ci N : Nat} {b : Addr} {As : List Value} {S : Type} {post : S → Prop} {w : S → va_W} {C : String} {T : u_T} {fs : List Value} {bytes : ByteArray} {ret : Option FieldType}
    (Z : zc p m c cc nL s args Ts own g A E) (X : zh g A ws s.heap H locs) (hM : zM l y wds fr lo g (.ref b :: As) ws E (zQv g post w)) (gi : GoodIn Ts (wsV own idx C y wds)) (hw : wds = Cond.code y bytes maxL ret :: wds')
    (hd : y.cls = C ∧ y.cls ≠ "java/lang/invoke/MethodHandle" ∧ y.cls ≠ "java/lang/invoke/VarHandle" ∧ (parseMethodDescriptor y.desc).map (fun d => d.parameters.length) = some n) (hR : fr + 1 ≤ R.frames ∧ 8 + (maxL + 11) + lo ≤ R.locals)
    (hci : vwCl[ci]? = some (C, T, N)) (hb0 : ws[0]? = some (b, .inr (ci, fs))) (hn : As.length = n) (hs : st0 = As.reverse ++ .ref b :: rest) (hsz : ls.size = nL) (hsum : (rest.map fun v => v.category).sum ≤ 8) (hdg : decode cc pc = .ok (.invokevirtual idx, 3)) (hcs : cells ≤ R.cells ∧ slots ≤ R.slots)
    (kk : ∀ (u : S) (H1 : Heap) (locs1 : List Loc), post u → zh g A (w u) s.heap H1 locs1 → W p l e R s m args below meth c H1 locs1 cells slots Q (F0 m (pc + 3) ls rest)) : W p l e R s m args below meth c H locs cells slots Q (F0 m pc ls st0) := by
  have hFc := zfree Z.2.2.1 X
  refine va_callv (va_runV (As := As) (rest := rest) Z.1 (hM H.size) (cwV n Z.1.2.2.2.2 gi hw rfl rfl hd hR) ⟨zblind Z.2.2.2.2 _, va_recv Z.2.1 X.1 hci hb0, zpre Z X⟩ rfl hn hsz hs (lv_room hsum) hdg hcs) X.2.2 (fun q _ h => hFc q h) hFc (fun u t H1 locs1 ht hvm hp hB hz hk hS => ?_)
  exact kk u H1 locs1 hp (zafter hFc ht hB hS)
theorem zcallSi {y : MethodName} {wds wds' : List Cond} {fr lo n idx maxL : Nat} {As : List Value} {post : Int32 → Unit → Prop} {bytes : ByteArray} {ret : Option FieldType}
    (Z : zc p m c cc nL s args Ts own g A E) (X : zh g A ws s.heap H locs) (hM : zM l y wds fr lo g As [] zE0 (zQi g post (fun _ => []))) (gi : GoodIn Ts (va_wsS own idx y wds)) (hw : wds = Cond.code y bytes maxL ret :: wds')
    (hd : y.cls ≠ "java/lang/invoke/MethodHandle" ∧ y.cls ≠ "java/lang/invoke/VarHandle" ∧ (parseMethodDescriptor y.desc).map (fun d => d.parameters.length) = some n) (hR : fr + 1 ≤ R.frames ∧ 8 + (maxL + 11) + lo ≤ R.locals)
    (hn : As.length = n) (hs : st0 = As.reverse ++ rest) (hsz : ls.size = nL) (hsum : (rest.map fun v => v.category).sum ≤ 8) (hdg : decode cc pc = .ok (.invokestatic idx, 3)) (hcs : cells ≤ R.cells ∧ slots ≤ R.slots)
    (kk : ∀ (r : Int32) (H1 : Heap) (locs1 : List Loc), post r () → zh g A ws s.heap H1 locs1 → W p l e R s m args below meth c H1 locs1 cells slots Q (F0 m (pc + 3) ls (.int r :: rest))) : W p l e R s m args below meth c H locs cells slots Q (F0 m pc ls st0) := by
  have hFc := zfree0 Z.2.2.1 X
  refine va_calli (va_runS (As := As) (rest := rest) Z.1 (hM H.size) (va_cwS n Z.1.2.2.2.2 gi hw rfl rfl hd hR) ⟨zblind zSt0 _, zpre0 Z.2.1⟩ rfl hn hsz hs (lv_room hsum) hdg hcs) X.2.2 (fun q _ h => hFc q h) hFc (fun r u t H1 locs1 ht hvm hp hB hz hk hS => ?_)
  exact kk r H1 locs1 hp (zkeep X hk hS)
theorem zcallSl {y : MethodName} {wds wds' : List Cond} {fr lo n idx maxL : Nat} {As : List Value} {post : Int64 → Unit → Prop} {bytes : ByteArray} {ret : Option FieldType}
    (Z : zc p m c cc nL s args Ts own g A E) (X : zh g A ws s.heap H locs) (hM : zM l y wds fr lo g As [] zE0 (zQl g post (fun _ => []))) (gi : GoodIn Ts (va_wsS own idx y wds)) (hw : wds = Cond.code y bytes maxL ret :: wds')
    (hd : y.cls ≠ "java/lang/invoke/MethodHandle" ∧ y.cls ≠ "java/lang/invoke/VarHandle" ∧ (parseMethodDescriptor y.desc).map (fun d => d.parameters.length) = some n) (hR : fr + 1 ≤ R.frames ∧ 8 + (maxL + 11) + lo ≤ R.locals)
    (hn : As.length = n) (hs : st0 = As.reverse ++ rest) (hsz : ls.size = nL) (hsum : (rest.map fun v => v.category).sum ≤ 8) (hdg : decode cc pc = .ok (.invokestatic idx, 3)) (hcs : cells ≤ R.cells ∧ slots ≤ R.slots)
    (kk : ∀ (r : Int64) (H1 : Heap) (locs1 : List Loc), post r () → zh g A ws s.heap H1 locs1 → W p l e R s m args below meth c H1 locs1 cells slots Q (F0 m (pc + 3) ls (.long r :: rest))) : W p l e R s m args below meth c H locs cells slots Q (F0 m pc ls st0) := by
  have hFc := zfree0 Z.2.2.1 X
  refine va_calll (va_runS (As := As) (rest := rest) Z.1 (hM H.size) (va_cwS n Z.1.2.2.2.2 gi hw rfl rfl hd hR) ⟨zblind zSt0 _, zpre0 Z.2.1⟩ rfl hn hsz hs (lv_room hsum) hdg hcs) X.2.2 (fun q _ h => hFc q h) hFc (fun r u t H1 locs1 ht hvm hp hB hz hk hS => ?_)
  exact kk r H1 locs1 hp (zkeep X hk hS)
/-- fields of an object that stands at the place 0 -/
theorem zget {C : String} {T : u_T} {N ci index : Nat} {a : Addr} {fs : List Value} {v : Value} (Z : zc p m c cc nL s args Ts C g A E) (hin : ∀ w ∈ u_ws C T N, w ∈ Ts) (X : zh g A ws s.heap H locs) (hc : vwCl[ci]? = some (C, T, N)) (he : ws[0]? = some (a, .inr (ci, fs))) (k : Nat) (hk : k < N) (hlink : Cond.fieldLink C index (T k).1 (T k).2.1 (T k).2.2.1 ∈ Ts) (hv : fs[k]? = some v) (hdg : decode cc pc = .ok (.getfield index, 3))
    (kk : W p l e R s m args below meth c H locs cells slots Q (F0 m (pc + 3) ls (v :: rest))) : W p l e R s m args below meth c H locs cells slots Q (F0 m pc ls (.ref a :: rest)) :=
  va_get Z.1.1 Z.1.2.1 Z.1.2.2.2.2 hin Z.1.2.2.2.1 Z.2.1 X.1 0 he hc k hk (Z.1.2.2.2.2 _ hlink) (fun _ h => h) hv hdg kk
theorem zput {C : String} {T : u_T} {N ci index : Nat} {a : Addr} {fs : List Value} {v : Value} {ty : FieldType} (ty0 : Nat → FieldType) (hty : ∀ k, k < N → parseFieldDescriptor (T k).2.2.1 = some (ty0 k)) (hnm : ∀ a, a < N → ∀ b, b < N → a ≠ b → (T a).2.1 ≠ (T b).2.1)
    (Z : zc p m c cc nL s args Ts C g A E) (hin : ∀ w ∈ u_ws C T N, w ∈ Ts) (X : zh g A ws s.heap H locs) (hc : vwCl[ci]? = some (C, T, N)) (he : ws[0]? = some (a, .inr (ci, fs))) (k : Nat) (hk : k < N) (hlink : Cond.fieldLink C index (T k).1 (T k).2.1 (T k).2.2.1 ∈ Ts)
    (hfin : (T k).2.2.2 = false) (hd : parseFieldDescriptor (T k).2.2.1 = some ty) (hn : narrow ty v = v) (hfit : fits ty v = true) (hl : k < fs.length) (hdg : decode cc pc = .ok (.putfield index, 3))
    (kk : ∀ (H1 : Heap) (locs1 : List Loc), zh g A (ws.set 0 (a, .inr (ci, fs.set k v))) s.heap H1 locs1 → W p l e R s m args below meth c H1 locs1 cells slots Q (F0 m (pc + 3) ls rest)) : W p l e R s m args below meth c H locs cells slots Q (F0 m pc ls (v :: .ref a :: rest)) :=
  va_put (ty := ty) Z.1.1 Z.1.2.1 Z.1.2.2.2.2 hin ty0 hty hnm Z.1.2.2.2.1 Z.2.1 X.1 X.2.1 X.2.2 0 he hc k hk (Z.1.2.2.2.2 _ hlink) (fun _ h => h) hfin hd hn hfit hl hdg (fun H1 locs1 hP hD hS => kk H1 locs1 ⟨hP, hD, hS⟩)
/-- arrays of ints, of booleans (their place in the world, and in the types) -/
theorem zald {q0 n : Nat} {cA : ClassId} {a : Addr} {f : Nat → Int32} {x : Int32} (Z : zc p m c cc nL s args Ts own g A E) (X : zh g A ws s.heap H locs) (ha : ws[q0]? = some (a, .inl (cA, n, .inl f))) (ht : (zT g)[0]? = some (cA, .int)) (k : Nat) (hx : x = nI k) (hk : k < n) (hn : n < 2 ^ 31) (hdg : decode cc pc = .ok (.iaload, 1))
    (kk : W p l e R s m args below meth c H locs cells slots Q (F0 m (pc + 1) ls (.int (f k) :: rest))) : W p l e R s m args below meth c H locs cells slots Q (F0 m pc ls (.int x :: .ref a :: rest)) := by
  subst hx
  refine va_iald Z.1.1 Z.1.2.1 Z.2.1 X.1 q0 0 ha ht (vp_in_nI hk hn) hdg ?_
  rw [nI_clamp (Nat.lt_trans hk hn)]
  exact kk
theorem zast {q0 n : Nat} {cA : ClassId} {a : Addr} {f : Nat → Int32} {x v : Int32} (Z : zc p m c cc nL s args Ts own g A E) (X : zh g A ws s.heap H locs) (ha : ws[q0]? = some (a, .inl (cA, n, .inl f))) (ht : (zT g)[0]? = some (cA, .int)) (k : Nat) (hx : x = nI k) (hk : k < n) (hn : n < 2 ^ 31) (hdg : decode cc pc = .ok (.iastore, 1))
    (kk : ∀ (H1 : Heap) (locs1 : List Loc), zh g A (ws.set q0 (a, .inl (cA, n, .inl (upd f k v)))) s.heap H1 locs1 → W p l e R s m args below meth c H1 locs1 cells slots Q (F0 m (pc + 1) ls rest)) : W p l e R s m args below meth c H locs cells slots Q (F0 m pc ls (.int v :: .int x :: .ref a :: rest)) := by
  subst hx
  refine va_iast Z.1.1 Z.1.2.1 Z.2.1 X.1 X.2.1 X.2.2 q0 0 ha ht (vp_in_nI hk hn) hdg (fun H1 locs1 hP hD hS => ?_)
  rw [nI_clamp (Nat.lt_trans hk hn)] at hP hD
  exact kk H1 locs1 ⟨hP, hD, hS⟩
theorem zbld {q0 n : Nat} {cA : ClassId} {a : Addr} {f : Nat → Int32} {x : Int32} (Z : zc p m c cc nL s args Ts own g A E) (X : zh g A ws s.heap H locs) (ha : ws[q0]? = some (a, .inl (cA, n, .inl f))) (ht : (zT g)[1]? = some (cA, .boolean)) (k : Nat) (hx : x = nI k) (hk : k < n) (hn : n < 2 ^ 31) (hdg : decode cc pc = .ok (.baload, 1))
    (kk : W p l e R s m args below meth c H locs cells slots Q (F0 m (pc + 1) ls (.int (f k) :: rest))) : W p l e R s m args below meth c H locs cells slots Q (F0 m pc ls (.int x :: .ref a :: rest)) := by
  subst hx
  refine va_zald Z.1.1 Z.1.2.1 Z.2.1 X.1 q0 1 ha ht (vp_in_nI hk hn) hdg ?_
  rw [nI_clamp (Nat.lt_trans hk hn)]
  exact kk
theorem zbst {q0 n : Nat} {cA : ClassId} {a : Addr} {f : Nat → Int32} {x v : Int32} (Z : zc p m c cc nL s args Ts own g A E) (X : zh g A ws s.heap H locs) (ha : ws[q0]? = some (a, .inl (cA, n, .inl f))) (ht : (zT g)[1]? = some (cA, .boolean)) (k : Nat) (hx : x = nI k) (hk : k < n) (hn : n < 2 ^ 31) (hv : vp_nar .boolean v = v) (hdg : decode cc pc = .ok (.bastore, 1))
    (kk : ∀ (H1 : Heap) (locs1 : List Loc), zh g A (ws.set q0 (a, .inl (cA, n, .inl (upd f k v)))) s.heap H1 locs1 → W p l e R s m args below meth c H1 locs1 cells slots Q (F0 m (pc + 1) ls rest)) : W p l e R s m args below meth c H locs cells slots Q (F0 m pc ls (.int v :: .int x :: .ref a :: rest)) := by
  subst hx
  refine va_zast Z.1.1 Z.1.2.1 Z.2.1 X.1 X.2.1 X.2.2 q0 1 ha ht (vp_in_nI hk hn) hdg (fun H1 locs1 hP hD hS => ?_)
  rw [nI_clamp (Nat.lt_trans hk hn), hv] at hP hD
  exact kk H1 locs1 ⟨hP, hD, hS⟩
end ZW
end
section
/-! small rows over numbers, the static row of lines, the two worlds -/
theorem zn_eqt {a b : Nat} (ha : a < 2 ^ 31) (hb : b < 2 ^ 31) (c : nI a = nI b) : a = b := (nI_eq ha hb).mp c
theorem zn_eqn {a b : Nat} (ha : a < 2 ^ 31) (hb : b < 2 ^ 31) (c : ¬ nI a = nI b) : ¬ a = b := fun q => c ((nI_eq ha hb).mpr q)
theorem zn_ltt {a b : Nat} (ha : a < 2 ^ 31) (hb : b < 2 ^ 31) (c : nI a < nI b) : a < b := (nI_ltI ha hb).mp c
theorem zn_ltn {a b : Nat} (ha : a < 2 ^ 31) (hb : b < 2 ^ 31) (c : ¬ nI a < nI b) : ¬ a < b := fun q => c ((nI_ltI ha hb).mpr q)
theorem zn_let {a b : Nat} (ha : a < 2 ^ 31) (hb : b < 2 ^ 31) (c : nI a ≤ nI b) : a ≤ b := (nI_leI ha hb).mp c
theorem zn_len {a b : Nat} (ha : a < 2 ^ 31) (hb : b < 2 ^ 31) (c : ¬ nI a ≤ nI b) : ¬ a ≤ b := fun q => c ((nI_leI ha hb).mpr q)
theorem zi_inc (k : Nat) : nI k + Int32.ofInt 1 = nI (k + 1) := nI_1 k
theorem zi_incn (k n : Nat) {j : Int} (h : Int32.ofInt j = nI n) : nI k + Int32.ofInt j = nI (k + n) := by rw [h, nI_add]
def zb (b : Bool) : Int32 := if b then 1 else 0
theorem zb_t {b : Bool} (h : b = true) : zb b = 1 := by rw [h]; rfl
theorem zb_f {b : Bool} (h : ¬ b = true) : zb b = 0 := by
  cases b
  · rfl
  · exact absurd rfl h
theorem zb_0 {b : Bool} : zb b = 0 ↔ b = false := by cases b <;> simp [zb]
theorem zb_n0 {b : Bool} : ¬ zb b = 0 ↔ b = true := by cases b <;> simp [zb]
theorem zb_nar (b : Bool) : narrow .boolean (.int (zb b)) = .int (zb b) := by cases b <;> rfl
theorem zb_fit (b : Bool) : fits .boolean (.int (zb b)) = true := by cases b <;> rfl
/-- the lines, as the class holds them -/
def LMl : List Int32 := [15, 240, 3840, 61440, 4369, 8738, 17476, 34952, 33825, 4680, 51, 102, 204, 816, 1632, 3264, 13056, 26112, 52224]
def LM (k : Nat) : Int32 := LMl.getD k 0
abbrev eIO : String := "java/lang/IndexOutOfBoundsException"
abbrev eIS : String := "java/lang/IllegalStateException"
abbrev eIA : String := "java/lang/IllegalArgumentException"
/-- what a throw asks of the tables beside the words that stay by themselves -/
def zXB : List Cond := [.castable eIO eIO, .castable eIS eIS, .castable eIA eIA, .declares (Bundle.initS "java/lang/RuntimeException"), .declares (Bundle.initS "java/lang/Exception"), .declares (Bundle.initS Bundle.tN)]
def zTx : List (Nat × String) := [(48, "no such piece"), (55, "no piece is to be given"), (62, "the piece is on the board"), (64, "no such square"), (66, "no piece is in the hand"), (68, "the square is not empty"), (90, "no such line"), (95, "the game is over"), (105, "placings is out of range"), (111, "the game is over, or too many squares are empty"), (135, "no board is kept")]
def zNc : List (String × String) := [(eIS, eIO), (eIS, eIA)]
theorem zXB_tab : ∀ w ∈ zXB, w.onTables = true := by decide +kernel
theorem zXB_moved {args : Array Value} {s U : State} (hvm : s.vm.Alike U.vm) {w : Cond} (hw : w ∈ zXB) (h : w.before args s = true) : w.before #[] U = true := by
  have h2 : w.before args (s.setVm U.vm) = true := by
    simp only [zXB, List.mem_cons, List.not_mem_nil, or_false] at hw
    rcases hw with rfl | rfl | rfl | rfl | rfl | rfl <;> first | (rw [Cond.castable_setVm hvm]; exact h) | (rw [Cond.declares_setVm hvm]; exact h)
  exact va_tabs (u := s.setVm U.vm) (zXB_tab w hw) rfl h2
def zEL (bL : Nat) : zEt := fun A U => va_Z "Quarterboard" "LINES" "[I" (.ref bL) A U U.heap ∧ va_T .int bL 19 (fun j => .int (LM j)) A U U.heap ∧ (∀ w ∈ zXB, w.before #[] U = true) ∧ (∀ q ∈ zTx, ∃ sa, vk_R "Quarterboard" q.1 q.2 sa U) ∧ vx_Zq Bundle.tN "UNASSIGNED_STACK" Bundle.steD A U U.heap ∧ vx_Zq Bundle.tN "SUPPRESSED_SENTINEL" Bundle.listD A U U.heap ∧ (∀ q ∈ zNc, va_Nc q.1 q.2 U)
theorem zStL {bL : Nat} : zSt (zEL bL) := by
  intro A B s U h hB hW hq
  obtain ⟨h1, h2, h3, h4, h5, h6, h7⟩ := h
  have hvm := hW.alike
  refine ⟨((va_Z.moved hvm h1).kept (fun a h1 h2 => hq a h1 h2)).narrow hB, ((va_T.moved hvm h2).kept (fun a h1 h2 => hq a h1 h2)).narrow hB, fun w hw => zXB_moved hvm hw (h3 w hw), fun q hw => ?_, ((vx_Zq.moved hvm h5).kept (fun a h1 h2 => hq a h1 h2)).narrow hB, ((vx_Zq.moved hvm h6).kept (fun a h1 h2 => hq a h1 h2)).narrow hB, fun q hw => va_Nc.moved hvm (h7 q hw)⟩
  obtain ⟨sa, hsa⟩ := h4 q hw
  exact ⟨sa, vk_R.warm hW hsa⟩
section ZV
variable {p : Program} {l : Launch} {e : Env} {R : Room} {s : State} {m : MethodId} {args : Array Value} {below : List Frame} {meth : Method} {c : Code} {H : Heap} {locs : List Loc} {cells slots : Nat} {Q : State → Prop}
variable {cc : ByteArray} {nL : Nat} {Ts : List Cond} {own : String} {g : zG} {A : Nat → Prop} {pc : Nat} {ls : Array Slot} {rest : List Value} {ws : va_W}
theorem zrwi {x y : Int32} (h : x = y) (k : W p l e R s m args below meth c H locs cells slots Q (F0 m pc ls (.int y :: rest))) : W p l e R s m args below meth c H locs cells slots Q (F0 m pc ls (.int x :: rest)) := h ▸ k
theorem zrwl {x y : Int64} (h : x = y) (k : W p l e R s m args below meth c H locs cells slots Q (F0 m pc ls (.long y :: rest))) : W p l e R s m args below meth c H locs cells slots Q (F0 m pc ls (.long x :: rest)) := h ▸ k
theorem zlld {bL : Nat} {x : Int32} (Z : zc p m c cc nL s args Ts own g A (zEL bL)) (X : zh g A ws s.heap H locs) (k : Nat) (hx : x = nI k) (hk : k < 19) (hdg : decode cc pc = .ok (.iaload, 1))
    (kk : W p l e R s m args below meth c H locs cells slots Q (F0 m (pc + 1) ls (.int (LM k) :: rest))) : W p l e R s m args below meth c H locs cells slots Q (F0 m pc ls (.int x :: .ref bL :: rest)) := by
  subst hx
  refine va_ti (v := .int (LM k)) Z.1.1 Z.1.2.1 Z.2.2.2.1.2.1 X.2.2 (vp_in_nI hk (by decide)) ?_ hdg kk
  show Value.int (LM (nI k).toNatClampNeg) = _
  rw [nI_clamp (by omega)]
end ZV
abbrev QS : Type := Int32 × Int32 × Int32 × Int32 × Int32 × Int32 × Int32 × Int64 × Int32 × Int32 × Int64
abbrev oQ (h : Nat) (u : QS) : va_W := match u with
  | (q0, q1, q2, q3, q4, q5, q6, q7, q8, q9, q10) => [(h, .inr (0, [.int q0, .int q1, .int q2, .int q3, .int q4, .int q5, .int q6, .long q7, .int q8, .int q9, .long q10]))]
abbrev MS : Type := Int32 × Int32 × Int32 × Int32 × Int32 × Int32 × Int32 × Int32 × (Nat → Int32) × (Nat → Int32) × (Nat → Int32) × (Nat → Int32) × (Nat → Int32) × (Nat → Int32) × (Nat → Int32) × (Nat → Int32) × (Nat → Int32)
abbrev oM (g : zG) (a : Nat → Nat) (u : MS) : va_W := match u with
  | (hb, pl, hd, ph, ot, wi, ik, th, P, O, K, kd, lf, ch, be, gi, mr) => [(a 0, .inr (1, [.int hb, .ref (a 1), .ref (a 2), .int pl, .int hd, .int ph, .int ot, .int wi, .int ik, .ref (a 3), .int th, .ref (a 4), .ref (a 5), .ref (a 6), .ref (a 7), .ref (a 8), .ref (a 9)])), (a 1, .inl (g.2.1, 16, .inl P)), (a 2, .inl (g.2.2.1, 16, .inl O)), (a 3, .inl (g.2.1, 16, .inl K)), (a 4, .inl (g.2.1, 10, .inl kd)), (a 5, .inl (g.2.1, 10, .inl lf)), (a 6, .inl (g.2.1, 10, .inl ch)), (a 7, .inl (g.2.1, 10, .inl be)), (a 8, .inl (g.2.1, 10, .inl gi)), (a 9, .inl (g.2.1, 4, .inl mr))]
end
section
/-! methods that may throw -/
abbrev zNm : List String := ["java/lang/RuntimeException", "java/lang/Exception"]
def zXC (g : zG) (px : String → Prop) (ws : va_W) (A : Nat → Prop) : String → State → State → Prop := vx_X (S := Unit) (fun _ => True) (fun E _ t => px E ∧ va_P g.1 vwCl ws t.heap ∧ va_D A ws) A
def zMX (l : Launch) (y : MethodName) (wds : List Cond) (fr lo : Nat) (g : zG) (av : List Value) (ws : va_W) (E : zEt) (Qc : (Nat → Prop) → Array Value → State → Outcome → State → Prop) (px : String → Prop) : Prop :=
  ∀ sz : Nat, vx_Met l y wds { frames := fr, cells := 1, slots := 6, locals := lo } (va_Pc av (fun U => U.heap.size = sz ∧ zK g U ∧ va_P g.1 vwCl ws U.heap ∧ va_D (fun _ => True) ws ∧ E (va_A ws sz) U)) (Qc (va_A ws sz)) (zXC g px ws (va_A ws sz)) 1 6 (va_A ws sz)
theorem zstartX {l : Launch} {y : MethodName} {wds ws' : List Cond} {fr lo : Nat} {g : zG} {av : List Value} {ws : va_W} {E : zEt} {Qc : (Nat → Prop) → Array Value → State → Outcome → State → Prop} {px : String → Prop} {cc : ByteArray} {maxL : Nat} {ret : Option FieldType} {own : String}
    (ho : y.cls = own) (hy : plainName own = true) (hw : wds = Cond.code y cc maxL ret :: ws') (hst : zSt E) (hlen : (lg_sl av).length ≤ maxL)
    (body : ∀ (p : Program) (e : Env) (s : State) (m : MethodId) (below : List Frame) (meth : Method) (c : Code) (A : Nat → Prop), zc p m c cc maxL s av.toArray wds own g A E → meth.sig.returnType = ret → meth.locks = false → (∀ x ∈ c.exceptionTable.toList, False) → ∀ (H : Heap) (locs : List Loc), zh g A ws s.heap H locs → ∀ ls : Array Slot, lv_has ls maxL (lv_args 0 av) →
      W p l e { frames := fr, cells := 1, slots := 6, locals := lo } s m av.toArray below meth c H locs 0 0 (vx_MQ below (Qc A) (zXC g px ws A) av.toArray s 1 6 A) (F0 m 0 ls [])) : zMX l y wds fr lo g av ws E Qc px := by
  subst ho
  intro sz
  refine vx_ofW (cc := cc) (maxL := maxL) (ret := ret) hy hw ?_
  intro p e s m args below meth c s₁ B hml ht hv
  obtain ⟨rfl, rfl, hK, hP, hD0, hE⟩ := hv
  have hts := atoms_spec (ws := wds) B.pre
  have hown : s.vm.findClass y.cls = some m.cls := findClass_of_methodNamed B.named
  rw [lg_entry_eq]
  exact body p e s m below meth c _ ⟨⟨B.exec, B.bytes, hml, hown, hts⟩, hK, fun q h => Or.inr h, hE, hst⟩ B.returns B.notSynchronized ht _ _ ⟨hP, hD0.self, va_S.rf⟩ _ (lv_entry av hlen)
section ZX
variable {p : Program} {l : Launch} {e : Env} {R : Room} {s : State} {m : MethodId} {args : Array Value} {below : List Frame} {meth : Method} {c : Code} {H : Heap} {locs : List Loc} {cells slots : Nat} {Q : State → Prop}
variable {cc : ByteArray} {nL : Nat} {Ts : List Cond} {own : String} {g : zG} {A : Nat → Prop} {E E' : zEt} {pc : Nat} {ls : Array Slot} {rest st0 : List Value} {ws : va_W}
theorem zthrow {bL : Nat} {Qc : Array Value → State → Outcome → State → Prop} {px : String → Prop} {ik is ic : Nat} {cls text : String} (Z : zc p m c cc nL s args Ts "Quarterboard" g A (zEL bL)) (htr : l.stackTraces = false) (ht : ∀ x ∈ c.exceptionTable.toList, False) (hlk : meth.locks = false) (X : zh g A ws s.heap H locs) (hl : ls.size = nL)
    (hcls : Bundle.fit cls = true) (h1 : Cond.classLink "Quarterboard" ik cls ∈ Ts) (h2 : Cond.initialized cls ∈ Ts) (hstr : (is, text) ∈ zTx) (hat : ∀ w ∈ (vx_atS "Quarterboard" ic cls zNm).filter goodWord, w ∈ Ts) (hB : ∀ w ∈ (vx_atS "Quarterboard" ic cls zNm).filter (fun w => !goodWord w), w ∈ zXB)
    (hgood : ∀ w ∈ Cond.classLink "Quarterboard" ik cls :: Cond.initialized cls :: vx_atS "Quarterboard" ic cls zNm, vx_ot w = true)
    (d0 : decode cc pc = .ok (.new ik, 3)) (d3 : decode cc (pc + 3) = .ok (.dup, 1)) (d4 : decode cc (pc + 4) = .ok (.ldc is, 2)) (d6 : decode cc (pc + 6) = .ok (.invokespecial ic, 3)) (d9 : decode cc (pc + 9) = .ok (.athrow, 1))
    (hRframes : 5 < R.frames) (hRlocals : (rest.map fun v => v.category).sum + 82 ≤ R.locals) (hRcells : 0 + 1 ≤ R.cells) (hRslots : 0 + 6 ≤ R.slots) (hp : px cls) :
    W p l e R s m args below meth c H locs 0 0 (vx_MQ below Qc (zXC g px ws A) args s 1 6 A) (F0 m pc ls rest) := by
  obtain ⟨e1, e2, e3, e4, e5, e6, e7⟩ := Z.2.2.2.1
  obtain ⟨sa, hsa⟩ := e4 _ hstr
  have hcast : ∀ w ∈ zXB, w.before args s = true := fun w hw => va_tabs (zXB_tab w hw) rfl (e3 w hw)
  refine vx_throwS (names := zNm) Z.1.1 Z.1.2.1 htr Z.1.2.2.2.1 hcls (by decide +kernel) (Z.1.2.2.2.2 _ h1) (Z.1.2.2.2.2 _ h2) hsa (vx_hat (fun w hw => Z.1.2.2.2.2 _ (hat w hw)) hB hcast) hgood e5 e6 X.2.2 (hl.trans Z.1.2.2.1.symm) d0 d3 d4 d6 d9 (fun x hx => (ht x hx).elim) hRframes hRlocals hRcells hRslots hlk ?_ X.2.2.2.2 (Nat.le_refl _) (Nat.le_refl _)
  intro t hvm hz hk
  refine ⟨(), trivial, ⟨hp, fun k q hq => (X.1 k q hq).kept (hk _ (X.1 k q hq).lt), X.2.1⟩, ?_⟩
  exact ⟨Nat.le_trans X.2.2.1 hz, fun q h1 h2 => by rw [hk q (Nat.lt_of_lt_of_le h1 X.2.2.1)]; exact X.2.2.2.1 q h1 h2⟩
end ZX
theorem zB_50 : ∀ w ∈ (vx_atS "Quarterboard" 50 eIO zNm).filter (fun w => !goodWord w), w ∈ zXB := by decide +kernel
theorem zB_57 : ∀ w ∈ (vx_atS "Quarterboard" 57 eIS zNm).filter (fun w => !goodWord w), w ∈ zXB := by decide +kernel
theorem zB_107 : ∀ w ∈ (vx_atS "Quarterboard" 107 eIA zNm).filter (fun w => !goodWord w), w ∈ zXB := by decide +kernel
theorem zG_50 : ∀ w ∈ Cond.classLink "Quarterboard" 46 eIO :: Cond.initialized eIO :: vx_atS "Quarterboard" 50 eIO zNm, vx_ot w = true := by decide +kernel
theorem zG_57 : ∀ w ∈ Cond.classLink "Quarterboard" 53 eIS :: Cond.initialized eIS :: vx_atS "Quarterboard" 57 eIS zNm, vx_ot w = true := by decide +kernel
theorem zG_107 : ∀ w ∈ Cond.classLink "Quarterboard" 103 eIA :: Cond.initialized eIA :: vx_atS "Quarterboard" 107 eIA zNm, vx_ot w = true := by decide +kernel
end
section
/-! the class: numbers and sets -/
def qNum (n : Int32) : Bool := decide (¬ n < 0) && decide (¬ 16 ≤ n)
def qHas (set n : Int32) : Bool := decide (¬ set &&& ((1 : Int32) <<< (n &&& 31)) = 0)
def qOne (d : Int64) (m : Int32) : Int32 := ((d.toUInt64 >>> (((16 : Int32) * m).toInt64.toUInt64 &&& Int64.toUInt64 63)).toInt64).toInt32 &&& (65535 : Int32)
def qOwn (p : Int32) : Int32 := p ||| (((p ^^^ (-1 : Int32)) &&& (15 : Int32)) <<< ((4 : Int32) &&& 31))
def qFirst (p : Int32) : Int64 := (((p.toInt64 &&& (1 : Int64)) ||| ((p.toInt64 &&& (2 : Int64)) <<< ((15 : Int32).toInt64 &&& 63))) ||| ((p.toInt64 &&& (4 : Int64)) <<< ((30 : Int32).toInt64 &&& 63))) ||| ((p.toInt64 &&& (8 : Int64)) <<< ((45 : Int32).toInt64 &&& 63))
def qBit (s : Int32) : Int32 := (1 : Int32) <<< (s &&& 31)
def qPutD (d : Int64) (p s : Int32) : Int64 := d ||| (qFirst p <<< (s.toInt64 &&& 63))
def qLiftD (d : Int64) (s : Int32) : Int64 := d &&& (((281479271743489 : Int64) <<< (s.toInt64 &&& 63)) ^^^ (-1 : Int64))
/-- the digits that k marks show as common to the squares there -/
def qCom (d : Int64) (there : Int32) : Nat → Int32
  | 0 => 0
  | k + 1 => (if qOne d (nI k) &&& there = 0 then (if qOne d (nI k) &&& there = there then qCom d there k ||| qBit (nI k) else qCom d there k) ||| qBit (nI k + 4) else (if qOne d (nI k) &&& there = there then qCom d there k ||| qBit (nI k) else qCom d there k))
def qIn (f : Int32) (d : Int64) (squares : Int32) : Int32 := qCom d (squares &&& f) 4
def P_X0_isNumber (n : Int32) : Int32 → Unit → Prop := fun r _ => r = zb (qNum n)
set_option maxHeartbeats 4000000 in
set_option maxRecDepth 100000 in
theorem c_X0_isNumber (l : Launch) (g : zG) (n : Int32)  : zM l yX0_isNumber wsX0_isNumber 0 0 g [.int n] ([]) zE0 (zQi g (P_X0_isNumber n) (fun _ : Unit => [])) := by
  refine zstart (cc := cX0_isNumber) (maxL := 1) (ret := (some .boolean)) (own := RX0) rfl (by decide) rfl zSt0 (Nat.le_of_ble_eq_true rfl) ?_
  intro p e s m below meth c A Z hr hlk H locs X ls hl
  have hx := Z.1.1
  have hb := Z.1.2.1
  have hl : lv_has ls 1 [(0, .int n)] := hl
  have X : zh g A ([]) s.heap H locs := X
  refine lv_iload_n hx hb dX0_isNumber_0 rfl (lv_at hl 0 rfl) ?_
  refine lv_if_lt (tgt := 14) hx hb dX0_isNumber_1 (by decide) (fun c1 => ?_) (fun c1 => ?_)
  · have qc1 := c1
    refine lv_iconst (v := (0 : Int32)) hx hb dX0_isNumber_14 (by decide) ?_
    exact zreti Z hr hlk () X dX0_isNumber_15 rfl (by simp [P_X0_isNumber, qNum, zb, c1])
  · have qc1 := c1
    refine lv_iload_n hx hb dX0_isNumber_4 rfl (lv_at hl 0 rfl) ?_
    refine lv_bipush (v := (16 : Int32)) hx hb dX0_isNumber_5 (by decide) ?_
    refine lv_icmp_ge (tgt := 14) hx hb dX0_isNumber_7 (by decide) (fun c2 => ?_) (fun c2 => ?_)
    · have qc2 := c2
      refine lv_iconst (v := (0 : Int32)) hx hb dX0_isNumber_14 (by decide) ?_
      exact zreti Z hr hlk () X dX0_isNumber_15 rfl (by simp [P_X0_isNumber, qNum, zb, c1, c2])
    · have qc2 := c2
      refine lv_iconst (v := (1 : Int32)) hx hb dX0_isNumber_10 (by decide) ?_
      refine lv_goto (tgt := 15) hx hb dX0_isNumber_11 (by decide) ?_
      exact zreti Z hr hlk () X dX0_isNumber_15 rfl (by simp [P_X0_isNumber, qNum, zb, c1, c2])
def P_X0_has (set : Int32) (n : Int32) : Int32 → Unit → Prop := fun r _ => r = zb (qHas set n)
set_option maxHeartbeats 4000000 in
set_option maxRecDepth 100000 in
theorem c_X0_has (l : Launch) (g : zG) (set : Int32) (n : Int32)  : zM l yX0_has wsX0_has 0 0 g [.int set, .int n] ([]) zE0 (zQi g (P_X0_has set n) (fun _ : Unit => [])) := by
  refine zstart (cc := cX0_has) (maxL := 2) (ret := (some .boolean)) (own := RX0) rfl (by decide) rfl zSt0 (Nat.le_of_ble_eq_true rfl) ?_
  intro p e s m below meth c A Z hr hlk H locs X ls hl
  have hx := Z.1.1
  have hb := Z.1.2.1
  have hl : lv_has ls 2 [(0, .int set), (1, .int n)] := hl
  have X : zh g A ([]) s.heap H locs := X
  refine lv_iload_n hx hb dX0_has_0 rfl (lv_at hl 0 rfl) ?_
  refine lv_iconst (v := (1 : Int32)) hx hb dX0_has_1 (by decide) ?_
  refine lv_iload_n hx hb dX0_has_2 rfl (lv_at hl 1 rfl) ?_
  refine lv_ishl hx hb dX0_has_3 ?_
  refine lv_iand hx hb dX0_has_4 ?_
  refine lv_if_eq (tgt := 12) hx hb dX0_has_5 (by decide) (fun c1 => ?_) (fun c1 => ?_)
  · have qc1 := c1
    refine lv_iconst (v := (0 : Int32)) hx hb dX0_has_12 (by decide) ?_
    exact zreti Z hr hlk () X dX0_has_13 rfl (by simp [P_X0_has, qHas, zb, c1])
  · have qc1 := c1
    refine lv_iconst (v := (1 : Int32)) hx hb dX0_has_8 (by decide) ?_
    refine lv_goto (tgt := 13) hx hb dX0_has_9 (by decide) ?_
    exact zreti Z hr hlk () X dX0_has_13 rfl (by simp [P_X0_has, qHas, zb, c1])
def P_X0_withOne (d : Int64) (n : Int32) : Int32 → Unit → Prop := fun r _ => r = qOne d n
set_option maxHeartbeats 4000000 in
set_option maxRecDepth 100000 in
theorem c_X0_withOne (l : Launch) (g : zG) (d : Int64) (n : Int32)  : zM l yX0_withOne wsX0_withOne 0 0 g [.long d, .int n] ([]) zE0 (zQi g (P_X0_withOne d n) (fun _ : Unit => [])) := by
  refine zstart (cc := cX0_withOne) (maxL := 3) (ret := (some .int)) (own := RX0) rfl (by decide) rfl zSt0 (Nat.le_of_ble_eq_true rfl) ?_
  intro p e s m below meth c A Z hr hlk H locs X ls hl
  have hx := Z.1.1
  have hb := Z.1.2.1
  have hl : lv_has ls 3 [(0, .long d), (2, .int n)] := hl
  have X : zh g A ([]) s.heap H locs := X
  refine lv_lload_n hx hb dX0_withOne_0 rfl (lv_at hl 0 rfl) ?_
  refine lv_bipush (v := (16 : Int32)) hx hb dX0_withOne_1 (by decide) ?_
  refine lv_iload_n hx hb dX0_withOne_3 rfl (lv_at hl 1 rfl) ?_
  refine lv_imul hx hb dX0_withOne_4 ?_
  refine lv_lushr hx hb dX0_withOne_5 rfl ?_
  refine lv_l2i hx hb dX0_withOne_6 rfl ?_
  refine lv_ldc (v := (65535 : Int32)) hx hb Z.1.2.2.2.1 (Z.1.2.2.2.2 (.constant RX0 78 (65535)) (by decide +kernel)) dX0_withOne_7 ?_
  refine lv_iand hx hb dX0_withOne_9 ?_
  exact zreti Z hr hlk () X dX0_withOne_10 rfl (by first | rfl | simp_all)
def P_X0_ownDigits (n : Int32) : Int32 → Unit → Prop := fun r _ => r = qOwn n
set_option maxHeartbeats 4000000 in
set_option maxRecDepth 100000 in
theorem c_X0_ownDigits (l : Launch) (g : zG) (n : Int32)  : zM l yX0_ownDigits wsX0_ownDigits 0 0 g [.int n] ([]) zE0 (zQi g (P_X0_ownDigits n) (fun _ : Unit => [])) := by
  refine zstart (cc := cX0_ownDigits) (maxL := 1) (ret := (some .int)) (own := RX0) rfl (by decide) rfl zSt0 (Nat.le_of_ble_eq_true rfl) ?_
  intro p e s m below meth c A Z hr hlk H locs X ls hl
  have hx := Z.1.1
  have hb := Z.1.2.1
  have hl : lv_has ls 1 [(0, .int n)] := hl
  have X : zh g A ([]) s.heap H locs := X
  refine lv_iload_n hx hb dX0_ownDigits_0 rfl (lv_at hl 0 rfl) ?_
  refine lv_iload_n hx hb dX0_ownDigits_1 rfl (lv_at hl 0 rfl) ?_
  refine lv_iconst (v := (-1 : Int32)) hx hb dX0_ownDigits_2 (by decide) ?_
  refine lv_ixor hx hb dX0_ownDigits_3 ?_
  refine lv_bipush (v := (15 : Int32)) hx hb dX0_ownDigits_4 (by decide) ?_
  refine lv_iand hx hb dX0_ownDigits_6 ?_
  refine lv_iconst (v := (4 : Int32)) hx hb dX0_ownDigits_7 (by decide) ?_
  refine lv_ishl hx hb dX0_ownDigits_8 ?_
  refine lv_ior hx hb dX0_ownDigits_9 ?_
  exact zreti Z hr hlk () X dX0_ownDigits_10 rfl (by first | rfl | simp_all)
def P_X0_atFirstSquare (n : Int32) : Int64 → Unit → Prop := fun r _ => r = qFirst n
set_option maxHeartbeats 4000000 in
set_option maxRecDepth 100000 in
theorem c_X0_atFirstSquare (l : Launch) (g : zG) (n : Int32)  : zM l yX0_atFirstSquare wsX0_atFirstSquare 0 0 g [.int n] ([]) zE0 (zQl g (P_X0_atFirstSquare n) (fun _ : Unit => [])) := by
  refine zstart (cc := cX0_atFirstSquare) (maxL := 1) (ret := (some .long)) (own := RX0) rfl (by decide) rfl zSt0 (Nat.le_of_ble_eq_true rfl) ?_
  intro p e s m below meth c A Z hr hlk H locs X ls hl
  have hx := Z.1.1
  have hb := Z.1.2.1
  have hl : lv_has ls 1 [(0, .int n)] := hl
  have X : zh g A ([]) s.heap H locs := X
  refine lv_iload_n hx hb dX0_atFirstSquare_0 rfl (lv_at hl 0 rfl) ?_
  refine lv_i2l hx hb dX0_atFirstSquare_1 rfl ?_
  refine lv_lconst (v := (1 : Int64)) hx hb dX0_atFirstSquare_2 (by decide) ?_
  refine lv_land hx hb dX0_atFirstSquare_3 ?_
  refine lv_iload_n hx hb dX0_atFirstSquare_4 rfl (lv_at hl 0 rfl) ?_
  refine lv_i2l hx hb dX0_atFirstSquare_5 rfl ?_
  refine lv_ldc2 (v := (2 : Int64)) hx hb Z.1.2.2.2.1 (Z.1.2.2.2.2 (.constantLong RX0 141 (2)) (by decide +kernel)) dX0_atFirstSquare_6 ?_
  refine lv_land hx hb dX0_atFirstSquare_9 ?_
  refine lv_bipush (v := (15 : Int32)) hx hb dX0_atFirstSquare_10 (by decide) ?_
  refine lv_lshl hx hb dX0_atFirstSquare_12 rfl ?_
  refine lv_lor hx hb dX0_atFirstSquare_13 ?_
  refine lv_iload_n hx hb dX0_atFirstSquare_14 rfl (lv_at hl 0 rfl) ?_
  refine lv_i2l hx hb dX0_atFirstSquare_15 rfl ?_
  refine lv_ldc2 (v := (4 : Int64)) hx hb Z.1.2.2.2.1 (Z.1.2.2.2.2 (.constantLong RX0 143 (4)) (by decide +kernel)) dX0_atFirstSquare_16 ?_
  refine lv_land hx hb dX0_atFirstSquare_19 ?_
  refine lv_bipush (v := (30 : Int32)) hx hb dX0_atFirstSquare_20 (by decide) ?_
  refine lv_lshl hx hb dX0_atFirstSquare_22 rfl ?_
  refine lv_lor hx hb dX0_atFirstSquare_23 ?_
  refine lv_iload_n hx hb dX0_atFirstSquare_24 rfl (lv_at hl 0 rfl) ?_
  refine lv_i2l hx hb dX0_atFirstSquare_25 rfl ?_
  refine lv_ldc2 (v := (8 : Int64)) hx hb Z.1.2.2.2.1 (Z.1.2.2.2.2 (.constantLong RX0 145 (8)) (by decide +kernel)) dX0_atFirstSquare_26 ?_
  refine lv_land hx hb dX0_atFirstSquare_29 ?_
  refine lv_bipush (v := (45 : Int32)) hx hb dX0_atFirstSquare_30 (by decide) ?_
  refine lv_lshl hx hb dX0_atFirstSquare_32 rfl ?_
  refine lv_lor hx hb dX0_atFirstSquare_33 ?_
  exact zretl Z hr hlk () X dX0_atFirstSquare_34 (by first | rfl | simp_all)
theorem inw_X0_put : ∀ w ∈ wsX00, w ∈ wsX0_put := by decide +kernel
theorem lk_X0_put_16 : Cond.fieldLink RX0 16 "Quarterboard" "filled" "I" ∈ wsX0_put := by decide +kernel
theorem lk_X0_put_35 : Cond.fieldLink RX0 35 "Quarterboard" "used" "I" ∈ wsX0_put := by decide +kernel
theorem lk_X0_put_38 : Cond.fieldLink RX0 38 "Quarterboard" "digits" "J" ∈ wsX0_put := by decide +kernel
def P_X0_put (q0 q1 q2 q3 q4 q5 q6 : Int32) (q7 : Int64) (q8 q9 : Int32) (q10 : Int64) (pc : Int32) (sq : Int32) : QS → Prop := fun u => u = (q0, q1, q2, q3, q4, q5 ||| qBit sq, q6 ||| qBit pc, qPutD q7 pc sq, q8, q9, q10)
set_option maxHeartbeats 4000000 in
set_option maxRecDepth 100000 in
theorem c_X0_put (l : Launch) (g : zG) (bL h : Nat) (q0 q1 q2 q3 q4 q5 q6 : Int32) (q7 : Int64) (q8 q9 : Int32) (q10 : Int64) (pc : Int32) (sq : Int32)  : zM l yX0_put wsX0_put 1 40 g [.ref h, .int pc, .int sq] (oQ h (q0, q1, q2, q3, q4, q5, q6, q7, q8, q9, q10)) (zEL bL) (zQv g (P_X0_put q0 q1 q2 q3 q4 q5 q6 q7 q8 q9 q10 pc sq) (oQ h)) := by
  refine zstart (cc := cX0_put) (maxL := 3) (ret := none) (own := RX0) rfl (by decide) rfl zStL (Nat.le_of_ble_eq_true rfl) ?_
  intro p e s m below meth c A Z hr hlk H locs X ls hl
  have hx := Z.1.1
  have hb := Z.1.2.1
  have hin : ∀ w ∈ wsX00, w ∈ wsX0_put := inw_X0_put
  have hl : lv_has ls 3 [(0, .ref h), (1, .int pc), (2, .int sq)] := hl
  have X : zh g A (oQ h (q0, q1, q2, q3, q4, q5, q6, q7, q8, q9, q10)) s.heap H locs := X
  refine lv_aload_n hx hb dX0_put_0 rfl (lv_at hl 0 rfl) ?_
  refine lv_dup hx hb dX0_put_1 rfl ?_
  refine zget (fs := [.int q0, .int q1, .int q2, .int q3, .int q4, .int q5, .int q6, .long q7, .int q8, .int q9, .long q10]) (v := .int q5) Z hin X (ci := 0) (C := RX0) (T := TX0) (N := 11) rfl rfl 5 (by decide) lk_X0_put_16 rfl dX0_put_2 ?_
  refine lv_iconst (v := (1 : Int32)) hx hb dX0_put_5 (by decide) ?_
  refine lv_iload_n hx hb dX0_put_6 rfl (lv_at hl 2 rfl) ?_
  refine lv_ishl hx hb dX0_put_7 ?_
  refine lv_ior hx hb dX0_put_8 ?_
  refine lv_topi (fun x1 ex1 => ?_)
  refine zput (ty := .int) (fs := [.int q0, .int q1, .int q2, .int q3, .int q4, .int q5, .int q6, .long q7, .int q8, .int q9, .long q10]) (v := .int x1) tyX0 tyX0_ok nmX0 Z hin X (ci := 0) (C := RX0) (T := TX0) (N := 11) rfl rfl 5 (by decide) lk_X0_put_16 rfl (by decide +kernel) rfl rfl (Nat.le_of_ble_eq_true rfl) dX0_put_9 (fun H locs X => ?_)
  have X : zh g A (oQ h (q0, q1, q2, q3, q4, x1, q6, q7, q8, q9, q10)) s.heap H locs := X
  refine lv_aload_n hx hb dX0_put_12 rfl (lv_at hl 0 rfl) ?_
  refine lv_dup hx hb dX0_put_13 rfl ?_
  refine zget (fs := [.int q0, .int q1, .int q2, .int q3, .int q4, .int x1, .int q6, .long q7, .int q8, .int q9, .long q10]) (v := .int q6) Z hin X (ci := 0) (C := RX0) (T := TX0) (N := 11) rfl rfl 6 (by decide) lk_X0_put_35 rfl dX0_put_14 ?_
  refine lv_iconst (v := (1 : Int32)) hx hb dX0_put_17 (by decide) ?_
  refine lv_iload_n hx hb dX0_put_18 rfl (lv_at hl 1 rfl) ?_
  refine lv_ishl hx hb dX0_put_19 ?_
  refine lv_ior hx hb dX0_put_20 ?_
  refine lv_topi (fun x2 ex2 => ?_)
  refine zput (ty := .int) (fs := [.int q0, .int q1, .int q2, .int q3, .int q4, .int x1, .int q6, .long q7, .int q8, .int q9, .long q10]) (v := .int x2) tyX0 tyX0_ok nmX0 Z hin X (ci := 0) (C := RX0) (T := TX0) (N := 11) rfl rfl 6 (by decide) lk_X0_put_35 rfl (by decide +kernel) rfl rfl (Nat.le_of_ble_eq_true rfl) dX0_put_21 (fun H locs X => ?_)
  have X : zh g A (oQ h (q0, q1, q2, q3, q4, x1, x2, q7, q8, q9, q10)) s.heap H locs := X
  refine lv_aload_n hx hb dX0_put_24 rfl (lv_at hl 0 rfl) ?_
  refine lv_dup hx hb dX0_put_25 rfl ?_
  refine zget (fs := [.int q0, .int q1, .int q2, .int q3, .int q4, .int x1, .int x2, .long q7, .int q8, .int q9, .long q10]) (v := .long q7) Z hin X (ci := 0) (C := RX0) (T := TX0) (N := 11) rfl rfl 7 (by decide) lk_X0_put_38 rfl dX0_put_26 ?_
  refine lv_iload_n hx hb dX0_put_29 rfl (lv_at hl 1 rfl) ?_
  refine zcallSl (n := 1) (As := [.int pc]) (rest := [.long q7, .ref h]) Z X (c_X0_atFirstSquare l g pc) gX0_put_X0_atFirstSquare rfl (by decide +kernel) ⟨Nat.le_of_ble_eq_true rfl, Nat.le_of_ble_eq_true rfl⟩ rfl rfl hl.1 (Nat.le_of_ble_eq_true rfl) dX0_put_30 ⟨Nat.zero_le _, Nat.zero_le _⟩ (fun r2 H locs hrr2 X => ?_)
  obtain rfl : r2 = qFirst pc := hrr2
  refine lv_iload_n hx hb dX0_put_33 rfl (lv_at hl 2 rfl) ?_
  refine lv_lshl hx hb dX0_put_34 rfl ?_
  refine lv_lor hx hb dX0_put_35 ?_
  refine lv_topl (fun x4 ex4 => ?_)
  refine zput (ty := .long) (fs := [.int q0, .int q1, .int q2, .int q3, .int q4, .int x1, .int x2, .long q7, .int q8, .int q9, .long q10]) (v := .long x4) tyX0 tyX0_ok nmX0 Z hin X (ci := 0) (C := RX0) (T := TX0) (N := 11) rfl rfl 7 (by decide) lk_X0_put_38 rfl (by decide +kernel) rfl rfl (Nat.le_of_ble_eq_true rfl) dX0_put_36 (fun H locs X => ?_)
  have X : zh g A (oQ h (q0, q1, q2, q3, q4, x1, x2, x4, q8, q9, q10)) s.heap H locs := X
  exact zretv Z hr hlk (q0, q1, q2, q3, q4, x1, x2, x4, q8, q9, q10) X dX0_put_39 (by subst ex4; subst ex2; subst ex1; rfl)
theorem inw_X0_lift : ∀ w ∈ wsX00, w ∈ wsX0_lift := by decide +kernel
theorem lk_X0_lift_16 : Cond.fieldLink RX0 16 "Quarterboard" "filled" "I" ∈ wsX0_lift := by decide +kernel
theorem lk_X0_lift_35 : Cond.fieldLink RX0 35 "Quarterboard" "used" "I" ∈ wsX0_lift := by decide +kernel
theorem lk_X0_lift_38 : Cond.fieldLink RX0 38 "Quarterboard" "digits" "J" ∈ wsX0_lift := by decide +kernel
def P_X0_lift (q0 q1 q2 q3 q4 q5 q6 : Int32) (q7 : Int64) (q8 q9 : Int32) (q10 : Int64) (pc : Int32) (sq : Int32) : QS → Prop := fun u => u = (q0, q1, q2, q3, q4, q5 &&& (qBit sq ^^^ (-1 : Int32)), q6 &&& (qBit pc ^^^ (-1 : Int32)), qLiftD q7 sq, q8, q9, q10)
set_option maxHeartbeats 4000000 in
set_option maxRecDepth 100000 in
theorem c_X0_lift (l : Launch) (g : zG) (bL h : Nat) (q0 q1 q2 q3 q4 q5 q6 : Int32) (q7 : Int64) (q8 q9 : Int32) (q10 : Int64) (pc : Int32) (sq : Int32)  : zM l yX0_lift wsX0_lift 0 0 g [.ref h, .int pc, .int sq] (oQ h (q0, q1, q2, q3, q4, q5, q6, q7, q8, q9, q10)) (zEL bL) (zQv g (P_X0_lift q0 q1 q2 q3 q4 q5 q6 q7 q8 q9 q10 pc sq) (oQ h)) := by
  refine zstart (cc := cX0_lift) (maxL := 3) (ret := none) (own := RX0) rfl (by decide) rfl zStL (Nat.le_of_ble_eq_true rfl) ?_
  intro p e s m below meth c A Z hr hlk H locs X ls hl
  have hx := Z.1.1
  have hb := Z.1.2.1
  have hin : ∀ w ∈ wsX00, w ∈ wsX0_lift := inw_X0_lift
  have hl : lv_has ls 3 [(0, .ref h), (1, .int pc), (2, .int sq)] := hl
  have X : zh g A (oQ h (q0, q1, q2, q3, q4, q5, q6, q7, q8, q9, q10)) s.heap H locs := X
  refine lv_aload_n hx hb dX0_lift_0 rfl (lv_at hl 0 rfl) ?_
  refine lv_dup hx hb dX0_lift_1 rfl ?_
  refine zget (fs := [.int q0, .int q1, .int q2, .int q3, .int q4, .int q5, .int q6, .long q7, .int q8, .int q9, .long q10]) (v := .int q5) Z hin X (ci := 0) (C := RX0) (T := TX0) (N := 11) rfl rfl 5 (by decide) lk_X0_lift_16 rfl dX0_lift_2 ?_
  refine lv_iconst (v := (1 : Int32)) hx hb dX0_lift_5 (by decide) ?_
  refine lv_iload_n hx hb dX0_lift_6 rfl (lv_at hl 2 rfl) ?_
  refine lv_ishl hx hb dX0_lift_7 ?_
  refine lv_iconst (v := (-1 : Int32)) hx hb dX0_lift_8 (by decide) ?_
  refine lv_ixor hx hb dX0_lift_9 ?_
  refine lv_iand hx hb dX0_lift_10 ?_
  refine lv_topi (fun x1 ex1 => ?_)
  refine zput (ty := .int) (fs := [.int q0, .int q1, .int q2, .int q3, .int q4, .int q5, .int q6, .long q7, .int q8, .int q9, .long q10]) (v := .int x1) tyX0 tyX0_ok nmX0 Z hin X (ci := 0) (C := RX0) (T := TX0) (N := 11) rfl rfl 5 (by decide) lk_X0_lift_16 rfl (by decide +kernel) rfl rfl (Nat.le_of_ble_eq_true rfl) dX0_lift_11 (fun H locs X => ?_)
  have X : zh g A (oQ h (q0, q1, q2, q3, q4, x1, q6, q7, q8, q9, q10)) s.heap H locs := X
  refine lv_aload_n hx hb dX0_lift_14 rfl (lv_at hl 0 rfl) ?_
  refine lv_dup hx hb dX0_lift_15 rfl ?_
  refine zget (fs := [.int q0, .int q1, .int q2, .int q3, .int q4, .int x1, .int q6, .long q7, .int q8, .int q9, .long q10]) (v := .int q6) Z hin X (ci := 0) (C := RX0) (T := TX0) (N := 11) rfl rfl 6 (by decide) lk_X0_lift_35 rfl dX0_lift_16 ?_
  refine lv_iconst (v := (1 : Int32)) hx hb dX0_lift_19 (by decide) ?_
  refine lv_iload_n hx hb dX0_lift_20 rfl (lv_at hl 1 rfl) ?_
  refine lv_ishl hx hb dX0_lift_21 ?_
  refine lv_iconst (v := (-1 : Int32)) hx hb dX0_lift_22 (by decide) ?_
  refine lv_ixor hx hb dX0_lift_23 ?_
  refine lv_iand hx hb dX0_lift_24 ?_
  refine lv_topi (fun x2 ex2 => ?_)
  refine zput (ty := .int) (fs := [.int q0, .int q1, .int q2, .int q3, .int q4, .int x1, .int q6, .long q7, .int q8, .int q9, .long q10]) (v := .int x2) tyX0 tyX0_ok nmX0 Z hin X (ci := 0) (C := RX0) (T := TX0) (N := 11) rfl rfl 6 (by decide) lk_X0_lift_35 rfl (by decide +kernel) rfl rfl (Nat.le_of_ble_eq_true rfl) dX0_lift_25 (fun H locs X => ?_)
  have X : zh g A (oQ h (q0, q1, q2, q3, q4, x1, x2, q7, q8, q9, q10)) s.heap H locs := X
  refine lv_aload_n hx hb dX0_lift_28 rfl (lv_at hl 0 rfl) ?_
  refine lv_dup hx hb dX0_lift_29 rfl ?_
  refine zget (fs := [.int q0, .int q1, .int q2, .int q3, .int q4, .int x1, .int x2, .long q7, .int q8, .int q9, .long q10]) (v := .long q7) Z hin X (ci := 0) (C := RX0) (T := TX0) (N := 11) rfl rfl 7 (by decide) lk_X0_lift_38 rfl dX0_lift_30 ?_
  refine lv_ldc2 (v := (281479271743489 : Int64)) hx hb Z.1.2.2.2.1 (Z.1.2.2.2.2 (.constantLong RX0 151 (281479271743489)) (by decide +kernel)) dX0_lift_33 ?_
  refine lv_iload_n hx hb dX0_lift_36 rfl (lv_at hl 2 rfl) ?_
  refine lv_lshl hx hb dX0_lift_37 rfl ?_
  refine lv_ldc2 (v := (-1 : Int64)) hx hb Z.1.2.2.2.1 (Z.1.2.2.2.2 (.constantLong RX0 153 (-1)) (by decide +kernel)) dX0_lift_38 ?_
  refine lv_lxor hx hb dX0_lift_41 ?_
  refine lv_land hx hb dX0_lift_42 ?_
  refine lv_topl (fun x3 ex3 => ?_)
  refine zput (ty := .long) (fs := [.int q0, .int q1, .int q2, .int q3, .int q4, .int x1, .int x2, .long q7, .int q8, .int q9, .long q10]) (v := .long x3) tyX0 tyX0_ok nmX0 Z hin X (ci := 0) (C := RX0) (T := TX0) (N := 11) rfl rfl 7 (by decide) lk_X0_lift_38 rfl (by decide +kernel) rfl rfl (Nat.le_of_ble_eq_true rfl) dX0_lift_43 (fun H locs X => ?_)
  have X : zh g A (oQ h (q0, q1, q2, q3, q4, x1, x2, x3, q8, q9, q10)) s.heap H locs := X
  exact zretv Z hr hlk (q0, q1, q2, q3, q4, x1, x2, x3, q8, q9, q10) X dX0_lift_46 (by subst ex3; subst ex2; subst ex1; rfl)
theorem inw_X0_inCommon : ∀ w ∈ wsX00, w ∈ wsX0_inCommon := by decide +kernel
theorem lk_X0_inCommon_16 : Cond.fieldLink RX0 16 "Quarterboard" "filled" "I" ∈ wsX0_inCommon := by decide +kernel
theorem lk_X0_inCommon_38 : Cond.fieldLink RX0 38 "Quarterboard" "digits" "J" ∈ wsX0_inCommon := by decide +kernel
def P_X0_inCommon (q0 q1 q2 q3 q4 q5 q6 : Int32) (q7 : Int64) (q8 q9 : Int32) (q10 : Int64) (squares : Int32) : Int32 → QS → Prop := fun r u => u = (q0, q1, q2, q3, q4, q5, q6, q7, q8, q9, q10) ∧ r = qIn q5 q7 squares
set_option maxHeartbeats 4000000 in
set_option maxRecDepth 100000 in
theorem c_X0_inCommon (l : Launch) (g : zG) (bL h : Nat) (q0 q1 q2 q3 q4 q5 q6 : Int32) (q7 : Int64) (q8 q9 : Int32) (q10 : Int64) (squares : Int32)  : zM l yX0_inCommon wsX0_inCommon 1 40 g [.ref h, .int squares] (oQ h (q0, q1, q2, q3, q4, q5, q6, q7, q8, q9, q10)) (zEL bL) (zQi g (P_X0_inCommon q0 q1 q2 q3 q4 q5 q6 q7 q8 q9 q10 squares) (oQ h)) := by
  refine zstart (cc := cX0_inCommon) (maxL := 6) (ret := (some .int)) (own := RX0) rfl (by decide) rfl zStL (Nat.le_of_ble_eq_true rfl) ?_
  intro p e s m below meth c A Z hr hlk H locs X ls hl
  have hx := Z.1.1
  have hb := Z.1.2.1
  have hin : ∀ w ∈ wsX00, w ∈ wsX0_inCommon := inw_X0_inCommon
  have hl : lv_has ls 6 [(0, .ref h), (1, .int squares)] := hl
  have X : zh g A (oQ h (q0, q1, q2, q3, q4, q5, q6, q7, q8, q9, q10)) s.heap H locs := X
  refine lv_iload_n hx hb dX0_inCommon_0 rfl (lv_at hl 1 rfl) ?_
  refine lv_aload_n hx hb dX0_inCommon_1 rfl (lv_at hl 0 rfl) ?_
  refine zget (fs := [.int q0, .int q1, .int q2, .int q3, .int q4, .int q5, .int q6, .long q7, .int q8, .int q9, .long q10]) (v := .int q5) Z hin X (ci := 0) (C := RX0) (T := TX0) (N := 11) rfl rfl 5 (by decide) lk_X0_inCommon_16 rfl dX0_inCommon_2 ?_
  refine lv_iand hx hb dX0_inCommon_5 ?_
  refine lv_topi (fun x1 ex1 => ?_)
  refine lv_istore_n (lv' := [(2, .int x1), (0, .ref h), (1, .int squares)]) hx hb dX0_inCommon_6 rfl hl (by decide) rfl (fun ls hl => ?_)
  refine lv_iconst (v := (0 : Int32)) hx hb dX0_inCommon_7 (by decide) ?_
  refine lv_istore_n (lv' := [(3, .int (0 : Int32)), (2, .int x1), (0, .ref h), (1, .int squares)]) hx hb dX0_inCommon_8 rfl hl (by decide) rfl (fun ls hl => ?_)
  refine lv_iconst (v := (0 : Int32)) hx hb dX0_inCommon_9 (by decide) ?_
  refine lv_istore (lv' := [(4, .int (0 : Int32)), (3, .int (0 : Int32)), (2, .int x1), (0, .ref h), (1, .int squares)]) hx hb dX0_inCommon_10 hl (by decide) rfl (fun ls hl => ?_)
  have cut12 : ∀ (n12 : Nat), ∀ (k : Nat) (th : Int32) (acc : Int32), (k ≤ 4) → (th = squares &&& q5) → (acc = qCom q7 th k) → (5 - k ≤ n12) → ∀ (H : Heap) (locs : List Loc) (ls : Array Slot), zh g A (oQ h (q0, q1, q2, q3, q4, q5, q6, q7, q8, q9, q10)) s.heap H locs → lv_has ls 6 [(4, .int (nI k)), (3, .int acc), (2, .int th), (0, .ref h), (1, .int squares)] → W p l e { frames := 1, cells := 0, slots := 0, locals := 40 } s m ([.ref h, .int squares] : List Value).toArray below meth c H locs 0 0 (MQ below ((zQi g (P_X0_inCommon q0 q1 q2 q3 q4 q5 q6 q7 q8 q9 q10 squares) (oQ h)) A) ([.ref h, .int squares] : List Value).toArray s 0 0 A) (F0 m 12 ls []) := by
    intro n12
    induction n12 with
    | zero =>
      intro k th acc hk hth hacc hm12
      exact absurd hm12 (by omega)
    | succ n12 ih12 =>
      intro k th acc hk hth hacc hm12 H locs ls X hl
      refine lv_iload hx hb dX0_inCommon_12 (lv_at hl 0 rfl) ?_
      refine lv_iconst (v := (4 : Int32)) hx hb dX0_inCommon_14 (by decide) ?_
      refine lv_icmp_ge (tgt := 64) hx hb dX0_inCommon_15 (by decide) (fun c2 => ?_) (fun c2 => ?_)
      · have qc2 := c2
        have c2n : 4 ≤ k := zn_let (by omega) (by omega) c2
        refine lv_iload_n hx hb dX0_inCommon_64 rfl (lv_at hl 1 rfl) ?_
        exact zreti Z hr hlk (q0, q1, q2, q3, q4, q5, q6, q7, q8, q9, q10) X dX0_inCommon_65 rfl (⟨rfl, by rw [hacc, hth, show k = 4 by omega]; rfl⟩)
      · have qc2 := c2
        have c2n : ¬ 4 ≤ k := zn_len (by omega) (by omega) c2
        refine lv_aload_n hx hb dX0_inCommon_18 rfl (lv_at hl 3 rfl) ?_
        refine zget (fs := [.int q0, .int q1, .int q2, .int q3, .int q4, .int q5, .int q6, .long q7, .int q8, .int q9, .long q10]) (v := .long q7) Z hin X (ci := 0) (C := RX0) (T := TX0) (N := 11) rfl rfl 7 (by decide) lk_X0_inCommon_38 rfl dX0_inCommon_19 ?_
        refine lv_iload hx hb dX0_inCommon_22 (lv_at hl 0 rfl) ?_
        refine zcallSi (n := 2) (As := [.long q7, .int (nI k)]) (rest := []) Z X (c_X0_withOne l g q7 (nI k)) gX0_inCommon_X0_withOne rfl (by decide +kernel) ⟨Nat.le_of_ble_eq_true rfl, Nat.le_of_ble_eq_true rfl⟩ rfl rfl hl.1 (Nat.le_of_ble_eq_true rfl) dX0_inCommon_24 ⟨Nat.zero_le _, Nat.zero_le _⟩ (fun r2 H locs hrr2 X => ?_)
        obtain rfl : r2 = qOne q7 (nI k) := hrr2
        refine lv_iload_n hx hb dX0_inCommon_27 rfl (lv_at hl 2 rfl) ?_
        refine lv_iand hx hb dX0_inCommon_28 ?_
        refine lv_topi (fun x4 ex4 => ?_)
        refine lv_istore (lv' := [(5, .int x4), (4, .int (nI k)), (3, .int acc), (2, .int th), (0, .ref h), (1, .int squares)]) hx hb dX0_inCommon_29 hl (by decide) rfl (fun ls hl => ?_)
        refine lv_iload hx hb dX0_inCommon_31 (lv_at hl 0 rfl) ?_
        refine lv_iload_n hx hb dX0_inCommon_33 rfl (lv_at hl 3 rfl) ?_
        refine lv_icmp_ne (tgt := 44) hx hb dX0_inCommon_34 (by decide) (fun c5 => ?_) (fun c5 => ?_)
        · have qc5 := c5
          refine lv_iload hx hb dX0_inCommon_44 (lv_at hl 0 rfl) ?_
          refine lv_if_ne (tgt := 58) hx hb dX0_inCommon_46 (by decide) (fun c6 => ?_) (fun c6 => ?_)
          · have qc6 := c6
            refine lv_iinc (v := nI (k + 1)) (lv' := [(4, .int (nI (k + 1))), (5, .int x4), (3, .int acc), (2, .int th), (0, .ref h), (1, .int squares)]) hx hb dX0_inCommon_58 hl (k := 1) rfl (zi_inc k) (by decide) rfl (fun ls hl => ?_)
            refine lv_goto (tgt := 12) hx hb dX0_inCommon_61 (by decide) ?_
            exact ih12 (k + 1) th acc (by first | assumption | omega) (by first | assumption | omega) (by subst ex4; rw [hacc]; simp only [qCom]; (repeat' split) <;> first | rfl | contradiction) (by omega) H locs ls X (lv_sub hl [0, 2, 3, 4, 5] rfl)
          · have qc6 := c6
            refine lv_iload_n hx hb dX0_inCommon_49 rfl (lv_at hl 2 rfl) ?_
            refine lv_iconst (v := (1 : Int32)) hx hb dX0_inCommon_50 (by decide) ?_
            refine lv_iload hx hb dX0_inCommon_51 (lv_at hl 1 rfl) ?_
            refine lv_iconst (v := (4 : Int32)) hx hb dX0_inCommon_53 (by decide) ?_
            refine lv_iadd hx hb dX0_inCommon_54 ?_
            refine lv_ishl hx hb dX0_inCommon_55 ?_
            refine lv_ior hx hb dX0_inCommon_56 ?_
            refine lv_topi (fun x7 ex7 => ?_)
            refine lv_istore_n (lv' := [(3, .int x7), (5, .int x4), (4, .int (nI k)), (2, .int th), (0, .ref h), (1, .int squares)]) hx hb dX0_inCommon_57 rfl hl (by decide) rfl (fun ls hl => ?_)
            refine lv_iinc (v := nI (k + 1)) (lv' := [(4, .int (nI (k + 1))), (3, .int x7), (5, .int x4), (2, .int th), (0, .ref h), (1, .int squares)]) hx hb dX0_inCommon_58 hl (k := 2) rfl (zi_inc k) (by decide) rfl (fun ls hl => ?_)
            refine lv_goto (tgt := 12) hx hb dX0_inCommon_61 (by decide) ?_
            exact ih12 (k + 1) th x7 (by first | assumption | omega) (by first | assumption | omega) (by subst ex7; subst ex4; rw [hacc]; simp only [qCom]; (repeat' split) <;> first | rfl | contradiction) (by omega) H locs ls X (lv_sub hl [0, 1, 3, 4, 5] rfl)
        · have qc5 := c5
          refine lv_iload_n hx hb dX0_inCommon_37 rfl (lv_at hl 2 rfl) ?_
          refine lv_iconst (v := (1 : Int32)) hx hb dX0_inCommon_38 (by decide) ?_
          refine lv_iload hx hb dX0_inCommon_39 (lv_at hl 1 rfl) ?_
          refine lv_ishl hx hb dX0_inCommon_41 ?_
          refine lv_ior hx hb dX0_inCommon_42 ?_
          refine lv_topi (fun x8 ex8 => ?_)
          refine lv_istore_n (lv' := [(3, .int x8), (5, .int x4), (4, .int (nI k)), (2, .int th), (0, .ref h), (1, .int squares)]) hx hb dX0_inCommon_43 rfl hl (by decide) rfl (fun ls hl => ?_)
          refine lv_iload hx hb dX0_inCommon_44 (lv_at hl 1 rfl) ?_
          refine lv_if_ne (tgt := 58) hx hb dX0_inCommon_46 (by decide) (fun c9 => ?_) (fun c9 => ?_)
          · have qc9 := c9
            refine lv_iinc (v := nI (k + 1)) (lv' := [(4, .int (nI (k + 1))), (3, .int x8), (5, .int x4), (2, .int th), (0, .ref h), (1, .int squares)]) hx hb dX0_inCommon_58 hl (k := 2) rfl (zi_inc k) (by decide) rfl (fun ls hl => ?_)
            refine lv_goto (tgt := 12) hx hb dX0_inCommon_61 (by decide) ?_
            exact ih12 (k + 1) th x8 (by first | assumption | omega) (by first | assumption | omega) (by subst ex8; subst ex4; rw [hacc]; simp only [qCom]; (repeat' split) <;> first | rfl | contradiction) (by omega) H locs ls X (lv_sub hl [0, 1, 3, 4, 5] rfl)
          · have qc9 := c9
            refine lv_iload_n hx hb dX0_inCommon_49 rfl (lv_at hl 0 rfl) ?_
            refine lv_iconst (v := (1 : Int32)) hx hb dX0_inCommon_50 (by decide) ?_
            refine lv_iload hx hb dX0_inCommon_51 (lv_at hl 2 rfl) ?_
            refine lv_iconst (v := (4 : Int32)) hx hb dX0_inCommon_53 (by decide) ?_
            refine lv_iadd hx hb dX0_inCommon_54 ?_
            refine lv_ishl hx hb dX0_inCommon_55 ?_
            refine lv_ior hx hb dX0_inCommon_56 ?_
            refine lv_topi (fun x10 ex10 => ?_)
            refine lv_istore_n (lv' := [(3, .int x10), (5, .int x4), (4, .int (nI k)), (2, .int th), (0, .ref h), (1, .int squares)]) hx hb dX0_inCommon_57 rfl hl (by decide) rfl (fun ls hl => ?_)
            refine lv_iinc (v := nI (k + 1)) (lv' := [(4, .int (nI (k + 1))), (3, .int x10), (5, .int x4), (2, .int th), (0, .ref h), (1, .int squares)]) hx hb dX0_inCommon_58 hl (k := 2) rfl (zi_inc k) (by decide) rfl (fun ls hl => ?_)
            refine lv_goto (tgt := 12) hx hb dX0_inCommon_61 (by decide) ?_
            exact ih12 (k + 1) th x10 (by first | assumption | omega) (by first | assumption | omega) (by subst ex10; subst ex8; subst ex4; rw [hacc]; simp only [qCom]; (repeat' split) <;> first | rfl | contradiction) (by omega) H locs ls X (lv_sub hl [0, 1, 3, 4, 5] rfl)
  exact cut12 5 0 x1 0 (by first | assumption | omega) (by assumption) (rfl) (by omega) H locs ls X (lv_sub hl [0, 1, 2, 3, 4] rfl)
end
section
/-! the class: lines, what wins, what is safe -/
def qU (x s : Int32) : Int32 := (x.toUInt32 >>> (s.toUInt32 &&& Int32.toUInt32 31)).toInt32
def qB1 (x : Int32) : Int32 := x - (qU x 1 &&& 1431655765)
def qB2 (a : Int32) : Int32 := (a &&& 858993459) + (qU a 2 &&& 858993459)
def qB3 (b : Int32) : Int32 := (b + qU b 4) &&& 252645135
def qB4 (c : Int32) : Int32 := c + qU c 8
def qB5 (d : Int32) : Int32 := d + qU d 16
def qBc (x : Int32) : Int32 := qB5 (qB4 (qB3 (qB2 (qB1 x)))) &&& 63
def qLn (w : Int32) : Nat := if w = 0 then 10 else 19
theorem qLn_le (w : Int32) : 10 ≤ qLn w ∧ qLn w ≤ 19 := by unfold qLn; split <;> decide
def qWonC (f : Int32) (d : Int64) : Nat → Nat
  | 0 => 0
  | k + 1 => if LM k &&& (f ^^^ (-1 : Int32)) = 0 ∧ ¬ qIn f d (LM k) = 0 then qWonC f d k + 1 else qWonC f d k
theorem qWonC_le (f : Int32) (d : Int64) : ∀ k, qWonC f d k ≤ k
  | 0 => Nat.le_refl 0
  | k + 1 => by
    have := qWonC_le f d k
    unfold qWonC
    split <;> omega
def qWon (f : Int32) (d : Int64) (w : Int32) : Nat := qWonC f d (qLn w)
def qLacks (f squares : Int32) : Bool := decide (¬ squares &&& (f ^^^ (-1 : Int32)) = 0) && decide ((squares &&& (f ^^^ (-1 : Int32))) &&& ((squares &&& (f ^^^ (-1 : Int32))) - 1) = 0)
def qWinS (f : Int32) (d : Int64) (ow : Int32) : Nat → Int32
  | 0 => 0
  | k + 1 => if qLacks f (LM k) = true ∧ ¬ qIn f d (LM k) &&& ow = 0 then qWinS f d ow k ||| (LM k &&& (f ^^^ (-1 : Int32))) else qWinS f d ow k
def qWin (f : Int32) (d : Int64) (w p : Int32) : Int32 := qWinS f d (qOwn p) (qLn w)
def qWinDC (f : Int32) (d : Int64) : Nat → Int32
  | 0 => 0
  | k + 1 => if qLacks f (LM k) = true then qWinDC f d k ||| qIn f d (LM k) else qWinDC f d k
def qWinD (f : Int32) (d : Int64) (w : Int32) : Int32 := qWinDC f d (qLn w)
def qSafeC (used win : Int32) : Nat → Int32
  | 0 => 0
  | k + 1 => if qHas used (nI k) = false ∧ qOwn (nI k) &&& win = 0 then qSafeC used win k ||| qBit (nI k) else qSafeC used win k
def qSafe (f used : Int32) (d : Int64) (w : Int32) : Int32 := qSafeC used (qWinD f d w) 16
theorem zn43 : ¬ (4 : Int32) = 3 := by decide
theorem zn34 : ¬ (3 : Int32) = 4 := by decide
def qCan (f st p : Int32) : Bool := decide (¬ (p = 3 ∧ ¬ 16 - qBc f ≤ 8)) && decide (¬ (p = 4 ∧ ¬ 16 - qBc f ≤ 6)) && decide (¬ st = 2)
def P_J6_bitCount_0f7a4 (n : Int32) : Int32 → Unit → Prop := fun r _ => r = qBc n
set_option maxHeartbeats 4000000 in
set_option maxRecDepth 100000 in
theorem c_J6_bitCount_0f7a4 (l : Launch) (g : zG) (n : Int32)  : zM l yJ6_bitCount_0f7a4 wsJ6_bitCount_0f7a4 0 0 g [.int n] ([]) zE0 (zQi g (P_J6_bitCount_0f7a4 n) (fun _ : Unit => [])) := by
  refine zstart (cc := cJ6_bitCount_0f7a4) (maxL := 1) (ret := (some .int)) (own := RJ6) rfl (by decide) rfl zSt0 (Nat.le_of_ble_eq_true rfl) ?_
  intro p e s m below meth c A Z hr hlk H locs X ls hl
  have hx := Z.1.1
  have hb := Z.1.2.1
  have hl : lv_has ls 1 [(0, .int n)] := hl
  have X : zh g A ([]) s.heap H locs := X
  refine lv_iload_n hx hb dJ6_bitCount_0f7a4_0 rfl (lv_at hl 0 rfl) ?_
  refine lv_iload_n hx hb dJ6_bitCount_0f7a4_1 rfl (lv_at hl 0 rfl) ?_
  refine lv_iconst (v := (1 : Int32)) hx hb dJ6_bitCount_0f7a4_2 (by decide) ?_
  refine lv_iushr hx hb dJ6_bitCount_0f7a4_3 rfl ?_
  refine lv_ldcw (v := (1431655765 : Int32)) hx hb Z.1.2.2.2.1 (Z.1.2.2.2.2 (.constant RJ6 265 (1431655765)) (by decide +kernel)) dJ6_bitCount_0f7a4_4 ?_
  refine lv_iand hx hb dJ6_bitCount_0f7a4_7 ?_
  refine lv_isub hx hb dJ6_bitCount_0f7a4_8 ?_
  refine lv_topi (fun x1 ex1 => ?_)
  refine lv_istore_n (lv' := [(0, .int x1)]) hx hb dJ6_bitCount_0f7a4_9 rfl hl (by decide) rfl (fun ls hl => ?_)
  refine lv_iload_n hx hb dJ6_bitCount_0f7a4_10 rfl (lv_at hl 0 rfl) ?_
  refine lv_ldcw (v := (858993459 : Int32)) hx hb Z.1.2.2.2.1 (Z.1.2.2.2.2 (.constant RJ6 266 (858993459)) (by decide +kernel)) dJ6_bitCount_0f7a4_11 ?_
  refine lv_iand hx hb dJ6_bitCount_0f7a4_14 ?_
  refine lv_iload_n hx hb dJ6_bitCount_0f7a4_15 rfl (lv_at hl 0 rfl) ?_
  refine lv_iconst (v := (2 : Int32)) hx hb dJ6_bitCount_0f7a4_16 (by decide) ?_
  refine lv_iushr hx hb dJ6_bitCount_0f7a4_17 rfl ?_
  refine lv_ldcw (v := (858993459 : Int32)) hx hb Z.1.2.2.2.1 (Z.1.2.2.2.2 (.constant RJ6 266 (858993459)) (by decide +kernel)) dJ6_bitCount_0f7a4_18 ?_
  refine lv_iand hx hb dJ6_bitCount_0f7a4_21 ?_
  refine lv_iadd hx hb dJ6_bitCount_0f7a4_22 ?_
  refine lv_topi (fun x2 ex2 => ?_)
  refine lv_istore_n (lv' := [(0, .int x2)]) hx hb dJ6_bitCount_0f7a4_23 rfl hl (by decide) rfl (fun ls hl => ?_)
  refine lv_iload_n hx hb dJ6_bitCount_0f7a4_24 rfl (lv_at hl 0 rfl) ?_
  refine lv_iload_n hx hb dJ6_bitCount_0f7a4_25 rfl (lv_at hl 0 rfl) ?_
  refine lv_iconst (v := (4 : Int32)) hx hb dJ6_bitCount_0f7a4_26 (by decide) ?_
  refine lv_iushr hx hb dJ6_bitCount_0f7a4_27 rfl ?_
  refine lv_iadd hx hb dJ6_bitCount_0f7a4_28 ?_
  refine lv_ldcw (v := (252645135 : Int32)) hx hb Z.1.2.2.2.1 (Z.1.2.2.2.2 (.constant RJ6 267 (252645135)) (by decide +kernel)) dJ6_bitCount_0f7a4_29 ?_
  refine lv_iand hx hb dJ6_bitCount_0f7a4_32 ?_
  refine lv_topi (fun x3 ex3 => ?_)
  refine lv_istore_n (lv' := [(0, .int x3)]) hx hb dJ6_bitCount_0f7a4_33 rfl hl (by decide) rfl (fun ls hl => ?_)
  refine lv_iload_n hx hb dJ6_bitCount_0f7a4_34 rfl (lv_at hl 0 rfl) ?_
  refine lv_iload_n hx hb dJ6_bitCount_0f7a4_35 rfl (lv_at hl 0 rfl) ?_
  refine lv_bipush (v := (8 : Int32)) hx hb dJ6_bitCount_0f7a4_36 (by decide) ?_
  refine lv_iushr hx hb dJ6_bitCount_0f7a4_38 rfl ?_
  refine lv_iadd hx hb dJ6_bitCount_0f7a4_39 ?_
  refine lv_topi (fun x4 ex4 => ?_)
  refine lv_istore_n (lv' := [(0, .int x4)]) hx hb dJ6_bitCount_0f7a4_40 rfl hl (by decide) rfl (fun ls hl => ?_)
  refine lv_iload_n hx hb dJ6_bitCount_0f7a4_41 rfl (lv_at hl 0 rfl) ?_
  refine lv_iload_n hx hb dJ6_bitCount_0f7a4_42 rfl (lv_at hl 0 rfl) ?_
  refine lv_bipush (v := (16 : Int32)) hx hb dJ6_bitCount_0f7a4_43 (by decide) ?_
  refine lv_iushr hx hb dJ6_bitCount_0f7a4_45 rfl ?_
  refine lv_iadd hx hb dJ6_bitCount_0f7a4_46 ?_
  refine lv_topi (fun x5 ex5 => ?_)
  refine lv_istore_n (lv' := [(0, .int x5)]) hx hb dJ6_bitCount_0f7a4_47 rfl hl (by decide) rfl (fun ls hl => ?_)
  refine lv_iload_n hx hb dJ6_bitCount_0f7a4_48 rfl (lv_at hl 0 rfl) ?_
  refine lv_bipush (v := (63 : Int32)) hx hb dJ6_bitCount_0f7a4_49 (by decide) ?_
  refine lv_iand hx hb dJ6_bitCount_0f7a4_51 ?_
  exact zreti Z hr hlk () X dJ6_bitCount_0f7a4_52 rfl (by subst ex5; subst ex4; subst ex3; subst ex2; subst ex1; rfl)
theorem inw_X0_lines : ∀ w ∈ wsX00, w ∈ wsX0_lines := by decide +kernel
theorem lk_X0_lines_25 : Cond.fieldLink RX0 25 "Quarterboard" "withBlocks" "Z" ∈ wsX0_lines := by decide +kernel
theorem lk_X0_lines_83 : Cond.fieldLink RX0 83 "Quarterboard" "LINES" "[I" ∈ wsX0_lines := by decide +kernel
def P_X0_lines (q0 q1 q2 q3 q4 q5 q6 : Int32) (q7 : Int64) (q8 q9 : Int32) (q10 : Int64) : Int32 → QS → Prop := fun r u => u = (q0, q1, q2, q3, q4, q5, q6, q7, q8, q9, q10) ∧ r = nI (qLn q0)
set_option maxHeartbeats 4000000 in
set_option maxRecDepth 100000 in
theorem c_X0_lines (l : Launch) (g : zG) (bL h : Nat) (q0 q1 q2 q3 q4 q5 q6 : Int32) (q7 : Int64) (q8 q9 : Int32) (q10 : Int64)   : zM l yX0_lines wsX0_lines 0 0 g [.ref h] (oQ h (q0, q1, q2, q3, q4, q5, q6, q7, q8, q9, q10)) (zEL bL) (zQi g (P_X0_lines q0 q1 q2 q3 q4 q5 q6 q7 q8 q9 q10) (oQ h)) := by
  refine zstart (cc := cX0_lines) (maxL := 1) (ret := (some .int)) (own := RX0) rfl (by decide) rfl zStL (Nat.le_of_ble_eq_true rfl) ?_
  intro p e s m below meth c A Z hr hlk H locs X ls hl
  have hx := Z.1.1
  have hb := Z.1.2.1
  have hin : ∀ w ∈ wsX00, w ∈ wsX0_lines := inw_X0_lines
  have hl : lv_has ls 1 [(0, .ref h)] := hl
  have X : zh g A (oQ h (q0, q1, q2, q3, q4, q5, q6, q7, q8, q9, q10)) s.heap H locs := X
  refine lv_aload_n hx hb dX0_lines_0 rfl (lv_at hl 0 rfl) ?_
  refine zget (fs := [.int q0, .int q1, .int q2, .int q3, .int q4, .int q5, .int q6, .long q7, .int q8, .int q9, .long q10]) (v := .int q0) Z hin X (ci := 0) (C := RX0) (T := TX0) (N := 11) rfl rfl 0 (by decide) lk_X0_lines_25 rfl dX0_lines_1 ?_
  refine lv_if_eq (tgt := 14) hx hb dX0_lines_4 (by decide) (fun c1 => ?_) (fun c1 => ?_)
  · have qc1 := c1
    refine lv_bipush (v := (10 : Int32)) hx hb dX0_lines_14 (by decide) ?_
    exact zreti Z hr hlk (q0, q1, q2, q3, q4, q5, q6, q7, q8, q9, q10) X dX0_lines_16 rfl (⟨rfl, by first | (rw [show qLn q0 = 10 from if_pos (by assumption)]; rfl) | (rw [show qLn q0 = 19 from if_neg (by assumption)]; done)⟩)
  · have qc1 := c1
    refine va_gets hx hb Z.2.2.2.1.1 X.2.2 Z.1.2.2.2.1 (Z.1.2.2.2.2 _ lk_X0_lines_83) (fun _ h => h) dX0_lines_7 ?_
    refine va_tlen (v := nI 19) hx hb Z.2.2.2.1.2.1 X.2.2 rfl dX0_lines_10 ?_
    refine lv_goto (tgt := 16) hx hb dX0_lines_11 (by decide) ?_
    exact zreti Z hr hlk (q0, q1, q2, q3, q4, q5, q6, q7, q8, q9, q10) X dX0_lines_16 rfl (⟨rfl, by first | (rw [show qLn q0 = 10 from if_pos (by assumption)]; rfl) | (rw [show qLn q0 = 19 from if_neg (by assumption)]; done)⟩)
theorem inw_X0_lacksOne : ∀ w ∈ wsX00, w ∈ wsX0_lacksOne := by decide +kernel
theorem lk_X0_lacksOne_16 : Cond.fieldLink RX0 16 "Quarterboard" "filled" "I" ∈ wsX0_lacksOne := by decide +kernel
def P_X0_lacksOne (q0 q1 q2 q3 q4 q5 q6 : Int32) (q7 : Int64) (q8 q9 : Int32) (q10 : Int64) (squares : Int32) : Int32 → QS → Prop := fun r u => u = (q0, q1, q2, q3, q4, q5, q6, q7, q8, q9, q10) ∧ r = zb (qLacks q5 squares)
set_option maxHeartbeats 4000000 in
set_option maxRecDepth 100000 in
theorem c_X0_lacksOne (l : Launch) (g : zG) (bL h : Nat) (q0 q1 q2 q3 q4 q5 q6 : Int32) (q7 : Int64) (q8 q9 : Int32) (q10 : Int64) (squares : Int32)  : zM l yX0_lacksOne wsX0_lacksOne 0 0 g [.ref h, .int squares] (oQ h (q0, q1, q2, q3, q4, q5, q6, q7, q8, q9, q10)) (zEL bL) (zQi g (P_X0_lacksOne q0 q1 q2 q3 q4 q5 q6 q7 q8 q9 q10 squares) (oQ h)) := by
  refine zstart (cc := cX0_lacksOne) (maxL := 3) (ret := (some .boolean)) (own := RX0) rfl (by decide) rfl zStL (Nat.le_of_ble_eq_true rfl) ?_
  intro p e s m below meth c A Z hr hlk H locs X ls hl
  have hx := Z.1.1
  have hb := Z.1.2.1
  have hin : ∀ w ∈ wsX00, w ∈ wsX0_lacksOne := inw_X0_lacksOne
  have hl : lv_has ls 3 [(0, .ref h), (1, .int squares)] := hl
  have X : zh g A (oQ h (q0, q1, q2, q3, q4, q5, q6, q7, q8, q9, q10)) s.heap H locs := X
  refine lv_iload_n hx hb dX0_lacksOne_0 rfl (lv_at hl 1 rfl) ?_
  refine lv_aload_n hx hb dX0_lacksOne_1 rfl (lv_at hl 0 rfl) ?_
  refine zget (fs := [.int q0, .int q1, .int q2, .int q3, .int q4, .int q5, .int q6, .long q7, .int q8, .int q9, .long q10]) (v := .int q5) Z hin X (ci := 0) (C := RX0) (T := TX0) (N := 11) rfl rfl 5 (by decide) lk_X0_lacksOne_16 rfl dX0_lacksOne_2 ?_
  refine lv_iconst (v := (-1 : Int32)) hx hb dX0_lacksOne_5 (by decide) ?_
  refine lv_ixor hx hb dX0_lacksOne_6 ?_
  refine lv_iand hx hb dX0_lacksOne_7 ?_
  refine lv_topi (fun x1 ex1 => ?_)
  refine lv_istore_n (lv' := [(2, .int x1), (0, .ref h), (1, .int squares)]) hx hb dX0_lacksOne_8 rfl hl (by decide) rfl (fun ls hl => ?_)
  refine lv_iload_n hx hb dX0_lacksOne_9 rfl (lv_at hl 0 rfl) ?_
  refine lv_if_eq (tgt := 25) hx hb dX0_lacksOne_10 (by decide) (fun c2 => ?_) (fun c2 => ?_)
  · have qc2 := c2
    refine lv_iconst (v := (0 : Int32)) hx hb dX0_lacksOne_25 (by decide) ?_
    exact zreti Z hr hlk (q0, q1, q2, q3, q4, q5, q6, q7, q8, q9, q10) X dX0_lacksOne_26 rfl (⟨rfl, by subst ex1; simp only [qLacks, zb, c2, decide_true, decide_false, Bool.and_true, Bool.and_false, Bool.true_and, Bool.false_and, not_true_eq_false, not_false_eq_true, Bool.not_true, Bool.not_false, if_true, if_false, and_true, true_and, and_false, false_and, Bool.false_eq_true, Bool.true_eq_false, eq_self]⟩)
  · have qc2 := c2
    refine lv_iload_n hx hb dX0_lacksOne_13 rfl (lv_at hl 0 rfl) ?_
    refine lv_iload_n hx hb dX0_lacksOne_14 rfl (lv_at hl 0 rfl) ?_
    refine lv_iconst (v := (1 : Int32)) hx hb dX0_lacksOne_15 (by decide) ?_
    refine lv_isub hx hb dX0_lacksOne_16 ?_
    refine lv_iand hx hb dX0_lacksOne_17 ?_
    refine lv_if_ne (tgt := 25) hx hb dX0_lacksOne_18 (by decide) (fun c3 => ?_) (fun c3 => ?_)
    · have qc3 := c3
      refine lv_iconst (v := (0 : Int32)) hx hb dX0_lacksOne_25 (by decide) ?_
      exact zreti Z hr hlk (q0, q1, q2, q3, q4, q5, q6, q7, q8, q9, q10) X dX0_lacksOne_26 rfl (⟨rfl, by subst ex1; simp only [qLacks, zb, c2, c3, decide_true, decide_false, Bool.and_true, Bool.and_false, Bool.true_and, Bool.false_and, not_true_eq_false, not_false_eq_true, Bool.not_true, Bool.not_false, if_true, if_false, and_true, true_and, and_false, false_and, Bool.false_eq_true, Bool.true_eq_false, eq_self]⟩)
    · have qc3 := c3
      refine lv_iconst (v := (1 : Int32)) hx hb dX0_lacksOne_21 (by decide) ?_
      refine lv_goto (tgt := 26) hx hb dX0_lacksOne_22 (by decide) ?_
      exact zreti Z hr hlk (q0, q1, q2, q3, q4, q5, q6, q7, q8, q9, q10) X dX0_lacksOne_26 rfl (⟨rfl, by subst ex1; simp only [qLacks, zb, c2, c3, decide_true, decide_false, Bool.and_true, Bool.and_false, Bool.true_and, Bool.false_and, not_true_eq_false, not_false_eq_true, Bool.not_true, Bool.not_false, if_true, if_false, and_true, true_and, and_false, false_and, Bool.false_eq_true, Bool.true_eq_false, eq_self]⟩)
theorem inw_X0_wonLines : ∀ w ∈ wsX00, w ∈ wsX0_wonLines := by decide +kernel
theorem lk_X0_wonLines_83 : Cond.fieldLink RX0 83 "Quarterboard" "LINES" "[I" ∈ wsX0_wonLines := by decide +kernel
theorem lk_X0_wonLines_16 : Cond.fieldLink RX0 16 "Quarterboard" "filled" "I" ∈ wsX0_wonLines := by decide +kernel
def P_X0_wonLines (q0 q1 q2 q3 q4 q5 q6 : Int32) (q7 : Int64) (q8 q9 : Int32) (q10 : Int64) : Int32 → QS → Prop := fun r u => u = (q0, q1, q2, q3, q4, q5, q6, q7, q8, q9, q10) ∧ r = nI (qWon q5 q7 q0)
set_option maxHeartbeats 4000000 in
set_option maxRecDepth 100000 in
theorem c_X0_wonLines (l : Launch) (g : zG) (bL h : Nat) (q0 q1 q2 q3 q4 q5 q6 : Int32) (q7 : Int64) (q8 q9 : Int32) (q10 : Int64)   : zM l yX0_wonLines wsX0_wonLines 2 80 g [.ref h] (oQ h (q0, q1, q2, q3, q4, q5, q6, q7, q8, q9, q10)) (zEL bL) (zQi g (P_X0_wonLines q0 q1 q2 q3 q4 q5 q6 q7 q8 q9 q10) (oQ h)) := by
  refine zstart (cc := cX0_wonLines) (maxL := 4) (ret := (some .int)) (own := RX0) rfl (by decide) rfl zStL (Nat.le_of_ble_eq_true rfl) ?_
  intro p e s m below meth c A Z hr hlk H locs X ls hl
  have hx := Z.1.1
  have hb := Z.1.2.1
  have hin : ∀ w ∈ wsX00, w ∈ wsX0_wonLines := inw_X0_wonLines
  have hl : lv_has ls 4 [(0, .ref h)] := hl
  have X : zh g A (oQ h (q0, q1, q2, q3, q4, q5, q6, q7, q8, q9, q10)) s.heap H locs := X
  have hln := qLn_le q0
  refine lv_iconst (v := (0 : Int32)) hx hb dX0_wonLines_0 (by decide) ?_
  refine lv_istore_n (lv' := [(1, .int (0 : Int32)), (0, .ref h)]) hx hb dX0_wonLines_1 rfl hl (by decide) rfl (fun ls hl => ?_)
  refine lv_iconst (v := (0 : Int32)) hx hb dX0_wonLines_2 (by decide) ?_
  refine lv_istore_n (lv' := [(2, .int (0 : Int32)), (1, .int (0 : Int32)), (0, .ref h)]) hx hb dX0_wonLines_3 rfl hl (by decide) rfl (fun ls hl => ?_)
  have cut4 : ∀ (n4 : Nat), ∀ (k : Nat) (n : Nat), (k ≤ qLn q0) → (n = qWonC q5 q7 k) → (qLn q0 + 1 - k ≤ n4) → ∀ (H : Heap) (locs : List Loc) (ls : Array Slot), zh g A (oQ h (q0, q1, q2, q3, q4, q5, q6, q7, q8, q9, q10)) s.heap H locs → lv_has ls 4 [(2, .int (nI k)), (1, .int (nI n)), (0, .ref h)] → W p l e { frames := 2, cells := 0, slots := 0, locals := 80 } s m ([.ref h] : List Value).toArray below meth c H locs 0 0 (MQ below ((zQi g (P_X0_wonLines q0 q1 q2 q3 q4 q5 q6 q7 q8 q9 q10) (oQ h)) A) ([.ref h] : List Value).toArray s 0 0 A) (F0 m 4 ls []) := by
    intro n4
    induction n4 with
    | zero =>
      intro k n hk hn hm4
      exact absurd hm4 (by omega)
    | succ n4 ih4 =>
      intro k n hk hn hm4 H locs ls X hl
      refine lv_iload_n hx hb dX0_wonLines_4 rfl (lv_at hl 0 rfl) ?_
      refine lv_aload_n hx hb dX0_wonLines_5 rfl (lv_at hl 2 rfl) ?_
      refine zcallVi (n := 0) (As := []) (rest := [.int (nI k)]) (ci := 0) (C := RX0) (T := TX0) (N := 11) Z X (c_X0_lines l g bL h q0 q1 q2 q3 q4 q5 q6 q7 q8 q9 q10 ) gX0_wonLines_X0_lines rfl (by decide +kernel) ⟨Nat.le_of_ble_eq_true rfl, Nat.le_of_ble_eq_true rfl⟩ rfl rfl rfl rfl hl.1 (Nat.le_of_ble_eq_true rfl) dX0_wonLines_6 ⟨Nat.zero_le _, Nat.zero_le _⟩ (fun r0 ur0 H locs hrr0 X => ?_)
      obtain ⟨rfl, rfl⟩ : ur0 = (q0, q1, q2, q3, q4, q5, q6, q7, q8, q9, q10) ∧ r0 = nI (qLn q0) := hrr0
      have X : zh g A (oQ h (q0, q1, q2, q3, q4, q5, q6, q7, q8, q9, q10)) s.heap H locs := X
      refine lv_icmp_ge (tgt := 46) hx hb dX0_wonLines_9 (by decide) (fun c2 => ?_) (fun c2 => ?_)
      · have qc2 := c2
        have c2n : (qLn q0) ≤ k := zn_let (by omega) (by omega) c2
        refine lv_iload_n hx hb dX0_wonLines_46 rfl (lv_at hl 1 rfl) ?_
        exact zreti Z hr hlk (q0, q1, q2, q3, q4, q5, q6, q7, q8, q9, q10) X dX0_wonLines_47 rfl (⟨rfl, by rw [hn, show k = qLn q0 by omega]; rfl⟩)
      · have qc2 := c2
        have c2n : ¬ (qLn q0) ≤ k := zn_len (by omega) (by omega) c2
        refine va_gets hx hb Z.2.2.2.1.1 X.2.2 Z.1.2.2.2.1 (Z.1.2.2.2.2 _ lk_X0_wonLines_83) (fun _ h => h) dX0_wonLines_12 ?_
        refine lv_iload_n hx hb dX0_wonLines_15 rfl (lv_at hl 0 rfl) ?_
        refine zlld Z X k rfl (by omega) dX0_wonLines_16 ?_
        refine lv_topi (fun x3 ex3 => ?_)
        refine lv_istore_n (lv' := [(3, .int x3), (2, .int (nI k)), (1, .int (nI n)), (0, .ref h)]) hx hb dX0_wonLines_17 rfl hl (by decide) rfl (fun ls hl => ?_)
        refine lv_iload_n hx hb dX0_wonLines_18 rfl (lv_at hl 0 rfl) ?_
        refine lv_aload_n hx hb dX0_wonLines_19 rfl (lv_at hl 3 rfl) ?_
        refine zget (fs := [.int q0, .int q1, .int q2, .int q3, .int q4, .int q5, .int q6, .long q7, .int q8, .int q9, .long q10]) (v := .int q5) Z hin X (ci := 0) (C := RX0) (T := TX0) (N := 11) rfl rfl 5 (by decide) lk_X0_wonLines_16 rfl dX0_wonLines_20 ?_
        refine lv_iconst (v := (-1 : Int32)) hx hb dX0_wonLines_23 (by decide) ?_
        refine lv_ixor hx hb dX0_wonLines_24 ?_
        refine lv_iand hx hb dX0_wonLines_25 ?_
        refine lv_if_ne (tgt := 40) hx hb dX0_wonLines_26 (by decide) (fun c4 => ?_) (fun c4 => ?_)
        · have qc4 := c4
          refine lv_iinc (v := nI (k + 1)) (lv' := [(2, .int (nI (k + 1))), (3, .int x3), (1, .int (nI n)), (0, .ref h)]) hx hb dX0_wonLines_40 hl (k := 1) rfl (zi_inc k) (by decide) rfl (fun ls hl => ?_)
          refine lv_goto (tgt := 4) hx hb dX0_wonLines_43 (by decide) ?_
          exact ih4 (k + 1) n (by first | assumption | omega) (by subst ex3; rw [hn]; simp only [qWonC, c2n, c4, decide_true, decide_false, Bool.and_true, Bool.and_false, Bool.true_and, Bool.false_and, not_true_eq_false, not_false_eq_true, Bool.not_true, Bool.not_false, if_true, if_false, and_true, true_and, and_false, false_and, Bool.false_eq_true, Bool.true_eq_false, eq_self]) (by omega) H locs ls X (lv_sub hl [0, 2, 3] rfl)
        · have qc4 := c4
          refine lv_aload_n hx hb dX0_wonLines_29 rfl (lv_at hl 3 rfl) ?_
          refine lv_iload_n hx hb dX0_wonLines_30 rfl (lv_at hl 0 rfl) ?_
          refine zcallVi (n := 1) (As := [.int x3]) (rest := []) (ci := 0) (C := RX0) (T := TX0) (N := 11) Z X (c_X0_inCommon l g bL h q0 q1 q2 q3 q4 q5 q6 q7 q8 q9 q10 x3) gX0_wonLines_X0_inCommon rfl (by decide +kernel) ⟨Nat.le_of_ble_eq_true rfl, Nat.le_of_ble_eq_true rfl⟩ rfl rfl rfl rfl hl.1 (Nat.le_of_ble_eq_true rfl) dX0_wonLines_31 ⟨Nat.zero_le _, Nat.zero_le _⟩ (fun r4 ur4 H locs hrr4 X => ?_)
          obtain ⟨rfl, rfl⟩ : ur4 = (q0, q1, q2, q3, q4, q5, q6, q7, q8, q9, q10) ∧ r4 = qIn q5 q7 x3 := hrr4
          have X : zh g A (oQ h (q0, q1, q2, q3, q4, q5, q6, q7, q8, q9, q10)) s.heap H locs := X
          refine lv_if_eq (tgt := 40) hx hb dX0_wonLines_34 (by decide) (fun c6 => ?_) (fun c6 => ?_)
          · have qc6 := c6
            refine lv_iinc (v := nI (k + 1)) (lv' := [(2, .int (nI (k + 1))), (3, .int x3), (1, .int (nI n)), (0, .ref h)]) hx hb dX0_wonLines_40 hl (k := 1) rfl (zi_inc k) (by decide) rfl (fun ls hl => ?_)
            refine lv_goto (tgt := 4) hx hb dX0_wonLines_43 (by decide) ?_
            exact ih4 (k + 1) n (by first | assumption | omega) (by subst ex3; rw [hn]; simp only [qWonC, c2n, c4, c6, decide_true, decide_false, Bool.and_true, Bool.and_false, Bool.true_and, Bool.false_and, not_true_eq_false, not_false_eq_true, Bool.not_true, Bool.not_false, if_true, if_false, and_true, true_and, and_false, false_and, Bool.false_eq_true, Bool.true_eq_false, eq_self]) (by omega) H locs ls X (lv_sub hl [0, 2, 3] rfl)
          · have qc6 := c6
            refine lv_iinc (v := nI (n + 1)) (lv' := [(1, .int (nI (n + 1))), (3, .int x3), (2, .int (nI k)), (0, .ref h)]) hx hb dX0_wonLines_37 hl (k := 2) rfl (zi_inc n) (by decide) rfl (fun ls hl => ?_)
            refine lv_iinc (v := nI (k + 1)) (lv' := [(2, .int (nI (k + 1))), (1, .int (nI (n + 1))), (3, .int x3), (0, .ref h)]) hx hb dX0_wonLines_40 hl (k := 2) rfl (zi_inc k) (by decide) rfl (fun ls hl => ?_)
            refine lv_goto (tgt := 4) hx hb dX0_wonLines_43 (by decide) ?_
            exact ih4 (k + 1) (n + 1) (by first | assumption | omega) (by subst ex3; rw [hn]; simp only [qWonC, c2n, c4, c6, decide_true, decide_false, Bool.and_true, Bool.and_false, Bool.true_and, Bool.false_and, not_true_eq_false, not_false_eq_true, Bool.not_true, Bool.not_false, if_true, if_false, and_true, true_and, and_false, false_and, Bool.false_eq_true, Bool.true_eq_false, eq_self]) (by omega) H locs ls X (lv_sub hl [0, 1, 3] rfl)
  exact cut4 (qLn q0 + 1) 0 0 (by first | assumption | omega) (rfl) (by omega) H locs ls X (lv_sub hl [0, 1, 2] rfl)
theorem inw_X0_winningSquares : ∀ w ∈ wsX00, w ∈ wsX0_winningSquares := by decide +kernel
theorem lk_X0_winningSquares_83 : Cond.fieldLink RX0 83 "Quarterboard" "LINES" "[I" ∈ wsX0_winningSquares := by decide +kernel
theorem lk_X0_winningSquares_16 : Cond.fieldLink RX0 16 "Quarterboard" "filled" "I" ∈ wsX0_winningSquares := by decide +kernel
def P_X0_winningSquares (q0 q1 q2 q3 q4 q5 q6 : Int32) (q7 : Int64) (q8 q9 : Int32) (q10 : Int64) (pc : Int32) : Int32 → QS → Prop := fun r u => u = (q0, q1, q2, q3, q4, q5, q6, q7, q8, q9, q10) ∧ r = qWin q5 q7 q0 pc
set_option maxHeartbeats 4000000 in
set_option maxRecDepth 100000 in
theorem c_X0_winningSquares (l : Launch) (g : zG) (bL h : Nat) (q0 q1 q2 q3 q4 q5 q6 : Int32) (q7 : Int64) (q8 q9 : Int32) (q10 : Int64) (pc : Int32)  : zM l yX0_winningSquares wsX0_winningSquares 2 80 g [.ref h, .int pc] (oQ h (q0, q1, q2, q3, q4, q5, q6, q7, q8, q9, q10)) (zEL bL) (zQi g (P_X0_winningSquares q0 q1 q2 q3 q4 q5 q6 q7 q8 q9 q10 pc) (oQ h)) := by
  refine zstart (cc := cX0_winningSquares) (maxL := 6) (ret := (some .int)) (own := RX0) rfl (by decide) rfl zStL (Nat.le_of_ble_eq_true rfl) ?_
  intro p e s m below meth c A Z hr hlk H locs X ls hl
  have hx := Z.1.1
  have hb := Z.1.2.1
  have hin : ∀ w ∈ wsX00, w ∈ wsX0_winningSquares := inw_X0_winningSquares
  have hl : lv_has ls 6 [(0, .ref h), (1, .int pc)] := hl
  have X : zh g A (oQ h (q0, q1, q2, q3, q4, q5, q6, q7, q8, q9, q10)) s.heap H locs := X
  have hln := qLn_le q0
  refine lv_iload_n hx hb dX0_winningSquares_0 rfl (lv_at hl 1 rfl) ?_
  refine zcallSi (n := 1) (As := [.int pc]) (rest := []) Z X (c_X0_ownDigits l g pc) gX0_winningSquares_X0_ownDigits rfl (by decide +kernel) ⟨Nat.le_of_ble_eq_true rfl, Nat.le_of_ble_eq_true rfl⟩ rfl rfl hl.1 (Nat.le_of_ble_eq_true rfl) dX0_winningSquares_1 ⟨Nat.zero_le _, Nat.zero_le _⟩ (fun r0 H locs hrr0 X => ?_)
  obtain rfl : r0 = qOwn pc := hrr0
  refine lv_topi (fun x2 ex2 => ?_)
  refine lv_istore_n (lv' := [(2, .int x2), (0, .ref h), (1, .int pc)]) hx hb dX0_winningSquares_4 rfl hl (by decide) rfl (fun ls hl => ?_)
  refine lv_iconst (v := (0 : Int32)) hx hb dX0_winningSquares_5 (by decide) ?_
  refine lv_istore_n (lv' := [(3, .int (0 : Int32)), (2, .int x2), (0, .ref h), (1, .int pc)]) hx hb dX0_winningSquares_6 rfl hl (by decide) rfl (fun ls hl => ?_)
  refine lv_iconst (v := (0 : Int32)) hx hb dX0_winningSquares_7 (by decide) ?_
  refine lv_istore (lv' := [(4, .int (0 : Int32)), (3, .int (0 : Int32)), (2, .int x2), (0, .ref h), (1, .int pc)]) hx hb dX0_winningSquares_8 hl (by decide) rfl (fun ls hl => ?_)
  have cut10 : ∀ (n10 : Nat), ∀ (k : Nat) (acc : Int32) (ow : Int32), (k ≤ qLn q0) → (ow = qOwn pc) → (acc = qWinS q5 q7 ow k) → (qLn q0 + 1 - k ≤ n10) → ∀ (H : Heap) (locs : List Loc) (ls : Array Slot), zh g A (oQ h (q0, q1, q2, q3, q4, q5, q6, q7, q8, q9, q10)) s.heap H locs → lv_has ls 6 [(4, .int (nI k)), (3, .int acc), (2, .int ow), (0, .ref h), (1, .int pc)] → W p l e { frames := 2, cells := 0, slots := 0, locals := 80 } s m ([.ref h, .int pc] : List Value).toArray below meth c H locs 0 0 (MQ below ((zQi g (P_X0_winningSquares q0 q1 q2 q3 q4 q5 q6 q7 q8 q9 q10 pc) (oQ h)) A) ([.ref h, .int pc] : List Value).toArray s 0 0 A) (F0 m 10 ls []) := by
    intro n10
    induction n10 with
    | zero =>
      intro k acc ow hk how hacc hm10
      exact absurd hm10 (by omega)
    | succ n10 ih10 =>
      intro k acc ow hk how hacc hm10 H locs ls X hl
      refine lv_iload hx hb dX0_winningSquares_10 (lv_at hl 0 rfl) ?_
      refine lv_aload_n hx hb dX0_winningSquares_12 rfl (lv_at hl 3 rfl) ?_
      refine zcallVi (n := 0) (As := []) (rest := [.int (nI k)]) (ci := 0) (C := RX0) (T := TX0) (N := 11) Z X (c_X0_lines l g bL h q0 q1 q2 q3 q4 q5 q6 q7 q8 q9 q10 ) gX0_winningSquares_X0_lines rfl (by decide +kernel) ⟨Nat.le_of_ble_eq_true rfl, Nat.le_of_ble_eq_true rfl⟩ rfl rfl rfl rfl hl.1 (Nat.le_of_ble_eq_true rfl) dX0_winningSquares_13 ⟨Nat.zero_le _, Nat.zero_le _⟩ (fun r2 ur2 H locs hrr2 X => ?_)
      obtain ⟨rfl, rfl⟩ : ur2 = (q0, q1, q2, q3, q4, q5, q6, q7, q8, q9, q10) ∧ r2 = nI (qLn q0) := hrr2
      have X : zh g A (oQ h (q0, q1, q2, q3, q4, q5, q6, q7, q8, q9, q10)) s.heap H locs := X
      refine lv_icmp_ge (tgt := 65) hx hb dX0_winningSquares_16 (by decide) (fun c4 => ?_) (fun c4 => ?_)
      · have qc4 := c4
        have c4n : (qLn q0) ≤ k := zn_let (by omega) (by omega) c4
        refine lv_iload_n hx hb dX0_winningSquares_65 rfl (lv_at hl 1 rfl) ?_
        exact zreti Z hr hlk (q0, q1, q2, q3, q4, q5, q6, q7, q8, q9, q10) X dX0_winningSquares_66 rfl (⟨rfl, by rw [hacc, how, show k = qLn q0 by omega]; rfl⟩)
      · have qc4 := c4
        have c4n : ¬ (qLn q0) ≤ k := zn_len (by omega) (by omega) c4
        refine va_gets hx hb Z.2.2.2.1.1 X.2.2 Z.1.2.2.2.1 (Z.1.2.2.2.2 _ lk_X0_winningSquares_83) (fun _ h => h) dX0_winningSquares_19 ?_
        refine lv_iload hx hb dX0_winningSquares_22 (lv_at hl 0 rfl) ?_
        refine zlld Z X k rfl (by omega) dX0_winningSquares_24 ?_
        refine lv_topi (fun x5 ex5 => ?_)
        refine lv_istore (lv' := [(5, .int x5), (4, .int (nI k)), (3, .int acc), (2, .int ow), (0, .ref h), (1, .int pc)]) hx hb dX0_winningSquares_25 hl (by decide) rfl (fun ls hl => ?_)
        refine lv_aload_n hx hb dX0_winningSquares_27 rfl (lv_at hl 4 rfl) ?_
        refine lv_iload hx hb dX0_winningSquares_28 (lv_at hl 0 rfl) ?_
        refine zcallVi (n := 1) (As := [.int x5]) (rest := []) (ci := 0) (C := RX0) (T := TX0) (N := 11) Z X (c_X0_lacksOne l g bL h q0 q1 q2 q3 q4 q5 q6 q7 q8 q9 q10 x5) gX0_winningSquares_X0_lacksOne rfl (by decide +kernel) ⟨Nat.le_of_ble_eq_true rfl, Nat.le_of_ble_eq_true rfl⟩ rfl rfl rfl rfl hl.1 (Nat.le_of_ble_eq_true rfl) dX0_winningSquares_30 ⟨Nat.zero_le _, Nat.zero_le _⟩ (fun r5 ur5 H locs hrr5 X => ?_)
        obtain ⟨rfl, rfl⟩ : ur5 = (q0, q1, q2, q3, q4, q5, q6, q7, q8, q9, q10) ∧ r5 = zb (qLacks q5 x5) := hrr5
        have X : zh g A (oQ h (q0, q1, q2, q3, q4, q5, q6, q7, q8, q9, q10)) s.heap H locs := X
        refine lv_if_eq (tgt := 59) hx hb dX0_winningSquares_33 (by decide) (fun c7 => ?_) (fun c7 => ?_)
        · have qc7 := c7
          have hc7 := zb_0.mp c7
          refine lv_iinc (v := nI (k + 1)) (lv' := [(4, .int (nI (k + 1))), (5, .int x5), (3, .int acc), (2, .int ow), (0, .ref h), (1, .int pc)]) hx hb dX0_winningSquares_59 hl (k := 1) rfl (zi_inc k) (by decide) rfl (fun ls hl => ?_)
          refine lv_goto (tgt := 10) hx hb dX0_winningSquares_62 (by decide) ?_
          exact ih10 (k + 1) acc ow (by first | assumption | omega) (by first | assumption | omega) (by subst ex5; rw [hacc]; simp only [qWinS, c4n, hc7, decide_true, decide_false, Bool.and_true, Bool.and_false, Bool.true_and, Bool.false_and, not_true_eq_false, not_false_eq_true, Bool.not_true, Bool.not_false, if_true, if_false, and_true, true_and, and_false, false_and, Bool.false_eq_true, Bool.true_eq_false, eq_self]) (by omega) H locs ls X (lv_sub hl [0, 2, 3, 4, 5] rfl)
        · have qc7 := c7
          have hc7 := zb_n0.mp c7
          refine lv_aload_n hx hb dX0_winningSquares_36 rfl (lv_at hl 4 rfl) ?_
          refine lv_iload hx hb dX0_winningSquares_37 (lv_at hl 0 rfl) ?_
          refine zcallVi (n := 1) (As := [.int x5]) (rest := []) (ci := 0) (C := RX0) (T := TX0) (N := 11) Z X (c_X0_inCommon l g bL h q0 q1 q2 q3 q4 q5 q6 q7 q8 q9 q10 x5) gX0_winningSquares_X0_inCommon rfl (by decide +kernel) ⟨Nat.le_of_ble_eq_true rfl, Nat.le_of_ble_eq_true rfl⟩ rfl rfl rfl rfl hl.1 (Nat.le_of_ble_eq_true rfl) dX0_winningSquares_39 ⟨Nat.zero_le _, Nat.zero_le _⟩ (fun r7 ur7 H locs hrr7 X => ?_)
          obtain ⟨rfl, rfl⟩ : ur7 = (q0, q1, q2, q3, q4, q5, q6, q7, q8, q9, q10) ∧ r7 = qIn q5 q7 x5 := hrr7
          have X : zh g A (oQ h (q0, q1, q2, q3, q4, q5, q6, q7, q8, q9, q10)) s.heap H locs := X
          refine lv_iload_n hx hb dX0_winningSquares_42 rfl (lv_at hl 3 rfl) ?_
          refine lv_iand hx hb dX0_winningSquares_43 ?_
          refine lv_if_eq (tgt := 59) hx hb dX0_winningSquares_44 (by decide) (fun c9 => ?_) (fun c9 => ?_)
          · have qc9 := c9
            refine lv_iinc (v := nI (k + 1)) (lv' := [(4, .int (nI (k + 1))), (5, .int x5), (3, .int acc), (2, .int ow), (0, .ref h), (1, .int pc)]) hx hb dX0_winningSquares_59 hl (k := 1) rfl (zi_inc k) (by decide) rfl (fun ls hl => ?_)
            refine lv_goto (tgt := 10) hx hb dX0_winningSquares_62 (by decide) ?_
            exact ih10 (k + 1) acc ow (by first | assumption | omega) (by first | assumption | omega) (by subst ex5; rw [hacc]; simp only [qWinS, c4n, hc7, c9, decide_true, decide_false, Bool.and_true, Bool.and_false, Bool.true_and, Bool.false_and, not_true_eq_false, not_false_eq_true, Bool.not_true, Bool.not_false, if_true, if_false, and_true, true_and, and_false, false_and, Bool.false_eq_true, Bool.true_eq_false, eq_self]) (by omega) H locs ls X (lv_sub hl [0, 2, 3, 4, 5] rfl)
          · have qc9 := c9
            refine lv_iload_n hx hb dX0_winningSquares_47 rfl (lv_at hl 2 rfl) ?_
            refine lv_iload hx hb dX0_winningSquares_48 (lv_at hl 0 rfl) ?_
            refine lv_aload_n hx hb dX0_winningSquares_50 rfl (lv_at hl 4 rfl) ?_
            refine zget (fs := [.int q0, .int q1, .int q2, .int q3, .int q4, .int q5, .int q6, .long q7, .int q8, .int q9, .long q10]) (v := .int q5) Z hin X (ci := 0) (C := RX0) (T := TX0) (N := 11) rfl rfl 5 (by decide) lk_X0_winningSquares_16 rfl dX0_winningSquares_51 ?_
            refine lv_iconst (v := (-1 : Int32)) hx hb dX0_winningSquares_54 (by decide) ?_
            refine lv_ixor hx hb dX0_winningSquares_55 ?_
            refine lv_iand hx hb dX0_winningSquares_56 ?_
            refine lv_ior hx hb dX0_winningSquares_57 ?_
            refine lv_topi (fun x10 ex10 => ?_)
            refine lv_istore_n (lv' := [(3, .int x10), (5, .int x5), (4, .int (nI k)), (2, .int ow), (0, .ref h), (1, .int pc)]) hx hb dX0_winningSquares_58 rfl hl (by decide) rfl (fun ls hl => ?_)
            refine lv_iinc (v := nI (k + 1)) (lv' := [(4, .int (nI (k + 1))), (3, .int x10), (5, .int x5), (2, .int ow), (0, .ref h), (1, .int pc)]) hx hb dX0_winningSquares_59 hl (k := 2) rfl (zi_inc k) (by decide) rfl (fun ls hl => ?_)
            refine lv_goto (tgt := 10) hx hb dX0_winningSquares_62 (by decide) ?_
            exact ih10 (k + 1) x10 ow (by first | assumption | omega) (by first | assumption | omega) (by subst ex10; subst ex5; rw [hacc]; simp only [qWinS, c4n, hc7, c9, decide_true, decide_false, Bool.and_true, Bool.and_false, Bool.true_and, Bool.false_and, not_true_eq_false, not_false_eq_true, Bool.not_true, Bool.not_false, if_true, if_false, and_true, true_and, and_false, false_and, Bool.false_eq_true, Bool.true_eq_false, eq_self]) (by omega) H locs ls X (lv_sub hl [0, 1, 3, 4, 5] rfl)
  exact cut10 (qLn q0 + 1) 0 0 x2 (by first | assumption | omega) (by subst ex2; rfl) (rfl) (by omega) H locs ls X (lv_sub hl [0, 1, 2, 3, 4] rfl)
theorem inw_X0_winningDigits : ∀ w ∈ wsX00, w ∈ wsX0_winningDigits := by decide +kernel
theorem lk_X0_winningDigits_83 : Cond.fieldLink RX0 83 "Quarterboard" "LINES" "[I" ∈ wsX0_winningDigits := by decide +kernel
def P_X0_winningDigits (q0 q1 q2 q3 q4 q5 q6 : Int32) (q7 : Int64) (q8 q9 : Int32) (q10 : Int64) : Int32 → QS → Prop := fun r u => u = (q0, q1, q2, q3, q4, q5, q6, q7, q8, q9, q10) ∧ r = qWinD q5 q7 q0
set_option maxHeartbeats 4000000 in
set_option maxRecDepth 100000 in
theorem c_X0_winningDigits (l : Launch) (g : zG) (bL h : Nat) (q0 q1 q2 q3 q4 q5 q6 : Int32) (q7 : Int64) (q8 q9 : Int32) (q10 : Int64)   : zM l yX0_winningDigits wsX0_winningDigits 2 80 g [.ref h] (oQ h (q0, q1, q2, q3, q4, q5, q6, q7, q8, q9, q10)) (zEL bL) (zQi g (P_X0_winningDigits q0 q1 q2 q3 q4 q5 q6 q7 q8 q9 q10) (oQ h)) := by
  refine zstart (cc := cX0_winningDigits) (maxL := 4) (ret := (some .int)) (own := RX0) rfl (by decide) rfl zStL (Nat.le_of_ble_eq_true rfl) ?_
  intro p e s m below meth c A Z hr hlk H locs X ls hl
  have hx := Z.1.1
  have hb := Z.1.2.1
  have hin : ∀ w ∈ wsX00, w ∈ wsX0_winningDigits := inw_X0_winningDigits
  have hl : lv_has ls 4 [(0, .ref h)] := hl
  have X : zh g A (oQ h (q0, q1, q2, q3, q4, q5, q6, q7, q8, q9, q10)) s.heap H locs := X
  have hln := qLn_le q0
  refine lv_iconst (v := (0 : Int32)) hx hb dX0_winningDigits_0 (by decide) ?_
  refine lv_istore_n (lv' := [(1, .int (0 : Int32)), (0, .ref h)]) hx hb dX0_winningDigits_1 rfl hl (by decide) rfl (fun ls hl => ?_)
  refine lv_iconst (v := (0 : Int32)) hx hb dX0_winningDigits_2 (by decide) ?_
  refine lv_istore_n (lv' := [(2, .int (0 : Int32)), (1, .int (0 : Int32)), (0, .ref h)]) hx hb dX0_winningDigits_3 rfl hl (by decide) rfl (fun ls hl => ?_)
  have cut4 : ∀ (n4 : Nat), ∀ (k : Nat) (acc : Int32), (k ≤ qLn q0) → (acc = qWinDC q5 q7 k) → (qLn q0 + 1 - k ≤ n4) → ∀ (H : Heap) (locs : List Loc) (ls : Array Slot), zh g A (oQ h (q0, q1, q2, q3, q4, q5, q6, q7, q8, q9, q10)) s.heap H locs → lv_has ls 4 [(2, .int (nI k)), (1, .int acc), (0, .ref h)] → W p l e { frames := 2, cells := 0, slots := 0, locals := 80 } s m ([.ref h] : List Value).toArray below meth c H locs 0 0 (MQ below ((zQi g (P_X0_winningDigits q0 q1 q2 q3 q4 q5 q6 q7 q8 q9 q10) (oQ h)) A) ([.ref h] : List Value).toArray s 0 0 A) (F0 m 4 ls []) := by
    intro n4
    induction n4 with
    | zero =>
      intro k acc hk hacc hm4
      exact absurd hm4 (by omega)
    | succ n4 ih4 =>
      intro k acc hk hacc hm4 H locs ls X hl
      refine lv_iload_n hx hb dX0_winningDigits_4 rfl (lv_at hl 0 rfl) ?_
      refine lv_aload_n hx hb dX0_winningDigits_5 rfl (lv_at hl 2 rfl) ?_
      refine zcallVi (n := 0) (As := []) (rest := [.int (nI k)]) (ci := 0) (C := RX0) (T := TX0) (N := 11) Z X (c_X0_lines l g bL h q0 q1 q2 q3 q4 q5 q6 q7 q8 q9 q10 ) gX0_winningDigits_X0_lines rfl (by decide +kernel) ⟨Nat.le_of_ble_eq_true rfl, Nat.le_of_ble_eq_true rfl⟩ rfl rfl rfl rfl hl.1 (Nat.le_of_ble_eq_true rfl) dX0_winningDigits_6 ⟨Nat.zero_le _, Nat.zero_le _⟩ (fun r0 ur0 H locs hrr0 X => ?_)
      obtain ⟨rfl, rfl⟩ : ur0 = (q0, q1, q2, q3, q4, q5, q6, q7, q8, q9, q10) ∧ r0 = nI (qLn q0) := hrr0
      have X : zh g A (oQ h (q0, q1, q2, q3, q4, q5, q6, q7, q8, q9, q10)) s.heap H locs := X
      refine lv_icmp_ge (tgt := 40) hx hb dX0_winningDigits_9 (by decide) (fun c2 => ?_) (fun c2 => ?_)
      · have qc2 := c2
        have c2n : (qLn q0) ≤ k := zn_let (by omega) (by omega) c2
        refine lv_iload_n hx hb dX0_winningDigits_40 rfl (lv_at hl 1 rfl) ?_
        exact zreti Z hr hlk (q0, q1, q2, q3, q4, q5, q6, q7, q8, q9, q10) X dX0_winningDigits_41 rfl (⟨rfl, by rw [hacc, show k = qLn q0 by omega]; rfl⟩)
      · have qc2 := c2
        have c2n : ¬ (qLn q0) ≤ k := zn_len (by omega) (by omega) c2
        refine va_gets hx hb Z.2.2.2.1.1 X.2.2 Z.1.2.2.2.1 (Z.1.2.2.2.2 _ lk_X0_winningDigits_83) (fun _ h => h) dX0_winningDigits_12 ?_
        refine lv_iload_n hx hb dX0_winningDigits_15 rfl (lv_at hl 0 rfl) ?_
        refine zlld Z X k rfl (by omega) dX0_winningDigits_16 ?_
        refine lv_topi (fun x3 ex3 => ?_)
        refine lv_istore_n (lv' := [(3, .int x3), (2, .int (nI k)), (1, .int acc), (0, .ref h)]) hx hb dX0_winningDigits_17 rfl hl (by decide) rfl (fun ls hl => ?_)
        refine lv_aload_n hx hb dX0_winningDigits_18 rfl (lv_at hl 3 rfl) ?_
        refine lv_iload_n hx hb dX0_winningDigits_19 rfl (lv_at hl 0 rfl) ?_
        refine zcallVi (n := 1) (As := [.int x3]) (rest := []) (ci := 0) (C := RX0) (T := TX0) (N := 11) Z X (c_X0_lacksOne l g bL h q0 q1 q2 q3 q4 q5 q6 q7 q8 q9 q10 x3) gX0_winningDigits_X0_lacksOne rfl (by decide +kernel) ⟨Nat.le_of_ble_eq_true rfl, Nat.le_of_ble_eq_true rfl⟩ rfl rfl rfl rfl hl.1 (Nat.le_of_ble_eq_true rfl) dX0_winningDigits_20 ⟨Nat.zero_le _, Nat.zero_le _⟩ (fun r3 ur3 H locs hrr3 X => ?_)
        obtain ⟨rfl, rfl⟩ : ur3 = (q0, q1, q2, q3, q4, q5, q6, q7, q8, q9, q10) ∧ r3 = zb (qLacks q5 x3) := hrr3
        have X : zh g A (oQ h (q0, q1, q2, q3, q4, q5, q6, q7, q8, q9, q10)) s.heap H locs := X
        refine lv_if_eq (tgt := 34) hx hb dX0_winningDigits_23 (by decide) (fun c5 => ?_) (fun c5 => ?_)
        · have qc5 := c5
          have hc5 := zb_0.mp c5
          refine lv_iinc (v := nI (k + 1)) (lv' := [(2, .int (nI (k + 1))), (3, .int x3), (1, .int acc), (0, .ref h)]) hx hb dX0_winningDigits_34 hl (k := 1) rfl (zi_inc k) (by decide) rfl (fun ls hl => ?_)
          refine lv_goto (tgt := 4) hx hb dX0_winningDigits_37 (by decide) ?_
          exact ih4 (k + 1) acc (by first | assumption | omega) (by subst ex3; rw [hacc]; simp only [qWinDC, c2n, hc5, decide_true, decide_false, Bool.and_true, Bool.and_false, Bool.true_and, Bool.false_and, not_true_eq_false, not_false_eq_true, Bool.not_true, Bool.not_false, if_true, if_false, and_true, true_and, and_false, false_and, Bool.false_eq_true, Bool.true_eq_false, eq_self]) (by omega) H locs ls X (lv_sub hl [0, 2, 3] rfl)
        · have qc5 := c5
          have hc5 := zb_n0.mp c5
          refine lv_iload_n hx hb dX0_winningDigits_26 rfl (lv_at hl 2 rfl) ?_
          refine lv_aload_n hx hb dX0_winningDigits_27 rfl (lv_at hl 3 rfl) ?_
          refine lv_iload_n hx hb dX0_winningDigits_28 rfl (lv_at hl 0 rfl) ?_
          refine zcallVi (n := 1) (As := [.int x3]) (rest := [.int acc]) (ci := 0) (C := RX0) (T := TX0) (N := 11) Z X (c_X0_inCommon l g bL h q0 q1 q2 q3 q4 q5 q6 q7 q8 q9 q10 x3) gX0_winningDigits_X0_inCommon rfl (by decide +kernel) ⟨Nat.le_of_ble_eq_true rfl, Nat.le_of_ble_eq_true rfl⟩ rfl rfl rfl rfl hl.1 (Nat.le_of_ble_eq_true rfl) dX0_winningDigits_29 ⟨Nat.zero_le _, Nat.zero_le _⟩ (fun r5 ur5 H locs hrr5 X => ?_)
          obtain ⟨rfl, rfl⟩ : ur5 = (q0, q1, q2, q3, q4, q5, q6, q7, q8, q9, q10) ∧ r5 = qIn q5 q7 x3 := hrr5
          have X : zh g A (oQ h (q0, q1, q2, q3, q4, q5, q6, q7, q8, q9, q10)) s.heap H locs := X
          refine lv_ior hx hb dX0_winningDigits_32 ?_
          refine lv_topi (fun x7 ex7 => ?_)
          refine lv_istore_n (lv' := [(1, .int x7), (3, .int x3), (2, .int (nI k)), (0, .ref h)]) hx hb dX0_winningDigits_33 rfl hl (by decide) rfl (fun ls hl => ?_)
          refine lv_iinc (v := nI (k + 1)) (lv' := [(2, .int (nI (k + 1))), (1, .int x7), (3, .int x3), (0, .ref h)]) hx hb dX0_winningDigits_34 hl (k := 2) rfl (zi_inc k) (by decide) rfl (fun ls hl => ?_)
          refine lv_goto (tgt := 4) hx hb dX0_winningDigits_37 (by decide) ?_
          exact ih4 (k + 1) x7 (by first | assumption | omega) (by subst ex7; subst ex3; rw [hacc]; simp only [qWinDC, c2n, hc5, decide_true, decide_false, Bool.and_true, Bool.and_false, Bool.true_and, Bool.false_and, not_true_eq_false, not_false_eq_true, Bool.not_true, Bool.not_false, if_true, if_false, and_true, true_and, and_false, false_and, Bool.false_eq_true, Bool.true_eq_false, eq_self]) (by omega) H locs ls X (lv_sub hl [0, 1, 3] rfl)
  exact cut4 (qLn q0 + 1) 0 0 (by first | assumption | omega) (rfl) (by omega) H locs ls X (lv_sub hl [0, 1, 2] rfl)
theorem inw_X0_safePieces : ∀ w ∈ wsX00, w ∈ wsX0_safePieces := by decide +kernel
theorem lk_X0_safePieces_35 : Cond.fieldLink RX0 35 "Quarterboard" "used" "I" ∈ wsX0_safePieces := by decide +kernel
def P_X0_safePieces (q0 q1 q2 q3 q4 q5 q6 : Int32) (q7 : Int64) (q8 q9 : Int32) (q10 : Int64) : Int32 → QS → Prop := fun r u => u = (q0, q1, q2, q3, q4, q5, q6, q7, q8, q9, q10) ∧ r = qSafe q5 q6 q7 q0
set_option maxHeartbeats 4000000 in
set_option maxRecDepth 100000 in
theorem c_X0_safePieces (l : Launch) (g : zG) (bL h : Nat) (q0 q1 q2 q3 q4 q5 q6 : Int32) (q7 : Int64) (q8 q9 : Int32) (q10 : Int64)   : zM l yX0_safePieces wsX0_safePieces 3 120 g [.ref h] (oQ h (q0, q1, q2, q3, q4, q5, q6, q7, q8, q9, q10)) (zEL bL) (zQi g (P_X0_safePieces q0 q1 q2 q3 q4 q5 q6 q7 q8 q9 q10) (oQ h)) := by
  refine zstart (cc := cX0_safePieces) (maxL := 4) (ret := (some .int)) (own := RX0) rfl (by decide) rfl zStL (Nat.le_of_ble_eq_true rfl) ?_
  intro p e s m below meth c A Z hr hlk H locs X ls hl
  have hx := Z.1.1
  have hb := Z.1.2.1
  have hin : ∀ w ∈ wsX00, w ∈ wsX0_safePieces := inw_X0_safePieces
  have hl : lv_has ls 4 [(0, .ref h)] := hl
  have X : zh g A (oQ h (q0, q1, q2, q3, q4, q5, q6, q7, q8, q9, q10)) s.heap H locs := X
  refine lv_aload_n hx hb dX0_safePieces_0 rfl (lv_at hl 0 rfl) ?_
  refine zcallVi (n := 0) (As := []) (rest := []) (ci := 0) (C := RX0) (T := TX0) (N := 11) Z X (c_X0_winningDigits l g bL h q0 q1 q2 q3 q4 q5 q6 q7 q8 q9 q10 ) gX0_safePieces_X0_winningDigits rfl (by decide +kernel) ⟨Nat.le_of_ble_eq_true rfl, Nat.le_of_ble_eq_true rfl⟩ rfl rfl rfl rfl hl.1 (Nat.le_of_ble_eq_true rfl) dX0_safePieces_1 ⟨Nat.zero_le _, Nat.zero_le _⟩ (fun r0 ur0 H locs hrr0 X => ?_)
  obtain ⟨rfl, rfl⟩ : ur0 = (q0, q1, q2, q3, q4, q5, q6, q7, q8, q9, q10) ∧ r0 = qWinD q5 q7 q0 := hrr0
  have X : zh g A (oQ h (q0, q1, q2, q3, q4, q5, q6, q7, q8, q9, q10)) s.heap H locs := X
  refine lv_topi (fun x2 ex2 => ?_)
  refine lv_istore_n (lv' := [(1, .int x2), (0, .ref h)]) hx hb dX0_safePieces_4 rfl hl (by decide) rfl (fun ls hl => ?_)
  refine lv_iconst (v := (0 : Int32)) hx hb dX0_safePieces_5 (by decide) ?_
  refine lv_istore_n (lv' := [(2, .int (0 : Int32)), (1, .int x2), (0, .ref h)]) hx hb dX0_safePieces_6 rfl hl (by decide) rfl (fun ls hl => ?_)
  refine lv_iconst (v := (0 : Int32)) hx hb dX0_safePieces_7 (by decide) ?_
  refine lv_istore_n (lv' := [(3, .int (0 : Int32)), (2, .int (0 : Int32)), (1, .int x2), (0, .ref h)]) hx hb dX0_safePieces_8 rfl hl (by decide) rfl (fun ls hl => ?_)
  have cut9 : ∀ (n9 : Nat), ∀ (k : Nat) (acc : Int32) (wi : Int32), (k ≤ 16) → (wi = qWinD q5 q7 q0) → (acc = qSafeC q6 wi k) → (17 - k ≤ n9) → ∀ (H : Heap) (locs : List Loc) (ls : Array Slot), zh g A (oQ h (q0, q1, q2, q3, q4, q5, q6, q7, q8, q9, q10)) s.heap H locs → lv_has ls 4 [(3, .int (nI k)), (2, .int acc), (1, .int wi), (0, .ref h)] → W p l e { frames := 3, cells := 0, slots := 0, locals := 120 } s m ([.ref h] : List Value).toArray below meth c H locs 0 0 (MQ below ((zQi g (P_X0_safePieces q0 q1 q2 q3 q4 q5 q6 q7 q8 q9 q10) (oQ h)) A) ([.ref h] : List Value).toArray s 0 0 A) (F0 m 9 ls []) := by
    intro n9
    induction n9 with
    | zero =>
      intro k acc wi hk hwi hacc hm9
      exact absurd hm9 (by omega)
    | succ n9 ih9 =>
      intro k acc wi hk hwi hacc hm9 H locs ls X hl
      refine lv_iload_n hx hb dX0_safePieces_9 rfl (lv_at hl 0 rfl) ?_
      refine lv_bipush (v := (16 : Int32)) hx hb dX0_safePieces_10 (by decide) ?_
      refine lv_icmp_ge (tgt := 47) hx hb dX0_safePieces_12 (by decide) (fun c3 => ?_) (fun c3 => ?_)
      · have qc3 := c3
        have c3n : 16 ≤ k := zn_let (by omega) (by omega) c3
        refine lv_iload_n hx hb dX0_safePieces_47 rfl (lv_at hl 1 rfl) ?_
        exact zreti Z hr hlk (q0, q1, q2, q3, q4, q5, q6, q7, q8, q9, q10) X dX0_safePieces_48 rfl (⟨rfl, by rw [hacc, hwi, show k = 16 by omega]; rfl⟩)
      · have qc3 := c3
        have c3n : ¬ 16 ≤ k := zn_len (by omega) (by omega) c3
        refine lv_aload_n hx hb dX0_safePieces_15 rfl (lv_at hl 3 rfl) ?_
        refine zget (fs := [.int q0, .int q1, .int q2, .int q3, .int q4, .int q5, .int q6, .long q7, .int q8, .int q9, .long q10]) (v := .int q6) Z hin X (ci := 0) (C := RX0) (T := TX0) (N := 11) rfl rfl 6 (by decide) lk_X0_safePieces_35 rfl dX0_safePieces_16 ?_
        refine lv_iload_n hx hb dX0_safePieces_19 rfl (lv_at hl 0 rfl) ?_
        refine zcallSi (n := 2) (As := [.int q6, .int (nI k)]) (rest := []) Z X (c_X0_has l g q6 (nI k)) gX0_safePieces_X0_has rfl (by decide +kernel) ⟨Nat.le_of_ble_eq_true rfl, Nat.le_of_ble_eq_true rfl⟩ rfl rfl hl.1 (Nat.le_of_ble_eq_true rfl) dX0_safePieces_20 ⟨Nat.zero_le _, Nat.zero_le _⟩ (fun r3 H locs hrr3 X => ?_)
        obtain rfl : r3 = zb (qHas q6 (nI k)) := hrr3
        refine lv_if_ne (tgt := 41) hx hb dX0_safePieces_23 (by decide) (fun c5 => ?_) (fun c5 => ?_)
        · have qc5 := c5
          have hc5 := zb_n0.mp c5
          refine lv_iinc (v := nI (k + 1)) (lv' := [(3, .int (nI (k + 1))), (2, .int acc), (1, .int wi), (0, .ref h)]) hx hb dX0_safePieces_41 hl (k := 0) rfl (zi_inc k) (by decide) rfl (fun ls hl => ?_)
          refine lv_goto (tgt := 9) hx hb dX0_safePieces_44 (by decide) ?_
          exact ih9 (k + 1) acc wi (by first | assumption | omega) (by first | assumption | omega) (by rw [hacc]; simp only [qSafeC, qBit, c3n, hc5, decide_true, decide_false, Bool.and_true, Bool.and_false, Bool.true_and, Bool.false_and, not_true_eq_false, not_false_eq_true, Bool.not_true, Bool.not_false, if_true, if_false, and_true, true_and, and_false, false_and, Bool.false_eq_true, Bool.true_eq_false, eq_self]) (by omega) H locs ls X (lv_sub hl [0, 1, 2, 3] rfl)
        · have qc5 := c5
          have hc5 := zb_0.mp c5
          refine lv_iload_n hx hb dX0_safePieces_26 rfl (lv_at hl 0 rfl) ?_
          refine zcallSi (n := 1) (As := [.int (nI k)]) (rest := []) Z X (c_X0_ownDigits l g (nI k)) gX0_safePieces_X0_ownDigits rfl (by decide +kernel) ⟨Nat.le_of_ble_eq_true rfl, Nat.le_of_ble_eq_true rfl⟩ rfl rfl hl.1 (Nat.le_of_ble_eq_true rfl) dX0_safePieces_27 ⟨Nat.zero_le _, Nat.zero_le _⟩ (fun r5 H locs hrr5 X => ?_)
          obtain rfl : r5 = qOwn (nI k) := hrr5
          refine lv_iload_n hx hb dX0_safePieces_30 rfl (lv_at hl 2 rfl) ?_
          refine lv_iand hx hb dX0_safePieces_31 ?_
          refine lv_if_ne (tgt := 41) hx hb dX0_safePieces_32 (by decide) (fun c7 => ?_) (fun c7 => ?_)
          · have qc7 := c7
            refine lv_iinc (v := nI (k + 1)) (lv' := [(3, .int (nI (k + 1))), (2, .int acc), (1, .int wi), (0, .ref h)]) hx hb dX0_safePieces_41 hl (k := 0) rfl (zi_inc k) (by decide) rfl (fun ls hl => ?_)
            refine lv_goto (tgt := 9) hx hb dX0_safePieces_44 (by decide) ?_
            exact ih9 (k + 1) acc wi (by first | assumption | omega) (by first | assumption | omega) (by rw [hacc]; simp only [qSafeC, qBit, c3n, hc5, c7, decide_true, decide_false, Bool.and_true, Bool.and_false, Bool.true_and, Bool.false_and, not_true_eq_false, not_false_eq_true, Bool.not_true, Bool.not_false, if_true, if_false, and_true, true_and, and_false, false_and, Bool.false_eq_true, Bool.true_eq_false, eq_self]) (by omega) H locs ls X (lv_sub hl [0, 1, 2, 3] rfl)
          · have qc7 := c7
            refine lv_iload_n hx hb dX0_safePieces_35 rfl (lv_at hl 1 rfl) ?_
            refine lv_iconst (v := (1 : Int32)) hx hb dX0_safePieces_36 (by decide) ?_
            refine lv_iload_n hx hb dX0_safePieces_37 rfl (lv_at hl 0 rfl) ?_
            refine lv_ishl hx hb dX0_safePieces_38 ?_
            refine lv_ior hx hb dX0_safePieces_39 ?_
            refine lv_topi (fun x8 ex8 => ?_)
            refine lv_istore_n (lv' := [(2, .int x8), (3, .int (nI k)), (1, .int wi), (0, .ref h)]) hx hb dX0_safePieces_40 rfl hl (by decide) rfl (fun ls hl => ?_)
            refine lv_iinc (v := nI (k + 1)) (lv' := [(3, .int (nI (k + 1))), (2, .int x8), (1, .int wi), (0, .ref h)]) hx hb dX0_safePieces_41 hl (k := 1) rfl (zi_inc k) (by decide) rfl (fun ls hl => ?_)
            refine lv_goto (tgt := 9) hx hb dX0_safePieces_44 (by decide) ?_
            exact ih9 (k + 1) x8 wi (by first | assumption | omega) (by first | assumption | omega) (by subst ex8; rw [hacc]; simp only [qSafeC, qBit, c3n, hc5, c7, decide_true, decide_false, Bool.and_true, Bool.and_false, Bool.true_and, Bool.false_and, not_true_eq_false, not_false_eq_true, Bool.not_true, Bool.not_false, if_true, if_false, and_true, true_and, and_false, false_and, Bool.false_eq_true, Bool.true_eq_false, eq_self]) (by omega) H locs ls X (lv_sub hl [0, 1, 2, 3] rfl)
  exact cut9 17 0 0 x2 (by first | assumption | omega) (by subst ex2; rfl) (rfl) (by omega) H locs ls X (lv_sub hl [0, 1, 2, 3] rfl)
theorem inw_X0_canLookAhead : ∀ w ∈ wsX00, w ∈ wsX0_canLookAhead := by decide +kernel
theorem lk_X0_canLookAhead_16 : Cond.fieldLink RX0 16 "Quarterboard" "filled" "I" ∈ wsX0_canLookAhead := by decide +kernel
theorem lk_X0_canLookAhead_29 : Cond.fieldLink RX0 29 "Quarterboard" "stage" "I" ∈ wsX0_canLookAhead := by decide +kernel
def P_X0_canLookAhead (q0 q1 q2 q3 q4 q5 q6 : Int32) (q7 : Int64) (q8 q9 : Int32) (q10 : Int64) (np : Int32) : Int32 → QS → Prop := fun r u => u = (q0, q1, q2, q3, q4, q5, q6, q7, q8, q9, q10) ∧ r = zb (qCan q5 q1 np)
set_option maxHeartbeats 4000000 in
set_option maxRecDepth 100000 in
theorem c_X0_canLookAhead (l : Launch) (g : zG) (bL h : Nat) (q0 q1 q2 q3 q4 q5 q6 : Int32) (q7 : Int64) (q8 q9 : Int32) (q10 : Int64) (np : Int32)  : zM l yX0_canLookAhead wsX0_canLookAhead 1 40 g [.ref h, .int np] (oQ h (q0, q1, q2, q3, q4, q5, q6, q7, q8, q9, q10)) (zEL bL) (zQi g (P_X0_canLookAhead q0 q1 q2 q3 q4 q5 q6 q7 q8 q9 q10 np) (oQ h)) := by
  refine zstart (cc := cX0_canLookAhead) (maxL := 3) (ret := (some .boolean)) (own := RX0) rfl (by decide) rfl zStL (Nat.le_of_ble_eq_true rfl) ?_
  intro p e s m below meth c A Z hr hlk H locs X ls hl
  have hx := Z.1.1
  have hb := Z.1.2.1
  have hin : ∀ w ∈ wsX00, w ∈ wsX0_canLookAhead := inw_X0_canLookAhead
  have hl : lv_has ls 3 [(0, .ref h), (1, .int np)] := hl
  have X : zh g A (oQ h (q0, q1, q2, q3, q4, q5, q6, q7, q8, q9, q10)) s.heap H locs := X
  refine lv_bipush (v := (16 : Int32)) hx hb dX0_canLookAhead_0 (by decide) ?_
  refine lv_aload_n hx hb dX0_canLookAhead_2 rfl (lv_at hl 0 rfl) ?_
  refine zget (fs := [.int q0, .int q1, .int q2, .int q3, .int q4, .int q5, .int q6, .long q7, .int q8, .int q9, .long q10]) (v := .int q5) Z hin X (ci := 0) (C := RX0) (T := TX0) (N := 11) rfl rfl 5 (by decide) lk_X0_canLookAhead_16 rfl dX0_canLookAhead_3 ?_
  refine zcallSi (n := 1) (As := [.int q5]) (rest := [.int (16 : Int32)]) Z X (c_J6_bitCount_0f7a4 l g q5) gX0_canLookAhead_J6_bitCount_0f7a4 rfl (by decide +kernel) ⟨Nat.le_of_ble_eq_true rfl, Nat.le_of_ble_eq_true rfl⟩ rfl rfl hl.1 (Nat.le_of_ble_eq_true rfl) dX0_canLookAhead_6 ⟨Nat.zero_le _, Nat.zero_le _⟩ (fun r0 H locs hrr0 X => ?_)
  obtain rfl : r0 = qBc q5 := hrr0
  refine lv_isub hx hb dX0_canLookAhead_9 ?_
  refine lv_topi (fun x2 ex2 => ?_)
  refine lv_istore_n (lv' := [(2, .int x2), (0, .ref h), (1, .int np)]) hx hb dX0_canLookAhead_10 rfl hl (by decide) rfl (fun ls hl => ?_)
  refine lv_iload_n hx hb dX0_canLookAhead_11 rfl (lv_at hl 2 rfl) ?_
  refine lv_iconst (v := (3 : Int32)) hx hb dX0_canLookAhead_12 (by decide) ?_
  refine lv_icmp_ne (tgt := 24) hx hb dX0_canLookAhead_13 (by decide) (fun c3 => ?_) (fun c3 => ?_)
  · have qc3 := c3
    refine lv_iload_n hx hb dX0_canLookAhead_24 rfl (lv_at hl 2 rfl) ?_
    refine lv_iconst (v := (4 : Int32)) hx hb dX0_canLookAhead_25 (by decide) ?_
    refine lv_icmp_ne (tgt := 37) hx hb dX0_canLookAhead_26 (by decide) (fun c4 => ?_) (fun c4 => ?_)
    · have qc4 := c4
      refine lv_aload_n hx hb dX0_canLookAhead_37 rfl (lv_at hl 1 rfl) ?_
      refine zget (fs := [.int q0, .int q1, .int q2, .int q3, .int q4, .int q5, .int q6, .long q7, .int q8, .int q9, .long q10]) (v := .int q1) Z hin X (ci := 0) (C := RX0) (T := TX0) (N := 11) rfl rfl 1 (by decide) lk_X0_canLookAhead_29 rfl dX0_canLookAhead_38 ?_
      refine lv_iconst (v := (2 : Int32)) hx hb dX0_canLookAhead_41 (by decide) ?_
      refine lv_icmp_eq (tgt := 49) hx hb dX0_canLookAhead_42 (by decide) (fun c5 => ?_) (fun c5 => ?_)
      · have qc5 := c5
        refine lv_iconst (v := (0 : Int32)) hx hb dX0_canLookAhead_49 (by decide) ?_
        exact zreti Z hr hlk (q0, q1, q2, q3, q4, q5, q6, q7, q8, q9, q10) X dX0_canLookAhead_50 rfl (⟨rfl, by first | (subst ex2; simp only [qCan, zb, zn43, zn34, c3, c4, c5, decide_true, decide_false, Bool.and_true, Bool.and_false, Bool.true_and, Bool.false_and, not_true_eq_false, not_false_eq_true, Bool.not_true, Bool.not_false, if_true, if_false, and_true, true_and, and_false, false_and, Bool.false_eq_true, Bool.true_eq_false, eq_self]; done) | exact absurd (Eq.trans (Eq.symm ‹np = 3›) ‹np = 4›) zn34⟩)
      · have qc5 := c5
        refine lv_iconst (v := (1 : Int32)) hx hb dX0_canLookAhead_45 (by decide) ?_
        refine lv_goto (tgt := 50) hx hb dX0_canLookAhead_46 (by decide) ?_
        exact zreti Z hr hlk (q0, q1, q2, q3, q4, q5, q6, q7, q8, q9, q10) X dX0_canLookAhead_50 rfl (⟨rfl, by first | (subst ex2; simp only [qCan, zb, zn43, zn34, c3, c4, c5, decide_true, decide_false, Bool.and_true, Bool.and_false, Bool.true_and, Bool.false_and, not_true_eq_false, not_false_eq_true, Bool.not_true, Bool.not_false, if_true, if_false, and_true, true_and, and_false, false_and, Bool.false_eq_true, Bool.true_eq_false, eq_self]; done) | exact absurd (Eq.trans (Eq.symm ‹np = 3›) ‹np = 4›) zn34⟩)
    · have qc4 := c4
      refine lv_iload_n hx hb dX0_canLookAhead_29 rfl (lv_at hl 0 rfl) ?_
      refine lv_bipush (v := (6 : Int32)) hx hb dX0_canLookAhead_30 (by decide) ?_
      refine lv_icmp_le (tgt := 37) hx hb dX0_canLookAhead_32 (by decide) (fun c6 => ?_) (fun c6 => ?_)
      · have qc6 := c6
        refine lv_aload_n hx hb dX0_canLookAhead_37 rfl (lv_at hl 1 rfl) ?_
        refine zget (fs := [.int q0, .int q1, .int q2, .int q3, .int q4, .int q5, .int q6, .long q7, .int q8, .int q9, .long q10]) (v := .int q1) Z hin X (ci := 0) (C := RX0) (T := TX0) (N := 11) rfl rfl 1 (by decide) lk_X0_canLookAhead_29 rfl dX0_canLookAhead_38 ?_
        refine lv_iconst (v := (2 : Int32)) hx hb dX0_canLookAhead_41 (by decide) ?_
        refine lv_icmp_eq (tgt := 49) hx hb dX0_canLookAhead_42 (by decide) (fun c7 => ?_) (fun c7 => ?_)
        · have qc7 := c7
          refine lv_iconst (v := (0 : Int32)) hx hb dX0_canLookAhead_49 (by decide) ?_
          exact zreti Z hr hlk (q0, q1, q2, q3, q4, q5, q6, q7, q8, q9, q10) X dX0_canLookAhead_50 rfl (⟨rfl, by first | (subst ex2; simp only [qCan, zb, zn43, zn34, c3, c4, c6, c7, decide_true, decide_false, Bool.and_true, Bool.and_false, Bool.true_and, Bool.false_and, not_true_eq_false, not_false_eq_true, Bool.not_true, Bool.not_false, if_true, if_false, and_true, true_and, and_false, false_and, Bool.false_eq_true, Bool.true_eq_false, eq_self]; done) | exact absurd (Eq.trans (Eq.symm ‹np = 3›) ‹np = 4›) zn34⟩)
        · have qc7 := c7
          refine lv_iconst (v := (1 : Int32)) hx hb dX0_canLookAhead_45 (by decide) ?_
          refine lv_goto (tgt := 50) hx hb dX0_canLookAhead_46 (by decide) ?_
          exact zreti Z hr hlk (q0, q1, q2, q3, q4, q5, q6, q7, q8, q9, q10) X dX0_canLookAhead_50 rfl (⟨rfl, by first | (subst ex2; simp only [qCan, zb, zn43, zn34, c3, c4, c6, c7, decide_true, decide_false, Bool.and_true, Bool.and_false, Bool.true_and, Bool.false_and, not_true_eq_false, not_false_eq_true, Bool.not_true, Bool.not_false, if_true, if_false, and_true, true_and, and_false, false_and, Bool.false_eq_true, Bool.true_eq_false, eq_self]; done) | exact absurd (Eq.trans (Eq.symm ‹np = 3›) ‹np = 4›) zn34⟩)
      · have qc6 := c6
        refine lv_iconst (v := (0 : Int32)) hx hb dX0_canLookAhead_35 (by decide) ?_
        exact zreti Z hr hlk (q0, q1, q2, q3, q4, q5, q6, q7, q8, q9, q10) X dX0_canLookAhead_36 rfl (⟨rfl, by first | (subst ex2; simp only [qCan, zb, zn43, zn34, c3, c4, c6, decide_true, decide_false, Bool.and_true, Bool.and_false, Bool.true_and, Bool.false_and, not_true_eq_false, not_false_eq_true, Bool.not_true, Bool.not_false, if_true, if_false, and_true, true_and, and_false, false_and, Bool.false_eq_true, Bool.true_eq_false, eq_self]; done) | exact absurd (Eq.trans (Eq.symm ‹np = 3›) ‹np = 4›) zn34⟩)
  · have qc3 := c3
    refine lv_iload_n hx hb dX0_canLookAhead_16 rfl (lv_at hl 0 rfl) ?_
    refine lv_bipush (v := (8 : Int32)) hx hb dX0_canLookAhead_17 (by decide) ?_
    refine lv_icmp_le (tgt := 24) hx hb dX0_canLookAhead_19 (by decide) (fun c8 => ?_) (fun c8 => ?_)
    · have qc8 := c8
      refine lv_iload_n hx hb dX0_canLookAhead_24 rfl (lv_at hl 2 rfl) ?_
      refine lv_iconst (v := (4 : Int32)) hx hb dX0_canLookAhead_25 (by decide) ?_
      refine lv_icmp_ne (tgt := 37) hx hb dX0_canLookAhead_26 (by decide) (fun c9 => ?_) (fun c9 => ?_)
      · have qc9 := c9
        refine lv_aload_n hx hb dX0_canLookAhead_37 rfl (lv_at hl 1 rfl) ?_
        refine zget (fs := [.int q0, .int q1, .int q2, .int q3, .int q4, .int q5, .int q6, .long q7, .int q8, .int q9, .long q10]) (v := .int q1) Z hin X (ci := 0) (C := RX0) (T := TX0) (N := 11) rfl rfl 1 (by decide) lk_X0_canLookAhead_29 rfl dX0_canLookAhead_38 ?_
        refine lv_iconst (v := (2 : Int32)) hx hb dX0_canLookAhead_41 (by decide) ?_
        refine lv_icmp_eq (tgt := 49) hx hb dX0_canLookAhead_42 (by decide) (fun c10 => ?_) (fun c10 => ?_)
        · have qc10 := c10
          refine lv_iconst (v := (0 : Int32)) hx hb dX0_canLookAhead_49 (by decide) ?_
          exact zreti Z hr hlk (q0, q1, q2, q3, q4, q5, q6, q7, q8, q9, q10) X dX0_canLookAhead_50 rfl (⟨rfl, by first | (subst ex2; simp only [qCan, zb, zn43, zn34, c3, c8, c9, c10, decide_true, decide_false, Bool.and_true, Bool.and_false, Bool.true_and, Bool.false_and, not_true_eq_false, not_false_eq_true, Bool.not_true, Bool.not_false, if_true, if_false, and_true, true_and, and_false, false_and, Bool.false_eq_true, Bool.true_eq_false, eq_self]; done) | exact absurd (Eq.trans (Eq.symm ‹np = 3›) ‹np = 4›) zn34⟩)
        · have qc10 := c10
          refine lv_iconst (v := (1 : Int32)) hx hb dX0_canLookAhead_45 (by decide) ?_
          refine lv_goto (tgt := 50) hx hb dX0_canLookAhead_46 (by decide) ?_
          exact zreti Z hr hlk (q0, q1, q2, q3, q4, q5, q6, q7, q8, q9, q10) X dX0_canLookAhead_50 rfl (⟨rfl, by first | (subst ex2; simp only [qCan, zb, zn43, zn34, c3, c8, c9, c10, decide_true, decide_false, Bool.and_true, Bool.and_false, Bool.true_and, Bool.false_and, not_true_eq_false, not_false_eq_true, Bool.not_true, Bool.not_false, if_true, if_false, and_true, true_and, and_false, false_and, Bool.false_eq_true, Bool.true_eq_false, eq_self]; done) | exact absurd (Eq.trans (Eq.symm ‹np = 3›) ‹np = 4›) zn34⟩)
      · have qc9 := c9
        refine lv_iload_n hx hb dX0_canLookAhead_29 rfl (lv_at hl 0 rfl) ?_
        refine lv_bipush (v := (6 : Int32)) hx hb dX0_canLookAhead_30 (by decide) ?_
        refine lv_icmp_le (tgt := 37) hx hb dX0_canLookAhead_32 (by decide) (fun c11 => ?_) (fun c11 => ?_)
        · have qc11 := c11
          refine lv_aload_n hx hb dX0_canLookAhead_37 rfl (lv_at hl 1 rfl) ?_
          refine zget (fs := [.int q0, .int q1, .int q2, .int q3, .int q4, .int q5, .int q6, .long q7, .int q8, .int q9, .long q10]) (v := .int q1) Z hin X (ci := 0) (C := RX0) (T := TX0) (N := 11) rfl rfl 1 (by decide) lk_X0_canLookAhead_29 rfl dX0_canLookAhead_38 ?_
          refine lv_iconst (v := (2 : Int32)) hx hb dX0_canLookAhead_41 (by decide) ?_
          refine lv_icmp_eq (tgt := 49) hx hb dX0_canLookAhead_42 (by decide) (fun c12 => ?_) (fun c12 => ?_)
          · have qc12 := c12
            refine lv_iconst (v := (0 : Int32)) hx hb dX0_canLookAhead_49 (by decide) ?_
            exact zreti Z hr hlk (q0, q1, q2, q3, q4, q5, q6, q7, q8, q9, q10) X dX0_canLookAhead_50 rfl (⟨rfl, by first | (subst ex2; simp only [qCan, zb, zn43, zn34, c3, c8, c9, c11, c12, decide_true, decide_false, Bool.and_true, Bool.and_false, Bool.true_and, Bool.false_and, not_true_eq_false, not_false_eq_true, Bool.not_true, Bool.not_false, if_true, if_false, and_true, true_and, and_false, false_and, Bool.false_eq_true, Bool.true_eq_false, eq_self]; done) | exact absurd (Eq.trans (Eq.symm ‹np = 3›) ‹np = 4›) zn34⟩)
          · have qc12 := c12
            refine lv_iconst (v := (1 : Int32)) hx hb dX0_canLookAhead_45 (by decide) ?_
            refine lv_goto (tgt := 50) hx hb dX0_canLookAhead_46 (by decide) ?_
            exact zreti Z hr hlk (q0, q1, q2, q3, q4, q5, q6, q7, q8, q9, q10) X dX0_canLookAhead_50 rfl (⟨rfl, by first | (subst ex2; simp only [qCan, zb, zn43, zn34, c3, c8, c9, c11, c12, decide_true, decide_false, Bool.and_true, Bool.and_false, Bool.true_and, Bool.false_and, not_true_eq_false, not_false_eq_true, Bool.not_true, Bool.not_false, if_true, if_false, and_true, true_and, and_false, false_and, Bool.false_eq_true, Bool.true_eq_false, eq_self]; done) | exact absurd (Eq.trans (Eq.symm ‹np = 3›) ‹np = 4›) zn34⟩)
        · have qc11 := c11
          refine lv_iconst (v := (0 : Int32)) hx hb dX0_canLookAhead_35 (by decide) ?_
          exact zreti Z hr hlk (q0, q1, q2, q3, q4, q5, q6, q7, q8, q9, q10) X dX0_canLookAhead_36 rfl (⟨rfl, by first | (subst ex2; simp only [qCan, zb, zn43, zn34, c3, c8, c9, c11, decide_true, decide_false, Bool.and_true, Bool.and_false, Bool.true_and, Bool.false_and, not_true_eq_false, not_false_eq_true, Bool.not_true, Bool.not_false, if_true, if_false, and_true, true_and, and_false, false_and, Bool.false_eq_true, Bool.true_eq_false, eq_self]; done) | exact absurd (Eq.trans (Eq.symm ‹np = 3›) ‹np = 4›) zn34⟩)
    · have qc8 := c8
      refine lv_iconst (v := (0 : Int32)) hx hb dX0_canLookAhead_22 (by decide) ?_
      exact zreti Z hr hlk (q0, q1, q2, q3, q4, q5, q6, q7, q8, q9, q10) X dX0_canLookAhead_23 rfl (⟨rfl, by first | (subst ex2; simp only [qCan, zb, zn43, zn34, c3, c8, decide_true, decide_false, Bool.and_true, Bool.and_false, Bool.true_and, Bool.false_and, not_true_eq_false, not_false_eq_true, Bool.not_true, Bool.not_false, if_true, if_false, and_true, true_and, and_false, false_and, Bool.false_eq_true, Bool.true_eq_false, eq_self]; done) | exact absurd (Eq.trans (Eq.symm ‹np = 3›) ‹np = 4›) zn34⟩)
end
section
/-! bits of the class's sets: what put and lift do -/
theorem qBit_bv : ∀ p, p < 16 → (qBit (nI p)).toBitVec = BitVec.twoPow 32 p := by decide +kernel
theorem tp_ne : ∀ p, p < 16 → ¬ BitVec.twoPow 32 p = 0#32 := by decide +kernel
theorem qHas_bv (x : Int32) {p : Nat} (hp : p < 16) : qHas x (nI p) = x.toBitVec.getLsbD p := by
  have h := qBit_bv p hp
  have e : (x &&& qBit (nI p) = 0) ↔ x.toBitVec.getLsbD p = false := by
    rw [← Int32.toBitVec_inj, Int32.toBitVec_and, h, BitVec.and_twoPow]
    cases hb : x.toBitVec.getLsbD p
    · simp
    · simp [tp_ne p hp]
  show decide (¬ x &&& qBit (nI p) = 0) = _
  cases hb : x.toBitVec.getLsbD p
  · exact decide_eq_false (fun q => q (e.mpr hb))
  · exact decide_eq_true (fun q => by rw [e.mp q] at hb; cases hb)
theorem qBit_get {p i : Nat} (hp : p < 16) : (qBit (nI p)).toBitVec.getLsbD i = decide (p = i) := by
  rw [qBit_bv p hp, BitVec.getLsbD_twoPow]
  by_cases h : p = i
  · subst h; simp; omega
  · simp [h]
theorem qHas_or (x : Int32) {k p : Nat} (hk : k < 16) (hp : p < 16) : qHas (x ||| qBit (nI k)) (nI p) = (qHas x (nI p) || decide (k = p)) := by
  rw [qHas_bv _ hp, qHas_bv _ hp, Int32.toBitVec_or, BitVec.getLsbD_or, qBit_get hk]
theorem qOrAnd (x : Int32) {p : Nat} (hp : p < 16) (h : qHas x (nI p) = false) : (x ||| qBit (nI p)) &&& (qBit (nI p) ^^^ (-1 : Int32)) = x := by
  rw [qHas_bv x hp] at h
  rw [← Int32.toBitVec_inj]
  apply BitVec.eq_of_getLsbD_eq
  intro i hi
  simp only [Int32.toBitVec_and, Int32.toBitVec_or, Int32.toBitVec_xor, BitVec.getLsbD_and, BitVec.getLsbD_or, BitVec.getLsbD_xor, qBit_get hp]
  have h1 : (-1 : Int32).toBitVec.getLsbD i = true := by
    rw [show (-1 : Int32).toBitVec = BitVec.allOnes 32 by decide, BitVec.getLsbD_allOnes]
    exact decide_eq_true hi
  rw [h1]
  by_cases e : p = i
  · subst e; rw [h]; simp
  · simp [e]
def qEach (s : Int32) : Int64 := (281479271743489 : Int64) <<< (s.toInt64 &&& 63)
def qInv (f : Int32) (d : Int64) : Prop := ∀ s, s < 16 → qHas f (nI s) = false → d &&& qEach (nI s) = 0
theorem qFE : ∀ p, p < 16 → ∀ s, s < 16 → ∀ t, t < 16 → (qFirst (nI p) <<< ((nI s).toInt64 &&& 63)) &&& qEach (nI t) = (if s = t then (qFirst (nI p) <<< ((nI s).toInt64 &&& 63)) else 0) := by decide +kernel
theorem bvq {a b : BitVec 64} (h : a &&& b = 0#64) (c : BitVec 64) (hc : c &&& b = c) : (a ||| c) &&& (b ^^^ BitVec.allOnes 64) = a := by
  apply BitVec.eq_of_getLsbD_eq
  intro i hi
  have h1 := congrArg (fun x => x.getLsbD i) h
  have h2 := congrArg (fun x => x.getLsbD i) hc
  simp only [BitVec.getLsbD_and, BitVec.getLsbD_or, BitVec.getLsbD_xor, BitVec.getLsbD_allOnes, BitVec.getLsbD_zero, hi, decide_true] at h1 h2 ⊢
  cases ha : a.getLsbD i <;> cases hb : b.getLsbD i <;> cases hc : c.getLsbD i <;> simp_all
theorem qLiftPut (d : Int64) {p s : Nat} (hp : p < 16) (hs : s < 16) (h : d &&& qEach (nI s) = 0) : qLiftD (qPutD d (nI p) (nI s)) (nI s) = d := by
  have h2 := qFE p hp s hs s hs
  rw [if_pos rfl] at h2
  rw [← Int64.toBitVec_inj, Int64.toBitVec_and] at h h2
  rw [← Int64.toBitVec_inj]
  show ((d ||| (qFirst (nI p) <<< ((nI s).toInt64 &&& 63))) &&& (qEach (nI s) ^^^ (-1 : Int64))).toBitVec = d.toBitVec
  rw [Int64.toBitVec_and, Int64.toBitVec_or, Int64.toBitVec_xor, show (-1 : Int64).toBitVec = BitVec.allOnes 64 by decide]
  exact bvq h _ h2
theorem bvz {a b c : BitVec 64} (h : a &&& b = 0#64) (hc : c &&& b = 0#64) : (a ||| c) &&& b = 0#64 := by
  apply BitVec.eq_of_getLsbD_eq
  intro i hi
  have h1 := congrArg (fun x => x.getLsbD i) h
  have h2 := congrArg (fun x => x.getLsbD i) hc
  simp only [BitVec.getLsbD_and, BitVec.getLsbD_or, BitVec.getLsbD_zero] at h1 h2 ⊢
  cases ha : a.getLsbD i <;> cases hb : b.getLsbD i <;> cases hc : c.getLsbD i <;> simp_all
theorem qInv_put {f : Int32} {d : Int64} {p s : Nat} (h : qInv f d) (hp : p < 16) (hs : s < 16) : qInv (f ||| qBit (nI s)) (qPutD d (nI p) (nI s)) := by
  intro t ht hf
  rw [qHas_or f hs ht] at hf
  simp only [Bool.or_eq_false_iff, decide_eq_false_iff_not] at hf
  have h1 := h t ht hf.1
  have h2 := qFE p hp s hs t ht
  rw [if_neg hf.2] at h2
  rw [← Int64.toBitVec_inj, Int64.toBitVec_and] at h1 h2
  rw [← Int64.toBitVec_inj]
  show ((d ||| (qFirst (nI p) <<< ((nI s).toInt64 &&& 63))) &&& qEach (nI t)).toBitVec = _
  rw [Int64.toBitVec_and, Int64.toBitVec_or]
  exact bvz h1 h2
theorem qHas_0 (p : Nat) (hp : p < 16) : qHas 0 (nI p) = false := by
  rw [qHas_bv _ hp]
  simp
theorem qSafeC_has (used win : Int32) : ∀ k, k ≤ 16 → ∀ p, p < 16 → qHas (qSafeC used win k) (nI p) = decide (p < k ∧ qHas used (nI p) = false ∧ qOwn (nI p) &&& win = 0)
  | 0, _, p, hp => by
    rw [show qSafeC used win 0 = 0 from rfl, qHas_0 p hp]
    simp
  | k + 1, hk, p, hp => by
    have ih := qSafeC_has used win k (by omega) p hp
    unfold qSafeC
    by_cases e : p = k
    · subst e
      split
      · rename_i h
        rw [qHas_or _ (by omega) hp, ih]
        simp [h.1, h.2]
      · rename_i h
        rw [ih]
        simp only [Nat.lt_irrefl, false_and, decide_false, Nat.lt_succ_self, true_and]
        exact (decide_eq_false h).symm
    · have e2 : (p < k + 1) = (p < k) := propext ⟨fun q => by omega, fun q => by omega⟩
      simp only [e2]
      split
      · rw [qHas_or _ (by omega) hp, ih, decide_eq_false (fun q : k = p => e q.symm), Bool.or_false]
      · exact ih
theorem qSafe_used {f used : Int32} {d : Int64} {w : Int32} {p : Nat} (hp : p < 16) (h : qHas (qSafe f used d w) (nI p) = true) : qHas used (nI p) = false := by
  have e := qSafeC_has used (qWinD f d w) 16 (Nat.le_refl 16) p hp
  rw [show qSafe f used d w = qSafeC used (qWinD f d w) 16 from rfl] at h
  rw [e] at h
  exact (of_decide_eq_true h).2.1
def allN (P : Nat → Bool) : Nat → Bool
  | 0 => true
  | k + 1 => allN P k && P k
def anyN (P : Nat → Bool) : Nat → Bool
  | 0 => false
  | k + 1 => anyN P k || P k
theorem allN_iff {P : Nat → Bool} : ∀ {k : Nat}, allN P k = true ↔ ∀ j, j < k → P j = true
  | 0 => ⟨fun _ j h => absurd h (Nat.not_lt_zero j), fun _ => rfl⟩
  | k + 1 => by
    simp only [allN, Bool.and_eq_true, allN_iff (k := k)]
    exact ⟨fun h j hj => by rcases Nat.lt_succ_iff_lt_or_eq.mp hj with q | q; exact h.1 j q; rw [q]; exact h.2, fun h => ⟨fun j hj => h j (by omega), h k (by omega)⟩⟩
theorem anyN_iff {P : Nat → Bool} : ∀ {k : Nat}, anyN P k = true ↔ ∃ j, j < k ∧ P j = true
  | 0 => ⟨fun h => (by cases h), fun ⟨j, h, _⟩ => absurd h (Nat.not_lt_zero j)⟩
  | k + 1 => by
    simp only [anyN, Bool.or_eq_true, anyN_iff (k := k)]
    constructor
    · rintro (⟨j, h1, h2⟩ | h)
      · exact ⟨j, by omega, h2⟩
      · exact ⟨k, by omega, h⟩
    · rintro ⟨j, h1, h2⟩
      rcases Nat.lt_succ_iff_lt_or_eq.mp h1 with q | q
      · exact Or.inl ⟨j, q, h2⟩
      · exact Or.inr (q ▸ h2)
theorem allN_f {P : Nat → Bool} {k n : Nat} (hk : k < n) (h : P k = false) : allN P n = false := by
  cases e : allN P n
  · rfl
  · rw [allN_iff.mp e k hk] at h; cases h
theorem anyN_t {P : Nat → Bool} {k n : Nat} (hk : k < n) (h : P k = true) : anyN P n = true := anyN_iff.mpr ⟨k, hk, h⟩
/-! the looking ahead, as the class does it: (who gives can force to win, .. to lose) -/
def qPL (sub : Int32 → Int32 → Int64 → Bool × Bool) (n : Nat) (f u : Int32) (d : Int64) (p : Nat) : Bool := decide (2 ≤ n) && allN (fun s => qHas f (nI s) || (sub (f ||| qBit (nI s)) (u ||| qBit (nI p)) (qPutD d (nI p) (nI s))).2) 16
def qPW (sub : Int32 → Int32 → Int64 → Bool × Bool) (n : Nat) (f u : Int32) (d : Int64) (p : Nat) : Bool := decide (3 ≤ n) && anyN (fun s => !qHas f (nI s) && (sub (f ||| qBit (nI s)) (u ||| qBit (nI p)) (qPutD d (nI p) (nI s))).1) 16
def qGW (sub : Int32 → Int32 → Int64 → Bool × Bool) (w : Int32) (n : Nat) (f u : Int32) (d : Int64) : Bool := decide (2 ≤ n) && anyN (fun p => qHas (qSafe f u d w) (nI p) && qPL sub n f u d p) 16
def qGL (sub : Int32 → Int32 → Int64 → Bool × Bool) (w : Int32) (n : Nat) (f u : Int32) (d : Int64) : Bool := decide (1 ≤ n) && decide (¬ f = 65535) && allN (fun p => !qHas (qSafe f u d w) (nI p) || qPW sub n f u d p) 16
def qS (w : Int32) : Nat → Int32 → Int32 → Int64 → Bool × Bool
  | 0 => fun _ _ _ => (false, false)
  | n + 1 => fun f u d => (qGW (qS w n) w (n + 1) f u d, qGL (qS w n) w (n + 1) f u d)
/-- with n placings left: the giver wins, loses; the placer of p loses, wins later -/
def qGw (w : Int32) (n : Nat) (f u : Int32) (d : Int64) : Bool := (qS w n f u d).1
def qGl (w : Int32) (n : Nat) (f u : Int32) (d : Int64) : Bool := (qS w n f u d).2
def qPl (w : Int32) (n : Nat) (f u : Int32) (d : Int64) (p : Nat) : Bool := qPL (qS w (n - 1)) n f u d p
def qPw (w : Int32) (n : Nat) (f u : Int32) (d : Int64) (p : Nat) : Bool := qPW (qS w (n - 1)) n f u d p
theorem qGw_eq (w : Int32) (n : Nat) (f u : Int32) (d : Int64) : qGw w n f u d = (decide (2 ≤ n) && anyN (fun p => qHas (qSafe f u d w) (nI p) && qPl w n f u d p) 16) := by
  cases n
  · rfl
  · rfl
theorem qGl_eq (w : Int32) (n : Nat) (f u : Int32) (d : Int64) : qGl w n f u d = (decide (1 ≤ n) && decide (¬ f = 65535) && allN (fun p => !qHas (qSafe f u d w) (nI p) || qPw w n f u d p) 16) := by
  cases n
  · rfl
  · rfl
theorem zb_f0 {b : Bool} (h : b = false) : zb b = 0 := by rw [h]; rfl
theorem anyN_s {P : Nat → Bool} {k : Nat} (h : anyN P k = false) (h2 : P k = false) : anyN P (k + 1) = false := by rw [anyN, h, h2]; rfl
theorem allN_s {P : Nat → Bool} {k : Nat} (h : allN P k = true) (h2 : P k = true) : allN P (k + 1) = true := by rw [allN, h, h2]; rfl
def qPwF (w : Int32) (n : Nat) (f u : Int32) (d : Int64) (p : Nat) (s : Nat) : Bool := !qHas f (nI s) && qGw w (n - 1) (f ||| qBit (nI s)) (u ||| qBit (nI p)) (qPutD d (nI p) (nI s))
def qPlF (w : Int32) (n : Nat) (f u : Int32) (d : Int64) (p : Nat) (s : Nat) : Bool := qHas f (nI s) || qGl w (n - 1) (f ||| qBit (nI s)) (u ||| qBit (nI p)) (qPutD d (nI p) (nI s))
def qGwF (w : Int32) (n : Nat) (f u : Int32) (d : Int64) (p : Nat) : Bool := qHas (qSafe f u d w) (nI p) && qPl w n f u d p
def qGlF (w : Int32) (n : Nat) (f u : Int32) (d : Int64) (p : Nat) : Bool := !qHas (qSafe f u d w) (nI p) || qPw w n f u d p
theorem qPw_e (w : Int32) (n : Nat) (f u : Int32) (d : Int64) (p : Nat) : qPw w n f u d p = (decide (3 ≤ n) && anyN (qPwF w n f u d p) 16) := rfl
theorem qPl_e (w : Int32) (n : Nat) (f u : Int32) (d : Int64) (p : Nat) : qPl w n f u d p = (decide (2 ≤ n) && allN (qPlF w n f u d p) 16) := rfl
theorem qGw_e (w : Int32) (n : Nat) (f u : Int32) (d : Int64) : qGw w n f u d = (decide (2 ≤ n) && anyN (qGwF w n f u d) 16) := qGw_eq w n f u d
theorem qGl_e (w : Int32) (n : Nat) (f u : Int32) (d : Int64) : qGl w n f u d = (decide (1 ≤ n) && decide (¬ f = 65535) && allN (qGlF w n f u d) 16) := qGl_eq w n f u d
theorem qPw_n {w : Int32} {n : Nat} {f u : Int32} {d : Int64} {p : Nat} (h : ¬ 3 ≤ n) : qPw w n f u d p = false := by rw [qPw_e, decide_eq_false h]; rfl
theorem qPl_n {w : Int32} {n : Nat} {f u : Int32} {d : Int64} {p : Nat} (h : ¬ 2 ≤ n) : qPl w n f u d p = false := by rw [qPl_e, decide_eq_false h]; rfl
theorem qGw_n {w : Int32} {n : Nat} {f u : Int32} {d : Int64} (h : ¬ 2 ≤ n) : qGw w n f u d = false := by rw [qGw_e, decide_eq_false h]; rfl
theorem qGl_n {w : Int32} {n : Nat} {f u : Int32} {d : Int64} (h : ¬ 1 ≤ n) : qGl w n f u d = false := by rw [qGl_e, decide_eq_false h]; rfl
theorem qGl_n2 {w : Int32} {n : Nat} {f u : Int32} {d : Int64} (h : f = 65535) : qGl w n f u d = false := by rw [qGl_e, decide_eq_false (p := ¬ f = 65535) (fun q => q h), Bool.and_false]; rfl
theorem qPw_b {w : Int32} {n : Nat} {f u : Int32} {d : Int64} {p : Nat} {b : Bool} (h : 3 ≤ n) (e : anyN (qPwF w n f u d p) 16 = b) : qPw w n f u d p = b := by rw [qPw_e, decide_eq_true h, e, Bool.true_and]
theorem qPl_b {w : Int32} {n : Nat} {f u : Int32} {d : Int64} {p : Nat} {b : Bool} (h : 2 ≤ n) (e : allN (qPlF w n f u d p) 16 = b) : qPl w n f u d p = b := by rw [qPl_e, decide_eq_true h, e, Bool.true_and]
theorem qGw_b {w : Int32} {n : Nat} {f u : Int32} {d : Int64} {b : Bool} (h : 2 ≤ n) (e : anyN (qGwF w n f u d) 16 = b) : qGw w n f u d = b := by rw [qGw_e, decide_eq_true h, e, Bool.true_and]
theorem qGl_b {w : Int32} {n : Nat} {f u : Int32} {d : Int64} {b : Bool} (h : 1 ≤ n) (h2 : ¬ f = 65535) (e : allN (qGlF w n f u d) 16 = b) : qGl w n f u d = b := by rw [qGl_e, decide_eq_true h, decide_eq_true h2, e, Bool.true_and]; rfl
/-- the worth, for the player who is to give; to place p; who has placed p on s -/
def qWG (w : Int32) (n : Nat) (f u : Int32) (d : Int64) : Int32 := if qGw w n f u d = true then 1 else if qGl w n f u d = true then -1 else 0
def qWP (w : Int32) (n : Nat) (f u : Int32) (d : Int64) (p : Nat) : Int32 := if ¬ qWin f d w (nI p) = 0 ∨ qPw w n f u d p = true then 1 else if qPl w n f u d p = true then -1 else 0
def qWA (w : Int32) (n : Nat) (f u : Int32) (d : Int64) (p s : Nat) : Int32 := if qHas (qWin f d w (nI p)) (nI s) = true then 1 else qWG w (n - 1) (f ||| qBit (nI s)) (u ||| qBit (nI p)) (qPutD d (nI p) (nI s))
def findN (P : Nat → Bool) : Nat → Nat → Nat
  | 0, k => k
  | m + 1, k => if P k = true then k else findN P m (k + 1)
theorem findN_s {P : Nat → Bool} {k z : Nat} (hk : k < 15) (h : P k = false) (e : z = findN P (15 - k) k) : z = findN P (15 - (k + 1)) (k + 1) := by
  rw [e, show 15 - k = (15 - (k + 1)) + 1 by omega]
  exact if_neg (by rw [h]; decide)
theorem findN_t {P : Nat → Bool} {k z : Nat} (hk : k < 15) (h : P k = true) (e : z = findN P (15 - k) k) : z = k := by
  rw [e, show 15 - k = (15 - (k + 1)) + 1 by omega]
  exact if_pos h
theorem findN_15 {P : Nat → Bool} {k z : Nat} (hk : k = 15) (e : z = findN P (15 - k) k) : z = k := by
  subst hk; exact e
def qBPF (w : Int32) (n : Nat) (f u : Int32) (d : Int64) (k : Nat) : Bool := !qHas u (nI k) && decide (-qWP w n f u d k = qWG w n f u d)
def qBP (w : Int32) (n : Nat) (f u : Int32) (d : Int64) : Nat := findN (qBPF w n f u d) 15 0
def qBSF (w : Int32) (n : Nat) (f u : Int32) (d : Int64) (p k : Nat) : Bool := !qHas f (nI k) && decide (qWA w n f u d p k = qWP w n f u d p)
def qBS (w : Int32) (n : Nat) (f u : Int32) (d : Int64) (p : Nat) : Nat := findN (qBSF w n f u d p) 15 0
end
section
/-! the class: looking ahead -/
def P_X0_giverWins (q0 q1 q2 q3 q4 q5 q6 : Int32) (q7 : Int64) (q8 q9 : Int32) (q10 : Int64) (n : Nat) : Int32 → QS → Prop := fun r u => u = (q0, q1, q2, q3, q4, q5, q6, q7, q8, q9, q10) ∧ r = zb (qGw q0 n q5 q6 q7)
def P_X0_giverLoses (q0 q1 q2 q3 q4 q5 q6 : Int32) (q7 : Int64) (q8 q9 : Int32) (q10 : Int64) (n : Nat) : Int32 → QS → Prop := fun r u => u = (q0, q1, q2, q3, q4, q5, q6, q7, q8, q9, q10) ∧ r = zb (qGl q0 n q5 q6 q7)
def P_X0_placerWinsLater (q0 q1 q2 q3 q4 q5 q6 : Int32) (q7 : Int64) (q8 q9 : Int32) (q10 : Int64) (n pp : Nat) : Int32 → QS → Prop := fun r u => u = (q0, q1, q2, q3, q4, q5, q6, q7, q8, q9, q10) ∧ r = zb (qPw q0 n q5 q6 q7 pp)
def P_X0_placerLoses (q0 q1 q2 q3 q4 q5 q6 : Int32) (q7 : Int64) (q8 q9 : Int32) (q10 : Int64) (n pp : Nat) : Int32 → QS → Prop := fun r u => u = (q0, q1, q2, q3, q4, q5, q6, q7, q8, q9, q10) ∧ r = zb (qPl q0 n q5 q6 q7 pp)
def K_GW (l : Launch) (g : zG) (bL h n : Nat) : Prop := ∀ (q0 q1 q2 q3 q4 q5 q6 : Int32) (q7 : Int64) (q8 q9 : Int32) (q10 : Int64), qInv q5 q7 → zM l yX0_giverWins wsX0_giverWins (6 + 2 * n) (200 + 50 * n) g [.ref h, .int (nI n)] (oQ h (q0, q1, q2, q3, q4, q5, q6, q7, q8, q9, q10)) (zEL bL) (zQi g (P_X0_giverWins q0 q1 q2 q3 q4 q5 q6 q7 q8 q9 q10 n) (oQ h))
def K_GL (l : Launch) (g : zG) (bL h n : Nat) : Prop := ∀ (q0 q1 q2 q3 q4 q5 q6 : Int32) (q7 : Int64) (q8 q9 : Int32) (q10 : Int64), qInv q5 q7 → zM l yX0_giverLoses wsX0_giverLoses (6 + 2 * n) (200 + 50 * n) g [.ref h, .int (nI n)] (oQ h (q0, q1, q2, q3, q4, q5, q6, q7, q8, q9, q10)) (zEL bL) (zQi g (P_X0_giverLoses q0 q1 q2 q3 q4 q5 q6 q7 q8 q9 q10 n) (oQ h))
def K_PW (l : Launch) (g : zG) (bL h n : Nat) : Prop := ∀ (q0 q1 q2 q3 q4 q5 q6 : Int32) (q7 : Int64) (q8 q9 : Int32) (q10 : Int64) (pp : Nat), pp < 16 → qHas q6 (nI pp) = false → qInv q5 q7 → zM l yX0_placerWinsLater wsX0_placerWinsLater (5 + 2 * n) (175 + 50 * n) g [.ref h, .int (nI pp), .int (nI n)] (oQ h (q0, q1, q2, q3, q4, q5, q6, q7, q8, q9, q10)) (zEL bL) (zQi g (P_X0_placerWinsLater q0 q1 q2 q3 q4 q5 q6 q7 q8 q9 q10 n pp) (oQ h))
def K_PL (l : Launch) (g : zG) (bL h n : Nat) : Prop := ∀ (q0 q1 q2 q3 q4 q5 q6 : Int32) (q7 : Int64) (q8 q9 : Int32) (q10 : Int64) (pp : Nat), pp < 16 → qHas q6 (nI pp) = false → qInv q5 q7 → zM l yX0_placerLoses wsX0_placerLoses (5 + 2 * n) (175 + 50 * n) g [.ref h, .int (nI pp), .int (nI n)] (oQ h (q0, q1, q2, q3, q4, q5, q6, q7, q8, q9, q10)) (zEL bL) (zQi g (P_X0_placerLoses q0 q1 q2 q3 q4 q5 q6 q7 q8 q9 q10 n pp) (oQ h))
theorem inw_X0_giverWins : ∀ w ∈ wsX00, w ∈ wsX0_giverWins := by decide +kernel
set_option maxHeartbeats 4000000 in
set_option maxRecDepth 100000 in
theorem c_X0_giverWins (l : Launch) (g : zG) (bL h : Nat) (q0 q1 q2 q3 q4 q5 q6 : Int32) (q7 : Int64) (q8 q9 : Int32) (q10 : Int64)  (n : Nat) (hn : n ≤ 1000) (hinv : qInv q5 q7) (hPL : K_PL l g bL h n) : zM l yX0_giverWins wsX0_giverWins (6 + 2 * n) (200 + 50 * n) g [.ref h, .int (nI n)] (oQ h (q0, q1, q2, q3, q4, q5, q6, q7, q8, q9, q10)) (zEL bL) (zQi g (P_X0_giverWins q0 q1 q2 q3 q4 q5 q6 q7 q8 q9 q10 n) (oQ h)) := by
  refine zstart (cc := cX0_giverWins) (maxL := 4) (ret := (some .boolean)) (own := RX0) rfl (by decide) rfl zStL (Nat.le_of_ble_eq_true rfl) ?_
  intro p e s m below meth c A Z hr hlk H locs X ls hl
  have hx := Z.1.1
  have hb := Z.1.2.1
  have hin : ∀ w ∈ wsX00, w ∈ wsX0_giverWins := inw_X0_giverWins
  have hl : lv_has ls 4 [(0, .ref h), (1, .int (nI n))] := hl
  have X : zh g A (oQ h (q0, q1, q2, q3, q4, q5, q6, q7, q8, q9, q10)) s.heap H locs := X
  refine lv_iload_n hx hb dX0_giverWins_0 rfl (lv_at hl 1 rfl) ?_
  refine lv_iconst (v := (2 : Int32)) hx hb dX0_giverWins_1 (by decide) ?_
  refine lv_icmp_ge (tgt := 7) hx hb dX0_giverWins_2 (by decide) (fun c1 => ?_) (fun c1 => ?_)
  · have qc1 := c1
    have c1n : 2 ≤ n := zn_let (by omega) (by omega) c1
    refine lv_aload_n hx hb dX0_giverWins_7 rfl (lv_at hl 0 rfl) ?_
    refine zcallVi (n := 0) (As := []) (rest := []) (ci := 0) (C := RX0) (T := TX0) (N := 11) Z X (c_X0_safePieces l g bL h q0 q1 q2 q3 q4 q5 q6 q7 q8 q9 q10 ) gX0_giverWins_X0_safePieces rfl (by decide +kernel) ⟨by show _ ≤ (6 + 2 * n); omega, by show _ ≤ (200 + 50 * n); omega⟩ rfl rfl rfl rfl hl.1 (Nat.le_of_ble_eq_true rfl) dX0_giverWins_8 ⟨Nat.zero_le _, Nat.zero_le _⟩ (fun r1 ur1 H locs hrr1 X => ?_)
    obtain ⟨rfl, rfl⟩ : ur1 = (q0, q1, q2, q3, q4, q5, q6, q7, q8, q9, q10) ∧ r1 = qSafe q5 q6 q7 q0 := hrr1
    have X : zh g A (oQ h (q0, q1, q2, q3, q4, q5, q6, q7, q8, q9, q10)) s.heap H locs := X
    refine lv_istore_n (lv' := [(2, .int (qSafe q5 q6 q7 q0)), (0, .ref h), (1, .int (nI n))]) hx hb dX0_giverWins_11 rfl hl (by decide) rfl (fun ls hl => ?_)
    refine lv_iconst (v := (0 : Int32)) hx hb dX0_giverWins_12 (by decide) ?_
    refine lv_istore_n (lv' := [(3, .int (0 : Int32)), (2, .int (qSafe q5 q6 q7 q0)), (0, .ref h), (1, .int (nI n))]) hx hb dX0_giverWins_13 rfl hl (by decide) rfl (fun ls hl => ?_)
    have cut14 : ∀ (n14 : Nat), ∀ (k : Nat), (k ≤ 16) → (anyN (qGwF q0 n q5 q6 q7) k = false) → (17 - k ≤ n14) → ∀ (H : Heap) (locs : List Loc) (ls : Array Slot), zh g A (oQ h (q0, q1, q2, q3, q4, q5, q6, q7, q8, q9, q10)) s.heap H locs → lv_has ls 4 [(3, .int (nI k)), (2, .int (qSafe q5 q6 q7 q0)), (0, .ref h), (1, .int (nI n))] → W p l e { frames := (6 + 2 * n), cells := 0, slots := 0, locals := (200 + 50 * n) } s m ([.ref h, .int (nI n)] : List Value).toArray below meth c H locs 0 0 (MQ below ((zQi g (P_X0_giverWins q0 q1 q2 q3 q4 q5 q6 q7 q8 q9 q10 n) (oQ h)) A) ([.ref h, .int (nI n)] : List Value).toArray s 0 0 A) (F0 m 14 ls []) := by
      intro n14
      induction n14 with
      | zero =>
        intro k hk hall hm14
        exact absurd hm14 (by omega)
      | succ n14 ih14 =>
        intro k hk hall hm14 H locs ls X hl
        refine lv_iload_n hx hb dX0_giverWins_14 rfl (lv_at hl 0 rfl) ?_
        refine lv_bipush (v := (16 : Int32)) hx hb dX0_giverWins_15 (by decide) ?_
        refine lv_icmp_ge (tgt := 45) hx hb dX0_giverWins_17 (by decide) (fun c3 => ?_) (fun c3 => ?_)
        · have qc3 := c3
          have c3n : 16 ≤ k := zn_let (by omega) (by omega) c3
          refine lv_iconst (v := (0 : Int32)) hx hb dX0_giverWins_45 (by decide) ?_
          exact zreti Z hr hlk (q0, q1, q2, q3, q4, q5, q6, q7, q8, q9, q10) X dX0_giverWins_46 rfl (⟨rfl, (zb_f0 (qGw_b (by omega) (by rw [show (16 : Nat) = k by omega]; exact hall))).symm⟩)
        · have qc3 := c3
          have c3n : ¬ 16 ≤ k := zn_len (by omega) (by omega) c3
          refine lv_iload_n hx hb dX0_giverWins_20 rfl (lv_at hl 1 rfl) ?_
          refine lv_iload_n hx hb dX0_giverWins_21 rfl (lv_at hl 0 rfl) ?_
          refine zcallSi (n := 2) (As := [.int (qSafe q5 q6 q7 q0), .int (nI k)]) (rest := []) Z X (c_X0_has l g (qSafe q5 q6 q7 q0) (nI k)) gX0_giverWins_X0_has rfl (by decide +kernel) ⟨by show _ ≤ (6 + 2 * n); omega, by show _ ≤ (200 + 50 * n); omega⟩ rfl rfl hl.1 (Nat.le_of_ble_eq_true rfl) dX0_giverWins_22 ⟨Nat.zero_le _, Nat.zero_le _⟩ (fun r3 H locs hrr3 X => ?_)
          obtain rfl : r3 = zb (qHas (qSafe q5 q6 q7 q0) (nI k)) := hrr3
          refine lv_if_eq (tgt := 39) hx hb dX0_giverWins_25 (by decide) (fun c5 => ?_) (fun c5 => ?_)
          · have qc5 := c5
            have hh : qHas (qSafe q5 q6 q7 q0) (nI k) = false := zb_0.mp c5
            refine lv_iinc (v := nI (k + 1)) (lv' := [(3, .int (nI (k + 1))), (2, .int (qSafe q5 q6 q7 q0)), (0, .ref h), (1, .int (nI n))]) hx hb dX0_giverWins_39 hl (k := 0) rfl (zi_inc k) (by decide) rfl (fun ls hl => ?_)
            refine lv_goto (tgt := 14) hx hb dX0_giverWins_42 (by decide) ?_
            exact ih14 (k + 1) (by first | assumption | omega) (by first | exact anyN_s hall (by unfold qGwF; rw [hh]; rfl) | exact anyN_s hall (by unfold qGwF; rw [hq, Bool.and_false])) (by omega) H locs ls X (lv_sub hl [0, 1, 2, 3] rfl)
          · have qc5 := c5
            have hh : qHas (qSafe q5 q6 q7 q0) (nI k) = true := zb_n0.mp c5
            refine lv_aload_n hx hb dX0_giverWins_28 rfl (lv_at hl 2 rfl) ?_
            refine lv_iload_n hx hb dX0_giverWins_29 rfl (lv_at hl 0 rfl) ?_
            refine lv_iload_n hx hb dX0_giverWins_30 rfl (lv_at hl 3 rfl) ?_
            refine zcallVi (n := 2) (As := [.int (nI k), .int (nI n)]) (rest := []) (ci := 0) (C := RX0) (T := TX0) (N := 11) Z X (hPL q0 q1 q2 q3 q4 q5 q6 q7 q8 q9 q10 k (by omega) (qSafe_used (by omega) hh) hinv) gX0_giverWins_X0_placerLoses rfl (by decide +kernel) ⟨by show _ ≤ (6 + 2 * n); omega, by show _ ≤ (200 + 50 * n); omega⟩ rfl rfl rfl rfl hl.1 (Nat.le_of_ble_eq_true rfl) dX0_giverWins_31 ⟨Nat.zero_le _, Nat.zero_le _⟩ (fun r5 ur5 H locs hrr5 X => ?_)
            obtain ⟨rfl, rfl⟩ : ur5 = (q0, q1, q2, q3, q4, q5, q6, q7, q8, q9, q10) ∧ r5 = zb (qPl q0 n q5 q6 q7 k) := hrr5
            have X : zh g A (oQ h (q0, q1, q2, q3, q4, q5, q6, q7, q8, q9, q10)) s.heap H locs := X
            refine lv_if_eq (tgt := 39) hx hb dX0_giverWins_34 (by decide) (fun c7 => ?_) (fun c7 => ?_)
            · have qc7 := c7
              have hq : qPl q0 n q5 q6 q7 k = false := zb_0.mp c7
              refine lv_iinc (v := nI (k + 1)) (lv' := [(3, .int (nI (k + 1))), (2, .int (qSafe q5 q6 q7 q0)), (0, .ref h), (1, .int (nI n))]) hx hb dX0_giverWins_39 hl (k := 0) rfl (zi_inc k) (by decide) rfl (fun ls hl => ?_)
              refine lv_goto (tgt := 14) hx hb dX0_giverWins_42 (by decide) ?_
              exact ih14 (k + 1) (by first | assumption | omega) (by first | exact anyN_s hall (by unfold qGwF; rw [hh]; rfl) | exact anyN_s hall (by unfold qGwF; rw [hq, Bool.and_false])) (by omega) H locs ls X (lv_sub hl [0, 1, 2, 3] rfl)
            · have qc7 := c7
              have hq : qPl q0 n q5 q6 q7 k = true := zb_n0.mp c7
              refine lv_iconst (v := (1 : Int32)) hx hb dX0_giverWins_37 (by decide) ?_
              exact zreti Z hr hlk (q0, q1, q2, q3, q4, q5, q6, q7, q8, q9, q10) X dX0_giverWins_38 rfl (⟨rfl, (zb_t (qGw_b (by omega) (anyN_t (k := k) (by omega) (by unfold qGwF; rw [hh, hq]; rfl)))).symm⟩)
    exact cut14 17 0 (by first | assumption | omega) (rfl) (by omega) H locs ls X (lv_sub hl [0, 1, 2, 3] rfl)
  · have qc1 := c1
    have c1n : ¬ 2 ≤ n := zn_len (by omega) (by omega) c1
    refine lv_iconst (v := (0 : Int32)) hx hb dX0_giverWins_5 (by decide) ?_
    exact zreti Z hr hlk (q0, q1, q2, q3, q4, q5, q6, q7, q8, q9, q10) X dX0_giverWins_6 rfl (⟨rfl, (zb_f0 (qGw_n (by omega))).symm⟩)
theorem inw_X0_giverLoses : ∀ w ∈ wsX00, w ∈ wsX0_giverLoses := by decide +kernel
theorem lk_X0_giverLoses_16 : Cond.fieldLink RX0 16 "Quarterboard" "filled" "I" ∈ wsX0_giverLoses := by decide +kernel
set_option maxHeartbeats 4000000 in
set_option maxRecDepth 100000 in
theorem c_X0_giverLoses (l : Launch) (g : zG) (bL h : Nat) (q0 q1 q2 q3 q4 q5 q6 : Int32) (q7 : Int64) (q8 q9 : Int32) (q10 : Int64)  (n : Nat) (hn : n ≤ 1000) (hinv : qInv q5 q7) (hPW : K_PW l g bL h n) : zM l yX0_giverLoses wsX0_giverLoses (6 + 2 * n) (200 + 50 * n) g [.ref h, .int (nI n)] (oQ h (q0, q1, q2, q3, q4, q5, q6, q7, q8, q9, q10)) (zEL bL) (zQi g (P_X0_giverLoses q0 q1 q2 q3 q4 q5 q6 q7 q8 q9 q10 n) (oQ h)) := by
  refine zstart (cc := cX0_giverLoses) (maxL := 4) (ret := (some .boolean)) (own := RX0) rfl (by decide) rfl zStL (Nat.le_of_ble_eq_true rfl) ?_
  intro p e s m below meth c A Z hr hlk H locs X ls hl
  have hx := Z.1.1
  have hb := Z.1.2.1
  have hin : ∀ w ∈ wsX00, w ∈ wsX0_giverLoses := inw_X0_giverLoses
  have hl : lv_has ls 4 [(0, .ref h), (1, .int (nI n))] := hl
  have X : zh g A (oQ h (q0, q1, q2, q3, q4, q5, q6, q7, q8, q9, q10)) s.heap H locs := X
  refine lv_iload_n hx hb dX0_giverLoses_0 rfl (lv_at hl 1 rfl) ?_
  refine lv_iconst (v := (1 : Int32)) hx hb dX0_giverLoses_1 (by decide) ?_
  refine lv_icmp_lt (tgt := 14) hx hb dX0_giverLoses_2 (by decide) (fun c1 => ?_) (fun c1 => ?_)
  · have qc1 := c1
    have c1n : n < 1 := zn_ltt (by omega) (by omega) c1
    refine lv_iconst (v := (0 : Int32)) hx hb dX0_giverLoses_14 (by decide) ?_
    exact zreti Z hr hlk (q0, q1, q2, q3, q4, q5, q6, q7, q8, q9, q10) X dX0_giverLoses_15 rfl (⟨rfl, by first | exact (zb_f0 (qGl_n2 hne)).symm | exact (zb_f0 (qGl_n (by omega))).symm⟩)
  · have qc1 := c1
    have c1n : ¬ n < 1 := zn_ltn (by omega) (by omega) c1
    refine lv_aload_n hx hb dX0_giverLoses_5 rfl (lv_at hl 0 rfl) ?_
    refine zget (fs := [.int q0, .int q1, .int q2, .int q3, .int q4, .int q5, .int q6, .long q7, .int q8, .int q9, .long q10]) (v := .int q5) Z hin X (ci := 0) (C := RX0) (T := TX0) (N := 11) rfl rfl 5 (by decide) lk_X0_giverLoses_16 rfl dX0_giverLoses_6 ?_
    refine lv_ldc (v := (65535 : Int32)) hx hb Z.1.2.2.2.1 (Z.1.2.2.2.2 (.constant RX0 78 (65535)) (by decide +kernel)) dX0_giverLoses_9 ?_
    refine lv_icmp_ne (tgt := 16) hx hb dX0_giverLoses_11 (by decide) (fun c2 => ?_) (fun c2 => ?_)
    · have qc2 := c2
      have hne : ¬ q5 = 65535 := c2
      refine lv_aload_n hx hb dX0_giverLoses_16 rfl (lv_at hl 0 rfl) ?_
      refine zcallVi (n := 0) (As := []) (rest := []) (ci := 0) (C := RX0) (T := TX0) (N := 11) Z X (c_X0_safePieces l g bL h q0 q1 q2 q3 q4 q5 q6 q7 q8 q9 q10 ) gX0_giverLoses_X0_safePieces rfl (by decide +kernel) ⟨by show _ ≤ (6 + 2 * n); omega, by show _ ≤ (200 + 50 * n); omega⟩ rfl rfl rfl rfl hl.1 (Nat.le_of_ble_eq_true rfl) dX0_giverLoses_17 ⟨Nat.zero_le _, Nat.zero_le _⟩ (fun r2 ur2 H locs hrr2 X => ?_)
      obtain ⟨rfl, rfl⟩ : ur2 = (q0, q1, q2, q3, q4, q5, q6, q7, q8, q9, q10) ∧ r2 = qSafe q5 q6 q7 q0 := hrr2
      have X : zh g A (oQ h (q0, q1, q2, q3, q4, q5, q6, q7, q8, q9, q10)) s.heap H locs := X
      refine lv_istore_n (lv' := [(2, .int (qSafe q5 q6 q7 q0)), (0, .ref h), (1, .int (nI n))]) hx hb dX0_giverLoses_20 rfl hl (by decide) rfl (fun ls hl => ?_)
      refine lv_iconst (v := (0 : Int32)) hx hb dX0_giverLoses_21 (by decide) ?_
      refine lv_istore_n (lv' := [(3, .int (0 : Int32)), (2, .int (qSafe q5 q6 q7 q0)), (0, .ref h), (1, .int (nI n))]) hx hb dX0_giverLoses_22 rfl hl (by decide) rfl (fun ls hl => ?_)
      have cut23 : ∀ (n23 : Nat), ∀ (k : Nat), (k ≤ 16) → (allN (qGlF q0 n q5 q6 q7) k = true) → (17 - k ≤ n23) → ∀ (H : Heap) (locs : List Loc) (ls : Array Slot), zh g A (oQ h (q0, q1, q2, q3, q4, q5, q6, q7, q8, q9, q10)) s.heap H locs → lv_has ls 4 [(3, .int (nI k)), (2, .int (qSafe q5 q6 q7 q0)), (0, .ref h), (1, .int (nI n))] → W p l e { frames := (6 + 2 * n), cells := 0, slots := 0, locals := (200 + 50 * n) } s m ([.ref h, .int (nI n)] : List Value).toArray below meth c H locs 0 0 (MQ below ((zQi g (P_X0_giverLoses q0 q1 q2 q3 q4 q5 q6 q7 q8 q9 q10 n) (oQ h)) A) ([.ref h, .int (nI n)] : List Value).toArray s 0 0 A) (F0 m 23 ls []) := by
        intro n23
        induction n23 with
        | zero =>
          intro k hk hall hm23
          exact absurd hm23 (by omega)
        | succ n23 ih23 =>
          intro k hk hall hm23 H locs ls X hl
          refine lv_iload_n hx hb dX0_giverLoses_23 rfl (lv_at hl 0 rfl) ?_
          refine lv_bipush (v := (16 : Int32)) hx hb dX0_giverLoses_24 (by decide) ?_
          refine lv_icmp_ge (tgt := 54) hx hb dX0_giverLoses_26 (by decide) (fun c4 => ?_) (fun c4 => ?_)
          · have qc4 := c4
            have c4n : 16 ≤ k := zn_let (by omega) (by omega) c4
            refine lv_iconst (v := (1 : Int32)) hx hb dX0_giverLoses_54 (by decide) ?_
            exact zreti Z hr hlk (q0, q1, q2, q3, q4, q5, q6, q7, q8, q9, q10) X dX0_giverLoses_55 rfl (⟨rfl, (zb_t (qGl_b (by omega) hne (by rw [show (16 : Nat) = k by omega]; exact hall))).symm⟩)
          · have qc4 := c4
            have c4n : ¬ 16 ≤ k := zn_len (by omega) (by omega) c4
            refine lv_iload_n hx hb dX0_giverLoses_29 rfl (lv_at hl 1 rfl) ?_
            refine lv_iload_n hx hb dX0_giverLoses_30 rfl (lv_at hl 0 rfl) ?_
            refine zcallSi (n := 2) (As := [.int (qSafe q5 q6 q7 q0), .int (nI k)]) (rest := []) Z X (c_X0_has l g (qSafe q5 q6 q7 q0) (nI k)) gX0_giverLoses_X0_has rfl (by decide +kernel) ⟨by show _ ≤ (6 + 2 * n); omega, by show _ ≤ (200 + 50 * n); omega⟩ rfl rfl hl.1 (Nat.le_of_ble_eq_true rfl) dX0_giverLoses_31 ⟨Nat.zero_le _, Nat.zero_le _⟩ (fun r4 H locs hrr4 X => ?_)
            obtain rfl : r4 = zb (qHas (qSafe q5 q6 q7 q0) (nI k)) := hrr4
            refine lv_if_eq (tgt := 48) hx hb dX0_giverLoses_34 (by decide) (fun c6 => ?_) (fun c6 => ?_)
            · have qc6 := c6
              have hh : qHas (qSafe q5 q6 q7 q0) (nI k) = false := zb_0.mp c6
              refine lv_iinc (v := nI (k + 1)) (lv' := [(3, .int (nI (k + 1))), (2, .int (qSafe q5 q6 q7 q0)), (0, .ref h), (1, .int (nI n))]) hx hb dX0_giverLoses_48 hl (k := 0) rfl (zi_inc k) (by decide) rfl (fun ls hl => ?_)
              refine lv_goto (tgt := 23) hx hb dX0_giverLoses_51 (by decide) ?_
              exact ih23 (k + 1) (by first | assumption | omega) (by first | exact allN_s hall (by unfold qGlF; rw [hh]; rfl) | exact allN_s hall (by unfold qGlF; rw [hq, Bool.or_true])) (by omega) H locs ls X (lv_sub hl [0, 1, 2, 3] rfl)
            · have qc6 := c6
              have hh : qHas (qSafe q5 q6 q7 q0) (nI k) = true := zb_n0.mp c6
              refine lv_aload_n hx hb dX0_giverLoses_37 rfl (lv_at hl 2 rfl) ?_
              refine lv_iload_n hx hb dX0_giverLoses_38 rfl (lv_at hl 0 rfl) ?_
              refine lv_iload_n hx hb dX0_giverLoses_39 rfl (lv_at hl 3 rfl) ?_
              refine zcallVi (n := 2) (As := [.int (nI k), .int (nI n)]) (rest := []) (ci := 0) (C := RX0) (T := TX0) (N := 11) Z X (hPW q0 q1 q2 q3 q4 q5 q6 q7 q8 q9 q10 k (by omega) (qSafe_used (by omega) hh) hinv) gX0_giverLoses_X0_placerWinsLater rfl (by decide +kernel) ⟨by show _ ≤ (6 + 2 * n); omega, by show _ ≤ (200 + 50 * n); omega⟩ rfl rfl rfl rfl hl.1 (Nat.le_of_ble_eq_true rfl) dX0_giverLoses_40 ⟨Nat.zero_le _, Nat.zero_le _⟩ (fun r6 ur6 H locs hrr6 X => ?_)
              obtain ⟨rfl, rfl⟩ : ur6 = (q0, q1, q2, q3, q4, q5, q6, q7, q8, q9, q10) ∧ r6 = zb (qPw q0 n q5 q6 q7 k) := hrr6
              have X : zh g A (oQ h (q0, q1, q2, q3, q4, q5, q6, q7, q8, q9, q10)) s.heap H locs := X
              refine lv_if_ne (tgt := 48) hx hb dX0_giverLoses_43 (by decide) (fun c8 => ?_) (fun c8 => ?_)
              · have qc8 := c8
                have hq : qPw q0 n q5 q6 q7 k = true := zb_n0.mp c8
                refine lv_iinc (v := nI (k + 1)) (lv' := [(3, .int (nI (k + 1))), (2, .int (qSafe q5 q6 q7 q0)), (0, .ref h), (1, .int (nI n))]) hx hb dX0_giverLoses_48 hl (k := 0) rfl (zi_inc k) (by decide) rfl (fun ls hl => ?_)
                refine lv_goto (tgt := 23) hx hb dX0_giverLoses_51 (by decide) ?_
                exact ih23 (k + 1) (by first | assumption | omega) (by first | exact allN_s hall (by unfold qGlF; rw [hh]; rfl) | exact allN_s hall (by unfold qGlF; rw [hq, Bool.or_true])) (by omega) H locs ls X (lv_sub hl [0, 1, 2, 3] rfl)
              · have qc8 := c8
                have hq : qPw q0 n q5 q6 q7 k = false := zb_0.mp c8
                refine lv_iconst (v := (0 : Int32)) hx hb dX0_giverLoses_46 (by decide) ?_
                exact zreti Z hr hlk (q0, q1, q2, q3, q4, q5, q6, q7, q8, q9, q10) X dX0_giverLoses_47 rfl (⟨rfl, (zb_f0 (qGl_b (by omega) hne (allN_f (k := k) (by omega) (by unfold qGlF; rw [hh, hq]; rfl)))).symm⟩)
      exact cut23 17 0 (by first | assumption | omega) (rfl) (by omega) H locs ls X (lv_sub hl [0, 1, 2, 3] rfl)
    · have qc2 := c2
      have hne : q5 = 65535 := c2
      refine lv_iconst (v := (0 : Int32)) hx hb dX0_giverLoses_14 (by decide) ?_
      exact zreti Z hr hlk (q0, q1, q2, q3, q4, q5, q6, q7, q8, q9, q10) X dX0_giverLoses_15 rfl (⟨rfl, by first | exact (zb_f0 (qGl_n2 hne)).symm | exact (zb_f0 (qGl_n (by omega))).symm⟩)
theorem inw_X0_placerWinsLater : ∀ w ∈ wsX00, w ∈ wsX0_placerWinsLater := by decide +kernel
theorem lk_X0_placerWinsLater_16 : Cond.fieldLink RX0 16 "Quarterboard" "filled" "I" ∈ wsX0_placerWinsLater := by decide +kernel
set_option maxHeartbeats 4000000 in
set_option maxRecDepth 100000 in
theorem c_X0_placerWinsLater (l : Launch) (g : zG) (bL h : Nat) (q0 q1 q2 q3 q4 q5 q6 : Int32) (q7 : Int64) (q8 q9 : Int32) (q10 : Int64)  (n pp : Nat) (hn : n ≤ 1000) (hpp : pp < 16) (hu : qHas q6 (nI pp) = false) (hinv : qInv q5 q7) (hsub : 3 ≤ n → K_GW l g bL h (n - 1)) : zM l yX0_placerWinsLater wsX0_placerWinsLater (5 + 2 * n) (175 + 50 * n) g [.ref h, .int (nI pp), .int (nI n)] (oQ h (q0, q1, q2, q3, q4, q5, q6, q7, q8, q9, q10)) (zEL bL) (zQi g (P_X0_placerWinsLater q0 q1 q2 q3 q4 q5 q6 q7 q8 q9 q10 n pp) (oQ h)) := by
  refine zstart (cc := cX0_placerWinsLater) (maxL := 5) (ret := (some .boolean)) (own := RX0) rfl (by decide) rfl zStL (Nat.le_of_ble_eq_true rfl) ?_
  intro p e s m below meth c A Z hr hlk H locs X ls hl
  have hx := Z.1.1
  have hb := Z.1.2.1
  have hin : ∀ w ∈ wsX00, w ∈ wsX0_placerWinsLater := inw_X0_placerWinsLater
  have hl : lv_has ls 5 [(0, .ref h), (1, .int (nI pp)), (2, .int (nI n))] := hl
  have X : zh g A (oQ h (q0, q1, q2, q3, q4, q5, q6, q7, q8, q9, q10)) s.heap H locs := X
  refine lv_iload_n hx hb dX0_placerWinsLater_0 rfl (lv_at hl 2 rfl) ?_
  refine lv_iconst (v := (3 : Int32)) hx hb dX0_placerWinsLater_1 (by decide) ?_
  refine lv_icmp_ge (tgt := 7) hx hb dX0_placerWinsLater_2 (by decide) (fun c1 => ?_) (fun c1 => ?_)
  · have qc1 := c1
    have c1n : 3 ≤ n := zn_let (by omega) (by omega) c1
    refine lv_iconst (v := (0 : Int32)) hx hb dX0_placerWinsLater_7 (by decide) ?_
    refine lv_istore_n (lv' := [(3, .int (0 : Int32)), (0, .ref h), (1, .int (nI pp)), (2, .int (nI n))]) hx hb dX0_placerWinsLater_8 rfl hl (by decide) rfl (fun ls hl => ?_)
    have cut9 : ∀ (n9 : Nat), ∀ (k : Nat), (k ≤ 16) → (anyN (qPwF q0 n q5 q6 q7 pp) k = false) → (17 - k ≤ n9) → ∀ (H : Heap) (locs : List Loc) (ls : Array Slot), zh g A (oQ h (q0, q1, q2, q3, q4, q5, q6, q7, q8, q9, q10)) s.heap H locs → lv_has ls 5 [(3, .int (nI k)), (0, .ref h), (1, .int (nI pp)), (2, .int (nI n))] → W p l e { frames := (5 + 2 * n), cells := 0, slots := 0, locals := (175 + 50 * n) } s m ([.ref h, .int (nI pp), .int (nI n)] : List Value).toArray below meth c H locs 0 0 (MQ below ((zQi g (P_X0_placerWinsLater q0 q1 q2 q3 q4 q5 q6 q7 q8 q9 q10 n pp) (oQ h)) A) ([.ref h, .int (nI pp), .int (nI n)] : List Value).toArray s 0 0 A) (F0 m 9 ls []) := by
      intro n9
      induction n9 with
      | zero =>
        intro k hk hall hm9
        exact absurd hm9 (by omega)
      | succ n9 ih9 =>
        intro k hk hall hm9 H locs ls X hl
        refine lv_iload_n hx hb dX0_placerWinsLater_9 rfl (lv_at hl 0 rfl) ?_
        refine lv_bipush (v := (16 : Int32)) hx hb dX0_placerWinsLater_10 (by decide) ?_
        refine lv_icmp_ge (tgt := 60) hx hb dX0_placerWinsLater_12 (by decide) (fun c2 => ?_) (fun c2 => ?_)
        · have qc2 := c2
          have c2n : 16 ≤ k := zn_let (by omega) (by omega) c2
          refine lv_iconst (v := (0 : Int32)) hx hb dX0_placerWinsLater_60 (by decide) ?_
          exact zreti Z hr hlk (q0, q1, q2, q3, q4, q5, q6, q7, q8, q9, q10) X dX0_placerWinsLater_61 rfl (⟨rfl, (zb_f0 (qPw_b (by omega) (by rw [show (16 : Nat) = k by omega]; exact hall))).symm⟩)
        · have qc2 := c2
          have c2n : ¬ 16 ≤ k := zn_len (by omega) (by omega) c2
          refine lv_aload_n hx hb dX0_placerWinsLater_15 rfl (lv_at hl 1 rfl) ?_
          refine zget (fs := [.int q0, .int q1, .int q2, .int q3, .int q4, .int q5, .int q6, .long q7, .int q8, .int q9, .long q10]) (v := .int q5) Z hin X (ci := 0) (C := RX0) (T := TX0) (N := 11) rfl rfl 5 (by decide) lk_X0_placerWinsLater_16 rfl dX0_placerWinsLater_16 ?_
          refine lv_iload_n hx hb dX0_placerWinsLater_19 rfl (lv_at hl 0 rfl) ?_
          refine zcallSi (n := 2) (As := [.int q5, .int (nI k)]) (rest := []) Z X (c_X0_has l g q5 (nI k)) gX0_placerWinsLater_X0_has rfl (by decide +kernel) ⟨by show _ ≤ (5 + 2 * n); omega, by show _ ≤ (175 + 50 * n); omega⟩ rfl rfl hl.1 (Nat.le_of_ble_eq_true rfl) dX0_placerWinsLater_20 ⟨Nat.zero_le _, Nat.zero_le _⟩ (fun r2 H locs hrr2 X => ?_)
          obtain rfl : r2 = zb (qHas q5 (nI k)) := hrr2
          refine lv_if_ne (tgt := 54) hx hb dX0_placerWinsLater_23 (by decide) (fun c4 => ?_) (fun c4 => ?_)
          · have qc4 := c4
            have hf : qHas q5 (nI k) = true := zb_n0.mp c4
            refine lv_iinc (v := nI (k + 1)) (lv' := [(3, .int (nI (k + 1))), (0, .ref h), (1, .int (nI pp)), (2, .int (nI n))]) hx hb dX0_placerWinsLater_54 hl (k := 0) rfl (zi_inc k) (by decide) rfl (fun ls hl => ?_)
            refine lv_goto (tgt := 9) hx hb dX0_placerWinsLater_57 (by decide) ?_
            exact ih9 (k + 1) (by first | assumption | omega) (by first | exact anyN_s hall (by unfold qPwF; rw [hf]; rfl) | exact anyN_s hall (by unfold qPwF; rw [hf, hq]; rfl)) (by omega) H locs ls X (lv_sub hl [0, 1, 2, 3] rfl)
          · have qc4 := c4
            have hf : qHas q5 (nI k) = false := zb_0.mp c4
            refine lv_aload_n hx hb dX0_placerWinsLater_26 rfl (lv_at hl 1 rfl) ?_
            refine lv_iload_n hx hb dX0_placerWinsLater_27 rfl (lv_at hl 2 rfl) ?_
            refine lv_iload_n hx hb dX0_placerWinsLater_28 rfl (lv_at hl 0 rfl) ?_
            refine zcallVv (n := 2) (As := [.int (nI pp), .int (nI k)]) (rest := []) (ci := 0) (C := RX0) (T := TX0) (N := 11) Z X (c_X0_put l g bL h q0 q1 q2 q3 q4 q5 q6 q7 q8 q9 q10 (nI pp) (nI k)) gX0_placerWinsLater_X0_put rfl (by decide +kernel) ⟨by show _ ≤ (5 + 2 * n); omega, by show _ ≤ (175 + 50 * n); omega⟩ rfl rfl rfl rfl hl.1 (Nat.le_of_ble_eq_true rfl) dX0_placerWinsLater_29 ⟨Nat.zero_le _, Nat.zero_le _⟩ (fun ur4 H locs hrr4 X => ?_)
            obtain rfl : ur4 = (q0, q1, q2, q3, q4, (q5 ||| qBit (nI k)), (q6 ||| qBit (nI pp)), (qPutD q7 (nI pp) (nI k)), q8, q9, q10) := hrr4
            have X : zh g A (oQ h (q0, q1, q2, q3, q4, (q5 ||| qBit (nI k)), (q6 ||| qBit (nI pp)), (qPutD q7 (nI pp) (nI k)), q8, q9, q10)) s.heap H locs := X
            refine lv_aload_n hx hb dX0_placerWinsLater_32 rfl (lv_at hl 1 rfl) ?_
            refine lv_iload_n hx hb dX0_placerWinsLater_33 rfl (lv_at hl 3 rfl) ?_
            refine lv_iconst (v := nI 1) hx hb dX0_placerWinsLater_34 (by decide) ?_
            refine lv_isub hx hb dX0_placerWinsLater_35 ?_
            refine zrwi (y := nI (n - 1)) (pk_sub (by omega)) ?_
            refine zcallVi (n := 1) (As := [.int (nI (n - 1))]) (rest := []) (ci := 0) (C := RX0) (T := TX0) (N := 11) Z X (hsub (by omega) q0 q1 q2 q3 q4 (q5 ||| qBit (nI k)) (q6 ||| qBit (nI pp)) (qPutD q7 (nI pp) (nI k)) q8 q9 q10 (qInv_put hinv hpp (by omega))) gX0_placerWinsLater_X0_giverWins rfl (by decide +kernel) ⟨by show _ ≤ (5 + 2 * n); omega, by show _ ≤ (175 + 50 * n); omega⟩ rfl rfl rfl rfl hl.1 (Nat.le_of_ble_eq_true rfl) dX0_placerWinsLater_36 ⟨Nat.zero_le _, Nat.zero_le _⟩ (fun r5 ur5 H locs hrr5 X => ?_)
            obtain ⟨rfl, rfl⟩ : ur5 = (q0, q1, q2, q3, q4, (q5 ||| qBit (nI k)), (q6 ||| qBit (nI pp)), (qPutD q7 (nI pp) (nI k)), q8, q9, q10) ∧ r5 = zb (qGw q0 (n - 1) (q5 ||| qBit (nI k)) (q6 ||| qBit (nI pp)) (qPutD q7 (nI pp) (nI k))) := hrr5
            have X : zh g A (oQ h (q0, q1, q2, q3, q4, (q5 ||| qBit (nI k)), (q6 ||| qBit (nI pp)), (qPutD q7 (nI pp) (nI k)), q8, q9, q10)) s.heap H locs := X
            refine lv_istore (lv' := [(4, .int (zb (qGw q0 (n - 1) (q5 ||| qBit (nI k)) (q6 ||| qBit (nI pp)) (qPutD q7 (nI pp) (nI k))))), (3, .int (nI k)), (0, .ref h), (1, .int (nI pp)), (2, .int (nI n))]) hx hb dX0_placerWinsLater_39 hl (by decide) rfl (fun ls hl => ?_)
            refine lv_aload_n hx hb dX0_placerWinsLater_41 rfl (lv_at hl 2 rfl) ?_
            refine lv_iload_n hx hb dX0_placerWinsLater_42 rfl (lv_at hl 3 rfl) ?_
            refine lv_iload_n hx hb dX0_placerWinsLater_43 rfl (lv_at hl 1 rfl) ?_
            refine zcallVv (n := 2) (As := [.int (nI pp), .int (nI k)]) (rest := []) (ci := 0) (C := RX0) (T := TX0) (N := 11) Z X (c_X0_lift l g bL h q0 q1 q2 q3 q4 (q5 ||| qBit (nI k)) (q6 ||| qBit (nI pp)) (qPutD q7 (nI pp) (nI k)) q8 q9 q10 (nI pp) (nI k)) gX0_placerWinsLater_X0_lift rfl (by decide +kernel) ⟨by show _ ≤ (5 + 2 * n); omega, by show _ ≤ (175 + 50 * n); omega⟩ rfl rfl rfl rfl hl.1 (Nat.le_of_ble_eq_true rfl) dX0_placerWinsLater_44 ⟨Nat.zero_le _, Nat.zero_le _⟩ (fun ur6 H locs hrr6 X => ?_)
            obtain rfl : ur6 = (q0, q1, q2, q3, q4, ((q5 ||| qBit (nI k)) &&& (qBit (nI k) ^^^ (-1 : Int32))), ((q6 ||| qBit (nI pp)) &&& (qBit (nI pp) ^^^ (-1 : Int32))), (qLiftD (qPutD q7 (nI pp) (nI k)) (nI k)), q8, q9, q10) := hrr6
            have X : zh g A (oQ h (q0, q1, q2, q3, q4, ((q5 ||| qBit (nI k)) &&& (qBit (nI k) ^^^ (-1 : Int32))), ((q6 ||| qBit (nI pp)) &&& (qBit (nI pp) ^^^ (-1 : Int32))), (qLiftD (qPutD q7 (nI pp) (nI k)) (nI k)), q8, q9, q10)) s.heap H locs := X
            have X : zh g A (oQ h (q0, q1, q2, q3, q4, q5, q6, q7, q8, q9, q10)) s.heap H locs := by rw [qOrAnd q5 (p := k) (by omega) hf, qOrAnd q6 hpp hu, qLiftPut q7 hpp (by omega) (hinv k (by omega) hf)] at X; exact X
            refine lv_iload hx hb dX0_placerWinsLater_47 (lv_at hl 0 rfl) ?_
            refine lv_if_eq (tgt := 54) hx hb dX0_placerWinsLater_49 (by decide) (fun c8 => ?_) (fun c8 => ?_)
            · have qc8 := c8
              have hq : qGw q0 (n - 1) (q5 ||| qBit (nI k)) (q6 ||| qBit (nI pp)) (qPutD q7 (nI pp) (nI k)) = false := zb_0.mp c8
              refine lv_iinc (v := nI (k + 1)) (lv' := [(3, .int (nI (k + 1))), (4, .int (zb (qGw q0 (n - 1) (q5 ||| qBit (nI k)) (q6 ||| qBit (nI pp)) (qPutD q7 (nI pp) (nI k))))), (0, .ref h), (1, .int (nI pp)), (2, .int (nI n))]) hx hb dX0_placerWinsLater_54 hl (k := 1) rfl (zi_inc k) (by decide) rfl (fun ls hl => ?_)
              refine lv_goto (tgt := 9) hx hb dX0_placerWinsLater_57 (by decide) ?_
              exact ih9 (k + 1) (by first | assumption | omega) (by first | exact anyN_s hall (by unfold qPwF; rw [hf]; rfl) | exact anyN_s hall (by unfold qPwF; rw [hf, hq]; rfl)) (by omega) H locs ls X (lv_sub hl [0, 2, 3, 4] rfl)
            · have qc8 := c8
              have hq : qGw q0 (n - 1) (q5 ||| qBit (nI k)) (q6 ||| qBit (nI pp)) (qPutD q7 (nI pp) (nI k)) = true := zb_n0.mp c8
              refine lv_iconst (v := (1 : Int32)) hx hb dX0_placerWinsLater_52 (by decide) ?_
              exact zreti Z hr hlk (q0, q1, q2, q3, q4, q5, q6, q7, q8, q9, q10) X dX0_placerWinsLater_53 rfl (⟨rfl, (zb_t (qPw_b (by omega) (anyN_t (k := k) (by omega) (by unfold qPwF; rw [hf, hq]; rfl)))).symm⟩)
    exact cut9 17 0 (by first | assumption | omega) (rfl) (by omega) H locs ls X (lv_sub hl [0, 1, 2, 3] rfl)
  · have qc1 := c1
    have c1n : ¬ 3 ≤ n := zn_len (by omega) (by omega) c1
    refine lv_iconst (v := (0 : Int32)) hx hb dX0_placerWinsLater_5 (by decide) ?_
    exact zreti Z hr hlk (q0, q1, q2, q3, q4, q5, q6, q7, q8, q9, q10) X dX0_placerWinsLater_6 rfl (⟨rfl, (zb_f0 (qPw_n (by omega))).symm⟩)
theorem inw_X0_placerLoses : ∀ w ∈ wsX00, w ∈ wsX0_placerLoses := by decide +kernel
theorem lk_X0_placerLoses_16 : Cond.fieldLink RX0 16 "Quarterboard" "filled" "I" ∈ wsX0_placerLoses := by decide +kernel
set_option maxHeartbeats 4000000 in
set_option maxRecDepth 100000 in
theorem c_X0_placerLoses (l : Launch) (g : zG) (bL h : Nat) (q0 q1 q2 q3 q4 q5 q6 : Int32) (q7 : Int64) (q8 q9 : Int32) (q10 : Int64)  (n pp : Nat) (hn : n ≤ 1000) (hpp : pp < 16) (hu : qHas q6 (nI pp) = false) (hinv : qInv q5 q7) (hsub : 2 ≤ n → K_GL l g bL h (n - 1)) : zM l yX0_placerLoses wsX0_placerLoses (5 + 2 * n) (175 + 50 * n) g [.ref h, .int (nI pp), .int (nI n)] (oQ h (q0, q1, q2, q3, q4, q5, q6, q7, q8, q9, q10)) (zEL bL) (zQi g (P_X0_placerLoses q0 q1 q2 q3 q4 q5 q6 q7 q8 q9 q10 n pp) (oQ h)) := by
  refine zstart (cc := cX0_placerLoses) (maxL := 5) (ret := (some .boolean)) (own := RX0) rfl (by decide) rfl zStL (Nat.le_of_ble_eq_true rfl) ?_
  intro p e s m below meth c A Z hr hlk H locs X ls hl
  have hx := Z.1.1
  have hb := Z.1.2.1
  have hin : ∀ w ∈ wsX00, w ∈ wsX0_placerLoses := inw_X0_placerLoses
  have hl : lv_has ls 5 [(0, .ref h), (1, .int (nI pp)), (2, .int (nI n))] := hl
  have X : zh g A (oQ h (q0, q1, q2, q3, q4, q5, q6, q7, q8, q9, q10)) s.heap H locs := X
  refine lv_iload_n hx hb dX0_placerLoses_0 rfl (lv_at hl 2 rfl) ?_
  refine lv_iconst (v := (2 : Int32)) hx hb dX0_placerLoses_1 (by decide) ?_
  refine lv_icmp_ge (tgt := 7) hx hb dX0_placerLoses_2 (by decide) (fun c1 => ?_) (fun c1 => ?_)
  · have qc1 := c1
    have c1n : 2 ≤ n := zn_let (by omega) (by omega) c1
    refine lv_iconst (v := (0 : Int32)) hx hb dX0_placerLoses_7 (by decide) ?_
    refine lv_istore_n (lv' := [(3, .int (0 : Int32)), (0, .ref h), (1, .int (nI pp)), (2, .int (nI n))]) hx hb dX0_placerLoses_8 rfl hl (by decide) rfl (fun ls hl => ?_)
    have cut9 : ∀ (n9 : Nat), ∀ (k : Nat), (k ≤ 16) → (allN (qPlF q0 n q5 q6 q7 pp) k = true) → (17 - k ≤ n9) → ∀ (H : Heap) (locs : List Loc) (ls : Array Slot), zh g A (oQ h (q0, q1, q2, q3, q4, q5, q6, q7, q8, q9, q10)) s.heap H locs → lv_has ls 5 [(3, .int (nI k)), (0, .ref h), (1, .int (nI pp)), (2, .int (nI n))] → W p l e { frames := (5 + 2 * n), cells := 0, slots := 0, locals := (175 + 50 * n) } s m ([.ref h, .int (nI pp), .int (nI n)] : List Value).toArray below meth c H locs 0 0 (MQ below ((zQi g (P_X0_placerLoses q0 q1 q2 q3 q4 q5 q6 q7 q8 q9 q10 n pp) (oQ h)) A) ([.ref h, .int (nI pp), .int (nI n)] : List Value).toArray s 0 0 A) (F0 m 9 ls []) := by
      intro n9
      induction n9 with
      | zero =>
        intro k hk hall hm9
        exact absurd hm9 (by omega)
      | succ n9 ih9 =>
        intro k hk hall hm9 H locs ls X hl
        refine lv_iload_n hx hb dX0_placerLoses_9 rfl (lv_at hl 0 rfl) ?_
        refine lv_bipush (v := (16 : Int32)) hx hb dX0_placerLoses_10 (by decide) ?_
        refine lv_icmp_ge (tgt := 60) hx hb dX0_placerLoses_12 (by decide) (fun c2 => ?_) (fun c2 => ?_)
        · have qc2 := c2
          have c2n : 16 ≤ k := zn_let (by omega) (by omega) c2
          refine lv_iconst (v := (1 : Int32)) hx hb dX0_placerLoses_60 (by decide) ?_
          exact zreti Z hr hlk (q0, q1, q2, q3, q4, q5, q6, q7, q8, q9, q10) X dX0_placerLoses_61 rfl (⟨rfl, (zb_t (qPl_b (by omega) (by rw [show (16 : Nat) = k by omega]; exact hall))).symm⟩)
        · have qc2 := c2
          have c2n : ¬ 16 ≤ k := zn_len (by omega) (by omega) c2
          refine lv_aload_n hx hb dX0_placerLoses_15 rfl (lv_at hl 1 rfl) ?_
          refine zget (fs := [.int q0, .int q1, .int q2, .int q3, .int q4, .int q5, .int q6, .long q7, .int q8, .int q9, .long q10]) (v := .int q5) Z hin X (ci := 0) (C := RX0) (T := TX0) (N := 11) rfl rfl 5 (by decide) lk_X0_placerLoses_16 rfl dX0_placerLoses_16 ?_
          refine lv_iload_n hx hb dX0_placerLoses_19 rfl (lv_at hl 0 rfl) ?_
          refine zcallSi (n := 2) (As := [.int q5, .int (nI k)]) (rest := []) Z X (c_X0_has l g q5 (nI k)) gX0_placerLoses_X0_has rfl (by decide +kernel) ⟨by show _ ≤ (5 + 2 * n); omega, by show _ ≤ (175 + 50 * n); omega⟩ rfl rfl hl.1 (Nat.le_of_ble_eq_true rfl) dX0_placerLoses_20 ⟨Nat.zero_le _, Nat.zero_le _⟩ (fun r2 H locs hrr2 X => ?_)
          obtain rfl : r2 = zb (qHas q5 (nI k)) := hrr2
          refine lv_if_ne (tgt := 54) hx hb dX0_placerLoses_23 (by decide) (fun c4 => ?_) (fun c4 => ?_)
          · have qc4 := c4
            have hf : qHas q5 (nI k) = true := zb_n0.mp c4
            refine lv_iinc (v := nI (k + 1)) (lv' := [(3, .int (nI (k + 1))), (0, .ref h), (1, .int (nI pp)), (2, .int (nI n))]) hx hb dX0_placerLoses_54 hl (k := 0) rfl (zi_inc k) (by decide) rfl (fun ls hl => ?_)
            refine lv_goto (tgt := 9) hx hb dX0_placerLoses_57 (by decide) ?_
            exact ih9 (k + 1) (by first | assumption | omega) (by first | exact allN_s hall (by unfold qPlF; rw [hf]; rfl) | exact allN_s hall (by unfold qPlF; rw [hf, hq]; rfl)) (by omega) H locs ls X (lv_sub hl [0, 1, 2, 3] rfl)
          · have qc4 := c4
            have hf : qHas q5 (nI k) = false := zb_0.mp c4
            refine lv_aload_n hx hb dX0_placerLoses_26 rfl (lv_at hl 1 rfl) ?_
            refine lv_iload_n hx hb dX0_placerLoses_27 rfl (lv_at hl 2 rfl) ?_
            refine lv_iload_n hx hb dX0_placerLoses_28 rfl (lv_at hl 0 rfl) ?_
            refine zcallVv (n := 2) (As := [.int (nI pp), .int (nI k)]) (rest := []) (ci := 0) (C := RX0) (T := TX0) (N := 11) Z X (c_X0_put l g bL h q0 q1 q2 q3 q4 q5 q6 q7 q8 q9 q10 (nI pp) (nI k)) gX0_placerLoses_X0_put rfl (by decide +kernel) ⟨by show _ ≤ (5 + 2 * n); omega, by show _ ≤ (175 + 50 * n); omega⟩ rfl rfl rfl rfl hl.1 (Nat.le_of_ble_eq_true rfl) dX0_placerLoses_29 ⟨Nat.zero_le _, Nat.zero_le _⟩ (fun ur4 H locs hrr4 X => ?_)
            obtain rfl : ur4 = (q0, q1, q2, q3, q4, (q5 ||| qBit (nI k)), (q6 ||| qBit (nI pp)), (qPutD q7 (nI pp) (nI k)), q8, q9, q10) := hrr4
            have X : zh g A (oQ h (q0, q1, q2, q3, q4, (q5 ||| qBit (nI k)), (q6 ||| qBit (nI pp)), (qPutD q7 (nI pp) (nI k)), q8, q9, q10)) s.heap H locs := X
            refine lv_aload_n hx hb dX0_placerLoses_32 rfl (lv_at hl 1 rfl) ?_
            refine lv_iload_n hx hb dX0_placerLoses_33 rfl (lv_at hl 3 rfl) ?_
            refine lv_iconst (v := nI 1) hx hb dX0_placerLoses_34 (by decide) ?_
            refine lv_isub hx hb dX0_placerLoses_35 ?_
            refine zrwi (y := nI (n - 1)) (pk_sub (by omega)) ?_
            refine zcallVi (n := 1) (As := [.int (nI (n - 1))]) (rest := []) (ci := 0) (C := RX0) (T := TX0) (N := 11) Z X (hsub (by omega) q0 q1 q2 q3 q4 (q5 ||| qBit (nI k)) (q6 ||| qBit (nI pp)) (qPutD q7 (nI pp) (nI k)) q8 q9 q10 (qInv_put hinv hpp (by omega))) gX0_placerLoses_X0_giverLoses rfl (by decide +kernel) ⟨by show _ ≤ (5 + 2 * n); omega, by show _ ≤ (175 + 50 * n); omega⟩ rfl rfl rfl rfl hl.1 (Nat.le_of_ble_eq_true rfl) dX0_placerLoses_36 ⟨Nat.zero_le _, Nat.zero_le _⟩ (fun r5 ur5 H locs hrr5 X => ?_)
            obtain ⟨rfl, rfl⟩ : ur5 = (q0, q1, q2, q3, q4, (q5 ||| qBit (nI k)), (q6 ||| qBit (nI pp)), (qPutD q7 (nI pp) (nI k)), q8, q9, q10) ∧ r5 = zb (qGl q0 (n - 1) (q5 ||| qBit (nI k)) (q6 ||| qBit (nI pp)) (qPutD q7 (nI pp) (nI k))) := hrr5
            have X : zh g A (oQ h (q0, q1, q2, q3, q4, (q5 ||| qBit (nI k)), (q6 ||| qBit (nI pp)), (qPutD q7 (nI pp) (nI k)), q8, q9, q10)) s.heap H locs := X
            refine lv_istore (lv' := [(4, .int (zb (qGl q0 (n - 1) (q5 ||| qBit (nI k)) (q6 ||| qBit (nI pp)) (qPutD q7 (nI pp) (nI k))))), (3, .int (nI k)), (0, .ref h), (1, .int (nI pp)), (2, .int (nI n))]) hx hb dX0_placerLoses_39 hl (by decide) rfl (fun ls hl => ?_)
            refine lv_aload_n hx hb dX0_placerLoses_41 rfl (lv_at hl 2 rfl) ?_
            refine lv_iload_n hx hb dX0_placerLoses_42 rfl (lv_at hl 3 rfl) ?_
            refine lv_iload_n hx hb dX0_placerLoses_43 rfl (lv_at hl 1 rfl) ?_
            refine zcallVv (n := 2) (As := [.int (nI pp), .int (nI k)]) (rest := []) (ci := 0) (C := RX0) (T := TX0) (N := 11) Z X (c_X0_lift l g bL h q0 q1 q2 q3 q4 (q5 ||| qBit (nI k)) (q6 ||| qBit (nI pp)) (qPutD q7 (nI pp) (nI k)) q8 q9 q10 (nI pp) (nI k)) gX0_placerLoses_X0_lift rfl (by decide +kernel) ⟨by show _ ≤ (5 + 2 * n); omega, by show _ ≤ (175 + 50 * n); omega⟩ rfl rfl rfl rfl hl.1 (Nat.le_of_ble_eq_true rfl) dX0_placerLoses_44 ⟨Nat.zero_le _, Nat.zero_le _⟩ (fun ur6 H locs hrr6 X => ?_)
            obtain rfl : ur6 = (q0, q1, q2, q3, q4, ((q5 ||| qBit (nI k)) &&& (qBit (nI k) ^^^ (-1 : Int32))), ((q6 ||| qBit (nI pp)) &&& (qBit (nI pp) ^^^ (-1 : Int32))), (qLiftD (qPutD q7 (nI pp) (nI k)) (nI k)), q8, q9, q10) := hrr6
            have X : zh g A (oQ h (q0, q1, q2, q3, q4, ((q5 ||| qBit (nI k)) &&& (qBit (nI k) ^^^ (-1 : Int32))), ((q6 ||| qBit (nI pp)) &&& (qBit (nI pp) ^^^ (-1 : Int32))), (qLiftD (qPutD q7 (nI pp) (nI k)) (nI k)), q8, q9, q10)) s.heap H locs := X
            have X : zh g A (oQ h (q0, q1, q2, q3, q4, q5, q6, q7, q8, q9, q10)) s.heap H locs := by rw [qOrAnd q5 (p := k) (by omega) hf, qOrAnd q6 hpp hu, qLiftPut q7 hpp (by omega) (hinv k (by omega) hf)] at X; exact X
            refine lv_iload hx hb dX0_placerLoses_47 (lv_at hl 0 rfl) ?_
            refine lv_if_ne (tgt := 54) hx hb dX0_placerLoses_49 (by decide) (fun c8 => ?_) (fun c8 => ?_)
            · have qc8 := c8
              have hq : qGl q0 (n - 1) (q5 ||| qBit (nI k)) (q6 ||| qBit (nI pp)) (qPutD q7 (nI pp) (nI k)) = true := zb_n0.mp c8
              refine lv_iinc (v := nI (k + 1)) (lv' := [(3, .int (nI (k + 1))), (4, .int (zb (qGl q0 (n - 1) (q5 ||| qBit (nI k)) (q6 ||| qBit (nI pp)) (qPutD q7 (nI pp) (nI k))))), (0, .ref h), (1, .int (nI pp)), (2, .int (nI n))]) hx hb dX0_placerLoses_54 hl (k := 1) rfl (zi_inc k) (by decide) rfl (fun ls hl => ?_)
              refine lv_goto (tgt := 9) hx hb dX0_placerLoses_57 (by decide) ?_
              exact ih9 (k + 1) (by first | assumption | omega) (by first | exact allN_s hall (by unfold qPlF; rw [hf]; rfl) | exact allN_s hall (by unfold qPlF; rw [hf, hq]; rfl)) (by omega) H locs ls X (lv_sub hl [0, 2, 3, 4] rfl)
            · have qc8 := c8
              have hq : qGl q0 (n - 1) (q5 ||| qBit (nI k)) (q6 ||| qBit (nI pp)) (qPutD q7 (nI pp) (nI k)) = false := zb_0.mp c8
              refine lv_iconst (v := (0 : Int32)) hx hb dX0_placerLoses_52 (by decide) ?_
              exact zreti Z hr hlk (q0, q1, q2, q3, q4, q5, q6, q7, q8, q9, q10) X dX0_placerLoses_53 rfl (⟨rfl, (zb_f0 (qPl_b (by omega) (allN_f (k := k) (by omega) (by unfold qPlF; rw [hf, hq]; rfl)))).symm⟩)
    exact cut9 17 0 (by first | assumption | omega) (rfl) (by omega) H locs ls X (lv_sub hl [0, 1, 2, 3] rfl)
  · have qc1 := c1
    have c1n : ¬ 2 ≤ n := zn_len (by omega) (by omega) c1
    refine lv_iconst (v := (0 : Int32)) hx hb dX0_placerLoses_5 (by decide) ?_
    exact zreti Z hr hlk (q0, q1, q2, q3, q4, q5, q6, q7, q8, q9, q10) X dX0_placerLoses_6 rfl (⟨rfl, (zb_f0 (qPl_n (by omega))).symm⟩)
end
section
/-! the class: the worth, the best -/
theorem c_search (l : Launch) (g : zG) (bL h : Nat) : ∀ n, n ≤ 1000 → K_GW l g bL h n ∧ K_GL l g bL h n ∧ K_PW l g bL h n ∧ K_PL l g bL h n := by
  intro n
  induction n with
  | zero =>
    intro _
    have hpw : K_PW l g bL h 0 := fun q0 q1 q2 q3 q4 q5 q6 q7 q8 q9 q10 pp hpp hu hinv => c_X0_placerWinsLater l g bL h q0 q1 q2 q3 q4 q5 q6 q7 q8 q9 q10 0 pp (by decide) hpp hu hinv (fun q => absurd q (by decide))
    have hpl : K_PL l g bL h 0 := fun q0 q1 q2 q3 q4 q5 q6 q7 q8 q9 q10 pp hpp hu hinv => c_X0_placerLoses l g bL h q0 q1 q2 q3 q4 q5 q6 q7 q8 q9 q10 0 pp (by decide) hpp hu hinv (fun q => absurd q (by decide))
    exact ⟨fun q0 q1 q2 q3 q4 q5 q6 q7 q8 q9 q10 hinv => c_X0_giverWins l g bL h q0 q1 q2 q3 q4 q5 q6 q7 q8 q9 q10 0 (by decide) hinv hpl, fun q0 q1 q2 q3 q4 q5 q6 q7 q8 q9 q10 hinv => c_X0_giverLoses l g bL h q0 q1 q2 q3 q4 q5 q6 q7 q8 q9 q10 0 (by decide) hinv hpw, hpw, hpl⟩
  | succ n ih =>
    intro hn
    obtain ⟨h1, h2, -, -⟩ := ih (by omega)
    have hpw : K_PW l g bL h (n + 1) := fun q0 q1 q2 q3 q4 q5 q6 q7 q8 q9 q10 pp hpp hu hinv => c_X0_placerWinsLater l g bL h q0 q1 q2 q3 q4 q5 q6 q7 q8 q9 q10 (n + 1) pp hn hpp hu hinv (fun _ => h1)
    have hpl : K_PL l g bL h (n + 1) := fun q0 q1 q2 q3 q4 q5 q6 q7 q8 q9 q10 pp hpp hu hinv => c_X0_placerLoses l g bL h q0 q1 q2 q3 q4 q5 q6 q7 q8 q9 q10 (n + 1) pp hn hpp hu hinv (fun _ => h2)
    exact ⟨fun q0 q1 q2 q3 q4 q5 q6 q7 q8 q9 q10 hinv => c_X0_giverWins l g bL h q0 q1 q2 q3 q4 q5 q6 q7 q8 q9 q10 (n + 1) hn hinv hpl, fun q0 q1 q2 q3 q4 q5 q6 q7 q8 q9 q10 hinv => c_X0_giverLoses l g bL h q0 q1 q2 q3 q4 q5 q6 q7 q8 q9 q10 (n + 1) hn hinv hpw, hpw, hpl⟩
theorem inw_X0_worthToGive : ∀ w ∈ wsX00, w ∈ wsX0_worthToGive := by decide +kernel
def P_X0_worthToGive (q0 q1 q2 q3 q4 q5 q6 : Int32) (q7 : Int64) (q8 q9 : Int32) (q10 : Int64) (n : Nat) : Int32 → QS → Prop := fun r u => u = (q0, q1, q2, q3, q4, q5, q6, q7, q8, q9, q10) ∧ r = qWG q0 n q5 q6 q7
set_option maxHeartbeats 4000000 in
set_option maxRecDepth 100000 in
theorem c_X0_worthToGive (l : Launch) (g : zG) (bL h : Nat) (q0 q1 q2 q3 q4 q5 q6 : Int32) (q7 : Int64) (q8 q9 : Int32) (q10 : Int64)  (n : Nat) (hn : n ≤ 1000) (hinv : qInv q5 q7) : zM l yX0_worthToGive wsX0_worthToGive (7 + 2 * n) (250 + 50 * n) g [.ref h, .int (nI n)] (oQ h (q0, q1, q2, q3, q4, q5, q6, q7, q8, q9, q10)) (zEL bL) (zQi g (P_X0_worthToGive q0 q1 q2 q3 q4 q5 q6 q7 q8 q9 q10 n) (oQ h)) := by
  refine zstart (cc := cX0_worthToGive) (maxL := 2) (ret := (some .int)) (own := RX0) rfl (by decide) rfl zStL (Nat.le_of_ble_eq_true rfl) ?_
  intro p e s m below meth c A Z hr hlk H locs X ls hl
  have hx := Z.1.1
  have hb := Z.1.2.1
  have hin : ∀ w ∈ wsX00, w ∈ wsX0_worthToGive := inw_X0_worthToGive
  have hl : lv_has ls 2 [(0, .ref h), (1, .int (nI n))] := hl
  have X : zh g A (oQ h (q0, q1, q2, q3, q4, q5, q6, q7, q8, q9, q10)) s.heap H locs := X
  have hcg := c_search l g bL h n hn
  refine lv_aload_n hx hb dX0_worthToGive_0 rfl (lv_at hl 0 rfl) ?_
  refine lv_iload_n hx hb dX0_worthToGive_1 rfl (lv_at hl 1 rfl) ?_
  refine zcallVi (n := 1) (As := [.int (nI n)]) (rest := []) (ci := 0) (C := RX0) (T := TX0) (N := 11) Z X (hcg.1 q0 q1 q2 q3 q4 q5 q6 q7 q8 q9 q10 hinv) gX0_worthToGive_X0_giverWins rfl (by decide +kernel) ⟨by show _ ≤ (7 + 2 * n); omega, by show _ ≤ (250 + 50 * n); omega⟩ rfl rfl rfl rfl hl.1 (Nat.le_of_ble_eq_true rfl) dX0_worthToGive_2 ⟨Nat.zero_le _, Nat.zero_le _⟩ (fun r0 ur0 H locs hrr0 X => ?_)
  obtain ⟨rfl, rfl⟩ : ur0 = (q0, q1, q2, q3, q4, q5, q6, q7, q8, q9, q10) ∧ r0 = zb (qGw q0 n q5 q6 q7) := hrr0
  have X : zh g A (oQ h (q0, q1, q2, q3, q4, q5, q6, q7, q8, q9, q10)) s.heap H locs := X
  refine lv_if_eq (tgt := 10) hx hb dX0_worthToGive_5 (by decide) (fun c2 => ?_) (fun c2 => ?_)
  · have qc2 := c2
    have h1 : qGw q0 n q5 q6 q7 = false := zb_0.mp c2
    refine lv_aload_n hx hb dX0_worthToGive_10 rfl (lv_at hl 0 rfl) ?_
    refine lv_iload_n hx hb dX0_worthToGive_11 rfl (lv_at hl 1 rfl) ?_
    refine zcallVi (n := 1) (As := [.int (nI n)]) (rest := []) (ci := 0) (C := RX0) (T := TX0) (N := 11) Z X (hcg.2.1 q0 q1 q2 q3 q4 q5 q6 q7 q8 q9 q10 hinv) gX0_worthToGive_X0_giverLoses rfl (by decide +kernel) ⟨by show _ ≤ (7 + 2 * n); omega, by show _ ≤ (250 + 50 * n); omega⟩ rfl rfl rfl rfl hl.1 (Nat.le_of_ble_eq_true rfl) dX0_worthToGive_12 ⟨Nat.zero_le _, Nat.zero_le _⟩ (fun r2 ur2 H locs hrr2 X => ?_)
    obtain ⟨rfl, rfl⟩ : ur2 = (q0, q1, q2, q3, q4, q5, q6, q7, q8, q9, q10) ∧ r2 = zb (qGl q0 n q5 q6 q7) := hrr2
    have X : zh g A (oQ h (q0, q1, q2, q3, q4, q5, q6, q7, q8, q9, q10)) s.heap H locs := X
    refine lv_if_eq (tgt := 22) hx hb dX0_worthToGive_15 (by decide) (fun c4 => ?_) (fun c4 => ?_)
    · have qc4 := c4
      have h2 : qGl q0 n q5 q6 q7 = false := zb_0.mp c4
      refine lv_iconst (v := (0 : Int32)) hx hb dX0_worthToGive_22 (by decide) ?_
      exact zreti Z hr hlk (q0, q1, q2, q3, q4, q5, q6, q7, q8, q9, q10) X dX0_worthToGive_23 rfl (⟨rfl, by simp only [qWG, h1, h2, decide_true, decide_false, Bool.and_true, Bool.and_false, Bool.true_and, Bool.false_and, not_true_eq_false, not_false_eq_true, Bool.not_true, Bool.not_false, if_true, if_false, and_true, true_and, and_false, false_and, Bool.false_eq_true, Bool.true_eq_false, eq_self]⟩)
    · have qc4 := c4
      have h2 : qGl q0 n q5 q6 q7 = true := zb_n0.mp c4
      refine lv_iconst (v := (-1 : Int32)) hx hb dX0_worthToGive_18 (by decide) ?_
      refine lv_goto (tgt := 23) hx hb dX0_worthToGive_19 (by decide) ?_
      exact zreti Z hr hlk (q0, q1, q2, q3, q4, q5, q6, q7, q8, q9, q10) X dX0_worthToGive_23 rfl (⟨rfl, by simp only [qWG, h1, h2, decide_true, decide_false, Bool.and_true, Bool.and_false, Bool.true_and, Bool.false_and, not_true_eq_false, not_false_eq_true, Bool.not_true, Bool.not_false, if_true, if_false, and_true, true_and, and_false, false_and, Bool.false_eq_true, Bool.true_eq_false, eq_self]⟩)
  · have qc2 := c2
    have h1 : qGw q0 n q5 q6 q7 = true := zb_n0.mp c2
    refine lv_iconst (v := (1 : Int32)) hx hb dX0_worthToGive_8 (by decide) ?_
    exact zreti Z hr hlk (q0, q1, q2, q3, q4, q5, q6, q7, q8, q9, q10) X dX0_worthToGive_9 rfl (⟨rfl, by simp only [qWG, h1, decide_true, decide_false, Bool.and_true, Bool.and_false, Bool.true_and, Bool.false_and, not_true_eq_false, not_false_eq_true, Bool.not_true, Bool.not_false, if_true, if_false, and_true, true_and, and_false, false_and, Bool.false_eq_true, Bool.true_eq_false, eq_self]⟩)
theorem inw_X0_worthToPlace : ∀ w ∈ wsX00, w ∈ wsX0_worthToPlace := by decide +kernel
def P_X0_worthToPlace (q0 q1 q2 q3 q4 q5 q6 : Int32) (q7 : Int64) (q8 q9 : Int32) (q10 : Int64) (n pp : Nat) : Int32 → QS → Prop := fun r u => u = (q0, q1, q2, q3, q4, q5, q6, q7, q8, q9, q10) ∧ r = qWP q0 n q5 q6 q7 pp
set_option maxHeartbeats 4000000 in
set_option maxRecDepth 100000 in
theorem c_X0_worthToPlace (l : Launch) (g : zG) (bL h : Nat) (q0 q1 q2 q3 q4 q5 q6 : Int32) (q7 : Int64) (q8 q9 : Int32) (q10 : Int64)  (n pp : Nat) (hn : n ≤ 1000) (hpp : pp < 16) (hu : qHas q6 (nI pp) = false) (hinv : qInv q5 q7) : zM l yX0_worthToPlace wsX0_worthToPlace (7 + 2 * n) (250 + 50 * n) g [.ref h, .int (nI pp), .int (nI n)] (oQ h (q0, q1, q2, q3, q4, q5, q6, q7, q8, q9, q10)) (zEL bL) (zQi g (P_X0_worthToPlace q0 q1 q2 q3 q4 q5 q6 q7 q8 q9 q10 n pp) (oQ h)) := by
  refine zstart (cc := cX0_worthToPlace) (maxL := 3) (ret := (some .int)) (own := RX0) rfl (by decide) rfl zStL (Nat.le_of_ble_eq_true rfl) ?_
  intro p e s m below meth c A Z hr hlk H locs X ls hl
  have hx := Z.1.1
  have hb := Z.1.2.1
  have hin : ∀ w ∈ wsX00, w ∈ wsX0_worthToPlace := inw_X0_worthToPlace
  have hl : lv_has ls 3 [(0, .ref h), (1, .int (nI pp)), (2, .int (nI n))] := hl
  have X : zh g A (oQ h (q0, q1, q2, q3, q4, q5, q6, q7, q8, q9, q10)) s.heap H locs := X
  have hcg := c_search l g bL h n hn
  refine lv_aload_n hx hb dX0_worthToPlace_0 rfl (lv_at hl 0 rfl) ?_
  refine lv_iload_n hx hb dX0_worthToPlace_1 rfl (lv_at hl 1 rfl) ?_
  refine zcallVi (n := 1) (As := [.int (nI pp)]) (rest := []) (ci := 0) (C := RX0) (T := TX0) (N := 11) Z X (c_X0_winningSquares l g bL h q0 q1 q2 q3 q4 q5 q6 q7 q8 q9 q10 (nI pp)) gX0_worthToPlace_X0_winningSquares rfl (by decide +kernel) ⟨by show _ ≤ (7 + 2 * n); omega, by show _ ≤ (250 + 50 * n); omega⟩ rfl rfl rfl rfl hl.1 (Nat.le_of_ble_eq_true rfl) dX0_worthToPlace_2 ⟨Nat.zero_le _, Nat.zero_le _⟩ (fun r0 ur0 H locs hrr0 X => ?_)
  obtain ⟨rfl, rfl⟩ : ur0 = (q0, q1, q2, q3, q4, q5, q6, q7, q8, q9, q10) ∧ r0 = qWin q5 q7 q0 (nI pp) := hrr0
  have X : zh g A (oQ h (q0, q1, q2, q3, q4, q5, q6, q7, q8, q9, q10)) s.heap H locs := X
  refine lv_if_ne (tgt := 17) hx hb dX0_worthToPlace_5 (by decide) (fun c2 => ?_) (fun c2 => ?_)
  · have qc2 := c2
    refine lv_iconst (v := (1 : Int32)) hx hb dX0_worthToPlace_17 (by decide) ?_
    exact zreti Z hr hlk (q0, q1, q2, q3, q4, q5, q6, q7, q8, q9, q10) X dX0_worthToPlace_18 rfl (⟨rfl, by simp only [qWP, c2, or_true, true_or, or_false, false_or, decide_true, decide_false, Bool.and_true, Bool.and_false, Bool.true_and, Bool.false_and, not_true_eq_false, not_false_eq_true, Bool.not_true, Bool.not_false, if_true, if_false, and_true, true_and, and_false, false_and, Bool.false_eq_true, Bool.true_eq_false, eq_self]⟩)
  · have qc2 := c2
    refine lv_aload_n hx hb dX0_worthToPlace_8 rfl (lv_at hl 0 rfl) ?_
    refine lv_iload_n hx hb dX0_worthToPlace_9 rfl (lv_at hl 1 rfl) ?_
    refine lv_iload_n hx hb dX0_worthToPlace_10 rfl (lv_at hl 2 rfl) ?_
    refine zcallVi (n := 2) (As := [.int (nI pp), .int (nI n)]) (rest := []) (ci := 0) (C := RX0) (T := TX0) (N := 11) Z X (hcg.2.2.1 q0 q1 q2 q3 q4 q5 q6 q7 q8 q9 q10 pp hpp hu hinv) gX0_worthToPlace_X0_placerWinsLater rfl (by decide +kernel) ⟨by show _ ≤ (7 + 2 * n); omega, by show _ ≤ (250 + 50 * n); omega⟩ rfl rfl rfl rfl hl.1 (Nat.le_of_ble_eq_true rfl) dX0_worthToPlace_11 ⟨Nat.zero_le _, Nat.zero_le _⟩ (fun r2 ur2 H locs hrr2 X => ?_)
    obtain ⟨rfl, rfl⟩ : ur2 = (q0, q1, q2, q3, q4, q5, q6, q7, q8, q9, q10) ∧ r2 = zb (qPw q0 n q5 q6 q7 pp) := hrr2
    have X : zh g A (oQ h (q0, q1, q2, q3, q4, q5, q6, q7, q8, q9, q10)) s.heap H locs := X
    refine lv_if_eq (tgt := 19) hx hb dX0_worthToPlace_14 (by decide) (fun c4 => ?_) (fun c4 => ?_)
    · have qc4 := c4
      have h1 : qPw q0 n q5 q6 q7 pp = false := zb_0.mp c4
      refine lv_aload_n hx hb dX0_worthToPlace_19 rfl (lv_at hl 0 rfl) ?_
      refine lv_iload_n hx hb dX0_worthToPlace_20 rfl (lv_at hl 1 rfl) ?_
      refine lv_iload_n hx hb dX0_worthToPlace_21 rfl (lv_at hl 2 rfl) ?_
      refine zcallVi (n := 2) (As := [.int (nI pp), .int (nI n)]) (rest := []) (ci := 0) (C := RX0) (T := TX0) (N := 11) Z X (hcg.2.2.2 q0 q1 q2 q3 q4 q5 q6 q7 q8 q9 q10 pp hpp hu hinv) gX0_worthToPlace_X0_placerLoses rfl (by decide +kernel) ⟨by show _ ≤ (7 + 2 * n); omega, by show _ ≤ (250 + 50 * n); omega⟩ rfl rfl rfl rfl hl.1 (Nat.le_of_ble_eq_true rfl) dX0_worthToPlace_22 ⟨Nat.zero_le _, Nat.zero_le _⟩ (fun r4 ur4 H locs hrr4 X => ?_)
      obtain ⟨rfl, rfl⟩ : ur4 = (q0, q1, q2, q3, q4, q5, q6, q7, q8, q9, q10) ∧ r4 = zb (qPl q0 n q5 q6 q7 pp) := hrr4
      have X : zh g A (oQ h (q0, q1, q2, q3, q4, q5, q6, q7, q8, q9, q10)) s.heap H locs := X
      refine lv_if_eq (tgt := 32) hx hb dX0_worthToPlace_25 (by decide) (fun c6 => ?_) (fun c6 => ?_)
      · have qc6 := c6
        have h2 : qPl q0 n q5 q6 q7 pp = false := zb_0.mp c6
        refine lv_iconst (v := (0 : Int32)) hx hb dX0_worthToPlace_32 (by decide) ?_
        exact zreti Z hr hlk (q0, q1, q2, q3, q4, q5, q6, q7, q8, q9, q10) X dX0_worthToPlace_33 rfl (⟨rfl, by simp only [qWP, c2, h1, h2, or_true, true_or, or_false, false_or, decide_true, decide_false, Bool.and_true, Bool.and_false, Bool.true_and, Bool.false_and, not_true_eq_false, not_false_eq_true, Bool.not_true, Bool.not_false, if_true, if_false, and_true, true_and, and_false, false_and, Bool.false_eq_true, Bool.true_eq_false, eq_self]⟩)
      · have qc6 := c6
        have h2 : qPl q0 n q5 q6 q7 pp = true := zb_n0.mp c6
        refine lv_iconst (v := (-1 : Int32)) hx hb dX0_worthToPlace_28 (by decide) ?_
        refine lv_goto (tgt := 33) hx hb dX0_worthToPlace_29 (by decide) ?_
        exact zreti Z hr hlk (q0, q1, q2, q3, q4, q5, q6, q7, q8, q9, q10) X dX0_worthToPlace_33 rfl (⟨rfl, by simp only [qWP, c2, h1, h2, or_true, true_or, or_false, false_or, decide_true, decide_false, Bool.and_true, Bool.and_false, Bool.true_and, Bool.false_and, not_true_eq_false, not_false_eq_true, Bool.not_true, Bool.not_false, if_true, if_false, and_true, true_and, and_false, false_and, Bool.false_eq_true, Bool.true_eq_false, eq_self]⟩)
    · have qc4 := c4
      have h1 : qPw q0 n q5 q6 q7 pp = true := zb_n0.mp c4
      refine lv_iconst (v := (1 : Int32)) hx hb dX0_worthToPlace_17 (by decide) ?_
      exact zreti Z hr hlk (q0, q1, q2, q3, q4, q5, q6, q7, q8, q9, q10) X dX0_worthToPlace_18 rfl (⟨rfl, by simp only [qWP, c2, h1, or_true, true_or, or_false, false_or, decide_true, decide_false, Bool.and_true, Bool.and_false, Bool.true_and, Bool.false_and, not_true_eq_false, not_false_eq_true, Bool.not_true, Bool.not_false, if_true, if_false, and_true, true_and, and_false, false_and, Bool.false_eq_true, Bool.true_eq_false, eq_self]⟩)
theorem inw_X0_worthAfterPlacing : ∀ w ∈ wsX00, w ∈ wsX0_worthAfterPlacing := by decide +kernel
theorem lk_X0_worthAfterPlacing_9 : Cond.fieldLink RX0 9 "Quarterboard" "held" "I" ∈ wsX0_worthAfterPlacing := by decide +kernel
def P_X0_worthAfterPlacing (q0 q1 q2 : Int32) (hp : Nat) (q4 q5 q6 : Int32) (q7 : Int64) (q8 q9 : Int32) (q10 : Int64) (n sq : Nat) : Int32 → QS → Prop := fun r u => u = (q0, q1, q2, nI hp, q4, q5, q6, q7, q8, q9, q10) ∧ r = qWA q0 n q5 q6 q7 hp sq
set_option maxHeartbeats 4000000 in
set_option maxRecDepth 100000 in
theorem c_X0_worthAfterPlacing (l : Launch) (g : zG) (bL h : Nat) (q0 q1 q2 : Int32) (hp : Nat) (q4 q5 q6 : Int32) (q7 : Int64) (q8 q9 : Int32) (q10 : Int64)  (n sq : Nat) (hn1 : 1 ≤ n) (hn : n ≤ 1000) (hpp : hp < 16) (hu : qHas q6 (nI hp) = false) (hsq : sq < 16) (hf : qHas q5 (nI sq) = false) (hinv : qInv q5 q7) : zM l yX0_worthAfterPlacing wsX0_worthAfterPlacing (8 + 2 * n) (300 + 50 * n) g [.ref h, .int (nI sq), .int (nI n)] (oQ h (q0, q1, q2, nI hp, q4, q5, q6, q7, q8, q9, q10)) (zEL bL) (zQi g (P_X0_worthAfterPlacing q0 q1 q2 hp q4 q5 q6 q7 q8 q9 q10 n sq) (oQ h)) := by
  refine zstart (cc := cX0_worthAfterPlacing) (maxL := 4) (ret := (some .int)) (own := RX0) rfl (by decide) rfl zStL (Nat.le_of_ble_eq_true rfl) ?_
  intro p e s m below meth c A Z hr hlk H locs X ls hl
  have hx := Z.1.1
  have hb := Z.1.2.1
  have hin : ∀ w ∈ wsX00, w ∈ wsX0_worthAfterPlacing := inw_X0_worthAfterPlacing
  have hl : lv_has ls 4 [(0, .ref h), (1, .int (nI sq)), (2, .int (nI n))] := hl
  have X : zh g A (oQ h (q0, q1, q2, nI hp, q4, q5, q6, q7, q8, q9, q10)) s.heap H locs := X
  refine lv_aload_n hx hb dX0_worthAfterPlacing_0 rfl (lv_at hl 0 rfl) ?_
  refine lv_aload_n hx hb dX0_worthAfterPlacing_1 rfl (lv_at hl 0 rfl) ?_
  refine zget (fs := [.int q0, .int q1, .int q2, .int (nI hp), .int q4, .int q5, .int q6, .long q7, .int q8, .int q9, .long q10]) (v := .int (nI hp)) Z hin X (ci := 0) (C := RX0) (T := TX0) (N := 11) rfl rfl 3 (by decide) lk_X0_worthAfterPlacing_9 rfl dX0_worthAfterPlacing_2 ?_
  refine zcallVi (n := 1) (As := [.int (nI hp)]) (rest := []) (ci := 0) (C := RX0) (T := TX0) (N := 11) Z X (c_X0_winningSquares l g bL h q0 q1 q2 (nI hp) q4 q5 q6 q7 q8 q9 q10 (nI hp)) gX0_worthAfterPlacing_X0_winningSquares rfl (by decide +kernel) ⟨by show _ ≤ (8 + 2 * n); omega, by show _ ≤ (300 + 50 * n); omega⟩ rfl rfl rfl rfl hl.1 (Nat.le_of_ble_eq_true rfl) dX0_worthAfterPlacing_5 ⟨Nat.zero_le _, Nat.zero_le _⟩ (fun r0 ur0 H locs hrr0 X => ?_)
  obtain ⟨rfl, rfl⟩ : ur0 = (q0, q1, q2, nI hp, q4, q5, q6, q7, q8, q9, q10) ∧ r0 = qWin q5 q7 q0 (nI hp) := hrr0
  have X : zh g A (oQ h (q0, q1, q2, nI hp, q4, q5, q6, q7, q8, q9, q10)) s.heap H locs := X
  refine lv_iload_n hx hb dX0_worthAfterPlacing_8 rfl (lv_at hl 1 rfl) ?_
  refine zcallSi (n := 2) (As := [.int (qWin q5 q7 q0 (nI hp)), .int (nI sq)]) (rest := []) Z X (c_X0_has l g (qWin q5 q7 q0 (nI hp)) (nI sq)) gX0_worthAfterPlacing_X0_has rfl (by decide +kernel) ⟨by show _ ≤ (8 + 2 * n); omega, by show _ ≤ (300 + 50 * n); omega⟩ rfl rfl hl.1 (Nat.le_of_ble_eq_true rfl) dX0_worthAfterPlacing_9 ⟨Nat.zero_le _, Nat.zero_le _⟩ (fun r1 H locs hrr1 X => ?_)
  obtain rfl : r1 = zb (qHas (qWin q5 q7 q0 (nI hp)) (nI sq)) := hrr1
  refine lv_if_eq (tgt := 17) hx hb dX0_worthAfterPlacing_12 (by decide) (fun c3 => ?_) (fun c3 => ?_)
  · have qc3 := c3
    have h1 : qHas (qWin q5 q7 q0 (nI hp)) (nI sq) = false := zb_0.mp c3
    refine lv_aload_n hx hb dX0_worthAfterPlacing_17 rfl (lv_at hl 0 rfl) ?_
    refine lv_aload_n hx hb dX0_worthAfterPlacing_18 rfl (lv_at hl 0 rfl) ?_
    refine zget (fs := [.int q0, .int q1, .int q2, .int (nI hp), .int q4, .int q5, .int q6, .long q7, .int q8, .int q9, .long q10]) (v := .int (nI hp)) Z hin X (ci := 0) (C := RX0) (T := TX0) (N := 11) rfl rfl 3 (by decide) lk_X0_worthAfterPlacing_9 rfl dX0_worthAfterPlacing_19 ?_
    refine lv_iload_n hx hb dX0_worthAfterPlacing_22 rfl (lv_at hl 1 rfl) ?_
    refine zcallVv (n := 2) (As := [.int (nI hp), .int (nI sq)]) (rest := []) (ci := 0) (C := RX0) (T := TX0) (N := 11) Z X (c_X0_put l g bL h q0 q1 q2 (nI hp) q4 q5 q6 q7 q8 q9 q10 (nI hp) (nI sq)) gX0_worthAfterPlacing_X0_put rfl (by decide +kernel) ⟨by show _ ≤ (8 + 2 * n); omega, by show _ ≤ (300 + 50 * n); omega⟩ rfl rfl rfl rfl hl.1 (Nat.le_of_ble_eq_true rfl) dX0_worthAfterPlacing_23 ⟨Nat.zero_le _, Nat.zero_le _⟩ (fun ur3 H locs hrr3 X => ?_)
    obtain rfl : ur3 = (q0, q1, q2, (nI hp), q4, (q5 ||| qBit (nI sq)), (q6 ||| qBit (nI hp)), (qPutD q7 (nI hp) (nI sq)), q8, q9, q10) := hrr3
    have X : zh g A (oQ h (q0, q1, q2, (nI hp), q4, (q5 ||| qBit (nI sq)), (q6 ||| qBit (nI hp)), (qPutD q7 (nI hp) (nI sq)), q8, q9, q10)) s.heap H locs := X
    refine lv_aload_n hx hb dX0_worthAfterPlacing_26 rfl (lv_at hl 0 rfl) ?_
    refine lv_iload_n hx hb dX0_worthAfterPlacing_27 rfl (lv_at hl 2 rfl) ?_
    refine lv_iconst (v := nI 1) hx hb dX0_worthAfterPlacing_28 (by decide) ?_
    refine lv_isub hx hb dX0_worthAfterPlacing_29 ?_
    refine zrwi (y := nI (n - 1)) (pk_sub (by omega)) ?_
    refine zcallVi (n := 1) (As := [.int (nI (n - 1))]) (rest := []) (ci := 0) (C := RX0) (T := TX0) (N := 11) Z X (c_X0_worthToGive l g bL h q0 q1 q2 (nI hp) q4 (q5 ||| qBit (nI sq)) (q6 ||| qBit (nI hp)) (qPutD q7 (nI hp) (nI sq)) q8 q9 q10 (n - 1) (by omega) (qInv_put hinv hpp hsq)) gX0_worthAfterPlacing_X0_worthToGive rfl (by decide +kernel) ⟨by show _ ≤ (8 + 2 * n); omega, by show _ ≤ (300 + 50 * n); omega⟩ rfl rfl rfl rfl hl.1 (Nat.le_of_ble_eq_true rfl) dX0_worthAfterPlacing_30 ⟨Nat.zero_le _, Nat.zero_le _⟩ (fun r4 ur4 H locs hrr4 X => ?_)
    obtain ⟨rfl, rfl⟩ : ur4 = (q0, q1, q2, (nI hp), q4, (q5 ||| qBit (nI sq)), (q6 ||| qBit (nI hp)), (qPutD q7 (nI hp) (nI sq)), q8, q9, q10) ∧ r4 = qWG q0 (n - 1) (q5 ||| qBit (nI sq)) (q6 ||| qBit (nI hp)) (qPutD q7 (nI hp) (nI sq)) := hrr4
    have X : zh g A (oQ h (q0, q1, q2, (nI hp), q4, (q5 ||| qBit (nI sq)), (q6 ||| qBit (nI hp)), (qPutD q7 (nI hp) (nI sq)), q8, q9, q10)) s.heap H locs := X
    refine lv_istore_n (lv' := [(3, .int (qWG q0 (n - 1) (q5 ||| qBit (nI sq)) (q6 ||| qBit (nI hp)) (qPutD q7 (nI hp) (nI sq)))), (0, .ref h), (1, .int (nI sq)), (2, .int (nI n))]) hx hb dX0_worthAfterPlacing_33 rfl hl (by decide) rfl (fun ls hl => ?_)
    refine lv_aload_n hx hb dX0_worthAfterPlacing_34 rfl (lv_at hl 1 rfl) ?_
    refine lv_aload_n hx hb dX0_worthAfterPlacing_35 rfl (lv_at hl 1 rfl) ?_
    refine zget (fs := [.int q0, .int q1, .int q2, .int (nI hp), .int q4, .int (q5 ||| qBit (nI sq)), .int (q6 ||| qBit (nI hp)), .long (qPutD q7 (nI hp) (nI sq)), .int q8, .int q9, .long q10]) (v := .int (nI hp)) Z hin X (ci := 0) (C := RX0) (T := TX0) (N := 11) rfl rfl 3 (by decide) lk_X0_worthAfterPlacing_9 rfl dX0_worthAfterPlacing_36 ?_
    refine lv_iload_n hx hb dX0_worthAfterPlacing_39 rfl (lv_at hl 2 rfl) ?_
    refine zcallVv (n := 2) (As := [.int (nI hp), .int (nI sq)]) (rest := []) (ci := 0) (C := RX0) (T := TX0) (N := 11) Z X (c_X0_lift l g bL h q0 q1 q2 (nI hp) q4 (q5 ||| qBit (nI sq)) (q6 ||| qBit (nI hp)) (qPutD q7 (nI hp) (nI sq)) q8 q9 q10 (nI hp) (nI sq)) gX0_worthAfterPlacing_X0_lift rfl (by decide +kernel) ⟨by show _ ≤ (8 + 2 * n); omega, by show _ ≤ (300 + 50 * n); omega⟩ rfl rfl rfl rfl hl.1 (Nat.le_of_ble_eq_true rfl) dX0_worthAfterPlacing_40 ⟨Nat.zero_le _, Nat.zero_le _⟩ (fun ur5 H locs hrr5 X => ?_)
    obtain rfl : ur5 = (q0, q1, q2, (nI hp), q4, ((q5 ||| qBit (nI sq)) &&& (qBit (nI sq) ^^^ (-1 : Int32))), ((q6 ||| qBit (nI hp)) &&& (qBit (nI hp) ^^^ (-1 : Int32))), (qLiftD (qPutD q7 (nI hp) (nI sq)) (nI sq)), q8, q9, q10) := hrr5
    have X : zh g A (oQ h (q0, q1, q2, (nI hp), q4, ((q5 ||| qBit (nI sq)) &&& (qBit (nI sq) ^^^ (-1 : Int32))), ((q6 ||| qBit (nI hp)) &&& (qBit (nI hp) ^^^ (-1 : Int32))), (qLiftD (qPutD q7 (nI hp) (nI sq)) (nI sq)), q8, q9, q10)) s.heap H locs := X
    have X : zh g A (oQ h (q0, q1, q2, nI hp, q4, q5, q6, q7, q8, q9, q10)) s.heap H locs := by rw [qOrAnd q5 (p := sq) hsq hf, qOrAnd q6 hpp hu, qLiftPut q7 hpp hsq (hinv sq hsq hf)] at X; exact X
    refine lv_iload_n hx hb dX0_worthAfterPlacing_43 rfl (lv_at hl 0 rfl) ?_
    exact zreti Z hr hlk (q0, q1, q2, nI hp, q4, q5, q6, q7, q8, q9, q10) X dX0_worthAfterPlacing_44 rfl (⟨rfl, by simp only [qWA, h1, decide_true, decide_false, Bool.and_true, Bool.and_false, Bool.true_and, Bool.false_and, not_true_eq_false, not_false_eq_true, Bool.not_true, Bool.not_false, if_true, if_false, and_true, true_and, and_false, false_and, Bool.false_eq_true, Bool.true_eq_false, eq_self]⟩)
  · have qc3 := c3
    have h1 : qHas (qWin q5 q7 q0 (nI hp)) (nI sq) = true := zb_n0.mp c3
    refine lv_iconst (v := (1 : Int32)) hx hb dX0_worthAfterPlacing_15 (by decide) ?_
    exact zreti Z hr hlk (q0, q1, q2, nI hp, q4, q5, q6, q7, q8, q9, q10) X dX0_worthAfterPlacing_16 rfl (⟨rfl, by simp only [qWA, h1, decide_true, decide_false, Bool.and_true, Bool.and_false, Bool.true_and, Bool.false_and, not_true_eq_false, not_false_eq_true, Bool.not_true, Bool.not_false, if_true, if_false, and_true, true_and, and_false, false_and, Bool.false_eq_true, Bool.true_eq_false, eq_self]⟩)
theorem inw_X0_bestPiece : ∀ w ∈ wsX00, w ∈ wsX0_bestPiece := by decide +kernel
theorem lk_X0_bestPiece_35 : Cond.fieldLink RX0 35 "Quarterboard" "used" "I" ∈ wsX0_bestPiece := by decide +kernel
def P_X0_bestPiece (q0 q1 q2 q3 q4 q5 q6 : Int32) (q7 : Int64) (q8 q9 : Int32) (q10 : Int64) (n : Nat) : Int32 → QS → Prop := fun r u => u = (q0, q1, q2, q3, q4, q5, q6, q7, q8, q9, q10) ∧ r = nI (qBP q0 n q5 q6 q7)
set_option maxHeartbeats 4000000 in
set_option maxRecDepth 100000 in
theorem c_X0_bestPiece (l : Launch) (g : zG) (bL h : Nat) (q0 q1 q2 q3 q4 q5 q6 : Int32) (q7 : Int64) (q8 q9 : Int32) (q10 : Int64)  (n : Nat) (hn : n ≤ 1000) (hinv : qInv q5 q7) : zM l yX0_bestPiece wsX0_bestPiece (8 + 2 * n) (300 + 50 * n) g [.ref h, .int (nI n)] (oQ h (q0, q1, q2, q3, q4, q5, q6, q7, q8, q9, q10)) (zEL bL) (zQi g (P_X0_bestPiece q0 q1 q2 q3 q4 q5 q6 q7 q8 q9 q10 n) (oQ h)) := by
  refine zstart (cc := cX0_bestPiece) (maxL := 4) (ret := (some .int)) (own := RX0) rfl (by decide) rfl zStL (Nat.le_of_ble_eq_true rfl) ?_
  intro p e s m below meth c A Z hr hlk H locs X ls hl
  have hx := Z.1.1
  have hb := Z.1.2.1
  have hin : ∀ w ∈ wsX00, w ∈ wsX0_bestPiece := inw_X0_bestPiece
  have hl : lv_has ls 4 [(0, .ref h), (1, .int (nI n))] := hl
  have X : zh g A (oQ h (q0, q1, q2, q3, q4, q5, q6, q7, q8, q9, q10)) s.heap H locs := X
  refine lv_aload_n hx hb dX0_bestPiece_0 rfl (lv_at hl 0 rfl) ?_
  refine lv_iload_n hx hb dX0_bestPiece_1 rfl (lv_at hl 1 rfl) ?_
  refine zcallVi (n := 1) (As := [.int (nI n)]) (rest := []) (ci := 0) (C := RX0) (T := TX0) (N := 11) Z X (c_X0_worthToGive l g bL h q0 q1 q2 q3 q4 q5 q6 q7 q8 q9 q10 n hn hinv) gX0_bestPiece_X0_worthToGive rfl (by decide +kernel) ⟨by show _ ≤ (8 + 2 * n); omega, by show _ ≤ (300 + 50 * n); omega⟩ rfl rfl rfl rfl hl.1 (Nat.le_of_ble_eq_true rfl) dX0_bestPiece_2 ⟨Nat.zero_le _, Nat.zero_le _⟩ (fun r0 ur0 H locs hrr0 X => ?_)
  obtain ⟨rfl, rfl⟩ : ur0 = (q0, q1, q2, q3, q4, q5, q6, q7, q8, q9, q10) ∧ r0 = qWG q0 n q5 q6 q7 := hrr0
  have X : zh g A (oQ h (q0, q1, q2, q3, q4, q5, q6, q7, q8, q9, q10)) s.heap H locs := X
  refine lv_istore_n (lv' := [(2, .int (qWG q0 n q5 q6 q7)), (0, .ref h), (1, .int (nI n))]) hx hb dX0_bestPiece_5 rfl hl (by decide) rfl (fun ls hl => ?_)
  refine lv_iconst (v := (0 : Int32)) hx hb dX0_bestPiece_6 (by decide) ?_
  refine lv_istore_n (lv' := [(3, .int (0 : Int32)), (2, .int (qWG q0 n q5 q6 q7)), (0, .ref h), (1, .int (nI n))]) hx hb dX0_bestPiece_7 rfl hl (by decide) rfl (fun ls hl => ?_)
  have cut8 : ∀ (n8 : Nat), ∀ (k : Nat), (k ≤ 15) → (qBP q0 n q5 q6 q7 = findN (qBPF q0 n q5 q6 q7) (15 - k) k) → (16 - k ≤ n8) → ∀ (H : Heap) (locs : List Loc) (ls : Array Slot), zh g A (oQ h (q0, q1, q2, q3, q4, q5, q6, q7, q8, q9, q10)) s.heap H locs → lv_has ls 4 [(3, .int (nI k)), (2, .int (qWG q0 n q5 q6 q7)), (0, .ref h), (1, .int (nI n))] → W p l e { frames := (8 + 2 * n), cells := 0, slots := 0, locals := (300 + 50 * n) } s m ([.ref h, .int (nI n)] : List Value).toArray below meth c H locs 0 0 (MQ below ((zQi g (P_X0_bestPiece q0 q1 q2 q3 q4 q5 q6 q7 q8 q9 q10 n) (oQ h)) A) ([.ref h, .int (nI n)] : List Value).toArray s 0 0 A) (F0 m 8 ls []) := by
    intro n8
    induction n8 with
    | zero =>
      intro k hk hz hm8
      exact absurd hm8 (by omega)
    | succ n8 ih8 =>
      intro k hk hz hm8 H locs ls X hl
      refine lv_iload_n hx hb dX0_bestPiece_8 rfl (lv_at hl 0 rfl) ?_
      refine lv_bipush (v := (15 : Int32)) hx hb dX0_bestPiece_9 (by decide) ?_
      refine lv_icmp_ge (tgt := 42) hx hb dX0_bestPiece_11 (by decide) (fun c2 => ?_) (fun c2 => ?_)
      · have qc2 := c2
        have c2n : 15 ≤ k := zn_let (by omega) (by omega) c2
        refine lv_iload_n hx hb dX0_bestPiece_42 rfl (lv_at hl 0 rfl) ?_
        exact zreti Z hr hlk (q0, q1, q2, q3, q4, q5, q6, q7, q8, q9, q10) X dX0_bestPiece_43 rfl (⟨rfl, congrArg nI (by first | exact (findN_15 (by omega) hz).symm | exact (findN_t (by omega) (by unfold qBPF; rw [hf, decide_eq_true he]; rfl) hz).symm)⟩)
      · have qc2 := c2
        have c2n : ¬ 15 ≤ k := zn_len (by omega) (by omega) c2
        refine lv_aload_n hx hb dX0_bestPiece_14 rfl (lv_at hl 2 rfl) ?_
        refine zget (fs := [.int q0, .int q1, .int q2, .int q3, .int q4, .int q5, .int q6, .long q7, .int q8, .int q9, .long q10]) (v := .int q6) Z hin X (ci := 0) (C := RX0) (T := TX0) (N := 11) rfl rfl 6 (by decide) lk_X0_bestPiece_35 rfl dX0_bestPiece_15 ?_
        refine lv_iload_n hx hb dX0_bestPiece_18 rfl (lv_at hl 0 rfl) ?_
        refine zcallSi (n := 2) (As := [.int q6, .int (nI k)]) (rest := []) Z X (c_X0_has l g q6 (nI k)) gX0_bestPiece_X0_has rfl (by decide +kernel) ⟨by show _ ≤ (8 + 2 * n); omega, by show _ ≤ (300 + 50 * n); omega⟩ rfl rfl hl.1 (Nat.le_of_ble_eq_true rfl) dX0_bestPiece_19 ⟨Nat.zero_le _, Nat.zero_le _⟩ (fun r2 H locs hrr2 X => ?_)
        obtain rfl : r2 = zb (qHas q6 (nI k)) := hrr2
        refine lv_if_ne (tgt := 36) hx hb dX0_bestPiece_22 (by decide) (fun c4 => ?_) (fun c4 => ?_)
        · have qc4 := c4
          have hf : qHas q6 (nI k) = true := zb_n0.mp c4
          refine lv_iinc (v := nI (k + 1)) (lv' := [(3, .int (nI (k + 1))), (2, .int (qWG q0 n q5 q6 q7)), (0, .ref h), (1, .int (nI n))]) hx hb dX0_bestPiece_36 hl (k := 0) rfl (zi_inc k) (by decide) rfl (fun ls hl => ?_)
          refine lv_goto (tgt := 8) hx hb dX0_bestPiece_39 (by decide) ?_
          exact ih8 (k + 1) (by first | assumption | omega) (by first | exact findN_s (by omega) (by unfold qBPF; rw [hf]; rfl) hz | exact findN_s (by omega) (by unfold qBPF; rw [decide_eq_false he, Bool.and_false]) hz) (by omega) H locs ls X (lv_sub hl [0, 1, 2, 3] rfl)
        · have qc4 := c4
          have hf : qHas q6 (nI k) = false := zb_0.mp c4
          refine lv_aload_n hx hb dX0_bestPiece_25 rfl (lv_at hl 2 rfl) ?_
          refine lv_iload_n hx hb dX0_bestPiece_26 rfl (lv_at hl 0 rfl) ?_
          refine lv_iload_n hx hb dX0_bestPiece_27 rfl (lv_at hl 3 rfl) ?_
          refine zcallVi (n := 2) (As := [.int (nI k), .int (nI n)]) (rest := []) (ci := 0) (C := RX0) (T := TX0) (N := 11) Z X (c_X0_worthToPlace l g bL h q0 q1 q2 q3 q4 q5 q6 q7 q8 q9 q10 n k hn (by omega) hf hinv) gX0_bestPiece_X0_worthToPlace rfl (by decide +kernel) ⟨by show _ ≤ (8 + 2 * n); omega, by show _ ≤ (300 + 50 * n); omega⟩ rfl rfl rfl rfl hl.1 (Nat.le_of_ble_eq_true rfl) dX0_bestPiece_28 ⟨Nat.zero_le _, Nat.zero_le _⟩ (fun r4 ur4 H locs hrr4 X => ?_)
          obtain ⟨rfl, rfl⟩ : ur4 = (q0, q1, q2, q3, q4, q5, q6, q7, q8, q9, q10) ∧ r4 = qWP q0 n q5 q6 q7 k := hrr4
          have X : zh g A (oQ h (q0, q1, q2, q3, q4, q5, q6, q7, q8, q9, q10)) s.heap H locs := X
          refine lv_ineg hx hb dX0_bestPiece_31 ?_
          refine lv_iload_n hx hb dX0_bestPiece_32 rfl (lv_at hl 1 rfl) ?_
          refine lv_icmp_eq (tgt := 42) hx hb dX0_bestPiece_33 (by decide) (fun c6 => ?_) (fun c6 => ?_)
          · have qc6 := c6
            have he : -qWP q0 n q5 q6 q7 k = qWG q0 n q5 q6 q7 := c6
            refine lv_iload_n hx hb dX0_bestPiece_42 rfl (lv_at hl 0 rfl) ?_
            exact zreti Z hr hlk (q0, q1, q2, q3, q4, q5, q6, q7, q8, q9, q10) X dX0_bestPiece_43 rfl (⟨rfl, congrArg nI (by first | exact (findN_15 (by omega) hz).symm | exact (findN_t (by omega) (by unfold qBPF; rw [hf, decide_eq_true he]; rfl) hz).symm)⟩)
          · have qc6 := c6
            have he : ¬ -qWP q0 n q5 q6 q7 k = qWG q0 n q5 q6 q7 := c6
            refine lv_iinc (v := nI (k + 1)) (lv' := [(3, .int (nI (k + 1))), (2, .int (qWG q0 n q5 q6 q7)), (0, .ref h), (1, .int (nI n))]) hx hb dX0_bestPiece_36 hl (k := 0) rfl (zi_inc k) (by decide) rfl (fun ls hl => ?_)
            refine lv_goto (tgt := 8) hx hb dX0_bestPiece_39 (by decide) ?_
            exact ih8 (k + 1) (by first | assumption | omega) (by first | exact findN_s (by omega) (by unfold qBPF; rw [hf]; rfl) hz | exact findN_s (by omega) (by unfold qBPF; rw [decide_eq_false he, Bool.and_false]) hz) (by omega) H locs ls X (lv_sub hl [0, 1, 2, 3] rfl)
  exact cut8 16 0 (by first | assumption | omega) (rfl) (by omega) H locs ls X (lv_sub hl [0, 1, 2, 3] rfl)
theorem inw_X0_bestSquare : ∀ w ∈ wsX00, w ∈ wsX0_bestSquare := by decide +kernel
theorem lk_X0_bestSquare_9 : Cond.fieldLink RX0 9 "Quarterboard" "held" "I" ∈ wsX0_bestSquare := by decide +kernel
theorem lk_X0_bestSquare_16 : Cond.fieldLink RX0 16 "Quarterboard" "filled" "I" ∈ wsX0_bestSquare := by decide +kernel
def P_X0_bestSquare (q0 q1 q2 : Int32) (hp : Nat) (q4 q5 q6 : Int32) (q7 : Int64) (q8 q9 : Int32) (q10 : Int64) (n : Nat) : Int32 → QS → Prop := fun r u => u = (q0, q1, q2, nI hp, q4, q5, q6, q7, q8, q9, q10) ∧ r = nI (qBS q0 n q5 q6 q7 hp)
set_option maxHeartbeats 4000000 in
set_option maxRecDepth 100000 in
theorem c_X0_bestSquare (l : Launch) (g : zG) (bL h : Nat) (q0 q1 q2 : Int32) (hp : Nat) (q4 q5 q6 : Int32) (q7 : Int64) (q8 q9 : Int32) (q10 : Int64)  (n : Nat) (hn1 : 1 ≤ n) (hn : n ≤ 1000) (hpp : hp < 16) (hu : qHas q6 (nI hp) = false) (hinv : qInv q5 q7) : zM l yX0_bestSquare wsX0_bestSquare (9 + 2 * n) (350 + 50 * n) g [.ref h, .int (nI n)] (oQ h (q0, q1, q2, nI hp, q4, q5, q6, q7, q8, q9, q10)) (zEL bL) (zQi g (P_X0_bestSquare q0 q1 q2 hp q4 q5 q6 q7 q8 q9 q10 n) (oQ h)) := by
  refine zstart (cc := cX0_bestSquare) (maxL := 4) (ret := (some .int)) (own := RX0) rfl (by decide) rfl zStL (Nat.le_of_ble_eq_true rfl) ?_
  intro p e s m below meth c A Z hr hlk H locs X ls hl
  have hx := Z.1.1
  have hb := Z.1.2.1
  have hin : ∀ w ∈ wsX00, w ∈ wsX0_bestSquare := inw_X0_bestSquare
  have hl : lv_has ls 4 [(0, .ref h), (1, .int (nI n))] := hl
  have X : zh g A (oQ h (q0, q1, q2, nI hp, q4, q5, q6, q7, q8, q9, q10)) s.heap H locs := X
  refine lv_aload_n hx hb dX0_bestSquare_0 rfl (lv_at hl 0 rfl) ?_
  refine lv_aload_n hx hb dX0_bestSquare_1 rfl (lv_at hl 0 rfl) ?_
  refine zget (fs := [.int q0, .int q1, .int q2, .int (nI hp), .int q4, .int q5, .int q6, .long q7, .int q8, .int q9, .long q10]) (v := .int (nI hp)) Z hin X (ci := 0) (C := RX0) (T := TX0) (N := 11) rfl rfl 3 (by decide) lk_X0_bestSquare_9 rfl dX0_bestSquare_2 ?_
  refine lv_iload_n hx hb dX0_bestSquare_5 rfl (lv_at hl 1 rfl) ?_
  refine zcallVi (n := 2) (As := [.int (nI hp), .int (nI n)]) (rest := []) (ci := 0) (C := RX0) (T := TX0) (N := 11) Z X (c_X0_worthToPlace l g bL h q0 q1 q2 (nI hp) q4 q5 q6 q7 q8 q9 q10 n hp hn hpp hu hinv) gX0_bestSquare_X0_worthToPlace rfl (by decide +kernel) ⟨by show _ ≤ (9 + 2 * n); omega, by show _ ≤ (350 + 50 * n); omega⟩ rfl rfl rfl rfl hl.1 (Nat.le_of_ble_eq_true rfl) dX0_bestSquare_6 ⟨Nat.zero_le _, Nat.zero_le _⟩ (fun r0 ur0 H locs hrr0 X => ?_)
  obtain ⟨rfl, rfl⟩ : ur0 = (q0, q1, q2, nI hp, q4, q5, q6, q7, q8, q9, q10) ∧ r0 = qWP q0 n q5 q6 q7 hp := hrr0
  have X : zh g A (oQ h (q0, q1, q2, nI hp, q4, q5, q6, q7, q8, q9, q10)) s.heap H locs := X
  refine lv_istore_n (lv' := [(2, .int (qWP q0 n q5 q6 q7 hp)), (0, .ref h), (1, .int (nI n))]) hx hb dX0_bestSquare_9 rfl hl (by decide) rfl (fun ls hl => ?_)
  refine lv_iconst (v := (0 : Int32)) hx hb dX0_bestSquare_10 (by decide) ?_
  refine lv_istore_n (lv' := [(3, .int (0 : Int32)), (2, .int (qWP q0 n q5 q6 q7 hp)), (0, .ref h), (1, .int (nI n))]) hx hb dX0_bestSquare_11 rfl hl (by decide) rfl (fun ls hl => ?_)
  have cut12 : ∀ (n12 : Nat), ∀ (k : Nat), (k ≤ 15) → (qBS q0 n q5 q6 q7 hp = findN (qBSF q0 n q5 q6 q7 hp) (15 - k) k) → (16 - k ≤ n12) → ∀ (H : Heap) (locs : List Loc) (ls : Array Slot), zh g A (oQ h (q0, q1, q2, nI hp, q4, q5, q6, q7, q8, q9, q10)) s.heap H locs → lv_has ls 4 [(3, .int (nI k)), (2, .int (qWP q0 n q5 q6 q7 hp)), (0, .ref h), (1, .int (nI n))] → W p l e { frames := (9 + 2 * n), cells := 0, slots := 0, locals := (350 + 50 * n) } s m ([.ref h, .int (nI n)] : List Value).toArray below meth c H locs 0 0 (MQ below ((zQi g (P_X0_bestSquare q0 q1 q2 hp q4 q5 q6 q7 q8 q9 q10 n) (oQ h)) A) ([.ref h, .int (nI n)] : List Value).toArray s 0 0 A) (F0 m 12 ls []) := by
    intro n12
    induction n12 with
    | zero =>
      intro k hk hz hm12
      exact absurd hm12 (by omega)
    | succ n12 ih12 =>
      intro k hk hz hm12 H locs ls X hl
      refine lv_iload_n hx hb dX0_bestSquare_12 rfl (lv_at hl 0 rfl) ?_
      refine lv_bipush (v := (15 : Int32)) hx hb dX0_bestSquare_13 (by decide) ?_
      refine lv_icmp_ge (tgt := 45) hx hb dX0_bestSquare_15 (by decide) (fun c2 => ?_) (fun c2 => ?_)
      · have qc2 := c2
        have c2n : 15 ≤ k := zn_let (by omega) (by omega) c2
        refine lv_iload_n hx hb dX0_bestSquare_45 rfl (lv_at hl 0 rfl) ?_
        exact zreti Z hr hlk (q0, q1, q2, nI hp, q4, q5, q6, q7, q8, q9, q10) X dX0_bestSquare_46 rfl (⟨rfl, congrArg nI (by first | exact (findN_15 (by omega) hz).symm | exact (findN_t (by omega) (by unfold qBSF; rw [hf, decide_eq_true he]; rfl) hz).symm)⟩)
      · have qc2 := c2
        have c2n : ¬ 15 ≤ k := zn_len (by omega) (by omega) c2
        refine lv_aload_n hx hb dX0_bestSquare_18 rfl (lv_at hl 2 rfl) ?_
        refine zget (fs := [.int q0, .int q1, .int q2, .int (nI hp), .int q4, .int q5, .int q6, .long q7, .int q8, .int q9, .long q10]) (v := .int q5) Z hin X (ci := 0) (C := RX0) (T := TX0) (N := 11) rfl rfl 5 (by decide) lk_X0_bestSquare_16 rfl dX0_bestSquare_19 ?_
        refine lv_iload_n hx hb dX0_bestSquare_22 rfl (lv_at hl 0 rfl) ?_
        refine zcallSi (n := 2) (As := [.int q5, .int (nI k)]) (rest := []) Z X (c_X0_has l g q5 (nI k)) gX0_bestSquare_X0_has rfl (by decide +kernel) ⟨by show _ ≤ (9 + 2 * n); omega, by show _ ≤ (350 + 50 * n); omega⟩ rfl rfl hl.1 (Nat.le_of_ble_eq_true rfl) dX0_bestSquare_23 ⟨Nat.zero_le _, Nat.zero_le _⟩ (fun r2 H locs hrr2 X => ?_)
        obtain rfl : r2 = zb (qHas q5 (nI k)) := hrr2
        refine lv_if_ne (tgt := 39) hx hb dX0_bestSquare_26 (by decide) (fun c4 => ?_) (fun c4 => ?_)
        · have qc4 := c4
          have hf : qHas q5 (nI k) = true := zb_n0.mp c4
          refine lv_iinc (v := nI (k + 1)) (lv' := [(3, .int (nI (k + 1))), (2, .int (qWP q0 n q5 q6 q7 hp)), (0, .ref h), (1, .int (nI n))]) hx hb dX0_bestSquare_39 hl (k := 0) rfl (zi_inc k) (by decide) rfl (fun ls hl => ?_)
          refine lv_goto (tgt := 12) hx hb dX0_bestSquare_42 (by decide) ?_
          exact ih12 (k + 1) (by first | assumption | omega) (by first | exact findN_s (by omega) (by unfold qBSF; rw [hf]; rfl) hz | exact findN_s (by omega) (by unfold qBSF; rw [decide_eq_false he, Bool.and_false]) hz) (by omega) H locs ls X (lv_sub hl [0, 1, 2, 3] rfl)
        · have qc4 := c4
          have hf : qHas q5 (nI k) = false := zb_0.mp c4
          refine lv_aload_n hx hb dX0_bestSquare_29 rfl (lv_at hl 2 rfl) ?_
          refine lv_iload_n hx hb dX0_bestSquare_30 rfl (lv_at hl 0 rfl) ?_
          refine lv_iload_n hx hb dX0_bestSquare_31 rfl (lv_at hl 3 rfl) ?_
          refine zcallVi (n := 2) (As := [.int (nI k), .int (nI n)]) (rest := []) (ci := 0) (C := RX0) (T := TX0) (N := 11) Z X (c_X0_worthAfterPlacing l g bL h q0 q1 q2 hp q4 q5 q6 q7 q8 q9 q10 n k hn1 hn hpp hu (by omega) hf hinv) gX0_bestSquare_X0_worthAfterPlacing rfl (by decide +kernel) ⟨by show _ ≤ (9 + 2 * n); omega, by show _ ≤ (350 + 50 * n); omega⟩ rfl rfl rfl rfl hl.1 (Nat.le_of_ble_eq_true rfl) dX0_bestSquare_32 ⟨Nat.zero_le _, Nat.zero_le _⟩ (fun r4 ur4 H locs hrr4 X => ?_)
          obtain ⟨rfl, rfl⟩ : ur4 = (q0, q1, q2, nI hp, q4, q5, q6, q7, q8, q9, q10) ∧ r4 = qWA q0 n q5 q6 q7 hp k := hrr4
          have X : zh g A (oQ h (q0, q1, q2, nI hp, q4, q5, q6, q7, q8, q9, q10)) s.heap H locs := X
          refine lv_iload_n hx hb dX0_bestSquare_35 rfl (lv_at hl 1 rfl) ?_
          refine lv_icmp_eq (tgt := 45) hx hb dX0_bestSquare_36 (by decide) (fun c6 => ?_) (fun c6 => ?_)
          · have qc6 := c6
            have he : qWA q0 n q5 q6 q7 hp k = qWP q0 n q5 q6 q7 hp := c6
            refine lv_iload_n hx hb dX0_bestSquare_45 rfl (lv_at hl 0 rfl) ?_
            exact zreti Z hr hlk (q0, q1, q2, nI hp, q4, q5, q6, q7, q8, q9, q10) X dX0_bestSquare_46 rfl (⟨rfl, congrArg nI (by first | exact (findN_15 (by omega) hz).symm | exact (findN_t (by omega) (by unfold qBSF; rw [hf, decide_eq_true he]; rfl) hz).symm)⟩)
          · have qc6 := c6
            have he : ¬ qWA q0 n q5 q6 q7 hp k = qWP q0 n q5 q6 q7 hp := c6
            refine lv_iinc (v := nI (k + 1)) (lv' := [(3, .int (nI (k + 1))), (2, .int (qWP q0 n q5 q6 q7 hp)), (0, .ref h), (1, .int (nI n))]) hx hb dX0_bestSquare_39 hl (k := 0) rfl (zi_inc k) (by decide) rfl (fun ls hl => ?_)
            refine lv_goto (tgt := 12) hx hb dX0_bestSquare_42 (by decide) ?_
            exact ih12 (k + 1) (by first | assumption | omega) (by first | exact findN_s (by omega) (by unfold qBSF; rw [hf]; rfl) hz | exact findN_s (by omega) (by unfold qBSF; rw [decide_eq_false he, Bool.and_false]) hz) (by omega) H locs ls X (lv_sub hl [0, 1, 2, 3] rfl)
  exact cut12 16 0 (by first | assumption | omega) (rfl) (by omega) H locs ls X (lv_sub hl [0, 1, 2, 3] rfl)
end
section
/-! the class: turning and renaming -/
def tsq (s t : Nat) : Nat := 4 * (if t / 2 % 2 = 0 then (if t % 2 = 0 then s / 4 else s % 4) else 3 - (if t % 2 = 0 then s / 4 else s % 4)) + (if t / 4 % 2 = 0 then (if t % 2 = 0 then s % 4 else s / 4) else 3 - (if t % 2 = 0 then s % 4 else s / 4))
theorem qT1 : ∀ t, t < 8 → (nI t &&& nI 1 = (0 : Int32) ↔ t % 2 = 0) := by decide +kernel
theorem qT2 : ∀ t, t < 8 → (nI t &&& nI 2 = (0 : Int32) ↔ t / 2 % 2 = 0) := by decide +kernel
theorem qT4 : ∀ t, t < 8 → (nI t &&& nI 4 = (0 : Int32) ↔ t / 4 % 2 = 0) := by decide +kernel
def qTrn (x : Int64) (t : Nat) : Nat → Int64
  | 0 => 0
  | k + 1 => qTrn x t k ||| ((((x.toUInt64 >>> ((nI k).toInt64.toUInt64 &&& Int64.toUInt64 63)).toInt64) &&& (281479271743489 : Int64)) <<< ((nI (tsq k t)).toInt64 &&& 63))
def qTurned (x : Int64) (t : Nat) : Int64 := qTrn x t 16
def qLvC (d : Int64) (sq : Int32) : Nat → Int64
  | 0 => d
  | k + 1 => if qOne d (nI k) &&& (sq &&& -sq) = 0 then qLvC d sq k else qLvC d sq k ^^^ (sq.toInt64 <<< (((16 : Int32) * nI k).toInt64 &&& 63))
def qLev (d : Int64) (sq : Int32) : Int64 := qLvC d sq 4
def qEqC (d : Int64) (ones : Int32) : Nat → Nat
  | 0 => 0
  | k + 1 => if qOne d (nI k) = ones then qEqC d ones k + 1 else qEqC d ones k
theorem qEqC_le (d : Int64) (ones : Int32) : ∀ k, qEqC d ones k ≤ k
  | 0 => Nat.le_refl 0
  | k + 1 => by
    have := qEqC_le d ones k
    unfold qEqC
    split <;> omega
def qWyC (mine other : Int64) : Nat → Int32
  | 0 => 1
  | k + 1 => qWyC mine other k * (nI (qEqC other (qOne mine (nI k)) 4) - nI (qEqC mine (qOne mine (nI k)) k))
def qWays (f : Int32) (d : Int64) (t : Nat) (of : Int32) (od : Int64) : Int32 := if ¬ (qTurned f.toInt64 t).toInt32 = of then 0 else if of = 0 then 384 else qWyC (qLev (qTurned d t) of) (qLev od of) 4
def P_X0_turnedSquare (sq t : Nat) : Int32 → Unit → Prop := fun r _ => r = nI (tsq sq t)
set_option maxHeartbeats 4000000 in
set_option maxRecDepth 100000 in
theorem c_X0_turnedSquare (l : Launch) (g : zG) (sq : Nat) (t : Nat) (hsq : sq < 16) (ht : t < 8) : zM l yX0_turnedSquare wsX0_turnedSquare 0 0 g [.int (nI sq), .int (nI t)] ([]) zE0 (zQi g (P_X0_turnedSquare sq t) (fun _ : Unit => [])) := by
  refine zstart (cc := cX0_turnedSquare) (maxL := 5) (ret := (some .int)) (own := RX0) rfl (by decide) rfl zSt0 (Nat.le_of_ble_eq_true rfl) ?_
  intro p e s m below meth c A Z hr hlk H locs X ls hl
  have hx := Z.1.1
  have hb := Z.1.2.1
  have hl : lv_has ls 5 [(0, .int (nI sq)), (1, .int (nI t))] := hl
  have X : zh g A ([]) s.heap H locs := X
  refine lv_iload_n hx hb dX0_turnedSquare_0 rfl (lv_at hl 0 rfl) ?_
  refine lv_iconst (v := nI 4) hx hb dX0_turnedSquare_1 (by decide) ?_
  refine lv_idiv hx hb dX0_turnedSquare_2 (by decide) ?_
  refine zrwi (y := nI (sq / 4)) (pk_div (by omega) (by decide) (by decide)) ?_
  refine lv_istore_n (lv' := [(2, .int (nI (sq / 4))), (0, .int (nI sq)), (1, .int (nI t))]) hx hb dX0_turnedSquare_3 rfl hl (by decide) rfl (fun ls hl => ?_)
  refine lv_iload_n hx hb dX0_turnedSquare_4 rfl (lv_at hl 1 rfl) ?_
  refine lv_iconst (v := nI 4) hx hb dX0_turnedSquare_5 (by decide) ?_
  refine lv_irem hx hb dX0_turnedSquare_6 (by decide) ?_
  refine zrwi (y := nI (sq % 4)) (pk_rem (by omega) (by decide) (by decide)) ?_
  refine lv_istore_n (lv' := [(3, .int (nI (sq % 4))), (2, .int (nI (sq / 4))), (0, .int (nI sq)), (1, .int (nI t))]) hx hb dX0_turnedSquare_7 rfl hl (by decide) rfl (fun ls hl => ?_)
  refine lv_iload_n hx hb dX0_turnedSquare_8 rfl (lv_at hl 3 rfl) ?_
  refine lv_iconst (v := nI 1) hx hb dX0_turnedSquare_9 (by decide) ?_
  refine lv_iand hx hb dX0_turnedSquare_10 ?_
  refine lv_if_eq (tgt := 22) hx hb dX0_turnedSquare_11 (by decide) (fun c1 => ?_) (fun c1 => ?_)
  · have qc1 := c1
    have h1 : t % 2 = 0 := (qT1 t ht).mp c1
    refine lv_iload_n hx hb dX0_turnedSquare_22 rfl (lv_at hl 3 rfl) ?_
    refine lv_iconst (v := nI 2) hx hb dX0_turnedSquare_23 (by decide) ?_
    refine lv_iand hx hb dX0_turnedSquare_24 ?_
    refine lv_if_eq (tgt := 32) hx hb dX0_turnedSquare_25 (by decide) (fun c2 => ?_) (fun c2 => ?_)
    · have qc2 := c2
      have h2 : t / 2 % 2 = 0 := (qT2 t ht).mp c2
      refine lv_iload_n hx hb dX0_turnedSquare_32 rfl (lv_at hl 3 rfl) ?_
      refine lv_iconst (v := nI 4) hx hb dX0_turnedSquare_33 (by decide) ?_
      refine lv_iand hx hb dX0_turnedSquare_34 ?_
      refine lv_if_eq (tgt := 42) hx hb dX0_turnedSquare_35 (by decide) (fun c3 => ?_) (fun c3 => ?_)
      · have qc3 := c3
        have h3 : t / 4 % 2 = 0 := (qT4 t ht).mp c3
        refine lv_iconst (v := nI 4) hx hb dX0_turnedSquare_42 (by decide) ?_
        refine lv_iload_n hx hb dX0_turnedSquare_43 rfl (lv_at hl 1 rfl) ?_
        refine lv_imul hx hb dX0_turnedSquare_44 ?_
        refine zrwi (y := nI (4 * (sq / 4))) (pk_mul _ _) ?_
        refine lv_iload_n hx hb dX0_turnedSquare_45 rfl (lv_at hl 0 rfl) ?_
        refine lv_iadd hx hb dX0_turnedSquare_46 ?_
        refine zrwi (y := nI ((4 * (sq / 4)) + (sq % 4))) (nI_add _ _) ?_
        exact zreti Z hr hlk () X dX0_turnedSquare_47 rfl (by show _ = nI (tsq sq t); simp only [tsq, h1, h2, h3, decide_true, decide_false, Bool.and_true, Bool.and_false, Bool.true_and, Bool.false_and, not_true_eq_false, not_false_eq_true, Bool.not_true, Bool.not_false, if_true, if_false, and_true, true_and, and_false, false_and, Bool.false_eq_true, Bool.true_eq_false, eq_self])
      · have qc3 := c3
        have h3 : ¬ t / 4 % 2 = 0 := fun q => c3 ((qT4 t ht).mpr q)
        refine lv_iconst (v := nI 3) hx hb dX0_turnedSquare_38 (by decide) ?_
        refine lv_iload_n hx hb dX0_turnedSquare_39 rfl (lv_at hl 0 rfl) ?_
        refine lv_isub hx hb dX0_turnedSquare_40 ?_
        refine zrwi (y := nI (3 - (sq % 4))) (pk_sub (by omega)) ?_
        refine lv_istore_n (lv' := [(3, .int (nI (3 - (sq % 4)))), (2, .int (nI (sq / 4))), (0, .int (nI sq)), (1, .int (nI t))]) hx hb dX0_turnedSquare_41 rfl hl (by decide) rfl (fun ls hl => ?_)
        refine lv_iconst (v := nI 4) hx hb dX0_turnedSquare_42 (by decide) ?_
        refine lv_iload_n hx hb dX0_turnedSquare_43 rfl (lv_at hl 1 rfl) ?_
        refine lv_imul hx hb dX0_turnedSquare_44 ?_
        refine zrwi (y := nI (4 * (sq / 4))) (pk_mul _ _) ?_
        refine lv_iload_n hx hb dX0_turnedSquare_45 rfl (lv_at hl 0 rfl) ?_
        refine lv_iadd hx hb dX0_turnedSquare_46 ?_
        refine zrwi (y := nI ((4 * (sq / 4)) + (3 - (sq % 4)))) (nI_add _ _) ?_
        exact zreti Z hr hlk () X dX0_turnedSquare_47 rfl (by show _ = nI (tsq sq t); simp only [tsq, h1, h2, h3, decide_true, decide_false, Bool.and_true, Bool.and_false, Bool.true_and, Bool.false_and, not_true_eq_false, not_false_eq_true, Bool.not_true, Bool.not_false, if_true, if_false, and_true, true_and, and_false, false_and, Bool.false_eq_true, Bool.true_eq_false, eq_self])
    · have qc2 := c2
      have h2 : ¬ t / 2 % 2 = 0 := fun q => c2 ((qT2 t ht).mpr q)
      refine lv_iconst (v := nI 3) hx hb dX0_turnedSquare_28 (by decide) ?_
      refine lv_iload_n hx hb dX0_turnedSquare_29 rfl (lv_at hl 1 rfl) ?_
      refine lv_isub hx hb dX0_turnedSquare_30 ?_
      refine zrwi (y := nI (3 - (sq / 4))) (pk_sub (by omega)) ?_
      refine lv_istore_n (lv' := [(2, .int (nI (3 - (sq / 4)))), (3, .int (nI (sq % 4))), (0, .int (nI sq)), (1, .int (nI t))]) hx hb dX0_turnedSquare_31 rfl hl (by decide) rfl (fun ls hl => ?_)
      refine lv_iload_n hx hb dX0_turnedSquare_32 rfl (lv_at hl 3 rfl) ?_
      refine lv_iconst (v := nI 4) hx hb dX0_turnedSquare_33 (by decide) ?_
      refine lv_iand hx hb dX0_turnedSquare_34 ?_
      refine lv_if_eq (tgt := 42) hx hb dX0_turnedSquare_35 (by decide) (fun c4 => ?_) (fun c4 => ?_)
      · have qc4 := c4
        have h3 : t / 4 % 2 = 0 := (qT4 t ht).mp c4
        refine lv_iconst (v := nI 4) hx hb dX0_turnedSquare_42 (by decide) ?_
        refine lv_iload_n hx hb dX0_turnedSquare_43 rfl (lv_at hl 0 rfl) ?_
        refine lv_imul hx hb dX0_turnedSquare_44 ?_
        refine zrwi (y := nI (4 * (3 - (sq / 4)))) (pk_mul _ _) ?_
        refine lv_iload_n hx hb dX0_turnedSquare_45 rfl (lv_at hl 1 rfl) ?_
        refine lv_iadd hx hb dX0_turnedSquare_46 ?_
        refine zrwi (y := nI ((4 * (3 - (sq / 4))) + (sq % 4))) (nI_add _ _) ?_
        exact zreti Z hr hlk () X dX0_turnedSquare_47 rfl (by show _ = nI (tsq sq t); simp only [tsq, h1, h2, h3, decide_true, decide_false, Bool.and_true, Bool.and_false, Bool.true_and, Bool.false_and, not_true_eq_false, not_false_eq_true, Bool.not_true, Bool.not_false, if_true, if_false, and_true, true_and, and_false, false_and, Bool.false_eq_true, Bool.true_eq_false, eq_self])
      · have qc4 := c4
        have h3 : ¬ t / 4 % 2 = 0 := fun q => c4 ((qT4 t ht).mpr q)
        refine lv_iconst (v := nI 3) hx hb dX0_turnedSquare_38 (by decide) ?_
        refine lv_iload_n hx hb dX0_turnedSquare_39 rfl (lv_at hl 1 rfl) ?_
        refine lv_isub hx hb dX0_turnedSquare_40 ?_
        refine zrwi (y := nI (3 - (sq % 4))) (pk_sub (by omega)) ?_
        refine lv_istore_n (lv' := [(3, .int (nI (3 - (sq % 4)))), (2, .int (nI (3 - (sq / 4)))), (0, .int (nI sq)), (1, .int (nI t))]) hx hb dX0_turnedSquare_41 rfl hl (by decide) rfl (fun ls hl => ?_)
        refine lv_iconst (v := nI 4) hx hb dX0_turnedSquare_42 (by decide) ?_
        refine lv_iload_n hx hb dX0_turnedSquare_43 rfl (lv_at hl 1 rfl) ?_
        refine lv_imul hx hb dX0_turnedSquare_44 ?_
        refine zrwi (y := nI (4 * (3 - (sq / 4)))) (pk_mul _ _) ?_
        refine lv_iload_n hx hb dX0_turnedSquare_45 rfl (lv_at hl 0 rfl) ?_
        refine lv_iadd hx hb dX0_turnedSquare_46 ?_
        refine zrwi (y := nI ((4 * (3 - (sq / 4))) + (3 - (sq % 4)))) (nI_add _ _) ?_
        exact zreti Z hr hlk () X dX0_turnedSquare_47 rfl (by show _ = nI (tsq sq t); simp only [tsq, h1, h2, h3, decide_true, decide_false, Bool.and_true, Bool.and_false, Bool.true_and, Bool.false_and, not_true_eq_false, not_false_eq_true, Bool.not_true, Bool.not_false, if_true, if_false, and_true, true_and, and_false, false_and, Bool.false_eq_true, Bool.true_eq_false, eq_self])
  · have qc1 := c1
    have h1 : ¬ t % 2 = 0 := fun q => c1 ((qT1 t ht).mpr q)
    refine lv_iload_n hx hb dX0_turnedSquare_14 rfl (lv_at hl 1 rfl) ?_
    refine lv_istore (lv' := [(4, .int (nI (sq / 4))), (3, .int (nI (sq % 4))), (2, .int (nI (sq / 4))), (0, .int (nI sq)), (1, .int (nI t))]) hx hb dX0_turnedSquare_15 hl (by decide) rfl (fun ls hl => ?_)
    refine lv_iload_n hx hb dX0_turnedSquare_17 rfl (lv_at hl 1 rfl) ?_
    refine lv_istore_n (lv' := [(2, .int (nI (sq % 4))), (4, .int (nI (sq / 4))), (3, .int (nI (sq % 4))), (0, .int (nI sq)), (1, .int (nI t))]) hx hb dX0_turnedSquare_18 rfl hl (by decide) rfl (fun ls hl => ?_)
    refine lv_iload hx hb dX0_turnedSquare_19 (lv_at hl 1 rfl) ?_
    refine lv_istore_n (lv' := [(3, .int (nI (sq / 4))), (2, .int (nI (sq % 4))), (4, .int (nI (sq / 4))), (0, .int (nI sq)), (1, .int (nI t))]) hx hb dX0_turnedSquare_21 rfl hl (by decide) rfl (fun ls hl => ?_)
    refine lv_iload_n hx hb dX0_turnedSquare_22 rfl (lv_at hl 4 rfl) ?_
    refine lv_iconst (v := nI 2) hx hb dX0_turnedSquare_23 (by decide) ?_
    refine lv_iand hx hb dX0_turnedSquare_24 ?_
    refine lv_if_eq (tgt := 32) hx hb dX0_turnedSquare_25 (by decide) (fun c5 => ?_) (fun c5 => ?_)
    · have qc5 := c5
      have h2 : t / 2 % 2 = 0 := (qT2 t ht).mp c5
      refine lv_iload_n hx hb dX0_turnedSquare_32 rfl (lv_at hl 4 rfl) ?_
      refine lv_iconst (v := nI 4) hx hb dX0_turnedSquare_33 (by decide) ?_
      refine lv_iand hx hb dX0_turnedSquare_34 ?_
      refine lv_if_eq (tgt := 42) hx hb dX0_turnedSquare_35 (by decide) (fun c6 => ?_) (fun c6 => ?_)
      · have qc6 := c6
        have h3 : t / 4 % 2 = 0 := (qT4 t ht).mp c6
        refine lv_iconst (v := nI 4) hx hb dX0_turnedSquare_42 (by decide) ?_
        refine lv_iload_n hx hb dX0_turnedSquare_43 rfl (lv_at hl 1 rfl) ?_
        refine lv_imul hx hb dX0_turnedSquare_44 ?_
        refine zrwi (y := nI (4 * (sq % 4))) (pk_mul _ _) ?_
        refine lv_iload_n hx hb dX0_turnedSquare_45 rfl (lv_at hl 0 rfl) ?_
        refine lv_iadd hx hb dX0_turnedSquare_46 ?_
        refine zrwi (y := nI ((4 * (sq % 4)) + (sq / 4))) (nI_add _ _) ?_
        exact zreti Z hr hlk () X dX0_turnedSquare_47 rfl (by show _ = nI (tsq sq t); simp only [tsq, h1, h2, h3, decide_true, decide_false, Bool.and_true, Bool.and_false, Bool.true_and, Bool.false_and, not_true_eq_false, not_false_eq_true, Bool.not_true, Bool.not_false, if_true, if_false, and_true, true_and, and_false, false_and, Bool.false_eq_true, Bool.true_eq_false, eq_self])
      · have qc6 := c6
        have h3 : ¬ t / 4 % 2 = 0 := fun q => c6 ((qT4 t ht).mpr q)
        refine lv_iconst (v := nI 3) hx hb dX0_turnedSquare_38 (by decide) ?_
        refine lv_iload_n hx hb dX0_turnedSquare_39 rfl (lv_at hl 0 rfl) ?_
        refine lv_isub hx hb dX0_turnedSquare_40 ?_
        refine zrwi (y := nI (3 - (sq / 4))) (pk_sub (by omega)) ?_
        refine lv_istore_n (lv' := [(3, .int (nI (3 - (sq / 4)))), (2, .int (nI (sq % 4))), (4, .int (nI (sq / 4))), (0, .int (nI sq)), (1, .int (nI t))]) hx hb dX0_turnedSquare_41 rfl hl (by decide) rfl (fun ls hl => ?_)
        refine lv_iconst (v := nI 4) hx hb dX0_turnedSquare_42 (by decide) ?_
        refine lv_iload_n hx hb dX0_turnedSquare_43 rfl (lv_at hl 1 rfl) ?_
        refine lv_imul hx hb dX0_turnedSquare_44 ?_
        refine zrwi (y := nI (4 * (sq % 4))) (pk_mul _ _) ?_
        refine lv_iload_n hx hb dX0_turnedSquare_45 rfl (lv_at hl 0 rfl) ?_
        refine lv_iadd hx hb dX0_turnedSquare_46 ?_
        refine zrwi (y := nI ((4 * (sq % 4)) + (3 - (sq / 4)))) (nI_add _ _) ?_
        exact zreti Z hr hlk () X dX0_turnedSquare_47 rfl (by show _ = nI (tsq sq t); simp only [tsq, h1, h2, h3, decide_true, decide_false, Bool.and_true, Bool.and_false, Bool.true_and, Bool.false_and, not_true_eq_false, not_false_eq_true, Bool.not_true, Bool.not_false, if_true, if_false, and_true, true_and, and_false, false_and, Bool.false_eq_true, Bool.true_eq_false, eq_self])
    · have qc5 := c5
      have h2 : ¬ t / 2 % 2 = 0 := fun q => c5 ((qT2 t ht).mpr q)
      refine lv_iconst (v := nI 3) hx hb dX0_turnedSquare_28 (by decide) ?_
      refine lv_iload_n hx hb dX0_turnedSquare_29 rfl (lv_at hl 1 rfl) ?_
      refine lv_isub hx hb dX0_turnedSquare_30 ?_
      refine zrwi (y := nI (3 - (sq % 4))) (pk_sub (by omega)) ?_
      refine lv_istore_n (lv' := [(2, .int (nI (3 - (sq % 4)))), (3, .int (nI (sq / 4))), (4, .int (nI (sq / 4))), (0, .int (nI sq)), (1, .int (nI t))]) hx hb dX0_turnedSquare_31 rfl hl (by decide) rfl (fun ls hl => ?_)
      refine lv_iload_n hx hb dX0_turnedSquare_32 rfl (lv_at hl 4 rfl) ?_
      refine lv_iconst (v := nI 4) hx hb dX0_turnedSquare_33 (by decide) ?_
      refine lv_iand hx hb dX0_turnedSquare_34 ?_
      refine lv_if_eq (tgt := 42) hx hb dX0_turnedSquare_35 (by decide) (fun c7 => ?_) (fun c7 => ?_)
      · have qc7 := c7
        have h3 : t / 4 % 2 = 0 := (qT4 t ht).mp c7
        refine lv_iconst (v := nI 4) hx hb dX0_turnedSquare_42 (by decide) ?_
        refine lv_iload_n hx hb dX0_turnedSquare_43 rfl (lv_at hl 0 rfl) ?_
        refine lv_imul hx hb dX0_turnedSquare_44 ?_
        refine zrwi (y := nI (4 * (3 - (sq % 4)))) (pk_mul _ _) ?_
        refine lv_iload_n hx hb dX0_turnedSquare_45 rfl (lv_at hl 1 rfl) ?_
        refine lv_iadd hx hb dX0_turnedSquare_46 ?_
        refine zrwi (y := nI ((4 * (3 - (sq % 4))) + (sq / 4))) (nI_add _ _) ?_
        exact zreti Z hr hlk () X dX0_turnedSquare_47 rfl (by show _ = nI (tsq sq t); simp only [tsq, h1, h2, h3, decide_true, decide_false, Bool.and_true, Bool.and_false, Bool.true_and, Bool.false_and, not_true_eq_false, not_false_eq_true, Bool.not_true, Bool.not_false, if_true, if_false, and_true, true_and, and_false, false_and, Bool.false_eq_true, Bool.true_eq_false, eq_self])
      · have qc7 := c7
        have h3 : ¬ t / 4 % 2 = 0 := fun q => c7 ((qT4 t ht).mpr q)
        refine lv_iconst (v := nI 3) hx hb dX0_turnedSquare_38 (by decide) ?_
        refine lv_iload_n hx hb dX0_turnedSquare_39 rfl (lv_at hl 1 rfl) ?_
        refine lv_isub hx hb dX0_turnedSquare_40 ?_
        refine zrwi (y := nI (3 - (sq / 4))) (pk_sub (by omega)) ?_
        refine lv_istore_n (lv' := [(3, .int (nI (3 - (sq / 4)))), (2, .int (nI (3 - (sq % 4)))), (4, .int (nI (sq / 4))), (0, .int (nI sq)), (1, .int (nI t))]) hx hb dX0_turnedSquare_41 rfl hl (by decide) rfl (fun ls hl => ?_)
        refine lv_iconst (v := nI 4) hx hb dX0_turnedSquare_42 (by decide) ?_
        refine lv_iload_n hx hb dX0_turnedSquare_43 rfl (lv_at hl 1 rfl) ?_
        refine lv_imul hx hb dX0_turnedSquare_44 ?_
        refine zrwi (y := nI (4 * (3 - (sq % 4)))) (pk_mul _ _) ?_
        refine lv_iload_n hx hb dX0_turnedSquare_45 rfl (lv_at hl 0 rfl) ?_
        refine lv_iadd hx hb dX0_turnedSquare_46 ?_
        refine zrwi (y := nI ((4 * (3 - (sq % 4))) + (3 - (sq / 4)))) (nI_add _ _) ?_
        exact zreti Z hr hlk () X dX0_turnedSquare_47 rfl (by show _ = nI (tsq sq t); simp only [tsq, h1, h2, h3, decide_true, decide_false, Bool.and_true, Bool.and_false, Bool.true_and, Bool.false_and, not_true_eq_false, not_false_eq_true, Bool.not_true, Bool.not_false, if_true, if_false, and_true, true_and, and_false, false_and, Bool.false_eq_true, Bool.true_eq_false, eq_self])
def P_X0_turned (x : Int64) (t : Nat) : Int64 → Unit → Prop := fun r _ => r = qTurned x t
set_option maxHeartbeats 4000000 in
set_option maxRecDepth 100000 in
theorem c_X0_turned (l : Launch) (g : zG) (x : Int64) (t : Nat) (ht : t < 8) : zM l yX0_turned wsX0_turned 1 60 g [.long x, .int (nI t)] ([]) zE0 (zQl g (P_X0_turned x t) (fun _ : Unit => [])) := by
  refine zstart (cc := cX0_turned) (maxL := 6) (ret := (some .long)) (own := RX0) rfl (by decide) rfl zSt0 (Nat.le_of_ble_eq_true rfl) ?_
  intro p e s m below meth c A Z hr hlk H locs X ls hl
  have hx := Z.1.1
  have hb := Z.1.2.1
  have hl : lv_has ls 6 [(0, .long x), (2, .int (nI t))] := hl
  have X : zh g A ([]) s.heap H locs := X
  refine lv_lconst (v := (0 : Int64)) hx hb dX0_turned_0 (by decide) ?_
  refine lv_lstore_n (lv' := [(3, .long (0 : Int64)), (0, .long x), (2, .int (nI t))]) hx hb dX0_turned_1 rfl hl (by decide) rfl (fun ls hl => ?_)
  refine lv_iconst (v := (0 : Int32)) hx hb dX0_turned_2 (by decide) ?_
  refine lv_istore (lv' := [(5, .int (0 : Int32)), (3, .long (0 : Int64)), (0, .long x), (2, .int (nI t))]) hx hb dX0_turned_3 hl (by decide) rfl (fun ls hl => ?_)
  have cut5 : ∀ (n5 : Nat), ∀ (k : Nat) (acc : Int64), (k ≤ 16) → (acc = qTrn x t k) → (17 - k ≤ n5) → ∀ (H : Heap) (locs : List Loc) (ls : Array Slot), zh g A ([]) s.heap H locs → lv_has ls 6 [(5, .int (nI k)), (3, .long acc), (0, .long x), (2, .int (nI t))] → W p l e { frames := 1, cells := 0, slots := 0, locals := 60 } s m ([.long x, .int (nI t)] : List Value).toArray below meth c H locs 0 0 (MQ below ((zQl g (P_X0_turned x t) (fun _ : Unit => [])) A) ([.long x, .int (nI t)] : List Value).toArray s 0 0 A) (F0 m 5 ls []) := by
    intro n5
    induction n5 with
    | zero =>
      intro k acc hk hacc hm5
      exact absurd hm5 (by omega)
    | succ n5 ih5 =>
      intro k acc hk hacc hm5 H locs ls X hl
      refine lv_iload hx hb dX0_turned_5 (lv_at hl 0 rfl) ?_
      refine lv_bipush (v := (16 : Int32)) hx hb dX0_turned_7 (by decide) ?_
      refine lv_icmp_ge (tgt := 36) hx hb dX0_turned_9 (by decide) (fun c1 => ?_) (fun c1 => ?_)
      · have qc1 := c1
        have c1n : 16 ≤ k := zn_let (by omega) (by omega) c1
        refine lv_lload_n hx hb dX0_turned_36 rfl (lv_at hl 1 rfl) ?_
        exact zretl Z hr hlk () X dX0_turned_37 (by show _ = qTurned x t; rw [hacc, show k = 16 by omega]; rfl)
      · have qc1 := c1
        have c1n : ¬ 16 ≤ k := zn_len (by omega) (by omega) c1
        refine lv_lload_n hx hb dX0_turned_12 rfl (lv_at hl 1 rfl) ?_
        refine lv_lload_n hx hb dX0_turned_13 rfl (lv_at hl 2 rfl) ?_
        refine lv_iload hx hb dX0_turned_14 (lv_at hl 0 rfl) ?_
        refine lv_lushr hx hb dX0_turned_16 rfl ?_
        refine lv_ldc2 (v := (281479271743489 : Int64)) hx hb Z.1.2.2.2.1 (Z.1.2.2.2.2 (.constantLong RX0 151 (281479271743489)) (by decide +kernel)) dX0_turned_17 ?_
        refine lv_land hx hb dX0_turned_20 ?_
        refine lv_iload hx hb dX0_turned_21 (lv_at hl 0 rfl) ?_
        refine lv_iload_n hx hb dX0_turned_23 rfl (lv_at hl 3 rfl) ?_
        refine zcallSi (n := 2) (As := [.int (nI k), .int (nI t)]) (rest := [.long (((x.toUInt64 >>> ((nI k).toInt64.toUInt64 &&& Int64.toUInt64 63)).toInt64) &&& (281479271743489 : Int64)), .long acc]) Z X (c_X0_turnedSquare l g k t (by omega) (by omega)) gX0_turned_X0_turnedSquare rfl (by decide +kernel) ⟨Nat.le_of_ble_eq_true rfl, Nat.le_of_ble_eq_true rfl⟩ rfl rfl hl.1 (Nat.le_of_ble_eq_true rfl) dX0_turned_24 ⟨Nat.zero_le _, Nat.zero_le _⟩ (fun r1 H locs hrr1 X => ?_)
        obtain rfl : r1 = nI (tsq k t) := hrr1
        refine lv_lshl hx hb dX0_turned_27 rfl ?_
        refine lv_lor hx hb dX0_turned_28 ?_
        refine lv_topl (fun x3 ex3 => ?_)
        refine lv_lstore_n (lv' := [(3, .long x3), (5, .int (nI k)), (0, .long x), (2, .int (nI t))]) hx hb dX0_turned_29 rfl hl (by decide) rfl (fun ls hl => ?_)
        refine lv_iinc (v := nI (k + 1)) (lv' := [(5, .int (nI (k + 1))), (3, .long x3), (0, .long x), (2, .int (nI t))]) hx hb dX0_turned_30 hl (k := 1) rfl (zi_inc k) (by decide) rfl (fun ls hl => ?_)
        refine lv_goto (tgt := 5) hx hb dX0_turned_33 (by decide) ?_
        exact ih5 (k + 1) x3 (by first | assumption | omega) (by subst ex3; rw [hacc]; rfl) (by omega) H locs ls X (lv_sub hl [0, 1, 2, 3] rfl)
  exact cut5 17 0 0 (by first | assumption | omega) (rfl) (by omega) H locs ls X (lv_sub hl [0, 1, 2, 3] rfl)
def P_X0_levelled (x : Int64) (sq : Int32) : Int64 → Unit → Prop := fun r _ => r = qLev x sq
set_option maxHeartbeats 4000000 in
set_option maxRecDepth 100000 in
theorem c_X0_levelled (l : Launch) (g : zG) (x : Int64) (sq : Int32)  : zM l yX0_levelled wsX0_levelled 1 60 g [.long x, .int sq] ([]) zE0 (zQl g (P_X0_levelled x sq) (fun _ : Unit => [])) := by
  refine zstart (cc := cX0_levelled) (maxL := 7) (ret := (some .long)) (own := RX0) rfl (by decide) rfl zSt0 (Nat.le_of_ble_eq_true rfl) ?_
  intro p e s m below meth c A Z hr hlk H locs X ls hl
  have hx := Z.1.1
  have hb := Z.1.2.1
  have hl : lv_has ls 7 [(0, .long x), (2, .int sq)] := hl
  have X : zh g A ([]) s.heap H locs := X
  refine lv_iload_n hx hb dX0_levelled_0 rfl (lv_at hl 1 rfl) ?_
  refine lv_iload_n hx hb dX0_levelled_1 rfl (lv_at hl 1 rfl) ?_
  refine lv_ineg hx hb dX0_levelled_2 ?_
  refine lv_iand hx hb dX0_levelled_3 ?_
  refine lv_istore_n (lv' := [(3, .int (sq &&& (-sq))), (0, .long x), (2, .int sq)]) hx hb dX0_levelled_4 rfl hl (by decide) rfl (fun ls hl => ?_)
  refine lv_lload_n hx hb dX0_levelled_5 rfl (lv_at hl 1 rfl) ?_
  refine lv_lstore (lv' := [(4, .long x), (3, .int (sq &&& (-sq))), (0, .long x), (2, .int sq)]) hx hb dX0_levelled_6 hl (by decide) rfl (fun ls hl => ?_)
  refine lv_iconst (v := (0 : Int32)) hx hb dX0_levelled_8 (by decide) ?_
  refine lv_istore (lv' := [(6, .int (0 : Int32)), (4, .long x), (3, .int (sq &&& (-sq))), (0, .long x), (2, .int sq)]) hx hb dX0_levelled_9 hl (by decide) rfl (fun ls hl => ?_)
  have cut11 : ∀ (n11 : Nat), ∀ (k : Nat) (acc : Int64), (k ≤ 4) → (acc = qLvC x sq k) → (5 - k ≤ n11) → ∀ (H : Heap) (locs : List Loc) (ls : Array Slot), zh g A ([]) s.heap H locs → lv_has ls 7 [(6, .int (nI k)), (4, .long acc), (3, .int (sq &&& -sq)), (0, .long x), (2, .int sq)] → W p l e { frames := 1, cells := 0, slots := 0, locals := 60 } s m ([.long x, .int sq] : List Value).toArray below meth c H locs 0 0 (MQ below ((zQl g (P_X0_levelled x sq) (fun _ : Unit => [])) A) ([.long x, .int sq] : List Value).toArray s 0 0 A) (F0 m 11 ls []) := by
    intro n11
    induction n11 with
    | zero =>
      intro k acc hk hacc hm11
      exact absurd hm11 (by omega)
    | succ n11 ih11 =>
      intro k acc hk hacc hm11 H locs ls X hl
      refine lv_iload hx hb dX0_levelled_11 (lv_at hl 0 rfl) ?_
      refine lv_iconst (v := (4 : Int32)) hx hb dX0_levelled_13 (by decide) ?_
      refine lv_icmp_ge (tgt := 47) hx hb dX0_levelled_14 (by decide) (fun c1 => ?_) (fun c1 => ?_)
      · have qc1 := c1
        have c1n : 4 ≤ k := zn_let (by omega) (by omega) c1
        refine lv_lload hx hb dX0_levelled_47 (lv_at hl 1 rfl) ?_
        exact zretl Z hr hlk () X dX0_levelled_49 (by show _ = qLev x sq; rw [hacc, show k = 4 by omega]; rfl)
      · have qc1 := c1
        have c1n : ¬ 4 ≤ k := zn_len (by omega) (by omega) c1
        refine lv_lload_n hx hb dX0_levelled_17 rfl (lv_at hl 3 rfl) ?_
        refine lv_iload hx hb dX0_levelled_18 (lv_at hl 0 rfl) ?_
        refine zcallSi (n := 2) (As := [.long x, .int (nI k)]) (rest := []) Z X (c_X0_withOne l g x (nI k)) gX0_levelled_X0_withOne rfl (by decide +kernel) ⟨Nat.le_of_ble_eq_true rfl, Nat.le_of_ble_eq_true rfl⟩ rfl rfl hl.1 (Nat.le_of_ble_eq_true rfl) dX0_levelled_20 ⟨Nat.zero_le _, Nat.zero_le _⟩ (fun r1 H locs hrr1 X => ?_)
        obtain rfl : r1 = qOne x (nI k) := hrr1
        refine lv_iload_n hx hb dX0_levelled_23 rfl (lv_at hl 2 rfl) ?_
        refine lv_iand hx hb dX0_levelled_24 ?_
        refine lv_if_eq (tgt := 41) hx hb dX0_levelled_25 (by decide) (fun c3 => ?_) (fun c3 => ?_)
        · have qc3 := c3
          refine lv_iinc (v := nI (k + 1)) (lv' := [(6, .int (nI (k + 1))), (4, .long acc), (3, .int (sq &&& -sq)), (0, .long x), (2, .int sq)]) hx hb dX0_levelled_41 hl (k := 0) rfl (zi_inc k) (by decide) rfl (fun ls hl => ?_)
          refine lv_goto (tgt := 11) hx hb dX0_levelled_44 (by decide) ?_
          exact ih11 (k + 1) acc (by first | assumption | omega) (by rw [hacc]; simp only [qLvC, c1n, c3, decide_true, decide_false, Bool.and_true, Bool.and_false, Bool.true_and, Bool.false_and, not_true_eq_false, not_false_eq_true, Bool.not_true, Bool.not_false, if_true, if_false, and_true, true_and, and_false, false_and, Bool.false_eq_true, Bool.true_eq_false, eq_self]) (by omega) H locs ls X (lv_sub hl [0, 1, 2, 3, 4] rfl)
        · have qc3 := c3
          refine lv_lload hx hb dX0_levelled_28 (lv_at hl 1 rfl) ?_
          refine lv_iload_n hx hb dX0_levelled_30 rfl (lv_at hl 4 rfl) ?_
          refine lv_i2l hx hb dX0_levelled_31 rfl ?_
          refine lv_bipush (v := (16 : Int32)) hx hb dX0_levelled_32 (by decide) ?_
          refine lv_iload hx hb dX0_levelled_34 (lv_at hl 0 rfl) ?_
          refine lv_imul hx hb dX0_levelled_36 ?_
          refine lv_lshl hx hb dX0_levelled_37 rfl ?_
          refine lv_lxor hx hb dX0_levelled_38 ?_
          refine lv_topl (fun x4 ex4 => ?_)
          refine lv_lstore (lv' := [(4, .long x4), (6, .int (nI k)), (3, .int (sq &&& -sq)), (0, .long x), (2, .int sq)]) hx hb dX0_levelled_39 hl (by decide) rfl (fun ls hl => ?_)
          refine lv_iinc (v := nI (k + 1)) (lv' := [(6, .int (nI (k + 1))), (4, .long x4), (3, .int (sq &&& -sq)), (0, .long x), (2, .int sq)]) hx hb dX0_levelled_41 hl (k := 1) rfl (zi_inc k) (by decide) rfl (fun ls hl => ?_)
          refine lv_goto (tgt := 11) hx hb dX0_levelled_44 (by decide) ?_
          exact ih11 (k + 1) x4 (by first | assumption | omega) (by subst ex4; rw [hacc]; simp only [qLvC, c1n, c3, decide_true, decide_false, Bool.and_true, Bool.and_false, Bool.true_and, Bool.false_and, not_true_eq_false, not_false_eq_true, Bool.not_true, Bool.not_false, if_true, if_false, and_true, true_and, and_false, false_and, Bool.false_eq_true, Bool.true_eq_false, eq_self]) (by omega) H locs ls X (lv_sub hl [0, 1, 2, 3, 4] rfl)
  exact cut11 5 0 x (by first | assumption | omega) (rfl) (by omega) H locs ls X (lv_sub hl [0, 1, 2, 3, 4] rfl)
def P_X0_equalMarks (x : Int64) (M : Nat) (ones : Int32) : Int32 → Unit → Prop := fun r _ => r = nI (qEqC x ones M)
set_option maxHeartbeats 4000000 in
set_option maxRecDepth 100000 in
theorem c_X0_equalMarks (l : Launch) (g : zG) (x : Int64) (M : Nat) (ones : Int32) (hM : M ≤ 4) : zM l yX0_equalMarks wsX0_equalMarks 1 60 g [.long x, .int (nI M), .int ones] ([]) zE0 (zQi g (P_X0_equalMarks x M ones) (fun _ : Unit => [])) := by
  refine zstart (cc := cX0_equalMarks) (maxL := 6) (ret := (some .int)) (own := RX0) rfl (by decide) rfl zSt0 (Nat.le_of_ble_eq_true rfl) ?_
  intro p e s m below meth c A Z hr hlk H locs X ls hl
  have hx := Z.1.1
  have hb := Z.1.2.1
  have hl : lv_has ls 6 [(0, .long x), (2, .int (nI M)), (3, .int ones)] := hl
  have X : zh g A ([]) s.heap H locs := X
  refine lv_iconst (v := (0 : Int32)) hx hb dX0_equalMarks_0 (by decide) ?_
  refine lv_istore (lv' := [(4, .int (0 : Int32)), (0, .long x), (2, .int (nI M)), (3, .int ones)]) hx hb dX0_equalMarks_1 hl (by decide) rfl (fun ls hl => ?_)
  refine lv_iconst (v := (0 : Int32)) hx hb dX0_equalMarks_3 (by decide) ?_
  refine lv_istore (lv' := [(5, .int (0 : Int32)), (4, .int (0 : Int32)), (0, .long x), (2, .int (nI M)), (3, .int ones)]) hx hb dX0_equalMarks_4 hl (by decide) rfl (fun ls hl => ?_)
  have cut6 : ∀ (n6 : Nat), ∀ (k : Nat) (n : Nat), (k ≤ M) → (n = qEqC x ones k) → (M + 1 - k ≤ n6) → ∀ (H : Heap) (locs : List Loc) (ls : Array Slot), zh g A ([]) s.heap H locs → lv_has ls 6 [(5, .int (nI k)), (4, .int (nI n)), (0, .long x), (2, .int (nI M)), (3, .int ones)] → W p l e { frames := 1, cells := 0, slots := 0, locals := 60 } s m ([.long x, .int (nI M), .int ones] : List Value).toArray below meth c H locs 0 0 (MQ below ((zQi g (P_X0_equalMarks x M ones) (fun _ : Unit => [])) A) ([.long x, .int (nI M), .int ones] : List Value).toArray s 0 0 A) (F0 m 6 ls []) := by
    intro n6
    induction n6 with
    | zero =>
      intro k n hk hn hm6
      exact absurd hm6 (by omega)
    | succ n6 ih6 =>
      intro k n hk hn hm6 H locs ls X hl
      refine lv_iload hx hb dX0_equalMarks_6 (lv_at hl 0 rfl) ?_
      refine lv_iload_n hx hb dX0_equalMarks_8 rfl (lv_at hl 3 rfl) ?_
      refine lv_icmp_ge (tgt := 31) hx hb dX0_equalMarks_9 (by decide) (fun c1 => ?_) (fun c1 => ?_)
      · have qc1 := c1
        have c1n : M ≤ k := zn_let (by omega) (by omega) c1
        refine lv_iload hx hb dX0_equalMarks_31 (lv_at hl 1 rfl) ?_
        exact zreti Z hr hlk () X dX0_equalMarks_33 rfl (by show _ = nI (qEqC x ones M); rw [hn, show k = M by omega])
      · have qc1 := c1
        have c1n : ¬ M ≤ k := zn_len (by omega) (by omega) c1
        refine lv_lload_n hx hb dX0_equalMarks_12 rfl (lv_at hl 2 rfl) ?_
        refine lv_iload hx hb dX0_equalMarks_13 (lv_at hl 0 rfl) ?_
        refine zcallSi (n := 2) (As := [.long x, .int (nI k)]) (rest := []) Z X (c_X0_withOne l g x (nI k)) gX0_equalMarks_X0_withOne rfl (by decide +kernel) ⟨Nat.le_of_ble_eq_true rfl, Nat.le_of_ble_eq_true rfl⟩ rfl rfl hl.1 (Nat.le_of_ble_eq_true rfl) dX0_equalMarks_15 ⟨Nat.zero_le _, Nat.zero_le _⟩ (fun r1 H locs hrr1 X => ?_)
        obtain rfl : r1 = qOne x (nI k) := hrr1
        refine lv_iload_n hx hb dX0_equalMarks_18 rfl (lv_at hl 4 rfl) ?_
        refine lv_icmp_ne (tgt := 25) hx hb dX0_equalMarks_19 (by decide) (fun c3 => ?_) (fun c3 => ?_)
        · have qc3 := c3
          refine lv_iinc (v := nI (k + 1)) (lv' := [(5, .int (nI (k + 1))), (4, .int (nI n)), (0, .long x), (2, .int (nI M)), (3, .int ones)]) hx hb dX0_equalMarks_25 hl (k := 0) rfl (zi_inc k) (by decide) rfl (fun ls hl => ?_)
          refine lv_goto (tgt := 6) hx hb dX0_equalMarks_28 (by decide) ?_
          exact ih6 (k + 1) n (by first | assumption | omega) (by rw [hn]; simp only [qEqC, c1n, c3, decide_true, decide_false, Bool.and_true, Bool.and_false, Bool.true_and, Bool.false_and, not_true_eq_false, not_false_eq_true, Bool.not_true, Bool.not_false, if_true, if_false, and_true, true_and, and_false, false_and, Bool.false_eq_true, Bool.true_eq_false, eq_self]) (by omega) H locs ls X (lv_sub hl [0, 1, 2, 3, 4] rfl)
        · have qc3 := c3
          refine lv_iinc (v := nI (n + 1)) (lv' := [(4, .int (nI (n + 1))), (5, .int (nI k)), (0, .long x), (2, .int (nI M)), (3, .int ones)]) hx hb dX0_equalMarks_22 hl (k := 1) rfl (zi_inc n) (by decide) rfl (fun ls hl => ?_)
          refine lv_iinc (v := nI (k + 1)) (lv' := [(5, .int (nI (k + 1))), (4, .int (nI (n + 1))), (0, .long x), (2, .int (nI M)), (3, .int ones)]) hx hb dX0_equalMarks_25 hl (k := 1) rfl (zi_inc k) (by decide) rfl (fun ls hl => ?_)
          refine lv_goto (tgt := 6) hx hb dX0_equalMarks_28 (by decide) ?_
          exact ih6 (k + 1) (n + 1) (by first | assumption | omega) (by rw [hn]; simp only [qEqC, c1n, c3, decide_true, decide_false, Bool.and_true, Bool.and_false, Bool.true_and, Bool.false_and, not_true_eq_false, not_false_eq_true, Bool.not_true, Bool.not_false, if_true, if_false, and_true, true_and, and_false, false_and, Bool.false_eq_true, Bool.true_eq_false, eq_self]) (by omega) H locs ls X (lv_sub hl [0, 1, 2, 3, 4] rfl)
  exact cut6 (M + 1) 0 0 (by first | assumption | omega) (rfl) (by omega) H locs ls X (lv_sub hl [0, 1, 2, 3, 4] rfl)
theorem inw_X0_waysOfMarks : ∀ w ∈ wsX00, w ∈ wsX0_waysOfMarks := by decide +kernel
theorem lk_X0_waysOfMarks_16 : Cond.fieldLink RX0 16 "Quarterboard" "filled" "I" ∈ wsX0_waysOfMarks := by decide +kernel
theorem lk_X0_waysOfMarks_38 : Cond.fieldLink RX0 38 "Quarterboard" "digits" "J" ∈ wsX0_waysOfMarks := by decide +kernel
def P_X0_waysOfMarks (q0 q1 q2 q3 q4 q5 q6 : Int32) (q7 : Int64) (q8 q9 : Int32) (q10 : Int64) (t : Nat) (of : Int32) (od : Int64) : Int32 → QS → Prop := fun r u => u = (q0, q1, q2, q3, q4, q5, q6, q7, q8, q9, q10) ∧ r = qWays q5 q7 t of od
set_option maxHeartbeats 4000000 in
set_option maxRecDepth 100000 in
theorem c_X0_waysOfMarks (l : Launch) (g : zG) (bL h : Nat) (q0 q1 q2 q3 q4 q5 q6 : Int32) (q7 : Int64) (q8 q9 : Int32) (q10 : Int64) (t : Nat) (of : Int32) (od : Int64) (ht : t < 8) : zM l yX0_waysOfMarks wsX0_waysOfMarks 3 200 g [.ref h, .int (nI t), .int of, .long od] (oQ h (q0, q1, q2, q3, q4, q5, q6, q7, q8, q9, q10)) (zEL bL) (zQi g (P_X0_waysOfMarks q0 q1 q2 q3 q4 q5 q6 q7 q8 q9 q10 t of od) (oQ h)) := by
  refine zstart (cc := cX0_waysOfMarks) (maxL := 12) (ret := (some .int)) (own := RX0) rfl (by decide) rfl zStL (Nat.le_of_ble_eq_true rfl) ?_
  intro p e s m below meth c A Z hr hlk H locs X ls hl
  have hx := Z.1.1
  have hb := Z.1.2.1
  have hin : ∀ w ∈ wsX00, w ∈ wsX0_waysOfMarks := inw_X0_waysOfMarks
  have hl : lv_has ls 12 [(0, .ref h), (1, .int (nI t)), (2, .int of), (3, .long od)] := hl
  have X : zh g A (oQ h (q0, q1, q2, q3, q4, q5, q6, q7, q8, q9, q10)) s.heap H locs := X
  refine lv_aload_n hx hb dX0_waysOfMarks_0 rfl (lv_at hl 0 rfl) ?_
  refine zget (fs := [.int q0, .int q1, .int q2, .int q3, .int q4, .int q5, .int q6, .long q7, .int q8, .int q9, .long q10]) (v := .int q5) Z hin X (ci := 0) (C := RX0) (T := TX0) (N := 11) rfl rfl 5 (by decide) lk_X0_waysOfMarks_16 rfl dX0_waysOfMarks_1 ?_
  refine lv_i2l hx hb dX0_waysOfMarks_4 rfl ?_
  refine lv_iload_n hx hb dX0_waysOfMarks_5 rfl (lv_at hl 1 rfl) ?_
  refine zcallSl (n := 2) (As := [.long q5.toInt64, .int (nI t)]) (rest := []) Z X (c_X0_turned l g q5.toInt64 t (by omega)) gX0_waysOfMarks_X0_turned rfl (by decide +kernel) ⟨Nat.le_of_ble_eq_true rfl, Nat.le_of_ble_eq_true rfl⟩ rfl rfl hl.1 (Nat.le_of_ble_eq_true rfl) dX0_waysOfMarks_6 ⟨Nat.zero_le _, Nat.zero_le _⟩ (fun r0 H locs hrr0 X => ?_)
  obtain rfl : r0 = qTurned q5.toInt64 t := hrr0
  refine lv_l2i hx hb dX0_waysOfMarks_9 rfl ?_
  refine lv_iload_n hx hb dX0_waysOfMarks_10 rfl (lv_at hl 2 rfl) ?_
  refine lv_icmp_eq (tgt := 16) hx hb dX0_waysOfMarks_11 (by decide) (fun c2 => ?_) (fun c2 => ?_)
  · have qc2 := c2
    have h1 : (qTurned q5.toInt64 t).toInt32 = of := c2
    refine lv_iload_n hx hb dX0_waysOfMarks_16 rfl (lv_at hl 2 rfl) ?_
    refine lv_if_ne (tgt := 24) hx hb dX0_waysOfMarks_17 (by decide) (fun c3 => ?_) (fun c3 => ?_)
    · have qc3 := c3
      refine lv_aload_n hx hb dX0_waysOfMarks_24 rfl (lv_at hl 0 rfl) ?_
      refine zget (fs := [.int q0, .int q1, .int q2, .int q3, .int q4, .int q5, .int q6, .long q7, .int q8, .int q9, .long q10]) (v := .long q7) Z hin X (ci := 0) (C := RX0) (T := TX0) (N := 11) rfl rfl 7 (by decide) lk_X0_waysOfMarks_38 rfl dX0_waysOfMarks_25 ?_
      refine lv_iload_n hx hb dX0_waysOfMarks_28 rfl (lv_at hl 1 rfl) ?_
      refine zcallSl (n := 2) (As := [.long q7, .int (nI t)]) (rest := []) Z X (c_X0_turned l g q7 t (by omega)) gX0_waysOfMarks_X0_turned rfl (by decide +kernel) ⟨Nat.le_of_ble_eq_true rfl, Nat.le_of_ble_eq_true rfl⟩ rfl rfl hl.1 (Nat.le_of_ble_eq_true rfl) dX0_waysOfMarks_29 ⟨Nat.zero_le _, Nat.zero_le _⟩ (fun r3 H locs hrr3 X => ?_)
      obtain rfl : r3 = qTurned q7 t := hrr3
      refine lv_iload_n hx hb dX0_waysOfMarks_32 rfl (lv_at hl 2 rfl) ?_
      refine zcallSl (n := 2) (As := [.long (qTurned q7 t), .int of]) (rest := []) Z X (c_X0_levelled l g (qTurned q7 t) of ) gX0_waysOfMarks_X0_levelled rfl (by decide +kernel) ⟨Nat.le_of_ble_eq_true rfl, Nat.le_of_ble_eq_true rfl⟩ rfl rfl hl.1 (Nat.le_of_ble_eq_true rfl) dX0_waysOfMarks_33 ⟨Nat.zero_le _, Nat.zero_le _⟩ (fun r4 H locs hrr4 X => ?_)
      obtain rfl : r4 = qLev (qTurned q7 t) of := hrr4
      refine lv_lstore (lv' := [(5, .long (qLev (qTurned q7 t) of)), (0, .ref h), (1, .int (nI t)), (2, .int of), (3, .long od)]) hx hb dX0_waysOfMarks_36 hl (by decide) rfl (fun ls hl => ?_)
      refine lv_lload_n hx hb dX0_waysOfMarks_38 rfl (lv_at hl 4 rfl) ?_
      refine lv_iload_n hx hb dX0_waysOfMarks_39 rfl (lv_at hl 3 rfl) ?_
      refine zcallSl (n := 2) (As := [.long od, .int of]) (rest := []) Z X (c_X0_levelled l g od of ) gX0_waysOfMarks_X0_levelled rfl (by decide +kernel) ⟨Nat.le_of_ble_eq_true rfl, Nat.le_of_ble_eq_true rfl⟩ rfl rfl hl.1 (Nat.le_of_ble_eq_true rfl) dX0_waysOfMarks_40 ⟨Nat.zero_le _, Nat.zero_le _⟩ (fun r5 H locs hrr5 X => ?_)
      obtain rfl : r5 = qLev od of := hrr5
      refine lv_lstore (lv' := [(7, .long (qLev od of)), (5, .long (qLev (qTurned q7 t) of)), (0, .ref h), (1, .int (nI t)), (2, .int of), (3, .long od)]) hx hb dX0_waysOfMarks_43 hl (by decide) rfl (fun ls hl => ?_)
      refine lv_iconst (v := (1 : Int32)) hx hb dX0_waysOfMarks_45 (by decide) ?_
      refine lv_istore (lv' := [(9, .int (1 : Int32)), (7, .long (qLev od of)), (5, .long (qLev (qTurned q7 t) of)), (0, .ref h), (1, .int (nI t)), (2, .int of), (3, .long od)]) hx hb dX0_waysOfMarks_46 hl (by decide) rfl (fun ls hl => ?_)
      refine lv_iconst (v := (0 : Int32)) hx hb dX0_waysOfMarks_48 (by decide) ?_
      refine lv_istore (lv' := [(10, .int (0 : Int32)), (9, .int (1 : Int32)), (7, .long (qLev od of)), (5, .long (qLev (qTurned q7 t) of)), (0, .ref h), (1, .int (nI t)), (2, .int of), (3, .long od)]) hx hb dX0_waysOfMarks_49 hl (by decide) rfl (fun ls hl => ?_)
      have cut51 : ∀ (n51 : Nat), ∀ (k : Nat) (acc : Int32), (k ≤ 4) → (acc = qWyC (qLev (qTurned q7 t) of) (qLev od of) k) → (5 - k ≤ n51) → ∀ (H : Heap) (locs : List Loc) (ls : Array Slot), zh g A (oQ h (q0, q1, q2, q3, q4, q5, q6, q7, q8, q9, q10)) s.heap H locs → lv_has ls 12 [(10, .int (nI k)), (9, .int acc), (7, .long (qLev od of)), (5, .long (qLev (qTurned q7 t) of)), (0, .ref h), (1, .int (nI t)), (2, .int of), (3, .long od)] → W p l e { frames := 3, cells := 0, slots := 0, locals := 200 } s m ([.ref h, .int (nI t), .int of, .long od] : List Value).toArray below meth c H locs 0 0 (MQ below ((zQi g (P_X0_waysOfMarks q0 q1 q2 q3 q4 q5 q6 q7 q8 q9 q10 t of od) (oQ h)) A) ([.ref h, .int (nI t), .int of, .long od] : List Value).toArray s 0 0 A) (F0 m 51 ls []) := by
        intro n51
        induction n51 with
        | zero =>
          intro k acc hk hacc hm51
          exact absurd hm51 (by omega)
        | succ n51 ih51 =>
          intro k acc hk hacc hm51 H locs ls X hl
          refine lv_iload hx hb dX0_waysOfMarks_51 (lv_at hl 0 rfl) ?_
          refine lv_iconst (v := (4 : Int32)) hx hb dX0_waysOfMarks_53 (by decide) ?_
          refine lv_icmp_ge (tgt := 95) hx hb dX0_waysOfMarks_54 (by decide) (fun c7 => ?_) (fun c7 => ?_)
          · have qc7 := c7
            have c7n : 4 ≤ k := zn_let (by omega) (by omega) c7
            refine lv_iload hx hb dX0_waysOfMarks_95 (lv_at hl 1 rfl) ?_
            exact zreti Z hr hlk (q0, q1, q2, q3, q4, q5, q6, q7, q8, q9, q10) X dX0_waysOfMarks_97 rfl (⟨rfl, by simp only [qWays, h1, c3, c7n, decide_true, decide_false, Bool.and_true, Bool.and_false, Bool.true_and, Bool.false_and, not_true_eq_false, not_false_eq_true, Bool.not_true, Bool.not_false, if_true, if_false, and_true, true_and, and_false, false_and, Bool.false_eq_true, Bool.true_eq_false, eq_self]; rw [hacc, show k = 4 by omega]⟩)
          · have qc7 := c7
            have c7n : ¬ 4 ≤ k := zn_len (by omega) (by omega) c7
            refine lv_lload hx hb dX0_waysOfMarks_57 (lv_at hl 3 rfl) ?_
            refine lv_iload hx hb dX0_waysOfMarks_59 (lv_at hl 0 rfl) ?_
            refine zcallSi (n := 2) (As := [.long (qLev (qTurned q7 t) of), .int (nI k)]) (rest := []) Z X (c_X0_withOne l g (qLev (qTurned q7 t) of) (nI k)) gX0_waysOfMarks_X0_withOne rfl (by decide +kernel) ⟨Nat.le_of_ble_eq_true rfl, Nat.le_of_ble_eq_true rfl⟩ rfl rfl hl.1 (Nat.le_of_ble_eq_true rfl) dX0_waysOfMarks_61 ⟨Nat.zero_le _, Nat.zero_le _⟩ (fun r7 H locs hrr7 X => ?_)
            obtain rfl : r7 = qOne (qLev (qTurned q7 t) of) (nI k) := hrr7
            refine lv_istore (lv' := [(11, .int (qOne (qLev (qTurned q7 t) of) (nI k))), (10, .int (nI k)), (9, .int acc), (7, .long (qLev od of)), (5, .long (qLev (qTurned q7 t) of)), (0, .ref h), (1, .int (nI t)), (2, .int of), (3, .long od)]) hx hb dX0_waysOfMarks_64 hl (by decide) rfl (fun ls hl => ?_)
            refine lv_iload hx hb dX0_waysOfMarks_66 (lv_at hl 2 rfl) ?_
            refine lv_lload hx hb dX0_waysOfMarks_68 (lv_at hl 3 rfl) ?_
            refine lv_iconst (v := nI 4) hx hb dX0_waysOfMarks_70 (by decide) ?_
            refine lv_iload hx hb dX0_waysOfMarks_71 (lv_at hl 0 rfl) ?_
            refine zcallSi (n := 3) (As := [.long (qLev od of), .int (nI 4), .int (qOne (qLev (qTurned q7 t) of) (nI k))]) (rest := [.int acc]) Z X (c_X0_equalMarks l g (qLev od of) 4 (qOne (qLev (qTurned q7 t) of) (nI k)) (by omega)) gX0_waysOfMarks_X0_equalMarks rfl (by decide +kernel) ⟨Nat.le_of_ble_eq_true rfl, Nat.le_of_ble_eq_true rfl⟩ rfl rfl hl.1 (Nat.le_of_ble_eq_true rfl) dX0_waysOfMarks_73 ⟨Nat.zero_le _, Nat.zero_le _⟩ (fun r8 H locs hrr8 X => ?_)
            obtain rfl : r8 = nI (qEqC (qLev od of) (qOne (qLev (qTurned q7 t) of) (nI k)) 4) := hrr8
            refine lv_lload hx hb dX0_waysOfMarks_76 (lv_at hl 4 rfl) ?_
            refine lv_iload hx hb dX0_waysOfMarks_78 (lv_at hl 1 rfl) ?_
            refine lv_iload hx hb dX0_waysOfMarks_80 (lv_at hl 0 rfl) ?_
            refine zcallSi (n := 3) (As := [.long (qLev (qTurned q7 t) of), .int (nI k), .int (qOne (qLev (qTurned q7 t) of) (nI k))]) (rest := [.int (nI (qEqC (qLev od of) (qOne (qLev (qTurned q7 t) of) (nI k)) 4)), .int acc]) Z X (c_X0_equalMarks l g (qLev (qTurned q7 t) of) k (qOne (qLev (qTurned q7 t) of) (nI k)) (by omega)) gX0_waysOfMarks_X0_equalMarks rfl (by decide +kernel) ⟨Nat.le_of_ble_eq_true rfl, Nat.le_of_ble_eq_true rfl⟩ rfl rfl hl.1 (Nat.le_of_ble_eq_true rfl) dX0_waysOfMarks_82 ⟨Nat.zero_le _, Nat.zero_le _⟩ (fun r9 H locs hrr9 X => ?_)
            obtain rfl : r9 = nI (qEqC (qLev (qTurned q7 t) of) (qOne (qLev (qTurned q7 t) of) (nI k)) k) := hrr9
            refine lv_isub hx hb dX0_waysOfMarks_85 ?_
            refine lv_imul hx hb dX0_waysOfMarks_86 ?_
            refine lv_topi (fun x11 ex11 => ?_)
            refine lv_istore (lv' := [(9, .int x11), (11, .int (qOne (qLev (qTurned q7 t) of) (nI k))), (10, .int (nI k)), (7, .long (qLev od of)), (5, .long (qLev (qTurned q7 t) of)), (0, .ref h), (1, .int (nI t)), (2, .int of), (3, .long od)]) hx hb dX0_waysOfMarks_87 hl (by decide) rfl (fun ls hl => ?_)
            refine lv_iinc (v := nI (k + 1)) (lv' := [(10, .int (nI (k + 1))), (9, .int x11), (11, .int (qOne (qLev (qTurned q7 t) of) (nI k))), (7, .long (qLev od of)), (5, .long (qLev (qTurned q7 t) of)), (0, .ref h), (1, .int (nI t)), (2, .int of), (3, .long od)]) hx hb dX0_waysOfMarks_89 hl (k := 2) rfl (zi_inc k) (by decide) rfl (fun ls hl => ?_)
            refine lv_goto (tgt := 51) hx hb dX0_waysOfMarks_92 (by decide) ?_
            exact ih51 (k + 1) x11 (by first | assumption | omega) (by subst ex11; rw [hacc]; rfl) (by omega) H locs ls X (lv_sub hl [0, 1, 3, 4, 5, 6, 7, 8] rfl)
      exact cut51 5 0 1 (by first | assumption | omega) (rfl) (by omega) H locs ls X (lv_sub hl [0, 1, 2, 3, 4, 5, 6, 7] rfl)
    · have qc3 := c3
      refine lv_sipush (v := (384 : Int32)) hx hb dX0_waysOfMarks_20 (by decide) ?_
      exact zreti Z hr hlk (q0, q1, q2, q3, q4, q5, q6, q7, q8, q9, q10) X dX0_waysOfMarks_23 rfl (⟨rfl, by simp only [qWays, h1, c3, decide_true, decide_false, Bool.and_true, Bool.and_false, Bool.true_and, Bool.false_and, not_true_eq_false, not_false_eq_true, Bool.not_true, Bool.not_false, if_true, if_false, and_true, true_and, and_false, false_and, Bool.false_eq_true, Bool.true_eq_false, eq_self]⟩)
  · have qc2 := c2
    have h1 : ¬ (qTurned q5.toInt64 t).toInt32 = of := c2
    refine lv_iconst (v := (0 : Int32)) hx hb dX0_waysOfMarks_14 (by decide) ?_
    exact zreti Z hr hlk (q0, q1, q2, q3, q4, q5, q6, q7, q8, q9, q10) X dX0_waysOfMarks_15 rfl (⟨rfl, by simp only [qWays, h1, decide_true, decide_false, Bool.and_true, Bool.and_false, Bool.true_and, Bool.false_and, not_true_eq_false, not_false_eq_true, Bool.not_true, Bool.not_false, if_true, if_false, and_true, true_and, and_false, false_and, Bool.false_eq_true, Bool.true_eq_false, eq_self]⟩)
end
section
/-! the class: what is asked and what is kept -/
def qSym (f : Int32) (d : Int64) (of : Int32) (od : Int64) : Nat → Int32
  | 0 => 0
  | k + 1 => qSym f d of od k + qWays f d k of od
theorem inw_X0_phase : ∀ w ∈ wsX00, w ∈ wsX0_phase := by decide +kernel
theorem lk_X0_phase_29 : Cond.fieldLink RX0 29 "Quarterboard" "stage" "I" ∈ wsX0_phase := by decide +kernel
def P_X0_phase (q0 q1 q2 q3 q4 q5 q6 : Int32) (q7 : Int64) (q8 q9 : Int32) (q10 : Int64) : Int32 → QS → Prop := fun r u => u = (q0, q1, q2, q3, q4, q5, q6, q7, q8, q9, q10) ∧ r = q1
set_option maxHeartbeats 4000000 in
set_option maxRecDepth 100000 in
theorem c_X0_phase (l : Launch) (g : zG) (bL h : Nat) (q0 q1 q2 q3 q4 q5 q6 : Int32) (q7 : Int64) (q8 q9 : Int32) (q10 : Int64)   : zM l yX0_phase wsX0_phase 0 0 g [.ref h] (oQ h (q0, q1, q2, q3, q4, q5, q6, q7, q8, q9, q10)) (zEL bL) (zQi g (P_X0_phase q0 q1 q2 q3 q4 q5 q6 q7 q8 q9 q10) (oQ h)) := by
  refine zstart (cc := cX0_phase) (maxL := 1) (ret := (some .int)) (own := RX0) rfl (by decide) rfl zStL (Nat.le_of_ble_eq_true rfl) ?_
  intro p e s m below meth c A Z hr hlk H locs X ls hl
  have hx := Z.1.1
  have hb := Z.1.2.1
  have hin : ∀ w ∈ wsX00, w ∈ wsX0_phase := inw_X0_phase
  have hl : lv_has ls 1 [(0, .ref h)] := hl
  have X : zh g A (oQ h (q0, q1, q2, q3, q4, q5, q6, q7, q8, q9, q10)) s.heap H locs := X
  refine lv_aload_n hx hb dX0_phase_0 rfl (lv_at hl 0 rfl) ?_
  refine zget (fs := [.int q0, .int q1, .int q2, .int q3, .int q4, .int q5, .int q6, .long q7, .int q8, .int q9, .long q10]) (v := .int q1) Z hin X (ci := 0) (C := RX0) (T := TX0) (N := 11) rfl rfl 1 (by decide) lk_X0_phase_29 rfl dX0_phase_1 ?_
  exact zreti Z hr hlk (q0, q1, q2, q3, q4, q5, q6, q7, q8, q9, q10) X dX0_phase_4 rfl (⟨rfl, rfl⟩)
theorem inw_X0_onTurn : ∀ w ∈ wsX00, w ∈ wsX0_onTurn := by decide +kernel
theorem lk_X0_onTurn_32 : Cond.fieldLink RX0 32 "Quarterboard" "player" "I" ∈ wsX0_onTurn := by decide +kernel
def P_X0_onTurn (q0 q1 q2 q3 q4 q5 q6 : Int32) (q7 : Int64) (q8 q9 : Int32) (q10 : Int64) : Int32 → QS → Prop := fun r u => u = (q0, q1, q2, q3, q4, q5, q6, q7, q8, q9, q10) ∧ r = q2
set_option maxHeartbeats 4000000 in
set_option maxRecDepth 100000 in
theorem c_X0_onTurn (l : Launch) (g : zG) (bL h : Nat) (q0 q1 q2 q3 q4 q5 q6 : Int32) (q7 : Int64) (q8 q9 : Int32) (q10 : Int64)   : zM l yX0_onTurn wsX0_onTurn 0 0 g [.ref h] (oQ h (q0, q1, q2, q3, q4, q5, q6, q7, q8, q9, q10)) (zEL bL) (zQi g (P_X0_onTurn q0 q1 q2 q3 q4 q5 q6 q7 q8 q9 q10) (oQ h)) := by
  refine zstart (cc := cX0_onTurn) (maxL := 1) (ret := (some .int)) (own := RX0) rfl (by decide) rfl zStL (Nat.le_of_ble_eq_true rfl) ?_
  intro p e s m below meth c A Z hr hlk H locs X ls hl
  have hx := Z.1.1
  have hb := Z.1.2.1
  have hin : ∀ w ∈ wsX00, w ∈ wsX0_onTurn := inw_X0_onTurn
  have hl : lv_has ls 1 [(0, .ref h)] := hl
  have X : zh g A (oQ h (q0, q1, q2, q3, q4, q5, q6, q7, q8, q9, q10)) s.heap H locs := X
  refine lv_aload_n hx hb dX0_onTurn_0 rfl (lv_at hl 0 rfl) ?_
  refine zget (fs := [.int q0, .int q1, .int q2, .int q3, .int q4, .int q5, .int q6, .long q7, .int q8, .int q9, .long q10]) (v := .int q2) Z hin X (ci := 0) (C := RX0) (T := TX0) (N := 11) rfl rfl 2 (by decide) lk_X0_onTurn_32 rfl dX0_onTurn_1 ?_
  exact zreti Z hr hlk (q0, q1, q2, q3, q4, q5, q6, q7, q8, q9, q10) X dX0_onTurn_4 rfl (⟨rfl, rfl⟩)
theorem inw_X0_hand : ∀ w ∈ wsX00, w ∈ wsX0_hand := by decide +kernel
theorem lk_X0_hand_9 : Cond.fieldLink RX0 9 "Quarterboard" "held" "I" ∈ wsX0_hand := by decide +kernel
def P_X0_hand (q0 q1 q2 q3 q4 q5 q6 : Int32) (q7 : Int64) (q8 q9 : Int32) (q10 : Int64) : Int32 → QS → Prop := fun r u => u = (q0, q1, q2, q3, q4, q5, q6, q7, q8, q9, q10) ∧ r = q3
set_option maxHeartbeats 4000000 in
set_option maxRecDepth 100000 in
theorem c_X0_hand (l : Launch) (g : zG) (bL h : Nat) (q0 q1 q2 q3 q4 q5 q6 : Int32) (q7 : Int64) (q8 q9 : Int32) (q10 : Int64)   : zM l yX0_hand wsX0_hand 0 0 g [.ref h] (oQ h (q0, q1, q2, q3, q4, q5, q6, q7, q8, q9, q10)) (zEL bL) (zQi g (P_X0_hand q0 q1 q2 q3 q4 q5 q6 q7 q8 q9 q10) (oQ h)) := by
  refine zstart (cc := cX0_hand) (maxL := 1) (ret := (some .int)) (own := RX0) rfl (by decide) rfl zStL (Nat.le_of_ble_eq_true rfl) ?_
  intro p e s m below meth c A Z hr hlk H locs X ls hl
  have hx := Z.1.1
  have hb := Z.1.2.1
  have hin : ∀ w ∈ wsX00, w ∈ wsX0_hand := inw_X0_hand
  have hl : lv_has ls 1 [(0, .ref h)] := hl
  have X : zh g A (oQ h (q0, q1, q2, q3, q4, q5, q6, q7, q8, q9, q10)) s.heap H locs := X
  refine lv_aload_n hx hb dX0_hand_0 rfl (lv_at hl 0 rfl) ?_
  refine zget (fs := [.int q0, .int q1, .int q2, .int q3, .int q4, .int q5, .int q6, .long q7, .int q8, .int q9, .long q10]) (v := .int q3) Z hin X (ci := 0) (C := RX0) (T := TX0) (N := 11) rfl rfl 3 (by decide) lk_X0_hand_9 rfl dX0_hand_1 ?_
  exact zreti Z hr hlk (q0, q1, q2, q3, q4, q5, q6, q7, q8, q9, q10) X dX0_hand_4 rfl (⟨rfl, rfl⟩)
theorem inw_X0_winner : ∀ w ∈ wsX00, w ∈ wsX0_winner := by decide +kernel
theorem lk_X0_winner_13 : Cond.fieldLink RX0 13 "Quarterboard" "victor" "I" ∈ wsX0_winner := by decide +kernel
def P_X0_winner (q0 q1 q2 q3 q4 q5 q6 : Int32) (q7 : Int64) (q8 q9 : Int32) (q10 : Int64) : Int32 → QS → Prop := fun r u => u = (q0, q1, q2, q3, q4, q5, q6, q7, q8, q9, q10) ∧ r = q4
set_option maxHeartbeats 4000000 in
set_option maxRecDepth 100000 in
theorem c_X0_winner (l : Launch) (g : zG) (bL h : Nat) (q0 q1 q2 q3 q4 q5 q6 : Int32) (q7 : Int64) (q8 q9 : Int32) (q10 : Int64)   : zM l yX0_winner wsX0_winner 0 0 g [.ref h] (oQ h (q0, q1, q2, q3, q4, q5, q6, q7, q8, q9, q10)) (zEL bL) (zQi g (P_X0_winner q0 q1 q2 q3 q4 q5 q6 q7 q8 q9 q10) (oQ h)) := by
  refine zstart (cc := cX0_winner) (maxL := 1) (ret := (some .int)) (own := RX0) rfl (by decide) rfl zStL (Nat.le_of_ble_eq_true rfl) ?_
  intro p e s m below meth c A Z hr hlk H locs X ls hl
  have hx := Z.1.1
  have hb := Z.1.2.1
  have hin : ∀ w ∈ wsX00, w ∈ wsX0_winner := inw_X0_winner
  have hl : lv_has ls 1 [(0, .ref h)] := hl
  have X : zh g A (oQ h (q0, q1, q2, q3, q4, q5, q6, q7, q8, q9, q10)) s.heap H locs := X
  refine lv_aload_n hx hb dX0_winner_0 rfl (lv_at hl 0 rfl) ?_
  refine zget (fs := [.int q0, .int q1, .int q2, .int q3, .int q4, .int q5, .int q6, .long q7, .int q8, .int q9, .long q10]) (v := .int q4) Z hin X (ci := 0) (C := RX0) (T := TX0) (N := 11) rfl rfl 4 (by decide) lk_X0_winner_13 rfl dX0_winner_1 ?_
  exact zreti Z hr hlk (q0, q1, q2, q3, q4, q5, q6, q7, q8, q9, q10) X dX0_winner_4 rfl (⟨rfl, rfl⟩)
theorem inw_X0_placed : ∀ w ∈ wsX00, w ∈ wsX0_placed := by decide +kernel
theorem lk_X0_placed_16 : Cond.fieldLink RX0 16 "Quarterboard" "filled" "I" ∈ wsX0_placed := by decide +kernel
def P_X0_placed (q0 q1 q2 q3 q4 q5 q6 : Int32) (q7 : Int64) (q8 q9 : Int32) (q10 : Int64) : Int32 → QS → Prop := fun r u => u = (q0, q1, q2, q3, q4, q5, q6, q7, q8, q9, q10) ∧ r = qBc q5
set_option maxHeartbeats 4000000 in
set_option maxRecDepth 100000 in
theorem c_X0_placed (l : Launch) (g : zG) (bL h : Nat) (q0 q1 q2 q3 q4 q5 q6 : Int32) (q7 : Int64) (q8 q9 : Int32) (q10 : Int64)   : zM l yX0_placed wsX0_placed 1 40 g [.ref h] (oQ h (q0, q1, q2, q3, q4, q5, q6, q7, q8, q9, q10)) (zEL bL) (zQi g (P_X0_placed q0 q1 q2 q3 q4 q5 q6 q7 q8 q9 q10) (oQ h)) := by
  refine zstart (cc := cX0_placed) (maxL := 1) (ret := (some .int)) (own := RX0) rfl (by decide) rfl zStL (Nat.le_of_ble_eq_true rfl) ?_
  intro p e s m below meth c A Z hr hlk H locs X ls hl
  have hx := Z.1.1
  have hb := Z.1.2.1
  have hin : ∀ w ∈ wsX00, w ∈ wsX0_placed := inw_X0_placed
  have hl : lv_has ls 1 [(0, .ref h)] := hl
  have X : zh g A (oQ h (q0, q1, q2, q3, q4, q5, q6, q7, q8, q9, q10)) s.heap H locs := X
  refine lv_aload_n hx hb dX0_placed_0 rfl (lv_at hl 0 rfl) ?_
  refine zget (fs := [.int q0, .int q1, .int q2, .int q3, .int q4, .int q5, .int q6, .long q7, .int q8, .int q9, .long q10]) (v := .int q5) Z hin X (ci := 0) (C := RX0) (T := TX0) (N := 11) rfl rfl 5 (by decide) lk_X0_placed_16 rfl dX0_placed_1 ?_
  refine zcallSi (n := 1) (As := [.int q5]) (rest := []) Z X (c_J6_bitCount_0f7a4 l g q5) gX0_placed_J6_bitCount_0f7a4 rfl (by decide +kernel) ⟨Nat.le_of_ble_eq_true rfl, Nat.le_of_ble_eq_true rfl⟩ rfl rfl hl.1 (Nat.le_of_ble_eq_true rfl) dX0_placed_4 ⟨Nat.zero_le _, Nat.zero_le _⟩ (fun r0 H locs hrr0 X => ?_)
  obtain rfl : r0 = qBc q5 := hrr0
  exact zreti Z hr hlk (q0, q1, q2, q3, q4, q5, q6, q7, q8, q9, q10) X dX0_placed_7 rfl (⟨rfl, rfl⟩)
theorem inw_X0_keep : ∀ w ∈ wsX00, w ∈ wsX0_keep := by decide +kernel
theorem lk_X0_keep_126 : Cond.fieldLink RX0 126 "Quarterboard" "hasKept" "Z" ∈ wsX0_keep := by decide +kernel
theorem lk_X0_keep_16 : Cond.fieldLink RX0 16 "Quarterboard" "filled" "I" ∈ wsX0_keep := by decide +kernel
theorem lk_X0_keep_129 : Cond.fieldLink RX0 129 "Quarterboard" "keptFilled" "I" ∈ wsX0_keep := by decide +kernel
theorem lk_X0_keep_38 : Cond.fieldLink RX0 38 "Quarterboard" "digits" "J" ∈ wsX0_keep := by decide +kernel
theorem lk_X0_keep_132 : Cond.fieldLink RX0 132 "Quarterboard" "keptDigits" "J" ∈ wsX0_keep := by decide +kernel
def P_X0_keep (q0 q1 q2 q3 q4 q5 q6 : Int32) (q7 : Int64) (q8 q9 : Int32) (q10 : Int64) : Int32 → QS → Prop := fun r u => u = (q0, q1, q2, q3, q4, q5, q6, q7, 1, q5, q7) ∧ r = qBc q5
set_option maxHeartbeats 4000000 in
set_option maxRecDepth 100000 in
theorem c_X0_keep (l : Launch) (g : zG) (bL h : Nat) (q0 q1 q2 q3 q4 q5 q6 : Int32) (q7 : Int64) (q8 q9 : Int32) (q10 : Int64)   : zM l yX0_keep wsX0_keep 1 40 g [.ref h] (oQ h (q0, q1, q2, q3, q4, q5, q6, q7, q8, q9, q10)) (zEL bL) (zQi g (P_X0_keep q0 q1 q2 q3 q4 q5 q6 q7 q8 q9 q10) (oQ h)) := by
  refine zstart (cc := cX0_keep) (maxL := 1) (ret := (some .int)) (own := RX0) rfl (by decide) rfl zStL (Nat.le_of_ble_eq_true rfl) ?_
  intro p e s m below meth c A Z hr hlk H locs X ls hl
  have hx := Z.1.1
  have hb := Z.1.2.1
  have hin : ∀ w ∈ wsX00, w ∈ wsX0_keep := inw_X0_keep
  have hl : lv_has ls 1 [(0, .ref h)] := hl
  have X : zh g A (oQ h (q0, q1, q2, q3, q4, q5, q6, q7, q8, q9, q10)) s.heap H locs := X
  refine lv_aload_n hx hb dX0_keep_0 rfl (lv_at hl 0 rfl) ?_
  refine lv_iconst (v := (1 : Int32)) hx hb dX0_keep_1 (by decide) ?_
  refine zput (ty := .boolean) (fs := [.int q0, .int q1, .int q2, .int q3, .int q4, .int q5, .int q6, .long q7, .int q8, .int q9, .long q10]) (v := .int (1 : Int32)) tyX0 tyX0_ok nmX0 Z hin X (ci := 0) (C := RX0) (T := TX0) (N := 11) rfl rfl 8 (by decide) lk_X0_keep_126 rfl (by decide +kernel) rfl rfl (Nat.le_of_ble_eq_true rfl) dX0_keep_2 (fun H locs X => ?_)
  have X : zh g A (oQ h (q0, q1, q2, q3, q4, q5, q6, q7, (1 : Int32), q9, q10)) s.heap H locs := X
  refine lv_aload_n hx hb dX0_keep_5 rfl (lv_at hl 0 rfl) ?_
  refine lv_aload_n hx hb dX0_keep_6 rfl (lv_at hl 0 rfl) ?_
  refine zget (fs := [.int q0, .int q1, .int q2, .int q3, .int q4, .int q5, .int q6, .long q7, .int (1 : Int32), .int q9, .long q10]) (v := .int q5) Z hin X (ci := 0) (C := RX0) (T := TX0) (N := 11) rfl rfl 5 (by decide) lk_X0_keep_16 rfl dX0_keep_7 ?_
  refine zput (ty := .int) (fs := [.int q0, .int q1, .int q2, .int q3, .int q4, .int q5, .int q6, .long q7, .int (1 : Int32), .int q9, .long q10]) (v := .int q5) tyX0 tyX0_ok nmX0 Z hin X (ci := 0) (C := RX0) (T := TX0) (N := 11) rfl rfl 9 (by decide) lk_X0_keep_129 rfl (by decide +kernel) rfl rfl (Nat.le_of_ble_eq_true rfl) dX0_keep_10 (fun H locs X => ?_)
  have X : zh g A (oQ h (q0, q1, q2, q3, q4, q5, q6, q7, (1 : Int32), q5, q10)) s.heap H locs := X
  refine lv_aload_n hx hb dX0_keep_13 rfl (lv_at hl 0 rfl) ?_
  refine lv_aload_n hx hb dX0_keep_14 rfl (lv_at hl 0 rfl) ?_
  refine zget (fs := [.int q0, .int q1, .int q2, .int q3, .int q4, .int q5, .int q6, .long q7, .int (1 : Int32), .int q5, .long q10]) (v := .long q7) Z hin X (ci := 0) (C := RX0) (T := TX0) (N := 11) rfl rfl 7 (by decide) lk_X0_keep_38 rfl dX0_keep_15 ?_
  refine zput (ty := .long) (fs := [.int q0, .int q1, .int q2, .int q3, .int q4, .int q5, .int q6, .long q7, .int (1 : Int32), .int q5, .long q10]) (v := .long q7) tyX0 tyX0_ok nmX0 Z hin X (ci := 0) (C := RX0) (T := TX0) (N := 11) rfl rfl 10 (by decide) lk_X0_keep_132 rfl (by decide +kernel) rfl rfl (Nat.le_of_ble_eq_true rfl) dX0_keep_18 (fun H locs X => ?_)
  have X : zh g A (oQ h (q0, q1, q2, q3, q4, q5, q6, q7, (1 : Int32), q5, q7)) s.heap H locs := X
  refine lv_aload_n hx hb dX0_keep_21 rfl (lv_at hl 0 rfl) ?_
  refine zget (fs := [.int q0, .int q1, .int q2, .int q3, .int q4, .int q5, .int q6, .long q7, .int (1 : Int32), .int q5, .long q7]) (v := .int q5) Z hin X (ci := 0) (C := RX0) (T := TX0) (N := 11) rfl rfl 5 (by decide) lk_X0_keep_16 rfl dX0_keep_22 ?_
  refine zcallSi (n := 1) (As := [.int q5]) (rest := []) Z X (c_J6_bitCount_0f7a4 l g q5) gX0_keep_J6_bitCount_0f7a4 rfl (by decide +kernel) ⟨Nat.le_of_ble_eq_true rfl, Nat.le_of_ble_eq_true rfl⟩ rfl rfl hl.1 (Nat.le_of_ble_eq_true rfl) dX0_keep_25 ⟨Nat.zero_le _, Nat.zero_le _⟩ (fun r0 H locs hrr0 X => ?_)
  obtain rfl : r0 = qBc q5 := hrr0
  exact zreti Z hr hlk (q0, q1, q2, q3, q4, q5, q6, q7, (1 : Int32), q5, q7) X dX0_keep_28 rfl (⟨rfl, rfl⟩)
theorem inw_X0_begin : ∀ w ∈ wsX00, w ∈ wsX0_begin := by decide +kernel
theorem lk_X0_begin_16 : Cond.fieldLink RX0 16 "Quarterboard" "filled" "I" ∈ wsX0_begin := by decide +kernel
theorem lk_X0_begin_25 : Cond.fieldLink RX0 25 "Quarterboard" "withBlocks" "Z" ∈ wsX0_begin := by decide +kernel
theorem lk_X0_begin_29 : Cond.fieldLink RX0 29 "Quarterboard" "stage" "I" ∈ wsX0_begin := by decide +kernel
theorem lk_X0_begin_32 : Cond.fieldLink RX0 32 "Quarterboard" "player" "I" ∈ wsX0_begin := by decide +kernel
theorem lk_X0_begin_9 : Cond.fieldLink RX0 9 "Quarterboard" "held" "I" ∈ wsX0_begin := by decide +kernel
theorem lk_X0_begin_13 : Cond.fieldLink RX0 13 "Quarterboard" "victor" "I" ∈ wsX0_begin := by decide +kernel
theorem lk_X0_begin_35 : Cond.fieldLink RX0 35 "Quarterboard" "used" "I" ∈ wsX0_begin := by decide +kernel
theorem lk_X0_begin_38 : Cond.fieldLink RX0 38 "Quarterboard" "digits" "J" ∈ wsX0_begin := by decide +kernel
def P_X0_begin (q0 q1 q2 q3 q4 q5 q6 : Int32) (q7 : Int64) (q8 q9 : Int32) (q10 : Int64) (bb : Bool) : Int32 → QS → Prop := fun r u => u = (zb bb, 0, 0, -1, -1, 0, 0, 0, q8, q9, q10) ∧ r = qBc q5
set_option maxHeartbeats 4000000 in
set_option maxRecDepth 100000 in
theorem c_X0_begin (l : Launch) (g : zG) (bL h : Nat) (q0 q1 q2 q3 q4 q5 q6 : Int32) (q7 : Int64) (q8 q9 : Int32) (q10 : Int64)  (bb : Bool) : zM l yX0_begin wsX0_begin 1 40 g [.ref h, .int (zb bb)] (oQ h (q0, q1, q2, q3, q4, q5, q6, q7, q8, q9, q10)) (zEL bL) (zQi g (P_X0_begin q0 q1 q2 q3 q4 q5 q6 q7 q8 q9 q10 bb) (oQ h)) := by
  refine zstart (cc := cX0_begin) (maxL := 3) (ret := (some .int)) (own := RX0) rfl (by decide) rfl zStL (Nat.le_of_ble_eq_true rfl) ?_
  intro p e s m below meth c A Z hr hlk H locs X ls hl
  have hx := Z.1.1
  have hb := Z.1.2.1
  have hin : ∀ w ∈ wsX00, w ∈ wsX0_begin := inw_X0_begin
  have hl : lv_has ls 3 [(0, .ref h), (1, .int (zb bb))] := hl
  have X : zh g A (oQ h (q0, q1, q2, q3, q4, q5, q6, q7, q8, q9, q10)) s.heap H locs := X
  refine lv_aload_n hx hb dX0_begin_0 rfl (lv_at hl 0 rfl) ?_
  refine zget (fs := [.int q0, .int q1, .int q2, .int q3, .int q4, .int q5, .int q6, .long q7, .int q8, .int q9, .long q10]) (v := .int q5) Z hin X (ci := 0) (C := RX0) (T := TX0) (N := 11) rfl rfl 5 (by decide) lk_X0_begin_16 rfl dX0_begin_1 ?_
  refine zcallSi (n := 1) (As := [.int q5]) (rest := []) Z X (c_J6_bitCount_0f7a4 l g q5) gX0_begin_J6_bitCount_0f7a4 rfl (by decide +kernel) ⟨Nat.le_of_ble_eq_true rfl, Nat.le_of_ble_eq_true rfl⟩ rfl rfl hl.1 (Nat.le_of_ble_eq_true rfl) dX0_begin_4 ⟨Nat.zero_le _, Nat.zero_le _⟩ (fun r0 H locs hrr0 X => ?_)
  obtain rfl : r0 = qBc q5 := hrr0
  refine lv_topi (fun x2 ex2 => ?_)
  refine lv_istore_n (lv' := [(2, .int x2), (0, .ref h), (1, .int (zb bb))]) hx hb dX0_begin_7 rfl hl (by decide) rfl (fun ls hl => ?_)
  refine lv_aload_n hx hb dX0_begin_8 rfl (lv_at hl 1 rfl) ?_
  refine lv_iload_n hx hb dX0_begin_9 rfl (lv_at hl 2 rfl) ?_
  refine zput (ty := .boolean) (fs := [.int q0, .int q1, .int q2, .int q3, .int q4, .int q5, .int q6, .long q7, .int q8, .int q9, .long q10]) (v := .int (zb bb)) tyX0 tyX0_ok nmX0 Z hin X (ci := 0) (C := RX0) (T := TX0) (N := 11) rfl rfl 0 (by decide) lk_X0_begin_25 rfl (by decide +kernel) (zb_nar bb) (zb_fit bb) (Nat.le_of_ble_eq_true rfl) dX0_begin_10 (fun H locs X => ?_)
  have X : zh g A (oQ h (zb bb, q1, q2, q3, q4, q5, q6, q7, q8, q9, q10)) s.heap H locs := X
  refine lv_aload_n hx hb dX0_begin_13 rfl (lv_at hl 1 rfl) ?_
  refine lv_iconst (v := (0 : Int32)) hx hb dX0_begin_14 (by decide) ?_
  refine zput (ty := .int) (fs := [.int (zb bb), .int q1, .int q2, .int q3, .int q4, .int q5, .int q6, .long q7, .int q8, .int q9, .long q10]) (v := .int (0 : Int32)) tyX0 tyX0_ok nmX0 Z hin X (ci := 0) (C := RX0) (T := TX0) (N := 11) rfl rfl 1 (by decide) lk_X0_begin_29 rfl (by decide +kernel) rfl rfl (Nat.le_of_ble_eq_true rfl) dX0_begin_15 (fun H locs X => ?_)
  have X : zh g A (oQ h (zb bb, (0 : Int32), q2, q3, q4, q5, q6, q7, q8, q9, q10)) s.heap H locs := X
  refine lv_aload_n hx hb dX0_begin_18 rfl (lv_at hl 1 rfl) ?_
  refine lv_iconst (v := (0 : Int32)) hx hb dX0_begin_19 (by decide) ?_
  refine zput (ty := .int) (fs := [.int (zb bb), .int (0 : Int32), .int q2, .int q3, .int q4, .int q5, .int q6, .long q7, .int q8, .int q9, .long q10]) (v := .int (0 : Int32)) tyX0 tyX0_ok nmX0 Z hin X (ci := 0) (C := RX0) (T := TX0) (N := 11) rfl rfl 2 (by decide) lk_X0_begin_32 rfl (by decide +kernel) rfl rfl (Nat.le_of_ble_eq_true rfl) dX0_begin_20 (fun H locs X => ?_)
  have X : zh g A (oQ h (zb bb, (0 : Int32), (0 : Int32), q3, q4, q5, q6, q7, q8, q9, q10)) s.heap H locs := X
  refine lv_aload_n hx hb dX0_begin_23 rfl (lv_at hl 1 rfl) ?_
  refine lv_iconst (v := (-1 : Int32)) hx hb dX0_begin_24 (by decide) ?_
  refine zput (ty := .int) (fs := [.int (zb bb), .int (0 : Int32), .int (0 : Int32), .int q3, .int q4, .int q5, .int q6, .long q7, .int q8, .int q9, .long q10]) (v := .int (-1 : Int32)) tyX0 tyX0_ok nmX0 Z hin X (ci := 0) (C := RX0) (T := TX0) (N := 11) rfl rfl 3 (by decide) lk_X0_begin_9 rfl (by decide +kernel) rfl rfl (Nat.le_of_ble_eq_true rfl) dX0_begin_25 (fun H locs X => ?_)
  have X : zh g A (oQ h (zb bb, (0 : Int32), (0 : Int32), (-1 : Int32), q4, q5, q6, q7, q8, q9, q10)) s.heap H locs := X
  refine lv_aload_n hx hb dX0_begin_28 rfl (lv_at hl 1 rfl) ?_
  refine lv_iconst (v := (-1 : Int32)) hx hb dX0_begin_29 (by decide) ?_
  refine zput (ty := .int) (fs := [.int (zb bb), .int (0 : Int32), .int (0 : Int32), .int (-1 : Int32), .int q4, .int q5, .int q6, .long q7, .int q8, .int q9, .long q10]) (v := .int (-1 : Int32)) tyX0 tyX0_ok nmX0 Z hin X (ci := 0) (C := RX0) (T := TX0) (N := 11) rfl rfl 4 (by decide) lk_X0_begin_13 rfl (by decide +kernel) rfl rfl (Nat.le_of_ble_eq_true rfl) dX0_begin_30 (fun H locs X => ?_)
  have X : zh g A (oQ h (zb bb, (0 : Int32), (0 : Int32), (-1 : Int32), (-1 : Int32), q5, q6, q7, q8, q9, q10)) s.heap H locs := X
  refine lv_aload_n hx hb dX0_begin_33 rfl (lv_at hl 1 rfl) ?_
  refine lv_iconst (v := (0 : Int32)) hx hb dX0_begin_34 (by decide) ?_
  refine zput (ty := .int) (fs := [.int (zb bb), .int (0 : Int32), .int (0 : Int32), .int (-1 : Int32), .int (-1 : Int32), .int q5, .int q6, .long q7, .int q8, .int q9, .long q10]) (v := .int (0 : Int32)) tyX0 tyX0_ok nmX0 Z hin X (ci := 0) (C := RX0) (T := TX0) (N := 11) rfl rfl 5 (by decide) lk_X0_begin_16 rfl (by decide +kernel) rfl rfl (Nat.le_of_ble_eq_true rfl) dX0_begin_35 (fun H locs X => ?_)
  have X : zh g A (oQ h (zb bb, (0 : Int32), (0 : Int32), (-1 : Int32), (-1 : Int32), (0 : Int32), q6, q7, q8, q9, q10)) s.heap H locs := X
  refine lv_aload_n hx hb dX0_begin_38 rfl (lv_at hl 1 rfl) ?_
  refine lv_iconst (v := (0 : Int32)) hx hb dX0_begin_39 (by decide) ?_
  refine zput (ty := .int) (fs := [.int (zb bb), .int (0 : Int32), .int (0 : Int32), .int (-1 : Int32), .int (-1 : Int32), .int (0 : Int32), .int q6, .long q7, .int q8, .int q9, .long q10]) (v := .int (0 : Int32)) tyX0 tyX0_ok nmX0 Z hin X (ci := 0) (C := RX0) (T := TX0) (N := 11) rfl rfl 6 (by decide) lk_X0_begin_35 rfl (by decide +kernel) rfl rfl (Nat.le_of_ble_eq_true rfl) dX0_begin_40 (fun H locs X => ?_)
  have X : zh g A (oQ h (zb bb, (0 : Int32), (0 : Int32), (-1 : Int32), (-1 : Int32), (0 : Int32), (0 : Int32), q7, q8, q9, q10)) s.heap H locs := X
  refine lv_aload_n hx hb dX0_begin_43 rfl (lv_at hl 1 rfl) ?_
  refine lv_lconst (v := (0 : Int64)) hx hb dX0_begin_44 (by decide) ?_
  refine zput (ty := .long) (fs := [.int (zb bb), .int (0 : Int32), .int (0 : Int32), .int (-1 : Int32), .int (-1 : Int32), .int (0 : Int32), .int (0 : Int32), .long q7, .int q8, .int q9, .long q10]) (v := .long (0 : Int64)) tyX0 tyX0_ok nmX0 Z hin X (ci := 0) (C := RX0) (T := TX0) (N := 11) rfl rfl 7 (by decide) lk_X0_begin_38 rfl (by decide +kernel) rfl rfl (Nat.le_of_ble_eq_true rfl) dX0_begin_45 (fun H locs X => ?_)
  have X : zh g A (oQ h (zb bb, (0 : Int32), (0 : Int32), (-1 : Int32), (-1 : Int32), (0 : Int32), (0 : Int32), (0 : Int64), q8, q9, q10)) s.heap H locs := X
  refine lv_iload_n hx hb dX0_begin_48 rfl (lv_at hl 0 rfl) ?_
  exact zreti Z hr hlk (zb bb, (0 : Int32), (0 : Int32), (-1 : Int32), (-1 : Int32), (0 : Int32), (0 : Int32), (0 : Int64), q8, q9, q10) X dX0_begin_49 rfl (by subst ex2; exact ⟨rfl, rfl⟩)
theorem inw_X0_symmetries : ∀ w ∈ wsX00, w ∈ wsX0_symmetries := by decide +kernel
theorem lk_X0_symmetries_16 : Cond.fieldLink RX0 16 "Quarterboard" "filled" "I" ∈ wsX0_symmetries := by decide +kernel
theorem lk_X0_symmetries_38 : Cond.fieldLink RX0 38 "Quarterboard" "digits" "J" ∈ wsX0_symmetries := by decide +kernel
def P_X0_symmetries (q0 q1 q2 q3 q4 q5 q6 : Int32) (q7 : Int64) (q8 q9 : Int32) (q10 : Int64) : Int32 → QS → Prop := fun r u => u = (q0, q1, q2, q3, q4, q5, q6, q7, q8, q9, q10) ∧ r = qSym q5 q7 q5 q7 8
set_option maxHeartbeats 4000000 in
set_option maxRecDepth 100000 in
theorem c_X0_symmetries (l : Launch) (g : zG) (bL h : Nat) (q0 q1 q2 q3 q4 q5 q6 : Int32) (q7 : Int64) (q8 q9 : Int32) (q10 : Int64)   : zM l yX0_symmetries wsX0_symmetries 4 250 g [.ref h] (oQ h (q0, q1, q2, q3, q4, q5, q6, q7, q8, q9, q10)) (zEL bL) (zQi g (P_X0_symmetries q0 q1 q2 q3 q4 q5 q6 q7 q8 q9 q10) (oQ h)) := by
  refine zstart (cc := cX0_symmetries) (maxL := 3) (ret := (some .int)) (own := RX0) rfl (by decide) rfl zStL (Nat.le_of_ble_eq_true rfl) ?_
  intro p e s m below meth c A Z hr hlk H locs X ls hl
  have hx := Z.1.1
  have hb := Z.1.2.1
  have hin : ∀ w ∈ wsX00, w ∈ wsX0_symmetries := inw_X0_symmetries
  have hl : lv_has ls 3 [(0, .ref h)] := hl
  have X : zh g A (oQ h (q0, q1, q2, q3, q4, q5, q6, q7, q8, q9, q10)) s.heap H locs := X
  refine lv_iconst (v := (0 : Int32)) hx hb dX0_symmetries_0 (by decide) ?_
  refine lv_istore_n (lv' := [(1, .int (0 : Int32)), (0, .ref h)]) hx hb dX0_symmetries_1 rfl hl (by decide) rfl (fun ls hl => ?_)
  refine lv_iconst (v := (0 : Int32)) hx hb dX0_symmetries_2 (by decide) ?_
  refine lv_istore_n (lv' := [(2, .int (0 : Int32)), (1, .int (0 : Int32)), (0, .ref h)]) hx hb dX0_symmetries_3 rfl hl (by decide) rfl (fun ls hl => ?_)
  have cut4 : ∀ (n4 : Nat), ∀ (k : Nat) (acc : Int32), (k ≤ 8) → (acc = qSym q5 q7 q5 q7 k) → (9 - k ≤ n4) → ∀ (H : Heap) (locs : List Loc) (ls : Array Slot), zh g A (oQ h (q0, q1, q2, q3, q4, q5, q6, q7, q8, q9, q10)) s.heap H locs → lv_has ls 3 [(2, .int (nI k)), (1, .int acc), (0, .ref h)] → W p l e { frames := 4, cells := 0, slots := 0, locals := 250 } s m ([.ref h] : List Value).toArray below meth c H locs 0 0 (MQ below ((zQi g (P_X0_symmetries q0 q1 q2 q3 q4 q5 q6 q7 q8 q9 q10) (oQ h)) A) ([.ref h] : List Value).toArray s 0 0 A) (F0 m 4 ls []) := by
    intro n4
    induction n4 with
    | zero =>
      intro k acc hk hacc hm4
      exact absurd hm4 (by omega)
    | succ n4 ih4 =>
      intro k acc hk hacc hm4 H locs ls X hl
      refine lv_iload_n hx hb dX0_symmetries_4 rfl (lv_at hl 0 rfl) ?_
      refine lv_bipush (v := (8 : Int32)) hx hb dX0_symmetries_5 (by decide) ?_
      refine lv_icmp_ge (tgt := 32) hx hb dX0_symmetries_7 (by decide) (fun c1 => ?_) (fun c1 => ?_)
      · have qc1 := c1
        have c1n : 8 ≤ k := zn_let (by omega) (by omega) c1
        refine lv_iload_n hx hb dX0_symmetries_32 rfl (lv_at hl 1 rfl) ?_
        exact zreti Z hr hlk (q0, q1, q2, q3, q4, q5, q6, q7, q8, q9, q10) X dX0_symmetries_33 rfl (⟨rfl, by rw [hacc, show k = 8 by omega]⟩)
      · have qc1 := c1
        have c1n : ¬ 8 ≤ k := zn_len (by omega) (by omega) c1
        refine lv_iload_n hx hb dX0_symmetries_10 rfl (lv_at hl 1 rfl) ?_
        refine lv_aload_n hx hb dX0_symmetries_11 rfl (lv_at hl 2 rfl) ?_
        refine lv_iload_n hx hb dX0_symmetries_12 rfl (lv_at hl 0 rfl) ?_
        refine lv_aload_n hx hb dX0_symmetries_13 rfl (lv_at hl 2 rfl) ?_
        refine zget (fs := [.int q0, .int q1, .int q2, .int q3, .int q4, .int q5, .int q6, .long q7, .int q8, .int q9, .long q10]) (v := .int q5) Z hin X (ci := 0) (C := RX0) (T := TX0) (N := 11) rfl rfl 5 (by decide) lk_X0_symmetries_16 rfl dX0_symmetries_14 ?_
        refine lv_aload_n hx hb dX0_symmetries_17 rfl (lv_at hl 2 rfl) ?_
        refine zget (fs := [.int q0, .int q1, .int q2, .int q3, .int q4, .int q5, .int q6, .long q7, .int q8, .int q9, .long q10]) (v := .long q7) Z hin X (ci := 0) (C := RX0) (T := TX0) (N := 11) rfl rfl 7 (by decide) lk_X0_symmetries_38 rfl dX0_symmetries_18 ?_
        refine zcallVi (n := 3) (As := [.int (nI k), .int q5, .long q7]) (rest := [.int acc]) (ci := 0) (C := RX0) (T := TX0) (N := 11) Z X (c_X0_waysOfMarks l g bL h q0 q1 q2 q3 q4 q5 q6 q7 q8 q9 q10 k q5 q7 (by omega)) gX0_symmetries_X0_waysOfMarks rfl (by decide +kernel) ⟨Nat.le_of_ble_eq_true rfl, Nat.le_of_ble_eq_true rfl⟩ rfl rfl rfl rfl hl.1 (Nat.le_of_ble_eq_true rfl) dX0_symmetries_21 ⟨Nat.zero_le _, Nat.zero_le _⟩ (fun r1 ur1 H locs hrr1 X => ?_)
        obtain ⟨rfl, rfl⟩ : ur1 = (q0, q1, q2, q3, q4, q5, q6, q7, q8, q9, q10) ∧ r1 = qWays q5 q7 k q5 q7 := hrr1
        have X : zh g A (oQ h (q0, q1, q2, q3, q4, q5, q6, q7, q8, q9, q10)) s.heap H locs := X
        refine lv_iadd hx hb dX0_symmetries_24 ?_
        refine lv_topi (fun x3 ex3 => ?_)
        refine lv_istore_n (lv' := [(1, .int x3), (2, .int (nI k)), (0, .ref h)]) hx hb dX0_symmetries_25 rfl hl (by decide) rfl (fun ls hl => ?_)
        refine lv_iinc (v := nI (k + 1)) (lv' := [(2, .int (nI (k + 1))), (1, .int x3), (0, .ref h)]) hx hb dX0_symmetries_26 hl (k := 1) rfl (zi_inc k) (by decide) rfl (fun ls hl => ?_)
        refine lv_goto (tgt := 4) hx hb dX0_symmetries_29 (by decide) ?_
        exact ih4 (k + 1) x3 (by first | assumption | omega) (by subst ex3; rw [hacc]; rfl) (by omega) H locs ls X (lv_sub hl [0, 1, 2] rfl)
  exact cut4 9 0 0 (by first | assumption | omega) (rfl) (by omega) H locs ls X (lv_sub hl [0, 1, 2] rfl)
end
section
/-! the class: what may throw -/
theorem zclamp {x : Int32} (h : ¬ x < 0) : x = nI x.toNatClampNeg := by
  obtain ⟨j, hj, e⟩ := nI_of h
  rw [e, nI_clamp hj]
theorem zclamp_lt {x : Int32} (h : ¬ x < 0) {n : Nat} (hn : n < 2 ^ 31) (h2 : ¬ nI n ≤ x) : x.toNatClampNeg < n := by
  obtain ⟨j, hj, e⟩ := nI_of h
  rw [e, nI_clamp hj]
  rw [e] at h2
  exact Nat.not_le.mp (fun q => h2 (nI_le q hj))
theorem zplac {x : Int32} (h1 : ¬ x < 1) (h4 : x ≤ 4) : x = nI x.toNatClampNeg ∧ 1 ≤ x.toNatClampNeg ∧ x.toNatClampNeg ≤ 4 := by
  have h0 : ¬ x < 0 := fun q => h1 (Int32.lt_trans q (by decide))
  obtain ⟨j, hj, e⟩ := nI_of h0
  rw [e, nI_clamp hj]
  rw [e] at h1 h4
  refine ⟨rfl, Nat.not_lt.mp (fun q => h1 (nI_lt q (by decide))), Nat.not_lt.mp (fun q => absurd h4 (nI_ge q hj))⟩
def qPA (d : Int64) (s : Int32) : Nat → Int32
  | 0 => 0
  | k + 1 => if qHas (qOne d (nI k)) s = true then qPA d s k ||| qBit (nI k) else qPA d s k
def qAt (f : Int32) (d : Int64) (s : Int32) : Int32 := if qHas f s = true then qPA d s 4 else -1
theorem inw_X0_give : ∀ w ∈ wsX00, w ∈ wsX0_give := by decide +kernel
theorem lk_X0_give_29 : Cond.fieldLink RX0 29 "Quarterboard" "stage" "I" ∈ wsX0_give := by decide +kernel
theorem lk_X0_give_35 : Cond.fieldLink RX0 35 "Quarterboard" "used" "I" ∈ wsX0_give := by decide +kernel
theorem lk_X0_give_9 : Cond.fieldLink RX0 9 "Quarterboard" "held" "I" ∈ wsX0_give := by decide +kernel
theorem lk_X0_give_32 : Cond.fieldLink RX0 32 "Quarterboard" "player" "I" ∈ wsX0_give := by decide +kernel
theorem th_X0_give_46 : Cond.classLink "Quarterboard" 46 eIO ∈ wsX0_give := by decide +kernel
theorem ti_X0_give_46 : Cond.initialized eIO ∈ wsX0_give := by decide +kernel
theorem ta_X0_give_46 : ∀ w ∈ (vx_atS "Quarterboard" 50 eIO zNm).filter goodWord, w ∈ wsX0_give := by decide +kernel
theorem th_X0_give_53 : Cond.classLink "Quarterboard" 53 eIS ∈ wsX0_give := by decide +kernel
theorem ti_X0_give_53 : Cond.initialized eIS ∈ wsX0_give := by decide +kernel
theorem ta_X0_give_53 : ∀ w ∈ (vx_atS "Quarterboard" 57 eIS zNm).filter goodWord, w ∈ wsX0_give := by decide +kernel
def P_X0_give (q0 q1 q2 q3 q4 q5 q6 : Int32) (q7 : Int64) (q8 q9 : Int32) (q10 : Int64) (pn : Int32) : Int32 → QS → Prop := fun r u => (qNum pn = true ∧ q1 = 0 ∧ qHas q6 pn = false) ∧ u = (q0, 1, 1 - q2, pn, q4, q5, q6, q7, q8, q9, q10) ∧ r = 1 - q2
def PX_X0_give (q0 q1 q2 q3 q4 q5 q6 : Int32) (q7 : Int64) (q8 q9 : Int32) (q10 : Int64) (pn : Int32) : String → Prop := fun E => (E = eIO ∧ qNum pn = false) ∨ (E = eIS ∧ qNum pn = true ∧ (¬ q1 = 0 ∨ qHas q6 pn = true))
set_option maxHeartbeats 4000000 in
set_option maxRecDepth 100000 in
theorem c_X0_give (l : Launch) (g : zG) (bL h : Nat) (q0 q1 q2 q3 q4 q5 q6 : Int32) (q7 : Int64) (q8 q9 : Int32) (q10 : Int64) (pn : Int32) (htr : l.stackTraces = false)  : zMX l yX0_give wsX0_give 30 1000 g [.ref h, .int pn] (oQ h (q0, q1, q2, q3, q4, q5, q6, q7, q8, q9, q10)) (zEL bL) (zQi g (P_X0_give q0 q1 q2 q3 q4 q5 q6 q7 q8 q9 q10 pn) (oQ h)) (PX_X0_give q0 q1 q2 q3 q4 q5 q6 q7 q8 q9 q10 pn) := by
  refine zstartX (cc := cX0_give) (maxL := 2) (ret := (some .int)) (own := RX0) rfl (by decide) rfl zStL (Nat.le_of_ble_eq_true rfl) ?_
  intro p e s m below meth c A Z hr hlk ht H locs X ls hl
  have hx := Z.1.1
  have hb := Z.1.2.1
  have hin : ∀ w ∈ wsX00, w ∈ wsX0_give := inw_X0_give
  have hl : lv_has ls 2 [(0, .ref h), (1, .int pn)] := hl
  have X : zh g A (oQ h (q0, q1, q2, q3, q4, q5, q6, q7, q8, q9, q10)) s.heap H locs := X
  refine lv_iload_n hx hb dX0_give_0 rfl (lv_at hl 1 rfl) ?_
  refine zcallSi (n := 1) (As := [.int pn]) (rest := []) Z X (c_X0_isNumber l g pn) gX0_give_X0_isNumber rfl (by decide +kernel) ⟨by show _ ≤ 30; omega, by show _ ≤ 1000; omega⟩ rfl rfl hl.1 (Nat.le_of_ble_eq_true rfl) dX0_give_1 ⟨Nat.zero_le _, Nat.zero_le _⟩ (fun r0 H locs hrr0 X => ?_)
  obtain rfl : r0 = zb (qNum pn) := hrr0
  refine lv_if_ne (tgt := 17) hx hb dX0_give_4 (by decide) (fun c2 => ?_) (fun c2 => ?_)
  · have qc2 := c2
    have hn : qNum pn = true := zb_n0.mp c2
    refine lv_aload_n hx hb dX0_give_17 rfl (lv_at hl 0 rfl) ?_
    refine zget (fs := [.int q0, .int q1, .int q2, .int q3, .int q4, .int q5, .int q6, .long q7, .int q8, .int q9, .long q10]) (v := .int q1) Z hin X (ci := 0) (C := RX0) (T := TX0) (N := 11) rfl rfl 1 (by decide) lk_X0_give_29 rfl dX0_give_18 ?_
    refine lv_if_eq (tgt := 34) hx hb dX0_give_21 (by decide) (fun c3 => ?_) (fun c3 => ?_)
    · have qc3 := c3
      have hs : q1 = 0 := c3
      refine lv_aload_n hx hb dX0_give_34 rfl (lv_at hl 0 rfl) ?_
      refine zget (fs := [.int q0, .int q1, .int q2, .int q3, .int q4, .int q5, .int q6, .long q7, .int q8, .int q9, .long q10]) (v := .int q6) Z hin X (ci := 0) (C := RX0) (T := TX0) (N := 11) rfl rfl 6 (by decide) lk_X0_give_35 rfl dX0_give_35 ?_
      refine lv_iload_n hx hb dX0_give_38 rfl (lv_at hl 1 rfl) ?_
      refine zcallSi (n := 2) (As := [.int q6, .int pn]) (rest := []) Z X (c_X0_has l g q6 pn) gX0_give_X0_has rfl (by decide +kernel) ⟨by show _ ≤ 30; omega, by show _ ≤ 1000; omega⟩ rfl rfl hl.1 (Nat.le_of_ble_eq_true rfl) dX0_give_39 ⟨Nat.zero_le _, Nat.zero_le _⟩ (fun r3 H locs hrr3 X => ?_)
      obtain rfl : r3 = zb (qHas q6 pn) := hrr3
      refine lv_if_eq (tgt := 55) hx hb dX0_give_42 (by decide) (fun c5 => ?_) (fun c5 => ?_)
      · have qc5 := c5
        have hh : qHas q6 pn = false := zb_0.mp c5
        refine lv_aload_n hx hb dX0_give_55 rfl (lv_at hl 0 rfl) ?_
        refine lv_iload_n hx hb dX0_give_56 rfl (lv_at hl 1 rfl) ?_
        refine zput (ty := .int) (fs := [.int q0, .int q1, .int q2, .int q3, .int q4, .int q5, .int q6, .long q7, .int q8, .int q9, .long q10]) (v := .int pn) tyX0 tyX0_ok nmX0 Z hin X (ci := 0) (C := RX0) (T := TX0) (N := 11) rfl rfl 3 (by decide) lk_X0_give_9 rfl (by decide +kernel) rfl rfl (Nat.le_of_ble_eq_true rfl) dX0_give_57 (fun H locs X => ?_)
        have X : zh g A (oQ h (q0, q1, q2, pn, q4, q5, q6, q7, q8, q9, q10)) s.heap H locs := X
        refine lv_aload_n hx hb dX0_give_60 rfl (lv_at hl 0 rfl) ?_
        refine lv_iconst (v := (1 : Int32)) hx hb dX0_give_61 (by decide) ?_
        refine lv_aload_n hx hb dX0_give_62 rfl (lv_at hl 0 rfl) ?_
        refine zget (fs := [.int q0, .int q1, .int q2, .int pn, .int q4, .int q5, .int q6, .long q7, .int q8, .int q9, .long q10]) (v := .int q2) Z hin X (ci := 0) (C := RX0) (T := TX0) (N := 11) rfl rfl 2 (by decide) lk_X0_give_32 rfl dX0_give_63 ?_
        refine lv_isub hx hb dX0_give_66 ?_
        refine zput (ty := .int) (fs := [.int q0, .int q1, .int q2, .int pn, .int q4, .int q5, .int q6, .long q7, .int q8, .int q9, .long q10]) (v := .int ((1 : Int32) - q2)) tyX0 tyX0_ok nmX0 Z hin X (ci := 0) (C := RX0) (T := TX0) (N := 11) rfl rfl 2 (by decide) lk_X0_give_32 rfl (by decide +kernel) rfl rfl (Nat.le_of_ble_eq_true rfl) dX0_give_67 (fun H locs X => ?_)
        have X : zh g A (oQ h (q0, q1, (1 : Int32) - q2, pn, q4, q5, q6, q7, q8, q9, q10)) s.heap H locs := X
        refine lv_aload_n hx hb dX0_give_70 rfl (lv_at hl 0 rfl) ?_
        refine lv_iconst (v := (1 : Int32)) hx hb dX0_give_71 (by decide) ?_
        refine zput (ty := .int) (fs := [.int q0, .int q1, .int ((1 : Int32) - q2), .int pn, .int q4, .int q5, .int q6, .long q7, .int q8, .int q9, .long q10]) (v := .int (1 : Int32)) tyX0 tyX0_ok nmX0 Z hin X (ci := 0) (C := RX0) (T := TX0) (N := 11) rfl rfl 1 (by decide) lk_X0_give_29 rfl (by decide +kernel) rfl rfl (Nat.le_of_ble_eq_true rfl) dX0_give_72 (fun H locs X => ?_)
        have X : zh g A (oQ h (q0, (1 : Int32), (1 : Int32) - q2, pn, q4, q5, q6, q7, q8, q9, q10)) s.heap H locs := X
        refine lv_aload_n hx hb dX0_give_75 rfl (lv_at hl 0 rfl) ?_
        refine zget (fs := [.int q0, .int (1 : Int32), .int ((1 : Int32) - q2), .int pn, .int q4, .int q5, .int q6, .long q7, .int q8, .int q9, .long q10]) (v := .int ((1 : Int32) - q2)) Z hin X (ci := 0) (C := RX0) (T := TX0) (N := 11) rfl rfl 2 (by decide) lk_X0_give_32 rfl dX0_give_76 ?_
        exact vx_ret (W.widen (k := 1) (n := 6) (Nat.zero_le _) (Nat.zero_le _) (zreti Z hr hlk (q0, (1 : Int32), (1 : Int32) - q2, pn, q4, q5, q6, q7, q8, q9, q10) X dX0_give_79 rfl (⟨⟨hn, hs, hh⟩, rfl, rfl⟩)))
      · have qc5 := c5
        have hh : qHas q6 pn = true := zb_n0.mp c5
        exact zthrow (is := 62) (text := "the piece is on the board") Z htr ht hlk X hl.1 (by decide +kernel) th_X0_give_53 ti_X0_give_53 (by decide +kernel) ta_X0_give_53 zB_57 zG_57 dX0_give_45 dX0_give_48 dX0_give_49 dX0_give_51 dX0_give_54 (Nat.le_of_ble_eq_true rfl) (Nat.le_of_ble_eq_true rfl) (Nat.le_refl _) (Nat.le_refl _) (Or.inr ⟨rfl, hn, Or.inr hh⟩)
    · have qc3 := c3
      have hs : ¬ q1 = 0 := c3
      exact zthrow (is := 55) (text := "no piece is to be given") Z htr ht hlk X hl.1 (by decide +kernel) th_X0_give_53 ti_X0_give_53 (by decide +kernel) ta_X0_give_53 zB_57 zG_57 dX0_give_24 dX0_give_27 dX0_give_28 dX0_give_30 dX0_give_33 (Nat.le_of_ble_eq_true rfl) (Nat.le_of_ble_eq_true rfl) (Nat.le_refl _) (Nat.le_refl _) (Or.inr ⟨rfl, hn, Or.inl hs⟩)
  · have qc2 := c2
    have hn : qNum pn = false := zb_0.mp c2
    exact zthrow (is := 48) (text := "no such piece") Z htr ht hlk X hl.1 (by decide +kernel) th_X0_give_46 ti_X0_give_46 (by decide +kernel) ta_X0_give_46 zB_50 zG_50 dX0_give_7 dX0_give_10 dX0_give_11 dX0_give_13 dX0_give_16 (Nat.le_of_ble_eq_true rfl) (Nat.le_of_ble_eq_true rfl) (Nat.le_refl _) (Nat.le_refl _) (Or.inl ⟨rfl, hn⟩)
theorem inw_X0_winning : ∀ w ∈ wsX00, w ∈ wsX0_winning := by decide +kernel
theorem lk_X0_winning_29 : Cond.fieldLink RX0 29 "Quarterboard" "stage" "I" ∈ wsX0_winning := by decide +kernel
theorem lk_X0_winning_35 : Cond.fieldLink RX0 35 "Quarterboard" "used" "I" ∈ wsX0_winning := by decide +kernel
theorem th_X0_winning_46 : Cond.classLink "Quarterboard" 46 eIO ∈ wsX0_winning := by decide +kernel
theorem ti_X0_winning_46 : Cond.initialized eIO ∈ wsX0_winning := by decide +kernel
theorem ta_X0_winning_46 : ∀ w ∈ (vx_atS "Quarterboard" 50 eIO zNm).filter goodWord, w ∈ wsX0_winning := by decide +kernel
theorem th_X0_winning_53 : Cond.classLink "Quarterboard" 53 eIS ∈ wsX0_winning := by decide +kernel
theorem ti_X0_winning_53 : Cond.initialized eIS ∈ wsX0_winning := by decide +kernel
theorem ta_X0_winning_53 : ∀ w ∈ (vx_atS "Quarterboard" 57 eIS zNm).filter goodWord, w ∈ wsX0_winning := by decide +kernel
def P_X0_winning (q0 q1 q2 q3 q4 q5 q6 : Int32) (q7 : Int64) (q8 q9 : Int32) (q10 : Int64) (pn : Int32) : Int32 → QS → Prop := fun r u => (qNum pn = true ∧ ¬ q1 = 2 ∧ qHas q6 pn = false) ∧ u = (q0, q1, q2, q3, q4, q5, q6, q7, q8, q9, q10) ∧ r = qWin q5 q7 q0 pn
def PX_X0_winning (q0 q1 q2 q3 q4 q5 q6 : Int32) (q7 : Int64) (q8 q9 : Int32) (q10 : Int64) (pn : Int32) : String → Prop := fun E => (E = eIO ∧ qNum pn = false) ∨ (E = eIS ∧ qNum pn = true ∧ (q1 = 2 ∨ qHas q6 pn = true))
set_option maxHeartbeats 4000000 in
set_option maxRecDepth 100000 in
theorem c_X0_winning (l : Launch) (g : zG) (bL h : Nat) (q0 q1 q2 q3 q4 q5 q6 : Int32) (q7 : Int64) (q8 q9 : Int32) (q10 : Int64) (pn : Int32) (htr : l.stackTraces = false)  : zMX l yX0_winning wsX0_winning 30 1000 g [.ref h, .int pn] (oQ h (q0, q1, q2, q3, q4, q5, q6, q7, q8, q9, q10)) (zEL bL) (zQi g (P_X0_winning q0 q1 q2 q3 q4 q5 q6 q7 q8 q9 q10 pn) (oQ h)) (PX_X0_winning q0 q1 q2 q3 q4 q5 q6 q7 q8 q9 q10 pn) := by
  refine zstartX (cc := cX0_winning) (maxL := 2) (ret := (some .int)) (own := RX0) rfl (by decide) rfl zStL (Nat.le_of_ble_eq_true rfl) ?_
  intro p e s m below meth c A Z hr hlk ht H locs X ls hl
  have hx := Z.1.1
  have hb := Z.1.2.1
  have hin : ∀ w ∈ wsX00, w ∈ wsX0_winning := inw_X0_winning
  have hl : lv_has ls 2 [(0, .ref h), (1, .int pn)] := hl
  have X : zh g A (oQ h (q0, q1, q2, q3, q4, q5, q6, q7, q8, q9, q10)) s.heap H locs := X
  refine lv_iload_n hx hb dX0_winning_0 rfl (lv_at hl 1 rfl) ?_
  refine zcallSi (n := 1) (As := [.int pn]) (rest := []) Z X (c_X0_isNumber l g pn) gX0_winning_X0_isNumber rfl (by decide +kernel) ⟨by show _ ≤ 30; omega, by show _ ≤ 1000; omega⟩ rfl rfl hl.1 (Nat.le_of_ble_eq_true rfl) dX0_winning_1 ⟨Nat.zero_le _, Nat.zero_le _⟩ (fun r0 H locs hrr0 X => ?_)
  obtain rfl : r0 = zb (qNum pn) := hrr0
  refine lv_if_ne (tgt := 17) hx hb dX0_winning_4 (by decide) (fun c2 => ?_) (fun c2 => ?_)
  · have qc2 := c2
    have hn : qNum pn = true := zb_n0.mp c2
    refine lv_aload_n hx hb dX0_winning_17 rfl (lv_at hl 0 rfl) ?_
    refine zget (fs := [.int q0, .int q1, .int q2, .int q3, .int q4, .int q5, .int q6, .long q7, .int q8, .int q9, .long q10]) (v := .int q1) Z hin X (ci := 0) (C := RX0) (T := TX0) (N := 11) rfl rfl 1 (by decide) lk_X0_winning_29 rfl dX0_winning_18 ?_
    refine lv_iconst (v := (2 : Int32)) hx hb dX0_winning_21 (by decide) ?_
    refine lv_icmp_ne (tgt := 35) hx hb dX0_winning_22 (by decide) (fun c3 => ?_) (fun c3 => ?_)
    · have qc3 := c3
      have hs : ¬ q1 = 2 := c3
      refine lv_aload_n hx hb dX0_winning_35 rfl (lv_at hl 0 rfl) ?_
      refine zget (fs := [.int q0, .int q1, .int q2, .int q3, .int q4, .int q5, .int q6, .long q7, .int q8, .int q9, .long q10]) (v := .int q6) Z hin X (ci := 0) (C := RX0) (T := TX0) (N := 11) rfl rfl 6 (by decide) lk_X0_winning_35 rfl dX0_winning_36 ?_
      refine lv_iload_n hx hb dX0_winning_39 rfl (lv_at hl 1 rfl) ?_
      refine zcallSi (n := 2) (As := [.int q6, .int pn]) (rest := []) Z X (c_X0_has l g q6 pn) gX0_winning_X0_has rfl (by decide +kernel) ⟨by show _ ≤ 30; omega, by show _ ≤ 1000; omega⟩ rfl rfl hl.1 (Nat.le_of_ble_eq_true rfl) dX0_winning_40 ⟨Nat.zero_le _, Nat.zero_le _⟩ (fun r3 H locs hrr3 X => ?_)
      obtain rfl : r3 = zb (qHas q6 pn) := hrr3
      refine lv_if_eq (tgt := 56) hx hb dX0_winning_43 (by decide) (fun c5 => ?_) (fun c5 => ?_)
      · have qc5 := c5
        have hh : qHas q6 pn = false := zb_0.mp c5
        refine lv_aload_n hx hb dX0_winning_56 rfl (lv_at hl 0 rfl) ?_
        refine lv_iload_n hx hb dX0_winning_57 rfl (lv_at hl 1 rfl) ?_
        refine zcallVi (n := 1) (As := [.int pn]) (rest := []) (ci := 0) (C := RX0) (T := TX0) (N := 11) Z X (c_X0_winningSquares l g bL h q0 q1 q2 q3 q4 q5 q6 q7 q8 q9 q10 pn) gX0_winning_X0_winningSquares rfl (by decide +kernel) ⟨by show _ ≤ 30; omega, by show _ ≤ 1000; omega⟩ rfl rfl rfl rfl hl.1 (Nat.le_of_ble_eq_true rfl) dX0_winning_58 ⟨Nat.zero_le _, Nat.zero_le _⟩ (fun r5 ur5 H locs hrr5 X => ?_)
        obtain ⟨rfl, rfl⟩ : ur5 = (q0, q1, q2, q3, q4, q5, q6, q7, q8, q9, q10) ∧ r5 = qWin q5 q7 q0 pn := hrr5
        have X : zh g A (oQ h (q0, q1, q2, q3, q4, q5, q6, q7, q8, q9, q10)) s.heap H locs := X
        exact vx_ret (W.widen (k := 1) (n := 6) (Nat.zero_le _) (Nat.zero_le _) (zreti Z hr hlk (q0, q1, q2, q3, q4, q5, q6, q7, q8, q9, q10) X dX0_winning_61 rfl (⟨⟨hn, hs, hh⟩, rfl, rfl⟩)))
      · have qc5 := c5
        have hh : qHas q6 pn = true := zb_n0.mp c5
        exact zthrow (is := 62) (text := "the piece is on the board") Z htr ht hlk X hl.1 (by decide +kernel) th_X0_winning_53 ti_X0_winning_53 (by decide +kernel) ta_X0_winning_53 zB_57 zG_57 dX0_winning_46 dX0_winning_49 dX0_winning_50 dX0_winning_52 dX0_winning_55 (Nat.le_of_ble_eq_true rfl) (Nat.le_of_ble_eq_true rfl) (Nat.le_refl _) (Nat.le_refl _) (Or.inr ⟨rfl, hn, Or.inr hh⟩)
    · have qc3 := c3
      have hs : q1 = 2 := c3
      exact zthrow (is := 95) (text := "the game is over") Z htr ht hlk X hl.1 (by decide +kernel) th_X0_winning_53 ti_X0_winning_53 (by decide +kernel) ta_X0_winning_53 zB_57 zG_57 dX0_winning_25 dX0_winning_28 dX0_winning_29 dX0_winning_31 dX0_winning_34 (Nat.le_of_ble_eq_true rfl) (Nat.le_of_ble_eq_true rfl) (Nat.le_refl _) (Nat.le_refl _) (Or.inr ⟨rfl, hn, Or.inl hs⟩)
  · have qc2 := c2
    have hn : qNum pn = false := zb_0.mp c2
    exact zthrow (is := 48) (text := "no such piece") Z htr ht hlk X hl.1 (by decide +kernel) th_X0_winning_46 ti_X0_winning_46 (by decide +kernel) ta_X0_winning_46 zB_50 zG_50 dX0_winning_7 dX0_winning_10 dX0_winning_11 dX0_winning_13 dX0_winning_16 (Nat.le_of_ble_eq_true rfl) (Nat.le_of_ble_eq_true rfl) (Nat.le_refl _) (Nat.le_refl _) (Or.inl ⟨rfl, hn⟩)
theorem inw_X0_safe : ∀ w ∈ wsX00, w ∈ wsX0_safe := by decide +kernel
theorem lk_X0_safe_29 : Cond.fieldLink RX0 29 "Quarterboard" "stage" "I" ∈ wsX0_safe := by decide +kernel
theorem th_X0_safe_53 : Cond.classLink "Quarterboard" 53 eIS ∈ wsX0_safe := by decide +kernel
theorem ti_X0_safe_53 : Cond.initialized eIS ∈ wsX0_safe := by decide +kernel
theorem ta_X0_safe_53 : ∀ w ∈ (vx_atS "Quarterboard" 57 eIS zNm).filter goodWord, w ∈ wsX0_safe := by decide +kernel
def P_X0_safe (q0 q1 q2 q3 q4 q5 q6 : Int32) (q7 : Int64) (q8 q9 : Int32) (q10 : Int64) : Int32 → QS → Prop := fun r u => (q1 = 0) ∧ u = (q0, q1, q2, q3, q4, q5, q6, q7, q8, q9, q10) ∧ r = qSafe q5 q6 q7 q0
def PX_X0_safe (q0 q1 q2 q3 q4 q5 q6 : Int32) (q7 : Int64) (q8 q9 : Int32) (q10 : Int64) : String → Prop := fun E => E = eIS ∧ ¬ q1 = 0
set_option maxHeartbeats 4000000 in
set_option maxRecDepth 100000 in
theorem c_X0_safe (l : Launch) (g : zG) (bL h : Nat) (q0 q1 q2 q3 q4 q5 q6 : Int32) (q7 : Int64) (q8 q9 : Int32) (q10 : Int64)  (htr : l.stackTraces = false)  : zMX l yX0_safe wsX0_safe 30 1000 g [.ref h] (oQ h (q0, q1, q2, q3, q4, q5, q6, q7, q8, q9, q10)) (zEL bL) (zQi g (P_X0_safe q0 q1 q2 q3 q4 q5 q6 q7 q8 q9 q10) (oQ h)) (PX_X0_safe q0 q1 q2 q3 q4 q5 q6 q7 q8 q9 q10) := by
  refine zstartX (cc := cX0_safe) (maxL := 1) (ret := (some .int)) (own := RX0) rfl (by decide) rfl zStL (Nat.le_of_ble_eq_true rfl) ?_
  intro p e s m below meth c A Z hr hlk ht H locs X ls hl
  have hx := Z.1.1
  have hb := Z.1.2.1
  have hin : ∀ w ∈ wsX00, w ∈ wsX0_safe := inw_X0_safe
  have hl : lv_has ls 1 [(0, .ref h)] := hl
  have X : zh g A (oQ h (q0, q1, q2, q3, q4, q5, q6, q7, q8, q9, q10)) s.heap H locs := X
  refine lv_aload_n hx hb dX0_safe_0 rfl (lv_at hl 0 rfl) ?_
  refine zget (fs := [.int q0, .int q1, .int q2, .int q3, .int q4, .int q5, .int q6, .long q7, .int q8, .int q9, .long q10]) (v := .int q1) Z hin X (ci := 0) (C := RX0) (T := TX0) (N := 11) rfl rfl 1 (by decide) lk_X0_safe_29 rfl dX0_safe_1 ?_
  refine lv_if_eq (tgt := 17) hx hb dX0_safe_4 (by decide) (fun c1 => ?_) (fun c1 => ?_)
  · have qc1 := c1
    have hs : q1 = 0 := c1
    refine lv_aload_n hx hb dX0_safe_17 rfl (lv_at hl 0 rfl) ?_
    refine zcallVi (n := 0) (As := []) (rest := []) (ci := 0) (C := RX0) (T := TX0) (N := 11) Z X (c_X0_safePieces l g bL h q0 q1 q2 q3 q4 q5 q6 q7 q8 q9 q10 ) gX0_safe_X0_safePieces rfl (by decide +kernel) ⟨by show _ ≤ 30; omega, by show _ ≤ 1000; omega⟩ rfl rfl rfl rfl hl.1 (Nat.le_of_ble_eq_true rfl) dX0_safe_18 ⟨Nat.zero_le _, Nat.zero_le _⟩ (fun r1 ur1 H locs hrr1 X => ?_)
    obtain ⟨rfl, rfl⟩ : ur1 = (q0, q1, q2, q3, q4, q5, q6, q7, q8, q9, q10) ∧ r1 = qSafe q5 q6 q7 q0 := hrr1
    have X : zh g A (oQ h (q0, q1, q2, q3, q4, q5, q6, q7, q8, q9, q10)) s.heap H locs := X
    exact vx_ret (W.widen (k := 1) (n := 6) (Nat.zero_le _) (Nat.zero_le _) (zreti Z hr hlk (q0, q1, q2, q3, q4, q5, q6, q7, q8, q9, q10) X dX0_safe_21 rfl (⟨hs, rfl, rfl⟩)))
  · have qc1 := c1
    have hs : ¬ q1 = 0 := c1
    exact zthrow (is := 55) (text := "no piece is to be given") Z htr ht hlk X hl.1 (by decide +kernel) th_X0_safe_53 ti_X0_safe_53 (by decide +kernel) ta_X0_safe_53 zB_57 zG_57 dX0_safe_7 dX0_safe_10 dX0_safe_11 dX0_safe_13 dX0_safe_16 (Nat.le_of_ble_eq_true rfl) (Nat.le_of_ble_eq_true rfl) (Nat.le_refl _) (Nat.le_refl _) (⟨rfl, hs⟩)
theorem inw_X0_pieceAt : ∀ w ∈ wsX00, w ∈ wsX0_pieceAt := by decide +kernel
theorem lk_X0_pieceAt_16 : Cond.fieldLink RX0 16 "Quarterboard" "filled" "I" ∈ wsX0_pieceAt := by decide +kernel
theorem lk_X0_pieceAt_38 : Cond.fieldLink RX0 38 "Quarterboard" "digits" "J" ∈ wsX0_pieceAt := by decide +kernel
theorem th_X0_pieceAt_46 : Cond.classLink "Quarterboard" 46 eIO ∈ wsX0_pieceAt := by decide +kernel
theorem ti_X0_pieceAt_46 : Cond.initialized eIO ∈ wsX0_pieceAt := by decide +kernel
theorem ta_X0_pieceAt_46 : ∀ w ∈ (vx_atS "Quarterboard" 50 eIO zNm).filter goodWord, w ∈ wsX0_pieceAt := by decide +kernel
def P_X0_pieceAt (q0 q1 q2 q3 q4 q5 q6 : Int32) (q7 : Int64) (q8 q9 : Int32) (q10 : Int64) (sq : Int32) : Int32 → QS → Prop := fun r u => (qNum sq = true) ∧ u = (q0, q1, q2, q3, q4, q5, q6, q7, q8, q9, q10) ∧ r = qAt q5 q7 sq
def PX_X0_pieceAt (q0 q1 q2 q3 q4 q5 q6 : Int32) (q7 : Int64) (q8 q9 : Int32) (q10 : Int64) (sq : Int32) : String → Prop := fun E => E = eIO ∧ qNum sq = false
set_option maxHeartbeats 4000000 in
set_option maxRecDepth 100000 in
theorem c_X0_pieceAt (l : Launch) (g : zG) (bL h : Nat) (q0 q1 q2 q3 q4 q5 q6 : Int32) (q7 : Int64) (q8 q9 : Int32) (q10 : Int64) (sq : Int32) (htr : l.stackTraces = false)  : zMX l yX0_pieceAt wsX0_pieceAt 30 1000 g [.ref h, .int sq] (oQ h (q0, q1, q2, q3, q4, q5, q6, q7, q8, q9, q10)) (zEL bL) (zQi g (P_X0_pieceAt q0 q1 q2 q3 q4 q5 q6 q7 q8 q9 q10 sq) (oQ h)) (PX_X0_pieceAt q0 q1 q2 q3 q4 q5 q6 q7 q8 q9 q10 sq) := by
  refine zstartX (cc := cX0_pieceAt) (maxL := 4) (ret := (some .int)) (own := RX0) rfl (by decide) rfl zStL (Nat.le_of_ble_eq_true rfl) ?_
  intro p e s m below meth c A Z hr hlk ht H locs X ls hl
  have hx := Z.1.1
  have hb := Z.1.2.1
  have hin : ∀ w ∈ wsX00, w ∈ wsX0_pieceAt := inw_X0_pieceAt
  have hl : lv_has ls 4 [(0, .ref h), (1, .int sq)] := hl
  have X : zh g A (oQ h (q0, q1, q2, q3, q4, q5, q6, q7, q8, q9, q10)) s.heap H locs := X
  refine lv_iload_n hx hb dX0_pieceAt_0 rfl (lv_at hl 1 rfl) ?_
  refine zcallSi (n := 1) (As := [.int sq]) (rest := []) Z X (c_X0_isNumber l g sq) gX0_pieceAt_X0_isNumber rfl (by decide +kernel) ⟨by show _ ≤ 30; omega, by show _ ≤ 1000; omega⟩ rfl rfl hl.1 (Nat.le_of_ble_eq_true rfl) dX0_pieceAt_1 ⟨Nat.zero_le _, Nat.zero_le _⟩ (fun r0 H locs hrr0 X => ?_)
  obtain rfl : r0 = zb (qNum sq) := hrr0
  refine lv_if_ne (tgt := 17) hx hb dX0_pieceAt_4 (by decide) (fun c2 => ?_) (fun c2 => ?_)
  · have qc2 := c2
    have hn : qNum sq = true := zb_n0.mp c2
    refine lv_aload_n hx hb dX0_pieceAt_17 rfl (lv_at hl 0 rfl) ?_
    refine zget (fs := [.int q0, .int q1, .int q2, .int q3, .int q4, .int q5, .int q6, .long q7, .int q8, .int q9, .long q10]) (v := .int q5) Z hin X (ci := 0) (C := RX0) (T := TX0) (N := 11) rfl rfl 5 (by decide) lk_X0_pieceAt_16 rfl dX0_pieceAt_18 ?_
    refine lv_iload_n hx hb dX0_pieceAt_21 rfl (lv_at hl 1 rfl) ?_
    refine zcallSi (n := 2) (As := [.int q5, .int sq]) (rest := []) Z X (c_X0_has l g q5 sq) gX0_pieceAt_X0_has rfl (by decide +kernel) ⟨by show _ ≤ 30; omega, by show _ ≤ 1000; omega⟩ rfl rfl hl.1 (Nat.le_of_ble_eq_true rfl) dX0_pieceAt_22 ⟨Nat.zero_le _, Nat.zero_le _⟩ (fun r2 H locs hrr2 X => ?_)
    obtain rfl : r2 = zb (qHas q5 sq) := hrr2
    refine lv_if_ne (tgt := 30) hx hb dX0_pieceAt_25 (by decide) (fun c4 => ?_) (fun c4 => ?_)
    · have qc4 := c4
      have hh : qHas q5 sq = true := zb_n0.mp c4
      refine lv_iconst (v := (0 : Int32)) hx hb dX0_pieceAt_30 (by decide) ?_
      refine lv_istore_n (lv' := [(2, .int (0 : Int32)), (0, .ref h), (1, .int sq)]) hx hb dX0_pieceAt_31 rfl hl (by decide) rfl (fun ls hl => ?_)
      refine lv_iconst (v := (0 : Int32)) hx hb dX0_pieceAt_32 (by decide) ?_
      refine lv_istore_n (lv' := [(3, .int (0 : Int32)), (2, .int (0 : Int32)), (0, .ref h), (1, .int sq)]) hx hb dX0_pieceAt_33 rfl hl (by decide) rfl (fun ls hl => ?_)
      have cut34 : ∀ (n34 : Nat), ∀ (k : Nat) (acc : Int32), (k ≤ 4) → (acc = qPA q7 sq k) → (5 - k ≤ n34) → ∀ (H : Heap) (locs : List Loc) (ls : Array Slot), zh g A (oQ h (q0, q1, q2, q3, q4, q5, q6, q7, q8, q9, q10)) s.heap H locs → lv_has ls 4 [(3, .int (nI k)), (2, .int acc), (0, .ref h), (1, .int sq)] → W p l e { frames := 30, cells := 1, slots := 6, locals := 1000 } s m ([.ref h, .int sq] : List Value).toArray below meth c H locs 0 0 (vx_MQ below ((zQi g (P_X0_pieceAt q0 q1 q2 q3 q4 q5 q6 q7 q8 q9 q10 sq) (oQ h)) A) (zXC g (PX_X0_pieceAt q0 q1 q2 q3 q4 q5 q6 q7 q8 q9 q10 sq) (oQ h (q0, q1, q2, q3, q4, q5, q6, q7, q8, q9, q10)) A) ([.ref h, .int sq] : List Value).toArray s 1 6 A) (F0 m 34 ls []) := by
        intro n34
        induction n34 with
        | zero =>
          intro k acc hk hacc hm34
          exact absurd hm34 (by omega)
        | succ n34 ih34 =>
          intro k acc hk hacc hm34 H locs ls X hl
          refine lv_iload_n hx hb dX0_pieceAt_34 rfl (lv_at hl 0 rfl) ?_
          refine lv_iconst (v := (4 : Int32)) hx hb dX0_pieceAt_35 (by decide) ?_
          refine lv_icmp_ge (tgt := 66) hx hb dX0_pieceAt_36 (by decide) (fun c5 => ?_) (fun c5 => ?_)
          · have qc5 := c5
            have c5n : 4 ≤ k := zn_let (by omega) (by omega) c5
            refine lv_iload_n hx hb dX0_pieceAt_66 rfl (lv_at hl 1 rfl) ?_
            exact vx_ret (W.widen (k := 1) (n := 6) (Nat.zero_le _) (Nat.zero_le _) (zreti Z hr hlk (q0, q1, q2, q3, q4, q5, q6, q7, q8, q9, q10) X dX0_pieceAt_67 rfl (⟨hn, rfl, by rw [hacc, show k = 4 by omega]; simp only [qAt, hh, decide_true, decide_false, Bool.and_true, Bool.and_false, Bool.true_and, Bool.false_and, not_true_eq_false, not_false_eq_true, Bool.not_true, Bool.not_false, if_true, if_false, and_true, true_and, and_false, false_and, Bool.false_eq_true, Bool.true_eq_false, eq_self]⟩)))
          · have qc5 := c5
            have c5n : ¬ 4 ≤ k := zn_len (by omega) (by omega) c5
            refine lv_aload_n hx hb dX0_pieceAt_39 rfl (lv_at hl 2 rfl) ?_
            refine zget (fs := [.int q0, .int q1, .int q2, .int q3, .int q4, .int q5, .int q6, .long q7, .int q8, .int q9, .long q10]) (v := .long q7) Z hin X (ci := 0) (C := RX0) (T := TX0) (N := 11) rfl rfl 7 (by decide) lk_X0_pieceAt_38 rfl dX0_pieceAt_40 ?_
            refine lv_iload_n hx hb dX0_pieceAt_43 rfl (lv_at hl 0 rfl) ?_
            refine zcallSi (n := 2) (As := [.long q7, .int (nI k)]) (rest := []) Z X (c_X0_withOne l g q7 (nI k)) gX0_pieceAt_X0_withOne rfl (by decide +kernel) ⟨by show _ ≤ 30; omega, by show _ ≤ 1000; omega⟩ rfl rfl hl.1 (Nat.le_of_ble_eq_true rfl) dX0_pieceAt_44 ⟨Nat.zero_le _, Nat.zero_le _⟩ (fun r5 H locs hrr5 X => ?_)
            obtain rfl : r5 = qOne q7 (nI k) := hrr5
            refine lv_iload_n hx hb dX0_pieceAt_47 rfl (lv_at hl 3 rfl) ?_
            refine zcallSi (n := 2) (As := [.int (qOne q7 (nI k)), .int sq]) (rest := []) Z X (c_X0_has l g (qOne q7 (nI k)) sq) gX0_pieceAt_X0_has rfl (by decide +kernel) ⟨by show _ ≤ 30; omega, by show _ ≤ 1000; omega⟩ rfl rfl hl.1 (Nat.le_of_ble_eq_true rfl) dX0_pieceAt_48 ⟨Nat.zero_le _, Nat.zero_le _⟩ (fun r6 H locs hrr6 X => ?_)
            obtain rfl : r6 = zb (qHas (qOne q7 (nI k)) sq) := hrr6
            refine lv_if_eq (tgt := 60) hx hb dX0_pieceAt_51 (by decide) (fun c8 => ?_) (fun c8 => ?_)
            · have qc8 := c8
              have hb1 : qHas (qOne q7 (nI k)) sq = false := zb_0.mp c8
              refine lv_iinc (v := nI (k + 1)) (lv' := [(3, .int (nI (k + 1))), (2, .int acc), (0, .ref h), (1, .int sq)]) hx hb dX0_pieceAt_60 hl (k := 0) rfl (zi_inc k) (by decide) rfl (fun ls hl => ?_)
              refine lv_goto (tgt := 34) hx hb dX0_pieceAt_63 (by decide) ?_
              exact ih34 (k + 1) acc (by first | assumption | omega) (by rw [hacc]; simp only [qPA, qBit, hb1, decide_true, decide_false, Bool.and_true, Bool.and_false, Bool.true_and, Bool.false_and, not_true_eq_false, not_false_eq_true, Bool.not_true, Bool.not_false, if_true, if_false, and_true, true_and, and_false, false_and, Bool.false_eq_true, Bool.true_eq_false, eq_self]) (by omega) H locs ls X (lv_sub hl [0, 1, 2, 3] rfl)
            · have qc8 := c8
              have hb1 : qHas (qOne q7 (nI k)) sq = true := zb_n0.mp c8
              refine lv_iload_n hx hb dX0_pieceAt_54 rfl (lv_at hl 1 rfl) ?_
              refine lv_iconst (v := (1 : Int32)) hx hb dX0_pieceAt_55 (by decide) ?_
              refine lv_iload_n hx hb dX0_pieceAt_56 rfl (lv_at hl 0 rfl) ?_
              refine lv_ishl hx hb dX0_pieceAt_57 ?_
              refine lv_ior hx hb dX0_pieceAt_58 ?_
              refine lv_topi (fun x9 ex9 => ?_)
              refine lv_istore_n (lv' := [(2, .int x9), (3, .int (nI k)), (0, .ref h), (1, .int sq)]) hx hb dX0_pieceAt_59 rfl hl (by decide) rfl (fun ls hl => ?_)
              refine lv_iinc (v := nI (k + 1)) (lv' := [(3, .int (nI (k + 1))), (2, .int x9), (0, .ref h), (1, .int sq)]) hx hb dX0_pieceAt_60 hl (k := 1) rfl (zi_inc k) (by decide) rfl (fun ls hl => ?_)
              refine lv_goto (tgt := 34) hx hb dX0_pieceAt_63 (by decide) ?_
              exact ih34 (k + 1) x9 (by first | assumption | omega) (by subst ex9; rw [hacc]; simp only [qPA, qBit, hb1, decide_true, decide_false, Bool.and_true, Bool.and_false, Bool.true_and, Bool.false_and, not_true_eq_false, not_false_eq_true, Bool.not_true, Bool.not_false, if_true, if_false, and_true, true_and, and_false, false_and, Bool.false_eq_true, Bool.true_eq_false, eq_self]) (by omega) H locs ls X (lv_sub hl [0, 1, 2, 3] rfl)
      exact cut34 5 0 0 (by first | assumption | omega) (rfl) (by omega) H locs ls X (lv_sub hl [0, 1, 2, 3] rfl)
    · have qc4 := c4
      have hh : qHas q5 sq = false := zb_0.mp c4
      refine lv_iconst (v := (-1 : Int32)) hx hb dX0_pieceAt_28 (by decide) ?_
      exact vx_ret (W.widen (k := 1) (n := 6) (Nat.zero_le _) (Nat.zero_le _) (zreti Z hr hlk (q0, q1, q2, q3, q4, q5, q6, q7, q8, q9, q10) X dX0_pieceAt_29 rfl (⟨hn, rfl, by simp only [qAt, hh, decide_true, decide_false, Bool.and_true, Bool.and_false, Bool.true_and, Bool.false_and, not_true_eq_false, not_false_eq_true, Bool.not_true, Bool.not_false, if_true, if_false, and_true, true_and, and_false, false_and, Bool.false_eq_true, Bool.true_eq_false, eq_self]⟩)))
  · have qc2 := c2
    have hn : qNum sq = false := zb_0.mp c2
    exact zthrow (is := 64) (text := "no such square") Z htr ht hlk X hl.1 (by decide +kernel) th_X0_pieceAt_46 ti_X0_pieceAt_46 (by decide +kernel) ta_X0_pieceAt_46 zB_50 zG_50 dX0_pieceAt_7 dX0_pieceAt_10 dX0_pieceAt_11 dX0_pieceAt_13 dX0_pieceAt_16 (Nat.le_of_ble_eq_true rfl) (Nat.le_of_ble_eq_true rfl) (Nat.le_refl _) (Nat.le_refl _) (⟨rfl, hn⟩)
theorem inw_X0_onLine : ∀ w ∈ wsX00, w ∈ wsX0_onLine := by decide +kernel
theorem lk_X0_onLine_83 : Cond.fieldLink RX0 83 "Quarterboard" "LINES" "[I" ∈ wsX0_onLine := by decide +kernel
theorem lk_X0_onLine_16 : Cond.fieldLink RX0 16 "Quarterboard" "filled" "I" ∈ wsX0_onLine := by decide +kernel
theorem th_X0_onLine_46 : Cond.classLink "Quarterboard" 46 eIO ∈ wsX0_onLine := by decide +kernel
theorem ti_X0_onLine_46 : Cond.initialized eIO ∈ wsX0_onLine := by decide +kernel
theorem ta_X0_onLine_46 : ∀ w ∈ (vx_atS "Quarterboard" 50 eIO zNm).filter goodWord, w ∈ wsX0_onLine := by decide +kernel
def P_X0_onLine (q0 q1 q2 q3 q4 q5 q6 : Int32) (q7 : Int64) (q8 q9 : Int32) (q10 : Int64) (ln : Int32) : Int32 → QS → Prop := fun r u => (¬ ln < 0 ∧ ¬ nI (qLn q0) ≤ ln) ∧ u = (q0, q1, q2, q3, q4, q5, q6, q7, q8, q9, q10) ∧ r = qBc (LM (ln.toNatClampNeg) &&& q5)
def PX_X0_onLine (q0 q1 q2 q3 q4 q5 q6 : Int32) (q7 : Int64) (q8 q9 : Int32) (q10 : Int64) (ln : Int32) : String → Prop := fun E => E = eIO ∧ (ln < 0 ∨ nI (qLn q0) ≤ ln)
set_option maxHeartbeats 4000000 in
set_option maxRecDepth 100000 in
theorem c_X0_onLine (l : Launch) (g : zG) (bL h : Nat) (q0 q1 q2 q3 q4 q5 q6 : Int32) (q7 : Int64) (q8 q9 : Int32) (q10 : Int64) (ln : Int32) (htr : l.stackTraces = false)  : zMX l yX0_onLine wsX0_onLine 30 1000 g [.ref h, .int ln] (oQ h (q0, q1, q2, q3, q4, q5, q6, q7, q8, q9, q10)) (zEL bL) (zQi g (P_X0_onLine q0 q1 q2 q3 q4 q5 q6 q7 q8 q9 q10 ln) (oQ h)) (PX_X0_onLine q0 q1 q2 q3 q4 q5 q6 q7 q8 q9 q10 ln) := by
  refine zstartX (cc := cX0_onLine) (maxL := 2) (ret := (some .int)) (own := RX0) rfl (by decide) rfl zStL (Nat.le_of_ble_eq_true rfl) ?_
  intro p e s m below meth c A Z hr hlk ht H locs X ls hl
  have hx := Z.1.1
  have hb := Z.1.2.1
  have hin : ∀ w ∈ wsX00, w ∈ wsX0_onLine := inw_X0_onLine
  have hl : lv_has ls 2 [(0, .ref h), (1, .int ln)] := hl
  have X : zh g A (oQ h (q0, q1, q2, q3, q4, q5, q6, q7, q8, q9, q10)) s.heap H locs := X
  have hln := qLn_le q0
  refine lv_iload_n hx hb dX0_onLine_0 rfl (lv_at hl 1 rfl) ?_
  refine lv_if_lt (tgt := 12) hx hb dX0_onLine_1 (by decide) (fun c1 => ?_) (fun c1 => ?_)
  · have qc1 := c1
    have h0 : ln < 0 := c1
    exact zthrow (is := 90) (text := "no such line") Z htr ht hlk X hl.1 (by decide +kernel) th_X0_onLine_46 ti_X0_onLine_46 (by decide +kernel) ta_X0_onLine_46 zB_50 zG_50 dX0_onLine_12 dX0_onLine_15 dX0_onLine_16 dX0_onLine_18 dX0_onLine_21 (Nat.le_of_ble_eq_true rfl) (Nat.le_of_ble_eq_true rfl) (Nat.le_refl _) (Nat.le_refl _) (⟨rfl, by first | exact Or.inl h0 | exact Or.inr h1⟩)
  · have qc1 := c1
    have h0 : ¬ ln < 0 := c1
    refine lv_iload_n hx hb dX0_onLine_4 rfl (lv_at hl 1 rfl) ?_
    refine lv_aload_n hx hb dX0_onLine_5 rfl (lv_at hl 0 rfl) ?_
    refine zcallVi (n := 0) (As := []) (rest := [.int ln]) (ci := 0) (C := RX0) (T := TX0) (N := 11) Z X (c_X0_lines l g bL h q0 q1 q2 q3 q4 q5 q6 q7 q8 q9 q10 ) gX0_onLine_X0_lines rfl (by decide +kernel) ⟨by show _ ≤ 30; omega, by show _ ≤ 1000; omega⟩ rfl rfl rfl rfl hl.1 (Nat.le_of_ble_eq_true rfl) dX0_onLine_6 ⟨Nat.zero_le _, Nat.zero_le _⟩ (fun r1 ur1 H locs hrr1 X => ?_)
    obtain ⟨rfl, rfl⟩ : ur1 = (q0, q1, q2, q3, q4, q5, q6, q7, q8, q9, q10) ∧ r1 = nI (qLn q0) := hrr1
    have X : zh g A (oQ h (q0, q1, q2, q3, q4, q5, q6, q7, q8, q9, q10)) s.heap H locs := X
    refine lv_icmp_lt (tgt := 22) hx hb dX0_onLine_9 (by decide) (fun c3 => ?_) (fun c3 => ?_)
    · have qc3 := c3
      have h1 : ¬ nI (qLn q0) ≤ ln := Int32.not_le.mpr c3
      have hl1 := zclamp h0
      have hl2 := zclamp_lt h0 (by omega) h1
      refine va_gets hx hb Z.2.2.2.1.1 X.2.2 Z.1.2.2.2.1 (Z.1.2.2.2.2 _ lk_X0_onLine_83) (fun _ h => h) dX0_onLine_22 ?_
      refine lv_iload_n hx hb dX0_onLine_25 rfl (lv_at hl 1 rfl) ?_
      refine zlld Z X (ln.toNatClampNeg) hl1 (by omega) dX0_onLine_26 ?_
      refine lv_aload_n hx hb dX0_onLine_27 rfl (lv_at hl 0 rfl) ?_
      refine zget (fs := [.int q0, .int q1, .int q2, .int q3, .int q4, .int q5, .int q6, .long q7, .int q8, .int q9, .long q10]) (v := .int q5) Z hin X (ci := 0) (C := RX0) (T := TX0) (N := 11) rfl rfl 5 (by decide) lk_X0_onLine_16 rfl dX0_onLine_28 ?_
      refine lv_iand hx hb dX0_onLine_31 ?_
      refine zcallSi (n := 1) (As := [.int ((LM (ln.toNatClampNeg)) &&& q5)]) (rest := []) Z X (c_J6_bitCount_0f7a4 l g ((LM (ln.toNatClampNeg)) &&& q5)) gX0_onLine_J6_bitCount_0f7a4 rfl (by decide +kernel) ⟨by show _ ≤ 30; omega, by show _ ≤ 1000; omega⟩ rfl rfl hl.1 (Nat.le_of_ble_eq_true rfl) dX0_onLine_32 ⟨Nat.zero_le _, Nat.zero_le _⟩ (fun r3 H locs hrr3 X => ?_)
      obtain rfl : r3 = qBc ((LM (ln.toNatClampNeg)) &&& q5) := hrr3
      exact vx_ret (W.widen (k := 1) (n := 6) (Nat.zero_le _) (Nat.zero_le _) (zreti Z hr hlk (q0, q1, q2, q3, q4, q5, q6, q7, q8, q9, q10) X dX0_onLine_35 rfl (⟨⟨h0, h1⟩, rfl, rfl⟩)))
    · have qc3 := c3
      have h1 : nI (qLn q0) ≤ ln := Int32.not_lt.mp c3
      exact zthrow (is := 90) (text := "no such line") Z htr ht hlk X hl.1 (by decide +kernel) th_X0_onLine_46 ti_X0_onLine_46 (by decide +kernel) ta_X0_onLine_46 zB_50 zG_50 dX0_onLine_12 dX0_onLine_15 dX0_onLine_16 dX0_onLine_18 dX0_onLine_21 (Nat.le_of_ble_eq_true rfl) (Nat.le_of_ble_eq_true rfl) (Nat.le_refl _) (Nat.le_refl _) (⟨rfl, by first | exact Or.inl h0 | exact Or.inr h1⟩)
theorem inw_X0_shared : ∀ w ∈ wsX00, w ∈ wsX0_shared := by decide +kernel
theorem lk_X0_shared_83 : Cond.fieldLink RX0 83 "Quarterboard" "LINES" "[I" ∈ wsX0_shared := by decide +kernel
theorem th_X0_shared_46 : Cond.classLink "Quarterboard" 46 eIO ∈ wsX0_shared := by decide +kernel
theorem ti_X0_shared_46 : Cond.initialized eIO ∈ wsX0_shared := by decide +kernel
theorem ta_X0_shared_46 : ∀ w ∈ (vx_atS "Quarterboard" 50 eIO zNm).filter goodWord, w ∈ wsX0_shared := by decide +kernel
def P_X0_shared (q0 q1 q2 q3 q4 q5 q6 : Int32) (q7 : Int64) (q8 q9 : Int32) (q10 : Int64) (ln : Int32) : Int32 → QS → Prop := fun r u => (¬ ln < 0 ∧ ¬ nI (qLn q0) ≤ ln) ∧ u = (q0, q1, q2, q3, q4, q5, q6, q7, q8, q9, q10) ∧ r = qIn q5 q7 (LM (ln.toNatClampNeg))
def PX_X0_shared (q0 q1 q2 q3 q4 q5 q6 : Int32) (q7 : Int64) (q8 q9 : Int32) (q10 : Int64) (ln : Int32) : String → Prop := fun E => E = eIO ∧ (ln < 0 ∨ nI (qLn q0) ≤ ln)
set_option maxHeartbeats 4000000 in
set_option maxRecDepth 100000 in
theorem c_X0_shared (l : Launch) (g : zG) (bL h : Nat) (q0 q1 q2 q3 q4 q5 q6 : Int32) (q7 : Int64) (q8 q9 : Int32) (q10 : Int64) (ln : Int32) (htr : l.stackTraces = false)  : zMX l yX0_shared wsX0_shared 30 1000 g [.ref h, .int ln] (oQ h (q0, q1, q2, q3, q4, q5, q6, q7, q8, q9, q10)) (zEL bL) (zQi g (P_X0_shared q0 q1 q2 q3 q4 q5 q6 q7 q8 q9 q10 ln) (oQ h)) (PX_X0_shared q0 q1 q2 q3 q4 q5 q6 q7 q8 q9 q10 ln) := by
  refine zstartX (cc := cX0_shared) (maxL := 2) (ret := (some .int)) (own := RX0) rfl (by decide) rfl zStL (Nat.le_of_ble_eq_true rfl) ?_
  intro p e s m below meth c A Z hr hlk ht H locs X ls hl
  have hx := Z.1.1
  have hb := Z.1.2.1
  have hin : ∀ w ∈ wsX00, w ∈ wsX0_shared := inw_X0_shared
  have hl : lv_has ls 2 [(0, .ref h), (1, .int ln)] := hl
  have X : zh g A (oQ h (q0, q1, q2, q3, q4, q5, q6, q7, q8, q9, q10)) s.heap H locs := X
  have hln := qLn_le q0
  refine lv_iload_n hx hb dX0_shared_0 rfl (lv_at hl 1 rfl) ?_
  refine lv_if_lt (tgt := 12) hx hb dX0_shared_1 (by decide) (fun c1 => ?_) (fun c1 => ?_)
  · have qc1 := c1
    have h0 : ln < 0 := c1
    exact zthrow (is := 90) (text := "no such line") Z htr ht hlk X hl.1 (by decide +kernel) th_X0_shared_46 ti_X0_shared_46 (by decide +kernel) ta_X0_shared_46 zB_50 zG_50 dX0_shared_12 dX0_shared_15 dX0_shared_16 dX0_shared_18 dX0_shared_21 (Nat.le_of_ble_eq_true rfl) (Nat.le_of_ble_eq_true rfl) (Nat.le_refl _) (Nat.le_refl _) (⟨rfl, by first | exact Or.inl h0 | exact Or.inr h1⟩)
  · have qc1 := c1
    have h0 : ¬ ln < 0 := c1
    refine lv_iload_n hx hb dX0_shared_4 rfl (lv_at hl 1 rfl) ?_
    refine lv_aload_n hx hb dX0_shared_5 rfl (lv_at hl 0 rfl) ?_
    refine zcallVi (n := 0) (As := []) (rest := [.int ln]) (ci := 0) (C := RX0) (T := TX0) (N := 11) Z X (c_X0_lines l g bL h q0 q1 q2 q3 q4 q5 q6 q7 q8 q9 q10 ) gX0_shared_X0_lines rfl (by decide +kernel) ⟨by show _ ≤ 30; omega, by show _ ≤ 1000; omega⟩ rfl rfl rfl rfl hl.1 (Nat.le_of_ble_eq_true rfl) dX0_shared_6 ⟨Nat.zero_le _, Nat.zero_le _⟩ (fun r1 ur1 H locs hrr1 X => ?_)
    obtain ⟨rfl, rfl⟩ : ur1 = (q0, q1, q2, q3, q4, q5, q6, q7, q8, q9, q10) ∧ r1 = nI (qLn q0) := hrr1
    have X : zh g A (oQ h (q0, q1, q2, q3, q4, q5, q6, q7, q8, q9, q10)) s.heap H locs := X
    refine lv_icmp_lt (tgt := 22) hx hb dX0_shared_9 (by decide) (fun c3 => ?_) (fun c3 => ?_)
    · have qc3 := c3
      have h1 : ¬ nI (qLn q0) ≤ ln := Int32.not_le.mpr c3
      have hl1 := zclamp h0
      have hl2 := zclamp_lt h0 (by omega) h1
      refine lv_aload_n hx hb dX0_shared_22 rfl (lv_at hl 0 rfl) ?_
      refine va_gets hx hb Z.2.2.2.1.1 X.2.2 Z.1.2.2.2.1 (Z.1.2.2.2.2 _ lk_X0_shared_83) (fun _ h => h) dX0_shared_23 ?_
      refine lv_iload_n hx hb dX0_shared_26 rfl (lv_at hl 1 rfl) ?_
      refine zlld Z X (ln.toNatClampNeg) hl1 (by omega) dX0_shared_27 ?_
      refine zcallVi (n := 1) (As := [.int (LM (ln.toNatClampNeg))]) (rest := []) (ci := 0) (C := RX0) (T := TX0) (N := 11) Z X (c_X0_inCommon l g bL h q0 q1 q2 q3 q4 q5 q6 q7 q8 q9 q10 (LM (ln.toNatClampNeg))) gX0_shared_X0_inCommon rfl (by decide +kernel) ⟨by show _ ≤ 30; omega, by show _ ≤ 1000; omega⟩ rfl rfl rfl rfl hl.1 (Nat.le_of_ble_eq_true rfl) dX0_shared_28 ⟨Nat.zero_le _, Nat.zero_le _⟩ (fun r3 ur3 H locs hrr3 X => ?_)
      obtain ⟨rfl, rfl⟩ : ur3 = (q0, q1, q2, q3, q4, q5, q6, q7, q8, q9, q10) ∧ r3 = qIn q5 q7 (LM (ln.toNatClampNeg)) := hrr3
      have X : zh g A (oQ h (q0, q1, q2, q3, q4, q5, q6, q7, q8, q9, q10)) s.heap H locs := X
      exact vx_ret (W.widen (k := 1) (n := 6) (Nat.zero_le _) (Nat.zero_le _) (zreti Z hr hlk (q0, q1, q2, q3, q4, q5, q6, q7, q8, q9, q10) X dX0_shared_31 rfl (⟨⟨h0, h1⟩, rfl, rfl⟩)))
    · have qc3 := c3
      have h1 : nI (qLn q0) ≤ ln := Int32.not_lt.mp c3
      exact zthrow (is := 90) (text := "no such line") Z htr ht hlk X hl.1 (by decide +kernel) th_X0_shared_46 ti_X0_shared_46 (by decide +kernel) ta_X0_shared_46 zB_50 zG_50 dX0_shared_12 dX0_shared_15 dX0_shared_16 dX0_shared_18 dX0_shared_21 (Nat.le_of_ble_eq_true rfl) (Nat.le_of_ble_eq_true rfl) (Nat.le_refl _) (Nat.le_refl _) (⟨rfl, by first | exact Or.inl h0 | exact Or.inr h1⟩)
theorem inw_X0_worth : ∀ w ∈ wsX00, w ∈ wsX0_worth := by decide +kernel
theorem lk_X0_worth_29 : Cond.fieldLink RX0 29 "Quarterboard" "stage" "I" ∈ wsX0_worth := by decide +kernel
theorem lk_X0_worth_9 : Cond.fieldLink RX0 9 "Quarterboard" "held" "I" ∈ wsX0_worth := by decide +kernel
theorem th_X0_worth_103 : Cond.classLink "Quarterboard" 103 eIA ∈ wsX0_worth := by decide +kernel
theorem ti_X0_worth_103 : Cond.initialized eIA ∈ wsX0_worth := by decide +kernel
theorem ta_X0_worth_103 : ∀ w ∈ (vx_atS "Quarterboard" 107 eIA zNm).filter goodWord, w ∈ wsX0_worth := by decide +kernel
theorem th_X0_worth_53 : Cond.classLink "Quarterboard" 53 eIS ∈ wsX0_worth := by decide +kernel
theorem ti_X0_worth_53 : Cond.initialized eIS ∈ wsX0_worth := by decide +kernel
theorem ta_X0_worth_53 : ∀ w ∈ (vx_atS "Quarterboard" 57 eIS zNm).filter goodWord, w ∈ wsX0_worth := by decide +kernel
def P_X0_worth (q0 q1 q2 q3 q4 q5 q6 : Int32) (q7 : Int64) (q8 q9 : Int32) (q10 : Int64) (np : Int32) (hp : Nat) : Int32 → QS → Prop := fun r u => ((¬ np < 1 ∧ np ≤ 4) ∧ qCan q5 q1 np = true) ∧ u = (q0, q1, q2, q3, q4, q5, q6, q7, q8, q9, q10) ∧ r = (if q1 = 0 then qWG q0 (np.toNatClampNeg) q5 q6 q7 else qWP q0 (np.toNatClampNeg) q5 q6 q7 hp)
def PX_X0_worth (q0 q1 q2 q3 q4 q5 q6 : Int32) (q7 : Int64) (q8 q9 : Int32) (q10 : Int64) (np : Int32) (hp : Nat) : String → Prop := fun E => (E = eIA ∧ (np < 1 ∨ ¬ np ≤ 4)) ∨ (E = eIS ∧ (¬ np < 1 ∧ np ≤ 4) ∧ qCan q5 q1 np = false)
set_option maxHeartbeats 4000000 in
set_option maxRecDepth 100000 in
theorem c_X0_worth (l : Launch) (g : zG) (bL h : Nat) (q0 q1 q2 q3 q4 q5 q6 : Int32) (q7 : Int64) (q8 q9 : Int32) (q10 : Int64) (np : Int32) (htr : l.stackTraces = false) (hp : Nat) (hinv : qInv q5 q7) (hq1 : q1 = 0 ∨ q1 = 1 ∨ q1 = 2) (hq3 : q1 = 1 → q3 = nI hp ∧ hp < 16 ∧ qHas q6 (nI hp) = false) : zMX l yX0_worth wsX0_worth 30 1000 g [.ref h, .int np] (oQ h (q0, q1, q2, q3, q4, q5, q6, q7, q8, q9, q10)) (zEL bL) (zQi g (P_X0_worth q0 q1 q2 q3 q4 q5 q6 q7 q8 q9 q10 np hp) (oQ h)) (PX_X0_worth q0 q1 q2 q3 q4 q5 q6 q7 q8 q9 q10 np hp) := by
  refine zstartX (cc := cX0_worth) (maxL := 2) (ret := (some .int)) (own := RX0) rfl (by decide) rfl zStL (Nat.le_of_ble_eq_true rfl) ?_
  intro p e s m below meth c A Z hr hlk ht H locs X ls hl
  have hx := Z.1.1
  have hb := Z.1.2.1
  have hin : ∀ w ∈ wsX00, w ∈ wsX0_worth := inw_X0_worth
  have hl : lv_has ls 2 [(0, .ref h), (1, .int np)] := hl
  have X : zh g A (oQ h (q0, q1, q2, q3, q4, q5, q6, q7, q8, q9, q10)) s.heap H locs := X
  refine lv_iload_n hx hb dX0_worth_0 rfl (lv_at hl 1 rfl) ?_
  refine lv_iconst (v := (1 : Int32)) hx hb dX0_worth_1 (by decide) ?_
  refine lv_icmp_lt (tgt := 10) hx hb dX0_worth_2 (by decide) (fun c1 => ?_) (fun c1 => ?_)
  · have qc1 := c1
    have ha : np < 1 := c1
    exact zthrow (is := 105) (text := "placings is out of range") Z htr ht hlk X hl.1 (by decide +kernel) th_X0_worth_103 ti_X0_worth_103 (by decide +kernel) ta_X0_worth_103 zB_107 zG_107 dX0_worth_10 dX0_worth_13 dX0_worth_14 dX0_worth_16 dX0_worth_19 (Nat.le_of_ble_eq_true rfl) (Nat.le_of_ble_eq_true rfl) (Nat.le_refl _) (Nat.le_refl _) (Or.inl ⟨rfl, by first | exact Or.inl ha | exact Or.inr hb4⟩)
  · have qc1 := c1
    have ha : ¬ np < 1 := c1
    refine lv_iload_n hx hb dX0_worth_5 rfl (lv_at hl 1 rfl) ?_
    refine lv_iconst (v := (4 : Int32)) hx hb dX0_worth_6 (by decide) ?_
    refine lv_icmp_le (tgt := 20) hx hb dX0_worth_7 (by decide) (fun c2 => ?_) (fun c2 => ?_)
    · have qc2 := c2
      have hb4 : np ≤ 4 := c2
      obtain ⟨hnp, hn1, hn4⟩ := zplac ha hb4
      refine lv_aload_n hx hb dX0_worth_20 rfl (lv_at hl 0 rfl) ?_
      refine lv_iload_n hx hb dX0_worth_21 rfl (lv_at hl 1 rfl) ?_
      refine zcallVi (n := 1) (As := [.int np]) (rest := []) (ci := 0) (C := RX0) (T := TX0) (N := 11) Z X (c_X0_canLookAhead l g bL h q0 q1 q2 q3 q4 q5 q6 q7 q8 q9 q10 np) gX0_worth_X0_canLookAhead rfl (by decide +kernel) ⟨by show _ ≤ 30; omega, by show _ ≤ 1000; omega⟩ rfl rfl rfl rfl hl.1 (Nat.le_of_ble_eq_true rfl) dX0_worth_22 ⟨Nat.zero_le _, Nat.zero_le _⟩ (fun r2 ur2 H locs hrr2 X => ?_)
      obtain ⟨rfl, rfl⟩ : ur2 = (q0, q1, q2, q3, q4, q5, q6, q7, q8, q9, q10) ∧ r2 = zb (qCan q5 q1 np) := hrr2
      have X : zh g A (oQ h (q0, q1, q2, q3, q4, q5, q6, q7, q8, q9, q10)) s.heap H locs := X
      refine lv_if_ne (tgt := 38) hx hb dX0_worth_25 (by decide) (fun c4 => ?_) (fun c4 => ?_)
      · have qc4 := c4
        have hcan : qCan q5 q1 np = true := zb_n0.mp c4
        refine lv_aload_n hx hb dX0_worth_38 rfl (lv_at hl 0 rfl) ?_
        refine zget (fs := [.int q0, .int q1, .int q2, .int q3, .int q4, .int q5, .int q6, .long q7, .int q8, .int q9, .long q10]) (v := .int q1) Z hin X (ci := 0) (C := RX0) (T := TX0) (N := 11) rfl rfl 1 (by decide) lk_X0_worth_29 rfl dX0_worth_39 ?_
        refine lv_if_ne (tgt := 53) hx hb dX0_worth_42 (by decide) (fun c5 => ?_) (fun c5 => ?_)
        · have qc5 := c5
          have hz : ¬ q1 = 0 := c5
          obtain ⟨hh1, hh2, hh3⟩ := hq3 (by rcases hq1 with h | h | h; exact absurd h hz; exact h; exact absurd hcan (by rw [h]; unfold qCan; simp))
          refine lv_aload_n hx hb dX0_worth_53 rfl (lv_at hl 0 rfl) ?_
          refine lv_aload_n hx hb dX0_worth_54 rfl (lv_at hl 0 rfl) ?_
          refine zget (fs := [.int q0, .int q1, .int q2, .int q3, .int q4, .int q5, .int q6, .long q7, .int q8, .int q9, .long q10]) (v := .int q3) Z hin X (ci := 0) (C := RX0) (T := TX0) (N := 11) rfl rfl 3 (by decide) lk_X0_worth_9 rfl dX0_worth_55 ?_
          refine zrwi (y := nI hp) (hh1) ?_
          refine lv_iload_n hx hb dX0_worth_58 rfl (lv_at hl 1 rfl) ?_
          refine zrwi (y := nI (np.toNatClampNeg)) (hnp) ?_
          refine zcallVi (n := 2) (As := [.int (nI hp), .int (nI (np.toNatClampNeg))]) (rest := []) (ci := 0) (C := RX0) (T := TX0) (N := 11) Z X (c_X0_worthToPlace l g bL h q0 q1 q2 q3 q4 q5 q6 q7 q8 q9 q10 (np.toNatClampNeg) hp (by omega) hh2 hh3 hinv) gX0_worth_X0_worthToPlace rfl (by decide +kernel) ⟨by show _ ≤ 30; omega, by show _ ≤ 1000; omega⟩ rfl rfl rfl rfl hl.1 (Nat.le_of_ble_eq_true rfl) dX0_worth_59 ⟨Nat.zero_le _, Nat.zero_le _⟩ (fun r5 ur5 H locs hrr5 X => ?_)
          obtain ⟨rfl, rfl⟩ : ur5 = (q0, q1, q2, q3, q4, q5, q6, q7, q8, q9, q10) ∧ r5 = qWP q0 (np.toNatClampNeg) q5 q6 q7 hp := hrr5
          have X : zh g A (oQ h (q0, q1, q2, q3, q4, q5, q6, q7, q8, q9, q10)) s.heap H locs := X
          exact vx_ret (W.widen (k := 1) (n := 6) (Nat.zero_le _) (Nat.zero_le _) (zreti Z hr hlk (q0, q1, q2, q3, q4, q5, q6, q7, q8, q9, q10) X dX0_worth_62 rfl (⟨⟨⟨ha, hb4⟩, hcan⟩, rfl, by simp only [hz, if_true, if_false]⟩)))
        · have qc5 := c5
          have hz : q1 = 0 := c5
          refine lv_aload_n hx hb dX0_worth_45 rfl (lv_at hl 0 rfl) ?_
          refine lv_iload_n hx hb dX0_worth_46 rfl (lv_at hl 1 rfl) ?_
          refine zrwi (y := nI (np.toNatClampNeg)) (hnp) ?_
          refine zcallVi (n := 1) (As := [.int (nI (np.toNatClampNeg))]) (rest := []) (ci := 0) (C := RX0) (T := TX0) (N := 11) Z X (c_X0_worthToGive l g bL h q0 q1 q2 q3 q4 q5 q6 q7 q8 q9 q10 (np.toNatClampNeg) (by omega) hinv) gX0_worth_X0_worthToGive rfl (by decide +kernel) ⟨by show _ ≤ 30; omega, by show _ ≤ 1000; omega⟩ rfl rfl rfl rfl hl.1 (Nat.le_of_ble_eq_true rfl) dX0_worth_47 ⟨Nat.zero_le _, Nat.zero_le _⟩ (fun r6 ur6 H locs hrr6 X => ?_)
          obtain ⟨rfl, rfl⟩ : ur6 = (q0, q1, q2, q3, q4, q5, q6, q7, q8, q9, q10) ∧ r6 = qWG q0 (np.toNatClampNeg) q5 q6 q7 := hrr6
          have X : zh g A (oQ h (q0, q1, q2, q3, q4, q5, q6, q7, q8, q9, q10)) s.heap H locs := X
          refine lv_goto (tgt := 62) hx hb dX0_worth_50 (by decide) ?_
          exact vx_ret (W.widen (k := 1) (n := 6) (Nat.zero_le _) (Nat.zero_le _) (zreti Z hr hlk (q0, q1, q2, q3, q4, q5, q6, q7, q8, q9, q10) X dX0_worth_62 rfl (⟨⟨⟨ha, hb4⟩, hcan⟩, rfl, by simp only [hz, if_true, if_false]⟩)))
      · have qc4 := c4
        have hcan : qCan q5 q1 np = false := zb_0.mp c4
        exact zthrow (is := 111) (text := "the game is over, or too many squares are empty") Z htr ht hlk X hl.1 (by decide +kernel) th_X0_worth_53 ti_X0_worth_53 (by decide +kernel) ta_X0_worth_53 zB_57 zG_57 dX0_worth_28 dX0_worth_31 dX0_worth_32 dX0_worth_34 dX0_worth_37 (Nat.le_of_ble_eq_true rfl) (Nat.le_of_ble_eq_true rfl) (Nat.le_refl _) (Nat.le_refl _) (Or.inr ⟨rfl, ⟨ha, hb4⟩, hcan⟩)
    · have qc2 := c2
      have hb4 : ¬ np ≤ 4 := c2
      exact zthrow (is := 105) (text := "placings is out of range") Z htr ht hlk X hl.1 (by decide +kernel) th_X0_worth_103 ti_X0_worth_103 (by decide +kernel) ta_X0_worth_103 zB_107 zG_107 dX0_worth_10 dX0_worth_13 dX0_worth_14 dX0_worth_16 dX0_worth_19 (Nat.le_of_ble_eq_true rfl) (Nat.le_of_ble_eq_true rfl) (Nat.le_refl _) (Nat.le_refl _) (Or.inl ⟨rfl, by first | exact Or.inl ha | exact Or.inr hb4⟩)
theorem inw_X0_best : ∀ w ∈ wsX00, w ∈ wsX0_best := by decide +kernel
theorem lk_X0_best_29 : Cond.fieldLink RX0 29 "Quarterboard" "stage" "I" ∈ wsX0_best := by decide +kernel
theorem th_X0_best_103 : Cond.classLink "Quarterboard" 103 eIA ∈ wsX0_best := by decide +kernel
theorem ti_X0_best_103 : Cond.initialized eIA ∈ wsX0_best := by decide +kernel
theorem ta_X0_best_103 : ∀ w ∈ (vx_atS "Quarterboard" 107 eIA zNm).filter goodWord, w ∈ wsX0_best := by decide +kernel
theorem th_X0_best_53 : Cond.classLink "Quarterboard" 53 eIS ∈ wsX0_best := by decide +kernel
theorem ti_X0_best_53 : Cond.initialized eIS ∈ wsX0_best := by decide +kernel
theorem ta_X0_best_53 : ∀ w ∈ (vx_atS "Quarterboard" 57 eIS zNm).filter goodWord, w ∈ wsX0_best := by decide +kernel
def P_X0_best (q0 q1 q2 q3 q4 q5 q6 : Int32) (q7 : Int64) (q8 q9 : Int32) (q10 : Int64) (np : Int32) (hp : Nat) : Int32 → QS → Prop := fun r u => ((¬ np < 1 ∧ np ≤ 4) ∧ qCan q5 q1 np = true) ∧ u = (q0, q1, q2, q3, q4, q5, q6, q7, q8, q9, q10) ∧ r = (if q1 = 0 then nI (qBP q0 (np.toNatClampNeg) q5 q6 q7) else nI (qBS q0 (np.toNatClampNeg) q5 q6 q7 hp))
def PX_X0_best (q0 q1 q2 q3 q4 q5 q6 : Int32) (q7 : Int64) (q8 q9 : Int32) (q10 : Int64) (np : Int32) (hp : Nat) : String → Prop := fun E => (E = eIA ∧ (np < 1 ∨ ¬ np ≤ 4)) ∨ (E = eIS ∧ (¬ np < 1 ∧ np ≤ 4) ∧ qCan q5 q1 np = false)
set_option maxHeartbeats 4000000 in
set_option maxRecDepth 100000 in
theorem c_X0_best (l : Launch) (g : zG) (bL h : Nat) (q0 q1 q2 q3 q4 q5 q6 : Int32) (q7 : Int64) (q8 q9 : Int32) (q10 : Int64) (np : Int32) (htr : l.stackTraces = false) (hp : Nat) (hinv : qInv q5 q7) (hq1 : q1 = 0 ∨ q1 = 1 ∨ q1 = 2) (hq3 : q1 = 1 → q3 = nI hp ∧ hp < 16 ∧ qHas q6 (nI hp) = false) : zMX l yX0_best wsX0_best 30 1000 g [.ref h, .int np] (oQ h (q0, q1, q2, q3, q4, q5, q6, q7, q8, q9, q10)) (zEL bL) (zQi g (P_X0_best q0 q1 q2 q3 q4 q5 q6 q7 q8 q9 q10 np hp) (oQ h)) (PX_X0_best q0 q1 q2 q3 q4 q5 q6 q7 q8 q9 q10 np hp) := by
  refine zstartX (cc := cX0_best) (maxL := 2) (ret := (some .int)) (own := RX0) rfl (by decide) rfl zStL (Nat.le_of_ble_eq_true rfl) ?_
  intro p e s m below meth c A Z hr hlk ht H locs X ls hl
  have hx := Z.1.1
  have hb := Z.1.2.1
  have hin : ∀ w ∈ wsX00, w ∈ wsX0_best := inw_X0_best
  have hl : lv_has ls 2 [(0, .ref h), (1, .int np)] := hl
  have X : zh g A (oQ h (q0, q1, q2, q3, q4, q5, q6, q7, q8, q9, q10)) s.heap H locs := X
  refine lv_iload_n hx hb dX0_best_0 rfl (lv_at hl 1 rfl) ?_
  refine lv_iconst (v := (1 : Int32)) hx hb dX0_best_1 (by decide) ?_
  refine lv_icmp_lt (tgt := 10) hx hb dX0_best_2 (by decide) (fun c1 => ?_) (fun c1 => ?_)
  · have qc1 := c1
    have ha : np < 1 := c1
    exact zthrow (is := 105) (text := "placings is out of range") Z htr ht hlk X hl.1 (by decide +kernel) th_X0_best_103 ti_X0_best_103 (by decide +kernel) ta_X0_best_103 zB_107 zG_107 dX0_best_10 dX0_best_13 dX0_best_14 dX0_best_16 dX0_best_19 (Nat.le_of_ble_eq_true rfl) (Nat.le_of_ble_eq_true rfl) (Nat.le_refl _) (Nat.le_refl _) (Or.inl ⟨rfl, by first | exact Or.inl ha | exact Or.inr hb4⟩)
  · have qc1 := c1
    have ha : ¬ np < 1 := c1
    refine lv_iload_n hx hb dX0_best_5 rfl (lv_at hl 1 rfl) ?_
    refine lv_iconst (v := (4 : Int32)) hx hb dX0_best_6 (by decide) ?_
    refine lv_icmp_le (tgt := 20) hx hb dX0_best_7 (by decide) (fun c2 => ?_) (fun c2 => ?_)
    · have qc2 := c2
      have hb4 : np ≤ 4 := c2
      obtain ⟨hnp, hn1, hn4⟩ := zplac ha hb4
      refine lv_aload_n hx hb dX0_best_20 rfl (lv_at hl 0 rfl) ?_
      refine lv_iload_n hx hb dX0_best_21 rfl (lv_at hl 1 rfl) ?_
      refine zcallVi (n := 1) (As := [.int np]) (rest := []) (ci := 0) (C := RX0) (T := TX0) (N := 11) Z X (c_X0_canLookAhead l g bL h q0 q1 q2 q3 q4 q5 q6 q7 q8 q9 q10 np) gX0_best_X0_canLookAhead rfl (by decide +kernel) ⟨by show _ ≤ 30; omega, by show _ ≤ 1000; omega⟩ rfl rfl rfl rfl hl.1 (Nat.le_of_ble_eq_true rfl) dX0_best_22 ⟨Nat.zero_le _, Nat.zero_le _⟩ (fun r2 ur2 H locs hrr2 X => ?_)
      obtain ⟨rfl, rfl⟩ : ur2 = (q0, q1, q2, q3, q4, q5, q6, q7, q8, q9, q10) ∧ r2 = zb (qCan q5 q1 np) := hrr2
      have X : zh g A (oQ h (q0, q1, q2, q3, q4, q5, q6, q7, q8, q9, q10)) s.heap H locs := X
      refine lv_if_ne (tgt := 38) hx hb dX0_best_25 (by decide) (fun c4 => ?_) (fun c4 => ?_)
      · have qc4 := c4
        have hcan : qCan q5 q1 np = true := zb_n0.mp c4
        refine lv_aload_n hx hb dX0_best_38 rfl (lv_at hl 0 rfl) ?_
        refine zget (fs := [.int q0, .int q1, .int q2, .int q3, .int q4, .int q5, .int q6, .long q7, .int q8, .int q9, .long q10]) (v := .int q1) Z hin X (ci := 0) (C := RX0) (T := TX0) (N := 11) rfl rfl 1 (by decide) lk_X0_best_29 rfl dX0_best_39 ?_
        refine lv_if_ne (tgt := 53) hx hb dX0_best_42 (by decide) (fun c5 => ?_) (fun c5 => ?_)
        · have qc5 := c5
          have hz : ¬ q1 = 0 := c5
          obtain ⟨hh1, hh2, hh3⟩ := hq3 (by rcases hq1 with h | h | h; exact absurd h hz; exact h; exact absurd hcan (by rw [h]; unfold qCan; simp))
          have X : zh g A (oQ h (q0, q1, q2, nI hp, q4, q5, q6, q7, q8, q9, q10)) s.heap H locs := by rw [← hh1]; exact X
          refine lv_aload_n hx hb dX0_best_53 rfl (lv_at hl 0 rfl) ?_
          refine lv_iload_n hx hb dX0_best_54 rfl (lv_at hl 1 rfl) ?_
          refine zrwi (y := nI (np.toNatClampNeg)) (hnp) ?_
          refine zcallVi (n := 1) (As := [.int (nI (np.toNatClampNeg))]) (rest := []) (ci := 0) (C := RX0) (T := TX0) (N := 11) Z X (c_X0_bestSquare l g bL h q0 q1 q2 hp q4 q5 q6 q7 q8 q9 q10 (np.toNatClampNeg) (by omega) (by omega) hh2 hh3 hinv) gX0_best_X0_bestSquare rfl (by decide +kernel) ⟨by show _ ≤ 30; omega, by show _ ≤ 1000; omega⟩ rfl rfl rfl rfl hl.1 (Nat.le_of_ble_eq_true rfl) dX0_best_55 ⟨Nat.zero_le _, Nat.zero_le _⟩ (fun r5 ur5 H locs hrr5 X => ?_)
          obtain ⟨rfl, rfl⟩ : ur5 = (q0, q1, q2, nI hp, q4, q5, q6, q7, q8, q9, q10) ∧ r5 = nI (qBS q0 (np.toNatClampNeg) q5 q6 q7 hp) := hrr5
          have X : zh g A (oQ h (q0, q1, q2, nI hp, q4, q5, q6, q7, q8, q9, q10)) s.heap H locs := X
          exact vx_ret (W.widen (k := 1) (n := 6) (Nat.zero_le _) (Nat.zero_le _) (zreti Z hr hlk (q0, q1, q2, nI hp, q4, q5, q6, q7, q8, q9, q10) X dX0_best_58 rfl (⟨⟨⟨ha, hb4⟩, hcan⟩, by first | rfl | rw [hh1], by simp only [hz, if_true, if_false]⟩)))
        · have qc5 := c5
          have hz : q1 = 0 := c5
          refine lv_aload_n hx hb dX0_best_45 rfl (lv_at hl 0 rfl) ?_
          refine lv_iload_n hx hb dX0_best_46 rfl (lv_at hl 1 rfl) ?_
          refine zrwi (y := nI (np.toNatClampNeg)) (hnp) ?_
          refine zcallVi (n := 1) (As := [.int (nI (np.toNatClampNeg))]) (rest := []) (ci := 0) (C := RX0) (T := TX0) (N := 11) Z X (c_X0_bestPiece l g bL h q0 q1 q2 q3 q4 q5 q6 q7 q8 q9 q10 (np.toNatClampNeg) (by omega) hinv) gX0_best_X0_bestPiece rfl (by decide +kernel) ⟨by show _ ≤ 30; omega, by show _ ≤ 1000; omega⟩ rfl rfl rfl rfl hl.1 (Nat.le_of_ble_eq_true rfl) dX0_best_47 ⟨Nat.zero_le _, Nat.zero_le _⟩ (fun r6 ur6 H locs hrr6 X => ?_)
          obtain ⟨rfl, rfl⟩ : ur6 = (q0, q1, q2, q3, q4, q5, q6, q7, q8, q9, q10) ∧ r6 = nI (qBP q0 (np.toNatClampNeg) q5 q6 q7) := hrr6
          have X : zh g A (oQ h (q0, q1, q2, q3, q4, q5, q6, q7, q8, q9, q10)) s.heap H locs := X
          refine lv_goto (tgt := 58) hx hb dX0_best_50 (by decide) ?_
          exact vx_ret (W.widen (k := 1) (n := 6) (Nat.zero_le _) (Nat.zero_le _) (zreti Z hr hlk (q0, q1, q2, q3, q4, q5, q6, q7, q8, q9, q10) X dX0_best_58 rfl (⟨⟨⟨ha, hb4⟩, hcan⟩, by first | rfl | rw [hh1], by simp only [hz, if_true, if_false]⟩)))
      · have qc4 := c4
        have hcan : qCan q5 q1 np = false := zb_0.mp c4
        exact zthrow (is := 111) (text := "the game is over, or too many squares are empty") Z htr ht hlk X hl.1 (by decide +kernel) th_X0_best_53 ti_X0_best_53 (by decide +kernel) ta_X0_best_53 zB_57 zG_57 dX0_best_28 dX0_best_31 dX0_best_32 dX0_best_34 dX0_best_37 (Nat.le_of_ble_eq_true rfl) (Nat.le_of_ble_eq_true rfl) (Nat.le_refl _) (Nat.le_refl _) (Or.inr ⟨rfl, ⟨ha, hb4⟩, hcan⟩)
    · have qc2 := c2
      have hb4 : ¬ np ≤ 4 := c2
      exact zthrow (is := 105) (text := "placings is out of range") Z htr ht hlk X hl.1 (by decide +kernel) th_X0_best_103 ti_X0_best_103 (by decide +kernel) ta_X0_best_103 zB_107 zG_107 dX0_best_10 dX0_best_13 dX0_best_14 dX0_best_16 dX0_best_19 (Nat.le_of_ble_eq_true rfl) (Nat.le_of_ble_eq_true rfl) (Nat.le_refl _) (Nat.le_refl _) (Or.inl ⟨rfl, by first | exact Or.inl ha | exact Or.inr hb4⟩)
theorem inw_X0_isAlike : ∀ w ∈ wsX00, w ∈ wsX0_isAlike := by decide +kernel
theorem lk_X0_isAlike_126 : Cond.fieldLink RX0 126 "Quarterboard" "hasKept" "Z" ∈ wsX0_isAlike := by decide +kernel
theorem lk_X0_isAlike_129 : Cond.fieldLink RX0 129 "Quarterboard" "keptFilled" "I" ∈ wsX0_isAlike := by decide +kernel
theorem lk_X0_isAlike_132 : Cond.fieldLink RX0 132 "Quarterboard" "keptDigits" "J" ∈ wsX0_isAlike := by decide +kernel
theorem th_X0_isAlike_53 : Cond.classLink "Quarterboard" 53 eIS ∈ wsX0_isAlike := by decide +kernel
theorem ti_X0_isAlike_53 : Cond.initialized eIS ∈ wsX0_isAlike := by decide +kernel
theorem ta_X0_isAlike_53 : ∀ w ∈ (vx_atS "Quarterboard" 57 eIS zNm).filter goodWord, w ∈ wsX0_isAlike := by decide +kernel
def P_X0_isAlike (q0 q1 q2 q3 q4 q5 q6 : Int32) (q7 : Int64) (q8 q9 : Int32) (q10 : Int64) : Int32 → QS → Prop := fun r u => (¬ q8 = 0) ∧ u = (q0, q1, q2, q3, q4, q5, q6, q7, q8, q9, q10) ∧ r = zb (anyN (fun t => decide (0 < qWays q5 q7 t q9 q10)) 8)
def PX_X0_isAlike (q0 q1 q2 q3 q4 q5 q6 : Int32) (q7 : Int64) (q8 q9 : Int32) (q10 : Int64) : String → Prop := fun E => E = eIS ∧ q8 = 0
set_option maxHeartbeats 4000000 in
set_option maxRecDepth 100000 in
theorem c_X0_isAlike (l : Launch) (g : zG) (bL h : Nat) (q0 q1 q2 q3 q4 q5 q6 : Int32) (q7 : Int64) (q8 q9 : Int32) (q10 : Int64)  (htr : l.stackTraces = false)  : zMX l yX0_isAlike wsX0_isAlike 30 1000 g [.ref h] (oQ h (q0, q1, q2, q3, q4, q5, q6, q7, q8, q9, q10)) (zEL bL) (zQi g (P_X0_isAlike q0 q1 q2 q3 q4 q5 q6 q7 q8 q9 q10) (oQ h)) (PX_X0_isAlike q0 q1 q2 q3 q4 q5 q6 q7 q8 q9 q10) := by
  refine zstartX (cc := cX0_isAlike) (maxL := 2) (ret := (some .boolean)) (own := RX0) rfl (by decide) rfl zStL (Nat.le_of_ble_eq_true rfl) ?_
  intro p e s m below meth c A Z hr hlk ht H locs X ls hl
  have hx := Z.1.1
  have hb := Z.1.2.1
  have hin : ∀ w ∈ wsX00, w ∈ wsX0_isAlike := inw_X0_isAlike
  have hl : lv_has ls 2 [(0, .ref h)] := hl
  have X : zh g A (oQ h (q0, q1, q2, q3, q4, q5, q6, q7, q8, q9, q10)) s.heap H locs := X
  refine lv_aload_n hx hb dX0_isAlike_0 rfl (lv_at hl 0 rfl) ?_
  refine zget (fs := [.int q0, .int q1, .int q2, .int q3, .int q4, .int q5, .int q6, .long q7, .int q8, .int q9, .long q10]) (v := .int q8) Z hin X (ci := 0) (C := RX0) (T := TX0) (N := 11) rfl rfl 8 (by decide) lk_X0_isAlike_126 rfl dX0_isAlike_1 ?_
  refine lv_if_ne (tgt := 17) hx hb dX0_isAlike_4 (by decide) (fun c1 => ?_) (fun c1 => ?_)
  · have qc1 := c1
    have hk8 : ¬ q8 = 0 := c1
    refine lv_iconst (v := (0 : Int32)) hx hb dX0_isAlike_17 (by decide) ?_
    refine lv_istore_n (lv' := [(1, .int (0 : Int32)), (0, .ref h)]) hx hb dX0_isAlike_18 rfl hl (by decide) rfl (fun ls hl => ?_)
    have cut19 : ∀ (n19 : Nat), ∀ (k : Nat), (k ≤ 8) → (anyN (fun t => decide (0 < qWays q5 q7 t q9 q10)) k = false) → (9 - k ≤ n19) → ∀ (H : Heap) (locs : List Loc) (ls : Array Slot), zh g A (oQ h (q0, q1, q2, q3, q4, q5, q6, q7, q8, q9, q10)) s.heap H locs → lv_has ls 2 [(1, .int (nI k)), (0, .ref h)] → W p l e { frames := 30, cells := 1, slots := 6, locals := 1000 } s m ([.ref h] : List Value).toArray below meth c H locs 0 0 (vx_MQ below ((zQi g (P_X0_isAlike q0 q1 q2 q3 q4 q5 q6 q7 q8 q9 q10) (oQ h)) A) (zXC g (PX_X0_isAlike q0 q1 q2 q3 q4 q5 q6 q7 q8 q9 q10) (oQ h (q0, q1, q2, q3, q4, q5, q6, q7, q8, q9, q10)) A) ([.ref h] : List Value).toArray s 1 6 A) (F0 m 19 ls []) := by
      intro n19
      induction n19 with
      | zero =>
        intro k hk hall hm19
        exact absurd hm19 (by omega)
      | succ n19 ih19 =>
        intro k hk hall hm19 H locs ls X hl
        refine lv_iload_n hx hb dX0_isAlike_19 rfl (lv_at hl 0 rfl) ?_
        refine lv_bipush (v := (8 : Int32)) hx hb dX0_isAlike_20 (by decide) ?_
        refine lv_icmp_ge (tgt := 49) hx hb dX0_isAlike_22 (by decide) (fun c2 => ?_) (fun c2 => ?_)
        · have qc2 := c2
          have c2n : 8 ≤ k := zn_let (by omega) (by omega) c2
          refine lv_iconst (v := (0 : Int32)) hx hb dX0_isAlike_49 (by decide) ?_
          exact vx_ret (W.widen (k := 1) (n := 6) (Nat.zero_le _) (Nat.zero_le _) (zreti Z hr hlk (q0, q1, q2, q3, q4, q5, q6, q7, q8, q9, q10) X dX0_isAlike_50 rfl (⟨hk8, rfl, (zb_f0 (by rw [show (8 : Nat) = k by omega]; exact hall)).symm⟩)))
        · have qc2 := c2
          have c2n : ¬ 8 ≤ k := zn_len (by omega) (by omega) c2
          refine lv_aload_n hx hb dX0_isAlike_25 rfl (lv_at hl 1 rfl) ?_
          refine lv_iload_n hx hb dX0_isAlike_26 rfl (lv_at hl 0 rfl) ?_
          refine lv_aload_n hx hb dX0_isAlike_27 rfl (lv_at hl 1 rfl) ?_
          refine zget (fs := [.int q0, .int q1, .int q2, .int q3, .int q4, .int q5, .int q6, .long q7, .int q8, .int q9, .long q10]) (v := .int q9) Z hin X (ci := 0) (C := RX0) (T := TX0) (N := 11) rfl rfl 9 (by decide) lk_X0_isAlike_129 rfl dX0_isAlike_28 ?_
          refine lv_aload_n hx hb dX0_isAlike_31 rfl (lv_at hl 1 rfl) ?_
          refine zget (fs := [.int q0, .int q1, .int q2, .int q3, .int q4, .int q5, .int q6, .long q7, .int q8, .int q9, .long q10]) (v := .long q10) Z hin X (ci := 0) (C := RX0) (T := TX0) (N := 11) rfl rfl 10 (by decide) lk_X0_isAlike_132 rfl dX0_isAlike_32 ?_
          refine zcallVi (n := 3) (As := [.int (nI k), .int q9, .long q10]) (rest := []) (ci := 0) (C := RX0) (T := TX0) (N := 11) Z X (c_X0_waysOfMarks l g bL h q0 q1 q2 q3 q4 q5 q6 q7 q8 q9 q10 k q9 q10 (by omega)) gX0_isAlike_X0_waysOfMarks rfl (by decide +kernel) ⟨by show _ ≤ 30; omega, by show _ ≤ 1000; omega⟩ rfl rfl rfl rfl hl.1 (Nat.le_of_ble_eq_true rfl) dX0_isAlike_35 ⟨Nat.zero_le _, Nat.zero_le _⟩ (fun r2 ur2 H locs hrr2 X => ?_)
          obtain ⟨rfl, rfl⟩ : ur2 = (q0, q1, q2, q3, q4, q5, q6, q7, q8, q9, q10) ∧ r2 = qWays q5 q7 k q9 q10 := hrr2
          have X : zh g A (oQ h (q0, q1, q2, q3, q4, q5, q6, q7, q8, q9, q10)) s.heap H locs := X
          refine lv_if_le (tgt := 43) hx hb dX0_isAlike_38 (by decide) (fun c4 => ?_) (fun c4 => ?_)
          · have qc4 := c4
            have hq : ¬ 0 < qWays q5 q7 k q9 q10 := Int32.not_lt.mpr c4
            refine lv_iinc (v := nI (k + 1)) (lv' := [(1, .int (nI (k + 1))), (0, .ref h)]) hx hb dX0_isAlike_43 hl (k := 0) rfl (zi_inc k) (by decide) rfl (fun ls hl => ?_)
            refine lv_goto (tgt := 19) hx hb dX0_isAlike_46 (by decide) ?_
            exact ih19 (k + 1) (by first | assumption | omega) (anyN_s hall (decide_eq_false hq)) (by omega) H locs ls X (lv_sub hl [0, 1] rfl)
          · have qc4 := c4
            have hq : 0 < qWays q5 q7 k q9 q10 := Int32.not_le.mp c4
            refine lv_iconst (v := (1 : Int32)) hx hb dX0_isAlike_41 (by decide) ?_
            exact vx_ret (W.widen (k := 1) (n := 6) (Nat.zero_le _) (Nat.zero_le _) (zreti Z hr hlk (q0, q1, q2, q3, q4, q5, q6, q7, q8, q9, q10) X dX0_isAlike_42 rfl (⟨hk8, rfl, (zb_t (anyN_t (k := k) (by omega) (decide_eq_true hq))).symm⟩)))
    exact cut19 9 0 (by first | assumption | omega) (rfl) (by omega) H locs ls X (lv_sub hl [0, 1] rfl)
  · have qc1 := c1
    have hk8 : q8 = 0 := c1
    exact zthrow (is := 135) (text := "no board is kept") Z htr ht hlk X hl.1 (by decide +kernel) th_X0_isAlike_53 ti_X0_isAlike_53 (by decide +kernel) ta_X0_isAlike_53 zB_57 zG_57 dX0_isAlike_7 dX0_isAlike_10 dX0_isAlike_11 dX0_isAlike_13 dX0_isAlike_16 (Nat.le_of_ble_eq_true rfl) (Nat.le_of_ble_eq_true rfl) (Nat.le_refl _) (Nat.le_refl _) (⟨rfl, hk8⟩)
theorem inw_X0_place : ∀ w ∈ wsX00, w ∈ wsX0_place := by decide +kernel
theorem lk_X0_place_29 : Cond.fieldLink RX0 29 "Quarterboard" "stage" "I" ∈ wsX0_place := by decide +kernel
theorem lk_X0_place_16 : Cond.fieldLink RX0 16 "Quarterboard" "filled" "I" ∈ wsX0_place := by decide +kernel
theorem lk_X0_place_9 : Cond.fieldLink RX0 9 "Quarterboard" "held" "I" ∈ wsX0_place := by decide +kernel
theorem lk_X0_place_32 : Cond.fieldLink RX0 32 "Quarterboard" "player" "I" ∈ wsX0_place := by decide +kernel
theorem lk_X0_place_13 : Cond.fieldLink RX0 13 "Quarterboard" "victor" "I" ∈ wsX0_place := by decide +kernel
theorem th_X0_place_46 : Cond.classLink "Quarterboard" 46 eIO ∈ wsX0_place := by decide +kernel
theorem ti_X0_place_46 : Cond.initialized eIO ∈ wsX0_place := by decide +kernel
theorem ta_X0_place_46 : ∀ w ∈ (vx_atS "Quarterboard" 50 eIO zNm).filter goodWord, w ∈ wsX0_place := by decide +kernel
theorem th_X0_place_53 : Cond.classLink "Quarterboard" 53 eIS ∈ wsX0_place := by decide +kernel
theorem ti_X0_place_53 : Cond.initialized eIS ∈ wsX0_place := by decide +kernel
theorem ta_X0_place_53 : ∀ w ∈ (vx_atS "Quarterboard" 57 eIS zNm).filter goodWord, w ∈ wsX0_place := by decide +kernel
def P_X0_place (q0 q1 q2 q3 q4 q5 q6 : Int32) (q7 : Int64) (q8 q9 : Int32) (q10 : Int64) (sq : Int32) : Int32 → QS → Prop := fun r u => (qNum sq = true ∧ q1 = 1 ∧ qHas q5 sq = false) ∧ u = (q0, (if 0 < (qWon (q5 ||| qBit sq) (qPutD q7 q3 sq) q0) then 2 else if q5 ||| qBit sq = 65535 then 2 else 0), q2, -1, (if 0 < (qWon (q5 ||| qBit sq) (qPutD q7 q3 sq) q0) then q2 else if q5 ||| qBit sq = 65535 then 2 else q4), q5 ||| qBit sq, q6 ||| qBit q3, qPutD q7 q3 sq, q8, q9, q10) ∧ r = nI (qWon (q5 ||| qBit sq) (qPutD q7 q3 sq) q0)
def PX_X0_place (q0 q1 q2 q3 q4 q5 q6 : Int32) (q7 : Int64) (q8 q9 : Int32) (q10 : Int64) (sq : Int32) : String → Prop := fun E => (E = eIO ∧ qNum sq = false) ∨ (E = eIS ∧ qNum sq = true ∧ (¬ q1 = 1 ∨ qHas q5 sq = true))
set_option maxHeartbeats 4000000 in
set_option maxRecDepth 100000 in
theorem c_X0_place (l : Launch) (g : zG) (bL h : Nat) (q0 q1 q2 q3 q4 q5 q6 : Int32) (q7 : Int64) (q8 q9 : Int32) (q10 : Int64) (sq : Int32) (htr : l.stackTraces = false)  : zMX l yX0_place wsX0_place 30 1000 g [.ref h, .int sq] (oQ h (q0, q1, q2, q3, q4, q5, q6, q7, q8, q9, q10)) (zEL bL) (zQi g (P_X0_place q0 q1 q2 q3 q4 q5 q6 q7 q8 q9 q10 sq) (oQ h)) (PX_X0_place q0 q1 q2 q3 q4 q5 q6 q7 q8 q9 q10 sq) := by
  refine zstartX (cc := cX0_place) (maxL := 3) (ret := (some .int)) (own := RX0) rfl (by decide) rfl zStL (Nat.le_of_ble_eq_true rfl) ?_
  intro p e s m below meth c A Z hr hlk ht H locs X ls hl
  have hx := Z.1.1
  have hb := Z.1.2.1
  have hin : ∀ w ∈ wsX00, w ∈ wsX0_place := inw_X0_place
  have hl : lv_has ls 3 [(0, .ref h), (1, .int sq)] := hl
  have X : zh g A (oQ h (q0, q1, q2, q3, q4, q5, q6, q7, q8, q9, q10)) s.heap H locs := X
  have hwl : qWon (q5 ||| qBit sq) (qPutD q7 q3 sq) q0 ≤ 19 := Nat.le_trans (qWonC_le _ _ _) (qLn_le q0).2
  refine lv_iload_n hx hb dX0_place_0 rfl (lv_at hl 1 rfl) ?_
  refine zcallSi (n := 1) (As := [.int sq]) (rest := []) Z X (c_X0_isNumber l g sq) gX0_place_X0_isNumber rfl (by decide +kernel) ⟨by show _ ≤ 30; omega, by show _ ≤ 1000; omega⟩ rfl rfl hl.1 (Nat.le_of_ble_eq_true rfl) dX0_place_1 ⟨Nat.zero_le _, Nat.zero_le _⟩ (fun r0 H locs hrr0 X => ?_)
  obtain rfl : r0 = zb (qNum sq) := hrr0
  refine lv_if_ne (tgt := 17) hx hb dX0_place_4 (by decide) (fun c2 => ?_) (fun c2 => ?_)
  · have qc2 := c2
    have hn : qNum sq = true := zb_n0.mp c2
    refine lv_aload_n hx hb dX0_place_17 rfl (lv_at hl 0 rfl) ?_
    refine zget (fs := [.int q0, .int q1, .int q2, .int q3, .int q4, .int q5, .int q6, .long q7, .int q8, .int q9, .long q10]) (v := .int q1) Z hin X (ci := 0) (C := RX0) (T := TX0) (N := 11) rfl rfl 1 (by decide) lk_X0_place_29 rfl dX0_place_18 ?_
    refine lv_iconst (v := (1 : Int32)) hx hb dX0_place_21 (by decide) ?_
    refine lv_icmp_eq (tgt := 35) hx hb dX0_place_22 (by decide) (fun c3 => ?_) (fun c3 => ?_)
    · have qc3 := c3
      have hs : q1 = 1 := c3
      refine lv_aload_n hx hb dX0_place_35 rfl (lv_at hl 0 rfl) ?_
      refine zget (fs := [.int q0, .int q1, .int q2, .int q3, .int q4, .int q5, .int q6, .long q7, .int q8, .int q9, .long q10]) (v := .int q5) Z hin X (ci := 0) (C := RX0) (T := TX0) (N := 11) rfl rfl 5 (by decide) lk_X0_place_16 rfl dX0_place_36 ?_
      refine lv_iload_n hx hb dX0_place_39 rfl (lv_at hl 1 rfl) ?_
      refine zcallSi (n := 2) (As := [.int q5, .int sq]) (rest := []) Z X (c_X0_has l g q5 sq) gX0_place_X0_has rfl (by decide +kernel) ⟨by show _ ≤ 30; omega, by show _ ≤ 1000; omega⟩ rfl rfl hl.1 (Nat.le_of_ble_eq_true rfl) dX0_place_40 ⟨Nat.zero_le _, Nat.zero_le _⟩ (fun r3 H locs hrr3 X => ?_)
      obtain rfl : r3 = zb (qHas q5 sq) := hrr3
      refine lv_if_eq (tgt := 56) hx hb dX0_place_43 (by decide) (fun c5 => ?_) (fun c5 => ?_)
      · have qc5 := c5
        have hh : qHas q5 sq = false := zb_0.mp c5
        refine lv_aload_n hx hb dX0_place_56 rfl (lv_at hl 0 rfl) ?_
        refine lv_aload_n hx hb dX0_place_57 rfl (lv_at hl 0 rfl) ?_
        refine zget (fs := [.int q0, .int q1, .int q2, .int q3, .int q4, .int q5, .int q6, .long q7, .int q8, .int q9, .long q10]) (v := .int q3) Z hin X (ci := 0) (C := RX0) (T := TX0) (N := 11) rfl rfl 3 (by decide) lk_X0_place_9 rfl dX0_place_58 ?_
        refine lv_iload_n hx hb dX0_place_61 rfl (lv_at hl 1 rfl) ?_
        refine zcallVv (n := 2) (As := [.int q3, .int sq]) (rest := []) (ci := 0) (C := RX0) (T := TX0) (N := 11) Z X (c_X0_put l g bL h q0 q1 q2 q3 q4 q5 q6 q7 q8 q9 q10 q3 sq) gX0_place_X0_put rfl (by decide +kernel) ⟨by show _ ≤ 30; omega, by show _ ≤ 1000; omega⟩ rfl rfl rfl rfl hl.1 (Nat.le_of_ble_eq_true rfl) dX0_place_62 ⟨Nat.zero_le _, Nat.zero_le _⟩ (fun ur5 H locs hrr5 X => ?_)
        obtain rfl : ur5 = (q0, q1, q2, q3, q4, (q5 ||| qBit sq), (q6 ||| qBit q3), (qPutD q7 q3 sq), q8, q9, q10) := hrr5
        have X : zh g A (oQ h (q0, q1, q2, q3, q4, (q5 ||| qBit sq), (q6 ||| qBit q3), (qPutD q7 q3 sq), q8, q9, q10)) s.heap H locs := X
        refine lv_aload_n hx hb dX0_place_65 rfl (lv_at hl 0 rfl) ?_
        refine lv_iconst (v := (-1 : Int32)) hx hb dX0_place_66 (by decide) ?_
        refine zput (ty := .int) (fs := [.int q0, .int q1, .int q2, .int q3, .int q4, .int (q5 ||| qBit sq), .int (q6 ||| qBit q3), .long (qPutD q7 q3 sq), .int q8, .int q9, .long q10]) (v := .int (-1 : Int32)) tyX0 tyX0_ok nmX0 Z hin X (ci := 0) (C := RX0) (T := TX0) (N := 11) rfl rfl 3 (by decide) lk_X0_place_9 rfl (by decide +kernel) rfl rfl (Nat.le_of_ble_eq_true rfl) dX0_place_67 (fun H locs X => ?_)
        have X : zh g A (oQ h (q0, q1, q2, (-1 : Int32), q4, (q5 ||| qBit sq), (q6 ||| qBit q3), (qPutD q7 q3 sq), q8, q9, q10)) s.heap H locs := X
        refine lv_aload_n hx hb dX0_place_70 rfl (lv_at hl 0 rfl) ?_
        refine zcallVi (n := 0) (As := []) (rest := []) (ci := 0) (C := RX0) (T := TX0) (N := 11) Z X (c_X0_wonLines l g bL h q0 q1 q2 (-1 : Int32) q4 (q5 ||| qBit sq) (q6 ||| qBit q3) (qPutD q7 q3 sq) q8 q9 q10 ) gX0_place_X0_wonLines rfl (by decide +kernel) ⟨by show _ ≤ 30; omega, by show _ ≤ 1000; omega⟩ rfl rfl rfl rfl hl.1 (Nat.le_of_ble_eq_true rfl) dX0_place_71 ⟨Nat.zero_le _, Nat.zero_le _⟩ (fun r6 ur6 H locs hrr6 X => ?_)
        obtain ⟨rfl, rfl⟩ : ur6 = (q0, q1, q2, (-1 : Int32), q4, (q5 ||| qBit sq), (q6 ||| qBit q3), (qPutD q7 q3 sq), q8, q9, q10) ∧ r6 = nI (qWon (q5 ||| qBit sq) (qPutD q7 q3 sq) q0) := hrr6
        have X : zh g A (oQ h (q0, q1, q2, (-1 : Int32), q4, (q5 ||| qBit sq), (q6 ||| qBit q3), (qPutD q7 q3 sq), q8, q9, q10)) s.heap H locs := X
        refine lv_istore_n (lv' := [(2, .int (nI (qWon (q5 ||| qBit sq) (qPutD q7 q3 sq) q0))), (0, .ref h), (1, .int sq)]) hx hb dX0_place_74 rfl hl (by decide) rfl (fun ls hl => ?_)
        refine lv_iload_n hx hb dX0_place_75 rfl (lv_at hl 0 rfl) ?_
        refine lv_if_le (tgt := 95) hx hb dX0_place_76 (by decide) (fun c8 => ?_) (fun c8 => ?_)
        · have qc8 := c8
          have c8n : (qWon (q5 ||| qBit sq) (qPutD q7 q3 sq) q0) ≤ 0 := zn_let (by omega) (by omega) c8
          have hw : ¬ 0 < (qWon (q5 ||| qBit sq) (qPutD q7 q3 sq) q0) := by omega
          refine lv_aload_n hx hb dX0_place_95 rfl (lv_at hl 1 rfl) ?_
          refine zget (fs := [.int q0, .int q1, .int q2, .int (-1 : Int32), .int q4, .int (q5 ||| qBit sq), .int (q6 ||| qBit q3), .long (qPutD q7 q3 sq), .int q8, .int q9, .long q10]) (v := .int (q5 ||| qBit sq)) Z hin X (ci := 0) (C := RX0) (T := TX0) (N := 11) rfl rfl 5 (by decide) lk_X0_place_16 rfl dX0_place_96 ?_
          refine lv_ldc (v := (65535 : Int32)) hx hb Z.1.2.2.2.1 (Z.1.2.2.2.2 (.constant RX0 78 (65535)) (by decide +kernel)) dX0_place_99 ?_
          refine lv_icmp_ne (tgt := 117) hx hb dX0_place_101 (by decide) (fun c9 => ?_) (fun c9 => ?_)
          · have qc9 := c9
            have hf5 : ¬ q5 ||| qBit sq = 65535 := c9
            refine lv_aload_n hx hb dX0_place_117 rfl (lv_at hl 1 rfl) ?_
            refine lv_iconst (v := (0 : Int32)) hx hb dX0_place_118 (by decide) ?_
            refine zput (ty := .int) (fs := [.int q0, .int q1, .int q2, .int (-1 : Int32), .int q4, .int (q5 ||| qBit sq), .int (q6 ||| qBit q3), .long (qPutD q7 q3 sq), .int q8, .int q9, .long q10]) (v := .int (0 : Int32)) tyX0 tyX0_ok nmX0 Z hin X (ci := 0) (C := RX0) (T := TX0) (N := 11) rfl rfl 1 (by decide) lk_X0_place_29 rfl (by decide +kernel) rfl rfl (Nat.le_of_ble_eq_true rfl) dX0_place_119 (fun H locs X => ?_)
            have X : zh g A (oQ h (q0, (0 : Int32), q2, (-1 : Int32), q4, (q5 ||| qBit sq), (q6 ||| qBit q3), (qPutD q7 q3 sq), q8, q9, q10)) s.heap H locs := X
            refine lv_iload_n hx hb dX0_place_122 rfl (lv_at hl 0 rfl) ?_
            exact vx_ret (W.widen (k := 1) (n := 6) (Nat.zero_le _) (Nat.zero_le _) (zreti Z hr hlk (q0, (0 : Int32), q2, (-1 : Int32), q4, (q5 ||| qBit sq), (q6 ||| qBit q3), (qPutD q7 q3 sq), q8, q9, q10) X dX0_place_123 rfl (⟨⟨hn, hs, hh⟩, by first | rw [if_pos hw, if_pos hw] | rw [if_neg hw, if_neg hw, if_pos hf5, if_pos hf5] | rw [if_neg hw, if_neg hw, if_neg hf5, if_neg hf5], rfl⟩)))
          · have qc9 := c9
            have hf5 : q5 ||| qBit sq = 65535 := c9
            refine lv_aload_n hx hb dX0_place_104 rfl (lv_at hl 1 rfl) ?_
            refine lv_iconst (v := (2 : Int32)) hx hb dX0_place_105 (by decide) ?_
            refine zput (ty := .int) (fs := [.int q0, .int q1, .int q2, .int (-1 : Int32), .int q4, .int (q5 ||| qBit sq), .int (q6 ||| qBit q3), .long (qPutD q7 q3 sq), .int q8, .int q9, .long q10]) (v := .int (2 : Int32)) tyX0 tyX0_ok nmX0 Z hin X (ci := 0) (C := RX0) (T := TX0) (N := 11) rfl rfl 1 (by decide) lk_X0_place_29 rfl (by decide +kernel) rfl rfl (Nat.le_of_ble_eq_true rfl) dX0_place_106 (fun H locs X => ?_)
            have X : zh g A (oQ h (q0, (2 : Int32), q2, (-1 : Int32), q4, (q5 ||| qBit sq), (q6 ||| qBit q3), (qPutD q7 q3 sq), q8, q9, q10)) s.heap H locs := X
            refine lv_aload_n hx hb dX0_place_109 rfl (lv_at hl 1 rfl) ?_
            refine lv_iconst (v := (2 : Int32)) hx hb dX0_place_110 (by decide) ?_
            refine zput (ty := .int) (fs := [.int q0, .int (2 : Int32), .int q2, .int (-1 : Int32), .int q4, .int (q5 ||| qBit sq), .int (q6 ||| qBit q3), .long (qPutD q7 q3 sq), .int q8, .int q9, .long q10]) (v := .int (2 : Int32)) tyX0 tyX0_ok nmX0 Z hin X (ci := 0) (C := RX0) (T := TX0) (N := 11) rfl rfl 4 (by decide) lk_X0_place_13 rfl (by decide +kernel) rfl rfl (Nat.le_of_ble_eq_true rfl) dX0_place_111 (fun H locs X => ?_)
            have X : zh g A (oQ h (q0, (2 : Int32), q2, (-1 : Int32), (2 : Int32), (q5 ||| qBit sq), (q6 ||| qBit q3), (qPutD q7 q3 sq), q8, q9, q10)) s.heap H locs := X
            refine lv_goto (tgt := 122) hx hb dX0_place_114 (by decide) ?_
            refine lv_iload_n hx hb dX0_place_122 rfl (lv_at hl 0 rfl) ?_
            exact vx_ret (W.widen (k := 1) (n := 6) (Nat.zero_le _) (Nat.zero_le _) (zreti Z hr hlk (q0, (2 : Int32), q2, (-1 : Int32), (2 : Int32), (q5 ||| qBit sq), (q6 ||| qBit q3), (qPutD q7 q3 sq), q8, q9, q10) X dX0_place_123 rfl (⟨⟨hn, hs, hh⟩, by first | rw [if_pos hw, if_pos hw] | rw [if_neg hw, if_neg hw, if_pos hf5, if_pos hf5] | rw [if_neg hw, if_neg hw, if_neg hf5, if_neg hf5], rfl⟩)))
        · have qc8 := c8
          have c8n : ¬ (qWon (q5 ||| qBit sq) (qPutD q7 q3 sq) q0) ≤ 0 := zn_len (by omega) (by omega) c8
          have hw : 0 < (qWon (q5 ||| qBit sq) (qPutD q7 q3 sq) q0) := by omega
          refine lv_aload_n hx hb dX0_place_79 rfl (lv_at hl 1 rfl) ?_
          refine lv_iconst (v := (2 : Int32)) hx hb dX0_place_80 (by decide) ?_
          refine zput (ty := .int) (fs := [.int q0, .int q1, .int q2, .int (-1 : Int32), .int q4, .int (q5 ||| qBit sq), .int (q6 ||| qBit q3), .long (qPutD q7 q3 sq), .int q8, .int q9, .long q10]) (v := .int (2 : Int32)) tyX0 tyX0_ok nmX0 Z hin X (ci := 0) (C := RX0) (T := TX0) (N := 11) rfl rfl 1 (by decide) lk_X0_place_29 rfl (by decide +kernel) rfl rfl (Nat.le_of_ble_eq_true rfl) dX0_place_81 (fun H locs X => ?_)
          have X : zh g A (oQ h (q0, (2 : Int32), q2, (-1 : Int32), q4, (q5 ||| qBit sq), (q6 ||| qBit q3), (qPutD q7 q3 sq), q8, q9, q10)) s.heap H locs := X
          refine lv_aload_n hx hb dX0_place_84 rfl (lv_at hl 1 rfl) ?_
          refine lv_aload_n hx hb dX0_place_85 rfl (lv_at hl 1 rfl) ?_
          refine zget (fs := [.int q0, .int (2 : Int32), .int q2, .int (-1 : Int32), .int q4, .int (q5 ||| qBit sq), .int (q6 ||| qBit q3), .long (qPutD q7 q3 sq), .int q8, .int q9, .long q10]) (v := .int q2) Z hin X (ci := 0) (C := RX0) (T := TX0) (N := 11) rfl rfl 2 (by decide) lk_X0_place_32 rfl dX0_place_86 ?_
          refine zput (ty := .int) (fs := [.int q0, .int (2 : Int32), .int q2, .int (-1 : Int32), .int q4, .int (q5 ||| qBit sq), .int (q6 ||| qBit q3), .long (qPutD q7 q3 sq), .int q8, .int q9, .long q10]) (v := .int q2) tyX0 tyX0_ok nmX0 Z hin X (ci := 0) (C := RX0) (T := TX0) (N := 11) rfl rfl 4 (by decide) lk_X0_place_13 rfl (by decide +kernel) rfl rfl (Nat.le_of_ble_eq_true rfl) dX0_place_89 (fun H locs X => ?_)
          have X : zh g A (oQ h (q0, (2 : Int32), q2, (-1 : Int32), q2, (q5 ||| qBit sq), (q6 ||| qBit q3), (qPutD q7 q3 sq), q8, q9, q10)) s.heap H locs := X
          refine lv_goto (tgt := 122) hx hb dX0_place_92 (by decide) ?_
          refine lv_iload_n hx hb dX0_place_122 rfl (lv_at hl 0 rfl) ?_
          exact vx_ret (W.widen (k := 1) (n := 6) (Nat.zero_le _) (Nat.zero_le _) (zreti Z hr hlk (q0, (2 : Int32), q2, (-1 : Int32), q2, (q5 ||| qBit sq), (q6 ||| qBit q3), (qPutD q7 q3 sq), q8, q9, q10) X dX0_place_123 rfl (⟨⟨hn, hs, hh⟩, by first | rw [if_pos hw, if_pos hw] | rw [if_neg hw, if_neg hw, if_pos hf5, if_pos hf5] | rw [if_neg hw, if_neg hw, if_neg hf5, if_neg hf5], rfl⟩)))
      · have qc5 := c5
        have hh : qHas q5 sq = true := zb_n0.mp c5
        exact zthrow (is := 68) (text := "the square is not empty") Z htr ht hlk X hl.1 (by decide +kernel) th_X0_place_53 ti_X0_place_53 (by decide +kernel) ta_X0_place_53 zB_57 zG_57 dX0_place_46 dX0_place_49 dX0_place_50 dX0_place_52 dX0_place_55 (Nat.le_of_ble_eq_true rfl) (Nat.le_of_ble_eq_true rfl) (Nat.le_refl _) (Nat.le_refl _) (Or.inr ⟨rfl, hn, Or.inr hh⟩)
    · have qc3 := c3
      have hs : ¬ q1 = 1 := c3
      exact zthrow (is := 66) (text := "no piece is in the hand") Z htr ht hlk X hl.1 (by decide +kernel) th_X0_place_53 ti_X0_place_53 (by decide +kernel) ta_X0_place_53 zB_57 zG_57 dX0_place_25 dX0_place_28 dX0_place_29 dX0_place_31 dX0_place_34 (Nat.le_of_ble_eq_true rfl) (Nat.le_of_ble_eq_true rfl) (Nat.le_refl _) (Nat.le_refl _) (Or.inr ⟨rfl, hn, Or.inl hs⟩)
  · have qc2 := c2
    have hn : qNum sq = false := zb_0.mp c2
    exact zthrow (is := 64) (text := "no such square") Z htr ht hlk X hl.1 (by decide +kernel) th_X0_place_46 ti_X0_place_46 (by decide +kernel) ta_X0_place_46 zB_50 zG_50 dX0_place_7 dX0_place_10 dX0_place_11 dX0_place_13 dX0_place_16 (Nat.le_of_ble_eq_true rfl) (Nat.le_of_ble_eq_true rfl) (Nat.le_refl _) (Nat.le_refl _) (Or.inl ⟨rfl, hn⟩)
end
