/-! calls out of a part of the world; methods with handlers -/
theorem zofWH {l : Launch} {y : MethodName} {ws ws' : List Cond} {rm : Room} {Pc : Array Value → State → Prop} {Qc : Array Value → State → Outcome → State → Prop} {mc ms : Nat} {free : Addr → Prop} {cc : ByteArray} {maxL : Nat} {ret : Option FieldType} {hh : List (Nat × Nat × Nat × Nat)}
    (hy : plainName y.cls = true) (hw : ws = Cond.codeWith y cc maxL ret hh :: ws')
    (body : ∀ p e s m args below meth c s₁, BodyLoose p l y (headSpec ws rm) cc maxL ret e s m args below meth c s₁ → c.maxLocals = maxL → c.exceptionTable.toList = tableOf hh → Pc args s →
      W p l e (headSpec ws rm).room s m args below meth c s.heap [] 0 0 (MQ below Qc args s mc ms free) (entryFrame m args maxL)) : Met l y ws rm Pc Qc mc ms free := by
  have hmem : Cond.codeWith y cc maxL ret hh ∈ ws := by rw [hw]; exact List.mem_cons_self
  refine MetFree.of_bodyS (code := cc) (maxLocals := maxL) (ret := ret) hy ?_ ?_
  · intro args s m h hn
    obtain ⟨m9, meth, c, hn9, h1, h2, h3, h4, -, h5, h6, -⟩ := Cond.codeWith_spec (atoms_spec (ws := ws) h _ hmem)
    cases hn.symm.trans hn9
    exact ⟨meth, c, h1, h2, h3, h4, h5, h6⟩
  · intro p e s m args below meth c s₁ B hml hP _
    have hh0 : s₁.heap = s.heap := by rw [B.state]; rfl
    obtain ⟨t, a1, o, b1, b2, b3⟩ := body p e s m args below meth c s₁ B hml (vx_table (x := y) B (atoms_spec (ws := ws) B.pre _ hmem)) hP s₁ hh0 (Stand.of_body B)
    exact ⟨t, o, a1, b1, b2, ⟨b3.1, b3.2⟩⟩
theorem zstartH {l : Launch} {y : MethodName} {wds ws' : List Cond} {fr lo mc ms : Nat} {g : zG} {av : List Value} {ws : va_W} {E : zEt} {Qc : (Nat → Prop) → Array Value → State → Outcome → State → Prop} {cc : ByteArray} {maxL : Nat} {ret : Option FieldType} {own : String} {hh : List (Nat × Nat × Nat × Nat)}
    (ho : y.cls = own) (hy : plainName own = true) (hw : wds = Cond.codeWith y cc maxL ret hh :: ws') (hst : zSt E) (hlen : (lg_sl av).length ≤ maxL)
    (body : ∀ (p : Program) (e : Env) (s : State) (m : MethodId) (below : List Frame) (meth : Method) (c : Code) (A : Nat → Prop), zc p m c cc maxL s av.toArray wds own g A E → meth.sig.returnType = ret → meth.locks = false → c.exceptionTable.toList = tableOf hh → ∀ (H : Heap) (locs : List Loc), zh g A ws s.heap H locs → ∀ ls : Array Slot, lv_has ls maxL (lv_args 0 av) →
      W p l e { frames := fr, cells := mc, slots := ms, locals := lo } s m av.toArray below meth c H locs 0 0 (MQ below (Qc A) av.toArray s mc ms A) (F0 m 0 ls [])) : zMk l y wds fr lo mc ms g av ws E Qc := by
  subst ho
  intro sz
  refine zofWH (cc := cc) (maxL := maxL) (ret := ret) (hh := hh) hy hw ?_
  intro p e s m args below meth c s₁ B hml htab hv
  obtain ⟨rfl, rfl, hK, hP, hD0, hE⟩ := hv
  have hts := atoms_spec (ws := wds) B.pre
  have hown : s.vm.findClass y.cls = some m.cls := findClass_of_methodNamed B.named
  rw [lg_entry_eq]
  exact body p e s m below meth c _ ⟨⟨B.exec, B.bytes, hml, hown, hts⟩, hK, fun q h => Or.inr h, hE, hst⟩ B.returns B.notSynchronized htab _ _ ⟨hP, hD0.self, va_S.rf⟩ _ (lv_entry av hlen)
section ZC
variable {p : Program} {l : Launch} {e : Env} {R : Room} {s : State} {m : MethodId} {args : Array Value} {below : List Frame} {meth : Method} {c : Code} {H : Heap} {locs : List Loc} {cells slots : Nat} {Q : State → Prop}
variable {cc : ByteArray} {nL : Nat} {Ts : List Cond} {own : String} {g : zG} {A : Nat → Prop} {E E' : zEt} {pc : Nat} {ls : Array Slot} {rest st0 : List Value} {ws wc wr : va_W}
theorem zfreeS (hA : ∀ q : Nat, s.heap.size ≤ q → A q) (X : zh g A ws s.heap H locs) (isC : List Nat) (hC : isC.map (fun i => ws[i]?) = wc.map some) : ∀ q, va_A wc H.size q → A q := va_free X.2.1 X.2.2 hA isC hC
theorem zhsub {ws' : va_W} (X : zh g A ws s.heap H locs) (is : List Nat) (hn : va_nd is = true) (hs : is.map (fun i => ws[i]?) = ws'.map some) : zh g A ws' s.heap H locs := by
  refine ⟨fun k q hq => ?_, X.2.1.sub is hn hs, X.2.2⟩
  have h1 : (is.map (fun i => ws[i]?))[k]? = some (some q) := by rw [hs, List.getElem?_map, hq]; rfl
  rw [List.getElem?_map] at h1
  cases hi : is[k]? with
  | none => rw [hi] at h1; cases h1
  | some i => rw [hi] at h1; exact X.1 i q (Option.some.inj h1)
theorem zpreS {av : List Value} (Z : zc p m c cc nL s args Ts own g A E) (X : zh g A ws s.heap H locs) (isC : List Nat) (hn : va_nd isC = true) (hC : isC.map (fun i => ws[i]?) = wc.map some) (hst' : zSt E') (hEE : ∀ B U, E B U → E' B U) : ∀ U : State, U.heap = H → s.WarmedH U.vm → va_Pc av (fun U => U.heap.size = H.size ∧ zK g U ∧ va_P g.1 vwCl wc U.heap ∧ va_D (fun _ => True) wc ∧ E' (va_A wc H.size) U) av.toArray U := by
  intro U hU hW
  have Y := zhsub X isC hn hC
  refine ⟨rfl, by rw [hU], va_K.moved hW.alike Z.2.1, by rw [hU]; exact Y.1, Y.2.1.weaken (fun _ _ _ _ => trivial), ?_⟩
  exact hst' _ _ s U (hEE _ _ Z.2.2.2.1) (zfreeS Z.2.2.1 X isC hC) hW (fun q h1 h2 => by rw [hU]; exact X.2.2.2.1 q h1 h2)
theorem zjoin {w1 : va_W} {t : State} {H1 : Heap} {locs1 : List Loc} (X : zh g A ws s.heap H locs) (isC isR : List Nat) (hC : isC.map (fun i => ws[i]?) = wc.map some) (hR : isR.map (fun i => ws[i]?) = wr.map some) (hn : va_nd isR = true) (hdis : ∀ i ∈ isR, i ∉ isC) (hA : ∀ q : Nat, s.heap.size ≤ q → A q)
    (ht : t.heap = H1) (hB : va_P g.1 vwCl w1 t.heap ∧ va_D (va_A wc H.size) w1) (hk : ∀ q : Nat, q < H.size → ¬ va_A wc H.size q → H1[q]? = H[q]?) (hS : va_S A s.heap H1 locs1) : zh g A (wr ++ w1) s.heap H1 locs1 := by
  have hB1 : va_P g.1 vwCl w1 H1 := by rw [← ht]; exact hB.1
  obtain ⟨h1, h2⟩ := va_join X.1 X.2.1 isC isR hC hR hn hdis hk (zfreeS hA X isC hC) hB1 hB.2
  exact ⟨h1, h2, hS⟩
theorem zsubVi {y : MethodName} {wds wds' : List Cond} {fr lo n idx maxL ci N : Nat} {b : Addr} {As : List Value} {S : Type} {post : Int32 → S → Prop} {w : S → va_W} {C : String} {T : u_T} {fs : List Value} {bytes : ByteArray} {ret : Option FieldType}
    (isC isR : List Nat) (hnc : va_nd isC = true) (hC : isC.map (fun i => ws[i]?) = wc.map some) (hRs : isR.map (fun i => ws[i]?) = wr.map some) (hnr : va_nd isR = true) (hdis : ∀ i ∈ isR, i ∉ isC)
    (Z : zc p m c cc nL s args Ts own g A E) (X : zh g A ws s.heap H locs) (hst' : zSt E') (hEE : ∀ B U, E B U → E' B U) (hM : zM l y wds fr lo g (.ref b :: As) wc E' (zQi g post w)) (gi : GoodIn Ts (wsV own idx C y wds)) (hw : wds = Cond.code y bytes maxL ret :: wds')
    (hd : y.cls = C ∧ y.cls ≠ "java/lang/invoke/MethodHandle" ∧ y.cls ≠ "java/lang/invoke/VarHandle" ∧ (parseMethodDescriptor y.desc).map (fun d => d.parameters.length) = some n) (hR : fr + 1 ≤ R.frames ∧ 8 + (maxL + 11) + lo ≤ R.locals)
    (hci : vwCl[ci]? = some (C, T, N)) (hb0 : wc[0]? = some (b, .inr (ci, fs))) (hn : As.length = n) (hs : st0 = As.reverse ++ .ref b :: rest) (hsz : ls.size = nL) (hsum : (rest.map fun v => v.category).sum ≤ 8) (hdg : decode cc pc = .ok (.invokevirtual idx, 3)) (hcs : cells ≤ R.cells ∧ slots ≤ R.slots)
    (kk : ∀ (r : Int32) (u : S) (H1 : Heap) (locs1 : List Loc), post r u → zh g A (wr ++ w u) s.heap H1 locs1 → W p l e R s m args below meth c H1 locs1 cells slots Q (F0 m (pc + 3) ls (.int r :: rest))) : W p l e R s m args below meth c H locs cells slots Q (F0 m pc ls st0) := by
  have hFc := zfreeS Z.2.2.1 X isC hC
  refine va_calli (va_runV (As := As) (rest := rest) Z.1 (hM H.size) (cwV n Z.1.2.2.2.2 gi hw rfl rfl hd hR) ⟨zblind hst' _, va_recv Z.2.1 (zhsub X isC hnc hC).1 hci hb0, zpreS Z X isC hnc hC hst' hEE⟩ rfl hn hsz hs (lv_room hsum) hdg hcs) X.2.2 (fun q _ h => hFc q h) hFc (fun r u t H1 locs1 ht hvm hp hB hz hk hS => ?_)
  exact kk r u H1 locs1 hp (zjoin X isC isR hC hRs hnr hdis Z.2.2.1 ht hB hk hS)
theorem zsubSi {y : MethodName} {wds wds' : List Cond} {fr lo n idx maxL mc ms : Nat} {As : List Value} {S : Type} {post : Int32 → S → Prop} {w : S → va_W} {bytes : ByteArray} {ret : Option FieldType} {hh : List (Nat × Nat × Nat × Nat)}
    (isC isR : List Nat) (hnc : va_nd isC = true) (hC : isC.map (fun i => ws[i]?) = wc.map some) (hRs : isR.map (fun i => ws[i]?) = wr.map some) (hnr : va_nd isR = true) (hdis : ∀ i ∈ isR, i ∉ isC)
    (Z : zc p m c cc nL s args Ts own g A E) (X : zh g A ws s.heap H locs) (hst' : zSt E') (hEE : ∀ B U, E B U → E' B U) (hM : zMk l y wds fr lo mc ms g As wc E' (zQi g post w)) (gi : GoodIn Ts (va_wsS own idx y wds)) (hw : wds = Cond.codeWith y bytes maxL ret hh :: wds')
    (hd : y.cls ≠ "java/lang/invoke/MethodHandle" ∧ y.cls ≠ "java/lang/invoke/VarHandle" ∧ (parseMethodDescriptor y.desc).map (fun d => d.parameters.length) = some n) (hR : fr + 1 ≤ R.frames ∧ 8 + (maxL + 11) + lo ≤ R.locals)
    (hn : As.length = n) (hs : st0 = As.reverse ++ rest) (hsz : ls.size = nL) (hsum : (rest.map fun v => v.category).sum ≤ 8) (hdg : decode cc pc = .ok (.invokestatic idx, 3)) (hcs : cells + mc ≤ R.cells ∧ slots + ms ≤ R.slots)
    (kk : ∀ (r : Int32) (u : S) (H1 : Heap) (locs1 : List Loc), post r u → zh g A (wr ++ w u) s.heap H1 locs1 → W p l e R s m args below meth c H1 locs1 (cells + mc) (slots + ms) Q (F0 m (pc + 3) ls (.int r :: rest))) : W p l e R s m args below meth c H locs cells slots Q (F0 m pc ls st0) := by
  have hFc := zfreeS Z.2.2.1 X isC hC
  refine va_calli (vx_runSW (As := As) (rest := rest) (hh := hh) (bytes := bytes) (maxL := maxL) (ret := ret) Z.1 (hM H.size) (vx_cwSW n Z.1.2.2.2.2 gi hw rfl rfl hd hR) ⟨zblind hst' _, zpreS Z X isC hnc hC hst' hEE⟩ rfl hn hsz hs (lv_room hsum) hdg hcs) X.2.2 (fun q _ h => hFc q h) hFc (fun r u t H1 locs1 ht hvm hp hB hz hk hS => ?_)
  exact kk r u H1 locs1 hp (zjoin X isC isR hC hRs hnr hdis Z.2.2.1 ht hB hk hS)
theorem zsubS {y : MethodName} {wds wds' : List Cond} {fr lo n idx maxL mc ms : Nat} {As : List Value} {S : Type} {post : Int32 → S → Prop} {w : S → va_W} {bytes : ByteArray} {ret : Option FieldType}
    (isC isR : List Nat) (hnc : va_nd isC = true) (hC : isC.map (fun i => ws[i]?) = wc.map some) (hRs : isR.map (fun i => ws[i]?) = wr.map some) (hnr : va_nd isR = true) (hdis : ∀ i ∈ isR, i ∉ isC)
    (Z : zc p m c cc nL s args Ts own g A E) (X : zh g A ws s.heap H locs) (hst' : zSt E') (hEE : ∀ B U, E B U → E' B U) (hM : zMk l y wds fr lo mc ms g As wc E' (zQi g post w)) (gi : GoodIn Ts (va_wsS own idx y wds)) (hw : wds = Cond.code y bytes maxL ret :: wds')
    (hd : y.cls ≠ "java/lang/invoke/MethodHandle" ∧ y.cls ≠ "java/lang/invoke/VarHandle" ∧ (parseMethodDescriptor y.desc).map (fun d => d.parameters.length) = some n) (hR : fr + 1 ≤ R.frames ∧ 8 + (maxL + 11) + lo ≤ R.locals)
    (hn : As.length = n) (hs : st0 = As.reverse ++ rest) (hsz : ls.size = nL) (hsum : (rest.map fun v => v.category).sum ≤ 8) (hdg : decode cc pc = .ok (.invokestatic idx, 3)) (hcs : cells + mc ≤ R.cells ∧ slots + ms ≤ R.slots)
    (kk : ∀ (r : Int32) (u : S) (H1 : Heap) (locs1 : List Loc), post r u → zh g A (wr ++ w u) s.heap H1 locs1 → W p l e R s m args below meth c H1 locs1 (cells + mc) (slots + ms) Q (F0 m (pc + 3) ls (.int r :: rest))) : W p l e R s m args below meth c H locs cells slots Q (F0 m pc ls st0) := by
  have hFc := zfreeS Z.2.2.1 X isC hC
  refine va_calli (va_runS (As := As) (rest := rest) Z.1 (hM H.size) (va_cwS n Z.1.2.2.2.2 gi hw rfl rfl hd hR) ⟨zblind hst' _, zpreS Z X isC hnc hC hst' hEE⟩ rfl hn hsz hs (lv_room hsum) hdg hcs) X.2.2 (fun q _ h => hFc q h) hFc (fun r u t H1 locs1 ht hvm hp hB hz hk hS => ?_)
  exact kk r u H1 locs1 hp (zjoin X isC isR hC hRs hnr hdis Z.2.2.1 ht hB hk hS)
theorem zsubIv {y : MethodName} {wds wds' : List Cond} {fr lo n idx maxL mc ms : Nat} {b : Addr} {As : List Value} {S : Type} {post : S → Prop} {w : S → va_W} {bytes : ByteArray}
    (isC isR : List Nat) (hnc : va_nd isC = true) (hC : isC.map (fun i => ws[i]?) = wc.map some) (hRs : isR.map (fun i => ws[i]?) = wr.map some) (hnr : va_nd isR = true) (hdis : ∀ i ∈ isR, i ∉ isC)
    (Z : zc p m c cc nL s args Ts own g A E) (X : zh g A ws s.heap H locs) (hst' : zSt E') (hEE : ∀ B U, E B U → E' B U) (hM : zMk l y wds fr lo mc ms g (.ref b :: As) wc E' (zQv g post w)) (gi : GoodIn Ts wds) (hw : wds = Cond.code y bytes maxL none :: wds')
    (hini : Cond.initialized y.cls ∈ Ts) (hlk : Cond.methodLink own idx y ∈ Ts) (hinst : Cond.instanceMethod y ∈ Ts) (hy1 : y.name = "<init>")
    (hd : y.cls ≠ "java/lang/invoke/MethodHandle" ∧ y.cls ≠ "java/lang/invoke/VarHandle" ∧ (parseMethodDescriptor y.desc).map (fun d => d.parameters.length) = some n) (hR : fr + 1 ≤ R.frames ∧ 8 + (maxL + 11) + lo ≤ R.locals)
    (hn : As.length = n) (hs : st0 = As.reverse ++ .ref b :: rest) (hsz : ls.size = nL) (hsum : (rest.map fun v => v.category).sum ≤ 8) (hdg : decode cc pc = .ok (.invokespecial idx, 3)) (hcs : cells + mc ≤ R.cells ∧ slots + ms ≤ R.slots)
    (kk : ∀ (u : S) (H1 : Heap) (locs1 : List Loc), post u → zh g A (wr ++ w u) s.heap H1 locs1 → W p l e R s m args below meth c H1 locs1 (cells + mc) (slots + ms) Q (F0 m (pc + 3) ls rest)) : W p l e R s m args below meth c H locs cells slots Q (F0 m pc ls st0) := by
  have hFc := zfreeS Z.2.2.1 X isC hC
  have ht := Z.1.2.2.2.2
  refine va_callv (va_runI (As := As) (rest := rest) Z.1 (hM H.size) (cwI n ht gi hw rfl rfl (ht _ hini) (ht _ hlk) (ht _ hinst) hy1 hd hR) ⟨zblind hst' _, zpreS Z X isC hnc hC hst' hEE⟩ rfl hn hsz hs (lv_room hsum) hdg hcs) X.2.2 (fun q _ h => hFc q h) hFc (fun u t H1 locs1 ht hvm hp hB hz hk hS => ?_)
  exact kk u H1 locs1 hp (zjoin X isC isR hC hRs hnr hdis Z.2.2.1 ht hB hk hS)
theorem zsubX {y : MethodName} {wds wds' : List Cond} {fr lo n idx maxL ci N : Nat} {b : Addr} {As : List Value} {S : Type} {post : Int32 → S → Prop} {px : String → Prop} {w : S → va_W} {C : String} {T : u_T} {fs : List Value} {bytes : ByteArray} {ret : Option FieldType}
    (isC isR : List Nat) (hnc : va_nd isC = true) (hC : isC.map (fun i => ws[i]?) = wc.map some) (hRs : isR.map (fun i => ws[i]?) = wr.map some) (hnr : va_nd isR = true) (hdis : ∀ i ∈ isR, i ∉ isC)
    (Z : zc p m c cc nL s args Ts own g A E) (X : zh g A ws s.heap H locs) (hst' : zSt E') (hEE : ∀ B U, E B U → E' B U) (hM : zMX l y wds fr lo g (.ref b :: As) wc E' (zQi g post w) px) (gi : GoodIn Ts (wsV own idx C y wds)) (hw : wds = Cond.code y bytes maxL ret :: wds')
    (hd : y.cls = C ∧ y.cls ≠ "java/lang/invoke/MethodHandle" ∧ y.cls ≠ "java/lang/invoke/VarHandle" ∧ (parseMethodDescriptor y.desc).map (fun d => d.parameters.length) = some n) (hR : fr + 1 ≤ R.frames ∧ 8 + (maxL + 11) + lo ≤ R.locals)
    (hci : vwCl[ci]? = some (C, T, N)) (hb0 : wc[0]? = some (b, .inr (ci, fs))) (hn : As.length = n) (hs : st0 = As.reverse ++ .ref b :: rest) (hsz : ls.size = nL) (hsum : (rest.map fun v => v.category).sum ≤ 8) (hdg : decode cc pc = .ok (.invokevirtual idx, 3)) (hcs : cells + 1 ≤ R.cells ∧ slots + 6 ≤ R.slots)
    (kx : ∀ (X9 : String) (ce : Cell) (q9 : Addr) (H1 : Heap) (locs1 : List Loc), px X9 → zh g A (wr ++ wc) s.heap H1 locs1 → H1[q9]? = some ce → ce.vm = .none → s.vm.findClass X9 = some ce.cls → vx_W p l e R s m args below meth c H1 locs1 (cells + 1) (slots + 6) Q (F0 m pc ls rest) q9)
    (kk : ∀ (r : Int32) (u : S) (H1 : Heap) (locs1 : List Loc), post r u → zh g A (wr ++ w u) s.heap H1 locs1 → W p l e R s m args below meth c H1 locs1 (cells + 1) (slots + 6) Q (F0 m (pc + 3) ls (.int r :: rest))) : W p l e R s m args below meth c H locs cells slots Q (F0 m pc ls st0) := by
  have hFc := zfreeS Z.2.2.1 X isC hC
  refine vx_calli (vx_runV (As := As) (rest := rest) Z.1 (hM H.size) (cwV n Z.1.2.2.2.2 gi hw rfl rfl hd hR) ⟨zblind hst' _, va_recv Z.2.1 (zhsub X isC hnc hC).1 hci hb0, zpreS Z X isC hnc hC hst' hEE⟩ rfl hn hsz hs (lv_room hsum) hdg hcs) X.2.2 (fun q _ h => hFc q h) hFc (fun q _ h => hFc q h) (fun X9 ce q9 u t H1 locs1 ht hvm hp hB hz hk hS hce hcv hcl => ?_) (fun r u t H1 locs1 ht hvm hp hB hz hk hS => ?_)
  · exact kx X9 ce q9 H1 locs1 hB.1 (zjoin X isC isR hC hRs hnr hdis Z.2.2.1 ht hB.2 hk hS) hce hcv hcl
  · exact kk r u H1 locs1 hp (zjoin X isC isR hC hRs hnr hdis Z.2.2.1 ht hB hk hS)
end ZC
/-! the law's worlds: its board, its six numbers, the object and both; the script beside them -/
abbrev oB (g : zG) (a : Nat) (P : Nat → Int32) : va_W := [(a, .inl (g.2.1, 16, .inl P))]
abbrev oG (g : zG) (b : Nat) (G : Nat → Int32) : va_W := [(b, .inl (g.2.1, 6, .inl G))]
abbrev LSt : Type := QS × (Nat → Int32) × (Nat → Int32)
abbrev oL (g : zG) (h a b : Nat) (u : LSt) : va_W := match u with
  | ((q0, q1, q2, q3, q4, q5, q6, q7, q8, q9, q10), P, G) => [(h, .inr (0, [.int q0, .int q1, .int q2, .int q3, .int q4, .int q5, .int q6, .long q7, .int q8, .int q9, .long q10])), (a, .inl (g.2.1, 16, .inl P)), (b, .inl (g.2.1, 6, .inl G))]
/-- the script, as the law finds it -/
def zES (b L : Nat) (xs : Nat → Int32) : zEt := fun A U => va_T .int b L (fun j => .int (xs j)) A U U.heap
theorem zStS {b L : Nat} {xs : Nat → Int32} : zSt (zES b L xs) := fun _ _ _ _ h hB hW hq => ((va_T.moved hW.alike h).kept (fun a h1 h2 => hq a h1 h2)).narrow hB
def zEP (bL b L : Nat) (xs : Nat → Int32) : zEt := fun A U => zEL bL A U ∧ zES b L xs A U
theorem zStP {bL b L : Nat} {xs : Nat → Int32} : zSt (zEP bL b L xs) := fun A B s U h hB hW hq => ⟨zStL A B s U h.1 hB hW hq, zStS A B s U h.2 hB hW hq⟩
theorem zcast {bL : Nat} {A : Nat → Prop} {s : State} {args : Array Value} (h : zEL bL A s) {w : Cond} (hw : w ∈ zXB) : w.before args s = true := va_tabs (zXB_tab w hw) rfl (h.2.2.1 w hw)
