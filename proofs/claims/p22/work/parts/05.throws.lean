/-! methods that may throw -/
abbrev zNm : List String := ["java/lang/RuntimeException", "java/lang/Exception"]
def zXC (g : zG) (px : String → Prop) (ws : va_W) (A : Nat → Prop) : String → State → State → Prop := vx_X (S := Unit) (fun _ => True) (fun E _ t => px E ∧ va_P g.1 vwCl ws t.heap ∧ va_D A ws) A
def zMX (l : Launch) (y : MethodName) (wds : List Cond) (fr lo : Nat) (g : zG) (av : List Value) (ws : va_W) (E : zEt) (Qc : (Nat → Prop) → Array Value → State → Outcome → State → Prop) (px : String → Prop) : Prop :=
  ∀ sz : Nat, vx_Met l y wds { frames := fr, cells := 1, slots := 6, locals := lo } (va_Pc av (fun U => U.heap.size = sz ∧ zK g U ∧ va_P g.1 vwCl ws U.heap ∧ va_D (fun _ => True) ws ∧ E (va_A ws sz) U)) (Qc (va_A ws sz)) (zXC g px ws (va_A ws sz)) 1 6 (va_A ws sz)
theorem zstartX {l : Launch} {y : MethodName} {wds ws' : List Cond} {fr lo : Nat} {g : zG} {av : List Value} {ws : va_W} {E : zEt} {Qc : (Nat → Prop) → Array Value → State → Outcome → State → Prop} {px : String → Prop} {cc : ByteArray} {maxL : Nat} {ret : Option FieldType} {own : String}
    (ho : y.cls = own) (hy : plainName own = true) (hw : wds = Cond.code y cc maxL ret :: ws') (hst : zSt E) (hlen : (lg_sl av).length ≤ maxL)
    (body : ∀ (p : Program) (e : Env) (s : State) (m : MethodId) (below : List Frame) (meth : Method) (c : Code) (A : Nat → Prop), zc p m c cc maxL s av.toArray wds own g A E → meth.sig.returnType = ret → meth.locks = false → (∀ x ∈ c.exceptionTable.toList, False) → ∀ (H : Heap) (locs : List Loc), zh g A ws s.heap H locs → ∀ ls : Array Slot, lv_has ls maxL (lv_args 0 av) →
      W p l e { frames := fr, cells := 1, slots := 6, locals := lo } s m av.toArray below meth c H locs 0 0 (vx_MQ below (Qc A) (zXC g px ws A) av.toArray s 1 6 A) (F0 m 0 ls [])) : zMX l y wds fr lo g av ws E Qc px := by
  subst ho
  intro sz
  refine vx_ofW (cc := cc) (maxL := maxL) (ret := ret) hy hw ?_
  intro p e s m args below meth c s₁ B hml ht hv
  obtain ⟨rfl, rfl, hK, hP, hD0, hE⟩ := hv
  have hts := atoms_spec (ws := wds) B.pre
  have hown : s.vm.findClass y.cls = some m.cls := findClass_of_methodNamed B.named
  rw [lg_entry_eq]
  exact body p e s m below meth c _ ⟨⟨B.exec, B.bytes, hml, hown, hts⟩, hK, fun q h => Or.inr h, hE, hst⟩ B.returns B.notSynchronized ht _ _ ⟨hP, hD0.self, va_S.rf⟩ _ (lv_entry av hlen)
section ZX
variable {p : Program} {l : Launch} {e : Env} {R : Room} {s : State} {m : MethodId} {args : Array Value} {below : List Frame} {meth : Method} {c : Code} {H : Heap} {locs : List Loc} {cells slots : Nat} {Q : State → Prop}
variable {cc : ByteArray} {nL : Nat} {Ts : List Cond} {own : String} {g : zG} {A : Nat → Prop} {E E' : zEt} {pc : Nat} {ls : Array Slot} {rest st0 : List Value} {ws : va_W}
theorem zthrow {bL : Nat} {Qc : Array Value → State → Outcome → State → Prop} {px : String → Prop} {ik is ic : Nat} {cls text : String} (Z : zc p m c cc nL s args Ts "Quarterboard" g A (zEL bL)) (htr : l.stackTraces = false) (ht : ∀ x ∈ c.exceptionTable.toList, False) (hlk : meth.locks = false) (X : zh g A ws s.heap H locs) (hl : ls.size = nL)
    (hcls : Bundle.fit cls = true) (h1 : Cond.classLink "Quarterboard" ik cls ∈ Ts) (h2 : Cond.initialized cls ∈ Ts) (hstr : (is, text) ∈ zTx) (hat : ∀ w ∈ (vx_atS "Quarterboard" ic cls zNm).filter goodWord, w ∈ Ts) (hB : ∀ w ∈ (vx_atS "Quarterboard" ic cls zNm).filter (fun w => !goodWord w), w ∈ zXB)
    (hgood : ∀ w ∈ Cond.classLink "Quarterboard" ik cls :: Cond.initialized cls :: vx_atS "Quarterboard" ic cls zNm, vx_ot w = true)
    (d0 : decode cc pc = .ok (.new ik, 3)) (d3 : decode cc (pc + 3) = .ok (.dup, 1)) (d4 : decode cc (pc + 4) = .ok (.ldc is, 2)) (d6 : decode cc (pc + 6) = .ok (.invokespecial ic, 3)) (d9 : decode cc (pc + 9) = .ok (.athrow, 1))
    (hRframes : 5 < R.frames) (hRlocals : (rest.map fun v => v.category).sum + 82 ≤ R.locals) (hRcells : 0 + 1 ≤ R.cells) (hRslots : 0 + 6 ≤ R.slots) (hp : px cls) :
    W p l e R s m args below meth c H locs 0 0 (vx_MQ below Qc (zXC g px ws A) args s 1 6 A) (F0 m pc ls rest) := by
  obtain ⟨e1, e2, e3, e4, e5, e6, e7⟩ := Z.2.2.2.1
  obtain ⟨sa, hsa⟩ := e4 _ hstr
  have hcast : ∀ w ∈ zXB, w.before args s = true := fun w hw => va_tabs (zXB_tab w hw) rfl (e3 w hw)
  refine vx_throwS (names := zNm) Z.1.1 Z.1.2.1 htr Z.1.2.2.2.1 hcls (by decide +kernel) (Z.1.2.2.2.2 _ h1) (Z.1.2.2.2.2 _ h2) hsa (vx_hat (fun w hw => Z.1.2.2.2.2 _ (hat w hw)) hB hcast) hgood e5 e6 X.2.2 (hl.trans Z.1.2.2.1.symm) d0 d3 d4 d6 d9 (fun x hx => (ht x hx).elim) hRframes hRlocals hRcells hRslots hlk ?_ X.2.2.2.2 (Nat.le_refl _) (Nat.le_refl _)
  intro t hvm hz hk
  refine ⟨(), trivial, ⟨hp, fun k q hq => (X.1 k q hq).kept (hk _ (X.1 k q hq).lt), X.2.1⟩, ?_⟩
  exact ⟨Nat.le_trans X.2.2.1 hz, fun q h1 h2 => by rw [hk q (Nat.lt_of_lt_of_le h1 X.2.2.1)]; exact X.2.2.2.1 q h1 h2⟩
end ZX
theorem zB_50 : ∀ w ∈ (vx_atS "Quarterboard" 50 eIO zNm).filter (fun w => !goodWord w), w ∈ zXB := by decide +kernel
theorem zB_57 : ∀ w ∈ (vx_atS "Quarterboard" 57 eIS zNm).filter (fun w => !goodWord w), w ∈ zXB := by decide +kernel
theorem zB_107 : ∀ w ∈ (vx_atS "Quarterboard" 107 eIA zNm).filter (fun w => !goodWord w), w ∈ zXB := by decide +kernel
theorem zG_50 : ∀ w ∈ Cond.classLink "Quarterboard" 46 eIO :: Cond.initialized eIO :: vx_atS "Quarterboard" 50 eIO zNm, vx_ot w = true := by decide +kernel
theorem zG_57 : ∀ w ∈ Cond.classLink "Quarterboard" 53 eIS :: Cond.initialized eIS :: vx_atS "Quarterboard" 57 eIS zNm, vx_ot w = true := by decide +kernel
theorem zG_107 : ∀ w ∈ Cond.classLink "Quarterboard" 103 eIA :: Cond.initialized eIA :: vx_atS "Quarterboard" 107 eIA zNm, vx_ot w = true := by decide +kernel
