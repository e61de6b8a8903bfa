/-! ArrayList.add, over worlds: the list a, its array b; what is new stands behind -/
abbrev PcA (av : List Value) (sz : Nat) (G : Gx) (B : Nat) (Pr : Vm → Heap → Prop) : Array Value → State → Prop := va_Pc av (fun U => U.heap.size = sz ∧ EV G B U ∧ Pr U.vm U.heap)
abbrev arE (G : Gx) (n : Nat) (f : Nat → Option Nat) : va_E := .inl (G.2.2.2.2.1, n, .inr (.inr (.inr (.inr f))))
abbrev liE (mo : Int) (b : Nat) (z : Int) : va_E := .inr (0, [.int (Int32.ofInt mo), .ref b, .int (Int32.ofInt z)])
def An2 (a b sz : Nat) : Nat → Prop := fun q => q = a ∨ q = b ∨ sz ≤ q
/-- things of a class that stand outside -/
def ElC (Cn : String) (A : Nat → Prop) (P : Nat → Prop) (vm : Vm) (H : Heap) : Prop := ∀ y, P y → ¬ A y ∧ ∃ cell : Cell, H[y]? = some cell ∧ cell.vm.isStatics = false ∧ vm.findClass Cn = some cell.cls
theorem ElC.kept {Cn : String} {A P : Nat → Prop} {vm : Vm} {H0 H : Heap} {locs : List Loc} (h : ElC Cn A P vm H0) (hS : va_S A H0 H locs) : ElC Cn A P vm H := fun y hy => by
  obtain ⟨h1, c, h2, h3⟩ := h y hy
  exact ⟨h1, c, (hS.2.1 y (Array.getElem?_eq_some_iff.mp h2).1 h1).trans h2, h3⟩
theorem ElC.at {Cn : String} {A A' P P' : Nat → Prop} {vm vm' : Vm} {H : Heap} (h : ElC Cn A P vm H) (hv : vm.Alike vm') (hA : ∀ q, A' q → A q) (hP : ∀ q, P' q → P q) : ElC Cn A' P' vm' H := fun y hy => by
  obtain ⟨h1, c, h2, h3, h4⟩ := h y (hP y hy)
  exact ⟨fun z => h1 (hA y z), c, h2, h3, by rw [hv.findClass]; exact h4⟩
theorem AM.blind {av : List Value} {sz : Nat} {G : Gx} {B : Nat} {Pr : Vm → Heap → Prop} : FrameBlind (PcA av sz G B Pr) := fun a U g mk q =>
  ⟨q.1, q.2.1, ⟨va_K.moved (u := U) (U := U.calling g mk a) (Vm.Alike.refl U.vm) q.2.2.1.1, SF.to (u := U) (U := U.calling g mk a) (H1 := (U.calling g mk a).heap) q.2.2.1.2.1 (State.WarmedH.refl U) (fun _ _ _ => rfl), q.2.2.1.2.2⟩, q.2.2.2⟩
theorem AM.mk {l : Launch} {y : MethodName} {cc : ByteArray} {maxL k mc ms : Nat} {ret : Option FieldType} {own : String} {G : Gx} {B sz : Nat} {av : List Value} {lv : List (Nat × Value)} {Pr : Vm → Heap → Prop} {Q : Array Value → State → Outcome → State → Prop} {A : Nat → Prop} (hy : plainName y.cls = true) (ho : y.cls = own) (hlen : (lg_sl av).length ≤ maxL) (hlv : lv_args 0 av = lv)
    (body : ∀ (p : Program) (e : Env) (s : State) (m : MethodId) (args : Array Value) (below : List Frame) (meth : Method) (c : Code) (ls : Array Slot), CallFix p m c cc maxL s args gw own → EV G B s → s.heap.size = sz → meth.sig.returnType = ret → meth.locks = false → Pr s.vm s.heap → lv_has ls maxL lv → W p l e (rmX k mc ms) s m args below meth c s.heap [] 0 0 (MQ below Q args s mc ms A) (F0 m 0 ls [])) :
    Met l y (Cond.code y cc maxL ret :: gw) (rmX k mc ms) (PcA av sz G B Pr) Q mc ms A := by
  refine Met.ofW (cc := cc) (maxL := maxL) (ret := ret) hy rfl ?_
  intro p e s m args below meth c s₁ Bd hml hv
  obtain ⟨rfl, hz, hE, hP⟩ := hv
  have hl := lv_entry av (n := maxL) hlen
  rw [lg_entry_eq]
  generalize (lg_sl av ++ List.replicate (maxL - (lg_sl av).length) Slot.unset).toArray = ls at hl ⊢
  rw [hlv] at hl
  exact body p e s m _ below meth c ls ⟨Bd.exec, Bd.bytes, hml, by rw [← ho]; exact findClass_of_methodNamed Bd.named, fun w hw => atoms_spec (ws := Cond.code y cc maxL ret :: gw) Bd.pre w (List.mem_cons_of_mem _ hw)⟩ hE hz Bd.returns Bd.notSynchronized hP hl
section AS
variable {p : Program} {l : Launch} {e : Env} {R : Room} {s : State} {m : MethodId} {args : Array Value} {below : List Frame} {meth : Method} {c : Code} {H : Heap} {locs : List Loc} {cells slots : Nat} {Q : State → Prop}
variable {cc : ByteArray} {nL : Nat} {own : String} {pc : Nat} {ls : Array Slot} {rest : List Value} {G : Gx} {B : Nat} {A A1 : Nat → Prop}
/-- calls of such a method: static or not, with an address, an int or nothing for an answer -/
theorem am_callSR {S : Type} {post : S → Prop} {Bq : S → Nat → Heap → Prop} {Pr : Vm → Heap → Prop} {y : MethodName} {bytes : ByteArray} {maxL n idx k' mc' ms' : Nat} {ret : Option FieldType} {As st0 : List Value} (C : CallFix p m c cc nL s args gw own) (E : EV G B s) (hS : va_S A s.heap H locs) (hAB : ∀ q, A q → B ≤ q) (hA1 : ∀ q, A1 q → A q)
    (hM : Met l y (Cond.code y bytes maxL ret :: gw) (rmX k' mc' ms') (PcA As H.size G B Pr) (va_Qr post (fun u a t => Bq u a t.heap) A1) mc' ms' A1) (hPr : ∀ vm, s.vm.Alike vm → Pr vm H) (k1 : Cond.methodLink own idx y ∈ gw) (k2 : Cond.static y ∈ gw) (k4 : Cond.initialized y.cls ∈ gw) (k5 : Cond.code y bytes maxL ret ∈ gw) (hdc : y.cls ≠ "java/lang/invoke/MethodHandle" ∧ y.cls ≠ "java/lang/invoke/VarHandle" ∧ (parseMethodDescriptor y.desc).map (fun d => d.parameters.length) = some n)
    (hroom : (rmX k' mc' ms').frames + 1 ≤ R.frames ∧ 8 + (maxL + 11) + (rmX k' mc' ms').locals ≤ R.locals) (hn : As.length = n) (hst : st0 = As.reverse ++ rest) (hw : (rest.map fun v => v.category).sum ≤ 8) (hml : ls.size = nL) (hd : decode cc pc = .ok (.invokestatic idx, 3)) (hcel : cells + mc' ≤ R.cells ∧ slots + ms' ≤ R.slots)
    (kk : ∀ (u : S) (ra : Nat) (H1 : Heap) (locs1 : List Loc), post u → Bq u ra H1 → H.size ≤ H1.size → (∀ q : Nat, q < H.size → ¬ A1 q → H1[q]? = H[q]?) → va_S A s.heap H1 locs1 → W p l e R s m args below meth c H1 locs1 (cells + mc') (slots + ms') Q (F0 m (pc + 3) ls (.ref ra :: rest))) : W p l e R s m args below meth c H locs cells slots Q (F0 m pc ls st0) := by
  subst hst
  refine va_callr (va_runS (As := As) (rest := rest) (n := n) C hM (va_cwS n C.2.2.2.2 (g_inS k1 k2 k4 k5) rfl rfl rfl hdc hroom) ⟨AM.blind, fun U hU hW => ⟨rfl, by rw [hU], E.at (hS.mono hAB) hU hW, by rw [hU]; exact hPr _ hW.alike⟩⟩ rfl hn hml rfl (lv_room hw) hd hcel) hS (fun q _ h => hA1 q h) (fun q h => hA1 q h) (fun u ra t H1 locs1 ht hvm hp hb hz hq hS1 => ?_)
  exact kk u ra H1 locs1 hp (by rw [← ht]; exact hb) hz hq hS1
theorem am_callSI {S : Type} {post : Int32 → S → Prop} {Bq : S → Heap → Prop} {Pr : Vm → Heap → Prop} {y : MethodName} {bytes : ByteArray} {maxL n idx k' mc' ms' : Nat} {ret : Option FieldType} {As st0 : List Value} (C : CallFix p m c cc nL s args gw own) (E : EV G B s) (hS : va_S A s.heap H locs) (hAB : ∀ q, A q → B ≤ q) (hA1 : ∀ q, A1 q → A q)
    (hM : Met l y (Cond.code y bytes maxL ret :: gw) (rmX k' mc' ms') (PcA As H.size G B Pr) (va_Qi post (fun u t => Bq u t.heap) A1) mc' ms' A1) (hPr : ∀ vm, s.vm.Alike vm → Pr vm H) (k1 : Cond.methodLink own idx y ∈ gw) (k2 : Cond.static y ∈ gw) (k4 : Cond.initialized y.cls ∈ gw) (k5 : Cond.code y bytes maxL ret ∈ gw) (hdc : y.cls ≠ "java/lang/invoke/MethodHandle" ∧ y.cls ≠ "java/lang/invoke/VarHandle" ∧ (parseMethodDescriptor y.desc).map (fun d => d.parameters.length) = some n)
    (hroom : (rmX k' mc' ms').frames + 1 ≤ R.frames ∧ 8 + (maxL + 11) + (rmX k' mc' ms').locals ≤ R.locals) (hn : As.length = n) (hst : st0 = As.reverse ++ rest) (hw : (rest.map fun v => v.category).sum ≤ 8) (hml : ls.size = nL) (hd : decode cc pc = .ok (.invokestatic idx, 3)) (hcel : cells + mc' ≤ R.cells ∧ slots + ms' ≤ R.slots)
    (kk : ∀ (r : Int32) (u : S) (H1 : Heap) (locs1 : List Loc), post r u → Bq u H1 → H.size ≤ H1.size → (∀ q : Nat, q < H.size → ¬ A1 q → H1[q]? = H[q]?) → va_S A s.heap H1 locs1 → W p l e R s m args below meth c H1 locs1 (cells + mc') (slots + ms') Q (F0 m (pc + 3) ls (.int r :: rest))) : W p l e R s m args below meth c H locs cells slots Q (F0 m pc ls st0) := by
  subst hst
  refine va_calli (va_runS (As := As) (rest := rest) (n := n) C hM (va_cwS n C.2.2.2.2 (g_inS k1 k2 k4 k5) rfl rfl rfl hdc hroom) ⟨AM.blind, fun U hU hW => ⟨rfl, by rw [hU], E.at (hS.mono hAB) hU hW, by rw [hU]; exact hPr _ hW.alike⟩⟩ rfl hn hml rfl (lv_room hw) hd hcel) hS (fun q _ h => hA1 q h) (fun q h => hA1 q h) (fun r u t H1 locs1 ht hvm hp hb hz hq hS1 => ?_)
  exact kk r u H1 locs1 hp (by rw [← ht]; exact hb) hz hq hS1
theorem am_callVR {S : Type} {post : S → Prop} {Bq : S → Nat → Heap → Prop} {Pr : Vm → Heap → Prop} {y : MethodName} {bytes : ByteArray} {maxL n idx k' mc' ms' b : Nat} {Cn : String} {ret : Option FieldType} {As st0 : List Value} (C : CallFix p m c cc nL s args gw own) (E : EV G B s) (hS : va_S A s.heap H locs) (hAB : ∀ q, A q → B ≤ q) (hA1 : ∀ q, A1 q → A q)
    (hM : Met l y (Cond.code y bytes maxL ret :: gw) (rmX k' mc' ms') (PcA (.ref b :: As) H.size G B Pr) (va_Qr post (fun u a t => Bq u a t.heap) A1) mc' ms' A1) (hPr : ∀ vm, s.vm.Alike vm → Pr vm H) (k1 : Cond.methodLink own idx y ∈ gw) (k2 : Cond.instanceMethod y ∈ gw) (k3 : Cond.selects Cn y y ∈ gw) (k4 : Cond.initialized Cn ∈ gw) (k5 : Cond.code y bytes maxL ret ∈ gw) (hdc : y.cls = Cn ∧ y.cls ≠ "java/lang/invoke/MethodHandle" ∧ y.cls ≠ "java/lang/invoke/VarHandle" ∧ (parseMethodDescriptor y.desc).map (fun d => d.parameters.length) = some n)
    (hroom : (rmX k' mc' ms').frames + 1 ≤ R.frames ∧ 8 + (maxL + 11) + (rmX k' mc' ms').locals ≤ R.locals) (hrc : ∃ cell : Cell, H[b]? = some cell ∧ cell.vm.isStatics = false ∧ s.vm.findClass Cn = some cell.cls) (hn : As.length = n) (hst : st0 = As.reverse ++ .ref b :: rest) (hw : (rest.map fun v => v.category).sum ≤ 8) (hml : ls.size = nL) (hd : decode cc pc = .ok (.invokevirtual idx, 3)) (hcel : cells + mc' ≤ R.cells ∧ slots + ms' ≤ R.slots)
    (kk : ∀ (u : S) (ra : Nat) (H1 : Heap) (locs1 : List Loc), post u → Bq u ra H1 → H.size ≤ H1.size → (∀ q : Nat, q < H.size → ¬ A1 q → H1[q]? = H[q]?) → va_S A s.heap H1 locs1 → W p l e R s m args below meth c H1 locs1 (cells + mc') (slots + ms') Q (F0 m (pc + 3) ls (.ref ra :: rest))) : W p l e R s m args below meth c H locs cells slots Q (F0 m pc ls st0) := by
  subst hst
  refine va_callr (va_runV (As := As) (rest := rest) (n := n) C hM (cwV n C.2.2.2.2 (g_inV k1 k2 k3 k4 k5) rfl rfl rfl hdc hroom) ⟨AM.blind, hrc, fun U hU hW => ⟨rfl, by rw [hU], E.at (hS.mono hAB) hU hW, by rw [hU]; exact hPr _ hW.alike⟩⟩ rfl hn hml rfl (lv_room hw) hd hcel) hS (fun q _ h => hA1 q h) (fun q h => hA1 q h) (fun u ra t H1 locs1 ht hvm hp hb hz hq hS1 => ?_)
  exact kk u ra H1 locs1 hp (by rw [← ht]; exact hb) hz hq hS1
theorem am_callVI {S : Type} {post : Int32 → S → Prop} {Bq : S → Heap → Prop} {Pr : Vm → Heap → Prop} {y : MethodName} {bytes : ByteArray} {maxL n idx k' mc' ms' b : Nat} {Cn : String} {ret : Option FieldType} {As st0 : List Value} (C : CallFix p m c cc nL s args gw own) (E : EV G B s) (hS : va_S A s.heap H locs) (hAB : ∀ q, A q → B ≤ q) (hA1 : ∀ q, A1 q → A q)
    (hM : Met l y (Cond.code y bytes maxL ret :: gw) (rmX k' mc' ms') (PcA (.ref b :: As) H.size G B Pr) (va_Qi post (fun u t => Bq u t.heap) A1) mc' ms' A1) (hPr : ∀ vm, s.vm.Alike vm → Pr vm H) (k1 : Cond.methodLink own idx y ∈ gw) (k2 : Cond.instanceMethod y ∈ gw) (k3 : Cond.selects Cn y y ∈ gw) (k4 : Cond.initialized Cn ∈ gw) (k5 : Cond.code y bytes maxL ret ∈ gw) (hdc : y.cls = Cn ∧ y.cls ≠ "java/lang/invoke/MethodHandle" ∧ y.cls ≠ "java/lang/invoke/VarHandle" ∧ (parseMethodDescriptor y.desc).map (fun d => d.parameters.length) = some n)
    (hroom : (rmX k' mc' ms').frames + 1 ≤ R.frames ∧ 8 + (maxL + 11) + (rmX k' mc' ms').locals ≤ R.locals) (hrc : ∃ cell : Cell, H[b]? = some cell ∧ cell.vm.isStatics = false ∧ s.vm.findClass Cn = some cell.cls) (hn : As.length = n) (hst : st0 = As.reverse ++ .ref b :: rest) (hw : (rest.map fun v => v.category).sum ≤ 8) (hml : ls.size = nL) (hd : decode cc pc = .ok (.invokevirtual idx, 3)) (hcel : cells + mc' ≤ R.cells ∧ slots + ms' ≤ R.slots)
    (kk : ∀ (r : Int32) (u : S) (H1 : Heap) (locs1 : List Loc), post r u → Bq u H1 → H.size ≤ H1.size → (∀ q : Nat, q < H.size → ¬ A1 q → H1[q]? = H[q]?) → va_S A s.heap H1 locs1 → W p l e R s m args below meth c H1 locs1 (cells + mc') (slots + ms') Q (F0 m (pc + 3) ls (.int r :: rest))) : W p l e R s m args below meth c H locs cells slots Q (F0 m pc ls st0) := by
  subst hst
  refine va_calli (va_runV (As := As) (rest := rest) (n := n) C hM (cwV n C.2.2.2.2 (g_inV k1 k2 k3 k4 k5) rfl rfl rfl hdc hroom) ⟨AM.blind, hrc, fun U hU hW => ⟨rfl, by rw [hU], E.at (hS.mono hAB) hU hW, by rw [hU]; exact hPr _ hW.alike⟩⟩ rfl hn hml rfl (lv_room hw) hd hcel) hS (fun q _ h => hA1 q h) (fun q h => hA1 q h) (fun r u t H1 locs1 ht hvm hp hb hz hq hS1 => ?_)
  exact kk r u H1 locs1 hp (by rw [← ht]; exact hb) hz hq hS1
theorem am_callVV {S : Type} {post : S → Prop} {Bq : S → Heap → Prop} {Pr : Vm → Heap → Prop} {y : MethodName} {bytes : ByteArray} {maxL n idx k' mc' ms' b : Nat} {Cn : String} {ret : Option FieldType} {As st0 : List Value} (C : CallFix p m c cc nL s args gw own) (E : EV G B s) (hS : va_S A s.heap H locs) (hAB : ∀ q, A q → B ≤ q) (hA1 : ∀ q, A1 q → A q)
    (hM : Met l y (Cond.code y bytes maxL ret :: gw) (rmX k' mc' ms') (PcA (.ref b :: As) H.size G B Pr) (va_Qv post (fun u t => Bq u t.heap) A1) mc' ms' A1) (hPr : ∀ vm, s.vm.Alike vm → Pr vm H) (k1 : Cond.methodLink own idx y ∈ gw) (k2 : Cond.instanceMethod y ∈ gw) (k3 : Cond.selects Cn y y ∈ gw) (k4 : Cond.initialized Cn ∈ gw) (k5 : Cond.code y bytes maxL ret ∈ gw) (hdc : y.cls = Cn ∧ y.cls ≠ "java/lang/invoke/MethodHandle" ∧ y.cls ≠ "java/lang/invoke/VarHandle" ∧ (parseMethodDescriptor y.desc).map (fun d => d.parameters.length) = some n)
    (hroom : (rmX k' mc' ms').frames + 1 ≤ R.frames ∧ 8 + (maxL + 11) + (rmX k' mc' ms').locals ≤ R.locals) (hrc : ∃ cell : Cell, H[b]? = some cell ∧ cell.vm.isStatics = false ∧ s.vm.findClass Cn = some cell.cls) (hn : As.length = n) (hst : st0 = As.reverse ++ .ref b :: rest) (hw : (rest.map fun v => v.category).sum ≤ 8) (hml : ls.size = nL) (hd : decode cc pc = .ok (.invokevirtual idx, 3)) (hcel : cells + mc' ≤ R.cells ∧ slots + ms' ≤ R.slots)
    (kk : ∀ (u : S) (H1 : Heap) (locs1 : List Loc), post u → Bq u H1 → H.size ≤ H1.size → (∀ q : Nat, q < H.size → ¬ A1 q → H1[q]? = H[q]?) → va_S A s.heap H1 locs1 → W p l e R s m args below meth c H1 locs1 (cells + mc') (slots + ms') Q (F0 m (pc + 3) ls rest)) : W p l e R s m args below meth c H locs cells slots Q (F0 m pc ls st0) := by
  subst hst
  refine va_callv (va_runV (As := As) (rest := rest) (n := n) C hM (cwV n C.2.2.2.2 (g_inV k1 k2 k3 k4 k5) rfl rfl rfl hdc hroom) ⟨AM.blind, hrc, fun U hU hW => ⟨rfl, by rw [hU], E.at (hS.mono hAB) hU hW, by rw [hU]; exact hPr _ hW.alike⟩⟩ rfl hn hml rfl (lv_room hw) hd hcel) hS (fun q _ h => hA1 q h) (fun q h => hA1 q h) (fun u t H1 locs1 ht hvm hp hb hz hq hS1 => ?_)
  exact kk u H1 locs1 hp (by rw [← ht]; exact hb) hz hq hS1
end AS
theorem nIk_ok {k : Nat} (h : k ≤ 100000) : ¬ (Int32.ofInt (k : Int)) < 0 ∧ (Int32.ofInt (k : Int)).toNatClampNeg = k := by
  obtain ⟨g1, g2⟩ := inR_in (i := (k : Int)) (n := k + 1) (by omega) (by omega) (by omega)
  exact ⟨fun z => g1 (Or.inl z), by omega⟩
theorem nIc0 : (Int32.ofInt 0).toNatClampNeg = 0 := by decide
theorem inR_nat {k : Nat} (h : k ≤ 100000) : inR (k : Int) := ⟨by omega, by omega⟩
def MiV (C : String) (mi : Nat) (vm : Vm) : Prop := ∃ (c : ClassId) (k : Class), vm.findClass C = some c ∧ vm.classes[c]? = some k ∧ k.mirror = some mi
theorem MiV.of {C : String} {mi : Nat} {U : State} (h : va_Mi C mi U) : MiV C mi U.vm := h
theorem va_Mi.vm {C : String} {mi : Nat} {U : State} {vm : Vm} (h : va_Mi C mi U) (hv : U.vm.Alike vm) : MiV C mi vm := MiV.of (U := U.setVm vm) (h.moved hv)
theorem iShr1 {n : Nat} (h : n ≤ 1000) : iShr (n : Int) 1 = ((n / 2 : Nat) : Int) := by
  have h2 : ∀ k : Fin 1001, iShr ((k : Nat) : Int) 1 = (((k : Nat) / 2 : Nat) : Int) := by decide +kernel
  exact h2 ⟨n, by omega⟩
theorem obj_asg {s : State} {args : Array Value} {Cn : String} (h : ∀ w ∈ nw, va_Nw w s) (hca : Cond.castable Cn "java/lang/Object" ∈ nw) : ∀ comp c0 : ClassId, s.vm.findClass "java/lang/Object" = some comp → s.vm.findClass Cn = some c0 → s.vm.assignable c0 comp = true := by
  intro comp c0 h1 h2
  obtain ⟨c1, t1, f1, f2, f3⟩ := Cond.castable_spec (va_Nw.use (A := args) rfl (h _ hca))
  cases h2.symm.trans f1
  cases h1.symm.trans f2
  exact f3
def CpQ (G : Gx) (b n : Nat) (f : Nat → Option Nat) (N sz q ra : Nat) (H : Heap) : Prop := ra = q ∧ sz ≤ q ∧ va_P G.1 vwCl [(b, arE G n f), (q, arE G N (va_cpy f (fun _ => none) 0 0 n))] H ∧ va_D (An b sz) [(b, arE G n f), (q, arE G N (va_cpy f (fun _ => none) 0 0 n))]
theorem dn_new {A : Nat → Prop} {b q : Nat} {x y : va_E} {ws : va_W} (hD : va_D A ((b, x) :: (q, y) :: ws)) : q ≠ b := fun z => by
  have h := hD.1 0 1 (b, x) (q, y) rfl rfl z.symm
  omega
theorem kw_same : (Cond.sameField "java/util/ArrayList" "java/util/AbstractList" "modCount" "I") ∈ gw := gw_of 104 (by decide +kernel) (by decide +kernel)
theorem n_nl {l : Launch} {G : Gx} {B sz : Nat} {o g1 g2 : Int} (ho : inR o) (h1 : inR g1) (h2 : inR g2) (h3 : 0 < o + max g1 g2) (h4 : o + max g1 g2 ≤ 2147483639) : Met l yJ8_newLength_cabcc (Cond.code yJ8_newLength_cabcc cJ8_newLength_cabcc 4 (some .int) :: gw) (rmX 1 0 0) (PcA [.int (Int32.ofInt o), .int (Int32.ofInt g1), .int (Int32.ofInt g2)] sz G B (fun _ _ => True)) (va_Qi (fun r (_ : Unit) => r = Int32.ofInt (o + max g1 g2)) (fun _ _ => True) (fun _ => False)) 0 0 (fun _ => False) :=
  AM.mk (by decide +kernel) rfl (Nat.le_of_ble_eq_true rfl) (lv := [(0, .int (Int32.ofInt o)), (1, .int (Int32.ofInt g1)), (2, .int (Int32.ofInt g2))]) rfl (fun p e s m args below meth c ls C E hz hr hlk hPr hl => by
    have hS : va_S (fun _ => False) s.heap s.heap [] := va_S.rf
    have hv : inR (o + max g1 g2) := ⟨by omega, by omega⟩
    refine lv_iload_n C.1 C.2.1 dJ8_newLength_cabcc_0 rfl (lv_at hl 0 rfl) ?_
    refine lv_iload_n C.1 C.2.1 dJ8_newLength_cabcc_1 rfl (lv_at hl 1 rfl) ?_
    refine lv_iload_n C.1 C.2.1 dJ8_newLength_cabcc_2 rfl (lv_at hl 2 rfl) ?_
    refine sa_max (R := rmX 1 0 0) C h1 h2 hl.1 kw_820 kmath_max_s kmath_i kmath_max_c (by decide) (Nat.le_of_ble_eq_true rfl) ⟨by decide, by decide⟩ dJ8_newLength_cabcc_3 ?_
    refine sa_iadd C dJ8_newLength_cabcc_6 ?_
    refine lv_istore_n (lv' := [(3, .int (Int32.ofInt (o + max g1 g2))), (0, .int (Int32.ofInt o)), (1, .int (Int32.ofInt g1)), (2, .int (Int32.ofInt g2))]) C.1 C.2.1 dJ8_newLength_cabcc_7 rfl hl (by decide) rfl (fun ls hl => ?_)
    refine sa_const C dJ8_newLength_cabcc_8 ?_
    refine lv_iload_n C.1 C.2.1 dJ8_newLength_cabcc_9 rfl (lv_at hl 0 rfl) ?_
    refine sa_icmp_ge (tgt := 21) C (inR_c (a := 0) rfl) hv dJ8_newLength_cabcc_10 (by decide) (fun hc => absurd hc (by omega)) (fun hc => ?_)
    refine lv_iload_n C.1 C.2.1 dJ8_newLength_cabcc_13 rfl (lv_at hl 0 rfl) ?_
    refine sa_ldc (n := 2147483639) C (by decide) kw_821 dJ8_newLength_cabcc_14 ?_
    refine sa_icmp_gt (tgt := 21) C hv (inR_c (a := 2147483639) rfl) dJ8_newLength_cabcc_16 (by decide) (fun hc => absurd hc (by omega)) (fun hc => ?_)
    refine lv_iload_n C.1 C.2.1 dJ8_newLength_cabcc_19 rfl (lv_at hl 0 rfl) ?_
    exact W.iret C.1 C.2.1 hr (fun t ht _ => ⟨⟨_, (), rfl, rfl, trivial⟩, hS.F ht⟩) hS.2.2 dJ8_newLength_cabcc_20 hlk)
theorem n_cp3 {l : Launch} {G : Gx} {B b n N mi sz : Nat} {Cn : String} {f : Nat → Option Nat} (hN : n ≤ N) (hN2 : N ≤ 1000) (hca : Cond.castable Cn "java/lang/Object" ∈ nw) : Met l yJ7_copyOf_6403c (Cond.code yJ7_copyOf_6403c cJ7_copyOf_6403c 4 (some (.array (.object "java/lang/Object"))) :: gw) (rmX 1 1 1000) (PcA [.ref b, .int (Int32.ofInt (N : Int)), .ref mi] sz G B (fun vm H => B ≤ b ∧ va_P G.1 vwCl [(b, arE G n f)] H ∧ ElC Cn (An b sz) (fun y => ∃ i, i < n ∧ f i = some y) vm H ∧ MiV "[Ljava/lang/Object;" mi vm)) (va_Qr (fun _ : Nat => True) (fun q ra t => CpQ G b n f N sz q ra t.heap) (An b sz)) 1 1000 (An b sz) :=
  AM.mk (by decide +kernel) rfl (Nat.le_of_ble_eq_true rfl) (lv := [(0, .ref b), (1, .int (Int32.ofInt (N : Int))), (2, .ref mi)]) rfl (fun p e s m args below meth c ls C E hz hr hlk hPr hl => by
    obtain ⟨hB, hP, hEl, hMi⟩ := hPr
    subst hz
    have hA : ∀ q, s.heap.size ≤ q → An b s.heap.size q := fun q h => Or.inr h
    have hD : va_D (An b s.heap.size) [(b, arE G n f)] := va_D.sing (Or.inl rfl)
    have hS : va_S (An b s.heap.size) s.heap s.heap [] := va_S.rf
    obtain ⟨hN3, hN4⟩ := nIk_ok (k := N) (by omega)
    obtain ⟨hn3, hn4⟩ := nIk_ok (k := n) (by omega)
    refine lv_aload_n C.1 C.2.1 dJ7_copyOf_6403c_0 rfl (lv_at hl 2 rfl) ?_
    refine va_ldcM C.1 C.2.1 C.2.2.2.1 (C.2.2.2.2 _ kw_849) hMi dJ7_copyOf_6403c_1 ?_
    refine lv_acmp_ne (rx := some mi) (ry := some mi) (tgt := 13) C.1 C.2.1 dJ7_copyOf_6403c_3 (by decide) (fun h => absurd rfl h) (fun _ => ?_)
    refine lv_iload_n C.1 C.2.1 dJ7_copyOf_6403c_6 rfl (lv_at hl 1 rfl) ?_
    refine va_newq (N' := N) C.1 C.2.1 C.2.2.2.1 (C.2.2.2.2 _ kw_851) E.2.1.2.2.2.2.2.2.2.2 E.1 hP hD hS hA hN3 hN4 (by omega) (by decide) (by show 0 + N ≤ 1000; omega) dJ7_copyOf_6403c_7 (fun q cA H hK hP hD hS => ?_)
    have hcA : cA = G.2.2.2.2.1 := Option.some.inj ((va_nmO (hK.2 (tys G).length (cA, .object "java/lang/Object") (by simp)).2 rfl).symm.trans (va_nmO (E.1.2 3 (G.2.2.2.2.1, .object "java/lang/Object") rfl).2 rfl))
    subst hcA
    replace hP : va_P G.1 vwCl [(b, arE G n f), (q, arE G N (fun _ => none))] H := hP
    replace hD : va_D (An b s.heap.size) [(b, arE G n f), (q, arE G N (fun _ => none))] := hD
    refine lv_goto (tgt := 24) C.1 C.2.1 dJ7_copyOf_6403c_10 (by decide) ?_
    refine lv_astore_n (lv' := [(3, .ref q), (0, .ref b), (1, .int (Int32.ofInt (N : Int))), (2, .ref mi)]) C.1 C.2.1 dJ7_copyOf_6403c_24 rfl hl (by decide) rfl (fun ls hl => ?_)
    refine lv_aload_n C.1 C.2.1 dJ7_copyOf_6403c_25 rfl (lv_at hl 1 rfl) ?_
    refine sa_const C dJ7_copyOf_6403c_26 ?_
    refine lv_aload_n C.1 C.2.1 dJ7_copyOf_6403c_27 rfl (lv_at hl 0 rfl) ?_
    refine sa_const C dJ7_copyOf_6403c_28 ?_
    refine lv_aload_n C.1 C.2.1 dJ7_copyOf_6403c_29 rfl (lv_at hl 1 rfl) ?_
    refine va_alen (v := Int32.ofInt (n : Int)) C.1 C.2.1 E.1 hP 0 3 rfl rfl Int32.ofInt_eq_ofNat.symm dJ7_copyOf_6403c_30 ?_
    refine lv_iload_n C.1 C.2.1 dJ7_copyOf_6403c_31 rfl (lv_at hl 2 rfl) ?_
    refine sa_min (R := rmX 1 1 1000) C (inR_nat (by omega)) (inR_nat (by omega)) kw_852 hl.1 kmath_min_s kmath_i kmath_min_c (by decide) (Nat.le_of_ble_eq_true rfl) ⟨by decide, by show 0 + N ≤ 1000; omega⟩ dJ7_copyOf_6403c_32 ?_
    rw [show min (n : Int) (N : Int) = (n : Int) by omega]
    refine va_copyq (R := rmX 1 1 1000) (C := Cn) (sp := Int32.ofInt 0) (dp := Int32.ofInt 0) (n := Int32.ofInt (n : Int)) C.1 C.2.1 (C.2.2.1.trans hl.1.symm) C.2.2.2.1 (C.2.2.2.2 _ kw_853) (C.2.2.2.2 _ knat) (C.2.2.2.2 _ kst_copy) (C.2.2.2.2 _ kin_sys) E.1 hP hD hS 0 1 3 3 rfl rfl rfl rfl (by decide) (by decide) hn3 (by rw [nIc0, hn4]; omega) (by rw [nIc0, hn4]; omega) (fun i hi y hy => ?_) (obj_asg (args := args) E.2.1.1 hca) (by decide) (by decide) dJ7_copyOf_6403c_35 (fun H1 locs1 hP1 hD1 hS1 => ?_)
    · rw [nIc0, Nat.zero_add] at hy
      rw [hn4] at hi
      exact ((hEl.kept hS) y ⟨i, hi, hy⟩).2
    · rw [nIc0, hn4] at hP1 hD1
      refine lv_aload_n C.1 C.2.1 dJ7_copyOf_6403c_38 rfl (lv_at hl 0 rfl) ?_
      refine W.widen (k := 1) (n := 1000) (by decide) (by show 0 + N ≤ 1000; omega) ?_
      refine W.aret C.1 C.2.1 hr (Or.inr ⟨_, rfl⟩) (Or.inr ⟨_, rfl⟩) (fun t ht _ => ⟨⟨q, q, rfl, trivial, rfl, ?_, by rw [ht]; exact hP1, hD1⟩, hS1.F ht⟩) hS1.2.2 dJ7_copyOf_6403c_39 hlk
      rcases hD1.2 1 _ rfl with z | z
      · exact absurd z (dn_new hD1)
      · exact z)
theorem n_cp2 {l : Launch} {G : Gx} {B b n N sz : Nat} {Cn : String} {f : Nat → Option Nat} (hN : n ≤ N) (hN2 : N ≤ 1000) (hca : Cond.castable Cn "java/lang/Object" ∈ nw) : Met l yJ7_copyOf_1904c (Cond.code yJ7_copyOf_1904c cJ7_copyOf_1904c 2 (some (.array (.object "java/lang/Object"))) :: gw) (rmX 2 1 1000) (PcA [.ref b, .int (Int32.ofInt (N : Int))] sz G B (fun vm H => B ≤ b ∧ va_P G.1 vwCl [(b, arE G n f)] H ∧ ElC Cn (An b sz) (fun y => ∃ i, i < n ∧ f i = some y) vm H)) (va_Qr (fun _ : Nat => True) (fun q ra t => CpQ G b n f N sz q ra t.heap) (An b sz)) 1 1000 (An b sz) :=
  AM.mk (by decide +kernel) rfl (Nat.le_of_ble_eq_true rfl) (lv := [(0, .ref b), (1, .int (Int32.ofInt (N : Int)))]) rfl (fun p e s m args below meth c ls C E hz hr hlk hPr hl => by
    obtain ⟨hB, hP, hEl⟩ := hPr
    subst hz
    have hS : va_S (An b s.heap.size) s.heap s.heap [] := va_S.rf
    have hAB : ∀ q, An b s.heap.size q → B ≤ q := fun q h => h.elim (fun e => e ▸ hB) (fun z => Nat.le_trans E.2.2 z)
    obtain ⟨mi, hmi⟩ := E.2.1.2.2.2.2.2.2.2.1
    refine lv_aload_n C.1 C.2.1 dJ7_copyOf_1904c_0 rfl (lv_at hl 0 rfl) ?_
    refine lv_iload_n C.1 C.2.1 dJ7_copyOf_1904c_1 rfl (lv_at hl 1 rfl) ?_
    refine lv_aload_n C.1 C.2.1 dJ7_copyOf_1904c_2 rfl (lv_at hl 0 rfl) ?_
    refine va_getC (R := rmX 2 1 1000) C.1 C.2.1 (C.2.2.1.trans hl.1.symm) C.2.2.2.1 (C.2.2.2.2 _ kw_828) (va_Nw.use rfl (E.2.1.1 _ kn_1459)) (C.2.2.2.2 _ kw_1458) (C.2.2.2.2 _ kw_829) (C.2.2.2.2 _ kw_845) hmi ⟨_, hP 0 _ rfl, rfl, va_nmO (E.1.2 3 (G.2.2.2.2.1, .object "java/lang/Object") rfl).2 (by decide +kernel)⟩ (by decide) (Nat.le_of_ble_eq_true rfl) dJ7_copyOf_1904c_3 ?_
    refine am_callSR (R := rmX 2 1 1000) (n := 3) (As := [.ref b, .int (Int32.ofInt (N : Int)), .ref mi]) (rest := []) (A1 := An b s.heap.size) C E hS hAB (fun q h => h) (n_cp3 hN hN2 hca) (fun vm hv => ⟨hB, hP, hEl.at hv (fun q h => h) (fun q h => h), hmi.vm hv⟩) kw_846 kw_847 kw_48 kw_848 ⟨by decide +kernel, by decide +kernel, by decide +kernel⟩ ⟨by decide, by decide⟩ rfl rfl (Nat.le_of_ble_eq_true rfl) hl.1 dJ7_copyOf_1904c_6 ⟨by decide, by decide⟩ (fun u ra H1 locs1 _ hq hz1 hk hS1 => ?_)
    exact W.aret C.1 C.2.1 hr (Or.inr ⟨_, rfl⟩) (Or.inr ⟨_, rfl⟩) (fun t ht _ => ⟨⟨u, ra, rfl, trivial, by show CpQ G b n f N s.heap.size u ra t.heap; rw [ht]; exact hq⟩, hS1.F ht⟩) hS1.2.2 dJ7_copyOf_1904c_9 hlk)
def GrP (G : Gx) (B a b : Nat) (mo : Int) (bb : Nat) (z : Int) (W1 : va_W) (Cn : String) (P : Nat → Prop) (sz : Nat) : Vm → Heap → Prop := fun vm H => B ≤ a ∧ B ≤ b ∧ va_P G.1 vwCl ((a, liE mo bb z) :: W1) H ∧ va_D (fun q => q = a ∨ q = b) ((a, liE mo bb z) :: W1) ∧ ElC Cn (An2 a b sz) P vm H
def GrQ (G : Gx) (a b : Nat) (mo z : Int) (N : Nat) (g : Nat → Option Nat) (sz q ra : Nat) (H : Heap) : Prop := ra = q ∧ sz ≤ q ∧ va_P G.1 vwCl [(a, liE mo q z), (q, arE G N g)] H ∧ va_D (An2 a b sz) [(a, liE mo q z), (q, arE G N g)]
theorem an2_w {a b sz : Nat} {ws : va_W} (h : va_D (fun q => q = a ∨ q = b) ws) : va_D (An2 a b sz) ws := h.weaken (fun k q hk h => h.elim Or.inl (fun z => Or.inr (Or.inl z)))
theorem an2_le {a b sz sz' : Nat} (h : sz ≤ sz') : ∀ q, An2 a b sz' q → An2 a b sz q := fun q z => z.elim Or.inl (fun z => z.elim (fun y => Or.inr (Or.inl y)) (fun y => Or.inr (Or.inr (Nat.le_trans h y))))
theorem an2_B {G : Gx} {B a b : Nat} {s : State} (E : EV G B s) (ha : B ≤ a) (hb : B ≤ b) : ∀ q, An2 a b s.heap.size q → B ≤ q := fun q h => h.elim (fun e => e ▸ ha) (fun h => h.elim (fun e => e ▸ hb) (fun z => Nat.le_trans E.2.2 z))
/-- what is asked of grow: of such a list it makes an array of N places -/
def GrC (l : Launch) (y : MethodName) (cd : Cond) (k : Nat) (av : List Value) (G : Gx) (B a b : Nat) (mo : Int) (bb : Nat) (z : Int) (W1 : va_W) (Cn : String) (P : Nat → Prop) (N : Nat) (g : Nat → Option Nat) : Prop :=
  ∀ sz, Met l y (cd :: gw) (rmX k 1 1000) (PcA av sz G B (GrP G B a b mo bb z W1 Cn P sz)) (va_Qr (fun _ : Nat => True) (fun q ra t => GrQ G a b mo z N g sz q ra t.heap) (An2 a b sz)) 1 1000 (An2 a b sz)
theorem n_grI0 {l : Launch} {G : Gx} {B a : Nat} {mo : Int} {Cn : String} {P : Nat → Prop} : GrC l yJx4a65c_grow_92f84 (Cond.code yJx4a65c_grow_92f84 cJx4a65c_grow_92f84 4 (some (.array (.object "java/lang/Object")))) 3 [.ref a, .int (Int32.ofInt 1)] G B a a mo G.2.2.2.2.2 0 [] Cn P 10 (fun _ => none) := fun sz =>
  AM.mk (by decide +kernel) rfl (Nat.le_of_ble_eq_true rfl) (lv := [(0, .ref a), (1, .int (Int32.ofInt 1))]) rfl (fun p e s m args below meth c ls C E hz hr hlk hPr hl => by
    obtain ⟨hB, -, hP, hD0, hEl⟩ := hPr
    subst hz
    have hA : ∀ q, s.heap.size ≤ q → An2 a a s.heap.size q := fun q h => Or.inr (Or.inr h)
    have hAB := an2_B E hB hB
    have hD := an2_w (sz := s.heap.size) hD0
    have hS : va_S (An2 a a s.heap.size) s.heap s.heap [] := va_S.rf
    refine lv_aload_n C.1 C.2.1 dJx4a65c_grow_92f84_0 rfl (lv_at hl 0 rfl) ?_
    refine cn_get C E 0 gf_Jx4a65c hP rfl rfl 1 (by decide) kw_100 rfl rfl dJx4a65c_grow_92f84_1 ?_
    refine va_tlen (v := Int32.ofInt 0) C.1 C.2.1 E.2.1.2.2.2.2.2.2.1 (hS.mono hAB) (by decide) dJx4a65c_grow_92f84_4 ?_
    refine lv_istore_n (lv' := [(2, .int (Int32.ofInt 0)), (0, .ref a), (1, .int (Int32.ofInt 1))]) C.1 C.2.1 dJx4a65c_grow_92f84_5 rfl hl (by decide) rfl (fun ls hl => ?_)
    refine lv_iload_n C.1 C.2.1 dJx4a65c_grow_92f84_6 rfl (lv_at hl 0 rfl) ?_
    refine sa_if_gt (tgt := 20) C (inR_c (a := 0) rfl) dJx4a65c_grow_92f84_7 (by decide) (fun hc => absurd hc (by decide)) (fun _ => ?_)
    refine lv_aload_n C.1 C.2.1 dJx4a65c_grow_92f84_10 rfl (lv_at hl 1 rfl) ?_
    refine cn_get C E 0 gf_Jx4a65c hP rfl rfl 1 (by decide) kw_100 rfl rfl dJx4a65c_grow_92f84_11 ?_
    refine va_gets C.1 C.2.1 E.2.1.2.2.2.2.2.1 (hS.mono hAB) C.2.2.2.1 (C.2.2.2.2 _ kw_98) (fun _ h => h) dJx4a65c_grow_92f84_14 ?_
    refine lv_acmp_eq (rx := some G.2.2.2.2.2) (ry := some G.2.2.2.2.2) (tgt := 45) C.1 C.2.1 dJx4a65c_grow_92f84_17 (by decide) (fun _ => ?_) (fun h => absurd rfl h)
    refine lv_aload_n C.1 C.2.1 dJx4a65c_grow_92f84_45 rfl (lv_at hl 1 rfl) ?_
    refine sa_bipush C dJx4a65c_grow_92f84_46 (by decide) ?_
    refine lv_iload_n C.1 C.2.1 dJx4a65c_grow_92f84_48 rfl (lv_at hl 2 rfl) ?_
    refine sa_max (R := rmX 3 1 1000) C (inR_c (a := 10) rfl) (inR_c (a := 1) rfl) hl.1 kw_854 kmath_max_s kmath_i kmath_max_c (by decide) (Nat.le_of_ble_eq_true rfl) ⟨by decide, by decide⟩ dJx4a65c_grow_92f84_49 ?_
    rw [show max (10 : Int) 1 = 10 by decide]
    refine va_newq (R := rmX 3 1 1000) (N' := 10) C.1 C.2.1 C.2.2.2.1 (C.2.2.2.2 _ kw_855) E.2.1.2.2.2.2.2.2.2.2 E.1 hP hD hS hA (by decide) (by decide) (by decide) (by decide) (by decide) dJx4a65c_grow_92f84_52 (fun q cA H hK hP hD hS => ?_)
    have hcA : cA = G.2.2.2.2.1 := Option.some.inj ((va_nmO (hK.2 (tys G).length (cA, .object "java/lang/Object") (by simp)).2 rfl).symm.trans (va_nmO (E.1.2 3 (G.2.2.2.2.1, .object "java/lang/Object") rfl).2 rfl))
    subst hcA
    replace hP : va_P G.1 vwCl [(a, liE mo G.2.2.2.2.2 0), (q, arE G 10 (fun _ => none))] H := hP
    replace hD : va_D (An2 a a s.heap.size) [(a, liE mo G.2.2.2.2.2 0), (q, arE G 10 (fun _ => none))] := hD
    refine lv_dup_x1 C.1 C.2.1 dJx4a65c_grow_92f84_55 rfl rfl ?_
    refine va_put C.1 C.2.1 C.2.2.2.2 gf_Jx4a65c tyJx4a65c tyJx4a65c_ok nmJx4a65c C.2.2.2.1 E.1 hP hD hS 0 rfl rfl 1 (by decide) (C.2.2.2.2 _ kw_100) (fun _ h => h) rfl (ty := .array (.object "java/lang/Object")) (by decide +kernel) rfl rfl (Nat.le_of_ble_eq_true rfl) dJx4a65c_grow_92f84_56 (fun H locs hP hD hS => ?_)
    replace hP : va_P G.1 vwCl [(a, liE mo q 0), (q, arE G 10 (fun _ => none))] H := hP
    replace hD : va_D (An2 a a s.heap.size) [(a, liE mo q 0), (q, arE G 10 (fun _ => none))] := hD
    refine W.widen (k := 1) (n := 1000) (by decide) (by decide) ?_
    refine W.aret C.1 C.2.1 hr (Or.inr ⟨_, rfl⟩) (Or.inr ⟨_, rfl⟩) (fun t ht _ => ⟨⟨q, q, rfl, trivial, rfl, ?_, by rw [ht]; exact hP, hD⟩, hS.F ht⟩) hS.2.2 dJx4a65c_grow_92f84_59 hlk
    rcases hD.2 1 _ rfl with z | z | z
    · exact absurd z (dn_new hD)
    · exact absurd z (dn_new hD)
    · exact z)
theorem n_grI1 {l : Launch} {G : Gx} {B a b n : Nat} {mo : Int} {Cn : String} {P : Nat → Prop} {f : Nat → Option Nat} (hca : Cond.castable Cn "java/lang/Object" ∈ nw) (hn : 0 < n) (hn2 : n + max 1 (n / 2) ≤ 1000) (hP0 : ∀ i, i < n → ∀ y, f i = some y → P y) : GrC l yJx4a65c_grow_92f84 (Cond.code yJx4a65c_grow_92f84 cJx4a65c_grow_92f84 4 (some (.array (.object "java/lang/Object")))) 3 [.ref a, .int (Int32.ofInt ((n : Int) + 1))] G B a b mo b (n : Int) [(b, arE G n f)] Cn P (n + max 1 (n / 2)) (va_cpy f (fun _ => none) 0 0 n) := fun sz =>
  AM.mk (by decide +kernel) rfl (Nat.le_of_ble_eq_true rfl) (lv := [(0, .ref a), (1, .int (Int32.ofInt ((n : Int) + 1)))]) rfl (fun p e s m args below meth c ls C E hz hr hlk hPr hl => by
    obtain ⟨hB, hBb, hP, hD0, hEl⟩ := hPr
    subst hz
    have hA : ∀ q, s.heap.size ≤ q → An2 a b s.heap.size q := fun q h => Or.inr (Or.inr h)
    have hAB := an2_B E hB hBb
    have hD := an2_w (sz := s.heap.size) hD0
    have hS : va_S (An2 a b s.heap.size) s.heap s.heap [] := va_S.rf
    have hnN : ((n + max 1 (n / 2) : Nat) : Int) = (n : Int) + max ((n : Int) + 1 - (n : Int)) ((n / 2 : Nat) : Int) := by omega
    refine lv_aload_n C.1 C.2.1 dJx4a65c_grow_92f84_0 rfl (lv_at hl 0 rfl) ?_
    refine cn_get C E 0 gf_Jx4a65c hP rfl rfl 1 (by decide) kw_100 rfl rfl dJx4a65c_grow_92f84_1 ?_
    refine va_alen (v := Int32.ofInt (n : Int)) C.1 C.2.1 E.1 hP 1 3 rfl rfl Int32.ofInt_eq_ofNat.symm dJx4a65c_grow_92f84_4 ?_
    refine lv_istore_n (lv' := [(2, .int (Int32.ofInt (n : Int))), (0, .ref a), (1, .int (Int32.ofInt ((n : Int) + 1)))]) C.1 C.2.1 dJx4a65c_grow_92f84_5 rfl hl (by decide) rfl (fun ls hl => ?_)
    refine lv_iload_n C.1 C.2.1 dJx4a65c_grow_92f84_6 rfl (lv_at hl 0 rfl) ?_
    refine sa_if_gt (tgt := 20) C (inR_nat (by omega)) dJx4a65c_grow_92f84_7 (by decide) (fun _ => ?_) (fun hc => absurd hc (by omega))
    refine lv_iload_n C.1 C.2.1 dJx4a65c_grow_92f84_20 rfl (lv_at hl 0 rfl) ?_
    refine lv_iload_n C.1 C.2.1 dJx4a65c_grow_92f84_21 rfl (lv_at hl 2 rfl) ?_
    refine lv_iload_n C.1 C.2.1 dJx4a65c_grow_92f84_22 rfl (lv_at hl 0 rfl) ?_
    refine sa_isub C dJx4a65c_grow_92f84_23 ?_
    refine lv_iload_n C.1 C.2.1 dJx4a65c_grow_92f84_24 rfl (lv_at hl 0 rfl) ?_
    refine sa_const C dJx4a65c_grow_92f84_25 ?_
    refine sa_ishr C dJx4a65c_grow_92f84_26 ?_
    rw [iShr1 (n := n) (by omega)]
    refine am_callSI (R := rmX 3 1 1000) (n := 3) (As := [.int (Int32.ofInt (n : Int)), .int (Int32.ofInt ((n : Int) + 1 - (n : Int))), .int (Int32.ofInt ((n / 2 : Nat) : Int))]) (rest := []) (k' := 1) (mc' := 0) (ms' := 0) (Pr := fun _ _ => True) (S := Unit) (post := fun r _ => r = Int32.ofInt ((n : Int) + max ((n : Int) + 1 - (n : Int)) ((n / 2 : Nat) : Int))) (Bq := fun _ _ => True) (A1 := fun _ => False) C E hS hAB (fun q h => False.elim h) (n_nl (o := (n : Int)) (g1 := (n : Int) + 1 - (n : Int)) (g2 := ((n / 2 : Nat) : Int)) (inR_nat (by omega)) ⟨by omega, by omega⟩ (inR_nat (by omega)) (by omega) (by omega)) (fun vm hv => trivial) kw_817 kw_818 kw_60 kw_819 ⟨by decide +kernel, by decide +kernel, by decide +kernel⟩ ⟨by decide, by decide⟩ rfl rfl (Nat.le_of_ble_eq_true rfl) hl.1 dJx4a65c_grow_92f84_27 ⟨by decide, by decide⟩ (fun r _ H1 locs1 hr1 _ hz1 hk1 hS1 => ?_)
    subst hr1
    rw [← hnN]
    have hP1 := hP.kept (H1 := H1) (fun k q hk => hk1 _ (hP k q hk).lt (fun h => h))
    refine lv_istore_n (lv' := [(3, .int (Int32.ofInt ((n + max 1 (n / 2) : Nat) : Int))), (2, .int (Int32.ofInt (n : Int))), (0, .ref a), (1, .int (Int32.ofInt ((n : Int) + 1)))]) C.1 C.2.1 dJx4a65c_grow_92f84_30 rfl hl (by decide) rfl (fun ls hl => ?_)
    refine lv_aload_n C.1 C.2.1 dJx4a65c_grow_92f84_31 rfl (lv_at hl 2 rfl) ?_
    refine lv_aload_n C.1 C.2.1 dJx4a65c_grow_92f84_32 rfl (lv_at hl 2 rfl) ?_
    refine cn_get C E 0 gf_Jx4a65c hP1 rfl rfl 1 (by decide) kw_100 rfl rfl dJx4a65c_grow_92f84_33 ?_
    refine lv_iload_n C.1 C.2.1 dJx4a65c_grow_92f84_36 rfl (lv_at hl 0 rfl) ?_
    have hAn : ∀ q, An b H1.size q → An2 a b s.heap.size q := fun q h => h.elim (fun z => Or.inr (Or.inl z)) (fun z => Or.inr (Or.inr (Nat.le_trans hS1.1 z)))
    refine am_callSR (R := rmX 3 1 1000) (n := 2) (As := [.ref b, .int (Int32.ofInt ((n + max 1 (n / 2) : Nat) : Int))]) (rest := [.ref a]) (A1 := An b H1.size) C E hS1 hAB hAn (n_cp2 (Cn := Cn) (f := f) (by omega) hn2 hca) (fun vm hv => ⟨hBb, va_P.sing (hP1 1 _ rfl), (hEl.kept hS1).at hv hAn (fun y ⟨i, h1, h2⟩ => hP0 i h1 y h2)⟩) kw_825 kw_826 kw_48 kw_827 ⟨by decide +kernel, by decide +kernel, by decide +kernel⟩ ⟨by decide, by decide⟩ rfl rfl (Nat.le_of_ble_eq_true rfl) hl.1 dJx4a65c_grow_92f84_37 ⟨by decide, by decide⟩ (fun q ra H2 locs2 _ hq hz2 hk2 hS2 => ?_)
    obtain ⟨rfl, hq1, hq2, hq3⟩ := hq
    obtain ⟨j1, j2⟩ := cn_join (ws := [(a, liE mo b (n : Int))]) (w := b) (A := An2 a b s.heap.size) hP1 hD (fun q h => hA q (Nat.le_trans hS1.1 h)) hk2 hq2 hq3
    replace j1 : va_P G.1 vwCl [(a, liE mo b (n : Int)), (b, arE G n f), (ra, arE G (n + max 1 (n / 2)) (va_cpy f (fun _ => none) 0 0 n))] H2 := j1
    replace j2 : va_D (An2 a b s.heap.size) [(a, liE mo b (n : Int)), (b, arE G n f), (ra, arE G (n + max 1 (n / 2)) (va_cpy f (fun _ => none) 0 0 n))] := j2
    refine lv_dup_x1 C.1 C.2.1 dJx4a65c_grow_92f84_40 rfl rfl ?_
    refine va_put C.1 C.2.1 C.2.2.2.2 gf_Jx4a65c tyJx4a65c tyJx4a65c_ok nmJx4a65c C.2.2.2.1 E.1 j1 j2 hS2 0 rfl rfl 1 (by decide) (C.2.2.2.2 _ kw_100) (fun _ h => h) rfl (ty := .array (.object "java/lang/Object")) (by decide +kernel) rfl rfl (Nat.le_of_ble_eq_true rfl) dJx4a65c_grow_92f84_41 (fun H3 locs3 hP3 hD3 hS3 => ?_)
    replace hP3 := hP3.sub [0, 2] (ws' := [(a, liE mo ra (n : Int)), (ra, arE G (n + max 1 (n / 2)) (va_cpy f (fun _ => none) 0 0 n))]) rfl
    replace hD3 := hD3.sub [0, 2] (ws' := [(a, liE mo ra (n : Int)), (ra, arE G (n + max 1 (n / 2)) (va_cpy f (fun _ => none) 0 0 n))]) rfl rfl
    exact W.aret C.1 C.2.1 hr (Or.inr ⟨_, rfl⟩) (Or.inr ⟨_, rfl⟩) (fun t ht _ => ⟨⟨ra, ra, rfl, trivial, rfl, Nat.le_trans hS1.1 hq1, by rw [ht]; exact hP3, hD3⟩, hS3.F ht⟩) hS3.2.2 dJx4a65c_grow_92f84_44 hlk)
theorem n_gr {l : Launch} {G : Gx} {B a b bb N : Nat} {mo z : Int} {W1 : va_W} {Cn : String} {P : Nat → Prop} {g : Nat → Option Nat} (hI : GrC l yJx4a65c_grow_92f84 (Cond.code yJx4a65c_grow_92f84 cJx4a65c_grow_92f84 4 (some (.array (.object "java/lang/Object")))) 3 [.ref a, .int (Int32.ofInt (z + 1))] G B a b mo bb z W1 Cn P N g) : GrC l yJx4a65c_grow_d5877 (Cond.code yJx4a65c_grow_d5877 cJx4a65c_grow_d5877 1 (some (.array (.object "java/lang/Object")))) 4 [.ref a] G B a b mo bb z W1 Cn P N g := fun sz =>
  AM.mk (by decide +kernel) rfl (Nat.le_of_ble_eq_true rfl) (lv := [(0, .ref a)]) rfl (fun p e s m args below meth c ls C E hz hr hlk hPr hl => by
    obtain ⟨hB, hBb, hP, hD0, hEl⟩ := hPr
    subst hz
    have hAB := an2_B E hB hBb
    have hS : va_S (An2 a b s.heap.size) s.heap s.heap [] := va_S.rf
    refine lv_aload_n C.1 C.2.1 dJx4a65c_grow_d5877_0 rfl (lv_at hl 0 rfl) ?_
    refine lv_aload_n C.1 C.2.1 dJx4a65c_grow_d5877_1 rfl (lv_at hl 0 rfl) ?_
    refine cn_get C E 0 gf_Jx4a65c hP rfl rfl 2 (by decide) kw_101 rfl rfl dJx4a65c_grow_d5877_2 ?_
    refine sa_const C dJx4a65c_grow_d5877_5 ?_
    refine sa_iadd C dJx4a65c_grow_d5877_6 ?_
    refine am_callVR (R := rmX 4 1 1000) (n := 1) (As := [.int (Int32.ofInt (z + 1))]) (rest := []) (A1 := An2 a b s.heap.size) C E hS hAB (fun q h => h) (hI s.heap.size) (fun vm hv => ⟨hB, hBb, hP, hD0, hEl.at hv (fun q h => h) (fun q h => h)⟩) kw_813 kw_815 kw_25 kw_42 kw_816 ⟨rfl, by decide +kernel, by decide +kernel, by decide +kernel⟩ ⟨by decide, by decide⟩ (va_recv E.1 hP (q0 := 0) (ci := 0) (q := (RJx4a65c, TJx4a65c, 3)) rfl rfl) rfl rfl (Nat.le_of_ble_eq_true rfl) hl.1 dJx4a65c_grow_d5877_7 ⟨by decide, by decide⟩ (fun u ra H1 locs1 _ hq hz1 hk hS1 => ?_)
    exact W.aret C.1 C.2.1 hr (Or.inr ⟨_, rfl⟩) (Or.inr ⟨_, rfl⟩) (fun t ht _ => ⟨⟨u, ra, rfl, trivial, by show GrQ G a b mo z N g s.heap.size u ra t.heap; rw [ht]; exact hq⟩, hS1.F ht⟩) hS1.2.2 dJx4a65c_grow_d5877_10 hlk)
/-- add: room is there -/
def AdQ (G : Gx) (a b : Nat) (mo z : Int) (N : Nat) (g : Nat → Option Nat) (v : Nat) (Pq : Nat → Prop) (sz q : Nat) (H : Heap) : Prop := Pq q ∧ va_P G.1 vwCl [(a, liE mo q (z + 1)), (q, arE G N (va_up g z.toNat (some v)))] H ∧ va_D (An2 a b sz) [(a, liE mo q (z + 1)), (q, arE G N (va_up g z.toNat (some v)))]
def AdC (l : Launch) (y : MethodName) (cd : Cond) (k : Nat) (av : List Value) (G : Gx) (B a b : Nat) (mo mo' : Int) (bb : Nat) (z : Int) (W1 : va_W) (Cn : String) (P : Nat → Prop) (N : Nat) (g : Nat → Option Nat) (v : Nat) (Pq : Nat → Nat → Prop) (Qt : (Nat → State → Prop) → (Nat → Prop) → Array Value → State → Outcome → State → Prop) : Prop :=
  ∀ sz, Met l y (cd :: gw) (rmX k 1 1000) (PcA av sz G B (GrP G B a b mo bb z W1 Cn P sz)) (Qt (fun q t => AdQ G a b mo' z N g v (Pq sz) sz q t.heap) (An2 a b sz)) 1 1000 (An2 a b sz)
abbrev QtV : (Nat → State → Prop) → (Nat → Prop) → Array Value → State → Outcome → State → Prop := fun Bq A => va_Qv (fun _ : Nat => True) Bq A
abbrev QtI : (Nat → State → Prop) → (Nat → Prop) → Array Value → State → Outcome → State → Prop := fun Bq A => va_Qi (fun r (_ : Nat) => r = Int32.ofInt 1) Bq A
theorem n_ad3r {l : Launch} {G : Gx} {B a b n z : Nat} {mo : Int} {Cn : String} {P : Nat → Prop} {f : Nat → Option Nat} {v : Nat} (hca : Cond.castable Cn "java/lang/Object" ∈ nw) (hz1 : z < n) (hn : n ≤ 1000) (hv : P v) : AdC l yJx4a65c_add_72be8 (Cond.code yJx4a65c_add_72be8 cJx4a65c_add_72be8 4 none) 5 [.ref a, .ref v, .ref b, .int (Int32.ofInt (z : Int))] G B a b mo mo b (z : Int) [(b, arE G n f)] Cn P n f v (fun _ q => q = b) QtV := fun sz =>
  AM.mk (by decide +kernel) rfl (Nat.le_of_ble_eq_true rfl) (lv := [(0, .ref a), (1, .ref v), (2, .ref b), (3, .int (Int32.ofInt (z : Int)))]) rfl (fun p e s m args below meth c ls C E hz hr hlk hPr hl => by
    obtain ⟨hB, hBb, hP, hD0, hEl⟩ := hPr
    subst hz
    have hAB := an2_B E hB hBb
    have hD := an2_w (sz := s.heap.size) hD0
    have hS : va_S (An2 a b s.heap.size) s.heap s.heap [] := va_S.rf
    obtain ⟨g1, g2⟩ := inR_in (i := (z : Int)) (n := n) (by omega) (by omega) (by omega)
    refine lv_iload_n C.1 C.2.1 dJx4a65c_add_72be8_0 rfl (lv_at hl 3 rfl) ?_
    refine lv_aload_n C.1 C.2.1 dJx4a65c_add_72be8_1 rfl (lv_at hl 2 rfl) ?_
    refine va_alen (v := Int32.ofInt (n : Int)) C.1 C.2.1 E.1 hP 1 3 rfl rfl Int32.ofInt_eq_ofNat.symm dJx4a65c_add_72be8_2 ?_
    refine sa_icmp_ne (tgt := 11) C (inR_nat (by omega)) (inR_nat (by omega)) dJx4a65c_add_72be8_3 (by decide) (fun _ => ?_) (fun hc => absurd hc (by omega))
    refine lv_aload_n C.1 C.2.1 dJx4a65c_add_72be8_11 rfl (lv_at hl 2 rfl) ?_
    refine lv_iload_n C.1 C.2.1 dJx4a65c_add_72be8_12 rfl (lv_at hl 3 rfl) ?_
    refine lv_aload_n C.1 C.2.1 dJx4a65c_add_72be8_13 rfl (lv_at hl 1 rfl) ?_
    refine vb_astq (C := Cn) C.1 C.2.1 E.1 hP hD hS 1 3 rfl rfl (hEl v hv).2 (obj_asg (args := args) E.2.1.1 hca) g1 dJx4a65c_add_72be8_14 (fun H1 locs1 hP1 hD1 hS1 => ?_)
    rw [show (Int32.ofInt (z : Int)).toNatClampNeg = z by omega] at hP1 hD1
    refine lv_aload_n C.1 C.2.1 dJx4a65c_add_72be8_15 rfl (lv_at hl 0 rfl) ?_
    refine lv_iload_n C.1 C.2.1 dJx4a65c_add_72be8_16 rfl (lv_at hl 3 rfl) ?_
    refine sa_const C dJx4a65c_add_72be8_17 ?_
    refine sa_iadd C dJx4a65c_add_72be8_18 ?_
    refine va_put C.1 C.2.1 C.2.2.2.2 gf_Jx4a65c tyJx4a65c tyJx4a65c_ok nmJx4a65c C.2.2.2.1 E.1 hP1 hD1 hS1 0 rfl rfl 2 (by decide) (C.2.2.2.2 _ kw_101) (fun _ h => h) rfl (ty := .int) (by decide +kernel) rfl rfl (Nat.le_of_ble_eq_true rfl) dJx4a65c_add_72be8_19 (fun H2 locs2 hP2 hD2 hS2 => ?_)
    refine W.widen (k := 1) (n := 1000) (by decide) (by decide) ?_
    exact W.vret C.1 C.2.1 hr (fun t ht _ => ⟨⟨b, rfl, trivial, rfl, by rw [ht]; exact hP2, hD2⟩, hS2.F ht⟩) hS2.2.2 dJx4a65c_add_72be8_22 hlk)
theorem n_ad3g {l : Launch} {G : Gx} {B a b bb z N : Nat} {mo : Int} {W1 : va_W} {Cn : String} {P : Nat → Prop} {g : Nat → Option Nat} {v : Nat} (hca : Cond.castable Cn "java/lang/Object" ∈ nw) (hW : (W1 = [] ∧ bb = G.2.2.2.2.2 ∧ z = 0) ∨ ∃ f, W1 = [(bb, arE G z f)]) (hz1 : z < N) (hN : N ≤ 1000) (hv : P v)
    (hG : GrC l yJx4a65c_grow_d5877 (Cond.code yJx4a65c_grow_d5877 cJx4a65c_grow_d5877 1 (some (.array (.object "java/lang/Object")))) 4 [.ref a] G B a b mo bb (z : Int) W1 Cn P N g) : AdC l yJx4a65c_add_72be8 (Cond.code yJx4a65c_add_72be8 cJx4a65c_add_72be8 4 none) 5 [.ref a, .ref v, .ref bb, .int (Int32.ofInt (z : Int))] G B a b mo mo bb (z : Int) W1 Cn P N g v (fun sz q => sz ≤ q) QtV := fun sz =>
  AM.mk (by decide +kernel) rfl (Nat.le_of_ble_eq_true rfl) (lv := [(0, .ref a), (1, .ref v), (2, .ref bb), (3, .int (Int32.ofInt (z : Int)))]) rfl (fun p e s m args below meth c ls C E hz hr hlk hPr hl => by
    obtain ⟨hB, hBb, hP, hD0, hEl⟩ := hPr
    subst hz
    have hAB := an2_B E hB hBb
    have hS : va_S (An2 a b s.heap.size) s.heap s.heap [] := va_S.rf
    obtain ⟨g1, g2⟩ := inR_in (i := (z : Int)) (n := N) (by omega) (by omega) (by omega)
    refine lv_iload_n C.1 C.2.1 dJx4a65c_add_72be8_0 rfl (lv_at hl 3 rfl) ?_
    refine lv_aload_n C.1 C.2.1 dJx4a65c_add_72be8_1 rfl (lv_at hl 2 rfl) ?_
    refine cut_j (A := W p l e (rmX 5 1 1000) s m args below meth c s.heap [] 0 0 (MQ below (QtV (fun q t => AdQ G a b mo (z : Int) N g v (fun q => s.heap.size ≤ q) s.heap.size q t.heap) (An2 a b s.heap.size)) args s 1 1000 (An2 a b s.heap.size)) (F0 m 3 ls [.int (Int32.ofInt (z : Int)), .int (Int32.ofInt (z : Int))])) (fun J => ?_) ?_
    · rcases hW with ⟨w1, w2, w3⟩ | ⟨f, w1⟩
      · subst w2 w3
        exact va_tlen (v := Int32.ofInt ((0 : Nat) : Int)) C.1 C.2.1 E.2.1.2.2.2.2.2.2.1 (hS.mono hAB) (by decide) dJx4a65c_add_72be8_2 J
      · subst w1
        exact va_alen (v := Int32.ofInt (z : Int)) C.1 C.2.1 E.1 hP 1 3 rfl rfl Int32.ofInt_eq_ofNat.symm dJx4a65c_add_72be8_2 J
    refine sa_icmp_ne (tgt := 11) C (inR_nat (by omega)) (inR_nat (by omega)) dJx4a65c_add_72be8_3 (by decide) (fun hc => absurd rfl hc) (fun _ => ?_)
    refine lv_aload_n C.1 C.2.1 dJx4a65c_add_72be8_6 rfl (lv_at hl 0 rfl) ?_
    refine am_callVR (R := rmX 5 1 1000) (n := 0) (As := []) (rest := []) (A1 := An2 a b s.heap.size) C E hS hAB (fun q h => h) (hG s.heap.size) (fun vm hv => ⟨hB, hBb, hP, hD0, hEl.at hv (fun q h => h) (fun q h => h)⟩) kw_809 kw_811 kw_24 kw_42 kw_812 ⟨rfl, by decide +kernel, by decide +kernel, by decide +kernel⟩ ⟨by decide, by decide⟩ (va_recv E.1 hP (q0 := 0) (ci := 0) (q := (RJx4a65c, TJx4a65c, 3)) rfl rfl) rfl rfl (Nat.le_of_ble_eq_true rfl) hl.1 dJx4a65c_add_72be8_7 ⟨by decide, by decide⟩ (fun q ra H1 locs1 _ hq hz1 hk hS1 => ?_)
    obtain ⟨rfl, hq1, hP1, hD1⟩ := hq
    refine lv_astore_n (lv' := [(2, .ref ra), (0, .ref a), (1, .ref v), (3, .int (Int32.ofInt (z : Int)))]) C.1 C.2.1 dJx4a65c_add_72be8_10 rfl hl (by decide) rfl (fun ls hl => ?_)
    refine lv_aload_n C.1 C.2.1 dJx4a65c_add_72be8_11 rfl (lv_at hl 0 rfl) ?_
    refine lv_iload_n C.1 C.2.1 dJx4a65c_add_72be8_12 rfl (lv_at hl 3 rfl) ?_
    refine lv_aload_n C.1 C.2.1 dJx4a65c_add_72be8_13 rfl (lv_at hl 2 rfl) ?_
    refine vb_astq (C := Cn) C.1 C.2.1 E.1 hP1 hD1 hS1 1 3 rfl rfl ((hEl.kept hS1) v hv).2 (obj_asg (args := args) E.2.1.1 hca) g1 dJx4a65c_add_72be8_14 (fun H1 locs1 hP1 hD1 hS1 => ?_)
    rw [show (Int32.ofInt (z : Int)).toNatClampNeg = z by omega] at hP1 hD1
    refine lv_aload_n C.1 C.2.1 dJx4a65c_add_72be8_15 rfl (lv_at hl 1 rfl) ?_
    refine lv_iload_n C.1 C.2.1 dJx4a65c_add_72be8_16 rfl (lv_at hl 3 rfl) ?_
    refine sa_const C dJx4a65c_add_72be8_17 ?_
    refine sa_iadd C dJx4a65c_add_72be8_18 ?_
    refine va_put C.1 C.2.1 C.2.2.2.2 gf_Jx4a65c tyJx4a65c tyJx4a65c_ok nmJx4a65c C.2.2.2.1 E.1 hP1 hD1 hS1 0 rfl rfl 2 (by decide) (C.2.2.2.2 _ kw_101) (fun _ h => h) rfl (ty := .int) (by decide +kernel) rfl rfl (Nat.le_of_ble_eq_true rfl) dJx4a65c_add_72be8_19 (fun H2 locs2 hP2 hD2 hS2 => ?_)
    refine W.widen (k := 1) (n := 1000) (by decide) (by decide) ?_
    exact W.vret C.1 C.2.1 hr (fun t ht _ => ⟨⟨ra, rfl, trivial, hq1, by rw [ht]; exact hP2, hD2⟩, hS2.F ht⟩) hS2.2.2 dJx4a65c_add_72be8_22 hlk)
theorem n_add {l : Launch} {G : Gx} {B a b bb N : Nat} {z : Nat} {mo : Int} {W1 : va_W} {Cn : String} {P : Nat → Prop} {g : Nat → Option Nat} {v : Nat} {Pq : Nat → Nat → Prop} (hPq : ∀ sz sz' q, sz ≤ sz' → Pq sz' q → Pq sz q)
    (hM : AdC l yJx4a65c_add_72be8 (Cond.code yJx4a65c_add_72be8 cJx4a65c_add_72be8 4 none) 5 [.ref a, .ref v, .ref bb, .int (Int32.ofInt (z : Int))] G B a b (mo + 1) (mo + 1) bb (z : Int) W1 Cn P N g v Pq QtV) : AdC l yJx4a65c_add_9ea2d (Cond.code yJx4a65c_add_9ea2d cJx4a65c_add_9ea2d 2 (some .boolean)) 6 [.ref a, .ref v] G B a b mo (mo + 1) bb (z : Int) W1 Cn P N g v Pq QtI := fun sz =>
  AM.mk (by decide +kernel) rfl (Nat.le_of_ble_eq_true rfl) (lv := [(0, .ref a), (1, .ref v)]) rfl (fun p e s m args below meth c ls C E hz hr hlk hPr hl => by
    obtain ⟨hB, hBb, hP, hD0, hEl⟩ := hPr
    subst hz
    have hAB := an2_B E hB hBb
    have hD := an2_w (sz := s.heap.size) hD0
    have hS : va_S (An2 a b s.heap.size) s.heap s.heap [] := va_S.rf
    refine lv_aload_n C.1 C.2.1 dJx4a65c_add_9ea2d_0 rfl (lv_at hl 0 rfl) ?_
    refine lv_dup C.1 C.2.1 dJx4a65c_add_9ea2d_1 rfl ?_
    refine va_get C.1 C.2.1 C.2.2.2.2 gf_Jx4a65c C.2.2.2.1 E.1 hP 0 rfl rfl 0 (by decide) (C.2.2.2.2 _ kw_103) (fun x h => u_same (C.2.2.2.2 _ kw_same) x h) rfl dJx4a65c_add_9ea2d_2 ?_
    refine sa_const C dJx4a65c_add_9ea2d_5 ?_
    refine sa_iadd C dJx4a65c_add_9ea2d_6 ?_
    refine va_put C.1 C.2.1 C.2.2.2.2 gf_Jx4a65c tyJx4a65c tyJx4a65c_ok nmJx4a65c C.2.2.2.1 E.1 hP hD hS 0 rfl rfl 0 (by decide) (C.2.2.2.2 _ kw_103) (fun x h => u_same (C.2.2.2.2 _ kw_same) x h) rfl (ty := .int) (by decide +kernel) rfl rfl (Nat.le_of_ble_eq_true rfl) dJx4a65c_add_9ea2d_7 (fun H locs hP1 hD1 hS1 => ?_)
    replace hP1 : va_P G.1 vwCl ((a, liE (mo + 1) bb (z : Int)) :: W1) H := hP1
    have hD2 : va_D (fun q => q = a ∨ q = b) ((a, liE (mo + 1) bb (z : Int)) :: W1) := hD0.set (p := 0) (e := liE (mo + 1) bb (z : Int)) rfl
    refine lv_aload_n C.1 C.2.1 dJx4a65c_add_9ea2d_10 rfl (lv_at hl 0 rfl) ?_
    refine lv_aload_n C.1 C.2.1 dJx4a65c_add_9ea2d_11 rfl (lv_at hl 1 rfl) ?_
    refine lv_aload_n C.1 C.2.1 dJx4a65c_add_9ea2d_12 rfl (lv_at hl 0 rfl) ?_
    refine cn_get C E 0 gf_Jx4a65c hP1 rfl rfl 1 (by decide) kw_100 rfl rfl dJx4a65c_add_9ea2d_13 ?_
    refine lv_aload_n C.1 C.2.1 dJx4a65c_add_9ea2d_16 rfl (lv_at hl 0 rfl) ?_
    refine cn_get C E 0 gf_Jx4a65c hP1 rfl rfl 2 (by decide) kw_101 rfl rfl dJx4a65c_add_9ea2d_17 ?_
    refine am_callVV (R := rmX 6 1 1000) (n := 3) (As := [.ref v, .ref bb, .int (Int32.ofInt (z : Int))]) (rest := []) (A1 := An2 a b H.size) C E hS1 hAB (an2_le hS1.1) (hM H.size) (fun vm hv => ⟨hB, hBb, hP1, hD2, (hEl.kept hS1).at hv (an2_le hS1.1) (fun q h => h)⟩) kw_805 kw_807 kw_23 kw_42 kw_808 ⟨rfl, by decide +kernel, by decide +kernel, by decide +kernel⟩ ⟨by decide, by decide⟩ (va_recv E.1 hP1 (q0 := 0) (ci := 0) (q := (RJx4a65c, TJx4a65c, 3)) rfl rfl) rfl rfl (Nat.le_of_ble_eq_true rfl) hl.1 dJx4a65c_add_9ea2d_20 ⟨by decide, by decide⟩ (fun q H2 locs2 _ hq hz2 hk hS2 => ?_)
    obtain ⟨hq1, hq2, hq3⟩ := hq
    refine sa_const C dJx4a65c_add_9ea2d_23 ?_
    exact W.zret C.1 C.2.1 hr (bit_nar (Or.inr rfl : bit 1)) (fun t ht _ => ⟨⟨_, q, rfl, rfl, hPq _ _ _ hS1.1 hq1, by rw [ht]; exact hq2, hq3.weaken (fun k x _ h => an2_le hS1.1 _ h)⟩, hS2.F ht⟩) hS2.2.2 dJx4a65c_add_9ea2d_24 hlk)
