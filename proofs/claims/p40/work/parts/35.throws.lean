/-! methods that may throw -/
def rmX (n mc ms : Nat) : Room := { frames := n, cells := mc, slots := ms, locals := 38 * n }
theorem rmX_ok {k mc ms : Nat} : RmOK (rmX k mc ms) k := ⟨Nat.le_refl _, Nat.le_refl _⟩
/-- where such a method has thrown: the exception's class by its name, and what the memory is -/
def XQ (G : Gx) (e0 : Nat) (α : Ax) (κ : Nat → Int) (B : Nat) (Xm : String → Mem → Prop) : String → State → State → Prop :=
  vx_X (fun u : String × Mem => Xm u.1 u.2) (fun E u t => u.1 = E ∧ Rp G e0 α κ B u.2 t.heap) (fun q => B ≤ q)
def XI (l : Launch) (y : MethodName) (cd : Cond) (n mc ms : Nat) (G : Gx) (e0 : Nat) (α : Ax) (κ : Nat → Int) (B : Nat) (av : List Value) (M : Mem) (Qm : Int → Mem → Prop) (Xm : String → Mem → Prop) : Prop :=
  vx_Met l y (cd :: gw) (rmX n mc ms) (va_Pc av (Pw G e0 α κ B M)) (QI G e0 α κ B Qm) (XQ G e0 α κ B Xm) mc ms (fun q => B ≤ q)
def XV (l : Launch) (y : MethodName) (cd : Cond) (n mc ms : Nat) (G : Gx) (e0 : Nat) (α : Ax) (κ : Nat → Int) (B : Nat) (av : List Value) (M : Mem) (Qm : Mem → Prop) (Xm : String → Mem → Prop) : Prop :=
  vx_Met l y (cd :: gw) (rmX n mc ms) (va_Pc av (Pw G e0 α κ B M)) (QV G e0 α κ B Qm) (XQ G e0 α κ B Xm) mc ms (fun q => B ≤ q)
abbrev WXI (p : Program) (l : Launch) (e : Env) (k mc ms : Nat) (s : State) (m : MethodId) (args : Array Value) (below : List Frame) (meth : Method) (c : Code) (G : Gx) (e0 : Nat) (α : Ax) (κ : Nat → Int) (B : Nat) (Qm : Int → Mem → Prop) (Xm : String → Mem → Prop) (H : Heap) (locs : List Loc) (cells slots : Nat) (pc : Nat) (ls : Array Slot) (st : List Value) : Prop :=
  W p l e (rmX k mc ms) s m args below meth c H locs cells slots (vx_MQ below (QI G e0 α κ B Qm) (XQ G e0 α κ B Xm) args s mc ms (fun q => B ≤ q)) (F0 m pc ls st)
abbrev WXV (p : Program) (l : Launch) (e : Env) (k mc ms : Nat) (s : State) (m : MethodId) (args : Array Value) (below : List Frame) (meth : Method) (c : Code) (G : Gx) (e0 : Nat) (α : Ax) (κ : Nat → Int) (B : Nat) (Qm : Mem → Prop) (Xm : String → Mem → Prop) (H : Heap) (locs : List Loc) (cells slots : Nat) (pc : Nat) (ls : Array Slot) (st : List Value) : Prop :=
  W p l e (rmX k mc ms) s m args below meth c H locs cells slots (vx_MQ below (QV G e0 α κ B Qm) (XQ G e0 α κ B Xm) args s mc ms (fun q => B ≤ q)) (F0 m pc ls st)
/-- of a method that may throw: no table of its own, and no traces of the stack -/
def XT (l : Launch) (c : Code) : Prop := l.stackTraces = false ∧ ∀ x ∈ c.exceptionTable.toList, False
theorem XT.out {l : Launch} {c : Code} (h : XT l c) (pc : Nat) : ∀ x ∈ c.exceptionTable.toList, covers x pc = false := fun x hx => (h.2 x hx).elim
theorem XI.mk {l : Launch} {y : MethodName} {cc : ByteArray} {maxL k mc ms : Nat} {ret : Option FieldType} {own : String} {G : Gx} {e0 : Nat} {α : Ax} {κ : Nat → Int} {B : Nat} {av : List Value} {lv : List (Nat × Value)} {M : Mem} {Qm : Int → Mem → Prop} {Xm : String → Mem → Prop} (hlt : l.stackTraces = false) (hκ : kOK κ) (hy : plainName y.cls = true) (ho : y.cls = own) (hlen : (lg_sl av).length ≤ maxL) (hlv : lv_args 0 av = lv)
    (body : ∀ (p : Program) (e : Env) (s : State) (m : MethodId) (args : Array Value) (below : List Frame) (meth : Method) (c : Code) (ls : Array Slot), CX p m c cc maxL s args own G B κ meth ret → XT l c → Rp G e0 α κ B M s.heap → va_S (fun q => B ≤ q) s.heap s.heap [] → lv_has ls maxL lv → WXI p l e k mc ms s m args below meth c G e0 α κ B Qm Xm s.heap [] 0 0 0 ls []) :
    XI l y (Cond.code y cc maxL ret) k mc ms G e0 α κ B av M Qm Xm := by
  refine vx_ofW (cc := cc) (maxL := maxL) (ret := ret) hy rfl ?_
  intro p e s m args below meth c s₁ Bd hml hT hv
  obtain ⟨rfl, hE, hR⟩ := hv
  have hl := lv_entry av (n := maxL) hlen
  rw [lg_entry_eq]
  generalize (lg_sl av ++ List.replicate (maxL - (lg_sl av).length) Slot.unset).toArray = ls at hl ⊢
  rw [hlv] at hl
  exact body p e s m _ below meth c ls ⟨⟨Bd.exec, Bd.bytes, hml, by rw [← ho]; exact findClass_of_methodNamed Bd.named, fun w hw => atoms_spec (ws := Cond.code y cc maxL ret :: gw) Bd.pre w (List.mem_cons_of_mem _ hw)⟩, hE, hκ, Bd.returns, Bd.notSynchronized⟩ ⟨hlt, hT⟩ hR va_S.rf hl
theorem XV.mk {l : Launch} {y : MethodName} {cc : ByteArray} {maxL k mc ms : Nat} {ret : Option FieldType} {own : String} {G : Gx} {e0 : Nat} {α : Ax} {κ : Nat → Int} {B : Nat} {av : List Value} {lv : List (Nat × Value)} {M : Mem} {Qm : Mem → Prop} {Xm : String → Mem → Prop} (hlt : l.stackTraces = false) (hκ : kOK κ) (hy : plainName y.cls = true) (ho : y.cls = own) (hlen : (lg_sl av).length ≤ maxL) (hlv : lv_args 0 av = lv)
    (body : ∀ (p : Program) (e : Env) (s : State) (m : MethodId) (args : Array Value) (below : List Frame) (meth : Method) (c : Code) (ls : Array Slot), CX p m c cc maxL s args own G B κ meth ret → XT l c → Rp G e0 α κ B M s.heap → va_S (fun q => B ≤ q) s.heap s.heap [] → lv_has ls maxL lv → WXV p l e k mc ms s m args below meth c G e0 α κ B Qm Xm s.heap [] 0 0 0 ls []) :
    XV l y (Cond.code y cc maxL ret) k mc ms G e0 α κ B av M Qm Xm := by
  refine vx_ofW (cc := cc) (maxL := maxL) (ret := ret) hy rfl ?_
  intro p e s m args below meth c s₁ Bd hml hT hv
  obtain ⟨rfl, hE, hR⟩ := hv
  have hl := lv_entry av (n := maxL) hlen
  rw [lg_entry_eq]
  generalize (lg_sl av ++ List.replicate (maxL - (lg_sl av).length) Slot.unset).toArray = ls at hl ⊢
  rw [hlv] at hl
  exact body p e s m _ below meth c ls ⟨⟨Bd.exec, Bd.bytes, hml, by rw [← ho]; exact findClass_of_methodNamed Bd.named, fun w hw => atoms_spec (ws := Cond.code y cc maxL ret :: gw) Bd.pre w (List.mem_cons_of_mem _ hw)⟩, hE, hκ, Bd.returns, Bd.notSynchronized⟩ ⟨hlt, hT⟩ hR va_S.rf hl
def xnames : List String := ["java/lang/RuntimeException", "java/lang/Exception"]
def xIAE : String := "java/lang/IllegalArgumentException"
def xISE : String := "java/lang/IllegalStateException"
def xIOB : String := "java/lang/IndexOutOfBoundsException"
/-- what a throw of a class by its constructor's place in the table of constants rests on -/
def XW (ic ik : Nat) (cls : String) : Prop := Bundle.fit cls = true ∧ Cond.classLink "TablePages" ik cls ∈ gw ∧ Cond.initialized cls ∈ gw ∧ (∀ w ∈ (vx_atS "TablePages" ic cls xnames).filter goodWord, w ∈ gw) ∧ (∀ w ∈ (vx_atS "TablePages" ic cls xnames).filter (fun w => !goodWord w), w ∈ nw ∧ w.onTables = true) ∧ (∀ w ∈ Cond.classLink "TablePages" ik cls :: Cond.initialized cls :: vx_atS "TablePages" ic cls xnames, vx_ot w = true)
theorem gw_sub {L : List Cond} (h : (L.all fun w => goodWord w) = true) (h2 : (L.all fun w => lw_tbl.contains w) = true) : ∀ w ∈ L, w ∈ gw := fun w hw => List.mem_filter.mpr ⟨by simpa using List.all_eq_true.mp h2 w hw, List.all_eq_true.mp h w hw⟩
theorem nw_sub {L : List Cond} (h : (L.all fun w => nwk w && w.onTables) = true) (h2 : (L.all fun w => lw_tbl.contains w) = true) : ∀ w ∈ L, w ∈ nw ∧ w.onTables = true := fun w hw => by
  have h3 := List.all_eq_true.mp h w hw
  simp only [Bool.and_eq_true] at h3
  exact ⟨List.mem_filter.mpr ⟨by simpa using List.all_eq_true.mp h2 w hw, h3.1⟩, h3.2⟩
set_option maxHeartbeats 4000000 in
set_option maxRecDepth 100000 in
theorem xw_IAE : XW 73 69 xIAE := ⟨by decide +kernel, kw_684, kw_57, gw_sub (by decide +kernel) (by decide +kernel), nw_sub (by decide +kernel) (by decide +kernel), by decide +kernel⟩
set_option maxHeartbeats 4000000 in
set_option maxRecDepth 100000 in
theorem xw_ISE : XW 97 93 xISE := ⟨by decide +kernel, kw_758, kw_58, gw_sub (by decide +kernel) (by decide +kernel), nw_sub (by decide +kernel) (by decide +kernel), by decide +kernel⟩
set_option maxHeartbeats 4000000 in
set_option maxRecDepth 100000 in
theorem xw_IOB : XW 303 299 xIOB := ⟨by decide +kernel, kw_943, kw_62, gw_sub (by decide +kernel) (by decide +kernel), nw_sub (by decide +kernel) (by decide +kernel), by decide +kernel⟩
section XS
variable {p : Program} {l : Launch} {e : Env} {R : Room} {s : State} {m : MethodId} {args : Array Value} {below : List Frame} {meth : Method} {c : Code} {H : Heap} {locs : List Loc} {cells slots mc ms k : Nat} {Q : State → Prop}
variable {cc : ByteArray} {nL : Nat} {own : String} {pc : Nat} {ls : Array Slot} {rest : List Value} {G : Gx} {e0 : Nat} {α : Ax} {κ : Nat → Int} {B : Nat} {M : Mem} {ret : Option FieldType} {Qc : Array Value → State → Outcome → State → Prop} {Xm : String → Mem → Prop}
theorem xw_all {ic ik : Nat} {cls : String} (X : CX p m c cc nL s args own G B κ meth ret) (hw : XW ic ik cls) : ∀ w ∈ vx_atS "TablePages" ic cls xnames, w.before args s = true := by
  obtain ⟨h0, h1, h2, h3, h4, h5⟩ := hw
  intro w hw
  by_cases g : goodWord w = true
  · exact X.1.2.2.2.2 w (h3 w (List.mem_filter.mpr ⟨hw, g⟩))
  · have hx : (!goodWord w) = true := by cases e : goodWord w <;> simp_all
    obtain ⟨a, b⟩ := h4 w (List.mem_filter.mpr ⟨hw, hx⟩)
    exact va_Nw.use b (X.2.1.2.1.1 w a)
theorem sx_throw {ic ik is : Nat} {cls text : String} (X : CX p m c cc nL s args "TablePages" G B κ meth ret) (T : XT l c) (hw : XW ic ik cls) (hstr : ("TablePages", is, text) ∈ strL) (hR : Rp G e0 α κ B M H) (hS : va_S (fun q => B ≤ q) s.heap H locs) (hml : ls.size = nL)
    (d0 : decode cc pc = .ok (.new ik, 3)) (d3 : decode cc (pc + 3) = .ok (.dup, 1)) (d4 : decode cc (pc + 4) = .ok (.ldc is, 2)) (d6 : decode cc (pc + 6) = .ok (.invokespecial ic, 3)) (d9 : decode cc (pc + 9) = .ok (.athrow, 1))
    (hk : 6 ≤ k) (hmc : cells + 1 ≤ mc) (hms : slots + 6 ≤ ms) (hx : Xm cls M) :
    W p l e (rmX k mc ms) s m args below meth c H locs cells slots (vx_MQ below Qc (XQ G e0 α κ B Xm) args s mc ms (fun q => B ≤ q)) (F0 m pc ls []) := by
  obtain ⟨sa, hsa⟩ := X.2.1.2.1.2.2.2.1 _ hstr
  refine vx_throwS (rest := []) (names := xnames) (text := text) (A := fun q => B ≤ q) X.1.1 X.1.2.1 T.1 (own := "TablePages") (cls := cls) X.1.2.2.2.1 hw.1 (by decide +kernel) (X.1.2.2.2.2 _ hw.2.1) (X.1.2.2.2.2 _ hw.2.2.1) hsa (xw_all X hw) hw.2.2.2.2.2 X.2.1.2.1.2.1 X.2.1.2.1.2.2.1 hS (hml.trans X.1.2.2.1.symm) d0 d3 d4 d6 d9 (T.out _) ?_ ?_ hmc hms X.2.2.2.2 (fun t _ h1 h2 => ⟨(cls, M), hx, ⟨rfl, hR.kept h2⟩, Nat.le_trans hS.1 h1, fun q h3 h4 => (h2 q (Nat.lt_of_lt_of_le h3 hS.1)).trans (hS.2.1 q h3 h4)⟩) (fun z hz => hS.2.2 z hz) hmc hms
  · show 5 < k; omega
  · show 0 + 82 ≤ 38 * k; omega
theorem sx_throwW {ic ik is : Nat} {cls text : String} (X : CX p m c cc nL s args "TablePages" G B κ meth ret) (T : XT l c) (hw : XW ic ik cls) (hstr : ("TablePages", is, text) ∈ strL) (hR : Rp G e0 α κ B M H) (hS : va_S (fun q => B ≤ q) s.heap H locs) (hml : ls.size = nL)
    (d0 : decode cc pc = .ok (.new ik, 3)) (d3 : decode cc (pc + 3) = .ok (.dup, 1)) (d4 : decode cc (pc + 4) = .ok (.ldc_w is, 3)) (d7 : decode cc (pc + 7) = .ok (.invokespecial ic, 3)) (d10 : decode cc (pc + 10) = .ok (.athrow, 1))
    (hk : 6 ≤ k) (hmc : cells + 1 ≤ mc) (hms : slots + 6 ≤ ms) (hx : Xm cls M) :
    W p l e (rmX k mc ms) s m args below meth c H locs cells slots (vx_MQ below Qc (XQ G e0 α κ B Xm) args s mc ms (fun q => B ≤ q)) (F0 m pc ls []) := by
  obtain ⟨sa, hsa⟩ := X.2.1.2.1.2.2.2.1 _ hstr
  refine vx_throwSW (rest := []) (names := xnames) (text := text) (A := fun q => B ≤ q) X.1.1 X.1.2.1 T.1 (own := "TablePages") (cls := cls) X.1.2.2.2.1 hw.1 (by decide +kernel) (X.1.2.2.2.2 _ hw.2.1) (X.1.2.2.2.2 _ hw.2.2.1) hsa (xw_all X hw) hw.2.2.2.2.2 X.2.1.2.1.2.1 X.2.1.2.1.2.2.1 hS (hml.trans X.1.2.2.1.symm) d0 d3 d4 d7 d10 (T.out _) ?_ ?_ hmc hms X.2.2.2.2 (fun t _ h1 h2 => ⟨(cls, M), hx, ⟨rfl, hR.kept h2⟩, Nat.le_trans hS.1 h1, fun q h3 h4 => (h2 q (Nat.lt_of_lt_of_le h3 hS.1)).trans (hS.2.1 q h3 h4)⟩) (fun z hz => hS.2.2 z hz) hmc hms
  · show 5 < k; omega
  · show 0 + 82 ≤ 38 * k; omega
/-- what a callee has thrown goes on to the caller -/
theorem sx_out {E : String} {ce : Cell} {q : Addr} {M1 : Mem} (X : CX p m c cc nL s args own G B κ meth ret) (T : XT l c) (hcell : H[q]? = some ce) (hv : ce.vm = .none) (hcl : s.vm.findClass E = some ce.cls) (hR : Rp G e0 α κ B M1 H) (hS : va_S (fun q => B ≤ q) s.heap H locs) (hx : Xm E M1) (hmc : cells ≤ mc) (hms : slots ≤ ms) :
    vx_W p l e R s m args below meth c H locs cells slots (vx_MQ below Qc (XQ G e0 α κ B Xm) args s mc ms (fun q => B ≤ q)) (F0 m pc ls rest) q :=
  vx_out (T.out _) X.2.2.2.2 hcell hv hcl (fun t ht _ => ⟨(E, M1), hx, ⟨rfl, by show Rp G e0 α κ B M1 t.heap; rw [ht]; exact hR⟩, hS.F ht⟩) (fun z hz => hS.2.2 z hz) hmc hms
theorem sx_callVV {y : MethodName} {bytes : ByteArray} {maxL n idx mc' ms' : Nat} (k' : Nat) {ret' : Option FieldType} {s0 : Nat} {Cn : String} {j : Int} {As st0 : List Value} {Qm : Mem → Prop} (X : CX p m c cc nL s args own G B κ meth ret) (T : XT l c) (hR : Rp G e0 α κ B M H) (hS : va_S (fun q => B ≤ q) s.heap H locs)
    (hM : XV l y (Cond.code y bytes maxL ret') k' mc' ms' G e0 α κ B (.ref (α s0 j) :: As) M Qm Xm) (k1 : Cond.methodLink own idx y ∈ gw) (k2 : Cond.instanceMethod y ∈ gw) (k3 : Cond.selects Cn y y ∈ gw) (k4 : Cond.initialized Cn ∈ gw) (k5 : Cond.code y bytes maxL ret' ∈ gw) (hdc : y.cls = Cn ∧ y.cls ≠ "java/lang/invoke/MethodHandle" ∧ y.cls ≠ "java/lang/invoke/VarHandle" ∧ (parseMethodDescriptor y.desc).map (fun d => d.parameters.length) = some n)
    (hroom : (rmX k' mc' ms').frames + 1 ≤ (rmX k mc ms).frames ∧ 8 + (maxL + 11) + (rmX k' mc' ms').locals ≤ (rmX k mc ms).locals) (hrc : ∃ cell : Cell, H[α s0 j]? = some cell ∧ cell.vm.isStatics = false ∧ s.vm.findClass Cn = some cell.cls) (hn : As.length = n) (hst : st0 = As.reverse ++ .ref (α s0 j) :: rest) (hw : (rest.map fun v => v.category).sum ≤ 8) (hml : ls.size = nL) (hd : decode cc pc = .ok (.invokevirtual idx, 3)) (hcel : cells + mc' ≤ mc ∧ slots + ms' ≤ ms)
    (kk : ∀ (M1 : Mem) (H1 : Heap) (locs1 : List Loc), Qm M1 → Rp G e0 α κ B M1 H1 → va_S (fun q => B ≤ q) s.heap H1 locs1 → W p l e (rmX k mc ms) s m args below meth c H1 locs1 (cells + mc') (slots + ms') (vx_MQ below Qc (XQ G e0 α κ B Xm) args s mc ms (fun q => B ≤ q)) (F0 m (pc + 3) ls rest)) : W p l e (rmX k mc ms) s m args below meth c H locs cells slots (vx_MQ below Qc (XQ G e0 α κ B Xm) args s mc ms (fun q => B ≤ q)) (F0 m pc ls st0) := by
  subst hst
  refine vx_callv (vx_runV (As := As) (rest := rest) (n := n) X.1 hM (cwV n X.1.2.2.2.2 (g_inV k1 k2 k3 k4 k5) rfl rfl rfl hdc hroom) ⟨Pw.blind, hrc, fun U hU hW => ⟨rfl, X.2.1.at hS hU hW, by rw [hU]; exact hR⟩⟩ rfl hn hml rfl (lv_room hw) hd hcel) hS (fun q _ h => h) (fun q h => h) (fun q _ h => h) (fun E ce q9 u t H1 locs1 ht hvm hp hb _ _ hS1 hce hcv hcl => ?_) (fun u t H1 locs1 ht hvm hp hb _ _ hS1 => ?_)
  · obtain ⟨E', M1⟩ := u
    obtain ⟨rfl, hb⟩ := hb
    exact sx_out X T hce hcv hcl (by rw [← ht]; exact hb) hS1 hp hcel.1 hcel.2
  · exact kk u H1 locs1 hp (by rw [← ht]; exact hb) hS1
theorem sx_callVI {y : MethodName} {bytes : ByteArray} {maxL n idx mc' ms' : Nat} (k' : Nat) {ret' : Option FieldType} {s0 : Nat} {Cn : String} {j : Int} {As st0 : List Value} {Qm : Int → Mem → Prop} (X : CX p m c cc nL s args own G B κ meth ret) (T : XT l c) (hR : Rp G e0 α κ B M H) (hS : va_S (fun q => B ≤ q) s.heap H locs)
    (hM : XI l y (Cond.code y bytes maxL ret') k' mc' ms' G e0 α κ B (.ref (α s0 j) :: As) M Qm Xm) (k1 : Cond.methodLink own idx y ∈ gw) (k2 : Cond.instanceMethod y ∈ gw) (k3 : Cond.selects Cn y y ∈ gw) (k4 : Cond.initialized Cn ∈ gw) (k5 : Cond.code y bytes maxL ret' ∈ gw) (hdc : y.cls = Cn ∧ y.cls ≠ "java/lang/invoke/MethodHandle" ∧ y.cls ≠ "java/lang/invoke/VarHandle" ∧ (parseMethodDescriptor y.desc).map (fun d => d.parameters.length) = some n)
    (hroom : (rmX k' mc' ms').frames + 1 ≤ (rmX k mc ms).frames ∧ 8 + (maxL + 11) + (rmX k' mc' ms').locals ≤ (rmX k mc ms).locals) (hrc : ∃ cell : Cell, H[α s0 j]? = some cell ∧ cell.vm.isStatics = false ∧ s.vm.findClass Cn = some cell.cls) (hn : As.length = n) (hst : st0 = As.reverse ++ .ref (α s0 j) :: rest) (hw : (rest.map fun v => v.category).sum ≤ 8) (hml : ls.size = nL) (hd : decode cc pc = .ok (.invokevirtual idx, 3)) (hcel : cells + mc' ≤ mc ∧ slots + ms' ≤ ms)
    (kk : ∀ (r : Int) (M1 : Mem) (H1 : Heap) (locs1 : List Loc), Qm r M1 → inR r → Rp G e0 α κ B M1 H1 → va_S (fun q => B ≤ q) s.heap H1 locs1 → W p l e (rmX k mc ms) s m args below meth c H1 locs1 (cells + mc') (slots + ms') (vx_MQ below Qc (XQ G e0 α κ B Xm) args s mc ms (fun q => B ≤ q)) (F0 m (pc + 3) ls (.int (Int32.ofInt r) :: rest))) : W p l e (rmX k mc ms) s m args below meth c H locs cells slots (vx_MQ below Qc (XQ G e0 α κ B Xm) args s mc ms (fun q => B ≤ q)) (F0 m pc ls st0) := by
  subst hst
  refine vx_calli (vx_runV (As := As) (rest := rest) (n := n) X.1 hM (cwV n X.1.2.2.2.2 (g_inV k1 k2 k3 k4 k5) rfl rfl rfl hdc hroom) ⟨Pw.blind, hrc, fun U hU hW => ⟨rfl, X.2.1.at hS hU hW, by rw [hU]; exact hR⟩⟩ rfl hn hml rfl (lv_room hw) hd hcel) hS (fun q _ h => h) (fun q h => h) (fun q _ h => h) (fun E ce q9 u t H1 locs1 ht hvm hp hb _ _ hS1 hce hcv hcl => ?_) (fun r u t H1 locs1 ht hvm hp hb _ _ hS1 => ?_)
  · obtain ⟨E', M1⟩ := u
    obtain ⟨rfl, hb⟩ := hb
    exact sx_out X T hce hcv hcl (by rw [← ht]; exact hb) hS1 hp hcel.1 hcel.2
  · obtain ⟨rfl, hx, hq⟩ := hp
    exact kk u.1 u.2 H1 locs1 hq hx (by rw [← ht]; exact hb) hS1
theorem sx_iret {Qm : Int → Mem → Prop} {r : Int} (X : CX p m c cc nL s args own G B κ meth (some .int)) (hR : Rp G e0 α κ B M H) (hS : va_S (fun q => B ≤ q) s.heap H locs) (hx : inR r) (hq : Qm r M) (hd : decode cc pc = .ok (.ireturn, 1)) (hmc : cells ≤ mc) (hms : slots ≤ ms) :
    W p l e R s m args below meth c H locs cells slots (vx_MQ below (QI G e0 α κ B Qm) (XQ G e0 α κ B Xm) args s mc ms (fun q => B ≤ q)) (F0 m pc ls [.int (Int32.ofInt r)]) :=
  W.widen hmc hms (vx_ret (W.iret X.1.1 X.1.2.1 X.2.2.2.1 (fun t ht _ => ⟨⟨_, (r, M), rfl, ⟨rfl, hx, hq⟩, by show Rp G e0 α κ B M t.heap; rw [ht]; exact hR⟩, hS.F ht⟩) hS.2.2 hd X.2.2.2.2))
theorem sx_zret {Qm : Int → Mem → Prop} {r : Int} (X : CX p m c cc nL s args own G B κ meth (some .boolean)) (hR : Rp G e0 α κ B M H) (hS : va_S (fun q => B ≤ q) s.heap H locs) (hx : bit r) (hq : Qm r M) (hd : decode cc pc = .ok (.ireturn, 1)) (hmc : cells ≤ mc) (hms : slots ≤ ms) :
    W p l e R s m args below meth c H locs cells slots (vx_MQ below (QI G e0 α κ B Qm) (XQ G e0 α κ B Xm) args s mc ms (fun q => B ≤ q)) (F0 m pc ls [.int (Int32.ofInt r)]) :=
  W.widen hmc hms (vx_ret (W.zret X.1.1 X.1.2.1 X.2.2.2.1 (bit_nar hx) (fun t ht _ => ⟨⟨_, (r, M), rfl, ⟨rfl, bit_R hx, hq⟩, by show Rp G e0 α κ B M t.heap; rw [ht]; exact hR⟩, hS.F ht⟩) hS.2.2 hd X.2.2.2.2))
theorem sx_vret {Qm : Mem → Prop} (X : CX p m c cc nL s args own G B κ meth none) (hR : Rp G e0 α κ B M H) (hS : va_S (fun q => B ≤ q) s.heap H locs) (hq : Qm M) (hd : decode cc pc = .ok (.return_, 1)) (hmc : cells ≤ mc) (hms : slots ≤ ms) :
    W p l e R s m args below meth c H locs cells slots (vx_MQ below (QV G e0 α κ B Qm) (XQ G e0 α κ B Xm) args s mc ms (fun q => B ≤ q)) (F0 m pc ls []) :=
  W.widen hmc hms (vx_ret (W.vret X.1.1 X.1.2.1 X.2.2.2.1 (fun t ht _ => ⟨⟨M, rfl, hq, by show Rp G e0 α κ B M t.heap; rw [ht]; exact hR⟩, hS.F ht⟩) hS.2.2 hd X.2.2.2.2))
end XS
