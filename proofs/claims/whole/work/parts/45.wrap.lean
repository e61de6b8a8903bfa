/-! the law's own methods: what is thrown is caught -/
def NcA (U : State) : Prop := va_Nc xIAE xISE U ∧ va_Nc xIAE xIOB U ∧ va_Nc xISE xIAE U ∧ va_Nc xISE xIOB U ∧ va_Nc xIOB xIAE U ∧ va_Nc xIOB xISE U
theorem NcA.moved {u U : State} (hvm : u.vm.Alike U.vm) (h : NcA u) : NcA U := ⟨va_Nc.moved hvm h.1, va_Nc.moved hvm h.2.1, va_Nc.moved hvm h.2.2.1, va_Nc.moved hvm h.2.2.2.1, va_Nc.moved hvm h.2.2.2.2.1, va_Nc.moved hvm h.2.2.2.2.2⟩
def Pwn (G : Gx) (e0 : Nat) (α : Ax) (κ : Nat → Int) (B : Nat) (M : Mem) : State → Prop := fun U => NcA U ∧ Pw G e0 α κ B M U
theorem Pwn.blind {G : Gx} {e0 : Nat} {α : Ax} {κ : Nat → Int} {B : Nat} {M : Mem} {av : List Value} : FrameBlind (va_Pc av (Pwn G e0 α κ B M)) := fun a U g mk q =>
  ⟨q.1, NcA.moved (u := U) (U := U.calling g mk a) (Vm.Alike.refl U.vm) q.2.1, ((Pw.blind (av := av)) a U g mk ⟨q.1, q.2.2⟩).2⟩
def NX (B : Nat) : String → State → State → Prop := vx_X (fun _ : Unit => False) (fun _ _ _ => True) (fun q => B ≤ q)
def WRa (l : Launch) (y : MethodName) (cd : Cond) (n mc ms : Nat) (G : Gx) (e0 : Nat) (α : Ax) (κ : Nat → Int) (B : Nat) (av : List Value) (M : Mem) (Qm : Int → (Nat → Int) → Mem → Prop) : Prop :=
  vx_Met l y (cd :: gw) (rmX n mc ms) (va_Pc av (Pwn G e0 α κ B M)) (QD G e0 α B Qm) (NX B) mc ms (fun q => B ≤ q)
abbrev WW (p : Program) (l : Launch) (e : Env) (k mc ms : Nat) (s : State) (m : MethodId) (args : Array Value) (below : List Frame) (meth : Method) (c : Code) (G : Gx) (e0 : Nat) (α : Ax) (B : Nat) (Qm : Int → (Nat → Int) → Mem → Prop) (H : Heap) (locs : List Loc) (cells slots : Nat) (pc : Nat) (ls : Array Slot) (st : List Value) : Prop :=
  W p l e (rmX k mc ms) s m args below meth c H locs cells slots (vx_MQ below (QD G e0 α B Qm) (NX B) args s mc ms (fun q => B ≤ q)) (F0 m pc ls st)
theorem WRa.mk {l : Launch} {y : MethodName} {cc : ByteArray} {hh : List (Nat × Nat × Nat × Nat)} {maxL k mc ms : Nat} {ret : Option FieldType} {own : String} {G : Gx} {e0 : Nat} {α : Ax} {κ : Nat → Int} {B : Nat} {av : List Value} {lv : List (Nat × Value)} {M : Mem} {Qm : Int → (Nat → Int) → Mem → Prop} (hκ : kOK κ) (hy : plainName y.cls = true) (ho : y.cls = own) (hlen : (lg_sl av).length ≤ maxL) (hlv : lv_args 0 av = lv)
    (body : ∀ (p : Program) (e : Env) (s : State) (m : MethodId) (args : Array Value) (below : List Frame) (meth : Method) (c : Code) (ls : Array Slot), CX p m c cc maxL s args own G B κ meth ret → NcA s → c.exceptionTable.toList = tableOf hh → Rp G e0 α κ B M s.heap → va_S (fun q => B ≤ q) s.heap s.heap [] → lv_has ls maxL lv → WW p l e k mc ms s m args below meth c G e0 α B Qm s.heap [] 0 0 0 ls []) :
    WRa l y (Cond.codeWith y cc maxL ret hh) k mc ms G e0 α κ B av M Qm := by
  refine vx_ofWH (cc := cc) (maxL := maxL) (ret := ret) (hh := hh) hy rfl ?_
  intro p e s m args below meth c s₁ Bd hml hv
  obtain ⟨rfl, hN, hE, hR⟩ := hv
  have hT := vx_table (x := y) Bd (atoms_spec (ws := Cond.codeWith y cc maxL ret hh :: gw) Bd.pre _ List.mem_cons_self)
  have hl := lv_entry av (n := maxL) hlen
  rw [lg_entry_eq]
  generalize (lg_sl av ++ List.replicate (maxL - (lg_sl av).length) Slot.unset).toArray = ls at hl ⊢
  rw [hlv] at hl
  exact body p e s m _ below meth c ls ⟨⟨Bd.exec, Bd.bytes, hml, by rw [← ho]; exact findClass_of_methodNamed Bd.named, fun w hw => atoms_spec (ws := Cond.codeWith y cc maxL ret hh :: gw) Bd.pre w (List.mem_cons_of_mem _ hw)⟩, hE, hκ, Bd.returns, Bd.notSynchronized⟩ hN hT hR va_S.rf hl
section WP
variable {p : Program} {l : Launch} {e : Env} {R : Room} {s : State} {m : MethodId} {args : Array Value} {below : List Frame} {meth : Method} {c : Code} {H : Heap} {locs : List Loc} {cells slots mc ms k : Nat} {Q : State → Prop}
variable {cc : ByteArray} {nL : Nat} {own : String} {pc : Nat} {ls : Array Slot} {rest : List Value} {G : Gx} {e0 : Nat} {α : Ax} {κ : Nat → Int} {B : Nat} {M : Mem} {ret : Option FieldType} {Xm : String → Mem → Prop}
def KX (p : Program) (l : Launch) (e : Env) (R : Room) (s : State) (m : MethodId) (args : Array Value) (below : List Frame) (meth : Method) (c : Code) (G : Gx) (e0 : Nat) (α : Ax) (κ : Nat → Int) (B : Nat) (Xm : String → Mem → Prop) (cells slots : Nat) (Q : State → Prop) (pc : Nat) (ls : Array Slot) (rest : List Value) : Prop :=
  ∀ (E : String) (M1 : Mem) (ce : Cell) (q : Nat) (H1 : Heap) (locs1 : List Loc), Xm E M1 → Rp G e0 α κ B M1 H1 → va_S (fun q => B ≤ q) s.heap H1 locs1 → H1[q]? = some ce → ce.vm = .none → s.vm.findClass E = some ce.cls → vx_W p l e R s m args below meth c H1 locs1 cells slots Q (F0 m pc ls rest) q
theorem sw_callV {y : MethodName} {bytes : ByteArray} {maxL n idx mc' ms' : Nat} (k' : Nat) {ret' : Option FieldType} {s0 : Nat} {Cn : String} {j : Int} {As st0 : List Value} {Qm : Mem → Prop} (X : CX p m c cc nL s args own G B κ meth ret) (hR : Rp G e0 α κ B M H) (hS : va_S (fun q => B ≤ q) s.heap H locs)
    (hM : XV l y (Cond.code y bytes maxL ret') k' mc' ms' G e0 α κ B (.ref (α s0 j) :: As) M Qm Xm) (k1 : Cond.methodLink own idx y ∈ gw) (k2 : Cond.instanceMethod y ∈ gw) (k3 : Cond.selects Cn y y ∈ gw) (k4 : Cond.initialized Cn ∈ gw) (k5 : Cond.code y bytes maxL ret' ∈ gw) (hdc : y.cls = Cn ∧ y.cls ≠ "java/lang/invoke/MethodHandle" ∧ y.cls ≠ "java/lang/invoke/VarHandle" ∧ (parseMethodDescriptor y.desc).map (fun d => d.parameters.length) = some n)
    (hroom : (rmX k' mc' ms').frames + 1 ≤ R.frames ∧ 8 + (maxL + 11) + (rmX k' mc' ms').locals ≤ R.locals) (hrc : ∃ cell : Cell, H[α s0 j]? = some cell ∧ cell.vm.isStatics = false ∧ s.vm.findClass Cn = some cell.cls) (hn : As.length = n) (hst : st0 = As.reverse ++ .ref (α s0 j) :: rest) (hw : (rest.map fun v => v.category).sum ≤ 8) (hml : ls.size = nL) (hd : decode cc pc = .ok (.invokevirtual idx, 3)) (hcel : cells + mc' ≤ R.cells ∧ slots + ms' ≤ R.slots)
    (kx : KX p l e R s m args below meth c G e0 α κ B Xm (cells + mc') (slots + ms') Q pc ls rest)
    (kk : ∀ (M1 : Mem) (H1 : Heap) (locs1 : List Loc), Qm M1 → Rp G e0 α κ B M1 H1 → va_S (fun q => B ≤ q) s.heap H1 locs1 → W p l e R s m args below meth c H1 locs1 (cells + mc') (slots + ms') Q (F0 m (pc + 3) ls rest)) : W p l e R s m args below meth c H locs cells slots Q (F0 m pc ls st0) := by
  subst hst
  refine vx_callv (vx_runV (As := As) (rest := rest) (n := n) X.1 hM (cwV n X.1.2.2.2.2 (g_inV k1 k2 k3 k4 k5) rfl rfl rfl hdc hroom) ⟨Pw.blind, hrc, fun U hU hW => ⟨rfl, X.2.1.at hS hU hW, by rw [hU]; exact hR⟩⟩ rfl hn hml rfl (lv_room hw) hd hcel) hS (fun q _ h => h) (fun q h => h) (fun q _ h => h) (fun E ce q9 u t H1 locs1 ht hvm hp hb _ _ hS1 hce hcv hcl => ?_) (fun u t H1 locs1 ht hvm hp hb _ _ hS1 => ?_)
  · obtain ⟨E', M1⟩ := u
    obtain ⟨rfl, hb⟩ := hb
    exact kx _ M1 ce q9 H1 locs1 hp (by rw [← ht]; exact hb) hS1 hce hcv hcl
  · exact kk u H1 locs1 hp (by rw [← ht]; exact hb) hS1
theorem sw_callI {y : MethodName} {bytes : ByteArray} {maxL n idx mc' ms' : Nat} (k' : Nat) {ret' : Option FieldType} {s0 : Nat} {Cn : String} {j : Int} {As st0 : List Value} {Qm : Int → Mem → Prop} (X : CX p m c cc nL s args own G B κ meth ret) (hR : Rp G e0 α κ B M H) (hS : va_S (fun q => B ≤ q) s.heap H locs)
    (hM : XI l y (Cond.code y bytes maxL ret') k' mc' ms' G e0 α κ B (.ref (α s0 j) :: As) M Qm Xm) (k1 : Cond.methodLink own idx y ∈ gw) (k2 : Cond.instanceMethod y ∈ gw) (k3 : Cond.selects Cn y y ∈ gw) (k4 : Cond.initialized Cn ∈ gw) (k5 : Cond.code y bytes maxL ret' ∈ gw) (hdc : y.cls = Cn ∧ y.cls ≠ "java/lang/invoke/MethodHandle" ∧ y.cls ≠ "java/lang/invoke/VarHandle" ∧ (parseMethodDescriptor y.desc).map (fun d => d.parameters.length) = some n)
    (hroom : (rmX k' mc' ms').frames + 1 ≤ R.frames ∧ 8 + (maxL + 11) + (rmX k' mc' ms').locals ≤ R.locals) (hrc : ∃ cell : Cell, H[α s0 j]? = some cell ∧ cell.vm.isStatics = false ∧ s.vm.findClass Cn = some cell.cls) (hn : As.length = n) (hst : st0 = As.reverse ++ .ref (α s0 j) :: rest) (hw : (rest.map fun v => v.category).sum ≤ 8) (hml : ls.size = nL) (hd : decode cc pc = .ok (.invokevirtual idx, 3)) (hcel : cells + mc' ≤ R.cells ∧ slots + ms' ≤ R.slots)
    (kx : KX p l e R s m args below meth c G e0 α κ B Xm (cells + mc') (slots + ms') Q pc ls rest)
    (kk : ∀ (r : Int) (M1 : Mem) (H1 : Heap) (locs1 : List Loc), Qm r M1 → inR r → Rp G e0 α κ B M1 H1 → va_S (fun q => B ≤ q) s.heap H1 locs1 → W p l e R s m args below meth c H1 locs1 (cells + mc') (slots + ms') Q (F0 m (pc + 3) ls (.int (Int32.ofInt r) :: rest))) : W p l e R s m args below meth c H locs cells slots Q (F0 m pc ls st0) := by
  subst hst
  refine vx_calli (vx_runV (As := As) (rest := rest) (n := n) X.1 hM (cwV n X.1.2.2.2.2 (g_inV k1 k2 k3 k4 k5) rfl rfl rfl hdc hroom) ⟨Pw.blind, hrc, fun U hU hW => ⟨rfl, X.2.1.at hS hU hW, by rw [hU]; exact hR⟩⟩ rfl hn hml rfl (lv_room hw) hd hcel) hS (fun q _ h => h) (fun q h => h) (fun q _ h => h) (fun E ce q9 u t H1 locs1 ht hvm hp hb _ _ hS1 hce hcv hcl => ?_) (fun r u t H1 locs1 ht hvm hp hb _ _ hS1 => ?_)
  · obtain ⟨E', M1⟩ := u
    obtain ⟨rfl, hb⟩ := hb
    exact kx _ M1 ce q9 H1 locs1 hp (by rw [← ht]; exact hb) hS1 hce hcv hcl
  · obtain ⟨rfl, hx, hq⟩ := hp
    exact kk u.1 u.2 H1 locs1 hq hx (by rw [← ht]; exact hb) hS1
theorem sw_callD {y : MethodName} {bytes : ByteArray} {maxL n idx mc' ms' : Nat} (k' : Nat) {ret' : Option FieldType} {s0 : Nat} {Cn : String} {j : Int} {As st0 : List Value} {Qm : Int → (Nat → Int) → Mem → Prop} (X : CX p m c cc nL s args own G B κ meth ret) (hR : Rp G e0 α κ B M H) (hS : va_S (fun q => B ≤ q) s.heap H locs)
    (hM : XD l y (Cond.code y bytes maxL ret') k' mc' ms' G e0 α κ B (.ref (α s0 j) :: As) M Qm Xm) (k1 : Cond.methodLink own idx y ∈ gw) (k2 : Cond.instanceMethod y ∈ gw) (k3 : Cond.selects Cn y y ∈ gw) (k4 : Cond.initialized Cn ∈ gw) (k5 : Cond.code y bytes maxL ret' ∈ gw) (hdc : y.cls = Cn ∧ y.cls ≠ "java/lang/invoke/MethodHandle" ∧ y.cls ≠ "java/lang/invoke/VarHandle" ∧ (parseMethodDescriptor y.desc).map (fun d => d.parameters.length) = some n)
    (hroom : (rmX k' mc' ms').frames + 1 ≤ R.frames ∧ 8 + (maxL + 11) + (rmX k' mc' ms').locals ≤ R.locals) (hrc : ∃ cell : Cell, H[α s0 j]? = some cell ∧ cell.vm.isStatics = false ∧ s.vm.findClass Cn = some cell.cls) (hn : As.length = n) (hst : st0 = As.reverse ++ .ref (α s0 j) :: rest) (hw : (rest.map fun v => v.category).sum ≤ 8) (hml : ls.size = nL) (hd : decode cc pc = .ok (.invokevirtual idx, 3)) (hcel : cells + mc' ≤ R.cells ∧ slots + ms' ≤ R.slots)
    (kx : KX p l e R s m args below meth c G e0 α κ B Xm (cells + mc') (slots + ms') Q pc ls rest)
    (kk : ∀ (r : Int) (κ1 : Nat → Int) (α1 : Ax) (M1 : Mem) (H1 : Heap) (locs1 : List Loc), Qm r κ1 M1 → inR r → Ak α α1 → kOK κ1 → Rp G e0 α1 κ1 B M1 H1 → va_S (fun q => B ≤ q) s.heap H1 locs1 → W p l e R s m args below meth c H1 locs1 (cells + mc') (slots + ms') Q (F0 m (pc + 3) ls (.int (Int32.ofInt r) :: rest))) : W p l e R s m args below meth c H locs cells slots Q (F0 m pc ls st0) := by
  subst hst
  refine vx_calli (vx_runV (As := As) (rest := rest) (n := n) X.1 hM (cwV n X.1.2.2.2.2 (g_inV k1 k2 k3 k4 k5) rfl rfl rfl hdc hroom) ⟨Pw.blind, hrc, fun U hU hW => ⟨rfl, X.2.1.at hS hU hW, by rw [hU]; exact hR⟩⟩ rfl hn hml rfl (lv_room hw) hd hcel) hS (fun q _ h => h) (fun q h => h) (fun q _ h => h) (fun E ce q9 u t H1 locs1 ht hvm hp hb _ _ hS1 hce hcv hcl => ?_) (fun r u t H1 locs1 ht hvm hp hb _ _ hS1 => ?_)
  · obtain ⟨E', M1⟩ := u
    obtain ⟨rfl, hb⟩ := hb
    exact kx _ M1 ce q9 H1 locs1 hp (by rw [← ht]; exact hb) hS1 hce hcv hcl
  · obtain ⟨rfl, hx, hq⟩ := hp
    obtain ⟨α1, hA, hk, hR1⟩ := hb
    exact kk u.1 u.2.1 α1 u.2.2 H1 locs1 hq hx hA hk (by rw [← ht]; exact hR1) hS1
theorem sw_iret {α0 : Ax} {Qm : Int → (Nat → Int) → Mem → Prop} {r : Int} (X : CX p m c cc nL s args own G B κ meth (some .int)) (hR : Rp G e0 α κ B M H) (hS : va_S (fun q => B ≤ q) s.heap H locs) (hx : inR r) (hq : Qm r κ M) (hA : Ak α0 α) (hd : decode cc pc = .ok (.ireturn, 1)) (hmc : cells ≤ mc) (hms : slots ≤ ms) : WW p l e k mc ms s m args below meth c G e0 α0 B Qm H locs cells slots pc ls [.int (Int32.ofInt r)] :=
  W.widen hmc hms (vx_ret (W.iret X.1.1 X.1.2.1 X.2.2.2.1 (fun t ht _ => ⟨⟨_, (r, κ, M), rfl, ⟨rfl, hx, hq⟩, ⟨α, hA, X.2.2.1, by show Rp G e0 α κ B M t.heap; rw [ht]; exact hR⟩⟩, hS.F ht⟩) hS.2.2 hd X.2.2.2.2))
/-- a handler: what is thrown lies on the stack -/
theorem sw_catch {E name : String} {ce : Cell} {q : Nat} {hh pre suf : List (Nat × Nat × Nat × Nat)} {a b h ct : Nat} (X : CX p m c cc nL s args own G B κ meth ret) (hT : c.exceptionTable.toList = tableOf hh) (hs : hh = pre ++ (a, b, h, ct) :: suf) (hpass : ∀ z ∈ pre, (z.2.2.2 ≠ 0 ∧ ∃ nm : String, Cond.classLink own z.2.2.2 nm ∈ gw ∧ va_Nc E nm s)) (hx : covers ⟨a, b, h, ct⟩ pc = true) (h0 : ct ≠ 0) (hl : Cond.classLink own ct name ∈ gw) (hc : Cond.castable E name ∈ nw)
    (hcell : H[q]? = some ce) (hv : ce.vm = .none) (hcl : s.vm.findClass E = some ce.cls) (kk : W p l e R s m args below meth c H locs cells slots Q (F0 m h ls [.ref q])) : vx_W p l e R s m args below meth c H locs cells slots Q (F0 m pc ls rest) q := by
  refine vx_catch (own := own) (name := name) X.1.2.2.2.1 (tableOf pre) ⟨a, b, h, ct⟩ (tableOf suf) ?_ ?_ hx h0 (X.1.2.2.2.2 _ hl) (va_Nw.use rfl (X.2.1.2.1.1 _ hc)) hcell hv hcl kk
  · rw [hT, hs]
    simp [tableOf]
  · intro z hz
    obtain ⟨y, hy, rfl⟩ := List.mem_map.mp hz
    obtain ⟨h1, nm, h2, h3⟩ := hpass y hy
    exact Or.inr ⟨h1, nm, X.1.2.2.2.2 _ h2, h3⟩
/-- the law's row of one long -/
theorem ent_103 (j : Int) : ent G e0 α M 103 j = .inl (G.2.2.2.1, 1, .inr (.inl (fun k => (Int32.ofInt (M 103 j k)).toInt64))) := by
  unfold ent
  rw [if_neg (by omega), if_neg (by omega), if_neg (by omega), if_neg (by decide), if_neg (by decide)]
  rfl
theorem sa_lst {x : Int} (X : CX p m c cc nL s args own G B κ meth ret) (hR : Rp G e0 α κ B M H) (hS : va_S (fun q => B ≤ q) s.heap H locs) (hx : inR x) (hd : decode cc pc = .ok (.lastore, 1))
    (kk : ∀ (H1 : Heap) (locs1 : List Loc), Rp G e0 α κ B (up M 103 0 0 x) H1 → va_S (fun q => B ≤ q) s.heap H1 locs1 → W p l e R s m args below meth c H1 locs1 cells slots Q (F0 m (pc + 1) ls rest)) : W p l e R s m args below meth c H locs cells slots Q (F0 m pc ls (.long (Int32.ofInt x).toInt64 :: .int (Int32.ofInt 0) :: .ref (α 103 0) :: rest)) := by
  obtain ⟨h1, h2⟩ := inR_in (i := 0) (n := 1) (by decide) (by decide) (by decide)
  have ho : okk κ 103 0 := okf X.2.2.1 rfl
  have hq := hR.ne (s := 103) (by decide) ho
  rw [ent_103] at hq
  refine W.last X.1.1 X.1.2.1 hq ((X.2.1.1.2 2 _ rfl).1 _ (fun k : Nat => .long (Int32.ofInt (M 103 0 k)).toInt64)) (fun q => by cases q) (by show ¬ (Int32.ofInt 0 < 0 ∨ (arrV _ _ _).slots.size ≤ _); rw [arrV_size]; exact h1) rfl rfl hd fun H1 e z oq => ?_
  refine kk H1 _ (hR.put (by decide) ho hx (by decide) ?_ oq) (hS.put z oq (hR.1 103 0 (by decide) ho).2)
  rw [ent_103]
  show H1[α 103 0]? = some (vp_cell _ _)
  rw [e, vp_cell_l, vp_cell_l, arrV_store]
  congr 2
  funext q
  have h3 : (Int32.ofInt 0).toNatClampNeg = 0 := by decide
  rw [h3]
  by_cases hq : q = 0
  · subst hq
    simp [updV, up]
  · simp [updV, up, hq]
theorem sa_lld (X : CX p m c cc nL s args own G B κ meth ret) (hR : Rp G e0 α κ B M H) (hd : decode cc pc = .ok (.laload, 1))
    (kk : W p l e R s m args below meth c H locs cells slots Q (F0 m (pc + 1) ls (.long (Int32.ofInt (M 103 0 0)).toInt64 :: rest))) : W p l e R s m args below meth c H locs cells slots Q (F0 m pc ls (.int (Int32.ofInt 0) :: .ref (α 103 0) :: rest)) := by
  obtain ⟨h1, h2⟩ := inR_in (i := 0) (n := 1) (by decide) (by decide) (by decide)
  have ho : okk κ 103 0 := okf X.2.2.1 rfl
  exact va_lald X.1.1 X.1.2.1 X.2.1.1 (hR.one (by decide) ho (ent_103 0)) 0 2 rfl rfl h1 hd (by show W p l e R s m args below meth c H locs cells slots Q (F0 m (pc + 1) ls (.long (Int32.ofInt (M 103 0 ((Int32.ofInt 0).toNatClampNeg : Nat))).toInt64 :: rest)); rw [h2]; exact kk)
theorem sa_lcmp {x y : Int64} (C : CallFix p m c cc nL s args gw own) (hd : decode cc pc = .ok (.lcmp, 1)) (k : W p l e R s m args below meth c H locs cells slots Q (F0 m (pc + 1) ls (.int (if x > y then 1 else if x = y then 0 else -1) :: rest))) : W p l e R s m args below meth c H locs cells slots Q (F0 m pc ls (.long y :: .long x :: rest)) := by
  obtain ⟨hexec, hb, -⟩ := C
  intro T hT X
  obtain ⟨t, a, b⟩ := k T hT X
  refine ⟨t, ?_, b⟩
  by_cases h1 : x > y
  · rw [if_pos h1] at a
    jvm_step X.here [X.here.top, hexec, hb, hd, h1]
    exact a
  · rw [if_neg h1] at a
    by_cases h2 : x = y
    · rw [if_pos h2] at a
      subst h2
      jvm_step X.here [X.here.top, hexec, hb, hd, h1]
      exact a
    · rw [if_neg h2] at a
      jvm_step X.here [X.here.top, hexec, hb, hd, h1, h2]
      exact a
theorem i64_inj {a b : Int} (ha : inR a) (hb : inR b) (h : (Int32.ofInt a).toInt64 = (Int32.ofInt b).toInt64) : a = b := by
  have z := congrArg Int64.toInt h
  rw [Int32.toInt_toInt64, Int32.toInt_toInt64, Int32.toInt_ofInt_of_le ha.1 (by have := ha.2; omega), Int32.toInt_ofInt_of_le hb.1 (by have := hb.2; omega)] at z
  exact z
theorem sa_lcmp_eq {a b off : Int} {tgt : Nat} (C : CallFix p m c cc nL s args gw own) (ha : inR a) (hb : inR b) (hd : decode cc pc = .ok (.lcmp, 1)) (hd2 : decode cc (pc + 1) = .ok (.ifCond .eq off, 3)) (ht : ((pc + 1 : Nat) : Int) + off = (tgt : Int)) (kt : a = b → W p l e R s m args below meth c H locs cells slots Q (F0 m tgt ls rest)) (kf : ¬ a = b → W p l e R s m args below meth c H locs cells slots Q (F0 m (pc + 1 + 3) ls rest)) : W p l e R s m args below meth c H locs cells slots Q (F0 m pc ls (.long (Int32.ofInt b).toInt64 :: .long (Int32.ofInt a).toInt64 :: rest)) := by
  refine sa_lcmp C hd ?_
  by_cases h : a = b
  · subst h
    rw [if_neg (by simp), if_pos rfl]
    exact sa_if_eq (a := 0) C ⟨by decide, by decide⟩ hd2 ht (fun _ => kt rfl) (fun z => absurd rfl z)
  · rw [if_neg (c := (Int32.ofInt a).toInt64 = (Int32.ofInt b).toInt64) (fun z => h (i64_inj ha hb z))]
    by_cases h1 : (Int32.ofInt a).toInt64 > (Int32.ofInt b).toInt64
    · rw [if_pos h1]
      exact sa_if_eq (a := 1) C ⟨by decide, by decide⟩ hd2 ht (fun z => absurd z (by decide)) (fun _ => kf h)
    · rw [if_neg h1, show (-1 : Int32) = Int32.ofInt (-1) by decide]
      exact sa_if_eq (a := -1) C ⟨by decide, by decide⟩ hd2 ht (fun z => absurd z (by decide)) (fun _ => kf h)
end WP
