/-! constructors: over worlds of cells; what is new stands behind -/
def CY (p : Program) (m : MethodId) (c : Code) (cc : ByteArray) (nL : Nat) (s : State) (args : Array Value) (own : String) (G : Gx) (B : Nat) (meth : Method) : Prop :=
  CallFix p m c cc nL s args gw own ∧ EV G B s ∧ meth.sig.returnType = none ∧ meth.locks = false ∧ meth.name = "<init>"
def An (h0 sz : Nat) : Nat → Prop := fun q => q = h0 ∨ sz ≤ q
/-- the contract of a constructor on the raw thing h0 -/
def CN (l : Launch) (y : MethodName) (cd : Cond) (k mc ms : Nat) (G : Gx) (B h0 : Nat) (av : List Value) (x0 : va_E) (Out : va_W → Prop) : Prop :=
  ∀ sz, Met l y (cd :: gw) (rmX k mc ms) (va_Pc (.ref h0 :: av) (fun U => U.heap.size = sz ∧ EV G B U ∧ B ≤ h0 ∧ va_P G.1 vwCl [(h0, x0)] U.heap)) (va_Qv (fun u : va_W => Out u) (fun u t => va_P G.1 vwCl u t.heap ∧ va_D (An h0 sz) u) (An h0 sz)) mc ms (An h0 sz)
abbrev CNW (p : Program) (l : Launch) (e : Env) (k mc ms : Nat) (s : State) (m : MethodId) (args : Array Value) (below : List Frame) (meth : Method) (c : Code) (G : Gx) (h0 : Nat) (Out : va_W → Prop) (H : Heap) (locs : List Loc) (cells slots : Nat) (pc : Nat) (ls : Array Slot) (st : List Value) : Prop :=
  W p l e (rmX k mc ms) s m args below meth c H locs cells slots (MQ below (va_Qv (fun u : va_W => Out u) (fun u t => va_P G.1 vwCl u t.heap ∧ va_D (An h0 s.heap.size) u) (An h0 s.heap.size)) args s mc ms (An h0 s.heap.size)) (F0 m pc ls st)
theorem va_S.mono {A A' : Nat → Prop} {H0 H : Heap} {locs : List Loc} (h : va_S A H0 H locs) (hA : ∀ q, A q → A' q) : va_S A' H0 H locs := ⟨h.1, fun q h1 h2 => h.2.1 q h1 (fun z => h2 (hA q z)), fun q hq => hA _ (h.2.2 q hq)⟩
theorem va_P.sing {D : va_G} {cl : List vw_C} {q : Nat × va_E} {H : Heap} (h : va_at D cl q H) : va_P D cl [q] H := by
  intro k x hx
  match k, hx with
  | 0, hx => cases hx; exact h
  | k + 1, hx => simp at hx
theorem va_D.sing {A : Nat → Prop} {q : Nat × va_E} (h : A q.1) : va_D A [q] := by
  refine ⟨fun i j p r hi hj _ => ?_, fun k x hx => ?_⟩
  · have h1 : i < 1 := (List.getElem?_eq_some_iff.mp hi).1
    have h2 : j < 1 := (List.getElem?_eq_some_iff.mp hj).1
    omega
  · match k, hx with
    | 0, hx => cases hx; exact h
    | k + 1, hx => simp at hx
theorem CN.mk {l : Launch} {y : MethodName} {cc : ByteArray} {maxL k mc ms : Nat} {own : String} {G : Gx} {B h0 : Nat} {av : List Value} {lv : List (Nat × Value)} {x0 : va_E} {Out : va_W → Prop} (hy : plainName y.cls = true) (ho : y.cls = own) (hi : y.name = "<init>") (hlen : (lg_sl (.ref h0 :: av)).length ≤ maxL) (hlv : lv_args 0 (.ref h0 :: av) = lv)
    (body : ∀ (p : Program) (e : Env) (s : State) (m : MethodId) (args : Array Value) (below : List Frame) (meth : Method) (c : Code) (ls : Array Slot), CY p m c cc maxL s args own G B meth → B ≤ h0 → va_P G.1 vwCl [(h0, x0)] s.heap → va_D (An h0 s.heap.size) [(h0, x0)] → va_S (An h0 s.heap.size) s.heap s.heap [] → lv_has ls maxL lv → CNW p l e k mc ms s m args below meth c G h0 Out s.heap [] 0 0 0 ls []) :
    CN l y (Cond.code y cc maxL none) k mc ms G B h0 av x0 Out := by
  intro sz
  refine Met.ofW (cc := cc) (maxL := maxL) (ret := none) hy rfl ?_
  intro p e s m args below meth c s₁ Bd hml hv
  obtain ⟨rfl, rfl, hE, hB, hP⟩ := hv
  have hl := lv_entry (.ref h0 :: av) (n := maxL) hlen
  rw [lg_entry_eq]
  generalize (lg_sl (.ref h0 :: av) ++ List.replicate (maxL - (lg_sl (.ref h0 :: av)).length) Slot.unset).toArray = ls at hl ⊢
  rw [hlv] at hl
  exact body p e s m _ below meth c ls ⟨⟨Bd.exec, Bd.bytes, hml, by rw [← ho]; exact findClass_of_methodNamed Bd.named, fun w hw => atoms_spec (ws := Cond.code y cc maxL none :: gw) Bd.pre w (List.mem_cons_of_mem _ hw)⟩, hE, Bd.returns, Bd.notSynchronized, (name_of_methodNamed Bd.named Bd.method).1.trans hi⟩ hB hP (va_D.sing (Or.inl rfl)) va_S.rf hl
theorem CN.blind {h0 sz : Nat} {G : Gx} {B : Nat} {av : List Value} {x0 : va_E} : FrameBlind (va_Pc av (fun U => U.heap.size = sz ∧ EV G B U ∧ B ≤ h0 ∧ va_P G.1 vwCl [(h0, x0)] U.heap)) := fun a U g mk q =>
  ⟨q.1, q.2.1, ⟨va_K.moved (u := U) (U := U.calling g mk a) (Vm.Alike.refl U.vm) q.2.2.1.1, SF.to (u := U) (U := U.calling g mk a) (H1 := (U.calling g mk a).heap) q.2.2.1.2.1 (State.WarmedH.refl U) (fun _ _ _ => rfl), q.2.2.1.2.2⟩, q.2.2.2.1, q.2.2.2.2⟩
theorem g_inI {own : String} {y : MethodName} {cd : Cond} (k5 : cd ∈ gw) : GoodIn gw (cd :: gw) := by
  intro w hw
  rcases List.mem_cons.mp hw with rfl | hw
  · exact gw_in _ k5
  · exact gw_in _ hw
section CS
variable {p : Program} {l : Launch} {e : Env} {R : Room} {s : State} {m : MethodId} {args : Array Value} {below : List Frame} {meth : Method} {c : Code} {H : Heap} {locs : List Loc} {cells slots : Nat} {Q : State → Prop}
variable {cc : ByteArray} {nL : Nat} {own : String} {pc : Nat} {ls : Array Slot} {rest : List Value} {G : Gx} {B : Nat} {A : Nat → Prop} {ws : va_W}
theorem cn_vret {h0 k mc ms : Nat} {Out : va_W → Prop} {u : va_W} (Y : CY p m c cc nL s args own G B meth) (ho : Out u) (hP : va_P G.1 vwCl u H) (hD : va_D (An h0 s.heap.size) u) (hS : va_S (An h0 s.heap.size) s.heap H locs) (hmc : cells ≤ mc) (hms : slots ≤ ms) (hd : decode cc pc = .ok (.return_, 1)) :
    CNW p l e k mc ms s m args below meth c G h0 Out H locs cells slots pc ls [] :=
  W.widen hmc hms (W.vret Y.1.1 Y.1.2.1 Y.2.2.1 (fun t ht _ => ⟨⟨u, rfl, ho, by rw [ht]; exact hP, hD⟩, hS.F ht⟩) hS.2.2 hd Y.2.2.2.1)
theorem cn_obj {idx a : Nat} (C : CallFix p m c cc nL s args gw own) (k1 : Cond.methodLink own idx Lib.objectInit ∈ gw) (k2 : Cond.instanceMethod Lib.objectInit ∈ gw) (k3 : Cond.code Lib.objectInit ⟨#[0xb1]⟩ 1 none ∈ gw) (hml : ls.size = nL) (hd : decode cc pc = .ok (.invokespecial idx, 3)) (hf : 1 ≤ R.frames) (hl : (rest.map fun v => v.category).sum + 12 ≤ R.locals)
    (kk : W p l e R s m args below meth c H locs cells slots Q (F0 m (pc + 3) ls rest)) : W p l e R s m args below meth c H locs cells slots Q (F0 m pc ls (.ref a :: rest)) :=
  W.objInit C.1 C.2.1 C.2.2.2.1 (C.2.2.2.2 _ k1) (C.2.2.2.2 _ k2) (C.2.2.2.2 _ k3) rfl (by show ls.size = c.maxLocals; rw [hml]; exact C.2.2.1.symm) rfl hd hf (by show 2 * 0 + _ + 12 ≤ _; omega) kk
theorem nm_eq {cA cB : ClassId} {nm : String} {s : State} (h1 : s.vm.findClass nm = some cA) (h2 : s.vm.findClass nm = some cB) : cA = cB := Option.some.inj (h1.symm.trans h2)
theorem cn_newi {n : Int} {N : Nat} (C : CallFix p m c cc nL s args gw own) (E : EV G B s) (harr : Cond.arrayClass .int ∈ gw) (hP : va_P G.1 vwCl ws H) (hD : va_D A ws) (hS : va_S A s.heap H locs) (hA : ∀ q, s.heap.size ≤ q → A q) (hn : ¬ (Int32.ofInt n) < 0) (hN : (Int32.ofInt n).toNatClampNeg = N) (hb : N * 4 ≤ 536870912) (hcells : cells + 1 ≤ R.cells) (hslots : slots + N ≤ R.slots) (hd : decode cc pc = .ok (.newarray .int, 2))
    (kk : ∀ (q : Nat) (H1 : Heap), va_P G.1 vwCl (ws ++ [(q, .inl (G.2.1, N, .inl (fun _ => 0)))]) H1 → va_D A (ws ++ [(q, .inl (G.2.1, N, .inl (fun _ => 0)))]) → va_S A s.heap H1 locs → W p l e R s m args below meth c H1 locs (cells + 1) (slots + N) Q (F0 m (pc + 2) ls (.ref q :: rest))) : W p l e R s m args below meth c H locs cells slots Q (F0 m pc ls (.int (Int32.ofInt n) :: rest)) := by
  refine va_newa (atype := .int) (ty := .int) (a0 := (N, .inl (fun _ => 0))) (N' := N) C.1 C.2.1 (C.2.2.2.2 _ harr) rfl E.1 hP hD hS hA (fun cA => by rw [vp_cell_i]; rfl) hn hN hb hcells hslots hd (fun q cA H1 hK hP1 hD1 hS1 => ?_)
  have e : cA = G.2.1 := nm_eq (va_nm_int (hK.2 (tys G).length (cA, .int) (by simp)).2) (va_nm_int (E.1.2 0 (G.2.1, .int) rfl).2)
  subst e
  exact kk q H1 hP1 hD1 hS1
theorem cn_newz {n : Int} {N : Nat} (C : CallFix p m c cc nL s args gw own) (E : EV G B s) (harr : Cond.arrayClass .boolean ∈ gw) (hP : va_P G.1 vwCl ws H) (hD : va_D A ws) (hS : va_S A s.heap H locs) (hA : ∀ q, s.heap.size ≤ q → A q) (hn : ¬ (Int32.ofInt n) < 0) (hN : (Int32.ofInt n).toNatClampNeg = N) (hb : N * 1 ≤ 536870912) (hcells : cells + 1 ≤ R.cells) (hslots : slots + N ≤ R.slots) (hd : decode cc pc = .ok (.newarray .boolean, 2))
    (kk : ∀ (q : Nat) (H1 : Heap), va_P G.1 vwCl (ws ++ [(q, .inl (G.2.2.1, N, .inl (fun _ => 0)))]) H1 → va_D A (ws ++ [(q, .inl (G.2.2.1, N, .inl (fun _ => 0)))]) → va_S A s.heap H1 locs → W p l e R s m args below meth c H1 locs (cells + 1) (slots + N) Q (F0 m (pc + 2) ls (.ref q :: rest))) : W p l e R s m args below meth c H locs cells slots Q (F0 m pc ls (.int (Int32.ofInt n) :: rest)) := by
  refine va_newa (atype := .boolean) (ty := .boolean) (a0 := (N, .inl (fun _ => 0))) (N' := N) C.1 C.2.1 (C.2.2.2.2 _ harr) rfl E.1 hP hD hS hA (fun cA => by rw [vp_cell_i]; rfl) hn hN hb hcells hslots hd (fun q cA H1 hK hP1 hD1 hS1 => ?_)
  have e : cA = G.2.2.1 := nm_eq (va_nm_boolean (hK.2 (tys G).length (cA, .boolean) (by simp)).2) (va_nm_boolean (E.1.2 1 (G.2.2.1, .boolean) rfl).2)
  subst e
  exact kk q H1 hP1 hD1 hS1
theorem cn_newl {n : Int} {N : Nat} (C : CallFix p m c cc nL s args gw own) (E : EV G B s) (harr : Cond.arrayClass .long ∈ gw) (hP : va_P G.1 vwCl ws H) (hD : va_D A ws) (hS : va_S A s.heap H locs) (hA : ∀ q, s.heap.size ≤ q → A q) (hn : ¬ (Int32.ofInt n) < 0) (hN : (Int32.ofInt n).toNatClampNeg = N) (hb : N * 8 ≤ 536870912) (hcells : cells + 1 ≤ R.cells) (hslots : slots + N ≤ R.slots) (hd : decode cc pc = .ok (.newarray .long, 2))
    (kk : ∀ (q : Nat) (H1 : Heap), va_P G.1 vwCl (ws ++ [(q, .inl (G.2.2.2.1, N, .inr (.inl (fun _ => 0))))]) H1 → va_D A (ws ++ [(q, .inl (G.2.2.2.1, N, .inr (.inl (fun _ => 0))))]) → va_S A s.heap H1 locs → W p l e R s m args below meth c H1 locs (cells + 1) (slots + N) Q (F0 m (pc + 2) ls (.ref q :: rest))) : W p l e R s m args below meth c H locs cells slots Q (F0 m pc ls (.int (Int32.ofInt n) :: rest)) := by
  refine va_newa (atype := .long) (ty := .long) (a0 := (N, .inr (.inl (fun _ => 0)))) (N' := N) C.1 C.2.1 (C.2.2.2.2 _ harr) rfl E.1 hP hD hS hA (fun cA => by rw [vp_cell_l]; rfl) hn hN hb hcells hslots hd (fun q cA H1 hK hP1 hD1 hS1 => ?_)
  have e : cA = G.2.2.2.1 := nm_eq (va_nm_long (hK.2 (tys G).length (cA, .long) (by simp)).2) (va_nm_long (E.1.2 2 (G.2.2.2.1, .long) rfl).2)
  subst e
  exact kk q H1 hP1 hD1 hS1
/-- new: a raw thing of a class -/
theorem cn_new {ci N idx : Nat} {Cn : String} {T : u_T} {fs : List Value} (C : CallFix p m c cc nL s args gw own) (E : EV G B s) (hc : vwCl[ci]? = some (Cn, T, N)) (hin : ∀ w ∈ u_ws Cn T N, w ∈ gw) (ty : Nat → FieldType) (hty : ∀ k, k < N → parseFieldDescriptor (T k).2.2.1 = some (ty k)) (hfs : ∀ j, j < N → defaultValue (ty j) = vp_V fs j) (k1 : Cond.classLink own idx Cn ∈ gw) (k2 : Cond.instantiable Cn N ∈ gw) (k3 : Cond.initialized Cn ∈ gw)
    (hP : va_P G.1 vwCl ws H) (hD : va_D A ws) (hS : va_S A s.heap H locs) (hA : ∀ q, s.heap.size ≤ q → A q) (hcells : cells + 1 ≤ R.cells) (hslots : slots + N ≤ R.slots) (hd : decode cc pc = .ok (.new idx, 3))
    (kk : ∀ (q : Nat) (H1 : Heap), va_P G.1 vwCl (ws ++ [(q, .inr (ci, fs))]) H1 → va_D A (ws ++ [(q, .inr (ci, fs))]) → va_S A s.heap H1 locs → W p l e R s m args below meth c H1 locs (cells + 1) (slots + N) Q (F0 m (pc + 3) ls (.ref q :: rest))) : W p l e R s m args below meth c H locs cells slots Q (F0 m pc ls rest) :=
  va_new C.1 C.2.1 C.2.2.2.2 hin ty hty C.2.2.2.1 (C.2.2.2.2 _ k1) (C.2.2.2.2 _ k2) (C.2.2.2.2 _ k3) E.1 hP hD hS hA hc hfs hcells hslots hd kk
theorem cn_putF {ref Cn : String} {T : u_T} {N ci index a : Nat} (Y : CY p m c cc nL s args own G B meth) (q0 : Nat) {fs : List Value} (hin : ∀ w ∈ u_ws Cn T N, w ∈ gw) (ty0 : Nat → FieldType) (hty : ∀ k, k < N → parseFieldDescriptor (T k).2.2.1 = some (ty0 k)) (hnm : ∀ a, a < N → ∀ b, b < N → a ≠ b → (T a).2.1 ≠ (T b).2.1) (hP : va_P G.1 vwCl ws H) (hD : va_D A ws) (hS : va_S A s.heap H locs) (he : ws[q0]? = some (a, .inr (ci, fs))) (hc : vwCl[ci]? = some (Cn, T, N)) (k : Nat) (hk : k < N) (hlink : Cond.fieldLink own index ref (T k).2.1 (T k).2.2.1 ∈ gw) (href : (T k).1 = ref) (hfin : (T k).2.2.2 = true) (hdecl : (T k).1 = own) {ty : FieldType} {v : Value} (hdp : parseFieldDescriptor (T k).2.2.1 = some ty) (hn : narrow ty v = v) (hfit : fits ty v = true) (hl : k < fs.length) (hd : decode cc pc = .ok (.putfield index, 3))
    (kk : ∀ (H1 : Heap) (locs1 : List Loc), va_P G.1 vwCl (ws.set q0 (a, .inr (ci, fs.set k v))) H1 → va_D A (ws.set q0 (a, .inr (ci, fs.set k v))) → va_S A s.heap H1 locs1 → W p l e R s m args below meth c H1 locs1 cells slots Q (F0 m (pc + 3) ls rest)) : W p l e R s m args below meth c H locs cells slots Q (F0 m pc ls (v :: .ref a :: rest)) :=
  va_putF Y.1.1 Y.1.2.1 Y.1.2.2.2.2 hin ty0 hty hnm Y.1.2.2.2.1 Y.2.1.1 hP hD hS q0 he hc k hk (Y.1.2.2.2.2 _ hlink) (fun x h => by rw [← href]; exact h) hfin Y.2.2.2.2 hdecl hdp hn hfit hl hd kk
theorem cn_put {ref Cn : String} {T : u_T} {N ci index a : Nat} (Y : CY p m c cc nL s args own G B meth) (q0 : Nat) {fs : List Value} (hin : ∀ w ∈ u_ws Cn T N, w ∈ gw) (ty0 : Nat → FieldType) (hty : ∀ k, k < N → parseFieldDescriptor (T k).2.2.1 = some (ty0 k)) (hnm : ∀ a, a < N → ∀ b, b < N → a ≠ b → (T a).2.1 ≠ (T b).2.1) (hP : va_P G.1 vwCl ws H) (hD : va_D A ws) (hS : va_S A s.heap H locs) (he : ws[q0]? = some (a, .inr (ci, fs))) (hc : vwCl[ci]? = some (Cn, T, N)) (k : Nat) (hk : k < N) (hlink : Cond.fieldLink own index ref (T k).2.1 (T k).2.2.1 ∈ gw) (hsame : ∀ x, s.fieldFound? (T k).1 (T k).2.1 (T k).2.2.1 = some x → s.fieldFound? ref (T k).2.1 (T k).2.2.1 = some x) (hfin : (T k).2.2.2 = false) {ty : FieldType} {v : Value} (hdp : parseFieldDescriptor (T k).2.2.1 = some ty) (hn : narrow ty v = v) (hfit : fits ty v = true) (hl : k < fs.length) (hd : decode cc pc = .ok (.putfield index, 3))
    (kk : ∀ (H1 : Heap) (locs1 : List Loc), va_P G.1 vwCl (ws.set q0 (a, .inr (ci, fs.set k v))) H1 → va_D A (ws.set q0 (a, .inr (ci, fs.set k v))) → va_S A s.heap H1 locs1 → W p l e R s m args below meth c H1 locs1 cells slots Q (F0 m (pc + 3) ls rest)) : W p l e R s m args below meth c H locs cells slots Q (F0 m pc ls (v :: .ref a :: rest)) :=
  va_put Y.1.1 Y.1.2.1 Y.1.2.2.2.2 hin ty0 hty hnm Y.1.2.2.2.1 Y.2.1.1 hP hD hS q0 he hc k hk (Y.1.2.2.2.2 _ hlink) hsame hfin hdp hn hfit hl hd kk
theorem cn_get {ref Cn : String} {T : u_T} {N ci index a : Nat} (C : CallFix p m c cc nL s args gw own) (E : EV G B s) (q0 : Nat) {fs : List Value} {v : Value} (hin : ∀ w ∈ u_ws Cn T N, w ∈ gw) (hP : va_P G.1 vwCl ws H) (he : ws[q0]? = some (a, .inr (ci, fs))) (hc : vwCl[ci]? = some (Cn, T, N)) (k : Nat) (hk : k < N) (hlink : Cond.fieldLink own index ref (T k).2.1 (T k).2.2.1 ∈ gw) (href : (T k).1 = ref) (hv : fs[k]? = some v) (hd : decode cc pc = .ok (.getfield index, 3))
    (kk : W p l e R s m args below meth c H locs cells slots Q (F0 m (pc + 3) ls (v :: rest))) : W p l e R s m args below meth c H locs cells slots Q (F0 m pc ls (.ref a :: rest)) :=
  va_get C.1 C.2.1 C.2.2.2.2 hin C.2.2.2.1 E.1 hP q0 he hc k hk (C.2.2.2.2 _ hlink) (fun x h => by rw [← href]; exact h) hv hd kk
/-- what a constructor made stands where the raw thing stood -/
theorem cn_join {w : Nat} {x0 : va_E} {u : va_W} {H1 : Heap} (hP : va_P G.1 vwCl (ws ++ [(w, x0)]) H) (hD : va_D A (ws ++ [(w, x0)])) (hA : ∀ q, H.size ≤ q → A q) (hq : ∀ q : Nat, q < H.size → ¬ An w H.size q → H1[q]? = H[q]?) (hP1 : va_P G.1 vwCl u H1) (hD1 : va_D (An w H.size) u) : va_P G.1 vwCl (ws ++ u) H1 ∧ va_D A (ws ++ u) := by
  have hw : (ws ++ [(w, x0)])[ws.length]? = some (w, x0) := by simp
  have hl : ∀ (k : Nat) (q : Nat × va_E), ws[k]? = some q → (ws ++ [(w, x0)])[k]? = some q ∧ k < ws.length := fun k q hk => by
    have h1 : k < ws.length := (List.getElem?_eq_some_iff.mp hk).1
    exact ⟨by rw [List.getElem?_append_left h1]; exact hk, h1⟩
  have hne : ∀ (k : Nat) (q : Nat × va_E), ws[k]? = some q → q.1 ≠ w ∧ q.1 < H.size := fun k q hk => by
    obtain ⟨h1, h2⟩ := hl k q hk
    refine ⟨fun z => ?_, (hP k q h1).lt⟩
    have := hD.1 k ws.length q (w, x0) h1 hw z
    omega
  refine ⟨va_P.app (va_P.kept (H := H) (fun k q hk => hP k q (hl k q hk).1) (fun k q hk => hq _ (hne k q hk).2 (fun z => ?_))) hP1, va_D.app ⟨fun i j p q hi hj h => hD.1 i j p q (hl i p hi).1 (hl j q hj).1 h, fun k q hk => hD.2 k q (hl k q hk).1⟩ (hD1.weaken (fun k q hk h => ?_)) (fun i j p q hi hj z => ?_)⟩
  · rcases z with z | z
    · exact (hne k q hk).1 z
    · exact absurd (hne k q hk).2 (Nat.not_lt.mpr z)
  · rcases h with h | h
    · rw [h]; exact hD.2 _ _ hw
    · exact hA _ h
  · rcases hD1.2 j q hj with h | h
    · exact (hne i p hi).1 (z.trans h)
    · have := (hne i p hi).2
      omega
theorem cn_call {y : MethodName} {bytes : ByteArray} {maxL n idx k' mc' ms' w : Nat} {x0 : va_E} {As st0 : List Value} {Out' : va_W → Prop} (ws : va_W) (C : CallFix p m c cc nL s args gw own) (E : EV G B s) (hP : va_P G.1 vwCl (ws ++ [(w, x0)]) H) (hD : va_D A (ws ++ [(w, x0)])) (hS : va_S A s.heap H locs) (hA : ∀ q, s.heap.size ≤ q → A q) (hAB : ∀ q, A q → B ≤ q)
    (hM : CN l y (Cond.code y bytes maxL none) k' mc' ms' G B w As x0 Out') (k1 : Cond.methodLink own idx y ∈ gw) (k2 : Cond.instanceMethod y ∈ gw) (k4 : Cond.initialized y.cls ∈ gw) (k5 : Cond.code y bytes maxL none ∈ gw) (hy1 : y.name = "<init>") (hdc : y.cls ≠ "java/lang/invoke/MethodHandle" ∧ y.cls ≠ "java/lang/invoke/VarHandle" ∧ (parseMethodDescriptor y.desc).map (fun d => d.parameters.length) = some n)
    (hroom : (rmX k' mc' ms').frames + 1 ≤ R.frames ∧ 8 + (maxL + 11) + (rmX k' mc' ms').locals ≤ R.locals) (hn : As.length = n) (hst : st0 = As.reverse ++ .ref w :: rest) (hw : (rest.map fun v => v.category).sum ≤ 8) (hml : ls.size = nL) (hd : decode cc pc = .ok (.invokespecial idx, 3)) (hcel : cells + mc' ≤ R.cells ∧ slots + ms' ≤ R.slots)
    (kk : ∀ (u : va_W) (H1 : Heap) (locs1 : List Loc), Out' u → va_P G.1 vwCl (ws ++ u) H1 → va_D A (ws ++ u) → va_S A s.heap H1 locs1 → H.size ≤ H1.size → (∀ q : Nat, q < H.size → q ≠ w → H1[q]? = H[q]?) → W p l e R s m args below meth c H1 locs1 (cells + mc') (slots + ms') Q (F0 m (pc + 3) ls rest)) : W p l e R s m args below meth c H locs cells slots Q (F0 m pc ls st0) := by
  subst hst
  have hw1 : (ws ++ [(w, x0)])[ws.length]? = some (w, x0) := by simp
  have hAw : A w := hD.2 _ _ hw1
  refine va_callv (va_runI (As := As) (rest := rest) (n := n) C (hM H.size) (cwI n C.2.2.2.2 (g_inI (own := own) (y := y) k5) rfl rfl rfl (C.2.2.2.2 _ k4) (C.2.2.2.2 _ k1) (C.2.2.2.2 _ k2) hy1 hdc hroom) ⟨CN.blind, fun U hU hW => ⟨rfl, by rw [hU], E.at (hS.mono hAB) hU hW, hAB w hAw, by rw [hU]; exact va_P.sing (hP _ _ hw1)⟩⟩ rfl hn hml rfl (lv_room hw) hd hcel) hS (fun q h1 h2 => ?_) (fun q h => ?_) (fun u t H1 locs1 ht hvm hp hb hz hq hS1 => ?_)
  · rcases h2 with h | h
    · rw [h]; exact hAw
    · omega
  · rcases h with h | h
    · rw [h]; exact hAw
    · exact hA _ (Nat.le_trans hS.1 h)
  · obtain ⟨j1, j2⟩ := cn_join hP hD (fun q h => hA q (Nat.le_trans hS.1 h)) hq (by rw [← ht]; exact hb.1) hb.2
    refine kk u H1 locs1 hp j1 j2 hS1 hz (fun q h1 h2 => hq q h1 (fun z => ?_))
    rcases z with z | z
    · exact h2 z
    · omega
theorem cn_callN {y : MethodName} {bytes : ByteArray} {maxL n idx k' mc' ms' w : Nat} {x0 : va_E} {host : String} {As st0 : List Value} {Out' : va_W → Prop} (ws : va_W) (C : CallFix p m c cc nL s args gw own) (E : EV G B s) (hP : va_P G.1 vwCl (ws ++ [(w, x0)]) H) (hD : va_D A (ws ++ [(w, x0)])) (hS : va_S A s.heap H locs) (hA : ∀ q, s.heap.size ≤ q → A q) (hAB : ∀ q, A q → B ≤ q)
    (hM : CN l y (Cond.code y bytes maxL none) k' mc' ms' G B w As x0 Out') (k1 : Cond.methodLinkNest own idx y host ∈ nw) (k2 : Cond.instanceMethod y ∈ gw) (k4 : Cond.initialized y.cls ∈ gw) (k5 : Cond.code y bytes maxL none ∈ gw) (hy1 : y.name = "<init>") (hdc : y.cls ≠ "java/lang/invoke/MethodHandle" ∧ y.cls ≠ "java/lang/invoke/VarHandle" ∧ (parseMethodDescriptor y.desc).map (fun d => d.parameters.length) = some n)
    (hroom : (rmX k' mc' ms').frames + 1 ≤ R.frames ∧ 8 + (maxL + 11) + (rmX k' mc' ms').locals ≤ R.locals) (hn : As.length = n) (hst : st0 = As.reverse ++ .ref w :: rest) (hw : (rest.map fun v => v.category).sum ≤ 8) (hml : ls.size = nL) (hd : decode cc pc = .ok (.invokespecial idx, 3)) (hcel : cells + mc' ≤ R.cells ∧ slots + ms' ≤ R.slots)
    (kk : ∀ (u : va_W) (H1 : Heap) (locs1 : List Loc), Out' u → va_P G.1 vwCl (ws ++ u) H1 → va_D A (ws ++ u) → va_S A s.heap H1 locs1 → H.size ≤ H1.size → (∀ q : Nat, q < H.size → q ≠ w → H1[q]? = H[q]?) → W p l e R s m args below meth c H1 locs1 (cells + mc') (slots + ms') Q (F0 m (pc + 3) ls rest)) : W p l e R s m args below meth c H locs cells slots Q (F0 m pc ls st0) := by
  subst hst
  have hw1 : (ws ++ [(w, x0)])[ws.length]? = some (w, x0) := by simp
  have hAw : A w := hD.2 _ _ hw1
  refine va_callv (va_runIN (As := As) (rest := rest) (n := n) C (hM H.size) ⟨va_cnB n C.2.2.2.2 (g_inI (own := own) (y := y) k5) rfl rfl rfl (E.2.1.1 _ k1) (C.2.2.2.2 _ k4) hdc hroom, hy1, C.2.2.2.2 _ k2⟩ ⟨CN.blind, fun U hU hW => ⟨rfl, by rw [hU], E.at (hS.mono hAB) hU hW, hAB w hAw, by rw [hU]; exact va_P.sing (hP _ _ hw1)⟩⟩ rfl hn hml rfl (lv_room hw) hd hcel) hS (fun q h1 h2 => ?_) (fun q h => ?_) (fun u t H1 locs1 ht hvm hp hb hz hq hS1 => ?_)
  · rcases h2 with h | h
    · rw [h]; exact hAw
    · omega
  · rcases h with h | h
    · rw [h]; exact hAw
    · exact hA _ (Nat.le_trans hS.1 h)
  · obtain ⟨j1, j2⟩ := cn_join hP hD (fun q h => hA q (Nat.le_trans hS.1 h)) hq (by rw [← ht]; exact hb.1) hb.2
    refine kk u H1 locs1 hp j1 j2 hS1 hz (fun q h1 h2 => hq q h1 (fun z => ?_))
    rcases z with z | z
    · exact h2 z
    · omega
end CS
