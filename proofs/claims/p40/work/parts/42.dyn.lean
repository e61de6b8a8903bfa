/-! methods that make things: the addresses and how many there are come out anew -/
/-- the law's own things stay where they are -/
def Ak (α α' : Ax) : Prop := ∀ s : Nat, s = 10 ∨ s = 11 ∨ 103 ≤ s → α' s 0 = α s 0
theorem Ak.rf {α : Ax} : Ak α α := fun _ _ => rfl
theorem Ak.up {α α' : Ax} (h : Ak α α') {s : Nat} {j : Int} {q : Nat} (hs : s < 10 ∨ (11 < s ∧ s < 103)) : Ak α (upA α' s j q) := fun t ht => by
  rw [upA_s _ _ _ (by omega)]
  exact h t ht
theorem Ak.tr {α α1 α2 : Ax} (h : Ak α α1) (h2 : Ak α1 α2) : Ak α α2 := fun t ht => (h2 t ht).trans (h t ht)
def QD (G : Gx) (e0 : Nat) (α : Ax) (B : Nat) (Qm : Int → (Nat → Int) → Mem → Prop) : Array Value → State → Outcome → State → Prop :=
  va_Qi (fun r (u : Int × ((Nat → Int) × Mem)) => r = Int32.ofInt u.1 ∧ inR u.1 ∧ Qm u.1 u.2.1 u.2.2) (fun u U => ∃ α' : Ax, Ak α α' ∧ kOK u.2.1 ∧ Rp G e0 α' u.2.1 B u.2.2 U.heap) (fun q => B ≤ q)
def DI (l : Launch) (y : MethodName) (cd : Cond) (n mc ms : Nat) (G : Gx) (e0 : Nat) (α : Ax) (κ : Nat → Int) (B : Nat) (av : List Value) (M : Mem) (Qm : Int → (Nat → Int) → Mem → Prop) : Prop :=
  Met l y (cd :: gw) (rmX n mc ms) (va_Pc av (Pw G e0 α κ B M)) (QD G e0 α B Qm) mc ms (fun q => B ≤ q)
def XD (l : Launch) (y : MethodName) (cd : Cond) (n mc ms : Nat) (G : Gx) (e0 : Nat) (α : Ax) (κ : Nat → Int) (B : Nat) (av : List Value) (M : Mem) (Qm : Int → (Nat → Int) → Mem → Prop) (Xm : String → Mem → Prop) : Prop :=
  vx_Met l y (cd :: gw) (rmX n mc ms) (va_Pc av (Pw G e0 α κ B M)) (QD G e0 α B Qm) (XQ G e0 α κ B Xm) mc ms (fun q => B ≤ q)
abbrev WD (p : Program) (l : Launch) (e : Env) (k mc ms : Nat) (s : State) (m : MethodId) (args : Array Value) (below : List Frame) (meth : Method) (c : Code) (G : Gx) (e0 : Nat) (α : Ax) (B : Nat) (Qm : Int → (Nat → Int) → Mem → Prop) (H : Heap) (locs : List Loc) (cells slots : Nat) (pc : Nat) (ls : Array Slot) (st : List Value) : Prop :=
  W p l e (rmX k mc ms) s m args below meth c H locs cells slots (MQ below (QD G e0 α B Qm) args s mc ms (fun q => B ≤ q)) (F0 m pc ls st)
abbrev WXD (p : Program) (l : Launch) (e : Env) (k mc ms : Nat) (s : State) (m : MethodId) (args : Array Value) (below : List Frame) (meth : Method) (c : Code) (G : Gx) (e0 : Nat) (α : Ax) (κ : Nat → Int) (B : Nat) (Qm : Int → (Nat → Int) → Mem → Prop) (Xm : String → Mem → Prop) (H : Heap) (locs : List Loc) (cells slots : Nat) (pc : Nat) (ls : Array Slot) (st : List Value) : Prop :=
  W p l e (rmX k mc ms) s m args below meth c H locs cells slots (vx_MQ below (QD G e0 α B Qm) (XQ G e0 α κ B Xm) args s mc ms (fun q => B ≤ q)) (F0 m pc ls st)
theorem DI.mk {l : Launch} {y : MethodName} {cc : ByteArray} {maxL k mc ms : Nat} {ret : Option FieldType} {own : String} {G : Gx} {e0 : Nat} {α : Ax} {κ : Nat → Int} {B : Nat} {av : List Value} {lv : List (Nat × Value)} {M : Mem} {Qm : Int → (Nat → Int) → Mem → Prop} (hκ : kOK κ) (hy : plainName y.cls = true) (ho : y.cls = own) (hlen : (lg_sl av).length ≤ maxL) (hlv : lv_args 0 av = lv)
    (body : ∀ (p : Program) (e : Env) (s : State) (m : MethodId) (args : Array Value) (below : List Frame) (meth : Method) (c : Code) (ls : Array Slot), CX p m c cc maxL s args own G B κ meth ret → Rp G e0 α κ B M s.heap → va_S (fun q => B ≤ q) s.heap s.heap [] → lv_has ls maxL lv → WD p l e k mc ms s m args below meth c G e0 α B Qm s.heap [] 0 0 0 ls []) :
    DI l y (Cond.code y cc maxL ret) k mc ms G e0 α κ B av M Qm := by
  refine Met.ofW (cc := cc) (maxL := maxL) (ret := ret) hy rfl ?_
  intro p e s m args below meth c s₁ Bd hml hv
  obtain ⟨rfl, hE, hR⟩ := hv
  have hl := lv_entry av (n := maxL) hlen
  rw [lg_entry_eq]
  generalize (lg_sl av ++ List.replicate (maxL - (lg_sl av).length) Slot.unset).toArray = ls at hl ⊢
  rw [hlv] at hl
  exact body p e s m _ below meth c ls ⟨⟨Bd.exec, Bd.bytes, hml, by rw [← ho]; exact findClass_of_methodNamed Bd.named, fun w hw => atoms_spec (ws := Cond.code y cc maxL ret :: gw) Bd.pre w (List.mem_cons_of_mem _ hw)⟩, hE, hκ, Bd.returns, Bd.notSynchronized⟩ hR va_S.rf hl
theorem XD.mk {l : Launch} {y : MethodName} {cc : ByteArray} {maxL k mc ms : Nat} {ret : Option FieldType} {own : String} {G : Gx} {e0 : Nat} {α : Ax} {κ : Nat → Int} {B : Nat} {av : List Value} {lv : List (Nat × Value)} {M : Mem} {Qm : Int → (Nat → Int) → Mem → Prop} {Xm : String → Mem → Prop} (hlt : l.stackTraces = false) (hκ : kOK κ) (hy : plainName y.cls = true) (ho : y.cls = own) (hlen : (lg_sl av).length ≤ maxL) (hlv : lv_args 0 av = lv)
    (body : ∀ (p : Program) (e : Env) (s : State) (m : MethodId) (args : Array Value) (below : List Frame) (meth : Method) (c : Code) (ls : Array Slot), CX p m c cc maxL s args own G B κ meth ret → XT l c → Rp G e0 α κ B M s.heap → va_S (fun q => B ≤ q) s.heap s.heap [] → lv_has ls maxL lv → WXD p l e k mc ms s m args below meth c G e0 α κ B Qm Xm s.heap [] 0 0 0 ls []) :
    XD l y (Cond.code y cc maxL ret) k mc ms G e0 α κ B av M Qm Xm := by
  refine vx_ofW (cc := cc) (maxL := maxL) (ret := ret) hy rfl ?_
  intro p e s m args below meth c s₁ Bd hml hT hv
  obtain ⟨rfl, hE, hR⟩ := hv
  have hl := lv_entry av (n := maxL) hlen
  rw [lg_entry_eq]
  generalize (lg_sl av ++ List.replicate (maxL - (lg_sl av).length) Slot.unset).toArray = ls at hl ⊢
  rw [hlv] at hl
  exact body p e s m _ below meth c ls ⟨⟨Bd.exec, Bd.bytes, hml, by rw [← ho]; exact findClass_of_methodNamed Bd.named, fun w hw => atoms_spec (ws := Cond.code y cc maxL ret :: gw) Bd.pre w (List.mem_cons_of_mem _ hw)⟩, hE, hκ, Bd.returns, Bd.notSynchronized⟩ ⟨hlt, hT⟩ hR va_S.rf hl
theorem n_size {l : Launch} {G : Gx} {B a bb sz : Nat} {mo z : Int} : Met l yJx4a65c_size_8abf5 (Cond.code yJx4a65c_size_8abf5 cJx4a65c_size_8abf5 1 (some .int) :: gw) (rmX 1 0 0) (PcA [.ref a] sz G B (fun _ H => va_P G.1 vwCl [(a, liE mo bb z)] H)) (va_Qi (fun r (_ : Unit) => r = Int32.ofInt z) (fun _ _ => True) (fun _ => False)) 0 0 (fun _ => False) :=
  AM.mk (by decide +kernel) rfl (Nat.le_of_ble_eq_true rfl) (lv := [(0, .ref a)]) rfl (fun p e s m args below meth c ls C E hz hr hlk hP hl => by
    have hS : va_S (fun _ => False) s.heap s.heap [] := va_S.rf
    refine lv_aload_n C.1 C.2.1 dJx4a65c_size_8abf5_0 rfl (lv_at hl 0 rfl) ?_
    refine cn_get C E 0 gf_Jx4a65c hP rfl rfl 2 (by decide) kw_101 rfl rfl dJx4a65c_size_8abf5_1 ?_
    exact W.iret C.1 C.2.1 hr (fun t ht _ => ⟨⟨_, (), rfl, rfl, trivial⟩, hS.F ht⟩) hS.2.2 dJx4a65c_size_8abf5_4 hlk)
theorem two_P {D : va_G} {cl : List vw_C} {x y : Nat × va_E} {H : Heap} (h1 : va_at D cl x H) (h2 : va_at D cl y H) : va_P D cl [x, y] H := by
  intro k q hk
  match k, hk with
  | 0, hk => cases hk; exact h1
  | 1, hk => cases hk; exact h2
  | k + 2, hk => simp at hk
theorem two_D {A : Nat → Prop} {x y : Nat × va_E} (hn : x.1 ≠ y.1) (h1 : A x.1) (h2 : A y.1) : va_D A [x, y] := by
  refine ⟨fun i j p q hi hj e => ?_, fun k q hk => ?_⟩
  · match i, j, hi, hj with
    | 0, 0, _, _ => rfl
    | 1, 1, _, _ => rfl
    | 0, 1, hi, hj => cases hi; cases hj; exact absurd e hn
    | 1, 0, hi, hj => cases hi; cases hj; exact absurd e.symm hn
    | i + 2, _, hi, _ => simp at hi
    | 0, j + 2, _, hj => simp at hj
    | 1, j + 2, _, hj => simp at hj
  · match k, hk with
    | 0, hk => cases hk; exact h1
    | 1, hk => cases hk; exact h2
    | k + 2, hk => simp at hk
section DY
variable {p : Program} {l : Launch} {e : Env} {R : Room} {s : State} {m : MethodId} {args : Array Value} {below : List Frame} {meth : Method} {c : Code} {H : Heap} {locs : List Loc} {cells slots mc ms k : Nat} {Q : State → Prop}
variable {cc : ByteArray} {nL : Nat} {own : String} {pc : Nat} {ls : Array Slot} {rest : List Value} {G : Gx} {e0 : Nat} {α : Ax} {κ : Nat → Int} {B : Nat} {M : Mem} {ret : Option FieldType}
/-- size of a list, while things stand by that are not yet in the memory -/
theorem ls_sizeF {L idx : Nat} (h1 : 12 ≤ L) (h2 : L < 18) (X : CX p m c cc nL s args own G B κ meth ret) (hRr : RmOK R 2) (hcel : cells ≤ R.cells ∧ slots ≤ R.slots) (hR : va_at G.1 vwCl (α L 0, ent G e0 α M L 0) H) (hS : va_S (fun q => B ≤ q) s.heap H locs) (k1 : Cond.methodLink own idx yJx4a65c_size_8abf5 ∈ gw) (hml : ls.size = nL) (hd : decode cc pc = .ok (.invokevirtual idx, 3)) (hrest : (rest.map fun v => v.category).sum ≤ 8)
    (kk : ∀ (H1 : Heap) (locs1 : List Loc), H.size ≤ H1.size → (∀ q : Nat, q < H.size → H1[q]? = H[q]?) → va_S (fun q => B ≤ q) s.heap H1 locs1 → W p l e R s m args below meth c H1 locs1 cells slots Q (F0 m (pc + 3) ls (.int (Int32.ofInt (M L 0 (-1))) :: rest))) : W p l e R s m args below meth c H locs cells slots Q (F0 m pc ls (.ref (α L 0) :: rest)) := by
  rw [ent_l h1 h2] at hR
  refine am_callVI (n := 0) (As := []) (rest := rest) (k' := 1) (mc' := 0) (ms' := 0) (S := Unit) (post := fun r _ => r = Int32.ofInt (M L 0 (-1))) (Bq := fun _ _ => True) (A := fun q => B ≤ q) (A1 := fun _ => False) X.1 X.2.1 hS (fun q h => h) (fun q h => False.elim h) n_size (fun vm hv => va_P.sing hR) k1 kw_390 kw_391 kw_42 kw_392 ⟨rfl, by decide +kernel, by decide +kernel, by decide +kernel⟩ ⟨hRr.1, ?_⟩ (va_recv X.2.1.1 (va_P.sing hR) (q0 := 0) (ci := 0) (q := (RJx4a65c, TJx4a65c, 3)) rfl rfl) rfl rfl hrest hml hd hcel (fun r u H1 locs1 hr _ hz hk hS1 => ?_)
  · have := hRr.2
    show 8 + (1 + 11) + 38 * 1 ≤ R.locals
    omega
  · subst hr
    exact kk H1 locs1 hz (fun q hq => hk q hq (fun h => h)) hS1
/-- new, with what stays -/
theorem cn_newF {ci N idx : Nat} {Cn : String} {T : u_T} {fs : List Value} (C : CallFix p m c cc nL s args gw own) (E : EV G B s) (hc : vwCl[ci]? = some (Cn, T, N)) (ty : Nat → FieldType) (hty : ∀ k, k < N → parseFieldDescriptor (T k).2.2.1 = some (ty k)) (hin : ∀ w ∈ u_ws Cn T N, w ∈ gw) (hfs : ∀ j, j < N → defaultValue (ty j) = vp_V fs j) (k1 : Cond.classLink own idx Cn ∈ gw) (k2 : Cond.instantiable Cn N ∈ gw) (k3 : Cond.initialized Cn ∈ gw)
    (hS : va_S (fun q => B ≤ q) s.heap H locs) (hcells : cells + 1 ≤ R.cells) (hslots : slots + N ≤ R.slots) (hd : decode cc pc = .ok (.new idx, 3))
    (kk : ∀ (H1 : Heap), va_at G.1 vwCl (H.size, .inr (ci, fs)) H1 → H1.size = H.size + 1 → (∀ q : Nat, q < H.size → H1[q]? = H[q]?) → va_S (fun q => B ≤ q) s.heap H1 locs → W p l e R s m args below meth c H1 locs (cells + 1) (slots + N) Q (F0 m (pc + 3) ls (.ref H.size :: rest))) : W p l e R s m args below meth c H locs cells slots Q (F0 m pc ls rest) := by
  have hKn := E.1.1 ci _ hc
  refine W.newcK C.1 C.2.1 C.2.2.2.1 (C.2.2.2.2 _ k1) (C.2.2.2.2 _ k2) (C.2.2.2.2 _ k3) rfl hd hcells hslots hKn.2.1 rfl fun H1 kC hkC e1 z1 o1 => ?_
  exact kk H1 ⟨_, hc, (u_born ty C.2.2.2.2 hin hKn hkC e1 hty).to hfs⟩ z1 o1 ⟨Nat.le_trans hS.1 (by omega), fun x h1 h2 => (o1 x (Nat.lt_of_lt_of_le h1 hS.1)).trans (hS.2.1 x h1 h2), hS.2.2⟩
/-- a constructor on what is behind all, with what stays -/
theorem cn_callF {y : MethodName} {bytes : ByteArray} {maxL n idx k' mc' ms' w : Nat} {x0 : va_E} {As st0 : List Value} {Out' : va_W → Prop} (C : CallFix p m c cc nL s args gw own) (E : EV G B s) (hP : va_at G.1 vwCl (w, x0) H) (hBw : B ≤ w) (hS : va_S (fun q => B ≤ q) s.heap H locs)
    (hM : CN l y (Cond.code y bytes maxL none) k' mc' ms' G B w As x0 Out') (k1 : Cond.methodLink own idx y ∈ gw) (k2 : Cond.instanceMethod y ∈ gw) (k4 : Cond.initialized y.cls ∈ gw) (k5 : Cond.code y bytes maxL none ∈ gw) (hy1 : y.name = "<init>") (hdc : y.cls ≠ "java/lang/invoke/MethodHandle" ∧ y.cls ≠ "java/lang/invoke/VarHandle" ∧ (parseMethodDescriptor y.desc).map (fun d => d.parameters.length) = some n)
    (hroom : (rmX k' mc' ms').frames + 1 ≤ R.frames ∧ 8 + (maxL + 11) + (rmX k' mc' ms').locals ≤ R.locals) (hn : As.length = n) (hst : st0 = As.reverse ++ .ref w :: rest) (hw : (rest.map fun v => v.category).sum ≤ 8) (hml : ls.size = nL) (hd : decode cc pc = .ok (.invokespecial idx, 3)) (hcel : cells + mc' ≤ R.cells ∧ slots + ms' ≤ R.slots)
    (kk : ∀ (u : va_W) (H1 : Heap) (locs1 : List Loc), Out' u → va_P G.1 vwCl u H1 → va_D (An w H.size) u → H.size ≤ H1.size → (∀ q : Nat, q < H.size → q ≠ w → H1[q]? = H[q]?) → va_S (fun q => B ≤ q) s.heap H1 locs1 → W p l e R s m args below meth c H1 locs1 (cells + mc') (slots + ms') Q (F0 m (pc + 3) ls rest)) : W p l e R s m args below meth c H locs cells slots Q (F0 m pc ls st0) := by
  subst hst
  have hAB : ∀ q, An w H.size q → B ≤ q := fun q h => h.elim (fun z => z ▸ hBw) (fun z => Nat.le_trans (Nat.le_trans E.2.2 hS.1) z)
  refine va_callv (va_runI (As := As) (rest := rest) (n := n) C (hM H.size) (cwI n C.2.2.2.2 (g_inI (own := own) (y := y) k5) rfl rfl rfl (C.2.2.2.2 _ k4) (C.2.2.2.2 _ k1) (C.2.2.2.2 _ k2) hy1 hdc hroom) ⟨CN.blind, fun U hU hW => ⟨rfl, by rw [hU], E.at hS hU hW, hBw, by rw [hU]; exact va_P.sing hP⟩⟩ rfl hn hml rfl (lv_room hw) hd hcel) hS (fun q _ h => hAB q h) hAB (fun u t H1 locs1 ht hvm hp hb hz hq hS1 => ?_)
  exact kk u H1 locs1 hp (by rw [← ht]; exact hb.1) hb.2 hz (fun q h1 h2 => hq q h1 (fun z => z.elim h2 (fun y => by omega))) hS1
theorem ls_add {L idx aa vv : Nat} {Cn : String} {v : Int} (h1 : 12 ≤ L) (h2 : L < 18) (hca : Cond.castable Cn "java/lang/Object" ∈ nw) (he0 : e0 = G.2.2.2.2.2) (X : CX p m c cc nL s args own G B κ meth ret) (hR : Rp G e0 α κ B M H) (hel : ∀ j, okk κ (lcl L) j → ∃ cell : Cell, H[α (lcl L) j]? = some cell ∧ cell.vm.isStatics = false ∧ s.vm.findClass Cn = some cell.cls) (hvv : vv = α (lcl L) v) (haa : aa = α L 0) (hv : okk κ (lcl L) v) (hvR : inR v) (hmo : inR (M L 0 (-2) + 1)) (hcap : capN (M L 0 (-1)) (M (L + 6) 0 (-1)) ≤ 1000) (hRr : RmOK R 7) (hcel : cells + 1 ≤ R.cells ∧ slots + 1000 ≤ R.slots) (hS : va_S (fun q => B ≤ q) s.heap H locs) (k1 : Cond.methodLink own idx yJx4a65c_add_9ea2d ∈ gw) (hml : ls.size = nL) (hd : decode cc pc = .ok (.invokevirtual idx, 3)) (hrest : (rest.map fun v => v.category).sum ≤ 8)
    (kk : ∀ (q : Nat) (H1 : Heap) (locs1 : List Loc), kOK (kad κ (L + 6)) → Rp G e0 (upA α (L + 6) 0 q) (kad κ (L + 6)) B (adM M L v) H1 → va_S (fun q => B ≤ q) s.heap H1 locs1 → W p l e R s m args below meth c H1 locs1 (cells + 1) (slots + 1000) Q (F0 m (pc + 3) ls (.int (Int32.ofInt 1) :: rest))) : W p l e R s m args below meth c H locs cells slots Q (F0 m pc ls (.ref vv :: .ref aa :: rest)) := by
  subst hvv haa
  obtain ⟨r1, r2, r3, r4, r5⟩ := id hR
  obtain ⟨z0, z1, z2, z3, z4⟩ := r5 L h1 h2
  obtain ⟨z, hz⟩ : ∃ z : Nat, M L 0 (-1) = (z : Int) := ⟨(M L 0 (-1)).toNat, by omega⟩
  obtain ⟨n, hn⟩ : ∃ n : Nat, M (L + 6) 0 (-1) = (n : Int) := ⟨(M (L + 6) 0 (-1)).toNat, by omega⟩
  have hBH : B ≤ H.size := Nat.le_trans X.2.1.2.2 hS.1
  have hLk := okl X.2.2.1 h1 h2
  have hBa : B ≤ α L 0 := (r1 L 0 (ns_l h2) hLk).2
  have hlc6 : lcl L ≠ L := by rcases lcl_3 L with y | y | y <;> rw [y] <;> omega
  have hlc7 : lcl L ≠ L + 6 := by rcases lcl_3 L with y | y | y <;> rw [y] <;> omega
  have hlcN : lcl L < NS := by rcases lcl_3 L with y | y | y <;> rw [y] <;> decide
  have fin : ∀ (N b bb : Nat) (g : Nat → Option Nat) (W1 : va_W) (Pq : Nat → Nat → Prop),
      AdC l yJx4a65c_add_9ea2d (Cond.code yJx4a65c_add_9ea2d cJx4a65c_add_9ea2d 2 (some .boolean)) 6 [.ref (α L 0), .ref (α (lcl L) v)] G B (α L 0) b (M L 0 (-2)) (M L 0 (-2) + 1) bb (z : Int) W1 Cn (fun y => ∃ j, okk κ (lcl L) j ∧ y = α (lcl L) j) N g (α (lcl L) v) Pq QtI →
      (N : Int) = capN (M L 0 (-1)) (M (L + 6) 0 (-1)) → (∀ k : Nat, g k = if (k : Int) < M L 0 (-1) then some (α (lcl L) (M L 0 k)) else none) → (∀ q, Pq H.size q → (M (L + 6) 0 (-1) ≠ 0 ∧ q = α (L + 6) 0) ∨ H.size ≤ q) →
      ((M (L + 6) 0 (-1) = 0 ∧ b = α L 0) ∨ (M (L + 6) 0 (-1) ≠ 0 ∧ b = α (L + 6) 0)) → B ≤ b → va_P G.1 vwCl ((α L 0, liE (M L 0 (-2)) bb (z : Int)) :: W1) H → va_D (fun q => q = α L 0 ∨ q = b) ((α L 0, liE (M L 0 (-2)) bb (z : Int)) :: W1) →
      W p l e R s m args below meth c H locs cells slots Q (F0 m pc ls (.ref (α (lcl L) v) :: .ref (α L 0) :: rest)) := by
    intro N b bb g W1 Pq hM hN hg hq hb hBb hP hD
    have hEl : ElC Cn (An2 (α L 0) b H.size) (fun y => ∃ j, okk κ (lcl L) j ∧ y = α (lcl L) j) s.vm H := by
      rintro y ⟨j, hj, rfl⟩
      refine ⟨fun hA => ?_, hel j hj⟩
      rcases hA with e | e | e
      · exact hlc6 (r2 _ _ _ _ hlcN hj (ns_l h2) hLk e).1
      · rcases hb with ⟨-, b2⟩ | ⟨b1, b2⟩
        · rw [b2] at e
          exact hlc6 (r2 _ _ _ _ hlcN hj (ns_l h2) hLk e).1
        · rw [b2] at e
          exact hlc7 (r2 _ _ _ _ hlcN hj (ns_e h2) (oke hR h1 h2 b1) e).1
      · have : α (lcl L) j < H.size := (r1 _ _ hlcN hj).1.lt
        omega
    refine am_callVI (n := 1) (As := [.ref (α (lcl L) v)]) (rest := rest) (A := fun q => B ≤ q) (A1 := An2 (α L 0) b H.size) X.1 X.2.1 hS (fun q h => h) (fun q h => h.elim (fun y => y ▸ hBa) (fun y => y.elim (fun x => x ▸ hBb) (fun x => Nat.le_trans hBH x))) (hM H.size) (fun vm hv => ⟨hBa, hBb, hP, hD, hEl.at hv (fun q h => h) (fun q h => h)⟩) k1 kw_802 kw_803 kw_42 kw_804 ⟨rfl, by decide +kernel, by decide +kernel, by decide +kernel⟩ ⟨hRr.1, ?_⟩ (va_recv X.2.1.1 hP (q0 := 0) (ci := 0) (q := (RJx4a65c, TJx4a65c, 3)) rfl rfl) rfl rfl hrest hml hd hcel (fun r q H1 locs1 hr hq1 hz1 hk hS1 => ?_)
    · have := hRr.2
      show 8 + (2 + 11) + 38 * 6 ≤ R.locals
      omega
    · subst hr
      obtain ⟨p1, p2, p3⟩ := hq1
      rw [← hz] at p2
      obtain ⟨w1, w2⟩ := Rp.add h1 h2 X.2.2.1 hR hBH hv hvR hmo hN (by omega) hg p2 (hq q p1) hb hk
      exact kk q H1 locs1 w2 w1 hS1
  have hl := (r1 L 0 (ns_l h2) hLk).1
  rw [ent_l h1 h2] at hl
  by_cases hc : M (L + 6) 0 (-1) = 0
  · rw [if_pos hc, he0] at hl
    have hz0 : z = 0 := by omega
    subst hz0
    rw [hz] at hl
    refine fin 10 (α L 0) G.2.2.2.2.2 (fun _ => none) [] (fun sz q => sz ≤ q) (n_add (fun _ _ _ a b => Nat.le_trans a b) (n_ad3g (z := 0) hca (Or.inl ⟨rfl, rfl, rfl⟩) (by decide) (by decide) ⟨v, hv, rfl⟩ (n_gr n_grI0))) ?_ (fun k => ?_) (fun q h => Or.inr h) (Or.inl ⟨hc, rfl⟩) hBa (va_P.sing hl) (va_D.sing (Or.inl rfl))
    · unfold capN
      rw [hc, hz]
      rfl
    · rw [if_neg (by omega)]
  · rw [if_neg hc, hz] at hl
    have hoe := oke hR h1 h2 hc
    have hq := (r1 (L + 6) 0 (ns_e h2) hoe)
    have hqa := hq.1
    rw [ent_e h1 h2, hn] at hqa
    have hne : α L 0 ≠ α (L + 6) 0 := fun y => by
      have := (r2 _ _ _ _ (ns_l h2) hLk (ns_e h2) hoe y).1
      omega
    by_cases hzn : z < n
    · refine fin n (α (L + 6) 0) (α (L + 6) 0) (fun k => if (k : Int) < M L 0 (-1) then some (α (lcl L) (M L 0 k)) else none) [(α (L + 6) 0, arE G n (fun k => if (k : Int) < M L 0 (-1) then some (α (lcl L) (M L 0 k)) else none))] (fun _ q => q = α (L + 6) 0) (n_add (fun _ _ _ _ b => b) (n_ad3r hca hzn (by omega) ⟨v, hv, rfl⟩)) ?_ (fun k => rfl) (fun q h => Or.inl ⟨hc, h⟩) (Or.inr ⟨hc, rfl⟩) hq.2 (two_P hl hqa) (two_D hne (Or.inl rfl) (Or.inr rfl))
      unfold capN
      rw [if_pos (by omega), hn]
    · have hzn2 : n = z := by omega
      subst hzn2
      have hcapE : capN (M L 0 (-1)) (M (L + 6) 0 (-1)) = ((n + max 1 (n / 2) : Nat) : Int) := by
        unfold capN
        rw [if_neg (by omega), if_neg hc, hn]
        omega
      refine fin (n + max 1 (n / 2)) (α (L + 6) 0) (α (L + 6) 0) (va_cpy (fun k : Nat => if (k : Int) < M L 0 (-1) then some (α (lcl L) (M L 0 k)) else none) (fun _ => none) 0 0 n) [(α (L + 6) 0, arE G n (fun k => if (k : Int) < M L 0 (-1) then some (α (lcl L) (M L 0 k)) else none))] (fun sz q => sz ≤ q) (n_add (fun _ _ _ a b => Nat.le_trans a b) (n_ad3g hca (Or.inr ⟨_, rfl⟩) (by omega) (by omega) ⟨v, hv, rfl⟩ (n_gr (n_grI1 hca (by omega) (by omega) (fun i hi y hy => ?_))))) hcapE.symm (fun k => ?_) (fun q h => Or.inr h) (Or.inr ⟨hc, rfl⟩) hq.2 (two_P hl hqa) (two_D hne (Or.inl rfl) (Or.inr rfl))
      · have hi2 : (i : Int) < M L 0 (-1) := by omega
        rw [if_pos hi2] at hy
        exact ⟨_, z3 i (by omega) hi2, (Option.some.inj hy).symm⟩
      · unfold va_cpy
        by_cases hk : (k : Int) < M L 0 (-1)
        · rw [if_pos (by omega)]
          show (if ((0 + (k - 0) : Nat) : Int) < M L 0 (-1) then some (α (lcl L) (M L 0 ((0 + (k - 0) : Nat) : Int))) else none) = _
          rw [show 0 + (k - 0) = k by omega]
        · rw [if_neg (by omega), if_neg hk]
theorem sd_iret {α0 : Ax} {Qm : Int → (Nat → Int) → Mem → Prop} {r : Int} (X : CX p m c cc nL s args own G B κ meth (some .int)) (hR : Rp G e0 α κ B M H) (hS : va_S (fun q => B ≤ q) s.heap H locs) (hx : inR r) (hq : Qm r κ M) (hA : Ak α0 α) (hd : decode cc pc = .ok (.ireturn, 1)) (hmc : cells ≤ mc) (hms : slots ≤ ms) : WD p l e k mc ms s m args below meth c G e0 α0 B Qm H locs cells slots pc ls [.int (Int32.ofInt r)] :=
  W.widen hmc hms (W.iret X.1.1 X.1.2.1 X.2.2.2.1 (fun t ht _ => ⟨⟨_, (r, κ, M), rfl, ⟨rfl, hx, hq⟩, ⟨α, hA, X.2.2.1, by show Rp G e0 α κ B M t.heap; rw [ht]; exact hR⟩⟩, hS.F ht⟩) hS.2.2 hd X.2.2.2.2)
theorem CX.re {κ' : Nat → Int} (X : CX p m c cc nL s args own G B κ meth ret) (h : kOK κ') : CX p m c cc nL s args own G B κ' meth ret := ⟨X.1, X.2.1, h, X.2.2.2⟩
end DY
