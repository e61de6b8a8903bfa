/-! the law's methods: contracts, calls, what they make -/
def NcA (U : State) : Prop := va_Nc xIAE xISE U ∧ va_Nc xIAE xIOB U ∧ va_Nc xISE xIAE U ∧ va_Nc xISE xIOB U ∧ va_Nc xIOB xIAE U ∧ va_Nc xIOB xISE U
theorem NcA.moved {u U : State} (hvm : u.vm.Alike U.vm) (h : NcA u) : NcA U := ⟨va_Nc.moved hvm h.1, va_Nc.moved hvm h.2.1, va_Nc.moved hvm h.2.2.1, va_Nc.moved hvm h.2.2.2.1, va_Nc.moved hvm h.2.2.2.2.1, va_Nc.moved hvm h.2.2.2.2.2⟩
def Pwn (G : Gx) (e0 : Nat) (α : Ax) (κ : Nat → Int) (B : Nat) (M : Mem) : State → Prop := fun U => NcA U ∧ Pw G e0 α κ B M U
theorem Pwn.blind {G : Gx} {e0 : Nat} {α : Ax} {κ : Nat → Int} {B : Nat} {M : Mem} {av : List Value} : FrameBlind (va_Pc av (Pwn G e0 α κ B M)) := fun a U g mk q =>
  ⟨q.1, NcA.moved (u := U) (U := U.calling g mk a) (Vm.Alike.refl U.vm) q.2.1, ((Pw.blind (av := av)) a U g mk ⟨q.1, q.2.2⟩).2⟩
def NX (B : Nat) : String → State → State → Prop := vx_X (fun _ : Unit => False) (fun _ _ _ => True) (fun q => B ≤ q)
def WRa (l : Launch) (y : MethodName) (cd : Cond) (n mc ms : Nat) (G : Gx) (e0 : Nat) (α : Ax) (κ : Nat → Int) (B : Nat) (av : List Value) (M : Mem) (Qm : Int → (Nat → Int) → Mem → Prop) : Prop :=
  vx_Met l y (cd :: gw) (rmX n mc ms) (va_Pc av (Pwn G e0 α κ B M)) (QD G e0 α B Qm) (NX B) mc ms (fun q => B ≤ q)
def WC (l : Launch) (y : MethodName) (cd : Cond) (n mc ms : Nat) (G : Gx) (e0 : Nat) (α : Ax) (κ : Nat → Int) (B : Nat) (av : List Value) (M : Mem) (Qm : Int → Mem → Prop) : Prop :=
  vx_Met l y (cd :: gw) (rmX n mc ms) (va_Pc av (Pwn G e0 α κ B M)) (QI G e0 α κ B Qm) (NX B) mc ms (fun q => B ≤ q)
abbrev WW (p : Program) (l : Launch) (e : Env) (k mc ms : Nat) (s : State) (m : MethodId) (args : Array Value) (below : List Frame) (meth : Method) (c : Code) (G : Gx) (e0 : Nat) (α : Ax) (B : Nat) (Qm : Int → (Nat → Int) → Mem → Prop) (H : Heap) (locs : List Loc) (cells slots : Nat) (pc : Nat) (ls : Array Slot) (st : List Value) : Prop :=
  W p l e (rmX k mc ms) s m args below meth c H locs cells slots (vx_MQ below (QD G e0 α B Qm) (NX B) args s mc ms (fun q => B ≤ q)) (F0 m pc ls st)
abbrev WK (p : Program) (l : Launch) (e : Env) (k mc ms : Nat) (s : State) (m : MethodId) (args : Array Value) (below : List Frame) (meth : Method) (c : Code) (G : Gx) (e0 : Nat) (α : Ax) (κ : Nat → Int) (B : Nat) (Qm : Int → Mem → Prop) (H : Heap) (locs : List Loc) (cells slots : Nat) (pc : Nat) (ls : Array Slot) (st : List Value) : Prop :=
  W p l e (rmX k mc ms) s m args below meth c H locs cells slots (vx_MQ below (QI G e0 α κ B Qm) (NX B) args s mc ms (fun q => B ≤ q)) (F0 m pc ls st)
theorem WRa.mk {l : Launch} {y : MethodName} {cc : ByteArray} {hh : List (Nat × Nat × Nat × Nat)} {maxL k mc ms : Nat} {ret : Option FieldType} {own : String} {G : Gx} {e0 : Nat} {α : Ax} {κ : Nat → Int} {B : Nat} {av : List Value} {lv : List (Nat × Value)} {M : Mem} {Qm : Int → (Nat → Int) → Mem → Prop} (hκ : kOK κ) (hy : plainName y.cls = true) (ho : y.cls = own) (hlen : (lg_sl av).length ≤ maxL) (hlv : lv_args 0 av = lv)
    (body : ∀ (p : Program) (e : Env) (s : State) (m : MethodId) (args : Array Value) (below : List Frame) (meth : Method) (c : Code) (ls : Array Slot), CX p m c cc maxL s args own G B κ meth ret → NcA s → c.exceptionTable.toList = tableOf hh → Rp G e0 α κ B M s.heap → va_S (fun q => B ≤ q) s.heap s.heap [] → lv_has ls maxL lv → WW p l e k mc ms s m args below meth c G e0 α B Qm s.heap [] 0 0 0 ls []) :
    WRa l y (Cond.codeWith y cc maxL ret hh) k mc ms G e0 α κ B av M Qm := by
  refine vx_ofWH (cc := cc) (maxL := maxL) (ret := ret) (hh := hh) hy rfl ?_
  intro p e s m args below meth c s₁ Bd hml hv
  obtain ⟨rfl, hN, hE, hR⟩ := hv
  have hT := vx_table (x := y) Bd (atoms_spec (ws := Cond.codeWith y cc maxL ret hh :: gw) Bd.pre _ List.mem_cons_self)
  have hl := lv_entry av (n := maxL) hlen
  rw [lg_entry_eq]
  generalize (lg_sl av ++ List.replicate (maxL - (lg_sl av).length) Slot.unset).toArray = ls at hl ⊢
  rw [hlv] at hl
  exact body p e s m _ below meth c ls ⟨⟨Bd.exec, Bd.bytes, hml, by rw [← ho]; exact findClass_of_methodNamed Bd.named, fun w hw => atoms_spec (ws := Cond.codeWith y cc maxL ret hh :: gw) Bd.pre w (List.mem_cons_of_mem _ hw)⟩, hE, hκ, Bd.returns, Bd.notSynchronized⟩ hN hT hR va_S.rf hl
theorem WC.mk {l : Launch} {y : MethodName} {cc : ByteArray} {hh : List (Nat × Nat × Nat × Nat)} {maxL k mc ms : Nat} {ret : Option FieldType} {own : String} {G : Gx} {e0 : Nat} {α : Ax} {κ : Nat → Int} {B : Nat} {av : List Value} {lv : List (Nat × Value)} {M : Mem} {Qm : Int → Mem → Prop} (hκ : kOK κ) (hy : plainName y.cls = true) (ho : y.cls = own) (hlen : (lg_sl av).length ≤ maxL) (hlv : lv_args 0 av = lv)
    (body : ∀ (p : Program) (e : Env) (s : State) (m : MethodId) (args : Array Value) (below : List Frame) (meth : Method) (c : Code) (ls : Array Slot), CX p m c cc maxL s args own G B κ meth ret → NcA s → c.exceptionTable.toList = tableOf hh → Rp G e0 α κ B M s.heap → va_S (fun q => B ≤ q) s.heap s.heap [] → lv_has ls maxL lv → WK p l e k mc ms s m args below meth c G e0 α κ B Qm s.heap [] 0 0 0 ls []) :
    WC l y (Cond.codeWith y cc maxL ret hh) k mc ms G e0 α κ B av M Qm := by
  refine vx_ofWH (cc := cc) (maxL := maxL) (ret := ret) (hh := hh) hy rfl ?_
  intro p e s m args below meth c s₁ Bd hml hv
  obtain ⟨rfl, hN, hE, hR⟩ := hv
  have hT := vx_table (x := y) Bd (atoms_spec (ws := Cond.codeWith y cc maxL ret hh :: gw) Bd.pre _ List.mem_cons_self)
  have hl := lv_entry av (n := maxL) hlen
  rw [lg_entry_eq]
  generalize (lg_sl av ++ List.replicate (maxL - (lg_sl av).length) Slot.unset).toArray = ls at hl ⊢
  rw [hlv] at hl
  exact body p e s m _ below meth c ls ⟨⟨Bd.exec, Bd.bytes, hml, by rw [← ho]; exact findClass_of_methodNamed Bd.named, fun w hw => atoms_spec (ws := Cond.codeWith y cc maxL ret hh :: gw) Bd.pre w (List.mem_cons_of_mem _ hw)⟩, hE, hκ, Bd.returns, Bd.notSynchronized⟩ hN hT hR va_S.rf hl
/-- methods without handlers, which may make things: addresses and numbers stay, or come out anew -/
def UC (l : Launch) (y : MethodName) (cd : Cond) (n mc ms : Nat) (G : Gx) (e0 : Nat) (α : Ax) (κ : Nat → Int) (B : Nat) (av : List Value) (M : Mem) (Qm : Int → Mem → Prop) : Prop :=
  Met l y (cd :: gw) (rmX n mc ms) (va_Pc av (Pwn G e0 α κ B M)) (QI G e0 α κ B Qm) mc ms (fun q => B ≤ q)
def UD (l : Launch) (y : MethodName) (cd : Cond) (n mc ms : Nat) (G : Gx) (e0 : Nat) (α : Ax) (κ : Nat → Int) (B : Nat) (av : List Value) (M : Mem) (Qm : Int → (Nat → Int) → Mem → Prop) : Prop :=
  Met l y (cd :: gw) (rmX n mc ms) (va_Pc av (Pwn G e0 α κ B M)) (QD G e0 α B Qm) mc ms (fun q => B ≤ q)
abbrev WU (p : Program) (l : Launch) (e : Env) (k mc ms : Nat) (s : State) (m : MethodId) (args : Array Value) (below : List Frame) (meth : Method) (c : Code) (G : Gx) (e0 : Nat) (α : Ax) (κ : Nat → Int) (B : Nat) (Qm : Int → Mem → Prop) (H : Heap) (locs : List Loc) (cells slots : Nat) (pc : Nat) (ls : Array Slot) (st : List Value) : Prop :=
  W p l e (rmX k mc ms) s m args below meth c H locs cells slots (MQ below (QI G e0 α κ B Qm) args s mc ms (fun q => B ≤ q)) (F0 m pc ls st)
theorem UC.mk {l : Launch} {y : MethodName} {cc : ByteArray} {maxL k mc ms : Nat} {ret : Option FieldType} {own : String} {G : Gx} {e0 : Nat} {α : Ax} {κ : Nat → Int} {B : Nat} {av : List Value} {lv : List (Nat × Value)} {M : Mem} {Qm : Int → Mem → Prop} (hκ : kOK κ) (hy : plainName y.cls = true) (ho : y.cls = own) (hlen : (lg_sl av).length ≤ maxL) (hlv : lv_args 0 av = lv)
    (body : ∀ (p : Program) (e : Env) (s : State) (m : MethodId) (args : Array Value) (below : List Frame) (meth : Method) (c : Code) (ls : Array Slot), CX p m c cc maxL s args own G B κ meth ret → NcA s → Rp G e0 α κ B M s.heap → va_S (fun q => B ≤ q) s.heap s.heap [] → lv_has ls maxL lv → WU p l e k mc ms s m args below meth c G e0 α κ B Qm s.heap [] 0 0 0 ls []) :
    UC l y (Cond.code y cc maxL ret) k mc ms G e0 α κ B av M Qm := by
  refine Met.ofW (cc := cc) (maxL := maxL) (ret := ret) hy rfl ?_
  intro p e s m args below meth c s₁ Bd hml hv
  obtain ⟨rfl, hN, hE, hR⟩ := hv
  have hl := lv_entry av (n := maxL) hlen
  rw [lg_entry_eq]
  generalize (lg_sl av ++ List.replicate (maxL - (lg_sl av).length) Slot.unset).toArray = ls at hl ⊢
  rw [hlv] at hl
  exact body p e s m _ below meth c ls ⟨⟨Bd.exec, Bd.bytes, hml, by rw [← ho]; exact findClass_of_methodNamed Bd.named, fun w hw => atoms_spec (ws := Cond.code y cc maxL ret :: gw) Bd.pre w (List.mem_cons_of_mem _ hw)⟩, hE, hκ, Bd.returns, Bd.notSynchronized⟩ hN hR va_S.rf hl
theorem UD.mk {l : Launch} {y : MethodName} {cc : ByteArray} {maxL k mc ms : Nat} {ret : Option FieldType} {own : String} {G : Gx} {e0 : Nat} {α : Ax} {κ : Nat → Int} {B : Nat} {av : List Value} {lv : List (Nat × Value)} {M : Mem} {Qm : Int → (Nat → Int) → Mem → Prop} (hκ : kOK κ) (hy : plainName y.cls = true) (ho : y.cls = own) (hlen : (lg_sl av).length ≤ maxL) (hlv : lv_args 0 av = lv)
    (body : ∀ (p : Program) (e : Env) (s : State) (m : MethodId) (args : Array Value) (below : List Frame) (meth : Method) (c : Code) (ls : Array Slot), CX p m c cc maxL s args own G B κ meth ret → NcA s → Rp G e0 α κ B M s.heap → va_S (fun q => B ≤ q) s.heap s.heap [] → lv_has ls maxL lv → WD p l e k mc ms s m args below meth c G e0 α B Qm s.heap [] 0 0 0 ls []) :
    UD l y (Cond.code y cc maxL ret) k mc ms G e0 α κ B av M Qm := by
  refine Met.ofW (cc := cc) (maxL := maxL) (ret := ret) hy rfl ?_
  intro p e s m args below meth c s₁ Bd hml hv
  obtain ⟨rfl, hN, hE, hR⟩ := hv
  have hl := lv_entry av (n := maxL) hlen
  rw [lg_entry_eq]
  generalize (lg_sl av ++ List.replicate (maxL - (lg_sl av).length) Slot.unset).toArray = ls at hl ⊢
  rw [hlv] at hl
  exact body p e s m _ below meth c ls ⟨⟨Bd.exec, Bd.bytes, hml, by rw [← ho]; exact findClass_of_methodNamed Bd.named, fun w hw => atoms_spec (ws := Cond.code y cc maxL ret :: gw) Bd.pre w (List.mem_cons_of_mem _ hw)⟩, hE, hκ, Bd.returns, Bd.notSynchronized⟩ hN hR va_S.rf hl
/-- what a world comes back to -/
def Bk (G : Gx) (e0 : Nat) (α : Ax) (κ : Nat → Int) (α0 : Ax) (κ0 : Nat → Int) (B : Nat) : Prop := ∀ (M : Mem) (H : Heap), Rp G e0 α κ B M H → Rp G e0 α0 κ0 B M H
theorem Bk.rf {G : Gx} {e0 : Nat} {α : Ax} {κ : Nat → Int} {B : Nat} : Bk G e0 α κ α κ B := fun _ _ h => h
/-- a row of the law's, new -/
def zM (M : Mem) (s0 : Nat) : Mem := fun s j k => if s = s0 then 0 else M s j k
theorem zM_o {M : Mem} {s0 s : Nat} (h : s ≠ s0) : zM M s0 s = M s := by
  funext j k
  unfold zM
  rw [if_neg h]
theorem kOK_l {κ : Nat → Int} {s0 : Nat} (h : kOK κ) (h0 : 114 ≤ s0 ∧ s0 < 118) : kOK (kup [s0] κ) := by
  intro s
  by_cases e : s = s0
  · subst e
    have hk : kcode s = 5 := by
      rcases (by omega : s = 114 ∨ s = 115 ∨ s = 116 ∨ s = 117) with rfl | rfl | rfl | rfl <;> rfl
    unfold kst
    rw [hk]
    rfl
  · have e1 : kup [s0] κ s = κ s := by unfold kup; rw [if_neg (by simpa using e)]
    have e2 : ∀ t : Nat, t < 114 → kup [s0] κ t = κ t := fun t ht => by unfold kup; rw [if_neg (by simp; omega)]
    rw [e1, h s]
    unfold kst
    rw [e2 1 (by decide), e2 2 (by decide), e2 6 (by decide), e1]
theorem ent_l114 {G : Gx} {e0 : Nat} {α : Ax} {M : Mem} {s0 : Nat} {q : Nat} (h0 : 114 ≤ s0) (s : Nat) (j : Int) : ent G e0 (upA α s0 0 q) M s j = ent G e0 α M s j := by
  have ha : ∀ t : Nat, t < 114 → ∀ i, upA α s0 0 q t i = α t i := fun t ht i => upA_s _ _ _ (by omega) _
  have hl : ∀ L, lcl L < 114 := fun L => by unfold lcl; split; decide; split; decide; decide
  unfold ent
  split
  · unfold obj
    split <;> simp (discharger := decide) only [ha]
  · split
    · rename_i h1 h2
      rw [ha (s + 6) (by omega)]
    · split
      · simp only [ha _ (hl _)]
      · rfl
theorem Rp.drop {G : Gx} {e0 : Nat} {α : Ax} {κ : Nat → Int} {B : Nat} {M : Mem} {H : Heap} {s0 q : Nat} (h0 : 114 ≤ s0 ∧ s0 < 118) (hk : κ s0 = 0) (hR : Rp G e0 (upA α s0 0 q) (kup [s0] κ) B M H) : Rp G e0 α κ B M H := by
  have hne : ∀ s j, okk κ s j → s ≠ s0 := fun s j ho e => by
    subst e
    have := ho.1
    have := ho.2
    omega
  have ho' : ∀ s j, okk κ s j → okk (kup [s0] κ) s j := fun s j ho => ⟨ho.1, Int.lt_of_lt_of_le ho.2 (kup_le _ _ _)⟩
  have hku : ∀ s : Nat, s < 114 → kup [s0] κ s = κ s := fun s hs => by unfold kup; rw [if_neg (by simp; omega)]
  have hl : ∀ L, lcl L < 114 := fun L => by unfold lcl; split; decide; split; decide; decide
  obtain ⟨r1, r2, r3, r4, r5⟩ := hR
  refine ⟨fun s j hs ho => ?_, fun s j s' j' hs ho hs' ho2 e => ?_, r3, fun j ho => ?_, fun L a b => ?_⟩
  · have := r1 s j hs (ho' s j ho)
    rw [ent_l114 h0.1, upA_s _ _ _ (hne s j ho)] at this
    exact this
  · exact r2 s j s' j' hs (ho' s j ho) hs' (ho' s' j' ho2) (by rw [upA_s _ _ _ (hne s j ho), upA_s _ _ _ (hne s' j' ho2)]; exact e)
  · have := r4 j (ho' 1 j ho)
    unfold okk at this ⊢
    rw [hku 6 (by decide)] at this
    exact this
  · obtain ⟨a1, a2, a3, a4, a5⟩ := r5 L a b
    rw [hku (L + 6) (by omega)] at a3
    refine ⟨a1, a2, a3, fun i i1 i2 => ?_, a5⟩
    have := a4 i i1 i2
    unfold okk at this ⊢
    rw [hku _ (hl L)] at this
    exact this
theorem Rp.newl {G : Gx} {e0 : Nat} {α : Ax} {κ : Nat → Int} {B : Nat} {M : Mem} {H H' : Heap} {s0 q : Nat} (h0 : 114 ≤ s0 ∧ s0 < 118) (hak : akd s0 = 0) (hk : κ s0 = 0) (hR : Rp G e0 α κ B M H) (hB : B ≤ H.size) (hq : H.size ≤ q) (hP : va_at G.1 vwCl (q, .inl (G.2.1, alen s0, .inl (fun _ => 0))) H') (oq : ∀ x : Nat, x < H.size → H'[x]? = H[x]?) : Rp G e0 (upA α s0 0 q) (kup [s0] κ) B (zM M s0) H' := by
  have hne : ∀ s j, okk κ s j → s ≠ s0 := fun s j ho e => by
    subst e
    have := ho.1
    have := ho.2
    omega
  have hn : ∀ s j, okk (kup [s0] κ) s j → ¬ okk κ s j → s = s0 ∧ j = 0 := fun s j h1 h2 => by
    obtain ⟨z1, z2⟩ := kup_new h1 h2
    have e : s = s0 := by simpa using z1
    subst e
    exact ⟨rfl, by omega⟩
  have hku : ∀ s : Nat, s < 114 → kup [s0] κ s = κ s := fun s hs => by unfold kup; rw [if_neg (by simp; omega)]
  have ns : s0 < NS := by show s0 < 118; omega
  refine hR.fold hB (fun s j hs ho => ⟨upA_s _ _ _ (hne s j ho) _, ?_⟩) oq (fun s j hs h1 h2 => ?_) (fun s j s' j' h1 h2 h1' h2' e => ?_) (fun s j k => ?_) (fun j ho => ?_) (fun L a b k => ?_) (kup_le _ κ) (fun s a b => hku s (by omega))
  · rw [ent_l114 h0.1]
    exact ent_congr (fun k => by rw [zM_o (hne s j ho)]) (fun s' a b k => by rw [zM_o (by omega)])
  · obtain ⟨rfl, rfl⟩ := hn s j h1 h2
    rw [upA_eq, ent_l114 h0.1]
    refine ⟨?_, hq⟩
    have e : ent G e0 α (zM M s) s 0 = .inl (G.2.1, alen s, .inl (fun _ => 0)) := by
      unfold ent
      rw [if_neg (by omega), if_neg (by omega), if_neg (by omega), if_pos hak]
      have : (fun k : Nat => Int32.ofInt (zM M s s 0 k)) = fun _ => 0 := by
        funext k
        unfold zM
        rw [if_pos rfl]
        rfl
      rw [this]
    rw [e]
    exact hP
  · obtain ⟨rfl, rfl⟩ := hn s j h1 h2
    obtain ⟨rfl, rfl⟩ := hn s' j' h1' h2'
    exact ⟨rfl, rfl⟩
  · unfold zM
    split
    · exact ⟨by decide, by decide⟩
    · exact hR.r s j k
  · have ho1 : okk κ 1 j := by unfold okk at ho ⊢; rw [hku 1 (by decide)] at ho; exact ho
    have := hR.2.2.2.1 j ho1
    rw [zM_o (by omega)]
    unfold okk at this ⊢
    rw [hku 6 (by decide)]
    exact this
  · rw [zM_o (by omega)]
/-- steps of what lies nowhere: the reference's sites -/
def zgh (s : Nat) : Prop := s = 11 ∨ (56 ≤ s ∧ s ≤ 103)
def Gh (M M' : Mem) : Prop := ∀ s j k, M' s j k = M s j k ∨ (zgh s ∧ inR (M' s j k))
theorem Gh.rf {M : Mem} : Gh M M := fun _ _ _ => Or.inl rfl
theorem Gh.up {M M' : Mem} (h : Gh M M') {s : Nat} {j k v : Int} (hs : zgh s) (hv : inR v) : Gh M (up M' s j k v) := fun s' j' k' => by
  rw [up_at]
  by_cases e : s' = s ∧ j' = j ∧ k' = k
  · rw [if_pos e]
    exact Or.inr ⟨by rw [e.1]; exact hs, hv⟩
  · rw [if_neg e]
    exact h s' j' k'
theorem Gh.no {M M' : Mem} (h : Gh M M') {s : Nat} (hs : ¬ zgh s) (j k : Int) : M' s j k = M s j k := (h s j k).elim id (fun z => absurd z.1 hs)
theorem kc_6 {s : Nat} (h : zgh s) : kcode s = 6 := by
  have z : ∀ t : Fin 118, ((t : Nat) = 11 ∨ (56 ≤ (t : Nat) ∧ (t : Nat) ≤ 103)) → kcode t = 6 := by decide +kernel
  exact z ⟨s, by unfold zgh at h; omega⟩ h
theorem Rp.gh {G : Gx} {e0 : Nat} {α : Ax} {κ : Nat → Int} {B : Nat} {M M' : Mem} {H : Heap} (hR : Rp G e0 α κ B M H) (hκ : kOK κ) (h : Gh M M') : Rp G e0 α κ B M' H := by
  have hn : ∀ s j, okk κ s j → ¬ zgh s := fun s j ho z => by
    have e := hκ s
    unfold kst at e
    rw [kc_6 z] at e
    have := ho.1
    have := ho.2
    simp at e
    omega
  obtain ⟨r1, r2, r3, r4, r5⟩ := hR
  have hl : ∀ s', 12 ≤ s' → s' < 24 → ∀ k, M' s' 0 k = M s' 0 k := fun s' a b k => h.no (by unfold zgh; omega) _ _
  refine ⟨fun s j hs ho => ⟨?_, (r1 s j hs ho).2⟩, r2, fun s j k => ?_, fun j ho => ?_, fun L a b => ?_⟩
  · rw [ent_congr (fun k => h.no (hn s j ho) j k) hl]
    exact (r1 s j hs ho).1
  · rcases h s j k with e | e
    · rw [e]; exact r3 s j k
    · exact e.2
  · rw [h.no (by unfold zgh; omega)]
    exact r4 j ho
  · rw [hl L (by omega) (by omega), hl (L + 6) (by omega) (by omega)]
    obtain ⟨a1, a2, a3, a4, a5⟩ := r5 L a b
    refine ⟨a1, a2, a3, fun i i1 i2 => ?_, a5⟩
    rw [hl L (by omega) (by omega)]
    exact a4 i i1 i2
section WP
variable {p : Program} {l : Launch} {e : Env} {R : Room} {s : State} {m : MethodId} {args : Array Value} {below : List Frame} {meth : Method} {c : Code} {H : Heap} {locs : List Loc} {cells slots mc ms k : Nat} {Q : State → Prop}
variable {cc : ByteArray} {nL : Nat} {own : String} {pc : Nat} {ls : Array Slot} {rest : List Value} {G : Gx} {e0 : Nat} {α : Ax} {κ : Nat → Int} {B : Nat} {M : Mem} {ret : Option FieldType} {Xm : String → Mem → Prop}
theorem va_newaF {N : Nat} {n : Int32} (C : CallFix p m c cc nL s args gw own) (E : EV G B s) (harr : Cond.arrayClass .int ∈ gw) (hN : n.toNatClampNeg = N) (hN2 : N ≤ 1000) (hn : ¬ n < 0) (hS : va_S (fun q => B ≤ q) s.heap H locs) (hd : decode cc pc = .ok (.newarray .int, 2)) (hc1 : cells + 1 ≤ R.cells) (hc2 : slots + N ≤ R.slots)
    (kk : ∀ (H1 : Heap), va_at G.1 vwCl (H.size, .inl (G.2.1, N, .inl (fun _ => 0))) H1 → H1.size = H.size + 1 → (∀ q : Nat, q < H.size → H1[q]? = H[q]?) → va_S (fun q => B ≤ q) s.heap H1 locs → W p l e R s m args below meth c H1 locs (cells + 1) (slots + N) Q (F0 m (pc + 2) ls (.ref H.size :: rest))) : W p l e R s m args below meth c H locs cells slots Q (F0 m pc ls (.int n :: rest)) := by
  refine va_newaK (atype := .int) (N := N) C.1 C.2.1 (C.2.2.2.2 _ harr) rfl hd rfl hn hN (by show N * 4 ≤ _; omega) hc1 hc2 rfl fun H1 cA e1 z1 o1 hAr hNm => ?_
  have e : cA = G.2.1 := nm_eq (va_nm_int hNm) (va_nm_int (E.1.2 0 (G.2.1, .int) rfl).2)
  subst e
  refine kk H1 ?_ z1 o1 ⟨Nat.le_trans hS.1 (by omega), fun x h1 h2 => (o1 x (Nat.lt_of_lt_of_le h1 hS.1)).trans (hS.2.1 x h1 h2), hS.2.2⟩
  show H1[H.size]? = some (vp_cell _ _)
  rw [e1, vp_cell_i]
  rfl
theorem nw_arr {s0 N : Nat} (h0 : 114 ≤ s0 ∧ s0 < 118) (hN : alen s0 = N) (hak : akd s0 = 0) (harr : Cond.arrayClass .int ∈ gw) (hk : κ s0 = 0) (X : CX p m c cc nL s args own G B κ meth ret) (hR : Rp G e0 α κ B M H) (hS : va_S (fun q => B ≤ q) s.heap H locs) (hd : decode cc pc = .ok (.newarray .int, 2)) (hc1 : cells + 1 ≤ R.cells) (hc2 : slots + N ≤ R.slots)
    (kk : ∀ (q : Nat) (H1 : Heap), kOK (kup [s0] κ) → Rp G e0 (upA α s0 0 q) (kup [s0] κ) B (zM M s0) H1 → va_S (fun q => B ≤ q) s.heap H1 locs → W p l e R s m args below meth c H1 locs (cells + 1) (slots + N) Q (F0 m (pc + 2) ls (.ref q :: rest))) : W p l e R s m args below meth c H locs cells slots Q (F0 m pc ls (.int (Int32.ofInt N) :: rest)) := by
  have hN2 : N ≤ 100 := by
    rw [← hN]
    rcases (by omega : s0 = 114 ∨ s0 = 115 ∨ s0 = 116 ∨ s0 = 117) with rfl | rfl | rfl | rfl <;> decide
  have e1 : (Int32.ofInt (N : Int)).toNatClampNeg = N := by rw [Int32.toNatClampNeg_ofInt_of_le (by omega) (by omega)]; omega
  have hn0 : ¬ Int32.ofInt (N : Int) < 0 := by
    rw [Int32.lt_iff_toInt_lt, Int32.toInt_ofInt_of_le (by omega) (by omega)]
    show ¬ (N : Int) < 0
    omega
  refine va_newaF (N := N) X.1 X.2.1 harr e1 (by omega) hn0 hS hd hc1 hc2 (fun H1 hP z1 o1 hS1 => ?_)
  exact kk H.size H1 (kOK_l X.2.2.1 h0) (hR.newl h0 hak hk (Nat.le_trans X.2.1.2.2 hS.1) (Nat.le_refl _) (by rw [hN]; exact hP) o1) hS1
/-- static calls within the law -/
theorem sl_call {y : MethodName} {bytes : ByteArray} {hh : List (Nat × Nat × Nat × Nat)} {maxL n idx mc' ms' : Nat} (k' : Nat) {rt : Option FieldType} {As st0 : List Value} {Qm : Int → (Nat → Int) → Mem → Prop} (X : CX p m c cc nL s args own G B κ meth ret) (N : NcA s) (hR : Rp G e0 α κ B M H) (hS : va_S (fun q => B ≤ q) s.heap H locs)
    (hM : WRa l y (Cond.codeWith y bytes maxL rt hh) k' mc' ms' G e0 α κ B As M Qm) (k1 : Cond.methodLink own idx y ∈ gw) (k2 : Cond.static y ∈ gw) (k4 : Cond.initialized y.cls ∈ gw) (k5 : Cond.codeWith y bytes maxL rt hh ∈ gw) (hdc : y.cls ≠ "java/lang/invoke/MethodHandle" ∧ y.cls ≠ "java/lang/invoke/VarHandle" ∧ (parseMethodDescriptor y.desc).map (fun d => d.parameters.length) = some n)
    (hroom : (rmX k' mc' ms').frames + 1 ≤ R.frames ∧ 8 + (maxL + 11) + (rmX k' mc' ms').locals ≤ R.locals) (hn : As.length = n) (hst : st0 = As.reverse ++ rest) (hw : (rest.map fun v => v.category).sum ≤ 8) (hml : ls.size = nL) (hd : decode cc pc = .ok (.invokestatic idx, 3)) (hcel : cells + mc' ≤ R.cells ∧ slots + ms' ≤ R.slots)
    (kk : ∀ (r : Int) (κ1 : Nat → Int) (α1 : Ax) (M1 : Mem) (H1 : Heap) (locs1 : List Loc), Qm r κ1 M1 → inR r → Ak α α1 → kOK κ1 → Rp G e0 α1 κ1 B M1 H1 → va_S (fun q => B ≤ q) s.heap H1 locs1 → W p l e R s m args below meth c H1 locs1 (cells + mc') (slots + ms') Q (F0 m (pc + 3) ls (.int (Int32.ofInt r) :: rest))) : W p l e R s m args below meth c H locs cells slots Q (F0 m pc ls st0) := by
  subst hst
  refine vx_calli (vx_runSX (As := As) (rest := rest) (n := n) X.1 hM (vx_cwSW n X.1.2.2.2.2 (g_inS k1 k2 k4 k5) rfl rfl rfl hdc hroom) ⟨Pwn.blind, fun U hU hW => ⟨rfl, NcA.moved hW.alike N, X.2.1.at hS hU hW, by rw [hU]; exact hR⟩⟩ rfl hn hml rfl (lv_room hw) hd hcel) hS (fun q _ h => h) (fun q h => h) (fun q _ h => h) (fun E ce q9 u t H1 locs1 ht hvm hp hb _ _ hS1 hce hcv hcl => False.elim hp) (fun r u t H1 locs1 ht hvm hp hb _ _ hS1 => ?_)
  obtain ⟨rfl, hx, hq⟩ := hp
  obtain ⟨α1, hA, hk, hR1⟩ := hb
  exact kk u.1 u.2.1 α1 u.2.2 H1 locs1 hq hx hA hk (by rw [← ht]; exact hR1) hS1
theorem sc_call {y : MethodName} {bytes : ByteArray} {hh : List (Nat × Nat × Nat × Nat)} {maxL n idx mc' ms' : Nat} (k' : Nat) {rt : Option FieldType} {As st0 : List Value} {Qm : Int → Mem → Prop} (X : CX p m c cc nL s args own G B κ meth ret) (N : NcA s) (hR : Rp G e0 α κ B M H) (hS : va_S (fun q => B ≤ q) s.heap H locs)
    (hM : WC l y (Cond.codeWith y bytes maxL rt hh) k' mc' ms' G e0 α κ B As M Qm) (k1 : Cond.methodLink own idx y ∈ gw) (k2 : Cond.static y ∈ gw) (k4 : Cond.initialized y.cls ∈ gw) (k5 : Cond.codeWith y bytes maxL rt hh ∈ gw) (hdc : y.cls ≠ "java/lang/invoke/MethodHandle" ∧ y.cls ≠ "java/lang/invoke/VarHandle" ∧ (parseMethodDescriptor y.desc).map (fun d => d.parameters.length) = some n)
    (hroom : (rmX k' mc' ms').frames + 1 ≤ R.frames ∧ 8 + (maxL + 11) + (rmX k' mc' ms').locals ≤ R.locals) (hn : As.length = n) (hst : st0 = As.reverse ++ rest) (hw : (rest.map fun v => v.category).sum ≤ 8) (hml : ls.size = nL) (hd : decode cc pc = .ok (.invokestatic idx, 3)) (hcel : cells + mc' ≤ R.cells ∧ slots + ms' ≤ R.slots)
    (kk : ∀ (r : Int) (M1 : Mem) (H1 : Heap) (locs1 : List Loc), Qm r M1 → inR r → Rp G e0 α κ B M1 H1 → va_S (fun q => B ≤ q) s.heap H1 locs1 → W p l e R s m args below meth c H1 locs1 (cells + mc') (slots + ms') Q (F0 m (pc + 3) ls (.int (Int32.ofInt r) :: rest))) : W p l e R s m args below meth c H locs cells slots Q (F0 m pc ls st0) := by
  subst hst
  refine vx_calli (vx_runSX (As := As) (rest := rest) (n := n) X.1 hM (vx_cwSW n X.1.2.2.2.2 (g_inS k1 k2 k4 k5) rfl rfl rfl hdc hroom) ⟨Pwn.blind, fun U hU hW => ⟨rfl, NcA.moved hW.alike N, X.2.1.at hS hU hW, by rw [hU]; exact hR⟩⟩ rfl hn hml rfl (lv_room hw) hd hcel) hS (fun q _ h => h) (fun q h => h) (fun q _ h => h) (fun E ce q9 u t H1 locs1 ht hvm hp hb _ _ hS1 hce hcv hcl => False.elim hp) (fun r u t H1 locs1 ht hvm hp hb _ _ hS1 => ?_)
  obtain ⟨rfl, hx, hq⟩ := hp
  exact kk u.1 u.2 H1 locs1 hq hx (by rw [← ht]; exact hb) hS1
theorem uc_call {y : MethodName} {bytes : ByteArray} {maxL n idx mc' ms' : Nat} (k' : Nat) {rt : Option FieldType} {As st0 : List Value} {Qm : Int → Mem → Prop} (X : CX p m c cc nL s args own G B κ meth ret) (N : NcA s) (hR : Rp G e0 α κ B M H) (hS : va_S (fun q => B ≤ q) s.heap H locs)
    (hM : UC l y (Cond.code y bytes maxL rt) k' mc' ms' G e0 α κ B As M Qm) (k1 : Cond.methodLink own idx y ∈ gw) (k2 : Cond.static y ∈ gw) (k4 : Cond.initialized y.cls ∈ gw) (k5 : Cond.code y bytes maxL rt ∈ gw) (hdc : y.cls ≠ "java/lang/invoke/MethodHandle" ∧ y.cls ≠ "java/lang/invoke/VarHandle" ∧ (parseMethodDescriptor y.desc).map (fun d => d.parameters.length) = some n)
    (hroom : (rmX k' mc' ms').frames + 1 ≤ R.frames ∧ 8 + (maxL + 11) + (rmX k' mc' ms').locals ≤ R.locals) (hn : As.length = n) (hst : st0 = As.reverse ++ rest) (hw : (rest.map fun v => v.category).sum ≤ 8) (hml : ls.size = nL) (hd : decode cc pc = .ok (.invokestatic idx, 3)) (hcel : cells + mc' ≤ R.cells ∧ slots + ms' ≤ R.slots)
    (kk : ∀ (r : Int) (M1 : Mem) (H1 : Heap) (locs1 : List Loc), Qm r M1 → inR r → Rp G e0 α κ B M1 H1 → va_S (fun q => B ≤ q) s.heap H1 locs1 → W p l e R s m args below meth c H1 locs1 (cells + mc') (slots + ms') Q (F0 m (pc + 3) ls (.int (Int32.ofInt r) :: rest))) : W p l e R s m args below meth c H locs cells slots Q (F0 m pc ls st0) := by
  subst hst
  refine va_calli (va_runS (As := As) (rest := rest) (n := n) X.1 hM (va_cwS n X.1.2.2.2.2 (g_inS k1 k2 k4 k5) rfl rfl rfl hdc hroom) ⟨Pwn.blind, fun U hU hW => ⟨rfl, NcA.moved hW.alike N, X.2.1.at hS hU hW, by rw [hU]; exact hR⟩⟩ rfl hn hml rfl (lv_room hw) hd hcel) hS (fun q _ h => h) (fun q h => h) (fun r u t H1 locs1 ht hvm hp hb _ _ hS1 => ?_)
  obtain ⟨rfl, hx, hq⟩ := hp
  exact kk u.1 u.2 H1 locs1 hq hx (by rw [← ht]; exact hb) hS1
theorem ud_call {y : MethodName} {bytes : ByteArray} {maxL n idx mc' ms' : Nat} (k' : Nat) {rt : Option FieldType} {As st0 : List Value} {Qm : Int → (Nat → Int) → Mem → Prop} (X : CX p m c cc nL s args own G B κ meth ret) (N : NcA s) (hR : Rp G e0 α κ B M H) (hS : va_S (fun q => B ≤ q) s.heap H locs)
    (hM : UD l y (Cond.code y bytes maxL rt) k' mc' ms' G e0 α κ B As M Qm) (k1 : Cond.methodLink own idx y ∈ gw) (k2 : Cond.static y ∈ gw) (k4 : Cond.initialized y.cls ∈ gw) (k5 : Cond.code y bytes maxL rt ∈ gw) (hdc : y.cls ≠ "java/lang/invoke/MethodHandle" ∧ y.cls ≠ "java/lang/invoke/VarHandle" ∧ (parseMethodDescriptor y.desc).map (fun d => d.parameters.length) = some n)
    (hroom : (rmX k' mc' ms').frames + 1 ≤ R.frames ∧ 8 + (maxL + 11) + (rmX k' mc' ms').locals ≤ R.locals) (hn : As.length = n) (hst : st0 = As.reverse ++ rest) (hw : (rest.map fun v => v.category).sum ≤ 8) (hml : ls.size = nL) (hd : decode cc pc = .ok (.invokestatic idx, 3)) (hcel : cells + mc' ≤ R.cells ∧ slots + ms' ≤ R.slots)
    (kk : ∀ (r : Int) (κ1 : Nat → Int) (α1 : Ax) (M1 : Mem) (H1 : Heap) (locs1 : List Loc), Qm r κ1 M1 → inR r → Ak α α1 → kOK κ1 → Rp G e0 α1 κ1 B M1 H1 → va_S (fun q => B ≤ q) s.heap H1 locs1 → W p l e R s m args below meth c H1 locs1 (cells + mc') (slots + ms') Q (F0 m (pc + 3) ls (.int (Int32.ofInt r) :: rest))) : W p l e R s m args below meth c H locs cells slots Q (F0 m pc ls st0) := by
  subst hst
  refine va_calli (va_runS (As := As) (rest := rest) (n := n) X.1 hM (va_cwS n X.1.2.2.2.2 (g_inS k1 k2 k4 k5) rfl rfl rfl hdc hroom) ⟨Pwn.blind, fun U hU hW => ⟨rfl, NcA.moved hW.alike N, X.2.1.at hS hU hW, by rw [hU]; exact hR⟩⟩ rfl hn hml rfl (lv_room hw) hd hcel) hS (fun q _ h => h) (fun q h => h) (fun r u t H1 locs1 ht hvm hp hb _ _ hS1 => ?_)
  obtain ⟨rfl, hx, hq⟩ := hp
  obtain ⟨α1, hA, hk, hR1⟩ := hb
  exact kk u.1 u.2.1 α1 u.2.2 H1 locs1 hq hx hA hk (by rw [← ht]; exact hR1) hS1
/-- returns -/
theorem su_iret {α0 : Ax} {κ0 : Nat → Int} {Qm : Int → Mem → Prop} {r : Int} (X : CX p m c cc nL s args own G B κ meth (some .int)) (hb : Bk G e0 α κ α0 κ0 B) (hR : Rp G e0 α κ B M H) (hS : va_S (fun q => B ≤ q) s.heap H locs) (hx : inR r) (hq : Qm r M) (hd : decode cc pc = .ok (.ireturn, 1)) (hmc : cells ≤ mc) (hms : slots ≤ ms) : WU p l e k mc ms s m args below meth c G e0 α0 κ0 B Qm H locs cells slots pc ls [.int (Int32.ofInt r)] :=
  W.widen hmc hms (W.iret X.1.1 X.1.2.1 X.2.2.2.1 (fun t ht _ => ⟨⟨_, (r, M), rfl, ⟨rfl, hx, hq⟩, by show Rp G e0 α0 κ0 B M t.heap; rw [ht]; exact hb _ _ hR⟩, hS.F ht⟩) hS.2.2 hd X.2.2.2.2)
theorem su_zret {α0 : Ax} {κ0 : Nat → Int} {Qm : Int → Mem → Prop} {r : Int} (X : CX p m c cc nL s args own G B κ meth (some .boolean)) (hb : Bk G e0 α κ α0 κ0 B) (hR : Rp G e0 α κ B M H) (hS : va_S (fun q => B ≤ q) s.heap H locs) (hx : bit r) (hq : Qm r M) (hd : decode cc pc = .ok (.ireturn, 1)) (hmc : cells ≤ mc) (hms : slots ≤ ms) : WU p l e k mc ms s m args below meth c G e0 α0 κ0 B Qm H locs cells slots pc ls [.int (Int32.ofInt r)] :=
  W.widen hmc hms (W.zret X.1.1 X.1.2.1 X.2.2.2.1 (bit_nar hx) (fun t ht _ => ⟨⟨_, (r, M), rfl, ⟨rfl, bit_R hx, hq⟩, by show Rp G e0 α0 κ0 B M t.heap; rw [ht]; exact hb _ _ hR⟩, hS.F ht⟩) hS.2.2 hd X.2.2.2.2)
theorem sd_zrtb {α0 : Ax} {Qm : Int → (Nat → Int) → Mem → Prop} {r : Int} (X : CX p m c cc nL s args own G B κ meth (some .boolean)) (hR : Rp G e0 α κ B M H) (hS : va_S (fun q => B ≤ q) s.heap H locs) (hx : bit r) (hq : Qm r κ M) (hA : Ak α0 α) (hd : decode cc pc = .ok (.ireturn, 1)) (hmc : cells ≤ mc) (hms : slots ≤ ms) : WD p l e k mc ms s m args below meth c G e0 α0 B Qm H locs cells slots pc ls [.int (Int32.ofInt r)] :=
  W.widen hmc hms (W.zret X.1.1 X.1.2.1 X.2.2.2.1 (bit_nar hx) (fun t ht _ => ⟨⟨_, (r, κ, M), rfl, ⟨rfl, bit_R hx, hq⟩, ⟨α, hA, X.2.2.1, by show Rp G e0 α κ B M t.heap; rw [ht]; exact hR⟩⟩, hS.F ht⟩) hS.2.2 hd X.2.2.2.2)
theorem sw_iret {α0 : Ax} {Qm : Int → (Nat → Int) → Mem → Prop} {r : Int} (X : CX p m c cc nL s args own G B κ meth (some .int)) (hR : Rp G e0 α κ B M H) (hS : va_S (fun q => B ≤ q) s.heap H locs) (hx : inR r) (hq : Qm r κ M) (hA : Ak α0 α) (hd : decode cc pc = .ok (.ireturn, 1)) (hmc : cells ≤ mc) (hms : slots ≤ ms) : WW p l e k mc ms s m args below meth c G e0 α0 B Qm H locs cells slots pc ls [.int (Int32.ofInt r)] :=
  W.widen hmc hms (vx_ret (W.iret X.1.1 X.1.2.1 X.2.2.2.1 (fun t ht _ => ⟨⟨_, (r, κ, M), rfl, ⟨rfl, hx, hq⟩, ⟨α, hA, X.2.2.1, by show Rp G e0 α κ B M t.heap; rw [ht]; exact hR⟩⟩, hS.F ht⟩) hS.2.2 hd X.2.2.2.2))
theorem sk_iret {Qm : Int → Mem → Prop} {r : Int} (X : CX p m c cc nL s args own G B κ meth (some .int)) (hR : Rp G e0 α κ B M H) (hS : va_S (fun q => B ≤ q) s.heap H locs) (hx : inR r) (hq : Qm r M) (hd : decode cc pc = .ok (.ireturn, 1)) (hmc : cells ≤ mc) (hms : slots ≤ ms) : WK p l e k mc ms s m args below meth c G e0 α κ B Qm H locs cells slots pc ls [.int (Int32.ofInt r)] :=
  W.widen hmc hms (vx_ret (W.iret X.1.1 X.1.2.1 X.2.2.2.1 (fun t ht _ => ⟨⟨_, (r, M), rfl, ⟨rfl, hx, hq⟩, by show Rp G e0 α κ B M t.heap; rw [ht]; exact hR⟩, hS.F ht⟩) hS.2.2 hd X.2.2.2.2))
def KX (p : Program) (l : Launch) (e : Env) (R : Room) (s : State) (m : MethodId) (args : Array Value) (below : List Frame) (meth : Method) (c : Code) (G : Gx) (e0 : Nat) (α : Ax) (κ : Nat → Int) (B : Nat) (Xm : String → Mem → Prop) (cells slots : Nat) (Q : State → Prop) (pc : Nat) (ls : Array Slot) (rest : List Value) : Prop :=
  ∀ (E : String) (M1 : Mem) (ce : Cell) (q : Nat) (H1 : Heap) (locs1 : List Loc), Xm E M1 → Rp G e0 α κ B M1 H1 → va_S (fun q => B ≤ q) s.heap H1 locs1 → H1[q]? = some ce → ce.vm = .none → s.vm.findClass E = some ce.cls → vx_W p l e R s m args below meth c H1 locs1 cells slots Q (F0 m pc ls rest) q
theorem sw_callV {y : MethodName} {bytes : ByteArray} {maxL n idx mc' ms' : Nat} (k' : Nat) {ret' : Option FieldType} {s0 : Nat} {Cn : String} {j : Int} {As st0 : List Value} {Qm : Mem → Prop} (X : CX p m c cc nL s args own G B κ meth ret) (hR : Rp G e0 α κ B M H) (hS : va_S (fun q => B ≤ q) s.heap H locs)
    (hM : XV l y (Cond.code y bytes maxL ret') k' mc' ms' G e0 α κ B (.ref (α s0 j) :: As) M Qm Xm) (k1 : Cond.methodLink own idx y ∈ gw) (k2 : Cond.instanceMethod y ∈ gw) (k3 : Cond.selects Cn y y ∈ gw) (k4 : Cond.initialized Cn ∈ gw) (k5 : Cond.code y bytes maxL ret' ∈ gw) (hdc : y.cls = Cn ∧ y.cls ≠ "java/lang/invoke/MethodHandle" ∧ y.cls ≠ "java/lang/invoke/VarHandle" ∧ (parseMethodDescriptor y.desc).map (fun d => d.parameters.length) = some n)
    (hroom : (rmX k' mc' ms').frames + 1 ≤ R.frames ∧ 8 + (maxL + 11) + (rmX k' mc' ms').locals ≤ R.locals) (hrc : ∃ cell : Cell, H[α s0 j]? = some cell ∧ cell.vm.isStatics = false ∧ s.vm.findClass Cn = some cell.cls) (hn : As.length = n) (hst : st0 = As.reverse ++ .ref (α s0 j) :: rest) (hw : (rest.map fun v => v.category).sum ≤ 8) (hml : ls.size = nL) (hd : decode cc pc = .ok (.invokevirtual idx, 3)) (hcel : cells + mc' ≤ R.cells ∧ slots + ms' ≤ R.slots)
    (kx : KX p l e R s m args below meth c G e0 α κ B Xm (cells + mc') (slots + ms') Q pc ls rest)
    (kk : ∀ (M1 : Mem) (H1 : Heap) (locs1 : List Loc), Qm M1 → Rp G e0 α κ B M1 H1 → va_S (fun q => B ≤ q) s.heap H1 locs1 → W p l e R s m args below meth c H1 locs1 (cells + mc') (slots + ms') Q (F0 m (pc + 3) ls rest)) : W p l e R s m args below meth c H locs cells slots Q (F0 m pc ls st0) := by
  subst hst
  refine vx_callv (vx_runV (As := As) (rest := rest) (n := n) X.1 hM (cwV n X.1.2.2.2.2 (g_inV k1 k2 k3 k4 k5) rfl rfl rfl hdc hroom) ⟨Pw.blind, hrc, fun U hU hW => ⟨rfl, X.2.1.at hS hU hW, by rw [hU]; exact hR⟩⟩ rfl hn hml rfl (lv_room hw) hd hcel) hS (fun q _ h => h) (fun q h => h) (fun q _ h => h) (fun E ce q9 u t H1 locs1 ht hvm hp hb _ _ hS1 hce hcv hcl => ?_) (fun u t H1 locs1 ht hvm hp hb _ _ hS1 => ?_)
  · obtain ⟨E', M1⟩ := u
    obtain ⟨rfl, hb⟩ := hb
    exact kx _ M1 ce q9 H1 locs1 hp (by rw [← ht]; exact hb) hS1 hce hcv hcl
  · exact kk u H1 locs1 hp (by rw [← ht]; exact hb) hS1
theorem sw_callI {y : MethodName} {bytes : ByteArray} {maxL n idx mc' ms' : Nat} (k' : Nat) {ret' : Option FieldType} {s0 : Nat} {Cn : String} {j : Int} {As st0 : List Value} {Qm : Int → Mem → Prop} (X : CX p m c cc nL s args own G B κ meth ret) (hR : Rp G e0 α κ B M H) (hS : va_S (fun q => B ≤ q) s.heap H locs)
    (hM : XI l y (Cond.code y bytes maxL ret') k' mc' ms' G e0 α κ B (.ref (α s0 j) :: As) M Qm Xm) (k1 : Cond.methodLink own idx y ∈ gw) (k2 : Cond.instanceMethod y ∈ gw) (k3 : Cond.selects Cn y y ∈ gw) (k4 : Cond.initialized Cn ∈ gw) (k5 : Cond.code y bytes maxL ret' ∈ gw) (hdc : y.cls = Cn ∧ y.cls ≠ "java/lang/invoke/MethodHandle" ∧ y.cls ≠ "java/lang/invoke/VarHandle" ∧ (parseMethodDescriptor y.desc).map (fun d => d.parameters.length) = some n)
    (hroom : (rmX k' mc' ms').frames + 1 ≤ R.frames ∧ 8 + (maxL + 11) + (rmX k' mc' ms').locals ≤ R.locals) (hrc : ∃ cell : Cell, H[α s0 j]? = some cell ∧ cell.vm.isStatics = false ∧ s.vm.findClass Cn = some cell.cls) (hn : As.length = n) (hst : st0 = As.reverse ++ .ref (α s0 j) :: rest) (hw : (rest.map fun v => v.category).sum ≤ 8) (hml : ls.size = nL) (hd : decode cc pc = .ok (.invokevirtual idx, 3)) (hcel : cells + mc' ≤ R.cells ∧ slots + ms' ≤ R.slots)
    (kx : KX p l e R s m args below meth c G e0 α κ B Xm (cells + mc') (slots + ms') Q pc ls rest)
    (kk : ∀ (r : Int) (M1 : Mem) (H1 : Heap) (locs1 : List Loc), Qm r M1 → inR r → Rp G e0 α κ B M1 H1 → va_S (fun q => B ≤ q) s.heap H1 locs1 → W p l e R s m args below meth c H1 locs1 (cells + mc') (slots + ms') Q (F0 m (pc + 3) ls (.int (Int32.ofInt r) :: rest))) : W p l e R s m args below meth c H locs cells slots Q (F0 m pc ls st0) := by
  subst hst
  refine vx_calli (vx_runV (As := As) (rest := rest) (n := n) X.1 hM (cwV n X.1.2.2.2.2 (g_inV k1 k2 k3 k4 k5) rfl rfl rfl hdc hroom) ⟨Pw.blind, hrc, fun U hU hW => ⟨rfl, X.2.1.at hS hU hW, by rw [hU]; exact hR⟩⟩ rfl hn hml rfl (lv_room hw) hd hcel) hS (fun q _ h => h) (fun q h => h) (fun q _ h => h) (fun E ce q9 u t H1 locs1 ht hvm hp hb _ _ hS1 hce hcv hcl => ?_) (fun r u t H1 locs1 ht hvm hp hb _ _ hS1 => ?_)
  · obtain ⟨E', M1⟩ := u
    obtain ⟨rfl, hb⟩ := hb
    exact kx _ M1 ce q9 H1 locs1 hp (by rw [← ht]; exact hb) hS1 hce hcv hcl
  · obtain ⟨rfl, hx, hq⟩ := hp
    exact kk u.1 u.2 H1 locs1 hq hx (by rw [← ht]; exact hb) hS1
theorem sw_callD {y : MethodName} {bytes : ByteArray} {maxL n idx mc' ms' : Nat} (k' : Nat) {ret' : Option FieldType} {s0 : Nat} {Cn : String} {j : Int} {As st0 : List Value} {Qm : Int → (Nat → Int) → Mem → Prop} (X : CX p m c cc nL s args own G B κ meth ret) (hR : Rp G e0 α κ B M H) (hS : va_S (fun q => B ≤ q) s.heap H locs)
    (hM : XD l y (Cond.code y bytes maxL ret') k' mc' ms' G e0 α κ B (.ref (α s0 j) :: As) M Qm Xm) (k1 : Cond.methodLink own idx y ∈ gw) (k2 : Cond.instanceMethod y ∈ gw) (k3 : Cond.selects Cn y y ∈ gw) (k4 : Cond.initialized Cn ∈ gw) (k5 : Cond.code y bytes maxL ret' ∈ gw) (hdc : y.cls = Cn ∧ y.cls ≠ "java/lang/invoke/MethodHandle" ∧ y.cls ≠ "java/lang/invoke/VarHandle" ∧ (parseMethodDescriptor y.desc).map (fun d => d.parameters.length) = some n)
    (hroom : (rmX k' mc' ms').frames + 1 ≤ R.frames ∧ 8 + (maxL + 11) + (rmX k' mc' ms').locals ≤ R.locals) (hrc : ∃ cell : Cell, H[α s0 j]? = some cell ∧ cell.vm.isStatics = false ∧ s.vm.findClass Cn = some cell.cls) (hn : As.length = n) (hst : st0 = As.reverse ++ .ref (α s0 j) :: rest) (hw : (rest.map fun v => v.category).sum ≤ 8) (hml : ls.size = nL) (hd : decode cc pc = .ok (.invokevirtual idx, 3)) (hcel : cells + mc' ≤ R.cells ∧ slots + ms' ≤ R.slots)
    (kx : KX p l e R s m args below meth c G e0 α κ B Xm (cells + mc') (slots + ms') Q pc ls rest)
    (kk : ∀ (r : Int) (κ1 : Nat → Int) (α1 : Ax) (M1 : Mem) (H1 : Heap) (locs1 : List Loc), Qm r κ1 M1 → inR r → Ak α α1 → kOK κ1 → Rp G e0 α1 κ1 B M1 H1 → va_S (fun q => B ≤ q) s.heap H1 locs1 → W p l e R s m args below meth c H1 locs1 (cells + mc') (slots + ms') Q (F0 m (pc + 3) ls (.int (Int32.ofInt r) :: rest))) : W p l e R s m args below meth c H locs cells slots Q (F0 m pc ls st0) := by
  subst hst
  refine vx_calli (vx_runV (As := As) (rest := rest) (n := n) X.1 hM (cwV n X.1.2.2.2.2 (g_inV k1 k2 k3 k4 k5) rfl rfl rfl hdc hroom) ⟨Pw.blind, hrc, fun U hU hW => ⟨rfl, X.2.1.at hS hU hW, by rw [hU]; exact hR⟩⟩ rfl hn hml rfl (lv_room hw) hd hcel) hS (fun q _ h => h) (fun q h => h) (fun q _ h => h) (fun E ce q9 u t H1 locs1 ht hvm hp hb _ _ hS1 hce hcv hcl => ?_) (fun r u t H1 locs1 ht hvm hp hb _ _ hS1 => ?_)
  · obtain ⟨E', M1⟩ := u
    obtain ⟨rfl, hb⟩ := hb
    exact kx _ M1 ce q9 H1 locs1 hp (by rw [← ht]; exact hb) hS1 hce hcv hcl
  · obtain ⟨rfl, hx, hq⟩ := hp
    obtain ⟨α1, hA, hk, hR1⟩ := hb
    exact kk u.1 u.2.1 α1 u.2.2 H1 locs1 hq hx hA hk (by rw [← ht]; exact hR1) hS1
/-- a handler: what is thrown lies on the stack -/
theorem sw_catch {E name : String} {ce : Cell} {q : Nat} {hh pre suf : List (Nat × Nat × Nat × Nat)} {a b h ct : Nat} (X : CX p m c cc nL s args own G B κ meth ret) (hT : c.exceptionTable.toList = tableOf hh) (hs : hh = pre ++ (a, b, h, ct) :: suf) (hpass : ∀ z ∈ pre, (z.2.2.2 ≠ 0 ∧ ∃ nm : String, Cond.classLink own z.2.2.2 nm ∈ gw ∧ va_Nc E nm s)) (hx : covers ⟨a, b, h, ct⟩ pc = true) (h0 : ct ≠ 0) (hl : Cond.classLink own ct name ∈ gw) (hc : Cond.castable E name ∈ nw)
    (hcell : H[q]? = some ce) (hv : ce.vm = .none) (hcl : s.vm.findClass E = some ce.cls) (kk : W p l e R s m args below meth c H locs cells slots Q (F0 m h ls [.ref q])) : vx_W p l e R s m args below meth c H locs cells slots Q (F0 m pc ls rest) q := by
  refine vx_catch (own := own) (name := name) X.1.2.2.2.1 (tableOf pre) ⟨a, b, h, ct⟩ (tableOf suf) ?_ ?_ hx h0 (X.1.2.2.2.2 _ hl) (va_Nw.use rfl (X.2.1.2.1.1 _ hc)) hcell hv hcl kk
  · rw [hT, hs]
    simp [tableOf]
  · intro z hz
    obtain ⟨y, hy, rfl⟩ := List.mem_map.mp hz
    obtain ⟨h1, nm, h2, h3⟩ := hpass y hy
    exact Or.inr ⟨h1, nm, X.1.2.2.2.2 _ h2, h3⟩
end WP
