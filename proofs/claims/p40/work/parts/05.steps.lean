/-! one instruction each, over the abstract memory -/
abbrev tys (G : Gx) : List (ClassId × FieldType) := [(G.2.1, .int), (G.2.2.1, .boolean), (G.2.2.2.1, .long), (G.2.2.2.2.1, .object "java/lang/Object")]
/-- the texts of the class's throws -/
def strL : List (String × Nat × String) := [("TablePages", 71, "kind or value is out of range"), ("TablePages", 95, "there are 6 columns, or there is a row"), ("TablePages", 102, "part or group is out of range"), ("TablePages", 108, "there is no column, or the part is full"), ("TablePages", 410, "no such row"), ("TablePages", 405, "no such column"), ("TablePages", 121, "rows or columns is out of range"), ("TablePages", 136, "there are 100 cells, or no free places for it"), ("TablePages", 415, "no such cell"), ("TablePages", 150, "length or cut is out of range"), ("TablePages", 158, "the cell has a figure, or 12 words"), ("TablePages", 168, "hundredths or decimals is out of range, or they do not agree"), ("TablePages", 176, "the cell has words, or spans several rows or columns"), ("TablePages", 184, "lines is out of range"), ("TablePages", 193, "the cell begins in a head or foot row"), ("TablePages", 225, "a cell of the body spans several rows"), ("TablePages", 201, "width or lines is out of range"), ("TablePages", 217, "all columns would be hidden"), ("TablePages", 294, "kind, side or weight is out of range"), ("TablePages", 301, "no such cell, row or column"), ("TablePages", 259, "the cell has no figure, or is out"), ("TablePages", 420, "the table cannot be set"), ("TablePages", 341, "it is no body row, or page is below 0"), ("TablePages", 336, "it is no body row"), ("TablePages", 425, "no such page"), ("TablePages", 353, "it is no cell of the body, or page is below 0"), ("TablePages", 308, "side is out of range"), ("TablePages", 310, "the column is hidden")]
def mrp (j : Nat) : Int32 := if j = 0 then 3 else if j = 1 then 24 else 2
/-- what stands outside and is only read -/
def SF (G : Gx) (B : Nat) (U : State) (H : Heap) : Prop := (∀ w ∈ nw, va_Nw w U) ∧ vx_Zq Bundle.tN "UNASSIGNED_STACK" Bundle.steD (fun q => B ≤ q) U H ∧ vx_Zq Bundle.tN "SUPPRESSED_SENTINEL" Bundle.listD (fun q => B ≤ q) U H ∧ (∀ q ∈ strL, ∃ sa : Nat, vk_R q.1 q.2.1 q.2.2 sa U) ∧
  (∃ t : Nat, va_Z "TablePages" "MOST_ROWS_OF_PART" "[I" (.ref t) (fun q => B ≤ q) U H ∧ va_T .int t 3 (fun j => .int (mrp j)) (fun q => B ≤ q) U H) ∧
  va_Z "java/util/ArrayList" "DEFAULTCAPACITY_EMPTY_ELEMENTDATA" "[Ljava/lang/Object;" (.ref G.2.2.2.2.2) (fun q => B ≤ q) U H ∧ va_T (.object "java/lang/Object") G.2.2.2.2.2 0 (fun _ => .null) (fun q => B ≤ q) U H ∧ (∃ mi : Nat, va_Mi "[Ljava/lang/Object;" mi U) ∧ va_AO "java/lang/Object" U
theorem SF.to {G : Gx} {B : Nat} {u U : State} {H H1 : Heap} (h : SF G B u H) (hW : u.WarmedH U.vm) (hq : ∀ a : Nat, a < H.size → ¬ B ≤ a → H1[a]? = H[a]?) : SF G B U H1 := by
  obtain ⟨h1, h2, h3, h4, ⟨t, h5, h6⟩, h7, h8, ⟨mi, h9⟩, h10⟩ := h
  refine ⟨fun w hw => nw_warm (List.mem_filter.mp hw).2 hW (h1 w hw), vx_Zq.moved hW.alike (h2.kept hq), vx_Zq.moved hW.alike (h3.kept hq), fun q hq' => ?_, ⟨t, (h5.kept hq).moved hW.alike, va_T.moved hW.alike (h6.kept hq)⟩, (h7.kept hq).moved hW.alike, va_T.moved hW.alike (h8.kept hq), ⟨mi, h9.moved hW.alike⟩, h10.moved hW.alike⟩
  obtain ⟨sa, hs⟩ := h4 q hq'
  exact ⟨sa, vk_R.warm hW hs⟩
def EV (G : Gx) (B : Nat) (s : State) : Prop := va_K G.1 vwCl (tys G) s ∧ SF G B s s.heap ∧ B ≤ s.heap.size
theorem EV.at {G : Gx} {B : Nat} {s U : State} {H : Heap} {locs : List Loc} (h : EV G B s) (hS : va_S (fun q => B ≤ q) s.heap H locs) (hU : U.heap = H) (hW : s.WarmedH U.vm) : EV G B U :=
  ⟨va_K.moved hW.alike h.1, by rw [hU]; exact h.2.1.to hW hS.2.1, by rw [hU]; exact Nat.le_trans h.2.2 hS.1⟩
def Pw (G : Gx) (e0 : Nat) (α : Ax) (κ : Nat → Int) (B : Nat) (M : Mem) : State → Prop := fun U => EV G B U ∧ Rp G e0 α κ B M U.heap
theorem Pw.blind {G : Gx} {e0 : Nat} {α : Ax} {κ : Nat → Int} {B : Nat} {M : Mem} {av : List Value} : FrameBlind (va_Pc av (Pw G e0 α κ B M)) := fun a U g mk q =>
  ⟨q.1, ⟨va_K.moved (u := U) (U := U.calling g mk a) (Vm.Alike.refl U.vm) q.2.1.1, SF.to (u := U) (U := U.calling g mk a) (H1 := (U.calling g mk a).heap) q.2.1.2.1 (State.WarmedH.refl U) (fun _ _ _ => rfl), q.2.1.2.2⟩, q.2.2⟩
def QI (G : Gx) (e0 : Nat) (α : Ax) (κ : Nat → Int) (B : Nat) (Qm : Int → Mem → Prop) : Array Value → State → Outcome → State → Prop :=
  va_Qi (fun r (u : Int × Mem) => r = Int32.ofInt u.1 ∧ inR u.1 ∧ Qm u.1 u.2) (fun u U => Rp G e0 α κ B u.2 U.heap) (fun q => B ≤ q)
def QV (G : Gx) (e0 : Nat) (α : Ax) (κ : Nat → Int) (B : Nat) (Qm : Mem → Prop) : Array Value → State → Outcome → State → Prop :=
  va_Qv (fun (u : Mem) => Qm u) (fun u U => Rp G e0 α κ B u U.heap) (fun q => B ≤ q)
/-- the room of a method under which n calls may stand open -/
def rmL (n : Nat) : Room := { frames := n, cells := 0, slots := 0, locals := 38 * n }
/-- contracts: an int method, a void one; nothing is made -/
def CI (l : Launch) (y : MethodName) (cd : Cond) (n : Nat) (G : Gx) (e0 : Nat) (α : Ax) (κ : Nat → Int) (B : Nat) (av : List Value) (M : Mem) (Qm : Int → Mem → Prop) : Prop :=
  Met l y (cd :: gw) (rmL n) (va_Pc av (Pw G e0 α κ B M)) (QI G e0 α κ B Qm) 0 0 (fun q => B ≤ q)
def CV (l : Launch) (y : MethodName) (cd : Cond) (n : Nat) (G : Gx) (e0 : Nat) (α : Ax) (κ : Nat → Int) (B : Nat) (av : List Value) (M : Mem) (Qm : Mem → Prop) : Prop :=
  Met l y (cd :: gw) (rmL n) (va_Pc av (Pw G e0 α κ B M)) (QV G e0 α κ B Qm) 0 0 (fun q => B ≤ q)
section SA
variable {p : Program} {l : Launch} {e : Env} {R : Room} {s : State} {m : MethodId} {args : Array Value} {below : List Frame} {meth : Method} {c : Code} {H : Heap} {locs : List Loc} {cells slots : Nat} {Q : State → Prop}
variable {cc : ByteArray} {nL : Nat} {own : String} {pc : Nat} {ls : Array Slot} {rest : List Value} {G : Gx} {e0 : Nat} {α : Ax} {κ : Nat → Int} {B : Nat} {M : Mem}
theorem sa_iadd {a b : Int} (C : CallFix p m c cc nL s args gw own) (hd : decode cc pc = .ok (.iadd, 1)) (kk : W p l e R s m args below meth c H locs cells slots Q (F0 m (pc + 1) ls (.int (Int32.ofInt (a + b)) :: rest))) : W p l e R s m args below meth c H locs cells slots Q (F0 m pc ls (.int (Int32.ofInt b) :: .int (Int32.ofInt a) :: rest)) :=
  lv_iadd C.1 C.2.1 hd (by rw [← Int32.ofInt_add]; exact kk)
theorem sa_isub {a b : Int} (C : CallFix p m c cc nL s args gw own) (hd : decode cc pc = .ok (.isub, 1)) (kk : W p l e R s m args below meth c H locs cells slots Q (F0 m (pc + 1) ls (.int (Int32.ofInt (a - b)) :: rest))) : W p l e R s m args below meth c H locs cells slots Q (F0 m pc ls (.int (Int32.ofInt b) :: .int (Int32.ofInt a) :: rest)) :=
  lv_isub C.1 C.2.1 hd (by rw [← Int32.ofInt_sub]; exact kk)
theorem sa_imul {a b : Int} (C : CallFix p m c cc nL s args gw own) (hd : decode cc pc = .ok (.imul, 1)) (kk : W p l e R s m args below meth c H locs cells slots Q (F0 m (pc + 1) ls (.int (Int32.ofInt (a * b)) :: rest))) : W p l e R s m args below meth c H locs cells slots Q (F0 m pc ls (.int (Int32.ofInt b) :: .int (Int32.ofInt a) :: rest)) :=
  lv_imul C.1 C.2.1 hd (by rw [← Int32.ofInt_mul]; exact kk)
theorem sa_ineg {a : Int} (C : CallFix p m c cc nL s args gw own) (hd : decode cc pc = .ok (.ineg, 1)) (kk : W p l e R s m args below meth c H locs cells slots Q (F0 m (pc + 1) ls (.int (Int32.ofInt (-a)) :: rest))) : W p l e R s m args below meth c H locs cells slots Q (F0 m pc ls (.int (Int32.ofInt a) :: rest)) :=
  lv_ineg C.1 C.2.1 hd (by rw [← Int32.ofInt_neg]; exact kk)
theorem sa_idiv {a b : Int} (C : CallFix p m c cc nL s args gw own) (ha : inR a) (hb : inR b) (h0 : b ≠ 0) (hd : decode cc pc = .ok (.idiv, 1)) (kk : W p l e R s m args below meth c H locs cells slots Q (F0 m (pc + 1) ls (.int (Int32.ofInt (a.tdiv b)) :: rest))) : W p l e R s m args below meth c H locs cells slots Q (F0 m pc ls (.int (Int32.ofInt b) :: .int (Int32.ofInt a) :: rest)) :=
  lv_idiv C.1 C.2.1 hd (fun z => h0 ((inR_eq hb ⟨by decide, by decide⟩).mp (z.trans rfl))) (by
    rw [← Int32.ofInt_tdiv (by have := ha.1; rw [Int32.toInt_minValue]; omega) (by have := ha.2; rw [Int32.toInt_maxValue]; omega) (by have := hb.1; rw [Int32.toInt_minValue]; omega) (by have := hb.2; rw [Int32.toInt_maxValue]; omega)]; exact kk)
theorem sa_irem {a b : Int} (C : CallFix p m c cc nL s args gw own) (ha : inR a) (hb : inR b) (h0 : b ≠ 0) (hd : decode cc pc = .ok (.irem, 1)) (kk : W p l e R s m args below meth c H locs cells slots Q (F0 m (pc + 1) ls (.int (Int32.ofInt (a.tmod b)) :: rest))) : W p l e R s m args below meth c H locs cells slots Q (F0 m pc ls (.int (Int32.ofInt b) :: .int (Int32.ofInt a) :: rest)) :=
  lv_irem C.1 C.2.1 hd (fun z => h0 ((inR_eq hb ⟨by decide, by decide⟩).mp (z.trans rfl))) (by
    rw [← Int32.ofInt_tdiv (by have := ha.1; rw [Int32.toInt_minValue]; omega) (by have := ha.2; rw [Int32.toInt_maxValue]; omega) (by have := hb.1; rw [Int32.toInt_minValue]; omega) (by have := hb.2; rw [Int32.toInt_maxValue]; omega), ← Int32.ofInt_mul, ← Int32.ofInt_sub,
      show a - a.tdiv b * b = a.tmod b by rw [Int.tmod_def, Int.mul_comm]]; exact kk)
theorem sa_const {n : Int} (C : CallFix p m c cc nL s args gw own) (hd : decode cc pc = .ok (.iconst n, 1)) (kk : W p l e R s m args below meth c H locs cells slots Q (F0 m (pc + 1) ls (.int (Int32.ofInt n) :: rest))) : W p l e R s m args below meth c H locs cells slots Q (F0 m pc ls rest) :=
  lv_iconst C.1 C.2.1 hd rfl kk
theorem sa_bipush {n : Int} (C : CallFix p m c cc nL s args gw own) (hd : decode cc pc = .ok (.bipush n, 2)) (hv : (Int8.ofInt n).toInt32 = Int32.ofInt n) (kk : W p l e R s m args below meth c H locs cells slots Q (F0 m (pc + 2) ls (.int (Int32.ofInt n) :: rest))) : W p l e R s m args below meth c H locs cells slots Q (F0 m pc ls rest) :=
  lv_bipush C.1 C.2.1 hd hv kk
theorem sa_sipush {n : Int} (C : CallFix p m c cc nL s args gw own) (hd : decode cc pc = .ok (.sipush n, 3)) (hv : (Int16.ofInt n).toInt32 = Int32.ofInt n) (kk : W p l e R s m args below meth c H locs cells slots Q (F0 m (pc + 3) ls (.int (Int32.ofInt n) :: rest))) : W p l e R s m args below meth c H locs cells slots Q (F0 m pc ls rest) :=
  lv_sipush C.1 C.2.1 hd hv kk
theorem sa_iload_n {k : Fin 4} {i : Nat} {x : Int32} (C : CallFix p m c cc nL s args gw own) (hd : decode cc pc = .ok (.iload_n k, 1)) (hi : (k : Nat) = i) (hl : ls[i]? = some (.val (.int x))) (kk : W p l e R s m args below meth c H locs cells slots Q (F0 m (pc + 1) ls (.int x :: rest))) : W p l e R s m args below meth c H locs cells slots Q (F0 m pc ls rest) := lv_iload_n C.1 C.2.1 hd hi hl kk
theorem sa_icmp_eq {a b : Int} {off : Int} {tgt : Nat} (C : CallFix p m c cc nL s args gw own) (ha : inR a) (hb : inR b) (hd : decode cc pc = .ok (.if_icmp .eq off, 3)) (ht : (pc : Int) + off = (tgt : Int)) (kt : a = b → W p l e R s m args below meth c H locs cells slots Q (F0 m tgt ls rest)) (kf : ¬ a = b → W p l e R s m args below meth c H locs cells slots Q (F0 m (pc + 3) ls rest)) : W p l e R s m args below meth c H locs cells slots Q (F0 m pc ls (.int (Int32.ofInt b) :: .int (Int32.ofInt a) :: rest)) :=
  lv_icmp_eq C.1 C.2.1 hd ht (fun z => kt ((inR_eq ha hb).mp z)) (fun z => kf (fun y => z ((inR_eq ha hb).mpr y)))
theorem sa_icmp_ne {a b : Int} {off : Int} {tgt : Nat} (C : CallFix p m c cc nL s args gw own) (ha : inR a) (hb : inR b) (hd : decode cc pc = .ok (.if_icmp .ne off, 3)) (ht : (pc : Int) + off = (tgt : Int)) (kt : ¬ a = b → W p l e R s m args below meth c H locs cells slots Q (F0 m tgt ls rest)) (kf : a = b → W p l e R s m args below meth c H locs cells slots Q (F0 m (pc + 3) ls rest)) : W p l e R s m args below meth c H locs cells slots Q (F0 m pc ls (.int (Int32.ofInt b) :: .int (Int32.ofInt a) :: rest)) :=
  lv_icmp_ne C.1 C.2.1 hd ht (fun z => kt (fun y => z ((inR_eq ha hb).mpr y))) (fun z => kf ((inR_eq ha hb).mp z))
theorem sa_icmp_lt {a b : Int} {off : Int} {tgt : Nat} (C : CallFix p m c cc nL s args gw own) (ha : inR a) (hb : inR b) (hd : decode cc pc = .ok (.if_icmp .lt off, 3)) (ht : (pc : Int) + off = (tgt : Int)) (kt : a < b → W p l e R s m args below meth c H locs cells slots Q (F0 m tgt ls rest)) (kf : b ≤ a → W p l e R s m args below meth c H locs cells slots Q (F0 m (pc + 3) ls rest)) : W p l e R s m args below meth c H locs cells slots Q (F0 m pc ls (.int (Int32.ofInt b) :: .int (Int32.ofInt a) :: rest)) :=
  lv_icmp_lt C.1 C.2.1 hd ht (fun z => kt ((inR_lt ha hb).mp z)) (fun z => kf (Int.not_lt.mp (fun y => z ((inR_lt ha hb).mpr y))))
theorem sa_icmp_ge {a b : Int} {off : Int} {tgt : Nat} (C : CallFix p m c cc nL s args gw own) (ha : inR a) (hb : inR b) (hd : decode cc pc = .ok (.if_icmp .ge off, 3)) (ht : (pc : Int) + off = (tgt : Int)) (kt : b ≤ a → W p l e R s m args below meth c H locs cells slots Q (F0 m tgt ls rest)) (kf : a < b → W p l e R s m args below meth c H locs cells slots Q (F0 m (pc + 3) ls rest)) : W p l e R s m args below meth c H locs cells slots Q (F0 m pc ls (.int (Int32.ofInt b) :: .int (Int32.ofInt a) :: rest)) :=
  lv_icmp_ge C.1 C.2.1 hd ht (fun z => kt ((inR_le hb ha).mp z)) (fun z => kf (Int.not_le.mp (fun y => z ((inR_le hb ha).mpr y))))
theorem sa_icmp_gt {a b : Int} {off : Int} {tgt : Nat} (C : CallFix p m c cc nL s args gw own) (ha : inR a) (hb : inR b) (hd : decode cc pc = .ok (.if_icmp .gt off, 3)) (ht : (pc : Int) + off = (tgt : Int)) (kt : b < a → W p l e R s m args below meth c H locs cells slots Q (F0 m tgt ls rest)) (kf : a ≤ b → W p l e R s m args below meth c H locs cells slots Q (F0 m (pc + 3) ls rest)) : W p l e R s m args below meth c H locs cells slots Q (F0 m pc ls (.int (Int32.ofInt b) :: .int (Int32.ofInt a) :: rest)) :=
  lv_icmp_gt C.1 C.2.1 hd ht (fun z => kt ((inR_lt hb ha).mp z)) (fun z => kf (Int.not_lt.mp (fun y => z ((inR_lt hb ha).mpr y))))
theorem sa_icmp_le {a b : Int} {off : Int} {tgt : Nat} (C : CallFix p m c cc nL s args gw own) (ha : inR a) (hb : inR b) (hd : decode cc pc = .ok (.if_icmp .le off, 3)) (ht : (pc : Int) + off = (tgt : Int)) (kt : a ≤ b → W p l e R s m args below meth c H locs cells slots Q (F0 m tgt ls rest)) (kf : b < a → W p l e R s m args below meth c H locs cells slots Q (F0 m (pc + 3) ls rest)) : W p l e R s m args below meth c H locs cells slots Q (F0 m pc ls (.int (Int32.ofInt b) :: .int (Int32.ofInt a) :: rest)) :=
  lv_icmp_le C.1 C.2.1 hd ht (fun z => kt ((inR_le ha hb).mp z)) (fun z => kf (Int.not_le.mp (fun y => z ((inR_le ha hb).mpr y))))
theorem ofI_0 : Int32.ofInt 0 = 0 := rfl
theorem inR_0 : inR 0 := ⟨by decide, by decide⟩
theorem sa_if_eq {a : Int} {off : Int} {tgt : Nat} (C : CallFix p m c cc nL s args gw own) (ha : inR a) (hd : decode cc pc = .ok (.ifCond .eq off, 3)) (ht : (pc : Int) + off = (tgt : Int)) (kt : a = 0 → W p l e R s m args below meth c H locs cells slots Q (F0 m tgt ls rest)) (kf : ¬ a = 0 → W p l e R s m args below meth c H locs cells slots Q (F0 m (pc + 3) ls rest)) : W p l e R s m args below meth c H locs cells slots Q (F0 m pc ls (.int (Int32.ofInt a) :: rest)) :=
  lv_if_eq C.1 C.2.1 hd ht (fun z => kt ((inR_eq ha inR_0).mp (z.trans ofI_0.symm))) (fun z => kf (fun y => z (by rw [y]; rfl)))
theorem sa_if_ne {a : Int} {off : Int} {tgt : Nat} (C : CallFix p m c cc nL s args gw own) (ha : inR a) (hd : decode cc pc = .ok (.ifCond .ne off, 3)) (ht : (pc : Int) + off = (tgt : Int)) (kt : ¬ a = 0 → W p l e R s m args below meth c H locs cells slots Q (F0 m tgt ls rest)) (kf : a = 0 → W p l e R s m args below meth c H locs cells slots Q (F0 m (pc + 3) ls rest)) : W p l e R s m args below meth c H locs cells slots Q (F0 m pc ls (.int (Int32.ofInt a) :: rest)) :=
  lv_if_ne C.1 C.2.1 hd ht (fun z => kt (fun y => z (by rw [y]; rfl))) (fun z => kf ((inR_eq ha inR_0).mp (z.trans ofI_0.symm)))
theorem sa_if_lt {a : Int} {off : Int} {tgt : Nat} (C : CallFix p m c cc nL s args gw own) (ha : inR a) (hd : decode cc pc = .ok (.ifCond .lt off, 3)) (ht : (pc : Int) + off = (tgt : Int)) (kt : a < 0 → W p l e R s m args below meth c H locs cells slots Q (F0 m tgt ls rest)) (kf : 0 ≤ a → W p l e R s m args below meth c H locs cells slots Q (F0 m (pc + 3) ls rest)) : W p l e R s m args below meth c H locs cells slots Q (F0 m pc ls (.int (Int32.ofInt a) :: rest)) :=
  lv_if_lt C.1 C.2.1 hd ht (fun z => kt ((inR_lt ha inR_0).mp z)) (fun z => kf (Int.not_lt.mp (fun y => z ((inR_lt ha inR_0).mpr y))))
theorem sa_if_ge {a : Int} {off : Int} {tgt : Nat} (C : CallFix p m c cc nL s args gw own) (ha : inR a) (hd : decode cc pc = .ok (.ifCond .ge off, 3)) (ht : (pc : Int) + off = (tgt : Int)) (kt : 0 ≤ a → W p l e R s m args below meth c H locs cells slots Q (F0 m tgt ls rest)) (kf : a < 0 → W p l e R s m args below meth c H locs cells slots Q (F0 m (pc + 3) ls rest)) : W p l e R s m args below meth c H locs cells slots Q (F0 m pc ls (.int (Int32.ofInt a) :: rest)) :=
  lv_if_ge C.1 C.2.1 hd ht (fun z => kt ((inR_le inR_0 ha).mp z)) (fun z => kf (Int.not_le.mp (fun y => z ((inR_le inR_0 ha).mpr y))))
theorem sa_if_gt {a : Int} {off : Int} {tgt : Nat} (C : CallFix p m c cc nL s args gw own) (ha : inR a) (hd : decode cc pc = .ok (.ifCond .gt off, 3)) (ht : (pc : Int) + off = (tgt : Int)) (kt : 0 < a → W p l e R s m args below meth c H locs cells slots Q (F0 m tgt ls rest)) (kf : a ≤ 0 → W p l e R s m args below meth c H locs cells slots Q (F0 m (pc + 3) ls rest)) : W p l e R s m args below meth c H locs cells slots Q (F0 m pc ls (.int (Int32.ofInt a) :: rest)) :=
  lv_if_gt C.1 C.2.1 hd ht (fun z => kt ((inR_lt inR_0 ha).mp z)) (fun z => kf (Int.not_lt.mp (fun y => z ((inR_lt inR_0 ha).mpr y))))
theorem sa_if_le {a : Int} {off : Int} {tgt : Nat} (C : CallFix p m c cc nL s args gw own) (ha : inR a) (hd : decode cc pc = .ok (.ifCond .le off, 3)) (ht : (pc : Int) + off = (tgt : Int)) (kt : a ≤ 0 → W p l e R s m args below meth c H locs cells slots Q (F0 m tgt ls rest)) (kf : 0 < a → W p l e R s m args below meth c H locs cells slots Q (F0 m (pc + 3) ls rest)) : W p l e R s m args below meth c H locs cells slots Q (F0 m pc ls (.int (Int32.ofInt a) :: rest)) :=
  lv_if_le C.1 C.2.1 hd ht (fun z => kt ((inR_le ha inR_0).mp z)) (fun z => kf (Int.not_le.mp (fun y => z ((inR_le ha inR_0).mpr y))))

/-! fields -/
theorem sa_get {ref Cn : String} {T : u_T} {N ci index s0 : Nat} {j : Int} {fs : List Value} {v : Value} (C : CallFix p m c cc nL s args gw own) (E : EV G B s) (hR : Rp G e0 α κ B M H) (hs : s0 < NS) (ho : okk κ s0 j) (he : ent G e0 α M s0 j = .inr (ci, fs)) (hc : vwCl[ci]? = some (Cn, T, N)) (hin : ∀ w ∈ u_ws Cn T N, w ∈ gw) (k : Nat) (hk : k < N) (hlink : Cond.fieldLink own index ref (T k).2.1 (T k).2.2.1 ∈ gw) (href : (T k).1 = ref) (hv : fs[k]? = some v) (hd : decode cc pc = .ok (.getfield index, 3))
    (kk : W p l e R s m args below meth c H locs cells slots Q (F0 m (pc + 3) ls (v :: rest))) : W p l e R s m args below meth c H locs cells slots Q (F0 m pc ls (.ref (α s0 j) :: rest)) :=
  va_get C.1 C.2.1 C.2.2.2.2 hin C.2.2.2.1 E.1 (hR.one hs ho he) 0 rfl hc k hk (C.2.2.2.2 _ hlink) (fun x h => by rw [← href]; exact h) hv hd kk
theorem sa_put {ref Cn : String} {T : u_T} {N ci index s0 : Nat} {j kx x : Int} {fs : List Value} (C : CallFix p m c cc nL s args gw own) (E : EV G B s) (hR : Rp G e0 α κ B M H) (hs : s0 < NS) (ho : okk κ s0 j) (he : ent G e0 α M s0 j = .inr (ci, fs)) (hc : vwCl[ci]? = some (Cn, T, N)) (hin : ∀ w ∈ u_ws Cn T N, w ∈ gw) (ty0 : Nat → FieldType) (hty : ∀ k, k < N → parseFieldDescriptor (T k).2.2.1 = some (ty0 k)) (hnm : ∀ a, a < N → ∀ b, b < N → a ≠ b → (T a).2.1 ≠ (T b).2.1) (k : Nat) (hk : k < N) (hlink : Cond.fieldLink own index ref (T k).2.1 (T k).2.2.1 ∈ gw) (href : (T k).1 = ref) (hfin : (T k).2.2.2 = false) {ty : FieldType} (hdp : parseFieldDescriptor (T k).2.2.1 = some ty) (hn : narrow ty (.int (Int32.ofInt x)) = .int (Int32.ofInt x)) (hfit : fits ty (.int (Int32.ofInt x)) = true) (hl : k < fs.length)
    (he' : ent G e0 α (up M s0 j kx x) s0 j = .inr (ci, fs.set k (.int (Int32.ofInt x)))) (hpl : plain s0 kx = true) (hx : inR x) (hS : va_S (fun q => B ≤ q) s.heap H locs) (hd : decode cc pc = .ok (.putfield index, 3))
    (kk : ∀ (H1 : Heap) (locs1 : List Loc), Rp G e0 α κ B (up M s0 j kx x) H1 → va_S (fun q => B ≤ q) s.heap H1 locs1 → W p l e R s m args below meth c H1 locs1 cells slots Q (F0 m (pc + 3) ls rest)) : W p l e R s m args below meth c H locs cells slots Q (F0 m pc ls (.int (Int32.ofInt x) :: .ref (α s0 j) :: rest)) := by
  obtain ⟨hexec, hb, hml, hown, hts⟩ := C
  have hK := E.1
  have hts' : ∀ w ∈ gw, w.before args s = true := hts
  have hap := va_apart (own := own) hts' hin ty0 hty hnm hK hc
  have hq := hR.ne hs ho
  rw [he] at hq
  obtain ⟨r, h1, cell, q1, q2, q3, q4⟩ := hq
  have hr : r = (Cn, T, N) := Option.some.inj (h1.symm.trans hc)
  subst hr
  obtain ⟨hSl, hfc, kC, hkC, hkind⟩ := hK.1 ci _ hc
  obtain ⟨cf, kf, fi, f, hi, hsl⟩ := hSl k hk
  have hlay := hts' _ (hin _ (u_in_lay hk))
  unfold u_lay at hlay
  rw [if_neg (by rw [hfin]; decide)] at hlay
  have hst := (u_facts hfc hkC (u_lays hts' hin hk) hi).1
  have h6 := u_store hfc hkC hkind hlay hi hdp hn hfit
  have hsame : s.fieldFound? ref (T k).2.1 (T k).2.2.1 = some (cf, kf, fi, f) := by rw [← href]; exact hi
  refine W.putK hexec hb (f := f) ⟨hown, hts' _ hlink, ⟨_, _, _, hsame⟩, hst⟩ (by rw [q2]; exact h6) q1 q3 (by rw [hsl]; exact k2_hasslot (q4 k hk)) rfl rfl hd fun H' e1 e2 e3 => ?_
  rw [hsl] at e1 ⊢
  refine kk H' _ (hR.put hs ho hx hpl ?_ e3) (hS.put e2 e3 (hR.1 s0 j hs ho).2)
  rw [he']
  exact ⟨_, hc, t_OB.to (V := updV (vp_V fs) k _) ⟨_, e1, q2, q3, t_set q4 hap hk _⟩ (fun j _ => vp_updV_set hl _ j)⟩
/-! arrays of ints and booleans -/
theorem ent_i {s0 : Nat} (hs : 24 ≤ s0) (hk : akd s0 = 0) (j : Int) : ent G e0 α M s0 j = .inl (G.2.1, alen s0, .inl (fun k => Int32.ofInt (M s0 j k))) := by
  unfold ent
  rw [if_neg (by omega), if_neg (by omega), if_neg (by omega), if_pos hk]
theorem ent_z {s0 : Nat} (hs : 24 ≤ s0) (hk : akd s0 = 1) (j : Int) : ent G e0 α M s0 j = .inl (G.2.2.1, alen s0, .inl (fun k => Int32.ofInt (M s0 j k))) := by
  unfold ent
  rw [if_neg (by omega), if_neg (by omega), if_neg (by omega), if_neg (by omega), if_pos hk]
theorem sa_iald {s0 : Nat} {j i : Int} (C : CallFix p m c cc nL s args gw own) (E : EV G B s) (hR : Rp G e0 α κ B M H) (hs : s0 < NS) (h24 : 24 ≤ s0) (hk : akd s0 = 0) (ho : okk κ s0 j) (hi : 0 ≤ i ∧ i < (alen s0 : Int)) (hd : decode cc pc = .ok (.iaload, 1))
    (kk : W p l e R s m args below meth c H locs cells slots Q (F0 m (pc + 1) ls (.int (Int32.ofInt (M s0 j i)) :: rest))) : W p l e R s m args below meth c H locs cells slots Q (F0 m pc ls (.int (Int32.ofInt i) :: .ref (α s0 j) :: rest)) := by
  obtain ⟨h1, h2⟩ := inR_in hi.1 hi.2 (alen_le s0)
  exact va_iald C.1 C.2.1 E.1 (hR.one hs ho (ent_i h24 hk j)) 0 0 rfl rfl h1 hd (by show W p l e R s m args below meth c H locs cells slots Q (F0 m (pc + 1) ls (.int (Int32.ofInt (M s0 j ((Int32.ofInt i).toNatClampNeg : Nat))) :: rest)); rw [h2]; exact kk)
theorem sa_zald {s0 : Nat} {j i : Int} (C : CallFix p m c cc nL s args gw own) (E : EV G B s) (hR : Rp G e0 α κ B M H) (hs : s0 < NS) (h24 : 24 ≤ s0) (hk : akd s0 = 1) (ho : okk κ s0 j) (hi : 0 ≤ i ∧ i < (alen s0 : Int)) (hd : decode cc pc = .ok (.baload, 1))
    (kk : W p l e R s m args below meth c H locs cells slots Q (F0 m (pc + 1) ls (.int (Int32.ofInt (M s0 j i)) :: rest))) : W p l e R s m args below meth c H locs cells slots Q (F0 m pc ls (.int (Int32.ofInt i) :: .ref (α s0 j) :: rest)) := by
  obtain ⟨h1, h2⟩ := inR_in hi.1 hi.2 (alen_le s0)
  exact va_zald C.1 C.2.1 E.1 (hR.one hs ho (ent_z h24 hk j)) 0 1 rfl rfl h1 hd (by show W p l e R s m args below meth c H locs cells slots Q (F0 m (pc + 1) ls (.int (Int32.ofInt (M s0 j ((Int32.ofInt i).toNatClampNeg : Nat))) :: rest)); rw [h2]; exact kk)
theorem up_arr {s0 : Nat} {j i x : Int} {n : Nat} (h2 : (n : Int) = i) : (fun k : Nat => Int32.ofInt (up M s0 j i x s0 j k)) = upd (fun k : Nat => Int32.ofInt (M s0 j k)) n (Int32.ofInt x) := by
  funext q
  unfold up upd
  by_cases hq : q = n
  · subst hq
    rw [if_pos ⟨rfl, rfl, h2⟩, if_pos rfl]
  · rw [if_neg (fun z => hq (by omega)), if_neg hq]
theorem pl_24 {s0 : Nat} (h : 24 ≤ s0) (k : Int) : plain s0 k = true := by
  simp only [plain, Bool.and_eq_true, Bool.or_eq_true, decide_eq_true_eq, Bool.not_eq_true', Bool.and_eq_false_iff, decide_eq_false_iff_not]
  exact ⟨Or.inr h, Or.inl (by omega)⟩
theorem sa_iast {s0 : Nat} {j i x : Int} (C : CallFix p m c cc nL s args gw own) (E : EV G B s) (hR : Rp G e0 α κ B M H) (hS : va_S (fun q => B ≤ q) s.heap H locs) (hs : s0 < NS) (h24 : 24 ≤ s0) (hk : akd s0 = 0) (ho : okk κ s0 j) (hi : 0 ≤ i ∧ i < (alen s0 : Int)) (hx : inR x) (hd : decode cc pc = .ok (.iastore, 1))
    (kk : ∀ (H1 : Heap) (locs1 : List Loc), Rp G e0 α κ B (up M s0 j i x) H1 → va_S (fun q => B ≤ q) s.heap H1 locs1 → W p l e R s m args below meth c H1 locs1 cells slots Q (F0 m (pc + 1) ls rest)) : W p l e R s m args below meth c H locs cells slots Q (F0 m pc ls (.int (Int32.ofInt x) :: .int (Int32.ofInt i) :: .ref (α s0 j) :: rest)) := by
  obtain ⟨h1, h2⟩ := inR_in hi.1 hi.2 (alen_le s0)
  have hq := hR.ne hs ho
  rw [ent_i h24 hk] at hq
  refine W.iast C.1 C.2.1 hq ((E.1.2 0 _ rfl).1 _ (fun k : Nat => .int (Int32.ofInt (M s0 j k)))) (fun q => by cases q) (by show ¬ (Int32.ofInt i < 0 ∨ (arrV _ _ _).slots.size ≤ _); rw [arrV_size]; exact h1) rfl rfl hd fun H1 e z oq => ?_
  refine kk H1 _ (hR.put hs ho hx (pl_24 h24 i) ?_ oq) (hS.put z oq (hR.1 s0 j hs ho).2)
  rw [ent_i h24 hk]
  show H1[α s0 j]? = some (vp_cell _ _)
  rw [e, up_arr h2, vp_cell_i, vp_cell_i, arrV_store]
  congr 2
  funext q
  by_cases hq : q = (Int32.ofInt i).toNatClampNeg
  · subst hq
    simp [updV, upd]
  · simp [updV, upd, hq]
theorem bit_nar {x : Int} (hx : bit x) : narrow .boolean (.int (Int32.ofInt x)) = .int (Int32.ofInt x) := by
  rcases hx with rfl | rfl <;> rfl
theorem bit_fit {x : Int} (hx : bit x) : fits .boolean (.int (Int32.ofInt x)) = true := by
  rcases hx with rfl | rfl <;> rfl
theorem bit_R {x : Int} (hx : bit x) : inR x := by
  rcases hx with rfl | rfl <;> exact ⟨by decide, by decide⟩
theorem sa_zast {s0 : Nat} {j i x : Int} (C : CallFix p m c cc nL s args gw own) (E : EV G B s) (hR : Rp G e0 α κ B M H) (hS : va_S (fun q => B ≤ q) s.heap H locs) (hs : s0 < NS) (h24 : 24 ≤ s0) (hk : akd s0 = 1) (ho : okk κ s0 j) (hi : 0 ≤ i ∧ i < (alen s0 : Int)) (hx : bit x) (hd : decode cc pc = .ok (.bastore, 1))
    (kk : ∀ (H1 : Heap) (locs1 : List Loc), Rp G e0 α κ B (up M s0 j i x) H1 → va_S (fun q => B ≤ q) s.heap H1 locs1 → W p l e R s m args below meth c H1 locs1 cells slots Q (F0 m (pc + 1) ls rest)) : W p l e R s m args below meth c H locs cells slots Q (F0 m pc ls (.int (Int32.ofInt x) :: .int (Int32.ofInt i) :: .ref (α s0 j) :: rest)) := by
  obtain ⟨h1, h2⟩ := inR_in hi.1 hi.2 (alen_le s0)
  have hq := hR.ne hs ho
  rw [ent_z h24 hk] at hq
  refine W.zast C.1 C.2.1 hq ((E.1.2 1 _ rfl).1 _ (fun k : Nat => .int (Int32.ofInt (M s0 j k)))) (fun q => by cases q) (by show ¬ (Int32.ofInt i < 0 ∨ (arrV _ _ _).slots.size ≤ _); rw [arrV_size]; exact h1) rfl rfl hd fun H1 e z oq => ?_
  refine kk H1 _ (hR.put hs ho (bit_R hx) (pl_24 h24 i) ?_ oq) (hS.put z oq (hR.1 s0 j hs ho).2)
  rw [ent_z h24 hk]
  show H1[α s0 j]? = some (vp_cell _ _)
  rw [e, bit_nar hx, up_arr h2, vp_cell_i, vp_cell_i, arrV_store]
  congr 2
  funext q
  by_cases hq : q = (Int32.ofInt i).toNatClampNeg
  · subst hq
    simp [updV, upd]
  · simp [updV, upd, hq]
end SA
