/-! ends of methods, and calls -/
theorem g_inV {own Cn : String} {idx : Nat} {y : MethodName} {cd : Cond} (k1 : Cond.methodLink own idx y ∈ gw) (k2 : Cond.instanceMethod y ∈ gw) (k3 : Cond.selects Cn y y ∈ gw) (k4 : Cond.initialized Cn ∈ gw) (k5 : cd ∈ gw) : GoodIn gw (wsV own idx Cn y (cd :: gw)) := by
  intro w hw
  simp only [wsV, List.cons_append, List.nil_append, List.mem_cons] at hw
  rcases hw with rfl | rfl | rfl | rfl | rfl | hw
  · exact gw_in _ k1
  · exact gw_in _ k2
  · exact gw_in _ k3
  · exact gw_in _ k4
  · exact gw_in _ k5
  · exact gw_in _ hw
theorem g_inS {own : String} {idx : Nat} {y : MethodName} {cd : Cond} (k1 : Cond.methodLink own idx y ∈ gw) (k2 : Cond.static y ∈ gw) (k4 : Cond.initialized y.cls ∈ gw) (k5 : cd ∈ gw) : GoodIn gw (va_wsS own idx y (cd :: gw)) := by
  intro w hw
  simp only [va_wsS, List.cons_append, List.nil_append, List.mem_cons] at hw
  rcases hw with rfl | rfl | rfl | rfl | hw
  · exact gw_in _ k1
  · exact gw_in _ k2
  · exact gw_in _ k4
  · exact gw_in _ k5
  · exact gw_in _ hw
section SC
variable {p : Program} {l : Launch} {e : Env} {R : Room} {s : State} {m : MethodId} {args : Array Value} {below : List Frame} {meth : Method} {c : Code} {H : Heap} {locs : List Loc} {cells slots : Nat} {Q : State → Prop}
variable {cc : ByteArray} {nL : Nat} {own : String} {pc : Nat} {ls : Array Slot} {rest : List Value} {G : Gx} {e0 : Nat} {α : Ax} {κ : Nat → Int} {B : Nat} {M : Mem}
theorem sa_iret {Qm : Int → Mem → Prop} {r : Int} (C : CallFix p m c cc nL s args gw own) (hr : meth.sig.returnType = some .int) (hlocks : meth.locks = false) (hR : Rp G e0 α κ B M H) (hS : va_S (fun q => B ≤ q) s.heap H locs) (hx : inR r) (hq : Qm r M) (hd : decode cc pc = .ok (.ireturn, 1)) :
    W p l e R s m args below meth c H locs 0 0 (MQ below (QI G e0 α κ B Qm) args s 0 0 (fun q => B ≤ q)) (F0 m pc ls [.int (Int32.ofInt r)]) :=
  W.iret C.1 C.2.1 hr (fun t ht _ => ⟨⟨_, (r, M), rfl, ⟨rfl, hx, hq⟩, by show Rp G e0 α κ B M t.heap; rw [ht]; exact hR⟩, hS.F ht⟩) hS.2.2 hd hlocks
theorem sa_zret {Qm : Int → Mem → Prop} {r : Int} (C : CallFix p m c cc nL s args gw own) (hr : meth.sig.returnType = some .boolean) (hlocks : meth.locks = false) (hR : Rp G e0 α κ B M H) (hS : va_S (fun q => B ≤ q) s.heap H locs) (hx : bit r) (hq : Qm r M) (hd : decode cc pc = .ok (.ireturn, 1)) :
    W p l e R s m args below meth c H locs 0 0 (MQ below (QI G e0 α κ B Qm) args s 0 0 (fun q => B ≤ q)) (F0 m pc ls [.int (Int32.ofInt r)]) :=
  W.zret C.1 C.2.1 hr (bit_nar hx) (fun t ht _ => ⟨⟨_, (r, M), rfl, ⟨rfl, bit_R hx, hq⟩, by show Rp G e0 α κ B M t.heap; rw [ht]; exact hR⟩, hS.F ht⟩) hS.2.2 hd hlocks
theorem sa_vret {Qm : Mem → Prop} (C : CallFix p m c cc nL s args gw own) (hr : meth.sig.returnType = none) (hlocks : meth.locks = false) (hR : Rp G e0 α κ B M H) (hS : va_S (fun q => B ≤ q) s.heap H locs) (hq : Qm M) (hd : decode cc pc = .ok (.return_, 1)) :
    W p l e R s m args below meth c H locs 0 0 (MQ below (QV G e0 α κ B Qm) args s 0 0 (fun q => B ≤ q)) (F0 m pc ls []) :=
  W.vret C.1 C.2.1 hr (fun t ht _ => ⟨⟨M, rfl, hq, by show Rp G e0 α κ B M t.heap; rw [ht]; exact hR⟩, hS.F ht⟩) hS.2.2 hd hlocks
theorem sa_callVI {y : MethodName} {bytes : ByteArray} {maxL n idx : Nat} (k : Nat) {ret : Option FieldType} {s0 : Nat} {Cn : String} {j : Int} {As st0 : List Value} {Qm : Int → Mem → Prop} (C : CallFix p m c cc nL s args gw own) (E : EV G B s) (hR : Rp G e0 α κ B M H) (hS : va_S (fun q => B ≤ q) s.heap H locs)
    (hM : CI l y (Cond.code y bytes maxL ret) k G e0 α κ B (.ref (α s0 j) :: As) M Qm) (k1 : Cond.methodLink own idx y ∈ gw) (k2 : Cond.instanceMethod y ∈ gw) (k3 : Cond.selects Cn y y ∈ gw) (k4 : Cond.initialized Cn ∈ gw) (k5 : Cond.code y bytes maxL ret ∈ gw) (hdc : y.cls = Cn ∧ y.cls ≠ "java/lang/invoke/MethodHandle" ∧ y.cls ≠ "java/lang/invoke/VarHandle" ∧ (parseMethodDescriptor y.desc).map (fun d => d.parameters.length) = some n)
    (hroom : (rmL k).frames + 1 ≤ R.frames ∧ 8 + (maxL + 11) + (rmL k).locals ≤ R.locals) (hrc : ∃ cell : Cell, H[α s0 j]? = some cell ∧ cell.vm.isStatics = false ∧ s.vm.findClass Cn = some cell.cls) (hn : As.length = n) (hst : st0 = As.reverse ++ .ref (α s0 j) :: rest) (hw : (rest.map fun v => v.category).sum ≤ 8) (hml : ls.size = nL) (hd : decode cc pc = .ok (.invokevirtual idx, 3)) (hcel : cells ≤ R.cells ∧ slots ≤ R.slots)
    (kk : ∀ (r : Int) (M1 : Mem) (H1 : Heap) (locs1 : List Loc), Qm r M1 → inR r → Rp G e0 α κ B M1 H1 → va_S (fun q => B ≤ q) s.heap H1 locs1 → W p l e R s m args below meth c H1 locs1 cells slots Q (F0 m (pc + 3) ls (.int (Int32.ofInt r) :: rest))) : W p l e R s m args below meth c H locs cells slots Q (F0 m pc ls st0) := by
  subst hst
  refine va_calli (va_runV (As := As) (rest := rest) (n := n) C hM (cwV n C.2.2.2.2 (g_inV k1 k2 k3 k4 k5) rfl rfl rfl hdc hroom) ⟨Pw.blind, hrc, fun U hU hW => ⟨rfl, E.at hS hU hW, by rw [hU]; exact hR⟩⟩ rfl hn hml rfl (lv_room hw) hd hcel) hS (fun q _ h => h) (fun q h => h) (fun r u t H1 locs1 ht hvm hp hb _ _ hS1 => ?_)
  obtain ⟨rfl, hx, hq⟩ := hp
  exact kk u.1 u.2 H1 locs1 hq hx (by rw [← ht]; exact hb) hS1
theorem sa_callVV {y : MethodName} {bytes : ByteArray} {maxL n idx : Nat} (k : Nat) {ret : Option FieldType} {s0 : Nat} {Cn : String} {j : Int} {As st0 : List Value} {Qm : Mem → Prop} (C : CallFix p m c cc nL s args gw own) (E : EV G B s) (hR : Rp G e0 α κ B M H) (hS : va_S (fun q => B ≤ q) s.heap H locs)
    (hM : CV l y (Cond.code y bytes maxL ret) k G e0 α κ B (.ref (α s0 j) :: As) M Qm) (k1 : Cond.methodLink own idx y ∈ gw) (k2 : Cond.instanceMethod y ∈ gw) (k3 : Cond.selects Cn y y ∈ gw) (k4 : Cond.initialized Cn ∈ gw) (k5 : Cond.code y bytes maxL ret ∈ gw) (hdc : y.cls = Cn ∧ y.cls ≠ "java/lang/invoke/MethodHandle" ∧ y.cls ≠ "java/lang/invoke/VarHandle" ∧ (parseMethodDescriptor y.desc).map (fun d => d.parameters.length) = some n)
    (hroom : (rmL k).frames + 1 ≤ R.frames ∧ 8 + (maxL + 11) + (rmL k).locals ≤ R.locals) (hrc : ∃ cell : Cell, H[α s0 j]? = some cell ∧ cell.vm.isStatics = false ∧ s.vm.findClass Cn = some cell.cls) (hn : As.length = n) (hst : st0 = As.reverse ++ .ref (α s0 j) :: rest) (hw : (rest.map fun v => v.category).sum ≤ 8) (hml : ls.size = nL) (hd : decode cc pc = .ok (.invokevirtual idx, 3)) (hcel : cells ≤ R.cells ∧ slots ≤ R.slots)
    (kk : ∀ (M1 : Mem) (H1 : Heap) (locs1 : List Loc), Qm M1 → Rp G e0 α κ B M1 H1 → va_S (fun q => B ≤ q) s.heap H1 locs1 → W p l e R s m args below meth c H1 locs1 cells slots Q (F0 m (pc + 3) ls (rest))) : W p l e R s m args below meth c H locs cells slots Q (F0 m pc ls st0) := by
  subst hst
  refine va_callv (va_runV (As := As) (rest := rest) (n := n) C hM (cwV n C.2.2.2.2 (g_inV k1 k2 k3 k4 k5) rfl rfl rfl hdc hroom) ⟨Pw.blind, hrc, fun U hU hW => ⟨rfl, E.at hS hU hW, by rw [hU]; exact hR⟩⟩ rfl hn hml rfl (lv_room hw) hd hcel) hS (fun q _ h => h) (fun q h => h) (fun u t H1 locs1 ht hvm hp hb _ _ hS1 => ?_)
  exact kk u H1 locs1 hp (by rw [← ht]; exact hb) hS1
theorem sa_callSI {y : MethodName} {bytes : ByteArray} {maxL n idx : Nat} (k : Nat) {ret : Option FieldType} {As st0 : List Value} {Qm : Int → Mem → Prop} (C : CallFix p m c cc nL s args gw own) (E : EV G B s) (hR : Rp G e0 α κ B M H) (hS : va_S (fun q => B ≤ q) s.heap H locs)
    (hM : CI l y (Cond.code y bytes maxL ret) k G e0 α κ B As M Qm) (k1 : Cond.methodLink own idx y ∈ gw) (k2 : Cond.static y ∈ gw) (k4 : Cond.initialized y.cls ∈ gw) (k5 : Cond.code y bytes maxL ret ∈ gw) (hdc : y.cls ≠ "java/lang/invoke/MethodHandle" ∧ y.cls ≠ "java/lang/invoke/VarHandle" ∧ (parseMethodDescriptor y.desc).map (fun d => d.parameters.length) = some n)
    (hroom : (rmL k).frames + 1 ≤ R.frames ∧ 8 + (maxL + 11) + (rmL k).locals ≤ R.locals) (hn : As.length = n) (hst : st0 = As.reverse ++ rest) (hw : (rest.map fun v => v.category).sum ≤ 8) (hml : ls.size = nL) (hd : decode cc pc = .ok (.invokestatic idx, 3)) (hcel : cells ≤ R.cells ∧ slots ≤ R.slots)
    (kk : ∀ (r : Int) (M1 : Mem) (H1 : Heap) (locs1 : List Loc), Qm r M1 → inR r → Rp G e0 α κ B M1 H1 → va_S (fun q => B ≤ q) s.heap H1 locs1 → W p l e R s m args below meth c H1 locs1 cells slots Q (F0 m (pc + 3) ls (.int (Int32.ofInt r) :: rest))) : W p l e R s m args below meth c H locs cells slots Q (F0 m pc ls st0) := by
  subst hst
  refine va_calli (va_runS (As := As) (rest := rest) (n := n) C hM (va_cwS n C.2.2.2.2 (g_inS k1 k2 k4 k5) rfl rfl rfl hdc hroom) ⟨Pw.blind, fun U hU hW => ⟨rfl, E.at hS hU hW, by rw [hU]; exact hR⟩⟩ rfl hn hml rfl (lv_room hw) hd hcel) hS (fun q _ h => h) (fun q h => h) (fun r u t H1 locs1 ht hvm hp hb _ _ hS1 => ?_)
  obtain ⟨rfl, hx, hq⟩ := hp
  exact kk u.1 u.2 H1 locs1 hq hx (by rw [← ht]; exact hb) hS1
theorem sa_callSV {y : MethodName} {bytes : ByteArray} {maxL n idx : Nat} (k : Nat) {ret : Option FieldType} {As st0 : List Value} {Qm : Mem → Prop} (C : CallFix p m c cc nL s args gw own) (E : EV G B s) (hR : Rp G e0 α κ B M H) (hS : va_S (fun q => B ≤ q) s.heap H locs)
    (hM : CV l y (Cond.code y bytes maxL ret) k G e0 α κ B As M Qm) (k1 : Cond.methodLink own idx y ∈ gw) (k2 : Cond.static y ∈ gw) (k4 : Cond.initialized y.cls ∈ gw) (k5 : Cond.code y bytes maxL ret ∈ gw) (hdc : y.cls ≠ "java/lang/invoke/MethodHandle" ∧ y.cls ≠ "java/lang/invoke/VarHandle" ∧ (parseMethodDescriptor y.desc).map (fun d => d.parameters.length) = some n)
    (hroom : (rmL k).frames + 1 ≤ R.frames ∧ 8 + (maxL + 11) + (rmL k).locals ≤ R.locals) (hn : As.length = n) (hst : st0 = As.reverse ++ rest) (hw : (rest.map fun v => v.category).sum ≤ 8) (hml : ls.size = nL) (hd : decode cc pc = .ok (.invokestatic idx, 3)) (hcel : cells ≤ R.cells ∧ slots ≤ R.slots)
    (kk : ∀ (M1 : Mem) (H1 : Heap) (locs1 : List Loc), Qm M1 → Rp G e0 α κ B M1 H1 → va_S (fun q => B ≤ q) s.heap H1 locs1 → W p l e R s m args below meth c H1 locs1 cells slots Q (F0 m (pc + 3) ls (rest))) : W p l e R s m args below meth c H locs cells slots Q (F0 m pc ls st0) := by
  subst hst
  refine va_callv (va_runS (As := As) (rest := rest) (n := n) C hM (va_cwS n C.2.2.2.2 (g_inS k1 k2 k4 k5) rfl rfl rfl hdc hroom) ⟨Pw.blind, fun U hU hW => ⟨rfl, E.at hS hU hW, by rw [hU]; exact hR⟩⟩ rfl hn hml rfl (lv_room hw) hd hcel) hS (fun q _ h => h) (fun q h => h) (fun u t H1 locs1 ht hvm hp hb _ _ hS1 => ?_)
  exact kk u H1 locs1 hp (by rw [← ht]; exact hb) hS1
theorem sa_max {a b : Int} {idx : Nat} (C : CallFix p m c cc nL s args gw own) (ha : inR a) (hb : inR b) (hml : ls.size = nL) (k1 : Cond.methodLink own idx Lib.Math.max.name ∈ gw) (k2 : Cond.static Lib.Math.max.name ∈ gw) (k4 : Cond.initialized "java/lang/Math" ∈ gw) (k5 : Cond.code Lib.Math.max.name Lib.Math.max.code 2 (some .int) ∈ gw)
    (hframes : 1 ≤ R.frames) (hlocals : (rest.map fun v => v.category).sum + 13 ≤ R.locals) (hcel : cells ≤ R.cells ∧ slots ≤ R.slots) (hd : decode cc pc = .ok (.invokestatic idx, 3))
    (kk : W p l e R s m args below meth c H locs cells slots Q (F0 m (pc + 3) ls (.int (Int32.ofInt (max a b)) :: rest))) : W p l e R s m args below meth c H locs cells slots Q (F0 m pc ls (.int (Int32.ofInt b) :: .int (Int32.ofInt a) :: rest)) := by
  refine va_mmax C.1 C.2.1 (C.2.2.1.trans hml.symm) C.2.2.2.1 (C.2.2.2.2 _ k1) (C.2.2.2.2 _ k2) (C.2.2.2.2 _ k4) (C.2.2.2.2 _ k5) hframes hlocals hcel.1 hcel.2 hd ?_
  by_cases h : a < b
  · rw [show max a b = b by omega] at kk
    rw [if_pos ((inR_lt ha hb).mpr h)]
    exact kk
  · rw [show max a b = a by omega] at kk
    rw [if_neg (fun z => h ((inR_lt ha hb).mp z))]
    exact kk
theorem sa_cast {Cn nm : String} {T : u_T} {N ci idx s0 : Nat} {j : Int} {fs : List Value} (C : CallFix p m c cc nL s args gw own) (E : EV G B s) (hR : Rp G e0 α κ B M H) (hs : s0 < NS) (ho : okk κ s0 j) (he : ent G e0 α M s0 j = .inr (ci, fs)) (hc : vwCl[ci]? = some (Cn, T, N)) (k1 : Cond.classLink own idx nm ∈ gw) (k2 : Cond.castable Cn nm ∈ nw) (hd : decode cc pc = .ok (.checkcast idx, 3))
    (kk : W p l e R s m args below meth c H locs cells slots Q (F0 m (pc + 3) ls (.ref (α s0 j) :: rest))) : W p l e R s m args below meth c H locs cells slots Q (F0 m pc ls (.ref (α s0 j) :: rest)) :=
  va_castY C.1 C.2.1 C.2.2.2.1 (C.2.2.2.2 _ k1) (E.2.1.1 _ k2) (va_recv E.1 (hR.one hs ho he) (q0 := 0) hc rfl) hd kk
end SC
