/-! the law's draws out of its script -/
def sx (xs : Nat → Int32) (i : Int) : Int := (xs i.toNat).toInt
theorem sx_R (xs : Nat → Int32) (i : Int) : inR (sx xs i) := inR_t _
/-- the script: L ints at b, ahead of all that is made -/
def LV (s : State) (B b L : Nat) (xs : Nat → Int32) : Prop := va_X b L xs s s.heap ∧ b < s.heap.size ∧ ¬ B ≤ b ∧ L ≤ 260
theorem LV.at {s U : State} {B b L : Nat} {xs : Nat → Int32} {H : Heap} {locs : List Loc} (V : LV s B b L xs) (hS : va_S (fun q => B ≤ q) s.heap H locs) (hU : U.heap = H) (hW : s.WarmedH U.vm) : LV U B b L xs :=
  ⟨by rw [hU]; exact va_X.moved hW.alike (V.1.kept (hS.2.1 b V.2.1 V.2.2.1)), by rw [hU]; exact Nat.lt_of_lt_of_le V.2.1 hS.1, V.2.2.1, V.2.2.2⟩
def Pwl (G : Gx) (e0 : Nat) (α : Ax) (κ : Nat → Int) (B b L : Nat) (xs : Nat → Int32) (M : Mem) : State → Prop := fun U => LV U B b L xs ∧ Pw G e0 α κ B M U
theorem Pwl.blind {G : Gx} {e0 : Nat} {α : Ax} {κ : Nat → Int} {B b L : Nat} {xs : Nat → Int32} {M : Mem} {av : List Value} : FrameBlind (va_Pc av (Pwl G e0 α κ B b L xs M)) := fun a U g mk q =>
  ⟨q.1, ⟨va_X.moved (u := U) (U := U.calling g mk a) (Vm.Alike.refl U.vm) q.2.1.1, q.2.1.2⟩, ((Pw.blind (av := av)) a U g mk ⟨q.1, q.2.2⟩).2⟩
def FI (l : Launch) (y : MethodName) (cd : Cond) (n : Nat) (G : Gx) (e0 : Nat) (α : Ax) (κ : Nat → Int) (B b L : Nat) (xs : Nat → Int32) (av : List Value) (M : Mem) (Qm : Int → Mem → Prop) : Prop :=
  Met l y (cd :: gw) (rmL n) (va_Pc av (Pwl G e0 α κ B b L xs M)) (QI G e0 α κ B Qm) 0 0 (fun q => B ≤ q)
theorem FI.mk {l : Launch} {y : MethodName} {cc : ByteArray} {maxL k : Nat} {ret : Option FieldType} {own : String} {G : Gx} {e0 : Nat} {α : Ax} {κ : Nat → Int} {B b L : Nat} {xs : Nat → Int32} {av : List Value} {lv : List (Nat × Value)} {M : Mem} {Qm : Int → Mem → Prop} (hκ : kOK κ) (hy : plainName y.cls = true) (ho : y.cls = own) (hlen : (lg_sl av).length ≤ maxL) (hlv : lv_args 0 av = lv)
    (body : ∀ (p : Program) (e : Env) (s : State) (m : MethodId) (args : Array Value) (below : List Frame) (meth : Method) (c : Code) (ls : Array Slot), CX p m c cc maxL s args own G B κ meth ret → LV s B b L xs → Rp G e0 α κ B M s.heap → va_S (fun q => B ≤ q) s.heap s.heap [] → lv_has ls maxL lv → WI p l e k s m args below meth c G e0 α κ B Qm s.heap [] 0 ls []) :
    FI l y (Cond.code y cc maxL ret) k G e0 α κ B b L xs av M Qm := by
  refine Met.ofW (cc := cc) (maxL := maxL) (ret := ret) hy rfl ?_
  intro p e s m args below meth c s₁ Bd hml hv
  obtain ⟨rfl, V, hE, hR⟩ := hv
  have hl := lv_entry av (n := maxL) hlen
  rw [lg_entry_eq]
  generalize (lg_sl av ++ List.replicate (maxL - (lg_sl av).length) Slot.unset).toArray = ls at hl ⊢
  rw [hlv] at hl
  exact body p e s m _ below meth c ls ⟨⟨Bd.exec, Bd.bytes, hml, by rw [← ho]; exact findClass_of_methodNamed Bd.named, fun w hw => atoms_spec (ws := Cond.code y cc maxL ret :: gw) Bd.pre w (List.mem_cons_of_mem _ hw)⟩, hE, hκ, Bd.returns, Bd.notSynchronized⟩ V hR va_S.rf hl
section GA
variable {p : Program} {l : Launch} {e : Env} {R : Room} {s : State} {m : MethodId} {args : Array Value} {below : List Frame} {meth : Method} {c : Code} {H : Heap} {locs : List Loc} {cells slots : Nat} {Q : State → Prop}
variable {cc : ByteArray} {nL : Nat} {own : String} {pc : Nat} {ls : Array Slot} {rest : List Value} {G : Gx} {e0 : Nat} {α : Ax} {κ : Nat → Int} {B : Nat} {M : Mem} {ret : Option FieldType} {b L : Nat} {xs : Nat → Int32}
/-- an element of the script -/
theorem la_at {i : Int} (X : CX p m c cc nL s args own G B κ meth ret) (V : LV s B b L xs) (hS : va_S (fun q => B ≤ q) s.heap H locs) (hi : 0 ≤ i ∧ i < (L : Int)) (hd : decode cc pc = .ok (.iaload, 1))
    (kk : W p l e R s m args below meth c H locs cells slots Q (F0 m (pc + 1) ls (.int (Int32.ofInt (sx xs i)) :: rest))) : W p l e R s m args below meth c H locs cells slots Q (F0 m pc ls (.int (Int32.ofInt i) :: .ref b :: rest)) := by
  obtain ⟨h1, h2⟩ := inR_in hi.1 hi.2 (Nat.le_trans V.2.2.2 (by decide))
  refine va_sld X.1.1 X.1.2.1 V.1 V.2.1 V.2.2.1 hS h1 hd ?_
  have e : xs (Int32.ofInt i).toNatClampNeg = Int32.ofInt (sx xs i) := by
    unfold sx
    rw [Int32.ofInt_toInt]
    congr 1
    omega
  rw [e]
  exact kk
theorem dL_from_0 : decode cL_from 0 = .ok (.aload_n 0, 1) := by decide +kernel
theorem dL_from_1 : decode cL_from 1 = .ok (.arraylength, 1) := by decide +kernel
theorem dL_from_2 : decode cL_from 2 = .ok (.ifCond .ne 15, 3) := by decide +kernel
theorem dL_from_5 : decode cL_from 5 = .ok (.sipush 313, 3) := by decide +kernel
theorem dL_from_8 : decode cL_from 8 = .ok (.iload_n 1, 1) := by decide +kernel
theorem dL_from_9 : decode cL_from 9 = .ok (.imul, 1) := by decide +kernel
theorem dL_from_10 : decode cL_from 10 = .ok (.sipush 281, 3) := by decide +kernel
theorem dL_from_13 : decode cL_from 13 = .ok (.iadd, 1) := by decide +kernel
theorem dL_from_14 : decode cL_from 14 = .ok (.goto 14, 3) := by decide +kernel
theorem dL_from_17 : decode cL_from 17 = .ok (.aload_n 0, 1) := by decide +kernel
theorem dL_from_18 : decode cL_from 18 = .ok (.iload_n 1, 1) := by decide +kernel
theorem dL_from_19 : decode cL_from 19 = .ok (.aload_n 0, 1) := by decide +kernel
theorem dL_from_20 : decode cL_from 20 = .ok (.arraylength, 1) := by decide +kernel
theorem dL_from_21 : decode cL_from 21 = .ok (.irem, 1) := by decide +kernel
theorem dL_from_22 : decode cL_from 22 = .ok (.iaload, 1) := by decide +kernel
theorem dL_from_23 : decode cL_from 23 = .ok (.ldc 7, 2) := by decide +kernel
theorem dL_from_25 : decode cL_from 25 = .ok (.iload_n 1, 1) := by decide +kernel
theorem dL_from_26 : decode cL_from 26 = .ok (.imul, 1) := by decide +kernel
theorem dL_from_27 : decode cL_from 27 = .ok (.ixor, 1) := by decide +kernel
theorem dL_from_28 : decode cL_from 28 = .ok (.istore_n 3, 1) := by decide +kernel
theorem dL_from_29 : decode cL_from 29 = .ok (.iload_n 3, 1) := by decide +kernel
theorem dL_from_30 : decode cL_from 30 = .ok (.ldc 8, 2) := by decide +kernel
theorem dL_from_32 : decode cL_from 32 = .ok (.iand, 1) := by decide +kernel
theorem dL_from_33 : decode cL_from 33 = .ok (.iload_n 2, 1) := by decide +kernel
theorem dL_from_34 : decode cL_from 34 = .ok (.irem, 1) := by decide +kernel
theorem dL_from_35 : decode cL_from 35 = .ok (.ireturn, 1) := by decide +kernel
theorem m_L_from {k w : Int} (hκ : kOK κ) (hk : 0 ≤ k ∧ k ≤ 1000) (hw : 0 < w ∧ w ≤ 100000000) {Qm : Int → Mem → Prop} (hq : ∀ r, 0 ≤ r → r < w → Qm r M) : FI l yL_from (Cond.code yL_from cL_from 4 (some .int)) 1 G e0 α κ B b L xs [.ref b, .int (Int32.ofInt k), .int (Int32.ofInt w)] M Qm :=
  FI.mk (own := "TablePagesLaw") hκ (by decide +kernel) rfl (Nat.le_of_ble_eq_true rfl) (lv := [(0, .ref b), (1, .int (Int32.ofInt k)), (2, .int (Int32.ofInt w))]) rfl (fun p e s m args below meth c ls X V hR hS hl => by
    have hkR : inR k := ⟨by omega, by omega⟩
    have hwR : inR w := ⟨by omega, by omega⟩
    have hLR : inR (L : Int) := by
      have := V.2.2.2
      exact ⟨by omega, by omega⟩
    have k28 : ∀ v : Int32, WI p l e 1 s m args below meth c G e0 α κ B Qm s.heap [] 28 ls [.int v] := fun v => by
      refine lv_istore_n (lv' := [(3, .int v), (0, .ref b), (1, .int (Int32.ofInt k)), (2, .int (Int32.ofInt w))]) X.1.1 X.1.2.1 dL_from_28 rfl hl (by decide) rfl (fun ls hl => ?_)
      refine lv_iload_n X.1.1 X.1.2.1 dL_from_29 rfl (lv_at hl 0 rfl) ?_
      refine sa_ldc (n := 2147483647) X.1 (by decide) kw_678 dL_from_30 ?_
      refine lv_iand X.1.1 X.1.2.1 dL_from_32 ?_
      obtain ⟨j, hj, ej⟩ := pk_andE v (m := Int32.ofInt 2147483647) 31 (by decide)
      rw [ej, show nI j = Int32.ofInt (j : Int) from Int32.ofInt_eq_ofNat.symm]
      have hj : j < 2147483648 := hj
      have hjR : inR (j : Int) := ⟨by omega, by omega⟩
      refine lv_iload_n X.1.1 X.1.2.1 dL_from_33 rfl (lv_at hl 3 rfl) ?_
      refine sa_irem X.1 hjR hwR (Int.ne_of_gt hw.1) dL_from_34 ?_
      have hr := tm_r (a := (j : Int)) (b := w) (Int.natCast_nonneg j) hw.1
      exact sa_iret X.1 X.2.2.2.1 X.2.2.2.2 hR hS (inR_tmod hjR hwR hw.1) (hq _ hr.1 hr.2) dL_from_35
    refine lv_aload_n X.1.1 X.1.2.1 dL_from_0 rfl (lv_at hl 0 rfl) ?_
    refine va_slen X.1.1 X.1.2.1 V.1 V.2.1 V.2.2.1 hS dL_from_1 ?_
    rw [← Int32.ofInt_eq_ofNat]
    refine sa_if_ne (tgt := 17) X.1 hLR dL_from_2 (by decide) (fun hc => ?_) (fun hc => ?_)
    · have hL0 : (0 : Int) < L := by omega
      have hr := tm_r (a := k) (b := L) hk.1 hL0
      refine lv_aload_n X.1.1 X.1.2.1 dL_from_17 rfl (lv_at hl 0 rfl) ?_
      refine lv_iload_n X.1.1 X.1.2.1 dL_from_18 rfl (lv_at hl 1 rfl) ?_
      refine lv_aload_n X.1.1 X.1.2.1 dL_from_19 rfl (lv_at hl 0 rfl) ?_
      refine va_slen X.1.1 X.1.2.1 V.1 V.2.1 V.2.2.1 hS dL_from_20 ?_
      rw [← Int32.ofInt_eq_ofNat]
      refine sa_irem X.1 hkR hLR hc dL_from_21 ?_
      refine la_at X V hS hr dL_from_22 ?_
      refine sa_ldc (n := 233021) X.1 (by decide) kw_677 dL_from_23 ?_
      refine lv_iload_n X.1.1 X.1.2.1 dL_from_25 rfl (lv_at hl 1 rfl) ?_
      refine sa_imul X.1 dL_from_26 ?_
      refine lv_ixor X.1.1 X.1.2.1 dL_from_27 ?_
      exact k28 _
    · refine sa_sipush X.1 dL_from_5 (by decide) ?_
      refine lv_iload_n X.1.1 X.1.2.1 dL_from_8 rfl (lv_at hl 1 rfl) ?_
      refine sa_imul X.1 dL_from_9 ?_
      refine sa_sipush X.1 dL_from_10 (by decide) ?_
      refine sa_iadd X.1 dL_from_13 ?_
      refine lv_goto (tgt := 28) X.1.1 X.1.2.1 dL_from_14 (by decide) ?_
      exact k28 _)
theorem cs_from {k w : Int} {idx : Nat} (X : CX p m c cc nL s args own G B κ meth ret) (V : LV s B b L xs) (hk : 0 ≤ k ∧ k ≤ 1000) (hw : 0 < w ∧ w ≤ 100000000) {kc : Nat} (hRr : RmOK R kc) (hcel : cells ≤ R.cells ∧ slots ≤ R.slots) (hkc : 1 + 1 ≤ kc) (hR : Rp G e0 α κ B M H) (hS : va_S (fun q => B ≤ q) s.heap H locs) (k1 : Cond.methodLink own idx yL_from ∈ gw) (hml : ls.size = nL) (hd : decode cc pc = .ok (.invokestatic idx, 3)) (hrest : (rest.map fun v => v.category).sum ≤ 8)
    (kk : ∀ (r : Int) (M1 : Mem) (H1 : Heap) (locs1 : List Loc), (0 ≤ r ∧ r < w ∧ M1 = M) → inR r → Rp G e0 α κ B M1 H1 → va_S (fun q => B ≤ q) s.heap H1 locs1 → W p l e R s m args below meth c H1 locs1 cells slots Q (F0 m (pc + 3) ls (.int (Int32.ofInt r) :: rest))) : W p l e R s m args below meth c H locs cells slots Q (F0 m pc ls (.int (Int32.ofInt w) :: .int (Int32.ofInt k) :: .ref b :: rest)) := by
  refine va_calli (va_runS (As := [.ref b, .int (Int32.ofInt k), .int (Int32.ofInt w)]) (rest := rest) (n := 3) X.1 (m_L_from (l := l) (G := G) (e0 := e0) (α := α) (κ := κ) (B := B) (M := M) (b := b) (L := L) (xs := xs) (Qm := fun r M1 => 0 ≤ r ∧ r < w ∧ M1 = M) X.2.2.1 hk hw (fun r r0 r1 => ⟨r0, r1, rfl⟩)) (va_cwS 3 X.1.2.2.2.2 (g_inS k1 kw_675 kw_37 kw_676) rfl rfl rfl ⟨by decide +kernel, by decide +kernel, by decide +kernel⟩ (rm_ok hRr hkc (by decide))) ⟨Pwl.blind, fun U hU hW => ⟨rfl, V.at hS hU hW, X.2.1.at hS hU hW, by rw [hU]; exact hR⟩⟩ rfl rfl hml rfl (lv_room hrest) hd hcel) hS (fun q _ h => h) (fun q h => h) (fun r u t H1 locs1 ht hvm hp hb _ _ hS1 => ?_)
  obtain ⟨rfl, hx, hq⟩ := hp
  exact kk u.1 u.2 H1 locs1 hq hx (by rw [← ht]; exact hb) hS1
end GA
