theorem dX3_addColumn_0 : decode cX3_addColumn 0 = .ok (.aload_n 0, 1) := by decide +kernel
theorem dX3_addColumn_1 : decode cX3_addColumn 1 = .ok (.getfield 12, 3) := by decide +kernel
theorem dX3_addColumn_4 : decode cX3_addColumn 4 = .ok (.invokevirtual 37, 3) := by decide +kernel
theorem dX3_addColumn_7 : decode cX3_addColumn 7 = .ok (.istore_n 3, 1) := by decide +kernel
theorem dX3_addColumn_8 : decode cX3_addColumn 8 = .ok (.aload_n 0, 1) := by decide +kernel
theorem dX3_addColumn_9 : decode cX3_addColumn 9 = .ok (.getfield 12, 3) := by decide +kernel
theorem dX3_addColumn_12 : decode cX3_addColumn 12 = .ok (.new 63, 3) := by decide +kernel
theorem dX3_addColumn_15 : decode cX3_addColumn 15 = .ok (.dup, 1) := by decide +kernel
theorem dX3_addColumn_16 : decode cX3_addColumn 16 = .ok (.iload_n 1, 1) := by decide +kernel
theorem dX3_addColumn_17 : decode cX3_addColumn 17 = .ok (.iload_n 2, 1) := by decide +kernel
theorem dX3_addColumn_18 : decode cX3_addColumn 18 = .ok (.invokespecial 65, 3) := by decide +kernel
theorem dX3_addColumn_21 : decode cX3_addColumn 21 = .ok (.invokevirtual 68, 3) := by decide +kernel
theorem dX3_addColumn_24 : decode cX3_addColumn 24 = .ok (.pop, 1) := by decide +kernel
theorem dX3_addColumn_25 : decode cX3_addColumn 25 = .ok (.iload_n 3, 1) := by decide +kernel
theorem dX3_addColumn_26 : decode cX3_addColumn 26 = .ok (.bipush 6, 2) := by decide +kernel
theorem dX3_addColumn_28 : decode cX3_addColumn 28 = .ok (.if_icmp .ge 10, 3) := by decide +kernel
theorem dX3_addColumn_31 : decode cX3_addColumn 31 = .ok (.aload_n 0, 1) := by decide +kernel
theorem dX3_addColumn_32 : decode cX3_addColumn 32 = .ok (.getfield 33, 3) := by decide +kernel
theorem dX3_addColumn_35 : decode cX3_addColumn 35 = .ok (.iload_n 3, 1) := by decide +kernel
theorem dX3_addColumn_36 : decode cX3_addColumn 36 = .ok (.iconst 1, 1) := by decide +kernel
theorem dX3_addColumn_37 : decode cX3_addColumn 37 = .ok (.bastore, 1) := by decide +kernel
theorem dX3_addColumn_38 : decode cX3_addColumn 38 = .ok (.iload_n 3, 1) := by decide +kernel
theorem dX3_addColumn_39 : decode cX3_addColumn 39 = .ok (.ireturn, 1) := by decide +kernel
theorem dX3_addRow_0 : decode cX3_addRow 0 = .ok (.new 49, 3) := by decide +kernel
theorem dX3_addRow_3 : decode cX3_addRow 3 = .ok (.dup, 1) := by decide +kernel
theorem dX3_addRow_4 : decode cX3_addRow 4 = .ok (.aload_n 0, 1) := by decide +kernel
theorem dX3_addRow_5 : decode cX3_addRow 5 = .ok (.getfield 18, 3) := by decide +kernel
theorem dX3_addRow_8 : decode cX3_addRow 8 = .ok (.invokevirtual 37, 3) := by decide +kernel
theorem dX3_addRow_11 : decode cX3_addRow 11 = .ok (.iload_n 1, 1) := by decide +kernel
theorem dX3_addRow_12 : decode cX3_addRow 12 = .ok (.iload_n 2, 1) := by decide +kernel
theorem dX3_addRow_13 : decode cX3_addRow 13 = .ok (.iload_n 3, 1) := by decide +kernel
theorem dX3_addRow_14 : decode cX3_addRow 14 = .ok (.invokespecial 72, 3) := by decide +kernel
theorem dX3_addRow_17 : decode cX3_addRow 17 = .ok (.astore 4, 2) := by decide +kernel
theorem dX3_addRow_19 : decode cX3_addRow 19 = .ok (.aload_n 0, 1) := by decide +kernel
theorem dX3_addRow_20 : decode cX3_addRow 20 = .ok (.iload_n 1, 1) := by decide +kernel
theorem dX3_addRow_21 : decode cX3_addRow 21 = .ok (.invokevirtual 55, 3) := by decide +kernel
theorem dX3_addRow_24 : decode cX3_addRow 24 = .ok (.astore 5, 2) := by decide +kernel
theorem dX3_addRow_26 : decode cX3_addRow 26 = .ok (.aload 4, 2) := by decide +kernel
theorem dX3_addRow_28 : decode cX3_addRow 28 = .ok (.aload 5, 2) := by decide +kernel
theorem dX3_addRow_30 : decode cX3_addRow 30 = .ok (.invokevirtual 37, 3) := by decide +kernel
theorem dX3_addRow_33 : decode cX3_addRow 33 = .ok (.putfield 75, 3) := by decide +kernel
theorem dX3_addRow_36 : decode cX3_addRow 36 = .ok (.aload 5, 2) := by decide +kernel
theorem dX3_addRow_38 : decode cX3_addRow 38 = .ok (.aload 4, 2) := by decide +kernel
theorem dX3_addRow_40 : decode cX3_addRow 40 = .ok (.invokevirtual 68, 3) := by decide +kernel
theorem dX3_addRow_43 : decode cX3_addRow 43 = .ok (.pop, 1) := by decide +kernel
theorem dX3_addRow_44 : decode cX3_addRow 44 = .ok (.aload_n 0, 1) := by decide +kernel
theorem dX3_addRow_45 : decode cX3_addRow 45 = .ok (.getfield 18, 3) := by decide +kernel
theorem dX3_addRow_48 : decode cX3_addRow 48 = .ok (.aload 4, 2) := by decide +kernel
theorem dX3_addRow_50 : decode cX3_addRow 50 = .ok (.invokevirtual 68, 3) := by decide +kernel
theorem dX3_addRow_53 : decode cX3_addRow 53 = .ok (.pop, 1) := by decide +kernel
theorem dX3_addRow_54 : decode cX3_addRow 54 = .ok (.aload 4, 2) := by decide +kernel
theorem dX3_addRow_56 : decode cX3_addRow 56 = .ok (.getfield 78, 3) := by decide +kernel
theorem dX3_addRow_59 : decode cX3_addRow 59 = .ok (.ireturn, 1) := by decide +kernel
abbrev nwC (M : Mem) (jn r p2 p3 p4 : Int) : Mem := M1 M jn r p2 p3 p4
section DZ
variable {p : Program} {l : Launch} {e : Env} {R : Room} {s : State} {m : MethodId} {args : Array Value} {below : List Frame} {meth : Method} {c : Code} {H : Heap} {locs : List Loc} {cells slots mc ms k : Nat} {Q : State → Prop}
variable {cc : ByteArray} {nL : Nat} {own : String} {pc : Nat} {ls : Array Slot} {rest : List Value} {G : Gx} {e0 : Nat} {α : Ax} {κ : Nat → Int} {B : Nat} {M : Mem} {ret : Option FieldType}
/-- a call of a method that makes things -/
theorem sd_callV {y : MethodName} {bytes : ByteArray} {maxL n idx mc' ms' : Nat} (k' : Nat) {ret' : Option FieldType} {s0 : Nat} {Cn : String} {j : Int} {As st0 : List Value} {Qm : Int → (Nat → Int) → Mem → Prop} (X : CX p m c cc nL s args own G B κ meth ret) (hR : Rp G e0 α κ B M H) (hS : va_S (fun q => B ≤ q) s.heap H locs)
    (hM : DI l y (Cond.code y bytes maxL ret') k' mc' ms' G e0 α κ B (.ref (α s0 j) :: As) M Qm) (k1 : Cond.methodLink own idx y ∈ gw) (k2 : Cond.instanceMethod y ∈ gw) (k3 : Cond.selects Cn y y ∈ gw) (k4 : Cond.initialized Cn ∈ gw) (k5 : Cond.code y bytes maxL ret' ∈ gw) (hdc : y.cls = Cn ∧ y.cls ≠ "java/lang/invoke/MethodHandle" ∧ y.cls ≠ "java/lang/invoke/VarHandle" ∧ (parseMethodDescriptor y.desc).map (fun d => d.parameters.length) = some n)
    (hroom : (rmX k' mc' ms').frames + 1 ≤ R.frames ∧ 8 + (maxL + 11) + (rmX k' mc' ms').locals ≤ R.locals) (hrc : ∃ cell : Cell, H[α s0 j]? = some cell ∧ cell.vm.isStatics = false ∧ s.vm.findClass Cn = some cell.cls) (hn : As.length = n) (hst : st0 = As.reverse ++ .ref (α s0 j) :: rest) (hw : (rest.map fun v => v.category).sum ≤ 8) (hml : ls.size = nL) (hd : decode cc pc = .ok (.invokevirtual idx, 3)) (hcel : cells + mc' ≤ R.cells ∧ slots + ms' ≤ R.slots)
    (kk : ∀ (r : Int) (κ1 : Nat → Int) (α1 : Ax) (M1 : Mem) (H1 : Heap) (locs1 : List Loc), Qm r κ1 M1 → inR r → Ak α α1 → kOK κ1 → Rp G e0 α1 κ1 B M1 H1 → va_S (fun q => B ≤ q) s.heap H1 locs1 → W p l e R s m args below meth c H1 locs1 (cells + mc') (slots + ms') Q (F0 m (pc + 3) ls (.int (Int32.ofInt r) :: rest))) : W p l e R s m args below meth c H locs cells slots Q (F0 m pc ls st0) := by
  subst hst
  refine va_calli (va_runV (As := As) (rest := rest) (n := n) X.1 hM (cwV n X.1.2.2.2.2 (g_inV k1 k2 k3 k4 k5) rfl rfl rfl hdc hroom) ⟨Pw.blind, hrc, fun U hU hW => ⟨rfl, X.2.1.at hS hU hW, by rw [hU]; exact hR⟩⟩ rfl hn hml rfl (lv_room hw) hd hcel) hS (fun q _ h => h) (fun q h => h) (fun r u t H1 locs1 ht hvm hp hb _ _ hS1 => ?_)
  obtain ⟨rfl, hx, hq⟩ := hp
  obtain ⟨α1, hA, hk, hR1⟩ := hb
  exact kk u.1 u.2.1 α1 u.2.2 H1 locs1 hq hx hA hk (by rw [← ht]; exact hR1) hS1
theorem sd_xiret {α0 : Ax} {κ0 : Nat → Int} {Xm : String → Mem → Prop} {Qm : Int → (Nat → Int) → Mem → Prop} {r : Int} (X : CX p m c cc nL s args own G B κ meth (some .int)) (hR : Rp G e0 α κ B M H) (hS : va_S (fun q => B ≤ q) s.heap H locs) (hx : inR r) (hq : Qm r κ M) (hA : Ak α0 α) (hd : decode cc pc = .ok (.ireturn, 1)) (hmc : cells ≤ mc) (hms : slots ≤ ms) : WXD p l e k mc ms s m args below meth c G e0 α0 κ0 B Qm Xm H locs cells slots pc ls [.int (Int32.ofInt r)] :=
  W.widen hmc hms (vx_ret (W.iret X.1.1 X.1.2.1 X.2.2.2.1 (fun t ht _ => ⟨⟨_, (r, κ, M), rfl, ⟨rfl, hx, hq⟩, ⟨α, hA, X.2.2.1, by show Rp G e0 α κ B M t.heap; rw [ht]; exact hR⟩⟩, hS.F ht⟩) hS.2.2 hd X.2.2.2.2))
theorem sd_addret {pc idx : Nat} {n : Fin 4} {r v : Int} (X : CX p m c cc nL s args own G B κ meth (some .int)) (he0 : e0 = G.2.2.2.2.2) (hR : Rp G e0 α κ B M H) (hS : va_S (fun q => B ≤ q) s.heap H locs) (hv : okk κ 1 v) (hvR : inR v) (hmo : inR (M 14 0 (-2) + 1)) (hcap : capN (M 14 0 (-1)) (M (14 + 6) 0 (-1)) ≤ 1000) (hml : ls.size = nL) (k1 : Cond.methodLink own idx yJx4a65c_add_9ea2d ∈ gw)
    (d0 : decode cc pc = .ok (.invokevirtual idx, 3)) (d3 : decode cc (pc + 3) = .ok (.pop, 1)) (d4 : decode cc (pc + 4) = .ok (.iload_n n, 1)) (d5 : decode cc (pc + 5) = .ok (.ireturn, 1)) (hn : ls[(n : Nat)]? = some (.val (.int (Int32.ofInt r)))) (hr : inR r) (hcel : cells + 1 ≤ mc ∧ slots + 1000 ≤ ms) {Qm : Int → (Nat → Int) → Mem → Prop} (hw : ∀ Mz : Mem, Mz = adM M 14 v → Qm r (kad κ (14 + 6)) Mz) (hk : 7 ≤ k) :
    WD p l e k mc ms s m args below meth c G e0 α B Qm H locs cells slots pc ls [.ref (α 1 v), .ref (α 14 0)] := by
  refine ls_add (L := 14) (Cn := "TablePages$Cell") (v := v) (by decide) (by decide) kn_1454 he0 X hR (fun j hj => rc_1 X hR hj) rfl rfl hv hvR hmo hcap ⟨hk, Nat.mul_le_mul_left 38 hk⟩ hcel hS k1 hml d0 (Nat.le_of_ble_eq_true rfl) (fun q H1 locs1 hκ1 hR1 hS1 => ?_)
  refine lv_pop X.1.1 X.1.2.1 d3 rfl ?_
  refine lv_iload_n X.1.1 X.1.2.1 d4 rfl hn ?_
  exact sd_iret (X.re hκ1) hR1 hS1 hr (hw _ rfl) (Ak.rf.up (Or.inr ⟨by decide, by decide⟩)) d5 hcel.1 hcel.2
theorem An_ge {h0 sz N q : Nat} (h : An h0 sz q) (h1 : N ≤ h0) (h2 : N ≤ sz) : N ≤ q := h.elim (fun z => z ▸ h1) (fun z => Nat.le_trans h2 z)
end DZ
def wp_addColumn (p1 p2 : Int) (κ : Nat → Int) (M : Mem) (Qm : Int → (Nat → Int) → Mem → Prop) : Prop :=
  (0 ≤ κ 2 ∧ inR (κ 2)) ∧ ∀ Ma : Mem, Ma = M2 M (κ 2) p1 p2 → inR (Ma 12 0 (-2) + 1) ∧ capN (Ma 12 0 (-1)) (Ma (12 + 6) 0 (-1)) ≤ 1000 ∧ ∀ Mb : Mem, Mb = adM Ma 12 (κ 2) →
    ((6 ≤ M 12 0 (-1) → Qm (M 12 0 (-1)) (kad (kup [2, 27] κ) (12 + 6)) Mb) ∧
     (M 12 0 (-1) < 6 → 0 ≤ M 12 0 (-1) ∧ Qm (M 12 0 (-1)) (kad (kup [2, 27] κ) (12 + 6)) (up Mb 33 0 (M 12 0 (-1)) 1)))
def wp_addRow (p1 p2 p3 : Int) (κ : Nat → Int) (M : Mem) (Qm : Int → (Nat → Int) → Mem → Prop) : Prop :=
  bit p3 ∧ (0 ≤ κ 6 ∧ inR (κ 6)) ∧ ∀ Ma : Mem, Ma = M6 M (κ 6) (M 13 0 (-1)) p1 p2 p3 → ∀ Mb : Mem, Mb = up Ma 6 (κ 6) 6 (Ma (rowL p1) 0 (-1)) →
    inR (Mb (rowL p1) 0 (-2) + 1) ∧ capN (Mb (rowL p1) 0 (-1)) (Mb (rowL p1 + 6) 0 (-1)) ≤ 1000 ∧ ∀ Mc : Mem, Mc = adM Mb (rowL p1) (κ 6) →
    inR (Mc 13 0 (-2) + 1) ∧ capN (Mc 13 0 (-1)) (Mc (13 + 6) 0 (-1)) ≤ 1000 ∧ ∀ Md : Mem, Md = adM Mc 13 (κ 6) →
    Qm (Md 6 (κ 6) 0) (kad (kad (kup [6, 36, 37] κ) (rowL p1 + 6)) (13 + 6)) Md
set_option maxHeartbeats 4000000 in
set_option maxRecDepth 100000 in
theorem m_X3_addColumn {l : Launch} {G : Gx} {e0 : Nat} {α : Ax} {κ : Nat → Int} {B : Nat} {p1 p2 : Int} (he0 : e0 = G.2.2.2.2.2) (hκ : kOK κ) (hp1 : inR p1) (hp2 : inR p2) {M : Mem} {Qm : Int → (Nat → Int) → Mem → Prop} (hw : wp_addColumn p1 p2 κ M Qm) : DI l yX3_addColumn (Cond.code yX3_addColumn cX3_addColumn 4 (some .int)) 7 3 1008 G e0 α κ B [.ref (α 4 0), .int (Int32.ofInt p1), .int (Int32.ofInt p2)] M Qm :=
  DI.mk hκ (by decide +kernel) rfl (Nat.le_of_ble_eq_true rfl) (lv := [(0, .ref (α 4 0)), (1, .int (Int32.ofInt p1)), (2, .int (Int32.ofInt p2))]) rfl (fun p e s m args below meth c ls X hR hS hl => by
    obtain ⟨⟨w0, w1⟩, hw⟩ := hw
    obtain ⟨w2, w3, hw⟩ := hw _ rfl
    have hw := hw _ rfl
    refine lv_aload_n X.1.1 X.1.2.1 dX3_addColumn_0 rfl (lv_at hl 0 rfl) ?_
    refine gt_4_0 X hR (okf X.2.2.1 rfl) kw_112 dX3_addColumn_1 ?_
    refine ls_size (by decide) (by decide) X (kc := 7) rmX_ok ⟨by decide, by decide⟩ (by decide) hR hS kw_441 hl.1 dX3_addColumn_4 (Nat.le_of_ble_eq_true rfl) (fun H locs hR hS => ?_)
    have hBH : B ≤ H.size := Nat.le_trans X.2.1.2.2 hS.1
    refine lv_istore_n (lv' := [(3, .int (Int32.ofInt (M 12 0 (-1)))), (0, .ref (α 4 0)), (1, .int (Int32.ofInt p1)), (2, .int (Int32.ofInt p2))]) X.1.1 X.1.2.1 dX3_addColumn_7 rfl hl (by decide) rfl (fun ls hl => ?_)
    refine lv_aload_n X.1.1 X.1.2.1 dX3_addColumn_8 rfl (lv_at hl 1 rfl) ?_
    refine gt_4_0 X hR (okf X.2.2.1 rfl) kw_112 dX3_addColumn_9 ?_
    refine cn_newF (ci := 2) (N := 4) (fs := [.int 0, .int 0, .null, .int 0]) X.1 X.2.1 rfl tyX1 tyX1_ok gf_X1 (by intro j hj; have h : j = 0 ∨ j = 1 ∨ j = 2 ∨ j = 3 := (by omega); rcases h with rfl | rfl | rfl | rfl <;> rfl) kw_443 kw_778 kw_59 hS (by decide) (by decide) dX3_addColumn_12 (fun H1 hP z1 o1 hS => ?_)
    refine lv_dup X.1.1 X.1.2.1 dX3_addColumn_15 rfl ?_
    refine lv_iload_n X.1.1 X.1.2.1 dX3_addColumn_16 rfl (lv_at hl 2 rfl) ?_
    refine lv_iload_n X.1.1 X.1.2.1 dX3_addColumn_17 rfl (lv_at hl 3 rfl) ?_
    refine cn_callF (n := 2) (As := [.int (Int32.ofInt p1), .int (Int32.ofInt p2)]) (rest := [.ref H.size, .ref (α 12 0)]) X.1 X.2.1 hP hBH hS n_X1_init kw_779 kw_780 kw_59 kw_781 rfl ⟨by decide +kernel, by decide +kernel, by decide +kernel⟩ ⟨(Nat.le_of_ble_eq_true rfl), (Nat.le_of_ble_eq_true rfl)⟩ rfl rfl (Nat.le_of_ble_eq_true rfl) hl.1 dX3_addColumn_18 ⟨by decide, by decide⟩ (fun u H2 locs ho hP hD hz hk hS => ?_)
    obtain ⟨q1, rfl⟩ := ho
    have hwq : H.size ≠ q1 := fun z => absurd (hD.1 0 1 _ _ rfl rfl z) (by decide)
    have bq1 : H.size ≤ q1 := An_ge (hD.2 1 _ rfl) (Nat.le_refl _) (by omega)
    obtain ⟨hR1, hκ1⟩ := Rp.new2 X.2.2.1 hR hBH hp1 hp2 hP (Nat.le_refl _) bq1 hwq (fun x hx => (hk x (by omega) (by omega)).trans (o1 x hx))
    obtain ⟨α1, ha1⟩ : ∃ z : Ax, z = upA (upA α 2 (κ 2) H.size) 27 (κ 2) q1 := ⟨_, rfl⟩
    rw [← ha1] at hR1
    have e4 : α 4 0 = α1 4 0 := by rw [ha1, upA_s _ _ _ (by decide), upA_s _ _ _ (by decide)]
    have e12 : α 12 0 = α1 12 0 := by rw [ha1, upA_s _ _ _ (by decide), upA_s _ _ _ (by decide)]
    have ew : H.size = α1 2 (κ 2) := by rw [ha1, upA_s _ _ _ (by decide), upA_eq]
    have X1 := X.re hκ1
    refine ls_add (L := 12) (Cn := "TablePages$Column") (v := κ 2) (by decide) (by decide) kn_1451 he0 X1 hR1 (fun j hj => rc_2 X1 hR1 hj) ew e12 ⟨w0, by show κ 2 < κ 2 + 1; omega⟩ w1 w2 w3 ⟨by decide, by decide⟩ ⟨by decide, by decide⟩ hS kw_801 hl.1 dX3_addColumn_21 (Nat.le_of_ble_eq_true rfl) (fun q H3 locs hκ2 hR2 hS => ?_)
    obtain ⟨α2, ha2⟩ : ∃ z : Ax, z = upA α1 (12 + 6) 0 q := ⟨_, rfl⟩
    rw [← ha2] at hR2
    have X2 := X.re hκ2
    have f4 : α 4 0 = α2 4 0 := by rw [e4, ha2, upA_s _ _ _ (by decide)]
    have hAk : Ak α α2 := by rw [ha2, ha1]; exact ((Ak.rf.up (Or.inl (by decide))).up (Or.inr ⟨by decide, by decide⟩)).up (Or.inr ⟨by decide, by decide⟩)
    rw [f4] at hl
    refine lv_pop X.1.1 X.1.2.1 dX3_addColumn_24 rfl ?_
    refine lv_iload_n X.1.1 X.1.2.1 dX3_addColumn_25 rfl (lv_at hl 0 rfl) ?_
    refine sa_bipush X.1 dX3_addColumn_26 (by decide) ?_
    refine sa_icmp_ge (tgt := 38) X.1 (hR.r 12 0 (-1)) (inR_c (a := 6) rfl) dX3_addColumn_28 (by decide) (fun hc => ?_) (fun hc => ?_)
    · refine lv_iload_n X.1.1 X.1.2.1 dX3_addColumn_38 rfl (lv_at hl 0 rfl) ?_
      exact sd_iret X2 hR2 hS (hR.r 12 0 (-1)) (hw.1 hc) hAk dX3_addColumn_39 (by decide) (by decide)
    · obtain ⟨h0, hq⟩ := hw.2 hc
      refine lv_aload_n X.1.1 X.1.2.1 dX3_addColumn_31 rfl (lv_at hl 1 rfl) ?_
      refine gt_4_6 X2 hR2 (okf hκ2 rfl) kw_128 dX3_addColumn_32 ?_
      refine lv_iload_n X.1.1 X.1.2.1 dX3_addColumn_35 rfl (lv_at hl 0 rfl) ?_
      refine sa_const X.1 dX3_addColumn_36 ?_
      refine wa_33 X2 hR2 hS (okf hκ2 rfl) ⟨h0, hc⟩ (Or.inr rfl) dX3_addColumn_37 (fun H locs hR3 hS => ?_)
      refine lv_iload_n X.1.1 X.1.2.1 dX3_addColumn_38 rfl (lv_at hl 0 rfl) ?_
      exact sd_iret X2 hR3 hS (hR.r 12 0 (-1)) hq hAk dX3_addColumn_39 (by decide) (by decide))
set_option maxHeartbeats 4000000 in
set_option maxRecDepth 100000 in
theorem m_X3_addRow {l : Launch} {G : Gx} {e0 : Nat} {α : Ax} {κ : Nat → Int} {B : Nat} {p1 p2 p3 : Int} (he0 : e0 = G.2.2.2.2.2) (hκ : kOK κ) (hp1 : inR p1) (hp2 : inR p2) (hp3 : inR p3) {M : Mem} {Qm : Int → (Nat → Int) → Mem → Prop} (hw : wp_addRow p1 p2 p3 κ M Qm) : DI l yX3_addRow (Cond.code yX3_addRow cX3_addRow 6 (some .int)) 7 5 2017 G e0 α κ B [.ref (α 4 0), .int (Int32.ofInt p1), .int (Int32.ofInt p2), .int (Int32.ofInt p3)] M Qm :=
  DI.mk hκ (by decide +kernel) rfl (Nat.le_of_ble_eq_true rfl) (lv := [(0, .ref (α 4 0)), (1, .int (Int32.ofInt p1)), (2, .int (Int32.ofInt p2)), (3, .int (Int32.ofInt p3))]) rfl (fun p e s m args below meth c ls X hR hS hl => by
    obtain ⟨wb, ⟨w0, w1⟩, hw⟩ := hw
    obtain ⟨w2, w3, hw⟩ := hw _ rfl _ rfl
    obtain ⟨w4, w5, hw⟩ := hw _ rfl
    have hw := hw _ rfl
    obtain ⟨H, hH⟩ : ∃ z : Heap, z = s.heap := ⟨_, rfl⟩
    rw [← hH] at hR
    have hBH : B ≤ H.size := by rw [hH]; exact X.2.1.2.2
    refine cn_newF (ci := 6) (N := 7) (fs := [.int 0, .int 0, .int 0, .int 0, .null, .null, .int 0]) X.1 X.2.1 rfl tyX5 tyX5_ok gf_X5 (by intro j hj; have h : j = 0 ∨ j = 1 ∨ j = 2 ∨ j = 3 ∨ j = 4 ∨ j = 5 ∨ j = 6 := (by omega); rcases h with rfl | rfl | rfl | rfl | rfl | rfl | rfl <;> rfl) kw_580 kw_880 kw_61 hS (by decide) (by decide) dX3_addRow_0 (fun H1 hP z1 o1 hS => ?_)
    rw [← hH] at z1 o1 hP
    have hR0 := hR.kept o1
    refine lv_dup X.1.1 X.1.2.1 dX3_addRow_3 rfl ?_
    refine lv_aload_n X.1.1 X.1.2.1 dX3_addRow_4 rfl (lv_at hl 0 rfl) ?_
    refine gt_4_1 X hR0 (okf X.2.2.1 rfl) kw_115 dX3_addRow_5 ?_
    refine ls_sizeF (L := 13) (by decide) (by decide) X ⟨by decide, by decide⟩ ⟨by decide, by decide⟩ (hR0.1 13 0 (by decide) (okf X.2.2.1 rfl)).1 hS kw_441 hl.1 dX3_addRow_8 (Nat.le_of_ble_eq_true rfl) (fun H2 locs z2 o2 hS => ?_)
    have hP2 := hP.kept (o2 _ hP.lt)
    rw [← hH]
    refine lv_iload_n X.1.1 X.1.2.1 dX3_addRow_11 rfl (lv_at hl 1 rfl) ?_
    refine lv_iload_n X.1.1 X.1.2.1 dX3_addRow_12 rfl (lv_at hl 2 rfl) ?_
    refine lv_iload_n X.1.1 X.1.2.1 dX3_addRow_13 rfl (lv_at hl 3 rfl) ?_
    refine cn_callF (n := 4) (As := [.int (Int32.ofInt (M 13 0 (-1))), .int (Int32.ofInt p1), .int (Int32.ofInt p2), .int (Int32.ofInt p3)]) (rest := [.ref H.size]) X.1 X.2.1 hP2 hBH hS (n_X5_init wb) kw_881 kw_882 kw_61 kw_883 rfl ⟨by decide +kernel, by decide +kernel, by decide +kernel⟩ ⟨(Nat.le_of_ble_eq_true rfl), (Nat.le_of_ble_eq_true rfl)⟩ rfl rfl (Nat.le_of_ble_eq_true rfl) hl.1 dX3_addRow_14 ⟨by decide, by decide⟩ (fun u H3 locs ho hP hD hz hk hS => ?_)
    obtain ⟨q1, q2, rfl⟩ := ho
    have h01 : H.size ≠ q1 := fun z => absurd (hD.1 0 1 _ _ rfl rfl z) (by decide)
    have h02 : H.size ≠ q2 := fun z => absurd (hD.1 0 2 _ _ rfl rfl z) (by decide)
    have h12 : q1 ≠ q2 := fun z => absurd (hD.1 1 2 _ _ rfl rfl z) (by decide)
    have bq1 : H.size ≤ q1 := An_ge (hD.2 1 _ rfl) (Nat.le_refl _) (by omega)
    have bq2 : H.size ≤ q2 := An_ge (hD.2 2 _ rfl) (Nat.le_refl _) (by omega)
    obtain ⟨hR1, hκ1⟩ := Rp.new6 X.2.2.1 hR hBH (hR.r 13 0 (-1)) hp1 hp2 hp3 hP (Nat.le_refl _) bq1 bq2 h01 h02 h12 (fun x hx => (hk x (by omega) (by omega)).trans ((o2 x (by omega)).trans (o1 x hx)))
    obtain ⟨α1, ha1⟩ : ∃ z : Ax, z = upA (upA (upA α 6 (κ 6) H.size) 36 (κ 6) q1) 37 (κ 6) q2 := ⟨_, rfl⟩
    rw [← ha1] at hR1
    have e4 : α 4 0 = α1 4 0 := by rw [ha1, upA_s _ _ _ (by decide), upA_s _ _ _ (by decide), upA_s _ _ _ (by decide)]
    have ew : H.size = α1 6 (κ 6) := by rw [ha1, upA_s _ _ _ (by decide), upA_s _ _ _ (by decide), upA_eq]
    have X1 := X.re hκ1
    have hr6 : okk (kup [6, 36, 37] κ) 6 (κ 6) := ⟨w0, by show κ 6 < κ 6 + 1; omega⟩
    rw [e4] at hl
    rw [ew]
    have hLa := rowL_ok p1
    refine lv_astore (lv' := [(4, .ref (α1 6 (κ 6))), (0, .ref (α1 4 0)), (1, .int (Int32.ofInt p1)), (2, .int (Int32.ofInt p2)), (3, .int (Int32.ofInt p3))]) X.1.1 X.1.2.1 dX3_addRow_17 hl (by decide) rfl (fun ls hl => ?_)
    refine lv_aload_n X.1.1 X.1.2.1 dX3_addRow_19 rfl (lv_at hl 1 rfl) ?_
    refine lv_iload_n X.1.1 X.1.2.1 dX3_addRow_20 rfl (lv_at hl 2 rfl) ?_
    refine cs_rowsOf X1 hp1 (kc := 7) rmX_ok ⟨by decide, by decide⟩ (by decide) hR1 hS kw_872 hl.1 dX3_addRow_21 (Nat.le_of_ble_eq_true rfl) (fun H locs hR1 hS => ?_)
    refine lv_astore (lv' := [(5, .ref (α1 (rowL p1) 0)), (4, .ref (α1 6 (κ 6))), (0, .ref (α1 4 0)), (1, .int (Int32.ofInt p1)), (2, .int (Int32.ofInt p2)), (3, .int (Int32.ofInt p3))]) X.1.1 X.1.2.1 dX3_addRow_24 hl (by decide) rfl (fun ls hl => ?_)
    refine lv_aload X.1.1 X.1.2.1 dX3_addRow_26 (lv_at hl 1 rfl) ?_
    refine lv_aload X.1.1 X.1.2.1 dX3_addRow_28 (lv_at hl 0 rfl) ?_
    refine ls_size (Nat.le_trans (by decide) hLa.1) hLa.2 X1 (kc := 7) rmX_ok ⟨by decide, by decide⟩ (by decide) hR1 hS kw_441 hl.1 dX3_addRow_30 (Nat.le_of_ble_eq_true rfl) (fun H locs hR1 hS => ?_)
    refine pt_6_6 X1 hR1 hS hr6 (hR1.r (rowL p1) 0 (-1)) kw_905 dX3_addRow_33 (fun H locs hR1 hS => ?_)
    refine lv_aload X.1.1 X.1.2.1 dX3_addRow_36 (lv_at hl 0 rfl) ?_
    refine lv_aload X.1.1 X.1.2.1 dX3_addRow_38 (lv_at hl 1 rfl) ?_
    refine ls_add (L := rowL p1) (Cn := "TablePages$Row") (v := κ 6) (Nat.le_trans (by decide) hLa.1) hLa.2 kn_1452 he0 X1 hR1 (fun j hj => by rw [hLa.lcl] at hj ⊢; exact rc_6 X1 hR1 hj) (by rw [hLa.lcl]) rfl (by rw [hLa.lcl]; exact hr6) w1 w2 w3 ⟨by decide, by decide⟩ ⟨by decide, by decide⟩ hS kw_801 hl.1 dX3_addRow_40 (Nat.le_of_ble_eq_true rfl) (fun q H locs hκ2 hR2 hS => ?_)
    obtain ⟨α2, ha2⟩ : ∃ z : Ax, z = upA α1 (rowL p1 + 6) 0 q := ⟨_, rfl⟩
    rw [← ha2] at hR2
    have X2 := X.re hκ2
    have f4 : α1 4 0 = α2 4 0 := by rw [ha2, upA_s _ _ _ (by omega)]
    have f6 : α1 6 (κ 6) = α2 6 (κ 6) := by rw [ha2, upA_s _ _ _ (by have := hLa.1; omega)]
    rw [f4, f6] at hl
    refine lv_pop X.1.1 X.1.2.1 dX3_addRow_43 rfl ?_
    refine lv_aload_n X.1.1 X.1.2.1 dX3_addRow_44 rfl (lv_at hl 2 rfl) ?_
    refine gt_4_1 X2 hR2 (okf hκ2 rfl) kw_115 dX3_addRow_45 ?_
    refine lv_aload X.1.1 X.1.2.1 dX3_addRow_48 (lv_at hl 1 rfl) ?_
    have hr2 : okk (kad (kup [6, 36, 37] κ) (rowL p1 + 6)) 6 (κ 6) := by
      refine ⟨w0, ?_⟩
      unfold kad
      rw [if_neg (by have := hLa.1; omega)]
      exact hr6.2
    refine ls_add (L := 13) (Cn := "TablePages$Row") (v := κ 6) (by decide) (by decide) kn_1452 he0 X2 hR2 (fun j hj => rc_6 X2 hR2 hj) rfl rfl hr2 w1 w4 w5 ⟨by decide, by decide⟩ ⟨by decide, by decide⟩ hS kw_801 hl.1 dX3_addRow_50 (Nat.le_of_ble_eq_true rfl) (fun q H locs hκ3 hR3 hS => ?_)
    obtain ⟨α3, ha3⟩ : ∃ z : Ax, z = upA α2 (13 + 6) 0 q := ⟨_, rfl⟩
    rw [← ha3] at hR3
    have X3 := X.re hκ3
    have g6 : α2 6 (κ 6) = α3 6 (κ 6) := by rw [ha3, upA_s _ _ _ (by decide)]
    rw [g6] at hl
    have hAk : Ak α α3 := by
      rw [ha3, ha2, ha1]
      exact ((((Ak.rf.up (Or.inl (by decide))).up (Or.inr ⟨by decide, by decide⟩)).up (Or.inr ⟨by decide, by decide⟩)).up (Or.inr ⟨by have := hLa.1; omega, by have := hLa.2; omega⟩)).up (Or.inr ⟨by decide, by decide⟩)
    refine lv_pop X.1.1 X.1.2.1 dX3_addRow_53 rfl ?_
    refine lv_aload X.1.1 X.1.2.1 dX3_addRow_54 (lv_at hl 1 rfl) ?_
    refine gt_6_0 X3 hR3 ⟨w0, ?_⟩ kw_889 dX3_addRow_56 ?_
    · unfold kad
      rw [if_neg (by decide)]
      exact hr2.2
    exact sd_iret X3 hR3 hS (hR3.r 6 (κ 6) 0) hw hAk dX3_addRow_59 (by decide) (by decide))
