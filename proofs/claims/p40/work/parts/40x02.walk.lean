theorem dX9_used_0 : decode cX9_used 0 = .ok (.aload_n 0, 1) := by decide +kernel
theorem dX9_used_1 : decode cX9_used 1 = .ok (.invokevirtual 234, 3) := by decide +kernel
theorem dX9_used_4 : decode cX9_used 4 = .ok (.aload_n 0, 1) := by decide +kernel
theorem dX9_used_5 : decode cX9_used 5 = .ok (.invokevirtual 327, 3) := by decide +kernel
theorem dX9_used_8 : decode cX9_used 8 = .ok (.aload_n 0, 1) := by decide +kernel
theorem dX9_used_9 : decode cX9_used 9 = .ok (.iload_n 1, 1) := by decide +kernel
theorem dX9_used_10 : decode cX9_used 10 = .ok (.invokevirtual 362, 3) := by decide +kernel
theorem dX9_used_13 : decode cX9_used 13 = .ok (.aload_n 0, 1) := by decide +kernel
theorem dX9_used_14 : decode cX9_used 14 = .ok (.getfield 42, 3) := by decide +kernel
theorem dX9_used_17 : decode cX9_used 17 = .ok (.getfield 365, 3) := by decide +kernel
theorem dX9_used_20 : decode cX9_used 20 = .ok (.iload_n 1, 1) := by decide +kernel
theorem dX9_used_21 : decode cX9_used 21 = .ok (.iaload, 1) := by decide +kernel
theorem dX9_used_22 : decode cX9_used 22 = .ok (.ireturn, 1) := by decide +kernel
theorem dX9_notesOn_0 : decode cX9_notesOn 0 = .ok (.aload_n 0, 1) := by decide +kernel
theorem dX9_notesOn_1 : decode cX9_notesOn 1 = .ok (.invokevirtual 234, 3) := by decide +kernel
theorem dX9_notesOn_4 : decode cX9_notesOn 4 = .ok (.aload_n 0, 1) := by decide +kernel
theorem dX9_notesOn_5 : decode cX9_notesOn 5 = .ok (.invokevirtual 327, 3) := by decide +kernel
theorem dX9_notesOn_8 : decode cX9_notesOn 8 = .ok (.aload_n 0, 1) := by decide +kernel
theorem dX9_notesOn_9 : decode cX9_notesOn 9 = .ok (.iload_n 1, 1) := by decide +kernel
theorem dX9_notesOn_10 : decode cX9_notesOn 10 = .ok (.invokevirtual 362, 3) := by decide +kernel
theorem dX9_notesOn_13 : decode cX9_notesOn 13 = .ok (.aload_n 0, 1) := by decide +kernel
theorem dX9_notesOn_14 : decode cX9_notesOn 14 = .ok (.getfield 42, 3) := by decide +kernel
theorem dX9_notesOn_17 : decode cX9_notesOn 17 = .ok (.getfield 368, 3) := by decide +kernel
theorem dX9_notesOn_20 : decode cX9_notesOn 20 = .ok (.iload_n 1, 1) := by decide +kernel
theorem dX9_notesOn_21 : decode cX9_notesOn 21 = .ok (.iaload, 1) := by decide +kernel
theorem dX9_notesOn_22 : decode cX9_notesOn 22 = .ok (.ireturn, 1) := by decide +kernel
theorem dX9_carried_0 : decode cX9_carried 0 = .ok (.aload_n 0, 1) := by decide +kernel
theorem dX9_carried_1 : decode cX9_carried 1 = .ok (.iload_n 2, 1) := by decide +kernel
theorem dX9_carried_2 : decode cX9_carried 2 = .ok (.invokevirtual 118, 3) := by decide +kernel
theorem dX9_carried_5 : decode cX9_carried 5 = .ok (.aload_n 0, 1) := by decide +kernel
theorem dX9_carried_6 : decode cX9_carried 6 = .ok (.invokevirtual 234, 3) := by decide +kernel
theorem dX9_carried_9 : decode cX9_carried 9 = .ok (.aload_n 0, 1) := by decide +kernel
theorem dX9_carried_10 : decode cX9_carried 10 = .ok (.invokevirtual 327, 3) := by decide +kernel
theorem dX9_carried_13 : decode cX9_carried 13 = .ok (.aload_n 0, 1) := by decide +kernel
theorem dX9_carried_14 : decode cX9_carried 14 = .ok (.iload_n 1, 1) := by decide +kernel
theorem dX9_carried_15 : decode cX9_carried 15 = .ok (.invokevirtual 362, 3) := by decide +kernel
theorem dX9_carried_18 : decode cX9_carried 18 = .ok (.aload_n 0, 1) := by decide +kernel
theorem dX9_carried_19 : decode cX9_carried 19 = .ok (.getfield 42, 3) := by decide +kernel
theorem dX9_carried_22 : decode cX9_carried 22 = .ok (.iload_n 1, 1) := by decide +kernel
theorem dX9_carried_23 : decode cX9_carried 23 = .ok (.iload_n 2, 1) := by decide +kernel
theorem dX9_carried_24 : decode cX9_carried 24 = .ok (.invokevirtual 396, 3) := by decide +kernel
theorem dX9_carried_27 : decode cX9_carried 27 = .ok (.ireturn, 1) := by decide +kernel
theorem dX9_carriedByCells_0 : decode cX9_carriedByCells 0 = .ok (.aload_n 0, 1) := by decide +kernel
theorem dX9_carriedByCells_1 : decode cX9_carriedByCells 1 = .ok (.iload_n 2, 1) := by decide +kernel
theorem dX9_carriedByCells_2 : decode cX9_carriedByCells 2 = .ok (.invokevirtual 118, 3) := by decide +kernel
theorem dX9_carriedByCells_5 : decode cX9_carriedByCells 5 = .ok (.aload_n 0, 1) := by decide +kernel
theorem dX9_carriedByCells_6 : decode cX9_carriedByCells 6 = .ok (.invokevirtual 234, 3) := by decide +kernel
theorem dX9_carriedByCells_9 : decode cX9_carriedByCells 9 = .ok (.aload_n 0, 1) := by decide +kernel
theorem dX9_carriedByCells_10 : decode cX9_carriedByCells 10 = .ok (.invokevirtual 327, 3) := by decide +kernel
theorem dX9_carriedByCells_13 : decode cX9_carriedByCells 13 = .ok (.aload_n 0, 1) := by decide +kernel
theorem dX9_carriedByCells_14 : decode cX9_carriedByCells 14 = .ok (.iload_n 1, 1) := by decide +kernel
theorem dX9_carriedByCells_15 : decode cX9_carriedByCells 15 = .ok (.invokevirtual 362, 3) := by decide +kernel
theorem dX9_carriedByCells_18 : decode cX9_carriedByCells 18 = .ok (.iconst 0, 1) := by decide +kernel
theorem dX9_carriedByCells_19 : decode cX9_carriedByCells 19 = .ok (.istore_n 3, 1) := by decide +kernel
theorem dX9_carriedByCells_20 : decode cX9_carriedByCells 20 = .ok (.iconst 0, 1) := by decide +kernel
theorem dX9_carriedByCells_21 : decode cX9_carriedByCells 21 = .ok (.istore 4, 2) := by decide +kernel
theorem dX9_carriedByCells_23 : decode cX9_carriedByCells 23 = .ok (.iload 4, 2) := by decide +kernel
theorem dX9_carriedByCells_25 : decode cX9_carriedByCells 25 = .ok (.aload_n 0, 1) := by decide +kernel
theorem dX9_carriedByCells_26 : decode cX9_carriedByCells 26 = .ok (.getfield 12, 3) := by decide +kernel
theorem dX9_carriedByCells_29 : decode cX9_carriedByCells 29 = .ok (.getfield 129, 3) := by decide +kernel
theorem dX9_carriedByCells_32 : decode cX9_carriedByCells 32 = .ok (.invokevirtual 80, 3) := by decide +kernel
theorem dX9_carriedByCells_35 : decode cX9_carriedByCells 35 = .ok (.if_icmp .ge 95, 3) := by decide +kernel
theorem dX9_carriedByCells_38 : decode cX9_carriedByCells 38 = .ok (.aload_n 0, 1) := by decide +kernel
theorem dX9_carriedByCells_39 : decode cX9_carriedByCells 39 = .ok (.getfield 12, 3) := by decide +kernel
theorem dX9_carriedByCells_42 : decode cX9_carriedByCells 42 = .ok (.getfield 129, 3) := by decide +kernel
theorem dX9_carriedByCells_45 : decode cX9_carriedByCells 45 = .ok (.iload 4, 2) := by decide +kernel
theorem dX9_carriedByCells_47 : decode cX9_carriedByCells 47 = .ok (.invokevirtual 123, 3) := by decide +kernel
theorem dX9_carriedByCells_50 : decode cX9_carriedByCells 50 = .ok (.checkcast 138, 3) := by decide +kernel
theorem dX9_carriedByCells_53 : decode cX9_carriedByCells 53 = .ok (.astore 5, 2) := by decide +kernel
theorem dX9_carriedByCells_55 : decode cX9_carriedByCells 55 = .ok (.aload 5, 2) := by decide +kernel
theorem dX9_carriedByCells_57 : decode cX9_carriedByCells 57 = .ok (.invokevirtual 256, 3) := by decide +kernel
theorem dX9_carriedByCells_60 : decode cX9_carriedByCells 60 = .ok (.ifCond .eq 28, 3) := by decide +kernel
theorem dX9_carriedByCells_63 : decode cX9_carriedByCells 63 = .ok (.aload 5, 2) := by decide +kernel
theorem dX9_carriedByCells_65 : decode cX9_carriedByCells 65 = .ok (.getfield 261, 3) := by decide +kernel
theorem dX9_carriedByCells_68 : decode cX9_carriedByCells 68 = .ok (.iload_n 2, 1) := by decide +kernel
theorem dX9_carriedByCells_69 : decode cX9_carriedByCells 69 = .ok (.if_icmp .ne 19, 3) := by decide +kernel
theorem dX9_carriedByCells_72 : decode cX9_carriedByCells 72 = .ok (.aload 5, 2) := by decide +kernel
theorem dX9_carriedByCells_74 : decode cX9_carriedByCells 74 = .ok (.getfield 186, 3) := by decide +kernel
theorem dX9_carriedByCells_77 : decode cX9_carriedByCells 77 = .ok (.getfield 190, 3) := by decide +kernel
theorem dX9_carriedByCells_80 : decode cX9_carriedByCells 80 = .ok (.iconst 1, 1) := by decide +kernel
theorem dX9_carriedByCells_81 : decode cX9_carriedByCells 81 = .ok (.if_icmp .ne 7, 3) := by decide +kernel
theorem dX9_carriedByCells_84 : decode cX9_carriedByCells 84 = .ok (.iconst 1, 1) := by decide +kernel
theorem dX9_carriedByCells_85 : decode cX9_carriedByCells 85 = .ok (.goto 4, 3) := by decide +kernel
theorem dX9_carriedByCells_88 : decode cX9_carriedByCells 88 = .ok (.iconst 0, 1) := by decide +kernel
theorem dX9_carriedByCells_89 : decode cX9_carriedByCells 89 = .ok (.istore 6, 2) := by decide +kernel
theorem dX9_carriedByCells_91 : decode cX9_carriedByCells 91 = .ok (.iload 6, 2) := by decide +kernel
theorem dX9_carriedByCells_93 : decode cX9_carriedByCells 93 = .ok (.ifCond .eq 31, 3) := by decide +kernel
theorem dX9_carriedByCells_96 : decode cX9_carriedByCells 96 = .ok (.aload_n 0, 1) := by decide +kernel
theorem dX9_carriedByCells_97 : decode cX9_carriedByCells 97 = .ok (.getfield 42, 3) := by decide +kernel
theorem dX9_carriedByCells_100 : decode cX9_carriedByCells 100 = .ok (.getfield 338, 3) := by decide +kernel
theorem dX9_carriedByCells_103 : decode cX9_carriedByCells 103 = .ok (.aload 5, 2) := by decide +kernel
theorem dX9_carriedByCells_105 : decode cX9_carriedByCells 105 = .ok (.getfield 186, 3) := by decide +kernel
theorem dX9_carriedByCells_108 : decode cX9_carriedByCells 108 = .ok (.getfield 399, 3) := by decide +kernel
theorem dX9_carriedByCells_111 : decode cX9_carriedByCells 111 = .ok (.iaload, 1) := by decide +kernel
theorem dX9_carriedByCells_112 : decode cX9_carriedByCells 112 = .ok (.iload_n 1, 1) := by decide +kernel
theorem dX9_carriedByCells_113 : decode cX9_carriedByCells 113 = .ok (.if_icmp .gt 11, 3) := by decide +kernel
theorem dX9_carriedByCells_116 : decode cX9_carriedByCells 116 = .ok (.iload_n 3, 1) := by decide +kernel
theorem dX9_carriedByCells_117 : decode cX9_carriedByCells 117 = .ok (.aload 5, 2) := by decide +kernel
theorem dX9_carriedByCells_119 : decode cX9_carriedByCells 119 = .ok (.getfield 178, 3) := by decide +kernel
theorem dX9_carriedByCells_122 : decode cX9_carriedByCells 122 = .ok (.iadd, 1) := by decide +kernel
theorem dX9_carriedByCells_123 : decode cX9_carriedByCells 123 = .ok (.istore_n 3, 1) := by decide +kernel
theorem dX9_carriedByCells_124 : decode cX9_carriedByCells 124 = .ok (.iinc 4 1, 3) := by decide +kernel
theorem dX9_carriedByCells_127 : decode cX9_carriedByCells 127 = .ok (.goto (-104), 3) := by decide +kernel
theorem dX9_carriedByCells_130 : decode cX9_carriedByCells 130 = .ok (.iload_n 3, 1) := by decide +kernel
theorem dX9_carriedByCells_131 : decode cX9_carriedByCells 131 = .ok (.ireturn, 1) := by decide +kernel
section
variable {p : Program} {l : Launch} {e : Env} {s : State} {m : MethodId} {args : Array Value} {below : List Frame} {meth : Method} {c : Code} {G : Gx} {e0 : Nat} {α : Ax} {κ : Nat → Int} {B : Nat}
def wp_X9_used (p1 : Int) (M : Mem) (Xm : String → Mem → Prop) (Qm : Int → Mem → Prop) : Prop := wp_X9_refresh M fun (M1 : Mem) => wp_X9_requireSheets M1 Xm fun (M2 : Mem) => wp_X9_requirePage p1 M2 Xm fun (M3 : Mem) => (0 ≤ p1 ∧ p1 < 904) ∧ Qm (M3 42 0 p1) M3
set_option maxHeartbeats 4000000 in
set_option maxRecDepth 100000 in
theorem t_X9_used {p1 : Int} (X : CX p m c cX9_used 2 s args RX9 G B κ meth (some .int)) (T : XT l c) (hp1 : inR p1) {M : Mem} {Xm : String → Mem → Prop} {Qm : Int → Mem → Prop} (hw : wp_X9_used p1 M Xm Qm) (H : Heap) (locs : List Loc) (hR : Rp G e0 α κ B M H) (hS : va_S (fun q => B ≤ q) s.heap H locs) (ls : Array Slot) (hl : lv_has ls 2 [(0, .ref (α 10 0)), (1, .int (Int32.ofInt p1))]) : WXI p l e 8 2 12 s m args below meth c G e0 α κ B Qm Xm H locs 0 0 0 ls [] := by
  have hw : wp_X9_refresh M fun (M1 : Mem) => wp_X9_requireSheets M1 Xm fun (M2 : Mem) => wp_X9_requirePage p1 M2 Xm fun (M3 : Mem) => (0 ≤ p1 ∧ p1 < 904) ∧ Qm (M3 42 0 p1) M3 := hw
  refine lv_aload_n X.1.1 X.1.2.1 dX9_used_0 rfl (lv_at hl 0 rfl) ?_
  refine cs_X9_refresh X  (kc := 8) rmX_ok ⟨by decide, by decide⟩ (by decide) hR hS kw_370 hl.1 dX9_used_1 (Nat.le_of_ble_eq_true rfl) hw (fun M1 H locs hw hR hS => ?_)
  refine lv_aload_n X.1.1 X.1.2.1 dX9_used_4 rfl (lv_at hl 0 rfl) ?_
  refine cx_X9_requireSheets X T  (by decide) ⟨by decide, by decide⟩ hR hS kw_1343 hl.1 dX9_used_5 (Nat.le_of_ble_eq_true rfl) hw (fun M2 H locs hw hR hS => ?_)
  refine W.widen (k := 1) (n := 6) (by decide) (by decide) ?_
  refine lv_aload_n X.1.1 X.1.2.1 dX9_used_8 rfl (lv_at hl 0 rfl) ?_
  refine lv_iload_n X.1.1 X.1.2.1 dX9_used_9 rfl (lv_at hl 1 rfl) ?_
  refine cx_X9_requirePage X T hp1 (by decide) ⟨by decide, by decide⟩ hR hS kw_1380 hl.1 dX9_used_10 (Nat.le_of_ble_eq_true rfl) hw (fun M3 H locs hw hR hS => ?_)
  refine W.widen (k := 2) (n := 12) (by decide) (by decide) ?_
  refine lv_aload_n X.1.1 X.1.2.1 dX9_used_13 rfl (lv_at hl 0 rfl) ?_
  refine gt_10_5 X hR (okf X.2.2.1 rfl) kw_337 dX9_used_14 ?_
  refine gt_7_8 X hR (okp X.2.2.1 rfl (by decide)) kw_252 dX9_used_17 ?_
  refine lv_iload_n X.1.1 X.1.2.1 dX9_used_20 rfl (lv_at hl 1 rfl) ?_
  have c4 := hw.1
  have hw := hw.2
  refine ra_42 X hR (okp X.2.2.1 rfl (pr_7 X.2.2.1 (okp X.2.2.1 rfl (by decide)))) c4 dX9_used_21 ?_
  have r5 := hR.r 42 0 p1
  exact sx_iret X hR hS r5 hw dX9_used_22 (by decide) (by decide)
theorem m_X9_used {l : Launch} {G : Gx} {e0 : Nat} {α : Ax} {κ : Nat → Int} {B : Nat} {p1 : Int} (hlt : l.stackTraces = false) (hκ : kOK κ) (hp1 : inR p1) {M : Mem} {Qm : Int → Mem → Prop} {Xm : String → Mem → Prop} (hw : wp_X9_used p1 M Xm Qm) : XI l yX9_used (Cond.code yX9_used cX9_used 2 (some .int)) 8 2 12 G e0 α κ B [.ref (α 10 0), .int (Int32.ofInt p1)] M Qm Xm :=
  XI.mk hlt hκ (by decide +kernel) rfl (Nat.le_of_ble_eq_true rfl) (lv := [(0, .ref (α 10 0)), (1, .int (Int32.ofInt p1))]) rfl (fun p e s m args below meth c ls X T hR hS hl => t_X9_used X T hp1 hw _ _ hR hS ls hl)
theorem cx_X9_used {cc : ByteArray} {nL : Nat} {own : String} {ret : Option FieldType} {idx pc : Nat} {p1 : Int} (X : CX p m c cc nL s args own G B κ meth ret) (T : XT l c) (hp1 : inR p1) {k mc ms cells slots : Nat} (hk : 8 + 1 ≤ k) (hcel : cells + 2 ≤ mc ∧ slots + 12 ≤ ms) {M : Mem} {H : Heap} {locs : List Loc} (hR : Rp G e0 α κ B M H) (hS : va_S (fun q => B ≤ q) s.heap H locs) (k1 : Cond.methodLink own idx yX9_used ∈ gw) {ls : Array Slot} (hml : ls.size = nL) {rest : List Value} (hd : decode cc pc = .ok (.invokevirtual idx, 3)) (hrest : (rest.map fun v => v.category).sum ≤ 8) {Qc : Array Value → State → Outcome → State → Prop} {Qm : Int → Mem → Prop} {Xm : String → Mem → Prop} (hw : wp_X9_used p1 M Xm Qm) (kk : ∀ (r : Int) (M1 : Mem) (H1 : Heap) (locs1 : List Loc), Qm r M1 → inR r → Rp G e0 α κ B M1 H1 → va_S (fun q => B ≤ q) s.heap H1 locs1 → W p l e (rmX k mc ms) s m args below meth c H1 locs1 (cells + 2) (slots + 12) (vx_MQ below Qc (XQ G e0 α κ B Xm) args s mc ms (fun q => B ≤ q)) (F0 m (pc + 3) ls (.int (Int32.ofInt r) :: rest))) : W p l e (rmX k mc ms) s m args below meth c H locs cells slots (vx_MQ below Qc (XQ G e0 α κ B Xm) args s mc ms (fun q => B ≤ q)) (F0 m pc ls (.int (Int32.ofInt p1) :: .ref (α 10 0) :: rest)) :=
  sx_callVI 8 (n := 1) (As := [.int (Int32.ofInt p1)]) (rest := rest) X T hR hS (m_X9_used T.1 X.2.2.1 hp1 hw) k1 kw_1377 kw_1378 kw_38 kw_1379 ⟨rfl, by decide +kernel, by decide +kernel, by decide +kernel⟩ (rm_ok rmX_ok hk (by decide)) (rc_10 X hR (okf X.2.2.1 rfl)) rfl rfl hrest hml hd hcel kk
def wp_X9_notesOn (p1 : Int) (M : Mem) (Xm : String → Mem → Prop) (Qm : Int → Mem → Prop) : Prop := wp_X9_refresh M fun (M1 : Mem) => wp_X9_requireSheets M1 Xm fun (M2 : Mem) => wp_X9_requirePage p1 M2 Xm fun (M3 : Mem) => (0 ≤ p1 ∧ p1 < 904) ∧ Qm (M3 43 0 p1) M3
set_option maxHeartbeats 4000000 in
set_option maxRecDepth 100000 in
theorem t_X9_notesOn {p1 : Int} (X : CX p m c cX9_notesOn 2 s args RX9 G B κ meth (some .int)) (T : XT l c) (hp1 : inR p1) {M : Mem} {Xm : String → Mem → Prop} {Qm : Int → Mem → Prop} (hw : wp_X9_notesOn p1 M Xm Qm) (H : Heap) (locs : List Loc) (hR : Rp G e0 α κ B M H) (hS : va_S (fun q => B ≤ q) s.heap H locs) (ls : Array Slot) (hl : lv_has ls 2 [(0, .ref (α 10 0)), (1, .int (Int32.ofInt p1))]) : WXI p l e 8 2 12 s m args below meth c G e0 α κ B Qm Xm H locs 0 0 0 ls [] := by
  have hw : wp_X9_refresh M fun (M1 : Mem) => wp_X9_requireSheets M1 Xm fun (M2 : Mem) => wp_X9_requirePage p1 M2 Xm fun (M3 : Mem) => (0 ≤ p1 ∧ p1 < 904) ∧ Qm (M3 43 0 p1) M3 := hw
  refine lv_aload_n X.1.1 X.1.2.1 dX9_notesOn_0 rfl (lv_at hl 0 rfl) ?_
  refine cs_X9_refresh X  (kc := 8) rmX_ok ⟨by decide, by decide⟩ (by decide) hR hS kw_370 hl.1 dX9_notesOn_1 (Nat.le_of_ble_eq_true rfl) hw (fun M1 H locs hw hR hS => ?_)
  refine lv_aload_n X.1.1 X.1.2.1 dX9_notesOn_4 rfl (lv_at hl 0 rfl) ?_
  refine cx_X9_requireSheets X T  (by decide) ⟨by decide, by decide⟩ hR hS kw_1343 hl.1 dX9_notesOn_5 (Nat.le_of_ble_eq_true rfl) hw (fun M2 H locs hw hR hS => ?_)
  refine W.widen (k := 1) (n := 6) (by decide) (by decide) ?_
  refine lv_aload_n X.1.1 X.1.2.1 dX9_notesOn_8 rfl (lv_at hl 0 rfl) ?_
  refine lv_iload_n X.1.1 X.1.2.1 dX9_notesOn_9 rfl (lv_at hl 1 rfl) ?_
  refine cx_X9_requirePage X T hp1 (by decide) ⟨by decide, by decide⟩ hR hS kw_1380 hl.1 dX9_notesOn_10 (Nat.le_of_ble_eq_true rfl) hw (fun M3 H locs hw hR hS => ?_)
  refine W.widen (k := 2) (n := 12) (by decide) (by decide) ?_
  refine lv_aload_n X.1.1 X.1.2.1 dX9_notesOn_13 rfl (lv_at hl 0 rfl) ?_
  refine gt_10_5 X hR (okf X.2.2.1 rfl) kw_337 dX9_notesOn_14 ?_
  refine gt_7_9 X hR (okp X.2.2.1 rfl (by decide)) kw_254 dX9_notesOn_17 ?_
  refine lv_iload_n X.1.1 X.1.2.1 dX9_notesOn_20 rfl (lv_at hl 1 rfl) ?_
  have c4 := hw.1
  have hw := hw.2
  refine ra_43 X hR (okp X.2.2.1 rfl (pr_7 X.2.2.1 (okp X.2.2.1 rfl (by decide)))) c4 dX9_notesOn_21 ?_
  have r5 := hR.r 43 0 p1
  exact sx_iret X hR hS r5 hw dX9_notesOn_22 (by decide) (by decide)
theorem m_X9_notesOn {l : Launch} {G : Gx} {e0 : Nat} {α : Ax} {κ : Nat → Int} {B : Nat} {p1 : Int} (hlt : l.stackTraces = false) (hκ : kOK κ) (hp1 : inR p1) {M : Mem} {Qm : Int → Mem → Prop} {Xm : String → Mem → Prop} (hw : wp_X9_notesOn p1 M Xm Qm) : XI l yX9_notesOn (Cond.code yX9_notesOn cX9_notesOn 2 (some .int)) 8 2 12 G e0 α κ B [.ref (α 10 0), .int (Int32.ofInt p1)] M Qm Xm :=
  XI.mk hlt hκ (by decide +kernel) rfl (Nat.le_of_ble_eq_true rfl) (lv := [(0, .ref (α 10 0)), (1, .int (Int32.ofInt p1))]) rfl (fun p e s m args below meth c ls X T hR hS hl => t_X9_notesOn X T hp1 hw _ _ hR hS ls hl)
theorem cx_X9_notesOn {cc : ByteArray} {nL : Nat} {own : String} {ret : Option FieldType} {idx pc : Nat} {p1 : Int} (X : CX p m c cc nL s args own G B κ meth ret) (T : XT l c) (hp1 : inR p1) {k mc ms cells slots : Nat} (hk : 8 + 1 ≤ k) (hcel : cells + 2 ≤ mc ∧ slots + 12 ≤ ms) {M : Mem} {H : Heap} {locs : List Loc} (hR : Rp G e0 α κ B M H) (hS : va_S (fun q => B ≤ q) s.heap H locs) (k1 : Cond.methodLink own idx yX9_notesOn ∈ gw) {ls : Array Slot} (hml : ls.size = nL) {rest : List Value} (hd : decode cc pc = .ok (.invokevirtual idx, 3)) (hrest : (rest.map fun v => v.category).sum ≤ 8) {Qc : Array Value → State → Outcome → State → Prop} {Qm : Int → Mem → Prop} {Xm : String → Mem → Prop} (hw : wp_X9_notesOn p1 M Xm Qm) (kk : ∀ (r : Int) (M1 : Mem) (H1 : Heap) (locs1 : List Loc), Qm r M1 → inR r → Rp G e0 α κ B M1 H1 → va_S (fun q => B ≤ q) s.heap H1 locs1 → W p l e (rmX k mc ms) s m args below meth c H1 locs1 (cells + 2) (slots + 12) (vx_MQ below Qc (XQ G e0 α κ B Xm) args s mc ms (fun q => B ≤ q)) (F0 m (pc + 3) ls (.int (Int32.ofInt r) :: rest))) : W p l e (rmX k mc ms) s m args below meth c H locs cells slots (vx_MQ below Qc (XQ G e0 α κ B Xm) args s mc ms (fun q => B ≤ q)) (F0 m pc ls (.int (Int32.ofInt p1) :: .ref (α 10 0) :: rest)) :=
  sx_callVI 8 (n := 1) (As := [.int (Int32.ofInt p1)]) (rest := rest) X T hR hS (m_X9_notesOn T.1 X.2.2.1 hp1 hw) k1 kw_1387 kw_1388 kw_38 kw_1389 ⟨rfl, by decide +kernel, by decide +kernel, by decide +kernel⟩ (rm_ok rmX_ok hk (by decide)) (rc_10 X hR (okf X.2.2.1 rfl)) rfl rfl hrest hml hd hcel kk
def wp_X9_carried (p1 : Int) (p2 : Int) (M : Mem) (Xm : String → Mem → Prop) (Qm : Int → Mem → Prop) : Prop := wp_X9_requireColumn p2 M Xm fun (M1 : Mem) => wp_X9_refresh M1 fun (M2 : Mem) => wp_X9_requireSheets M2 Xm fun (M3 : Mem) => wp_X9_requirePage p1 M3 Xm fun (M4 : Mem) => wp_X6_carriedOut 0 p1 p2 M4 fun (x6 : Int) (M5 : Mem) => Qm x6 M5
set_option maxHeartbeats 4000000 in
set_option maxRecDepth 100000 in
theorem t_X9_carried {p1 : Int} {p2 : Int} (X : CX p m c cX9_carried 3 s args RX9 G B κ meth (some .int)) (T : XT l c) (hp1 : inR p1) (hp2 : inR p2) {M : Mem} {Xm : String → Mem → Prop} {Qm : Int → Mem → Prop} (hw : wp_X9_carried p1 p2 M Xm Qm) (H : Heap) (locs : List Loc) (hR : Rp G e0 α κ B M H) (hS : va_S (fun q => B ≤ q) s.heap H locs) (ls : Array Slot) (hl : lv_has ls 3 [(0, .ref (α 10 0)), (1, .int (Int32.ofInt p1)), (2, .int (Int32.ofInt p2))]) : WXI p l e 8 3 18 s m args below meth c G e0 α κ B Qm Xm H locs 0 0 0 ls [] := by
  have hw : wp_X9_requireColumn p2 M Xm fun (M1 : Mem) => wp_X9_refresh M1 fun (M2 : Mem) => wp_X9_requireSheets M2 Xm fun (M3 : Mem) => wp_X9_requirePage p1 M3 Xm fun (M4 : Mem) => wp_X6_carriedOut 0 p1 p2 M4 fun (x6 : Int) (M5 : Mem) => Qm x6 M5 := hw
  refine lv_aload_n X.1.1 X.1.2.1 dX9_carried_0 rfl (lv_at hl 0 rfl) ?_
  refine lv_iload_n X.1.1 X.1.2.1 dX9_carried_1 rfl (lv_at hl 2 rfl) ?_
  refine cx_X9_requireColumn X T hp2 (by decide) ⟨by decide, by decide⟩ hR hS kw_959 hl.1 dX9_carried_2 (Nat.le_of_ble_eq_true rfl) hw (fun M1 H locs hw hR hS => ?_)
  refine W.widen (k := 1) (n := 6) (by decide) (by decide) ?_
  refine lv_aload_n X.1.1 X.1.2.1 dX9_carried_5 rfl (lv_at hl 0 rfl) ?_
  refine cs_X9_refresh X  (kc := 8) rmX_ok ⟨by decide, by decide⟩ (by decide) hR hS kw_370 hl.1 dX9_carried_6 (Nat.le_of_ble_eq_true rfl) hw (fun M2 H locs hw hR hS => ?_)
  refine lv_aload_n X.1.1 X.1.2.1 dX9_carried_9 rfl (lv_at hl 0 rfl) ?_
  refine cx_X9_requireSheets X T  (by decide) ⟨by decide, by decide⟩ hR hS kw_1343 hl.1 dX9_carried_10 (Nat.le_of_ble_eq_true rfl) hw (fun M3 H locs hw hR hS => ?_)
  refine W.widen (k := 2) (n := 12) (by decide) (by decide) ?_
  refine lv_aload_n X.1.1 X.1.2.1 dX9_carried_13 rfl (lv_at hl 0 rfl) ?_
  refine lv_iload_n X.1.1 X.1.2.1 dX9_carried_14 rfl (lv_at hl 1 rfl) ?_
  refine cx_X9_requirePage X T hp1 (by decide) ⟨by decide, by decide⟩ hR hS kw_1380 hl.1 dX9_carried_15 (Nat.le_of_ble_eq_true rfl) hw (fun M4 H locs hw hR hS => ?_)
  refine W.widen (k := 3) (n := 18) (by decide) (by decide) ?_
  refine lv_aload_n X.1.1 X.1.2.1 dX9_carried_18 rfl (lv_at hl 0 rfl) ?_
  refine gt_10_5 X hR (okf X.2.2.1 rfl) kw_337 dX9_carried_19 ?_
  refine lv_iload_n X.1.1 X.1.2.1 dX9_carried_22 rfl (lv_at hl 1 rfl) ?_
  refine lv_iload_n X.1.1 X.1.2.1 dX9_carried_23 rfl (lv_at hl 2 rfl) ?_
  refine cs_X6_carriedOut X (okp X.2.2.1 rfl (by decide)) hp1 hp2 (kc := 8) rmX_ok ⟨by decide, by decide⟩ (by decide) hR hS kw_1394 hl.1 dX9_carried_24 (Nat.le_of_ble_eq_true rfl) hw (fun x6 M5 H locs hw r7 hR hS => ?_)
  exact sx_iret X hR hS r7 hw dX9_carried_27 (by decide) (by decide)
theorem m_X9_carried {l : Launch} {G : Gx} {e0 : Nat} {α : Ax} {κ : Nat → Int} {B : Nat} {p1 : Int} {p2 : Int} (hlt : l.stackTraces = false) (hκ : kOK κ) (hp1 : inR p1) (hp2 : inR p2) {M : Mem} {Qm : Int → Mem → Prop} {Xm : String → Mem → Prop} (hw : wp_X9_carried p1 p2 M Xm Qm) : XI l yX9_carried (Cond.code yX9_carried cX9_carried 3 (some .int)) 8 3 18 G e0 α κ B [.ref (α 10 0), .int (Int32.ofInt p1), .int (Int32.ofInt p2)] M Qm Xm :=
  XI.mk hlt hκ (by decide +kernel) rfl (Nat.le_of_ble_eq_true rfl) (lv := [(0, .ref (α 10 0)), (1, .int (Int32.ofInt p1)), (2, .int (Int32.ofInt p2))]) rfl (fun p e s m args below meth c ls X T hR hS hl => t_X9_carried X T hp1 hp2 hw _ _ hR hS ls hl)
theorem cx_X9_carried {cc : ByteArray} {nL : Nat} {own : String} {ret : Option FieldType} {idx pc : Nat} {p1 : Int} {p2 : Int} (X : CX p m c cc nL s args own G B κ meth ret) (T : XT l c) (hp1 : inR p1) (hp2 : inR p2) {k mc ms cells slots : Nat} (hk : 8 + 1 ≤ k) (hcel : cells + 3 ≤ mc ∧ slots + 18 ≤ ms) {M : Mem} {H : Heap} {locs : List Loc} (hR : Rp G e0 α κ B M H) (hS : va_S (fun q => B ≤ q) s.heap H locs) (k1 : Cond.methodLink own idx yX9_carried ∈ gw) {ls : Array Slot} (hml : ls.size = nL) {rest : List Value} (hd : decode cc pc = .ok (.invokevirtual idx, 3)) (hrest : (rest.map fun v => v.category).sum ≤ 8) {Qc : Array Value → State → Outcome → State → Prop} {Qm : Int → Mem → Prop} {Xm : String → Mem → Prop} (hw : wp_X9_carried p1 p2 M Xm Qm) (kk : ∀ (r : Int) (M1 : Mem) (H1 : Heap) (locs1 : List Loc), Qm r M1 → inR r → Rp G e0 α κ B M1 H1 → va_S (fun q => B ≤ q) s.heap H1 locs1 → W p l e (rmX k mc ms) s m args below meth c H1 locs1 (cells + 3) (slots + 18) (vx_MQ below Qc (XQ G e0 α κ B Xm) args s mc ms (fun q => B ≤ q)) (F0 m (pc + 3) ls (.int (Int32.ofInt r) :: rest))) : W p l e (rmX k mc ms) s m args below meth c H locs cells slots (vx_MQ below Qc (XQ G e0 α κ B Xm) args s mc ms (fun q => B ≤ q)) (F0 m pc ls (.int (Int32.ofInt p2) :: .int (Int32.ofInt p1) :: .ref (α 10 0) :: rest)) :=
  sx_callVI 8 (n := 2) (As := [.int (Int32.ofInt p1), .int (Int32.ofInt p2)]) (rest := rest) X T hR hS (m_X9_carried T.1 X.2.2.1 hp1 hp2 hw) k1 kw_1391 kw_1392 kw_38 kw_1393 ⟨rfl, by decide +kernel, by decide +kernel, by decide +kernel⟩ (rm_ok rmX_ok hk (by decide)) (rc_10 X hR (okf X.2.2.1 rfl)) rfl rfl hrest hml hd hcel kk
def wp_X9_carriedByCells_124 (p1 : Int) (p2 : Int) (Xm : String → Mem → Prop) (Qm : Int → Mem → Prop) (K23 : Int → Int → Mem → Prop) (y3 : Int) (y4 : Int) (M : Mem) : Prop := (inR (y4 + 1)) ∧ K23 y3 (y4 + 1) M
def wp_X9_carriedByCells_23 (p1 : Int) (p2 : Int) (Xm : String → Mem → Prop) (Qm : Int → Mem → Prop) : Nat → Int → Int → Mem → Prop
  | 0 => fun _ _ _ => False
  | n + 1 => fun y3 y4 M => (((M 14 0 (-1)) ≤ y4 → Qm y3 M) ∧ (y4 < (M 14 0 (-1)) → (0 ≤ y4 ∧ y4 < M 14 0 (-1)) ∧ wp_X0_showsFigure (M 14 0 y4) M fun (x9 : Int) (M8 : Mem) => (((if x9 = 0 then (0 : Int) else (if ¬ (M8 1 (M 14 0 y4) 1) = p2 then (0 : Int) else (if ¬ (M8 6 (M8 1 (M 14 0 y4) 0) 1) = 1 then (0 : Int) else 1))) = 0 → wp_X9_carriedByCells_124 p1 p2 Xm Qm (wp_X9_carriedByCells_23 p1 p2 Xm Qm n) y3 y4 M8) ∧ (¬ (if x9 = 0 then (0 : Int) else (if ¬ (M8 1 (M 14 0 y4) 1) = p2 then (0 : Int) else (if ¬ (M8 6 (M8 1 (M 14 0 y4) 0) 1) = 1 then (0 : Int) else 1))) = 0 → (0 ≤ (M8 6 (M8 1 (M 14 0 y4) 0) 0) ∧ (M8 6 (M8 1 (M 14 0 y4) 0) 0) < 29) ∧ ((p1 < (M8 45 0 (M8 6 (M8 1 (M 14 0 y4) 0) 0)) → wp_X9_carriedByCells_124 p1 p2 Xm Qm (wp_X9_carriedByCells_23 p1 p2 Xm Qm n) y3 y4 M8) ∧ ((M8 45 0 (M8 6 (M8 1 (M 14 0 y4) 0) 0)) ≤ p1 → (inR (y3 + (M8 1 (M 14 0 y4) 9))) ∧ wp_X9_carriedByCells_124 p1 p2 Xm Qm (wp_X9_carriedByCells_23 p1 p2 Xm Qm n) (y3 + (M8 1 (M 14 0 y4) 9)) y4 M8))))))
def wp_X9_carriedByCells (p1 : Int) (p2 : Int) (M : Mem) (Xm : String → Mem → Prop) (Qm : Int → Mem → Prop) : Prop := wp_X9_requireColumn p2 M Xm fun (M1 : Mem) => wp_X9_refresh M1 fun (M2 : Mem) => wp_X9_requireSheets M2 Xm fun (M3 : Mem) => wp_X9_requirePage p1 M3 Xm fun (M4 : Mem) => (∃ n25 : Nat, wp_X9_carriedByCells_23 p1 p2 Xm Qm n25 0 0 M4)
set_option maxHeartbeats 4000000 in
set_option maxRecDepth 100000 in
theorem t_X9_carriedByCells_124 {p1 : Int} {p2 : Int} (X : CX p m c cX9_carriedByCells 7 s args RX9 G B κ meth (some .int)) (T : XT l c) (hp1 : inR p1) (hp2 : inR p2) {Xm : String → Mem → Prop} {Qm : Int → Mem → Prop} {K23 : Int → Int → Mem → Prop} (hK23 : ∀ y3 : Int, ∀ y4 : Int, ∀ M : Mem, K23 y3 y4 M → inR y3 → inR y4 → ∀ (H : Heap) (locs : List Loc), Rp G e0 α κ B M H → va_S (fun q => B ≤ q) s.heap H locs → ∀ (ls : Array Slot), lv_has ls 7 [(0, .ref (α 10 0)), (1, .int (Int32.ofInt p1)), (2, .int (Int32.ofInt p2)), (3, .int (Int32.ofInt y3)), (4, .int (Int32.ofInt y4))] → WXI p l e 8 3 18 s m args below meth c G e0 α κ B Qm Xm H locs 3 18 23 ls []) : ∀ y3 : Int, ∀ y4 : Int, ∀ M : Mem, wp_X9_carriedByCells_124 p1 p2 Xm Qm K23 y3 y4 M → inR y3 → inR y4 → ∀ (H : Heap) (locs : List Loc), Rp G e0 α κ B M H → va_S (fun q => B ≤ q) s.heap H locs → ∀ (ls : Array Slot), lv_has ls 7 [(0, .ref (α 10 0)), (1, .int (Int32.ofInt p1)), (2, .int (Int32.ofInt p2)), (3, .int (Int32.ofInt y3)), (4, .int (Int32.ofInt y4))] → WXI p l e 8 3 18 s m args below meth c G e0 α κ B Qm Xm H locs 3 18 124 ls [] := by
  intro y3 y4 M hw hy3 hy4 H locs hR hS ls hl
  have hw : (inR (y4 + 1)) ∧ K23 y3 (y4 + 1) M := hw
  have c18 := hw.1
  have hw := hw.2
  refine lv_iinc (v := Int32.ofInt (y4 + 1)) (lv' := [(4, .int (Int32.ofInt (y4 + 1))), (0, .ref (α 10 0)), (1, .int (Int32.ofInt p1)), (2, .int (Int32.ofInt p2)), (3, .int (Int32.ofInt y3))]) X.1.1 X.1.2.1 dX9_carriedByCells_124 hl (k := 4) rfl (Int32.ofInt_add _ _).symm (by decide) rfl (fun ls hl => ?_)
  refine lv_goto (tgt := 23) X.1.1 X.1.2.1 dX9_carriedByCells_127 (by decide) ?_
  exact hK23 _ _ _ hw hy3 c18 _ _ hR hS _ (lv_sub hl [1, 2, 3, 4, 0] rfl)
set_option maxHeartbeats 4000000 in
set_option maxRecDepth 100000 in
theorem t_X9_carriedByCells_23 {p1 : Int} {p2 : Int} (X : CX p m c cX9_carriedByCells 7 s args RX9 G B κ meth (some .int)) (T : XT l c) (hp1 : inR p1) (hp2 : inR p2) {Xm : String → Mem → Prop} {Qm : Int → Mem → Prop} : ∀ n : Nat, ∀ y3 : Int, ∀ y4 : Int, ∀ M : Mem, wp_X9_carriedByCells_23 p1 p2 Xm Qm n y3 y4 M → inR y3 → inR y4 → ∀ (H : Heap) (locs : List Loc), Rp G e0 α κ B M H → va_S (fun q => B ≤ q) s.heap H locs → ∀ (ls : Array Slot), lv_has ls 7 [(0, .ref (α 10 0)), (1, .int (Int32.ofInt p1)), (2, .int (Int32.ofInt p2)), (3, .int (Int32.ofInt y3)), (4, .int (Int32.ofInt y4))] → WXI p l e 8 3 18 s m args below meth c G e0 α κ B Qm Xm H locs 3 18 23 ls [] := by
  intro n
  induction n with
  | zero =>
    intro y3 y4 M hw hy3 hy4 H locs hR hS ls hl
    exact hw.elim
  | succ n ih =>
    intro y3 y4 M hw hy3 hy4 H locs hR hS ls hl
    have hw : (((M 14 0 (-1)) ≤ y4 → Qm y3 M) ∧ (y4 < (M 14 0 (-1)) → (0 ≤ y4 ∧ y4 < M 14 0 (-1)) ∧ wp_X0_showsFigure (M 14 0 y4) M fun (x9 : Int) (M8 : Mem) => (((if x9 = 0 then (0 : Int) else (if ¬ (M8 1 (M 14 0 y4) 1) = p2 then (0 : Int) else (if ¬ (M8 6 (M8 1 (M 14 0 y4) 0) 1) = 1 then (0 : Int) else 1))) = 0 → wp_X9_carriedByCells_124 p1 p2 Xm Qm (wp_X9_carriedByCells_23 p1 p2 Xm Qm n) y3 y4 M8) ∧ (¬ (if x9 = 0 then (0 : Int) else (if ¬ (M8 1 (M 14 0 y4) 1) = p2 then (0 : Int) else (if ¬ (M8 6 (M8 1 (M 14 0 y4) 0) 1) = 1 then (0 : Int) else 1))) = 0 → (0 ≤ (M8 6 (M8 1 (M 14 0 y4) 0) 0) ∧ (M8 6 (M8 1 (M 14 0 y4) 0) 0) < 29) ∧ ((p1 < (M8 45 0 (M8 6 (M8 1 (M 14 0 y4) 0) 0)) → wp_X9_carriedByCells_124 p1 p2 Xm Qm (wp_X9_carriedByCells_23 p1 p2 Xm Qm n) y3 y4 M8) ∧ ((M8 45 0 (M8 6 (M8 1 (M 14 0 y4) 0) 0)) ≤ p1 → (inR (y3 + (M8 1 (M 14 0 y4) 9))) ∧ wp_X9_carriedByCells_124 p1 p2 Xm Qm (wp_X9_carriedByCells_23 p1 p2 Xm Qm n) (y3 + (M8 1 (M 14 0 y4) 9)) y4 M8)))))) := hw
    refine lv_iload X.1.1 X.1.2.1 dX9_carriedByCells_23 (lv_at hl 4 rfl) ?_
    refine lv_aload_n X.1.1 X.1.2.1 dX9_carriedByCells_25 rfl (lv_at hl 0 rfl) ?_
    refine gt_10_0 X hR (okf X.2.2.1 rfl) kw_332 dX9_carriedByCells_26 ?_
    refine gt_4_2 X hR (okf X.2.2.1 rfl) kw_121 dX9_carriedByCells_29 ?_
    refine ls_size (by decide) (by decide) X (kc := 8) rmX_ok ⟨by decide, by decide⟩ (by decide) hR hS kw_753 hl.1 dX9_carriedByCells_32 (Nat.le_of_ble_eq_true rfl) (fun H locs hR hS => ?_)
    have r5 := hR.r 14 0 (-1)
    refine sa_icmp_ge (tgt := 130) X.1 hy4 r5 dX9_carriedByCells_35 (by decide) (fun hc => ?_) (fun hc => ?_)
    · have hw := hw.1 hc
      refine lv_iload_n X.1.1 X.1.2.1 dX9_carriedByCells_130 rfl (lv_at hl 3 rfl) ?_
      exact sx_iret X hR hS hy3 hw dX9_carriedByCells_131 (by decide) (by decide)
    · have hw := hw.2 hc
      refine lv_aload_n X.1.1 X.1.2.1 dX9_carriedByCells_38 rfl (lv_at hl 0 rfl) ?_
      refine gt_10_0 X hR (okf X.2.2.1 rfl) kw_332 dX9_carriedByCells_39 ?_
      refine gt_4_2 X hR (okf X.2.2.1 rfl) kw_121 dX9_carriedByCells_42 ?_
      refine lv_iload X.1.1 X.1.2.1 dX9_carriedByCells_45 (lv_at hl 4 rfl) ?_
      have c6 := hw.1
      have hw := hw.2
      refine ls_get (ci := 1) (by decide) (by decide) rfl X c6 (kc := 8) rmX_ok ⟨by decide, by decide⟩ (by decide) hR hS kw_969 hl.1 dX9_carriedByCells_47 (Nat.le_of_ble_eq_true rfl) (fun H locs o7 hR hS => ?_)
      refine ck_1 X hR o7 kw_976 dX9_carriedByCells_50 ?_
      refine lv_astore (lv' := [(5, .ref (α 1 (M 14 0 y4))), (0, .ref (α 10 0)), (1, .int (Int32.ofInt p1)), (2, .int (Int32.ofInt p2)), (3, .int (Int32.ofInt y3)), (4, .int (Int32.ofInt y4))]) X.1.1 X.1.2.1 dX9_carriedByCells_53 hl (by decide) rfl (fun ls hl => ?_)
      refine lv_aload X.1.1 X.1.2.1 dX9_carriedByCells_55 (lv_at hl 0 rfl) ?_
      refine cs_X0_showsFigure X o7 (kc := 8) rmX_ok ⟨by decide, by decide⟩ (by decide) hR hS kw_1298 hl.1 dX9_carriedByCells_57 (Nat.le_of_ble_eq_true rfl) hw (fun x9 M8 H locs hw r10 hR hS => ?_)
      have r15 := inR_ite (c := x9 = 0) (inR_c (a := 0) rfl) (inR_ite (c := ¬ (M8 1 (M 14 0 y4) 1) = p2) (inR_c (a := 0) rfl) (inR_ite (c := ¬ (M8 6 (M8 1 (M 14 0 y4) 0) 1) = 1) (inR_c (a := 0) rfl) (inR_c (a := 1) rfl)))
      refine cut_j (A := ∀ v16 : Int, v16 = (if x9 = 0 then (0 : Int) else (if ¬ (M8 1 (M 14 0 y4) 1) = p2 then (0 : Int) else (if ¬ (M8 6 (M8 1 (M 14 0 y4) 0) 1) = 1 then (0 : Int) else 1))) → WXI p l e 8 3 18 s m args below meth c G e0 α κ B Qm Xm H locs 3 18 89 ls [.int (Int32.ofInt v16)]) (fun J17 => ?_) ?_
      · refine sa_if_eq (tgt := 88) X.1 r10 dX9_carriedByCells_60 (by decide) (fun hc => ?_) (fun hc => ?_)
        · skip
          refine sa_const X.1 dX9_carriedByCells_88 ?_
          exact J17 (0) (if_pos (c := x9 = 0) hc).symm
        · skip
          refine lv_aload X.1.1 X.1.2.1 dX9_carriedByCells_63 (lv_at hl 0 rfl) ?_
          refine gt_1_1 X hR o7 kw_990 dX9_carriedByCells_65 ?_
          refine lv_iload_n X.1.1 X.1.2.1 dX9_carriedByCells_68 rfl (lv_at hl 3 rfl) ?_
          refine cut_j (A := ∀ v13 : Int, v13 = (if ¬ (M8 1 (M 14 0 y4) 1) = p2 then (0 : Int) else (if ¬ (M8 6 (M8 1 (M 14 0 y4) 0) 1) = 1 then (0 : Int) else 1)) → WXI p l e 8 3 18 s m args below meth c G e0 α κ B Qm Xm H locs 3 18 89 ls [.int (Int32.ofInt v13)]) (fun J14 => ?_) ?_
          · refine sa_icmp_ne (tgt := 88) X.1 (hR.r 1 (M 14 0 y4) 1) hp2 dX9_carriedByCells_69 (by decide) (fun hc => ?_) (fun hc => ?_)
            · skip
              refine sa_const X.1 dX9_carriedByCells_88 ?_
              exact J14 (0) (if_pos (c := ¬ (M8 1 (M 14 0 y4) 1) = p2) hc).symm
            · skip
              refine lv_aload X.1.1 X.1.2.1 dX9_carriedByCells_72 (lv_at hl 0 rfl) ?_
              refine gt_1_0 X hR o7 kw_985 dX9_carriedByCells_74 ?_
              refine gt_6_1 X hR (hR.2.2.2.1 _ o7) kw_895 dX9_carriedByCells_77 ?_
              refine sa_const X.1 dX9_carriedByCells_80 ?_
              refine cut_j (A := ∀ v11 : Int, v11 = (if ¬ (M8 6 (M8 1 (M 14 0 y4) 0) 1) = 1 then (0 : Int) else 1) → WXI p l e 8 3 18 s m args below meth c G e0 α κ B Qm Xm H locs 3 18 89 ls [.int (Int32.ofInt v11)]) (fun J12 => ?_) ?_
              · refine sa_icmp_ne (tgt := 88) X.1 (hR.r 6 (M8 1 (M 14 0 y4) 0) 1) (inR_c (a := 1) rfl) dX9_carriedByCells_81 (by decide) (fun hc => ?_) (fun hc => ?_)
                · skip
                  refine sa_const X.1 dX9_carriedByCells_88 ?_
                  exact J12 (0) (if_pos (c := ¬ (M8 6 (M8 1 (M 14 0 y4) 0) 1) = 1) hc).symm
                · skip
                  refine sa_const X.1 dX9_carriedByCells_84 ?_
                  refine lv_goto (tgt := 89) X.1.1 X.1.2.1 dX9_carriedByCells_85 (by decide) ?_
                  exact J12 (1) (if_neg (c := ¬ (M8 6 (M8 1 (M 14 0 y4) 0) 1) = 1) (fun z => z hc)).symm
              intro v11 hv11
              subst hv11
              exact J14 ((if ¬ (M8 6 (M8 1 (M 14 0 y4) 0) 1) = 1 then (0 : Int) else 1)) (if_neg (c := ¬ (M8 1 (M 14 0 y4) 1) = p2) (fun z => z hc)).symm
          intro v13 hv13
          subst hv13
          exact J17 ((if ¬ (M8 1 (M 14 0 y4) 1) = p2 then (0 : Int) else (if ¬ (M8 6 (M8 1 (M 14 0 y4) 0) 1) = 1 then (0 : Int) else 1))) (if_neg (c := x9 = 0) hc).symm
      intro v16 hv16
      subst hv16
      refine lv_istore (lv' := [(6, .int (Int32.ofInt (if x9 = 0 then (0 : Int) else (if ¬ (M8 1 (M 14 0 y4) 1) = p2 then (0 : Int) else (if ¬ (M8 6 (M8 1 (M 14 0 y4) 0) 1) = 1 then (0 : Int) else 1))))), (5, .ref (α 1 (M 14 0 y4))), (0, .ref (α 10 0)), (1, .int (Int32.ofInt p1)), (2, .int (Int32.ofInt p2)), (3, .int (Int32.ofInt y3)), (4, .int (Int32.ofInt y4))]) X.1.1 X.1.2.1 dX9_carriedByCells_89 hl (by decide) rfl (fun ls hl => ?_)
      refine lv_iload X.1.1 X.1.2.1 dX9_carriedByCells_91 (lv_at hl 0 rfl) ?_
      refine sa_if_eq (tgt := 124) X.1 r15 dX9_carriedByCells_93 (by decide) (fun hc => ?_) (fun hc => ?_)
      · have hw := hw.1 hc
        exact t_X9_carriedByCells_124 X T hp1 hp2 ih _ _ _ hw hy3 hy4 _ _ hR hS _ (lv_sub hl [2, 3, 4, 5, 6] rfl)
      · have hw := hw.2 hc
        refine lv_aload_n X.1.1 X.1.2.1 dX9_carriedByCells_96 rfl (lv_at hl 2 rfl) ?_
        refine gt_10_5 X hR (okf X.2.2.1 rfl) kw_337 dX9_carriedByCells_97 ?_
        refine gt_7_11 X hR (okp X.2.2.1 rfl (by decide)) kw_257 dX9_carriedByCells_100 ?_
        refine lv_aload X.1.1 X.1.2.1 dX9_carriedByCells_103 (lv_at hl 1 rfl) ?_
        refine gt_1_0 X hR o7 kw_985 dX9_carriedByCells_105 ?_
        have o19 := hR.2.2.2.1 _ o7
        refine gt_6_0 X hR o19 kw_890 dX9_carriedByCells_108 ?_
        have r20 := hR.r 6 (M8 1 (M 14 0 y4) 0) 0
        have c21 := hw.1
        have hw := hw.2
        refine ra_45 X hR (okp X.2.2.1 rfl (pr_7 X.2.2.1 (okp X.2.2.1 rfl (by decide)))) c21 dX9_carriedByCells_111 ?_
        have r22 := hR.r 45 0 (M8 6 (M8 1 (M 14 0 y4) 0) 0)
        refine lv_iload_n X.1.1 X.1.2.1 dX9_carriedByCells_112 rfl (lv_at hl 3 rfl) ?_
        refine sa_icmp_gt (tgt := 124) X.1 r22 hp1 dX9_carriedByCells_113 (by decide) (fun hc => ?_) (fun hc => ?_)
        · have hw := hw.1 hc
          exact t_X9_carriedByCells_124 X T hp1 hp2 ih _ _ _ hw hy3 hy4 _ _ hR hS _ (lv_sub hl [2, 3, 4, 5, 6] rfl)
        · have hw := hw.2 hc
          refine lv_iload_n X.1.1 X.1.2.1 dX9_carriedByCells_116 rfl (lv_at hl 5 rfl) ?_
          refine lv_aload X.1.1 X.1.2.1 dX9_carriedByCells_117 (lv_at hl 1 rfl) ?_
          refine gt_1_9 X hR o7 kw_1009 dX9_carriedByCells_119 ?_
          have r23 := hR.r 1 (M 14 0 y4) 9
          have c24 := hw.1
          have hw := hw.2
          refine sa_iadd X.1 dX9_carriedByCells_122 ?_
          refine lv_istore_n (lv' := [(3, .int (Int32.ofInt (y3 + (M8 1 (M 14 0 y4) 9)))), (6, .int (Int32.ofInt (if x9 = 0 then (0 : Int) else (if ¬ (M8 1 (M 14 0 y4) 1) = p2 then (0 : Int) else (if ¬ (M8 6 (M8 1 (M 14 0 y4) 0) 1) = 1 then (0 : Int) else 1))))), (5, .ref (α 1 (M 14 0 y4))), (0, .ref (α 10 0)), (1, .int (Int32.ofInt p1)), (2, .int (Int32.ofInt p2)), (4, .int (Int32.ofInt y4))]) X.1.1 X.1.2.1 dX9_carriedByCells_123 rfl hl (by decide) rfl (fun ls hl => ?_)
          exact t_X9_carriedByCells_124 X T hp1 hp2 ih _ _ _ hw c24 hy4 _ _ hR hS _ (lv_sub hl [3, 4, 5, 0, 6] rfl)
set_option maxHeartbeats 4000000 in
set_option maxRecDepth 100000 in
theorem t_X9_carriedByCells {p1 : Int} {p2 : Int} (X : CX p m c cX9_carriedByCells 7 s args RX9 G B κ meth (some .int)) (T : XT l c) (hp1 : inR p1) (hp2 : inR p2) {M : Mem} {Xm : String → Mem → Prop} {Qm : Int → Mem → Prop} (hw : wp_X9_carriedByCells p1 p2 M Xm Qm) (H : Heap) (locs : List Loc) (hR : Rp G e0 α κ B M H) (hS : va_S (fun q => B ≤ q) s.heap H locs) (ls : Array Slot) (hl : lv_has ls 7 [(0, .ref (α 10 0)), (1, .int (Int32.ofInt p1)), (2, .int (Int32.ofInt p2))]) : WXI p l e 8 3 18 s m args below meth c G e0 α κ B Qm Xm H locs 0 0 0 ls [] := by
  have hw : wp_X9_requireColumn p2 M Xm fun (M1 : Mem) => wp_X9_refresh M1 fun (M2 : Mem) => wp_X9_requireSheets M2 Xm fun (M3 : Mem) => wp_X9_requirePage p1 M3 Xm fun (M4 : Mem) => (∃ n25 : Nat, wp_X9_carriedByCells_23 p1 p2 Xm Qm n25 0 0 M4) := hw
  refine lv_aload_n X.1.1 X.1.2.1 dX9_carriedByCells_0 rfl (lv_at hl 0 rfl) ?_
  refine lv_iload_n X.1.1 X.1.2.1 dX9_carriedByCells_1 rfl (lv_at hl 2 rfl) ?_
  refine cx_X9_requireColumn X T hp2 (by decide) ⟨by decide, by decide⟩ hR hS kw_959 hl.1 dX9_carriedByCells_2 (Nat.le_of_ble_eq_true rfl) hw (fun M1 H locs hw hR hS => ?_)
  refine W.widen (k := 1) (n := 6) (by decide) (by decide) ?_
  refine lv_aload_n X.1.1 X.1.2.1 dX9_carriedByCells_5 rfl (lv_at hl 0 rfl) ?_
  refine cs_X9_refresh X  (kc := 8) rmX_ok ⟨by decide, by decide⟩ (by decide) hR hS kw_370 hl.1 dX9_carriedByCells_6 (Nat.le_of_ble_eq_true rfl) hw (fun M2 H locs hw hR hS => ?_)
  refine lv_aload_n X.1.1 X.1.2.1 dX9_carriedByCells_9 rfl (lv_at hl 0 rfl) ?_
  refine cx_X9_requireSheets X T  (by decide) ⟨by decide, by decide⟩ hR hS kw_1343 hl.1 dX9_carriedByCells_10 (Nat.le_of_ble_eq_true rfl) hw (fun M3 H locs hw hR hS => ?_)
  refine W.widen (k := 2) (n := 12) (by decide) (by decide) ?_
  refine lv_aload_n X.1.1 X.1.2.1 dX9_carriedByCells_13 rfl (lv_at hl 0 rfl) ?_
  refine lv_iload_n X.1.1 X.1.2.1 dX9_carriedByCells_14 rfl (lv_at hl 1 rfl) ?_
  refine cx_X9_requirePage X T hp1 (by decide) ⟨by decide, by decide⟩ hR hS kw_1380 hl.1 dX9_carriedByCells_15 (Nat.le_of_ble_eq_true rfl) hw (fun M4 H locs hw hR hS => ?_)
  refine W.widen (k := 3) (n := 18) (by decide) (by decide) ?_
  refine sa_const X.1 dX9_carriedByCells_18 ?_
  refine lv_istore_n (lv' := [(3, .int (Int32.ofInt 0)), (0, .ref (α 10 0)), (1, .int (Int32.ofInt p1)), (2, .int (Int32.ofInt p2))]) X.1.1 X.1.2.1 dX9_carriedByCells_19 rfl hl (by decide) rfl (fun ls hl => ?_)
  refine sa_const X.1 dX9_carriedByCells_20 ?_
  refine lv_istore (lv' := [(4, .int (Int32.ofInt 0)), (3, .int (Int32.ofInt 0)), (0, .ref (α 10 0)), (1, .int (Int32.ofInt p1)), (2, .int (Int32.ofInt p2))]) X.1.1 X.1.2.1 dX9_carriedByCells_21 hl (by decide) rfl (fun ls hl => ?_)
  obtain ⟨n25, hw⟩ := hw
  exact t_X9_carriedByCells_23 X T hp1 hp2 n25 _ _ _ hw (inR_c (a := 0) rfl) (inR_c (a := 0) rfl) _ _ hR hS _ (lv_sub hl [2, 3, 4, 1, 0] rfl)
theorem m_X9_carriedByCells {l : Launch} {G : Gx} {e0 : Nat} {α : Ax} {κ : Nat → Int} {B : Nat} {p1 : Int} {p2 : Int} (hlt : l.stackTraces = false) (hκ : kOK κ) (hp1 : inR p1) (hp2 : inR p2) {M : Mem} {Qm : Int → Mem → Prop} {Xm : String → Mem → Prop} (hw : wp_X9_carriedByCells p1 p2 M Xm Qm) : XI l yX9_carriedByCells (Cond.code yX9_carriedByCells cX9_carriedByCells 7 (some .int)) 8 3 18 G e0 α κ B [.ref (α 10 0), .int (Int32.ofInt p1), .int (Int32.ofInt p2)] M Qm Xm :=
  XI.mk hlt hκ (by decide +kernel) rfl (Nat.le_of_ble_eq_true rfl) (lv := [(0, .ref (α 10 0)), (1, .int (Int32.ofInt p1)), (2, .int (Int32.ofInt p2))]) rfl (fun p e s m args below meth c ls X T hR hS hl => t_X9_carriedByCells X T hp1 hp2 hw _ _ hR hS ls hl)
theorem cx_X9_carriedByCells {cc : ByteArray} {nL : Nat} {own : String} {ret : Option FieldType} {idx pc : Nat} {p1 : Int} {p2 : Int} (X : CX p m c cc nL s args own G B κ meth ret) (T : XT l c) (hp1 : inR p1) (hp2 : inR p2) {k mc ms cells slots : Nat} (hk : 8 + 1 ≤ k) (hcel : cells + 3 ≤ mc ∧ slots + 18 ≤ ms) {M : Mem} {H : Heap} {locs : List Loc} (hR : Rp G e0 α κ B M H) (hS : va_S (fun q => B ≤ q) s.heap H locs) (k1 : Cond.methodLink own idx yX9_carriedByCells ∈ gw) {ls : Array Slot} (hml : ls.size = nL) {rest : List Value} (hd : decode cc pc = .ok (.invokevirtual idx, 3)) (hrest : (rest.map fun v => v.category).sum ≤ 8) {Qc : Array Value → State → Outcome → State → Prop} {Qm : Int → Mem → Prop} {Xm : String → Mem → Prop} (hw : wp_X9_carriedByCells p1 p2 M Xm Qm) (kk : ∀ (r : Int) (M1 : Mem) (H1 : Heap) (locs1 : List Loc), Qm r M1 → inR r → Rp G e0 α κ B M1 H1 → va_S (fun q => B ≤ q) s.heap H1 locs1 → W p l e (rmX k mc ms) s m args below meth c H1 locs1 (cells + 3) (slots + 18) (vx_MQ below Qc (XQ G e0 α κ B Xm) args s mc ms (fun q => B ≤ q)) (F0 m (pc + 3) ls (.int (Int32.ofInt r) :: rest))) : W p l e (rmX k mc ms) s m args below meth c H locs cells slots (vx_MQ below Qc (XQ G e0 α κ B Xm) args s mc ms (fun q => B ≤ q)) (F0 m pc ls (.int (Int32.ofInt p2) :: .int (Int32.ofInt p1) :: .ref (α 10 0) :: rest)) :=
  sx_callVI 8 (n := 2) (As := [.int (Int32.ofInt p1), .int (Int32.ofInt p2)]) (rest := rest) X T hR hS (m_X9_carriedByCells T.1 X.2.2.1 hp1 hp2 hw) k1 kw_1396 kw_1397 kw_38 kw_1398 ⟨rfl, by decide +kernel, by decide +kernel, by decide +kernel⟩ (rm_ok rmX_ok hk (by decide)) (rc_10 X hR (okf X.2.2.1 rfl)) rfl rfl hrest hml hd hcel kk
end
