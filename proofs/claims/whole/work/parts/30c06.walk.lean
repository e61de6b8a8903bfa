theorem dX9_refresh_0 : decode cX9_refresh 0 = .ok (.aload_n 0, 1) := by decide +kernel
theorem dX9_refresh_1 : decode cX9_refresh 1 = .ok (.getfield 65, 3) := by decide +kernel
theorem dX9_refresh_4 : decode cX9_refresh 4 = .ok (.ifCond .eq 66, 3) := by decide +kernel
theorem dX9_refresh_7 : decode cX9_refresh 7 = .ok (.aload_n 0, 1) := by decide +kernel
theorem dX9_refresh_8 : decode cX9_refresh 8 = .ok (.getfield 21, 3) := by decide +kernel
theorem dX9_refresh_11 : decode cX9_refresh 11 = .ok (.aload_n 0, 1) := by decide +kernel
theorem dX9_refresh_12 : decode cX9_refresh 12 = .ok (.getfield 58, 3) := by decide +kernel
theorem dX9_refresh_15 : decode cX9_refresh 15 = .ok (.invokevirtual 427, 3) := by decide +kernel
theorem dX9_refresh_18 : decode cX9_refresh 18 = .ok (.aload_n 0, 1) := by decide +kernel
theorem dX9_refresh_19 : decode cX9_refresh 19 = .ok (.getfield 28, 3) := by decide +kernel
theorem dX9_refresh_22 : decode cX9_refresh 22 = .ok (.aload_n 0, 1) := by decide +kernel
theorem dX9_refresh_23 : decode cX9_refresh 23 = .ok (.getfield 21, 3) := by decide +kernel
theorem dX9_refresh_26 : decode cX9_refresh 26 = .ok (.getfield 244, 3) := by decide +kernel
theorem dX9_refresh_29 : decode cX9_refresh 29 = .ok (.invokevirtual 430, 3) := by decide +kernel
theorem dX9_refresh_32 : decode cX9_refresh 32 = .ok (.aload_n 0, 1) := by decide +kernel
theorem dX9_refresh_33 : decode cX9_refresh 33 = .ok (.getfield 28, 3) := by decide +kernel
theorem dX9_refresh_36 : decode cX9_refresh 36 = .ok (.invokevirtual 434, 3) := by decide +kernel
theorem dX9_refresh_39 : decode cX9_refresh 39 = .ok (.aload_n 0, 1) := by decide +kernel
theorem dX9_refresh_40 : decode cX9_refresh 40 = .ok (.getfield 54, 3) := by decide +kernel
theorem dX9_refresh_43 : decode cX9_refresh 43 = .ok (.aload_n 0, 1) := by decide +kernel
theorem dX9_refresh_44 : decode cX9_refresh 44 = .ok (.getfield 62, 3) := by decide +kernel
theorem dX9_refresh_47 : decode cX9_refresh 47 = .ok (.aload_n 0, 1) := by decide +kernel
theorem dX9_refresh_48 : decode cX9_refresh 48 = .ok (.getfield 203, 3) := by decide +kernel
theorem dX9_refresh_51 : decode cX9_refresh 51 = .ok (.invokevirtual 437, 3) := by decide +kernel
theorem dX9_refresh_54 : decode cX9_refresh 54 = .ok (.aload_n 0, 1) := by decide +kernel
theorem dX9_refresh_55 : decode cX9_refresh 55 = .ok (.getfield 42, 3) := by decide +kernel
theorem dX9_refresh_58 : decode cX9_refresh 58 = .ok (.aload_n 0, 1) := by decide +kernel
theorem dX9_refresh_59 : decode cX9_refresh 59 = .ok (.getfield 12, 3) := by decide +kernel
theorem dX9_refresh_62 : decode cX9_refresh 62 = .ok (.invokevirtual 440, 3) := by decide +kernel
theorem dX9_refresh_65 : decode cX9_refresh 65 = .ok (.aload_n 0, 1) := by decide +kernel
theorem dX9_refresh_66 : decode cX9_refresh 66 = .ok (.iconst 0, 1) := by decide +kernel
theorem dX9_refresh_67 : decode cX9_refresh 67 = .ok (.putfield 65, 3) := by decide +kernel
theorem dX9_refresh_70 : decode cX9_refresh 70 = .ok (.return_, 1) := by decide +kernel
theorem dX7_leastOfAllWidths_0 : decode cX7_leastOfAllWidths 0 = .ok (.aload_n 0, 1) := by decide +kernel
theorem dX7_leastOfAllWidths_1 : decode cX7_leastOfAllWidths 1 = .ok (.getfield 30, 3) := by decide +kernel
theorem dX7_leastOfAllWidths_4 : decode cX7_leastOfAllWidths 4 = .ok (.iload_n 1, 1) := by decide +kernel
theorem dX7_leastOfAllWidths_5 : decode cX7_leastOfAllWidths 5 = .ok (.invokevirtual 41, 3) := by decide +kernel
theorem dX7_leastOfAllWidths_8 : decode cX7_leastOfAllWidths 8 = .ok (.aload_n 0, 1) := by decide +kernel
theorem dX7_leastOfAllWidths_9 : decode cX7_leastOfAllWidths 9 = .ok (.invokevirtual 58, 3) := by decide +kernel
theorem dX7_leastOfAllWidths_12 : decode cX7_leastOfAllWidths 12 = .ok (.aload_n 0, 1) := by decide +kernel
theorem dX7_leastOfAllWidths_13 : decode cX7_leastOfAllWidths 13 = .ok (.getfield 18, 3) := by decide +kernel
theorem dX7_leastOfAllWidths_16 : decode cX7_leastOfAllWidths 16 = .ok (.iconst (-1), 1) := by decide +kernel
theorem dX7_leastOfAllWidths_17 : decode cX7_leastOfAllWidths 17 = .ok (.invokestatic 61, 3) := by decide +kernel
theorem dX7_leastOfAllWidths_20 : decode cX7_leastOfAllWidths 20 = .ok (.iload_n 1, 1) := by decide +kernel
theorem dX7_leastOfAllWidths_21 : decode cX7_leastOfAllWidths 21 = .ok (.aload_n 0, 1) := by decide +kernel
theorem dX7_leastOfAllWidths_22 : decode cX7_leastOfAllWidths 22 = .ok (.getfield 21, 3) := by decide +kernel
theorem dX7_leastOfAllWidths_25 : decode cX7_leastOfAllWidths 25 = .ok (.aload_n 0, 1) := by decide +kernel
theorem dX7_leastOfAllWidths_26 : decode cX7_leastOfAllWidths 26 = .ok (.getfield 30, 3) := by decide +kernel
theorem dX7_leastOfAllWidths_29 : decode cX7_leastOfAllWidths 29 = .ok (.getfield 45, 3) := by decide +kernel
theorem dX7_leastOfAllWidths_32 : decode cX7_leastOfAllWidths 32 = .ok (.invokevirtual 67, 3) := by decide +kernel
theorem dX7_leastOfAllWidths_35 : decode cX7_leastOfAllWidths 35 = .ok (.isub, 1) := by decide +kernel
theorem dX7_leastOfAllWidths_36 : decode cX7_leastOfAllWidths 36 = .ok (.istore_n 2, 1) := by decide +kernel
theorem dX7_leastOfAllWidths_37 : decode cX7_leastOfAllWidths 37 = .ok (.aload_n 0, 1) := by decide +kernel
theorem dX7_leastOfAllWidths_38 : decode cX7_leastOfAllWidths 38 = .ok (.invokevirtual 73, 3) := by decide +kernel
theorem dX7_leastOfAllWidths_41 : decode cX7_leastOfAllWidths 41 = .ok (.istore_n 3, 1) := by decide +kernel
theorem dX7_leastOfAllWidths_42 : decode cX7_leastOfAllWidths 42 = .ok (.iconst 0, 1) := by decide +kernel
theorem dX7_leastOfAllWidths_43 : decode cX7_leastOfAllWidths 43 = .ok (.istore 4, 2) := by decide +kernel
theorem dX7_leastOfAllWidths_45 : decode cX7_leastOfAllWidths 45 = .ok (.iconst 0, 1) := by decide +kernel
theorem dX7_leastOfAllWidths_46 : decode cX7_leastOfAllWidths 46 = .ok (.istore 5, 2) := by decide +kernel
theorem dX7_leastOfAllWidths_48 : decode cX7_leastOfAllWidths 48 = .ok (.iload 5, 2) := by decide +kernel
theorem dX7_leastOfAllWidths_50 : decode cX7_leastOfAllWidths 50 = .ok (.iload_n 3, 1) := by decide +kernel
theorem dX7_leastOfAllWidths_51 : decode cX7_leastOfAllWidths 51 = .ok (.if_icmp .ge 49, 3) := by decide +kernel
theorem dX7_leastOfAllWidths_54 : decode cX7_leastOfAllWidths 54 = .ok (.aload_n 0, 1) := by decide +kernel
theorem dX7_leastOfAllWidths_55 : decode cX7_leastOfAllWidths 55 = .ok (.iload 5, 2) := by decide +kernel
theorem dX7_leastOfAllWidths_57 : decode cX7_leastOfAllWidths 57 = .ok (.invokevirtual 77, 3) := by decide +kernel
theorem dX7_leastOfAllWidths_60 : decode cX7_leastOfAllWidths 60 = .ok (.iload_n 2, 1) := by decide +kernel
theorem dX7_leastOfAllWidths_61 : decode cX7_leastOfAllWidths 61 = .ok (.if_icmp .le 8, 3) := by decide +kernel
theorem dX7_leastOfAllWidths_64 : decode cX7_leastOfAllWidths 64 = .ok (.iload 5, 2) := by decide +kernel
theorem dX7_leastOfAllWidths_66 : decode cX7_leastOfAllWidths 66 = .ok (.ifCond .ne 28, 3) := by decide +kernel
theorem dX7_leastOfAllWidths_69 : decode cX7_leastOfAllWidths 69 = .ok (.aload_n 0, 1) := by decide +kernel
theorem dX7_leastOfAllWidths_70 : decode cX7_leastOfAllWidths 70 = .ok (.invokevirtual 81, 3) := by decide +kernel
theorem dX7_leastOfAllWidths_73 : decode cX7_leastOfAllWidths 73 = .ok (.istore 6, 2) := by decide +kernel
theorem dX7_leastOfAllWidths_75 : decode cX7_leastOfAllWidths 75 = .ok (.iload 5, 2) := by decide +kernel
theorem dX7_leastOfAllWidths_77 : decode cX7_leastOfAllWidths 77 = .ok (.ifCond .ne 8, 3) := by decide +kernel
theorem dX7_leastOfAllWidths_80 : decode cX7_leastOfAllWidths 80 = .ok (.iload 6, 2) := by decide +kernel
theorem dX7_leastOfAllWidths_82 : decode cX7_leastOfAllWidths 82 = .ok (.goto 10, 3) := by decide +kernel
theorem dX7_leastOfAllWidths_85 : decode cX7_leastOfAllWidths 85 = .ok (.iload 4, 2) := by decide +kernel
theorem dX7_leastOfAllWidths_87 : decode cX7_leastOfAllWidths 87 = .ok (.iload 6, 2) := by decide +kernel
theorem dX7_leastOfAllWidths_89 : decode cX7_leastOfAllWidths 89 = .ok (.invokestatic 84, 3) := by decide +kernel
theorem dX7_leastOfAllWidths_92 : decode cX7_leastOfAllWidths 92 = .ok (.istore 4, 2) := by decide +kernel
theorem dX7_leastOfAllWidths_94 : decode cX7_leastOfAllWidths 94 = .ok (.iinc 5 1, 3) := by decide +kernel
theorem dX7_leastOfAllWidths_97 : decode cX7_leastOfAllWidths 97 = .ok (.goto (-49), 3) := by decide +kernel
theorem dX7_leastOfAllWidths_100 : decode cX7_leastOfAllWidths 100 = .ok (.iload 4, 2) := by decide +kernel
theorem dX7_leastOfAllWidths_102 : decode cX7_leastOfAllWidths 102 = .ok (.ireturn, 1) := by decide +kernel
theorem dX9_over_0 : decode cX9_over 0 = .ok (.aload_n 0, 1) := by decide +kernel
theorem dX9_over_1 : decode cX9_over 1 = .ok (.invokevirtual 234, 3) := by decide +kernel
theorem dX9_over_4 : decode cX9_over 4 = .ok (.iconst 0, 1) := by decide +kernel
theorem dX9_over_5 : decode cX9_over 5 = .ok (.aload_n 0, 1) := by decide +kernel
theorem dX9_over_6 : decode cX9_over 6 = .ok (.getfield 12, 3) := by decide +kernel
theorem dX9_over_9 : decode cX9_over 9 = .ok (.aload_n 0, 1) := by decide +kernel
theorem dX9_over_10 : decode cX9_over 10 = .ok (.getfield 21, 3) := by decide +kernel
theorem dX9_over_13 : decode cX9_over 13 = .ok (.getfield 244, 3) := by decide +kernel
theorem dX9_over_16 : decode cX9_over 16 = .ok (.invokevirtual 247, 3) := by decide +kernel
theorem dX9_over_19 : decode cX9_over 19 = .ok (.aload_n 0, 1) := by decide +kernel
theorem dX9_over_20 : decode cX9_over 20 = .ok (.getfield 58, 3) := by decide +kernel
theorem dX9_over_23 : decode cX9_over 23 = .ok (.isub, 1) := by decide +kernel
theorem dX9_over_24 : decode cX9_over 24 = .ok (.invokestatic 251, 3) := by decide +kernel
theorem dX9_over_27 : decode cX9_over 27 = .ok (.ireturn, 1) := by decide +kernel
theorem dX9_tableHeight_0 : decode cX9_tableHeight 0 = .ok (.aload_n 0, 1) := by decide +kernel
theorem dX9_tableHeight_1 : decode cX9_tableHeight 1 = .ok (.invokevirtual 234, 3) := by decide +kernel
theorem dX9_tableHeight_4 : decode cX9_tableHeight 4 = .ok (.aload_n 0, 1) := by decide +kernel
theorem dX9_tableHeight_5 : decode cX9_tableHeight 5 = .ok (.getfield 28, 3) := by decide +kernel
theorem dX9_tableHeight_8 : decode cX9_tableHeight 8 = .ok (.iconst 1, 1) := by decide +kernel
theorem dX9_tableHeight_9 : decode cX9_tableHeight 9 = .ok (.invokevirtual 280, 3) := by decide +kernel
theorem dX9_tableHeight_12 : decode cX9_tableHeight 12 = .ok (.ireturn, 1) := by decide +kernel
theorem dX9_look_0 : decode cX9_look 0 = .ok (.aload_n 0, 1) := by decide +kernel
theorem dX9_look_1 : decode cX9_look 1 = .ok (.invokevirtual 234, 3) := by decide +kernel
theorem dX9_look_4 : decode cX9_look 4 = .ok (.aload_n 0, 1) := by decide +kernel
theorem dX9_look_5 : decode cX9_look 5 = .ok (.getfield 42, 3) := by decide +kernel
theorem dX9_look_8 : decode cX9_look 8 = .ok (.aload_n 0, 1) := by decide +kernel
theorem dX9_look_9 : decode cX9_look 9 = .ok (.getfield 46, 3) := by decide +kernel
theorem dX9_look_12 : decode cX9_look 12 = .ok (.invokevirtual 371, 3) := by decide +kernel
theorem dX9_look_15 : decode cX9_look 15 = .ok (.istore_n 1, 1) := by decide +kernel
theorem dX9_look_16 : decode cX9_look 16 = .ok (.aload_n 0, 1) := by decide +kernel
theorem dX9_look_17 : decode cX9_look 17 = .ok (.getfield 46, 3) := by decide +kernel
theorem dX9_look_20 : decode cX9_look 20 = .ok (.aload_n 0, 1) := by decide +kernel
theorem dX9_look_21 : decode cX9_look 21 = .ok (.getfield 42, 3) := by decide +kernel
theorem dX9_look_24 : decode cX9_look 24 = .ok (.invokevirtual 375, 3) := by decide +kernel
theorem dX9_look_27 : decode cX9_look 27 = .ok (.iload_n 1, 1) := by decide +kernel
theorem dX9_look_28 : decode cX9_look 28 = .ok (.ireturn, 1) := by decide +kernel
section
variable {p : Program} {l : Launch} {e : Env} {s : State} {m : MethodId} {args : Array Value} {below : List Frame} {meth : Method} {c : Code} {G : Gx} {e0 : Nat} {α : Ax} {κ : Nat → Int} {B : Nat}
def wp_X9_refresh_70 (Qm : Mem → Prop) (M : Mem) : Prop := Qm M
def wp_X9_refresh (M : Mem) (Qm : Mem → Prop) : Prop := (((M 10 0 10) = 0 → wp_X9_refresh_70 Qm M) ∧ (¬ (M 10 0 10) = 0 → wp_X8_solve 0 (M 10 0 7) M fun (M3 : Mem) => wp_X4_measureCells 0 51 0 M3 fun (M4 : Mem) => wp_X4_stackRows 0 M4 fun (M5 : Mem) => wp_X2_fillSheets (M5 10 0 8) (M5 10 0 9) M5 fun (M8 : Mem) => wp_X6_sumUp 0 M8 fun (M9 : Mem) => ∀ M10 : Mem, M10 = up M9 10 0 10 0 → wp_X9_refresh_70 Qm M10))
set_option maxHeartbeats 4000000 in
set_option maxRecDepth 100000 in
theorem t_X9_refresh_70 (X : CX p m c cX9_refresh 1 s args RX9 G B κ meth none) {Qm : Mem → Prop} : ∀ M : Mem, wp_X9_refresh_70 Qm M → ∀ (H : Heap) (locs : List Loc), Rp G e0 α κ B M H → va_S (fun q => B ≤ q) s.heap H locs → ∀ (ls : Array Slot), lv_has ls 1 [] → WV p l e 7 s m args below meth c G e0 α κ B Qm H locs 70 ls [] := by
  intro M hw H locs hR hS ls hl
  have hw : Qm M := hw
  exact sa_vret X.1 X.2.2.2.1 X.2.2.2.2 hR hS hw dX9_refresh_70
set_option maxHeartbeats 4000000 in
set_option maxRecDepth 100000 in
theorem t_X9_refresh (X : CX p m c cX9_refresh 1 s args RX9 G B κ meth none) {M : Mem} {Qm : Mem → Prop} (hw : wp_X9_refresh M Qm) (H : Heap) (locs : List Loc) (hR : Rp G e0 α κ B M H) (hS : va_S (fun q => B ≤ q) s.heap H locs) (ls : Array Slot) (hl : lv_has ls 1 [(0, .ref (α 10 0))]) : WV p l e 7 s m args below meth c G e0 α κ B Qm H locs 0 ls [] := by
  have hw : (((M 10 0 10) = 0 → wp_X9_refresh_70 Qm M) ∧ (¬ (M 10 0 10) = 0 → wp_X8_solve 0 (M 10 0 7) M fun (M3 : Mem) => wp_X4_measureCells 0 51 0 M3 fun (M4 : Mem) => wp_X4_stackRows 0 M4 fun (M5 : Mem) => wp_X2_fillSheets (M5 10 0 8) (M5 10 0 9) M5 fun (M8 : Mem) => wp_X6_sumUp 0 M8 fun (M9 : Mem) => ∀ M10 : Mem, M10 = up M9 10 0 10 0 → wp_X9_refresh_70 Qm M10)) := hw
  refine lv_aload_n X.1.1 X.1.2.1 dX9_refresh_0 rfl (lv_at hl 0 rfl) ?_
  refine gt_10_10 X hR (okf X.2.2.1 rfl) kw_394 dX9_refresh_1 ?_
  have r1 := hR.r 10 0 10
  refine sa_if_eq (tgt := 70) X.1 r1 dX9_refresh_4 (by decide) (fun hc => ?_) (fun hc => ?_)
  · have hw := hw.1 hc
    exact t_X9_refresh_70 X _ hw _ _ hR hS _ (lv_sub hl [] rfl)
  · have hw := hw.2 hc
    refine lv_aload_n X.1.1 X.1.2.1 dX9_refresh_7 rfl (lv_at hl 0 rfl) ?_
    refine gt_10_1 X hR (okf X.2.2.1 rfl) kw_385 dX9_refresh_8 ?_
    refine lv_aload_n X.1.1 X.1.2.1 dX9_refresh_11 rfl (lv_at hl 0 rfl) ?_
    refine gt_10_7 X hR (okf X.2.2.1 rfl) kw_391 dX9_refresh_12 ?_
    have r2 := hR.r 10 0 7
    refine cs_X8_solve X (okp X.2.2.1 rfl (by decide)) r2 (kc := 7) rmL_ok rm_c (by decide) hR hS kw_430 hl.1 dX9_refresh_15 (Nat.le_of_ble_eq_true rfl) hw (fun M3 H locs hw hR hS => ?_)
    refine lv_aload_n X.1.1 X.1.2.1 dX9_refresh_18 rfl (lv_at hl 0 rfl) ?_
    refine gt_10_2 X hR (okf X.2.2.1 rfl) kw_386 dX9_refresh_19 ?_
    refine lv_aload_n X.1.1 X.1.2.1 dX9_refresh_22 rfl (lv_at hl 0 rfl) ?_
    refine gt_10_1 X hR (okf X.2.2.1 rfl) kw_385 dX9_refresh_23 ?_
    refine gt_9_3 X hR (okp X.2.2.1 rfl (by decide)) kw_213 dX9_refresh_26 ?_
    refine cs_X4_measureCells X (okp X.2.2.1 rfl (by decide)) hA6_51 (okp X.2.2.1 rfl (pr_9 X.2.2.1 (okp X.2.2.1 rfl (by decide)))) (kc := 7) rmL_ok rm_c (by decide) hR hS kw_563 hl.1 dX9_refresh_29 (Nat.le_of_ble_eq_true rfl) hw (fun M4 H locs hw hR hS => ?_)
    refine lv_aload_n X.1.1 X.1.2.1 dX9_refresh_32 rfl (lv_at hl 0 rfl) ?_
    refine gt_10_2 X hR (okf X.2.2.1 rfl) kw_386 dX9_refresh_33 ?_
    refine cs_X4_stackRows X (okp X.2.2.1 rfl (by decide)) (kc := 7) rmL_ok rm_c (by decide) hR hS kw_585 hl.1 dX9_refresh_36 (Nat.le_of_ble_eq_true rfl) hw (fun M5 H locs hw hR hS => ?_)
    refine lv_aload_n X.1.1 X.1.2.1 dX9_refresh_39 rfl (lv_at hl 0 rfl) ?_
    refine gt_10_4 X hR (okf X.2.2.1 rfl) kw_388 dX9_refresh_40 ?_
    refine lv_aload_n X.1.1 X.1.2.1 dX9_refresh_43 rfl (lv_at hl 0 rfl) ?_
    refine gt_10_8 X hR (okf X.2.2.1 rfl) kw_392 dX9_refresh_44 ?_
    have r6 := hR.r 10 0 8
    refine lv_aload_n X.1.1 X.1.2.1 dX9_refresh_47 rfl (lv_at hl 0 rfl) ?_
    refine gt_10_9 X hR (okf X.2.2.1 rfl) kw_393 dX9_refresh_48 ?_
    have r7 := hR.r 10 0 9
    refine cs_X2_fillSheets X r6 r7 (kc := 7) rmL_ok rm_c (by decide) hR hS kw_601 hl.1 dX9_refresh_51 (Nat.le_of_ble_eq_true rfl) hw (fun M8 H locs hw hR hS => ?_)
    refine lv_aload_n X.1.1 X.1.2.1 dX9_refresh_54 rfl (lv_at hl 0 rfl) ?_
    refine gt_10_5 X hR (okf X.2.2.1 rfl) kw_389 dX9_refresh_55 ?_
    refine lv_aload_n X.1.1 X.1.2.1 dX9_refresh_58 rfl (lv_at hl 0 rfl) ?_
    refine gt_10_0 X hR (okf X.2.2.1 rfl) kw_384 dX9_refresh_59 ?_
    refine cs_X6_sumUp X (okp X.2.2.1 rfl (by decide)) (kc := 7) rmL_ok rm_c (by decide) hR hS kw_670 hl.1 dX9_refresh_62 (Nat.le_of_ble_eq_true rfl) hw (fun M9 H locs hw hR hS => ?_)
    refine lv_aload_n X.1.1 X.1.2.1 dX9_refresh_65 rfl (lv_at hl 0 rfl) ?_
    refine sa_const X.1 dX9_refresh_66 ?_
    refine pt_10_10 X hR hS (okf X.2.2.1 rfl) (Or.inl rfl) kw_394 dX9_refresh_67 (fun H locs hR hS => ?_)
    obtain ⟨M10, e11⟩ : ∃ z : Mem, z = up M9 10 0 10 0 := ⟨_, rfl⟩
    rw [← e11] at hR
    have hw := hw M10 e11
    exact t_X9_refresh_70 X _ hw _ _ hR hS _ (lv_sub hl [] rfl)
theorem m_X9_refresh {l : Launch} {G : Gx} {e0 : Nat} {α : Ax} {κ : Nat → Int} {B : Nat} (hκ : kOK κ) {M : Mem} {Qm : Mem → Prop} (hw : wp_X9_refresh M Qm) : CV l yX9_refresh (Cond.code yX9_refresh cX9_refresh 1 none) 7 G e0 α κ B [.ref (α 10 0)] M Qm :=
  CV.mk hκ (by decide +kernel) rfl (Nat.le_of_ble_eq_true rfl) (lv := [(0, .ref (α 10 0))]) rfl (fun p e s m args below meth c ls X hR hS hl => t_X9_refresh X hw _ _ hR hS ls hl)
theorem cs_X9_refresh {cc : ByteArray} {nL : Nat} {own : String} {ret : Option FieldType} {idx pc : Nat} (X : CX p m c cc nL s args own G B κ meth ret) {kc : Nat} {R : Room} {cells slots : Nat} (hRr : RmOK R kc) (hcel : cells ≤ R.cells ∧ slots ≤ R.slots) (hk : 7 + 1 ≤ kc) {M : Mem} {H : Heap} {locs : List Loc} (hR : Rp G e0 α κ B M H) (hS : va_S (fun q => B ≤ q) s.heap H locs) (k1 : Cond.methodLink own idx yX9_refresh ∈ gw) {ls : Array Slot} (hml : ls.size = nL) {rest : List Value} (hd : decode cc pc = .ok (.invokevirtual idx, 3)) (hrest : (rest.map fun v => v.category).sum ≤ 8) {Q : State → Prop} {Qm : Mem → Prop} (hw : wp_X9_refresh M Qm) (kk : ∀ (M1 : Mem) (H1 : Heap) (locs1 : List Loc), Qm M1 → Rp G e0 α κ B M1 H1 → va_S (fun q => B ≤ q) s.heap H1 locs1 → W p l e R s m args below meth c H1 locs1 cells slots Q (F0 m (pc + 3) ls (rest))) : W p l e R s m args below meth c H locs cells slots Q (F0 m pc ls (.ref (α 10 0) :: rest)) :=
  sa_callVV 7 (n := 0) (As := []) (rest := rest) X.1 X.2.1 hR hS (m_X9_refresh X.2.2.1 hw) k1 kw_428 kw_0 kw_94 kw_429 ⟨rfl, by decide +kernel, by decide +kernel, by decide +kernel⟩ (rm_ok hRr hk (by decide)) (rc_10 X hR (okf X.2.2.1 rfl)) rfl rfl hrest hml hd hcel kk
def wp_X7_leastOfAllWidths_94 (p1 : Int) (Qm : Int → Mem → Prop) (K48 : Int → Int → Int → Int → Mem → Prop) (y2 : Int) (y3 : Int) (y4 : Int) (y5 : Int) (M : Mem) : Prop := (inR (y5 + 1)) ∧ K48 y2 y3 y4 (y5 + 1) M
def wp_X7_leastOfAllWidths_92 (p1 : Int) (Qm : Int → Mem → Prop) (K48 : Int → Int → Int → Int → Mem → Prop) (y2 : Int) (y3 : Int) (y5 : Int) (z0 : Int) (M : Mem) : Prop := wp_X7_leastOfAllWidths_94 p1 Qm K48 y2 y3 z0 y5 M
def wp_X7_leastOfAllWidths_69 (p1 : Int) (Qm : Int → Mem → Prop) (K48 : Int → Int → Int → Int → Mem → Prop) (y2 : Int) (y3 : Int) (y4 : Int) (y5 : Int) (M : Mem) : Prop := wp_X7_heightOfChoice M fun (x15 : Int) (M14 : Mem) => ((¬ y5 = 0 → wp_X7_leastOfAllWidths_92 p1 Qm K48 y2 y3 y5 (min y4 x15) M14) ∧ (y5 = 0 → wp_X7_leastOfAllWidths_92 p1 Qm K48 y2 y3 y5 x15 M14))
def wp_X7_leastOfAllWidths_48 (p1 : Int) (Qm : Int → Mem → Prop) : Nat → Int → Int → Int → Int → Mem → Prop
  | 0 => fun _ _ _ _ _ => False
  | n + 1 => fun y2 y3 y4 y5 M => ((y3 ≤ y5 → Qm y4 M) ∧ (y5 < y3 → wp_X7_chooseExtras y5 M fun (x12 : Int) (M11 : Mem) => ((x12 ≤ y2 → wp_X7_leastOfAllWidths_69 p1 Qm (wp_X7_leastOfAllWidths_48 p1 Qm n) y2 y3 y4 y5 M11) ∧ (y2 < x12 → ((¬ y5 = 0 → wp_X7_leastOfAllWidths_94 p1 Qm (wp_X7_leastOfAllWidths_48 p1 Qm n) y2 y3 y4 y5 M11) ∧ (y5 = 0 → wp_X7_leastOfAllWidths_69 p1 Qm (wp_X7_leastOfAllWidths_48 p1 Qm n) y2 y3 y4 y5 M11))))))
def wp_X7_leastOfAllWidths (p1 : Int) (M : Mem) (Qm : Int → Mem → Prop) : Prop := wp_X8_solve 1 p1 M fun (M1 : Mem) => wp_X7_takeLeastWidths M1 fun (M2 : Mem) => wp_J7_fill_53178 48 0 (-1) M2 fun (M3 : Mem) => wp_X3_widthTogether 51 1 M3 fun (x5 : Int) (M4 : Mem) => (inR (p1 - x5)) ∧ wp_X7_countChoices M4 fun (x9 : Int) (M8 : Mem) => (∃ n18 : Nat, wp_X7_leastOfAllWidths_48 p1 Qm n18 (p1 - x5) x9 0 0 M8)
set_option maxHeartbeats 4000000 in
set_option maxRecDepth 100000 in
theorem t_X7_leastOfAllWidths_94 {p1 : Int} (X : CX p m c cX7_leastOfAllWidths 7 s args RX7 G B κ meth (some .int)) (hp1 : inR p1) {Qm : Int → Mem → Prop} {K48 : Int → Int → Int → Int → Mem → Prop} (hK48 : ∀ y2 : Int, ∀ y3 : Int, ∀ y4 : Int, ∀ y5 : Int, ∀ M : Mem, K48 y2 y3 y4 y5 M → inR y2 → inR y3 → inR y4 → inR y5 → ∀ (H : Heap) (locs : List Loc), Rp G e0 α κ B M H → va_S (fun q => B ≤ q) s.heap H locs → ∀ (ls : Array Slot), lv_has ls 7 [(0, .ref (α 8 0)), (2, .int (Int32.ofInt y2)), (3, .int (Int32.ofInt y3)), (4, .int (Int32.ofInt y4)), (5, .int (Int32.ofInt y5))] → WI p l e 7 s m args below meth c G e0 α κ B Qm H locs 48 ls []) : ∀ y2 : Int, ∀ y3 : Int, ∀ y4 : Int, ∀ y5 : Int, ∀ M : Mem, wp_X7_leastOfAllWidths_94 p1 Qm K48 y2 y3 y4 y5 M → inR y2 → inR y3 → inR y4 → inR y5 → ∀ (H : Heap) (locs : List Loc), Rp G e0 α κ B M H → va_S (fun q => B ≤ q) s.heap H locs → ∀ (ls : Array Slot), lv_has ls 7 [(0, .ref (α 8 0)), (2, .int (Int32.ofInt y2)), (3, .int (Int32.ofInt y3)), (4, .int (Int32.ofInt y4)), (5, .int (Int32.ofInt y5))] → WI p l e 7 s m args below meth c G e0 α κ B Qm H locs 94 ls [] := by
  intro y2 y3 y4 y5 M hw hy2 hy3 hy4 hy5 H locs hR hS ls hl
  have hw : (inR (y5 + 1)) ∧ K48 y2 y3 y4 (y5 + 1) M := hw
  have c17 := hw.1
  have hw := hw.2
  refine lv_iinc (v := Int32.ofInt (y5 + 1)) (lv' := [(5, .int (Int32.ofInt (y5 + 1))), (0, .ref (α 8 0)), (2, .int (Int32.ofInt y2)), (3, .int (Int32.ofInt y3)), (4, .int (Int32.ofInt y4))]) X.1.1 X.1.2.1 dX7_leastOfAllWidths_94 hl (k := 4) rfl (Int32.ofInt_add _ _).symm (by decide) rfl (fun ls hl => ?_)
  refine lv_goto (tgt := 48) X.1.1 X.1.2.1 dX7_leastOfAllWidths_97 (by decide) ?_
  exact hK48 _ _ _ _ _ hw hy2 hy3 hy4 c17 _ _ hR hS _ (lv_sub hl [1, 2, 3, 4, 0] rfl)
set_option maxHeartbeats 4000000 in
set_option maxRecDepth 100000 in
theorem t_X7_leastOfAllWidths_92 {p1 : Int} (X : CX p m c cX7_leastOfAllWidths 7 s args RX7 G B κ meth (some .int)) (hp1 : inR p1) {Qm : Int → Mem → Prop} {K48 : Int → Int → Int → Int → Mem → Prop} (hK48 : ∀ y2 : Int, ∀ y3 : Int, ∀ y4 : Int, ∀ y5 : Int, ∀ M : Mem, K48 y2 y3 y4 y5 M → inR y2 → inR y3 → inR y4 → inR y5 → ∀ (H : Heap) (locs : List Loc), Rp G e0 α κ B M H → va_S (fun q => B ≤ q) s.heap H locs → ∀ (ls : Array Slot), lv_has ls 7 [(0, .ref (α 8 0)), (2, .int (Int32.ofInt y2)), (3, .int (Int32.ofInt y3)), (4, .int (Int32.ofInt y4)), (5, .int (Int32.ofInt y5))] → WI p l e 7 s m args below meth c G e0 α κ B Qm H locs 48 ls []) : ∀ y2 : Int, ∀ y3 : Int, ∀ y5 : Int, ∀ z0 : Int, ∀ M : Mem, wp_X7_leastOfAllWidths_92 p1 Qm K48 y2 y3 y5 z0 M → inR y2 → inR y3 → inR y5 → inR z0 → ∀ (H : Heap) (locs : List Loc), Rp G e0 α κ B M H → va_S (fun q => B ≤ q) s.heap H locs → ∀ (ls : Array Slot), lv_has ls 7 [(0, .ref (α 8 0)), (2, .int (Int32.ofInt y2)), (3, .int (Int32.ofInt y3)), (5, .int (Int32.ofInt y5))] → WI p l e 7 s m args below meth c G e0 α κ B Qm H locs 92 ls [.int (Int32.ofInt z0)] := by
  intro y2 y3 y5 z0 M hw hy2 hy3 hy5 hz0 H locs hR hS ls hl
  have hw : wp_X7_leastOfAllWidths_94 p1 Qm K48 y2 y3 z0 y5 M := hw
  refine lv_istore (lv' := [(4, .int (Int32.ofInt z0)), (0, .ref (α 8 0)), (2, .int (Int32.ofInt y2)), (3, .int (Int32.ofInt y3)), (5, .int (Int32.ofInt y5))]) X.1.1 X.1.2.1 dX7_leastOfAllWidths_92 hl (by decide) rfl (fun ls hl => ?_)
  exact t_X7_leastOfAllWidths_94 X hp1 hK48 _ _ _ _ _ hw hy2 hy3 hz0 hy5 _ _ hR hS _ (lv_sub hl [1, 2, 3, 0, 4] rfl)
set_option maxHeartbeats 4000000 in
set_option maxRecDepth 100000 in
theorem t_X7_leastOfAllWidths_69 {p1 : Int} (X : CX p m c cX7_leastOfAllWidths 7 s args RX7 G B κ meth (some .int)) (hp1 : inR p1) {Qm : Int → Mem → Prop} {K48 : Int → Int → Int → Int → Mem → Prop} (hK48 : ∀ y2 : Int, ∀ y3 : Int, ∀ y4 : Int, ∀ y5 : Int, ∀ M : Mem, K48 y2 y3 y4 y5 M → inR y2 → inR y3 → inR y4 → inR y5 → ∀ (H : Heap) (locs : List Loc), Rp G e0 α κ B M H → va_S (fun q => B ≤ q) s.heap H locs → ∀ (ls : Array Slot), lv_has ls 7 [(0, .ref (α 8 0)), (2, .int (Int32.ofInt y2)), (3, .int (Int32.ofInt y3)), (4, .int (Int32.ofInt y4)), (5, .int (Int32.ofInt y5))] → WI p l e 7 s m args below meth c G e0 α κ B Qm H locs 48 ls []) : ∀ y2 : Int, ∀ y3 : Int, ∀ y4 : Int, ∀ y5 : Int, ∀ M : Mem, wp_X7_leastOfAllWidths_69 p1 Qm K48 y2 y3 y4 y5 M → inR y2 → inR y3 → inR y4 → inR y5 → ∀ (H : Heap) (locs : List Loc), Rp G e0 α κ B M H → va_S (fun q => B ≤ q) s.heap H locs → ∀ (ls : Array Slot), lv_has ls 7 [(0, .ref (α 8 0)), (2, .int (Int32.ofInt y2)), (3, .int (Int32.ofInt y3)), (4, .int (Int32.ofInt y4)), (5, .int (Int32.ofInt y5))] → WI p l e 7 s m args below meth c G e0 α κ B Qm H locs 69 ls [] := by
  intro y2 y3 y4 y5 M hw hy2 hy3 hy4 hy5 H locs hR hS ls hl
  have hw : wp_X7_heightOfChoice M fun (x15 : Int) (M14 : Mem) => ((¬ y5 = 0 → wp_X7_leastOfAllWidths_92 p1 Qm K48 y2 y3 y5 (min y4 x15) M14) ∧ (y5 = 0 → wp_X7_leastOfAllWidths_92 p1 Qm K48 y2 y3 y5 x15 M14)) := hw
  refine lv_aload_n X.1.1 X.1.2.1 dX7_leastOfAllWidths_69 rfl (lv_at hl 0 rfl) ?_
  refine cs_X7_heightOfChoice X  (kc := 7) rmL_ok rm_c (by decide) hR hS kw_1345 hl.1 dX7_leastOfAllWidths_70 (Nat.le_of_ble_eq_true rfl) hw (fun x15 M14 H locs hw r16 hR hS => ?_)
  refine lv_istore (lv' := [(6, .int (Int32.ofInt x15)), (0, .ref (α 8 0)), (2, .int (Int32.ofInt y2)), (3, .int (Int32.ofInt y3)), (4, .int (Int32.ofInt y4)), (5, .int (Int32.ofInt y5))]) X.1.1 X.1.2.1 dX7_leastOfAllWidths_73 hl (by decide) rfl (fun ls hl => ?_)
  refine lv_iload X.1.1 X.1.2.1 dX7_leastOfAllWidths_75 (lv_at hl 5 rfl) ?_
  refine sa_if_ne (tgt := 85) X.1 hy5 dX7_leastOfAllWidths_77 (by decide) (fun hc => ?_) (fun hc => ?_)
  · have hw := hw.1 hc
    refine lv_iload X.1.1 X.1.2.1 dX7_leastOfAllWidths_85 (lv_at hl 4 rfl) ?_
    refine lv_iload X.1.1 X.1.2.1 dX7_leastOfAllWidths_87 (lv_at hl 0 rfl) ?_
    refine sa_min (R := rmL 7) X.1 hy4 r16 kw_1333 hl.1 kmath_min_s kmath_i kmath_min_c (by decide) (Nat.le_of_ble_eq_true rfl) rm_c dX7_leastOfAllWidths_89 ?_
    exact t_X7_leastOfAllWidths_92 X hp1 hK48 _ _ _ _ _ hw hy2 hy3 hy5 (inR_min hy4 r16) _ _ hR hS _ (lv_sub hl [1, 2, 3, 5] rfl)
  · have hw := hw.2 hc
    refine lv_iload X.1.1 X.1.2.1 dX7_leastOfAllWidths_80 (lv_at hl 0 rfl) ?_
    refine lv_goto (tgt := 92) X.1.1 X.1.2.1 dX7_leastOfAllWidths_82 (by decide) ?_
    exact t_X7_leastOfAllWidths_92 X hp1 hK48 _ _ _ _ _ hw hy2 hy3 hy5 r16 _ _ hR hS _ (lv_sub hl [1, 2, 3, 5] rfl)
set_option maxHeartbeats 4000000 in
set_option maxRecDepth 100000 in
theorem t_X7_leastOfAllWidths_48 {p1 : Int} (X : CX p m c cX7_leastOfAllWidths 7 s args RX7 G B κ meth (some .int)) (hp1 : inR p1) {Qm : Int → Mem → Prop} : ∀ n : Nat, ∀ y2 : Int, ∀ y3 : Int, ∀ y4 : Int, ∀ y5 : Int, ∀ M : Mem, wp_X7_leastOfAllWidths_48 p1 Qm n y2 y3 y4 y5 M → inR y2 → inR y3 → inR y4 → inR y5 → ∀ (H : Heap) (locs : List Loc), Rp G e0 α κ B M H → va_S (fun q => B ≤ q) s.heap H locs → ∀ (ls : Array Slot), lv_has ls 7 [(0, .ref (α 8 0)), (2, .int (Int32.ofInt y2)), (3, .int (Int32.ofInt y3)), (4, .int (Int32.ofInt y4)), (5, .int (Int32.ofInt y5))] → WI p l e 7 s m args below meth c G e0 α κ B Qm H locs 48 ls [] := by
  intro n
  induction n with
  | zero =>
    intro y2 y3 y4 y5 M hw hy2 hy3 hy4 hy5 H locs hR hS ls hl
    exact hw.elim
  | succ n ih =>
    intro y2 y3 y4 y5 M hw hy2 hy3 hy4 hy5 H locs hR hS ls hl
    have hw : ((y3 ≤ y5 → Qm y4 M) ∧ (y5 < y3 → wp_X7_chooseExtras y5 M fun (x12 : Int) (M11 : Mem) => ((x12 ≤ y2 → wp_X7_leastOfAllWidths_69 p1 Qm (wp_X7_leastOfAllWidths_48 p1 Qm n) y2 y3 y4 y5 M11) ∧ (y2 < x12 → ((¬ y5 = 0 → wp_X7_leastOfAllWidths_94 p1 Qm (wp_X7_leastOfAllWidths_48 p1 Qm n) y2 y3 y4 y5 M11) ∧ (y5 = 0 → wp_X7_leastOfAllWidths_69 p1 Qm (wp_X7_leastOfAllWidths_48 p1 Qm n) y2 y3 y4 y5 M11)))))) := hw
    refine lv_iload X.1.1 X.1.2.1 dX7_leastOfAllWidths_48 (lv_at hl 4 rfl) ?_
    refine lv_iload_n X.1.1 X.1.2.1 dX7_leastOfAllWidths_50 rfl (lv_at hl 2 rfl) ?_
    refine sa_icmp_ge (tgt := 100) X.1 hy5 hy3 dX7_leastOfAllWidths_51 (by decide) (fun hc => ?_) (fun hc => ?_)
    · have hw := hw.1 hc
      refine lv_iload X.1.1 X.1.2.1 dX7_leastOfAllWidths_100 (lv_at hl 3 rfl) ?_
      exact sa_iret X.1 X.2.2.2.1 X.2.2.2.2 hR hS hy4 hw dX7_leastOfAllWidths_102
    · have hw := hw.2 hc
      refine lv_aload_n X.1.1 X.1.2.1 dX7_leastOfAllWidths_54 rfl (lv_at hl 0 rfl) ?_
      refine lv_iload X.1.1 X.1.2.1 dX7_leastOfAllWidths_55 (lv_at hl 4 rfl) ?_
      refine cs_X7_chooseExtras X hy5 (kc := 7) rmL_ok rm_c (by decide) hR hS kw_1340 hl.1 dX7_leastOfAllWidths_57 (Nat.le_of_ble_eq_true rfl) hw (fun x12 M11 H locs hw r13 hR hS => ?_)
      refine lv_iload_n X.1.1 X.1.2.1 dX7_leastOfAllWidths_60 rfl (lv_at hl 1 rfl) ?_
      refine sa_icmp_le (tgt := 69) X.1 r13 hy2 dX7_leastOfAllWidths_61 (by decide) (fun hc => ?_) (fun hc => ?_)
      · have hw := hw.1 hc
        exact t_X7_leastOfAllWidths_69 X hp1 ih _ _ _ _ _ hw hy2 hy3 hy4 hy5 _ _ hR hS _ (lv_sub hl [0, 1, 2, 3, 4] rfl)
      · have hw := hw.2 hc
        refine lv_iload X.1.1 X.1.2.1 dX7_leastOfAllWidths_64 (lv_at hl 4 rfl) ?_
        refine sa_if_ne (tgt := 94) X.1 hy5 dX7_leastOfAllWidths_66 (by decide) (fun hc => ?_) (fun hc => ?_)
        · have hw := hw.1 hc
          exact t_X7_leastOfAllWidths_94 X hp1 ih _ _ _ _ _ hw hy2 hy3 hy4 hy5 _ _ hR hS _ (lv_sub hl [0, 1, 2, 3, 4] rfl)
        · have hw := hw.2 hc
          exact t_X7_leastOfAllWidths_69 X hp1 ih _ _ _ _ _ hw hy2 hy3 hy4 hy5 _ _ hR hS _ (lv_sub hl [0, 1, 2, 3, 4] rfl)
set_option maxHeartbeats 4000000 in
set_option maxRecDepth 100000 in
theorem t_X7_leastOfAllWidths {p1 : Int} (X : CX p m c cX7_leastOfAllWidths 7 s args RX7 G B κ meth (some .int)) (hp1 : inR p1) {M : Mem} {Qm : Int → Mem → Prop} (hw : wp_X7_leastOfAllWidths p1 M Qm) (H : Heap) (locs : List Loc) (hR : Rp G e0 α κ B M H) (hS : va_S (fun q => B ≤ q) s.heap H locs) (ls : Array Slot) (hl : lv_has ls 7 [(0, .ref (α 8 0)), (1, .int (Int32.ofInt p1))]) : WI p l e 7 s m args below meth c G e0 α κ B Qm H locs 0 ls [] := by
  have hw : wp_X8_solve 1 p1 M fun (M1 : Mem) => wp_X7_takeLeastWidths M1 fun (M2 : Mem) => wp_J7_fill_53178 48 0 (-1) M2 fun (M3 : Mem) => wp_X3_widthTogether 51 1 M3 fun (x5 : Int) (M4 : Mem) => (inR (p1 - x5)) ∧ wp_X7_countChoices M4 fun (x9 : Int) (M8 : Mem) => (∃ n18 : Nat, wp_X7_leastOfAllWidths_48 p1 Qm n18 (p1 - x5) x9 0 0 M8) := hw
  refine lv_aload_n X.1.1 X.1.2.1 dX7_leastOfAllWidths_0 rfl (lv_at hl 0 rfl) ?_
  refine gt_8_1 X hR (okf X.2.2.1 rfl) kw_268 dX7_leastOfAllWidths_1 ?_
  refine lv_iload_n X.1.1 X.1.2.1 dX7_leastOfAllWidths_4 rfl (lv_at hl 1 rfl) ?_
  refine cs_X8_solve X (okp X.2.2.1 rfl (by decide)) hp1 (kc := 7) rmL_ok rm_c (by decide) hR hS kw_1308 hl.1 dX7_leastOfAllWidths_5 (Nat.le_of_ble_eq_true rfl) hw (fun M1 H locs hw hR hS => ?_)
  refine lv_aload_n X.1.1 X.1.2.1 dX7_leastOfAllWidths_8 rfl (lv_at hl 0 rfl) ?_
  refine cs_X7_takeLeastWidths X  (kc := 7) rmL_ok rm_c (by decide) hR hS kw_1328 hl.1 dX7_leastOfAllWidths_9 (Nat.le_of_ble_eq_true rfl) hw (fun M2 H locs hw hR hS => ?_)
  refine lv_aload_n X.1.1 X.1.2.1 dX7_leastOfAllWidths_12 rfl (lv_at hl 0 rfl) ?_
  refine gt_8_5 X hR (okf X.2.2.1 rfl) kw_272 dX7_leastOfAllWidths_13 ?_
  refine sa_const X.1 dX7_leastOfAllWidths_16 ?_
  refine cs_J7_fill_53178 X AI_48 (okf X.2.2.1 rfl) (inR_c (a := -1) rfl) (kc := 7) rmL_ok rm_c (by decide) hR hS kw_1334 hl.1 dX7_leastOfAllWidths_17 (Nat.le_of_ble_eq_true rfl) hw (fun M3 H locs hw hR hS => ?_)
  refine lv_iload_n X.1.1 X.1.2.1 dX7_leastOfAllWidths_20 rfl (lv_at hl 1 rfl) ?_
  refine lv_aload_n X.1.1 X.1.2.1 dX7_leastOfAllWidths_21 rfl (lv_at hl 0 rfl) ?_
  refine gt_8_0 X hR (okf X.2.2.1 rfl) kw_267 dX7_leastOfAllWidths_22 ?_
  refine lv_aload_n X.1.1 X.1.2.1 dX7_leastOfAllWidths_25 rfl (lv_at hl 0 rfl) ?_
  refine gt_8_1 X hR (okf X.2.2.1 rfl) kw_268 dX7_leastOfAllWidths_26 ?_
  refine gt_9_3 X hR (okp X.2.2.1 rfl (by decide)) kw_212 dX7_leastOfAllWidths_29 ?_
  refine cs_X3_widthTogether X hA6_51 (okp X.2.2.1 rfl (pr_9 X.2.2.1 (okp X.2.2.1 rfl (by decide)))) (kc := 7) rmL_ok rm_c (by decide) hR hS kw_1335 hl.1 dX7_leastOfAllWidths_32 (Nat.le_of_ble_eq_true rfl) hw (fun x5 M4 H locs hw r6 hR hS => ?_)
  have c7 := hw.1
  have hw := hw.2
  refine sa_isub X.1 dX7_leastOfAllWidths_35 ?_
  refine lv_istore_n (lv' := [(2, .int (Int32.ofInt (p1 - x5))), (0, .ref (α 8 0)), (1, .int (Int32.ofInt p1))]) X.1.1 X.1.2.1 dX7_leastOfAllWidths_36 rfl hl (by decide) rfl (fun ls hl => ?_)
  refine lv_aload_n X.1.1 X.1.2.1 dX7_leastOfAllWidths_37 rfl (lv_at hl 1 rfl) ?_
  refine cs_X7_countChoices X  (kc := 7) rmL_ok rm_c (by decide) hR hS kw_1336 hl.1 dX7_leastOfAllWidths_38 (Nat.le_of_ble_eq_true rfl) hw (fun x9 M8 H locs hw r10 hR hS => ?_)
  refine lv_istore_n (lv' := [(3, .int (Int32.ofInt x9)), (2, .int (Int32.ofInt (p1 - x5))), (0, .ref (α 8 0)), (1, .int (Int32.ofInt p1))]) X.1.1 X.1.2.1 dX7_leastOfAllWidths_41 rfl hl (by decide) rfl (fun ls hl => ?_)
  refine sa_const X.1 dX7_leastOfAllWidths_42 ?_
  refine lv_istore (lv' := [(4, .int (Int32.ofInt 0)), (3, .int (Int32.ofInt x9)), (2, .int (Int32.ofInt (p1 - x5))), (0, .ref (α 8 0)), (1, .int (Int32.ofInt p1))]) X.1.1 X.1.2.1 dX7_leastOfAllWidths_43 hl (by decide) rfl (fun ls hl => ?_)
  refine sa_const X.1 dX7_leastOfAllWidths_45 ?_
  refine lv_istore (lv' := [(5, .int (Int32.ofInt 0)), (4, .int (Int32.ofInt 0)), (3, .int (Int32.ofInt x9)), (2, .int (Int32.ofInt (p1 - x5))), (0, .ref (α 8 0)), (1, .int (Int32.ofInt p1))]) X.1.1 X.1.2.1 dX7_leastOfAllWidths_46 hl (by decide) rfl (fun ls hl => ?_)
  obtain ⟨n18, hw⟩ := hw
  exact t_X7_leastOfAllWidths_48 X hp1 n18 _ _ _ _ _ hw c7 r10 (inR_c (a := 0) rfl) (inR_c (a := 0) rfl) _ _ hR hS _ (lv_sub hl [4, 3, 2, 1, 0] rfl)
theorem m_X7_leastOfAllWidths {l : Launch} {G : Gx} {e0 : Nat} {α : Ax} {κ : Nat → Int} {B : Nat} {p1 : Int} (hκ : kOK κ) (hp1 : inR p1) {M : Mem} {Qm : Int → Mem → Prop} (hw : wp_X7_leastOfAllWidths p1 M Qm) : CI l yX7_leastOfAllWidths (Cond.code yX7_leastOfAllWidths cX7_leastOfAllWidths 7 (some .int)) 7 G e0 α κ B [.ref (α 8 0), .int (Int32.ofInt p1)] M Qm :=
  CI.mk hκ (by decide +kernel) rfl (Nat.le_of_ble_eq_true rfl) (lv := [(0, .ref (α 8 0)), (1, .int (Int32.ofInt p1))]) rfl (fun p e s m args below meth c ls X hR hS hl => t_X7_leastOfAllWidths X hp1 hw _ _ hR hS ls hl)
theorem cs_X7_leastOfAllWidths {cc : ByteArray} {nL : Nat} {own : String} {ret : Option FieldType} {idx pc : Nat} {p1 : Int} (X : CX p m c cc nL s args own G B κ meth ret) (hp1 : inR p1) {kc : Nat} {R : Room} {cells slots : Nat} (hRr : RmOK R kc) (hcel : cells ≤ R.cells ∧ slots ≤ R.slots) (hk : 7 + 1 ≤ kc) {M : Mem} {H : Heap} {locs : List Loc} (hR : Rp G e0 α κ B M H) (hS : va_S (fun q => B ≤ q) s.heap H locs) (k1 : Cond.methodLink own idx yX7_leastOfAllWidths ∈ gw) {ls : Array Slot} (hml : ls.size = nL) {rest : List Value} (hd : decode cc pc = .ok (.invokevirtual idx, 3)) (hrest : (rest.map fun v => v.category).sum ≤ 8) {Q : State → Prop} {Qm : Int → Mem → Prop} (hw : wp_X7_leastOfAllWidths p1 M Qm) (kk : ∀ (r : Int) (M1 : Mem) (H1 : Heap) (locs1 : List Loc), Qm r M1 → inR r → Rp G e0 α κ B M1 H1 → va_S (fun q => B ≤ q) s.heap H1 locs1 → W p l e R s m args below meth c H1 locs1 cells slots Q (F0 m (pc + 3) ls (.int (Int32.ofInt r) :: rest))) : W p l e R s m args below meth c H locs cells slots Q (F0 m pc ls (.int (Int32.ofInt p1) :: .ref (α 8 0) :: rest)) :=
  sa_callVI 7 (n := 1) (As := [.int (Int32.ofInt p1)]) (rest := rest) X.1 X.2.1 hR hS (m_X7_leastOfAllWidths X.2.2.1 hp1 hw) k1 kw_1325 kw_1326 kw_101 kw_1327 ⟨rfl, by decide +kernel, by decide +kernel, by decide +kernel⟩ (rm_ok hRr hk (by decide)) (rc_8 X hR (okf X.2.2.1 rfl)) rfl rfl hrest hml hd hcel kk
def wp_X9_over (M : Mem) (Qm : Int → Mem → Prop) : Prop := wp_X9_refresh M fun (M1 : Mem) => wp_X3_widthTogether 51 0 M1 fun (x3 : Int) (M2 : Mem) => (inR (x3 - (M2 10 0 7))) ∧ Qm (max 0 (x3 - (M2 10 0 7))) M2
set_option maxHeartbeats 4000000 in
set_option maxRecDepth 100000 in
theorem t_X9_over (X : CX p m c cX9_over 1 s args RX9 G B κ meth (some .int)) {M : Mem} {Qm : Int → Mem → Prop} (hw : wp_X9_over M Qm) (H : Heap) (locs : List Loc) (hR : Rp G e0 α κ B M H) (hS : va_S (fun q => B ≤ q) s.heap H locs) (ls : Array Slot) (hl : lv_has ls 1 [(0, .ref (α 10 0))]) : WI p l e 8 s m args below meth c G e0 α κ B Qm H locs 0 ls [] := by
  have hw : wp_X9_refresh M fun (M1 : Mem) => wp_X3_widthTogether 51 0 M1 fun (x3 : Int) (M2 : Mem) => (inR (x3 - (M2 10 0 7))) ∧ Qm (max 0 (x3 - (M2 10 0 7))) M2 := hw
  refine lv_aload_n X.1.1 X.1.2.1 dX9_over_0 rfl (lv_at hl 0 rfl) ?_
  refine cs_X9_refresh X  (kc := 8) rmL_ok rm_c (by decide) hR hS kw_426 hl.1 dX9_over_1 (Nat.le_of_ble_eq_true rfl) hw (fun M1 H locs hw hR hS => ?_)
  refine sa_const X.1 dX9_over_4 ?_
  refine lv_aload_n X.1.1 X.1.2.1 dX9_over_5 rfl (lv_at hl 0 rfl) ?_
  refine gt_10_0 X hR (okf X.2.2.1 rfl) kw_384 dX9_over_6 ?_
  refine lv_aload_n X.1.1 X.1.2.1 dX9_over_9 rfl (lv_at hl 0 rfl) ?_
  refine gt_10_1 X hR (okf X.2.2.1 rfl) kw_385 dX9_over_10 ?_
  refine gt_9_3 X hR (okp X.2.2.1 rfl (by decide)) kw_213 dX9_over_13 ?_
  refine cs_X3_widthTogether X hA6_51 (okp X.2.2.1 rfl (pr_9 X.2.2.1 (okp X.2.2.1 rfl (by decide)))) (kc := 8) rmL_ok rm_c (by decide) hR hS kw_710 hl.1 dX9_over_16 (Nat.le_of_ble_eq_true rfl) hw (fun x3 M2 H locs hw r4 hR hS => ?_)
  refine lv_aload_n X.1.1 X.1.2.1 dX9_over_19 rfl (lv_at hl 0 rfl) ?_
  refine gt_10_7 X hR (okf X.2.2.1 rfl) kw_391 dX9_over_20 ?_
  have r5 := hR.r 10 0 7
  have c6 := hw.1
  have hw := hw.2
  refine sa_isub X.1 dX9_over_23 ?_
  refine sa_max (R := rmL 8) X.1 (inR_c (a := 0) rfl) c6 hl.1 kw_715 kmath_max_s kmath_i kmath_max_c (by decide) (Nat.le_of_ble_eq_true rfl) rm_c dX9_over_24 ?_
  exact sa_iret X.1 X.2.2.2.1 X.2.2.2.2 hR hS (inR_max (inR_c (a := 0) rfl) c6) hw dX9_over_27
theorem m_X9_over {l : Launch} {G : Gx} {e0 : Nat} {α : Ax} {κ : Nat → Int} {B : Nat} (hκ : kOK κ) {M : Mem} {Qm : Int → Mem → Prop} (hw : wp_X9_over M Qm) : CI l yX9_over (Cond.code yX9_over cX9_over 1 (some .int)) 8 G e0 α κ B [.ref (α 10 0)] M Qm :=
  CI.mk hκ (by decide +kernel) rfl (Nat.le_of_ble_eq_true rfl) (lv := [(0, .ref (α 10 0))]) rfl (fun p e s m args below meth c ls X hR hS hl => t_X9_over X hw _ _ hR hS ls hl)
theorem cs_X9_over {cc : ByteArray} {nL : Nat} {own : String} {ret : Option FieldType} {idx pc : Nat} (X : CX p m c cc nL s args own G B κ meth ret) {kc : Nat} {R : Room} {cells slots : Nat} (hRr : RmOK R kc) (hcel : cells ≤ R.cells ∧ slots ≤ R.slots) (hk : 8 + 1 ≤ kc) {M : Mem} {H : Heap} {locs : List Loc} (hR : Rp G e0 α κ B M H) (hS : va_S (fun q => B ≤ q) s.heap H locs) (k1 : Cond.methodLink own idx yX9_over ∈ gw) {ls : Array Slot} (hml : ls.size = nL) {rest : List Value} (hd : decode cc pc = .ok (.invokevirtual idx, 3)) (hrest : (rest.map fun v => v.category).sum ≤ 8) {Q : State → Prop} {Qm : Int → Mem → Prop} (hw : wp_X9_over M Qm) (kk : ∀ (r : Int) (M1 : Mem) (H1 : Heap) (locs1 : List Loc), Qm r M1 → inR r → Rp G e0 α κ B M1 H1 → va_S (fun q => B ≤ q) s.heap H1 locs1 → W p l e R s m args below meth c H1 locs1 cells slots Q (F0 m (pc + 3) ls (.int (Int32.ofInt r) :: rest))) : W p l e R s m args below meth c H locs cells slots Q (F0 m pc ls (.ref (α 10 0) :: rest)) :=
  sa_callVI 8 (n := 0) (As := []) (rest := rest) X.1 X.2.1 hR hS (m_X9_over X.2.2.1 hw) k1 kw_423 kw_424 kw_94 kw_425 ⟨rfl, by decide +kernel, by decide +kernel, by decide +kernel⟩ (rm_ok hRr hk (by decide)) (rc_10 X hR (okf X.2.2.1 rfl)) rfl rfl hrest hml hd hcel kk
def wp_X9_tableHeight (M : Mem) (Qm : Int → Mem → Prop) : Prop := wp_X9_refresh M fun (M1 : Mem) => wp_X4_heightOfPart 0 1 M1 fun (x3 : Int) (M2 : Mem) => Qm x3 M2
set_option maxHeartbeats 4000000 in
set_option maxRecDepth 100000 in
theorem t_X9_tableHeight (X : CX p m c cX9_tableHeight 1 s args RX9 G B κ meth (some .int)) {M : Mem} {Qm : Int → Mem → Prop} (hw : wp_X9_tableHeight M Qm) (H : Heap) (locs : List Loc) (hR : Rp G e0 α κ B M H) (hS : va_S (fun q => B ≤ q) s.heap H locs) (ls : Array Slot) (hl : lv_has ls 1 [(0, .ref (α 10 0))]) : WI p l e 8 s m args below meth c G e0 α κ B Qm H locs 0 ls [] := by
  have hw : wp_X9_refresh M fun (M1 : Mem) => wp_X4_heightOfPart 0 1 M1 fun (x3 : Int) (M2 : Mem) => Qm x3 M2 := hw
  refine lv_aload_n X.1.1 X.1.2.1 dX9_tableHeight_0 rfl (lv_at hl 0 rfl) ?_
  refine cs_X9_refresh X  (kc := 8) rmL_ok rm_c (by decide) hR hS kw_426 hl.1 dX9_tableHeight_1 (Nat.le_of_ble_eq_true rfl) hw (fun M1 H locs hw hR hS => ?_)
  refine lv_aload_n X.1.1 X.1.2.1 dX9_tableHeight_4 rfl (lv_at hl 0 rfl) ?_
  refine gt_10_2 X hR (okf X.2.2.1 rfl) kw_386 dX9_tableHeight_5 ?_
  refine sa_const X.1 dX9_tableHeight_8 ?_
  refine cs_X4_heightOfPart X (okp X.2.2.1 rfl (by decide)) (inR_c (a := 1) rfl) (kc := 8) rmL_ok rm_c (by decide) hR hS kw_720 hl.1 dX9_tableHeight_9 (Nat.le_of_ble_eq_true rfl) hw (fun x3 M2 H locs hw r4 hR hS => ?_)
  exact sa_iret X.1 X.2.2.2.1 X.2.2.2.2 hR hS r4 hw dX9_tableHeight_12
theorem m_X9_tableHeight {l : Launch} {G : Gx} {e0 : Nat} {α : Ax} {κ : Nat → Int} {B : Nat} (hκ : kOK κ) {M : Mem} {Qm : Int → Mem → Prop} (hw : wp_X9_tableHeight M Qm) : CI l yX9_tableHeight (Cond.code yX9_tableHeight cX9_tableHeight 1 (some .int)) 8 G e0 α κ B [.ref (α 10 0)] M Qm :=
  CI.mk hκ (by decide +kernel) rfl (Nat.le_of_ble_eq_true rfl) (lv := [(0, .ref (α 10 0))]) rfl (fun p e s m args below meth c ls X hR hS hl => t_X9_tableHeight X hw _ _ hR hS ls hl)
theorem cs_X9_tableHeight {cc : ByteArray} {nL : Nat} {own : String} {ret : Option FieldType} {idx pc : Nat} (X : CX p m c cc nL s args own G B κ meth ret) {kc : Nat} {R : Room} {cells slots : Nat} (hRr : RmOK R kc) (hcel : cells ≤ R.cells ∧ slots ≤ R.slots) (hk : 8 + 1 ≤ kc) {M : Mem} {H : Heap} {locs : List Loc} (hR : Rp G e0 α κ B M H) (hS : va_S (fun q => B ≤ q) s.heap H locs) (k1 : Cond.methodLink own idx yX9_tableHeight ∈ gw) {ls : Array Slot} (hml : ls.size = nL) {rest : List Value} (hd : decode cc pc = .ok (.invokevirtual idx, 3)) (hrest : (rest.map fun v => v.category).sum ≤ 8) {Q : State → Prop} {Qm : Int → Mem → Prop} (hw : wp_X9_tableHeight M Qm) (kk : ∀ (r : Int) (M1 : Mem) (H1 : Heap) (locs1 : List Loc), Qm r M1 → inR r → Rp G e0 α κ B M1 H1 → va_S (fun q => B ≤ q) s.heap H1 locs1 → W p l e R s m args below meth c H1 locs1 cells slots Q (F0 m (pc + 3) ls (.int (Int32.ofInt r) :: rest))) : W p l e R s m args below meth c H locs cells slots Q (F0 m pc ls (.ref (α 10 0) :: rest)) :=
  sa_callVI 8 (n := 0) (As := []) (rest := rest) X.1 X.2.1 hR hS (m_X9_tableHeight X.2.2.1 hw) k1 kw_717 kw_718 kw_94 kw_719 ⟨rfl, by decide +kernel, by decide +kernel, by decide +kernel⟩ (rm_ok hRr hk (by decide)) (rc_10 X hR (okf X.2.2.1 rfl)) rfl rfl hrest hml hd hcel kk
def wp_X9_look (M : Mem) (Qm : Int → Mem → Prop) : Prop := wp_X9_refresh M fun (M1 : Mem) => wp_X6_countDifferencesTo 0 1 M1 fun (x3 : Int) (M2 : Mem) => wp_X6_takeFrom 1 0 M2 fun (M5 : Mem) => Qm x3 M5
set_option maxHeartbeats 4000000 in
set_option maxRecDepth 100000 in
theorem t_X9_look (X : CX p m c cX9_look 2 s args RX9 G B κ meth (some .int)) {M : Mem} {Qm : Int → Mem → Prop} (hw : wp_X9_look M Qm) (H : Heap) (locs : List Loc) (hR : Rp G e0 α κ B M H) (hS : va_S (fun q => B ≤ q) s.heap H locs) (ls : Array Slot) (hl : lv_has ls 2 [(0, .ref (α 10 0))]) : WI p l e 8 s m args below meth c G e0 α κ B Qm H locs 0 ls [] := by
  have hw : wp_X9_refresh M fun (M1 : Mem) => wp_X6_countDifferencesTo 0 1 M1 fun (x3 : Int) (M2 : Mem) => wp_X6_takeFrom 1 0 M2 fun (M5 : Mem) => Qm x3 M5 := hw
  refine lv_aload_n X.1.1 X.1.2.1 dX9_look_0 rfl (lv_at hl 0 rfl) ?_
  refine cs_X9_refresh X  (kc := 8) rmL_ok rm_c (by decide) hR hS kw_426 hl.1 dX9_look_1 (Nat.le_of_ble_eq_true rfl) hw (fun M1 H locs hw hR hS => ?_)
  refine lv_aload_n X.1.1 X.1.2.1 dX9_look_4 rfl (lv_at hl 0 rfl) ?_
  refine gt_10_5 X hR (okf X.2.2.1 rfl) kw_389 dX9_look_5 ?_
  refine lv_aload_n X.1.1 X.1.2.1 dX9_look_8 rfl (lv_at hl 0 rfl) ?_
  refine gt_10_6 X hR (okf X.2.2.1 rfl) kw_390 dX9_look_9 ?_
  refine cs_X6_countDifferencesTo X (okp X.2.2.1 rfl (by decide)) (okp X.2.2.1 rfl (by decide)) (kc := 8) rmL_ok rm_c (by decide) hR hS kw_725 hl.1 dX9_look_12 (Nat.le_of_ble_eq_true rfl) hw (fun x3 M2 H locs hw r4 hR hS => ?_)
  refine lv_istore_n (lv' := [(1, .int (Int32.ofInt x3)), (0, .ref (α 10 0))]) X.1.1 X.1.2.1 dX9_look_15 rfl hl (by decide) rfl (fun ls hl => ?_)
  refine lv_aload_n X.1.1 X.1.2.1 dX9_look_16 rfl (lv_at hl 1 rfl) ?_
  refine gt_10_6 X hR (okf X.2.2.1 rfl) kw_390 dX9_look_17 ?_
  refine lv_aload_n X.1.1 X.1.2.1 dX9_look_20 rfl (lv_at hl 1 rfl) ?_
  refine gt_10_5 X hR (okf X.2.2.1 rfl) kw_389 dX9_look_21 ?_
  refine cs_X6_takeFrom X (okp X.2.2.1 rfl (by decide)) (okp X.2.2.1 rfl (by decide)) (kc := 8) rmL_ok rm_c (by decide) hR hS kw_738 hl.1 dX9_look_24 (Nat.le_of_ble_eq_true rfl) hw (fun M5 H locs hw hR hS => ?_)
  refine lv_iload_n X.1.1 X.1.2.1 dX9_look_27 rfl (lv_at hl 0 rfl) ?_
  exact sa_iret X.1 X.2.2.2.1 X.2.2.2.2 hR hS r4 hw dX9_look_28
theorem m_X9_look {l : Launch} {G : Gx} {e0 : Nat} {α : Ax} {κ : Nat → Int} {B : Nat} (hκ : kOK κ) {M : Mem} {Qm : Int → Mem → Prop} (hw : wp_X9_look M Qm) : CI l yX9_look (Cond.code yX9_look cX9_look 2 (some .int)) 8 G e0 α κ B [.ref (α 10 0)] M Qm :=
  CI.mk hκ (by decide +kernel) rfl (Nat.le_of_ble_eq_true rfl) (lv := [(0, .ref (α 10 0))]) rfl (fun p e s m args below meth c ls X hR hS hl => t_X9_look X hw _ _ hR hS ls hl)
theorem cs_X9_look {cc : ByteArray} {nL : Nat} {own : String} {ret : Option FieldType} {idx pc : Nat} (X : CX p m c cc nL s args own G B κ meth ret) {kc : Nat} {R : Room} {cells slots : Nat} (hRr : RmOK R kc) (hcel : cells ≤ R.cells ∧ slots ≤ R.slots) (hk : 8 + 1 ≤ kc) {M : Mem} {H : Heap} {locs : List Loc} (hR : Rp G e0 α κ B M H) (hS : va_S (fun q => B ≤ q) s.heap H locs) (k1 : Cond.methodLink own idx yX9_look ∈ gw) {ls : Array Slot} (hml : ls.size = nL) {rest : List Value} (hd : decode cc pc = .ok (.invokevirtual idx, 3)) (hrest : (rest.map fun v => v.category).sum ≤ 8) {Q : State → Prop} {Qm : Int → Mem → Prop} (hw : wp_X9_look M Qm) (kk : ∀ (r : Int) (M1 : Mem) (H1 : Heap) (locs1 : List Loc), Qm r M1 → inR r → Rp G e0 α κ B M1 H1 → va_S (fun q => B ≤ q) s.heap H1 locs1 → W p l e R s m args below meth c H1 locs1 cells slots Q (F0 m (pc + 3) ls (.int (Int32.ofInt r) :: rest))) : W p l e R s m args below meth c H locs cells slots Q (F0 m pc ls (.ref (α 10 0) :: rest)) :=
  sa_callVI 8 (n := 0) (As := []) (rest := rest) X.1 X.2.1 hR hS (m_X9_look X.2.2.1 hw) k1 kw_722 kw_723 kw_94 kw_724 ⟨rfl, by decide +kernel, by decide +kernel, by decide +kernel⟩ (rm_ok hRr hk (by decide)) (rc_10 X hR (okf X.2.2.1 rfl)) rfl rfl hrest hml hd hcel kk
end
