theorem dL_pages_0 : decode cL_pages 0 = .ok (.aload_n 0, 1) := by decide +kernel
theorem dL_pages_1 : decode cL_pages 1 = .ok (.invokevirtual 76, 3) := by decide +kernel
theorem dL_pages_4 : decode cL_pages 4 = .ok (.ireturn, 1) := by decide +kernel
theorem dL_pages_5 : decode cL_pages 5 = .ok (.astore_n 1, 1) := by decide +kernel
theorem dL_pages_6 : decode cL_pages 6 = .ok (.iconst (-1), 1) := by decide +kernel
theorem dL_pages_7 : decode cL_pages 7 = .ok (.ireturn, 1) := by decide +kernel
theorem dL_point_0 : decode cL_point 0 = .ok (.iload_n 1, 1) := by decide +kernel
theorem dL_point_1 : decode cL_point 1 = .ok (.ifCond .ne 11, 3) := by decide +kernel
theorem dL_point_4 : decode cL_point 4 = .ok (.aload_n 0, 1) := by decide +kernel
theorem dL_point_5 : decode cL_point 5 = .ok (.iload_n 2, 1) := by decide +kernel
theorem dL_point_6 : decode cL_point 6 = .ok (.invokevirtual 84, 3) := by decide +kernel
theorem dL_point_9 : decode cL_point 9 = .ok (.goto 8, 3) := by decide +kernel
theorem dL_point_12 : decode cL_point 12 = .ok (.aload_n 0, 1) := by decide +kernel
theorem dL_point_13 : decode cL_point 13 = .ok (.iload_n 2, 1) := by decide +kernel
theorem dL_point_14 : decode cL_point 14 = .ok (.invokevirtual 87, 3) := by decide +kernel
theorem dL_point_17 : decode cL_point 17 = .ok (.ireturn, 1) := by decide +kernel
theorem dL_point_18 : decode cL_point 18 = .ok (.astore_n 3, 1) := by decide +kernel
theorem dL_point_19 : decode cL_point 19 = .ok (.bipush (-7), 2) := by decide +kernel
theorem dL_point_21 : decode cL_point 21 = .ok (.ireturn, 1) := by decide +kernel
theorem dL_rowed_0 : decode cL_rowed 0 = .ok (.aload_n 0, 1) := by decide +kernel
theorem dL_rowed_1 : decode cL_rowed 1 = .ok (.iload_n 1, 1) := by decide +kernel
theorem dL_rowed_2 : decode cL_rowed 2 = .ok (.iload_n 2, 1) := by decide +kernel
theorem dL_rowed_3 : decode cL_rowed 3 = .ok (.iload_n 3, 1) := by decide +kernel
theorem dL_rowed_4 : decode cL_rowed 4 = .ok (.invokevirtual 160, 3) := by decide +kernel
theorem dL_rowed_7 : decode cL_rowed 7 = .ok (.ireturn, 1) := by decide +kernel
theorem dL_rowed_8 : decode cL_rowed 8 = .ok (.astore 4, 2) := by decide +kernel
theorem dL_rowed_10 : decode cL_rowed 10 = .ok (.bipush (-7), 2) := by decide +kernel
theorem dL_rowed_12 : decode cL_rowed 12 = .ok (.ireturn, 1) := by decide +kernel
theorem dL_celled_0 : decode cL_celled 0 = .ok (.aload_n 0, 1) := by decide +kernel
theorem dL_celled_1 : decode cL_celled 1 = .ok (.iload_n 1, 1) := by decide +kernel
theorem dL_celled_2 : decode cL_celled 2 = .ok (.iload_n 2, 1) := by decide +kernel
theorem dL_celled_3 : decode cL_celled 3 = .ok (.iload_n 3, 1) := by decide +kernel
theorem dL_celled_4 : decode cL_celled 4 = .ok (.iload 4, 2) := by decide +kernel
theorem dL_celled_6 : decode cL_celled 6 = .ok (.invokevirtual 164, 3) := by decide +kernel
theorem dL_celled_9 : decode cL_celled 9 = .ok (.ireturn, 1) := by decide +kernel
theorem dL_celled_10 : decode cL_celled 10 = .ok (.astore 5, 2) := by decide +kernel
theorem dL_celled_12 : decode cL_celled 12 = .ok (.bipush (-7), 2) := by decide +kernel
theorem dL_celled_14 : decode cL_celled 14 = .ok (.ireturn, 1) := by decide +kernel
theorem dL_worded_0 : decode cL_worded 0 = .ok (.aload_n 0, 1) := by decide +kernel
theorem dL_worded_1 : decode cL_worded 1 = .ok (.iload_n 1, 1) := by decide +kernel
theorem dL_worded_2 : decode cL_worded 2 = .ok (.iload_n 2, 1) := by decide +kernel
theorem dL_worded_3 : decode cL_worded 3 = .ok (.iload_n 3, 1) := by decide +kernel
theorem dL_worded_4 : decode cL_worded 4 = .ok (.invokevirtual 168, 3) := by decide +kernel
theorem dL_worded_7 : decode cL_worded 7 = .ok (.ireturn, 1) := by decide +kernel
theorem dL_worded_8 : decode cL_worded 8 = .ok (.astore 4, 2) := by decide +kernel
theorem dL_worded_10 : decode cL_worded 10 = .ok (.bipush (-7), 2) := by decide +kernel
theorem dL_worded_12 : decode cL_worded 12 = .ok (.ireturn, 1) := by decide +kernel
theorem dL_figured_0 : decode cL_figured 0 = .ok (.aload_n 0, 1) := by decide +kernel
theorem dL_figured_1 : decode cL_figured 1 = .ok (.iload_n 1, 1) := by decide +kernel
theorem dL_figured_2 : decode cL_figured 2 = .ok (.iload_n 2, 1) := by decide +kernel
theorem dL_figured_3 : decode cL_figured 3 = .ok (.iload_n 3, 1) := by decide +kernel
theorem dL_figured_4 : decode cL_figured 4 = .ok (.invokevirtual 171, 3) := by decide +kernel
theorem dL_figured_7 : decode cL_figured 7 = .ok (.iconst 0, 1) := by decide +kernel
theorem dL_figured_8 : decode cL_figured 8 = .ok (.ireturn, 1) := by decide +kernel
theorem dL_figured_9 : decode cL_figured 9 = .ok (.astore 4, 2) := by decide +kernel
theorem dL_figured_11 : decode cL_figured 11 = .ok (.bipush (-7), 2) := by decide +kernel
theorem dL_figured_13 : decode cL_figured 13 = .ok (.ireturn, 1) := by decide +kernel
theorem dL_noted_0 : decode cL_noted 0 = .ok (.aload_n 0, 1) := by decide +kernel
theorem dL_noted_1 : decode cL_noted 1 = .ok (.iload_n 1, 1) := by decide +kernel
theorem dL_noted_2 : decode cL_noted 2 = .ok (.iload_n 2, 1) := by decide +kernel
theorem dL_noted_3 : decode cL_noted 3 = .ok (.invokevirtual 174, 3) := by decide +kernel
theorem dL_noted_6 : decode cL_noted 6 = .ok (.ireturn, 1) := by decide +kernel
theorem dL_noted_7 : decode cL_noted 7 = .ok (.astore_n 3, 1) := by decide +kernel
theorem dL_noted_8 : decode cL_noted 8 = .ok (.bipush (-7), 2) := by decide +kernel
theorem dL_noted_10 : decode cL_noted 10 = .ok (.ireturn, 1) := by decide +kernel
theorem dL_hid_0 : decode cL_hid 0 = .ok (.aload_n 0, 1) := by decide +kernel
theorem dL_hid_1 : decode cL_hid 1 = .ok (.iload_n 1, 1) := by decide +kernel
theorem dL_hid_2 : decode cL_hid 2 = .ok (.invokevirtual 177, 3) := by decide +kernel
theorem dL_hid_5 : decode cL_hid 5 = .ok (.ifCond .eq 7, 3) := by decide +kernel
theorem dL_hid_8 : decode cL_hid 8 = .ok (.iconst 1, 1) := by decide +kernel
theorem dL_hid_9 : decode cL_hid 9 = .ok (.goto 4, 3) := by decide +kernel
theorem dL_hid_12 : decode cL_hid 12 = .ok (.iconst 0, 1) := by decide +kernel
theorem dL_hid_13 : decode cL_hid 13 = .ok (.ireturn, 1) := by decide +kernel
theorem dL_hid_14 : decode cL_hid 14 = .ok (.astore_n 2, 1) := by decide +kernel
theorem dL_hid_15 : decode cL_hid 15 = .ok (.bipush (-7), 2) := by decide +kernel
theorem dL_hid_17 : decode cL_hid 17 = .ok (.ireturn, 1) := by decide +kernel
theorem dL_sorted_0 : decode cL_sorted 0 = .ok (.aload_n 0, 1) := by decide +kernel
theorem dL_sorted_1 : decode cL_sorted 1 = .ok (.iload_n 1, 1) := by decide +kernel
theorem dL_sorted_2 : decode cL_sorted 2 = .ok (.iload_n 2, 1) := by decide +kernel
theorem dL_sorted_3 : decode cL_sorted 3 = .ok (.invokevirtual 181, 3) := by decide +kernel
theorem dL_sorted_6 : decode cL_sorted 6 = .ok (.ireturn, 1) := by decide +kernel
theorem dL_sorted_7 : decode cL_sorted 7 = .ok (.astore_n 3, 1) := by decide +kernel
theorem dL_sorted_8 : decode cL_sorted 8 = .ok (.bipush (-7), 2) := by decide +kernel
theorem dL_sorted_10 : decode cL_sorted 10 = .ok (.ireturn, 1) := by decide +kernel
def wp_L_pages (M : Mem) (Qm : Int → Mem → Prop) : Prop := wp_X9_pages M (fun E Mx => E = xISE ∧ Qm (-1) Mx) (fun r Mr => Qm r Mr)
set_option maxHeartbeats 4000000 in
set_option maxRecDepth 100000 in
theorem w_L_pages {l : Launch} {G : Gx} {e0 : Nat} {α : Ax} {κ : Nat → Int} {B : Nat} (hlt : l.stackTraces = false) (hκ : kOK κ) {M : Mem} {Qm : Int → Mem → Prop} (hw : wp_L_pages M Qm) : WC l yL_pages (Cond.codeWith yL_pages cL_pages 2 (some .int) [(0, 4, 5, 82)]) 9 1 6 G e0 α κ B [.ref (α 10 0)] M Qm :=
  WC.mk hκ (by decide +kernel) rfl (Nat.le_of_ble_eq_true rfl) (lv := [(0, .ref (α 10 0))]) rfl (fun p e s m args below meth c ls X N hT hR hS hl => by
    refine lv_aload_n X.1.1 X.1.2.1 dL_pages_0 rfl (lv_at hl 0 rfl) ?_
    have hw : wp_X9_pages M (fun E Mx => E = xISE ∧ Qm (-1) Mx) (fun r Mr => Qm r Mr) := hw
    refine sw_callI 8 (n := 0) (As := []) (rest := []) X hR hS (m_X9_pages hlt hκ hw) kw_1339 kw_1340 kw_1341 kw_38 kw_1342 ⟨rfl, by decide +kernel, by decide +kernel, by decide +kernel⟩ ⟨by decide, by decide⟩ (rc_10 X hR (okf X.2.2.1 rfl)) rfl rfl (Nat.le_of_ble_eq_true rfl) hl.1 dL_pages_1 ⟨by decide, by decide⟩ (fun E Mx ce q H locs hx hR hS hce hcv hcl => ?_) (fun r Mr H locs hq hx hR hS => ?_)
    · obtain ⟨rfl, hq⟩ := hx
      refine sw_catch (E := xISE) (name := xISE) (pre := []) (suf := []) X hT rfl (fun _ h => nomatch h) (by decide) (by decide) kw_68 kn_760 hce hcv hcl ?_
      refine lv_astore_n (lv' := [(1, .ref q), (0, .ref (α 10 0))]) X.1.1 X.1.2.1 dL_pages_5 rfl hl (by decide) rfl (fun ls hl => ?_)
      refine sa_const X.1 dL_pages_6 ?_
      exact sk_iret X hR hS (inR_c (a := -1) rfl) hq dL_pages_7 (by decide) (by decide)
    · exact sk_iret X hR hS hx hq dL_pages_4 (by decide) (by decide))
def wp_L_point (p1 : Int) (p2 : Int) (M : Mem) (Qm : Int → Mem → Prop) : Prop := (p1 = 0 → wp_X9_point p2 M (fun E Mx => E = xISE ∧ Qm (-7) Mx) (fun r Mr => Qm r Mr)) ∧ (¬ p1 = 0 → wp_X9_begins p2 M (fun E Mx => E = xISE ∧ Qm (-7) Mx) (fun r Mr => Qm r Mr))
set_option maxHeartbeats 4000000 in
set_option maxRecDepth 100000 in
theorem w_L_point {l : Launch} {G : Gx} {e0 : Nat} {α : Ax} {κ : Nat → Int} {B : Nat} {p1 : Int} {p2 : Int} (hlt : l.stackTraces = false) (hκ : kOK κ) (hp1 : inR p1) (hp2 : inR p2) {M : Mem} {Qm : Int → Mem → Prop} (hw : wp_L_point p1 p2 M Qm) : WC l yL_point (Cond.codeWith yL_point cL_point 4 (some .int) [(0, 17, 18, 82)]) 9 2 12 G e0 α κ B [.ref (α 10 0), .int (Int32.ofInt p1), .int (Int32.ofInt p2)] M Qm :=
  WC.mk hκ (by decide +kernel) rfl (Nat.le_of_ble_eq_true rfl) (lv := [(0, .ref (α 10 0)), (1, .int (Int32.ofInt p1)), (2, .int (Int32.ofInt p2))]) rfl (fun p e s m args below meth c ls X N hT hR hS hl => by
    refine lv_iload_n X.1.1 X.1.2.1 dL_point_0 rfl (lv_at hl 1 rfl) ?_
    refine sa_if_ne (tgt := 12) X.1 hp1 dL_point_1 (by decide) (fun hc => ?_) (fun hc => ?_)
    · have hw := hw.2 hc
      refine lv_aload_n X.1.1 X.1.2.1 dL_point_12 rfl (lv_at hl 0 rfl) ?_
      refine lv_iload_n X.1.1 X.1.2.1 dL_point_13 rfl (lv_at hl 2 rfl) ?_
      have hw : wp_X9_begins p2 M (fun E Mx => E = xISE ∧ Qm (-7) Mx) (fun r Mr => Qm r Mr) := hw
      refine sw_callI 8 (n := 1) (As := [.int (Int32.ofInt p2)]) (rest := []) X hR hS (m_X9_begins hlt hκ hp2 hw) kw_1304 kw_1305 kw_1306 kw_38 kw_1307 ⟨rfl, by decide +kernel, by decide +kernel, by decide +kernel⟩ ⟨by decide, by decide⟩ (rc_10 X hR (okf X.2.2.1 rfl)) rfl rfl (Nat.le_of_ble_eq_true rfl) hl.1 dL_point_14 ⟨by decide, by decide⟩ (fun E Mx ce q H locs hx hR hS hce hcv hcl => ?_) (fun r Mr H locs hq hx hR hS => ?_)
      · obtain ⟨rfl, hq⟩ := hx
        refine sw_catch (E := xISE) (name := xISE) (pre := []) (suf := []) X hT rfl (fun _ h => nomatch h) (by decide) (by decide) kw_68 kn_760 hce hcv hcl ?_
        refine lv_astore_n (lv' := [(3, .ref q), (0, .ref (α 10 0)), (1, .int (Int32.ofInt p1)), (2, .int (Int32.ofInt p2))]) X.1.1 X.1.2.1 dL_point_18 rfl hl (by decide) rfl (fun ls hl => ?_)
        refine sa_bipush X.1 dL_point_19 (by decide) ?_
        exact sk_iret X hR hS (inR_c (a := -7) rfl) hq dL_point_21 (by decide) (by decide)
      · exact sk_iret X hR hS hx hq dL_point_17 (by decide) (by decide)
    · have hw := hw.1 hc
      refine lv_aload_n X.1.1 X.1.2.1 dL_point_4 rfl (lv_at hl 0 rfl) ?_
      refine lv_iload_n X.1.1 X.1.2.1 dL_point_5 rfl (lv_at hl 2 rfl) ?_
      have hw : wp_X9_point p2 M (fun E Mx => E = xISE ∧ Qm (-7) Mx) (fun r Mr => Qm r Mr) := hw
      refine sw_callI 8 (n := 1) (As := [.int (Int32.ofInt p2)]) (rest := []) X hR hS (m_X9_point hlt hκ hp2 hw) kw_1294 kw_1295 kw_1296 kw_38 kw_1297 ⟨rfl, by decide +kernel, by decide +kernel, by decide +kernel⟩ ⟨by decide, by decide⟩ (rc_10 X hR (okf X.2.2.1 rfl)) rfl rfl (Nat.le_of_ble_eq_true rfl) hl.1 dL_point_6 ⟨by decide, by decide⟩ (fun E Mx ce q H locs hx hR hS hce hcv hcl => ?_) (fun r Mr H locs hq hx hR hS => ?_)
      · obtain ⟨rfl, hq⟩ := hx
        refine sw_catch (E := xISE) (name := xISE) (pre := []) (suf := []) X hT rfl (fun _ h => nomatch h) (by decide) (by decide) kw_68 kn_760 hce hcv hcl ?_
        refine lv_astore_n (lv' := [(3, .ref q), (0, .ref (α 10 0)), (1, .int (Int32.ofInt p1)), (2, .int (Int32.ofInt p2))]) X.1.1 X.1.2.1 dL_point_18 rfl hl (by decide) rfl (fun ls hl => ?_)
        refine sa_bipush X.1 dL_point_19 (by decide) ?_
        exact sk_iret X hR hS (inR_c (a := -7) rfl) hq dL_point_21 (by decide) (by decide)
      · refine lv_goto (tgt := 17) X.1.1 X.1.2.1 dL_point_9 (by decide) ?_
        exact sk_iret X hR hS hx hq dL_point_17 (by decide) (by decide))
def wp_L_rowed (p1 : Int) (p2 : Int) (p3 : Int) (κ : Nat → Int) (M : Mem) (Qm : Int → (Nat → Int) → Mem → Prop) : Prop := wp_X9_row κ p1 p2 p3 M (fun E Mx => E = xISE ∧ Qm (-7) κ Mx) (fun r κ1 Mr => Qm r κ1 Mr)
set_option maxHeartbeats 4000000 in
set_option maxRecDepth 100000 in
theorem w_L_rowed {l : Launch} {G : Gx} {e0 : Nat} {α : Ax} {κ : Nat → Int} {B : Nat} {p1 : Int} {p2 : Int} {p3 : Int} (hlt : l.stackTraces = false) (he0 : e0 = G.2.2.2.2.2) (hκ : kOK κ) (hp1 : inR p1) (hp2 : inR p2) (hp3 : inR p3) {M : Mem} {Qm : Int → (Nat → Int) → Mem → Prop} (hw : wp_L_rowed p1 p2 p3 κ M Qm) : WRa l yL_rowed (Cond.codeWith yL_rowed cL_rowed 5 (some .int) [(0, 7, 8, 82)]) 9 5 2017 G e0 α κ B [.ref (α 10 0), .int (Int32.ofInt p1), .int (Int32.ofInt p2), .int (Int32.ofInt p3)] M Qm :=
  WRa.mk hκ (by decide +kernel) rfl (Nat.le_of_ble_eq_true rfl) (lv := [(0, .ref (α 10 0)), (1, .int (Int32.ofInt p1)), (2, .int (Int32.ofInt p2)), (3, .int (Int32.ofInt p3))]) rfl (fun p e s m args below meth c ls X N hT hR hS hl => by
    refine lv_aload_n X.1.1 X.1.2.1 dL_rowed_0 rfl (lv_at hl 0 rfl) ?_
    refine lv_iload_n X.1.1 X.1.2.1 dL_rowed_1 rfl (lv_at hl 1 rfl) ?_
    refine lv_iload_n X.1.1 X.1.2.1 dL_rowed_2 rfl (lv_at hl 2 rfl) ?_
    refine lv_iload_n X.1.1 X.1.2.1 dL_rowed_3 rfl (lv_at hl 3 rfl) ?_
    have hw : wp_X9_row κ p1 p2 p3 M (fun E Mx => E = xISE ∧ Qm (-7) κ Mx) (fun r κ1 Mr => Qm r κ1 Mr) := hw
    refine sw_callD 8 (n := 3) (As := [.int (Int32.ofInt p1), .int (Int32.ofInt p2), .int (Int32.ofInt p3)]) (rest := []) X hR hS (m_X9_row hlt he0 hκ hp1 hp2 hp3 hw) kw_863 kw_864 kw_865 kw_38 kw_866 ⟨rfl, by decide +kernel, by decide +kernel, by decide +kernel⟩ ⟨by decide, by decide⟩ (rc_10 X hR (okf X.2.2.1 rfl)) rfl rfl (Nat.le_of_ble_eq_true rfl) hl.1 dL_rowed_4 ⟨by decide, by decide⟩ (fun E Mx ce q H locs hx hR hS hce hcv hcl => ?_) (fun r κ1 α1 Mr H locs hq hx hA hk hR hS => ?_)
    · obtain ⟨rfl, hq⟩ := hx
      refine sw_catch (E := xISE) (name := xISE) (pre := []) (suf := []) X hT rfl (fun _ h => nomatch h) (by decide) (by decide) kw_68 kn_760 hce hcv hcl ?_
      refine lv_astore (lv' := [(4, .ref q), (0, .ref (α 10 0)), (1, .int (Int32.ofInt p1)), (2, .int (Int32.ofInt p2)), (3, .int (Int32.ofInt p3))]) X.1.1 X.1.2.1 dL_rowed_8 hl (by decide) rfl (fun ls hl => ?_)
      refine sa_bipush X.1 dL_rowed_10 (by decide) ?_
      exact sw_iret X hR hS (inR_c (a := -7) rfl) hq Ak.rf dL_rowed_12 (by decide) (by decide)
    · exact sw_iret (X.re hk) hR hS hx hq hA dL_rowed_7 (by decide) (by decide))
def wp_L_celled (p1 : Int) (p2 : Int) (p3 : Int) (p4 : Int) (κ : Nat → Int) (M : Mem) (Qm : Int → (Nat → Int) → Mem → Prop) : Prop := wp_X9_cell κ p1 p2 p3 p4 M (fun E Mx => E = xISE ∧ Qm (-7) κ Mx) (fun r κ1 Mr => Qm r κ1 Mr)
set_option maxHeartbeats 4000000 in
set_option maxRecDepth 100000 in
theorem w_L_celled {l : Launch} {G : Gx} {e0 : Nat} {α : Ax} {κ : Nat → Int} {B : Nat} {p1 : Int} {p2 : Int} {p3 : Int} {p4 : Int} (hlt : l.stackTraces = false) (he0 : e0 = G.2.2.2.2.2) (hκ : kOK κ) (hp1 : inR p1) (hp2 : inR p2) (hp3 : inR p3) (hp4 : inR p4) {M : Mem} {Qm : Int → (Nat → Int) → Mem → Prop} (hw : wp_L_celled p1 p2 p3 p4 κ M Qm) : WRa l yL_celled (Cond.codeWith yL_celled cL_celled 6 (some .int) [(0, 9, 10, 82)]) 9 7 1053 G e0 α κ B [.ref (α 10 0), .int (Int32.ofInt p1), .int (Int32.ofInt p2), .int (Int32.ofInt p3), .int (Int32.ofInt p4)] M Qm :=
  WRa.mk hκ (by decide +kernel) rfl (Nat.le_of_ble_eq_true rfl) (lv := [(0, .ref (α 10 0)), (1, .int (Int32.ofInt p1)), (2, .int (Int32.ofInt p2)), (3, .int (Int32.ofInt p3)), (4, .int (Int32.ofInt p4))]) rfl (fun p e s m args below meth c ls X N hT hR hS hl => by
    refine lv_aload_n X.1.1 X.1.2.1 dL_celled_0 rfl (lv_at hl 0 rfl) ?_
    refine lv_iload_n X.1.1 X.1.2.1 dL_celled_1 rfl (lv_at hl 1 rfl) ?_
    refine lv_iload_n X.1.1 X.1.2.1 dL_celled_2 rfl (lv_at hl 2 rfl) ?_
    refine lv_iload_n X.1.1 X.1.2.1 dL_celled_3 rfl (lv_at hl 3 rfl) ?_
    refine lv_iload X.1.1 X.1.2.1 dL_celled_4 (lv_at hl 4 rfl) ?_
    have hw : wp_X9_cell κ p1 p2 p3 p4 M (fun E Mx => E = xISE ∧ Qm (-7) κ Mx) (fun r κ1 Mr => Qm r κ1 Mr) := hw
    refine sw_callD 8 (n := 4) (As := [.int (Int32.ofInt p1), .int (Int32.ofInt p2), .int (Int32.ofInt p3), .int (Int32.ofInt p4)]) (rest := []) X hR hS (m_X9_cell hlt he0 hκ hp1 hp2 hp3 hp4 hw) kw_934 kw_935 kw_936 kw_38 kw_937 ⟨rfl, by decide +kernel, by decide +kernel, by decide +kernel⟩ ⟨by decide, by decide⟩ (rc_10 X hR (okf X.2.2.1 rfl)) rfl rfl (Nat.le_of_ble_eq_true rfl) hl.1 dL_celled_6 ⟨by decide, by decide⟩ (fun E Mx ce q H locs hx hR hS hce hcv hcl => ?_) (fun r κ1 α1 Mr H locs hq hx hA hk hR hS => ?_)
    · obtain ⟨rfl, hq⟩ := hx
      refine sw_catch (E := xISE) (name := xISE) (pre := []) (suf := []) X hT rfl (fun _ h => nomatch h) (by decide) (by decide) kw_68 kn_760 hce hcv hcl ?_
      refine lv_astore (lv' := [(5, .ref q), (0, .ref (α 10 0)), (1, .int (Int32.ofInt p1)), (2, .int (Int32.ofInt p2)), (3, .int (Int32.ofInt p3)), (4, .int (Int32.ofInt p4))]) X.1.1 X.1.2.1 dL_celled_10 hl (by decide) rfl (fun ls hl => ?_)
      refine sa_bipush X.1 dL_celled_12 (by decide) ?_
      exact sw_iret X hR hS (inR_c (a := -7) rfl) hq Ak.rf dL_celled_14 (by decide) (by decide)
    · exact sw_iret (X.re hk) hR hS hx hq hA dL_celled_9 (by decide) (by decide))
def wp_L_worded (p1 : Int) (p2 : Int) (p3 : Int) (M : Mem) (Qm : Int → Mem → Prop) : Prop := wp_X9_word p1 p2 p3 M (fun E Mx => E = xISE ∧ Qm (-7) Mx) (fun r Mr => Qm r Mr)
set_option maxHeartbeats 4000000 in
set_option maxRecDepth 100000 in
theorem w_L_worded {l : Launch} {G : Gx} {e0 : Nat} {α : Ax} {κ : Nat → Int} {B : Nat} {p1 : Int} {p2 : Int} {p3 : Int} (hlt : l.stackTraces = false) (hκ : kOK κ) (hp1 : inR p1) (hp2 : inR p2) (hp3 : inR p3) {M : Mem} {Qm : Int → Mem → Prop} (hw : wp_L_worded p1 p2 p3 M Qm) : WC l yL_worded (Cond.codeWith yL_worded cL_worded 5 (some .int) [(0, 7, 8, 82)]) 8 2 12 G e0 α κ B [.ref (α 10 0), .int (Int32.ofInt p1), .int (Int32.ofInt p2), .int (Int32.ofInt p3)] M Qm :=
  WC.mk hκ (by decide +kernel) rfl (Nat.le_of_ble_eq_true rfl) (lv := [(0, .ref (α 10 0)), (1, .int (Int32.ofInt p1)), (2, .int (Int32.ofInt p2)), (3, .int (Int32.ofInt p3))]) rfl (fun p e s m args below meth c ls X N hT hR hS hl => by
    refine lv_aload_n X.1.1 X.1.2.1 dL_worded_0 rfl (lv_at hl 0 rfl) ?_
    refine lv_iload_n X.1.1 X.1.2.1 dL_worded_1 rfl (lv_at hl 1 rfl) ?_
    refine lv_iload_n X.1.1 X.1.2.1 dL_worded_2 rfl (lv_at hl 2 rfl) ?_
    refine lv_iload_n X.1.1 X.1.2.1 dL_worded_3 rfl (lv_at hl 3 rfl) ?_
    have hw : wp_X9_word p1 p2 p3 M (fun E Mx => E = xISE ∧ Qm (-7) Mx) (fun r Mr => Qm r Mr) := hw
    refine sw_callI 7 (n := 3) (As := [.int (Int32.ofInt p1), .int (Int32.ofInt p2), .int (Int32.ofInt p3)]) (rest := []) X hR hS (m_X9_word hlt hκ hp1 hp2 hp3 hw) kw_1073 kw_1074 kw_1075 kw_38 kw_1076 ⟨rfl, by decide +kernel, by decide +kernel, by decide +kernel⟩ ⟨by decide, by decide⟩ (rc_10 X hR (okf X.2.2.1 rfl)) rfl rfl (Nat.le_of_ble_eq_true rfl) hl.1 dL_worded_4 ⟨by decide, by decide⟩ (fun E Mx ce q H locs hx hR hS hce hcv hcl => ?_) (fun r Mr H locs hq hx hR hS => ?_)
    · obtain ⟨rfl, hq⟩ := hx
      refine sw_catch (E := xISE) (name := xISE) (pre := []) (suf := []) X hT rfl (fun _ h => nomatch h) (by decide) (by decide) kw_68 kn_760 hce hcv hcl ?_
      refine lv_astore (lv' := [(4, .ref q), (0, .ref (α 10 0)), (1, .int (Int32.ofInt p1)), (2, .int (Int32.ofInt p2)), (3, .int (Int32.ofInt p3))]) X.1.1 X.1.2.1 dL_worded_8 hl (by decide) rfl (fun ls hl => ?_)
      refine sa_bipush X.1 dL_worded_10 (by decide) ?_
      exact sk_iret X hR hS (inR_c (a := -7) rfl) hq dL_worded_12 (by decide) (by decide)
    · exact sk_iret X hR hS hx hq dL_worded_7 (by decide) (by decide))
def wp_L_figured (p1 : Int) (p2 : Int) (p3 : Int) (M : Mem) (Qm : Int → Mem → Prop) : Prop := wp_X9_figure p1 p2 p3 M (fun E Mx => E = xISE ∧ Qm (-7) Mx) (fun Mr => Qm 0 Mr)
set_option maxHeartbeats 4000000 in
set_option maxRecDepth 100000 in
theorem w_L_figured {l : Launch} {G : Gx} {e0 : Nat} {α : Ax} {κ : Nat → Int} {B : Nat} {p1 : Int} {p2 : Int} {p3 : Int} (hlt : l.stackTraces = false) (hκ : kOK κ) (hp1 : inR p1) (hp2 : inR p2) (hp3 : inR p3) {M : Mem} {Qm : Int → Mem → Prop} (hw : wp_L_figured p1 p2 p3 M Qm) : WC l yL_figured (Cond.codeWith yL_figured cL_figured 5 (some .int) [(0, 8, 9, 82)]) 8 2 12 G e0 α κ B [.ref (α 10 0), .int (Int32.ofInt p1), .int (Int32.ofInt p2), .int (Int32.ofInt p3)] M Qm :=
  WC.mk hκ (by decide +kernel) rfl (Nat.le_of_ble_eq_true rfl) (lv := [(0, .ref (α 10 0)), (1, .int (Int32.ofInt p1)), (2, .int (Int32.ofInt p2)), (3, .int (Int32.ofInt p3))]) rfl (fun p e s m args below meth c ls X N hT hR hS hl => by
    refine lv_aload_n X.1.1 X.1.2.1 dL_figured_0 rfl (lv_at hl 0 rfl) ?_
    refine lv_iload_n X.1.1 X.1.2.1 dL_figured_1 rfl (lv_at hl 1 rfl) ?_
    refine lv_iload_n X.1.1 X.1.2.1 dL_figured_2 rfl (lv_at hl 2 rfl) ?_
    refine lv_iload_n X.1.1 X.1.2.1 dL_figured_3 rfl (lv_at hl 3 rfl) ?_
    have hw : wp_X9_figure p1 p2 p3 M (fun E Mx => E = xISE ∧ Qm (-7) Mx) (fun Mr => Qm 0 Mr) := hw
    refine sw_callV 7 (n := 3) (As := [.int (Int32.ofInt p1), .int (Int32.ofInt p2), .int (Int32.ofInt p3)]) (rest := []) X hR hS (m_X9_figure hlt hκ hp1 hp2 hp3 hw) kw_1095 kw_1096 kw_1097 kw_38 kw_1098 ⟨rfl, by decide +kernel, by decide +kernel, by decide +kernel⟩ ⟨by decide, by decide⟩ (rc_10 X hR (okf X.2.2.1 rfl)) rfl rfl (Nat.le_of_ble_eq_true rfl) hl.1 dL_figured_4 ⟨by decide, by decide⟩ (fun E Mx ce q H locs hx hR hS hce hcv hcl => ?_) (fun Mr H locs hq hR hS => ?_)
    · obtain ⟨rfl, hq⟩ := hx
      refine sw_catch (E := xISE) (name := xISE) (pre := []) (suf := []) X hT rfl (fun _ h => nomatch h) (by decide) (by decide) kw_68 kn_760 hce hcv hcl ?_
      refine lv_astore (lv' := [(4, .ref q), (0, .ref (α 10 0)), (1, .int (Int32.ofInt p1)), (2, .int (Int32.ofInt p2)), (3, .int (Int32.ofInt p3))]) X.1.1 X.1.2.1 dL_figured_9 hl (by decide) rfl (fun ls hl => ?_)
      refine sa_bipush X.1 dL_figured_11 (by decide) ?_
      exact sk_iret X hR hS (inR_c (a := -7) rfl) hq dL_figured_13 (by decide) (by decide)
    · refine sa_const X.1 dL_figured_7 ?_
      exact sk_iret X hR hS (inR_c (a := 0) rfl) hq dL_figured_8 (by decide) (by decide))
def wp_L_noted (p1 : Int) (p2 : Int) (M : Mem) (Qm : Int → Mem → Prop) : Prop := wp_X9_note p1 p2 M (fun E Mx => E = xISE ∧ Qm (-7) Mx) (fun r Mr => Qm r Mr)
set_option maxHeartbeats 4000000 in
set_option maxRecDepth 100000 in
theorem w_L_noted {l : Launch} {G : Gx} {e0 : Nat} {α : Ax} {κ : Nat → Int} {B : Nat} {p1 : Int} {p2 : Int} (hlt : l.stackTraces = false) (hκ : kOK κ) (hp1 : inR p1) (hp2 : inR p2) {M : Mem} {Qm : Int → Mem → Prop} (hw : wp_L_noted p1 p2 M Qm) : WC l yL_noted (Cond.codeWith yL_noted cL_noted 4 (some .int) [(0, 6, 7, 82)]) 8 2 12 G e0 α κ B [.ref (α 10 0), .int (Int32.ofInt p1), .int (Int32.ofInt p2)] M Qm :=
  WC.mk hκ (by decide +kernel) rfl (Nat.le_of_ble_eq_true rfl) (lv := [(0, .ref (α 10 0)), (1, .int (Int32.ofInt p1)), (2, .int (Int32.ofInt p2))]) rfl (fun p e s m args below meth c ls X N hT hR hS hl => by
    refine lv_aload_n X.1.1 X.1.2.1 dL_noted_0 rfl (lv_at hl 0 rfl) ?_
    refine lv_iload_n X.1.1 X.1.2.1 dL_noted_1 rfl (lv_at hl 1 rfl) ?_
    refine lv_iload_n X.1.1 X.1.2.1 dL_noted_2 rfl (lv_at hl 2 rfl) ?_
    have hw : wp_X9_note p1 p2 M (fun E Mx => E = xISE ∧ Qm (-7) Mx) (fun r Mr => Qm r Mr) := hw
    refine sw_callI 7 (n := 2) (As := [.int (Int32.ofInt p1), .int (Int32.ofInt p2)]) (rest := []) X hR hS (m_X9_note hlt hκ hp1 hp2 hw) kw_1113 kw_1114 kw_1115 kw_38 kw_1116 ⟨rfl, by decide +kernel, by decide +kernel, by decide +kernel⟩ ⟨by decide, by decide⟩ (rc_10 X hR (okf X.2.2.1 rfl)) rfl rfl (Nat.le_of_ble_eq_true rfl) hl.1 dL_noted_3 ⟨by decide, by decide⟩ (fun E Mx ce q H locs hx hR hS hce hcv hcl => ?_) (fun r Mr H locs hq hx hR hS => ?_)
    · obtain ⟨rfl, hq⟩ := hx
      refine sw_catch (E := xISE) (name := xISE) (pre := []) (suf := []) X hT rfl (fun _ h => nomatch h) (by decide) (by decide) kw_68 kn_760 hce hcv hcl ?_
      refine lv_astore_n (lv' := [(3, .ref q), (0, .ref (α 10 0)), (1, .int (Int32.ofInt p1)), (2, .int (Int32.ofInt p2))]) X.1.1 X.1.2.1 dL_noted_7 rfl hl (by decide) rfl (fun ls hl => ?_)
      refine sa_bipush X.1 dL_noted_8 (by decide) ?_
      exact sk_iret X hR hS (inR_c (a := -7) rfl) hq dL_noted_10 (by decide) (by decide)
    · exact sk_iret X hR hS hx hq dL_noted_6 (by decide) (by decide))
def wp_L_hid (p1 : Int) (M : Mem) (Qm : Int → Mem → Prop) : Prop := wp_X9_hide p1 M (fun E Mx => E = xISE ∧ Qm (-7) Mx) (fun r Mr => (r = 0 → Qm 0 Mr) ∧ (¬ r = 0 → Qm 1 Mr))
set_option maxHeartbeats 4000000 in
set_option maxRecDepth 100000 in
theorem w_L_hid {l : Launch} {G : Gx} {e0 : Nat} {α : Ax} {κ : Nat → Int} {B : Nat} {p1 : Int} (hlt : l.stackTraces = false) (hκ : kOK κ) (hp1 : inR p1) {M : Mem} {Qm : Int → Mem → Prop} (hw : wp_L_hid p1 M Qm) : WC l yL_hid (Cond.codeWith yL_hid cL_hid 3 (some .int) [(0, 13, 14, 82)]) 8 2 12 G e0 α κ B [.ref (α 10 0), .int (Int32.ofInt p1)] M Qm :=
  WC.mk hκ (by decide +kernel) rfl (Nat.le_of_ble_eq_true rfl) (lv := [(0, .ref (α 10 0)), (1, .int (Int32.ofInt p1))]) rfl (fun p e s m args below meth c ls X N hT hR hS hl => by
    refine lv_aload_n X.1.1 X.1.2.1 dL_hid_0 rfl (lv_at hl 0 rfl) ?_
    refine lv_iload_n X.1.1 X.1.2.1 dL_hid_1 rfl (lv_at hl 1 rfl) ?_
    have hw : wp_X9_hide p1 M (fun E Mx => E = xISE ∧ Qm (-7) Mx) (fun r Mr => (r = 0 → Qm 0 Mr) ∧ (¬ r = 0 → Qm 1 Mr)) := hw
    refine sw_callI 7 (n := 1) (As := [.int (Int32.ofInt p1)]) (rest := []) X hR hS (m_X9_hide hlt hκ hp1 hw) kw_1185 kw_1186 kw_1187 kw_38 kw_1188 ⟨rfl, by decide +kernel, by decide +kernel, by decide +kernel⟩ ⟨by decide, by decide⟩ (rc_10 X hR (okf X.2.2.1 rfl)) rfl rfl (Nat.le_of_ble_eq_true rfl) hl.1 dL_hid_2 ⟨by decide, by decide⟩ (fun E Mx ce q H locs hx hR hS hce hcv hcl => ?_) (fun r Mr H locs hq hx hR hS => ?_)
    · obtain ⟨rfl, hq⟩ := hx
      refine sw_catch (E := xISE) (name := xISE) (pre := []) (suf := []) X hT rfl (fun _ h => nomatch h) (by decide) (by decide) kw_68 kn_760 hce hcv hcl ?_
      refine lv_astore_n (lv' := [(2, .ref q), (0, .ref (α 10 0)), (1, .int (Int32.ofInt p1))]) X.1.1 X.1.2.1 dL_hid_14 rfl hl (by decide) rfl (fun ls hl => ?_)
      refine sa_bipush X.1 dL_hid_15 (by decide) ?_
      exact sk_iret X hR hS (inR_c (a := -7) rfl) hq dL_hid_17 (by decide) (by decide)
    · refine sa_if_eq (tgt := 12) X.1 hx dL_hid_5 (by decide) (fun hc => ?_) (fun hc => ?_)
      · refine sa_const X.1 dL_hid_12 ?_
        exact sk_iret X hR hS (inR_c (a := 0) rfl) (hq.1 hc) dL_hid_13 (by decide) (by decide)
      · refine sa_const X.1 dL_hid_8 ?_
        refine lv_goto (tgt := 13) X.1.1 X.1.2.1 dL_hid_9 (by decide) ?_
        exact sk_iret X hR hS (inR_c (a := 1) rfl) (hq.2 hc) dL_hid_13 (by decide) (by decide))
def wp_L_sorted (p1 : Int) (p2 : Int) (M : Mem) (Qm : Int → Mem → Prop) : Prop := wp_X9_sort p1 p2 M (fun E Mx => E = xISE ∧ Qm (-7) Mx) (fun r Mr => Qm r Mr)
set_option maxHeartbeats 4000000 in
set_option maxRecDepth 100000 in
theorem w_L_sorted {l : Launch} {G : Gx} {e0 : Nat} {α : Ax} {κ : Nat → Int} {B : Nat} {p1 : Int} {p2 : Int} (hlt : l.stackTraces = false) (hκ : kOK κ) (hp1 : inR p1) (hp2 : inR p2) {M : Mem} {Qm : Int → Mem → Prop} (hw : wp_L_sorted p1 p2 M Qm) : WC l yL_sorted (Cond.codeWith yL_sorted cL_sorted 4 (some .int) [(0, 6, 7, 82)]) 8 2 12 G e0 α κ B [.ref (α 10 0), .int (Int32.ofInt p1), .int (Int32.ofInt p2)] M Qm :=
  WC.mk hκ (by decide +kernel) rfl (Nat.le_of_ble_eq_true rfl) (lv := [(0, .ref (α 10 0)), (1, .int (Int32.ofInt p1)), (2, .int (Int32.ofInt p2))]) rfl (fun p e s m args below meth c ls X N hT hR hS hl => by
    refine lv_aload_n X.1.1 X.1.2.1 dL_sorted_0 rfl (lv_at hl 0 rfl) ?_
    refine lv_iload_n X.1.1 X.1.2.1 dL_sorted_1 rfl (lv_at hl 1 rfl) ?_
    refine lv_iload_n X.1.1 X.1.2.1 dL_sorted_2 rfl (lv_at hl 2 rfl) ?_
    have hw : wp_X9_sort p1 p2 M (fun E Mx => E = xISE ∧ Qm (-7) Mx) (fun r Mr => Qm r Mr) := hw
    refine sw_callI 7 (n := 2) (As := [.int (Int32.ofInt p1), .int (Int32.ofInt p2)]) (rest := []) X hR hS (m_X9_sort hlt hκ hp1 hp2 hw) kw_1132 kw_1133 kw_1134 kw_38 kw_1135 ⟨rfl, by decide +kernel, by decide +kernel, by decide +kernel⟩ ⟨by decide, by decide⟩ (rc_10 X hR (okf X.2.2.1 rfl)) rfl rfl (Nat.le_of_ble_eq_true rfl) hl.1 dL_sorted_3 ⟨by decide, by decide⟩ (fun E Mx ce q H locs hx hR hS hce hcv hcl => ?_) (fun r Mr H locs hq hx hR hS => ?_)
    · obtain ⟨rfl, hq⟩ := hx
      refine sw_catch (E := xISE) (name := xISE) (pre := []) (suf := []) X hT rfl (fun _ h => nomatch h) (by decide) (by decide) kw_68 kn_760 hce hcv hcl ?_
      refine lv_astore_n (lv' := [(3, .ref q), (0, .ref (α 10 0)), (1, .int (Int32.ofInt p1)), (2, .int (Int32.ofInt p2))]) X.1.1 X.1.2.1 dL_sorted_7 rfl hl (by decide) rfl (fun ls hl => ?_)
      refine sa_bipush X.1 dL_sorted_8 (by decide) ?_
      exact sk_iret X hR hS (inR_c (a := -7) rfl) hq dL_sorted_10 (by decide) (by decide)
    · exact sk_iret X hR hS hx hq dL_sorted_6 (by decide) (by decide))
