def wp_law_25 (p1 : Int) (p2 : Int) (p3 : Int) (κ : Nat → Int) (M : Mem) (K : (Nat → Int) → Mem → Prop) : Prop := wp_L_edge p1 p2 p3 κ M (fun rk κ1 M1 => wp_X10_edge p1 p2 p3 M1 (fun r1 N1 => wp_X10_thrown N1 (fun r2 N2 => (r2 = rk) ∧ (rk = 0 → N2 103 0 0 = r1) ∧ K κ1 N2)))
def wp_law_26 (κ : Nat → Int) (M : Mem) (K : (Nat → Int) → Mem → Prop) : Prop := wp_L_pages κ M (fun rk κ1 M1 => wp_X10_pages M1 (fun r1 N1 => wp_X10_thrown N1 (fun r2 N2 => (r2 = rk) ∧ (rk = 0 → N2 103 0 0 = r1) ∧ K κ1 N2)))
def wp_law_27 (p1 : Int) (κ : Nat → Int) (M : Mem) (K : (Nat → Int) → Mem → Prop) : Prop := wp_L_pageOf p1 κ M (fun rk κ1 M1 => wp_X10_pageOf p1 M1 (fun r1 N1 => wp_X10_thrown N1 (fun r2 N2 => (r2 = rk) ∧ (rk = 0 → N2 103 0 0 = r1) ∧ K κ1 N2)))
def wp_law_28 (p1 : Int) (p2 : Int) (κ : Nat → Int) (M : Mem) (K : (Nat → Int) → Mem → Prop) : Prop := wp_L_linesOn p1 p2 κ M (fun rk κ1 M1 => wp_X10_linesOn p1 p2 M1 (fun r1 N1 => wp_X10_thrown N1 (fun r2 N2 => (r2 = rk) ∧ (rk = 0 → N2 103 0 0 = r1) ∧ K κ1 N2)))
def wp_law_29 (p1 : Int) (p2 : Int) (κ : Nat → Int) (M : Mem) (K : (Nat → Int) → Mem → Prop) : Prop := wp_L_shown p1 p2 κ M (fun rk κ1 M1 => wp_X10_shown p1 p2 M1 (fun r1 N1 => wp_X10_thrown N1 (fun r2 N2 => (r2 = rk) ∧ (rk = 0 → N2 103 0 0 = r1) ∧ K κ1 N2)))
def wp_law_30 (p1 : Int) (κ : Nat → Int) (M : Mem) (K : (Nat → Int) → Mem → Prop) : Prop := wp_L_used p1 κ M (fun rk κ1 M1 => wp_X10_used p1 M1 (fun r1 N1 => wp_X10_thrown N1 (fun r2 N2 => (r2 = rk) ∧ (rk = 0 → N2 103 0 0 = r1) ∧ K κ1 N2)))
def wp_law_31 (p1 : Int) (κ : Nat → Int) (M : Mem) (K : (Nat → Int) → Mem → Prop) : Prop := wp_L_notesOn p1 κ M (fun rk κ1 M1 => wp_X10_notesOn p1 M1 (fun r1 N1 => wp_X10_thrown N1 (fun r2 N2 => (r2 = rk) ∧ (rk = 0 → N2 103 0 0 = r1) ∧ K κ1 N2)))
def wp_law_32 (κ : Nat → Int) (M : Mem) (K : (Nat → Int) → Mem → Prop) : Prop := wp_X9_look M (fun r1 N1 => wp_X10_look N1 (fun r2 N2 => (r1 = r2) ∧ K κ N2))
def wp_law_33 (p1 : Int) (κ : Nat → Int) (M : Mem) (K : (Nat → Int) → Mem → Prop) : Prop := wp_L_total p1 κ M (fun rk κ1 M1 => wp_X10_total p1 M1 (fun r1 N1 => wp_X10_thrown N1 (fun r2 N2 => (r2 = rk) ∧ (rk = 0 → N2 103 0 0 = r1) ∧ K κ1 N2)))
def wp_law_34 (p1 : Int) (p2 : Int) (κ : Nat → Int) (M : Mem) (K : (Nat → Int) → Mem → Prop) : Prop := wp_L_subtotal p1 p2 κ M (fun rk κ1 M1 => wp_X10_subtotal p1 p2 M1 (fun r1 N1 => wp_X10_thrown N1 (fun r2 N2 => (r2 = rk) ∧ (rk = 0 → N2 103 0 0 = r1) ∧ K κ1 N2)))
def wp_law_35 (p1 : Int) (p2 : Int) (κ : Nat → Int) (M : Mem) (K : (Nat → Int) → Mem → Prop) : Prop := wp_L_carried p1 p2 κ M (fun rk κ1 M1 => wp_X10_carried p1 p2 M1 (fun r1 N1 => wp_X10_thrown N1 (fun r2 N2 => (r2 = rk) ∧ (rk = 0 → N2 103 0 0 = r1) ∧ K κ1 N2)))
def wp_law_36 (p1 : Int) (p2 : Int) (κ : Nat → Int) (M : Mem) (K : (Nat → Int) → Mem → Prop) : Prop := wp_L_carriedByCells p1 p2 κ M (fun rk κ1 M1 => wp_X10_carriedByCells p1 p2 M1 (fun r1 N1 => wp_X10_thrown N1 (fun r2 N2 => (r2 = rk) ∧ (rk = 0 → N2 103 0 0 = r1) ∧ K κ1 N2)))
section LC
variable {p : Program} {l : Launch} {e : Env} {R : Room} {s : State} {m : MethodId} {args : Array Value} {below : List Frame} {meth : Method} {c : Code} {H : Heap} {locs : List Loc} {cells slots : Nat} {Q : State → Prop}
variable {ls : Array Slot} {G : Gx} {e0 : Nat} {α : Ax} {κ : Nat → Int} {B : Nat} {M : Mem} {b L : Nat} {xs : Nat → Int32}
set_option maxHeartbeats 4000000 in
set_option maxRecDepth 100000 in
theorem law_c25 (X : CX p m c cL_law 7 s args "TablePagesLaw" G B κ meth ret) (N : NcA s) (V : LV s B b L xs) (hlt : l.stackTraces = false) (he0 : e0 = G.2.2.2.2.2) {i : Int} (hi0 : 0 ≤ i) (hi5 : i + 5 ≤ (L : Int)) {K : (Nat → Int) → Mem → Prop} (hw : wp_law_25 (sx xs (i + 1)) (sx xs (i + 2)) (sx xs (i + 3)) κ M K) (hR : Rp G e0 α κ B M H) (hS : va_S (fun q => B ≤ q) s.heap H locs) (hc1 : cells + 8 ≤ R.cells) (hc2 : slots + 2100 ≤ R.slots) (hRr : RmOK R 12) (hl : lv_has ls 7 [(0, .ref b), (1, .ref (α 10 0)), (2, .ref (α 11 0)), (3, .ref (α 103 0)), (4, .int (Int32.ofInt i))])
    (kk : LK p l e R s m args below meth c G e0 B b i K (cells + 8) (slots + 2100) Q) : W p l e R s m args below meth c H locs cells slots Q (F0 m 1669 ls []) := by
  have hw : wp_L_edge (sx xs (i + 1)) (sx xs (i + 2)) (sx xs (i + 3)) κ M (fun rk κ1 M1 => wp_X10_edge (sx xs (i + 1)) (sx xs (i + 2)) (sx xs (i + 3)) M1 (fun r1 N1 => wp_X10_thrown N1 (fun r2 N2 => (r2 = rk) ∧ (rk = 0 → N2 103 0 0 = r1) ∧ K κ1 N2))) := hw
  refine lv_aload_n X.1.1 X.1.2.1 dL_law_1669 rfl (lv_at hl 1 rfl) ?_
  refine la_arg 0 4 X V hS hl rfl rfl ⟨by omega, by omega⟩ dL_law_1670 dL_law_1671 dL_law_1673 dL_law_1674 dL_law_1675 ?_
  refine la_arg 0 4 X V hS hl rfl rfl ⟨by omega, by omega⟩ dL_law_1676 dL_law_1677 dL_law_1679 dL_law_1680 dL_law_1681 ?_
  refine la_arg 0 4 X V hS hl rfl rfl ⟨by omega, by omega⟩ dL_law_1682 dL_law_1683 dL_law_1685 dL_law_1686 dL_law_1687 ?_
  refine lv_aload_n X.1.1 X.1.2.1 dL_law_1688 rfl (lv_at hl 3 rfl) ?_
  refine sl_call 8 (n := 5) (As := [.ref (α 10 0), .int (Int32.ofInt (sx xs (i + 1))), .int (Int32.ofInt (sx xs (i + 2))), .int (Int32.ofInt (sx xs (i + 3))), .ref (α 103 0)]) (rest := []) X N hR hS (w_L_edge hlt he0 X.2.2.1 (sx_R _ _) (sx_R _ _) (sx_R _ _) hw) kw_1389 kw_1390 kw_93 kw_1391 ⟨by decide +kernel, by decide +kernel, by decide +kernel⟩ (rm_law hRr (by decide) (by decide)) rfl rfl (Nat.le_of_ble_eq_true rfl) hl.1 dL_law_1689 ⟨by omega, by omega⟩ (fun rk κ1 α1 M1 H locs hw hrk hA hk hR hS => ?_)
  have X := X.re hk
  rw [← hA 10 (Or.inl rfl), ← hA 11 (Or.inr (Or.inl rfl)), ← hA 103 (Or.inr (Or.inr rfl))] at hl
  refine lv_istore (lv' := [(5, .int (Int32.ofInt rk)), (0, .ref b), (1, .ref (α1 10 0)), (2, .ref (α1 11 0)), (3, .ref (α1 103 0)), (4, .int (Int32.ofInt i))]) X.1.1 X.1.2.1 dL_law_1692 hl (by decide) rfl (fun ls hl => ?_)
  refine lv_aload_n X.1.1 X.1.2.1 dL_law_1694 rfl (lv_at hl 3 rfl) ?_
  refine la_arg 1 5 X V hS hl rfl rfl ⟨by omega, by omega⟩ dL_law_1695 dL_law_1696 dL_law_1698 dL_law_1699 dL_law_1700 ?_
  refine la_arg 1 5 X V hS hl rfl rfl ⟨by omega, by omega⟩ dL_law_1701 dL_law_1702 dL_law_1704 dL_law_1705 dL_law_1706 ?_
  refine la_arg 1 5 X V hS hl rfl rfl ⟨by omega, by omega⟩ dL_law_1707 dL_law_1708 dL_law_1710 dL_law_1711 dL_law_1712 ?_
  refine cs_X10_edge X (sx_R _ _) (sx_R _ _) (sx_R _ _) (kc := 12) hRr ⟨by omega, by omega⟩ (by decide) hR hS kw_1950 hl.1 dL_law_1713 (Nat.le_of_ble_eq_true rfl) hw (fun r1 N1 H locs hw hr1 hR hS => ?_)
  refine lv_istore (lv' := [(6, .int (Int32.ofInt r1)), (5, .int (Int32.ofInt rk)), (0, .ref b), (1, .ref (α1 10 0)), (2, .ref (α1 11 0)), (3, .ref (α1 103 0)), (4, .int (Int32.ofInt i))]) X.1.1 X.1.2.1 dL_law_1716 hl (by decide) rfl (fun ls hl => ?_)
  refine lv_aload_n X.1.1 X.1.2.1 dL_law_1718 rfl (lv_at hl 4 rfl) ?_
  refine cs_X10_thrown X  (kc := 12) hRr ⟨by omega, by omega⟩ (by decide) hR hS kw_1710 hl.1 dL_law_1719 (Nat.le_of_ble_eq_true rfl) hw (fun r2 N2 H locs hw hr2 hR hS => ?_)
  refine lv_iload X.1.1 X.1.2.1 dL_law_1722 (lv_at hl 1 rfl) ?_
  obtain ⟨hc, hw⟩ := hw
  refine sa_icmp_eq (tgt := 1729) X.1 hr2 hrk dL_law_1724 (by decide) (fun _ => ?_) (fun z => absurd hc z)
  obtain ⟨hcv, hw⟩ := hw
  refine cut_j (A := W p l e R s m args below meth c H locs (cells + 3) (slots + 18) Q (F0 m 1746 ls [])) (fun hE => ?_) ?_
  · refine lv_iload X.1.1 X.1.2.1 dL_law_1729 (lv_at hl 1 rfl) ?_
    refine sa_if_ne (tgt := 1746) X.1 hrk dL_law_1731 (by decide) (fun _ => hE) (fun h0 => ?_)
    refine lv_aload_n X.1.1 X.1.2.1 dL_law_1734 rfl (lv_at hl 5 rfl) ?_
    refine sa_const X.1 dL_law_1735 ?_
    refine sa_lld X hR dL_law_1736 ?_
    refine lv_iload X.1.1 X.1.2.1 dL_law_1737 (lv_at hl 0 rfl) ?_
    refine lv_i2l X.1.1 X.1.2.1 dL_law_1739 rfl ?_
    exact sa_lcmp_eq (tgt := 1746) X.1 (hR.r 103 0 0) hr1 dL_law_1740 dL_law_1741 (by decide) (fun _ => hE) (fun z => absurd (hcv h0) z)
  refine lv_goto (tgt := 2370) X.1.1 X.1.2.1 dL_law_1746 (by decide) ?_
  refine W.widen (k := cells + 8) (n := slots + 2100) (by omega) (by omega) ?_
  exact kk κ1 α1 N2 _ _ _ hw X.2.2.1 hR hS (lv_sub hl [2, 3, 4, 5, 6] rfl)
set_option maxHeartbeats 4000000 in
set_option maxRecDepth 100000 in
theorem law_c26 (X : CX p m c cL_law 7 s args "TablePagesLaw" G B κ meth ret) (N : NcA s) (V : LV s B b L xs) (hlt : l.stackTraces = false) (he0 : e0 = G.2.2.2.2.2) {i : Int} (hi0 : 0 ≤ i) (hi5 : i + 5 ≤ (L : Int)) {K : (Nat → Int) → Mem → Prop} (hw : wp_law_26 κ M K) (hR : Rp G e0 α κ B M H) (hS : va_S (fun q => B ≤ q) s.heap H locs) (hc1 : cells + 8 ≤ R.cells) (hc2 : slots + 2100 ≤ R.slots) (hRr : RmOK R 12) (hl : lv_has ls 7 [(0, .ref b), (1, .ref (α 10 0)), (2, .ref (α 11 0)), (3, .ref (α 103 0)), (4, .int (Int32.ofInt i))])
    (kk : LK p l e R s m args below meth c G e0 B b i K (cells + 8) (slots + 2100) Q) : W p l e R s m args below meth c H locs cells slots Q (F0 m 1749 ls []) := by
  have hw : wp_L_pages κ M (fun rk κ1 M1 => wp_X10_pages M1 (fun r1 N1 => wp_X10_thrown N1 (fun r2 N2 => (r2 = rk) ∧ (rk = 0 → N2 103 0 0 = r1) ∧ K κ1 N2))) := hw
  refine lv_aload_n X.1.1 X.1.2.1 dL_law_1749 rfl (lv_at hl 1 rfl) ?_
  refine lv_aload_n X.1.1 X.1.2.1 dL_law_1750 rfl (lv_at hl 3 rfl) ?_
  refine sl_call 9 (n := 2) (As := [.ref (α 10 0), .ref (α 103 0)]) (rest := []) X N hR hS (w_L_pages hlt he0 X.2.2.1 hw) kw_1417 kw_1418 kw_93 kw_1419 ⟨by decide +kernel, by decide +kernel, by decide +kernel⟩ (rm_law hRr (by decide) (by decide)) rfl rfl (Nat.le_of_ble_eq_true rfl) hl.1 dL_law_1751 ⟨by omega, by omega⟩ (fun rk κ1 α1 M1 H locs hw hrk hA hk hR hS => ?_)
  have X := X.re hk
  rw [← hA 10 (Or.inl rfl), ← hA 11 (Or.inr (Or.inl rfl)), ← hA 103 (Or.inr (Or.inr rfl))] at hl
  refine lv_istore (lv' := [(5, .int (Int32.ofInt rk)), (0, .ref b), (1, .ref (α1 10 0)), (2, .ref (α1 11 0)), (3, .ref (α1 103 0)), (4, .int (Int32.ofInt i))]) X.1.1 X.1.2.1 dL_law_1754 hl (by decide) rfl (fun ls hl => ?_)
  refine lv_aload_n X.1.1 X.1.2.1 dL_law_1756 rfl (lv_at hl 3 rfl) ?_
  refine cs_X10_pages X  (kc := 12) hRr ⟨by omega, by omega⟩ (by decide) hR hS kw_1969 hl.1 dL_law_1757 (Nat.le_of_ble_eq_true rfl) hw (fun r1 N1 H locs hw hr1 hR hS => ?_)
  refine lv_istore (lv' := [(6, .int (Int32.ofInt r1)), (5, .int (Int32.ofInt rk)), (0, .ref b), (1, .ref (α1 10 0)), (2, .ref (α1 11 0)), (3, .ref (α1 103 0)), (4, .int (Int32.ofInt i))]) X.1.1 X.1.2.1 dL_law_1760 hl (by decide) rfl (fun ls hl => ?_)
  refine lv_aload_n X.1.1 X.1.2.1 dL_law_1762 rfl (lv_at hl 4 rfl) ?_
  refine cs_X10_thrown X  (kc := 12) hRr ⟨by omega, by omega⟩ (by decide) hR hS kw_1710 hl.1 dL_law_1763 (Nat.le_of_ble_eq_true rfl) hw (fun r2 N2 H locs hw hr2 hR hS => ?_)
  refine lv_iload X.1.1 X.1.2.1 dL_law_1766 (lv_at hl 1 rfl) ?_
  obtain ⟨hc, hw⟩ := hw
  refine sa_icmp_eq (tgt := 1773) X.1 hr2 hrk dL_law_1768 (by decide) (fun _ => ?_) (fun z => absurd hc z)
  obtain ⟨hcv, hw⟩ := hw
  refine cut_j (A := W p l e R s m args below meth c H locs (cells + 1) (slots + 6) Q (F0 m 1790 ls [])) (fun hE => ?_) ?_
  · refine lv_iload X.1.1 X.1.2.1 dL_law_1773 (lv_at hl 1 rfl) ?_
    refine sa_if_ne (tgt := 1790) X.1 hrk dL_law_1775 (by decide) (fun _ => hE) (fun h0 => ?_)
    refine lv_aload_n X.1.1 X.1.2.1 dL_law_1778 rfl (lv_at hl 5 rfl) ?_
    refine sa_const X.1 dL_law_1779 ?_
    refine sa_lld X hR dL_law_1780 ?_
    refine lv_iload X.1.1 X.1.2.1 dL_law_1781 (lv_at hl 0 rfl) ?_
    refine lv_i2l X.1.1 X.1.2.1 dL_law_1783 rfl ?_
    exact sa_lcmp_eq (tgt := 1790) X.1 (hR.r 103 0 0) hr1 dL_law_1784 dL_law_1785 (by decide) (fun _ => hE) (fun z => absurd (hcv h0) z)
  refine lv_goto (tgt := 2370) X.1.1 X.1.2.1 dL_law_1790 (by decide) ?_
  refine W.widen (k := cells + 8) (n := slots + 2100) (by omega) (by omega) ?_
  exact kk κ1 α1 N2 _ _ _ hw X.2.2.1 hR hS (lv_sub hl [2, 3, 4, 5, 6] rfl)
set_option maxHeartbeats 4000000 in
set_option maxRecDepth 100000 in
theorem law_c27 (X : CX p m c cL_law 7 s args "TablePagesLaw" G B κ meth ret) (N : NcA s) (V : LV s B b L xs) (hlt : l.stackTraces = false) (he0 : e0 = G.2.2.2.2.2) {i : Int} (hi0 : 0 ≤ i) (hi5 : i + 5 ≤ (L : Int)) {K : (Nat → Int) → Mem → Prop} (hw : wp_law_27 (sx xs (i + 1)) κ M K) (hR : Rp G e0 α κ B M H) (hS : va_S (fun q => B ≤ q) s.heap H locs) (hc1 : cells + 8 ≤ R.cells) (hc2 : slots + 2100 ≤ R.slots) (hRr : RmOK R 12) (hl : lv_has ls 7 [(0, .ref b), (1, .ref (α 10 0)), (2, .ref (α 11 0)), (3, .ref (α 103 0)), (4, .int (Int32.ofInt i))])
    (kk : LK p l e R s m args below meth c G e0 B b i K (cells + 8) (slots + 2100) Q) : W p l e R s m args below meth c H locs cells slots Q (F0 m 1793 ls []) := by
  have hw : wp_L_pageOf (sx xs (i + 1)) κ M (fun rk κ1 M1 => wp_X10_pageOf (sx xs (i + 1)) M1 (fun r1 N1 => wp_X10_thrown N1 (fun r2 N2 => (r2 = rk) ∧ (rk = 0 → N2 103 0 0 = r1) ∧ K κ1 N2))) := hw
  refine lv_aload_n X.1.1 X.1.2.1 dL_law_1793 rfl (lv_at hl 1 rfl) ?_
  refine la_arg 0 4 X V hS hl rfl rfl ⟨by omega, by omega⟩ dL_law_1794 dL_law_1795 dL_law_1797 dL_law_1798 dL_law_1799 ?_
  refine lv_aload_n X.1.1 X.1.2.1 dL_law_1800 rfl (lv_at hl 3 rfl) ?_
  refine sl_call 9 (n := 3) (As := [.ref (α 10 0), .int (Int32.ofInt (sx xs (i + 1))), .ref (α 103 0)]) (rest := []) X N hR hS (w_L_pageOf hlt he0 X.2.2.1 (sx_R _ _) hw) kw_1429 kw_1430 kw_93 kw_1431 ⟨by decide +kernel, by decide +kernel, by decide +kernel⟩ (rm_law hRr (by decide) (by decide)) rfl rfl (Nat.le_of_ble_eq_true rfl) hl.1 dL_law_1801 ⟨by omega, by omega⟩ (fun rk κ1 α1 M1 H locs hw hrk hA hk hR hS => ?_)
  have X := X.re hk
  rw [← hA 10 (Or.inl rfl), ← hA 11 (Or.inr (Or.inl rfl)), ← hA 103 (Or.inr (Or.inr rfl))] at hl
  refine lv_istore (lv' := [(5, .int (Int32.ofInt rk)), (0, .ref b), (1, .ref (α1 10 0)), (2, .ref (α1 11 0)), (3, .ref (α1 103 0)), (4, .int (Int32.ofInt i))]) X.1.1 X.1.2.1 dL_law_1804 hl (by decide) rfl (fun ls hl => ?_)
  refine lv_aload_n X.1.1 X.1.2.1 dL_law_1806 rfl (lv_at hl 3 rfl) ?_
  refine la_arg 1 5 X V hS hl rfl rfl ⟨by omega, by omega⟩ dL_law_1807 dL_law_1808 dL_law_1810 dL_law_1811 dL_law_1812 ?_
  refine cs_X10_pageOf X (sx_R _ _) (kc := 12) hRr ⟨by omega, by omega⟩ (by decide) hR hS kw_2005 hl.1 dL_law_1813 (Nat.le_of_ble_eq_true rfl) hw (fun r1 N1 H locs hw hr1 hR hS => ?_)
  refine lv_istore (lv' := [(6, .int (Int32.ofInt r1)), (5, .int (Int32.ofInt rk)), (0, .ref b), (1, .ref (α1 10 0)), (2, .ref (α1 11 0)), (3, .ref (α1 103 0)), (4, .int (Int32.ofInt i))]) X.1.1 X.1.2.1 dL_law_1816 hl (by decide) rfl (fun ls hl => ?_)
  refine lv_aload_n X.1.1 X.1.2.1 dL_law_1818 rfl (lv_at hl 4 rfl) ?_
  refine cs_X10_thrown X  (kc := 12) hRr ⟨by omega, by omega⟩ (by decide) hR hS kw_1710 hl.1 dL_law_1819 (Nat.le_of_ble_eq_true rfl) hw (fun r2 N2 H locs hw hr2 hR hS => ?_)
  refine lv_iload X.1.1 X.1.2.1 dL_law_1822 (lv_at hl 1 rfl) ?_
  obtain ⟨hc, hw⟩ := hw
  refine sa_icmp_eq (tgt := 1829) X.1 hr2 hrk dL_law_1824 (by decide) (fun _ => ?_) (fun z => absurd hc z)
  obtain ⟨hcv, hw⟩ := hw
  refine cut_j (A := W p l e R s m args below meth c H locs (cells + 2) (slots + 12) Q (F0 m 1846 ls [])) (fun hE => ?_) ?_
  · refine lv_iload X.1.1 X.1.2.1 dL_law_1829 (lv_at hl 1 rfl) ?_
    refine sa_if_ne (tgt := 1846) X.1 hrk dL_law_1831 (by decide) (fun _ => hE) (fun h0 => ?_)
    refine lv_aload_n X.1.1 X.1.2.1 dL_law_1834 rfl (lv_at hl 5 rfl) ?_
    refine sa_const X.1 dL_law_1835 ?_
    refine sa_lld X hR dL_law_1836 ?_
    refine lv_iload X.1.1 X.1.2.1 dL_law_1837 (lv_at hl 0 rfl) ?_
    refine lv_i2l X.1.1 X.1.2.1 dL_law_1839 rfl ?_
    exact sa_lcmp_eq (tgt := 1846) X.1 (hR.r 103 0 0) hr1 dL_law_1840 dL_law_1841 (by decide) (fun _ => hE) (fun z => absurd (hcv h0) z)
  refine lv_goto (tgt := 2370) X.1.1 X.1.2.1 dL_law_1846 (by decide) ?_
  refine W.widen (k := cells + 8) (n := slots + 2100) (by omega) (by omega) ?_
  exact kk κ1 α1 N2 _ _ _ hw X.2.2.1 hR hS (lv_sub hl [2, 3, 4, 5, 6] rfl)
set_option maxHeartbeats 4000000 in
set_option maxRecDepth 100000 in
theorem law_c28 (X : CX p m c cL_law 7 s args "TablePagesLaw" G B κ meth ret) (N : NcA s) (V : LV s B b L xs) (hlt : l.stackTraces = false) (he0 : e0 = G.2.2.2.2.2) {i : Int} (hi0 : 0 ≤ i) (hi5 : i + 5 ≤ (L : Int)) {K : (Nat → Int) → Mem → Prop} (hw : wp_law_28 (sx xs (i + 1)) (sx xs (i + 2)) κ M K) (hR : Rp G e0 α κ B M H) (hS : va_S (fun q => B ≤ q) s.heap H locs) (hc1 : cells + 8 ≤ R.cells) (hc2 : slots + 2100 ≤ R.slots) (hRr : RmOK R 12) (hl : lv_has ls 7 [(0, .ref b), (1, .ref (α 10 0)), (2, .ref (α 11 0)), (3, .ref (α 103 0)), (4, .int (Int32.ofInt i))])
    (kk : LK p l e R s m args below meth c G e0 B b i K (cells + 8) (slots + 2100) Q) : W p l e R s m args below meth c H locs cells slots Q (F0 m 1849 ls []) := by
  have hw : wp_L_linesOn (sx xs (i + 1)) (sx xs (i + 2)) κ M (fun rk κ1 M1 => wp_X10_linesOn (sx xs (i + 1)) (sx xs (i + 2)) M1 (fun r1 N1 => wp_X10_thrown N1 (fun r2 N2 => (r2 = rk) ∧ (rk = 0 → N2 103 0 0 = r1) ∧ K κ1 N2))) := hw
  refine lv_aload_n X.1.1 X.1.2.1 dL_law_1849 rfl (lv_at hl 1 rfl) ?_
  refine la_arg 0 4 X V hS hl rfl rfl ⟨by omega, by omega⟩ dL_law_1850 dL_law_1851 dL_law_1853 dL_law_1854 dL_law_1855 ?_
  refine la_arg 0 4 X V hS hl rfl rfl ⟨by omega, by omega⟩ dL_law_1856 dL_law_1857 dL_law_1859 dL_law_1860 dL_law_1861 ?_
  refine lv_aload_n X.1.1 X.1.2.1 dL_law_1862 rfl (lv_at hl 3 rfl) ?_
  refine sl_call 9 (n := 4) (As := [.ref (α 10 0), .int (Int32.ofInt (sx xs (i + 1))), .int (Int32.ofInt (sx xs (i + 2))), .ref (α 103 0)]) (rest := []) X N hR hS (w_L_linesOn hlt he0 X.2.2.1 (sx_R _ _) (sx_R _ _) hw) kw_1438 kw_1439 kw_93 kw_1440 ⟨by decide +kernel, by decide +kernel, by decide +kernel⟩ (rm_law hRr (by decide) (by decide)) rfl rfl (Nat.le_of_ble_eq_true rfl) hl.1 dL_law_1863 ⟨by omega, by omega⟩ (fun rk κ1 α1 M1 H locs hw hrk hA hk hR hS => ?_)
  have X := X.re hk
  rw [← hA 10 (Or.inl rfl), ← hA 11 (Or.inr (Or.inl rfl)), ← hA 103 (Or.inr (Or.inr rfl))] at hl
  refine lv_istore (lv' := [(5, .int (Int32.ofInt rk)), (0, .ref b), (1, .ref (α1 10 0)), (2, .ref (α1 11 0)), (3, .ref (α1 103 0)), (4, .int (Int32.ofInt i))]) X.1.1 X.1.2.1 dL_law_1866 hl (by decide) rfl (fun ls hl => ?_)
  refine lv_aload_n X.1.1 X.1.2.1 dL_law_1868 rfl (lv_at hl 3 rfl) ?_
  refine la_arg 1 5 X V hS hl rfl rfl ⟨by omega, by omega⟩ dL_law_1869 dL_law_1870 dL_law_1872 dL_law_1873 dL_law_1874 ?_
  refine la_arg 1 5 X V hS hl rfl rfl ⟨by omega, by omega⟩ dL_law_1875 dL_law_1876 dL_law_1878 dL_law_1879 dL_law_1880 ?_
  refine cs_X10_linesOn X (sx_R _ _) (sx_R _ _) (kc := 12) hRr ⟨by omega, by omega⟩ (by decide) hR hS kw_2017 hl.1 dL_law_1881 (Nat.le_of_ble_eq_true rfl) hw (fun r1 N1 H locs hw hr1 hR hS => ?_)
  refine lv_istore (lv' := [(6, .int (Int32.ofInt r1)), (5, .int (Int32.ofInt rk)), (0, .ref b), (1, .ref (α1 10 0)), (2, .ref (α1 11 0)), (3, .ref (α1 103 0)), (4, .int (Int32.ofInt i))]) X.1.1 X.1.2.1 dL_law_1884 hl (by decide) rfl (fun ls hl => ?_)
  refine lv_aload_n X.1.1 X.1.2.1 dL_law_1886 rfl (lv_at hl 4 rfl) ?_
  refine cs_X10_thrown X  (kc := 12) hRr ⟨by omega, by omega⟩ (by decide) hR hS kw_1710 hl.1 dL_law_1887 (Nat.le_of_ble_eq_true rfl) hw (fun r2 N2 H locs hw hr2 hR hS => ?_)
  refine lv_iload X.1.1 X.1.2.1 dL_law_1890 (lv_at hl 1 rfl) ?_
  obtain ⟨hc, hw⟩ := hw
  refine sa_icmp_eq (tgt := 1897) X.1 hr2 hrk dL_law_1892 (by decide) (fun _ => ?_) (fun z => absurd hc z)
  obtain ⟨hcv, hw⟩ := hw
  refine cut_j (A := W p l e R s m args below meth c H locs (cells + 2) (slots + 12) Q (F0 m 1914 ls [])) (fun hE => ?_) ?_
  · refine lv_iload X.1.1 X.1.2.1 dL_law_1897 (lv_at hl 1 rfl) ?_
    refine sa_if_ne (tgt := 1914) X.1 hrk dL_law_1899 (by decide) (fun _ => hE) (fun h0 => ?_)
    refine lv_aload_n X.1.1 X.1.2.1 dL_law_1902 rfl (lv_at hl 5 rfl) ?_
    refine sa_const X.1 dL_law_1903 ?_
    refine sa_lld X hR dL_law_1904 ?_
    refine lv_iload X.1.1 X.1.2.1 dL_law_1905 (lv_at hl 0 rfl) ?_
    refine lv_i2l X.1.1 X.1.2.1 dL_law_1907 rfl ?_
    exact sa_lcmp_eq (tgt := 1914) X.1 (hR.r 103 0 0) hr1 dL_law_1908 dL_law_1909 (by decide) (fun _ => hE) (fun z => absurd (hcv h0) z)
  refine lv_goto (tgt := 2370) X.1.1 X.1.2.1 dL_law_1914 (by decide) ?_
  refine W.widen (k := cells + 8) (n := slots + 2100) (by omega) (by omega) ?_
  exact kk κ1 α1 N2 _ _ _ hw X.2.2.1 hR hS (lv_sub hl [2, 3, 4, 5, 6] rfl)
set_option maxHeartbeats 4000000 in
set_option maxRecDepth 100000 in
theorem law_c29 (X : CX p m c cL_law 7 s args "TablePagesLaw" G B κ meth ret) (N : NcA s) (V : LV s B b L xs) (hlt : l.stackTraces = false) (he0 : e0 = G.2.2.2.2.2) {i : Int} (hi0 : 0 ≤ i) (hi5 : i + 5 ≤ (L : Int)) {K : (Nat → Int) → Mem → Prop} (hw : wp_law_29 (sx xs (i + 1)) (sx xs (i + 2)) κ M K) (hR : Rp G e0 α κ B M H) (hS : va_S (fun q => B ≤ q) s.heap H locs) (hc1 : cells + 8 ≤ R.cells) (hc2 : slots + 2100 ≤ R.slots) (hRr : RmOK R 12) (hl : lv_has ls 7 [(0, .ref b), (1, .ref (α 10 0)), (2, .ref (α 11 0)), (3, .ref (α 103 0)), (4, .int (Int32.ofInt i))])
    (kk : LK p l e R s m args below meth c G e0 B b i K (cells + 8) (slots + 2100) Q) : W p l e R s m args below meth c H locs cells slots Q (F0 m 1917 ls []) := by
  have hw : wp_L_shown (sx xs (i + 1)) (sx xs (i + 2)) κ M (fun rk κ1 M1 => wp_X10_shown (sx xs (i + 1)) (sx xs (i + 2)) M1 (fun r1 N1 => wp_X10_thrown N1 (fun r2 N2 => (r2 = rk) ∧ (rk = 0 → N2 103 0 0 = r1) ∧ K κ1 N2))) := hw
  refine lv_aload_n X.1.1 X.1.2.1 dL_law_1917 rfl (lv_at hl 1 rfl) ?_
  refine la_arg 0 4 X V hS hl rfl rfl ⟨by omega, by omega⟩ dL_law_1918 dL_law_1919 dL_law_1921 dL_law_1922 dL_law_1923 ?_
  refine la_arg 0 4 X V hS hl rfl rfl ⟨by omega, by omega⟩ dL_law_1924 dL_law_1925 dL_law_1927 dL_law_1928 dL_law_1929 ?_
  refine lv_aload_n X.1.1 X.1.2.1 dL_law_1930 rfl (lv_at hl 3 rfl) ?_
  refine sl_call 9 (n := 4) (As := [.ref (α 10 0), .int (Int32.ofInt (sx xs (i + 1))), .int (Int32.ofInt (sx xs (i + 2))), .ref (α 103 0)]) (rest := []) X N hR hS (w_L_shown hlt he0 X.2.2.1 (sx_R _ _) (sx_R _ _) hw) kw_1452 kw_1453 kw_93 kw_1454 ⟨by decide +kernel, by decide +kernel, by decide +kernel⟩ (rm_law hRr (by decide) (by decide)) rfl rfl (Nat.le_of_ble_eq_true rfl) hl.1 dL_law_1931 ⟨by omega, by omega⟩ (fun rk κ1 α1 M1 H locs hw hrk hA hk hR hS => ?_)
  have X := X.re hk
  rw [← hA 10 (Or.inl rfl), ← hA 11 (Or.inr (Or.inl rfl)), ← hA 103 (Or.inr (Or.inr rfl))] at hl
  refine lv_istore (lv' := [(5, .int (Int32.ofInt rk)), (0, .ref b), (1, .ref (α1 10 0)), (2, .ref (α1 11 0)), (3, .ref (α1 103 0)), (4, .int (Int32.ofInt i))]) X.1.1 X.1.2.1 dL_law_1934 hl (by decide) rfl (fun ls hl => ?_)
  refine lv_aload_n X.1.1 X.1.2.1 dL_law_1936 rfl (lv_at hl 3 rfl) ?_
  refine la_arg 1 5 X V hS hl rfl rfl ⟨by omega, by omega⟩ dL_law_1937 dL_law_1938 dL_law_1940 dL_law_1941 dL_law_1942 ?_
  refine la_arg 1 5 X V hS hl rfl rfl ⟨by omega, by omega⟩ dL_law_1943 dL_law_1944 dL_law_1946 dL_law_1947 dL_law_1948 ?_
  refine cs_X10_shown X (sx_R _ _) (sx_R _ _) (kc := 12) hRr ⟨by omega, by omega⟩ (by decide) hR hS kw_2025 hl.1 dL_law_1949 (Nat.le_of_ble_eq_true rfl) hw (fun r1 N1 H locs hw hr1 hR hS => ?_)
  refine lv_istore (lv' := [(6, .int (Int32.ofInt r1)), (5, .int (Int32.ofInt rk)), (0, .ref b), (1, .ref (α1 10 0)), (2, .ref (α1 11 0)), (3, .ref (α1 103 0)), (4, .int (Int32.ofInt i))]) X.1.1 X.1.2.1 dL_law_1952 hl (by decide) rfl (fun ls hl => ?_)
  refine lv_aload_n X.1.1 X.1.2.1 dL_law_1954 rfl (lv_at hl 4 rfl) ?_
  refine cs_X10_thrown X  (kc := 12) hRr ⟨by omega, by omega⟩ (by decide) hR hS kw_1710 hl.1 dL_law_1955 (Nat.le_of_ble_eq_true rfl) hw (fun r2 N2 H locs hw hr2 hR hS => ?_)
  refine lv_iload X.1.1 X.1.2.1 dL_law_1958 (lv_at hl 1 rfl) ?_
  obtain ⟨hc, hw⟩ := hw
  refine sa_icmp_eq (tgt := 1965) X.1 hr2 hrk dL_law_1960 (by decide) (fun _ => ?_) (fun z => absurd hc z)
  obtain ⟨hcv, hw⟩ := hw
  refine cut_j (A := W p l e R s m args below meth c H locs (cells + 2) (slots + 12) Q (F0 m 1982 ls [])) (fun hE => ?_) ?_
  · refine lv_iload X.1.1 X.1.2.1 dL_law_1965 (lv_at hl 1 rfl) ?_
    refine sa_if_ne (tgt := 1982) X.1 hrk dL_law_1967 (by decide) (fun _ => hE) (fun h0 => ?_)
    refine lv_aload_n X.1.1 X.1.2.1 dL_law_1970 rfl (lv_at hl 5 rfl) ?_
    refine sa_const X.1 dL_law_1971 ?_
    refine sa_lld X hR dL_law_1972 ?_
    refine lv_iload X.1.1 X.1.2.1 dL_law_1973 (lv_at hl 0 rfl) ?_
    refine lv_i2l X.1.1 X.1.2.1 dL_law_1975 rfl ?_
    exact sa_lcmp_eq (tgt := 1982) X.1 (hR.r 103 0 0) hr1 dL_law_1976 dL_law_1977 (by decide) (fun _ => hE) (fun z => absurd (hcv h0) z)
  refine lv_goto (tgt := 2370) X.1.1 X.1.2.1 dL_law_1982 (by decide) ?_
  refine W.widen (k := cells + 8) (n := slots + 2100) (by omega) (by omega) ?_
  exact kk κ1 α1 N2 _ _ _ hw X.2.2.1 hR hS (lv_sub hl [2, 3, 4, 5, 6] rfl)
set_option maxHeartbeats 4000000 in
set_option maxRecDepth 100000 in
theorem law_c30 (X : CX p m c cL_law 7 s args "TablePagesLaw" G B κ meth ret) (N : NcA s) (V : LV s B b L xs) (hlt : l.stackTraces = false) (he0 : e0 = G.2.2.2.2.2) {i : Int} (hi0 : 0 ≤ i) (hi5 : i + 5 ≤ (L : Int)) {K : (Nat → Int) → Mem → Prop} (hw : wp_law_30 (sx xs (i + 1)) κ M K) (hR : Rp G e0 α κ B M H) (hS : va_S (fun q => B ≤ q) s.heap H locs) (hc1 : cells + 8 ≤ R.cells) (hc2 : slots + 2100 ≤ R.slots) (hRr : RmOK R 12) (hl : lv_has ls 7 [(0, .ref b), (1, .ref (α 10 0)), (2, .ref (α 11 0)), (3, .ref (α 103 0)), (4, .int (Int32.ofInt i))])
    (kk : LK p l e R s m args below meth c G e0 B b i K (cells + 8) (slots + 2100) Q) : W p l e R s m args below meth c H locs cells slots Q (F0 m 1985 ls []) := by
  have hw : wp_L_used (sx xs (i + 1)) κ M (fun rk κ1 M1 => wp_X10_used (sx xs (i + 1)) M1 (fun r1 N1 => wp_X10_thrown N1 (fun r2 N2 => (r2 = rk) ∧ (rk = 0 → N2 103 0 0 = r1) ∧ K κ1 N2))) := hw
  refine lv_aload_n X.1.1 X.1.2.1 dL_law_1985 rfl (lv_at hl 1 rfl) ?_
  refine la_arg 0 4 X V hS hl rfl rfl ⟨by omega, by omega⟩ dL_law_1986 dL_law_1987 dL_law_1989 dL_law_1990 dL_law_1991 ?_
  refine lv_aload_n X.1.1 X.1.2.1 dL_law_1992 rfl (lv_at hl 3 rfl) ?_
  refine sl_call 9 (n := 3) (As := [.ref (α 10 0), .int (Int32.ofInt (sx xs (i + 1))), .ref (α 103 0)]) (rest := []) X N hR hS (w_L_used hlt he0 X.2.2.1 (sx_R _ _) hw) kw_1465 kw_1466 kw_93 kw_1467 ⟨by decide +kernel, by decide +kernel, by decide +kernel⟩ (rm_law hRr (by decide) (by decide)) rfl rfl (Nat.le_of_ble_eq_true rfl) hl.1 dL_law_1993 ⟨by omega, by omega⟩ (fun rk κ1 α1 M1 H locs hw hrk hA hk hR hS => ?_)
  have X := X.re hk
  rw [← hA 10 (Or.inl rfl), ← hA 11 (Or.inr (Or.inl rfl)), ← hA 103 (Or.inr (Or.inr rfl))] at hl
  refine lv_istore (lv' := [(5, .int (Int32.ofInt rk)), (0, .ref b), (1, .ref (α1 10 0)), (2, .ref (α1 11 0)), (3, .ref (α1 103 0)), (4, .int (Int32.ofInt i))]) X.1.1 X.1.2.1 dL_law_1996 hl (by decide) rfl (fun ls hl => ?_)
  refine lv_aload_n X.1.1 X.1.2.1 dL_law_1998 rfl (lv_at hl 3 rfl) ?_
  refine la_arg 1 5 X V hS hl rfl rfl ⟨by omega, by omega⟩ dL_law_1999 dL_law_2000 dL_law_2002 dL_law_2003 dL_law_2004 ?_
  refine cs_X10_used X (sx_R _ _) (kc := 12) hRr ⟨by omega, by omega⟩ (by decide) hR hS kw_2029 hl.1 dL_law_2005 (Nat.le_of_ble_eq_true rfl) hw (fun r1 N1 H locs hw hr1 hR hS => ?_)
  refine lv_istore (lv' := [(6, .int (Int32.ofInt r1)), (5, .int (Int32.ofInt rk)), (0, .ref b), (1, .ref (α1 10 0)), (2, .ref (α1 11 0)), (3, .ref (α1 103 0)), (4, .int (Int32.ofInt i))]) X.1.1 X.1.2.1 dL_law_2008 hl (by decide) rfl (fun ls hl => ?_)
  refine lv_aload_n X.1.1 X.1.2.1 dL_law_2010 rfl (lv_at hl 4 rfl) ?_
  refine cs_X10_thrown X  (kc := 12) hRr ⟨by omega, by omega⟩ (by decide) hR hS kw_1710 hl.1 dL_law_2011 (Nat.le_of_ble_eq_true rfl) hw (fun r2 N2 H locs hw hr2 hR hS => ?_)
  refine lv_iload X.1.1 X.1.2.1 dL_law_2014 (lv_at hl 1 rfl) ?_
  obtain ⟨hc, hw⟩ := hw
  refine sa_icmp_eq (tgt := 2021) X.1 hr2 hrk dL_law_2016 (by decide) (fun _ => ?_) (fun z => absurd hc z)
  obtain ⟨hcv, hw⟩ := hw
  refine cut_j (A := W p l e R s m args below meth c H locs (cells + 2) (slots + 12) Q (F0 m 2038 ls [])) (fun hE => ?_) ?_
  · refine lv_iload X.1.1 X.1.2.1 dL_law_2021 (lv_at hl 1 rfl) ?_
    refine sa_if_ne (tgt := 2038) X.1 hrk dL_law_2023 (by decide) (fun _ => hE) (fun h0 => ?_)
    refine lv_aload_n X.1.1 X.1.2.1 dL_law_2026 rfl (lv_at hl 5 rfl) ?_
    refine sa_const X.1 dL_law_2027 ?_
    refine sa_lld X hR dL_law_2028 ?_
    refine lv_iload X.1.1 X.1.2.1 dL_law_2029 (lv_at hl 0 rfl) ?_
    refine lv_i2l X.1.1 X.1.2.1 dL_law_2031 rfl ?_
    exact sa_lcmp_eq (tgt := 2038) X.1 (hR.r 103 0 0) hr1 dL_law_2032 dL_law_2033 (by decide) (fun _ => hE) (fun z => absurd (hcv h0) z)
  refine lv_goto (tgt := 2370) X.1.1 X.1.2.1 dL_law_2038 (by decide) ?_
  refine W.widen (k := cells + 8) (n := slots + 2100) (by omega) (by omega) ?_
  exact kk κ1 α1 N2 _ _ _ hw X.2.2.1 hR hS (lv_sub hl [2, 3, 4, 5, 6] rfl)
set_option maxHeartbeats 4000000 in
set_option maxRecDepth 100000 in
theorem law_c31 (X : CX p m c cL_law 7 s args "TablePagesLaw" G B κ meth ret) (N : NcA s) (V : LV s B b L xs) (hlt : l.stackTraces = false) (he0 : e0 = G.2.2.2.2.2) {i : Int} (hi0 : 0 ≤ i) (hi5 : i + 5 ≤ (L : Int)) {K : (Nat → Int) → Mem → Prop} (hw : wp_law_31 (sx xs (i + 1)) κ M K) (hR : Rp G e0 α κ B M H) (hS : va_S (fun q => B ≤ q) s.heap H locs) (hc1 : cells + 8 ≤ R.cells) (hc2 : slots + 2100 ≤ R.slots) (hRr : RmOK R 12) (hl : lv_has ls 7 [(0, .ref b), (1, .ref (α 10 0)), (2, .ref (α 11 0)), (3, .ref (α 103 0)), (4, .int (Int32.ofInt i))])
    (kk : LK p l e R s m args below meth c G e0 B b i K (cells + 8) (slots + 2100) Q) : W p l e R s m args below meth c H locs cells slots Q (F0 m 2041 ls []) := by
  have hw : wp_L_notesOn (sx xs (i + 1)) κ M (fun rk κ1 M1 => wp_X10_notesOn (sx xs (i + 1)) M1 (fun r1 N1 => wp_X10_thrown N1 (fun r2 N2 => (r2 = rk) ∧ (rk = 0 → N2 103 0 0 = r1) ∧ K κ1 N2))) := hw
  refine lv_aload_n X.1.1 X.1.2.1 dL_law_2041 rfl (lv_at hl 1 rfl) ?_
  refine la_arg 0 4 X V hS hl rfl rfl ⟨by omega, by omega⟩ dL_law_2042 dL_law_2043 dL_law_2045 dL_law_2046 dL_law_2047 ?_
  refine lv_aload_n X.1.1 X.1.2.1 dL_law_2048 rfl (lv_at hl 3 rfl) ?_
  refine sl_call 9 (n := 3) (As := [.ref (α 10 0), .int (Int32.ofInt (sx xs (i + 1))), .ref (α 103 0)]) (rest := []) X N hR hS (w_L_notesOn hlt he0 X.2.2.1 (sx_R _ _) hw) kw_1478 kw_1479 kw_93 kw_1480 ⟨by decide +kernel, by decide +kernel, by decide +kernel⟩ (rm_law hRr (by decide) (by decide)) rfl rfl (Nat.le_of_ble_eq_true rfl) hl.1 dL_law_2049 ⟨by omega, by omega⟩ (fun rk κ1 α1 M1 H locs hw hrk hA hk hR hS => ?_)
  have X := X.re hk
  rw [← hA 10 (Or.inl rfl), ← hA 11 (Or.inr (Or.inl rfl)), ← hA 103 (Or.inr (Or.inr rfl))] at hl
  refine lv_istore (lv' := [(5, .int (Int32.ofInt rk)), (0, .ref b), (1, .ref (α1 10 0)), (2, .ref (α1 11 0)), (3, .ref (α1 103 0)), (4, .int (Int32.ofInt i))]) X.1.1 X.1.2.1 dL_law_2052 hl (by decide) rfl (fun ls hl => ?_)
  refine lv_aload_n X.1.1 X.1.2.1 dL_law_2054 rfl (lv_at hl 3 rfl) ?_
  refine la_arg 1 5 X V hS hl rfl rfl ⟨by omega, by omega⟩ dL_law_2055 dL_law_2056 dL_law_2058 dL_law_2059 dL_law_2060 ?_
  refine cs_X10_notesOn X (sx_R _ _) (kc := 12) hRr ⟨by omega, by omega⟩ (by decide) hR hS kw_2041 hl.1 dL_law_2061 (Nat.le_of_ble_eq_true rfl) hw (fun r1 N1 H locs hw hr1 hR hS => ?_)
  refine lv_istore (lv' := [(6, .int (Int32.ofInt r1)), (5, .int (Int32.ofInt rk)), (0, .ref b), (1, .ref (α1 10 0)), (2, .ref (α1 11 0)), (3, .ref (α1 103 0)), (4, .int (Int32.ofInt i))]) X.1.1 X.1.2.1 dL_law_2064 hl (by decide) rfl (fun ls hl => ?_)
  refine lv_aload_n X.1.1 X.1.2.1 dL_law_2066 rfl (lv_at hl 4 rfl) ?_
  refine cs_X10_thrown X  (kc := 12) hRr ⟨by omega, by omega⟩ (by decide) hR hS kw_1710 hl.1 dL_law_2067 (Nat.le_of_ble_eq_true rfl) hw (fun r2 N2 H locs hw hr2 hR hS => ?_)
  refine lv_iload X.1.1 X.1.2.1 dL_law_2070 (lv_at hl 1 rfl) ?_
  obtain ⟨hc, hw⟩ := hw
  refine sa_icmp_eq (tgt := 2077) X.1 hr2 hrk dL_law_2072 (by decide) (fun _ => ?_) (fun z => absurd hc z)
  obtain ⟨hcv, hw⟩ := hw
  refine cut_j (A := W p l e R s m args below meth c H locs (cells + 2) (slots + 12) Q (F0 m 2094 ls [])) (fun hE => ?_) ?_
  · refine lv_iload X.1.1 X.1.2.1 dL_law_2077 (lv_at hl 1 rfl) ?_
    refine sa_if_ne (tgt := 2094) X.1 hrk dL_law_2079 (by decide) (fun _ => hE) (fun h0 => ?_)
    refine lv_aload_n X.1.1 X.1.2.1 dL_law_2082 rfl (lv_at hl 5 rfl) ?_
    refine sa_const X.1 dL_law_2083 ?_
    refine sa_lld X hR dL_law_2084 ?_
    refine lv_iload X.1.1 X.1.2.1 dL_law_2085 (lv_at hl 0 rfl) ?_
    refine lv_i2l X.1.1 X.1.2.1 dL_law_2087 rfl ?_
    exact sa_lcmp_eq (tgt := 2094) X.1 (hR.r 103 0 0) hr1 dL_law_2088 dL_law_2089 (by decide) (fun _ => hE) (fun z => absurd (hcv h0) z)
  refine lv_goto (tgt := 2370) X.1.1 X.1.2.1 dL_law_2094 (by decide) ?_
  refine W.widen (k := cells + 8) (n := slots + 2100) (by omega) (by omega) ?_
  exact kk κ1 α1 N2 _ _ _ hw X.2.2.1 hR hS (lv_sub hl [2, 3, 4, 5, 6] rfl)
set_option maxHeartbeats 4000000 in
set_option maxRecDepth 100000 in
theorem law_c32 (X : CX p m c cL_law 7 s args "TablePagesLaw" G B κ meth ret) (N : NcA s) (V : LV s B b L xs) (hlt : l.stackTraces = false) (he0 : e0 = G.2.2.2.2.2) {i : Int} (hi0 : 0 ≤ i) (hi5 : i + 5 ≤ (L : Int)) {K : (Nat → Int) → Mem → Prop} (hw : wp_law_32 κ M K) (hR : Rp G e0 α κ B M H) (hS : va_S (fun q => B ≤ q) s.heap H locs) (hc1 : cells + 8 ≤ R.cells) (hc2 : slots + 2100 ≤ R.slots) (hRr : RmOK R 12) (hl : lv_has ls 7 [(0, .ref b), (1, .ref (α 10 0)), (2, .ref (α 11 0)), (3, .ref (α 103 0)), (4, .int (Int32.ofInt i))])
    (kk : LK p l e R s m args below meth c G e0 B b i K (cells + 8) (slots + 2100) Q) : W p l e R s m args below meth c H locs cells slots Q (F0 m 2097 ls []) := by
  have hw : wp_X9_look M (fun r1 N1 => wp_X10_look N1 (fun r2 N2 => (r1 = r2) ∧ K κ N2)) := hw
  refine lv_aload_n X.1.1 X.1.2.1 dL_law_2097 rfl (lv_at hl 1 rfl) ?_
  refine cs_X9_look X  (kc := 12) hRr ⟨by omega, by omega⟩ (by decide) hR hS kw_721 hl.1 dL_law_2098 (Nat.le_of_ble_eq_true rfl) hw (fun r1 N1 H locs hw hr1 hR hS => ?_)
  refine lv_aload_n X.1.1 X.1.2.1 dL_law_2101 rfl (lv_at hl 2 rfl) ?_
  refine cs_X10_look X  (kc := 12) hRr ⟨by omega, by omega⟩ (by decide) hR hS kw_2070 hl.1 dL_law_2102 (Nat.le_of_ble_eq_true rfl) hw (fun r2 N2 H locs hw hr2 hR hS => ?_)
  obtain ⟨hc, hw⟩ := hw
  refine sa_icmp_eq (tgt := 2370) X.1 hr1 hr2 dL_law_2105 (by decide) (fun _ => ?_) (fun z => absurd hc z)
  refine W.widen (k := cells + 8) (n := slots + 2100) (by omega) (by omega) ?_
  exact kk κ α N2 _ _ _ hw X.2.2.1 hR hS (lv_sub hl [0, 1, 2, 3, 4] rfl)
set_option maxHeartbeats 4000000 in
set_option maxRecDepth 100000 in
theorem law_c33 (X : CX p m c cL_law 7 s args "TablePagesLaw" G B κ meth ret) (N : NcA s) (V : LV s B b L xs) (hlt : l.stackTraces = false) (he0 : e0 = G.2.2.2.2.2) {i : Int} (hi0 : 0 ≤ i) (hi5 : i + 5 ≤ (L : Int)) {K : (Nat → Int) → Mem → Prop} (hw : wp_law_33 (sx xs (i + 1)) κ M K) (hR : Rp G e0 α κ B M H) (hS : va_S (fun q => B ≤ q) s.heap H locs) (hc1 : cells + 8 ≤ R.cells) (hc2 : slots + 2100 ≤ R.slots) (hRr : RmOK R 12) (hl : lv_has ls 7 [(0, .ref b), (1, .ref (α 10 0)), (2, .ref (α 11 0)), (3, .ref (α 103 0)), (4, .int (Int32.ofInt i))])
    (kk : LK p l e R s m args below meth c G e0 B b i K (cells + 8) (slots + 2100) Q) : W p l e R s m args below meth c H locs cells slots Q (F0 m 2110 ls []) := by
  have hw : wp_L_total (sx xs (i + 1)) κ M (fun rk κ1 M1 => wp_X10_total (sx xs (i + 1)) M1 (fun r1 N1 => wp_X10_thrown N1 (fun r2 N2 => (r2 = rk) ∧ (rk = 0 → N2 103 0 0 = r1) ∧ K κ1 N2))) := hw
  refine lv_aload_n X.1.1 X.1.2.1 dL_law_2110 rfl (lv_at hl 1 rfl) ?_
  refine la_arg 0 4 X V hS hl rfl rfl ⟨by omega, by omega⟩ dL_law_2111 dL_law_2112 dL_law_2114 dL_law_2115 dL_law_2116 ?_
  refine lv_aload_n X.1.1 X.1.2.1 dL_law_2117 rfl (lv_at hl 3 rfl) ?_
  refine sl_call 8 (n := 3) (As := [.ref (α 10 0), .int (Int32.ofInt (sx xs (i + 1))), .ref (α 103 0)]) (rest := []) X N hR hS (w_L_total hlt he0 X.2.2.1 (sx_R _ _) hw) kw_1485 kw_1486 kw_93 kw_1487 ⟨by decide +kernel, by decide +kernel, by decide +kernel⟩ (rm_law hRr (by decide) (by decide)) rfl rfl (Nat.le_of_ble_eq_true rfl) hl.1 dL_law_2118 ⟨by omega, by omega⟩ (fun rk κ1 α1 M1 H locs hw hrk hA hk hR hS => ?_)
  have X := X.re hk
  rw [← hA 10 (Or.inl rfl), ← hA 11 (Or.inr (Or.inl rfl)), ← hA 103 (Or.inr (Or.inr rfl))] at hl
  refine lv_istore (lv' := [(5, .int (Int32.ofInt rk)), (0, .ref b), (1, .ref (α1 10 0)), (2, .ref (α1 11 0)), (3, .ref (α1 103 0)), (4, .int (Int32.ofInt i))]) X.1.1 X.1.2.1 dL_law_2121 hl (by decide) rfl (fun ls hl => ?_)
  refine lv_aload_n X.1.1 X.1.2.1 dL_law_2123 rfl (lv_at hl 3 rfl) ?_
  refine la_arg 1 5 X V hS hl rfl rfl ⟨by omega, by omega⟩ dL_law_2124 dL_law_2125 dL_law_2127 dL_law_2128 dL_law_2129 ?_
  refine cs_X10_total X (sx_R _ _) (kc := 12) hRr ⟨by omega, by omega⟩ (by decide) hR hS kw_2045 hl.1 dL_law_2130 (Nat.le_of_ble_eq_true rfl) hw (fun r1 N1 H locs hw hr1 hR hS => ?_)
  refine lv_istore (lv' := [(6, .int (Int32.ofInt r1)), (5, .int (Int32.ofInt rk)), (0, .ref b), (1, .ref (α1 10 0)), (2, .ref (α1 11 0)), (3, .ref (α1 103 0)), (4, .int (Int32.ofInt i))]) X.1.1 X.1.2.1 dL_law_2133 hl (by decide) rfl (fun ls hl => ?_)
  refine lv_aload_n X.1.1 X.1.2.1 dL_law_2135 rfl (lv_at hl 4 rfl) ?_
  refine cs_X10_thrown X  (kc := 12) hRr ⟨by omega, by omega⟩ (by decide) hR hS kw_1710 hl.1 dL_law_2136 (Nat.le_of_ble_eq_true rfl) hw (fun r2 N2 H locs hw hr2 hR hS => ?_)
  refine lv_iload X.1.1 X.1.2.1 dL_law_2139 (lv_at hl 1 rfl) ?_
  obtain ⟨hc, hw⟩ := hw
  refine sa_icmp_eq (tgt := 2146) X.1 hr2 hrk dL_law_2141 (by decide) (fun _ => ?_) (fun z => absurd hc z)
  obtain ⟨hcv, hw⟩ := hw
  refine cut_j (A := W p l e R s m args below meth c H locs (cells + 1) (slots + 6) Q (F0 m 2163 ls [])) (fun hE => ?_) ?_
  · refine lv_iload X.1.1 X.1.2.1 dL_law_2146 (lv_at hl 1 rfl) ?_
    refine sa_if_ne (tgt := 2163) X.1 hrk dL_law_2148 (by decide) (fun _ => hE) (fun h0 => ?_)
    refine lv_aload_n X.1.1 X.1.2.1 dL_law_2151 rfl (lv_at hl 5 rfl) ?_
    refine sa_const X.1 dL_law_2152 ?_
    refine sa_lld X hR dL_law_2153 ?_
    refine lv_iload X.1.1 X.1.2.1 dL_law_2154 (lv_at hl 0 rfl) ?_
    refine lv_i2l X.1.1 X.1.2.1 dL_law_2156 rfl ?_
    exact sa_lcmp_eq (tgt := 2163) X.1 (hR.r 103 0 0) hr1 dL_law_2157 dL_law_2158 (by decide) (fun _ => hE) (fun z => absurd (hcv h0) z)
  refine lv_goto (tgt := 2370) X.1.1 X.1.2.1 dL_law_2163 (by decide) ?_
  refine W.widen (k := cells + 8) (n := slots + 2100) (by omega) (by omega) ?_
  exact kk κ1 α1 N2 _ _ _ hw X.2.2.1 hR hS (lv_sub hl [2, 3, 4, 5, 6] rfl)
set_option maxHeartbeats 4000000 in
set_option maxRecDepth 100000 in
theorem law_c34 (X : CX p m c cL_law 7 s args "TablePagesLaw" G B κ meth ret) (N : NcA s) (V : LV s B b L xs) (hlt : l.stackTraces = false) (he0 : e0 = G.2.2.2.2.2) {i : Int} (hi0 : 0 ≤ i) (hi5 : i + 5 ≤ (L : Int)) {K : (Nat → Int) → Mem → Prop} (hw : wp_law_34 (sx xs (i + 1)) (sx xs (i + 2)) κ M K) (hR : Rp G e0 α κ B M H) (hS : va_S (fun q => B ≤ q) s.heap H locs) (hc1 : cells + 8 ≤ R.cells) (hc2 : slots + 2100 ≤ R.slots) (hRr : RmOK R 12) (hl : lv_has ls 7 [(0, .ref b), (1, .ref (α 10 0)), (2, .ref (α 11 0)), (3, .ref (α 103 0)), (4, .int (Int32.ofInt i))])
    (kk : LK p l e R s m args below meth c G e0 B b i K (cells + 8) (slots + 2100) Q) : W p l e R s m args below meth c H locs cells slots Q (F0 m 2166 ls []) := by
  have hw : wp_L_subtotal (sx xs (i + 1)) (sx xs (i + 2)) κ M (fun rk κ1 M1 => wp_X10_subtotal (sx xs (i + 1)) (sx xs (i + 2)) M1 (fun r1 N1 => wp_X10_thrown N1 (fun r2 N2 => (r2 = rk) ∧ (rk = 0 → N2 103 0 0 = r1) ∧ K κ1 N2))) := hw
  refine lv_aload_n X.1.1 X.1.2.1 dL_law_2166 rfl (lv_at hl 1 rfl) ?_
  refine la_arg 0 4 X V hS hl rfl rfl ⟨by omega, by omega⟩ dL_law_2167 dL_law_2168 dL_law_2170 dL_law_2171 dL_law_2172 ?_
  refine la_arg 0 4 X V hS hl rfl rfl ⟨by omega, by omega⟩ dL_law_2173 dL_law_2174 dL_law_2176 dL_law_2177 dL_law_2178 ?_
  refine lv_aload_n X.1.1 X.1.2.1 dL_law_2179 rfl (lv_at hl 3 rfl) ?_
  refine sl_call 8 (n := 4) (As := [.ref (α 10 0), .int (Int32.ofInt (sx xs (i + 1))), .int (Int32.ofInt (sx xs (i + 2))), .ref (α 103 0)]) (rest := []) X N hR hS (w_L_subtotal hlt he0 X.2.2.1 (sx_R _ _) (sx_R _ _) hw) kw_1496 kw_1497 kw_93 kw_1498 ⟨by decide +kernel, by decide +kernel, by decide +kernel⟩ (rm_law hRr (by decide) (by decide)) rfl rfl (Nat.le_of_ble_eq_true rfl) hl.1 dL_law_2180 ⟨by omega, by omega⟩ (fun rk κ1 α1 M1 H locs hw hrk hA hk hR hS => ?_)
  have X := X.re hk
  rw [← hA 10 (Or.inl rfl), ← hA 11 (Or.inr (Or.inl rfl)), ← hA 103 (Or.inr (Or.inr rfl))] at hl
  refine lv_istore (lv' := [(5, .int (Int32.ofInt rk)), (0, .ref b), (1, .ref (α1 10 0)), (2, .ref (α1 11 0)), (3, .ref (α1 103 0)), (4, .int (Int32.ofInt i))]) X.1.1 X.1.2.1 dL_law_2183 hl (by decide) rfl (fun ls hl => ?_)
  refine lv_aload_n X.1.1 X.1.2.1 dL_law_2185 rfl (lv_at hl 3 rfl) ?_
  refine la_arg 1 5 X V hS hl rfl rfl ⟨by omega, by omega⟩ dL_law_2186 dL_law_2187 dL_law_2189 dL_law_2190 dL_law_2191 ?_
  refine la_arg 1 5 X V hS hl rfl rfl ⟨by omega, by omega⟩ dL_law_2192 dL_law_2193 dL_law_2195 dL_law_2196 dL_law_2197 ?_
  refine cs_X10_subtotal X (sx_R _ _) (sx_R _ _) (kc := 12) hRr ⟨by omega, by omega⟩ (by decide) hR hS kw_2053 hl.1 dL_law_2198 (Nat.le_of_ble_eq_true rfl) hw (fun r1 N1 H locs hw hr1 hR hS => ?_)
  refine lv_istore (lv' := [(6, .int (Int32.ofInt r1)), (5, .int (Int32.ofInt rk)), (0, .ref b), (1, .ref (α1 10 0)), (2, .ref (α1 11 0)), (3, .ref (α1 103 0)), (4, .int (Int32.ofInt i))]) X.1.1 X.1.2.1 dL_law_2201 hl (by decide) rfl (fun ls hl => ?_)
  refine lv_aload_n X.1.1 X.1.2.1 dL_law_2203 rfl (lv_at hl 4 rfl) ?_
  refine cs_X10_thrown X  (kc := 12) hRr ⟨by omega, by omega⟩ (by decide) hR hS kw_1710 hl.1 dL_law_2204 (Nat.le_of_ble_eq_true rfl) hw (fun r2 N2 H locs hw hr2 hR hS => ?_)
  refine lv_iload X.1.1 X.1.2.1 dL_law_2207 (lv_at hl 1 rfl) ?_
  obtain ⟨hc, hw⟩ := hw
  refine sa_icmp_eq (tgt := 2214) X.1 hr2 hrk dL_law_2209 (by decide) (fun _ => ?_) (fun z => absurd hc z)
  obtain ⟨hcv, hw⟩ := hw
  refine cut_j (A := W p l e R s m args below meth c H locs (cells + 3) (slots + 18) Q (F0 m 2231 ls [])) (fun hE => ?_) ?_
  · refine lv_iload X.1.1 X.1.2.1 dL_law_2214 (lv_at hl 1 rfl) ?_
    refine sa_if_ne (tgt := 2231) X.1 hrk dL_law_2216 (by decide) (fun _ => hE) (fun h0 => ?_)
    refine lv_aload_n X.1.1 X.1.2.1 dL_law_2219 rfl (lv_at hl 5 rfl) ?_
    refine sa_const X.1 dL_law_2220 ?_
    refine sa_lld X hR dL_law_2221 ?_
    refine lv_iload X.1.1 X.1.2.1 dL_law_2222 (lv_at hl 0 rfl) ?_
    refine lv_i2l X.1.1 X.1.2.1 dL_law_2224 rfl ?_
    exact sa_lcmp_eq (tgt := 2231) X.1 (hR.r 103 0 0) hr1 dL_law_2225 dL_law_2226 (by decide) (fun _ => hE) (fun z => absurd (hcv h0) z)
  refine lv_goto (tgt := 2370) X.1.1 X.1.2.1 dL_law_2231 (by decide) ?_
  refine W.widen (k := cells + 8) (n := slots + 2100) (by omega) (by omega) ?_
  exact kk κ1 α1 N2 _ _ _ hw X.2.2.1 hR hS (lv_sub hl [2, 3, 4, 5, 6] rfl)
set_option maxHeartbeats 4000000 in
set_option maxRecDepth 100000 in
theorem law_c35 (X : CX p m c cL_law 7 s args "TablePagesLaw" G B κ meth ret) (N : NcA s) (V : LV s B b L xs) (hlt : l.stackTraces = false) (he0 : e0 = G.2.2.2.2.2) {i : Int} (hi0 : 0 ≤ i) (hi5 : i + 5 ≤ (L : Int)) {K : (Nat → Int) → Mem → Prop} (hw : wp_law_35 (sx xs (i + 1)) (sx xs (i + 2)) κ M K) (hR : Rp G e0 α κ B M H) (hS : va_S (fun q => B ≤ q) s.heap H locs) (hc1 : cells + 8 ≤ R.cells) (hc2 : slots + 2100 ≤ R.slots) (hRr : RmOK R 12) (hl : lv_has ls 7 [(0, .ref b), (1, .ref (α 10 0)), (2, .ref (α 11 0)), (3, .ref (α 103 0)), (4, .int (Int32.ofInt i))])
    (kk : LK p l e R s m args below meth c G e0 B b i K (cells + 8) (slots + 2100) Q) : W p l e R s m args below meth c H locs cells slots Q (F0 m 2234 ls []) := by
  have hw : wp_L_carried (sx xs (i + 1)) (sx xs (i + 2)) κ M (fun rk κ1 M1 => wp_X10_carried (sx xs (i + 1)) (sx xs (i + 2)) M1 (fun r1 N1 => wp_X10_thrown N1 (fun r2 N2 => (r2 = rk) ∧ (rk = 0 → N2 103 0 0 = r1) ∧ K κ1 N2))) := hw
  refine lv_aload_n X.1.1 X.1.2.1 dL_law_2234 rfl (lv_at hl 1 rfl) ?_
  refine la_arg 0 4 X V hS hl rfl rfl ⟨by omega, by omega⟩ dL_law_2235 dL_law_2236 dL_law_2238 dL_law_2239 dL_law_2240 ?_
  refine la_arg 0 4 X V hS hl rfl rfl ⟨by omega, by omega⟩ dL_law_2241 dL_law_2242 dL_law_2244 dL_law_2245 dL_law_2246 ?_
  refine lv_aload_n X.1.1 X.1.2.1 dL_law_2247 rfl (lv_at hl 3 rfl) ?_
  refine sl_call 9 (n := 4) (As := [.ref (α 10 0), .int (Int32.ofInt (sx xs (i + 1))), .int (Int32.ofInt (sx xs (i + 2))), .ref (α 103 0)]) (rest := []) X N hR hS (w_L_carried hlt he0 X.2.2.1 (sx_R _ _) (sx_R _ _) hw) kw_1508 kw_1509 kw_93 kw_1510 ⟨by decide +kernel, by decide +kernel, by decide +kernel⟩ (rm_law hRr (by decide) (by decide)) rfl rfl (Nat.le_of_ble_eq_true rfl) hl.1 dL_law_2248 ⟨by omega, by omega⟩ (fun rk κ1 α1 M1 H locs hw hrk hA hk hR hS => ?_)
  have X := X.re hk
  rw [← hA 10 (Or.inl rfl), ← hA 11 (Or.inr (Or.inl rfl)), ← hA 103 (Or.inr (Or.inr rfl))] at hl
  refine lv_istore (lv' := [(5, .int (Int32.ofInt rk)), (0, .ref b), (1, .ref (α1 10 0)), (2, .ref (α1 11 0)), (3, .ref (α1 103 0)), (4, .int (Int32.ofInt i))]) X.1.1 X.1.2.1 dL_law_2251 hl (by decide) rfl (fun ls hl => ?_)
  refine lv_aload_n X.1.1 X.1.2.1 dL_law_2253 rfl (lv_at hl 3 rfl) ?_
  refine la_arg 1 5 X V hS hl rfl rfl ⟨by omega, by omega⟩ dL_law_2254 dL_law_2255 dL_law_2257 dL_law_2258 dL_law_2259 ?_
  refine la_arg 1 5 X V hS hl rfl rfl ⟨by omega, by omega⟩ dL_law_2260 dL_law_2261 dL_law_2263 dL_law_2264 dL_law_2265 ?_
  refine cs_X10_carried X (sx_R _ _) (sx_R _ _) (kc := 12) hRr ⟨by omega, by omega⟩ (by decide) hR hS kw_2057 hl.1 dL_law_2266 (Nat.le_of_ble_eq_true rfl) hw (fun r1 N1 H locs hw hr1 hR hS => ?_)
  refine lv_istore (lv' := [(6, .int (Int32.ofInt r1)), (5, .int (Int32.ofInt rk)), (0, .ref b), (1, .ref (α1 10 0)), (2, .ref (α1 11 0)), (3, .ref (α1 103 0)), (4, .int (Int32.ofInt i))]) X.1.1 X.1.2.1 dL_law_2269 hl (by decide) rfl (fun ls hl => ?_)
  refine lv_aload_n X.1.1 X.1.2.1 dL_law_2271 rfl (lv_at hl 4 rfl) ?_
  refine cs_X10_thrown X  (kc := 12) hRr ⟨by omega, by omega⟩ (by decide) hR hS kw_1710 hl.1 dL_law_2272 (Nat.le_of_ble_eq_true rfl) hw (fun r2 N2 H locs hw hr2 hR hS => ?_)
  refine lv_iload X.1.1 X.1.2.1 dL_law_2275 (lv_at hl 1 rfl) ?_
  obtain ⟨hc, hw⟩ := hw
  refine sa_icmp_eq (tgt := 2282) X.1 hr2 hrk dL_law_2277 (by decide) (fun _ => ?_) (fun z => absurd hc z)
  obtain ⟨hcv, hw⟩ := hw
  refine cut_j (A := W p l e R s m args below meth c H locs (cells + 3) (slots + 18) Q (F0 m 2299 ls [])) (fun hE => ?_) ?_
  · refine lv_iload X.1.1 X.1.2.1 dL_law_2282 (lv_at hl 1 rfl) ?_
    refine sa_if_ne (tgt := 2299) X.1 hrk dL_law_2284 (by decide) (fun _ => hE) (fun h0 => ?_)
    refine lv_aload_n X.1.1 X.1.2.1 dL_law_2287 rfl (lv_at hl 5 rfl) ?_
    refine sa_const X.1 dL_law_2288 ?_
    refine sa_lld X hR dL_law_2289 ?_
    refine lv_iload X.1.1 X.1.2.1 dL_law_2290 (lv_at hl 0 rfl) ?_
    refine lv_i2l X.1.1 X.1.2.1 dL_law_2292 rfl ?_
    exact sa_lcmp_eq (tgt := 2299) X.1 (hR.r 103 0 0) hr1 dL_law_2293 dL_law_2294 (by decide) (fun _ => hE) (fun z => absurd (hcv h0) z)
  refine lv_goto (tgt := 2370) X.1.1 X.1.2.1 dL_law_2299 (by decide) ?_
  refine W.widen (k := cells + 8) (n := slots + 2100) (by omega) (by omega) ?_
  exact kk κ1 α1 N2 _ _ _ hw X.2.2.1 hR hS (lv_sub hl [2, 3, 4, 5, 6] rfl)
set_option maxHeartbeats 4000000 in
set_option maxRecDepth 100000 in
theorem law_c36 (X : CX p m c cL_law 7 s args "TablePagesLaw" G B κ meth ret) (N : NcA s) (V : LV s B b L xs) (hlt : l.stackTraces = false) (he0 : e0 = G.2.2.2.2.2) {i : Int} (hi0 : 0 ≤ i) (hi5 : i + 5 ≤ (L : Int)) {K : (Nat → Int) → Mem → Prop} (hw : wp_law_36 (sx xs (i + 1)) (sx xs (i + 2)) κ M K) (hR : Rp G e0 α κ B M H) (hS : va_S (fun q => B ≤ q) s.heap H locs) (hc1 : cells + 8 ≤ R.cells) (hc2 : slots + 2100 ≤ R.slots) (hRr : RmOK R 12) (hl : lv_has ls 7 [(0, .ref b), (1, .ref (α 10 0)), (2, .ref (α 11 0)), (3, .ref (α 103 0)), (4, .int (Int32.ofInt i))])
    (kk : LK p l e R s m args below meth c G e0 B b i K (cells + 8) (slots + 2100) Q) : W p l e R s m args below meth c H locs cells slots Q (F0 m 2302 ls []) := by
  have hw : wp_L_carriedByCells (sx xs (i + 1)) (sx xs (i + 2)) κ M (fun rk κ1 M1 => wp_X10_carriedByCells (sx xs (i + 1)) (sx xs (i + 2)) M1 (fun r1 N1 => wp_X10_thrown N1 (fun r2 N2 => (r2 = rk) ∧ (rk = 0 → N2 103 0 0 = r1) ∧ K κ1 N2))) := hw
  refine lv_aload_n X.1.1 X.1.2.1 dL_law_2302 rfl (lv_at hl 1 rfl) ?_
  refine la_arg 0 4 X V hS hl rfl rfl ⟨by omega, by omega⟩ dL_law_2303 dL_law_2304 dL_law_2306 dL_law_2307 dL_law_2308 ?_
  refine la_arg 0 4 X V hS hl rfl rfl ⟨by omega, by omega⟩ dL_law_2309 dL_law_2310 dL_law_2312 dL_law_2313 dL_law_2314 ?_
  refine lv_aload_n X.1.1 X.1.2.1 dL_law_2315 rfl (lv_at hl 3 rfl) ?_
  refine sl_call 9 (n := 4) (As := [.ref (α 10 0), .int (Int32.ofInt (sx xs (i + 1))), .int (Int32.ofInt (sx xs (i + 2))), .ref (α 103 0)]) (rest := []) X N hR hS (w_L_carriedByCells hlt he0 X.2.2.1 (sx_R _ _) (sx_R _ _) hw) kw_1516 kw_1517 kw_93 kw_1518 ⟨by decide +kernel, by decide +kernel, by decide +kernel⟩ (rm_law hRr (by decide) (by decide)) rfl rfl (Nat.le_of_ble_eq_true rfl) hl.1 dL_law_2316 ⟨by omega, by omega⟩ (fun rk κ1 α1 M1 H locs hw hrk hA hk hR hS => ?_)
  have X := X.re hk
  rw [← hA 10 (Or.inl rfl), ← hA 11 (Or.inr (Or.inl rfl)), ← hA 103 (Or.inr (Or.inr rfl))] at hl
  refine lv_istore (lv' := [(5, .int (Int32.ofInt rk)), (0, .ref b), (1, .ref (α1 10 0)), (2, .ref (α1 11 0)), (3, .ref (α1 103 0)), (4, .int (Int32.ofInt i))]) X.1.1 X.1.2.1 dL_law_2319 hl (by decide) rfl (fun ls hl => ?_)
  refine lv_aload_n X.1.1 X.1.2.1 dL_law_2321 rfl (lv_at hl 3 rfl) ?_
  refine la_arg 1 5 X V hS hl rfl rfl ⟨by omega, by omega⟩ dL_law_2322 dL_law_2323 dL_law_2325 dL_law_2326 dL_law_2327 ?_
  refine la_arg 1 5 X V hS hl rfl rfl ⟨by omega, by omega⟩ dL_law_2328 dL_law_2329 dL_law_2331 dL_law_2332 dL_law_2333 ?_
  refine cs_X10_carriedByCells X (sx_R _ _) (sx_R _ _) (kc := 12) hRr ⟨by omega, by omega⟩ (by decide) hR hS kw_2065 hl.1 dL_law_2334 (Nat.le_of_ble_eq_true rfl) hw (fun r1 N1 H locs hw hr1 hR hS => ?_)
  refine lv_istore (lv' := [(6, .int (Int32.ofInt r1)), (5, .int (Int32.ofInt rk)), (0, .ref b), (1, .ref (α1 10 0)), (2, .ref (α1 11 0)), (3, .ref (α1 103 0)), (4, .int (Int32.ofInt i))]) X.1.1 X.1.2.1 dL_law_2337 hl (by decide) rfl (fun ls hl => ?_)
  refine lv_aload_n X.1.1 X.1.2.1 dL_law_2339 rfl (lv_at hl 4 rfl) ?_
  refine cs_X10_thrown X  (kc := 12) hRr ⟨by omega, by omega⟩ (by decide) hR hS kw_1710 hl.1 dL_law_2340 (Nat.le_of_ble_eq_true rfl) hw (fun r2 N2 H locs hw hr2 hR hS => ?_)
  refine lv_iload X.1.1 X.1.2.1 dL_law_2343 (lv_at hl 1 rfl) ?_
  obtain ⟨hc, hw⟩ := hw
  refine sa_icmp_eq (tgt := 2350) X.1 hr2 hrk dL_law_2345 (by decide) (fun _ => ?_) (fun z => absurd hc z)
  obtain ⟨hcv, hw⟩ := hw
  refine cut_j (A := W p l e R s m args below meth c H locs (cells + 3) (slots + 18) Q (F0 m 2367 ls [])) (fun hE => ?_) ?_
  · refine lv_iload X.1.1 X.1.2.1 dL_law_2350 (lv_at hl 1 rfl) ?_
    refine sa_if_ne (tgt := 2367) X.1 hrk dL_law_2352 (by decide) (fun _ => hE) (fun h0 => ?_)
    refine lv_aload_n X.1.1 X.1.2.1 dL_law_2355 rfl (lv_at hl 5 rfl) ?_
    refine sa_const X.1 dL_law_2356 ?_
    refine sa_lld X hR dL_law_2357 ?_
    refine lv_iload X.1.1 X.1.2.1 dL_law_2358 (lv_at hl 0 rfl) ?_
    refine lv_i2l X.1.1 X.1.2.1 dL_law_2360 rfl ?_
    exact sa_lcmp_eq (tgt := 2367) X.1 (hR.r 103 0 0) hr1 dL_law_2361 dL_law_2362 (by decide) (fun _ => hE) (fun z => absurd (hcv h0) z)
  refine lv_goto (tgt := 2370) X.1.1 X.1.2.1 dL_law_2367 (by decide) ?_
  refine W.widen (k := cells + 8) (n := slots + 2100) (by omega) (by omega) ?_
  exact kk κ1 α1 N2 _ _ _ hw X.2.2.1 hR hS (lv_sub hl [2, 3, 4, 5, 6] rfl)
end LC
