def wp_law_13 (p1 : Int) (κ : Nat → Int) (M : Mem) (K : (Nat → Int) → Mem → Prop) : Prop := wp_L_least p1 κ M (fun rk κ1 M1 => wp_X10_least p1 M1 (fun r1 N1 => wp_X10_thrown N1 (fun r2 N2 => (r2 = rk) ∧ (rk = 0 → N2 103 0 0 = r1) ∧ K κ1 N2)))
def wp_law_14 (p1 : Int) (κ : Nat → Int) (M : Mem) (K : (Nat → Int) → Mem → Prop) : Prop := wp_L_most p1 κ M (fun rk κ1 M1 => wp_X10_most p1 M1 (fun r1 N1 => wp_X10_thrown N1 (fun r2 N2 => (r2 = rk) ∧ (rk = 0 → N2 103 0 0 = r1) ∧ K κ1 N2)))
def wp_law_15 (p1 : Int) (κ : Nat → Int) (M : Mem) (K : (Nat → Int) → Mem → Prop) : Prop := wp_L_width p1 κ M (fun rk κ1 M1 => wp_X10_width p1 M1 (fun r1 N1 => wp_X10_thrown N1 (fun r2 N2 => (r2 = rk) ∧ (rk = 0 → N2 103 0 0 = r1) ∧ K κ1 N2)))
def wp_law_16 (κ : Nat → Int) (M : Mem) (K : (Nat → Int) → Mem → Prop) : Prop := wp_X9_over M (fun r1 N1 => wp_X10_over N1 (fun r2 N2 => (r1 = r2) ∧ K κ N2))
def wp_law_17 (p1 : Int) (κ : Nat → Int) (M : Mem) (K : (Nat → Int) → Mem → Prop) : Prop := wp_L_point p1 κ M (fun rk κ1 M1 => wp_X10_point p1 M1 (fun r1 N1 => wp_X10_thrown N1 (fun r2 N2 => (r2 = rk) ∧ (rk = 0 → N2 103 0 0 = r1) ∧ K κ1 N2)))
def wp_law_18 (p1 : Int) (κ : Nat → Int) (M : Mem) (K : (Nat → Int) → Mem → Prop) : Prop := wp_L_begins p1 κ M (fun rk κ1 M1 => wp_X10_begins p1 M1 (fun r1 N1 => wp_X10_thrown N1 (fun r2 N2 => (r2 = rk) ∧ (rk = 0 → N2 103 0 0 = r1) ∧ K κ1 N2)))
def wp_law_19 (p1 : Int) (κ : Nat → Int) (M : Mem) (K : (Nat → Int) → Mem → Prop) : Prop := wp_L_lines p1 κ M (fun rk κ1 M1 => wp_X10_lines p1 M1 (fun r1 N1 => wp_X10_thrown N1 (fun r2 N2 => (r2 = rk) ∧ (rk = 0 → N2 103 0 0 = r1) ∧ K κ1 N2)))
def wp_law_20 (p1 : Int) (κ : Nat → Int) (M : Mem) (K : (Nat → Int) → Mem → Prop) : Prop := wp_L_height p1 κ M (fun rk κ1 M1 => wp_X10_height p1 M1 (fun r1 N1 => wp_X10_thrown N1 (fun r2 N2 => (r2 = rk) ∧ (rk = 0 → N2 103 0 0 = r1) ∧ K κ1 N2)))
def wp_law_21 (p1 : Int) (κ : Nat → Int) (M : Mem) (K : (Nat → Int) → Mem → Prop) : Prop := wp_L_heightByCells p1 κ M (fun rk κ1 M1 => wp_X10_heightByCells p1 M1 (fun r1 N1 => wp_X10_thrown N1 (fun r2 N2 => (r2 = rk) ∧ (rk = 0 → N2 103 0 0 = r1) ∧ K κ1 N2)))
def wp_law_22 (κ : Nat → Int) (M : Mem) (K : (Nat → Int) → Mem → Prop) : Prop := wp_X9_tableHeight M (fun r1 N1 => wp_X10_tableHeight N1 (fun r2 N2 => (r1 = r2) ∧ K κ N2))
def wp_law_23 (κ : Nat → Int) (M : Mem) (K : (Nat → Int) → Mem → Prop) : Prop := wp_L_leastHeight κ M (fun rk κ1 M1 => wp_X10_leastHeight M1 (fun r1 N1 => wp_X10_thrown N1 (fun r2 N2 => (r2 = rk) ∧ (rk = 0 → N2 103 0 0 = r1) ∧ K κ1 N2)))
def wp_law_24 (p1 : Int) (p2 : Int) (p3 : Int) (p4 : Int) (κ : Nat → Int) (M : Mem) (K : (Nat → Int) → Mem → Prop) : Prop := wp_L_border p1 p2 p3 p4 κ M (fun rk κ1 M1 => wp_X10_border p1 p2 p3 p4 M1 (fun r1 N1 => wp_X10_thrown N1 (fun r2 N2 => (r2 = rk) ∧ (rk = 0 → N2 103 0 0 = r1) ∧ K κ1 N2)))
section LC
variable {p : Program} {l : Launch} {e : Env} {R : Room} {s : State} {m : MethodId} {args : Array Value} {below : List Frame} {meth : Method} {c : Code} {H : Heap} {locs : List Loc} {cells slots : Nat} {Q : State → Prop}
variable {ls : Array Slot} {G : Gx} {e0 : Nat} {α : Ax} {κ : Nat → Int} {B : Nat} {M : Mem} {b L : Nat} {xs : Nat → Int32}
set_option maxHeartbeats 4000000 in
set_option maxRecDepth 100000 in
theorem law_c13 (X : CX p m c cL_law 7 s args "TablePagesLaw" G B κ meth ret) (N : NcA s) (V : LV s B b L xs) (hlt : l.stackTraces = false) (he0 : e0 = G.2.2.2.2.2) {i : Int} (hi0 : 0 ≤ i) (hi5 : i + 5 ≤ (L : Int)) {K : (Nat → Int) → Mem → Prop} (hw : wp_law_13 (sx xs (i + 1)) κ M K) (hR : Rp G e0 α κ B M H) (hS : va_S (fun q => B ≤ q) s.heap H locs) (hc1 : cells + 8 ≤ R.cells) (hc2 : slots + 2100 ≤ R.slots) (hRr : RmOK R 12) (hl : lv_has ls 7 [(0, .ref b), (1, .ref (α 10 0)), (2, .ref (α 11 0)), (3, .ref (α 103 0)), (4, .int (Int32.ofInt i))])
    (kk : LK p l e R s m args below meth c G e0 B b i K (cells + 8) (slots + 2100) Q) : W p l e R s m args below meth c H locs cells slots Q (F0 m 1059 ls []) := by
  have hw : wp_L_least (sx xs (i + 1)) κ M (fun rk κ1 M1 => wp_X10_least (sx xs (i + 1)) M1 (fun r1 N1 => wp_X10_thrown N1 (fun r2 N2 => (r2 = rk) ∧ (rk = 0 → N2 103 0 0 = r1) ∧ K κ1 N2))) := hw
  refine lv_aload_n X.1.1 X.1.2.1 dL_law_1059 rfl (lv_at hl 1 rfl) ?_
  refine la_arg 0 4 X V hS hl rfl rfl ⟨by omega, by omega⟩ dL_law_1060 dL_law_1061 dL_law_1063 dL_law_1064 dL_law_1065 ?_
  refine lv_aload_n X.1.1 X.1.2.1 dL_law_1066 rfl (lv_at hl 3 rfl) ?_
  refine sl_call 9 (n := 3) (As := [.ref (α 10 0), .int (Int32.ofInt (sx xs (i + 1))), .ref (α 103 0)]) (rest := []) X N hR hS (w_L_least hlt he0 X.2.2.1 (sx_R _ _) hw) kw_1241 kw_1242 kw_93 kw_1243 ⟨by decide +kernel, by decide +kernel, by decide +kernel⟩ (rm_law hRr (by decide) (by decide)) rfl rfl (Nat.le_of_ble_eq_true rfl) hl.1 dL_law_1067 ⟨by omega, by omega⟩ (fun rk κ1 α1 M1 H locs hw hrk hA hk hR hS => ?_)
  have X := X.re hk
  rw [← hA 10 (Or.inl rfl), ← hA 11 (Or.inr (Or.inl rfl)), ← hA 103 (Or.inr (Or.inr rfl))] at hl
  refine lv_istore (lv' := [(5, .int (Int32.ofInt rk)), (0, .ref b), (1, .ref (α1 10 0)), (2, .ref (α1 11 0)), (3, .ref (α1 103 0)), (4, .int (Int32.ofInt i))]) X.1.1 X.1.2.1 dL_law_1070 hl (by decide) rfl (fun ls hl => ?_)
  refine lv_aload_n X.1.1 X.1.2.1 dL_law_1072 rfl (lv_at hl 3 rfl) ?_
  refine la_arg 1 5 X V hS hl rfl rfl ⟨by omega, by omega⟩ dL_law_1073 dL_law_1074 dL_law_1076 dL_law_1077 dL_law_1078 ?_
  refine cs_X10_least X (sx_R _ _) (kc := 12) hRr ⟨by omega, by omega⟩ (by decide) hR hS kw_1807 hl.1 dL_law_1079 (Nat.le_of_ble_eq_true rfl) hw (fun r1 N1 H locs hw hr1 hR hS => ?_)
  refine lv_istore (lv' := [(6, .int (Int32.ofInt r1)), (5, .int (Int32.ofInt rk)), (0, .ref b), (1, .ref (α1 10 0)), (2, .ref (α1 11 0)), (3, .ref (α1 103 0)), (4, .int (Int32.ofInt i))]) X.1.1 X.1.2.1 dL_law_1082 hl (by decide) rfl (fun ls hl => ?_)
  refine lv_aload_n X.1.1 X.1.2.1 dL_law_1084 rfl (lv_at hl 4 rfl) ?_
  refine cs_X10_thrown X  (kc := 12) hRr ⟨by omega, by omega⟩ (by decide) hR hS kw_1710 hl.1 dL_law_1085 (Nat.le_of_ble_eq_true rfl) hw (fun r2 N2 H locs hw hr2 hR hS => ?_)
  refine lv_iload X.1.1 X.1.2.1 dL_law_1088 (lv_at hl 1 rfl) ?_
  obtain ⟨hc, hw⟩ := hw
  refine sa_icmp_eq (tgt := 1095) X.1 hr2 hrk dL_law_1090 (by decide) (fun _ => ?_) (fun z => absurd hc z)
  obtain ⟨hcv, hw⟩ := hw
  refine cut_j (A := W p l e R s m args below meth c H locs (cells + 1) (slots + 6) Q (F0 m 1112 ls [])) (fun hE => ?_) ?_
  · refine lv_iload X.1.1 X.1.2.1 dL_law_1095 (lv_at hl 1 rfl) ?_
    refine sa_if_ne (tgt := 1112) X.1 hrk dL_law_1097 (by decide) (fun _ => hE) (fun h0 => ?_)
    refine lv_aload_n X.1.1 X.1.2.1 dL_law_1100 rfl (lv_at hl 5 rfl) ?_
    refine sa_const X.1 dL_law_1101 ?_
    refine sa_lld X hR dL_law_1102 ?_
    refine lv_iload X.1.1 X.1.2.1 dL_law_1103 (lv_at hl 0 rfl) ?_
    refine lv_i2l X.1.1 X.1.2.1 dL_law_1105 rfl ?_
    exact sa_lcmp_eq (tgt := 1112) X.1 (hR.r 103 0 0) hr1 dL_law_1106 dL_law_1107 (by decide) (fun _ => hE) (fun z => absurd (hcv h0) z)
  refine lv_goto (tgt := 2370) X.1.1 X.1.2.1 dL_law_1112 (by decide) ?_
  refine W.widen (k := cells + 8) (n := slots + 2100) (by omega) (by omega) ?_
  exact kk κ1 α1 N2 _ _ _ hw X.2.2.1 hR hS (lv_sub hl [2, 3, 4, 5, 6] rfl)
set_option maxHeartbeats 4000000 in
set_option maxRecDepth 100000 in
theorem law_c14 (X : CX p m c cL_law 7 s args "TablePagesLaw" G B κ meth ret) (N : NcA s) (V : LV s B b L xs) (hlt : l.stackTraces = false) (he0 : e0 = G.2.2.2.2.2) {i : Int} (hi0 : 0 ≤ i) (hi5 : i + 5 ≤ (L : Int)) {K : (Nat → Int) → Mem → Prop} (hw : wp_law_14 (sx xs (i + 1)) κ M K) (hR : Rp G e0 α κ B M H) (hS : va_S (fun q => B ≤ q) s.heap H locs) (hc1 : cells + 8 ≤ R.cells) (hc2 : slots + 2100 ≤ R.slots) (hRr : RmOK R 12) (hl : lv_has ls 7 [(0, .ref b), (1, .ref (α 10 0)), (2, .ref (α 11 0)), (3, .ref (α 103 0)), (4, .int (Int32.ofInt i))])
    (kk : LK p l e R s m args below meth c G e0 B b i K (cells + 8) (slots + 2100) Q) : W p l e R s m args below meth c H locs cells slots Q (F0 m 1115 ls []) := by
  have hw : wp_L_most (sx xs (i + 1)) κ M (fun rk κ1 M1 => wp_X10_most (sx xs (i + 1)) M1 (fun r1 N1 => wp_X10_thrown N1 (fun r2 N2 => (r2 = rk) ∧ (rk = 0 → N2 103 0 0 = r1) ∧ K κ1 N2))) := hw
  refine lv_aload_n X.1.1 X.1.2.1 dL_law_1115 rfl (lv_at hl 1 rfl) ?_
  refine la_arg 0 4 X V hS hl rfl rfl ⟨by omega, by omega⟩ dL_law_1116 dL_law_1117 dL_law_1119 dL_law_1120 dL_law_1121 ?_
  refine lv_aload_n X.1.1 X.1.2.1 dL_law_1122 rfl (lv_at hl 3 rfl) ?_
  refine sl_call 9 (n := 3) (As := [.ref (α 10 0), .int (Int32.ofInt (sx xs (i + 1))), .ref (α 103 0)]) (rest := []) X N hR hS (w_L_most hlt he0 X.2.2.1 (sx_R _ _) hw) kw_1248 kw_1249 kw_93 kw_1250 ⟨by decide +kernel, by decide +kernel, by decide +kernel⟩ (rm_law hRr (by decide) (by decide)) rfl rfl (Nat.le_of_ble_eq_true rfl) hl.1 dL_law_1123 ⟨by omega, by omega⟩ (fun rk κ1 α1 M1 H locs hw hrk hA hk hR hS => ?_)
  have X := X.re hk
  rw [← hA 10 (Or.inl rfl), ← hA 11 (Or.inr (Or.inl rfl)), ← hA 103 (Or.inr (Or.inr rfl))] at hl
  refine lv_istore (lv' := [(5, .int (Int32.ofInt rk)), (0, .ref b), (1, .ref (α1 10 0)), (2, .ref (α1 11 0)), (3, .ref (α1 103 0)), (4, .int (Int32.ofInt i))]) X.1.1 X.1.2.1 dL_law_1126 hl (by decide) rfl (fun ls hl => ?_)
  refine lv_aload_n X.1.1 X.1.2.1 dL_law_1128 rfl (lv_at hl 3 rfl) ?_
  refine la_arg 1 5 X V hS hl rfl rfl ⟨by omega, by omega⟩ dL_law_1129 dL_law_1130 dL_law_1132 dL_law_1133 dL_law_1134 ?_
  refine cs_X10_most X (sx_R _ _) (kc := 12) hRr ⟨by omega, by omega⟩ (by decide) hR hS kw_1853 hl.1 dL_law_1135 (Nat.le_of_ble_eq_true rfl) hw (fun r1 N1 H locs hw hr1 hR hS => ?_)
  refine lv_istore (lv' := [(6, .int (Int32.ofInt r1)), (5, .int (Int32.ofInt rk)), (0, .ref b), (1, .ref (α1 10 0)), (2, .ref (α1 11 0)), (3, .ref (α1 103 0)), (4, .int (Int32.ofInt i))]) X.1.1 X.1.2.1 dL_law_1138 hl (by decide) rfl (fun ls hl => ?_)
  refine lv_aload_n X.1.1 X.1.2.1 dL_law_1140 rfl (lv_at hl 4 rfl) ?_
  refine cs_X10_thrown X  (kc := 12) hRr ⟨by omega, by omega⟩ (by decide) hR hS kw_1710 hl.1 dL_law_1141 (Nat.le_of_ble_eq_true rfl) hw (fun r2 N2 H locs hw hr2 hR hS => ?_)
  refine lv_iload X.1.1 X.1.2.1 dL_law_1144 (lv_at hl 1 rfl) ?_
  obtain ⟨hc, hw⟩ := hw
  refine sa_icmp_eq (tgt := 1151) X.1 hr2 hrk dL_law_1146 (by decide) (fun _ => ?_) (fun z => absurd hc z)
  obtain ⟨hcv, hw⟩ := hw
  refine cut_j (A := W p l e R s m args below meth c H locs (cells + 1) (slots + 6) Q (F0 m 1168 ls [])) (fun hE => ?_) ?_
  · refine lv_iload X.1.1 X.1.2.1 dL_law_1151 (lv_at hl 1 rfl) ?_
    refine sa_if_ne (tgt := 1168) X.1 hrk dL_law_1153 (by decide) (fun _ => hE) (fun h0 => ?_)
    refine lv_aload_n X.1.1 X.1.2.1 dL_law_1156 rfl (lv_at hl 5 rfl) ?_
    refine sa_const X.1 dL_law_1157 ?_
    refine sa_lld X hR dL_law_1158 ?_
    refine lv_iload X.1.1 X.1.2.1 dL_law_1159 (lv_at hl 0 rfl) ?_
    refine lv_i2l X.1.1 X.1.2.1 dL_law_1161 rfl ?_
    exact sa_lcmp_eq (tgt := 1168) X.1 (hR.r 103 0 0) hr1 dL_law_1162 dL_law_1163 (by decide) (fun _ => hE) (fun z => absurd (hcv h0) z)
  refine lv_goto (tgt := 2370) X.1.1 X.1.2.1 dL_law_1168 (by decide) ?_
  refine W.widen (k := cells + 8) (n := slots + 2100) (by omega) (by omega) ?_
  exact kk κ1 α1 N2 _ _ _ hw X.2.2.1 hR hS (lv_sub hl [2, 3, 4, 5, 6] rfl)
set_option maxHeartbeats 4000000 in
set_option maxRecDepth 100000 in
theorem law_c15 (X : CX p m c cL_law 7 s args "TablePagesLaw" G B κ meth ret) (N : NcA s) (V : LV s B b L xs) (hlt : l.stackTraces = false) (he0 : e0 = G.2.2.2.2.2) {i : Int} (hi0 : 0 ≤ i) (hi5 : i + 5 ≤ (L : Int)) {K : (Nat → Int) → Mem → Prop} (hw : wp_law_15 (sx xs (i + 1)) κ M K) (hR : Rp G e0 α κ B M H) (hS : va_S (fun q => B ≤ q) s.heap H locs) (hc1 : cells + 8 ≤ R.cells) (hc2 : slots + 2100 ≤ R.slots) (hRr : RmOK R 12) (hl : lv_has ls 7 [(0, .ref b), (1, .ref (α 10 0)), (2, .ref (α 11 0)), (3, .ref (α 103 0)), (4, .int (Int32.ofInt i))])
    (kk : LK p l e R s m args below meth c G e0 B b i K (cells + 8) (slots + 2100) Q) : W p l e R s m args below meth c H locs cells slots Q (F0 m 1171 ls []) := by
  have hw : wp_L_width (sx xs (i + 1)) κ M (fun rk κ1 M1 => wp_X10_width (sx xs (i + 1)) M1 (fun r1 N1 => wp_X10_thrown N1 (fun r2 N2 => (r2 = rk) ∧ (rk = 0 → N2 103 0 0 = r1) ∧ K κ1 N2))) := hw
  refine lv_aload_n X.1.1 X.1.2.1 dL_law_1171 rfl (lv_at hl 1 rfl) ?_
  refine la_arg 0 4 X V hS hl rfl rfl ⟨by omega, by omega⟩ dL_law_1172 dL_law_1173 dL_law_1175 dL_law_1176 dL_law_1177 ?_
  refine lv_aload_n X.1.1 X.1.2.1 dL_law_1178 rfl (lv_at hl 3 rfl) ?_
  refine sl_call 9 (n := 3) (As := [.ref (α 10 0), .int (Int32.ofInt (sx xs (i + 1))), .ref (α 103 0)]) (rest := []) X N hR hS (w_L_width hlt he0 X.2.2.1 (sx_R _ _) hw) kw_1255 kw_1256 kw_93 kw_1257 ⟨by decide +kernel, by decide +kernel, by decide +kernel⟩ (rm_law hRr (by decide) (by decide)) rfl rfl (Nat.le_of_ble_eq_true rfl) hl.1 dL_law_1179 ⟨by omega, by omega⟩ (fun rk κ1 α1 M1 H locs hw hrk hA hk hR hS => ?_)
  have X := X.re hk
  rw [← hA 10 (Or.inl rfl), ← hA 11 (Or.inr (Or.inl rfl)), ← hA 103 (Or.inr (Or.inr rfl))] at hl
  refine lv_istore (lv' := [(5, .int (Int32.ofInt rk)), (0, .ref b), (1, .ref (α1 10 0)), (2, .ref (α1 11 0)), (3, .ref (α1 103 0)), (4, .int (Int32.ofInt i))]) X.1.1 X.1.2.1 dL_law_1182 hl (by decide) rfl (fun ls hl => ?_)
  refine lv_aload_n X.1.1 X.1.2.1 dL_law_1184 rfl (lv_at hl 3 rfl) ?_
  refine la_arg 1 5 X V hS hl rfl rfl ⟨by omega, by omega⟩ dL_law_1185 dL_law_1186 dL_law_1188 dL_law_1189 dL_law_1190 ?_
  refine cs_X10_width X (sx_R _ _) (kc := 12) hRr ⟨by omega, by omega⟩ (by decide) hR hS kw_1857 hl.1 dL_law_1191 (Nat.le_of_ble_eq_true rfl) hw (fun r1 N1 H locs hw hr1 hR hS => ?_)
  refine lv_istore (lv' := [(6, .int (Int32.ofInt r1)), (5, .int (Int32.ofInt rk)), (0, .ref b), (1, .ref (α1 10 0)), (2, .ref (α1 11 0)), (3, .ref (α1 103 0)), (4, .int (Int32.ofInt i))]) X.1.1 X.1.2.1 dL_law_1194 hl (by decide) rfl (fun ls hl => ?_)
  refine lv_aload_n X.1.1 X.1.2.1 dL_law_1196 rfl (lv_at hl 4 rfl) ?_
  refine cs_X10_thrown X  (kc := 12) hRr ⟨by omega, by omega⟩ (by decide) hR hS kw_1710 hl.1 dL_law_1197 (Nat.le_of_ble_eq_true rfl) hw (fun r2 N2 H locs hw hr2 hR hS => ?_)
  refine lv_iload X.1.1 X.1.2.1 dL_law_1200 (lv_at hl 1 rfl) ?_
  obtain ⟨hc, hw⟩ := hw
  refine sa_icmp_eq (tgt := 1207) X.1 hr2 hrk dL_law_1202 (by decide) (fun _ => ?_) (fun z => absurd hc z)
  obtain ⟨hcv, hw⟩ := hw
  refine cut_j (A := W p l e R s m args below meth c H locs (cells + 1) (slots + 6) Q (F0 m 1224 ls [])) (fun hE => ?_) ?_
  · refine lv_iload X.1.1 X.1.2.1 dL_law_1207 (lv_at hl 1 rfl) ?_
    refine sa_if_ne (tgt := 1224) X.1 hrk dL_law_1209 (by decide) (fun _ => hE) (fun h0 => ?_)
    refine lv_aload_n X.1.1 X.1.2.1 dL_law_1212 rfl (lv_at hl 5 rfl) ?_
    refine sa_const X.1 dL_law_1213 ?_
    refine sa_lld X hR dL_law_1214 ?_
    refine lv_iload X.1.1 X.1.2.1 dL_law_1215 (lv_at hl 0 rfl) ?_
    refine lv_i2l X.1.1 X.1.2.1 dL_law_1217 rfl ?_
    exact sa_lcmp_eq (tgt := 1224) X.1 (hR.r 103 0 0) hr1 dL_law_1218 dL_law_1219 (by decide) (fun _ => hE) (fun z => absurd (hcv h0) z)
  refine lv_goto (tgt := 2370) X.1.1 X.1.2.1 dL_law_1224 (by decide) ?_
  refine W.widen (k := cells + 8) (n := slots + 2100) (by omega) (by omega) ?_
  exact kk κ1 α1 N2 _ _ _ hw X.2.2.1 hR hS (lv_sub hl [2, 3, 4, 5, 6] rfl)
set_option maxHeartbeats 4000000 in
set_option maxRecDepth 100000 in
theorem law_c16 (X : CX p m c cL_law 7 s args "TablePagesLaw" G B κ meth ret) (N : NcA s) (V : LV s B b L xs) (hlt : l.stackTraces = false) (he0 : e0 = G.2.2.2.2.2) {i : Int} (hi0 : 0 ≤ i) (hi5 : i + 5 ≤ (L : Int)) {K : (Nat → Int) → Mem → Prop} (hw : wp_law_16 κ M K) (hR : Rp G e0 α κ B M H) (hS : va_S (fun q => B ≤ q) s.heap H locs) (hc1 : cells + 8 ≤ R.cells) (hc2 : slots + 2100 ≤ R.slots) (hRr : RmOK R 12) (hl : lv_has ls 7 [(0, .ref b), (1, .ref (α 10 0)), (2, .ref (α 11 0)), (3, .ref (α 103 0)), (4, .int (Int32.ofInt i))])
    (kk : LK p l e R s m args below meth c G e0 B b i K (cells + 8) (slots + 2100) Q) : W p l e R s m args below meth c H locs cells slots Q (F0 m 1227 ls []) := by
  have hw : wp_X9_over M (fun r1 N1 => wp_X10_over N1 (fun r2 N2 => (r1 = r2) ∧ K κ N2)) := hw
  refine lv_aload_n X.1.1 X.1.2.1 dL_law_1227 rfl (lv_at hl 1 rfl) ?_
  refine cs_X9_over X  (kc := 12) hRr ⟨by omega, by omega⟩ (by decide) hR hS kw_422 hl.1 dL_law_1228 (Nat.le_of_ble_eq_true rfl) hw (fun r1 N1 H locs hw hr1 hR hS => ?_)
  refine lv_aload_n X.1.1 X.1.2.1 dL_law_1231 rfl (lv_at hl 2 rfl) ?_
  refine cs_X10_over X  (kc := 12) hRr ⟨by omega, by omega⟩ (by decide) hR hS kw_1884 hl.1 dL_law_1232 (Nat.le_of_ble_eq_true rfl) hw (fun r2 N2 H locs hw hr2 hR hS => ?_)
  obtain ⟨hc, hw⟩ := hw
  refine sa_icmp_eq (tgt := 2370) X.1 hr1 hr2 dL_law_1235 (by decide) (fun _ => ?_) (fun z => absurd hc z)
  refine W.widen (k := cells + 8) (n := slots + 2100) (by omega) (by omega) ?_
  exact kk κ α N2 _ _ _ hw X.2.2.1 hR hS (lv_sub hl [0, 1, 2, 3, 4] rfl)
set_option maxHeartbeats 4000000 in
set_option maxRecDepth 100000 in
theorem law_c17 (X : CX p m c cL_law 7 s args "TablePagesLaw" G B κ meth ret) (N : NcA s) (V : LV s B b L xs) (hlt : l.stackTraces = false) (he0 : e0 = G.2.2.2.2.2) {i : Int} (hi0 : 0 ≤ i) (hi5 : i + 5 ≤ (L : Int)) {K : (Nat → Int) → Mem → Prop} (hw : wp_law_17 (sx xs (i + 1)) κ M K) (hR : Rp G e0 α κ B M H) (hS : va_S (fun q => B ≤ q) s.heap H locs) (hc1 : cells + 8 ≤ R.cells) (hc2 : slots + 2100 ≤ R.slots) (hRr : RmOK R 12) (hl : lv_has ls 7 [(0, .ref b), (1, .ref (α 10 0)), (2, .ref (α 11 0)), (3, .ref (α 103 0)), (4, .int (Int32.ofInt i))])
    (kk : LK p l e R s m args below meth c G e0 B b i K (cells + 8) (slots + 2100) Q) : W p l e R s m args below meth c H locs cells slots Q (F0 m 1240 ls []) := by
  have hw : wp_L_point (sx xs (i + 1)) κ M (fun rk κ1 M1 => wp_X10_point (sx xs (i + 1)) M1 (fun r1 N1 => wp_X10_thrown N1 (fun r2 N2 => (r2 = rk) ∧ (rk = 0 → N2 103 0 0 = r1) ∧ K κ1 N2))) := hw
  refine lv_aload_n X.1.1 X.1.2.1 dL_law_1240 rfl (lv_at hl 1 rfl) ?_
  refine la_arg 0 4 X V hS hl rfl rfl ⟨by omega, by omega⟩ dL_law_1241 dL_law_1242 dL_law_1244 dL_law_1245 dL_law_1246 ?_
  refine lv_aload_n X.1.1 X.1.2.1 dL_law_1247 rfl (lv_at hl 3 rfl) ?_
  refine sl_call 9 (n := 3) (As := [.ref (α 10 0), .int (Int32.ofInt (sx xs (i + 1))), .ref (α 103 0)]) (rest := []) X N hR hS (w_L_point hlt he0 X.2.2.1 (sx_R _ _) hw) kw_1262 kw_1263 kw_93 kw_1264 ⟨by decide +kernel, by decide +kernel, by decide +kernel⟩ (rm_law hRr (by decide) (by decide)) rfl rfl (Nat.le_of_ble_eq_true rfl) hl.1 dL_law_1248 ⟨by omega, by omega⟩ (fun rk κ1 α1 M1 H locs hw hrk hA hk hR hS => ?_)
  have X := X.re hk
  rw [← hA 10 (Or.inl rfl), ← hA 11 (Or.inr (Or.inl rfl)), ← hA 103 (Or.inr (Or.inr rfl))] at hl
  refine lv_istore (lv' := [(5, .int (Int32.ofInt rk)), (0, .ref b), (1, .ref (α1 10 0)), (2, .ref (α1 11 0)), (3, .ref (α1 103 0)), (4, .int (Int32.ofInt i))]) X.1.1 X.1.2.1 dL_law_1251 hl (by decide) rfl (fun ls hl => ?_)
  refine lv_aload_n X.1.1 X.1.2.1 dL_law_1253 rfl (lv_at hl 3 rfl) ?_
  refine la_arg 1 5 X V hS hl rfl rfl ⟨by omega, by omega⟩ dL_law_1254 dL_law_1255 dL_law_1257 dL_law_1258 dL_law_1259 ?_
  refine cs_X10_point X (sx_R _ _) (kc := 12) hRr ⟨by omega, by omega⟩ (by decide) hR hS kw_1888 hl.1 dL_law_1260 (Nat.le_of_ble_eq_true rfl) hw (fun r1 N1 H locs hw hr1 hR hS => ?_)
  refine lv_istore (lv' := [(6, .int (Int32.ofInt r1)), (5, .int (Int32.ofInt rk)), (0, .ref b), (1, .ref (α1 10 0)), (2, .ref (α1 11 0)), (3, .ref (α1 103 0)), (4, .int (Int32.ofInt i))]) X.1.1 X.1.2.1 dL_law_1263 hl (by decide) rfl (fun ls hl => ?_)
  refine lv_aload_n X.1.1 X.1.2.1 dL_law_1265 rfl (lv_at hl 4 rfl) ?_
  refine cs_X10_thrown X  (kc := 12) hRr ⟨by omega, by omega⟩ (by decide) hR hS kw_1710 hl.1 dL_law_1266 (Nat.le_of_ble_eq_true rfl) hw (fun r2 N2 H locs hw hr2 hR hS => ?_)
  refine lv_iload X.1.1 X.1.2.1 dL_law_1269 (lv_at hl 1 rfl) ?_
  obtain ⟨hc, hw⟩ := hw
  refine sa_icmp_eq (tgt := 1276) X.1 hr2 hrk dL_law_1271 (by decide) (fun _ => ?_) (fun z => absurd hc z)
  obtain ⟨hcv, hw⟩ := hw
  refine cut_j (A := W p l e R s m args below meth c H locs (cells + 2) (slots + 12) Q (F0 m 1293 ls [])) (fun hE => ?_) ?_
  · refine lv_iload X.1.1 X.1.2.1 dL_law_1276 (lv_at hl 1 rfl) ?_
    refine sa_if_ne (tgt := 1293) X.1 hrk dL_law_1278 (by decide) (fun _ => hE) (fun h0 => ?_)
    refine lv_aload_n X.1.1 X.1.2.1 dL_law_1281 rfl (lv_at hl 5 rfl) ?_
    refine sa_const X.1 dL_law_1282 ?_
    refine sa_lld X hR dL_law_1283 ?_
    refine lv_iload X.1.1 X.1.2.1 dL_law_1284 (lv_at hl 0 rfl) ?_
    refine lv_i2l X.1.1 X.1.2.1 dL_law_1286 rfl ?_
    exact sa_lcmp_eq (tgt := 1293) X.1 (hR.r 103 0 0) hr1 dL_law_1287 dL_law_1288 (by decide) (fun _ => hE) (fun z => absurd (hcv h0) z)
  refine lv_goto (tgt := 2370) X.1.1 X.1.2.1 dL_law_1293 (by decide) ?_
  refine W.widen (k := cells + 8) (n := slots + 2100) (by omega) (by omega) ?_
  exact kk κ1 α1 N2 _ _ _ hw X.2.2.1 hR hS (lv_sub hl [2, 3, 4, 5, 6] rfl)
set_option maxHeartbeats 4000000 in
set_option maxRecDepth 100000 in
theorem law_c18 (X : CX p m c cL_law 7 s args "TablePagesLaw" G B κ meth ret) (N : NcA s) (V : LV s B b L xs) (hlt : l.stackTraces = false) (he0 : e0 = G.2.2.2.2.2) {i : Int} (hi0 : 0 ≤ i) (hi5 : i + 5 ≤ (L : Int)) {K : (Nat → Int) → Mem → Prop} (hw : wp_law_18 (sx xs (i + 1)) κ M K) (hR : Rp G e0 α κ B M H) (hS : va_S (fun q => B ≤ q) s.heap H locs) (hc1 : cells + 8 ≤ R.cells) (hc2 : slots + 2100 ≤ R.slots) (hRr : RmOK R 12) (hl : lv_has ls 7 [(0, .ref b), (1, .ref (α 10 0)), (2, .ref (α 11 0)), (3, .ref (α 103 0)), (4, .int (Int32.ofInt i))])
    (kk : LK p l e R s m args below meth c G e0 B b i K (cells + 8) (slots + 2100) Q) : W p l e R s m args below meth c H locs cells slots Q (F0 m 1296 ls []) := by
  have hw : wp_L_begins (sx xs (i + 1)) κ M (fun rk κ1 M1 => wp_X10_begins (sx xs (i + 1)) M1 (fun r1 N1 => wp_X10_thrown N1 (fun r2 N2 => (r2 = rk) ∧ (rk = 0 → N2 103 0 0 = r1) ∧ K κ1 N2))) := hw
  refine lv_aload_n X.1.1 X.1.2.1 dL_law_1296 rfl (lv_at hl 1 rfl) ?_
  refine la_arg 0 4 X V hS hl rfl rfl ⟨by omega, by omega⟩ dL_law_1297 dL_law_1298 dL_law_1300 dL_law_1301 dL_law_1302 ?_
  refine lv_aload_n X.1.1 X.1.2.1 dL_law_1303 rfl (lv_at hl 3 rfl) ?_
  refine sl_call 9 (n := 3) (As := [.ref (α 10 0), .int (Int32.ofInt (sx xs (i + 1))), .ref (α 103 0)]) (rest := []) X N hR hS (w_L_begins hlt he0 X.2.2.1 (sx_R _ _) hw) kw_1275 kw_1276 kw_93 kw_1277 ⟨by decide +kernel, by decide +kernel, by decide +kernel⟩ (rm_law hRr (by decide) (by decide)) rfl rfl (Nat.le_of_ble_eq_true rfl) hl.1 dL_law_1304 ⟨by omega, by omega⟩ (fun rk κ1 α1 M1 H locs hw hrk hA hk hR hS => ?_)
  have X := X.re hk
  rw [← hA 10 (Or.inl rfl), ← hA 11 (Or.inr (Or.inl rfl)), ← hA 103 (Or.inr (Or.inr rfl))] at hl
  refine lv_istore (lv' := [(5, .int (Int32.ofInt rk)), (0, .ref b), (1, .ref (α1 10 0)), (2, .ref (α1 11 0)), (3, .ref (α1 103 0)), (4, .int (Int32.ofInt i))]) X.1.1 X.1.2.1 dL_law_1307 hl (by decide) rfl (fun ls hl => ?_)
  refine lv_aload_n X.1.1 X.1.2.1 dL_law_1309 rfl (lv_at hl 3 rfl) ?_
  refine la_arg 1 5 X V hS hl rfl rfl ⟨by omega, by omega⟩ dL_law_1310 dL_law_1311 dL_law_1313 dL_law_1314 dL_law_1315 ?_
  refine cs_X10_begins X (sx_R _ _) (kc := 12) hRr ⟨by omega, by omega⟩ (by decide) hR hS kw_1896 hl.1 dL_law_1316 (Nat.le_of_ble_eq_true rfl) hw (fun r1 N1 H locs hw hr1 hR hS => ?_)
  refine lv_istore (lv' := [(6, .int (Int32.ofInt r1)), (5, .int (Int32.ofInt rk)), (0, .ref b), (1, .ref (α1 10 0)), (2, .ref (α1 11 0)), (3, .ref (α1 103 0)), (4, .int (Int32.ofInt i))]) X.1.1 X.1.2.1 dL_law_1319 hl (by decide) rfl (fun ls hl => ?_)
  refine lv_aload_n X.1.1 X.1.2.1 dL_law_1321 rfl (lv_at hl 4 rfl) ?_
  refine cs_X10_thrown X  (kc := 12) hRr ⟨by omega, by omega⟩ (by decide) hR hS kw_1710 hl.1 dL_law_1322 (Nat.le_of_ble_eq_true rfl) hw (fun r2 N2 H locs hw hr2 hR hS => ?_)
  refine lv_iload X.1.1 X.1.2.1 dL_law_1325 (lv_at hl 1 rfl) ?_
  obtain ⟨hc, hw⟩ := hw
  refine sa_icmp_eq (tgt := 1332) X.1 hr2 hrk dL_law_1327 (by decide) (fun _ => ?_) (fun z => absurd hc z)
  obtain ⟨hcv, hw⟩ := hw
  refine cut_j (A := W p l e R s m args below meth c H locs (cells + 2) (slots + 12) Q (F0 m 1349 ls [])) (fun hE => ?_) ?_
  · refine lv_iload X.1.1 X.1.2.1 dL_law_1332 (lv_at hl 1 rfl) ?_
    refine sa_if_ne (tgt := 1349) X.1 hrk dL_law_1334 (by decide) (fun _ => hE) (fun h0 => ?_)
    refine lv_aload_n X.1.1 X.1.2.1 dL_law_1337 rfl (lv_at hl 5 rfl) ?_
    refine sa_const X.1 dL_law_1338 ?_
    refine sa_lld X hR dL_law_1339 ?_
    refine lv_iload X.1.1 X.1.2.1 dL_law_1340 (lv_at hl 0 rfl) ?_
    refine lv_i2l X.1.1 X.1.2.1 dL_law_1342 rfl ?_
    exact sa_lcmp_eq (tgt := 1349) X.1 (hR.r 103 0 0) hr1 dL_law_1343 dL_law_1344 (by decide) (fun _ => hE) (fun z => absurd (hcv h0) z)
  refine lv_goto (tgt := 2370) X.1.1 X.1.2.1 dL_law_1349 (by decide) ?_
  refine W.widen (k := cells + 8) (n := slots + 2100) (by omega) (by omega) ?_
  exact kk κ1 α1 N2 _ _ _ hw X.2.2.1 hR hS (lv_sub hl [2, 3, 4, 5, 6] rfl)
set_option maxHeartbeats 4000000 in
set_option maxRecDepth 100000 in
theorem law_c19 (X : CX p m c cL_law 7 s args "TablePagesLaw" G B κ meth ret) (N : NcA s) (V : LV s B b L xs) (hlt : l.stackTraces = false) (he0 : e0 = G.2.2.2.2.2) {i : Int} (hi0 : 0 ≤ i) (hi5 : i + 5 ≤ (L : Int)) {K : (Nat → Int) → Mem → Prop} (hw : wp_law_19 (sx xs (i + 1)) κ M K) (hR : Rp G e0 α κ B M H) (hS : va_S (fun q => B ≤ q) s.heap H locs) (hc1 : cells + 8 ≤ R.cells) (hc2 : slots + 2100 ≤ R.slots) (hRr : RmOK R 12) (hl : lv_has ls 7 [(0, .ref b), (1, .ref (α 10 0)), (2, .ref (α 11 0)), (3, .ref (α 103 0)), (4, .int (Int32.ofInt i))])
    (kk : LK p l e R s m args below meth c G e0 B b i K (cells + 8) (slots + 2100) Q) : W p l e R s m args below meth c H locs cells slots Q (F0 m 1352 ls []) := by
  have hw : wp_L_lines (sx xs (i + 1)) κ M (fun rk κ1 M1 => wp_X10_lines (sx xs (i + 1)) M1 (fun r1 N1 => wp_X10_thrown N1 (fun r2 N2 => (r2 = rk) ∧ (rk = 0 → N2 103 0 0 = r1) ∧ K κ1 N2))) := hw
  refine lv_aload_n X.1.1 X.1.2.1 dL_law_1352 rfl (lv_at hl 1 rfl) ?_
  refine la_arg 0 4 X V hS hl rfl rfl ⟨by omega, by omega⟩ dL_law_1353 dL_law_1354 dL_law_1356 dL_law_1357 dL_law_1358 ?_
  refine lv_aload_n X.1.1 X.1.2.1 dL_law_1359 rfl (lv_at hl 3 rfl) ?_
  refine sl_call 9 (n := 3) (As := [.ref (α 10 0), .int (Int32.ofInt (sx xs (i + 1))), .ref (α 103 0)]) (rest := []) X N hR hS (w_L_lines hlt he0 X.2.2.1 (sx_R _ _) hw) kw_1283 kw_1284 kw_93 kw_1285 ⟨by decide +kernel, by decide +kernel, by decide +kernel⟩ (rm_law hRr (by decide) (by decide)) rfl rfl (Nat.le_of_ble_eq_true rfl) hl.1 dL_law_1360 ⟨by omega, by omega⟩ (fun rk κ1 α1 M1 H locs hw hrk hA hk hR hS => ?_)
  have X := X.re hk
  rw [← hA 10 (Or.inl rfl), ← hA 11 (Or.inr (Or.inl rfl)), ← hA 103 (Or.inr (Or.inr rfl))] at hl
  refine lv_istore (lv' := [(5, .int (Int32.ofInt rk)), (0, .ref b), (1, .ref (α1 10 0)), (2, .ref (α1 11 0)), (3, .ref (α1 103 0)), (4, .int (Int32.ofInt i))]) X.1.1 X.1.2.1 dL_law_1363 hl (by decide) rfl (fun ls hl => ?_)
  refine lv_aload_n X.1.1 X.1.2.1 dL_law_1365 rfl (lv_at hl 3 rfl) ?_
  refine la_arg 1 5 X V hS hl rfl rfl ⟨by omega, by omega⟩ dL_law_1366 dL_law_1367 dL_law_1369 dL_law_1370 dL_law_1371 ?_
  refine cs_X10_lines X (sx_R _ _) (kc := 12) hRr ⟨by omega, by omega⟩ (by decide) hR hS kw_1901 hl.1 dL_law_1372 (Nat.le_of_ble_eq_true rfl) hw (fun r1 N1 H locs hw hr1 hR hS => ?_)
  refine lv_istore (lv' := [(6, .int (Int32.ofInt r1)), (5, .int (Int32.ofInt rk)), (0, .ref b), (1, .ref (α1 10 0)), (2, .ref (α1 11 0)), (3, .ref (α1 103 0)), (4, .int (Int32.ofInt i))]) X.1.1 X.1.2.1 dL_law_1375 hl (by decide) rfl (fun ls hl => ?_)
  refine lv_aload_n X.1.1 X.1.2.1 dL_law_1377 rfl (lv_at hl 4 rfl) ?_
  refine cs_X10_thrown X  (kc := 12) hRr ⟨by omega, by omega⟩ (by decide) hR hS kw_1710 hl.1 dL_law_1378 (Nat.le_of_ble_eq_true rfl) hw (fun r2 N2 H locs hw hr2 hR hS => ?_)
  refine lv_iload X.1.1 X.1.2.1 dL_law_1381 (lv_at hl 1 rfl) ?_
  obtain ⟨hc, hw⟩ := hw
  refine sa_icmp_eq (tgt := 1388) X.1 hr2 hrk dL_law_1383 (by decide) (fun _ => ?_) (fun z => absurd hc z)
  obtain ⟨hcv, hw⟩ := hw
  refine cut_j (A := W p l e R s m args below meth c H locs (cells + 1) (slots + 6) Q (F0 m 1405 ls [])) (fun hE => ?_) ?_
  · refine lv_iload X.1.1 X.1.2.1 dL_law_1388 (lv_at hl 1 rfl) ?_
    refine sa_if_ne (tgt := 1405) X.1 hrk dL_law_1390 (by decide) (fun _ => hE) (fun h0 => ?_)
    refine lv_aload_n X.1.1 X.1.2.1 dL_law_1393 rfl (lv_at hl 5 rfl) ?_
    refine sa_const X.1 dL_law_1394 ?_
    refine sa_lld X hR dL_law_1395 ?_
    refine lv_iload X.1.1 X.1.2.1 dL_law_1396 (lv_at hl 0 rfl) ?_
    refine lv_i2l X.1.1 X.1.2.1 dL_law_1398 rfl ?_
    exact sa_lcmp_eq (tgt := 1405) X.1 (hR.r 103 0 0) hr1 dL_law_1399 dL_law_1400 (by decide) (fun _ => hE) (fun z => absurd (hcv h0) z)
  refine lv_goto (tgt := 2370) X.1.1 X.1.2.1 dL_law_1405 (by decide) ?_
  refine W.widen (k := cells + 8) (n := slots + 2100) (by omega) (by omega) ?_
  exact kk κ1 α1 N2 _ _ _ hw X.2.2.1 hR hS (lv_sub hl [2, 3, 4, 5, 6] rfl)
set_option maxHeartbeats 4000000 in
set_option maxRecDepth 100000 in
theorem law_c20 (X : CX p m c cL_law 7 s args "TablePagesLaw" G B κ meth ret) (N : NcA s) (V : LV s B b L xs) (hlt : l.stackTraces = false) (he0 : e0 = G.2.2.2.2.2) {i : Int} (hi0 : 0 ≤ i) (hi5 : i + 5 ≤ (L : Int)) {K : (Nat → Int) → Mem → Prop} (hw : wp_law_20 (sx xs (i + 1)) κ M K) (hR : Rp G e0 α κ B M H) (hS : va_S (fun q => B ≤ q) s.heap H locs) (hc1 : cells + 8 ≤ R.cells) (hc2 : slots + 2100 ≤ R.slots) (hRr : RmOK R 12) (hl : lv_has ls 7 [(0, .ref b), (1, .ref (α 10 0)), (2, .ref (α 11 0)), (3, .ref (α 103 0)), (4, .int (Int32.ofInt i))])
    (kk : LK p l e R s m args below meth c G e0 B b i K (cells + 8) (slots + 2100) Q) : W p l e R s m args below meth c H locs cells slots Q (F0 m 1408 ls []) := by
  have hw : wp_L_height (sx xs (i + 1)) κ M (fun rk κ1 M1 => wp_X10_height (sx xs (i + 1)) M1 (fun r1 N1 => wp_X10_thrown N1 (fun r2 N2 => (r2 = rk) ∧ (rk = 0 → N2 103 0 0 = r1) ∧ K κ1 N2))) := hw
  refine lv_aload_n X.1.1 X.1.2.1 dL_law_1408 rfl (lv_at hl 1 rfl) ?_
  refine la_arg 0 4 X V hS hl rfl rfl ⟨by omega, by omega⟩ dL_law_1409 dL_law_1410 dL_law_1412 dL_law_1413 dL_law_1414 ?_
  refine lv_aload_n X.1.1 X.1.2.1 dL_law_1415 rfl (lv_at hl 3 rfl) ?_
  refine sl_call 9 (n := 3) (As := [.ref (α 10 0), .int (Int32.ofInt (sx xs (i + 1))), .ref (α 103 0)]) (rest := []) X N hR hS (w_L_height hlt he0 X.2.2.1 (sx_R _ _) hw) kw_1290 kw_1291 kw_93 kw_1292 ⟨by decide +kernel, by decide +kernel, by decide +kernel⟩ (rm_law hRr (by decide) (by decide)) rfl rfl (Nat.le_of_ble_eq_true rfl) hl.1 dL_law_1416 ⟨by omega, by omega⟩ (fun rk κ1 α1 M1 H locs hw hrk hA hk hR hS => ?_)
  have X := X.re hk
  rw [← hA 10 (Or.inl rfl), ← hA 11 (Or.inr (Or.inl rfl)), ← hA 103 (Or.inr (Or.inr rfl))] at hl
  refine lv_istore (lv' := [(5, .int (Int32.ofInt rk)), (0, .ref b), (1, .ref (α1 10 0)), (2, .ref (α1 11 0)), (3, .ref (α1 103 0)), (4, .int (Int32.ofInt i))]) X.1.1 X.1.2.1 dL_law_1419 hl (by decide) rfl (fun ls hl => ?_)
  refine lv_aload_n X.1.1 X.1.2.1 dL_law_1421 rfl (lv_at hl 3 rfl) ?_
  refine la_arg 1 5 X V hS hl rfl rfl ⟨by omega, by omega⟩ dL_law_1422 dL_law_1423 dL_law_1425 dL_law_1426 dL_law_1427 ?_
  refine cs_X10_height X (sx_R _ _) (kc := 12) hRr ⟨by omega, by omega⟩ (by decide) hR hS kw_1913 hl.1 dL_law_1428 (Nat.le_of_ble_eq_true rfl) hw (fun r1 N1 H locs hw hr1 hR hS => ?_)
  refine lv_istore (lv' := [(6, .int (Int32.ofInt r1)), (5, .int (Int32.ofInt rk)), (0, .ref b), (1, .ref (α1 10 0)), (2, .ref (α1 11 0)), (3, .ref (α1 103 0)), (4, .int (Int32.ofInt i))]) X.1.1 X.1.2.1 dL_law_1431 hl (by decide) rfl (fun ls hl => ?_)
  refine lv_aload_n X.1.1 X.1.2.1 dL_law_1433 rfl (lv_at hl 4 rfl) ?_
  refine cs_X10_thrown X  (kc := 12) hRr ⟨by omega, by omega⟩ (by decide) hR hS kw_1710 hl.1 dL_law_1434 (Nat.le_of_ble_eq_true rfl) hw (fun r2 N2 H locs hw hr2 hR hS => ?_)
  refine lv_iload X.1.1 X.1.2.1 dL_law_1437 (lv_at hl 1 rfl) ?_
  obtain ⟨hc, hw⟩ := hw
  refine sa_icmp_eq (tgt := 1444) X.1 hr2 hrk dL_law_1439 (by decide) (fun _ => ?_) (fun z => absurd hc z)
  obtain ⟨hcv, hw⟩ := hw
  refine cut_j (A := W p l e R s m args below meth c H locs (cells + 1) (slots + 6) Q (F0 m 1461 ls [])) (fun hE => ?_) ?_
  · refine lv_iload X.1.1 X.1.2.1 dL_law_1444 (lv_at hl 1 rfl) ?_
    refine sa_if_ne (tgt := 1461) X.1 hrk dL_law_1446 (by decide) (fun _ => hE) (fun h0 => ?_)
    refine lv_aload_n X.1.1 X.1.2.1 dL_law_1449 rfl (lv_at hl 5 rfl) ?_
    refine sa_const X.1 dL_law_1450 ?_
    refine sa_lld X hR dL_law_1451 ?_
    refine lv_iload X.1.1 X.1.2.1 dL_law_1452 (lv_at hl 0 rfl) ?_
    refine lv_i2l X.1.1 X.1.2.1 dL_law_1454 rfl ?_
    exact sa_lcmp_eq (tgt := 1461) X.1 (hR.r 103 0 0) hr1 dL_law_1455 dL_law_1456 (by decide) (fun _ => hE) (fun z => absurd (hcv h0) z)
  refine lv_goto (tgt := 2370) X.1.1 X.1.2.1 dL_law_1461 (by decide) ?_
  refine W.widen (k := cells + 8) (n := slots + 2100) (by omega) (by omega) ?_
  exact kk κ1 α1 N2 _ _ _ hw X.2.2.1 hR hS (lv_sub hl [2, 3, 4, 5, 6] rfl)
set_option maxHeartbeats 4000000 in
set_option maxRecDepth 100000 in
theorem law_c21 (X : CX p m c cL_law 7 s args "TablePagesLaw" G B κ meth ret) (N : NcA s) (V : LV s B b L xs) (hlt : l.stackTraces = false) (he0 : e0 = G.2.2.2.2.2) {i : Int} (hi0 : 0 ≤ i) (hi5 : i + 5 ≤ (L : Int)) {K : (Nat → Int) → Mem → Prop} (hw : wp_law_21 (sx xs (i + 1)) κ M K) (hR : Rp G e0 α κ B M H) (hS : va_S (fun q => B ≤ q) s.heap H locs) (hc1 : cells + 8 ≤ R.cells) (hc2 : slots + 2100 ≤ R.slots) (hRr : RmOK R 12) (hl : lv_has ls 7 [(0, .ref b), (1, .ref (α 10 0)), (2, .ref (α 11 0)), (3, .ref (α 103 0)), (4, .int (Int32.ofInt i))])
    (kk : LK p l e R s m args below meth c G e0 B b i K (cells + 8) (slots + 2100) Q) : W p l e R s m args below meth c H locs cells slots Q (F0 m 1464 ls []) := by
  have hw : wp_L_heightByCells (sx xs (i + 1)) κ M (fun rk κ1 M1 => wp_X10_heightByCells (sx xs (i + 1)) M1 (fun r1 N1 => wp_X10_thrown N1 (fun r2 N2 => (r2 = rk) ∧ (rk = 0 → N2 103 0 0 = r1) ∧ K κ1 N2))) := hw
  refine lv_aload_n X.1.1 X.1.2.1 dL_law_1464 rfl (lv_at hl 1 rfl) ?_
  refine la_arg 0 4 X V hS hl rfl rfl ⟨by omega, by omega⟩ dL_law_1465 dL_law_1466 dL_law_1468 dL_law_1469 dL_law_1470 ?_
  refine lv_aload_n X.1.1 X.1.2.1 dL_law_1471 rfl (lv_at hl 3 rfl) ?_
  refine sl_call 9 (n := 3) (As := [.ref (α 10 0), .int (Int32.ofInt (sx xs (i + 1))), .ref (α 103 0)]) (rest := []) X N hR hS (w_L_heightByCells hlt he0 X.2.2.1 (sx_R _ _) hw) kw_1297 kw_1298 kw_93 kw_1299 ⟨by decide +kernel, by decide +kernel, by decide +kernel⟩ (rm_law hRr (by decide) (by decide)) rfl rfl (Nat.le_of_ble_eq_true rfl) hl.1 dL_law_1472 ⟨by omega, by omega⟩ (fun rk κ1 α1 M1 H locs hw hrk hA hk hR hS => ?_)
  have X := X.re hk
  rw [← hA 10 (Or.inl rfl), ← hA 11 (Or.inr (Or.inl rfl)), ← hA 103 (Or.inr (Or.inr rfl))] at hl
  refine lv_istore (lv' := [(5, .int (Int32.ofInt rk)), (0, .ref b), (1, .ref (α1 10 0)), (2, .ref (α1 11 0)), (3, .ref (α1 103 0)), (4, .int (Int32.ofInt i))]) X.1.1 X.1.2.1 dL_law_1475 hl (by decide) rfl (fun ls hl => ?_)
  refine lv_aload_n X.1.1 X.1.2.1 dL_law_1477 rfl (lv_at hl 3 rfl) ?_
  refine la_arg 1 5 X V hS hl rfl rfl ⟨by omega, by omega⟩ dL_law_1478 dL_law_1479 dL_law_1481 dL_law_1482 dL_law_1483 ?_
  refine cs_X10_heightByCells X (sx_R _ _) (kc := 12) hRr ⟨by omega, by omega⟩ (by decide) hR hS kw_1925 hl.1 dL_law_1484 (Nat.le_of_ble_eq_true rfl) hw (fun r1 N1 H locs hw hr1 hR hS => ?_)
  refine lv_istore (lv' := [(6, .int (Int32.ofInt r1)), (5, .int (Int32.ofInt rk)), (0, .ref b), (1, .ref (α1 10 0)), (2, .ref (α1 11 0)), (3, .ref (α1 103 0)), (4, .int (Int32.ofInt i))]) X.1.1 X.1.2.1 dL_law_1487 hl (by decide) rfl (fun ls hl => ?_)
  refine lv_aload_n X.1.1 X.1.2.1 dL_law_1489 rfl (lv_at hl 4 rfl) ?_
  refine cs_X10_thrown X  (kc := 12) hRr ⟨by omega, by omega⟩ (by decide) hR hS kw_1710 hl.1 dL_law_1490 (Nat.le_of_ble_eq_true rfl) hw (fun r2 N2 H locs hw hr2 hR hS => ?_)
  refine lv_iload X.1.1 X.1.2.1 dL_law_1493 (lv_at hl 1 rfl) ?_
  obtain ⟨hc, hw⟩ := hw
  refine sa_icmp_eq (tgt := 1500) X.1 hr2 hrk dL_law_1495 (by decide) (fun _ => ?_) (fun z => absurd hc z)
  obtain ⟨hcv, hw⟩ := hw
  refine cut_j (A := W p l e R s m args below meth c H locs (cells + 1) (slots + 6) Q (F0 m 1517 ls [])) (fun hE => ?_) ?_
  · refine lv_iload X.1.1 X.1.2.1 dL_law_1500 (lv_at hl 1 rfl) ?_
    refine sa_if_ne (tgt := 1517) X.1 hrk dL_law_1502 (by decide) (fun _ => hE) (fun h0 => ?_)
    refine lv_aload_n X.1.1 X.1.2.1 dL_law_1505 rfl (lv_at hl 5 rfl) ?_
    refine sa_const X.1 dL_law_1506 ?_
    refine sa_lld X hR dL_law_1507 ?_
    refine lv_iload X.1.1 X.1.2.1 dL_law_1508 (lv_at hl 0 rfl) ?_
    refine lv_i2l X.1.1 X.1.2.1 dL_law_1510 rfl ?_
    exact sa_lcmp_eq (tgt := 1517) X.1 (hR.r 103 0 0) hr1 dL_law_1511 dL_law_1512 (by decide) (fun _ => hE) (fun z => absurd (hcv h0) z)
  refine lv_goto (tgt := 2370) X.1.1 X.1.2.1 dL_law_1517 (by decide) ?_
  refine W.widen (k := cells + 8) (n := slots + 2100) (by omega) (by omega) ?_
  exact kk κ1 α1 N2 _ _ _ hw X.2.2.1 hR hS (lv_sub hl [2, 3, 4, 5, 6] rfl)
set_option maxHeartbeats 4000000 in
set_option maxRecDepth 100000 in
theorem law_c22 (X : CX p m c cL_law 7 s args "TablePagesLaw" G B κ meth ret) (N : NcA s) (V : LV s B b L xs) (hlt : l.stackTraces = false) (he0 : e0 = G.2.2.2.2.2) {i : Int} (hi0 : 0 ≤ i) (hi5 : i + 5 ≤ (L : Int)) {K : (Nat → Int) → Mem → Prop} (hw : wp_law_22 κ M K) (hR : Rp G e0 α κ B M H) (hS : va_S (fun q => B ≤ q) s.heap H locs) (hc1 : cells + 8 ≤ R.cells) (hc2 : slots + 2100 ≤ R.slots) (hRr : RmOK R 12) (hl : lv_has ls 7 [(0, .ref b), (1, .ref (α 10 0)), (2, .ref (α 11 0)), (3, .ref (α 103 0)), (4, .int (Int32.ofInt i))])
    (kk : LK p l e R s m args below meth c G e0 B b i K (cells + 8) (slots + 2100) Q) : W p l e R s m args below meth c H locs cells slots Q (F0 m 1520 ls []) := by
  have hw : wp_X9_tableHeight M (fun r1 N1 => wp_X10_tableHeight N1 (fun r2 N2 => (r1 = r2) ∧ K κ N2)) := hw
  refine lv_aload_n X.1.1 X.1.2.1 dL_law_1520 rfl (lv_at hl 1 rfl) ?_
  refine cs_X9_tableHeight X  (kc := 12) hRr ⟨by omega, by omega⟩ (by decide) hR hS kw_716 hl.1 dL_law_1521 (Nat.le_of_ble_eq_true rfl) hw (fun r1 N1 H locs hw hr1 hR hS => ?_)
  refine lv_aload_n X.1.1 X.1.2.1 dL_law_1524 rfl (lv_at hl 2 rfl) ?_
  refine cs_X10_tableHeight X  (kc := 12) hRr ⟨by omega, by omega⟩ (by decide) hR hS kw_1930 hl.1 dL_law_1525 (Nat.le_of_ble_eq_true rfl) hw (fun r2 N2 H locs hw hr2 hR hS => ?_)
  obtain ⟨hc, hw⟩ := hw
  refine sa_icmp_eq (tgt := 2370) X.1 hr1 hr2 dL_law_1528 (by decide) (fun _ => ?_) (fun z => absurd hc z)
  refine W.widen (k := cells + 8) (n := slots + 2100) (by omega) (by omega) ?_
  exact kk κ α N2 _ _ _ hw X.2.2.1 hR hS (lv_sub hl [0, 1, 2, 3, 4] rfl)
set_option maxHeartbeats 4000000 in
set_option maxRecDepth 100000 in
theorem law_c23 (X : CX p m c cL_law 7 s args "TablePagesLaw" G B κ meth ret) (N : NcA s) (V : LV s B b L xs) (hlt : l.stackTraces = false) (he0 : e0 = G.2.2.2.2.2) {i : Int} (hi0 : 0 ≤ i) (hi5 : i + 5 ≤ (L : Int)) {K : (Nat → Int) → Mem → Prop} (hw : wp_law_23 κ M K) (hR : Rp G e0 α κ B M H) (hS : va_S (fun q => B ≤ q) s.heap H locs) (hc1 : cells + 8 ≤ R.cells) (hc2 : slots + 2100 ≤ R.slots) (hRr : RmOK R 12) (hl : lv_has ls 7 [(0, .ref b), (1, .ref (α 10 0)), (2, .ref (α 11 0)), (3, .ref (α 103 0)), (4, .int (Int32.ofInt i))])
    (kk : LK p l e R s m args below meth c G e0 B b i K (cells + 8) (slots + 2100) Q) : W p l e R s m args below meth c H locs cells slots Q (F0 m 1533 ls []) := by
  have hw : wp_L_leastHeight κ M (fun rk κ1 M1 => wp_X10_leastHeight M1 (fun r1 N1 => wp_X10_thrown N1 (fun r2 N2 => (r2 = rk) ∧ (rk = 0 → N2 103 0 0 = r1) ∧ K κ1 N2))) := hw
  refine lv_aload_n X.1.1 X.1.2.1 dL_law_1533 rfl (lv_at hl 1 rfl) ?_
  refine lv_aload_n X.1.1 X.1.2.1 dL_law_1534 rfl (lv_at hl 3 rfl) ?_
  refine sl_call 9 (n := 2) (As := [.ref (α 10 0), .ref (α 103 0)]) (rest := []) X N hR hS (w_L_leastHeight hlt he0 X.2.2.1 hw) kw_1311 kw_1312 kw_93 kw_1313 ⟨by decide +kernel, by decide +kernel, by decide +kernel⟩ (rm_law hRr (by decide) (by decide)) rfl rfl (Nat.le_of_ble_eq_true rfl) hl.1 dL_law_1535 ⟨by omega, by omega⟩ (fun rk κ1 α1 M1 H locs hw hrk hA hk hR hS => ?_)
  have X := X.re hk
  rw [← hA 10 (Or.inl rfl), ← hA 11 (Or.inr (Or.inl rfl)), ← hA 103 (Or.inr (Or.inr rfl))] at hl
  refine lv_istore (lv' := [(5, .int (Int32.ofInt rk)), (0, .ref b), (1, .ref (α1 10 0)), (2, .ref (α1 11 0)), (3, .ref (α1 103 0)), (4, .int (Int32.ofInt i))]) X.1.1 X.1.2.1 dL_law_1538 hl (by decide) rfl (fun ls hl => ?_)
  refine lv_aload_n X.1.1 X.1.2.1 dL_law_1540 rfl (lv_at hl 3 rfl) ?_
  refine cs_X10_leastHeight X  (kc := 12) hRr ⟨by omega, by omega⟩ (by decide) hR hS kw_1938 hl.1 dL_law_1541 (Nat.le_of_ble_eq_true rfl) hw (fun r1 N1 H locs hw hr1 hR hS => ?_)
  refine lv_istore (lv' := [(6, .int (Int32.ofInt r1)), (5, .int (Int32.ofInt rk)), (0, .ref b), (1, .ref (α1 10 0)), (2, .ref (α1 11 0)), (3, .ref (α1 103 0)), (4, .int (Int32.ofInt i))]) X.1.1 X.1.2.1 dL_law_1544 hl (by decide) rfl (fun ls hl => ?_)
  refine lv_aload_n X.1.1 X.1.2.1 dL_law_1546 rfl (lv_at hl 4 rfl) ?_
  refine cs_X10_thrown X  (kc := 12) hRr ⟨by omega, by omega⟩ (by decide) hR hS kw_1710 hl.1 dL_law_1547 (Nat.le_of_ble_eq_true rfl) hw (fun r2 N2 H locs hw hr2 hR hS => ?_)
  refine lv_iload X.1.1 X.1.2.1 dL_law_1550 (lv_at hl 1 rfl) ?_
  obtain ⟨hc, hw⟩ := hw
  refine sa_icmp_eq (tgt := 1557) X.1 hr2 hrk dL_law_1552 (by decide) (fun _ => ?_) (fun z => absurd hc z)
  obtain ⟨hcv, hw⟩ := hw
  refine cut_j (A := W p l e R s m args below meth c H locs (cells + 1) (slots + 6) Q (F0 m 1574 ls [])) (fun hE => ?_) ?_
  · refine lv_iload X.1.1 X.1.2.1 dL_law_1557 (lv_at hl 1 rfl) ?_
    refine sa_if_ne (tgt := 1574) X.1 hrk dL_law_1559 (by decide) (fun _ => hE) (fun h0 => ?_)
    refine lv_aload_n X.1.1 X.1.2.1 dL_law_1562 rfl (lv_at hl 5 rfl) ?_
    refine sa_const X.1 dL_law_1563 ?_
    refine sa_lld X hR dL_law_1564 ?_
    refine lv_iload X.1.1 X.1.2.1 dL_law_1565 (lv_at hl 0 rfl) ?_
    refine lv_i2l X.1.1 X.1.2.1 dL_law_1567 rfl ?_
    exact sa_lcmp_eq (tgt := 1574) X.1 (hR.r 103 0 0) hr1 dL_law_1568 dL_law_1569 (by decide) (fun _ => hE) (fun z => absurd (hcv h0) z)
  refine lv_goto (tgt := 2370) X.1.1 X.1.2.1 dL_law_1574 (by decide) ?_
  refine W.widen (k := cells + 8) (n := slots + 2100) (by omega) (by omega) ?_
  exact kk κ1 α1 N2 _ _ _ hw X.2.2.1 hR hS (lv_sub hl [2, 3, 4, 5, 6] rfl)
set_option maxHeartbeats 4000000 in
set_option maxRecDepth 100000 in
theorem law_c24 (X : CX p m c cL_law 7 s args "TablePagesLaw" G B κ meth ret) (N : NcA s) (V : LV s B b L xs) (hlt : l.stackTraces = false) (he0 : e0 = G.2.2.2.2.2) {i : Int} (hi0 : 0 ≤ i) (hi5 : i + 5 ≤ (L : Int)) {K : (Nat → Int) → Mem → Prop} (hw : wp_law_24 (sx xs (i + 1)) (sx xs (i + 2)) (sx xs (i + 3)) (sx xs (i + 4)) κ M K) (hR : Rp G e0 α κ B M H) (hS : va_S (fun q => B ≤ q) s.heap H locs) (hc1 : cells + 8 ≤ R.cells) (hc2 : slots + 2100 ≤ R.slots) (hRr : RmOK R 12) (hl : lv_has ls 7 [(0, .ref b), (1, .ref (α 10 0)), (2, .ref (α 11 0)), (3, .ref (α 103 0)), (4, .int (Int32.ofInt i))])
    (kk : LK p l e R s m args below meth c G e0 B b i K (cells + 8) (slots + 2100) Q) : W p l e R s m args below meth c H locs cells slots Q (F0 m 1577 ls []) := by
  have hw : wp_L_border (sx xs (i + 1)) (sx xs (i + 2)) (sx xs (i + 3)) (sx xs (i + 4)) κ M (fun rk κ1 M1 => wp_X10_border (sx xs (i + 1)) (sx xs (i + 2)) (sx xs (i + 3)) (sx xs (i + 4)) M1 (fun r1 N1 => wp_X10_thrown N1 (fun r2 N2 => (r2 = rk) ∧ (rk = 0 → N2 103 0 0 = r1) ∧ K κ1 N2))) := hw
  refine lv_aload_n X.1.1 X.1.2.1 dL_law_1577 rfl (lv_at hl 1 rfl) ?_
  refine la_arg 0 4 X V hS hl rfl rfl ⟨by omega, by omega⟩ dL_law_1578 dL_law_1579 dL_law_1581 dL_law_1582 dL_law_1583 ?_
  refine la_arg 0 4 X V hS hl rfl rfl ⟨by omega, by omega⟩ dL_law_1584 dL_law_1585 dL_law_1587 dL_law_1588 dL_law_1589 ?_
  refine la_arg 0 4 X V hS hl rfl rfl ⟨by omega, by omega⟩ dL_law_1590 dL_law_1591 dL_law_1593 dL_law_1594 dL_law_1595 ?_
  refine la_arg 0 4 X V hS hl rfl rfl ⟨by omega, by omega⟩ dL_law_1596 dL_law_1597 dL_law_1599 dL_law_1600 dL_law_1601 ?_
  refine lv_aload_n X.1.1 X.1.2.1 dL_law_1602 rfl (lv_at hl 3 rfl) ?_
  refine sl_call 7 (n := 6) (As := [.ref (α 10 0), .int (Int32.ofInt (sx xs (i + 1))), .int (Int32.ofInt (sx xs (i + 2))), .int (Int32.ofInt (sx xs (i + 3))), .int (Int32.ofInt (sx xs (i + 4))), .ref (α 103 0)]) (rest := []) X N hR hS (w_L_border hlt he0 X.2.2.1 (sx_R _ _) (sx_R _ _) (sx_R _ _) (sx_R _ _) hw) kw_1360 kw_1361 kw_93 kw_1362 ⟨by decide +kernel, by decide +kernel, by decide +kernel⟩ (rm_law hRr (by decide) (by decide)) rfl rfl (Nat.le_of_ble_eq_true rfl) hl.1 dL_law_1603 ⟨by omega, by omega⟩ (fun rk κ1 α1 M1 H locs hw hrk hA hk hR hS => ?_)
  have X := X.re hk
  rw [← hA 10 (Or.inl rfl), ← hA 11 (Or.inr (Or.inl rfl)), ← hA 103 (Or.inr (Or.inr rfl))] at hl
  refine lv_istore (lv' := [(5, .int (Int32.ofInt rk)), (0, .ref b), (1, .ref (α1 10 0)), (2, .ref (α1 11 0)), (3, .ref (α1 103 0)), (4, .int (Int32.ofInt i))]) X.1.1 X.1.2.1 dL_law_1606 hl (by decide) rfl (fun ls hl => ?_)
  refine lv_aload_n X.1.1 X.1.2.1 dL_law_1608 rfl (lv_at hl 3 rfl) ?_
  refine la_arg 1 5 X V hS hl rfl rfl ⟨by omega, by omega⟩ dL_law_1609 dL_law_1610 dL_law_1612 dL_law_1613 dL_law_1614 ?_
  refine la_arg 1 5 X V hS hl rfl rfl ⟨by omega, by omega⟩ dL_law_1615 dL_law_1616 dL_law_1618 dL_law_1619 dL_law_1620 ?_
  refine la_arg 1 5 X V hS hl rfl rfl ⟨by omega, by omega⟩ dL_law_1621 dL_law_1622 dL_law_1624 dL_law_1625 dL_law_1626 ?_
  refine la_arg 1 5 X V hS hl rfl rfl ⟨by omega, by omega⟩ dL_law_1627 dL_law_1628 dL_law_1630 dL_law_1631 dL_law_1632 ?_
  refine cs_X10_border X (sx_R _ _) (sx_R _ _) (sx_R _ _) (sx_R _ _) (kc := 12) hRr ⟨by omega, by omega⟩ (by decide) hR hS kw_1946 hl.1 dL_law_1633 (Nat.le_of_ble_eq_true rfl) hw (fun r1 N1 H locs hw hr1 hR hS => ?_)
  refine lv_istore (lv' := [(6, .int (Int32.ofInt r1)), (5, .int (Int32.ofInt rk)), (0, .ref b), (1, .ref (α1 10 0)), (2, .ref (α1 11 0)), (3, .ref (α1 103 0)), (4, .int (Int32.ofInt i))]) X.1.1 X.1.2.1 dL_law_1636 hl (by decide) rfl (fun ls hl => ?_)
  refine lv_aload_n X.1.1 X.1.2.1 dL_law_1638 rfl (lv_at hl 4 rfl) ?_
  refine cs_X10_thrown X  (kc := 12) hRr ⟨by omega, by omega⟩ (by decide) hR hS kw_1710 hl.1 dL_law_1639 (Nat.le_of_ble_eq_true rfl) hw (fun r2 N2 H locs hw hr2 hR hS => ?_)
  refine lv_iload X.1.1 X.1.2.1 dL_law_1642 (lv_at hl 1 rfl) ?_
  obtain ⟨hc, hw⟩ := hw
  refine sa_icmp_eq (tgt := 1649) X.1 hr2 hrk dL_law_1644 (by decide) (fun _ => ?_) (fun z => absurd hc z)
  obtain ⟨hcv, hw⟩ := hw
  refine cut_j (A := W p l e R s m args below meth c H locs (cells + 1) (slots + 6) Q (F0 m 1666 ls [])) (fun hE => ?_) ?_
  · refine lv_iload X.1.1 X.1.2.1 dL_law_1649 (lv_at hl 1 rfl) ?_
    refine sa_if_ne (tgt := 1666) X.1 hrk dL_law_1651 (by decide) (fun _ => hE) (fun h0 => ?_)
    refine lv_aload_n X.1.1 X.1.2.1 dL_law_1654 rfl (lv_at hl 5 rfl) ?_
    refine sa_const X.1 dL_law_1655 ?_
    refine sa_lld X hR dL_law_1656 ?_
    refine lv_iload X.1.1 X.1.2.1 dL_law_1657 (lv_at hl 0 rfl) ?_
    refine lv_i2l X.1.1 X.1.2.1 dL_law_1659 rfl ?_
    exact sa_lcmp_eq (tgt := 1666) X.1 (hR.r 103 0 0) hr1 dL_law_1660 dL_law_1661 (by decide) (fun _ => hE) (fun z => absurd (hcv h0) z)
  refine lv_goto (tgt := 2370) X.1.1 X.1.2.1 dL_law_1666 (by decide) ?_
  refine W.widen (k := cells + 8) (n := slots + 2100) (by omega) (by omega) ?_
  exact kk κ1 α1 N2 _ _ _ hw X.2.2.1 hR hS (lv_sub hl [2, 3, 4, 5, 6] rfl)
end LC
