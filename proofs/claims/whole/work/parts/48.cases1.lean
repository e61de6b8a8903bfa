def wp_law_0 (p1 : Int) (p2 : Int) (κ : Nat → Int) (M : Mem) (K : (Nat → Int) → Mem → Prop) : Prop := wp_L_column p1 p2 κ M (fun rk κ1 M1 => wp_X10_column p1 p2 M1 (fun r1 N1 => wp_X10_thrown N1 (fun r2 N2 => (r2 = rk) ∧ (rk = 0 → N2 103 0 0 = r1) ∧ K κ1 N2)))
def wp_law_1 (p1 : Int) (p2 : Int) (p3 : Int) (κ : Nat → Int) (M : Mem) (K : (Nat → Int) → Mem → Prop) : Prop := wp_L_row p1 p2 (zb p3) κ M (fun rk κ1 M1 => wp_X10_row p1 p2 (zb p3) M1 (fun r1 N1 => wp_X10_thrown N1 (fun r2 N2 => (r2 = rk) ∧ (rk = 0 → N2 103 0 0 = r1) ∧ K κ1 N2)))
def wp_law_2 (p1 : Int) (p2 : Int) (p3 : Int) (p4 : Int) (κ : Nat → Int) (M : Mem) (K : (Nat → Int) → Mem → Prop) : Prop := wp_L_cell p1 p2 p3 p4 κ M (fun rk κ1 M1 => wp_X10_cell p1 p2 p3 p4 M1 (fun r1 N1 => wp_X10_thrown N1 (fun r2 N2 => (r2 = rk) ∧ (rk = 0 → N2 103 0 0 = r1) ∧ K κ1 N2)))
def wp_law_3 (p1 : Int) (p2 : Int) (p3 : Int) (κ : Nat → Int) (M : Mem) (K : (Nat → Int) → Mem → Prop) : Prop := wp_L_word p1 p2 p3 κ M (fun rk κ1 M1 => wp_X10_word p1 p2 p3 M1 (fun r1 N1 => wp_X10_thrown N1 (fun r2 N2 => (r2 = rk) ∧ (rk = 0 → N2 103 0 0 = r1) ∧ K κ1 N2)))
def wp_law_4 (p1 : Int) (p2 : Int) (p3 : Int) (κ : Nat → Int) (M : Mem) (K : (Nat → Int) → Mem → Prop) : Prop := wp_L_figure p1 p2 p3 κ M (fun rk κ1 M1 => wp_X10_figure p1 p2 p3 M1 (fun N1 => wp_X10_thrown N1 (fun r2 N2 => (r2 = rk) ∧ K κ1 N2)))
def wp_law_5 (p1 : Int) (κ : Nat → Int) (M : Mem) (K : (Nat → Int) → Mem → Prop) : Prop := wp_L_empty p1 κ M (fun rk κ1 M1 => wp_X10_empty p1 M1 (fun r1 N1 => wp_X10_thrown N1 (fun r2 N2 => (r2 = rk) ∧ (rk = 0 → N2 103 0 0 = r1) ∧ K κ1 N2)))
def wp_law_6 (p1 : Int) (p2 : Int) (κ : Nat → Int) (M : Mem) (K : (Nat → Int) → Mem → Prop) : Prop := wp_L_note p1 p2 κ M (fun rk κ1 M1 => wp_X10_note p1 p2 M1 (fun r1 N1 => wp_X10_thrown N1 (fun r2 N2 => (r2 = rk) ∧ (rk = 0 → N2 103 0 0 = r1) ∧ K κ1 N2)))
def wp_law_7 (p1 : Int) (p2 : Int) (κ : Nat → Int) (M : Mem) (K : (Nat → Int) → Mem → Prop) : Prop := wp_L_at p1 p2 κ M (fun rk κ1 M1 => wp_X10_at p1 p2 M1 (fun r1 N1 => wp_X10_thrown N1 (fun r2 N2 => (r2 = rk) ∧ (rk = 0 → N2 103 0 0 = r1) ∧ K κ1 N2)))
def wp_law_8 (p1 : Int) (p2 : Int) (κ : Nat → Int) (M : Mem) (K : (Nat → Int) → Mem → Prop) : Prop := wp_L_setPaper p1 p2 κ M (fun rk κ1 M1 => wp_X10_setPaper p1 p2 M1 (fun N1 => wp_X10_thrown N1 (fun r2 N2 => (r2 = rk) ∧ K κ1 N2)))
def wp_law_9 (κ : Nat → Int) (M : Mem) (K : (Nat → Int) → Mem → Prop) : Prop := wp_X9_notesAtEnd M (fun r1 N1 => wp_X10_notesAtEnd N1 (fun r2 N2 => (r1 = r2) ∧ K κ N2))
def wp_law_10 (p1 : Int) (κ : Nat → Int) (M : Mem) (K : (Nat → Int) → Mem → Prop) : Prop := wp_L_totalled p1 κ M (fun rk κ1 M1 => wp_X10_totalled p1 M1 (fun r1 N1 => wp_X10_thrown N1 (fun r2 N2 => (r2 = rk) ∧ (rk = 0 → N2 103 0 0 = zb r1) ∧ K κ1 N2)))
def wp_law_11 (p1 : Int) (κ : Nat → Int) (M : Mem) (K : (Nat → Int) → Mem → Prop) : Prop := wp_L_hide p1 κ M (fun rk κ1 M1 => wp_X10_hide p1 M1 (fun r1 N1 => wp_X10_thrown N1 (fun r2 N2 => (r2 = rk) ∧ (rk = 0 → N2 103 0 0 = zb r1) ∧ K κ1 N2)))
def wp_law_12 (p1 : Int) (p2 : Int) (κ : Nat → Int) (M : Mem) (K : (Nat → Int) → Mem → Prop) : Prop := wp_L_sort p1 (zb p2) κ M (fun rk κ1 M1 => wp_X10_sort p1 (zb p2) M1 (fun r1 N1 => wp_X10_thrown N1 (fun r2 N2 => (r2 = rk) ∧ (rk = 0 → N2 103 0 0 = r1) ∧ K κ1 N2)))
section LC
variable {p : Program} {l : Launch} {e : Env} {R : Room} {s : State} {m : MethodId} {args : Array Value} {below : List Frame} {meth : Method} {c : Code} {H : Heap} {locs : List Loc} {cells slots : Nat} {Q : State → Prop}
variable {ls : Array Slot} {G : Gx} {e0 : Nat} {α : Ax} {κ : Nat → Int} {B : Nat} {M : Mem} {b L : Nat} {xs : Nat → Int32}
set_option maxHeartbeats 4000000 in
set_option maxRecDepth 100000 in
theorem law_c0 (X : CX p m c cL_law 7 s args "TablePagesLaw" G B κ meth ret) (N : NcA s) (V : LV s B b L xs) (hlt : l.stackTraces = false) (he0 : e0 = G.2.2.2.2.2) {i : Int} (hi0 : 0 ≤ i) (hi5 : i + 5 ≤ (L : Int)) {K : (Nat → Int) → Mem → Prop} (hw : wp_law_0 (sx xs (i + 1)) (sx xs (i + 2)) κ M K) (hR : Rp G e0 α κ B M H) (hS : va_S (fun q => B ≤ q) s.heap H locs) (hc1 : cells + 8 ≤ R.cells) (hc2 : slots + 2100 ≤ R.slots) (hRr : RmOK R 12) (hl : lv_has ls 7 [(0, .ref b), (1, .ref (α 10 0)), (2, .ref (α 11 0)), (3, .ref (α 103 0)), (4, .int (Int32.ofInt i))])
    (kk : LK p l e R s m args below meth c G e0 B b i K (cells + 8) (slots + 2100) Q) : W p l e R s m args below meth c H locs cells slots Q (F0 m 200 ls []) := by
  have hw : wp_L_column (sx xs (i + 1)) (sx xs (i + 2)) κ M (fun rk κ1 M1 => wp_X10_column (sx xs (i + 1)) (sx xs (i + 2)) M1 (fun r1 N1 => wp_X10_thrown N1 (fun r2 N2 => (r2 = rk) ∧ (rk = 0 → N2 103 0 0 = r1) ∧ K κ1 N2))) := hw
  refine lv_aload_n X.1.1 X.1.2.1 dL_law_200 rfl (lv_at hl 1 rfl) ?_
  refine la_arg 0 4 X V hS hl rfl rfl ⟨by omega, by omega⟩ dL_law_201 dL_law_202 dL_law_204 dL_law_205 dL_law_206 ?_
  refine la_arg 0 4 X V hS hl rfl rfl ⟨by omega, by omega⟩ dL_law_207 dL_law_208 dL_law_210 dL_law_211 dL_law_212 ?_
  refine lv_aload_n X.1.1 X.1.2.1 dL_law_213 rfl (lv_at hl 3 rfl) ?_
  refine sl_call 9 (n := 4) (As := [.ref (α 10 0), .int (Int32.ofInt (sx xs (i + 1))), .int (Int32.ofInt (sx xs (i + 2))), .ref (α 103 0)]) (rest := []) X N hR hS (w_L_column hlt he0 X.2.2.1 (sx_R _ _) (sx_R _ _) hw) kw_745 kw_746 kw_93 kw_747 ⟨by decide +kernel, by decide +kernel, by decide +kernel⟩ (rm_law hRr (by decide) (by decide)) rfl rfl (Nat.le_of_ble_eq_true rfl) hl.1 dL_law_214 ⟨by omega, by omega⟩ (fun rk κ1 α1 M1 H locs hw hrk hA hk hR hS => ?_)
  have X := X.re hk
  rw [← hA 10 (Or.inl rfl), ← hA 11 (Or.inr (Or.inl rfl)), ← hA 103 (Or.inr (Or.inr rfl))] at hl
  refine lv_istore (lv' := [(5, .int (Int32.ofInt rk)), (0, .ref b), (1, .ref (α1 10 0)), (2, .ref (α1 11 0)), (3, .ref (α1 103 0)), (4, .int (Int32.ofInt i))]) X.1.1 X.1.2.1 dL_law_217 hl (by decide) rfl (fun ls hl => ?_)
  refine lv_aload_n X.1.1 X.1.2.1 dL_law_219 rfl (lv_at hl 3 rfl) ?_
  refine la_arg 1 5 X V hS hl rfl rfl ⟨by omega, by omega⟩ dL_law_220 dL_law_221 dL_law_223 dL_law_224 dL_law_225 ?_
  refine la_arg 1 5 X V hS hl rfl rfl ⟨by omega, by omega⟩ dL_law_226 dL_law_227 dL_law_229 dL_law_230 dL_law_231 ?_
  refine cs_X10_column X (sx_R _ _) (sx_R _ _) (kc := 12) hRr ⟨by omega, by omega⟩ (by decide) hR hS kw_1714 hl.1 dL_law_232 (Nat.le_of_ble_eq_true rfl) hw (fun r1 N1 H locs hw hr1 hR hS => ?_)
  refine lv_istore (lv' := [(6, .int (Int32.ofInt r1)), (5, .int (Int32.ofInt rk)), (0, .ref b), (1, .ref (α1 10 0)), (2, .ref (α1 11 0)), (3, .ref (α1 103 0)), (4, .int (Int32.ofInt i))]) X.1.1 X.1.2.1 dL_law_235 hl (by decide) rfl (fun ls hl => ?_)
  refine lv_aload_n X.1.1 X.1.2.1 dL_law_237 rfl (lv_at hl 4 rfl) ?_
  refine cs_X10_thrown X  (kc := 12) hRr ⟨by omega, by omega⟩ (by decide) hR hS kw_1710 hl.1 dL_law_238 (Nat.le_of_ble_eq_true rfl) hw (fun r2 N2 H locs hw hr2 hR hS => ?_)
  refine lv_iload X.1.1 X.1.2.1 dL_law_241 (lv_at hl 1 rfl) ?_
  obtain ⟨hc, hw⟩ := hw
  refine sa_icmp_eq (tgt := 248) X.1 hr2 hrk dL_law_243 (by decide) (fun _ => ?_) (fun z => absurd hc z)
  obtain ⟨hcv, hw⟩ := hw
  refine cut_j (A := W p l e R s m args below meth c H locs (cells + 3) (slots + 1008) Q (F0 m 265 ls [])) (fun hE => ?_) ?_
  · refine lv_iload X.1.1 X.1.2.1 dL_law_248 (lv_at hl 1 rfl) ?_
    refine sa_if_ne (tgt := 265) X.1 hrk dL_law_250 (by decide) (fun _ => hE) (fun h0 => ?_)
    refine lv_aload_n X.1.1 X.1.2.1 dL_law_253 rfl (lv_at hl 5 rfl) ?_
    refine sa_const X.1 dL_law_254 ?_
    refine sa_lld X hR dL_law_255 ?_
    refine lv_iload X.1.1 X.1.2.1 dL_law_256 (lv_at hl 0 rfl) ?_
    refine lv_i2l X.1.1 X.1.2.1 dL_law_258 rfl ?_
    exact sa_lcmp_eq (tgt := 265) X.1 (hR.r 103 0 0) hr1 dL_law_259 dL_law_260 (by decide) (fun _ => hE) (fun z => absurd (hcv h0) z)
  refine lv_goto (tgt := 2370) X.1.1 X.1.2.1 dL_law_265 (by decide) ?_
  refine W.widen (k := cells + 8) (n := slots + 2100) (by omega) (by omega) ?_
  exact kk κ1 α1 N2 _ _ _ hw X.2.2.1 hR hS (lv_sub hl [2, 3, 4, 5, 6] rfl)
set_option maxHeartbeats 4000000 in
set_option maxRecDepth 100000 in
theorem law_c1 (X : CX p m c cL_law 7 s args "TablePagesLaw" G B κ meth ret) (N : NcA s) (V : LV s B b L xs) (hlt : l.stackTraces = false) (he0 : e0 = G.2.2.2.2.2) {i : Int} (hi0 : 0 ≤ i) (hi5 : i + 5 ≤ (L : Int)) {K : (Nat → Int) → Mem → Prop} (hw : wp_law_1 (sx xs (i + 1)) (sx xs (i + 2)) (sx xs (i + 3)) κ M K) (hR : Rp G e0 α κ B M H) (hS : va_S (fun q => B ≤ q) s.heap H locs) (hc1 : cells + 8 ≤ R.cells) (hc2 : slots + 2100 ≤ R.slots) (hRr : RmOK R 12) (hl : lv_has ls 7 [(0, .ref b), (1, .ref (α 10 0)), (2, .ref (α 11 0)), (3, .ref (α 103 0)), (4, .int (Int32.ofInt i))])
    (kk : LK p l e R s m args below meth c G e0 B b i K (cells + 8) (slots + 2100) Q) : W p l e R s m args below meth c H locs cells slots Q (F0 m 268 ls []) := by
  have hw : wp_L_row (sx xs (i + 1)) (sx xs (i + 2)) (zb (sx xs (i + 3))) κ M (fun rk κ1 M1 => wp_X10_row (sx xs (i + 1)) (sx xs (i + 2)) (zb (sx xs (i + 3))) M1 (fun r1 N1 => wp_X10_thrown N1 (fun r2 N2 => (r2 = rk) ∧ (rk = 0 → N2 103 0 0 = r1) ∧ K κ1 N2))) := hw
  refine lv_aload_n X.1.1 X.1.2.1 dL_law_268 rfl (lv_at hl 1 rfl) ?_
  refine la_arg 0 4 X V hS hl rfl rfl ⟨by omega, by omega⟩ dL_law_269 dL_law_270 dL_law_272 dL_law_273 dL_law_274 ?_
  refine la_arg 0 4 X V hS hl rfl rfl ⟨by omega, by omega⟩ dL_law_275 dL_law_276 dL_law_278 dL_law_279 dL_law_280 ?_
  refine la_argb 0 4 X V hS hl rfl rfl ⟨by omega, by omega⟩ dL_law_281 dL_law_282 dL_law_284 dL_law_285 dL_law_286 dL_law_287 dL_law_290 dL_law_291 dL_law_294 ?_
  refine lv_aload_n X.1.1 X.1.2.1 dL_law_295 rfl (lv_at hl 3 rfl) ?_
  refine sl_call 9 (n := 5) (As := [.ref (α 10 0), .int (Int32.ofInt (sx xs (i + 1))), .int (Int32.ofInt (sx xs (i + 2))), .int (Int32.ofInt (zb (sx xs (i + 3)))), .ref (α 103 0)]) (rest := []) X N hR hS (w_L_row hlt he0 X.2.2.1 (sx_R _ _) (sx_R _ _) (bit_R (zb_b _)) hw) kw_926 kw_927 kw_93 kw_928 ⟨by decide +kernel, by decide +kernel, by decide +kernel⟩ (rm_law hRr (by decide) (by decide)) rfl rfl (Nat.le_of_ble_eq_true rfl) hl.1 dL_law_296 ⟨by omega, by omega⟩ (fun rk κ1 α1 M1 H locs hw hrk hA hk hR hS => ?_)
  have X := X.re hk
  rw [← hA 10 (Or.inl rfl), ← hA 11 (Or.inr (Or.inl rfl)), ← hA 103 (Or.inr (Or.inr rfl))] at hl
  refine lv_istore (lv' := [(5, .int (Int32.ofInt rk)), (0, .ref b), (1, .ref (α1 10 0)), (2, .ref (α1 11 0)), (3, .ref (α1 103 0)), (4, .int (Int32.ofInt i))]) X.1.1 X.1.2.1 dL_law_299 hl (by decide) rfl (fun ls hl => ?_)
  refine lv_aload_n X.1.1 X.1.2.1 dL_law_301 rfl (lv_at hl 3 rfl) ?_
  refine la_arg 1 5 X V hS hl rfl rfl ⟨by omega, by omega⟩ dL_law_302 dL_law_303 dL_law_305 dL_law_306 dL_law_307 ?_
  refine la_arg 1 5 X V hS hl rfl rfl ⟨by omega, by omega⟩ dL_law_308 dL_law_309 dL_law_311 dL_law_312 dL_law_313 ?_
  refine la_argb 1 5 X V hS hl rfl rfl ⟨by omega, by omega⟩ dL_law_314 dL_law_315 dL_law_317 dL_law_318 dL_law_319 dL_law_320 dL_law_323 dL_law_324 dL_law_327 ?_
  refine cs_X10_row X (sx_R _ _) (sx_R _ _) (bit_R (zb_b _)) (kc := 12) hRr ⟨by omega, by omega⟩ (by decide) hR hS kw_1725 hl.1 dL_law_328 (Nat.le_of_ble_eq_true rfl) hw (fun r1 N1 H locs hw hr1 hR hS => ?_)
  refine lv_istore (lv' := [(6, .int (Int32.ofInt r1)), (5, .int (Int32.ofInt rk)), (0, .ref b), (1, .ref (α1 10 0)), (2, .ref (α1 11 0)), (3, .ref (α1 103 0)), (4, .int (Int32.ofInt i))]) X.1.1 X.1.2.1 dL_law_331 hl (by decide) rfl (fun ls hl => ?_)
  refine lv_aload_n X.1.1 X.1.2.1 dL_law_333 rfl (lv_at hl 4 rfl) ?_
  refine cs_X10_thrown X  (kc := 12) hRr ⟨by omega, by omega⟩ (by decide) hR hS kw_1710 hl.1 dL_law_334 (Nat.le_of_ble_eq_true rfl) hw (fun r2 N2 H locs hw hr2 hR hS => ?_)
  refine lv_iload X.1.1 X.1.2.1 dL_law_337 (lv_at hl 1 rfl) ?_
  obtain ⟨hc, hw⟩ := hw
  refine sa_icmp_eq (tgt := 344) X.1 hr2 hrk dL_law_339 (by decide) (fun _ => ?_) (fun z => absurd hc z)
  obtain ⟨hcv, hw⟩ := hw
  refine cut_j (A := W p l e R s m args below meth c H locs (cells + 5) (slots + 2017) Q (F0 m 361 ls [])) (fun hE => ?_) ?_
  · refine lv_iload X.1.1 X.1.2.1 dL_law_344 (lv_at hl 1 rfl) ?_
    refine sa_if_ne (tgt := 361) X.1 hrk dL_law_346 (by decide) (fun _ => hE) (fun h0 => ?_)
    refine lv_aload_n X.1.1 X.1.2.1 dL_law_349 rfl (lv_at hl 5 rfl) ?_
    refine sa_const X.1 dL_law_350 ?_
    refine sa_lld X hR dL_law_351 ?_
    refine lv_iload X.1.1 X.1.2.1 dL_law_352 (lv_at hl 0 rfl) ?_
    refine lv_i2l X.1.1 X.1.2.1 dL_law_354 rfl ?_
    exact sa_lcmp_eq (tgt := 361) X.1 (hR.r 103 0 0) hr1 dL_law_355 dL_law_356 (by decide) (fun _ => hE) (fun z => absurd (hcv h0) z)
  refine lv_goto (tgt := 2370) X.1.1 X.1.2.1 dL_law_361 (by decide) ?_
  refine W.widen (k := cells + 8) (n := slots + 2100) (by omega) (by omega) ?_
  exact kk κ1 α1 N2 _ _ _ hw X.2.2.1 hR hS (lv_sub hl [2, 3, 4, 5, 6] rfl)
set_option maxHeartbeats 4000000 in
set_option maxRecDepth 100000 in
theorem law_c2 (X : CX p m c cL_law 7 s args "TablePagesLaw" G B κ meth ret) (N : NcA s) (V : LV s B b L xs) (hlt : l.stackTraces = false) (he0 : e0 = G.2.2.2.2.2) {i : Int} (hi0 : 0 ≤ i) (hi5 : i + 5 ≤ (L : Int)) {K : (Nat → Int) → Mem → Prop} (hw : wp_law_2 (sx xs (i + 1)) (sx xs (i + 2)) (sx xs (i + 3)) (sx xs (i + 4)) κ M K) (hR : Rp G e0 α κ B M H) (hS : va_S (fun q => B ≤ q) s.heap H locs) (hc1 : cells + 8 ≤ R.cells) (hc2 : slots + 2100 ≤ R.slots) (hRr : RmOK R 12) (hl : lv_has ls 7 [(0, .ref b), (1, .ref (α 10 0)), (2, .ref (α 11 0)), (3, .ref (α 103 0)), (4, .int (Int32.ofInt i))])
    (kk : LK p l e R s m args below meth c G e0 B b i K (cells + 8) (slots + 2100) Q) : W p l e R s m args below meth c H locs cells slots Q (F0 m 364 ls []) := by
  have hw : wp_L_cell (sx xs (i + 1)) (sx xs (i + 2)) (sx xs (i + 3)) (sx xs (i + 4)) κ M (fun rk κ1 M1 => wp_X10_cell (sx xs (i + 1)) (sx xs (i + 2)) (sx xs (i + 3)) (sx xs (i + 4)) M1 (fun r1 N1 => wp_X10_thrown N1 (fun r2 N2 => (r2 = rk) ∧ (rk = 0 → N2 103 0 0 = r1) ∧ K κ1 N2))) := hw
  refine lv_aload_n X.1.1 X.1.2.1 dL_law_364 rfl (lv_at hl 1 rfl) ?_
  refine la_arg 0 4 X V hS hl rfl rfl ⟨by omega, by omega⟩ dL_law_365 dL_law_366 dL_law_368 dL_law_369 dL_law_370 ?_
  refine la_arg 0 4 X V hS hl rfl rfl ⟨by omega, by omega⟩ dL_law_371 dL_law_372 dL_law_374 dL_law_375 dL_law_376 ?_
  refine la_arg 0 4 X V hS hl rfl rfl ⟨by omega, by omega⟩ dL_law_377 dL_law_378 dL_law_380 dL_law_381 dL_law_382 ?_
  refine la_arg 0 4 X V hS hl rfl rfl ⟨by omega, by omega⟩ dL_law_383 dL_law_384 dL_law_386 dL_law_387 dL_law_388 ?_
  refine lv_aload_n X.1.1 X.1.2.1 dL_law_389 rfl (lv_at hl 3 rfl) ?_
  refine sl_call 9 (n := 6) (As := [.ref (α 10 0), .int (Int32.ofInt (sx xs (i + 1))), .int (Int32.ofInt (sx xs (i + 2))), .int (Int32.ofInt (sx xs (i + 3))), .int (Int32.ofInt (sx xs (i + 4))), .ref (α 103 0)]) (rest := []) X N hR hS (w_L_cell hlt he0 X.2.2.1 (sx_R _ _) (sx_R _ _) (sx_R _ _) (sx_R _ _) hw) kw_988 kw_989 kw_93 kw_990 ⟨by decide +kernel, by decide +kernel, by decide +kernel⟩ (rm_law hRr (by decide) (by decide)) rfl rfl (Nat.le_of_ble_eq_true rfl) hl.1 dL_law_390 ⟨by omega, by omega⟩ (fun rk κ1 α1 M1 H locs hw hrk hA hk hR hS => ?_)
  have X := X.re hk
  rw [← hA 10 (Or.inl rfl), ← hA 11 (Or.inr (Or.inl rfl)), ← hA 103 (Or.inr (Or.inr rfl))] at hl
  refine lv_istore (lv' := [(5, .int (Int32.ofInt rk)), (0, .ref b), (1, .ref (α1 10 0)), (2, .ref (α1 11 0)), (3, .ref (α1 103 0)), (4, .int (Int32.ofInt i))]) X.1.1 X.1.2.1 dL_law_393 hl (by decide) rfl (fun ls hl => ?_)
  refine lv_aload_n X.1.1 X.1.2.1 dL_law_395 rfl (lv_at hl 3 rfl) ?_
  refine la_arg 1 5 X V hS hl rfl rfl ⟨by omega, by omega⟩ dL_law_396 dL_law_397 dL_law_399 dL_law_400 dL_law_401 ?_
  refine la_arg 1 5 X V hS hl rfl rfl ⟨by omega, by omega⟩ dL_law_402 dL_law_403 dL_law_405 dL_law_406 dL_law_407 ?_
  refine la_arg 1 5 X V hS hl rfl rfl ⟨by omega, by omega⟩ dL_law_408 dL_law_409 dL_law_411 dL_law_412 dL_law_413 ?_
  refine la_arg 1 5 X V hS hl rfl rfl ⟨by omega, by omega⟩ dL_law_414 dL_law_415 dL_law_417 dL_law_418 dL_law_419 ?_
  refine cs_X10_cell X (sx_R _ _) (sx_R _ _) (sx_R _ _) (sx_R _ _) (kc := 12) hRr ⟨by omega, by omega⟩ (by decide) hR hS kw_1729 hl.1 dL_law_420 (Nat.le_of_ble_eq_true rfl) hw (fun r1 N1 H locs hw hr1 hR hS => ?_)
  refine lv_istore (lv' := [(6, .int (Int32.ofInt r1)), (5, .int (Int32.ofInt rk)), (0, .ref b), (1, .ref (α1 10 0)), (2, .ref (α1 11 0)), (3, .ref (α1 103 0)), (4, .int (Int32.ofInt i))]) X.1.1 X.1.2.1 dL_law_423 hl (by decide) rfl (fun ls hl => ?_)
  refine lv_aload_n X.1.1 X.1.2.1 dL_law_425 rfl (lv_at hl 4 rfl) ?_
  refine cs_X10_thrown X  (kc := 12) hRr ⟨by omega, by omega⟩ (by decide) hR hS kw_1710 hl.1 dL_law_426 (Nat.le_of_ble_eq_true rfl) hw (fun r2 N2 H locs hw hr2 hR hS => ?_)
  refine lv_iload X.1.1 X.1.2.1 dL_law_429 (lv_at hl 1 rfl) ?_
  obtain ⟨hc, hw⟩ := hw
  refine sa_icmp_eq (tgt := 436) X.1 hr2 hrk dL_law_431 (by decide) (fun _ => ?_) (fun z => absurd hc z)
  obtain ⟨hcv, hw⟩ := hw
  refine cut_j (A := W p l e R s m args below meth c H locs (cells + 7) (slots + 1053) Q (F0 m 453 ls [])) (fun hE => ?_) ?_
  · refine lv_iload X.1.1 X.1.2.1 dL_law_436 (lv_at hl 1 rfl) ?_
    refine sa_if_ne (tgt := 453) X.1 hrk dL_law_438 (by decide) (fun _ => hE) (fun h0 => ?_)
    refine lv_aload_n X.1.1 X.1.2.1 dL_law_441 rfl (lv_at hl 5 rfl) ?_
    refine sa_const X.1 dL_law_442 ?_
    refine sa_lld X hR dL_law_443 ?_
    refine lv_iload X.1.1 X.1.2.1 dL_law_444 (lv_at hl 0 rfl) ?_
    refine lv_i2l X.1.1 X.1.2.1 dL_law_446 rfl ?_
    exact sa_lcmp_eq (tgt := 453) X.1 (hR.r 103 0 0) hr1 dL_law_447 dL_law_448 (by decide) (fun _ => hE) (fun z => absurd (hcv h0) z)
  refine lv_goto (tgt := 2370) X.1.1 X.1.2.1 dL_law_453 (by decide) ?_
  refine W.widen (k := cells + 8) (n := slots + 2100) (by omega) (by omega) ?_
  exact kk κ1 α1 N2 _ _ _ hw X.2.2.1 hR hS (lv_sub hl [2, 3, 4, 5, 6] rfl)
set_option maxHeartbeats 4000000 in
set_option maxRecDepth 100000 in
theorem law_c3 (X : CX p m c cL_law 7 s args "TablePagesLaw" G B κ meth ret) (N : NcA s) (V : LV s B b L xs) (hlt : l.stackTraces = false) (he0 : e0 = G.2.2.2.2.2) {i : Int} (hi0 : 0 ≤ i) (hi5 : i + 5 ≤ (L : Int)) {K : (Nat → Int) → Mem → Prop} (hw : wp_law_3 (sx xs (i + 1)) (sx xs (i + 2)) (sx xs (i + 3)) κ M K) (hR : Rp G e0 α κ B M H) (hS : va_S (fun q => B ≤ q) s.heap H locs) (hc1 : cells + 8 ≤ R.cells) (hc2 : slots + 2100 ≤ R.slots) (hRr : RmOK R 12) (hl : lv_has ls 7 [(0, .ref b), (1, .ref (α 10 0)), (2, .ref (α 11 0)), (3, .ref (α 103 0)), (4, .int (Int32.ofInt i))])
    (kk : LK p l e R s m args below meth c G e0 B b i K (cells + 8) (slots + 2100) Q) : W p l e R s m args below meth c H locs cells slots Q (F0 m 456 ls []) := by
  have hw : wp_L_word (sx xs (i + 1)) (sx xs (i + 2)) (sx xs (i + 3)) κ M (fun rk κ1 M1 => wp_X10_word (sx xs (i + 1)) (sx xs (i + 2)) (sx xs (i + 3)) M1 (fun r1 N1 => wp_X10_thrown N1 (fun r2 N2 => (r2 = rk) ∧ (rk = 0 → N2 103 0 0 = r1) ∧ K κ1 N2))) := hw
  refine lv_aload_n X.1.1 X.1.2.1 dL_law_456 rfl (lv_at hl 1 rfl) ?_
  refine la_arg 0 4 X V hS hl rfl rfl ⟨by omega, by omega⟩ dL_law_457 dL_law_458 dL_law_460 dL_law_461 dL_law_462 ?_
  refine la_arg 0 4 X V hS hl rfl rfl ⟨by omega, by omega⟩ dL_law_463 dL_law_464 dL_law_466 dL_law_467 dL_law_468 ?_
  refine la_arg 0 4 X V hS hl rfl rfl ⟨by omega, by omega⟩ dL_law_469 dL_law_470 dL_law_472 dL_law_473 dL_law_474 ?_
  refine lv_aload_n X.1.1 X.1.2.1 dL_law_475 rfl (lv_at hl 3 rfl) ?_
  refine sl_call 8 (n := 5) (As := [.ref (α 10 0), .int (Int32.ofInt (sx xs (i + 1))), .int (Int32.ofInt (sx xs (i + 2))), .int (Int32.ofInt (sx xs (i + 3))), .ref (α 103 0)]) (rest := []) X N hR hS (w_L_word hlt he0 X.2.2.1 (sx_R _ _) (sx_R _ _) (sx_R _ _) hw) kw_1114 kw_1115 kw_93 kw_1116 ⟨by decide +kernel, by decide +kernel, by decide +kernel⟩ (rm_law hRr (by decide) (by decide)) rfl rfl (Nat.le_of_ble_eq_true rfl) hl.1 dL_law_476 ⟨by omega, by omega⟩ (fun rk κ1 α1 M1 H locs hw hrk hA hk hR hS => ?_)
  have X := X.re hk
  rw [← hA 10 (Or.inl rfl), ← hA 11 (Or.inr (Or.inl rfl)), ← hA 103 (Or.inr (Or.inr rfl))] at hl
  refine lv_istore (lv' := [(5, .int (Int32.ofInt rk)), (0, .ref b), (1, .ref (α1 10 0)), (2, .ref (α1 11 0)), (3, .ref (α1 103 0)), (4, .int (Int32.ofInt i))]) X.1.1 X.1.2.1 dL_law_479 hl (by decide) rfl (fun ls hl => ?_)
  refine lv_aload_n X.1.1 X.1.2.1 dL_law_481 rfl (lv_at hl 3 rfl) ?_
  refine la_arg 1 5 X V hS hl rfl rfl ⟨by omega, by omega⟩ dL_law_482 dL_law_483 dL_law_485 dL_law_486 dL_law_487 ?_
  refine la_arg 1 5 X V hS hl rfl rfl ⟨by omega, by omega⟩ dL_law_488 dL_law_489 dL_law_491 dL_law_492 dL_law_493 ?_
  refine la_arg 1 5 X V hS hl rfl rfl ⟨by omega, by omega⟩ dL_law_494 dL_law_495 dL_law_497 dL_law_498 dL_law_499 ?_
  refine cs_X10_word X (sx_R _ _) (sx_R _ _) (sx_R _ _) (kc := 12) hRr ⟨by omega, by omega⟩ (by decide) hR hS kw_1749 hl.1 dL_law_500 (Nat.le_of_ble_eq_true rfl) hw (fun r1 N1 H locs hw hr1 hR hS => ?_)
  refine lv_istore (lv' := [(6, .int (Int32.ofInt r1)), (5, .int (Int32.ofInt rk)), (0, .ref b), (1, .ref (α1 10 0)), (2, .ref (α1 11 0)), (3, .ref (α1 103 0)), (4, .int (Int32.ofInt i))]) X.1.1 X.1.2.1 dL_law_503 hl (by decide) rfl (fun ls hl => ?_)
  refine lv_aload_n X.1.1 X.1.2.1 dL_law_505 rfl (lv_at hl 4 rfl) ?_
  refine cs_X10_thrown X  (kc := 12) hRr ⟨by omega, by omega⟩ (by decide) hR hS kw_1710 hl.1 dL_law_506 (Nat.le_of_ble_eq_true rfl) hw (fun r2 N2 H locs hw hr2 hR hS => ?_)
  refine lv_iload X.1.1 X.1.2.1 dL_law_509 (lv_at hl 1 rfl) ?_
  obtain ⟨hc, hw⟩ := hw
  refine sa_icmp_eq (tgt := 516) X.1 hr2 hrk dL_law_511 (by decide) (fun _ => ?_) (fun z => absurd hc z)
  obtain ⟨hcv, hw⟩ := hw
  refine cut_j (A := W p l e R s m args below meth c H locs (cells + 2) (slots + 12) Q (F0 m 533 ls [])) (fun hE => ?_) ?_
  · refine lv_iload X.1.1 X.1.2.1 dL_law_516 (lv_at hl 1 rfl) ?_
    refine sa_if_ne (tgt := 533) X.1 hrk dL_law_518 (by decide) (fun _ => hE) (fun h0 => ?_)
    refine lv_aload_n X.1.1 X.1.2.1 dL_law_521 rfl (lv_at hl 5 rfl) ?_
    refine sa_const X.1 dL_law_522 ?_
    refine sa_lld X hR dL_law_523 ?_
    refine lv_iload X.1.1 X.1.2.1 dL_law_524 (lv_at hl 0 rfl) ?_
    refine lv_i2l X.1.1 X.1.2.1 dL_law_526 rfl ?_
    exact sa_lcmp_eq (tgt := 533) X.1 (hR.r 103 0 0) hr1 dL_law_527 dL_law_528 (by decide) (fun _ => hE) (fun z => absurd (hcv h0) z)
  refine lv_goto (tgt := 2370) X.1.1 X.1.2.1 dL_law_533 (by decide) ?_
  refine W.widen (k := cells + 8) (n := slots + 2100) (by omega) (by omega) ?_
  exact kk κ1 α1 N2 _ _ _ hw X.2.2.1 hR hS (lv_sub hl [2, 3, 4, 5, 6] rfl)
set_option maxHeartbeats 4000000 in
set_option maxRecDepth 100000 in
theorem law_c4 (X : CX p m c cL_law 7 s args "TablePagesLaw" G B κ meth ret) (N : NcA s) (V : LV s B b L xs) (hlt : l.stackTraces = false) (he0 : e0 = G.2.2.2.2.2) {i : Int} (hi0 : 0 ≤ i) (hi5 : i + 5 ≤ (L : Int)) {K : (Nat → Int) → Mem → Prop} (hw : wp_law_4 (sx xs (i + 1)) (sx xs (i + 2)) (sx xs (i + 3)) κ M K) (hR : Rp G e0 α κ B M H) (hS : va_S (fun q => B ≤ q) s.heap H locs) (hc1 : cells + 8 ≤ R.cells) (hc2 : slots + 2100 ≤ R.slots) (hRr : RmOK R 12) (hl : lv_has ls 7 [(0, .ref b), (1, .ref (α 10 0)), (2, .ref (α 11 0)), (3, .ref (α 103 0)), (4, .int (Int32.ofInt i))])
    (kk : LK p l e R s m args below meth c G e0 B b i K (cells + 8) (slots + 2100) Q) : W p l e R s m args below meth c H locs cells slots Q (F0 m 536 ls []) := by
  have hw : wp_L_figure (sx xs (i + 1)) (sx xs (i + 2)) (sx xs (i + 3)) κ M (fun rk κ1 M1 => wp_X10_figure (sx xs (i + 1)) (sx xs (i + 2)) (sx xs (i + 3)) M1 (fun N1 => wp_X10_thrown N1 (fun r2 N2 => (r2 = rk) ∧ K κ1 N2))) := hw
  refine lv_aload_n X.1.1 X.1.2.1 dL_law_536 rfl (lv_at hl 1 rfl) ?_
  refine la_arg 0 4 X V hS hl rfl rfl ⟨by omega, by omega⟩ dL_law_537 dL_law_538 dL_law_540 dL_law_541 dL_law_542 ?_
  refine la_arg 0 4 X V hS hl rfl rfl ⟨by omega, by omega⟩ dL_law_543 dL_law_544 dL_law_546 dL_law_547 dL_law_548 ?_
  refine la_arg 0 4 X V hS hl rfl rfl ⟨by omega, by omega⟩ dL_law_549 dL_law_550 dL_law_552 dL_law_553 dL_law_554 ?_
  refine sl_call 8 (n := 4) (As := [.ref (α 10 0), .int (Int32.ofInt (sx xs (i + 1))), .int (Int32.ofInt (sx xs (i + 2))), .int (Int32.ofInt (sx xs (i + 3)))]) (rest := []) X N hR hS (w_L_figure hlt he0 X.2.2.1 (sx_R _ _) (sx_R _ _) (sx_R _ _) hw) kw_1136 kw_1137 kw_93 kw_1138 ⟨by decide +kernel, by decide +kernel, by decide +kernel⟩ (rm_law hRr (by decide) (by decide)) rfl rfl (Nat.le_of_ble_eq_true rfl) hl.1 dL_law_555 ⟨by omega, by omega⟩ (fun rk κ1 α1 M1 H locs hw hrk hA hk hR hS => ?_)
  have X := X.re hk
  rw [← hA 10 (Or.inl rfl), ← hA 11 (Or.inr (Or.inl rfl)), ← hA 103 (Or.inr (Or.inr rfl))] at hl
  refine lv_istore (lv' := [(5, .int (Int32.ofInt rk)), (0, .ref b), (1, .ref (α1 10 0)), (2, .ref (α1 11 0)), (3, .ref (α1 103 0)), (4, .int (Int32.ofInt i))]) X.1.1 X.1.2.1 dL_law_558 hl (by decide) rfl (fun ls hl => ?_)
  refine lv_aload_n X.1.1 X.1.2.1 dL_law_560 rfl (lv_at hl 3 rfl) ?_
  refine la_arg 1 5 X V hS hl rfl rfl ⟨by omega, by omega⟩ dL_law_561 dL_law_562 dL_law_564 dL_law_565 dL_law_566 ?_
  refine la_arg 1 5 X V hS hl rfl rfl ⟨by omega, by omega⟩ dL_law_567 dL_law_568 dL_law_570 dL_law_571 dL_law_572 ?_
  refine la_arg 1 5 X V hS hl rfl rfl ⟨by omega, by omega⟩ dL_law_573 dL_law_574 dL_law_576 dL_law_577 dL_law_578 ?_
  refine cs_X10_figure X (sx_R _ _) (sx_R _ _) (sx_R _ _) (kc := 12) hRr ⟨by omega, by omega⟩ (by decide) hR hS kw_1757 hl.1 dL_law_579 (Nat.le_of_ble_eq_true rfl) hw (fun N1 H locs hw hR hS => ?_)
  refine lv_aload_n X.1.1 X.1.2.1 dL_law_582 rfl (lv_at hl 3 rfl) ?_
  refine cs_X10_thrown X  (kc := 12) hRr ⟨by omega, by omega⟩ (by decide) hR hS kw_1710 hl.1 dL_law_583 (Nat.le_of_ble_eq_true rfl) hw (fun r2 N2 H locs hw hr2 hR hS => ?_)
  refine lv_iload X.1.1 X.1.2.1 dL_law_586 (lv_at hl 0 rfl) ?_
  obtain ⟨hc, hw⟩ := hw
  refine sa_icmp_eq (tgt := 593) X.1 hr2 hrk dL_law_588 (by decide) (fun _ => ?_) (fun z => absurd hc z)
  refine lv_goto (tgt := 2370) X.1.1 X.1.2.1 dL_law_593 (by decide) ?_
  refine W.widen (k := cells + 8) (n := slots + 2100) (by omega) (by omega) ?_
  exact kk κ1 α1 N2 _ _ _ hw X.2.2.1 hR hS (lv_sub hl [1, 2, 3, 4, 5] rfl)
set_option maxHeartbeats 4000000 in
set_option maxRecDepth 100000 in
theorem law_c5 (X : CX p m c cL_law 7 s args "TablePagesLaw" G B κ meth ret) (N : NcA s) (V : LV s B b L xs) (hlt : l.stackTraces = false) (he0 : e0 = G.2.2.2.2.2) {i : Int} (hi0 : 0 ≤ i) (hi5 : i + 5 ≤ (L : Int)) {K : (Nat → Int) → Mem → Prop} (hw : wp_law_5 (sx xs (i + 1)) κ M K) (hR : Rp G e0 α κ B M H) (hS : va_S (fun q => B ≤ q) s.heap H locs) (hc1 : cells + 8 ≤ R.cells) (hc2 : slots + 2100 ≤ R.slots) (hRr : RmOK R 12) (hl : lv_has ls 7 [(0, .ref b), (1, .ref (α 10 0)), (2, .ref (α 11 0)), (3, .ref (α 103 0)), (4, .int (Int32.ofInt i))])
    (kk : LK p l e R s m args below meth c G e0 B b i K (cells + 8) (slots + 2100) Q) : W p l e R s m args below meth c H locs cells slots Q (F0 m 596 ls []) := by
  have hw : wp_L_empty (sx xs (i + 1)) κ M (fun rk κ1 M1 => wp_X10_empty (sx xs (i + 1)) M1 (fun r1 N1 => wp_X10_thrown N1 (fun r2 N2 => (r2 = rk) ∧ (rk = 0 → N2 103 0 0 = r1) ∧ K κ1 N2))) := hw
  refine lv_aload_n X.1.1 X.1.2.1 dL_law_596 rfl (lv_at hl 1 rfl) ?_
  refine la_arg 0 4 X V hS hl rfl rfl ⟨by omega, by omega⟩ dL_law_597 dL_law_598 dL_law_600 dL_law_601 dL_law_602 ?_
  refine lv_aload_n X.1.1 X.1.2.1 dL_law_603 rfl (lv_at hl 3 rfl) ?_
  refine sl_call 8 (n := 3) (As := [.ref (α 10 0), .int (Int32.ofInt (sx xs (i + 1))), .ref (α 103 0)]) (rest := []) X N hR hS (w_L_empty hlt he0 X.2.2.1 (sx_R _ _) hw) kw_1150 kw_1151 kw_93 kw_1152 ⟨by decide +kernel, by decide +kernel, by decide +kernel⟩ (rm_law hRr (by decide) (by decide)) rfl rfl (Nat.le_of_ble_eq_true rfl) hl.1 dL_law_604 ⟨by omega, by omega⟩ (fun rk κ1 α1 M1 H locs hw hrk hA hk hR hS => ?_)
  have X := X.re hk
  rw [← hA 10 (Or.inl rfl), ← hA 11 (Or.inr (Or.inl rfl)), ← hA 103 (Or.inr (Or.inr rfl))] at hl
  refine lv_istore (lv' := [(5, .int (Int32.ofInt rk)), (0, .ref b), (1, .ref (α1 10 0)), (2, .ref (α1 11 0)), (3, .ref (α1 103 0)), (4, .int (Int32.ofInt i))]) X.1.1 X.1.2.1 dL_law_607 hl (by decide) rfl (fun ls hl => ?_)
  refine lv_aload_n X.1.1 X.1.2.1 dL_law_609 rfl (lv_at hl 3 rfl) ?_
  refine la_arg 1 5 X V hS hl rfl rfl ⟨by omega, by omega⟩ dL_law_610 dL_law_611 dL_law_613 dL_law_614 dL_law_615 ?_
  refine cs_X10_empty X (sx_R _ _) (kc := 12) hRr ⟨by omega, by omega⟩ (by decide) hR hS kw_1763 hl.1 dL_law_616 (Nat.le_of_ble_eq_true rfl) hw (fun r1 N1 H locs hw hr1 hR hS => ?_)
  refine lv_istore (lv' := [(6, .int (Int32.ofInt r1)), (5, .int (Int32.ofInt rk)), (0, .ref b), (1, .ref (α1 10 0)), (2, .ref (α1 11 0)), (3, .ref (α1 103 0)), (4, .int (Int32.ofInt i))]) X.1.1 X.1.2.1 dL_law_619 hl (by decide) rfl (fun ls hl => ?_)
  refine lv_aload_n X.1.1 X.1.2.1 dL_law_621 rfl (lv_at hl 4 rfl) ?_
  refine cs_X10_thrown X  (kc := 12) hRr ⟨by omega, by omega⟩ (by decide) hR hS kw_1710 hl.1 dL_law_622 (Nat.le_of_ble_eq_true rfl) hw (fun r2 N2 H locs hw hr2 hR hS => ?_)
  refine lv_iload X.1.1 X.1.2.1 dL_law_625 (lv_at hl 1 rfl) ?_
  obtain ⟨hc, hw⟩ := hw
  refine sa_icmp_eq (tgt := 632) X.1 hr2 hrk dL_law_627 (by decide) (fun _ => ?_) (fun z => absurd hc z)
  obtain ⟨hcv, hw⟩ := hw
  refine cut_j (A := W p l e R s m args below meth c H locs (cells + 1) (slots + 6) Q (F0 m 649 ls [])) (fun hE => ?_) ?_
  · refine lv_iload X.1.1 X.1.2.1 dL_law_632 (lv_at hl 1 rfl) ?_
    refine sa_if_ne (tgt := 649) X.1 hrk dL_law_634 (by decide) (fun _ => hE) (fun h0 => ?_)
    refine lv_aload_n X.1.1 X.1.2.1 dL_law_637 rfl (lv_at hl 5 rfl) ?_
    refine sa_const X.1 dL_law_638 ?_
    refine sa_lld X hR dL_law_639 ?_
    refine lv_iload X.1.1 X.1.2.1 dL_law_640 (lv_at hl 0 rfl) ?_
    refine lv_i2l X.1.1 X.1.2.1 dL_law_642 rfl ?_
    exact sa_lcmp_eq (tgt := 649) X.1 (hR.r 103 0 0) hr1 dL_law_643 dL_law_644 (by decide) (fun _ => hE) (fun z => absurd (hcv h0) z)
  refine lv_goto (tgt := 2370) X.1.1 X.1.2.1 dL_law_649 (by decide) ?_
  refine W.widen (k := cells + 8) (n := slots + 2100) (by omega) (by omega) ?_
  exact kk κ1 α1 N2 _ _ _ hw X.2.2.1 hR hS (lv_sub hl [2, 3, 4, 5, 6] rfl)
set_option maxHeartbeats 4000000 in
set_option maxRecDepth 100000 in
theorem law_c6 (X : CX p m c cL_law 7 s args "TablePagesLaw" G B κ meth ret) (N : NcA s) (V : LV s B b L xs) (hlt : l.stackTraces = false) (he0 : e0 = G.2.2.2.2.2) {i : Int} (hi0 : 0 ≤ i) (hi5 : i + 5 ≤ (L : Int)) {K : (Nat → Int) → Mem → Prop} (hw : wp_law_6 (sx xs (i + 1)) (sx xs (i + 2)) κ M K) (hR : Rp G e0 α κ B M H) (hS : va_S (fun q => B ≤ q) s.heap H locs) (hc1 : cells + 8 ≤ R.cells) (hc2 : slots + 2100 ≤ R.slots) (hRr : RmOK R 12) (hl : lv_has ls 7 [(0, .ref b), (1, .ref (α 10 0)), (2, .ref (α 11 0)), (3, .ref (α 103 0)), (4, .int (Int32.ofInt i))])
    (kk : LK p l e R s m args below meth c G e0 B b i K (cells + 8) (slots + 2100) Q) : W p l e R s m args below meth c H locs cells slots Q (F0 m 652 ls []) := by
  have hw : wp_L_note (sx xs (i + 1)) (sx xs (i + 2)) κ M (fun rk κ1 M1 => wp_X10_note (sx xs (i + 1)) (sx xs (i + 2)) M1 (fun r1 N1 => wp_X10_thrown N1 (fun r2 N2 => (r2 = rk) ∧ (rk = 0 → N2 103 0 0 = r1) ∧ K κ1 N2))) := hw
  refine lv_aload_n X.1.1 X.1.2.1 dL_law_652 rfl (lv_at hl 1 rfl) ?_
  refine la_arg 0 4 X V hS hl rfl rfl ⟨by omega, by omega⟩ dL_law_653 dL_law_654 dL_law_656 dL_law_657 dL_law_658 ?_
  refine la_arg 0 4 X V hS hl rfl rfl ⟨by omega, by omega⟩ dL_law_659 dL_law_660 dL_law_662 dL_law_663 dL_law_664 ?_
  refine lv_aload_n X.1.1 X.1.2.1 dL_law_665 rfl (lv_at hl 3 rfl) ?_
  refine sl_call 8 (n := 4) (As := [.ref (α 10 0), .int (Int32.ofInt (sx xs (i + 1))), .int (Int32.ofInt (sx xs (i + 2))), .ref (α 103 0)]) (rest := []) X N hR hS (w_L_note hlt he0 X.2.2.1 (sx_R _ _) (sx_R _ _) hw) kw_1157 kw_1158 kw_93 kw_1159 ⟨by decide +kernel, by decide +kernel, by decide +kernel⟩ (rm_law hRr (by decide) (by decide)) rfl rfl (Nat.le_of_ble_eq_true rfl) hl.1 dL_law_666 ⟨by omega, by omega⟩ (fun rk κ1 α1 M1 H locs hw hrk hA hk hR hS => ?_)
  have X := X.re hk
  rw [← hA 10 (Or.inl rfl), ← hA 11 (Or.inr (Or.inl rfl)), ← hA 103 (Or.inr (Or.inr rfl))] at hl
  refine lv_istore (lv' := [(5, .int (Int32.ofInt rk)), (0, .ref b), (1, .ref (α1 10 0)), (2, .ref (α1 11 0)), (3, .ref (α1 103 0)), (4, .int (Int32.ofInt i))]) X.1.1 X.1.2.1 dL_law_669 hl (by decide) rfl (fun ls hl => ?_)
  refine lv_aload_n X.1.1 X.1.2.1 dL_law_671 rfl (lv_at hl 3 rfl) ?_
  refine la_arg 1 5 X V hS hl rfl rfl ⟨by omega, by omega⟩ dL_law_672 dL_law_673 dL_law_675 dL_law_676 dL_law_677 ?_
  refine la_arg 1 5 X V hS hl rfl rfl ⟨by omega, by omega⟩ dL_law_678 dL_law_679 dL_law_681 dL_law_682 dL_law_683 ?_
  refine cs_X10_note X (sx_R _ _) (sx_R _ _) (kc := 12) hRr ⟨by omega, by omega⟩ (by decide) hR hS kw_1767 hl.1 dL_law_684 (Nat.le_of_ble_eq_true rfl) hw (fun r1 N1 H locs hw hr1 hR hS => ?_)
  refine lv_istore (lv' := [(6, .int (Int32.ofInt r1)), (5, .int (Int32.ofInt rk)), (0, .ref b), (1, .ref (α1 10 0)), (2, .ref (α1 11 0)), (3, .ref (α1 103 0)), (4, .int (Int32.ofInt i))]) X.1.1 X.1.2.1 dL_law_687 hl (by decide) rfl (fun ls hl => ?_)
  refine lv_aload_n X.1.1 X.1.2.1 dL_law_689 rfl (lv_at hl 4 rfl) ?_
  refine cs_X10_thrown X  (kc := 12) hRr ⟨by omega, by omega⟩ (by decide) hR hS kw_1710 hl.1 dL_law_690 (Nat.le_of_ble_eq_true rfl) hw (fun r2 N2 H locs hw hr2 hR hS => ?_)
  refine lv_iload X.1.1 X.1.2.1 dL_law_693 (lv_at hl 1 rfl) ?_
  obtain ⟨hc, hw⟩ := hw
  refine sa_icmp_eq (tgt := 700) X.1 hr2 hrk dL_law_695 (by decide) (fun _ => ?_) (fun z => absurd hc z)
  obtain ⟨hcv, hw⟩ := hw
  refine cut_j (A := W p l e R s m args below meth c H locs (cells + 2) (slots + 12) Q (F0 m 717 ls [])) (fun hE => ?_) ?_
  · refine lv_iload X.1.1 X.1.2.1 dL_law_700 (lv_at hl 1 rfl) ?_
    refine sa_if_ne (tgt := 717) X.1 hrk dL_law_702 (by decide) (fun _ => hE) (fun h0 => ?_)
    refine lv_aload_n X.1.1 X.1.2.1 dL_law_705 rfl (lv_at hl 5 rfl) ?_
    refine sa_const X.1 dL_law_706 ?_
    refine sa_lld X hR dL_law_707 ?_
    refine lv_iload X.1.1 X.1.2.1 dL_law_708 (lv_at hl 0 rfl) ?_
    refine lv_i2l X.1.1 X.1.2.1 dL_law_710 rfl ?_
    exact sa_lcmp_eq (tgt := 717) X.1 (hR.r 103 0 0) hr1 dL_law_711 dL_law_712 (by decide) (fun _ => hE) (fun z => absurd (hcv h0) z)
  refine lv_goto (tgt := 2370) X.1.1 X.1.2.1 dL_law_717 (by decide) ?_
  refine W.widen (k := cells + 8) (n := slots + 2100) (by omega) (by omega) ?_
  exact kk κ1 α1 N2 _ _ _ hw X.2.2.1 hR hS (lv_sub hl [2, 3, 4, 5, 6] rfl)
set_option maxHeartbeats 4000000 in
set_option maxRecDepth 100000 in
theorem law_c7 (X : CX p m c cL_law 7 s args "TablePagesLaw" G B κ meth ret) (N : NcA s) (V : LV s B b L xs) (hlt : l.stackTraces = false) (he0 : e0 = G.2.2.2.2.2) {i : Int} (hi0 : 0 ≤ i) (hi5 : i + 5 ≤ (L : Int)) {K : (Nat → Int) → Mem → Prop} (hw : wp_law_7 (sx xs (i + 1)) (sx xs (i + 2)) κ M K) (hR : Rp G e0 α κ B M H) (hS : va_S (fun q => B ≤ q) s.heap H locs) (hc1 : cells + 8 ≤ R.cells) (hc2 : slots + 2100 ≤ R.slots) (hRr : RmOK R 12) (hl : lv_has ls 7 [(0, .ref b), (1, .ref (α 10 0)), (2, .ref (α 11 0)), (3, .ref (α 103 0)), (4, .int (Int32.ofInt i))])
    (kk : LK p l e R s m args below meth c G e0 B b i K (cells + 8) (slots + 2100) Q) : W p l e R s m args below meth c H locs cells slots Q (F0 m 720 ls []) := by
  have hw : wp_L_at (sx xs (i + 1)) (sx xs (i + 2)) κ M (fun rk κ1 M1 => wp_X10_at (sx xs (i + 1)) (sx xs (i + 2)) M1 (fun r1 N1 => wp_X10_thrown N1 (fun r2 N2 => (r2 = rk) ∧ (rk = 0 → N2 103 0 0 = r1) ∧ K κ1 N2))) := hw
  refine lv_aload_n X.1.1 X.1.2.1 dL_law_720 rfl (lv_at hl 1 rfl) ?_
  refine la_arg 0 4 X V hS hl rfl rfl ⟨by omega, by omega⟩ dL_law_721 dL_law_722 dL_law_724 dL_law_725 dL_law_726 ?_
  refine la_arg 0 4 X V hS hl rfl rfl ⟨by omega, by omega⟩ dL_law_727 dL_law_728 dL_law_730 dL_law_731 dL_law_732 ?_
  refine lv_aload_n X.1.1 X.1.2.1 dL_law_733 rfl (lv_at hl 3 rfl) ?_
  refine sl_call 8 (n := 4) (As := [.ref (α 10 0), .int (Int32.ofInt (sx xs (i + 1))), .int (Int32.ofInt (sx xs (i + 2))), .ref (α 103 0)]) (rest := []) X N hR hS (w_L_at hlt he0 X.2.2.1 (sx_R _ _) (sx_R _ _) hw) kw_1166 kw_1167 kw_93 kw_1168 ⟨by decide +kernel, by decide +kernel, by decide +kernel⟩ (rm_law hRr (by decide) (by decide)) rfl rfl (Nat.le_of_ble_eq_true rfl) hl.1 dL_law_734 ⟨by omega, by omega⟩ (fun rk κ1 α1 M1 H locs hw hrk hA hk hR hS => ?_)
  have X := X.re hk
  rw [← hA 10 (Or.inl rfl), ← hA 11 (Or.inr (Or.inl rfl)), ← hA 103 (Or.inr (Or.inr rfl))] at hl
  refine lv_istore (lv' := [(5, .int (Int32.ofInt rk)), (0, .ref b), (1, .ref (α1 10 0)), (2, .ref (α1 11 0)), (3, .ref (α1 103 0)), (4, .int (Int32.ofInt i))]) X.1.1 X.1.2.1 dL_law_737 hl (by decide) rfl (fun ls hl => ?_)
  refine lv_aload_n X.1.1 X.1.2.1 dL_law_739 rfl (lv_at hl 3 rfl) ?_
  refine la_arg 1 5 X V hS hl rfl rfl ⟨by omega, by omega⟩ dL_law_740 dL_law_741 dL_law_743 dL_law_744 dL_law_745 ?_
  refine la_arg 1 5 X V hS hl rfl rfl ⟨by omega, by omega⟩ dL_law_746 dL_law_747 dL_law_749 dL_law_750 dL_law_751 ?_
  refine cs_X10_at X (sx_R _ _) (sx_R _ _) (kc := 12) hRr ⟨by omega, by omega⟩ (by decide) hR hS kw_1771 hl.1 dL_law_752 (Nat.le_of_ble_eq_true rfl) hw (fun r1 N1 H locs hw hr1 hR hS => ?_)
  refine lv_istore (lv' := [(6, .int (Int32.ofInt r1)), (5, .int (Int32.ofInt rk)), (0, .ref b), (1, .ref (α1 10 0)), (2, .ref (α1 11 0)), (3, .ref (α1 103 0)), (4, .int (Int32.ofInt i))]) X.1.1 X.1.2.1 dL_law_755 hl (by decide) rfl (fun ls hl => ?_)
  refine lv_aload_n X.1.1 X.1.2.1 dL_law_757 rfl (lv_at hl 4 rfl) ?_
  refine cs_X10_thrown X  (kc := 12) hRr ⟨by omega, by omega⟩ (by decide) hR hS kw_1710 hl.1 dL_law_758 (Nat.le_of_ble_eq_true rfl) hw (fun r2 N2 H locs hw hr2 hR hS => ?_)
  refine lv_iload X.1.1 X.1.2.1 dL_law_761 (lv_at hl 1 rfl) ?_
  obtain ⟨hc, hw⟩ := hw
  refine sa_icmp_eq (tgt := 768) X.1 hr2 hrk dL_law_763 (by decide) (fun _ => ?_) (fun z => absurd hc z)
  obtain ⟨hcv, hw⟩ := hw
  refine cut_j (A := W p l e R s m args below meth c H locs (cells + 2) (slots + 12) Q (F0 m 785 ls [])) (fun hE => ?_) ?_
  · refine lv_iload X.1.1 X.1.2.1 dL_law_768 (lv_at hl 1 rfl) ?_
    refine sa_if_ne (tgt := 785) X.1 hrk dL_law_770 (by decide) (fun _ => hE) (fun h0 => ?_)
    refine lv_aload_n X.1.1 X.1.2.1 dL_law_773 rfl (lv_at hl 5 rfl) ?_
    refine sa_const X.1 dL_law_774 ?_
    refine sa_lld X hR dL_law_775 ?_
    refine lv_iload X.1.1 X.1.2.1 dL_law_776 (lv_at hl 0 rfl) ?_
    refine lv_i2l X.1.1 X.1.2.1 dL_law_778 rfl ?_
    exact sa_lcmp_eq (tgt := 785) X.1 (hR.r 103 0 0) hr1 dL_law_779 dL_law_780 (by decide) (fun _ => hE) (fun z => absurd (hcv h0) z)
  refine lv_goto (tgt := 2370) X.1.1 X.1.2.1 dL_law_785 (by decide) ?_
  refine W.widen (k := cells + 8) (n := slots + 2100) (by omega) (by omega) ?_
  exact kk κ1 α1 N2 _ _ _ hw X.2.2.1 hR hS (lv_sub hl [2, 3, 4, 5, 6] rfl)
set_option maxHeartbeats 4000000 in
set_option maxRecDepth 100000 in
theorem law_c8 (X : CX p m c cL_law 7 s args "TablePagesLaw" G B κ meth ret) (N : NcA s) (V : LV s B b L xs) (hlt : l.stackTraces = false) (he0 : e0 = G.2.2.2.2.2) {i : Int} (hi0 : 0 ≤ i) (hi5 : i + 5 ≤ (L : Int)) {K : (Nat → Int) → Mem → Prop} (hw : wp_law_8 (sx xs (i + 1)) (sx xs (i + 2)) κ M K) (hR : Rp G e0 α κ B M H) (hS : va_S (fun q => B ≤ q) s.heap H locs) (hc1 : cells + 8 ≤ R.cells) (hc2 : slots + 2100 ≤ R.slots) (hRr : RmOK R 12) (hl : lv_has ls 7 [(0, .ref b), (1, .ref (α 10 0)), (2, .ref (α 11 0)), (3, .ref (α 103 0)), (4, .int (Int32.ofInt i))])
    (kk : LK p l e R s m args below meth c G e0 B b i K (cells + 8) (slots + 2100) Q) : W p l e R s m args below meth c H locs cells slots Q (F0 m 788 ls []) := by
  have hw : wp_L_setPaper (sx xs (i + 1)) (sx xs (i + 2)) κ M (fun rk κ1 M1 => wp_X10_setPaper (sx xs (i + 1)) (sx xs (i + 2)) M1 (fun N1 => wp_X10_thrown N1 (fun r2 N2 => (r2 = rk) ∧ K κ1 N2))) := hw
  refine lv_aload_n X.1.1 X.1.2.1 dL_law_788 rfl (lv_at hl 1 rfl) ?_
  refine la_arg 0 4 X V hS hl rfl rfl ⟨by omega, by omega⟩ dL_law_789 dL_law_790 dL_law_792 dL_law_793 dL_law_794 ?_
  refine la_arg 0 4 X V hS hl rfl rfl ⟨by omega, by omega⟩ dL_law_795 dL_law_796 dL_law_798 dL_law_799 dL_law_800 ?_
  refine sl_call 7 (n := 3) (As := [.ref (α 10 0), .int (Int32.ofInt (sx xs (i + 1))), .int (Int32.ofInt (sx xs (i + 2)))]) (rest := []) X N hR hS (w_L_setPaper hlt he0 X.2.2.1 (sx_R _ _) (sx_R _ _) hw) kw_1178 kw_1179 kw_93 kw_1180 ⟨by decide +kernel, by decide +kernel, by decide +kernel⟩ (rm_law hRr (by decide) (by decide)) rfl rfl (Nat.le_of_ble_eq_true rfl) hl.1 dL_law_801 ⟨by omega, by omega⟩ (fun rk κ1 α1 M1 H locs hw hrk hA hk hR hS => ?_)
  have X := X.re hk
  rw [← hA 10 (Or.inl rfl), ← hA 11 (Or.inr (Or.inl rfl)), ← hA 103 (Or.inr (Or.inr rfl))] at hl
  refine lv_istore (lv' := [(5, .int (Int32.ofInt rk)), (0, .ref b), (1, .ref (α1 10 0)), (2, .ref (α1 11 0)), (3, .ref (α1 103 0)), (4, .int (Int32.ofInt i))]) X.1.1 X.1.2.1 dL_law_804 hl (by decide) rfl (fun ls hl => ?_)
  refine lv_aload_n X.1.1 X.1.2.1 dL_law_806 rfl (lv_at hl 3 rfl) ?_
  refine la_arg 1 5 X V hS hl rfl rfl ⟨by omega, by omega⟩ dL_law_807 dL_law_808 dL_law_810 dL_law_811 dL_law_812 ?_
  refine la_arg 1 5 X V hS hl rfl rfl ⟨by omega, by omega⟩ dL_law_813 dL_law_814 dL_law_816 dL_law_817 dL_law_818 ?_
  refine cs_X10_setPaper X (sx_R _ _) (sx_R _ _) (kc := 12) hRr ⟨by omega, by omega⟩ (by decide) hR hS kw_1775 hl.1 dL_law_819 (Nat.le_of_ble_eq_true rfl) hw (fun N1 H locs hw hR hS => ?_)
  refine lv_aload_n X.1.1 X.1.2.1 dL_law_822 rfl (lv_at hl 3 rfl) ?_
  refine cs_X10_thrown X  (kc := 12) hRr ⟨by omega, by omega⟩ (by decide) hR hS kw_1710 hl.1 dL_law_823 (Nat.le_of_ble_eq_true rfl) hw (fun r2 N2 H locs hw hr2 hR hS => ?_)
  refine lv_iload X.1.1 X.1.2.1 dL_law_826 (lv_at hl 0 rfl) ?_
  obtain ⟨hc, hw⟩ := hw
  refine sa_icmp_eq (tgt := 833) X.1 hr2 hrk dL_law_828 (by decide) (fun _ => ?_) (fun z => absurd hc z)
  refine lv_goto (tgt := 2370) X.1.1 X.1.2.1 dL_law_833 (by decide) ?_
  refine W.widen (k := cells + 8) (n := slots + 2100) (by omega) (by omega) ?_
  exact kk κ1 α1 N2 _ _ _ hw X.2.2.1 hR hS (lv_sub hl [1, 2, 3, 4, 5] rfl)
set_option maxHeartbeats 4000000 in
set_option maxRecDepth 100000 in
theorem law_c9 (X : CX p m c cL_law 7 s args "TablePagesLaw" G B κ meth ret) (N : NcA s) (V : LV s B b L xs) (hlt : l.stackTraces = false) (he0 : e0 = G.2.2.2.2.2) {i : Int} (hi0 : 0 ≤ i) (hi5 : i + 5 ≤ (L : Int)) {K : (Nat → Int) → Mem → Prop} (hw : wp_law_9 κ M K) (hR : Rp G e0 α κ B M H) (hS : va_S (fun q => B ≤ q) s.heap H locs) (hc1 : cells + 8 ≤ R.cells) (hc2 : slots + 2100 ≤ R.slots) (hRr : RmOK R 12) (hl : lv_has ls 7 [(0, .ref b), (1, .ref (α 10 0)), (2, .ref (α 11 0)), (3, .ref (α 103 0)), (4, .int (Int32.ofInt i))])
    (kk : LK p l e R s m args below meth c G e0 B b i K (cells + 8) (slots + 2100) Q) : W p l e R s m args below meth c H locs cells slots Q (F0 m 836 ls []) := by
  have hw : wp_X9_notesAtEnd M (fun r1 N1 => wp_X10_notesAtEnd N1 (fun r2 N2 => (r1 = r2) ∧ K κ N2)) := hw
  refine lv_aload_n X.1.1 X.1.2.1 dL_law_836 rfl (lv_at hl 1 rfl) ?_
  refine cs_X9_notesAtEnd X  (kc := 12) hRr ⟨by omega, by omega⟩ (by decide) hR hS kw_418 hl.1 dL_law_837 (Nat.le_of_ble_eq_true rfl) hw (fun r1 N1 H locs hw hr1 hR hS => ?_)
  refine lv_aload_n X.1.1 X.1.2.1 dL_law_840 rfl (lv_at hl 2 rfl) ?_
  refine cs_X10_notesAtEnd X  (kc := 12) hRr ⟨by omega, by omega⟩ (by decide) hR hS kw_1779 hl.1 dL_law_841 (Nat.le_of_ble_eq_true rfl) hw (fun r2 N2 H locs hw hr2 hR hS => ?_)
  obtain ⟨hc, hw⟩ := hw
  refine sa_icmp_eq (tgt := 2370) X.1 hr1 hr2 dL_law_844 (by decide) (fun _ => ?_) (fun z => absurd hc z)
  refine W.widen (k := cells + 8) (n := slots + 2100) (by omega) (by omega) ?_
  exact kk κ α N2 _ _ _ hw X.2.2.1 hR hS (lv_sub hl [0, 1, 2, 3, 4] rfl)
set_option maxHeartbeats 4000000 in
set_option maxRecDepth 100000 in
theorem law_c10 (X : CX p m c cL_law 7 s args "TablePagesLaw" G B κ meth ret) (N : NcA s) (V : LV s B b L xs) (hlt : l.stackTraces = false) (he0 : e0 = G.2.2.2.2.2) {i : Int} (hi0 : 0 ≤ i) (hi5 : i + 5 ≤ (L : Int)) {K : (Nat → Int) → Mem → Prop} (hw : wp_law_10 (sx xs (i + 1)) κ M K) (hR : Rp G e0 α κ B M H) (hS : va_S (fun q => B ≤ q) s.heap H locs) (hc1 : cells + 8 ≤ R.cells) (hc2 : slots + 2100 ≤ R.slots) (hRr : RmOK R 12) (hl : lv_has ls 7 [(0, .ref b), (1, .ref (α 10 0)), (2, .ref (α 11 0)), (3, .ref (α 103 0)), (4, .int (Int32.ofInt i))])
    (kk : LK p l e R s m args below meth c G e0 B b i K (cells + 8) (slots + 2100) Q) : W p l e R s m args below meth c H locs cells slots Q (F0 m 849 ls []) := by
  have hw : wp_L_totalled (sx xs (i + 1)) κ M (fun rk κ1 M1 => wp_X10_totalled (sx xs (i + 1)) M1 (fun r1 N1 => wp_X10_thrown N1 (fun r2 N2 => (r2 = rk) ∧ (rk = 0 → N2 103 0 0 = zb r1) ∧ K κ1 N2))) := hw
  refine lv_aload_n X.1.1 X.1.2.1 dL_law_849 rfl (lv_at hl 1 rfl) ?_
  refine la_arg 0 4 X V hS hl rfl rfl ⟨by omega, by omega⟩ dL_law_850 dL_law_851 dL_law_853 dL_law_854 dL_law_855 ?_
  refine lv_aload_n X.1.1 X.1.2.1 dL_law_856 rfl (lv_at hl 3 rfl) ?_
  refine sl_call 8 (n := 3) (As := [.ref (α 10 0), .int (Int32.ofInt (sx xs (i + 1))), .ref (α 103 0)]) (rest := []) X N hR hS (w_L_totalled hlt he0 X.2.2.1 (sx_R _ _) hw) kw_1186 kw_1187 kw_93 kw_1188 ⟨by decide +kernel, by decide +kernel, by decide +kernel⟩ (rm_law hRr (by decide) (by decide)) rfl rfl (Nat.le_of_ble_eq_true rfl) hl.1 dL_law_857 ⟨by omega, by omega⟩ (fun rk κ1 α1 M1 H locs hw hrk hA hk hR hS => ?_)
  have X := X.re hk
  rw [← hA 10 (Or.inl rfl), ← hA 11 (Or.inr (Or.inl rfl)), ← hA 103 (Or.inr (Or.inr rfl))] at hl
  refine lv_istore (lv' := [(5, .int (Int32.ofInt rk)), (0, .ref b), (1, .ref (α1 10 0)), (2, .ref (α1 11 0)), (3, .ref (α1 103 0)), (4, .int (Int32.ofInt i))]) X.1.1 X.1.2.1 dL_law_860 hl (by decide) rfl (fun ls hl => ?_)
  refine lv_aload_n X.1.1 X.1.2.1 dL_law_862 rfl (lv_at hl 3 rfl) ?_
  refine la_arg 1 5 X V hS hl rfl rfl ⟨by omega, by omega⟩ dL_law_863 dL_law_864 dL_law_866 dL_law_867 dL_law_868 ?_
  refine cs_X10_totalled X (sx_R _ _) (kc := 12) hRr ⟨by omega, by omega⟩ (by decide) hR hS kw_1783 hl.1 dL_law_869 (Nat.le_of_ble_eq_true rfl) hw (fun r1 N1 H locs hw hr1 hR hS => ?_)
  refine lv_istore (lv' := [(6, .int (Int32.ofInt r1)), (5, .int (Int32.ofInt rk)), (0, .ref b), (1, .ref (α1 10 0)), (2, .ref (α1 11 0)), (3, .ref (α1 103 0)), (4, .int (Int32.ofInt i))]) X.1.1 X.1.2.1 dL_law_872 hl (by decide) rfl (fun ls hl => ?_)
  refine lv_aload_n X.1.1 X.1.2.1 dL_law_874 rfl (lv_at hl 4 rfl) ?_
  refine cs_X10_thrown X  (kc := 12) hRr ⟨by omega, by omega⟩ (by decide) hR hS kw_1710 hl.1 dL_law_875 (Nat.le_of_ble_eq_true rfl) hw (fun r2 N2 H locs hw hr2 hR hS => ?_)
  refine lv_iload X.1.1 X.1.2.1 dL_law_878 (lv_at hl 1 rfl) ?_
  obtain ⟨hc, hw⟩ := hw
  refine sa_icmp_eq (tgt := 885) X.1 hr2 hrk dL_law_880 (by decide) (fun _ => ?_) (fun z => absurd hc z)
  obtain ⟨hcv, hw⟩ := hw
  refine cut_j (A := W p l e R s m args below meth c H locs (cells + 1) (slots + 6) Q (F0 m 909 ls [])) (fun hE => ?_) ?_
  · refine lv_iload X.1.1 X.1.2.1 dL_law_885 (lv_at hl 1 rfl) ?_
    refine sa_if_ne (tgt := 909) X.1 hrk dL_law_887 (by decide) (fun _ => hE) (fun h0 => ?_)
    refine lv_aload_n X.1.1 X.1.2.1 dL_law_890 rfl (lv_at hl 5 rfl) ?_
    refine sa_const X.1 dL_law_891 ?_
    refine sa_lld X hR dL_law_892 ?_
    refine lv_iload X.1.1 X.1.2.1 dL_law_893 (lv_at hl 0 rfl) ?_
    have hcv := hcv h0
    unfold zb at hcv
    refine sa_if_eq (tgt := 902) X.1 hr1 dL_law_895 (by decide) (fun hz => ?_) (fun hz => ?_)
    · rw [if_pos hz] at hcv
      refine lv_lconst (v := (Int32.ofInt 0).toInt64) X.1.1 X.1.2.1 dL_law_902 rfl ?_
      exact sa_lcmp_eq (tgt := 909) X.1 (hR.r 103 0 0) (inR_c (a := 0) rfl) dL_law_903 dL_law_904 (by decide) (fun _ => hE) (fun z => absurd hcv z)
    · rw [if_neg hz] at hcv
      refine lv_lconst (v := (Int32.ofInt 1).toInt64) X.1.1 X.1.2.1 dL_law_898 rfl ?_
      refine lv_goto (tgt := 903) X.1.1 X.1.2.1 dL_law_899 (by decide) ?_
      exact sa_lcmp_eq (tgt := 909) X.1 (hR.r 103 0 0) (inR_c (a := 1) rfl) dL_law_903 dL_law_904 (by decide) (fun _ => hE) (fun z => absurd hcv z)
  refine lv_goto (tgt := 2370) X.1.1 X.1.2.1 dL_law_909 (by decide) ?_
  refine W.widen (k := cells + 8) (n := slots + 2100) (by omega) (by omega) ?_
  exact kk κ1 α1 N2 _ _ _ hw X.2.2.1 hR hS (lv_sub hl [2, 3, 4, 5, 6] rfl)
set_option maxHeartbeats 4000000 in
set_option maxRecDepth 100000 in
theorem law_c11 (X : CX p m c cL_law 7 s args "TablePagesLaw" G B κ meth ret) (N : NcA s) (V : LV s B b L xs) (hlt : l.stackTraces = false) (he0 : e0 = G.2.2.2.2.2) {i : Int} (hi0 : 0 ≤ i) (hi5 : i + 5 ≤ (L : Int)) {K : (Nat → Int) → Mem → Prop} (hw : wp_law_11 (sx xs (i + 1)) κ M K) (hR : Rp G e0 α κ B M H) (hS : va_S (fun q => B ≤ q) s.heap H locs) (hc1 : cells + 8 ≤ R.cells) (hc2 : slots + 2100 ≤ R.slots) (hRr : RmOK R 12) (hl : lv_has ls 7 [(0, .ref b), (1, .ref (α 10 0)), (2, .ref (α 11 0)), (3, .ref (α 103 0)), (4, .int (Int32.ofInt i))])
    (kk : LK p l e R s m args below meth c G e0 B b i K (cells + 8) (slots + 2100) Q) : W p l e R s m args below meth c H locs cells slots Q (F0 m 912 ls []) := by
  have hw : wp_L_hide (sx xs (i + 1)) κ M (fun rk κ1 M1 => wp_X10_hide (sx xs (i + 1)) M1 (fun r1 N1 => wp_X10_thrown N1 (fun r2 N2 => (r2 = rk) ∧ (rk = 0 → N2 103 0 0 = zb r1) ∧ K κ1 N2))) := hw
  refine lv_aload_n X.1.1 X.1.2.1 dL_law_912 rfl (lv_at hl 1 rfl) ?_
  refine la_arg 0 4 X V hS hl rfl rfl ⟨by omega, by omega⟩ dL_law_913 dL_law_914 dL_law_916 dL_law_917 dL_law_918 ?_
  refine lv_aload_n X.1.1 X.1.2.1 dL_law_919 rfl (lv_at hl 3 rfl) ?_
  refine sl_call 8 (n := 3) (As := [.ref (α 10 0), .int (Int32.ofInt (sx xs (i + 1))), .ref (α 103 0)]) (rest := []) X N hR hS (w_L_hide hlt he0 X.2.2.1 (sx_R _ _) hw) kw_1194 kw_1195 kw_93 kw_1196 ⟨by decide +kernel, by decide +kernel, by decide +kernel⟩ (rm_law hRr (by decide) (by decide)) rfl rfl (Nat.le_of_ble_eq_true rfl) hl.1 dL_law_920 ⟨by omega, by omega⟩ (fun rk κ1 α1 M1 H locs hw hrk hA hk hR hS => ?_)
  have X := X.re hk
  rw [← hA 10 (Or.inl rfl), ← hA 11 (Or.inr (Or.inl rfl)), ← hA 103 (Or.inr (Or.inr rfl))] at hl
  refine lv_istore (lv' := [(5, .int (Int32.ofInt rk)), (0, .ref b), (1, .ref (α1 10 0)), (2, .ref (α1 11 0)), (3, .ref (α1 103 0)), (4, .int (Int32.ofInt i))]) X.1.1 X.1.2.1 dL_law_923 hl (by decide) rfl (fun ls hl => ?_)
  refine lv_aload_n X.1.1 X.1.2.1 dL_law_925 rfl (lv_at hl 3 rfl) ?_
  refine la_arg 1 5 X V hS hl rfl rfl ⟨by omega, by omega⟩ dL_law_926 dL_law_927 dL_law_929 dL_law_930 dL_law_931 ?_
  refine cs_X10_hide X (sx_R _ _) (kc := 12) hRr ⟨by omega, by omega⟩ (by decide) hR hS kw_1787 hl.1 dL_law_932 (Nat.le_of_ble_eq_true rfl) hw (fun r1 N1 H locs hw hr1 hR hS => ?_)
  refine lv_istore (lv' := [(6, .int (Int32.ofInt r1)), (5, .int (Int32.ofInt rk)), (0, .ref b), (1, .ref (α1 10 0)), (2, .ref (α1 11 0)), (3, .ref (α1 103 0)), (4, .int (Int32.ofInt i))]) X.1.1 X.1.2.1 dL_law_935 hl (by decide) rfl (fun ls hl => ?_)
  refine lv_aload_n X.1.1 X.1.2.1 dL_law_937 rfl (lv_at hl 4 rfl) ?_
  refine cs_X10_thrown X  (kc := 12) hRr ⟨by omega, by omega⟩ (by decide) hR hS kw_1710 hl.1 dL_law_938 (Nat.le_of_ble_eq_true rfl) hw (fun r2 N2 H locs hw hr2 hR hS => ?_)
  refine lv_iload X.1.1 X.1.2.1 dL_law_941 (lv_at hl 1 rfl) ?_
  obtain ⟨hc, hw⟩ := hw
  refine sa_icmp_eq (tgt := 948) X.1 hr2 hrk dL_law_943 (by decide) (fun _ => ?_) (fun z => absurd hc z)
  obtain ⟨hcv, hw⟩ := hw
  refine cut_j (A := W p l e R s m args below meth c H locs (cells + 2) (slots + 12) Q (F0 m 972 ls [])) (fun hE => ?_) ?_
  · refine lv_iload X.1.1 X.1.2.1 dL_law_948 (lv_at hl 1 rfl) ?_
    refine sa_if_ne (tgt := 972) X.1 hrk dL_law_950 (by decide) (fun _ => hE) (fun h0 => ?_)
    refine lv_aload_n X.1.1 X.1.2.1 dL_law_953 rfl (lv_at hl 5 rfl) ?_
    refine sa_const X.1 dL_law_954 ?_
    refine sa_lld X hR dL_law_955 ?_
    refine lv_iload X.1.1 X.1.2.1 dL_law_956 (lv_at hl 0 rfl) ?_
    have hcv := hcv h0
    unfold zb at hcv
    refine sa_if_eq (tgt := 965) X.1 hr1 dL_law_958 (by decide) (fun hz => ?_) (fun hz => ?_)
    · rw [if_pos hz] at hcv
      refine lv_lconst (v := (Int32.ofInt 0).toInt64) X.1.1 X.1.2.1 dL_law_965 rfl ?_
      exact sa_lcmp_eq (tgt := 972) X.1 (hR.r 103 0 0) (inR_c (a := 0) rfl) dL_law_966 dL_law_967 (by decide) (fun _ => hE) (fun z => absurd hcv z)
    · rw [if_neg hz] at hcv
      refine lv_lconst (v := (Int32.ofInt 1).toInt64) X.1.1 X.1.2.1 dL_law_961 rfl ?_
      refine lv_goto (tgt := 966) X.1.1 X.1.2.1 dL_law_962 (by decide) ?_
      exact sa_lcmp_eq (tgt := 972) X.1 (hR.r 103 0 0) (inR_c (a := 1) rfl) dL_law_966 dL_law_967 (by decide) (fun _ => hE) (fun z => absurd hcv z)
  refine lv_goto (tgt := 2370) X.1.1 X.1.2.1 dL_law_972 (by decide) ?_
  refine W.widen (k := cells + 8) (n := slots + 2100) (by omega) (by omega) ?_
  exact kk κ1 α1 N2 _ _ _ hw X.2.2.1 hR hS (lv_sub hl [2, 3, 4, 5, 6] rfl)
set_option maxHeartbeats 4000000 in
set_option maxRecDepth 100000 in
theorem law_c12 (X : CX p m c cL_law 7 s args "TablePagesLaw" G B κ meth ret) (N : NcA s) (V : LV s B b L xs) (hlt : l.stackTraces = false) (he0 : e0 = G.2.2.2.2.2) {i : Int} (hi0 : 0 ≤ i) (hi5 : i + 5 ≤ (L : Int)) {K : (Nat → Int) → Mem → Prop} (hw : wp_law_12 (sx xs (i + 1)) (sx xs (i + 2)) κ M K) (hR : Rp G e0 α κ B M H) (hS : va_S (fun q => B ≤ q) s.heap H locs) (hc1 : cells + 8 ≤ R.cells) (hc2 : slots + 2100 ≤ R.slots) (hRr : RmOK R 12) (hl : lv_has ls 7 [(0, .ref b), (1, .ref (α 10 0)), (2, .ref (α 11 0)), (3, .ref (α 103 0)), (4, .int (Int32.ofInt i))])
    (kk : LK p l e R s m args below meth c G e0 B b i K (cells + 8) (slots + 2100) Q) : W p l e R s m args below meth c H locs cells slots Q (F0 m 975 ls []) := by
  have hw : wp_L_sort (sx xs (i + 1)) (zb (sx xs (i + 2))) κ M (fun rk κ1 M1 => wp_X10_sort (sx xs (i + 1)) (zb (sx xs (i + 2))) M1 (fun r1 N1 => wp_X10_thrown N1 (fun r2 N2 => (r2 = rk) ∧ (rk = 0 → N2 103 0 0 = r1) ∧ K κ1 N2))) := hw
  refine lv_aload_n X.1.1 X.1.2.1 dL_law_975 rfl (lv_at hl 1 rfl) ?_
  refine la_arg 0 4 X V hS hl rfl rfl ⟨by omega, by omega⟩ dL_law_976 dL_law_977 dL_law_979 dL_law_980 dL_law_981 ?_
  refine la_argb 0 4 X V hS hl rfl rfl ⟨by omega, by omega⟩ dL_law_982 dL_law_983 dL_law_985 dL_law_986 dL_law_987 dL_law_988 dL_law_991 dL_law_992 dL_law_995 ?_
  refine lv_aload_n X.1.1 X.1.2.1 dL_law_996 rfl (lv_at hl 3 rfl) ?_
  refine sl_call 8 (n := 4) (As := [.ref (α 10 0), .int (Int32.ofInt (sx xs (i + 1))), .int (Int32.ofInt (zb (sx xs (i + 2)))), .ref (α 103 0)]) (rest := []) X N hR hS (w_L_sort hlt he0 X.2.2.1 (sx_R _ _) (bit_R (zb_b _)) hw) kw_1208 kw_1209 kw_93 kw_1210 ⟨by decide +kernel, by decide +kernel, by decide +kernel⟩ (rm_law hRr (by decide) (by decide)) rfl rfl (Nat.le_of_ble_eq_true rfl) hl.1 dL_law_997 ⟨by omega, by omega⟩ (fun rk κ1 α1 M1 H locs hw hrk hA hk hR hS => ?_)
  have X := X.re hk
  rw [← hA 10 (Or.inl rfl), ← hA 11 (Or.inr (Or.inl rfl)), ← hA 103 (Or.inr (Or.inr rfl))] at hl
  refine lv_istore (lv' := [(5, .int (Int32.ofInt rk)), (0, .ref b), (1, .ref (α1 10 0)), (2, .ref (α1 11 0)), (3, .ref (α1 103 0)), (4, .int (Int32.ofInt i))]) X.1.1 X.1.2.1 dL_law_1000 hl (by decide) rfl (fun ls hl => ?_)
  refine lv_aload_n X.1.1 X.1.2.1 dL_law_1002 rfl (lv_at hl 3 rfl) ?_
  refine la_arg 1 5 X V hS hl rfl rfl ⟨by omega, by omega⟩ dL_law_1003 dL_law_1004 dL_law_1006 dL_law_1007 dL_law_1008 ?_
  refine la_argb 1 5 X V hS hl rfl rfl ⟨by omega, by omega⟩ dL_law_1009 dL_law_1010 dL_law_1012 dL_law_1013 dL_law_1014 dL_law_1015 dL_law_1018 dL_law_1019 dL_law_1022 ?_
  refine cs_X10_sort X (sx_R _ _) (bit_R (zb_b _)) (kc := 12) hRr ⟨by omega, by omega⟩ (by decide) hR hS kw_1795 hl.1 dL_law_1023 (Nat.le_of_ble_eq_true rfl) hw (fun r1 N1 H locs hw hr1 hR hS => ?_)
  refine lv_istore (lv' := [(6, .int (Int32.ofInt r1)), (5, .int (Int32.ofInt rk)), (0, .ref b), (1, .ref (α1 10 0)), (2, .ref (α1 11 0)), (3, .ref (α1 103 0)), (4, .int (Int32.ofInt i))]) X.1.1 X.1.2.1 dL_law_1026 hl (by decide) rfl (fun ls hl => ?_)
  refine lv_aload_n X.1.1 X.1.2.1 dL_law_1028 rfl (lv_at hl 4 rfl) ?_
  refine cs_X10_thrown X  (kc := 12) hRr ⟨by omega, by omega⟩ (by decide) hR hS kw_1710 hl.1 dL_law_1029 (Nat.le_of_ble_eq_true rfl) hw (fun r2 N2 H locs hw hr2 hR hS => ?_)
  refine lv_iload X.1.1 X.1.2.1 dL_law_1032 (lv_at hl 1 rfl) ?_
  obtain ⟨hc, hw⟩ := hw
  refine sa_icmp_eq (tgt := 1039) X.1 hr2 hrk dL_law_1034 (by decide) (fun _ => ?_) (fun z => absurd hc z)
  obtain ⟨hcv, hw⟩ := hw
  refine cut_j (A := W p l e R s m args below meth c H locs (cells + 2) (slots + 12) Q (F0 m 1056 ls [])) (fun hE => ?_) ?_
  · refine lv_iload X.1.1 X.1.2.1 dL_law_1039 (lv_at hl 1 rfl) ?_
    refine sa_if_ne (tgt := 1056) X.1 hrk dL_law_1041 (by decide) (fun _ => hE) (fun h0 => ?_)
    refine lv_aload_n X.1.1 X.1.2.1 dL_law_1044 rfl (lv_at hl 5 rfl) ?_
    refine sa_const X.1 dL_law_1045 ?_
    refine sa_lld X hR dL_law_1046 ?_
    refine lv_iload X.1.1 X.1.2.1 dL_law_1047 (lv_at hl 0 rfl) ?_
    refine lv_i2l X.1.1 X.1.2.1 dL_law_1049 rfl ?_
    exact sa_lcmp_eq (tgt := 1056) X.1 (hR.r 103 0 0) hr1 dL_law_1050 dL_law_1051 (by decide) (fun _ => hE) (fun z => absurd (hcv h0) z)
  refine lv_goto (tgt := 2370) X.1.1 X.1.2.1 dL_law_1056 (by decide) ?_
  refine W.widen (k := cells + 8) (n := slots + 2100) (by omega) (by omega) ?_
  exact kk κ1 α1 N2 _ _ _ hw X.2.2.1 hR hS (lv_sub hl [2, 3, 4, 5, 6] rfl)
end LC
