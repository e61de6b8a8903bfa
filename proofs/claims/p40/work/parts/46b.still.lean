section
variable {p : Program} {l : Launch} {e : Env} {s : State} {m : MethodId} {args : Array Value} {below : List Frame} {meth : Method} {c : Code} {G : Gx} {e0 : Nat} {α : Ax} {κ : Nat → Int} {B : Nat}
def wo_X9_setPaper_23 (p1 : Int) (p2 : Int) (Qm : Mem → Prop) (M : Mem) : Prop := False
def wo_X9_setPaper (p1 : Int) (p2 : Int) (M : Mem) (Qm : Mem → Prop) : Prop := ((p1 < 1 → wo_X9_setPaper_23 p1 p2 Qm M) ∧ (1 ≤ p1 → ((150 < p1 → wo_X9_setPaper_23 p1 p2 Qm M) ∧ (p1 ≤ 150 → ((p2 < 1 → wo_X9_setPaper_23 p1 p2 Qm M) ∧ (1 ≤ p2 → ((p2 ≤ 100 → ∀ M1 : Mem, M1 = up M 10 0 10 1 → ∀ M3 : Mem, M3 = up M1 10 0 7 p1 → ∀ M5 : Mem, M5 = up M3 10 0 8 p2 → Qm M5) ∧ (100 < p2 → wo_X9_setPaper_23 p1 p2 Qm M))))))))
set_option maxHeartbeats 4000000 in
set_option maxRecDepth 100000 in
theorem to_X9_setPaper_23 {p1 : Int} {p2 : Int} (X : CX p m c cX9_setPaper 3 s args RX9 G B κ meth none) (hp1 : inR p1) (hp2 : inR p2) {Qm : Mem → Prop} : ∀ M : Mem, wo_X9_setPaper_23 p1 p2 Qm M → ∀ (H : Heap) (locs : List Loc), Rp G e0 α κ B M H → va_S (fun q => B ≤ q) s.heap H locs → ∀ (ls : Array Slot), lv_has ls 3 [] → WV p l e 0 s m args below meth c G e0 α κ B Qm H locs 23 ls [] := by
  intro M hw H locs hR hS ls hl
  have hw : False := hw
  exact hw.elim
set_option maxHeartbeats 4000000 in
set_option maxRecDepth 100000 in
theorem to_X9_setPaper {p1 : Int} {p2 : Int} (X : CX p m c cX9_setPaper 3 s args RX9 G B κ meth none) (hp1 : inR p1) (hp2 : inR p2) {M : Mem} {Qm : Mem → Prop} (hw : wo_X9_setPaper p1 p2 M Qm) (H : Heap) (locs : List Loc) (hR : Rp G e0 α κ B M H) (hS : va_S (fun q => B ≤ q) s.heap H locs) (ls : Array Slot) (hl : lv_has ls 3 [(0, .ref (α 10 0)), (1, .int (Int32.ofInt p1)), (2, .int (Int32.ofInt p2))]) : WV p l e 0 s m args below meth c G e0 α κ B Qm H locs 0 ls [] := by
  have hw : ((p1 < 1 → wo_X9_setPaper_23 p1 p2 Qm M) ∧ (1 ≤ p1 → ((150 < p1 → wo_X9_setPaper_23 p1 p2 Qm M) ∧ (p1 ≤ 150 → ((p2 < 1 → wo_X9_setPaper_23 p1 p2 Qm M) ∧ (1 ≤ p2 → ((p2 ≤ 100 → ∀ M1 : Mem, M1 = up M 10 0 10 1 → ∀ M3 : Mem, M3 = up M1 10 0 7 p1 → ∀ M5 : Mem, M5 = up M3 10 0 8 p2 → Qm M5) ∧ (100 < p2 → wo_X9_setPaper_23 p1 p2 Qm M)))))))) := hw
  refine lv_iload_n X.1.1 X.1.2.1 dX9_setPaper_0 rfl (lv_at hl 1 rfl) ?_
  refine sa_const X.1 dX9_setPaper_1 ?_
  refine sa_icmp_lt (tgt := 23) X.1 hp1 (inR_c (a := 1) rfl) dX9_setPaper_2 (by decide) (fun hc => ?_) (fun hc => ?_)
  · have hw := hw.1 hc
    exact to_X9_setPaper_23 X hp1 hp2 _ hw _ _ hR hS _ (lv_sub hl [] rfl)
  · have hw := hw.2 hc
    refine lv_iload_n X.1.1 X.1.2.1 dX9_setPaper_5 rfl (lv_at hl 1 rfl) ?_
    refine sa_sipush X.1 dX9_setPaper_6 (by decide) ?_
    refine sa_icmp_gt (tgt := 23) X.1 hp1 (inR_c (a := 150) rfl) dX9_setPaper_9 (by decide) (fun hc => ?_) (fun hc => ?_)
    · have hw := hw.1 hc
      exact to_X9_setPaper_23 X hp1 hp2 _ hw _ _ hR hS _ (lv_sub hl [] rfl)
    · have hw := hw.2 hc
      refine lv_iload_n X.1.1 X.1.2.1 dX9_setPaper_12 rfl (lv_at hl 2 rfl) ?_
      refine sa_const X.1 dX9_setPaper_13 ?_
      refine sa_icmp_lt (tgt := 23) X.1 hp2 (inR_c (a := 1) rfl) dX9_setPaper_14 (by decide) (fun hc => ?_) (fun hc => ?_)
      · have hw := hw.1 hc
        exact to_X9_setPaper_23 X hp1 hp2 _ hw _ _ hR hS _ (lv_sub hl [] rfl)
      · have hw := hw.2 hc
        refine lv_iload_n X.1.1 X.1.2.1 dX9_setPaper_17 rfl (lv_at hl 2 rfl) ?_
        refine sa_bipush X.1 dX9_setPaper_18 (by decide) ?_
        refine sa_icmp_le (tgt := 33) X.1 hp2 (inR_c (a := 100) rfl) dX9_setPaper_20 (by decide) (fun hc => ?_) (fun hc => ?_)
        · have hw := hw.1 hc
          refine lv_aload_n X.1.1 X.1.2.1 dX9_setPaper_33 rfl (lv_at hl 0 rfl) ?_
          refine sa_const X.1 dX9_setPaper_34 ?_
          refine pt_10_10 X hR hS (okf X.2.2.1 rfl) (Or.inr rfl) kw_342 dX9_setPaper_35 (fun H locs hR hS => ?_)
          obtain ⟨M1, e2⟩ : ∃ z : Mem, z = up M 10 0 10 1 := ⟨_, rfl⟩
          rw [← e2] at hR
          have hw := hw M1 e2
          refine lv_aload_n X.1.1 X.1.2.1 dX9_setPaper_38 rfl (lv_at hl 0 rfl) ?_
          refine lv_iload_n X.1.1 X.1.2.1 dX9_setPaper_39 rfl (lv_at hl 1 rfl) ?_
          refine pt_10_7 X hR hS (okf X.2.2.1 rfl) hp1 kw_339 dX9_setPaper_40 (fun H locs hR hS => ?_)
          obtain ⟨M3, e4⟩ : ∃ z : Mem, z = up M1 10 0 7 p1 := ⟨_, rfl⟩
          rw [← e4] at hR
          have hw := hw M3 e4
          refine lv_aload_n X.1.1 X.1.2.1 dX9_setPaper_43 rfl (lv_at hl 0 rfl) ?_
          refine lv_iload_n X.1.1 X.1.2.1 dX9_setPaper_44 rfl (lv_at hl 2 rfl) ?_
          refine pt_10_8 X hR hS (okf X.2.2.1 rfl) hp2 kw_340 dX9_setPaper_45 (fun H locs hR hS => ?_)
          obtain ⟨M5, e6⟩ : ∃ z : Mem, z = up M3 10 0 8 p2 := ⟨_, rfl⟩
          rw [← e6] at hR
          have hw := hw M5 e6
          exact sa_vret X.1 X.2.2.2.1 X.2.2.2.2 hR hS hw dX9_setPaper_48
        · have hw := hw.2 hc
          exact to_X9_setPaper_23 X hp1 hp2 _ hw _ _ hR hS _ (lv_sub hl [] rfl)
theorem mo_X9_setPaper {l : Launch} {G : Gx} {e0 : Nat} {α : Ax} {κ : Nat → Int} {B : Nat} {p1 : Int} {p2 : Int} (hκ : kOK κ) (hp1 : inR p1) (hp2 : inR p2) {M : Mem} {Qm : Mem → Prop} (hw : wo_X9_setPaper p1 p2 M Qm) : CV l yX9_setPaper (Cond.code yX9_setPaper cX9_setPaper 3 none) 0 G e0 α κ B [.ref (α 10 0), .int (Int32.ofInt p1), .int (Int32.ofInt p2)] M Qm :=
  CV.mk hκ (by decide +kernel) rfl (Nat.le_of_ble_eq_true rfl) (lv := [(0, .ref (α 10 0)), (1, .int (Int32.ofInt p1)), (2, .int (Int32.ofInt p2))]) rfl (fun p e s m args below meth c ls X hR hS hl => to_X9_setPaper X hp1 hp2 hw _ _ hR hS ls hl)
theorem co_X9_setPaper {cc : ByteArray} {nL : Nat} {own : String} {ret : Option FieldType} {idx pc : Nat} {p1 : Int} {p2 : Int} (X : CX p m c cc nL s args own G B κ meth ret) (hp1 : inR p1) (hp2 : inR p2) {kc : Nat} {R : Room} {cells slots : Nat} (hRr : RmOK R kc) (hcel : cells ≤ R.cells ∧ slots ≤ R.slots) (hk : 0 + 1 ≤ kc) {M : Mem} {H : Heap} {locs : List Loc} (hR : Rp G e0 α κ B M H) (hS : va_S (fun q => B ≤ q) s.heap H locs) (k1 : Cond.methodLink own idx yX9_setPaper ∈ gw) {ls : Array Slot} (hml : ls.size = nL) {rest : List Value} (hd : decode cc pc = .ok (.invokevirtual idx, 3)) (hrest : (rest.map fun v => v.category).sum ≤ 8) {Q : State → Prop} {Qm : Mem → Prop} (hw : wo_X9_setPaper p1 p2 M Qm) (kk : ∀ (M1 : Mem) (H1 : Heap) (locs1 : List Loc), Qm M1 → Rp G e0 α κ B M1 H1 → va_S (fun q => B ≤ q) s.heap H1 locs1 → W p l e R s m args below meth c H1 locs1 cells slots Q (F0 m (pc + 3) ls (rest))) : W p l e R s m args below meth c H locs cells slots Q (F0 m pc ls (.int (Int32.ofInt p2) :: .int (Int32.ofInt p1) :: .ref (α 10 0) :: rest)) :=
  sa_callVV 0 (n := 2) (As := [.int (Int32.ofInt p1), .int (Int32.ofInt p2)]) (rest := rest) X.1 X.2.1 hR hS (mo_X9_setPaper X.2.2.1 hp1 hp2 hw) k1 kw_1166 kw_1167 kw_38 kw_1168 ⟨rfl, by decide +kernel, by decide +kernel, by decide +kernel⟩ (rm_ok hRr hk (by decide)) (rc_10 X hR (okf X.2.2.1 rfl)) rfl rfl hrest hml hd hcel kk
def wo_X9_border_19 (p1 : Int) (p2 : Int) (p3 : Int) (p4 : Int) (Qm : Int → Mem → Prop) (M : Mem) : Prop := False
def wo_X9_border (p1 : Int) (p2 : Int) (p3 : Int) (p4 : Int) (M : Mem) (Qm : Int → Mem → Prop) : Prop := wp_X9_hasSide p1 p3 M fun (x2 : Int) (M1 : Mem) => ((x2 = 0 → wo_X9_border_19 p1 p2 p3 p4 Qm M1) ∧ (¬ x2 = 0 → ((p4 < 0 → wo_X9_border_19 p1 p2 p3 p4 Qm M1) ∧ (0 ≤ p4 → ((p4 ≤ 5 → wp_X3_hasBordered p1 p2 M1 fun (x5 : Int) (M4 : Mem) => ((¬ x5 = 0 → wp_X3_setWeight p1 p2 p3 p4 M4 fun (x8 : Int) (M7 : Mem) => Qm x8 M7) ∧ (x5 = 0 → False))) ∧ (5 < p4 → wo_X9_border_19 p1 p2 p3 p4 Qm M1))))))
set_option maxHeartbeats 4000000 in
set_option maxRecDepth 100000 in
theorem to_X9_border_19 {p1 : Int} {p2 : Int} {p3 : Int} {p4 : Int} (X : CX p m c cX9_border 5 s args RX9 G B κ meth (some .int)) (hp1 : inR p1) (hp2 : inR p2) (hp3 : inR p3) (hp4 : inR p4) {Qm : Int → Mem → Prop} : ∀ M : Mem, wo_X9_border_19 p1 p2 p3 p4 Qm M → ∀ (H : Heap) (locs : List Loc), Rp G e0 α κ B M H → va_S (fun q => B ≤ q) s.heap H locs → ∀ (ls : Array Slot), lv_has ls 5 [] → WI p l e 5 s m args below meth c G e0 α κ B Qm H locs 19 ls [] := by
  intro M hw H locs hR hS ls hl
  have hw : False := hw
  exact hw.elim
set_option maxHeartbeats 4000000 in
set_option maxRecDepth 100000 in
theorem to_X9_border {p1 : Int} {p2 : Int} {p3 : Int} {p4 : Int} (X : CX p m c cX9_border 5 s args RX9 G B κ meth (some .int)) (hp1 : inR p1) (hp2 : inR p2) (hp3 : inR p3) (hp4 : inR p4) {M : Mem} {Qm : Int → Mem → Prop} (hw : wo_X9_border p1 p2 p3 p4 M Qm) (H : Heap) (locs : List Loc) (hR : Rp G e0 α κ B M H) (hS : va_S (fun q => B ≤ q) s.heap H locs) (ls : Array Slot) (hl : lv_has ls 5 [(0, .ref (α 10 0)), (1, .int (Int32.ofInt p1)), (2, .int (Int32.ofInt p2)), (3, .int (Int32.ofInt p3)), (4, .int (Int32.ofInt p4))]) : WI p l e 5 s m args below meth c G e0 α κ B Qm H locs 0 ls [] := by
  have hw : wp_X9_hasSide p1 p3 M fun (x2 : Int) (M1 : Mem) => ((x2 = 0 → wo_X9_border_19 p1 p2 p3 p4 Qm M1) ∧ (¬ x2 = 0 → ((p4 < 0 → wo_X9_border_19 p1 p2 p3 p4 Qm M1) ∧ (0 ≤ p4 → ((p4 ≤ 5 → wp_X3_hasBordered p1 p2 M1 fun (x5 : Int) (M4 : Mem) => ((¬ x5 = 0 → wp_X3_setWeight p1 p2 p3 p4 M4 fun (x8 : Int) (M7 : Mem) => Qm x8 M7) ∧ (x5 = 0 → False))) ∧ (5 < p4 → wo_X9_border_19 p1 p2 p3 p4 Qm M1)))))) := hw
  refine lv_iload_n X.1.1 X.1.2.1 dX9_border_0 rfl (lv_at hl 1 rfl) ?_
  refine lv_iload_n X.1.1 X.1.2.1 dX9_border_1 rfl (lv_at hl 3 rfl) ?_
  refine cs_X9_hasSide X hp1 hp3 (kc := 5) rmL_ok rm_c (by decide) hR hS kw_1200 hl.1 dX9_border_2 (Nat.le_of_ble_eq_true rfl) hw (fun x2 M1 H locs hw r3 hR hS => ?_)
  refine sa_if_eq (tgt := 19) X.1 r3 dX9_border_5 (by decide) (fun hc => ?_) (fun hc => ?_)
  · have hw := hw.1 hc
    exact to_X9_border_19 X hp1 hp2 hp3 hp4 _ hw _ _ hR hS _ (lv_sub hl [] rfl)
  · have hw := hw.2 hc
    refine lv_iload X.1.1 X.1.2.1 dX9_border_8 (lv_at hl 4 rfl) ?_
    refine sa_if_lt (tgt := 19) X.1 hp4 dX9_border_10 (by decide) (fun hc => ?_) (fun hc => ?_)
    · have hw := hw.1 hc
      exact to_X9_border_19 X hp1 hp2 hp3 hp4 _ hw _ _ hR hS _ (lv_sub hl [] rfl)
    · have hw := hw.2 hc
      refine lv_iload X.1.1 X.1.2.1 dX9_border_13 (lv_at hl 4 rfl) ?_
      refine sa_const X.1 dX9_border_15 ?_
      refine sa_icmp_le (tgt := 30) X.1 hp4 (inR_c (a := 5) rfl) dX9_border_16 (by decide) (fun hc => ?_) (fun hc => ?_)
      · have hw := hw.1 hc
        refine lv_aload_n X.1.1 X.1.2.1 dX9_border_30 rfl (lv_at hl 0 rfl) ?_
        refine gt_10_0 X hR (okf X.2.2.1 rfl) kw_332 dX9_border_31 ?_
        refine lv_iload_n X.1.1 X.1.2.1 dX9_border_34 rfl (lv_at hl 1 rfl) ?_
        refine lv_iload_n X.1.1 X.1.2.1 dX9_border_35 rfl (lv_at hl 2 rfl) ?_
        refine cs_X3_hasBordered X hp1 hp2 (kc := 5) rmL_ok rm_c (by decide) hR hS kw_1204 hl.1 dX9_border_36 (Nat.le_of_ble_eq_true rfl) hw (fun x5 M4 H locs hw r6 hR hS => ?_)
        refine sa_if_ne (tgt := 53) X.1 r6 dX9_border_39 (by decide) (fun hc => ?_) (fun hc => ?_)
        · have hw := hw.1 hc
          refine lv_aload_n X.1.1 X.1.2.1 dX9_border_53 rfl (lv_at hl 0 rfl) ?_
          refine gt_10_0 X hR (okf X.2.2.1 rfl) kw_332 dX9_border_54 ?_
          refine lv_iload_n X.1.1 X.1.2.1 dX9_border_57 rfl (lv_at hl 1 rfl) ?_
          refine lv_iload_n X.1.1 X.1.2.1 dX9_border_58 rfl (lv_at hl 2 rfl) ?_
          refine lv_iload_n X.1.1 X.1.2.1 dX9_border_59 rfl (lv_at hl 3 rfl) ?_
          refine lv_iload X.1.1 X.1.2.1 dX9_border_60 (lv_at hl 4 rfl) ?_
          refine cs_X3_setWeight X hp1 hp2 hp3 hp4 (kc := 5) rmL_ok rm_c (by decide) hR hS kw_1210 hl.1 dX9_border_62 (Nat.le_of_ble_eq_true rfl) hw (fun x8 M7 H locs hw r9 hR hS => ?_)
          exact sa_iret X.1 X.2.2.2.1 X.2.2.2.2 hR hS r9 hw dX9_border_65
        · have hw := hw.2 hc
          exact hw.elim
      · have hw := hw.2 hc
        exact to_X9_border_19 X hp1 hp2 hp3 hp4 _ hw _ _ hR hS _ (lv_sub hl [] rfl)
theorem mo_X9_border {l : Launch} {G : Gx} {e0 : Nat} {α : Ax} {κ : Nat → Int} {B : Nat} {p1 : Int} {p2 : Int} {p3 : Int} {p4 : Int} (hκ : kOK κ) (hp1 : inR p1) (hp2 : inR p2) (hp3 : inR p3) (hp4 : inR p4) {M : Mem} {Qm : Int → Mem → Prop} (hw : wo_X9_border p1 p2 p3 p4 M Qm) : CI l yX9_border (Cond.code yX9_border cX9_border 5 (some .int)) 5 G e0 α κ B [.ref (α 10 0), .int (Int32.ofInt p1), .int (Int32.ofInt p2), .int (Int32.ofInt p3), .int (Int32.ofInt p4)] M Qm :=
  CI.mk hκ (by decide +kernel) rfl (Nat.le_of_ble_eq_true rfl) (lv := [(0, .ref (α 10 0)), (1, .int (Int32.ofInt p1)), (2, .int (Int32.ofInt p2)), (3, .int (Int32.ofInt p3)), (4, .int (Int32.ofInt p4))]) rfl (fun p e s m args below meth c ls X hR hS hl => to_X9_border X hp1 hp2 hp3 hp4 hw _ _ hR hS ls hl)
theorem co_X9_border {cc : ByteArray} {nL : Nat} {own : String} {ret : Option FieldType} {idx pc : Nat} {p1 : Int} {p2 : Int} {p3 : Int} {p4 : Int} (X : CX p m c cc nL s args own G B κ meth ret) (hp1 : inR p1) (hp2 : inR p2) (hp3 : inR p3) (hp4 : inR p4) {kc : Nat} {R : Room} {cells slots : Nat} (hRr : RmOK R kc) (hcel : cells ≤ R.cells ∧ slots ≤ R.slots) (hk : 5 + 1 ≤ kc) {M : Mem} {H : Heap} {locs : List Loc} (hR : Rp G e0 α κ B M H) (hS : va_S (fun q => B ≤ q) s.heap H locs) (k1 : Cond.methodLink own idx yX9_border ∈ gw) {ls : Array Slot} (hml : ls.size = nL) {rest : List Value} (hd : decode cc pc = .ok (.invokevirtual idx, 3)) (hrest : (rest.map fun v => v.category).sum ≤ 8) {Q : State → Prop} {Qm : Int → Mem → Prop} (hw : wo_X9_border p1 p2 p3 p4 M Qm) (kk : ∀ (r : Int) (M1 : Mem) (H1 : Heap) (locs1 : List Loc), Qm r M1 → inR r → Rp G e0 α κ B M1 H1 → va_S (fun q => B ≤ q) s.heap H1 locs1 → W p l e R s m args below meth c H1 locs1 cells slots Q (F0 m (pc + 3) ls (.int (Int32.ofInt r) :: rest))) : W p l e R s m args below meth c H locs cells slots Q (F0 m pc ls (.int (Int32.ofInt p4) :: .int (Int32.ofInt p3) :: .int (Int32.ofInt p2) :: .int (Int32.ofInt p1) :: .ref (α 10 0) :: rest)) :=
  sa_callVI 5 (n := 4) (As := [.int (Int32.ofInt p1), .int (Int32.ofInt p2), .int (Int32.ofInt p3), .int (Int32.ofInt p4)]) (rest := rest) X.1 X.2.1 hR hS (mo_X9_border X.2.2.1 hp1 hp2 hp3 hp4 hw) k1 kw_1197 kw_1198 kw_38 kw_1199 ⟨rfl, by decide +kernel, by decide +kernel, by decide +kernel⟩ (rm_ok hRr hk (by decide)) (rc_10 X hR (okf X.2.2.1 rfl)) rfl rfl hrest hml hd hcel kk
def wo_X9_requireColumn (p1 : Int) (M : Mem) (Qm : Mem → Prop) : Prop := wp_X3_hasColumn p1 M fun (x2 : Int) (M1 : Mem) => ((¬ x2 = 0 → Qm M1) ∧ (x2 = 0 → False))
set_option maxHeartbeats 4000000 in
set_option maxRecDepth 100000 in
theorem to_X9_requireColumn {p1 : Int} (X : CX p m c cX9_requireColumn 2 s args RX9 G B κ meth none) (hp1 : inR p1) {M : Mem} {Qm : Mem → Prop} (hw : wo_X9_requireColumn p1 M Qm) (H : Heap) (locs : List Loc) (hR : Rp G e0 α κ B M H) (hS : va_S (fun q => B ≤ q) s.heap H locs) (ls : Array Slot) (hl : lv_has ls 2 [(0, .ref (α 10 0)), (1, .int (Int32.ofInt p1))]) : WV p l e 2 s m args below meth c G e0 α κ B Qm H locs 0 ls [] := by
  have hw : wp_X3_hasColumn p1 M fun (x2 : Int) (M1 : Mem) => ((¬ x2 = 0 → Qm M1) ∧ (x2 = 0 → False)) := hw
  refine lv_aload_n X.1.1 X.1.2.1 dX9_requireColumn_0 rfl (lv_at hl 0 rfl) ?_
  refine gt_10_0 X hR (okf X.2.2.1 rfl) kw_332 dX9_requireColumn_1 ?_
  refine lv_iload_n X.1.1 X.1.2.1 dX9_requireColumn_4 rfl (lv_at hl 1 rfl) ?_
  refine cs_X3_hasColumn X hp1 (kc := 2) rmL_ok rm_c (by decide) hR hS kw_963 hl.1 dX9_requireColumn_5 (Nat.le_of_ble_eq_true rfl) hw (fun x2 M1 H locs hw r3 hR hS => ?_)
  refine sa_if_ne (tgt := 22) X.1 r3 dX9_requireColumn_8 (by decide) (fun hc => ?_) (fun hc => ?_)
  · have hw := hw.1 hc
    exact sa_vret X.1 X.2.2.2.1 X.2.2.2.2 hR hS hw dX9_requireColumn_22
  · have hw := hw.2 hc
    exact hw.elim
theorem mo_X9_requireColumn {l : Launch} {G : Gx} {e0 : Nat} {α : Ax} {κ : Nat → Int} {B : Nat} {p1 : Int} (hκ : kOK κ) (hp1 : inR p1) {M : Mem} {Qm : Mem → Prop} (hw : wo_X9_requireColumn p1 M Qm) : CV l yX9_requireColumn (Cond.code yX9_requireColumn cX9_requireColumn 2 none) 2 G e0 α κ B [.ref (α 10 0), .int (Int32.ofInt p1)] M Qm :=
  CV.mk hκ (by decide +kernel) rfl (Nat.le_of_ble_eq_true rfl) (lv := [(0, .ref (α 10 0)), (1, .int (Int32.ofInt p1))]) rfl (fun p e s m args below meth c ls X hR hS hl => to_X9_requireColumn X hp1 hw _ _ hR hS ls hl)
theorem co_X9_requireColumn {cc : ByteArray} {nL : Nat} {own : String} {ret : Option FieldType} {idx pc : Nat} {p1 : Int} (X : CX p m c cc nL s args own G B κ meth ret) (hp1 : inR p1) {kc : Nat} {R : Room} {cells slots : Nat} (hRr : RmOK R kc) (hcel : cells ≤ R.cells ∧ slots ≤ R.slots) (hk : 2 + 1 ≤ kc) {M : Mem} {H : Heap} {locs : List Loc} (hR : Rp G e0 α κ B M H) (hS : va_S (fun q => B ≤ q) s.heap H locs) (k1 : Cond.methodLink own idx yX9_requireColumn ∈ gw) {ls : Array Slot} (hml : ls.size = nL) {rest : List Value} (hd : decode cc pc = .ok (.invokevirtual idx, 3)) (hrest : (rest.map fun v => v.category).sum ≤ 8) {Q : State → Prop} {Qm : Mem → Prop} (hw : wo_X9_requireColumn p1 M Qm) (kk : ∀ (M1 : Mem) (H1 : Heap) (locs1 : List Loc), Qm M1 → Rp G e0 α κ B M1 H1 → va_S (fun q => B ≤ q) s.heap H1 locs1 → W p l e R s m args below meth c H1 locs1 cells slots Q (F0 m (pc + 3) ls (rest))) : W p l e R s m args below meth c H locs cells slots Q (F0 m pc ls (.int (Int32.ofInt p1) :: .ref (α 10 0) :: rest)) :=
  sa_callVV 2 (n := 1) (As := [.int (Int32.ofInt p1)]) (rest := rest) X.1 X.2.1 hR hS (mo_X9_requireColumn X.2.2.1 hp1 hw) k1 kw_961 kw_27 kw_38 kw_962 ⟨rfl, by decide +kernel, by decide +kernel, by decide +kernel⟩ (rm_ok hRr hk (by decide)) (rc_10 X hR (okf X.2.2.1 rfl)) rfl rfl hrest hml hd hcel kk
def wo_X9_requireRow (p1 : Int) (M : Mem) (Qm : Mem → Prop) : Prop := wp_X3_hasRow p1 M fun (x2 : Int) (M1 : Mem) => ((¬ x2 = 0 → Qm M1) ∧ (x2 = 0 → False))
set_option maxHeartbeats 4000000 in
set_option maxRecDepth 100000 in
theorem to_X9_requireRow {p1 : Int} (X : CX p m c cX9_requireRow 2 s args RX9 G B κ meth none) (hp1 : inR p1) {M : Mem} {Qm : Mem → Prop} (hw : wo_X9_requireRow p1 M Qm) (H : Heap) (locs : List Loc) (hR : Rp G e0 α κ B M H) (hS : va_S (fun q => B ≤ q) s.heap H locs) (ls : Array Slot) (hl : lv_has ls 2 [(0, .ref (α 10 0)), (1, .int (Int32.ofInt p1))]) : WV p l e 2 s m args below meth c G e0 α κ B Qm H locs 0 ls [] := by
  have hw : wp_X3_hasRow p1 M fun (x2 : Int) (M1 : Mem) => ((¬ x2 = 0 → Qm M1) ∧ (x2 = 0 → False)) := hw
  refine lv_aload_n X.1.1 X.1.2.1 dX9_requireRow_0 rfl (lv_at hl 0 rfl) ?_
  refine gt_10_0 X hR (okf X.2.2.1 rfl) kw_332 dX9_requireRow_1 ?_
  refine lv_iload_n X.1.1 X.1.2.1 dX9_requireRow_4 rfl (lv_at hl 1 rfl) ?_
  refine cs_X3_hasRow X hp1 (kc := 2) rmL_ok rm_c (by decide) hR hS kw_942 hl.1 dX9_requireRow_5 (Nat.le_of_ble_eq_true rfl) hw (fun x2 M1 H locs hw r3 hR hS => ?_)
  refine sa_if_ne (tgt := 22) X.1 r3 dX9_requireRow_8 (by decide) (fun hc => ?_) (fun hc => ?_)
  · have hw := hw.1 hc
    exact sa_vret X.1 X.2.2.2.1 X.2.2.2.2 hR hS hw dX9_requireRow_22
  · have hw := hw.2 hc
    exact hw.elim
theorem mo_X9_requireRow {l : Launch} {G : Gx} {e0 : Nat} {α : Ax} {κ : Nat → Int} {B : Nat} {p1 : Int} (hκ : kOK κ) (hp1 : inR p1) {M : Mem} {Qm : Mem → Prop} (hw : wo_X9_requireRow p1 M Qm) : CV l yX9_requireRow (Cond.code yX9_requireRow cX9_requireRow 2 none) 2 G e0 α κ B [.ref (α 10 0), .int (Int32.ofInt p1)] M Qm :=
  CV.mk hκ (by decide +kernel) rfl (Nat.le_of_ble_eq_true rfl) (lv := [(0, .ref (α 10 0)), (1, .int (Int32.ofInt p1))]) rfl (fun p e s m args below meth c ls X hR hS hl => to_X9_requireRow X hp1 hw _ _ hR hS ls hl)
theorem co_X9_requireRow {cc : ByteArray} {nL : Nat} {own : String} {ret : Option FieldType} {idx pc : Nat} {p1 : Int} (X : CX p m c cc nL s args own G B κ meth ret) (hp1 : inR p1) {kc : Nat} {R : Room} {cells slots : Nat} (hRr : RmOK R kc) (hcel : cells ≤ R.cells ∧ slots ≤ R.slots) (hk : 2 + 1 ≤ kc) {M : Mem} {H : Heap} {locs : List Loc} (hR : Rp G e0 α κ B M H) (hS : va_S (fun q => B ≤ q) s.heap H locs) (k1 : Cond.methodLink own idx yX9_requireRow ∈ gw) {ls : Array Slot} (hml : ls.size = nL) {rest : List Value} (hd : decode cc pc = .ok (.invokevirtual idx, 3)) (hrest : (rest.map fun v => v.category).sum ≤ 8) {Q : State → Prop} {Qm : Mem → Prop} (hw : wo_X9_requireRow p1 M Qm) (kk : ∀ (M1 : Mem) (H1 : Heap) (locs1 : List Loc), Qm M1 → Rp G e0 α κ B M1 H1 → va_S (fun q => B ≤ q) s.heap H1 locs1 → W p l e R s m args below meth c H1 locs1 cells slots Q (F0 m (pc + 3) ls (rest))) : W p l e R s m args below meth c H locs cells slots Q (F0 m pc ls (.int (Int32.ofInt p1) :: .ref (α 10 0) :: rest)) :=
  sa_callVV 2 (n := 1) (As := [.int (Int32.ofInt p1)]) (rest := rest) X.1 X.2.1 hR hS (mo_X9_requireRow X.2.2.1 hp1 hw) k1 kw_940 kw_26 kw_38 kw_941 ⟨rfl, by decide +kernel, by decide +kernel, by decide +kernel⟩ (rm_ok hRr hk (by decide)) (rc_10 X hR (okf X.2.2.1 rfl)) rfl rfl hrest hml hd hcel kk
def wo_X9_requireCell (p1 : Int) (M : Mem) (Qm : Mem → Prop) : Prop := wp_X3_hasCell p1 M fun (x2 : Int) (M1 : Mem) => ((¬ x2 = 0 → Qm M1) ∧ (x2 = 0 → False))
set_option maxHeartbeats 4000000 in
set_option maxRecDepth 100000 in
theorem to_X9_requireCell {p1 : Int} (X : CX p m c cX9_requireCell 2 s args RX9 G B κ meth none) (hp1 : inR p1) {M : Mem} {Qm : Mem → Prop} (hw : wo_X9_requireCell p1 M Qm) (H : Heap) (locs : List Loc) (hR : Rp G e0 α κ B M H) (hS : va_S (fun q => B ≤ q) s.heap H locs) (ls : Array Slot) (hl : lv_has ls 2 [(0, .ref (α 10 0)), (1, .int (Int32.ofInt p1))]) : WV p l e 2 s m args below meth c G e0 α κ B Qm H locs 0 ls [] := by
  have hw : wp_X3_hasCell p1 M fun (x2 : Int) (M1 : Mem) => ((¬ x2 = 0 → Qm M1) ∧ (x2 = 0 → False)) := hw
  refine lv_aload_n X.1.1 X.1.2.1 dX9_requireCell_0 rfl (lv_at hl 0 rfl) ?_
  refine gt_10_0 X hR (okf X.2.2.1 rfl) kw_332 dX9_requireCell_1 ?_
  refine lv_iload_n X.1.1 X.1.2.1 dX9_requireCell_4 rfl (lv_at hl 1 rfl) ?_
  refine cs_X3_hasCell X hp1 (kc := 2) rmL_ok rm_c (by decide) hR hS kw_1081 hl.1 dX9_requireCell_5 (Nat.le_of_ble_eq_true rfl) hw (fun x2 M1 H locs hw r3 hR hS => ?_)
  refine sa_if_ne (tgt := 22) X.1 r3 dX9_requireCell_8 (by decide) (fun hc => ?_) (fun hc => ?_)
  · have hw := hw.1 hc
    exact sa_vret X.1 X.2.2.2.1 X.2.2.2.2 hR hS hw dX9_requireCell_22
  · have hw := hw.2 hc
    exact hw.elim
theorem mo_X9_requireCell {l : Launch} {G : Gx} {e0 : Nat} {α : Ax} {κ : Nat → Int} {B : Nat} {p1 : Int} (hκ : kOK κ) (hp1 : inR p1) {M : Mem} {Qm : Mem → Prop} (hw : wo_X9_requireCell p1 M Qm) : CV l yX9_requireCell (Cond.code yX9_requireCell cX9_requireCell 2 none) 2 G e0 α κ B [.ref (α 10 0), .int (Int32.ofInt p1)] M Qm :=
  CV.mk hκ (by decide +kernel) rfl (Nat.le_of_ble_eq_true rfl) (lv := [(0, .ref (α 10 0)), (1, .int (Int32.ofInt p1))]) rfl (fun p e s m args below meth c ls X hR hS hl => to_X9_requireCell X hp1 hw _ _ hR hS ls hl)
theorem co_X9_requireCell {cc : ByteArray} {nL : Nat} {own : String} {ret : Option FieldType} {idx pc : Nat} {p1 : Int} (X : CX p m c cc nL s args own G B κ meth ret) (hp1 : inR p1) {kc : Nat} {R : Room} {cells slots : Nat} (hRr : RmOK R kc) (hcel : cells ≤ R.cells ∧ slots ≤ R.slots) (hk : 2 + 1 ≤ kc) {M : Mem} {H : Heap} {locs : List Loc} (hR : Rp G e0 α κ B M H) (hS : va_S (fun q => B ≤ q) s.heap H locs) (k1 : Cond.methodLink own idx yX9_requireCell ∈ gw) {ls : Array Slot} (hml : ls.size = nL) {rest : List Value} (hd : decode cc pc = .ok (.invokevirtual idx, 3)) (hrest : (rest.map fun v => v.category).sum ≤ 8) {Q : State → Prop} {Qm : Mem → Prop} (hw : wo_X9_requireCell p1 M Qm) (kk : ∀ (M1 : Mem) (H1 : Heap) (locs1 : List Loc), Qm M1 → Rp G e0 α κ B M1 H1 → va_S (fun q => B ≤ q) s.heap H1 locs1 → W p l e R s m args below meth c H1 locs1 cells slots Q (F0 m (pc + 3) ls (rest))) : W p l e R s m args below meth c H locs cells slots Q (F0 m pc ls (.int (Int32.ofInt p1) :: .ref (α 10 0) :: rest)) :=
  sa_callVV 2 (n := 1) (As := [.int (Int32.ofInt p1)]) (rest := rest) X.1 X.2.1 hR hS (mo_X9_requireCell X.2.2.1 hp1 hw) k1 kw_1079 kw_29 kw_38 kw_1080 ⟨rfl, by decide +kernel, by decide +kernel, by decide +kernel⟩ (rm_ok hRr hk (by decide)) (rc_10 X hR (okf X.2.2.1 rfl)) rfl rfl hrest hml hd hcel kk
def wo_X9_requireSheets (M : Mem) (Qm : Mem → Prop) : Prop := ((¬ (M 7 0 0) = 0 → Qm M) ∧ ((M 7 0 0) = 0 → False))
set_option maxHeartbeats 4000000 in
set_option maxRecDepth 100000 in
theorem to_X9_requireSheets (X : CX p m c cX9_requireSheets 1 s args RX9 G B κ meth none) {M : Mem} {Qm : Mem → Prop} (hw : wo_X9_requireSheets M Qm) (H : Heap) (locs : List Loc) (hR : Rp G e0 α κ B M H) (hS : va_S (fun q => B ≤ q) s.heap H locs) (ls : Array Slot) (hl : lv_has ls 1 [(0, .ref (α 10 0))]) : WV p l e 0 s m args below meth c G e0 α κ B Qm H locs 0 ls [] := by
  have hw : ((¬ (M 7 0 0) = 0 → Qm M) ∧ ((M 7 0 0) = 0 → False)) := hw
  refine lv_aload_n X.1.1 X.1.2.1 dX9_requireSheets_0 rfl (lv_at hl 0 rfl) ?_
  refine gt_10_5 X hR (okf X.2.2.1 rfl) kw_337 dX9_requireSheets_1 ?_
  refine gt_7_0 X hR (okp X.2.2.1 rfl (by decide)) kw_241 dX9_requireSheets_4 ?_
  have r1 := hR.r 7 0 0
  refine sa_if_ne (tgt := 21) X.1 r1 dX9_requireSheets_7 (by decide) (fun hc => ?_) (fun hc => ?_)
  · have hw := hw.1 hc
    exact sa_vret X.1 X.2.2.2.1 X.2.2.2.2 hR hS hw dX9_requireSheets_21
  · have hw := hw.2 hc
    exact hw.elim
theorem mo_X9_requireSheets {l : Launch} {G : Gx} {e0 : Nat} {α : Ax} {κ : Nat → Int} {B : Nat} (hκ : kOK κ) {M : Mem} {Qm : Mem → Prop} (hw : wo_X9_requireSheets M Qm) : CV l yX9_requireSheets (Cond.code yX9_requireSheets cX9_requireSheets 1 none) 0 G e0 α κ B [.ref (α 10 0)] M Qm :=
  CV.mk hκ (by decide +kernel) rfl (Nat.le_of_ble_eq_true rfl) (lv := [(0, .ref (α 10 0))]) rfl (fun p e s m args below meth c ls X hR hS hl => to_X9_requireSheets X hw _ _ hR hS ls hl)
theorem co_X9_requireSheets {cc : ByteArray} {nL : Nat} {own : String} {ret : Option FieldType} {idx pc : Nat} (X : CX p m c cc nL s args own G B κ meth ret) {kc : Nat} {R : Room} {cells slots : Nat} (hRr : RmOK R kc) (hcel : cells ≤ R.cells ∧ slots ≤ R.slots) (hk : 0 + 1 ≤ kc) {M : Mem} {H : Heap} {locs : List Loc} (hR : Rp G e0 α κ B M H) (hS : va_S (fun q => B ≤ q) s.heap H locs) (k1 : Cond.methodLink own idx yX9_requireSheets ∈ gw) {ls : Array Slot} (hml : ls.size = nL) {rest : List Value} (hd : decode cc pc = .ok (.invokevirtual idx, 3)) (hrest : (rest.map fun v => v.category).sum ≤ 8) {Q : State → Prop} {Qm : Mem → Prop} (hw : wo_X9_requireSheets M Qm) (kk : ∀ (M1 : Mem) (H1 : Heap) (locs1 : List Loc), Qm M1 → Rp G e0 α κ B M1 H1 → va_S (fun q => B ≤ q) s.heap H1 locs1 → W p l e R s m args below meth c H1 locs1 cells slots Q (F0 m (pc + 3) ls (rest))) : W p l e R s m args below meth c H locs cells slots Q (F0 m pc ls (.ref (α 10 0) :: rest)) :=
  sa_callVV 0 (n := 0) (As := []) (rest := rest) X.1 X.2.1 hR hS (mo_X9_requireSheets X.2.2.1 hw) k1 kw_1345 kw_33 kw_38 kw_1346 ⟨rfl, by decide +kernel, by decide +kernel, by decide +kernel⟩ (rm_ok hRr hk (by decide)) (rc_10 X hR (okf X.2.2.1 rfl)) rfl rfl hrest hml hd hcel kk
def wo_X9_requirePage (p1 : Int) (M : Mem) (Qm : Mem → Prop) : Prop := wp_X6_hasPage 0 p1 M fun (x2 : Int) (M1 : Mem) => ((¬ x2 = 0 → Qm M1) ∧ (x2 = 0 → False))
set_option maxHeartbeats 4000000 in
set_option maxRecDepth 100000 in
theorem to_X9_requirePage {p1 : Int} (X : CX p m c cX9_requirePage 2 s args RX9 G B κ meth none) (hp1 : inR p1) {M : Mem} {Qm : Mem → Prop} (hw : wo_X9_requirePage p1 M Qm) (H : Heap) (locs : List Loc) (hR : Rp G e0 α κ B M H) (hS : va_S (fun q => B ≤ q) s.heap H locs) (ls : Array Slot) (hl : lv_has ls 2 [(0, .ref (α 10 0)), (1, .int (Int32.ofInt p1))]) : WV p l e 1 s m args below meth c G e0 α κ B Qm H locs 0 ls [] := by
  have hw : wp_X6_hasPage 0 p1 M fun (x2 : Int) (M1 : Mem) => ((¬ x2 = 0 → Qm M1) ∧ (x2 = 0 → False)) := hw
  refine lv_aload_n X.1.1 X.1.2.1 dX9_requirePage_0 rfl (lv_at hl 0 rfl) ?_
  refine gt_10_5 X hR (okf X.2.2.1 rfl) kw_337 dX9_requirePage_1 ?_
  refine lv_iload_n X.1.1 X.1.2.1 dX9_requirePage_4 rfl (lv_at hl 1 rfl) ?_
  refine cs_X6_hasPage X (okp X.2.2.1 rfl (by decide)) hp1 (kc := 1) rmL_ok rm_c (by decide) hR hS kw_1384 hl.1 dX9_requirePage_5 (Nat.le_of_ble_eq_true rfl) hw (fun x2 M1 H locs hw r3 hR hS => ?_)
  refine sa_if_ne (tgt := 22) X.1 r3 dX9_requirePage_8 (by decide) (fun hc => ?_) (fun hc => ?_)
  · have hw := hw.1 hc
    exact sa_vret X.1 X.2.2.2.1 X.2.2.2.2 hR hS hw dX9_requirePage_22
  · have hw := hw.2 hc
    exact hw.elim
theorem mo_X9_requirePage {l : Launch} {G : Gx} {e0 : Nat} {α : Ax} {κ : Nat → Int} {B : Nat} {p1 : Int} (hκ : kOK κ) (hp1 : inR p1) {M : Mem} {Qm : Mem → Prop} (hw : wo_X9_requirePage p1 M Qm) : CV l yX9_requirePage (Cond.code yX9_requirePage cX9_requirePage 2 none) 1 G e0 α κ B [.ref (α 10 0), .int (Int32.ofInt p1)] M Qm :=
  CV.mk hκ (by decide +kernel) rfl (Nat.le_of_ble_eq_true rfl) (lv := [(0, .ref (α 10 0)), (1, .int (Int32.ofInt p1))]) rfl (fun p e s m args below meth c ls X hR hS hl => to_X9_requirePage X hp1 hw _ _ hR hS ls hl)
theorem co_X9_requirePage {cc : ByteArray} {nL : Nat} {own : String} {ret : Option FieldType} {idx pc : Nat} {p1 : Int} (X : CX p m c cc nL s args own G B κ meth ret) (hp1 : inR p1) {kc : Nat} {R : Room} {cells slots : Nat} (hRr : RmOK R kc) (hcel : cells ≤ R.cells ∧ slots ≤ R.slots) (hk : 1 + 1 ≤ kc) {M : Mem} {H : Heap} {locs : List Loc} (hR : Rp G e0 α κ B M H) (hS : va_S (fun q => B ≤ q) s.heap H locs) (k1 : Cond.methodLink own idx yX9_requirePage ∈ gw) {ls : Array Slot} (hml : ls.size = nL) {rest : List Value} (hd : decode cc pc = .ok (.invokevirtual idx, 3)) (hrest : (rest.map fun v => v.category).sum ≤ 8) {Q : State → Prop} {Qm : Mem → Prop} (hw : wo_X9_requirePage p1 M Qm) (kk : ∀ (M1 : Mem) (H1 : Heap) (locs1 : List Loc), Qm M1 → Rp G e0 α κ B M1 H1 → va_S (fun q => B ≤ q) s.heap H1 locs1 → W p l e R s m args below meth c H1 locs1 cells slots Q (F0 m (pc + 3) ls (rest))) : W p l e R s m args below meth c H locs cells slots Q (F0 m pc ls (.int (Int32.ofInt p1) :: .ref (α 10 0) :: rest)) :=
  sa_callVV 1 (n := 1) (As := [.int (Int32.ofInt p1)]) (rest := rest) X.1 X.2.1 hR hS (mo_X9_requirePage X.2.2.1 hp1 hw) k1 kw_1382 kw_34 kw_38 kw_1383 ⟨rfl, by decide +kernel, by decide +kernel, by decide +kernel⟩ (rm_ok hRr hk (by decide)) (rc_10 X hR (okf X.2.2.1 rfl)) rfl rfl hrest hml hd hcel kk
def wo_X9_word_27 (p1 : Int) (p2 : Int) (p3 : Int) (Qm : Int → Mem → Prop) (M : Mem) : Prop := False
def wo_X9_word_71 (p1 : Int) (p2 : Int) (p3 : Int) (Qm : Int → Mem → Prop) (M : Mem) : Prop := False
def wo_X9_word (p1 : Int) (p2 : Int) (p3 : Int) (M : Mem) (Qm : Int → Mem → Prop) : Prop := wo_X9_requireCell p1 M fun (M1 : Mem) => ((p2 < 1 → wo_X9_word_27 p1 p2 p3 Qm M1) ∧ (1 ≤ p2 → ((20 < p2 → wo_X9_word_27 p1 p2 p3 Qm M1) ∧ (p2 ≤ 20 → ((p3 < 0 → wo_X9_word_27 p1 p2 p3 Qm M1) ∧ (0 ≤ p3 → (inR (p2 - 1)) ∧ ((p3 ≤ (p2 - 1) → (0 ≤ p1 ∧ p1 < M1 14 0 (-1)) ∧ ((¬ (M1 1 (M1 14 0 p1) 8) = 0 → wo_X9_word_71 p1 p2 p3 Qm M1) ∧ ((M1 1 (M1 14 0 p1) 8) = 0 → (((M1 1 (M1 14 0 p1) 7) < 12 → ∀ M7 : Mem, M7 = up M1 10 0 10 1 → wp_X0_addWord (M1 14 0 p1) p2 p3 M7 fun (M9 : Mem) => Qm (M9 1 (M1 14 0 p1) 7) M9) ∧ (12 ≤ (M1 1 (M1 14 0 p1) 7) → wo_X9_word_71 p1 p2 p3 Qm M1))))) ∧ ((p2 - 1) < p3 → wo_X9_word_27 p1 p2 p3 Qm M1))))))))
set_option maxHeartbeats 4000000 in
set_option maxRecDepth 100000 in
theorem to_X9_word_27 {p1 : Int} {p2 : Int} {p3 : Int} (X : CX p m c cX9_word 5 s args RX9 G B κ meth (some .int)) (hp1 : inR p1) (hp2 : inR p2) (hp3 : inR p3) {Qm : Int → Mem → Prop} : ∀ M : Mem, wo_X9_word_27 p1 p2 p3 Qm M → ∀ (H : Heap) (locs : List Loc), Rp G e0 α κ B M H → va_S (fun q => B ≤ q) s.heap H locs → ∀ (ls : Array Slot), lv_has ls 5 [] → WI p l e 3 s m args below meth c G e0 α κ B Qm H locs 27 ls [] := by
  intro M hw H locs hR hS ls hl
  have hw : False := hw
  exact hw.elim
set_option maxHeartbeats 4000000 in
set_option maxRecDepth 100000 in
theorem to_X9_word_71 {p1 : Int} {p2 : Int} {p3 : Int} (X : CX p m c cX9_word 5 s args RX9 G B κ meth (some .int)) (hp1 : inR p1) (hp2 : inR p2) (hp3 : inR p3) {Qm : Int → Mem → Prop} : ∀ M : Mem, wo_X9_word_71 p1 p2 p3 Qm M → ∀ (H : Heap) (locs : List Loc), Rp G e0 α κ B M H → va_S (fun q => B ≤ q) s.heap H locs → ∀ (ls : Array Slot), lv_has ls 5 [] → WI p l e 3 s m args below meth c G e0 α κ B Qm H locs 71 ls [] := by
  intro M hw H locs hR hS ls hl
  have hw : False := hw
  exact hw.elim
set_option maxHeartbeats 4000000 in
set_option maxRecDepth 100000 in
theorem to_X9_word {p1 : Int} {p2 : Int} {p3 : Int} (X : CX p m c cX9_word 5 s args RX9 G B κ meth (some .int)) (hp1 : inR p1) (hp2 : inR p2) (hp3 : inR p3) {M : Mem} {Qm : Int → Mem → Prop} (hw : wo_X9_word p1 p2 p3 M Qm) (H : Heap) (locs : List Loc) (hR : Rp G e0 α κ B M H) (hS : va_S (fun q => B ≤ q) s.heap H locs) (ls : Array Slot) (hl : lv_has ls 5 [(0, .ref (α 10 0)), (1, .int (Int32.ofInt p1)), (2, .int (Int32.ofInt p2)), (3, .int (Int32.ofInt p3))]) : WI p l e 3 s m args below meth c G e0 α κ B Qm H locs 0 ls [] := by
  have hw : wo_X9_requireCell p1 M fun (M1 : Mem) => ((p2 < 1 → wo_X9_word_27 p1 p2 p3 Qm M1) ∧ (1 ≤ p2 → ((20 < p2 → wo_X9_word_27 p1 p2 p3 Qm M1) ∧ (p2 ≤ 20 → ((p3 < 0 → wo_X9_word_27 p1 p2 p3 Qm M1) ∧ (0 ≤ p3 → (inR (p2 - 1)) ∧ ((p3 ≤ (p2 - 1) → (0 ≤ p1 ∧ p1 < M1 14 0 (-1)) ∧ ((¬ (M1 1 (M1 14 0 p1) 8) = 0 → wo_X9_word_71 p1 p2 p3 Qm M1) ∧ ((M1 1 (M1 14 0 p1) 8) = 0 → (((M1 1 (M1 14 0 p1) 7) < 12 → ∀ M7 : Mem, M7 = up M1 10 0 10 1 → wp_X0_addWord (M1 14 0 p1) p2 p3 M7 fun (M9 : Mem) => Qm (M9 1 (M1 14 0 p1) 7) M9) ∧ (12 ≤ (M1 1 (M1 14 0 p1) 7) → wo_X9_word_71 p1 p2 p3 Qm M1))))) ∧ ((p2 - 1) < p3 → wo_X9_word_27 p1 p2 p3 Qm M1)))))))) := hw
  refine lv_aload_n X.1.1 X.1.2.1 dX9_word_0 rfl (lv_at hl 0 rfl) ?_
  refine lv_iload_n X.1.1 X.1.2.1 dX9_word_1 rfl (lv_at hl 1 rfl) ?_
  refine co_X9_requireCell X hp1 (kc := 3) rmL_ok rm_c (by decide) hR hS kw_1077 hl.1 dX9_word_2 (Nat.le_of_ble_eq_true rfl) hw (fun M1 H locs hw hR hS => ?_)
  refine lv_iload_n X.1.1 X.1.2.1 dX9_word_5 rfl (lv_at hl 2 rfl) ?_
  refine sa_const X.1 dX9_word_6 ?_
  refine sa_icmp_lt (tgt := 27) X.1 hp2 (inR_c (a := 1) rfl) dX9_word_7 (by decide) (fun hc => ?_) (fun hc => ?_)
  · have hw := hw.1 hc
    exact to_X9_word_27 X hp1 hp2 hp3 _ hw _ _ hR hS _ (lv_sub hl [] rfl)
  · have hw := hw.2 hc
    refine lv_iload_n X.1.1 X.1.2.1 dX9_word_10 rfl (lv_at hl 2 rfl) ?_
    refine sa_bipush X.1 dX9_word_11 (by decide) ?_
    refine sa_icmp_gt (tgt := 27) X.1 hp2 (inR_c (a := 20) rfl) dX9_word_13 (by decide) (fun hc => ?_) (fun hc => ?_)
    · have hw := hw.1 hc
      exact to_X9_word_27 X hp1 hp2 hp3 _ hw _ _ hR hS _ (lv_sub hl [] rfl)
    · have hw := hw.2 hc
      refine lv_iload_n X.1.1 X.1.2.1 dX9_word_16 rfl (lv_at hl 3 rfl) ?_
      refine sa_if_lt (tgt := 27) X.1 hp3 dX9_word_17 (by decide) (fun hc => ?_) (fun hc => ?_)
      · have hw := hw.1 hc
        exact to_X9_word_27 X hp1 hp2 hp3 _ hw _ _ hR hS _ (lv_sub hl [] rfl)
      · have hw := hw.2 hc
        refine lv_iload_n X.1.1 X.1.2.1 dX9_word_20 rfl (lv_at hl 3 rfl) ?_
        refine lv_iload_n X.1.1 X.1.2.1 dX9_word_21 rfl (lv_at hl 2 rfl) ?_
        refine sa_const X.1 dX9_word_22 ?_
        have c2 := hw.1
        have hw := hw.2
        refine sa_isub X.1 dX9_word_23 ?_
        refine sa_icmp_le (tgt := 37) X.1 hp3 c2 dX9_word_24 (by decide) (fun hc => ?_) (fun hc => ?_)
        · have hw := hw.1 hc
          refine lv_aload_n X.1.1 X.1.2.1 dX9_word_37 rfl (lv_at hl 0 rfl) ?_
          refine gt_10_0 X hR (okf X.2.2.1 rfl) kw_332 dX9_word_38 ?_
          refine gt_4_2 X hR (okf X.2.2.1 rfl) kw_121 dX9_word_41 ?_
          refine lv_iload_n X.1.1 X.1.2.1 dX9_word_44 rfl (lv_at hl 1 rfl) ?_
          have c3 := hw.1
          have hw := hw.2
          refine ls_get (ci := 1) (by decide) (by decide) rfl X c3 (kc := 3) rmL_ok rm_c (by decide) hR hS kw_969 hl.1 dX9_word_45 (Nat.le_of_ble_eq_true rfl) (fun H locs o4 hR hS => ?_)
          refine ck_1 X hR o4 kw_976 dX9_word_48 ?_
          refine lv_astore (lv' := [(4, .ref (α 1 (M1 14 0 p1))), (0, .ref (α 10 0)), (1, .int (Int32.ofInt p1)), (2, .int (Int32.ofInt p2)), (3, .int (Int32.ofInt p3))]) X.1.1 X.1.2.1 dX9_word_51 hl (by decide) rfl (fun ls hl => ?_)
          refine lv_aload X.1.1 X.1.2.1 dX9_word_53 (lv_at hl 0 rfl) ?_
          refine gt_1_8 X hR o4 kw_1006 dX9_word_55 ?_
          have r5 := hR.r 1 (M1 14 0 p1) 8
          refine sa_if_ne (tgt := 71) X.1 r5 dX9_word_58 (by decide) (fun hc => ?_) (fun hc => ?_)
          · have hw := hw.1 hc
            exact to_X9_word_71 X hp1 hp2 hp3 _ hw _ _ hR hS _ (lv_sub hl [] rfl)
          · have hw := hw.2 hc
            refine lv_aload X.1.1 X.1.2.1 dX9_word_61 (lv_at hl 0 rfl) ?_
            refine gt_1_7 X hR o4 kw_1004 dX9_word_63 ?_
            have r6 := hR.r 1 (M1 14 0 p1) 7
            refine sa_bipush X.1 dX9_word_66 (by decide) ?_
            refine sa_icmp_lt (tgt := 81) X.1 r6 (inR_c (a := 12) rfl) dX9_word_68 (by decide) (fun hc => ?_) (fun hc => ?_)
            · have hw := hw.1 hc
              refine lv_aload_n X.1.1 X.1.2.1 dX9_word_81 rfl (lv_at hl 1 rfl) ?_
              refine sa_const X.1 dX9_word_82 ?_
              refine pt_10_10 X hR hS (okf X.2.2.1 rfl) (Or.inr rfl) kw_342 dX9_word_83 (fun H locs hR hS => ?_)
              obtain ⟨M7, e8⟩ : ∃ z : Mem, z = up M1 10 0 10 1 := ⟨_, rfl⟩
              rw [← e8] at hR
              have hw := hw M7 e8
              refine lv_aload X.1.1 X.1.2.1 dX9_word_86 (lv_at hl 0 rfl) ?_
              refine lv_iload_n X.1.1 X.1.2.1 dX9_word_88 rfl (lv_at hl 3 rfl) ?_
              refine lv_iload_n X.1.1 X.1.2.1 dX9_word_89 rfl (lv_at hl 4 rfl) ?_
              refine cs_X0_addWord X o4 hp2 hp3 (kc := 3) rmL_ok rm_c (by decide) hR hS kw_1088 hl.1 dX9_word_90 (Nat.le_of_ble_eq_true rfl) hw (fun M9 H locs hw hR hS => ?_)
              refine lv_aload X.1.1 X.1.2.1 dX9_word_93 (lv_at hl 0 rfl) ?_
              refine gt_1_7 X hR o4 kw_1004 dX9_word_95 ?_
              have r10 := hR.r 1 (M1 14 0 p1) 7
              exact sa_iret X.1 X.2.2.2.1 X.2.2.2.2 hR hS r10 hw dX9_word_98
            · have hw := hw.2 hc
              exact to_X9_word_71 X hp1 hp2 hp3 _ hw _ _ hR hS _ (lv_sub hl [] rfl)
        · have hw := hw.2 hc
          exact to_X9_word_27 X hp1 hp2 hp3 _ hw _ _ hR hS _ (lv_sub hl [] rfl)
theorem mo_X9_word {l : Launch} {G : Gx} {e0 : Nat} {α : Ax} {κ : Nat → Int} {B : Nat} {p1 : Int} {p2 : Int} {p3 : Int} (hκ : kOK κ) (hp1 : inR p1) (hp2 : inR p2) (hp3 : inR p3) {M : Mem} {Qm : Int → Mem → Prop} (hw : wo_X9_word p1 p2 p3 M Qm) : CI l yX9_word (Cond.code yX9_word cX9_word 5 (some .int)) 3 G e0 α κ B [.ref (α 10 0), .int (Int32.ofInt p1), .int (Int32.ofInt p2), .int (Int32.ofInt p3)] M Qm :=
  CI.mk hκ (by decide +kernel) rfl (Nat.le_of_ble_eq_true rfl) (lv := [(0, .ref (α 10 0)), (1, .int (Int32.ofInt p1)), (2, .int (Int32.ofInt p2)), (3, .int (Int32.ofInt p3))]) rfl (fun p e s m args below meth c ls X hR hS hl => to_X9_word X hp1 hp2 hp3 hw _ _ hR hS ls hl)
theorem co_X9_word {cc : ByteArray} {nL : Nat} {own : String} {ret : Option FieldType} {idx pc : Nat} {p1 : Int} {p2 : Int} {p3 : Int} (X : CX p m c cc nL s args own G B κ meth ret) (hp1 : inR p1) (hp2 : inR p2) (hp3 : inR p3) {kc : Nat} {R : Room} {cells slots : Nat} (hRr : RmOK R kc) (hcel : cells ≤ R.cells ∧ slots ≤ R.slots) (hk : 3 + 1 ≤ kc) {M : Mem} {H : Heap} {locs : List Loc} (hR : Rp G e0 α κ B M H) (hS : va_S (fun q => B ≤ q) s.heap H locs) (k1 : Cond.methodLink own idx yX9_word ∈ gw) {ls : Array Slot} (hml : ls.size = nL) {rest : List Value} (hd : decode cc pc = .ok (.invokevirtual idx, 3)) (hrest : (rest.map fun v => v.category).sum ≤ 8) {Q : State → Prop} {Qm : Int → Mem → Prop} (hw : wo_X9_word p1 p2 p3 M Qm) (kk : ∀ (r : Int) (M1 : Mem) (H1 : Heap) (locs1 : List Loc), Qm r M1 → inR r → Rp G e0 α κ B M1 H1 → va_S (fun q => B ≤ q) s.heap H1 locs1 → W p l e R s m args below meth c H1 locs1 cells slots Q (F0 m (pc + 3) ls (.int (Int32.ofInt r) :: rest))) : W p l e R s m args below meth c H locs cells slots Q (F0 m pc ls (.int (Int32.ofInt p3) :: .int (Int32.ofInt p2) :: .int (Int32.ofInt p1) :: .ref (α 10 0) :: rest)) :=
  sa_callVI 3 (n := 3) (As := [.int (Int32.ofInt p1), .int (Int32.ofInt p2), .int (Int32.ofInt p3)]) (rest := rest) X.1 X.2.1 hR hS (mo_X9_word X.2.2.1 hp1 hp2 hp3 hw) k1 kw_1074 kw_1075 kw_38 kw_1076 ⟨rfl, by decide +kernel, by decide +kernel, by decide +kernel⟩ (rm_ok hRr hk (by decide)) (rc_10 X hR (okf X.2.2.1 rfl)) rfl rfl hrest hml hd hcel kk
def wo_X9_figure_65 (p1 : Int) (p2 : Int) (p3 : Int) (Qm : Mem → Prop) (M : Mem) : Prop := False
def wo_X9_figure (p1 : Int) (p2 : Int) (p3 : Int) (M : Mem) (Qm : Mem → Prop) : Prop := wo_X9_requireCell p1 M fun (M1 : Mem) => wp_X9_isFigure p2 p3 M1 fun (x3 : Int) (M2 : Mem) => ((¬ x3 = 0 → (0 ≤ p1 ∧ p1 < M2 14 0 (-1)) ∧ ((0 < (M2 1 (M2 14 0 p1) 7) → wo_X9_figure_65 p1 p2 p3 Qm M2) ∧ ((M2 1 (M2 14 0 p1) 7) ≤ 0 → ((1 < (M2 1 (M2 14 0 p1) 2) → wo_X9_figure_65 p1 p2 p3 Qm M2) ∧ ((M2 1 (M2 14 0 p1) 2) ≤ 1 → (((M2 1 (M2 14 0 p1) 3) ≤ 1 → ∀ M10 : Mem, M10 = up M2 10 0 10 1 → ∀ M12 : Mem, M12 = up M10 1 (M2 14 0 p1) 8 1 → ∀ M14 : Mem, M14 = up M12 1 (M2 14 0 p1) 9 p2 → ∀ M16 : Mem, M16 = up M14 1 (M2 14 0 p1) 10 p3 → Qm M16) ∧ (1 < (M2 1 (M2 14 0 p1) 3) → wo_X9_figure_65 p1 p2 p3 Qm M2))))))) ∧ (x3 = 0 → False))
set_option maxHeartbeats 4000000 in
set_option maxRecDepth 100000 in
theorem to_X9_figure_65 {p1 : Int} {p2 : Int} {p3 : Int} (X : CX p m c cX9_figure 5 s args RX9 G B κ meth none) (hp1 : inR p1) (hp2 : inR p2) (hp3 : inR p3) {Qm : Mem → Prop} : ∀ M : Mem, wo_X9_figure_65 p1 p2 p3 Qm M → ∀ (H : Heap) (locs : List Loc), Rp G e0 α κ B M H → va_S (fun q => B ≤ q) s.heap H locs → ∀ (ls : Array Slot), lv_has ls 5 [] → WV p l e 3 s m args below meth c G e0 α κ B Qm H locs 65 ls [] := by
  intro M hw H locs hR hS ls hl
  have hw : False := hw
  exact hw.elim
set_option maxHeartbeats 4000000 in
set_option maxRecDepth 100000 in
theorem to_X9_figure {p1 : Int} {p2 : Int} {p3 : Int} (X : CX p m c cX9_figure 5 s args RX9 G B κ meth none) (hp1 : inR p1) (hp2 : inR p2) (hp3 : inR p3) {M : Mem} {Qm : Mem → Prop} (hw : wo_X9_figure p1 p2 p3 M Qm) (H : Heap) (locs : List Loc) (hR : Rp G e0 α κ B M H) (hS : va_S (fun q => B ≤ q) s.heap H locs) (ls : Array Slot) (hl : lv_has ls 5 [(0, .ref (α 10 0)), (1, .int (Int32.ofInt p1)), (2, .int (Int32.ofInt p2)), (3, .int (Int32.ofInt p3))]) : WV p l e 3 s m args below meth c G e0 α κ B Qm H locs 0 ls [] := by
  have hw : wo_X9_requireCell p1 M fun (M1 : Mem) => wp_X9_isFigure p2 p3 M1 fun (x3 : Int) (M2 : Mem) => ((¬ x3 = 0 → (0 ≤ p1 ∧ p1 < M2 14 0 (-1)) ∧ ((0 < (M2 1 (M2 14 0 p1) 7) → wo_X9_figure_65 p1 p2 p3 Qm M2) ∧ ((M2 1 (M2 14 0 p1) 7) ≤ 0 → ((1 < (M2 1 (M2 14 0 p1) 2) → wo_X9_figure_65 p1 p2 p3 Qm M2) ∧ ((M2 1 (M2 14 0 p1) 2) ≤ 1 → (((M2 1 (M2 14 0 p1) 3) ≤ 1 → ∀ M10 : Mem, M10 = up M2 10 0 10 1 → ∀ M12 : Mem, M12 = up M10 1 (M2 14 0 p1) 8 1 → ∀ M14 : Mem, M14 = up M12 1 (M2 14 0 p1) 9 p2 → ∀ M16 : Mem, M16 = up M14 1 (M2 14 0 p1) 10 p3 → Qm M16) ∧ (1 < (M2 1 (M2 14 0 p1) 3) → wo_X9_figure_65 p1 p2 p3 Qm M2))))))) ∧ (x3 = 0 → False)) := hw
  refine lv_aload_n X.1.1 X.1.2.1 dX9_figure_0 rfl (lv_at hl 0 rfl) ?_
  refine lv_iload_n X.1.1 X.1.2.1 dX9_figure_1 rfl (lv_at hl 1 rfl) ?_
  refine co_X9_requireCell X hp1 (kc := 3) rmL_ok rm_c (by decide) hR hS kw_1077 hl.1 dX9_figure_2 (Nat.le_of_ble_eq_true rfl) hw (fun M1 H locs hw hR hS => ?_)
  refine lv_iload_n X.1.1 X.1.2.1 dX9_figure_5 rfl (lv_at hl 2 rfl) ?_
  refine lv_iload_n X.1.1 X.1.2.1 dX9_figure_6 rfl (lv_at hl 3 rfl) ?_
  refine cs_X9_isFigure X hp2 hp3 (kc := 3) rmL_ok rm_c (by decide) hR hS kw_1099 hl.1 dX9_figure_7 (Nat.le_of_ble_eq_true rfl) hw (fun x3 M2 H locs hw r4 hR hS => ?_)
  refine sa_if_ne (tgt := 23) X.1 r4 dX9_figure_10 (by decide) (fun hc => ?_) (fun hc => ?_)
  · have hw := hw.1 hc
    refine lv_aload_n X.1.1 X.1.2.1 dX9_figure_23 rfl (lv_at hl 0 rfl) ?_
    refine gt_10_0 X hR (okf X.2.2.1 rfl) kw_332 dX9_figure_24 ?_
    refine gt_4_2 X hR (okf X.2.2.1 rfl) kw_121 dX9_figure_27 ?_
    refine lv_iload_n X.1.1 X.1.2.1 dX9_figure_30 rfl (lv_at hl 1 rfl) ?_
    have c5 := hw.1
    have hw := hw.2
    refine ls_get (ci := 1) (by decide) (by decide) rfl X c5 (kc := 3) rmL_ok rm_c (by decide) hR hS kw_969 hl.1 dX9_figure_31 (Nat.le_of_ble_eq_true rfl) (fun H locs o6 hR hS => ?_)
    refine ck_1 X hR o6 kw_976 dX9_figure_34 ?_
    refine lv_astore (lv' := [(4, .ref (α 1 (M2 14 0 p1))), (0, .ref (α 10 0)), (1, .int (Int32.ofInt p1)), (2, .int (Int32.ofInt p2)), (3, .int (Int32.ofInt p3))]) X.1.1 X.1.2.1 dX9_figure_37 hl (by decide) rfl (fun ls hl => ?_)
    refine lv_aload X.1.1 X.1.2.1 dX9_figure_39 (lv_at hl 0 rfl) ?_
    refine gt_1_7 X hR o6 kw_1004 dX9_figure_41 ?_
    have r7 := hR.r 1 (M2 14 0 p1) 7
    refine sa_if_gt (tgt := 65) X.1 r7 dX9_figure_44 (by decide) (fun hc => ?_) (fun hc => ?_)
    · have hw := hw.1 hc
      exact to_X9_figure_65 X hp1 hp2 hp3 _ hw _ _ hR hS _ (lv_sub hl [] rfl)
    · have hw := hw.2 hc
      refine lv_aload X.1.1 X.1.2.1 dX9_figure_47 (lv_at hl 0 rfl) ?_
      refine gt_1_2 X hR o6 kw_993 dX9_figure_49 ?_
      have r8 := hR.r 1 (M2 14 0 p1) 2
      refine sa_const X.1 dX9_figure_52 ?_
      refine sa_icmp_gt (tgt := 65) X.1 r8 (inR_c (a := 1) rfl) dX9_figure_53 (by decide) (fun hc => ?_) (fun hc => ?_)
      · have hw := hw.1 hc
        exact to_X9_figure_65 X hp1 hp2 hp3 _ hw _ _ hR hS _ (lv_sub hl [] rfl)
      · have hw := hw.2 hc
        refine lv_aload X.1.1 X.1.2.1 dX9_figure_56 (lv_at hl 0 rfl) ?_
        refine gt_1_3 X hR o6 kw_996 dX9_figure_58 ?_
        have r9 := hR.r 1 (M2 14 0 p1) 3
        refine sa_const X.1 dX9_figure_61 ?_
        refine sa_icmp_le (tgt := 75) X.1 r9 (inR_c (a := 1) rfl) dX9_figure_62 (by decide) (fun hc => ?_) (fun hc => ?_)
        · have hw := hw.1 hc
          refine lv_aload_n X.1.1 X.1.2.1 dX9_figure_75 rfl (lv_at hl 1 rfl) ?_
          refine sa_const X.1 dX9_figure_76 ?_
          refine pt_10_10 X hR hS (okf X.2.2.1 rfl) (Or.inr rfl) kw_342 dX9_figure_77 (fun H locs hR hS => ?_)
          obtain ⟨M10, e11⟩ : ∃ z : Mem, z = up M2 10 0 10 1 := ⟨_, rfl⟩
          rw [← e11] at hR
          have hw := hw M10 e11
          refine lv_aload X.1.1 X.1.2.1 dX9_figure_80 (lv_at hl 0 rfl) ?_
          refine sa_const X.1 dX9_figure_82 ?_
          refine pt_1_8 X hR hS o6 (Or.inr rfl) kw_1006 dX9_figure_83 (fun H locs hR hS => ?_)
          obtain ⟨M12, e13⟩ : ∃ z : Mem, z = up M10 1 (M2 14 0 p1) 8 1 := ⟨_, rfl⟩
          rw [← e13] at hR
          have hw := hw M12 e13
          refine lv_aload X.1.1 X.1.2.1 dX9_figure_86 (lv_at hl 0 rfl) ?_
          refine lv_iload_n X.1.1 X.1.2.1 dX9_figure_88 rfl (lv_at hl 3 rfl) ?_
          refine pt_1_9 X hR hS o6 hp2 kw_1009 dX9_figure_89 (fun H locs hR hS => ?_)
          obtain ⟨M14, e15⟩ : ∃ z : Mem, z = up M12 1 (M2 14 0 p1) 9 p2 := ⟨_, rfl⟩
          rw [← e15] at hR
          have hw := hw M14 e15
          refine lv_aload X.1.1 X.1.2.1 dX9_figure_92 (lv_at hl 0 rfl) ?_
          refine lv_iload_n X.1.1 X.1.2.1 dX9_figure_94 rfl (lv_at hl 4 rfl) ?_
          refine pt_1_10 X hR hS o6 hp3 kw_1012 dX9_figure_95 (fun H locs hR hS => ?_)
          obtain ⟨M16, e17⟩ : ∃ z : Mem, z = up M14 1 (M2 14 0 p1) 10 p3 := ⟨_, rfl⟩
          rw [← e17] at hR
          have hw := hw M16 e17
          exact sa_vret X.1 X.2.2.2.1 X.2.2.2.2 hR hS hw dX9_figure_98
        · have hw := hw.2 hc
          exact to_X9_figure_65 X hp1 hp2 hp3 _ hw _ _ hR hS _ (lv_sub hl [] rfl)
  · have hw := hw.2 hc
    exact hw.elim
theorem mo_X9_figure {l : Launch} {G : Gx} {e0 : Nat} {α : Ax} {κ : Nat → Int} {B : Nat} {p1 : Int} {p2 : Int} {p3 : Int} (hκ : kOK κ) (hp1 : inR p1) (hp2 : inR p2) (hp3 : inR p3) {M : Mem} {Qm : Mem → Prop} (hw : wo_X9_figure p1 p2 p3 M Qm) : CV l yX9_figure (Cond.code yX9_figure cX9_figure 5 none) 3 G e0 α κ B [.ref (α 10 0), .int (Int32.ofInt p1), .int (Int32.ofInt p2), .int (Int32.ofInt p3)] M Qm :=
  CV.mk hκ (by decide +kernel) rfl (Nat.le_of_ble_eq_true rfl) (lv := [(0, .ref (α 10 0)), (1, .int (Int32.ofInt p1)), (2, .int (Int32.ofInt p2)), (3, .int (Int32.ofInt p3))]) rfl (fun p e s m args below meth c ls X hR hS hl => to_X9_figure X hp1 hp2 hp3 hw _ _ hR hS ls hl)
theorem co_X9_figure {cc : ByteArray} {nL : Nat} {own : String} {ret : Option FieldType} {idx pc : Nat} {p1 : Int} {p2 : Int} {p3 : Int} (X : CX p m c cc nL s args own G B κ meth ret) (hp1 : inR p1) (hp2 : inR p2) (hp3 : inR p3) {kc : Nat} {R : Room} {cells slots : Nat} (hRr : RmOK R kc) (hcel : cells ≤ R.cells ∧ slots ≤ R.slots) (hk : 3 + 1 ≤ kc) {M : Mem} {H : Heap} {locs : List Loc} (hR : Rp G e0 α κ B M H) (hS : va_S (fun q => B ≤ q) s.heap H locs) (k1 : Cond.methodLink own idx yX9_figure ∈ gw) {ls : Array Slot} (hml : ls.size = nL) {rest : List Value} (hd : decode cc pc = .ok (.invokevirtual idx, 3)) (hrest : (rest.map fun v => v.category).sum ≤ 8) {Q : State → Prop} {Qm : Mem → Prop} (hw : wo_X9_figure p1 p2 p3 M Qm) (kk : ∀ (M1 : Mem) (H1 : Heap) (locs1 : List Loc), Qm M1 → Rp G e0 α κ B M1 H1 → va_S (fun q => B ≤ q) s.heap H1 locs1 → W p l e R s m args below meth c H1 locs1 cells slots Q (F0 m (pc + 3) ls (rest))) : W p l e R s m args below meth c H locs cells slots Q (F0 m pc ls (.int (Int32.ofInt p3) :: .int (Int32.ofInt p2) :: .int (Int32.ofInt p1) :: .ref (α 10 0) :: rest)) :=
  sa_callVV 3 (n := 3) (As := [.int (Int32.ofInt p1), .int (Int32.ofInt p2), .int (Int32.ofInt p3)]) (rest := rest) X.1 X.2.1 hR hS (mo_X9_figure X.2.2.1 hp1 hp2 hp3 hw) k1 kw_1096 kw_1097 kw_38 kw_1098 ⟨rfl, by decide +kernel, by decide +kernel, by decide +kernel⟩ (rm_ok hRr hk (by decide)) (rc_10 X hR (okf X.2.2.1 rfl)) rfl rfl hrest hml hd hcel kk
def wo_X9_empty (p1 : Int) (M : Mem) (Qm : Int → Mem → Prop) : Prop := wo_X9_requireCell p1 M fun (M1 : Mem) => ∀ M2 : Mem, M2 = up M1 10 0 10 1 → (0 ≤ p1 ∧ p1 < M2 14 0 (-1)) ∧ ∀ M7 : Mem, M7 = up M2 1 (M2 14 0 p1) 7 0 → ∀ M9 : Mem, M9 = up M7 1 (M2 14 0 p1) 8 0 → Qm (M2 1 (M2 14 0 p1) 7) M9
set_option maxHeartbeats 4000000 in
set_option maxRecDepth 100000 in
theorem to_X9_empty {p1 : Int} (X : CX p m c cX9_empty 4 s args RX9 G B κ meth (some .int)) (hp1 : inR p1) {M : Mem} {Qm : Int → Mem → Prop} (hw : wo_X9_empty p1 M Qm) (H : Heap) (locs : List Loc) (hR : Rp G e0 α κ B M H) (hS : va_S (fun q => B ≤ q) s.heap H locs) (ls : Array Slot) (hl : lv_has ls 4 [(0, .ref (α 10 0)), (1, .int (Int32.ofInt p1))]) : WI p l e 3 s m args below meth c G e0 α κ B Qm H locs 0 ls [] := by
  have hw : wo_X9_requireCell p1 M fun (M1 : Mem) => ∀ M2 : Mem, M2 = up M1 10 0 10 1 → (0 ≤ p1 ∧ p1 < M2 14 0 (-1)) ∧ ∀ M7 : Mem, M7 = up M2 1 (M2 14 0 p1) 7 0 → ∀ M9 : Mem, M9 = up M7 1 (M2 14 0 p1) 8 0 → Qm (M2 1 (M2 14 0 p1) 7) M9 := hw
  refine lv_aload_n X.1.1 X.1.2.1 dX9_empty_0 rfl (lv_at hl 0 rfl) ?_
  refine lv_iload_n X.1.1 X.1.2.1 dX9_empty_1 rfl (lv_at hl 1 rfl) ?_
  refine co_X9_requireCell X hp1 (kc := 3) rmL_ok rm_c (by decide) hR hS kw_1077 hl.1 dX9_empty_2 (Nat.le_of_ble_eq_true rfl) hw (fun M1 H locs hw hR hS => ?_)
  refine lv_aload_n X.1.1 X.1.2.1 dX9_empty_5 rfl (lv_at hl 0 rfl) ?_
  refine sa_const X.1 dX9_empty_6 ?_
  refine pt_10_10 X hR hS (okf X.2.2.1 rfl) (Or.inr rfl) kw_342 dX9_empty_7 (fun H locs hR hS => ?_)
  obtain ⟨M2, e3⟩ : ∃ z : Mem, z = up M1 10 0 10 1 := ⟨_, rfl⟩
  rw [← e3] at hR
  have hw := hw M2 e3
  refine lv_aload_n X.1.1 X.1.2.1 dX9_empty_10 rfl (lv_at hl 0 rfl) ?_
  refine gt_10_0 X hR (okf X.2.2.1 rfl) kw_332 dX9_empty_11 ?_
  refine gt_4_2 X hR (okf X.2.2.1 rfl) kw_121 dX9_empty_14 ?_
  refine lv_iload_n X.1.1 X.1.2.1 dX9_empty_17 rfl (lv_at hl 1 rfl) ?_
  have c4 := hw.1
  have hw := hw.2
  refine ls_get (ci := 1) (by decide) (by decide) rfl X c4 (kc := 3) rmL_ok rm_c (by decide) hR hS kw_969 hl.1 dX9_empty_18 (Nat.le_of_ble_eq_true rfl) (fun H locs o5 hR hS => ?_)
  refine ck_1 X hR o5 kw_976 dX9_empty_21 ?_
  refine lv_astore_n (lv' := [(2, .ref (α 1 (M2 14 0 p1))), (0, .ref (α 10 0)), (1, .int (Int32.ofInt p1))]) X.1.1 X.1.2.1 dX9_empty_24 rfl hl (by decide) rfl (fun ls hl => ?_)
  refine lv_aload_n X.1.1 X.1.2.1 dX9_empty_25 rfl (lv_at hl 0 rfl) ?_
  refine gt_1_7 X hR o5 kw_1004 dX9_empty_26 ?_
  have r6 := hR.r 1 (M2 14 0 p1) 7
  refine lv_istore_n (lv' := [(3, .int (Int32.ofInt (M2 1 (M2 14 0 p1) 7))), (2, .ref (α 1 (M2 14 0 p1))), (0, .ref (α 10 0)), (1, .int (Int32.ofInt p1))]) X.1.1 X.1.2.1 dX9_empty_29 rfl hl (by decide) rfl (fun ls hl => ?_)
  refine lv_aload_n X.1.1 X.1.2.1 dX9_empty_30 rfl (lv_at hl 1 rfl) ?_
  refine sa_const X.1 dX9_empty_31 ?_
  refine pt_1_7 X hR hS o5 (inR_c (a := 0) rfl) kw_1004 dX9_empty_32 (fun H locs hR hS => ?_)
  obtain ⟨M7, e8⟩ : ∃ z : Mem, z = up M2 1 (M2 14 0 p1) 7 0 := ⟨_, rfl⟩
  rw [← e8] at hR
  have hw := hw M7 e8
  refine lv_aload_n X.1.1 X.1.2.1 dX9_empty_35 rfl (lv_at hl 1 rfl) ?_
  refine sa_const X.1 dX9_empty_36 ?_
  refine pt_1_8 X hR hS o5 (Or.inl rfl) kw_1006 dX9_empty_37 (fun H locs hR hS => ?_)
  obtain ⟨M9, e10⟩ : ∃ z : Mem, z = up M7 1 (M2 14 0 p1) 8 0 := ⟨_, rfl⟩
  rw [← e10] at hR
  have hw := hw M9 e10
  refine lv_iload_n X.1.1 X.1.2.1 dX9_empty_40 rfl (lv_at hl 0 rfl) ?_
  exact sa_iret X.1 X.2.2.2.1 X.2.2.2.2 hR hS r6 hw dX9_empty_41
theorem mo_X9_empty {l : Launch} {G : Gx} {e0 : Nat} {α : Ax} {κ : Nat → Int} {B : Nat} {p1 : Int} (hκ : kOK κ) (hp1 : inR p1) {M : Mem} {Qm : Int → Mem → Prop} (hw : wo_X9_empty p1 M Qm) : CI l yX9_empty (Cond.code yX9_empty cX9_empty 4 (some .int)) 3 G e0 α κ B [.ref (α 10 0), .int (Int32.ofInt p1)] M Qm :=
  CI.mk hκ (by decide +kernel) rfl (Nat.le_of_ble_eq_true rfl) (lv := [(0, .ref (α 10 0)), (1, .int (Int32.ofInt p1))]) rfl (fun p e s m args below meth c ls X hR hS hl => to_X9_empty X hp1 hw _ _ hR hS ls hl)
theorem co_X9_empty {cc : ByteArray} {nL : Nat} {own : String} {ret : Option FieldType} {idx pc : Nat} {p1 : Int} (X : CX p m c cc nL s args own G B κ meth ret) (hp1 : inR p1) {kc : Nat} {R : Room} {cells slots : Nat} (hRr : RmOK R kc) (hcel : cells ≤ R.cells ∧ slots ≤ R.slots) (hk : 3 + 1 ≤ kc) {M : Mem} {H : Heap} {locs : List Loc} (hR : Rp G e0 α κ B M H) (hS : va_S (fun q => B ≤ q) s.heap H locs) (k1 : Cond.methodLink own idx yX9_empty ∈ gw) {ls : Array Slot} (hml : ls.size = nL) {rest : List Value} (hd : decode cc pc = .ok (.invokevirtual idx, 3)) (hrest : (rest.map fun v => v.category).sum ≤ 8) {Q : State → Prop} {Qm : Int → Mem → Prop} (hw : wo_X9_empty p1 M Qm) (kk : ∀ (r : Int) (M1 : Mem) (H1 : Heap) (locs1 : List Loc), Qm r M1 → inR r → Rp G e0 α κ B M1 H1 → va_S (fun q => B ≤ q) s.heap H1 locs1 → W p l e R s m args below meth c H1 locs1 cells slots Q (F0 m (pc + 3) ls (.int (Int32.ofInt r) :: rest))) : W p l e R s m args below meth c H locs cells slots Q (F0 m pc ls (.int (Int32.ofInt p1) :: .ref (α 10 0) :: rest)) :=
  sa_callVI 3 (n := 1) (As := [.int (Int32.ofInt p1)]) (rest := rest) X.1 X.2.1 hR hS (mo_X9_empty X.2.2.1 hp1 hw) k1 kw_1107 kw_1108 kw_38 kw_1109 ⟨rfl, by decide +kernel, by decide +kernel, by decide +kernel⟩ (rm_ok hRr hk (by decide)) (rc_10 X hR (okf X.2.2.1 rfl)) rfl rfl hrest hml hd hcel kk
def wo_X9_note_14 (p1 : Int) (p2 : Int) (Qm : Int → Mem → Prop) (M : Mem) : Prop := False
def wo_X9_note (p1 : Int) (p2 : Int) (M : Mem) (Qm : Int → Mem → Prop) : Prop := wo_X9_requireCell p1 M fun (M1 : Mem) => ((p2 < 0 → wo_X9_note_14 p1 p2 Qm M1) ∧ (0 ≤ p2 → ((p2 ≤ 3 → (0 ≤ p1 ∧ p1 < M1 14 0 (-1)) ∧ (((M1 6 (M1 1 (M1 14 0 p1) 0) 1) = 1 → ∀ M6 : Mem, M6 = up M1 10 0 10 1 → ∀ M9 : Mem, M9 = up M6 1 (M1 14 0 p1) 11 p2 → Qm (M6 1 (M1 14 0 p1) 11) M9) ∧ (¬ (M1 6 (M1 1 (M1 14 0 p1) 0) 1) = 1 → False))) ∧ (3 < p2 → wo_X9_note_14 p1 p2 Qm M1))))
set_option maxHeartbeats 4000000 in
set_option maxRecDepth 100000 in
theorem to_X9_note_14 {p1 : Int} {p2 : Int} (X : CX p m c cX9_note 5 s args RX9 G B κ meth (some .int)) (hp1 : inR p1) (hp2 : inR p2) {Qm : Int → Mem → Prop} : ∀ M : Mem, wo_X9_note_14 p1 p2 Qm M → ∀ (H : Heap) (locs : List Loc), Rp G e0 α κ B M H → va_S (fun q => B ≤ q) s.heap H locs → ∀ (ls : Array Slot), lv_has ls 5 [] → WI p l e 3 s m args below meth c G e0 α κ B Qm H locs 14 ls [] := by
  intro M hw H locs hR hS ls hl
  have hw : False := hw
  exact hw.elim
set_option maxHeartbeats 4000000 in
set_option maxRecDepth 100000 in
theorem to_X9_note {p1 : Int} {p2 : Int} (X : CX p m c cX9_note 5 s args RX9 G B κ meth (some .int)) (hp1 : inR p1) (hp2 : inR p2) {M : Mem} {Qm : Int → Mem → Prop} (hw : wo_X9_note p1 p2 M Qm) (H : Heap) (locs : List Loc) (hR : Rp G e0 α κ B M H) (hS : va_S (fun q => B ≤ q) s.heap H locs) (ls : Array Slot) (hl : lv_has ls 5 [(0, .ref (α 10 0)), (1, .int (Int32.ofInt p1)), (2, .int (Int32.ofInt p2))]) : WI p l e 3 s m args below meth c G e0 α κ B Qm H locs 0 ls [] := by
  have hw : wo_X9_requireCell p1 M fun (M1 : Mem) => ((p2 < 0 → wo_X9_note_14 p1 p2 Qm M1) ∧ (0 ≤ p2 → ((p2 ≤ 3 → (0 ≤ p1 ∧ p1 < M1 14 0 (-1)) ∧ (((M1 6 (M1 1 (M1 14 0 p1) 0) 1) = 1 → ∀ M6 : Mem, M6 = up M1 10 0 10 1 → ∀ M9 : Mem, M9 = up M6 1 (M1 14 0 p1) 11 p2 → Qm (M6 1 (M1 14 0 p1) 11) M9) ∧ (¬ (M1 6 (M1 1 (M1 14 0 p1) 0) 1) = 1 → False))) ∧ (3 < p2 → wo_X9_note_14 p1 p2 Qm M1)))) := hw
  refine lv_aload_n X.1.1 X.1.2.1 dX9_note_0 rfl (lv_at hl 0 rfl) ?_
  refine lv_iload_n X.1.1 X.1.2.1 dX9_note_1 rfl (lv_at hl 1 rfl) ?_
  refine co_X9_requireCell X hp1 (kc := 3) rmL_ok rm_c (by decide) hR hS kw_1077 hl.1 dX9_note_2 (Nat.le_of_ble_eq_true rfl) hw (fun M1 H locs hw hR hS => ?_)
  refine lv_iload_n X.1.1 X.1.2.1 dX9_note_5 rfl (lv_at hl 2 rfl) ?_
  refine sa_if_lt (tgt := 14) X.1 hp2 dX9_note_6 (by decide) (fun hc => ?_) (fun hc => ?_)
  · have hw := hw.1 hc
    exact to_X9_note_14 X hp1 hp2 _ hw _ _ hR hS _ (lv_sub hl [] rfl)
  · have hw := hw.2 hc
    refine lv_iload_n X.1.1 X.1.2.1 dX9_note_9 rfl (lv_at hl 2 rfl) ?_
    refine sa_const X.1 dX9_note_10 ?_
    refine sa_icmp_le (tgt := 24) X.1 hp2 (inR_c (a := 3) rfl) dX9_note_11 (by decide) (fun hc => ?_) (fun hc => ?_)
    · have hw := hw.1 hc
      refine lv_aload_n X.1.1 X.1.2.1 dX9_note_24 rfl (lv_at hl 0 rfl) ?_
      refine gt_10_0 X hR (okf X.2.2.1 rfl) kw_332 dX9_note_25 ?_
      refine gt_4_2 X hR (okf X.2.2.1 rfl) kw_121 dX9_note_28 ?_
      refine lv_iload_n X.1.1 X.1.2.1 dX9_note_31 rfl (lv_at hl 1 rfl) ?_
      have c2 := hw.1
      have hw := hw.2
      refine ls_get (ci := 1) (by decide) (by decide) rfl X c2 (kc := 3) rmL_ok rm_c (by decide) hR hS kw_969 hl.1 dX9_note_32 (Nat.le_of_ble_eq_true rfl) (fun H locs o3 hR hS => ?_)
      refine ck_1 X hR o3 kw_976 dX9_note_35 ?_
      refine lv_astore_n (lv' := [(3, .ref (α 1 (M1 14 0 p1))), (0, .ref (α 10 0)), (1, .int (Int32.ofInt p1)), (2, .int (Int32.ofInt p2))]) X.1.1 X.1.2.1 dX9_note_38 rfl hl (by decide) rfl (fun ls hl => ?_)
      refine lv_aload_n X.1.1 X.1.2.1 dX9_note_39 rfl (lv_at hl 0 rfl) ?_
      refine gt_1_0 X hR o3 kw_985 dX9_note_40 ?_
      have o4 := hR.2.2.2.1 _ o3
      refine gt_6_1 X hR o4 kw_895 dX9_note_43 ?_
      have r5 := hR.r 6 (M1 1 (M1 14 0 p1) 0) 1
      refine sa_const X.1 dX9_note_46 ?_
      refine sa_icmp_eq (tgt := 60) X.1 r5 (inR_c (a := 1) rfl) dX9_note_47 (by decide) (fun hc => ?_) (fun hc => ?_)
      · have hw := hw.1 hc
        refine lv_aload_n X.1.1 X.1.2.1 dX9_note_60 rfl (lv_at hl 1 rfl) ?_
        refine sa_const X.1 dX9_note_61 ?_
        refine pt_10_10 X hR hS (okf X.2.2.1 rfl) (Or.inr rfl) kw_342 dX9_note_62 (fun H locs hR hS => ?_)
        obtain ⟨M6, e7⟩ : ∃ z : Mem, z = up M1 10 0 10 1 := ⟨_, rfl⟩
        rw [← e7] at hR
        have hw := hw M6 e7
        refine lv_aload_n X.1.1 X.1.2.1 dX9_note_65 rfl (lv_at hl 0 rfl) ?_
        refine gt_1_11 X hR o3 kw_1015 dX9_note_66 ?_
        have r8 := hR.r 1 (M1 14 0 p1) 11
        refine lv_istore (lv' := [(4, .int (Int32.ofInt (M6 1 (M1 14 0 p1) 11))), (3, .ref (α 1 (M1 14 0 p1))), (0, .ref (α 10 0)), (1, .int (Int32.ofInt p1)), (2, .int (Int32.ofInt p2))]) X.1.1 X.1.2.1 dX9_note_69 hl (by decide) rfl (fun ls hl => ?_)
        refine lv_aload_n X.1.1 X.1.2.1 dX9_note_71 rfl (lv_at hl 1 rfl) ?_
        refine lv_iload_n X.1.1 X.1.2.1 dX9_note_72 rfl (lv_at hl 4 rfl) ?_
        refine pt_1_11 X hR hS o3 hp2 kw_1015 dX9_note_73 (fun H locs hR hS => ?_)
        obtain ⟨M9, e10⟩ : ∃ z : Mem, z = up M6 1 (M1 14 0 p1) 11 p2 := ⟨_, rfl⟩
        rw [← e10] at hR
        have hw := hw M9 e10
        refine lv_iload X.1.1 X.1.2.1 dX9_note_76 (lv_at hl 0 rfl) ?_
        exact sa_iret X.1 X.2.2.2.1 X.2.2.2.2 hR hS r8 hw dX9_note_78
      · have hw := hw.2 hc
        exact hw.elim
    · have hw := hw.2 hc
      exact to_X9_note_14 X hp1 hp2 _ hw _ _ hR hS _ (lv_sub hl [] rfl)
theorem mo_X9_note {l : Launch} {G : Gx} {e0 : Nat} {α : Ax} {κ : Nat → Int} {B : Nat} {p1 : Int} {p2 : Int} (hκ : kOK κ) (hp1 : inR p1) (hp2 : inR p2) {M : Mem} {Qm : Int → Mem → Prop} (hw : wo_X9_note p1 p2 M Qm) : CI l yX9_note (Cond.code yX9_note cX9_note 5 (some .int)) 3 G e0 α κ B [.ref (α 10 0), .int (Int32.ofInt p1), .int (Int32.ofInt p2)] M Qm :=
  CI.mk hκ (by decide +kernel) rfl (Nat.le_of_ble_eq_true rfl) (lv := [(0, .ref (α 10 0)), (1, .int (Int32.ofInt p1)), (2, .int (Int32.ofInt p2))]) rfl (fun p e s m args below meth c ls X hR hS hl => to_X9_note X hp1 hp2 hw _ _ hR hS ls hl)
theorem co_X9_note {cc : ByteArray} {nL : Nat} {own : String} {ret : Option FieldType} {idx pc : Nat} {p1 : Int} {p2 : Int} (X : CX p m c cc nL s args own G B κ meth ret) (hp1 : inR p1) (hp2 : inR p2) {kc : Nat} {R : Room} {cells slots : Nat} (hRr : RmOK R kc) (hcel : cells ≤ R.cells ∧ slots ≤ R.slots) (hk : 3 + 1 ≤ kc) {M : Mem} {H : Heap} {locs : List Loc} (hR : Rp G e0 α κ B M H) (hS : va_S (fun q => B ≤ q) s.heap H locs) (k1 : Cond.methodLink own idx yX9_note ∈ gw) {ls : Array Slot} (hml : ls.size = nL) {rest : List Value} (hd : decode cc pc = .ok (.invokevirtual idx, 3)) (hrest : (rest.map fun v => v.category).sum ≤ 8) {Q : State → Prop} {Qm : Int → Mem → Prop} (hw : wo_X9_note p1 p2 M Qm) (kk : ∀ (r : Int) (M1 : Mem) (H1 : Heap) (locs1 : List Loc), Qm r M1 → inR r → Rp G e0 α κ B M1 H1 → va_S (fun q => B ≤ q) s.heap H1 locs1 → W p l e R s m args below meth c H1 locs1 cells slots Q (F0 m (pc + 3) ls (.int (Int32.ofInt r) :: rest))) : W p l e R s m args below meth c H locs cells slots Q (F0 m pc ls (.int (Int32.ofInt p2) :: .int (Int32.ofInt p1) :: .ref (α 10 0) :: rest)) :=
  sa_callVI 3 (n := 2) (As := [.int (Int32.ofInt p1), .int (Int32.ofInt p2)]) (rest := rest) X.1 X.2.1 hR hS (mo_X9_note X.2.2.1 hp1 hp2 hw) k1 kw_1114 kw_1115 kw_38 kw_1116 ⟨rfl, by decide +kernel, by decide +kernel, by decide +kernel⟩ (rm_ok hRr hk (by decide)) (rc_10 X hR (okf X.2.2.1 rfl)) rfl rfl hrest hml hd hcel kk
def wo_X9_at (p1 : Int) (p2 : Int) (M : Mem) (Qm : Int → Mem → Prop) : Prop := wo_X9_requireRow p1 M fun (M1 : Mem) => wo_X9_requireColumn p2 M1 fun (M2 : Mem) => wp_X3_cellNumberAt p1 p2 M2 fun (x4 : Int) (M3 : Mem) => Qm x4 M3
set_option maxHeartbeats 4000000 in
set_option maxRecDepth 100000 in
theorem to_X9_at {p1 : Int} {p2 : Int} (X : CX p m c cX9_at 3 s args RX9 G B κ meth (some .int)) (hp1 : inR p1) (hp2 : inR p2) {M : Mem} {Qm : Int → Mem → Prop} (hw : wo_X9_at p1 p2 M Qm) (H : Heap) (locs : List Loc) (hR : Rp G e0 α κ B M H) (hS : va_S (fun q => B ≤ q) s.heap H locs) (ls : Array Slot) (hl : lv_has ls 3 [(0, .ref (α 10 0)), (1, .int (Int32.ofInt p1)), (2, .int (Int32.ofInt p2))]) : WI p l e 4 s m args below meth c G e0 α κ B Qm H locs 0 ls [] := by
  have hw : wo_X9_requireRow p1 M fun (M1 : Mem) => wo_X9_requireColumn p2 M1 fun (M2 : Mem) => wp_X3_cellNumberAt p1 p2 M2 fun (x4 : Int) (M3 : Mem) => Qm x4 M3 := hw
  refine lv_aload_n X.1.1 X.1.2.1 dX9_at_0 rfl (lv_at hl 0 rfl) ?_
  refine lv_iload_n X.1.1 X.1.2.1 dX9_at_1 rfl (lv_at hl 1 rfl) ?_
  refine co_X9_requireRow X hp1 (kc := 4) rmL_ok rm_c (by decide) hR hS kw_938 hl.1 dX9_at_2 (Nat.le_of_ble_eq_true rfl) hw (fun M1 H locs hw hR hS => ?_)
  refine lv_aload_n X.1.1 X.1.2.1 dX9_at_5 rfl (lv_at hl 0 rfl) ?_
  refine lv_iload_n X.1.1 X.1.2.1 dX9_at_6 rfl (lv_at hl 2 rfl) ?_
  refine co_X9_requireColumn X hp2 (kc := 4) rmL_ok rm_c (by decide) hR hS kw_959 hl.1 dX9_at_7 (Nat.le_of_ble_eq_true rfl) hw (fun M2 H locs hw hR hS => ?_)
  refine lv_aload_n X.1.1 X.1.2.1 dX9_at_10 rfl (lv_at hl 0 rfl) ?_
  refine gt_10_0 X hR (okf X.2.2.1 rfl) kw_332 dX9_at_11 ?_
  refine lv_iload_n X.1.1 X.1.2.1 dX9_at_14 rfl (lv_at hl 1 rfl) ?_
  refine lv_iload_n X.1.1 X.1.2.1 dX9_at_15 rfl (lv_at hl 2 rfl) ?_
  refine cs_X3_cellNumberAt X hp1 hp2 (kc := 4) rmL_ok rm_c (by decide) hR hS kw_1058 hl.1 dX9_at_16 (Nat.le_of_ble_eq_true rfl) hw (fun x4 M3 H locs hw r5 hR hS => ?_)
  exact sa_iret X.1 X.2.2.2.1 X.2.2.2.2 hR hS r5 hw dX9_at_19
theorem mo_X9_at {l : Launch} {G : Gx} {e0 : Nat} {α : Ax} {κ : Nat → Int} {B : Nat} {p1 : Int} {p2 : Int} (hκ : kOK κ) (hp1 : inR p1) (hp2 : inR p2) {M : Mem} {Qm : Int → Mem → Prop} (hw : wo_X9_at p1 p2 M Qm) : CI l yX9_at (Cond.code yX9_at cX9_at 3 (some .int)) 4 G e0 α κ B [.ref (α 10 0), .int (Int32.ofInt p1), .int (Int32.ofInt p2)] M Qm :=
  CI.mk hκ (by decide +kernel) rfl (Nat.le_of_ble_eq_true rfl) (lv := [(0, .ref (α 10 0)), (1, .int (Int32.ofInt p1)), (2, .int (Int32.ofInt p2))]) rfl (fun p e s m args below meth c ls X hR hS hl => to_X9_at X hp1 hp2 hw _ _ hR hS ls hl)
theorem co_X9_at {cc : ByteArray} {nL : Nat} {own : String} {ret : Option FieldType} {idx pc : Nat} {p1 : Int} {p2 : Int} (X : CX p m c cc nL s args own G B κ meth ret) (hp1 : inR p1) (hp2 : inR p2) {kc : Nat} {R : Room} {cells slots : Nat} (hRr : RmOK R kc) (hcel : cells ≤ R.cells ∧ slots ≤ R.slots) (hk : 4 + 1 ≤ kc) {M : Mem} {H : Heap} {locs : List Loc} (hR : Rp G e0 α κ B M H) (hS : va_S (fun q => B ≤ q) s.heap H locs) (k1 : Cond.methodLink own idx yX9_at ∈ gw) {ls : Array Slot} (hml : ls.size = nL) {rest : List Value} (hd : decode cc pc = .ok (.invokevirtual idx, 3)) (hrest : (rest.map fun v => v.category).sum ≤ 8) {Q : State → Prop} {Qm : Int → Mem → Prop} (hw : wo_X9_at p1 p2 M Qm) (kk : ∀ (r : Int) (M1 : Mem) (H1 : Heap) (locs1 : List Loc), Qm r M1 → inR r → Rp G e0 α κ B M1 H1 → va_S (fun q => B ≤ q) s.heap H1 locs1 → W p l e R s m args below meth c H1 locs1 cells slots Q (F0 m (pc + 3) ls (.int (Int32.ofInt r) :: rest))) : W p l e R s m args below meth c H locs cells slots Q (F0 m pc ls (.int (Int32.ofInt p2) :: .int (Int32.ofInt p1) :: .ref (α 10 0) :: rest)) :=
  sa_callVI 4 (n := 2) (As := [.int (Int32.ofInt p1), .int (Int32.ofInt p2)]) (rest := rest) X.1 X.2.1 hR hS (mo_X9_at X.2.2.1 hp1 hp2 hw) k1 kw_1055 kw_1056 kw_38 kw_1057 ⟨rfl, by decide +kernel, by decide +kernel, by decide +kernel⟩ (rm_ok hRr hk (by decide)) (rc_10 X hR (okf X.2.2.1 rfl)) rfl rfl hrest hml hd hcel kk
def wo_X9_totalled (p1 : Int) (M : Mem) (Qm : Int → Mem → Prop) : Prop := wo_X9_requireColumn p1 M fun (M1 : Mem) => ∀ M2 : Mem, M2 = up M1 10 0 10 1 → (0 ≤ p1 ∧ p1 < M2 12 0 (-1)) ∧ (bit (if ¬ (M2 2 (M2 12 0 p1) 3) = 0 then (0 : Int) else 1)) ∧ ∀ M11 : Mem, M11 = up M2 2 (M2 12 0 p1) 3 (if ¬ (M2 2 (M2 12 0 p1) 3) = 0 then (0 : Int) else 1) → (bit (M11 2 (M2 12 0 p1) 3)) ∧ Qm (M11 2 (M2 12 0 p1) 3) M11
set_option maxHeartbeats 4000000 in
set_option maxRecDepth 100000 in
theorem to_X9_totalled {p1 : Int} (X : CX p m c cX9_totalled 3 s args RX9 G B κ meth (some .boolean)) (hp1 : inR p1) {M : Mem} {Qm : Int → Mem → Prop} (hw : wo_X9_totalled p1 M Qm) (H : Heap) (locs : List Loc) (hR : Rp G e0 α κ B M H) (hS : va_S (fun q => B ≤ q) s.heap H locs) (ls : Array Slot) (hl : lv_has ls 3 [(0, .ref (α 10 0)), (1, .int (Int32.ofInt p1))]) : WI p l e 3 s m args below meth c G e0 α κ B Qm H locs 0 ls [] := by
  have hw : wo_X9_requireColumn p1 M fun (M1 : Mem) => ∀ M2 : Mem, M2 = up M1 10 0 10 1 → (0 ≤ p1 ∧ p1 < M2 12 0 (-1)) ∧ (bit (if ¬ (M2 2 (M2 12 0 p1) 3) = 0 then (0 : Int) else 1)) ∧ ∀ M11 : Mem, M11 = up M2 2 (M2 12 0 p1) 3 (if ¬ (M2 2 (M2 12 0 p1) 3) = 0 then (0 : Int) else 1) → (bit (M11 2 (M2 12 0 p1) 3)) ∧ Qm (M11 2 (M2 12 0 p1) 3) M11 := hw
  refine lv_aload_n X.1.1 X.1.2.1 dX9_totalled_0 rfl (lv_at hl 0 rfl) ?_
  refine lv_iload_n X.1.1 X.1.2.1 dX9_totalled_1 rfl (lv_at hl 1 rfl) ?_
  refine co_X9_requireColumn X hp1 (kc := 3) rmL_ok rm_c (by decide) hR hS kw_959 hl.1 dX9_totalled_2 (Nat.le_of_ble_eq_true rfl) hw (fun M1 H locs hw hR hS => ?_)
  refine lv_aload_n X.1.1 X.1.2.1 dX9_totalled_5 rfl (lv_at hl 0 rfl) ?_
  refine sa_const X.1 dX9_totalled_6 ?_
  refine pt_10_10 X hR hS (okf X.2.2.1 rfl) (Or.inr rfl) kw_342 dX9_totalled_7 (fun H locs hR hS => ?_)
  obtain ⟨M2, e3⟩ : ∃ z : Mem, z = up M1 10 0 10 1 := ⟨_, rfl⟩
  rw [← e3] at hR
  have hw := hw M2 e3
  refine lv_aload_n X.1.1 X.1.2.1 dX9_totalled_10 rfl (lv_at hl 0 rfl) ?_
  refine gt_10_0 X hR (okf X.2.2.1 rfl) kw_332 dX9_totalled_11 ?_
  refine gt_4_0 X hR (okf X.2.2.1 rfl) kw_113 dX9_totalled_14 ?_
  refine lv_iload_n X.1.1 X.1.2.1 dX9_totalled_17 rfl (lv_at hl 1 rfl) ?_
  have c4 := hw.1
  have hw := hw.2
  refine ls_get (ci := 2) (by decide) (by decide) rfl X c4 (kc := 3) rmL_ok rm_c (by decide) hR hS kw_969 hl.1 dX9_totalled_18 (Nat.le_of_ble_eq_true rfl) (fun H locs o5 hR hS => ?_)
  refine ck_2 X hR o5 kw_1178 dX9_totalled_21 ?_
  refine lv_astore_n (lv' := [(2, .ref (α 2 (M2 12 0 p1))), (0, .ref (α 10 0)), (1, .int (Int32.ofInt p1))]) X.1.1 X.1.2.1 dX9_totalled_24 rfl hl (by decide) rfl (fun ls hl => ?_)
  refine lv_aload_n X.1.1 X.1.2.1 dX9_totalled_25 rfl (lv_at hl 0 rfl) ?_
  refine lv_aload_n X.1.1 X.1.2.1 dX9_totalled_26 rfl (lv_at hl 0 rfl) ?_
  refine gt_2_3 X hR o5 kw_790 dX9_totalled_27 ?_
  have r6 := hR.r 2 (M2 12 0 p1) 3
  have r7 := inR_ite (c := ¬ (M2 2 (M2 12 0 p1) 3) = 0) (inR_c (a := 0) rfl) (inR_c (a := 1) rfl)
  refine cut_j (A := ∀ v8 : Int, v8 = (if ¬ (M2 2 (M2 12 0 p1) 3) = 0 then (0 : Int) else 1) → WI p l e 3 s m args below meth c G e0 α κ B Qm H locs 38 ls [.int (Int32.ofInt v8), .ref (α 2 (M2 12 0 p1))]) (fun J9 => ?_) ?_
  · refine sa_if_ne (tgt := 37) X.1 r6 dX9_totalled_30 (by decide) (fun hc => ?_) (fun hc => ?_)
    · skip
      refine sa_const X.1 dX9_totalled_37 ?_
      exact J9 (0) (if_pos (c := ¬ (M2 2 (M2 12 0 p1) 3) = 0) hc).symm
    · skip
      refine sa_const X.1 dX9_totalled_33 ?_
      refine lv_goto (tgt := 38) X.1.1 X.1.2.1 dX9_totalled_34 (by decide) ?_
      exact J9 (1) (if_neg (c := ¬ (M2 2 (M2 12 0 p1) 3) = 0) (fun z => z hc)).symm
  intro v8 hv8
  subst hv8
  have c10 := hw.1
  have hw := hw.2
  refine pt_2_3 X hR hS o5 c10 kw_790 dX9_totalled_38 (fun H locs hR hS => ?_)
  obtain ⟨M11, e12⟩ : ∃ z : Mem, z = up M2 2 (M2 12 0 p1) 3 (if ¬ (M2 2 (M2 12 0 p1) 3) = 0 then (0 : Int) else 1) := ⟨_, rfl⟩
  rw [← e12] at hR
  have hw := hw M11 e12
  refine lv_aload_n X.1.1 X.1.2.1 dX9_totalled_41 rfl (lv_at hl 0 rfl) ?_
  refine gt_2_3 X hR o5 kw_790 dX9_totalled_42 ?_
  have r13 := hR.r 2 (M2 12 0 p1) 3
  have c14 := hw.1
  have hw := hw.2
  exact sa_zret X.1 X.2.2.2.1 X.2.2.2.2 hR hS c14 hw dX9_totalled_45
theorem mo_X9_totalled {l : Launch} {G : Gx} {e0 : Nat} {α : Ax} {κ : Nat → Int} {B : Nat} {p1 : Int} (hκ : kOK κ) (hp1 : inR p1) {M : Mem} {Qm : Int → Mem → Prop} (hw : wo_X9_totalled p1 M Qm) : CI l yX9_totalled (Cond.code yX9_totalled cX9_totalled 3 (some .boolean)) 3 G e0 α κ B [.ref (α 10 0), .int (Int32.ofInt p1)] M Qm :=
  CI.mk hκ (by decide +kernel) rfl (Nat.le_of_ble_eq_true rfl) (lv := [(0, .ref (α 10 0)), (1, .int (Int32.ofInt p1))]) rfl (fun p e s m args below meth c ls X hR hS hl => to_X9_totalled X hp1 hw _ _ hR hS ls hl)
theorem co_X9_totalled {cc : ByteArray} {nL : Nat} {own : String} {ret : Option FieldType} {idx pc : Nat} {p1 : Int} (X : CX p m c cc nL s args own G B κ meth ret) (hp1 : inR p1) {kc : Nat} {R : Room} {cells slots : Nat} (hRr : RmOK R kc) (hcel : cells ≤ R.cells ∧ slots ≤ R.slots) (hk : 3 + 1 ≤ kc) {M : Mem} {H : Heap} {locs : List Loc} (hR : Rp G e0 α κ B M H) (hS : va_S (fun q => B ≤ q) s.heap H locs) (k1 : Cond.methodLink own idx yX9_totalled ∈ gw) {ls : Array Slot} (hml : ls.size = nL) {rest : List Value} (hd : decode cc pc = .ok (.invokevirtual idx, 3)) (hrest : (rest.map fun v => v.category).sum ≤ 8) {Q : State → Prop} {Qm : Int → Mem → Prop} (hw : wo_X9_totalled p1 M Qm) (kk : ∀ (r : Int) (M1 : Mem) (H1 : Heap) (locs1 : List Loc), Qm r M1 → inR r → Rp G e0 α κ B M1 H1 → va_S (fun q => B ≤ q) s.heap H1 locs1 → W p l e R s m args below meth c H1 locs1 cells slots Q (F0 m (pc + 3) ls (.int (Int32.ofInt r) :: rest))) : W p l e R s m args below meth c H locs cells slots Q (F0 m pc ls (.int (Int32.ofInt p1) :: .ref (α 10 0) :: rest)) :=
  sa_callVI 3 (n := 1) (As := [.int (Int32.ofInt p1)]) (rest := rest) X.1 X.2.1 hR hS (mo_X9_totalled X.2.2.1 hp1 hw) k1 kw_1175 kw_1176 kw_38 kw_1177 ⟨rfl, by decide +kernel, by decide +kernel, by decide +kernel⟩ (rm_ok hRr hk (by decide)) (rc_10 X hR (okf X.2.2.1 rfl)) rfl rfl hrest hml hd hcel kk
def wo_X9_hide_37 (p1 : Int) (Qm : Int → Mem → Prop) (M : Mem) : Prop := ∀ M5 : Mem, M5 = up M 10 0 10 1 → wp_X3_hideOrShow p1 M5 fun (x8 : Int) (M7 : Mem) => (bit x8) ∧ Qm x8 M7
def wo_X9_hide (p1 : Int) (M : Mem) (Qm : Int → Mem → Prop) : Prop := wo_X9_requireColumn p1 M fun (M1 : Mem) => wp_X3_isShown p1 M1 fun (x3 : Int) (M2 : Mem) => ((x3 = 0 → wo_X9_hide_37 p1 Qm M2) ∧ (¬ x3 = 0 → wp_X3_countShownColumns M2 fun (x12 : Int) (M11 : Mem) => ((¬ x12 = 1 → wo_X9_hide_37 p1 Qm M11) ∧ (x12 = 1 → False))))
set_option maxHeartbeats 4000000 in
set_option maxRecDepth 100000 in
theorem to_X9_hide_37 {p1 : Int} (X : CX p m c cX9_hide 2 s args RX9 G B κ meth (some .boolean)) (hp1 : inR p1) {Qm : Int → Mem → Prop} : ∀ M : Mem, wo_X9_hide_37 p1 Qm M → ∀ (H : Heap) (locs : List Loc), Rp G e0 α κ B M H → va_S (fun q => B ≤ q) s.heap H locs → ∀ (ls : Array Slot), lv_has ls 2 [(0, .ref (α 10 0)), (1, .int (Int32.ofInt p1))] → WI p l e 4 s m args below meth c G e0 α κ B Qm H locs 37 ls [] := by
  intro M hw H locs hR hS ls hl
  have hw : ∀ M5 : Mem, M5 = up M 10 0 10 1 → wp_X3_hideOrShow p1 M5 fun (x8 : Int) (M7 : Mem) => (bit x8) ∧ Qm x8 M7 := hw
  refine lv_aload_n X.1.1 X.1.2.1 dX9_hide_37 rfl (lv_at hl 0 rfl) ?_
  refine sa_const X.1 dX9_hide_38 ?_
  refine pt_10_10 X hR hS (okf X.2.2.1 rfl) (Or.inr rfl) kw_342 dX9_hide_39 (fun H locs hR hS => ?_)
  obtain ⟨M5, e6⟩ : ∃ z : Mem, z = up M 10 0 10 1 := ⟨_, rfl⟩
  rw [← e6] at hR
  have hw := hw M5 e6
  refine lv_aload_n X.1.1 X.1.2.1 dX9_hide_42 rfl (lv_at hl 0 rfl) ?_
  refine gt_10_0 X hR (okf X.2.2.1 rfl) kw_332 dX9_hide_43 ?_
  refine lv_iload_n X.1.1 X.1.2.1 dX9_hide_46 rfl (lv_at hl 1 rfl) ?_
  refine cs_X3_hideOrShow X hp1 (kc := 4) rmL_ok rm_c (by decide) hR hS kw_1192 hl.1 dX9_hide_47 (Nat.le_of_ble_eq_true rfl) hw (fun x8 M7 H locs hw r9 hR hS => ?_)
  have c10 := hw.1
  have hw := hw.2
  exact sa_zret X.1 X.2.2.2.1 X.2.2.2.2 hR hS c10 hw dX9_hide_50
set_option maxHeartbeats 4000000 in
set_option maxRecDepth 100000 in
theorem to_X9_hide {p1 : Int} (X : CX p m c cX9_hide 2 s args RX9 G B κ meth (some .boolean)) (hp1 : inR p1) {M : Mem} {Qm : Int → Mem → Prop} (hw : wo_X9_hide p1 M Qm) (H : Heap) (locs : List Loc) (hR : Rp G e0 α κ B M H) (hS : va_S (fun q => B ≤ q) s.heap H locs) (ls : Array Slot) (hl : lv_has ls 2 [(0, .ref (α 10 0)), (1, .int (Int32.ofInt p1))]) : WI p l e 4 s m args below meth c G e0 α κ B Qm H locs 0 ls [] := by
  have hw : wo_X9_requireColumn p1 M fun (M1 : Mem) => wp_X3_isShown p1 M1 fun (x3 : Int) (M2 : Mem) => ((x3 = 0 → wo_X9_hide_37 p1 Qm M2) ∧ (¬ x3 = 0 → wp_X3_countShownColumns M2 fun (x12 : Int) (M11 : Mem) => ((¬ x12 = 1 → wo_X9_hide_37 p1 Qm M11) ∧ (x12 = 1 → False)))) := hw
  refine lv_aload_n X.1.1 X.1.2.1 dX9_hide_0 rfl (lv_at hl 0 rfl) ?_
  refine lv_iload_n X.1.1 X.1.2.1 dX9_hide_1 rfl (lv_at hl 1 rfl) ?_
  refine co_X9_requireColumn X hp1 (kc := 4) rmL_ok rm_c (by decide) hR hS kw_959 hl.1 dX9_hide_2 (Nat.le_of_ble_eq_true rfl) hw (fun M1 H locs hw hR hS => ?_)
  refine lv_aload_n X.1.1 X.1.2.1 dX9_hide_5 rfl (lv_at hl 0 rfl) ?_
  refine gt_10_0 X hR (okf X.2.2.1 rfl) kw_332 dX9_hide_6 ?_
  refine lv_iload_n X.1.1 X.1.2.1 dX9_hide_9 rfl (lv_at hl 1 rfl) ?_
  refine cs_X3_isShown X hp1 (kc := 4) rmL_ok rm_c (by decide) hR hS kw_1189 hl.1 dX9_hide_10 (Nat.le_of_ble_eq_true rfl) hw (fun x3 M2 H locs hw r4 hR hS => ?_)
  refine sa_if_eq (tgt := 37) X.1 r4 dX9_hide_13 (by decide) (fun hc => ?_) (fun hc => ?_)
  · have hw := hw.1 hc
    exact to_X9_hide_37 X hp1 _ hw _ _ hR hS _ (lv_sub hl [0, 1] rfl)
  · have hw := hw.2 hc
    refine lv_aload_n X.1.1 X.1.2.1 dX9_hide_16 rfl (lv_at hl 0 rfl) ?_
    refine gt_10_0 X hR (okf X.2.2.1 rfl) kw_332 dX9_hide_17 ?_
    refine cs_X3_countShownColumns X  (kc := 4) rmL_ok rm_c (by decide) hR hS kw_1190 hl.1 dX9_hide_20 (Nat.le_of_ble_eq_true rfl) hw (fun x12 M11 H locs hw r13 hR hS => ?_)
    refine sa_const X.1 dX9_hide_23 ?_
    refine sa_icmp_ne (tgt := 37) X.1 r13 (inR_c (a := 1) rfl) dX9_hide_24 (by decide) (fun hc => ?_) (fun hc => ?_)
    · have hw := hw.1 hc
      exact to_X9_hide_37 X hp1 _ hw _ _ hR hS _ (lv_sub hl [0, 1] rfl)
    · have hw := hw.2 hc
      exact hw.elim
theorem mo_X9_hide {l : Launch} {G : Gx} {e0 : Nat} {α : Ax} {κ : Nat → Int} {B : Nat} {p1 : Int} (hκ : kOK κ) (hp1 : inR p1) {M : Mem} {Qm : Int → Mem → Prop} (hw : wo_X9_hide p1 M Qm) : CI l yX9_hide (Cond.code yX9_hide cX9_hide 2 (some .boolean)) 4 G e0 α κ B [.ref (α 10 0), .int (Int32.ofInt p1)] M Qm :=
  CI.mk hκ (by decide +kernel) rfl (Nat.le_of_ble_eq_true rfl) (lv := [(0, .ref (α 10 0)), (1, .int (Int32.ofInt p1))]) rfl (fun p e s m args below meth c ls X hR hS hl => to_X9_hide X hp1 hw _ _ hR hS ls hl)
theorem co_X9_hide {cc : ByteArray} {nL : Nat} {own : String} {ret : Option FieldType} {idx pc : Nat} {p1 : Int} (X : CX p m c cc nL s args own G B κ meth ret) (hp1 : inR p1) {kc : Nat} {R : Room} {cells slots : Nat} (hRr : RmOK R kc) (hcel : cells ≤ R.cells ∧ slots ≤ R.slots) (hk : 4 + 1 ≤ kc) {M : Mem} {H : Heap} {locs : List Loc} (hR : Rp G e0 α κ B M H) (hS : va_S (fun q => B ≤ q) s.heap H locs) (k1 : Cond.methodLink own idx yX9_hide ∈ gw) {ls : Array Slot} (hml : ls.size = nL) {rest : List Value} (hd : decode cc pc = .ok (.invokevirtual idx, 3)) (hrest : (rest.map fun v => v.category).sum ≤ 8) {Q : State → Prop} {Qm : Int → Mem → Prop} (hw : wo_X9_hide p1 M Qm) (kk : ∀ (r : Int) (M1 : Mem) (H1 : Heap) (locs1 : List Loc), Qm r M1 → inR r → Rp G e0 α κ B M1 H1 → va_S (fun q => B ≤ q) s.heap H1 locs1 → W p l e R s m args below meth c H1 locs1 cells slots Q (F0 m (pc + 3) ls (.int (Int32.ofInt r) :: rest))) : W p l e R s m args below meth c H locs cells slots Q (F0 m pc ls (.int (Int32.ofInt p1) :: .ref (α 10 0) :: rest)) :=
  sa_callVI 4 (n := 1) (As := [.int (Int32.ofInt p1)]) (rest := rest) X.1 X.2.1 hR hS (mo_X9_hide X.2.2.1 hp1 hw) k1 kw_1186 kw_1187 kw_38 kw_1188 ⟨rfl, by decide +kernel, by decide +kernel, by decide +kernel⟩ (rm_ok hRr hk (by decide)) (rc_10 X hR (okf X.2.2.1 rfl)) rfl rfl hrest hml hd hcel kk
def wo_X9_sort (p1 : Int) (p2 : Int) (M : Mem) (Qm : Int → Mem → Prop) : Prop := wo_X9_requireColumn p1 M fun (M1 : Mem) => wp_X3_hasBodyCellOfSeveralRows M1 fun (x3 : Int) (M2 : Mem) => ((x3 = 0 → ∀ M5 : Mem, M5 = up M2 10 0 10 1 → wp_X3_putBodyInOrder p1 p2 M5 fun (M7 : Mem) => wp_X3_numberBodyAnew M7 fun (x9 : Int) (M8 : Mem) => Qm x9 M8) ∧ (¬ x3 = 0 → False))
set_option maxHeartbeats 4000000 in
set_option maxRecDepth 100000 in
theorem to_X9_sort {p1 : Int} {p2 : Int} (X : CX p m c cX9_sort 3 s args RX9 G B κ meth (some .int)) (hp1 : inR p1) (hp2 : inR p2) {M : Mem} {Qm : Int → Mem → Prop} (hw : wo_X9_sort p1 p2 M Qm) (H : Heap) (locs : List Loc) (hR : Rp G e0 α κ B M H) (hS : va_S (fun q => B ≤ q) s.heap H locs) (ls : Array Slot) (hl : lv_has ls 3 [(0, .ref (α 10 0)), (1, .int (Int32.ofInt p1)), (2, .int (Int32.ofInt p2))]) : WI p l e 6 s m args below meth c G e0 α κ B Qm H locs 0 ls [] := by
  have hw : wo_X9_requireColumn p1 M fun (M1 : Mem) => wp_X3_hasBodyCellOfSeveralRows M1 fun (x3 : Int) (M2 : Mem) => ((x3 = 0 → ∀ M5 : Mem, M5 = up M2 10 0 10 1 → wp_X3_putBodyInOrder p1 p2 M5 fun (M7 : Mem) => wp_X3_numberBodyAnew M7 fun (x9 : Int) (M8 : Mem) => Qm x9 M8) ∧ (¬ x3 = 0 → False)) := hw
  refine lv_aload_n X.1.1 X.1.2.1 dX9_sort_0 rfl (lv_at hl 0 rfl) ?_
  refine lv_iload_n X.1.1 X.1.2.1 dX9_sort_1 rfl (lv_at hl 1 rfl) ?_
  refine co_X9_requireColumn X hp1 (kc := 6) rmL_ok rm_c (by decide) hR hS kw_959 hl.1 dX9_sort_2 (Nat.le_of_ble_eq_true rfl) hw (fun M1 H locs hw hR hS => ?_)
  refine lv_aload_n X.1.1 X.1.2.1 dX9_sort_5 rfl (lv_at hl 0 rfl) ?_
  refine gt_10_0 X hR (okf X.2.2.1 rfl) kw_332 dX9_sort_6 ?_
  refine cs_X3_hasBodyCellOfSeveralRows X  (kc := 6) rmL_ok rm_c (by decide) hR hS kw_1136 hl.1 dX9_sort_9 (Nat.le_of_ble_eq_true rfl) hw (fun x3 M2 H locs hw r4 hR hS => ?_)
  refine sa_if_eq (tgt := 25) X.1 r4 dX9_sort_12 (by decide) (fun hc => ?_) (fun hc => ?_)
  · have hw := hw.1 hc
    refine lv_aload_n X.1.1 X.1.2.1 dX9_sort_25 rfl (lv_at hl 0 rfl) ?_
    refine sa_const X.1 dX9_sort_26 ?_
    refine pt_10_10 X hR hS (okf X.2.2.1 rfl) (Or.inr rfl) kw_342 dX9_sort_27 (fun H locs hR hS => ?_)
    obtain ⟨M5, e6⟩ : ∃ z : Mem, z = up M2 10 0 10 1 := ⟨_, rfl⟩
    rw [← e6] at hR
    have hw := hw M5 e6
    refine lv_aload_n X.1.1 X.1.2.1 dX9_sort_30 rfl (lv_at hl 0 rfl) ?_
    refine gt_10_0 X hR (okf X.2.2.1 rfl) kw_332 dX9_sort_31 ?_
    refine lv_iload_n X.1.1 X.1.2.1 dX9_sort_34 rfl (lv_at hl 1 rfl) ?_
    refine lv_iload_n X.1.1 X.1.2.1 dX9_sort_35 rfl (lv_at hl 2 rfl) ?_
    refine cs_X3_putBodyInOrder X hp1 hp2 (kc := 6) rmL_ok rm_c (by decide) hR hS kw_1141 hl.1 dX9_sort_36 (Nat.le_of_ble_eq_true rfl) hw (fun M7 H locs hw hR hS => ?_)
    refine lv_aload_n X.1.1 X.1.2.1 dX9_sort_39 rfl (lv_at hl 0 rfl) ?_
    refine gt_10_0 X hR (okf X.2.2.1 rfl) kw_332 dX9_sort_40 ?_
    refine cs_X3_numberBodyAnew X  (kc := 6) rmL_ok rm_c (by decide) hR hS kw_1158 hl.1 dX9_sort_43 (Nat.le_of_ble_eq_true rfl) hw (fun x9 M8 H locs hw r10 hR hS => ?_)
    exact sa_iret X.1 X.2.2.2.1 X.2.2.2.2 hR hS r10 hw dX9_sort_46
  · have hw := hw.2 hc
    exact hw.elim
theorem mo_X9_sort {l : Launch} {G : Gx} {e0 : Nat} {α : Ax} {κ : Nat → Int} {B : Nat} {p1 : Int} {p2 : Int} (hκ : kOK κ) (hp1 : inR p1) (hp2 : inR p2) {M : Mem} {Qm : Int → Mem → Prop} (hw : wo_X9_sort p1 p2 M Qm) : CI l yX9_sort (Cond.code yX9_sort cX9_sort 3 (some .int)) 6 G e0 α κ B [.ref (α 10 0), .int (Int32.ofInt p1), .int (Int32.ofInt p2)] M Qm :=
  CI.mk hκ (by decide +kernel) rfl (Nat.le_of_ble_eq_true rfl) (lv := [(0, .ref (α 10 0)), (1, .int (Int32.ofInt p1)), (2, .int (Int32.ofInt p2))]) rfl (fun p e s m args below meth c ls X hR hS hl => to_X9_sort X hp1 hp2 hw _ _ hR hS ls hl)
theorem co_X9_sort {cc : ByteArray} {nL : Nat} {own : String} {ret : Option FieldType} {idx pc : Nat} {p1 : Int} {p2 : Int} (X : CX p m c cc nL s args own G B κ meth ret) (hp1 : inR p1) (hp2 : inR p2) {kc : Nat} {R : Room} {cells slots : Nat} (hRr : RmOK R kc) (hcel : cells ≤ R.cells ∧ slots ≤ R.slots) (hk : 6 + 1 ≤ kc) {M : Mem} {H : Heap} {locs : List Loc} (hR : Rp G e0 α κ B M H) (hS : va_S (fun q => B ≤ q) s.heap H locs) (k1 : Cond.methodLink own idx yX9_sort ∈ gw) {ls : Array Slot} (hml : ls.size = nL) {rest : List Value} (hd : decode cc pc = .ok (.invokevirtual idx, 3)) (hrest : (rest.map fun v => v.category).sum ≤ 8) {Q : State → Prop} {Qm : Int → Mem → Prop} (hw : wo_X9_sort p1 p2 M Qm) (kk : ∀ (r : Int) (M1 : Mem) (H1 : Heap) (locs1 : List Loc), Qm r M1 → inR r → Rp G e0 α κ B M1 H1 → va_S (fun q => B ≤ q) s.heap H1 locs1 → W p l e R s m args below meth c H1 locs1 cells slots Q (F0 m (pc + 3) ls (.int (Int32.ofInt r) :: rest))) : W p l e R s m args below meth c H locs cells slots Q (F0 m pc ls (.int (Int32.ofInt p2) :: .int (Int32.ofInt p1) :: .ref (α 10 0) :: rest)) :=
  sa_callVI 6 (n := 2) (As := [.int (Int32.ofInt p1), .int (Int32.ofInt p2)]) (rest := rest) X.1 X.2.1 hR hS (mo_X9_sort X.2.2.1 hp1 hp2 hw) k1 kw_1133 kw_1134 kw_38 kw_1135 ⟨rfl, by decide +kernel, by decide +kernel, by decide +kernel⟩ (rm_ok hRr hk (by decide)) (rc_10 X hR (okf X.2.2.1 rfl)) rfl rfl hrest hml hd hcel kk
def wo_X9_least (p1 : Int) (M : Mem) (Qm : Int → Mem → Prop) : Prop := wo_X9_requireColumn p1 M fun (M1 : Mem) => wp_X9_refresh M1 fun (M2 : Mem) => (0 ≤ p1 ∧ p1 < 6) ∧ Qm (M2 49 0 p1) M2
set_option maxHeartbeats 4000000 in
set_option maxRecDepth 100000 in
theorem to_X9_least {p1 : Int} (X : CX p m c cX9_least 2 s args RX9 G B κ meth (some .int)) (hp1 : inR p1) {M : Mem} {Qm : Int → Mem → Prop} (hw : wo_X9_least p1 M Qm) (H : Heap) (locs : List Loc) (hR : Rp G e0 α κ B M H) (hS : va_S (fun q => B ≤ q) s.heap H locs) (ls : Array Slot) (hl : lv_has ls 2 [(0, .ref (α 10 0)), (1, .int (Int32.ofInt p1))]) : WI p l e 8 s m args below meth c G e0 α κ B Qm H locs 0 ls [] := by
  have hw : wo_X9_requireColumn p1 M fun (M1 : Mem) => wp_X9_refresh M1 fun (M2 : Mem) => (0 ≤ p1 ∧ p1 < 6) ∧ Qm (M2 49 0 p1) M2 := hw
  refine lv_aload_n X.1.1 X.1.2.1 dX9_least_0 rfl (lv_at hl 0 rfl) ?_
  refine lv_iload_n X.1.1 X.1.2.1 dX9_least_1 rfl (lv_at hl 1 rfl) ?_
  refine co_X9_requireColumn X hp1 (kc := 8) rmL_ok rm_c (by decide) hR hS kw_959 hl.1 dX9_least_2 (Nat.le_of_ble_eq_true rfl) hw (fun M1 H locs hw hR hS => ?_)
  refine lv_aload_n X.1.1 X.1.2.1 dX9_least_5 rfl (lv_at hl 0 rfl) ?_
  refine cs_X9_refresh X  (kc := 8) rmL_ok rm_c (by decide) hR hS kw_370 hl.1 dX9_least_6 (Nat.le_of_ble_eq_true rfl) hw (fun M2 H locs hw hR hS => ?_)
  refine lv_aload_n X.1.1 X.1.2.1 dX9_least_9 rfl (lv_at hl 0 rfl) ?_
  refine gt_10_1 X hR (okf X.2.2.1 rfl) kw_333 dX9_least_10 ?_
  refine gt_9_1 X hR (okp X.2.2.1 rfl (by decide)) kw_157 dX9_least_13 ?_
  refine lv_iload_n X.1.1 X.1.2.1 dX9_least_16 rfl (lv_at hl 1 rfl) ?_
  have c3 := hw.1
  have hw := hw.2
  refine ra_49 X hR (okp X.2.2.1 rfl (pr_9 X.2.2.1 (okp X.2.2.1 rfl (by decide)))) c3 dX9_least_17 ?_
  have r4 := hR.r 49 0 p1
  exact sa_iret X.1 X.2.2.2.1 X.2.2.2.2 hR hS r4 hw dX9_least_18
theorem mo_X9_least {l : Launch} {G : Gx} {e0 : Nat} {α : Ax} {κ : Nat → Int} {B : Nat} {p1 : Int} (hκ : kOK κ) (hp1 : inR p1) {M : Mem} {Qm : Int → Mem → Prop} (hw : wo_X9_least p1 M Qm) : CI l yX9_least (Cond.code yX9_least cX9_least 2 (some .int)) 8 G e0 α κ B [.ref (α 10 0), .int (Int32.ofInt p1)] M Qm :=
  CI.mk hκ (by decide +kernel) rfl (Nat.le_of_ble_eq_true rfl) (lv := [(0, .ref (α 10 0)), (1, .int (Int32.ofInt p1))]) rfl (fun p e s m args below meth c ls X hR hS hl => to_X9_least X hp1 hw _ _ hR hS ls hl)
theorem co_X9_least {cc : ByteArray} {nL : Nat} {own : String} {ret : Option FieldType} {idx pc : Nat} {p1 : Int} (X : CX p m c cc nL s args own G B κ meth ret) (hp1 : inR p1) {kc : Nat} {R : Room} {cells slots : Nat} (hRr : RmOK R kc) (hcel : cells ≤ R.cells ∧ slots ≤ R.slots) (hk : 8 + 1 ≤ kc) {M : Mem} {H : Heap} {locs : List Loc} (hR : Rp G e0 α κ B M H) (hS : va_S (fun q => B ≤ q) s.heap H locs) (k1 : Cond.methodLink own idx yX9_least ∈ gw) {ls : Array Slot} (hml : ls.size = nL) {rest : List Value} (hd : decode cc pc = .ok (.invokevirtual idx, 3)) (hrest : (rest.map fun v => v.category).sum ≤ 8) {Q : State → Prop} {Qm : Int → Mem → Prop} (hw : wo_X9_least p1 M Qm) (kk : ∀ (r : Int) (M1 : Mem) (H1 : Heap) (locs1 : List Loc), Qm r M1 → inR r → Rp G e0 α κ B M1 H1 → va_S (fun q => B ≤ q) s.heap H1 locs1 → W p l e R s m args below meth c H1 locs1 cells slots Q (F0 m (pc + 3) ls (.int (Int32.ofInt r) :: rest))) : W p l e R s m args below meth c H locs cells slots Q (F0 m pc ls (.int (Int32.ofInt p1) :: .ref (α 10 0) :: rest)) :=
  sa_callVI 8 (n := 1) (As := [.int (Int32.ofInt p1)]) (rest := rest) X.1 X.2.1 hR hS (mo_X9_least X.2.2.1 hp1 hw) k1 kw_1261 kw_1262 kw_38 kw_1263 ⟨rfl, by decide +kernel, by decide +kernel, by decide +kernel⟩ (rm_ok hRr hk (by decide)) (rc_10 X hR (okf X.2.2.1 rfl)) rfl rfl hrest hml hd hcel kk
def wo_X9_most (p1 : Int) (M : Mem) (Qm : Int → Mem → Prop) : Prop := wo_X9_requireColumn p1 M fun (M1 : Mem) => wp_X9_refresh M1 fun (M2 : Mem) => (0 ≤ p1 ∧ p1 < 6) ∧ Qm (M2 50 0 p1) M2
set_option maxHeartbeats 4000000 in
set_option maxRecDepth 100000 in
theorem to_X9_most {p1 : Int} (X : CX p m c cX9_most 2 s args RX9 G B κ meth (some .int)) (hp1 : inR p1) {M : Mem} {Qm : Int → Mem → Prop} (hw : wo_X9_most p1 M Qm) (H : Heap) (locs : List Loc) (hR : Rp G e0 α κ B M H) (hS : va_S (fun q => B ≤ q) s.heap H locs) (ls : Array Slot) (hl : lv_has ls 2 [(0, .ref (α 10 0)), (1, .int (Int32.ofInt p1))]) : WI p l e 8 s m args below meth c G e0 α κ B Qm H locs 0 ls [] := by
  have hw : wo_X9_requireColumn p1 M fun (M1 : Mem) => wp_X9_refresh M1 fun (M2 : Mem) => (0 ≤ p1 ∧ p1 < 6) ∧ Qm (M2 50 0 p1) M2 := hw
  refine lv_aload_n X.1.1 X.1.2.1 dX9_most_0 rfl (lv_at hl 0 rfl) ?_
  refine lv_iload_n X.1.1 X.1.2.1 dX9_most_1 rfl (lv_at hl 1 rfl) ?_
  refine co_X9_requireColumn X hp1 (kc := 8) rmL_ok rm_c (by decide) hR hS kw_959 hl.1 dX9_most_2 (Nat.le_of_ble_eq_true rfl) hw (fun M1 H locs hw hR hS => ?_)
  refine lv_aload_n X.1.1 X.1.2.1 dX9_most_5 rfl (lv_at hl 0 rfl) ?_
  refine cs_X9_refresh X  (kc := 8) rmL_ok rm_c (by decide) hR hS kw_370 hl.1 dX9_most_6 (Nat.le_of_ble_eq_true rfl) hw (fun M2 H locs hw hR hS => ?_)
  refine lv_aload_n X.1.1 X.1.2.1 dX9_most_9 rfl (lv_at hl 0 rfl) ?_
  refine gt_10_1 X hR (okf X.2.2.1 rfl) kw_333 dX9_most_10 ?_
  refine gt_9_2 X hR (okp X.2.2.1 rfl (by decide)) kw_159 dX9_most_13 ?_
  refine lv_iload_n X.1.1 X.1.2.1 dX9_most_16 rfl (lv_at hl 1 rfl) ?_
  have c3 := hw.1
  have hw := hw.2
  refine ra_50 X hR (okp X.2.2.1 rfl (pr_9 X.2.2.1 (okp X.2.2.1 rfl (by decide)))) c3 dX9_most_17 ?_
  have r4 := hR.r 50 0 p1
  exact sa_iret X.1 X.2.2.2.1 X.2.2.2.2 hR hS r4 hw dX9_most_18
theorem mo_X9_most {l : Launch} {G : Gx} {e0 : Nat} {α : Ax} {κ : Nat → Int} {B : Nat} {p1 : Int} (hκ : kOK κ) (hp1 : inR p1) {M : Mem} {Qm : Int → Mem → Prop} (hw : wo_X9_most p1 M Qm) : CI l yX9_most (Cond.code yX9_most cX9_most 2 (some .int)) 8 G e0 α κ B [.ref (α 10 0), .int (Int32.ofInt p1)] M Qm :=
  CI.mk hκ (by decide +kernel) rfl (Nat.le_of_ble_eq_true rfl) (lv := [(0, .ref (α 10 0)), (1, .int (Int32.ofInt p1))]) rfl (fun p e s m args below meth c ls X hR hS hl => to_X9_most X hp1 hw _ _ hR hS ls hl)
theorem co_X9_most {cc : ByteArray} {nL : Nat} {own : String} {ret : Option FieldType} {idx pc : Nat} {p1 : Int} (X : CX p m c cc nL s args own G B κ meth ret) (hp1 : inR p1) {kc : Nat} {R : Room} {cells slots : Nat} (hRr : RmOK R kc) (hcel : cells ≤ R.cells ∧ slots ≤ R.slots) (hk : 8 + 1 ≤ kc) {M : Mem} {H : Heap} {locs : List Loc} (hR : Rp G e0 α κ B M H) (hS : va_S (fun q => B ≤ q) s.heap H locs) (k1 : Cond.methodLink own idx yX9_most ∈ gw) {ls : Array Slot} (hml : ls.size = nL) {rest : List Value} (hd : decode cc pc = .ok (.invokevirtual idx, 3)) (hrest : (rest.map fun v => v.category).sum ≤ 8) {Q : State → Prop} {Qm : Int → Mem → Prop} (hw : wo_X9_most p1 M Qm) (kk : ∀ (r : Int) (M1 : Mem) (H1 : Heap) (locs1 : List Loc), Qm r M1 → inR r → Rp G e0 α κ B M1 H1 → va_S (fun q => B ≤ q) s.heap H1 locs1 → W p l e R s m args below meth c H1 locs1 cells slots Q (F0 m (pc + 3) ls (.int (Int32.ofInt r) :: rest))) : W p l e R s m args below meth c H locs cells slots Q (F0 m pc ls (.int (Int32.ofInt p1) :: .ref (α 10 0) :: rest)) :=
  sa_callVI 8 (n := 1) (As := [.int (Int32.ofInt p1)]) (rest := rest) X.1 X.2.1 hR hS (mo_X9_most X.2.2.1 hp1 hw) k1 kw_1265 kw_1266 kw_38 kw_1267 ⟨rfl, by decide +kernel, by decide +kernel, by decide +kernel⟩ (rm_ok hRr hk (by decide)) (rc_10 X hR (okf X.2.2.1 rfl)) rfl rfl hrest hml hd hcel kk
def wo_X9_width (p1 : Int) (M : Mem) (Qm : Int → Mem → Prop) : Prop := wo_X9_requireColumn p1 M fun (M1 : Mem) => wp_X9_refresh M1 fun (M2 : Mem) => (0 ≤ p1 ∧ p1 < 6) ∧ Qm (M2 51 0 p1) M2
set_option maxHeartbeats 4000000 in
set_option maxRecDepth 100000 in
theorem to_X9_width {p1 : Int} (X : CX p m c cX9_width 2 s args RX9 G B κ meth (some .int)) (hp1 : inR p1) {M : Mem} {Qm : Int → Mem → Prop} (hw : wo_X9_width p1 M Qm) (H : Heap) (locs : List Loc) (hR : Rp G e0 α κ B M H) (hS : va_S (fun q => B ≤ q) s.heap H locs) (ls : Array Slot) (hl : lv_has ls 2 [(0, .ref (α 10 0)), (1, .int (Int32.ofInt p1))]) : WI p l e 8 s m args below meth c G e0 α κ B Qm H locs 0 ls [] := by
  have hw : wo_X9_requireColumn p1 M fun (M1 : Mem) => wp_X9_refresh M1 fun (M2 : Mem) => (0 ≤ p1 ∧ p1 < 6) ∧ Qm (M2 51 0 p1) M2 := hw
  refine lv_aload_n X.1.1 X.1.2.1 dX9_width_0 rfl (lv_at hl 0 rfl) ?_
  refine lv_iload_n X.1.1 X.1.2.1 dX9_width_1 rfl (lv_at hl 1 rfl) ?_
  refine co_X9_requireColumn X hp1 (kc := 8) rmL_ok rm_c (by decide) hR hS kw_959 hl.1 dX9_width_2 (Nat.le_of_ble_eq_true rfl) hw (fun M1 H locs hw hR hS => ?_)
  refine lv_aload_n X.1.1 X.1.2.1 dX9_width_5 rfl (lv_at hl 0 rfl) ?_
  refine cs_X9_refresh X  (kc := 8) rmL_ok rm_c (by decide) hR hS kw_370 hl.1 dX9_width_6 (Nat.le_of_ble_eq_true rfl) hw (fun M2 H locs hw hR hS => ?_)
  refine lv_aload_n X.1.1 X.1.2.1 dX9_width_9 rfl (lv_at hl 0 rfl) ?_
  refine gt_10_1 X hR (okf X.2.2.1 rfl) kw_333 dX9_width_10 ?_
  refine gt_9_3 X hR (okp X.2.2.1 rfl (by decide)) kw_162 dX9_width_13 ?_
  refine lv_iload_n X.1.1 X.1.2.1 dX9_width_16 rfl (lv_at hl 1 rfl) ?_
  have c3 := hw.1
  have hw := hw.2
  refine ra_51 X hR (okp X.2.2.1 rfl (pr_9 X.2.2.1 (okp X.2.2.1 rfl (by decide)))) c3 dX9_width_17 ?_
  have r4 := hR.r 51 0 p1
  exact sa_iret X.1 X.2.2.2.1 X.2.2.2.2 hR hS r4 hw dX9_width_18
theorem mo_X9_width {l : Launch} {G : Gx} {e0 : Nat} {α : Ax} {κ : Nat → Int} {B : Nat} {p1 : Int} (hκ : kOK κ) (hp1 : inR p1) {M : Mem} {Qm : Int → Mem → Prop} (hw : wo_X9_width p1 M Qm) : CI l yX9_width (Cond.code yX9_width cX9_width 2 (some .int)) 8 G e0 α κ B [.ref (α 10 0), .int (Int32.ofInt p1)] M Qm :=
  CI.mk hκ (by decide +kernel) rfl (Nat.le_of_ble_eq_true rfl) (lv := [(0, .ref (α 10 0)), (1, .int (Int32.ofInt p1))]) rfl (fun p e s m args below meth c ls X hR hS hl => to_X9_width X hp1 hw _ _ hR hS ls hl)
theorem co_X9_width {cc : ByteArray} {nL : Nat} {own : String} {ret : Option FieldType} {idx pc : Nat} {p1 : Int} (X : CX p m c cc nL s args own G B κ meth ret) (hp1 : inR p1) {kc : Nat} {R : Room} {cells slots : Nat} (hRr : RmOK R kc) (hcel : cells ≤ R.cells ∧ slots ≤ R.slots) (hk : 8 + 1 ≤ kc) {M : Mem} {H : Heap} {locs : List Loc} (hR : Rp G e0 α κ B M H) (hS : va_S (fun q => B ≤ q) s.heap H locs) (k1 : Cond.methodLink own idx yX9_width ∈ gw) {ls : Array Slot} (hml : ls.size = nL) {rest : List Value} (hd : decode cc pc = .ok (.invokevirtual idx, 3)) (hrest : (rest.map fun v => v.category).sum ≤ 8) {Q : State → Prop} {Qm : Int → Mem → Prop} (hw : wo_X9_width p1 M Qm) (kk : ∀ (r : Int) (M1 : Mem) (H1 : Heap) (locs1 : List Loc), Qm r M1 → inR r → Rp G e0 α κ B M1 H1 → va_S (fun q => B ≤ q) s.heap H1 locs1 → W p l e R s m args below meth c H1 locs1 cells slots Q (F0 m (pc + 3) ls (.int (Int32.ofInt r) :: rest))) : W p l e R s m args below meth c H locs cells slots Q (F0 m pc ls (.int (Int32.ofInt p1) :: .ref (α 10 0) :: rest)) :=
  sa_callVI 8 (n := 1) (As := [.int (Int32.ofInt p1)]) (rest := rest) X.1 X.2.1 hR hS (mo_X9_width X.2.2.1 hp1 hw) k1 kw_1269 kw_1270 kw_38 kw_1271 ⟨rfl, by decide +kernel, by decide +kernel, by decide +kernel⟩ (rm_ok hRr hk (by decide)) (rc_10 X hR (okf X.2.2.1 rfl)) rfl rfl hrest hml hd hcel kk
def wo_X9_point (p1 : Int) (M : Mem) (Qm : Int → Mem → Prop) : Prop := wo_X9_requireCell p1 M fun (M1 : Mem) => (0 ≤ p1 ∧ p1 < M1 14 0 (-1)) ∧ wp_X0_showsFigure (M1 14 0 p1) M1 fun (x5 : Int) (M4 : Mem) => ((¬ x5 = 0 → wp_X9_refresh M4 fun (M7 : Mem) => wp_X8_pointOf 0 (M7 1 (M1 14 0 p1) 1) M7 fun (x10 : Int) (M9 : Mem) => Qm x10 M9) ∧ (x5 = 0 → False))
set_option maxHeartbeats 4000000 in
set_option maxRecDepth 100000 in
theorem to_X9_point {p1 : Int} (X : CX p m c cX9_point 3 s args RX9 G B κ meth (some .int)) (hp1 : inR p1) {M : Mem} {Qm : Int → Mem → Prop} (hw : wo_X9_point p1 M Qm) (H : Heap) (locs : List Loc) (hR : Rp G e0 α κ B M H) (hS : va_S (fun q => B ≤ q) s.heap H locs) (ls : Array Slot) (hl : lv_has ls 3 [(0, .ref (α 10 0)), (1, .int (Int32.ofInt p1))]) : WI p l e 8 s m args below meth c G e0 α κ B Qm H locs 0 ls [] := by
  have hw : wo_X9_requireCell p1 M fun (M1 : Mem) => (0 ≤ p1 ∧ p1 < M1 14 0 (-1)) ∧ wp_X0_showsFigure (M1 14 0 p1) M1 fun (x5 : Int) (M4 : Mem) => ((¬ x5 = 0 → wp_X9_refresh M4 fun (M7 : Mem) => wp_X8_pointOf 0 (M7 1 (M1 14 0 p1) 1) M7 fun (x10 : Int) (M9 : Mem) => Qm x10 M9) ∧ (x5 = 0 → False)) := hw
  refine lv_aload_n X.1.1 X.1.2.1 dX9_point_0 rfl (lv_at hl 0 rfl) ?_
  refine lv_iload_n X.1.1 X.1.2.1 dX9_point_1 rfl (lv_at hl 1 rfl) ?_
  refine co_X9_requireCell X hp1 (kc := 8) rmL_ok rm_c (by decide) hR hS kw_1077 hl.1 dX9_point_2 (Nat.le_of_ble_eq_true rfl) hw (fun M1 H locs hw hR hS => ?_)
  refine lv_aload_n X.1.1 X.1.2.1 dX9_point_5 rfl (lv_at hl 0 rfl) ?_
  refine gt_10_0 X hR (okf X.2.2.1 rfl) kw_332 dX9_point_6 ?_
  refine gt_4_2 X hR (okf X.2.2.1 rfl) kw_121 dX9_point_9 ?_
  refine lv_iload_n X.1.1 X.1.2.1 dX9_point_12 rfl (lv_at hl 1 rfl) ?_
  have c2 := hw.1
  have hw := hw.2
  refine ls_get (ci := 1) (by decide) (by decide) rfl X c2 (kc := 8) rmL_ok rm_c (by decide) hR hS kw_969 hl.1 dX9_point_13 (Nat.le_of_ble_eq_true rfl) (fun H locs o3 hR hS => ?_)
  refine ck_1 X hR o3 kw_976 dX9_point_16 ?_
  refine lv_astore_n (lv' := [(2, .ref (α 1 (M1 14 0 p1))), (0, .ref (α 10 0)), (1, .int (Int32.ofInt p1))]) X.1.1 X.1.2.1 dX9_point_19 rfl hl (by decide) rfl (fun ls hl => ?_)
  refine lv_aload_n X.1.1 X.1.2.1 dX9_point_20 rfl (lv_at hl 0 rfl) ?_
  refine cs_X0_showsFigure X o3 (kc := 8) rmL_ok rm_c (by decide) hR hS kw_1298 hl.1 dX9_point_21 (Nat.le_of_ble_eq_true rfl) hw (fun x5 M4 H locs hw r6 hR hS => ?_)
  refine sa_if_ne (tgt := 38) X.1 r6 dX9_point_24 (by decide) (fun hc => ?_) (fun hc => ?_)
  · have hw := hw.1 hc
    refine lv_aload_n X.1.1 X.1.2.1 dX9_point_38 rfl (lv_at hl 1 rfl) ?_
    refine cs_X9_refresh X  (kc := 8) rmL_ok rm_c (by decide) hR hS kw_370 hl.1 dX9_point_39 (Nat.le_of_ble_eq_true rfl) hw (fun M7 H locs hw hR hS => ?_)
    refine lv_aload_n X.1.1 X.1.2.1 dX9_point_42 rfl (lv_at hl 1 rfl) ?_
    refine gt_10_1 X hR (okf X.2.2.1 rfl) kw_333 dX9_point_43 ?_
    refine lv_aload_n X.1.1 X.1.2.1 dX9_point_46 rfl (lv_at hl 0 rfl) ?_
    refine gt_1_1 X hR o3 kw_990 dX9_point_47 ?_
    have r8 := hR.r 1 (M1 14 0 p1) 1
    refine cs_X8_pointOf X (okp X.2.2.1 rfl (by decide)) r8 (kc := 8) rmL_ok rm_c (by decide) hR hS kw_1300 hl.1 dX9_point_50 (Nat.le_of_ble_eq_true rfl) hw (fun x10 M9 H locs hw r11 hR hS => ?_)
    exact sa_iret X.1 X.2.2.2.1 X.2.2.2.2 hR hS r11 hw dX9_point_53
  · have hw := hw.2 hc
    exact hw.elim
theorem mo_X9_point {l : Launch} {G : Gx} {e0 : Nat} {α : Ax} {κ : Nat → Int} {B : Nat} {p1 : Int} (hκ : kOK κ) (hp1 : inR p1) {M : Mem} {Qm : Int → Mem → Prop} (hw : wo_X9_point p1 M Qm) : CI l yX9_point (Cond.code yX9_point cX9_point 3 (some .int)) 8 G e0 α κ B [.ref (α 10 0), .int (Int32.ofInt p1)] M Qm :=
  CI.mk hκ (by decide +kernel) rfl (Nat.le_of_ble_eq_true rfl) (lv := [(0, .ref (α 10 0)), (1, .int (Int32.ofInt p1))]) rfl (fun p e s m args below meth c ls X hR hS hl => to_X9_point X hp1 hw _ _ hR hS ls hl)
theorem co_X9_point {cc : ByteArray} {nL : Nat} {own : String} {ret : Option FieldType} {idx pc : Nat} {p1 : Int} (X : CX p m c cc nL s args own G B κ meth ret) (hp1 : inR p1) {kc : Nat} {R : Room} {cells slots : Nat} (hRr : RmOK R kc) (hcel : cells ≤ R.cells ∧ slots ≤ R.slots) (hk : 8 + 1 ≤ kc) {M : Mem} {H : Heap} {locs : List Loc} (hR : Rp G e0 α κ B M H) (hS : va_S (fun q => B ≤ q) s.heap H locs) (k1 : Cond.methodLink own idx yX9_point ∈ gw) {ls : Array Slot} (hml : ls.size = nL) {rest : List Value} (hd : decode cc pc = .ok (.invokevirtual idx, 3)) (hrest : (rest.map fun v => v.category).sum ≤ 8) {Q : State → Prop} {Qm : Int → Mem → Prop} (hw : wo_X9_point p1 M Qm) (kk : ∀ (r : Int) (M1 : Mem) (H1 : Heap) (locs1 : List Loc), Qm r M1 → inR r → Rp G e0 α κ B M1 H1 → va_S (fun q => B ≤ q) s.heap H1 locs1 → W p l e R s m args below meth c H1 locs1 cells slots Q (F0 m (pc + 3) ls (.int (Int32.ofInt r) :: rest))) : W p l e R s m args below meth c H locs cells slots Q (F0 m pc ls (.int (Int32.ofInt p1) :: .ref (α 10 0) :: rest)) :=
  sa_callVI 8 (n := 1) (As := [.int (Int32.ofInt p1)]) (rest := rest) X.1 X.2.1 hR hS (mo_X9_point X.2.2.1 hp1 hw) k1 kw_1295 kw_1296 kw_38 kw_1297 ⟨rfl, by decide +kernel, by decide +kernel, by decide +kernel⟩ (rm_ok hRr hk (by decide)) (rc_10 X hR (okf X.2.2.1 rfl)) rfl rfl hrest hml hd hcel kk
def wo_X9_begins (p1 : Int) (M : Mem) (Qm : Int → Mem → Prop) : Prop := wo_X9_requireCell p1 M fun (M1 : Mem) => (0 ≤ p1 ∧ p1 < M1 14 0 (-1)) ∧ wp_X0_showsFigure (M1 14 0 p1) M1 fun (x5 : Int) (M4 : Mem) => ((¬ x5 = 0 → wp_X9_refresh M4 fun (M7 : Mem) => wp_X8_pointOf 0 (M7 1 (M1 14 0 p1) 1) M7 fun (x10 : Int) (M9 : Mem) => wp_X9_leftPart (M9 1 (M1 14 0 p1) 9) M9 fun (x14 : Int) (M13 : Mem) => (inR (x10 - x14)) ∧ Qm (x10 - x14) M13) ∧ (x5 = 0 → False))
set_option maxHeartbeats 4000000 in
set_option maxRecDepth 100000 in
theorem to_X9_begins {p1 : Int} (X : CX p m c cX9_begins 3 s args RX9 G B κ meth (some .int)) (hp1 : inR p1) {M : Mem} {Qm : Int → Mem → Prop} (hw : wo_X9_begins p1 M Qm) (H : Heap) (locs : List Loc) (hR : Rp G e0 α κ B M H) (hS : va_S (fun q => B ≤ q) s.heap H locs) (ls : Array Slot) (hl : lv_has ls 3 [(0, .ref (α 10 0)), (1, .int (Int32.ofInt p1))]) : WI p l e 8 s m args below meth c G e0 α κ B Qm H locs 0 ls [] := by
  have hw : wo_X9_requireCell p1 M fun (M1 : Mem) => (0 ≤ p1 ∧ p1 < M1 14 0 (-1)) ∧ wp_X0_showsFigure (M1 14 0 p1) M1 fun (x5 : Int) (M4 : Mem) => ((¬ x5 = 0 → wp_X9_refresh M4 fun (M7 : Mem) => wp_X8_pointOf 0 (M7 1 (M1 14 0 p1) 1) M7 fun (x10 : Int) (M9 : Mem) => wp_X9_leftPart (M9 1 (M1 14 0 p1) 9) M9 fun (x14 : Int) (M13 : Mem) => (inR (x10 - x14)) ∧ Qm (x10 - x14) M13) ∧ (x5 = 0 → False)) := hw
  refine lv_aload_n X.1.1 X.1.2.1 dX9_begins_0 rfl (lv_at hl 0 rfl) ?_
  refine lv_iload_n X.1.1 X.1.2.1 dX9_begins_1 rfl (lv_at hl 1 rfl) ?_
  refine co_X9_requireCell X hp1 (kc := 8) rmL_ok rm_c (by decide) hR hS kw_1077 hl.1 dX9_begins_2 (Nat.le_of_ble_eq_true rfl) hw (fun M1 H locs hw hR hS => ?_)
  refine lv_aload_n X.1.1 X.1.2.1 dX9_begins_5 rfl (lv_at hl 0 rfl) ?_
  refine gt_10_0 X hR (okf X.2.2.1 rfl) kw_332 dX9_begins_6 ?_
  refine gt_4_2 X hR (okf X.2.2.1 rfl) kw_121 dX9_begins_9 ?_
  refine lv_iload_n X.1.1 X.1.2.1 dX9_begins_12 rfl (lv_at hl 1 rfl) ?_
  have c2 := hw.1
  have hw := hw.2
  refine ls_get (ci := 1) (by decide) (by decide) rfl X c2 (kc := 8) rmL_ok rm_c (by decide) hR hS kw_969 hl.1 dX9_begins_13 (Nat.le_of_ble_eq_true rfl) (fun H locs o3 hR hS => ?_)
  refine ck_1 X hR o3 kw_976 dX9_begins_16 ?_
  refine lv_astore_n (lv' := [(2, .ref (α 1 (M1 14 0 p1))), (0, .ref (α 10 0)), (1, .int (Int32.ofInt p1))]) X.1.1 X.1.2.1 dX9_begins_19 rfl hl (by decide) rfl (fun ls hl => ?_)
  refine lv_aload_n X.1.1 X.1.2.1 dX9_begins_20 rfl (lv_at hl 0 rfl) ?_
  refine cs_X0_showsFigure X o3 (kc := 8) rmL_ok rm_c (by decide) hR hS kw_1298 hl.1 dX9_begins_21 (Nat.le_of_ble_eq_true rfl) hw (fun x5 M4 H locs hw r6 hR hS => ?_)
  refine sa_if_ne (tgt := 38) X.1 r6 dX9_begins_24 (by decide) (fun hc => ?_) (fun hc => ?_)
  · have hw := hw.1 hc
    refine lv_aload_n X.1.1 X.1.2.1 dX9_begins_38 rfl (lv_at hl 1 rfl) ?_
    refine cs_X9_refresh X  (kc := 8) rmL_ok rm_c (by decide) hR hS kw_370 hl.1 dX9_begins_39 (Nat.le_of_ble_eq_true rfl) hw (fun M7 H locs hw hR hS => ?_)
    refine lv_aload_n X.1.1 X.1.2.1 dX9_begins_42 rfl (lv_at hl 1 rfl) ?_
    refine gt_10_1 X hR (okf X.2.2.1 rfl) kw_333 dX9_begins_43 ?_
    refine lv_aload_n X.1.1 X.1.2.1 dX9_begins_46 rfl (lv_at hl 0 rfl) ?_
    refine gt_1_1 X hR o3 kw_990 dX9_begins_47 ?_
    have r8 := hR.r 1 (M1 14 0 p1) 1
    refine cs_X8_pointOf X (okp X.2.2.1 rfl (by decide)) r8 (kc := 8) rmL_ok rm_c (by decide) hR hS kw_1300 hl.1 dX9_begins_50 (Nat.le_of_ble_eq_true rfl) hw (fun x10 M9 H locs hw r11 hR hS => ?_)
    refine lv_aload_n X.1.1 X.1.2.1 dX9_begins_53 rfl (lv_at hl 0 rfl) ?_
    refine gt_1_9 X hR o3 kw_1009 dX9_begins_54 ?_
    have r12 := hR.r 1 (M1 14 0 p1) 9
    refine cs_X9_leftPart X r12 (kc := 8) rmL_ok rm_c (by decide) hR hS kw_1308 hl.1 dX9_begins_57 (Nat.le_of_ble_eq_true rfl) hw (fun x14 M13 H locs hw r15 hR hS => ?_)
    have c16 := hw.1
    have hw := hw.2
    refine sa_isub X.1 dX9_begins_60 ?_
    exact sa_iret X.1 X.2.2.2.1 X.2.2.2.2 hR hS c16 hw dX9_begins_61
  · have hw := hw.2 hc
    exact hw.elim
theorem mo_X9_begins {l : Launch} {G : Gx} {e0 : Nat} {α : Ax} {κ : Nat → Int} {B : Nat} {p1 : Int} (hκ : kOK κ) (hp1 : inR p1) {M : Mem} {Qm : Int → Mem → Prop} (hw : wo_X9_begins p1 M Qm) : CI l yX9_begins (Cond.code yX9_begins cX9_begins 3 (some .int)) 8 G e0 α κ B [.ref (α 10 0), .int (Int32.ofInt p1)] M Qm :=
  CI.mk hκ (by decide +kernel) rfl (Nat.le_of_ble_eq_true rfl) (lv := [(0, .ref (α 10 0)), (1, .int (Int32.ofInt p1))]) rfl (fun p e s m args below meth c ls X hR hS hl => to_X9_begins X hp1 hw _ _ hR hS ls hl)
theorem co_X9_begins {cc : ByteArray} {nL : Nat} {own : String} {ret : Option FieldType} {idx pc : Nat} {p1 : Int} (X : CX p m c cc nL s args own G B κ meth ret) (hp1 : inR p1) {kc : Nat} {R : Room} {cells slots : Nat} (hRr : RmOK R kc) (hcel : cells ≤ R.cells ∧ slots ≤ R.slots) (hk : 8 + 1 ≤ kc) {M : Mem} {H : Heap} {locs : List Loc} (hR : Rp G e0 α κ B M H) (hS : va_S (fun q => B ≤ q) s.heap H locs) (k1 : Cond.methodLink own idx yX9_begins ∈ gw) {ls : Array Slot} (hml : ls.size = nL) {rest : List Value} (hd : decode cc pc = .ok (.invokevirtual idx, 3)) (hrest : (rest.map fun v => v.category).sum ≤ 8) {Q : State → Prop} {Qm : Int → Mem → Prop} (hw : wo_X9_begins p1 M Qm) (kk : ∀ (r : Int) (M1 : Mem) (H1 : Heap) (locs1 : List Loc), Qm r M1 → inR r → Rp G e0 α κ B M1 H1 → va_S (fun q => B ≤ q) s.heap H1 locs1 → W p l e R s m args below meth c H1 locs1 cells slots Q (F0 m (pc + 3) ls (.int (Int32.ofInt r) :: rest))) : W p l e R s m args below meth c H locs cells slots Q (F0 m pc ls (.int (Int32.ofInt p1) :: .ref (α 10 0) :: rest)) :=
  sa_callVI 8 (n := 1) (As := [.int (Int32.ofInt p1)]) (rest := rest) X.1 X.2.1 hR hS (mo_X9_begins X.2.2.1 hp1 hw) k1 kw_1305 kw_1306 kw_38 kw_1307 ⟨rfl, by decide +kernel, by decide +kernel, by decide +kernel⟩ (rm_ok hRr hk (by decide)) (rc_10 X hR (okf X.2.2.1 rfl)) rfl rfl hrest hml hd hcel kk
def wo_X9_lines (p1 : Int) (M : Mem) (Qm : Int → Mem → Prop) : Prop := wo_X9_requireCell p1 M fun (M1 : Mem) => wp_X9_refresh M1 fun (M2 : Mem) => (0 ≤ p1 ∧ p1 < 100) ∧ Qm (M2 34 0 p1) M2
set_option maxHeartbeats 4000000 in
set_option maxRecDepth 100000 in
theorem to_X9_lines {p1 : Int} (X : CX p m c cX9_lines 2 s args RX9 G B κ meth (some .int)) (hp1 : inR p1) {M : Mem} {Qm : Int → Mem → Prop} (hw : wo_X9_lines p1 M Qm) (H : Heap) (locs : List Loc) (hR : Rp G e0 α κ B M H) (hS : va_S (fun q => B ≤ q) s.heap H locs) (ls : Array Slot) (hl : lv_has ls 2 [(0, .ref (α 10 0)), (1, .int (Int32.ofInt p1))]) : WI p l e 8 s m args below meth c G e0 α κ B Qm H locs 0 ls [] := by
  have hw : wo_X9_requireCell p1 M fun (M1 : Mem) => wp_X9_refresh M1 fun (M2 : Mem) => (0 ≤ p1 ∧ p1 < 100) ∧ Qm (M2 34 0 p1) M2 := hw
  refine lv_aload_n X.1.1 X.1.2.1 dX9_lines_0 rfl (lv_at hl 0 rfl) ?_
  refine lv_iload_n X.1.1 X.1.2.1 dX9_lines_1 rfl (lv_at hl 1 rfl) ?_
  refine co_X9_requireCell X hp1 (kc := 8) rmL_ok rm_c (by decide) hR hS kw_1077 hl.1 dX9_lines_2 (Nat.le_of_ble_eq_true rfl) hw (fun M1 H locs hw hR hS => ?_)
  refine lv_aload_n X.1.1 X.1.2.1 dX9_lines_5 rfl (lv_at hl 0 rfl) ?_
  refine cs_X9_refresh X  (kc := 8) rmL_ok rm_c (by decide) hR hS kw_370 hl.1 dX9_lines_6 (Nat.le_of_ble_eq_true rfl) hw (fun M2 H locs hw hR hS => ?_)
  refine lv_aload_n X.1.1 X.1.2.1 dX9_lines_9 rfl (lv_at hl 0 rfl) ?_
  refine gt_10_2 X hR (okf X.2.2.1 rfl) kw_334 dX9_lines_10 ?_
  refine gt_5_1 X hR (okp X.2.2.1 rfl (by decide)) kw_193 dX9_lines_13 ?_
  refine lv_iload_n X.1.1 X.1.2.1 dX9_lines_16 rfl (lv_at hl 1 rfl) ?_
  have c3 := hw.1
  have hw := hw.2
  refine ra_34 X hR (okp X.2.2.1 rfl (pr_5 X.2.2.1 (okp X.2.2.1 rfl (by decide)))) c3 dX9_lines_17 ?_
  have r4 := hR.r 34 0 p1
  exact sa_iret X.1 X.2.2.2.1 X.2.2.2.2 hR hS r4 hw dX9_lines_18
theorem mo_X9_lines {l : Launch} {G : Gx} {e0 : Nat} {α : Ax} {κ : Nat → Int} {B : Nat} {p1 : Int} (hκ : kOK κ) (hp1 : inR p1) {M : Mem} {Qm : Int → Mem → Prop} (hw : wo_X9_lines p1 M Qm) : CI l yX9_lines (Cond.code yX9_lines cX9_lines 2 (some .int)) 8 G e0 α κ B [.ref (α 10 0), .int (Int32.ofInt p1)] M Qm :=
  CI.mk hκ (by decide +kernel) rfl (Nat.le_of_ble_eq_true rfl) (lv := [(0, .ref (α 10 0)), (1, .int (Int32.ofInt p1))]) rfl (fun p e s m args below meth c ls X hR hS hl => to_X9_lines X hp1 hw _ _ hR hS ls hl)
theorem co_X9_lines {cc : ByteArray} {nL : Nat} {own : String} {ret : Option FieldType} {idx pc : Nat} {p1 : Int} (X : CX p m c cc nL s args own G B κ meth ret) (hp1 : inR p1) {kc : Nat} {R : Room} {cells slots : Nat} (hRr : RmOK R kc) (hcel : cells ≤ R.cells ∧ slots ≤ R.slots) (hk : 8 + 1 ≤ kc) {M : Mem} {H : Heap} {locs : List Loc} (hR : Rp G e0 α κ B M H) (hS : va_S (fun q => B ≤ q) s.heap H locs) (k1 : Cond.methodLink own idx yX9_lines ∈ gw) {ls : Array Slot} (hml : ls.size = nL) {rest : List Value} (hd : decode cc pc = .ok (.invokevirtual idx, 3)) (hrest : (rest.map fun v => v.category).sum ≤ 8) {Q : State → Prop} {Qm : Int → Mem → Prop} (hw : wo_X9_lines p1 M Qm) (kk : ∀ (r : Int) (M1 : Mem) (H1 : Heap) (locs1 : List Loc), Qm r M1 → inR r → Rp G e0 α κ B M1 H1 → va_S (fun q => B ≤ q) s.heap H1 locs1 → W p l e R s m args below meth c H1 locs1 cells slots Q (F0 m (pc + 3) ls (.int (Int32.ofInt r) :: rest))) : W p l e R s m args below meth c H locs cells slots Q (F0 m pc ls (.int (Int32.ofInt p1) :: .ref (α 10 0) :: rest)) :=
  sa_callVI 8 (n := 1) (As := [.int (Int32.ofInt p1)]) (rest := rest) X.1 X.2.1 hR hS (mo_X9_lines X.2.2.1 hp1 hw) k1 kw_1288 kw_1289 kw_38 kw_1290 ⟨rfl, by decide +kernel, by decide +kernel, by decide +kernel⟩ (rm_ok hRr hk (by decide)) (rc_10 X hR (okf X.2.2.1 rfl)) rfl rfl hrest hml hd hcel kk
def wo_X9_height (p1 : Int) (M : Mem) (Qm : Int → Mem → Prop) : Prop := wo_X9_requireRow p1 M fun (M1 : Mem) => wp_X9_refresh M1 fun (M2 : Mem) => (0 ≤ p1 ∧ p1 < 29) ∧ Qm (M2 35 0 p1) M2
set_option maxHeartbeats 4000000 in
set_option maxRecDepth 100000 in
theorem to_X9_height {p1 : Int} (X : CX p m c cX9_height 2 s args RX9 G B κ meth (some .int)) (hp1 : inR p1) {M : Mem} {Qm : Int → Mem → Prop} (hw : wo_X9_height p1 M Qm) (H : Heap) (locs : List Loc) (hR : Rp G e0 α κ B M H) (hS : va_S (fun q => B ≤ q) s.heap H locs) (ls : Array Slot) (hl : lv_has ls 2 [(0, .ref (α 10 0)), (1, .int (Int32.ofInt p1))]) : WI p l e 8 s m args below meth c G e0 α κ B Qm H locs 0 ls [] := by
  have hw : wo_X9_requireRow p1 M fun (M1 : Mem) => wp_X9_refresh M1 fun (M2 : Mem) => (0 ≤ p1 ∧ p1 < 29) ∧ Qm (M2 35 0 p1) M2 := hw
  refine lv_aload_n X.1.1 X.1.2.1 dX9_height_0 rfl (lv_at hl 0 rfl) ?_
  refine lv_iload_n X.1.1 X.1.2.1 dX9_height_1 rfl (lv_at hl 1 rfl) ?_
  refine co_X9_requireRow X hp1 (kc := 8) rmL_ok rm_c (by decide) hR hS kw_938 hl.1 dX9_height_2 (Nat.le_of_ble_eq_true rfl) hw (fun M1 H locs hw hR hS => ?_)
  refine lv_aload_n X.1.1 X.1.2.1 dX9_height_5 rfl (lv_at hl 0 rfl) ?_
  refine cs_X9_refresh X  (kc := 8) rmL_ok rm_c (by decide) hR hS kw_370 hl.1 dX9_height_6 (Nat.le_of_ble_eq_true rfl) hw (fun M2 H locs hw hR hS => ?_)
  refine lv_aload_n X.1.1 X.1.2.1 dX9_height_9 rfl (lv_at hl 0 rfl) ?_
  refine gt_10_2 X hR (okf X.2.2.1 rfl) kw_334 dX9_height_10 ?_
  refine gt_5_2 X hR (okp X.2.2.1 rfl (by decide)) kw_197 dX9_height_13 ?_
  refine lv_iload_n X.1.1 X.1.2.1 dX9_height_16 rfl (lv_at hl 1 rfl) ?_
  have c3 := hw.1
  have hw := hw.2
  refine ra_35 X hR (okp X.2.2.1 rfl (pr_5 X.2.2.1 (okp X.2.2.1 rfl (by decide)))) c3 dX9_height_17 ?_
  have r4 := hR.r 35 0 p1
  exact sa_iret X.1 X.2.2.2.1 X.2.2.2.2 hR hS r4 hw dX9_height_18
theorem mo_X9_height {l : Launch} {G : Gx} {e0 : Nat} {α : Ax} {κ : Nat → Int} {B : Nat} {p1 : Int} (hκ : kOK κ) (hp1 : inR p1) {M : Mem} {Qm : Int → Mem → Prop} (hw : wo_X9_height p1 M Qm) : CI l yX9_height (Cond.code yX9_height cX9_height 2 (some .int)) 8 G e0 α κ B [.ref (α 10 0), .int (Int32.ofInt p1)] M Qm :=
  CI.mk hκ (by decide +kernel) rfl (Nat.le_of_ble_eq_true rfl) (lv := [(0, .ref (α 10 0)), (1, .int (Int32.ofInt p1))]) rfl (fun p e s m args below meth c ls X hR hS hl => to_X9_height X hp1 hw _ _ hR hS ls hl)
theorem co_X9_height {cc : ByteArray} {nL : Nat} {own : String} {ret : Option FieldType} {idx pc : Nat} {p1 : Int} (X : CX p m c cc nL s args own G B κ meth ret) (hp1 : inR p1) {kc : Nat} {R : Room} {cells slots : Nat} (hRr : RmOK R kc) (hcel : cells ≤ R.cells ∧ slots ≤ R.slots) (hk : 8 + 1 ≤ kc) {M : Mem} {H : Heap} {locs : List Loc} (hR : Rp G e0 α κ B M H) (hS : va_S (fun q => B ≤ q) s.heap H locs) (k1 : Cond.methodLink own idx yX9_height ∈ gw) {ls : Array Slot} (hml : ls.size = nL) {rest : List Value} (hd : decode cc pc = .ok (.invokevirtual idx, 3)) (hrest : (rest.map fun v => v.category).sum ≤ 8) {Q : State → Prop} {Qm : Int → Mem → Prop} (hw : wo_X9_height p1 M Qm) (kk : ∀ (r : Int) (M1 : Mem) (H1 : Heap) (locs1 : List Loc), Qm r M1 → inR r → Rp G e0 α κ B M1 H1 → va_S (fun q => B ≤ q) s.heap H1 locs1 → W p l e R s m args below meth c H1 locs1 cells slots Q (F0 m (pc + 3) ls (.int (Int32.ofInt r) :: rest))) : W p l e R s m args below meth c H locs cells slots Q (F0 m pc ls (.int (Int32.ofInt p1) :: .ref (α 10 0) :: rest)) :=
  sa_callVI 8 (n := 1) (As := [.int (Int32.ofInt p1)]) (rest := rest) X.1 X.2.1 hR hS (mo_X9_height X.2.2.1 hp1 hw) k1 kw_1273 kw_1274 kw_38 kw_1275 ⟨rfl, by decide +kernel, by decide +kernel, by decide +kernel⟩ (rm_ok hRr hk (by decide)) (rc_10 X hR (okf X.2.2.1 rfl)) rfl rfl hrest hml hd hcel kk
def wo_X9_heightByCells (p1 : Int) (M : Mem) (Qm : Int → Mem → Prop) : Prop := wo_X9_requireRow p1 M fun (M1 : Mem) => wp_X7_heightFromNothing p1 (M1 10 0 7) M1 fun (x4 : Int) (M3 : Mem) => Qm x4 M3
set_option maxHeartbeats 4000000 in
set_option maxRecDepth 100000 in
theorem to_X9_heightByCells {p1 : Int} (X : CX p m c cX9_heightByCells 2 s args RX9 G B κ meth (some .int)) (hp1 : inR p1) {M : Mem} {Qm : Int → Mem → Prop} (hw : wo_X9_heightByCells p1 M Qm) (H : Heap) (locs : List Loc) (hR : Rp G e0 α κ B M H) (hS : va_S (fun q => B ≤ q) s.heap H locs) (ls : Array Slot) (hl : lv_has ls 2 [(0, .ref (α 10 0)), (1, .int (Int32.ofInt p1))]) : WI p l e 8 s m args below meth c G e0 α κ B Qm H locs 0 ls [] := by
  have hw : wo_X9_requireRow p1 M fun (M1 : Mem) => wp_X7_heightFromNothing p1 (M1 10 0 7) M1 fun (x4 : Int) (M3 : Mem) => Qm x4 M3 := hw
  refine lv_aload_n X.1.1 X.1.2.1 dX9_heightByCells_0 rfl (lv_at hl 0 rfl) ?_
  refine lv_iload_n X.1.1 X.1.2.1 dX9_heightByCells_1 rfl (lv_at hl 1 rfl) ?_
  refine co_X9_requireRow X hp1 (kc := 8) rmL_ok rm_c (by decide) hR hS kw_938 hl.1 dX9_heightByCells_2 (Nat.le_of_ble_eq_true rfl) hw (fun M1 H locs hw hR hS => ?_)
  refine lv_aload_n X.1.1 X.1.2.1 dX9_heightByCells_5 rfl (lv_at hl 0 rfl) ?_
  refine gt_10_3 X hR (okf X.2.2.1 rfl) kw_335 dX9_heightByCells_6 ?_
  refine lv_iload_n X.1.1 X.1.2.1 dX9_heightByCells_9 rfl (lv_at hl 1 rfl) ?_
  refine lv_aload_n X.1.1 X.1.2.1 dX9_heightByCells_10 rfl (lv_at hl 0 rfl) ?_
  refine gt_10_7 X hR (okf X.2.2.1 rfl) kw_339 dX9_heightByCells_11 ?_
  have r2 := hR.r 10 0 7
  refine cs_X7_heightFromNothing X hp1 r2 (kc := 8) rmL_ok rm_c (by decide) hR hS kw_1280 hl.1 dX9_heightByCells_14 (Nat.le_of_ble_eq_true rfl) hw (fun x4 M3 H locs hw r5 hR hS => ?_)
  exact sa_iret X.1 X.2.2.2.1 X.2.2.2.2 hR hS r5 hw dX9_heightByCells_17
theorem mo_X9_heightByCells {l : Launch} {G : Gx} {e0 : Nat} {α : Ax} {κ : Nat → Int} {B : Nat} {p1 : Int} (hκ : kOK κ) (hp1 : inR p1) {M : Mem} {Qm : Int → Mem → Prop} (hw : wo_X9_heightByCells p1 M Qm) : CI l yX9_heightByCells (Cond.code yX9_heightByCells cX9_heightByCells 2 (some .int)) 8 G e0 α κ B [.ref (α 10 0), .int (Int32.ofInt p1)] M Qm :=
  CI.mk hκ (by decide +kernel) rfl (Nat.le_of_ble_eq_true rfl) (lv := [(0, .ref (α 10 0)), (1, .int (Int32.ofInt p1))]) rfl (fun p e s m args below meth c ls X hR hS hl => to_X9_heightByCells X hp1 hw _ _ hR hS ls hl)
theorem co_X9_heightByCells {cc : ByteArray} {nL : Nat} {own : String} {ret : Option FieldType} {idx pc : Nat} {p1 : Int} (X : CX p m c cc nL s args own G B κ meth ret) (hp1 : inR p1) {kc : Nat} {R : Room} {cells slots : Nat} (hRr : RmOK R kc) (hcel : cells ≤ R.cells ∧ slots ≤ R.slots) (hk : 8 + 1 ≤ kc) {M : Mem} {H : Heap} {locs : List Loc} (hR : Rp G e0 α κ B M H) (hS : va_S (fun q => B ≤ q) s.heap H locs) (k1 : Cond.methodLink own idx yX9_heightByCells ∈ gw) {ls : Array Slot} (hml : ls.size = nL) {rest : List Value} (hd : decode cc pc = .ok (.invokevirtual idx, 3)) (hrest : (rest.map fun v => v.category).sum ≤ 8) {Q : State → Prop} {Qm : Int → Mem → Prop} (hw : wo_X9_heightByCells p1 M Qm) (kk : ∀ (r : Int) (M1 : Mem) (H1 : Heap) (locs1 : List Loc), Qm r M1 → inR r → Rp G e0 α κ B M1 H1 → va_S (fun q => B ≤ q) s.heap H1 locs1 → W p l e R s m args below meth c H1 locs1 cells slots Q (F0 m (pc + 3) ls (.int (Int32.ofInt r) :: rest))) : W p l e R s m args below meth c H locs cells slots Q (F0 m pc ls (.int (Int32.ofInt p1) :: .ref (α 10 0) :: rest)) :=
  sa_callVI 8 (n := 1) (As := [.int (Int32.ofInt p1)]) (rest := rest) X.1 X.2.1 hR hS (mo_X9_heightByCells X.2.2.1 hp1 hw) k1 kw_1277 kw_1278 kw_38 kw_1279 ⟨rfl, by decide +kernel, by decide +kernel, by decide +kernel⟩ (rm_ok hRr hk (by decide)) (rc_10 X hR (okf X.2.2.1 rfl)) rfl rfl hrest hml hd hcel kk
def wo_X9_edge_19 (p1 : Int) (p2 : Int) (p3 : Int) (Qm : Int → Mem → Prop) (M : Mem) : Prop := False
def wo_X9_edge_244 (p1 : Int) (p2 : Int) (p3 : Int) (Qm : Int → Mem → Prop) (y10 : Int) (y11 : Int) (y12 : Int) (z0 : Int) (M : Mem) : Prop := wp_X9_strongest y11 y12 z0 (if y10 = 0 then (0 : Int) else (M 4 0 7)) M fun (x40 : Int) (M39 : Mem) => Qm x40 M39
def wo_X9_edge_221 (p1 : Int) (p2 : Int) (p3 : Int) (Qm : Int → Mem → Prop) (y4 : Int) (y7 : Int) (y10 : Int) (y11 : Int) (z0 : Int) (M : Mem) : Prop := ((y4 = 0 → wo_X9_edge_244 p1 p2 p3 Qm y10 y11 z0 0 M) ∧ (¬ y4 = 0 → wp_X3_greaterWeight 2 p2 y7 p3 M fun (x43 : Int) (M42 : Mem) => wo_X9_edge_244 p1 p2 p3 Qm y10 y11 z0 x43 M42))
def wo_X9_edge_166 (p1 : Int) (p2 : Int) (p3 : Int) (Qm : Int → Mem → Prop) (y4 : Int) (y6 : Int) (y7 : Int) (y8 : Int) (y9 : Int) (M : Mem) : Prop := wp_X3_greaterWeight 0 y8 y9 p3 M fun (x31 : Int) (M30 : Mem) => ((y4 = 0 → wp_X3_greaterWeight 1 p1 y6 p3 M30 fun (x34 : Int) (M33 : Mem) => wo_X9_edge_221 p1 p2 p3 Qm y4 y7 (if y6 = (-1) then (1 : Int) else (if ¬ y7 = (-1) then (0 : Int) else 1)) x31 x34 M33) ∧ (¬ y4 = 0 → wo_X9_edge_221 p1 p2 p3 Qm y4 y7 (if y6 = (-1) then (1 : Int) else (if ¬ y7 = (-1) then (0 : Int) else 1)) x31 0 M30))
def wo_X9_edge_125 (p1 : Int) (p2 : Int) (p3 : Int) (Qm : Int → Mem → Prop) (y4 : Int) (y6 : Int) (z0 : Int) (M : Mem) : Prop := wp_X3_cellNumberAt p1 p2 M fun (x20 : Int) (M19 : Mem) => wp_X3_cellNumberAt y6 z0 M19 fun (x23 : Int) (M22 : Mem) => ((x20 = (-1) → wo_X9_edge_166 p1 p2 p3 Qm y4 y6 z0 x20 x23 M22) ∧ (¬ x20 = (-1) → ((¬ x20 = x23 → wo_X9_edge_166 p1 p2 p3 Qm y4 y6 z0 x20 x23 M22) ∧ (x20 = x23 → Qm 0 M22))))
def wo_X9_edge_104 (p1 : Int) (p2 : Int) (p3 : Int) (Qm : Int → Mem → Prop) (y4 : Int) (y5 : Int) (z0 : Int) (M : Mem) : Prop := ((y4 = 0 → wo_X9_edge_125 p1 p2 p3 Qm y4 z0 p2 M) ∧ (¬ y4 = 0 → wp_X3_columnBeside p2 y5 M fun (x46 : Int) (M45 : Mem) => wo_X9_edge_125 p1 p2 p3 Qm y4 z0 x46 M45))
def wo_X9_edge (p1 : Int) (p2 : Int) (p3 : Int) (M : Mem) (Qm : Int → Mem → Prop) : Prop := wo_X9_requireRow p1 M fun (M1 : Mem) => wo_X9_requireColumn p2 M1 fun (M2 : Mem) => ((p3 < 0 → wo_X9_edge_19 p1 p2 p3 Qm M2) ∧ (0 ≤ p3 → ((p3 ≤ 3 → wp_X3_isShown p2 M2 fun (x4 : Int) (M3 : Mem) => ((¬ x4 = 0 → (((if p3 = 1 then (1 : Int) else (if ¬ p3 = 3 then (0 : Int) else 1)) = 0 → wp_X3_rowBeside p1 (if p3 = 0 then ((-1) : Int) else (if ¬ p3 = 3 then (1 : Int) else (-1))) M3 fun (x17 : Int) (M16 : Mem) => wo_X9_edge_104 p1 p2 p3 Qm (if p3 = 1 then (1 : Int) else (if ¬ p3 = 3 then (0 : Int) else 1)) (if p3 = 0 then ((-1) : Int) else (if ¬ p3 = 3 then (1 : Int) else (-1))) x17 M16) ∧ (¬ (if p3 = 1 then (1 : Int) else (if ¬ p3 = 3 then (0 : Int) else 1)) = 0 → wo_X9_edge_104 p1 p2 p3 Qm (if p3 = 1 then (1 : Int) else (if ¬ p3 = 3 then (0 : Int) else 1)) (if p3 = 0 then ((-1) : Int) else (if ¬ p3 = 3 then (1 : Int) else (-1))) p1 M3))) ∧ (x4 = 0 → False))) ∧ (3 < p3 → wo_X9_edge_19 p1 p2 p3 Qm M2))))
set_option maxHeartbeats 4000000 in
set_option maxRecDepth 100000 in
theorem to_X9_edge_19 {p1 : Int} {p2 : Int} {p3 : Int} (X : CX p m c cX9_edge 14 s args RX9 G B κ meth (some .int)) (hp1 : inR p1) (hp2 : inR p2) (hp3 : inR p3) {Qm : Int → Mem → Prop} : ∀ M : Mem, wo_X9_edge_19 p1 p2 p3 Qm M → ∀ (H : Heap) (locs : List Loc), Rp G e0 α κ B M H → va_S (fun q => B ≤ q) s.heap H locs → ∀ (ls : Array Slot), lv_has ls 14 [] → WI p l e 5 s m args below meth c G e0 α κ B Qm H locs 19 ls [] := by
  intro M hw H locs hR hS ls hl
  have hw : False := hw
  exact hw.elim
set_option maxHeartbeats 4000000 in
set_option maxRecDepth 100000 in
theorem to_X9_edge_244 {p1 : Int} {p2 : Int} {p3 : Int} (X : CX p m c cX9_edge 14 s args RX9 G B κ meth (some .int)) (hp1 : inR p1) (hp2 : inR p2) (hp3 : inR p3) {Qm : Int → Mem → Prop} : ∀ y10 : Int, ∀ y11 : Int, ∀ y12 : Int, ∀ z0 : Int, ∀ M : Mem, wo_X9_edge_244 p1 p2 p3 Qm y10 y11 y12 z0 M → inR y10 → inR y11 → inR y12 → inR z0 → ∀ (H : Heap) (locs : List Loc), Rp G e0 α κ B M H → va_S (fun q => B ≤ q) s.heap H locs → ∀ (ls : Array Slot), lv_has ls 14 [(0, .ref (α 10 0)), (10, .int (Int32.ofInt y10)), (11, .int (Int32.ofInt y11)), (12, .int (Int32.ofInt y12))] → WI p l e 5 s m args below meth c G e0 α κ B Qm H locs 244 ls [.int (Int32.ofInt z0)] := by
  intro y10 y11 y12 z0 M hw hy10 hy11 hy12 hz0 H locs hR hS ls hl
  have hw : wp_X9_strongest y11 y12 z0 (if y10 = 0 then (0 : Int) else (M 4 0 7)) M fun (x40 : Int) (M39 : Mem) => Qm x40 M39 := hw
  refine lv_istore (lv' := [(13, .int (Int32.ofInt z0)), (0, .ref (α 10 0)), (10, .int (Int32.ofInt y10)), (11, .int (Int32.ofInt y11)), (12, .int (Int32.ofInt y12))]) X.1.1 X.1.2.1 dX9_edge_244 hl (by decide) rfl (fun ls hl => ?_)
  refine lv_iload X.1.1 X.1.2.1 dX9_edge_246 (lv_at hl 3 rfl) ?_
  refine lv_iload X.1.1 X.1.2.1 dX9_edge_248 (lv_at hl 4 rfl) ?_
  refine lv_iload X.1.1 X.1.2.1 dX9_edge_250 (lv_at hl 0 rfl) ?_
  refine lv_iload X.1.1 X.1.2.1 dX9_edge_252 (lv_at hl 2 rfl) ?_
  have r36 := inR_ite (c := y10 = 0) (inR_c (a := 0) rfl) (hR.r 4 0 7)
  refine cut_j (A := ∀ v37 : Int, v37 = (if y10 = 0 then (0 : Int) else (M 4 0 7)) → WI p l e 5 s m args below meth c G e0 α κ B Qm H locs 268 ls [.int (Int32.ofInt v37), .int (Int32.ofInt z0), .int (Int32.ofInt y12), .int (Int32.ofInt y11)]) (fun J38 => ?_) ?_
  · refine sa_if_eq (tgt := 267) X.1 hy10 dX9_edge_254 (by decide) (fun hc => ?_) (fun hc => ?_)
    · skip
      refine sa_const X.1 dX9_edge_267 ?_
      exact J38 (0) (if_pos (c := y10 = 0) hc).symm
    · skip
      refine lv_aload_n X.1.1 X.1.2.1 dX9_edge_257 rfl (lv_at hl 1 rfl) ?_
      refine gt_10_0 X hR (okf X.2.2.1 rfl) kw_332 dX9_edge_258 ?_
      refine gt_4_7 X hR (okf X.2.2.1 rfl) kw_129 dX9_edge_261 ?_
      refine lv_goto (tgt := 268) X.1.1 X.1.2.1 dX9_edge_264 (by decide) ?_
      exact J38 ((M 4 0 7)) (if_neg (c := y10 = 0) hc).symm
  intro v37 hv37
  subst hv37
  refine cs_X9_strongest X hy11 hy12 hz0 r36 (kc := 5) rmL_ok rm_c (by decide) hR hS kw_1431 hl.1 dX9_edge_268 (Nat.le_of_ble_eq_true rfl) hw (fun x40 M39 H locs hw r41 hR hS => ?_)
  exact sa_iret X.1 X.2.2.2.1 X.2.2.2.2 hR hS r41 hw dX9_edge_271
set_option maxHeartbeats 4000000 in
set_option maxRecDepth 100000 in
theorem to_X9_edge_221 {p1 : Int} {p2 : Int} {p3 : Int} (X : CX p m c cX9_edge 14 s args RX9 G B κ meth (some .int)) (hp1 : inR p1) (hp2 : inR p2) (hp3 : inR p3) {Qm : Int → Mem → Prop} : ∀ y4 : Int, ∀ y7 : Int, ∀ y10 : Int, ∀ y11 : Int, ∀ z0 : Int, ∀ M : Mem, wo_X9_edge_221 p1 p2 p3 Qm y4 y7 y10 y11 z0 M → inR y4 → inR y7 → inR y10 → inR y11 → inR z0 → ∀ (H : Heap) (locs : List Loc), Rp G e0 α κ B M H → va_S (fun q => B ≤ q) s.heap H locs → ∀ (ls : Array Slot), lv_has ls 14 [(0, .ref (α 10 0)), (2, .int (Int32.ofInt p2)), (3, .int (Int32.ofInt p3)), (4, .int (Int32.ofInt y4)), (7, .int (Int32.ofInt y7)), (10, .int (Int32.ofInt y10)), (11, .int (Int32.ofInt y11))] → WI p l e 5 s m args below meth c G e0 α κ B Qm H locs 221 ls [.int (Int32.ofInt z0)] := by
  intro y4 y7 y10 y11 z0 M hw hy4 hy7 hy10 hy11 hz0 H locs hR hS ls hl
  have hw : ((y4 = 0 → wo_X9_edge_244 p1 p2 p3 Qm y10 y11 z0 0 M) ∧ (¬ y4 = 0 → wp_X3_greaterWeight 2 p2 y7 p3 M fun (x43 : Int) (M42 : Mem) => wo_X9_edge_244 p1 p2 p3 Qm y10 y11 z0 x43 M42)) := hw
  refine lv_istore (lv' := [(12, .int (Int32.ofInt z0)), (0, .ref (α 10 0)), (2, .int (Int32.ofInt p2)), (3, .int (Int32.ofInt p3)), (4, .int (Int32.ofInt y4)), (7, .int (Int32.ofInt y7)), (10, .int (Int32.ofInt y10)), (11, .int (Int32.ofInt y11))]) X.1.1 X.1.2.1 dX9_edge_221 hl (by decide) rfl (fun ls hl => ?_)
  refine lv_iload X.1.1 X.1.2.1 dX9_edge_223 (lv_at hl 4 rfl) ?_
  refine sa_if_eq (tgt := 243) X.1 hy4 dX9_edge_225 (by decide) (fun hc => ?_) (fun hc => ?_)
  · have hw := hw.1 hc
    refine sa_const X.1 dX9_edge_243 ?_
    exact to_X9_edge_244 X hp1 hp2 hp3 _ _ _ _ _ hw hy10 hy11 hz0 (inR_c (a := 0) rfl) _ _ hR hS _ (lv_sub hl [1, 6, 7, 0] rfl)
  · have hw := hw.2 hc
    refine lv_aload_n X.1.1 X.1.2.1 dX9_edge_228 rfl (lv_at hl 1 rfl) ?_
    refine gt_10_0 X hR (okf X.2.2.1 rfl) kw_332 dX9_edge_229 ?_
    refine sa_const X.1 dX9_edge_232 ?_
    refine lv_iload_n X.1.1 X.1.2.1 dX9_edge_233 rfl (lv_at hl 2 rfl) ?_
    refine lv_iload X.1.1 X.1.2.1 dX9_edge_234 (lv_at hl 5 rfl) ?_
    refine lv_iload_n X.1.1 X.1.2.1 dX9_edge_236 rfl (lv_at hl 3 rfl) ?_
    refine cs_X3_greaterWeight X (inR_c (a := 2) rfl) hp2 hy7 hp3 (kc := 5) rmL_ok rm_c (by decide) hR hS kw_1427 hl.1 dX9_edge_237 (Nat.le_of_ble_eq_true rfl) hw (fun x43 M42 H locs hw r44 hR hS => ?_)
    refine lv_goto (tgt := 244) X.1.1 X.1.2.1 dX9_edge_240 (by decide) ?_
    exact to_X9_edge_244 X hp1 hp2 hp3 _ _ _ _ _ hw hy10 hy11 hz0 r44 _ _ hR hS _ (lv_sub hl [1, 6, 7, 0] rfl)
set_option maxHeartbeats 4000000 in
set_option maxRecDepth 100000 in
theorem to_X9_edge_166 {p1 : Int} {p2 : Int} {p3 : Int} (X : CX p m c cX9_edge 14 s args RX9 G B κ meth (some .int)) (hp1 : inR p1) (hp2 : inR p2) (hp3 : inR p3) {Qm : Int → Mem → Prop} : ∀ y4 : Int, ∀ y6 : Int, ∀ y7 : Int, ∀ y8 : Int, ∀ y9 : Int, ∀ M : Mem, wo_X9_edge_166 p1 p2 p3 Qm y4 y6 y7 y8 y9 M → inR y4 → inR y6 → inR y7 → inR y8 → inR y9 → ∀ (H : Heap) (locs : List Loc), Rp G e0 α κ B M H → va_S (fun q => B ≤ q) s.heap H locs → ∀ (ls : Array Slot), lv_has ls 14 [(0, .ref (α 10 0)), (1, .int (Int32.ofInt p1)), (2, .int (Int32.ofInt p2)), (3, .int (Int32.ofInt p3)), (4, .int (Int32.ofInt y4)), (6, .int (Int32.ofInt y6)), (7, .int (Int32.ofInt y7)), (8, .int (Int32.ofInt y8)), (9, .int (Int32.ofInt y9))] → WI p l e 5 s m args below meth c G e0 α κ B Qm H locs 166 ls [] := by
  intro y4 y6 y7 y8 y9 M hw hy4 hy6 hy7 hy8 hy9 H locs hR hS ls hl
  have hw : wp_X3_greaterWeight 0 y8 y9 p3 M fun (x31 : Int) (M30 : Mem) => ((y4 = 0 → wp_X3_greaterWeight 1 p1 y6 p3 M30 fun (x34 : Int) (M33 : Mem) => wo_X9_edge_221 p1 p2 p3 Qm y4 y7 (if y6 = (-1) then (1 : Int) else (if ¬ y7 = (-1) then (0 : Int) else 1)) x31 x34 M33) ∧ (¬ y4 = 0 → wo_X9_edge_221 p1 p2 p3 Qm y4 y7 (if y6 = (-1) then (1 : Int) else (if ¬ y7 = (-1) then (0 : Int) else 1)) x31 0 M30)) := hw
  refine lv_iload X.1.1 X.1.2.1 dX9_edge_166 (lv_at hl 5 rfl) ?_
  refine sa_const X.1 dX9_edge_168 ?_
  have r27 := inR_ite (c := y6 = (-1)) (inR_c (a := 1) rfl) (inR_ite (c := ¬ y7 = (-1)) (inR_c (a := 0) rfl) (inR_c (a := 1) rfl))
  refine cut_j (A := ∀ v28 : Int, v28 = (if y6 = (-1) then (1 : Int) else (if ¬ y7 = (-1) then (0 : Int) else 1)) → WI p l e 5 s m args below meth c G e0 α κ B Qm H locs 183 ls [.int (Int32.ofInt v28)]) (fun J29 => ?_) ?_
  · refine sa_icmp_eq (tgt := 178) X.1 hy6 (inR_c (a := -1) rfl) dX9_edge_169 (by decide) (fun hc => ?_) (fun hc => ?_)
    · skip
      refine sa_const X.1 dX9_edge_178 ?_
      refine lv_goto (tgt := 183) X.1.1 X.1.2.1 dX9_edge_179 (by decide) ?_
      exact J29 (1) (if_pos (c := y6 = (-1)) hc).symm
    · skip
      refine lv_iload X.1.1 X.1.2.1 dX9_edge_172 (lv_at hl 6 rfl) ?_
      refine sa_const X.1 dX9_edge_174 ?_
      refine cut_j (A := ∀ v25 : Int, v25 = (if ¬ y7 = (-1) then (0 : Int) else 1) → WI p l e 5 s m args below meth c G e0 α κ B Qm H locs 183 ls [.int (Int32.ofInt v25)]) (fun J26 => ?_) ?_
      · refine sa_icmp_ne (tgt := 182) X.1 hy7 (inR_c (a := -1) rfl) dX9_edge_175 (by decide) (fun hc => ?_) (fun hc => ?_)
        · skip
          refine sa_const X.1 dX9_edge_182 ?_
          exact J26 (0) (if_pos (c := ¬ y7 = (-1)) hc).symm
        · skip
          refine sa_const X.1 dX9_edge_178 ?_
          refine lv_goto (tgt := 183) X.1.1 X.1.2.1 dX9_edge_179 (by decide) ?_
          exact J26 (1) (if_neg (c := ¬ y7 = (-1)) (fun z => z hc)).symm
      intro v25 hv25
      subst hv25
      exact J29 ((if ¬ y7 = (-1) then (0 : Int) else 1)) (if_neg (c := y6 = (-1)) hc).symm
  intro v28 hv28
  subst hv28
  refine lv_istore (lv' := [(10, .int (Int32.ofInt (if y6 = (-1) then (1 : Int) else (if ¬ y7 = (-1) then (0 : Int) else 1)))), (0, .ref (α 10 0)), (1, .int (Int32.ofInt p1)), (2, .int (Int32.ofInt p2)), (3, .int (Int32.ofInt p3)), (4, .int (Int32.ofInt y4)), (6, .int (Int32.ofInt y6)), (7, .int (Int32.ofInt y7)), (8, .int (Int32.ofInt y8)), (9, .int (Int32.ofInt y9))]) X.1.1 X.1.2.1 dX9_edge_183 hl (by decide) rfl (fun ls hl => ?_)
  refine lv_aload_n X.1.1 X.1.2.1 dX9_edge_185 rfl (lv_at hl 1 rfl) ?_
  refine gt_10_0 X hR (okf X.2.2.1 rfl) kw_332 dX9_edge_186 ?_
  refine sa_const X.1 dX9_edge_189 ?_
  refine lv_iload X.1.1 X.1.2.1 dX9_edge_190 (lv_at hl 8 rfl) ?_
  refine lv_iload X.1.1 X.1.2.1 dX9_edge_192 (lv_at hl 9 rfl) ?_
  refine lv_iload_n X.1.1 X.1.2.1 dX9_edge_194 rfl (lv_at hl 4 rfl) ?_
  refine cs_X3_greaterWeight X (inR_c (a := 0) rfl) hy8 hy9 hp3 (kc := 5) rmL_ok rm_c (by decide) hR hS kw_1427 hl.1 dX9_edge_195 (Nat.le_of_ble_eq_true rfl) hw (fun x31 M30 H locs hw r32 hR hS => ?_)
  refine lv_istore (lv' := [(11, .int (Int32.ofInt x31)), (10, .int (Int32.ofInt (if y6 = (-1) then (1 : Int) else (if ¬ y7 = (-1) then (0 : Int) else 1)))), (0, .ref (α 10 0)), (1, .int (Int32.ofInt p1)), (2, .int (Int32.ofInt p2)), (3, .int (Int32.ofInt p3)), (4, .int (Int32.ofInt y4)), (6, .int (Int32.ofInt y6)), (7, .int (Int32.ofInt y7)), (8, .int (Int32.ofInt y8)), (9, .int (Int32.ofInt y9))]) X.1.1 X.1.2.1 dX9_edge_198 hl (by decide) rfl (fun ls hl => ?_)
  refine lv_iload X.1.1 X.1.2.1 dX9_edge_200 (lv_at hl 6 rfl) ?_
  refine sa_if_eq (tgt := 209) X.1 hy4 dX9_edge_202 (by decide) (fun hc => ?_) (fun hc => ?_)
  · have hw := hw.1 hc
    refine lv_aload_n X.1.1 X.1.2.1 dX9_edge_209 rfl (lv_at hl 2 rfl) ?_
    refine gt_10_0 X hR (okf X.2.2.1 rfl) kw_332 dX9_edge_210 ?_
    refine sa_const X.1 dX9_edge_213 ?_
    refine lv_iload_n X.1.1 X.1.2.1 dX9_edge_214 rfl (lv_at hl 3 rfl) ?_
    refine lv_iload X.1.1 X.1.2.1 dX9_edge_215 (lv_at hl 7 rfl) ?_
    refine lv_iload_n X.1.1 X.1.2.1 dX9_edge_217 rfl (lv_at hl 5 rfl) ?_
    refine cs_X3_greaterWeight X (inR_c (a := 1) rfl) hp1 hy6 hp3 (kc := 5) rmL_ok rm_c (by decide) hR hS kw_1427 hl.1 dX9_edge_218 (Nat.le_of_ble_eq_true rfl) hw (fun x34 M33 H locs hw r35 hR hS => ?_)
    exact to_X9_edge_221 X hp1 hp2 hp3 _ _ _ _ _ _ hw hy4 hy7 r27 r32 r35 _ _ hR hS _ (lv_sub hl [2, 4, 5, 6, 8, 1, 0] rfl)
  · have hw := hw.2 hc
    refine sa_const X.1 dX9_edge_205 ?_
    refine lv_goto (tgt := 221) X.1.1 X.1.2.1 dX9_edge_206 (by decide) ?_
    exact to_X9_edge_221 X hp1 hp2 hp3 _ _ _ _ _ _ hw hy4 hy7 r27 r32 (inR_c (a := 0) rfl) _ _ hR hS _ (lv_sub hl [2, 4, 5, 6, 8, 1, 0] rfl)
set_option maxHeartbeats 4000000 in
set_option maxRecDepth 100000 in
theorem to_X9_edge_125 {p1 : Int} {p2 : Int} {p3 : Int} (X : CX p m c cX9_edge 14 s args RX9 G B κ meth (some .int)) (hp1 : inR p1) (hp2 : inR p2) (hp3 : inR p3) {Qm : Int → Mem → Prop} : ∀ y4 : Int, ∀ y6 : Int, ∀ z0 : Int, ∀ M : Mem, wo_X9_edge_125 p1 p2 p3 Qm y4 y6 z0 M → inR y4 → inR y6 → inR z0 → ∀ (H : Heap) (locs : List Loc), Rp G e0 α κ B M H → va_S (fun q => B ≤ q) s.heap H locs → ∀ (ls : Array Slot), lv_has ls 14 [(0, .ref (α 10 0)), (1, .int (Int32.ofInt p1)), (2, .int (Int32.ofInt p2)), (3, .int (Int32.ofInt p3)), (4, .int (Int32.ofInt y4)), (6, .int (Int32.ofInt y6))] → WI p l e 5 s m args below meth c G e0 α κ B Qm H locs 125 ls [.int (Int32.ofInt z0)] := by
  intro y4 y6 z0 M hw hy4 hy6 hz0 H locs hR hS ls hl
  have hw : wp_X3_cellNumberAt p1 p2 M fun (x20 : Int) (M19 : Mem) => wp_X3_cellNumberAt y6 z0 M19 fun (x23 : Int) (M22 : Mem) => ((x20 = (-1) → wo_X9_edge_166 p1 p2 p3 Qm y4 y6 z0 x20 x23 M22) ∧ (¬ x20 = (-1) → ((¬ x20 = x23 → wo_X9_edge_166 p1 p2 p3 Qm y4 y6 z0 x20 x23 M22) ∧ (x20 = x23 → Qm 0 M22)))) := hw
  refine lv_istore (lv' := [(7, .int (Int32.ofInt z0)), (0, .ref (α 10 0)), (1, .int (Int32.ofInt p1)), (2, .int (Int32.ofInt p2)), (3, .int (Int32.ofInt p3)), (4, .int (Int32.ofInt y4)), (6, .int (Int32.ofInt y6))]) X.1.1 X.1.2.1 dX9_edge_125 hl (by decide) rfl (fun ls hl => ?_)
  refine lv_aload_n X.1.1 X.1.2.1 dX9_edge_127 rfl (lv_at hl 1 rfl) ?_
  refine gt_10_0 X hR (okf X.2.2.1 rfl) kw_332 dX9_edge_128 ?_
  refine lv_iload_n X.1.1 X.1.2.1 dX9_edge_131 rfl (lv_at hl 2 rfl) ?_
  refine lv_iload_n X.1.1 X.1.2.1 dX9_edge_132 rfl (lv_at hl 3 rfl) ?_
  refine cs_X3_cellNumberAt X hp1 hp2 (kc := 5) rmL_ok rm_c (by decide) hR hS kw_1058 hl.1 dX9_edge_133 (Nat.le_of_ble_eq_true rfl) hw (fun x20 M19 H locs hw r21 hR hS => ?_)
  refine lv_istore (lv' := [(8, .int (Int32.ofInt x20)), (7, .int (Int32.ofInt z0)), (0, .ref (α 10 0)), (1, .int (Int32.ofInt p1)), (2, .int (Int32.ofInt p2)), (3, .int (Int32.ofInt p3)), (4, .int (Int32.ofInt y4)), (6, .int (Int32.ofInt y6))]) X.1.1 X.1.2.1 dX9_edge_136 hl (by decide) rfl (fun ls hl => ?_)
  refine lv_aload_n X.1.1 X.1.2.1 dX9_edge_138 rfl (lv_at hl 2 rfl) ?_
  refine gt_10_0 X hR (okf X.2.2.1 rfl) kw_332 dX9_edge_139 ?_
  refine lv_iload X.1.1 X.1.2.1 dX9_edge_142 (lv_at hl 7 rfl) ?_
  refine lv_iload X.1.1 X.1.2.1 dX9_edge_144 (lv_at hl 1 rfl) ?_
  refine cs_X3_cellNumberAt X hy6 hz0 (kc := 5) rmL_ok rm_c (by decide) hR hS kw_1058 hl.1 dX9_edge_146 (Nat.le_of_ble_eq_true rfl) hw (fun x23 M22 H locs hw r24 hR hS => ?_)
  refine lv_istore (lv' := [(9, .int (Int32.ofInt x23)), (8, .int (Int32.ofInt x20)), (7, .int (Int32.ofInt z0)), (0, .ref (α 10 0)), (1, .int (Int32.ofInt p1)), (2, .int (Int32.ofInt p2)), (3, .int (Int32.ofInt p3)), (4, .int (Int32.ofInt y4)), (6, .int (Int32.ofInt y6))]) X.1.1 X.1.2.1 dX9_edge_149 hl (by decide) rfl (fun ls hl => ?_)
  refine lv_iload X.1.1 X.1.2.1 dX9_edge_151 (lv_at hl 1 rfl) ?_
  refine sa_const X.1 dX9_edge_153 ?_
  refine sa_icmp_eq (tgt := 166) X.1 r21 (inR_c (a := -1) rfl) dX9_edge_154 (by decide) (fun hc => ?_) (fun hc => ?_)
  · have hw := hw.1 hc
    exact to_X9_edge_166 X hp1 hp2 hp3 _ _ _ _ _ _ hw hy4 hy6 hz0 r21 r24 _ _ hR hS _ (lv_sub hl [3, 4, 5, 6, 7, 8, 2, 1, 0] rfl)
  · have hw := hw.2 hc
    refine lv_iload X.1.1 X.1.2.1 dX9_edge_157 (lv_at hl 1 rfl) ?_
    refine lv_iload X.1.1 X.1.2.1 dX9_edge_159 (lv_at hl 0 rfl) ?_
    refine sa_icmp_ne (tgt := 166) X.1 r21 r24 dX9_edge_161 (by decide) (fun hc => ?_) (fun hc => ?_)
    · have hw := hw.1 hc
      exact to_X9_edge_166 X hp1 hp2 hp3 _ _ _ _ _ _ hw hy4 hy6 hz0 r21 r24 _ _ hR hS _ (lv_sub hl [3, 4, 5, 6, 7, 8, 2, 1, 0] rfl)
    · have hw := hw.2 hc
      refine sa_const X.1 dX9_edge_164 ?_
      exact sa_iret X.1 X.2.2.2.1 X.2.2.2.2 hR hS (inR_c (a := 0) rfl) hw dX9_edge_165
set_option maxHeartbeats 4000000 in
set_option maxRecDepth 100000 in
theorem to_X9_edge_104 {p1 : Int} {p2 : Int} {p3 : Int} (X : CX p m c cX9_edge 14 s args RX9 G B κ meth (some .int)) (hp1 : inR p1) (hp2 : inR p2) (hp3 : inR p3) {Qm : Int → Mem → Prop} : ∀ y4 : Int, ∀ y5 : Int, ∀ z0 : Int, ∀ M : Mem, wo_X9_edge_104 p1 p2 p3 Qm y4 y5 z0 M → inR y4 → inR y5 → inR z0 → ∀ (H : Heap) (locs : List Loc), Rp G e0 α κ B M H → va_S (fun q => B ≤ q) s.heap H locs → ∀ (ls : Array Slot), lv_has ls 14 [(0, .ref (α 10 0)), (1, .int (Int32.ofInt p1)), (2, .int (Int32.ofInt p2)), (3, .int (Int32.ofInt p3)), (4, .int (Int32.ofInt y4)), (5, .int (Int32.ofInt y5))] → WI p l e 5 s m args below meth c G e0 α κ B Qm H locs 104 ls [.int (Int32.ofInt z0)] := by
  intro y4 y5 z0 M hw hy4 hy5 hz0 H locs hR hS ls hl
  have hw : ((y4 = 0 → wo_X9_edge_125 p1 p2 p3 Qm y4 z0 p2 M) ∧ (¬ y4 = 0 → wp_X3_columnBeside p2 y5 M fun (x46 : Int) (M45 : Mem) => wo_X9_edge_125 p1 p2 p3 Qm y4 z0 x46 M45)) := hw
  refine lv_istore (lv' := [(6, .int (Int32.ofInt z0)), (0, .ref (α 10 0)), (1, .int (Int32.ofInt p1)), (2, .int (Int32.ofInt p2)), (3, .int (Int32.ofInt p3)), (4, .int (Int32.ofInt y4)), (5, .int (Int32.ofInt y5))]) X.1.1 X.1.2.1 dX9_edge_104 hl (by decide) rfl (fun ls hl => ?_)
  refine lv_iload X.1.1 X.1.2.1 dX9_edge_106 (lv_at hl 5 rfl) ?_
  refine sa_if_eq (tgt := 124) X.1 hy4 dX9_edge_108 (by decide) (fun hc => ?_) (fun hc => ?_)
  · have hw := hw.1 hc
    refine lv_iload_n X.1.1 X.1.2.1 dX9_edge_124 rfl (lv_at hl 3 rfl) ?_
    exact to_X9_edge_125 X hp1 hp2 hp3 _ _ _ _ hw hy4 hz0 hp2 _ _ hR hS _ (lv_sub hl [1, 2, 3, 4, 5, 0] rfl)
  · have hw := hw.2 hc
    refine lv_aload_n X.1.1 X.1.2.1 dX9_edge_111 rfl (lv_at hl 1 rfl) ?_
    refine gt_10_0 X hR (okf X.2.2.1 rfl) kw_332 dX9_edge_112 ?_
    refine lv_iload_n X.1.1 X.1.2.1 dX9_edge_115 rfl (lv_at hl 3 rfl) ?_
    refine lv_iload X.1.1 X.1.2.1 dX9_edge_116 (lv_at hl 6 rfl) ?_
    refine cs_X3_columnBeside X hp2 hy5 (kc := 5) rmL_ok rm_c (by decide) hR hS kw_1423 hl.1 dX9_edge_118 (Nat.le_of_ble_eq_true rfl) hw (fun x46 M45 H locs hw r47 hR hS => ?_)
    refine lv_goto (tgt := 125) X.1.1 X.1.2.1 dX9_edge_121 (by decide) ?_
    exact to_X9_edge_125 X hp1 hp2 hp3 _ _ _ _ hw hy4 hz0 r47 _ _ hR hS _ (lv_sub hl [1, 2, 3, 4, 5, 0] rfl)
set_option maxHeartbeats 4000000 in
set_option maxRecDepth 100000 in
theorem to_X9_edge {p1 : Int} {p2 : Int} {p3 : Int} (X : CX p m c cX9_edge 14 s args RX9 G B κ meth (some .int)) (hp1 : inR p1) (hp2 : inR p2) (hp3 : inR p3) {M : Mem} {Qm : Int → Mem → Prop} (hw : wo_X9_edge p1 p2 p3 M Qm) (H : Heap) (locs : List Loc) (hR : Rp G e0 α κ B M H) (hS : va_S (fun q => B ≤ q) s.heap H locs) (ls : Array Slot) (hl : lv_has ls 14 [(0, .ref (α 10 0)), (1, .int (Int32.ofInt p1)), (2, .int (Int32.ofInt p2)), (3, .int (Int32.ofInt p3))]) : WI p l e 5 s m args below meth c G e0 α κ B Qm H locs 0 ls [] := by
  have hw : wo_X9_requireRow p1 M fun (M1 : Mem) => wo_X9_requireColumn p2 M1 fun (M2 : Mem) => ((p3 < 0 → wo_X9_edge_19 p1 p2 p3 Qm M2) ∧ (0 ≤ p3 → ((p3 ≤ 3 → wp_X3_isShown p2 M2 fun (x4 : Int) (M3 : Mem) => ((¬ x4 = 0 → (((if p3 = 1 then (1 : Int) else (if ¬ p3 = 3 then (0 : Int) else 1)) = 0 → wp_X3_rowBeside p1 (if p3 = 0 then ((-1) : Int) else (if ¬ p3 = 3 then (1 : Int) else (-1))) M3 fun (x17 : Int) (M16 : Mem) => wo_X9_edge_104 p1 p2 p3 Qm (if p3 = 1 then (1 : Int) else (if ¬ p3 = 3 then (0 : Int) else 1)) (if p3 = 0 then ((-1) : Int) else (if ¬ p3 = 3 then (1 : Int) else (-1))) x17 M16) ∧ (¬ (if p3 = 1 then (1 : Int) else (if ¬ p3 = 3 then (0 : Int) else 1)) = 0 → wo_X9_edge_104 p1 p2 p3 Qm (if p3 = 1 then (1 : Int) else (if ¬ p3 = 3 then (0 : Int) else 1)) (if p3 = 0 then ((-1) : Int) else (if ¬ p3 = 3 then (1 : Int) else (-1))) p1 M3))) ∧ (x4 = 0 → False))) ∧ (3 < p3 → wo_X9_edge_19 p1 p2 p3 Qm M2)))) := hw
  refine lv_aload_n X.1.1 X.1.2.1 dX9_edge_0 rfl (lv_at hl 0 rfl) ?_
  refine lv_iload_n X.1.1 X.1.2.1 dX9_edge_1 rfl (lv_at hl 1 rfl) ?_
  refine co_X9_requireRow X hp1 (kc := 5) rmL_ok rm_c (by decide) hR hS kw_938 hl.1 dX9_edge_2 (Nat.le_of_ble_eq_true rfl) hw (fun M1 H locs hw hR hS => ?_)
  refine lv_aload_n X.1.1 X.1.2.1 dX9_edge_5 rfl (lv_at hl 0 rfl) ?_
  refine lv_iload_n X.1.1 X.1.2.1 dX9_edge_6 rfl (lv_at hl 2 rfl) ?_
  refine co_X9_requireColumn X hp2 (kc := 5) rmL_ok rm_c (by decide) hR hS kw_959 hl.1 dX9_edge_7 (Nat.le_of_ble_eq_true rfl) hw (fun M2 H locs hw hR hS => ?_)
  refine lv_iload_n X.1.1 X.1.2.1 dX9_edge_10 rfl (lv_at hl 3 rfl) ?_
  refine sa_if_lt (tgt := 19) X.1 hp3 dX9_edge_11 (by decide) (fun hc => ?_) (fun hc => ?_)
  · have hw := hw.1 hc
    exact to_X9_edge_19 X hp1 hp2 hp3 _ hw _ _ hR hS _ (lv_sub hl [] rfl)
  · have hw := hw.2 hc
    refine lv_iload_n X.1.1 X.1.2.1 dX9_edge_14 rfl (lv_at hl 3 rfl) ?_
    refine sa_const X.1 dX9_edge_15 ?_
    refine sa_icmp_le (tgt := 30) X.1 hp3 (inR_c (a := 3) rfl) dX9_edge_16 (by decide) (fun hc => ?_) (fun hc => ?_)
    · have hw := hw.1 hc
      refine lv_aload_n X.1.1 X.1.2.1 dX9_edge_30 rfl (lv_at hl 0 rfl) ?_
      refine gt_10_0 X hR (okf X.2.2.1 rfl) kw_332 dX9_edge_31 ?_
      refine lv_iload_n X.1.1 X.1.2.1 dX9_edge_34 rfl (lv_at hl 2 rfl) ?_
      refine cs_X3_isShown X hp2 (kc := 5) rmL_ok rm_c (by decide) hR hS kw_1189 hl.1 dX9_edge_35 (Nat.le_of_ble_eq_true rfl) hw (fun x4 M3 H locs hw r5 hR hS => ?_)
      refine sa_if_ne (tgt := 52) X.1 r5 dX9_edge_38 (by decide) (fun hc => ?_) (fun hc => ?_)
      · have hw := hw.1 hc
        refine lv_iload_n X.1.1 X.1.2.1 dX9_edge_52 rfl (lv_at hl 3 rfl) ?_
        refine sa_const X.1 dX9_edge_53 ?_
        have r8 := inR_ite (c := p3 = 1) (inR_c (a := 1) rfl) (inR_ite (c := ¬ p3 = 3) (inR_c (a := 0) rfl) (inR_c (a := 1) rfl))
        refine cut_j (A := ∀ v9 : Int, v9 = (if p3 = 1 then (1 : Int) else (if ¬ p3 = 3 then (0 : Int) else 1)) → WI p l e 5 s m args below meth c G e0 α κ B Qm H locs 67 ls [.int (Int32.ofInt v9)]) (fun J10 => ?_) ?_
        · refine sa_icmp_eq (tgt := 62) X.1 hp3 (inR_c (a := 1) rfl) dX9_edge_54 (by decide) (fun hc => ?_) (fun hc => ?_)
          · skip
            refine sa_const X.1 dX9_edge_62 ?_
            refine lv_goto (tgt := 67) X.1.1 X.1.2.1 dX9_edge_63 (by decide) ?_
            exact J10 (1) (if_pos (c := p3 = 1) hc).symm
          · skip
            refine lv_iload_n X.1.1 X.1.2.1 dX9_edge_57 rfl (lv_at hl 3 rfl) ?_
            refine sa_const X.1 dX9_edge_58 ?_
            refine cut_j (A := ∀ v6 : Int, v6 = (if ¬ p3 = 3 then (0 : Int) else 1) → WI p l e 5 s m args below meth c G e0 α κ B Qm H locs 67 ls [.int (Int32.ofInt v6)]) (fun J7 => ?_) ?_
            · refine sa_icmp_ne (tgt := 66) X.1 hp3 (inR_c (a := 3) rfl) dX9_edge_59 (by decide) (fun hc => ?_) (fun hc => ?_)
              · skip
                refine sa_const X.1 dX9_edge_66 ?_
                exact J7 (0) (if_pos (c := ¬ p3 = 3) hc).symm
              · skip
                refine sa_const X.1 dX9_edge_62 ?_
                refine lv_goto (tgt := 67) X.1.1 X.1.2.1 dX9_edge_63 (by decide) ?_
                exact J7 (1) (if_neg (c := ¬ p3 = 3) (fun z => z hc)).symm
            intro v6 hv6
            subst hv6
            exact J10 ((if ¬ p3 = 3 then (0 : Int) else 1)) (if_neg (c := p3 = 1) hc).symm
        intro v9 hv9
        subst hv9
        refine lv_istore (lv' := [(4, .int (Int32.ofInt (if p3 = 1 then (1 : Int) else (if ¬ p3 = 3 then (0 : Int) else 1)))), (0, .ref (α 10 0)), (1, .int (Int32.ofInt p1)), (2, .int (Int32.ofInt p2)), (3, .int (Int32.ofInt p3))]) X.1.1 X.1.2.1 dX9_edge_67 hl (by decide) rfl (fun ls hl => ?_)
        refine lv_iload_n X.1.1 X.1.2.1 dX9_edge_69 rfl (lv_at hl 4 rfl) ?_
        have r13 := inR_ite (c := p3 = 0) (inR_c (a := -1) rfl) (inR_ite (c := ¬ p3 = 3) (inR_c (a := 1) rfl) (inR_c (a := -1) rfl))
        refine cut_j (A := ∀ v14 : Int, v14 = (if p3 = 0 then ((-1) : Int) else (if ¬ p3 = 3 then (1 : Int) else (-1))) → WI p l e 5 s m args below meth c G e0 α κ B Qm H locs 83 ls [.int (Int32.ofInt v14)]) (fun J15 => ?_) ?_
        · refine sa_if_eq (tgt := 78) X.1 hp3 dX9_edge_70 (by decide) (fun hc => ?_) (fun hc => ?_)
          · skip
            refine sa_const X.1 dX9_edge_78 ?_
            refine lv_goto (tgt := 83) X.1.1 X.1.2.1 dX9_edge_79 (by decide) ?_
            exact J15 ((-1)) (if_pos (c := p3 = 0) hc).symm
          · skip
            refine lv_iload_n X.1.1 X.1.2.1 dX9_edge_73 rfl (lv_at hl 4 rfl) ?_
            refine sa_const X.1 dX9_edge_74 ?_
            refine cut_j (A := ∀ v11 : Int, v11 = (if ¬ p3 = 3 then (1 : Int) else (-1)) → WI p l e 5 s m args below meth c G e0 α κ B Qm H locs 83 ls [.int (Int32.ofInt v11)]) (fun J12 => ?_) ?_
            · refine sa_icmp_ne (tgt := 82) X.1 hp3 (inR_c (a := 3) rfl) dX9_edge_75 (by decide) (fun hc => ?_) (fun hc => ?_)
              · skip
                refine sa_const X.1 dX9_edge_82 ?_
                exact J12 (1) (if_pos (c := ¬ p3 = 3) hc).symm
              · skip
                refine sa_const X.1 dX9_edge_78 ?_
                refine lv_goto (tgt := 83) X.1.1 X.1.2.1 dX9_edge_79 (by decide) ?_
                exact J12 ((-1)) (if_neg (c := ¬ p3 = 3) (fun z => z hc)).symm
            intro v11 hv11
            subst hv11
            exact J15 ((if ¬ p3 = 3 then (1 : Int) else (-1))) (if_neg (c := p3 = 0) hc).symm
        intro v14 hv14
        subst hv14
        refine lv_istore (lv' := [(5, .int (Int32.ofInt (if p3 = 0 then ((-1) : Int) else (if ¬ p3 = 3 then (1 : Int) else (-1))))), (4, .int (Int32.ofInt (if p3 = 1 then (1 : Int) else (if ¬ p3 = 3 then (0 : Int) else 1)))), (0, .ref (α 10 0)), (1, .int (Int32.ofInt p1)), (2, .int (Int32.ofInt p2)), (3, .int (Int32.ofInt p3))]) X.1.1 X.1.2.1 dX9_edge_83 hl (by decide) rfl (fun ls hl => ?_)
        refine lv_iload X.1.1 X.1.2.1 dX9_edge_85 (lv_at hl 1 rfl) ?_
        refine sa_if_eq (tgt := 94) X.1 r8 dX9_edge_87 (by decide) (fun hc => ?_) (fun hc => ?_)
        · have hw := hw.1 hc
          refine lv_aload_n X.1.1 X.1.2.1 dX9_edge_94 rfl (lv_at hl 2 rfl) ?_
          refine gt_10_0 X hR (okf X.2.2.1 rfl) kw_332 dX9_edge_95 ?_
          refine lv_iload_n X.1.1 X.1.2.1 dX9_edge_98 rfl (lv_at hl 3 rfl) ?_
          refine lv_iload X.1.1 X.1.2.1 dX9_edge_99 (lv_at hl 0 rfl) ?_
          refine cs_X3_rowBeside X hp1 r13 (kc := 5) rmL_ok rm_c (by decide) hR hS kw_1415 hl.1 dX9_edge_101 (Nat.le_of_ble_eq_true rfl) hw (fun x17 M16 H locs hw r18 hR hS => ?_)
          exact to_X9_edge_104 X hp1 hp2 hp3 _ _ _ _ hw r8 r13 r18 _ _ hR hS _ (lv_sub hl [2, 3, 4, 5, 1, 0] rfl)
        · have hw := hw.2 hc
          refine lv_iload_n X.1.1 X.1.2.1 dX9_edge_90 rfl (lv_at hl 3 rfl) ?_
          refine lv_goto (tgt := 104) X.1.1 X.1.2.1 dX9_edge_91 (by decide) ?_
          exact to_X9_edge_104 X hp1 hp2 hp3 _ _ _ _ hw r8 r13 hp1 _ _ hR hS _ (lv_sub hl [2, 3, 4, 5, 1, 0] rfl)
      · have hw := hw.2 hc
        exact hw.elim
    · have hw := hw.2 hc
      exact to_X9_edge_19 X hp1 hp2 hp3 _ hw _ _ hR hS _ (lv_sub hl [] rfl)
theorem mo_X9_edge {l : Launch} {G : Gx} {e0 : Nat} {α : Ax} {κ : Nat → Int} {B : Nat} {p1 : Int} {p2 : Int} {p3 : Int} (hκ : kOK κ) (hp1 : inR p1) (hp2 : inR p2) (hp3 : inR p3) {M : Mem} {Qm : Int → Mem → Prop} (hw : wo_X9_edge p1 p2 p3 M Qm) : CI l yX9_edge (Cond.code yX9_edge cX9_edge 14 (some .int)) 5 G e0 α κ B [.ref (α 10 0), .int (Int32.ofInt p1), .int (Int32.ofInt p2), .int (Int32.ofInt p3)] M Qm :=
  CI.mk hκ (by decide +kernel) rfl (Nat.le_of_ble_eq_true rfl) (lv := [(0, .ref (α 10 0)), (1, .int (Int32.ofInt p1)), (2, .int (Int32.ofInt p2)), (3, .int (Int32.ofInt p3))]) rfl (fun p e s m args below meth c ls X hR hS hl => to_X9_edge X hp1 hp2 hp3 hw _ _ hR hS ls hl)
theorem co_X9_edge {cc : ByteArray} {nL : Nat} {own : String} {ret : Option FieldType} {idx pc : Nat} {p1 : Int} {p2 : Int} {p3 : Int} (X : CX p m c cc nL s args own G B κ meth ret) (hp1 : inR p1) (hp2 : inR p2) (hp3 : inR p3) {kc : Nat} {R : Room} {cells slots : Nat} (hRr : RmOK R kc) (hcel : cells ≤ R.cells ∧ slots ≤ R.slots) (hk : 5 + 1 ≤ kc) {M : Mem} {H : Heap} {locs : List Loc} (hR : Rp G e0 α κ B M H) (hS : va_S (fun q => B ≤ q) s.heap H locs) (k1 : Cond.methodLink own idx yX9_edge ∈ gw) {ls : Array Slot} (hml : ls.size = nL) {rest : List Value} (hd : decode cc pc = .ok (.invokevirtual idx, 3)) (hrest : (rest.map fun v => v.category).sum ≤ 8) {Q : State → Prop} {Qm : Int → Mem → Prop} (hw : wo_X9_edge p1 p2 p3 M Qm) (kk : ∀ (r : Int) (M1 : Mem) (H1 : Heap) (locs1 : List Loc), Qm r M1 → inR r → Rp G e0 α κ B M1 H1 → va_S (fun q => B ≤ q) s.heap H1 locs1 → W p l e R s m args below meth c H1 locs1 cells slots Q (F0 m (pc + 3) ls (.int (Int32.ofInt r) :: rest))) : W p l e R s m args below meth c H locs cells slots Q (F0 m pc ls (.int (Int32.ofInt p3) :: .int (Int32.ofInt p2) :: .int (Int32.ofInt p1) :: .ref (α 10 0) :: rest)) :=
  sa_callVI 5 (n := 3) (As := [.int (Int32.ofInt p1), .int (Int32.ofInt p2), .int (Int32.ofInt p3)]) (rest := rest) X.1 X.2.1 hR hS (mo_X9_edge X.2.2.1 hp1 hp2 hp3 hw) k1 kw_1410 kw_1411 kw_38 kw_1412 ⟨rfl, by decide +kernel, by decide +kernel, by decide +kernel⟩ (rm_ok hRr hk (by decide)) (rc_10 X hR (okf X.2.2.1 rfl)) rfl rfl hrest hml hd hcel kk
def wo_X9_pages (M : Mem) (Qm : Int → Mem → Prop) : Prop := wp_X9_refresh M fun (M1 : Mem) => wo_X9_requireSheets M1 fun (M2 : Mem) => Qm (M2 7 0 1) M2
set_option maxHeartbeats 4000000 in
set_option maxRecDepth 100000 in
theorem to_X9_pages (X : CX p m c cX9_pages 1 s args RX9 G B κ meth (some .int)) {M : Mem} {Qm : Int → Mem → Prop} (hw : wo_X9_pages M Qm) (H : Heap) (locs : List Loc) (hR : Rp G e0 α κ B M H) (hS : va_S (fun q => B ≤ q) s.heap H locs) (ls : Array Slot) (hl : lv_has ls 1 [(0, .ref (α 10 0))]) : WI p l e 8 s m args below meth c G e0 α κ B Qm H locs 0 ls [] := by
  have hw : wp_X9_refresh M fun (M1 : Mem) => wo_X9_requireSheets M1 fun (M2 : Mem) => Qm (M2 7 0 1) M2 := hw
  refine lv_aload_n X.1.1 X.1.2.1 dX9_pages_0 rfl (lv_at hl 0 rfl) ?_
  refine cs_X9_refresh X  (kc := 8) rmL_ok rm_c (by decide) hR hS kw_370 hl.1 dX9_pages_1 (Nat.le_of_ble_eq_true rfl) hw (fun M1 H locs hw hR hS => ?_)
  refine lv_aload_n X.1.1 X.1.2.1 dX9_pages_4 rfl (lv_at hl 0 rfl) ?_
  refine co_X9_requireSheets X  (kc := 8) rmL_ok rm_c (by decide) hR hS kw_1343 hl.1 dX9_pages_5 (Nat.le_of_ble_eq_true rfl) hw (fun M2 H locs hw hR hS => ?_)
  refine lv_aload_n X.1.1 X.1.2.1 dX9_pages_8 rfl (lv_at hl 0 rfl) ?_
  refine gt_10_5 X hR (okf X.2.2.1 rfl) kw_337 dX9_pages_9 ?_
  refine gt_7_1 X hR (okp X.2.2.1 rfl (by decide)) kw_244 dX9_pages_12 ?_
  have r3 := hR.r 7 0 1
  exact sa_iret X.1 X.2.2.2.1 X.2.2.2.2 hR hS r3 hw dX9_pages_15
theorem mo_X9_pages {l : Launch} {G : Gx} {e0 : Nat} {α : Ax} {κ : Nat → Int} {B : Nat} (hκ : kOK κ) {M : Mem} {Qm : Int → Mem → Prop} (hw : wo_X9_pages M Qm) : CI l yX9_pages (Cond.code yX9_pages cX9_pages 1 (some .int)) 8 G e0 α κ B [.ref (α 10 0)] M Qm :=
  CI.mk hκ (by decide +kernel) rfl (Nat.le_of_ble_eq_true rfl) (lv := [(0, .ref (α 10 0))]) rfl (fun p e s m args below meth c ls X hR hS hl => to_X9_pages X hw _ _ hR hS ls hl)
theorem co_X9_pages {cc : ByteArray} {nL : Nat} {own : String} {ret : Option FieldType} {idx pc : Nat} (X : CX p m c cc nL s args own G B κ meth ret) {kc : Nat} {R : Room} {cells slots : Nat} (hRr : RmOK R kc) (hcel : cells ≤ R.cells ∧ slots ≤ R.slots) (hk : 8 + 1 ≤ kc) {M : Mem} {H : Heap} {locs : List Loc} (hR : Rp G e0 α κ B M H) (hS : va_S (fun q => B ≤ q) s.heap H locs) (k1 : Cond.methodLink own idx yX9_pages ∈ gw) {ls : Array Slot} (hml : ls.size = nL) {rest : List Value} (hd : decode cc pc = .ok (.invokevirtual idx, 3)) (hrest : (rest.map fun v => v.category).sum ≤ 8) {Q : State → Prop} {Qm : Int → Mem → Prop} (hw : wo_X9_pages M Qm) (kk : ∀ (r : Int) (M1 : Mem) (H1 : Heap) (locs1 : List Loc), Qm r M1 → inR r → Rp G e0 α κ B M1 H1 → va_S (fun q => B ≤ q) s.heap H1 locs1 → W p l e R s m args below meth c H1 locs1 cells slots Q (F0 m (pc + 3) ls (.int (Int32.ofInt r) :: rest))) : W p l e R s m args below meth c H locs cells slots Q (F0 m pc ls (.ref (α 10 0) :: rest)) :=
  sa_callVI 8 (n := 0) (As := []) (rest := rest) X.1 X.2.1 hR hS (mo_X9_pages X.2.2.1 hw) k1 kw_1340 kw_1341 kw_38 kw_1342 ⟨rfl, by decide +kernel, by decide +kernel, by decide +kernel⟩ (rm_ok hRr hk (by decide)) (rc_10 X hR (okf X.2.2.1 rfl)) rfl rfl hrest hml hd hcel kk
def wo_X9_pageOf (p1 : Int) (M : Mem) (Qm : Int → Mem → Prop) : Prop := wo_X9_requireRow p1 M fun (M1 : Mem) => wp_X3_isBodyRow p1 M1 fun (x3 : Int) (M2 : Mem) => ((¬ x3 = 0 → wp_X9_refresh M2 fun (M5 : Mem) => wo_X9_requireSheets M5 fun (M6 : Mem) => (0 ≤ p1 ∧ p1 < 29) ∧ Qm (M6 45 0 p1) M6) ∧ (x3 = 0 → False))
set_option maxHeartbeats 4000000 in
set_option maxRecDepth 100000 in
theorem to_X9_pageOf {p1 : Int} (X : CX p m c cX9_pageOf 2 s args RX9 G B κ meth (some .int)) (hp1 : inR p1) {M : Mem} {Qm : Int → Mem → Prop} (hw : wo_X9_pageOf p1 M Qm) (H : Heap) (locs : List Loc) (hR : Rp G e0 α κ B M H) (hS : va_S (fun q => B ≤ q) s.heap H locs) (ls : Array Slot) (hl : lv_has ls 2 [(0, .ref (α 10 0)), (1, .int (Int32.ofInt p1))]) : WI p l e 8 s m args below meth c G e0 α κ B Qm H locs 0 ls [] := by
  have hw : wo_X9_requireRow p1 M fun (M1 : Mem) => wp_X3_isBodyRow p1 M1 fun (x3 : Int) (M2 : Mem) => ((¬ x3 = 0 → wp_X9_refresh M2 fun (M5 : Mem) => wo_X9_requireSheets M5 fun (M6 : Mem) => (0 ≤ p1 ∧ p1 < 29) ∧ Qm (M6 45 0 p1) M6) ∧ (x3 = 0 → False)) := hw
  refine lv_aload_n X.1.1 X.1.2.1 dX9_pageOf_0 rfl (lv_at hl 0 rfl) ?_
  refine lv_iload_n X.1.1 X.1.2.1 dX9_pageOf_1 rfl (lv_at hl 1 rfl) ?_
  refine co_X9_requireRow X hp1 (kc := 8) rmL_ok rm_c (by decide) hR hS kw_938 hl.1 dX9_pageOf_2 (Nat.le_of_ble_eq_true rfl) hw (fun M1 H locs hw hR hS => ?_)
  refine lv_aload_n X.1.1 X.1.2.1 dX9_pageOf_5 rfl (lv_at hl 0 rfl) ?_
  refine gt_10_0 X hR (okf X.2.2.1 rfl) kw_332 dX9_pageOf_6 ?_
  refine lv_iload_n X.1.1 X.1.2.1 dX9_pageOf_9 rfl (lv_at hl 1 rfl) ?_
  refine cs_X3_isBodyRow X hp1 (kc := 8) rmL_ok rm_c (by decide) hR hS kw_1363 hl.1 dX9_pageOf_10 (Nat.le_of_ble_eq_true rfl) hw (fun x3 M2 H locs hw r4 hR hS => ?_)
  refine sa_if_ne (tgt := 27) X.1 r4 dX9_pageOf_13 (by decide) (fun hc => ?_) (fun hc => ?_)
  · have hw := hw.1 hc
    refine lv_aload_n X.1.1 X.1.2.1 dX9_pageOf_27 rfl (lv_at hl 0 rfl) ?_
    refine cs_X9_refresh X  (kc := 8) rmL_ok rm_c (by decide) hR hS kw_370 hl.1 dX9_pageOf_28 (Nat.le_of_ble_eq_true rfl) hw (fun M5 H locs hw hR hS => ?_)
    refine lv_aload_n X.1.1 X.1.2.1 dX9_pageOf_31 rfl (lv_at hl 0 rfl) ?_
    refine co_X9_requireSheets X  (kc := 8) rmL_ok rm_c (by decide) hR hS kw_1343 hl.1 dX9_pageOf_32 (Nat.le_of_ble_eq_true rfl) hw (fun M6 H locs hw hR hS => ?_)
    refine lv_aload_n X.1.1 X.1.2.1 dX9_pageOf_35 rfl (lv_at hl 0 rfl) ?_
    refine gt_10_5 X hR (okf X.2.2.1 rfl) kw_337 dX9_pageOf_36 ?_
    refine gt_7_11 X hR (okp X.2.2.1 rfl (by decide)) kw_257 dX9_pageOf_39 ?_
    refine lv_iload_n X.1.1 X.1.2.1 dX9_pageOf_42 rfl (lv_at hl 1 rfl) ?_
    have c7 := hw.1
    have hw := hw.2
    refine ra_45 X hR (okp X.2.2.1 rfl (pr_7 X.2.2.1 (okp X.2.2.1 rfl (by decide)))) c7 dX9_pageOf_43 ?_
    have r8 := hR.r 45 0 p1
    exact sa_iret X.1 X.2.2.2.1 X.2.2.2.2 hR hS r8 hw dX9_pageOf_44
  · have hw := hw.2 hc
    exact hw.elim
theorem mo_X9_pageOf {l : Launch} {G : Gx} {e0 : Nat} {α : Ax} {κ : Nat → Int} {B : Nat} {p1 : Int} (hκ : kOK κ) (hp1 : inR p1) {M : Mem} {Qm : Int → Mem → Prop} (hw : wo_X9_pageOf p1 M Qm) : CI l yX9_pageOf (Cond.code yX9_pageOf cX9_pageOf 2 (some .int)) 8 G e0 α κ B [.ref (α 10 0), .int (Int32.ofInt p1)] M Qm :=
  CI.mk hκ (by decide +kernel) rfl (Nat.le_of_ble_eq_true rfl) (lv := [(0, .ref (α 10 0)), (1, .int (Int32.ofInt p1))]) rfl (fun p e s m args below meth c ls X hR hS hl => to_X9_pageOf X hp1 hw _ _ hR hS ls hl)
theorem co_X9_pageOf {cc : ByteArray} {nL : Nat} {own : String} {ret : Option FieldType} {idx pc : Nat} {p1 : Int} (X : CX p m c cc nL s args own G B κ meth ret) (hp1 : inR p1) {kc : Nat} {R : Room} {cells slots : Nat} (hRr : RmOK R kc) (hcel : cells ≤ R.cells ∧ slots ≤ R.slots) (hk : 8 + 1 ≤ kc) {M : Mem} {H : Heap} {locs : List Loc} (hR : Rp G e0 α κ B M H) (hS : va_S (fun q => B ≤ q) s.heap H locs) (k1 : Cond.methodLink own idx yX9_pageOf ∈ gw) {ls : Array Slot} (hml : ls.size = nL) {rest : List Value} (hd : decode cc pc = .ok (.invokevirtual idx, 3)) (hrest : (rest.map fun v => v.category).sum ≤ 8) {Q : State → Prop} {Qm : Int → Mem → Prop} (hw : wo_X9_pageOf p1 M Qm) (kk : ∀ (r : Int) (M1 : Mem) (H1 : Heap) (locs1 : List Loc), Qm r M1 → inR r → Rp G e0 α κ B M1 H1 → va_S (fun q => B ≤ q) s.heap H1 locs1 → W p l e R s m args below meth c H1 locs1 cells slots Q (F0 m (pc + 3) ls (.int (Int32.ofInt r) :: rest))) : W p l e R s m args below meth c H locs cells slots Q (F0 m pc ls (.int (Int32.ofInt p1) :: .ref (α 10 0) :: rest)) :=
  sa_callVI 8 (n := 1) (As := [.int (Int32.ofInt p1)]) (rest := rest) X.1 X.2.1 hR hS (mo_X9_pageOf X.2.2.1 hp1 hw) k1 kw_1372 kw_1373 kw_38 kw_1374 ⟨rfl, by decide +kernel, by decide +kernel, by decide +kernel⟩ (rm_ok hRr hk (by decide)) (rc_10 X hR (okf X.2.2.1 rfl)) rfl rfl hrest hml hd hcel kk
def wo_X9_linesOn_20 (p1 : Int) (p2 : Int) (Qm : Int → Mem → Prop) (M : Mem) : Prop := False
def wo_X9_linesOn (p1 : Int) (p2 : Int) (M : Mem) (Qm : Int → Mem → Prop) : Prop := wo_X9_requireRow p1 M fun (M1 : Mem) => wp_X3_isBodyRow p1 M1 fun (x3 : Int) (M2 : Mem) => ((x3 = 0 → wo_X9_linesOn_20 p1 p2 Qm M2) ∧ (¬ x3 = 0 → ((0 ≤ p2 → wp_X9_refresh M2 fun (M5 : Mem) => wo_X9_requireSheets M5 fun (M6 : Mem) => wp_X6_pieceBeginOf 0 p2 M6 fun (x8 : Int) (M7 : Mem) => wp_X6_pieceEndOf 0 p2 M7 fun (x11 : Int) (M10 : Mem) => wp_X6_linesOfItem 0 p1 x8 x11 M10 fun (x14 : Int) (M13 : Mem) => Qm x14 M13) ∧ (p2 < 0 → wo_X9_linesOn_20 p1 p2 Qm M2))))
set_option maxHeartbeats 4000000 in
set_option maxRecDepth 100000 in
theorem to_X9_linesOn_20 {p1 : Int} {p2 : Int} (X : CX p m c cX9_linesOn 3 s args RX9 G B κ meth (some .int)) (hp1 : inR p1) (hp2 : inR p2) {Qm : Int → Mem → Prop} : ∀ M : Mem, wo_X9_linesOn_20 p1 p2 Qm M → ∀ (H : Heap) (locs : List Loc), Rp G e0 α κ B M H → va_S (fun q => B ≤ q) s.heap H locs → ∀ (ls : Array Slot), lv_has ls 3 [] → WI p l e 8 s m args below meth c G e0 α κ B Qm H locs 20 ls [] := by
  intro M hw H locs hR hS ls hl
  have hw : False := hw
  exact hw.elim
set_option maxHeartbeats 4000000 in
set_option maxRecDepth 100000 in
theorem to_X9_linesOn {p1 : Int} {p2 : Int} (X : CX p m c cX9_linesOn 3 s args RX9 G B κ meth (some .int)) (hp1 : inR p1) (hp2 : inR p2) {M : Mem} {Qm : Int → Mem → Prop} (hw : wo_X9_linesOn p1 p2 M Qm) (H : Heap) (locs : List Loc) (hR : Rp G e0 α κ B M H) (hS : va_S (fun q => B ≤ q) s.heap H locs) (ls : Array Slot) (hl : lv_has ls 3 [(0, .ref (α 10 0)), (1, .int (Int32.ofInt p1)), (2, .int (Int32.ofInt p2))]) : WI p l e 8 s m args below meth c G e0 α κ B Qm H locs 0 ls [] := by
  have hw : wo_X9_requireRow p1 M fun (M1 : Mem) => wp_X3_isBodyRow p1 M1 fun (x3 : Int) (M2 : Mem) => ((x3 = 0 → wo_X9_linesOn_20 p1 p2 Qm M2) ∧ (¬ x3 = 0 → ((0 ≤ p2 → wp_X9_refresh M2 fun (M5 : Mem) => wo_X9_requireSheets M5 fun (M6 : Mem) => wp_X6_pieceBeginOf 0 p2 M6 fun (x8 : Int) (M7 : Mem) => wp_X6_pieceEndOf 0 p2 M7 fun (x11 : Int) (M10 : Mem) => wp_X6_linesOfItem 0 p1 x8 x11 M10 fun (x14 : Int) (M13 : Mem) => Qm x14 M13) ∧ (p2 < 0 → wo_X9_linesOn_20 p1 p2 Qm M2)))) := hw
  refine lv_aload_n X.1.1 X.1.2.1 dX9_linesOn_0 rfl (lv_at hl 0 rfl) ?_
  refine lv_iload_n X.1.1 X.1.2.1 dX9_linesOn_1 rfl (lv_at hl 1 rfl) ?_
  refine co_X9_requireRow X hp1 (kc := 8) rmL_ok rm_c (by decide) hR hS kw_938 hl.1 dX9_linesOn_2 (Nat.le_of_ble_eq_true rfl) hw (fun M1 H locs hw hR hS => ?_)
  refine lv_aload_n X.1.1 X.1.2.1 dX9_linesOn_5 rfl (lv_at hl 0 rfl) ?_
  refine gt_10_0 X hR (okf X.2.2.1 rfl) kw_332 dX9_linesOn_6 ?_
  refine lv_iload_n X.1.1 X.1.2.1 dX9_linesOn_9 rfl (lv_at hl 1 rfl) ?_
  refine cs_X3_isBodyRow X hp1 (kc := 8) rmL_ok rm_c (by decide) hR hS kw_1363 hl.1 dX9_linesOn_10 (Nat.le_of_ble_eq_true rfl) hw (fun x3 M2 H locs hw r4 hR hS => ?_)
  refine sa_if_eq (tgt := 20) X.1 r4 dX9_linesOn_13 (by decide) (fun hc => ?_) (fun hc => ?_)
  · have hw := hw.1 hc
    exact to_X9_linesOn_20 X hp1 hp2 _ hw _ _ hR hS _ (lv_sub hl [] rfl)
  · have hw := hw.2 hc
    refine lv_iload_n X.1.1 X.1.2.1 dX9_linesOn_16 rfl (lv_at hl 2 rfl) ?_
    refine sa_if_ge (tgt := 31) X.1 hp2 dX9_linesOn_17 (by decide) (fun hc => ?_) (fun hc => ?_)
    · have hw := hw.1 hc
      refine lv_aload_n X.1.1 X.1.2.1 dX9_linesOn_31 rfl (lv_at hl 0 rfl) ?_
      refine cs_X9_refresh X  (kc := 8) rmL_ok rm_c (by decide) hR hS kw_370 hl.1 dX9_linesOn_32 (Nat.le_of_ble_eq_true rfl) hw (fun M5 H locs hw hR hS => ?_)
      refine lv_aload_n X.1.1 X.1.2.1 dX9_linesOn_35 rfl (lv_at hl 0 rfl) ?_
      refine co_X9_requireSheets X  (kc := 8) rmL_ok rm_c (by decide) hR hS kw_1343 hl.1 dX9_linesOn_36 (Nat.le_of_ble_eq_true rfl) hw (fun M6 H locs hw hR hS => ?_)
      refine lv_aload_n X.1.1 X.1.2.1 dX9_linesOn_39 rfl (lv_at hl 0 rfl) ?_
      refine gt_10_5 X hR (okf X.2.2.1 rfl) kw_337 dX9_linesOn_40 ?_
      refine lv_iload_n X.1.1 X.1.2.1 dX9_linesOn_43 rfl (lv_at hl 1 rfl) ?_
      refine lv_aload_n X.1.1 X.1.2.1 dX9_linesOn_44 rfl (lv_at hl 0 rfl) ?_
      refine gt_10_5 X hR (okf X.2.2.1 rfl) kw_337 dX9_linesOn_45 ?_
      refine lv_iload_n X.1.1 X.1.2.1 dX9_linesOn_48 rfl (lv_at hl 2 rfl) ?_
      refine cs_X6_pieceBeginOf X (okp X.2.2.1 rfl (by decide)) hp2 (kc := 8) rmL_ok rm_c (by decide) hR hS kw_1365 hl.1 dX9_linesOn_49 (Nat.le_of_ble_eq_true rfl) hw (fun x8 M7 H locs hw r9 hR hS => ?_)
      refine lv_aload_n X.1.1 X.1.2.1 dX9_linesOn_52 rfl (lv_at hl 0 rfl) ?_
      refine gt_10_5 X hR (okf X.2.2.1 rfl) kw_337 dX9_linesOn_53 ?_
      refine lv_iload_n X.1.1 X.1.2.1 dX9_linesOn_56 rfl (lv_at hl 2 rfl) ?_
      refine cs_X6_pieceEndOf X (okp X.2.2.1 rfl (by decide)) hp2 (kc := 8) rmL_ok rm_c (by decide) hR hS kw_1366 hl.1 dX9_linesOn_57 (Nat.le_of_ble_eq_true rfl) hw (fun x11 M10 H locs hw r12 hR hS => ?_)
      refine cs_X6_linesOfItem X (okp X.2.2.1 rfl (by decide)) hp1 r9 r12 (kc := 8) rmL_ok rm_c (by decide) hR hS kw_1367 hl.1 dX9_linesOn_60 (Nat.le_of_ble_eq_true rfl) hw (fun x14 M13 H locs hw r15 hR hS => ?_)
      exact sa_iret X.1 X.2.2.2.1 X.2.2.2.2 hR hS r15 hw dX9_linesOn_63
    · have hw := hw.2 hc
      exact to_X9_linesOn_20 X hp1 hp2 _ hw _ _ hR hS _ (lv_sub hl [] rfl)
theorem mo_X9_linesOn {l : Launch} {G : Gx} {e0 : Nat} {α : Ax} {κ : Nat → Int} {B : Nat} {p1 : Int} {p2 : Int} (hκ : kOK κ) (hp1 : inR p1) (hp2 : inR p2) {M : Mem} {Qm : Int → Mem → Prop} (hw : wo_X9_linesOn p1 p2 M Qm) : CI l yX9_linesOn (Cond.code yX9_linesOn cX9_linesOn 3 (some .int)) 8 G e0 α κ B [.ref (α 10 0), .int (Int32.ofInt p1), .int (Int32.ofInt p2)] M Qm :=
  CI.mk hκ (by decide +kernel) rfl (Nat.le_of_ble_eq_true rfl) (lv := [(0, .ref (α 10 0)), (1, .int (Int32.ofInt p1)), (2, .int (Int32.ofInt p2))]) rfl (fun p e s m args below meth c ls X hR hS hl => to_X9_linesOn X hp1 hp2 hw _ _ hR hS ls hl)
theorem co_X9_linesOn {cc : ByteArray} {nL : Nat} {own : String} {ret : Option FieldType} {idx pc : Nat} {p1 : Int} {p2 : Int} (X : CX p m c cc nL s args own G B κ meth ret) (hp1 : inR p1) (hp2 : inR p2) {kc : Nat} {R : Room} {cells slots : Nat} (hRr : RmOK R kc) (hcel : cells ≤ R.cells ∧ slots ≤ R.slots) (hk : 8 + 1 ≤ kc) {M : Mem} {H : Heap} {locs : List Loc} (hR : Rp G e0 α κ B M H) (hS : va_S (fun q => B ≤ q) s.heap H locs) (k1 : Cond.methodLink own idx yX9_linesOn ∈ gw) {ls : Array Slot} (hml : ls.size = nL) {rest : List Value} (hd : decode cc pc = .ok (.invokevirtual idx, 3)) (hrest : (rest.map fun v => v.category).sum ≤ 8) {Q : State → Prop} {Qm : Int → Mem → Prop} (hw : wo_X9_linesOn p1 p2 M Qm) (kk : ∀ (r : Int) (M1 : Mem) (H1 : Heap) (locs1 : List Loc), Qm r M1 → inR r → Rp G e0 α κ B M1 H1 → va_S (fun q => B ≤ q) s.heap H1 locs1 → W p l e R s m args below meth c H1 locs1 cells slots Q (F0 m (pc + 3) ls (.int (Int32.ofInt r) :: rest))) : W p l e R s m args below meth c H locs cells slots Q (F0 m pc ls (.int (Int32.ofInt p2) :: .int (Int32.ofInt p1) :: .ref (α 10 0) :: rest)) :=
  sa_callVI 8 (n := 2) (As := [.int (Int32.ofInt p1), .int (Int32.ofInt p2)]) (rest := rest) X.1 X.2.1 hR hS (mo_X9_linesOn X.2.2.1 hp1 hp2 hw) k1 kw_1360 kw_1361 kw_38 kw_1362 ⟨rfl, by decide +kernel, by decide +kernel, by decide +kernel⟩ (rm_ok hRr hk (by decide)) (rc_10 X hR (okf X.2.2.1 rfl)) rfl rfl hrest hml hd hcel kk
def wo_X9_shown_35 (p1 : Int) (p2 : Int) (Qm : Int → Mem → Prop) (M : Mem) : Prop := False
def wo_X9_shown (p1 : Int) (p2 : Int) (M : Mem) (Qm : Int → Mem → Prop) : Prop := wo_X9_requireCell p1 M fun (M1 : Mem) => (0 ≤ p1 ∧ p1 < M1 14 0 (-1)) ∧ ((¬ (M1 6 (M1 1 (M1 14 0 p1) 0) 1) = 1 → wo_X9_shown_35 p1 p2 Qm M1) ∧ ((M1 6 (M1 1 (M1 14 0 p1) 0) 1) = 1 → ((0 ≤ p2 → wp_X9_refresh M1 fun (M6 : Mem) => wo_X9_requireSheets M6 fun (M7 : Mem) => wp_X6_pieceBeginOf 0 p2 M7 fun (x9 : Int) (M8 : Mem) => wp_X9_linesOfRowsOf (M1 14 0 p1) 0 x9 M8 fun (x12 : Int) (M11 : Mem) => wp_X6_pieceEndOf 0 p2 M11 fun (x15 : Int) (M14 : Mem) => wp_X9_linesOfRowsOf (M1 14 0 p1) x9 x15 M14 fun (x18 : Int) (M17 : Mem) => (0 ≤ p1 ∧ p1 < 100) ∧ (inR ((M17 34 0 p1) - x12)) ∧ Qm (max 0 (min x18 ((M17 34 0 p1) - x12))) M17) ∧ (p2 < 0 → wo_X9_shown_35 p1 p2 Qm M1))))
set_option maxHeartbeats 4000000 in
set_option maxRecDepth 100000 in
theorem to_X9_shown_35 {p1 : Int} {p2 : Int} (X : CX p m c cX9_shown 7 s args RX9 G B κ meth (some .int)) (hp1 : inR p1) (hp2 : inR p2) {Qm : Int → Mem → Prop} : ∀ M : Mem, wo_X9_shown_35 p1 p2 Qm M → ∀ (H : Heap) (locs : List Loc), Rp G e0 α κ B M H → va_S (fun q => B ≤ q) s.heap H locs → ∀ (ls : Array Slot), lv_has ls 7 [] → WI p l e 8 s m args below meth c G e0 α κ B Qm H locs 35 ls [] := by
  intro M hw H locs hR hS ls hl
  have hw : False := hw
  exact hw.elim
set_option maxHeartbeats 4000000 in
set_option maxRecDepth 100000 in
theorem to_X9_shown {p1 : Int} {p2 : Int} (X : CX p m c cX9_shown 7 s args RX9 G B κ meth (some .int)) (hp1 : inR p1) (hp2 : inR p2) {M : Mem} {Qm : Int → Mem → Prop} (hw : wo_X9_shown p1 p2 M Qm) (H : Heap) (locs : List Loc) (hR : Rp G e0 α κ B M H) (hS : va_S (fun q => B ≤ q) s.heap H locs) (ls : Array Slot) (hl : lv_has ls 7 [(0, .ref (α 10 0)), (1, .int (Int32.ofInt p1)), (2, .int (Int32.ofInt p2))]) : WI p l e 8 s m args below meth c G e0 α κ B Qm H locs 0 ls [] := by
  have hw : wo_X9_requireCell p1 M fun (M1 : Mem) => (0 ≤ p1 ∧ p1 < M1 14 0 (-1)) ∧ ((¬ (M1 6 (M1 1 (M1 14 0 p1) 0) 1) = 1 → wo_X9_shown_35 p1 p2 Qm M1) ∧ ((M1 6 (M1 1 (M1 14 0 p1) 0) 1) = 1 → ((0 ≤ p2 → wp_X9_refresh M1 fun (M6 : Mem) => wo_X9_requireSheets M6 fun (M7 : Mem) => wp_X6_pieceBeginOf 0 p2 M7 fun (x9 : Int) (M8 : Mem) => wp_X9_linesOfRowsOf (M1 14 0 p1) 0 x9 M8 fun (x12 : Int) (M11 : Mem) => wp_X6_pieceEndOf 0 p2 M11 fun (x15 : Int) (M14 : Mem) => wp_X9_linesOfRowsOf (M1 14 0 p1) x9 x15 M14 fun (x18 : Int) (M17 : Mem) => (0 ≤ p1 ∧ p1 < 100) ∧ (inR ((M17 34 0 p1) - x12)) ∧ Qm (max 0 (min x18 ((M17 34 0 p1) - x12))) M17) ∧ (p2 < 0 → wo_X9_shown_35 p1 p2 Qm M1)))) := hw
  refine lv_aload_n X.1.1 X.1.2.1 dX9_shown_0 rfl (lv_at hl 0 rfl) ?_
  refine lv_iload_n X.1.1 X.1.2.1 dX9_shown_1 rfl (lv_at hl 1 rfl) ?_
  refine co_X9_requireCell X hp1 (kc := 8) rmL_ok rm_c (by decide) hR hS kw_1077 hl.1 dX9_shown_2 (Nat.le_of_ble_eq_true rfl) hw (fun M1 H locs hw hR hS => ?_)
  refine lv_aload_n X.1.1 X.1.2.1 dX9_shown_5 rfl (lv_at hl 0 rfl) ?_
  refine gt_10_0 X hR (okf X.2.2.1 rfl) kw_332 dX9_shown_6 ?_
  refine gt_4_2 X hR (okf X.2.2.1 rfl) kw_121 dX9_shown_9 ?_
  refine lv_iload_n X.1.1 X.1.2.1 dX9_shown_12 rfl (lv_at hl 1 rfl) ?_
  have c2 := hw.1
  have hw := hw.2
  refine ls_get (ci := 1) (by decide) (by decide) rfl X c2 (kc := 8) rmL_ok rm_c (by decide) hR hS kw_969 hl.1 dX9_shown_13 (Nat.le_of_ble_eq_true rfl) (fun H locs o3 hR hS => ?_)
  refine ck_1 X hR o3 kw_976 dX9_shown_16 ?_
  refine lv_astore_n (lv' := [(3, .ref (α 1 (M1 14 0 p1))), (0, .ref (α 10 0)), (1, .int (Int32.ofInt p1)), (2, .int (Int32.ofInt p2))]) X.1.1 X.1.2.1 dX9_shown_19 rfl hl (by decide) rfl (fun ls hl => ?_)
  refine lv_aload_n X.1.1 X.1.2.1 dX9_shown_20 rfl (lv_at hl 0 rfl) ?_
  refine gt_1_0 X hR o3 kw_985 dX9_shown_21 ?_
  have o4 := hR.2.2.2.1 _ o3
  refine gt_6_1 X hR o4 kw_895 dX9_shown_24 ?_
  have r5 := hR.r 6 (M1 1 (M1 14 0 p1) 0) 1
  refine sa_const X.1 dX9_shown_27 ?_
  refine sa_icmp_ne (tgt := 35) X.1 r5 (inR_c (a := 1) rfl) dX9_shown_28 (by decide) (fun hc => ?_) (fun hc => ?_)
  · have hw := hw.1 hc
    exact to_X9_shown_35 X hp1 hp2 _ hw _ _ hR hS _ (lv_sub hl [] rfl)
  · have hw := hw.2 hc
    refine lv_iload_n X.1.1 X.1.2.1 dX9_shown_31 rfl (lv_at hl 3 rfl) ?_
    refine sa_if_ge (tgt := 46) X.1 hp2 dX9_shown_32 (by decide) (fun hc => ?_) (fun hc => ?_)
    · have hw := hw.1 hc
      refine lv_aload_n X.1.1 X.1.2.1 dX9_shown_46 rfl (lv_at hl 1 rfl) ?_
      refine cs_X9_refresh X  (kc := 8) rmL_ok rm_c (by decide) hR hS kw_370 hl.1 dX9_shown_47 (Nat.le_of_ble_eq_true rfl) hw (fun M6 H locs hw hR hS => ?_)
      refine lv_aload_n X.1.1 X.1.2.1 dX9_shown_50 rfl (lv_at hl 1 rfl) ?_
      refine co_X9_requireSheets X  (kc := 8) rmL_ok rm_c (by decide) hR hS kw_1343 hl.1 dX9_shown_51 (Nat.le_of_ble_eq_true rfl) hw (fun M7 H locs hw hR hS => ?_)
      refine lv_aload_n X.1.1 X.1.2.1 dX9_shown_54 rfl (lv_at hl 1 rfl) ?_
      refine gt_10_5 X hR (okf X.2.2.1 rfl) kw_337 dX9_shown_55 ?_
      refine lv_iload_n X.1.1 X.1.2.1 dX9_shown_58 rfl (lv_at hl 3 rfl) ?_
      refine cs_X6_pieceBeginOf X (okp X.2.2.1 rfl (by decide)) hp2 (kc := 8) rmL_ok rm_c (by decide) hR hS kw_1365 hl.1 dX9_shown_59 (Nat.le_of_ble_eq_true rfl) hw (fun x9 M8 H locs hw r10 hR hS => ?_)
      refine lv_istore (lv' := [(4, .int (Int32.ofInt x9)), (3, .ref (α 1 (M1 14 0 p1))), (0, .ref (α 10 0)), (1, .int (Int32.ofInt p1)), (2, .int (Int32.ofInt p2))]) X.1.1 X.1.2.1 dX9_shown_62 hl (by decide) rfl (fun ls hl => ?_)
      refine lv_aload_n X.1.1 X.1.2.1 dX9_shown_64 rfl (lv_at hl 2 rfl) ?_
      refine lv_aload_n X.1.1 X.1.2.1 dX9_shown_65 rfl (lv_at hl 1 rfl) ?_
      refine sa_const X.1 dX9_shown_66 ?_
      refine lv_iload X.1.1 X.1.2.1 dX9_shown_67 (lv_at hl 0 rfl) ?_
      refine cs_X9_linesOfRowsOf X o3 (inR_c (a := 0) rfl) r10 (kc := 8) rmL_ok rm_c (by decide) hR hS kw_1404 hl.1 dX9_shown_69 (Nat.le_of_ble_eq_true rfl) hw (fun x12 M11 H locs hw r13 hR hS => ?_)
      refine lv_istore (lv' := [(5, .int (Int32.ofInt x12)), (4, .int (Int32.ofInt x9)), (3, .ref (α 1 (M1 14 0 p1))), (0, .ref (α 10 0)), (1, .int (Int32.ofInt p1)), (2, .int (Int32.ofInt p2))]) X.1.1 X.1.2.1 dX9_shown_72 hl (by decide) rfl (fun ls hl => ?_)
      refine lv_aload_n X.1.1 X.1.2.1 dX9_shown_74 rfl (lv_at hl 3 rfl) ?_
      refine lv_aload_n X.1.1 X.1.2.1 dX9_shown_75 rfl (lv_at hl 2 rfl) ?_
      refine lv_iload X.1.1 X.1.2.1 dX9_shown_76 (lv_at hl 1 rfl) ?_
      refine lv_aload_n X.1.1 X.1.2.1 dX9_shown_78 rfl (lv_at hl 3 rfl) ?_
      refine gt_10_5 X hR (okf X.2.2.1 rfl) kw_337 dX9_shown_79 ?_
      refine lv_iload_n X.1.1 X.1.2.1 dX9_shown_82 rfl (lv_at hl 5 rfl) ?_
      refine cs_X6_pieceEndOf X (okp X.2.2.1 rfl (by decide)) hp2 (kc := 8) rmL_ok rm_c (by decide) hR hS kw_1366 hl.1 dX9_shown_83 (Nat.le_of_ble_eq_true rfl) hw (fun x15 M14 H locs hw r16 hR hS => ?_)
      refine cs_X9_linesOfRowsOf X o3 r10 r16 (kc := 8) rmL_ok rm_c (by decide) hR hS kw_1404 hl.1 dX9_shown_86 (Nat.le_of_ble_eq_true rfl) hw (fun x18 M17 H locs hw r19 hR hS => ?_)
      refine lv_istore (lv' := [(6, .int (Int32.ofInt x18)), (5, .int (Int32.ofInt x12)), (4, .int (Int32.ofInt x9)), (3, .ref (α 1 (M1 14 0 p1))), (0, .ref (α 10 0)), (1, .int (Int32.ofInt p1)), (2, .int (Int32.ofInt p2))]) X.1.1 X.1.2.1 dX9_shown_89 hl (by decide) rfl (fun ls hl => ?_)
      refine sa_const X.1 dX9_shown_91 ?_
      refine lv_iload X.1.1 X.1.2.1 dX9_shown_92 (lv_at hl 0 rfl) ?_
      refine lv_aload_n X.1.1 X.1.2.1 dX9_shown_94 rfl (lv_at hl 4 rfl) ?_
      refine gt_10_2 X hR (okf X.2.2.1 rfl) kw_334 dX9_shown_95 ?_
      refine gt_5_1 X hR (okp X.2.2.1 rfl (by decide)) kw_193 dX9_shown_98 ?_
      refine lv_iload_n X.1.1 X.1.2.1 dX9_shown_101 rfl (lv_at hl 5 rfl) ?_
      have c20 := hw.1
      have hw := hw.2
      refine ra_34 X hR (okp X.2.2.1 rfl (pr_5 X.2.2.1 (okp X.2.2.1 rfl (by decide)))) c20 dX9_shown_102 ?_
      have r21 := hR.r 34 0 p1
      refine lv_iload X.1.1 X.1.2.1 dX9_shown_103 (lv_at hl 1 rfl) ?_
      have c22 := hw.1
      have hw := hw.2
      refine sa_isub X.1 dX9_shown_105 ?_
      refine sa_min (R := rmL 8) X.1 r19 c22 kw_1408 hl.1 kmath_min_s kmath_i kmath_min_c (by decide) (Nat.le_of_ble_eq_true rfl) rm_c dX9_shown_106 ?_
      refine sa_max (R := rmL 8) X.1 (inR_c (a := 0) rfl) (inR_min r19 c22) hl.1 kw_1318 kmath_max_s kmath_i kmath_max_c (by decide) (Nat.le_of_ble_eq_true rfl) rm_c dX9_shown_109 ?_
      exact sa_iret X.1 X.2.2.2.1 X.2.2.2.2 hR hS (inR_max (inR_c (a := 0) rfl) (inR_min r19 c22)) hw dX9_shown_112
    · have hw := hw.2 hc
      exact to_X9_shown_35 X hp1 hp2 _ hw _ _ hR hS _ (lv_sub hl [] rfl)
theorem mo_X9_shown {l : Launch} {G : Gx} {e0 : Nat} {α : Ax} {κ : Nat → Int} {B : Nat} {p1 : Int} {p2 : Int} (hκ : kOK κ) (hp1 : inR p1) (hp2 : inR p2) {M : Mem} {Qm : Int → Mem → Prop} (hw : wo_X9_shown p1 p2 M Qm) : CI l yX9_shown (Cond.code yX9_shown cX9_shown 7 (some .int)) 8 G e0 α κ B [.ref (α 10 0), .int (Int32.ofInt p1), .int (Int32.ofInt p2)] M Qm :=
  CI.mk hκ (by decide +kernel) rfl (Nat.le_of_ble_eq_true rfl) (lv := [(0, .ref (α 10 0)), (1, .int (Int32.ofInt p1)), (2, .int (Int32.ofInt p2))]) rfl (fun p e s m args below meth c ls X hR hS hl => to_X9_shown X hp1 hp2 hw _ _ hR hS ls hl)
theorem co_X9_shown {cc : ByteArray} {nL : Nat} {own : String} {ret : Option FieldType} {idx pc : Nat} {p1 : Int} {p2 : Int} (X : CX p m c cc nL s args own G B κ meth ret) (hp1 : inR p1) (hp2 : inR p2) {kc : Nat} {R : Room} {cells slots : Nat} (hRr : RmOK R kc) (hcel : cells ≤ R.cells ∧ slots ≤ R.slots) (hk : 8 + 1 ≤ kc) {M : Mem} {H : Heap} {locs : List Loc} (hR : Rp G e0 α κ B M H) (hS : va_S (fun q => B ≤ q) s.heap H locs) (k1 : Cond.methodLink own idx yX9_shown ∈ gw) {ls : Array Slot} (hml : ls.size = nL) {rest : List Value} (hd : decode cc pc = .ok (.invokevirtual idx, 3)) (hrest : (rest.map fun v => v.category).sum ≤ 8) {Q : State → Prop} {Qm : Int → Mem → Prop} (hw : wo_X9_shown p1 p2 M Qm) (kk : ∀ (r : Int) (M1 : Mem) (H1 : Heap) (locs1 : List Loc), Qm r M1 → inR r → Rp G e0 α κ B M1 H1 → va_S (fun q => B ≤ q) s.heap H1 locs1 → W p l e R s m args below meth c H1 locs1 cells slots Q (F0 m (pc + 3) ls (.int (Int32.ofInt r) :: rest))) : W p l e R s m args below meth c H locs cells slots Q (F0 m pc ls (.int (Int32.ofInt p2) :: .int (Int32.ofInt p1) :: .ref (α 10 0) :: rest)) :=
  sa_callVI 8 (n := 2) (As := [.int (Int32.ofInt p1), .int (Int32.ofInt p2)]) (rest := rest) X.1 X.2.1 hR hS (mo_X9_shown X.2.2.1 hp1 hp2 hw) k1 kw_1400 kw_1401 kw_38 kw_1402 ⟨rfl, by decide +kernel, by decide +kernel, by decide +kernel⟩ (rm_ok hRr hk (by decide)) (rc_10 X hR (okf X.2.2.1 rfl)) rfl rfl hrest hml hd hcel kk
def wo_X9_used (p1 : Int) (M : Mem) (Qm : Int → Mem → Prop) : Prop := wp_X9_refresh M fun (M1 : Mem) => wo_X9_requireSheets M1 fun (M2 : Mem) => wo_X9_requirePage p1 M2 fun (M3 : Mem) => (0 ≤ p1 ∧ p1 < 904) ∧ Qm (M3 42 0 p1) M3
set_option maxHeartbeats 4000000 in
set_option maxRecDepth 100000 in
theorem to_X9_used {p1 : Int} (X : CX p m c cX9_used 2 s args RX9 G B κ meth (some .int)) (hp1 : inR p1) {M : Mem} {Qm : Int → Mem → Prop} (hw : wo_X9_used p1 M Qm) (H : Heap) (locs : List Loc) (hR : Rp G e0 α κ B M H) (hS : va_S (fun q => B ≤ q) s.heap H locs) (ls : Array Slot) (hl : lv_has ls 2 [(0, .ref (α 10 0)), (1, .int (Int32.ofInt p1))]) : WI p l e 8 s m args below meth c G e0 α κ B Qm H locs 0 ls [] := by
  have hw : wp_X9_refresh M fun (M1 : Mem) => wo_X9_requireSheets M1 fun (M2 : Mem) => wo_X9_requirePage p1 M2 fun (M3 : Mem) => (0 ≤ p1 ∧ p1 < 904) ∧ Qm (M3 42 0 p1) M3 := hw
  refine lv_aload_n X.1.1 X.1.2.1 dX9_used_0 rfl (lv_at hl 0 rfl) ?_
  refine cs_X9_refresh X  (kc := 8) rmL_ok rm_c (by decide) hR hS kw_370 hl.1 dX9_used_1 (Nat.le_of_ble_eq_true rfl) hw (fun M1 H locs hw hR hS => ?_)
  refine lv_aload_n X.1.1 X.1.2.1 dX9_used_4 rfl (lv_at hl 0 rfl) ?_
  refine co_X9_requireSheets X  (kc := 8) rmL_ok rm_c (by decide) hR hS kw_1343 hl.1 dX9_used_5 (Nat.le_of_ble_eq_true rfl) hw (fun M2 H locs hw hR hS => ?_)
  refine lv_aload_n X.1.1 X.1.2.1 dX9_used_8 rfl (lv_at hl 0 rfl) ?_
  refine lv_iload_n X.1.1 X.1.2.1 dX9_used_9 rfl (lv_at hl 1 rfl) ?_
  refine co_X9_requirePage X hp1 (kc := 8) rmL_ok rm_c (by decide) hR hS kw_1380 hl.1 dX9_used_10 (Nat.le_of_ble_eq_true rfl) hw (fun M3 H locs hw hR hS => ?_)
  refine lv_aload_n X.1.1 X.1.2.1 dX9_used_13 rfl (lv_at hl 0 rfl) ?_
  refine gt_10_5 X hR (okf X.2.2.1 rfl) kw_337 dX9_used_14 ?_
  refine gt_7_8 X hR (okp X.2.2.1 rfl (by decide)) kw_252 dX9_used_17 ?_
  refine lv_iload_n X.1.1 X.1.2.1 dX9_used_20 rfl (lv_at hl 1 rfl) ?_
  have c4 := hw.1
  have hw := hw.2
  refine ra_42 X hR (okp X.2.2.1 rfl (pr_7 X.2.2.1 (okp X.2.2.1 rfl (by decide)))) c4 dX9_used_21 ?_
  have r5 := hR.r 42 0 p1
  exact sa_iret X.1 X.2.2.2.1 X.2.2.2.2 hR hS r5 hw dX9_used_22
theorem mo_X9_used {l : Launch} {G : Gx} {e0 : Nat} {α : Ax} {κ : Nat → Int} {B : Nat} {p1 : Int} (hκ : kOK κ) (hp1 : inR p1) {M : Mem} {Qm : Int → Mem → Prop} (hw : wo_X9_used p1 M Qm) : CI l yX9_used (Cond.code yX9_used cX9_used 2 (some .int)) 8 G e0 α κ B [.ref (α 10 0), .int (Int32.ofInt p1)] M Qm :=
  CI.mk hκ (by decide +kernel) rfl (Nat.le_of_ble_eq_true rfl) (lv := [(0, .ref (α 10 0)), (1, .int (Int32.ofInt p1))]) rfl (fun p e s m args below meth c ls X hR hS hl => to_X9_used X hp1 hw _ _ hR hS ls hl)
theorem co_X9_used {cc : ByteArray} {nL : Nat} {own : String} {ret : Option FieldType} {idx pc : Nat} {p1 : Int} (X : CX p m c cc nL s args own G B κ meth ret) (hp1 : inR p1) {kc : Nat} {R : Room} {cells slots : Nat} (hRr : RmOK R kc) (hcel : cells ≤ R.cells ∧ slots ≤ R.slots) (hk : 8 + 1 ≤ kc) {M : Mem} {H : Heap} {locs : List Loc} (hR : Rp G e0 α κ B M H) (hS : va_S (fun q => B ≤ q) s.heap H locs) (k1 : Cond.methodLink own idx yX9_used ∈ gw) {ls : Array Slot} (hml : ls.size = nL) {rest : List Value} (hd : decode cc pc = .ok (.invokevirtual idx, 3)) (hrest : (rest.map fun v => v.category).sum ≤ 8) {Q : State → Prop} {Qm : Int → Mem → Prop} (hw : wo_X9_used p1 M Qm) (kk : ∀ (r : Int) (M1 : Mem) (H1 : Heap) (locs1 : List Loc), Qm r M1 → inR r → Rp G e0 α κ B M1 H1 → va_S (fun q => B ≤ q) s.heap H1 locs1 → W p l e R s m args below meth c H1 locs1 cells slots Q (F0 m (pc + 3) ls (.int (Int32.ofInt r) :: rest))) : W p l e R s m args below meth c H locs cells slots Q (F0 m pc ls (.int (Int32.ofInt p1) :: .ref (α 10 0) :: rest)) :=
  sa_callVI 8 (n := 1) (As := [.int (Int32.ofInt p1)]) (rest := rest) X.1 X.2.1 hR hS (mo_X9_used X.2.2.1 hp1 hw) k1 kw_1377 kw_1378 kw_38 kw_1379 ⟨rfl, by decide +kernel, by decide +kernel, by decide +kernel⟩ (rm_ok hRr hk (by decide)) (rc_10 X hR (okf X.2.2.1 rfl)) rfl rfl hrest hml hd hcel kk
def wo_X9_notesOn (p1 : Int) (M : Mem) (Qm : Int → Mem → Prop) : Prop := wp_X9_refresh M fun (M1 : Mem) => wo_X9_requireSheets M1 fun (M2 : Mem) => wo_X9_requirePage p1 M2 fun (M3 : Mem) => (0 ≤ p1 ∧ p1 < 904) ∧ Qm (M3 43 0 p1) M3
set_option maxHeartbeats 4000000 in
set_option maxRecDepth 100000 in
theorem to_X9_notesOn {p1 : Int} (X : CX p m c cX9_notesOn 2 s args RX9 G B κ meth (some .int)) (hp1 : inR p1) {M : Mem} {Qm : Int → Mem → Prop} (hw : wo_X9_notesOn p1 M Qm) (H : Heap) (locs : List Loc) (hR : Rp G e0 α κ B M H) (hS : va_S (fun q => B ≤ q) s.heap H locs) (ls : Array Slot) (hl : lv_has ls 2 [(0, .ref (α 10 0)), (1, .int (Int32.ofInt p1))]) : WI p l e 8 s m args below meth c G e0 α κ B Qm H locs 0 ls [] := by
  have hw : wp_X9_refresh M fun (M1 : Mem) => wo_X9_requireSheets M1 fun (M2 : Mem) => wo_X9_requirePage p1 M2 fun (M3 : Mem) => (0 ≤ p1 ∧ p1 < 904) ∧ Qm (M3 43 0 p1) M3 := hw
  refine lv_aload_n X.1.1 X.1.2.1 dX9_notesOn_0 rfl (lv_at hl 0 rfl) ?_
  refine cs_X9_refresh X  (kc := 8) rmL_ok rm_c (by decide) hR hS kw_370 hl.1 dX9_notesOn_1 (Nat.le_of_ble_eq_true rfl) hw (fun M1 H locs hw hR hS => ?_)
  refine lv_aload_n X.1.1 X.1.2.1 dX9_notesOn_4 rfl (lv_at hl 0 rfl) ?_
  refine co_X9_requireSheets X  (kc := 8) rmL_ok rm_c (by decide) hR hS kw_1343 hl.1 dX9_notesOn_5 (Nat.le_of_ble_eq_true rfl) hw (fun M2 H locs hw hR hS => ?_)
  refine lv_aload_n X.1.1 X.1.2.1 dX9_notesOn_8 rfl (lv_at hl 0 rfl) ?_
  refine lv_iload_n X.1.1 X.1.2.1 dX9_notesOn_9 rfl (lv_at hl 1 rfl) ?_
  refine co_X9_requirePage X hp1 (kc := 8) rmL_ok rm_c (by decide) hR hS kw_1380 hl.1 dX9_notesOn_10 (Nat.le_of_ble_eq_true rfl) hw (fun M3 H locs hw hR hS => ?_)
  refine lv_aload_n X.1.1 X.1.2.1 dX9_notesOn_13 rfl (lv_at hl 0 rfl) ?_
  refine gt_10_5 X hR (okf X.2.2.1 rfl) kw_337 dX9_notesOn_14 ?_
  refine gt_7_9 X hR (okp X.2.2.1 rfl (by decide)) kw_254 dX9_notesOn_17 ?_
  refine lv_iload_n X.1.1 X.1.2.1 dX9_notesOn_20 rfl (lv_at hl 1 rfl) ?_
  have c4 := hw.1
  have hw := hw.2
  refine ra_43 X hR (okp X.2.2.1 rfl (pr_7 X.2.2.1 (okp X.2.2.1 rfl (by decide)))) c4 dX9_notesOn_21 ?_
  have r5 := hR.r 43 0 p1
  exact sa_iret X.1 X.2.2.2.1 X.2.2.2.2 hR hS r5 hw dX9_notesOn_22
theorem mo_X9_notesOn {l : Launch} {G : Gx} {e0 : Nat} {α : Ax} {κ : Nat → Int} {B : Nat} {p1 : Int} (hκ : kOK κ) (hp1 : inR p1) {M : Mem} {Qm : Int → Mem → Prop} (hw : wo_X9_notesOn p1 M Qm) : CI l yX9_notesOn (Cond.code yX9_notesOn cX9_notesOn 2 (some .int)) 8 G e0 α κ B [.ref (α 10 0), .int (Int32.ofInt p1)] M Qm :=
  CI.mk hκ (by decide +kernel) rfl (Nat.le_of_ble_eq_true rfl) (lv := [(0, .ref (α 10 0)), (1, .int (Int32.ofInt p1))]) rfl (fun p e s m args below meth c ls X hR hS hl => to_X9_notesOn X hp1 hw _ _ hR hS ls hl)
theorem co_X9_notesOn {cc : ByteArray} {nL : Nat} {own : String} {ret : Option FieldType} {idx pc : Nat} {p1 : Int} (X : CX p m c cc nL s args own G B κ meth ret) (hp1 : inR p1) {kc : Nat} {R : Room} {cells slots : Nat} (hRr : RmOK R kc) (hcel : cells ≤ R.cells ∧ slots ≤ R.slots) (hk : 8 + 1 ≤ kc) {M : Mem} {H : Heap} {locs : List Loc} (hR : Rp G e0 α κ B M H) (hS : va_S (fun q => B ≤ q) s.heap H locs) (k1 : Cond.methodLink own idx yX9_notesOn ∈ gw) {ls : Array Slot} (hml : ls.size = nL) {rest : List Value} (hd : decode cc pc = .ok (.invokevirtual idx, 3)) (hrest : (rest.map fun v => v.category).sum ≤ 8) {Q : State → Prop} {Qm : Int → Mem → Prop} (hw : wo_X9_notesOn p1 M Qm) (kk : ∀ (r : Int) (M1 : Mem) (H1 : Heap) (locs1 : List Loc), Qm r M1 → inR r → Rp G e0 α κ B M1 H1 → va_S (fun q => B ≤ q) s.heap H1 locs1 → W p l e R s m args below meth c H1 locs1 cells slots Q (F0 m (pc + 3) ls (.int (Int32.ofInt r) :: rest))) : W p l e R s m args below meth c H locs cells slots Q (F0 m pc ls (.int (Int32.ofInt p1) :: .ref (α 10 0) :: rest)) :=
  sa_callVI 8 (n := 1) (As := [.int (Int32.ofInt p1)]) (rest := rest) X.1 X.2.1 hR hS (mo_X9_notesOn X.2.2.1 hp1 hw) k1 kw_1387 kw_1388 kw_38 kw_1389 ⟨rfl, by decide +kernel, by decide +kernel, by decide +kernel⟩ (rm_ok hRr hk (by decide)) (rc_10 X hR (okf X.2.2.1 rfl)) rfl rfl hrest hml hd hcel kk
def wo_X9_total (p1 : Int) (M : Mem) (Qm : Int → Mem → Prop) : Prop := wo_X9_requireColumn p1 M fun (M1 : Mem) => wp_X3_sumOfBody 0 (M1 16 0 (-1)) p1 M1 fun (x4 : Int) (M3 : Mem) => Qm x4 M3
set_option maxHeartbeats 4000000 in
set_option maxRecDepth 100000 in
theorem to_X9_total {p1 : Int} (X : CX p m c cX9_total 2 s args RX9 G B κ meth (some .int)) (hp1 : inR p1) {M : Mem} {Qm : Int → Mem → Prop} (hw : wo_X9_total p1 M Qm) (H : Heap) (locs : List Loc) (hR : Rp G e0 α κ B M H) (hS : va_S (fun q => B ≤ q) s.heap H locs) (ls : Array Slot) (hl : lv_has ls 2 [(0, .ref (α 10 0)), (1, .int (Int32.ofInt p1))]) : WI p l e 5 s m args below meth c G e0 α κ B Qm H locs 0 ls [] := by
  have hw : wo_X9_requireColumn p1 M fun (M1 : Mem) => wp_X3_sumOfBody 0 (M1 16 0 (-1)) p1 M1 fun (x4 : Int) (M3 : Mem) => Qm x4 M3 := hw
  refine lv_aload_n X.1.1 X.1.2.1 dX9_total_0 rfl (lv_at hl 0 rfl) ?_
  refine lv_iload_n X.1.1 X.1.2.1 dX9_total_1 rfl (lv_at hl 1 rfl) ?_
  refine co_X9_requireColumn X hp1 (kc := 5) rmL_ok rm_c (by decide) hR hS kw_959 hl.1 dX9_total_2 (Nat.le_of_ble_eq_true rfl) hw (fun M1 H locs hw hR hS => ?_)
  refine lv_aload_n X.1.1 X.1.2.1 dX9_total_5 rfl (lv_at hl 0 rfl) ?_
  refine gt_10_0 X hR (okf X.2.2.1 rfl) kw_332 dX9_total_6 ?_
  refine sa_const X.1 dX9_total_9 ?_
  refine lv_aload_n X.1.1 X.1.2.1 dX9_total_10 rfl (lv_at hl 0 rfl) ?_
  refine gt_10_0 X hR (okf X.2.2.1 rfl) kw_332 dX9_total_11 ?_
  refine gt_4_4 X hR (okf X.2.2.1 rfl) kw_126 dX9_total_14 ?_
  refine ls_size (by decide) (by decide) X (kc := 5) rmL_ok rm_c (by decide) hR hS kw_753 hl.1 dX9_total_17 (Nat.le_of_ble_eq_true rfl) (fun H locs hR hS => ?_)
  have r2 := hR.r 16 0 (-1)
  refine lv_iload_n X.1.1 X.1.2.1 dX9_total_20 rfl (lv_at hl 1 rfl) ?_
  refine cs_X3_sumOfBody X (inR_c (a := 0) rfl) r2 hp1 (kc := 5) rmL_ok rm_c (by decide) hR hS kw_1355 hl.1 dX9_total_21 (Nat.le_of_ble_eq_true rfl) hw (fun x4 M3 H locs hw r5 hR hS => ?_)
  exact sa_iret X.1 X.2.2.2.1 X.2.2.2.2 hR hS r5 hw dX9_total_24
theorem mo_X9_total {l : Launch} {G : Gx} {e0 : Nat} {α : Ax} {κ : Nat → Int} {B : Nat} {p1 : Int} (hκ : kOK κ) (hp1 : inR p1) {M : Mem} {Qm : Int → Mem → Prop} (hw : wo_X9_total p1 M Qm) : CI l yX9_total (Cond.code yX9_total cX9_total 2 (some .int)) 5 G e0 α κ B [.ref (α 10 0), .int (Int32.ofInt p1)] M Qm :=
  CI.mk hκ (by decide +kernel) rfl (Nat.le_of_ble_eq_true rfl) (lv := [(0, .ref (α 10 0)), (1, .int (Int32.ofInt p1))]) rfl (fun p e s m args below meth c ls X hR hS hl => to_X9_total X hp1 hw _ _ hR hS ls hl)
theorem co_X9_total {cc : ByteArray} {nL : Nat} {own : String} {ret : Option FieldType} {idx pc : Nat} {p1 : Int} (X : CX p m c cc nL s args own G B κ meth ret) (hp1 : inR p1) {kc : Nat} {R : Room} {cells slots : Nat} (hRr : RmOK R kc) (hcel : cells ≤ R.cells ∧ slots ≤ R.slots) (hk : 5 + 1 ≤ kc) {M : Mem} {H : Heap} {locs : List Loc} (hR : Rp G e0 α κ B M H) (hS : va_S (fun q => B ≤ q) s.heap H locs) (k1 : Cond.methodLink own idx yX9_total ∈ gw) {ls : Array Slot} (hml : ls.size = nL) {rest : List Value} (hd : decode cc pc = .ok (.invokevirtual idx, 3)) (hrest : (rest.map fun v => v.category).sum ≤ 8) {Q : State → Prop} {Qm : Int → Mem → Prop} (hw : wo_X9_total p1 M Qm) (kk : ∀ (r : Int) (M1 : Mem) (H1 : Heap) (locs1 : List Loc), Qm r M1 → inR r → Rp G e0 α κ B M1 H1 → va_S (fun q => B ≤ q) s.heap H1 locs1 → W p l e R s m args below meth c H1 locs1 cells slots Q (F0 m (pc + 3) ls (.int (Int32.ofInt r) :: rest))) : W p l e R s m args below meth c H locs cells slots Q (F0 m pc ls (.int (Int32.ofInt p1) :: .ref (α 10 0) :: rest)) :=
  sa_callVI 5 (n := 1) (As := [.int (Int32.ofInt p1)]) (rest := rest) X.1 X.2.1 hR hS (mo_X9_total X.2.2.1 hp1 hw) k1 kw_1352 kw_1353 kw_38 kw_1354 ⟨rfl, by decide +kernel, by decide +kernel, by decide +kernel⟩ (rm_ok hRr hk (by decide)) (rc_10 X hR (okf X.2.2.1 rfl)) rfl rfl hrest hml hd hcel kk
def wo_X9_carried (p1 : Int) (p2 : Int) (M : Mem) (Qm : Int → Mem → Prop) : Prop := wo_X9_requireColumn p2 M fun (M1 : Mem) => wp_X9_refresh M1 fun (M2 : Mem) => wo_X9_requireSheets M2 fun (M3 : Mem) => wo_X9_requirePage p1 M3 fun (M4 : Mem) => wp_X6_carriedOut 0 p1 p2 M4 fun (x6 : Int) (M5 : Mem) => Qm x6 M5
set_option maxHeartbeats 4000000 in
set_option maxRecDepth 100000 in
theorem to_X9_carried {p1 : Int} {p2 : Int} (X : CX p m c cX9_carried 3 s args RX9 G B κ meth (some .int)) (hp1 : inR p1) (hp2 : inR p2) {M : Mem} {Qm : Int → Mem → Prop} (hw : wo_X9_carried p1 p2 M Qm) (H : Heap) (locs : List Loc) (hR : Rp G e0 α κ B M H) (hS : va_S (fun q => B ≤ q) s.heap H locs) (ls : Array Slot) (hl : lv_has ls 3 [(0, .ref (α 10 0)), (1, .int (Int32.ofInt p1)), (2, .int (Int32.ofInt p2))]) : WI p l e 8 s m args below meth c G e0 α κ B Qm H locs 0 ls [] := by
  have hw : wo_X9_requireColumn p2 M fun (M1 : Mem) => wp_X9_refresh M1 fun (M2 : Mem) => wo_X9_requireSheets M2 fun (M3 : Mem) => wo_X9_requirePage p1 M3 fun (M4 : Mem) => wp_X6_carriedOut 0 p1 p2 M4 fun (x6 : Int) (M5 : Mem) => Qm x6 M5 := hw
  refine lv_aload_n X.1.1 X.1.2.1 dX9_carried_0 rfl (lv_at hl 0 rfl) ?_
  refine lv_iload_n X.1.1 X.1.2.1 dX9_carried_1 rfl (lv_at hl 2 rfl) ?_
  refine co_X9_requireColumn X hp2 (kc := 8) rmL_ok rm_c (by decide) hR hS kw_959 hl.1 dX9_carried_2 (Nat.le_of_ble_eq_true rfl) hw (fun M1 H locs hw hR hS => ?_)
  refine lv_aload_n X.1.1 X.1.2.1 dX9_carried_5 rfl (lv_at hl 0 rfl) ?_
  refine cs_X9_refresh X  (kc := 8) rmL_ok rm_c (by decide) hR hS kw_370 hl.1 dX9_carried_6 (Nat.le_of_ble_eq_true rfl) hw (fun M2 H locs hw hR hS => ?_)
  refine lv_aload_n X.1.1 X.1.2.1 dX9_carried_9 rfl (lv_at hl 0 rfl) ?_
  refine co_X9_requireSheets X  (kc := 8) rmL_ok rm_c (by decide) hR hS kw_1343 hl.1 dX9_carried_10 (Nat.le_of_ble_eq_true rfl) hw (fun M3 H locs hw hR hS => ?_)
  refine lv_aload_n X.1.1 X.1.2.1 dX9_carried_13 rfl (lv_at hl 0 rfl) ?_
  refine lv_iload_n X.1.1 X.1.2.1 dX9_carried_14 rfl (lv_at hl 1 rfl) ?_
  refine co_X9_requirePage X hp1 (kc := 8) rmL_ok rm_c (by decide) hR hS kw_1380 hl.1 dX9_carried_15 (Nat.le_of_ble_eq_true rfl) hw (fun M4 H locs hw hR hS => ?_)
  refine lv_aload_n X.1.1 X.1.2.1 dX9_carried_18 rfl (lv_at hl 0 rfl) ?_
  refine gt_10_5 X hR (okf X.2.2.1 rfl) kw_337 dX9_carried_19 ?_
  refine lv_iload_n X.1.1 X.1.2.1 dX9_carried_22 rfl (lv_at hl 1 rfl) ?_
  refine lv_iload_n X.1.1 X.1.2.1 dX9_carried_23 rfl (lv_at hl 2 rfl) ?_
  refine cs_X6_carriedOut X (okp X.2.2.1 rfl (by decide)) hp1 hp2 (kc := 8) rmL_ok rm_c (by decide) hR hS kw_1394 hl.1 dX9_carried_24 (Nat.le_of_ble_eq_true rfl) hw (fun x6 M5 H locs hw r7 hR hS => ?_)
  exact sa_iret X.1 X.2.2.2.1 X.2.2.2.2 hR hS r7 hw dX9_carried_27
theorem mo_X9_carried {l : Launch} {G : Gx} {e0 : Nat} {α : Ax} {κ : Nat → Int} {B : Nat} {p1 : Int} {p2 : Int} (hκ : kOK κ) (hp1 : inR p1) (hp2 : inR p2) {M : Mem} {Qm : Int → Mem → Prop} (hw : wo_X9_carried p1 p2 M Qm) : CI l yX9_carried (Cond.code yX9_carried cX9_carried 3 (some .int)) 8 G e0 α κ B [.ref (α 10 0), .int (Int32.ofInt p1), .int (Int32.ofInt p2)] M Qm :=
  CI.mk hκ (by decide +kernel) rfl (Nat.le_of_ble_eq_true rfl) (lv := [(0, .ref (α 10 0)), (1, .int (Int32.ofInt p1)), (2, .int (Int32.ofInt p2))]) rfl (fun p e s m args below meth c ls X hR hS hl => to_X9_carried X hp1 hp2 hw _ _ hR hS ls hl)
theorem co_X9_carried {cc : ByteArray} {nL : Nat} {own : String} {ret : Option FieldType} {idx pc : Nat} {p1 : Int} {p2 : Int} (X : CX p m c cc nL s args own G B κ meth ret) (hp1 : inR p1) (hp2 : inR p2) {kc : Nat} {R : Room} {cells slots : Nat} (hRr : RmOK R kc) (hcel : cells ≤ R.cells ∧ slots ≤ R.slots) (hk : 8 + 1 ≤ kc) {M : Mem} {H : Heap} {locs : List Loc} (hR : Rp G e0 α κ B M H) (hS : va_S (fun q => B ≤ q) s.heap H locs) (k1 : Cond.methodLink own idx yX9_carried ∈ gw) {ls : Array Slot} (hml : ls.size = nL) {rest : List Value} (hd : decode cc pc = .ok (.invokevirtual idx, 3)) (hrest : (rest.map fun v => v.category).sum ≤ 8) {Q : State → Prop} {Qm : Int → Mem → Prop} (hw : wo_X9_carried p1 p2 M Qm) (kk : ∀ (r : Int) (M1 : Mem) (H1 : Heap) (locs1 : List Loc), Qm r M1 → inR r → Rp G e0 α κ B M1 H1 → va_S (fun q => B ≤ q) s.heap H1 locs1 → W p l e R s m args below meth c H1 locs1 cells slots Q (F0 m (pc + 3) ls (.int (Int32.ofInt r) :: rest))) : W p l e R s m args below meth c H locs cells slots Q (F0 m pc ls (.int (Int32.ofInt p2) :: .int (Int32.ofInt p1) :: .ref (α 10 0) :: rest)) :=
  sa_callVI 8 (n := 2) (As := [.int (Int32.ofInt p1), .int (Int32.ofInt p2)]) (rest := rest) X.1 X.2.1 hR hS (mo_X9_carried X.2.2.1 hp1 hp2 hw) k1 kw_1391 kw_1392 kw_38 kw_1393 ⟨rfl, by decide +kernel, by decide +kernel, by decide +kernel⟩ (rm_ok hRr hk (by decide)) (rc_10 X hR (okf X.2.2.1 rfl)) rfl rfl hrest hml hd hcel kk
def wo_X9_carriedByCells_124 (p1 : Int) (p2 : Int) (Qm : Int → Mem → Prop) (K23 : Int → Int → Mem → Prop) (y3 : Int) (y4 : Int) (M : Mem) : Prop := (inR (y4 + 1)) ∧ K23 y3 (y4 + 1) M
def wo_X9_carriedByCells_23 (p1 : Int) (p2 : Int) (Qm : Int → Mem → Prop) : Nat → Int → Int → Mem → Prop
  | 0 => fun _ _ _ => False
  | n + 1 => fun y3 y4 M => (((M 14 0 (-1)) ≤ y4 → Qm y3 M) ∧ (y4 < (M 14 0 (-1)) → (0 ≤ y4 ∧ y4 < M 14 0 (-1)) ∧ wp_X0_showsFigure (M 14 0 y4) M fun (x9 : Int) (M8 : Mem) => (((if x9 = 0 then (0 : Int) else (if ¬ (M8 1 (M 14 0 y4) 1) = p2 then (0 : Int) else (if ¬ (M8 6 (M8 1 (M 14 0 y4) 0) 1) = 1 then (0 : Int) else 1))) = 0 → wo_X9_carriedByCells_124 p1 p2 Qm (wo_X9_carriedByCells_23 p1 p2 Qm n) y3 y4 M8) ∧ (¬ (if x9 = 0 then (0 : Int) else (if ¬ (M8 1 (M 14 0 y4) 1) = p2 then (0 : Int) else (if ¬ (M8 6 (M8 1 (M 14 0 y4) 0) 1) = 1 then (0 : Int) else 1))) = 0 → (0 ≤ (M8 6 (M8 1 (M 14 0 y4) 0) 0) ∧ (M8 6 (M8 1 (M 14 0 y4) 0) 0) < 29) ∧ ((p1 < (M8 45 0 (M8 6 (M8 1 (M 14 0 y4) 0) 0)) → wo_X9_carriedByCells_124 p1 p2 Qm (wo_X9_carriedByCells_23 p1 p2 Qm n) y3 y4 M8) ∧ ((M8 45 0 (M8 6 (M8 1 (M 14 0 y4) 0) 0)) ≤ p1 → (inR (y3 + (M8 1 (M 14 0 y4) 9))) ∧ wo_X9_carriedByCells_124 p1 p2 Qm (wo_X9_carriedByCells_23 p1 p2 Qm n) (y3 + (M8 1 (M 14 0 y4) 9)) y4 M8))))))
def wo_X9_carriedByCells (p1 : Int) (p2 : Int) (M : Mem) (Qm : Int → Mem → Prop) : Prop := wo_X9_requireColumn p2 M fun (M1 : Mem) => wp_X9_refresh M1 fun (M2 : Mem) => wo_X9_requireSheets M2 fun (M3 : Mem) => wo_X9_requirePage p1 M3 fun (M4 : Mem) => (∃ n25 : Nat, wo_X9_carriedByCells_23 p1 p2 Qm n25 0 0 M4)
set_option maxHeartbeats 4000000 in
set_option maxRecDepth 100000 in
theorem to_X9_carriedByCells_124 {p1 : Int} {p2 : Int} (X : CX p m c cX9_carriedByCells 7 s args RX9 G B κ meth (some .int)) (hp1 : inR p1) (hp2 : inR p2) {Qm : Int → Mem → Prop} {K23 : Int → Int → Mem → Prop} (hK23 : ∀ y3 : Int, ∀ y4 : Int, ∀ M : Mem, K23 y3 y4 M → inR y3 → inR y4 → ∀ (H : Heap) (locs : List Loc), Rp G e0 α κ B M H → va_S (fun q => B ≤ q) s.heap H locs → ∀ (ls : Array Slot), lv_has ls 7 [(0, .ref (α 10 0)), (1, .int (Int32.ofInt p1)), (2, .int (Int32.ofInt p2)), (3, .int (Int32.ofInt y3)), (4, .int (Int32.ofInt y4))] → WI p l e 8 s m args below meth c G e0 α κ B Qm H locs 23 ls []) : ∀ y3 : Int, ∀ y4 : Int, ∀ M : Mem, wo_X9_carriedByCells_124 p1 p2 Qm K23 y3 y4 M → inR y3 → inR y4 → ∀ (H : Heap) (locs : List Loc), Rp G e0 α κ B M H → va_S (fun q => B ≤ q) s.heap H locs → ∀ (ls : Array Slot), lv_has ls 7 [(0, .ref (α 10 0)), (1, .int (Int32.ofInt p1)), (2, .int (Int32.ofInt p2)), (3, .int (Int32.ofInt y3)), (4, .int (Int32.ofInt y4))] → WI p l e 8 s m args below meth c G e0 α κ B Qm H locs 124 ls [] := by
  intro y3 y4 M hw hy3 hy4 H locs hR hS ls hl
  have hw : (inR (y4 + 1)) ∧ K23 y3 (y4 + 1) M := hw
  have c18 := hw.1
  have hw := hw.2
  refine lv_iinc (v := Int32.ofInt (y4 + 1)) (lv' := [(4, .int (Int32.ofInt (y4 + 1))), (0, .ref (α 10 0)), (1, .int (Int32.ofInt p1)), (2, .int (Int32.ofInt p2)), (3, .int (Int32.ofInt y3))]) X.1.1 X.1.2.1 dX9_carriedByCells_124 hl (k := 4) rfl (Int32.ofInt_add _ _).symm (by decide) rfl (fun ls hl => ?_)
  refine lv_goto (tgt := 23) X.1.1 X.1.2.1 dX9_carriedByCells_127 (by decide) ?_
  exact hK23 _ _ _ hw hy3 c18 _ _ hR hS _ (lv_sub hl [1, 2, 3, 4, 0] rfl)
set_option maxHeartbeats 4000000 in
set_option maxRecDepth 100000 in
theorem to_X9_carriedByCells_23 {p1 : Int} {p2 : Int} (X : CX p m c cX9_carriedByCells 7 s args RX9 G B κ meth (some .int)) (hp1 : inR p1) (hp2 : inR p2) {Qm : Int → Mem → Prop} : ∀ n : Nat, ∀ y3 : Int, ∀ y4 : Int, ∀ M : Mem, wo_X9_carriedByCells_23 p1 p2 Qm n y3 y4 M → inR y3 → inR y4 → ∀ (H : Heap) (locs : List Loc), Rp G e0 α κ B M H → va_S (fun q => B ≤ q) s.heap H locs → ∀ (ls : Array Slot), lv_has ls 7 [(0, .ref (α 10 0)), (1, .int (Int32.ofInt p1)), (2, .int (Int32.ofInt p2)), (3, .int (Int32.ofInt y3)), (4, .int (Int32.ofInt y4))] → WI p l e 8 s m args below meth c G e0 α κ B Qm H locs 23 ls [] := by
  intro n
  induction n with
  | zero =>
    intro y3 y4 M hw hy3 hy4 H locs hR hS ls hl
    exact hw.elim
  | succ n ih =>
    intro y3 y4 M hw hy3 hy4 H locs hR hS ls hl
    have hw : (((M 14 0 (-1)) ≤ y4 → Qm y3 M) ∧ (y4 < (M 14 0 (-1)) → (0 ≤ y4 ∧ y4 < M 14 0 (-1)) ∧ wp_X0_showsFigure (M 14 0 y4) M fun (x9 : Int) (M8 : Mem) => (((if x9 = 0 then (0 : Int) else (if ¬ (M8 1 (M 14 0 y4) 1) = p2 then (0 : Int) else (if ¬ (M8 6 (M8 1 (M 14 0 y4) 0) 1) = 1 then (0 : Int) else 1))) = 0 → wo_X9_carriedByCells_124 p1 p2 Qm (wo_X9_carriedByCells_23 p1 p2 Qm n) y3 y4 M8) ∧ (¬ (if x9 = 0 then (0 : Int) else (if ¬ (M8 1 (M 14 0 y4) 1) = p2 then (0 : Int) else (if ¬ (M8 6 (M8 1 (M 14 0 y4) 0) 1) = 1 then (0 : Int) else 1))) = 0 → (0 ≤ (M8 6 (M8 1 (M 14 0 y4) 0) 0) ∧ (M8 6 (M8 1 (M 14 0 y4) 0) 0) < 29) ∧ ((p1 < (M8 45 0 (M8 6 (M8 1 (M 14 0 y4) 0) 0)) → wo_X9_carriedByCells_124 p1 p2 Qm (wo_X9_carriedByCells_23 p1 p2 Qm n) y3 y4 M8) ∧ ((M8 45 0 (M8 6 (M8 1 (M 14 0 y4) 0) 0)) ≤ p1 → (inR (y3 + (M8 1 (M 14 0 y4) 9))) ∧ wo_X9_carriedByCells_124 p1 p2 Qm (wo_X9_carriedByCells_23 p1 p2 Qm n) (y3 + (M8 1 (M 14 0 y4) 9)) y4 M8)))))) := hw
    refine lv_iload X.1.1 X.1.2.1 dX9_carriedByCells_23 (lv_at hl 4 rfl) ?_
    refine lv_aload_n X.1.1 X.1.2.1 dX9_carriedByCells_25 rfl (lv_at hl 0 rfl) ?_
    refine gt_10_0 X hR (okf X.2.2.1 rfl) kw_332 dX9_carriedByCells_26 ?_
    refine gt_4_2 X hR (okf X.2.2.1 rfl) kw_121 dX9_carriedByCells_29 ?_
    refine ls_size (by decide) (by decide) X (kc := 8) rmL_ok rm_c (by decide) hR hS kw_753 hl.1 dX9_carriedByCells_32 (Nat.le_of_ble_eq_true rfl) (fun H locs hR hS => ?_)
    have r5 := hR.r 14 0 (-1)
    refine sa_icmp_ge (tgt := 130) X.1 hy4 r5 dX9_carriedByCells_35 (by decide) (fun hc => ?_) (fun hc => ?_)
    · have hw := hw.1 hc
      refine lv_iload_n X.1.1 X.1.2.1 dX9_carriedByCells_130 rfl (lv_at hl 3 rfl) ?_
      exact sa_iret X.1 X.2.2.2.1 X.2.2.2.2 hR hS hy3 hw dX9_carriedByCells_131
    · have hw := hw.2 hc
      refine lv_aload_n X.1.1 X.1.2.1 dX9_carriedByCells_38 rfl (lv_at hl 0 rfl) ?_
      refine gt_10_0 X hR (okf X.2.2.1 rfl) kw_332 dX9_carriedByCells_39 ?_
      refine gt_4_2 X hR (okf X.2.2.1 rfl) kw_121 dX9_carriedByCells_42 ?_
      refine lv_iload X.1.1 X.1.2.1 dX9_carriedByCells_45 (lv_at hl 4 rfl) ?_
      have c6 := hw.1
      have hw := hw.2
      refine ls_get (ci := 1) (by decide) (by decide) rfl X c6 (kc := 8) rmL_ok rm_c (by decide) hR hS kw_969 hl.1 dX9_carriedByCells_47 (Nat.le_of_ble_eq_true rfl) (fun H locs o7 hR hS => ?_)
      refine ck_1 X hR o7 kw_976 dX9_carriedByCells_50 ?_
      refine lv_astore (lv' := [(5, .ref (α 1 (M 14 0 y4))), (0, .ref (α 10 0)), (1, .int (Int32.ofInt p1)), (2, .int (Int32.ofInt p2)), (3, .int (Int32.ofInt y3)), (4, .int (Int32.ofInt y4))]) X.1.1 X.1.2.1 dX9_carriedByCells_53 hl (by decide) rfl (fun ls hl => ?_)
      refine lv_aload X.1.1 X.1.2.1 dX9_carriedByCells_55 (lv_at hl 0 rfl) ?_
      refine cs_X0_showsFigure X o7 (kc := 8) rmL_ok rm_c (by decide) hR hS kw_1298 hl.1 dX9_carriedByCells_57 (Nat.le_of_ble_eq_true rfl) hw (fun x9 M8 H locs hw r10 hR hS => ?_)
      have r15 := inR_ite (c := x9 = 0) (inR_c (a := 0) rfl) (inR_ite (c := ¬ (M8 1 (M 14 0 y4) 1) = p2) (inR_c (a := 0) rfl) (inR_ite (c := ¬ (M8 6 (M8 1 (M 14 0 y4) 0) 1) = 1) (inR_c (a := 0) rfl) (inR_c (a := 1) rfl)))
      refine cut_j (A := ∀ v16 : Int, v16 = (if x9 = 0 then (0 : Int) else (if ¬ (M8 1 (M 14 0 y4) 1) = p2 then (0 : Int) else (if ¬ (M8 6 (M8 1 (M 14 0 y4) 0) 1) = 1 then (0 : Int) else 1))) → WI p l e 8 s m args below meth c G e0 α κ B Qm H locs 89 ls [.int (Int32.ofInt v16)]) (fun J17 => ?_) ?_
      · refine sa_if_eq (tgt := 88) X.1 r10 dX9_carriedByCells_60 (by decide) (fun hc => ?_) (fun hc => ?_)
        · skip
          refine sa_const X.1 dX9_carriedByCells_88 ?_
          exact J17 (0) (if_pos (c := x9 = 0) hc).symm
        · skip
          refine lv_aload X.1.1 X.1.2.1 dX9_carriedByCells_63 (lv_at hl 0 rfl) ?_
          refine gt_1_1 X hR o7 kw_990 dX9_carriedByCells_65 ?_
          refine lv_iload_n X.1.1 X.1.2.1 dX9_carriedByCells_68 rfl (lv_at hl 3 rfl) ?_
          refine cut_j (A := ∀ v13 : Int, v13 = (if ¬ (M8 1 (M 14 0 y4) 1) = p2 then (0 : Int) else (if ¬ (M8 6 (M8 1 (M 14 0 y4) 0) 1) = 1 then (0 : Int) else 1)) → WI p l e 8 s m args below meth c G e0 α κ B Qm H locs 89 ls [.int (Int32.ofInt v13)]) (fun J14 => ?_) ?_
          · refine sa_icmp_ne (tgt := 88) X.1 (hR.r 1 (M 14 0 y4) 1) hp2 dX9_carriedByCells_69 (by decide) (fun hc => ?_) (fun hc => ?_)
            · skip
              refine sa_const X.1 dX9_carriedByCells_88 ?_
              exact J14 (0) (if_pos (c := ¬ (M8 1 (M 14 0 y4) 1) = p2) hc).symm
            · skip
              refine lv_aload X.1.1 X.1.2.1 dX9_carriedByCells_72 (lv_at hl 0 rfl) ?_
              refine gt_1_0 X hR o7 kw_985 dX9_carriedByCells_74 ?_
              refine gt_6_1 X hR (hR.2.2.2.1 _ o7) kw_895 dX9_carriedByCells_77 ?_
              refine sa_const X.1 dX9_carriedByCells_80 ?_
              refine cut_j (A := ∀ v11 : Int, v11 = (if ¬ (M8 6 (M8 1 (M 14 0 y4) 0) 1) = 1 then (0 : Int) else 1) → WI p l e 8 s m args below meth c G e0 α κ B Qm H locs 89 ls [.int (Int32.ofInt v11)]) (fun J12 => ?_) ?_
              · refine sa_icmp_ne (tgt := 88) X.1 (hR.r 6 (M8 1 (M 14 0 y4) 0) 1) (inR_c (a := 1) rfl) dX9_carriedByCells_81 (by decide) (fun hc => ?_) (fun hc => ?_)
                · skip
                  refine sa_const X.1 dX9_carriedByCells_88 ?_
                  exact J12 (0) (if_pos (c := ¬ (M8 6 (M8 1 (M 14 0 y4) 0) 1) = 1) hc).symm
                · skip
                  refine sa_const X.1 dX9_carriedByCells_84 ?_
                  refine lv_goto (tgt := 89) X.1.1 X.1.2.1 dX9_carriedByCells_85 (by decide) ?_
                  exact J12 (1) (if_neg (c := ¬ (M8 6 (M8 1 (M 14 0 y4) 0) 1) = 1) (fun z => z hc)).symm
              intro v11 hv11
              subst hv11
              exact J14 ((if ¬ (M8 6 (M8 1 (M 14 0 y4) 0) 1) = 1 then (0 : Int) else 1)) (if_neg (c := ¬ (M8 1 (M 14 0 y4) 1) = p2) (fun z => z hc)).symm
          intro v13 hv13
          subst hv13
          exact J17 ((if ¬ (M8 1 (M 14 0 y4) 1) = p2 then (0 : Int) else (if ¬ (M8 6 (M8 1 (M 14 0 y4) 0) 1) = 1 then (0 : Int) else 1))) (if_neg (c := x9 = 0) hc).symm
      intro v16 hv16
      subst hv16
      refine lv_istore (lv' := [(6, .int (Int32.ofInt (if x9 = 0 then (0 : Int) else (if ¬ (M8 1 (M 14 0 y4) 1) = p2 then (0 : Int) else (if ¬ (M8 6 (M8 1 (M 14 0 y4) 0) 1) = 1 then (0 : Int) else 1))))), (5, .ref (α 1 (M 14 0 y4))), (0, .ref (α 10 0)), (1, .int (Int32.ofInt p1)), (2, .int (Int32.ofInt p2)), (3, .int (Int32.ofInt y3)), (4, .int (Int32.ofInt y4))]) X.1.1 X.1.2.1 dX9_carriedByCells_89 hl (by decide) rfl (fun ls hl => ?_)
      refine lv_iload X.1.1 X.1.2.1 dX9_carriedByCells_91 (lv_at hl 0 rfl) ?_
      refine sa_if_eq (tgt := 124) X.1 r15 dX9_carriedByCells_93 (by decide) (fun hc => ?_) (fun hc => ?_)
      · have hw := hw.1 hc
        exact to_X9_carriedByCells_124 X hp1 hp2 ih _ _ _ hw hy3 hy4 _ _ hR hS _ (lv_sub hl [2, 3, 4, 5, 6] rfl)
      · have hw := hw.2 hc
        refine lv_aload_n X.1.1 X.1.2.1 dX9_carriedByCells_96 rfl (lv_at hl 2 rfl) ?_
        refine gt_10_5 X hR (okf X.2.2.1 rfl) kw_337 dX9_carriedByCells_97 ?_
        refine gt_7_11 X hR (okp X.2.2.1 rfl (by decide)) kw_257 dX9_carriedByCells_100 ?_
        refine lv_aload X.1.1 X.1.2.1 dX9_carriedByCells_103 (lv_at hl 1 rfl) ?_
        refine gt_1_0 X hR o7 kw_985 dX9_carriedByCells_105 ?_
        have o19 := hR.2.2.2.1 _ o7
        refine gt_6_0 X hR o19 kw_890 dX9_carriedByCells_108 ?_
        have r20 := hR.r 6 (M8 1 (M 14 0 y4) 0) 0
        have c21 := hw.1
        have hw := hw.2
        refine ra_45 X hR (okp X.2.2.1 rfl (pr_7 X.2.2.1 (okp X.2.2.1 rfl (by decide)))) c21 dX9_carriedByCells_111 ?_
        have r22 := hR.r 45 0 (M8 6 (M8 1 (M 14 0 y4) 0) 0)
        refine lv_iload_n X.1.1 X.1.2.1 dX9_carriedByCells_112 rfl (lv_at hl 3 rfl) ?_
        refine sa_icmp_gt (tgt := 124) X.1 r22 hp1 dX9_carriedByCells_113 (by decide) (fun hc => ?_) (fun hc => ?_)
        · have hw := hw.1 hc
          exact to_X9_carriedByCells_124 X hp1 hp2 ih _ _ _ hw hy3 hy4 _ _ hR hS _ (lv_sub hl [2, 3, 4, 5, 6] rfl)
        · have hw := hw.2 hc
          refine lv_iload_n X.1.1 X.1.2.1 dX9_carriedByCells_116 rfl (lv_at hl 5 rfl) ?_
          refine lv_aload X.1.1 X.1.2.1 dX9_carriedByCells_117 (lv_at hl 1 rfl) ?_
          refine gt_1_9 X hR o7 kw_1009 dX9_carriedByCells_119 ?_
          have r23 := hR.r 1 (M 14 0 y4) 9
          have c24 := hw.1
          have hw := hw.2
          refine sa_iadd X.1 dX9_carriedByCells_122 ?_
          refine lv_istore_n (lv' := [(3, .int (Int32.ofInt (y3 + (M8 1 (M 14 0 y4) 9)))), (6, .int (Int32.ofInt (if x9 = 0 then (0 : Int) else (if ¬ (M8 1 (M 14 0 y4) 1) = p2 then (0 : Int) else (if ¬ (M8 6 (M8 1 (M 14 0 y4) 0) 1) = 1 then (0 : Int) else 1))))), (5, .ref (α 1 (M 14 0 y4))), (0, .ref (α 10 0)), (1, .int (Int32.ofInt p1)), (2, .int (Int32.ofInt p2)), (4, .int (Int32.ofInt y4))]) X.1.1 X.1.2.1 dX9_carriedByCells_123 rfl hl (by decide) rfl (fun ls hl => ?_)
          exact to_X9_carriedByCells_124 X hp1 hp2 ih _ _ _ hw c24 hy4 _ _ hR hS _ (lv_sub hl [3, 4, 5, 0, 6] rfl)
set_option maxHeartbeats 4000000 in
set_option maxRecDepth 100000 in
theorem to_X9_carriedByCells {p1 : Int} {p2 : Int} (X : CX p m c cX9_carriedByCells 7 s args RX9 G B κ meth (some .int)) (hp1 : inR p1) (hp2 : inR p2) {M : Mem} {Qm : Int → Mem → Prop} (hw : wo_X9_carriedByCells p1 p2 M Qm) (H : Heap) (locs : List Loc) (hR : Rp G e0 α κ B M H) (hS : va_S (fun q => B ≤ q) s.heap H locs) (ls : Array Slot) (hl : lv_has ls 7 [(0, .ref (α 10 0)), (1, .int (Int32.ofInt p1)), (2, .int (Int32.ofInt p2))]) : WI p l e 8 s m args below meth c G e0 α κ B Qm H locs 0 ls [] := by
  have hw : wo_X9_requireColumn p2 M fun (M1 : Mem) => wp_X9_refresh M1 fun (M2 : Mem) => wo_X9_requireSheets M2 fun (M3 : Mem) => wo_X9_requirePage p1 M3 fun (M4 : Mem) => (∃ n25 : Nat, wo_X9_carriedByCells_23 p1 p2 Qm n25 0 0 M4) := hw
  refine lv_aload_n X.1.1 X.1.2.1 dX9_carriedByCells_0 rfl (lv_at hl 0 rfl) ?_
  refine lv_iload_n X.1.1 X.1.2.1 dX9_carriedByCells_1 rfl (lv_at hl 2 rfl) ?_
  refine co_X9_requireColumn X hp2 (kc := 8) rmL_ok rm_c (by decide) hR hS kw_959 hl.1 dX9_carriedByCells_2 (Nat.le_of_ble_eq_true rfl) hw (fun M1 H locs hw hR hS => ?_)
  refine lv_aload_n X.1.1 X.1.2.1 dX9_carriedByCells_5 rfl (lv_at hl 0 rfl) ?_
  refine cs_X9_refresh X  (kc := 8) rmL_ok rm_c (by decide) hR hS kw_370 hl.1 dX9_carriedByCells_6 (Nat.le_of_ble_eq_true rfl) hw (fun M2 H locs hw hR hS => ?_)
  refine lv_aload_n X.1.1 X.1.2.1 dX9_carriedByCells_9 rfl (lv_at hl 0 rfl) ?_
  refine co_X9_requireSheets X  (kc := 8) rmL_ok rm_c (by decide) hR hS kw_1343 hl.1 dX9_carriedByCells_10 (Nat.le_of_ble_eq_true rfl) hw (fun M3 H locs hw hR hS => ?_)
  refine lv_aload_n X.1.1 X.1.2.1 dX9_carriedByCells_13 rfl (lv_at hl 0 rfl) ?_
  refine lv_iload_n X.1.1 X.1.2.1 dX9_carriedByCells_14 rfl (lv_at hl 1 rfl) ?_
  refine co_X9_requirePage X hp1 (kc := 8) rmL_ok rm_c (by decide) hR hS kw_1380 hl.1 dX9_carriedByCells_15 (Nat.le_of_ble_eq_true rfl) hw (fun M4 H locs hw hR hS => ?_)
  refine sa_const X.1 dX9_carriedByCells_18 ?_
  refine lv_istore_n (lv' := [(3, .int (Int32.ofInt 0)), (0, .ref (α 10 0)), (1, .int (Int32.ofInt p1)), (2, .int (Int32.ofInt p2))]) X.1.1 X.1.2.1 dX9_carriedByCells_19 rfl hl (by decide) rfl (fun ls hl => ?_)
  refine sa_const X.1 dX9_carriedByCells_20 ?_
  refine lv_istore (lv' := [(4, .int (Int32.ofInt 0)), (3, .int (Int32.ofInt 0)), (0, .ref (α 10 0)), (1, .int (Int32.ofInt p1)), (2, .int (Int32.ofInt p2))]) X.1.1 X.1.2.1 dX9_carriedByCells_21 hl (by decide) rfl (fun ls hl => ?_)
  obtain ⟨n25, hw⟩ := hw
  exact to_X9_carriedByCells_23 X hp1 hp2 n25 _ _ _ hw (inR_c (a := 0) rfl) (inR_c (a := 0) rfl) _ _ hR hS _ (lv_sub hl [2, 3, 4, 1, 0] rfl)
theorem mo_X9_carriedByCells {l : Launch} {G : Gx} {e0 : Nat} {α : Ax} {κ : Nat → Int} {B : Nat} {p1 : Int} {p2 : Int} (hκ : kOK κ) (hp1 : inR p1) (hp2 : inR p2) {M : Mem} {Qm : Int → Mem → Prop} (hw : wo_X9_carriedByCells p1 p2 M Qm) : CI l yX9_carriedByCells (Cond.code yX9_carriedByCells cX9_carriedByCells 7 (some .int)) 8 G e0 α κ B [.ref (α 10 0), .int (Int32.ofInt p1), .int (Int32.ofInt p2)] M Qm :=
  CI.mk hκ (by decide +kernel) rfl (Nat.le_of_ble_eq_true rfl) (lv := [(0, .ref (α 10 0)), (1, .int (Int32.ofInt p1)), (2, .int (Int32.ofInt p2))]) rfl (fun p e s m args below meth c ls X hR hS hl => to_X9_carriedByCells X hp1 hp2 hw _ _ hR hS ls hl)
theorem co_X9_carriedByCells {cc : ByteArray} {nL : Nat} {own : String} {ret : Option FieldType} {idx pc : Nat} {p1 : Int} {p2 : Int} (X : CX p m c cc nL s args own G B κ meth ret) (hp1 : inR p1) (hp2 : inR p2) {kc : Nat} {R : Room} {cells slots : Nat} (hRr : RmOK R kc) (hcel : cells ≤ R.cells ∧ slots ≤ R.slots) (hk : 8 + 1 ≤ kc) {M : Mem} {H : Heap} {locs : List Loc} (hR : Rp G e0 α κ B M H) (hS : va_S (fun q => B ≤ q) s.heap H locs) (k1 : Cond.methodLink own idx yX9_carriedByCells ∈ gw) {ls : Array Slot} (hml : ls.size = nL) {rest : List Value} (hd : decode cc pc = .ok (.invokevirtual idx, 3)) (hrest : (rest.map fun v => v.category).sum ≤ 8) {Q : State → Prop} {Qm : Int → Mem → Prop} (hw : wo_X9_carriedByCells p1 p2 M Qm) (kk : ∀ (r : Int) (M1 : Mem) (H1 : Heap) (locs1 : List Loc), Qm r M1 → inR r → Rp G e0 α κ B M1 H1 → va_S (fun q => B ≤ q) s.heap H1 locs1 → W p l e R s m args below meth c H1 locs1 cells slots Q (F0 m (pc + 3) ls (.int (Int32.ofInt r) :: rest))) : W p l e R s m args below meth c H locs cells slots Q (F0 m pc ls (.int (Int32.ofInt p2) :: .int (Int32.ofInt p1) :: .ref (α 10 0) :: rest)) :=
  sa_callVI 8 (n := 2) (As := [.int (Int32.ofInt p1), .int (Int32.ofInt p2)]) (rest := rest) X.1 X.2.1 hR hS (mo_X9_carriedByCells X.2.2.1 hp1 hp2 hw) k1 kw_1396 kw_1397 kw_38 kw_1398 ⟨rfl, by decide +kernel, by decide +kernel, by decide +kernel⟩ (rm_ok hRr hk (by decide)) (rc_10 X hR (okf X.2.2.1 rfl)) rfl rfl hrest hml hd hcel kk
end
