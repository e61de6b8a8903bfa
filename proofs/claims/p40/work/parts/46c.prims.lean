theorem dL_words_0 : decode cL_words 0 = .ok (.aload_n 0, 1) := by decide +kernel
theorem dL_words_1 : decode cL_words 1 = .ok (.iload_n 1, 1) := by decide +kernel
theorem dL_words_2 : decode cL_words 2 = .ok (.laload, 1) := by decide +kernel
theorem dL_words_3 : decode cL_words 3 = .ok (.bipush 50, 2) := by decide +kernel
theorem dL_words_5 : decode cL_words 5 = .ok (.lushr, 1) := by decide +kernel
theorem dL_words_6 : decode cL_words 6 = .ok (.l2i, 1) := by decide +kernel
theorem dL_words_7 : decode cL_words 7 = .ok (.ireturn, 1) := by decide +kernel
theorem dL_length_0 : decode cL_length 0 = .ok (.aload_n 0, 1) := by decide +kernel
theorem dL_length_1 : decode cL_length 1 = .ok (.iload_n 1, 1) := by decide +kernel
theorem dL_length_2 : decode cL_length 2 = .ok (.laload, 1) := by decide +kernel
theorem dL_length_3 : decode cL_length 3 = .ok (.bipush 10, 2) := by decide +kernel
theorem dL_length_5 : decode cL_length 5 = .ok (.iload_n 2, 1) := by decide +kernel
theorem dL_length_6 : decode cL_length 6 = .ok (.imul, 1) := by decide +kernel
theorem dL_length_7 : decode cL_length 7 = .ok (.lushr, 1) := by decide +kernel
theorem dL_length_8 : decode cL_length 8 = .ok (.ldc2_w 15, 3) := by decide +kernel
theorem dL_length_11 : decode cL_length 11 = .ok (.land, 1) := by decide +kernel
theorem dL_length_12 : decode cL_length 12 = .ok (.l2i, 1) := by decide +kernel
theorem dL_length_13 : decode cL_length 13 = .ok (.ireturn, 1) := by decide +kernel
theorem dL_cut_0 : decode cL_cut 0 = .ok (.aload_n 0, 1) := by decide +kernel
theorem dL_cut_1 : decode cL_cut 1 = .ok (.iload_n 1, 1) := by decide +kernel
theorem dL_cut_2 : decode cL_cut 2 = .ok (.laload, 1) := by decide +kernel
theorem dL_cut_3 : decode cL_cut 3 = .ok (.bipush 10, 2) := by decide +kernel
theorem dL_cut_5 : decode cL_cut 5 = .ok (.iload_n 2, 1) := by decide +kernel
theorem dL_cut_6 : decode cL_cut 6 = .ok (.imul, 1) := by decide +kernel
theorem dL_cut_7 : decode cL_cut 7 = .ok (.iconst 5, 1) := by decide +kernel
theorem dL_cut_8 : decode cL_cut 8 = .ok (.iadd, 1) := by decide +kernel
theorem dL_cut_9 : decode cL_cut 9 = .ok (.lushr, 1) := by decide +kernel
theorem dL_cut_10 : decode cL_cut 10 = .ok (.ldc2_w 15, 3) := by decide +kernel
theorem dL_cut_13 : decode cL_cut 13 = .ok (.land, 1) := by decide +kernel
theorem dL_cut_14 : decode cL_cut 14 = .ok (.l2i, 1) := by decide +kernel
theorem dL_cut_15 : decode cL_cut 15 = .ok (.ireturn, 1) := by decide +kernel
def wp_L_words (p1 : Int) (M : Mem) (Qm : Int → Mem → Prop) : Prop := (0 ≤ p1 ∧ p1 < 10) ∧ wOK M p1 ∧ Qm (M 108 0 (16 * p1)) M
def wp_L_length (p1 p2 : Int) (M : Mem) (Qm : Int → Mem → Prop) : Prop := (0 ≤ p1 ∧ p1 < 10) ∧ wOK M p1 ∧ (0 ≤ p2 ∧ p2 < 5) ∧ Qm (M 108 0 (16 * p1 + (2 * p2 + 1))) M
def wp_L_cut (p1 p2 : Int) (M : Mem) (Qm : Int → Mem → Prop) : Prop := (0 ≤ p1 ∧ p1 < 10) ∧ wOK M p1 ∧ (0 ≤ p2 ∧ p2 < 5) ∧ Qm (M 108 0 (16 * p1 + (2 * p2 + 2))) M
theorem m_L_words {l : Launch} {G : Gx} {e0 : Nat} {α : Ax} {κ : Nat → Int} {B : Nat} {p1 : Int} (hκ : kOK κ) (hp1 : inR p1) {M : Mem} {Qm : Int → Mem → Prop} (hw : wp_L_words p1 M Qm) : CI l yL_words (Cond.code yL_words cL_words 2 (some .int)) 1 G e0 α κ B [.ref (α 108 0), .int (Int32.ofInt p1)] M Qm :=
  CI.mk hκ (by decide +kernel) rfl (Nat.le_of_ble_eq_true rfl) (lv := [(0, .ref (α 108 0)), (1, .int (Int32.ofInt p1))]) rfl (fun p e s m args below meth c ls X hR hS hl => by
    obtain ⟨h1, h2, hq⟩ := hw
    refine lv_aload_n X.1.1 X.1.2.1 dL_words_0 rfl (lv_at hl 0 rfl) ?_
    refine lv_iload_n X.1.1 X.1.2.1 dL_words_1 rfl (lv_at hl 1 rfl) ?_
    refine wl_ld X hR h1 dL_words_2 ?_
    refine sa_bipush X.1 dL_words_3 (by decide) ?_
    refine lv_lushr X.1.1 X.1.2.1 dL_words_5 (sh_r (by have := (pk_b h2).1; omega) (by decide) (by decide)) ?_
    refine lv_l2i X.1.1 X.1.2.1 dL_words_6 (pk_count h2) ?_
    exact sa_iret X.1 X.2.2.2.1 X.2.2.2.2 hR hS (hR.r _ _ _) hq dL_words_7)
theorem m_L_length {l : Launch} {G : Gx} {e0 : Nat} {α : Ax} {κ : Nat → Int} {B : Nat} {p1 p2 : Int} (hκ : kOK κ) (hp1 : inR p1) (hp2 : inR p2) {M : Mem} {Qm : Int → Mem → Prop} (hw : wp_L_length p1 p2 M Qm) : CI l yL_length (Cond.code yL_length cL_length 3 (some .int)) 1 G e0 α κ B [.ref (α 108 0), .int (Int32.ofInt p1), .int (Int32.ofInt p2)] M Qm :=
  CI.mk hκ (by decide +kernel) rfl (Nat.le_of_ble_eq_true rfl) (lv := [(0, .ref (α 108 0)), (1, .int (Int32.ofInt p1)), (2, .int (Int32.ofInt p2))]) rfl (fun p e s m args below meth c ls X hR hS hl => by
    obtain ⟨h1, h2, h3, hq⟩ := hw
    refine lv_aload_n X.1.1 X.1.2.1 dL_length_0 rfl (lv_at hl 0 rfl) ?_
    refine lv_iload_n X.1.1 X.1.2.1 dL_length_1 rfl (lv_at hl 1 rfl) ?_
    refine wl_ld X hR h1 dL_length_2 ?_
    refine sa_bipush X.1 dL_length_3 (by decide) ?_
    refine lv_iload_n X.1.1 X.1.2.1 dL_length_5 rfl (lv_at hl 2 rfl) ?_
    refine sa_imul X.1 dL_length_6 ?_
    have e : Int64.ofNat (pkN (fun q => M 108 0 q) p1 / 2 ^ (10 * p2).toNat) = Int64.ofNat (pkN (fun q => M 108 0 q) p1 / 2 ^ (5 * (2 * p2).toNat)) := by rw [show (10 * p2).toNat = 5 * (2 * p2).toNat by omega]
    refine lv_lushr X.1.1 X.1.2.1 dL_length_7 (sh_r (by have := (pk_b h2).1; omega) (by omega) (by omega)) ?_
    refine lv_ldc2 X.1.1 X.1.2.1 X.1.2.2.2.1 (X.1.2.2.2.2 _ kw_1244) dL_length_8 ?_
    refine lv_land X.1.1 X.1.2.1 dL_length_11 ?_
    have e3 : (Int64.ofNat (pkN (fun q => M 108 0 q) p1 / 2 ^ (10 * p2).toNat) &&& 31).toInt32 = Int32.ofInt (M 108 0 (16 * p1 + (2 * p2 + 1))) := by
      rw [e, pk_field h2 (j := (2 * p2).toNat) (by omega), show 16 * p1 + (((2 * p2).toNat : Int) + 1) = 16 * p1 + (2 * p2 + 1) by omega]
    refine lv_l2i X.1.1 X.1.2.1 dL_length_12 e3 ?_
    exact sa_iret X.1 X.2.2.2.1 X.2.2.2.2 hR hS (hR.r _ _ _) hq dL_length_13)
theorem m_L_cut {l : Launch} {G : Gx} {e0 : Nat} {α : Ax} {κ : Nat → Int} {B : Nat} {p1 p2 : Int} (hκ : kOK κ) (hp1 : inR p1) (hp2 : inR p2) {M : Mem} {Qm : Int → Mem → Prop} (hw : wp_L_cut p1 p2 M Qm) : CI l yL_cut (Cond.code yL_cut cL_cut 3 (some .int)) 1 G e0 α κ B [.ref (α 108 0), .int (Int32.ofInt p1), .int (Int32.ofInt p2)] M Qm :=
  CI.mk hκ (by decide +kernel) rfl (Nat.le_of_ble_eq_true rfl) (lv := [(0, .ref (α 108 0)), (1, .int (Int32.ofInt p1)), (2, .int (Int32.ofInt p2))]) rfl (fun p e s m args below meth c ls X hR hS hl => by
    obtain ⟨h1, h2, h3, hq⟩ := hw
    refine lv_aload_n X.1.1 X.1.2.1 dL_cut_0 rfl (lv_at hl 0 rfl) ?_
    refine lv_iload_n X.1.1 X.1.2.1 dL_cut_1 rfl (lv_at hl 1 rfl) ?_
    refine wl_ld X hR h1 dL_cut_2 ?_
    refine sa_bipush X.1 dL_cut_3 (by decide) ?_
    refine lv_iload_n X.1.1 X.1.2.1 dL_cut_5 rfl (lv_at hl 2 rfl) ?_
    refine sa_imul X.1 dL_cut_6 ?_
    refine sa_const X.1 dL_cut_7 ?_
    refine sa_iadd X.1 dL_cut_8 ?_
    have e : Int64.ofNat (pkN (fun q => M 108 0 q) p1 / 2 ^ (10 * p2 + 5).toNat) = Int64.ofNat (pkN (fun q => M 108 0 q) p1 / 2 ^ (5 * (2 * p2 + 1).toNat)) := by rw [show (10 * p2 + 5).toNat = 5 * (2 * p2 + 1).toNat by omega]
    refine lv_lushr X.1.1 X.1.2.1 dL_cut_9 (sh_r (by have := (pk_b h2).1; omega) (by omega) (by omega)) ?_
    refine lv_ldc2 X.1.1 X.1.2.1 X.1.2.2.2.1 (X.1.2.2.2.2 _ kw_1244) dL_cut_10 ?_
    refine lv_land X.1.1 X.1.2.1 dL_cut_13 ?_
    have e3 : (Int64.ofNat (pkN (fun q => M 108 0 q) p1 / 2 ^ (10 * p2 + 5).toNat) &&& 31).toInt32 = Int32.ofInt (M 108 0 (16 * p1 + (2 * p2 + 2))) := by
      rw [e, pk_field h2 (j := (2 * p2 + 1).toNat) (by omega), show 16 * p1 + (((2 * p2 + 1).toNat : Int) + 1) = 16 * p1 + (2 * p2 + 2) by omega]
    refine lv_l2i X.1.1 X.1.2.1 dL_cut_14 e3 ?_
    exact sa_iret X.1 X.2.2.2.1 X.2.2.2.2 hR hS (hR.r _ _ _) hq dL_cut_15)
section
variable {p : Program} {l : Launch} {e : Env} {s : State} {m : MethodId} {args : Array Value} {below : List Frame} {meth : Method} {c : Code} {G : Gx} {e0 : Nat} {α : Ax} {κ : Nat → Int} {B : Nat}
theorem cs_L_words {cc : ByteArray} {nL : Nat} {own : String} {ret : Option FieldType} {idx pc : Nat} {p1 : Int} (X : CX p m c cc nL s args own G B κ meth ret) (hp1 : inR p1) {kc : Nat} {R : Room} {cells slots : Nat} (hRr : RmOK R kc) (hcel : cells ≤ R.cells ∧ slots ≤ R.slots) (hk : 1 + 1 ≤ kc) {M : Mem} {H : Heap} {locs : List Loc} (hR : Rp G e0 α κ B M H) (hS : va_S (fun q => B ≤ q) s.heap H locs) (k1 : Cond.methodLink own idx yL_words ∈ gw) {ls : Array Slot} (hml : ls.size = nL) {rest : List Value} (hd : decode cc pc = .ok (.invokestatic idx, 3)) (hrest : (rest.map fun v => v.category).sum ≤ 8) {Q : State → Prop} {Qm : Int → Mem → Prop} (hw : wp_L_words p1 M Qm) (kk : ∀ (r : Int) (M1 : Mem) (H1 : Heap) (locs1 : List Loc), Qm r M1 → inR r → Rp G e0 α κ B M1 H1 → va_S (fun q => B ≤ q) s.heap H1 locs1 → W p l e R s m args below meth c H1 locs1 cells slots Q (F0 m (pc + 3) ls (.int (Int32.ofInt r) :: rest))) : W p l e R s m args below meth c H locs cells slots Q (F0 m pc ls (.int (Int32.ofInt p1) :: .ref (α 108 0) :: rest)) :=
  sa_callSI 1 (n := 2) (As := [.ref (α 108 0), .int (Int32.ofInt p1)]) (rest := rest) X.1 X.2.1 hR hS (m_L_words X.2.2.1 hp1 hw) k1 kw_1067 kw_37 kw_1068 ⟨by decide +kernel, by decide +kernel, by decide +kernel⟩ (rm_ok hRr hk (by decide)) rfl rfl hrest hml hd hcel kk
theorem cs_L_length {cc : ByteArray} {nL : Nat} {own : String} {ret : Option FieldType} {idx pc : Nat} {p1 : Int} {p2 : Int} (X : CX p m c cc nL s args own G B κ meth ret) (hp1 : inR p1) (hp2 : inR p2) {kc : Nat} {R : Room} {cells slots : Nat} (hRr : RmOK R kc) (hcel : cells ≤ R.cells ∧ slots ≤ R.slots) (hk : 1 + 1 ≤ kc) {M : Mem} {H : Heap} {locs : List Loc} (hR : Rp G e0 α κ B M H) (hS : va_S (fun q => B ≤ q) s.heap H locs) (k1 : Cond.methodLink own idx yL_length ∈ gw) {ls : Array Slot} (hml : ls.size = nL) {rest : List Value} (hd : decode cc pc = .ok (.invokestatic idx, 3)) (hrest : (rest.map fun v => v.category).sum ≤ 8) {Q : State → Prop} {Qm : Int → Mem → Prop} (hw : wp_L_length p1 p2 M Qm) (kk : ∀ (r : Int) (M1 : Mem) (H1 : Heap) (locs1 : List Loc), Qm r M1 → inR r → Rp G e0 α κ B M1 H1 → va_S (fun q => B ≤ q) s.heap H1 locs1 → W p l e R s m args below meth c H1 locs1 cells slots Q (F0 m (pc + 3) ls (.int (Int32.ofInt r) :: rest))) : W p l e R s m args below meth c H locs cells slots Q (F0 m pc ls (.int (Int32.ofInt p2) :: .int (Int32.ofInt p1) :: .ref (α 108 0) :: rest)) :=
  sa_callSI 1 (n := 3) (As := [.ref (α 108 0), .int (Int32.ofInt p1), .int (Int32.ofInt p2)]) (rest := rest) X.1 X.2.1 hR hS (m_L_length X.2.2.1 hp1 hp2 hw) k1 kw_1242 kw_37 kw_1243 ⟨by decide +kernel, by decide +kernel, by decide +kernel⟩ (rm_ok hRr hk (by decide)) rfl rfl hrest hml hd hcel kk
theorem cs_L_cut {cc : ByteArray} {nL : Nat} {own : String} {ret : Option FieldType} {idx pc : Nat} {p1 : Int} {p2 : Int} (X : CX p m c cc nL s args own G B κ meth ret) (hp1 : inR p1) (hp2 : inR p2) {kc : Nat} {R : Room} {cells slots : Nat} (hRr : RmOK R kc) (hcel : cells ≤ R.cells ∧ slots ≤ R.slots) (hk : 1 + 1 ≤ kc) {M : Mem} {H : Heap} {locs : List Loc} (hR : Rp G e0 α κ B M H) (hS : va_S (fun q => B ≤ q) s.heap H locs) (k1 : Cond.methodLink own idx yL_cut ∈ gw) {ls : Array Slot} (hml : ls.size = nL) {rest : List Value} (hd : decode cc pc = .ok (.invokestatic idx, 3)) (hrest : (rest.map fun v => v.category).sum ≤ 8) {Q : State → Prop} {Qm : Int → Mem → Prop} (hw : wp_L_cut p1 p2 M Qm) (kk : ∀ (r : Int) (M1 : Mem) (H1 : Heap) (locs1 : List Loc), Qm r M1 → inR r → Rp G e0 α κ B M1 H1 → va_S (fun q => B ≤ q) s.heap H1 locs1 → W p l e R s m args below meth c H1 locs1 cells slots Q (F0 m (pc + 3) ls (.int (Int32.ofInt r) :: rest))) : W p l e R s m args below meth c H locs cells slots Q (F0 m pc ls (.int (Int32.ofInt p2) :: .int (Int32.ofInt p1) :: .ref (α 108 0) :: rest)) :=
  sa_callSI 1 (n := 3) (As := [.ref (α 108 0), .int (Int32.ofInt p1), .int (Int32.ofInt p2)]) (rest := rest) X.1 X.2.1 hR hS (m_L_cut X.2.2.1 hp1 hp2 hw) k1 kw_1246 kw_37 kw_1247 ⟨by decide +kernel, by decide +kernel, by decide +kernel⟩ (rm_ok hRr hk (by decide)) rfl rfl hrest hml hd hcel kk
end
theorem kup_pos {s : Nat} {κ : Nat → Int} (h : κ s = 0) : (0 : Int) < kup [s] κ s := by
  unfold kup
  rw [if_pos (List.mem_singleton.mpr rfl)]
  omega
