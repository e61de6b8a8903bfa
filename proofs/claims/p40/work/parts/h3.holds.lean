/-! the law: holds from its start, isHeld -/
theorem dL_isHeld_0 : decode cL_isHeld 0 = .ok (.aload_n 0, 1) := by decide +kernel
theorem dL_isHeld_1 : decode cL_isHeld 1 = .ok (.invokestatic 287, 3) := by decide +kernel
theorem dL_isHeld_4 : decode cL_isHeld 4 = .ok (.ireturn, 1) := by decide +kernel
theorem dL_isHeld_5 : decode cL_isHeld 5 = .ok (.astore_n 1, 1) := by decide +kernel
theorem dL_isHeld_6 : decode cL_isHeld 6 = .ok (.iconst 0, 1) := by decide +kernel
theorem dL_isHeld_7 : decode cL_isHeld 7 = .ok (.ireturn, 1) := by decide +kernel
theorem dL_isHeld_8 : decode cL_isHeld 8 = .ok (.astore_n 1, 1) := by decide +kernel
theorem dL_isHeld_9 : decode cL_isHeld 9 = .ok (.iconst 0, 1) := by decide +kernel
theorem dL_isHeld_10 : decode cL_isHeld 10 = .ok (.ireturn, 1) := by decide +kernel
theorem dL_isHeld_11 : decode cL_isHeld 11 = .ok (.astore_n 1, 1) := by decide +kernel
theorem dL_isHeld_12 : decode cL_isHeld 12 = .ok (.iconst 0, 1) := by decide +kernel
theorem dL_isHeld_13 : decode cL_isHeld 13 = .ok (.ireturn, 1) := by decide +kernel
def QH (B : Nat) : Array Value → State → Outcome → State → Prop := va_Qi (fun r (_ : Unit) => r = Int32.ofInt 1) (fun _ _ => True) (fun q => B ≤ q)
def PH (G : Gx) (B b L : Nat) (xs : Nat → Int32) : State → Prop := fun U => U.heap.size = B ∧ NcA U ∧ EV G B U ∧ LV U B b L xs
theorem PH.blind {G : Gx} {B b L : Nat} {xs : Nat → Int32} {av : List Value} : FrameBlind (va_Pc av (PH G B b L xs)) := fun a U g mk q =>
  ⟨q.1, q.2.1, NcA.moved (u := U) (U := U.calling g mk a) (Vm.Alike.refl U.vm) q.2.2.1, ⟨va_K.moved (u := U) (U := U.calling g mk a) (Vm.Alike.refl U.vm) q.2.2.2.1.1, SF.to (u := U) (U := U.calling g mk a) (H1 := (U.calling g mk a).heap) q.2.2.2.1.2.1 (State.WarmedH.refl U) (fun _ _ _ => rfl), q.2.2.2.1.2.2⟩, ⟨va_X.moved (u := U) (U := U.calling g mk a) (Vm.Alike.refl U.vm) q.2.2.2.2.1, q.2.2.2.2.2⟩⟩
set_option maxHeartbeats 8000000 in
set_option maxRecDepth 100000 in
theorem m_L_holds {l : Launch} {G : Gx} {B b L : Nat} {xs : Nat → Int32} (hlt : l.stackTraces = false) : Met l yL_holds (Cond.code yL_holds cL_holds 19 (some .boolean) :: gw) (rmX 12 9000 400000) (va_Pc [.ref b] (PH G B b L xs)) (QH B) 9000 400000 (fun q => B ≤ q) := by
  refine Met.ofW (cc := cL_holds) (maxL := 19) (ret := some .boolean) (by decide +kernel) rfl ?_
  intro p e s m args below meth c s₁ Bd hml hv
  obtain ⟨rfl, rfl, N, hE, V⟩ := hv
  have hl := lv_entry ([.ref b]) (n := 19) (Nat.le_of_ble_eq_true rfl)
  rw [lg_entry_eq]
  generalize (lg_sl ([.ref b]) ++ List.replicate (19 - (lg_sl ([.ref b])).length) Slot.unset).toArray = ls at hl ⊢
  have hl : lv_has ls 19 [(0, .ref b)] := hl
  have C : CallFix p m c cL_holds 19 s _ gw "TablePagesLaw" := ⟨Bd.exec, Bd.bytes, hml, findClass_of_methodNamed Bd.named, fun w hw => atoms_spec (ws := Cond.code yL_holds cL_holds 19 (some .boolean) :: gw) Bd.pre w (List.mem_cons_of_mem _ hw)⟩
  have hS : va_S (fun q => s.heap.size ≤ q) s.heap s.heap [] := va_S.rf
  have hQm : ∀ v : Int, v = 1 → ∀ (H : Heap) (locs : List Loc), va_S (fun q => s.heap.size ≤ q) s.heap H locs → ∀ (ls : Array Slot), lv_has ls 19 [(12, .int (Int32.ofInt v))] → ∀ cl sl : Nat, cl ≤ 9000 → sl ≤ 400000 → W p l e (rmX 12 9000 400000) s m ([Value.ref b] : List Value).toArray below meth c H locs cl sl (MQ below (QH s.heap.size) ([Value.ref b] : List Value).toArray s 9000 400000 (fun q => s.heap.size ≤ q)) (F0 m 697 ls []) := fun v hv H locs hS ls hl cl sl h1 h2 => by
    obtain rfl : v = 1 := hv
    refine lv_iload C.1 C.2.1 dL_holds_697 (lv_at hl 0 rfl) ?_
    exact W.widen h1 h2 (W.zret C.1 C.2.1 Bd.returns (bit_nar (Or.inr rfl)) (fun t ht _ => ⟨⟨_, (), rfl, rfl, trivial⟩, hS.F ht⟩) hS.2.2 dL_holds_699 Bd.notSynchronized)
  refine cn_newF (ci := 10) (N := 11) (fs := [.null, .null, .null, .null, .null, .null, .null, .int 0, .int 0, .int 0, .int 0]) C hE rfl tyX9 tyX9_ok gf_X9 (by intro j hj; have h : j = 0 ∨ j = 1 ∨ j = 2 ∨ j = 3 ∨ j = 4 ∨ j = 5 ∨ j = 6 ∨ j = 7 ∨ j = 8 ∨ j = 9 ∨ j = 10 := (by omega); rcases h with rfl | rfl | rfl | rfl | rfl | rfl | rfl | rfl | rfl | rfl | rfl <;> rfl) kw_72 kw_73 kw_38 hS (Nat.le_of_ble_eq_true rfl) (Nat.le_of_ble_eq_true rfl) dL_holds_0 (fun H1 hP1 z1 o1 hS => ?_)
  refine lv_dup C.1 C.2.1 dL_holds_3 rfl ?_
  refine cn_callF (n := 0) (As := []) (rest := [.ref s.heap.size]) C hE hP1 (Nat.le_refl _) hS n_X9_init kw_74 kw_75 kw_38 kw_76 rfl ⟨by decide +kernel, by decide +kernel, by decide +kernel⟩ ⟨(Nat.le_of_ble_eq_true rfl), (Nat.le_of_ble_eq_true rfl)⟩ rfl rfl (Nat.le_of_ble_eq_true rfl) hl.1 dL_holds_4 ⟨(Nat.le_of_ble_eq_true rfl), (Nat.le_of_ble_eq_true rfl)⟩ (fun u1 H2 locs ho1 hP hD2 z2 k2 hS => ?_)
  refine lv_astore_n (lv' := [(1, .ref s.heap.size), (0, .ref b)]) C.1 C.2.1 dL_holds_7 rfl hl (by decide) rfl (fun ls hl => ?_)
  have hD : va_D (fun q => s.heap.size ≤ q) u1 := ⟨hD2.1, fun k q hk => An_ge (hD2.2 k q hk) (Nat.le_refl _) (by omega)⟩
  refine sa_bipush C dL_holds_8 (by decide) ?_
  refine cn_newi (N := 16) C hE kw_184 hP hD hS (fun q h => h) (by decide +kernel) (by decide +kernel) (Nat.le_of_ble_eq_true rfl) (Nat.le_of_ble_eq_true rfl) (Nat.le_of_ble_eq_true rfl) dL_holds_10 (fun l_c H3 hP hD hS => ?_)
  refine lv_astore_n (lv' := [(2, .ref l_c), (1, .ref s.heap.size), (0, .ref b)]) C.1 C.2.1 dL_holds_12 rfl hl (by decide) rfl (fun ls hl => ?_)
  refine sa_bipush C dL_holds_13 (by decide) ?_
  refine cn_newi (N := 30) C hE kw_184 hP hD hS (fun q h => h) (by decide +kernel) (by decide +kernel) (Nat.le_of_ble_eq_true rfl) (Nat.le_of_ble_eq_true rfl) (Nat.le_of_ble_eq_true rfl) dL_holds_15 (fun l_r H4 hP hD hS => ?_)
  refine lv_astore_n (lv' := [(3, .ref l_r), (2, .ref l_c), (1, .ref s.heap.size), (0, .ref b)]) C.1 C.2.1 dL_holds_17 rfl hl (by decide) rfl (fun ls hl => ?_)
  refine sa_bipush C dL_holds_18 (by decide) ?_
  refine cn_newi (N := 10) C hE kw_184 hP hD hS (fun q h => h) (by decide +kernel) (by decide +kernel) (Nat.le_of_ble_eq_true rfl) (Nat.le_of_ble_eq_true rfl) (Nat.le_of_ble_eq_true rfl) dL_holds_20 (fun l_o H5 hP hD hS => ?_)
  refine lv_astore (lv' := [(4, .ref l_o), (3, .ref l_r), (2, .ref l_c), (1, .ref s.heap.size), (0, .ref b)]) C.1 C.2.1 dL_holds_22 hl (by decide) rfl (fun ls hl => ?_)
  refine sa_bipush C dL_holds_24 (by decide) ?_
  refine cn_newi (N := 60) C hE kw_184 hP hD hS (fun q h => h) (by decide +kernel) (by decide +kernel) (Nat.le_of_ble_eq_true rfl) (Nat.le_of_ble_eq_true rfl) (Nat.le_of_ble_eq_true rfl) dL_holds_26 (fun l_t H6 hP hD hS => ?_)
  refine lv_astore (lv' := [(5, .ref l_t), (4, .ref l_o), (3, .ref l_r), (2, .ref l_c), (1, .ref s.heap.size), (0, .ref b)]) C.1 C.2.1 dL_holds_28 hl (by decide) rfl (fun ls hl => ?_)
  refine sa_bipush C dL_holds_30 (by decide) ?_
  refine cn_newl (N := 10) C hE kw_751 hP hD hS (fun q h => h) (by decide +kernel) (by decide +kernel) (Nat.le_of_ble_eq_true rfl) (Nat.le_of_ble_eq_true rfl) (Nat.le_of_ble_eq_true rfl) dL_holds_32 (fun l_w H7 hP hD hS => ?_)
  refine lv_astore (lv' := [(6, .ref l_w), (5, .ref l_t), (4, .ref l_o), (3, .ref l_r), (2, .ref l_c), (1, .ref s.heap.size), (0, .ref b)]) C.1 C.2.1 dL_holds_34 hl (by decide) rfl (fun ls hl => ?_)
  refine sa_bipush C dL_holds_36 (by decide) ?_
  refine cn_newi (N := 10) C hE kw_184 hP hD hS (fun q h => h) (by decide +kernel) (by decide +kernel) (Nat.le_of_ble_eq_true rfl) (Nat.le_of_ble_eq_true rfl) (Nat.le_of_ble_eq_true rfl) dL_holds_38 (fun l_f H8 hP hD hS => ?_)
  refine lv_astore (lv' := [(7, .ref l_f), (6, .ref l_w), (5, .ref l_t), (4, .ref l_o), (3, .ref l_r), (2, .ref l_c), (1, .ref s.heap.size), (0, .ref b)]) C.1 C.2.1 dL_holds_40 hl (by decide) rfl (fun ls hl => ?_)
  refine sa_bipush C dL_holds_42 (by decide) ?_
  refine cn_newi (N := 60) C hE kw_184 hP hD hS (fun q h => h) (by decide +kernel) (by decide +kernel) (Nat.le_of_ble_eq_true rfl) (Nat.le_of_ble_eq_true rfl) (Nat.le_of_ble_eq_true rfl) dL_holds_44 (fun l_b H9 hP hD hS => ?_)
  refine lv_astore (lv' := [(8, .ref l_b), (7, .ref l_f), (6, .ref l_w), (5, .ref l_t), (4, .ref l_o), (3, .ref l_r), (2, .ref l_c), (1, .ref s.heap.size), (0, .ref b)]) C.1 C.2.1 dL_holds_46 hl (by decide) rfl (fun ls hl => ?_)
  refine sa_bipush C dL_holds_48 (by decide) ?_
  refine cn_newi (N := 9) C hE kw_184 hP hD hS (fun q h => h) (by decide +kernel) (by decide +kernel) (Nat.le_of_ble_eq_true rfl) (Nat.le_of_ble_eq_true rfl) (Nat.le_of_ble_eq_true rfl) dL_holds_50 (fun l_d H10 hP hD hS => ?_)
  refine lv_astore (lv' := [(9, .ref l_d), (8, .ref l_b), (7, .ref l_f), (6, .ref l_w), (5, .ref l_t), (4, .ref l_o), (3, .ref l_r), (2, .ref l_c), (1, .ref s.heap.size), (0, .ref b)]) C.1 C.2.1 dL_holds_52 hl (by decide) rfl (fun ls hl => ?_)
  refine sa_bipush C dL_holds_54 (by decide) ?_
  refine cn_newi (N := 6) C hE kw_184 hP hD hS (fun q h => h) (by decide +kernel) (by decide +kernel) (Nat.le_of_ble_eq_true rfl) (Nat.le_of_ble_eq_true rfl) (Nat.le_of_ble_eq_true rfl) dL_holds_56 (fun l_m H11 hP hD hS => ?_)
  refine lv_astore (lv' := [(10, .ref l_m), (9, .ref l_d), (8, .ref l_b), (7, .ref l_f), (6, .ref l_w), (5, .ref l_t), (4, .ref l_o), (3, .ref l_r), (2, .ref l_c), (1, .ref s.heap.size), (0, .ref b)]) C.1 C.2.1 dL_holds_58 hl (by decide) rfl (fun ls hl => ?_)
  refine sa_bipush C dL_holds_60 (by decide) ?_
  refine cn_newi (N := 30) C hE kw_184 hP hD hS (fun q h => h) (by decide +kernel) (by decide +kernel) (Nat.le_of_ble_eq_true rfl) (Nat.le_of_ble_eq_true rfl) (Nat.le_of_ble_eq_true rfl) dL_holds_62 (fun l_x H12 hP hD hS => ?_)
  refine lv_astore (lv' := [(11, .ref l_x), (10, .ref l_m), (9, .ref l_d), (8, .ref l_b), (7, .ref l_f), (6, .ref l_w), (5, .ref l_t), (4, .ref l_o), (3, .ref l_r), (2, .ref l_c), (1, .ref s.heap.size), (0, .ref b)]) C.1 C.2.1 dL_holds_64 hl (by decide) rfl (fun ls hl => ?_)
  obtain ⟨a, hPa, hDa, a10, a104, a105, a106, a107, a108, a109, a110, a111, a112, a113⟩ := start_fold ho1 hP hD
  have hR := start_Rp hPa hDa
  have e10 : α0 a 10 0 = s.heap.size := a10
  have e104 : α0 a 104 0 = l_c := a104
  have e105 : α0 a 105 0 = l_r := a105
  have e106 : α0 a 106 0 = l_o := a106
  have e107 : α0 a 107 0 = l_t := a107
  have e108 : α0 a 108 0 = l_w := a108
  have e109 : α0 a 109 0 = l_f := a109
  have e110 : α0 a 110 0 = l_b := a110
  have e111 : α0 a 111 0 = l_d := a111
  have e112 : α0 a 112 0 = l_m := a112
  have e113 : α0 a 113 0 = l_x := a113
  have hl := lv_sub hl [11, 10, 9, 8, 7, 6, 5, 4, 3, 2, 1, 0] rfl
  have hl : lv_has ls 19 [(0, .ref b), (1, .ref s.heap.size), (2, .ref l_c), (3, .ref l_r), (4, .ref l_o), (5, .ref l_t), (6, .ref l_w), (7, .ref l_f), (8, .ref l_b), (9, .ref l_d), (10, .ref l_m), (11, .ref l_x)] := hl
  have hl : lv_has ls 19 [(0, .ref b), (1, .ref (α0 a 10 0)), (2, .ref (α0 a 104 0)), (3, .ref (α0 a 105 0)), (4, .ref (α0 a 106 0)), (5, .ref (α0 a 107 0)), (6, .ref (α0 a 108 0)), (7, .ref (α0 a 109 0)), (8, .ref (α0 a 110 0)), (9, .ref (α0 a 111 0)), (10, .ref (α0 a 112 0)), (11, .ref (α0 a 113 0))] := by rw [e10, e104, e105, e106, e107, e108, e109, e110, e111, e112, e113]; exact hl
  have X0 : CX p m c cL_holds 19 s ([Value.ref b] : List Value).toArray "TablePagesLaw" G s.heap.size κ0 meth (some .boolean) := ⟨C, hE, kOK0, Bd.returns, Bd.notSynchronized⟩
  exact t_L_holds_66 (Qm := fun v => v = 1) X0 N V hlt rfl ⟨(Nat.le_of_ble_eq_true rfl), (Nat.le_of_ble_eq_true rfl)⟩ (Nat.le_of_ble_eq_true rfl) (Nat.le_of_ble_eq_true rfl) hQm (α0 a) κ0 M0 w66_M0 kOK0 _ _ (by omega) (by omega) _ _ hR hS ls hl
theorem m_L_isHeld {l : Launch} {G : Gx} {B b L : Nat} {xs : Nat → Int32} (hlt : l.stackTraces = false) : vx_Met l yL_isHeld (Cond.codeWith yL_isHeld cL_isHeld 2 (some .boolean) [(0, 4, 5, 291), (0, 4, 8, 293), (0, 4, 11, 82)] :: gw) (rmX 13 9000 400000) (va_Pc [.ref b] (PH G B b L xs)) (QH B) (NX B) 9000 400000 (fun q => B ≤ q) := by
  refine vx_ofWH (cc := cL_isHeld) (maxL := 2) (ret := some .boolean) (hh := [(0, 4, 5, 291), (0, 4, 8, 293), (0, 4, 11, 82)]) (by decide +kernel) rfl ?_
  intro p e s m args below meth c s₁ Bd hml hv
  obtain ⟨rfl, rfl, N, hE, V⟩ := hv
  have hl := lv_entry ([.ref b]) (n := 2) (Nat.le_of_ble_eq_true rfl)
  rw [lg_entry_eq]
  generalize (lg_sl ([.ref b]) ++ List.replicate (2 - (lg_sl ([.ref b])).length) Slot.unset).toArray = ls at hl ⊢
  have hl : lv_has ls 2 [(0, .ref b)] := hl
  have C : CallFix p m c cL_isHeld 2 s _ gw "TablePagesLaw" := ⟨Bd.exec, Bd.bytes, hml, findClass_of_methodNamed Bd.named, fun w hw => atoms_spec (ws := Cond.codeWith yL_isHeld cL_isHeld 2 (some .boolean) [(0, 4, 5, 291), (0, 4, 8, 293), (0, 4, 11, 82)] :: gw) Bd.pre w (List.mem_cons_of_mem _ hw)⟩
  have hS : va_S (fun q => s.heap.size ≤ q) s.heap s.heap [] := va_S.rf
  refine lv_aload_n C.1 C.2.1 dL_isHeld_0 rfl (lv_at hl 0 rfl) ?_
  refine va_calli (va_runS (As := [.ref b]) (rest := []) (n := 1) C (m_L_holds (G := G) (B := s.heap.size) (b := b) (L := L) (xs := xs) hlt) (va_cwS 1 C.2.2.2.2 (g_inS kw_69 kw_70 kw_37 kw_71) rfl rfl rfl ⟨by decide +kernel, by decide +kernel, by decide +kernel⟩ ⟨(Nat.le_of_ble_eq_true rfl), (Nat.le_of_ble_eq_true rfl)⟩) ⟨PH.blind, fun U hU hW => ⟨rfl, by rw [hU], NcA.moved hW.alike N, hE.at hS hU hW, V.at hS hU hW⟩⟩ rfl rfl hl.1 rfl (lv_room (Nat.le_of_ble_eq_true rfl)) dL_isHeld_1 ⟨(Nat.le_of_ble_eq_true rfl), (Nat.le_of_ble_eq_true rfl)⟩) hS (fun q _ h => h) (fun q h => h) (fun r u t H1 locs1 ht hvm hp hb _ _ hS1 => ?_)
  obtain rfl : r = Int32.ofInt 1 := hp
  exact W.widen (Nat.le_of_ble_eq_true rfl) (Nat.le_of_ble_eq_true rfl) (vx_ret (W.zret C.1 C.2.1 Bd.returns (bit_nar (Or.inr rfl)) (fun t ht _ => ⟨⟨_, (), rfl, rfl, trivial⟩, hS1.F ht⟩) hS1.2.2 dL_isHeld_4 Bd.notSynchronized))
