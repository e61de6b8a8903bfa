/-- all that the constructors make, in a row -/
theorem start_fold {G : Gx} {w1 w2 out : Nat} {u1 u2 : va_W} {A : Nat → Prop} {H : Heap} (ho1 : Out_X9_init G w1 u1) (ho2 : Out_X10_init G w2 u2) (hP : va_P G.1 vwCl ((u1 ++ u2) ++ [(out, .inl (G.2.2.2.1, 1, .inr (.inl (fun _ => 0))))]) H) (hD : va_D A ((u1 ++ u2) ++ [(out, .inl (G.2.2.2.1, 1, .inr (.inl (fun _ => 0))))])) : ∃ a : Nat → Nat, va_P G.1 vwCl (WL G a) H ∧ va_D A (WL G a) ∧ a (pos 10 0) = w1 ∧ a (pos 11 0) = w2 ∧ a (pos 103 0) = out := by
  obtain ⟨q1, q2, q3, q4, q5, q6, q7, q8, q9, q10, q11, q12, q13, q14, q15, q16, q17, q18, q19, q20, q21, q22, q23, q24, q25, q26, q27, q28, q29, q30, q31, q32, q33, q34, q35, q36, q37, q38, q39, q40, q41, q42, q43, q44, q45, q46, q47, q48, q49, q50, q51, q52, q53, q54, q55, q56, q57, q58, rfl⟩ := ho1
  obtain ⟨m_q1, m_q2, m_q3, m_q4, m_q5, m_q6, m_q7, m_q8, m_q9, m_q10, m_q11, m_q12, m_q13, m_q14, m_q15, m_q16, m_q17, m_q18, m_q19, m_q20, m_q21, m_q22, m_q23, m_q24, m_q25, m_q26, m_q27, m_q28, m_q29, m_q30, m_q31, m_q32, m_q33, m_q34, m_q35, m_q36, m_q37, m_q38, m_q39, m_q40, m_q41, m_q42, m_q43, m_q44, m_q45, m_q46, m_q47, rfl⟩ := ho2
  refine ⟨fun k => (w1 :: q1 :: q2 :: q3 :: q4 :: q5 :: q6 :: q7 :: q8 :: q9 :: q10 :: q11 :: q12 :: q13 :: q14 :: q15 :: q16 :: q17 :: q18 :: q19 :: q20 :: q21 :: q22 :: q23 :: q24 :: q25 :: q26 :: q27 :: q28 :: q29 :: q30 :: q31 :: q32 :: q33 :: q34 :: q35 :: q36 :: q37 :: q38 :: q39 :: q40 :: q41 :: q42 :: q43 :: q44 :: q45 :: q46 :: q47 :: q48 :: q49 :: q50 :: q51 :: q52 :: q53 :: q54 :: q55 :: q56 :: q57 :: q58 :: w2 :: m_q1 :: m_q2 :: m_q3 :: m_q4 :: m_q5 :: m_q6 :: m_q7 :: m_q8 :: m_q9 :: m_q10 :: m_q11 :: m_q12 :: m_q13 :: m_q14 :: m_q15 :: m_q16 :: m_q17 :: m_q18 :: m_q19 :: m_q20 :: m_q21 :: m_q22 :: m_q23 :: m_q24 :: m_q25 :: m_q26 :: m_q27 :: m_q28 :: m_q29 :: m_q30 :: m_q31 :: m_q32 :: m_q33 :: m_q34 :: m_q35 :: m_q36 :: m_q37 :: m_q38 :: m_q39 :: m_q40 :: m_q41 :: m_q42 :: m_q43 :: m_q44 :: m_q45 :: m_q46 :: m_q47 :: out :: []).getD k 0, hP, hD, rfl, rfl, rfl⟩
set_option maxHeartbeats 8000000 in
set_option maxRecDepth 100000 in
theorem start_walk {p : Program} {e : Env} {s : State} {m : MethodId} {below : List Frame} {meth : Method} {c : Code} (l : Launch) (hflags : l.flags = flags0) {b L : Nat} {xs : Nat → Int32} (hL : L ≤ 2560) (C0 : lw_At p s m meth c b L xs) (Inv : (Nat → Int) → Mem → Prop) (hI0 : Inv κ0 M0)
    (hstep : ∀ (κ : Nat → Int) (M : Mem), Inv κ M → ∀ c p1 p2 p3 p4 : Int, inR c → inR p1 → inR p2 → inR p3 → inR p4 → wp_law c p1 p2 p3 p4 κ M Inv) : W p l e room_1 s m #[Value.ref b] below meth c s.heap [] 0 0 (lw_Z below #[Value.ref b] s) (entryFrame m ([Value.ref b] : List Value).toArray 7) := by
  obtain ⟨hx, hb, hr, hml, hown, hts, hX, hbl, hlocks, hgv⟩ := id C0
  obtain ⟨G, hE, N⟩ := start_EV C0
  have hlt : l.stackTraces = false := by
    unfold Launch.stackTraces
    rw [hflags]
    decide +kernel
  have C : CallFix p m c cL_law 7 s #[Value.ref b] gw "TablePagesLaw" := ⟨hx, hb, hml, hown, fun w hw => hts w (List.mem_filter.mp hw).1⟩
  have V : LV s s.heap.size b L xs := ⟨hX, hbl, Nat.not_le.mpr hbl, hL⟩
  have hl := lv_entry ([.ref b]) (n := 7) (Nat.le_of_ble_eq_true rfl)
  rw [lg_entry_eq]
  generalize (lg_sl ([.ref b]) ++ List.replicate (7 - (lg_sl ([.ref b])).length) Slot.unset).toArray = ls at hl ⊢
  have hl : lv_has ls 7 [(0, .ref b)] := hl
  have hS : va_S (fun q => s.heap.size ≤ q) s.heap s.heap [] := va_S.rf
  refine cn_newF (ci := 10) (N := 11) (fs := [.null, .null, .null, .null, .null, .null, .null, .int 0, .int 0, .int 0, .int 0]) C hE rfl tyX9 tyX9_ok gf_X9 (by intro j hj; have h : j = 0 ∨ j = 1 ∨ j = 2 ∨ j = 3 ∨ j = 4 ∨ j = 5 ∨ j = 6 ∨ j = 7 ∨ j = 8 ∨ j = 9 ∨ j = 10 := (by omega); rcases h with rfl | rfl | rfl | rfl | rfl | rfl | rfl | rfl | rfl | rfl | rfl <;> rfl) kw_120 kw_121 kw_94 hS (Nat.le_of_ble_eq_true rfl) (Nat.le_of_ble_eq_true rfl) dL_law_0 (fun H1 hP1 z1 o1 hS => ?_)
  refine lv_dup hx hb dL_law_3 rfl ?_
  refine cn_callF (n := 0) (As := []) (rest := [.ref s.heap.size]) C hE hP1 (Nat.le_refl _) hS n_X9_init kw_122 kw_123 kw_94 kw_124 rfl ⟨by decide +kernel, by decide +kernel, by decide +kernel⟩ ⟨(Nat.le_of_ble_eq_true rfl), (Nat.le_of_ble_eq_true rfl)⟩ rfl rfl (Nat.le_of_ble_eq_true rfl) hl.1 dL_law_4 ⟨(Nat.le_of_ble_eq_true rfl), (Nat.le_of_ble_eq_true rfl)⟩ (fun u1 H2 locs ho1 hP2 hD2 z2 k2 hS => ?_)
  refine lv_astore_n (lv' := [(1, .ref s.heap.size), (0, .ref b)]) hx hb dL_law_7 rfl hl (by decide) rfl (fun ls hl => ?_)
  refine cn_newF (ci := 11) (N := 60) (fs := [.null, .null, .null, .null, .int 0, .null, .null, .null, .int 0, .null, .null, .null, .null, .null, .null, .int 0, .null, .null, .null, .null, .null, .null, .null, .null, .int 0, .int 0, .int 0, .null, .null, .null, .int 0, .null, .null, .null, .null, .null, .null, .null, .null, .null, .null, .int 0, .null, .null, .null, .null, .int 0, .null, .null, .int 0, .null, .null, .null, .null, .int 0, .null, .null, .null, .int 0, .int 0]) C hE rfl tyX10 tyX10_ok gf_X10 (by intro j hj; have h : j = 0 ∨ j = 1 ∨ j = 2 ∨ j = 3 ∨ j = 4 ∨ j = 5 ∨ j = 6 ∨ j = 7 ∨ j = 8 ∨ j = 9 ∨ j = 10 ∨ j = 11 ∨ j = 12 ∨ j = 13 ∨ j = 14 ∨ j = 15 ∨ j = 16 ∨ j = 17 ∨ j = 18 ∨ j = 19 ∨ j = 20 ∨ j = 21 ∨ j = 22 ∨ j = 23 ∨ j = 24 ∨ j = 25 ∨ j = 26 ∨ j = 27 ∨ j = 28 ∨ j = 29 ∨ j = 30 ∨ j = 31 ∨ j = 32 ∨ j = 33 ∨ j = 34 ∨ j = 35 ∨ j = 36 ∨ j = 37 ∨ j = 38 ∨ j = 39 ∨ j = 40 ∨ j = 41 ∨ j = 42 ∨ j = 43 ∨ j = 44 ∨ j = 45 ∨ j = 46 ∨ j = 47 ∨ j = 48 ∨ j = 49 ∨ j = 50 ∨ j = 51 ∨ j = 52 ∨ j = 53 ∨ j = 54 ∨ j = 55 ∨ j = 56 ∨ j = 57 ∨ j = 58 ∨ j = 59 := (by omega); rcases h with rfl | rfl | rfl | rfl | rfl | rfl | rfl | rfl | rfl | rfl | rfl | rfl | rfl | rfl | rfl | rfl | rfl | rfl | rfl | rfl | rfl | rfl | rfl | rfl | rfl | rfl | rfl | rfl | rfl | rfl | rfl | rfl | rfl | rfl | rfl | rfl | rfl | rfl | rfl | rfl | rfl | rfl | rfl | rfl | rfl | rfl | rfl | rfl | rfl | rfl | rfl | rfl | rfl | rfl | rfl | rfl | rfl | rfl | rfl | rfl <;> rfl) kw_1523 kw_1524 kw_104 hS (Nat.le_of_ble_eq_true rfl) (Nat.le_of_ble_eq_true rfl) dL_law_8 (fun H3 hP3 z3 o3 hS => ?_)
  refine lv_dup hx hb dL_law_11 rfl ?_
  refine cn_callF (n := 0) (As := []) (rest := [.ref H2.size]) C hE hP3 (Nat.le_trans (by omega) z2) hS n_X10_init kw_1525 kw_1526 kw_104 kw_1527 rfl ⟨by decide +kernel, by decide +kernel, by decide +kernel⟩ ⟨(Nat.le_of_ble_eq_true rfl), (Nat.le_of_ble_eq_true rfl)⟩ rfl rfl (Nat.le_of_ble_eq_true rfl) hl.1 dL_law_12 ⟨(Nat.le_of_ble_eq_true rfl), (Nat.le_of_ble_eq_true rfl)⟩ (fun u2 H4 locs ho2 hP4 hD4 z4 k4 hS => ?_)
  refine lv_astore_n (lv' := [(2, .ref H2.size), (1, .ref s.heap.size), (0, .ref b)]) hx hb dL_law_15 rfl hl (by decide) rfl (fun ls hl => ?_)
  refine sa_const C dL_law_16 ?_
  have hPu : va_P G.1 vwCl u1 H4 := fun k q hk => by
    have h1 := hP2 k q hk
    have h2 := h1.lt
    exact h1.kept ((k4 _ (by omega) (by omega)).trans (o3 _ h2))
  have hDu : va_D (fun q => s.heap.size ≤ q) (u1 ++ u2) := va_D.app ⟨hD2.1, fun k q hk => An_ge (hD2.2 k q hk) (Nat.le_refl _) (by omega)⟩ ⟨hD4.1, fun k q hk => An_ge (hD4.2 k q hk) (by omega) (by omega)⟩ (fun i j p q hp hq e => by
    have h1 := (hP2 i p hp).lt
    have h2 : H2.size ≤ q.1 := An_ge (hD4.2 j q hq) (Nat.le_refl _) (by omega)
    omega)
  refine cn_newl (N := 1) C hE kw_2086 (va_P.app hPu hP4) hDu hS (fun q h => h) (by decide +kernel) (by decide +kernel) (Nat.le_of_ble_eq_true rfl) (Nat.le_of_ble_eq_true rfl) (Nat.le_of_ble_eq_true rfl) dL_law_17 (fun out H5 hP5 hD5 hS => ?_)
  obtain ⟨a, hPa, hDa, a10, a11, a103⟩ := start_fold ho1 ho2 hP5 hD5
  have hR := start_Rp hPa hDa
  refine lv_astore_n (lv' := [(3, .ref out), (2, .ref H2.size), (1, .ref s.heap.size), (0, .ref b)]) hx hb dL_law_19 rfl hl (by decide) rfl (fun ls hl => ?_)
  refine sa_const C dL_law_20 ?_
  refine lv_istore (lv' := [(4, .int (Int32.ofInt 0)), (3, .ref out), (2, .ref H2.size), (1, .ref s.heap.size), (0, .ref b)]) hx hb dL_law_21 hl (by decide) rfl (fun ls hl => ?_)
  have e10 : α0 a 10 0 = s.heap.size := a10
  have e11 : α0 a 11 0 = H2.size := a11
  have e103 : α0 a 103 0 = out := a103
  rw [← e10, ← e11, ← e103] at hl
  have X0 : CX p m c cL_law 7 s #[Value.ref b] "TablePagesLaw" G s.heap.size κ0 meth ret := ⟨C, hE, kOK0, hr, hlocks⟩
  refine law_loop (CE := 4204) (SE := 1122512) X0 N V hlt rfl ⟨(Nat.le_of_ble_eq_true rfl), (Nat.le_of_ble_eq_true rfl)⟩ (Nat.le_of_ble_eq_true rfl) (Nat.le_of_ble_eq_true rfl) Inv hstep (fun H locs ls hS => ?_) (L / 5) 0 _ _ κ0 (α0 a) M0 _ _ ls (by decide) (by omega) (by omega) ?_ ?_ hI0 kOK0 hR hS (lv_sub hl [4, 3, 2, 1, 0] rfl)
  · refine sa_const C dL_law_2376 ?_
    refine va_forget hS.2.2 ?_
    refine W.widen (k := 601024) (n := 7293034) (Nat.le_of_ble_eq_true rfl) (Nat.le_of_ble_eq_true rfl) ?_
    exact lw_ret hx hb hr hlocks dL_law_2377
  · show 0 + 1 + 58 + 1 + 47 + 1 + 8 * (L / 5) ≤ 4204
    omega
  · show 0 + 11 + 24935 + 60 + 22305 + 1 + 2100 * (L / 5) ≤ 1122512
    omega
