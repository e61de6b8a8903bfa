/-! THE CLAIM OUT OF ONE WALK OF THE LAW'S BODY. Your part is whole_start (and what it stands on); all else here is the same for every law, but numbers. -/
def R_law : String := "TablePagesLaw"
def lw_P (b : Addr) (xs : List Int32) (args : Array Value) (s : State) : Prop := args = #[.ref b] ∧ s.IntsAt b xs ∧ xs.length ≤ 260 ∧ (Jvm.Cond.and given_1 narrow_1).before args s = true
def lw_Q (_ : Array Value) (s : State) (o : Outcome) (t : State) : Prop := o = .returned (some (.int 1)) ∧ Framed s o t [] 600104 7301314
def lw_Z (below : List Frame) (a : Array Value) (s : State) : State → Prop := fun t => ∃ o, t.status = .running ∧ Ended t below o ∧ lw_Q a s o t
/-- the law's own end, with 1 on the stack, nothing written that was there before, its room as the claim has it -/
theorem lw_ret {p : Program} {l : Launch} {e : Env} {s : State} {m : MethodId} {below : List Frame} {meth : Method} {c : Code} {b : Nat} (hx : p.tables.exec = Jvm.exec) (hb : c.code = code) (hr : meth.sig.returnType = ret) (hlocks : meth.locks = false) {pc : Nat} {H : Heap} {ls : Array Slot} (hdg : decode code pc = .ok (.ireturn, 1)) : W p l e room_1 s m #[Value.ref b] below meth c H [] 600104 7301314 (lw_Z below #[Value.ref b] s) (F0 m pc ls [.int 1]) := by
  intro T hT X
  obtain ⟨fs, hret, hrun, hended, hW, hframe⟩ := X.leave (v := some (.int 1)) (hlocks := hlocks) (fun h => by rw [hr] at h; cases h)
  have hmeth' : T.vm.method? m = some meth := X.method'
  refine ⟨T.setFrames fs, ?_, .returned (some (.int 1)), hrun, hended, rfl, ⟨_, rfl⟩, hW, hframe⟩
  jvm_step X.here [X.here.top, hx, hb, hdg, hmeth', hr, ret, narrow_b1]
  (try refine ⟨rfl, ?_⟩); (try refine ⟨rfl, ?_⟩)
  first | (intro acts; rw [hret _ acts rfl rfl rfl]) | rw [hret _ _ rfl rfl rfl]
  exact Steps.refl _
/-- what holds at the law's entry: the machine, the code, the tables' words (any of lw_tbl by 'hts w (by decide +kernel)'), the script of L ints xs at the cell b, what the Statement gives of the start (any of its parts by flat_of_before) -/
def lw_At (p : Program) (s : State) (m : MethodId) (meth : Method) (c : Code) (b L : Nat) (xs : Nat → Int32) : Prop :=
  p.tables.exec = Jvm.exec ∧ c.code = code ∧ meth.sig.returnType = ret ∧ c.maxLocals = 1 ∧ s.vm.findClass R_law = some m.cls ∧ (∀ w ∈ lw_tbl, w.before #[Value.ref b] s = true) ∧ va_X b L xs s s.heap ∧ b < s.heap.size ∧ meth.locks = false ∧ (Jvm.Cond.and given_1 narrow_1).before #[Value.ref b] s = true
theorem dL_law_0 : decode cL_law 0 = .ok (.aload_n 0, 1) := by decide +kernel
theorem dL_law_1 : decode cL_law 1 = .ok (.invokestatic 295, 3) := by decide +kernel
theorem dL_law_4 : decode cL_law 4 = .ok (.ireturn, 1) := by decide +kernel
theorem eq_int_of {args : Array Value} {s : State} {t : Term} {n : Int32} (h : (Cond.eq t (.int n)).before args s = true) : t.eval args s none [] s = some (.int n) := by
  have hb : (Term.int n).eval args s none [] s = some (.int n) := rfl
  simp only [Cond.before, Cond.holds, Cond.value, hb] at h
  cases ha : t.eval args s none [] s with
  | none => simp [ha] at h
  | some v => cases v <;> simp [ha] at h <;> simp [h]
theorem nwk_tab {w : Cond} (h : nwk w = true) : w.onTables = true := by
  cases w <;> first | rfl | (exact absurd h (by simp [nwk]))
theorem start_arr {s : State} {args : Array Value} {ty : FieldType} (h : (Cond.arrayClass ty).before args s = true) : ∃ cA : ClassId, ArrOfT s cA ty ∧ s.vm.findClass ("[" ++ ty.toString) = some cA := by
  obtain ⟨c, k, comp, h1, h2, h3⟩ := Cond.arrayClass_spec h
  exact ⟨c, fun n z => ⟨(fun k h => by cases h), k, h2, comp, h3⟩, h1⟩
set_option maxHeartbeats 4000000 in
set_option maxRecDepth 100000 in
theorem start_EV {p : Program} {s : State} {m : MethodId} {meth : Method} {c : Code} {b L : Nat} {xs : Nat → Int32} (C0 : lw_At p s m meth c b L xs) : ∃ G : Gx, EV G s.heap.size s ∧ NcA s := by
  obtain ⟨hx, hb, hr, hml, hown, hts, hX, hbl, hlocks, hgv⟩ := id C0
  have htg : ∀ w ∈ gw, w.before #[Value.ref b] s = true := fun w hw => hts w (List.mem_filter.mp hw).1
  have htn : ∀ w ∈ nw, va_Nw w s := fun w hw => va_Nw.of (nwk_tab (List.mem_filter.mp hw).2) (hts w (List.mem_filter.mp hw).1)
  have hs := flat_of_before _ hgv
  have hA : ∀ a : Nat, a < s.heap.size → ¬ (s.heap.size ≤ a) := fun a h1 h2 => absurd h1 (Nat.not_lt.mpr h2)
  have hcl : ∀ q ∈ vwCl, ∃ (cC : ClassId) (iS : Nat → Nat), u_Kn s q.1 q.2.1 q.2.2 cC iS := List.forall_mem_cons.mpr ⟨u_known (ws := gw) htg gf_Jx4a65c (htg _ kw_87), List.forall_mem_cons.mpr ⟨u_known (ws := gw) htg gf_X0 (htg _ kw_523), List.forall_mem_cons.mpr ⟨u_known (ws := gw) htg gf_X1 (htg _ kw_778), List.forall_mem_cons.mpr ⟨u_known (ws := gw) htg gf_X2 (htg _ kw_284), List.forall_mem_cons.mpr ⟨u_known (ws := gw) htg gf_X3 (htg _ kw_81), List.forall_mem_cons.mpr ⟨u_known (ws := gw) htg gf_X4 (htg _ kw_186), List.forall_mem_cons.mpr ⟨u_known (ws := gw) htg gf_X5 (htg _ kw_880), List.forall_mem_cons.mpr ⟨u_known (ws := gw) htg gf_X6 (htg _ kw_235), List.forall_mem_cons.mpr ⟨u_known (ws := gw) htg gf_X7 (htg _ kw_206), List.forall_mem_cons.mpr ⟨u_known (ws := gw) htg gf_X8 (htg _ kw_150), List.forall_mem_cons.mpr ⟨u_known (ws := gw) htg gf_X9 (htg _ kw_73), (fun _ h => nomatch h)⟩⟩⟩⟩⟩⟩⟩⟩⟩⟩⟩
  have hcl2 : ∀ k : Nat, ∃ d : ClassId × (Nat → Nat), ∀ q, vwCl[k]? = some q → u_Kn s q.1 q.2.1 q.2.2 d.1 d.2 := fun k => by
    cases h : vwCl[k]? with
    | none => exact ⟨(0, fun _ => 0), fun q hq => by cases hq⟩
    | some q =>
      obtain ⟨cC, iS, h1⟩ := hcl q (List.mem_of_getElem? h)
      exact ⟨(cC, iS), fun q' hq => by cases hq; exact h1⟩
  obtain ⟨dd, hdd⟩ := Classical.axiomOfChoice hcl2
  obtain ⟨cI, hI1, hI2⟩ := start_arr (htg _ kw_184)
  obtain ⟨cZ, hZ1, hZ2⟩ := start_arr (htg _ kw_148)
  obtain ⟨cJ, hJ1, hJ2⟩ := start_arr (htg _ kw_751)
  have hao : va_AO "java/lang/Object" s := va_AO.of (hts _ (List.mem_of_getElem? (i := 850) (by decide +kernel)))
  obtain ⟨comp, cO, kO, o1, o2, o3, o4, o5⟩ := Cond.arrayOver_spec hao
  obtain ⟨t, ht, hT⟩ := va_Tof (N := 3) (f := fun j => .int (mrp j)) (ty := .int) (tm := (.static "TablePages" "MOST_ROWS_OF_PART" "[I")) (A := fun q => s.heap.size ≤ q) (by decide) (hs _ (by decide +kernel)) (eq_int_of (hs _ (by decide +kernel))) (fun j hj => by
    rcases (show j = 0 ∨ j = 1 ∨ j = 2 by omega) with rfl | rfl | rfl
    · exact eq_int_of (n := 3) (hs _ (by decide +kernel))
    · exact eq_int_of (n := 24) (hs _ (by decide +kernel))
    · exact eq_int_of (n := 2) (hs _ (by decide +kernel))) hA
  obtain ⟨e0, he, hE⟩ := va_Tof (N := 0) (f := fun _ => .null) (ty := .object "java/lang/Object") (tm := (.static "java/util/ArrayList" "DEFAULTCAPACITY_EMPTY_ELEMENTDATA" "[Ljava/lang/Object;")) (A := fun q => s.heap.size ≤ q) (by decide) (hs _ (by decide +kernel)) (eq_int_of (hs _ (by decide +kernel))) (fun j hj => absurd hj (by omega)) hA
  have htp : ∃ cls, s.vm.findClass "TablePages" = some cls := ⟨_, (hdd 10 _ rfl).2.1⟩
  have hstr : ∀ (k : Nat) (tx : String), (Cond.stringRef "TablePages" k tx).before #[Value.ref b] s = true → ∃ sa : Nat, vk_R "TablePages" k tx sa s := fun k tx h => by
    obtain ⟨cls, h1⟩ := htp
    obtain ⟨-, -, -, sa, -, -, -, -, -, hev⟩ := Cond.stringRef_spec h1 h
    exact ⟨sa, vk_R.of h hev⟩
  refine ⟨((fun k => (dd k).1, fun k => (dd k).2), cI, cZ, cJ, cO, e0), ⟨⟨fun k q hq => hdd k q hq, fun k q hq => ?_⟩, ⟨htn, ?_, ?_, List.forall_mem_cons.mpr ⟨hstr _ _ (hts _ (List.mem_of_getElem? (i := 725) (by decide +kernel))), List.forall_mem_cons.mpr ⟨hstr _ _ (hts _ (List.mem_of_getElem? (i := 767) (by decide +kernel))), List.forall_mem_cons.mpr ⟨hstr _ _ (hts _ (List.mem_of_getElem? (i := 867) (by decide +kernel))), List.forall_mem_cons.mpr ⟨hstr _ _ (hts _ (List.mem_of_getElem? (i := 875) (by decide +kernel))), List.forall_mem_cons.mpr ⟨hstr _ _ (hts _ (List.mem_of_getElem? (i := 952) (by decide +kernel))), List.forall_mem_cons.mpr ⟨hstr _ _ (hts _ (List.mem_of_getElem? (i := 967) (by decide +kernel))), List.forall_mem_cons.mpr ⟨hstr _ _ (hts _ (List.mem_of_getElem? (i := 968) (by decide +kernel))), List.forall_mem_cons.mpr ⟨hstr _ _ (hts _ (List.mem_of_getElem? (i := 975) (by decide +kernel))), List.forall_mem_cons.mpr ⟨hstr _ _ (hts _ (List.mem_of_getElem? (i := 1085) (by decide +kernel))), List.forall_mem_cons.mpr ⟨hstr _ _ (hts _ (List.mem_of_getElem? (i := 1086) (by decide +kernel))), List.forall_mem_cons.mpr ⟨hstr _ _ (hts _ (List.mem_of_getElem? (i := 1087) (by decide +kernel))), List.forall_mem_cons.mpr ⟨hstr _ _ (hts _ (List.mem_of_getElem? (i := 1104) (by decide +kernel))), List.forall_mem_cons.mpr ⟨hstr _ _ (hts _ (List.mem_of_getElem? (i := 1105) (by decide +kernel))), List.forall_mem_cons.mpr ⟨hstr _ _ (hts _ (List.mem_of_getElem? (i := 1117) (by decide +kernel))), List.forall_mem_cons.mpr ⟨hstr _ _ (hts _ (List.mem_of_getElem? (i := 1118) (by decide +kernel))), List.forall_mem_cons.mpr ⟨hstr _ _ (hts _ (List.mem_of_getElem? (i := 1140) (by decide +kernel))), List.forall_mem_cons.mpr ⟨hstr _ _ (hts _ (List.mem_of_getElem? (i := 1169) (by decide +kernel))), List.forall_mem_cons.mpr ⟨hstr _ _ (hts _ (List.mem_of_getElem? (i := 1191) (by decide +kernel))), List.forall_mem_cons.mpr ⟨hstr _ _ (hts _ (List.mem_of_getElem? (i := 1203) (by decide +kernel))), List.forall_mem_cons.mpr ⟨hstr _ _ (hts _ (List.mem_of_getElem? (i := 1209) (by decide +kernel))), List.forall_mem_cons.mpr ⟨hstr _ _ (hts _ (List.mem_of_getElem? (i := 1299) (by decide +kernel))), List.forall_mem_cons.mpr ⟨hstr _ _ (hts _ (List.mem_of_getElem? (i := 1347) (by decide +kernel))), List.forall_mem_cons.mpr ⟨hstr _ _ (hts _ (List.mem_of_getElem? (i := 1364) (by decide +kernel))), List.forall_mem_cons.mpr ⟨hstr _ _ (hts _ (List.mem_of_getElem? (i := 1375) (by decide +kernel))), List.forall_mem_cons.mpr ⟨hstr _ _ (hts _ (List.mem_of_getElem? (i := 1385) (by decide +kernel))), List.forall_mem_cons.mpr ⟨hstr _ _ (hts _ (List.mem_of_getElem? (i := 1403) (by decide +kernel))), List.forall_mem_cons.mpr ⟨hstr _ _ (hts _ (List.mem_of_getElem? (i := 1413) (by decide +kernel))), List.forall_mem_cons.mpr ⟨hstr _ _ (hts _ (List.mem_of_getElem? (i := 1414) (by decide +kernel))), (fun _ h => nomatch h)⟩⟩⟩⟩⟩⟩⟩⟩⟩⟩⟩⟩⟩⟩⟩⟩⟩⟩⟩⟩⟩⟩⟩⟩⟩⟩⟩⟩, ⟨t, ?_, hT⟩, ?_, hE, va_Mi.of (hs _ (by decide +kernel)), hao⟩, Nat.le_refl _⟩, ?_⟩
  · match k, hq with
    | 0, hq => cases hq; exact ⟨hI1, hI2⟩
    | 1, hq => cases hq; exact ⟨hZ1, hZ2⟩
    | 2, hq => cases hq; exact ⟨hJ1, hJ2⟩
    | 3, hq => cases hq; exact ⟨fun N z => ⟨(fun k h => by cases h), kO, o3, comp, o4⟩, kO, comp, o3, o4, o1, o5⟩
    | k + 4, hq => simp at hq
  · exact vx_Zqof (hts _ (List.mem_of_getElem? (i := 711) (by decide +kernel))) (htg _ kw_54) (hs _ (by decide +kernel)) hA
  · exact vx_Zqof (hts _ (List.mem_of_getElem? (i := 713) (by decide +kernel))) (htg _ kw_54) (hs _ (by decide +kernel)) hA
  · exact va_Zof (hts _ (List.mem_of_getElem? (i := 874) (by decide +kernel))) (htg _ kw_38) ht hA
  · exact va_Zof (hts _ (List.mem_of_getElem? (i := 99) (by decide +kernel))) (htg _ kw_42) he hA
  · exact ⟨va_Nc.of (hs (.not (.castable xIAE xISE)) (by decide +kernel)), va_Nc.of (hs (.not (.castable xIAE xIOB)) (by decide +kernel)), va_Nc.of (hs (.not (.castable xISE xIAE)) (by decide +kernel)), va_Nc.of (hs (.not (.castable xISE xIOB)) (by decide +kernel)), va_Nc.of (hs (.not (.castable xIOB xIAE)) (by decide +kernel)), va_Nc.of (hs (.not (.castable xIOB xISE)) (by decide +kernel))⟩
set_option maxHeartbeats 4000000 in
theorem whole_start {p : Program} {e : Env} {s : State} {m : MethodId} {below : List Frame} {meth : Method} {c : Code} (l : Launch) (hflags : l.flags = flags0) {b L : Nat} {xs : Nat → Int32} (hL : L ≤ 260) (C0 : lw_At p s m meth c b L xs) : W p l e room_1 s m #[Value.ref b] below meth c s.heap [] 0 0 (lw_Z below #[Value.ref b] s) (entryFrame m ([Value.ref b] : List Value).toArray 1) := by
  obtain ⟨hx, hb, hr, hml, hown, hts, hX, hbl, hlocks, hgv⟩ := id C0
  obtain ⟨G, hE, N⟩ := start_EV C0
  have hlt : l.stackTraces = false := by
    unfold Launch.stackTraces
    rw [hflags]
    decide +kernel
  have C : CallFix p m c cL_law 1 s #[Value.ref b] gw "TablePagesLaw" := ⟨hx, hb, hml, hown, fun w hw => hts w (List.mem_filter.mp hw).1⟩
  have V : LV s s.heap.size b L xs := ⟨hX, hbl, Nat.not_le.mpr hbl, hL⟩
  have hl := lv_entry ([.ref b]) (n := 1) (Nat.le_of_ble_eq_true rfl)
  rw [lg_entry_eq]
  generalize (lg_sl ([.ref b]) ++ List.replicate (1 - (lg_sl ([.ref b])).length) Slot.unset).toArray = ls at hl ⊢
  have hl : lv_has ls 1 [(0, .ref b)] := hl
  have hS : va_S (fun q => s.heap.size ≤ q) s.heap s.heap [] := va_S.rf
  refine lv_aload_n hx hb dL_law_0 rfl (lv_at hl 0 rfl) ?_
  refine vx_calli (vx_runSX (As := [.ref b]) (rest := []) (n := 1) C (m_L_isHeld (G := G) (B := s.heap.size) (b := b) (L := L) (xs := xs) hlt) (vx_cwSW 1 C.2.2.2.2 (g_inS kw_63 kw_64 kw_37 kw_65) rfl rfl rfl ⟨by decide +kernel, by decide +kernel, by decide +kernel⟩ ⟨(Nat.le_of_ble_eq_true rfl), (Nat.le_of_ble_eq_true rfl)⟩) ⟨PH.blind, fun U hU hW => ⟨rfl, by rw [hU], NcA.moved hW.alike N, hE.at hS hU hW, V.at hS hU hW⟩⟩ rfl rfl hl.1 rfl (lv_room (Nat.le_of_ble_eq_true rfl)) dL_law_1 ⟨(Nat.le_of_ble_eq_true rfl), (Nat.le_of_ble_eq_true rfl)⟩) hS (fun q _ h => h) (fun q h => h) (fun q _ h => h) (fun E ce q9 u t H1 locs1 ht hvm hp hb _ _ hS1 hce hcv hcl => False.elim hp) (fun r u t H1 locs1 _ _ hp _ _ _ hS1 => ?_)
  obtain rfl : r = Int32.ofInt 1 := hp
  refine va_forget hS1.2.2 ?_
  refine W.widen (k := 600104) (n := 7301314) (Nat.le_of_ble_eq_true rfl) (Nat.le_of_ble_eq_true rfl) ?_
  exact lw_ret hx hb hr hlocks dL_law_4
set_option maxHeartbeats 4000000 in
theorem lw_walk (l : Launch) (hflags : l.flags = flags0) (b : Addr) (xs : List Int32) : MetFree l x (headSpec (Jvm.Cond.code x code maxLocals ret :: tables_1) room_1) (lw_P b xs) (fun _ _ _ _ _ => True) lw_Q := by
  refine MetFree.of_bodyS (code := code) (maxLocals := maxLocals) (ret := ret) (by decide) ?_ ?_
  · intro args s m h hn
    obtain ⟨meth, c, h1, h2, h3, h4, h5, h6, -, -⟩ := Cond.code_spec hn (atoms_spec (ws := Jvm.Cond.code x code maxLocals ret :: tables_1) h _ List.mem_cons_self)
    exact ⟨meth, c, h1, h2, h3, h4, h5, h6⟩
  · intro p e s m args below meth c s₁ B hml0 hP _
    obtain ⟨rfl, hx, hbd, hgv⟩ := hP
    obtain ⟨scr, harrAt, hlist, hof, hsmall⟩ := hx
    obtain ⟨hcb, hkn, -, -⟩ := State.arrayAt?_spec harrAt
    have hown : s.vm.findClass R_law = some m.cls := findClass_of_methodNamed B.named
    have hts0 : ∀ c ∈ (Jvm.Cond.code x code maxLocals ret :: tables_1), c.before #[Value.ref b] s = true := atoms_spec (ws := Jvm.Cond.code x code maxLocals ret :: tables_1) B.pre
    have hts : ∀ w ∈ lw_tbl, w.before #[Value.ref b] s = true := k2_hts_sels lw_privs (fun w hw => hts0 w (List.mem_cons_of_mem _ hw)) lw_privs_ok
    have hml : c.maxLocals = 1 := B.maxLocals_eq (hts0 _ List.mem_cons_self)
    have X₀ : Stand p l e room_1 s m #[Value.ref b] below meth c s₁ [] 0 0 := Stand.of_body B
    have hh0 : s₁.heap = s.heap := by rw [B.state]; rfl
    have hsz : scr.slots.size = xs.length := by rw [← Array.length_toList, hlist, List.length_map]
    have hval : ∀ j : Nat, j < xs.length → scr.slots[j]? = some (.int (xs.getD j 0)) := fun j hj => by
      rw [← Array.getElem?_toList, hlist]
      simp [hj]
    have hbl : b < s.heap.size := (Array.getElem?_eq_some_iff.mp hcb).1
    have hX : va_X b xs.length (fun j => xs.getD j 0) s s.heap := ⟨scr, hcb, hof, hkn, hsz, hval⟩
    have K : W p l e room_1 s m #[Value.ref b] below meth c s₁.heap [] 0 0 (lw_Z below #[Value.ref b] s) (entryFrame m ([Value.ref b] : List Value).toArray 1) := by
      rw [hh0]
      exact whole_start l hflags hbd ⟨B.exec, B.bytes, B.returns, hml, hown, hts, hX, hbl, B.notSynchronized, hgv⟩
    obtain ⟨t, a1, o, b1, b2, b3⟩ := K s₁ rfl X₀
    exact ⟨t, o, a1, b1, b2, b3⟩
theorem lw_pre_spec {args : Array Value} {s : State} (h : (Jvm.Cond.and given_1 narrow_1).before args s = true) (hr : rest_1_c.before args s = true) : ∃ (b : Addr) (xs : List Int32), lw_P b xs args s := by
  have hs := flat_of_before _ h
  have hq := flat_of_before _ hr
  have hc : (Cond.count 1).before args s = true := hs _ (by decide +kernel)
  have harr : (Cond.arrayOf (.arg 0) .int).before args s = true := hs _ (by decide +kernel)
  have hle : (Cond.le (.length (.arg 0)) (.int 260)).before args s = true := hs _ (by decide +kernel)
  have hlen : (Cond.isInt (.length (.arg 0))).before args s = true := hq _ (by decide +kernel)
  have hall : (Cond.all (.arg 0) (.isInt (.elem (.arg 0) (.index 0)))).before args s = true := hq _ (by decide +kernel)
  obtain ⟨b, xs, hb, hx⟩ := State.ints_of_pre rfl harr hlen hall
  have hsm : xs.length < 2 ^ 31 := hx.choose_spec.2.2.2
  have hev : (Term.length (.arg 0)).eval args s none [] s = some (.int xs.length.toInt32) := hx.length_eval hb
  have hv := Cond.le_ints hev (show (Term.int 260).eval args s none [] s = some (.int 260) from rfl)
  have hd : xs.length.toInt32 ≤ 260 := by
    simpa [Cond.before, Cond.holds, hv] using hle
  have hN : xs.length ≤ 260 := (Int32.ofNat_le_ofNat hsm (by decide)).mp (show Int32.ofNat xs.length ≤ Int32.ofNat 260 from hd)
  exact ⟨b, xs, Cond.one_arg hc (show args[0]? = some (.ref b) from hb), hx, hN, h⟩
theorem lw_comes (l : Launch) (hflags : l.flags = flags0) : Comes l x (Jvm.Cond.code x code maxLocals ret :: tables_1) room_1 (fun tb e args s => Calls_1 tb e args s ∧ rest_1 tb e args s ∧ Pre_1 tb e args s)
    (fun _ _ args s o t => lw_Q args s o t) := by
  intro p e ha hc hk s m args below hf hfit hheap happ hpre
  obtain ⟨b, xs, hP⟩ := lw_pre_spec hpre.2.2 hpre.2.1
  obtain ⟨k, o, h1, h2, h3, hQ⟩ := lw_walk l hflags b xs p e ha hc hk s m args below hf ((Spec.applies_iff_loose hf).mp happ).1 hP trivial
  exact ⟨k, o, h1, h2, h3, hQ⟩
theorem lw_frame {s t : State} {o : Outcome} {args : Array Value} (h : Framed s o t [] 600104 7301314) :
    Framed s o t (fieldLocs frame_1_writes args s ++ arrayLocs frame_1_arrays args s ++ staticLocs frame_1_statics s) 600104 7301314 := h
theorem lw_limb (L : Cond) (hL : ∀ (args : Array Value) (s t : State), L.after args s (.returned (some (.int 1))) t = true) :
    ArmFor flags0 classFile x code maxLocals ret World_1 tables_1 room_1 Calls_1 rest_1 Pre_1
      (fun tb e a s o t => postC L tb e a s o t ∧ Framed s o t (fieldLocs frame_1_writes a s ++ arrayLocs frame_1_arrays a s ++ staticLocs frame_1_statics s) 600104 7301314) := by
  intro l hflags _ _ p e ha hc hk s m args below hf hfit hheap happ hpre
  obtain ⟨k, o, h1, h2, h3, rfl, hF⟩ := lw_comes l hflags p e ha hc hk s m args below hf hfit hheap happ hpre
  exact ⟨k, _, h1, h2, h3, hL args s _, lw_frame hF⟩
theorem i_vc : Claimed_1_1 ∧ Claimed_1_2 := ⟨lw_limb limb_1_1 (fun args s t => by simp [limb_1_1, Cond.after, Cond.holds, Cond.value]), lw_limb limb_1_2 (fun args s t => Cond.after_iff.mpr (by
  first | (rw [show limb_1_2 = Cond.eq .result (.int 1) from rfl, Cond.eq_ints (x := 1) (y := 1) rfl rfl]; simp; done) | (simp [limb_1_2, Cond.value, Term.eval]; done)))⟩
