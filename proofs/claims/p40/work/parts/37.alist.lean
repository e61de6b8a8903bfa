/-! the list's own constructors; the filling of six places -/
theorem n_AC {l : Launch} {G : Gx} {B h0 : Nat} {x0 : va_E} : CN l yJxa1e45_init_da8c8 (Cond.code yJxa1e45_init_da8c8 cJxa1e45_init_da8c8 1 none) 2 0 0 G B h0 [] x0 (fun u => u = [(h0, x0)]) :=
  CN.mk (by decide +kernel) rfl rfl (Nat.le_of_ble_eq_true rfl) (lv := [(0, .ref h0)]) rfl (fun p e s m args below meth c ls Y hB hP hD hS hl => by
    refine lv_aload_n Y.1.1 Y.1.2.1 dJxa1e45_init_da8c8_0 rfl (lv_at hl 0 rfl) ?_
    refine cn_obj Y.1 kw_97 kw_78 kw_79 hl.1 dJxa1e45_init_da8c8_1 (Nat.le_of_ble_eq_true rfl) (Nat.le_of_ble_eq_true rfl) ?_
    exact cn_vret Y rfl hP hD hS (Nat.le_of_ble_eq_true rfl) (Nat.le_of_ble_eq_true rfl) dJxa1e45_init_da8c8_4)
theorem n_ALst {l : Launch} {G : Gx} {B h0 : Nat} : CN l yJxc12de_init_da8c8 (Cond.code yJxc12de_init_da8c8 cJxc12de_init_da8c8 1 none) 3 0 0 G B h0 [] (.inr (0, [.int 0, .null, .int 0])) (fun u => u = [(h0, .inr (0, [.int (Int32.ofInt 0), .null, .int 0]))]) :=
  CN.mk (by decide +kernel) rfl rfl (Nat.le_of_ble_eq_true rfl) (lv := [(0, .ref h0)]) rfl (fun p e s m args below meth c ls Y hB hP hD hS hl => by
    have hA : ∀ q, s.heap.size ≤ q → An h0 s.heap.size q := fun q h => Or.inr h
    have hAB : ∀ q, An h0 s.heap.size q → B ≤ q := fun q h => h.elim (fun e => e ▸ hB) (fun z => Nat.le_trans Y.2.1.2.2 z)
    refine lv_aload_n Y.1.1 Y.1.2.1 dJxc12de_init_da8c8_0 rfl (lv_at hl 0 rfl) ?_
    refine cn_call [] Y.1 Y.2.1 hP hD hS hA hAB n_AC kw_94 kw_95 kw_40 kw_96 rfl ⟨by decide +kernel, by decide +kernel, by decide +kernel⟩ ⟨Nat.le_of_ble_eq_true rfl, Nat.le_of_ble_eq_true rfl⟩ rfl rfl (Nat.le_of_ble_eq_true rfl) hl.1 dJxc12de_init_da8c8_1 ⟨Nat.le_of_ble_eq_true rfl, Nat.le_of_ble_eq_true rfl⟩ (fun u H locs ho hP hD hS _ _ => ?_)
    obtain rfl := ho
    replace hP : va_P G.1 vwCl [(h0, .inr (0, [.int 0, .null, .int 0]))] H := hP
    replace hD : va_D (An h0 s.heap.size) [(h0, .inr (0, [.int 0, .null, .int 0]))] := hD
    refine lv_aload_n Y.1.1 Y.1.2.1 dJxc12de_init_da8c8_4 rfl (lv_at hl 0 rfl) ?_
    refine sa_const Y.1 dJxc12de_init_da8c8_5 ?_
    refine cn_put Y 0 gf_Jx4a65c tyJx4a65c tyJx4a65c_ok nmJx4a65c hP hD hS rfl rfl 0 (by decide) kw_102 (fun _ h => h) rfl (ty := .int) (by decide +kernel) rfl rfl (Nat.le_of_ble_eq_true rfl) dJxc12de_init_da8c8_6 (fun H locs hP hD hS => ?_)
    exact cn_vret Y rfl hP hD hS (Nat.le_of_ble_eq_true rfl) (Nat.le_of_ble_eq_true rfl) dJxc12de_init_da8c8_9)
theorem n_AL {l : Launch} {G : Gx} {B h0 : Nat} : CN l yJx4a65c_init_da8c8 (Cond.code yJx4a65c_init_da8c8 cJx4a65c_init_da8c8 1 none) 4 0 0 G B h0 [] (.inr (0, [.int 0, .null, .int 0])) (fun u => u = [(h0, .inr (0, [.int (Int32.ofInt 0), .ref G.2.2.2.2.2, .int (Int32.ofInt 0)]))]) :=
  CN.mk (by decide +kernel) rfl rfl (Nat.le_of_ble_eq_true rfl) (lv := [(0, .ref h0)]) rfl (fun p e s m args below meth c ls Y hB hP hD hS hl => by
    have hA : ∀ q, s.heap.size ≤ q → An h0 s.heap.size q := fun q h => Or.inr h
    have hAB : ∀ q, An h0 s.heap.size q → B ≤ q := fun q h => h.elim (fun e => e ▸ hB) (fun z => Nat.le_trans Y.2.1.2.2 z)
    refine lv_aload_n Y.1.1 Y.1.2.1 dJx4a65c_init_da8c8_0 rfl (lv_at hl 0 rfl) ?_
    refine cn_call [] Y.1 Y.2.1 hP hD hS hA hAB n_ALst kw_91 kw_92 kw_41 kw_93 rfl ⟨by decide +kernel, by decide +kernel, by decide +kernel⟩ ⟨Nat.le_of_ble_eq_true rfl, Nat.le_of_ble_eq_true rfl⟩ rfl rfl (Nat.le_of_ble_eq_true rfl) hl.1 dJx4a65c_init_da8c8_1 ⟨Nat.le_of_ble_eq_true rfl, Nat.le_of_ble_eq_true rfl⟩ (fun u H locs ho hP hD hS _ _ => ?_)
    obtain rfl := ho
    replace hP : va_P G.1 vwCl [(h0, .inr (0, [.int (Int32.ofInt 0), .null, .int 0]))] H := hP
    replace hD : va_D (An h0 s.heap.size) [(h0, .inr (0, [.int (Int32.ofInt 0), .null, .int 0]))] := hD
    refine lv_aload_n Y.1.1 Y.1.2.1 dJx4a65c_init_da8c8_4 rfl (lv_at hl 0 rfl) ?_
    refine va_gets Y.1.1 Y.1.2.1 Y.2.1.2.1.2.2.2.2.2.1 (hS.mono hAB) Y.1.2.2.2.1 (Y.1.2.2.2.2 _ kw_98) (fun _ h => h) dJx4a65c_init_da8c8_5 ?_
    refine cn_put Y 0 gf_Jx4a65c tyJx4a65c tyJx4a65c_ok nmJx4a65c hP hD hS rfl rfl 1 (by decide) kw_100 (fun _ h => h) rfl (ty := .array (.object "java/lang/Object")) (by decide +kernel) rfl rfl (Nat.le_of_ble_eq_true rfl) dJx4a65c_init_da8c8_8 (fun H locs hP hD hS => ?_)
    exact cn_vret Y rfl hP hD hS (Nat.le_of_ble_eq_true rfl) (Nat.le_of_ble_eq_true rfl) dJx4a65c_init_da8c8_11)
/-- as CN.mk, of a static method -/
theorem CN.mkS {l : Launch} {y : MethodName} {cc : ByteArray} {maxL k mc ms : Nat} {own : String} {G : Gx} {B h0 : Nat} {av : List Value} {lv : List (Nat × Value)} {x0 : va_E} {Out : va_W → Prop} (hy : plainName y.cls = true) (ho : y.cls = own) (hlen : (lg_sl (.ref h0 :: av)).length ≤ maxL) (hlv : lv_args 0 (.ref h0 :: av) = lv)
    (body : ∀ (p : Program) (e : Env) (s : State) (m : MethodId) (args : Array Value) (below : List Frame) (meth : Method) (c : Code) (ls : Array Slot), CallFix p m c cc maxL s args gw own → EV G B s → meth.sig.returnType = none → meth.locks = false → B ≤ h0 → va_P G.1 vwCl [(h0, x0)] s.heap → va_D (An h0 s.heap.size) [(h0, x0)] → va_S (An h0 s.heap.size) s.heap s.heap [] → lv_has ls maxL lv → CNW p l e k mc ms s m args below meth c G h0 Out s.heap [] 0 0 0 ls []) :
    CN l y (Cond.code y cc maxL none) k mc ms G B h0 av x0 Out := by
  intro sz
  refine Met.ofW (cc := cc) (maxL := maxL) (ret := none) hy rfl ?_
  intro p e s m args below meth c s₁ Bd hml hv
  obtain ⟨rfl, rfl, hE, hB, hP⟩ := hv
  have hl := lv_entry (.ref h0 :: av) (n := maxL) hlen
  rw [lg_entry_eq]
  generalize (lg_sl (.ref h0 :: av) ++ List.replicate (maxL - (lg_sl (.ref h0 :: av)).length) Slot.unset).toArray = ls at hl ⊢
  rw [hlv] at hl
  exact body p e s m _ below meth c ls ⟨Bd.exec, Bd.bytes, hml, by rw [← ho]; exact findClass_of_methodNamed Bd.named, fun w hw => atoms_spec (ws := Cond.code y cc maxL none :: gw) Bd.pre w (List.mem_cons_of_mem _ hw)⟩ hE Bd.returns Bd.notSynchronized hB hP (va_D.sing (Or.inl rfl)) va_S.rf hl
theorem upd_lt {v : Int32} {i : Nat} : upd (fun k : Nat => if k < i then v else (0 : Int32)) i v = fun k : Nat => if k < i + 1 then v else 0 := by
  funext k
  unfold upd
  by_cases h : k = i
  · rw [if_pos h, if_pos (by omega)]
  · rw [if_neg h]
    show (if k < i then v else 0) = if k < i + 1 then v else 0
    by_cases h2 : k < i
    · rw [if_pos h2, if_pos (by omega)]
    · rw [if_neg h2, if_neg (by omega)]
theorem n_fill6 {l : Launch} {G : Gx} {B h0 : Nat} {v : Int32} : CN l yJ7_fill_53178 (Cond.code yJ7_fill_53178 cJ7_fill_53178 4 none) 1 0 0 G B h0 [.int v] (.inl (G.2.1, 6, .inl (fun _ => 0))) (fun u => u = [(h0, .inl (G.2.1, 6, .inl (fun k => if k < 6 then v else 0)))]) :=
  CN.mkS (by decide +kernel) rfl (Nat.le_of_ble_eq_true rfl) (lv := [(0, .ref h0), (1, .int v)]) rfl (fun p e s m args below meth c ls C E hr hlk hB hP hD hS hl => by
    have loop : ∀ n i : Nat, i + n = 6 → ∀ (H : Heap) (locs : List Loc), va_P G.1 vwCl [(h0, .inl (G.2.1, 6, .inl (fun k : Nat => if k < i then v else (0 : Int32))))] H → va_S (An h0 s.heap.size) s.heap H locs → ∀ ls : Array Slot, lv_has ls 4 [(2, .int (Int32.ofInt i)), (3, .int (Int32.ofInt 6)), (0, .ref h0), (1, .int v)] → CNW p l e 1 0 0 s m args below meth c G h0 (fun u => u = [(h0, .inl (G.2.1, 6, .inl (fun k : Nat => if k < 6 then v else (0 : Int32))))]) H locs 0 0 5 ls [] := by
      intro n
      induction n with
      | zero =>
        intro i hi H locs hP hS ls hl
        have hi : i = 6 := hi
        subst hi
        refine lv_iload_n C.1 C.2.1 dJ7_fill_53178_5 rfl (lv_at hl 0 rfl) ?_
        refine lv_iload_n C.1 C.2.1 dJ7_fill_53178_6 rfl (lv_at hl 1 rfl) ?_
        refine sa_icmp_ge (tgt := 20) C ⟨by omega, by omega⟩ ⟨by omega, by omega⟩ dJ7_fill_53178_7 (by decide) (fun hc => ?_) (fun hc => absurd hc (by omega))
        exact W.vret C.1 C.2.1 hr (fun t ht _ => ⟨⟨_, rfl, rfl, by rw [ht]; exact hP, va_D.sing (Or.inl rfl)⟩, hS.F ht⟩) hS.2.2 dJ7_fill_53178_20 hlk
      | succ n ih =>
        intro i hi H locs hP hS ls hl
        refine lv_iload_n C.1 C.2.1 dJ7_fill_53178_5 rfl (lv_at hl 0 rfl) ?_
        refine lv_iload_n C.1 C.2.1 dJ7_fill_53178_6 rfl (lv_at hl 1 rfl) ?_
        refine sa_icmp_ge (tgt := 20) C ⟨by omega, by omega⟩ ⟨by omega, by omega⟩ dJ7_fill_53178_7 (by decide) (fun hc => absurd hc (by omega)) (fun hc => ?_)
        refine lv_aload_n C.1 C.2.1 dJ7_fill_53178_10 rfl (lv_at hl 2 rfl) ?_
        refine lv_iload_n C.1 C.2.1 dJ7_fill_53178_11 rfl (lv_at hl 0 rfl) ?_
        refine lv_iload_n C.1 C.2.1 dJ7_fill_53178_12 rfl (lv_at hl 3 rfl) ?_
        obtain ⟨h1, h2⟩ := inR_in (i := (i : Int)) (n := 6) (by omega) (by omega) (by omega)
        refine va_iast C.1 C.2.1 E.1 hP (va_D.sing (A := An h0 s.heap.size) (Or.inl rfl)) hS 0 0 rfl rfl h1 dJ7_fill_53178_13 (fun H locs hP hD hS => ?_)
        rw [show (Int32.ofInt (i : Int)).toNatClampNeg = i by omega, upd_lt] at hP
        refine lv_iinc (v := Int32.ofInt ((i : Int) + 1)) (lv' := [(2, .int (Int32.ofInt ((i : Int) + 1))), (3, .int (Int32.ofInt 6)), (0, .ref h0), (1, .int v)]) C.1 C.2.1 dJ7_fill_53178_14 hl (k := 0) rfl (Int32.ofInt_add _ _).symm (by decide) rfl (fun ls hl => ?_)
        refine lv_goto (tgt := 5) C.1 C.2.1 dJ7_fill_53178_17 (by decide) ?_
        exact ih (i + 1) (by omega) H locs hP hS ls (by rw [Int.natCast_add]; exact hl)
    refine sa_const C dJ7_fill_53178_0 ?_
    refine lv_istore_n (lv' := [(2, .int (Int32.ofInt 0)), (0, .ref h0), (1, .int v)]) C.1 C.2.1 dJ7_fill_53178_1 rfl hl (by decide) rfl (fun ls hl => ?_)
    refine lv_aload_n C.1 C.2.1 dJ7_fill_53178_2 rfl (lv_at hl 1 rfl) ?_
    refine va_alen (v := Int32.ofInt 6) C.1 C.2.1 E.1 hP 0 0 rfl rfl rfl dJ7_fill_53178_3 ?_
    refine lv_istore_n (lv' := [(3, .int (Int32.ofInt 6)), (2, .int (Int32.ofInt 0)), (0, .ref h0), (1, .int v)]) C.1 C.2.1 dJ7_fill_53178_4 rfl hl (by decide) rfl (fun ls hl => ?_)
    exact loop 6 0 rfl _ _ hP hS _ (lv_sub hl [1, 0, 2, 3] rfl))
section CS2
variable {p : Program} {l : Launch} {e : Env} {R : Room} {s : State} {m : MethodId} {args : Array Value} {below : List Frame} {meth : Method} {c : Code} {H : Heap} {locs : List Loc} {cells slots : Nat} {Q : State → Prop}
variable {cc : ByteArray} {nL : Nat} {own : String} {pc : Nat} {ls : Array Slot} {rest : List Value} {G : Gx} {B : Nat} {A : Nat → Prop} {ws : va_W}
theorem cn_callS {y : MethodName} {bytes : ByteArray} {maxL n idx k' mc' ms' w : Nat} {x0 : va_E} {As st0 : List Value} {Out' : va_W → Prop} (ws : va_W) (C : CallFix p m c cc nL s args gw own) (E : EV G B s) (hP : va_P G.1 vwCl (ws ++ [(w, x0)]) H) (hD : va_D A (ws ++ [(w, x0)])) (hS : va_S A s.heap H locs) (hA : ∀ q, s.heap.size ≤ q → A q) (hAB : ∀ q, A q → B ≤ q)
    (hM : CN l y (Cond.code y bytes maxL none) k' mc' ms' G B w As x0 Out') (k1 : Cond.methodLink own idx y ∈ gw) (k2 : Cond.static y ∈ gw) (k4 : Cond.initialized y.cls ∈ gw) (k5 : Cond.code y bytes maxL none ∈ gw) (hdc : y.cls ≠ "java/lang/invoke/MethodHandle" ∧ y.cls ≠ "java/lang/invoke/VarHandle" ∧ (parseMethodDescriptor y.desc).map (fun d => d.parameters.length) = some n)
    (hroom : (rmX k' mc' ms').frames + 1 ≤ R.frames ∧ 8 + (maxL + 11) + (rmX k' mc' ms').locals ≤ R.locals) (hn : (Value.ref w :: As).length = n) (hst : st0 = (Value.ref w :: As).reverse ++ rest) (hw : (rest.map fun v => v.category).sum ≤ 8) (hml : ls.size = nL) (hd : decode cc pc = .ok (.invokestatic idx, 3)) (hcel : cells + mc' ≤ R.cells ∧ slots + ms' ≤ R.slots)
    (kk : ∀ (u : va_W) (H1 : Heap) (locs1 : List Loc), Out' u → va_P G.1 vwCl (ws ++ u) H1 → va_D A (ws ++ u) → va_S A s.heap H1 locs1 → H.size ≤ H1.size → (∀ q : Nat, q < H.size → q ≠ w → H1[q]? = H[q]?) → W p l e R s m args below meth c H1 locs1 (cells + mc') (slots + ms') Q (F0 m (pc + 3) ls rest)) : W p l e R s m args below meth c H locs cells slots Q (F0 m pc ls st0) := by
  subst hst
  have hw1 : (ws ++ [(w, x0)])[ws.length]? = some (w, x0) := by simp
  have hAw : A w := hD.2 _ _ hw1
  refine va_callv (va_runS (As := Value.ref w :: As) (rest := rest) (n := n) C (hM H.size) (va_cwS n C.2.2.2.2 (g_inS k1 k2 k4 k5) rfl rfl rfl hdc hroom) ⟨CN.blind, fun U hU hW => ⟨rfl, by rw [hU], E.at (hS.mono hAB) hU hW, hAB w hAw, by rw [hU]; exact va_P.sing (hP _ _ hw1)⟩⟩ rfl hn hml rfl (lv_room hw) hd hcel) hS (fun q h1 h2 => ?_) (fun q h => ?_) (fun u t H1 locs1 ht hvm hp hb hz hq hS1 => ?_)
  · rcases h2 with h | h
    · rw [h]; exact hAw
    · omega
  · rcases h with h | h
    · rw [h]; exact hAw
    · exact hA _ (Nat.le_trans hS.1 h)
  · obtain ⟨j1, j2⟩ := cn_join hP hD (fun q h => hA q (Nat.le_trans hS.1 h)) hq (by rw [← ht]; exact hb.1) hb.2
    refine kk u H1 locs1 hp j1 j2 hS1 hz (fun q h1 h2 => hq q h1 (fun z => ?_))
    rcases z with z | z
    · exact h2 z
    · omega
end CS2
