theorem dX3_rowsOf_0 : decode cX3_rowsOf 0 = .ok (.iload_n 1, 1) := by decide +kernel
theorem dX3_rowsOf_1 : decode cX3_rowsOf 1 = .ok (.ifCond .ne 10, 3) := by decide +kernel
theorem dX3_rowsOf_4 : decode cX3_rowsOf 4 = .ok (.aload_n 0, 1) := by decide +kernel
theorem dX3_rowsOf_5 : decode cX3_rowsOf 5 = .ok (.getfield 24, 3) := by decide +kernel
theorem dX3_rowsOf_8 : decode cX3_rowsOf 8 = .ok (.goto 19, 3) := by decide +kernel
theorem dX3_rowsOf_11 : decode cX3_rowsOf 11 = .ok (.iload_n 1, 1) := by decide +kernel
theorem dX3_rowsOf_12 : decode cX3_rowsOf 12 = .ok (.iconst 1, 1) := by decide +kernel
theorem dX3_rowsOf_13 : decode cX3_rowsOf 13 = .ok (.if_icmp .ne 10, 3) := by decide +kernel
theorem dX3_rowsOf_16 : decode cX3_rowsOf 16 = .ok (.aload_n 0, 1) := by decide +kernel
theorem dX3_rowsOf_17 : decode cX3_rowsOf 17 = .ok (.getfield 27, 3) := by decide +kernel
theorem dX3_rowsOf_20 : decode cX3_rowsOf 20 = .ok (.goto 7, 3) := by decide +kernel
theorem dX3_rowsOf_23 : decode cX3_rowsOf 23 = .ok (.aload_n 0, 1) := by decide +kernel
theorem dX3_rowsOf_24 : decode cX3_rowsOf 24 = .ok (.getfield 30, 3) := by decide +kernel
theorem dX3_rowsOf_27 : decode cX3_rowsOf 27 = .ok (.areturn, 1) := by decide +kernel
/-! more instructions: array lengths, shifts and bits, switches, copies, floorDiv, a static array, rowsOf -/
theorem ofI_t (x : Int32) : Int32.ofInt x.toInt = x := Int32.ofInt_toInt x
theorem inR_t (x : Int32) : inR x.toInt := ⟨Int32.le_toInt x, by have := Int32.toInt_lt x; omega⟩
def iShl (a b : Int) : Int := (Int32.ofInt a <<< (Int32.ofInt b &&& 31)).toInt
def iShr (a b : Int) : Int := (Int32.ofInt a >>> (Int32.ofInt b &&& 31)).toInt
def iAnd (a b : Int) : Int := (Int32.ofInt a &&& Int32.ofInt b).toInt
def iOr (a b : Int) : Int := (Int32.ofInt a ||| Int32.ofInt b).toInt
/-- the array s, j filled with v; the first n of one array put into another -/
def cpM (M : Mem) (s : Nat) (j : Int) (s2 : Nat) (j2 n : Int) : Mem := fun s' j' k' => if s' = s2 ∧ j' = j2 ∧ 0 ≤ k' ∧ k' < n then M s j k' else M s' j' k'
def rowL (p : Int) : Nat := if p = 0 then 15 else if p = 1 then 16 else 17
theorem rowL_ok (p : Int) : RLs (rowL p) := by
  unfold rowL
  split
  · exact ⟨by decide, by decide⟩
  · split <;> exact ⟨by decide, by decide⟩
def mrpI (j : Int) : Int := if j = 0 then 3 else if j = 1 then 24 else 2
theorem mrpI_R (j : Int) : inR (mrpI j) := by
  unfold mrpI
  split
  · exact inR_c rfl
  · split <;> exact inR_c rfl
def AI (a : Nat) : Prop := a < NS ∧ 24 ≤ a ∧ akd a = 0
theorem alen_R (a : Nat) : inR (alen a : Int) := ⟨by omega, by have := alen_le a; omega⟩
theorem cp_put {G : Gx} {e0 : Nat} {α : Ax} {κ : Nat → Int} {B : Nat} {M : Mem} {H H' : Heap} {a0 : Nat} {j0 n : Int} (h : Rp G e0 α κ B M H) {s : Nat} {j : Int} (hA : AI s) (ho : okk κ s j)
    (he : va_at G.1 vwCl (α s j, ent G e0 α (cpM M a0 j0 s j n) s j) H') (oq : ∀ q, q ≠ α s j → H'[q]? = H[q]?) : Rp G e0 α κ B (cpM M a0 j0 s j n) H' := by
  obtain ⟨h1, h2, h3, h4, h5⟩ := h
  have hs := hA.1
  have h24 := hA.2.1
  have ne : ∀ s', s' ≠ s → ∀ (j' k' : Int), cpM M a0 j0 s j n s' j' k' = M s' j' k' := fun s' q j' k' => by
    unfold cpM
    rw [if_neg (fun z => q z.1)]
  refine ⟨fun s' j' hs' ho' => ?_, h2, fun s' j' k' => ?_, fun j' ho' => ?_, fun L a b => ?_⟩
  · by_cases e : s' = s ∧ j' = j
    · obtain ⟨rfl, rfl⟩ := e
      exact ⟨he, (h1 s' j' hs ho).2⟩
    · have hne : ∀ k', cpM M a0 j0 s j n s' j' k' = M s' j' k' := fun k' => by
        unfold cpM
        rw [if_neg (fun z => e ⟨z.1, z.2.1⟩)]
      refine ⟨?_, (h1 s' j' hs' ho').2⟩
      rw [ent_congr hne (fun s' a b k' => ne s' (by omega) 0 k')]
      exact (h1 s' j' hs' ho').1.kept (oq _ (fun z => e (h2 s' j' s j hs' ho' hs ho z)))
  · unfold cpM
    split
    · exact h3 _ _ _
    · exact h3 _ _ _
  · rw [ne 1 (by omega)]
    exact h4 j' ho'
  · rw [ne L (by omega), ne (L + 6) (by omega)]
    obtain ⟨a1, a2, a3, a4, a5⟩ := h5 L a b
    refine ⟨a1, a2, a3, fun i i1 i2 => ?_, a5⟩
    rw [ne L (by omega)]
    exact a4 i i1 i2
section SP2
variable {p : Program} {l : Launch} {e : Env} {R : Room} {s : State} {m : MethodId} {args : Array Value} {below : List Frame} {meth : Method} {c : Code} {H : Heap} {locs : List Loc} {cells slots : Nat} {Q : State → Prop}
variable {cc : ByteArray} {nL : Nat} {own : String} {pc : Nat} {ls : Array Slot} {rest : List Value} {G : Gx} {e0 : Nat} {α : Ax} {κ : Nat → Int} {B : Nat} {M : Mem} {ret : Option FieldType}
theorem sa_ishl {a b : Int} (C : CallFix p m c cc nL s args gw own) (hd : decode cc pc = .ok (.ishl, 1)) (kk : W p l e R s m args below meth c H locs cells slots Q (F0 m (pc + 1) ls (.int (Int32.ofInt (iShl a b)) :: rest))) : W p l e R s m args below meth c H locs cells slots Q (F0 m pc ls (.int (Int32.ofInt b) :: .int (Int32.ofInt a) :: rest)) :=
  lv_ishl C.1 C.2.1 hd (by rw [iShl, ofI_t] at kk; exact kk)
theorem sa_ishr {a b : Int} (C : CallFix p m c cc nL s args gw own) (hd : decode cc pc = .ok (.ishr, 1)) (kk : W p l e R s m args below meth c H locs cells slots Q (F0 m (pc + 1) ls (.int (Int32.ofInt (iShr a b)) :: rest))) : W p l e R s m args below meth c H locs cells slots Q (F0 m pc ls (.int (Int32.ofInt b) :: .int (Int32.ofInt a) :: rest)) :=
  lv_ishr C.1 C.2.1 hd (by rw [iShr, ofI_t] at kk; exact kk)
theorem sa_iand {a b : Int} (C : CallFix p m c cc nL s args gw own) (hd : decode cc pc = .ok (.iand, 1)) (kk : W p l e R s m args below meth c H locs cells slots Q (F0 m (pc + 1) ls (.int (Int32.ofInt (iAnd a b)) :: rest))) : W p l e R s m args below meth c H locs cells slots Q (F0 m pc ls (.int (Int32.ofInt b) :: .int (Int32.ofInt a) :: rest)) :=
  lv_iand C.1 C.2.1 hd (by rw [iAnd, ofI_t] at kk; exact kk)
theorem sa_ior {a b : Int} (C : CallFix p m c cc nL s args gw own) (hd : decode cc pc = .ok (.ior, 1)) (kk : W p l e R s m args below meth c H locs cells slots Q (F0 m (pc + 1) ls (.int (Int32.ofInt (iOr a b)) :: rest))) : W p l e R s m args below meth c H locs cells slots Q (F0 m pc ls (.int (Int32.ofInt b) :: .int (Int32.ofInt a) :: rest)) :=
  lv_ior C.1 C.2.1 hd (by rw [iOr, ofI_t] at kk; exact kk)
theorem sa_alen {a : Nat} {j : Int} (hA : AI a) (X : CX p m c cc nL s args own G B κ meth ret) (hR : Rp G e0 α κ B M H) (ho : okk κ a j) (hd : decode cc pc = .ok (.arraylength, 1)) (kk : W p l e R s m args below meth c H locs cells slots Q (F0 m (pc + 1) ls (.int (Int32.ofInt (alen a : Int)) :: rest))) : W p l e R s m args below meth c H locs cells slots Q (F0 m pc ls (.ref (α a j) :: rest)) :=
  va_alen X.1.1 X.1.2.1 X.2.1.1 (hR.one hA.1 ho (ent_i hA.2.1 hA.2.2 j)) 0 0 rfl rfl (v := Int32.ofInt (alen a : Int)) Int32.ofInt_eq_ofNat.symm hd kk
theorem ra_AI {a : Nat} {j i : Int} (hA : AI a) (X : CX p m c cc nL s args own G B κ meth ret) (hR : Rp G e0 α κ B M H) (ho : okk κ a j) (hi : 0 ≤ i ∧ i < (alen a : Int)) (hd : decode cc pc = .ok (.iaload, 1)) (kk : W p l e R s m args below meth c H locs cells slots Q (F0 m (pc + 1) ls (.int (Int32.ofInt (M a j i)) :: rest))) : W p l e R s m args below meth c H locs cells slots Q (F0 m pc ls (.int (Int32.ofInt i) :: .ref (α a j) :: rest)) := sa_iald X.1 X.2.1 hR hA.1 hA.2.1 hA.2.2 ho hi hd kk
theorem wa_AI {a : Nat} {j i x : Int} (hA : AI a) (X : CX p m c cc nL s args own G B κ meth ret) (hR : Rp G e0 α κ B M H) (hS : va_S (fun q => B ≤ q) s.heap H locs) (ho : okk κ a j) (hi : 0 ≤ i ∧ i < (alen a : Int)) (hx : inR x) (hd : decode cc pc = .ok (.iastore, 1)) (kk : ∀ (H1 : Heap) (locs1 : List Loc), Rp G e0 α κ B (up M a j i x) H1 → va_S (fun q => B ≤ q) s.heap H1 locs1 → W p l e R s m args below meth c H1 locs1 cells slots Q (F0 m (pc + 1) ls rest)) : W p l e R s m args below meth c H locs cells slots Q (F0 m pc ls (.int (Int32.ofInt x) :: .int (Int32.ofInt i) :: .ref (α a j) :: rest)) := sa_iast X.1 X.2.1 hR hS hA.1 hA.2.1 hA.2.2 ho hi hx hd kk
theorem sa_tsw {x k : Int} {dflt lo hi off : Int} {offs : Array Int} {len tgt : Nat} (C : CallFix p m c cc nL s args gw own) (hx : inR x) (hc : x = k) (hd : decode cc pc = .ok (.tableswitch dflt lo hi offs, len)) (h1 : lo ≤ k) (h2 : k ≤ hi) (ho : offs[(k - lo).toNat]? = some off) (ht : (pc : Int) + off = (tgt : Int)) (kk : W p l e R s m args below meth c H locs cells slots Q (F0 m tgt ls rest)) : W p l e R s m args below meth c H locs cells slots Q (F0 m pc ls (.int (Int32.ofInt x) :: rest)) := by
  subst hc
  have e1 : (Int32.ofInt x).toInt = x := Int32.toInt_ofInt_of_le (by have := hx.1; omega) (by have := hx.2; omega)
  exact lv_tableIn C.1 C.2.1 hd (by rw [e1]; omega) (by rw [e1]; omega) (by rw [e1]; exact ho) ht kk
theorem sa_tswd {x : Int} {dflt lo hi : Int} {offs : Array Int} {len tgt : Nat} (C : CallFix p m c cc nL s args gw own) (hx : inR x) (hc : x < lo ∨ hi < x) (hd : decode cc pc = .ok (.tableswitch dflt lo hi offs, len)) (ht : (pc : Int) + dflt = (tgt : Int)) (kk : W p l e R s m args below meth c H locs cells slots Q (F0 m tgt ls rest)) : W p l e R s m args below meth c H locs cells slots Q (F0 m pc ls (.int (Int32.ofInt x) :: rest)) := by
  have e1 : (Int32.ofInt x).toInt = x := Int32.toInt_ofInt_of_le (by have := hx.1; omega) (by have := hx.2; omega)
  exact lv_tableOut C.1 C.2.1 hd (by rw [e1]; exact hc) ht kk
/-- the static array of the parts' most rows, at a place -/
theorem sa_mrp {i : Int} (X : CX p m c cc nL s args own G B κ meth ret) (hS : va_S (fun q => B ≤ q) s.heap H locs) (t : Nat) (ht : va_T .int t 3 (fun j => .int (mrp j)) (fun q => B ≤ q) s s.heap) (hi : 0 ≤ i ∧ i < 3) (hd : decode cc pc = .ok (.iaload, 1))
    (kk : W p l e R s m args below meth c H locs cells slots Q (F0 m (pc + 1) ls (.int (Int32.ofInt (mrpI i)) :: rest))) : W p l e R s m args below meth c H locs cells slots Q (F0 m pc ls (.int (Int32.ofInt i) :: .ref t :: rest)) := by
  obtain ⟨cell, h1, h2, h3, h4, -, h6, h7⟩ := ht
  have g : (Int32.ofInt i).toNatClampNeg = i.toNat := by rw [Int32.toNatClampNeg_ofInt_of_le (by omega) (by omega)]
  have h8 : H[t]? = some cell := by rw [hS.2.1 t (Array.getElem?_eq_some_iff.mp h1).1 h7]; exact h1
  have g0 : ¬ (Int32.ofInt i < 0 ∨ cell.slots.size ≤ (Int32.ofInt i).toNatClampNeg) := by
    rw [g]
    rintro (z | z)
    · rw [← ofI_0, inR_lt ⟨by omega, by omega⟩ inR_0] at z
      omega
    · omega
  refine W.iald (v := .int (mrp i.toNat)) X.1.1 X.1.2.1 h8 h2 h3 g0 (by rw [g]; exact h6 _ (by omega)) rfl rfl hd ?_
  have e9 : mrp i.toNat = Int32.ofInt (mrpI i) := by
    rcases (by omega : i = 0 ∨ i = 1 ∨ i = 2) with rfl | rfl | rfl <;> rfl
  rw [e9]
  exact kk
/-- System.arraycopy of the first n ints of an array into another one; after the kit's row for two cells -/
theorem sa_copy {a0 a1 : Nat} {j0 j1 n : Int} {idx : Nat} (h0 : AI a0) (h1 : AI a1) (X : CX p m c cc nL s args own G B κ meth ret) (hR : Rp G e0 α κ B M H) (hS : va_S (fun q => B ≤ q) s.heap H locs) (o0 : okk κ a0 j0) (o1 : okk κ a1 j1) (hn : 0 ≤ n ∧ n ≤ (alen a0 : Int) ∧ n ≤ (alen a1 : Int)) (k1 : Cond.methodLink own idx arraycopyName ∈ gw) (k2 : Cond.native arraycopyName ∈ gw) (k3 : Cond.static arraycopyName ∈ gw) (k4 : Cond.initialized "java/lang/System" ∈ gw) (hml : ls.size = nL)
    (hframes : 1 ≤ R.frames) (hlocals : (rest.map fun v => v.category).sum + (nativeFrameWords "java/lang/System" "arraycopy" 5 + 11) ≤ R.locals) (hd : decode cc pc = .ok (.invokestatic idx, 3))
    (kk : ∀ (H1 : Heap) (locs1 : List Loc), Rp G e0 α κ B (cpM M a0 j0 a1 j1 n) H1 → va_S (fun q => B ≤ q) s.heap H1 locs1 → W p l e R s m args below meth c H1 locs1 cells slots Q (F0 m (pc + 3) ls rest)) : W p l e R s m args below meth c H locs cells slots Q (F0 m pc ls (.int (Int32.ofInt n) :: .int (Int32.ofInt 0) :: .ref (α a1 j1) :: .int (Int32.ofInt 0) :: .ref (α a0 j0) :: rest)) := by
  have hc0 := hR.ne h0.1 o0
  rw [ent_i h0.2.1 h0.2.2] at hc0
  have hc1 := hR.ne h1.1 o1
  rw [ent_i h1.2.1 h1.2.2] at hc1
  have b1 := alen_le a1
  have gn : (Int32.ofInt n).toNatClampNeg = n.toNat := by rw [Int32.toNatClampNeg_ofInt_of_le (by omega) (by omega)]
  have tn : (Int32.ofInt n).toInt = n := Int32.toInt_ofInt_of_le (by omega) (by omega)
  have g0 : (Int32.ofInt 0).toNatClampNeg = 0 := rfl
  have t0 : (Int32.ofInt 0).toInt = 0 := rfl
  have e9 : copied (vp_cell G.2.1 (alen a0, .inl (fun k : Nat => Int32.ofInt (M a0 j0 k)))) (vp_cell G.2.1 (alen a1, .inl (fun k : Nat => Int32.ofInt (M a1 j1 k)))) (Int32.ofInt 0) (Int32.ofInt 0) (Int32.ofInt n) = vp_cell G.2.1 (alen a1, .inl (va_cpy (fun k : Nat => Int32.ofInt (M a0 j0 k)) (fun k : Nat => Int32.ofInt (M a1 j1 k)) 0 0 n.toNat)) := by
    have := va_copied (fun z => Value.int z) G.2.1 G.2.1 (n0 := alen a0) (n1 := alen a1) (sp := 0) (dp := 0) (n := n.toNat) (fun k : Nat => Int32.ofInt (M a0 j0 k)) (fun k : Nat => Int32.ofInt (M a1 j1 k)) (by omega)
    rw [← gn, ← g0] at this
    rw [← gn]
    exact this
  intro T hT X0
  obtain ⟨-, k0, hk0, cm0, hkk0⟩ := (X.2.1.1.2 0 _ rfl).1 (alen a0) (fun k : Nat => .int (Int32.ofInt (M a0 j0 k)))
  obtain ⟨-, kk1, hk1, cm1, hkk1⟩ := (X.2.1.1.2 0 _ rfl).1 (alen a1) (fun k : Nat => .int (Int32.ofInt (M a1 j1 k)))
  obtain ⟨vm', X', step⟩ := X0.arraycopy X.1.1 X.1.2.2.2.1 (X.1.2.2.2.2 _ k1) (X.1.2.2.2.2 _ k2) (X.1.2.2.2.2 _ k3) (X.1.2.2.2.2 _ k4) (src := α a0 j0) (dst := α a1 j1) (cs := vp_cell G.2.1 (alen a0, .inl (fun k : Nat => Int32.ofInt (M a0 j0 k)))) (cd := vp_cell G.2.1 (alen a1, .inl (fun k : Nat => Int32.ofInt (M a1 j1 k)))) (srcPos := Int32.ofInt 0) (destPos := Int32.ofInt 0) (n := Int32.ofInt n) (by rw [hT]; exact hc0) (by rw [hT]; exact hc1)
    (fun _ h => by cases h) (fun _ h => by cases h) (fun h => by cases h) (fun h => by cases h) hk0 hk1 hkk0 hkk1 (by rfl) (by decide) (by decide) (fun z => by rw [← ofI_0, inR_lt ⟨by omega, by omega⟩ inR_0] at z; omega)
    (by rw [t0, tn]; show ¬ _ > ((arrV G.2.1 (alen a0) (fun k : Nat => .int (Int32.ofInt (M a0 j0 k)))).slots.size : Int); rw [arrV_size]; omega)
    (by rw [t0, tn]; show ¬ _ > ((arrV G.2.1 (alen a1) (fun k : Nat => .int (Int32.ofInt (M a1 j1 k)))).slots.size : Int); rw [arrV_size]; omega)
    (fun vm₁ _ i hi => by
      rw [gn] at hi
      have e : (vp_cell G.2.1 (alen a0, .inl (fun k : Nat => Int32.ofInt (M a0 j0 k)))).slots.getD ((Int32.ofInt 0).toNatClampNeg + i) .null = .int (Int32.ofInt (M a0 j0 ((0 + i : Nat) : Int))) := by
        show (arrV G.2.1 (alen a0) (fun k : Nat => .int (Int32.ofInt (M a0 j0 k)))).slots.getD (0 + i) _ = _
        rw [Array.getD_eq_getD_getElem?, arrV_read _ _ (by omega)]
        rfl
      refine ⟨?_, ?_⟩
      · rw [e]
        rfl
      · rw [e]
        exact trivial)
    (g := F0 m pc ls (.int (Int32.ofInt n) :: .int (Int32.ofInt 0) :: .ref (α a1 j1) :: .int (Int32.ofInt 0) :: .ref (α a0 j0) :: rest)) rfl (by rw [← X.1.2.2.1] at hml; exact hml) (rest := rest) rfl (by rw [X.1.2.1]; exact hd) hframes (by show 2 * 0 + _ + _ ≤ _; omega)
  rw [e9] at X' step
  have hlt : α a1 j1 < H.size := (Array.getElem?_eq_some_iff.mp hc1).1
  have hheap : ((T.setVm vm').setCell (α a1 j1) (vp_cell G.2.1 (alen a1, .inl (va_cpy (fun k : Nat => Int32.ofInt (M a0 j0 k)) (fun k : Nat => Int32.ofInt (M a1 j1 k)) 0 0 n.toNat)))).heap = H.setIfInBounds (α a1 j1) (vp_cell G.2.1 (alen a1, .inl (va_cpy (fun k : Nat => Int32.ofInt (M a0 j0 k)) (fun k : Nat => Int32.ofInt (M a1 j1 k)) 0 0 n.toNat))) := by rw [← hT]; rfl
  have oq : ∀ q : Nat, q ≠ α a1 j1 → (H.setIfInBounds (α a1 j1) (vp_cell G.2.1 (alen a1, .inl (va_cpy (fun k : Nat => Int32.ofInt (M a0 j0 k)) (fun k : Nat => Int32.ofInt (M a1 j1 k)) 0 0 n.toNat))))[q]? = H[q]? := fun q hq => by simp [Array.getElem?_setIfInBounds, Ne.symm hq]
  have hB := (hR.1 a1 j1 h1.1 o1).2
  have hat : va_at G.1 vwCl (α a1 j1, ent G e0 α (cpM M a0 j0 a1 j1 n) a1 j1) (H.setIfInBounds (α a1 j1) (vp_cell G.2.1 (alen a1, .inl (va_cpy (fun k : Nat => Int32.ofInt (M a0 j0 k)) (fun k : Nat => Int32.ofInt (M a1 j1 k)) 0 0 n.toNat)))) := by
    rw [ent_i h1.2.1 h1.2.2]
    show (H.setIfInBounds _ _)[α a1 j1]? = some _
    rw [Array.getElem?_setIfInBounds, if_pos rfl, if_pos hlt]
    refine congrArg some (congrArg (vp_cell _) (congrArg (Prod.mk _) (congrArg Sum.inl ?_)))
    funext k
    unfold cpM va_cpy
    by_cases hk : k < n.toNat
    · rw [if_pos ⟨by omega, by omega⟩, if_pos ⟨rfl, rfl, by omega, by omega⟩]
      simp
    · rw [if_neg (by omega), if_neg (by omega)]
  obtain ⟨t, a9, b9⟩ := kk _ _ (cp_put hR h1 o1 hat oq) ⟨by simp; exact hS.1, fun q g1 g2 => by
      rw [oq q (fun e => g2 (by rw [e]; exact hB))]
      exact hS.2.1 q g1 g2, fun q hq => by
      rcases List.mem_append.mp hq with h | h
      · exact hS.2.2 q h
      · obtain ⟨z, -, hz⟩ := List.mem_map.mp h
        rw [← hz]
        exact hB⟩ _ hheap X'
  exact ⟨t, step t a9, b9⟩
end SP2
theorem tdiv_100 (a : Int) : (0 ≤ a → Int.tdiv a 100 = a / 100) ∧ (a < 0 → Int.tdiv a 100 = -((-a) / 100)) := by
  refine ⟨fun h => Int.tdiv_eq_ediv_of_nonneg h, fun h => ?_⟩
  have e : Int.tdiv a 100 = -(Int.tdiv (-a) 100) := by rw [Int.neg_tdiv, Int.neg_neg]
  rw [e, Int.tdiv_eq_ediv_of_nonneg (by omega)]
theorem xor_nn {a b : Int} (ha : inR a) (hb : inR b) (h : 0 < b) : (0 ≤ Int32.ofInt a ^^^ Int32.ofInt b) ↔ 0 ≤ a := by
  have ta : (Int32.ofInt a).toBitVec.toInt = a := Int32.toInt_ofInt_of_le (by have := ha.1; omega) (by have := ha.2; omega)
  have tb : (Int32.ofInt b).toBitVec.toInt = b := Int32.toInt_ofInt_of_le (by have := hb.1; omega) (by have := hb.2; omega)
  have m1 : (Int32.ofInt a ^^^ Int32.ofInt b).toBitVec.msb = ((Int32.ofInt a).toBitVec.msb ^^ (Int32.ofInt b).toBitVec.msb) := by rw [Int32.toBitVec_xor, BitVec.msb_xor]
  rw [BitVec.msb_eq_toInt, BitVec.msb_eq_toInt, BitVec.msb_eq_toInt, ta, tb] at m1
  rw [Int32.le_iff_toInt_le, Int32.toInt_zero]
  show 0 ≤ (Int32.ofInt a ^^^ Int32.ofInt b).toBitVec.toInt ↔ _
  rw [show decide (b < 0) = false from decide_eq_false (by omega), Bool.xor_false, decide_eq_decide] at m1
  omega
theorem CI.mkF {l : Launch} {y : MethodName} {cc : ByteArray} {maxL k : Nat} {ret : Option FieldType} {own : String} {G : Gx} {e0 : Nat} {α : Ax} {κ : Nat → Int} {B : Nat} {av : List Value} {lv : List (Nat × Value)} {M : Mem} {Qm : Int → Mem → Prop} (hκ : kOK κ) (hy : plainFor y = true) (ho : y.cls = own) (hlen : (lg_sl av).length ≤ maxL) (hlv : lv_args 0 av = lv)
    (body : ∀ (p : Program) (e : Env) (s : State) (m : MethodId) (args : Array Value) (below : List Frame) (meth : Method) (c : Code) (ls : Array Slot), CX p m c cc maxL s args own G B κ meth ret → Rp G e0 α κ B M s.heap → va_S (fun q => B ≤ q) s.heap s.heap [] → lv_has ls maxL lv → WI p l e k s m args below meth c G e0 α κ B Qm s.heap [] 0 ls []) :
    CI l y (Cond.code y cc maxL ret) k G e0 α κ B av M Qm := by
  unfold CI Met
  refine MetFree.of_bodySF (code := cc) (maxLocals := maxL) (ret := ret) hy ?_ ?_
  · intro args s m h hn
    obtain ⟨meth, c, h1, h2, h3, h4, h5, h6, -, -⟩ := Cond.code_spec hn (atoms_spec (ws := Cond.code y cc maxL ret :: gw) h _ List.mem_cons_self)
    exact ⟨meth, c, h1, h2, h3, h4, h5, h6⟩
  · intro p e s m args below meth c s₁ Bd hml hv _
    obtain ⟨rfl, hE, hR⟩ := hv
    have hl := lv_entry av (n := maxL) hlen
    have hh0 : s₁.heap = s.heap := by rw [Bd.state]; rfl
    have w : W p l e (rmL k) s m av.toArray below meth c s.heap [] 0 0 (MQ below (QI G e0 α κ B Qm) av.toArray s 0 0 (fun q => B ≤ q)) (entryFrame m av.toArray maxL) := by
      rw [lg_entry_eq]
      generalize (lg_sl av ++ List.replicate (maxL - (lg_sl av).length) Slot.unset).toArray = ls at hl ⊢
      rw [hlv] at hl
      exact body p e s m _ below meth c ls ⟨⟨Bd.exec, Bd.bytes, hml, by rw [← ho]; exact findClass_of_methodNamed Bd.named, fun w hw => atoms_spec (ws := Cond.code y cc maxL ret :: gw) Bd.pre w (List.mem_cons_of_mem _ hw)⟩, hE, hκ, Bd.returns, Bd.notSynchronized⟩ hR va_S.rf hl
    obtain ⟨t, a1, o, b1, b2, b3⟩ := w s₁ hh0 (Stand.of_body Bd)
    exact ⟨t, o, a1, b1, b2, ⟨b3.1, b3.2⟩⟩
theorem m_floor {l : Launch} {G : Gx} {e0 : Nat} {α : Ax} {κ : Nat → Int} {B : Nat} {a : Int} (hκ : kOK κ) (ha : inR a) {M : Mem} {Qm : Int → Mem → Prop} (hw : Qm (a / 100) M) : CI l yJ9_floorDiv_7cf53 (Cond.code yJ9_floorDiv_7cf53 cJ9_floorDiv_7cf53 3 (some .int)) 0 G e0 α κ B [.int (Int32.ofInt a), .int (Int32.ofInt 100)] M Qm :=
  CI.mkF hκ (by decide +kernel) rfl (Nat.le_of_ble_eq_true rfl) (lv := [(0, .int (Int32.ofInt a)), (1, .int (Int32.ofInt 100))]) rfl (fun p e s m args below meth c ls X hR hS hl => by
    have r100 : inR 100 := inR_c rfl
    have hq : inR (Int.tdiv a 100) := inR_tdiv ha r100 (by decide)
    have h9 := tdiv_100 a
    refine lv_iload_n X.1.1 X.1.2.1 dJ9_floorDiv_7cf53_0 rfl (lv_at hl 0 rfl) ?_
    refine lv_iload_n X.1.1 X.1.2.1 dJ9_floorDiv_7cf53_1 rfl (lv_at hl 1 rfl) ?_
    refine sa_idiv X.1 ha r100 (by decide) dJ9_floorDiv_7cf53_2 ?_
    refine lv_istore_n (lv' := [(2, .int (Int32.ofInt (Int.tdiv a 100))), (0, .int (Int32.ofInt a)), (1, .int (Int32.ofInt 100))]) X.1.1 X.1.2.1 dJ9_floorDiv_7cf53_3 rfl hl (by decide) rfl (fun ls hl => ?_)
    refine lv_iload_n X.1.1 X.1.2.1 dJ9_floorDiv_7cf53_4 rfl (lv_at hl 1 rfl) ?_
    refine lv_iload_n X.1.1 X.1.2.1 dJ9_floorDiv_7cf53_5 rfl (lv_at hl 2 rfl) ?_
    refine lv_ixor X.1.1 X.1.2.1 dJ9_floorDiv_7cf53_6 ?_
    refine lv_if_ge (tgt := 21) X.1.1 X.1.2.1 dJ9_floorDiv_7cf53_7 (by decide) (fun hc => ?_) (fun hc => ?_)
    · have hc := (xor_nn ha r100 (by decide)).mp hc
      rw [← h9.1 hc] at hw
      refine lv_iload_n X.1.1 X.1.2.1 dJ9_floorDiv_7cf53_21 rfl (lv_at hl 0 rfl) ?_
      exact sa_iret X.1 X.2.2.2.1 X.2.2.2.2 hR hS hq hw dJ9_floorDiv_7cf53_22
    · have hc : a < 0 := Int.not_le.mp (fun z => hc ((xor_nn ha r100 (by decide)).mpr z))
      have h8 := h9.2 hc
      have rr : inR (Int.tdiv a 100 * 100) := by have h1 := ha.1; have h2 := ha.2; exact ⟨by omega, by omega⟩
      refine lv_iload_n X.1.1 X.1.2.1 dJ9_floorDiv_7cf53_10 rfl (lv_at hl 0 rfl) ?_
      refine lv_iload_n X.1.1 X.1.2.1 dJ9_floorDiv_7cf53_11 rfl (lv_at hl 2 rfl) ?_
      refine sa_imul X.1 dJ9_floorDiv_7cf53_12 ?_
      refine lv_iload_n X.1.1 X.1.2.1 dJ9_floorDiv_7cf53_13 rfl (lv_at hl 1 rfl) ?_
      refine sa_icmp_eq (tgt := 21) X.1 rr ha dJ9_floorDiv_7cf53_14 (by decide) (fun hc2 => ?_) (fun hc2 => ?_)
      · rw [show a / 100 = Int.tdiv a 100 by omega] at hw
        refine lv_iload_n X.1.1 X.1.2.1 dJ9_floorDiv_7cf53_21 rfl (lv_at hl 0 rfl) ?_
        exact sa_iret X.1 X.2.2.2.1 X.2.2.2.2 hR hS hq hw dJ9_floorDiv_7cf53_22
      · rw [show a / 100 = Int.tdiv a 100 - 1 by omega] at hw
        have r9 : inR (Int.tdiv a 100 - 1) := by have h1 := ha.1; have h2 := ha.2; exact ⟨by omega, by omega⟩
        refine lv_iload_n X.1.1 X.1.2.1 dJ9_floorDiv_7cf53_17 rfl (lv_at hl 0 rfl) ?_
        refine sa_const X.1 dJ9_floorDiv_7cf53_18 ?_
        refine sa_isub X.1 dJ9_floorDiv_7cf53_19 ?_
        exact sa_iret X.1 X.2.2.2.1 X.2.2.2.2 hR hS r9 hw dJ9_floorDiv_7cf53_20)
section SP3
variable {p : Program} {l : Launch} {e : Env} {s : State} {m : MethodId} {args : Array Value} {below : List Frame} {meth : Method} {c : Code} {H : Heap} {locs : List Loc} {Q : State → Prop}
variable {cc : ByteArray} {nL : Nat} {own : String} {pc : Nat} {ls : Array Slot} {rest : List Value} {G : Gx} {e0 : Nat} {α : Ax} {κ : Nat → Int} {B : Nat} {M : Mem} {ret : Option FieldType}
theorem ls_floor {a : Int} {idx : Nat} (X : CX p m c cc nL s args own G B κ meth ret) (ha : inR a) {kc : Nat} {R : Room} {cells slots : Nat} (hRr : RmOK R kc) (hcel : cells ≤ R.cells ∧ slots ≤ R.slots) (hk : 1 ≤ kc) (hR : Rp G e0 α κ B M H) (hS : va_S (fun q => B ≤ q) s.heap H locs) (k1 : Cond.methodLink own idx yJ9_floorDiv_7cf53 ∈ gw) (hml : ls.size = nL) (hd : decode cc pc = .ok (.invokestatic idx, 3)) (hrest : (rest.map fun v => v.category).sum ≤ 8)
    (kk : ∀ (H1 : Heap) (locs1 : List Loc), Rp G e0 α κ B M H1 → va_S (fun q => B ≤ q) s.heap H1 locs1 → W p l e R s m args below meth c H1 locs1 cells slots Q (F0 m (pc + 3) ls (.int (Int32.ofInt (a / 100)) :: rest))) : W p l e R s m args below meth c H locs cells slots Q (F0 m pc ls (.int (Int32.ofInt 100) :: .int (Int32.ofInt a) :: rest)) :=
  sa_callSI 0 (n := 2) (As := [.int (Int32.ofInt a), .int (Int32.ofInt 100)]) (rest := rest) (Qm := fun r M1 => r = a / 100 ∧ M1 = M) X.1 X.2.1 hR hS (m_floor X.2.2.1 ha ⟨rfl, rfl⟩) k1 kw_493 kw_51 kw_494 ⟨by decide +kernel, by decide +kernel, by decide +kernel⟩ (rm_ok hRr hk (by decide)) rfl rfl hrest hml hd hcel (fun r M1 H1 locs1 hq _ hR1 hS1 => by
    obtain ⟨q1, q2⟩ := hq
    rw [q2] at hR1
    rw [q1]
    exact kk H1 locs1 hR1 hS1)
theorem ls_set {L idx : Nat} {i v : Int} (hL : RLs L) (X : CX p m c cc nL s args own G B κ meth ret) (hi : 0 ≤ i ∧ i < M L 0 (-1)) (hv : okk κ 6 v) (hv2 : inR v) {kc : Nat} {R : Room} {cells slots : Nat} (hRr : RmOK R kc) (hcel : cells ≤ R.cells ∧ slots ≤ R.slots) (hk : 3 ≤ kc) (hR : Rp G e0 α κ B M H) (hS : va_S (fun q => B ≤ q) s.heap H locs) (k1 : Cond.methodLink own idx yJx4a65c_set_bcc79 ∈ gw) (hml : ls.size = nL) (hd : decode cc pc = .ok (.invokevirtual idx, 3)) (hrest : (rest.map fun v => v.category).sum ≤ 8)
    (kk : ∀ (H1 : Heap) (locs1 : List Loc), Rp G e0 α κ B (up M L 0 i v) H1 → va_S (fun q => B ≤ q) s.heap H1 locs1 → W p l e R s m args below meth c H1 locs1 cells slots Q (F0 m (pc + 3) ls (.ref (α 6 (M L 0 i)) :: rest))) : W p l e R s m args below meth c H locs cells slots Q (F0 m pc ls (.ref (α 6 v) :: .int (Int32.ofInt i) :: .ref (α L 0) :: rest)) :=
  sa_callVR 2 (n := 2) (As := [.int (Int32.ofInt i), .ref (α 6 v)]) (rest := rest) (Qm := fun M1 => M1 = up M L 0 i v) X.1 X.2.1 hR hS (m_set X.2.2.1 hL (hR.r L 0 (-1)) hi.1 hi.2 hv hv2 rfl) k1 kw_1155 kw_1156 kw_42 kw_1157 ⟨rfl, by decide +kernel, by decide +kernel, by decide +kernel⟩ (rm_ok hRr hk (by decide)) (rc_l (Nat.le_trans (by decide) hL.1) hL.2 X hR) rfl rfl hrest hml hd hcel (fun M1 H1 locs1 hq hR1 hS1 => by
    rw [hq] at hR1
    exact kk H1 locs1 hR1 hS1)
theorem gs_mrp {idx : Nat} (X : CX p m c cc nL s args own G B κ meth ret) {R : Room} {cells slots : Nat} (hS : va_S (fun q => B ≤ q) s.heap H locs) (hlink : Cond.fieldLinkNest own idx "TablePages" "MOST_ROWS_OF_PART" "[I" "TablePages" ∈ nw) (hd : decode cc pc = .ok (.getstatic idx, 3))
    (kk : ∀ t : Nat, va_T .int t 3 (fun j => .int (mrp j)) (fun q => B ≤ q) s s.heap → W p l e R s m args below meth c H locs cells slots Q (F0 m (pc + 3) ls (.ref t :: rest))) : W p l e R s m args below meth c H locs cells slots Q (F0 m pc ls rest) := by
  obtain ⟨t, h1, h2⟩ := X.2.1.2.1.2.2.2.2.1
  exact va_getsN X.1.1 X.1.2.1 h1 hS X.1.2.2.2.1 (va_Nw.use rfl (X.2.1.2.1.1 _ hlink)) (fun _ h => h) hd (kk t h2)
end SP3
theorem m_rowsOf {l : Launch} {G : Gx} {e0 : Nat} {α : Ax} {κ : Nat → Int} {B : Nat} {a : Int} (hκ : kOK κ) (ha : inR a) {M : Mem} {Qm : Mem → Prop} (hw : Qm M) : CR l yX3_rowsOf (Cond.code yX3_rowsOf cX3_rowsOf 2 (some (.object "java/util/ArrayList"))) 0 G e0 α κ B [.ref (α 4 0), .int (Int32.ofInt a)] M (α (rowL a) 0) Qm :=
  CR.mk hκ (by decide +kernel) rfl (Nat.le_of_ble_eq_true rfl) (lv := [(0, .ref (α 4 0)), (1, .int (Int32.ofInt a))]) rfl (fun p e s m args below meth c ls X hR hS hl => by
    refine lv_iload_n X.1.1 X.1.2.1 dX3_rowsOf_0 rfl (lv_at hl 1 rfl) ?_
    refine sa_if_ne (tgt := 11) X.1 ha dX3_rowsOf_1 (by decide) (fun hc => ?_) (fun hc => ?_)
    · refine lv_iload_n X.1.1 X.1.2.1 dX3_rowsOf_11 rfl (lv_at hl 1 rfl) ?_
      refine sa_const X.1 dX3_rowsOf_12 ?_
      refine sa_icmp_ne (tgt := 23) X.1 ha (inR_c (a := 1) rfl) dX3_rowsOf_13 (by decide) (fun hc2 => ?_) (fun hc2 => ?_)
      · rw [show rowL a = 17 by unfold rowL; rw [if_neg hc, if_neg hc2]]
        refine lv_aload_n X.1.1 X.1.2.1 dX3_rowsOf_23 rfl (lv_at hl 0 rfl) ?_
        refine gt_4_5 X hR (okf X.2.2.1 rfl) kw_127 dX3_rowsOf_24 ?_
        exact sa_aret X.1 X.2.2.2.1 (Or.inl ⟨_, rfl⟩) X.2.2.2.2 hR hS hw dX3_rowsOf_27
      · rw [show rowL a = 16 by unfold rowL; rw [if_neg hc, if_pos hc2]]
        refine lv_aload_n X.1.1 X.1.2.1 dX3_rowsOf_16 rfl (lv_at hl 0 rfl) ?_
        refine gt_4_4 X hR (okf X.2.2.1 rfl) kw_124 dX3_rowsOf_17 ?_
        refine lv_goto (tgt := 27) X.1.1 X.1.2.1 dX3_rowsOf_20 (by decide) ?_
        exact sa_aret X.1 X.2.2.2.1 (Or.inl ⟨_, rfl⟩) X.2.2.2.2 hR hS hw dX3_rowsOf_27
    · rw [show rowL a = 15 by unfold rowL; rw [if_pos hc]]
      refine lv_aload_n X.1.1 X.1.2.1 dX3_rowsOf_4 rfl (lv_at hl 0 rfl) ?_
      refine gt_4_3 X hR (okf X.2.2.1 rfl) kw_123 dX3_rowsOf_5 ?_
      refine lv_goto (tgt := 27) X.1.1 X.1.2.1 dX3_rowsOf_8 (by decide) ?_
      exact sa_aret X.1 X.2.2.2.1 (Or.inl ⟨_, rfl⟩) X.2.2.2.2 hR hS hw dX3_rowsOf_27)
section SP4
variable {p : Program} {l : Launch} {e : Env} {s : State} {m : MethodId} {args : Array Value} {below : List Frame} {meth : Method} {c : Code} {H : Heap} {locs : List Loc} {Q : State → Prop}
variable {cc : ByteArray} {nL : Nat} {own : String} {pc : Nat} {ls : Array Slot} {rest : List Value} {G : Gx} {e0 : Nat} {α : Ax} {κ : Nat → Int} {B : Nat} {M : Mem} {ret : Option FieldType}
theorem cs_rowsOf {idx : Nat} {a : Int} (X : CX p m c cc nL s args own G B κ meth ret) (ha : inR a) {kc : Nat} {R : Room} {cells slots : Nat} (hRr : RmOK R kc) (hcel : cells ≤ R.cells ∧ slots ≤ R.slots) (hk : 1 ≤ kc) (hR : Rp G e0 α κ B M H) (hS : va_S (fun q => B ≤ q) s.heap H locs) (k1 : Cond.methodLink own idx yX3_rowsOf ∈ gw) (hml : ls.size = nL) (hd : decode cc pc = .ok (.invokevirtual idx, 3)) (hrest : (rest.map fun v => v.category).sum ≤ 8)
    (kk : ∀ (H1 : Heap) (locs1 : List Loc), Rp G e0 α κ B M H1 → va_S (fun q => B ≤ q) s.heap H1 locs1 → W p l e R s m args below meth c H1 locs1 cells slots Q (F0 m (pc + 3) ls (.ref (α (rowL a) 0) :: rest))) : W p l e R s m args below meth c H locs cells slots Q (F0 m pc ls (.int (Int32.ofInt a) :: .ref (α 4 0) :: rest)) :=
  sa_callVR 0 (n := 1) (As := [.int (Int32.ofInt a)]) (rest := rest) (Qm := fun M1 => M1 = M) X.1 X.2.1 hR hS (m_rowsOf X.2.2.1 ha rfl) k1 kw_540 kw_541 kw_39 kw_542 ⟨rfl, by decide +kernel, by decide +kernel, by decide +kernel⟩ (rm_ok hRr hk (by decide)) (rc_4 X hR (okf X.2.2.1 rfl)) rfl rfl hrest hml hd hcel (fun M1 H1 locs1 hq hR1 hS1 => by
    rw [hq] at hR1
    exact kk H1 locs1 hR1 hS1)
end SP4
