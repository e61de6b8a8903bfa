/-! the law's loop -/
def wp_law (c p1 p2 p3 p4 : Int) (κ : Nat → Int) (M : Mem) (K : (Nat → Int) → Mem → Prop) : Prop := (c = 0 → wp_law_0 p1 p2 κ M K) ∧ (c = 1 → wp_law_1 p1 p2 p3 κ M K) ∧ (c = 2 → wp_law_2 p1 p2 p3 p4 κ M K) ∧ (c = 3 → wp_law_3 p1 p2 p3 κ M K) ∧ (c = 4 → wp_law_4 p1 p2 p3 κ M K) ∧ (c = 5 → wp_law_5 p1 κ M K) ∧ (c = 6 → wp_law_6 p1 p2 κ M K) ∧ (c = 7 → wp_law_7 p1 p2 κ M K) ∧ (c = 8 → wp_law_8 p1 p2 κ M K) ∧ (c = 9 → wp_law_9 κ M K) ∧ (c = 10 → wp_law_10 p1 κ M K) ∧ (c = 11 → wp_law_11 p1 κ M K) ∧ (c = 12 → wp_law_12 p1 p2 κ M K) ∧ (c = 13 → wp_law_13 p1 κ M K) ∧ (c = 14 → wp_law_14 p1 κ M K) ∧ (c = 15 → wp_law_15 p1 κ M K) ∧ (c = 16 → wp_law_16 κ M K) ∧ (c = 17 → wp_law_17 p1 κ M K) ∧ (c = 18 → wp_law_18 p1 κ M K) ∧ (c = 19 → wp_law_19 p1 κ M K) ∧ (c = 20 → wp_law_20 p1 κ M K) ∧ (c = 21 → wp_law_21 p1 κ M K) ∧ (c = 22 → wp_law_22 κ M K) ∧ (c = 23 → wp_law_23 κ M K) ∧ (c = 24 → wp_law_24 p1 p2 p3 p4 κ M K) ∧ (c = 25 → wp_law_25 p1 p2 p3 κ M K) ∧ (c = 26 → wp_law_26 κ M K) ∧ (c = 27 → wp_law_27 p1 κ M K) ∧ (c = 28 → wp_law_28 p1 p2 κ M K) ∧ (c = 29 → wp_law_29 p1 p2 κ M K) ∧ (c = 30 → wp_law_30 p1 κ M K) ∧ (c = 31 → wp_law_31 p1 κ M K) ∧ (c = 32 → wp_law_32 κ M K) ∧ (c = 33 → wp_law_33 p1 κ M K) ∧ (c = 34 → wp_law_34 p1 p2 κ M K) ∧ (c = 35 → wp_law_35 p1 p2 κ M K) ∧ (c = 36 → wp_law_36 p1 p2 κ M K) ∧ ((c < 0 ∨ 36 < c) → K κ M)
section LO
variable {p : Program} {l : Launch} {e : Env} {R : Room} {s : State} {m : MethodId} {args : Array Value} {below : List Frame} {meth : Method} {c : Code} {Q : State → Prop}
variable {G : Gx} {e0 : Nat} {B : Nat} {b L : Nat} {xs : Nat → Int32}
set_option maxHeartbeats 4000000 in
set_option maxRecDepth 100000 in
theorem law_loop {κ0 : Nat → Int} {CE SE : Nat} (X0 : CX p m c cL_law 7 s args "TablePagesLaw" G B κ0 meth ret) (N : NcA s) (V : LV s B b L xs) (hlt : l.stackTraces = false) (he0 : e0 = G.2.2.2.2.2) (hRr : RmOK R 12) (hR1 : CE ≤ R.cells) (hR2 : SE ≤ R.slots) (Inv : (Nat → Int) → Mem → Prop)
    (hstep : ∀ (κ : Nat → Int) (M : Mem), Inv κ M → ∀ c p1 p2 p3 p4 : Int, inR c → inR p1 → inR p2 → inR p3 → inR p4 → wp_law c p1 p2 p3 p4 κ M Inv)
    (kend : ∀ (H : Heap) (locs : List Loc) (ls : Array Slot), va_S (fun q => B ≤ q) s.heap H locs → W p l e R s m args below meth c H locs CE SE Q (F0 m 2376 ls [])) :
    ∀ (n : Nat) (i : Int) (cells slots : Nat) (κ : Nat → Int) (α : Ax) (M : Mem) (H : Heap) (locs : List Loc) (ls : Array Slot), 0 ≤ i → i ≤ (L : Int) + 5 → (L : Int) - i < 5 * n + 5 → cells + 8 * n ≤ CE → slots + 2100 * n ≤ SE → Inv κ M → kOK κ → Rp G e0 α κ B M H → va_S (fun q => B ≤ q) s.heap H locs → lv_has ls 7 [(0, .ref b), (1, .ref (α 10 0)), (2, .ref (α 11 0)), (3, .ref (α 103 0)), (4, .int (Int32.ofInt i))] → W p l e R s m args below meth c H locs cells slots Q (F0 m 23 ls []) := by
  intro n
  induction n with
  | zero =>
    intro i cells slots κ α M H locs ls hi0 hi1 hn hc1 hc2 hI hκ hR hS hl
    have X := X0.re hκ
    have hL := V.2.2.2
    refine lv_iload X.1.1 X.1.2.1 dL_law_23 (lv_at hl 4 rfl) ?_
    refine lv_aload_n X.1.1 X.1.2.1 dL_law_25 rfl (lv_at hl 0 rfl) ?_
    refine va_slen X.1.1 X.1.2.1 V.1 V.2.1 V.2.2.1 hS dL_law_26 ?_
    rw [← Int32.ofInt_eq_ofNat]
    refine sa_const X.1 dL_law_27 ?_
    refine sa_isub X.1 dL_law_28 ?_
    refine sa_icmp_gt (tgt := 2376) X.1 ⟨by omega, by omega⟩ ⟨by omega, by omega⟩ dL_law_29 (by decide) (fun hc => ?_) (fun hc => ?_)
    · exact W.widen (by omega) (by omega) (kend H locs ls hS)
    · exact absurd hc (by omega)
  | succ n ih =>
    intro i cells slots κ α M H locs ls hi0 hi1 hn hc1 hc2 hI hκ hR hS hl
    have X := X0.re hκ
    have hL := V.2.2.2
    refine lv_iload X.1.1 X.1.2.1 dL_law_23 (lv_at hl 4 rfl) ?_
    refine lv_aload_n X.1.1 X.1.2.1 dL_law_25 rfl (lv_at hl 0 rfl) ?_
    refine va_slen X.1.1 X.1.2.1 V.1 V.2.1 V.2.2.1 hS dL_law_26 ?_
    rw [← Int32.ofInt_eq_ofNat]
    refine sa_const X.1 dL_law_27 ?_
    refine sa_isub X.1 dL_law_28 ?_
    refine sa_icmp_gt (tgt := 2376) X.1 ⟨by omega, by omega⟩ ⟨by omega, by omega⟩ dL_law_29 (by decide) (fun hc => ?_) (fun hc => ?_)
    · exact W.widen (by omega) (by omega) (kend H locs ls hS)
    · have hw := hstep κ M hI (iAnd (sx xs i) 63) (sx xs (i + 1)) (sx xs (i + 2)) (sx xs (i + 3)) (sx xs (i + 4)) (inR_t _) (sx_R _ _) (sx_R _ _) (sx_R _ _) (sx_R _ _)
      have hnext : ∀ (κ1 : Nat → Int) (α1 : Ax) (M1 : Mem) (H1 : Heap) (locs1 : List Loc) (ls1 : Array Slot), Inv κ1 M1 → kOK κ1 → Rp G e0 α1 κ1 B M1 H1 → va_S (fun q => B ≤ q) s.heap H1 locs1 → lv_has ls1 7 [(0, .ref b), (1, .ref (α1 10 0)), (2, .ref (α1 11 0)), (3, .ref (α1 103 0)), (4, .int (Int32.ofInt i))] → W p l e R s m args below meth c H1 locs1 (cells + 8) (slots + 2100) Q (F0 m 2370 ls1 []) := fun κ1 α1 M1 H1 locs1 ls1 hI hκ hR hS hl => by
        refine lv_iinc (v := Int32.ofInt (i + 5)) (lv' := [(4, .int (Int32.ofInt (i + 5))), (0, .ref b), (1, .ref (α1 10 0)), (2, .ref (α1 11 0)), (3, .ref (α1 103 0))]) X.1.1 X.1.2.1 dL_law_2370 hl (k := 4) rfl (Int32.ofInt_add _ _).symm (by decide) rfl (fun ls hl => ?_)
        refine lv_goto (tgt := 23) X.1.1 X.1.2.1 dL_law_2373 (by decide) ?_
        exact ih (i + 5) _ _ κ1 α1 M1 H1 locs1 ls (by omega) (by omega) (by omega) (by omega) (by omega) hI hκ hR hS (lv_sub hl [1, 2, 3, 4, 0] rfl)
      refine lv_aload_n X.1.1 X.1.2.1 dL_law_32 rfl (lv_at hl 0 rfl) ?_
      refine lv_iload X.1.1 X.1.2.1 dL_law_33 (lv_at hl 4 rfl) ?_
      refine la_at X V hS ⟨hi0, by omega⟩ dL_law_35 ?_
      refine sa_bipush X.1 dL_law_36 (by decide) ?_
      refine sa_iand X.1 dL_law_38 ?_
      generalize hcc : iAnd (sx xs i) 63 = cc at hw ⊢
      have hcR : inR cc := by rw [← hcc]; exact inR_t _
      rcases (show cc = 0 ∨ cc = 1 ∨ cc = 2 ∨ cc = 3 ∨ cc = 4 ∨ cc = 5 ∨ cc = 6 ∨ cc = 7 ∨ cc = 8 ∨ cc = 9 ∨ cc = 10 ∨ cc = 11 ∨ cc = 12 ∨ cc = 13 ∨ cc = 14 ∨ cc = 15 ∨ cc = 16 ∨ cc = 17 ∨ cc = 18 ∨ cc = 19 ∨ cc = 20 ∨ cc = 21 ∨ cc = 22 ∨ cc = 23 ∨ cc = 24 ∨ cc = 25 ∨ cc = 26 ∨ cc = 27 ∨ cc = 28 ∨ cc = 29 ∨ cc = 30 ∨ cc = 31 ∨ cc = 32 ∨ cc = 33 ∨ cc = 34 ∨ cc = 35 ∨ cc = 36 ∨ (cc < 0 ∨ 36 < cc) by omega) with hc | hc | hc | hc | hc | hc | hc | hc | hc | hc | hc | hc | hc | hc | hc | hc | hc | hc | hc | hc | hc | hc | hc | hc | hc | hc | hc | hc | hc | hc | hc | hc | hc | hc | hc | hc | hc | hc
      · exact sa_tsw (tgt := 200) X.1 hcR hc dL_law_39 (by decide) (by decide) rfl (by decide) (law_c0 X N V hlt he0 hi0 (by omega) (hw.1 hc) hR hS (by omega) (by omega) hRr hl hnext)
      · exact sa_tsw (tgt := 268) X.1 hcR hc dL_law_39 (by decide) (by decide) rfl (by decide) (law_c1 X N V hlt he0 hi0 (by omega) (hw.2.1 hc) hR hS (by omega) (by omega) hRr hl hnext)
      · exact sa_tsw (tgt := 364) X.1 hcR hc dL_law_39 (by decide) (by decide) rfl (by decide) (law_c2 X N V hlt he0 hi0 (by omega) (hw.2.2.1 hc) hR hS (by omega) (by omega) hRr hl hnext)
      · exact sa_tsw (tgt := 456) X.1 hcR hc dL_law_39 (by decide) (by decide) rfl (by decide) (law_c3 X N V hlt he0 hi0 (by omega) (hw.2.2.2.1 hc) hR hS (by omega) (by omega) hRr hl hnext)
      · exact sa_tsw (tgt := 536) X.1 hcR hc dL_law_39 (by decide) (by decide) rfl (by decide) (law_c4 X N V hlt he0 hi0 (by omega) (hw.2.2.2.2.1 hc) hR hS (by omega) (by omega) hRr hl hnext)
      · exact sa_tsw (tgt := 596) X.1 hcR hc dL_law_39 (by decide) (by decide) rfl (by decide) (law_c5 X N V hlt he0 hi0 (by omega) (hw.2.2.2.2.2.1 hc) hR hS (by omega) (by omega) hRr hl hnext)
      · exact sa_tsw (tgt := 652) X.1 hcR hc dL_law_39 (by decide) (by decide) rfl (by decide) (law_c6 X N V hlt he0 hi0 (by omega) (hw.2.2.2.2.2.2.1 hc) hR hS (by omega) (by omega) hRr hl hnext)
      · exact sa_tsw (tgt := 720) X.1 hcR hc dL_law_39 (by decide) (by decide) rfl (by decide) (law_c7 X N V hlt he0 hi0 (by omega) (hw.2.2.2.2.2.2.2.1 hc) hR hS (by omega) (by omega) hRr hl hnext)
      · exact sa_tsw (tgt := 788) X.1 hcR hc dL_law_39 (by decide) (by decide) rfl (by decide) (law_c8 X N V hlt he0 hi0 (by omega) (hw.2.2.2.2.2.2.2.2.1 hc) hR hS (by omega) (by omega) hRr hl hnext)
      · exact sa_tsw (tgt := 836) X.1 hcR hc dL_law_39 (by decide) (by decide) rfl (by decide) (law_c9 X N V hlt he0 hi0 (by omega) (hw.2.2.2.2.2.2.2.2.2.1 hc) hR hS (by omega) (by omega) hRr hl hnext)
      · exact sa_tsw (tgt := 849) X.1 hcR hc dL_law_39 (by decide) (by decide) rfl (by decide) (law_c10 X N V hlt he0 hi0 (by omega) (hw.2.2.2.2.2.2.2.2.2.2.1 hc) hR hS (by omega) (by omega) hRr hl hnext)
      · exact sa_tsw (tgt := 912) X.1 hcR hc dL_law_39 (by decide) (by decide) rfl (by decide) (law_c11 X N V hlt he0 hi0 (by omega) (hw.2.2.2.2.2.2.2.2.2.2.2.1 hc) hR hS (by omega) (by omega) hRr hl hnext)
      · exact sa_tsw (tgt := 975) X.1 hcR hc dL_law_39 (by decide) (by decide) rfl (by decide) (law_c12 X N V hlt he0 hi0 (by omega) (hw.2.2.2.2.2.2.2.2.2.2.2.2.1 hc) hR hS (by omega) (by omega) hRr hl hnext)
      · exact sa_tsw (tgt := 1059) X.1 hcR hc dL_law_39 (by decide) (by decide) rfl (by decide) (law_c13 X N V hlt he0 hi0 (by omega) (hw.2.2.2.2.2.2.2.2.2.2.2.2.2.1 hc) hR hS (by omega) (by omega) hRr hl hnext)
      · exact sa_tsw (tgt := 1115) X.1 hcR hc dL_law_39 (by decide) (by decide) rfl (by decide) (law_c14 X N V hlt he0 hi0 (by omega) (hw.2.2.2.2.2.2.2.2.2.2.2.2.2.2.1 hc) hR hS (by omega) (by omega) hRr hl hnext)
      · exact sa_tsw (tgt := 1171) X.1 hcR hc dL_law_39 (by decide) (by decide) rfl (by decide) (law_c15 X N V hlt he0 hi0 (by omega) (hw.2.2.2.2.2.2.2.2.2.2.2.2.2.2.2.1 hc) hR hS (by omega) (by omega) hRr hl hnext)
      · exact sa_tsw (tgt := 1227) X.1 hcR hc dL_law_39 (by decide) (by decide) rfl (by decide) (law_c16 X N V hlt he0 hi0 (by omega) (hw.2.2.2.2.2.2.2.2.2.2.2.2.2.2.2.2.1 hc) hR hS (by omega) (by omega) hRr hl hnext)
      · exact sa_tsw (tgt := 1240) X.1 hcR hc dL_law_39 (by decide) (by decide) rfl (by decide) (law_c17 X N V hlt he0 hi0 (by omega) (hw.2.2.2.2.2.2.2.2.2.2.2.2.2.2.2.2.2.1 hc) hR hS (by omega) (by omega) hRr hl hnext)
      · exact sa_tsw (tgt := 1296) X.1 hcR hc dL_law_39 (by decide) (by decide) rfl (by decide) (law_c18 X N V hlt he0 hi0 (by omega) (hw.2.2.2.2.2.2.2.2.2.2.2.2.2.2.2.2.2.2.1 hc) hR hS (by omega) (by omega) hRr hl hnext)
      · exact sa_tsw (tgt := 1352) X.1 hcR hc dL_law_39 (by decide) (by decide) rfl (by decide) (law_c19 X N V hlt he0 hi0 (by omega) (hw.2.2.2.2.2.2.2.2.2.2.2.2.2.2.2.2.2.2.2.1 hc) hR hS (by omega) (by omega) hRr hl hnext)
      · exact sa_tsw (tgt := 1408) X.1 hcR hc dL_law_39 (by decide) (by decide) rfl (by decide) (law_c20 X N V hlt he0 hi0 (by omega) (hw.2.2.2.2.2.2.2.2.2.2.2.2.2.2.2.2.2.2.2.2.1 hc) hR hS (by omega) (by omega) hRr hl hnext)
      · exact sa_tsw (tgt := 1464) X.1 hcR hc dL_law_39 (by decide) (by decide) rfl (by decide) (law_c21 X N V hlt he0 hi0 (by omega) (hw.2.2.2.2.2.2.2.2.2.2.2.2.2.2.2.2.2.2.2.2.2.1 hc) hR hS (by omega) (by omega) hRr hl hnext)
      · exact sa_tsw (tgt := 1520) X.1 hcR hc dL_law_39 (by decide) (by decide) rfl (by decide) (law_c22 X N V hlt he0 hi0 (by omega) (hw.2.2.2.2.2.2.2.2.2.2.2.2.2.2.2.2.2.2.2.2.2.2.1 hc) hR hS (by omega) (by omega) hRr hl hnext)
      · exact sa_tsw (tgt := 1533) X.1 hcR hc dL_law_39 (by decide) (by decide) rfl (by decide) (law_c23 X N V hlt he0 hi0 (by omega) (hw.2.2.2.2.2.2.2.2.2.2.2.2.2.2.2.2.2.2.2.2.2.2.2.1 hc) hR hS (by omega) (by omega) hRr hl hnext)
      · exact sa_tsw (tgt := 1577) X.1 hcR hc dL_law_39 (by decide) (by decide) rfl (by decide) (law_c24 X N V hlt he0 hi0 (by omega) (hw.2.2.2.2.2.2.2.2.2.2.2.2.2.2.2.2.2.2.2.2.2.2.2.2.1 hc) hR hS (by omega) (by omega) hRr hl hnext)
      · exact sa_tsw (tgt := 1669) X.1 hcR hc dL_law_39 (by decide) (by decide) rfl (by decide) (law_c25 X N V hlt he0 hi0 (by omega) (hw.2.2.2.2.2.2.2.2.2.2.2.2.2.2.2.2.2.2.2.2.2.2.2.2.2.1 hc) hR hS (by omega) (by omega) hRr hl hnext)
      · exact sa_tsw (tgt := 1749) X.1 hcR hc dL_law_39 (by decide) (by decide) rfl (by decide) (law_c26 X N V hlt he0 hi0 (by omega) (hw.2.2.2.2.2.2.2.2.2.2.2.2.2.2.2.2.2.2.2.2.2.2.2.2.2.2.1 hc) hR hS (by omega) (by omega) hRr hl hnext)
      · exact sa_tsw (tgt := 1793) X.1 hcR hc dL_law_39 (by decide) (by decide) rfl (by decide) (law_c27 X N V hlt he0 hi0 (by omega) (hw.2.2.2.2.2.2.2.2.2.2.2.2.2.2.2.2.2.2.2.2.2.2.2.2.2.2.2.1 hc) hR hS (by omega) (by omega) hRr hl hnext)
      · exact sa_tsw (tgt := 1849) X.1 hcR hc dL_law_39 (by decide) (by decide) rfl (by decide) (law_c28 X N V hlt he0 hi0 (by omega) (hw.2.2.2.2.2.2.2.2.2.2.2.2.2.2.2.2.2.2.2.2.2.2.2.2.2.2.2.2.1 hc) hR hS (by omega) (by omega) hRr hl hnext)
      · exact sa_tsw (tgt := 1917) X.1 hcR hc dL_law_39 (by decide) (by decide) rfl (by decide) (law_c29 X N V hlt he0 hi0 (by omega) (hw.2.2.2.2.2.2.2.2.2.2.2.2.2.2.2.2.2.2.2.2.2.2.2.2.2.2.2.2.2.1 hc) hR hS (by omega) (by omega) hRr hl hnext)
      · exact sa_tsw (tgt := 1985) X.1 hcR hc dL_law_39 (by decide) (by decide) rfl (by decide) (law_c30 X N V hlt he0 hi0 (by omega) (hw.2.2.2.2.2.2.2.2.2.2.2.2.2.2.2.2.2.2.2.2.2.2.2.2.2.2.2.2.2.2.1 hc) hR hS (by omega) (by omega) hRr hl hnext)
      · exact sa_tsw (tgt := 2041) X.1 hcR hc dL_law_39 (by decide) (by decide) rfl (by decide) (law_c31 X N V hlt he0 hi0 (by omega) (hw.2.2.2.2.2.2.2.2.2.2.2.2.2.2.2.2.2.2.2.2.2.2.2.2.2.2.2.2.2.2.2.1 hc) hR hS (by omega) (by omega) hRr hl hnext)
      · exact sa_tsw (tgt := 2097) X.1 hcR hc dL_law_39 (by decide) (by decide) rfl (by decide) (law_c32 X N V hlt he0 hi0 (by omega) (hw.2.2.2.2.2.2.2.2.2.2.2.2.2.2.2.2.2.2.2.2.2.2.2.2.2.2.2.2.2.2.2.2.1 hc) hR hS (by omega) (by omega) hRr hl hnext)
      · exact sa_tsw (tgt := 2110) X.1 hcR hc dL_law_39 (by decide) (by decide) rfl (by decide) (law_c33 X N V hlt he0 hi0 (by omega) (hw.2.2.2.2.2.2.2.2.2.2.2.2.2.2.2.2.2.2.2.2.2.2.2.2.2.2.2.2.2.2.2.2.2.1 hc) hR hS (by omega) (by omega) hRr hl hnext)
      · exact sa_tsw (tgt := 2166) X.1 hcR hc dL_law_39 (by decide) (by decide) rfl (by decide) (law_c34 X N V hlt he0 hi0 (by omega) (hw.2.2.2.2.2.2.2.2.2.2.2.2.2.2.2.2.2.2.2.2.2.2.2.2.2.2.2.2.2.2.2.2.2.2.1 hc) hR hS (by omega) (by omega) hRr hl hnext)
      · exact sa_tsw (tgt := 2234) X.1 hcR hc dL_law_39 (by decide) (by decide) rfl (by decide) (law_c35 X N V hlt he0 hi0 (by omega) (hw.2.2.2.2.2.2.2.2.2.2.2.2.2.2.2.2.2.2.2.2.2.2.2.2.2.2.2.2.2.2.2.2.2.2.2.1 hc) hR hS (by omega) (by omega) hRr hl hnext)
      · exact sa_tsw (tgt := 2302) X.1 hcR hc dL_law_39 (by decide) (by decide) rfl (by decide) (law_c36 X N V hlt he0 hi0 (by omega) (hw.2.2.2.2.2.2.2.2.2.2.2.2.2.2.2.2.2.2.2.2.2.2.2.2.2.2.2.2.2.2.2.2.2.2.2.2.1 hc) hR hS (by omega) (by omega) hRr hl hnext)
      · refine sa_tswd (tgt := 2370) X.1 hcR hc dL_law_39 (by decide) ?_
        refine W.widen (k := cells + 8) (n := slots + 2100) (by omega) (by omega) ?_
        exact hnext κ α M H locs ls (hw.2.2.2.2.2.2.2.2.2.2.2.2.2.2.2.2.2.2.2.2.2.2.2.2.2.2.2.2.2.2.2.2.2.2.2.2.2 hc) hκ hR hS hl
end LO
