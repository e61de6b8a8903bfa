/-! the pure part: calls that change contents and settings, third part -/
section MA
variable {T M T' : Mem} {O : zSt} {κ : Nat → Int} {K : (Nat → Int) → Mem → Prop} {p1 p2 p3 p4 : Int}
/-- one cell's contents change -/
theorem zput_cell (hG : Good T) (hL : zLk T) (hw : zNW T) {c : Int} (c0 : 0 ≤ c) (c1 : c < T 11 0 15) (dS : ∀ s : Nat, ¬ (s = 1 ∨ s = 25 ∨ s = 26 ∨ (70 ≤ s ∧ s ≤ 76)) → T' s = T s) (dC : ∀ s : Nat, (s = 1 ∨ s = 25 ∨ s = 26) → ∀ j k, j ≠ c → T' s j k = T s j k) (dR : ∀ s : Nat, (72 ≤ s ∧ s ≤ 76) → ∀ k, k ≠ c → T' s 0 k = T s 0 k) (dW : ∀ s : Nat, (s = 70 ∨ s = 71) → ∀ i k, i ≠ c → 0 ≤ k → k < 12 → T' s 0 (12 * i + k) = T s 0 (12 * i + k)) (d1 : ∀ k, (k ≤ 3 ∨ k = 12) → T' 1 c k = T 1 c k)
    (g : (0 ≤ T' 72 0 c ∧ T' 72 0 c ≤ 12) ∧ (0 ≤ T' 73 0 c ∧ T' 73 0 c ≤ 1) ∧ (-1000000 ≤ T' 74 0 c ∧ T' 74 0 c ≤ 1000000) ∧ (0 ≤ T' 75 0 c ∧ T' 75 0 c ≤ 2) ∧ (0 ≤ T' 76 0 c ∧ T' 76 0 c ≤ 3) ∧ (T' 73 0 c = 1 → T' 72 0 c = 0 ∧ T 67 0 c = 1 ∧ T 68 0 c = 1) ∧ (0 < T' 76 0 c → T 60 0 (T 65 0 c) = 1))
    (gw : ∀ i, 0 ≤ i → i < T' 72 0 c → ((1 ≤ T' 70 0 (12 * c + i) ∧ T' 70 0 (12 * c + i) ≤ 20) ∧ (0 ≤ T' 71 0 (12 * c + i) ∧ T' 71 0 (12 * c + i) < T' 70 0 (12 * c + i))) ∧ T' 25 c i = T' 70 0 (12 * c + i) ∧ T' 26 c i = T' 71 0 (12 * c + i))
    (gl : T' 1 c 7 = T' 72 0 c ∧ T' 1 c 8 = T' 73 0 c ∧ T' 1 c 9 = T' 74 0 c ∧ T' 1 c 10 = T' 75 0 c ∧ T' 1 c 11 = T' 76 0 c) : zSt0 T T' ∧ Good T' ∧ zLk T' ∧ zNW T' := by
  have e0 : zSt0 T T' := ⟨⟨by rw [dS 11 (by decide)], by rw [dS 11 (by decide)], by rw [dS 11 (by decide)]⟩, fun s hs => dS s (by omega)⟩
  obtain ⟨z0, zp⟩ := zset0 (fun s hs => dS s (by omega)) e0 hG hL
  have hKn := hG.nK
  have hG' : Good T' := by
    refine hG.st e0 z0 (zGC_st hG.col e0 (dS 58 (by decide))) (zGV_st hG.vis e0 (dS 58 (by decide))) ?_ ?_
    · have := hG.cell
      unfold zGK at this ⊢
      rw [e0.1.1, e0.1.2.1, e0.1.2.2, e0.2 65 (by decide), e0.2 66 (by decide), e0.2 67 (by decide), e0.2 68 (by decide), e0.2 6 (by decide), e0.2 64 (by decide), e0.2 60 (by decide)]
      intro i i0 i1
      obtain ⟨v1, v2, v3, v4, v5, v6, v7, v8, v9, v10, v11, v12⟩ := this i i0 i1
      by_cases e : i = c
      · rw [e] at v1 v2 v3 v4 v5 ⊢
        exact ⟨v1, v2, v3, v4, v5, g⟩
      · rw [dR 72 (by decide) i e, dR 73 (by decide) i e, dR 74 (by decide) i e, dR 75 (by decide) i e, dR 76 (by decide) i e]
        exact ⟨v1, v2, v3, v4, v5, v6, v7, v8, v9, v10, v11, v12⟩
    · have := hG.word
      unfold zGW at this ⊢
      rw [e0.1.2.2]
      intro i k i0 i1 k0 k1
      by_cases e : i = c
      · rw [e] at k1 ⊢
        exact (gw k k0 k1).1
      · rw [dR 72 (by decide) i e] at k1
        have h12 := (hG.cell i i0 i1).2.2.2.2.2.1
        rw [dW 70 (by decide) i k e k0 (by omega), dW 71 (by decide) i k e k0 (by omega)]
        exact this i k i0 i1 k0 k1
  refine ⟨e0, hG', hL.st e0 (zLc_st hL.lc e0 (dS 2 (by decide)) (dS 58 (by decide))) ?_ zp, ?_⟩
  · intro i i0 i1
    rw [e0.1.2.2] at i1
    have es := zshows_st e0 i
    obtain ⟨v0, v1, v2, v3, v4, v7, v8, v9, v10, v11, v12, vw⟩ := hL.cell i0 i1
    rw [es, e0.2 14 (by decide), e0.2 65 (by decide), e0.2 66 (by decide), e0.2 67 (by decide), e0.2 68 (by decide)]
    by_cases e : i = c
    · rw [e] at v0 v1 v2 v3 v4 v12 ⊢
      rw [d1 0 (by omega), d1 1 (by omega), d1 2 (by omega), d1 3 (by omega), d1 12 (by omega)]
      exact ⟨v0, v1, v2, v3, v4, gl.1, gl.2.1, gl.2.2.1, gl.2.2.2.1, gl.2.2.2.2, v12, fun k k0 k1 => (gw k k0 k1).2⟩
    · rw [dC 1 (by decide) i _ e, dC 1 (by decide) i _ e, dC 1 (by decide) i _ e, dC 1 (by decide) i _ e, dC 1 (by decide) i _ e, dC 1 (by decide) i _ e, dC 1 (by decide) i _ e, dC 1 (by decide) i _ e, dC 1 (by decide) i _ e, dC 1 (by decide) i _ e, dR 72 (by decide) i e, dR 73 (by decide) i e, dR 74 (by decide) i e, dR 75 (by decide) i e, dR 76 (by decide) i e]
      refine ⟨v0, v1, v2, v3, v4, v7, v8, v9, v10, v11, v12, fun k k0 k1 => ?_⟩
      have h12 := (hG.cell i i0 i1).2.2.2.2.2.1
      rw [dC 25 (by decide) i _ e, dC 26 (by decide) i _ e, dW 70 (by decide) i k e k0 (by omega), dW 71 (by decide) i k e k0 (by omega)]
      exact vw k k0 k1
  · unfold zNW at hw ⊢
    rw [e0.1.2.2, e0.1.2.1, e0.2 69 (by decide)]
    refine ⟨fun i i0 i1 => ?_, hw.2⟩
    rw [dR 72 (by decide) i (by omega), dR 73 (by decide) i (by omega), dR 74 (by decide) i (by omega), dR 75 (by decide) i (by omega), dR 76 (by decide) i (by omega)]
    exact hw.1 i i0 i1
theorem l_empty (h : Iv T O κ M) (hK : ∀ T' M', Iv T' O κ M' → K κ M') : wp_law_5 p1 κ M K := by
  have h' := h
  obtain ⟨hG, hL, hA, -, -, -, -, -, hw, -⟩ := h
  have hKn := hG.nK
  have n14 := hL.n.2.2
  refine k_hasCell hG hL hA (fun hp => ⟨fun _ => ?_, fun z => absurd z (by decide)⟩) (fun hp => ⟨fun z => absurd rfl z, fun _ => ⟨rfl, ?_⟩⟩)
  · obtain ⟨l0, l1, l2, l3, l4, l7, l8, l9, l10, l11, l12, lw⟩ := hL.cell hp.1 hp.2
    obtain ⟨w1, w2, w3, w4, w5, w6, w7, w8, w9, w10, w11, w12⟩ := hG.cell p1 hp.1 hp.2
    intro M2 m2
    have hA2 : Ag T M2 := by rw [m2]; exact hA.up rfl
    have x14 := hA2.s14
    have x1 := hA2.s1
    rw [x14, n14, l0, x1, l7]
    refine ⟨hp, ?_⟩
    intro M7 m7 M9 m9
    obtain ⟨T1, eT1⟩ : ∃ T1, T1 = up (up T 1 p1 7 0) 1 p1 8 0 := ⟨_, rfl⟩
    have hA9 : Ag T1 (up M9 103 0 0 (T 72 0 p1)) := by rw [eT1, m9, m7]; exact (ag_up2 (ag_up2 hA2 _ _ _ _) _ _ _ _).up rfl
    have hG1 : Good T1 := hG.cl (fun s hs => by rw [eT1, up_f _ _ _ _ (by omega), up_f _ _ _ _ (by omega)])
    have f15 : T1 11 0 15 = T 11 0 15 := by rw [eT1, up_s _ _ _ _ (by decide), up_s _ _ _ _ (by decide)]
    refine q_isCell hG1 hA9 (fun _ => q_goes0 (by decide) (by decide) (by decide) ⟨fun _ => ⟨⟨by omega, by omega⟩, ⟨by omega, by omega⟩, ?_⟩, fun z => absurd z (by decide)⟩) (fun z => absurd (by rw [f15]; exact hp) z)
    intro N1 n1
    refine ⟨⟨by omega, by omega⟩, ?_⟩
    intro N n2
    have y72 : up (up M9 103 0 0 (T 72 0 p1)) 11 0 59 0 72 0 p1 = T 72 0 p1 := by
      have := hA2.s72
      rw [up_s _ _ _ _ (by decide), up_s _ _ _ _ (by decide), m9, up_s _ _ _ _ (by decide), m7, up_s _ _ _ _ (by decide), this]
    rw [y72]
    obtain ⟨T', eT⟩ : ∃ T', T' = up (up T1 72 0 p1 0) 73 0 p1 0 := ⟨_, rfl⟩
    have hA' : Ag T' N := by rw [eT, n2, n1]; exact ag_up2 (ag_up2 (hA9.up rfl) _ _ _ _) _ _ _ _
    have dS : ∀ s : Nat, s ≠ 1 → s ≠ 72 → s ≠ 73 → T' s = T s := fun s x y z => by rw [eT, up_f _ _ _ _ z, up_f _ _ _ _ y, eT1, up_f _ _ _ _ x, up_f _ _ _ _ x]
    have t72 : T' 72 0 p1 = 0 := by rw [eT, up_s _ _ _ _ (by decide), up_eq]
    have t73 : T' 73 0 p1 = 0 := by rw [eT, up_eq]
    have t1 : ∀ k, k ≠ 7 → k ≠ 8 → T' 1 p1 k = T 1 p1 k := fun k x y => by rw [eT, up_s _ _ _ _ (by decide), up_s _ _ _ _ (by decide), eT1, up_k _ _ _ _ _ _ y, up_k _ _ _ _ _ _ x]
    obtain ⟨e0, hG', hL', hw'⟩ := zput_cell (T' := T') hG hL hw hp.1 hp.2 (fun s hs => dS s (by omega) (by omega) (by omega)) (fun s hs j k hj => by
      rw [eT, up_s _ _ _ _ (by omega), up_s _ _ _ _ (by omega), eT1, up_j _ _ _ _ _ hj, up_j _ _ _ _ _ hj]) (fun s hs k hk => by
      rw [eT, up_k _ _ _ _ _ _ hk, up_k _ _ _ _ _ _ hk, eT1, up_s _ _ _ _ (by omega), up_s _ _ _ _ (by omega)]) (fun s hs i k _ _ _ => by rw [dS s (by omega) (by omega) (by omega)]) (fun k hk => t1 k (by omega) (by omega))
      (by rw [t72, t73, dS 74 (by decide) (by decide) (by decide), dS 75 (by decide) (by decide) (by decide), dS 76 (by decide) (by decide) (by decide)]; exact ⟨⟨by omega, by omega⟩, ⟨by omega, by omega⟩, w8, w9, w10, fun z => absurd z (by decide), w12⟩)
      (fun i i0 i1 => absurd i1 (by rw [t72]; omega))
      (by
        rw [t72, t73, dS 74 (by decide) (by decide) (by decide), dS 75 (by decide) (by decide) (by decide), dS 76 (by decide) (by decide) (by decide), t1 9 (by decide) (by decide), t1 10 (by decide) (by decide), t1 11 (by decide) (by decide)]
        refine ⟨?_, ?_, l9, l10, l11⟩
        · rw [eT, up_s _ _ _ _ (by decide), up_s _ _ _ _ (by decide), eT1, up_k _ _ _ _ _ _ (by decide), up_eq]
        · rw [eT, up_s _ _ _ _ (by decide), up_s _ _ _ _ (by decide), eT1, up_eq])
    refine ⟨?_, fun _ => ?_, hK T' N (h'.st e0 hG' hL' hA' hw' (fun s j k z => ?_) ?_)⟩
    · rw [n2, up_s _ _ _ _ (by decide), n1, up_s _ _ _ _ (by decide), up_eq]
    · rw [n2, up_s _ _ _ _ (by decide), n1, up_s _ _ _ _ (by decide), up_s _ _ _ _ (by decide), up_eq]
    · rw [n2, up_at, if_neg (by omega), n1, up_at, if_neg (by omega), up_at, if_neg (by omega), up_at, if_neg (by omega), m9, up_at, if_neg (by omega), m7, up_at, if_neg (by omega), m2, up_at, if_neg (by omega)]
    · rw [n2, up_s _ _ _ _ (by decide), n1, up_s _ _ _ _ (by decide), up_s _ _ _ _ (by decide), up_s _ _ _ _ (by decide), m9, up_s _ _ _ _ (by decide), m7, up_s _ _ _ _ (by decide), m2, up_eq]
      decide
  · refine q_isCell hG hA (fun z => absurd z hp) (fun _ => q_goes1 rfl ⟨fun z => absurd rfl z, fun _ => finx0 h' (fun M' => hK T M') (by decide)⟩)
end MA
