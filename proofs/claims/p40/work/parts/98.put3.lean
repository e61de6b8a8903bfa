/-! the pure part: calls that change contents and settings, third part -/
section MA
variable {T M T' : Mem} {O : zSt} {κ : Nat → Int} {K : (Nat → Int) → Mem → Prop} {p1 p2 p3 p4 : Int}
/-- one cell's contents change -/
theorem zput_cell (hG : Good T) (hL : zLk T) (hw : zNW T) {c : Int} (c0 : 0 ≤ c) (c1 : c < T 11 0 15) (dS : ∀ s : Nat, ¬ (s = 1 ∨ s = 25 ∨ s = 26 ∨ (70 ≤ s ∧ s ≤ 76)) → T' s = T s) (dC : ∀ s : Nat, (s = 1 ∨ s = 25 ∨ s = 26) → ∀ j k, j ≠ c → T' s j k = T s j k) (dR : ∀ s : Nat, (72 ≤ s ∧ s ≤ 76) → ∀ k, k ≠ c → T' s 0 k = T s 0 k) (dW : ∀ s : Nat, (s = 70 ∨ s = 71) → ∀ i k, i ≠ c → 0 ≤ k → k < 12 → T' s 0 (12 * i + k) = T s 0 (12 * i + k)) (d1 : ∀ k, (k ≤ 3 ∨ k = 12) → T' 1 c k = T 1 c k)
    (g : (0 ≤ T' 72 0 c ∧ T' 72 0 c ≤ 12) ∧ (0 ≤ T' 73 0 c ∧ T' 73 0 c ≤ 1) ∧ (-1000000 ≤ T' 74 0 c ∧ T' 74 0 c ≤ 1000000) ∧ (0 ≤ T' 75 0 c ∧ T' 75 0 c ≤ 2) ∧ (0 ≤ T' 76 0 c ∧ T' 76 0 c ≤ 3) ∧ (T' 73 0 c = 1 → T' 72 0 c = 0 ∧ T 67 0 c = 1 ∧ T 68 0 c = 1) ∧ (0 < T' 76 0 c → T 60 0 (T 65 0 c) = 1))
    (gw : ∀ i, 0 ≤ i → i < T' 72 0 c → ((1 ≤ T' 70 0 (12 * c + i) ∧ T' 70 0 (12 * c + i) ≤ 20) ∧ (0 ≤ T' 71 0 (12 * c + i) ∧ T' 71 0 (12 * c + i) < T' 70 0 (12 * c + i))) ∧ T' 25 c i = T' 70 0 (12 * c + i) ∧ T' 26 c i = T' 71 0 (12 * c + i))
    (gl : T' 1 c 7 = T' 72 0 c ∧ T' 1 c 8 = T' 73 0 c ∧ T' 1 c 9 = T' 74 0 c ∧ T' 1 c 10 = T' 75 0 c ∧ T' 1 c 11 = T' 76 0 c) : zSt0 T T' ∧ Good T' ∧ zLk T' ∧ zNW T' := by
  have e0 : zSt0 T T' := ⟨⟨by rw [dS 11 (by decide)], by rw [dS 11 (by decide)], by rw [dS 11 (by decide)]⟩, fun s hs => dS s (by omega)⟩
  obtain ⟨z0, zp⟩ := zset0 (fun s hs => dS s (by omega)) e0 hG hL
  have hKn := hG.nK
  have hG' : Good T' := by
    refine hG.st e0 z0 (zGC_st hG.col e0 (dS 58 (by decide))) (zGV_st hG.vis e0 (dS 58 (by decide))) ?_ ?_
    · have := hG.cell
      unfold zGK at this ⊢
      rw [e0.1.1, e0.1.2.1, e0.1.2.2, e0.2 65 (by decide), e0.2 66 (by decide), e0.2 67 (by decide), e0.2 68 (by decide), e0.2 6 (by decide), e0.2 64 (by decide), e0.2 60 (by decide)]
      intro i i0 i1
      obtain ⟨v1, v2, v3, v4, v5, v6, v7, v8, v9, v10, v11, v12⟩ := this i i0 i1
      by_cases e : i = c
      · rw [e] at v1 v2 v3 v4 v5 ⊢
        exact ⟨v1, v2, v3, v4, v5, g⟩
      · rw [dR 72 (by decide) i e, dR 73 (by decide) i e, dR 74 (by decide) i e, dR 75 (by decide) i e, dR 76 (by decide) i e]
        exact ⟨v1, v2, v3, v4, v5, v6, v7, v8, v9, v10, v11, v12⟩
    · have := hG.word
      unfold zGW at this ⊢
      rw [e0.1.2.2]
      intro i k i0 i1 k0 k1
      by_cases e : i = c
      · rw [e] at k1 ⊢
        exact (gw k k0 k1).1
      · rw [dR 72 (by decide) i e] at k1
        have h12 := (hG.cell i i0 i1).2.2.2.2.2.1
        rw [dW 70 (by decide) i k e k0 (by omega), dW 71 (by decide) i k e k0 (by omega)]
        exact this i k i0 i1 k0 k1
  refine ⟨e0, hG', hL.st e0 (zLc_st hL.lc e0 (dS 2 (by decide)) (dS 58 (by decide))) ?_ zp, ?_⟩
  · intro i i0 i1
    rw [e0.1.2.2] at i1
    have es := zshows_st e0 i
    obtain ⟨v0, v1, v2, v3, v4, v7, v8, v9, v10, v11, v12, vw⟩ := hL.cell i0 i1
    rw [es, e0.2 14 (by decide), e0.2 65 (by decide), e0.2 66 (by decide), e0.2 67 (by decide), e0.2 68 (by decide)]
    by_cases e : i = c
    · rw [e] at v0 v1 v2 v3 v4 v12 ⊢
      rw [d1 0 (by omega), d1 1 (by omega), d1 2 (by omega), d1 3 (by omega), d1 12 (by omega)]
      exact ⟨v0, v1, v2, v3, v4, gl.1, gl.2.1, gl.2.2.1, gl.2.2.2.1, gl.2.2.2.2, v12, fun k k0 k1 => (gw k k0 k1).2⟩
    · rw [dC 1 (by decide) i _ e, dC 1 (by decide) i _ e, dC 1 (by decide) i _ e, dC 1 (by decide) i _ e, dC 1 (by decide) i _ e, dC 1 (by decide) i _ e, dC 1 (by decide) i _ e, dC 1 (by decide) i _ e, dC 1 (by decide) i _ e, dC 1 (by decide) i _ e, dR 72 (by decide) i e, dR 73 (by decide) i e, dR 74 (by decide) i e, dR 75 (by decide) i e, dR 76 (by decide) i e]
      refine ⟨v0, v1, v2, v3, v4, v7, v8, v9, v10, v11, v12, fun k k0 k1 => ?_⟩
      have h12 := (hG.cell i i0 i1).2.2.2.2.2.1
      rw [dC 25 (by decide) i _ e, dC 26 (by decide) i _ e, dW 70 (by decide) i k e k0 (by omega), dW 71 (by decide) i k e k0 (by omega)]
      exact vw k k0 k1
  · unfold zNW at hw ⊢
    rw [e0.1.2.2, e0.1.2.1, e0.2 69 (by decide)]
    refine ⟨fun i i0 i1 => ?_, hw.2⟩
    rw [dR 72 (by decide) i (by omega), dR 73 (by decide) i (by omega), dR 74 (by decide) i (by omega), dR 75 (by decide) i (by omega), dR 76 (by decide) i (by omega)]
    exact hw.1 i i0 i1
end MA
