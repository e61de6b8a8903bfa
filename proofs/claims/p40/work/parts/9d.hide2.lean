/-! the pure part: hide, second part -/
section RA
variable {T M T' : Mem} {O : zSt} {κ : Nat → Int} {K : (Nat → Int) → Mem → Prop} {p1 p2 p3 p4 : Int}
/-- what is kept depends on few sites -/
theorem Good.fr9 (h : Good T) (d : ∀ s : Nat, (s = 6 ∨ s = 11 ∨ (56 ≤ s ∧ s ≤ 58) ∨ (60 ≤ s ∧ s ≤ 76)) → T' s = T s) (gc : zGC T') (gv : zGV T') : Good T' := by
  obtain ⟨h0, -, -, h3, h4, h5, h6, h7, h8, -⟩ := h
  refine ⟨?_, gc, gv, ?_, ?_, ?_, ?_, ?_, ?_, trivial⟩
  · unfold zG0 at h0 ⊢
    rw [d 11 (by decide), d 64 (by decide)]; exact h0
  · unfold zGR at h3 ⊢
    rw [d 11 (by decide), d 60 (by decide), d 61 (by decide), d 62 (by decide), d 6 (by decide), d 64 (by decide), d 63 (by decide)]; exact h3
  · unfold zGO at h4 ⊢
    rw [d 11 (by decide), d 60 (by decide), d 6 (by decide), d 64 (by decide), d 63 (by decide)]; exact h4
  · unfold zGK at h5 ⊢
    rw [d 11 (by decide), d 65 (by decide), d 66 (by decide), d 67 (by decide), d 68 (by decide), d 6 (by decide), d 64 (by decide), d 60 (by decide), d 72 (by decide), d 73 (by decide), d 74 (by decide), d 75 (by decide), d 76 (by decide)]; exact h5
  · unfold zGW at h6 ⊢
    rw [d 11 (by decide), d 72 (by decide), d 70 (by decide), d 71 (by decide)]; exact h6
  · unfold zGP at h7 ⊢
    rw [d 11 (by decide), d 69 (by decide), d 60 (by decide), d 65 (by decide), d 6 (by decide), d 67 (by decide), d 66 (by decide), d 68 (by decide)]; exact h7
  · unfold zGQ at h8 ⊢
    rw [d 11 (by decide), d 69 (by decide), d 60 (by decide), d 65 (by decide), d 6 (by decide), d 67 (by decide), d 66 (by decide), d 68 (by decide)]; exact h8
theorem Good.cl2 (h : Good T) (d : ∀ s : Nat, (s = 6 ∨ s = 11 ∨ (56 ≤ s ∧ s ≤ 76)) → T' s = T s) : Good T' := by
  refine h.fr9 (fun s hs => d s (by omega)) ?_ ?_
  · have := h.col
    unfold zGC at this ⊢
    rw [d 11 (by decide), d 56 (by decide), d 57 (by decide), d 58 (by decide), d 59 (by decide)]; exact this
  · have := h.vis
    unfold zGV at this ⊢
    rw [d 11 (by decide), d 58 (by decide), d 59 (by decide)]; exact this
theorem zput_hide (hG : Good T) (hL : zLk T) {p v : Int} (p0 : 0 ≤ p) (p1 : p < T 11 0 4) (hv : v = 0 ∨ v = 1) (dF : ∀ s : Nat, s ≠ 33 → s ≠ 1 → s ≠ 59 → T' s = T s) (d59 : ∀ k, T' 59 0 k = if k = p then v else T 59 0 k) (d33 : ∀ k, T' 33 0 k = if k = p then 1 - v else T 33 0 k) (d1 : ∀ c k, k ≠ 12 → T' 1 c k = T 1 c k) (d12 : ∀ c, 0 ≤ c → c < T 11 0 15 → T' 1 c 12 = zshows T' c) (hs : ∃ k, 0 ≤ k ∧ k < T 11 0 4 ∧ T' 59 0 k = 0) : Good T' ∧ zLk T' := by
  have f4 : T' 11 = T 11 := dF 11 (by decide) (by decide) (by decide)
  have hG' : Good T' := by
    refine hG.fr9 (fun s hs => dF s (by omega) (by omega) (by omega)) ?_ ?_
    · have := hG.col
      unfold zGC at this ⊢
      rw [f4, dF 56 (by decide) (by decide) (by decide), dF 57 (by decide) (by decide) (by decide), dF 58 (by decide) (by decide) (by decide)]
      intro k k0 k1
      obtain ⟨y1, y2, y3, y4⟩ := this k k0 k1
      rw [d59]
      refine ⟨y1, y2, y3, ?_⟩
      split <;> omega
    · have := hG.vis
      unfold zGV at this ⊢
      rw [f4, dF 58 (by decide) (by decide) (by decide)]
      refine ⟨Or.inr hs, fun k k0 k1 => ?_⟩
      rw [d59, if_neg (by omega)]
      exact this.2 k k0 k1
  refine ⟨hG', ?_⟩
  obtain ⟨h1, h2, h3, h4, h5, h6, h7, h8⟩ := hL
  have eL : ∀ p, T' (rowL p) = T (rowL p) := fun p => by
    unfold rowL
    split
    · exact dF 15 (by decide) (by decide) (by decide)
    · split
      · exact dF 16 (by decide) (by decide) (by decide)
      · exact dF 17 (by decide) (by decide) (by decide)
  have e : ∀ s : Nat, s ≠ 33 → s ≠ 1 → s ≠ 59 → T' s = T s := dF
  refine ⟨?_, ?_, ?_, fun c c0 c1 => ?_, fun q q0 q1 => ?_, fun k k0 k1 => ?_, ?_, trivial⟩
  · rw [f4, e 12 (by decide) (by decide) (by decide), e 13 (by decide) (by decide) (by decide), e 14 (by decide) (by decide) (by decide)]; exact h1
  · rw [f4, e 12 (by decide) (by decide) (by decide), e 2 (by decide) (by decide) (by decide), e 56 (by decide) (by decide) (by decide), e 57 (by decide) (by decide) (by decide), e 58 (by decide) (by decide) (by decide)]; exact h2
  · rw [f4, e 13 (by decide) (by decide) (by decide), e 6 (by decide) (by decide) (by decide), e 60 (by decide) (by decide) (by decide), e 61 (by decide) (by decide) (by decide), e 62 (by decide) (by decide) (by decide), e 37 (by decide) (by decide) (by decide), e 69 (by decide) (by decide) (by decide)]; exact h3
  · rw [f4] at c1
    obtain ⟨v0, v1, v2, v3, v4, v7, v8, v9, v10, v11, v12, vw⟩ := h4 c c0 c1
    rw [e 14 (by decide) (by decide) (by decide), e 65 (by decide) (by decide) (by decide), e 66 (by decide) (by decide) (by decide), e 67 (by decide) (by decide) (by decide), e 68 (by decide) (by decide) (by decide), e 72 (by decide) (by decide) (by decide), e 73 (by decide) (by decide) (by decide), e 74 (by decide) (by decide) (by decide), e 75 (by decide) (by decide) (by decide), e 76 (by decide) (by decide) (by decide), e 25 (by decide) (by decide) (by decide), e 26 (by decide) (by decide) (by decide), e 70 (by decide) (by decide) (by decide), e 71 (by decide) (by decide) (by decide), d1 c 0 (by decide), d1 c 1 (by decide), d1 c 2 (by decide), d1 c 3 (by decide), d1 c 7 (by decide), d1 c 8 (by decide), d1 c 9 (by decide), d1 c 10 (by decide), d1 c 11 (by decide)]
    exact ⟨v0, v1, v2, v3, v4, v7, v8, v9, v10, v11, d12 c c0 c1, vw⟩
  · rw [eL, e 64 (by decide) (by decide) (by decide), e 63 (by decide) (by decide) (by decide)]; exact h5 q q0 q1
  · rw [f4, d33]
    by_cases q : k = p
    · rw [if_pos q, q, if_pos p1]
      unfold zsh
      rw [d59, if_pos rfl]
      rcases hv with hv | hv <;> rw [hv] <;> rfl
    · rw [if_neg q, h6 k k0 k1]
      have : zsh T' k = zsh T k := by unfold zsh; rw [d59, if_neg q]
      rw [this]
  · rw [f4, e 10 (by decide) (by decide) (by decide)]; exact h7
/-- another column is shown -/
theorem zvis_other (hG : Good T) {p : Int} (p0 : 0 ≤ p) (p1 : p < T 11 0 4) (hp : T 59 0 p = 0) (h : ¬ zvis T = 1) : ∃ k, 0 ≤ k ∧ k < T 11 0 4 ∧ k ≠ p ∧ T 59 0 k = 0 := by
  by_cases z : ∃ k, 0 ≤ k ∧ k < T 11 0 4 ∧ k ≠ p ∧ T 59 0 k = 0
  · exact z
  · refine absurd ?_ h
    refine (zS_congr (fun k a b => ?_)).trans (zS_one (a := 0) (b := T 11 0 4) (r0 := p) (v := 1) p0 p1)
    by_cases e : k = p
    · rw [if_pos e, e]; exact if_pos hp
    · rw [if_neg e]
      exact if_neg (fun q => z ⟨k, a, b, e, q⟩)
end RA
