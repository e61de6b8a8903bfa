/-! the pure part: a new column -/
section ZE
variable {T M : Mem} {O : zSt} {κ : Nat → Int} {K : (Nat → Int) → Mem → Prop} {p1 p2 : Int}
theorem adM_fr {L : Nat} {v : Int} {s : Nat} {j k : Int} (h1 : s = L → j = 0 → k ≠ -1 ∧ k ≠ -2 ∧ k ≠ M L 0 (-1)) (h2 : s = L + 6 → j = 0 → k ≠ -1) : adM M L v s j k = M s j k := by
  unfold adM
  by_cases a : s = L ∧ j = 0
  · obtain ⟨x, y, z⟩ := h1 a.1 a.2
    rw [if_pos a, if_neg x, if_neg y, if_neg z]
  · rw [if_neg a, if_neg (fun z => h2 z.1 z.2.1 z.2.2)]
theorem M2_fr {n a b : Int} {s : Nat} {j k : Int} (h : ¬ ((s = 2 ∨ s = 27) ∧ j = n)) : M2 M n a b s j k = M s j k := by
  unfold M2
  rw [if_neg (by omega), if_neg (by omega)]
theorem capN_r {z c : Int} (z0 : 0 ≤ z) (z1 : z ≤ 100) (c0 : 0 ≤ c) (c1 : c ≤ 150) : 0 ≤ capN z c ∧ capN z c ≤ 150 := by
  unfold capN
  split
  · omega
  · split
    · omega
    · omega
/-- what is kept of a look, with whatever stood there for columns that come -/
def zO9 (M : Mem) (O : zSt) : zSt := fun s k => if s = 9 then M 101 0 k else O s k
theorem zO9_e (M : Mem) (O : zSt) {s : Nat} (h : s ≠ 9) : zO9 M O s = O s := funext fun k => by
  unfold zO9
  rw [if_neg h]
/-- what a new column writes on -/
def zColQ (n : Int) : Nat → Int → Int → Prop := fun s j k => s = 103 ∨ (s = 11 ∧ (k = 59 ∨ k = 4)) ∨ (s = 10 ∧ k = 10) ∨ ((s = 2 ∨ s = 27) ∧ j = n) ∨ (s = 12 ∧ j = 0 ∧ (k = -1 ∨ k = -2 ∨ k = n)) ∨ (s = 18 ∧ j = 0 ∧ k = -1) ∨ (s = 33 ∧ j = 0 ∧ k = n) ∨ ((s = 56 ∨ s = 57) ∧ j = 0 ∧ k = n)
theorem zcol_iv {κ' : Nat → Int} {F : Mem} (h : Iv T O κ M) {n : Int} (en : n = T 11 0 4) (n6 : n < 6) (nR : T 11 0 8 = 0) (a0 : 0 ≤ p1) (a2 : p1 ≤ 2) (b1 : 1 ≤ p2) (b60 : p2 ≤ 60) (fr : Fj (zColQ n) M F) (v4 : F 11 0 4 = n + 1) (v2 : F 2 n 0 = p1 ∧ F 2 n 1 = p2 ∧ F 2 n 3 = 0) (v27 : ∀ k, F 27 n k = 0) (v12 : F 12 0 (-1) = n + 1 ∧ F 12 0 (-2) = n + 1 ∧ F 12 0 n = n) (v18 : 0 ≤ F 18 0 (-1) ∧ F 18 0 (-1) ≤ 150) (v33 : F 33 0 n = 1) (v56 : F 56 0 n = p1) (v57 : F 57 0 n = p2) (v10 : F 10 0 10 = 1) (hκ : κ' 1 = κ 1 ∧ κ' 2 = κ 2 + 1 ∧ κ' 6 = κ 6) : Iv F (zO9 M O) κ' F := by
  obtain ⟨hG, hL, hA, hO, hR, hK, hd, hp, hw, hb⟩ := h
  have hC := hG.nC
  obtain ⟨g1, g2, g3, g4, g5, g6, g7, g8, g9, g10, g11, g12⟩ := hG.n
  have nK : T 11 0 15 = 0 := by
    by_cases z : 0 < T 11 0 15
    · have := (hG.cell 0 (by omega) z).1
      omega
    · omega
  have fF : ∀ (s : Nat) (j k : Int), zin s k = true → ¬ zColQ n s j k → F s j k = T s j k := fun s j k a b => (fr s j k b).trans (hA s j k a)
  have eS : ∀ s : Nat, (s = 1 ∨ s = 6 ∨ (13 ≤ s ∧ s ≤ 17) ∨ (19 ≤ s ∧ s ≤ 23) ∨ s = 25 ∨ s = 26 ∨ s = 37 ∨ (58 ≤ s ∧ s ≤ 76)) → F s = T s := fun s hs => funext fun j => funext fun k => fF s j k (by
    simp only [zin, Bool.or_eq_true, Bool.and_eq_true, decide_eq_true_eq]
    omega) (by unfold zColQ; omega)
  have f11 : ∀ k, (k = 8 ∨ k = 15 ∨ k = 24 ∨ k = 25 ∨ k = 26) → F 11 0 k = T 11 0 k := fun k hk => fF 11 0 k (by rcases hk with rfl | rfl | rfl | rfl | rfl <;> rfl) (by unfold zColQ; omega)
  have f10 : ∀ k, (k = 7 ∨ k = 8 ∨ k = 9) → F 10 0 k = T 10 0 k := fun k hk => fF 10 0 k (by rcases hk with rfl | rfl | rfl <;> rfl) (by unfold zColQ; omega)
  have f2 : ∀ j k, j ≠ n → F 2 j k = T 2 j k := fun j k hj => fF 2 j k rfl (by unfold zColQ; omega)
  have f12 : ∀ k, 0 ≤ k → k ≠ n → F 12 0 k = T 12 0 k := fun k k0 hk => fF 12 0 k rfl (by unfold zColQ; omega)
  have f33 : ∀ k, k ≠ n → F 33 0 k = T 33 0 k := fun k hk => fF 33 0 k rfl (by unfold zColQ; omega)
  have f56 : ∀ k, k ≠ n → F 56 0 k = T 56 0 k := fun k hk => fF 56 0 k rfl (by unfold zColQ; omega)
  have f57 : ∀ k, k ≠ n → F 57 0 k = T 57 0 k := fun k hk => fF 57 0 k rfl (by unfold zColQ; omega)
  have c8 : F 11 0 8 = 0 := by rw [f11 8 (by decide)]; exact nR
  have c15 : F 11 0 15 = 0 := by rw [f11 15 (by decide)]; exact nK
  have e58 := eS 58 (by decide)
  have e59 := eS 59 (by decide)
  have e64 := eS 64 (by decide)
  have hv := hG.vis.2 n (by omega) n6
  have hm : ∀ p, 0 ≤ p → p ≤ 2 → T 64 0 p = 0 := fun p p0 p2 => by
    rcases (by omega : p = 0 ∨ p = 1 ∨ p = 2) with rfl | rfl | rfl <;> omega
  have hG' : Good F := by
    refine ⟨?_, ?_, ?_, ?_, ?_, ?_, ?_, ?_, ?_, trivial⟩
    · unfold zG0
      rw [v4, c8, c15, f11 24 (by decide), f11 25 (by decide), f11 26 (by decide), e64]
      exact ⟨⟨by omega, by omega⟩, ⟨by omega, by omega⟩, ⟨by omega, by omega⟩, g4, g5, g6, trivial, g8, g9, g10, by omega, fun z => by omega⟩
    · unfold zGC
      rw [v4, e58, e59]
      intro k k0 k1
      by_cases e : k = n
      · rw [e, v56, v57]
        exact ⟨⟨by omega, by omega⟩, ⟨by omega, by omega⟩, ⟨by omega, by omega⟩, ⟨by omega, by omega⟩⟩
      · rw [f56 k e, f57 k e]
        exact hG.col k k0 (by omega)
    · unfold zGV
      rw [v4, e58, e59]
      exact ⟨Or.inr ⟨n, by omega, by omega, hv.2⟩, fun k k0 k1 => hG.vis.2 k (by omega) k1⟩
    · intro r r0 r1
      omega
    · intro p k p0 p2 k0 k1
      rw [e64, hm p p0 p2] at k1
      omega
    · intro c c0 c1
      omega
    · intro c i c0 c1
      omega
    · intro r k r0 r1
      omega
    · intro c r k c0 c1
      omega
  have hL' : zLk F := by
    obtain ⟨h1, h2, h3, h4, h5, h6, h7, h8⟩ := hL
    refine ⟨⟨by rw [v12.1, v4], by rw [eS 13 (by decide), h1.2.1, c8, nR], by rw [eS 14 (by decide), h1.2.2, c15, nK]⟩, ?_, fun r r0 r1 => by omega, fun c c0 c1 => by omega, ?_, ?_, ?_, trivial⟩
    · rw [v4, e58]
      intro k k0 k1
      by_cases e : k = n
      · rw [e]
        exact ⟨v12.2.2, by rw [v2.1, v56], by rw [v2.2.1, v57], by rw [v2.2.2, hv.1]⟩
      · rw [f12 k k0 e, f2 k _ e, f2 k _ e, f2 k _ e, f56 k e, f57 k e]
        exact h2 k k0 (by omega)
    · intro p p0 p2
      have eL : F (rowL p) = T (rowL p) := by
        unfold rowL
        split
        · exact eS 15 (by decide)
        · split
          · exact eS 16 (by decide)
          · exact eS 17 (by decide)
      rw [eL, e64]
      exact ⟨(h5 p p0 p2).1, fun k k0 k1 => by rw [hm p p0 p2] at k1; omega⟩
    · have es : zsh F = zsh T := funext fun k => by unfold zsh; rw [e59]
      rw [v4, es]
      intro k k0 k1
      by_cases e : k = n
      · rw [e, v33, if_pos (by omega)]
        exact (if_pos hv.2).symm
      · rw [f33 k e, h6 k k0 k1]
        by_cases z : k < T 11 0 4
        · rw [if_pos z, if_pos (by omega)]
        · rw [if_neg z, if_neg (by omega)]
    · rw [f10 7 (by decide), f10 8 (by decide), f10 9 (by decide), f11 24 (by decide), f11 25 (by decide), f11 26 (by decide)]; exact h7
  have fM : ∀ (s : Nat) (j k : Int), ((96 ≤ s ∧ s ≤ 102) ∨ (s = 11 ∧ (k = 54 ∨ k = 58 ∨ k = 30)) ∨ (j = 1 ∧ (s = 7 ∨ (38 ≤ s ∧ s ≤ 44))) ∨ s = 24 ∨ s = 36 ∨ (77 ≤ s ∧ s ≤ 79) ∨ s = 4) → F s j k = M s j k := fun s j k z => fr s j k (by unfold zColQ; omega)
  have o0 := zO9_e M O (s := 0) (by decide)
  have o1 := zO9_e M O (s := 1) (by decide)
  have o2 := zO9_e M O (s := 2) (by decide)
  have o3 := zO9_e M O (s := 3) (by decide)
  have o4 := zO9_e M O (s := 4) (by decide)
  have o6 := zO9_e M O (s := 6) (by decide)
  have o8 := zO9_e M O (s := 8) (by decide)
  have o10 := zO9_e M O (s := 10) (by decide)
  refine ⟨hG', hL', Ag.rf F, ?_, ?_, ?_, fun z => by omega, ?_, ?_, ?_⟩
  · obtain ⟨x1, x2, x3, x4⟩ := hO
    unfold zOS zWF zCd
    rw [o0, o1, o2, o6, o8, o10, v4]
    exact ⟨x1, x2, x3, fun c c0 c1 => x4 c (by omega) c1⟩
  · obtain ⟨x1, x2, x3, x4, x5, x6⟩ := hR
    unfold zOR
    rw [o0, o1, o2, o3, o4, o6, o10]
    refine ⟨by rw [fM 11 0 54 (by omega)]; exact x1, by rw [fM 11 0 58 (by omega)]; exact x2, fun k k0 k1 => ?_, fun p p0 p1 => ?_, fun p c p0 p1 c0 c1 => ?_, fun c c0 c1 => ?_⟩
    · rw [fM 96 0 k (by omega), fM 97 0 k (by omega), fM 98 0 k (by omega), fM 99 0 k (by omega)]; exact x3 k k0 k1
    · rw [fM 100 0 p (by omega)]; exact x4 p p0 p1
    · rw [fM 101 0 _ (by omega)]
      unfold zO9
      rw [if_pos rfl]
    · rw [fM 102 0 c (by omega)]; exact x6 c c0 c1
  · have hK' := hK.fr (M' := F) (fun s k a => fM s 1 k (by omega))
    obtain ⟨⟨⟨y1, y2, y3⟩, y4⟩, y5, y6, y7⟩ := hK'
    have eob : zob (zO9 M O) = zob O := by unfold zob; rw [o10]
    unfold zKO zCS zSR
    rw [eob, o0, o1, o3, o4, o6, o8, o10]
    refine ⟨⟨⟨y1, y2, y3⟩, y4⟩, y5, y6, fun p c p0 p1 c0 c1 hx => ?_⟩
    rw [y7 p c p0 p1 c0 c1 hx]
    have hcn : c < T 11 0 4 := by
      by_cases z : c < T 11 0 4
      · exact z
      · exact absurd (hO.2.2.2 c (by omega) c1) hx
    have := hR.2.2.2.2.1 p c p0 p1 c0 hcn
    unfold zO9
    rw [if_pos rfl]
    exact this.symm
  · refine ⟨⟨by rw [hκ.1, c15, hp.1.1, nK], by rw [hκ.2.1, v4, hp.1.2.1, en], by rw [hκ.2.2, c8, hp.1.2.2, nR]⟩, fun s s0 s1 => ?_⟩
    have := hp.2 s s0 s1
    by_cases e : s = 12
    · subst e
      exact ⟨by rw [v12.1, v12.2.1], v18⟩
    · rw [eS s (by omega), eS (s + 6) (by omega)]; exact this
  · unfold zNW at hw ⊢
    rw [c8, c15, eS 72 (by decide), eS 73 (by decide), eS 74 (by decide), eS 75 (by decide), eS 76 (by decide), eS 69 (by decide)]
    rw [nR, nK] at hw
    exact hw
  · obtain ⟨x1, x2, x3, x4, x5, x6, x7⟩ := hb
    unfold zBR
    rw [v4, c8, c15]
    rw [nK] at x2 x5
    rw [nR] at x3 x6
    refine ⟨by rw [fM 11 0 30 (by omega), fM 4 0 7 (by omega)]; exact x1, fun c k c0 c1 => by omega, fun r k r0 r1 => by omega, fun c k c0 c1 k0 k1 => ?_, fun q q0 q1 => ?_, fun q q0 q1 => ?_, fun q q0 q1 => ?_⟩
    · rw [fM 79 0 _ (by omega)]
      by_cases e : c = n
      · rw [e, v27, (x7 (4 * n + k) (by omega) (by omega)).2 (by omega)]
      · rw [fr 27 c k (by unfold zColQ; omega)]
        exact x4 c k c0 (by omega) k0 k1
    · rw [fM 77 0 q (by omega)]; exact x5 q q0 q1
    · rw [fM 78 0 q (by omega)]; exact x6 q q0 q1
    · rw [fM 79 0 q (by omega)]
      exact ⟨(x7 q q0 q1).1, fun z => (x7 q q0 q1).2 (by omega)⟩
end ZE
