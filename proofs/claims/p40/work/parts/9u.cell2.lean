/-! the pure part: a new cell: what is kept -/
section ZJ
variable {T M : Mem} {O : zSt} {κ : Nat → Int} {p1 p2 p3 p4 : Int}
/-- what a new cell writes on -/
def zCelQ (n : Int) : Nat → Int → Int → Prop := fun s j k => s = 103 ∨ (s = 11 ∧ (k = 59 ∨ k = 15)) ∨ (s = 10 ∧ k = 10) ∨ ((s = 1 ∨ s = 24 ∨ s = 25 ∨ s = 26) ∧ j = n) ∨ s = 37 ∨ (s = 14 ∧ j = 0 ∧ (k = -1 ∨ k = -2 ∨ k = n)) ∨ (s = 20 ∧ j = 0 ∧ k = -1) ∨ ((65 ≤ s ∧ s ≤ 68) ∧ j = 0 ∧ k = n) ∨ s = 69
theorem zcell_iv {κ' : Nat → Int} {F : Mem} (h : Iv T O κ M) {n : Int} (en : n = T 11 0 15) (n100 : n < 100) (r0 : 0 ≤ p1) (r1 : p1 < T 11 0 8) (c0 : 0 ≤ p2) (c1 : p2 < T 11 0 4) (d0 : 1 ≤ p3) (d4 : p3 ≤ 4) (w0 : 1 ≤ p4) (w6 : p4 ≤ 6) (hf : zFree T p1 p2 p3 p4) (fr : Fj (zCelQ n) M F) (v15 : F 11 0 15 = n + 1) (v1 : F 1 n 0 = p1 ∧ F 1 n 1 = p2 ∧ F 1 n 2 = p3 ∧ F 1 n 3 = p4 ∧ F 1 n 7 = 0 ∧ F 1 n 8 = 0 ∧ F 1 n 9 = 0 ∧ F 1 n 10 = 0 ∧ F 1 n 11 = 0 ∧ F 1 n 12 = zS (zsh T) p2 (p2 + p4)) (v24 : ∀ k, F 24 n k = 0) (v14 : F 14 0 (-1) = n + 1 ∧ F 14 0 (-2) = n + 1 ∧ F 14 0 n = n) (v20 : 0 ≤ F 20 0 (-1) ∧ F 20 0 (-1) ≤ 150) (v65 : F 65 0 n = p1 ∧ F 66 0 n = p2 ∧ F 67 0 n = p3 ∧ F 68 0 n = p4) (v69 : ∀ r k, 0 ≤ r → r < T 11 0 8 → 0 ≤ k → k < 6 → (zCov T p1 p2 p3 p4 r k → F 69 0 (6 * r + k) = n + 1) ∧ (¬ zCov T p1 p2 p3 p4 r k → F 69 0 (6 * r + k) = T 69 0 (6 * r + k))) (v69n : ∀ q, 6 * T 11 0 8 ≤ q → F 69 0 q = T 69 0 q) (v37 : ∀ r k, 0 ≤ r → r < T 11 0 8 → 0 ≤ k → k < 6 → (zCov T p1 p2 p3 p4 r k → F 37 r k = n) ∧ (¬ zCov T p1 p2 p3 p4 r k → F 37 r k = T 37 r k)) (v10 : F 10 0 10 = 1) (hκ : κ' 1 = κ 1 + 1 ∧ κ' 2 = κ 2 ∧ κ' 6 = κ 6) : Iv F O κ' F := by
  obtain ⟨hG, hL, hA, hO, hR, hK, hd, hp, hw, hb⟩ := h
  have hC := hG.nC
  have hRn := hG.nR
  have hKn := hG.nK
  have fF : ∀ (s : Nat) (j k : Int), zin s k = true → ¬ zCelQ n s j k → F s j k = T s j k := fun s j k a b => (fr s j k b).trans (hA s j k a)
  have eS : ∀ s : Nat, (s = 2 ∨ s = 6 ∨ s = 12 ∨ s = 13 ∨ (15 ≤ s ∧ s ≤ 19) ∨ (21 ≤ s ∧ s ≤ 23) ∨ s = 33 ∨ (56 ≤ s ∧ s ≤ 64) ∨ (70 ≤ s ∧ s ≤ 76)) → F s = T s := fun s hs => funext fun j => funext fun k => fF s j k (by
    simp only [zin, Bool.or_eq_true, Bool.and_eq_true, decide_eq_true_eq]
    omega) (by unfold zCelQ; omega)
  have f11 : ∀ k, (k = 4 ∨ k = 8 ∨ k = 24 ∨ k = 25 ∨ k = 26) → F 11 0 k = T 11 0 k := fun k hk => fF 11 0 k (by rcases hk with rfl | rfl | rfl | rfl | rfl <;> rfl) (by unfold zCelQ; omega)
  have f10 : ∀ k, (k = 7 ∨ k = 8 ∨ k = 9) → F 10 0 k = T 10 0 k := fun k hk => fF 10 0 k (by rcases hk with rfl | rfl | rfl <;> rfl) (by unfold zCelQ; omega)
  have f1 : ∀ j k, j ≠ n → F 1 j k = T 1 j k := fun j k hj => fF 1 j k rfl (by unfold zCelQ; omega)
  have f25 : ∀ j k, j ≠ n → F 25 j k = T 25 j k := fun j k hj => fF 25 j k rfl (by unfold zCelQ; omega)
  have f26 : ∀ j k, j ≠ n → F 26 j k = T 26 j k := fun j k hj => fF 26 j k rfl (by unfold zCelQ; omega)
  have f14 : ∀ k, 0 ≤ k → k ≠ n → F 14 0 k = T 14 0 k := fun k k0 hk => fF 14 0 k rfl (by unfold zCelQ; omega)
  have f65 : ∀ k, k ≠ n → F 65 0 k = T 65 0 k := fun k hk => fF 65 0 k rfl (by unfold zCelQ; omega)
  have f66 : ∀ k, k ≠ n → F 66 0 k = T 66 0 k := fun k hk => fF 66 0 k rfl (by unfold zCelQ; omega)
  have f67 : ∀ k, k ≠ n → F 67 0 k = T 67 0 k := fun k hk => fF 67 0 k rfl (by unfold zCelQ; omega)
  have f68 : ∀ k, k ≠ n → F 68 0 k = T 68 0 k := fun k hk => fF 68 0 k rfl (by unfold zCelQ; omega)
  have c4 := f11 4 (by decide)
  have c8 := f11 8 (by decide)
  have e6 := eS 6 (by decide)
  have e60 := eS 60 (by decide)
  have e64 := eS 64 (by decide)
  obtain ⟨z72, z73, z74, z75, z76⟩ := hw.1 n (by omega) n100
  have e72 := eS 72 (by decide)
  have e73 := eS 73 (by decide)
  have e74 := eS 74 (by decide)
  have e75 := eS 75 (by decide)
  have e76 := eS 76 (by decide)
  have es : zsh F = zsh T := funext fun k => by unfold zsh; rw [eS 59 (by decide)]
  have hG' : Good F := by
    refine ⟨?_, ?_, ?_, ?_, ?_, ?_, ?_, ?_, ?_, trivial⟩
    · have := hG.n
      unfold zG0 at this ⊢
      rw [c4, c8, v15, f11 24 (by decide), f11 25 (by decide), f11 26 (by decide), e64]
      obtain ⟨g1, g2, g3, g4⟩ := this
      exact ⟨g1, g2, ⟨by omega, by omega⟩, g4⟩
    · have := hG.col
      unfold zGC at this ⊢
      rw [c4, eS 56 (by decide), eS 57 (by decide), eS 58 (by decide), eS 59 (by decide)]; exact this
    · have := hG.vis
      unfold zGV at this ⊢
      rw [c4, eS 58 (by decide), eS 59 (by decide)]; exact this
    · have := hG.row
      unfold zGR at this ⊢
      rw [c8, e60, eS 61 (by decide), eS 62 (by decide), e6, e64, eS 63 (by decide)]; exact this
    · have := hG.ord
      unfold zGO at this ⊢
      rw [c8, e60, e6, e64, eS 63 (by decide)]; exact this
    · unfold zGK
      rw [v15, c4, c8, e6, e60, e64, e72, e73, e74, e75, e76]
      intro c k0 k1
      by_cases e : c = n
      · rw [e, v65.1, v65.2.1, v65.2.2.1, v65.2.2.2, z72, z73, z74, z75, z76]
        exact ⟨⟨r0, r1⟩, c0, ⟨d0, d4⟩, ⟨w0, hf.1.2⟩, hf.1.1, ⟨by omega, by omega⟩, ⟨by omega, by omega⟩, ⟨by omega, by omega⟩, ⟨by omega, by omega⟩, ⟨by omega, by omega⟩, fun z => absurd z (by decide), fun z => absurd z (by decide)⟩
      · rw [f65 c e, f66 c e, f67 c e, f68 c e]
        exact hG.cell c k0 (by omega)
    · unfold zGW
      rw [v15, eS 70 (by decide), eS 71 (by decide), e72]
      intro c i k0 k1 i0 i1
      by_cases e : c = n
      · rw [e, z72] at i1; omega
      · exact hG.word c i k0 (by omega) i0 i1
    · unfold zGP
      rw [v15, c8, e60, e6]
      intro r k a0 a1 k0 k1
      obtain ⟨u, v⟩ := v69 r k a0 a1 k0 k1
      by_cases z : zCov T p1 p2 p3 p4 r k
      · rw [u z, show n + 1 - 1 = n by omega, v65.1, v65.2.1, v65.2.2.1, v65.2.2.2]
        exact ⟨⟨by omega, by omega⟩, fun _ => z⟩
      · rw [v z]
        obtain ⟨x, y⟩ := hG.pl r k a0 a1 k0 k1
        refine ⟨⟨by omega, by omega⟩, fun hx => ?_⟩
        rw [f65 _ (by omega), f66 _ (by omega), f67 _ (by omega), f68 _ (by omega)]
        exact y hx
    · unfold zGQ
      rw [v15, c8, e60, e6]
      intro c r k k0 k1 a0 a1 er x y u v
      by_cases e : c = n
      · rw [e, v65.1] at er x
        rw [e, v65.1, v65.2.2.1] at y
        rw [e, v65.2.1] at u v
        rw [v65.2.2.2] at v
        rw [e]
        exact (v69 r k a0 a1 (by omega) (by have := hf.1.2; omega)).1 ⟨er, ⟨x, y⟩, u, v⟩
      · rw [f65 c e] at er x y
        rw [f67 c e] at y
        rw [f66 c e] at u v
        rw [f68 c e] at v
        obtain ⟨b1, b2, b3, b4, b5, b6⟩ := hG.cell c k0 (by omega)
        have q := hG.pq c r k k0 (by omega) a0 a1 er x y u v
        rw [(v69 r k a0 a1 (by omega) (by omega)).2 (fun z => by have := zCov_free hG hf a0 a1 z; omega)]
        exact q
  have hL' : zLk F := by
    obtain ⟨h1, h2, h3, h4, h5, h6, h7, h8⟩ := hL
    refine ⟨⟨by rw [eS 12 (by decide), c4]; exact h1.1, by rw [eS 13 (by decide), c8]; exact h1.2.1, by rw [v14.1, v15]⟩, ?_, ?_, ?_, ?_, ?_, ?_, trivial⟩
    · rw [c4, eS 12 (by decide), eS 2 (by decide), eS 56 (by decide), eS 57 (by decide), eS 58 (by decide)]; exact h2
    · rw [c8, eS 13 (by decide), e6, e60, eS 61 (by decide), eS 62 (by decide)]
      intro r a0 a1
      obtain ⟨x1, x2, x3, x4, x5⟩ := h3 r a0 a1
      refine ⟨x1, x2, x3, x4, fun k k0 k1 => ?_⟩
      obtain ⟨u, v⟩ := v69 r k a0 a1 k0 k1
      obtain ⟨u', v'⟩ := v37 r k a0 a1 k0 k1
      by_cases z : zCov T p1 p2 p3 p4 r k
      · rw [u z, u' z]; omega
      · rw [v z, v' z]; exact x5 k k0 k1
    · rw [v15, e72, e73, e74, e75, e76, eS 70 (by decide), eS 71 (by decide)]
      intro c k0 k1
      by_cases e : c = n
      · rw [e, z72, z73, z74, z75, z76]
        obtain ⟨x0, x1, x2, x3, x7, x8, x9, x10, x11, x12⟩ := v1
        have ez : zshows F n = zS (zsh T) p2 (p2 + p4) := by
          unfold zshows
          rw [es, v65.2.1, v65.2.2.2]
        exact ⟨v14.2.2, by rw [x0, v65.1], by rw [x1, v65.2.1], by rw [x2, v65.2.2.1], by rw [x3, v65.2.2.2], x7, x8, x9, x10, x11, by rw [x12, ez], fun i i0 i1 => absurd i1 (by omega)⟩
      · have ez : zshows F c = zshows T c := by
          unfold zshows
          rw [es, f66 c e, f68 c e]
        have := h4 c k0 (by omega)
        rw [f14 c k0 e, f1 c _ e, f1 c _ e, f1 c _ e, f1 c _ e, f1 c _ e, f1 c _ e, f1 c _ e, f1 c _ e, f1 c _ e, f1 c _ e, f65 c e, f66 c e, f67 c e, f68 c e, ez]
        obtain ⟨y0, y1, y2, y3, y4, y7, y8, y9, y10, y11, y12, yw⟩ := this
        exact ⟨y0, y1, y2, y3, y4, y7, y8, y9, y10, y11, y12, fun i i0 i1 => by rw [f25 c i e, f26 c i e]; exact yw i i0 i1⟩
    · intro p p0 p2'
      have eLp : F (rowL p) = T (rowL p) := by
        unfold rowL
        split
        · exact eS 15 (by decide)
        · split
          · exact eS 16 (by decide)
          · exact eS 17 (by decide)
      rw [eLp, e64, eS 63 (by decide)]
      exact h5 p p0 p2'
    · rw [c4, eS 33 (by decide), es]; exact h6
    · rw [f10 7 (by decide), f10 8 (by decide), f10 9 (by decide), f11 24 (by decide), f11 25 (by decide), f11 26 (by decide)]; exact h7
  have fM : ∀ (s : Nat) (j k : Int), ((96 ≤ s ∧ s ≤ 102) ∨ (s = 11 ∧ (k = 54 ∨ k = 58 ∨ k = 30)) ∨ (j = 1 ∧ (s = 7 ∨ (38 ≤ s ∧ s ≤ 44))) ∨ s = 27 ∨ s = 36 ∨ (77 ≤ s ∧ s ≤ 79) ∨ s = 4) → F s j k = M s j k := fun s j k z => fr s j k (by unfold zCelQ; omega)
  have hR' := hR.fr (N := F) (fun s j k a b => fM s j k (by omega)) (fM 11 0 54 (by omega)) (fM 11 0 58 (by omega))
  refine ⟨hG', hL', Ag.rf F, ⟨hO.1, hO.2.1, hO.2.2.1, by rw [c4]; exact hO.2.2.2⟩, by unfold zOR at hR' ⊢; rw [c4]; exact hR', hK.fr (fun s k a => fM s 1 k (by omega)), fun z => by omega, ?_, ?_, ?_⟩
  · refine ⟨⟨by rw [hκ.1, v15, hp.1.1, en], by rw [hκ.2.1, c4]; exact hp.1.2.1, by rw [hκ.2.2, c8]; exact hp.1.2.2⟩, fun s s0 s1 => ?_⟩
    have := hp.2 s s0 s1
    by_cases e : s = 14
    · rw [e]
      exact ⟨by rw [v14.1, v14.2.1], v20⟩
    · rw [eS s (by omega), eS (s + 6) (by omega)]; exact this
  · unfold zNW
    rw [v15, c8, e72, e73, e74, e75, e76]
    exact ⟨fun c k0 k1 => hw.1 c (by omega) k1, fun r k a0 a1 k0 k1 => by rw [v69n _ (by omega)]; exact hw.2 r k a0 a1 k0 k1⟩
  · obtain ⟨x1, x2, x3, x4, x5, x6, x7⟩ := hb
    unfold zBR
    rw [c4, c8, v15]
    refine ⟨by rw [fM 11 0 30 (by omega), fM 4 0 7 (by omega)]; exact x1, fun c k k0 k1 i0 i1 => ?_, fun r k a0 a1 k0 k1 => by rw [fM 36 r k (by omega), fM 78 0 _ (by omega)]; exact x3 r k a0 a1 k0 k1, fun c k k0 k1 i0 i1 => by rw [fM 27 c k (by omega), fM 79 0 _ (by omega)]; exact x4 c k k0 k1 i0 i1, fun q q0 q1 => ?_, fun q q0 q1 => by rw [fM 78 0 q (by omega)]; exact x6 q q0 q1, fun q q0 q1 => by rw [fM 79 0 q (by omega)]; exact x7 q q0 q1⟩
    · rw [fM 77 0 _ (by omega)]
      by_cases e : c = n
      · rw [e, v24, (x5 (4 * n + k) (by omega) (by omega)).2 (by omega)]
      · rw [fr 24 c k (by unfold zCelQ; omega)]
        exact x2 c k k0 (by omega) i0 i1
    · rw [fM 77 0 q (by omega)]
      exact ⟨(x5 q q0 q1).1, fun z => (x5 q q0 q1).2 (by omega)⟩
end ZJ
