/-! the pure part: a new row -/
section ZG
variable {T M : Mem} {O : zSt} {κ : Nat → Int} {K : (Nat → Int) → Mem → Prop} {p1 p2 p3 : Int}
theorem Fj.ad {Z : Nat → Int → Int → Prop} {M' : Mem} (h : Fj Z M M') {L : Nat} {v : Int} (h1 : Z L 0 (-1)) (h2 : Z L 0 (-2)) (h3 : Z L 0 (M' L 0 (-1))) (h4 : Z (L + 6) 0 (-1)) : Fj Z M (adM M' L v) := fun s j k z => by
  rw [adM_fr (fun a b => ⟨fun e => z (by rw [a, b, e]; exact h1), fun e => z (by rw [a, b, e]; exact h2), fun e => z (by rw [a, b, e]; exact h3)⟩) (fun a b e => z (by rw [a, b, e]; exact h4))]
  exact h s j k z
theorem Fj.m6 {Z : Nat → Int → Int → Prop} {M' : Mem} (h : Fj Z M M') {n a b c d : Int} (hz : ∀ (s : Nat) (k : Int), (s = 6 ∨ s = 36 ∨ s = 37) → Z s n k) : Fj Z M (M6 M' n a b c d) := fun s j k z => by
  unfold M6
  rw [if_neg (fun w => z (by rw [w.1, w.2]; exact hz 6 k (by decide))), if_neg (fun w => z (by rw [w.1, w.2]; exact hz 36 k (by decide))), if_neg (fun w => z (by rw [w.1, w.2]; exact hz 37 k (by decide)))]
  exact h s j k z
theorem rowL_15 {p : Int} (p0 : 0 ≤ p) (p2 : p ≤ 2) : ((rowL p : Nat) : Int) = 15 + p := by
  unfold rowL
  split
  · omega
  · split <;> omega
/-- what a new row writes on -/
def zRowQ (n m p : Int) (L : Nat) : Nat → Int → Int → Prop := fun s j k => s = 103 ∨ (s = 11 ∧ (k = 59 ∨ k = 8)) ∨ (s = 10 ∧ k = 10) ∨ ((s = 6 ∨ s = 36 ∨ s = 37) ∧ j = n) ∨ (s = L ∧ j = 0 ∧ (k = -1 ∨ k = -2 ∨ k = m)) ∨ (s = 13 ∧ j = 0 ∧ (k = -1 ∨ k = -2 ∨ k = n)) ∨ ((s = L + 6 ∨ s = 19) ∧ j = 0 ∧ k = -1) ∨ ((s = 60 ∨ s = 61 ∨ s = 62) ∧ j = 0 ∧ k = n) ∨ (s = 63 ∧ j = 0 ∧ k = 24 * p + m) ∨ (s = 64 ∧ j = 0 ∧ k = p)
theorem zrow_iv {κ' : Nat → Int} {F : Mem} (h : Iv T O κ M) {n m : Int} (en : n = T 11 0 8) (a0 : 0 ≤ p1) (a2 : p1 ≤ 2) (em : m = T 64 0 p1) (hmx : (p1 = 0 → m < 3) ∧ (p1 = 1 → m < 24) ∧ (p1 = 2 → m < 2)) (nC : 0 < T 11 0 4) (fr : Fj (zRowQ n m p1 (rowL p1)) M F) (v8 : F 11 0 8 = n + 1) (v6 : F 6 n 0 = n ∧ F 6 n 1 = p1 ∧ (p1 = 1 → F 6 n 2 = F 61 0 n ∧ F 6 n 3 = F 62 0 n) ∧ F 6 n 6 = m) (v36 : ∀ k, F 36 n k = 0) (v37 : ∀ k, 0 ≤ k → k < 6 → F 37 n k = -1) (vL : F (rowL p1) 0 (-1) = m + 1 ∧ F (rowL p1) 0 (-2) = m + 1 ∧ F (rowL p1) 0 m = n) (vLc : 0 ≤ F (rowL p1 + 6) 0 (-1) ∧ F (rowL p1 + 6) 0 (-1) ≤ 150) (v13 : F 13 0 (-1) = n + 1 ∧ F 13 0 (-2) = n + 1 ∧ F 13 0 n = n) (v19 : 0 ≤ F 19 0 (-1) ∧ F 19 0 (-1) ≤ 150) (v60 : F 60 0 n = p1) (v61 : 0 ≤ F 61 0 n ∧ F 61 0 n ≤ 9) (v62 : 0 ≤ F 62 0 n ∧ F 62 0 n ≤ 1) (v63 : F 63 0 (24 * p1 + m) = n) (v64 : F 64 0 p1 = m + 1) (v10 : F 10 0 10 = 1) (hκ : κ' 1 = κ 1 ∧ κ' 2 = κ 2 ∧ κ' 6 = κ 6 + 1) : Iv F O κ' F := by
  obtain ⟨hG, hL, hA, hO, hR, hK, hd, hp, hw, hb⟩ := h
  have hL15 := rowL_15 a0 a2
  obtain ⟨L, eL⟩ : ∃ L, L = rowL p1 := ⟨_, rfl⟩
  rw [← eL] at fr vL vLc hL15
  have hC := hG.nC
  obtain ⟨g1, g2, g3, g4, g5, g6, g7, g8, g9, g10, g11, g12⟩ := hG.n
  have hm0 := hG.many (p := 0) (by omega) (by omega)
  have hm1 := hG.many (p := 1) (by omega) (by omega)
  have hm2 := hG.many (p := 2) (by omega) (by omega)
  have hmm : 0 ≤ m ∧ m < 24 ∧ n < 29 := by
    rcases (by omega : p1 = 0 ∨ p1 = 1 ∨ p1 = 2) with rfl | rfl | rfl <;> omega
  have fF : ∀ (s : Nat) (j k : Int), zin s k = true → ¬ zRowQ n m p1 L s j k → F s j k = T s j k := fun s j k a b => (fr s j k b).trans (hA s j k a)
  have eS : ∀ s : Nat, (s = 1 ∨ s = 2 ∨ s = 12 ∨ s = 14 ∨ s = 18 ∨ s = 20 ∨ s = 25 ∨ s = 26 ∨ s = 33 ∨ (56 ≤ s ∧ s ≤ 59) ∨ (65 ≤ s ∧ s ≤ 76)) → F s = T s := fun s hs => funext fun j => funext fun k => fF s j k (by
    simp only [zin, Bool.or_eq_true, Bool.and_eq_true, decide_eq_true_eq]
    omega) (by unfold zRowQ; omega)
  have f11 : ∀ k, (k = 4 ∨ k = 15 ∨ k = 24 ∨ k = 25 ∨ k = 26) → F 11 0 k = T 11 0 k := fun k hk => fF 11 0 k (by rcases hk with rfl | rfl | rfl | rfl | rfl <;> rfl) (by unfold zRowQ; omega)
  have f10 : ∀ k, (k = 7 ∨ k = 8 ∨ k = 9) → F 10 0 k = T 10 0 k := fun k hk => fF 10 0 k (by rcases hk with rfl | rfl | rfl <;> rfl) (by unfold zRowQ; omega)
  have f6 : ∀ j k, j ≠ n → F 6 j k = T 6 j k := fun j k hj => fF 6 j k rfl (by unfold zRowQ; omega)
  have f37 : ∀ j k, j ≠ n → F 37 j k = T 37 j k := fun j k hj => fF 37 j k rfl (by unfold zRowQ; omega)
  have f60 : ∀ k, k ≠ n → F 60 0 k = T 60 0 k := fun k hk => fF 60 0 k rfl (by unfold zRowQ; omega)
  have f61 : ∀ k, k ≠ n → F 61 0 k = T 61 0 k := fun k hk => fF 61 0 k rfl (by unfold zRowQ; omega)
  have f62 : ∀ k, k ≠ n → F 62 0 k = T 62 0 k := fun k hk => fF 62 0 k rfl (by unfold zRowQ; omega)
  have f63 : ∀ k, k ≠ 24 * p1 + m → F 63 0 k = T 63 0 k := fun k hk => fF 63 0 k rfl (by unfold zRowQ; omega)
  have f64 : ∀ k, k ≠ p1 → F 64 0 k = T 64 0 k := fun k hk => fF 64 0 k rfl (by unfold zRowQ; omega)
  have f13 : ∀ k, 0 ≤ k → k ≠ n → F 13 0 k = T 13 0 k := fun k k0 hk => fF 13 0 k rfl (by unfold zRowQ; omega)
  have fLk : ∀ k, 0 ≤ k → k ≠ m → F L 0 k = T L 0 k := fun k k0 hk => fF L 0 k (by
    simp only [zin, Bool.or_eq_true, Bool.and_eq_true, decide_eq_true_eq]
    omega) (by unfold zRowQ; omega)
  have fLo : ∀ s : Nat, 15 ≤ s → s ≤ 17 → s ≠ L → F s = T s := fun s s0 s1 hs => funext fun j => funext fun k => fF s j k (by
    simp only [zin, Bool.or_eq_true, Bool.and_eq_true, decide_eq_true_eq]
    omega) (by unfold zRowQ; omega)
  have fLo6 : ∀ s : Nat, 21 ≤ s → s ≤ 23 → s ≠ L + 6 → F s = T s := fun s s0 s1 hs => funext fun j => funext fun k => fF s j k (by
    simp only [zin, Bool.or_eq_true, Bool.and_eq_true, decide_eq_true_eq]
    omega) (by unfold zRowQ; omega)
  have c4 := f11 4 (by decide)
  have c15 := f11 15 (by decide)
  have e65 := eS 65 (by decide)
  have e67 := eS 67 (by decide)
  have e69 := eS 69 (by decide)
  -- many rows of a part
  have h64 : ∀ p, 0 ≤ p → p ≤ 2 → (p = p1 ∧ F 64 0 p = T 64 0 p + 1) ∨ (p ≠ p1 ∧ F 64 0 p = T 64 0 p) := fun p p0 p2 => by
    by_cases e : p = p1
    · exact Or.inl ⟨e, by rw [e, v64, em]⟩
    · exact Or.inr ⟨e, f64 p e⟩
  have hle : ∀ p, 0 ≤ p → p ≤ 2 → T 64 0 p ≤ F 64 0 p := fun p p0 p2 => by
    rcases h64 p p0 p2 with a | a <;> omega
  have gO : zGO F := by
    intro p k p0 p2 k0 k1
    rw [v8]
    by_cases e : p = p1 ∧ k = m
    · rw [e.1, e.2, v63, v60, v6.2.2.2]
      exact ⟨⟨by omega, by omega⟩, rfl, rfl⟩
    · have k2 : k < T 64 0 p := by
        rcases h64 p p0 p2 with ⟨a, b⟩ | ⟨a, b⟩
        · have : T 64 0 p = m := by rw [a, em]
          omega
        · omega
      have hmp := hG.many p0 p2
      obtain ⟨x, y, z⟩ := hG.ord p k p0 p2 k0 k2
      rw [f63 _ (by omega), f60 _ (by omega), f6 _ _ (by omega)]
      exact ⟨⟨by omega, by omega⟩, y, z⟩
  have gR : zGR F := by
    intro r r0 r1
    rw [v8] at r1
    by_cases e : r = n
    · rw [e, v60, v6.2.2.2, v63, v64]
      exact ⟨⟨by omega, by omega⟩, v61, v62, ⟨by omega, by omega⟩, rfl⟩
    · obtain ⟨a, b, d, x, y⟩ := hG.row r r0 (by omega)
      have hmp := hG.many a.1 a.2
      have := hle _ a.1 a.2
      have hne : ¬ 24 * T 60 0 r + T 6 r 6 = 24 * p1 + m := fun z => by
        have e1 : T 60 0 r = p1 := by omega
        rw [e1] at x
        omega
      rw [f60 r e, f61 r e, f62 r e, f6 r 6 e, f63 _ hne]
      exact ⟨a, b, d, ⟨by omega, by omega⟩, y⟩
  have hG' : Good F := by
    refine ⟨?_, ?_, ?_, gR, gO, ?_, ?_, ?_, ?_, trivial⟩
    · unfold zG0
      rw [c4, v8, c15, f11 24 (by decide), f11 25 (by decide), f11 26 (by decide)]
      have k0 := h64 0 (by omega) (by omega)
      have k1 := h64 1 (by omega) (by omega)
      have k2 := h64 2 (by omega) (by omega)
      refine ⟨g1, ⟨by omega, by omega⟩, g3, g4, g5, g6, trivial, ?_⟩
      rcases (by omega : p1 = 0 ∨ p1 = 1 ∨ p1 = 2) with rfl | rfl | rfl
      · have e0 : F 64 0 0 = T 64 0 0 + 1 := by omega
        have e1 : F 64 0 1 = T 64 0 1 := by omega
        have e2 : F 64 0 2 = T 64 0 2 := by omega
        have := hmx.1 rfl
        rw [e0, e1, e2]
        exact ⟨by omega, g9, g10, by omega, fun z => by omega⟩
      · have e0 : F 64 0 0 = T 64 0 0 := by omega
        have e1 : F 64 0 1 = T 64 0 1 + 1 := by omega
        have e2 : F 64 0 2 = T 64 0 2 := by omega
        have := hmx.2.1 rfl
        rw [e0, e1, e2]
        exact ⟨g8, by omega, g10, by omega, fun z => by omega⟩
      · have e0 : F 64 0 0 = T 64 0 0 := by omega
        have e1 : F 64 0 1 = T 64 0 1 := by omega
        have e2 : F 64 0 2 = T 64 0 2 + 1 := by omega
        have := hmx.2.2 rfl
        rw [e0, e1, e2]
        exact ⟨g8, g9, by omega, by omega, fun z => by omega⟩
    · have := hG.col
      unfold zGC at this ⊢
      rw [c4, eS 56 (by decide), eS 57 (by decide), eS 58 (by decide), eS 59 (by decide)]; exact this
    · have := hG.vis
      unfold zGV at this ⊢
      rw [c4, eS 58 (by decide), eS 59 (by decide)]; exact this
    · unfold zGK
      rw [c4, c15, v8, e65, eS 66 (by decide), e67, eS 68 (by decide), eS 72 (by decide), eS 73 (by decide), eS 74 (by decide), eS 75 (by decide), eS 76 (by decide)]
      intro c c0 c1
      obtain ⟨w1, w2, w3, w4, w5, w6⟩ := hG.cell c c0 c1
      obtain ⟨x1, -⟩ := hG.row _ w1.1 w1.2
      have := hle _ x1.1 x1.2
      rw [f6 _ _ (by omega), f60 _ (by omega)]
      exact ⟨⟨by omega, by omega⟩, w2, w3, w4, by omega, w6⟩
    · have := hG.word
      unfold zGW at this ⊢
      rw [c15, eS 70 (by decide), eS 71 (by decide), eS 72 (by decide)]; exact this
    · unfold zGP
      rw [c15, v8, e65, eS 66 (by decide), e67, eS 68 (by decide), e69]
      intro r k r0 r1 k0 k1
      by_cases e : r = n
      · have z := hw.2 r k (by omega) (by omega) k0 k1
        rw [z]
        exact ⟨⟨by omega, by omega⟩, fun w => by omega⟩
      · obtain ⟨a, b⟩ := hG.pl r k r0 (by omega) k0 k1
        refine ⟨a, fun hx => ?_⟩
        obtain ⟨b1, b2, b3⟩ := b hx
        obtain ⟨w1, -⟩ := hG.cell (T 69 0 (6 * r + k) - 1) (by omega) (by omega)
        rw [f60 r e, f60 _ (by omega), f6 r 6 e, f6 _ 6 (by omega)]
        exact ⟨b1, b2, b3⟩
    · unfold zGQ
      rw [c15, v8, e65, eS 66 (by decide), e67, eS 68 (by decide), e69]
      intro c r k c0 c1 r0 r1 er x y u v
      obtain ⟨w1, w2, w3, w4, w5, w6⟩ := hG.cell c c0 c1
      rw [f60 (T 65 0 c) (by omega)] at er
      rw [f6 (T 65 0 c) 6 (by omega)] at x y
      by_cases e : r = n
      · rw [e, v60] at er
        rw [e, v6.2.2.2] at x y
        rw [← er, ← em] at w5
        omega
      · rw [f60 r e] at er
        rw [f6 r 6 e] at x y
        exact hG.pq c r k c0 c1 r0 (by omega) er x y u v
  have hL' : zLk F := by
    obtain ⟨h1, h2, h3, h4, h5, h6, h7, h8⟩ := hL
    have es : zsh F = zsh T := funext fun k => by unfold zsh; rw [eS 59 (by decide)]
    have es2 : zshows F = zshows T := funext fun c => by unfold zshows; rw [es, eS 66 (by decide), eS 68 (by decide)]
    refine ⟨⟨by rw [eS 12 (by decide), c4]; exact h1.1, by rw [v13.1, v8], by rw [eS 14 (by decide), c15]; exact h1.2.2⟩, ?_, ?_, ?_, ?_, ?_, ?_, trivial⟩
    · rw [c4, eS 12 (by decide), eS 2 (by decide), eS 56 (by decide), eS 57 (by decide), eS 58 (by decide)]; exact h2
    · rw [v8, e69]
      intro r r0 r1
      by_cases e : r = n
      · rw [e]
        refine ⟨v13.2.2, v6.1, by rw [v6.2.1, v60], fun z => v6.2.2.1 (by rw [← v60]; exact z), fun k k0 k1 => ?_⟩
        rw [v37 k k0 k1, hw.2 n k (by omega) (by omega) k0 k1]
        rfl
      · obtain ⟨x1, x2, x3, x4, x5⟩ := h3 r r0 (by omega)
        rw [f13 r r0 e, f6 r _ e, f6 r _ e, f6 r _ e, f6 r _ e, f60 r e, f61 r e, f62 r e]
        exact ⟨x1, x2, x3, x4, fun k k0 k1 => by rw [f37 r k e]; exact x5 k k0 k1⟩
    · rw [es2, c15, eS 14 (by decide), eS 1 (by decide), e65, eS 66 (by decide), e67, eS 68 (by decide), eS 72 (by decide), eS 73 (by decide), eS 74 (by decide), eS 75 (by decide), eS 76 (by decide), eS 25 (by decide), eS 26 (by decide), eS 70 (by decide), eS 71 (by decide)]; exact h4
    · intro p p0 p2
      obtain ⟨y1, y2⟩ := h5 p p0 p2
      have hmp := hG.many p0 p2
      by_cases e : p = p1
      · have eLp : rowL p = L := by rw [e, eL]
        rw [eLp] at y1 y2 ⊢
        rw [e, v64]
        refine ⟨vL.1, fun k k0 k1 => ?_⟩
        by_cases ek : k = m
        · rw [ek, vL.2.2, v63]
        · have km : k < T 64 0 p := by rw [e, ← em]; omega
          rw [fLk k k0 ek, f63 _ (by omega), ← e]
          exact y2 k k0 km
      · have h15 := rowL_15 p0 p2
        have eLp : F (rowL p) = T (rowL p) := fLo _ (by omega) (by omega) (fun z => by omega)
        rw [eLp, f64 p e]
        refine ⟨y1, fun k k0 k1 => ?_⟩
        rw [f63 _ (by omega)]
        exact y2 k k0 k1
    · rw [c4, eS 33 (by decide), es]; exact h6
    · rw [f10 7 (by decide), f10 8 (by decide), f10 9 (by decide), f11 24 (by decide), f11 25 (by decide), f11 26 (by decide)]; exact h7
  have fM : ∀ (s : Nat) (j k : Int), ((96 ≤ s ∧ s ≤ 102) ∨ (s = 11 ∧ (k = 54 ∨ k = 58 ∨ k = 30)) ∨ (j = 1 ∧ (s = 7 ∨ (38 ≤ s ∧ s ≤ 44))) ∨ s = 24 ∨ s = 27 ∨ (77 ≤ s ∧ s ≤ 79) ∨ s = 4) → F s j k = M s j k := fun s j k z => fr s j k (by unfold zRowQ; omega)
  have hR' := hR.fr (N := F) (fun s j k a b => fM s j k (by omega)) (fM 11 0 54 (by omega)) (fM 11 0 58 (by omega))
  refine ⟨hG', hL', Ag.rf F, ⟨hO.1, hO.2.1, hO.2.2.1, by rw [c4]; exact hO.2.2.2⟩, by unfold zOR at hR' ⊢; rw [c4]; exact hR', hK.fr (fun s k a => fM s 1 k (by omega)), fun z => by omega, ?_, ?_, ?_⟩
  · refine ⟨⟨by rw [hκ.1, c15]; exact hp.1.1, by rw [hκ.2.1, c4]; exact hp.1.2.1, by rw [hκ.2.2, v8, hp.1.2.2, en]⟩, fun s s0 s1 => ?_⟩
    have := hp.2 s s0 s1
    by_cases e : s = L
    · rw [e]
      exact ⟨by rw [vL.1, vL.2.1], vLc⟩
    · by_cases e3 : s = 13
      · rw [e3]
        exact ⟨by rw [v13.1, v13.2.1], v19⟩
      · by_cases e15 : 15 ≤ s
        · rw [fLo s e15 s1 e, fLo6 (s + 6) (by omega) (by omega) (by omega)]; exact this
        · rw [eS s (by omega), eS (s + 6) (by omega)]; exact this
  · unfold zNW
    rw [c15, v8, eS 72 (by decide), eS 73 (by decide), eS 74 (by decide), eS 75 (by decide), eS 76 (by decide), e69]
    exact ⟨hw.1, fun r k r0 r1 k0 k1 => hw.2 r k (by omega) r1 k0 k1⟩
  · obtain ⟨x1, x2, x3, x4, x5, x6, x7⟩ := hb
    unfold zBR
    rw [c4, v8, c15]
    refine ⟨by rw [fM 11 0 30 (by omega), fM 4 0 7 (by omega)]; exact x1, fun c k c0 c1 k0 k1 => by rw [fM 24 c k (by omega), fM 77 0 _ (by omega)]; exact x2 c k c0 c1 k0 k1, fun r k r0 r1 k0 k1 => ?_, fun c k c0 c1 k0 k1 => by rw [fM 27 c k (by omega), fM 79 0 _ (by omega)]; exact x4 c k c0 c1 k0 k1, fun q q0 q1 => by rw [fM 77 0 q (by omega)]; exact x5 q q0 q1, fun q q0 q1 => ?_, fun q q0 q1 => by rw [fM 79 0 q (by omega)]; exact x7 q q0 q1⟩
    · rw [fM 78 0 _ (by omega)]
      by_cases e : r = n
      · rw [e, v36, (x6 (4 * n + k) (by omega) (by omega)).2 (by omega)]
      · rw [fr 36 r k (by unfold zRowQ; omega)]
        exact x3 r k r0 (by omega) k0 k1
    · rw [fM 78 0 q (by omega)]
      exact ⟨(x6 q q0 q1).1, fun z => (x6 q q0 q1).2 (by omega)⟩
theorem k_isFull (hL : zLk T) (hA : Ag T M) (a0 : 0 ≤ p1) (a2 : p1 ≤ 2) {Qm : Int → Mem → Prop} (hy : mrpI p1 ≤ T 64 0 p1 → Qm 1 M) (hn : T 64 0 p1 < mrpI p1 → Qm 0 M) : wp_X3_isFull p1 M Qm := by
  have e : M (rowL p1) 0 (-1) = T 64 0 p1 := by
    have h15 := rowL_15 a0 a2
    rw [hA (rowL p1) 0 (-1) (by
      simp only [zin, Bool.or_eq_true, Bool.and_eq_true, decide_eq_true_eq]
      omega)]
    exact (hL.part a0 a2).1
  refine ⟨fun z => absurd z (by omega), fun _ => ⟨fun z => absurd z (by omega), fun _ => ⟨⟨by omega, by omega⟩, ?_⟩⟩⟩
  rw [e]
  by_cases z : T 64 0 p1 < mrpI p1
  · rw [if_pos z]; exact ⟨bit_0, hn z⟩
  · rw [if_neg z]; exact ⟨bit_1, hy (by omega)⟩
theorem mrpI_e (p : Int) : (if ¬ p = 0 then (if ¬ p = 1 then (2 : Int) else 24) else 3) = mrpI p := by
  unfold mrpI
  by_cases a : p = 0
  · rw [if_neg (fun z => z a), if_pos a]
  · rw [if_pos a, if_neg a]
    by_cases b : p = 1
    · rw [if_neg (fun z => z b), if_pos b]
    · rw [if_pos b, if_neg b]
end ZG
