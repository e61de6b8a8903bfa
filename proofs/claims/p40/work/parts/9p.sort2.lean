/-! the pure part: sort in the reference, and the call -/
section ZD
variable {T M : Mem} {O : zSt} {κ : Nat → Int} {K : (Nat → Int) → Mem → Prop} {p1 p2 : Int}
def zZ63 : Nat → Int → Int → Prop := fun s j k => s = 63 ∧ j = 0 ∧ 24 ≤ k ∧ k < 48
theorem zAh.z63 {N : Mem} (hx : zAh T M) (f : Fj zZ63 M N) : zAh T N := hx.fj f (fun s j k z => Or.inr (Or.inl z.1))
/-- what the reference's sorting writes on -/
def zZS : Nat → Int → Int → Prop := fun s j k => (s = 63 ∧ j = 0 ∧ 24 ≤ k ∧ k < 48) ∨ s = 85
theorem zAh.zs {N : Mem} (hx : zAh T M) (f : Fj zZS M N) : zAh T N := hx.fj f (fun s j k z => by unfold zZS at z; omega)
/-- what a sort writes on -/
def zSQ : Nat → Int → Int → Prop := fun s j k => s = 103 ∨ (s = 11 ∧ k = 59) ∨ s = 85 ∨ (s = 10 ∧ k = 10) ∨ (s = 16 ∧ j = 0 ∧ 0 ≤ k) ∨ (s = 6 ∧ k = 6) ∨ (s = 63 ∧ j = 0 ∧ 24 ≤ k ∧ k < 48)
/-- a new memory, columns, rows and cells as many as before -/
theorem Iv.nx {T' M' : Mem} (h : Iv T O κ M) (e : T' 11 0 4 = T 11 0 4 ∧ T' 11 0 8 = T 11 0 8 ∧ T' 11 0 15 = T 11 0 15) (hG' : Good T') (hL' : zLk T') (hA' : Ag T' M') (hp' : zKp κ T') (hw' : zNW T') (fr : ∀ (s : Nat) (j k : Int), ((96 ≤ s ∧ s ≤ 102) ∨ (s = 11 ∧ (k = 54 ∨ k = 58 ∨ k = 30)) ∨ (j = 1 ∧ (s = 7 ∨ (38 ≤ s ∧ s ≤ 44))) ∨ s = 24 ∨ s = 27 ∨ s = 36 ∨ (77 ≤ s ∧ s ≤ 79) ∨ s = 4) → M' s j k = M s j k) (h10 : ¬ M' 10 0 10 = 0) : Iv T' O κ M' := by
  obtain ⟨hG, hL, hA, hO, hR, hK, hd, hp, hw, hb⟩ := h
  obtain ⟨f4, f8, f15⟩ := e
  have hR' := hR.fr (N := M') (fun s j k a b => fr s j k (by omega)) (fr 11 0 54 (by omega)) (fr 11 0 58 (by omega))
  exact ⟨hG', hL', hA', ⟨hO.1, hO.2.1, hO.2.2.1, by rw [f4]; exact hO.2.2.2⟩, by unfold zOR at hR' ⊢; rw [f4]; exact hR', hK.fr (fun s k a => fr s 1 k (by omega)), fun z => absurd z h10, hp', hw', hb.fr f4 f8 f15 (fr 11 0 30 (by omega)) (fr 4 0 7 (by omega)) (fun j k => fr 24 j k (by omega)) (fun j k => fr 27 j k (by omega)) (fun j k => fr 36 j k (by omega)) (fun k => fr 77 0 k (by omega)) (fun k => fr 78 0 k (by omega)) (fun k => fr 79 0 k (by omega))⟩
/-- sorted -/
theorem zsort_good {F : Mem} (hG : Good T) (hL : zLk T) (hA : Ag T M) (hp : zKp κ T) (hw : zNW T) (fr : Fj zSQ M F) {B : Int → Int} (hP : zPm T B) (h16 : ∀ i, 0 ≤ i → i < T 64 0 1 → F 16 0 i = B i) (h63 : ∀ i, 0 ≤ i → i < T 64 0 1 → F 63 0 (24 + i) = B i) (h6 : ∀ i, 0 ≤ i → i < T 64 0 1 → F 6 (B i) 6 = i) (h6n : ∀ r, ¬ T 60 0 r = 1 → F 6 r 6 = T 6 r 6) (hone : ∀ c, 0 ≤ c → c < T 11 0 15 → T 60 0 (T 65 0 c) = 1 → T 67 0 c ≤ 1) : (F 11 0 4 = T 11 0 4 ∧ F 11 0 8 = T 11 0 8 ∧ F 11 0 15 = T 11 0 15) ∧ Good F ∧ zLk F ∧ zKp κ F ∧ zNW F := by
  have hm0 := hG.many (p := 0) (by omega) (by omega)
  have hm1 := hG.many (p := 1) (by omega) (by omega)
  have hm2 := hG.many (p := 2) (by omega) (by omega)
  have fF : ∀ (s : Nat) (j k : Int), zin s k = true → ¬ zSQ s j k → F s j k = T s j k := fun s j k a b => (fr s j k b).trans (hA s j k a)
  have eS : ∀ s : Nat, (s = 1 ∨ s = 2 ∨ (12 ≤ s ∧ s ≤ 15) ∨ (17 ≤ s ∧ s ≤ 23) ∨ s = 25 ∨ s = 26 ∨ s = 33 ∨ s = 37 ∨ (56 ≤ s ∧ s ≤ 62) ∨ (64 ≤ s ∧ s ≤ 76)) → F s = T s := fun s hs => funext fun j => funext fun k => fF s j k (by
    simp only [zin, Bool.or_eq_true, Bool.and_eq_true, decide_eq_true_eq]
    omega) (by unfold zSQ; omega)
  have f11 : ∀ k, (k = 4 ∨ k = 8 ∨ k = 15 ∨ k = 24 ∨ k = 25 ∨ k = 26) → F 11 0 k = T 11 0 k := fun k hk => fF 11 0 k (by rcases hk with rfl | rfl | rfl | rfl | rfl | rfl <;> rfl) (by unfold zSQ; omega)
  have f10 : ∀ k, (k = 7 ∨ k = 8 ∨ k = 9) → F 10 0 k = T 10 0 k := fun k hk => fF 10 0 k (by rcases hk with rfl | rfl | rfl <;> rfl) (by unfold zSQ; omega)
  have f63 : ∀ k, (k < 24 ∨ 48 ≤ k) → F 63 0 k = T 63 0 k := fun k hk => fF 63 0 k rfl (by unfold zSQ; omega)
  have f6 : ∀ r k, k ≠ 6 → F 6 r k = T 6 r k := fun r k hk => fF 6 r k rfl (by unfold zSQ; omega)
  have f16 : ∀ k, k < 0 → F 16 0 k = T 16 0 k := fun k hk => fF 16 0 k rfl (by unfold zSQ; omega)
  have e60 := eS 60 (by decide)
  have e64 := eS 64 (by decide)
  have e65 := eS 65 (by decide)
  have e67 := eS 67 (by decide)
  have c4 := f11 4 (by decide)
  have c8 := f11 8 (by decide)
  have c15 := f11 15 (by decide)
  -- where body rows stand
  have hpos : ∀ r, 0 ≤ r → r < T 11 0 8 → T 60 0 r = 1 → (0 ≤ F 6 r 6 ∧ F 6 r 6 < T 64 0 1) ∧ B (F 6 r 6) = r := fun r r0 r1 er => by
    obtain ⟨i, hi, ei⟩ := hP.2.2 r r0 r1 er
    have := h6 i hi.1 hi.2
    rw [ei] at this
    rw [this]
    exact ⟨hi, ei⟩
  have hinj : ∀ r q, 0 ≤ r → r < T 11 0 8 → 0 ≤ q → q < T 11 0 8 → T 60 0 r = T 60 0 q → F 6 r 6 = F 6 q 6 → r = q := fun r q r0 r1 q0 q1 e e6 => by
    by_cases z : T 60 0 r = 1
    · have a := (hpos r r0 r1 z).2
      have b := (hpos q q0 q1 (by omega)).2
      rw [e6] at a
      omega
    · rw [h6n r z, h6n q (by omega)] at e6
      obtain ⟨-, -, -, -, a⟩ := hG.row r r0 r1
      obtain ⟨-, -, -, -, b⟩ := hG.row q q0 q1
      rw [← a, ← b, e, e6]
  have gO : zGO F := by
    unfold zGO
    rw [e60, e64, c8]
    intro p k p0 p2 k0 k1
    rcases (by omega : p = 0 ∨ p = 1 ∨ p = 2) with rfl | rfl | rfl
    · obtain ⟨a, b, d⟩ := hG.ord 0 k p0 p2 k0 k1
      rw [f63 _ (by omega), h6n _ (by omega)]
      exact ⟨a, b, d⟩
    · rw [show (24 : Int) * 1 + k = 24 + k by omega, h63 k k0 k1, h6 k k0 k1]
      exact ⟨(hP.1 k k0 k1).1, (hP.1 k k0 k1).2, rfl⟩
    · obtain ⟨a, b, d⟩ := hG.ord 2 k p0 p2 k0 k1
      rw [f63 _ (by omega), h6n _ (by omega)]
      exact ⟨a, b, d⟩
  have gR : zGR F := by
    unfold zGR
    rw [e60, eS 61 (by decide), eS 62 (by decide), e64, c8]
    intro r r0 r1
    obtain ⟨a, b, d, x, y⟩ := hG.row r r0 r1
    refine ⟨a, b, d, ?_⟩
    by_cases z : T 60 0 r = 1
    · obtain ⟨u, v⟩ := hpos r r0 r1 z
      rw [z, show (24 : Int) * 1 + F 6 r 6 = 24 + F 6 r 6 by omega, h63 _ u.1 u.2]
      exact ⟨u, v⟩
    · have hmm := hG.many a.1 a.2
      rw [h6n r z, f63 _ (by omega)]
      exact ⟨x, y⟩
  have gK : zGK F := by
    unfold zGK
    rw [c4, c8, c15, e60, e64, e65, eS 66 (by decide), e67, eS 68 (by decide), eS 72 (by decide), eS 73 (by decide), eS 74 (by decide), eS 75 (by decide), eS 76 (by decide)]
    intro c c0 c1
    obtain ⟨w1, w2, w3, w4, w5, w6⟩ := hG.cell c c0 c1
    refine ⟨w1, w2, w3, w4, ?_, w6⟩
    by_cases z : T 60 0 (T 65 0 c) = 1
    · have := (hpos _ w1.1 w1.2 z).1
      have := hone c c0 c1 z
      rw [z]; omega
    · rw [h6n _ z]; exact w5
  have hG' : Good F := by
    refine ⟨?_, ?_, ?_, gR, gO, gK, ?_, ?_, ?_, trivial⟩
    · have := hG.n
      unfold zG0 at this ⊢
      rw [c4, c8, c15, f11 24 (by decide), f11 25 (by decide), f11 26 (by decide), e64]; exact this
    · have := hG.col
      unfold zGC at this ⊢
      rw [c4, eS 56 (by decide), eS 57 (by decide), eS 58 (by decide), eS 59 (by decide)]; exact this
    · have := hG.vis
      unfold zGV at this ⊢
      rw [c4, eS 58 (by decide), eS 59 (by decide)]; exact this
    · have := hG.word
      unfold zGW at this ⊢
      rw [c15, eS 70 (by decide), eS 71 (by decide), eS 72 (by decide)]; exact this
    · unfold zGP
      rw [c8, c15, eS 69 (by decide), e60, e65, e67, eS 66 (by decide), eS 68 (by decide)]
      intro r k r0 r1 k0 k1
      obtain ⟨a, b⟩ := hG.pl r k r0 r1 k0 k1
      refine ⟨a, fun hx => ?_⟩
      obtain ⟨b1, b2, b3⟩ := b hx
      refine ⟨b1, ?_, b3⟩
      obtain ⟨w1, w2, w3, w4, w5, w6⟩ := hG.cell (T 69 0 (6 * r + k) - 1) (by omega) (by omega)
      by_cases z : T 60 0 r = 1
      · have h1 := hone (T 69 0 (6 * r + k) - 1) (by omega) (by omega) (by omega)
        have e : T 6 r 6 = T 6 (T 65 0 (T 69 0 (6 * r + k) - 1)) 6 := by omega
        obtain ⟨-, -, -, -, x⟩ := hG.row r r0 r1
        obtain ⟨-, -, -, -, y⟩ := hG.row _ w1.1 w1.2
        have er : r = T 65 0 (T 69 0 (6 * r + k) - 1) := by
          rw [← b1, ← e, x] at y
          exact y
        have e6 : F 6 r 6 = F 6 (T 65 0 (T 69 0 (6 * r + k) - 1)) 6 := congrArg (fun q => F 6 q 6) er
        omega
      · rw [h6n r z, h6n _ (by omega)]
        exact b2
    · unfold zGQ
      rw [c8, c15, eS 69 (by decide), e60, e65, e67, eS 66 (by decide), eS 68 (by decide)]
      intro c r k c0 c1 r0 r1 er a b d g
      obtain ⟨w1, w2, w3, w4, w5, w6⟩ := hG.cell c c0 c1
      by_cases z : T 60 0 r = 1
      · have h1 := hone c c0 c1 (by omega)
        have e6 : F 6 r 6 = F 6 (T 65 0 c) 6 := by omega
        have e := hinj r (T 65 0 c) r0 r1 w1.1 w1.2 er e6
        exact hG.pq c r k c0 c1 r0 r1 er (by rw [e]; omega) (by rw [e]; omega) d g
      · rw [h6n r z, h6n _ (by omega)] at a b
        exact hG.pq c r k c0 c1 r0 r1 er a b d g
  refine ⟨⟨c4, c8, c15⟩, hG', ?_, ?_, ?_⟩
  · obtain ⟨h1, h2, h3, h4, h5, h6', h7, h8⟩ := hL
    have es : zshows F = zshows T := funext fun c => by
      have : zsh F = zsh T := funext fun k => by unfold zsh; rw [eS 59 (by decide)]
      unfold zshows
      rw [this, eS 66 (by decide), eS 68 (by decide)]
    refine ⟨?_, ?_, ?_, ?_, ?_, ?_, ?_, trivial⟩
    · rw [c4, c8, c15, eS 12 (by decide), eS 13 (by decide), eS 14 (by decide)]; exact h1
    · rw [c4, eS 12 (by decide), eS 2 (by decide), eS 56 (by decide), eS 57 (by decide), eS 58 (by decide)]; exact h2
    · rw [c8, eS 13 (by decide), e60, eS 61 (by decide), eS 62 (by decide), eS 37 (by decide), eS 69 (by decide)]
      intro r r0 r1
      rw [f6 r 0 (by decide), f6 r 1 (by decide), f6 r 2 (by decide), f6 r 3 (by decide)]
      exact h3 r r0 r1
    · rw [es, c15, eS 14 (by decide), eS 1 (by decide), e65, eS 66 (by decide), e67, eS 68 (by decide), eS 72 (by decide), eS 73 (by decide), eS 74 (by decide), eS 75 (by decide), eS 76 (by decide), eS 25 (by decide), eS 26 (by decide), eS 70 (by decide), eS 71 (by decide)]; exact h4
    · intro p p0 p1
      rw [e64]
      rcases (by omega : p = 0 ∨ p = 1 ∨ p = 2) with rfl | rfl | rfl
      · have := h5 0 p0 p1
        show F 15 0 (-1) = T 64 0 0 ∧ ∀ k, 0 ≤ k → k < T 64 0 0 → F 15 0 k = F 63 0 (24 * 0 + k)
        rw [eS 15 (by decide)]
        exact ⟨this.1, fun k k0 k1 => by rw [f63 _ (by omega)]; exact this.2 k k0 k1⟩
      · have := h5 1 p0 p1
        show F 16 0 (-1) = T 64 0 1 ∧ ∀ k, 0 ≤ k → k < T 64 0 1 → F 16 0 k = F 63 0 (24 * 1 + k)
        exact ⟨by rw [f16 _ (by decide)]; exact this.1, fun k k0 k1 => by rw [show (24 : Int) * 1 + k = 24 + k by omega, h16 k k0 k1, h63 k k0 k1]⟩
      · have := h5 2 p0 p1
        show F 17 0 (-1) = T 64 0 2 ∧ ∀ k, 0 ≤ k → k < T 64 0 2 → F 17 0 k = F 63 0 (24 * 2 + k)
        rw [eS 17 (by decide)]
        exact ⟨this.1, fun k k0 k1 => by rw [f63 _ (by omega)]; exact this.2 k k0 k1⟩
    · have : zsh F = zsh T := funext fun k => by unfold zsh; rw [eS 59 (by decide)]
      rw [c4, eS 33 (by decide), this]; exact h6'
    · rw [f10 7 (by decide), f10 8 (by decide), f10 9 (by decide), f11 24 (by decide), f11 25 (by decide), f11 26 (by decide)]; exact h7
  · refine ⟨by rw [c4, c8, c15]; exact hp.1, fun s s0 s1 => ?_⟩
    have := hp.2 s s0 s1
    rw [eS (s + 6) (by omega)]
    by_cases e : s = 16
    · subst e
      rw [f16 _ (by decide), f16 _ (by decide)]; exact this
    · rw [eS s (by omega)]; exact this
  · unfold zNW at hw ⊢
    rw [c8, c15, eS 72 (by decide), eS 73 (by decide), eS 74 (by decide), eS 75 (by decide), eS 76 (by decide), eS 69 (by decide)]; exact hw
end ZD
