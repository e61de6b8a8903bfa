/-! the pure part: the row beside, in the class -/
section VA
variable {T M : Mem}
/-- the row that stands at a place of the whole table, or none -/
def zRA (T : Mem) (a : Int) : Int := if a < 0 then -1 else if a < T 64 0 0 then T 63 0 a else if a < T 64 0 0 + T 64 0 1 then T 63 0 (24 + (a - T 64 0 0)) else if a < T 64 0 0 + T 64 0 1 + T 64 0 2 then T 63 0 (48 + (a - T 64 0 0 - T 64 0 1)) else -1
/-- where the rows of a part begin -/
def zoff (T : Mem) (p : Int) : Int := if p = 0 then 0 else if p = 1 then T 64 0 0 else T 64 0 0 + T 64 0 1
theorem k_rowStandingAt (hG : Good T) (hL : zLk T) (hA : Ag T M) {a : Int} (a0 : -100 ≤ a) (a1 : a ≤ 100) {Qm : Int → Mem → Prop} (hq : Qm (zRA T a) M) : wp_X3_rowStandingAt a M Qm := by
  have x15 := hA.s15
  have x16 := hA.s16
  have x17 := hA.s17
  have x6 := hA.s6
  obtain ⟨h0, g0⟩ := hL.part (p := 0) (by omega) (by omega)
  obtain ⟨h1, g1⟩ := hL.part (p := 1) (by omega) (by omega)
  obtain ⟨h2, g2⟩ := hL.part (p := 2) (by omega) (by omega)
  have h0 : T 15 0 (-1) = T 64 0 0 := h0
  have h1 : T 16 0 (-1) = T 64 0 1 := h1
  have h2 : T 17 0 (-1) = T 64 0 2 := h2
  have g0 : ∀ k, 0 ≤ k → k < T 64 0 0 → T 15 0 k = T 63 0 (24 * 0 + k) := g0
  have g1 : ∀ k, 0 ≤ k → k < T 64 0 1 → T 16 0 k = T 63 0 (24 * 1 + k) := g1
  have g2 : ∀ k, 0 ≤ k → k < T 64 0 2 → T 17 0 k = T 63 0 (24 * 2 + k) := g2
  have m0 := hG.many (p := 0) (by omega) (by omega)
  have m1 := hG.many (p := 1) (by omega) (by omega)
  have m2 := hG.many (p := 2) (by omega) (by omega)
  have nr : ∀ p k, 0 ≤ p → p ≤ 2 → 0 ≤ k → k < T 64 0 p → T 6 (T 63 0 (24 * p + k)) 0 = T 63 0 (24 * p + k) := fun p k p0 p2 k0 k1 => by
    have o := hG.ord p k p0 p2 k0 k1
    exact (hL.row o.1.1 o.1.2).2.1
  unfold zRA at hq
  simp only [wp_X3_rowStandingAt, x15, x16, x17, x6, h0, h1, h2]
  refine ⟨⟨by omega, by omega⟩, ⟨by omega, by omega⟩, fun z => ?_, fun z => ⟨fun u => ⟨fun v => ⟨fun w => ⟨⟨by omega, by omega⟩, ?_⟩, fun w => ⟨⟨by omega, by omega⟩, ?_⟩⟩, fun v => ⟨⟨by omega, by omega⟩, ?_⟩⟩, fun u => ?_⟩⟩
  · rw [if_pos z] at hq; exact hq
  · rw [g0 a z (by omega), nr 0 a (by omega) (by omega) z (by omega), show 24 * 0 + a = a by omega]
    rw [if_neg (by omega), if_pos (by omega)] at hq
    exact hq
  · rw [g1 _ w (by omega), nr 1 _ (by omega) (by omega) w (by omega), show 24 * 1 + (a - T 64 0 0) = 24 + (a - T 64 0 0) by omega]
    rw [if_neg (by omega), if_neg (by omega), if_pos (by omega)] at hq
    exact hq
  · rw [g2 _ v (by omega), nr 2 _ (by omega) (by omega) v (by omega), show 24 * 2 + (a - T 64 0 0 - T 64 0 1) = 48 + (a - T 64 0 0 - T 64 0 1) by omega]
    rw [if_neg (by omega), if_neg (by omega), if_neg (by omega), if_pos (by omega)] at hq
    exact hq
  · rw [if_neg (by omega), if_neg (by omega), if_neg (by omega), if_neg (by omega)] at hq
    exact hq
theorem k_rowBeside (hG : Good T) (hL : zLk T) (hA : Ag T M) {r st : Int} (hst : st = 1 ∨ st = -1) (r0 : 0 ≤ r) (r1 : r < T 11 0 8) {Qm : Int → Mem → Prop} (hq : Qm (zRA T (zoff T (T 60 0 r) + T 6 r 6 + st)) M) : wp_X3_rowBeside r st M Qm := by
  have x13 := hA.s13
  have x15 := hA.s15
  have x16 := hA.s16
  have x6 := hA.s6
  have n13 := hL.n.2.1
  have h0 : T 15 0 (-1) = T 64 0 0 := (hL.part (p := 0) (by omega) (by omega)).1
  have h1 : T 16 0 (-1) = T 64 0 1 := (hL.part (p := 1) (by omega) (by omega)).1
  have m0 := hG.many (p := 0) (by omega) (by omega)
  have m1 := hG.many (p := 1) (by omega) (by omega)
  obtain ⟨l0, l1, l2, -⟩ := hL.row r0 r1
  obtain ⟨w1, -, -, w4, -⟩ := hG.row r r0 r1
  have mp := hG.many (p := T 60 0 r) w1.1 w1.2
  have hgo : ∀ z, z = zoff T (T 60 0 r) → 0 ≤ z → z ≤ 48 → wp_X3_rowBeside_66 r st Qm r z M := fun z e z0 z1 => by
    unfold wp_X3_rowBeside_66
    rw [x6]
    refine ⟨⟨by omega, by omega⟩, ⟨by omega, by omega⟩, k_rowStandingAt hG hL hA (by omega) (by omega) ?_⟩
    rw [e]; exact hq
  refine k_hasRow hG hL hA (fun h => ⟨fun _ => ?_, fun z => absurd z (by decide)⟩) (fun h => absurd ⟨r0, r1⟩ h)
  rw [x13, n13, l0, x6, l2, x15, x16, h0, h1]
  refine ⟨h, fun a => ⟨fun b => ⟨⟨by omega, by omega⟩, hgo _ ?_ (by omega) (by omega)⟩, fun b => hgo _ ?_ (by omega) (by omega)⟩, fun a => hgo 0 ?_ (by omega) (by omega)⟩
  · unfold zoff; rw [if_neg a, if_neg b]
  · unfold zoff; rw [if_neg a, if_pos b]
  · unfold zoff; rw [if_pos a]
end VA
