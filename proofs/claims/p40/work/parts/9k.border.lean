/-! the pure part: borders put -/
section XA
variable {T M : Mem} {O : zSt} {κ : Nat → Int} {K : (Nat → Int) → Mem → Prop} {p1 p2 p3 p4 : Int}
/-- sides that a kind has -/
def zSide (k s : Int) : Prop := (k = 0 ∧ 0 ≤ s ∧ s ≤ 3) ∨ (k = 1 ∧ (s = 0 ∨ s = 2)) ∨ (k = 2 ∧ (s = 1 ∨ s = 3)) ∨ k = 3
/-- what has a border -/
def zHas (T : Mem) (k n : Int) : Prop := (k = 0 ∧ 0 ≤ n ∧ n < T 11 0 15) ∨ (k = 1 ∧ 0 ≤ n ∧ n < T 11 0 8) ∨ (k = 2 ∧ 0 ≤ n ∧ n < T 11 0 4) ∨ k = 3
/-- what a border was -/
def zHad (T M : Mem) (k n s : Int) : Int := if k = 3 then M 11 0 30 else zwt T M k n s
/-- a border is put, in the reference and in the class -/
def zPutR (M : Mem) (k n s w : Int) : Mem := if k = 0 then up M 77 0 (4 * n + s) w else if k = 1 then up M 78 0 (4 * n + s) w else if k = 2 then up M 79 0 (4 * n + s) w else up M 11 0 30 w
def zPutC (M : Mem) (k n s w : Int) : Mem := if k = 0 then up M 24 n s w else if k = 1 then up M 36 n s w else if k = 2 then up M 27 n s w else up M 4 0 7 w
theorem k_hasSide {Qm : Int → Mem → Prop} (hy : zSide p1 p3 → Qm 1 M) (hn : ¬ zSide p1 p3 → Qm 0 M) : wp_X9_hasSide p1 p3 M Qm := by
  unfold zSide at hy hn
  refine ⟨fun a => ?_, fun a => ?_, fun a => ?_, fun a => ?_⟩
  · by_cases b : p3 < 0
    · rw [if_pos b]; exact ⟨bit_0, hn (by omega)⟩
    · rw [if_neg b]
      by_cases d : 3 < p3
      · rw [if_pos d]; exact ⟨bit_0, hn (by omega)⟩
      · rw [if_neg d]; exact ⟨bit_1, hy (by omega)⟩
  · by_cases b : p3 = 0
    · rw [if_pos b]; exact ⟨bit_1, hy (by omega)⟩
    · rw [if_neg b]
      by_cases d : p3 = 2
      · rw [if_neg (by omega)]; exact ⟨bit_1, hy (by omega)⟩
      · rw [if_pos d]; exact ⟨bit_0, hn (by omega)⟩
  · by_cases b : p3 = 1
    · rw [if_pos b]; exact ⟨bit_1, hy (by omega)⟩
    · rw [if_neg b]
      by_cases d : p3 = 3
      · rw [if_neg (by omega)]; exact ⟨bit_1, hy (by omega)⟩
      · rw [if_pos d]; exact ⟨bit_0, hn (by omega)⟩
  · by_cases b : p1 = 3
    · rw [if_neg (by omega)]; exact ⟨bit_1, hy (by omega)⟩
    · rw [if_pos b]; exact ⟨bit_0, hn (by omega)⟩
theorem k_hasBordered (hG : Good T) (hL : zLk T) (hA : Ag T M) (k0 : 0 ≤ p1) (k3 : p1 ≤ 3) {Qm : Int → Mem → Prop} (hy : zHas T p1 p2 → Qm 1 M) (hn : ¬ zHas T p1 p2 → Qm 0 M) : wp_X3_hasBordered p1 p2 M Qm := by
  unfold zHas at hy hn
  refine ⟨fun a => k_hasCell hG hL hA (fun b => ⟨bit_1, hy (by omega)⟩) (fun b => ⟨bit_0, hn (by omega)⟩), fun a => k_hasRow hG hL hA (fun b => ⟨bit_1, hy (by omega)⟩) (fun b => ⟨bit_0, hn (by omega)⟩), fun a => k_hasColumn hG hL hA (fun b => ⟨bit_1, hy (by omega)⟩) (fun b => ⟨bit_0, hn (by omega)⟩), fun a => hy (by omega)⟩
theorem k_putWeight (hG : Good T) (hL : zLk T) (hA : Ag T M) (hs : 0 ≤ p3 ∧ p3 ≤ 3) (hh : zHas T p1 p2) (h3 : ¬ p1 = 3) {Qm : Mem → Prop} (hq : Qm (zPutC M p1 p2 p3 p4)) : wp_X3_putWeight p1 p2 p3 p4 M Qm := by
  have x12 := hA.s12
  have x13 := hA.s13
  have x14 := hA.s14
  obtain ⟨n12, n13, n14⟩ := hL.n
  unfold zHas at hh
  unfold zPutC at hq
  refine ⟨fun z => absurd z (by omega), fun _ => ⟨fun _ => ⟨fun hk => ?_, fun hk => ?_⟩, fun z => absurd z (by omega)⟩⟩
  · rw [if_neg hk] at hq
    refine ⟨fun hk1 => ?_, fun hk1 => ?_⟩
    · rw [if_neg hk1, if_pos (by omega)] at hq
      refine ⟨fun z => absurd z (by omega), fun _ => k_hasColumn hG hL hA (fun b => ⟨fun z => absurd z (by decide), fun _ => ?_⟩) (fun b => absurd (by omega) b)⟩
      rw [x12, n12, (hL.col b.1 b.2).1]
      exact ⟨b, ⟨by omega, by omega⟩, fun N e => by rw [e]; exact hq⟩
    · rw [if_pos hk1] at hq
      refine k_hasRow hG hL hA (fun b => ⟨fun z => absurd z (by decide), fun _ => ?_⟩) (fun b => absurd (by omega) b)
      rw [x13, n13, (hL.row b.1 b.2).1]
      exact ⟨b, ⟨by omega, by omega⟩, fun N e => by rw [e]; exact hq⟩
  · rw [if_pos hk] at hq
    refine k_hasCell hG hL hA (fun b => ⟨fun z => absurd z (by decide), fun _ => ?_⟩) (fun b => absurd (by omega) b)
    rw [x14, n14, (hL.cell b.1 b.2).1]
    exact ⟨b, ⟨by omega, by omega⟩, fun N e => by rw [e]; exact hq⟩
theorem k_setWeight (hG : Good T) (hL : zLk T) (hA : Ag T M) (hB : zBR T M) (hs : zSide p1 p3) (hh : zHas T p1 p2) {Qm : Int → Mem → Prop} (hq : Qm (zHad T M p1 p2 p3) (zPutC M p1 p2 p3 p4)) : wp_X3_setWeight p1 p2 p3 p4 M Qm := by
  have hh' := hh
  unfold zSide at hs
  unfold zHas at hh
  unfold zHad at hq
  refine ⟨fun h3 => ?_, fun h3 => ?_⟩
  · rw [if_neg h3] at hq
    exact k_weightOf hG hL hA hB (by omega) (by omega) (by omega) (by omega) (k_putWeight hG hL hA (by omega) hh' h3 hq)
  · rw [if_pos h3] at hq
    intro N e
    rw [hB.1.2]
    unfold zPutC at hq
    rw [if_neg (by omega), if_neg (by omega), if_neg (by omega), ← e] at hq
    exact hq
theorem zfits (k s x : Int) (hx : (x = 1 ∧ 0 ≤ s ∧ s ≤ 3) ∨ (x = 0 ∧ ¬ (0 ≤ s ∧ s ≤ 3))) (k0 : 0 ≤ k) (k2 : k ≤ 2) : (zSide k s → (if x = 0 then (0 : Int) else (if ¬ k = 1 then (if ¬ k = 2 then (1 : Int) else (if ¬ (Int.tmod s 2) = 1 then (0 : Int) else 1)) else (if ¬ (Int.tmod s 2) = 0 then (0 : Int) else (if ¬ k = 2 then (1 : Int) else (if ¬ (Int.tmod s 2) = 1 then (0 : Int) else 1))))) = 1) ∧ (¬ zSide k s → (if x = 0 then (0 : Int) else (if ¬ k = 1 then (if ¬ k = 2 then (1 : Int) else (if ¬ (Int.tmod s 2) = 1 then (0 : Int) else 1)) else (if ¬ (Int.tmod s 2) = 0 then (0 : Int) else (if ¬ k = 2 then (1 : Int) else (if ¬ (Int.tmod s 2) = 1 then (0 : Int) else 1))))) = 0) := by
  unfold zSide
  by_cases e : x = 0
  · rw [if_pos e]
    exact ⟨fun z => by omega, fun _ => rfl⟩
  · rw [if_neg e]
    have hs : 0 ≤ s ∧ s ≤ 3 := by omega
    rcases (by omega : k = 0 ∨ k = 1 ∨ k = 2) with rfl | rfl | rfl
    · exact ⟨fun _ => rfl, fun z => absurd (Or.inl ⟨rfl, hs⟩) z⟩
    · rcases (by omega : s = 0 ∨ s = 1 ∨ s = 2 ∨ s = 3) with rfl | rfl | rfl | rfl
      · exact ⟨fun _ => by decide, fun z => absurd (by omega) z⟩
      · exact ⟨fun z => absurd z (by omega), fun _ => by decide⟩
      · exact ⟨fun _ => by decide, fun z => absurd (by omega) z⟩
      · exact ⟨fun z => absurd z (by omega), fun _ => by decide⟩
    · rcases (by omega : s = 0 ∨ s = 1 ∨ s = 2 ∨ s = 3) with rfl | rfl | rfl | rfl
      · exact ⟨fun z => absurd z (by omega), fun _ => by decide⟩
      · exact ⟨fun _ => by decide, fun z => absurd (by omega) z⟩
      · exact ⟨fun z => absurd z (by omega), fun _ => by decide⟩
      · exact ⟨fun _ => by decide, fun z => absurd (by omega) z⟩
/-- what a border's call writes on -/
def zBQ : Nat → Int → Int → Prop := fun s _ k => s = 103 ∨ s = 24 ∨ s = 27 ∨ s = 36 ∨ s = 77 ∨ s = 78 ∨ s = 79 ∨ (s = 4 ∧ k = 7) ∨ (s = 11 ∧ (k = 30 ∨ k = 59))
theorem zBQ_in : ∀ s j k, zBQ s j k → zin s k = false := by
  intro s j k hz
  simp only [zBQ] at hz
  simp only [zin, Bool.or_eq_false_iff, Bool.and_eq_false_iff, decide_eq_false_iff_not]
  omega
theorem Iv.b {M' : Mem} (h : Iv T O κ M) (f : Fj zBQ M M') (hb : zBR T M') : Iv T O κ M' := by
  obtain ⟨hG, hL, hA, hO, hR, hK, hd, hp, hw, -⟩ := h
  refine ⟨hG, hL, f.ag hA zBQ_in, hO, hR.fr (fun s j k a b => f s j k (by unfold zBQ; omega)) (f 11 0 54 (by unfold zBQ; omega)) (f 11 0 58 (by unfold zBQ; omega)), hK.fr (fun s k a => f s 1 k (by unfold zBQ; omega)), fun e => ?_, hp, hw, hb⟩
  rw [f 10 0 10 (by unfold zBQ; omega)] at e
  exact (hd e).fr (fun s k a => f s 0 k (by unfold zBQ; omega))
theorem zPutR_f (f : Fj zBQ M M) (k n s w : Int) : Fj zBQ M (zPutR M k n s w) := by
  unfold zPutR
  split
  · exact f.up (by unfold zBQ; omega)
  · split
    · exact f.up (by unfold zBQ; omega)
    · split
      · exact f.up (by unfold zBQ; omega)
      · exact f.up (by unfold zBQ; omega)
theorem zPutC_f (f : Fj zBQ M M) (k n s w : Int) : Fj zBQ M (zPutC M k n s w) := by
  unfold zPutC
  split
  · exact f.up (by unfold zBQ; omega)
  · split
    · exact f.up (by unfold zBQ; omega)
    · split
      · exact f.up (by unfold zBQ; omega)
      · exact f.up (by unfold zBQ; omega)
/-- both sides put -/
theorem zpb_at (M : Mem) (X Y : Nat) (hX : X ≠ 103 ∧ X ≠ 11 ∧ X ≠ Y) (hY : Y ≠ 103 ∧ Y ≠ 11) (a b w r c : Int) : (∀ i k, up (up (up (up M X a b w) 103 0 0 r) 11 0 59 c) Y 0 (4 * a + b) w X i k = if i = a ∧ k = b then w else M X i k) ∧ (∀ q, up (up (up (up M X a b w) 103 0 0 r) 11 0 59 c) Y 0 (4 * a + b) w Y 0 q = if q = 4 * a + b then w else M Y 0 q) ∧ ∀ (s : Nat) (j k : Int), s ≠ X → s ≠ Y → s ≠ 103 → ¬ (s = 11 ∧ k = 59) → up (up (up (up M X a b w) 103 0 0 r) 11 0 59 c) Y 0 (4 * a + b) w s j k = M s j k := by
  refine ⟨fun i k => ?_, fun q => ?_, fun s j k h1 h2 h3 h4 => ?_⟩
  · rw [up_at, if_neg (by omega), up_at, if_neg (by omega), up_at, if_neg (by omega), up_at]
    by_cases z : i = a ∧ k = b
    · rw [if_pos ⟨rfl, z⟩, if_pos z]
    · rw [if_neg (fun y => z y.2), if_neg z]
  · rw [up_at]
    by_cases z : q = 4 * a + b
    · rw [if_pos ⟨rfl, rfl, z⟩, if_pos z]
    · rw [if_neg (fun y => z y.2.2), if_neg z, up_at, if_neg (by omega), up_at, if_neg (by omega), up_at, if_neg (by omega)]
  · rw [up_at, if_neg (by omega), up_at, if_neg (by omega), up_at, if_neg (by omega), up_at, if_neg (by omega)]
theorem zput_br (hG : Good T) (hB : zBR T M) (hs : zSide p1 p3) (hh : zHas T p1 p2) (w0 : 0 ≤ p4) (w5 : p4 ≤ 5) (r c : Int) : zBR T (zPutR (up (up (zPutC M p1 p2 p3 p4) 103 0 0 r) 11 0 59 c) p1 p2 p3 p4) := by
  have hC := hG.nC
  have hR := hG.nR
  have hKn := hG.nK
  obtain ⟨⟨b1, b1'⟩, b2, b3, b4, b5, b6, b7⟩ := hB
  unfold zSide at hs
  unfold zHas at hh
  unfold zPutR zPutC
  rcases hh with ⟨e, n0, n1⟩ | ⟨e, n0, n1⟩ | ⟨e, n0, n1⟩ | e
  · rw [if_pos e, if_pos e]
    obtain ⟨gX, gY, gO⟩ := zpb_at M 24 77 (by decide) (by decide) p2 p3 p4 r c
    refine ⟨⟨by rw [gO 11 0 30 (by decide) (by decide) (by decide) (by decide)]; exact b1, by rw [gO 4 0 7 (by decide) (by decide) (by decide) (by decide), gO 11 0 30 (by decide) (by decide) (by decide) (by decide)]; exact b1'⟩, fun i k i0 i1 k0 k1 => ?_, fun i k i0 i1 k0 k1 => ?_, fun i k i0 i1 k0 k1 => ?_, fun q q0 q1 => ?_, fun q q0 q1 => ?_, fun q q0 q1 => ?_⟩
    · rw [gX, gY]
      by_cases z : i = p2 ∧ k = p3
      · rw [if_pos z, if_pos (by omega)]
      · rw [if_neg z, if_neg (by omega)]; exact b2 i k i0 i1 k0 k1
    · rw [gO 36 i k (by decide) (by decide) (by decide) (by omega), gO 78 0 _ (by decide) (by decide) (by decide) (by omega)]; exact b3 i k i0 i1 k0 k1
    · rw [gO 27 i k (by decide) (by decide) (by decide) (by omega), gO 79 0 _ (by decide) (by decide) (by decide) (by omega)]; exact b4 i k i0 i1 k0 k1
    · rw [gY]
      by_cases z : q = 4 * p2 + p3
      · rw [if_pos z]; exact ⟨⟨w0, w5⟩, fun x => by omega⟩
      · rw [if_neg z]; exact b5 q q0 q1
    · rw [gO 78 0 q (by decide) (by decide) (by decide) (by omega)]; exact b6 q q0 q1
    · rw [gO 79 0 q (by decide) (by decide) (by decide) (by omega)]; exact b7 q q0 q1
  · rw [if_neg (by omega), if_pos e, if_neg (by omega), if_pos e]
    obtain ⟨gX, gY, gO⟩ := zpb_at M 36 78 (by decide) (by decide) p2 p3 p4 r c
    refine ⟨⟨by rw [gO 11 0 30 (by decide) (by decide) (by decide) (by decide)]; exact b1, by rw [gO 4 0 7 (by decide) (by decide) (by decide) (by decide), gO 11 0 30 (by decide) (by decide) (by decide) (by decide)]; exact b1'⟩, fun i k i0 i1 k0 k1 => ?_, fun i k i0 i1 k0 k1 => ?_, fun i k i0 i1 k0 k1 => ?_, fun q q0 q1 => ?_, fun q q0 q1 => ?_, fun q q0 q1 => ?_⟩
    · rw [gO 24 i k (by decide) (by decide) (by decide) (by omega), gO 77 0 _ (by decide) (by decide) (by decide) (by omega)]; exact b2 i k i0 i1 k0 k1
    · rw [gX, gY]
      by_cases z : i = p2 ∧ k = p3
      · rw [if_pos z, if_pos (by omega)]
      · rw [if_neg z, if_neg (by omega)]; exact b3 i k i0 i1 k0 k1
    · rw [gO 27 i k (by decide) (by decide) (by decide) (by omega), gO 79 0 _ (by decide) (by decide) (by decide) (by omega)]; exact b4 i k i0 i1 k0 k1
    · rw [gO 77 0 q (by decide) (by decide) (by decide) (by omega)]; exact b5 q q0 q1
    · rw [gY]
      by_cases z : q = 4 * p2 + p3
      · rw [if_pos z]; exact ⟨⟨w0, w5⟩, fun x => by omega⟩
      · rw [if_neg z]; exact b6 q q0 q1
    · rw [gO 79 0 q (by decide) (by decide) (by decide) (by omega)]; exact b7 q q0 q1
  · rw [if_neg (by omega), if_neg (by omega), if_pos e, if_neg (by omega), if_neg (by omega), if_pos e]
    obtain ⟨gX, gY, gO⟩ := zpb_at M 27 79 (by decide) (by decide) p2 p3 p4 r c
    refine ⟨⟨by rw [gO 11 0 30 (by decide) (by decide) (by decide) (by decide)]; exact b1, by rw [gO 4 0 7 (by decide) (by decide) (by decide) (by decide), gO 11 0 30 (by decide) (by decide) (by decide) (by decide)]; exact b1'⟩, fun i k i0 i1 k0 k1 => ?_, fun i k i0 i1 k0 k1 => ?_, fun i k i0 i1 k0 k1 => ?_, fun q q0 q1 => ?_, fun q q0 q1 => ?_, fun q q0 q1 => ?_⟩
    · rw [gO 24 i k (by decide) (by decide) (by decide) (by omega), gO 77 0 _ (by decide) (by decide) (by decide) (by omega)]; exact b2 i k i0 i1 k0 k1
    · rw [gO 36 i k (by decide) (by decide) (by decide) (by omega), gO 78 0 _ (by decide) (by decide) (by decide) (by omega)]; exact b3 i k i0 i1 k0 k1
    · rw [gX, gY]
      by_cases z : i = p2 ∧ k = p3
      · rw [if_pos z, if_pos (by omega)]
      · rw [if_neg z, if_neg (by omega)]; exact b4 i k i0 i1 k0 k1
    · rw [gO 77 0 q (by decide) (by decide) (by decide) (by omega)]; exact b5 q q0 q1
    · rw [gO 78 0 q (by decide) (by decide) (by decide) (by omega)]; exact b6 q q0 q1
    · rw [gY]
      by_cases z : q = 4 * p2 + p3
      · rw [if_pos z]; exact ⟨⟨w0, w5⟩, fun x => by omega⟩
      · rw [if_neg z]; exact b7 q q0 q1
  · rw [if_neg (by omega), if_neg (by omega), if_neg (by omega), if_neg (by omega), if_neg (by omega), if_neg (by omega)]
    have gO : ∀ (s : Nat) (j k : Int), s ≠ 4 → s ≠ 103 → ¬ (s = 11 ∧ (k = 59 ∨ k = 30)) → up (up (up (up M 4 0 7 p4) 103 0 0 r) 11 0 59 c) 11 0 30 p4 s j k = M s j k := fun s j k h1 h2 h3 => by
      rw [up_at, if_neg (by omega), up_at, if_neg (by omega), up_at, if_neg (by omega), up_at, if_neg (by omega)]
    refine ⟨⟨by rw [up_eq]; exact ⟨w0, w5⟩, by rw [up_eq, up_s _ _ _ _ (by decide), up_s _ _ _ _ (by decide), up_s _ _ _ _ (by decide), up_eq]⟩, fun i k i0 i1 k0 k1 => ?_, fun i k i0 i1 k0 k1 => ?_, fun i k i0 i1 k0 k1 => ?_, fun q q0 q1 => ?_, fun q q0 q1 => ?_, fun q q0 q1 => ?_⟩
    · rw [gO 24 i k (by decide) (by decide) (by omega), gO 77 0 _ (by decide) (by decide) (by omega)]; exact b2 i k i0 i1 k0 k1
    · rw [gO 36 i k (by decide) (by decide) (by omega), gO 78 0 _ (by decide) (by decide) (by omega)]; exact b3 i k i0 i1 k0 k1
    · rw [gO 27 i k (by decide) (by decide) (by omega), gO 79 0 _ (by decide) (by decide) (by omega)]; exact b4 i k i0 i1 k0 k1
    · rw [gO 77 0 q (by decide) (by decide) (by omega)]; exact b5 q q0 q1
    · rw [gO 78 0 q (by decide) (by decide) (by omega)]; exact b6 q q0 q1
    · rw [gO 79 0 q (by decide) (by decide) (by omega)]; exact b7 q q0 q1
theorem zHad_u (T M : Mem) (k n s w r c : Int) : zHad T (up (up (zPutC M k n s w) 103 0 0 r) 11 0 59 c) k n s = zHad T M k n s := by
  have f : ∀ (q : Nat) (j i : Int), (q = 77 ∨ q = 78 ∨ q = 79 ∨ (q = 11 ∧ i = 30)) → up (up (zPutC M k n s w) 103 0 0 r) 11 0 59 c q j i = M q j i := fun q j i a => by
    rw [up_at, if_neg (by omega), up_at, if_neg (by omega)]
    unfold zPutC
    split
    · rw [up_at, if_neg (by omega)]
    · split
      · rw [up_at, if_neg (by omega)]
      · split
        · rw [up_at, if_neg (by omega)]
        · rw [up_at, if_neg (by omega)]
  unfold zHad zwt
  rw [f 11 0 30 (by omega), f 77 0 _ (by omega), f 78 0 _ (by omega), f 79 0 _ (by omega)]
end XA
