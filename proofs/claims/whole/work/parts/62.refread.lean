/-! the pure part: the reference's methods that only read -/
section RR
variable {T M : Mem}
theorem zsh_r (T : Mem) (k : Int) : 0 ≤ zsh T k ∧ zsh T k ≤ 1 := by unfold zsh; split <;> omega
theorem q_thrown {Qm : Int → Mem → Prop} (h : Qm (M 11 0 59) M) : wp_X10_thrown M Qm := h
theorem q_in {p0 p1 p2 : Int} {Qm : Int → Mem → Prop} (hy : p1 ≤ p0 ∧ p0 ≤ p2 → Qm 1 M) (hn : ¬ (p1 ≤ p0 ∧ p0 ≤ p2) → Qm 0 M) : wp_X10_in p0 p1 p2 M Qm := by
  unfold wp_X10_in
  by_cases h1 : p0 < p1
  · simp only [if_pos h1]; exact ⟨bit_0, hn (by omega)⟩
  · by_cases h2 : p2 < p0
    · simp only [if_neg h1, if_pos h2]; exact ⟨bit_0, hn (by omega)⟩
    · simp only [if_neg h1, if_neg h2]; exact ⟨bit_1, hy (by omega)⟩
theorem q_isColumn (hG : Good T) (hA : Ag T M) {p : Int} {Qm : Int → Mem → Prop} (hy : 0 ≤ p ∧ p < T 11 0 4 → Qm 1 M) (hn : ¬ (0 ≤ p ∧ p < T 11 0 4) → Qm 0 M) : wp_X10_isColumn p M Qm := by
  have e := hA.f4
  have b := hG.nC
  refine ⟨⟨by omega, by omega⟩, q_in (fun h => ⟨bit_1, hy (by omega)⟩) (fun h => ⟨bit_0, hn (by omega)⟩)⟩
theorem q_isRow (hG : Good T) (hA : Ag T M) {p : Int} {Qm : Int → Mem → Prop} (hy : 0 ≤ p ∧ p < T 11 0 8 → Qm 1 M) (hn : ¬ (0 ≤ p ∧ p < T 11 0 8) → Qm 0 M) : wp_X10_isRow p M Qm := by
  have e := hA.f8
  have b := hG.nR
  refine ⟨⟨by omega, by omega⟩, q_in (fun h => ⟨bit_1, hy (by omega)⟩) (fun h => ⟨bit_0, hn (by omega)⟩)⟩
theorem q_isCell (hG : Good T) (hA : Ag T M) {p : Int} {Qm : Int → Mem → Prop} (hy : 0 ≤ p ∧ p < T 11 0 15 → Qm 1 M) (hn : ¬ (0 ≤ p ∧ p < T 11 0 15) → Qm 0 M) : wp_X10_isCell p M Qm := by
  have e := hA.f15
  have b := hG.nK
  refine ⟨⟨by omega, by omega⟩, q_in (fun h => ⟨bit_1, hy (by omega)⟩) (fun h => ⟨bit_0, hn (by omega)⟩)⟩
theorem q_goes {p1 p2 p3 c : Int} {Qm : Int → Mem → Prop} (hc : (if ¬ p1 = 0 then (if ¬ p2 = 0 then (if p3 = 0 then (3 : Int) else 0) else 2) else 1) = c) (h : Qm (if c = 0 then 1 else 0) (up M 11 0 59 c)) : wp_X10_goes p1 p2 p3 M Qm := by
  intro M8 e
  subst e
  rw [hc, up_eq]
  by_cases h0 : c = 0
  · rw [if_neg (by omega)]
    rw [if_pos h0] at h
    exact ⟨bit_1, h⟩
  · rw [if_pos h0]
    rw [if_neg h0] at h
    exact ⟨bit_0, h⟩
theorem q_goes0 {p1 p2 p3 : Int} {Qm : Int → Mem → Prop} (h1 : p1 ≠ 0) (h2 : p2 ≠ 0) (h3 : p3 ≠ 0) (h : Qm 1 (up M 11 0 59 0)) : wp_X10_goes p1 p2 p3 M Qm := q_goes (c := 0) (by rw [if_pos h1, if_pos h2, if_neg h3]) h
theorem q_goes1 {p1 p2 p3 : Int} {Qm : Int → Mem → Prop} (h1 : p1 = 0) (h : Qm 0 (up M 11 0 59 1)) : wp_X10_goes p1 p2 p3 M Qm := q_goes (c := 1) (by rw [if_neg (by omega)]) h
theorem q_goes2 {p1 p2 p3 : Int} {Qm : Int → Mem → Prop} (h1 : p1 ≠ 0) (h2 : p2 = 0) (h : Qm 0 (up M 11 0 59 2)) : wp_X10_goes p1 p2 p3 M Qm := q_goes (c := 2) (by rw [if_pos h1, if_neg (by omega)]) h
theorem q_goes3 {p1 p2 p3 : Int} {Qm : Int → Mem → Prop} (h1 : p1 ≠ 0) (h2 : p2 ≠ 0) (h3 : p3 = 0) (h : Qm 0 (up M 11 0 59 3)) : wp_X10_goes p1 p2 p3 M Qm := q_goes (c := 3) (by rw [if_pos h1, if_pos h2, if_pos h3]) h
theorem q_placeOf (hG : Good T) (hA : Ag T M) {r : Int} (h0 : 0 ≤ r) (h1 : r < T 11 0 8) {Qm : Int → Mem → Prop} (hq : Qm (T 6 r 6) M) : wp_X10_placeOf r M Qm := by
  obtain ⟨p1, -, -, p2, p3⟩ := hG.row r h0 h1
  have hm := hG.many p1.1 p1.2
  have hR := hG.nR
  have e60 := hA.s60
  have e63 := hA.s63
  refine zWhile (fun n y => wp_X10_placeOf_2 r Qm n y M) (fun y => 0 ≤ y ∧ y ≤ T 6 r 6) (fun y => (T 6 r 6 - y).toNat) (fun n y hy ih => ?_) 0 ⟨by omega, by omega⟩
  obtain ⟨y0, y1⟩ := hy
  show wp_X10_placeOf_2 r Qm (n + 1) y M
  simp only [wp_X10_placeOf_2, e60, e63]
  refine ⟨⟨by omega, by omega⟩, ⟨by omega, by omega⟩, ⟨by omega, by omega⟩, ⟨by omega, by omega⟩, fun h => ?_, fun h => ⟨⟨by omega, by omega⟩, ?_⟩⟩
  · obtain ⟨-, -, o⟩ := hG.ord (T 60 0 r) y p1.1 p1.2 y0 (by omega)
    rw [h] at o
    rw [← o]
    exact hq
  · have : y ≠ T 6 r 6 := fun z => h (by rw [z]; exact p3)
    exact ih (y + 1) (by omega) (by omega)
theorem q_below (hG : Good T) (hA : Ag T M) {r d : Int} (h0 : 0 ≤ r) (h1 : r < T 11 0 8) (d0 : 0 ≤ d) (d1 : T 6 r 6 + d < T 64 0 (T 60 0 r)) {Qm : Int → Mem → Prop} (hq : Qm (T 63 0 (24 * T 60 0 r + T 6 r 6 + d)) M) : wp_X10_below r d M Qm := by
  obtain ⟨p1, -, -, p2, p3⟩ := hG.row r h0 h1
  have hm := hG.many p1.1 p1.2
  have hR := hG.nR
  have e60 := hA.s60
  have e63 := hA.s63
  simp only [wp_X10_below, e60]
  refine ⟨⟨by omega, by omega⟩, ⟨by omega, by omega⟩, q_placeOf hG hA h0 h1 ?_⟩
  simp only [e63]
  exact ⟨⟨by omega, by omega⟩, ⟨by omega, by omega⟩, ⟨by omega, by omega⟩, hq⟩
theorem q_visible (hG : Good T) (hA : Ag T M) {Qm : Int → Mem → Prop} (hq : Qm (zvis T) M) : wp_X10_visible M Qm := by
  have e4 := hA.f4
  have e59 := hA.s59
  have hC := hG.nC
  refine zCount (fun n k s => wp_X10_visible_4 Qm n s k M) (fun s k => s + zsh T k) 0 0 (T 11 0 4) hC.1 (fun n => ?_) (fun n k h0 h1 hn => ?_)
  · exact ⟨fun _ => hq, fun h => absurd h (by omega)⟩
  · have b := zS_bd (f := zsh T) 0 1 h0 (fun k _ _ => zsh_r T k)
    have b2 := zsh_r T k
    have e : (if M 59 0 k = 0 then (1 : Int) else 0) = zsh T k := by rw [e59]; rfl
    refine ⟨fun h => absurd h (by omega), fun _ => ?_⟩
    rw [e]
    exact ⟨⟨by omega, by omega⟩, ⟨by show _ ≤ zS (zsh T) 0 k + _; omega, by show zS (zsh T) 0 k + _ ≤ _; omega⟩, ⟨by omega, by omega⟩, hn⟩
theorem zvis_r (hG : Good T) : 0 ≤ zvis T ∧ zvis T ≤ 6 := by
  have b := zS_bd (f := zsh T) 0 1 hG.nC.1 (fun k _ _ => zsh_r T k)
  have hC := hG.nC
  unfold zvis
  omega
theorem zshows_r (hG : Good T) {c : Int} (h0 : 0 ≤ c) (h1 : c < T 11 0 15) : 0 ≤ zshows T c ∧ zshows T c ≤ 6 := by
  obtain ⟨-, k1, -, k2, -⟩ := hG.cell c h0 h1
  have b := zS_bd (f := zsh T) (a := T 66 0 c) (b := T 66 0 c + T 68 0 c) 0 1 (by omega) (fun k _ _ => zsh_r T k)
  have hC := hG.nC
  unfold zshows
  omega
theorem q_shows (hG : Good T) (hA : Ag T M) {c : Int} (h0 : 0 ≤ c) (h1 : c < T 11 0 15) {Qm : Int → Mem → Prop} (hq : Qm (zshows T c) M) : wp_X10_shows c M Qm := by
  obtain ⟨-, k1, -, k2, -⟩ := hG.cell c h0 h1
  have hK := hG.nK
  have hC := hG.nC
  have e59 := hA.s59
  have e66 := hA.s66
  have e68 := hA.s68
  have e : ∀ k, (if T 59 0 k = 0 then (1 : Int) else 0) = zsh T k := fun k => rfl
  refine zLoop (fun n k s => wp_X10_shows_4 c Qm n s k M) (fun k s => s = zS (zsh T) (T 66 0 c) (T 66 0 c + k)) (T 68 0 c) (by omega) (zS_self _ (by omega)).symm (fun n s hs => ?_) (fun n k s a0 a1 hs ih => ?_)
  · simp only [wp_X10_shows_4, e59, e66, e68, e]
    refine ⟨⟨by omega, by omega⟩, fun _ => ?_, fun h => absurd h (by omega)⟩
    rw [hs]; exact hq
  · simp only [wp_X10_shows_4, e59, e66, e68, e]
    have b := zS_bd (f := zsh T) (a := T 66 0 c) (b := T 66 0 c + k) 0 1 (by omega) (fun k _ _ => zsh_r T k)
    have b2 := zsh_r T (T 66 0 c + k)
    refine ⟨⟨by omega, by omega⟩, fun h => absurd h (by omega), fun _ => ⟨⟨by omega, by omega⟩, ⟨by omega, by omega⟩, ⟨by omega, by omega⟩, ⟨by omega, by omega⟩, ⟨by omega, by omega⟩, ih _ ?_⟩⟩
    rw [hs, ← Int.add_assoc, zS_succ _ (by omega)]
theorem zfig_r (hG : Good T) {r k : Int} (h0 : 0 ≤ r) (h1 : r < T 11 0 8) (k0 : 0 ≤ k) (k1 : k < 6) (h : ¬ zfig T r k = -1) : 0 ≤ zfig T r k ∧ zfig T r k < T 11 0 15 ∧ T 73 0 (zfig T r k) = 1 ∧ T 65 0 (zfig T r k) = r ∧ T 66 0 (zfig T r k) = k ∧ T 59 0 k = 0 := by
  have hp := hG.pl r k h0 h1 k0 k1
  unfold zfig at h ⊢
  by_cases a : T 69 0 (6 * r + k) - 1 < 0
  · rw [if_pos a] at h; exact absurd rfl h
  · rw [if_neg a] at h ⊢
    by_cases b : ¬ T 59 0 k = 0
    · rw [if_pos b] at h; exact absurd rfl h
    · rw [if_neg b] at h ⊢
      by_cases c : T 73 0 (T 69 0 (6 * r + k) - 1) = 0
      · rw [if_pos c] at h; exact absurd rfl h
      · rw [if_neg c] at h ⊢
        obtain ⟨q1, q2, q3⟩ := hp.2 (by omega)
        generalize hcc : T 69 0 (6 * r + k) - 1 = cc at *
        obtain ⟨w1, w2, w3, w4, w5, w6, w7, w8, w9, w10, w11, w12⟩ := hG.cell cc (by omega) (by omega)
        obtain ⟨v1, v2, v3⟩ := w11 (by omega)
        obtain ⟨r1, r2, r3, r4, r5⟩ := hG.row r h0 h1
        obtain ⟨s1, s2, s3, s4, s5⟩ := hG.row (T 65 0 cc) w1.1 w1.2
        refine ⟨by omega, by omega, by omega, ?_, by omega, by omega⟩
        have e : T 6 r 6 = T 6 (T 65 0 cc) 6 := by omega
        rw [← r5, ← s5, q1, e]
theorem q_figureOf (hG : Good T) (hA : Ag T M) {r k : Int} (h0 : 0 ≤ r) (h1 : r < T 11 0 8) (k0 : 0 ≤ k) (k1 : k < 6) {Qm : Int → Mem → Prop} (hq : Qm (zfig T r k) M) : wp_X10_figureOf r k M Qm := by
  have hp := (hG.pl r k h0 h1 k0 k1).1
  have hR := hG.nR
  have hK := hG.nK
  have e59 := hA.s59
  have e69 := hA.s69
  have e73 := hA.s73
  simp only [wp_X10_figureOf, e59, e69, e73]
  exact ⟨⟨by omega, by omega⟩, ⟨by omega, by omega⟩, ⟨by omega, by omega⟩, ⟨by omega, by omega⟩, fun _ => ⟨⟨by omega, by omega⟩, fun _ => ⟨⟨by omega, by omega⟩, trivial⟩, trivial⟩, hq⟩
/-- a figure's cell stands where it stands -/
theorem zfig_of (hG : Good T) {c : Int} (h0 : 0 ≤ c) (h1 : c < T 11 0 15) (hf : T 73 0 c = 1) (hs : T 59 0 (T 66 0 c) = 0) : zfig T (T 65 0 c) (T 66 0 c) = c := by
  obtain ⟨w1, w2, w3, w4, w5, w6, w7, w8, w9, w10, w11, w12⟩ := hG.cell c h0 h1
  have hC := hG.nC
  have e := hG.pq c (T 65 0 c) (T 66 0 c) h0 h1 w1.1 w1.2 rfl (Int.le_refl _) (by omega) (Int.le_refl _) (by omega)
  unfold zfig
  rw [e, if_neg (by omega), if_neg (by omega), show c + 1 - 1 = c by omega, if_neg (by omega)]
theorem zlen_r (hG : Good T) {c i : Int} (h0 : 0 ≤ c) (h1 : c < T 11 0 15) (i0 : 0 ≤ i) (i1 : i < T 72 0 c) : 1 ≤ zpiece T c i ∧ zpiece T c i ≤ 20 := by
  have w := hG.word c i h0 h1 i0 i1
  unfold zpiece
  split <;> omega
theorem zleast_r (hG : Good T) {c : Int} (h0 : 0 ≤ c) (h1 : c < T 11 0 15) {n : Int} (n0 : 0 ≤ n) (n1 : n ≤ T 72 0 c) : 0 ≤ zF (fun m i => max m (zpiece T c i)) 0 0 n ∧ zF (fun m i => max m (zpiece T c i)) 0 0 n ≤ 20 := by
  refine zF_ind (fun _ m => 0 ≤ m ∧ m ≤ 20) n0 (by omega) (fun k v a b hv => ?_)
  have := zlen_r hG h0 h1 a (by omega)
  show 0 ≤ max v (zpiece T c k) ∧ max v (zpiece T c k) ≤ 20
  omega
theorem zlens_r (hG : Good T) {c : Int} (h0 : 0 ≤ c) (h1 : c < T 11 0 15) {n : Int} (n0 : 0 ≤ n) (n1 : n ≤ T 72 0 c) : n ≤ zS (fun i => T 70 0 (12 * c + i)) 0 n ∧ zS (fun i => T 70 0 (12 * c + i)) 0 n ≤ 20 * n := by
  have b := zS_bd (f := fun i => T 70 0 (12 * c + i)) 1 20 n0 (fun k a b => (hG.word c k h0 h1 a (by omega)).1)
  omega
theorem zmost_r (hG : Good T) {c : Int} (h0 : 0 ≤ c) (h1 : c < T 11 0 15) : 0 ≤ zmost T c ∧ zmost T c ≤ 251 := by
  obtain ⟨w1, w2, w3, w4, w5, w6, w7, w8, w9, w10, w11, w12⟩ := hG.cell c h0 h1
  have := zlens_r hG h0 h1 w6.1 (Int.le_refl _)
  unfold zmost zlens
  omega
theorem zwant_r (hG : Good T) {c : Int} (most : Int) (h0 : 0 ≤ c) (h1 : c < T 11 0 15) : 0 ≤ zwant T most c ∧ zwant T most c ≤ 251 := by
  obtain ⟨w1, w2, w3, w4, w5, w6, w7, w8, w9, w10, w11, w12⟩ := hG.cell c h0 h1
  unfold zwant
  split
  · have := zleast_r hG h0 h1 w6.1 (Int.le_refl _)
    unfold zleast
    omega
  · exact zmost_r hG h0 h1
theorem q_leastOf (hG : Good T) (hA : Ag T M) {c : Int} (h0 : 0 ≤ c) (h1 : c < T 11 0 15) {Qm : Int → Mem → Prop} (hq : Qm (zleast T c) M) : wp_X10_leastOf c M Qm := by
  obtain ⟨w1, w2, w3, w4, w5, w6, w7, w8, w9, w10, w11, w12⟩ := hG.cell c h0 h1
  have hK := hG.nK
  have e70 := hA.s70
  have e71 := hA.s71
  have e72 := hA.s72
  refine ⟨⟨by omega, by omega⟩, ?_⟩
  refine zLoop (fun n k s => wp_X10_leastOf_7 c Qm n s k M) (fun k s => s = zF (fun m i => max m (zpiece T c i)) 0 0 (k - 12 * c)) (12 * c + T 72 0 c) (by omega) (zF_self _ _ (by omega)).symm (fun n s hs => ?_) (fun n k s a0 a1 hs ih => ?_)
  · simp only [wp_X10_leastOf_7, e72]
    refine ⟨⟨by omega, by omega⟩, ⟨by omega, by omega⟩, ⟨by omega, by omega⟩, fun _ => ?_, fun h => absurd h (by omega)⟩
    rw [hs, show 12 * c + T 72 0 c - 12 * c = T 72 0 c by omega]; exact hq
  · have w := hG.word c (k - 12 * c) h0 h1 (by omega) (by omega)
    have hb := zleast_r hG h0 h1 (n := k - 12 * c) (by omega) (by omega)
    rw [show 12 * c + (k - 12 * c) = k by omega] at w
    have ez : zpiece T c (k - 12 * c) = if T 71 0 k = 0 then T 70 0 k else max (T 71 0 k + 1) (T 70 0 k - T 71 0 k) := by
      unfold zpiece; rw [show 12 * c + (k - 12 * c) = k by omega]
    have er : (if ¬ T 71 0 k = 0 then (if T 71 0 k + 1 ≤ T 70 0 k - T 71 0 k then T 70 0 k - T 71 0 k else T 71 0 k + 1) else T 70 0 k) = zpiece T c (k - 12 * c) := by
      rw [ez]
      by_cases z : T 71 0 k = 0
      · rw [if_neg (by omega), if_pos z]
      · rw [if_pos z, if_neg z, Int.max_def]
    have em : (if T 71 0 k + 1 ≤ T 70 0 k - T 71 0 k then T 70 0 k - T 71 0 k else T 71 0 k + 1) ≤ 20 ∧ 0 ≤ (if T 71 0 k + 1 ≤ T 70 0 k - T 71 0 k then T 70 0 k - T 71 0 k else T 71 0 k + 1) := by split <;> omega
    have hz := zlen_r hG h0 h1 (i := k - 12 * c) (by omega) (by omega)
    simp only [wp_X10_leastOf_7, e70, e71, e72, er]
    refine ⟨⟨by omega, by omega⟩, ⟨by omega, by omega⟩, ⟨by omega, by omega⟩, fun h => absurd h (by omega), fun _ => ⟨⟨by omega, by omega⟩, fun _ => ⟨⟨by omega, by omega⟩, ⟨by omega, by omega⟩, ⟨by omega, by omega⟩, fun _ => ⟨⟨by omega, by omega⟩, ⟨by omega, by omega⟩, trivial⟩, fun _ => ⟨⟨by omega, by omega⟩, trivial⟩, ⟨by omega, by omega⟩, trivial⟩, fun _ => ⟨⟨by omega, by omega⟩, trivial⟩, ⟨by omega, by omega⟩, ⟨by omega, by omega⟩, ih _ ?_⟩⟩
    rw [show k + 1 - 12 * c = (k - 12 * c) + 1 by omega, zF_succ _ _ (by omega), ← hs, Int.max_def]
    split <;> split <;> omega
theorem q_mostOf (hG : Good T) (hA : Ag T M) {c : Int} (h0 : 0 ≤ c) (h1 : c < T 11 0 15) {Qm : Int → Mem → Prop} (hq : Qm (zmost T c) M) : wp_X10_mostOf c M Qm := by
  obtain ⟨w1, w2, w3, w4, w5, w6, w7, w8, w9, w10, w11, w12⟩ := hG.cell c h0 h1
  have hK := hG.nK
  have e70 := hA.s70
  have e72 := hA.s72
  have em : (if T 72 0 c ≤ 0 then (0 : Int) else T 72 0 c - 1) = max 0 (T 72 0 c - 1) := by split <;> omega
  simp only [wp_X10_mostOf, e72, em]
  refine ⟨⟨by omega, by omega⟩, fun _ => ⟨⟨by omega, by omega⟩, ⟨by omega, by omega⟩, trivial⟩, ⟨by omega, by omega⟩, ⟨by omega, by omega⟩, ?_⟩
  refine zLoop (fun n k s => wp_X10_mostOf_27 c Qm n s k M) (fun k s => s = max 0 (T 72 0 c - 1) + zS (fun i => T 70 0 (12 * c + i)) 0 (k - 12 * c)) (12 * c + T 72 0 c) (by omega) (by rw [zS_self _ (by omega)]; omega) (fun n s hs => ?_) (fun n k s a0 a1 hs ih => ?_)
  · simp only [wp_X10_mostOf_27, e72]
    refine ⟨⟨by omega, by omega⟩, ⟨by omega, by omega⟩, ⟨by omega, by omega⟩, fun _ => ?_, fun h => absurd h (by omega)⟩
    rw [hs, show 12 * c + T 72 0 c - 12 * c = T 72 0 c by omega]; exact hq
  · have w := hG.word c (k - 12 * c) h0 h1 (by omega) (by omega)
    have hb := zlens_r hG h0 h1 (n := k - 12 * c) (by omega) (by omega)
    rw [show 12 * c + (k - 12 * c) = k by omega] at w
    simp only [wp_X10_mostOf_27, e70, e72]
    refine ⟨⟨by omega, by omega⟩, ⟨by omega, by omega⟩, ⟨by omega, by omega⟩, fun h => absurd h (by omega), fun _ => ⟨⟨by omega, by omega⟩, ⟨by omega, by omega⟩, ⟨by omega, by omega⟩, ih _ ?_⟩⟩
    rw [show k + 1 - 12 * c = (k - 12 * c) + 1 by omega, zS_succ _ (by omega), hs]
    show _ = _ + (_ + T 70 0 (12 * c + (k - 12 * c)))
    rw [show 12 * c + (k - 12 * c) = k by omega]
    omega
end RR
