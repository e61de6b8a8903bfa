/-! the pure part: borders read -/
section TA
variable {T M : Mem}
/-- a weight, by kind, number and side; 0 where there is none -/
def zwt (T M : Mem) (kind n side : Int) : Int := if kind = 0 then (if 0 ≤ n ∧ n < T 11 0 15 then M 77 0 (4 * n + side) else 0) else if kind = 1 then (if 0 ≤ n ∧ n < T 11 0 8 then M 78 0 (4 * n + side) else 0) else if kind = 2 then (if 0 ≤ n ∧ n < T 11 0 4 then M 79 0 (4 * n + side) else 0) else 0
theorem zwt_r (hG : Good T) (hB : zBR T M) (kind n : Int) {side : Int} (s0 : 0 ≤ side) (s1 : side < 4) : 0 ≤ zwt T M kind n side ∧ zwt T M kind n side ≤ 5 := by
  have hC := hG.nC
  have hR := hG.nR
  have hKn := hG.nK
  obtain ⟨-, -, -, -, b5, b6, b7⟩ := hB
  unfold zwt
  split
  · split
    · exact (b5 _ (by omega) (by omega)).1
    · omega
  · split
    · split
      · exact (b6 _ (by omega) (by omega)).1
      · omega
    · split
      · split
        · exact (b7 _ (by omega) (by omega)).1
        · omega
      · omega
theorem k_weightOf (hG : Good T) (hL : zLk T) (hA : Ag T M) (hB : zBR T M) {kind n side : Int} (k0 : 0 ≤ kind) (k2 : kind ≤ 2) (s0 : 0 ≤ side) (s1 : side < 4) {Qm : Int → Mem → Prop} (hq : Qm (zwt T M kind n side) M) : wp_X3_weightOf kind n side M Qm := by
  have x12 := hA.s12
  have x13 := hA.s13
  have x14 := hA.s14
  obtain ⟨n12, n13, n14⟩ := hL.n
  obtain ⟨-, b2, b3, b4, -⟩ := hB
  refine ⟨fun z => absurd z (by omega), fun _ => ⟨fun _ => ⟨fun hk => ?_, fun hk => ?_⟩, fun z => absurd z (by omega)⟩⟩
  · -- rows and columns
    refine ⟨fun hk1 => ?_, fun hk1 => ?_⟩
    · have e2 : kind = 2 := by omega
      refine ⟨fun z => absurd e2 z, fun _ => k_hasColumn hG hL hA (fun h => ⟨fun z => absurd z (by decide), fun _ => ?_⟩) (fun h => ⟨fun _ => ?_, fun z => absurd rfl z⟩)⟩
      · rw [x12, n12, (hL.col h.1 h.2).1]
        refine ⟨h, ⟨by omega, by omega⟩, ?_⟩
        show Qm (M 27 n side) M
        rw [b4 n side h.1 h.2 s0 s1]
        unfold zwt at hq
        rw [if_neg hk, if_neg hk1, if_pos e2, if_pos h] at hq
        exact hq
      · show Qm 0 M
        unfold zwt at hq
        rw [if_neg hk, if_neg hk1, if_pos e2, if_neg h] at hq
        exact hq
    · refine k_hasRow hG hL hA (fun h => ⟨fun z => absurd z (by decide), fun _ => ?_⟩) (fun h => ⟨fun _ => ⟨fun _ => ?_, fun z => absurd z (by omega)⟩, fun z => absurd rfl z⟩)
      · rw [x13, n13, (hL.row h.1 h.2).1]
        refine ⟨h, ⟨by omega, by omega⟩, ?_⟩
        rw [b3 n side h.1 h.2 s0 s1]
        unfold zwt at hq
        rw [if_neg hk, if_pos hk1, if_pos h] at hq
        exact hq
      · show Qm 0 M
        unfold zwt at hq
        rw [if_neg hk, if_pos hk1, if_neg h] at hq
        exact hq
  · refine k_hasCell hG hL hA (fun h => ⟨fun z => absurd z (by decide), fun _ => ?_⟩) (fun h => ⟨fun _ => ⟨fun _ => ⟨fun _ => ?_, fun z => absurd z (by omega)⟩, fun z => absurd z (by omega)⟩, fun z => absurd rfl z⟩)
    · rw [x14, n14, (hL.cell h.1 h.2).1]
      refine ⟨h, ⟨by omega, by omega⟩, ?_⟩
      rw [b2 n side h.1 h.2 s0 s1]
      unfold zwt at hq
      rw [if_pos hk, if_pos h] at hq
      exact hq
    · show Qm 0 M
      unfold zwt at hq
      rw [if_pos hk, if_neg h] at hq
      exact hq
theorem k_greaterWeight (hG : Good T) (hL : zLk T) (hA : Ag T M) (hB : zBR T M) {kind n m side : Int} (k0 : 0 ≤ kind) (k2 : kind ≤ 2) (s0 : 0 ≤ side) (s1 : side < 4) {Qm : Int → Mem → Prop} (hq : Qm (max (zwt T M kind n side) (zwt T M kind m (Int.tmod (side + 2) 4))) M) : wp_X3_greaterWeight kind n m side M Qm := by
  have h2 : 0 ≤ Int.tmod (side + 2) 4 ∧ Int.tmod (side + 2) 4 < 4 := by
    rcases (by omega : side = 0 ∨ side = 1 ∨ side = 2 ∨ side = 3) with rfl | rfl | rfl | rfl <;> decide
  exact ⟨⟨by omega, by omega⟩, k_weightOf hG hL hA hB k0 k2 s0 s1 (k_weightOf hG hL hA hB k0 k2 h2.1 h2.2 hq)⟩
end TA
