/-! the pure part: what holds at first -/
theorem M0_4 : M0 11 0 4 = 0 := by decide
theorem M0_8 : M0 11 0 8 = 0 := by decide
theorem M0_15 : M0 11 0 15 = 0 := by decide
theorem M0_64 (p : Int) : M0 64 0 p = 0 := M0_z (by decide) (by decide)
theorem good_M0 : Good M0 := by
  refine ⟨?_, fun k k0 k1 => ?_, ⟨Or.inl M0_4, fun k _ _ => ⟨M0_z (by decide) (by decide), M0_z (by decide) (by decide)⟩⟩, fun r r0 r1 => ?_, fun p k p0 p2 k0 k1 => ?_, fun c c0 c1 => ?_, fun c i c0 c1 => ?_, fun r k r0 r1 => ?_, fun c r k c0 c1 => ?_, trivial⟩
  · unfold zG0
    decide
  · rw [M0_4] at k1; omega
  · rw [M0_8] at r1; omega
  · rw [M0_64] at k1; omega
  · rw [M0_15] at c1; omega
  · rw [M0_15] at c1; omega
  · rw [M0_8] at r1; omega
  · rw [M0_15] at c1; omega
theorem zLk_M0 : zLk M0 := by
  refine ⟨⟨?_, ?_, ?_⟩, fun k k0 k1 => ?_, fun r r0 r1 => ?_, fun c c0 c1 => ?_, fun p p0 p2 => ⟨?_, fun k k0 k1 => ?_⟩, fun k k0 k6 => ?_, ⟨by decide, by decide, by decide, trivial⟩, trivial⟩
  · rw [M0_4]; exact M0_z (by decide) (by decide)
  · rw [M0_8]; exact M0_z (by decide) (by decide)
  · rw [M0_15]; exact M0_z (by decide) (by decide)
  · rw [M0_4] at k1; omega
  · rw [M0_8] at r1; omega
  · rw [M0_15] at c1; omega
  · rw [M0_64]
    refine M0_z ?_ ?_
    · have := rowL_15 p0 p2; omega
    · have := rowL_15 p0 p2; omega
  · rw [M0_64] at k1; omega
  · rw [M0_4, if_neg (by omega)]; exact M0_z (by decide) (by decide)
theorem iv_M0 : Iv M0 (fun _ _ => 0) κ0 M0 := by
  refine ⟨good_M0, zLk_M0, Ag.rf M0, ?_, ?_, ?_, fun z => ?_, ?_, ?_, ?_⟩
  · refine ⟨⟨⟨by decide, by decide⟩, ⟨by decide, by decide⟩, fun k k0 k1 => ?_, fun p p0 p1 => ?_, fun p p0 p1 => ?_⟩, fun k k0 k1 => ?_, fun c _ _ => ⟨Int.le_refl (0 : Int), (by decide : (0 : Int) ≤ 1)⟩, fun _ _ _ => rfl⟩
    · exact absurd k1 (by show ¬ k < 0; omega)
    · exact absurd p1 (by show ¬ p < 0; omega)
    · exact absurd p1 (by show ¬ p < 0; omega)
    · exact absurd k1 (by show ¬ k < 0; omega)
  · refine ⟨by decide, by decide, fun k k0 k1 => ?_, fun p p0 p1 => ?_, fun p c p0 p1 => ?_, fun c _ _ => M0_z (by decide) (by decide)⟩
    · exact absurd k1 (by show ¬ k < 0; omega)
    · exact absurd p1 (by show ¬ p < 0; omega)
    · exact absurd p1 (by show ¬ p < 0; omega)
  · refine ⟨⟨⟨M0_z (by decide) (by decide), M0_z (by decide) (by decide), fun p p0 p1 => ?_⟩, fun k k0 k1 => ?_⟩, fun h => ?_, fun p p0 p1 => ?_, fun p c p0 p1 => ?_⟩
    · exact absurd p1 (by show ¬ p < 0; omega)
    · exact absurd k1 (by show ¬ k < 0; omega)
    · exact absurd h (by show ¬ (0 : Int) < 0; decide)
    · exact absurd p1 (by show ¬ p < 0; omega)
    · exact absurd p1 (by show ¬ p < 0; omega)
  · exact absurd z (by decide)
  · refine ⟨⟨by decide, by decide, by decide⟩, fun s s0 s1 => ?_⟩
    have e1 : ∀ k, M0 s 0 k = 0 := fun k => M0_z (by omega) (by omega)
    have e2 : ∀ k, M0 (s + 6) 0 k = 0 := fun k => M0_z (by omega) (by omega)
    rw [e1, e1, e2]
    exact ⟨rfl, by decide, by decide⟩
  · refine ⟨fun c _ _ => ⟨M0_z (by decide) (by decide), M0_z (by decide) (by decide), M0_z (by decide) (by decide), M0_z (by decide) (by decide), M0_z (by decide) (by decide)⟩, fun r k _ _ _ _ => M0_z (by decide) (by decide)⟩
  · have hz : ∀ (s : Nat) (q : Int), s ≠ 10 → s ≠ 11 → (0 ≤ M0 s 0 q ∧ M0 s 0 q ≤ 5) ∧ M0 s 0 q = 0 := fun s q a b => by
      rw [M0_z a b]
      exact ⟨⟨by decide, by decide⟩, rfl⟩
    refine ⟨⟨by decide, by decide⟩, fun c k c0 c1 => ?_, fun r k r0 r1 => ?_, fun c k c0 c1 => ?_, fun q _ _ => ⟨(hz 77 q (by decide) (by decide)).1, fun _ => (hz 77 q (by decide) (by decide)).2⟩, fun q _ _ => ⟨(hz 78 q (by decide) (by decide)).1, fun _ => (hz 78 q (by decide) (by decide)).2⟩, fun q _ _ => ⟨(hz 79 q (by decide) (by decide)).1, fun _ => (hz 79 q (by decide) (by decide)).2⟩⟩
    · rw [M0_15] at c1; omega
    · rw [M0_8] at r1; omega
    · rw [M0_4] at c1; omega
theorem w66_M0 : wp_L_holds_66 (fun v => v = 1) κ0 M0 := j_h66 iv_M0 ⟨M0_4, M0_8, M0_15, by decide, by decide, by decide⟩ (fun q => ⟨M0_z (by decide) (by decide), M0_z (by decide) (by decide)⟩) (M0_z (by decide) (by decide)) (fun s hs q => M0_z (by omega) (by omega)) (by decide) (fun s hs => by
  have z : ∀ t : Fin 118, 114 ≤ (t : Nat) → κ0 t = 0 := by decide +kernel
  exact z ⟨s, by omega⟩ hs.1) rfl
