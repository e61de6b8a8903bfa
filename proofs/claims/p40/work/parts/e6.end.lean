/-! pages: before a row's first piece; the end of the law's walk -/
section EF
variable {T M M0 : Mem} {Qm : Mem → Prop} {y9 y10 : Int}
theorem zWk.pre {S : zSt} (h : zWk T M0 M S) {r : Int} (hr : ∀ k, 0 ≤ k → k < S 0 0 → ¬ S 1 k = r) : zWk T M0 (up M 116 0 r (-1)) S := by
  obtain ⟨h1, h2, h3, h4⟩ := h
  refine ⟨fun s j k x1 x2 x3 => (up_s _ _ _ _ x3 _ _).trans (h1 s j k x1 x2 x3), ?_, ?_, fun k k0 k1 c0 c1 => ?_⟩
  · rw [up_ne (by decide)]; exact h2
  · rw [up_ne (by decide)]; exact h3
  · rw [up_k _ _ _ _ _ _ (hr k k0 k1)]
    exact h4 k k0 k1 c0 c1
theorem j_842 {S : zSt} (hS : 1 ≤ S 0 1 ∧ S 0 1 ≤ 1000) (e9 : y9 = zat T) (e10 : y10 = zsum T (zhH T) 0 + zsum T (zhH T) 2) (h9 : 0 ≤ y9 ∧ y9 ≤ 1) (h10 : 0 ≤ y10 ∧ y10 ≤ 1000) (hb : ∀ q, 0 ≤ q → q < S 0 1 → 0 ≤ zU T S q ∧ zU T S q ≤ 2000000) (hp : ∀ q, 0 ≤ q → q < 6 → q < S 0 1 → M 114 0 (1 + q) = zU T S q ∧ M 114 0 (7 + q) = S 6 q) (hq : ∀ M', (∀ (s : Nat) (j k : Int), s ≠ 114 → M' s j k = M s j k) → M' 114 0 0 = M 114 0 0 → (∀ q, 0 ≤ q → q < 6 → q < S 0 1 → M' 114 0 (1 + q) = zus T S q ∧ M' 114 0 (7 + q) = S 6 q) → Qm M') : ∃ n, wp_L_walk_842 Qm n y9 y10 (S 0 1 - 1) 0 M := by
  have ezus : ∀ q, zus T S q = zU T S q + ((y10 + (if q ≤ 0 then (0 : Int) else (1 + y9))) + (if S 0 1 - 1 ≤ q then (0 : Int) else y9)) := fun q => by
    unfold zus zU
    rw [e9, e10]
    omega
  refine zLoop (σ := Mem) (fun n k M' => wp_L_walk_842 Qm n y9 y10 (S 0 1 - 1) k M') (fun k M' => (∀ (s : Nat) (j i : Int), s ≠ 114 → M' s j i = M s j i) ∧ M' 114 0 0 = M 114 0 0 ∧ ∀ q, 0 ≤ q → q < 6 → q < S 0 1 → M' 114 0 (1 + q) = (if q < k then zus T S q else zU T S q) ∧ M' 114 0 (7 + q) = S 6 q) (min 6 (S 0 1)) (by omega) (s := M) ⟨fun _ _ _ _ => rfl, rfl, fun q q0 q1 q2 => by rw [if_neg (by omega)]; exact hp q q0 q1 q2⟩ (fun n M1 h => ?_) (fun n k M1 k0 k1 h ih => ?_)
  · obtain ⟨h1, h2, h3⟩ := h
    have fin : Qm M1 := hq M1 h1 h2 (fun q q0 q1 q2 => by
      have := h3 q q0 q1 q2
      rw [if_pos (by omega)] at this
      exact this)
    exact ⟨fun _ => fin, fun _ => ⟨fun _ => fin, fun z => absurd z (by omega)⟩⟩
  · obtain ⟨h1, h2, h3⟩ := h
    have w := h3 k k0 (by omega) (by omega)
    rw [if_neg (by omega)] at w
    have hu := hb k k0 (by omega)
    have v1 : 0 ≤ (if k ≤ 0 then (0 : Int) else (1 + y9)) ∧ (if k ≤ 0 then (0 : Int) else (1 + y9)) ≤ 2 := by split <;> omega
    have v2 : 0 ≤ (if S 0 1 - 1 ≤ k then (0 : Int) else y9) ∧ (if S 0 1 - 1 ≤ k then (0 : Int) else y9) ≤ 1 := by split <;> omega
    refine ⟨fun z => absurd z (by omega), fun _ => ⟨fun z => absurd z (by omega), fun _ => ?_⟩⟩
    rw [w.1, ← ezus]
    have hz := ezus k
    refine ⟨⟨by omega, by omega⟩, ⟨by omega, by omega⟩, fun _ => ⟨⟨by omega, by omega⟩, trivial⟩, ⟨by omega, by omega⟩, ⟨by omega, by omega⟩, ⟨by omega, by omega⟩, ⟨by omega, by omega⟩, ⟨by omega, by omega⟩, fun M2 e2 => ⟨⟨by omega, by omega⟩, ih M2 ⟨fun s j i hs => by rw [e2, up_s _ _ _ _ hs]; exact h1 s j i hs, by rw [e2, up_k _ _ _ _ _ _ (by omega)]; exact h2, fun q q0 q1 q2 => ?_⟩⟩⟩
    obtain ⟨x, y⟩ := h3 q q0 q1 q2
    refine ⟨?_, by rw [e2, up_k _ _ _ _ _ _ (by omega)]; exact y⟩
    rw [e2]
    by_cases e : q = k
    · rw [e, up_eq, if_pos (by omega)]
    · rw [up_k _ _ _ _ _ _ (by omega), x]
      by_cases l : q < k
      · rw [if_pos l, if_pos (by omega)]
      · rw [if_neg l, if_neg (by omega)]
end EF
