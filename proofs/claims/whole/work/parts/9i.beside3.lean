/-! the pure part: the row beside, in the reference -/
section WA
variable {T M : Mem}
theorem q_nextRow (hG : Good T) (hA : Ag T M) {r st : Int} (hst : st = 1 ∨ st = -1) (r0 : 0 ≤ r) (r1 : r < T 11 0 8) {Qm : Int → Mem → Prop} (hq : Qm (zRA T (zoff T (T 60 0 r) + T 6 r 6 + st)) M) : wp_X10_nextRow r st M Qm := by
  have hR := hG.nR
  have x60 := hA.s60
  have x63 := hA.s63
  have x64 := hA.s64
  have m0 := hG.many (p := 0) (by omega) (by omega)
  have m1 := hG.many (p := 1) (by omega) (by omega)
  have m2 := hG.many (p := 2) (by omega) (by omega)
  obtain ⟨w1, -, -, w4, -⟩ := hG.row r r0 r1
  have mp := hG.many (p := T 60 0 r) w1.1 w1.2
  have o0 : zoff T 0 = 0 := rfl
  have o1 : zoff T 1 = T 64 0 0 := rfl
  have o2 : zoff T 2 = T 64 0 0 + T 64 0 1 := rfl
  obtain ⟨a, ea⟩ : ∃ a, a = zoff T (T 60 0 r) + T 6 r 6 + st := ⟨_, rfl⟩
  rw [← ea] at hq
  refine ⟨⟨by omega, by omega⟩, q_placeOf hG hA r0 r1 ⟨by rcases hst with rfl | rfl <;> exact ⟨by omega, by omega⟩, ?_⟩⟩
  rw [x60]
  refine zWhile (σ := Int × Int) (fun n q => wp_X10_nextRow_16 r st Qm n q.1 q.2 M) (fun q => (-1 ≤ q.1 ∧ q.1 ≤ 3) ∧ (0 ≤ q.1 → q.1 ≤ 2 → a = zoff T q.1 + q.2 ∧ (st = 1 → 0 ≤ q.2 ∧ q.2 ≤ T 64 0 q.1) ∧ (st = -1 → -1 ≤ q.2 ∧ q.2 < T 64 0 q.1)) ∧ (q.1 < 0 → a = -1) ∧ (2 < q.1 → a = T 64 0 0 + T 64 0 1 + T 64 0 2)) (fun q => if st = 1 then (3 - q.1).toNat else (q.1 + 1).toNat) (fun n q hI ih => ?_) (T 60 0 r, T 6 r 6 + st) ⟨⟨by show -1 ≤ T 60 0 r; omega, by show T 60 0 r ≤ 3; omega⟩, fun _ _ => ⟨by show a = zoff T (T 60 0 r) + (T 6 r 6 + st); omega, fun _ => by show 0 ≤ T 6 r 6 + st ∧ T 6 r 6 + st ≤ T 64 0 (T 60 0 r); omega, fun _ => by show -1 ≤ T 6 r 6 + st ∧ T 6 r 6 + st < T 64 0 (T 60 0 r); omega⟩, fun z => absurd (show T 60 0 r < 0 from z) (by omega), fun z => absurd (show 2 < T 60 0 r from z) (by omega)⟩
  obtain ⟨y3, y4⟩ := q
  obtain ⟨⟨b0, b1⟩, c1, c2, c3⟩ := hI
  dsimp only at b0 b1 c1 c2 c3 ih ⊢
  simp only [wp_X10_nextRow_16, wp_X10_nextRow_80, x63, x64]
  unfold zRA at hq
  refine ⟨fun z => ⟨fun w => absurd w (by omega), ?_⟩, fun z => ⟨fun w => ⟨fun _ => ⟨fun v => absurd v (by omega), trivial⟩, ?_⟩, fun w => ⟨⟨by omega, by omega⟩, ?_⟩⟩⟩
  · rw [if_pos z]
    rw [if_pos (by have := c2 z; omega)] at hq
    exact hq
  · rw [if_neg (by omega), if_neg (by omega)]
    have := c3 w
    rw [if_neg (by omega), if_neg (by omega), if_neg (by omega), if_neg (by omega)] at hq
    exact hq
  · obtain ⟨d1, d2, d3⟩ := c1 z w
    have mq := hG.many (p := y3) z w
    refine ⟨⟨by omega, by omega⟩, q_in (fun hin => ⟨fun _ => ⟨fun _ => ⟨fun _ => ⟨⟨by omega, by omega⟩, ⟨by omega, by omega⟩, ⟨by omega, by omega⟩, trivial⟩, trivial⟩, ?_⟩, fun v => absurd v (by decide)⟩) (fun hin => ⟨fun v => absurd rfl v, fun _ => ?_⟩)⟩
    · rw [if_neg (by omega), if_pos w, x63]
      rcases (by omega : y3 = 0 ∨ y3 = 1 ∨ y3 = 2) with rfl | rfl | rfl
      · rw [o0] at d1
        rw [if_neg (by omega), if_pos (by omega), show a = 24 * 0 + y4 by omega] at hq
        exact hq
      · rw [o1] at d1
        rw [if_neg (by omega), if_neg (by omega), if_pos (by omega), show 24 + (a - T 64 0 0) = 24 * 1 + y4 by omega] at hq
        exact hq
      · rw [o2] at d1
        rw [if_neg (by omega), if_neg (by omega), if_neg (by omega), if_pos (by omega), show 48 + (a - T 64 0 0 - T 64 0 1) = 24 * 2 + y4 by omega] at hq
        exact hq
    · rw [x64]
      rcases hst with rfl | rfl
      · have hy4 : y4 = T 64 0 y3 := by have := d2 rfl; omega
        have e0 : (if y3 + 1 < 0 then (0 : Int) else if y3 + 1 ≤ 2 then (if (1 : Int) ≤ 0 then T 64 0 (y3 + 1) - 1 else 0) else 0) = 0 := by
          split
          · rfl
          · split
            · rfl
            · rfl
        refine ⟨⟨by omega, by omega⟩, fun _ => ⟨fun _ => ⟨fun v => absurd v (by decide), by rw [if_neg (by decide)]; exact ⟨by omega, by omega⟩, trivial⟩, by split <;> (first | (rw [if_neg (by decide)]; exact ⟨by omega, by omega⟩) | exact ⟨by omega, by omega⟩), trivial⟩, by rw [e0]; exact ⟨by omega, by omega⟩, ?_⟩
        rw [e0]
        refine ih (y3 + 1, 0) ⟨by dsimp only; omega, fun u v => ?_, fun u => ?_, fun u => ?_⟩ ?_
        · dsimp only at u v ⊢
          have mn := hG.many (p := y3 + 1) u v
          refine ⟨?_, fun _ => by omega, fun k => absurd k (by decide)⟩
          rcases (by omega : y3 = 0 ∨ y3 = 1) with rfl | rfl
          · show a = zoff T 1 + 0; rw [o1]; rw [o0] at d1; omega
          · show a = zoff T 2 + 0; rw [o2]; rw [o1] at d1; omega
        · dsimp only at u; omega
        · dsimp only at u
          have : y3 = 2 := by omega
          rw [this, o2] at d1
          rw [this] at hy4
          omega
        · dsimp only; rw [if_pos rfl, if_pos rfl]; omega
      · have hy4 : y4 = -1 := by have := d3 rfl; omega
        have mrg : 0 ≤ y3 + -1 → y3 + -1 ≤ 2 → 0 ≤ T 64 0 (y3 + -1) ∧ T 64 0 (y3 + -1) ≤ 24 := fun u v => hG.many u v
        have eR : ∀ P : Int → Prop, (y3 + -1 < 0 → P 0) → (0 ≤ y3 + -1 → P (T 64 0 (y3 + -1) - 1)) → P (if y3 + -1 < 0 then (0 : Int) else if y3 + -1 ≤ 2 then (if (-1 : Int) ≤ 0 then T 64 0 (y3 + -1) - 1 else 0) else 0) := fun P f g => by
          by_cases u : y3 + -1 < 0
          · rw [if_pos u]; exact f u
          · rw [if_neg u, if_pos (by omega), if_pos (by decide)]; exact g (by omega)
        refine ⟨⟨by omega, by omega⟩, fun u => ⟨fun v => ⟨fun _ => ⟨⟨by omega, by omega⟩, by have := mrg u v; exact ⟨by omega, by omega⟩, trivial⟩, by rw [if_pos (by decide)]; have := mrg u v; exact ⟨by omega, by omega⟩, trivial⟩, by rw [if_pos (by omega : y3 + -1 ≤ 2), if_pos (by decide)]; have := mrg u (by omega); exact ⟨by omega, by omega⟩, trivial⟩, eR inR (fun _ => ⟨by omega, by omega⟩) (fun u => by have := mrg u (by omega); exact ⟨by omega, by omega⟩), ?_⟩
        refine eR (fun t => wp_X10_nextRow_16 r (-1) Qm n (y3 + -1) t M) (fun u => ?_) (fun u => ?_)
        · refine ih (y3 + -1, 0) ⟨by dsimp only; omega, fun k => ?_, fun _ => ?_, fun k => ?_⟩ ?_
          · dsimp only at k; omega
          · have : y3 = 0 := by omega
            rw [this, o0] at d1; omega
          · dsimp only at k; omega
          · dsimp only; rw [if_neg (by decide), if_neg (by decide)]; omega
        · have mn := mrg u (by omega)
          refine ih (y3 + -1, T 64 0 (y3 + -1) - 1) ⟨by dsimp only; omega, fun _ _ => ?_, fun k => ?_, fun k => ?_⟩ ?_
          · dsimp only
            refine ⟨?_, fun k => absurd k (by decide), fun _ => by omega⟩
            rcases (by omega : y3 = 1 ∨ y3 = 2) with rfl | rfl
            · show a = zoff T 0 + (T 64 0 0 - 1); rw [o0]; rw [o1] at d1; omega
            · show a = zoff T 1 + (T 64 0 1 - 1); rw [o1]; rw [o2] at d1; omega
          · dsimp only at k; omega
          · dsimp only at k; omega
          · dsimp only; rw [if_neg (by decide), if_neg (by decide)]; omega
end WA
