/-! the pure part: the column beside -/
section UA
variable {T M : Mem}
/-- the next column that is shown, or none -/
def zNC (T : Mem) (c st r : Int) : Prop := (r = -1 ∧ ∀ k, 0 ≤ k → k < T 11 0 4 → 0 < st * (k - c) → ¬ T 59 0 k = 0) ∨ ((0 ≤ r ∧ r < T 11 0 4) ∧ T 59 0 r = 0 ∧ 0 < st * (r - c) ∧ ∀ k, 0 ≤ k → k < T 11 0 4 → 0 < st * (k - c) → st * (k - r) < 0 → ¬ T 59 0 k = 0)
theorem zNC_uni {c st a b : Int} (hst : st = 1 ∨ st = -1) (ha : zNC T c st a) (hb : zNC T c st b) : a = b := by
  rcases ha with ⟨a1, a2⟩ | ⟨a1, a2, a3, a4⟩
  · rcases hb with ⟨b1, b2⟩ | ⟨b1, b2, b3, b4⟩
    · omega
    · exact absurd b2 (a2 b b1.1 b1.2 b3)
  · rcases hb with ⟨b1, b2⟩ | ⟨b1, b2, b3, b4⟩
    · exact absurd a2 (b2 a a1.1 a1.2 a3)
    · by_cases e : a = b
      · exact e
      · by_cases f : st * (a - b) < 0
        · exact absurd a2 (b4 a a1.1 a1.2 a3 f)
        · refine absurd b2 (a4 b b1.1 b1.2 b3 ?_)
          rcases hst with rfl | rfl <;> omega
theorem k_columnBeside (hG : Good T) (hL : zLk T) (hA : Ag T M) {c st : Int} (hst : st = 1 ∨ st = -1) (c0 : 0 ≤ c) (c1 : c < T 11 0 4) {Qm : Int → Mem → Prop} (hq : ∀ r, zNC T c st r → Qm r M) : wp_X3_columnBeside c st M Qm := by
  have hC := hG.nC
  have := zWhile (fun n i => wp_X3_columnBeside_5 c st Qm n (c + st * i) i M) (fun i => 0 ≤ i ∧ i ≤ 6 ∧ ∀ k, 0 ≤ k → k < T 11 0 4 → 0 < st * (k - c) → st * (k - c) ≤ i → ¬ T 59 0 k = 0) (fun i => (6 - i).toNat) (fun n i hi ih => ?_) 0 ⟨by omega, by omega, fun k _ _ a b => absurd a (by omega)⟩
  · rw [show c + st * 0 = c by omega] at this
    exact this
  · obtain ⟨i0, i6, hh⟩ := hi
    have es : c + st * i + st = c + st * (i + 1) := by rw [Int.mul_add, Int.mul_one]; omega
    have hb : -100 ≤ st * (i + 1) ∧ st * (i + 1) ≤ 100 := by rcases hst with rfl | rfl <;> omega
    show wp_X3_columnBeside_5 c st Qm (n + 1) (c + st * i) i M
    simp only [wp_X3_columnBeside_5, es]
    refine ⟨fun z => hq (-1) (Or.inl ⟨rfl, fun k k0 k1 a => hh k k0 k1 a ?_⟩), fun z => ⟨⟨by omega, by omega⟩, k_isShown hG hL hA (fun h => ⟨fun w => absurd w (by decide), fun _ => hq _ (Or.inr ⟨⟨h.1, h.2.1⟩, h.2.2, ?_, fun k k0 k1 a b => hh k k0 k1 a ?_⟩)⟩) (fun h => ⟨fun _ => ⟨⟨by omega, by omega⟩, ih (i + 1) ⟨by omega, by omega, fun k k0 k1 a b => ?_⟩ (by omega)⟩, fun w => absurd rfl w⟩)⟩⟩
    · rcases hst with rfl | rfl <;> omega
    · rcases hst with rfl | rfl <;> omega
    · rcases hst with rfl | rfl <;> omega
    · by_cases e : st * (k - c) ≤ i
      · exact hh k k0 k1 a e
      · have ek : k = c + st * (i + 1) := by rcases hst with rfl | rfl <;> omega
        rw [← ek] at h
        exact fun w => h ⟨k0, k1, w⟩
end UA
