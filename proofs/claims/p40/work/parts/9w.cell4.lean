/-! the pure part: a new cell, the call -/
section ZL
variable {T M : Mem} {O : zSt} {κ : Nat → Int} {K : (Nat → Int) → Mem → Prop} {p1 p2 p3 p4 : Int}
theorem Fj.m1 {Z : Nat → Int → Int → Prop} {M' : Mem} (h : Fj Z M M') {n a b c d : Int} (hz : ∀ (s : Nat) (k : Int), (s = 1 ∨ s = 24 ∨ s = 25 ∨ s = 26) → Z s n k) : Fj Z M (M1 M' n a b c d) := fun s j k z => by
  unfold M1
  rw [if_neg (fun w => z (by rw [w.1, w.2]; exact hz 1 k (by decide))), if_neg (fun w => z (by rw [w.1, w.2]; exact hz 24 k (by decide))), if_neg (fun w => z (by rw [w.1, w.2]; exact hz 25 k (by decide))), if_neg (fun w => z (by rw [w.1, w.2]; exact hz 26 k (by decide)))]
  exact h s j k z
theorem zAcQ_cel (n : Int) : ∀ s j k, zAcQ n s j k → zCelQ n s j k := fun s j k z => by
  rcases z with z | z | z | z
  · exact Or.inr (Or.inr (Or.inr (Or.inr (Or.inl z))))
  · exact Or.inr (Or.inr (Or.inr (Or.inl ⟨Or.inl z.1, z.2.1⟩)))
  · exact Or.inr (Or.inr (Or.inr (Or.inr (Or.inr (Or.inl z)))))
  · exact Or.inr (Or.inr (Or.inr (Or.inr (Or.inr (Or.inr (Or.inl z))))))
theorem zCelQ.c1 (n : Int) : zCelQ n 10 0 10 := Or.inr (Or.inr (Or.inl ⟨rfl, rfl⟩))
theorem zCelQ.c2 (n : Int) {k : Int} (h : k = 59 ∨ k = 15) : zCelQ n 11 0 k := Or.inr (Or.inl ⟨rfl, h⟩)
theorem zCelQ.c3 (n : Int) (s : Nat) (k : Int) (h : s = 1 ∨ s = 24 ∨ s = 25 ∨ s = 26) : zCelQ n s n k := Or.inr (Or.inr (Or.inr (Or.inl ⟨h, rfl⟩)))
theorem zCelQ.c4 (n : Int) {s : Nat} (h : 65 ≤ s ∧ s ≤ 68) : zCelQ n s 0 n := Or.inr (Or.inr (Or.inr (Or.inr (Or.inr (Or.inr (Or.inr (Or.inl ⟨h, rfl, rfl⟩)))))))
theorem zCelQ.c5 (n : Int) (j k : Int) : zCelQ n 69 j k := Or.inr (Or.inr (Or.inr (Or.inr (Or.inr (Or.inr (Or.inr (Or.inr rfl)))))))
/-- what the class alone holds -/
def zcls (s : Nat) : Bool := decide (s = 1) || decide (s = 14) || decide (s = 20) || decide (s = 24) || decide (s = 25) || decide (s = 26) || decide (s = 37)
def zCcQ : Nat → Int → Int → Prop := fun s _ k => s = 103 ∨ (s = 10 ∧ k = 10) ∨ zcls s = true
theorem zAcQ_cc (n : Int) : ∀ s j k, zAcQ n s j k → zCcQ s j k := by
  intro s j k z
  refine Or.inr (Or.inr ?_)
  rcases z with z | z | z | z
  · rw [z]; rfl
  · rw [z.1]; rfl
  · rw [z.1]; rfl
  · rw [z.1]; rfl
def zT1 (T N : Mem) : Mem := fun s => if zcls s = true then N s else T s
theorem zT1_e (T N : Mem) {s : Nat} (h : zcls s = false) : zT1 T N s = T s := by
  unfold zT1
  rw [if_neg (by rw [h]; decide)]
theorem zT1_ag {N : Mem} (hA : Ag T M) (f : Fj zCcQ M N) : Ag (zT1 T N) N := fun s j k z => by
  by_cases e : zcls s = true
  · have : zT1 T N s = N s := by unfold zT1; rw [if_pos e]
    rw [this]
  · rw [zT1_e T N (Bool.eq_false_iff.mpr e)]
    have hz : ¬ zCcQ s j k := fun w => by
      rcases w with w | w | w
      · rw [w] at z
        have : zin 103 k = false := rfl
        rw [this] at z; cases z
      · rw [w.1, w.2] at z
        have : zin 10 10 = false := rfl
        rw [this] at z; cases z
      · exact e w
    rw [f s j k hz]
    exact hA s j k z
end ZL
