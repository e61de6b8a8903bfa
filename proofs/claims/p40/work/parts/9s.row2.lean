/-! the pure part: a new row, the call -/
section ZH
variable {T M : Mem} {O : zSt} {κ : Nat → Int} {K : (Nat → Int) → Mem → Prop} {p1 p2 p3 : Int}
def zb (x : Int) : Int := if x = 0 then 0 else 1
theorem zb_r (x : Int) : 0 ≤ zb x ∧ zb x ≤ 1 := by unfold zb; split <;> omega
theorem zRowQ.c1 (n m p : Int) (L : Nat) : zRowQ n m p L 10 0 10 := Or.inr (Or.inr (Or.inl ⟨rfl, rfl⟩))
theorem zRowQ.c2 (n m p : Int) (L : Nat) (s : Nat) (k : Int) (h : s = 6 ∨ s = 36 ∨ s = 37) : zRowQ n m p L s n k := Or.inr (Or.inr (Or.inr (Or.inl ⟨h, rfl⟩)))
theorem zRowQ.c4 (n m p : Int) (L : Nat) {k : Int} (h : k = -1 ∨ k = -2 ∨ k = m) : zRowQ n m p L L 0 k := Or.inr (Or.inr (Or.inr (Or.inr (Or.inl ⟨rfl, rfl, h⟩))))
theorem zRowQ.c5 (n m p : Int) (L : Nat) {k : Int} (h : k = -1 ∨ k = -2 ∨ k = n) : zRowQ n m p L 13 0 k := Or.inr (Or.inr (Or.inr (Or.inr (Or.inr (Or.inl ⟨rfl, rfl, h⟩)))))
theorem zRowQ.c6 (n m p : Int) (L : Nat) {s : Nat} (h : s = L + 6 ∨ s = 19) : zRowQ n m p L s 0 (-1) := Or.inr (Or.inr (Or.inr (Or.inr (Or.inr (Or.inr (Or.inl ⟨h, rfl, rfl⟩))))))
theorem zRowQ.c7 (n m p : Int) (L : Nat) {s : Nat} (h : s = 60 ∨ s = 61 ∨ s = 62) : zRowQ n m p L s 0 n := Or.inr (Or.inr (Or.inr (Or.inr (Or.inr (Or.inr (Or.inr (Or.inl ⟨h, rfl, rfl⟩)))))))
theorem zRowQ.c8 (n m p : Int) (L : Nat) : zRowQ n m p L 63 0 (24 * p + m) := Or.inr (Or.inr (Or.inr (Or.inr (Or.inr (Or.inr (Or.inr (Or.inr (Or.inl ⟨rfl, rfl, rfl⟩))))))))
theorem zRowQ.c9 (n m p : Int) (L : Nat) : zRowQ n m p L 64 0 p := Or.inr (Or.inr (Or.inr (Or.inr (Or.inr (Or.inr (Or.inr (Or.inr (Or.inr ⟨rfl, rfl, rfl⟩))))))))
theorem zRowQ.c11 (n m p : Int) (L : Nat) {k : Int} (h : k = 59 ∨ k = 8) : zRowQ n m p L 11 0 k := Or.inr (Or.inl ⟨rfl, h⟩)
theorem zRowQ.no (n m p : Int) (L : Nat) (h : 15 ≤ L ∧ L ≤ 17) : ¬ zRowQ n m p L 11 0 4 := by unfold zRowQ; omega
end ZH
