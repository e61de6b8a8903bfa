/-! the pure part: the reference's widths -/
section RX
variable {T M : Mem}
theorem zLf_r (hG : Good T) {k : Int} : 0 ≤ zLf T k ∧ zLf T k ≤ 11 := by
  have a := zlef_r hG (k := k) hG.nR.1
  have b := zleft_r (zabv T k (T 11 0 8))
  have c := zleft_r (zblw T k (T 11 0 8))
  unfold zLf
  split <;> omega
theorem zRg_r (hG : Good T) {k : Int} (k0 : 0 ≤ k) (k1 : k < 6) : 0 ≤ zRg T k ∧ zRg T k ≤ 4 := zrig_r hG k0 k1 hG.nR.1 (Int.le_refl _)
theorem zb0_r (hG : Good T) (k : Int) : 0 ≤ zb0 T k ∧ zb0 T k ≤ 15 := by
  have hC := hG.nC
  unfold zb0
  split
  · rename_i h
    have a := zLf_r hG (k := k)
    have b := zRg_r hG (k := k) (by omega) (by omega)
    omega
  · omega
theorem zb1_r (hG : Good T) (most : Int) {n : Int} (n0 : 0 ≤ n) (n1 : n ≤ T 11 0 15) : ∀ k, 0 ≤ zb1 T most n k ∧ zb1 T most n k ≤ 260 := by
  refine zF_ind (fun _ (w : Int → Int) => ∀ k, 0 ≤ w k ∧ w k ≤ 260) n0 (fun k => by have := zb0_r hG k; omega) (fun c v a b hv => ?_)
  show ∀ k, 0 ≤ (if zshows T c = 1 then zset v (zlast T c) (max (v (zlast T c)) (zwant T most c)) else v) k ∧ (if zshows T c = 1 then zset v (zlast T c) (max (v (zlast T c)) (zwant T most c)) else v) k ≤ 260
  intro k
  split
  · have := zwant_r hG most a (by omega)
    have h1 := hv k
    have h2 := hv (zlast T c)
    unfold zset
    split <;> omega
  · exact hv k
theorem zb2_r (hG : Good T) (most : Int) : zWB T (zb2 T most) :=
  zspr_r hG (fun k _ _ => by have := zb1_r hG most hG.nK.1 (Int.le_refl _) k; omega) (by omega)
theorem zls_r (hG : Good T) {k : Int} (k0 : 0 ≤ k) (k1 : k < T 11 0 4) : 0 ≤ zls T k ∧ zls T k ≤ zms T k ∧ zms T k ≤ 300 := by
  have a := zb2_r hG 0 k k0 k1
  have b := zb2_r hG 1 k k0 k1
  unfold zls zms
  split <;> omega
theorem zpart_eq (a b : Int) : (if a * b < 0 then -(Int.tdiv (-(a * b) + 99) 100) else Int.tdiv (a * b) 100) = zpart a b := by
  unfold zpart
  generalize a * b = x
  rw [Int.fdiv_eq_ediv_of_nonneg _ (by omega)]
  split
  · rw [Int.tdiv_eq_ediv_of_nonneg (by omega)]; omega
  · rw [Int.tdiv_eq_ediv_of_nonneg (by omega)]
theorem zpart_r {a b : Int} (h0 : -6 ≤ a) (h1 : a ≤ 156) (h2 : 1 ≤ b) (h3 : b ≤ 60) : -360 ≤ a * b ∧ a * b ≤ 9360 ∧ -4 ≤ zpart a b ∧ zpart a b ≤ 94 := by
  have e1 : -360 ≤ a * b := by
    have := Int.mul_le_mul_of_nonneg_right h0 (show 0 ≤ b by omega)
    omega
  have e2 : a * b ≤ 9360 := by
    have := Int.mul_le_mul_of_nonneg_right h1 (show 0 ≤ b by omega)
    omega
  unfold zpart
  rw [Int.fdiv_eq_ediv_of_nonneg _ (by omega)]
  omega
theorem znar_r (hG : Good T) {k : Int} (k0 : 0 ≤ k) (k1 : k < T 11 0 4) : 0 ≤ znar T k ∧ znar T k ≤ 300 := by
  obtain ⟨c1, c2, c3, c4⟩ := hG.col k k0 k1
  have hv := zvis_r hG
  have hn := hG.n
  have hl := zls_r hG k0 k1
  obtain ⟨r1, r2, r3, r4⟩ := zpart_r (a := T 11 0 24 - (zvis T - 1)) (b := T 57 0 k) (by have := hn.2.2.2.1; omega) (by have := hn.2.2.2.1; omega) c2.1 c2.2
  unfold znar
  split
  · split
    · omega
    · split <;> omega
  · omega
theorem zsumw_r (hG : Good T) {w : Int → Int} (hb : zWB T w) : -1 ≤ zsumw T w ∧ zsumw T w ≤ 1805 := by
  have hC := hG.nC
  have hv := zvis_r hG
  have := zS_bd (f := w) (a := 0) (b := T 11 0 4) 0 300 hC.1 (fun k a b => hb k a b)
  unfold zsumw
  split <;> omega
end RX
