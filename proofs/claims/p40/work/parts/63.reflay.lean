/-! the pure part: the reference lays widths -/
section RL
variable {T M : Mem}
theorem zdg_r (n : Nat) : ∀ w : Int, 0 ≤ zdg n w ∧ zdg n w ≤ n := by
  induction n with
  | zero => intro w; exact ⟨Int.le_refl _, Int.le_refl _⟩
  | succ n ih =>
    intro w
    have := ih (Int.tdiv w 10)
    show 0 ≤ (if w ≤ 9 then 0 else 1 + zdg n (Int.tdiv w 10)) ∧ (if w ≤ 9 then 0 else 1 + zdg n (Int.tdiv w 10)) ≤ ((n + 1 : Nat) : Int)
    split <;> omega
theorem zleft_r (h : Int) : 1 ≤ zleft h ∧ zleft h ≤ 11 := by
  have := zdg_r 9 (Int.tdiv (zabs h) 100)
  unfold zleft
  split <;> omega
def zpw : Nat → Int
  | 0 => 10
  | m + 1 => 10 * zpw m
theorem zright_r (hG : Good T) {c : Int} (h0 : 0 ≤ c) (h1 : c < T 11 0 15) : 0 ≤ zright T c ∧ zright T c ≤ 4 := by
  obtain ⟨w1, w2, w3, w4, w5, w6, w7, w8, w9, w10, w11, w12⟩ := hG.cell c h0 h1
  unfold zright
  split <;> split <;> omega
/-- what figures make of a column, by the rows gone through -/
theorem zlef_r (hG : Good T) {k n : Int} (n0 : 0 ≤ n) : 0 ≤ zlef T k n ∧ zlef T k n ≤ 11 := by
  refine zF_ind (fun _ m => 0 ≤ m ∧ m ≤ 11) n0 (by omega) (fun r v a b hv => ?_)
  show 0 ≤ (if zfig T r k = -1 then v else max v (zleft (T 74 0 (zfig T r k)))) ∧ (if zfig T r k = -1 then v else max v (zleft (T 74 0 (zfig T r k)))) ≤ 11
  have := zleft_r (T 74 0 (zfig T r k))
  split <;> omega
theorem zrig_r (hG : Good T) {k n : Int} (k0 : 0 ≤ k) (k1 : k < 6) (n0 : 0 ≤ n) (n1 : n ≤ T 11 0 8) : 0 ≤ zrig T k n ∧ zrig T k n ≤ 4 := by
  refine zF_ind (fun _ m => 0 ≤ m ∧ m ≤ 4) n0 (by omega) (fun r v a b hv => ?_)
  show 0 ≤ (if zfig T r k = -1 then v else max v (zright T (zfig T r k))) ∧ (if zfig T r k = -1 then v else max v (zright T (zfig T r k))) ≤ 4
  split
  · exact hv
  · rename_i h
    obtain ⟨f1, f2, -⟩ := zfig_r hG a (by omega) k0 k1 h
    have := zright_r hG f1 f2
    omega
theorem zabv_r (hG : Good T) {k n : Int} (k0 : 0 ≤ k) (k1 : k < 6) (n0 : 0 ≤ n) (n1 : n ≤ T 11 0 8) : 0 ≤ zabv T k n ∧ zabv T k n ≤ 1000000 * n := by
  have := zS_bd (f := fun r => if zfig T r k = -1 then 0 else if ¬ T 60 0 r = 1 then 0 else if T 74 0 (zfig T r k) ≤ 0 then 0 else T 74 0 (zfig T r k)) (a := 0) (b := n) 0 1000000 n0 (fun r a b => by
    show 0 ≤ (if zfig T r k = -1 then 0 else if ¬ T 60 0 r = 1 then 0 else if T 74 0 (zfig T r k) ≤ 0 then 0 else T 74 0 (zfig T r k)) ∧ (if zfig T r k = -1 then 0 else if ¬ T 60 0 r = 1 then 0 else if T 74 0 (zfig T r k) ≤ 0 then 0 else T 74 0 (zfig T r k)) ≤ 1000000
    by_cases h : zfig T r k = -1
    · rw [if_pos h]; omega
    · rw [if_neg h]
      obtain ⟨f1, f2, -⟩ := zfig_r hG a (by omega) k0 k1 h
      obtain ⟨w1, w2, w3, w4, w5, w6, w7, w8, w9, w10, w11, w12⟩ := hG.cell _ f1 f2
      split
      · omega
      · split <;> omega)
  unfold zabv
  omega
theorem zblw_r (hG : Good T) {k n : Int} (k0 : 0 ≤ k) (k1 : k < 6) (n0 : 0 ≤ n) (n1 : n ≤ T 11 0 8) : -1000000 * n ≤ zblw T k n ∧ zblw T k n ≤ 0 := by
  have := zS_bd (f := fun r => if zfig T r k = -1 then 0 else if ¬ T 60 0 r = 1 then 0 else if 0 ≤ T 74 0 (zfig T r k) then 0 else T 74 0 (zfig T r k)) (a := 0) (b := n) (-1000000) 0 n0 (fun r a b => by
    show -1000000 ≤ (if zfig T r k = -1 then 0 else if ¬ T 60 0 r = 1 then 0 else if 0 ≤ T 74 0 (zfig T r k) then 0 else T 74 0 (zfig T r k)) ∧ (if zfig T r k = -1 then 0 else if ¬ T 60 0 r = 1 then 0 else if 0 ≤ T 74 0 (zfig T r k) then 0 else T 74 0 (zfig T r k)) ≤ 0
    by_cases h : zfig T r k = -1
    · rw [if_pos h]; omega
    · rw [if_neg h]
      obtain ⟨f1, f2, -⟩ := zfig_r hG a (by omega) k0 k1 h
      obtain ⟨w1, w2, w3, w4, w5, w6, w7, w8, w9, w10, w11, w12⟩ := hG.cell _ f1 f2
      split
      · omega
      · split <;> omega)
  unfold zblw
  omega
def zfr2 (a b : Nat) (k : Int) (M M' : Mem) : Prop := ∀ s i j, ¬ ((s = a ∨ s = b) ∧ i = 0 ∧ j = k) → M' s i j = M s i j
end RL
