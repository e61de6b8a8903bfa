/-! the pure part: the reference shares out the rest -/
section RY
variable {T M : Mem}
theorem zlack_r (hG : Good T) {n : Int} (n0 : 0 ≤ n) (n1 : n ≤ T 11 0 4) : 0 ≤ zlack T n ∧ zlack T n ≤ 300 * n := by
  have := zS_bd (f := fun k => if zopen T k = 0 then 0 else zms T k - zls T k) (a := 0) (b := n) 0 300 n0 (fun k a b => by
    have := zls_r hG a (by omega : k < T 11 0 4)
    show 0 ≤ (if zopen T k = 0 then 0 else zms T k - zls T k) ∧ (if zopen T k = 0 then 0 else zms T k - zls T k) ≤ 300
    split <;> omega)
  unfold zlack
  omega
theorem ztdiv_r {a b c : Int} (h0 : 0 ≤ a) (h1 : a ≤ c) (h2 : 0 < c) (h3 : 0 ≤ b) : 0 ≤ Int.tdiv (a * b) c ∧ Int.tdiv (a * b) c ≤ b := by
  have hab : 0 ≤ a * b := Int.mul_nonneg h0 h3
  rw [Int.tdiv_eq_ediv_of_nonneg hab]
  refine ⟨Int.ediv_nonneg hab (by omega), ?_⟩
  have h4 : a * b ≤ c * b := Int.mul_le_mul_of_nonneg_right h1 h3
  have h5 := Int.ediv_le_ediv h2 h4
  rw [Int.mul_ediv_cancel_left b (by omega)] at h5
  exact h5
theorem zgive_r (hG : Good T) (hr : 0 < zrest T) {k : Int} (k0 : 0 ≤ k) (k1 : k < T 11 0 4) : 0 ≤ zgive T k ∧ zgive T k ≤ zms T k - zls T k := by
  have hl := zls_r hG k0 k1
  unfold zgive
  split
  · omega
  · split
    · omega
    · exact ztdiv_r (by omega) (by omega) (by omega) (by omega)
theorem znar_open (hG : Good T) {k : Int} (k0 : 0 ≤ k) (k1 : k < T 11 0 4) (h : ¬ zopen T k = 0) : znar T k = zls T k := by
  have hl := zls_r hG k0 k1
  unfold zopen at h
  unfold znar
  by_cases a : T 59 0 k = 0
  · by_cases b : T 56 0 k = 0
    · rw [if_pos a, if_neg (by omega), if_neg (by omega)]; omega
    · rw [if_neg (by omega), if_pos b] at h; exact absurd rfl h
  · rw [if_pos a] at h; exact absurd rfl h
theorem zgive_open {k : Int} (h : zopen T k = 0) : zgive T k = 0 := if_pos h
theorem zrest_r (hG : Good T) : -1805 ≤ zrest T ∧ zrest T ≤ 151 := by
  have := zsumw_r hG (w := znar T) (fun k a b => znar_r hG a b)
  have hp := hG.n.2.2.2.1
  unfold zrest
  omega
theorem zgv_r (hG : Good T) {k : Int} (k0 : 0 ≤ k) (k1 : k < T 11 0 4) : 0 ≤ zgv T k ∧ zgv T k ≤ 300 := by
  have hn := znar_r hG k0 k1
  have hl := zls_r hG k0 k1
  unfold zgv
  split
  · omega
  · rename_i hr
    have hg := zgive_r hG (by omega) k0 k1
    by_cases h : zopen T k = 0
    · rw [zgive_open h]; omega
    · rw [znar_open hG k0 k1 h]; omega
theorem zfin_r (hG : Good T) (hr : 0 < zrest T) {n : Int} (n0 : 0 ≤ n) (n1 : n ≤ T 11 0 4) : zWB T (zfin T n).1 ∧ 0 ≤ (zfin T n).2 ∧ (zfin T n).2 ≤ 1800 + n := by
  have hs := zS_bd (f := zgive T) (a := 0) (b := T 11 0 4) 0 300 hG.nC.1 (fun k a b => by have := zgive_r hG hr a b; have := zls_r hG a b; omega)
  have hC := hG.nC
  refine zF_ind (fun n (p : (Int → Int) × Int) => zWB T p.1 ∧ 0 ≤ p.2 ∧ p.2 ≤ 1800 + n) n0 ⟨fun k a b => zgv_r hG a b, by dsimp only; omega, by dsimp only; omega⟩ (fun k p a b hp => ?_)
  obtain ⟨w, g⟩ := p
  obtain ⟨p1, p2, p3⟩ := hp
  dsimp only at p1 p2 p3 ⊢
  have hl := zls_r hG a (by omega : k < T 11 0 4)
  split
  · exact ⟨p1, p2, by omega⟩
  · split
    · exact ⟨p1, p2, by omega⟩
    · split
      · exact ⟨p1, p2, by omega⟩
      · refine ⟨fun i i0 i1 => ?_, by dsimp only; omega, by dsimp only; omega⟩
        have := p1 i i0 i1
        have := p1 k a (by omega)
        show 0 ≤ zset w k (w k + 1) i ∧ zset w k (w k + 1) i ≤ 300
        unfold zset
        split <;> omega
theorem zwid_r (hG : Good T) : zWB T (zwid T) := by
  intro k k0 k1
  have hn := znar_r hG k0 k1
  have hg := zgv_r hG k0 k1
  unfold zwid
  split
  · exact hn
  · rename_i hr
    unfold zgv at hg
    rw [if_neg hr] at hg
    split
    · exact hg
    · exact (zfin_r hG (by omega) hG.nC.1 (Int.le_refl _)).1 k k0 k1
end RY
