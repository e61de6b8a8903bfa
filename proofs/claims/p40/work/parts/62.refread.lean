/-! the pure part: the reference's methods that only read -/
section RR
variable {T M : Mem}
theorem zsh_r (T : Mem) (k : Int) : 0 ≤ zsh T k ∧ zsh T k ≤ 1 := by unfold zsh; split <;> omega
theorem zvis_r (hG : Good T) : 0 ≤ zvis T ∧ zvis T ≤ 6 := by
  have b := zS_bd (f := zsh T) 0 1 hG.nC.1 (fun k _ _ => zsh_r T k)
  have hC := hG.nC
  unfold zvis
  omega
theorem zshows_r (hG : Good T) {c : Int} (h0 : 0 ≤ c) (h1 : c < T 11 0 15) : 0 ≤ zshows T c ∧ zshows T c ≤ 6 := by
  obtain ⟨-, k1, -, k2, -⟩ := hG.cell c h0 h1
  have b := zS_bd (f := zsh T) (a := T 66 0 c) (b := T 66 0 c + T 68 0 c) 0 1 (by omega) (fun k _ _ => zsh_r T k)
  have hC := hG.nC
  unfold zshows
  omega
theorem zfig_r (hG : Good T) {r k : Int} (h0 : 0 ≤ r) (h1 : r < T 11 0 8) (k0 : 0 ≤ k) (k1 : k < 6) (h : ¬ zfig T r k = -1) : 0 ≤ zfig T r k ∧ zfig T r k < T 11 0 15 ∧ T 73 0 (zfig T r k) = 1 ∧ T 65 0 (zfig T r k) = r ∧ T 66 0 (zfig T r k) = k ∧ T 59 0 k = 0 := by
  have hp := hG.pl r k h0 h1 k0 k1
  unfold zfig at h ⊢
  by_cases a : T 69 0 (6 * r + k) - 1 < 0
  · rw [if_pos a] at h; exact absurd rfl h
  · rw [if_neg a] at h ⊢
    by_cases b : ¬ T 59 0 k = 0
    · rw [if_pos b] at h; exact absurd rfl h
    · rw [if_neg b] at h ⊢
      by_cases c : T 73 0 (T 69 0 (6 * r + k) - 1) = 0
      · rw [if_pos c] at h; exact absurd rfl h
      · rw [if_neg c] at h ⊢
        obtain ⟨q1, q2, q3⟩ := hp.2 (by omega)
        generalize hcc : T 69 0 (6 * r + k) - 1 = cc at *
        obtain ⟨w1, w2, w3, w4, w5, w6, w7, w8, w9, w10, w11, w12⟩ := hG.cell cc (by omega) (by omega)
        obtain ⟨v1, v2, v3⟩ := w11 (by omega)
        obtain ⟨r1, r2, r3, r4, r5⟩ := hG.row r h0 h1
        obtain ⟨s1, s2, s3, s4, s5⟩ := hG.row (T 65 0 cc) w1.1 w1.2
        refine ⟨by omega, by omega, by omega, ?_, by omega, by omega⟩
        have e : T 6 r 6 = T 6 (T 65 0 cc) 6 := by omega
        rw [← r5, ← s5, q1, e]
/-- a figure's cell stands where it stands -/
theorem zfig_of (hG : Good T) {c : Int} (h0 : 0 ≤ c) (h1 : c < T 11 0 15) (hf : T 73 0 c = 1) (hs : T 59 0 (T 66 0 c) = 0) : zfig T (T 65 0 c) (T 66 0 c) = c := by
  obtain ⟨w1, w2, w3, w4, w5, w6, w7, w8, w9, w10, w11, w12⟩ := hG.cell c h0 h1
  have hC := hG.nC
  have e := hG.pq c (T 65 0 c) (T 66 0 c) h0 h1 w1.1 w1.2 rfl (Int.le_refl _) (by omega) (Int.le_refl _) (by omega)
  unfold zfig
  rw [e, if_neg (by omega), if_neg (by omega), show c + 1 - 1 = c by omega, if_neg (by omega)]
theorem zlen_r (hG : Good T) {c i : Int} (h0 : 0 ≤ c) (h1 : c < T 11 0 15) (i0 : 0 ≤ i) (i1 : i < T 72 0 c) : 1 ≤ zpiece T c i ∧ zpiece T c i ≤ 20 := by
  have w := hG.word c i h0 h1 i0 i1
  unfold zpiece
  split <;> omega
theorem zleast_r (hG : Good T) {c : Int} (h0 : 0 ≤ c) (h1 : c < T 11 0 15) {n : Int} (n0 : 0 ≤ n) (n1 : n ≤ T 72 0 c) : 0 ≤ zF (fun m i => max m (zpiece T c i)) 0 0 n ∧ zF (fun m i => max m (zpiece T c i)) 0 0 n ≤ 20 := by
  refine zF_ind (fun _ m => 0 ≤ m ∧ m ≤ 20) n0 (by omega) (fun k v a b hv => ?_)
  have := zlen_r hG h0 h1 a (by omega)
  show 0 ≤ max v (zpiece T c k) ∧ max v (zpiece T c k) ≤ 20
  omega
theorem zlens_r (hG : Good T) {c : Int} (h0 : 0 ≤ c) (h1 : c < T 11 0 15) {n : Int} (n0 : 0 ≤ n) (n1 : n ≤ T 72 0 c) : n ≤ zS (fun i => T 70 0 (12 * c + i)) 0 n ∧ zS (fun i => T 70 0 (12 * c + i)) 0 n ≤ 20 * n := by
  have b := zS_bd (f := fun i => T 70 0 (12 * c + i)) 1 20 n0 (fun k a b => (hG.word c k h0 h1 a (by omega)).1)
  omega
theorem zmost_r (hG : Good T) {c : Int} (h0 : 0 ≤ c) (h1 : c < T 11 0 15) : 0 ≤ zmost T c ∧ zmost T c ≤ 251 := by
  obtain ⟨w1, w2, w3, w4, w5, w6, w7, w8, w9, w10, w11, w12⟩ := hG.cell c h0 h1
  have := zlens_r hG h0 h1 w6.1 (Int.le_refl _)
  unfold zmost zlens
  omega
theorem zwant_r (hG : Good T) {c : Int} (most : Int) (h0 : 0 ≤ c) (h1 : c < T 11 0 15) : 0 ≤ zwant T most c ∧ zwant T most c ≤ 251 := by
  obtain ⟨w1, w2, w3, w4, w5, w6, w7, w8, w9, w10, w11, w12⟩ := hG.cell c h0 h1
  unfold zwant
  split
  · have := zleast_r hG h0 h1 w6.1 (Int.le_refl _)
    unfold zleast
    omega
  · exact zmost_r hG h0 h1
end RR
