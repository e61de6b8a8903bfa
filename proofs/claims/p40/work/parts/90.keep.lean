/-! the pure part: what is kept of a look, on both sides -/
section EA
variable {T M : Mem}
theorem k_takeFrom {a b : Int} (h1 : M 7 0 1 = a) (h2 : M 7 0 2 = b) (a0 : 0 ≤ a) (a1 : a ≤ 904) (b0 : 0 ≤ b) (b1 : b ≤ 904) {Qm : Mem → Prop} (hq : ∀ M', Fj (fun s j _ => j = 1 ∧ (s = 7 ∨ (38 ≤ s ∧ s ≤ 44))) M M' → M' 7 1 1 = a → M' 7 1 2 = b → M' 7 1 3 = M 7 0 3 → (∀ k, 0 ≤ k → k < b → M' 38 1 k = M 38 0 k ∧ M' 39 1 k = M 39 0 k ∧ M' 40 1 k = M 40 0 k) → (∀ p, 0 ≤ p → p < a → M' 41 1 p = M 41 0 p ∧ M' 43 1 p = M 43 0 p) → (∀ q, 0 ≤ q → q < a * 6 → M' 44 1 q = M 44 0 q) → Qm M') : wp_X6_takeFrom 1 0 M Qm := by
  intro M2 e2 M5 e5 M8 e8
  have v1 : M8 7 1 1 = a := by rw [e8, up_k _ _ _ _ _ _ (by decide), e5, up_k _ _ _ _ _ _ (by decide), e2, up_eq]; exact h1
  have v2 : M8 7 1 2 = b := by rw [e8, up_k _ _ _ _ _ _ (by decide), e5, up_eq, e2, up_j _ _ _ _ _ (by decide)]; exact h2
  rw [v1, v2, show min b 904 = b by omega, show min a 904 = a by omega]
  have f8 : Fj (fun s j _ => j = 1 ∧ (s = 7 ∨ (38 ≤ s ∧ s ≤ 44))) M M8 := by rw [e8, e5, e2]; exact (((Fj.rf _ M).up ⟨rfl, Or.inl rfl⟩).up ⟨rfl, Or.inl rfl⟩).up ⟨rfl, Or.inl rfl⟩
  refine ⟨⟨by omega, by omega, by omega⟩, fun M13 e13 => ⟨⟨by omega, by omega, by omega⟩, fun M16 e16 => ⟨⟨by omega, by omega, by omega⟩, fun M19 e19 => ⟨⟨by omega, by omega, by omega⟩, fun M22 e22 => ⟨⟨by omega, by omega, by omega⟩, fun M25 e25 => ⟨⟨by omega, by omega⟩, ⟨by omega, by omega, by omega⟩, fun M29 e29 => ?_⟩⟩⟩⟩⟩⟩
  have n0 : ∀ (s : Nat) (k : Int), M8 s 0 k = M s 0 k := fun s k => f8 s 0 k (fun z => absurd z.1 (by decide))
  refine hq M29 ?_ ?_ ?_ ?_ (fun k k0 k1 => ⟨?_, ?_, ?_⟩) (fun p p0 p1 => ⟨?_, ?_⟩) (fun q q0 q1 => ?_)
  · rw [e29, e25, e22, e19, e16, e13]
    exact (((((f8.cp (fun _ => ⟨rfl, Or.inr (by omega)⟩)).cp (fun _ => ⟨rfl, Or.inr (by omega)⟩)).cp (fun _ => ⟨rfl, Or.inr (by omega)⟩)).cp (fun _ => ⟨rfl, Or.inr (by omega)⟩)).cp (fun _ => ⟨rfl, Or.inr (by omega)⟩)).cp (fun _ => ⟨rfl, Or.inr (by omega)⟩)
  · rw [e29, cpM_ne _ _ _ _ _ _ (Or.inl (by decide)), e25, cpM_ne _ _ _ _ _ _ (Or.inl (by decide)), e22, cpM_ne _ _ _ _ _ _ (Or.inl (by decide)), e19, cpM_ne _ _ _ _ _ _ (Or.inl (by decide)), e16, cpM_ne _ _ _ _ _ _ (Or.inl (by decide)), e13, cpM_ne _ _ _ _ _ _ (Or.inl (by decide)), e8, up_k _ _ _ _ _ _ (by decide), e5, up_k _ _ _ _ _ _ (by decide), e2, up_eq]
    exact h1
  · rw [e29, cpM_ne _ _ _ _ _ _ (Or.inl (by decide)), e25, cpM_ne _ _ _ _ _ _ (Or.inl (by decide)), e22, cpM_ne _ _ _ _ _ _ (Or.inl (by decide)), e19, cpM_ne _ _ _ _ _ _ (Or.inl (by decide)), e16, cpM_ne _ _ _ _ _ _ (Or.inl (by decide)), e13, cpM_ne _ _ _ _ _ _ (Or.inl (by decide)), e8, up_k _ _ _ _ _ _ (by decide), e5, up_eq, e2, up_j _ _ _ _ _ (by decide)]
    exact h2
  · rw [e29, cpM_ne _ _ _ _ _ _ (Or.inl (by decide)), e25, cpM_ne _ _ _ _ _ _ (Or.inl (by decide)), e22, cpM_ne _ _ _ _ _ _ (Or.inl (by decide)), e19, cpM_ne _ _ _ _ _ _ (Or.inl (by decide)), e16, cpM_ne _ _ _ _ _ _ (Or.inl (by decide)), e13, cpM_ne _ _ _ _ _ _ (Or.inl (by decide)), e8, up_eq, e5, up_j _ _ _ _ _ (by decide), e2, up_j _ _ _ _ _ (by decide)]
  · rw [e29, cpM_ne _ _ _ _ _ _ (Or.inl (by decide)), e25, cpM_ne _ _ _ _ _ _ (Or.inl (by decide)), e22, cpM_ne _ _ _ _ _ _ (Or.inl (by decide)), e19, cpM_ne _ _ _ _ _ _ (Or.inl (by decide)), e16, cpM_ne _ _ _ _ _ _ (Or.inl (by decide)), e13, cpM_in _ _ _ _ _ k0 k1]
    exact n0 38 k
  · rw [e29, cpM_ne _ _ _ _ _ _ (Or.inl (by decide)), e25, cpM_ne _ _ _ _ _ _ (Or.inl (by decide)), e22, cpM_ne _ _ _ _ _ _ (Or.inl (by decide)), e19, cpM_ne _ _ _ _ _ _ (Or.inl (by decide)), e16, cpM_in _ _ _ _ _ k0 k1, e13, cpM_ne _ _ _ _ _ _ (Or.inl (by decide))]
    exact n0 39 k
  · rw [e29, cpM_ne _ _ _ _ _ _ (Or.inl (by decide)), e25, cpM_ne _ _ _ _ _ _ (Or.inl (by decide)), e22, cpM_ne _ _ _ _ _ _ (Or.inl (by decide)), e19, cpM_in _ _ _ _ _ k0 k1, e16, cpM_ne _ _ _ _ _ _ (Or.inl (by decide)), e13, cpM_ne _ _ _ _ _ _ (Or.inl (by decide))]
    exact n0 40 k
  · rw [e29, cpM_ne _ _ _ _ _ _ (Or.inl (by decide)), e25, cpM_ne _ _ _ _ _ _ (Or.inl (by decide)), e22, cpM_in _ _ _ _ _ p0 p1, e19, cpM_ne _ _ _ _ _ _ (Or.inl (by decide)), e16, cpM_ne _ _ _ _ _ _ (Or.inl (by decide)), e13, cpM_ne _ _ _ _ _ _ (Or.inl (by decide))]
    exact n0 41 p
  · rw [e29, cpM_ne _ _ _ _ _ _ (Or.inl (by decide)), e25, cpM_in _ _ _ _ _ p0 p1, e22, cpM_ne _ _ _ _ _ _ (Or.inl (by decide)), e19, cpM_ne _ _ _ _ _ _ (Or.inl (by decide)), e16, cpM_ne _ _ _ _ _ _ (Or.inl (by decide)), e13, cpM_ne _ _ _ _ _ _ (Or.inl (by decide))]
    exact n0 43 p
  · rw [e29, cpM_in _ _ _ _ _ q0 q1, e25, cpM_ne _ _ _ _ _ _ (Or.inl (by decide)), e22, cpM_ne _ _ _ _ _ _ (Or.inl (by decide)), e19, cpM_ne _ _ _ _ _ _ (Or.inl (by decide)), e16, cpM_ne _ _ _ _ _ _ (Or.inl (by decide)), e13, cpM_ne _ _ _ _ _ _ (Or.inl (by decide))]
    exact n0 44 q
/-- kept sheets: as the reference keeps them -/
theorem zkeep_os (hG : Good T) : zOS T (zkeep T (zpg T)) := by
  refine ⟨(zpg_wf hG).1, zpg_cd hG, fun c c0 c1 => ?_, fun c c0 c1 => ?_⟩
  · show 0 ≤ (if 0 ≤ c ∧ c < T 11 0 4 then ztt T c else 0) ∧ (if 0 ≤ c ∧ c < T 11 0 4 then ztt T c else 0) ≤ 1
    have := bit_r (ztt_r T c)
    split <;> omega
  · show (if 0 ≤ c ∧ c < T 11 0 4 then ztt T c else 0) = 0
    exact if_neg (by omega)
theorem zkeep_ko (hG : Good T) (hD : zDR T M) {Qm : Mem → Prop} (hq : ∀ M', Fj (fun s j _ => j = 1 ∧ (s = 7 ∨ (38 ≤ s ∧ s ≤ 44))) M M' → zKO (zkeep T (zpg T)) M' → Qm M') : wp_X6_takeFrom 1 0 M Qm := by
  obtain ⟨W, w1, w2⟩ := zpg_wf hG
  have hC := hG.nC
  have hN := W.2.1
  have hP := W.1
  obtain ⟨-, -, -, ⟨-, k1, k2, k3, k4, k5, -⟩, d5⟩ := hD
  refine k_takeFrom k1 k2 hN.1 (by omega) hP.1 (by omega) (fun M' f t1 t2 t3 t4 t5 t6 => hq M' f ⟨⟨⟨t1, t2, fun p a b => ?_⟩, fun k a b => ?_⟩, fun h => ?_, fun p a b => ?_, fun p c a b c0 c1 hx => ?_⟩)
  · rw [(t5 p a b).1]; exact (k5 p a b).1
  · obtain ⟨x1, x2, x3⟩ := t4 k a b
    rw [x1, x2, x3]; exact k4 k a b
  · have h : 0 < zpg T 0 1 := h
    have h6 : zpg T 0 6 = 0 := by
      by_cases z : zpg T 0 6 = 0
      · exact z
      · have := (w2 z).2; omega
    rw [t3, k3, if_pos h6, zbits_same hG (zkeep_os hG)]
    intro c c0 c1
    exact (if_pos ⟨c0, c1⟩).symm
  · rw [(t5 p a b).2]; exact (k5 p a b).2.2
  · have b : p < zpg T 0 1 := b
    rw [t6 _ (by omega) (by omega), d5 p c a b c0 c1]
    have e10 : zkeep T (zpg T) 10 c = (if 0 ≤ c ∧ c < T 11 0 4 then ztt T c else 0) := rfl
    rw [e10] at hx
    by_cases hc : 0 ≤ c ∧ c < T 11 0 4
    · rw [if_pos hc] at hx
      show _ = (if ztt T ((6 * p + c) % 6) = 0 then 0 else zcar T (zpg T) ((6 * p + c) / 6) ((6 * p + c) % 6))
      rw [show (6 * p + c) % 6 = c by omega, show (6 * p + c) / 6 = p by omega, if_neg hx]
    · rw [if_neg hc] at hx; exact absurd rfl hx
/-! the reference -/
theorem zPR.fo {S : zSt} {N : Mem} (h : zPR S M) (f : Fr zFO M N) : zPR S N := by
  obtain ⟨p1, p2, p3, p4⟩ := h
  exact ⟨by rw [f 11 0 46 rfl]; exact p1, by rw [f 11 0 49 rfl]; exact p2, fun k a b => by rw [f 90 0 k rfl, f 91 0 k rfl, f 92 0 k rfl, f 93 0 k rfl]; exact p3 k a b, fun p a b => by rw [f 95 0 p rfl, f 94 0 p rfl]; exact p4 p a b⟩
/-- what the reference writes on -/
def zLO : Nat → Int → Bool := fun s k => (decide (80 ≤ s) && decide (s ≤ 102)) || (decide (s = 11) && (decide (k = 41) || decide (k = 46) || decide (k = 49) || decide (k = 54) || decide (k = 58) || decide (k = 59)))
theorem zP_LO : ∀ s k, zLO s k = false → zP s k = false := by
  intro s k hz
  simp only [zLO, Bool.or_eq_false_iff, Bool.and_eq_false_iff, decide_eq_false_iff_not] at hz
  simp only [zP, Bool.or_eq_false_iff, Bool.and_eq_false_iff, decide_eq_false_iff_not]
  omega
theorem zFO_LO : ∀ s k, zLO s k = false → zFO s k = false := by
  intro s k hz
  simp only [zLO, Bool.or_eq_false_iff, Bool.and_eq_false_iff, decide_eq_false_iff_not] at hz
  simp only [zFO, Bool.or_eq_false_iff, Bool.and_eq_false_iff, decide_eq_false_iff_not]
  omega
theorem zLO_in : ∀ s k, zin s k = true → zLO s k = false := by
  intro s k hz
  simp only [zin, Bool.or_eq_true, Bool.and_eq_true, decide_eq_true_eq] at hz
  simp only [zLO, Bool.or_eq_false_iff, Bool.and_eq_false_iff, decide_eq_false_iff_not]
  omega
theorem zOR.fr {O : zSt} {N : Mem} (h : zOR T O M) (f : ∀ s (j k : Int), 96 ≤ s → s ≤ 102 → N s j k = M s j k) (g1 : N 11 0 54 = M 11 0 54) (g2 : N 11 0 58 = M 11 0 58) : zOR T O N := by
  obtain ⟨o1, o2, o3, o4, o5, o6⟩ := h
  refine ⟨by rw [g1]; exact o1, by rw [g2]; exact o2, fun k a b => ?_, fun p a b => ?_, fun p c a b c0 c1 => ?_, fun c a b => ?_⟩
  · rw [f 96 0 k (by decide) (by decide), f 97 0 k (by decide) (by decide), f 98 0 k (by decide) (by decide), f 99 0 k (by decide) (by decide)]; exact o3 k a b
  · rw [f 100 0 p (by decide) (by decide)]; exact o4 p a b
  · rw [f 101 0 _ (by decide) (by decide)]; exact o5 p c a b c0 c1
  · rw [f 102 0 c (by decide) (by decide)]; exact o6 c a b
theorem zOR.fp {O : zSt} {N : Mem} (h : zOR T O M) (f : Fr zP M N) : zOR T O N := h.fr (fun s j k a b => f s j k (by
  simp only [zP, Bool.or_eq_false_iff, Bool.and_eq_false_iff, decide_eq_false_iff_not]; omega)) (f 11 0 54 rfl) (f 11 0 58 rfl)
end EA
