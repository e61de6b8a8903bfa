/-! the pure part: what is kept of a look, on both sides -/
section EA
variable {T M : Mem}
theorem k_takeFrom {a b : Int} (h1 : M 7 0 1 = a) (h2 : M 7 0 2 = b) (a0 : 0 ≤ a) (a1 : a ≤ 904) (b0 : 0 ≤ b) (b1 : b ≤ 904) {Qm : Mem → Prop} (hq : ∀ M', Fj (fun s j _ => j = 1 ∧ (s = 7 ∨ (38 ≤ s ∧ s ≤ 44))) M M' → M' 7 1 1 = a → M' 7 1 2 = b → M' 7 1 3 = M 7 0 3 → (∀ k, 0 ≤ k → k < b → M' 38 1 k = M 38 0 k ∧ M' 39 1 k = M 39 0 k ∧ M' 40 1 k = M 40 0 k) → (∀ p, 0 ≤ p → p < a → M' 41 1 p = M 41 0 p ∧ M' 43 1 p = M 43 0 p) → (∀ q, 0 ≤ q → q < a * 6 → M' 44 1 q = M 44 0 q) → Qm M') : wp_X6_takeFrom 1 0 M Qm := by
  intro M2 e2 M5 e5 M8 e8
  have v1 : M8 7 1 1 = a := by rw [e8, up_k _ _ _ _ _ _ (by decide), e5, up_k _ _ _ _ _ _ (by decide), e2, up_eq]; exact h1
  have v2 : M8 7 1 2 = b := by rw [e8, up_k _ _ _ _ _ _ (by decide), e5, up_eq, e2, up_j _ _ _ _ _ (by decide)]; exact h2
  rw [v1, v2, show min b 904 = b by omega, show min a 904 = a by omega]
  have f8 : Fj (fun s j _ => j = 1 ∧ (s = 7 ∨ (38 ≤ s ∧ s ≤ 44))) M M8 := by rw [e8, e5, e2]; exact (((Fj.rf _ M).up ⟨rfl, Or.inl rfl⟩).up ⟨rfl, Or.inl rfl⟩).up ⟨rfl, Or.inl rfl⟩
  refine ⟨⟨by omega, by omega, by omega⟩, fun M13 e13 => ⟨⟨by omega, by omega, by omega⟩, fun M16 e16 => ⟨⟨by omega, by omega, by omega⟩, fun M19 e19 => ⟨⟨by omega, by omega, by omega⟩, fun M22 e22 => ⟨⟨by omega, by omega, by omega⟩, fun M25 e25 => ⟨⟨by omega, by omega⟩, ⟨by omega, by omega, by omega⟩, fun M29 e29 => ?_⟩⟩⟩⟩⟩⟩
  have n0 : ∀ (s : Nat) (k : Int), M8 s 0 k = M s 0 k := fun s k => f8 s 0 k (fun z => absurd z.1 (by decide))
  refine hq M29 ?_ ?_ ?_ ?_ (fun k k0 k1 => ⟨?_, ?_, ?_⟩) (fun p p0 p1 => ⟨?_, ?_⟩) (fun q q0 q1 => ?_)
  · rw [e29, e25, e22, e19, e16, e13]
    exact (((((f8.cp (fun _ => ⟨rfl, Or.inr (by omega)⟩)).cp (fun _ => ⟨rfl, Or.inr (by omega)⟩)).cp (fun _ => ⟨rfl, Or.inr (by omega)⟩)).cp (fun _ => ⟨rfl, Or.inr (by omega)⟩)).cp (fun _ => ⟨rfl, Or.inr (by omega)⟩)).cp (fun _ => ⟨rfl, Or.inr (by omega)⟩)
  · rw [e29, cpM_ne _ _ _ _ _ _ (Or.inl (by decide)), e25, cpM_ne _ _ _ _ _ _ (Or.inl (by decide)), e22, cpM_ne _ _ _ _ _ _ (Or.inl (by decide)), e19, cpM_ne _ _ _ _ _ _ (Or.inl (by decide)), e16, cpM_ne _ _ _ _ _ _ (Or.inl (by decide)), e13, cpM_ne _ _ _ _ _ _ (Or.inl (by decide)), e8, up_k _ _ _ _ _ _ (by decide), e5, up_k _ _ _ _ _ _ (by decide), e2, up_eq]
    exact h1
  · rw [e29, cpM_ne _ _ _ _ _ _ (Or.inl (by decide)), e25, cpM_ne _ _ _ _ _ _ (Or.inl (by decide)), e22, cpM_ne _ _ _ _ _ _ (Or.inl (by decide)), e19, cpM_ne _ _ _ _ _ _ (Or.inl (by decide)), e16, cpM_ne _ _ _ _ _ _ (Or.inl (by decide)), e13, cpM_ne _ _ _ _ _ _ (Or.inl (by decide)), e8, up_k _ _ _ _ _ _ (by decide), e5, up_eq, e2, up_j _ _ _ _ _ (by decide)]
    exact h2
  · rw [e29, cpM_ne _ _ _ _ _ _ (Or.inl (by decide)), e25, cpM_ne _ _ _ _ _ _ (Or.inl (by decide)), e22, cpM_ne _ _ _ _ _ _ (Or.inl (by decide)), e19, cpM_ne _ _ _ _ _ _ (Or.inl (by decide)), e16, cpM_ne _ _ _ _ _ _ (Or.inl (by decide)), e13, cpM_ne _ _ _ _ _ _ (Or.inl (by decide)), e8, up_eq, e5, up_j _ _ _ _ _ (by decide), e2, up_j _ _ _ _ _ (by decide)]
  · rw [e29, cpM_ne _ _ _ _ _ _ (Or.inl (by decide)), e25, cpM_ne _ _ _ _ _ _ (Or.inl (by decide)), e22, cpM_ne _ _ _ _ _ _ (Or.inl (by decide)), e19, cpM_ne _ _ _ _ _ _ (Or.inl (by decide)), e16, cpM_ne _ _ _ _ _ _ (Or.inl (by decide)), e13, cpM_in _ _ _ _ _ k0 k1]
    exact n0 38 k
  · rw [e29, cpM_ne _ _ _ _ _ _ (Or.inl (by decide)), e25, cpM_ne _ _ _ _ _ _ (Or.inl (by decide)), e22, cpM_ne _ _ _ _ _ _ (Or.inl (by decide)), e19, cpM_ne _ _ _ _ _ _ (Or.inl (by decide)), e16, cpM_in _ _ _ _ _ k0 k1, e13, cpM_ne _ _ _ _ _ _ (Or.inl (by decide))]
    exact n0 39 k
  · rw [e29, cpM_ne _ _ _ _ _ _ (Or.inl (by decide)), e25, cpM_ne _ _ _ _ _ _ (Or.inl (by decide)), e22, cpM_ne _ _ _ _ _ _ (Or.inl (by decide)), e19, cpM_in _ _ _ _ _ k0 k1, e16, cpM_ne _ _ _ _ _ _ (Or.inl (by decide)), e13, cpM_ne _ _ _ _ _ _ (Or.inl (by decide))]
    exact n0 40 k
  · rw [e29, cpM_ne _ _ _ _ _ _ (Or.inl (by decide)), e25, cpM_ne _ _ _ _ _ _ (Or.inl (by decide)), e22, cpM_in _ _ _ _ _ p0 p1, e19, cpM_ne _ _ _ _ _ _ (Or.inl (by decide)), e16, cpM_ne _ _ _ _ _ _ (Or.inl (by decide)), e13, cpM_ne _ _ _ _ _ _ (Or.inl (by decide))]
    exact n0 41 p
  · rw [e29, cpM_ne _ _ _ _ _ _ (Or.inl (by decide)), e25, cpM_in _ _ _ _ _ p0 p1, e22, cpM_ne _ _ _ _ _ _ (Or.inl (by decide)), e19, cpM_ne _ _ _ _ _ _ (Or.inl (by decide)), e16, cpM_ne _ _ _ _ _ _ (Or.inl (by decide)), e13, cpM_ne _ _ _ _ _ _ (Or.inl (by decide))]
    exact n0 43 p
  · rw [e29, cpM_in _ _ _ _ _ q0 q1, e25, cpM_ne _ _ _ _ _ _ (Or.inl (by decide)), e22, cpM_ne _ _ _ _ _ _ (Or.inl (by decide)), e19, cpM_ne _ _ _ _ _ _ (Or.inl (by decide)), e16, cpM_ne _ _ _ _ _ _ (Or.inl (by decide)), e13, cpM_ne _ _ _ _ _ _ (Or.inl (by decide))]
    exact n0 44 q
/-- kept sheets: as the reference keeps them -/
theorem zkeep_os (hG : Good T) : zOS T (zkeep T (zpg T)) := by
  refine ⟨(zpg_wf hG).1, zpg_cd hG, fun c c0 c1 => ?_, fun c c0 c1 => ?_⟩
  · show 0 ≤ (if 0 ≤ c ∧ c < T 11 0 4 then ztt T c else 0) ∧ (if 0 ≤ c ∧ c < T 11 0 4 then ztt T c else 0) ≤ 1
    have := bit_r (ztt_r T c)
    split <;> omega
  · show (if 0 ≤ c ∧ c < T 11 0 4 then ztt T c else 0) = 0
    exact if_neg (by omega)
theorem zkeep_ko (hG : Good T) (hD : zDR T M) {Qm : Mem → Prop} (hq : ∀ M', Fj (fun s j _ => j = 1 ∧ (s = 7 ∨ (38 ≤ s ∧ s ≤ 44))) M M' → zKO (zkeep T (zpg T)) M' → Qm M') : wp_X6_takeFrom 1 0 M Qm := by
  obtain ⟨W, w1, w2⟩ := zpg_wf hG
  have hC := hG.nC
  have hN := W.2.1
  have hP := W.1
  obtain ⟨-, -, -, ⟨-, k1, k2, k3, k4, k5, -⟩, d5⟩ := hD
  refine k_takeFrom k1 k2 hN.1 (by omega) hP.1 (by omega) (fun M' f t1 t2 t3 t4 t5 t6 => hq M' f ⟨⟨⟨t1, t2, fun p a b => ?_⟩, fun k a b => ?_⟩, fun h => ?_, fun p a b => ?_, fun p c a b c0 c1 hx => ?_⟩)
  · rw [(t5 p a b).1]; exact (k5 p a b).1
  · obtain ⟨x1, x2, x3⟩ := t4 k a b
    rw [x1, x2, x3]; exact k4 k a b
  · have h : 0 < zpg T 0 1 := h
    have h6 : zpg T 0 6 = 0 := by
      by_cases z : zpg T 0 6 = 0
      · exact z
      · have := (w2 z).2; omega
    rw [t3, k3, if_pos h6, zbits_same hG (zkeep_os hG)]
    intro c c0 c1
    exact (if_pos ⟨c0, c1⟩).symm
  · rw [(t5 p a b).2]; exact (k5 p a b).2.2
  · have b : p < zpg T 0 1 := b
    rw [t6 _ (by omega) (by omega), d5 p c a b c0 c1]
    have e10 : zkeep T (zpg T) 10 c = (if 0 ≤ c ∧ c < T 11 0 4 then ztt T c else 0) := rfl
    rw [e10] at hx
    by_cases hc : 0 ≤ c ∧ c < T 11 0 4
    · rw [if_pos hc] at hx
      show _ = (if ztt T ((6 * p + c) % 6) = 0 then 0 else zcar T (zpg T) ((6 * p + c) / 6) ((6 * p + c) % 6))
      rw [show (6 * p + c) % 6 = c by omega, show (6 * p + c) / 6 = p by omega, if_neg hx]
    · rw [if_neg hc] at hx; exact absurd rfl hx
/-! the reference -/
theorem zPR.fo {S : zSt} {N : Mem} (h : zPR S M) (f : Fr zFO M N) : zPR S N := by
  obtain ⟨p1, p2, p3, p4⟩ := h
  exact ⟨by rw [f 11 0 46 rfl]; exact p1, by rw [f 11 0 49 rfl]; exact p2, fun k a b => by rw [f 90 0 k rfl, f 91 0 k rfl, f 92 0 k rfl, f 93 0 k rfl]; exact p3 k a b, fun p a b => by rw [f 95 0 p rfl, f 94 0 p rfl]; exact p4 p a b⟩
theorem q_keeps (hG : Good T) (hA : Ag T M) (hP : zPR (zpg T) M) (h102 : ∀ c, T 11 0 4 ≤ c → c < 6 → M 102 0 c = 0) {Qm : Mem → Prop} (hq : ∀ M', Fr zFO M M' → zOR T (zkeep T (zpg T)) M' → Qm M') : wp_X10_keeps M Qm := by
  obtain ⟨W, w1, w2⟩ := zpg_wf hG
  have hC := hG.nC
  have hN := W.2.1
  have hPn := W.1
  intro M2 e2
  have f2 : Fr zFO M M2 := by rw [e2]; exact (Fr.rf zFO M).up rfl
  refine zLoop (fun n k N => wp_X10_keeps_10 Qm n k N) (fun y N => Fr zFO M N ∧ N 11 0 54 = zpg T 0 0 ∧ (∀ c, N 102 0 c = M 102 0 c) ∧ ∀ k, 0 ≤ k → k < y → N 96 0 k = zpg T 1 k ∧ N 97 0 k = zpg T 2 k ∧ N 98 0 k = zpg T 3 k ∧ N 99 0 k = zpg T 4 k) (zpg T 0 0) hPn.1 ⟨f2, by rw [e2, up_eq]; exact hP.1, fun c => by rw [e2, up_s _ _ _ _ (by decide)], fun k a b => absurd b (by omega)⟩ (fun n N hI => ?_) (fun n y N y0 y1 hI ih => ?_)
  · obtain ⟨f, a54, a102, ap⟩ := hI
    have pN := hP.fo f
    refine ⟨fun _ => ?_, fun z => absurd z (by rw [pN.1]; omega)⟩
    intro M6 e6
    rw [pN.2.1] at e6
    have f6 : Fr zFO M M6 := by rw [e6]; exact f.up rfl
    -- columns
    refine zLoop (fun m k N1 => wp_X10_keeps_82 Qm m k N1) (fun y N1 => Fr zFO M N1 ∧ N1 11 0 58 = zpg T 0 1 ∧ N1 11 0 54 = zpg T 0 0 ∧ (∀ k, 0 ≤ k → k < zpg T 0 0 → N1 96 0 k = zpg T 1 k ∧ N1 97 0 k = zpg T 2 k ∧ N1 98 0 k = zpg T 3 k ∧ N1 99 0 k = zpg T 4 k) ∧ (∀ c, 0 ≤ c → c < 6 → N1 102 0 c = if c < y then ztt T c else M 102 0 c) ∧ ∀ p c, 0 ≤ p → p < zpg T 0 1 → 0 ≤ c → c < y → N1 101 0 (6 * p + c) = zkeep T (zpg T) 9 (6 * p + c)) (T 11 0 4) hC.1 ⟨f6, by rw [e6, up_eq], by rw [e6, up_k _ _ _ _ _ _ (by decide)]; exact a54, fun k a b => by rw [e6, up_s _ _ _ _ (by decide), up_s _ _ _ _ (by decide), up_s _ _ _ _ (by decide), up_s _ _ _ _ (by decide)]; exact ap k a b, fun c c0 c1 => by rw [if_neg (by omega), e6, up_s _ _ _ _ (by decide)]; exact a102 c, fun p c _ _ a b => absurd b (by omega)⟩ (fun m N1 hI => ?_) (fun m y N1 y0 y1 hI ih => ?_)
    · obtain ⟨f1, b58, b54, bp, b102, b101⟩ := hI
      have p1 := hP.fo f1
      have e4 := (f1.ag hA zFO_in).f4
      refine ⟨fun _ => ?_, fun z => absurd z (by rw [e4]; omega)⟩
      -- notes of pages
      refine zLoop (fun m k N2 => wp_X10_keeps_173 Qm m k N2) (fun y N2 => Fr zFO M N2 ∧ (∀ s (j k : Int), s ≠ 100 → N2 s j k = N1 s j k) ∧ ∀ p, 0 ≤ p → p < y → N2 100 0 p = zpg T 6 p) (zpg T 0 1) hN.1 ⟨f1, fun _ _ _ _ => rfl, fun p a b => absurd b (by omega)⟩ (fun m N2 hI => ?_) (fun m y N2 y0 y1 hI ih => ?_)
      · obtain ⟨g1, g2, g3⟩ := hI
        have p2 := hP.fo g1
        refine ⟨fun _ => hq N2 g1 ⟨?_, ?_, fun k a b => ?_, g3, fun p c a b c0 c1 => ?_, fun c c0 c1 => ?_⟩, fun z => absurd z (by rw [p2.2.1]; omega)⟩
        · rw [g2 11 0 54 (by decide)]; exact b54
        · rw [g2 11 0 58 (by decide)]; exact b58
        · rw [g2 96 0 k (by decide), g2 97 0 k (by decide), g2 98 0 k (by decide), g2 99 0 k (by decide)]; exact bp k a b
        · rw [g2 101 0 _ (by decide)]; exact b101 p c a b c0 c1
        · rw [g2 102 0 _ (by decide), b102 c c0 c1]
          show _ = (if 0 ≤ c ∧ c < T 11 0 4 then ztt T c else 0)
          by_cases hc : c < T 11 0 4
          · rw [if_pos hc, if_pos ⟨c0, hc⟩]
          · rw [if_neg hc, if_neg (fun z => hc z.2)]; exact h102 c (by omega) c1
      · obtain ⟨g1, g2, g3⟩ := hI
        have p2 := hP.fo g1
        refine ⟨fun z => absurd z (by rw [p2.2.1]; omega), fun _ => ⟨⟨by omega, by omega⟩, ⟨by omega, by omega⟩, ?_⟩⟩
        intro N3 e3
        rw [(p2.2.2.2 y y0 y1).2] at e3
        refine ⟨⟨by omega, by omega⟩, ih N3 ⟨by rw [e3]; exact g1.up rfl, fun s j k h => by rw [e3, up_s _ _ _ _ h]; exact g2 s j k h, fun p a b => ?_⟩⟩
        by_cases e : p = y
        · rw [e, e3, up_eq]
        · rw [e3, up_k _ _ _ _ _ _ e]; exact g3 p a (by omega)
    · obtain ⟨f1, b58, b54, bp, b102, b101⟩ := hI
      have hA1 := f1.ag hA zFO_in
      have e4 := hA1.f4
      have e58 := hA1.s58
      have e59 := hA1.s59
      simp only [wp_X10_keeps_82, e4, e58, e59]
      refine ⟨fun z => absurd z (by omega), fun _ => ⟨⟨by omega, by omega⟩, fun _ => ⟨⟨by omega, by omega⟩, trivial⟩, ztt_r T y, ⟨by omega, by omega⟩, ?_⟩⟩
      intro M28 e28
      have et : (if T 58 0 y = 0 then (0 : Int) else if ¬ T 59 0 y = 0 then 0 else 1) = ztt T y := rfl
      rw [et] at e28
      refine zLoop (fun l k N2 => wp_X10_keeps_121 Qm (wp_X10_keeps_82 Qm m) l y k N2) (fun q N2 => Fr zFO M N2 ∧ (∀ s (j k : Int), s ≠ 101 → N2 s j k = M28 s j k) ∧ (∀ p c, 0 ≤ p → 0 ≤ c → c < y → c < 6 → N2 101 0 (6 * p + c) = M28 101 0 (6 * p + c)) ∧ ∀ p, 0 ≤ p → p < q → N2 101 0 (6 * p + y) = zkeep T (zpg T) 9 (6 * p + y)) (zpg T 0 1) hN.1 ⟨by rw [e28]; exact f1.up rfl, fun _ _ _ _ => rfl, fun _ _ _ _ _ _ => rfl, fun p a b => absurd b (by omega)⟩ (fun l N2 hI => ?_) (fun l q N2 q0 q1 hI ih2 => ?_)
      · obtain ⟨g1, g2, g3, g4⟩ := hI
        have p2 := hP.fo g1
        refine ⟨fun _ => ⟨⟨by omega, by omega⟩, ih N2 ⟨g1, ?_, ?_, fun k a b => ?_, fun c c0 c1 => ?_, fun p c a b c0 c1 => ?_⟩⟩, fun z => absurd z (by rw [p2.2.1]; omega)⟩
        · rw [g2 11 0 58 (by decide), e28, up_s _ _ _ _ (by decide)]; exact b58
        · rw [g2 11 0 54 (by decide), e28, up_s _ _ _ _ (by decide)]; exact b54
        · rw [g2 96 0 k (by decide), g2 97 0 k (by decide), g2 98 0 k (by decide), g2 99 0 k (by decide), e28, up_s _ _ _ _ (by decide), up_s _ _ _ _ (by decide), up_s _ _ _ _ (by decide), up_s _ _ _ _ (by decide)]; exact bp k a b
        · rw [g2 102 0 c (by decide)]
          by_cases e : c = y
          · rw [e, if_pos (by omega), e28, up_eq]
          · rw [e28, up_k _ _ _ _ _ _ e, b102 c c0 c1]
            by_cases h : c < y
            · rw [if_pos h, if_pos (by omega)]
            · rw [if_neg h, if_neg (by omega)]
        · by_cases e : c = y
          · rw [e]; exact g4 p a b
          · rw [g3 p c a c0 (by omega) (by omega), e28, up_s _ _ _ _ (by decide)]
            exact b101 p c a b c0 (by omega)
      · obtain ⟨g1, g2, g3, g4⟩ := hI
        have p2 := hP.fo g1
        have h6 : zpg T 0 6 = 0 := by
          by_cases z : zpg T 0 6 = 0
          · exact z
          · have := (w2 z).2; omega
        have v102 : N2 102 0 y = ztt T y := by rw [g2 102 0 y (by decide), e28, up_eq]
        have hset : ∀ v, v = zkeep T (zpg T) 9 (6 * q + y) → wp_X10_keeps_158 Qm (wp_X10_keeps_82 Qm m) (wp_X10_keeps_121 Qm (wp_X10_keeps_82 Qm m) l) y q v (6 * q + y) N2 := fun v ev => by
          refine ⟨⟨by omega, by omega⟩, ?_⟩
          intro N3 e3
          refine ⟨⟨by omega, by omega⟩, ih2 N3 ⟨by rw [e3]; exact g1.up rfl, fun s j k h => by rw [e3, up_s _ _ _ _ h]; exact g2 s j k h, fun p c a c0 c1 c2 => ?_, fun p a b => ?_⟩⟩
          · rw [e3, up_k _ _ _ _ _ _ (by omega)]; exact g3 p c a c0 c1 c2
          · by_cases e : p = q
            · rw [e, e3, up_eq, ev]
            · rw [e3, up_k _ _ _ _ _ _ (by omega)]; exact g4 p a (by omega)
        have ek : zkeep T (zpg T) 9 (6 * q + y) = (if ztt T y = 0 then 0 else zcar T (zpg T) q y) := by
          show (if ztt T ((6 * q + y) % 6) = 0 then 0 else zcar T (zpg T) ((6 * q + y) / 6) ((6 * q + y) % 6)) = _
          rw [show (6 * q + y) % 6 = y by omega, show (6 * q + y) / 6 = q by omega]
        simp only [wp_X10_keeps_121, p2.2.1, v102]
        refine ⟨fun z => absurd z (by omega), fun _ => ⟨⟨by omega, by omega⟩, ⟨by omega, by omega⟩, ⟨by omega, by omega⟩, fun h => hset 0 (by rw [ek, if_pos h]), fun h => q_carries hG (g1.ag hA zFO_in) h6 p2 y0 (by omega) (hset _ (by rw [ek, if_neg h]))⟩⟩
  · obtain ⟨f, a54, a102, ap⟩ := hI
    have pN := hP.fo f
    obtain ⟨x1, x2, x3, x4⟩ := pN.2.2.1 y y0 y1
    refine ⟨fun z => absurd z (by rw [pN.1]; omega), fun _ => ⟨⟨by omega, by omega⟩, ⟨by omega, by omega⟩, ?_⟩⟩
    intro N1 e1
    rw [x1] at e1
    refine ⟨⟨by omega, by omega⟩, ⟨by omega, by omega⟩, ?_⟩
    intro N2 e2
    rw [e1, up_s _ _ _ _ (by decide), x2, ← e1] at e2
    refine ⟨⟨by omega, by omega⟩, ⟨by omega, by omega⟩, ?_⟩
    intro N3 e3
    have y3 : N2 92 0 y = zpg T 3 y := by rw [e2, up_s _ _ _ _ (by decide), e1, up_s _ _ _ _ (by decide)]; exact x3
    rw [y3] at e3
    refine ⟨⟨by omega, by omega⟩, ⟨by omega, by omega⟩, ?_⟩
    intro N4 e4
    have y4 : N3 93 0 y = zpg T 4 y := by rw [e3, up_s _ _ _ _ (by decide), e2, up_s _ _ _ _ (by decide), e1, up_s _ _ _ _ (by decide)]; exact x4
    rw [y4] at e4
    refine ⟨⟨by omega, by omega⟩, ih N4 ⟨by rw [e4, e3, e2, e1]; exact (((f.up rfl).up rfl).up rfl).up rfl, ?_, fun c => ?_, fun k a b => ?_⟩⟩
    · rw [e4, up_s _ _ _ _ (by decide), e3, up_s _ _ _ _ (by decide), e2, up_s _ _ _ _ (by decide), e1, up_s _ _ _ _ (by decide)]; exact a54
    · rw [e4, up_s _ _ _ _ (by decide), e3, up_s _ _ _ _ (by decide), e2, up_s _ _ _ _ (by decide), e1, up_s _ _ _ _ (by decide)]; exact a102 c
    · rw [e4, up_s _ _ _ _ (by decide), up_s _ _ _ _ (by decide), up_s _ _ _ _ (by decide), e3, up_s _ _ _ _ (by decide), up_s _ _ _ _ (by decide)]
      by_cases e : k = y
      · rw [e, up_eq, up_eq, e2, up_s _ _ _ _ (by decide), up_eq, e1, up_eq]
        exact ⟨rfl, rfl, rfl, rfl⟩
      · rw [up_k _ _ _ _ _ _ e, up_k _ _ _ _ _ _ e, up_s _ _ _ _ (by decide), e2, up_s _ _ _ _ (by decide), up_k _ _ _ _ _ _ e, up_s _ _ _ _ (by decide), up_s _ _ _ _ (by decide), e1, up_k _ _ _ _ _ _ e, up_s _ _ _ _ (by decide), up_s _ _ _ _ (by decide), up_s _ _ _ _ (by decide)]
        exact ap k a (by omega)
/-- what the reference writes on -/
def zLO : Nat → Int → Bool := fun s k => (decide (80 ≤ s) && decide (s ≤ 102)) || (decide (s = 11) && (decide (k = 41) || decide (k = 46) || decide (k = 49) || decide (k = 54) || decide (k = 58) || decide (k = 59)))
theorem zP_LO : ∀ s k, zLO s k = false → zP s k = false := by
  intro s k hz
  simp only [zLO, Bool.or_eq_false_iff, Bool.and_eq_false_iff, decide_eq_false_iff_not] at hz
  simp only [zP, Bool.or_eq_false_iff, Bool.and_eq_false_iff, decide_eq_false_iff_not]
  omega
theorem zFO_LO : ∀ s k, zLO s k = false → zFO s k = false := by
  intro s k hz
  simp only [zLO, Bool.or_eq_false_iff, Bool.and_eq_false_iff, decide_eq_false_iff_not] at hz
  simp only [zFO, Bool.or_eq_false_iff, Bool.and_eq_false_iff, decide_eq_false_iff_not]
  omega
theorem zLO_in : ∀ s k, zin s k = true → zLO s k = false := by
  intro s k hz
  simp only [zin, Bool.or_eq_true, Bool.and_eq_true, decide_eq_true_eq] at hz
  simp only [zLO, Bool.or_eq_false_iff, Bool.and_eq_false_iff, decide_eq_false_iff_not]
  omega
theorem zOR.fr {O : zSt} {N : Mem} (h : zOR T O M) (f : ∀ s (j k : Int), 96 ≤ s → s ≤ 102 → N s j k = M s j k) (g1 : N 11 0 54 = M 11 0 54) (g2 : N 11 0 58 = M 11 0 58) : zOR T O N := by
  obtain ⟨o1, o2, o3, o4, o5, o6⟩ := h
  refine ⟨by rw [g1]; exact o1, by rw [g2]; exact o2, fun k a b => ?_, fun p a b => ?_, fun p c a b c0 c1 => ?_, fun c a b => ?_⟩
  · rw [f 96 0 k (by decide) (by decide), f 97 0 k (by decide) (by decide), f 98 0 k (by decide) (by decide), f 99 0 k (by decide) (by decide)]; exact o3 k a b
  · rw [f 100 0 p (by decide) (by decide)]; exact o4 p a b
  · rw [f 101 0 _ (by decide) (by decide)]; exact o5 p c a b c0 c1
  · rw [f 102 0 c (by decide) (by decide)]; exact o6 c a b
theorem zOR.fp {O : zSt} {N : Mem} (h : zOR T O M) (f : Fr zP M N) : zOR T O N := h.fr (fun s j k a b => f s j k (by
  simp only [zP, Bool.or_eq_false_iff, Bool.and_eq_false_iff, decide_eq_false_iff_not]; omega)) (f 11 0 54 rfl) (f 11 0 58 rfl)
theorem q_look (hG : Good T) (hA : Ag T M) {O : zSt} (hO : zOS T O) (hR : zOR T O M) {Qm : Int → Mem → Prop} (hq : ∀ M', Fr zLO M M' → zOR T (zkeep T (zpg T)) M' → Qm (zlk T (zpg T) O (min (zpg T 0 1) (O 0 1))) M') : wp_X10_look M Qm := by
  obtain ⟨W, w1, w2⟩ := zpg_wf hG
  have hN := W.2.1
  have hNO := hO.1.2.1
  intro M1 e1
  have f1 : Fr zLO M M1 := by rw [e1]; exact (Fr.rf zLO M).up rfl
  have hA1 := f1.ag hA zLO_in
  have R1 : zOR T O M1 := hR.fr (fun s j k a b => by rw [e1, up_s _ _ _ _ (by omega)]) (by rw [e1, up_k _ _ _ _ _ _ (by decide)]) (by rw [e1, up_k _ _ _ _ _ _ (by decide)])
  refine q_laysPages hG hA1 (fun M3 f3 h3 p3 _ _ => ?_)
  have R3 := R1.fp f3
  have hA3 := f3.ag hA1 zP_in
  have g3 : Fr zLO M M3 := f1.tr (f3.mono zP_LO)
  have x1 := p3.2.1
  have x2 := R3.2.1
  have hdr : 0 ≤ (if zpg T 0 1 ≤ O 0 1 then O 0 1 - zpg T 0 1 else zpg T 0 1 - O 0 1) ∧ (if zpg T 0 1 ≤ O 0 1 then O 0 1 - zpg T 0 1 else zpg T 0 1 - O 0 1) ≤ 902 := by split <;> omega
  simp only [x1, x2]
  have hend : ∀ s, s = zlk T (zpg T) O (min (zpg T 0 1) (O 0 1)) → wp_X10_look_83 Qm s M3 := fun s hs => by
    refine q_keeps hG hA3 p3 (fun c a b => ?_) (fun M4 f4 r4 => ?_)
    · have hC := hG.nC
      rw [R3.2.2.2.2.2 c (by omega) b]; exact hO.2.2.2 c a b
    · rw [hs]; exact hq M4 (g3.tr (f4.mono zFO_LO)) r4
  refine ⟨fun _ => ⟨⟨by omega, by omega⟩, trivial⟩, fun _ => ⟨⟨by omega, by omega⟩, trivial⟩, ⟨by omega, by omega⟩, ?_⟩
  refine zLoop (fun n k s => wp_X10_look_45 Qm n s k M3) (fun y s => s = zlk T (zpg T) O y) (min (zpg T 0 1) (O 0 1)) (by omega) (by unfold zlk; rw [zS_self _ (Int.le_refl _)]; omega) (fun n s hs => ?_) (fun n y s y0 y1 hs ih => ?_)
  · simp only [wp_X10_look_45, x1, x2]
    exact ⟨fun _ => hend s hs, fun _ => ⟨fun _ => hend s hs, fun z => absurd z (by omega)⟩⟩
  · have hb := zS_bd (f := fun p => zbt (zoth T (zpg T) O p)) (a := 0) (b := y) 0 1 y0 (fun k _ _ => zbt_r _)
    have hs' : s = (if zpg T 0 1 ≤ O 0 1 then O 0 1 - zpg T 0 1 else zpg T 0 1 - O 0 1) + zS (fun p => zbt (zoth T (zpg T) O p)) 0 y := hs
    have h6 : zpg T 0 6 = 0 := by
      by_cases z : zpg T 0 6 = 0
      · exact z
      · have := (w2 z).2; omega
    have hr := zbt_r (zoth T (zpg T) O y)
    have ez : (if zbt (zoth T (zpg T) O y) = 0 then (0 : Int) else 1) = zbt (zoth T (zpg T) O y) := by split <;> omega
    simp only [wp_X10_look_45, x1, x2]
    refine ⟨fun z => absurd z (by omega), fun _ => ⟨fun z => absurd z (by omega), fun _ => q_isOther hG hA3 h6 hO.1 p3 R3 y0 (by omega) (by omega) ?_⟩⟩
    rw [ez]
    refine ⟨⟨by omega, by omega⟩, ⟨by omega, by omega⟩, ih _ ?_⟩
    unfold zlk
    rw [zS_succ _ y0, hs']; omega
end EA
