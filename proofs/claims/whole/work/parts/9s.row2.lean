/-! the pure part: a new row, the call -/
section ZH
variable {T M : Mem} {O : zSt} {κ : Nat → Int} {K : (Nat → Int) → Mem → Prop} {p1 p2 p3 : Int}
theorem zb_r (x : Int) : 0 ≤ zb x ∧ zb x ≤ 1 := by unfold zb; split <;> omega
theorem zRowQ.c1 (n m p : Int) (L : Nat) : zRowQ n m p L 10 0 10 := Or.inr (Or.inr (Or.inl ⟨rfl, rfl⟩))
theorem zRowQ.c2 (n m p : Int) (L : Nat) (s : Nat) (k : Int) (h : s = 6 ∨ s = 36 ∨ s = 37) : zRowQ n m p L s n k := Or.inr (Or.inr (Or.inr (Or.inl ⟨h, rfl⟩)))
theorem zRowQ.c4 (n m p : Int) (L : Nat) {k : Int} (h : k = -1 ∨ k = -2 ∨ k = m) : zRowQ n m p L L 0 k := Or.inr (Or.inr (Or.inr (Or.inr (Or.inl ⟨rfl, rfl, h⟩))))
theorem zRowQ.c5 (n m p : Int) (L : Nat) {k : Int} (h : k = -1 ∨ k = -2 ∨ k = n) : zRowQ n m p L 13 0 k := Or.inr (Or.inr (Or.inr (Or.inr (Or.inr (Or.inl ⟨rfl, rfl, h⟩)))))
theorem zRowQ.c6 (n m p : Int) (L : Nat) {s : Nat} (h : s = L + 6 ∨ s = 19) : zRowQ n m p L s 0 (-1) := Or.inr (Or.inr (Or.inr (Or.inr (Or.inr (Or.inr (Or.inl ⟨h, rfl, rfl⟩))))))
theorem zRowQ.c7 (n m p : Int) (L : Nat) {s : Nat} (h : s = 60 ∨ s = 61 ∨ s = 62) : zRowQ n m p L s 0 n := Or.inr (Or.inr (Or.inr (Or.inr (Or.inr (Or.inr (Or.inr (Or.inl ⟨h, rfl, rfl⟩)))))))
theorem zRowQ.c8 (n m p : Int) (L : Nat) : zRowQ n m p L 63 0 (24 * p + m) := Or.inr (Or.inr (Or.inr (Or.inr (Or.inr (Or.inr (Or.inr (Or.inr (Or.inl ⟨rfl, rfl, rfl⟩))))))))
theorem zRowQ.c9 (n m p : Int) (L : Nat) : zRowQ n m p L 64 0 p := Or.inr (Or.inr (Or.inr (Or.inr (Or.inr (Or.inr (Or.inr (Or.inr (Or.inr ⟨rfl, rfl, rfl⟩))))))))
theorem zRowQ.c11 (n m p : Int) (L : Nat) {k : Int} (h : k = 59 ∨ k = 8) : zRowQ n m p L 11 0 k := Or.inr (Or.inl ⟨rfl, h⟩)
theorem zRowQ.no (n m p : Int) (L : Nat) (h : 15 ≤ L ∧ L ≤ 17) : ¬ zRowQ n m p L 11 0 4 := by unfold zRowQ; omega
set_option maxHeartbeats 8000000 in
theorem l_row (h : Iv T O κ M) (hK : ∀ T' O' κ' M', Iv T' O' κ' M' → K κ' M') : wp_law_1 p1 p2 p3 κ M K := by
  have h' := h
  obtain ⟨hG, hL, hA, -, -, -, -, hp, hw, -⟩ := h
  have hC := hG.nC
  have hR := hG.nR
  have e12 := hA.s12
  have e13 := hA.s13
  have e64 := hA.s64
  have f4 := hA.f4
  have f8 := hA.f8
  obtain ⟨n12, n13, n14⟩ := hL.n
  obtain ⟨B, eB⟩ : ∃ B, B = zb p3 := ⟨_, rfl⟩
  have hB := zb_r p3
  rw [← eB] at hB
  unfold wp_law_1 wp_L_row
  rw [← eB]
  have hbad : ¬ ((0 ≤ p1 ∧ p1 ≤ 2) ∧ 0 ≤ p2 ∧ p2 ≤ 9) → wp_X10_row p1 p2 B M (fun r1 N1 => wp_X10_thrown N1 (fun r2 N2 => (r2 = 1) ∧ ((1 : Int) = 0 → N2 103 0 0 = r1) ∧ K κ N2)) := fun hx => q_in (fun a => ⟨fun z => absurd z (by decide), fun _ => q_in (fun b => absurd ⟨a, b⟩ hx) (fun b => ⟨fun z => absurd rfl z, q_goes1 rfl ⟨fun z => absurd rfl z, fun _ => finx0 h' (fun M' => hK T O κ M') (by decide)⟩⟩)⟩) (fun a => ⟨fun _ => q_goes1 rfl ⟨fun z => absurd rfl z, fun _ => finx0 h' (fun M' => hK T O κ M') (by decide)⟩, fun z => absurd rfl z⟩)
  have hfull : ((0 ≤ p1 ∧ p1 ≤ 2) ∧ 0 ≤ p2 ∧ p2 ≤ 9) → (T 11 0 4 = 0 ∨ mrpI p1 ≤ T 64 0 p1) → wp_X10_row p1 p2 B M (fun r1 N1 => wp_X10_thrown N1 (fun r2 N2 => (r2 = 2) ∧ ((2 : Int) = 0 → N2 103 0 0 = r1) ∧ K κ N2)) := fun ha hx => q_in (fun a => ⟨fun z => absurd z (by decide), fun _ => q_in (fun b => ⟨fun _ => ⟨fun _ => ⟨⟨by omega, by omega⟩, trivial⟩, trivial⟩, q_goes2 (by decide) (by
      rw [f4, e64, if_neg (by decide), mrpI_e]
      by_cases z : T 11 0 4 ≤ 0
      · rw [if_pos z]
      · rw [if_neg z, if_pos (by omega)]) ⟨fun z => absurd rfl z, fun _ => finx0 h' (fun M' => hK T O κ M') (by decide)⟩⟩) (fun b => absurd ha.2 b)⟩) (fun a => absurd ha.1 a)
  refine ⟨fun a => Or.inl ⟨rfl, hbad (by omega)⟩, fun a0 => ⟨fun a => Or.inl ⟨rfl, hbad (by omega)⟩, fun a2 => ⟨fun b => Or.inl ⟨rfl, hbad (by omega)⟩, fun b0 => ⟨fun b9 => ⟨fun hc => ?_, fun hc => ?_⟩, fun b => Or.inl ⟨rfl, hbad (by omega)⟩⟩⟩⟩⟩
  · rw [e12, n12] at hc
    have nC : T 11 0 4 = 0 := by
      by_cases z : T 11 0 4 = 0
      · exact z
      · rw [if_neg z] at hc; exact absurd rfl hc
    exact Or.inr ⟨rfl, hfull ⟨by omega, by omega⟩ (Or.inl nC)⟩
  · rw [e12, n12] at hc
    have nC : ¬ T 11 0 4 = 0 := fun z => by
      rw [if_pos z] at hc; exact absurd hc (by decide)
    refine k_isFull hL hA a0 a2 (fun hx => ⟨fun z => absurd z (by decide), fun _ => Or.inr ⟨rfl, hfull ⟨by omega, by omega⟩ (Or.inr hx)⟩⟩) (fun hx => ⟨fun _ => ?_, fun z => absurd rfl z⟩)
    intro Mq mq
    obtain ⟨n, en⟩ : ∃ n, n = T 11 0 8 := ⟨_, rfl⟩
    obtain ⟨m, em⟩ : ∃ m, m = T 64 0 p1 := ⟨_, rfl⟩
    have hL15 := rowL_15 a0 a2
    have hmany := hG.many a0 a2
    have hmx : (p1 = 0 → m < 3) ∧ (p1 = 1 → m < 24) ∧ (p1 = 2 → m < 2) := by
      unfold mrpI at hx
      rw [← em] at hx
      refine ⟨fun z => ?_, fun z => ?_, fun z => ?_⟩
      · rw [if_pos z] at hx; exact hx
      · rw [if_neg (by omega), if_pos z] at hx; exact hx
      · rw [if_neg (by omega), if_neg (by omega)] at hx; exact hx
    have hmm : 0 ≤ m ∧ m < 24 ∧ n < 29 := by
      obtain ⟨g1, g2, g3, g4, g5, g6, g7, g8, g9, g10, g11, g12⟩ := hG.n
      rcases (by omega : p1 = 0 ∨ p1 = 1 ∨ p1 = 2) with rfl | rfl | rfl <;> omega
    obtain ⟨LL, eL⟩ : ∃ LL, LL = rowL p1 := ⟨_, rfl⟩
    have partL := hL.part a0 a2
    have hLs : 15 ≤ LL ∧ LL ≤ 17 := by rw [eL]; omega
    unfold wp_addRow
    rw [← eL] at partL hL15 ⊢
    have ek : κ 6 = n := by rw [en]; exact hp.1.2.2
    have lL := hp.2 LL (by omega) (by omega)
    have l13 := hp.2 13 (by decide) (by decide)
    have l13b : 0 ≤ T 19 0 (-1) ∧ T 19 0 (-1) ≤ 150 := l13.2
    have hAq : Ag T Mq := by rw [mq]; exact hA.up rfl
    have q13 : Mq 13 0 (-1) = n := by rw [hAq 13 0 (-1) rfl, n13, en]
    have zL : ∀ k, zin LL k = true := fun k => by
      simp only [zin, Bool.or_eq_true, Bool.and_eq_true, decide_eq_true_eq]
      omega
    have zL6 : ∀ k, zin (LL + 6) k = true := fun k => by
      simp only [zin, Bool.or_eq_true, Bool.and_eq_true, decide_eq_true_eq]
      omega
    rw [q13, ek]
    have z0 : Fj (zRowQ n m p1 LL) M Mq := by rw [mq]; exact (Fj.rf _ _).up (zRowQ.c1 _ _ _ _)
    refine ⟨by unfold bit; omega, ⟨by omega, ⟨by omega, by omega⟩⟩, fun Ma ma Mb mb => ?_⟩
    have za : Fj (zRowQ n m p1 LL) M Ma := by rw [ma]; exact z0.m6 (fun s k w => zRowQ.c2 _ _ _ _ _ _ w)
    -- the new row
    have ga : ∀ (s : Nat) (j k : Int), s ≠ 6 → s ≠ 36 → s ≠ 37 → Ma s j k = Mq s j k := fun s j k z1 z2 z3 => by
      rw [ma]
      unfold M6
      rw [if_neg (fun w => z1 w.1), if_neg (fun w => z2 w.1), if_neg (fun w => z3 w.1)]
    have aL : ∀ k, Ma LL 0 k = T LL 0 k := fun k => by rw [ga LL 0 k (by omega) (by omega) (by omega)]; exact hAq LL 0 k (zL k)
    have aL6 : Ma (LL + 6) 0 (-1) = T (LL + 6) 0 (-1) := by rw [ga (LL + 6) 0 (-1) (by omega) (by omega) (by omega)]; exact hAq (LL + 6) 0 (-1) (zL6 _)
    have eLm : T LL 0 (-1) = m := by rw [partL.1, em]
    rw [aL, eLm] at mb
    have gb : ∀ (s : Nat) (j k : Int), s ≠ 6 → Mb s j k = Ma s j k := fun s j k z => by rw [mb, up_s _ _ _ _ z]
    have zbb : Fj (zRowQ n m p1 LL) M Mb := by rw [mb]; exact za.up (zRowQ.c2 _ _ _ _ _ _ (Or.inl rfl))
    have hLne : LL ≠ 6 := by omega
    have hL6ne : LL + 6 ≠ 6 := by omega
    rw [gb LL 0 (-2) hLne, gb LL 0 (-1) hLne, gb (LL + 6) 0 (-1) hL6ne, aL, aL, aL6, lL.1, eLm]
    have hcapL := capN_r (z := m) (c := T (LL + 6) 0 (-1)) (by omega) (by omega) lL.2.1 lL.2.2
    refine ⟨⟨by omega, by omega⟩, by omega, fun Mc mc => ?_⟩
    have bL : Mb LL 0 (-1) = m := by rw [gb LL 0 (-1) hLne, aL, eLm]
    have zc : Fj (zRowQ n m p1 LL) M Mc := by
      rw [mc]
      exact zbb.ad (zRowQ.c4 _ _ _ _ (Or.inl rfl)) (zRowQ.c4 _ _ _ _ (Or.inr (Or.inl rfl))) (by rw [bL]; exact zRowQ.c4 _ _ _ _ (Or.inr (Or.inr rfl))) (zRowQ.c6 _ _ _ _ (Or.inl rfl))
    have gc : ∀ (s : Nat) (j k : Int), s ≠ LL → s ≠ LL + 6 → Mc s j k = Mb s j k := fun s j k y z => by rw [mc, adM_o y z]
    have b13 : ∀ k, Mb 13 0 k = T 13 0 k := fun k => by rw [gb 13 0 k (by decide), ga 13 0 k (by decide) (by decide) (by decide)]; exact hAq 13 0 k rfl
    have c13 : ∀ k, Mc 13 0 k = T 13 0 k := fun k => by rw [gc 13 0 k (by omega) (by omega)]; exact b13 k
    have c19 : Mc (13 + 6) 0 (-1) = T 19 0 (-1) := by
      show Mc 19 0 (-1) = T 19 0 (-1)
      rw [gc 19 0 (-1) (by omega) (by omega), gb 19 0 (-1) (by decide), ga 19 0 (-1) (by decide) (by decide) (by decide)]; exact hAq 19 0 (-1) rfl
    rw [c13, c13, c19, l13.1, n13, ← en]
    have hcap13 := capN_r (z := n) (c := T 19 0 (-1)) (by omega) (by omega) l13b.1 l13b.2
    refine ⟨⟨by omega, by omega⟩, by omega, fun Md md => ?_⟩
    have c13n : Mc 13 0 (-1) = n := by rw [c13, n13, en]
    have zd : Fj (zRowQ n m p1 LL) M Md := by
      rw [md]
      exact zc.ad (zRowQ.c5 _ _ _ _ (Or.inl rfl)) (zRowQ.c5 _ _ _ _ (Or.inr (Or.inl rfl))) (by rw [c13n]; exact zRowQ.c5 _ _ _ _ (Or.inr (Or.inr rfl))) (zRowQ.c6 _ _ _ _ (Or.inr rfl))
    have gd : ∀ (s : Nat) (j k : Int), s ≠ 13 → s ≠ 19 → Md s j k = Mc s j k := fun s j k y z => by rw [md, adM_o y z]
    have d6 : Md 6 n 0 = n := by
      rw [gd 6 n 0 (by decide) (by decide), gc 6 n 0 (by omega) (by omega), mb, up_k _ _ _ _ _ _ (by decide), ma]
      unfold M6
      rw [if_pos ⟨rfl, rfl⟩, if_pos rfl]
    dsimp only
    rw [d6]
    obtain ⟨N1, eN1⟩ : ∃ N1, N1 = up Md 103 0 0 n := ⟨_, rfl⟩
    rw [← eN1]
    have z1 : Fj (zRowQ n m p1 LL) M N1 := by rw [eN1]; exact zd.up (Or.inl rfl)
    have d8 : N1 11 0 8 = n := by rw [eN1, up_s _ _ _ _ (by decide), gd 11 0 8 (by decide) (by decide), gc 11 0 8 (by omega) (by omega), gb 11 0 8 (by decide), ga 11 0 8 (by decide) (by decide) (by decide), hAq.f8, en]
    have d4 : N1 11 0 4 = T 11 0 4 := by rw [z1 11 0 4 (zRowQ.no _ _ _ _ hLs), f4]
    have d64 : N1 64 0 p1 = m := by rw [eN1, up_s _ _ _ _ (by decide), gd 64 0 p1 (by decide) (by decide), gc 64 0 p1 (by omega) (by omega), gb 64 0 p1 (by decide), ga 64 0 p1 (by decide) (by decide) (by decide), hAq 64 0 p1 rfl, em]
    refine q_in (fun _ => ⟨fun z => absurd z (by decide), fun _ => q_in (fun _ => ?_) (fun b => absurd ⟨b0, b9⟩ b)⟩) (fun b => absurd ⟨a0, a2⟩ b)
    rw [d4, d64, mrpI_e]
    refine ⟨fun _ => ⟨fun _ => ⟨⟨by omega, by omega⟩, trivial⟩, trivial⟩, ?_⟩
    rw [if_neg (show ¬ (if (1 : Int) = 0 then (0 : Int) else 1) = 0 by decide), if_neg (show ¬ T 11 0 4 ≤ 0 by omega), if_neg (show ¬ mrpI p1 ≤ m by omega)]
    refine q_goes0 (by decide) (by decide) (by decide) ⟨fun _ => ?_, fun z => absurd z (by decide)⟩
    have x0 : up N1 11 0 59 0 11 0 8 = n := by rw [up_k _ _ _ _ _ _ (by decide), d8]
    rw [x0]
    refine ⟨⟨by omega, by omega⟩, ?_⟩
    intro X1 x1
    have y1 : X1 11 0 8 = n := by rw [x1, up_s _ _ _ _ (by decide), x0]
    rw [y1]
    refine ⟨⟨by omega, by omega⟩, ?_⟩
    intro X2 x2
    have y2 : X2 11 0 8 = n := by rw [x2, up_s _ _ _ _ (by decide), y1]
    rw [y2]
    refine ⟨by split; exact bit_0; split; exact bit_0; exact bit_1, ⟨by omega, by omega⟩, ?_⟩
    intro X3 x3
    have y3 : X3 11 0 8 = n := by rw [x3, up_s _ _ _ _ (by decide), y2]
    have w3 : X3 64 0 p1 = m := by rw [x3, up_s _ _ _ _ (by decide), x2, up_s _ _ _ _ (by decide), x1, up_s _ _ _ _ (by decide), up_s _ _ _ _ (by decide), d64]
    rw [y3, w3]
    refine ⟨⟨by omega, by omega⟩, ⟨by omega, by omega⟩, ⟨by omega, by omega⟩, ⟨by omega, by omega⟩, ?_⟩
    intro X4 x4
    have w4 : X4 64 0 p1 = m := by rw [x4, up_s _ _ _ _ (by decide), w3]
    rw [w4]
    refine ⟨⟨by omega, by omega⟩, ⟨by omega, by omega⟩, ⟨by omega, by omega⟩, ?_⟩
    intro X5 x5
    have y5 : X5 11 0 8 = n := by rw [x5, up_s _ _ _ _ (by decide), x4, up_s _ _ _ _ (by decide), y3]
    rw [y5]
    refine ⟨⟨by omega, by omega⟩, ?_⟩
    intro F x6
    have y6 : F 11 0 8 = n + 1 := by rw [x6, up_eq]
    rw [y6]
    have zF' : Fj (zRowQ n m p1 LL) M F := by
      rw [x6, x5, x4, x3, x2, x1]
      exact ((((((z1.up (zRowQ.c11 _ _ _ _ (Or.inl rfl))).up (zRowQ.c7 _ _ _ _ (Or.inl rfl))).up (zRowQ.c7 _ _ _ _ (Or.inr (Or.inl rfl)))).up (zRowQ.c7 _ _ _ _ (Or.inr (Or.inr rfl)))).up (zRowQ.c8 _ _ _ _)).up (zRowQ.c9 _ _ _ _)).up (zRowQ.c11 _ _ _ _ (Or.inr rfl))
    -- what the reference put lies elsewhere
    have back : ∀ (s : Nat) (j k : Int), s ≠ 11 → s ≠ 60 → s ≠ 61 → s ≠ 62 → s ≠ 63 → s ≠ 64 → F s j k = N1 s j k := fun s j k u1 u2 u3 u4 u5 u6 => by
      rw [x6, up_s _ _ _ _ u1, x5, up_s _ _ _ _ u6, x4, up_s _ _ _ _ u5, x3, up_s _ _ _ _ u4, x2, up_s _ _ _ _ u3, x1, up_s _ _ _ _ u2, up_s _ _ _ _ u1]
    have bd : ∀ (s : Nat) (j k : Int), s ≠ 11 → s ≠ 60 → s ≠ 61 → s ≠ 62 → s ≠ 63 → s ≠ 64 → s ≠ 103 → F s j k = Md s j k := fun s j k u1 u2 u3 u4 u5 u6 u7 => by rw [back s j k u1 u2 u3 u4 u5 u6, eN1, up_s _ _ _ _ u7]
    have b6 : ∀ k, k ≠ 6 → F 6 n k = Ma 6 n k := fun k hk => by
      rw [bd 6 n k (by decide) (by decide) (by decide) (by decide) (by decide) (by decide) (by decide), gd 6 n k (by decide) (by decide), gc 6 n k (by omega) (by omega), mb, up_k _ _ _ _ _ _ hk]
    have b66 : F 6 n 6 = m := by
      rw [bd 6 n 6 (by decide) (by decide) (by decide) (by decide) (by decide) (by decide) (by decide), gd 6 n 6 (by decide) (by decide), gc 6 n 6 (by omega) (by omega), mb, up_eq]
    have m6 : ∀ k, Ma 6 n k = (if k = 0 then n else if k = 1 then p1 else if k = 2 then p2 else if k = 3 then B else 0) := fun k => by
      rw [ma]
      unfold M6
      rw [if_pos ⟨rfl, rfl⟩]
    have F60 : F 60 0 n = p1 := by
      rw [x6, up_s _ _ _ _ (by decide), x5, up_s _ _ _ _ (by decide), x4, up_s _ _ _ _ (by decide), x3, up_s _ _ _ _ (by decide), x2, up_s _ _ _ _ (by decide), x1, up_eq]
    have F61 : F 61 0 n = (if ¬ p1 = 1 then (0 : Int) else p2) := by
      rw [x6, up_s _ _ _ _ (by decide), x5, up_s _ _ _ _ (by decide), x4, up_s _ _ _ _ (by decide), x3, up_s _ _ _ _ (by decide), x2, up_eq]
    have F62 : F 62 0 n = (if ¬ p1 = 1 then (0 : Int) else (if B = 0 then (0 : Int) else 1)) := by
      rw [x6, up_s _ _ _ _ (by decide), x5, up_s _ _ _ _ (by decide), x4, up_s _ _ _ _ (by decide), x3, up_eq]
    have F63 : F 63 0 (24 * p1 + m) = n := by
      rw [x6, up_s _ _ _ _ (by decide), x5, up_s _ _ _ _ (by decide), x4, up_eq]
    have F64 : F 64 0 p1 = m + 1 := by
      rw [x6, up_s _ _ _ _ (by decide), x5, up_eq]
    rw [eL] at zF'
    have FL : ∀ k, F LL 0 k = Mc LL 0 k := fun k => by
      rw [bd LL 0 k (by omega) (by omega) (by omega) (by omega) (by omega) (by omega) (by omega), gd LL 0 k (by omega) (by omega)]
    have F13 : ∀ k, F 13 0 k = Md 13 0 k := fun k => bd 13 0 k (by decide) (by decide) (by decide) (by decide) (by decide) (by decide) (by decide)
    refine ⟨⟨by omega, by omega⟩, ?_, fun _ => ?_, hK F O _ F (zrow_iv h' en a0 a2 em hmx (by omega) zF' y6 ⟨?_, ?_, fun hone => ⟨?_, ?_⟩, b66⟩ (fun k => ?_) (fun k k0 k1 => ?_) ⟨?_, ?_, ?_⟩ ?_ ⟨?_, ?_, ?_⟩ ?_ F60 ?_ ?_ F63 F64 ?_ ⟨?_, ?_, ?_⟩)⟩
    · rw [x6, up_k _ _ _ _ _ _ (by decide), x5, up_s _ _ _ _ (by decide), x4, up_s _ _ _ _ (by decide), x3, up_s _ _ _ _ (by decide), x2, up_s _ _ _ _ (by decide), x1, up_s _ _ _ _ (by decide), up_eq]
    · rw [back 103 0 0 (by decide) (by decide) (by decide) (by decide) (by decide) (by decide), eN1, up_eq]; omega
    · rw [b6 0 (by decide), m6, if_pos rfl]
    · rw [b6 1 (by decide), m6, if_neg (by decide), if_pos rfl]
    · rw [b6 2 (by decide), m6, if_neg (by decide), if_neg (by decide), if_pos rfl, F61, if_neg (fun z => z hone)]
    · rw [b6 3 (by decide), m6, if_neg (by decide), if_neg (by decide), if_neg (by decide), if_pos rfl, F62, if_neg (fun z => z hone)]
      by_cases z : B = 0
      · rw [if_pos z]; exact z
      · rw [if_neg z]; omega
    · rw [bd 36 n k (by decide) (by decide) (by decide) (by decide) (by decide) (by decide) (by decide), gd 36 n k (by decide) (by decide), gc 36 n k (by omega) (by omega), gb 36 n k (by decide), ma]
      unfold M6
      rw [if_neg (by omega), if_pos ⟨rfl, rfl⟩]
    · rw [bd 37 n k (by decide) (by decide) (by decide) (by decide) (by decide) (by decide) (by decide), gd 37 n k (by decide) (by decide), gc 37 n k (by omega) (by omega), gb 37 n k (by decide), ma]
      unfold M6
      rw [if_neg (by omega), if_neg (by omega), if_pos ⟨rfl, rfl⟩, if_pos ⟨k0, k1⟩]
    · rw [← eL, FL, mc, adM_n, bL]
    · rw [← eL, FL, mc, adM_m, gb LL 0 (-2) hLne, aL, lL.1, eLm]
    · rw [← eL, FL, mc, adM_e (by omega), bL, if_pos rfl]
    · have : F (LL + 6) 0 (-1) = capN m (T (LL + 6) 0 (-1)) := by
        rw [bd (LL + 6) 0 (-1) (by omega) (by omega) (by omega) (by omega) (by omega) (by omega) (by omega), gd (LL + 6) 0 (-1) (by omega) (by omega), mc, adM_c, bL, gb (LL + 6) 0 (-1) hL6ne, aL6]
      rw [← eL, this]; exact hcapL
    · rw [F13, md, adM_n, c13n]
    · rw [F13, md, adM_m, c13, l13.1, n13, en]
    · rw [F13, md, adM_e (by omega), c13n, if_pos rfl]
    · have : F 19 0 (-1) = capN n (T 19 0 (-1)) := by
        rw [bd 19 0 (-1) (by decide) (by decide) (by decide) (by decide) (by decide) (by decide) (by decide), md]
        have := adM_c (M := Mc) (L := 13) (v := n)
        rw [c13n, c19] at this
        exact this
      rw [this]; exact hcap13
    · rw [F61]; split <;> omega
    · rw [F62]; split
      · omega
      · split <;> omega
    · rw [bd 10 0 10 (by decide) (by decide) (by decide) (by decide) (by decide) (by decide) (by decide), gd 10 0 10 (by decide) (by decide), gc 10 0 10 (by omega) (by omega), gb 10 0 10 (by decide), ga 10 0 10 (by decide) (by decide) (by decide), mq, up_eq]
    · unfold kad kup
      rw [if_neg (by decide), if_neg (by omega), if_neg (by decide)]
    · unfold kad kup
      rw [if_neg (by decide), if_neg (by omega), if_neg (by decide)]
    · unfold kad kup
      rw [if_neg (by decide), if_neg (by omega), if_pos (by decide)]
end ZH
