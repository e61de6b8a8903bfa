/-! the class's calls as this law asks them: a row -/
section NF
variable {T M : Mem} {O : zSt} {κ : Nat → Int} {p1 p2 p3 p4 : Int}
set_option maxHeartbeats 8000000 in
theorem n_row (h : Iv T O κ M) (a0 : 0 ≤ p1) (a2 : p1 ≤ 2) (b0 : 0 ≤ p2) (b9 : p2 ≤ 9) (hb3 : bit p3) (nC : 0 < T 11 0 4) {Qf : Int → (Nat → Int) → Mem → Prop} (hX : mrpI p1 ≤ T 64 0 p1 → Qf (-7) κ M) (hK : T 64 0 p1 < mrpI p1 → ∀ T' κ' M', Iv T' O κ' M' → zSm M M' → (∀ s : Nat, 104 ≤ s → κ' s = κ s) → T' 11 0 8 = T 11 0 8 + 1 → (∀ k, (k = 4 ∨ k = 15 ∨ k = 24 ∨ k = 25 ∨ k = 26) → T' 11 0 k = T 11 0 k) → (∀ k, T' 60 0 k = if k = T 11 0 8 then p1 else T 60 0 k) → (∀ k, T' 61 0 k = if k = T 11 0 8 then (if p1 = 1 then p2 else 0) else T 61 0 k) → (∀ k, T' 62 0 k = if k = T 11 0 8 then (if p1 = 1 then p3 else 0) else T 62 0 k) → (∀ k, T' 63 0 k = if k = 24 * p1 + T 64 0 p1 then T 11 0 8 else T 63 0 k) → (∀ k, T' 64 0 k = if k = p1 then T 64 0 p1 + 1 else T 64 0 k) → (∀ r, T' 6 r 6 = if r = T 11 0 8 then T 64 0 p1 else T 6 r 6) → (∀ s : Nat, (56 ≤ s ∧ s ≤ 59) ∨ (65 ≤ s ∧ s ≤ 76) → T' s = T s) → Qf (T 11 0 8) κ' M') : wp_L_rowed p1 p2 p3 κ M (fun r κ1 M1 => ∃ M2, Gh M1 M2 ∧ Qf r κ1 M2) := by
  have h' := h
  obtain ⟨hG, hL, hA, -, -, -, -, hp, hw, -⟩ := h
  have hC := hG.nC
  have hR := hG.nR
  have e12 := hA.s12
  have e13 := hA.s13
  have e64 := hA.s64
  have f4 := hA.f4
  have f8 := hA.f8
  obtain ⟨n12, n13, n14⟩ := hL.n
  unfold wp_L_rowed
  refine ⟨fun a => absurd a (by omega), fun _ => ⟨fun a => absurd a (by omega), fun _ => ⟨fun b => absurd b (by omega), fun _ => ⟨fun _ => ⟨fun hc => ?_, fun hc => ?_⟩, fun b => absurd b (by omega)⟩⟩⟩⟩
  · rw [e12, n12, if_neg (by omega)] at hc
    exact absurd rfl hc
  · refine k_isFull hL hA a0 a2 (fun hx => ⟨fun z => absurd z (by decide), fun _ => ⟨rfl, M, Gh.rf, hX hx⟩⟩) (fun hx => ⟨fun _ => ?_, fun z => absurd rfl z⟩)
    intro Mq mq
    obtain ⟨n, en⟩ : ∃ n, n = T 11 0 8 := ⟨_, rfl⟩
    obtain ⟨m, em⟩ : ∃ m, m = T 64 0 p1 := ⟨_, rfl⟩
    have hL15 := rowL_15 a0 a2
    have hmany := hG.many a0 a2
    have hmx : (p1 = 0 → m < 3) ∧ (p1 = 1 → m < 24) ∧ (p1 = 2 → m < 2) := by
      unfold mrpI at hx
      rw [← em] at hx
      refine ⟨fun z => ?_, fun z => ?_, fun z => ?_⟩
      · rw [if_pos z] at hx; exact hx
      · rw [if_neg (by omega), if_pos z] at hx; exact hx
      · rw [if_neg (by omega), if_neg (by omega)] at hx; exact hx
    have hmm : 0 ≤ m ∧ m < 24 ∧ n < 29 := by
      obtain ⟨g1, g2, g3, g4, g5, g6, g7, g8, g9, g10, g11, g12⟩ := hG.n
      rcases (by omega : p1 = 0 ∨ p1 = 1 ∨ p1 = 2) with rfl | rfl | rfl <;> omega
    obtain ⟨LL, eL⟩ : ∃ LL, LL = rowL p1 := ⟨_, rfl⟩
    have partL := hL.part a0 a2
    have hLs : 15 ≤ LL ∧ LL ≤ 17 := by rw [eL]; omega
    unfold wp_addRow
    rw [← eL] at partL hL15 ⊢
    have ek : κ 6 = n := by rw [en]; exact hp.1.2.2
    have lL := hp.2 LL (by omega) (by omega)
    have l13 := hp.2 13 (by decide) (by decide)
    have l13b : 0 ≤ T 19 0 (-1) ∧ T 19 0 (-1) ≤ 150 := l13.2
    have hAq : Ag T Mq := by rw [mq]; exact hA.up rfl
    have q13 : Mq 13 0 (-1) = n := by rw [hAq 13 0 (-1) rfl, n13, en]
    have zL : ∀ k, zin LL k = true := fun k => by
      simp only [zin, Bool.or_eq_true, Bool.and_eq_true, decide_eq_true_eq]
      omega
    have zL6 : ∀ k, zin (LL + 6) k = true := fun k => by
      simp only [zin, Bool.or_eq_true, Bool.and_eq_true, decide_eq_true_eq]
      omega
    rw [q13, ek]
    have z0 : Fj (zRowQ n m p1 LL) M Mq := by rw [mq]; exact (Fj.rf _ _).up (zRowQ.c1 _ _ _ _)
    refine ⟨hb3, ⟨by omega, ⟨by omega, by omega⟩⟩, fun Ma ma Mb mb => ?_⟩
    have za : Fj (zRowQ n m p1 LL) M Ma := by rw [ma]; exact z0.m6 (fun s k w => zRowQ.c2 _ _ _ _ _ _ w)
    -- the new row
    have ga : ∀ (s : Nat) (j k : Int), s ≠ 6 → s ≠ 36 → s ≠ 37 → Ma s j k = Mq s j k := fun s j k z1 z2 z3 => by
      rw [ma]
      unfold M6
      rw [if_neg (fun w => z1 w.1), if_neg (fun w => z2 w.1), if_neg (fun w => z3 w.1)]
    have aL : ∀ k, Ma LL 0 k = T LL 0 k := fun k => by rw [ga LL 0 k (by omega) (by omega) (by omega)]; exact hAq LL 0 k (zL k)
    have aL6 : Ma (LL + 6) 0 (-1) = T (LL + 6) 0 (-1) := by rw [ga (LL + 6) 0 (-1) (by omega) (by omega) (by omega)]; exact hAq (LL + 6) 0 (-1) (zL6 _)
    have eLm : T LL 0 (-1) = m := by rw [partL.1, em]
    rw [aL, eLm] at mb
    have gb : ∀ (s : Nat) (j k : Int), s ≠ 6 → Mb s j k = Ma s j k := fun s j k z => by rw [mb, up_s _ _ _ _ z]
    have zbb : Fj (zRowQ n m p1 LL) M Mb := by rw [mb]; exact za.up (zRowQ.c2 _ _ _ _ _ _ (Or.inl rfl))
    have hLne : LL ≠ 6 := by omega
    have hL6ne : LL + 6 ≠ 6 := by omega
    rw [gb LL 0 (-2) hLne, gb LL 0 (-1) hLne, gb (LL + 6) 0 (-1) hL6ne, aL, aL, aL6, lL.1, eLm]
    have hcapL := capN_r (z := m) (c := T (LL + 6) 0 (-1)) (by omega) (by omega) lL.2.1 lL.2.2
    refine ⟨⟨by omega, by omega⟩, by omega, fun Mc mc => ?_⟩
    have bL : Mb LL 0 (-1) = m := by rw [gb LL 0 (-1) hLne, aL, eLm]
    have zc : Fj (zRowQ n m p1 LL) M Mc := by
      rw [mc]
      exact zbb.ad (zRowQ.c4 _ _ _ _ (Or.inl rfl)) (zRowQ.c4 _ _ _ _ (Or.inr (Or.inl rfl))) (by rw [bL]; exact zRowQ.c4 _ _ _ _ (Or.inr (Or.inr rfl))) (zRowQ.c6 _ _ _ _ (Or.inl rfl))
    have gc : ∀ (s : Nat) (j k : Int), s ≠ LL → s ≠ LL + 6 → Mc s j k = Mb s j k := fun s j k y z => by rw [mc, adM_o y z]
    have b13 : ∀ k, Mb 13 0 k = T 13 0 k := fun k => by rw [gb 13 0 k (by decide), ga 13 0 k (by decide) (by decide) (by decide)]; exact hAq 13 0 k rfl
    have c13 : ∀ k, Mc 13 0 k = T 13 0 k := fun k => by rw [gc 13 0 k (by omega) (by omega)]; exact b13 k
    have c19 : Mc (13 + 6) 0 (-1) = T 19 0 (-1) := by
      show Mc 19 0 (-1) = T 19 0 (-1)
      rw [gc 19 0 (-1) (by omega) (by omega), gb 19 0 (-1) (by decide), ga 19 0 (-1) (by decide) (by decide) (by decide)]; exact hAq 19 0 (-1) rfl
    rw [c13, c13, c19, l13.1, n13, ← en]
    have hcap13 := capN_r (z := n) (c := T 19 0 (-1)) (by omega) (by omega) l13b.1 l13b.2
    refine ⟨⟨by omega, by omega⟩, by omega, fun Md md => ?_⟩
    have c13n : Mc 13 0 (-1) = n := by rw [c13, n13, en]
    have zd : Fj (zRowQ n m p1 LL) M Md := by
      rw [md]
      exact zc.ad (zRowQ.c5 _ _ _ _ (Or.inl rfl)) (zRowQ.c5 _ _ _ _ (Or.inr (Or.inl rfl))) (by rw [c13n]; exact zRowQ.c5 _ _ _ _ (Or.inr (Or.inr rfl))) (zRowQ.c6 _ _ _ _ (Or.inr rfl))
    have gd : ∀ (s : Nat) (j k : Int), s ≠ 13 → s ≠ 19 → Md s j k = Mc s j k := fun s j k y z => by rw [md, adM_o y z]
    have d6 : Md 6 n 0 = n := by
      rw [gd 6 n 0 (by decide) (by decide), gc 6 n 0 (by omega) (by omega), mb, up_k _ _ _ _ _ _ (by decide), ma]
      unfold M6
      rw [if_pos ⟨rfl, rfl⟩, if_pos rfl]
    dsimp only
    rw [d6]
    obtain ⟨F, eF⟩ : ∃ F, F = up (up (up (up (up (up Md 60 0 n p1) 61 0 n (if ¬ p1 = 1 then (0 : Int) else p2)) 62 0 n (if ¬ p1 = 1 then (0 : Int) else p3)) 63 0 (24 * p1 + m) n) 64 0 p1 (m + 1)) 11 0 8 (n + 1) := ⟨_, rfl⟩
    have y6 : F 11 0 8 = n + 1 := by rw [eF, up_eq]
    have zF' : Fj (zRowQ n m p1 LL) M F := by
      rw [eF]
      exact (((((zd.up (zRowQ.c7 _ _ _ _ (Or.inl rfl))).up (zRowQ.c7 _ _ _ _ (Or.inr (Or.inl rfl)))).up (zRowQ.c7 _ _ _ _ (Or.inr (Or.inr rfl)))).up (zRowQ.c8 _ _ _ _)).up (zRowQ.c9 _ _ _ _)).up (zRowQ.c11 _ _ _ _ (Or.inr rfl))
    have bd : ∀ (s : Nat) (j k : Int), s ≠ 11 → s ≠ 60 → s ≠ 61 → s ≠ 62 → s ≠ 63 → s ≠ 64 → F s j k = Md s j k := fun s j k u1 u2 u3 u4 u5 u6 => by
      rw [eF, up_s _ _ _ _ u1, up_s _ _ _ _ u6, up_s _ _ _ _ u5, up_s _ _ _ _ u4, up_s _ _ _ _ u3, up_s _ _ _ _ u2]
    have b6 : ∀ k, k ≠ 6 → F 6 n k = Ma 6 n k := fun k hk => by
      rw [bd 6 n k (by decide) (by decide) (by decide) (by decide) (by decide) (by decide), gd 6 n k (by decide) (by decide), gc 6 n k (by omega) (by omega), mb, up_k _ _ _ _ _ _ hk]
    have b66 : F 6 n 6 = m := by
      rw [bd 6 n 6 (by decide) (by decide) (by decide) (by decide) (by decide) (by decide), gd 6 n 6 (by decide) (by decide), gc 6 n 6 (by omega) (by omega), mb, up_eq]
    have m6 : ∀ k, Ma 6 n k = (if k = 0 then n else if k = 1 then p1 else if k = 2 then p2 else if k = 3 then p3 else 0) := fun k => by
      rw [ma]
      unfold M6
      rw [if_pos ⟨rfl, rfl⟩]
    have F60 : F 60 0 n = p1 := by
      rw [eF, up_s _ _ _ _ (by decide), up_s _ _ _ _ (by decide), up_s _ _ _ _ (by decide), up_s _ _ _ _ (by decide), up_s _ _ _ _ (by decide), up_eq]
    have F61 : F 61 0 n = (if ¬ p1 = 1 then (0 : Int) else p2) := by
      rw [eF, up_s _ _ _ _ (by decide), up_s _ _ _ _ (by decide), up_s _ _ _ _ (by decide), up_s _ _ _ _ (by decide), up_eq]
    have F62 : F 62 0 n = (if ¬ p1 = 1 then (0 : Int) else p3) := by
      rw [eF, up_s _ _ _ _ (by decide), up_s _ _ _ _ (by decide), up_s _ _ _ _ (by decide), up_eq]
    have F63 : F 63 0 (24 * p1 + m) = n := by
      rw [eF, up_s _ _ _ _ (by decide), up_s _ _ _ _ (by decide), up_eq]
    have F64 : F 64 0 p1 = m + 1 := by
      rw [eF, up_s _ _ _ _ (by decide), up_eq]
    have hb3' := bit_r hb3
    have zF2 := zF'
    rw [eL] at zF'
    have FL : ∀ k, F LL 0 k = Mc LL 0 k := fun k => by
      rw [bd LL 0 k (by omega) (by omega) (by omega) (by omega) (by omega) (by omega), gd LL 0 k (by omega) (by omega)]
    have F13 : ∀ k, F 13 0 k = Md 13 0 k := fun k => bd 13 0 k (by decide) (by decide) (by decide) (by decide) (by decide) (by decide)
    have hIv : Iv F O (kad (kad (kup [6, 36, 37] κ) (LL + 6)) (13 + 6)) F := by
      refine zrow_iv h' en a0 a2 em hmx (by omega) zF' y6 ⟨?_, ?_, fun hone => ⟨?_, ?_⟩, b66⟩ (fun k => ?_) (fun k k0 k1 => ?_) ⟨?_, ?_, ?_⟩ ?_ ⟨?_, ?_, ?_⟩ ?_ F60 ?_ ?_ F63 F64 ?_ ⟨?_, ?_, ?_⟩
      · rw [b6 0 (by decide), m6, if_pos rfl]
      · rw [b6 1 (by decide), m6, if_neg (by decide), if_pos rfl]
      · rw [b6 2 (by decide), m6, if_neg (by decide), if_neg (by decide), if_pos rfl, F61, if_neg (fun z => z hone)]
      · rw [b6 3 (by decide), m6, if_neg (by decide), if_neg (by decide), if_neg (by decide), if_pos rfl, F62, if_neg (fun z => z hone)]
      · rw [bd 36 n k (by decide) (by decide) (by decide) (by decide) (by decide) (by decide), gd 36 n k (by decide) (by decide), gc 36 n k (by omega) (by omega), gb 36 n k (by decide), ma]
        unfold M6
        rw [if_neg (by omega), if_pos ⟨rfl, rfl⟩]
      · rw [bd 37 n k (by decide) (by decide) (by decide) (by decide) (by decide) (by decide), gd 37 n k (by decide) (by decide), gc 37 n k (by omega) (by omega), gb 37 n k (by decide), ma]
        unfold M6
        rw [if_neg (by omega), if_neg (by omega), if_pos ⟨rfl, rfl⟩, if_pos ⟨k0, k1⟩]
      · rw [← eL, FL, mc, adM_n, bL]
      · rw [← eL, FL, mc, adM_m, gb LL 0 (-2) hLne, aL, lL.1, eLm]
      · rw [← eL, FL, mc, adM_e (by omega), bL, if_pos rfl]
      · have : F (LL + 6) 0 (-1) = capN m (T (LL + 6) 0 (-1)) := by
          rw [bd (LL + 6) 0 (-1) (by omega) (by omega) (by omega) (by omega) (by omega) (by omega), gd (LL + 6) 0 (-1) (by omega) (by omega), mc, adM_c, bL, gb (LL + 6) 0 (-1) hL6ne, aL6]
        rw [← eL, this]; exact hcapL
      · rw [F13, md, adM_n, c13n]
      · rw [F13, md, adM_m, c13, l13.1, n13, en]
      · rw [F13, md, adM_e (by omega), c13n, if_pos rfl]
      · have : F 19 0 (-1) = capN n (T 19 0 (-1)) := by
          rw [bd 19 0 (-1) (by decide) (by decide) (by decide) (by decide) (by decide) (by decide), md]
          have := adM_c (M := Mc) (L := 13) (v := n)
          rw [c13n, c19] at this
          exact this
        rw [this]; exact hcap13
      · rw [F61]; split <;> omega
      · rw [F62]; split <;> omega
      · rw [bd 10 0 10 (by decide) (by decide) (by decide) (by decide) (by decide) (by decide), gd 10 0 10 (by decide) (by decide), gc 10 0 10 (by omega) (by omega), gb 10 0 10 (by decide), ga 10 0 10 (by decide) (by decide) (by decide), mq, up_eq]
      · unfold kad kup
        rw [if_neg (by decide), if_neg (by omega), if_neg (by decide)]
      · unfold kad kup
        rw [if_neg (by decide), if_neg (by omega), if_neg (by decide)]
      · unfold kad kup
        rw [if_neg (by decide), if_neg (by omega), if_pos (by decide)]
    have hne : ∀ (s : Nat) (k : Int), s ≠ LL → s ≠ LL + 6 → zin s k = true → ¬ zRowQ n m p1 LL s 0 k → F s 0 k = T s 0 k := fun s k _ _ a b => (zF2 s 0 k b).trans (hA s 0 k a)
    refine ⟨F, by rw [eF]; exact (((((Gh.rf.up (Or.inr ⟨by decide, by decide⟩) ⟨by omega, by omega⟩).up (Or.inr ⟨by decide, by decide⟩) (by split <;> exact ⟨by omega, by omega⟩)).up (Or.inr ⟨by decide, by decide⟩) (by split <;> exact ⟨by omega, by omega⟩)).up (Or.inr ⟨by decide, by decide⟩) ⟨by omega, by omega⟩).up (Or.inr ⟨by decide, by decide⟩) ⟨by omega, by omega⟩).up (Or.inl rfl) ⟨by omega, by omega⟩, ?_⟩
    rw [show Qf n = Qf (T 11 0 8) from by rw [en]]
    rw [en, em] at F63
    refine hK hx F _ F hIv ⟨fun s hs => funext fun j => funext fun k => zF2 s j k (by unfold zRowQ; omega), zF2 11 0 30 (by unfold zRowQ; omega)⟩ (fun s hs => ?_) (by rw [y6, en]) (fun k hk => ?_) (fun k => ?_) (fun k => ?_) (fun k => ?_) (fun k => ?_) (fun k => ?_) (fun r => ?_) (fun s hs => funext fun j => funext fun k => (zF2 s j k (by unfold zRowQ; omega)).trans (hA s j k (by
      simp only [zin, Bool.or_eq_true, Bool.and_eq_true, decide_eq_true_eq]
      omega)))
    · unfold kad
      rw [if_neg (by omega), if_neg (by omega)]
      exact kup_ge (N := 104) (by decide) hs
    · exact hne 11 k (by omega) (by omega) (by rcases hk with rfl | rfl | rfl | rfl | rfl <;> rfl) (by unfold zRowQ; omega)
    · by_cases e : k = T 11 0 8
      · rw [if_pos e, e, ← en, F60]
      · rw [if_neg e]; exact hne 60 k (by omega) (by omega) rfl (by unfold zRowQ; omega)
    · by_cases e : k = T 11 0 8
      · rw [if_pos e, e, ← en, F61]
        by_cases z : p1 = 1
        · rw [if_pos z, if_neg (fun y => y z)]
        · rw [if_neg z, if_pos z]
      · rw [if_neg e]; exact hne 61 k (by omega) (by omega) rfl (by unfold zRowQ; omega)
    · by_cases e : k = T 11 0 8
      · rw [if_pos e, e, ← en, F62]
        by_cases z : p1 = 1
        · rw [if_pos z, if_neg (fun y => y z)]
        · rw [if_neg z, if_pos z]
      · rw [if_neg e]; exact hne 62 k (by omega) (by omega) rfl (by unfold zRowQ; omega)
    · by_cases e : k = 24 * p1 + T 64 0 p1
      · rw [if_pos e, e, F63]
      · rw [if_neg e]; exact hne 63 k (by omega) (by omega) rfl (by unfold zRowQ; omega)
    · by_cases e : k = p1
      · rw [if_pos e, e, F64, em]
      · rw [if_neg e]; exact hne 64 k (by omega) (by omega) rfl (by unfold zRowQ; omega)
    · by_cases e : r = T 11 0 8
      · rw [if_pos e, e, ← en, b66, em]
      · rw [if_neg e]; exact (zF2 6 r 6 (by unfold zRowQ; omega)).trans (hA 6 r 6 rfl)
end NF
