/-! the pure part: the reference's widths -/
section RX
variable {T M : Mem}
theorem zLf_r (hG : Good T) {k : Int} : 0 ≤ zLf T k ∧ zLf T k ≤ 11 := by
  have a := zlef_r hG (k := k) hG.nR.1
  have b := zleft_r (zabv T k (T 11 0 8))
  have c := zleft_r (zblw T k (T 11 0 8))
  unfold zLf
  split <;> omega
theorem zRg_r (hG : Good T) {k : Int} (k0 : 0 ≤ k) (k1 : k < 6) : 0 ≤ zRg T k ∧ zRg T k ≤ 4 := zrig_r hG k0 k1 hG.nR.1 (Int.le_refl _)
theorem zb0_r (hG : Good T) (k : Int) : 0 ≤ zb0 T k ∧ zb0 T k ≤ 15 := by
  have hC := hG.nC
  unfold zb0
  split
  · rename_i h
    have a := zLf_r hG (k := k)
    have b := zRg_r hG (k := k) (by omega) (by omega)
    omega
  · omega
theorem zb1_r (hG : Good T) (most : Int) {n : Int} (n0 : 0 ≤ n) (n1 : n ≤ T 11 0 15) : ∀ k, 0 ≤ zb1 T most n k ∧ zb1 T most n k ≤ 260 := by
  refine zF_ind (fun _ (w : Int → Int) => ∀ k, 0 ≤ w k ∧ w k ≤ 260) n0 (fun k => by have := zb0_r hG k; omega) (fun c v a b hv => ?_)
  show ∀ k, 0 ≤ (if zshows T c = 1 then zset v (zlast T c) (max (v (zlast T c)) (zwant T most c)) else v) k ∧ (if zshows T c = 1 then zset v (zlast T c) (max (v (zlast T c)) (zwant T most c)) else v) k ≤ 260
  intro k
  split
  · have := zwant_r hG most a (by omega)
    have h1 := hv k
    have h2 := hv (zlast T c)
    unfold zset
    split <;> omega
  · exact hv k
theorem zb2_r (hG : Good T) (most : Int) : zWB T (zb2 T most) :=
  zspr_r hG (fun k _ _ => by have := zb1_r hG most hG.nK.1 (Int.le_refl _) k; omega) (by omega)
theorem zls_r (hG : Good T) {k : Int} (k0 : 0 ≤ k) (k1 : k < T 11 0 4) : 0 ≤ zls T k ∧ zls T k ≤ zms T k ∧ zms T k ≤ 300 := by
  have a := zb2_r hG 0 k k0 k1
  have b := zb2_r hG 1 k k0 k1
  unfold zls zms
  split <;> omega
theorem q_laysLeasts (hG : Good T) (hA : Ag T M) {Qm : Mem → Prop} (hq : ∀ M', Fr zW M M' → (∀ k, 0 ≤ k → k < T 11 0 4 → M' 80 0 k = zLf T k ∧ M' 81 0 k = zRg T k ∧ M' 82 0 k = zls T k ∧ M' 83 0 k = zms T k) → Qm M') : wp_X10_laysLeasts M Qm := by
  have hC := hG.nC
  have hK := hG.nK
  refine zLoop (fun n k N => wp_X10_laysLeasts_2 Qm n k N) (fun y N => Fr zW M N ∧ ∀ k, 0 ≤ k → k < y → N 80 0 k = zLf T k ∧ N 81 0 k = zRg T k ∧ N 82 0 k = zb0 T k ∧ N 83 0 k = zb0 T k) (T 11 0 4) hC.1 ⟨Fr.rf _ _, fun k a b => absurd b (by omega)⟩ (fun n N hN => ?_) (fun n y N y0 y1 hN ih => ?_)
  · have hA1 : Ag T N := hN.1.ag hA zW_in
    have e4 := hA1.f4
    refine ⟨fun _ => ?_, fun h => absurd h (by omega)⟩
    refine zLoop (fun n k N => wp_X10_laysLeasts_54 Qm n k N) (fun c N => Fr zW M N ∧ (∀ k, 0 ≤ k → k < T 11 0 4 → N 80 0 k = zLf T k ∧ N 81 0 k = zRg T k) ∧ zEq T (N 82 0) (zb1 T 0 c) ∧ zEq T (N 83 0) (zb1 T 1 c)) (T 11 0 15) hK.1 ⟨hN.1, fun k a b => ⟨(hN.2 k a b).1, (hN.2 k a b).2.1⟩, fun k a b => ?_, fun k a b => ?_⟩ (fun n2 N2 hN2 => ?_) (fun n2 c N2 c0 c1 hN2 ih2 => ?_)
    · rw [(hN.2 k a b).2.2.1]; unfold zb1; rw [zF_self _ _ (by omega)]
    · rw [(hN.2 k a b).2.2.2]; unfold zb1; rw [zF_self _ _ (by omega)]
    · obtain ⟨f2, l2, h82, h83⟩ := hN2
      have hA2 : Ag T N2 := f2.ag hA zW_in
      have e15 := hA2.f15
      refine ⟨fun _ => ?_, fun h => absurd h (by omega)⟩
      refine q_spreads hG hA2 (fun k => rfl) h82 (fun k a b => by have := zb1_r hG 0 hK.1 (Int.le_refl _) k; omega) (fun N3 f3 g82 => ?_)
      have f3' : Fr zW N2 N3 := f3.mono (fun s k z => by
        simp only [zW, Bool.and_eq_false_iff, decide_eq_false_iff_not] at z
        exact decide_eq_false (by omega))
      have hA3 : Ag T N3 := f3'.ag hA2 zW_in
      have h83' : zEq T (N3 83 0) (zb1 T 1 (T 11 0 15)) := fun k a b => by rw [f3 83 0 k rfl]; exact h83 k a b
      refine q_spreads hG hA3 (fun k => rfl) h83' (fun k a b => by have := zb1_r hG 1 hK.1 (Int.le_refl _) k; omega) (fun N4 f4 g83 => ?_)
      have f4' : Fr zW N3 N4 := f4.mono (fun s k z => by
        simp only [zW, Bool.and_eq_false_iff, decide_eq_false_iff_not] at z
        exact decide_eq_false (by omega))
      have hA4 : Ag T N4 := f4'.ag hA3 zW_in
      refine zLoop (fun n k N => wp_X10_laysLeasts_147 Qm n k N) (fun y N => Fr zW N4 N ∧ (∀ k, 0 ≤ k → k < T 11 0 4 → N 80 0 k = zLf T k ∧ N 81 0 k = zRg T k) ∧ (∀ k, 0 ≤ k → k < y → N 82 0 k = zls T k ∧ N 83 0 k = zms T k) ∧ (∀ k, y ≤ k → k < T 11 0 4 → N 82 0 k = zb2 T 0 k ∧ N 83 0 k = zb2 T 1 k)) (T 11 0 4) hC.1 ⟨Fr.rf _ _, fun k a b => ?_, fun k a b => absurd b (by omega), fun k a b => ⟨?_, g83 k a b⟩⟩ (fun n5 N5 hN5 => ?_) (fun n5 y N5 y0 y1 hN5 ih5 => ?_)
      · rw [f4 80 0 k rfl, f4 81 0 k rfl, f3 80 0 k rfl, f3 81 0 k rfl]; exact l2 k a b
      · rw [f4 82 0 k rfl]; exact g82 k a b
      · have e4' := (hN5.1.ag hA4 zW_in).f4
        refine ⟨fun _ => hq N5 (((f2.tr f3').tr f4').tr hN5.1) (fun k a b => ⟨(hN5.2.1 k a b).1, (hN5.2.1 k a b).2, (hN5.2.2.1 k a b).1, (hN5.2.2.1 k a b).2⟩), fun h => absurd h (by omega)⟩
      · obtain ⟨f5, l5, d5, r5⟩ := hN5
        have hA5 : Ag T N5 := f5.ag hA4 zW_in
        have e4' := hA5.f4
        obtain ⟨a5, b5⟩ := r5 y (Int.le_refl _) y1
        refine ⟨fun h => absurd h (by omega), fun _ => ⟨⟨by omega, by omega⟩, ⟨by omega, by omega⟩, q_greater ⟨⟨by omega, by omega⟩, ?_⟩⟩⟩
        intro N6 e6
        have h59 : N6 59 = T 59 := by rw [e6]; exact (hA5.up rfl).s59
        refine ⟨⟨by omega, by omega⟩, fun _ => ⟨⟨by omega, by omega⟩, trivial⟩, ⟨by omega, by omega⟩, ?_⟩
        intro N7 e7
        have h59' : N7 59 = T 59 := by rw [e7, up_ne59, h59]
        refine ⟨⟨by omega, by omega⟩, fun _ => ⟨⟨by omega, by omega⟩, trivial⟩, ⟨by omega, by omega⟩, ?_⟩
        intro N8 e8
        rw [h59] at e7
        rw [h59'] at e8
        have hf : Fr zW N4 N8 := by rw [e8, e7, e6]; exact ((f5.up rfl).up rfl).up rfl
        refine ⟨⟨by omega, by omega⟩, ih5 N8 ⟨hf, fun k a b => ?_, fun k a b => ?_, fun k a b => ?_⟩⟩
        · rw [e8, up_s _ _ _ _ (by decide), up_s _ _ _ _ (by decide), e7, up_s _ _ _ _ (by decide), up_s _ _ _ _ (by decide), e6, up_s _ _ _ _ (by decide), up_s _ _ _ _ (by decide)]
          exact l5 k a b
        · by_cases hk : k = y
          · subst hk
            rw [e8, up_s _ _ _ _ (by decide), up_eq, e7, up_eq, up_s _ _ _ _ (by decide), e6, up_s _ _ _ _ (by decide), up_eq, a5, b5]
            exact ⟨rfl, rfl⟩
          · rw [e8, up_s _ _ _ _ (by decide), up_k _ _ _ _ _ _ hk, e7, up_k _ _ _ _ _ _ hk, up_s _ _ _ _ (by decide), e6, up_s _ _ _ _ (by decide), up_k _ _ _ _ _ _ hk]
            exact d5 k a (by omega)
        · have hk : k ≠ y := by omega
          rw [e8, up_s _ _ _ _ (by decide), up_k _ _ _ _ _ _ hk, e7, up_k _ _ _ _ _ _ hk, up_s _ _ _ _ (by decide), e6, up_s _ _ _ _ (by decide), up_k _ _ _ _ _ _ hk]
          exact r5 k (by omega) b
    · obtain ⟨f2, l2, h82, h83⟩ := hN2
      have hA2 : Ag T N2 := f2.ag hA zW_in
      have e15 := hA2.f15
      have q0 : zb1 T 0 (c + 1) = _ := zF_succ _ _ c0
      have q1 : zb1 T 1 (c + 1) = _ := zF_succ _ _ c0
      refine ⟨fun h => absurd h (by omega), fun _ => q_shows hG hA2 c0 c1 ⟨fun hs => ?_, fun hs => ?_⟩⟩
      · refine ⟨⟨by omega, by omega⟩, ih2 N2 ⟨f2, l2, ?_, ?_⟩⟩
        · rw [q0, if_neg hs]; exact h82
        · rw [q1, if_neg hs]; exact h83
      · refine q_takes hG hA2 c0 c1 h82 ?_
        rw [ztakes_one hG _ c0 c1 hs]
        obtain ⟨t1, t2, t3⟩ := ztakes_r hG (zb1 T 0 c) c0 c1 (by omega)
        rw [ztakes_one hG _ c0 c1 hs] at t1 t2 t3
        obtain ⟨-, k1, -, k2, -⟩ := hG.cell c c0 c1
        refine ⟨⟨by omega, by omega⟩, q_leastOf hG hA2 c0 c1 (q_greater ⟨⟨by omega, by omega⟩, ?_⟩)⟩
        intro N3 e3
        have hA3 : Ag T N3 := by rw [e3]; exact hA2.up rfl
        refine ⟨⟨by omega, by omega⟩, q_mostOf hG hA3 c0 c1 (q_greater ⟨⟨by omega, by omega⟩, ?_⟩)⟩
        intro N4 e4'
        refine ⟨⟨by omega, by omega⟩, ih2 N4 ⟨?_, fun k a b => ?_, fun k a b => ?_, fun k a b => ?_⟩⟩
        · rw [e4', e3]; exact (f2.up rfl).up rfl
        · rw [e4', up_s _ _ _ _ (by decide), up_s _ _ _ _ (by decide), e3, up_s _ _ _ _ (by decide), up_s _ _ _ _ (by decide)]
          exact l2 k a b
        · rw [e4', up_s _ _ _ _ (by decide), e3, q0, if_pos hs, h82 (zlast T c) (by omega) (by omega)]
          show _ = zset (zb1 T 0 c) (zlast T c) (max (zb1 T 0 c (zlast T c)) (zwant T 0 c)) k
          unfold zset
          by_cases hk : k = zlast T c
          · rw [hk, up_eq, if_pos rfl]; rfl
          · rw [up_k _ _ _ _ _ _ hk, if_neg hk]; exact h82 k a b
        · rw [e4', e3, up_s _ _ _ _ (by decide) (s' := 83) (s := 82), q1, if_pos hs, h83 (zlast T c) (by omega) (by omega)]
          show _ = zset (zb1 T 1 c) (zlast T c) (max (zb1 T 1 c (zlast T c)) (zwant T 1 c)) k
          unfold zset
          by_cases hk : k = zlast T c
          · rw [hk, up_eq, if_pos rfl]; rfl
          · rw [up_k _ _ _ _ _ _ hk, up_s _ _ _ _ (by decide), if_neg hk]; exact h83 k a b
  · obtain ⟨f1, l1⟩ := hN
    have hA1 : Ag T N := f1.ag hA zW_in
    have e4 := hA1.f4
    have hl := zLf_r hG (k := y)
    have hr := zRg_r hG (k := y) y0 (by omega)
    refine ⟨fun h => absurd h (by omega), fun _ => q_laysFigures hG hA1 y0 y1 (fun N2 f2 h80 h81 => ⟨⟨by omega, by omega⟩, ⟨by omega, by omega⟩, ⟨by omega, by omega⟩, ⟨by omega, by omega⟩, ?_⟩)⟩
    intro N3 e3
    refine ⟨⟨by omega, by omega⟩, ⟨by omega, by omega⟩, ?_⟩
    intro N4 e4'
    have f2' : Fr zW N N2 := fun s j k z => f2 s j k (by rintro ⟨rfl | rfl, -, -⟩ <;> cases z)
    refine ⟨⟨by omega, by omega⟩, ih N4 ⟨?_, fun k a b => ?_⟩⟩
    · rw [e4', e3]; exact ((f1.tr f2').up rfl).up rfl
    · by_cases hk : k = y
      · subst hk
        have ez : zb0 T k = zLf T k + zRg T k := by unfold zb0; rw [if_pos ⟨a, y1⟩]
        rw [e4', up_s _ _ _ _ (by decide), up_s _ _ _ _ (by decide), up_s _ _ _ _ (by decide), up_eq, e3, up_s _ _ _ _ (by decide), up_s _ _ _ _ (by decide), up_eq, h80, h81, ez]
        exact ⟨rfl, rfl, rfl, rfl⟩
      · rw [e4', up_s _ _ _ _ (by decide), up_s _ _ _ _ (by decide), up_s _ _ _ _ (by decide), up_k _ _ _ _ _ _ hk, e3, up_s _ _ _ _ (by decide), up_s _ _ _ _ (by decide), up_k _ _ _ _ _ _ hk, up_s _ _ _ _ (by decide),
          f2 80 0 k (by omega), f2 81 0 k (by omega), f2 82 0 k (by omega), f2 83 0 k (by omega)]
        exact l1 k a (by omega)
theorem q_between (hG : Good T) (hA : Ag T M) {Qm : Int → Mem → Prop} (hq : Qm (zvis T - 1) M) : wp_X10_between M Qm := by
  have := zvis_r hG
  exact q_visible hG hA ⟨⟨by omega, by omega⟩, hq⟩
theorem zpart_eq (a b : Int) : (if a * b < 0 then -(Int.tdiv (-(a * b) + 99) 100) else Int.tdiv (a * b) 100) = zpart a b := by
  unfold zpart
  generalize a * b = x
  rw [Int.fdiv_eq_ediv_of_nonneg _ (by omega)]
  split
  · rw [Int.tdiv_eq_ediv_of_nonneg (by omega)]; omega
  · rw [Int.tdiv_eq_ediv_of_nonneg (by omega)]
theorem zpart_r {a b : Int} (h0 : -6 ≤ a) (h1 : a ≤ 156) (h2 : 1 ≤ b) (h3 : b ≤ 60) : -360 ≤ a * b ∧ a * b ≤ 9360 ∧ -4 ≤ zpart a b ∧ zpart a b ≤ 94 := by
  have e1 : -360 ≤ a * b := by
    have := Int.mul_le_mul_of_nonneg_right h0 (show 0 ≤ b by omega)
    omega
  have e2 : a * b ≤ 9360 := by
    have := Int.mul_le_mul_of_nonneg_right h1 (show 0 ≤ b by omega)
    omega
  unfold zpart
  rw [Int.fdiv_eq_ediv_of_nonneg _ (by omega)]
  omega
theorem q_part {a b : Int} (h0 : -6 ≤ a) (h1 : a ≤ 156) (h2 : 1 ≤ b) (h3 : b ≤ 60) {Qm : Int → Mem → Prop} (hq : Qm (zpart a b) M) : wp_X10_part a b M Qm := by
  obtain ⟨r1, r2, r3, r4⟩ := zpart_r h0 h1 h2 h3
  unfold wp_X10_part
  rw [zpart_eq]
  refine ⟨⟨by omega, by omega⟩, fun h => ?_, ⟨by omega, by omega⟩, hq⟩
  have e : Int.tdiv (-(a * b) + 99) 100 = (-(a * b) + 99) / 100 := Int.tdiv_eq_ediv_of_nonneg (by omega)
  exact ⟨⟨by omega, by omega⟩, ⟨by omega, by omega⟩, by rw [e]; exact ⟨by omega, by omega⟩, trivial⟩
theorem znar_r (hG : Good T) {k : Int} (k0 : 0 ≤ k) (k1 : k < T 11 0 4) : 0 ≤ znar T k ∧ znar T k ≤ 300 := by
  obtain ⟨c1, c2, c3, c4⟩ := hG.col k k0 k1
  have hv := zvis_r hG
  have hn := hG.n
  have hl := zls_r hG k0 k1
  obtain ⟨r1, r2, r3, r4⟩ := zpart_r (a := T 11 0 24 - (zvis T - 1)) (b := T 57 0 k) (by have := hn.2.2.2.1; omega) (by have := hn.2.2.2.1; omega) c2.1 c2.2
  unfold znar
  split
  · split
    · omega
    · split <;> omega
  · omega
theorem q_laysNarrow (hG : Good T) (hA : Ag T M) {Qm : Mem → Prop} (hq : ∀ M', Fr zW M M' → (∀ k, 0 ≤ k → k < T 11 0 4 → M' 81 0 k = zRg T k ∧ M' 82 0 k = zls T k ∧ M' 83 0 k = zms T k ∧ M' 84 0 k = znar T k) → Qm M') : wp_X10_laysNarrow M Qm := by
  have hC := hG.nC
  have hn := hG.n
  have hp := hn.2.2.2.1
  have hv := zvis_r hG
  refine q_laysLeasts hG hA (fun M1 f1 l1 => ?_)
  refine zLoop (fun n k N => wp_X10_laysNarrow_6 Qm n k N) (fun y N => Fr zW M N ∧ (∀ k, 0 ≤ k → k < T 11 0 4 → N 81 0 k = zRg T k ∧ N 82 0 k = zls T k ∧ N 83 0 k = zms T k) ∧ ∀ k, 0 ≤ k → k < y → N 84 0 k = znar T k) (T 11 0 4) hC.1 ⟨f1, fun k a b => (l1 k a b).2, fun k a b => absurd b (by omega)⟩ (fun n N hN => ?_) (fun n y N y0 y1 hN ih => ?_)
  · have e4 := (hN.1.ag hA zW_in).f4
    exact ⟨fun _ => hq N hN.1 (fun k a b => ⟨(hN.2.1 k a b).1, (hN.2.1 k a b).2.1, (hN.2.1 k a b).2.2, hN.2.2 k a b⟩), fun h => absurd h (by omega)⟩
  · obtain ⟨f2, l2, d2⟩ := hN
    have hA2 : Ag T N := f2.ag hA zW_in
    have e4 := hA2.f4
    have e24 := hA2.f24
    have e56 := hA2.s56
    have e57 := hA2.s57
    have e59 := hA2.s59
    obtain ⟨c1, c2, c3, c4⟩ := hG.col y y0 y1
    have hfin : ∀ v : Int, v = znar T y → wp_X10_laysNarrow_94 Qm (wp_X10_laysNarrow_6 Qm n) y v y N := fun v e => by
      refine ⟨⟨by omega, by omega⟩, ?_⟩
      intro N2 e2
      refine ⟨⟨by omega, by omega⟩, ih N2 ⟨by rw [e2]; exact f2.up rfl, fun k a b => ?_, fun k a b => ?_⟩⟩
      · rw [e2, up_s _ _ _ _ (by decide), up_s _ _ _ _ (by decide), up_s _ _ _ _ (by decide)]; exact l2 k a b
      · by_cases hk : k = y
        · rw [hk, e2, up_eq, e]
        · rw [e2, up_k _ _ _ _ _ _ hk]; exact d2 k a (by omega)
    have hgo : ∀ v : Int, v = (if T 56 0 y = 1 then T 57 0 y else if T 56 0 y = 2 then zpart (T 11 0 24 - (zvis T - 1)) (T 57 0 y) else 0) → wp_X10_laysNarrow_65 Qm (wp_X10_laysNarrow_6 Qm n) y v N := fun v e => by
      simp only [wp_X10_laysNarrow_65, e59]
      refine ⟨⟨by omega, by omega⟩, fun h => ⟨⟨by omega, by omega⟩, q_greater (hfin _ ?_)⟩, fun h => hfin _ ?_⟩
      · rw [(l2 y y0 y1).2.1, e, znar, if_pos h]
      · rw [znar, if_neg h]
    simp only [wp_X10_laysNarrow_6, e4, e56, e57]
    refine ⟨fun h => absurd h (by omega), fun _ => ⟨⟨by omega, by omega⟩, fun h => ⟨⟨by omega, by omega⟩, fun h2 => hgo _ ?_, fun h2 => q_between hG hA2 ?_⟩, fun h => ⟨⟨by omega, by omega⟩, hgo _ ?_⟩⟩⟩
    · rw [if_neg h, if_neg h2]
    · simp only [e24, e57]
      refine ⟨⟨by omega, by omega⟩, ⟨by omega, by omega⟩, q_part (a := T 11 0 24 - (zvis T - 1)) (b := T 57 0 y) (by omega) (by omega) c2.1 c2.2 (hgo _ ?_)⟩
      rw [if_neg h, if_pos h2]
    · rw [if_pos h]
theorem zsumw_r (hG : Good T) {w : Int → Int} (hb : zWB T w) : -1 ≤ zsumw T w ∧ zsumw T w ≤ 1805 := by
  have hC := hG.nC
  have hv := zvis_r hG
  have := zS_bd (f := w) (a := 0) (b := T 11 0 4) 0 300 hC.1 (fun k a b => hb k a b)
  unfold zsumw
  split <;> omega
theorem q_sumOfWidths (hG : Good T) (hA : Ag T M) {w : Int → Int} (hw : zEq T (M 84 0) w) (hb : zWB T w) {Qm : Int → Mem → Prop} (hq : Qm (zsumw T w) M) : wp_X10_sumOfWidths M Qm := by
  have hC := hG.nC
  have hv := zvis_r hG
  have e4 := hA.f4
  have hgo : ∀ z : Int, z = (if T 11 0 4 ≤ 0 then 0 else zvis T - 1) → wp_X10_sumOfWidths_15 Qm z M := fun z e => by
    refine zLoop (fun n k s => wp_X10_sumOfWidths_18 Qm n s k M) (fun k s => s = z + zS w 0 k) (T 11 0 4) hC.1 (by rw [zS_self _ (by omega)]; omega) (fun n s hs => ?_) (fun n k s a0 a1 hs ih => ?_)
    · refine ⟨fun _ => ?_, fun h => absurd h (by omega)⟩
      rw [hs, e]; exact hq
    · have := zS_bd (f := w) (a := 0) (b := k) 0 300 a0 (fun k a b => hb k a (by omega))
      have h1 := hb k a0 a1
      have h2 : -1 ≤ z ∧ z ≤ 6 := by rw [e]; split <;> omega
      simp only [wp_X10_sumOfWidths_18, e4, hw k a0 a1]
      refine ⟨fun h => absurd h (by omega), fun _ => ⟨⟨by omega, by omega⟩, ⟨by omega, by omega⟩, ⟨by omega, by omega⟩, ih _ ?_⟩⟩
      rw [zS_succ _ a0, hs]; omega
  simp only [wp_X10_sumOfWidths, e4]
  refine ⟨fun h => hgo _ ?_, fun h => q_between hG hA (hgo _ ?_)⟩
  · rw [if_pos h]
  · rw [if_neg (by omega)]
theorem q_isOpen (hG : Good T) (hA : Ag T M) {k : Int} (k0 : 0 ≤ k) (k1 : k < T 11 0 4) {Qm : Int → Mem → Prop} (hq : Qm (zopen T k) M) : wp_X10_isOpen k M Qm := by
  have hC := hG.nC
  have e56 := hA.s56
  have e59 := hA.s59
  have hb : bit (zopen T k) := by unfold zopen; split; exact bit_0; split; exact bit_0; exact bit_1
  unfold zopen at hq hb
  simp only [wp_X10_isOpen, e56, e59]
  exact ⟨⟨by omega, by omega⟩, fun _ => ⟨⟨by omega, by omega⟩, trivial⟩, hb, hq⟩
end RX
