/-! the law's widths, whole -/
theorem zXr.cg {T M : Mem} {a b c a' b' c' : Int → Int} (h : zXr T M a b c) (e : ∀ i, 0 ≤ i → i < T 11 0 4 → a i = a' i ∧ b i = b' i ∧ c i = c' i) : zXr T M a' b' c' := fun i i0 i1 => by
  obtain ⟨e1, e2, e3⟩ := e i i0 i1
  rw [← e1, ← e2, ← e3]
  exact h i i0 i1
section JJ
variable {T M : Mem} {Qm : Mem → Prop}
theorem j_share (hG : Good T) {k : Int} (k0 : 0 ≤ k) (k1 : k < T 11 0 4) {R : Int} (eR : R = T 11 0 24 - (zvis T - 1)) (hR : -6 ≤ R ∧ R ≤ 156) : (if ¬ T 59 0 k = 1 then (if (if ¬ T 56 0 k = 1 then (if ¬ T 56 0 k = 2 then (0 : Int) else (if R < 0 then (0 : Int) else Int.tdiv (R * T 57 0 k) 100)) else T 57 0 k) ≤ zls T k then zls T k else (if ¬ T 56 0 k = 1 then (if ¬ T 56 0 k = 2 then (0 : Int) else (if R < 0 then (0 : Int) else Int.tdiv (R * T 57 0 k) 100)) else T 57 0 k)) else 0) = znar T k := by
  obtain ⟨v0, v1, v2, v3⟩ := hG.col k k0 k1
  have hms := zls_r hG k0 k1
  have hp := zpart_r hR.1 hR.2 v1.1 v1.2
  have he := zpart_eq R (T 57 0 k)
  unfold znar
  rw [← eR]
  by_cases a : T 59 0 k = 0
  · rw [if_pos (show ¬ T 59 0 k = 1 by omega), if_pos a, ite_max]
    by_cases b : T 56 0 k = 1
    · rw [if_neg (show ¬ ¬ T 56 0 k = 1 from fun z => z b), if_pos b]
      omega
    · rw [if_pos b, if_neg b]
      by_cases d : T 56 0 k = 2
      · rw [if_neg (show ¬ ¬ T 56 0 k = 2 from fun z => z d), if_pos d]
        by_cases r : R < 0
        · rw [if_pos r]
          have neg : R * T 57 0 k < 0 := Int.mul_neg_of_neg_of_pos r (by omega)
          rw [if_pos neg] at he
          have := Int.tdiv_nonneg (a := -(R * T 57 0 k) + 99) (b := 100) (by omega) (by decide)
          omega
        · rw [if_neg r]
          have nn : 0 ≤ R * T 57 0 k := Int.mul_nonneg (by omega) (by omega)
          rw [if_neg (by omega)] at he
          rw [he]
          omega
      · rw [if_pos d, if_neg d]
        omega
  · rw [if_neg (show ¬ ¬ T 59 0 k = 1 by omega), if_neg a]
theorem zls_e (hG : Good T) {k : Int} (k0 : 0 ≤ k) (k1 : k < T 11 0 4) : (if ¬ T 59 0 k = 1 then zb2 T 0 k else 0) = zls T k ∧ (if ¬ T 59 0 k = 1 then max (zb2 T 0 k) (zb2 T 1 k) else 0) = zms T k := by
  obtain ⟨v0, v1, v2, v3⟩ := hG.col k k0 k1
  unfold zls zms
  by_cases a : T 59 0 k = 0
  · have b : ¬ T 59 0 k = 1 := by omega
    rw [if_pos b, if_pos b, if_pos a, if_pos a]
    exact ⟨rfl, by omega⟩
  · have b : ¬ ¬ T 59 0 k = 1 := by omega
    rw [if_neg b, if_neg b, if_neg a, if_neg a]
    exact ⟨rfl, rfl⟩
theorem j_w283 (hG : Good T) (L : zLw T M) {c : Int → Int} (hx : zXr T M (zb2 T 0) (zb2 T 1) c) (hq : ∀ M', zWf M M' → zXr T M' (zls T) (zms T) (zwid T) → Qm M') {R : Int} (eR : R = T 11 0 24 - zvis T + 1) : ∃ n, wp_L_widths_283 Qm n R 0 R 0 M := by
  have hn := L.n
  unfold lwN at hn
  have hv := zvis_r hG
  have hpp := hG.n.2.2.2.1
  have hR : -6 ≤ R ∧ R ≤ 156 := by omega
  have hnar : ∀ k, 0 ≤ k → k ≤ T 11 0 4 → 0 ≤ zS (znar T) 0 k ∧ zS (znar T) 0 k ≤ 300 * k := fun k k0 k1 => by
    have := zS_bd (f := znar T) (a := 0) (b := k) 0 300 k0 (fun i i0 i1 => znar_r hG i0 (by omega))
    omega
  refine zLoop (σ := Mem × Int × Int) (fun n k s => wp_L_widths_283 Qm n s.2.1 s.2.2 R k s.1) (fun k s => zWf M s.1 ∧ zXr T s.1 (fun i => if i < k then zls T i else zb2 T 0 i) (fun i => if i < k then zms T i else zb2 T 1 i) (fun i => if i < k then znar T i else c i) ∧ s.2.1 = R - zS (znar T) 0 k ∧ s.2.2 = zlack T k) (T 11 0 4) (by omega) (s := (M, R, 0)) ⟨zWf.rf _, hx.cg (fun i i0 i1 => by rw [if_neg (by omega), if_neg (by omega), if_neg (by omega)]; exact ⟨rfl, rfl, rfl⟩), by show R = R - zS (znar T) 0 0; rw [zS_self _ (Int.le_refl _)]; omega, (zS_self _ (Int.le_refl _)).symm⟩ (fun n s hs => ?_) (fun n k s k0 k1 hs ih => ?_)
  · obtain ⟨M1, y7, y8⟩ := s
    obtain ⟨h1, h2, h3, h4⟩ := hs
    have h1 : zWf M M1 := h1
    have h3 : y7 = R - zS (znar T) 0 (T 11 0 4) := h3
    have h4 : y8 = zlack T (T 11 0 4) := h4
    have h2 : zXr T M1 (fun i => if i < T 11 0 4 then zls T i else zb2 T 0 i) (fun i => if i < T 11 0 4 then zms T i else zb2 T 1 i) (fun i => if i < T 11 0 4 then znar T i else c i) := h2
    have h2' : zXr T M1 (zls T) (zms T) (znar T) := h2.cg (fun i i0 i1 => ⟨if_pos i1, if_pos i1, if_pos i1⟩)
    have L1 := L.fr h1.ls
    obtain ⟨m0, -⟩ := L1.m
    have er : y7 = zrest T := by
      rw [h3, eR]
      unfold zrest zsumw
      rw [if_neg (by omega)]
      omega
    show wp_L_widths_283 Qm (n + 1) y7 y8 R (T 11 0 4) M1
    refine ⟨fun _ => ?_, fun z => absurd z (by rw [m0]; omega)⟩
    rw [h4, er]
    exact j_w565w hG L1 h2' (fun M' f hh => hq M' (h1.tr f) hh)
  · obtain ⟨M1, y7, y8⟩ := s
    obtain ⟨h1, h2, h3, h4⟩ := hs
    have h1 : zWf M M1 := h1
    have h3 : y7 = R - zS (znar T) 0 k := h3
    have h4 : y8 = zlack T k := h4
    have h2 : zXr T M1 (fun i => if i < k then zls T i else zb2 T 0 i) (fun i => if i < k then zms T i else zb2 T 1 i) (fun i => if i < k then znar T i else c i) := h2
    have L1 := L.fr h1.ls
    obtain ⟨m0, -⟩ := L1.m
    obtain ⟨x1, x2, x3, -⟩ := h2 k k0 k1
    have x1 : M1 113 0 k = zb2 T 0 k := x1.trans (if_neg (by omega))
    have x2 : M1 113 0 (4 + k) = zb2 T 1 k := x2.trans (if_neg (by omega))
    obtain ⟨v0, v1, v2, v3⟩ := hG.col k k0 k1
    have hms := zls_r hG k0 k1
    have hnk := znar_r hG k0 k1
    have hb0 := zb2_r hG 0 k k0 k1
    have hb1 := zb2_r hG 1 k k0 k1
    obtain ⟨el, em⟩ := zls_e hG k0 k1
    have hns := hnar k k0 (by omega)
    have hlk := zlack_r hG (n := k) k0 (by omega)
    have hp := zpart_r hR.1 hR.2 v1.1 v1.2
    show wp_L_widths_283 Qm (n + 1) y7 y8 R k M1
    refine ⟨fun z => absurd z (by rw [m0]; omega), fun _ => ⟨⟨by omega, by omega⟩, ⟨by omega, by omega⟩, ⟨by omega, by omega⟩, ⟨by omega, by omega⟩, fun _ => ⟨⟨by omega, by omega⟩, trivial⟩, fun _ => ⟨⟨by omega, by omega⟩, ⟨by omega, by omega⟩, trivial⟩, ⟨by omega, by omega⟩, fun M90 e90 => ?_⟩⟩
    rw [x1, x2, ite_max] at e90
    have g90 : zWf M M90 := by rw [e90]; exact h1.up (by omega) (by omega)
    have X90 := h2.b (by omega) (v := max (zb2 T 0 k) (zb2 T 1 k)) k0 k1
    rw [← e90] at X90
    have c90 := (L.fr g90.ls).c k k0 k1
    obtain ⟨p1, p2, -⟩ := X90 k k0 k1
    have p1 : M90 113 0 k = zb2 T 0 k := p1.trans (if_neg (by omega))
    rw [c90.2.2.2, p1, el]
    refine ⟨⟨by omega, by omega⟩, ⟨by omega, by omega⟩, ⟨by omega, by omega⟩, fun _ => ⟨⟨by omega, by omega⟩, trivial⟩, ⟨by omega, by omega⟩, fun M102 e102 => ?_⟩
    have g102 : zWf M M102 := by rw [e102]; exact g90.up (by omega) (by omega)
    have X102 := X90.a (by omega) (v := zls T k) k0 k1
    rw [← e102] at X102
    have c102 := (L.fr g102.ls).c k k0 k1
    obtain ⟨-, p2, -⟩ := X102 k k0 k1
    have p2 : M102 113 0 (4 + k) = max (zb2 T 0 k) (zb2 T 1 k) := by rw [p2]; unfold zset; rw [if_pos rfl]
    rw [c102.2.2.2, p2, em]
    refine ⟨⟨by omega, by omega⟩, ⟨by omega, by omega⟩, ⟨by omega, by omega⟩, ⟨by omega, by omega⟩, fun _ => ⟨⟨by omega, by omega⟩, ⟨by omega, by omega⟩, trivial⟩, ⟨by omega, by omega⟩, fun M116 e116 => ?_⟩
    have g116 : zWf M M116 := by rw [e116]; exact g102.up (by omega) (by omega)
    have X116 := X102.b (by omega) (v := zms T k) k0 k1
    rw [← e116] at X116
    have c116 := (L.fr g116.ls).c k k0 k1
    obtain ⟨p3, -⟩ := X116 k k0 k1
    have p3 : M116 113 0 k = zls T k := by rw [p3]; unfold zset; rw [if_pos rfl]
    have hsh := j_share hG k0 k1 (R := R) (by omega) hR
    rw [c116.1, c116.2.1, c116.2.2.2, p3, hsh]
    have htd : 0 ≤ (if R < 0 then (0 : Int) else Int.tdiv (R * T 57 0 k) 100) ∧ (if R < 0 then (0 : Int) else Int.tdiv (R * T 57 0 k) 100) ≤ 9360 := by
      by_cases r : R < 0
      · rw [if_pos r]; omega
      · rw [if_neg r]
        have nn : 0 ≤ R * T 57 0 k := Int.mul_nonneg (by omega) (by omega)
        rw [Int.tdiv_eq_ediv_of_nonneg nn]
        omega
    refine ⟨fun _ => ⟨⟨by omega, by omega⟩, ⟨by omega, by omega⟩, ⟨by omega, by omega⟩, ⟨by omega, by omega⟩, trivial⟩, ⟨by omega, by omega⟩, ⟨by omega, by omega⟩, ⟨by omega, by omega⟩, fun _ => ⟨⟨by omega, by omega⟩, ⟨by omega, by omega⟩, trivial⟩, fun _ => ⟨⟨by omega, by omega⟩, ⟨by omega, by omega⟩, ⟨by omega, by omega⟩, trivial⟩, ⟨by omega, by omega⟩, ⟨by omega, by omega⟩, ⟨by omega, by omega⟩, ⟨by omega, by omega⟩, fun _ => ⟨⟨by omega, by omega⟩, fun _ => ⟨⟨by omega, by omega⟩, trivial⟩, trivial⟩, ⟨by omega, by omega⟩, fun M156 e156 => ?_⟩
    have g156 : zWf M M156 := by rw [e156]; exact g116.up (by omega) (by omega)
    have X156 := X116.c (by omega) (v := znar T k) k0 k1
    rw [← e156] at X156
    have c156 := (L.fr g156.ls).c k k0 k1
    obtain ⟨q1, q2, q3, -⟩ := X156 k k0 k1
    have q1 : M156 113 0 k = zls T k := by rw [q1]; unfold zset; rw [if_pos rfl]
    have q2 : M156 113 0 (4 + k) = zms T k := by rw [q2]; unfold zset; rw [if_pos rfl]
    have q3 : M156 113 0 (8 + k) = znar T k := by rw [q3]; unfold zset; rw [if_pos rfl]
    have eo : (if ¬ T 56 0 k = 0 then (0 : Int) else zms T k - zls T k) = (if zopen T k = 0 then 0 else zms T k - zls T k) := by
      have ho := zopen_c hG k0 k1
      by_cases a : T 56 0 k = 0
      · rw [if_neg (show ¬ ¬ T 56 0 k = 0 from fun z => z a)]
        by_cases b : T 59 0 k = 0
        · rw [if_neg (fun z => ho.1 z ⟨b, a⟩)]
        · rw [if_pos (ho.2 (fun z => b z.1)), (zms_h b).1, (zms_h b).2]
          rfl
      · rw [if_pos a, if_pos (ho.2 (fun z => a z.2))]
    have hob : 0 ≤ (if zopen T k = 0 then 0 else zms T k - zls T k) ∧ (if zopen T k = 0 then 0 else zms T k - zls T k) ≤ 300 := by split <;> omega
    rw [c156.1, q1, q2, q3, eo]
    refine ⟨⟨by omega, by omega⟩, ⟨by omega, by omega⟩, ⟨by omega, by omega⟩, ⟨by omega, by omega⟩, ⟨by omega, by omega⟩, fun _ => ⟨⟨by omega, by omega⟩, ⟨by omega, by omega⟩, ⟨by omega, by omega⟩, ⟨by omega, by omega⟩, trivial⟩, ⟨by omega, by omega⟩, ⟨by omega, by omega⟩, ⟨by omega, by omega⟩, ih (M156, y7 - znar T k, y8 + (if zopen T k = 0 then 0 else zms T k - zls T k)) ⟨g156, X156.cg (fun i i0 i1 => ?_), ?_, ?_⟩⟩
    · unfold zset
      dsimp only
      by_cases e : i = k
      · rw [if_pos e, if_pos e, if_pos e, if_pos (show i < k + 1 by omega), if_pos (show i < k + 1 by omega), if_pos (show i < k + 1 by omega), e]
        exact ⟨rfl, rfl, rfl⟩
      · rw [if_neg e, if_neg e, if_neg e, if_neg e]
        by_cases l : i < k
        · rw [if_pos l, if_pos l, if_pos l, if_pos (show i < k + 1 by omega), if_pos (show i < k + 1 by omega), if_pos (show i < k + 1 by omega)]
          exact ⟨rfl, rfl, rfl⟩
        · rw [if_neg l, if_neg l, if_neg l, if_neg (show ¬ i < k + 1 by omega), if_neg (show ¬ i < k + 1 by omega), if_neg (show ¬ i < k + 1 by omega)]
          exact ⟨rfl, rfl, rfl⟩
    · show y7 - znar T k = R - zS (znar T) 0 (k + 1)
      rw [zS_succ _ k0]
      omega
    · show y8 + (if zopen T k = 0 then 0 else zms T k - zls T k) = zlack T (k + 1)
      unfold zlack
      rw [zS_succ _ k0, h4]
      rfl
theorem zone (hG : Good T) {c k : Int} (c0 : 0 ≤ c) (c1 : c < T 11 0 15) (h : zshows T c = 1) : (T 66 0 c ≤ zlast T c ∧ zlast T c < T 66 0 c + T 68 0 c ∧ T 59 0 (zlast T c) = 0) ∧ (T 66 0 c ≤ k → k < T 66 0 c + T 68 0 c → T 59 0 k = 0 → k = zlast T c) := by
  obtain ⟨w1, w2, w3, w4, -⟩ := hG.cell c c0 c1
  have hr := ztakes_r hG (fun _ => 0) c0 c1 (by omega)
  rw [ztakes_one hG (fun _ => 0) c0 c1 h] at hr
  refine ⟨hr, fun k0 k1 hk => ?_⟩
  have nn : ∀ i, 0 ≤ zsh T i := fun i => by unfold zsh; split <;> omega
  have two : ∀ a b, T 66 0 c ≤ a → a < b → b < T 66 0 c + T 68 0 c → T 59 0 a = 0 → T 59 0 b = 0 → False := fun a b a0 ab b1 ha hb => by
    have s := zS_split (zsh T) (a := T 66 0 c) (m := b) (b := T 66 0 c + T 68 0 c) (by omega) (by omega)
    have l1 := zS_le_of_mem (f := zsh T) (a := T 66 0 c) (b := b) (i := a) (fun i _ _ => nn i) a0 ab
    have l2 := zS_le_of_mem (f := zsh T) (a := b) (b := T 66 0 c + T 68 0 c) (i := b) (fun i _ _ => nn i) (Int.le_refl _) b1
    have e1 : zsh T a = 1 := by unfold zsh; rw [if_pos ha]
    have e2 : zsh T b = 1 := by unfold zsh; rw [if_pos hb]
    unfold zshows at h
    omega
  by_cases e : k = zlast T c
  · exact e
  · by_cases l : k < zlast T c
    · exact (two k (zlast T c) k0 l hr.2.1 hk hr.2.2).elim
    · exact (two (zlast T c) k hr.1 (by omega) k1 hr.2.2 hk).elim
theorem zb1_s {most n : Int} (n0 : 0 ≤ n) : zb1 T most (n + 1) = if zshows T n = 1 then zset (zb1 T most n) (zlast T n) (max (zb1 T most n (zlast T n)) (zwant T most n)) else zb1 T most n := zF_succ _ _ n0
theorem j_w69 (hG : Good T) (L : zLw T M) {c : Int → Int} (hx : zXr T M (zb0 T) (zb0 T) c) (hq : ∀ M', zWf M M' → zXr T M' (zls T) (zms T) (zwid T) → Qm M') : ∃ n, wp_L_widths_69 Qm n 0 M := by
  have hn := L.n
  unfold lwN at hn
  have hKn := hG.nK
  refine zLoop (σ := Mem) (fun n k M' => wp_L_widths_69 Qm n k M') (fun n M' => zWf M M' ∧ zXr T M' (zb1 T 0 n) (zb1 T 1 n) c) (T 11 0 15) hKn.1 (s := M) ⟨zWf.rf _, by unfold zb1; rw [zF_self _ _ (Int.le_refl _), zF_self _ _ (Int.le_refl _)]; exact hx⟩ (fun n M1 h => ?_) (fun n i M1 i0 i1 h ih => ?_)
  · obtain ⟨h1, h2⟩ := h
    have L1 := L.fr h1.ls
    obtain ⟨m0, m1, m2, m3, -⟩ := L1.m
    have hv := zvis_r hG
    have hpp := hG.n.2.2.2.1
    have hwb : ∀ most, zWB T (zb1 T most (T 11 0 15)) := fun most k k0 k1 => by
      have := zb1_r hG most hKn.1 (Int.le_refl _) k
      omega
    refine ⟨fun _ => ?_, fun z => absurd z (by rw [m2]; omega)⟩
    refine j_grow hG L1 (Or.inl rfl) (by decide) (by decide) (w := zb1 T 0 (T 11 0 15)) (fun k k0 k1 => by rw [show 0 + k = k by omega]; exact (h2 k k0 k1).1) (hwb 0) (fun M2 g2 w2 => ?_)
    have h2f := h1.tr (g2.wf (by decide) (by decide))
    have L2 := L.fr h2f.ls
    refine j_grow hG L2 (Or.inr rfl) (by decide) (by decide) (w := zb1 T 1 (T 11 0 15)) (fun k k0 k1 => by rw [g2 113 0 (4 + k) (by omega)]; exact (h2 k k0 k1).2.1) (hwb 1) (fun M3 g3 w3 => ?_)
    have h3f := h2f.tr (g3.wf (by decide) (by decide))
    have L3 := L.fr h3f.ls
    have X3 : zXr T M3 (zb2 T 0) (zb2 T 1) c := fun k k0 k1 => by
      obtain ⟨y1, y2, y3, y4, y5⟩ := h2 k k0 k1
      refine ⟨?_, w3 k k0 k1, ?_, ?_, ?_⟩
      · rw [g3 113 0 k (by omega)]
        have := w2 k k0 k1
        rw [show 0 + k = k by omega] at this
        exact this
      · rw [g3 113 0 (8 + k) (by omega), g2 113 0 (8 + k) (by omega)]; exact y3
      · rw [g3 113 0 (12 + k) (by omega), g2 113 0 (12 + k) (by omega)]; exact y4
      · rw [g3 113 0 (16 + k) (by omega), g2 113 0 (16 + k) (by omega)]; exact y5
    obtain ⟨-, -, -, n3, -⟩ := L3.m
    refine j_visible hG L3 ?_
    rw [n3]
    refine ⟨⟨by omega, by omega⟩, ⟨by omega, by omega⟩, j_visible hG L3 ?_⟩
    refine ⟨⟨by omega, by omega⟩, ⟨by omega, by omega⟩, j_w283 hG L3 X3 (fun M' f hh => hq M' (h3f.tr f) hh) rfl⟩
  · obtain ⟨h1, h2⟩ := h
    have L1 := L.fr h1.ls
    obtain ⟨m0, m1, m2, m3, -⟩ := L1.m
    obtain ⟨t0, t1, t2, t3, -⟩ := L1.t i i0 i1
    obtain ⟨w1, w2, w3, w4, -⟩ := hG.cell i i0 i1
    have hbb : ∀ most k, 0 ≤ zb1 T most i k ∧ zb1 T most i k ≤ 260 := fun most => zb1_r hG most i0 (by omega)
    have hbb' : ∀ most k, 0 ≤ zb1 T most (i + 1) k ∧ zb1 T most (i + 1) k ≤ 260 := fun most => zb1_r hG most (by omega) (by omega)
    have hw0 := zwant_r hG 0 i0 i1
    have hw1 := zwant_r hG 1 i0 i1
    have e0 := zb1_s (T := T) (most := 0) i0
    have e1 := zb1_s (T := T) (most := 1) i0
    refine ⟨fun z => absurd z (by rw [m2]; omega), fun _ => ⟨⟨by omega, by omega⟩, ⟨by omega, by omega⟩, ⟨by omega, by omega⟩, ?_⟩⟩
    rw [t1]
    refine zLoop (σ := Mem) (fun q k M' => wp_L_widths_89 Qm (wp_L_widths_69 Qm n) q i k M') (fun k M' => zWf M M' ∧ zXr T M' (if zshows T i = 1 ∧ zlast T i < k then zb1 T 0 (i + 1) else zb1 T 0 i) (if zshows T i = 1 ∧ zlast T i < k then zb1 T 1 (i + 1) else zb1 T 1 i) c) (T 66 0 i + T 68 0 i) (by omega) (s := M1) ⟨h1, ?_⟩ (fun q M2 h => ?_) (fun q k M2 k0 k1 h ih2 => ?_)
    · by_cases z : zshows T i = 1
      · have := (zone hG i0 i1 (k := 0) z).1
        rw [if_neg (by omega), if_neg (by omega)]; exact h2
      · rw [if_neg (fun y => z y.1), if_neg (fun y => z y.1)]; exact h2
    · obtain ⟨g1, g2⟩ := h
      have L2 := L.fr g1.ls
      obtain ⟨-, u1, -, u3, -⟩ := L2.t i i0 i1
      refine ⟨⟨by omega, by omega⟩, ⟨by omega, by omega⟩, ⟨by omega, by omega⟩, ⟨by omega, by omega⟩, ⟨by omega, by omega⟩, ⟨by omega, by omega⟩, ?_⟩
      rw [u1, u3]
      refine ⟨⟨by omega, by omega⟩, fun _ => ⟨⟨by omega, by omega⟩, ih M2 ⟨g1, ?_⟩⟩, fun z => absurd z (by omega)⟩
      by_cases z : zshows T i = 1
      · have := (zone hG i0 i1 (k := 0) z).1
        rw [if_pos ⟨z, this.2.1⟩, if_pos ⟨z, this.2.1⟩] at g2; exact g2
      · rw [if_neg (fun y => z y.1), if_neg (fun y => z y.1)] at g2
        rw [e0, e1, if_neg z, if_neg z]; exact g2
    · obtain ⟨g1, g2⟩ := h
      have L2 := L.fr g1.ls
      obtain ⟨-, u1, -, u3, -⟩ := L2.t i i0 i1
      have c3 := (L2.c k (by omega) (by omega)).2.2.2
      have same : (zshows T i = 1 → ¬ zlast T i = k) → wp_L_widths_211 Qm (wp_L_widths_69 Qm n) (wp_L_widths_89 Qm (wp_L_widths_69 Qm n) q) i k M2 := fun hne => by
        refine ⟨⟨by omega, by omega⟩, ih2 M2 ⟨g1, ?_⟩⟩
        by_cases z : zshows T i = 1 ∧ zlast T i < k
        · rw [if_pos z, if_pos z] at g2
          rw [if_pos ⟨z.1, by omega⟩, if_pos ⟨z.1, by omega⟩]; exact g2
        · rw [if_neg z, if_neg z] at g2
          have z' : ¬ (zshows T i = 1 ∧ zlast T i < k + 1) := fun y => z ⟨y.1, by have := hne y.1; omega⟩
          rw [if_neg z', if_neg z']; exact g2
      refine ⟨⟨by omega, by omega⟩, ⟨by omega, by omega⟩, ⟨by omega, by omega⟩, ⟨by omega, by omega⟩, ⟨by omega, by omega⟩, ⟨by omega, by omega⟩, ?_⟩
      rw [u1, u3]
      refine ⟨⟨by omega, by omega⟩, fun z => absurd z (by omega), fun _ => j_shows hG L2 i0 i1 ⟨fun z => same (fun y => absurd y z), fun z1 => ⟨⟨by omega, by omega⟩, ⟨by omega, by omega⟩, ⟨by omega, by omega⟩, ?_⟩⟩⟩
      rw [c3]
      obtain ⟨o1, o2⟩ := zone hG i0 i1 (k := k) z1
      refine ⟨fun z => same (fun _ y => z (by rw [← y]; exact o1.2.2)), fun z9 => ?_⟩
      have ek := o2 k0 k1 z9
      rw [if_neg (by omega), if_neg (by omega)] at g2
      rw [if_pos z1, ← ek] at e0 e1
      obtain ⟨x1, x2, -⟩ := g2 k (by omega) (by omega)
      have bk0 := hbb 0 k
      have bk1 := hbb 1 k
      have h169 : ∀ v, v = max (zb1 T 0 i k) (zwant T 0 i) → wp_L_widths_169 Qm (wp_L_widths_69 Qm n) (wp_L_widths_89 Qm (wp_L_widths_69 Qm n) q) i k v k M2 := fun v hv => by
        refine ⟨⟨by omega, by omega⟩, fun M206 e206 => ⟨⟨by omega, by omega⟩, ?_⟩⟩
        have g206 : zWf M M206 := by rw [e206]; exact g1.up (by omega) (by omega)
        have X206 := g2.a (by omega) (v := v) (k := k) (by omega) (by omega)
        rw [← e206] at X206
        have L206 := L.fr g206.ls
        have y2 := (X206 k (by omega) (by omega)).2.1
        have h210 : ∀ u, u = max (zb1 T 1 i k) (zwant T 1 i) → wp_L_widths_210 Qm (wp_L_widths_69 Qm n) (wp_L_widths_89 Qm (wp_L_widths_69 Qm n) q) i k u (4 + k) M206 := fun u hu => by
          refine ⟨⟨by omega, by omega⟩, fun M219 e219 => ⟨⟨by omega, by omega⟩, ih2 M219 ⟨by rw [e219]; exact g206.up (by omega) (by omega), ?_⟩⟩⟩
          have X219 := X206.b (by omega) (v := u) (k := k) (by omega) (by omega)
          rw [← e219] at X219
          rw [if_pos ⟨z1, by omega⟩, if_pos ⟨z1, by omega⟩, e0, e1, ← hv, ← hu]
          exact X219
        refine j_wants hG L206 i0 i1 (Or.inr rfl) ?_
        rw [y2]
        exact ⟨⟨by omega, by omega⟩, ⟨by omega, by omega⟩, fun z => ⟨⟨by omega, by omega⟩, ⟨by omega, by omega⟩, h210 _ (by omega)⟩, fun z => j_wants hG L206 i0 i1 (Or.inr rfl) (h210 _ (by omega))⟩
      refine j_wants hG L2 i0 i1 (Or.inl rfl) ?_
      rw [x1]
      exact ⟨⟨by omega, by omega⟩, fun z => ⟨⟨by omega, by omega⟩, h169 _ (by omega)⟩, fun z => j_wants hG L2 i0 i1 (Or.inl rfl) (h169 _ (by omega))⟩
theorem j_widths (hG : Good T) (L : zLw T M) (hq : ∀ M', zWf M M' → zXr T M' (zls T) (zms T) (zwid T) → Qm M') : wp_L_widths M Qm := by
  have hn := L.n
  unfold lwN at hn
  refine zLoop (σ := Mem) (fun n k M' => wp_L_widths_3 Qm n k M') (fun k M' => zWf M M' ∧ ∀ i, 0 ≤ i → i < k → M' 113 0 i = zb0 T i ∧ M' 113 0 (4 + i) = zb0 T i ∧ M' 113 0 (12 + i) = zLf T i ∧ M' 113 0 (16 + i) = zRg T i) (T 11 0 4) (by omega) (s := M) ⟨zWf.rf _, fun i a b => by omega⟩ (fun n M1 h => ?_) (fun n k M1 k0 k1 h ih => ?_)
  · obtain ⟨h1, h2⟩ := h
    have L1 := L.fr h1.ls
    obtain ⟨m0, -⟩ := L1.m
    refine ⟨fun _ => ?_, fun z => absurd z (by rw [m0]; omega)⟩
    refine j_w69 hG L1 (c := fun k => M1 113 0 (8 + k)) (fun i i0 i1 => ?_) (fun M' f hh => hq M' (h1.tr f) hh)
    obtain ⟨a, b, d, e⟩ := h2 i i0 i1
    exact ⟨a, b, rfl, d, e⟩
  · obtain ⟨h1, h2⟩ := h
    have L1 := L.fr h1.ls
    obtain ⟨m0, -⟩ := L1.m
    have hlf := zLf_r hG (k := k)
    have hrg := zRg_r hG k0 (by omega : k < 6)
    have e0 : zb0 T k = zLf T k + zRg T k := if_pos ⟨k0, k1⟩
    refine ⟨fun z => absurd z (by rw [m0]; omega), fun _ => j_figures hG L1 k0 k1 ?_⟩
    obtain ⟨N, eN⟩ : ∃ N, N = up (up M1 113 0 (12 + k) (zLf T k)) 113 0 (16 + k) (zRg T k) := ⟨_, rfl⟩
    rw [← eN]
    have f12 : N 113 0 (12 + k) = zLf T k := by rw [eN, up_k _ _ _ _ _ _ (by omega), up_eq]
    have f16 : N 113 0 (16 + k) = zRg T k := by rw [eN, up_eq]
    rw [f12, f16, ← e0]
    refine ⟨⟨by omega, by omega⟩, ⟨by omega, by omega⟩, ⟨by omega, by omega⟩, ⟨by omega, by omega⟩, ⟨by omega, by omega⟩, ⟨by omega, by omega⟩, fun M2 e2 => ⟨⟨by omega, by omega⟩, ⟨by omega, by omega⟩, ⟨by omega, by omega⟩, fun M3 e3 => ⟨⟨by omega, by omega⟩, ih M3 ⟨?_, fun i i0 i1 => ?_⟩⟩⟩⟩
    · rw [e3, e2, eN]
      exact (((h1.up (by omega) (by omega)).up (by omega) (by omega)).up (by omega) (by omega)).up (by omega) (by omega)
    · have e2k : M2 113 0 k = zb0 T k := by rw [e2, up_eq]
      by_cases e : i = k
      · rw [e]
        refine ⟨?_, ?_, ?_, ?_⟩
        · rw [e3, up_k _ _ _ _ _ _ (by omega)]; exact e2k
        · rw [e3, up_eq]; exact e2k
        · rw [e3, up_k _ _ _ _ _ _ (by omega), e2, up_k _ _ _ _ _ _ (by omega)]; exact f12
        · rw [e3, up_k _ _ _ _ _ _ (by omega), e2, up_k _ _ _ _ _ _ (by omega)]; exact f16
      · have fr : ∀ q, q ≠ k → q ≠ 4 + k → q ≠ 12 + k → q ≠ 16 + k → M3 113 0 q = M1 113 0 q := fun q a b c d => by
          rw [e3, up_k _ _ _ _ _ _ b, e2, up_k _ _ _ _ _ _ a, eN, up_k _ _ _ _ _ _ d, up_k _ _ _ _ _ _ c]
        rw [fr i (by omega) (by omega) (by omega) (by omega), fr (4 + i) (by omega) (by omega) (by omega) (by omega), fr (12 + i) (by omega) (by omega) (by omega) (by omega), fr (16 + i) (by omega) (by omega) (by omega) (by omega)]
        exact h2 i i0 (by omega)
end JJ
