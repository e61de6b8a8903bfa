/-! the pure part: the reference shares out the rest -/
section RY
variable {T M : Mem}
theorem zlack_r (hG : Good T) {n : Int} (n0 : 0 ≤ n) (n1 : n ≤ T 11 0 4) : 0 ≤ zlack T n ∧ zlack T n ≤ 300 * n := by
  have := zS_bd (f := fun k => if zopen T k = 0 then 0 else zms T k - zls T k) (a := 0) (b := n) 0 300 n0 (fun k a b => by
    have := zls_r hG a (by omega : k < T 11 0 4)
    show 0 ≤ (if zopen T k = 0 then 0 else zms T k - zls T k) ∧ (if zopen T k = 0 then 0 else zms T k - zls T k) ≤ 300
    split <;> omega)
  unfold zlack
  omega
theorem ztdiv_r {a b c : Int} (h0 : 0 ≤ a) (h1 : a ≤ c) (h2 : 0 < c) (h3 : 0 ≤ b) : 0 ≤ Int.tdiv (a * b) c ∧ Int.tdiv (a * b) c ≤ b := by
  have hab : 0 ≤ a * b := Int.mul_nonneg h0 h3
  rw [Int.tdiv_eq_ediv_of_nonneg hab]
  refine ⟨Int.ediv_nonneg hab (by omega), ?_⟩
  have h4 : a * b ≤ c * b := Int.mul_le_mul_of_nonneg_right h1 h3
  have h5 := Int.ediv_le_ediv h2 h4
  rw [Int.mul_ediv_cancel_left b (by omega)] at h5
  exact h5
theorem zgive_r (hG : Good T) (hr : 0 < zrest T) {k : Int} (k0 : 0 ≤ k) (k1 : k < T 11 0 4) : 0 ≤ zgive T k ∧ zgive T k ≤ zms T k - zls T k := by
  have hl := zls_r hG k0 k1
  unfold zgive
  split
  · omega
  · split
    · omega
    · exact ztdiv_r (by omega) (by omega) (by omega) (by omega)
theorem znar_open (hG : Good T) {k : Int} (k0 : 0 ≤ k) (k1 : k < T 11 0 4) (h : ¬ zopen T k = 0) : znar T k = zls T k := by
  have hl := zls_r hG k0 k1
  unfold zopen at h
  unfold znar
  by_cases a : T 59 0 k = 0
  · by_cases b : T 56 0 k = 0
    · rw [if_pos a, if_neg (by omega), if_neg (by omega)]; omega
    · rw [if_neg (by omega), if_pos b] at h; exact absurd rfl h
  · rw [if_pos a] at h; exact absurd rfl h
theorem zgive_open {k : Int} (h : zopen T k = 0) : zgive T k = 0 := if_pos h
theorem zrest_r (hG : Good T) : -1805 ≤ zrest T ∧ zrest T ≤ 151 := by
  have := zsumw_r hG (w := znar T) (fun k a b => znar_r hG a b)
  have hp := hG.n.2.2.2.1
  unfold zrest
  omega
theorem zgv_r (hG : Good T) {k : Int} (k0 : 0 ≤ k) (k1 : k < T 11 0 4) : 0 ≤ zgv T k ∧ zgv T k ≤ 300 := by
  have hn := znar_r hG k0 k1
  have hl := zls_r hG k0 k1
  unfold zgv
  split
  · omega
  · rename_i hr
    have hg := zgive_r hG (by omega) k0 k1
    by_cases h : zopen T k = 0
    · rw [zgive_open h]; omega
    · rw [znar_open hG k0 k1 h]; omega
theorem zfin_r (hG : Good T) (hr : 0 < zrest T) {n : Int} (n0 : 0 ≤ n) (n1 : n ≤ T 11 0 4) : zWB T (zfin T n).1 ∧ 0 ≤ (zfin T n).2 ∧ (zfin T n).2 ≤ 1800 + n := by
  have hs := zS_bd (f := zgive T) (a := 0) (b := T 11 0 4) 0 300 hG.nC.1 (fun k a b => by have := zgive_r hG hr a b; have := zls_r hG a b; omega)
  have hC := hG.nC
  refine zF_ind (fun n (p : (Int → Int) × Int) => zWB T p.1 ∧ 0 ≤ p.2 ∧ p.2 ≤ 1800 + n) n0 ⟨fun k a b => zgv_r hG a b, by dsimp only; omega, by dsimp only; omega⟩ (fun k p a b hp => ?_)
  obtain ⟨w, g⟩ := p
  obtain ⟨p1, p2, p3⟩ := hp
  dsimp only at p1 p2 p3 ⊢
  have hl := zls_r hG a (by omega : k < T 11 0 4)
  split
  · exact ⟨p1, p2, by omega⟩
  · split
    · exact ⟨p1, p2, by omega⟩
    · split
      · exact ⟨p1, p2, by omega⟩
      · refine ⟨fun i i0 i1 => ?_, by dsimp only; omega, by dsimp only; omega⟩
        have := p1 i i0 i1
        have := p1 k a (by omega)
        show 0 ≤ zset w k (w k + 1) i ∧ zset w k (w k + 1) i ≤ 300
        unfold zset
        split <;> omega
theorem zwid_r (hG : Good T) : zWB T (zwid T) := by
  intro k k0 k1
  have hn := znar_r hG k0 k1
  have hg := zgv_r hG k0 k1
  unfold zwid
  split
  · exact hn
  · rename_i hr
    unfold zgv at hg
    rw [if_neg hr] at hg
    split
    · exact hg
    · exact (zfin_r hG (by omega) hG.nC.1 (Int.le_refl _)).1 k k0 k1
theorem q_laysWidths (hG : Good T) (hA : Ag T M) {Qm : Mem → Prop} (hq : ∀ M', Fr zW M M' → (∀ k, 0 ≤ k → k < T 11 0 4 → M' 81 0 k = zRg T k ∧ M' 82 0 k = zls T k ∧ M' 83 0 k = zms T k ∧ M' 84 0 k = zwid T k) → Qm M') : wp_X10_laysWidths M Qm := by
  have hC := hG.nC
  have hn := hG.n
  have hp := hn.2.2.2.1
  have hrr := zrest_r hG
  have hll := zlack_r hG hC.1 (Int.le_refl _)
  have hnr : zWB T (znar T) := fun k a b => znar_r hG a b
  refine q_laysNarrow hG hA (fun M1 f1 l1 => ?_)
  have hA1 : Ag T M1 := f1.ag hA zW_in
  have e24 := hA1.f24
  refine q_sumOfWidths hG hA1 (fun k a b => (l1 k a b).2.2.2) hnr ?_
  have hsr := zsumw_r hG hnr
  rw [e24]
  have er : T 11 0 24 - zsumw T (znar T) = zrest T := rfl
  rw [er]
  refine ⟨⟨by omega, by omega⟩, ?_⟩
  -- the third loop
  have h3 : ∀ (g : Int) (N : Mem), Fr zW M N → (∀ k, 0 ≤ k → k < T 11 0 4 → N 81 0 k = zRg T k ∧ N 82 0 k = zls T k ∧ N 83 0 k = zms T k ∧ N 84 0 k = zgv T k) → (0 < zrest T → g = zS (zgive T) 0 (T 11 0 4)) → wp_X10_laysWidths_158 Qm (zrest T) (zlack T (T 11 0 4)) g N := by
    intro g N fN lN hg
    by_cases hc : 0 < zrest T ∧ zrest T ≤ zlack T (T 11 0 4)
    · have hw : ∀ k, zwid T k = (zfin T (T 11 0 4)).1 k := fun k => by unfold zwid; rw [if_neg (by omega), if_neg (by omega)]
      refine zLoop (σ := Int × Mem) (fun n k s => wp_X10_laysWidths_161 Qm n (zrest T) (zlack T (T 11 0 4)) s.1 k s.2) (fun y s => Fr zW M s.2 ∧ s.1 = (zfin T y).2 ∧ ∀ k, 0 ≤ k → k < T 11 0 4 → s.2 81 0 k = zRg T k ∧ s.2 82 0 k = zls T k ∧ s.2 83 0 k = zms T k ∧ s.2 84 0 k = (zfin T y).1 k) (s := (g, N)) (T 11 0 4) hC.1 ⟨fN, ?_, fun k a b => ?_⟩ (fun n s hs => ?_) (fun n y s y0 y1 hs ih => ?_)
      · unfold zfin; rw [zF_self _ _ (by omega)]; exact hg hc.1
      · unfold zfin; rw [zF_self _ _ (by omega)]; exact lN k a b
      · obtain ⟨g, N⟩ := s
        obtain ⟨f2, h2, l2⟩ := hs
        dsimp only at f2 h2 l2 ⊢
        have e4 := (f2.ag hA zW_in).f4
        exact ⟨fun _ => hq N f2 (fun k a b => ⟨(l2 k a b).1, (l2 k a b).2.1, (l2 k a b).2.2.1, (l2 k a b).2.2.2.trans (hw k).symm⟩), fun h => absurd h (by omega)⟩
      · obtain ⟨g, N⟩ := s
        obtain ⟨f2, h2, l2⟩ := hs
        dsimp only at f2 h2 l2 ⊢
        have hA2 : Ag T N := f2.ag hA zW_in
        have e4 := hA2.f4
        obtain ⟨r1, r2, r3⟩ := zfin_r hG hc.1 y0 (by omega : y ≤ T 11 0 4)
        have es : zfin T (y + 1) = (if zopen T y = 0 then zfin T y else if zrest T ≤ (zfin T y).2 then zfin T y else if zms T y ≤ (zfin T y).1 y then zfin T y else (zset (zfin T y).1 y ((zfin T y).1 y + 1), (zfin T y).2 + 1)) := zF_succ _ _ y0
        have hb := r1 y y0 y1
        obtain ⟨a1, a2, a3, a4⟩ := l2 y y0 y1
        refine ⟨fun h => absurd h (by omega), fun _ => ⟨fun h => absurd h (by omega), fun _ => ⟨fun h => absurd h (by omega), fun _ => q_isOpen hG hA2 y0 y1 ⟨fun h => ⟨⟨by omega, by omega⟩, ih (g, N) ⟨f2, ?_, ?_⟩⟩, fun h => ⟨fun hh => ⟨⟨by omega, by omega⟩, ih (g, N) ⟨f2, ?_, ?_⟩⟩, fun hh => ⟨⟨by omega, by omega⟩, ⟨by omega, by omega⟩, fun h5 => ⟨⟨by omega, by omega⟩, ih (g, N) ⟨f2, ?_, ?_⟩⟩, fun h5 => ⟨⟨by omega, by omega⟩, ⟨by omega, by omega⟩, ⟨by omega, by omega⟩, ?_⟩⟩⟩⟩⟩⟩⟩
        · rw [es, if_pos h]; exact h2
        · rw [es, if_pos h]; exact l2
        · rw [es, if_neg h, if_pos (by omega)]; exact h2
        · rw [es, if_neg h, if_pos (by omega)]; exact l2
        · rw [es, if_neg h, if_neg (by omega), if_pos (by omega)]; exact h2
        · rw [es, if_neg h, if_neg (by omega), if_pos (by omega)]; exact l2
        · intro N2 e2
          refine ⟨⟨by omega, by omega⟩, ⟨by omega, by omega⟩, ih (g + 1, N2) ⟨by rw [e2]; exact f2.up rfl, ?_, fun k a b => ?_⟩⟩
          · rw [es, if_neg h, if_neg (by omega), if_neg (by omega)]
            show g + 1 = (zfin T y).2 + 1
            rw [h2]
          · rw [es, if_neg h, if_neg (by omega), if_neg (by omega)]
            show N2 81 0 k = _ ∧ N2 82 0 k = _ ∧ N2 83 0 k = _ ∧ N2 84 0 k = zset (zfin T y).1 y ((zfin T y).1 y + 1) k
            obtain ⟨b1, b2, b3, b4⟩ := l2 k a b
            rw [e2, up_s _ _ _ _ (by decide), up_s _ _ _ _ (by decide), up_s _ _ _ _ (by decide)]
            refine ⟨b1, b2, b3, ?_⟩
            unfold zset
            by_cases hk : k = y
            · rw [hk, up_eq, if_pos rfl, a4]
            · rw [up_k _ _ _ _ _ _ hk, if_neg hk, b4]
    · have hw : ∀ k, zwid T k = zgv T k := fun k => by
        unfold zwid zgv
        by_cases h : zrest T ≤ 0
        · rw [if_pos h, if_pos h]
        · rw [if_neg h, if_neg h, if_pos (by omega)]
      have hl : ∀ k, 0 ≤ k → k < T 11 0 4 → N 81 0 k = zRg T k ∧ N 82 0 k = zls T k ∧ N 83 0 k = zms T k ∧ N 84 0 k = zwid T k := fun k a b => by
        rw [hw]; exact lN k a b
      refine ⟨1, ?_⟩
      exact ⟨fun _ => hq N fN hl, fun _ => ⟨fun _ => hq N fN hl, fun _ => ⟨fun _ => hq N fN hl, fun h => absurd h (by omega)⟩⟩⟩
  -- the second
  have h2 : ∃ n, wp_X10_laysWidths_65 Qm n (zrest T) (zlack T (T 11 0 4)) 0 0 M1 := by
    by_cases hc : 0 < zrest T
    · refine zLoop (σ := Int × Mem) (fun n k s => wp_X10_laysWidths_65 Qm n (zrest T) (zlack T (T 11 0 4)) s.1 k s.2) (fun y s => Fr zW M s.2 ∧ s.1 = zS (zgive T) 0 y ∧ (∀ k, 0 ≤ k → k < T 11 0 4 → s.2 81 0 k = zRg T k ∧ s.2 82 0 k = zls T k ∧ s.2 83 0 k = zms T k) ∧ (∀ k, 0 ≤ k → k < y → s.2 84 0 k = zgv T k) ∧ ∀ k, y ≤ k → k < T 11 0 4 → s.2 84 0 k = znar T k) (s := (0, M1)) (T 11 0 4) hC.1 ⟨f1, (zS_self _ (by omega)).symm, fun k a b => ⟨(l1 k a b).1, (l1 k a b).2.1, (l1 k a b).2.2.1⟩, fun k a b => absurd b (by omega), fun k a b => (l1 k a b).2.2.2⟩ (fun n s hs => ?_) (fun n y s y0 y1 hs ih => ?_)
      · obtain ⟨g, N⟩ := s
        obtain ⟨f2, g2, l2, d2, r2⟩ := hs
        dsimp only at f2 g2 l2 d2 r2 ⊢
        have e4 := (f2.ag hA zW_in).f4
        exact ⟨fun _ => h3 g N f2 (fun k a b => ⟨(l2 k a b).1, (l2 k a b).2.1, (l2 k a b).2.2, d2 k a b⟩) (fun _ => g2), fun h => absurd h (by omega)⟩
      · obtain ⟨g, N⟩ := s
        obtain ⟨f2, g2, l2, d2, r2⟩ := hs
        dsimp only at f2 g2 l2 d2 r2 ⊢
        have hA2 : Ag T N := f2.ag hA zW_in
        have e4 := hA2.f4
        obtain ⟨a1, a2, a3⟩ := l2 y y0 y1
        have a4 := r2 y (Int.le_refl _) y1
        have hl := zls_r hG y0 y1
        have hnn := znar_r hG y0 y1
        have hg := zgive_r hG hc y0 y1
        have hs := zS_bd (f := zgive T) (a := 0) (b := y) 0 300 y0 (fun k a b => by have := zgive_r hG hc a (by omega : k < T 11 0 4); have := zls_r hG a (by omega : k < T 11 0 4); omega)
        have ev : (if ¬ zopen T y = 0 then (if zrest T ≤ zlack T (T 11 0 4) then Int.tdiv (zrest T * (zms T y - zls T y)) (zlack T (T 11 0 4)) else zms T y - zls T y) else 0) = zgive T y := by
          unfold zgive
          by_cases h : zopen T y = 0
          · rw [if_neg (by omega), if_pos h]
          · rw [if_pos h, if_neg h]
            by_cases h' : zrest T ≤ zlack T (T 11 0 4)
            · rw [if_pos h', if_neg (by omega)]
            · rw [if_neg h', if_pos (by omega)]
        have em : 0 ≤ zrest T * (zms T y - zls T y) ∧ zrest T * (zms T y - zls T y) ≤ 151 * 300 := by
          refine ⟨Int.mul_nonneg (by omega) (by omega), ?_⟩
          have x1 := Int.mul_le_mul_of_nonneg_right (show zrest T ≤ 151 by omega) (show 0 ≤ zms T y - zls T y by omega)
          omega
        have em2 : zrest T ≤ zlack T (T 11 0 4) → 0 ≤ Int.tdiv (zrest T * (zms T y - zls T y)) (zlack T (T 11 0 4)) ∧ Int.tdiv (zrest T * (zms T y - zls T y)) (zlack T (T 11 0 4)) ≤ zms T y - zls T y := fun h => ztdiv_r (by omega) h (by omega) (by omega)
        have em3 : 0 ≤ (if zrest T ≤ zlack T (T 11 0 4) then Int.tdiv (zrest T * (zms T y - zls T y)) (zlack T (T 11 0 4)) else zms T y - zls T y) ∧ (if zrest T ≤ zlack T (T 11 0 4) then Int.tdiv (zrest T * (zms T y - zls T y)) (zlack T (T 11 0 4)) else zms T y - zls T y) ≤ 300 := by
          split
          · rename_i h; have := em2 h; omega
          · omega
        refine ⟨fun h => absurd h (by omega), fun _ => ⟨fun h => absurd h (by omega), fun _ => q_isOpen hG hA2 y0 y1 ?_⟩⟩
        simp only [a2, a3, a4, ev]
        refine ⟨fun _ => ⟨fun h => ⟨⟨by omega, by omega⟩, ⟨by omega, by omega⟩, ⟨by omega, by omega⟩, ⟨by omega, by omega⟩, by omega, trivial⟩, fun h => ⟨⟨by omega, by omega⟩, ⟨by omega, by omega⟩, ⟨by omega, by omega⟩, trivial⟩, ⟨by omega, by omega⟩, trivial⟩, ⟨by omega, by omega⟩, ⟨by omega, by omega⟩, ⟨by omega, by omega⟩, ⟨by omega, by omega⟩, ?_⟩
        intro N2 e2
        have ez : zgv T y = znar T y + zgive T y := by unfold zgv; rw [if_neg (by omega)]
        refine ⟨⟨by omega, by omega⟩, ⟨by omega, by omega⟩, ih (_, N2) ⟨by rw [e2]; exact f2.up rfl, ?_, fun k a b => ?_, fun k a b => ?_, fun k a b => ?_⟩⟩
        · rw [zS_succ _ y0, g2]
        · show N2 81 0 k = _ ∧ N2 82 0 k = _ ∧ N2 83 0 k = _
          rw [e2, up_s _ _ _ _ (by decide), up_s _ _ _ _ (by decide), up_s _ _ _ _ (by decide)]
          exact l2 k a b
        · show N2 84 0 k = _
          by_cases hk : k = y
          · rw [hk, e2, up_eq, ez]
          · rw [e2, up_k _ _ _ _ _ _ hk]; exact d2 k a (by omega)
        · show N2 84 0 k = _
          rw [e2, up_k _ _ _ _ _ _ (by omega)]
          exact r2 k (by omega) b
    · have hgo := h3 0 M1 f1 (fun k a b => by
        obtain ⟨b1, b2, b3, b4⟩ := l1 k a b
        refine ⟨b1, b2, b3, ?_⟩
        rw [b4, zgv, if_pos (by omega)]) (fun h => absurd h hc)
      refine ⟨1, ?_⟩
      exact ⟨fun _ => hgo, fun _ => ⟨fun _ => hgo, fun h => absurd h hc⟩⟩
  -- the first
  refine zLoop (fun n k s => wp_X10_laysWidths_18 Qm n (zrest T) s k M1) (fun k s => s = zlack T k) (T 11 0 4) hC.1 (zS_self _ (by omega)).symm (fun n s hs => ?_) (fun n k s a0 a1 hs ih => ?_)
  · have e4 := hA1.f4
    refine ⟨fun _ => ?_, fun h => absurd h (by omega)⟩
    rw [hs]; exact h2
  · have e4 := hA1.f4
    obtain ⟨b1, b2, b3, b4⟩ := l1 k a0 a1
    have hl := zls_r hG a0 a1
    have hk := zlack_r hG a0 (by omega : k ≤ T 11 0 4)
    refine ⟨fun h => absurd h (by omega), fun _ => q_isOpen hG hA1 a0 a1 ?_⟩
    simp only [b2, b3]
    have hz : 0 ≤ (if zopen T k = 0 then 0 else zms T k - zls T k) ∧ (if zopen T k = 0 then 0 else zms T k - zls T k) ≤ 300 := by split <;> omega
    refine ⟨fun _ => ⟨⟨by omega, by omega⟩, ⟨by omega, by omega⟩, ⟨by omega, by omega⟩, trivial⟩, ⟨by omega, by omega⟩, ⟨by omega, by omega⟩, ⟨by omega, by omega⟩, ih _ ?_⟩
    have e : zlack T (k + 1) = _ := zS_succ _ a0
    rw [e, hs]; rfl
end RY
