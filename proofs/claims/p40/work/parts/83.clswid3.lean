/-! the pure part: the class shares out -/
section CU
variable {T M : Mem}
theorem zvis_pos (hG : Good T) (h : 0 < T 11 0 4) : 1 ≤ zvis T := by
  rcases hG.vis.1 with z | ⟨k, k0, k1, k2⟩
  · omega
  · have := zS_le_of_mem (f := zsh T) (a := 0) (b := T 11 0 4) (i := k) (fun i _ _ => (zsh_r T i).1) k0 k1
    have e : zsh T k = 1 := if_pos k2
    unfold zvis
    omega
theorem zrest_eq (hG : Good T) : zrest T = (T 11 0 24 - max 0 (zvis T - 1)) - zS (znar T) 0 (T 11 0 4) := by
  have hC := hG.nC
  unfold zrest zsumw
  by_cases h : T 11 0 4 ≤ 0
  · have : zvis T = 0 := zS_self _ h
    rw [if_pos h, this]; omega
  · have := zvis_pos hG (by omega)
    rw [if_neg h]; omega
theorem znar_hid {k : Int} (h : ¬ T 59 0 k = 0) : znar T k = 0 := if_neg h
theorem zopen_hid {k : Int} (h : ¬ T 59 0 k = 0) : zopen T k = 0 := if_pos h
theorem zopen_r (T : Mem) (k : Int) : zopen T k = 0 ∨ zopen T k = 1 := by unfold zopen; split; exact Or.inl rfl; split; exact Or.inl rfl; exact Or.inr rfl
theorem zfin_stop (hG : Good T) {y n : Int} (y0 : 0 ≤ y) (yn : y ≤ n) (h : zrest T ≤ (zfin T y).2) : zfin T n = zfin T y := by
  have z : ∀ m : Nat, zfin T (y + m) = zfin T y := by
    intro m
    induction m with
    | zero => rw [show y + ((0 : Nat) : Int) = y by omega]
    | succ m ih =>
      rw [show y + ((m + 1 : Nat) : Int) = (y + m) + 1 by omega]
      have e : zfin T (y + m + 1) = (if zopen T (y + m) = 0 then zfin T (y + m) else if zrest T ≤ (zfin T (y + m)).2 then zfin T (y + m) else if zms T (y + m) ≤ (zfin T (y + m)).1 (y + m) then zfin T (y + m) else (zset (zfin T (y + m)).1 (y + m) ((zfin T (y + m)).1 (y + m) + 1), (zfin T (y + m)).2 + 1)) := zF_succ _ _ (by omega)
      rw [e, ih]
      split
      · rfl
      · rfl
  have := z (n - y).toNat
  rw [show y + ((n - y).toNat : Int) = n by omega] at this
  exact this
/-- what the class keeps of widths -/
def zWK (T : Mem) (u : Int) (N : Mem) : Prop := ∀ k, 0 ≤ k → k < T 11 0 4 → N 49 u k = zls T k ∧ N 50 u k = zms T k ∧ N 53 u k = zRg T k
theorem k_wantedBy (hG : Good T) (hL : zLk T) (hA : Ag T M) {k p : Int} (k0 : 0 ≤ k) (k1 : k < T 11 0 4) (p0 : -6 ≤ p) (p1 : p ≤ 156) {Qm : Int → Mem → Prop} (hq : Qm (if T 56 0 k = 1 then T 57 0 k else if T 56 0 k = 2 then zpart p (T 57 0 k) else 0) M) : wp_X8_wantedBy k p M Qm := by
  have e2 := hA.s2
  obtain ⟨m1, m2, m3, -⟩ := hL.col k0 k1
  obtain ⟨c1, c2, -⟩ := hG.col k k0 k1
  obtain ⟨r1, r2, r3, r4⟩ := zpart_r p0 p1 c2.1 c2.2
  have ez : T 57 0 k * p / 100 = zpart p (T 57 0 k) := by
    unfold zpart
    rw [Int.fdiv_eq_ediv_of_nonneg _ (by omega), Int.mul_comm]
  have em : T 57 0 k * p = p * T 57 0 k := Int.mul_comm _ _
  simp only [wp_X8_wantedBy, e2, m2, m3, ez]
  refine ⟨fun h => ⟨fun h2 => ?_, fun h2 => ⟨by rw [em]; exact ⟨by omega, by omega⟩, ⟨by omega, by omega⟩, ?_⟩⟩, fun h => ?_⟩
  · rw [if_neg h, if_neg h2] at hq; exact hq
  · rw [if_neg h, if_pos h2] at hq; exact hq
  · rw [if_pos h] at hq; exact hq
theorem k_shareOut (hG : Good T) (hL : zLk T) (hA : Ag T M) {u : Int} (hk : zWK T u M) (h51 : ∀ k, 0 ≤ k → k < 6 → M 51 u k = 0) {Qm : Mem → Prop} (hq : ∀ M', Fj (zCW u) M M' → zWK T u M' → (∀ k, 0 ≤ k → k < T 11 0 4 → M' 51 u k = zwid T k) → Qm M') : wp_X8_shareOut u (T 11 0 24 - max 0 (zvis T - 1)) M Qm := by
  have hC := hG.nC
  have hv := zvis_r hG
  have hp := hG.n.2.2.2.1
  have n12 := hL.n.1
  have hrr := zrest_r hG
  have hll := zlack_r hG hC.1 (Int.le_refl _)
  have ere := zrest_eq hG
  have hkf : ∀ {N N' : Mem}, zWK T u N → Fj (fun s j _ => s = 51 ∧ j = u) N N' → zWK T u N' := fun h f k a b => by
    rw [f 49 u k (fun z => absurd z.1 (by decide)), f 50 u k (fun z => absurd z.1 (by decide)), f 53 u k (fun z => absurd z.1 (by decide))]; exact h k a b
  have hf51 : ∀ {N N' : Mem}, Fj (fun s j _ => s = 51 ∧ j = u) N N' → Fj (zCW u) N N' := fun f => f.mono (fun s j k z => ⟨by have := z.1; omega, by have := z.1; omega, z.2⟩)
  -- behind the first loop
  have hend : ∀ N, Fj (zCW u) M N → zWK T u N → (∀ k, 0 ≤ k → k < T 11 0 4 → N 51 u k = znar T k) → wp_X8_shareOut_127 u (T 11 0 24 - max 0 (zvis T - 1)) Qm (zrest T) (zlack T (T 11 0 4)) N := by
    intro N fN kN dN
    have hAN : Ag T N := fN.ag hA (zCW_in u)
    have hall : zrest T ≤ 0 ∨ zlack T (T 11 0 4) < zrest T → wp_X8_shareOut_145 u (T 11 0 24 - max 0 (zvis T - 1)) Qm (zrest T) N := by
      intro hh
      refine ⟨fun h => hq N fN kN (fun k a b => ?_), fun h => ?_⟩
      · rw [dN k a b, zwid, if_pos h]
      · have hlt : zlack T (T 11 0 4) < zrest T := by omega
        refine zLoop (fun n k N => wp_X8_giveAll_2 u _ n k N) (fun y N' => Fj (fun s j _ => s = 51 ∧ j = u) N N' ∧ (∀ k, 0 ≤ k → k < y → k < T 11 0 4 → N' 51 u k = zwid T k) ∧ ∀ k, y ≤ k → k < T 11 0 4 → N' 51 u k = znar T k) 6 (by omega) ⟨Fj.rf _ _, fun k a b => absurd b (by omega), fun k a b => dN k a b⟩ (fun n N2 hN2 => ?_) (fun n y N2 y0 y1 hN2 ih => ?_)
        · exact ⟨fun _ => hq N2 (fN.tr (hf51 hN2.1)) (hkf kN hN2.1) (fun k a b => hN2.2.1 k a (by omega) b), fun h => absurd h (by omega)⟩
        · obtain ⟨f2, d2, d3⟩ := hN2
          have hA2 : Ag T N2 := (fN.tr (hf51 f2)).ag hA (zCW_in u)
          have k2 := hkf kN f2
          refine ⟨fun h => absurd h (by omega), fun _ => k_isShownContent hG hL hA2 (fun ho => ⟨fun z => absurd z (by decide), fun _ => ⟨⟨by omega, by omega⟩, ⟨by omega, by omega⟩, ?_⟩⟩) (fun ho => ⟨fun _ => ⟨⟨by omega, by omega⟩, ih N2 ⟨f2, fun k a b d => ?_, fun k a b => d3 k (by omega) b⟩⟩, fun z => absurd rfl z⟩)⟩
          · intro N3 e3
            refine ⟨⟨by omega, by omega⟩, ih N3 ⟨by rw [e3]; exact f2.up ⟨rfl, rfl⟩, fun k a b d => ?_, fun k a b => ?_⟩⟩
            · by_cases hky : k = y
              · rw [hky, e3, up_eq, (k2 y y0 ho.2.1).2.1, zwid, if_neg (by omega), if_pos hlt, znar_open hG y0 ho.2.1 (by omega), zgive, if_neg (by omega), if_pos hlt]
                omega
              · rw [e3, up_k _ _ _ _ _ _ hky]; exact d2 k a (by omega) d
            · rw [e3, up_k _ _ _ _ _ _ (by omega)]; exact d3 k (by omega) b
          · by_cases hky : k = y
            · rw [hky] at d ⊢
              have hz : zopen T y = 0 := (zopen_r T y).elim id (fun z => absurd ⟨y0, d, z⟩ ho)
              rw [d3 y (Int.le_refl _) d, zwid, if_neg (by omega), if_pos hlt, zgive_open hz]
              omega
            · exact d2 k a (by omega) d
    refine ⟨fun h => hall (Or.inl h), fun h => ⟨fun h2 => hall (Or.inr h2), fun h2 => ?_⟩⟩
    -- in proportion
    refine ⟨fun _ => ?_, fun h3 => absurd h3 (by omega)⟩
    have hz2 : ∀ N1, Fj (fun s j _ => s = 51 ∧ j = u) N N1 → (∀ k, 0 ≤ k → k < T 11 0 4 → N1 51 u k = zgv T k) → ∃ n, wp_X8_giveInProportion_76 u (zrest T) (zlack T (T 11 0 4)) (fun M3 => wp_X8_shareOut_153 u (T 11 0 24 - max 0 (zvis T - 1)) Qm M3) n (zrest T - zS (zgive T) 0 (T 11 0 4)) 0 N1 := by
      intro N1 f1 d1
      have hdone : ∀ N2 y, 0 ≤ y → y ≤ 6 → Fj (fun s j _ => s = 51 ∧ j = u) N N2 → (∀ k, 0 ≤ k → k < T 11 0 4 → N2 51 u k = (zfin T (min y (T 11 0 4))).1 k) → (T 11 0 4 ≤ y ∨ zrest T ≤ (zfin T (min y (T 11 0 4))).2) → wp_X8_giveInProportion_136 u (zrest T) (zlack T (T 11 0 4)) (fun M3 => wp_X8_shareOut_153 u (T 11 0 24 - max 0 (zvis T - 1)) Qm M3) N2 := by
        intro N2 y y0 y6 f2 d2 hh
        refine hq N2 (fN.tr (hf51 f2)) (hkf kN f2) (fun k a b => ?_)
        rw [d2 k a b, zwid, if_neg (by omega), if_neg (by omega)]
        rcases hh with hh | hh
        · rw [show min y (T 11 0 4) = T 11 0 4 by omega]
        · rw [zfin_stop hG (y := min y (T 11 0 4)) (n := T 11 0 4) (by omega) (by omega) hh]
      refine zLoop (σ := Int × Mem) (fun n k s => wp_X8_giveInProportion_76 u (zrest T) (zlack T (T 11 0 4)) (fun M3 => wp_X8_shareOut_153 u (T 11 0 24 - max 0 (zvis T - 1)) Qm M3) n s.1 k s.2) (fun y s => Fj (fun s j _ => s = 51 ∧ j = u) N s.2 ∧ s.1 = zrest T - (zfin T (min y (T 11 0 4))).2 ∧ ∀ k, 0 ≤ k → k < T 11 0 4 → s.2 51 u k = (zfin T (min y (T 11 0 4))).1 k) (s := (_, N1)) 6 (by omega) ⟨f1, ?_, fun k a b => ?_⟩ (fun n s hs => ?_) (fun n y s y0 y1 hs ih => ?_)
      · rw [show min 0 (T 11 0 4) = 0 by omega]; unfold zfin; rw [zF_self _ _ (by omega)]
      · rw [show min 0 (T 11 0 4) = 0 by omega]; unfold zfin; rw [zF_self _ _ (by omega)]; exact d1 k a b
      · obtain ⟨g, N2⟩ := s
        obtain ⟨f2, g2, d2⟩ := hs
        exact ⟨fun _ => hdone N2 6 (by omega) (by omega) f2 d2 (Or.inl (by omega)), fun h => absurd h (by omega)⟩
      · obtain ⟨g, N2⟩ := s
        obtain ⟨f2, g2, d2⟩ := hs
        dsimp only at f2 g2 d2 ⊢
        have hA2 : Ag T N2 := (fN.tr (hf51 f2)).ag hA (zCW_in u)
        have k2 := hkf kN f2
        obtain ⟨r1, r2, r3⟩ := zfin_r hG h (n := min y (T 11 0 4)) (by omega) (by omega)
        refine ⟨fun h => absurd h (by omega), fun _ => ⟨fun hle => hdone N2 y y0 (by omega) f2 d2 (Or.inr (by omega)), fun hgt => k_isShownContent hG hL hA2 (fun ho => ⟨fun z => absurd z (by decide), fun _ => ⟨⟨by omega, by omega⟩, ⟨by omega, by omega⟩, ?_⟩⟩) (fun ho => ⟨fun _ => ⟨⟨by omega, by omega⟩, ih (g, N2) ⟨f2, ?_, fun k a b => ?_⟩⟩, fun z => absurd rfl z⟩)⟩⟩
        · have emin : min y (T 11 0 4) = y := by omega
          have emin1 : min (y + 1) (T 11 0 4) = y + 1 := by omega
          rw [emin] at g2 d2 r1 r2 r3
          have es : zfin T (y + 1) = (if zopen T y = 0 then zfin T y else if zrest T ≤ (zfin T y).2 then zfin T y else if zms T y ≤ (zfin T y).1 y then zfin T y else (zset (zfin T y).1 y ((zfin T y).1 y + 1), (zfin T y).2 + 1)) := zF_succ _ _ y0
          have hb := r1 y y0 ho.2.1
          rw [(k2 y y0 ho.2.1).2.1, d2 y y0 ho.2.1]
          refine ⟨fun h5 => ⟨⟨by omega, by omega⟩, ih (g, N2) ⟨f2, ?_, fun k a b => ?_⟩⟩, fun h5 => ⟨⟨by omega, by omega⟩, ⟨by omega, by omega⟩, ⟨by omega, by omega⟩, ?_⟩⟩
          · rw [emin1, es, if_neg (by omega), if_neg (by omega), if_pos h5]; exact g2
          · rw [emin1, es, if_neg (by omega), if_neg (by omega), if_pos h5]; exact d2 k a b
          · intro N3 e3
            refine ⟨⟨by omega, by omega⟩, ⟨by omega, by omega⟩, ih (g + (-1), N3) ⟨by rw [e3]; exact f2.up ⟨rfl, rfl⟩, ?_, fun k a b => ?_⟩⟩
            · rw [emin1, es, if_neg (by omega), if_neg (by omega), if_neg (by omega)]
              show g + (-1) = zrest T - ((zfin T y).2 + 1)
              omega
            · rw [emin1, es, if_neg (by omega), if_neg (by omega), if_neg (by omega)]
              show N3 51 u k = zset (zfin T y).1 y ((zfin T y).1 y + 1) k
              by_cases hky : k = y
              · rw [hky, e3, up_eq, zset_eq]
              · rw [e3, up_k _ _ _ _ _ _ hky, zset_ne _ _ hky]; exact d2 k a b
        · by_cases hy : y < T 11 0 4
          · have hz : zopen T y = 0 := (zopen_r T y).elim id (fun z => absurd ⟨y0, hy, z⟩ ho)
            have es : zfin T (y + 1) = (if zopen T y = 0 then zfin T y else if zrest T ≤ (zfin T y).2 then zfin T y else if zms T y ≤ (zfin T y).1 y then zfin T y else (zset (zfin T y).1 y ((zfin T y).1 y + 1), (zfin T y).2 + 1)) := zF_succ _ _ y0
            rw [show min (y + 1) (T 11 0 4) = y + 1 by omega, es, if_pos hz]
            rw [show min y (T 11 0 4) = y by omega] at g2
            exact g2
          · rw [show min (y + 1) (T 11 0 4) = min y (T 11 0 4) by omega]; exact g2
        · by_cases hy : y < T 11 0 4
          · have hz : zopen T y = 0 := (zopen_r T y).elim id (fun z => absurd ⟨y0, hy, z⟩ ho)
            have es : zfin T (y + 1) = (if zopen T y = 0 then zfin T y else if zrest T ≤ (zfin T y).2 then zfin T y else if zms T y ≤ (zfin T y).1 y then zfin T y else (zset (zfin T y).1 y ((zfin T y).1 y + 1), (zfin T y).2 + 1)) := zF_succ _ _ y0
            rw [show min (y + 1) (T 11 0 4) = y + 1 by omega, es, if_pos hz]
            rw [show min y (T 11 0 4) = y by omega] at d2
            exact d2 k a b
          · rw [show min (y + 1) (T 11 0 4) = min y (T 11 0 4) by omega]; exact d2 k a b
    have egv : ∀ k, zgv T k = znar T k + zgive T k := fun k => by unfold zgv; rw [if_neg (by omega)]
    refine zLoop (σ := Int × Mem) (fun n k s => wp_X8_giveInProportion_10 u (zrest T) (zlack T (T 11 0 4)) (fun M3 => wp_X8_shareOut_153 u (T 11 0 24 - max 0 (zvis T - 1)) Qm M3) n s.1 k s.2) (fun y s => Fj (fun s j _ => s = 51 ∧ j = u) N s.2 ∧ s.1 = zrest T - zS (zgive T) 0 (min y (T 11 0 4)) ∧ (∀ k, 0 ≤ k → k < y → k < T 11 0 4 → s.2 51 u k = zgv T k) ∧ ∀ k, y ≤ k → k < T 11 0 4 → s.2 51 u k = znar T k) (s := (zrest T, N)) 6 (by omega) ⟨Fj.rf _ _, by rw [show min 0 (T 11 0 4) = 0 by omega, zS_self _ (by omega)]; omega, fun k a b => absurd b (by omega), fun k a b => dN k a b⟩ (fun n s hs => ?_) (fun n y s y0 y1 hs ih => ?_)
    · obtain ⟨g, N2⟩ := s
      obtain ⟨f2, g2, d2, d3⟩ := hs
      dsimp only at f2 g2 d2 d3 ⊢
      rw [show min 6 (T 11 0 4) = T 11 0 4 by omega] at g2
      refine ⟨fun _ => ?_, fun h => absurd h (by omega)⟩
      rw [g2]
      exact hz2 N2 f2 (fun k a b => d2 k a (by omega) b)
    · obtain ⟨g, N2⟩ := s
      obtain ⟨f2, g2, d2, d3⟩ := hs
      dsimp only at f2 g2 d2 d3 ⊢
      have hA2 : Ag T N2 := (fN.tr (hf51 f2)).ag hA (zCW_in u)
      have k2 := hkf kN f2
      have hsb := zS_bd (f := zgive T) (a := 0) (b := min y (T 11 0 4)) 0 300 (by omega) (fun k a b => by have := zgive_r hG h a (by omega : k < T 11 0 4); have := zls_r hG a (by omega : k < T 11 0 4); omega)
      refine ⟨fun h => absurd h (by omega), fun _ => k_isShownContent hG hL hA2 (fun ho => ⟨fun z => absurd z (by decide), fun _ => ?_⟩) (fun ho => ⟨fun _ => ⟨⟨by omega, by omega⟩, ih (g, N2) ⟨f2, ?_, fun k a b d => ?_, fun k a b => d3 k (by omega) b⟩⟩, fun z => absurd rfl z⟩)⟩
      · have hl := zls_r hG y0 ho.2.1
        have hg := zgive_r hG h y0 ho.2.1
        have hnn := znar_r hG y0 ho.2.1
        have em : 0 ≤ zrest T * (zms T y - zls T y) ∧ zrest T * (zms T y - zls T y) ≤ 151 * 300 := by
          refine ⟨Int.mul_nonneg (by omega) (by omega), ?_⟩
          have x1 := Int.mul_le_mul_of_nonneg_right (show zrest T ≤ 151 by omega) (show 0 ≤ zms T y - zls T y by omega)
          omega
        have ev : Int.tdiv (zrest T * (zms T y - zls T y)) (zlack T (T 11 0 4)) = zgive T y := by unfold zgive; rw [if_neg (by omega), if_neg (by omega)]
        rw [(k2 y y0 ho.2.1).1, (k2 y y0 ho.2.1).2.1, d3 y (Int.le_refl _) ho.2.1, ev]
        refine ⟨⟨by omega, by omega⟩, ⟨by omega, by omega⟩, ⟨by omega, by omega⟩, ⟨by omega, by omega⟩, by omega, ⟨by omega, by omega⟩, ⟨by omega, by omega⟩, ⟨by omega, by omega⟩, ?_⟩
        intro N3 e3
        refine ⟨⟨by omega, by omega⟩, ⟨by omega, by omega⟩, ih (g - zgive T y, N3) ⟨by rw [e3]; exact f2.up ⟨rfl, rfl⟩, ?_, fun k a b d => ?_, fun k a b => ?_⟩⟩
        · rw [show min y (T 11 0 4) = y by omega] at g2
          rw [show min (y + 1) (T 11 0 4) = y + 1 by omega, zS_succ _ y0]
          show g - zgive T y = _
          omega
        · by_cases hky : k = y
          · rw [hky]; show N3 51 u y = _; rw [e3, up_eq, egv]
          · show N3 51 u k = _; rw [e3, up_k _ _ _ _ _ _ hky]; exact d2 k a (by omega) d
        · show N3 51 u k = _; rw [e3, up_k _ _ _ _ _ _ (by omega)]; exact d3 k (by omega) b
      · by_cases hy : y < T 11 0 4
        · have hz : zopen T y = 0 := (zopen_r T y).elim id (fun z => absurd ⟨y0, hy, z⟩ ho)
          rw [show min y (T 11 0 4) = y by omega] at g2
          rw [show min (y + 1) (T 11 0 4) = y + 1 by omega, zS_succ _ y0, zgive_open hz, Int.add_zero]
          exact g2
        · rw [show min (y + 1) (T 11 0 4) = min y (T 11 0 4) by omega]; exact g2
      · by_cases hky : k = y
        · rw [hky] at d ⊢
          have hz : zopen T y = 0 := (zopen_r T y).elim id (fun z => absurd ⟨y0, d, z⟩ ho)
          show N2 51 u y = _
          rw [d3 y (Int.le_refl _) d, egv, zgive_open hz, Int.add_zero]
        · exact d2 k a (by omega) d
  -- the first loop
  refine zLoop (σ := Int × Int × Mem) (fun n k s => wp_X8_shareOut_7 u (T 11 0 24 - max 0 (zvis T - 1)) Qm n s.1 s.2.1 k s.2.2) (fun y s => Fj (fun s j _ => s = 51 ∧ j = u) M s.2.2 ∧ s.1 = (T 11 0 24 - max 0 (zvis T - 1)) - zS (znar T) 0 y ∧ s.2.1 = zlack T y ∧ (∀ k, 0 ≤ k → k < y → s.2.2 51 u k = znar T k) ∧ ∀ k, y ≤ k → k < 6 → s.2.2 51 u k = 0) (s := (_, 0, M)) (T 11 0 4) hC.1 ⟨Fj.rf _ _, by rw [zS_self _ (by omega)]; omega, (zS_self _ (by omega)).symm, fun k a b => absurd b (by omega), fun k a b => h51 k a b⟩ (fun n s hs => ?_) (fun n y s y0 y1 hs ih => ?_)
  · obtain ⟨g, l, N⟩ := s
    obtain ⟨f1, g1, l1, d1, d2⟩ := hs
    dsimp only at f1 g1 l1 d1 d2 ⊢
    have e12 := ((hf51 f1).ag hA (zCW_in u)).s12
    refine ⟨fun _ => ?_, fun h => absurd h (by rw [e12]; omega)⟩
    rw [g1, l1, ← ere]
    exact hend N (hf51 f1) (hkf hk f1) (fun k a b => d1 k a b)
  · obtain ⟨g, l, N⟩ := s
    obtain ⟨f1, g1, l1, d1, d2⟩ := hs
    dsimp only at f1 g1 l1 d1 d2 ⊢
    have hAN : Ag T N := (hf51 f1).ag hA (zCW_in u)
    have e12 := hAN.s12
    have kN := hkf hk f1
    have hnn := znar_r hG y0 y1
    have hsb := zS_bd (f := znar T) (a := 0) (b := y) 0 300 y0 (fun k a b => znar_r hG a (by omega))
    have hlb := zlack_r hG y0 (by omega : y ≤ T 11 0 4)
    have el : zlack T (y + 1) = zlack T y + (if zopen T y = 0 then 0 else zms T y - zls T y) := zS_succ _ y0
    have hl := zls_r hG y0 y1
    refine ⟨fun h => absurd h (by rw [e12]; omega), fun _ => ⟨fun h => absurd h (by omega), fun _ => k_isShown hG hL hAN (fun ho => ⟨fun z => absurd z (by decide), fun _ => ?_⟩) (fun ho => ⟨fun _ => ⟨⟨by omega, by omega⟩, ih (g, l, N) ⟨f1, ?_, ?_, fun k a b => ?_, fun k a b => d2 k (by omega) b⟩⟩, fun z => absurd rfl z⟩)⟩⟩
    · have hpos := zvis_pos hG (by omega)
      rw [e12, n12, (hL.col y0 y1).1]
      refine ⟨⟨by omega, by omega⟩, ⟨by omega, by omega⟩, k_wantedBy hG hL hAN y0 y1 (by omega) (by omega) ⟨⟨by omega, by omega⟩, ?_⟩⟩
      intro N2 e2
      have ez : max (N 49 u y) (if T 56 0 y = 1 then T 57 0 y else if T 56 0 y = 2 then zpart (T 11 0 24 - max 0 (zvis T - 1)) (T 57 0 y) else 0) = znar T y := by
        rw [(kN y y0 y1).1, show max 0 (zvis T - 1) = zvis T - 1 by omega, znar, if_pos ho.2.2]
        omega
      rw [ez] at e2
      have f2 : Fj (fun s j _ => s = 51 ∧ j = u) M N2 := by rw [e2]; exact f1.up ⟨rfl, rfl⟩
      have hA2 : Ag T N2 := (hf51 f2).ag hA (zCW_in u)
      have k2 := hkf hk f2
      have e51 : N2 51 u y = znar T y := by rw [e2, up_eq]
      rw [e51]
      have hd1 : ∀ k, 0 ≤ k → k < y + 1 → N2 51 u k = znar T k := fun k a b => by
        by_cases hky : k = y
        · rw [hky]; exact e51
        · rw [e2, up_k _ _ _ _ _ _ hky]; exact d1 k a (by omega)
      have hd2 : ∀ k, y + 1 ≤ k → k < 6 → N2 51 u k = 0 := fun k a b => by rw [e2, up_k _ _ _ _ _ _ (by omega)]; exact d2 k (by omega) b
      refine ⟨⟨by omega, by omega⟩, ⟨by omega, by omega⟩, k_isShownContent hG hL hA2 (fun hc => ?_) (fun hc => ?_)⟩
      · rw [if_neg (by decide), (k2 y y0 y1).1, (k2 y y0 y1).2.1]
        refine ⟨fun _ => ⟨⟨by omega, by omega⟩, ⟨by omega, by omega⟩, ⟨by omega, by omega⟩, trivial⟩, ⟨by omega, by omega⟩, ⟨by omega, by omega⟩, ⟨by omega, by omega⟩, ih (_, _, N2) ⟨f2, ?_, ?_, hd1, hd2⟩⟩
        · rw [zS_succ _ y0, g1]; omega
        · rw [el, if_neg (by omega), l1]
      · rw [if_pos rfl]
        have hz : zopen T y = 0 := (zopen_r T y).elim id (fun z => absurd ⟨y0, y1, z⟩ hc)
        refine ⟨fun z => absurd rfl z, ⟨by omega, by omega⟩, ⟨by omega, by omega⟩, ⟨by omega, by omega⟩, ih (_, _, N2) ⟨f2, ?_, ?_, hd1, hd2⟩⟩
        · rw [zS_succ _ y0, g1]; omega
        · rw [el, if_pos hz, l1]
    · have h9 : ¬ T 59 0 y = 0 := fun z => ho ⟨y0, y1, z⟩
      rw [zS_succ _ y0, znar_hid h9, Int.add_zero]; exact g1
    · have h9 : ¬ T 59 0 y = 0 := fun z => ho ⟨y0, y1, z⟩
      rw [el, if_pos (zopen_hid h9), Int.add_zero]; exact l1
    · have h9 : ¬ T 59 0 y = 0 := fun z => ho ⟨y0, y1, z⟩
      by_cases hky : k = y
      · rw [hky, znar_hid h9]; exact d2 y (Int.le_refl _) (by omega)
      · exact d1 k a (by omega)
theorem k_solve (hG : Good T) (hL : zLk T) (hA : Ag T M) {u : Int} {Qm : Mem → Prop} (hq : ∀ M', Fj (zCW u) M M' → zWK T u M' → (∀ k, 0 ≤ k → k < T 11 0 4 → M' 51 u k = zwid T k) → Qm M') : wp_X8_solve u (T 11 0 24) M Qm := by
  have hC := hG.nC
  have hp := hG.n.2.2.2.1
  have hv := zvis_r hG
  have hz49 : ∀ k, zin 49 k = false := fun k => rfl
  have hz50 : ∀ k, zin 50 k = false := fun k => rfl
  refine k_clear8 u (fun M1 f1 d1 => ?_)
  have hA1 : Ag T M1 := f1.ag hA (zCW_in u)
  refine k_measureFigures hG hL hA1 d1 (fun M2 f2 d2 => ?_)
  have hA2 : Ag T M2 := f2.ag hA1 (zCW_in u)
  refine k_measureTotals hG hL hA2 d2 (fun M3 f3 d3 => ?_)
  have hA3 : Ag T M3 := f3.ag hA2 (zCW_in u)
  refine k_measureSingleColumns hG hL hA3 d3 (fun M4 f4 d4 => ?_)
  have hA4 : Ag T M4 := f4.ag hA3 (zCW_in u)
  refine k_spread hG hL hA4 hz49 (most := 0) (fun k a b => (d4 k a b).2.2.1) (fun k a b => by have := zb1_r hG 0 hG.nK.1 (Int.le_refl _) k; omega) (fun M5 f5 d5 => ?_)
  have f5' : Fj (zCW u) M4 M5 := f5.mono (fun s j k z => ⟨by have := z.1; omega, by have := z.1; omega, z.2⟩)
  have hA5 : Ag T M5 := f5'.ag hA4 (zCW_in u)
  refine k_spread hG hL hA5 hz50 (most := 1) (w := zb1 T 1 (T 11 0 15)) (fun k a b => by rw [f5 50 u k (fun z => absurd z.1 (by decide))]; exact (d4 k a b).2.2.2) (fun k a b => by have := zb1_r hG 1 hG.nK.1 (Int.le_refl _) k; omega) (fun M6 f6 d6 => ?_)
  have f6' : Fj (zCW u) M5 M6 := f6.mono (fun s j k z => ⟨by have := z.1; omega, by have := z.1; omega, z.2⟩)
  have hA6 : Ag T M6 := f6'.ag hA5 (zCW_in u)
  have fin : ∀ k, 0 ≤ k → k < 6 → M6 49 u k = zb2 T 0 k ∧ M6 50 u k = zb2 T 1 k ∧ M6 51 u k = 0 ∧ M6 53 u k = zRx T k := fun k a b => by
    refine ⟨?_, d6 k a b, ?_, ?_⟩
    · rw [f6 49 u k (fun z => absurd z.1 (by decide))]; exact d5 k a b
    · rw [f6 51 u k (fun z => absurd z.1 (by decide)), f5 51 u k (fun z => absurd z.1 (by decide))]; exact (d4 k a b).1
    · rw [f6 53 u k (fun z => absurd z.1 (by decide)), f5 53 u k (fun z => absurd z.1 (by decide))]; exact (d4 k a b).2.1
  refine zLoop (fun n k N => wp_X8_solve_36 u (T 11 0 24) Qm n k N) (fun y N => Fj (zCW u) M6 N ∧ (∀ k, 0 ≤ k → k < 6 → N 49 u k = zb2 T 0 k ∧ N 51 u k = 0 ∧ N 53 u k = zRx T k) ∧ (∀ k, 0 ≤ k → k < y → N 50 u k = max (zb2 T 1 k) (zb2 T 0 k)) ∧ ∀ k, y ≤ k → k < 6 → N 50 u k = zb2 T 1 k) 6 (by omega) ⟨Fj.rf _ _, fun k a b => ⟨(fin k a b).1, (fin k a b).2.2.1, (fin k a b).2.2.2⟩, fun k a b => absurd b (by omega), fun k a b => (fin k a b).2.1⟩ (fun n N hN => ?_) (fun n y N y0 y1 hN ih => ?_)
  · obtain ⟨f7, d7, d8, d9⟩ := hN
    have hA7 : Ag T N := f7.ag hA6 (zCW_in u)
    refine ⟨fun _ => k_between hG hL hA7 ⟨⟨by omega, by omega⟩, k_shareOut hG hL hA7 (fun k a b => ?_) (fun k a b => (d7 k a b).2.1) (fun M8 f8 k8 d8' => hq M8 (((((((f1.tr f2).tr f3).tr f4).tr f5').tr f6').tr f7).tr f8) k8 d8')⟩, fun h => absurd h (by omega)⟩
    obtain ⟨z1, z2⟩ := zls_eq hG a b
    rw [(d7 k a (by omega)).1, d8 k a (by omega), (d7 k a (by omega)).2.2, z1, z2]
    exact ⟨rfl, rfl, if_pos b⟩
  · obtain ⟨f7, d7, d8, d9⟩ := hN
    refine ⟨fun h => absurd h (by omega), fun _ => ⟨⟨by omega, by omega⟩, ⟨by omega, by omega⟩, ⟨by omega, by omega⟩, ?_⟩⟩
    intro N2 e2
    rw [d9 y (Int.le_refl _) y1, (d7 y y0 y1).1] at e2
    refine ⟨⟨by omega, by omega⟩, ih N2 ⟨by rw [e2]; exact f7.up ⟨by decide, by decide, rfl⟩, fun k a b => ?_, fun k a b => ?_, fun k a b => ?_⟩⟩
    · rw [e2, up_s _ _ _ _ (by decide), up_s _ _ _ _ (by decide), up_s _ _ _ _ (by decide)]; exact d7 k a b
    · by_cases hky : k = y
      · rw [hky, e2, up_eq]
      · rw [e2, up_k _ _ _ _ _ _ hky]; exact d8 k a (by omega)
    · rw [e2, up_k _ _ _ _ _ _ (by omega)]; exact d9 k (by omega) b
end CU
