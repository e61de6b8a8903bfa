/-! the pure part: the class's least and most widths -/
def zLx (T : Mem) (k : Int) : Int := if k < T 11 0 4 then zLf T k else 0
def zRx (T : Mem) (k : Int) : Int := if k < T 11 0 4 then zRg T k else 0
section CT
variable {T M : Mem}
theorem zEq.of (hG : Good T) {v w : Int → Int} (h : ∀ k, 0 ≤ k → k < 6 → v k = w k) : zEq T v w := fun k a b => h k a (by have := hG.nC; omega)
theorem k_measureTotals (hG : Good T) (hL : zLk T) (hA : Ag T M) {u : Int} (h0 : ∀ k, 0 ≤ k → k < 6 → M 49 u k = 0 ∧ M 50 u k = 0 ∧ M 51 u k = 0 ∧ M 52 u k = zL1 T k (T 11 0 15) ∧ M 53 u k = zR1 T k (T 11 0 15) ∧ M 54 u k = zA1 T k (T 11 0 15) ∧ M 55 u k = zB1 T k (T 11 0 15)) {Qm : Mem → Prop} (hq : ∀ M', Fj (zCW u) M M' → (∀ k, 0 ≤ k → k < 6 → M' 51 u k = 0 ∧ M' 52 u k = zLx T k ∧ M' 53 u k = zRx T k) → Qm M') : wp_X8_measureTotals u M Qm := by
  have hC := hG.nC
  have hR := hG.nR
  refine zLoop (fun n k N => wp_X8_measureTotals_2 u Qm n k N) (fun y N => Fj (zCW u) M N ∧ (∀ k, 0 ≤ k → k < 6 → N 51 u k = 0 ∧ N 53 u k = zRx T k ∧ N 54 u k = zA1 T k (T 11 0 15) ∧ N 55 u k = zB1 T k (T 11 0 15)) ∧ (∀ k, 0 ≤ k → k < y → N 52 u k = zLx T k) ∧ ∀ k, y ≤ k → k < 6 → N 52 u k = zL1 T k (T 11 0 15)) 6 (by omega) ⟨Fj.rf _ _, fun k a b => ?_, fun k a b => absurd b (by omega), fun k a b => (h0 k a b).2.2.2.1⟩ (fun n N hN => ?_) (fun n y N y0 y1 hN ih => ?_)
  · obtain ⟨-, -, x3, -, x5, x6, x7⟩ := h0 k a b
    refine ⟨x3, ?_, x6, x7⟩
    rw [x5, zR1_eq hG a b]; rfl
  · exact ⟨fun _ => hq N hN.1 (fun k a b => ⟨(hN.2.1 k a b).1, hN.2.2.1 k a b, (hN.2.1 k a b).2.1⟩), fun h => absurd h (by omega)⟩
  · obtain ⟨f1, d1, d2, d3⟩ := hN
    have hA1 : Ag T N := f1.ag hA (zCW_in u)
    have e52 := d3 y (Int.le_refl _) y1
    have eL := zL1_eq hG y0 y1
    rw [eL] at e52
    obtain ⟨x51, x53, x54, x55⟩ := d1 y y0 y1
    have hdone : ∀ N', Fj (fun s j _ => s = 52 ∧ j = u) N N' → (∀ k, k ≠ y → N' 52 u k = N 52 u k) → N' 52 u y = zLx T y → wp_X8_measureTotals_76 u Qm (wp_X8_measureTotals_2 u Qm n) y N' := fun N' f' ho hv => ⟨⟨by omega, by omega⟩, ih N' ⟨f1.tr (f'.mono (fun s j k z => ⟨by have := z.1; omega, by have := z.1; omega, z.2⟩)), fun k a b => by rw [f' 51 u k (fun z => absurd z.1 (by decide)), f' 53 u k (fun z => absurd z.1 (by decide)), f' 54 u k (fun z => absurd z.1 (by decide)), f' 55 u k (fun z => absurd z.1 (by decide))]; exact d1 k a b, fun k a b => by
        by_cases hk : k = y
        · rw [hk]; exact hv
        · rw [ho k hk]; exact d2 k a (by omega), fun k a b => by rw [ho k (by omega)]; exact d3 k (by omega) b⟩⟩
    have hz := zany_lef hG y hR.1
    refine ⟨fun h => absurd h (by omega), fun _ => ⟨⟨by omega, by omega⟩, fun h => hdone N (Fj.rf _ _) (fun k _ => rfl) ?_, fun h => k_isTotalled hG hL hA1 (fun ht => ⟨fun z => absurd z (by decide), fun _ => ?_⟩) (fun ht => ⟨fun _ => hdone N (Fj.rf _ _) (fun k _ => rfl) ?_, fun z => absurd rfl z⟩)⟩⟩
    · rw [e52]
      unfold zLx
      by_cases hk : y < T 11 0 4
      · rw [if_pos hk, if_pos hk]
        rw [e52, if_pos hk] at h
        have : zany T y (T 11 0 8) = 0 := by
          by_cases q : zany T y (T 11 0 8) = 0
          · exact q
          · have := hz.2 q; omega
        unfold zLf
        rw [if_pos (Or.inl this)]
      · rw [if_neg hk, if_neg hk]
    · have hk := ht.2.1
      have ha := zabv_r hG y0 y1 hR.1 (Int.le_refl _)
      have hb := zblw_r hG y0 y1 hR.1 (Int.le_refl _)
      rw [zA1_eq hG y0 hk] at x54
      rw [zB1_eq hG y0 hk] at x55
      rw [if_pos hk] at e52
      rw [x54, e52]
      refine ⟨⟨by omega, by omega⟩, ⟨by omega, by omega⟩, k_leftPart (by omega) (by omega) ⟨⟨by omega, by omega⟩, ?_⟩⟩
      intro N2 e2
      have y55 : N2 55 u y = zblw T y (T 11 0 8) := by rw [e2, up_s _ _ _ _ (by decide)]; exact x55
      have y52 : N2 52 u y = max (zlef T y (T 11 0 8)) (zleft (zabv T y (T 11 0 8))) := by rw [e2, up_eq]
      rw [y55, y52]
      refine ⟨⟨by omega, by omega⟩, ⟨by omega, by omega⟩, k_leftPart (by omega) (by omega) ⟨⟨by omega, by omega⟩, ?_⟩⟩
      intro N3 e3
      refine hdone N3 (by rw [e3, e2]; exact ((Fj.rf _ N).up ⟨rfl, rfl⟩).up ⟨rfl, rfl⟩) (fun k hk' => by rw [e3, up_k _ _ _ _ _ _ hk', e2, up_k _ _ _ _ _ _ hk']) ?_
      rw [e3, up_eq]
      unfold zLx zLf
      have h58 : ¬ T 58 0 y = 0 := fun q => by
        have := ht.2.2
        unfold ztt at this
        rw [if_pos q] at this
        exact absurd this (by decide)
      have hany : ¬ zany T y (T 11 0 8) = 0 := fun q => by
        have := hz.1 q
        have e52' := d3 y (Int.le_refl _) y1
        rw [eL, if_pos hk] at e52'
        omega
      rw [if_pos hk, if_neg (by omega)]
      omega
    · rw [e52]
      unfold zLx
      by_cases hk : y < T 11 0 4
      · rw [if_pos hk, if_pos hk]
        unfold zLf
        have : zany T y (T 11 0 8) = 0 ∨ T 58 0 y = 0 := by
          by_cases q : T 58 0 y = 0
          · exact Or.inr q
          · refine Or.inl (zany_hid (fun q2 => ht ⟨y0, hk, ?_⟩) hR.1)
            unfold ztt
            rw [if_neg q, if_neg (by omega)]
        rw [if_pos this]
      · rw [if_neg hk, if_neg hk]
/-- columns that aren't shown have no widths -/
theorem zb2_hid (hG : Good T) (most : Int) {k : Int} (h : ¬ (0 ≤ k ∧ k < T 11 0 4 ∧ T 59 0 k = 0)) : zb2 T most k = 0 := by
  have hK := hG.nK
  have hC := hG.nC
  have hR := hG.nR
  have h0 : zb0 T k = 0 := by
    unfold zb0
    by_cases hk : 0 ≤ k ∧ k < T 11 0 4
    · rw [if_pos hk]
      have h9 : ¬ T 59 0 k = 0 := fun z => h ⟨hk.1, hk.2, z⟩
      have hz := zany_lef hG k hR.1
      have hy := zany_hid h9 hR.1
      have e1 : zLf T k = 0 := by unfold zLf; rw [if_pos (Or.inl hy)]; exact hz.1 hy
      have e2 : zRg T k = 0 := by
        refine zF_ind (fun _ b => b = 0) hR.1 rfl (fun r v _ _ hv => ?_)
        have : zfig T r k = -1 := by
          unfold zfig
          split
          · rfl
          · rfl
        show (if zfig T r k = -1 then v else max v (zright T (zfig T r k))) = 0
        rw [if_pos this, hv]
      omega
    · rw [if_neg hk]
  have h1 : zb1 T most (T 11 0 15) k = 0 := by
    refine zF_ind (fun _ (w : Int → Int) => w k = 0) hK.1 h0 (fun c w c0 c1 hw => ?_)
    show (if zshows T c = 1 then zset w (zlast T c) (max (w (zlast T c)) (zwant T most c)) else w) k = 0
    split
    · rename_i hs
      have t := ztakes_r hG w c0 c1 (by omega)
      rw [ztakes_one hG w c0 c1 hs] at t
      obtain ⟨-, w2, -, w4, -⟩ := hG.cell c c0 c1
      rw [zset_ne _ _ (fun e => h (by rw [e]; exact ⟨by omega, by omega, t.2.2⟩))]
      exact hw
    · exact hw
  have hgrow : ∀ (c : Int), 0 ≤ c → c < T 11 0 15 → 1 ≤ zshows T c → ∀ (m : Nat) (w : Int → Int), w k = 0 → zgrow T c m w k = 0 := by
    intro c c0 c1 hs m
    induction m with
    | zero => intro w hw; exact hw
    | succ m ih =>
      intro w hw
      refine ih _ ?_
      have t := ztakes_r hG w c0 c1 hs
      obtain ⟨-, w2, -, w4, -⟩ := hG.cell c c0 c1
      unfold zstep
      rw [zset_ne _ _ (fun e => h (by rw [e]; exact ⟨by omega, by omega, t.2.2⟩))]
      exact hw
  refine zF_ind (fun _ (w : Int → Int) => w k = 0) (by decide) h1 (fun wide w a b hw => ?_)
  refine zF_ind (fun _ (w : Int → Int) => w k = 0) hK.1 hw (fun c w c0 c1 hw => ?_)
  show (if zshows T c = wide then zgrow T c (zwant T most c - zacr T c w).toNat w else w) k = 0
  split
  · exact hgrow c c0 c1 (by omega) _ w hw
  · exact hw
theorem zls_eq (hG : Good T) {k : Int} (k0 : 0 ≤ k) (k1 : k < T 11 0 4) : zls T k = zb2 T 0 k ∧ zms T k = max (zb2 T 1 k) (zb2 T 0 k) := by
  unfold zls zms
  by_cases h : T 59 0 k = 0
  · rw [if_pos h, if_pos h]; exact ⟨rfl, rfl⟩
  · rw [if_neg h, if_neg h, zb2_hid hG 0 (fun z => h z.2.2), zb2_hid hG 1 (fun z => h z.2.2)]
    exact ⟨rfl, by omega⟩
theorem k_lastShownOf (hG : Good T) (hL : zLk T) (hA : Ag T M) {u c : Int} (c0 : 0 ≤ c) (c1 : c < T 11 0 15) {Qm : Int → Mem → Prop} (hq : Qm (zlast T c) M) : wp_X8_lastShownOf u c M Qm := by
  obtain ⟨-, k1, -, k2, -⟩ := hG.cell c c0 c1
  obtain ⟨l0, l1, l2, l3, l4, -⟩ := hL.cell c0 c1
  have hC := hG.nC
  have e1 := hA.s1
  unfold wp_X8_lastShownOf
  rw [e1, l2]
  refine zLoop (fun n k s => wp_X8_lastShownOf_7 u c Qm n s k M) (fun k s => s = zF (fun b k => if T 59 0 k = 0 then k else b) (-1) (T 66 0 c) k) (T 66 0 c + T 68 0 c) (by omega) (zF_self _ _ (by omega)).symm (fun n s hs => ?_) (fun n k s h0 h1 hs ih => ?_)
  · simp only [wp_X8_lastShownOf_7, e1, l2, l4]
    refine ⟨⟨by omega, by omega⟩, fun _ => by rw [hs]; exact hq, fun h => absurd h (by omega)⟩
  · simp only [wp_X8_lastShownOf_7, e1, l2, l4]
    refine ⟨⟨by omega, by omega⟩, fun h => absurd h (by omega), fun _ => k_isShown hG hL hA (fun h => ⟨⟨by omega, by omega⟩, ih _ ?_⟩) (fun h => ⟨⟨by omega, by omega⟩, ih _ ?_⟩)⟩
    · rw [if_neg (by decide), zF_succ _ _ h0, if_pos h.2.2]
    · rw [if_pos rfl, zF_succ _ _ h0, if_neg (fun z => h ⟨by omega, by omega, z⟩), hs]
theorem k_measureSingleColumns (hG : Good T) (hL : zLk T) (hA : Ag T M) {u : Int} (h0 : ∀ k, 0 ≤ k → k < 6 → M 51 u k = 0 ∧ M 52 u k = zLx T k ∧ M 53 u k = zRx T k) {Qm : Mem → Prop} (hq : ∀ M', Fj (zCW u) M M' → (∀ k, 0 ≤ k → k < 6 → M' 51 u k = 0 ∧ M' 53 u k = zRx T k ∧ M' 49 u k = zb1 T 0 (T 11 0 15) k ∧ M' 50 u k = zb1 T 1 (T 11 0 15) k) → Qm M') : wp_X8_measureSingleColumns u M Qm := by
  have hC := hG.nC
  have hK := hG.nK
  have n14 := hL.n.2.2
  have hb0 : ∀ k, 0 ≤ k → k < 6 → zLx T k + zRx T k = zb0 T k := fun k a b => by
    unfold zLx zRx zb0
    by_cases h : k < T 11 0 4
    · rw [if_pos h, if_pos h, if_pos ⟨a, h⟩]
    · rw [if_neg h, if_neg h, if_neg (fun z => h z.2)]; rfl
  refine zLoop (fun n k N => wp_X8_measureSingleColumns_2 u Qm n k N) (fun y N => Fj (zCW u) M N ∧ (∀ k, 0 ≤ k → k < 6 → N 51 u k = 0 ∧ N 52 u k = zLx T k ∧ N 53 u k = zRx T k) ∧ ∀ k, 0 ≤ k → k < y → N 49 u k = zb0 T k ∧ N 50 u k = zb0 T k) 6 (by omega) ⟨Fj.rf _ _, h0, fun k a b => absurd b (by omega)⟩ (fun n N hN => ?_) (fun n y N y0 y1 hN ih => ?_)
  · refine ⟨fun _ => ?_, fun h => absurd h (by omega)⟩
    obtain ⟨f1, d1, d2⟩ := hN
    refine zLoop (fun n k N => wp_X8_measureSingleColumns_54 u Qm n k N) (fun c N => Fj (zCW u) M N ∧ ∀ k, 0 ≤ k → k < 6 → N 51 u k = 0 ∧ N 53 u k = zRx T k ∧ N 49 u k = zb1 T 0 c k ∧ N 50 u k = zb1 T 1 c k) (T 11 0 15) hK.1 ⟨f1, fun k a b => ⟨(d1 k a b).1, (d1 k a b).2.2, ?_, ?_⟩⟩ (fun n2 N2 hN2 => ?_) (fun n2 c N2 c0 c1 hN2 ih2 => ?_)
    · rw [(d2 k a b).1]; unfold zb1; rw [zF_self _ _ (by omega)]
    · rw [(d2 k a b).2]; unfold zb1; rw [zF_self _ _ (by omega)]
    · have e14 := (hN2.1.ag hA (zCW_in u)).s14
      exact ⟨fun _ => hq N2 hN2.1 hN2.2, fun h => absurd h (by rw [e14]; omega)⟩
    · obtain ⟨f2, d3⟩ := hN2
      have hA2 : Ag T N2 := f2.ag hA (zCW_in u)
      have e14 := hA2.s14
      have e1 := hA2.s1
      obtain ⟨l0, l1, l2, l3, l4, l7, l8, l9, l10, l11, l12, lw⟩ := hL.cell c0 c1
      have q0 : zb1 T 0 (c + 1) = (if zshows T c = 1 then zset (zb1 T 0 c) (zlast T c) (max (zb1 T 0 c (zlast T c)) (zwant T 0 c)) else zb1 T 0 c) := zF_succ _ _ c0
      have q1 : zb1 T 1 (c + 1) = (if zshows T c = 1 then zset (zb1 T 1 c) (zlast T c) (max (zb1 T 1 c (zlast T c)) (zwant T 1 c)) else zb1 T 1 c) := zF_succ _ _ c0
      refine ⟨fun h => absurd h (by rw [e14]; omega), fun _ => ?_⟩
      rw [e14, e1, n14, l0, l12]
      refine ⟨⟨by omega, by omega⟩, fun hs => ⟨fun _ => ⟨⟨by omega, by omega⟩, ih2 N2 ⟨f2, fun k a b => ?_⟩⟩, fun h => absurd h (by decide)⟩, fun hs => k_lastShownOf hG hL hA2 c0 c1 ?_⟩
      · rw [q0, q1, if_neg hs, if_neg hs]; exact d3 k a b
      · have t := ztakes_r hG (zb1 T 0 c) c0 c1 (by omega)
        rw [ztakes_one hG _ c0 c1 hs] at t
        obtain ⟨-, w2, -, w4, -⟩ := hG.cell c c0 c1
        obtain ⟨x1, x2, x3, x4⟩ := d3 (zlast T c) (by omega) (by omega)
        refine ⟨fun h => absurd h (by omega), fun _ => ⟨fun h => absurd h (by omega), fun _ => ⟨⟨by omega, by omega⟩, k_leastByWords hG hL hA2 c0 c1 ⟨⟨by omega, by omega⟩, ?_⟩⟩⟩⟩
        intro N3 e3
        rw [x3] at e3
        have hA3 : Ag T N3 := by rw [e3]; exact hA2.up rfl
        refine ⟨⟨by omega, by omega⟩, k_mostByWords hG hL hA3 c0 c1 ⟨⟨by omega, by omega⟩, ?_⟩⟩
        intro N4 e4
        have x4' : N3 50 u (zlast T c) = zb1 T 1 c (zlast T c) := by rw [e3, up_s _ _ _ _ (by decide)]; exact x4
        rw [x4'] at e4
        refine ⟨⟨by omega, by omega⟩, ih2 N4 ⟨by rw [e4, e3]; exact (f2.up ⟨by decide, by decide, rfl⟩).up ⟨by decide, by decide, rfl⟩, fun k a b => ?_⟩⟩
        obtain ⟨y1, y2, y3, y4⟩ := d3 k a b
        have s51 : N4 51 u k = N2 51 u k := by rw [e4, up_s _ _ _ _ (by decide), e3, up_s _ _ _ _ (by decide)]
        have s53 : N4 53 u k = N2 53 u k := by rw [e4, up_s _ _ _ _ (by decide), e3, up_s _ _ _ _ (by decide)]
        rw [s51, s53, q0, q1, if_pos hs, if_pos hs]
        refine ⟨y1, y2, ?_, ?_⟩
        · rw [e4, up_s _ _ _ _ (by decide), e3]
          by_cases hk : k = zlast T c
          · rw [hk, up_eq, zset_eq]; rfl
          · rw [up_k _ _ _ _ _ _ hk, zset_ne _ _ hk]; exact y3
        · rw [e4]
          by_cases hk : k = zlast T c
          · rw [hk, up_eq, zset_eq]; rfl
          · rw [up_k _ _ _ _ _ _ hk, zset_ne _ _ hk, e3, up_s _ _ _ _ (by decide)]; exact y4
  · obtain ⟨f1, d1, d2⟩ := hN
    obtain ⟨x1, x2, x3⟩ := d1 y y0 y1
    have hbd := zb0_r hG y
    have hs := hb0 y y0 y1
    rw [← hs] at hbd
    refine ⟨fun h => absurd h (by omega), fun _ => ?_⟩
    rw [x2, x3]
    refine ⟨⟨by omega, by omega⟩, ⟨by omega, by omega⟩, ⟨by omega, by omega⟩, ⟨by omega, by omega⟩, ?_⟩
    intro N2 e2
    have y2 : N2 52 u y = zLx T y := by rw [e2, up_s _ _ _ _ (by decide)]; exact x2
    have y3 : N2 53 u y = zRx T y := by rw [e2, up_s _ _ _ _ (by decide)]; exact x3
    rw [y2, y3]
    refine ⟨⟨by omega, by omega⟩, ⟨by omega, by omega⟩, ⟨by omega, by omega⟩, ⟨by omega, by omega⟩, ?_⟩
    intro N3 e3
    refine ⟨⟨by omega, by omega⟩, ih N3 ⟨by rw [e3, e2]; exact (f1.up ⟨by decide, by decide, rfl⟩).up ⟨by decide, by decide, rfl⟩, fun k a b => ?_, fun k a b => ?_⟩⟩
    · rw [e3, up_s _ _ _ _ (by decide), up_s _ _ _ _ (by decide), up_s _ _ _ _ (by decide), e2, up_s _ _ _ _ (by decide), up_s _ _ _ _ (by decide), up_s _ _ _ _ (by decide)]
      exact d1 k a b
    · by_cases hk : k = y
      · rw [hk, e3, up_s _ _ _ _ (by decide), up_eq, e2, up_eq, hs]
        exact ⟨rfl, rfl⟩
      · rw [e3, up_s _ _ _ _ (by decide), up_k _ _ _ _ _ _ hk, e2, up_k _ _ _ _ _ _ hk, up_s _ _ _ _ (by decide)]
        exact d2 k a (by omega)
theorem k_widenOneColumn (hG : Good T) (hL : zLk T) (hA : Ag T M) {u c : Int} (c0 : 0 ≤ c) (c1 : c < T 11 0 15) (hs : 1 ≤ zshows T c) {a : Nat} {j : Int} {w : Int → Int} (hw : zEq T (M a j) w) (hb : zWB T w) {Qm : Mem → Prop} (hq : Qm (up M a j (ztakes T c w) (w (ztakes T c w) + 1))) : wp_X8_widenOneColumn u c a j M Qm := by
  obtain ⟨-, k1, -, k2, -⟩ := hG.cell c c0 c1
  obtain ⟨l0, l1, l2, l3, l4, -⟩ := hL.cell c0 c1
  have hC := hG.nC
  have e1 := hA.s1
  have e2 := hA.s2
  have e12 := hA.s12
  have n12 := hL.n.1
  have t := ztakes_r hG w c0 c1 hs
  have hbt := hb (ztakes T c w) (by omega) (by omega)
  have hwt := hw (ztakes T c w) (by omega) (by omega)
  rw [← ztakes_congr hG hw c0 c1] at t hbt hq hwt
  unfold wp_X8_widenOneColumn
  rw [e1, l2]
  refine zLoop (σ := Int × Int) (fun n k s => wp_X8_widenOneColumn_11 u c a j Qm n s.1 s.2 k M) (fun k s => s = ztk T c (M a j) k) (s := (-1, -1)) (T 66 0 c + T 68 0 c) (by omega) (zF_self _ _ (by omega)).symm (fun n s hs' => ?_) (fun n k s a0 a1 hs' ih => ?_)
  · have et : (if ¬ s.1 = -1 then s.1 else s.2) = ztakes T c (M a j) := by rw [hs']; rfl
    simp only [wp_X8_widenOneColumn_11, wp_X8_widenOneColumn_121, e1, l2, l4, et]
    refine ⟨⟨by omega, by omega⟩, fun _ => ⟨fun h => absurd h (by omega), fun _ => ⟨fun h => absurd h (by omega), fun _ => ⟨⟨by omega, by omega⟩, by rw [hwt]; exact ⟨by omega, by omega⟩, ⟨by omega, by omega⟩, ?_⟩⟩⟩, fun h => absurd h (by omega)⟩
    intro N en
    rw [hwt] at en
    rw [en]; exact hq
  · obtain ⟨r1, -⟩ := ztk_r hG (M a j) c0 c1 a0
    rw [← hs'] at r1
    have es : ztk T c (M a j) (k + 1) = (if ¬ T 59 0 k = 0 then (ztk T c (M a j) k).1 else if T 56 0 k = 1 then (ztk T c (M a j) k).1 else if (ztk T c (M a j) k).1 = -1 then k else if (M a j) (ztk T c (M a j) k).1 ≤ (M a j) k then (ztk T c (M a j) k).1 else k, if T 59 0 k = 0 then k else (ztk T c (M a j) k).2) := zF_succ _ _ a0
    rw [← hs'] at es
    obtain ⟨m1, m2, -⟩ := hL.col (k := k) (by omega) (by omega)
    obtain ⟨s1, s2⟩ := s
    dsimp only at r1 es ⊢
    simp only [wp_X8_widenOneColumn_11, e1, e2, e12, l2, l4, n12, m1, m2]
    refine ⟨⟨by omega, by omega⟩, fun h => absurd h (by omega), fun _ => ⟨fun h => absurd h (by omega), fun _ => k_isShown hG hL hA (fun h => ⟨fun z => absurd z (by decide), fun _ => ?_⟩) (fun h => ⟨fun _ => ⟨⟨by omega, by omega⟩, ih (s1, s2) ?_⟩, fun z => absurd rfl z⟩)⟩⟩
    rw [e2, e12, n12, m1, m2]
    refine ⟨fun z => absurd z (by omega), fun _ => ⟨⟨by omega, by omega⟩, fun hf => ⟨⟨by omega, by omega⟩, ih (s1, k) ?_⟩, fun hf => ⟨fun hz => ⟨⟨by omega, by omega⟩, ih (k, k) ?_⟩, fun hz => ⟨⟨by omega, by omega⟩, ⟨by omega, by omega⟩, fun hle => ⟨⟨by omega, by omega⟩, ih (s1, k) ?_⟩, fun hlt => ⟨⟨by omega, by omega⟩, ih (k, k) ?_⟩⟩⟩⟩⟩
    · have : T 56 0 k = 1 := by
        by_cases q : T 56 0 k = 1
        · exact q
        · rw [if_neg q] at hf; exact absurd hf (by decide)
      rw [es, if_neg (by omega), if_pos this, if_pos h.2.2]
    · have : ¬ T 56 0 k = 1 := fun q => by rw [if_pos q] at hf; exact hf rfl
      rw [es, if_neg (by omega), if_neg this, if_pos hz, if_pos h.2.2]
    · have : ¬ T 56 0 k = 1 := fun q => by rw [if_pos q] at hf; exact hf rfl
      rw [es, if_neg (by omega), if_neg this, if_neg hz, if_pos hle, if_pos h.2.2]
    · have : ¬ T 56 0 k = 1 := fun q => by rw [if_pos q] at hf; exact hf rfl
      rw [es, if_neg (by omega), if_neg this, if_neg hz, if_neg (by omega), if_pos h.2.2]
    · have h9 : ¬ T 59 0 k = 0 := fun q => h ⟨by omega, by omega, q⟩
      rw [es, if_pos h9, if_neg h9]
theorem k_spread (hG : Good T) (hL : zLk T) (hA : Ag T M) {u : Int} {a : Nat} {j : Int} (ha : ∀ k, zin a k = false) {most : Int} {w : Int → Int} (hw : ∀ k, 0 ≤ k → k < 6 → M a j k = w k) (hb : zWB T w) {Qm : Mem → Prop} (hq : ∀ M', Fj (fun s i _ => s = a ∧ i = j) M M' → (∀ k, 0 ≤ k → k < 6 → M' a j k = zspr T most w 7 k) → Qm M') : wp_X8_spreadOverColumns u a j most M Qm := by
  have hK := hG.nK
  have hC := hG.nC
  have n14 := hL.n.2.2
  have hAg : ∀ N, Fj (fun s i _ => s = a ∧ i = j) M N → Ag T N := fun N f => f.ag hA (fun s i k z => by rw [z.1]; exact ha k)
  refine zLoop (fun n k N => wp_X8_spreadOverColumns_2 u a j most Qm n k N) (fun k N => Fj (fun s i _ => s = a ∧ i = j) M N ∧ ∀ i, 0 ≤ i → i < 6 → N a j i = zspr T most w k i) 7 (by omega) ⟨Fj.rf _ _, fun i a b => by rw [hw i a b]; unfold zspr; rw [zF_self _ _ (by omega)]⟩ (fun n N hN => ?_) (fun n y N y0 y1 hN ih => ?_)
  · exact ⟨fun _ => hq N hN.1 hN.2, fun h => absurd h (by omega)⟩
  · refine ⟨fun h => absurd h (by omega), fun _ => ?_⟩
    have hb' := zspr_r hG (most := most) hb (n := y) y0
    refine zLoop (fun n k N => wp_X8_spreadOverColumns_11 u a j most Qm (wp_X8_spreadOverColumns_2 u a j most Qm _) n y k N) (fun k N => Fj (fun s i _ => s = a ∧ i = j) M N ∧ ∀ i, 0 ≤ i → i < 6 → N a j i = zspr1 T most y (zspr T most w y) k i) (T 11 0 15) (by omega) ⟨hN.1, fun i a b => by rw [hN.2 i a b]; unfold zspr1; rw [zF_self _ _ (by omega)]⟩ (fun n1 N1 hN1 => ?_) (fun n1 c N1 c0 c1 hN1 ih1 => ?_)
    · have e14 := (hAg N1 hN1.1).s14
      refine ⟨fun _ => ⟨⟨by omega, by omega⟩, ih N1 ⟨hN1.1, fun i x1 x2 => ?_⟩⟩, fun h => absurd h (by rw [e14]; omega)⟩
      have e : zspr T most w (y + 1) = _ := zF_succ _ _ y0
      rw [hN1.2 i x1 x2, e]; rfl
    · have hA1 := hAg N1 hN1.1
      have e14 := hA1.s14
      have e1 := hA1.s1
      obtain ⟨l0, l1, l2, l3, l4, l7, l8, l9, l10, l11, l12, lw⟩ := hL.cell c0 c1
      have hb1 := zspr1_r hG (most := most) y0 hb' (n := c) c0 (by omega)
      have es : zspr1 T most y (zspr T most w y) (c + 1) = (if zshows T c = y then zgrow T c (zwant T most c - zacr T c (zspr1 T most y (zspr T most w y) c)).toNat (zspr1 T most y (zspr T most w y) c) else zspr1 T most y (zspr T most w y) c) := zF_succ _ _ c0
      have hwt := zwant_r hG most c0 c1
      have hr := zacr_r hG hb1 c0 c1
      refine ⟨fun h => absurd h (by rw [e14]; omega), fun _ => ?_⟩
      rw [e14, e1, n14, l0, l12]
      refine ⟨⟨by omega, by omega⟩, fun hs => ⟨⟨by omega, by omega⟩, ih1 N1 ⟨hN1.1, fun i x1 x2 => by rw [es, if_neg hs]; exact hN1.2 i x1 x2⟩⟩, fun hs => ?_⟩
      have hgo : wp_X8_spreadOverColumns_69 u a j most Qm (wp_X8_spreadOverColumns_2 u a j most Qm n) (wp_X8_spreadOverColumns_11 u a j most Qm (wp_X8_spreadOverColumns_2 u a j most Qm n) n1) y c c (zwant T most c) N1 := by
        refine k_widthOfCell hG hL hA1 c0 c1 (zEq.of hG hN1.2) hb1 ?_
        rw [zac2_eq _ (by omega)]
        refine ⟨⟨by omega, by omega⟩, ?_⟩
        -- so many steps
        have key : ∀ (m : Nat) (nn : Nat) (w1 : Int → Int) (N2 : Mem) (i : Int), 0 ≤ i → (zwant T most c - zacr T c (zspr1 T most y (zspr T most w y) c) - i).toNat = m → m < nn → i ≤ 3000 → (m : Int) ≤ zwant T most c - zacr T c w1 → Fj (fun s i _ => s = a ∧ i = j) M N2 → (∀ i, 0 ≤ i → i < 6 → N2 a j i = w1 i) → zWB T w1 → (∀ i, zgrow T c m w1 i = zgrow T c (zwant T most c - zacr T c (zspr1 T most y (zspr T most w y) c)).toNat (zspr1 T most y (zspr T most w y) c) i) → wp_X8_spreadOverColumns_89 u a j most Qm (wp_X8_spreadOverColumns_2 u a j most Qm n) (wp_X8_spreadOverColumns_11 u a j most Qm (wp_X8_spreadOverColumns_2 u a j most Qm n) n1) nn y c c (zwant T most c - zacr T c (zspr1 T most y (zspr T most w y) c)) i N2 := by
          intro m
          induction m with
          | zero =>
            intro nn w1 N2 i i0 hm hn i3 hmw f2 d2 b2 hg
            obtain ⟨nn, rfl⟩ : ∃ k, nn = k + 1 := ⟨nn - 1, by omega⟩
            refine ⟨fun _ => ⟨⟨by omega, by omega⟩, ih1 N2 ⟨f2, fun q x1 x2 => ?_⟩⟩, fun h => absurd h (by omega)⟩
            rw [es, if_pos hs, ← hg q]
            exact d2 q x1 x2
          | succ m ihm =>
            intro nn w1 N2 i i0 hm hn i3 hmw f2 d2 b2 hg
            obtain ⟨nn, rfl⟩ : ∃ k, nn = k + 1 := ⟨nn - 1, by omega⟩
            refine ⟨fun h => absurd h (by omega), fun _ => k_widenOneColumn hG hL (hAg N2 f2) c0 c1 (by omega) (zEq.of hG d2) b2 ⟨⟨by omega, by omega⟩, ?_⟩⟩
            refine ihm nn (zstep T c w1) _ (i + 1) (by omega) (by omega) (by omega) (by omega) (by rw [zacr_step hG c0 c1 (by omega)]; omega) (f2.up ⟨rfl, rfl⟩) (fun q x1 x2 => ?_) (zWB_step hG b2 c0 c1 (by omega) (by omega)) hg
            rw [up_at]
            show (if a = a ∧ j = j ∧ q = ztakes T c w1 then w1 (ztakes T c w1) + 1 else N2 a j q) = (if q = ztakes T c w1 then w1 (ztakes T c w1) + 1 else w1 q)
            rw [d2 q x1 x2]
            simp only [true_and]
        refine ⟨(zwant T most c - zacr T c (zspr1 T most y (zspr T most w y) c)).toNat + 1, ?_⟩
        by_cases hpos : 0 ≤ zwant T most c - zacr T c (zspr1 T most y (zspr T most w y) c)
        · exact key _ _ _ N1 0 (Int.le_refl _) (by rw [Int.sub_zero]) (by omega) (by omega) (by omega) hN1.1 hN1.2 hb1 (fun i => rfl)
        · refine ⟨fun _ => ⟨⟨by omega, by omega⟩, ih1 N1 ⟨hN1.1, fun q x1 x2 => ?_⟩⟩, fun h => absurd h (by omega)⟩
          rw [es, if_pos hs, show (zwant T most c - zacr T c (zspr1 T most y (zspr T most w y) c)).toNat = 0 by omega]
          exact hN1.2 q x1 x2
      refine ⟨fun hm => k_leastByWords hG hL hA1 c0 c1 ?_, fun hm => k_mostByWords hG hL hA1 c0 c1 ?_⟩
      · have e : zwant T most c = zleast T c := if_pos hm
        rw [← e]; exact hgo
      · have e : zwant T most c = zmost T c := if_neg hm
        rw [← e]; exact hgo
end CT
