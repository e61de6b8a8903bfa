/-! the pure part: the least height, in the class -/
section ZA
variable {T M : Mem}
theorem k_takeLeast (hG : Good T) (hL : zLk T) (hA : Ag T M) (hW : zWK T 1 M) (h51 : ∀ k, 0 ≤ k → k < T 11 0 4 → M 51 1 k = zwid T k) {Qm : Mem → Prop} (hq : ∀ M', Fj (fun s j _ => s = 46 ∨ (s = 51 ∧ j = 1)) M M' → (∀ k, 0 ≤ k → k < 6 → M' 46 0 k = zbs T k) → zEq T (M' 51 1) (znar T) → Qm M') : wp_X7_takeLeastWidths M Qm := by
  have hC := hG.nC
  have hz : ∀ s (j k : Int), (s = 46 ∨ (s = 51 ∧ j = 1)) → zin s k = false := fun s j k z => by
    rcases z with z | z
    · rw [z]; rfl
    · rw [z.1]; rfl
  refine zLoop (fun n k N => wp_X7_takeLeastWidths_2 Qm n k N) (fun y N => Fj (fun s j _ => s = 46 ∨ (s = 51 ∧ j = 1)) M N ∧ (∀ k, 0 ≤ k → k < y → N 46 0 k = zbs T k) ∧ (∀ k, 0 ≤ k → k < T 11 0 4 → N 51 1 k = if k < y then znar T k else zwid T k)) 6 (by omega) ⟨Fj.rf _ _, fun k a b => absurd b (by omega), fun k a b => by rw [if_neg (by omega)]; exact h51 k a b⟩ (fun n N hN => ?_) (fun n y N y0 y1 hN ih => ?_)
  · obtain ⟨f, d, e⟩ := hN
    exact ⟨fun _ => hq N f d (fun k a b => by rw [e k a b, if_pos (by omega)]), fun z => absurd z (by omega)⟩
  · obtain ⟨f, d, e⟩ := hN
    refine ⟨fun z => absurd z (by omega), fun _ => ⟨⟨by omega, by omega⟩, ?_⟩⟩
    intro N2 e2
    have f2 : Fj (fun s j _ => s = 46 ∨ (s = 51 ∧ j = 1)) M N2 := by rw [e2]; exact f.up (Or.inl rfl)
    have n49 : N2 49 1 y = M 49 1 y := f2 49 1 y (fun z => by omega)
    have n50 : N2 50 1 y = M 50 1 y := f2 50 1 y (fun z => by omega)
    have n46 : N2 46 0 y = 1 := by rw [e2, up_eq]
    refine k_isShownContent hG hL (f2.ag hA hz) (fun ho => ⟨fun z => absurd z (by decide), fun _ => ⟨⟨by omega, by omega⟩, ⟨by omega, by omega⟩, ?_⟩⟩) (fun ho => ⟨fun _ => ⟨⟨by omega, by omega⟩, ih N2 ⟨f2, fun k a b => ?_, fun k a b => ?_⟩⟩, fun z => absurd rfl z⟩)
    · intro N3 e3
      obtain ⟨w1, w2, -⟩ := hW y y0 ho.2.1
      have hs := zls_r hG y0 ho.2.1
      have m49 : N3 49 1 y = zls T y := by rw [e3, up_s _ _ _ _ (by decide), n49, w1]
      have m50 : N3 50 1 y = zms T y := by rw [e3, up_s _ _ _ _ (by decide), n50, w2]
      have m46 : N3 46 0 y = 1 := by rw [e3, up_s _ _ _ _ (by decide), n46]
      have f3 : Fj (fun s j _ => s = 46 ∨ (s = 51 ∧ j = 1)) M N3 := by rw [e3]; exact f2.up (Or.inr ⟨rfl, rfl⟩)
      rw [m49, m50, m46]
      refine ⟨⟨by omega, by omega⟩, ⟨by omega, by omega⟩, ⟨by omega, by omega⟩, ⟨by omega, by omega⟩, ⟨by omega, by omega⟩, ⟨by omega, by omega⟩, ?_⟩
      intro N4 e4
      refine ⟨⟨by omega, by omega⟩, ih N4 ⟨by rw [e4]; exact f3.up (Or.inl rfl), fun k a b => ?_, fun k a b => ?_⟩⟩
      · by_cases ek : k = y
        · rw [ek, e4, up_eq]
          exact (if_pos ho).symm
        · rw [e4, up_k _ _ _ _ _ _ ek, e3, up_s _ _ _ _ (by decide), e2, up_k _ _ _ _ _ _ ek]
          exact d k a (by omega)
      · rw [e4, up_s _ _ _ _ (by decide), e3]
        by_cases ek : k = y
        · rw [ek, up_eq, if_pos (by omega), n49, w1, znar_op1 hG y0 ho.2.1 ho.2.2]
        · rw [up_k _ _ _ _ _ _ ek, e2, up_s _ _ _ _ (by decide), e k a b]
          by_cases z : k < y
          · rw [if_pos z, if_pos (by omega)]
          · rw [if_neg z, if_neg (by omega)]
    · by_cases ek : k = y
      · rw [ek, n46]
        exact (zbs_1 ho).symm
      · rw [e2, up_k _ _ _ _ _ _ ek]
        exact d k a (by omega)
    · rw [e2, up_s _ _ _ _ (by decide), e k a b]
      by_cases ek : k = y
      · rw [if_neg (by omega), if_pos (by omega)]
        refine zwid_shut hC.1 ?_
        rcases zopen_r T k with z | z
        · exact z
        · exact absurd ⟨y0, by omega, by rw [← ek]; exact z⟩ ho
      · by_cases z : k < y
        · rw [if_pos z, if_pos (by omega)]
        · rw [if_neg z, if_neg (by omega)]
theorem k_countChoices (hG : Good T) (h46 : ∀ k, 0 ≤ k → k < 6 → M 46 0 k = zbs T k) {Qm : Int → Mem → Prop} (hq : zpr T 6 ≤ 531441 → Qm (zpr T 6) M) : wp_X7_countChoices M Qm := by
  refine zLoop (fun n k v => wp_X7_countChoices_4 Qm n v k M) (fun k v => v = zpr T k.toNat ∧ 1 ≤ v ∧ ((k = 0 ∧ v ≤ 1) ∨ (k = 1 ∧ v ≤ 9) ∨ (k = 2 ∧ v ≤ 81) ∨ (k = 3 ∧ v ≤ 729) ∨ (k = 4 ∧ v ≤ 6561) ∨ (k = 5 ∧ v ≤ 59049) ∨ (k = 6 ∧ v ≤ 531441))) 6 (by omega) ⟨rfl, by omega, Or.inl ⟨rfl, by omega⟩⟩ (fun n v hv => ?_) (fun n y v y0 y1 hv ih => ?_)
  · obtain ⟨v1, v2, v3⟩ := hv
    have v1 : v = zpr T 6 := v1
    refine ⟨fun _ => ?_, fun z => absurd z (by omega)⟩
    rw [v1]
    exact hq (by omega)
  · obtain ⟨v1, v2, v3⟩ := hv
    have hb := zbs_r hG y
    have p1 : v * 1 ≤ v * zbs T y := Int.mul_le_mul_of_nonneg_left hb.1 (by omega)
    have p2 : v * zbs T y ≤ v * 9 := Int.mul_le_mul_of_nonneg_left hb.2 (by omega)
    refine ⟨fun z => absurd z (by omega), fun _ => ?_⟩
    rw [h46 y y0 y1]
    refine ⟨⟨by omega, by omega⟩, ⟨by omega, by omega⟩, ⟨by omega, by omega⟩, ih _ ⟨?_, by omega, by omega⟩⟩
    rw [show (y + 1).toNat = y.toNat + 1 by omega, v1]
    show zpr T y.toNat * zbs T y = zpr T y.toNat * zbs T ((y.toNat : Nat) : Int)
    rw [show ((y.toNat : Nat) : Int) = y by omega]
theorem k_chooseExtras (hG : Good T) {n : Int} (n0 : 0 ≤ n) (h46 : ∀ k, 0 ≤ k → k < 6 → M 46 0 k = zbs T k) {Qm : Int → Mem → Prop} (hq : ∀ M', Fj (fun s _ _ => s = 47) M M' → (∀ k, 0 ≤ k → k < 6 → M' 47 0 k = zdgt T n k) → Qm (zsx T n) M') : wp_X7_chooseExtras n M Qm := by
  refine zLoop (σ := Int × Int × Mem) (fun f k s => wp_X7_chooseExtras_7 n Qm f s.1 s.2.1 k s.2.2) (fun y s => s.1 = zqt T n y.toNat ∧ s.2.1 = zS (zdgt T n) 0 y ∧ Fj (fun s _ _ => s = 47) M s.2.2 ∧ ∀ k, 0 ≤ k → k < y → s.2.2 47 0 k = zdgt T n k) (s := (n, 0, M)) 6 (by omega) ⟨rfl, (zS_self _ (by omega)).symm, Fj.rf _ _, fun k a b => absurd b (by omega)⟩ (fun f s hs => ?_) (fun f y s y0 y1 hs ih => ?_)
  · obtain ⟨q, v, N⟩ := s
    obtain ⟨eq, ev, fN, dN⟩ := hs
    dsimp only at eq ev fN dN ⊢
    refine ⟨fun _ => ?_, fun z => absurd z (by omega)⟩
    rw [ev]
    exact hq N fN dN
  · obtain ⟨q, v, N⟩ := s
    obtain ⟨eq, ev, fN, dN⟩ := hs
    dsimp only at eq ev fN dN ⊢
    have hb := zbs_r hG y
    have em : max 1 (N 46 0 y) = zbs T y := by
      rw [fN 46 0 y (by omega), h46 y y0 y1]; omega
    have hqn := zqt_nn hG n0 y.toNat
    have ed : Int.tmod q (zbs T y) = zdgt T n y := by
      rw [eq, Int.tmod_eq_emod_of_nonneg hqn]; rfl
    have hd := zdgt_r (n := n) hG y
    have hv := zsx_r hG n y0
    refine ⟨fun z => absurd z (by omega), fun _ => ?_⟩
    rw [em, ed]
    refine ⟨⟨by omega, by omega⟩, by omega, ⟨by omega, by omega⟩, ?_⟩
    intro N2 e2
    have e47 : N2 47 0 y = zdgt T n y := by rw [e2, up_eq]
    rw [e47]
    refine ⟨by omega, ⟨by omega, by omega⟩, by rw [ev]; exact ⟨by omega, by omega⟩, ⟨by omega, by omega⟩, ih (_, _, N2) ⟨?_, ?_, ?_, fun k a b => ?_⟩⟩
    · show Int.tdiv q (zbs T y) = zqt T n (y + 1).toNat
      rw [show (y + 1).toNat = y.toNat + 1 by omega, eq, Int.tdiv_eq_ediv_of_nonneg hqn]
      show zqt T n y.toNat / zbs T y = zqt T n y.toNat / zbs T ((y.toNat : Nat) : Int)
      rw [show ((y.toNat : Nat) : Int) = y by omega]
    · show v + zdgt T n y = zS (zdgt T n) 0 (y + 1)
      rw [zS_succ _ y0, ev]
    · show Fj (fun s _ _ => s = 47) M N2
      rw [e2]; exact fN.up rfl
    · show N2 47 0 k = zdgt T n k
      by_cases ek : k = y
      · rw [ek]; exact e47
      · rw [e2, up_k _ _ _ _ _ _ ek]; exact dN k a (by omega)
/-- the lines of a cell in a width -/
def zlin (T : Mem) (c w : Int) : Int := if ¬ T 73 0 c = 0 then 1 else (zwl T c w (T 72 0 c)).1
/-- what is kept of lines found -/
def zMO (T M : Mem) : Prop := ∀ c e, 0 ≤ c → c < T 11 0 15 → 0 ≤ e → e ≤ 24 → M 48 0 (c * 25 + e) = -1 ∨ M 48 0 (c * 25 + e) = zlin T c (zac2 T c (znar T) + e)
theorem zMO.fr {M' : Mem} (hx : zMO T M) (f : ∀ k, M' 48 0 k = M 48 0 k) : zMO T M' := fun c e a b x y => by rw [f]; exact hx c e a b x y
theorem k_linesOfCell (hG : Good T) (hL : zLk T) (hA : Ag T M) (h3 : zcont T ≤ 3) {n c : Int} (c0 : 0 ≤ c) (c1 : c < T 11 0 15) (hs : ¬ zshows T c = 0) (h47 : ∀ k, 0 ≤ k → k < 6 → M 47 0 k = zdgt T n k) (h51 : zEq T (M 51 1) (znar T)) (hm : zMO T M) {Qm : Int → Mem → Prop} (hq : ∀ M', Fj (fun s _ _ => s = 48) M M' → zMO T M' → Qm (zlinesW T (zwc T n) c) M') : wp_X7_linesOfCell c c M Qm := by
  have hC := hG.nC
  have hKn := hG.nK
  have e1 := hA.s1
  obtain ⟨w1, w2, w3, w4, -⟩ := hG.cell c c0 c1
  obtain ⟨l0, l1, l2, l3, l4, -⟩ := hL.cell c0 c1
  have hsh := zshows_r hG c0 c1
  have hnr : zWB T (znar T) := fun k a b => znar_r hG a b
  have ew : zac2 T c (znar T) + zex T n c = zacr T c (zwc T n) := by
    rw [zac2_n hG, zac2_eq _ (by omega)]
  have hw5 := (zacr_r hG (zwc_r hG n) c0 c1).2
  have hw0 := (zacr_r hG hnr c0 c1)
  have hz0 := zac2_eq (T := T) (c := c) (znar T) (by omega)
  have eL : zlinesW T (zwc T n) c = zlin T c (zac2 T c (znar T) + zex T n c) := by
    unfold zlinesW zlin
    rw [if_neg hs, ew]
  have hx := zex_r hG h3 n c0 c1 (k := T 66 0 c + T 68 0 c) (by omega) (Int.le_refl _)
  have hx : 0 ≤ zex T n c ∧ zex T n c ≤ 24 := hx
  -- behind the loop
  have hgo : wp_X7_linesOfCell_45 c c Qm (zex T n c) M := by
    refine ⟨⟨by omega, by omega⟩, ⟨by omega, by omega⟩, fun z => absurd z (by omega), fun _ => ⟨fun _ => ⟨⟨by omega, by omega⟩, fun hk => ?_, fun hk => ?_⟩, fun z => absurd z (by omega)⟩⟩
    · refine ⟨⟨by omega, by omega⟩, ?_⟩
      rcases hm c (zex T n c) c0 c1 hx.1 hx.2 with z | z
      · exact absurd z hk
      · rw [z, ← eL]
        exact hq M (Fj.rf _ _) hm
    · refine k_widthOfCell hG hL hA c0 c1 h51 hnr ⟨⟨by omega, by omega⟩, ?_⟩
      refine k_linesAt hG hL hA c0 c1 (by omega) ⟨⟨by omega, by omega⟩, ?_⟩
      intro N e
      refine ⟨⟨by omega, by omega⟩, ?_⟩
      have ev : N 48 0 (c * 25 + zex T n c) = zlin T c (zac2 T c (znar T) + zex T n c) := by rw [e, up_eq]; rfl
      rw [ev, ← eL]
      refine hq N (by rw [e]; exact (Fj.rf _ _).up rfl) (fun i x i0 i1 x0 x1 => ?_)
      by_cases ei : i = c ∧ x = zex T n c
      · rw [ei.1, ei.2]; exact Or.inr ev
      · rw [e, up_k _ _ _ _ _ _ (by omega)]
        exact hm i x i0 i1 x0 x1
  have := zLoop (fun f k v => wp_X7_linesOfCell_8 c c Qm f v k M) (fun k v => v = zS (zdgt T n) (T 66 0 c) k) (a := T 66 0 c) (s := 0) (T 66 0 c + T 68 0 c) (by omega) (zS_self _ (by omega)).symm (fun f v hv => ?_) (fun f y v y0 y1 hv ih => ?_)
  · unfold wp_X7_linesOfCell
    rw [e1, l2]
    exact this
  · show wp_X7_linesOfCell_8 c c Qm (f + 1) v (T 66 0 c + T 68 0 c) M
    simp only [wp_X7_linesOfCell_8, e1, l2, l4]
    refine ⟨⟨by omega, by omega⟩, fun _ => ?_, fun z => absurd z (by omega)⟩
    rw [hv]
    exact hgo
  · show wp_X7_linesOfCell_8 c c Qm (f + 1) v y M
    have hb := zex_r hG h3 n c0 c1 y0 (by omega)
    have hd := zdgt_r (n := n) hG y
    have hbb := zbs_r hG y
    simp only [wp_X7_linesOfCell_8, e1, l2, l4]
    refine ⟨⟨by omega, by omega⟩, fun z => absurd z (by omega), fun _ => ⟨fun z => absurd z (by omega), fun _ => ?_⟩⟩
    rw [h47 y (by omega) (by omega)]
    exact ⟨⟨by omega, by omega⟩, by rw [hv]; exact ⟨by omega, by omega⟩, ⟨by omega, by omega⟩, ih _ (by rw [zS_succ _ y0, hv])⟩
/-- what a choice writes on -/
def zCX : Nat → Int → Int → Prop := fun s j _ => s = 47 ∨ s = 48 ∨ ((s = 34 ∨ s = 35) ∧ j = 1)
theorem zCX_in : ∀ s j k, zCX s j k → zin s k = false := by
  intro s j k hz
  simp only [zCX] at hz
  simp only [zin, Bool.or_eq_false_iff, Bool.and_eq_false_iff, decide_eq_false_iff_not]
  omega
theorem zCX_q : ∀ s j k, zCX s j k → zQ2 s j k := by
  intro s j k hz
  simp only [zCX] at hz
  simp only [zQ2]
  omega
theorem k_heightOfChoice (hG : Good T) (hL : zLk T) (hA : Ag T M) (h3 : zcont T ≤ 3) {n : Int} (h47 : ∀ k, 0 ≤ k → k < 6 → M 47 0 k = zdgt T n k) (h51 : zEq T (M 51 1) (znar T)) (hm : zMO T M) {Qm : Int → Mem → Prop} (hq : ∀ M', Fj zCX M M' → zMO T M' → Qm (zHn T n) M') : wp_X7_heightOfChoice M Qm := by
  have hKn := hG.nK
  have n14 := hL.n.2.2
  have hB := zwc_r hG n
  refine zLoop (fun f k N => wp_X7_heightOfChoice_2 Qm f k N) (fun y N => Fj (fun s j _ => s = 48 ∨ (s = 34 ∧ j = 1)) M N ∧ zMO T N ∧ ∀ c, 0 ≤ c → c < y → N 34 1 c = zlinesW T (zwc T n) c) (T 11 0 15) hKn.1 ⟨Fj.rf _ _, hm, fun c a b => absurd b (by omega)⟩ (fun f N hN => ?_) (fun f y N y0 y1 hN ih => ?_)
  · obtain ⟨fN, mN, dN⟩ := hN
    have gN : Fj zCX M N := fN.mono (fun s j k z => by unfold zCX; omega)
    have hAN := gN.ag hA zCX_in
    have e14 := hAN.s14
    refine ⟨fun _ => ?_, fun z => absurd z (by rw [e14]; omega)⟩
    refine k_stackRows hG hL hAN hB dN (fun M2 f2 d2 => ?_)
    have g2 : Fj zCX M M2 := gN.tr (f2.mono (fun s j k z => by unfold zCX; omega))
    refine k_heightOfPart hG hL (g2.ag hA zCX_in) (by omega) (by omega) (zht_r hG hB) d2 ?_
    exact hq M2 g2 (mN.fr (fun k => f2 48 0 k (fun z => by omega)))
  · obtain ⟨fN, mN, dN⟩ := hN
    have gN : Fj zCX M N := fN.mono (fun s j k z => by unfold zCX; omega)
    have hAN := gN.ag hA zCX_in
    have e14 := hAN.s14
    obtain ⟨l0, -⟩ := hL.cell y0 y1
    have hdone : ∀ N1, Fj (fun s _ _ => s = 48) N N1 → zMO T N1 → ∀ v, v = zlinesW T (zwc T n) y → wp_X7_heightOfChoice_62 Qm (wp_X7_heightOfChoice_2 Qm f) y v y N1 := fun N1 f1 m1 v ev => by
      refine ⟨⟨by omega, by omega⟩, ?_⟩
      intro N2 e2
      have f12 : Fj (fun s j _ => s = 48 ∨ (s = 34 ∧ j = 1)) M N1 := fN.tr (f1.mono (fun s j k z => Or.inl z))
      refine ⟨⟨by omega, by omega⟩, ih N2 ⟨by rw [e2]; exact f12.up (Or.inr ⟨rfl, rfl⟩), m1.fr (fun k => by rw [e2, up_s _ _ _ _ (by decide)]), fun c c0 c1 => ?_⟩⟩
      by_cases hc : c = y
      · rw [hc, e2, up_eq, ev]
      · rw [e2, up_k _ _ _ _ _ _ hc, f1 34 1 c (by omega)]; exact dN c c0 (by omega)
    refine ⟨fun z => absurd z (by rw [e14]; omega), fun _ => ⟨fun z => absurd z (by omega), fun _ => ?_⟩⟩
    rw [e14, n14, l0]
    refine ⟨⟨by omega, by omega⟩, k_isOut hL hAN y0 y1 (fun hz => ⟨fun z => absurd z (by decide), fun _ => hdone N (Fj.rf _ _) mN _ ?_⟩) (fun hz => ⟨fun _ => k_linesOfCell hG hL hAN h3 y0 y1 hz (fun k a b => ?_) (fun k a b => ?_) mN (fun M' f' m' => hdone M' f' m' _ rfl), fun z => absurd rfl z⟩)⟩
    · unfold zlinesW; rw [if_pos hz]
    · rw [fN 47 0 k (fun z => by omega)]; exact h47 k a b
    · rw [fN 51 1 k (fun z => by omega)]; exact h51 k a b
theorem k_leastOfAll (hG : Good T) (hL : zLk T) (hA : Ag T M) (h3 : zcont T ≤ 3) {Qm : Int → Mem → Prop} (hq : ∀ M', Fj zQ2 M M' → Qm (zLst T (zpr T 6)) M') : wp_X7_leastOfAllWidths (T 11 0 24) M Qm := by
  have hC := hG.nC
  have hnr : zWB T (znar T) := fun k a b => znar_r hG a b
  have hrr := zrest_r hG
  refine k_solve hG hL hA (fun M1 f1 w1 d1 => ?_)
  have g1 : Fj zQ2 M M1 := f1.mono (fun s j k z => Or.inr (Or.inr (Or.inr (Or.inl ⟨Or.inr ⟨z.1, z.2.1⟩, z.2.2⟩))))
  refine k_takeLeast hG hL (g1.ag hA zQ2_in) w1 d1 (fun M2 f2 h46 h51 => ?_)
  have g2 : Fj zQ2 M M2 := g1.tr (f2.mono (fun s j k z => by unfold zQ2; omega))
  refine k_fill 48 0 (-1) (fun M3 f3 d3 => ?_)
  have g3 : Fj zQ2 M M3 := g2.tr (f3.mono (fun s j k z => by unfold zQ2; omega))
  have hA3 := g3.ag hA zQ2_in
  have k46 : ∀ k, 0 ≤ k → k < 6 → M3 46 0 k = zbs T k := fun k a b => by rw [f3 46 0 k (by omega)]; exact h46 k a b
  have k51 : zEq T (M3 51 1) (znar T) := fun k a b => by rw [f3 51 1 k (by omega)]; exact h51 k a b
  have hKn := hG.nK
  have m3 : zMO T M3 := fun c e c0 c1 e0 e1 => Or.inl (d3 _ (by omega) (by have : alen 48 = 2500 := rfl; omega))
  refine k_widthTogether hG hL hA3 k51 hnr ?_
  rw [zsumw_sh hG (fun k h => znar_hid h)]
  have er : T 11 0 24 - zsumw T (znar T) = zrest T := rfl
  rw [er]
  refine ⟨⟨by omega, by omega⟩, k_countChoices hG k46 (fun hB => ?_)⟩
  have hB1 := zpr_pos hG 6
  refine zLoop (σ := Int × Mem) (fun f k s => wp_X7_leastOfAllWidths_48 (T 11 0 24) Qm f (zrest T) (zpr T 6) s.1 k s.2) (fun y s => s.1 = zLst T y ∧ Fj zCX M3 s.2 ∧ zMO T s.2) (s := (0, M3)) (zpr T 6) (by omega) ⟨(zF_self _ _ (by omega)).symm, Fj.rf _ _, m3⟩ (fun f s hs => ?_) (fun f y s y0 y1 hs ih => ?_)
  · obtain ⟨v, N⟩ := s
    obtain ⟨ev, fN, mN⟩ := hs
    dsimp only at ev fN mN ⊢
    refine ⟨fun _ => ?_, fun z => absurd z (by omega)⟩
    rw [ev]
    exact hq N (g3.tr (fN.mono zCX_q))
  · obtain ⟨v, N⟩ := s
    obtain ⟨ev, fN, mN⟩ := hs
    dsimp only at ev fN mN ⊢
    refine ⟨fun z => absurd z (by omega), fun _ => k_chooseExtras hG y0 (fun k a b => ?_) (fun N1 f1 d1 => ?_)⟩
    · rw [fN 46 0 k (fun z => by unfold zCX at z; omega)]; exact k46 k a b
    · have fN1 : Fj zCX M3 N1 := fN.tr (f1.mono (fun s j k z => Or.inl z))
      have mN1 : zMO T N1 := mN.fr (fun k => f1 48 0 k (by omega))
      have n51 : zEq T (N1 51 1) (znar T) := fun k a b => by rw [fN1 51 1 k (fun z => by unfold zCX at z; omega)]; exact k51 k a b
      have hnext : ∀ N2 u, Fj zCX N1 N2 → zMO T N2 → u = zLst T (y + 1) → wp_X7_leastOfAllWidths_94 (T 11 0 24) Qm (wp_X7_leastOfAllWidths_48 (T 11 0 24) Qm f) (zrest T) (zpr T 6) u y N2 := fun N2 u f2 m2 eu => ⟨⟨by omega, by omega⟩, ih (u, N2) ⟨eu, fN1.tr f2, m2⟩⟩
      have htry : (zsx T y ≤ zrest T ∨ y = 0) → wp_X7_leastOfAllWidths_69 (T 11 0 24) Qm (wp_X7_leastOfAllWidths_48 (T 11 0 24) Qm f) (zrest T) (zpr T 6) v y N1 := fun hy => by
        refine k_heightOfChoice hG hL (fN1.ag hA3 zCX_in) h3 d1 n51 mN1 (fun N2 f2 m2 => ⟨fun z => hnext N2 _ f2 m2 ?_, fun z => hnext N2 _ f2 m2 ?_⟩)
        · rw [zLst_succ y0, if_neg z, if_pos (by omega), ev]
        · rw [zLst_succ y0, if_pos z, z]
      refine ⟨fun hx => htry (Or.inl hx), fun hx => ⟨fun hy => hnext N1 _ (Fj.rf _ _) mN1 ?_, fun hy => htry (Or.inr hy)⟩⟩
      rw [zLst_succ y0, if_neg hy, if_neg (by omega), ev]
theorem k_countContent (hG : Good T) (hL : zLk T) (hA : Ag T M) {Qm : Int → Mem → Prop} (hq : Qm (zcont T) M) : wp_X3_countContentColumns M Qm := by
  have hC := hG.nC
  have e12 := hA.s12
  have n12 := hL.n.1
  refine zCount (fun n k v => wp_X3_countContentColumns_4 Qm n v k M) (fun s k => s + zopen T k) 0 0 (T 11 0 4) hC.1 (fun n => ?_) (fun n k k0 k1 ih => ?_)
  · show wp_X3_countContentColumns_4 Qm (n + 1) (zcont T) (T 11 0 4) M
    simp only [wp_X3_countContentColumns_4, e12, n12]
    exact ⟨fun _ => hq, fun z => absurd z (by omega)⟩
  · have hb := zS_bd (f := zopen T) (a := 0) (b := k) 0 1 k0 (fun i _ _ => by rcases zopen_r T i with z | z <;> omega)
    have eb : zF (fun s k => s + zopen T k) 0 0 k = zS (zopen T) 0 k := rfl
    rw [eb] at ih ⊢
    simp only [wp_X3_countContentColumns_4, e12, n12]
    refine ⟨fun z => absurd z (by omega), fun _ => k_isShownContent hG hL hA (fun ho => ?_) (fun ho => ?_)⟩
    · rw [ho.2.2] at ih
      rw [if_neg (by decide)]
      exact ⟨⟨by omega, by omega⟩, ⟨by omega, by omega⟩, ih⟩
    · have e0 : zopen T k = 0 := by
        rcases zopen_r T k with z | z
        · exact z
        · exact absurd ⟨k0, k1, z⟩ ho
      rw [e0] at ih
      rw [if_pos rfl]
      exact ⟨⟨by omega, by omega⟩, ⟨by omega, by omega⟩, ih⟩
end ZA
