/-! the pure part: the least height, in the reference, and the call -/
section ZB
variable {T M : Mem} {O : zSt} {κ : Nat → Int} {K : (Nat → Int) → Mem → Prop}
def z84 : Nat → Int → Bool := fun s _ => decide (84 ≤ s) && decide (s ≤ 85)
theorem z84_in : ∀ s k, zin s k = true → z84 s k = false := by
  intro s k hz
  simp only [zin, Bool.or_eq_true, Bool.and_eq_true, decide_eq_true_eq] at hz
  simp only [z84, Bool.and_eq_false_iff, decide_eq_false_iff_not]
  omega
theorem z84_W : ∀ s k, zW s k = false → z84 s k = false := by
  intro s k hz
  simp only [zW, Bool.and_eq_false_iff, decide_eq_false_iff_not] at hz
  simp only [z84, Bool.and_eq_false_iff, decide_eq_false_iff_not]
  omega
theorem q_goesOn (hG : Good T) (hA : Ag T M) {n : Int} (n0 : 0 ≤ n) (n1 : n < zpr T 6) (h82 : ∀ k, 0 ≤ k → k < T 11 0 4 → M 82 0 k = zls T k ∧ M 83 0 k = zms T k) (h84 : zEq T (M 84 0) (zwc T n)) {Qm : Int → Mem → Prop} (hy : n + 1 < zpr T 6 → ∀ M', Fr z84 M M' → zEq T (M' 84 0) (zwc T (n + 1)) → Qm 1 M') (hn : n + 1 = zpr T 6 → ∀ M', Fr z84 M M' → Qm 0 M') : wp_X10_goesOn M Qm := by
  have hC := hG.nC
  refine zLoop (fun f k N => wp_X10_goesOn_2 Qm f k N) (fun y N => Fr z84 M N ∧ (∀ i, 0 ≤ i → i < y → zdgt T n i = zbs T i - 1) ∧ (∀ i, 0 ≤ i → i < T 11 0 4 → N 84 0 i = if i < y then znar T i else zwc T n i)) (T 11 0 4) hC.1 ⟨Fr.rf _ _, fun i a b => absurd b (by omega), fun i a b => by rw [if_neg (by omega)]; exact h84 i a b⟩ (fun f N hN => ?_) (fun f y N y0 y1 hN ih => ?_)
  · obtain ⟨fN, dN, wN⟩ := hN
    have f4 := (fN.ag hA z84_in).f4
    refine ⟨fun _ => hn (znx_last hG n0 n1 (fun i a b => ?_)) N fN, fun z => absurd z (by rw [f4]; omega)⟩
    by_cases z : i < T 11 0 4
    · exact dN i a z
    · rw [zdgt_1 hG (by omega), zbs_1 (by omega)]; omega
  · obtain ⟨fN, dN, wN⟩ := hN
    have hAN := fN.ag hA z84_in
    have f4 := hAN.f4
    refine ⟨fun z => absurd z (by rw [f4]; omega), fun _ => q_isOpen hG hAN y0 y1 ⟨fun ho => ⟨⟨by omega, by omega⟩, ih N ⟨fN, fun i a b => ?_, fun i a b => ?_⟩⟩, fun ho => ?_⟩⟩
    · by_cases e : i = y
      · rw [e, zdgt_1 hG (fun z => by omega), zbs_1 (fun z => by omega)]; omega
      · exact dN i a (by omega)
    · rw [wN i a b]
      by_cases e : i = y
      · rw [if_neg (by omega), if_pos (by omega), zwc_shut hG n (fun z => by rw [e] at z; omega)]
      · by_cases z : i < y
        · rw [if_pos z, if_pos (by omega)]
        · rw [if_neg z, if_neg (by omega)]
    · have ho : zopen T y = 1 := by
        rcases zopen_r T y with z | z
        · exact absurd z ho
        · exact z
      have hs := zls_r hG y0 y1
      obtain ⟨o1, o2, o3, o4⟩ := zwc_open hG n y0 y1 ho
      have hd := zdgt_r (n := n) hG y
      have n82 : N 82 0 y = zls T y := by rw [fN 82 0 y rfl]; exact (h82 y y0 y1).1
      have n83 : N 83 0 y = zms T y := by rw [fN 83 0 y rfl]; exact (h82 y y0 y1).2
      have n84 : N 84 0 y = zls T y + zdgt T n y := by rw [wN y y0 y1, if_neg (by omega), o1]
      have hover : zdgt T n y = zbs T y - 1 → wp_X10_goesOn_63 Qm (wp_X10_goesOn_2 Qm f) y N := fun e => by
        refine ⟨⟨by omega, by omega⟩, ⟨by omega, by omega⟩, ?_⟩
        intro N2 e2
        refine ⟨⟨by omega, by omega⟩, ih N2 ⟨by rw [e2]; exact fN.up rfl, fun i a b => ?_, fun i a b => ?_⟩⟩
        · by_cases ei : i = y
          · rw [ei]; exact e
          · exact dN i a (by omega)
        · by_cases ei : i = y
          · rw [ei, if_pos (by omega), e2, up_eq, n82, znar_op1 hG y0 y1 ho]
          · rw [e2, up_k _ _ _ _ _ _ ei, wN i a b]
            by_cases z : i < y
            · rw [if_pos z, if_pos (by omega)]
            · rw [if_neg z, if_neg (by omega)]
      rw [n82, n83, n84]
      refine ⟨⟨by omega, by omega⟩, ⟨by omega, by omega⟩, fun z => hover (by omega), fun z => ⟨⟨by omega, by omega⟩, ⟨by omega, by omega⟩, ⟨by omega, by omega⟩, fun w => hover (by omega), fun w => ⟨⟨by omega, by omega⟩, ⟨by omega, by omega⟩, ⟨by omega, by omega⟩, ?_⟩⟩⟩
      intro N2 e2
      have hlt : zdgt T n y < zbs T y - 1 := by omega
      have hx := znx1 hG y0 dN hlt
      refine hy (znx_more hG n0 n1 y0 (by omega) dN hlt) N2 (by rw [e2]; exact fN.up rfl) (fun i a b => ?_)
      by_cases ei : i = y
      · rw [ei, e2, up_eq, (zwc_open hG (n + 1) y0 y1 ho).1, hx.1]; omega
      · rw [e2, up_k _ _ _ _ _ _ ei, wN i a b]
        unfold zwc
        by_cases z : i < y
        · rw [if_pos z, znx0 hG y0 dN i a z]; omega
        · rw [if_neg z, hx.2 i (by omega)]
theorem q_leastHeight (hG : Good T) (hA : Ag T M) {Qm : Int → Mem → Prop} (h3 : zcont T ≤ 3 → ∀ M', Fr zW (up M 11 0 59 0) M' → Qm (zLst T (zpr T 6)) M') (h4 : 3 < zcont T → Qm 0 (up M 11 0 59 1)) : wp_X10_leastHeight M Qm := by
  have hC := hG.nC
  have f4 := hA.f4
  have hB1 := zpr_pos hG 6
  refine zCount (fun n k v => wp_X10_leastHeight_4 Qm n v k M) (fun s k => s + zopen T k) 0 0 (T 11 0 4) hC.1 (fun n => ?_) (fun n k k0 k1 ih => ?_)
  · show wp_X10_leastHeight_4 Qm (n + 1) (zcont T) (T 11 0 4) M
    simp only [wp_X10_leastHeight_4, f4]
    refine ⟨fun _ => ?_, fun z => absurd z (by omega)⟩
    by_cases hc : 3 < zcont T
    · rw [if_pos hc]
      exact q_goes1 rfl ⟨fun z => absurd rfl z, fun _ => h4 hc⟩
    · rw [if_neg hc]
      refine q_goes0 (by decide) (by decide) (by decide) ⟨fun _ => ?_, fun z => absurd z (by decide)⟩
      have hq := h3 (by omega)
      have hA0 : Ag T (up M 11 0 59 0) := hA.up rfl
      refine q_laysNarrow hG hA0 (fun M1 f1 d1 => ?_)
      have hA1 := f1.ag hA0 zW_in
      have w1 : zEq T (M1 84 0) (zwc T 0) := fun k a b => by rw [zwc_0]; exact (d1 k a b).2.2.2
      refine q_laysRows hG hA1 w1 (zwc_r hG 0) (fun M2 f2 d2 => ?_)
      have g2 : Fr z84 M1 M2 := f2.mono (fun s k z => by
        simp only [z84, Bool.and_eq_false_iff, decide_eq_false_iff_not] at z
        exact decide_eq_false (by omega))
      have hA2 := g2.ag hA1 z84_in
      have hH : ∀ i, zHB T (zht T (zwc T i)) := fun i => zht_r hG (zwc_r hG i)
      refine q_sumOf hG hA2 (hH 0) d2 (by omega) (by omega) ?_
      have w2 : zEq T (M2 84 0) (zwc T 0) := fun k a b => by rw [f2 84 0 k rfl]; exact w1 k a b
      refine q_sumOfWidths hG hA2 w2 (zwc_r hG 0) ?_
      have e24 := hA2.f24
      have eH : zsum T (zht T (zwc T 0)) 1 = zHn T 0 := rfl
      have er : zrest T = T 11 0 24 - zsumw T (zwc T 0) := by rw [zwc_0]; rfl
      rw [e24, eH]
      have hA8 : ∀ N, Fr z84 M1 N → ∀ k, 0 ≤ k → k < T 11 0 4 → N 82 0 k = zls T k ∧ N 83 0 k = zms T k := fun N fN k a b => by
        rw [fN 82 0 k rfl, fN 83 0 k rfl]; exact ⟨(d1 k a b).2.1, (d1 k a b).2.2.1⟩
      have hend : ∀ N, Fr z84 M1 N → Qm (zLst T (zpr T 6)) N := fun N fN => hq N (f1.tr (fN.mono z84_W))
      -- the loop over the choices
      have hloop : ∀ (n : Int) (y : Int) (N : Mem), 1 ≤ n → n ≤ zpr T 6 → Fr z84 M1 N → ((n < zpr T 6 ∧ y = 1 ∧ zEq T (N 84 0) (zwc T n)) ∨ (n = zpr T 6 ∧ y = 0)) → ∃ f, wp_X10_leastHeight_93 Qm f (zLst T n) y N := fun n y N n1 n2 fN hy => by
        refine zWhile (σ := Int × Int × Mem) (fun f s => wp_X10_leastHeight_93 Qm f (zLst T s.1) s.2.1 s.2.2) (fun s => 1 ≤ s.1 ∧ s.1 ≤ zpr T 6 ∧ Fr z84 M1 s.2.2 ∧ ((s.1 < zpr T 6 ∧ s.2.1 = 1 ∧ zEq T (s.2.2 84 0) (zwc T s.1)) ∨ (s.1 = zpr T 6 ∧ s.2.1 = 0))) (fun s => (zpr T 6 - s.1).toNat) (fun f s hs ih => ?_) (n, y, N) ⟨n1, n2, fN, hy⟩
        obtain ⟨n, y, N⟩ := s
        obtain ⟨n1, n2, fN, hy⟩ := hs
        dsimp only at n1 n2 fN hy ⊢
        rcases hy with ⟨a, b, w⟩ | ⟨a, b⟩
        · refine ⟨fun z => absurd (b.symm.trans z) (by decide), fun _ => ?_⟩
          have hAN := fN.ag hA1 z84_in
          have x24 := hAN.f24
          refine q_sumOfWidths hG hAN w (zwc_r hG n) ?_
          have es := zsumw_n hG n
          have es : zsumw T (zwc T n) = zsumw T (znar T) + zsx T n := es
          have e0 : zsumw T (zwc T 0) = zsumw T (znar T) := by rw [zwc_0]
          rw [x24]
          have hnext : ∀ v N2, Fr z84 M1 N2 → zEq T (N2 84 0) (zwc T n) → v = zLst T (n + 1) → wp_X10_leastHeight_131 Qm (wp_X10_leastHeight_93 Qm f) v N2 := fun v N2 g w2 ev => by
            refine q_goesOn hG (g.ag hA1 z84_in) (by omega) a (hA8 N2 g) w2 (fun hl M' f' w' => ?_) (fun hl M' f' => ?_)
            · rw [ev]
              exact ih (n + 1, 1, M') ⟨by show 1 ≤ n + 1; omega, by show n + 1 ≤ zpr T 6; omega, g.tr f', Or.inl ⟨hl, rfl, w'⟩⟩ (by show (zpr T 6 - (n + 1)).toNat < (zpr T 6 - n).toNat; omega)
            · rw [ev]
              exact ih (n + 1, 0, M') ⟨by show 1 ≤ n + 1; omega, by show n + 1 ≤ zpr T 6; omega, g.tr f', Or.inr ⟨hl, rfl⟩⟩ (by show (zpr T 6 - (n + 1)).toNat < (zpr T 6 - n).toNat; omega)
          refine ⟨fun z => hnext _ N fN w ?_, fun z => ?_⟩
          · rw [zLst_succ (by omega), if_neg (by omega), if_neg (by omega)]
          · refine q_laysRows hG hAN w (zwc_r hG n) (fun N2 f2 d2 => ?_)
            have g2 : Fr z84 M1 N2 := fN.tr (f2.mono (fun s k z => by
              simp only [z84, Bool.and_eq_false_iff, decide_eq_false_iff_not] at z
              exact decide_eq_false (by omega)))
            have hA2 := g2.ag hA1 z84_in
            have w2 : zEq T (N2 84 0) (zwc T n) := fun k a b => by rw [f2 84 0 k rfl]; exact w k a b
            have eHn : zsum T (zht T (zwc T n)) 1 = zHn T n := rfl
            refine q_sumOf hG hA2 (hH n) d2 (by omega) (by omega) ⟨fun v => hnext _ N2 g2 w2 ?_, fun v => q_sumOf hG hA2 (hH n) d2 (by omega) (by omega) (hnext _ N2 g2 w2 ?_)⟩
            · rw [eHn] at v
              rw [zLst_succ (by omega), if_neg (by omega), if_pos (by omega)]; omega
            · rw [eHn] at v
              rw [eHn, zLst_succ (by omega), if_neg (by omega), if_pos (by omega)]; omega
        · refine ⟨fun _ => ?_, fun z => absurd b z⟩
          rw [a]
          exact hend N fN
      refine ⟨fun z => ?_, fun z => ?_⟩
      · refine ⟨1, fun _ => ?_, fun w => absurd rfl w⟩
        rw [← zLst_over hG (by omega) hB1]
        exact hend M2 g2
      · refine q_goesOn hG hA2 (Int.le_refl 0) (by omega) (hA8 M2 g2) w2 (fun hl M' f' w' => ?_) (fun hl M' f' => ?_)
        · rw [if_neg (by decide), ← zLst_1]
          exact hloop 1 1 M' (by omega) (by omega) (g2.tr f') (Or.inl ⟨by omega, rfl, w'⟩)
        · rw [if_pos rfl, ← zLst_1]
          exact hloop 1 0 M' (by omega) (by omega) (g2.tr f') (Or.inr ⟨by omega, rfl⟩)
  · have hb := zS_bd (f := zopen T) (a := 0) (b := k) 0 1 k0 (fun i _ _ => by rcases zopen_r T i with z | z <;> omega)
    have eb : zF (fun s k => s + zopen T k) 0 0 k = zS (zopen T) 0 k := rfl
    rw [eb] at ih ⊢
    simp only [wp_X10_leastHeight_4, f4]
    refine ⟨fun z => absurd z (by omega), fun _ => q_isOpen hG hA k0 k1 ?_⟩
    rcases zopen_r T k with z | z
    · rw [z] at ih
      rw [z, if_pos rfl]
      exact ⟨⟨by omega, by omega⟩, ⟨by omega, by omega⟩, ih⟩
    · rw [z] at ih
      rw [z, if_neg (by decide)]
      exact ⟨⟨by omega, by omega⟩, ⟨by omega, by omega⟩, ih⟩
theorem l_leastHeight (h : Iv T O κ M) (hK : ∀ M', Iv T O κ M' → K κ M') : wp_law_23 κ M K := by
  have h' := h
  obtain ⟨hG, hL, hA, -⟩ := h
  have e7 := hA.g7
  refine k_countContent hG hL hA ⟨fun h3 => ?_, fun h3 => ⟨rfl, ?_⟩⟩
  · rw [e7, hL.pap.1]
    refine k_leastOfAll hG hL hA h3 (fun M1 f1 => ?_)
    have hA1 := f1.ag hA zQ2_in
    refine q_leastHeight hG (hA1.up rfl) (fun _ M2 f2 => ?_) (fun z => absurd z (by omega))
    refine ⟨?_, fun _ => ?_, hK _ (h'.q0 (f1.tr ((q2_rc _ _ _).tr (f2.j zW_q))))⟩
    · rw [f2 11 0 59 rfl]; exact v59 _ _ _
    · rw [f2 103 0 0 rfl]; exact v103 _ _ _
  · exact q_leastHeight hG hA (fun z => absurd z (by omega)) (fun _ => finx0 h' hK (by decide))
end ZB
