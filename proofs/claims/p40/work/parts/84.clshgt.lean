/-! the pure part: the class's lines and heights -/
def zCH (u : Int) : Nat → Int → Int → Prop := fun s j _ => (s = 34 ∨ s = 35) ∧ j = u
theorem zCH_in (u : Int) : ∀ s j k, zCH u s j k → zin s k = false := by
  intro s j k hz
  obtain ⟨a, -⟩ := hz
  simp only [zin, Bool.or_eq_false_iff, Bool.and_eq_false_iff, decide_eq_false_iff_not]
  omega
section CV
variable {T M : Mem}
theorem k_begin {e : Int} (h0 : 0 ≤ e) (h1 : e ≤ 3000) {Qm : Int → Mem → Prop} (hq : Qm (zah e) M) : wp_X0_begin e M Qm := by
  have ez : (if ¬ e = 0 then e + 1 else 0) = zah e := by
    unfold zah
    by_cases h : e = 0
    · rw [if_neg (by omega), if_pos h]
    · rw [if_pos h, if_neg h]
  have hz : 0 ≤ zah e ∧ zah e ≤ 3001 := by rw [← ez]; split <;> omega
  unfold wp_X0_begin
  rw [ez]
  exact ⟨fun _ => ⟨⟨by omega, by omega⟩, trivial⟩, ⟨by omega, by omega⟩, hq⟩
theorem zah_r {e : Int} (h0 : 0 ≤ e) : 0 ≤ zah e ∧ zah e ≤ e + 1 := by unfold zah; split <;> omega
theorem k_canBePut (hG : Good T) (hL : zLk T) (hA : Ag T M) {c i e w : Int} (c0 : 0 ≤ c) (c1 : c < T 11 0 15) (i0 : 0 ≤ i) (i1 : i < T 72 0 c) (h0 : 0 ≤ e) (h1 : e ≤ 3000) {Qm : Int → Mem → Prop} (hy : zah e + T 70 0 (12 * c + i) ≤ w ∨ (0 < T 71 0 (12 * c + i) ∧ zah e + T 71 0 (12 * c + i) + 1 ≤ w) → Qm 1 M) (hn : ¬ (zah e + T 70 0 (12 * c + i) ≤ w ∨ (0 < T 71 0 (12 * c + i) ∧ zah e + T 71 0 (12 * c + i) + 1 ≤ w)) → Qm 0 M) : wp_X0_canBePut c e i w M Qm := by
  have wd := hG.word c i c0 c1 i0 i1
  obtain ⟨w1, w2, w3, w4, w5, w6, -⟩ := hG.cell c c0 c1
  obtain ⟨-, -, -, -, -, -, -, -, -, -, -, lw⟩ := hL.cell c0 c1
  obtain ⟨a1, a2⟩ := lw i i0 i1
  have e25 := hA.s25
  have e26 := hA.s26
  have hz := zah_r h0
  have hgo : ∀ z : Int, 0 ≤ z → z ≤ 30 → ((zah e + z ≤ w) ↔ (zah e + T 70 0 (12 * c + i) ≤ w ∨ (0 < T 71 0 (12 * c + i) ∧ zah e + T 71 0 (12 * c + i) + 1 ≤ w))) → wp_X0_canBePut_35 c e i w Qm z M := fun z z0 z1 hh => by
    refine k_begin h0 h1 ⟨⟨by omega, by omega⟩, ?_⟩
    by_cases q : w < zah e + z
    · rw [if_pos q]; exact ⟨bit_0, hn (fun x => by have := hh.mpr x; omega)⟩
    · rw [if_neg q]; exact ⟨bit_1, hy (hh.mp (by omega))⟩
  simp only [wp_X0_canBePut, e25, e26, a1, a2]
  refine ⟨⟨by omega, by omega⟩, fun h => ⟨⟨by omega, by omega⟩, ⟨by omega, by omega⟩, ⟨by omega, by omega⟩, hgo _ (by omega) (by omega) (by omega)⟩, fun h => ⟨⟨by omega, by omega⟩, hgo _ (by omega) (by omega) (by omega)⟩⟩
theorem k_linesAt (hG : Good T) (hL : zLk T) (hA : Ag T M) {c w : Int} (c0 : 0 ≤ c) (c1 : c < T 11 0 15) (hw : w ≤ 1805) {Qm : Int → Mem → Prop} (hq : Qm (if ¬ T 73 0 c = 0 then 1 else (zwl T c w (T 72 0 c)).1) M) : wp_X0_linesAt c w M Qm := by
  obtain ⟨w1, w2, w3, w4, w5, w6, w7, w8, w9, w10, w11, w12⟩ := hG.cell c c0 c1
  obtain ⟨l0, l1, l2, l3, l4, l7, l8, l9, l10, l11, l12, lw⟩ := hL.cell c0 c1
  have e1 := hA.s1
  have e25 := hA.s25
  have e26 := hA.s26
  unfold wp_X0_linesAt
  rw [e1, l7, l8]
  refine ⟨fun h0 => ?_, fun h0 => ?_⟩
  · have h73 : T 73 0 c = 0 := by
      by_cases q : T 73 0 c = 1
      · have := w11 q; omega
      · omega
    rw [if_neg (by omega)] at hq
    refine zLoop (σ := Int × Int) (fun n k s => wp_X0_linesAt_27 c w Qm n s.1 s.2 k M) (fun k s => s.1 = (zwl T c w k).1 + znu (zwl T c w k).2 ∧ s.2 = (zwl T c w k).2) (s := (1, 0)) (T 72 0 c) w6.1 ⟨by unfold zwl; rw [zF_self _ _ (by omega)]; rfl, by unfold zwl; rw [zF_self _ _ (by omega)]⟩ (fun n s hs => ?_) (fun n k s k0 k1 hs ih => ?_)
    · obtain ⟨s1, s2⟩ := s
      obtain ⟨h1, h2⟩ := hs
      have hz := zwl_r hG c0 c1 hw (n := T 72 0 c) w6.1 (Int.le_refl _)
      have en : znu (zwl T c w (T 72 0 c)).2 = 0 := if_neg (by have := hz.2.2.2.2.1 (by omega); omega)
      rw [en, Int.add_zero] at h1
      refine ⟨fun _ => ?_, fun h => absurd h (by rw [e1]; omega)⟩
      show Qm s1 M
      rw [show s1 = _ from h1]; exact hq
    · obtain ⟨s1, s2⟩ := s
      obtain ⟨h1, h2⟩ := hs
      dsimp only at h1 h2 ⊢
      have hz := zwl_r hG c0 c1 hw (n := k) k0 (by omega)
      obtain ⟨wd1, wd2⟩ := hG.word c k c0 c1 k0 k1
      obtain ⟨a1, a2⟩ := lw k k0 k1
      have es : zwl T c w (k + 1) = zput w (T 70 0 (12 * c + k)) (T 71 0 (12 * c + k)) (zwl T c w k) := zF_succ _ _ k0
      obtain ⟨z1, z2, z3, z4, z5⟩ := zput_r (l := (zwl T c w k).1) hw wd1.1 wd1.2 wd2.1 wd2.2 hz.1
      rw [show ((zwl T c w k).1, (zwl T c w k).2) = zwl T c w k from rfl, ← es] at z1 z2 z3 z4 z5
      generalize hl : (zwl T c w k).1 = l at *
      generalize hu : (zwl T c w k).2 = u0 at *
      have hp : zwl T c w k = (l, u0) := by rw [← hl, ← hu]
      rw [hp] at es
      -- what is put into a line that holds e already
      have h56 : ∀ e, (e = u0 ∨ e = 0) → 0 ≤ e → zput w (T 70 0 (12 * c + k)) (T 71 0 (12 * c + k)) (l, u0) = zput1 w (T 70 0 (12 * c + k)) (T 71 0 (12 * c + k)) (l, e) → wp_X0_linesAt_56 c w Qm (wp_X0_linesAt_27 c w Qm n) (l + znu e) e k M := by
        intro e he e0 hpp
        have ee : e ≤ 1805 := by omega
        have hze := zah_r e0
        have hne : 0 ≤ znu e ∧ znu e ≤ 1 := by unfold znu; split <;> omega
        rw [hpp] at es
        have hdone : ∀ Y E : Int, E = (zwl T c w (k + 1)).2 → Y = (zwl T c w (k + 1)).1 → wp_X0_linesAt_118 c w Qm (wp_X0_linesAt_27 c w Qm n) Y E k M := fun Y E hE hY => ⟨⟨by omega, by omega⟩, ih (Y, E) ⟨by
          have : znu (zwl T c w (k + 1)).2 = 0 := if_neg (by omega)
          show Y = _
          rw [hY, this, Int.add_zero], hE⟩⟩
        unfold zput1 at es
        dsimp only at es
        have h83 : (zah e + T 70 0 (12 * c + k) ≤ w ∨ ¬ (0 < T 71 0 (12 * c + k) ∧ zah e + T 71 0 (12 * c + k) + 1 ≤ w)) → wp_X0_linesAt_83 c w Qm (wp_X0_linesAt_27 c w Qm n) (l + znu e) e k M := fun hh => by
          refine k_begin e0 (by omega) ?_
          rw [e25, a1]
          have es2 : zwl T c w (k + 1) = (l + znu e, zah e + T 70 0 (12 * c + k)) := by
            rw [es]
            by_cases q : zah e + T 70 0 (12 * c + k) ≤ w
            · rw [if_pos q]
            · rw [if_neg q, if_neg (fun z => hh.elim (fun x => q x) (fun x => x z))]
          exact ⟨⟨by omega, by omega⟩, ⟨by omega, by omega⟩, hdone _ _ (by rw [es2]) (by rw [es2])⟩
        refine k_begin e0 (by omega) ?_
        rw [e25, a1]
        refine ⟨⟨by omega, by omega⟩, ⟨by omega, by omega⟩, fun hf => h83 (Or.inl hf), fun hf => k_canBePut hG hL hA c0 c1 k0 k1 e0 (by omega) (fun hc => ?_) (fun hc => ?_)⟩
        · have hcf : 0 < T 71 0 (12 * c + k) ∧ zah e + T 71 0 (12 * c + k) + 1 ≤ w := hc.elim (fun x => absurd x (by omega)) id
          have es2 : zwl T c w (k + 1) = (l + znu e + 1, T 70 0 (12 * c + k) - T 71 0 (12 * c + k)) := by
            rw [es, if_neg (by omega), if_pos hcf]
          refine ⟨fun _ => ?_, fun z => absurd z (by decide)⟩
          rw [e25, e26, a1, a2]
          exact ⟨⟨by omega, by omega⟩, ⟨by omega, by omega⟩, ⟨by omega, by omega⟩, ⟨by omega, by omega⟩, hdone _ _ (by rw [es2]) (by rw [es2])⟩
        · exact ⟨fun z => absurd rfl z, fun _ => h83 (Or.inr (fun z => hc (Or.inr z)))⟩
      rw [h1, h2]
      refine ⟨fun h => absurd h (by rw [e1]; omega), fun _ => ⟨fun hle => ?_, fun hgt => k_canBePut hG hL hA c0 c1 k0 k1 (by omega) (by omega) (fun hc => ⟨fun _ => ?_, fun z => absurd z (by decide)⟩) (fun hc => ⟨fun z => absurd rfl z, fun _ => ?_⟩)⟩⟩
      · refine h56 u0 (Or.inl rfl) hz.1 ?_
        unfold zput
        rw [if_neg (by dsimp only; omega)]
      · refine h56 u0 (Or.inl rfl) hz.1 ?_
        unfold zput
        rw [if_neg (fun z => ?_)]
        have z := z
        dsimp only at z
        exact hc.elim (fun x => z.2.1 x) (fun x => z.2.2 x)
      · have en : znu u0 = 0 := if_neg (by omega)
        have hb : 0 ≤ l ∧ l ≤ 24 := by omega
        rw [en, Int.add_zero]
        refine ⟨⟨by omega, by omega⟩, ?_⟩
        have := h56 0 (Or.inr rfl) (by omega) (by
          unfold zput
          rw [if_pos (show 0 < (l, u0).2 ∧ ¬ (zah (l, u0).2 + T 70 0 (12 * c + k) ≤ w) ∧ ¬ (0 < T 71 0 (12 * c + k) ∧ zah (l, u0).2 + T 71 0 (12 * c + k) + 1 ≤ w) from ⟨by dsimp only; omega, fun z => hc (Or.inl z), fun z => hc (Or.inr z)⟩)])
        exact this
  · have ez : (zwl T c w (T 72 0 c)).1 = 0 := by rw [h0]; unfold zwl; rw [zF_self _ _ (by omega)]
    rw [ez] at hq
    by_cases h : T 73 0 c = 0
    · rw [if_neg (by omega)] at hq
      rw [if_pos h]; exact hq
    · rw [if_pos h] at hq
      rw [if_neg h]; exact hq
theorem k_measureCells (hG : Good T) (hL : zLk T) (hA : Ag T M) {u : Int} {a : Nat} {j : Int} (ha : a = 51) {w : Int → Int} (hw : zEq T (M a j) w) (hb : zWB T w) {Qm : Mem → Prop} (hq : ∀ M', Fj (fun s i _ => s = 34 ∧ i = u) M M' → (∀ c, 0 ≤ c → c < T 11 0 15 → M' 34 u c = zlinesW T w c) → Qm M') : wp_X4_measureCells u a j M Qm := by
  subst ha
  have hK := hG.nK
  have n14 := hL.n.2.2
  refine zLoop (fun n k N => wp_X4_measureCells_2 u 51 j Qm n k N) (fun y N => Fj (fun s i _ => s = 34 ∧ i = u) M N ∧ ∀ c, 0 ≤ c → c < y → N 34 u c = zlinesW T w c) (T 11 0 15) hK.1 ⟨Fj.rf _ _, fun c a b => absurd b (by omega)⟩ (fun n N hN => ?_) (fun n y N y0 y1 hN ih => ?_)
  · have e14 := (hN.1.ag hA (fun s i k z => by rw [z.1]; rfl)).s14
    exact ⟨fun _ => hq N hN.1 hN.2, fun h => absurd h (by rw [e14]; omega)⟩
  · obtain ⟨f1, d1⟩ := hN
    have hAN : Ag T N := f1.ag hA (fun s i k z => by rw [z.1]; rfl)
    have e14 := hAN.s14
    obtain ⟨l0, l1, l2, l3, l4, l7, l8, l9, l10, l11, l12, lw⟩ := hL.cell y0 y1
    have hdone : ∀ v, v = zlinesW T w y → wp_X4_measureCells_66 u 51 j Qm (wp_X4_measureCells_2 u 51 j Qm n) y v y N := fun v ev => by
      refine ⟨⟨by omega, by omega⟩, ?_⟩
      intro N2 e2
      refine ⟨⟨by omega, by omega⟩, ih N2 ⟨by rw [e2]; exact f1.up ⟨rfl, rfl⟩, fun c c0 c1 => ?_⟩⟩
      by_cases hc : c = y
      · rw [hc, e2, up_eq, ev]
      · rw [e2, up_k _ _ _ _ _ _ hc]; exact d1 c c0 (by omega)
    refine ⟨fun h => absurd h (by rw [e14]; omega), fun _ => ⟨fun h => absurd h (by omega), fun _ => ?_⟩⟩
    rw [e14, n14, l0]
    refine ⟨⟨by omega, by omega⟩, k_isOut hL hAN y0 y1 (fun hz => ?_) (fun hz => ?_)⟩
    · refine ⟨fun z => absurd z (by decide), fun _ => hdone _ ?_⟩
      unfold zlinesW; rw [if_pos hz]
    · have hs := zshows_r hG y0 y1
      have hwN : zEq T (N 51 j) w := fun k a b => by rw [f1 51 j k (fun z => absurd z.1 (by decide))]; exact hw k a b
      refine ⟨fun _ => k_widthOfCell hG hL hAN y0 y1 hwN hb ?_, fun z => absurd rfl z⟩
      rw [zac2_eq _ (by omega)]
      refine k_linesAt hG hL hAN y0 y1 (zacr_r hG hb y0 y1).2 (hdone _ ?_)
      unfold zlinesW; rw [if_neg hz]
theorem k_lengthen (hG : Good T) (hL : zLk T) (hA : Ag T M) {u c : Int} (c0 : 0 ≤ c) (c1 : c < T 11 0 15) {w h : Int → Int} (hb : zWB T w) (hh : zHB T h) (hm : ∀ r, 0 ≤ r → r < T 11 0 8 → M 35 u r = h r) {Qm : Mem → Prop} (hq : ∀ M', Fj (fun s i _ => s = 35 ∧ i = u) M M' → (∀ r, 0 ≤ r → r < T 11 0 8 → M' 35 u r = zlong T w c h r) → Qm M') : wp_X4_lengthenLastRow u c (zlinesW T w c) M Qm := by
  obtain ⟨w1, w2, w3, w4, w5, w6, w7, w8, w9, w10, w11, w12⟩ := hG.cell c c0 c1
  obtain ⟨l0, l1, l2, l3, l4, l7, l8, l9, l10, l11, l12, lw⟩ := hL.cell c0 c1
  obtain ⟨r1, r2, r3, r4, r5⟩ := hG.row (T 65 0 c) w1.1 w1.2
  obtain ⟨-, -, m3, -⟩ := hL.row w1.1 w1.2
  obtain ⟨p1, p2⟩ := hL.part r1.1 r1.2
  have hR := hG.nR
  have hmm := hG.many r1.1 r1.2
  have hl := zlinesW_r hG hb c0 c1
  have e1 := hA.s1
  have e6 := hA.s6
  have eL : M (rowL (T 60 0 (T 65 0 c))) = T (rowL (T 60 0 (T 65 0 c))) := by
    rcases (by omega : T 60 0 (T 65 0 c) = 0 ∨ T 60 0 (T 65 0 c) = 1 ∨ T 60 0 (T 65 0 c) = 2) with h | h | h <;> rw [h]
    · exact hA.s15
    · exact hA.s16
    · exact hA.s17
  have hbl := zlong_r hG hb c0 c1 hh
  unfold wp_X4_lengthenLastRow
  rw [e1, l1, l3, e6, m3, eL, p1, show min (T 6 (T 65 0 c) 6 + T 67 0 c) (T 64 0 (T 60 0 (T 65 0 c))) = T 6 (T 65 0 c) 6 + T 67 0 c by omega]
  refine ⟨⟨by omega, by omega⟩, ?_⟩
  refine zLoop (σ := Int × Int) (fun n k s => wp_X4_lengthenLastRow_51 u c (zlinesW T w c) Qm n (rowL (T 60 0 (T 65 0 c))) (T 6 (T 65 0 c) 6 + T 67 0 c) s.1 s.2 k M) (fun k s => s.1 = zlinesW T w c - zS (fun i => h (zbel T c i)) 0 (k - T 6 (T 65 0 c) 6) ∧ (T 6 (T 65 0 c) 6 < k → s.2 = zbel T c (k - T 6 (T 65 0 c) 6 - 1))) (s := (zlinesW T w c, -1)) (T 6 (T 65 0 c) 6 + T 67 0 c) (by omega) ⟨by rw [zS_self _ (by omega)]; omega, fun z => absurd z (by omega)⟩ (fun n s hs => ?_) (fun n k s k0 k1 hs ih => ?_)
  · obtain ⟨s1, s2⟩ := s
    obtain ⟨h1, h2⟩ := hs
    have h2 := h2 (by omega)
    dsimp only at h1 h2 ⊢
    rw [show T 6 (T 65 0 c) 6 + T 67 0 c - T 6 (T 65 0 c) 6 = T 67 0 c by omega] at h1
    rw [show T 6 (T 65 0 c) 6 + T 67 0 c - T 6 (T 65 0 c) 6 - 1 = T 67 0 c - 1 by omega] at h2
    have q1 := zbel_r hG c0 c1 (k := T 67 0 c - 1) (by omega) (by omega)
    have hx := hh _ q1.1 q1.2.1
    rw [h2]
    refine ⟨fun _ => ⟨fun hle => hq M (Fj.rf _ _) (fun r a b => ?_), fun hgt => ⟨fun z => absurd z (by omega), fun _ => ⟨fun z => absurd z (by omega), fun _ => ?_⟩⟩⟩, fun z => absurd z (by omega)⟩
    · rw [hm r a b]
      unfold zlong zset
      split
      · rename_i hr; rw [hr]; omega
      · rfl
    · rw [hm _ q1.1 q1.2.1]
      refine ⟨⟨by omega, by omega⟩, ⟨by omega, by omega⟩, ⟨by omega, by omega⟩, ?_⟩
      intro N en
      refine hq N (by rw [en]; exact (Fj.rf _ M).up ⟨rfl, rfl⟩) (fun r a b => ?_)
      unfold zlong zset
      by_cases hr : r = zbel T c (T 67 0 c - 1)
      · rw [hr, en, up_eq, if_pos rfl]; omega
      · rw [en, up_k _ _ _ _ _ _ hr, if_neg hr]; exact hm r a b
  · obtain ⟨s1, s2⟩ := s
    obtain ⟨h1, h2⟩ := hs
    dsimp only at h1 h2 ⊢
    have q1 := zbel_r hG c0 c1 (k := k - T 6 (T 65 0 c) 6) (by omega) (by omega)
    have hx := hh _ q1.1 q1.2.1
    have hs' := zS_bd (f := fun i => h (zbel T c i)) (a := 0) (b := k - T 6 (T 65 0 c) 6) 0 24 (by omega) (fun i a b => by
      have q := zbel_r hG c0 c1 a (by omega)
      have := hh _ q.1 q.2.1
      omega)
    have eq1 : T (rowL (T 60 0 (T 65 0 c))) 0 k = zbel T c (k - T 6 (T 65 0 c) 6) := by
      rw [p2 k (by omega) (by omega)]
      unfold zbel
      rw [show 24 * T 60 0 (T 65 0 c) + T 6 (T 65 0 c) 6 + (k - T 6 (T 65 0 c) 6) = 24 * T 60 0 (T 65 0 c) + k by omega]
    have nrow := (hL.row q1.1 q1.2.1).2.1
    simp only [wp_X4_lengthenLastRow_51, eL, e6, p1, eq1, nrow, hm _ q1.1 q1.2.1]
    rw [if_neg (by omega)]
    refine ⟨fun z => absurd z (by omega), fun _ => ⟨⟨by omega, by omega⟩, fun _ => ⟨⟨by omega, by omega⟩, trivial⟩, ⟨by omega, by omega⟩, ⟨by omega, by omega⟩, ih (_, _) ⟨?_, fun _ => ?_⟩⟩⟩
    · rw [show k + 1 - T 6 (T 65 0 c) 6 = (k - T 6 (T 65 0 c) 6) + 1 by omega, zS_succ _ (by omega), h1]; omega
    · rw [show k + 1 - T 6 (T 65 0 c) 6 - 1 = k - T 6 (T 65 0 c) 6 by omega]
      rfl
theorem zh2_none {w : Int → Int} {d n : Int} (n0 : 0 ≤ n) (h : ∀ c, 0 ≤ c → c < n → ¬ T 67 0 c = d) (h0 : Int → Int) : zh2 T w d n h0 = h0 :=
  zF_ind (fun _ (x : Int → Int) => x = h0) n0 rfl (fun c v a b hv => by
    show (if T 67 0 c = d then zlong T w c v else v) = h0
    rw [if_neg (h c a b), hv])
theorem k_stackRows (hG : Good T) (hL : zLk T) (hA : Ag T M) {u : Int} {w : Int → Int} (hb : zWB T w) (h34 : ∀ c, 0 ≤ c → c < T 11 0 15 → M 34 u c = zlinesW T w c) {Qm : Mem → Prop} (hq : ∀ M', Fj (fun s i _ => s = 35 ∧ i = u) M M' → (∀ r, 0 ≤ r → r < T 11 0 8 → M' 35 u r = zht T w r) → Qm M') : wp_X4_stackRows u M Qm := by
  have hR := hG.nR
  have hK := hG.nK
  have n14 := hL.n.2.2
  have h35 : ∀ s (j k : Int), (s = 35 ∧ j = u) → zin s k = false := fun s j k z => by rw [z.1]; rfl
  refine k_fill 35 u 1 (fun M1 f1 d1 => ?_)
  have hAg : ∀ N, Fj (fun s i _ => s = 35 ∧ i = u) M N → Ag T N := fun N f => f.ag hA h35
  have h34' : ∀ N, Fj (fun s i _ => s = 35 ∧ i = u) M N → ∀ c, 0 ≤ c → c < T 11 0 15 → N 34 u c = zlinesW T w c := fun N f c a b => by rw [f 34 u c (fun z => absurd z.1 (by decide))]; exact h34 c a b
  -- from the second loop on
  have hspan : ∀ (g : Int) (N : Mem), 1 ≤ g → g ≤ 4 → (∀ c, 0 ≤ c → c < T 11 0 15 → T 67 0 c ≤ g) → Fj (fun s i _ => s = 35 ∧ i = u) M N → (∀ r, 0 ≤ r → r < T 11 0 8 → N 35 u r = zh1 T w (T 11 0 15) r) → wp_X4_stackRows_109 u Qm g N := by
    intro g N g1 g4 hg fN dN
    have hfin : ∀ d, g < d → d ≤ 5 → zhs T w d = zhs T w (g + 1) := by
      have z : ∀ m : Nat, g + 1 + m ≤ 5 → zhs T w (g + 1 + m) = zhs T w (g + 1) := by
        intro m
        induction m with
        | zero => intro _; rw [show g + 1 + ((0 : Nat) : Int) = g + 1 by omega]
        | succ m ihm =>
          intro hm
          have e : zhs T w (g + 1 + m + 1) = zh2 T w (g + 1 + m) (T 11 0 15) (zhs T w (g + 1 + m)) := zF_succ _ _ (by omega)
          rw [show g + 1 + ((m + 1 : Nat) : Int) = g + 1 + m + 1 by omega, e, ihm (by omega)]
          exact zh2_none hK.1 (fun c a b => by have := hg c a b; omega) _
      intro d d0 d1
      have := z (d - (g + 1)).toNat (by omega)
      rw [show g + 1 + ((d - (g + 1)).toNat : Int) = d by omega] at this
      exact this
    refine zLoop (fun n k N => wp_X4_stackRows_111 u Qm n g k N) (fun d N => Fj (fun s i _ => s = 35 ∧ i = u) M N ∧ ∀ r, 0 ≤ r → r < T 11 0 8 → N 35 u r = zhs T w d r) (g + 1) (by omega) ⟨fN, fun r a b => by rw [dN r a b]; unfold zhs; rw [zF_self _ _ (by omega)]⟩ (fun n3 N3 hN3 => ?_) (fun n3 d N3 d0 d1 hN3 ih3 => ?_)
    · refine ⟨fun _ => hq N3 hN3.1 (fun r a b => ?_), fun h => absurd h (by omega)⟩
      rw [hN3.2 r a b]
      unfold zht
      rw [hfin 5 (by omega) (Int.le_refl _)]
    · refine ⟨fun h => absurd h (by omega), fun _ => ⟨fun h => absurd h (by omega), fun _ => ?_⟩⟩
      have hbs := zhs_r hG hb d0
      have esd : zhs T w (d + 1) = zh2 T w d (T 11 0 15) (zhs T w d) := zF_succ _ _ d0
      refine zLoop (fun n k N => wp_X4_stackRows_123 u Qm (wp_X4_stackRows_111 u Qm n3) n g d k N) (fun c N => Fj (fun s i _ => s = 35 ∧ i = u) M N ∧ ∀ r, 0 ≤ r → r < T 11 0 8 → N 35 u r = zh2 T w d c (zhs T w d) r) (T 11 0 15) hK.1 ⟨hN3.1, fun r a b => by rw [hN3.2 r a b]; unfold zh2; rw [zF_self _ _ (by omega)]⟩ (fun n4 N4 hN4 => ?_) (fun n4 c N4 c0 c1 hN4 ih4 => ?_)
      · have e14 := (hAg N4 hN4.1).s14
        refine ⟨fun _ => ⟨⟨by omega, by omega⟩, ih3 N4 ⟨hN4.1, fun r a b => ?_⟩⟩, fun h => absurd h (by rw [e14]; omega)⟩
        rw [hN4.2 r a b, esd]
      · obtain ⟨f4, l4'⟩ := hN4
        have hA4 := hAg N4 f4
        have e14 := hA4.s14
        have e1 := hA4.s1
        obtain ⟨l0, l1, l2, l3, l4, l7, l8, l9, l10, l11, l12, lw⟩ := hL.cell c0 c1
        have hb4 := zh2_r hG hb (d := d) (n := c) c0 (by omega) hbs
        have es : zh2 T w d (c + 1) (zhs T w d) = (if T 67 0 c = d then zlong T w c (zh2 T w d c (zhs T w d)) else zh2 T w d c (zhs T w d)) := zF_succ _ _ c0
        refine ⟨fun h => absurd h (by rw [e14]; omega), fun _ => ⟨fun h => absurd h (by omega), fun _ => ?_⟩⟩
        rw [e14, e1, n14, l0, l3, h34' N4 f4 c c0 c1]
        refine ⟨⟨by omega, by omega⟩, fun hn => ⟨⟨by omega, by omega⟩, ih4 N4 ⟨f4, fun r a b => by rw [es, if_neg hn]; exact l4' r a b⟩⟩, fun hd => ⟨⟨by omega, by omega⟩, ⟨by omega, by omega⟩, k_lengthen hG hL hA4 c0 c1 hb hb4 l4' (fun N5 f5 l5 => ⟨⟨by omega, by omega⟩, ih4 N5 ⟨f4.tr f5, fun r a b => by rw [es, if_pos hd]; exact l5 r a b⟩⟩)⟩⟩
  -- the first loop
  refine zLoop (σ := Int × Mem) (fun n k s => wp_X4_stackRows_12 u Qm n s.1 k s.2) (fun c s => Fj (fun s i _ => s = 35 ∧ i = u) M s.2 ∧ (1 ≤ s.1 ∧ s.1 ≤ 4) ∧ (∀ i, 0 ≤ i → i < c → T 67 0 i ≤ s.1) ∧ ∀ r, 0 ≤ r → r < T 11 0 8 → s.2 35 u r = zh1 T w c r) (s := (1, M1)) (T 11 0 15) hK.1 ⟨f1, ⟨by show (1 : Int) ≤ 1; omega, by show (1 : Int) ≤ 4; omega⟩, fun i a b => absurd b (by omega), fun r a b => by show M1 35 u r = _; rw [d1 r a (by have : alen 35 = 29 := rfl; omega)]; unfold zh1; rw [zF_self _ _ (by omega)]⟩ (fun n s hs => ?_) (fun n c s c0 c1 hs ih => ?_)
  · obtain ⟨g, N⟩ := s
    obtain ⟨fN, gN, hg, dN⟩ := hs
    have e14 := (hAg N fN).s14
    dsimp only at gN hg dN fN ⊢
    exact ⟨fun _ => hspan g N gN.1 gN.2 hg fN dN, fun h => absurd h (by rw [e14]; omega)⟩
  · obtain ⟨g, N⟩ := s
    obtain ⟨fN, gN, hg, dN⟩ := hs
    dsimp only at fN gN hg dN ⊢
    have hAN := hAg N fN
    have e14 := hAN.s14
    have e1 := hAN.s1
    have e6 := hAN.s6
    obtain ⟨w1, w2, w3, -⟩ := hG.cell c c0 c1
    obtain ⟨l0, l1, l2, l3, l4, l7, l8, l9, l10, l11, l12, lw⟩ := hL.cell c0 c1
    obtain ⟨-, nr, -⟩ := hL.row w1.1 w1.2
    have hh1 := zh1_r hG hb c0 (by omega : c ≤ T 11 0 15)
    have es : zh1 T w (c + 1) = (if T 67 0 c = 1 then zset (zh1 T w c) (T 65 0 c) (max (zh1 T w c (T 65 0 c)) (zlinesW T w c)) else zh1 T w c) := zF_succ _ _ c0
    have hg' : ∀ i, 0 ≤ i → i < c + 1 → T 67 0 i ≤ max g (T 67 0 c) := fun i a b => by
      by_cases hi : i = c
      · rw [hi]; omega
      · have := hg i a (by omega); omega
    have hdone : ∀ N', Fj (fun s i _ => s = 35 ∧ i = u) M N' → (∀ r, 0 ≤ r → r < T 11 0 8 → N' 35 u r = zh1 T w (c + 1) r) → wp_X4_stackRows_94 u Qm (wp_X4_stackRows_12 u Qm n) g c c N' := fun N' f' d' => by
      have e1' := (hAg N' f').s1
      unfold wp_X4_stackRows_94
      rw [e1', l3]
      exact ⟨⟨by omega, by omega⟩, ih (_, N') ⟨f', ⟨by omega, by omega⟩, hg', d'⟩⟩
    refine ⟨fun h => absurd h (by rw [e14]; omega), fun _ => ⟨fun h => absurd h (by omega), fun _ => ?_⟩⟩
    rw [e14, e1, e6, n14, l0, l1, l3, nr, h34' N fN c c0 c1, dN _ w1.1 w1.2]
    refine ⟨⟨by omega, by omega⟩, fun hn => hdone N fN (fun r a b => by rw [es, if_neg hn]; exact dN r a b), fun h1 => ⟨fun z => absurd z (by omega), fun _ => ⟨⟨by omega, by omega⟩, ⟨by omega, by omega⟩, ⟨by omega, by omega⟩, ?_⟩⟩⟩
    intro N2 e2
    refine hdone N2 (by rw [e2]; exact fN.up ⟨rfl, rfl⟩) (fun r a b => ?_)
    rw [es, if_pos h1]
    unfold zset
    by_cases hr : r = T 65 0 c
    · rw [hr, e2, up_eq, if_pos rfl]
    · rw [e2, up_k _ _ _ _ _ _ hr, if_neg hr]; exact dN r a b
theorem k_heightOfPart (hG : Good T) (hL : zLk T) (hA : Ag T M) {u p : Int} (p0 : 0 ≤ p) (p1 : p ≤ 2) {h : Int → Int} (hh : zHB T h) (hm : ∀ r, 0 ≤ r → r < T 11 0 8 → M 35 u r = h r) {Qm : Int → Mem → Prop} (hq : Qm (zsum T h p) M) : wp_X4_heightOfPart u p M Qm := by
  have hmm := hG.many p0 p1
  have hR := hG.nR
  have e6 := hA.s6
  have eL : M (rowL p) = T (rowL p) := by
    rcases (by omega : p = 0 ∨ p = 1 ∨ p = 2) with h | h | h <;> rw [h]
    · exact hA.s15
    · exact hA.s16
    · exact hA.s17
  obtain ⟨q1, q2⟩ := hL.part p0 p1
  refine zLoop (fun n k s => wp_X4_heightOfPart_14 u p Qm n (rowL p) s k M) (fun k s => s = zS (fun k => h (T 63 0 (24 * p + k))) 0 k) (T 64 0 p) hmm.1 (zS_self _ (by omega)).symm (fun n s hs => ?_) (fun n k s k0 k1 hs ih => ?_)
  · simp only [wp_X4_heightOfPart_14, eL, q1]
    refine ⟨fun _ => ?_, fun z => absurd z (by omega)⟩
    rw [hs]; exact hq
  · have o := hG.ord p k p0 p1 k0 k1
    have ho := hh _ o.1.1 o.1.2
    have hs' := zsum_r hG hh p0 p1 k0 (by omega)
    have nr := (hL.row o.1.1 o.1.2).2.1
    simp only [wp_X4_heightOfPart_14, eL, e6, q1, q2 k k0 k1, nr, hm _ o.1.1 o.1.2]
    rw [if_neg (by omega)]
    refine ⟨fun z => absurd z (by omega), fun _ => ⟨⟨by omega, by omega⟩, fun _ => ⟨⟨by omega, by omega⟩, trivial⟩, by rw [hs]; exact ⟨by omega, by omega⟩, ⟨by omega, by omega⟩, ih _ ?_⟩⟩
    rw [zS_succ _ k0, hs]
end CV
