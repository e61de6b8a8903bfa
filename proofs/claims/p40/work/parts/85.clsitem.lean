/-! the pure part: the class's items -/
def zcc (x : Int) : Int := if x < 100 then x else if x < 200 then x - 68 else x - 136
/-- what the class's pages are written on -/
def zCP : Nat → Int → Int → Prop := fun s j _ => s = 3 ∨ (28 ≤ s ∧ s ≤ 32) ∨ (j = 0 ∧ (s = 7 ∨ (38 ≤ s ∧ s ≤ 45)))
theorem zCP_in : ∀ s j k, zCP s j k → zin s k = false := by
  intro s j k hz
  simp only [zCP] at hz
  simp only [zin, Bool.or_eq_false_iff, Bool.and_eq_false_iff, decide_eq_false_iff_not]
  omega
def zIK (I : zSt) (M : Mem) : Prop := M 3 0 8 = I 0 0 ∧ ∀ k, 0 ≤ k → k < I 0 0 → M 28 0 k = zcc (I 1 k) ∧ M 29 0 k = I 2 k ∧ M 30 0 k = I 3 k ∧ M 31 0 k = I 4 k
def zCI : Nat → Int → Int → Prop := fun s _ k => (28 ≤ s ∧ s ≤ 32) ∨ (s = 3 ∧ k = 8)
theorem zCI_in : ∀ s j k, zCI s j k → zin s k = false := by
  intro s j k hz
  simp only [zCI] at hz
  simp only [zin, Bool.or_eq_false_iff, Bool.and_eq_false_iff, decide_eq_false_iff_not]
  omega
theorem zCI_P : ∀ s j k, zCI s j k → zCP s j k := by
  intro s j k hz
  simp only [zCI] at hz
  simp only [zCP]
  omega
section CX2
variable {T M : Mem}
theorem k_addItem {I : zSt} {m L : Int} (H : zIOK I m L) (hm : m < 50) (hI : zIK I M) {c c' h n b : Int} (hc : c' = zcc c) (b0 : bit b) {Qm : Mem → Prop} (hq : ∀ M', Fj zCI M M' → zIK (zpush I c h n b) M' → (∀ k, M' 32 0 k = M 32 0 k) → Qm M') : wp_X2_addItem c' h n b M Qm := by
  obtain ⟨a1, a2, a3, a4⟩ := H
  obtain ⟨i1, i2⟩ := hI
  refine ⟨fun z => absurd z (by omega), fun _ => ⟨⟨by omega, by omega⟩, ?_⟩⟩
  intro M1 e1
  have x1 : M1 3 0 8 = I 0 0 := by rw [e1, up_s _ _ _ _ (by decide)]; exact i1
  refine ⟨⟨by omega, by omega⟩, ?_⟩
  intro M2 e2
  have x2 : M2 3 0 8 = I 0 0 := by rw [e2, up_s _ _ _ _ (by decide)]; exact x1
  refine ⟨⟨by omega, by omega⟩, ?_⟩
  intro M3 e3
  have x3 : M3 3 0 8 = I 0 0 := by rw [e3, up_s _ _ _ _ (by decide)]; exact x2
  refine ⟨b0, ⟨by omega, by omega⟩, ?_⟩
  intro M4 e4
  have x4 : M4 3 0 8 = I 0 0 := by rw [e4, up_s _ _ _ _ (by decide)]; exact x3
  refine ⟨⟨by omega, by omega⟩, ?_⟩
  intro M5 e5
  rw [x4] at e5
  rw [x3] at e4
  rw [x2] at e3
  rw [x1] at e2
  rw [i1] at e1
  obtain ⟨p1, p2, p3, p4⟩ := zpush_at I c h n b
  refine hq M5 ?_ ⟨by rw [e5, up_eq, zpush_0], fun k k0 k1 => ?_⟩ (fun k => ?_)
  · rw [e5, e4, e3, e2, e1]
    exact (((((Fj.rf zCI M).up (Or.inl ⟨by decide, by decide⟩)).up (Or.inl ⟨by decide, by decide⟩)).up (Or.inl ⟨by decide, by decide⟩)).up (Or.inl ⟨by decide, by decide⟩)).up (Or.inr ⟨rfl, rfl⟩)
  · rw [zpush_0] at k1
    by_cases hk : k = I 0 0
    · rw [hk, p1, p2, p3, p4, e5, up_s _ _ _ _ (by decide), up_s _ _ _ _ (by decide), up_s _ _ _ _ (by decide), up_s _ _ _ _ (by decide), e4, up_s _ _ _ _ (by decide), up_s _ _ _ _ (by decide), up_s _ _ _ _ (by decide), up_eq, e3, up_s _ _ _ _ (by decide), up_s _ _ _ _ (by decide), up_eq, e2, up_s _ _ _ _ (by decide), up_eq, e1, up_eq]
      exact ⟨hc, rfl, rfl, rfl⟩
    · rw [zpush_ne I c h n b (by decide) hk, zpush_ne I c h n b (by decide) hk, zpush_ne I c h n b (by decide) hk, zpush_ne I c h n b (by decide) hk, e5, up_s _ _ _ _ (by decide), up_s _ _ _ _ (by decide), up_s _ _ _ _ (by decide), up_s _ _ _ _ (by decide), e4, up_s _ _ _ _ (by decide), up_s _ _ _ _ (by decide), up_s _ _ _ _ (by decide), up_k _ _ _ _ _ _ hk, e3, up_s _ _ _ _ (by decide), up_s _ _ _ _ (by decide), up_k _ _ _ _ _ _ hk, up_s _ _ _ _ (by decide), e2, up_s _ _ _ _ (by decide), up_k _ _ _ _ _ _ hk, up_s _ _ _ _ (by decide), e1, up_k _ _ _ _ _ _ hk, up_s _ _ _ _ (by decide), up_s _ _ _ _ (by decide), up_s _ _ _ _ (by decide)]
      exact i2 k k0 (by omega)
  · rw [e5, up_s _ _ _ _ (by decide), e4, up_s _ _ _ _ (by decide), e3, up_s _ _ _ _ (by decide), e2, up_s _ _ _ _ (by decide), e1, up_s _ _ _ _ (by decide)]
theorem k_countNoteLines (hG : Good T) (hL : zLk T) (hA : Ag T M) {Qm : Int → Mem → Prop} (hq : ∀ M', Fj (fun s i _ => s = 32 ∧ i = 0) M M' → (∀ r, 0 ≤ r → r < T 11 0 8 → M' 32 0 r = zrn T r (T 11 0 15)) → Qm (zalln T (T 64 0 1)) M') : wp_X2_countNoteLines M Qm := by
  have hK := hG.nK
  have hR := hG.nR
  have n14 := hL.n.2.2
  have h32 : ∀ s (j k : Int), (s = 32 ∧ j = 0) → zin s k = false := fun s j k z => by rw [z.1]; rfl
  refine k_fill 32 0 0 (fun M1 f1 d1 => ?_)
  refine zLoop (σ := Int × Mem) (fun n k s => wp_X2_countNoteLines_12 Qm n s.1 k s.2) (fun c s => Fj (fun s i _ => s = 32 ∧ i = 0) M s.2 ∧ s.1 = zS (znote T) 0 c ∧ ∀ r, 0 ≤ r → r < T 11 0 8 → s.2 32 0 r = zrn T r c) (s := (0, M1)) (T 11 0 15) hK.1 ⟨f1, (zS_self _ (by omega)).symm, fun r a b => by show M1 32 0 r = _; rw [d1 r a (by have : alen 32 = 29 := rfl; omega)]; exact (zS_self _ (by omega)).symm⟩ (fun n s hs => ?_) (fun n c s c0 c1 hs ih => ?_)
  · obtain ⟨g, N⟩ := s
    obtain ⟨fN, gN, dN⟩ := hs
    dsimp only at fN gN dN ⊢
    have e14 := (fN.ag hA h32).s14
    refine ⟨fun _ => ?_, fun h => absurd h (by rw [e14]; omega)⟩
    rw [gN, ← zalln_eq hG]
    exact hq N fN dN
  · obtain ⟨g, N⟩ := s
    obtain ⟨fN, gN, dN⟩ := hs
    dsimp only at fN gN dN ⊢
    have hAN : Ag T N := fN.ag hA h32
    have e14 := hAN.s14
    have e1 := hAN.s1
    have e6 := hAN.s6
    obtain ⟨w1, -⟩ := hG.cell c c0 c1
    obtain ⟨l0, l1, l2, l3, l4, l7, l8, l9, l10, l11, l12, lw⟩ := hL.cell c0 c1
    obtain ⟨-, nr, -⟩ := hL.row w1.1 w1.2
    have hn := znote_r hG c0 c1
    have er : ∀ r, zrn T r (c + 1) = zrn T r c + (if T 65 0 c = r then znote T c else 0) := fun r => zS_succ _ c0
    have hb := zS_bd (f := znote T) (a := 0) (b := c) 0 3 c0 (fun i a b => znote_r hG a (by omega))
    have hbr := zrn_r hG (r := T 65 0 c) c0 (by omega : c ≤ T 11 0 15)
    refine ⟨fun h => absurd h (by rw [e14]; omega), fun _ => ?_⟩
    rw [e14, e1, e6, n14, l0, l1, nr]
    refine ⟨⟨by omega, by omega⟩, k_isOut hL hAN c0 c1 (fun hz => ⟨fun _ => ⟨⟨by omega, by omega⟩, ih (g, N) ⟨fN, ?_, fun r a b => ?_⟩⟩, fun z => absurd z (by decide)⟩) (fun hz => ⟨fun z => absurd rfl z, fun _ => ⟨fun z => absurd z (by omega), fun _ => ?_⟩⟩)⟩
    · rw [zS_succ _ c0, znote, if_pos hz, Int.add_zero]; exact gN
    · rw [er, znote, if_pos hz]
      rw [show (if T 65 0 c = r then (0 : Int) else 0) = 0 by split <;> rfl, Int.add_zero]
      exact dN r a b
    · have en : znote T c = T 76 0 c := if_neg hz
      rw [e1, l11, ← en, dN _ w1.1 w1.2]
      refine ⟨⟨by omega, by omega⟩, ⟨by omega, by omega⟩, ⟨by omega, by omega⟩, ?_⟩
      intro N2 e2
      have hA2 : Ag T N2 := by rw [e2]; exact hAN.up rfl
      have e1' := hA2.s1
      rw [e1', l11, ← en]
      refine ⟨by rw [gN]; exact ⟨by omega, by omega⟩, ⟨by omega, by omega⟩, ih (_, N2) ⟨by rw [e2]; exact fN.up ⟨rfl, rfl⟩, ?_, fun r a b => ?_⟩⟩
      · rw [zS_succ _ c0, gN]
      · show N2 32 0 r = _
        rw [er]
        by_cases hr : r = T 65 0 c
        · rw [hr, e2, up_eq, if_pos rfl]
        · rw [e2, up_k _ _ _ _ _ _ hr, if_neg (fun z => hr z.symm), Int.add_zero]; exact dN r a b
theorem k_endsRun (hG : Good T) (hL : zLk T) (hA : Ag T M) {r : Int} (r0 : 0 ≤ r) (r1 : r < T 11 0 8) (hp : T 60 0 r = 1) {Qm : Int → Mem → Prop} (hy : ¬ zends T (T 6 r 6) = 0 ∧ ¬ T 61 0 r = 0 → Qm 1 M) (hn : ¬ (¬ zends T (T 6 r 6) = 0 ∧ ¬ T 61 0 r = 0) → Qm 0 M) : wp_X3_endsRun r M Qm := by
  obtain ⟨b1, b2, b3⟩ := zbo_of hG r0 r1 hp
  obtain ⟨-, -, l1, l2, -⟩ := hL.row r0 r1
  obtain ⟨l2, -⟩ := l2 hp
  have e6 := hA.s6
  have e16 := hA.s16
  have hm := hG.many (p := 1) (by omega) (by omega)
  obtain ⟨q1, q2⟩ := hL.part (p := 1) (by omega) (by omega)
  have er : rowL 1 = 16 := rfl
  rw [er] at q1 q2
  simp only [wp_X3_endsRun, e6, e16, l2, q1]
  refine ⟨⟨by omega, by omega⟩, fun h => hn (fun z => z.2 h), fun h => ⟨fun hx => hy ⟨?_, h⟩, fun hx => ?_⟩⟩
  · unfold zends; rw [if_pos (by omega)]; decide
  · rw [q2 (T 6 r 6 + 1) (by omega) (by omega)]
    have eb : T 63 0 (24 * 1 + (T 6 r 6 + 1)) = zbo T (T 6 r 6 + 1) := rfl
    have z := zbo_r hG (k := T 6 r 6 + 1) (by omega) (by omega)
    obtain ⟨-, -, -, m2, -⟩ := hL.row z.1 z.2.1
    rw [eb, (m2 z.2.2.1).1]
    refine ⟨⟨by omega, by omega⟩, ?_⟩
    have ez : zends T (T 6 r 6) = (if T 61 0 (zbo T (T 6 r 6 + 1)) = T 61 0 r then 0 else 1) := by
      unfold zends
      rw [if_neg (by omega), b3]
    by_cases hh : T 61 0 (zbo T (T 6 r 6 + 1)) = T 61 0 r
    · rw [if_pos hh]
      refine ⟨bit_0, hn (fun q => q.1 ?_)⟩
      rw [ez, if_pos hh]
    · rw [if_neg hh]
      refine ⟨bit_1, hy ⟨?_, h⟩⟩
      rw [ez, if_neg hh]; decide
theorem k_collectItems (hG : Good T) (hL : zLk T) (hA : Ag T M) (hh : ∀ r, 0 ≤ r → r < T 11 0 8 → M 35 0 r = zhH T r) (h10 : M 3 0 10 = zat T) {Qm : Mem → Prop} (hq : ∀ M', Fj zCI M M' → zIK (zitm T) M' → Qm M') : wp_X2_collectItems (T 11 0 26) M Qm := by
  have hR := hG.nR
  have hK := hG.nK
  have hm := hG.many (p := 1) (by omega) (by omega)
  have ha := zat_r T hG
  have hat := hG.n.2.2.2.2.2.1
  have hal := zalln_r hG
  obtain ⟨q1, q2⟩ := hL.part (p := 1) (by omega) (by omega)
  have er : rowL 1 = 16 := rfl
  rw [er] at q1 q2
  intro M1 e1
  have f1 : Fj zCI M M1 := by rw [e1]; exact (Fj.rf zCI M).up (Or.inr ⟨rfl, rfl⟩)
  have hA1 : Ag T M1 := f1.ag hA zCI_in
  refine k_countNoteLines hG hL hA1 (fun M2 f2 d2 => ?_)
  have f2' : Fj zCI M M2 := f1.tr (f2.mono (fun s j k z => Or.inl ⟨by rw [z.1]; decide, by rw [z.1]; decide⟩))
  have e8 : M2 3 0 8 = 0 := by rw [f2 3 0 8 (fun z => absurd z.1 (by decide)), e1, up_eq]
  have i0 : zIK (zi1 T 0) M2 := by
    have e : zi1 T 0 = fun _ _ => 0 := zF_self _ _ (by omega)
    rw [e]
    exact ⟨e8, fun k a b => absurd b (by show ¬ k < 0; omega)⟩
  refine zLoop (fun n k N => wp_X2_collectItems_12 (T 11 0 26) Qm n (zalln T (T 64 0 1)) k N) (fun y N => Fj zCI M N ∧ zIK (zi1 T y) N ∧ ∀ r, 0 ≤ r → r < T 11 0 8 → N 32 0 r = zrn T r (T 11 0 15)) (T 64 0 1) hm.1 ⟨f2', i0, d2⟩ (fun n N hN => ?_) (fun n y N y0 y1 hN ih => ?_)
  · obtain ⟨fN, iN, dN⟩ := hN
    have hAN : Ag T N := fN.ag hA zCI_in
    have e16 := hAN.s16
    have e10 : N 3 0 10 = zat T := by rw [fN 3 0 10 (by simp only [zCI]; omega)]; exact h10
    have hend : ∀ N2, Fj zCI M N2 → zIK (zi2 T) N2 → wp_X2_collectItems_157 (T 11 0 26) Qm (zalln T (T 64 0 1)) N2 := fun N2 f2 i2 => by
      have h2 := zi2_ok hG
      refine ⟨fun h => hq N2 f2 ?_, fun h => ⟨fun h' => hq N2 f2 ?_, fun h' => k_addItem (c := 201) h2 (by omega) i2 (by decide) bit_1 (fun N3 f3 i3 _ => hq N3 (f2.tr f3) ?_)⟩⟩
      · unfold zitm; rw [if_neg (by omega)]; exact i2
      · unfold zitm; rw [if_neg (by omega)]; exact i2
      · unfold zitm; rw [if_pos ⟨h, by omega⟩]; exact i3
    refine ⟨fun _ => ?_, fun h => absurd h (by rw [e16]; omega)⟩
    rw [e10]
    refine ⟨fun h => hend N fN ?_, fun h => k_addItem (c := 200) (zi1_ok hG hm.1 (Int.le_refl _)) (by omega) iN (by decide) bit_0 (fun N2 f2 i2 _ => hend N2 (fN.tr f2) ?_)⟩
    · unfold zi2; rw [if_pos (by omega)]; exact iN
    · unfold zi2; rw [if_neg (by omega)]; exact i2
  · obtain ⟨fN, iN, dN⟩ := hN
    have hAN : Ag T N := fN.ag hA zCI_in
    have e16 := hAN.s16
    have e6 := hAN.s6
    obtain ⟨b1, b2, b3, b4⟩ := zbo_r hG y0 y1
    obtain ⟨-, m0, m1, m2, -⟩ := hL.row b1 b2
    obtain ⟨-, m3⟩ := m2 b3
    have eb : T 16 0 y = zbo T y := q2 y y0 y1
    have es : zi1 T (y + 1) = zib T (zi1 T y) y := zF_succ _ _ y0
    have e35 : N 35 0 (zbo T y) = zht T (zwid T) (zbo T y) := by rw [fN 35 0 _ (by simp only [zCI]; omega)]; exact hh _ b1 b2
    have e32 := dN _ b1 b2
    have hz1 := zi1_ok hG y0 (by omega : y ≤ T 64 0 1)
    obtain ⟨-, -, rm, -⟩ := hG.row _ b1 b2
    have hrm : bit (T 62 0 (zbo T y)) := by rcases (by omega : T 62 0 (zbo T y) = 0 ∨ T 62 0 (zbo T y) = 1) with h | h <;> rw [h]; exact bit_0; exact bit_1
    refine ⟨fun h => absurd h (by rw [e16]; omega), fun _ => ?_⟩
    rw [e16, e6, q1, eb, m0, m3, e35, e32]
    refine ⟨⟨by omega, by omega⟩, fun z => absurd z (by omega), fun _ => ⟨fun _ => ⟨⟨by omega, by omega⟩, trivial⟩, ⟨by omega, by omega⟩, ?_⟩⟩
    refine k_addItem (c := zbo T y) (n := if T 11 0 26 = 0 then zrn T (zbo T y) (T 11 0 15) else 0) hz1 (by omega) iN (by unfold zcc; rw [if_pos (by omega)]) hrm (fun N2 f2 i2 h32 => ?_)
    have i2' : zIK (zpb T y (zi1 T y)) N2 := i2
    have fN2 := fN.tr f2
    have hA2 : Ag T N2 := fN2.ag hA zCI_in
    have e10 : N2 3 0 10 = zat T := by rw [fN2 3 0 10 (by simp only [zCI]; omega)]; exact h10
    have dN2 : ∀ r, 0 ≤ r → r < T 11 0 8 → N2 32 0 r = zrn T r (T 11 0 15) := fun r a b => by rw [h32]; exact dN r a b
    have e6' := hA2.s6
    have hdone : ∀ N3, Fj zCI M N3 → zIK (zib T (zi1 T y) y) N3 → (∀ r, 0 ≤ r → r < T 11 0 8 → N3 32 0 r = zrn T r (T 11 0 15)) → wp_X2_collectItems_135 (T 11 0 26) Qm (wp_X2_collectItems_12 (T 11 0 26) Qm n) (zalln T (T 64 0 1)) y N3 := fun N3 f3 i3 d3 => ⟨⟨by omega, by omega⟩, ih N3 ⟨f3, by rw [es]; exact i3, d3⟩⟩
    unfold wp_X2_collectItems_101
    rw [e10]
    refine ⟨fun h => hdone N2 fN2 ?_ dN2, fun h => k_endsRun hG hL hA2 b1 b2 b3 (fun hx => ⟨fun z => absurd z (by decide), fun _ => ?_⟩) (fun hx => ⟨fun _ => hdone N2 fN2 ?_ dN2, fun z => absurd rfl z⟩)⟩
    · unfold zib; rw [if_neg (by omega)]; exact i2'
    · rw [b4] at hx
      rw [e6', m0]
      refine ⟨⟨by omega, by omega⟩, k_addItem (c := 100 + zbo T y) (zpb_ok hG y0 y1 hz1) (by omega) i2' (by unfold zcc; rw [if_neg (by omega), if_pos (by omega)]; omega) bit_0 (fun N3 f3 i3 h32' => hdone N3 (fN2.tr f3) ?_ (fun r a b => by rw [h32']; exact dN2 r a b))⟩
      unfold zib; rw [if_pos ⟨by omega, hx.1, hx.2⟩]; exact i3
    · rw [b4] at hx
      unfold zib; rw [if_neg (fun z => hx ⟨z.2.1, z.2.2⟩)]; exact i2'
end CX2
