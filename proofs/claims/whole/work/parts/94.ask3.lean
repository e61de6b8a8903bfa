/-! the pure part: calls that only ask, fourth part: sums, and lines shown -/
section IA
variable {T M : Mem} {O : zSt} {κ : Nat → Int} {K : (Nat → Int) → Mem → Prop} {p1 p2 : Int}
/-- figures of body rows, by places -/
def zfb (T : Mem) (c m : Int) : Int := zfv T (zbo T m) c
theorem zfb_r (hG : Good T) {c b e : Int} (c0 : 0 ≤ c) (c1 : c < 6) (b0 : 0 ≤ b) (be : b ≤ e) (e1 : e ≤ T 64 0 1) : -24000000 ≤ zS (zfb T c) b e ∧ zS (zfb T c) b e ≤ 24000000 := by
  have hm := hG.many (p := 1) (by omega) (by omega)
  have := zS_bd (f := zfb T c) (a := b) (b := e) (-1000000) 1000000 be (fun m a d => by
    have z := zbo_r hG (by omega : 0 ≤ m) (by omega : m < T 64 0 1)
    exact zfv_r hG z.1 z.2.1 c0 c1)
  omega
theorem k_sumOfBody (hG : Good T) (hL : zLk T) (hA : Ag T M) {b e c : Int} (c0 : 0 ≤ c) (c1 : c < 6) (b0 : 0 ≤ b) (be : b ≤ e) (e1 : e ≤ T 64 0 1) {Qm : Int → Mem → Prop} (hq : Qm (zS (zfb T c) b e) M) : wp_X3_sumOfBody b e c M Qm := by
  have hm := hG.many (p := 1) (by omega) (by omega)
  have e16 := hA.s16
  obtain ⟨q1, q2⟩ := hL.part (p := 1) (by omega) (by omega)
  have q1 : T 16 0 (-1) = T 64 0 1 := q1
  have q2 : ∀ k, 0 ≤ k → k < T 64 0 1 → T 16 0 k = zbo T k := q2
  unfold wp_X3_sumOfBody
  rw [show max 0 b = b by omega]
  refine zLoop (fun n k s => wp_X3_sumOfBody_10 b e c Qm n s k M) (fun y s => s = zS (zfb T c) b y) e be (zS_self _ (Int.le_refl _)).symm (fun n s hs => ?_) (fun n y s y0 y1 hs ih => ?_)
  · refine ⟨fun _ => ?_, fun z => absurd z (by omega)⟩
    rw [hs]; exact hq
  · have z := zbo_r hG (by omega : 0 ≤ y) (by omega : y < T 64 0 1)
    have hb := zfb_r hG c0 c1 b0 y0 (by omega)
    have hf := zfv_r hG z.1 z.2.1 c0 c1
    simp only [wp_X3_sumOfBody_10, e16, q1, q2 y (by omega) (by omega)]
    refine ⟨fun z => absurd z (by omega), fun _ => ⟨fun z => absurd z (by omega), fun _ => ⟨⟨by omega, by omega⟩, k_figureAt hG hL hA z.1 z.2.1 c0 c1 ⟨by rw [hs]; exact ⟨by omega, by omega⟩, ⟨by omega, by omega⟩, ih _ ?_⟩⟩⟩⟩
    rw [zS_succ _ y0, hs]; rfl
theorem q_total17 (hG : Good T) (hA : Ag T M) {c : Int} (c0 : 0 ≤ c) (c1 : c < 6) {Qm : Int → Mem → Prop} (hq : Qm (zS (zfb T c) 0 (T 64 0 1)) M) : ∃ n, wp_X10_total_17 c Qm n 0 1 0 M := by
  have hm := hG.many (p := 1) (by omega) (by omega)
  have e63 := hA.s63
  have e64 := hA.s64
  refine zLoop (fun n k s => wp_X10_total_17 c Qm n s 1 k M) (fun y s => s = zS (zfb T c) 0 y) (T 64 0 1) hm.1 (zS_self _ (Int.le_refl _)).symm (fun n s hs => ?_) (fun n y s y0 y1 hs ih => ?_)
  · simp only [wp_X10_total_17, e64]
    refine ⟨fun z => absurd z (by decide), fun _ => ⟨fun _ => ?_, fun z => absurd z (by omega)⟩⟩
    rw [hs]; exact hq
  · have z := zbo_r hG y0 y1
    have hb := zfb_r hG c0 c1 (Int.le_refl 0) y0 (by omega)
    have hf := zfv_r hG z.1 z.2.1 c0 c1
    have eb : T 63 0 (24 + y) = zbo T y := rfl
    simp only [wp_X10_total_17, e63, e64, eb]
    refine ⟨fun z => absurd z (by decide), fun _ => ⟨fun z => absurd z (by omega), fun _ => ⟨⟨by omega, by omega⟩, ⟨by omega, by omega⟩, q_figureAt hG hA z.1 z.2.1 c0 c1 ⟨by rw [hs]; exact ⟨by omega, by omega⟩, ⟨by omega, by omega⟩, ih _ ?_⟩⟩⟩⟩
    rw [zS_succ _ y0, hs]; rfl
theorem l_total (h : Iv T O κ M) (hK : ∀ M', Iv T O κ M' → K κ M') : wp_law_33 p1 κ M K := by
  have h' := h
  obtain ⟨hG, hL, hA, -⟩ := h
  have hC := hG.nC
  have hm := hG.many (p := 1) (by omega) (by omega)
  have e16 := hA.s16
  have q1 : T 16 0 (-1) = T 64 0 1 := (hL.part (p := 1) (by omega) (by omega)).1
  refine k_hasColumn hG hL hA (fun hp => ⟨fun _ => ?_, fun z => absurd z (by decide)⟩) (fun hp => ⟨fun z => absurd rfl z, fun _ => ⟨rfl, ?_⟩⟩)
  · dsimp only
    rw [e16, q1]
    refine k_sumOfBody hG hL hA hp.1 (by omega) (Int.le_refl _) hm.1 (Int.le_refl _) ?_
    have hA1 : Ag T (up M 103 0 0 (zS (zfb T p1) 0 (T 64 0 1))) := hA.up rfl
    refine q_isColumn hG hA1 (fun _ => q_goes0 (by decide) (by decide) (by decide) (q_total17 hG (ag_rc hA _ 0) hp.1 (by omega) ?_)) (fun z => absurd hp z)
    exact ⟨v59 _ _ _, fun _ => v103 _ _ _, hK _ (h'.q0 (q2_rc _ _ _))⟩
  · refine q_isColumn hG hA (fun z => absurd z hp) (fun _ => q_goes1 rfl ⟨1, fun _ => finx0 h' hK (by decide), fun z => absurd rfl z⟩)
/-- where a run begins -/
def zrun (T : Mem) (r b : Int) : Prop := (0 ≤ b ∧ b ≤ T 6 r 6) ∧ (∀ m, b ≤ m → m ≤ T 6 r 6 → T 61 0 (zbo T m) = T 61 0 r) ∧ (b = 0 ∨ ¬ T 61 0 (zbo T (b - 1)) = T 61 0 r)
theorem k_beginOfRun (hG : Good T) (hL : zLk T) (hA : Ag T M) {r : Int} (r0 : 0 ≤ r) (r1 : r < T 11 0 8) (hp : T 60 0 r = 1) {Qm : Int → Mem → Prop} (hq : ∀ b, zrun T r b → Qm b M) : wp_X3_beginOfRun r M Qm := by
  have hm := hG.many (p := 1) (by omega) (by omega)
  have e16 := hA.s16
  have e6 := hA.s6
  obtain ⟨q1, q2⟩ := hL.part (p := 1) (by omega) (by omega)
  have q1 : T 16 0 (-1) = T 64 0 1 := q1
  have q2 : ∀ k, 0 ≤ k → k < T 64 0 1 → T 16 0 k = zbo T k := q2
  obtain ⟨m0, m1, em⟩ := zbo_of hG r0 r1 hp
  have g0 := ((hL.row r0 r1).2.2.2.1 hp).1
  unfold wp_X3_beginOfRun
  rw [e6]
  refine zWhile (fun n y => wp_X3_beginOfRun_5 r Qm n y M) (fun y => 0 ≤ y ∧ y ≤ T 6 r 6 ∧ ∀ m, y ≤ m → m ≤ T 6 r 6 → T 61 0 (zbo T m) = T 61 0 r) (fun y => y.toNat) (fun n y hy ih => ?_) (T 6 r 6) ⟨m0, Int.le_refl _, fun m a b => by rw [show m = T 6 r 6 by omega, em]⟩
  obtain ⟨y0, y1, hy⟩ := hy
  show wp_X3_beginOfRun_5 r Qm (n + 1) y M
  simp only [wp_X3_beginOfRun_5, e16, e6, q1, g0]
  refine ⟨fun z => hq y ⟨⟨y0, y1⟩, hy, Or.inl (by omega)⟩, fun z => ⟨fun w => absurd w (by omega), fun _ => ?_⟩⟩
  have zz := zbo_r hG (by omega : 0 ≤ y - 1) (by omega : y - 1 < T 64 0 1)
  have g1 := ((hL.row zz.1 zz.2.1).2.2.2.1 zz.2.2.1).1
  rw [q2 (y - 1) (by omega) (by omega), g1]
  refine ⟨⟨by omega, by omega⟩, ⟨by omega, by omega⟩, fun w => hq y ⟨⟨y0, y1⟩, hy, Or.inr w⟩, fun w => ⟨⟨by omega, by omega⟩, ih (y + (-1)) ⟨by omega, by omega, fun m a b => ?_⟩ (by omega)⟩⟩
  by_cases e : m = y - 1
  · rw [e]; exact w
  · exact hy m (by omega) b
theorem q_sub95 (hG : Good T) (hA : Ag T M) {r c v : Int} (r0 : 0 ≤ r) (r1 : r < T 11 0 8) (hp : T 60 0 r = 1) (c0 : 0 ≤ c) (c1 : c < 6) (hv1 : (¬ zends T (T 6 r 6) = 0 ∧ ¬ T 61 0 r = 0) → ∃ b, zrun T r b ∧ v = zS (zfb T c) b (T 6 r 6 + 1)) (hv2 : ¬ (¬ zends T (T 6 r 6) = 0 ∧ ¬ T 61 0 r = 0) → v = 0) {Qm : Int → Mem → Prop} (hq : Qm v M) : ∃ n, wp_X10_subtotal_95 r c Qm n (zends T (T 6 r 6)) 0 (24 + T 6 r 6) M := by
  have hR := hG.nR
  have hm := hG.many (p := 1) (by omega) (by omega)
  have x63 := hA.s63
  have x61 := hA.s61
  obtain ⟨m0, m1, em⟩ := zbo_of hG r0 r1 hp
  have hfin : ∀ s, s = v → wp_X10_subtotal_160 r c Qm s M := fun s e => by rw [e]; exact hq
  by_cases hx : ¬ zends T (T 6 r 6) = 0 ∧ ¬ T 61 0 r = 0
  · obtain ⟨b, ⟨⟨b0, b1⟩, hb2, hb3⟩, ev⟩ := hv1 hx
    have := zWhile (fun n y => wp_X10_subtotal_95 r c Qm n (zends T (T 6 r 6)) (zS (zfb T c) (y + 1) (T 6 r 6 + 1)) (24 + y) M) (fun y => b - 1 ≤ y ∧ y ≤ T 6 r 6) (fun y => (y + 1 - b).toNat) (fun n y hy ih => ?_) (T 6 r 6) ⟨by omega, Int.le_refl _⟩
    · rw [zS_self _ (Int.le_refl _)] at this
      exact this
    · obtain ⟨y0, y1⟩ := hy
      show wp_X10_subtotal_95 r c Qm (n + 1) (zends T (T 6 r 6)) (zS (zfb T c) (y + 1) (T 6 r 6 + 1)) (24 + y) M
      have eb : T 63 0 (24 + y) = zbo T y := rfl
      simp only [wp_X10_subtotal_95, x63, x61, eb]
      have hstop : y = b - 1 → zS (zfb T c) (y + 1) (T 6 r 6 + 1) = v := fun e => by rw [ev, e, show b - 1 + 1 = b by omega]
      refine ⟨fun z => absurd z hx.1, fun _ => ⟨⟨by omega, by omega⟩, fun z => absurd z hx.2, fun _ => ⟨fun z => hfin _ (hstop (by omega)), fun z => ?_⟩⟩⟩
      have zz := zbo_r hG (by omega : 0 ≤ y) (by omega : y < T 64 0 1)
      refine ⟨⟨by omega, by omega⟩, ⟨by omega, by omega⟩, ⟨by omega, by omega⟩, fun w => hfin _ (hstop ?_), fun w => ⟨⟨by omega, by omega⟩, q_figureAt hG hA zz.1 zz.2.1 c0 c1 ?_⟩⟩
      · by_cases e : y = b - 1
        · exact e
        · exact absurd (hb2 y (by omega) y1) w
      · have hyb : b ≤ y := by
          by_cases e : y = b - 1
          · rcases hb3 with hb3 | hb3
            · omega
            · rw [← e] at hb3; exact absurd w hb3
          · omega
        have hb4 := zfb_r hG c0 c1 (by omega : 0 ≤ y + 1) (by omega : y + 1 ≤ T 6 r 6 + 1) (by omega)
        have hf := zfv_r hG zz.1 zz.2.1 c0 c1
        refine ⟨⟨by omega, by omega⟩, ⟨by omega, by omega⟩, ?_⟩
        have := ih (y - 1) ⟨by omega, by omega⟩ (by omega)
        have es : zS (zfb T c) (y - 1 + 1) (T 6 r 6 + 1) = zS (zfb T c) (y + 1) (T 6 r 6 + 1) + zfv T (zbo T y) c := by
          rw [show y - 1 + 1 = y by omega, zS_split _ (a := y) (m := y + 1) (b := T 6 r 6 + 1) (by omega) (by omega), zS_succ _ (Int.le_refl y), zS_self _ (Int.le_refl y)]
          show 0 + zfv T (zbo T y) c + _ = _
          omega
        rw [es, show 24 + (y - 1) = 24 + y + (-1) by omega] at this
        exact this
  · refine ⟨1, fun _ => hfin _ (hv2 hx).symm, fun z => ⟨⟨by omega, by omega⟩, fun _ => hfin _ (hv2 hx).symm, fun w => ?_⟩⟩
    rw [x61] at w
    exact absurd ⟨z, w⟩ hx
theorem l_subtotal (h : Iv T O κ M) (hK : ∀ M', Iv T O κ M' → K κ M') : wp_law_34 p1 p2 κ M K := by
  have h' := h
  obtain ⟨hG, hL, hA, -⟩ := h
  have hC := hG.nC
  have hR := hG.nR
  have hm := hG.many (p := 1) (by omega) (by omega)
  have e13 := hA.s13
  have e6 := hA.s6
  have n13 := hL.n.2.1
  refine k_hasRow hG hL hA (fun hp => ⟨fun _ => ?_, fun z => absurd z (by decide)⟩) (fun hp => ⟨fun z => absurd rfl z, fun _ => Or.inl ⟨rfl, ?_⟩⟩)
  · refine k_hasColumn hG hL hA (fun hc => ⟨fun _ => ?_, fun z => absurd z (by decide)⟩) (fun hc => ⟨fun z => absurd rfl z, fun _ => Or.inl ⟨rfl, ?_⟩⟩)
    · refine k_isBodyRow hG hL hA (fun hb => ⟨fun _ => ?_, fun z => absurd z (by decide)⟩) (fun hb => ⟨fun z => absurd rfl z, fun _ => Or.inr ⟨rfl, ?_⟩⟩)
      · obtain ⟨m0, m1, em⟩ := zbo_of hG hb.1 hb.2.1 hb.2.2
        have l1 := (hL.row hb.1 hb.2.1).1
        rw [e13, n13, l1]
        -- the reference
        have ref : ∀ v : Int, ((¬ zends T (T 6 p1 6) = 0 ∧ ¬ T 61 0 p1 = 0) → ∃ b, zrun T p1 b ∧ v = zS (zfb T p2) b (T 6 p1 6 + 1)) → (¬ (¬ zends T (T 6 p1 6) = 0 ∧ ¬ T 61 0 p1 = 0) → v = 0) → (wp_X10_subtotal p1 p2 (up M 103 0 0 v) fun r1 N1 => wp_X10_thrown N1 fun r2 N2 => r2 = 0 ∧ ((0 : Int) = 0 → N2 103 0 0 = r1) ∧ K κ N2) := fun v hv1 hv2 => by
          have hA1 : Ag T (up M 103 0 0 v) := hA.up rfl
          refine q_isRow hG hA1 (fun _ => ⟨fun z => absurd z (by decide), fun _ => q_isColumn hG hA1 (fun _ => q_isBody hG hA1 (fun _ => q_goes0 (by decide) (by decide) (by decide) ⟨fun _ => ?_, fun z => absurd z (by decide)⟩) (fun z => absurd hb z)) (fun z => absurd hc z)⟩) (fun z => absurd hp z)
          have hA2 := ag_rc hA v 0
          have x63 := hA2.s63
          have x64 := hA2.s64
          have x61 := hA2.s61
          refine q_placeOf hG hA2 hb.1 hb.2.1 ?_
          have ez : (if (24 + T 6 p1 6) + 1 = 24 + T 64 0 1 then (1 : Int) else if T 61 0 (T 63 0 ((24 + T 6 p1 6) + 1)) = T 61 0 p1 then 0 else 1) = zends T (T 6 p1 6) := by
            unfold zends
            rw [em]
            by_cases e : T 6 p1 6 + 1 = T 64 0 1
            · rw [if_pos e, if_pos (by omega)]
            · rw [if_neg e, if_neg (by omega)]
              unfold zbo
              rw [show 24 + T 6 p1 6 + 1 = 24 + (T 6 p1 6 + 1) by omega]
          rw [x63, x64, x61, ez]
          refine ⟨⟨by omega, by omega⟩, ⟨by omega, by omega⟩, ⟨by omega, by omega⟩, fun hne => ⟨⟨by omega, by omega⟩, ⟨by omega, by omega⟩, ?_, ⟨by omega, by omega⟩, trivial⟩, ?_⟩
          · have := zbo_r hG (by omega : 0 ≤ T 6 p1 6 + 1) (by omega : T 6 p1 6 + 1 < T 64 0 1)
            have eb : T 63 0 (24 + T 6 p1 6 + 1) = zbo T (T 6 p1 6 + 1) := by unfold zbo; rw [show 24 + T 6 p1 6 + 1 = 24 + (T 6 p1 6 + 1) by omega]
            rw [eb]; exact ⟨by omega, by omega⟩
          · exact q_sub95 hG hA2 hb.1 hb.2.1 hb.2.2 hc.1 (by omega) hv1 hv2 ⟨v59 _ _ _, fun _ => v103 _ _ _, hK _ (h'.q0 (q2_rc _ _ _))⟩
        refine ⟨hp, k_endsRun hG hL hA hb.1 hb.2.1 hb.2.2 (fun hx => ⟨fun _ => k_beginOfRun hG hL hA hb.1 hb.2.1 hb.2.2 (fun b hbr => ?_), fun z => absurd z (by decide)⟩) (fun hx => ⟨fun z => absurd rfl z, fun _ => ref 0 (fun z => absurd z hx) (fun _ => rfl)⟩)⟩
        rw [e6]
        refine ⟨⟨by omega, by omega⟩, k_sumOfBody hG hL hA hc.1 (by omega) hbr.1.1 (by have := hbr.1.2; omega) (by omega) (ref _ (fun _ => ⟨b, hbr, rfl⟩) (fun z => absurd hx z))⟩
      · refine q_isRow hG hA (fun _ => ⟨fun z => absurd z (by decide), fun _ => q_isColumn hG hA (fun _ => q_isBody hG hA (fun z => absurd z hb) (fun _ => q_goes2 (by decide) rfl ⟨fun z => absurd rfl z, fun _ => finx0 h' hK (by decide)⟩)) (fun z => absurd hc z)⟩) (fun z => absurd hp z)
    · refine q_isRow hG hA (fun _ => ⟨fun z => absurd z (by decide), fun _ => q_isColumn hG hA (fun z => absurd z hc) (fun _ => q_isBody hG hA (fun _ => q_goes1 rfl ⟨fun z => absurd rfl z, fun _ => finx0 h' hK (by decide)⟩) (fun _ => q_goes1 rfl ⟨fun z => absurd rfl z, fun _ => finx0 h' hK (by decide)⟩))⟩) (fun z => absurd hp z)
  · refine q_isRow hG hA (fun z => absurd z hp) (fun _ => ⟨fun _ => q_isBody hG hA (fun _ => q_goes1 rfl ⟨fun z => absurd rfl z, fun _ => finx0 h' hK (by decide)⟩) (fun _ => q_goes1 rfl ⟨fun z => absurd rfl z, fun _ => finx0 h' hK (by decide)⟩), fun z => absurd rfl z⟩)
end IA
