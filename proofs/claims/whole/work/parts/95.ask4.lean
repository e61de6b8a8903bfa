/-! the pure part: calls that only ask, fifth part -/
section JA
variable {T M : Mem} {O : zSt} {κ : Nat → Int} {K : (Nat → Int) → Mem → Prop} {p1 p2 : Int}
/-- sums over body rows, by numbers or by places -/
theorem zbody_sum (hG : Good T) (g : Int → Int) (hg : ∀ r, 0 ≤ r → r < T 11 0 8 → ¬ T 60 0 r = 1 → g r = 0) : zS g 0 (T 11 0 8) = zS (fun m => g (zbo T m)) 0 (T 64 0 1) := by
  have hR := hG.nR
  have hm := hG.many (p := 1) (by omega) (by omega)
  have e1 : zS g 0 (T 11 0 8) = zS (fun r => zS (fun m => if zbo T m = r then g r else 0) 0 (T 64 0 1)) 0 (T 11 0 8) := by
    refine zS_congr (fun r r0 r1 => ?_)
    by_cases h : T 60 0 r = 1
    · obtain ⟨m0, m1, em⟩ := zbo_of hG r0 r1 h
      refine (zS_one (a := 0) (b := T 64 0 1) (r0 := T 6 r 6) (v := g r) m0 m1).symm.trans (zS_congr (fun m a b => ?_))
      by_cases e : m = T 6 r 6
      · rw [if_pos e, e, if_pos em]
      · rw [if_neg e, if_neg (fun z => e (zbo_inj hG a b m0 m1 (z.trans em.symm)))]
    · rw [hg r r0 r1 h]
      exact (zS_zero (fun m a b => by split <;> rfl)).symm
  rw [e1, zS_comm (fun r m => if zbo T m = r then g r else 0) hR.1 hm.1]
  refine zS_congr (fun m a b => ?_)
  have z := zbo_r hG a b
  refine (zS_congr (fun r r0 r1 => ?_)).trans (zS_one (a := 0) (b := T 11 0 8) (r0 := zbo T m) (v := g (zbo T m)) z.1 z.2.1)
  by_cases e : r = zbo T m
  · rw [if_pos e, if_pos e.symm, e]
  · rw [if_neg e, if_neg (fun q => e q.symm)]
def zcc1 (T : Mem) (p k c : Int) : Int := if T 73 0 c = 1 ∧ T 59 0 (T 66 0 c) = 0 ∧ T 66 0 c = k then (if T 60 0 (T 65 0 c) = 1 then (if zpg T 7 (T 65 0 c) ≤ p then T 74 0 c else 0) else 0) else 0
theorem zcc1_sum (hG : Good T) (p : Int) {k : Int} (k0 : 0 ≤ k) (k1 : k < T 11 0 4) : zS (zcc1 T p k) 0 (T 11 0 15) = zcar T (zpg T) p k := by
  have hC := hG.nC
  have e1 := zfc_sum hG (fun c => if T 60 0 (T 65 0 c) = 1 then (if zpg T 7 (T 65 0 c) ≤ p then T 74 0 c else 0) else 0) k0 k1
  have e1 : zS (zcc1 T p k) 0 (T 11 0 15) = _ := e1
  rw [e1]
  have e2 : zS (fun r => if zfig T r k = -1 then 0 else (if T 60 0 (T 65 0 (zfig T r k)) = 1 then (if zpg T 7 (T 65 0 (zfig T r k)) ≤ p then T 74 0 (zfig T r k) else 0) else 0)) 0 (T 11 0 8) = zS (fun r => if T 60 0 r = 1 then (if zpg T 7 r ≤ p then zfv T r k else 0) else 0) 0 (T 11 0 8) := zS_congr (fun r r0 r1 => by
    unfold zfv
    by_cases h : zfig T r k = -1
    · rw [if_pos h, if_neg (fun z : ¬ zfig T r k = -1 => z h)]
      split
      · split <;> rfl
      · rfl
    · obtain ⟨-, -, -, f4, -⟩ := zfig_r hG r0 r1 k0 (by omega) h
      rw [if_neg h, f4, if_pos h])
  rw [e2, zbody_sum hG (fun r => if T 60 0 r = 1 then (if zpg T 7 r ≤ p then zfv T r k else 0) else 0) (fun r _ _ h => if_neg h)]
  refine zS_congr (fun m a b => ?_)
  exact if_pos (zbo_r hG a b).2.2.1
theorem k_cbc (hG : Good T) (hL : zLk T) (hA : Ag T M) (d : zDR T M) (h6 : zpg T 0 6 = 0) {p k : Int} (k0 : 0 ≤ k) (k1 : k < T 11 0 4) {Xm : String → Mem → Prop} {Qm : Int → Mem → Prop} (hq : Qm (zcar T (zpg T) p k) M) : ∃ n, wp_X9_carriedByCells_23 p k Xm Qm n 0 0 M := by
  have hC := hG.nC
  have hR := hG.nR
  have hKn := hG.nK
  have e14 := hA.s14
  have e1 := hA.s1
  have e6 := hA.s6
  have n14 := hL.n.2.2
  rw [← zcc1_sum hG p k0 k1] at hq
  refine zLoop (fun n c s => wp_X9_carriedByCells_23 p k Xm Qm n s c M) (fun y s => s = zS (zcc1 T p k) 0 y) (T 11 0 15) hKn.1 (zS_self _ (Int.le_refl _)).symm (fun n s hs => ?_) (fun n c s c0 c1 hs ih => ?_)
  · simp only [wp_X9_carriedByCells_23, e14, n14]
    refine ⟨fun _ => ?_, fun z => absurd z (by omega)⟩
    rw [hs]; exact hq
  · obtain ⟨w1, w2, w3, w4, w5, w6, w7, w8, w9, w10, w11, w12⟩ := hG.cell c c0 c1
    obtain ⟨l0, l1, l2, l3, l4, l7, l8, l9, -⟩ := hL.cell c0 c1
    obtain ⟨r0', r1', r2', -⟩ := hL.row w1.1 w1.2
    have hbd := zS_bd (f := zcc1 T p k) (a := 0) (b := c) (-1000000) 1000000 c0 (fun i a b => by
      have := (hG.cell i a (by omega)).2.2.2.2.2.2.2.1
      unfold zcc1
      split
      · split
        · split <;> omega
        · omega
      · omega)
    have hnx : ∀ v, v = zcc1 T p k c → s + v = zS (zcc1 T p k) 0 (c + 1) := fun v e => by rw [zS_succ _ c0, hs, e]
    have hskip : zcc1 T p k c = 0 → wp_X9_carriedByCells_124 p k Xm Qm (wp_X9_carriedByCells_23 p k Xm Qm n) s c M := fun e => ⟨⟨by omega, by omega⟩, ih s (by rw [← hnx 0 e.symm]; omega)⟩
    simp only [wp_X9_carriedByCells_23, e14, e1, e6, n14, l0, l1, l2, l9, r1', r2']
    refine ⟨fun z => absurd z (by omega), fun _ => ⟨⟨by omega, by omega⟩, k_showsFigure hG hL hA c0 c1 (fun hs1 => ?_) (fun hs1 => ?_)⟩⟩
    · have hsh := zshows_fig hG c0 c1 hs1.1
      have h59 : T 59 0 (T 66 0 c) = 0 := by
        by_cases z : T 59 0 (T 66 0 c) = 0
        · exact z
        · have : zsh T (T 66 0 c) = 0 := if_neg z
          exact absurd (hsh.trans this) hs1.2
      have i1 : ∀ a b : Int, (if (1 : Int) = 0 then a else b) = b := fun _ _ => rfl
      simp only [i1, e1, e6, l1, l2, l9, r1', r2']
      by_cases hk : T 66 0 c = k
      · rw [if_neg (fun z => z hk)]
        by_cases hb : T 60 0 (T 65 0 c) = 1
        · rw [if_neg (fun z => z hb), d.d45 hG h6 w1.1 w1.2 hb]
          refine ⟨fun z => absurd z (by decide), fun _ => ⟨⟨by omega, by omega⟩, fun hx => hskip ?_, fun hx => ⟨by rw [hs]; exact ⟨by omega, by omega⟩, ⟨by omega, by omega⟩, ih _ (hnx _ ?_)⟩⟩⟩
          · unfold zcc1
            rw [if_pos ⟨hs1.1, h59, hk⟩, if_pos hb, if_neg (by omega)]
          · unfold zcc1
            rw [if_pos ⟨hs1.1, h59, hk⟩, if_pos hb, if_pos hx]
        · rw [if_pos hb]
          refine ⟨fun _ => hskip ?_, fun z => absurd rfl z⟩
          unfold zcc1
          rw [if_pos ⟨hs1.1, h59, hk⟩, if_neg hb]
      · rw [if_pos hk]
        exact ⟨fun _ => hskip (if_neg (fun z => hk z.2.2)), fun z => absurd rfl z⟩
    · rw [if_pos rfl]
      refine ⟨fun _ => hskip (if_neg (fun z => hs1 ⟨z.1, ?_⟩)), fun z => absurd rfl z⟩
      rw [zshows_fig hG c0 c1 z.1]
      have : zsh T (T 66 0 c) = 1 := if_pos z.2.1
      omega
theorem l_carriedByCells (h : Iv T O κ M) (hK : ∀ M', Iv T O κ M' → K κ M') : wp_law_36 p1 p2 κ M K := by
  have h' := h
  obtain ⟨hG, hL, hA, -, -, -, hd, -⟩ := h
  have hC := hG.nC
  have hN := (zpg_wf hG).1.2.1
  refine k_hasColumn hG hL hA (fun hp => ⟨fun _ => ?_, fun z => absurd z (by decide)⟩) (fun hp => ⟨fun z => absurd rfl z, fun _ => Or.inl ⟨rfl, ?_⟩⟩)
  · refine k_refresh hG hL hA hd (fun M1 f1 d1 s1 => ⟨fun hs => ?_, fun hs => Or.inr (Or.inl ⟨rfl, ?_⟩)⟩)
    · have h6 := d1.s70.1 hs
      have hA1 := f1.ag hA zRF_in
      refine k_hasPage d1.n (by omega) (fun hq => ⟨fun _ => ?_, fun z => absurd z (by decide)⟩) (fun hq => ⟨fun z => absurd rfl z, fun _ => Or.inr (Or.inr ⟨rfl, ?_⟩)⟩)
      · refine k_cbc hG hL hA1 d1 h6 hp.1 hp.2 ?_
        have hAu : Ag T (up M1 103 0 0 (zcar T (zpg T) p1 p2)) := hA1.up rfl
        refine q_isColumn hG hAu (fun _ => ⟨fun z => absurd z (by decide), fun _ => q_laysPages hG hAu (fun M2 f2 h2 p2 _ _ => ?_)⟩) (fun z => absurd hp z)
        rw [if_pos h6, if_neg (by decide)]
        refine ⟨fun z => absurd z (by decide), fun _ => q_isPage p2.2.1 hN.1 (by omega) (fun _ => q_goes0 (by decide) (by decide) (by decide) ⟨fun z => absurd z (by decide), fun _ => ?_⟩) (fun z => absurd hq z)⟩
        exact q_carries hG ((f2.ag hAu zP_in).up rfl) h6 (p2.u 0) hp.1 (by omega) (fin h' hK f1 (fun _ => d1) f2 rfl)
      · refine q_isColumn hG hA1 (fun _ => ⟨fun z => absurd z (by decide), fun _ => q_laysPages hG hA1 (fun M2 f2 h2 p2 _ _ => ?_)⟩) (fun z => absurd hp z)
        rw [if_pos h6, if_neg (by decide)]
        exact ⟨fun z => absurd z (by decide), fun _ => q_isPage p2.2.1 hN.1 (by omega) (fun z => absurd z hq) (fun _ => q_goes3 (by decide) (by decide) rfl ⟨fun _ => finx h' hK f1 (fun _ => d1) (by decide) f2, fun z => absurd rfl z⟩)⟩
    · have h6 := d1.s70.2 hs
      have hA1 := f1.ag hA zRF_in
      refine q_isColumn hG hA1 (fun _ => ⟨fun z => absurd z (by decide), fun _ => q_laysPages hG hA1 (fun M2 f2 h2 p2 _ _ => ?_)⟩) (fun z => absurd hp z)
      rw [if_neg h6, if_pos rfl]
      exact ⟨fun _ => q_goes2 (by decide) rfl ⟨fun _ => finx h' hK f1 (fun _ => d1) (by decide) f2, fun z => absurd rfl z⟩, fun z => absurd rfl z⟩
  · refine q_isColumn hG hA (fun z => absurd z hp) (fun _ => ⟨fun _ => ?_, fun z => absurd rfl z⟩)
    unfold wp_X10_carried_21 wp_X10_carried_45
    exact q_goes1 rfl ⟨fun _ => finx0 h' hK (by decide), fun z => absurd rfl z⟩
/-! shown -/
/-- lines of a cell's rows on a page; lines still to come -/
def zAq (T : Mem) (c q : Int) : Int := zS (fun i => zlat (zpg T) (zbo T i) q) (T 6 (T 65 0 c) 6) (T 6 (T 65 0 c) 6 + T 67 0 c)
def zRq (T : Mem) (c q : Int) : Int := max 0 (zlinesW T (zwid T) c - zS (zAq T c) 0 q)
theorem zlat_r (hG : Good T) {r q : Int} (q0 : 0 ≤ q) (hl : ∀ k, 0 ≤ k → k < zpg T 0 0 → 1 ≤ zpg T 4 k ∧ zpg T 4 k ≤ 300) : 0 ≤ zlat (zpg T) r q ∧ zlat (zpg T) r q ≤ 270300 := by
  have W := (zpg_wf hG).1
  rw [zlat_lb W q0]
  exact zlb_r hl W.1.2 (zbg_r W q0).1 (zbg_r W q0).2.2
theorem k_linesOfRowsOf (hG : Good T) (hL : zLk T) (hA : Ag T M) (d : zDR T M) (hl : ∀ k, 0 ≤ k → k < zpg T 0 0 → 1 ≤ zpg T 4 k ∧ zpg T 4 k ≤ 300) {c b e : Int} (c0 : 0 ≤ c) (c1 : c < T 11 0 15) (hp : T 60 0 (T 65 0 c) = 1) (b0 : 0 ≤ b) (e1 : e ≤ zpg T 0 0) {Qm : Int → Mem → Prop} (hq : Qm (zS (fun i => zlb (zpg T) (zbo T i) b e) (T 6 (T 65 0 c) 6) (T 6 (T 65 0 c) 6 + T 67 0 c)) M) : wp_X9_linesOfRowsOf c b e M Qm := by
  have W := (zpg_wf hG).1
  have hR := hG.nR
  have hm := hG.many (p := 1) (by omega) (by omega)
  have e16 := hA.s16
  have e6 := hA.s6
  have x1 := hA.s1
  obtain ⟨q1, q2⟩ := hL.part (p := 1) (by omega) (by omega)
  have q1 : T 16 0 (-1) = T 64 0 1 := q1
  have q2 : ∀ k, 0 ≤ k → k < T 64 0 1 → T 16 0 k = zbo T k := q2
  obtain ⟨w1, w2, w3, w4, w5, -⟩ := hG.cell c c0 c1
  obtain ⟨l0, l1, l2, l3, -⟩ := hL.cell c0 c1
  rw [hp] at w5
  obtain ⟨m0, m1, em⟩ := zbo_of hG w1.1 w1.2 hp
  unfold wp_X9_linesOfRowsOf
  rw [x1, e6, e16, l1, l3, q1, show min (T 6 (T 65 0 c) 6 + T 67 0 c) (T 64 0 1) = T 6 (T 65 0 c) 6 + T 67 0 c by omega]
  refine ⟨⟨by omega, by omega⟩, zLoop (fun n k s => wp_X9_linesOfRowsOf_39 c b e Qm n s (T 6 (T 65 0 c) 6 + T 67 0 c) k M) (fun y s => s = zS (fun i => zlb (zpg T) (zbo T i) b e) (T 6 (T 65 0 c) 6) y) (T 6 (T 65 0 c) 6 + T 67 0 c) (by omega) (zS_self _ (Int.le_refl _)).symm (fun n s hs => ?_) (fun n y s y0 y1 hs ih => ?_)⟩
  · refine ⟨fun _ => ?_, fun z => absurd z (by omega)⟩
    rw [hs]; exact hq
  · have z := zbo_r hG (by omega : 0 ≤ y) (by omega : y < T 64 0 1)
    have hb := zS_bd (f := fun i => zlb (zpg T) (zbo T i) b e) (a := T 6 (T 65 0 c) 6) (b := y) 0 270300 y0 (fun i _ _ => zlb_r hl W.1.2 b0 e1)
    have hy := zlb_r hl W.1.2 (r := zbo T y) b0 e1
    have nr := (hL.row z.1 z.2.1).2.1
    simp only [wp_X9_linesOfRowsOf_39, e16, e6, q1, q2 y (by omega) (by omega), nr]
    refine ⟨fun z => absurd z (by omega), fun _ => ⟨⟨by omega, by omega⟩, k_linesOfItem W.1 hl (zpg_cd hG) d.cs z.1 (by omega) b0 e1 ⟨by rw [hs]; exact ⟨by omega, by omega⟩, ⟨by omega, by omega⟩, ih _ ?_⟩⟩⟩
    rw [zS_succ _ y0, hs]
theorem q_shown78 (hG : Good T) (hA : Ag T M) (h6 : zpg T 0 6 = 0) (hP : zPR (zpg T) M) {c p : Int} (c0 : 0 ≤ c) (c1 : c < T 11 0 15) (hp : T 60 0 (T 65 0 c) = 1) (p0 : 0 ≤ p) {Qm : Int → Mem → Prop} (hq : Qm (if zpg T 0 1 ≤ p then 0 else if zRq T c p ≤ zAq T c p then zRq T c p else zAq T c p) M) : ∃ n, wp_X10_shown_78 c p Qm n (zlinesW T (zwid T) c) 0 0 M := by
  have W := (zpg_wf hG).1
  have hN := W.2.1
  have hKn := hG.nK
  have hm := hG.many (p := 1) (by omega) (by omega)
  have hW := zDR.pw hG h6
  have hl : ∀ k, 0 ≤ k → k < zpg T 0 0 → 1 ≤ zpg T 4 k ∧ zpg T 4 k ≤ 300 := fun k a b => (hW.2.2.2.2.2.2.1 k a b).2.1
  have e49 := hP.2.1
  have e65 := hA.s65
  have e67 := hA.s67
  have hlw := zlinesW_r hG (zwid_r hG) c0 c1
  obtain ⟨w1, w2, w3, w4, w5, -⟩ := hG.cell c c0 c1
  have w5' := w5
  rw [hp] at w5'
  obtain ⟨m0, m1, em⟩ := zbo_of hG w1.1 w1.2 hp
  have hAr : ∀ q, 0 ≤ q → 0 ≤ zAq T c q ∧ zAq T c q ≤ 1081200 := fun q q0 => by
    have := zS_bd (f := fun i => zlat (zpg T) (zbo T i) q) (a := T 6 (T 65 0 c) 6) (b := T 6 (T 65 0 c) 6 + T 67 0 c) 0 270300 (by omega) (fun i _ _ => zlat_r hG q0 hl)
    unfold zAq
    omega
  have hR0 : ∀ q, 0 ≤ zRq T c q := fun q => by unfold zRq; omega
  have hR1 : ∀ q, 0 ≤ q → zRq T c q ≤ 24 := fun q q0 => by
    have := zS_nn (f := zAq T c) (a := 0) (b := q) (fun k a _ => (hAr k a).1)
    unfold zRq; omega
  have hRs : ∀ q, 0 ≤ q → zRq T c (q + 1) = zRq T c q - (if zAq T c q < zRq T c q then zAq T c q else zRq T c q) := fun q q0 => by
    have a := hAr q q0
    unfold zRq
    rw [zS_succ _ q0]
    split <;> omega
  have hz0 : zRq T c 0 = zlinesW T (zwid T) c := by unfold zRq; rw [zS_self _ (Int.le_refl _)]; omega
  have := zWhile (fun n q => wp_X10_shown_78 c p Qm n (zRq T c q) (if q = 0 then 0 else if zRq T c (q - 1) ≤ zAq T c (q - 1) then zRq T c (q - 1) else zAq T c (q - 1)) q M) (fun q => 0 ≤ q ∧ q ≤ p + 1 ∧ q ≤ zpg T 0 1) (fun q => (zpg T 0 1 - q).toNat) (fun n q hI ih => ?_) 0 ⟨by omega, by omega, by omega⟩
  · rw [hz0, if_pos rfl] at this
    exact this
  · obtain ⟨q0, q1, q2⟩ := hI
    show wp_X10_shown_78 c p Qm (n + 1) (zRq T c q) (if q = 0 then 0 else if zRq T c (q - 1) ≤ zAq T c (q - 1) then zRq T c (q - 1) else zAq T c (q - 1)) q M
    refine ⟨fun hx => ?_, fun hx => ⟨fun hy => ?_, fun hy => ?_⟩⟩
    · show Qm (if M 11 0 49 ≤ p then (0 : Int) else _) M
      rw [e49, if_neg (by omega), if_neg (by omega), show q - 1 = p by omega]
      rw [if_neg (by omega)] at hq
      exact hq
    · show Qm (if M 11 0 49 ≤ p then (0 : Int) else _) M
      rw [e49] at hy ⊢
      rw [if_pos (by omega)]
      rw [if_pos (by omega)] at hq
      exact hq
    · rw [e49] at hy
      have a := hAr q q0
      have r := hR0 q
      have r' := hR1 q q0
      refine zLoop (fun m k s => wp_X10_shown_99 c p Qm (wp_X10_shown_78 c p Qm n) m (zRq T c q) s q k M) (fun y s => s = zS (fun i => zlat (zpg T) (zbo T i) q) (T 6 (T 65 0 c) 6) (T 6 (T 65 0 c) 6 + y)) (T 67 0 c) (by omega) (zS_self _ (by omega)).symm (fun m s hs => ?_) (fun m y s y0 y1 hs ih2 => ?_)
      · have hs : s = zAq T c q := hs
        have := ih (q + 1) ⟨by omega, by omega, by omega⟩ (by omega)
        rw [if_neg (by omega), show q + 1 - 1 = q by omega, hRs q q0] at this
        have em : (if zAq T c q < zRq T c q then zAq T c q else zRq T c q) = (if zRq T c q ≤ zAq T c q then zRq T c q else zAq T c q) := by
          split
          · rw [if_neg (by omega)]
          · rw [if_pos (by omega)]
        rw [em] at this
        simp only [wp_X10_shown_99, e67]
        rw [hs]
        have hmm : 0 ≤ (if zRq T c q ≤ zAq T c q then zRq T c q else zAq T c q) ∧ (if zRq T c q ≤ zAq T c q then zRq T c q else zAq T c q) ≤ 24 := by split <;> omega
        exact ⟨⟨by omega, by omega⟩, fun _ => ⟨⟨by omega, by omega⟩, ⟨by omega, by omega⟩, this⟩, fun z => absurd z (by omega)⟩
      · have hb := zS_bd (f := fun i => zlat (zpg T) (zbo T i) q) (a := T 6 (T 65 0 c) 6) (b := T 6 (T 65 0 c) 6 + y) 0 270300 (by omega) (fun i _ _ => zlat_r hG q0 hl)
        have hy' := zlat_r hG (r := zbo T (T 6 (T 65 0 c) 6 + y)) q0 hl
        have eb : T 63 0 (24 * T 60 0 (T 65 0 c) + T 6 (T 65 0 c) 6 + y) = zbo T (T 6 (T 65 0 c) 6 + y) := by
          unfold zbo
          rw [hp, show 24 * 1 + T 6 (T 65 0 c) 6 + y = 24 + (T 6 (T 65 0 c) 6 + y) by omega]
        simp only [wp_X10_shown_99, e67, e65]
        refine ⟨⟨by omega, by omega⟩, fun z => absurd z (by omega), fun _ => ⟨⟨by omega, by omega⟩, q_below hG hA w1.1 w1.2 y0 (by rw [hp]; omega) ?_⟩⟩
        rw [eb]
        refine q_linesAt W.1 hl hP ⟨by rw [hs]; exact ⟨by omega, by omega⟩, ⟨by omega, by omega⟩, ih2 _ ?_⟩
        rw [hs, show T 6 (T 65 0 c) 6 + (y + 1) = T 6 (T 65 0 c) 6 + y + 1 by omega, zS_succ _ (by omega)]
theorem l_shown (h : Iv T O κ M) (hK : ∀ M', Iv T O κ M' → K κ M') : wp_law_29 p1 p2 κ M K := by
  have h' := h
  obtain ⟨hG, hL, hA, -, -, -, hd, -⟩ := h
  have hR := hG.nR
  have hKn := hG.nK
  have W := (zpg_wf hG).1
  have hN := W.2.1
  have e14 := hA.s14
  have e1 := hA.s1
  have e6 := hA.s6
  have e60 := hA.s60
  have e65 := hA.s65
  have n14 := hL.n.2.2
  refine k_hasCell hG hL hA (fun hp => ⟨fun _ => ?_, fun z => absurd z (by decide)⟩) (fun hp => ⟨fun z => absurd rfl z, fun _ => Or.inl ⟨rfl, ?_⟩⟩)
  · obtain ⟨l0, l1, l2, -⟩ := hL.cell hp.1 hp.2
    obtain ⟨w1, w2, w3, w4, w5, -⟩ := hG.cell p1 hp.1 hp.2
    obtain ⟨-, r1', r2', -⟩ := hL.row w1.1 w1.2
    dsimp only
    rw [e14, e1, e6, n14, l0, l1, r2']
    have hno : ¬ (T 60 0 (T 65 0 p1) = 1 ∧ 0 ≤ p2) → (wp_X10_shown p1 p2 M fun r1 N1 => wp_X10_thrown N1 fun r2 N2 => r2 = 2 ∧ ((2 : Int) = 0 → N2 103 0 0 = r1) ∧ K κ N2) := fun hx => by
      refine q_isCell hG hA (fun _ => ⟨fun _ => ⟨⟨by omega, by omega⟩, by rw [e65]; exact ⟨by omega, by omega⟩, trivial⟩, ?_⟩) (fun z => absurd hp z)
      rw [e60, e65, if_neg (by decide)]
      have e0 : (if ¬ T 60 0 (T 65 0 p1) = 1 then (0 : Int) else if p2 < 0 then 0 else 1) = 0 := by
        by_cases z : T 60 0 (T 65 0 p1) = 1
        · rw [if_neg (fun w => w z), if_pos (by omega)]
        · rw [if_pos z]
      rw [e0]
      exact ⟨fun _ => q_goes2 (by decide) rfl ⟨fun z => absurd rfl z, fun _ => finx0 h' hK (by decide)⟩, fun z => absurd rfl z⟩
    refine ⟨hp, fun hb => Or.inr (Or.inl ⟨rfl, hno (fun z => hb z.1)⟩), fun hb => ⟨fun hz => ?_, fun hz => Or.inr (Or.inl ⟨rfl, hno (fun z => by omega)⟩)⟩⟩
    have i1 : (if ¬ T 60 0 (T 65 0 p1) = 1 then (0 : Int) else if p2 < 0 then 0 else 1) = 1 := by rw [if_neg (fun w => w hb), if_neg (by omega)]
    refine k_refresh hG hL hA hd (fun M1 f1 d1 s1 => ⟨fun hs => ?_, fun hs => Or.inr (Or.inr ⟨rfl, ?_⟩)⟩)
    · have h6 := d1.s70.1 hs
      have hW := zDR.pw hG h6
      have hl : ∀ k, 0 ≤ k → k < zpg T 0 0 → 1 ≤ zpg T 4 k ∧ zpg T 4 k ≤ 300 := fun k a b => (hW.2.2.2.2.2.2.1 k a b).2.1
      have hbg := zbg_r W hz
      have hA0 := f1.ag hA zRF_in
      have hlw := zlinesW_r hG (zwid_r hG) hp.1 hp.2
      have eAh : zS (fun i => zlb (zpg T) (zbo T i) 0 (zbg (zpg T) p2)) (T 6 (T 65 0 p1) 6) (T 6 (T 65 0 p1) 6 + T 67 0 p1) = zS (zAq T p1) 0 p2 := by
        refine (zS_congr (fun i _ _ => (zlb_sum W (zbo T i) hz).symm)).trans ?_
        exact zS_comm (fun i q => zlat (zpg T) (zbo T i) q) (by omega) hz
      have eHr : zS (fun i => zlb (zpg T) (zbo T i) (zbg (zpg T) p2) (zend (zpg T) p2)) (T 6 (T 65 0 p1) 6) (T 6 (T 65 0 p1) 6 + T 67 0 p1) = zAq T p1 p2 := zS_congr (fun i _ _ => (zlat_lb W hz).symm)
      have rAh := zS_bd (f := fun i => zlb (zpg T) (zbo T i) 0 (zbg (zpg T) p2)) (a := T 6 (T 65 0 p1) 6) (b := T 6 (T 65 0 p1) 6 + T 67 0 p1) 0 270300 (by omega) (fun i _ _ => zlb_r hl W.1.2 (Int.le_refl 0) (by omega))
      have rHr := zS_bd (f := fun i => zlb (zpg T) (zbo T i) (zbg (zpg T) p2) (zend (zpg T) p2)) (a := T 6 (T 65 0 p1) 6) (b := T 6 (T 65 0 p1) 6 + T 67 0 p1) 0 270300 (by omega) (fun i _ _ => zlb_r hl W.1.2 hbg.1 hbg.2.2)
      rw [eAh] at rAh
      rw [eHr] at rHr
      refine k_begin0 hG d1 hz (k_linesOfRowsOf hG hL hA0 d1 hl hp.1 hp.2 hb (Int.le_refl 0) (by omega) (k_pieceEndOf d1.cs.1 ⟨hN.1, by omega⟩ hz (k_linesOfRowsOf hG hL hA0 d1 hl hp.1 hp.2 hb hbg.1 hbg.2.2 ?_)))
      rw [eAh, eHr, d1.2.1 p1 hp.1 hp.2]
      refine ⟨⟨by omega, by omega⟩, ⟨by omega, by omega⟩, ?_⟩
      have ev : max 0 (min (zAq T p1 p2) (zlinesW T (zwid T) p1 - zS (zAq T p1) 0 p2)) = (if zpg T 0 1 ≤ p2 then 0 else if zRq T p1 p2 ≤ zAq T p1 p2 then zRq T p1 p2 else zAq T p1 p2) := by
        by_cases hx : zpg T 0 1 ≤ p2
        · rw [if_pos hx]
          have : zAq T p1 p2 = 0 := by
            rw [← eHr]
            refine zS_zero (fun i _ _ => zS_self _ ?_)
            unfold zbg zend
            rw [if_neg (by omega), if_neg (by omega)]
            exact Int.le_refl _
          omega
        · rw [if_neg hx]
          unfold zRq
          split <;> omega
      have hA1 : Ag T (up M1 103 0 0 (max 0 (min (zAq T p1 p2) (zlinesW T (zwid T) p1 - zS (zAq T p1) 0 p2)))) := hA0.up rfl
      have x60 := hA1.s60
      have x65 := hA1.s65
      refine q_isCell hG hA1 (fun _ => ⟨fun _ => ⟨⟨by omega, by omega⟩, by rw [x65]; exact ⟨by omega, by omega⟩, trivial⟩, ?_⟩) (fun z => absurd hp z)
      rw [x60, x65, if_neg (by decide), i1]
      refine ⟨fun z => absurd z (by decide), fun _ => q_laysPages hG hA1 (fun M2 f2 h2 p2 _ _ => ?_)⟩
      rw [if_pos h6]
      have hA2 := f2.ag hA1 zP_in
      refine q_goes0 (by decide) (by decide) (by decide) ⟨fun _ => q_linesOf hG (hA2.up rfl) hp.1 hp.2 (w := zwid T) (fun k a b => ((h2.u 0).1 k a b).2.2.2) (zwid_r hG) (q_shown78 hG (hA2.up rfl) h6 (p2.u 0) hp.1 hp.2 hb hz (fin h' hK f1 (fun _ => d1) f2 ev)), fun z => absurd z (by decide)⟩
    · have h6 := d1.s70.2 hs
      have hA1 := f1.ag hA zRF_in
      have x60 := hA1.s60
      have x65 := hA1.s65
      refine q_isCell hG hA1 (fun _ => ⟨fun _ => ⟨⟨by omega, by omega⟩, by rw [x65]; exact ⟨by omega, by omega⟩, trivial⟩, ?_⟩) (fun z => absurd hp z)
      rw [x60, x65, if_neg (by decide), i1]
      refine ⟨fun z => absurd z (by decide), fun _ => q_laysPages hG hA1 (fun M2 f2 h2 p2 _ _ => ?_)⟩
      rw [if_neg h6]
      exact q_goes3 (by decide) (by decide) rfl ⟨fun z => absurd rfl z, fun _ => finx h' hK f1 (fun _ => d1) (by decide) f2⟩
  · refine q_isCell hG hA (fun z => absurd z hp) (fun _ => ⟨fun z => absurd rfl z, ?_⟩)
    rw [if_pos rfl]
    exact ⟨fun _ => q_goes1 rfl ⟨fun z => absurd rfl z, fun _ => finx0 h' hK (by decide)⟩, fun z => absurd rfl z⟩
end JA
