/-! the pure part: calls that only ask, fifth part -/
section JA
variable {T M : Mem} {O : zSt} {κ : Nat → Int} {K : (Nat → Int) → Mem → Prop} {p1 p2 : Int}
/-- sums over body rows, by numbers or by places -/
theorem zbody_sum (hG : Good T) (g : Int → Int) (hg : ∀ r, 0 ≤ r → r < T 11 0 8 → ¬ T 60 0 r = 1 → g r = 0) : zS g 0 (T 11 0 8) = zS (fun m => g (zbo T m)) 0 (T 64 0 1) := by
  have hR := hG.nR
  have hm := hG.many (p := 1) (by omega) (by omega)
  have e1 : zS g 0 (T 11 0 8) = zS (fun r => zS (fun m => if zbo T m = r then g r else 0) 0 (T 64 0 1)) 0 (T 11 0 8) := by
    refine zS_congr (fun r r0 r1 => ?_)
    by_cases h : T 60 0 r = 1
    · obtain ⟨m0, m1, em⟩ := zbo_of hG r0 r1 h
      refine (zS_one (a := 0) (b := T 64 0 1) (r0 := T 6 r 6) (v := g r) m0 m1).symm.trans (zS_congr (fun m a b => ?_))
      by_cases e : m = T 6 r 6
      · rw [if_pos e, e, if_pos em]
      · rw [if_neg e, if_neg (fun z => e (zbo_inj hG a b m0 m1 (z.trans em.symm)))]
    · rw [hg r r0 r1 h]
      exact (zS_zero (fun m a b => by split <;> rfl)).symm
  rw [e1, zS_comm (fun r m => if zbo T m = r then g r else 0) hR.1 hm.1]
  refine zS_congr (fun m a b => ?_)
  have z := zbo_r hG a b
  refine (zS_congr (fun r r0 r1 => ?_)).trans (zS_one (a := 0) (b := T 11 0 8) (r0 := zbo T m) (v := g (zbo T m)) z.1 z.2.1)
  by_cases e : r = zbo T m
  · rw [if_pos e, if_pos e.symm, e]
  · rw [if_neg e, if_neg (fun q => e q.symm)]
def zcc1 (T : Mem) (p k c : Int) : Int := if T 73 0 c = 1 ∧ T 59 0 (T 66 0 c) = 0 ∧ T 66 0 c = k then (if T 60 0 (T 65 0 c) = 1 then (if zpg T 7 (T 65 0 c) ≤ p then T 74 0 c else 0) else 0) else 0
theorem zcc1_sum (hG : Good T) (p : Int) {k : Int} (k0 : 0 ≤ k) (k1 : k < T 11 0 4) : zS (zcc1 T p k) 0 (T 11 0 15) = zcar T (zpg T) p k := by
  have hC := hG.nC
  have e1 := zfc_sum hG (fun c => if T 60 0 (T 65 0 c) = 1 then (if zpg T 7 (T 65 0 c) ≤ p then T 74 0 c else 0) else 0) k0 k1
  have e1 : zS (zcc1 T p k) 0 (T 11 0 15) = _ := e1
  rw [e1]
  have e2 : zS (fun r => if zfig T r k = -1 then 0 else (if T 60 0 (T 65 0 (zfig T r k)) = 1 then (if zpg T 7 (T 65 0 (zfig T r k)) ≤ p then T 74 0 (zfig T r k) else 0) else 0)) 0 (T 11 0 8) = zS (fun r => if T 60 0 r = 1 then (if zpg T 7 r ≤ p then zfv T r k else 0) else 0) 0 (T 11 0 8) := zS_congr (fun r r0 r1 => by
    unfold zfv
    by_cases h : zfig T r k = -1
    · rw [if_pos h, if_neg (fun z : ¬ zfig T r k = -1 => z h)]
      split
      · split <;> rfl
      · rfl
    · obtain ⟨-, -, -, f4, -⟩ := zfig_r hG r0 r1 k0 (by omega) h
      rw [if_neg h, f4, if_pos h])
  rw [e2, zbody_sum hG (fun r => if T 60 0 r = 1 then (if zpg T 7 r ≤ p then zfv T r k else 0) else 0) (fun r _ _ h => if_neg h)]
  refine zS_congr (fun m a b => ?_)
  exact if_pos (zbo_r hG a b).2.2.1
theorem k_cbc (hG : Good T) (hL : zLk T) (hA : Ag T M) (d : zDR T M) (h6 : zpg T 0 6 = 0) {p k : Int} (k0 : 0 ≤ k) (k1 : k < T 11 0 4) {Xm : String → Mem → Prop} {Qm : Int → Mem → Prop} (hq : Qm (zcar T (zpg T) p k) M) : ∃ n, wp_X9_carriedByCells_23 p k Xm Qm n 0 0 M := by
  have hC := hG.nC
  have hR := hG.nR
  have hKn := hG.nK
  have e14 := hA.s14
  have e1 := hA.s1
  have e6 := hA.s6
  have n14 := hL.n.2.2
  rw [← zcc1_sum hG p k0 k1] at hq
  refine zLoop (fun n c s => wp_X9_carriedByCells_23 p k Xm Qm n s c M) (fun y s => s = zS (zcc1 T p k) 0 y) (T 11 0 15) hKn.1 (zS_self _ (Int.le_refl _)).symm (fun n s hs => ?_) (fun n c s c0 c1 hs ih => ?_)
  · simp only [wp_X9_carriedByCells_23, e14, n14]
    refine ⟨fun _ => ?_, fun z => absurd z (by omega)⟩
    rw [hs]; exact hq
  · obtain ⟨w1, w2, w3, w4, w5, w6, w7, w8, w9, w10, w11, w12⟩ := hG.cell c c0 c1
    obtain ⟨l0, l1, l2, l3, l4, l7, l8, l9, -⟩ := hL.cell c0 c1
    obtain ⟨r0', r1', r2', -⟩ := hL.row w1.1 w1.2
    have hbd := zS_bd (f := zcc1 T p k) (a := 0) (b := c) (-1000000) 1000000 c0 (fun i a b => by
      have := (hG.cell i a (by omega)).2.2.2.2.2.2.2.1
      unfold zcc1
      split
      · split
        · split <;> omega
        · omega
      · omega)
    have hnx : ∀ v, v = zcc1 T p k c → s + v = zS (zcc1 T p k) 0 (c + 1) := fun v e => by rw [zS_succ _ c0, hs, e]
    have hskip : zcc1 T p k c = 0 → wp_X9_carriedByCells_124 p k Xm Qm (wp_X9_carriedByCells_23 p k Xm Qm n) s c M := fun e => ⟨⟨by omega, by omega⟩, ih s (by rw [← hnx 0 e.symm]; omega)⟩
    simp only [wp_X9_carriedByCells_23, e14, e1, e6, n14, l0, l1, l2, l9, r1', r2']
    refine ⟨fun z => absurd z (by omega), fun _ => ⟨⟨by omega, by omega⟩, k_showsFigure hG hL hA c0 c1 (fun hs1 => ?_) (fun hs1 => ?_)⟩⟩
    · have hsh := zshows_fig hG c0 c1 hs1.1
      have h59 : T 59 0 (T 66 0 c) = 0 := by
        by_cases z : T 59 0 (T 66 0 c) = 0
        · exact z
        · have : zsh T (T 66 0 c) = 0 := if_neg z
          exact absurd (hsh.trans this) hs1.2
      have i1 : ∀ a b : Int, (if (1 : Int) = 0 then a else b) = b := fun _ _ => rfl
      simp only [i1, e1, e6, l1, l2, l9, r1', r2']
      by_cases hk : T 66 0 c = k
      · rw [if_neg (fun z => z hk)]
        by_cases hb : T 60 0 (T 65 0 c) = 1
        · rw [if_neg (fun z => z hb), d.d45 hG h6 w1.1 w1.2 hb]
          refine ⟨fun z => absurd z (by decide), fun _ => ⟨⟨by omega, by omega⟩, fun hx => hskip ?_, fun hx => ⟨by rw [hs]; exact ⟨by omega, by omega⟩, ⟨by omega, by omega⟩, ih _ (hnx _ ?_)⟩⟩⟩
          · unfold zcc1
            rw [if_pos ⟨hs1.1, h59, hk⟩, if_pos hb, if_neg (by omega)]
          · unfold zcc1
            rw [if_pos ⟨hs1.1, h59, hk⟩, if_pos hb, if_pos hx]
        · rw [if_pos hb]
          refine ⟨fun _ => hskip ?_, fun z => absurd rfl z⟩
          unfold zcc1
          rw [if_pos ⟨hs1.1, h59, hk⟩, if_neg hb]
      · rw [if_pos hk]
        exact ⟨fun _ => hskip (if_neg (fun z => hk z.2.2)), fun z => absurd rfl z⟩
    · rw [if_pos rfl]
      refine ⟨fun _ => hskip (if_neg (fun z => hs1 ⟨z.1, ?_⟩)), fun z => absurd rfl z⟩
      rw [zshows_fig hG c0 c1 z.1]
      have : zsh T (T 66 0 c) = 1 := if_pos z.2.1
      omega
/-! shown -/
/-- lines of a cell's rows on a page; lines still to come -/
def zAq (T : Mem) (c q : Int) : Int := zS (fun i => zlat (zpg T) (zbo T i) q) (T 6 (T 65 0 c) 6) (T 6 (T 65 0 c) 6 + T 67 0 c)
def zRq (T : Mem) (c q : Int) : Int := max 0 (zlinesW T (zwid T) c - zS (zAq T c) 0 q)
theorem zlat_r (hG : Good T) {r q : Int} (q0 : 0 ≤ q) (hl : ∀ k, 0 ≤ k → k < zpg T 0 0 → 1 ≤ zpg T 4 k ∧ zpg T 4 k ≤ 300) : 0 ≤ zlat (zpg T) r q ∧ zlat (zpg T) r q ≤ 270300 := by
  have W := (zpg_wf hG).1
  rw [zlat_lb W q0]
  exact zlb_r hl W.1.2 (zbg_r W q0).1 (zbg_r W q0).2.2
theorem k_linesOfRowsOf (hG : Good T) (hL : zLk T) (hA : Ag T M) (d : zDR T M) (hl : ∀ k, 0 ≤ k → k < zpg T 0 0 → 1 ≤ zpg T 4 k ∧ zpg T 4 k ≤ 300) {c b e : Int} (c0 : 0 ≤ c) (c1 : c < T 11 0 15) (hp : T 60 0 (T 65 0 c) = 1) (b0 : 0 ≤ b) (e1 : e ≤ zpg T 0 0) {Qm : Int → Mem → Prop} (hq : Qm (zS (fun i => zlb (zpg T) (zbo T i) b e) (T 6 (T 65 0 c) 6) (T 6 (T 65 0 c) 6 + T 67 0 c)) M) : wp_X9_linesOfRowsOf c b e M Qm := by
  have W := (zpg_wf hG).1
  have hR := hG.nR
  have hm := hG.many (p := 1) (by omega) (by omega)
  have e16 := hA.s16
  have e6 := hA.s6
  have x1 := hA.s1
  obtain ⟨q1, q2⟩ := hL.part (p := 1) (by omega) (by omega)
  have q1 : T 16 0 (-1) = T 64 0 1 := q1
  have q2 : ∀ k, 0 ≤ k → k < T 64 0 1 → T 16 0 k = zbo T k := q2
  obtain ⟨w1, w2, w3, w4, w5, -⟩ := hG.cell c c0 c1
  obtain ⟨l0, l1, l2, l3, -⟩ := hL.cell c0 c1
  rw [hp] at w5
  obtain ⟨m0, m1, em⟩ := zbo_of hG w1.1 w1.2 hp
  unfold wp_X9_linesOfRowsOf
  rw [x1, e6, e16, l1, l3, q1, show min (T 6 (T 65 0 c) 6 + T 67 0 c) (T 64 0 1) = T 6 (T 65 0 c) 6 + T 67 0 c by omega]
  refine ⟨⟨by omega, by omega⟩, zLoop (fun n k s => wp_X9_linesOfRowsOf_39 c b e Qm n s (T 6 (T 65 0 c) 6 + T 67 0 c) k M) (fun y s => s = zS (fun i => zlb (zpg T) (zbo T i) b e) (T 6 (T 65 0 c) 6) y) (T 6 (T 65 0 c) 6 + T 67 0 c) (by omega) (zS_self _ (Int.le_refl _)).symm (fun n s hs => ?_) (fun n y s y0 y1 hs ih => ?_)⟩
  · refine ⟨fun _ => ?_, fun z => absurd z (by omega)⟩
    rw [hs]; exact hq
  · have z := zbo_r hG (by omega : 0 ≤ y) (by omega : y < T 64 0 1)
    have hb := zS_bd (f := fun i => zlb (zpg T) (zbo T i) b e) (a := T 6 (T 65 0 c) 6) (b := y) 0 270300 y0 (fun i _ _ => zlb_r hl W.1.2 b0 e1)
    have hy := zlb_r hl W.1.2 (r := zbo T y) b0 e1
    have nr := (hL.row z.1 z.2.1).2.1
    simp only [wp_X9_linesOfRowsOf_39, e16, e6, q1, q2 y (by omega) (by omega), nr]
    refine ⟨fun z => absurd z (by omega), fun _ => ⟨⟨by omega, by omega⟩, k_linesOfItem W.1 hl (zpg_cd hG) d.cs z.1 (by omega) b0 e1 ⟨by rw [hs]; exact ⟨by omega, by omega⟩, ⟨by omega, by omega⟩, ih _ ?_⟩⟩⟩
    rw [zS_succ _ y0, hs]
end JA
