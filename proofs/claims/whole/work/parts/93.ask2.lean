/-! the pure part: calls that only ask, third part -/
section HA
variable {T M : Mem} {O : zSt} {κ : Nat → Int} {K : (Nat → Int) → Mem → Prop} {p1 p2 : Int}
theorem zDR.d45 (d : zDR T M) (hG : Good T) (h6 : zpg T 0 6 = 0) {r : Int} (r0 : 0 ≤ r) (r1 : r < T 11 0 8) (hr : T 60 0 r = 1) : M 45 0 r = zpg T 7 r := by
  have hR := hG.nR
  obtain ⟨hm0, hm1, em⟩ := zbo_of hG r0 r1 hr
  obtain ⟨k, ⟨k0, k1⟩, k2, k3, k4⟩ := zfirst hG h6 hm0 hm1
  rw [em] at k2
  exact d.2.2.2.1.2.2.2.2.2.2 r k r0 (by omega) k0 k1 k2 k3
theorem zDR.pw (hG : Good T) (h6 : zpg T 0 6 = 0) : zPW T (zpg T) := (zPX_ok hG h6).2.1
theorem zlb_r {S : zSt} (hl : ∀ k, 0 ≤ k → k < S 0 0 → 1 ≤ S 4 k ∧ S 4 k ≤ 300) (hn : S 0 0 ≤ 901) {r b e : Int} (b0 : 0 ≤ b) (e1 : e ≤ S 0 0) : 0 ≤ zlb S r b e ∧ zlb S r b e ≤ 270300 := by
  by_cases h : b ≤ e
  · have := zS_bd (f := fun k => if ¬ S 1 k = r then 0 else S 4 k) (a := b) (b := e) 0 300 h (fun k a c => by
      have := hl k (by omega) (by omega)
      show 0 ≤ (if ¬ S 1 k = r then 0 else S 4 k) ∧ (if ¬ S 1 k = r then 0 else S 4 k) ≤ 300
      split <;> omega)
    unfold zlb
    omega
  · unfold zlb
    rw [zS_self _ (by omega)]
    omega
theorem k_linesOfItem {S : zSt} (hn : 0 ≤ S 0 0 ∧ S 0 0 ≤ 901) (hl : ∀ k, 0 ≤ k → k < S 0 0 → 1 ≤ S 4 k ∧ S 4 k ≤ 300) (hc : zCd S) (hS : zCS 0 S M) {r b e : Int} (r0 : 0 ≤ r) (r1 : r < 29) (b0 : 0 ≤ b) (e1 : e ≤ S 0 0) {Qm : Int → Mem → Prop} (hq : Qm (zlb S r b e) M) : wp_X6_linesOfItem 0 r b e M Qm := by
  have s2 := hS.1.2.1
  have hr : zCode r := ⟨r0, Or.inl r1⟩
  have er : zcc r = r := by unfold zcc; rw [if_pos (by omega)]
  unfold wp_X6_linesOfItem
  rw [show max 0 b = b by omega]
  by_cases hbe : b ≤ e
  · refine zLoop (fun n k s => wp_X6_linesOfItem_10 0 r b e Qm n s k M) (fun y s => s = zlb S r b y) e hbe (by unfold zlb; rw [zS_self _ (Int.le_refl _)]) (fun n s hs => ?_) (fun n y s y0 y1 hs ih => ?_)
    · refine ⟨fun _ => ?_, fun z => absurd z (by omega)⟩
      rw [hs]; exact hq
    · obtain ⟨q1, q2, q3⟩ := hS.2 y (by omega) (by omega)
      have hb := zlb_r hl hn.2 (r := r) b0 (by omega : y ≤ S 0 0)
      have hy := hl y (by omega) (by omega)
      have hcc := zcc_inj (hc y (by omega) (by omega)) hr
      rw [er] at hcc
      have ez : (if ¬ zcc (S 1 y) = r then (0 : Int) else S 4 y) = (if ¬ S 1 y = r then 0 else S 4 y) := by
        by_cases z : S 1 y = r
        · rw [if_neg (fun w => w (hcc.mpr z)), if_neg (fun w => w z)]
        · rw [if_pos z, if_pos (fun w => z (hcc.mp w))]
      have hz : 0 ≤ (if ¬ S 1 y = r then 0 else S 4 y) ∧ (if ¬ S 1 y = r then 0 else S 4 y) ≤ 300 := by split <;> omega
      simp only [wp_X6_linesOfItem_10, s2, q1, q3, ez]
      refine ⟨fun z => absurd z (by omega), fun _ => ⟨fun z => absurd z (by omega), fun _ => ⟨⟨by omega, by omega⟩, fun _ => ⟨⟨by omega, by omega⟩, trivial⟩, by rw [hs]; exact ⟨by omega, by omega⟩, ⟨by omega, by omega⟩, ih _ ?_⟩⟩⟩
      rw [hs]
      unfold zlb
      rw [zS_succ _ y0]
  · refine ⟨1, ?_⟩
    have ez : zlb S r b e = 0 := zS_self _ (by omega)
    rw [ez] at hq
    exact ⟨fun _ => hq, fun z => absurd z (by omega)⟩
/-- where a page begins, also past the end -/
def zbg (S : zSt) (p : Int) : Int := if p < S 0 1 then S 8 p else S 0 0
theorem zlat_lb {S : zSt} (W : zWF S) {r p : Int} (p0 : 0 ≤ p) : zlat S r p = zlb S r (zbg S p) (zend S p) := by
  have hn := W.1
  unfold zbg
  by_cases h : p < S 0 1
  · rw [if_pos h]
    have er := W.end_r p0 h
    have key : ∀ k, 0 ≤ k → k < S 0 0 → (S 2 k = p ↔ (S 8 p ≤ k ∧ k < zend S p)) := fun k a b => W.on a b p0 h
    unfold zlat zlb
    rw [zS_split _ (a := 0) (m := S 8 p) (b := S 0 0) er.1 (by omega), zS_split _ (a := S 8 p) (m := zend S p) (b := S 0 0) er.2.1 er.2.2]
    have z1 : zS (fun k => if ¬ S 1 k = r then 0 else if ¬ S 2 k = p then 0 else S 4 k) 0 (S 8 p) = 0 := zS_zero (fun k a b => by
      by_cases z : S 1 k = r
      · rw [if_neg (fun w => w z), if_pos (fun w => by have := (key k a (by omega)).mp w; omega)]
      · rw [if_pos z])
    have z2 : zS (fun k => if ¬ S 1 k = r then 0 else if ¬ S 2 k = p then 0 else S 4 k) (zend S p) (S 0 0) = 0 := zS_zero (fun k a b => by
      by_cases z : S 1 k = r
      · rw [if_neg (fun w => w z), if_pos (fun w => by have := (key k (by omega) b).mp w; omega)]
      · rw [if_pos z])
    have z3 : zS (fun k => if ¬ S 1 k = r then 0 else if ¬ S 2 k = p then 0 else S 4 k) (S 8 p) (zend S p) = zS (fun k => if ¬ S 1 k = r then 0 else S 4 k) (S 8 p) (zend S p) := zS_congr (fun k a b => by
      have := (key k (by omega) (by omega)).mpr ⟨a, b⟩
      rw [if_neg (fun w : ¬ S 2 k = p => w this)])
    rw [z1, z2, z3]
    omega
  · rw [if_neg h]
    have ee : zend S p = S 0 0 := if_neg (by omega)
    unfold zlat zlb
    rw [ee, zS_self _ (Int.le_refl (S 0 0))]
    exact zS_zero (fun k a b => by
      have := (W.2.2.1 k a b).1
      by_cases z : S 1 k = r
      · rw [if_neg (fun w => w z), if_pos (by omega)]
      · rw [if_pos z])
theorem zbg_r {S : zSt} (W : zWF S) {p : Int} (p0 : 0 ≤ p) : 0 ≤ zbg S p ∧ zbg S p ≤ zend S p ∧ zend S p ≤ S 0 0 := by
  have hn := W.1
  unfold zbg
  by_cases h : p < S 0 1
  · rw [if_pos h]; exact W.end_r p0 h
  · rw [if_neg h]
    have ee : zend S p = S 0 0 := if_neg (by omega)
    omega
theorem zbg_0 {S : zSt} (W : zWF S) : zbg S 0 = 0 := by
  have hn := W.1
  unfold zbg
  by_cases h : 0 < S 0 1
  · rw [if_pos h]
    have er := W.end_r (Int.le_refl 0) h
    by_cases z : S 8 0 = 0
    · exact z
    · have := W.ge (k := 0) (p := 0) (by omega) (by omega) (by omega) (W.2.2.1 0 (by omega) (by omega)).1.1
      omega
  · rw [if_neg h]
    by_cases z : S 0 0 = 0
    · exact z
    · have := (W.2.2.1 0 (by omega) (by omega)).1
      omega
theorem zend_bg {S : zSt} (p : Int) : zend S p = zbg S (p + 1) := rfl
/-- lines ahead of a page -/
theorem zlb_sum {S : zSt} (W : zWF S) (r : Int) {p : Int} (p0 : 0 ≤ p) : zS (fun q => zlat S r q) 0 p = zlb S r 0 (zbg S p) := by
  have z : ∀ n : Nat, zS (fun q => zlat S r q) 0 (n : Int) = zlb S r 0 (zbg S n) := by
    intro n
    induction n with
    | zero =>
      have := zbg_0 W
      rw [zS_self _ (by omega), show ((0 : Nat) : Int) = 0 by omega, this]
      exact (zS_self _ (by omega)).symm
    | succ n ih =>
      have hb := zbg_r W (p := (n : Int)) (by omega)
      rw [show ((n + 1 : Nat) : Int) = (n : Int) + 1 by omega, zS_succ _ (by omega), ih, zlat_lb W (by omega), ← zend_bg]
      unfold zlb
      exact (zS_split _ hb.1 hb.2.1).symm
  have := z p.toNat
  rw [show (p.toNat : Int) = p by omega] at this
  exact this
theorem k_begin0 (hG : Good T) (d : zDR T M) {p : Int} (p0 : 0 ≤ p) {Qm : Int → Mem → Prop} (hq : Qm (zbg (zpg T) p) M) : wp_X6_pieceBeginOf 0 p M Qm := by
  have hN := (zpg_wf hG).1.2.1
  refine k_pieceBeginOf d.cs.1 (by omega) (fun h => ?_) (fun h => ?_)
  · unfold zbg at hq
    rw [if_pos h.2] at hq; exact hq
  · unfold zbg at hq
    rw [if_neg (by omega)] at hq; exact hq
theorem l_linesOn (h : Iv T O κ M) (hK : ∀ M', Iv T O κ M' → K κ M') : wp_law_28 p1 p2 κ M K := by
  have h' := h
  obtain ⟨hG, hL, hA, -, -, -, hd, -⟩ := h
  have hR := hG.nR
  have W := (zpg_wf hG).1
  have hN := W.2.1
  refine k_hasRow hG hL hA (fun hp => ⟨fun _ => ?_, fun z => absurd z (by decide)⟩) (fun hp => ⟨fun z => absurd rfl z, fun _ => Or.inl ⟨rfl, ?_⟩⟩)
  · refine k_isBodyRow hG hL hA (fun hb => ⟨fun z => absurd z (by decide), fun _ => ⟨fun hz => ?_, fun hz => Or.inr (Or.inl ⟨rfl, ?_⟩)⟩⟩) (fun hb => ⟨fun _ => Or.inr (Or.inl ⟨rfl, ?_⟩), fun z => absurd rfl z⟩)
    · refine k_refresh hG hL hA hd (fun M1 f1 d1 s1 => ⟨fun hs => ?_, fun hs => Or.inr (Or.inr ⟨rfl, ?_⟩)⟩)
      · have h6 := d1.s70.1 hs
        have hW := zDR.pw hG h6
        have hl : ∀ k, 0 ≤ k → k < zpg T 0 0 → 1 ≤ zpg T 4 k ∧ zpg T 4 k ≤ 300 := fun k a b => (hW.2.2.2.2.2.2.1 k a b).2.1
        have hbg := zbg_r W hz
        refine k_begin0 hG d1 hz (k_pieceEndOf d1.cs.1 ⟨hN.1, by omega⟩ hz (k_linesOfItem W.1 hl (zpg_cd hG) d1.cs hp.1 (by omega) hbg.1 hbg.2.2 ?_))
        have hA1 : Ag T (up M1 103 0 0 (zlb (zpg T) p1 (zbg (zpg T) p2) (zend (zpg T) p2))) := (f1.ag hA zRF_in).up rfl
        refine q_isBody hG hA1 (fun _ => q_isRow hG hA1 (fun _ => ?_) (fun z => absurd hp z)) (fun z => absurd hb z)
        rw [if_neg (by decide), if_neg (by omega)]
        refine ⟨fun z => absurd z (by decide), fun _ => q_laysPages hG hA1 (fun M2 f2 h2 p2 _ _ => ?_)⟩
        rw [if_pos h6]
        refine q_goes0 (by decide) (by decide) (by decide) ⟨fun z => absurd z (by decide), fun _ => ?_⟩
        exact q_linesAt W.1 hl (p2.u 0) (fin h' hK f1 (fun _ => d1) f2 (zlat_lb W hz).symm)
      · have h6 := d1.s70.2 hs
        have hA1 := f1.ag hA zRF_in
        refine q_isBody hG hA1 (fun _ => q_isRow hG hA1 (fun _ => ?_) (fun z => absurd hp z)) (fun z => absurd hb z)
        rw [if_neg (by decide), if_neg (by omega)]
        refine ⟨fun z => absurd z (by decide), fun _ => q_laysPages hG hA1 (fun M2 f2 h2 p2 _ _ => ?_)⟩
        rw [if_neg h6]
        exact q_goes3 (by decide) (by decide) rfl ⟨fun _ => finx h' hK f1 (fun _ => d1) (by decide) f2, fun z => absurd rfl z⟩
    · refine q_isBody hG hA (fun _ => q_isRow hG hA (fun _ => ?_) (fun z => absurd hp z)) (fun z => absurd hb z)
      rw [if_neg (by decide), if_pos hz]
      exact ⟨fun _ => q_goes2 (by decide) rfl ⟨fun _ => finx0 h' hK (by decide), fun z => absurd rfl z⟩, fun z => absurd rfl z⟩
    · refine q_isBody hG hA (fun z => absurd z hb) (fun _ => q_isRow hG hA (fun _ => ?_) (fun z => absurd hp z))
      rw [if_pos rfl]
      exact ⟨fun _ => q_goes2 (by decide) rfl ⟨fun _ => finx0 h' hK (by decide), fun z => absurd rfl z⟩, fun z => absurd rfl z⟩
  · refine q_isBody hG hA (fun z => absurd ⟨z.1, z.2.1⟩ hp) (fun _ => q_isRow hG hA (fun z => absurd z hp) (fun _ => ?_))
    rw [if_pos rfl]
    exact ⟨fun _ => q_goes1 rfl ⟨fun _ => finx0 h' hK (by decide), fun z => absurd rfl z⟩, fun z => absurd rfl z⟩
theorem k_pointOf (hG : Good T) (d : zDR T M) {k : Int} (k0 : 0 ≤ k) (k1 : k < T 11 0 4) {Qm : Int → Mem → Prop} (hq : Qm (zwid T k - zRg T k) M) : wp_X8_pointOf 0 k M Qm := by
  have hC := hG.nC
  have a := zwid_r hG k k0 k1
  have b := zRg_r hG k0 (by omega : k < 6)
  have e1 := d.1.2 k k0 k1
  have e2 := (d.1.1 k k0 k1).2.2
  unfold wp_X8_pointOf
  rw [e1, e2, if_neg (by omega), if_neg (by omega)]
  exact ⟨fun _ => ⟨fun _ => ⟨⟨by omega, by omega⟩, ⟨by omega, by omega⟩, ⟨by omega, by omega⟩, trivial⟩, ⟨by omega, by omega⟩, trivial⟩, ⟨by omega, by omega⟩, hq⟩
theorem l_point (h : Iv T O κ M) (hK : ∀ M', Iv T O κ M' → K κ M') : wp_law_17 p1 κ M K := by
  have h' := h
  obtain ⟨hG, hL, hA, -, -, -, hd, -⟩ := h
  have hC := hG.nC
  have hKn := hG.nK
  have e14 := hA.s14
  have n14 := hL.n.2.2
  refine k_hasCell hG hL hA (fun hp => ⟨fun _ => ?_, fun z => absurd z (by decide)⟩) (fun hp => ⟨fun z => absurd rfl z, fun _ => Or.inl ⟨rfl, ?_⟩⟩)
  · obtain ⟨l0, l1, l2, -⟩ := hL.cell hp.1 hp.2
    obtain ⟨-, w2, -, w4, -⟩ := hG.cell p1 hp.1 hp.2
    dsimp only
    rw [e14, n14, l0]
    refine ⟨hp, k_showsFigure hG hL hA hp.1 hp.2 (fun hs => ⟨fun _ => ?_, fun z => absurd z (by decide)⟩) (fun hs => ⟨fun z => absurd rfl z, fun _ => Or.inr ⟨rfl, ?_⟩⟩)⟩
    · refine k_refresh hG hL hA hd (fun M1 f1 d1 s1 => ?_)
      have hA1 := f1.ag hA zRF_in
      have e1 := hA1.s1
      rw [e1, l2]
      refine k_pointOf hG d1 w2 (by omega) ?_
      have hA2 : Ag T (up M1 103 0 0 (zwid T (T 66 0 p1) - zRg T (T 66 0 p1))) := hA1.up rfl
      refine q_isCell hG hA2 (fun _ => ⟨fun z => absurd z (by decide), fun _ => q_hasPoint hG hA2 hp.1 hp.2 (fun _ => q_goes0 (by decide) (by decide) (by decide) ⟨fun _ => q_laysWidths hG (hA2.up rfl) (fun M2 f2 e2 => ?_), fun z => absurd z (by decide)⟩) (fun z => absurd hs z)⟩) (fun z => absurd hp z)
      have e66 := (f2.ag (hA2.up rfl) zW_in).s66
      obtain ⟨x1, x2, x3, x4⟩ := e2 (T 66 0 p1) w2 (by omega)
      have a := zwid_r hG (T 66 0 p1) w2 (by omega)
      have b := zRg_r hG w2 (by omega : T 66 0 p1 < 6)
      rw [e66, x4, x1]
      refine ⟨⟨by omega, by omega⟩, ⟨by omega, by omega⟩, ⟨by omega, by omega⟩, ⟨by omega, by omega⟩, ⟨by omega, by omega⟩, by rw [f2 11 0 59 rfl]; exact v59 _ _ _, fun _ => ?_, hK _ (h'.q f1 (fun _ => d1) ((q2_rc _ _ _).tr (f2.j zW_q)))⟩
      rw [f2 103 0 0 rfl, v103]
    · exact q_isCell hG hA (fun _ => ⟨fun z => absurd z (by decide), fun _ => q_hasPoint hG hA hp.1 hp.2 (fun z => absurd z hs) (fun _ => q_goes2 (by decide) rfl ⟨fun z => absurd rfl z, fun _ => finx0 h' hK (by decide)⟩)⟩) (fun z => absurd hp z)
  · exact q_isCell hG hA (fun z => absurd z hp) (fun _ => ⟨fun _ => q_goes1 rfl ⟨fun z => absurd rfl z, fun _ => finx0 h' hK (by decide)⟩, fun z => absurd rfl z⟩)
theorem l_begins (h : Iv T O κ M) (hK : ∀ M', Iv T O κ M' → K κ M') : wp_law_18 p1 κ M K := by
  have h' := h
  obtain ⟨hG, hL, hA, -, -, -, hd, -⟩ := h
  have hC := hG.nC
  have hKn := hG.nK
  have e14 := hA.s14
  have n14 := hL.n.2.2
  refine k_hasCell hG hL hA (fun hp => ⟨fun _ => ?_, fun z => absurd z (by decide)⟩) (fun hp => ⟨fun z => absurd rfl z, fun _ => Or.inl ⟨rfl, ?_⟩⟩)
  · obtain ⟨l0, l1, l2, l3, l4, l7, l8, l9, -⟩ := hL.cell hp.1 hp.2
    obtain ⟨-, w2, -, w4, -, -, -, w8, -⟩ := hG.cell p1 hp.1 hp.2
    have hlf := zleft_r (T 74 0 p1)
    dsimp only
    rw [e14, n14, l0]
    refine ⟨hp, k_showsFigure hG hL hA hp.1 hp.2 (fun hs => ⟨fun _ => ?_, fun z => absurd z (by decide)⟩) (fun hs => ⟨fun z => absurd rfl z, fun _ => Or.inr ⟨rfl, ?_⟩⟩)⟩
    · refine k_refresh hG hL hA hd (fun M1 f1 d1 s1 => ?_)
      have hA1 := f1.ag hA zRF_in
      have e1 := hA1.s1
      have a := zwid_r hG (T 66 0 p1) w2 (by omega)
      have b := zRg_r hG w2 (by omega : T 66 0 p1 < 6)
      rw [e1, l2]
      refine k_pointOf hG d1 w2 (by omega) ?_
      rw [e1, l9]
      refine k_leftPart (by omega) (by omega) ⟨⟨by omega, by omega⟩, ?_⟩
      have hA2 : Ag T (up M1 103 0 0 (zwid T (T 66 0 p1) - zRg T (T 66 0 p1) - zleft (T 74 0 p1))) := hA1.up rfl
      refine q_isCell hG hA2 (fun _ => ⟨fun z => absurd z (by decide), fun _ => q_hasPoint hG hA2 hp.1 hp.2 (fun _ => q_goes0 (by decide) (by decide) (by decide) ⟨fun _ => q_laysWidths hG (hA2.up rfl) (fun M2 f2 e2 => ?_), fun z => absurd z (by decide)⟩) (fun z => absurd hs z)⟩) (fun z => absurd hp z)
      have hA3 := f2.ag (hA2.up rfl) zW_in
      have e66 := hA3.s66
      have e74 := hA3.s74
      obtain ⟨x1, x2, x3, x4⟩ := e2 (T 66 0 p1) w2 (by omega)
      have e59 : M2 11 0 59 = 0 := by rw [f2 11 0 59 rfl]; exact v59 _ _ _
      rw [e66, x4, x1]
      refine ⟨⟨by omega, by omega⟩, ⟨by omega, by omega⟩, ⟨by omega, by omega⟩, ⟨by omega, by omega⟩, ⟨by omega, by omega⟩, fun z => absurd e59 z, fun _ => ⟨⟨by omega, by omega⟩, ?_⟩⟩
      rw [e74]
      refine q_leftOf (by omega) (by omega) ⟨⟨by omega, by omega⟩, e59, fun _ => ?_, hK _ (h'.q f1 (fun _ => d1) ((q2_rc _ _ _).tr (f2.j zW_q)))⟩
      rw [f2 103 0 0 rfl, v103]
    · exact q_isCell hG hA (fun _ => ⟨fun z => absurd z (by decide), fun _ => q_hasPoint hG hA hp.1 hp.2 (fun z => absurd z hs) (fun _ => q_goes2 (by decide) rfl ⟨fun z => absurd rfl z, fun _ => ⟨fun _ => finx0 h' hK (by decide), fun z => absurd ((up_eq _ _ _ _ _).symm.trans z) (by decide)⟩⟩)⟩) (fun z => absurd hp z)
  · exact q_isCell hG hA (fun z => absurd z hp) (fun _ => ⟨fun _ => q_goes1 rfl ⟨fun z => absurd rfl z, fun _ => ⟨fun _ => finx0 h' hK (by decide), fun z => absurd ((up_eq _ _ _ _ _).symm.trans z) (by decide)⟩⟩, fun z => absurd rfl z⟩)
end HA
