/-! the pure part: calls that only ask, third part -/
section HA
variable {T M : Mem} {O : zSt} {κ : Nat → Int} {K : (Nat → Int) → Mem → Prop} {p1 p2 : Int}
theorem zDR.d45 (d : zDR T M) (hG : Good T) (h6 : zpg T 0 6 = 0) {r : Int} (r0 : 0 ≤ r) (r1 : r < T 11 0 8) (hr : T 60 0 r = 1) : M 45 0 r = zpg T 7 r := by
  have hR := hG.nR
  obtain ⟨hm0, hm1, em⟩ := zbo_of hG r0 r1 hr
  obtain ⟨k, ⟨k0, k1⟩, k2, k3, k4⟩ := zfirst hG h6 hm0 hm1
  rw [em] at k2
  exact d.2.2.2.1.2.2.2.2.2.2 r k r0 (by omega) k0 k1 k2 k3
theorem zDR.pw (hG : Good T) (h6 : zpg T 0 6 = 0) : zPW T (zpg T) := (zPX_ok hG h6).2.1
theorem zlb_r {S : zSt} (hl : ∀ k, 0 ≤ k → k < S 0 0 → 1 ≤ S 4 k ∧ S 4 k ≤ 300) (hn : S 0 0 ≤ 901) {r b e : Int} (b0 : 0 ≤ b) (e1 : e ≤ S 0 0) : 0 ≤ zlb S r b e ∧ zlb S r b e ≤ 270300 := by
  by_cases h : b ≤ e
  · have := zS_bd (f := fun k => if ¬ S 1 k = r then 0 else S 4 k) (a := b) (b := e) 0 300 h (fun k a c => by
      have := hl k (by omega) (by omega)
      show 0 ≤ (if ¬ S 1 k = r then 0 else S 4 k) ∧ (if ¬ S 1 k = r then 0 else S 4 k) ≤ 300
      split <;> omega)
    unfold zlb
    omega
  · unfold zlb
    rw [zS_self _ (by omega)]
    omega
theorem k_linesOfItem {S : zSt} (hn : 0 ≤ S 0 0 ∧ S 0 0 ≤ 901) (hl : ∀ k, 0 ≤ k → k < S 0 0 → 1 ≤ S 4 k ∧ S 4 k ≤ 300) (hc : zCd S) (hS : zCS 0 S M) {r b e : Int} (r0 : 0 ≤ r) (r1 : r < 29) (b0 : 0 ≤ b) (e1 : e ≤ S 0 0) {Qm : Int → Mem → Prop} (hq : Qm (zlb S r b e) M) : wp_X6_linesOfItem 0 r b e M Qm := by
  have s2 := hS.1.2.1
  have hr : zCode r := ⟨r0, Or.inl r1⟩
  have er : zcc r = r := by unfold zcc; rw [if_pos (by omega)]
  unfold wp_X6_linesOfItem
  rw [show max 0 b = b by omega]
  by_cases hbe : b ≤ e
  · refine zLoop (fun n k s => wp_X6_linesOfItem_10 0 r b e Qm n s k M) (fun y s => s = zlb S r b y) e hbe (by unfold zlb; rw [zS_self _ (Int.le_refl _)]) (fun n s hs => ?_) (fun n y s y0 y1 hs ih => ?_)
    · refine ⟨fun _ => ?_, fun z => absurd z (by omega)⟩
      rw [hs]; exact hq
    · obtain ⟨q1, q2, q3⟩ := hS.2 y (by omega) (by omega)
      have hb := zlb_r hl hn.2 (r := r) b0 (by omega : y ≤ S 0 0)
      have hy := hl y (by omega) (by omega)
      have hcc := zcc_inj (hc y (by omega) (by omega)) hr
      rw [er] at hcc
      have ez : (if ¬ zcc (S 1 y) = r then (0 : Int) else S 4 y) = (if ¬ S 1 y = r then 0 else S 4 y) := by
        by_cases z : S 1 y = r
        · rw [if_neg (fun w => w (hcc.mpr z)), if_neg (fun w => w z)]
        · rw [if_pos z, if_pos (fun w => z (hcc.mp w))]
      have hz : 0 ≤ (if ¬ S 1 y = r then 0 else S 4 y) ∧ (if ¬ S 1 y = r then 0 else S 4 y) ≤ 300 := by split <;> omega
      simp only [wp_X6_linesOfItem_10, s2, q1, q3, ez]
      refine ⟨fun z => absurd z (by omega), fun _ => ⟨fun z => absurd z (by omega), fun _ => ⟨⟨by omega, by omega⟩, fun _ => ⟨⟨by omega, by omega⟩, trivial⟩, by rw [hs]; exact ⟨by omega, by omega⟩, ⟨by omega, by omega⟩, ih _ ?_⟩⟩⟩
      rw [hs]
      unfold zlb
      rw [zS_succ _ y0]
  · refine ⟨1, ?_⟩
    have ez : zlb S r b e = 0 := zS_self _ (by omega)
    rw [ez] at hq
    exact ⟨fun _ => hq, fun z => absurd z (by omega)⟩
/-- where a page begins, also past the end -/
def zbg (S : zSt) (p : Int) : Int := if p < S 0 1 then S 8 p else S 0 0
theorem zlat_lb {S : zSt} (W : zWF S) {r p : Int} (p0 : 0 ≤ p) : zlat S r p = zlb S r (zbg S p) (zend S p) := by
  have hn := W.1
  unfold zbg
  by_cases h : p < S 0 1
  · rw [if_pos h]
    have er := W.end_r p0 h
    have key : ∀ k, 0 ≤ k → k < S 0 0 → (S 2 k = p ↔ (S 8 p ≤ k ∧ k < zend S p)) := fun k a b => W.on a b p0 h
    unfold zlat zlb
    rw [zS_split _ (a := 0) (m := S 8 p) (b := S 0 0) er.1 (by omega), zS_split _ (a := S 8 p) (m := zend S p) (b := S 0 0) er.2.1 er.2.2]
    have z1 : zS (fun k => if ¬ S 1 k = r then 0 else if ¬ S 2 k = p then 0 else S 4 k) 0 (S 8 p) = 0 := zS_zero (fun k a b => by
      by_cases z : S 1 k = r
      · rw [if_neg (fun w => w z), if_pos (fun w => by have := (key k a (by omega)).mp w; omega)]
      · rw [if_pos z])
    have z2 : zS (fun k => if ¬ S 1 k = r then 0 else if ¬ S 2 k = p then 0 else S 4 k) (zend S p) (S 0 0) = 0 := zS_zero (fun k a b => by
      by_cases z : S 1 k = r
      · rw [if_neg (fun w => w z), if_pos (fun w => by have := (key k (by omega) b).mp w; omega)]
      · rw [if_pos z])
    have z3 : zS (fun k => if ¬ S 1 k = r then 0 else if ¬ S 2 k = p then 0 else S 4 k) (S 8 p) (zend S p) = zS (fun k => if ¬ S 1 k = r then 0 else S 4 k) (S 8 p) (zend S p) := zS_congr (fun k a b => by
      have := (key k (by omega) (by omega)).mpr ⟨a, b⟩
      rw [if_neg (fun w : ¬ S 2 k = p => w this)])
    rw [z1, z2, z3]
    omega
  · rw [if_neg h]
    have ee : zend S p = S 0 0 := if_neg (by omega)
    unfold zlat zlb
    rw [ee, zS_self _ (Int.le_refl (S 0 0))]
    exact zS_zero (fun k a b => by
      have := (W.2.2.1 k a b).1
      by_cases z : S 1 k = r
      · rw [if_neg (fun w => w z), if_pos (by omega)]
      · rw [if_pos z])
theorem zbg_r {S : zSt} (W : zWF S) {p : Int} (p0 : 0 ≤ p) : 0 ≤ zbg S p ∧ zbg S p ≤ zend S p ∧ zend S p ≤ S 0 0 := by
  have hn := W.1
  unfold zbg
  by_cases h : p < S 0 1
  · rw [if_pos h]; exact W.end_r p0 h
  · rw [if_neg h]
    have ee : zend S p = S 0 0 := if_neg (by omega)
    omega
theorem zbg_0 {S : zSt} (W : zWF S) : zbg S 0 = 0 := by
  have hn := W.1
  unfold zbg
  by_cases h : 0 < S 0 1
  · rw [if_pos h]
    have er := W.end_r (Int.le_refl 0) h
    by_cases z : S 8 0 = 0
    · exact z
    · have := W.ge (k := 0) (p := 0) (by omega) (by omega) (by omega) (W.2.2.1 0 (by omega) (by omega)).1.1
      omega
  · rw [if_neg h]
    by_cases z : S 0 0 = 0
    · exact z
    · have := (W.2.2.1 0 (by omega) (by omega)).1
      omega
theorem zend_bg {S : zSt} (p : Int) : zend S p = zbg S (p + 1) := rfl
/-- lines ahead of a page -/
theorem zlb_sum {S : zSt} (W : zWF S) (r : Int) {p : Int} (p0 : 0 ≤ p) : zS (fun q => zlat S r q) 0 p = zlb S r 0 (zbg S p) := by
  have z : ∀ n : Nat, zS (fun q => zlat S r q) 0 (n : Int) = zlb S r 0 (zbg S n) := by
    intro n
    induction n with
    | zero =>
      have := zbg_0 W
      rw [zS_self _ (by omega), show ((0 : Nat) : Int) = 0 by omega, this]
      exact (zS_self _ (by omega)).symm
    | succ n ih =>
      have hb := zbg_r W (p := (n : Int)) (by omega)
      rw [show ((n + 1 : Nat) : Int) = (n : Int) + 1 by omega, zS_succ _ (by omega), ih, zlat_lb W (by omega), ← zend_bg]
      unfold zlb
      exact (zS_split _ hb.1 hb.2.1).symm
  have := z p.toNat
  rw [show (p.toNat : Int) = p by omega] at this
  exact this
theorem k_begin0 (hG : Good T) (d : zDR T M) {p : Int} (p0 : 0 ≤ p) {Qm : Int → Mem → Prop} (hq : Qm (zbg (zpg T) p) M) : wp_X6_pieceBeginOf 0 p M Qm := by
  have hN := (zpg_wf hG).1.2.1
  refine k_pieceBeginOf d.cs.1 (by omega) (fun h => ?_) (fun h => ?_)
  · unfold zbg at hq
    rw [if_pos h.2] at hq; exact hq
  · unfold zbg at hq
    rw [if_neg (by omega)] at hq; exact hq
theorem k_pointOf (hG : Good T) (d : zDR T M) {k : Int} (k0 : 0 ≤ k) (k1 : k < T 11 0 4) {Qm : Int → Mem → Prop} (hq : Qm (zwid T k - zRg T k) M) : wp_X8_pointOf 0 k M Qm := by
  have hC := hG.nC
  have a := zwid_r hG k k0 k1
  have b := zRg_r hG k0 (by omega : k < 6)
  have e1 := d.1.2 k k0 k1
  have e2 := (d.1.1 k k0 k1).2.2
  unfold wp_X8_pointOf
  rw [e1, e2, if_neg (by omega), if_neg (by omega)]
  exact ⟨fun _ => ⟨fun _ => ⟨⟨by omega, by omega⟩, ⟨by omega, by omega⟩, ⟨by omega, by omega⟩, trivial⟩, ⟨by omega, by omega⟩, trivial⟩, ⟨by omega, by omega⟩, hq⟩
end HA
