/-! the law's widths: what is given -/
theorem zXr.cc {T M : Mem} {a b c c' : Int → Int} (h : zXr T M a b c) (e : ∀ i, 0 ≤ i → i < T 11 0 4 → c i = c' i) : zXr T M a b c' := fun i i0 i1 => by
  rw [← e i i0 i1]
  exact h i i0 i1
section JI
variable {T M : Mem} {Qm : Mem → Prop}
/-- what a column is given in proportion -/
def zgv2 (T : Mem) (lacks all k : Int) : Int := if all ≤ 0 then 0 else if T 56 0 k = 0 then Int.tdiv (all * (zms T k - zls T k)) lacks else 0
theorem j_w565 (hG : Good T) (L : zLw T M) {lacks all : Int} {w : Int → Int} (hx : zXr T M (zls T) (zms T) w) (hw : ∀ k, 0 ≤ k → k < T 11 0 4 → 0 ≤ w k ∧ w k ≤ 300) (hl : 0 ≤ lacks ∧ lacks ≤ 1200) (ha : all ≤ lacks ∧ -3000 ≤ all) (hq : ∀ M', zWf M M' → zXr T M' (zls T) (zms T) (fun k => w k + zgv2 T lacks all k) → wp_L_widths_639 Qm all (zS (zgv2 T lacks all) 0 (T 11 0 4)) M') : ∃ n, wp_L_widths_565 Qm n lacks all 0 0 M := by
  have hn := L.n
  unfold lwN at hn
  have hgb : ∀ k, 0 ≤ k → k < T 11 0 4 → 0 ≤ zgv2 T lacks all k ∧ zgv2 T lacks all k ≤ 300 := fun k k0 k1 => by
    have hms := zls_r hG k0 k1
    unfold zgv2
    by_cases a : all ≤ 0
    · rw [if_pos a]; omega
    · rw [if_neg a]
      split
      · have := ztdiv_r (a := all) (b := zms T k - zls T k) (c := lacks) (by omega) (by omega) (by omega) (by omega)
        omega
      · omega
  by_cases a0 : all ≤ 0
  · have e0 : zgv2 T lacks all = fun _ => 0 := funext fun k => if_pos a0
    have m0 := L.m.1
    have hq' := hq M (zWf.rf _) (by
      rw [e0]
      intro i i0 i1
      have := hx i i0 i1
      rw [show (fun k => w k + (fun _ => (0 : Int)) k) i = w i from Int.add_zero _]
      exact this)
    rw [e0, zS_zero (fun _ _ _ => rfl)] at hq'
    exact ⟨1, fun _ => hq', fun _ => ⟨fun _ => hq', fun z => absurd a0 (by omega)⟩⟩
  · refine zLoop (σ := Mem × Int) (fun n k s => wp_L_widths_565 Qm n lacks all s.2 k s.1) (fun k s => zWf M s.1 ∧ zXr T s.1 (zls T) (zms T) (fun i => if i < k then w i + zgv2 T lacks all i else w i) ∧ s.2 = zS (zgv2 T lacks all) 0 k) (T 11 0 4) (by omega) (s := (M, 0)) ⟨zWf.rf _, hx.cc (fun i i0 i1 => by show w i = if i < 0 then _ else _; rw [if_neg (by omega)]), (zS_self _ (Int.le_refl _)).symm⟩ (fun n s hs => ?_) (fun n k s k0 k1 hs ih => ?_)
    · obtain ⟨M1, y⟩ := s
      obtain ⟨h1, h2, h3⟩ := hs
      have h1 : zWf M M1 := h1
      have h2 : zXr T M1 (zls T) (zms T) (fun i => if i < T 11 0 4 then w i + zgv2 T lacks all i else w i) := h2
      have h3 : y = zS (zgv2 T lacks all) 0 (T 11 0 4) := h3
      have L1 := L.fr h1.ls
      obtain ⟨m0, -⟩ := L1.m
      have hq' := hq M1 h1 (h2.cc (fun i i0 i1 => if_pos i1))
      rw [← h3] at hq'
      show wp_L_widths_565 Qm (n + 1) lacks all y (T 11 0 4) M1
      exact ⟨fun _ => hq', fun z => absurd z (by rw [m0]; omega)⟩
    · obtain ⟨M1, y⟩ := s
      obtain ⟨h1, h2, h3⟩ := hs
      have h1 : zWf M M1 := h1
      have h2 : zXr T M1 (zls T) (zms T) (fun i => if i < k then w i + zgv2 T lacks all i else w i) := h2
      have h3 : y = zS (zgv2 T lacks all) 0 k := h3
      have L1 := L.fr h1.ls
      obtain ⟨m0, -⟩ := L1.m
      obtain ⟨c0, -⟩ := L1.c k k0 k1
      obtain ⟨x1, x2, x3, -⟩ := h2 k k0 k1
      have x3 : M1 113 0 (8 + k) = w k := by
        have x3 : M1 113 0 (8 + k) = if k < k then w k + zgv2 T lacks all k else w k := x3
        rw [if_neg (by omega)] at x3
        exact x3
      have hms := zls_r hG k0 k1
      have hgk := hgb k k0 k1
      have hwk := hw k k0 k1
      have hyb := zS_bd (f := zgv2 T lacks all) (a := 0) (b := k) 0 300 k0 (fun i i0 i1 => hgb i i0 (by omega))
      rw [← h3] at hyb
      have hprod : 0 ≤ all * (zms T k - zls T k) ∧ all * (zms T k - zls T k) ≤ 1200 * 300 := by
        refine ⟨Int.mul_nonneg (by omega) (by omega), ?_⟩
        have e1 : all * (zms T k - zls T k) ≤ all * 300 := Int.mul_le_mul_of_nonneg_left (by omega) (by omega)
        omega
      have ev : (if ¬ T 56 0 k = 0 then (0 : Int) else Int.tdiv (all * (zms T k - zls T k)) lacks) = zgv2 T lacks all k := by
        unfold zgv2
        rw [if_neg a0]
        by_cases z : T 56 0 k = 0
        · rw [if_neg (fun y => y z), if_pos z]
        · rw [if_pos z, if_neg z]
      show wp_L_widths_565 Qm (n + 1) lacks all y k M1
      refine ⟨fun z => absurd z (by rw [m0]; omega), fun _ => ⟨fun z => absurd z a0, fun _ => ?_⟩⟩
      rw [c0, x1, x2, x3, ev]
      refine ⟨⟨by omega, by omega⟩, ⟨by omega, by omega⟩, fun _ => ⟨⟨by omega, by omega⟩, ⟨by omega, by omega⟩, ⟨by omega, by omega⟩, ⟨by omega, by omega⟩, ⟨by omega, by omega⟩, by omega, trivial⟩, ⟨by omega, by omega⟩, ⟨by omega, by omega⟩, ⟨by omega, by omega⟩, ⟨by omega, by omega⟩, ⟨by omega, by omega⟩, fun M70 e70 => ⟨⟨by omega, by omega⟩, ⟨by omega, by omega⟩, ih (M70, y + zgv2 T lacks all k) ⟨?_, ?_, ?_⟩⟩⟩
      · show zWf M M70
        rw [e70]
        exact h1.up (by omega) (by omega)
      · show zXr T M70 (zls T) (zms T) _
        have hz := h2.c (by omega) (v := w k + zgv2 T lacks all k) k0 k1
        rw [← e70] at hz
        refine hz.cc (fun i i0 i1 => ?_)
        show (if i = k then w k + zgv2 T lacks all k else if i < k then w i + zgv2 T lacks all i else w i) = if i < k + 1 then w i + zgv2 T lacks all i else w i
        by_cases e : i = k
        · rw [if_pos e, if_pos (by omega), e]
        · rw [if_neg e]
          by_cases l : i < k
          · rw [if_pos l, if_pos (by omega)]
          · rw [if_neg l, if_neg (by omega)]
      · show y + zgv2 T lacks all k = _
        rw [zS_succ _ k0, h3]
/-- all of it, against the reference's widths -/
theorem j_w565w (hG : Good T) (L : zLw T M) (hx : zXr T M (zls T) (zms T) (znar T)) (hq : ∀ M', zWf M M' → zXr T M' (zls T) (zms T) (zwid T) → Qm M') : ∃ n, wp_L_widths_565 Qm n (zlack T (T 11 0 4)) (if zlack T (T 11 0 4) ≤ zrest T then zlack T (T 11 0 4) else zrest T) 0 0 M := by
  have hn := L.n
  unfold lwN at hn
  have hlk := zlack_r hG (n := T 11 0 4) (by omega) (Int.le_refl _)
  have hrs := zrest_r hG
  obtain ⟨all, eall⟩ : ∃ a, a = (if zlack T (T 11 0 4) ≤ zrest T then zlack T (T 11 0 4) else zrest T) := ⟨_, rfl⟩
  have hal : all ≤ zlack T (T 11 0 4) ∧ all ≤ zrest T ∧ (all = zlack T (T 11 0 4) ∨ all = zrest T) := by
    rw [eall]
    split <;> omega
  rw [← eall]
  have hsum : ∀ k, 0 ≤ k → k < T 11 0 4 → 0 ≤ (if zopen T k = 0 then 0 else zms T k - zls T k) := fun k k0 k1 => by
    have := zls_r hG k0 k1
    split <;> omega
  -- what is given is what the reference gives
  have hgv : ∀ k, 0 ≤ k → k < T 11 0 4 → 0 < zrest T → zgv2 T (zlack T (T 11 0 4)) all k = zgive T k := fun k k0 k1 hr => by
    have hms := zls_r hG k0 k1
    have hle : (if zopen T k = 0 then 0 else zms T k - zls T k) ≤ zlack T (T 11 0 4) := zS_le_of_mem (f := fun k => if zopen T k = 0 then 0 else zms T k - zls T k) hsum k0 k1
    have ho := zopen_c hG k0 k1
    unfold zgv2 zgive
    by_cases a0 : all ≤ 0
    · have lk0 : zlack T (T 11 0 4) = 0 := by omega
      rw [if_pos a0]
      by_cases z : zopen T k = 0
      · rw [if_pos z]
      · rw [if_neg z] at hle ⊢
        rw [if_pos (by omega)]
        omega
    · rw [if_neg a0]
      by_cases z56 : T 56 0 k = 0
      · rw [if_pos z56]
        by_cases z59 : T 59 0 k = 0
        · have zo : ¬ zopen T k = 0 := fun z => ho.1 z ⟨z59, z56⟩
          rw [if_neg zo]
          by_cases l : zlack T (T 11 0 4) < zrest T
          · rw [if_pos l, show all = zlack T (T 11 0 4) by omega, Int.mul_comm]
            exact Int.mul_tdiv_cancel _ (by omega)
          · rw [if_neg l, show all = zrest T by omega]
        · rw [if_pos (ho.2 (fun z => z59 z.1)), (zms_h z59).1, (zms_h z59).2, Int.sub_self, Int.mul_zero]
          exact Int.zero_tdiv _
      · rw [if_neg z56, if_pos (ho.2 (fun z => z56 z.2))]
  refine j_w565 hG L hx (fun k k0 k1 => znar_r hG k0 k1) ⟨by omega, by omega⟩ ⟨by omega, by omega⟩ (fun M1 h1 h2 => ?_)
  have L1 := L.fr h1.ls
  have hgb : ∀ k, 0 ≤ k → k < T 11 0 4 → 0 ≤ zgv2 T (zlack T (T 11 0 4)) all k ∧ zgv2 T (zlack T (T 11 0 4)) all k ≤ 300 := fun k k0 k1 => by
    have hms := zls_r hG k0 k1
    by_cases hr : 0 < zrest T
    · rw [hgv k k0 k1 hr]
      have := zgive_r hG hr k0 k1
      omega
    · unfold zgv2
      rw [if_pos (by omega)]
      omega
  have hyb := zS_bd (f := zgv2 T (zlack T (T 11 0 4)) all) (a := 0) (b := T 11 0 4) 0 300 (by omega) hgb
  refine j_w642 hG L1 h2 (fun k k0 k1 => ?_) ⟨by omega, by omega⟩ (fun M2 h3 h4 => hq M2 (h1.tr h3) (fun i i0 i1 => ?_))
  · have := znar_r hG k0 k1
    have := hgb k k0 k1
    show 0 ≤ znar T k + zgv2 T _ _ k ∧ znar T k + zgv2 T _ _ k ≤ 1000
    omega
  · obtain ⟨x1, x2, x3, x4⟩ := h4 i i0 i1
    refine ⟨x1, x2, ?_, x4⟩
    rw [x3]
    unfold zwid
    by_cases hr : zrest T ≤ 0
    · rw [if_pos hr]
      have e0 : ∀ k, zgv2 T (zlack T (T 11 0 4)) all k = 0 := fun k => if_pos (by omega)
      have st := zfn_stop (T := T) (all := all) (w := fun k => znar T k + zgv2 T (zlack T (T 11 0 4)) all k) (g := zS (zgv2 T (zlack T (T 11 0 4)) all) 0 (T 11 0 4)) (k := 0) (Int.le_refl _) (by
        unfold zfn
        rw [zF_self _ _ (Int.le_refl _)]
        show all ≤ zS (zgv2 T (zlack T (T 11 0 4)) all) 0 (T 11 0 4)
        omega) (T 11 0 4).toNat
      rw [show (0 : Int) + ((T 11 0 4).toNat : Int) = T 11 0 4 by omega] at st
      rw [st]
      unfold zfn
      rw [zF_self _ _ (Int.le_refl _)]
      show znar T i + zgv2 T (zlack T (T 11 0 4)) all i = znar T i
      rw [e0]; omega
    · rw [if_neg hr]
      have hr' : 0 < zrest T := by omega
      have eg : zS (zgv2 T (zlack T (T 11 0 4)) all) 0 (T 11 0 4) = zS (zgive T) 0 (T 11 0 4) := zS_congr (fun k k0 k1 => hgv k k0 k1 hr')
      by_cases l : zlack T (T 11 0 4) < zrest T
      · rw [if_pos l]
        have ea : all = zlack T (T 11 0 4) := by omega
        have es : zS (zgive T) 0 (T 11 0 4) = zlack T (T 11 0 4) := zS_congr (fun k k0 k1 => by
          unfold zgive
          rw [if_pos l])
        have st := zfn_stop (T := T) (all := all) (w := fun k => znar T k + zgv2 T (zlack T (T 11 0 4)) all k) (g := zS (zgv2 T (zlack T (T 11 0 4)) all) 0 (T 11 0 4)) (k := 0) (Int.le_refl _) (by
          unfold zfn
          rw [zF_self _ _ (Int.le_refl _)]
          show all ≤ zS (zgv2 T (zlack T (T 11 0 4)) all) 0 (T 11 0 4)
          rw [eg, es]; omega) (T 11 0 4).toNat
        rw [show (0 : Int) + ((T 11 0 4).toNat : Int) = T 11 0 4 by omega] at st
        rw [st]
        unfold zfn
        rw [zF_self _ _ (Int.le_refl _)]
        show znar T i + zgv2 T (zlack T (T 11 0 4)) all i = znar T i + zgive T i
        rw [hgv i i0 i1 hr']
      · rw [if_neg l]
        have ea : all = zrest T := by omega
        -- the two folds side by side
        have key : (∀ q, 0 ≤ q → q < T 11 0 4 → (zfn T all (fun k => znar T k + zgv2 T (zlack T (T 11 0 4)) all k) (zS (zgv2 T (zlack T (T 11 0 4)) all) 0 (T 11 0 4)) (T 11 0 4)).1 q = (zfin T (T 11 0 4)).1 q) ∧ (zfn T all (fun k => znar T k + zgv2 T (zlack T (T 11 0 4)) all k) (zS (zgv2 T (zlack T (T 11 0 4)) all) 0 (T 11 0 4)) (T 11 0 4)).2 = (zfin T (T 11 0 4)).2 := by
          unfold zfn zfin
          refine zF_ind2 (fun (_ : Int) (p p' : (Int → Int) × Int) => (∀ q, 0 ≤ q → q < T 11 0 4 → p.1 q = p'.1 q) ∧ p.2 = p'.2) (by omega) ⟨fun q q0 q1 => ?_, eg⟩ (fun k v v' k0 k1 hv => ?_)
          · show znar T q + zgv2 T (zlack T (T 11 0 4)) all q = zgv T q
            unfold zgv
            rw [if_neg hr, hgv q q0 q1 hr']
          · obtain ⟨v1, v2⟩ := hv
            rw [v1 k k0 k1, v2, ea]
            by_cases z1 : zopen T k = 0
            · rw [if_pos z1, if_pos z1]; exact ⟨v1, v2⟩
            · rw [if_neg z1, if_neg z1]
              by_cases z2 : zrest T ≤ v'.2
              · rw [if_pos z2, if_pos z2]; exact ⟨v1, v2⟩
              · rw [if_neg z2, if_neg z2]
                by_cases z3 : zms T k ≤ v'.1 k
                · rw [if_pos z3, if_pos z3]; exact ⟨v1, v2⟩
                · rw [if_neg z3, if_neg z3]
                  refine ⟨fun q q0 q1 => ?_, rfl⟩
                  show zset v.1 k (v'.1 k + 1) q = zset v'.1 k (v'.1 k + 1) q
                  unfold zset
                  split
                  · rfl
                  · exact v1 q q0 q1
        exact key.1 i i0 i1
end JI
