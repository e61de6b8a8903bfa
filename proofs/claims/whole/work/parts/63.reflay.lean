/-! the pure part: the reference lays widths -/
section RL
variable {T M : Mem}
theorem zdg_r (n : Nat) : ∀ w : Int, 0 ≤ zdg n w ∧ zdg n w ≤ n := by
  induction n with
  | zero => intro w; exact ⟨Int.le_refl _, Int.le_refl _⟩
  | succ n ih =>
    intro w
    have := ih (Int.tdiv w 10)
    show 0 ≤ (if w ≤ 9 then 0 else 1 + zdg n (Int.tdiv w 10)) ∧ (if w ≤ 9 then 0 else 1 + zdg n (Int.tdiv w 10)) ≤ ((n + 1 : Nat) : Int)
    split <;> omega
theorem zleft_r (h : Int) : 1 ≤ zleft h ∧ zleft h ≤ 11 := by
  have := zdg_r 9 (Int.tdiv (zabs h) 100)
  unfold zleft
  split <;> omega
def zpw : Nat → Int
  | 0 => 10
  | m + 1 => 10 * zpw m
theorem q_leftOf_l {p : Int} {Qm : Int → Mem → Prop} : ∀ (m n : Nat) (y w : Int), m < n → 0 ≤ w → w < zpw m → 0 ≤ y → y + m ≤ 1000 → Qm (y + zdg m w) M → wp_X10_leftOf_24 p Qm n y w M := by
  intro m
  induction m with
  | zero =>
    intro n y w hn h0 h1 y0 y1 hq
    obtain ⟨n, rfl⟩ : ∃ k, n = k + 1 := ⟨n - 1, by omega⟩
    refine ⟨fun _ => ?_, fun h => ?_⟩
    · have : y + zdg 0 w = y := by show y + 0 = y; omega
      rw [this] at hq; exact hq
    · have : zpw 0 = 10 := rfl
      omega
  | succ m ih =>
    intro n y w hn h0 h1 y0 y1 hq
    obtain ⟨n, rfl⟩ : ∃ k, n = k + 1 := ⟨n - 1, by omega⟩
    have e : zdg (m + 1) w = if w ≤ 9 then 0 else 1 + zdg m (Int.tdiv w 10) := rfl
    rw [e] at hq
    refine ⟨fun h => ?_, fun h => ⟨⟨by omega, by omega⟩, ?_⟩⟩
    · rw [if_pos h] at hq
      rw [Int.add_zero] at hq; exact hq
    · rw [if_neg (by omega)] at hq
      have e2 : zpw (m + 1) = 10 * zpw m := rfl
      rw [Int.tdiv_eq_ediv_of_nonneg h0] at hq ⊢
      refine ih n (y + 1) (w / 10) (by omega) (by omega) (by omega) (by omega) (by omega) ?_
      rw [show y + 1 + zdg m (w / 10) = y + (1 + zdg m (w / 10)) by omega]
      exact hq
theorem q_leftOf {h : Int} {Qm : Int → Mem → Prop} (h0 : -100000000 ≤ h) (h1 : h ≤ 100000000) (hq : Qm (zleft h) M) : wp_X10_leftOf h M Qm := by
  have ea : (if 0 ≤ h then h else -h) = zabs h := rfl
  have hb : 0 ≤ zabs h ∧ zabs h ≤ 100000000 := by unfold zabs; split <;> omega
  have ey : (0 : Int) ≤ (if 0 ≤ h then (1 : Int) else 2) ∧ (if 0 ≤ h then (1 : Int) else 2) ≤ 2 := by split <;> omega
  unfold wp_X10_leftOf
  rw [ea]
  refine ⟨fun _ => ⟨⟨by omega, by omega⟩, trivial⟩, ⟨by omega, by omega⟩, 10, ?_⟩
  have e9 : zpw 9 = 10000000000 := by decide
  have ed : Int.tdiv (zabs h) 100 = zabs h / 100 := Int.tdiv_eq_ediv_of_nonneg hb.1
  refine q_leftOf_l 9 10 _ _ (by omega) (by omega) (by omega) (by omega) (by omega) ?_
  exact hq
theorem zright_r (hG : Good T) {c : Int} (h0 : 0 ≤ c) (h1 : c < T 11 0 15) : 0 ≤ zright T c ∧ zright T c ≤ 4 := by
  obtain ⟨w1, w2, w3, w4, w5, w6, w7, w8, w9, w10, w11, w12⟩ := hG.cell c h0 h1
  unfold zright
  split <;> split <;> omega
theorem q_rightOf (hG : Good T) (hA : Ag T M) {c : Int} (h0 : 0 ≤ c) (h1 : c < T 11 0 15) {Qm : Int → Mem → Prop} (hq : Qm (zright T c) M) : wp_X10_rightOf c M Qm := by
  obtain ⟨w1, w2, w3, w4, w5, w6, w7, w8, w9, w10, w11, w12⟩ := hG.cell c h0 h1
  have hK := hG.nK
  have e75 := hA.s75
  have e76 := hA.s76
  have hr := zright_r hG h0 h1
  have hr2 : 0 ≤ (if T 75 0 c ≤ 0 then (0 : Int) else T 75 0 c + 1) ∧ (if T 75 0 c ≤ 0 then (0 : Int) else T 75 0 c + 1) ≤ 3 := by split <;> omega
  unfold zright at hr hq
  simp only [wp_X10_rightOf, e75, e76]
  exact ⟨⟨by omega, by omega⟩, fun _ => ⟨⟨by omega, by omega⟩, ⟨by omega, by omega⟩, trivial⟩, ⟨by omega, by omega⟩, ⟨by omega, by omega⟩, ⟨by omega, by omega⟩, hq⟩
theorem q_greater {a b : Int} {Qm : Int → Mem → Prop} (hq : Qm (max a b) M) : wp_X10_greater a b M Qm := by
  rw [Int.max_def] at hq; exact hq
/-- what figures make of a column, by the rows gone through -/
theorem zlef_r (hG : Good T) {k n : Int} (n0 : 0 ≤ n) : 0 ≤ zlef T k n ∧ zlef T k n ≤ 11 := by
  refine zF_ind (fun _ m => 0 ≤ m ∧ m ≤ 11) n0 (by omega) (fun r v a b hv => ?_)
  show 0 ≤ (if zfig T r k = -1 then v else max v (zleft (T 74 0 (zfig T r k)))) ∧ (if zfig T r k = -1 then v else max v (zleft (T 74 0 (zfig T r k)))) ≤ 11
  have := zleft_r (T 74 0 (zfig T r k))
  split <;> omega
theorem zrig_r (hG : Good T) {k n : Int} (k0 : 0 ≤ k) (k1 : k < 6) (n0 : 0 ≤ n) (n1 : n ≤ T 11 0 8) : 0 ≤ zrig T k n ∧ zrig T k n ≤ 4 := by
  refine zF_ind (fun _ m => 0 ≤ m ∧ m ≤ 4) n0 (by omega) (fun r v a b hv => ?_)
  show 0 ≤ (if zfig T r k = -1 then v else max v (zright T (zfig T r k))) ∧ (if zfig T r k = -1 then v else max v (zright T (zfig T r k))) ≤ 4
  split
  · exact hv
  · rename_i h
    obtain ⟨f1, f2, -⟩ := zfig_r hG a (by omega) k0 k1 h
    have := zright_r hG f1 f2
    omega
theorem zabv_r (hG : Good T) {k n : Int} (k0 : 0 ≤ k) (k1 : k < 6) (n0 : 0 ≤ n) (n1 : n ≤ T 11 0 8) : 0 ≤ zabv T k n ∧ zabv T k n ≤ 1000000 * n := by
  have := zS_bd (f := fun r => if zfig T r k = -1 then 0 else if ¬ T 60 0 r = 1 then 0 else if T 74 0 (zfig T r k) ≤ 0 then 0 else T 74 0 (zfig T r k)) (a := 0) (b := n) 0 1000000 n0 (fun r a b => by
    show 0 ≤ (if zfig T r k = -1 then 0 else if ¬ T 60 0 r = 1 then 0 else if T 74 0 (zfig T r k) ≤ 0 then 0 else T 74 0 (zfig T r k)) ∧ (if zfig T r k = -1 then 0 else if ¬ T 60 0 r = 1 then 0 else if T 74 0 (zfig T r k) ≤ 0 then 0 else T 74 0 (zfig T r k)) ≤ 1000000
    by_cases h : zfig T r k = -1
    · rw [if_pos h]; omega
    · rw [if_neg h]
      obtain ⟨f1, f2, -⟩ := zfig_r hG a (by omega) k0 k1 h
      obtain ⟨w1, w2, w3, w4, w5, w6, w7, w8, w9, w10, w11, w12⟩ := hG.cell _ f1 f2
      split
      · omega
      · split <;> omega)
  unfold zabv
  omega
theorem zblw_r (hG : Good T) {k n : Int} (k0 : 0 ≤ k) (k1 : k < 6) (n0 : 0 ≤ n) (n1 : n ≤ T 11 0 8) : -1000000 * n ≤ zblw T k n ∧ zblw T k n ≤ 0 := by
  have := zS_bd (f := fun r => if zfig T r k = -1 then 0 else if ¬ T 60 0 r = 1 then 0 else if 0 ≤ T 74 0 (zfig T r k) then 0 else T 74 0 (zfig T r k)) (a := 0) (b := n) (-1000000) 0 n0 (fun r a b => by
    show -1000000 ≤ (if zfig T r k = -1 then 0 else if ¬ T 60 0 r = 1 then 0 else if 0 ≤ T 74 0 (zfig T r k) then 0 else T 74 0 (zfig T r k)) ∧ (if zfig T r k = -1 then 0 else if ¬ T 60 0 r = 1 then 0 else if 0 ≤ T 74 0 (zfig T r k) then 0 else T 74 0 (zfig T r k)) ≤ 0
    by_cases h : zfig T r k = -1
    · rw [if_pos h]; omega
    · rw [if_neg h]
      obtain ⟨f1, f2, -⟩ := zfig_r hG a (by omega) k0 k1 h
      obtain ⟨w1, w2, w3, w4, w5, w6, w7, w8, w9, w10, w11, w12⟩ := hG.cell _ f1 f2
      split
      · omega
      · split <;> omega)
  unfold zblw
  omega
def zfr2 (a b : Nat) (k : Int) (M M' : Mem) : Prop := ∀ s i j, ¬ ((s = a ∨ s = b) ∧ i = 0 ∧ j = k) → M' s i j = M s i j
theorem q_laysFigures (hG : Good T) (hA : Ag T M) {k : Int} (k0 : 0 ≤ k) (k1 : k < T 11 0 4) {Qm : Mem → Prop} (hq : ∀ M', zfr2 80 81 k M M' → M' 80 0 k = zLf T k → M' 81 0 k = zRg T k → Qm M') : wp_X10_laysFigures k M Qm := by
  have hC := hG.nC
  have hR := hG.nR
  refine ⟨⟨by omega, by omega⟩, ?_⟩
  rintro _ rfl
  refine ⟨⟨by omega, by omega⟩, ?_⟩
  rintro _ rfl
  refine zLoop (σ := Int × Int × Int × Mem) (fun n y q => wp_X10_laysFigures_24 k Qm n q.1 q.2.1 q.2.2.1 y q.2.2.2) (fun y q => q.1 = zabv T k y ∧ q.2.1 = zblw T k y ∧ q.2.2.1 = zany T k y ∧ zfr2 80 81 k M q.2.2.2 ∧ q.2.2.2 80 0 k = zlef T k y ∧ q.2.2.2 81 0 k = zrig T k y) (s := (0, 0, 0, up (up M 80 0 k 0) 81 0 k 0)) (T 11 0 8) hR.1 ⟨(zS_self _ (by omega)).symm, (zS_self _ (by omega)).symm, (zF_self _ _ (by omega)).symm, ?_, ?_, ?_⟩ ?_ ?_
  · intro s i j h
    show up (up M 80 0 k 0) 81 0 k 0 s i j = _
    rw [up_at, if_neg (by omega), up_at, if_neg (by omega)]
  · show up (up M 80 0 k 0) 81 0 k 0 80 0 k = _
    rw [up_s _ _ _ _ (by decide), up_eq]
    exact (zF_self _ _ (by omega)).symm
  · show up (up M 80 0 k 0) 81 0 k 0 81 0 k = _
    rw [up_eq]
    exact (zF_self _ _ (by omega)).symm
  · rintro n ⟨y2, y3, y4, N⟩ ⟨h2, h3, h4, hf, h80, h81⟩
    dsimp only at h2 h3 h4 hf h80 h81
    subst h2 h3 h4
    have hA' : Ag T N := fun s i j z => by
      rw [hf s i j (by rintro ⟨rfl | rfl, -, -⟩ <;> cases z)]
      exact hA s i j z
    have e8 := hA'.f8
    have e58 := hA'.s58
    show wp_X10_laysFigures_24 k Qm (n + 1) _ _ _ _ N
    simp only [wp_X10_laysFigures_24, e8, e58]
    refine ⟨fun _ => ?_, fun h => absurd h (by omega)⟩
    have hl := zlef_r hG (k := k) hR.1
    have ha := zabv_r hG k0 (by omega) hR.1 (Int.le_refl _)
    have hb := zblw_r hG k0 (by omega) hR.1 (Int.le_refl _)
    refine ⟨fun h => hq N hf ?_ h81, fun h => ⟨⟨by omega, by omega⟩, fun h' => hq N hf ?_ h81, fun h' => ⟨⟨by omega, by omega⟩, q_leftOf (by omega) (by omega) (q_leftOf (by omega) (by omega) (q_greater (q_greater ⟨⟨by omega, by omega⟩, ?_⟩)))⟩⟩⟩
    · rw [h80, zLf, if_pos (Or.inl h)]
    · rw [h80, zLf, if_pos (Or.inr h')]
    · rintro _ rfl
      refine hq _ (fun s i j h => ?_) ?_ ?_
      · rw [up_at, if_neg (by omega)]; exact hf s i j h
      · rw [up_eq, zLf, if_neg (by omega), h80]
      · rw [up_s _ _ _ _ (by decide)]; exact h81
  · rintro n y ⟨y2, y3, y4, N⟩ y0 y1 ⟨h2, h3, h4, hf, h80, h81⟩ ih
    dsimp only at h2 h3 h4 hf h80 h81 ih
    subst h2 h3 h4
    have hA' : Ag T N := fun s i j z => by
      rw [hf s i j (by rintro ⟨rfl | rfl, -, -⟩ <;> cases z)]
      exact hA s i j z
    have e8 := hA'.f8
    have e74 := hA'.s74
    have ha := zabv_r hG k0 (by omega) y0 (by omega)
    have hb := zblw_r hG k0 (by omega) y0 (by omega)
    have ea : zabv T k (y + 1) = _ := zS_succ _ y0
    have eb : zblw T k (y + 1) = _ := zS_succ _ y0
    have ec : zany T k (y + 1) = _ := zF_succ _ _ y0
    have el : zlef T k (y + 1) = _ := zF_succ _ _ y0
    have er : zrig T k (y + 1) = _ := zF_succ _ _ y0
    show wp_X10_laysFigures_24 k Qm (n + 1) _ _ _ _ N
    simp only [wp_X10_laysFigures_24, e8]
    refine ⟨fun h => absurd h (by omega), fun _ => q_figureOf hG hA' y0 y1 k0 (by omega) ⟨fun h => ?_, fun h => ?_⟩⟩
    · refine ⟨⟨by omega, by omega⟩, ih (_, _, _, _) ⟨?_, ?_, ?_, hf, ?_, ?_⟩⟩
      · rw [ea, if_pos h, Int.add_zero]; rfl
      · rw [eb, if_pos h, Int.add_zero]; rfl
      · rw [ec, if_pos h]; rfl
      · rw [el, if_pos h]; exact h80
      · rw [er, if_pos h]; exact h81
    · obtain ⟨f1, f2, f3, f4, f5, f6⟩ := zfig_r hG y0 y1 k0 (by omega) h
      generalize hc : zfig T y k = c at *
      obtain ⟨w1, w2, w3, w4, w5, w6, w7, w8, w9, w10, w11, w12⟩ := hG.cell c f1 f2
      have hK := hG.nK
      simp only [e74]
      refine ⟨⟨by omega, by omega⟩, ⟨by omega, by omega⟩, q_leftOf (by omega) (by omega) (q_greater ⟨⟨by omega, by omega⟩, ?_⟩)⟩
      intro N2 e2
      have hA2 : Ag T N2 := by rw [e2]; exact hA'.up rfl
      refine ⟨⟨by omega, by omega⟩, q_rightOf hG hA2 f1 f2 (q_greater ⟨⟨by omega, by omega⟩, ?_⟩)⟩
      intro N3 e3
      have hA3 : Ag T N3 := by rw [e3]; exact hA2.up rfl
      have e60 := hA3.s60
      have e74' := hA3.s74
      simp only [wp_X10_laysFigures_167, e60, e74']
      have b1 : 0 ≤ (if ¬ T 60 0 y = 1 then (0 : Int) else if T 74 0 c ≤ 0 then 0 else T 74 0 c) ∧ (if ¬ T 60 0 y = 1 then (0 : Int) else if T 74 0 c ≤ 0 then 0 else T 74 0 c) ≤ 1000000 := by split; omega; split <;> omega
      have b2 : -1000000 ≤ (if ¬ T 60 0 y = 1 then (0 : Int) else if 0 ≤ T 74 0 c then 0 else T 74 0 c) ∧ (if ¬ T 60 0 y = 1 then (0 : Int) else if 0 ≤ T 74 0 c then 0 else T 74 0 c) ≤ 0 := by split; omega; split <;> omega
      refine ⟨⟨by omega, by omega⟩, fun _ => ⟨⟨by omega, by omega⟩, fun _ => ⟨⟨by omega, by omega⟩, trivial⟩, trivial⟩, ⟨by omega, by omega⟩, ⟨by omega, by omega⟩, fun _ => ⟨⟨by omega, by omega⟩, fun _ => ⟨⟨by omega, by omega⟩, trivial⟩, trivial⟩, ⟨by omega, by omega⟩, ⟨by omega, by omega⟩, ih (_, _, _, N3) ⟨?_, ?_, ?_, ?_, ?_, ?_⟩⟩
      · rw [ea, if_neg h]; rfl
      · rw [eb, if_neg h]; rfl
      · rw [ec, if_neg h]
      · intro s i j h
        show N3 s i j = _
        rw [e3, up_at, if_neg (by omega), e2, up_at, if_neg (by omega)]
        exact hf s i j h
      · show N3 80 0 k = _
        rw [e3, up_s _ _ _ _ (by decide), e2, up_eq, el, if_neg h, h80]; rfl
      · show N3 81 0 k = _
        rw [e3, up_eq, e2, up_s _ _ _ _ (by decide), er, if_neg h, h81]; rfl
end RL
