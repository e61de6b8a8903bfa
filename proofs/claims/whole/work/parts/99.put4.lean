/-! the pure part: calls that change contents and settings, fourth part -/
section NA
variable {T M T' : Mem} {O : zSt} {κ : Nat → Int} {K : (Nat → Int) → Mem → Prop} {p1 p2 p3 p4 : Int}
theorem l_word (h : Iv T O κ M) (hr : inR p2) (hK : ∀ T' M', Iv T' O κ M' → K κ M') : wp_law_3 p1 p2 p3 κ M K := by
  have h' := h
  obtain ⟨hG, hL, hA, -, -, -, -, -, hw, -⟩ := h
  have hKn := hG.nK
  have n14 := hL.n.2.2
  have x14 := hA.s14
  have x1 := hA.s1
  have x72 := hA.s72
  have x73 := hA.s73
  have hr2 : -2147483648 ≤ p2 ∧ p2 ≤ 2147483647 := hr
  refine k_hasCell hG hL hA (fun hp => ⟨fun _ => ?_, fun z => absurd z (by decide)⟩) (fun hp => ⟨fun z => absurd rfl z, fun _ => Or.inl ⟨rfl, ?_⟩⟩)
  · obtain ⟨l0, l1, l2, l3, l4, l7, l8, l9, l10, l11, l12, lw⟩ := hL.cell hp.1 hp.2
    obtain ⟨w1, w2, w3, w4, w5, w6, w7, w8, w9, w10, w11, w12⟩ := hG.cell p1 hp.1 hp.2
    have hflag : (if (1 : Int) = 0 then (0 : Int) else if ¬ T 73 0 p1 = 0 then 0 else if 12 ≤ T 72 0 p1 then 0 else 1) = (if ¬ T 73 0 p1 = 0 then 0 else if 12 ≤ T 72 0 p1 then 0 else 1) := rfl
    have hbad : ¬ ((1 ≤ p2 ∧ p2 ≤ 20) ∧ 0 ≤ p3 ∧ p3 ≤ p2 - 1) → (wp_X10_word p1 p2 p3 M fun r1 N1 => wp_X10_thrown N1 fun r2 N2 => r2 = 2 ∧ ((2 : Int) = 0 → N2 103 0 0 = r1) ∧ K κ N2) := fun hx => by
      refine q_isCell hG hA (fun _ => q_in (fun a => ⟨fun z => absurd z (by decide), fun _ => ⟨⟨by omega, by omega⟩, q_in (fun b => absurd ⟨a, b⟩ hx) (fun _ => ⟨fun _ => ⟨⟨by omega, by omega⟩, fun _ => ⟨⟨by omega, by omega⟩, trivial⟩, trivial⟩, q_goes2 (by decide) rfl ⟨fun z => absurd rfl z, fun _ => finx0 h' (fun M' => hK T M') (by decide)⟩⟩)⟩⟩) (fun _ => ⟨fun _ => ⟨fun _ => ⟨⟨by omega, by omega⟩, fun _ => ⟨⟨by omega, by omega⟩, trivial⟩, trivial⟩, q_goes2 (by decide) rfl ⟨fun z => absurd rfl z, fun _ => finx0 h' (fun M' => hK T M') (by decide)⟩⟩, fun z => absurd rfl z⟩)) (fun z => absurd hp z)
    have hst : ((1 ≤ p2 ∧ p2 ≤ 20) ∧ 0 ≤ p3 ∧ p3 ≤ p2 - 1) → ¬ (T 73 0 p1 = 0 ∧ T 72 0 p1 < 12) → (wp_X10_word p1 p2 p3 M fun r1 N1 => wp_X10_thrown N1 fun r2 N2 => r2 = 3 ∧ ((3 : Int) = 0 → N2 103 0 0 = r1) ∧ K κ N2) := fun hx hy => by
      refine q_isCell hG hA (fun _ => q_in (fun a => ⟨fun z => absurd z (by decide), fun _ => ⟨⟨by omega, by omega⟩, q_in (fun b => ⟨fun _ => ⟨⟨by omega, by omega⟩, fun _ => ⟨⟨by omega, by omega⟩, trivial⟩, trivial⟩, q_goes3 (by decide) (by decide) ?_ ⟨fun z => absurd rfl z, fun _ => finx0 h' (fun M' => hK T M') (by decide)⟩⟩) (fun z => absurd hx.2 z)⟩⟩) (fun z => absurd hx.1 z)) (fun z => absurd hp z)
      rw [x73, x72, hflag]
      by_cases z : T 73 0 p1 = 0
      · rw [if_neg (fun w => w z), if_pos (by omega)]
      · rw [if_pos z]
    dsimp only
    rw [x14, x1, n14, l0, l7, l8]
    refine ⟨fun a => Or.inr (Or.inl ⟨rfl, hbad (by omega)⟩), fun a => ⟨fun b => Or.inr (Or.inl ⟨rfl, hbad (by omega)⟩), fun b => ⟨fun d => Or.inr (Or.inl ⟨rfl, hbad (by omega)⟩), fun d => ⟨⟨by omega, by omega⟩, fun e => ⟨hp, fun f => Or.inr (Or.inr ⟨rfl, hst ⟨⟨a, b⟩, d, e⟩ (fun z => f z.1)⟩), fun f => ⟨fun g => ?_, fun g => Or.inr (Or.inr ⟨rfl, hst ⟨⟨a, b⟩, d, e⟩ (fun z => by omega)⟩)⟩⟩, fun e => Or.inr (Or.inl ⟨rfl, hbad (by omega)⟩)⟩⟩⟩⟩
    intro M7 m7
    have y7 : M7 1 p1 7 = T 72 0 p1 := by rw [m7, up_s _ _ _ _ (by decide), x1, l7]
    unfold wp_X0_addWord
    rw [y7]
    refine ⟨fun z => absurd z (by omega), fun _ => ⟨⟨by omega, by omega⟩, ?_⟩⟩
    intro Ma ma
    have ya : Ma 1 p1 7 = T 72 0 p1 := by rw [ma, up_s _ _ _ _ (by decide)]; exact y7
    rw [ya]
    refine ⟨⟨by omega, by omega⟩, ?_⟩
    intro Mb mb
    have yb : Mb 1 p1 7 = T 72 0 p1 := by rw [mb, up_s _ _ _ _ (by decide)]; exact ya
    rw [yb]
    refine ⟨⟨by omega, by omega⟩, ?_⟩
    intro M9 m9
    have y9 : M9 1 p1 7 = T 72 0 p1 + 1 := by rw [m9, up_eq]
    unfold wp_X0_addWord_39
    dsimp only
    rw [y9]
    obtain ⟨T1, eT1⟩ : ∃ T1, T1 = up (up (up T 25 p1 (T 72 0 p1) p2) 26 p1 (T 72 0 p1) p3) 1 p1 7 (T 72 0 p1 + 1) := ⟨_, rfl⟩
    have hA9 : Ag T1 (up M9 103 0 0 (T 72 0 p1 + 1)) := by rw [eT1, m9, mb, ma, m7]; exact (ag_up2 (ag_up2 (ag_up2 (hA.up rfl) _ _ _ _) _ _ _ _) _ _ _ _).up rfl
    have hG1 : Good T1 := hG.cl (fun s hs => by rw [eT1, up_f _ _ _ _ (by omega), up_f _ _ _ _ (by omega), up_f _ _ _ _ (by omega)])
    have d1 : ∀ (s : Nat) (j k : Int), s ≠ 1 → s ≠ 25 → s ≠ 26 → T1 s j k = T s j k := fun s j k x y z => by rw [eT1, up_s _ _ _ _ x, up_s _ _ _ _ z, up_s _ _ _ _ y]
    have f15 : T1 11 0 15 = T 11 0 15 := d1 11 0 15 (by decide) (by decide) (by decide)
    have z72 := hA9.s72
    have z73 := hA9.s73
    have e72 : T1 72 0 p1 = T 72 0 p1 := d1 72 0 p1 (by decide) (by decide) (by decide)
    have e73 : T1 73 0 p1 = T 73 0 p1 := d1 73 0 p1 (by decide) (by decide) (by decide)
    refine q_isCell hG1 hA9 (fun _ => q_in (fun _ => ⟨fun z => absurd z (by decide), fun _ => ⟨⟨by omega, by omega⟩, q_in (fun _ => ⟨fun _ => ⟨⟨by omega, by omega⟩, fun _ => ⟨⟨by omega, by omega⟩, trivial⟩, trivial⟩, ?_⟩) (fun z => absurd ⟨d, e⟩ z)⟩⟩) (fun z => absurd ⟨a, b⟩ z)) (fun z => absurd (by rw [f15]; exact hp) z)
    rw [z72, z73, e72, e73, hflag, if_neg (fun w : ¬ T 73 0 p1 = 0 => w f), if_neg (by omega : ¬ 12 ≤ T 72 0 p1)]
    have v72 : up (up M9 103 0 0 (T 72 0 p1 + 1)) 11 0 59 0 72 0 p1 = T 72 0 p1 := by rw [up_s _ _ _ _ (by decide), z72, e72]
    refine q_goes0 (by decide) (by decide) (by decide) ⟨fun _ => ⟨⟨by omega, by omega⟩, ⟨by omega, by omega⟩, by rw [v72]; exact ⟨by omega, by omega⟩, by rw [v72]; exact ⟨by omega, by omega⟩, ?_⟩, fun z => absurd z (by decide)⟩
    rw [v72]
    intro N1 n1
    have v1 : N1 72 0 p1 = T 72 0 p1 := by rw [n1, up_s _ _ _ _ (by decide)]; exact v72
    rw [v1]
    refine ⟨⟨by omega, by omega⟩, ⟨by omega, by omega⟩, ⟨by omega, by omega⟩, ⟨by omega, by omega⟩, ?_⟩
    intro N2 n2
    have v2 : N2 72 0 p1 = T 72 0 p1 := by rw [n2, up_s _ _ _ _ (by decide)]; exact v1
    rw [v2]
    refine ⟨⟨by omega, by omega⟩, ⟨by omega, by omega⟩, ⟨by omega, by omega⟩, ?_⟩
    intro N n3
    refine ⟨⟨by omega, by omega⟩, ?_⟩
    have v3 : N 72 0 p1 = T 72 0 p1 + 1 := by rw [n3, up_eq]
    rw [v3]
    obtain ⟨T', eT⟩ : ∃ T', T' = up (up (up T1 70 0 (12 * p1 + T 72 0 p1) p2) 71 0 (12 * p1 + T 72 0 p1) p3) 72 0 p1 (T 72 0 p1 + 1) := ⟨_, rfl⟩
    have hA' : Ag T' N := by rw [eT, n3, n2, n1]; exact ag_up2 (ag_up2 (ag_up2 (hA9.up rfl) _ _ _ _) _ _ _ _) _ _ _ _
    have dS : ∀ s : Nat, s ≠ 1 → s ≠ 25 → s ≠ 26 → s ≠ 70 → s ≠ 71 → s ≠ 72 → T' s = T s := fun s x y z u v w => by rw [eT, up_f _ _ _ _ w, up_f _ _ _ _ v, up_f _ _ _ _ u, eT1, up_f _ _ _ _ x, up_f _ _ _ _ z, up_f _ _ _ _ y]
    have t72 : T' 72 0 p1 = T 72 0 p1 + 1 := by rw [eT, up_eq]
    have t73 : T' 73 = T 73 := dS 73 (by decide) (by decide) (by decide) (by decide) (by decide) (by decide)
    have t74 : T' 74 = T 74 := dS 74 (by decide) (by decide) (by decide) (by decide) (by decide) (by decide)
    have t75 : T' 75 = T 75 := dS 75 (by decide) (by decide) (by decide) (by decide) (by decide) (by decide)
    have t76 : T' 76 = T 76 := dS 76 (by decide) (by decide) (by decide) (by decide) (by decide) (by decide)
    have t1 : ∀ k, k ≠ 7 → T' 1 p1 k = T 1 p1 k := fun k x => by rw [eT, up_s _ _ _ _ (by decide), up_s _ _ _ _ (by decide), up_s _ _ _ _ (by decide), eT1, up_k _ _ _ _ _ _ x, up_s _ _ _ _ (by decide), up_s _ _ _ _ (by decide)]
    have t70 : ∀ q, T' 70 0 q = if q = 12 * p1 + T 72 0 p1 then p2 else T 70 0 q := fun q => by
      rw [eT, up_s _ _ _ _ (by decide), up_s _ _ _ _ (by decide)]
      by_cases x : q = 12 * p1 + T 72 0 p1
      · rw [if_pos x, x, up_eq]
      · rw [if_neg x, up_k _ _ _ _ _ _ x]; exact d1 70 0 q (by decide) (by decide) (by decide)
    have t71 : ∀ q, T' 71 0 q = if q = 12 * p1 + T 72 0 p1 then p3 else T 71 0 q := fun q => by
      rw [eT, up_s _ _ _ _ (by decide)]
      by_cases x : q = 12 * p1 + T 72 0 p1
      · rw [if_pos x, x, up_eq]
      · rw [if_neg x, up_k _ _ _ _ _ _ x, up_s _ _ _ _ (by decide)]; exact d1 71 0 q (by decide) (by decide) (by decide)
    have t25 : ∀ q, T' 25 p1 q = if q = T 72 0 p1 then p2 else T 25 p1 q := fun q => by
      rw [eT, up_s _ _ _ _ (by decide), up_s _ _ _ _ (by decide), up_s _ _ _ _ (by decide), eT1, up_s _ _ _ _ (by decide), up_s _ _ _ _ (by decide)]
      by_cases x : q = T 72 0 p1
      · rw [if_pos x, x, up_eq]
      · rw [if_neg x, up_k _ _ _ _ _ _ x]
    have t26 : ∀ q, T' 26 p1 q = if q = T 72 0 p1 then p3 else T 26 p1 q := fun q => by
      rw [eT, up_s _ _ _ _ (by decide), up_s _ _ _ _ (by decide), up_s _ _ _ _ (by decide), eT1, up_s _ _ _ _ (by decide)]
      by_cases x : q = T 72 0 p1
      · rw [if_pos x, x, up_eq]
      · rw [if_neg x, up_k _ _ _ _ _ _ x, up_s _ _ _ _ (by decide)]
    obtain ⟨e0, hG', hL', hw'⟩ := zput_cell (T' := T') hG hL hw hp.1 hp.2 (fun s hs => dS s (by omega) (by omega) (by omega) (by omega) (by omega) (by omega)) (fun s hs j k hj => by
      rw [eT, up_s _ _ _ _ (by omega), up_s _ _ _ _ (by omega), up_s _ _ _ _ (by omega), eT1, up_j _ _ _ _ _ hj, up_j _ _ _ _ _ hj, up_j _ _ _ _ _ hj]) (fun s hs k hk => by
      rw [eT, up_k _ _ _ _ _ _ hk, up_s _ _ _ _ (by omega), up_s _ _ _ _ (by omega)]; exact d1 s 0 k (by omega) (by omega) (by omega)) (fun s hs i k hi k0 k1 => by
      rcases hs with hs | hs
      · rw [hs, t70, if_neg (by omega)]
      · rw [hs, t71, if_neg (by omega)]) (fun k hk => t1 k (by omega))
      (by rw [t72, t73, t74, t75, t76]; exact ⟨⟨by omega, by omega⟩, w7, w8, w9, w10, fun z => by omega, w12⟩)
      (fun i i0 i1 => by
        rw [t72] at i1
        rw [t70, t71, t25, t26]
        by_cases x : i = T 72 0 p1
        · rw [if_pos (by omega), if_pos (by omega), if_pos x, if_pos x]
          exact ⟨⟨⟨a, b⟩, d, by omega⟩, rfl, rfl⟩
        · rw [if_neg (by omega), if_neg (by omega), if_neg x, if_neg x]
          exact ⟨hG.word p1 i hp.1 hp.2 i0 (by omega), lw i i0 (by omega)⟩)
      (by
        rw [t72, t73, t74, t75, t76, t1 8 (by decide), t1 9 (by decide), t1 10 (by decide), t1 11 (by decide)]
        refine ⟨?_, l8, l9, l10, l11⟩
        rw [eT, up_s _ _ _ _ (by decide), up_s _ _ _ _ (by decide), up_s _ _ _ _ (by decide), eT1, up_eq])
    refine ⟨?_, fun _ => ?_, hK T' N (h'.st e0 hG' hL' hA' hw' (fun s j k z => ?_) ?_)⟩
    · rw [n3, up_s _ _ _ _ (by decide), n2, up_s _ _ _ _ (by decide), n1, up_s _ _ _ _ (by decide), up_eq]
    · rw [n3, up_s _ _ _ _ (by decide), n2, up_s _ _ _ _ (by decide), n1, up_s _ _ _ _ (by decide), up_s _ _ _ _ (by decide), up_eq]
    · rw [n3, up_at, if_neg (by omega), n2, up_at, if_neg (by omega), n1, up_at, if_neg (by omega), up_at, if_neg (by omega), up_at, if_neg (by omega), m9, up_at, if_neg (by omega), mb, up_at, if_neg (by omega), ma, up_at, if_neg (by omega), m7, up_at, if_neg (by omega)]
    · rw [n3, up_s _ _ _ _ (by decide), n2, up_s _ _ _ _ (by decide), n1, up_s _ _ _ _ (by decide), up_s _ _ _ _ (by decide), up_s _ _ _ _ (by decide), m9, up_s _ _ _ _ (by decide), mb, up_s _ _ _ _ (by decide), ma, up_s _ _ _ _ (by decide), m7, up_eq]
      decide
  · refine q_isCell hG hA (fun z => absurd z hp) (fun _ => q_in (fun a => ⟨fun z => absurd z (by decide), fun _ => ⟨⟨by omega, by omega⟩, q_in (fun b => ⟨fun z => absurd rfl z, q_goes1 rfl ⟨fun z => absurd rfl z, fun _ => finx0 h' (fun M' => hK T M') (by decide)⟩⟩) (fun _ => ⟨fun z => absurd rfl z, q_goes1 rfl ⟨fun z => absurd rfl z, fun _ => finx0 h' (fun M' => hK T M') (by decide)⟩⟩)⟩⟩) (fun _ => ⟨fun _ => ⟨fun z => absurd rfl z, q_goes1 rfl ⟨fun z => absurd rfl z, fun _ => finx0 h' (fun M' => hK T M') (by decide)⟩⟩, fun z => absurd rfl z⟩))
end NA
