/-! the pure part: calls that change contents and settings, sixth part -/
section PA
variable {T M T' : Mem} {O : zSt} {κ : Nat → Int} {K : (Nat → Int) → Mem → Prop} {p1 p2 p3 p4 : Int}
theorem l_totalled (h : Iv T O κ M) (hK : ∀ T' M', Iv T' O κ M' → K κ M') : wp_law_10 p1 κ M K := by
  have h' := h
  obtain ⟨hG, hL, hA, -, -, -, -, -, hw, -⟩ := h
  have hC := hG.nC
  have n12 := hL.n.1
  refine k_hasColumn hG hL hA (fun hp => ⟨fun _ => ?_, fun z => absurd z (by decide)⟩) (fun hp => ⟨fun z => absurd rfl z, fun _ => ⟨rfl, ?_⟩⟩)
  · obtain ⟨l0, l1, l2, l3⟩ := hL.col hp.1 hp.2
    have hc := hG.col p1 hp.1 hp.2
    intro M2 m2
    have hA2 : Ag T M2 := by rw [m2]; exact hA.up rfl
    have x12 := hA2.s12
    have x2 := hA2.s2
    have hv : (if ¬ T 58 0 p1 = 0 then (0 : Int) else 1) = 0 ∨ (if ¬ T 58 0 p1 = 0 then (0 : Int) else 1) = 1 := by split; exact Or.inl rfl; exact Or.inr rfl
    rw [x12, n12, l0, x2, l3]
    generalize hve : (if ¬ T 58 0 p1 = 0 then (0 : Int) else 1) = v at hv ⊢
    refine ⟨hp, hv, ?_⟩
    intro M11 m11
    have v11 : M11 2 p1 3 = v := by rw [m11, up_eq]
    rw [v11]
    refine ⟨hv, ?_⟩
    have ref : (wp_X10_totalled p1 (up M11 103 0 0 v) fun r1 N1 => wp_X10_thrown N1 fun r2 N2 => r2 = 0 ∧ ((0 : Int) = 0 → N2 103 0 0 = zb r1) ∧ K κ N2) := by
      obtain ⟨T1, eT1⟩ : ∃ T1, T1 = up T 2 p1 3 v := ⟨_, rfl⟩
      have hA1 : Ag T1 (up M11 103 0 0 v) := by rw [eT1, m11]; exact (ag_up2 hA2 _ _ _ _).up rfl
      have d1 : ∀ s : Nat, s ≠ 2 → T1 s = T s := fun s x => by rw [eT1, up_f _ _ _ _ x]
      have hG1 : Good T1 := hG.cl (fun s hs => d1 s (by omega))
      have z58 : up (up M11 103 0 0 v) 11 0 59 0 58 0 p1 = T 58 0 p1 := by
        have := hA1.s58
        rw [up_s _ _ _ _ (by decide), this, d1 58 (by decide)]
      refine q_isColumn hG1 hA1 (fun _ => q_goes0 (by decide) (by decide) (by decide) ⟨fun _ => ⟨⟨by omega, by omega⟩, ?_⟩, fun z => absurd z (by decide)⟩) (fun z => absurd (by rw [d1 11 (by decide)]; exact hp) z)
      rw [z58, hve]
      refine ⟨hv, ⟨by omega, by omega⟩, ?_⟩
      intro N n1
      have vN : N 58 0 p1 = v := by rw [n1, up_eq]
      rw [vN]
      refine ⟨⟨by omega, by omega⟩, hv, ?_⟩
      obtain ⟨T', eT⟩ : ∃ T', T' = up T1 58 0 p1 v := ⟨_, rfl⟩
      have hA' : Ag T' N := by rw [eT, n1]; exact ag_up2 (hA1.up rfl) _ _ _ _
      have dS : ∀ s : Nat, s ≠ 2 → s ≠ 58 → T' s = T s := fun s x y => by rw [eT, up_f _ _ _ _ y]; exact d1 s x
      have e0 : zSt0 T T' := ⟨⟨by rw [dS 11 (by decide) (by decide)], by rw [dS 11 (by decide) (by decide)], by rw [dS 11 (by decide) (by decide)]⟩, fun s hs => dS s (by omega) (by omega)⟩
      obtain ⟨z0, zp⟩ := zset0 (fun s hs => dS s (by omega) (by omega)) e0 hG hL
      have t58 : ∀ k, T' 58 0 k = if k = p1 then v else T 58 0 k := fun k => by
        by_cases e : k = p1
        · rw [if_pos e, e, eT, up_eq]
        · rw [if_neg e, eT, up_k _ _ _ _ _ _ e, d1 58 (by decide)]
      have d : ∀ s : Nat, 60 ≤ s → T' s = T s := fun s hs => dS s (by omega) (by omega)
      have hG' : Good T' := by
        refine hG.st e0 z0 ?_ ?_ (zGK_st hG.cell e0 (d 72 (by decide)) (d 73 (by decide)) (d 74 (by decide)) (d 75 (by decide)) (d 76 (by decide))) (zGW_st hG.word e0 (d 72 (by decide)) (d 70 (by decide)) (d 71 (by decide)))
        · have := hG.col
          unfold zGC at this ⊢
          rw [e0.1.1, e0.2 56 (by decide), e0.2 57 (by decide), e0.2 59 (by decide)]
          intro k k0 k1
          obtain ⟨y1, y2, y3, y4⟩ := this k k0 k1
          rw [t58]
          refine ⟨y1, y2, ?_, y4⟩
          split <;> omega
        · have := hG.vis
          unfold zGV at this ⊢
          rw [e0.1.1, e0.2 59 (by decide)]
          refine ⟨this.1, fun k k0 k1 => ?_⟩
          rw [t58, if_neg (by omega)]
          exact this.2 k k0 k1
      have t2 : ∀ k, T' 2 k 3 = if k = p1 then v else T 2 k 3 := fun k => by
        rw [eT, up_s _ _ _ _ (by decide), eT1]
        by_cases e : k = p1
        · rw [if_pos e, e, up_eq]
        · rw [if_neg e, up_j _ _ _ _ _ e]
      have t2' : ∀ k i, i ≠ 3 → T' 2 k i = T 2 k i := fun k i hi => by rw [eT, up_s _ _ _ _ (by decide), eT1, up_k _ _ _ _ _ _ hi]
      refine ⟨?_, fun _ => ?_, hK T' N (h'.st e0 hG' (hL.st e0 ?_ (zLe_st hL.le e0 (dS 1 (by decide) (by decide)) (d 72 (by decide)) (d 73 (by decide)) (d 74 (by decide)) (d 75 (by decide)) (d 76 (by decide)) (dS 25 (by decide) (by decide)) (dS 26 (by decide) (by decide)) (d 70 (by decide)) (d 71 (by decide))) zp) hA' (zNW_st hw e0 (d 72 (by decide)) (d 73 (by decide)) (d 74 (by decide)) (d 75 (by decide)) (d 76 (by decide))) (fun s j k z => ?_) ?_)⟩
      · rw [n1, up_s _ _ _ _ (by decide), up_eq]
      · rw [n1, up_s _ _ _ _ (by decide), up_s _ _ _ _ (by decide), up_eq]
        rcases hv with hv | hv <;> rw [hv] <;> rfl
      · intro k k0 k1
        rw [e0.1.1] at k1
        obtain ⟨y1, y2, y3, y4⟩ := hL.col k0 k1
        rw [e0.2 12 (by decide), e0.2 56 (by decide), e0.2 57 (by decide), t2, t58, t2' k 0 (by decide), t2' k 1 (by decide), y4]
        exact ⟨y1, y2, y3, rfl⟩
      · rw [n1, up_at, if_neg (by omega), up_at, if_neg (by omega), up_at, if_neg (by omega), m11, up_at, if_neg (by omega), m2, up_at, if_neg (by omega)]
      · rw [n1, up_s _ _ _ _ (by decide), up_s _ _ _ _ (by decide), up_s _ _ _ _ (by decide), m11, up_s _ _ _ _ (by decide), m2, up_eq]
        decide
    refine ⟨fun z => ?_, fun z => ?_⟩
    · rw [z] at ref; exact ref
    · rw [show v = 1 by rcases hv with hv | hv; exact absurd hv z; exact hv] at ref; exact ref
  · refine q_isColumn hG hA (fun z => absurd z hp) (fun _ => q_goes1 rfl ⟨fun z => absurd rfl z, fun _ => ⟨up_eq _ _ _ _ _, fun z => absurd z (by decide), hK T _ (h'.x 1)⟩⟩)
end PA
