/-! the pure part: calls that change contents and settings, second part -/
section LA
variable {T M T' : Mem} {O : zSt} {κ : Nat → Int} {K : (Nat → Int) → Mem → Prop} {p1 p2 p3 p4 : Int}
theorem zG0_st (h : zG0 T) (e : zSt0 T T') (f24 : T' 11 0 24 = T 11 0 24) (f25 : T' 11 0 25 = T 11 0 25) (f26 : T' 11 0 26 = T 11 0 26) : zG0 T' := by
  unfold zG0 at h ⊢
  rw [e.1.1, e.1.2.1, e.1.2.2, f24, f25, f26, e.2 64 (by decide)]; exact h
theorem zGC_st (h : zGC T) (e : zSt0 T T') (e58 : T' 58 = T 58) : zGC T' := by
  unfold zGC at h ⊢
  rw [e.1.1, e.2 56 (by decide), e.2 57 (by decide), e58, e.2 59 (by decide)]; exact h
theorem zGV_st (h : zGV T) (e : zSt0 T T') (e58 : T' 58 = T 58) : zGV T' := by
  unfold zGV at h ⊢
  rw [e.1.1, e58, e.2 59 (by decide)]; exact h
theorem zGK_st (h : zGK T) (e : zSt0 T T') (e72 : T' 72 = T 72) (e73 : T' 73 = T 73) (e74 : T' 74 = T 74) (e75 : T' 75 = T 75) (e76 : T' 76 = T 76) : zGK T' := by
  unfold zGK at h ⊢
  rw [e.1.1, e.1.2.1, e.1.2.2, e.2 65 (by decide), e.2 66 (by decide), e.2 67 (by decide), e.2 68 (by decide), e.2 6 (by decide), e.2 64 (by decide), e.2 60 (by decide), e72, e73, e74, e75, e76]; exact h
theorem zGW_st (h : zGW T) (e : zSt0 T T') (e72 : T' 72 = T 72) (e70 : T' 70 = T 70) (e71 : T' 71 = T 71) : zGW T' := by
  unfold zGW at h ⊢
  rw [e.1.2.2, e72, e70, e71]; exact h
theorem zLc_st (h : zLc T) (e : zSt0 T T') (e2 : T' 2 = T 2) (e58 : T' 58 = T 58) : zLc T' := by
  unfold zLc at h ⊢
  rw [e.1.1, e.2 12 (by decide), e2, e.2 56 (by decide), e.2 57 (by decide), e58]; exact h
theorem zLe_st (h : zLe T) (e : zSt0 T T') (e1 : T' 1 = T 1) (e72 : T' 72 = T 72) (e73 : T' 73 = T 73) (e74 : T' 74 = T 74) (e75 : T' 75 = T 75) (e76 : T' 76 = T 76) (e25 : T' 25 = T 25) (e26 : T' 26 = T 26) (e70 : T' 70 = T 70) (e71 : T' 71 = T 71) : zLe T' := by
  have es : zshows T' = zshows T := funext fun c => zshows_st e c
  unfold zLe at h ⊢
  rw [es, e.1.2.2, e.2 14 (by decide), e1, e.2 65 (by decide), e.2 66 (by decide), e.2 67 (by decide), e.2 68 (by decide), e72, e73, e74, e75, e76, e25, e26, e70, e71]; exact h
theorem zNW_st (h : zNW T) (e : zSt0 T T') (e72 : T' 72 = T 72) (e73 : T' 73 = T 73) (e74 : T' 74 = T 74) (e75 : T' 75 = T 75) (e76 : T' 76 = T 76) : zNW T' := by
  unfold zNW at h ⊢
  rw [e.1.2.2, e.1.2.1, e72, e73, e74, e75, e76, e.2 69 (by decide)]; exact h
theorem l_notesAtEnd (h : Iv T O κ M) (hK : ∀ T' M', Iv T' O κ M' → K κ M') : wp_law_9 κ M K := by
  have h' := h
  obtain ⟨hG, hL, hA, -, -, -, -, -, hw, -⟩ := h
  have g9 := hA.g9
  have f26 := hA.f26
  have hl := hL.pap.2.2.1
  have hv : (if ¬ T 11 0 26 = 0 then (0 : Int) else 1) = 0 ∨ (if ¬ T 11 0 26 = 0 then (0 : Int) else 1) = 1 := by split; exact Or.inl rfl; exact Or.inr rfl
  intro M1 e1
  have x9 : M1 10 0 9 = T 11 0 26 := by rw [e1, up_k _ _ _ _ _ _ (by decide), g9, hl]
  rw [x9]
  refine ⟨hv, ?_⟩
  intro M8 e8
  refine ⟨by rw [e8, up_eq]; exact hv, ?_⟩
  intro N1 n1
  have y26 : N1 11 0 26 = T 11 0 26 := by rw [n1, up_k _ _ _ _ _ _ (by decide), e8, up_s _ _ _ _ (by decide), e1, up_s _ _ _ _ (by decide)]; exact f26
  rw [y26]
  refine ⟨hv, ?_⟩
  intro N8 n8
  refine ⟨by rw [n8, up_eq]; exact hv, by rw [e8, up_eq, n8, up_eq], ?_⟩
  obtain ⟨T', eT⟩ : ∃ T', T' = up (up T 10 0 9 (if ¬ T 11 0 26 = 0 then (0 : Int) else 1)) 11 0 26 (if ¬ T 11 0 26 = 0 then (0 : Int) else 1) := ⟨_, rfl⟩
  have hA' : Ag T' N8 := by
    rw [eT, n8, n1, e8, e1]
    exact ag_up2 ((ag_up2 (hA.up rfl) _ _ _ _).up rfl) _ _ _ _
  have eS : ∀ s : Nat, s ≠ 10 → s ≠ 11 → T' s = T s := fun s x y => by rw [eT, up_f _ _ _ _ y, up_f _ _ _ _ x]
  have fk : ∀ k, k ≠ 26 → T' 11 0 k = T 11 0 k := fun k x => by rw [eT, up_k _ _ _ _ _ _ x, up_s _ _ _ _ (by decide)]
  have z26 : T' 11 0 26 = (if ¬ T 11 0 26 = 0 then (0 : Int) else 1) := by rw [eT, up_eq]
  have e0 : zSt0 T T' := ⟨⟨fk 4 (by decide), fk 8 (by decide), fk 15 (by decide)⟩, fun s hs => eS s (by omega) (by omega)⟩
  have d : ∀ s : Nat, 25 ≤ s → T' s = T s := fun s hs => eS s (by omega) (by omega)
  have hG' : Good T' := by
    refine hG.st e0 ?_ (zGC_st hG.col e0 (d 58 (by decide))) (zGV_st hG.vis e0 (d 58 (by decide))) (zGK_st hG.cell e0 (d 72 (by decide)) (d 73 (by decide)) (d 74 (by decide)) (d 75 (by decide)) (d 76 (by decide))) (zGW_st hG.word e0 (d 72 (by decide)) (d 70 (by decide)) (d 71 (by decide)))
    have := hG.n
    unfold zG0 at this ⊢
    rw [z26, fk 24 (by decide), fk 25 (by decide), fk 4 (by decide), fk 8 (by decide), fk 15 (by decide), d 64 (by decide)]
    obtain ⟨x1, x2, x3, x4, x5, x6, x7⟩ := this
    exact ⟨x1, x2, x3, x4, x5, by omega, x7⟩
  have g7' : T' 10 0 7 = T 10 0 7 := by rw [eT, up_s _ _ _ _ (by decide), up_k _ _ _ _ _ _ (by decide)]
  have g8' : T' 10 0 8 = T 10 0 8 := by rw [eT, up_s _ _ _ _ (by decide), up_k _ _ _ _ _ _ (by decide)]
  have g9' : T' 10 0 9 = (if ¬ T 11 0 26 = 0 then (0 : Int) else 1) := by rw [eT, up_s _ _ _ _ (by decide), up_eq]
  refine hK T' N8 (h'.st e0 hG' (hL.st e0 (zLc_st hL.lc e0 (eS 2 (by decide) (by decide)) (d 58 (by decide))) (zLe_st hL.le e0 (eS 1 (by decide) (by decide)) (d 72 (by decide)) (d 73 (by decide)) (d 74 (by decide)) (d 75 (by decide)) (d 76 (by decide)) (d 25 (by decide)) (d 26 (by decide)) (d 70 (by decide)) (d 71 (by decide))) ⟨?_, ?_, g9'.trans z26.symm, trivial⟩) hA' (zNW_st hw e0 (d 72 (by decide)) (d 73 (by decide)) (d 74 (by decide)) (d 75 (by decide)) (d 76 (by decide))) (fun s j k z => ?_) ?_)
  · rw [g7', fk 24 (by decide)]; exact hL.pap.1
  · rw [g8', fk 25 (by decide)]; exact hL.pap.2.1
  · rw [n8, up_at, if_neg (by omega), n1, up_at, if_neg (by omega), e8, up_at, if_neg (by omega), e1, up_at, if_neg (by omega)]
  · rw [n8, up_s _ _ _ _ (by decide), n1, up_s _ _ _ _ (by decide), e8, up_k _ _ _ _ _ _ (by decide), e1, up_eq]
    decide
/-- settings stay -/
theorem zset0 (d : ∀ s : Nat, (s = 10 ∨ s = 11) → T' s = T s) (e : zSt0 T T') (hG : Good T) (hL : zLk T) : zG0 T' ∧ zLp T' := by
  have a := d 11 (by omega)
  have b := d 10 (by omega)
  refine ⟨zG0_st hG.n e (by rw [a]) (by rw [a]) (by rw [a]), ?_⟩
  have := hL.pap
  unfold zLp
  rw [a, b]; exact this
/-- the class alone has changed -/
theorem Good.cl (h : Good T) (d : ∀ s : Nat, (s = 6 ∨ s = 11 ∨ (12 ≤ s ∧ s ≤ 23) ∨ s = 33 ∨ s = 37 ∨ (56 ≤ s ∧ s ≤ 79)) → T' s = T s) : Good T' := by
  have e0 : zSt0 T T' := ⟨⟨by rw [d 11 (by decide)], by rw [d 11 (by decide)], by rw [d 11 (by decide)]⟩, fun s hs => d s (by omega)⟩
  exact h.st e0 (zG0_st h.n e0 (by rw [d 11 (by decide)]) (by rw [d 11 (by decide)]) (by rw [d 11 (by decide)])) (zGC_st h.col e0 (d 58 (by decide))) (zGV_st h.vis e0 (d 58 (by decide))) (zGK_st h.cell e0 (d 72 (by decide)) (d 73 (by decide)) (d 74 (by decide)) (d 75 (by decide)) (d 76 (by decide))) (zGW_st h.word e0 (d 72 (by decide)) (d 70 (by decide)) (d 71 (by decide)))
theorem l_note (h : Iv T O κ M) (hK : ∀ T' M', Iv T' O κ M' → K κ M') : wp_law_6 p1 p2 κ M K := by
  have h' := h
  obtain ⟨hG, hL, hA, -, -, -, -, -, hw, -⟩ := h
  have hR := hG.nR
  have hKn := hG.nK
  have e14 := hA.s14
  have e1' := hA.s1
  have e6 := hA.s6
  have e60 := hA.s60
  have e65 := hA.s65
  have n14 := hL.n.2.2
  refine k_hasCell hG hL hA (fun hp => ⟨fun _ => ?_, fun z => absurd z (by decide)⟩) (fun hp => ⟨fun z => absurd rfl z, fun _ => Or.inl ⟨rfl, ?_⟩⟩)
  · obtain ⟨l0, l1, l2, l3, l4, l7, l8, l9, l10, l11, l12, lw⟩ := hL.cell hp.1 hp.2
    obtain ⟨w1, w2, w3, w4, w5, w6, w7, w8, w9, w10, w11, w12⟩ := hG.cell p1 hp.1 hp.2
    obtain ⟨-, r1', r2', -⟩ := hL.row w1.1 w1.2
    have hbad : ¬ (0 ≤ p2 ∧ p2 ≤ 3) → (wp_X10_note p1 p2 M fun r1 N1 => wp_X10_thrown N1 fun r2 N2 => r2 = 2 ∧ ((2 : Int) = 0 → N2 103 0 0 = r1) ∧ K κ N2) := fun hx => by
      refine q_isCell hG hA (fun _ => q_in (fun z => absurd z hx) (fun _ => ⟨fun _ => ⟨⟨by omega, by omega⟩, by rw [e65]; exact ⟨by omega, by omega⟩, trivial⟩, q_goes2 (by decide) rfl ⟨fun z => absurd rfl z, fun _ => finx0 h' (fun M' => hK T M') (by decide)⟩⟩)) (fun z => absurd hp z)
    dsimp only
    rw [e14, e1', e6, n14, l0, l1, r2']
    refine ⟨fun a => Or.inr (Or.inl ⟨rfl, hbad (by omega)⟩), fun a => ⟨fun b => ⟨hp, fun hb => ?_, fun hb => Or.inr (Or.inr ⟨rfl, ?_⟩)⟩, fun b => Or.inr (Or.inl ⟨rfl, hbad (by omega)⟩)⟩⟩
    · intro M6 m6 M9 m9
      have hA6 : Ag T M6 := by rw [m6]; exact hA.up rfl
      have x1 := hA6.s1
      rw [x1, l11]
      obtain ⟨T1, eT1⟩ : ∃ T1, T1 = up T 1 p1 11 p2 := ⟨_, rfl⟩
      have hA9 : Ag T1 (up M9 103 0 0 (T 76 0 p1)) := by rw [eT1, m9]; exact (ag_up2 hA6 _ _ _ _).up rfl
      -- what the reference reads is as before
      have hq : ∀ s (j k : Int), s ≠ 1 → s ≠ 103 → s ≠ 10 → up M9 103 0 0 (T 76 0 p1) s j k = M s j k := fun s j k a b d => by rw [up_s _ _ _ _ b, m9, up_s _ _ _ _ a, m6, up_s _ _ _ _ d]
      have hG1 : Good T1 := hG.cl (fun s hs => by rw [eT1, up_f _ _ _ _ (by omega)])
      have f15 : T1 11 0 15 = T 11 0 15 := by rw [eT1, up_s _ _ _ _ (by decide)]
      have y65 : up M9 103 0 0 (T 76 0 p1) 65 0 p1 = T 65 0 p1 := by rw [hq 65 0 p1 (by decide) (by decide) (by decide), e65]
      have y60 : up M9 103 0 0 (T 76 0 p1) 60 0 (T 65 0 p1) = 1 := by rw [hq 60 0 _ (by decide) (by decide) (by decide), e60]; exact hb
      have y76 : up (up M9 103 0 0 (T 76 0 p1)) 11 0 59 0 76 0 p1 = T 76 0 p1 := by
        rw [up_s _ _ _ _ (by decide), hq 76 0 p1 (by decide) (by decide) (by decide)]
        have := hA.s76
        rw [this]
      refine q_isCell hG1 hA9 (fun _ => q_in (fun _ => ⟨fun _ => ⟨⟨by omega, by omega⟩, by rw [y65]; exact ⟨by omega, by omega⟩, trivial⟩, ?_⟩) (fun z => absurd ⟨a, b⟩ z)) (fun z => absurd (by rw [f15]; exact hp) z)
      rw [y65, y60]
      refine q_goes0 (by decide) (by decide) (by decide) ⟨fun _ => ⟨⟨by omega, by omega⟩, ⟨by omega, by omega⟩, ?_⟩, fun z => absurd z (by decide)⟩
      intro N n1
      rw [y76]
      obtain ⟨T', eT⟩ : ∃ T', T' = up T1 76 0 p1 p2 := ⟨_, rfl⟩
      have hA' : Ag T' N := by rw [eT, n1]; exact ag_up2 (hA9.up rfl) _ _ _ _
      have eS : ∀ s : Nat, s ≠ 1 → s ≠ 76 → T' s = T s := fun s x y => by rw [eT, up_f _ _ _ _ y, eT1, up_f _ _ _ _ x]
      have e0 : zSt0 T T' := ⟨⟨by rw [eS 11 (by decide) (by decide)], by rw [eS 11 (by decide) (by decide)], by rw [eS 11 (by decide) (by decide)]⟩, fun s hs => eS s (by omega) (by omega)⟩
      obtain ⟨z0, zp⟩ := zset0 (fun s hs => eS s (by omega) (by omega)) e0 hG hL
      have t76 : ∀ i, T' 76 0 i = if i = p1 then p2 else T 76 0 i := fun i => by
        by_cases e : i = p1
        · rw [if_pos e, e, eT, up_eq]
        · rw [if_neg e, eT, up_k _ _ _ _ _ _ e, eT1, up_s _ _ _ _ (by decide)]
      have hG' : Good T' := by
        refine hG.st e0 z0 (zGC_st hG.col e0 (eS 58 (by decide) (by decide))) (zGV_st hG.vis e0 (eS 58 (by decide) (by decide))) ?_ (zGW_st hG.word e0 (eS 72 (by decide) (by decide)) (eS 70 (by decide) (by decide)) (eS 71 (by decide) (by decide)))
        have := hG.cell
        unfold zGK at this ⊢
        rw [e0.1.1, e0.1.2.1, e0.1.2.2, e0.2 65 (by decide), e0.2 66 (by decide), e0.2 67 (by decide), e0.2 68 (by decide), e0.2 6 (by decide), e0.2 64 (by decide), e0.2 60 (by decide), eS 72 (by decide) (by decide), eS 73 (by decide) (by decide), eS 74 (by decide) (by decide), eS 75 (by decide) (by decide)]
        intro c c0 c1
        obtain ⟨v1, v2, v3, v4, v5, v6, v7, v8, v9, v10, v11, v12⟩ := this c c0 c1
        rw [t76]
        by_cases e : c = p1
        · rw [if_pos e]
          exact ⟨v1, v2, v3, v4, v5, v6, v7, v8, v9, ⟨a, b⟩, v11, fun _ => by rw [e]; exact hb⟩
        · rw [if_neg e]
          exact ⟨v1, v2, v3, v4, v5, v6, v7, v8, v9, v10, v11, v12⟩
      refine ⟨?_, fun _ => ?_, hK T' N (h'.st e0 hG' (hL.st e0 (zLc_st hL.lc e0 (eS 2 (by decide) (by decide)) (eS 58 (by decide) (by decide))) ?_ zp) hA' ?_ (fun s j k z => ?_) ?_)⟩
      · rw [n1, up_s _ _ _ _ (by decide), up_eq]
      · rw [n1, up_s _ _ _ _ (by decide), up_s _ _ _ _ (by decide), up_eq]
      · intro c c0 c1
        rw [e0.1.2.2] at c1
        have es := zshows_st e0 c
        obtain ⟨v0, v1, v2, v3, v4, v7, v8, v9, v10, v11, v12, vw⟩ := hL.cell c0 c1
        rw [es, e0.2 14 (by decide), e0.2 65 (by decide), e0.2 66 (by decide), e0.2 67 (by decide), e0.2 68 (by decide), eS 72 (by decide) (by decide), eS 73 (by decide) (by decide), eS 74 (by decide) (by decide), eS 75 (by decide) (by decide), eS 25 (by decide) (by decide), eS 26 (by decide) (by decide), eS 70 (by decide) (by decide), eS 71 (by decide) (by decide), t76]
        have t1 : ∀ k, k ≠ 11 → T' 1 c k = T 1 c k := fun k hk => by rw [eT, up_s _ _ _ _ (by decide), eT1, up_k _ _ _ _ _ _ hk]
        have t11 : T' 1 c 11 = if c = p1 then p2 else T 76 0 c := by
          rw [eT, up_s _ _ _ _ (by decide), eT1]
          by_cases e : c = p1
          · rw [if_pos e, e, up_eq]
          · rw [if_neg e, up_j _ _ _ _ _ e]; exact v11
        rw [t1 0 (by decide), t1 1 (by decide), t1 2 (by decide), t1 3 (by decide), t1 7 (by decide), t1 8 (by decide), t1 9 (by decide), t1 10 (by decide), t1 12 (by decide), t11]
        exact ⟨v0, v1, v2, v3, v4, v7, v8, v9, v10, rfl, v12, vw⟩
      · unfold zNW at hw ⊢
        rw [e0.1.2.2, e0.1.2.1, eS 72 (by decide) (by decide), eS 73 (by decide) (by decide), eS 74 (by decide) (by decide), eS 75 (by decide) (by decide), e0.2 69 (by decide)]
        refine ⟨fun c c0 c1 => ?_, hw.2⟩
        obtain ⟨x1, x2, x3, x4, x5⟩ := hw.1 c c0 c1
        rw [t76, if_neg (by omega)]
        exact ⟨x1, x2, x3, x4, x5⟩
      · rw [n1, up_at, if_neg (by omega), up_at, if_neg (by omega)]
        exact (hq s j k (by omega) (by omega) (by omega))
      · rw [n1, up_s _ _ _ _ (by decide), up_s _ _ _ _ (by decide), up_s _ _ _ _ (by decide), m9, up_s _ _ _ _ (by decide), m6, up_eq]
        decide
    · refine q_isCell hG hA (fun _ => q_in (fun _ => ⟨fun _ => ⟨⟨by omega, by omega⟩, by rw [e65]; exact ⟨by omega, by omega⟩, trivial⟩, q_goes3 (by decide) (by decide) ?_ ⟨fun z => absurd rfl z, fun _ => finx0 h' (fun M' => hK T M') (by decide)⟩⟩) (fun z => absurd ⟨a, b⟩ z)) (fun z => absurd hp z)
      rw [e60, e65, if_neg (by decide), if_pos hb]
  · refine q_isCell hG hA (fun z => absurd z hp) (fun _ => q_in (fun _ => ⟨fun z => absurd rfl z, q_goes1 rfl ⟨fun z => absurd rfl z, fun _ => finx0 h' (fun M' => hK T M') (by decide)⟩⟩) (fun _ => ⟨fun z => absurd rfl z, q_goes1 rfl ⟨fun z => absurd rfl z, fun _ => finx0 h' (fun M' => hK T M') (by decide)⟩⟩))
end LA
