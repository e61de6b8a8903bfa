/-! the pure part: hide, third part -/
section SA
variable {T M T' : Mem} {O : zSt} {κ : Nat → Int} {K : (Nat → Int) → Mem → Prop} {p1 p2 p3 p4 : Int}
theorem Iv.st2 {M' : Mem} (h : Iv T O κ M) (f11 : T' 11 = T 11) (eS : ∀ s : Nat, 12 ≤ s → s ≤ 23 → T' s = T s) (hG' : Good T') (hL' : zLk T') (hA' : Ag T' M') (hw' : zNW T') (fr : ∀ (s : Nat) (j k : Int), ((96 ≤ s ∧ s ≤ 102) ∨ (s = 11 ∧ (k = 54 ∨ k = 58 ∨ k = 30)) ∨ (j = 1 ∧ (s = 7 ∨ (38 ≤ s ∧ s ≤ 44))) ∨ s = 24 ∨ s = 27 ∨ s = 36 ∨ (77 ≤ s ∧ s ≤ 79) ∨ s = 4) → M' s j k = M s j k) (h10 : ¬ M' 10 0 10 = 0) : Iv T' O κ M' := by
  obtain ⟨hG, hL, hA, hO, hR, hK, hd, hp, hw, hb⟩ := h
  have hR' := hR.fr (N := M') (fun s j k a b => fr s j k (by omega)) (fr 11 0 54 (by omega)) (fr 11 0 58 (by omega))
  refine ⟨hG', hL', hA', ⟨hO.1, hO.2.1, hO.2.2.1, by rw [f11]; exact hO.2.2.2⟩, by unfold zOR at hR' ⊢; rw [f11]; exact hR', hK.fr (fun s k a => fr s 1 k (by omega)), fun z => absurd z h10, ⟨by rw [f11]; exact hp.1, fun s s0 s1 => ?_⟩, hw', hb.fr (by rw [f11]) (by rw [f11]) (by rw [f11]) (fr 11 0 30 (by omega)) (fr 4 0 7 (by omega)) (fun j k => fr 24 j k (by omega)) (fun j k => fr 27 j k (by omega)) (fun j k => fr 36 j k (by omega)) (fun k => fr 77 0 k (by omega)) (fun k => fr 78 0 k (by omega)) (fun k => fr 79 0 k (by omega))⟩
  rw [eS s (by omega) (by omega), eS (s + 6) (by omega) (by omega)]
  exact hp.2 s s0 s1
theorem l_hide (h : Iv T O κ M) (hK : ∀ T' M', Iv T' O κ M' → K κ M') : wp_law_11 p1 κ M K := by
  have h' := h
  obtain ⟨hG, hL, hA, -, -, -, -, -, hw, -⟩ := h
  have hC := hG.nC
  refine k_hasColumn hG hL hA (fun hp => ⟨fun _ => ?_, fun z => absurd z (by decide)⟩) (fun hp => ⟨fun z => absurd rfl z, fun _ => Or.inl ⟨rfl, ?_⟩⟩)
  · have hc59 := (hG.col p1 hp.1 hp.2).2.2.2
    have go : (T 59 0 p1 = 0 → ¬ zvis T = 1) → ∀ M5, M5 = up M 10 0 10 1 → wp_X3_hideOrShow p1 M5 (fun x8 M7 => bit x8 ∧ ((x8 = 0 → wp_X10_hide p1 (up M7 103 0 0 0) fun r1 N1 => wp_X10_thrown N1 fun r2 N2 => r2 = 0 ∧ ((0 : Int) = 0 → N2 103 0 0 = zb r1) ∧ K κ N2) ∧ (¬ x8 = 0 → wp_X10_hide p1 (up M7 103 0 0 1) fun r1 N1 => wp_X10_thrown N1 fun r2 N2 => r2 = 0 ∧ ((0 : Int) = 0 → N2 103 0 0 = zb r1) ∧ K κ N2))) := by
      intro hvis M5 m5
      have hA5 : Ag T M5 := by rw [m5]; exact hA.up rfl
      have x33 := hA5.s33
      obtain ⟨nf, hnf⟩ : ∃ nf : Int, nf = (if ¬ T 59 0 p1 = 0 then (0 : Int) else 1) := ⟨_, rfl⟩
      have hnf01 : nf = 0 ∨ nf = 1 := by rw [hnf]; split; exact Or.inl rfl; exact Or.inr rfl
      have hsp : T 33 0 p1 = zsh T p1 := by rw [hL.shn hp.1 (by omega), if_pos hp.2]
      have ev : (if ¬ M5 33 0 p1 = 0 then (0 : Int) else 1) = 1 - nf := by
        rw [x33, hsp, hnf]
        unfold zsh
        by_cases z : T 59 0 p1 = 0
        · rw [if_pos z, if_neg (fun w : ¬ T 59 0 p1 = 0 => w z)]; rfl
        · rw [if_neg z, if_pos z]; rfl
      refine d_hideOrShow hG hL hA5 hp.1 hp.2 (v := 1 - nf) ev.symm (w := fun k => if k = p1 then 1 - nf else T 33 0 k) (fun k k0 k1 => ?_) (fun N fN dN => ?_)
      · show up M5 33 0 p1 (1 - nf) 33 0 k = (if k = p1 then 1 - nf else T 33 0 k) ∧ ((if k = p1 then 1 - nf else T 33 0 k) = 0 ∨ (if k = p1 then 1 - nf else T 33 0 k) = 1)
        by_cases e : k = p1
        · rw [if_pos e, e, up_eq]; exact ⟨rfl, by omega⟩
        · rw [if_neg e, up_k _ _ _ _ _ _ e, x33, hL.shn k0 k1]
          refine ⟨rfl, ?_⟩
          have := zsh_r T k
          split <;> omega
      · have er : (if ¬ (fun k => if k = p1 then 1 - nf else T 33 0 k) p1 = 0 then (0 : Int) else 1) = nf := by
          show (if ¬ (if p1 = p1 then 1 - nf else T 33 0 p1) = 0 then (0 : Int) else 1) = nf
          rw [if_pos rfl]
          split <;> omega
        rw [er]
        refine ⟨hnf01, ?_⟩
        have ref : wp_X10_hide p1 (up N 103 0 0 nf) fun r1 N1 => wp_X10_thrown N1 fun r2 N2 => r2 = 0 ∧ ((0 : Int) = 0 → N2 103 0 0 = zb r1) ∧ K κ N2 := by
          obtain ⟨T1, eT1⟩ : ∃ T1 : Mem, T1 = fun s j k => if s = 33 ∨ s = 1 then N s j k else T s j k := ⟨_, rfl⟩
          have d1 : ∀ s : Nat, s ≠ 33 → s ≠ 1 → T1 s = T s := fun s x y => by
            rw [eT1]; exact funext fun j => funext fun k => if_neg (by omega)
          have hA1 : Ag T1 (up N 103 0 0 nf) := by
            intro s j k z
            have s103 : s ≠ 103 := fun e => by rw [e] at z; exact absurd z (by simp [zin])
            rw [up_s _ _ _ _ s103]
            by_cases e : s = 33 ∨ s = 1
            · rw [eT1]; exact (if_pos e).symm
            · rw [d1 s (by omega) (by omega), fN s j k (by omega), up_s _ _ _ _ (by omega)]
              exact hA5 s j k z
          have hG1 : Good T1 := hG.cl2 (fun s hs => d1 s (by omega) (by omega))
          have e59 : up N 103 0 0 nf 59 0 p1 = T 59 0 p1 := by
            have := hA1.s59
            rw [this, d1 59 (by decide) (by decide)]
          have fin : (0 ≤ p1 ∧ p1 < 6) ∧ (bit (if ¬ (up (up N 103 0 0 nf) 11 0 59 0 59 0 p1) = 0 then (0 : Int) else 1)) ∧ (0 ≤ p1 ∧ p1 < 6) ∧ ∀ M14 : Mem, M14 = up (up (up N 103 0 0 nf) 11 0 59 0) 59 0 p1 (if ¬ (up (up N 103 0 0 nf) 11 0 59 0 59 0 p1) = 0 then (0 : Int) else 1) → (0 ≤ p1 ∧ p1 < 6) ∧ (bit (M14 59 0 p1)) ∧ (M14 11 0 59 = 0 ∧ ((0 : Int) = 0 → M14 103 0 0 = zb (M14 59 0 p1)) ∧ K κ M14) := by
            rw [up_s _ _ _ _ (by decide), e59, ← hnf]
            refine ⟨⟨by omega, by omega⟩, hnf01, ⟨by omega, by omega⟩, ?_⟩
            intro M14 m14
            have v14 : M14 59 0 p1 = nf := by rw [m14, up_eq]
            rw [v14]
            obtain ⟨T', eT⟩ : ∃ T', T' = up T1 59 0 p1 nf := ⟨_, rfl⟩
            have hA' : Ag T' M14 := by rw [eT, m14]; exact ag_up2 (hA1.up rfl) _ _ _ _
            have dF : ∀ s : Nat, s ≠ 33 → s ≠ 1 → s ≠ 59 → T' s = T s := fun s x y z => by rw [eT, up_f _ _ _ _ z]; exact d1 s x y
            have d59 : ∀ k, T' 59 0 k = if k = p1 then nf else T 59 0 k := fun k => by
              by_cases e : k = p1
              · rw [if_pos e, e, eT, up_eq]
              · rw [if_neg e, eT, up_k _ _ _ _ _ _ e, d1 59 (by decide) (by decide)]
            have u1 : ∀ c k, T' 1 c k = N 1 c k := fun c k => by rw [eT, up_s _ _ _ _ (by decide), eT1]; exact if_pos (Or.inr rfl)
            have u33 : ∀ k, T' 33 0 k = if k = p1 then 1 - nf else T 33 0 k := fun k => by
              have a : T' 33 0 k = N 33 0 k := by rw [eT, up_s _ _ _ _ (by decide), eT1]; exact if_pos (Or.inl rfl)
              rw [a, fN 33 0 k (by omega)]
              by_cases e : k = p1
              · rw [if_pos e, e, up_eq]
              · rw [if_neg e, up_k _ _ _ _ _ _ e, x33]
            have x1 := hA5.s1
            obtain ⟨hG', hL'⟩ := zput_hide (T' := T') hG hL hp.1 hp.2 hnf01 dF d59 u33 (fun c k hk => by rw [u1, fN 1 c k (by omega), up_s _ _ _ _ (by decide), x1]) (fun c c0 c1 => by
              rw [u1, dN c c0 c1]
              unfold zshows
              rw [dF 66 (by decide) (by decide) (by decide), dF 68 (by decide) (by decide) (by decide)]
              have hcc := hG.cell c c0 c1
              refine zS_congr (fun k k0 k1 => ?_)
              have kC : k < T 11 0 4 := by have := hcc.2.2.2.1; omega
              have k00 : 0 ≤ k := by have := hcc.2.1; omega
              show (if k = p1 then 1 - nf else T 33 0 k) = zsh T' k
              unfold zsh
              rw [d59]
              by_cases e : k = p1
              · rw [if_pos e, if_pos e]
                rcases hnf01 with z | z <;> rw [z] <;> rfl
              · rw [if_neg e, if_neg e, hL.shn k00 (by omega), if_pos kC]
                rfl) (by
              by_cases z : T 59 0 p1 = 0
              · obtain ⟨k, k0, k1, k2, k3⟩ := zvis_other hG hp.1 hp.2 z (hvis z)
                exact ⟨k, k0, k1, by rw [d59, if_neg k2]; exact k3⟩
              · exact ⟨p1, hp.1, hp.2, by rw [d59, if_pos rfl, hnf, if_pos z]⟩)
            refine ⟨⟨by omega, by omega⟩, hnf01, ?_, fun _ => ?_, hK T' M14 (h'.st2 (dF 11 (by decide) (by decide) (by decide)) (fun s a b => dF s (by omega) (by omega) (by omega)) hG' hL' hA' ?_ (fun s j k z => ?_) ?_)⟩
            · rw [m14, up_s _ _ _ _ (by decide), up_eq]
            · rw [m14, up_s _ _ _ _ (by decide), up_s _ _ _ _ (by decide), up_eq]
              rcases hnf01 with z | z <;> rw [z] <;> rfl
            · unfold zNW at hw ⊢
              rw [dF 11 (by decide) (by decide) (by decide), dF 72 (by decide) (by decide) (by decide), dF 73 (by decide) (by decide) (by decide), dF 74 (by decide) (by decide) (by decide), dF 75 (by decide) (by decide) (by decide), dF 76 (by decide) (by decide) (by decide), dF 69 (by decide) (by decide) (by decide)]
              exact hw
            · rw [m14, up_at, if_neg (by omega), up_at, if_neg (by omega), up_at, if_neg (by omega), fN s j k (by omega), up_at, if_neg (by omega), m5, up_at, if_neg (by omega)]
            · rw [m14, up_s _ _ _ _ (by decide), up_s _ _ _ _ (by decide), up_s _ _ _ _ (by decide), fN 10 0 10 (by omega), up_s _ _ _ _ (by decide), m5, up_eq]
              decide
          have hpc : 0 ≤ p1 ∧ p1 < T1 11 0 4 := by rw [d1 11 (by decide) (by decide)]; exact hp
          have ezv : zvis T1 = zvis T := by unfold zvis; rw [d1 11 (by decide) (by decide), show zsh T1 = zsh T from funext fun k => by unfold zsh; rw [d1 59 (by decide) (by decide)]]
          refine q_isColumn hG1 hA1 (fun _ => ⟨fun z => absurd z (by decide), fun _ => ⟨⟨by omega, by omega⟩, fun a => ?_, fun a => q_visible hG1 hA1 (q_goes0 (by decide) ?_ (by decide) ⟨fun _ => fin, fun z => absurd z (by decide)⟩)⟩⟩) (fun z => absurd hpc z)
          · unfold wp_X10_hide_29
            exact q_goes0 (by decide) (by decide) (by decide) ⟨fun _ => fin, fun z => absurd z (by decide)⟩
          · rw [e59] at a
            have hv := hvis a
            have hpos : 1 ≤ zvis T := zvis_pos hG (by omega)
            rw [ezv, if_neg (by omega)]
            decide
        refine ⟨fun z => ?_, fun z => ?_⟩
        · rw [z] at ref; exact ref
        · rw [show nf = 1 by omega] at ref; exact ref
    refine k_isShown hG hL hA (fun hs => ⟨fun z => absurd z (by decide), fun _ => k_countShownColumns hG hL hA ⟨fun hne => go (fun _ => hne), fun he => Or.inr ⟨rfl, ?_⟩⟩⟩) (fun hs => ⟨fun _ => go (fun z => absurd ⟨hp.1, hp.2, z⟩ hs), fun z => absurd rfl z⟩)
    have e59 := hA.s59
    refine q_isColumn hG hA (fun _ => ⟨fun z => absurd z (by decide), fun _ => ⟨⟨by omega, by omega⟩, fun a => absurd (by rw [e59]; exact hs.2.2) a, fun _ => q_visible hG hA (q_goes2 (by decide) (by rw [he]; rfl) ⟨fun z => absurd rfl z, fun _ => ⟨up_eq _ _ _ _ _, fun z => absurd z (by decide), hK T _ (h'.x 2)⟩⟩)⟩⟩) (fun z => absurd hp z)
  · refine q_isColumn hG hA (fun z => absurd z hp) (fun _ => ⟨fun _ => ?_, fun z => absurd rfl z⟩)
    unfold wp_X10_hide_33
    exact q_goes1 rfl ⟨fun z => absurd rfl z, fun _ => ⟨up_eq _ _ _ _ _, fun z => absurd z (by decide), hK T _ (h'.x 1)⟩⟩
end SA
