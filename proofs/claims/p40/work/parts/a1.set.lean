/-! the class's calls as this law asks them: settings and contents -/
/-- places that no call of these changes -/
def zKeep (s : Nat) (j k : Int) : Prop := 104 ≤ s ∨ (96 ≤ s ∧ s ≤ 102) ∨ (s = 11 ∧ (k = 54 ∨ k = 58 ∨ k = 30)) ∨ (j = 1 ∧ (s = 7 ∨ (38 ≤ s ∧ s ≤ 44))) ∨ s = 24 ∨ s = 27 ∨ s = 36 ∨ (77 ≤ s ∧ s ≤ 79) ∨ s = 4
theorem zSm.kp {M M' : Mem} (f : ∀ s j k, zKeep s j k → M' s j k = M s j k) : zSm M M' := ⟨fun s hs => funext fun j => funext fun k => f s j k (by unfold zKeep; omega), f 11 0 30 (by unfold zKeep; omega)⟩
section NB
variable {T M T' : Mem} {O : zSt} {κ : Nat → Int} {p1 p2 p3 p4 : Int}
theorem Iv.lw (h : Iv T O κ M) {M' : Mem} (f : ∀ s j k, s < 104 → M' s j k = M s j k) : Iv T O κ M' := by
  obtain ⟨hG, hL, hA, hO, hR, hK, hd, hp, hw, hb⟩ := h
  have z104 : ∀ s k, zin s k = true → s < 104 := fun s k hz => by
    simp only [zin, Bool.or_eq_true, Bool.and_eq_true, decide_eq_true_eq] at hz
    omega
  refine ⟨hG, hL, fun s j k hz => (f s j k (z104 s k hz)).trans (hA s j k hz), hO, hR.fr (fun s j k a b => f s j k (by omega)) (f 11 0 54 (by decide)) (f 11 0 58 (by decide)), hK.fr (fun s k a => f s 1 k (by omega)), fun e => (hd (by rw [← f 10 0 10 (by decide)]; exact e)).fr (fun s k a => f s 0 k (by omega)), hp, hw, hb.fr rfl rfl rfl (f 11 0 30 (by decide)) (f 4 0 7 (by decide)) (fun j k => f 24 j k (by decide)) (fun j k => f 27 j k (by decide)) (fun j k => f 36 j k (by decide)) (fun k => f 77 0 k (by decide)) (fun k => f 78 0 k (by decide)) (fun k => f 79 0 k (by decide))⟩
theorem n_setPaper (h : Iv T O κ M) (a : 1 ≤ p1) (b : p1 ≤ 150) (c : 1 ≤ p2) (d : p2 ≤ 100) {Qf : Mem → Prop} (hK : ∀ T' M', Iv T' O κ M' → zSm M M' → T' 11 0 24 = p1 → T' 11 0 25 = p2 → (∀ k, k ≠ 24 → k ≠ 25 → T' 11 0 k = T 11 0 k) → (∀ s : Nat, s ≠ 10 → s ≠ 11 → T' s = T s) → Qf M') : wo_X9_setPaper p1 p2 M (fun M1 => ∃ M2, Gh M1 M2 ∧ Qf M2) := by
  have h' := h
  obtain ⟨hG, hL, hA, -, -, -, -, -, hw, -⟩ := h
  refine ⟨fun z => absurd z (by omega), fun _ => ⟨fun z => absurd z (by omega), fun _ => ⟨fun z => absurd z (by omega), fun _ => ⟨fun _ => ?_, fun z => absurd z (by omega)⟩⟩⟩⟩
  intro M1 e1 M3 e3 M5 e5
  obtain ⟨M9, e9⟩ : ∃ z, z = up (up M5 11 0 24 p1) 11 0 25 p2 := ⟨_, rfl⟩
  refine ⟨M9, by rw [e9]; exact (Gh.rf.up (Or.inl rfl) ⟨by omega, by omega⟩).up (Or.inl rfl) ⟨by omega, by omega⟩, ?_⟩
  obtain ⟨T', eT⟩ : ∃ T', T' = up (up (up (up T 10 0 7 p1) 10 0 8 p2) 11 0 24 p1) 11 0 25 p2 := ⟨_, rfl⟩
  have hA' : Ag T' M9 := by
    rw [eT, e9, e5, e3, e1]
    exact ag_up2 (ag_up2 (ag_up2 (ag_up2 (hA.up rfl) _ _ _ _) _ _ _ _) _ _ _ _) _ _ _ _
  have eS : ∀ s : Nat, s ≠ 10 → s ≠ 11 → T' s = T s := fun s x y => by rw [eT, up_f _ _ _ _ y, up_f _ _ _ _ y, up_f _ _ _ _ x, up_f _ _ _ _ x]
  have fk : ∀ k, k ≠ 24 → k ≠ 25 → T' 11 0 k = T 11 0 k := fun k x y => by rw [eT, up_k _ _ _ _ _ _ y, up_k _ _ _ _ _ _ x, up_s _ _ _ _ (by decide), up_s _ _ _ _ (by decide)]
  have f24 : T' 11 0 24 = p1 := by rw [eT, up_k _ _ _ _ _ _ (by decide), up_eq]
  have f25 : T' 11 0 25 = p2 := by rw [eT, up_eq]
  have e0 : zSt0 T T' := ⟨⟨fk 4 (by decide) (by decide), fk 8 (by decide) (by decide), fk 15 (by decide) (by decide)⟩, fun s hs => eS s (by omega) (by omega)⟩
  have g7 : T' 10 0 7 = p1 := by rw [eT, up_s _ _ _ _ (by decide), up_s _ _ _ _ (by decide), up_k _ _ _ _ _ _ (by decide), up_eq]
  have g8 : T' 10 0 8 = p2 := by rw [eT, up_s _ _ _ _ (by decide), up_s _ _ _ _ (by decide), up_eq]
  have g9 : T' 10 0 9 = T 10 0 9 := by rw [eT, up_s _ _ _ _ (by decide), up_s _ _ _ _ (by decide), up_k _ _ _ _ _ _ (by decide), up_k _ _ _ _ _ _ (by decide)]
  have d2 : ∀ s : Nat, s ≠ 10 → s ≠ 11 → T' s = T s := eS
  have hG' : Good T' := by
    refine hG.st e0 ?_ (zGC_st hG.col e0 (d2 58 (by decide) (by decide))) (zGV_st hG.vis e0 (d2 58 (by decide) (by decide))) (zGK_st hG.cell e0 (d2 72 (by decide) (by decide)) (d2 73 (by decide) (by decide)) (d2 74 (by decide) (by decide)) (d2 75 (by decide) (by decide)) (d2 76 (by decide) (by decide))) (zGW_st hG.word e0 (d2 72 (by decide) (by decide)) (d2 70 (by decide) (by decide)) (d2 71 (by decide) (by decide)))
    have := hG.n
    unfold zG0 at this ⊢
    rw [f24, f25, fk 4 (by decide) (by decide), fk 8 (by decide) (by decide), fk 15 (by decide) (by decide), fk 26 (by decide) (by decide), eS 64 (by decide) (by decide)]
    obtain ⟨x1, x2, x3, x4, x5, x6⟩ := this
    exact ⟨x1, x2, x3, ⟨a, b⟩, ⟨c, d⟩, x6⟩
  have hfr : ∀ s j k, zKeep s j k → M9 s j k = M s j k := fun s j k z => by
    unfold zKeep at z
    rw [e9, up_at, if_neg (by omega), up_at, if_neg (by omega), e5, up_at, if_neg (by omega), e3, up_at, if_neg (by omega), e1, up_at, if_neg (by omega)]
  refine hK T' M9 (h'.st e0 hG' (hL.st e0 (zLc_st hL.lc e0 (eS 2 (by decide) (by decide)) (d2 58 (by decide) (by decide))) (zLe_st hL.le e0 (eS 1 (by decide) (by decide)) (d2 72 (by decide) (by decide)) (d2 73 (by decide) (by decide)) (d2 74 (by decide) (by decide)) (d2 75 (by decide) (by decide)) (d2 76 (by decide) (by decide)) (d2 25 (by decide) (by decide)) (d2 26 (by decide) (by decide)) (d2 70 (by decide) (by decide)) (d2 71 (by decide) (by decide))) ⟨g7.trans f24.symm, g8.trans f25.symm, by rw [g9, fk 26 (by decide) (by decide)]; exact hL.pap.2.2.1, trivial⟩) hA' (zNW_st hw e0 (d2 72 (by decide) (by decide)) (d2 73 (by decide) (by decide)) (d2 74 (by decide) (by decide)) (d2 75 (by decide) (by decide)) (d2 76 (by decide) (by decide))) (fun s j k z => hfr s j k (by unfold zKeep; omega)) ?_) (zSm.kp hfr) f24 f25 fk eS
  rw [e9, up_s _ _ _ _ (by decide), up_s _ _ _ _ (by decide), e5, up_k _ _ _ _ _ _ (by decide), e3, up_k _ _ _ _ _ _ (by decide), e1, up_eq]
  decide
theorem n_notesAtEnd (h : Iv T O κ M) {Qf : Int → Mem → Prop} (hK : ∀ T' M', Iv T' O κ M' → zSm M M' → T' 11 0 26 = 1 - T 11 0 26 → (∀ k, k ≠ 26 → T' 11 0 k = T 11 0 k) → (∀ s : Nat, s ≠ 10 → s ≠ 11 → T' s = T s) → Qf (1 - T 11 0 26) M') : wp_X9_notesAtEnd M (fun x M1 => ∃ M2, Gh M1 M2 ∧ Qf x M2) := by
  have h' := h
  obtain ⟨hG, hL, hA, -, -, -, -, -, hw, -⟩ := h
  have g9 := hA.g9
  have hl := hL.pap.2.2.1
  have h26 := hG.n.2.2.2.2.2.1
  have ev : (if ¬ T 11 0 26 = 0 then (0 : Int) else 1) = 1 - T 11 0 26 := by split <;> omega
  have hv : 1 - T 11 0 26 = 0 ∨ 1 - T 11 0 26 = 1 := by omega
  intro M1 e1
  have x9 : M1 10 0 9 = T 11 0 26 := by rw [e1, up_k _ _ _ _ _ _ (by decide), g9, hl]
  rw [x9, ev]
  refine ⟨hv, ?_⟩
  intro M8 e8
  have y9 : M8 10 0 9 = 1 - T 11 0 26 := by rw [e8, up_eq]
  rw [y9]
  refine ⟨hv, ?_⟩
  obtain ⟨N8, n8⟩ : ∃ z, z = up M8 11 0 26 (1 - T 11 0 26) := ⟨_, rfl⟩
  refine ⟨N8, by rw [n8]; exact Gh.rf.up (Or.inl rfl) ⟨by omega, by omega⟩, ?_⟩
  obtain ⟨T', eT⟩ : ∃ T', T' = up (up T 10 0 9 (1 - T 11 0 26)) 11 0 26 (1 - T 11 0 26) := ⟨_, rfl⟩
  have hA' : Ag T' N8 := by
    rw [eT, n8, e8, e1]
    exact ag_up2 (ag_up2 (hA.up rfl) _ _ _ _) _ _ _ _
  have eS : ∀ s : Nat, s ≠ 10 → s ≠ 11 → T' s = T s := fun s x y => by rw [eT, up_f _ _ _ _ y, up_f _ _ _ _ x]
  have fk : ∀ k, k ≠ 26 → T' 11 0 k = T 11 0 k := fun k x => by rw [eT, up_k _ _ _ _ _ _ x, up_s _ _ _ _ (by decide)]
  have z26 : T' 11 0 26 = 1 - T 11 0 26 := by rw [eT, up_eq]
  have e0 : zSt0 T T' := ⟨⟨fk 4 (by decide), fk 8 (by decide), fk 15 (by decide)⟩, fun s hs => eS s (by omega) (by omega)⟩
  have d : ∀ s : Nat, 25 ≤ s → T' s = T s := fun s hs => eS s (by omega) (by omega)
  have hG' : Good T' := by
    refine hG.st e0 ?_ (zGC_st hG.col e0 (d 58 (by decide))) (zGV_st hG.vis e0 (d 58 (by decide))) (zGK_st hG.cell e0 (d 72 (by decide)) (d 73 (by decide)) (d 74 (by decide)) (d 75 (by decide)) (d 76 (by decide))) (zGW_st hG.word e0 (d 72 (by decide)) (d 70 (by decide)) (d 71 (by decide)))
    have := hG.n
    unfold zG0 at this ⊢
    rw [z26, fk 24 (by decide), fk 25 (by decide), fk 4 (by decide), fk 8 (by decide), fk 15 (by decide), d 64 (by decide)]
    obtain ⟨x1, x2, x3, x4, x5, x6, x7⟩ := this
    exact ⟨x1, x2, x3, x4, x5, by omega, x7⟩
  have g7' : T' 10 0 7 = T 10 0 7 := by rw [eT, up_s _ _ _ _ (by decide), up_k _ _ _ _ _ _ (by decide)]
  have g8' : T' 10 0 8 = T 10 0 8 := by rw [eT, up_s _ _ _ _ (by decide), up_k _ _ _ _ _ _ (by decide)]
  have g9' : T' 10 0 9 = 1 - T 11 0 26 := by rw [eT, up_s _ _ _ _ (by decide), up_eq]
  have hfr : ∀ s j k, zKeep s j k → N8 s j k = M s j k := fun s j k z => by
    unfold zKeep at z
    rw [n8, up_at, if_neg (by omega), e8, up_at, if_neg (by omega), e1, up_at, if_neg (by omega)]
  refine hK T' N8 (h'.st e0 hG' (hL.st e0 (zLc_st hL.lc e0 (eS 2 (by decide) (by decide)) (d 58 (by decide))) (zLe_st hL.le e0 (eS 1 (by decide) (by decide)) (d 72 (by decide)) (d 73 (by decide)) (d 74 (by decide)) (d 75 (by decide)) (d 76 (by decide)) (d 25 (by decide)) (d 26 (by decide)) (d 70 (by decide)) (d 71 (by decide))) ⟨?_, ?_, g9'.trans z26.symm, trivial⟩) hA' (zNW_st hw e0 (d 72 (by decide)) (d 73 (by decide)) (d 74 (by decide)) (d 75 (by decide)) (d 76 (by decide))) (fun s j k z => hfr s j k (by unfold zKeep; omega)) ?_) (zSm.kp hfr) z26 fk eS
  · rw [g7', fk 24 (by decide)]; exact hL.pap.1
  · rw [g8', fk 25 (by decide)]; exact hL.pap.2.1
  · rw [n8, up_s _ _ _ _ (by decide), e8, up_k _ _ _ _ _ _ (by decide), e1, up_eq]
    decide
theorem n_note (h : Iv T O κ M) (hp : 0 ≤ p1 ∧ p1 < T 11 0 15) (a : 0 ≤ p2) (b : p2 ≤ 3) {Qf : Int → Mem → Prop} (hK : T 60 0 (T 65 0 p1) = 1 → ∀ T' M', Iv T' O κ M' → zSm M M' → (∀ i, T' 76 0 i = if i = p1 then p2 else T 76 0 i) → (∀ s : Nat, s ≠ 1 → s ≠ 76 → T' s = T s) → Qf (T 76 0 p1) M') (hX : ¬ T 60 0 (T 65 0 p1) = 1 → Qf (-7) M) : wp_L_noted p1 p2 M (fun x M1 => ∃ M2, Gh M1 M2 ∧ Qf x M2) := by
  have h' := h
  obtain ⟨hG, hL, hA, -, -, -, -, -, hw, -⟩ := h
  have hR := hG.nR
  have hKn := hG.nK
  have e14 := hA.s14
  have e1' := hA.s1
  have e6 := hA.s6
  have n14 := hL.n.2.2
  refine k_hasCell hG hL hA (fun hp => ⟨fun _ => ?_, fun z => absurd z (by decide)⟩) (fun z => absurd hp z)
  obtain ⟨l0, l1, l2, l3, l4, l7, l8, l9, l10, l11, l12, lw⟩ := hL.cell hp.1 hp.2
  obtain ⟨w1, w2, w3, w4, w5, w6, w7, w8, w9, w10, w11, w12⟩ := hG.cell p1 hp.1 hp.2
  obtain ⟨-, r1', r2', -⟩ := hL.row w1.1 w1.2
  dsimp only
  rw [e14, e1', e6, n14, l0, l1, r2']
  refine ⟨fun z => absurd z (by omega), fun _ => ⟨fun _ => ⟨hp, fun hb => ?_, fun hb => ⟨rfl, M, Gh.rf, hX hb⟩⟩, fun z => absurd z (by omega)⟩⟩
  intro M6 m6 M9 m9
  have hA6 : Ag T M6 := by rw [m6]; exact hA.up rfl
  have x1 := hA6.s1
  rw [x1, l11]
  obtain ⟨N, n1⟩ : ∃ z, z = up M9 76 0 p1 p2 := ⟨_, rfl⟩
  refine ⟨N, by rw [n1]; exact Gh.rf.up (Or.inr (by decide)) ⟨by omega, by omega⟩, ?_⟩
  obtain ⟨T', eT⟩ : ∃ T', T' = up (up T 1 p1 11 p2) 76 0 p1 p2 := ⟨_, rfl⟩
  have hA' : Ag T' N := by rw [eT, n1, m9]; exact ag_up2 (ag_up2 hA6 _ _ _ _) _ _ _ _
  have eS : ∀ s : Nat, s ≠ 1 → s ≠ 76 → T' s = T s := fun s x y => by rw [eT, up_f _ _ _ _ y, up_f _ _ _ _ x]
  have t76 : ∀ i, T' 76 0 i = if i = p1 then p2 else T 76 0 i := fun i => by
    by_cases e : i = p1
    · rw [if_pos e, e, eT, up_eq]
    · rw [if_neg e, eT, up_k _ _ _ _ _ _ e, up_s _ _ _ _ (by decide)]
  have t1 : ∀ k, k ≠ 11 → T' 1 p1 k = T 1 p1 k := fun k x => by rw [eT, up_s _ _ _ _ (by decide), up_k _ _ _ _ _ _ x]
  have t11 : T' 1 p1 11 = p2 := by rw [eT, up_s _ _ _ _ (by decide), up_eq]
  obtain ⟨e0, hG', hL', hw'⟩ := zput_cell (T' := T') hG hL hw hp.1 hp.2 (fun s hs => eS s (by omega) (by omega)) (fun s hs j k hj => by
    rw [eT, up_s _ _ _ _ (by omega), up_j _ _ _ _ _ hj]) (fun s hs k hk => by
    by_cases e : s = 76
    · rw [e, t76, if_neg hk]
    · rw [eS s (by omega) e]) (fun s hs i k _ _ _ => by rw [eS s (by omega) (by omega)]) (fun k hk => t1 k (by omega))
    (by rw [eS 72 (by decide) (by decide), eS 73 (by decide) (by decide), eS 74 (by decide) (by decide), eS 75 (by decide) (by decide), t76, if_pos rfl]; exact ⟨w6, w7, w8, w9, ⟨a, b⟩, w11, fun _ => hb⟩)
    (fun i i0 i1 => by
      rw [eS 72 (by decide) (by decide)] at i1
      rw [eS 70 (by decide) (by decide), eS 71 (by decide) (by decide), eS 25 (by decide) (by decide), eS 26 (by decide) (by decide)]
      exact ⟨hG.word p1 i hp.1 hp.2 i0 i1, lw i i0 i1⟩)
    (by
      rw [eS 72 (by decide) (by decide), eS 73 (by decide) (by decide), eS 74 (by decide) (by decide), eS 75 (by decide) (by decide), t76, if_pos rfl, t1 7 (by decide), t1 8 (by decide), t1 9 (by decide), t1 10 (by decide)]
      exact ⟨l7, l8, l9, l10, t11⟩)
  have hfr : ∀ s j k, zKeep s j k → N s j k = M s j k := fun s j k z => by
    unfold zKeep at z
    rw [n1, up_at, if_neg (by omega), m9, up_at, if_neg (by omega), m6, up_at, if_neg (by omega)]
  refine hK hb T' N (h'.st e0 hG' hL' hA' hw' (fun s j k z => hfr s j k (by unfold zKeep; omega)) ?_) (zSm.kp hfr) t76 eS
  rw [n1, up_s _ _ _ _ (by decide), m9, up_s _ _ _ _ (by decide), m6, up_eq]
  decide
theorem n_empty (h : Iv T O κ M) (hp : 0 ≤ p1 ∧ p1 < T 11 0 15) {Qf : Int → Mem → Prop} (hK : ∀ T' M', Iv T' O κ M' → zSm M M' → (∀ i, T' 72 0 i = if i = p1 then 0 else T 72 0 i) → (∀ i, T' 73 0 i = if i = p1 then 0 else T 73 0 i) → (∀ s : Nat, s ≠ 1 → s ≠ 72 → s ≠ 73 → T' s = T s) → Qf (T 72 0 p1) M') : wo_X9_empty p1 M (fun x M1 => ∃ M2, Gh M1 M2 ∧ Qf x M2) := by
  have h' := h
  obtain ⟨hG, hL, hA, -, -, -, -, -, hw, -⟩ := h
  have hKn := hG.nK
  have n14 := hL.n.2.2
  refine k_hasCell hG hL hA (fun hp => ⟨fun _ => ?_, fun z => absurd z (by decide)⟩) (fun z => absurd hp z)
  obtain ⟨l0, l1, l2, l3, l4, l7, l8, l9, l10, l11, l12, lw⟩ := hL.cell hp.1 hp.2
  obtain ⟨w1, w2, w3, w4, w5, w6, w7, w8, w9, w10, w11, w12⟩ := hG.cell p1 hp.1 hp.2
  intro M2 m2
  have hA2 : Ag T M2 := by rw [m2]; exact hA.up rfl
  have x14 := hA2.s14
  have x1 := hA2.s1
  rw [x14, n14, l0, x1, l7]
  refine ⟨hp, ?_⟩
  intro M7 m7 M9 m9
  obtain ⟨N, n2⟩ : ∃ z, z = up (up M9 72 0 p1 0) 73 0 p1 0 := ⟨_, rfl⟩
  refine ⟨N, by rw [n2]; exact (Gh.rf.up (Or.inr (by decide)) ⟨by omega, by omega⟩).up (Or.inr (by decide)) ⟨by omega, by omega⟩, ?_⟩
  obtain ⟨T1, eT1⟩ : ∃ T1, T1 = up (up T 1 p1 7 0) 1 p1 8 0 := ⟨_, rfl⟩
  obtain ⟨T', eT⟩ : ∃ T', T' = up (up T1 72 0 p1 0) 73 0 p1 0 := ⟨_, rfl⟩
  have hA' : Ag T' N := by rw [eT, n2, eT1, m9, m7]; exact ag_up2 (ag_up2 (ag_up2 (ag_up2 hA2 _ _ _ _) _ _ _ _) _ _ _ _) _ _ _ _
  have dS : ∀ s : Nat, s ≠ 1 → s ≠ 72 → s ≠ 73 → T' s = T s := fun s x y z => by rw [eT, up_f _ _ _ _ z, up_f _ _ _ _ y, eT1, up_f _ _ _ _ x, up_f _ _ _ _ x]
  have u72 : ∀ i, T' 72 0 i = if i = p1 then 0 else T 72 0 i := fun i => by
    by_cases e : i = p1
    · rw [if_pos e, e, eT, up_s _ _ _ _ (by decide), up_eq]
    · rw [if_neg e, eT, up_s _ _ _ _ (by decide), up_k _ _ _ _ _ _ e, eT1, up_s _ _ _ _ (by decide), up_s _ _ _ _ (by decide)]
  have u73 : ∀ i, T' 73 0 i = if i = p1 then 0 else T 73 0 i := fun i => by
    by_cases e : i = p1
    · rw [if_pos e, e, eT, up_eq]
    · rw [if_neg e, eT, up_k _ _ _ _ _ _ e, up_s _ _ _ _ (by decide), eT1, up_s _ _ _ _ (by decide), up_s _ _ _ _ (by decide)]
  have t72 : T' 72 0 p1 = 0 := by rw [u72, if_pos rfl]
  have t73 : T' 73 0 p1 = 0 := by rw [u73, if_pos rfl]
  have t1 : ∀ k, k ≠ 7 → k ≠ 8 → T' 1 p1 k = T 1 p1 k := fun k x y => by rw [eT, up_s _ _ _ _ (by decide), up_s _ _ _ _ (by decide), eT1, up_k _ _ _ _ _ _ y, up_k _ _ _ _ _ _ x]
  obtain ⟨e0, hG', hL', hw'⟩ := zput_cell (T' := T') hG hL hw hp.1 hp.2 (fun s hs => dS s (by omega) (by omega) (by omega)) (fun s hs j k hj => by
    rw [eT, up_s _ _ _ _ (by omega), up_s _ _ _ _ (by omega), eT1, up_j _ _ _ _ _ hj, up_j _ _ _ _ _ hj]) (fun s hs k hk => by
    rw [eT, up_k _ _ _ _ _ _ hk, up_k _ _ _ _ _ _ hk, eT1, up_s _ _ _ _ (by omega), up_s _ _ _ _ (by omega)]) (fun s hs i k _ _ _ => by rw [dS s (by omega) (by omega) (by omega)]) (fun k hk => t1 k (by omega) (by omega))
    (by rw [t72, t73, dS 74 (by decide) (by decide) (by decide), dS 75 (by decide) (by decide) (by decide), dS 76 (by decide) (by decide) (by decide)]; exact ⟨⟨by omega, by omega⟩, ⟨by omega, by omega⟩, w8, w9, w10, fun z => absurd z (by decide), w12⟩)
    (fun i i0 i1 => absurd i1 (by rw [t72]; omega))
    (by
      rw [t72, t73, dS 74 (by decide) (by decide) (by decide), dS 75 (by decide) (by decide) (by decide), dS 76 (by decide) (by decide) (by decide), t1 9 (by decide) (by decide), t1 10 (by decide) (by decide), t1 11 (by decide) (by decide)]
      refine ⟨?_, ?_, l9, l10, l11⟩
      · rw [eT, up_s _ _ _ _ (by decide), up_s _ _ _ _ (by decide), eT1, up_k _ _ _ _ _ _ (by decide), up_eq]
      · rw [eT, up_s _ _ _ _ (by decide), up_s _ _ _ _ (by decide), eT1, up_eq])
  have hfr : ∀ s j k, zKeep s j k → N s j k = M s j k := fun s j k z => by
    unfold zKeep at z
    rw [n2, up_at, if_neg (by omega), up_at, if_neg (by omega), m9, up_at, if_neg (by omega), m7, up_at, if_neg (by omega), m2, up_at, if_neg (by omega)]
  refine hK T' N (h'.st e0 hG' hL' hA' hw' (fun s j k z => hfr s j k (by unfold zKeep; omega)) ?_) (zSm.kp hfr) u72 u73 dS
  rw [n2, up_s _ _ _ _ (by decide), up_s _ _ _ _ (by decide), m9, up_s _ _ _ _ (by decide), m7, up_s _ _ _ _ (by decide), m2, up_eq]
  decide
theorem n_word (h : Iv T O κ M) (hp : 0 ≤ p1 ∧ p1 < T 11 0 15) (a : 1 ≤ p2) (b : p2 ≤ 20) (d : 0 ≤ p3) (e : p3 < p2) {Qf : Int → Mem → Prop} (hK : T 73 0 p1 = 0 → ∀ T' M', Iv T' O κ M' → zSm M M' → (∀ i, T' 72 0 i = if i = p1 then T 72 0 p1 + 1 else T 72 0 i) → (∀ q, T' 70 0 q = if q = 12 * p1 + T 72 0 p1 then p2 else T 70 0 q) → (∀ q, T' 71 0 q = if q = 12 * p1 + T 72 0 p1 then p3 else T 71 0 q) → (∀ s : Nat, s ≠ 1 → s ≠ 25 → s ≠ 26 → s ≠ 70 → s ≠ 71 → s ≠ 72 → T' s = T s) → Qf (T 72 0 p1 + 1) M') (h12 : T 72 0 p1 < 12) (hX : ¬ T 73 0 p1 = 0 → Qf (-7) M) : wp_L_worded p1 p2 p3 M (fun x M1 => ∃ M2, Gh M1 M2 ∧ Qf x M2) := by
  have h' := h
  obtain ⟨hG, hL, hA, -, -, -, -, -, hw, -⟩ := h
  have hKn := hG.nK
  have n14 := hL.n.2.2
  have x14 := hA.s14
  have x1 := hA.s1
  refine k_hasCell hG hL hA (fun hp => ⟨fun _ => ?_, fun z => absurd z (by decide)⟩) (fun z => absurd hp z)
  obtain ⟨l0, l1, l2, l3, l4, l7, l8, l9, l10, l11, l12, lw⟩ := hL.cell hp.1 hp.2
  obtain ⟨w1, w2, w3, w4, w5, w6, w7, w8, w9, w10, w11, w12⟩ := hG.cell p1 hp.1 hp.2
  dsimp only
  rw [x14, x1, n14, l0, l7, l8]
  refine ⟨fun z => absurd z (by omega), fun _ => ⟨fun z => absurd z (by omega), fun _ => ⟨fun z => absurd z (by omega), fun _ => ⟨⟨by omega, by omega⟩, fun _ => ⟨hp, fun f => ⟨rfl, M, Gh.rf, hX f⟩, fun f => ⟨fun g => ?_, fun z => absurd z (by omega)⟩⟩, fun z => absurd z (by omega)⟩⟩⟩⟩
  intro M7 m7
  have y7 : M7 1 p1 7 = T 72 0 p1 := by rw [m7, up_s _ _ _ _ (by decide), x1, l7]
  unfold wp_X0_addWord
  rw [y7]
  refine ⟨fun z => absurd z (by omega), fun _ => ⟨⟨by omega, by omega⟩, ?_⟩⟩
  intro Ma ma
  have ya : Ma 1 p1 7 = T 72 0 p1 := by rw [ma, up_s _ _ _ _ (by decide)]; exact y7
  rw [ya]
  refine ⟨⟨by omega, by omega⟩, ?_⟩
  intro Mb mb
  have yb : Mb 1 p1 7 = T 72 0 p1 := by rw [mb, up_s _ _ _ _ (by decide)]; exact ya
  rw [yb]
  refine ⟨⟨by omega, by omega⟩, ?_⟩
  intro M9 m9
  have y9 : M9 1 p1 7 = T 72 0 p1 + 1 := by rw [m9, up_eq]
  unfold wp_X0_addWord_39
  dsimp only
  rw [y9]
  obtain ⟨N, n3⟩ : ∃ z, z = up (up (up M9 70 0 (12 * p1 + T 72 0 p1) p2) 71 0 (12 * p1 + T 72 0 p1) p3) 72 0 p1 (T 72 0 p1 + 1) := ⟨_, rfl⟩
  refine ⟨N, by rw [n3]; exact ((Gh.rf.up (Or.inr (by decide)) ⟨by omega, by omega⟩).up (Or.inr (by decide)) ⟨by omega, by omega⟩).up (Or.inr (by decide)) ⟨by omega, by omega⟩, ?_⟩
  obtain ⟨T1, eT1⟩ : ∃ T1, T1 = up (up (up T 25 p1 (T 72 0 p1) p2) 26 p1 (T 72 0 p1) p3) 1 p1 7 (T 72 0 p1 + 1) := ⟨_, rfl⟩
  obtain ⟨T', eT⟩ : ∃ T', T' = up (up (up T1 70 0 (12 * p1 + T 72 0 p1) p2) 71 0 (12 * p1 + T 72 0 p1) p3) 72 0 p1 (T 72 0 p1 + 1) := ⟨_, rfl⟩
  have hA' : Ag T' N := by
    rw [eT, n3, eT1, m9, mb, ma, m7]
    exact ag_up2 (ag_up2 (ag_up2 (ag_up2 (ag_up2 (ag_up2 (hA.up rfl) _ _ _ _) _ _ _ _) _ _ _ _) _ _ _ _) _ _ _ _) _ _ _ _
  have d1 : ∀ (s : Nat) (j k : Int), s ≠ 1 → s ≠ 25 → s ≠ 26 → T1 s j k = T s j k := fun s j k x y z => by rw [eT1, up_s _ _ _ _ x, up_s _ _ _ _ z, up_s _ _ _ _ y]
  have dS : ∀ s : Nat, s ≠ 1 → s ≠ 25 → s ≠ 26 → s ≠ 70 → s ≠ 71 → s ≠ 72 → T' s = T s := fun s x y z u v w => by rw [eT, up_f _ _ _ _ w, up_f _ _ _ _ v, up_f _ _ _ _ u, eT1, up_f _ _ _ _ x, up_f _ _ _ _ z, up_f _ _ _ _ y]
  have u72 : ∀ i, T' 72 0 i = if i = p1 then T 72 0 p1 + 1 else T 72 0 i := fun i => by
    by_cases x : i = p1
    · rw [if_pos x, x, eT, up_eq]
    · rw [if_neg x, eT, up_k _ _ _ _ _ _ x, up_s _ _ _ _ (by decide), up_s _ _ _ _ (by decide)]; exact d1 72 0 i (by decide) (by decide) (by decide)
  have t72 : T' 72 0 p1 = T 72 0 p1 + 1 := by rw [u72, if_pos rfl]
  have t73 : T' 73 = T 73 := dS 73 (by decide) (by decide) (by decide) (by decide) (by decide) (by decide)
  have t74 : T' 74 = T 74 := dS 74 (by decide) (by decide) (by decide) (by decide) (by decide) (by decide)
  have t75 : T' 75 = T 75 := dS 75 (by decide) (by decide) (by decide) (by decide) (by decide) (by decide)
  have t76 : T' 76 = T 76 := dS 76 (by decide) (by decide) (by decide) (by decide) (by decide) (by decide)
  have t1 : ∀ k, k ≠ 7 → T' 1 p1 k = T 1 p1 k := fun k x => by rw [eT, up_s _ _ _ _ (by decide), up_s _ _ _ _ (by decide), up_s _ _ _ _ (by decide), eT1, up_k _ _ _ _ _ _ x, up_s _ _ _ _ (by decide), up_s _ _ _ _ (by decide)]
  have t70 : ∀ q, T' 70 0 q = if q = 12 * p1 + T 72 0 p1 then p2 else T 70 0 q := fun q => by
    rw [eT, up_s _ _ _ _ (by decide), up_s _ _ _ _ (by decide)]
    by_cases x : q = 12 * p1 + T 72 0 p1
    · rw [if_pos x, x, up_eq]
    · rw [if_neg x, up_k _ _ _ _ _ _ x]; exact d1 70 0 q (by decide) (by decide) (by decide)
  have t71 : ∀ q, T' 71 0 q = if q = 12 * p1 + T 72 0 p1 then p3 else T 71 0 q := fun q => by
    rw [eT, up_s _ _ _ _ (by decide)]
    by_cases x : q = 12 * p1 + T 72 0 p1
    · rw [if_pos x, x, up_eq]
    · rw [if_neg x, up_k _ _ _ _ _ _ x, up_s _ _ _ _ (by decide)]; exact d1 71 0 q (by decide) (by decide) (by decide)
  have t25 : ∀ q, T' 25 p1 q = if q = T 72 0 p1 then p2 else T 25 p1 q := fun q => by
    rw [eT, up_s _ _ _ _ (by decide), up_s _ _ _ _ (by decide), up_s _ _ _ _ (by decide), eT1, up_s _ _ _ _ (by decide), up_s _ _ _ _ (by decide)]
    by_cases x : q = T 72 0 p1
    · rw [if_pos x, x, up_eq]
    · rw [if_neg x, up_k _ _ _ _ _ _ x]
  have t26 : ∀ q, T' 26 p1 q = if q = T 72 0 p1 then p3 else T 26 p1 q := fun q => by
    rw [eT, up_s _ _ _ _ (by decide), up_s _ _ _ _ (by decide), up_s _ _ _ _ (by decide), eT1, up_s _ _ _ _ (by decide)]
    by_cases x : q = T 72 0 p1
    · rw [if_pos x, x, up_eq]
    · rw [if_neg x, up_k _ _ _ _ _ _ x, up_s _ _ _ _ (by decide)]
  obtain ⟨e0, hG', hL', hw'⟩ := zput_cell (T' := T') hG hL hw hp.1 hp.2 (fun s hs => dS s (by omega) (by omega) (by omega) (by omega) (by omega) (by omega)) (fun s hs j k hj => by
    rw [eT, up_s _ _ _ _ (by omega), up_s _ _ _ _ (by omega), up_s _ _ _ _ (by omega), eT1, up_j _ _ _ _ _ hj, up_j _ _ _ _ _ hj, up_j _ _ _ _ _ hj]) (fun s hs k hk => by
    rw [eT, up_k _ _ _ _ _ _ hk, up_s _ _ _ _ (by omega), up_s _ _ _ _ (by omega)]; exact d1 s 0 k (by omega) (by omega) (by omega)) (fun s hs i k hi k0 k1 => by
    rcases hs with hs | hs
    · rw [hs, t70, if_neg (by omega)]
    · rw [hs, t71, if_neg (by omega)]) (fun k hk => t1 k (by omega))
    (by rw [t72, t73, t74, t75, t76]; exact ⟨⟨by omega, by omega⟩, w7, w8, w9, w10, fun z => by omega, w12⟩)
    (fun i i0 i1 => by
      rw [t72] at i1
      rw [t70, t71, t25, t26]
      by_cases x : i = T 72 0 p1
      · rw [if_pos (by omega), if_pos (by omega), if_pos x, if_pos x]
        exact ⟨⟨⟨a, b⟩, d, by omega⟩, rfl, rfl⟩
      · rw [if_neg (by omega), if_neg (by omega), if_neg x, if_neg x]
        exact ⟨hG.word p1 i hp.1 hp.2 i0 (by omega), lw i i0 (by omega)⟩)
    (by
      rw [t72, t73, t74, t75, t76, t1 8 (by decide), t1 9 (by decide), t1 10 (by decide), t1 11 (by decide)]
      refine ⟨?_, l8, l9, l10, l11⟩
      rw [eT, up_s _ _ _ _ (by decide), up_s _ _ _ _ (by decide), up_s _ _ _ _ (by decide), eT1, up_eq])
  have hfr : ∀ s j k, zKeep s j k → N s j k = M s j k := fun s j k z => by
    unfold zKeep at z
    rw [n3, up_at, if_neg (by omega), up_at, if_neg (by omega), up_at, if_neg (by omega), m9, up_at, if_neg (by omega), mb, up_at, if_neg (by omega), ma, up_at, if_neg (by omega), m7, up_at, if_neg (by omega)]
  refine hK f T' N (h'.st e0 hG' hL' hA' hw' (fun s j k z => hfr s j k (by unfold zKeep; omega)) ?_) (zSm.kp hfr) u72 t70 t71 dS
  rw [n3, up_s _ _ _ _ (by decide), up_s _ _ _ _ (by decide), up_s _ _ _ _ (by decide), m9, up_s _ _ _ _ (by decide), mb, up_s _ _ _ _ (by decide), ma, up_s _ _ _ _ (by decide), m7, up_eq]
  decide
theorem n_figure (h : Iv T O κ M) (hp : 0 ≤ p1 ∧ p1 < T 11 0 15) (hf : zisf p2 p3) {Qf : Int → Mem → Prop} (hK : (T 72 0 p1 = 0 ∧ T 67 0 p1 = 1 ∧ T 68 0 p1 = 1) → ∀ T' M', Iv T' O κ M' → zSm M M' → (∀ i, T' 73 0 i = if i = p1 then 1 else T 73 0 i) → (∀ i, T' 74 0 i = if i = p1 then p2 else T 74 0 i) → (∀ i, T' 75 0 i = if i = p1 then p3 else T 75 0 i) → (∀ s : Nat, s ≠ 1 → s ≠ 73 → s ≠ 74 → s ≠ 75 → T' s = T s) → Qf 0 M') (hX : ¬ (T 72 0 p1 = 0 ∧ T 67 0 p1 = 1 ∧ T 68 0 p1 = 1) → Qf (-7) M) : wp_L_figured p1 p2 p3 M (fun x M1 => ∃ M2, Gh M1 M2 ∧ Qf x M2) := by
  have h' := h
  obtain ⟨hG, hL, hA, -, -, -, -, -, hw, -⟩ := h
  have hKn := hG.nK
  have n14 := hL.n.2.2
  have x14 := hA.s14
  have x1 := hA.s1
  refine k_hasCell hG hL hA (fun hp => ⟨fun _ => ?_, fun z => absurd z (by decide)⟩) (fun z => absurd hp z)
  obtain ⟨l0, l1, l2, l3, l4, l7, l8, l9, l10, l11, l12, lw⟩ := hL.cell hp.1 hp.2
  obtain ⟨w1, w2, w3, w4, w5, w6, w7, w8, w9, w10, w11, w12⟩ := hG.cell p1 hp.1 hp.2
  refine k_isFigure (fun _ => ⟨fun _ => ?_, fun z => absurd z (by decide)⟩) (fun z => absurd hf z)
  rw [x14, x1, n14, l0, l7, l3, l4]
  refine ⟨hp, fun a => ⟨rfl, M, Gh.rf, hX (fun z => by omega)⟩, fun a => ⟨fun b => ⟨rfl, M, Gh.rf, hX (fun z => by omega)⟩, fun b => ⟨fun d => ?_, fun d => ⟨rfl, M, Gh.rf, hX (fun z => by omega)⟩⟩⟩⟩
  intro M10 m10 M12 m12 M14 m14 M16 m16
  have hy : T 72 0 p1 = 0 ∧ T 67 0 p1 = 1 ∧ T 68 0 p1 = 1 := ⟨by omega, by omega, by omega⟩
  have hz := hf.1
  have hz2 := hf.2.1
  obtain ⟨N, n1⟩ : ∃ z, z = up (up (up M16 73 0 p1 1) 74 0 p1 p2) 75 0 p1 p3 := ⟨_, rfl⟩
  refine ⟨N, by rw [n1]; exact ((Gh.rf.up (Or.inr (by decide)) ⟨by omega, by omega⟩).up (Or.inr (by decide)) ⟨by omega, by omega⟩).up (Or.inr (by decide)) ⟨by omega, by omega⟩, ?_⟩
  obtain ⟨T1, eT1⟩ : ∃ T1, T1 = up (up (up T 1 p1 8 1) 1 p1 9 p2) 1 p1 10 p3 := ⟨_, rfl⟩
  have hA1 : Ag T1 M16 := by rw [eT1, m16, m14, m12, m10]; exact ag_up2 (ag_up2 (ag_up2 (hA.up rfl) _ _ _ _) _ _ _ _) _ _ _ _
  have d1 : ∀ s : Nat, s ≠ 1 → T1 s = T s := fun s x => by rw [eT1, up_f _ _ _ _ x, up_f _ _ _ _ x, up_f _ _ _ _ x]
  obtain ⟨T', eT⟩ : ∃ T', T' = up (up (up T1 73 0 p1 1) 74 0 p1 p2) 75 0 p1 p3 := ⟨_, rfl⟩
  have hA' : Ag T' N := by rw [eT, n1]; exact ag_up2 (ag_up2 (ag_up2 hA1 _ _ _ _) _ _ _ _) _ _ _ _
  have dS : ∀ s : Nat, s ≠ 1 → s ≠ 73 → s ≠ 74 → s ≠ 75 → T' s = T s := fun s x u v w => by rw [eT, up_f _ _ _ _ w, up_f _ _ _ _ v, up_f _ _ _ _ u]; exact d1 s x
  have t72 : T' 72 = T 72 := dS 72 (by decide) (by decide) (by decide) (by decide)
  have t76 : T' 76 = T 76 := dS 76 (by decide) (by decide) (by decide) (by decide)
  have u73 : ∀ i, T' 73 0 i = if i = p1 then 1 else T 73 0 i := fun i => by
    by_cases x : i = p1
    · rw [if_pos x, x, eT, up_s _ _ _ _ (by decide), up_s _ _ _ _ (by decide), up_eq]
    · rw [if_neg x, eT, up_s _ _ _ _ (by decide), up_s _ _ _ _ (by decide), up_k _ _ _ _ _ _ x, d1 73 (by decide)]
  have u74 : ∀ i, T' 74 0 i = if i = p1 then p2 else T 74 0 i := fun i => by
    by_cases x : i = p1
    · rw [if_pos x, x, eT, up_s _ _ _ _ (by decide), up_eq]
    · rw [if_neg x, eT, up_s _ _ _ _ (by decide), up_k _ _ _ _ _ _ x, up_s _ _ _ _ (by decide), d1 74 (by decide)]
  have u75 : ∀ i, T' 75 0 i = if i = p1 then p3 else T 75 0 i := fun i => by
    by_cases x : i = p1
    · rw [if_pos x, x, eT, up_eq]
    · rw [if_neg x, eT, up_k _ _ _ _ _ _ x, up_s _ _ _ _ (by decide), up_s _ _ _ _ (by decide), d1 75 (by decide)]
  have t73 : T' 73 0 p1 = 1 := by rw [u73, if_pos rfl]
  have t74 : T' 74 0 p1 = p2 := by rw [u74, if_pos rfl]
  have t75 : T' 75 0 p1 = p3 := by rw [u75, if_pos rfl]
  have u1 : ∀ j k, T' 1 j k = T1 1 j k := fun j k => by rw [eT, up_s _ _ _ _ (by decide), up_s _ _ _ _ (by decide), up_s _ _ _ _ (by decide)]
  have t1 : ∀ k, k ≠ 8 → k ≠ 9 → k ≠ 10 → T' 1 p1 k = T 1 p1 k := fun k x y z => by rw [u1, eT1, up_k _ _ _ _ _ _ z, up_k _ _ _ _ _ _ y, up_k _ _ _ _ _ _ x]
  obtain ⟨e0, hG', hL', hw'⟩ := zput_cell (T' := T') hG hL hw hp.1 hp.2 (fun s hs => dS s (by omega) (by omega) (by omega) (by omega)) (fun s hs j k hj => by
    by_cases q : s = 1
    · rw [q, u1, eT1, up_j _ _ _ _ _ hj, up_j _ _ _ _ _ hj, up_j _ _ _ _ _ hj]
    · rw [dS s q (by omega) (by omega) (by omega)]) (fun s hs k hk => by
    rw [eT, up_k _ _ _ _ _ _ hk, up_k _ _ _ _ _ _ hk, up_k _ _ _ _ _ _ hk, d1 s (by omega)]) (fun s hs i k _ _ _ => by rw [dS s (by omega) (by omega) (by omega) (by omega)]) (fun k hk => t1 k (by omega) (by omega) (by omega))
    (by rw [t72, t73, t74, t75, t76]; exact ⟨w6, ⟨by omega, by omega⟩, hf.1, hf.2.1, w10, fun _ => hy, w12⟩)
    (fun i i0 i1 => absurd i1 (by rw [t72]; omega))
    (by
      rw [t72, t73, t74, t75, t76, t1 7 (by decide) (by decide) (by decide), t1 11 (by decide) (by decide) (by decide)]
      refine ⟨l7, ?_, ?_, ?_, l11⟩
      · rw [u1, eT1, up_k _ _ _ _ _ _ (by decide), up_k _ _ _ _ _ _ (by decide), up_eq]
      · rw [u1, eT1, up_k _ _ _ _ _ _ (by decide), up_eq]
      · rw [u1, eT1, up_eq])
  have hfr : ∀ s j k, zKeep s j k → N s j k = M s j k := fun s j k z => by
    unfold zKeep at z
    rw [n1, up_at, if_neg (by omega), up_at, if_neg (by omega), up_at, if_neg (by omega), m16, up_at, if_neg (by omega), m14, up_at, if_neg (by omega), m12, up_at, if_neg (by omega), m10, up_at, if_neg (by omega)]
  refine hK hy T' N (h'.st e0 hG' hL' hA' hw' (fun s j k z => hfr s j k (by unfold zKeep; omega)) ?_) (zSm.kp hfr) u73 u74 u75 dS
  rw [n1, up_s _ _ _ _ (by decide), up_s _ _ _ _ (by decide), up_s _ _ _ _ (by decide), m16, up_s _ _ _ _ (by decide), m14, up_s _ _ _ _ (by decide), m12, up_s _ _ _ _ (by decide), m10, up_eq]
  decide
theorem n_totalled (h : Iv T O κ M) (hp : 0 ≤ p1 ∧ p1 < T 11 0 4) {Qf : Int → Mem → Prop} (hK : ∀ T' M', Iv T' O κ M' → zSm M M' → (∀ k, T' 58 0 k = if k = p1 then 1 - T 58 0 p1 else T 58 0 k) → (∀ s : Nat, s ≠ 2 → s ≠ 58 → T' s = T s) → Qf (1 - T 58 0 p1) M') : wo_X9_totalled p1 M (fun x M1 => ∃ M2, Gh M1 M2 ∧ Qf x M2) := by
  have h' := h
  obtain ⟨hG, hL, hA, -, -, -, -, -, hw, -⟩ := h
  have hC := hG.nC
  have n12 := hL.n.1
  refine k_hasColumn hG hL hA (fun hp => ⟨fun _ => ?_, fun z => absurd z (by decide)⟩) (fun z => absurd hp z)
  obtain ⟨l0, l1, l2, l3⟩ := hL.col hp.1 hp.2
  have hc := hG.col p1 hp.1 hp.2
  intro M2 m2
  have hA2 : Ag T M2 := by rw [m2]; exact hA.up rfl
  have x12 := hA2.s12
  have x2 := hA2.s2
  have ev : (if ¬ T 58 0 p1 = 0 then (0 : Int) else 1) = 1 - T 58 0 p1 := by split <;> omega
  have hv : 1 - T 58 0 p1 = 0 ∨ 1 - T 58 0 p1 = 1 := by omega
  rw [x12, n12, l0, x2, l3, ev]
  generalize hve : 1 - T 58 0 p1 = v at hv hK ⊢
  refine ⟨hp, hv, ?_⟩
  intro M11 m11
  have v11 : M11 2 p1 3 = v := by rw [m11, up_eq]
  rw [v11]
  refine ⟨hv, ?_⟩
  obtain ⟨N, n1⟩ : ∃ z, z = up M11 58 0 p1 v := ⟨_, rfl⟩
  refine ⟨N, by rw [n1]; exact Gh.rf.up (Or.inr (by decide)) ⟨by omega, by omega⟩, ?_⟩
  obtain ⟨T1, eT1⟩ : ∃ T1, T1 = up T 2 p1 3 v := ⟨_, rfl⟩
  have hA1 : Ag T1 M11 := by rw [eT1, m11]; exact ag_up2 hA2 _ _ _ _
  have d1 : ∀ s : Nat, s ≠ 2 → T1 s = T s := fun s x => by rw [eT1, up_f _ _ _ _ x]
  obtain ⟨T', eT⟩ : ∃ T', T' = up T1 58 0 p1 v := ⟨_, rfl⟩
  have hA' : Ag T' N := by rw [eT, n1]; exact ag_up2 hA1 _ _ _ _
  have dS : ∀ s : Nat, s ≠ 2 → s ≠ 58 → T' s = T s := fun s x y => by rw [eT, up_f _ _ _ _ y]; exact d1 s x
  have e0 : zSt0 T T' := ⟨⟨by rw [dS 11 (by decide) (by decide)], by rw [dS 11 (by decide) (by decide)], by rw [dS 11 (by decide) (by decide)]⟩, fun s hs => dS s (by omega) (by omega)⟩
  obtain ⟨z0, zp⟩ := zset0 (fun s hs => dS s (by omega) (by omega)) e0 hG hL
  have t58 : ∀ k, T' 58 0 k = if k = p1 then v else T 58 0 k := fun k => by
    by_cases e : k = p1
    · rw [if_pos e, e, eT, up_eq]
    · rw [if_neg e, eT, up_k _ _ _ _ _ _ e, d1 58 (by decide)]
  have d : ∀ s : Nat, 60 ≤ s → T' s = T s := fun s hs => dS s (by omega) (by omega)
  have hG' : Good T' := by
    refine hG.st e0 z0 ?_ ?_ (zGK_st hG.cell e0 (d 72 (by decide)) (d 73 (by decide)) (d 74 (by decide)) (d 75 (by decide)) (d 76 (by decide))) (zGW_st hG.word e0 (d 72 (by decide)) (d 70 (by decide)) (d 71 (by decide)))
    · have := hG.col
      unfold zGC at this ⊢
      rw [e0.1.1, e0.2 56 (by decide), e0.2 57 (by decide), e0.2 59 (by decide)]
      intro k k0 k1
      obtain ⟨y1, y2, y3, y4⟩ := this k k0 k1
      rw [t58]
      refine ⟨y1, y2, ?_, y4⟩
      split <;> omega
    · have := hG.vis
      unfold zGV at this ⊢
      rw [e0.1.1, e0.2 59 (by decide)]
      refine ⟨this.1, fun k k0 k1 => ?_⟩
      rw [t58, if_neg (by omega)]
      exact this.2 k k0 k1
  have t2 : ∀ k, T' 2 k 3 = if k = p1 then v else T 2 k 3 := fun k => by
    rw [eT, up_s _ _ _ _ (by decide), eT1]
    by_cases e : k = p1
    · rw [if_pos e, e, up_eq]
    · rw [if_neg e, up_j _ _ _ _ _ e]
  have t2' : ∀ k i, i ≠ 3 → T' 2 k i = T 2 k i := fun k i hi => by rw [eT, up_s _ _ _ _ (by decide), eT1, up_k _ _ _ _ _ _ hi]
  have hfr : ∀ s j k, zKeep s j k → N s j k = M s j k := fun s j k z => by
    unfold zKeep at z
    rw [n1, up_at, if_neg (by omega), m11, up_at, if_neg (by omega), m2, up_at, if_neg (by omega)]
  refine hK T' N (h'.st e0 hG' (hL.st e0 ?_ (zLe_st hL.le e0 (dS 1 (by decide) (by decide)) (d 72 (by decide)) (d 73 (by decide)) (d 74 (by decide)) (d 75 (by decide)) (d 76 (by decide)) (dS 25 (by decide) (by decide)) (dS 26 (by decide) (by decide)) (d 70 (by decide)) (d 71 (by decide))) zp) hA' (zNW_st hw e0 (d 72 (by decide)) (d 73 (by decide)) (d 74 (by decide)) (d 75 (by decide)) (d 76 (by decide))) (fun s j k z => hfr s j k (by unfold zKeep; omega)) ?_) (zSm.kp hfr) t58 dS
  · intro k k0 k1
    rw [e0.1.1] at k1
    obtain ⟨y1, y2, y3, y4⟩ := hL.col k0 k1
    rw [e0.2 12 (by decide), e0.2 56 (by decide), e0.2 57 (by decide), t2, t58, t2' k 0 (by decide), t2' k 1 (by decide), y4]
    exact ⟨y1, y2, y3, rfl⟩
  · rw [n1, up_s _ _ _ _ (by decide), m11, up_s _ _ _ _ (by decide), m2, up_eq]
    decide
end NB
