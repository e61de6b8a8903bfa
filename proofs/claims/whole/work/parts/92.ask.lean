/-! the pure part: calls that only ask, second part -/
/-- lines of pieces b up to e of one code -/
def zlb (S : zSt) (r b e : Int) : Int := zS (fun k => if ¬ S 1 k = r then 0 else S 4 k) b e
section GA
variable {T M : Mem} {O : zSt} {κ : Nat → Int} {K : (Nat → Int) → Mem → Prop} {p1 p2 : Int}
theorem q2_u {M M' : Mem} (h : Fj zQ2 M M') (c : Int) : Fj zQ2 M (up M' 11 0 59 c) := h.up (Or.inr (Or.inr (Or.inl ⟨rfl, Or.inr (Or.inr (Or.inr rfl))⟩)))
theorem zDR.s70 (d : zDR T M) : (¬ M 7 0 0 = 0 → zpg T 0 6 = 0) ∧ (M 7 0 0 = 0 → ¬ zpg T 0 6 = 0) := by
  have e := d.2.2.2.1.1
  refine ⟨fun h => ?_, fun h z => ?_⟩
  · by_cases z : zpg T 0 6 = 0
    · exact z
    · rw [if_neg z] at e; exact absurd e h
  · rw [if_pos z] at e; omega
theorem zDR.n (d : zDR T M) : M 7 0 1 = zpg T 0 1 := d.2.2.2.1.2.1
theorem zDR.cs (d : zDR T M) : zCS 0 (zpg T) M := ⟨⟨d.2.2.2.1.2.1, d.2.2.2.1.2.2.1, fun p a b => (d.2.2.2.1.2.2.2.2.2.1 p a b).1⟩, d.2.2.2.1.2.2.2.2.1⟩
theorem zPR.u {S : zSt} (h : zPR S M) (c : Int) : zPR S (up M 11 0 59 c) := by
  obtain ⟨a1, a2, a3, a4⟩ := h
  exact ⟨by rw [up_k _ _ _ _ _ _ (by decide)]; exact a1, by rw [up_k _ _ _ _ _ _ (by decide)]; exact a2, fun k a b => by rw [up_s _ _ _ _ (by decide), up_s _ _ _ _ (by decide), up_s _ _ _ _ (by decide), up_s _ _ _ _ (by decide)]; exact a3 k a b, fun p a b => by rw [up_s _ _ _ _ (by decide), up_s _ _ _ _ (by decide)]; exact a4 p a b⟩
theorem zHS.u (h : zHS T M) (c : Int) : zHS T (up M 11 0 59 c) := ⟨fun k a b => by rw [up_s _ _ _ _ (by decide), up_s _ _ _ _ (by decide), up_s _ _ _ _ (by decide), up_s _ _ _ _ (by decide)]; exact h.1 k a b, fun r a b => by rw [up_s _ _ _ _ (by decide)]; exact h.2 r a b⟩
/-- the end of a call: the reference's frame and what it says -/
theorem fin {M1 M2 : Mem} (h : Iv T O κ M) (hK : ∀ M', Iv T O κ M' → K κ M') (f1 : Fj zRF M M1) (d1 : M1 10 0 10 = 0 → zDR T M1) {r v : Int} (f2 : Fr zP (up M1 103 0 0 r) M2) (e : r = v) : up M2 11 0 59 0 11 0 59 = 0 ∧ ((0 : Int) = 0 → up M2 11 0 59 0 103 0 0 = v) ∧ K κ (up M2 11 0 59 0) := by
  refine ⟨up_eq _ _ _ _ _, fun _ => ?_, hK _ (h.q f1 d1 (q2_u ((q2_r _ _).tr (f2.j zP_q)) 0))⟩
  rw [up_s _ _ _ _ (by decide), f2 103 0 0 rfl, up_eq, e]
theorem finx {M1 M2 : Mem} (h : Iv T O κ M) (hK : ∀ M', Iv T O κ M' → K κ M') (f1 : Fj zRF M M1) (d1 : M1 10 0 10 = 0 → zDR T M1) {c v : Int} (hc : ¬ c = 0) (f2 : Fr zP M1 M2) : up M2 11 0 59 c 11 0 59 = c ∧ (c = 0 → up M2 11 0 59 c 103 0 0 = v) ∧ K κ (up M2 11 0 59 c) :=
  ⟨up_eq _ _ _ _ _, fun z => absurd z hc, hK _ (h.q f1 d1 (q2_u (f2.j zP_q) c))⟩
theorem finx0 (h : Iv T O κ M) (hK : ∀ M', Iv T O κ M' → K κ M') {c v : Int} (hc : ¬ c = 0) : up M 11 0 59 c 11 0 59 = c ∧ (c = 0 → up M 11 0 59 c 103 0 0 = v) ∧ K κ (up M 11 0 59 c) :=
  ⟨up_eq _ _ _ _ _, fun z => absurd z hc, hK _ (h.x c)⟩
theorem Iv.dr (h : Iv T O κ M) : M 10 0 10 = 0 → zDR T M := h.2.2.2.2.2.2.1
theorem l_pages (h : Iv T O κ M) (hK : ∀ M', Iv T O κ M' → K κ M') : wp_law_26 κ M K := by
  have h' := h
  obtain ⟨hG, hL, hA, -, -, -, hd, -⟩ := h
  refine k_refresh hG hL hA hd (fun M1 f1 d1 s1 => ⟨fun hs => ?_, fun hs => ⟨rfl, ?_⟩⟩)
  · have h6 := d1.s70.1 hs
    refine q_laysPages hG ((f1.ag hA zRF_in).up rfl) (fun M2 f2 h2 p2 _ _ => ?_)
    rw [if_pos h6]
    refine q_goes0 (by decide) (by decide) (by decide) ?_
    rw [if_neg (by decide), (p2.u 0).2.1]
    exact fin h' hK f1 (fun _ => d1) f2 d1.n
  · have h6 := d1.s70.2 hs
    refine q_laysPages hG (f1.ag hA zRF_in) (fun M2 f2 h2 p2 _ _ => ?_)
    rw [if_neg h6]
    exact q_goes1 rfl (finx h' hK f1 (fun _ => d1) (by decide) f2)
theorem l_notesOn (h : Iv T O κ M) (hK : ∀ M', Iv T O κ M' → K κ M') : wp_law_31 p1 κ M K := by
  have h' := h
  obtain ⟨hG, hL, hA, -, -, -, hd, -⟩ := h
  have hN := (zpg_wf hG).1.2.1
  refine k_refresh hG hL hA hd (fun M1 f1 d1 s1 => ⟨fun hs => ?_, fun hs => ?_⟩)
  · have h6 := d1.s70.1 hs
    refine k_hasPage d1.n (by omega) (fun hp => ⟨fun _ => ⟨⟨by omega, by omega⟩, ?_⟩, fun z => absurd z (by decide)⟩) (fun hp => ⟨fun z => absurd rfl z, fun _ => Or.inr ⟨rfl, ?_⟩⟩)
    · refine q_laysPages hG ((f1.ag hA zRF_in).up rfl) (fun M2 f2 h2 p2 _ _ => ?_)
      rw [if_pos h6]
      refine ⟨fun z => absurd z (by decide), fun _ => q_isPage p2.2.1 hN.1 (by omega) (fun _ => q_goes0 (by decide) (by decide) (by decide) ?_) (fun z => absurd hp z)⟩
      rw [if_neg (by decide), ((p2.u 0).2.2.2 p1 hp.1 hp.2).2]
      exact ⟨fun _ => ⟨⟨by omega, by omega⟩, trivial⟩, fin h' hK f1 (fun _ => d1) f2 (d1.2.2.2.1.2.2.2.2.2.1 p1 hp.1 hp.2).2.2⟩
    · refine q_laysPages hG (f1.ag hA zRF_in) (fun M2 f2 h2 p2 _ _ => ?_)
      rw [if_pos h6]
      exact ⟨fun z => absurd z (by decide), fun _ => q_isPage p2.2.1 hN.1 (by omega) (fun z => absurd z hp) (fun _ => q_goes2 (by decide) rfl ⟨fun z => absurd rfl z, finx h' hK f1 (fun _ => d1) (by decide) f2⟩)⟩
  · have h6 := d1.s70.2 hs
    refine Or.inl ⟨rfl, q_laysPages hG (f1.ag hA zRF_in) (fun M2 f2 h2 p2 _ _ => ?_)⟩
    rw [if_neg h6]
    exact ⟨fun _ => q_goes1 rfl ⟨fun z => absurd rfl z, finx h' hK f1 (fun _ => d1) (by decide) f2⟩, fun z => absurd rfl z⟩
theorem l_used (h : Iv T O κ M) (hK : ∀ M', Iv T O κ M' → K κ M') : wp_law_30 p1 κ M K := by
  have h' := h
  obtain ⟨hG, hL, hA, -, -, -, hd, -⟩ := h
  have hN := (zpg_wf hG).1.2.1
  have hB : zHB T (zhH T) := zht_r hG (zwid_r hG)
  have hat := zat_r T hG
  have hm0 := hG.many (p := 0) (by omega) (by omega)
  have hm2 := hG.many (p := 2) (by omega) (by omega)
  obtain ⟨-, -, -, -, -, -, -, h2a, -, h2b, -⟩ := hG.n
  have b0 := zsum_r hG hB (p := 0) (by omega) (by omega) hm0.1 (Int.le_refl _)
  have b2 := zsum_r hG hB (p := 2) (by omega) (by omega) hm2.1 (Int.le_refl _)
  have ea : zsum T (zhH T) 0 = zS (fun k => zhH T (T 63 0 (24 * 0 + k))) 0 (T 64 0 0) := rfl
  have eb : zsum T (zhH T) 2 = zS (fun k => zhH T (T 63 0 (24 * 2 + k))) 0 (T 64 0 2) := rfl
  rw [← ea] at b0
  rw [← eb] at b2
  refine k_refresh hG hL hA hd (fun M1 f1 d1 s1 => ⟨fun hs => ?_, fun hs => ?_⟩)
  · have h6 := d1.s70.1 hs
    refine k_hasPage d1.n (by omega) (fun hp => ⟨fun _ => ⟨⟨by omega, by omega⟩, ?_⟩, fun z => absurd z (by decide)⟩) (fun hp => ⟨fun z => absurd rfl z, fun _ => Or.inr ⟨rfl, ?_⟩⟩)
    · have hA1 : Ag T (up M1 103 0 0 (M1 42 0 p1)) := (f1.ag hA zRF_in).up rfl
      refine q_laysPages hG hA1 (fun M2 f2 h2 p2 hw _ => ?_)
      rw [if_pos h6]
      have hW : zPW T (zpg T) := hw.elim id (fun z => absurd h6 z)
      have hA2 : Ag T (up M2 11 0 59 0) := (f2.ag hA1 zP_in).up rfl
      have p2' := p2.u 0
      have h5 := hW.2.2.2.2.2.1 p1 hp.1 hp.2
      have h00 := hW.2.2.1
      have eat : (if zat T = 0 then (0 : Int) else 1) = zat T := by split <;> omega
      refine ⟨fun z => absurd z (by decide), fun _ => q_isPage p2.2.1 hN.1 (by omega) (fun _ => q_goes0 (by decide) (by decide) (by decide) ⟨fun _ => ?_, fun z => absurd z (by decide)⟩) (fun z => absurd hp z)⟩
      refine q_isAnyTotalled hG hA2 (q_sumOf hG hA2 hB (h2.u 0).2 (by omega) (by omega) (q_sumOf hG hA2 hB (h2.u 0).2 (by omega) (by omega) ?_))
      have e26 := hA2.f26
      have e49 := p2'.2.1
      have e95 := p2'.2.2.2 p1 hp.1 hp.2
      have r1 : 0 ≤ (if p1 ≤ 0 then (0 : Int) else 1 + zat T) ∧ (if p1 ≤ 0 then (0 : Int) else 1 + zat T) ≤ 2 := by split <;> omega
      have r2 : 0 ≤ (if zpg T 0 1 - 1 ≤ p1 then (0 : Int) else zat T) ∧ (if zpg T 0 1 - 1 ≤ p1 then (0 : Int) else zat T) ≤ 1 := by split <;> omega
      have r3 : 0 ≤ (if T 11 0 26 = 0 then zpg T 6 p1 else 0) ∧ (if T 11 0 26 = 0 then zpg T 6 p1 else 0) ≤ 600000 := by split <;> omega
      simp only [eat, e49, e95.1]
      refine ⟨⟨by omega, by omega⟩, fun _ => ⟨⟨by omega, by omega⟩, trivial⟩, ⟨by omega, by omega⟩, ⟨by omega, by omega⟩, ⟨by omega, by omega⟩, ⟨by omega, by omega⟩, ⟨by omega, by omega⟩, ⟨by omega, by omega⟩, ?_⟩
      unfold wp_X10_restOfNotes
      simp only [e26, e95.2]
      refine ⟨fun _ => ⟨⟨by omega, by omega⟩, trivial⟩, ⟨by omega, by omega⟩, ?_⟩
      have e : M1 42 0 p1 = ((zsum T (zhH T) 0 + zsum T (zhH T) 2 + if p1 ≤ 0 then 0 else 1 + zat T) + if zpg T 0 1 - 1 ≤ p1 then 0 else zat T) + zpg T 5 p1 + if T 11 0 26 = 0 then zpg T 6 p1 else 0 := by
        rw [(d1.2.2.2.1.2.2.2.2.2.1 p1 hp.1 hp.2).2.1]
        unfold zus
        omega
      obtain ⟨z1, z2, z3⟩ := fin h' hK f1 (fun _ => d1) f2 e
      exact ⟨z1, fun _ => z2 rfl, z3⟩
    · refine q_laysPages hG (f1.ag hA zRF_in) (fun M2 f2 h2 p2 _ _ => ?_)
      rw [if_pos h6]
      exact ⟨fun z => absurd z (by decide), fun _ => q_isPage p2.2.1 hN.1 (by omega) (fun z => absurd z hp) (fun _ => q_goes2 (by decide) rfl ⟨fun z => absurd rfl z, fun _ => finx h' hK f1 (fun _ => d1) (by decide) f2⟩)⟩
  · have h6 := d1.s70.2 hs
    refine Or.inl ⟨rfl, q_laysPages hG (f1.ag hA zRF_in) (fun M2 f2 h2 p2 _ _ => ?_)⟩
    rw [if_neg h6]
    exact ⟨fun _ => q_goes1 rfl ⟨fun z => absurd rfl z, fun _ => finx h' hK f1 (fun _ => d1) (by decide) f2⟩, fun z => absurd rfl z⟩
theorem l_pageOf (h : Iv T O κ M) (hK : ∀ M', Iv T O κ M' → K κ M') : wp_law_27 p1 κ M K := by
  have h' := h
  obtain ⟨hG, hL, hA, -, -, -, hd, -⟩ := h
  have hR := hG.nR
  refine k_hasRow hG hL hA (fun hp => ⟨fun _ => ?_, fun z => absurd z (by decide)⟩) (fun hp => ⟨fun z => absurd rfl z, fun _ => Or.inl ⟨rfl, ?_⟩⟩)
  · refine k_isBodyRow hG hL hA (fun hb => ⟨fun _ => ?_, fun z => absurd z (by decide)⟩) (fun hb => ⟨fun z => absurd rfl z, fun _ => Or.inr (Or.inl ⟨rfl, ?_⟩)⟩)
    · refine k_refresh hG hL hA hd (fun M1 f1 d1 s1 => ⟨fun hs => ⟨⟨by omega, by omega⟩, ?_⟩, fun hs => Or.inr (Or.inr ⟨rfl, ?_⟩)⟩)
      · have h6 := d1.s70.1 hs
        have hA1 : Ag T (up M1 103 0 0 (M1 45 0 p1)) := (f1.ag hA zRF_in).up rfl
        obtain ⟨hm0, hm1, em⟩ := zbo_of hG hb.1 hb.2.1 hb.2.2
        refine q_isBody hG hA1 (fun _ => q_isRow hG hA1 (fun _ => ⟨fun z => absurd z (by decide), fun _ => q_laysPages hG hA1 (fun M2 f2 h2 p2 _ _ => ?_)⟩) (fun z => absurd hp z)) (fun z => absurd hb z)
        rw [if_pos h6]
        refine q_goes0 (by decide) (by decide) (by decide) ⟨fun z => absurd z (by decide), fun _ => ?_⟩
        rw [← em]
        refine q_firstPage hG h6 (p2.u 0) hm0 hm1 ?_
        refine fin h' hK f1 (fun _ => d1) f2 ?_
        obtain ⟨k, ⟨k0, k1⟩, k2, k3, k4⟩ := zfirst hG h6 hm0 hm1
        rw [em] at k2 k4 ⊢
        exact d1.2.2.2.1.2.2.2.2.2.2 p1 k hp.1 (by omega) k0 k1 k2 k3
      · have h6 := d1.s70.2 hs
        have hA1 := f1.ag hA zRF_in
        refine q_isBody hG hA1 (fun _ => q_isRow hG hA1 (fun _ => ⟨fun z => absurd z (by decide), fun _ => q_laysPages hG hA1 (fun M2 f2 h2 p2 _ _ => ?_)⟩) (fun z => absurd hp z)) (fun z => absurd hb z)
        rw [if_neg h6]
        exact q_goes3 (by decide) (by decide) rfl ⟨fun _ => finx h' hK f1 (fun _ => d1) (by decide) f2, fun z => absurd rfl z⟩
    · exact q_isBody hG hA (fun z => absurd z hb) (fun _ => q_isRow hG hA (fun _ => ⟨fun _ => q_goes2 (by decide) rfl ⟨fun _ => finx0 h' hK (by decide), fun z => absurd rfl z⟩, fun z => absurd rfl z⟩) (fun z => absurd hp z))
  · exact q_isBody hG hA (fun z => absurd ⟨z.1, z.2.1⟩ hp) (fun _ => q_isRow hG hA (fun z => absurd z hp) (fun _ => ⟨fun _ => q_goes1 rfl ⟨fun _ => finx0 h' hK (by decide), fun z => absurd rfl z⟩, fun z => absurd rfl z⟩))
theorem l_carried (h : Iv T O κ M) (hK : ∀ M', Iv T O κ M' → K κ M') : wp_law_35 p1 p2 κ M K := by
  have h' := h
  obtain ⟨hG, hL, hA, -, -, -, hd, -⟩ := h
  have hC := hG.nC
  have hN := (zpg_wf hG).1.2.1
  refine k_hasColumn hG hL hA (fun hp => ⟨fun _ => ?_, fun z => absurd z (by decide)⟩) (fun hp => ⟨fun z => absurd rfl z, fun _ => Or.inl ⟨rfl, ?_⟩⟩)
  · refine k_refresh hG hL hA hd (fun M1 f1 d1 s1 => ⟨fun hs => ?_, fun hs => Or.inr (Or.inl ⟨rfl, ?_⟩)⟩)
    · have h6 := d1.s70.1 hs
      have hA1 := f1.ag hA zRF_in
      refine k_hasPage d1.n (by omega) (fun hq => ⟨fun _ => ?_, fun z => absurd z (by decide)⟩) (fun hq => ⟨fun z => absurd rfl z, fun _ => Or.inr (Or.inr ⟨rfl, ?_⟩)⟩)
      · refine k_carriedOut d1.n (by omega) hp.1 (by omega) (fun _ => ?_) (fun z => absurd hq z)
        have hAu : Ag T (up M1 103 0 0 (M1 44 0 (p1 * 6 + p2))) := hA1.up rfl
        refine q_isColumn hG hAu (fun _ => ⟨fun z => absurd z (by decide), fun _ => q_laysPages hG hAu (fun M2 f2 h2 p2 _ _ => ?_)⟩) (fun z => absurd hp z)
        rw [if_pos h6, if_neg (by decide)]
        refine ⟨fun z => absurd z (by decide), fun _ => q_isPage p2.2.1 hN.1 (by omega) (fun _ => q_goes0 (by decide) (by decide) (by decide) ⟨fun z => absurd z (by decide), fun _ => ?_⟩) (fun z => absurd hq z)⟩
        exact q_carries hG ((f2.ag hAu zP_in).up rfl) h6 (p2.u 0) hp.1 (by omega) (fin h' hK f1 (fun _ => d1) f2 (d1.2.2.2.2 p1 _ hq.1 hq.2 hp.1 (by omega)))
      · refine q_isColumn hG hA1 (fun _ => ⟨fun z => absurd z (by decide), fun _ => q_laysPages hG hA1 (fun M2 f2 h2 p2 _ _ => ?_)⟩) (fun z => absurd hp z)
        rw [if_pos h6, if_neg (by decide)]
        exact ⟨fun z => absurd z (by decide), fun _ => q_isPage p2.2.1 hN.1 (by omega) (fun z => absurd z hq) (fun _ => q_goes3 (by decide) (by decide) rfl ⟨fun _ => finx h' hK f1 (fun _ => d1) (by decide) f2, fun z => absurd rfl z⟩)⟩
    · have h6 := d1.s70.2 hs
      have hA1 := f1.ag hA zRF_in
      refine q_isColumn hG hA1 (fun _ => ⟨fun z => absurd z (by decide), fun _ => q_laysPages hG hA1 (fun M2 f2 h2 p2 _ _ => ?_)⟩) (fun z => absurd hp z)
      rw [if_neg h6, if_pos rfl]
      exact ⟨fun _ => q_goes2 (by decide) rfl ⟨fun _ => finx h' hK f1 (fun _ => d1) (by decide) f2, fun z => absurd rfl z⟩, fun z => absurd rfl z⟩
  · refine q_isColumn hG hA (fun z => absurd z hp) (fun _ => ⟨fun _ => ?_, fun z => absurd rfl z⟩)
    unfold wp_X10_carried_21 wp_X10_carried_45
    exact q_goes1 rfl ⟨fun _ => finx0 h' hK (by decide), fun z => absurd rfl z⟩
theorem l_look (h : Iv T O κ M) (hK : ∀ M', Iv T (zkeep T (zpg T)) κ M' → K κ M') : wp_law_32 κ M K := by
  obtain ⟨hG, hL, hA, hO, hR, hk, hd, hp, hw, hb⟩ := h
  refine k_refresh hG hL hA hd (fun M1 f1 d1 s1 => ?_)
  have hA1 := f1.ag hA zRF_in
  have R1 : zOR T O M1 := hR.fr (fun s j k a b => f1 s j k (by simp only [zRF, zCP]; omega)) (f1 11 0 54 (by simp only [zRF, zCP]; omega)) (f1 11 0 58 (by simp only [zRF, zCP]; omega))
  have K1 : zKO O M1 := hk.fr (fun s k a => f1 s 1 k (by simp only [zRF, zCP]; omega))
  refine k_countDifferencesTo hG d1 hO K1 (zkeep_ko hG d1 (fun M2 f2 K2 => ?_))
  have hz2 : ∀ s (j k : Int), (j = 1 ∧ (s = 7 ∨ (38 ≤ s ∧ s ≤ 44))) → zin s k = false := by
    intro s j k hz
    simp only [zin, Bool.or_eq_false_iff, Bool.and_eq_false_iff, decide_eq_false_iff_not]
    omega
  have hA2 := f2.ag hA1 hz2
  have R2 : zOR T O M2 := R1.fr (fun s j k a b => f2 s j k (by omega)) (f2 11 0 54 (by omega)) (f2 11 0 58 (by omega))
  have D2 : zDR T M2 := d1.fr (fun s k a => f2 s 0 k (by omega))
  refine q_look hG hA2 hO R2 (fun M3 f3 R3 => ?_)
  have fb : ∀ (s : Nat) (j k : Int), (s = 24 ∨ s = 27 ∨ s = 36 ∨ s = 77 ∨ s = 78 ∨ s = 79 ∨ s = 4 ∨ (s = 11 ∧ k = 30)) → M3 s j k = M s j k := fun s j k a => by
    rw [f3 s j k (by simp only [zLO, Bool.or_eq_false_iff, Bool.and_eq_false_iff, decide_eq_false_iff_not]; omega), f2 s j k (by omega), f1 s j k (by simp only [zRF, zCP]; omega)]
  refine ⟨rfl, hK M3 ⟨hG, hL, f3.ag hA2 zLO_in, zkeep_os hG, R3, K2.fr (fun s k a => f3 s 1 k ?_), fun _ => D2.fr (fun s k a => f3 s 0 k ?_), hp, hw, hb.fr rfl rfl rfl (fb 11 0 30 (by omega)) (fb 4 0 7 (by omega)) (fun j k => fb 24 j k (by omega)) (fun j k => fb 27 j k (by omega)) (fun j k => fb 36 j k (by omega)) (fun k => fb 77 0 k (by omega)) (fun k => fb 78 0 k (by omega)) (fun k => fb 79 0 k (by omega))⟩⟩
  · simp only [zLO, Bool.or_eq_false_iff, Bool.and_eq_false_iff, decide_eq_false_iff_not]; omega
  · simp only [zLO, Bool.or_eq_false_iff, Bool.and_eq_false_iff, decide_eq_false_iff_not]; omega
end GA
