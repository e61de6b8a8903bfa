/-! the class's calls as this law asks them: questions -/
/-- what the law has of its own stays, and the borders -/
def zSm (M M' : Mem) : Prop := (∀ s : Nat, (104 ≤ s ∨ (77 ≤ s ∧ s ≤ 79)) → M' s = M s) ∧ M' 11 0 30 = M 11 0 30
theorem zSm.rf {M : Mem} : zSm M M := ⟨fun _ _ => rfl, rfl⟩
theorem zSm.tr {M M1 M2 : Mem} (h : zSm M M1) (h2 : zSm M1 M2) : zSm M M2 := ⟨fun s hs => (h2.1 s hs).trans (h.1 s hs), h2.2.trans h.2⟩
theorem zSm.of {M M1 : Mem} (f : Fj zRF M M1) : zSm M M1 := ⟨fun s hs => funext fun j => funext fun k => f s j k (by simp only [zRF, zCP]; omega), f 11 0 30 (by simp only [zRF, zCP]; omega)⟩
theorem zSm.of2 {M M1 : Mem} (f : Fj zQ2 M M1) : zSm M M1 := ⟨fun s hs => funext fun j => funext fun k => f s j k (by simp only [zQ2]; omega), f 11 0 30 (by simp only [zQ2]; omega)⟩
section NA
variable {T M : Mem} {O : zSt} {κ : Nat → Int} {p1 p2 p3 : Int} {Qm : Int → Mem → Prop} {Xm : String → Mem → Prop}
theorem Iv.r (h : Iv T O κ M) {M1 : Mem} (f1 : Fj zRF M M1) (d1 : zDR T M1) : Iv T O κ M1 := h.q f1 (fun _ => d1) (Fj.rf _ _)
theorem n_at (h : Iv T O κ M) (hp : 0 ≤ p1 ∧ p1 < T 11 0 8) (hc : 0 ≤ p2 ∧ p2 < T 11 0 4) (hK : Qm (T 69 0 (6 * p1 + p2) - 1) M) : wo_X9_at p1 p2 M Qm := by
  obtain ⟨hG, hL, hA, -⟩ := h
  refine k_hasRow hG hL hA (fun _ => ⟨fun _ => ?_, fun z => absurd z (by decide)⟩) (fun z => absurd hp z)
  refine k_hasColumn hG hL hA (fun _ => ⟨fun _ => ?_, fun z => absurd z (by decide)⟩) (fun z => absurd hc z)
  exact k_cellNumberAt hG hL hA (fun _ => hK) (fun z => absurd ⟨hp, hc⟩ z)
theorem n_least (h : Iv T O κ M) (hp : 0 ≤ p1 ∧ p1 < T 11 0 4) (hK : ∀ M', Iv T O κ M' → zSm M M' → Qm (zls T p1) M') : wo_X9_least p1 M Qm := by
  have h' := h
  obtain ⟨hG, hL, hA, -, -, -, hd, -⟩ := h
  have hC := hG.nC
  refine k_hasColumn hG hL hA (fun _ => ⟨fun _ => ?_, fun z => absurd z (by decide)⟩) (fun z => absurd hp z)
  refine k_refresh hG hL hA hd (fun M1 f1 d1 s1 => ⟨⟨by omega, by omega⟩, ?_⟩)
  rw [(d1.1.1 p1 hp.1 hp.2).1]
  exact hK M1 (h'.r f1 d1) (zSm.of f1)
theorem n_most (h : Iv T O κ M) (hp : 0 ≤ p1 ∧ p1 < T 11 0 4) (hK : ∀ M', Iv T O κ M' → zSm M M' → Qm (zms T p1) M') : wo_X9_most p1 M Qm := by
  have h' := h
  obtain ⟨hG, hL, hA, -, -, -, hd, -⟩ := h
  have hC := hG.nC
  refine k_hasColumn hG hL hA (fun _ => ⟨fun _ => ?_, fun z => absurd z (by decide)⟩) (fun z => absurd hp z)
  refine k_refresh hG hL hA hd (fun M1 f1 d1 s1 => ⟨⟨by omega, by omega⟩, ?_⟩)
  rw [(d1.1.1 p1 hp.1 hp.2).2.1]
  exact hK M1 (h'.r f1 d1) (zSm.of f1)
theorem n_width (h : Iv T O κ M) (hp : 0 ≤ p1 ∧ p1 < T 11 0 4) (hK : ∀ M', Iv T O κ M' → zSm M M' → Qm (zwid T p1) M') : wo_X9_width p1 M Qm := by
  have h' := h
  obtain ⟨hG, hL, hA, -, -, -, hd, -⟩ := h
  have hC := hG.nC
  refine k_hasColumn hG hL hA (fun _ => ⟨fun _ => ?_, fun z => absurd z (by decide)⟩) (fun z => absurd hp z)
  refine k_refresh hG hL hA hd (fun M1 f1 d1 s1 => ⟨⟨by omega, by omega⟩, ?_⟩)
  rw [d1.1.2 p1 hp.1 hp.2]
  exact hK M1 (h'.r f1 d1) (zSm.of f1)
theorem n_over (h : Iv T O κ M) (hK : ∀ M', Iv T O κ M' → zSm M M' → Qm (max 0 (zsumw T (zwid T) - T 11 0 24)) M') : wp_X9_over M Qm := by
  have h' := h
  obtain ⟨hG, hL, hA, -, -, -, hd, -⟩ := h
  have hC := hG.nC
  have hB := zwid_r hG
  have hpp := hG.n.2.2.2.1
  have hv := zvis_r hG
  have hs := zS_bd (f := zwid T) (a := 0) (b := T 11 0 4) 0 300 hC.1 (fun k a b => hB k a b)
  have hsr : -1 ≤ zsumw T (zwid T) ∧ zsumw T (zwid T) ≤ 1806 := by unfold zsumw; split <;> omega
  refine k_refresh hG hL hA hd (fun M1 f1 d1 s1 => ?_)
  have hA1 := f1.ag hA zRF_in
  have e7 := hA1.g7
  refine k_widthTogether hG hL hA1 d1.1.2 hB ?_
  have ez := zsumw_sh hG (w := zwid T) (fun k z => zwid_hid hC.1 z)
  rw [ez, e7, hL.pap.1]
  exact ⟨⟨by omega, by omega⟩, hK M1 (h'.r f1 d1) (zSm.of f1)⟩
theorem n_lines (h : Iv T O κ M) (hp : 0 ≤ p1 ∧ p1 < T 11 0 15) (hK : ∀ M', Iv T O κ M' → zSm M M' → Qm (zlinesW T (zwid T) p1) M') : wo_X9_lines p1 M Qm := by
  have h' := h
  obtain ⟨hG, hL, hA, -, -, -, hd, -⟩ := h
  have hC := hG.nK
  refine k_hasCell hG hL hA (fun _ => ⟨fun _ => ?_, fun z => absurd z (by decide)⟩) (fun z => absurd hp z)
  refine k_refresh hG hL hA hd (fun M1 f1 d1 s1 => ⟨⟨by omega, by omega⟩, ?_⟩)
  rw [d1.2.1 p1 hp.1 hp.2]
  exact hK M1 (h'.r f1 d1) (zSm.of f1)
theorem n_height (h : Iv T O κ M) (hp : 0 ≤ p1 ∧ p1 < T 11 0 8) (hK : ∀ M', Iv T O κ M' → zSm M M' → Qm (zhH T p1) M') : wo_X9_height p1 M Qm := by
  have h' := h
  obtain ⟨hG, hL, hA, -, -, -, hd, -⟩ := h
  have hC := hG.nR
  refine k_hasRow hG hL hA (fun _ => ⟨fun _ => ?_, fun z => absurd z (by decide)⟩) (fun z => absurd hp z)
  refine k_refresh hG hL hA hd (fun M1 f1 d1 s1 => ⟨⟨by omega, by omega⟩, ?_⟩)
  rw [d1.2.2.1 p1 hp.1 hp.2]
  exact hK M1 (h'.r f1 d1) (zSm.of f1)
theorem n_heightByCells (h : Iv T O κ M) (hp : 0 ≤ p1 ∧ p1 < T 11 0 8) (hK : ∀ M', Iv T O κ M' → zSm M M' → Qm (zhH T p1) M') : wo_X9_heightByCells p1 M Qm := by
  have h' := h
  obtain ⟨hG, hL, hA, -, -, -, hd, -⟩ := h
  have hC := hG.nR
  have e7 := hA.g7
  have hB := zwid_r hG
  refine k_hasRow hG hL hA (fun _ => ⟨fun _ => ?_, fun z => absurd z (by decide)⟩) (fun z => absurd hp z)
  dsimp only
  rw [e7, hL.pap.1]
  refine k_solve hG hL hA (fun M3 f3 w3 d3 => ?_)
  have g3 : Fj zQ2 M M3 := f3.mono (fun s j k z => Or.inr (Or.inr (Or.inr (Or.inl ⟨Or.inr ⟨z.1, z.2.1⟩, z.2.2⟩))))
  refine k_measureCells hG hL (g3.ag hA zQ2_in) rfl (w := zwid T) d3 hB (fun M4 f4 d4 => ?_)
  have g4 : Fj zQ2 M M4 := g3.tr (f4.mono (fun s j k z => Or.inr (Or.inr (Or.inr (Or.inl ⟨Or.inl (by omega), z.2⟩)))))
  refine k_stackRows hG hL (g4.ag hA zQ2_in) hB d4 (fun M1 f5 d5 => ?_)
  have f1 : Fj zQ2 M M1 := g4.tr (f5.mono (fun s j k z => Or.inr (Or.inr (Or.inr (Or.inl ⟨Or.inl (by omega), z.2⟩)))))
  refine ⟨fun _ => ⟨fun _ => ⟨⟨by omega, by omega⟩, trivial⟩, trivial⟩, ?_⟩
  rw [if_neg (by omega), if_neg (by omega), d5 p1 hp.1 hp.2]
  exact hK M1 (h'.q0 f1) (zSm.of2 f1)
theorem n_tableHeight (h : Iv T O κ M) (hK : ∀ M', Iv T O κ M' → zSm M M' → Qm (zsum T (zhH T) 1) M') : wp_X9_tableHeight M Qm := by
  have h' := h
  obtain ⟨hG, hL, hA, -, -, -, hd, -⟩ := h
  have hB : zHB T (zhH T) := zht_r hG (zwid_r hG)
  refine k_refresh hG hL hA hd (fun M1 f1 d1 s1 => ?_)
  exact k_heightOfPart hG hL (f1.ag hA zRF_in) (by omega) (by omega) hB d1.2.2.1 (hK M1 (h'.r f1 d1) (zSm.of f1))
theorem n_point (h : Iv T O κ M) (hp : 0 ≤ p1 ∧ p1 < T 11 0 15) (hK : (T 73 0 p1 = 1 ∧ ¬ zshows T p1 = 0) → ∀ M', Iv T O κ M' → zSm M M' → Qm (zwid T (T 66 0 p1) - zRg T (T 66 0 p1)) M') (hX : ¬ (T 73 0 p1 = 1 ∧ ¬ zshows T p1 = 0) → Xm xISE M) : wp_X9_point p1 M Xm Qm := by
  have h' := h
  obtain ⟨hG, hL, hA, -, -, -, hd, -⟩ := h
  have hC := hG.nC
  have hKn := hG.nK
  have e14 := hA.s14
  have n14 := hL.n.2.2
  refine k_hasCell hG hL hA (fun _ => ⟨fun _ => ?_, fun z => absurd z (by decide)⟩) (fun z => absurd hp z)
  obtain ⟨l0, l1, l2, -⟩ := hL.cell hp.1 hp.2
  obtain ⟨-, w2, -, w4, -⟩ := hG.cell p1 hp.1 hp.2
  rw [e14, n14, l0]
  refine ⟨hp, k_showsFigure hG hL hA hp.1 hp.2 (fun hs => ⟨fun _ => ?_, fun z => absurd z (by decide)⟩) (fun hs => ⟨fun z => absurd rfl z, fun _ => hX hs⟩)⟩
  refine k_refresh hG hL hA hd (fun M1 f1 d1 s1 => ?_)
  have hA1 := f1.ag hA zRF_in
  have e1 := hA1.s1
  rw [e1, l2]
  exact k_pointOf hG d1 w2 (by omega) (hK hs M1 (h'.r f1 d1) (zSm.of f1))
theorem n_begins (h : Iv T O κ M) (hp : 0 ≤ p1 ∧ p1 < T 11 0 15) (hK : (T 73 0 p1 = 1 ∧ ¬ zshows T p1 = 0) → ∀ M', Iv T O κ M' → zSm M M' → Qm (zwid T (T 66 0 p1) - zRg T (T 66 0 p1) - zleft (T 74 0 p1)) M') (hX : ¬ (T 73 0 p1 = 1 ∧ ¬ zshows T p1 = 0) → Xm xISE M) : wp_X9_begins p1 M Xm Qm := by
  have h' := h
  obtain ⟨hG, hL, hA, -, -, -, hd, -⟩ := h
  have hC := hG.nC
  have hKn := hG.nK
  have e14 := hA.s14
  have n14 := hL.n.2.2
  refine k_hasCell hG hL hA (fun _ => ⟨fun _ => ?_, fun z => absurd z (by decide)⟩) (fun z => absurd hp z)
  obtain ⟨l0, l1, l2, l3, l4, l7, l8, l9, -⟩ := hL.cell hp.1 hp.2
  obtain ⟨-, w2, -, w4, -, -, -, w8, -⟩ := hG.cell p1 hp.1 hp.2
  have hlf := zleft_r (T 74 0 p1)
  rw [e14, n14, l0]
  refine ⟨hp, k_showsFigure hG hL hA hp.1 hp.2 (fun hs => ⟨fun _ => ?_, fun z => absurd z (by decide)⟩) (fun hs => ⟨fun z => absurd rfl z, fun _ => hX hs⟩)⟩
  refine k_refresh hG hL hA hd (fun M1 f1 d1 s1 => ?_)
  have hA1 := f1.ag hA zRF_in
  have e1 := hA1.s1
  have a := zwid_r hG (T 66 0 p1) w2 (by omega)
  have b := zRg_r hG w2 (by omega : T 66 0 p1 < 6)
  rw [e1, l2]
  refine k_pointOf hG d1 w2 (by omega) ?_
  rw [e1, l9]
  exact k_leftPart (by omega) (by omega) ⟨⟨by omega, by omega⟩, hK hs M1 (h'.r f1 d1) (zSm.of f1)⟩
theorem n_pages (h : Iv T O κ M) (hK : zpg T 0 6 = 0 → ∀ M', Iv T O κ M' → zSm M M' → Qm (zpg T 0 1) M') (hX : ¬ zpg T 0 6 = 0 → ∀ M', Iv T O κ M' → zSm M M' → Xm xISE M') : wp_X9_pages M Xm Qm := by
  have h' := h
  obtain ⟨hG, hL, hA, -, -, -, hd, -⟩ := h
  refine k_refresh hG hL hA hd (fun M1 f1 d1 s1 => ⟨fun hs => ?_, fun hs => hX (d1.s70.2 hs) M1 (h'.r f1 d1) (zSm.of f1)⟩)
  show Qm (M1 7 0 1) M1
  rw [d1.n]
  exact hK (d1.s70.1 hs) M1 (h'.r f1 d1) (zSm.of f1)
/-- with pages set -/
theorem n_sheets (d : zDR T M) (h6 : zpg T 0 6 = 0) {Qv : Mem → Prop} (hq : Qv M) : wo_X9_requireSheets M Qv := ⟨fun _ => hq, fun z => absurd h6 (d.s70.2 z)⟩
theorem n_page (hG : Good T) (d : zDR T M) (hp : 0 ≤ p1 ∧ p1 < zpg T 0 1) {Qv : Mem → Prop} (hq : Qv M) : wo_X9_requirePage p1 M Qv := by
  have hN := (zpg_wf hG).1.2.1
  exact k_hasPage d.n (by omega) (fun _ => ⟨fun _ => hq, fun z => absurd z (by decide)⟩) (fun z => absurd hp z)
theorem n_notesOn (h : Iv T O κ M) (h6 : zpg T 0 6 = 0) (hp : 0 ≤ p1 ∧ p1 < zpg T 0 1) (hK : ∀ M', Iv T O κ M' → zSm M M' → Qm (zpg T 6 p1) M') : wo_X9_notesOn p1 M Qm := by
  have h' := h
  obtain ⟨hG, hL, hA, -, -, -, hd, -⟩ := h
  have hN := (zpg_wf hG).1.2.1
  refine k_refresh hG hL hA hd (fun M1 f1 d1 s1 => n_sheets d1 h6 (n_page hG d1 hp ⟨⟨by omega, by omega⟩, ?_⟩))
  rw [(d1.2.2.2.1.2.2.2.2.2.1 p1 hp.1 hp.2).2.2]
  exact hK M1 (h'.r f1 d1) (zSm.of f1)
theorem n_used (h : Iv T O κ M) (h6 : zpg T 0 6 = 0) (hp : 0 ≤ p1 ∧ p1 < zpg T 0 1) (hK : ∀ M', Iv T O κ M' → zSm M M' → Qm (zus T (zpg T) p1) M') : wo_X9_used p1 M Qm := by
  have h' := h
  obtain ⟨hG, hL, hA, -, -, -, hd, -⟩ := h
  have hN := (zpg_wf hG).1.2.1
  refine k_refresh hG hL hA hd (fun M1 f1 d1 s1 => n_sheets d1 h6 (n_page hG d1 hp ⟨⟨by omega, by omega⟩, ?_⟩))
  rw [(d1.2.2.2.1.2.2.2.2.2.1 p1 hp.1 hp.2).2.1]
  exact hK M1 (h'.r f1 d1) (zSm.of f1)
theorem n_pageOf (h : Iv T O κ M) (h6 : zpg T 0 6 = 0) (hp : 0 ≤ p1 ∧ p1 < T 11 0 8) (hb : T 60 0 p1 = 1) (hK : ∀ M', Iv T O κ M' → zSm M M' → Qm (zpg T 7 p1) M') : wo_X9_pageOf p1 M Qm := by
  have h' := h
  obtain ⟨hG, hL, hA, -, -, -, hd, -⟩ := h
  have hR := hG.nR
  refine k_hasRow hG hL hA (fun _ => ⟨fun _ => ?_, fun z => absurd z (by decide)⟩) (fun z => absurd hp z)
  refine k_isBodyRow hG hL hA (fun _ => ⟨fun _ => ?_, fun z => absurd z (by decide)⟩) (fun z => absurd ⟨hp.1, hp.2, hb⟩ z)
  refine k_refresh hG hL hA hd (fun M1 f1 d1 s1 => n_sheets d1 h6 ⟨⟨by omega, by omega⟩, ?_⟩)
  obtain ⟨hm0, hm1, em⟩ := zbo_of hG hp.1 hp.2 hb
  obtain ⟨k, ⟨k0, k1⟩, k2, k3, k4⟩ := zfirst hG h6 hm0 hm1
  rw [em] at k2 k4
  rw [d1.2.2.2.1.2.2.2.2.2.2 p1 k hp.1 (by omega) k0 k1 k2 k3]
  exact hK M1 (h'.r f1 d1) (zSm.of f1)
theorem n_linesOn (h : Iv T O κ M) (h6 : zpg T 0 6 = 0) (hp : 0 ≤ p1 ∧ p1 < T 11 0 8) (hb : T 60 0 p1 = 1) (hz : 0 ≤ p2) (hK : ∀ M', Iv T O κ M' → zSm M M' → Qm (zlat (zpg T) p1 p2) M') : wo_X9_linesOn p1 p2 M Qm := by
  have h' := h
  obtain ⟨hG, hL, hA, -, -, -, hd, -⟩ := h
  have hR := hG.nR
  have W := (zpg_wf hG).1
  have hN := W.2.1
  refine k_hasRow hG hL hA (fun _ => ⟨fun _ => ?_, fun z => absurd z (by decide)⟩) (fun z => absurd hp z)
  refine k_isBodyRow hG hL hA (fun _ => ⟨fun z => absurd z (by decide), fun _ => ⟨fun _ => ?_, fun z => absurd z (by omega)⟩⟩) (fun z => absurd ⟨hp.1, hp.2, hb⟩ z)
  refine k_refresh hG hL hA hd (fun M1 f1 d1 s1 => n_sheets d1 h6 ?_)
  have hW := zDR.pw hG h6
  have hl : ∀ k, 0 ≤ k → k < zpg T 0 0 → 1 ≤ zpg T 4 k ∧ zpg T 4 k ≤ 300 := fun k a b => (hW.2.2.2.2.2.2.1 k a b).2.1
  have hbg := zbg_r W hz
  refine k_begin0 hG d1 hz (k_pieceEndOf d1.cs.1 ⟨hN.1, by omega⟩ hz (k_linesOfItem W.1 hl (zpg_cd hG) d1.cs hp.1 (by omega) hbg.1 hbg.2.2 ?_))
  rw [← zlat_lb W hz]
  exact hK M1 (h'.r f1 d1) (zSm.of f1)
theorem n_carried (h : Iv T O κ M) (h6 : zpg T 0 6 = 0) (hp : 0 ≤ p1 ∧ p1 < zpg T 0 1) (hc : 0 ≤ p2 ∧ p2 < T 11 0 4) (hK : ∀ M', Iv T O κ M' → zSm M M' → Qm (zcar T (zpg T) p1 p2) M') : wo_X9_carried p1 p2 M Qm := by
  have h' := h
  obtain ⟨hG, hL, hA, -, -, -, hd, -⟩ := h
  have hC := hG.nC
  have hN := (zpg_wf hG).1.2.1
  refine k_hasColumn hG hL hA (fun _ => ⟨fun _ => ?_, fun z => absurd z (by decide)⟩) (fun z => absurd hc z)
  refine k_refresh hG hL hA hd (fun M1 f1 d1 s1 => n_sheets d1 h6 (n_page hG d1 hp ?_))
  refine k_carriedOut d1.n (by omega) hc.1 (by omega) (fun _ => ?_) (fun z => absurd hp z)
  rw [d1.2.2.2.2 p1 p2 hp.1 hp.2 hc.1 (by omega)]
  exact hK M1 (h'.r f1 d1) (zSm.of f1)
theorem n_total (h : Iv T O κ M) (hc : 0 ≤ p1 ∧ p1 < T 11 0 4) (hK : Qm (zS (zfb T p1) 0 (T 64 0 1)) M) : wo_X9_total p1 M Qm := by
  obtain ⟨hG, hL, hA, -⟩ := h
  have hC := hG.nC
  have hm := hG.many (p := 1) (by omega) (by omega)
  have e16 := hA.s16
  have n16 : T 16 0 (-1) = T 64 0 1 := (hL.part (p := 1) (by omega) (by omega)).1
  refine k_hasColumn hG hL hA (fun _ => ⟨fun _ => ?_, fun z => absurd z (by decide)⟩) (fun z => absurd hc z)
  dsimp only
  rw [e16, n16]
  exact k_sumOfBody hG hL hA hc.1 (by omega) (by omega) (by omega) (Int.le_refl _) hK
theorem n_look (h : Iv T O κ M) (hK : ∀ M2 : Mem, zKO (zkeep T (zpg T)) M2 → zDR T M2 → (∀ (s : Nat) (j k : Int), ¬ (zRF s j k ∨ (j = 1 ∧ (s = 7 ∨ (38 ≤ s ∧ s ≤ 44)))) → M2 s j k = M s j k) → Qm (zlk T (zpg T) O (min (zpg T 0 1) (O 0 1))) M2) : wp_X9_look M Qm := by
  obtain ⟨hG, hL, hA, hO, hR, hk, hd, hp, hw, hb⟩ := h
  refine k_refresh hG hL hA hd (fun M1 f1 d1 s1 => ?_)
  have K1 : zKO O M1 := hk.fr (fun s k a => f1 s 1 k (by simp only [zRF, zCP]; omega))
  refine k_countDifferencesTo hG d1 hO K1 (zkeep_ko hG d1 (fun M2 f2 K2 => ?_))
  refine hK M2 K2 (d1.fr (fun s k a => f2 s 0 k (by omega))) (fun s j k z => ?_)
  rw [f2 s j k (fun y => z (Or.inr y)), f1 s j k (fun y => z (Or.inl y))]
end NA
