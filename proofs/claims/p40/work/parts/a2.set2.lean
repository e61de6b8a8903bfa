/-! the class's calls as this law asks them: what is shown, borders, hiding, sorting -/
theorem up_cg {N M : Mem} {a : Nat} {b c v : Int} {s : Nat} {j k : Int} (h : N s j k = M s j k) : up N a b c v s j k = up M a b c v s j k := by rw [up_at, up_at, h]
section NC
variable {T M T' : Mem} {O : zSt} {κ : Nat → Int} {p1 p2 p3 p4 : Int} {Qm : Int → Mem → Prop}
theorem n_shown (h : Iv T O κ M) (h6 : zpg T 0 6 = 0) (hp : 0 ≤ p1 ∧ p1 < T 11 0 15) (hb : T 60 0 (T 65 0 p1) = 1) (hz : 0 ≤ p2) (hpp : p2 < zpg T 0 1) (hK : ∀ M', Iv T O κ M' → zSm M M' → Qm (if zRq T p1 p2 ≤ zAq T p1 p2 then zRq T p1 p2 else zAq T p1 p2) M') : wo_X9_shown p1 p2 M Qm := by
  have h' := h
  obtain ⟨hG, hL, hA, -, -, -, hd, -⟩ := h
  have hR := hG.nR
  have hKn := hG.nK
  have W := (zpg_wf hG).1
  have hN := W.2.1
  have e14 := hA.s14
  have e1 := hA.s1
  have e6 := hA.s6
  have n14 := hL.n.2.2
  refine k_hasCell hG hL hA (fun hp => ⟨fun _ => ?_, fun z => absurd z (by decide)⟩) (fun z => absurd hp z)
  obtain ⟨l0, l1, l2, -⟩ := hL.cell hp.1 hp.2
  obtain ⟨w1, w2, w3, w4, w5, -⟩ := hG.cell p1 hp.1 hp.2
  obtain ⟨-, r1', r2', -⟩ := hL.row w1.1 w1.2
  rw [e14, e1, e6, n14, l0, l1, r2']
  refine ⟨hp, fun z => absurd hb z, fun _ => ⟨fun _ => ?_, fun z => absurd z (by omega)⟩⟩
  refine k_refresh hG hL hA hd (fun M1 f1 d1 s1 => n_sheets d1 h6 ?_)
  have hW := zDR.pw hG h6
  have hl : ∀ k, 0 ≤ k → k < zpg T 0 0 → 1 ≤ zpg T 4 k ∧ zpg T 4 k ≤ 300 := fun k a b => (hW.2.2.2.2.2.2.1 k a b).2.1
  have hbg := zbg_r W hz
  have hA0 := f1.ag hA zRF_in
  have hlw := zlinesW_r hG (zwid_r hG) hp.1 hp.2
  have eAh : zS (fun i => zlb (zpg T) (zbo T i) 0 (zbg (zpg T) p2)) (T 6 (T 65 0 p1) 6) (T 6 (T 65 0 p1) 6 + T 67 0 p1) = zS (zAq T p1) 0 p2 := by
    refine (zS_congr (fun i _ _ => (zlb_sum W (zbo T i) hz).symm)).trans ?_
    exact zS_comm (fun i q => zlat (zpg T) (zbo T i) q) (by omega) hz
  have eHr : zS (fun i => zlb (zpg T) (zbo T i) (zbg (zpg T) p2) (zend (zpg T) p2)) (T 6 (T 65 0 p1) 6) (T 6 (T 65 0 p1) 6 + T 67 0 p1) = zAq T p1 p2 := zS_congr (fun i _ _ => (zlat_lb W hz).symm)
  have rAh := zS_bd (f := fun i => zlb (zpg T) (zbo T i) 0 (zbg (zpg T) p2)) (a := T 6 (T 65 0 p1) 6) (b := T 6 (T 65 0 p1) 6 + T 67 0 p1) 0 270300 (by omega) (fun i _ _ => zlb_r hl W.1.2 (Int.le_refl 0) (by omega))
  have rHr := zS_bd (f := fun i => zlb (zpg T) (zbo T i) (zbg (zpg T) p2) (zend (zpg T) p2)) (a := T 6 (T 65 0 p1) 6) (b := T 6 (T 65 0 p1) 6 + T 67 0 p1) 0 270300 (by omega) (fun i _ _ => zlb_r hl W.1.2 hbg.1 hbg.2.2)
  rw [eAh] at rAh
  rw [eHr] at rHr
  refine k_begin0 hG d1 hz (k_linesOfRowsOf hG hL hA0 d1 hl hp.1 hp.2 hb (Int.le_refl 0) (by omega) (k_pieceEndOf d1.cs.1 ⟨hN.1, by omega⟩ hz (k_linesOfRowsOf hG hL hA0 d1 hl hp.1 hp.2 hb hbg.1 hbg.2.2 ?_)))
  rw [eAh, eHr, d1.2.1 p1 hp.1 hp.2]
  refine ⟨⟨by omega, by omega⟩, ⟨by omega, by omega⟩, ?_⟩
  have ev : max 0 (min (zAq T p1 p2) (zlinesW T (zwid T) p1 - zS (zAq T p1) 0 p2)) = (if zRq T p1 p2 ≤ zAq T p1 p2 then zRq T p1 p2 else zAq T p1 p2) := by
    unfold zRq
    split <;> omega
  rw [ev]
  exact hK M1 (h'.r f1 d1) (zSm.of f1)
theorem cbc_eq {Xm : String → Mem → Prop} : ∀ n, wp_X9_carriedByCells_23 p1 p2 Xm Qm n = wo_X9_carriedByCells_23 p1 p2 Qm n
  | 0 => rfl
  | n + 1 => by
    have ih := cbc_eq (Xm := Xm) n
    unfold wp_X9_carriedByCells_23 wo_X9_carriedByCells_23
    rw [ih]
    rfl
theorem n_carriedByCells (h : Iv T O κ M) (h6 : zpg T 0 6 = 0) (hp : 0 ≤ p1 ∧ p1 < zpg T 0 1) (hc : 0 ≤ p2 ∧ p2 < T 11 0 4) (hK : ∀ M', Iv T O κ M' → zSm M M' → Qm (zcar T (zpg T) p1 p2) M') : wo_X9_carriedByCells p1 p2 M Qm := by
  have h' := h
  obtain ⟨hG, hL, hA, -, -, -, hd, -⟩ := h
  have hC := hG.nC
  refine k_hasColumn hG hL hA (fun _ => ⟨fun _ => ?_, fun z => absurd z (by decide)⟩) (fun z => absurd hc z)
  refine k_refresh hG hL hA hd (fun M1 f1 d1 s1 => n_sheets d1 h6 (n_page hG d1 hp ?_))
  obtain ⟨n, hn⟩ := k_cbc (Xm := fun _ _ => False) (Qm := Qm) hG hL (f1.ag hA zRF_in) d1 h6 (p := p1) hc.1 hc.2 (hK M1 (h'.r f1 d1) (zSm.of f1))
  rw [cbc_eq] at hn
  exact ⟨n, hn⟩
theorem n_edge (h : Iv T O κ M) (hp : 0 ≤ p1 ∧ p1 < T 11 0 8) (hk : 0 ≤ p2 ∧ p2 < T 11 0 4) (s0 : 0 ≤ p3) (s1 : p3 ≤ 3) (hv : T 59 0 p2 = 0) (hU : (p3 = 1 ∨ p3 = 3) → ∀ nc, zNC T p2 (if p3 = 3 then -1 else 1) nc → Qm (zedge T M p1 p2 p3 0 p1 nc) M) (hD : (p3 = 0 ∨ p3 = 2) → Qm (zedge T M p1 p2 p3 1 (zRA T (zoff T (T 60 0 p1) + T 6 p1 6 + (if p3 = 0 then -1 else 1))) p2) M) : wo_X9_edge p1 p2 p3 M Qm := by
  have h' := h
  obtain ⟨hG, hL, hA, -, -, -, -, -, -, hB⟩ := h
  have hC := hG.nC
  have hR := hG.nR
  refine k_hasRow hG hL hA (fun hp => ⟨fun _ => ?_, fun z => absurd z (by decide)⟩) (fun z => absurd hp z)
  refine k_hasColumn hG hL hA (fun hk => ⟨fun _ => ?_, fun z => absurd z (by decide)⟩) (fun z => absurd hk z)
  refine ⟨fun z => absurd z (by omega), fun _ => ⟨fun _ => ?_, fun z => absurd z (by omega)⟩⟩
  refine k_isShown hG hL hA (fun _ => ⟨fun _ => ?_, fun z => absurd z (by decide)⟩) (fun z => absurd ⟨hk.1, hk.2, hv⟩ z)
  by_cases hu : p3 = 1 ∨ p3 = 3
  · have e1 : (if p3 = 1 then (1 : Int) else (if ¬ p3 = 3 then (0 : Int) else 1)) = 1 := by
      by_cases z : p3 = 1
      · rw [if_pos z]
      · rw [if_neg z, if_neg (by omega)]
    have est : (if p3 = 0 then ((-1) : Int) else (if ¬ p3 = 3 then (1 : Int) else (-1))) = (if p3 = 3 then -1 else 1) := by
      rcases hu with rfl | rfl <;> rfl
    have hst : (if p3 = 3 then (-1 : Int) else 1) = 1 ∨ (if p3 = 3 then (-1 : Int) else 1) = -1 := by
      split
      · exact Or.inr rfl
      · exact Or.inl rfl
    rw [e1, est]
    refine ⟨fun z => absurd z (by decide), fun _ => ⟨fun z => absurd z (by decide), fun _ => k_columnBeside hG hL hA hst hk.1 hk.2 (fun nc hnc => ?_)⟩⟩
    exact k_edge166 (Xm := fun _ _ => False) (y := 1) hG hL hA hB hp hk s0 (by omega) (Or.inr hp) (zNC_r hnc) (hU hu nc hnc)
  · have e1 : (if p3 = 1 then (1 : Int) else (if ¬ p3 = 3 then (0 : Int) else 1)) = 0 := by
      rw [if_neg (by omega), if_pos (by omega)]
    have est : (if p3 = 0 then ((-1) : Int) else (if ¬ p3 = 3 then (1 : Int) else (-1))) = (if p3 = 0 then -1 else 1) := by
      rcases (by omega : p3 = 0 ∨ p3 = 2) with rfl | rfl <;> rfl
    have hst : (if p3 = 0 then (-1 : Int) else 1) = 1 ∨ (if p3 = 0 then (-1 : Int) else 1) = -1 := by
      split
      · exact Or.inr rfl
      · exact Or.inl rfl
    rw [e1, est]
    refine ⟨fun _ => k_rowBeside hG hL hA hst hp.1 hp.2 ⟨fun _ => ?_, fun z => absurd rfl z⟩, fun z => absurd rfl z⟩
    exact k_edge166 (Xm := fun _ _ => False) (y := 0) hG hL hA hB hp hk s0 (by omega) (zRA_r hG _) (Or.inr hk) (hD (by omega))
theorem n_border (h : Iv T O κ M) (hs : zSide p1 p3) (hh : zHas T p1 p2) (w0 : 0 ≤ p4) (w5 : p4 ≤ 5) {Qf : Int → Mem → Prop} (hK : ∀ M', Iv T O κ M' → (∀ s : Nat, 104 ≤ s → M' s = M s) → (∀ (s : Nat) (j k : Int), ((77 ≤ s ∧ s ≤ 79) ∨ (s = 11 ∧ k = 30)) → M' s j k = zPutR M p1 p2 p3 p4 s j k) → Qf (zHad T M p1 p2 p3) M') : wo_X9_border p1 p2 p3 p4 M (fun x M1 => ∃ M2, Gh M1 M2 ∧ Qf x M2) := by
  have h' := h
  obtain ⟨hG, hL, hA, -, -, -, -, -, -, hB⟩ := h
  have hs' := hs
  unfold zSide at hs'
  refine k_hasSide (fun _ => ⟨fun z => absurd z (by decide), fun _ => ⟨fun z => absurd z (by omega), fun _ => ⟨fun _ => ?_, fun z => absurd z (by omega)⟩⟩⟩) (fun z => absurd hs z)
  refine k_hasBordered hG hL hA (by omega) (by omega) (fun hh => ⟨fun _ => k_setWeight hG hL hA hB hs hh ?_, fun z => absurd z (by decide)⟩) (fun z => absurd hh z)
  have fC : Fj zBQ M (zPutC M p1 p2 p3 p4) := zPutC_f (Fj.rf _ _) _ _ _ _
  have fr : Fj zBQ M (up (zPutC M p1 p2 p3 p4) 103 0 0 0) := fC.up (by unfold zBQ; omega)
  have f0 : Fj zBQ M (up (up (zPutC M p1 p2 p3 p4) 103 0 0 0) 11 0 59 0) := fr.up (by unfold zBQ; omega)
  have f2 := f0.tr (zPutR_f (Fj.rf _ _) p1 p2 p3 p4)
  have g0 : Gh (zPutC M p1 p2 p3 p4) (up (up (zPutC M p1 p2 p3 p4) 103 0 0 0) 11 0 59 0) := (Gh.rf.up (Or.inr (by decide)) ⟨by decide, by decide⟩).up (Or.inl rfl) ⟨by decide, by decide⟩
  refine ⟨zPutR (up (up (zPutC M p1 p2 p3 p4) 103 0 0 0) 11 0 59 0) p1 p2 p3 p4, ?_, hK _ (h'.b f2 (zput_br hG hB hs hh w0 w5 _ _)) (fun s hs => funext fun j => funext fun k => f2 s j k (by unfold zBQ; omega)) (fun s j k hsk => ?_)⟩
  · unfold zPutR
    split
    · exact g0.up (Or.inr (by decide)) ⟨by omega, by omega⟩
    · split
      · exact g0.up (Or.inr (by decide)) ⟨by omega, by omega⟩
      · split
        · exact g0.up (Or.inr (by decide)) ⟨by omega, by omega⟩
        · exact g0.up (Or.inl rfl) ⟨by omega, by omega⟩
  · have e : ∀ (q : Nat) (j k : Int), ((77 ≤ q ∧ q ≤ 79) ∨ (q = 11 ∧ k = 30)) → up (up (zPutC M p1 p2 p3 p4) 103 0 0 0) 11 0 59 0 q j k = M q j k := fun q j k z => by
      rw [up_at, if_neg (by omega), up_at, if_neg (by omega)]
      unfold zPutC
      split
      · rw [up_at, if_neg (by omega)]
      · split
        · rw [up_at, if_neg (by omega)]
        · split
          · rw [up_at, if_neg (by omega)]
          · rw [up_at, if_neg (by omega)]
    unfold zPutR
    split
    · exact up_cg (e s j k hsk)
    · split
      · exact up_cg (e s j k hsk)
      · split
        · exact up_cg (e s j k hsk)
        · exact up_cg (e s j k hsk)
theorem n_hide (h : Iv T O κ M) (hp : 0 ≤ p1 ∧ p1 < T 11 0 4) {Qf : Int → Mem → Prop} (hK : ¬ (T 59 0 p1 = 0 ∧ zvis T = 1) → ∀ T' M', Iv T' O κ M' → zSm M M' → (∀ k, T' 59 0 k = if k = p1 then 1 - T 59 0 p1 else T 59 0 k) → (∀ s : Nat, s ≠ 33 → s ≠ 1 → s ≠ 59 → T' s = T s) → Qf (1 - T 59 0 p1) M') (hX : (T 59 0 p1 = 0 ∧ zvis T = 1) → Qf (-7) M) : wp_L_hid p1 M (fun x M1 => ∃ M2, Gh M1 M2 ∧ Qf x M2) := by
  have h' := h
  obtain ⟨hG, hL, hA, -, -, -, -, -, hw, -⟩ := h
  have hC := hG.nC
  refine k_hasColumn hG hL hA (fun hp => ⟨fun _ => ?_, fun z => absurd z (by decide)⟩) (fun z => absurd hp z)
  have hc59 := (hG.col p1 hp.1 hp.2).2.2.2
  have go : (T 59 0 p1 = 0 → ¬ zvis T = 1) → ∀ M5, M5 = up M 10 0 10 1 → wp_X3_hideOrShow p1 M5 (fun x8 M7 => bit x8 ∧ ((x8 = 0 → ∃ M2, Gh M7 M2 ∧ Qf 0 M2) ∧ (¬ x8 = 0 → ∃ M2, Gh M7 M2 ∧ Qf 1 M2))) := by
    intro hvis M5 m5
    have hA5 : Ag T M5 := by rw [m5]; exact hA.up rfl
    have x33 := hA5.s33
    obtain ⟨nf, hnf⟩ : ∃ nf : Int, nf = 1 - T 59 0 p1 := ⟨_, rfl⟩
    have hnf01 : nf = 0 ∨ nf = 1 := by omega
    have hsp : T 33 0 p1 = zsh T p1 := by rw [hL.shn hp.1 (by omega), if_pos hp.2]
    have ev : (if ¬ M5 33 0 p1 = 0 then (0 : Int) else 1) = 1 - nf := by
      rw [x33, hsp, hnf]
      unfold zsh
      by_cases z : T 59 0 p1 = 0
      · rw [if_pos z, if_pos (by decide)]; omega
      · rw [if_neg z, if_neg (by decide)]; omega
    refine d_hideOrShow hG hL hA5 hp.1 hp.2 (v := 1 - nf) ev.symm (w := fun k => if k = p1 then 1 - nf else T 33 0 k) (fun k k0 k1 => ?_) (fun N fN dN => ?_)
    · show up M5 33 0 p1 (1 - nf) 33 0 k = (if k = p1 then 1 - nf else T 33 0 k) ∧ ((if k = p1 then 1 - nf else T 33 0 k) = 0 ∨ (if k = p1 then 1 - nf else T 33 0 k) = 1)
      by_cases e : k = p1
      · rw [if_pos e, e, up_eq]; exact ⟨rfl, by omega⟩
      · rw [if_neg e, up_k _ _ _ _ _ _ e, x33, hL.shn k0 k1]
        refine ⟨rfl, ?_⟩
        have := zsh_r T k
        split <;> omega
    · have er : (if ¬ (fun k => if k = p1 then 1 - nf else T 33 0 k) p1 = 0 then (0 : Int) else 1) = nf := by
        show (if ¬ (if p1 = p1 then 1 - nf else T 33 0 p1) = 0 then (0 : Int) else 1) = nf
        rw [if_pos rfl]
        split <;> omega
      rw [er]
      refine ⟨hnf01, ?_⟩
      have fin : ∃ M2, Gh N M2 ∧ Qf nf M2 := by
        obtain ⟨T1, eT1⟩ : ∃ T1 : Mem, T1 = fun s j k => if s = 33 ∨ s = 1 then N s j k else T s j k := ⟨_, rfl⟩
        have d1 : ∀ s : Nat, s ≠ 33 → s ≠ 1 → T1 s = T s := fun s x y => by
          rw [eT1]; exact funext fun j => funext fun k => if_neg (by omega)
        have hA1 : Ag T1 N := by
          intro s j k z
          by_cases e : s = 33 ∨ s = 1
          · rw [eT1]; exact (if_pos e).symm
          · rw [d1 s (by omega) (by omega), fN s j k (by omega), up_s _ _ _ _ (by omega)]
            exact hA5 s j k z
        obtain ⟨M14, m14⟩ : ∃ z, z = up N 59 0 p1 nf := ⟨_, rfl⟩
        refine ⟨M14, by rw [m14]; exact Gh.rf.up (Or.inr (by decide)) ⟨by omega, by omega⟩, ?_⟩
        obtain ⟨T', eT⟩ : ∃ T', T' = up T1 59 0 p1 nf := ⟨_, rfl⟩
        have hA' : Ag T' M14 := by rw [eT, m14]; exact ag_up2 hA1 _ _ _ _
        have dF : ∀ s : Nat, s ≠ 33 → s ≠ 1 → s ≠ 59 → T' s = T s := fun s x y z => by rw [eT, up_f _ _ _ _ z]; exact d1 s x y
        have d59 : ∀ k, T' 59 0 k = if k = p1 then nf else T 59 0 k := fun k => by
          by_cases e : k = p1
          · rw [if_pos e, e, eT, up_eq]
          · rw [if_neg e, eT, up_k _ _ _ _ _ _ e, d1 59 (by decide) (by decide)]
        have u1 : ∀ c k, T' 1 c k = N 1 c k := fun c k => by rw [eT, up_s _ _ _ _ (by decide), eT1]; exact if_pos (Or.inr rfl)
        have u33 : ∀ k, T' 33 0 k = if k = p1 then 1 - nf else T 33 0 k := fun k => by
          have a : T' 33 0 k = N 33 0 k := by rw [eT, up_s _ _ _ _ (by decide), eT1]; exact if_pos (Or.inl rfl)
          rw [a, fN 33 0 k (by omega)]
          by_cases e : k = p1
          · rw [if_pos e, e, up_eq]
          · rw [if_neg e, up_k _ _ _ _ _ _ e, x33]
        have x1 := hA5.s1
        obtain ⟨hG', hL'⟩ := zput_hide (T' := T') hG hL hp.1 hp.2 hnf01 dF d59 u33 (fun c k hk => by rw [u1, fN 1 c k (by omega), up_s _ _ _ _ (by decide), x1]) (fun c c0 c1 => by
          rw [u1, dN c c0 c1]
          unfold zshows
          rw [dF 66 (by decide) (by decide) (by decide), dF 68 (by decide) (by decide) (by decide)]
          have hcc := hG.cell c c0 c1
          refine zS_congr (fun k k0 k1 => ?_)
          have kC : k < T 11 0 4 := by have := hcc.2.2.2.1; omega
          have k00 : 0 ≤ k := by have := hcc.2.1; omega
          show (if k = p1 then 1 - nf else T 33 0 k) = zsh T' k
          unfold zsh
          rw [d59]
          by_cases e : k = p1
          · rw [if_pos e, if_pos e]
            rcases hnf01 with z | z <;> rw [z] <;> rfl
          · rw [if_neg e, if_neg e, hL.shn k00 (by omega), if_pos kC]
            rfl) (by
          by_cases z : T 59 0 p1 = 0
          · obtain ⟨k, k0, k1, k2, k3⟩ := zvis_other hG hp.1 hp.2 z (hvis z)
            exact ⟨k, k0, k1, by rw [d59, if_neg k2]; exact k3⟩
          · exact ⟨p1, hp.1, hp.2, by rw [d59, if_pos rfl, hnf]; omega⟩)
        have hfr : ∀ s j k, zKeep s j k → M14 s j k = M s j k := fun s j k z => by
          unfold zKeep at z
          rw [m14, up_at, if_neg (by omega), fN s j k (by omega), up_at, if_neg (by omega), m5, up_at, if_neg (by omega)]
        rw [hnf]
        refine hK (fun z => hvis z.1 z.2) T' M14 (h'.st2 (dF 11 (by decide) (by decide) (by decide)) (fun s a b => dF s (by omega) (by omega) (by omega)) hG' hL' hA' ?_ (fun s j k z => hfr s j k (by unfold zKeep; omega)) ?_) (zSm.kp hfr) (by rw [← hnf]; exact d59) dF
        · unfold zNW at hw ⊢
          rw [dF 11 (by decide) (by decide) (by decide), dF 72 (by decide) (by decide) (by decide), dF 73 (by decide) (by decide) (by decide), dF 74 (by decide) (by decide) (by decide), dF 75 (by decide) (by decide) (by decide), dF 76 (by decide) (by decide) (by decide), dF 69 (by decide) (by decide) (by decide)]
          exact hw
        · rw [m14, up_s _ _ _ _ (by decide), fN 10 0 10 (by omega), up_s _ _ _ _ (by decide), m5, up_eq]
          decide
      refine ⟨fun z => ?_, fun z => ?_⟩
      · rw [z] at fin; exact fin
      · rw [show nf = 1 by omega] at fin; exact fin
  refine k_isShown hG hL hA (fun hs => ⟨fun z => absurd z (by decide), fun _ => k_countShownColumns hG hL hA ⟨fun hne => go (fun _ => hne), fun he => ⟨rfl, M, Gh.rf, hX ⟨hs.2.2, he⟩⟩⟩⟩) (fun hs => ⟨fun _ => go (fun z => absurd ⟨hp.1, hp.2, z⟩ hs), fun z => absurd rfl z⟩)
theorem n_sort (h : Iv T O κ M) (hc : 0 ≤ p1 ∧ p1 < T 11 0 4) {Qf : Int → Mem → Prop} (hK : (∀ c, 0 ≤ c → c < T 11 0 15 → T 60 0 (T 65 0 c) = 1 → T 67 0 c ≤ 1) → ∀ F, Iv F O κ F → zSm M F → (∀ i, 0 ≤ i → i < T 64 0 1 → F 63 0 (24 + i) = zsrt T p1 p2 (max 1 (T 64 0 1)) i) → (∀ i, 0 ≤ i → i < T 64 0 1 → F 6 (zsrt T p1 p2 (max 1 (T 64 0 1)) i) 6 = i) → (∀ r, ¬ T 60 0 r = 1 → F 6 r 6 = T 6 r 6) → (∀ (s : Nat) (j k : Int), zin s k = true → ¬ zSQ s j k → F s j k = T s j k) → Qf (zmvd T p1 p2 (T 64 0 1)) F) (hX : (∃ c, (0 ≤ c ∧ c < T 11 0 15) ∧ T 60 0 (T 65 0 c) = 1 ∧ 1 < T 67 0 c) → Qf (-7) M) : wp_L_sorted p1 p2 M (fun x M1 => ∃ M2, Gh M1 M2 ∧ Qf x M2) := by
  have h' := h
  obtain ⟨hG, hL, hA, -, -, -, -, hp, hw, -⟩ := h
  have e16 := hA.s16
  have e63 := hA.s63
  have e6 := hA.s6
  have hRn := hG.nR
  refine k_hasColumn hG hL hA (fun hc => ⟨fun _ => ?_, fun z => absurd z (by decide)⟩) (fun z => absurd hc z)
  refine k_hasSeveral hG hL hA (fun hs => ⟨fun z => absurd z (by decide), fun _ => ⟨rfl, M, Gh.rf, hX hs⟩⟩) (fun hs => ⟨fun _ => ?_, fun z => absurd rfl z⟩)
  intro M5 m5
  have hA5 : Ag T M5 := by rw [m5]; exact hA.up rfl
  have h5 : ∀ i, 0 ≤ i → i < T 64 0 1 → M5 16 0 i = T 63 0 (24 + i) := fun i i0 i1 => by
    have := (hL.part (p := 1) (by omega) (by omega)).2 i i0 i1
    have this : T 16 0 i = T 63 0 (24 * 1 + i) := this
    rw [m5, up_s _ _ _ _ (by decide), e16, this, show (24 : Int) * 1 + i = 24 + i by omega]
  refine k_putBodyInOrder (f := p2) hG hL hA5.ah hc.1 hc.2 h5 (fun M7 f7 d7 => ?_)
  refine k_numberBodyAnew (p := p1) (f := p2) hG hL (hA5.ah.z16 f7) (fun r => ?_) d7 (fun M8 f8 d8 n8 => ?_)
  · rw [f7 6 r 6 (fun z => absurd z.1 (by decide)), m5, up_s _ _ _ _ (by decide), e6]
  · have g0 : Fj zSQ M M5 := by rw [m5]; exact (Fj.rf _ _).up (by unfold zSQ; omega)
    have g7 : Fj zSQ M M7 := g0.tr (f7.mono (fun s j k z => by unfold zZ16 at z; unfold zSQ; omega))
    have g8 : Fj zSQ M M8 := g7.tr (f8.mono (fun s j k z => by unfold zSQ; omega))
    have hP := zPm_srt hG p1 p2 (n := max 1 (T 64 0 1)) (by omega) (Int.le_refl _)
    have hm1 := hG.many (p := 1) (by omega) (by omega)
    obtain ⟨F, eF⟩ : ∃ F : Mem, F = fun s j k => if s = 63 ∧ j = 0 ∧ 24 ≤ k ∧ k < 24 + T 64 0 1 then zsrt T p1 p2 (max 1 (T 64 0 1)) (k - 24) else M8 s j k := ⟨_, rfl⟩
    have gF : Fj zSQ M F := fun s j k z => by
      rw [eF]
      exact (if_neg (fun y => z (by unfold zSQ; omega))).trans (g8 s j k z)
    have back : ∀ (s : Nat) (j k : Int), s ≠ 63 → F s j k = M8 s j k := fun s j k z => by
      rw [eF]
      exact if_neg (fun y => z y.1)
    have d63 : ∀ i, 0 ≤ i → i < T 64 0 1 → F 63 0 (24 + i) = zsrt T p1 p2 (max 1 (T 64 0 1)) i := fun i i0 i1 => by
      rw [eF]
      refine (if_pos ⟨rfl, rfl, by omega, by omega⟩).trans ?_
      rw [show 24 + i - 24 = i by omega]
    have d6 : ∀ i, 0 ≤ i → i < T 64 0 1 → F 6 (zsrt T p1 p2 (max 1 (T 64 0 1)) i) 6 = i := fun i i0 i1 => by
      rw [back 6 _ 6 (by decide)]; exact d8 i i0 i1
    have n6 : ∀ r, ¬ T 60 0 r = 1 → F 6 r 6 = T 6 r 6 := fun r hr => by rw [back 6 r 6 (by decide)]; exact n8 r hr
    obtain ⟨ec, hG', hL', hp', hw'⟩ := zsort_good (F := F) hG hL hA hp hw gF hP (fun i i0 i1 => by
      rw [back 16 0 i (by decide), f8 16 0 i (fun z => absurd z.1 (by decide))]; exact d7 i i0 i1) d63 d6 n6 hs
    refine ⟨F, fun s j k => ?_, hK hs F (h'.nx ec hG' hL' (Ag.rf F) hp' hw' (fun s j k z => gF s j k (by unfold zSQ; omega)) ?_) (zSm.kp (fun s j k z => gF s j k (by unfold zKeep at z; unfold zSQ; omega))) d63 d6 n6 (fun s j k a b => (gF s j k b).trans (hA s j k a))⟩
    · by_cases z : s = 63 ∧ j = 0 ∧ 24 ≤ k ∧ k < 24 + T 64 0 1
      · refine Or.inr ⟨Or.inr (by omega), ?_⟩
        rw [eF]
        show inR (if _ then _ else _)
        rw [if_pos z]
        have := (hP.1 (k - 24) (by omega) (by omega)).1
        exact ⟨by omega, by omega⟩
      · rw [eF]
        exact Or.inl (if_neg z)
    · rw [back 10 0 10 (by decide), f8 10 0 10 (fun z => absurd z.1 (by decide)), f7 10 0 10 (fun z => absurd z.1 (by decide)), m5, up_eq]
      decide
end NC
