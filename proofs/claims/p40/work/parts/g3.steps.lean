/-! the law: its steps, whole -/
section GC
variable {T M : Mem} {O : zSt} {κ : Nat → Int} {Qm : Int → Prop} {K237 : (Nat → Int) → Int → Int → Mem → Prop} {y13 y14 : Int}
theorem Iv.k6 (h : Iv T O κ M) : κ 6 = T 11 0 8 := h.2.2.2.2.2.2.2.1.1.2.2
theorem Iv.br (h : Iv T O κ M) : zBR T M := h.2.2.2.2.2.2.2.2.2
/-- the edges of one place -/
theorem j_h620 (B0 : zBn T O κ M) {pl co : Int} (p0 : 0 ≤ pl) (p1 : pl < T 11 0 8) (c0 : 0 ≤ co) (c1 : co < T 11 0 4) (hq : ∀ M', zBn T O κ M' → wp_L_holds_691 Qm K237 κ 1 y13 M') : ∃ n, wp_L_holds_620 Qm K237 n κ 1 y13 pl co 0 M := by
  have hG := B0.1.1
  have hn := B0.2.1.n
  unfold lwN at hn
  refine zLoop (σ := Mem) (fun n k s => wp_L_holds_620 Qm K237 n κ 1 y13 pl co k s) (fun k s => zBn T O κ s) 4 (by decide) (s := M) B0 (fun n M1 B1 => ?_) (fun n k M1 k0 k1 B1 ih => ?_)
  · exact ⟨fun _ => hq M1 B1, fun z => absurd z (by decide)⟩
  · obtain ⟨-, -, -, x3⟩ := B1.2.1.c co c0 c1
    obtain ⟨⟨a0, a1⟩, a2⟩ := zRA_in hG p0 p1
    refine ⟨fun z => absurd z (by omega), fun _ => ⟨fun z => absurd z (by decide), fun _ => ?_⟩⟩
    rw [x3, B1.2.1.o pl p0 p1]
    refine ⟨⟨by omega, by omega⟩, ⟨by omega, by omega⟩, ⟨by omega, by omega⟩, fun _ => hq M1 B1, fun hv => ⟨⟨by omega, by omega⟩, ?_⟩⟩
    refine n_edge B1.1 ⟨a0, a1⟩ ⟨c0, c1⟩ k0 (by omega) hv (fun hk nc hc => ?_) (fun hk => ?_)
    · refine j_edge hG B1.2.1 B1.1.br p0 p1 c0 c1 k0 (by omega) (fun _ nc' hc' => ?_) (fun hk' => by omega)
      have e := zNC_uniq (by split <;> omega) hc hc'
      rw [e, if_neg (fun z => z rfl)]
      exact ⟨⟨by omega, by omega⟩, ih M1 B1⟩
    · refine j_edge hG B1.2.1 B1.1.br p0 p1 c0 c1 k0 (by omega) (fun hk' => by omega) (fun _ => ?_)
      have e : zoff T (T 60 0 (zRA T pl)) + T 6 (zRA T pl) 6 = pl := a2
      rw [e, if_neg (fun z => z rfl)]
      exact ⟨⟨by omega, by omega⟩, ih M1 B1⟩
theorem j_h530 (C : zCn κ M) (k6 : 0 < κ 6) (i0 : 0 ≤ y13) (i1 : y13 ≤ 99) (z0 : 0 ≤ y14) (z1 : y14 < 10000000) (hK : ∀ M', zCn κ M' → K237 κ 1 (y13 + 1) M') : wp_L_holds_530 Qm K237 κ 1 y13 y14 M := by
  obtain ⟨T, O, I, L, hz⟩ := C
  have hG := I.1
  have hn := L.n
  unfold lwN at hn
  have h6 := I.k6
  have hR : 0 < T 11 0 8 := by omega
  have g691 : ∀ M', zCn κ M' → wp_L_holds_691 Qm K237 κ 1 y13 M' := fun M' C' => ⟨⟨by omega, by omega⟩, ⟨by omega, by omega⟩, hK M' C'⟩
  obtain ⟨m0, m1, -⟩ := L.m
  refine ⟨fun z => absurd z (by decide), fun _ => ⟨fun _ => g691 M ⟨T, O, I, L, hz⟩, fun _ => ?_⟩⟩
  rw [m0, m1]
  refine ⟨hR, by omega, j_areWidths I L (fun M1 B1 => ⟨fun z => absurd z (by decide), fun _ => ?_⟩)⟩
  refine j_arePages B1 hR z0 ⟨hz 114 (by decide), hz 115 (by decide), hz 116 (by decide)⟩ (fun M2 B2 => ?_)
  rw [if_neg (c := (1 : Int) = 0) (by decide)]
  have d3 := td_r z0 (by decide : (0 : Int) < 3)
  have d30 := td_r z0 (by decide : (0 : Int) < 30)
  have t1 := tm_r d3.1 hR
  have t2 := tm_r d30.1 (by omega : 0 < T 11 0 4)
  exact j_h620 B2 t1.1 t1.2 t2.1 t2.2 (fun M3 B3 => g691 M3 ⟨T, O, B3.1, B3.2.1, hz⟩)
set_option maxHeartbeats 4000000 in
theorem j_h237 (C0 : zCn κ M) (hQ : Qm 1) : ∃ n, wp_L_holds_237 Qm n κ 1 0 M := by
  refine zLoop (σ := (Nat → Int) × Mem) (fun n i s => wp_L_holds_237 Qm n s.1 1 i s.2) (fun i s => zCn s.1 s.2 ∧ (0 < i → 0 < s.1 6)) 100 (by decide) (s := (κ, M)) ⟨C0, fun z => absurd z (by decide)⟩ (fun n s hs => ?_) (fun n i s i0 i1 hs ih => ?_)
  · exact ⟨fun _ => hQ, fun z => absurd z (by decide)⟩
  · obtain ⟨κ1, M1⟩ := s
    obtain ⟨C1, hk⟩ := hs
    have C1 : zCn κ1 M1 := C1
    have hk : 0 < i → 0 < κ1 6 := hk
    show wp_L_holds_237 Qm (n + 1) κ1 1 i M1
    refine ⟨fun z => absurd z (by omega), fun _ => ⟨fun z => absurd z (by decide), fun _ => ⟨⟨by omega, by omega⟩, ⟨by omega, by omega⟩, ⟨by omega, by omega⟩, fun z z0 z1 => ⟨⟨by omega, by omega⟩, ⟨by omega, by omega⟩, fun way w0 w1 => ?_⟩⟩⟩⟩
    have g530 : ∀ κ' M', zCn κ' M' → 0 < κ' 6 → wp_L_holds_530 Qm (wp_L_holds_237 Qm n) κ' 1 i z M' := fun κ' M' C' k' => j_h530 C' k' i0 (by omega) z0 z1 (fun M2 C2 => ih (κ', M2) ⟨C2, fun _ => k'⟩)
    obtain ⟨T, O, I, L, hz⟩ := C1
    have h6 := I.k6
    have g287 : wp_L_holds_287 Qm (wp_L_holds_237 Qm n) κ1 i z M1 := j_isRow I L hz z0 (fun κ' M' C' k' => g530 κ' M' C' k')
    have g324 : 0 < i → wp_L_holds_324 Qm (wp_L_holds_237 Qm n) κ1 i z M1 := fun hi => j_isCell I L hz (by have := hk hi; omega) z0 (fun κ' M' C' k' => g530 κ' M' C' (by have := hk hi; omega))
    refine ⟨fun _ => g287, fun h3 => ⟨fun _ => ⟨fun _ => g324 (by omega), fun _ => ⟨fun _ => g324 (by omega), fun _ => ⟨fun hm => ⟨fun _ => ⟨fun _ => ?_, fun _ => ?_⟩, fun _ => ?_⟩, fun _ => g324 (by omega)⟩⟩⟩, fun _ => g287⟩⟩
    · exact j_isSet I L hz (by have := hk (by omega); omega) z0 (by omega) (fun M' C' => g530 κ1 M' C' (hk (by omega)))
    · exact j_isSorted I L hz z0 (fun M' C' => g530 κ1 M' C' (hk (by omega)))
    · have m2 := L.m.2.2.1
      have := I.1.nK
      exact j_filled I L hz (by omega) z0 (by omega) (fun M' C' => g530 κ1 M' C' (hk (by omega)))
end GC
