/-! pages: what the class answers against the law's rows: pages and rows -/
section FB
variable {T M : Mem} {O : zSt} {κ κ2 : Nat → Int} {p9 : Int} {Qm : Int → Mem → Prop}
set_option maxHeartbeats 4000000 in
theorem j_p249 (h : zPN T O κ M) {y14 : Int} (c0 : 0 ≤ y14) (c1 : y14 < T 11 0 4) (hq : ∀ M', zPN T O κ M' → Qm 1 M') : wp_L_arePages_249 κ2 p9 Qm 1 y14 M := by
  have hG := h.1.1.1
  have hn := h.1.2.1.n
  unfold lwN at hn
  have fin : ∀ M', zPN T O κ M' → wp_L_arePages_416 κ2 p9 Qm 1 M' := fun M' N => j_p416 N hq
  have hP : zP0 T = -1 ∨ 0 < zP0 T := by
    unfold zP0
    by_cases e : zpg T 0 6 = 0
    · rw [if_pos e]
      have := (zpg_wf hG).2.1 e
      omega
    · rw [if_neg e]; exact Or.inl rfl
  refine zLoop (σ := Mem) (fun n k s => wp_L_arePages_252 κ2 p9 Qm n 1 y14 k s) (fun k s => zPN T O κ s) (max 0 (min 6 (zP0 T))) (by omega) (s := M) h (fun n M1 N1 => ?_) (fun n k M1 k0 k1 N1 ih => ?_)
  · refine ⟨fun _ => fin M1 N1, fun z => ⟨fun _ => fin M1 N1, fun y => absurd y (by rw [N1.2.1]; omega)⟩⟩
  · have hp : 0 < zP0 T := by omega
    obtain ⟨h6, eP⟩ := zP0_p hp
    refine ⟨fun z => absurd z (by omega), fun z6 => ⟨fun z => absurd z (by rw [N1.2.1]; omega), fun _ => ⟨fun z => absurd z (by decide), fun _ => ?_⟩⟩⟩
    -- what is carried
    have hv : ∀ i, 0 ≤ i → i ≤ T 11 0 8 → -10000000 ≤ zS (fun r => if T 60 0 r = 1 then (if zpg T 7 r ≤ k then zfv T r y14 else 0) else 0) 0 i ∧ zS (fun r => if T 60 0 r = 1 then (if zpg T 7 r ≤ k then zfv T r y14 else 0) else 0) 0 i ≤ 10000000 := fun i i0 i1 => by
      have := zS_bd (f := fun r => if T 60 0 r = 1 then (if zpg T 7 r ≤ k then zfv T r y14 else 0) else 0) (a := 0) (b := i) (-1000000) 1000000 i0 (fun r r0 r1 => by
        have := zfv_r hG (r := r) (c := y14) r0 (by omega) c0 (by omega)
        split
        · split <;> omega
        · omega)
      omega
    refine zLoop (σ := Int × Mem) (fun n2 i s => wp_L_arePages_279 κ2 p9 Qm (wp_L_arePages_252 κ2 p9 Qm n) n2 y14 k s.1 i s.2) (fun i s => zPN T O κ s.2 ∧ s.1 = zS (fun r => if T 60 0 r = 1 then (if zpg T 7 r ≤ k then zfv T r y14 else 0) else 0) 0 i) (T 11 0 8) hG.nR.1 (s := (0, M1)) ⟨N1, (zS_self _ (Int.le_refl _)).symm⟩ (fun n2 s hs => ?_) (fun n2 i s i0 i1 hs ih2 => ?_)
    · obtain ⟨y, M2⟩ := s
      obtain ⟨N2, e2⟩ := hs
      have N2 : zPN T O κ M2 := N2
      have e2 : y = zS (fun r => if T 60 0 r = 1 then (if zpg T 7 r ≤ k then zfv T r y14 else 0) else 0) 0 (T 11 0 8) := e2
      have e2 : y = zcar T (zpg T) k y14 := by
        rw [e2, zS_part hG (fun r => if zpg T 7 r ≤ k then zfv T r y14 else 0)]
        rfl
      obtain ⟨-, m1, -⟩ := N2.1.2.1.m
      show wp_L_arePages_279 κ2 p9 Qm (wp_L_arePages_252 κ2 p9 Qm n) (n2 + 1) y14 k y (T 11 0 8) M2
      refine ⟨fun _ => n_used N2.1.1 h6 ⟨k0, by omega⟩ (fun M3 I3 s3 => ⟨⟨by omega, by omega⟩, ⟨by omega, by omega⟩, ?_⟩), fun z => absurd z (by rw [m1]; omega)⟩
      have N3 := N2.sm I3 s3
      obtain ⟨g1, -⟩ := (N3.2.2 h6).1 k k0 z6 (by omega)
      rw [g1]
      refine ⟨fun z => absurd rfl z, fun _ => n_notesOn I3 h6 ⟨k0, by omega⟩ (fun M4 I4 s4 => ⟨⟨by omega, by omega⟩, ⟨by omega, by omega⟩, ?_⟩)⟩
      have N4 := N3.sm I4 s4
      obtain ⟨-, g2⟩ := (N4.2.2 h6).1 k k0 z6 (by omega)
      rw [g2]
      refine ⟨fun z => absurd rfl z, fun _ => n_carried I4 h6 ⟨k0, by omega⟩ ⟨c0, c1⟩ (fun M5 I5 s5 => ?_)⟩
      have N5 := N4.sm I5 s5
      refine ⟨fun z => absurd e2.symm z, fun _ => ⟨fun _ => ⟨⟨by omega, by omega⟩, ih M5 N5⟩, fun _ => n_carriedByCells I5 h6 ⟨k0, by omega⟩ ⟨c0, c1⟩ (fun M6 I6 s6 => ⟨⟨by omega, by omega⟩, ?_⟩)⟩⟩
      rw [if_neg (fun z => z e2.symm)]
      exact ih M6 (N5.sm I6 s6)
    · obtain ⟨y, M2⟩ := s
      obtain ⟨N2, e2⟩ := hs
      have N2 : zPN T O κ M2 := N2
      have e2 : y = zS (fun r => if T 60 0 r = 1 then (if zpg T 7 r ≤ k then zfv T r y14 else 0) else 0) 0 i := e2
      obtain ⟨-, m1, -⟩ := N2.1.2.1.m
      obtain ⟨r0, -⟩ := N2.1.2.1.r i i0 i1
      have hb := hv i i0 (by omega)
      have hb1 := hv (i + 1) (by omega) (by omega)
      rw [zS_succ _ i0] at hb1
      rw [← e2] at hb hb1
      have hz := zfv_r hG (r := i) (c := y14) i0 i1 c0 (by omega)
      have nxt : ∀ v M3, zPN T O κ M3 → v = (if T 60 0 i = 1 then (if zpg T 7 i ≤ k then zfv T i y14 else 0) else 0) → (inR (y + v)) ∧ (inR (i + 1)) ∧ wp_L_arePages_279 κ2 p9 Qm (wp_L_arePages_252 κ2 p9 Qm n) n2 y14 k (y + v) (i + 1) M3 := fun v M3 N3 ev => by
        have hvb : -1000000 ≤ v ∧ v ≤ 1000000 := by
          rw [ev]
          split
          · split <;> omega
          · omega
        refine ⟨⟨by omega, by omega⟩, ⟨by omega, by omega⟩, ih2 (y + v, M3) ⟨N3, ?_⟩⟩
        show y + v = _
        rw [zS_succ _ i0, ← e2, ev]
      show wp_L_arePages_279 κ2 p9 Qm (wp_L_arePages_252 κ2 p9 Qm n) (n2 + 1) y14 k y i M2
      refine ⟨fun z => absurd z (by rw [m1]; omega), fun _ => ?_⟩
      rw [r0]
      refine ⟨⟨by omega, by omega⟩, ⟨by omega, by omega⟩, fun z => nxt 0 M2 N2 (by rw [if_neg z]), fun z => ⟨⟨by omega, by omega⟩, ?_⟩⟩
      rw [(N2.fig h6 i0 i1 z).1]
      refine ⟨fun w => nxt 0 M2 N2 (by rw [if_pos z, if_neg (by omega)]), fun w => ?_⟩
      exact j_figure hG N2.1.2.1 i0 i1 c0 c1 (nxt _ M2 N2 (by rw [if_pos z, if_pos w]))
set_option maxHeartbeats 4000000 in
theorem j_p143 (h : zPN T O κ M) {y14 : Int} (c0 : 0 ≤ y14) (c1 : y14 < T 11 0 4) (hq : ∀ M', zPN T O κ M' → Qm 1 M') : ∃ n, wp_L_arePages_143 κ2 p9 Qm n 1 y14 0 M := by
  have hG := h.1.1.1
  have hn := h.1.2.1.n
  unfold lwN at hn
  have fin : ∀ M', zPN T O κ M' → wp_L_arePages_249 κ2 p9 Qm 1 y14 M' := fun M' N => j_p249 N c0 c1 hq
  refine zLoop (σ := Mem) (fun n k s => wp_L_arePages_143 κ2 p9 Qm n 1 y14 k s) (fun k s => zPN T O κ s) (T 11 0 8) hG.nR.1 (s := M) h (fun n M1 N1 => ?_) (fun n k M1 k0 k1 N1 ih => ?_)
  · obtain ⟨-, m1, -⟩ := N1.1.2.1.m
    exact ⟨fun _ => fin M1 N1, fun z => absurd z (by rw [m1]; omega)⟩
  · refine ⟨fun _ => fin M1 N1, fun _ => ⟨fun _ => fin M1 N1, fun _ => ⟨fun _ => fin M1 N1, fun hp => ?_⟩⟩⟩
    rw [N1.2.1] at hp
    obtain ⟨h6, eP⟩ := zP0_p hp
    refine zLoop (σ := Mem) (fun n2 q s => wp_L_arePages_167 κ2 p9 Qm (wp_L_arePages_143 κ2 p9 Qm n) n2 1 y14 k q s) (fun q s => zPN T O κ s) 6 (by decide) (s := M1) N1 (fun n2 M2 N2 => ?_) (fun n2 q M2 q0 q1 N2 ih2 => ?_)
    · exact ⟨fun _ => ⟨⟨by omega, by omega⟩, ih M2 N2⟩, fun z => absurd z (by decide)⟩
    · obtain ⟨r0, -⟩ := N2.1.2.1.r k k0 k1
      refine ⟨fun z => absurd z (by omega), fun _ => ⟨fun z => absurd z (by decide), fun _ => ?_⟩⟩
      rw [r0]
      refine ⟨⟨by omega, by omega⟩, ⟨by omega, by omega⟩, fun _ => ⟨⟨by omega, by omega⟩, ih M2 N2⟩, fun hb => n_linesOn N2.1.1 h6 ⟨k0, k1⟩ hb q0 (fun M3 I3 s3 => ⟨⟨by omega, by omega⟩, ⟨by omega, by omega⟩, ⟨by omega, by omega⟩, ?_⟩)⟩
      have N3 := N2.sm I3 s3
      rw [(N3.2.2 h6).2.1 k q k0 k1 q0 q1]
      refine ⟨fun z => absurd rfl z, fun _ => ⟨fun _ => ⟨⟨by omega, by omega⟩, ih2 M3 N3⟩, fun _ => n_pageOf I3 h6 ⟨k0, k1⟩ hb (fun M4 I4 s4 => ⟨⟨by omega, by omega⟩, ⟨by omega, by omega⟩, ?_⟩)⟩⟩
      have N4 := N3.sm I4 s4
      rw [(N4.fig h6 k0 k1 hb).1, if_neg (c := ¬ zpg T 7 k = zpg T 7 k) (fun z => z rfl)]
      exact ih2 M4 N4
set_option maxHeartbeats 4000000 in
theorem j_p18 (I : Iv T O κ M) (L : zLw T M) (X : zLX T M) (hR : 0 < T 11 0 8) (z0 : 0 ≤ p9) (hq : ∀ M', zPN T O κ M' → Qm 1 M') : wp_L_arePages_18 κ2 p9 Qm M := by
  have hG := I.1
  have hn := L.n
  unfold lwN at hn
  refine j_walk hG L X hR (fun M1 P1 => ?_)
  have I1 := I.lw (M' := M1) (fun s j k hs => P1.1 s j k (by omega) (by omega) (by omega))
  have L1 : zLw T M1 := L.fr ⟨fun s hs => funext fun j => funext fun k => P1.1 s j k (by omega) (by omega) (by omega), P1.1 11 0 30 (by decide) (by decide) (by decide)⟩
  have X1 : zLX T M1 := by
    have e : M1 113 = M 113 := funext fun j => funext fun k => P1.1 113 j k (by decide) (by decide) (by decide)
    unfold zLX zXr at *
    rw [e]
    exact X
  have N1 : zPN T O κ M1 := by
    refine ⟨⟨I1, L1, X1⟩, ?_⟩
    unfold zPq zP0
    rcases P1.2 with ⟨a, b⟩ | ⟨a, b, c⟩
    · rw [if_neg a]
      exact ⟨b, fun z => absurd z a⟩
    · rw [if_pos a]
      exact ⟨b, fun _ => c⟩
  have go : ∀ M2, zPN T O κ M2 → 0 < M2 112 0 0 ∧ ∃ n156 : Nat, wp_L_arePages_69 κ2 p9 Qm n156 1 (Int.tmod p9 (M2 112 0 0)) 0 0 M2 := fun M2 N2 => by
    obtain ⟨m0, -⟩ := N2.1.2.1.m
    rw [m0, Int.tmod_eq_emod_of_nonneg z0]
    obtain ⟨y14, e14⟩ : ∃ y, y = p9 % T 11 0 4 := ⟨_, rfl⟩
    have c0 : 0 ≤ y14 := by rw [e14]; exact Int.emod_nonneg _ (by omega)
    have c1 : y14 < T 11 0 4 := by rw [e14]; exact Int.emod_lt_of_pos _ (by omega)
    rw [← e14]
    have hv : ∀ i, 0 ≤ i → i ≤ T 11 0 8 → -10000000 ≤ zS (fun r => if T 60 0 r = 1 then zfv T r y14 else 0) 0 i ∧ zS (fun r => if T 60 0 r = 1 then zfv T r y14 else 0) 0 i ≤ 10000000 := fun i i0 i1 => by
      have := zS_bd (f := fun r => if T 60 0 r = 1 then zfv T r y14 else 0) (a := 0) (b := i) (-1000000) 1000000 i0 (fun r r0 r1 => by
        have := zfv_r hG (r := r) (c := y14) r0 (by omega) c0 (by omega)
        split <;> omega)
      omega
    refine ⟨by omega, ?_⟩
    refine zLoop (σ := Int) (fun n i s => wp_L_arePages_69 κ2 p9 Qm n 1 y14 s i M2) (fun i s => s = zS (fun r => if T 60 0 r = 1 then zfv T r y14 else 0) 0 i) (T 11 0 8) hG.nR.1 (s := 0) (zS_self _ (Int.le_refl _)).symm (fun n s hs => ?_) (fun n i s i0 i1 hs ih => ?_)
    · obtain ⟨-, m1, -⟩ := N2.1.2.1.m
      refine ⟨fun _ => ⟨fun z => absurd z (by decide), fun _ => n_total N2.1.1 ⟨c0, c1⟩ ?_⟩, fun z => absurd z (by rw [m1]; omega)⟩
      have e : zS (zfb T y14) 0 (T 64 0 1) = s := by rw [hs, zS_part hG (fun r => zfv T r y14)]; rfl
      rw [if_neg (fun z => z e)]
      exact j_p143 N2 c0 c1 hq
    · obtain ⟨-, m1, -⟩ := N2.1.2.1.m
      obtain ⟨r0, -⟩ := N2.1.2.1.r i i0 i1
      have hb := hv i i0 (by omega)
      rw [← hs] at hb
      have hz := zfv_r hG (r := i) (c := y14) i0 i1 c0 (by omega)
      refine ⟨fun z => absurd z (by rw [m1]; omega), fun _ => ?_⟩
      rw [r0]
      refine ⟨⟨by omega, by omega⟩, ⟨by omega, by omega⟩, fun z => ⟨⟨by omega, by omega⟩, ⟨by omega, by omega⟩, ih _ ?_⟩, fun z => j_figure hG N2.1.2.1 i0 i1 c0 c1 ⟨⟨by omega, by omega⟩, ⟨by omega, by omega⟩, ih _ ?_⟩⟩
      · rw [zS_succ _ i0, ← hs, if_neg z]
      · rw [zS_succ _ i0, ← hs, if_pos z]
  have eP : ∀ M2, zPN T O κ M2 → M2 114 0 0 = zP0 T := fun M2 N2 => N2.2.1
  refine n_pages I1 (fun h6 M2 I2 s2 => ?_) (fun h6 M2 I2 s2 => ⟨rfl, ?_⟩)
  · have N2 := N1.sm I2 s2
    have : zpg T 0 1 = M2 114 0 0 := by rw [N2.2.1]; unfold zP0; rw [if_pos h6]
    dsimp only
    rw [if_neg (fun z => z this)]
    exact go M2 N2
  · have N2 := N1.sm I2 s2
    have : -1 = M2 114 0 0 := by rw [N2.2.1]; unfold zP0; rw [if_neg h6]
    dsimp only
    rw [if_neg (fun z => z this)]
    exact go M2 N2
/-- pages: the class answers as the law's own walk says -/
theorem j_arePages (B : zBn T O κ M) (hR : 0 < T 11 0 8) (z0 : 0 ≤ p9) (hκ : κ2 114 = 0 ∧ κ2 115 = 0 ∧ κ2 116 = 0) (hq : ∀ M', zBn T O κ M' → Qm 1 M') : wp_L_arePages κ2 p9 M Qm := by
  refine ⟨hκ.1, fun M4 e4 => ⟨(if_neg (by decide)).trans hκ.2.1, fun M9 e9 => ⟨(if_neg (by decide)).trans ((if_neg (by decide)).trans hκ.2.2), fun M14 e14 => ?_⟩⟩⟩
  have fr : ∀ (s : Nat) (j k : Int), s ≠ 114 → s ≠ 115 → s ≠ 116 → M14 s j k = M s j k := fun s j k x1 x2 x3 => by
    rw [e14, e9, e4]
    unfold zM
    rw [if_neg x3, if_neg x2, if_neg x1]
  refine j_p18 (B.1.lw (M' := M14) (fun s j k hs => fr s j k (by omega) (by omega) (by omega))) (B.2.1.fr ⟨fun s hs => funext fun j => funext fun k => fr s j k (by omega) (by omega) (by omega), fr 11 0 30 (by decide) (by decide) (by decide)⟩) ?_ hR z0 (fun M' N => hq M' N.1)
  have e : M14 113 = M 113 := funext fun j => funext fun k => fr 113 j k (by decide) (by decide) (by decide)
  have X := B.2.2
  unfold zLX zXr at *
  rw [e]
  exact X
end FB
