/-! the law's first look: widths and heights -/
theorem zLoopN {σ : Type} (L : Nat → Int → σ → Prop) (I : Int → σ → Prop) (b : Int) (hend : ∀ n s, I b s → L (n + 1) b s) (hstep : ∀ n k s, k < b → I k s → (∀ s', I (k + 1) s' → L n (k + 1) s') → L (n + 1) k s) : ∀ (m : Nat) (a : Int) (s : σ), b = a + m → I a s → L (m + 1) a s := by
  intro m
  induction m with
  | zero =>
    intro a s e h
    have e : b = a := by omega
    rw [e] at hend
    exact hend 0 s h
  | succ m ih =>
    intro a s e h
    exact hstep (m + 1) a s (by omega) h (fun s' h' => ih (a + 1) s' (by omega) h')
/-- the row x, wholly laid -/
def zLX (T M : Mem) : Prop := zXr T M (zls T) (zms T) (zwid T) ∧ ∀ r, 0 ≤ r → r < T 11 0 8 → M 113 0 (20 + r) = zhH T r
theorem zLX.sm {T M M' : Mem} (h : zLX T M) (s : zSm M M') : zLX T M' := by
  have e := s.1 113 (by decide)
  unfold zLX zXr at *
  rw [e]
  exact h
section CA
variable {T M : Mem} {O : zSt} {κ : Nat → Int}
theorem zS_part (hG : Good T) (f : Int → Int) : zS (fun r => if T 60 0 r = 1 then f r else 0) 0 (T 11 0 8) = zS (fun m => f (zbo T m)) 0 (T 64 0 1) := by
  have hm := hG.many (p := 1) (by decide) (by decide)
  have hR := hG.nR
  have e1 : zS (fun r => if T 60 0 r = 1 then f r else 0) 0 (T 11 0 8) = zS (fun r => zS (fun m => if r = zbo T m then f r else 0) 0 (T 64 0 1)) 0 (T 11 0 8) := zS_congr (fun r r0 r1 => by
    obtain ⟨a, -, -, b, c⟩ := hG.row r r0 r1
    by_cases z : T 60 0 r = 1
    · rw [if_pos z]
      rw [z] at b c
      have : zS (fun m => if r = zbo T m then f r else 0) 0 (T 64 0 1) = zS (fun m => if m = T 6 r 6 then f r else 0) 0 (T 64 0 1) := zS_congr (fun m m0 m1 => by
        obtain ⟨x, y, v⟩ := hG.ord 1 m (by decide) (by decide) m0 m1
        by_cases e : r = zbo T m
        · have em : m = T 6 r 6 := by rw [e]; exact v.symm
          rw [if_pos e, if_pos em]
        · rw [if_neg e, if_neg (fun em => e (by rw [em]; exact c.symm))])
      rw [this, zS_one b.1 b.2]
    · rw [if_neg z]
      exact (zS_zero (fun m m0 m1 => if_neg (fun e => z (by rw [e]; exact (hG.ord 1 m (by decide) (by decide) m0 m1).2.1)))).symm)
  rw [e1, zS_comm _ hR.1 hm.1]
  exact zS_congr (fun m m0 m1 => by
    have x := (hG.ord 1 m (by decide) (by decide) m0 m1).1
    have : zS (fun r => if r = zbo T m then f r else 0) 0 (T 11 0 8) = zS (fun r => if r = zbo T m then f (zbo T m) else 0) 0 (T 11 0 8) := zS_congr (fun r _ _ => by
      by_cases e : r = zbo T m
      · rw [if_pos e, if_pos e, e]
      · rw [if_neg e, if_neg e])
    rw [this]
    exact zS_one x.1 x.2)
/-- what holds after the law's first look, and stays -/
def zBn (T : Mem) (O : zSt) (κ : Nat → Int) (M : Mem) : Prop := Iv T O κ M ∧ zLw T M ∧ zLX T M
theorem zBn.sm (h : zBn T O κ M) {M' : Mem} (i : Iv T O κ M') (s : zSm M M') : zBn T O κ M' := ⟨i, h.2.1.fr (zLs.sm s), h.2.2.sm s⟩
theorem j_aw235 (B0 : zBn T O κ M) {y9 y10 : Int} (h9 : y9 = zsumw T (zwid T)) (h10 : y10 = zsum T (zhH T) 1) {Qm : Int → Mem → Prop} (hq : ∀ M', zBn T O κ M' → Qm 1 M') : wp_L_areWidths_232 Qm y9 y10 1 M := by
  have hG := B0.1.1
  have hn := B0.2.1.n
  unfold lwN at hn
  have hKn := hG.nK
  have hC := hG.nC
  have hwb := zwid_r hG
  have hsw := zsumw_r hG hwb
  have hpp := hG.n.2.2.2.1
  refine ⟨(T 11 0 15).toNat + 1, by omega, ?_⟩
  refine zLoopN (σ := Mem) (fun n k M' => 0 ≤ k → wp_L_areWidths_235 Qm n y9 y10 1 k M') (fun k M' => zBn T O κ M') (T 11 0 15) (fun n M1 B1 _ => ?_) (fun n k M1 k1 B1 ih k0 => ?_) (T 11 0 15).toNat 0 M (by omega) B0 (Int.le_refl _)
  · obtain ⟨I1, L1, X1⟩ := B1
    obtain ⟨-, -, m2, -⟩ := L1.m
    refine ⟨fun _ => ⟨fun z => absurd z (by decide), fun _ => n_over I1 (fun M2 I2 s2 => ?_)⟩, fun z => absurd z (by rw [m2]; omega)⟩
    have B2 := zBn.sm ⟨I1, L1, X1⟩ I2 s2
    obtain ⟨-, -, -, m3, -⟩ := B2.2.1.m
    rw [m3]
    have e : max 0 (zsumw T (zwid T) - T 11 0 24) = (if y9 ≤ T 11 0 24 then (0 : Int) else y9 - T 11 0 24) := by
      rw [h9]
      split <;> omega
    refine ⟨fun _ => ⟨⟨by omega, by omega⟩, trivial⟩, by split <;> exact ⟨by omega, by omega⟩, fun z => absurd e z, fun _ => n_tableHeight I2 (fun M3 I3 s3 => ?_)⟩
    rw [if_neg (fun z => z h10.symm)]
    exact ⟨bit_1, hq M3 (B2.sm I3 s3)⟩
  · have ih := fun M' B' => ih M' B' (by omega)
    obtain ⟨I1, L1, X1⟩ := B1
    obtain ⟨-, -, m2, -⟩ := L1.m
    obtain ⟨t0, t1, t2, t3, t4, t5⟩ := L1.t k k0 k1
    obtain ⟨w1, w2, w3, w4, w5, w6, w7, w8, w9, -, w11, -⟩ := hG.cell k k0 k1
    have hx1 : ∀ i, 0 ≤ i → i < T 11 0 4 → M1 113 0 (8 + i) = zwid T i := fun i i0 i1 => (X1.1 i i0 i1).2.2.1
    have hlr := zwid_r hG (T 66 0 k) w2 (by omega)
    have hrr := zRg_r hG w2 (by omega : T 66 0 k < 6)
    have hlf := zleft_r (T 74 0 k)
    refine ⟨fun z => absurd z (by rw [m2]; omega), fun _ => ⟨fun z => absurd z (by decide), fun _ => ⟨⟨by omega, by omega⟩, ⟨by omega, by omega⟩, ⟨by omega, by omega⟩, fun h5 => ?_, fun h5 => ?_⟩⟩⟩
    · have hnf : ¬ (T 73 0 k = 1 ∧ ¬ zshows T k = 0) := fun z => by rw [t5, if_pos z.1] at h5; omega
      refine ⟨⟨by omega, by omega⟩, ⟨by omega, by omega⟩, ⟨by omega, by omega⟩, n_lines I1 ⟨k0, k1⟩ (fun M2 I2 s2 => ?_)⟩
      have B2 := zBn.sm ⟨I1, L1, X1⟩ I2 s2
      refine j_lines hG B2.2.1 k0 k1 (w := zwid T) (fun i i0 i1 => (B2.2.2.1 i i0 i1).2.2.1) hwb ⟨fun z => absurd rfl z, fun _ => ?_⟩
      refine ⟨fun _ => n_point I2 ⟨k0, k1⟩ (fun z => absurd z hnf) (fun _ => ⟨rfl, fun z => absurd rfl z, fun _ => ?_⟩), fun z => absurd rfl z⟩
      refine ⟨fun z => absurd z (by decide), fun _ => n_begins I2 ⟨k0, k1⟩ (fun z => absurd z hnf) (fun _ => ⟨rfl, ⟨by omega, by omega⟩, ?_⟩)⟩
      rw [if_neg (fun z => z rfl)]
      exact ih M2 B2
    · have z73 : T 73 0 k = 1 := by
        by_cases y : T 73 0 k = 1
        · exact y
        · rw [t5, if_neg y] at h5; omega
      have hsh := zshows_r2 hG k0 k1
      refine j_shows hG L1 k0 k1 ?_
      rw [t1]
      refine ⟨⟨by omega, by omega⟩, ⟨by omega, by omega⟩, ⟨by omega, by omega⟩, n_lines I1 ⟨k0, k1⟩ (fun M2 I2 s2 => ?_)⟩
      have B2 := zBn.sm ⟨I1, L1, X1⟩ I2 s2
      refine j_lines hG B2.2.1 k0 k1 (w := zwid T) (fun i i0 i1 => (B2.2.2.1 i i0 i1).2.2.1) hwb ⟨fun z => absurd rfl z, fun _ => ?_⟩
      by_cases hs : zshows T k = 0
      · have hnf : ¬ (T 73 0 k = 1 ∧ ¬ zshows T k = 0) := fun z => z.2 hs
        have e0 : (if zshows T k ≤ 0 then (0 : Int) else 1) = 0 := if_pos (by omega)
        rw [e0]
        refine ⟨fun _ => n_point I2 ⟨k0, k1⟩ (fun z => absurd z hnf) (fun _ => ⟨rfl, fun z => absurd rfl z, ?_⟩), fun z => absurd rfl z⟩
        rw [if_pos rfl]
        refine ⟨⟨by omega, by omega⟩, fun z => absurd rfl z, fun _ => ?_⟩
        refine ⟨fun z => absurd z (by decide), fun _ => n_begins I2 ⟨k0, k1⟩ (fun z => absurd z hnf) (fun _ => ⟨rfl, fun _ => ⟨⟨by omega, by omega⟩, ?_⟩, fun z => absurd rfl z⟩)⟩
        rw [if_neg (fun z => z rfl)]
        exact ih M2 B2
      · have hf : T 73 0 k = 1 ∧ ¬ zshows T k = 0 := ⟨z73, hs⟩
        have e0 : (if zshows T k ≤ 0 then (0 : Int) else 1) = 1 := if_neg (by omega)
        rw [e0]
        refine ⟨fun _ => n_point I2 ⟨k0, k1⟩ (fun _ M3 I3 s3 => ?_) (fun z => absurd hf z), fun z => absurd rfl z⟩
        have B3 := B2.sm I3 s3
        obtain ⟨-, -, q8, -, q16⟩ := B3.2.2.1 (T 66 0 k) w2 (by omega)
        dsimp only
        rw [q8, q16]
        refine ⟨fun _ => ⟨⟨by omega, by omega⟩, ⟨by omega, by omega⟩, ⟨by omega, by omega⟩, ⟨by omega, by omega⟩, ⟨by omega, by omega⟩, trivial⟩, ?_⟩
        rw [if_neg (by decide)]
        refine ⟨⟨by omega, by omega⟩, fun z => absurd rfl z, fun _ => ?_⟩
        refine ⟨fun z => absurd z (by decide), fun _ => n_begins I3 ⟨k0, k1⟩ (fun _ M4 I4 s4 => ⟨fun z => absurd z (by decide), fun _ => ?_⟩) (fun z => absurd hf z)⟩
        have B4 := B3.sm I4 s4
        obtain ⟨-, -, r8, -, r16⟩ := B4.2.2.1 (T 66 0 k) w2 (by omega)
        have hf4 := B4.2.1.f k k0 k1 z73
        rw [r8, r16, hf4]
        refine ⟨⟨by omega, by omega⟩, ⟨by omega, by omega⟩, ⟨by omega, by omega⟩, ⟨by omega, by omega⟩, ⟨by omega, by omega⟩, ⟨by omega, by omega⟩, j_leftOf (by omega) (by omega) ⟨⟨by omega, by omega⟩, ⟨by omega, by omega⟩, ?_⟩⟩
        rw [if_neg (fun z => z rfl)]
        exact ih M4 B4
theorem j_areWidths (I0 : Iv T O κ M) (L0 : zLw T M) {Qm : Int → Mem → Prop} (hq : ∀ M', zBn T O κ M' → Qm 1 M') : wp_L_areWidths M Qm := by
  have hG := I0.1
  have hn := L0.n
  unfold lwN at hn
  have hwb := zwid_r hG
  have hhb : zHB T (zhH T) := zht_r hG hwb
  have hv := zvis_r hG
  refine j_widths hG L0 (fun M1 f1 X1 => ?_)
  have I1 := I0.lw (M' := M1) (fun s j k hs => f1 s j k (by omega))
  have L1 := L0.fr f1.ls
  refine j_heights hG L1 (w := zwid T) (fun k k0 k1 => (X1 k k0 k1).2.2.1) hwb (fun M2 h2 => ?_)
  have I2 := I1.lw (M' := M2) (fun s j k hs => h2.1 s j k (by omega))
  have L2 : zLw T M2 := L1.fr ⟨fun s hs => funext fun j => funext fun k => h2.1 s j k (by omega), h2.1 11 0 30 (by omega)⟩
  have X2 : zLX T M2 := ⟨X1.fr (fun k k0 k1 => h2.1 113 0 k (by omega)) (by omega), fun r r0 r1 => (h2.2 r r0 r1).1⟩
  refine j_visible hG L2 ⟨⟨by omega, by omega⟩, ?_⟩
  -- columns
  refine zLoop (σ := Mem × Int) (fun n k s => wp_L_areWidths_47 Qm n s.2 0 1 k s.1) (fun k s => zBn T O κ s.1 ∧ s.2 = zvis T - 1 + zS (zwid T) 0 k) (T 11 0 4) (by omega) (s := (M2, zvis T - 1)) ⟨⟨I2, L2, X2⟩, by show zvis T - 1 = zvis T - 1 + zS (zwid T) 0 0; rw [zS_self _ (Int.le_refl _)]; omega⟩ (fun n s hs => ?_) (fun n k s k0 k1 hs ih => ?_)
  · obtain ⟨M3, y9⟩ := s
    obtain ⟨B3, e9⟩ := hs
    have B3 : zBn T O κ M3 := B3
    have e9 : y9 = zvis T - 1 + zS (zwid T) 0 (T 11 0 4) := e9
    have h9 : y9 = zsumw T (zwid T) := by rw [e9]; unfold zsumw; rw [if_neg (by omega)]
    obtain ⟨m0, -⟩ := B3.2.1.m
    show wp_L_areWidths_47 Qm (n + 1) y9 0 1 (T 11 0 4) M3
    refine ⟨fun _ => ?_, fun z => absurd z (by rw [m0]; omega)⟩
    -- rows
    refine zLoop (σ := Mem × Int) (fun n k s => wp_L_areWidths_137 Qm n y9 s.2 1 k s.1) (fun k s => zBn T O κ s.1 ∧ s.2 = zS (fun r => if T 60 0 r = 1 then zhH T r else 0) 0 k) (T 11 0 8) hG.nR.1 (s := (M3, 0)) ⟨B3, (zS_self _ (Int.le_refl _)).symm⟩ (fun n s hs => ?_) (fun n k s k0 k1 hs ih => ?_)
    · obtain ⟨M4, y10⟩ := s
      obtain ⟨B4, e10⟩ := hs
      have B4 : zBn T O κ M4 := B4
      have e10 : y10 = zS (fun r => if T 60 0 r = 1 then zhH T r else 0) 0 (T 11 0 8) := e10
      obtain ⟨-, m1, -⟩ := B4.2.1.m
      show wp_L_areWidths_137 Qm (n + 1) y9 y10 1 (T 11 0 8) M4
      refine ⟨fun _ => j_aw235 B4 h9 ?_ hq, fun z => absurd z (by rw [m1]; omega)⟩
      rw [e10, zS_part hG]
      rfl
    · obtain ⟨M4, y10⟩ := s
      obtain ⟨B4, e10⟩ := hs
      have B4 : zBn T O κ M4 := B4
      have e10 : y10 = zS (fun r => if T 60 0 r = 1 then zhH T r else 0) 0 k := e10
      obtain ⟨-, m1, -⟩ := B4.2.1.m
      obtain ⟨r0, -⟩ := B4.2.1.r k k0 k1
      have hk := B4.2.2.2 k k0 k1
      have hb := hhb k k0 k1
      have hsb := zS_bd (f := fun r => if T 60 0 r = 1 then zhH T r else 0) (a := 0) (b := k) 0 24 k0 (fun i i0 i1 => by
        have := hhb i i0 (by omega)
        split <;> omega)
      rw [← e10] at hsb
      have ev : (if ¬ T 60 0 k = 1 then (0 : Int) else zhH T k) = (if T 60 0 k = 1 then zhH T k else 0) := by
        by_cases z : T 60 0 k = 1
        · rw [if_neg (fun y => y z), if_pos z]
        · rw [if_pos z, if_neg z]
      have evb : 0 ≤ (if T 60 0 k = 1 then zhH T k else 0) ∧ (if T 60 0 k = 1 then zhH T k else 0) ≤ 24 := by split <;> omega
      have en : y10 + (if T 60 0 k = 1 then zhH T k else 0) = zS (fun r => if T 60 0 r = 1 then zhH T r else 0) 0 (k + 1) := by rw [zS_succ _ k0, ← e10]
      show wp_L_areWidths_137 Qm (n + 1) y9 y10 1 k M4
      refine ⟨fun z => absurd z (by rw [m1]; omega), fun _ => ⟨fun z => absurd z (by decide), fun _ => ?_⟩⟩
      rw [r0, hk, ev]
      refine ⟨⟨by omega, by omega⟩, ⟨by omega, by omega⟩, fun _ => ⟨⟨by omega, by omega⟩, ⟨by omega, by omega⟩, trivial⟩, ⟨by omega, by omega⟩, n_height B4.1 ⟨k0, k1⟩ (fun M5 I5 s5 => ?_)⟩
      have B5 := B4.sm I5 s5
      rw [B5.2.2.2 k k0 k1]
      refine ⟨⟨by omega, by omega⟩, ⟨by omega, by omega⟩, fun z => absurd rfl z, fun _ => ⟨fun _ => ⟨⟨by omega, by omega⟩, ih (M5, _) ⟨B5, en⟩⟩, fun _ => n_heightByCells I5 ⟨k0, k1⟩ (fun M6 I6 s6 => ?_)⟩⟩
      have B6 := B5.sm I6 s6
      rw [B6.2.2.2 k k0 k1, if_neg (c := ¬ zhH T k = zhH T k) (fun z => z rfl)]
      exact ⟨⟨by omega, by omega⟩, ⟨by omega, by omega⟩, ⟨by omega, by omega⟩, ih (M6, _) ⟨B6, en⟩⟩
  · obtain ⟨M3, y9⟩ := s
    obtain ⟨B3, e9⟩ := hs
    have B3 : zBn T O κ M3 := B3
    have e9 : y9 = zvis T - 1 + zS (zwid T) 0 k := e9
    obtain ⟨m0, -⟩ := B3.2.1.m
    obtain ⟨-, -, x8, -⟩ := B3.2.2.1 k k0 k1
    have hb := hwb k k0 k1
    have hsb := zS_bd (f := zwid T) (a := 0) (b := k) 0 300 k0 (fun i i0 i1 => hwb i i0 (by omega))
    have en : y9 + zwid T k = zvis T - 1 + zS (zwid T) 0 (k + 1) := by rw [zS_succ _ k0]; omega
    show wp_L_areWidths_47 Qm (n + 1) y9 0 1 k M3
    refine ⟨fun z => absurd z (by rw [m0]; omega), fun _ => ⟨fun z => absurd z (by decide), fun _ => ?_⟩⟩
    rw [x8]
    refine ⟨⟨by omega, by omega⟩, ⟨by omega, by omega⟩, ⟨by omega, by omega⟩, n_least B3.1 ⟨k0, k1⟩ (fun M4 I4 s4 => ?_)⟩
    have B4 := B3.sm I4 s4
    rw [(B4.2.2.1 k k0 k1).1]
    refine ⟨⟨by omega, by omega⟩, fun z => absurd rfl z, fun _ => n_most I4 ⟨k0, k1⟩ (fun M5 I5 s5 => ?_)⟩
    have B5 := B4.sm I5 s5
    rw [(B5.2.2.1 k k0 k1).2.1]
    refine ⟨⟨by omega, by omega⟩, ⟨by omega, by omega⟩, fun z => absurd rfl z, fun _ => n_width I5 ⟨k0, k1⟩ (fun M6 I6 s6 => ?_)⟩
    have B6 := B5.sm I6 s6
    rw [(B6.2.2.1 k k0 k1).2.2.1, if_neg (fun z => z rfl)]
    exact ⟨⟨by omega, by omega⟩, ⟨by omega, by omega⟩, ⟨by omega, by omega⟩, ih (M6, _) ⟨B6, en⟩⟩
end CA
