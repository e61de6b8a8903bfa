/-! the law: its columns, and all of holds -/
/-- what holds while the law makes its columns -/
def zK1 (m k : Int) (κ : Nat → Int) (M : Mem) : Prop := ∃ T O, Iv T O κ M ∧ (T 11 0 4 = k ∧ T 11 0 8 = 0 ∧ T 11 0 15 = 0 ∧ T 11 0 24 = 60 ∧ T 11 0 25 = 30 ∧ T 11 0 26 = 0) ∧ (M 112 0 0 = m ∧ M 112 0 1 = 0 ∧ M 112 0 2 = 0 ∧ M 112 0 3 = 60 ∧ M 112 0 4 = 30 ∧ M 112 0 5 = 0) ∧ (∀ j, 0 ≤ j → j < k → M 104 0 (4 * j) = T 56 0 j ∧ M 104 0 (4 * j + 1) = T 57 0 j) ∧ (∀ j, M 104 0 (4 * j + 2) = 0 ∧ M 104 0 (4 * j + 3) = 0) ∧ (∀ q, T 58 0 q = 0 ∧ T 59 0 q = 0) ∧ (∀ s : Nat, (s = 108 ∨ s = 110 ∨ s = 111 ∨ s = 77 ∨ s = 78 ∨ s = 79) → ∀ q, M s 0 q = 0) ∧ M 11 0 30 = 0 ∧ ∀ s : Nat, (114 ≤ s ∧ s ≤ 117) → κ s = 0
section GD4
variable {T M : Mem} {O : zSt} {κ : Nat → Int} {Qm : Int → Prop}
theorem zK1.done {m : Int} (m0 : 1 ≤ m) (m4 : m ≤ 4) (h : zK1 m m κ M) : zCn κ M := by
  obtain ⟨T, O, I, ⟨t4, t8, t15, t24, t25, t26⟩, ⟨e0, e1, e2, e3, e4, e5⟩, c1, c2, t58, hz, h30, hκ⟩ := h
  have z := fun (s : Nat) hs q => hz s hs q
  refine ⟨T, O, I, ⟨?_, ?_, ?_, ?_, ?_, ?_, ?_, ?_, ?_⟩, hκ⟩
  · unfold lwM
    rw [e0, e1, e2, e3, e4, e5, t4, t8, t15, t24, t25, t26]
    exact ⟨rfl, rfl, rfl, rfl, rfl, rfl⟩
  · unfold lwN
    rw [t4, t8, t15]
    omega
  · unfold lwC
    rw [t4]
    intro k k0 k1
    obtain ⟨a, b⟩ := c1 k k0 k1
    obtain ⟨c, d⟩ := c2 k
    exact ⟨a, b, c.trans (t58 k).1.symm, d.trans (t58 k).2.symm⟩
  · intro r r0 r1; omega
  · intro r r0 r1; omega
  · intro r r0 r1; omega
  · intro r r0 r1; omega
  · refine ⟨fun c c0 c1 => by omega, fun c c0 c1 => ⟨fun _ => z 108 (by decide) _, fun i i0 i1 => z 108 (by decide) _⟩⟩
  · refine ⟨fun q _ _ => ?_, fun r _ _ => ⟨?_, ?_⟩, fun k _ _ => ⟨?_, ?_⟩, ?_⟩
    · rw [z 110 (by decide), z 77 (by decide)]
    · rw [z 110 (by decide), z 78 (by decide)]
    · rw [z 110 (by decide), z 78 (by decide)]
    · rw [z 111 (by decide), z 79 (by decide)]
    · rw [z 111 (by decide), z 79 (by decide)]
    · rw [z 111 (by decide), h30]
set_option maxHeartbeats 4000000 in
theorem j_h117 {m : Int} (m0 : 1 ≤ m) (m4 : m ≤ 4) (h : zK1 m 0 κ M) (hQ : Qm 1) : ∃ n, wp_L_holds_117 Qm n κ 1 0 M := by
  refine zLoop (σ := (Nat → Int) × Mem) (fun n i s => wp_L_holds_117 Qm n s.1 1 i s.2) (fun i s => zK1 m i s.1 s.2) m (by omega) (s := (κ, M)) h (fun n s hs => ?_) (fun n k s k0 k1 hs ih => ?_)
  · obtain ⟨κ1, M1⟩ := s
    have hs : zK1 m m κ1 M1 := hs
    show wp_L_holds_117 Qm (n + 1) κ1 1 m M1
    have C := hs.done m0 m4
    obtain ⟨T, O, I, -, ⟨e0, -⟩, -⟩ := hs
    exact ⟨fun _ => j_h237 C hQ, fun z => absurd z (by rw [e0]; omega)⟩
  · obtain ⟨κ1, M1⟩ := s
    have hs : zK1 m k κ1 M1 := hs
    obtain ⟨T, O, I, ⟨t4, t8, t15, t24, t25, t26⟩, ⟨e0, e1, e2, e3, e4, e5⟩, c1, c2, t58, hz, h30, hκ⟩ := hs
    show wp_L_holds_117 Qm (n + 1) κ1 1 k M1
    refine ⟨fun z => absurd z (by rw [e0]; omega), fun _ => ⟨fun z => absurd z (by decide), fun _ => ⟨⟨by omega, by omega⟩, ⟨by omega, by omega⟩, fun z z0 z1 => ?_⟩⟩⟩
    have t5 := tm_r z0 (by decide : (0 : Int) < 5)
    have d5 := td_r z0 (by decide : (0 : Int) < 5)
    obtain ⟨w, ew⟩ : ∃ w, w = (if ¬ (Int.tmod z 2) = 0 then (25 : Int) else 60) := ⟨_, rfl⟩
    have hw : 25 ≤ w ∧ w ≤ 60 := by rw [ew]; split <;> omega
    have tw := tm_r d5.1 (by omega : 0 < w)
    obtain ⟨a, ea⟩ : ∃ a, a = (if (Int.tmod z 5) ≤ 2 then (0 : Int) else ((Int.tmod z 5) - 2)) := ⟨_, rfl⟩
    have ha : 0 ≤ a ∧ a ≤ 2 := by rw [ea]; split <;> omega
    rw [← ew, ← ea]
    obtain ⟨b, eb⟩ : ∃ b, b = 1 + Int.tmod (Int.tdiv z 5) w := ⟨_, rfl⟩
    rw [← eb]
    have hb : 1 ≤ b ∧ b ≤ 60 := by omega
    refine ⟨⟨by omega, by omega⟩, fun _ => ⟨⟨by omega, by omega⟩, trivial⟩, ⟨by omega, by omega⟩, ⟨by omega, by omega⟩, fun A1 a1 => ⟨⟨by omega, by omega⟩, ⟨by omega, by omega⟩, by omega, ⟨by omega, by omega⟩, ⟨by omega, by omega⟩, fun A a2 => ⟨⟨by omega, by omega⟩, ⟨by omega, by omega⟩, ⟨by omega, by omega⟩, ⟨by omega, by omega⟩, ⟨by omega, by omega⟩, ?_⟩⟩⟩
    have aN : ∀ s : Nat, s ≠ 104 → A s = M1 s := fun s hs => by rw [a2, up_ne hs, a1, up_ne hs]
    have a104 : ∀ q, A 104 0 q = if q = 4 * k + 1 then b else if q = 4 * k then a else M1 104 0 q := fun q => by
      rw [a2, up_at, a1, up_at]
      by_cases x : q = 4 * k + 1
      · rw [if_pos ⟨rfl, rfl, x⟩, if_pos x]
      · rw [if_neg (fun y => x y.2.2), if_neg x]
        by_cases y : q = 4 * k
        · rw [if_pos ⟨rfl, rfl, y⟩, if_pos y]
        · rw [if_neg (fun v => y v.2.2), if_neg y]
    have IA : Iv T O κ1 A := I.lw (fun s j i hs => by rw [aN s (by omega)])
    have x1 : A 104 0 (4 * k) = a := by rw [a104, if_neg (by omega), if_pos rfl]
    have x2 : A 104 0 (4 * k + 1) = b := by rw [a104, if_pos rfl]
    rw [x1, x2]
    refine n_column IA ha.1 ha.2 hb.1 hb.2 (by omega) t8 (fun T' O' κ' M' I' s' hκ' f4 f11 f56 f57 fT => ?_)
    rw [t4, if_neg (fun z => z rfl)]
    refine ⟨⟨by omega, by omega⟩, ⟨by omega, by omega⟩, ih (κ', M') ⟨T', O', I', ⟨by rw [f4, t4], by rw [f11 8 (by decide), t8], by rw [f11 15 (by decide), t15], by rw [f11 24 (by decide), t24], by rw [f11 25 (by decide), t25], by rw [f11 26 (by decide), t26]⟩, ?_, fun j j0 j1 => ?_, fun j => ?_, fun q => ?_, fun s hs q => ?_, ?_, fun s hs => (hκ' s (by omega)).trans (hκ s hs)⟩⟩
    · show M' 112 0 0 = m ∧ M' 112 0 1 = 0 ∧ M' 112 0 2 = 0 ∧ M' 112 0 3 = 60 ∧ M' 112 0 4 = 30 ∧ M' 112 0 5 = 0
      rw [s'.1 112 (by decide), aN 112 (by decide)]
      exact ⟨e0, e1, e2, e3, e4, e5⟩
    · show M' 104 0 (4 * j) = T' 56 0 j ∧ M' 104 0 (4 * j + 1) = T' 57 0 j
      rw [s'.1 104 (by decide), f56, f57, t4]
      by_cases x : j = k
      · rw [x, if_pos rfl, if_pos rfl]
        exact ⟨x1, x2⟩
      · rw [if_neg x, if_neg x, a104, a104, if_neg (by omega), if_neg (by omega), if_neg (by omega), if_neg (by omega)]
        exact c1 j j0 (by omega)
    · show M' 104 0 (4 * j + 2) = 0 ∧ M' 104 0 (4 * j + 3) = 0
      rw [s'.1 104 (by decide), a104, a104, if_neg (by omega), if_neg (by omega), if_neg (by omega), if_neg (by omega)]
      exact c2 j
    · show T' 58 0 q = 0 ∧ T' 59 0 q = 0
      rw [fT 58 (by decide) (by decide), fT 59 (by decide) (by decide)]
      exact t58 q
    · show M' s 0 q = 0
      rw [s'.1 s (by omega), aN s (by omega)]
      exact hz s hs q
    · show M' 11 0 30 = 0
      rw [s'.2, aN 11 (by decide)]
      exact h30
theorem look_iv (h : Iv T O κ M) {M2 M' : Mem} (K2 : zKO (zkeep T (zpg T)) M2) (d2 : zDR T M2) (f : ∀ (s : Nat) (j k : Int), ¬ (zRF s j k ∨ (j = 1 ∧ (s = 7 ∨ (38 ≤ s ∧ s ≤ 44)))) → M2 s j k = M s j k) (hM : ∀ (s : Nat) (j k : Int), ¬ (s = 11 ∧ j = 0 ∧ k = 58) → M' s j k = M2 s j k) (hR' : zOR T (zkeep T (zpg T)) M') : Iv T (zkeep T (zpg T)) κ M' := by
  obtain ⟨hG, hL, hA, hO, hR, hk, hd, hp, hw, hb⟩ := h
  have fb : ∀ (s : Nat) (j k : Int), (s = 24 ∨ s = 27 ∨ s = 36 ∨ s = 77 ∨ s = 78 ∨ s = 79 ∨ s = 4 ∨ (s = 11 ∧ k = 30)) → M' s j k = M s j k := fun s j k a => by
    rw [hM s j k (by omega), f s j k (by simp only [zRF, zCP]; omega)]
  refine ⟨hG, hL, fun s j k hz => ?_, zkeep_os hG, hR', K2.fr (fun s k a => hM s 1 k (by omega)), fun _ => d2.fr (fun s k a => hM s 0 k (by omega)), hp, hw, hb.fr rfl rfl rfl (fb 11 0 30 (by omega)) (fb 4 0 7 (by omega)) (fun j k => fb 24 j k (by omega)) (fun j k => fb 27 j k (by omega)) (fun j k => fb 36 j k (by omega)) (fun k => fb 77 0 k (by omega)) (fun k => fb 78 0 k (by omega)) (fun k => fb 79 0 k (by omega))⟩
  have hz' := hz
  simp only [zin, Bool.or_eq_true, Bool.and_eq_true, decide_eq_true_eq] at hz'
  rw [hM s j k (by omega), f s j k (by simp only [zRF, zCP]; omega)]
  exact hA s j k hz
theorem zoth_keep (h4 : T 11 0 4 = 0) (S : zSt) (p : Int) : ¬ zoth T S (zkeep T S) p := by
  rintro ((h | h) | ⟨c, c0, c1, h⟩)
  · exact h ⟨rfl, fun i _ _ => ⟨rfl, rfl, rfl⟩⟩
  · exact h rfl
  · omega
theorem zpg_M0 (hG : Good T) (t4 : T 11 0 4 = 0) (t8 : T 11 0 8 = 0) (t26 : T 11 0 26 = 0) : zpg T = zS0 T := by
  have hm : T 64 0 1 = 0 := by
    obtain ⟨-, -, -, -, -, -, -, g0, g1, g2, gs, -⟩ := hG.n
    omega
  have ha : zat T = 0 := by
    unfold zat
    rw [t4]
    exact zF_self _ _ (Int.le_refl _)
  have hn : znn T = 0 := by
    rw [znn_n, zi2_n, hm, if_pos ha, if_neg (fun z => z.1 t26), show zi1 T 0 = (fun _ _ => 0 : zSt) from zF_self _ _ (Int.le_refl _)]
    rfl
  exact zit_done (Or.inr (by rw [hn]; exact Int.le_refl _)) 1900
set_option maxHeartbeats 4000000 in
theorem j_h66 (h : Iv T (fun _ _ => 0) κ M) (hT : T 11 0 4 = 0 ∧ T 11 0 8 = 0 ∧ T 11 0 15 = 0 ∧ T 11 0 24 = 60 ∧ T 11 0 25 = 30 ∧ T 11 0 26 = 0) (h58 : ∀ q, T 58 0 q = 0 ∧ T 59 0 q = 0) (h100 : M 100 0 0 = 0) (hz : ∀ s : Nat, (104 ≤ s ∧ s ≤ 112) ∨ (77 ≤ s ∧ s ≤ 79) → ∀ q, M s 0 q = 0) (h30 : M 11 0 30 = 0) (hκ : ∀ s : Nat, (114 ≤ s ∧ s ≤ 117) → κ s = 0) (hQ : Qm 1) : wp_L_holds_66 Qm κ M := by
  obtain ⟨t4, t8, t15, t24, t25, t26⟩ := hT
  have hG := h.1
  have eS := zpg_M0 hG t4 t8 t26
  have s1 : zpg T 0 1 = 1 := by rw [eS]; rfl
  have s0 : zpg T 0 0 = 0 := by rw [eS]; rfl
  have s6 : zpg T 6 0 = 0 := by rw [eS]; rfl
  have k01 : zkeep T (zpg T) 0 1 = zpg T 0 1 := rfl
  obtain ⟨-, -, -, -, hR, -⟩ := id h
  obtain ⟨r1, r2, -, -, -, r6⟩ := hR
  refine n_look h (fun M2 K2 d2 f2 => ⟨up M2 11 0 58 1, Gh.rf.up (Or.inl rfl) (inR_c (a := 1) rfl), ?_⟩)
  have v1 : zlk T (zpg T) (fun _ _ => 0) (min (zpg T 0 1) ((fun _ _ => 0 : zSt) 0 1)) = 1 := by
    unfold zlk
    rw [s1, show ((fun _ _ => 0 : zSt) 0 1) = 0 from rfl, if_neg (by decide), zS_self _ (by decide)]
    rfl
  rw [v1]
  obtain ⟨M3, e3⟩ : ∃ M3, M3 = up M2 11 0 58 1 := ⟨_, rfl⟩
  rw [← e3]
  have hM3 : ∀ (s : Nat) (j k : Int), ¬ (s = 11 ∧ j = 0 ∧ k = 58) → M3 s j k = M2 s j k := fun s j k hn => by rw [e3, up_at, if_neg hn]
  have g3 : ∀ (s : Nat) (j k : Int), ¬ (s = 11 ∧ j = 0 ∧ k = 58) → ¬ (zRF s j k ∨ (j = 1 ∧ (s = 7 ∨ (38 ≤ s ∧ s ≤ 44)))) → M3 s j k = M s j k := fun s j k a b => (hM3 s j k a).trans (f2 s j k b)
  have R3 : zOR T (zkeep T (zpg T)) M3 := by
    refine ⟨?_, ?_, fun k k0 k1 => ?_, fun p p0 p1 => ?_, fun p c p0 p1 c0 c1 => by omega, fun c c0 c1 => ?_⟩
    · show M3 11 0 54 = zpg T 0 0
      rw [g3 11 0 54 (by omega) (by simp only [zRF, zCP]; omega), s0]
      exact r1
    · show M3 11 0 58 = zpg T 0 1
      rw [e3, up_eq, s1]
    · have k1 : k < zpg T 0 0 := k1
      omega
    · have p1 : p < zpg T 0 1 := p1
      have ep : p = 0 := by omega
      show M3 100 0 p = zpg T 6 p
      rw [ep, g3 100 0 0 (by omega) (by simp only [zRF, zCP]; omega), s6]
      exact h100
    · show M3 102 0 c = if 0 ≤ c ∧ c < T 11 0 4 then ztt T c else 0
      rw [if_neg (by omega), g3 102 0 c (by omega) (by simp only [zRF, zCP]; omega)]
      exact r6 c c0 c1
  have I3 := look_iv h K2 d2 f2 hM3 R3
  refine ⟨fun z => absurd rfl z, fun _ => n_look I3 (fun M4 K4 d4 f4 => ⟨M4, Gh.rf, ?_⟩)⟩
  have v2 : zlk T (zpg T) (zkeep T (zpg T)) (min (zpg T 0 1) (zkeep T (zpg T) 0 1)) = 0 := by
    unfold zlk
    rw [k01, if_pos (Int.le_refl _), zS_zero (fun p _ _ => zbt_0 (zoth_keep t4 (zpg T) p))]
    omega
  rw [v2, if_neg (fun z => z rfl)]
  have g4 : ∀ (s : Nat) (j k : Int), ¬ (s = 11 ∧ j = 0 ∧ k = 58) → ¬ (zRF s j k ∨ (j = 1 ∧ (s = 7 ∨ (38 ≤ s ∧ s ≤ 44)))) → M4 s j k = M s j k := fun s j k a b => (f4 s j k b).trans (g3 s j k a b)
  have R4 : zOR T (zkeep T (zpg T)) M4 := R3.fr (fun s j k a b => f4 s j k (by simp only [zRF, zCP]; omega)) (f4 11 0 54 (by simp only [zRF, zCP]; omega)) (f4 11 0 58 (by simp only [zRF, zCP]; omega))
  have I4 := look_iv I3 K4 d4 f4 (fun _ _ _ _ => rfl) R4
  intro A1 a1 A2 a2 x x0 x3
  refine ⟨⟨by omega, by omega⟩, fun A a3 => ?_⟩
  have aN : ∀ s : Nat, s ≠ 112 → A s = M4 s := fun s hs => by rw [a3, up_ne hs, a2, up_ne hs, a1, up_ne hs]
  have z4 : ∀ s : Nat, (104 ≤ s ∧ s ≤ 112) ∨ (77 ≤ s ∧ s ≤ 79) → ∀ q, M4 s 0 q = 0 := fun s hs q => by
    rw [g4 s 0 q (by omega) (by simp only [zRF, zCP]; omega)]
    exact hz s hs q
  have a112 : ∀ q, A 112 0 q = if q = 0 then 1 + x else if q = 4 then 30 else if q = 3 then 60 else 0 := fun q => by
    rw [a3, up_at, a2, up_at, a1, up_at, z4 112 (by omega)]
    have st : ∀ (y v u : Int), (if (112 : Nat) = 112 ∧ (0 : Int) = 0 ∧ q = y then v else u) = if q = y then v else u := fun y v u => by
      by_cases e : q = y
      · rw [if_pos ⟨rfl, rfl, e⟩, if_pos e]
      · rw [if_neg (fun w => e w.2.2), if_neg e]
    rw [st, st, st]
  have IA : Iv T (zkeep T (zpg T)) κ A := I4.lw (fun s j i hs => by rw [aN s (by omega)])
  refine j_h117 (m := 1 + x) (by omega) (by omega) ⟨T, _, IA, ⟨t4, t8, t15, t24, t25, t26⟩, ⟨?_, ?_, ?_, ?_, ?_, ?_⟩, fun j j0 j1 => by omega, fun j => ?_, h58, fun s hs q => ?_, ?_, hκ⟩ hQ
  · rw [a112]; rfl
  · rw [a112]; rfl
  · rw [a112]; rfl
  · rw [a112]; rfl
  · rw [a112]; rfl
  · rw [a112]; rfl
  · rw [aN 104 (by decide), z4 104 (by omega), z4 104 (by omega)]
    exact ⟨rfl, rfl⟩
  · rw [aN s (by omega), z4 s (by omega)]
  · rw [aN 11 (by decide), g4 11 0 30 (by omega) (by simp only [zRF, zCP]; omega)]
    exact h30
end GD4
