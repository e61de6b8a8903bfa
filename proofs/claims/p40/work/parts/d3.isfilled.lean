/-! what the law fills in -/
section DC
variable {T M : Mem} {O : zSt} {κ : Nat → Int} {p6 p7 : Int}
theorem up_id {s : Nat} {j k v : Int} (h : M s j k = v) : up M s j k v = M := by
  funext a b c
  rw [up_at]
  split
  · rename_i hx
    rw [hx.1, hx.2.1, hx.2.2, h]
  · rfl
theorem zst_r (d : Int) (d0 : 0 ≤ d) (d2 : d ≤ 2) : (if ¬ d = 0 then (if ¬ d = 1 then (1 : Int) else 10) else 100) = zst d := rfl
theorem j_isf {a b d : Int} (a0 : 0 ≤ a) (a1 : a < b) (b1 : b = 301 ∨ b = 20001) (d0 : 0 ≤ d) (d2 : d ≤ 2) : ((-2147483648 ≤ (a - 100) * zst d ∧ (a - 100) * zst d ≤ 2147483647) ∧ zisf (if (a - 100) * zst d ≤ 1000000 then (a - 100) * zst d else 1000000) d) := by
  unfold zisf
  rcases (by omega : d = 0 ∨ d = 1 ∨ d = 2) with e | e | e
  · rw [e, show zst 0 = 100 from rfl]
    refine ⟨⟨by omega, by omega⟩, by split <;> omega, ⟨by omega, by omega⟩, ?_⟩
    have h : (if (a - 100) * 100 ≤ 1000000 then (a - 100) * 100 else 1000000) % 100 = 0 := by split <;> omega
    exact Int.tmod_eq_zero_of_dvd (Int.dvd_of_emod_eq_zero h)
  · rw [e, show zst 1 = 10 from rfl]
    refine ⟨⟨by omega, by omega⟩, by split <;> omega, ⟨by omega, by omega⟩, ?_⟩
    have h : (if (a - 100) * 10 ≤ 1000000 then (a - 100) * 10 else 1000000) % 10 = 0 := by split <;> omega
    exact Int.tmod_eq_zero_of_dvd (Int.dvd_of_emod_eq_zero h)
  · rw [e, show zst 2 = 1 from rfl]
    refine ⟨⟨by omega, by omega⟩, by split <;> omega, ⟨by omega, by omega⟩, ?_⟩
    have h : (if (a - 100) * 1 ≤ 1000000 then (a - 100) * 1 else 1000000) % 1 = 0 := by omega
    exact Int.tmod_eq_zero_of_dvd (Int.dvd_of_emod_eq_zero h)
theorem j_filled (h : Iv T O κ M) (L : zLw T M) (hz : ∀ s : Nat, (114 ≤ s ∧ s ≤ 117) → κ s = 0) (hK : 0 < T 11 0 15) (q0 : 0 ≤ p7) (q1 : p7 < 2000000000) {Qm : Int → Mem → Prop} (hq : ∀ M', zCn κ M' → Qm 1 M') : wp_L_isFilled p6 p7 M Qm := by
  have hG := h.1
  have hn := L.n
  unfold lwN at hn
  obtain ⟨m0, m1, m2, m3, m4, m5⟩ := L.m
  have hcl := tm_r q0 hK
  obtain ⟨c, ec⟩ : ∃ c, c = Int.tmod p7 (T 11 0 15) := ⟨_, rfl⟩
  unfold wp_L_isFilled
  rw [m2, ← ec]
  rw [← ec] at hcl
  obtain ⟨c0, c1⟩ := hcl
  obtain ⟨t0, t1, t2, t3, t4, t5⟩ := L.t c c0 c1
  obtain ⟨w1, w2, w3, w4, w5, w6, w7, w8, w9, w10, w11, w12⟩ := hG.cell c c0 c1
  obtain ⟨l1, l2, l3⟩ := L.w.1 c c0 c1
  have hwk := L.wok hG c0 (by omega : c < 10)
  obtain ⟨h1, h2, h3, h4, h5, h6, h7, h8, h9⟩ := id L
  have d10 := td_r q0 (by decide : (0 : Int) < 10)
  refine ⟨hK, ⟨by omega, by omega⟩, fun _ => ⟨fun _ => ⟨fun _ => ⟨⟨by omega, by omega⟩, ?_⟩, fun _ => ⟨⟨by omega, by omega⟩, hwk, ?_⟩⟩, fun _ => ?_⟩, fun _ => ?_⟩
  · -- a note
    have hv := tm_r d10.1 (by decide : (0 : Int) < 4)
    obtain ⟨v, ev⟩ : ∃ v, v = Int.tmod (Int.tdiv p7 10) 4 := ⟨_, rfl⟩
    rw [← ev] at hv ⊢
    obtain ⟨r0, -⟩ := L.r (T 65 0 c) w1.1 w1.2
    rw [t0, r0, t4]
    refine ⟨⟨by omega, by omega⟩, ⟨by omega, by omega⟩, ⟨by omega, by omega⟩, ⟨by omega, by omega⟩, ⟨by omega, by omega⟩, ⟨by omega, by omega⟩, fun N eN => ?_⟩
    by_cases hc : T 60 0 (T 65 0 c) = 1
    · have ei : (if ¬ T 60 0 (T 65 0 c) = 1 then (0 : Int) else 1) = 1 := if_neg (fun z => z hc)
      rw [ei, if_neg (by decide)] at eN
      have hN : ∀ s : Nat, s ≠ 107 → N s = M s := fun s hs => by rw [eN]; exact up_ne hs
      have hI : Iv T O κ N := h.lw (fun s j i hs => by rw [hN s (by omega)])
      refine n_note hI ⟨c0, c1⟩ hv.1 (by omega) (fun _ T' M' I' s' f76 fT => ?_) (fun z => absurd hc z)
      rw [ei, if_neg (c := (1 : Int) = 0) (by decide), if_neg (fun z => z rfl)]
      refine ⟨bit_1, hq M' ⟨T', O, I', ?_, hz⟩⟩
      have eM : ∀ s : Nat, 104 ≤ s → s ≠ 107 → M' s = M s := fun s a b => (s'.1 s (by omega)).trans (hN s b)
      have e11 : ∀ k, T' 11 0 k = T 11 0 k := fun k => by rw [fT 11 (by decide) (by decide)]
      have eT : ∀ s : Nat, 34 ≤ s → s ≠ 76 → T' s = T s := fun s a b => fT s (by omega) b
      refine ⟨h1.cg (fun k _ => e11 k) (eM 112 (by decide) (by decide)), h2.cg (fun k _ => e11 k), h3.cg (e11 4) (fun s a b => eT s (by omega) (by omega)) (eM 104 (by decide) (by decide)), h4.cg (e11 8) (fun s a b => eT s (by omega) (by omega)) (eM 105 (by decide) (by decide)), h5.cg (e11 8) (eT 63 (by decide) (by decide)) (eT 64 (by decide) (by decide)) (eM 106 (by decide) (by decide)), ?_, h7.cg (e11 15) (fun s a => eT s (by omega) (by omega)) (eM 109 (by decide) (by decide)), h8.cg (e11 15) (fun s a => eT s (by omega) (by omega)) (eM 108 (by decide) (by decide)), h9.cg (fun s a => (s'.1 s (by omega)).trans (hN s (by omega))) (s'.2.trans (by rw [hN 11 (by decide)]))⟩
      unfold lwT
      rw [e11 15, s'.1 107 (by decide), eN, eT 65 (by decide) (by decide), eT 66 (by decide) (by decide), eT 67 (by decide) (by decide), eT 68 (by decide) (by decide), eT 73 (by decide) (by decide), eT 75 (by decide) (by decide)]
      intro i i0 i1
      obtain ⟨x0, x1, x2, x3, x4, x5⟩ := h6 i i0 i1
      refine ⟨(up_k _ _ _ _ _ _ (by omega)).trans x0, (up_k _ _ _ _ _ _ (by omega)).trans x1, (up_k _ _ _ _ _ _ (by omega)).trans x2, (up_k _ _ _ _ _ _ (by omega)).trans x3, ?_, (up_k _ _ _ _ _ _ (by omega)).trans x5⟩
      rw [f76]
      by_cases e : i = c
      · rw [e, up_eq, if_pos rfl]
      · rw [if_neg e]; exact (up_k _ _ _ _ _ _ (by omega)).trans x4
    · have ei : (if ¬ T 60 0 (T 65 0 c) = 1 then (0 : Int) else 1) = 0 := if_pos hc
      rw [ei, if_pos rfl, up_id t4] at eN
      rw [eN]
      refine n_note h ⟨c0, c1⟩ hv.1 (by omega) (fun z => absurd z hc) (fun _ => ?_)
      rw [ei, if_pos (c := (0 : Int) = 0) rfl, if_neg (fun z => z rfl)]
      exact ⟨bit_1, hq M ⟨T, O, h, L, hz⟩⟩
  · -- emptied
    rw [l1]
    refine ⟨⟨by omega, by omega⟩, fun N1 e1 => ⟨⟨by omega, by omega⟩, ⟨by omega, by omega⟩, fun N eN => ?_⟩⟩
    have hN : ∀ s : Nat, s ≠ 107 → s ≠ 108 → N s = M s := fun s hs hs2 => by
      rw [eN, up_ne hs, e1]
      funext j k
      exact if_neg (fun z => hs2 z.1)
    have hI : Iv T O κ N := h.lw (fun s j i hs => by rw [hN s (by omega) (by omega)])
    have n107 : N 107 = up M 107 0 (6 * c + 5) (-1) 107 := by
      rw [eN, e1]
      funext j k
      rw [up_at, up_at]
      split
      · rfl
      · exact if_neg (fun z => absurd z.1 (by decide))
    have n108 : N 108 = wZ M c 108 := by rw [eN, up_ne (by decide), e1]
    refine n_empty hI ⟨c0, c1⟩ (fun T' M' I' s' f72 f73 fT => ?_)
    rw [if_neg (fun z => z rfl)]
    refine ⟨bit_1, hq M' ⟨T', O, I', ?_, hz⟩⟩
    have eM : ∀ s : Nat, 104 ≤ s → s ≠ 107 → s ≠ 108 → M' s = M s := fun s a b b2 => (s'.1 s (by omega)).trans (hN s b b2)
    have e11 : ∀ k, T' 11 0 k = T 11 0 k := fun k => by rw [fT 11 (by decide) (by decide) (by decide)]
    have eT : ∀ s : Nat, 34 ≤ s → s ≠ 72 → s ≠ 73 → T' s = T s := fun s a b b2 => fT s (by omega) b b2
    refine ⟨h1.cg (fun k _ => e11 k) (eM 112 (by decide) (by decide) (by decide)), h2.cg (fun k _ => e11 k), h3.cg (e11 4) (fun s a b => eT s (by omega) (by omega) (by omega)) (eM 104 (by decide) (by decide) (by decide)), h4.cg (e11 8) (fun s a b => eT s (by omega) (by omega) (by omega)) (eM 105 (by decide) (by decide) (by decide)), h5.cg (e11 8) (eT 63 (by decide) (by decide) (by decide)) (eT 64 (by decide) (by decide) (by decide)) (eM 106 (by decide) (by decide) (by decide)), ?_, ?_, ?_, h9.cg (fun s a => (s'.1 s (by omega)).trans (hN s (by omega) (by omega))) (s'.2.trans (by rw [hN 11 (by decide) (by decide)]))⟩
    · unfold lwT
      rw [e11 15, s'.1 107 (by decide), n107, eT 65 (by decide) (by decide) (by decide), eT 66 (by decide) (by decide) (by decide), eT 67 (by decide) (by decide) (by decide), eT 68 (by decide) (by decide) (by decide), eT 76 (by decide) (by decide) (by decide), eT 75 (by decide) (by decide) (by decide)]
      intro i i0 i1
      obtain ⟨x0, x1, x2, x3, x4, x5⟩ := h6 i i0 i1
      refine ⟨(up_k _ _ _ _ _ _ (by omega)).trans x0, (up_k _ _ _ _ _ _ (by omega)).trans x1, (up_k _ _ _ _ _ _ (by omega)).trans x2, (up_k _ _ _ _ _ _ (by omega)).trans x3, (up_k _ _ _ _ _ _ (by omega)).trans x4, ?_⟩
      rw [f73]
      by_cases e : i = c
      · rw [e, up_eq, if_pos rfl, if_neg (by decide)]
      · rw [if_neg e]; exact (up_k _ _ _ _ _ _ (by omega)).trans x5
    · unfold lwF
      rw [e11 15, eM 109 (by decide) (by decide) (by decide), eT 74 (by decide) (by decide) (by decide)]
      intro i i0 i1 hi
      rw [f73] at hi
      by_cases e : i = c
      · rw [if_pos e] at hi; exact absurd hi (by decide)
      · rw [if_neg e] at hi; exact h7 i i0 i1 hi
    · obtain ⟨g1, g2⟩ := h8
      have zo : ∀ i k, i ≠ c → 0 ≤ k → k ≤ 10 → wZ M c 108 0 (16 * i + k) = M 108 0 (16 * i + k) := fun i k a b d => if_neg (by omega)
      have zi : ∀ k, 0 ≤ k → k ≤ 10 → wZ M c 108 0 (16 * c + k) = 0 := fun k b d => if_pos ⟨rfl, rfl, by omega, by omega⟩
      have z0 : ∀ i, i ≠ c → wZ M c 108 0 (16 * i) = M 108 0 (16 * i) := fun i a => by have := zo i 0 a (by decide) (by decide); rw [Int.add_zero] at this; exact this
      have zc : wZ M c 108 0 (16 * c) = 0 := by have := zi 0 (by decide) (by decide); rw [Int.add_zero] at this; exact this
      unfold lwW
      rw [e11 15, s'.1 108 (by decide), n108, eT 70 (by decide) (by decide) (by decide), eT 71 (by decide) (by decide) (by decide)]
      refine ⟨fun i i0 i1 => ?_, fun i i0 i1 => ?_⟩
      · obtain ⟨x1, x2, x3⟩ := g1 i i0 i1
        rw [f72]
        by_cases e : i = c
        · rw [if_pos e, e, zc]
          exact ⟨rfl, by decide, fun k a b => by omega⟩
        · rw [if_neg e, z0 i e]
          refine ⟨x1, x2, fun k a b => ?_⟩
          rw [zo i _ e (by omega) (by omega), zo i _ e (by omega) (by omega)]
          exact x3 k a b
      · obtain ⟨x1, x2⟩ := g2 i i0 i1
        by_cases e : i = c
        · rw [e, zc]
          exact ⟨fun _ => rfl, fun k a b => zi k (by omega) b⟩
        · rw [z0 i e]
          have hw := L.wok hG i0 i1
          refine ⟨x1, fun k a b => ?_⟩
          rw [zo i k e (by have := hw.2.1; omega) b]
          exact x2 k a b
  · -- a figure
    have hd := tm_r d10.1 (by decide : (0 : Int) < 3)
    obtain ⟨d, ed⟩ : ∃ d, d = Int.tmod (Int.tdiv p7 10) 3 := ⟨_, rfl⟩
    obtain ⟨b, eb⟩ : ∃ b, b = (if ¬ (Int.tmod p7 4) = 0 then (301 : Int) else 20001) := ⟨_, rfl⟩
    have hb : b = 301 ∨ b = 20001 := by rw [eb]; split <;> omega
    rw [← ed] at hd ⊢
    rw [← eb]
    have d30 := td_r q0 (by decide : (0 : Int) < 30)
    have ha := tm_r d30.1 (by omega : 0 < b)
    obtain ⟨a, ea⟩ : ∃ a, a = Int.tmod (Int.tdiv p7 30) b := ⟨_, rfl⟩
    rw [← ea] at ha ⊢
    rw [zst_r d hd.1 (by omega)]
    obtain ⟨hi, hf⟩ := j_isf ha.1 ha.2 hb hd.1 (by omega : d ≤ 2)
    obtain ⟨F, eF⟩ : ∃ F, F = (if (a - 100) * zst d ≤ 1000000 then (a - 100) * zst d else 1000000) := ⟨_, rfl⟩
    rw [← eF] at hf ⊢
    refine ⟨by omega, ⟨by omega, by omega⟩, hi, ⟨by omega, by omega⟩, hwk, ?_⟩
    rw [l1]
    dsimp only
    rw [t2, t3]
    obtain ⟨cn, ecn⟩ : ∃ cn, cn = (if ¬ T 72 0 c = 0 then (0 : Int) else (if ¬ T 67 0 c = 1 then (0 : Int) else (if ¬ T 68 0 c = 1 then (0 : Int) else 1))) := ⟨_, rfl⟩
    have hcn : (cn = 1 ∧ (T 72 0 c = 0 ∧ T 67 0 c = 1 ∧ T 68 0 c = 1)) ∨ (cn = 0 ∧ ¬ (T 72 0 c = 0 ∧ T 67 0 c = 1 ∧ T 68 0 c = 1)) := by
      rw [ecn]
      repeat' split
      all_goals omega
    rw [← ecn]
    refine ⟨fun _ => ⟨⟨by omega, by omega⟩, ⟨by omega, by omega⟩, fun _ => ⟨⟨by omega, by omega⟩, ⟨by omega, by omega⟩, trivial⟩, trivial⟩, ⟨by omega, by omega⟩, fun _ => ⟨⟨by omega, by omega⟩, ⟨by omega, by omega⟩, trivial⟩, ⟨by omega, by omega⟩, fun N1 e1 => ⟨fun _ => ⟨⟨by omega, by omega⟩, trivial⟩, ⟨by omega, by omega⟩, fun N eN => ?_⟩⟩
    rcases hcn with ⟨hc, hcc⟩ | ⟨hc, hcc⟩
    · rw [hc, if_neg (by decide)] at e1
      rw [hc, if_neg (by decide)] at eN
      rw [hc]
      have hN : ∀ s : Nat, s ≠ 107 → s ≠ 109 → N s = M s := fun s hs hs2 => by rw [eN, up_ne hs2, e1, up_ne hs]
      have hI : Iv T O κ N := h.lw (fun s j i hs => by rw [hN s (by omega) (by omega)])
      refine n_figure hI ⟨c0, c1⟩ hf (fun _ T' M' I' s' f73 f74 f75 fT => ?_) (fun z => absurd hcc z)
      rw [if_neg (c := (1 : Int) = 0) (by decide), if_neg (fun z => z rfl)]
      refine ⟨bit_1, hq M' ⟨T', O, I', ?_, hz⟩⟩
      have eM : ∀ s : Nat, 104 ≤ s → s ≠ 107 → s ≠ 109 → M' s = M s := fun s a b b2 => (s'.1 s (by omega)).trans (hN s b b2)
      have e11 : ∀ k, T' 11 0 k = T 11 0 k := fun k => by rw [fT 11 (by decide) (by decide) (by decide) (by decide)]
      have eT : ∀ s : Nat, 34 ≤ s → ¬ (73 ≤ s ∧ s ≤ 75) → T' s = T s := fun s a b => fT s (by omega) (by omega) (by omega) (by omega)
      refine ⟨h1.cg (fun k _ => e11 k) (eM 112 (by decide) (by decide) (by decide)), h2.cg (fun k _ => e11 k), h3.cg (e11 4) (fun s a b => eT s (by omega) (by omega)) (eM 104 (by decide) (by decide) (by decide)), h4.cg (e11 8) (fun s a b => eT s (by omega) (by omega)) (eM 105 (by decide) (by decide) (by decide)), h5.cg (e11 8) (eT 63 (by decide) (by decide)) (eT 64 (by decide) (by decide)) (eM 106 (by decide) (by decide) (by decide)), ?_, ?_, h8.cg (e11 15) (fun s a => eT s (by omega) (by omega)) (eM 108 (by decide) (by decide) (by decide)), h9.cg (fun s a => (s'.1 s (by omega)).trans (hN s (by omega) (by omega))) (s'.2.trans (by rw [hN 11 (by decide) (by decide)]))⟩
      · unfold lwT
        rw [e11 15, s'.1 107 (by decide), eN, up_ne (by decide), e1, eT 65 (by decide) (by decide), eT 66 (by decide) (by decide), eT 67 (by decide) (by decide), eT 68 (by decide) (by decide), eT 76 (by decide) (by decide)]
        intro i i0 i1
        obtain ⟨x0, x1, x2, x3, x4, x5⟩ := h6 i i0 i1
        refine ⟨(up_k _ _ _ _ _ _ (by omega)).trans x0, (up_k _ _ _ _ _ _ (by omega)).trans x1, (up_k _ _ _ _ _ _ (by omega)).trans x2, (up_k _ _ _ _ _ _ (by omega)).trans x3, (up_k _ _ _ _ _ _ (by omega)).trans x4, ?_⟩
        rw [f73, f75]
        by_cases e : i = c
        · rw [e, up_eq, if_pos rfl, if_pos rfl, if_pos rfl]
        · rw [if_neg e, if_neg e]; exact (up_k _ _ _ _ _ _ (by omega)).trans x5
      · unfold lwF
        rw [e11 15, s'.1 109 (by decide), eN]
        intro i i0 i1 hi
        rw [f74]
        by_cases e : i = c
        · rw [e, up_eq, if_pos rfl]
        · rw [f73, if_neg e] at hi
          rw [if_neg e]
          exact (up_k _ _ _ _ _ _ (by omega)).trans ((congrFun (congrFun (show N1 109 = M 109 by rw [e1]; exact up_ne (by decide)) 0) i).trans (h7 i i0 i1 hi))
    · rw [hc, if_pos rfl, up_id rfl] at e1
      rw [hc, if_pos rfl, up_id rfl, e1] at eN
      rw [hc, eN]
      refine n_figure h ⟨c0, c1⟩ hf (fun z => absurd z hcc) (fun _ => ?_)
      rw [if_pos (c := (0 : Int) = 0) rfl, if_neg (fun z => z rfl)]
      exact ⟨bit_1, hq M ⟨T, O, h, L, hz⟩⟩
  · -- a word
    have d3 := td_r q0 (by decide : (0 : Int) < 3)
    have t34 := tm_r d3.1 (by decide : (0 : Int) < 4)
    obtain ⟨b, eb⟩ : ∃ b, b = (if ¬ (Int.tmod (Int.tdiv p7 3) 4) = 0 then (9 : Int) else 20) := ⟨_, rfl⟩
    have hb : b = 9 ∨ b = 20 := by rw [eb]; split <;> omega
    rw [← eb]
    have ha := tm_r d10.1 (by omega : 0 < b)
    obtain ⟨ln, eln⟩ : ∃ ln, ln = 1 + Int.tmod (Int.tdiv p7 10) b := ⟨_, rfl⟩
    have hln : 1 ≤ ln ∧ ln ≤ 20 := by omega
    rw [← eln]
    have d400 := td_r q0 (by decide : (0 : Int) < 400)
    have hct0 := tm_r d400.1 (by omega : 0 < ln)
    obtain ⟨ct, ect⟩ : ∃ ct, ct = (if ¬ (Int.tmod (Int.tdiv p7 200) 2) = 0 then (Int.tmod (Int.tdiv p7 400) ln) else 0) := ⟨_, rfl⟩
    have hct : 0 ≤ ct ∧ ct < ln := by
      rw [ect]
      split <;> omega
    rw [← ect]
    refine ⟨by omega, ⟨by omega, by omega⟩, fun _ => ⟨by omega, trivial⟩, ⟨by omega, by omega⟩, ⟨by omega, by omega⟩, hwk, ?_⟩
    rw [l1]
    dsimp only
    rw [t5]
    by_cases z73 : T 73 0 c = 1
    · have z72 := (w11 z73).1
      have can0 : (if 0 ≤ (if T 73 0 c = 1 then T 75 0 c else -1) then (0 : Int) else 1) = 0 := by rw [if_pos z73, if_pos w9.1]
      rw [can0]
      have go : wp_L_isFilled_111 p6 p7 Qm c ln ct (T 72 0 c) 0 M := by
        refine ⟨fun _ => n_word h ⟨c0, c1⟩ hln.1 hln.2 hct.1 hct.2 (fun z => absurd z (by omega)) (by omega) (fun _ => ?_), fun z => absurd rfl z⟩
        rw [if_pos (c := (0 : Int) = 0) rfl, if_neg (fun z => z rfl)]
        exact ⟨fun z => absurd rfl z, ⟨by omega, by omega⟩, bit_1, hq M ⟨T, O, h, L, hz⟩⟩
      exact ⟨⟨by omega, by omega⟩, ⟨by omega, by omega⟩, fun _ => go, fun _ => ⟨fun _ => go, fun z => absurd rfl z⟩⟩
    · have can1 : (if 0 ≤ (if T 73 0 c = 1 then T 75 0 c else -1) then (0 : Int) else 1) = 1 := by rw [if_neg z73, if_neg (by decide)]
      rw [can1]
      refine ⟨⟨by omega, by omega⟩, ⟨by omega, by omega⟩, fun n5 => ⟨fun z => absurd z (by decide), fun _ => ?_⟩, fun _ => ⟨fun z => absurd z (by decide), fun _ => hq M ⟨T, O, h, L, hz⟩⟩⟩
      obtain ⟨wd, ewd⟩ : ∃ wd, wd = T 72 0 c := ⟨_, rfl⟩
      rw [← ewd] at l1 l2 l3 n5 w6 ⊢
      obtain ⟨g1, g2⟩ := h8
      obtain ⟨gc1, gc2⟩ := g2 c c0 (by omega)
      rw [l1] at gc2
      refine ⟨⟨⟨by omega, by omega⟩, hwk, ⟨by omega, by omega⟩, ⟨by omega, by omega⟩, ⟨by omega, by omega⟩, gc2⟩, fun N eN => ?_⟩
      have hN : ∀ s : Nat, s ≠ 108 → N s = M s := fun s hs => by rw [eN]; unfold wW; rw [up_ne hs, up_ne hs, up_ne hs]
      have hI : Iv T O κ N := h.lw (fun s j i hs => by rw [hN s (by omega)])
      refine n_word hI ⟨c0, c1⟩ hln.1 hln.2 hct.1 hct.2 (fun _ T' M' I' s' f72 f70 f71 fT => ?_) (by omega) (fun z => absurd z (fun y => y (by omega)))
      rw [← ewd] at f72 f70 f71 ⊢
      rw [if_neg (c := (1 : Int) = 0) (by decide), if_neg (fun z => z rfl)]
      refine ⟨fun _ => ⟨⟨by omega, by omega⟩, trivial⟩, ⟨by omega, by omega⟩, bit_1, hq M' ⟨T', O, I', ?_, hz⟩⟩
      have eM : ∀ s : Nat, 104 ≤ s → s ≠ 108 → M' s = M s := fun s a b => (s'.1 s (by omega)).trans (hN s b)
      have e11 : ∀ k, T' 11 0 k = T 11 0 k := fun k => by rw [fT 11 (by decide) (by decide) (by decide) (by decide) (by decide) (by decide)]
      have eT : ∀ s : Nat, 34 ≤ s → ¬ (70 ≤ s ∧ s ≤ 72) → T' s = T s := fun s a b => fT s (by omega) (by omega) (by omega) (by omega) (by omega) (by omega)
      refine ⟨h1.cg (fun k _ => e11 k) (eM 112 (by decide) (by decide)), h2.cg (fun k _ => e11 k), h3.cg (e11 4) (fun s a b => eT s (by omega) (by omega)) (eM 104 (by decide) (by decide)), h4.cg (e11 8) (fun s a b => eT s (by omega) (by omega)) (eM 105 (by decide) (by decide)), h5.cg (e11 8) (eT 63 (by decide) (by decide)) (eT 64 (by decide) (by decide)) (eM 106 (by decide) (by decide)), h6.cg (e11 15) (fun s a => eT s (by omega) (by omega)) (eM 107 (by decide) (by decide)), h7.cg (e11 15) (fun s a => eT s (by omega) (by omega)) (eM 109 (by decide) (by decide)), ?_, h9.cg (fun s a => (s'.1 s (by omega)).trans (hN s (by omega))) (s'.2.trans (by rw [hN 11 (by decide)]))⟩
      have n108 : ∀ q, M' 108 0 q = if q = 16 * c then wd + 1 else if q = 16 * c + (2 + 2 * wd) then ct else if q = 16 * c + (1 + 2 * wd) then ln else M 108 0 q := fun q => by
        rw [s'.1 108 (by decide), eN]
        unfold wW
        rw [up_at, up_at, up_at]
        by_cases a1 : q = 16 * c
        · rw [if_pos ⟨rfl, rfl, a1⟩, if_pos a1]
        · rw [if_neg (fun z => a1 z.2.2), if_neg a1]
          by_cases a2 : q = 16 * c + (2 + 2 * wd)
          · rw [if_pos ⟨rfl, rfl, a2⟩, if_pos a2]
          · rw [if_neg (fun z => a2 z.2.2), if_neg a2]
            by_cases a3 : q = 16 * c + (1 + 2 * wd)
            · rw [if_pos ⟨rfl, rfl, a3⟩, if_pos a3]
            · rw [if_neg (fun z => a3 z.2.2), if_neg a3]
      have zo : ∀ i k, i ≠ c → 0 ≤ k → k ≤ 10 → M' 108 0 (16 * i + k) = M 108 0 (16 * i + k) := fun i k a b d => by
        rw [n108, if_neg (by omega), if_neg (by omega), if_neg (by omega)]
      have z0 : ∀ i, i ≠ c → M' 108 0 (16 * i) = M 108 0 (16 * i) := fun i a => by have := zo i 0 a (by decide) (by decide); rw [Int.add_zero] at this; exact this
      have zc : M' 108 0 (16 * c) = wd + 1 := by rw [n108, if_pos rfl]
      unfold lwW
      rw [e11 15]
      refine ⟨fun i i0 i1 => ?_, fun i i0 i1 => ?_⟩
      · obtain ⟨x1, x2, x3⟩ := g1 i i0 i1
        rw [f72]
        by_cases e : i = c
        · rw [if_pos e, e, zc]
          refine ⟨rfl, by omega, fun k a b => ?_⟩
          rw [f70, f71, n108, n108]
          by_cases ek : k = wd
          · rw [if_neg (by omega), if_neg (by omega), if_pos (by omega), if_pos (by omega), if_neg (by omega), if_pos (by omega), if_pos (by omega)]
            exact ⟨rfl, rfl⟩
          · rw [if_neg (by omega), if_neg (by omega), if_neg (by omega), if_neg (by omega), if_neg (by omega), if_neg (by omega), if_neg (by omega), if_neg (by omega)]
            exact l3 k a (by omega)
        · rw [if_neg e, z0 i e]
          refine ⟨x1, x2, fun k a b => ?_⟩
          rw [zo i _ e (by omega) (by omega), zo i _ e (by omega) (by omega), f70, f71, if_neg (by omega), if_neg (by omega)]
          exact x3 k a b
      · obtain ⟨x1, x2⟩ := g2 i i0 i1
        by_cases e : i = c
        · rw [e, zc]
          refine ⟨fun z => by omega, fun k a b => ?_⟩
          rw [n108, if_neg (by omega), if_neg (by omega), if_neg (by omega)]
          exact gc2 k (by omega) b
        · rw [z0 i e]
          have hw := L.wok hG i0 i1
          refine ⟨x1, fun k a b => ?_⟩
          rw [zo i k e (by have := hw.2.1; omega) b]
          exact x2 k a b
end DC
