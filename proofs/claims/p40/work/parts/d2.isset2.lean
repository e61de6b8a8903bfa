/-! the law's settings, whole -/
section DB
variable {T M : Mem} {O : zSt} {κ : Nat → Int} {p5 p6 y7 : Int}
theorem zsh_cg {T' : Mem} (e4 : T' 11 0 4 = T 11 0 4) : T' 11 0 4 = T 11 0 4 := e4
theorem j_hidden (h : Iv T O κ M) (L : zLw T M) (hz : ∀ s : Nat, (114 ≤ s ∧ s ≤ 117) → κ s = 0) {k : Int} (k0 : 0 ≤ k) (k1 : k < T 11 0 4) (hn : ¬ (T 59 0 k = 0 ∧ zvis T = 1)) {Qf : Int → Mem → Prop} (hq : ∀ M', zCn κ M' → M' 104 0 (4 * k + 3) = 1 - T 59 0 k → Qf (1 - T 59 0 k) M') : wp_L_hid k (up M 104 0 (4 * k + 3) (1 - T 59 0 k)) (fun x M1 => ∃ M2, Gh M1 M2 ∧ Qf x M2) := by
  obtain ⟨N, eN⟩ : ∃ N, N = up M 104 0 (4 * k + 3) (1 - T 59 0 k) := ⟨_, rfl⟩
  rw [← eN]
  have hN : ∀ s : Nat, s ≠ 104 → N s = M s := fun s hs => by rw [eN]; exact up_ne hs
  have hI : Iv T O κ N := h.lw (fun s j i hs => by rw [hN s (by omega)])
  refine n_hide hI ⟨k0, k1⟩ (fun _ T' M' I' s' f59 fT => ?_) (fun z => absurd z hn)
  have s104 := s'.1 104 (by decide)
  refine hq M' ⟨T', O, I', ?_, hz⟩ (by rw [s104, eN, up_eq])
  obtain ⟨h1, h2, h3, h4, h5, h6, h7, h8, h9⟩ := L
  have eM : ∀ s : Nat, 104 ≤ s → s ≠ 104 → M' s = M s := fun s a b => (s'.1 s (by omega)).trans (hN s b)
  have e11 : ∀ k, T' 11 0 k = T 11 0 k := fun k => by rw [fT 11 (by decide) (by decide) (by decide)]
  have eT : ∀ s : Nat, 34 ≤ s → s ≠ 59 → T' s = T s := fun s a b => fT s (by omega) (by omega) b
  refine ⟨h1.cg (fun k _ => e11 k) (eM 112 (by decide) (by decide)), h2.cg (fun k _ => e11 k), ?_, h4.cg (e11 8) (fun s a b => eT s (by omega) (by omega)) (eM 105 (by decide) (by decide)), h5.cg (e11 8) (eT 63 (by decide) (by decide)) (eT 64 (by decide) (by decide)) (eM 106 (by decide) (by decide)), h6.cg (e11 15) (fun s a => eT s (by omega) (by omega)) (eM 107 (by decide) (by decide)), h7.cg (e11 15) (fun s a => eT s (by omega) (by omega)) (eM 109 (by decide) (by decide)), h8.cg (e11 15) (fun s a => eT s (by omega) (by omega)) (eM 108 (by decide) (by decide)), h9.cg (fun s a => (s'.1 s (by omega)).trans (hN s (by omega))) (s'.2.trans (by rw [hN 11 (by decide)]))⟩
  unfold lwC
  rw [e11 4, eT 56 (by decide) (by decide), eT 57 (by decide) (by decide), eT 58 (by decide) (by decide), s104, eN]
  intro i i0 i1
  obtain ⟨a, b, c, d⟩ := h3 i i0 i1
  rw [up_k _ _ _ _ _ _ (by omega), up_k _ _ _ _ _ _ (by omega), up_k _ _ _ _ _ _ (by omega), f59]
  refine ⟨a, b, c, ?_⟩
  by_cases e : i = k
  · rw [e, up_eq, if_pos rfl]
  · rw [up_k _ _ _ _ _ _ (by omega), if_neg e]; exact d
theorem j_isSet (h : Iv T O κ M) (L : zLw T M) (hz : ∀ s : Nat, (114 ≤ s ∧ s ≤ 117) → κ s = 0) (hR : 0 < T 11 0 8) (q0 : 0 ≤ p6) (q1 : p6 < 2000000000) {Qm : Int → Mem → Prop} (hq : ∀ M', zCn κ M' → Qm 1 M') : wp_L_isSet p5 p6 M Qm := by
  have hG := h.1
  have hn := L.n
  unfold lwN at hn
  obtain ⟨m0, m1, m2, m3, m4, m5⟩ := L.m
  have hC : 0 < T 11 0 4 := by omega
  have hcol := tm_r q0 hC
  obtain ⟨k, ek⟩ : ∃ k, k = Int.tmod p6 (T 11 0 4) := ⟨_, rfl⟩
  have h50 := td_r q0 (by decide : (0 : Int) < 50)
  have h300 := td_r q0 (by decide : (0 : Int) < 300)
  have hw6 := tm_r h50.1 (by decide : (0 : Int) < 6)
  have hs4 := tm_r h300.1 (by decide : (0 : Int) < 4)
  have g385 := j_isSet385 (p5 := p5) h L hz hR q0 q1 hcol.1 hcol.2 hw6.1 (by omega : Int.tmod (Int.tdiv p6 50) 6 ≤ 5) hs4.1 (by omega : Int.tmod (Int.tdiv p6 300) 4 ≤ 3) hq
  unfold wp_L_isSet
  rw [m0, ← ek]
  rw [← ek] at hcol g385
  obtain ⟨c0, c1, c2, c3⟩ := L.c k hcol.1 hcol.2
  obtain ⟨v0, v1, v2, v3⟩ := hG.col k hcol.1 hcol.2
  refine ⟨fun _ => ⟨hC, fun _ => ⟨fun _ => ⟨fun _ => ⟨fun _ => g385, fun e6 => ⟨fun _ => g385, fun hk => ?_⟩⟩, fun _ => ⟨⟨by omega, by omega⟩, ⟨by omega, by omega⟩, ⟨by omega, by omega⟩, ?_⟩⟩, fun _ => ?_⟩, fun _ => ?_⟩, fun _ => ?_⟩
  · rw [m2] at hk ⊢
    have h4 := td_r q0 (by decide : (0 : Int) < 4)
    have hr := tm_r h4.1 hk
    obtain ⟨c, ec⟩ : ∃ c, c = Int.tmod (Int.tdiv p6 4) (T 11 0 15) := ⟨_, rfl⟩
    obtain ⟨sd, esd⟩ : ∃ sd, sd = Int.tmod (Int.tdiv p6 300) 4 := ⟨_, rfl⟩
    rw [← ec] at hr ⊢
    rw [← esd] at hs4 ⊢
    obtain ⟨b1, b2, b3, b4⟩ := L.b
    refine ⟨hk, ⟨by omega, by omega⟩, ⟨by omega, by omega⟩, ⟨by omega, by omega⟩, ⟨by omega, by omega⟩, ⟨by omega, by omega⟩, ⟨by omega, by omega⟩, ?_⟩
    refine j_bord h L hz (s0 := 110) (q0 := 4 * c + sd) (k := 0) (Or.inl ⟨rfl, hs4.1, by omega⟩) (Or.inl ⟨rfl, hr.1, hr.2⟩) hw6.1 (by omega) (Or.inl rfl) ?_ (fun N f g => ?_) hq
    · unfold zHad
      rw [if_neg (by decide), zwt_0 ⟨hr.1, hr.2⟩]
      exact b1 _ (by omega) (by omega)
    · have e110 := f 110 (by decide)
      have e111 : N 111 = M 111 := (f 111 (by decide)).trans (up_ne (by decide))
      have eP : zPutR M 0 c sd (Int.tmod (Int.tdiv p6 50) 6) = up M 77 0 (4 * c + sd) (Int.tmod (Int.tdiv p6 50) 6) := by
        unfold zPutR
        rw [if_pos rfl]
      rw [eP] at g
      refine ⟨fun q a b => ?_, fun i i0 i1 => ?_, fun i i0 i1 => ?_, ?_⟩
      · rw [e110, g 77 0 q (Or.inl ⟨by decide, by decide⟩), up_at, up_at]
        by_cases e : q = 4 * c + sd
        · rw [if_pos ⟨rfl, rfl, e⟩, if_pos ⟨rfl, rfl, e⟩]
        · rw [if_neg (by omega), if_neg (by omega)]; exact b1 q a b
      · obtain ⟨x, y⟩ := b2 i i0 i1
        rw [e110, g 78 0 _ (Or.inl ⟨by decide, by decide⟩), g 78 0 _ (Or.inl ⟨by decide, by decide⟩)]
        exact ⟨(up_k _ _ _ _ _ _ (by omega)).trans (x.trans (up_s _ _ _ _ (by decide) _ _).symm), (up_k _ _ _ _ _ _ (by omega)).trans (y.trans (up_s _ _ _ _ (by decide) _ _).symm)⟩
      · rw [e111, g 79 0 _ (Or.inl ⟨by decide, by decide⟩), g 79 0 _ (Or.inl ⟨by decide, by decide⟩), up_s _ _ _ _ (by decide), up_s _ _ _ _ (by decide)]; exact b3 i i0 i1
      · rw [e111, g 11 0 30 (Or.inr ⟨rfl, rfl⟩), up_s _ _ _ _ (by decide)]; exact b4
  · rw [c3]
    refine ⟨fun z => ?_, fun z => j_visible hG L ?_⟩
    · unfold wp_L_isSet_229
      rw [c3]
      refine ⟨⟨by omega, by omega⟩, ⟨by omega, by omega⟩, ⟨by omega, by omega⟩, ⟨by omega, by omega⟩, ⟨by omega, by omega⟩, ⟨by omega, by omega⟩, ⟨by omega, by omega⟩, fun N eN => ?_⟩
      rw [eN]
      refine j_hidden h L hz hcol.1 hcol.2 (fun y => by omega) (fun M' C' e' => ?_)
      rw [e', if_neg (fun y => y rfl)]
      exact ⟨⟨by omega, by omega⟩, ⟨by omega, by omega⟩, ⟨by omega, by omega⟩, bit_1, hq M' C'⟩
    · rw [c3]
      by_cases hv : zvis T ≤ 1
      · have e0 : (if zvis T ≤ 1 then (0 : Int) else 1) = 0 := if_pos hv
        have hvr : 1 ≤ zvis T := by
          have nn : ∀ i, 0 ≤ zsh T i := fun i => by unfold zsh; split <;> omega
          have l1 := zS_le_of_mem (f := zsh T) (a := 0) (b := T 11 0 4) (i := k) (fun i _ _ => nn i) hcol.1 hcol.2
          have e1 : zsh T k = 1 := by unfold zsh; rw [if_pos (by omega)]
          unfold zvis
          omega
        rw [e0, if_pos rfl]
        refine ⟨⟨by omega, by omega⟩, ⟨by omega, by omega⟩, fun y => absurd rfl y, ⟨by omega, by omega⟩, ⟨by omega, by omega⟩, fun N eN => ?_⟩
        have hN : N = M := by
          rw [eN]
          funext s j i
          rw [up_at]
          split
          · rename_i hx
            rw [hx.1, hx.2.1, hx.2.2, c3]; omega
          · rfl
        rw [hN]
        refine n_hide h hcol (fun y => absurd ⟨by omega, by omega⟩ y) (fun _ => ?_)
        rw [if_pos (c := (0 : Int) = 0) rfl, if_neg (fun y => y rfl)]
        exact ⟨fun y => absurd rfl y, bit_1, hq M ⟨T, O, h, L, hz⟩⟩
      · have e0 : (if zvis T ≤ 1 then (0 : Int) else 1) = 1 := if_neg hv
        rw [e0, if_neg (by decide)]
        refine ⟨⟨by omega, by omega⟩, ⟨by omega, by omega⟩, fun _ => ⟨⟨by omega, by omega⟩, ⟨by omega, by omega⟩, ⟨by omega, by omega⟩, ⟨by omega, by omega⟩, trivial⟩, ⟨by omega, by omega⟩, ⟨by omega, by omega⟩, fun N eN => ?_⟩
        rw [eN]
        refine j_hidden h L hz hcol.1 hcol.2 (fun y => by omega) (fun M' C' e' => ?_)
        rw [if_neg (c := (1 : Int) = 0) (by decide), e', if_neg (fun y => y rfl)]
        exact ⟨fun _ => ⟨⟨by omega, by omega⟩, ⟨by omega, by omega⟩, ⟨by omega, by omega⟩, trivial⟩, bit_1, hq M' C'⟩
  · rw [c2]
    refine ⟨⟨by omega, by omega⟩, ⟨by omega, by omega⟩, ⟨by omega, by omega⟩, ⟨by omega, by omega⟩, ⟨by omega, by omega⟩, ⟨by omega, by omega⟩, ⟨by omega, by omega⟩, fun N eN => ?_⟩
    have hN : ∀ s : Nat, s ≠ 104 → N s = M s := fun s hs => by rw [eN]; exact up_ne hs
    have hI : Iv T O κ N := h.lw (fun s j i hs => by rw [hN s (by omega)])
    refine n_totalled hI hcol (fun T' M' I' s' f58 fT => ?_)
    have s104 := s'.1 104 (by decide)
    have e2 : M' 104 0 (4 * k + 2) = 1 - T 58 0 k := by rw [s104, eN, up_eq]
    have e3 : (if ¬ M' 104 0 (4 * k + 2) = 1 then (0 : Int) else 1) = 1 - T 58 0 k := by
      rw [e2]
      by_cases z : T 58 0 k = 0
      · rw [z]; rfl
      · rw [show T 58 0 k = 1 by omega]; rfl
    rw [e3, if_neg (fun y => y rfl)]
    refine ⟨⟨by omega, by omega⟩, ⟨by omega, by omega⟩, ⟨by omega, by omega⟩, bit_1, hq M' ⟨T', O, I', ?_, hz⟩⟩
    obtain ⟨h1, h2, h3, h4, h5, h6, h7, h8, h9⟩ := L
    have eM : ∀ s : Nat, 104 ≤ s → s ≠ 104 → M' s = M s := fun s a b => (s'.1 s (by omega)).trans (hN s b)
    have e11 : ∀ k, T' 11 0 k = T 11 0 k := fun k => by rw [fT 11 (by decide) (by decide)]
    have eT : ∀ s : Nat, 34 ≤ s → s ≠ 58 → T' s = T s := fun s a b => fT s (by omega) b
    refine ⟨h1.cg (fun k _ => e11 k) (eM 112 (by decide) (by decide)), h2.cg (fun k _ => e11 k), ?_, h4.cg (e11 8) (fun s a b => eT s (by omega) (by omega)) (eM 105 (by decide) (by decide)), h5.cg (e11 8) (eT 63 (by decide) (by decide)) (eT 64 (by decide) (by decide)) (eM 106 (by decide) (by decide)), h6.cg (e11 15) (fun s a => eT s (by omega) (by omega)) (eM 107 (by decide) (by decide)), h7.cg (e11 15) (fun s a => eT s (by omega) (by omega)) (eM 109 (by decide) (by decide)), h8.cg (e11 15) (fun s a => eT s (by omega) (by omega)) (eM 108 (by decide) (by decide)), h9.cg (fun s a => (s'.1 s (by omega)).trans (hN s (by omega))) (s'.2.trans (by rw [hN 11 (by decide)]))⟩
    unfold lwC
    rw [e11 4, eT 56 (by decide) (by decide), eT 57 (by decide) (by decide), eT 59 (by decide) (by decide), s104, eN]
    intro i i0 i1
    obtain ⟨a, b, c, d⟩ := h3 i i0 i1
    refine ⟨(up_k _ _ _ _ _ _ (by omega)).trans a, (up_k _ _ _ _ _ _ (by omega)).trans b, ?_, (up_k _ _ _ _ _ _ (by omega)).trans d⟩
    rw [f58]
    by_cases e : i = k
    · rw [e, up_eq, if_pos rfl]
    · rw [up_k _ _ _ _ _ _ (by omega), if_neg e]; exact c
  · rw [m5]
    have h26 := hG.n.2.2.2.2.2.1
    refine ⟨⟨by omega, by omega⟩, fun N eN => ?_⟩
    have hN : ∀ s : Nat, s ≠ 112 → N s = M s := fun s hs => by rw [eN]; exact up_ne hs
    have hI : Iv T O κ N := h.lw (fun s j i hs => by rw [hN s (by omega)])
    refine n_notesAtEnd hI (fun T' M' I' s' f26 f11 fT => ?_)
    have s112 := s'.1 112 (by decide)
    have e2 : M' 112 0 5 = 1 - T 11 0 26 := by rw [s112, eN, up_eq]
    have e3 : (if ¬ M' 112 0 5 = 1 then (0 : Int) else 1) = 1 - T 11 0 26 := by
      rw [e2]
      by_cases z : T 11 0 26 = 0
      · rw [z]; rfl
      · rw [show T 11 0 26 = 1 by omega]; rfl
    rw [e3, if_neg (fun y => y rfl)]
    refine ⟨bit_1, hq M' ⟨T', O, I', ?_, hz⟩⟩
    obtain ⟨h1, h2, h3, h4, h5, h6, h7, h8, h9⟩ := L
    have eM : ∀ s : Nat, 104 ≤ s → s ≠ 112 → M' s = M s := fun s a b => (s'.1 s (by omega)).trans (hN s b)
    have eT : ∀ s : Nat, 34 ≤ s → T' s = T s := fun s a => fT s (by omega) (by omega)
    refine ⟨?_, h2.cg (fun k hk => f11 k (by omega)), h3.cg (f11 4 (by decide)) (fun s a b => eT s (by omega)) (eM 104 (by decide) (by decide)), h4.cg (f11 8 (by decide)) (fun s a b => eT s (by omega)) (eM 105 (by decide) (by decide)), h5.cg (f11 8 (by decide)) (eT 63 (by decide)) (eT 64 (by decide)) (eM 106 (by decide) (by decide)), h6.cg (f11 15 (by decide)) (fun s a => eT s (by omega)) (eM 107 (by decide) (by decide)), h7.cg (f11 15 (by decide)) (fun s a => eT s (by omega)) (eM 109 (by decide) (by decide)), h8.cg (f11 15 (by decide)) (fun s a => eT s (by omega)) (eM 108 (by decide) (by decide)), h9.cg (fun s a => (s'.1 s (by omega)).trans (hN s (by omega))) (s'.2.trans (by rw [hN 11 (by decide)]))⟩
    obtain ⟨a, b, c, d, e, f⟩ := h1
    unfold lwM
    rw [f11 4 (by decide), f11 8 (by decide), f11 15 (by decide), f11 24 (by decide), f11 25 (by decide), f26, s112, eN, up_eq, up_k _ _ _ _ _ _ (by decide), up_k _ _ _ _ _ _ (by decide), up_k _ _ _ _ _ _ (by decide), up_k _ _ _ _ _ _ (by decide), up_k _ _ _ _ _ _ (by decide)]
    exact ⟨a, b, c, d, e, rfl⟩
  · have t3 := tm_r q0 (by decide : (0 : Int) < 3)
    have d3 := td_r q0 (by decide : (0 : Int) < 3)
    have t60 := tm_r d3.1 (by decide : (0 : Int) < 60)
    have t150 := tm_r d3.1 (by decide : (0 : Int) < 150)
    have d450 := td_r q0 (by decide : (0 : Int) < 450)
    have t4503 := tm_r d450.1 (by decide : (0 : Int) < 3)
    have d1350 := td_r q0 (by decide : (0 : Int) < 1350)
    have t12 := tm_r d1350.1 (by decide : (0 : Int) < 12)
    have t100 := tm_r d1350.1 (by decide : (0 : Int) < 100)
    obtain ⟨a, ea⟩ : ∃ a, a = (if ¬ (Int.tmod p6 3) = 0 then (10 + (Int.tmod (Int.tdiv p6 3) 60)) else (1 + (Int.tmod (Int.tdiv p6 3) 150))) := ⟨_, rfl⟩
    obtain ⟨b, eb⟩ : ∃ b, b = (if ¬ (Int.tmod (Int.tdiv p6 450) 3) = 0 then (3 + (Int.tmod (Int.tdiv p6 1350) 12)) else (1 + (Int.tmod (Int.tdiv p6 1350) 100))) := ⟨_, rfl⟩
    have ha : 1 ≤ a ∧ a ≤ 150 := by
      rw [ea]
      split <;> omega
    have hb : 1 ≤ b ∧ b ≤ 100 := by
      rw [eb]
      split <;> omega
    rw [← ea, ← eb]
    refine ⟨fun _ => ⟨⟨by omega, by omega⟩, trivial⟩, fun _ => ⟨⟨by omega, by omega⟩, trivial⟩, ⟨by omega, by omega⟩, fun N1 e1 => ⟨fun _ => ⟨⟨by omega, by omega⟩, trivial⟩, fun _ => ⟨⟨by omega, by omega⟩, trivial⟩, ⟨by omega, by omega⟩, fun N e2 => ?_⟩⟩
    have hN : ∀ s : Nat, s ≠ 112 → N s = M s := fun s hs => by rw [e2, up_ne hs, e1, up_ne hs]
    have hI : Iv T O κ N := h.lw (fun s j i hs => by rw [hN s (by omega)])
    have n3 : N 112 0 3 = a := by rw [e2, up_k _ _ _ _ _ _ (by decide), e1, up_eq]
    have n4 : N 112 0 4 = b := by rw [e2, up_eq]
    rw [n3, n4]
    refine n_setPaper hI ha.1 ha.2 hb.1 hb.2 (fun T' M' I' s' f24 f25 f11 fT => hq M' ⟨T', O, I', ?_, hz⟩)
    have s112 := s'.1 112 (by decide)
    obtain ⟨h1, h2, h3, h4, h5, h6, h7, h8, h9⟩ := L
    have eM : ∀ s : Nat, 104 ≤ s → s ≠ 112 → M' s = M s := fun s a b => (s'.1 s (by omega)).trans (hN s b)
    have eT : ∀ s : Nat, 34 ≤ s → T' s = T s := fun s a => fT s (by omega) (by omega)
    refine ⟨?_, h2.cg (fun k hk => f11 k (by omega) (by omega)), h3.cg (f11 4 (by decide) (by decide)) (fun s a b => eT s (by omega)) (eM 104 (by decide) (by decide)), h4.cg (f11 8 (by decide) (by decide)) (fun s a b => eT s (by omega)) (eM 105 (by decide) (by decide)), h5.cg (f11 8 (by decide) (by decide)) (eT 63 (by decide)) (eT 64 (by decide)) (eM 106 (by decide) (by decide)), h6.cg (f11 15 (by decide) (by decide)) (fun s a => eT s (by omega)) (eM 107 (by decide) (by decide)), h7.cg (f11 15 (by decide) (by decide)) (fun s a => eT s (by omega)) (eM 109 (by decide) (by decide)), h8.cg (f11 15 (by decide) (by decide)) (fun s a => eT s (by omega)) (eM 108 (by decide) (by decide)), h9.cg (fun s a => (s'.1 s (by omega)).trans (hN s (by omega))) (s'.2.trans (by rw [hN 11 (by decide)]))⟩
    obtain ⟨x1, x2, x3, x4, x5, x6⟩ := h1
    have o : ∀ i, i ≠ 3 → i ≠ 4 → N 112 0 i = M 112 0 i := fun i u v => by rw [e2, up_k _ _ _ _ _ _ v, e1, up_k _ _ _ _ _ _ u]
    unfold lwM
    rw [f11 4 (by decide) (by decide), f11 8 (by decide) (by decide), f11 15 (by decide) (by decide), f24, f25, f11 26 (by decide) (by decide), s112, n3, n4, o 0 (by decide) (by decide), o 1 (by decide) (by decide), o 2 (by decide) (by decide), o 5 (by decide) (by decide)]
    exact ⟨x1, x2, x3, rfl, rfl, x6⟩
end DB
