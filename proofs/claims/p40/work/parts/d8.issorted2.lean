/-! the law's sorting, whole -/
section DH
variable {T M : Mem} {O : zSt} {κ κ2 : Nat → Int} {p f p7 : Int}
theorem zcl_s (hG : Good T) (i : Int) (g : Int → Int) : zS g 0 (zcl T (i + 1)) = zS g 0 (zcl T i) + (if T 64 0 0 ≤ i ∧ i < T 64 0 0 + T 64 0 1 then g (i - T 64 0 0) else 0) := by
  have hm := hG.many (p := 1) (by decide) (by decide)
  unfold zcl
  by_cases h : T 64 0 0 ≤ i ∧ i < T 64 0 0 + T 64 0 1
  · rw [if_pos h, show min (max (i + 1 - T 64 0 0) 0) (T 64 0 1) = (i - T 64 0 0) + 1 by omega, show min (max (i - T 64 0 0) 0) (T 64 0 1) = i - T 64 0 0 by omega, zS_succ _ (by omega)]
  · rw [if_neg h, show min (max (i + 1 - T 64 0 0) 0) (T 64 0 1) = min (max (i - T 64 0 0) 0) (T 64 0 1) by omega]
    omega
set_option maxHeartbeats 8000000 in
theorem j_isSorted (h : Iv T O κ M) (L : zLw T M) (hz : ∀ s : Nat, (114 ≤ s ∧ s ≤ 117) → κ s = 0) (q0 : 0 ≤ p7) {Qm : Int → Mem → Prop} (hq : ∀ M', zCn κ M' → Qm 1 M') : wp_L_isSorted κ p7 M Qm := by
  have hG := h.1
  have hn := L.n
  unfold lwN at hn
  have hKn := hG.nK
  have hR := hG.nR
  obtain ⟨m0, m1, m2, m3, m4, m5⟩ := id L.m
  obtain ⟨-, -, -, -, -, -, -, g0, g1, g2, gs, -⟩ := hG.n
  have hC : 0 < T 11 0 4 := by omega
  have tc := tm_r q0 hC
  obtain ⟨p, ep⟩ : ∃ p, p = Int.tmod p7 (T 11 0 4) := ⟨_, rfl⟩
  obtain ⟨f, ef⟩ : ∃ f, f = (if ¬ (Int.tmod (Int.tdiv p7 4) 2) = 1 then (0 : Int) else 1) := ⟨_, rfl⟩
  unfold wp_L_isSorted
  rw [m0, ← ep, ← ef]
  rw [← ep] at tc
  obtain ⟨k0, k1⟩ := tc
  refine ⟨hC, hz 117 (by decide), fun M1 e1 => ?_⟩
  have n1 : ∀ s : Nat, s ≠ 117 → M1 s = M s := fun s hs => by rw [e1]; exact zM_o hs
  have I1 : Iv T O κ M1 := h.lw (fun s j k hs => by rw [n1 s (by omega)])
  have L1 : zLw T M1 := L.fr ⟨fun s hs => n1 s (by omega), by rw [n1 11 (by decide)]⟩
  -- the class sorts
  have last0 : (∃ c, (0 ≤ c ∧ c < T 11 0 15) ∧ T 60 0 (T 65 0 c) = 1 ∧ 1 < T 67 0 c) → ∀ N, Iv T O κ N → zLw T N → wp_L_isSorted_312 (kup [117] κ) p7 Qm p f 0 0 N := fun hc N IN LN => by
    refine n_sort IN ⟨k0, k1⟩ (fun hone => ?_) (fun _ => ?_)
    · obtain ⟨c, c0, c1, c2⟩ := hc
      have := hone c c0.1 c0.2 c1
      omega
    · rw [if_pos rfl, if_neg (fun z => z rfl)]
      exact ⟨bit_1, hq N ⟨T, O, IN, LN, hz⟩⟩
  have last1 : (∀ c, 0 ≤ c → c < T 11 0 15 → T 60 0 (T 65 0 c) = 1 → T 67 0 c = 1) → ∀ N y, (∀ s : Nat, s ≠ 106 → s ≠ 117 → N s = M s) → (∀ k, 0 ≤ k → k < T 11 0 8 → N 106 0 k = zod T p f (T 11 0 8) k) → y = zmvd T p f (T 64 0 1) → wp_L_isSorted_312 (kup [117] κ) p7 Qm p f y 1 N := fun hc N y hN h106 hy => by
    have IN : Iv T O κ N := h.lw (fun s j k hs => by rw [hN s (by omega) (by omega)])
    refine n_sort IN ⟨k0, k1⟩ (fun hone F IF s' f63 f6 f6n fz => ?_) (fun ⟨c, c0, c1, c2⟩ => by have := hc c c0.1 c0.2 c1; omega)
    rw [if_neg (c := (1 : Int) = 0) (by decide), hy, if_neg (fun z => z rfl)]
    refine ⟨bit_1, hq F ⟨F, O, IF, ?_, hz⟩⟩
    obtain ⟨h1, h2, h3, h4, h5, h6, h7, h8, h9⟩ := id L
    have eM : ∀ s : Nat, 104 ≤ s → s ≠ 106 → s ≠ 117 → F s = M s := fun s x x1 x2 => (s'.1 s (by omega)).trans (hN s x1 x2)
    have eT : ∀ s : Nat, (56 ≤ s ∧ s ≤ 62) ∨ (64 ≤ s ∧ s ≤ 76) → F s = T s := fun s hs => funext fun j => funext fun k => fz s j k (by
      simp only [zin, Bool.or_eq_true, Bool.and_eq_true, decide_eq_true_eq]
      omega) (by unfold zSQ; omega)
    have e11 : ∀ k, (k = 4 ∨ k = 8 ∨ k = 15 ∨ k = 24 ∨ k = 25 ∨ k = 26) → F 11 0 k = T 11 0 k := fun k hk => fz 11 0 k (by rcases hk with rfl | rfl | rfl | rfl | rfl | rfl <;> rfl) (by unfold zSQ; omega)
    have e63 : ∀ k, (k < 24 ∨ 48 ≤ k) → F 63 0 k = T 63 0 k := fun k hk => fz 63 0 k rfl (by unfold zSQ; omega)
    refine ⟨h1.cg e11 (eM 112 (by decide) (by decide) (by decide)), h2.cg (fun k hk => e11 k (by omega)), h3.cg (e11 4 (by decide)) (fun s a b => eT s (by omega)) (eM 104 (by decide) (by decide) (by decide)), h4.cg (e11 8 (by decide)) (fun s a b => eT s (by omega)) (eM 105 (by decide) (by decide) (by decide)), ?_, h6.cg (e11 15 (by decide)) (fun s a => eT s (by omega)) (eM 107 (by decide) (by decide) (by decide)), h7.cg (e11 15 (by decide)) (fun s a => eT s (by omega)) (eM 109 (by decide) (by decide) (by decide)), h8.cg (e11 15 (by decide)) (fun s a => eT s (by omega)) (eM 108 (by decide) (by decide) (by decide)), h9.cg (fun s a => (s'.1 s (by omega)).trans (hN s (by omega) (by omega))) (s'.2.trans (by rw [hN 11 (by decide) (by decide)]))⟩
    unfold lwO
    rw [e11 8 (by decide), s'.1 106 (by decide)]
    intro k x y'
    rw [h106 k x y']
    have e64 := eT 64 (by decide)
    unfold zod
    by_cases hb : T 64 0 0 ≤ k ∧ k < T 64 0 0 + T 64 0 1 ∧ k < T 11 0 8
    · rw [if_pos hb]
      unfold zRA zZ
      rw [e64, if_neg (by omega), if_neg (by omega), if_pos (by omega), f63 _ (by omega) (by omega)]
    · rw [if_neg hb]
      unfold zRA
      rw [e64, if_neg (c := k < 0) (by omega), if_neg (c := k < 0) (by omega)]
      by_cases l : k < T 64 0 0
      · rw [if_pos (c := k < T 64 0 0) l, if_pos (c := k < T 64 0 0) l, e63 k (by omega)]
      · rw [if_neg (c := k < T 64 0 0) l, if_neg (c := k < T 64 0 0) l, if_neg (c := k < T 64 0 0 + T 64 0 1) (by omega), if_neg (c := k < T 64 0 0 + T 64 0 1) (by omega), if_pos (c := k < T 64 0 0 + T 64 0 1 + T 64 0 2) (by omega), if_pos (c := k < T 64 0 0 + T 64 0 1 + T 64 0 2) (by omega), e63 _ (by omega)]
  -- whether it can
  refine zLoop (σ := Int) (fun q k s => wp_L_isSorted_41 (kup [117] κ) p7 Qm q p f 0 s k M1) (fun k s => (s = 1 ∧ ∀ c, 0 ≤ c → c < k → T 60 0 (T 65 0 c) = 1 → T 67 0 c = 1) ∨ (s = 0 ∧ ∃ c, (0 ≤ c ∧ c < T 11 0 15) ∧ T 60 0 (T 65 0 c) = 1 ∧ 1 < T 67 0 c)) (T 11 0 15) hKn.1 (s := 1) (Or.inl ⟨rfl, fun c a b => by omega⟩) (fun q s hs => ?_) (fun q k s a b hs ih => ?_)
  rotate_left
  · obtain ⟨-, -, n2, -⟩ := L1.m
    obtain ⟨t0, t1, t2, -⟩ := L1.t k a b
    obtain ⟨w1, w2, w3, -⟩ := hG.cell k a b
    obtain ⟨r0, -⟩ := L1.r (T 65 0 k) w1.1 w1.2
    refine ⟨fun z => absurd z (by rw [n2]; omega), fun _ => ?_⟩
    rw [t0, r0, t2]
    refine ⟨fun _ => ⟨⟨by omega, by omega⟩, ⟨by omega, by omega⟩, ⟨by omega, by omega⟩, ⟨by omega, by omega⟩, fun _ => ⟨⟨by omega, by omega⟩, ⟨by omega, by omega⟩, ⟨by omega, by omega⟩, trivial⟩, trivial⟩, ⟨by omega, by omega⟩, ih _ ?_⟩
    rcases hs with ⟨e, v⟩ | ⟨e, v⟩
    · rw [e, if_neg (by decide)]
      by_cases z : T 60 0 (T 65 0 k) = 1
      · rw [if_neg (fun y => y z)]
        by_cases u : T 67 0 k = 1
        · rw [if_neg (fun y => y u)]
          refine Or.inl ⟨rfl, fun c c0 c1 c2 => ?_⟩
          by_cases ec : c = k
          · rw [ec]; exact u
          · exact v c c0 (by omega) c2
        · rw [if_pos u]
          exact Or.inr ⟨rfl, k, ⟨a, b⟩, z, by omega⟩
      · rw [if_pos z]
        refine Or.inl ⟨rfl, fun c c0 c1 c2 => ?_⟩
        by_cases ec : c = k
        · rw [ec] at c2; exact absurd c2 z
        · exact v c c0 (by omega) c2
    · rw [e, if_pos rfl]
      exact Or.inr ⟨rfl, v⟩
  obtain ⟨-, -, n2, -⟩ := L1.m
  refine ⟨fun _ => ?_, fun z => absurd z (by rw [n2]; omega)⟩
  -- the order is copied
  refine zLoop (σ := Mem) (fun q k N => wp_L_isSorted_101 (kup [117] κ) p7 Qm q p f 0 s k N) (fun k N => (∀ q : Nat, q ≠ 117 → N q = M q) ∧ ∀ i, 0 ≤ i → i < k → N 117 0 i = zRA T i) (T 11 0 8) hR.1 (s := M1) ⟨n1, fun i a b => by omega⟩ (fun q2 N hN => ?_) (fun q2 k N a b hN ih => ?_)
  rotate_left
  · obtain ⟨v1, v2⟩ := hN
    have c1 : N 112 0 1 = T 11 0 8 := by rw [v1 112 (by decide)]; exact m1
    refine ⟨fun z => absurd z (by rw [c1]; omega), fun _ => ⟨⟨by omega, by omega⟩, ⟨by omega, by omega⟩, fun N2 e2 => ⟨⟨by omega, by omega⟩, ih N2 ⟨fun s hs => by rw [e2, up_ne hs]; exact v1 s hs, fun i i0 i1 => ?_⟩⟩⟩⟩
    rw [e2, up_at]
    by_cases e : i = k
    · rw [if_pos ⟨rfl, rfl, e⟩, v1 106 (by decide), e]
      exact L.o k a b
    · rw [if_neg (by omega)]
      exact v2 i i0 (by omega)
  obtain ⟨v1, v2⟩ := hN
  have c1 : N 112 0 1 = T 11 0 8 := by rw [v1 112 (by decide)]; exact m1
  refine ⟨fun _ => ?_, fun z => absurd z (by rw [c1]; omega)⟩
  rcases hs with ⟨es, hall⟩ | ⟨es, hex⟩
  · rw [es]
    refine zLoop (σ := Mem × Int) (fun q i s => wp_L_isSorted_128 (kup [117] κ) p7 Qm q p f s.2 1 i s.1) (fun i s => (∀ q : Nat, q ≠ 106 → s.1 q = N q) ∧ (∀ k, 0 ≤ k → k < T 11 0 8 → s.1 106 0 k = zod T p f i k) ∧ s.2 = zS (fun t => if ¬ T 6 (zZ T p f t) 6 = t then 1 else 0) 0 (zcl T i)) (T 11 0 8) hR.1 (s := (N, 0)) ⟨fun _ _ => rfl, fun k a b => ?_, ?_⟩ (fun q3 s hs => ?_) (fun q3 i s a b hs ih => ?_)
    · show N 106 0 k = zod T p f 0 k
      unfold zod
      rw [if_neg (by omega), v1 106 (by decide)]
      exact L.o k a b
    · show (0 : Int) = zS _ 0 (zcl T 0)
      rw [zS_self _ (by unfold zcl; omega)]
    · obtain ⟨N3, y⟩ := s
      obtain ⟨u1, u2, u3⟩ := hs
      have u1 : ∀ q : Nat, q ≠ 106 → N3 q = N q := u1
      have u2 : ∀ k, 0 ≤ k → k < T 11 0 8 → N3 106 0 k = zod T p f (T 11 0 8) k := u2
      have u3 : y = zS (fun t => if ¬ T 6 (zZ T p f t) 6 = t then 1 else 0) 0 (zcl T (T 11 0 8)) := u3
      have c3 : N3 112 0 1 = T 11 0 8 := by rw [u1 112 (by decide)]; exact c1
      rw [show zcl T (T 11 0 8) = T 64 0 1 by unfold zcl; omega] at u3
      show wp_L_isSorted_128 (kup [117] κ) p7 Qm (q3 + 1) p f y 1 (T 11 0 8) N3
      exact ⟨fun _ => last1 hall N3 y (fun s x1 x2 => (u1 s x1).trans (v1 s x2)) u2 u3, fun z => absurd z (by rw [c3]; omega)⟩
    · obtain ⟨N3, y⟩ := s
      obtain ⟨u1, u2, u3⟩ := hs
      have u1 : ∀ q : Nat, q ≠ 106 → N3 q = N q := u1
      have u2 : ∀ k, 0 ≤ k → k < T 11 0 8 → N3 106 0 k = zod T p f i k := u2
      have u3 : y = zS (fun t => if ¬ T 6 (zZ T p f t) 6 = t then 1 else 0) 0 (zcl T i) := u3
      have c3 : N3 112 0 1 = T 11 0 8 := by rw [u1 112 (by decide)]; exact c1
      have V3 : zLv T N3 := L.v (fun s x x1 x2 => (u1 s x2).trans (v1 s (by omega)))
      have yb := zS_bd (f := fun t => if ¬ T 6 (zZ T p f t) 6 = t then (1 : Int) else 0) (a := 0) (b := zcl T i) 0 1 (by unfold zcl; omega) (fun t _ _ => by split <;> omega)
      rw [← u3] at yb
      have zb : zcl T i ≤ 24 := by unfold zcl; omega
      show wp_L_isSorted_128 (kup [117] κ) p7 Qm (q3 + 1) p f y 1 i N3
      refine ⟨fun z => absurd z (by rw [c3]; omega), fun _ => ⟨fun z => absurd z (by decide), fun _ => ?_⟩⟩
      refine j_pickrow hG V3 k0 k1 a b ⟨by omega, by omega⟩ (fun k x y => by rw [u1 117 (by decide)]; exact v2 k x y) u2 (fun N4 y4 w1 w2 w3 => ih (N4, y4) ⟨fun s hs => (w1 s hs).trans (u1 s hs), w2, ?_⟩)
      show y4 = _
      rw [w3, u3, zcl_s hG]
  · rw [es]
    have LN : zLw T N := L.fr ⟨fun s hs => v1 s (by omega), by rw [v1 11 (by decide)]⟩
    have IN : Iv T O κ N := h.lw (fun s j k hs => by rw [v1 s (by omega)])
    have g := last0 hex N IN LN
    exact ⟨1, fun _ => g, fun _ => ⟨fun _ => g, fun z => absurd rfl z⟩⟩
end DH
