/-! the pure part: a new cell is put, both sides -/
section ZK
variable {T M : Mem} {κ : Nat → Int} {p1 p2 p3 p4 : Int}
theorem k3_isShown (hG : Good T) (hL : zLk T) (e : M 33 = T 33) {p : Int} {Qm : Int → Mem → Prop} (hy : 0 ≤ p ∧ p < T 11 0 4 ∧ T 59 0 p = 0 → Qm 1 M) (hn : ¬ (0 ≤ p ∧ p < T 11 0 4 ∧ T 59 0 p = 0) → Qm 0 M) : wp_X3_isShown p M Qm := by
  have hC := hG.nC
  simp only [wp_X3_isShown, e]
  refine ⟨fun _ => ⟨fun _ => ⟨⟨by omega, by omega⟩, trivial⟩, trivial⟩, ?_⟩
  by_cases h0 : p < 0
  · rw [if_pos h0]; exact ⟨bit_0, hn (by omega)⟩
  · rw [if_neg h0]
    by_cases h6 : 6 ≤ p
    · rw [if_pos h6]; exact ⟨bit_0, hn (by omega)⟩
    · rw [if_neg h6, hL.shn (k := p) (by omega) (by omega)]
      by_cases h4 : p < T 11 0 4
      · rw [if_pos h4]
        unfold zsh
        by_cases h9 : T 59 0 p = 0
        · rw [if_pos h9, if_neg (by decide)]; exact ⟨bit_1, hy ⟨by omega, h4, h9⟩⟩
        · rw [if_neg h9, if_pos rfl]; exact ⟨bit_0, hn (by omega)⟩
      · rw [if_neg h4, if_pos rfl]; exact ⟨bit_0, hn (by omega)⟩
/-- rows gone through before one, and columns of that one -/
def zRw (T : Mem) (r0 c w i j r k : Int) : Prop := T 60 0 r = T 60 0 r0 ∧ ((T 6 r0 6 ≤ T 6 r 6 ∧ T 6 r 6 < i ∧ c ≤ k ∧ k < c + w) ∨ (T 6 r 6 = i ∧ c ≤ k ∧ k < j))
theorem zRw_0 {r0 c w r k : Int} : ¬ zRw T r0 c w (T 6 r0 6) c r k := by unfold zRw; omega
theorem zRw_cov {r0 c d w r k : Int} : zRw T r0 c w (T 6 r0 6 + d) c r k ↔ zCov T r0 c d w r k := by
  unfold zRw zCov
  constructor
  · rintro ⟨a, b | b⟩
    · exact ⟨a, ⟨b.1, b.2.1⟩, b.2.2⟩
    · omega
  · rintro ⟨a, b, d⟩
    exact ⟨a, Or.inl ⟨b.1, b.2, d⟩⟩
theorem zRw_row {r0 c w i r k : Int} (h : T 6 r0 6 ≤ i) : zRw T r0 c w i (c + w) r k ↔ zRw T r0 c w (i + 1) c r k := by
  unfold zRw
  constructor
  · rintro ⟨a, b | b⟩
    · exact ⟨a, Or.inl ⟨b.1, by omega, b.2.2⟩⟩
    · exact ⟨a, Or.inl ⟨by omega, by omega, b.2⟩⟩
  · rintro ⟨a, b | b⟩
    · by_cases e : T 6 r 6 = i
      · exact ⟨a, Or.inr ⟨e, b.2.2⟩⟩
      · exact ⟨a, Or.inl ⟨b.1, by omega, b.2.2⟩⟩
    · omega
theorem zRw_up {r0 c w i j r k : Int} (h : zRw T r0 c w i j r k) : zRw T r0 c w i (j + 1) r k := by
  obtain ⟨a, b | b⟩ := h
  · exact ⟨a, Or.inl b⟩
  · exact ⟨a, Or.inr ⟨b.1, b.2.1, by omega⟩⟩
theorem zRw_down {r0 c w i j r k : Int} (h : zRw T r0 c w i (j + 1) r k) : zRw T r0 c w i j r k ∨ (T 60 0 r = T 60 0 r0 ∧ T 6 r 6 = i ∧ k = j) := by
  obtain ⟨a, b | b⟩ := h
  · exact Or.inl ⟨a, Or.inl b⟩
  · by_cases e : k = j
    · exact Or.inr ⟨a, b.1, e⟩
    · exact Or.inl ⟨a, Or.inr ⟨b.1, b.2.1, by omega⟩⟩
/-- what the class's adding of a cell writes on -/
def zAcQ (n : Int) : Nat → Int → Int → Prop := fun s j k => s = 37 ∨ (s = 1 ∧ j = n ∧ k = 12) ∨ (s = 14 ∧ j = 0 ∧ (k = -1 ∨ k = -2 ∨ k = n)) ∨ (s = 20 ∧ j = 0 ∧ k = -1)
theorem k_addCell (hG : Good T) (hL : zLk T) {n : Int} (en : n = T 11 0 15) (n100 : n < 100) (r0 : 0 ≤ p1) (r1 : p1 < T 11 0 8) (c0 : 0 ≤ p2) (c1 : p2 < T 11 0 4) (d0 : 1 ≤ p3) (d4 : p3 ≤ 4) (w0 : 1 ≤ p4) (w6 : p4 ≤ 6) (hf : T 6 p1 6 + p3 ≤ T 64 0 (T 60 0 p1) ∧ p2 + p4 ≤ T 11 0 4) (x1 : M 1 n 0 = p1 ∧ M 1 n 1 = p2 ∧ M 1 n 2 = p3 ∧ M 1 n 3 = p4) (x6 : M 6 = T 6) (x12 : M 12 = T 12) (x33 : M 33 = T 33) (x37 : M 37 = T 37) (x15 : M 15 = T 15) (x16 : M 16 = T 16) (x17 : M 17 = T 17) (x14 : ∀ k, M 14 0 k = T 14 0 k) (x20 : M 20 0 (-1) = T 20 0 (-1)) (l14 : T 14 0 (-2) = T 14 0 (-1) ∧ 0 ≤ T 20 0 (-1) ∧ T 20 0 (-1) ≤ 150) {Qm : Int → (Nat → Int) → Mem → Prop} (hq : ∀ N, Fj (zAcQ n) M N → (∀ r k, 0 ≤ r → r < T 11 0 8 → 0 ≤ k → k < 6 → (zCov T p1 p2 p3 p4 r k → N 37 r k = n) ∧ (¬ zCov T p1 p2 p3 p4 r k → N 37 r k = T 37 r k)) → N 1 n 12 = zS (zsh T) p2 (p2 + p4) → (N 14 0 (-1) = n + 1 ∧ N 14 0 (-2) = n + 1 ∧ N 14 0 n = n) → (0 ≤ N 20 0 (-1) ∧ N 20 0 (-1) ≤ 150) → Qm n (kad κ (14 + 6)) N) : wp_X3_addCell κ n M Qm := by
  obtain ⟨a, -, -, b, -⟩ := hG.row p1 r0 r1
  obtain ⟨-, -, m1, -⟩ := hL.row r0 r1
  obtain ⟨y1, y2⟩ := hL.part a.1 a.2
  have hmm := hG.many a.1 a.2
  have hC := hG.nC
  have hR := hG.nR
  have hKn := hG.nK
  obtain ⟨n12, n13, n14⟩ := hL.n
  have eL : M (rowL (T 60 0 p1)) = T (rowL (T 60 0 p1)) := by
    rcases (by omega : T 60 0 p1 = 0 ∨ T 60 0 p1 = 1 ∨ T 60 0 p1 = 2) with h | h | h <;> rw [h]
    · exact x15
    · exact x16
    · exact x17
  have h15 := rowL_15 a.1 a.2
  unfold wp_X3_addCell
  rw [x1.1, x1.2.1, x1.2.2.1, x1.2.2.2, x6, m1, eL, y1, x12, n12, x14, n14, ← en, show min (T 6 p1 6 + p3) (T 64 0 (T 60 0 p1)) = T 6 p1 6 + p3 by omega, show min (p2 + p4) (T 11 0 4) = p2 + p4 by omega]
  refine ⟨⟨by omega, by omega⟩, ⟨by omega, by omega⟩, ?_⟩
  refine zLoop (fun f i N => wp_X3_addCell_71 κ n Qm f n (rowL (T 60 0 p1)) (T 6 p1 6 + p3) (p2 + p4) i N) (fun i N => Fj (fun s _ _ => s = 37) M N ∧ ∀ r k, 0 ≤ r → r < T 11 0 8 → 0 ≤ k → k < 6 → (zRw T p1 p2 p4 i p2 r k → N 37 r k = n) ∧ (¬ zRw T p1 p2 p4 i p2 r k → N 37 r k = T 37 r k)) (T 6 p1 6 + p3) (by omega) ⟨Fj.rf _ _, fun r k _ _ _ _ => ⟨fun z => absurd z zRw_0, fun _ => by rw [x37]⟩⟩ (fun f N hN => ?_) (fun f i N i0 i1 hN ih => ?_)
  · obtain ⟨fN, dN⟩ := hN
    refine ⟨fun _ => ?_, fun z => absurd z (by omega)⟩
    have g1 : ∀ k, N 1 n k = M 1 n k := fun k => fN 1 n k (by omega)
    have g33 : N 33 = T 33 := by
      rw [← x33]
      exact funext fun j => funext fun k => fN 33 j k (by omega)
    have fc : ∀ Q : Int → Mem → Prop, Q (zS (zsh T) p2 (p2 + p4)) N → wp_X3_countShown n N Q := fun Q hQ => by
      have := zLoop (fun f k v => wp_X3_countShown_7 n Q f v k N) (fun k v => v = zS (zsh T) p2 k) (a := p2) (s := 0) (p2 + p4) (by omega) (zS_self _ (by omega)).symm (fun f v hv => ?_) (fun f k v k0 k1 hv ih => ?_)
      · unfold wp_X3_countShown
        rw [g1, x1.2.1]
        exact this
      · show wp_X3_countShown_7 n Q (f + 1) v (p2 + p4) N
        simp only [wp_X3_countShown_7, g1, x1.2.1, x1.2.2.2]
        refine ⟨⟨by omega, by omega⟩, fun _ => ?_, fun z => absurd z (by omega)⟩
        rw [hv]; exact hQ
      · show wp_X3_countShown_7 n Q (f + 1) v k N
        have hb := zS_bd (f := zsh T) (a := p2) (b := k) 0 1 k0 (fun i _ _ => zsh_r T i)
        simp only [wp_X3_countShown_7, g1, x1.2.1, x1.2.2.2]
        refine ⟨⟨by omega, by omega⟩, fun z => absurd z (by omega), fun _ => k3_isShown hG hL g33 (fun hs => ?_) (fun hs => ?_)⟩
        · rw [if_neg (by decide)]
          refine ⟨⟨by omega, by omega⟩, ⟨by omega, by omega⟩, ih _ ?_⟩
          rw [zS_succ _ k0, hv, show zsh T k = 1 from if_pos hs.2.2]
        · rw [if_pos rfl]
          refine ⟨⟨by omega, by omega⟩, ⟨by omega, by omega⟩, ih _ ?_⟩
          rw [zS_succ _ k0, hv, show zsh T k = 0 from if_neg (fun z => hs ⟨by omega, by omega, z⟩)]
    refine fc _ ?_
    intro N2 e2
    have k14 : ∀ k, N2 14 0 k = T 14 0 k := fun k => by rw [e2, up_s _ _ _ _ (by decide), fN 14 0 k (by omega), x14]
    have k20 : N2 (14 + 6) 0 (-1) = T 20 0 (-1) := by
      show N2 20 0 (-1) = T 20 0 (-1)
      rw [e2, up_s _ _ _ _ (by decide), fN 20 0 (-1) (by omega), x20]
    have hcap := capN_r (z := n) (c := T 20 0 (-1)) (by omega) (by omega) l14.2.1 l14.2.2
    have e14 : T 14 0 (-1) = n := by rw [n14, en]
    rw [k14, k14, k20, l14.1, e14]
    refine ⟨⟨by omega, by omega⟩, ⟨by omega, by omega⟩, by omega, fun N3 e3 => ?_⟩
    have f2 : Fj (zAcQ n) M N2 := by
      rw [e2]
      exact (fN.mono (fun s j k z => Or.inl z)).up (Or.inr (Or.inl ⟨rfl, rfl, rfl⟩))
    have k14n : N2 14 0 (-1) = n := by rw [k14, e14]
    have f3 : Fj (zAcQ n) M N3 := by
      rw [e3]
      exact f2.ad (Or.inr (Or.inr (Or.inl ⟨rfl, rfl, Or.inl rfl⟩))) (Or.inr (Or.inr (Or.inl ⟨rfl, rfl, Or.inr (Or.inl rfl)⟩))) (by rw [k14n]; exact Or.inr (Or.inr (Or.inl ⟨rfl, rfl, Or.inr (Or.inr rfl)⟩))) (Or.inr (Or.inr (Or.inr ⟨rfl, rfl, rfl⟩)))
    refine hq N3 f3 (fun r k a0 a1 k0 k1 => ?_) ?_ ⟨?_, ?_, ?_⟩ ?_
    · rw [e3, adM_o (by decide) (by decide), e2, up_s _ _ _ _ (by decide)]
      obtain ⟨u, v⟩ := dN r k a0 a1 k0 k1
      exact ⟨fun z => u (zRw_cov.2 z), fun z => v (fun x => z (zRw_cov.1 x))⟩
    · rw [e3, adM_o (by decide) (by decide), e2, up_eq]
    · rw [e3, adM_n, k14n]
    · rw [e3, adM_m, k14, l14.1, e14]
    · rw [e3, adM_e (by omega), k14n, if_pos rfl]
    · have : N3 20 0 (-1) = capN n (T 20 0 (-1)) := by
        rw [e3]
        have := adM_c (M := N2) (L := 14) (v := n)
        rw [k14n, k20] at this
        exact this
      rw [this]; exact hcap
  · obtain ⟨fN, dN⟩ := hN
    refine ⟨fun z => absurd z (by omega), fun _ => ?_⟩
    have ei : T 63 0 (24 * T 60 0 p1 + i) = zrw T p1 (i - T 6 p1 6) := by
      unfold zrw
      rw [show 24 * T 60 0 p1 + T 6 p1 6 + (i - T 6 p1 6) = 24 * T 60 0 p1 + i by omega]
    obtain ⟨q1, q2, q3⟩ := zrw_r hG r0 r1 (i := i - T 6 p1 6) (by omega) (by omega)
    have er := y2 i (by omega) (by omega)
    rw [ei] at er
    obtain ⟨R, eR⟩ : ∃ R, R = zrw T p1 (i - T 6 p1 6) := ⟨_, rfl⟩
    rw [← eR] at q1 q2 q3 er
    have hR2 : ∀ r, 0 ≤ r → r < T 11 0 8 → T 60 0 r = T 60 0 p1 → T 6 r 6 = i → r = R := fun r a0 a1 e1 e2 => by
      have := zrw_of hG a0 a1 e1
      rw [e2] at this
      rw [eR]; exact this.symm
    rw [fN 1 n 1 (by omega), x1.2.1]
    refine zLoop (fun f2 j N2 => wp_X3_addCell_84 κ n Qm (wp_X3_addCell_71 κ n Qm f) f2 n (rowL (T 60 0 p1)) (T 6 p1 6 + p3) (p2 + p4) i j N2) (fun j N2 => Fj (fun s _ _ => s = 37) M N2 ∧ ∀ r k, 0 ≤ r → r < T 11 0 8 → 0 ≤ k → k < 6 → (zRw T p1 p2 p4 i j r k → N2 37 r k = n) ∧ (¬ zRw T p1 p2 p4 i j r k → N2 37 r k = T 37 r k)) (p2 + p4) (by omega) ⟨fN, dN⟩ (fun f2 N2 hN2 => ?_) (fun f2 j N2 j0 j1 hN2 ihj => ?_)
    · refine ⟨fun _ => ⟨⟨by omega, by omega⟩, ih N2 ⟨hN2.1, fun r k a0 a1 k0 k1 => ?_⟩⟩, fun z => absurd z (by omega)⟩
      obtain ⟨u, v⟩ := hN2.2 r k a0 a1 k0 k1
      exact ⟨fun z => u ((zRw_row (by omega)).2 z), fun z => v (fun x => z ((zRw_row (by omega)).1 x))⟩
    · obtain ⟨f2N, d2N⟩ := hN2
      have eL2 : N2 (rowL (T 60 0 p1)) = T (rowL (T 60 0 p1)) := by
        rw [← eL]
        exact funext fun u => funext fun v => f2N _ u v (by omega)
      refine ⟨fun z => absurd z (by omega), fun _ => ?_⟩
      rw [eL2, y1, er]
      refine ⟨⟨by omega, by omega⟩, ⟨by omega, by omega⟩, ?_⟩
      intro N3 e3
      refine ⟨⟨by omega, by omega⟩, ihj N3 ⟨by rw [e3]; exact f2N.up rfl, fun r k a0 a1 k0 k1 => ?_⟩⟩
      obtain ⟨u, v⟩ := d2N r k a0 a1 k0 k1
      by_cases z : r = R ∧ k = j
      · rw [z.1, z.2, e3, up_eq]
        exact ⟨fun _ => rfl, fun w => absurd (show zRw T p1 p2 p4 i (j + 1) R j from ⟨q2, Or.inr ⟨by omega, by omega, by omega⟩⟩) w⟩
      · have e4 : N3 37 r k = N2 37 r k := by rw [e3, up_at, if_neg (fun w => z w.2)]
        rw [e4]
        refine ⟨fun w => ?_, fun w => v (fun x => w (zRw_up x))⟩
        rcases zRw_down w with w1 | ⟨w1, w2, w3⟩
        · exact u w1
        · exact absurd ⟨hR2 r a0 a1 w1 w2, w3⟩ z
/-! the reference -/
def zCk (T : Mem) (r0 c w k r q : Int) : Prop := T 60 0 r = T 60 0 r0 ∧ T 6 r0 6 ≤ T 6 r 6 ∧ (c ≤ q ∧ q < c + w) ∧ (T 6 r 6 - T 6 r0 6 < k / w ∨ (T 6 r 6 - T 6 r0 6 = k / w ∧ q - c < k % w))
theorem zCk_next {r0 c w k r q : Int} (k0 : 0 ≤ k) (w0 : 1 ≤ w) : zCk T r0 c w (k + 1) r q ↔ (zCk T r0 c w k r q ∨ (T 60 0 r = T 60 0 r0 ∧ T 6 r 6 = T 6 r0 6 + k / w ∧ q = c + k % w)) := by
  have h0 := Int.emod_nonneg k (b := w) (by omega)
  have h1 := Int.emod_lt_of_pos k (b := w) (by omega)
  have h2 := Int.ediv_nonneg k0 (show 0 ≤ w by omega)
  unfold zCk
  by_cases z : c ≤ q ∧ q < c + w
  · have hn := zdm_next (k := k) (i := T 6 r 6 - T 6 r0 6) (j := q - c) w0 (by omega) (by omega)
    constructor
    · rintro ⟨a, b, -, d⟩
      rcases hn.1 d with e | e
      · exact Or.inl ⟨a, b, z, e⟩
      · exact Or.inr ⟨a, by omega, by omega⟩
    · rintro (⟨a, b, -, d⟩ | ⟨a, b, d⟩)
      · exact ⟨a, b, z, hn.2 (Or.inl d)⟩
      · exact ⟨a, by omega, z, hn.2 (Or.inr ⟨by omega, by omega⟩)⟩
  · constructor
    · rintro ⟨a, b, d, -⟩
      exact absurd d z
    · rintro (⟨a, b, d, -⟩ | ⟨a, b, d⟩)
      · exact absurd d z
      · omega
theorem zCk_end {r0 c d w r q : Int} (w0 : 1 ≤ w) : zCk T r0 c w (d * w) r q ↔ zCov T r0 c d w r q := by
  unfold zCk zCov
  by_cases z : c ≤ q ∧ q < c + w
  · have hn := zdm_end (d := d) (w := w) (i := T 6 r 6 - T 6 r0 6) (j := q - c) w0 (by omega) (by omega)
    constructor
    · rintro ⟨a, b, -, x⟩
      have := hn.1 x
      exact ⟨a, ⟨b, by omega⟩, z⟩
    · rintro ⟨a, b, -⟩
      exact ⟨a, b.1, z, hn.2 (by omega)⟩
  · constructor
    · rintro ⟨a, b, x, -⟩
      exact absurd x z
    · rintro ⟨a, b, x⟩
      exact absurd x z
theorem zCk_0 {r0 c w r q : Int} : ¬ zCk T r0 c w 0 r q := by
  unfold zCk
  rw [Int.zero_ediv, Int.zero_emod]
  omega
end ZK
