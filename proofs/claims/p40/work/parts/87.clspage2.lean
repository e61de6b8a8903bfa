/-! the pure part: the class fills its sheets -/
def zput4 (T : Mem) (S : zSt) (l : Int) : zSt := zrec (fun k => if k = 0 then S 0 0 + 1 else S 0 k) (zset (S 1) (S 0 0) (zcd T (S 0 4))) (zset (S 2) (S 0 0) (S 0 1 - 1)) (zset (S 3) (S 0 0) (S 0 5)) (zset (S 4) (S 0 0) l) (zset (S 5) (S 0 1 - 1) (S 5 (S 0 1 - 1) + l)) (zset (S 6) (S 0 1 - 1) (S 6 (S 0 1 - 1) + znl T S l)) (zS7 T S) (S 8)
def zus (T : Mem) (S : zSt) (p : Int) : Int := S 5 p + (if T 11 0 26 = 0 then S 6 p else 0) + (zsum T (zhH T) 0 + zsum T (zhH T) 2) + (if p ≤ 0 then 0 else 1 + zat T) + (if S 0 1 - 1 ≤ p then 0 else zat T)
/-- the finished sheets in the class's memory -/
def zKS (T : Mem) (S : zSt) (M : Mem) : Prop := M 7 0 0 = (if S 0 6 = 0 then 1 else 0) ∧ M 7 0 1 = S 0 1 ∧ M 7 0 2 = S 0 0 ∧ M 7 0 3 = (if S 0 6 = 0 then zbits T 6 else 0) ∧ (∀ k, 0 ≤ k → k < S 0 0 → M 38 0 k = zcc (S 1 k) ∧ M 39 0 k = S 3 k ∧ M 40 0 k = S 4 k) ∧ (∀ p, 0 ≤ p → p < S 0 1 → M 41 0 p = S 8 p ∧ M 42 0 p = zus T S p ∧ M 43 0 p = S 6 p) ∧ (∀ r k, 0 ≤ r → r < 29 → 0 ≤ k → k < S 0 0 → S 1 k = r → S 3 k = 0 → M 45 0 r = S 7 r)
theorem zor_ok : ∀ k : Fin 6, ∀ b : Fin 64, (b : Nat) < 2 ^ (k : Nat) → iOr (b : Nat) (iShl 1 (k : Nat)) = (b : Nat) + 2 ^ (k : Nat) := by decide +kernel
theorem zor_0 : ∀ b : Fin 64, iOr (b : Nat) 0 = (b : Nat) := by decide +kernel
section CZ
variable {T M : Mem}
theorem ztx_r (T : Mem) (k : Int) : 0 ≤ ztx T k ∧ ztx T k ≤ 1 := by
  have := bit_r (ztt_r T k)
  unfold ztx
  split <;> omega
theorem zbits_r (T : Mem) (n : Int) : 0 ≤ zbits T n ∧ zbits T n ≤ 63 := by
  have a0 := ztx_r T 0
  have a1 := ztx_r T 1
  have a2 := ztx_r T 2
  have a3 := ztx_r T 3
  have a4 := ztx_r T 4
  have a5 := ztx_r T 5
  unfold zbits
  constructor
  · repeat' split
    all_goals omega
  · repeat' split
    all_goals omega
theorem zbits_end (hG : Good T) : zbits T (T 11 0 4) = zbits T 6 := by
  have hC := hG.nC
  have e : ∀ k : Int, T 11 0 4 ≤ k → ztx T k = 0 := fun k h => if_neg (by omega)
  unfold zbits
  rw [if_pos (by omega : (0 : Int) < 6), if_pos (by omega : (1 : Int) < 6), if_pos (by omega : (2 : Int) < 6), if_pos (by omega : (3 : Int) < 6), if_pos (by omega : (4 : Int) < 6), if_pos (by omega : (5 : Int) < 6)]
  have g : ∀ (k c : Int), (if k < T 11 0 4 then c * ztx T k else 0) = c * ztx T k := fun k c => by
    split
    · rfl
    · rw [e k (by omega)]; simp
  have g0 : (if (0 : Int) < T 11 0 4 then ztx T 0 else 0) = ztx T 0 := by
    split
    · rfl
    · rw [e 0 (by omega)]
  rw [g0, g 1 2, g 2 4, g 3 8, g 4 16, g 5 32]
/-- the k-th step: under the bits that stand, one more -/
theorem zbits_succ (T : Mem) {k : Int} (k0 : 0 ≤ k) (k1 : k < 6) : zbits T (k + 1) = zbits T k + (2 ^ k.toNat : Nat) * ztx T k ∧ zbits T k < (2 ^ k.toNat : Nat) := by
  have a0 := ztx_r T 0
  have a1 := ztx_r T 1
  have a2 := ztx_r T 2
  have a3 := ztx_r T 3
  have a4 := ztx_r T 4
  have a5 := ztx_r T 5
  rcases (by omega : k = 0 ∨ k = 1 ∨ k = 2 ∨ k = 3 ∨ k = 4 ∨ k = 5) with rfl | rfl | rfl | rfl | rfl | rfl <;> simp [zbits] <;> omega
theorem k_totalledColumns (hG : Good T) (hL : zLk T) (hA : Ag T M) {Qm : Int → Mem → Prop} (hq : Qm (zbits T 6) M) : wp_X3_totalledColumns M Qm := by
  have hC := hG.nC
  have n12 := hL.n.1
  have e12 := hA.s12
  rw [← zbits_end hG] at hq
  refine zLoop (fun n k s => wp_X3_totalledColumns_4 Qm n s k M) (fun k s => s = zbits T k) (T 11 0 4) hC.1 rfl (fun n s hs => ?_) (fun n k s k0 k1 hs ih => ?_)
  · refine ⟨fun _ => by rw [hs]; exact hq, fun h => absurd h (by rw [e12]; omega)⟩
  · obtain ⟨s1, s2⟩ := zbits_succ T k0 (by omega : k < 6)
    have sr := zbits_r T k
    refine ⟨fun h => absurd h (by rw [e12]; omega), fun _ => k_isTotalled hG hL hA (fun ht => ⟨fun z => absurd z (by decide), fun _ => ⟨⟨by omega, by omega⟩, ih _ ?_⟩⟩) (fun ht => ⟨fun _ => ⟨⟨by omega, by omega⟩, ih _ ?_⟩, fun z => absurd rfl z⟩)⟩
    · have z := zor_ok ⟨k.toNat, by omega⟩ ⟨(zbits T k).toNat, by omega⟩ (by show (zbits T k).toNat < 2 ^ k.toNat; omega)
      have z : iOr ((zbits T k).toNat : Int) (iShl 1 (k.toNat : Int)) = ((zbits T k).toNat : Int) + ((2 : Int) ^ k.toNat) := z
      rw [show ((zbits T k).toNat : Int) = zbits T k by omega, show ((k.toNat : Nat) : Int) = k by omega] at z
      rw [hs, z, s1]
      have : ztx T k = 1 := by unfold ztx; rw [if_pos k1]; exact ht.2.2
      rw [this]
      simp
    · have z := zor_0 ⟨(zbits T k).toNat, by omega⟩
      have z : iOr ((zbits T k).toNat : Int) 0 = ((zbits T k).toNat : Int) := z
      rw [show ((zbits T k).toNat : Int) = zbits T k by omega] at z
      rw [hs, z, s1]
      have : ztx T k = 0 := by
        unfold ztx; rw [if_pos k1]
        rcases ztt_r T k with q | q
        · exact q
        · exact absurd ⟨k0, k1, q⟩ ht
      rw [this]
      simp
/-- no bit, no column that is totalled -/
theorem zbits_at (hG : Good T) : zbits T 6 = 0 ↔ zat T = 0 := by
  have hC := hG.nC
  have h1 : ∀ n : Int, 0 ≤ n → n ≤ T 11 0 4 → (zF (fun b k => if ¬ b = 0 then (1 : Int) else if T 58 0 k = 0 then 0 else if ¬ T 59 0 k = 0 then 0 else 1) (0 : Int) 0 n = 0 ↔ ∀ k, 0 ≤ k → k < n → ztt T k = 0) := by
    intro n n0 n1
    refine zF_ind (fun n b => (b = 0 ↔ ∀ k, 0 ≤ k → k < n → ztt T k = 0)) n0 ⟨fun _ k a b => absurd b (by omega), fun _ => rfl⟩ (fun k b k0 k1 hb => ?_)
    show ((if ¬ b = 0 then (1 : Int) else if T 58 0 k = 0 then 0 else if ¬ T 59 0 k = 0 then 0 else 1) = 0 ↔ _)
    have et : (if T 58 0 k = 0 then (0 : Int) else if ¬ T 59 0 k = 0 then 0 else 1) = ztt T k := rfl
    rw [et]
    by_cases hz : b = 0
    · rw [if_neg (by omega)]
      refine ⟨fun h i i0 i1 => ?_, fun h => h k k0 (by omega)⟩
      by_cases e : i = k
      · rw [e]; exact h
      · exact hb.mp hz i i0 (by omega)
    · rw [if_pos hz]
      refine ⟨fun h => absurd h (by decide), fun h => absurd (hb.mpr (fun i a c => h i a (by omega))) hz⟩
  have h2 := h1 (T 11 0 4) hC.1 (Int.le_refl _)
  have h2 : zat T = 0 ↔ ∀ k, 0 ≤ k → k < T 11 0 4 → ztt T k = 0 := h2
  rw [h2]
  have a0 := ztx_r T 0
  have a1 := ztx_r T 1
  have a2 := ztx_r T 2
  have a3 := ztx_r T 3
  have a4 := ztx_r T 4
  have a5 := ztx_r T 5
  have ex : zbits T 6 = ztx T 0 + 2 * ztx T 1 + 4 * ztx T 2 + 8 * ztx T 3 + 16 * ztx T 4 + 32 * ztx T 5 := by simp [zbits]
  have etx : ∀ k, k < T 11 0 4 → ztx T k = ztt T k := fun k h => if_pos h
  refine ⟨fun h k k0 k1 => ?_, fun h => ?_⟩
  · rw [← etx k k1]
    rcases (by omega : k = 0 ∨ k = 1 ∨ k = 2 ∨ k = 3 ∨ k = 4 ∨ k = 5) with rfl | rfl | rfl | rfl | rfl | rfl <;> omega
  · have g : ∀ k, 0 ≤ k → ztx T k = 0 := fun k k0 => by
      by_cases hk : k < T 11 0 4
      · rw [etx k hk]; exact h k k0 hk
      · exact if_neg hk
    rw [ex, g 0 (by omega), g 1 (by omega), g 2 (by omega), g 3 (by omega), g 4 (by omega), g 5 (by omega)]
    rfl
theorem k_putPiece (hG : Good T) {S : zSt} (H : zPW T S) (h : S 0 4 < znn T) (hR : zKR T S M) (hl : zKL T S M) (hF : zKF T M) {l : Int} (l0 : 1 ≤ l) (l1 : l ≤ zln T S) {Qm : Mem → Prop} (hq : ∀ M', Fj zCQ M M' → zKR T (zput4 T S l) M' → M' 3 0 12 = S 0 2 - (l + zwn T S) → M' 3 0 13 = 0 → Qm M') : wp_X2_putPiece (S 0 4) (zln T S) l (zwn T S) M Qm := by
  have H' := H
  obtain ⟨⟨a1, a2, a3, a4, a5⟩, b, c, d, e, f, g, m⟩ := H
  have hb : 0 ≤ S 0 4 ∧ 0 ≤ S 0 5 ∧ S 0 5 < zhg T (S 0 4) := by omega
  have hn50 : znn T ≤ 50 := (zitm_ok hG).2.1
  obtain ⟨r1, r2, r3, r4⟩ := zit_r hG hb.1 h
  obtain ⟨⟨i1, i2⟩, -⟩ := hF
  obtain ⟨j1, j2, j3, j4⟩ := i2 (S 0 4) hb.1 h
  have j1' : M 28 0 (S 0 4) = zcc (zcd T (S 0 4)) := j1
  have j2' : M 29 0 (S 0 4) = zhg T (S 0 4) := j2
  have hln : zln T S = zhg T (S 0 4) - S 0 5 := rfl
  have hw0 : 0 ≤ zwn T S ∧ zwn T S ≤ 300 := by unfold zwn; split <;> omega
  refine ⟨fun z => absurd z (by omega), fun _ => ⟨fun z => absurd z (by omega), fun _ => ⟨⟨by omega, by omega⟩, ⟨by omega, by omega⟩, ?_⟩⟩⟩
  rw [j1', j2', show zhg T (S 0 4) - zln T S = S 0 5 by omega]
  refine ⟨⟨by omega, by omega⟩, k_put hG H' h hR l0 l1 (fun M1 f1 g1 => ?_)⟩
  have f1' : Fj zCQ M M1 := f1.mono (fun s j k z => Or.inl ⟨z.1, z.2.elim (fun q => Or.inl ⟨q.1, Or.inr q.2⟩) Or.inr⟩)
  have x12 : M1 3 0 12 = S 0 2 := by rw [f1 3 0 12 (fun z => z.2.elim (fun q => absurd q.1 (by decide)) (fun q => absurd q.1 (by decide)))]; exact hl.1
  rw [x12]
  refine ⟨⟨by omega, by omega⟩, ⟨by omega, by omega⟩, ?_⟩
  intro M2 e2
  intro M3 e3
  have hS := g1 (zput4 T S l) rfl rfl rfl rfl rfl rfl rfl rfl rfl
  refine hq M3 (by rw [e3, e2]; exact (f1'.up (Or.inr ⟨rfl, Or.inl rfl⟩)).up (Or.inr ⟨rfl, Or.inr rfl⟩)) ?_ ?_ ?_
  · obtain ⟨s1, s2, s3, s4, s5⟩ := hS
    have hu : ∀ (s : Nat) (j k : Int), s ≠ 3 → M3 s j k = M1 s j k := fun s j k hs => by rw [e3, up_s _ _ _ _ hs, e2, up_s _ _ _ _ hs]
    refine ⟨by rw [hu 7 0 2 (by decide)]; exact s1, by rw [hu 7 0 1 (by decide)]; exact s2, fun k x y => ?_, fun p x y => ?_, fun r k x1 x2 x3 x4 x5 x6 => ?_⟩
    · rw [hu 38 0 k (by decide), hu 39 0 k (by decide), hu 40 0 k (by decide)]; exact s3 k x y
    · rw [hu 41 0 p (by decide), hu 42 0 p (by decide), hu 43 0 p (by decide)]; exact s4 p x y
    · rw [hu 45 0 r (by decide)]; exact s5 r k x1 x2 x3 x4 x5 x6
  · rw [e3, up_k _ _ _ _ _ _ (by decide), e2, up_eq]
  · rw [e3, up_eq]
theorem k_putItem (hG : Good T) {S : zSt} (H : zPW T S) (h : S 0 4 < znn T) (h5 : S 0 5 = 0) (hR : zKR T S M) (hl : zKL T S M) (hF : zKF T M) (hz : ∃ f, zmu T S < f ∧ zit T f S = zpg T) {Qm : Int → Mem → Prop} (hy : ∀ S' M', Fj zCQ M M' → zPW T S' → S' 0 4 = S 0 4 + 1 → S' 0 5 = 0 → zKR T S' M' → zKL T S' M' → zKF T M' → (∃ f, zmu T S' < f ∧ zit T f S' = zpg T) → Qm 1 M') (hn : ∀ M', Fj zCQ M M' → ¬ zpg T 0 6 = 0 → Qm 0 M') : wp_X2_putItem (S 0 4) M Qm := by
  have H0 := H
  obtain ⟨⟨a1, a2, a3, a4, a5⟩, b, c, d, e, f, g, m⟩ := H
  have hb : 0 ≤ S 0 4 := by omega
  have hn50 : znn T ≤ 50 := (zitm_ok hG).2.1
  have hF' := hF
  obtain ⟨⟨i1, i2⟩, F1, F2, F3⟩ := hF
  have hnn : M 3 0 8 = znn T := i1
  obtain ⟨j1, j2, j3, j4⟩ := i2 (S 0 4) hb h
  have j2' : M 29 0 (S 0 4) = zhg T (S 0 4) := j2
  have j3' : M 30 0 (S 0 4) = znt T (S 0 4) := j3
  have hat := zat_r T hG
  have emu : zmu T S ≤ 1803 := by
    unfold zmu
    rw [if_neg (by omega)]
    omega
  have ek : (if ¬ S 0 4 = znn T - 1 then zat T else 0) = (if znn T ≤ S 0 4 + 1 then 0 else zat T) := by
    by_cases q : S 0 4 = znn T - 1
    · rw [if_neg (by omega), if_pos (by omega)]
    · rw [if_pos q, if_neg (by omega)]
  have el : zhg T (S 0 4) = zln T S := by unfold zln; omega
  have ew : znt T (S 0 4) = zwn T S := by unfold zwn; rw [if_pos (by omega)]
  unfold wp_X2_putItem
  rw [hnn, F2, j2', j3', ek, el, ew]
  refine ⟨fun z => absurd z (by omega), fun _ => ⟨fun z => absurd z (by omega), fun _ => ⟨fun _ => ⟨⟨by omega, by omega⟩, ⟨by omega, by omega⟩, ⟨by omega, by omega⟩, ?_⟩, fun z => absurd z (by omega)⟩⟩⟩
  refine zWhile (σ := zSt × Mem × Int) (fun n q => wp_X2_putItem_57 (S 0 4) Qm n (zln T q.1) (zwn T q.1) (if znn T ≤ S 0 4 + 1 then 0 else zat T) q.2.2 q.2.1) (fun q => zPW T q.1 ∧ q.1 0 4 = S 0 4 ∧ Fj zCQ M q.2.1 ∧ zKR T q.1 q.2.1 ∧ zKL T q.1 q.2.1 ∧ (∃ f, zmu T q.1 < f ∧ zit T f q.1 = zpg T) ∧ 0 ≤ q.2.2 ∧ q.2.2 + zmu T q.1 ≤ 1803) (fun q => zmu T q.1) (fun n q hI ih => ?_) (S, M, 0) ⟨H0, rfl, Fj.rf _ _, hR, hl, hz, Int.le_refl _, by show (0 : Int) + (zmu T S : Int) ≤ 1803; omega⟩
  obtain ⟨S1, N, y⟩ := q
  obtain ⟨H1, hi4, fN, rN, lN, ⟨fu, hf1, hf2⟩, y0, y1⟩ := hI
  dsimp only at H1 hi4 fN rN lN hf1 hf2 y0 y1 ih ⊢
  have H1' := H1
  obtain ⟨⟨a1, a2, a3, a4, a5⟩, b, c, d, e, f, g, m⟩ := H1
  have hlt : S1 0 4 < znn T := by omega
  have hb1 : 0 ≤ S1 0 4 ∧ 0 ≤ S1 0 5 ∧ S1 0 5 < zhg T (S1 0 4) := by omega
  obtain ⟨r1, r2, r3, r4⟩ := zit_r hG hb1.1 hlt
  have FN := hF'.fr fN
  have FN' := FN
  obtain ⟨⟨-, k2⟩, G1, G2, G3⟩ := FN
  have l12 := lN.1
  have l13 := lN.2
  have hw : 0 ≤ zwn T S1 ∧ zwn T S1 ≤ 300 := by unfold zwn; split <;> omega
  have hl1 : 1 ≤ zln T S1 ∧ zln T S1 ≤ 300 := by unfold zln; omega
  have hc0 : 0 ≤ (if znn T ≤ S 0 4 + 1 then 0 else zat T) ∧ (if znn T ≤ S 0 4 + 1 then 0 else zat T) ≤ 1 := by split <;> omega
  have hc1 : (if znn T ≤ S 0 4 + 1 then 0 else zat T) = (if znn T ≤ S1 0 4 + 1 then 0 else zat T) := by rw [hi4]
  have em : S1 0 2 - zat T - zwn T S1 = zmo T S1 := rfl
  have jb : N 31 0 (S 0 4) = zbr T (S1 0 4) := by rw [hi4]; exact (k2 (S 0 4) hb h).2.2.2
  obtain ⟨hst, hmu⟩ := zstp_ok hG H1' hlt
  have hgo : zstp T S1 ≠ zfail S1 → (∃ f, zmu T (zstp T S1) < f ∧ zit T f (zstp T S1) = zpg T) := fun _ => by
    obtain ⟨fu, rfl⟩ : ∃ k, fu = k + 1 := ⟨fu - 1, by omega⟩
    rw [zit_go (by omega)] at hf2
    exact ⟨fu, by omega, hf2⟩
  refine ⟨fun z => absurd z (by omega), fun _ => ?_⟩
  rw [l12, l13, G2, em, jb, ← hi4]
  rw [hc1] at hc0
  -- a new page, the item as it is
  have hnew : ¬ (zln T S1 + zwn T S1 ≤ S1 0 2 - (if znn T ≤ S1 0 4 + 1 then 0 else zat T)) → ¬ ((¬ zbr T (S1 0 4) = 0 ∨ S1 0 3 = 0) ∧ 1 ≤ zmo T S1) → wp_X2_putItem_142 (S1 0 4) Qm (wp_X2_putItem_57 (S1 0 4) Qm n) (zln T S1) (zwn T S1) (if znn T ≤ S1 0 4 + 1 then 0 else zat T) y N := fun hx hyy => by
    unfold wp_X2_putItem_142
    rw [l13]
    refine ⟨fun hany => ?_, fun hany => ?_⟩
    · have h3 : ¬ S1 0 3 = 0 := by omega
      have es : zstp T S1 = znewp T S1 := by unfold zstp; rw [if_neg hx, if_neg hyy, if_pos h3]
      obtain ⟨W1, -⟩ := zPW_new hG H1' hlt h3
      refine k_openPage hG (by omega) (by omega) rN FN' (fun N2 f2 r2 l2 => ⟨⟨by omega, by omega⟩, ?_⟩)
      have := ih (znewp T S1, N2, y + 1) ⟨W1, hi4, fN.tr f2, r2, l2, by rw [← es]; exact hgo (by rw [es]; intro q; have := congrFun (congrFun q 0) 6; exact absurd (e.symm.trans this) (by show ¬ (0 : Int) = 1; decide)), by show 0 ≤ y + 1; omega, by show y + 1 + (zmu T (znewp T S1) : Int) ≤ 1803; rw [← es]; omega⟩ (by show zmu T (znewp T S1) < zmu T S1; rw [← es]; exact hmu)
      dsimp only at this
      rw [hi4]
      rw [hi4] at hc1
      rw [← hc1]
      exact this
    · have h3 : S1 0 3 = 0 := by omega
      have es : zstp T S1 = zfail S1 := by unfold zstp; rw [if_neg hx, if_neg hyy, if_neg (by omega)]
      obtain ⟨fu, rfl⟩ : ∃ k, fu = k + 1 := ⟨fu - 1, by omega⟩
      rw [zit_go (by omega), es, zit_done (Or.inl (by show ¬ (1 : Int) = 0; decide))] at hf2
      exact hn N fN (by rw [← hf2]; show ¬ (1 : Int) = 0; decide)
  have hbrk : ¬ (zln T S1 + zwn T S1 ≤ S1 0 2 - (if znn T ≤ S1 0 4 + 1 then 0 else zat T)) → (¬ zbr T (S1 0 4) = 0 ∨ S1 0 3 = 0) → 1 ≤ zmo T S1 → wp_X2_putItem_123 (S1 0 4) Qm (wp_X2_putItem_57 (S1 0 4) Qm n) (zln T S1) (zwn T S1) (if znn T ≤ S1 0 4 + 1 then 0 else zat T) y (zmo T S1) N := fun hx hyy h1 => by
    obtain ⟨W1, -, w3⟩ := zPW_brk hG H1' hlt hx h1
    have es : zstp T S1 = zbrk T S1 := by unfold zstp; rw [if_neg hx, if_pos ⟨hyy, h1⟩]
    refine k_putPiece hG H1' hlt rN lN FN' h1 (by omega) (fun N2 f2 r2 x2 x3 => ⟨⟨by omega, by omega⟩, k_openPage hG (S := zput4 T S1 (zmo T S1)) (by show 0 ≤ S1 0 1; omega) (by show S1 0 1 < 904; omega) r2 (FN'.fr f2) (fun N3 f3 r3 l3 => ⟨⟨by omega, by omega⟩, ?_⟩)⟩)
    have r3' : zKR T (zbrk T S1) N3 := r3
    have l3' : zKL T (zbrk T S1) N3 := l3
    have := ih (zbrk T S1, N3, y + 1) ⟨W1, hi4, (fN.tr f2).tr f3, r3', l3', by rw [← es]; exact hgo (by rw [es]; intro q; have := congrFun (congrFun q 0) 6; exact absurd (e.symm.trans this) (by show ¬ (0 : Int) = 1; decide)), by show 0 ≤ y + 1; omega, by show y + 1 + (zmu T (zbrk T S1) : Int) ≤ 1803; rw [← es]; omega⟩ (by show zmu T (zbrk T S1) < zmu T S1; rw [← es]; exact hmu)
    dsimp only at this
    have e1 : zln T (zbrk T S1) = zln T S1 - zmo T S1 := by
      show zhg T (S1 0 4) - (S1 0 5 + zmo T S1) = zhg T (S1 0 4) - S1 0 5 - zmo T S1
      omega
    have e2 : zwn T (zbrk T S1) = 0 := by
      show (if S1 0 5 + zmo T S1 ≤ 0 then znt T (S1 0 4) else 0) = 0
      rw [if_neg (by omega)]
    rw [e1, e2] at this
    rw [hi4]
    rw [hi4] at hc1
    rw [← hc1]
    exact this
  refine ⟨⟨by omega, by omega⟩, ⟨by omega, by omega⟩, fun hx => ⟨⟨by omega, by omega⟩, ⟨by omega, by omega⟩, fun h1 => hnew (by omega) (by omega), fun h1 => ⟨⟨by omega, by omega⟩, fun hbz => hbrk (by omega) (Or.inl hbz) h1, fun hbz => ⟨fun hany => hnew (by omega) (by omega), fun hany => hbrk (by omega) (Or.inr (by omega)) h1⟩⟩⟩, fun hx => ?_⟩
  obtain ⟨W1, -, -⟩ := zPW_fit hG H1' hlt hx
  have es : zstp T S1 = zfit T S1 := by unfold zstp; rw [if_pos hx]
  refine k_putPiece hG H1' hlt rN lN FN' hl1.1 (Int.le_refl _) (fun N2 f2 r2 x2 x3 => hy (zfit T S1) N2 (fN.tr f2) W1 (by show S1 0 4 + 1 = S 0 4 + 1; omega) rfl r2 ⟨x2, by rw [x3]; rfl⟩ (FN'.fr f2) (by rw [← es]; exact hgo (by rw [es]; intro q; have := congrFun (congrFun q 0) 6; exact absurd (e.symm.trans this) (by show ¬ (0 : Int) = 1; decide))))
theorem k_addFrame (hG : Good T) {S : zSt} (H : zPW T S) (hS : M 7 0 1 = S 0 1 ∧ ∀ p, 0 ≤ p → p < S 0 1 → M 42 0 p = S 5 p + (if T 11 0 26 = 0 then S 6 p else 0)) {Qm : Mem → Prop} (hq : ∀ M', Fj (fun s j _ => s = 42 ∧ j = 0) M M' → (∀ p, 0 ≤ p → p < S 0 1 → M' 42 0 p = zus T S p) → Qm M') : wp_X6_addFrame 0 (zsum T (zhH T) 0 + zsum T (zhH T) 2) (zat T) M Qm := by
  obtain ⟨⟨a1, a2, a3, a4, a5⟩, b, c, d, e, f, g, m⟩ := H
  obtain ⟨h1, h42⟩ := hS
  have hat := zat_r T hG
  have hh := zht_r hG (zwid_r hG)
  have hm0 := hG.many (p := 0) (by omega) (by omega)
  have hm2 := hG.many (p := 2) (by omega) (by omega)
  have b0 := zsum_r hG hh (p := 0) (by omega) (by omega) hm0.1 (Int.le_refl _)
  have b2 := zsum_r hG hh (p := 2) (by omega) (by omega) hm2.1 (Int.le_refl _)
  have ea : zsum T (zhH T) 0 = zS (fun k => zht T (zwid T) (T 63 0 (24 * 0 + k))) 0 (T 64 0 0) := rfl
  have eb : zsum T (zhH T) 2 = zS (fun k => zht T (zwid T) (T 63 0 (24 * 2 + k))) 0 (T 64 0 2) := rfl
  rw [← ea] at b0
  rw [← eb] at b2
  refine zLoop (fun n k N => wp_X6_addFrame_2 0 (zsum T (zhH T) 0 + zsum T (zhH T) 2) (zat T) Qm n k N) (fun y N => Fj (fun s j _ => s = 42 ∧ j = 0) M N ∧ (∀ p, 0 ≤ p → p < y → N 42 0 p = zus T S p) ∧ ∀ p, y ≤ p → p < S 0 1 → N 42 0 p = S 5 p + (if T 11 0 26 = 0 then S 6 p else 0)) (S 0 1) (by omega) ⟨Fj.rf _ _, fun p a b => absurd b (by omega), fun p a b => h42 p a b⟩ (fun n N hN => ?_) (fun n y N y0 y1 hN ih => ?_)
  · have e1 : N 7 0 1 = S 0 1 := by rw [hN.1 7 0 1 (fun z => absurd z.1 (by decide))]; exact h1
    exact ⟨fun _ => hq N hN.1 hN.2.1, fun h => absurd h (by omega)⟩
  · obtain ⟨fN, dN, rN⟩ := hN
    have e1 : N 7 0 1 = S 0 1 := by rw [fN 7 0 1 (fun z => absurd z.1 (by decide))]; exact h1
    have x := rN y (Int.le_refl _) y1
    have hf := f y y0 y1
    have hus : 0 ≤ S 5 y + (if T 11 0 26 = 0 then S 6 y else 0) ∧ S 5 y + (if T 11 0 26 = 0 then S 6 y else 0) ≤ 1000000 := by split <;> omega
    have hc1 : 0 ≤ (if y ≤ 0 then 0 else 1 + zat T) ∧ (if y ≤ 0 then 0 else 1 + zat T) ≤ 2 := by split <;> omega
    have hc2 : 0 ≤ (if S 0 1 - 1 ≤ y then 0 else zat T) ∧ (if S 0 1 - 1 ≤ y then 0 else zat T) ≤ 1 := by split <;> omega
    unfold wp_X6_addFrame_2
    rw [e1, x]
    refine ⟨fun z => absurd z (by omega), fun _ => ⟨fun z => absurd z (by omega), fun _ => ⟨⟨by omega, by omega⟩, ⟨by omega, by omega⟩, ⟨by omega, by omega⟩, ?_⟩⟩⟩
    intro N2 e2
    have x2 : N2 42 0 y = S 5 y + (if T 11 0 26 = 0 then S 6 y else 0) + (zsum T (zhH T) 0 + zsum T (zhH T) 2) := by rw [e2, up_eq]
    rw [x2]
    refine ⟨⟨by omega, by omega⟩, fun _ => ⟨⟨by omega, by omega⟩, trivial⟩, ⟨by omega, by omega⟩, ⟨by omega, by omega⟩, ⟨by omega, by omega⟩, ?_⟩
    intro N3 e3
    have x3 : N3 42 0 y = S 5 y + (if T 11 0 26 = 0 then S 6 y else 0) + (zsum T (zhH T) 0 + zsum T (zhH T) 2) + (if y ≤ 0 then 0 else 1 + zat T) := by rw [e3, up_eq]
    have y3 : N3 7 0 1 = S 0 1 := by rw [e3, up_s _ _ _ _ (by decide), e2, up_s _ _ _ _ (by decide)]; exact e1
    rw [x3, y3]
    refine ⟨⟨by omega, by omega⟩, ⟨by omega, by omega⟩, ⟨by omega, by omega⟩, ⟨by omega, by omega⟩, ?_⟩
    intro N4 e4
    refine ⟨⟨by omega, by omega⟩, ih N4 ⟨by rw [e4, e3, e2]; exact ((fN.up ⟨rfl, rfl⟩).up ⟨rfl, rfl⟩).up ⟨rfl, rfl⟩, fun p p0 p1 => ?_, fun p p0 p1 => ?_⟩⟩
    · by_cases hp : p = y
      · rw [hp, e4, up_eq]; rfl
      · rw [e4, up_k _ _ _ _ _ _ hp, e3, up_k _ _ _ _ _ _ hp, e2, up_k _ _ _ _ _ _ hp]; exact dN p p0 (by omega)
    · have hp : p ≠ y := by omega
      rw [e4, up_k _ _ _ _ _ _ hp, e3, up_k _ _ _ _ _ _ hp, e2, up_k _ _ _ _ _ _ hp]; exact rN p (by omega) p1
theorem k_fillSheets (hG : Good T) (hL : zLk T) (hA : Ag T M) (hh : ∀ r, 0 ≤ r → r < T 11 0 8 → M 35 0 r = zhH T r) {Qm : Mem → Prop} (hq : ∀ M', Fj zCP M M' → zKS T (zpg T) M' → Qm M') : wp_X2_fillSheets (T 11 0 25) (T 11 0 26) M Qm := by
  have hB : zHB T (zhH T) := zht_r hG (zwid_r hG)
  have hat := zat_r T hG
  have hm0 := hG.many (p := 0) (by omega) (by omega)
  have hm2 := hG.many (p := 2) (by omega) (by omega)
  have b0 := zsum_r hG hB (p := 0) (by omega) (by omega) hm0.1 (Int.le_refl _)
  have b2 := zsum_r hG hB (p := 2) (by omega) (by omega) hm2.1 (Int.le_refl _)
  have ea : zsum T (zhH T) 0 = zS (fun k => zhH T (T 63 0 (24 * 0 + k))) 0 (T 64 0 0) := rfl
  have eb : zsum T (zhH T) 2 = zS (fun k => zhH T (T 63 0 (24 * 2 + k))) 0 (T 64 0 2) := rfl
  rw [← ea] at b0
  rw [← eb] at b2
  intro M1 e1
  have f1 : Fj zCP M M1 := by rw [e1]; exact (Fj.rf zCP M).up (Or.inl rfl)
  have hA1 : Ag T M1 := f1.ag hA zCP_in
  refine k_totalledColumns hG hL hA1 ?_
  intro M2 e2
  have ebz : (if ¬ zbits T 6 = 0 then (1 : Int) else 0) = zat T := by
    by_cases hz : zbits T 6 = 0
    · rw [if_neg (by omega), (zbits_at hG).mp hz]
    · rw [if_pos hz]
      have : ¬ zat T = 0 := fun q => hz ((zbits_at hG).mpr q)
      omega
  rw [ebz] at e2
  have f2 : Fj zCP M M2 := by rw [e2]; exact f1.up (Or.inl rfl)
  have hA2 : Ag T M2 := f2.ag hA zCP_in
  have h2 : ∀ r, 0 ≤ r → r < T 11 0 8 → M2 35 0 r = zhH T r := fun r a b => by rw [e2, up_s _ _ _ _ (by decide), e1, up_s _ _ _ _ (by decide)]; exact hh r a b
  refine k_heightOfPart hG hL hA2 (by omega) (by omega) hB h2 (k_heightOfPart hG hL hA2 (by omega) (by omega) hB h2 ⟨⟨by omega, by omega⟩, ?_⟩)
  intro M3 e3
  have f3 : Fj zCP M M3 := by rw [e3]; exact f2.up (Or.inl rfl)
  have hA3 : Ag T M3 := f3.ag hA zCP_in
  have h3 : ∀ r, 0 ≤ r → r < T 11 0 8 → M3 35 0 r = zhH T r := fun r a b => by rw [e3, up_s _ _ _ _ (by decide)]; exact h2 r a b
  have y10 : M3 3 0 10 = zat T := by rw [e3, up_k _ _ _ _ _ _ (by decide), e2, up_eq]
  have y9 : M3 3 0 9 = zsum T (zhH T) 0 + zsum T (zhH T) 2 := by rw [e3, up_eq]
  have y11 : M3 3 0 11 = T 11 0 25 := by rw [e3, up_k _ _ _ _ _ _ (by decide), e2, up_k _ _ _ _ _ _ (by decide), e1, up_eq]
  refine k_collectItems hG hL hA3 h3 y10 (fun M4 f4 i4 => ?_)
  have f4' : Fj zCP M M4 := f3.tr (f4.mono zCI_P)
  have F4 : zKF T M4 := ⟨i4, by rw [f4 3 0 9 (by simp only [zCI]; omega)]; exact y9, by rw [f4 3 0 10 (by simp only [zCI]; omega)]; exact y10, by rw [f4 3 0 11 (by simp only [zCI]; omega)]; exact y11⟩
  intro M5 e5 M6 e6 M7 e7 M8 e8
  have f8 : Fj zCP M4 M8 := by
    rw [e8, e7, e6, e5]
    exact ((((Fj.rf zCP M4).up (Or.inr (Or.inr ⟨rfl, Or.inl rfl⟩))).up (Or.inr (Or.inr ⟨rfl, Or.inl rfl⟩))).up (Or.inr (Or.inr ⟨rfl, Or.inl rfl⟩))).up (Or.inr (Or.inr ⟨rfl, Or.inl rfl⟩))
  have u8 : ∀ (s : Nat) (j k : Int), s ≠ 7 → M8 s j k = M4 s j k := fun s j k hs => by rw [e8, up_s _ _ _ _ hs, e7, up_s _ _ _ _ hs, e6, up_s _ _ _ _ hs, e5, up_s _ _ _ _ hs]
  have v0 : M8 7 0 0 = 1 := by rw [e8, up_k _ _ _ _ _ _ (by decide), e7, up_k _ _ _ _ _ _ (by decide), e6, up_eq]
  have v1 : M8 7 0 1 = 0 := by rw [e8, up_k _ _ _ _ _ _ (by decide), e7, up_eq]
  have v2 : M8 7 0 2 = 0 := by rw [e8, up_eq]
  have v3 : M8 7 0 3 = zbits T 6 := by rw [e8, up_k _ _ _ _ _ _ (by decide), e7, up_k _ _ _ _ _ _ (by decide), e6, up_k _ _ _ _ _ _ (by decide), e5, up_eq]
  have F8 : zKF T M8 := by
    obtain ⟨⟨g1, g2⟩, g3, g4, g5⟩ := F4
    exact ⟨⟨by rw [u8 3 0 8 (by decide)]; exact g1, fun k a b => by rw [u8 28 0 k (by decide), u8 29 0 k (by decide), u8 30 0 k (by decide), u8 31 0 k (by decide)]; exact g2 k a b⟩, by rw [u8 3 0 9 (by decide)]; exact g3, by rw [u8 3 0 10 (by decide)]; exact g4, by rw [u8 3 0 11 (by decide)]; exact g5⟩
  have K8 : zKR T (fun _ _ => 0) M8 := ⟨v2, v1, fun k a b => absurd b (by show ¬ k < 0; omega), fun k a b => absurd b (by show ¬ k < 0; omega), fun r k _ _ a b => absurd b (by show ¬ k < 0; omega)⟩
  refine k_openPage hG (S := fun _ _ => 0) (by decide) (by decide) K8 F8 (fun M9 f9 r9 l9 => ?_)
  have hW0 := zPW_0 hG
  have hmu0 : zmu T (zS0 T) < 1900 := by
    have hz := hW0.2.2.1
    have h6 := hW0.2.2.2.2.1
    have h03 := hW0.1
    unfold zmu
    rw [if_neg (by omega)]
    omega
  have f9' : Fj zCP M M9 := (f4'.tr f8).tr (f9.mono zCQ_P)
  have w0 : M9 7 0 0 = 1 := by rw [f9 7 0 0 (by simp only [zCQ]; omega)]; exact v0
  have w3 : M9 7 0 3 = zbits T 6 := by rw [f9 7 0 3 (by simp only [zCQ]; omega)]; exact v3
  -- the items
  refine zLoop (σ := zSt × Mem) (fun n k q => wp_X2_fillSheets_67 (T 11 0 25) (T 11 0 26) Qm n k q.2) (fun i q => zPW T q.1 ∧ q.1 0 4 = i ∧ q.1 0 5 = 0 ∧ Fj zCQ M9 q.2 ∧ zKR T q.1 q.2 ∧ zKL T q.1 q.2 ∧ zKF T q.2 ∧ ∃ f, zmu T q.1 < f ∧ zit T f q.1 = zpg T) (s := (zS0 T, M9)) (znn T) (zitm_ok hG).1 ⟨hW0, rfl, rfl, Fj.rf _ _, r9, l9, F8.fr f9, 1900, hmu0, rfl⟩ (fun n q hI => ?_) (fun n i q i0 i1 hI ih => ?_)
  · obtain ⟨S, N⟩ := q
    obtain ⟨H, h4, h5, fN, rN, lN, FN, fu, hf1, hf2⟩ := hI
    dsimp only at H h4 h5 fN rN lN FN hf1 hf2 ⊢
    obtain ⟨⟨i1, -⟩, F1, F2, F3⟩ := FN
    have hnn : N 3 0 8 = znn T := i1
    have h6 := H.2.2.2.2.1
    rw [zit_done (Or.inr (by omega))] at hf2
    obtain ⟨k1, k2, k3, k4, k5⟩ := rN
    refine ⟨fun _ => ?_, fun z => absurd z (by omega)⟩
    rw [F1, F2]
    refine k_addFrame hG H ⟨k2, fun p a b => (k4 p a b).2.1⟩ (fun N2 f2 d2 => hq N2 ((f9'.tr (fN.mono zCQ_P)).tr (f2.mono (fun s j k z => Or.inr (Or.inr ⟨z.2, Or.inr ⟨by rw [z.1]; decide, by rw [z.1]; decide⟩⟩)))) ?_)
    have u2 : ∀ (s : Nat) (j k : Int), s ≠ 42 → N2 s j k = N s j k := fun s j k hs => f2 s j k (fun z => hs z.1)
    rw [← hf2]
    refine ⟨?_, ?_, ?_, ?_, fun k a b => ?_, fun p a b => ?_, fun r k x1 x2 x3 x4 x5 x6 => ?_⟩
    · rw [u2 7 0 0 (by decide), if_pos h6, fN 7 0 0 (by simp only [zCQ]; omega)]; exact w0
    · rw [u2 7 0 1 (by decide)]; exact k2
    · rw [u2 7 0 2 (by decide)]; exact k1
    · rw [u2 7 0 3 (by decide), if_pos h6, fN 7 0 3 (by simp only [zCQ]; omega)]; exact w3
    · rw [u2 38 0 k (by decide), u2 39 0 k (by decide), u2 40 0 k (by decide)]; exact k3 k a b
    · rw [u2 41 0 p (by decide), u2 43 0 p (by decide)]; exact ⟨(k4 p a b).1, d2 p a b, (k4 p a b).2.2⟩
    · rw [u2 45 0 r (by decide)]; exact k5 r k x1 x2 x3 x4 x5 x6
  · obtain ⟨S, N⟩ := q
    obtain ⟨H, h4, h5, fN, rN, lN, FN, hz⟩ := hI
    dsimp only at H h4 h5 fN rN lN FN hz ih ⊢
    have hnn : N 3 0 8 = znn T := FN.1.1
    have hn50 : znn T ≤ 50 := (zitm_ok hG).2.1
    refine ⟨fun z => absurd z (by omega), fun _ => ?_⟩
    rw [← h4]
    refine k_putItem hG H (by omega) h5 rN lN FN hz (fun S' N' f' W' h4' h5' r' l' F' z' => ⟨fun _ => ⟨⟨by omega, by omega⟩, ?_⟩, fun q => absurd q (by decide)⟩) (fun N' f' h6 => ⟨fun q => absurd rfl q, fun _ => ?_⟩)
    · rw [h4]
      exact ih (S', N') ⟨W', by show S' 0 4 = i + 1; omega, h5', fN.tr f', r', l', F', z'⟩
    · obtain ⟨-, -, hz0⟩ := zpg_wf hG
      obtain ⟨z0, z1⟩ := hz0 h6
      intro N1 n1 N2 n2 N3 n3 N4 n4 N5 n5
      refine hq N5 ?_ ⟨?_, ?_, ?_, ?_, fun k a b => absurd b (by omega), fun p a b => absurd b (by omega), fun r k _ _ a b => absurd b (by omega)⟩
      · rw [n5, n4, n3, n2, n1]
        exact (((((((f9'.tr (fN.mono zCQ_P)).tr (f'.mono zCQ_P)).up (Or.inr (Or.inr ⟨rfl, Or.inl rfl⟩))).up (Or.inr (Or.inr ⟨rfl, Or.inl rfl⟩))).up (Or.inr (Or.inr ⟨rfl, Or.inl rfl⟩))).up (Or.inr (Or.inr ⟨rfl, Or.inl rfl⟩))).up (Or.inr (Or.inr ⟨rfl, Or.inl rfl⟩)))
      · rw [if_neg h6, n5, up_eq]
      · rw [z1, n5, up_k _ _ _ _ _ _ (by decide), n4, up_k _ _ _ _ _ _ (by decide), n3, up_eq]
      · rw [z0, n5, up_k _ _ _ _ _ _ (by decide), n4, up_eq]
      · rw [if_neg h6, n5, up_k _ _ _ _ _ _ (by decide), n4, up_k _ _ _ _ _ _ (by decide), n3, up_k _ _ _ _ _ _ (by decide), n2, up_k _ _ _ _ _ _ (by decide), n1, up_eq]
end CZ
