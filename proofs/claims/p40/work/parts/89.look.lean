/-! the pure part: refresh, and look on both sides -/
/-- what the class has found -/
def zDR (T M : Mem) : Prop := (zWK T 0 M ∧ ∀ k, 0 ≤ k → k < T 11 0 4 → M 51 0 k = zwid T k) ∧ (∀ c, 0 ≤ c → c < T 11 0 15 → M 34 0 c = zlinesW T (zwid T) c) ∧ (∀ r, 0 ≤ r → r < T 11 0 8 → M 35 0 r = zhH T r) ∧ zKS T (zpg T) M ∧ (∀ p c, 0 ≤ p → p < zpg T 0 1 → 0 ≤ c → c < 6 → M 44 0 (p * 6 + c) = zcar T (zpg T) p c)
def zRF : Nat → Int → Int → Prop := fun s j k => zCP s j k ∨ (((34 ≤ s ∧ s ≤ 35) ∨ (49 ≤ s ∧ s ≤ 55)) ∧ j = 0) ∨ (s = 10 ∧ k = 10)
theorem zRF_in : ∀ s j k, zRF s j k → zin s k = false := by
  intro s j k hz
  simp only [zRF, zCP] at hz
  simp only [zin, Bool.or_eq_false_iff, Bool.and_eq_false_iff, decide_eq_false_iff_not]
  omega
def zCode (c : Int) : Prop := 0 ≤ c ∧ (c < 29 ∨ (100 ≤ c ∧ c < 129) ∨ c = 200 ∨ c = 201)
theorem zcc_inj {a b : Int} (ha : zCode a) (hb : zCode b) : zcc a = zcc b ↔ a = b := by
  unfold zCode at ha hb
  unfold zcc
  by_cases a1 : a < 100
  · rw [if_pos a1]
    by_cases b1 : b < 100
    · rw [if_pos b1]
    · rw [if_neg b1]
      by_cases b2 : b < 200
      · rw [if_pos b2]; omega
      · rw [if_neg b2]; omega
  · rw [if_neg a1]
    by_cases b1 : b < 100
    · rw [if_pos b1]
      by_cases a2 : a < 200
      · rw [if_pos a2]; omega
      · rw [if_neg a2]; omega
    · rw [if_neg b1]
      by_cases a2 : a < 200
      · rw [if_pos a2]
        by_cases b2 : b < 200
        · rw [if_pos b2]; omega
        · rw [if_neg b2]; omega
      · rw [if_neg a2]
        by_cases b2 : b < 200
        · rw [if_pos b2]; omega
        · rw [if_neg b2]; omega
/-- sheets in the class's memory: pages and pieces -/
def zCS (u : Int) (S : zSt) (M : Mem) : Prop := zSR u S M ∧ ∀ k, 0 ≤ k → k < S 0 0 → M 38 u k = zcc (S 1 k) ∧ M 39 u k = S 3 k ∧ M 40 u k = S 4 k
def zCd (S : zSt) : Prop := ∀ k, 0 ≤ k → k < S 0 0 → zCode (S 1 k)
def zob (O : zSt) : Int := O 10 0 + 2 * O 10 1 + 4 * O 10 2 + 8 * O 10 3 + 16 * O 10 4 + 32 * O 10 5
/-- the sheets looked at, whatever memory -/
def zOS (T : Mem) (O : zSt) : Prop := zWF O ∧ zCd O ∧ (∀ c, 0 ≤ c → c < 6 → 0 ≤ O 10 c ∧ O 10 c ≤ 1) ∧ ∀ c, T 11 0 4 ≤ c → c < 6 → O 10 c = 0
/-- they lie in the class's memory -/
def zKO (O : zSt) (M : Mem) : Prop := zCS 1 O M ∧ (0 < O 0 1 → M 7 1 3 = zob O) ∧ (∀ p, 0 ≤ p → p < O 0 1 → M 43 1 p = O 6 p) ∧ ∀ p c, 0 ≤ p → p < O 0 1 → 0 ≤ c → c < 6 → ¬ O 10 c = 0 → M 44 1 (p * 6 + c) = O 9 (6 * p + c)
theorem zand_ok : ∀ i : Fin 6, ∀ b : Fin 64, iAnd (iShr (b : Nat) (i : Nat)) 1 = (((b : Nat) / 2 ^ (i : Nat) % 2 : Nat) : Int) := by decide +kernel
theorem cpM_in (M : Mem) (s : Nat) (j : Int) (s2 : Nat) (j2 : Int) {n k : Int} (k0 : 0 ≤ k) (k1 : k < n) : cpM M s j s2 j2 n s2 j2 k = M s j k := if_pos ⟨rfl, rfl, k0, k1⟩
theorem cpM_ne (M : Mem) (s : Nat) (j : Int) (s2 : Nat) (j2 n : Int) {s' : Nat} {j' : Int} (h : s' ≠ s2 ∨ j' ≠ j2) (k : Int) : cpM M s j s2 j2 n s' j' k = M s' j' k := if_neg (fun z => h.elim (fun q => q z.1) (fun q => q z.2.1))
theorem Fj.cp {Z : Nat → Int → Int → Prop} {M M' : Mem} (h : Fj Z M M') {s : Nat} {j : Int} {s2 : Nat} {j2 n : Int} (hz : ∀ k, Z s2 j2 k) : Fj Z M (cpM M' s j s2 j2 n) := by
  intro s' j' k' z
  refine Eq.trans (if_neg ?_) (h s' j' k' z)
  rintro ⟨rfl, rfl, -⟩
  exact z (hz k')
section DB
variable {T M : Mem}
theorem k_refresh (hG : Good T) (hL : zLk T) (hA : Ag T M) (hd : M 10 0 10 = 0 → zDR T M) {Qm : Mem → Prop} (hq : ∀ M', Fj zRF M M' → zDR T M' → M' 10 0 10 = 0 → Qm M') : wp_X9_refresh M Qm := by
  refine ⟨fun h => hq M (Fj.rf _ _) (hd h) h, fun _ => ?_⟩
  have hB := zwid_r hG
  have e7 := hA.g7
  rw [e7, hL.pap.1]
  refine k_solve hG hL hA (fun M3 f3 w3 d3 => ?_)
  have g3 : Fj zRF M M3 := f3.mono (fun s j k z => Or.inr (Or.inl ⟨Or.inr ⟨z.1, z.2.1⟩, z.2.2⟩))
  refine k_measureCells hG hL (g3.ag hA zRF_in) rfl (w := zwid T) d3 hB (fun M4 f4 d4 => ?_)
  have g4 : Fj zRF M M4 := g3.tr (f4.mono (fun s j k z => Or.inr (Or.inl ⟨Or.inl (by omega), z.2⟩)))
  refine k_stackRows hG hL (g4.ag hA zRF_in) hB d4 (fun M5 f5 d5 => ?_)
  have g5 : Fj zRF M M5 := g4.tr (f5.mono (fun s j k z => Or.inr (Or.inl ⟨Or.inl (by omega), z.2⟩)))
  have hA5 := g5.ag hA zRF_in
  have e8 := hA5.g8
  have e9 := hA5.g9
  rw [e8, e9, hL.pap.2.1, hL.pap.2.2.1]
  refine k_fillSheets hG hL hA5 d5 (fun M8 f8 d8 => ?_)
  have g8 : Fj zRF M M8 := g5.tr (f8.mono (fun s j k z => Or.inl z))
  have hA8 := g8.ag hA zRF_in
  refine k_sumUp hG hL hA8 d8 (fun M9 f9 d9 => ?_)
  have g9 : Fj zRF M M9 := g8.tr (f9.mono (fun s j k z => Or.inl (Or.inr (Or.inr ⟨z.2, Or.inr (by omega)⟩))))
  intro M10 e10
  refine hq M10 (by rw [e10]; exact g9.up (Or.inr (Or.inr ⟨rfl, rfl⟩))) ?_ (by rw [e10, up_eq])
  have u : ∀ (s : Nat) (j k : Int), s ≠ 10 → s ≠ 44 → M10 s j k = M8 s j k := fun s j k h h' => by
    rw [e10, up_s _ _ _ _ h]
    exact f9 s j k (fun z => h' z.1)
  have u5 : ∀ (s : Nat) (k : Int), 34 ≤ s → (s ≤ 35 ∨ (49 ≤ s ∧ s ≤ 55)) → M10 s 0 k = M5 s 0 k := fun s k h h' => by
    rw [u s 0 k (by omega) (by omega)]
    exact f8 s 0 k (fun z => by simp only [zCP] at z; omega)
  have u3 : ∀ (s : Nat) (k : Int), 49 ≤ s → s ≤ 55 → M10 s 0 k = M3 s 0 k := fun s k h h' => by
    rw [u5 s k (by omega) (by omega), f5 s 0 k (fun z => by omega), f4 s 0 k (fun z => by omega)]
  refine ⟨⟨?_, fun k a b => by rw [u3 51 k (by decide) (by decide)]; exact d3 k a b⟩, fun c a b => ?_, fun r a b => by rw [u5 35 r (by decide) (by decide)]; exact d5 r a b, ?_, fun p c a b c0 c1 => by rw [e10, up_s _ _ _ _ (by decide)]; exact d9 p c a b c0 c1⟩
  · unfold zWK at w3 ⊢
    simp only [u3 49 _ (by decide) (by decide), u3 50 _ (by decide) (by decide), u3 53 _ (by decide) (by decide), u3 52 _ (by decide) (by decide), u3 51 _ (by decide) (by decide), u3 54 _ (by decide) (by decide), u3 55 _ (by decide) (by decide)]
    exact w3
  · rw [u5 34 c (by decide) (by decide), f5 34 0 c (fun z => by omega)]; exact d4 c a b
  · obtain ⟨k1, k2, k3, k4, k5, k6, k7⟩ := d8
    refine ⟨?_, ?_, ?_, ?_, fun k a b => ?_, fun p a b => ?_, fun r k x1 x2 x3 x4 x5 x6 => ?_⟩
    · rw [u 7 0 0 (by decide) (by decide)]; exact k1
    · rw [u 7 0 1 (by decide) (by decide)]; exact k2
    · rw [u 7 0 2 (by decide) (by decide)]; exact k3
    · rw [u 7 0 3 (by decide) (by decide)]; exact k4
    · rw [u 38 0 k (by decide) (by decide), u 39 0 k (by decide) (by decide), u 40 0 k (by decide) (by decide)]; exact k5 k a b
    · rw [u 41 0 p (by decide) (by decide), u 42 0 p (by decide) (by decide), u 43 0 p (by decide) (by decide)]; exact k6 p a b
    · rw [u 45 0 r (by decide) (by decide)]; exact k7 r k x1 x2 x3 x4 x5 x6
theorem zpg_cd (hG : Good T) : zCd (zpg T) := fun k k0 k1 => by
  by_cases h6 : zpg T 0 6 = 0
  · exact zpc_v hG h6 k0 k1
  · have := ((zpg_wf hG).2.2 h6).1; omega
theorem k_hasSamePieces {S O : zSt} (hS : zWF S) (hO : zWF O) (cS : zCd S) (cO : zCd O) (hs : zCS 0 S M) (ho : zCS 1 O M) {p : Int} (p0 : 0 ≤ p) (p1 : p < S 0 1) (p2 : p < O 0 1) {Qm : Int → Mem → Prop} (hy : zsame S O p → Qm 1 M) (hn : ¬ zsame S O p → Qm 0 M) : wp_X6_hasSamePieces 0 p 1 M Qm := by
  have eS := hS.end_r p0 p1
  have eO := hO.end_r p0 p2
  have nS := hS.1
  have nO := hO.1
  have qS := hS.2.1
  have qO := hO.2.1
  refine k_pieceBeginOf hs.1 (by omega) (fun _ => k_pieceBeginOf ho.1 (by omega) (fun _ => k_pieceEndOf hs.1 ⟨qS.1, by omega⟩ p0 ⟨⟨by omega, by omega⟩, k_pieceEndOf ho.1 ⟨qO.1, by omega⟩ p0 ⟨⟨by omega, by omega⟩, fun he => ?_, fun he => hn (fun z => he z.1)⟩⟩) (fun z => absurd ⟨p0, p2⟩ z)) (fun z => absurd ⟨p0, p1⟩ z)
  refine zWhile (fun n i => wp_X6_hasSamePieces_40 0 p 1 Qm n (S 8 p) (O 8 p) (zend S p - S 8 p) i M) (fun i => 0 ≤ i ∧ i ≤ zend S p - S 8 p ∧ ∀ j, 0 ≤ j → j < i → S 1 (S 8 p + j) = O 1 (O 8 p + j) ∧ S 3 (S 8 p + j) = O 3 (O 8 p + j) ∧ S 4 (S 8 p + j) = O 4 (O 8 p + j)) (fun i => (zend S p - S 8 p - i).toNat) (fun n i hi ih => ?_) 0 ⟨by omega, by omega, fun j a b => absurd b (by omega)⟩
  obtain ⟨i0, i1, hj⟩ := hi
  refine ⟨fun h => hy ⟨he, fun j j0 j1 => hj j j0 (by omega)⟩, fun h => ⟨⟨by omega, by omega⟩, fun z => absurd z (by omega), fun _ => ⟨⟨by omega, by omega⟩, fun z => absurd z (by omega), fun _ => ?_⟩⟩⟩
  obtain ⟨a1, a2, a3⟩ := hs.2 (S 8 p + i) (by omega) (by omega)
  obtain ⟨b1, b2, b3⟩ := ho.2 (O 8 p + i) (by omega) (by omega)
  have hcc := zcc_inj (cS (S 8 p + i) (by omega) (by omega)) (cO (O 8 p + i) (by omega) (by omega))
  rw [a1, a2, a3, b1, b2, b3]
  refine ⟨⟨by omega, by omega⟩, ⟨by omega, by omega⟩, ⟨by omega, by omega⟩, ⟨by omega, by omega⟩, fun _ => ⟨⟨by omega, by omega⟩, ⟨by omega, by omega⟩, ⟨by omega, by omega⟩, ⟨by omega, by omega⟩, fun _ => ⟨⟨by omega, by omega⟩, ⟨by omega, by omega⟩, ⟨by omega, by omega⟩, ⟨by omega, by omega⟩, trivial⟩, trivial⟩, fun h1 => ?_, fun h1 => hn (fun z => ?_)⟩
  · have hh : S 1 (S 8 p + i) = O 1 (O 8 p + i) ∧ S 3 (S 8 p + i) = O 3 (O 8 p + i) ∧ S 4 (S 8 p + i) = O 4 (O 8 p + i) := by
      by_cases x1 : zcc (S 1 (S 8 p + i)) = zcc (O 1 (O 8 p + i))
      · rw [if_neg (fun z => z x1)] at h1
        by_cases x2 : S 3 (S 8 p + i) = O 3 (O 8 p + i)
        · rw [if_neg (fun z => z x2)] at h1
          by_cases x3 : S 4 (S 8 p + i) = O 4 (O 8 p + i)
          · exact ⟨hcc.mp x1, x2, x3⟩
          · rw [if_pos x3] at h1; exact absurd rfl h1
        · rw [if_pos x2] at h1; exact absurd rfl h1
      · rw [if_pos x1] at h1; exact absurd rfl h1
    refine ⟨⟨by omega, by omega⟩, ih (i + 1) ⟨by omega, by omega, fun j j0 j1 => ?_⟩ (by omega)⟩
    by_cases e : j = i
    · rw [e]; exact hh
    · exact hj j j0 (by omega)
  · obtain ⟨z1, z2, z3⟩ := z.2 i i0 (by omega)
    rw [if_neg (fun z => z (hcc.mpr z1)), if_neg (fun z => z z2), if_neg (fun z => z z3)] at h1
    exact absurd h1 (by decide)
theorem zbits_bt (T : Mem) {i : Int} (i0 : 0 ≤ i) (i1 : i < 6) : iAnd (iShr (zbits T 6) i) 1 = 1 ↔ ztx T i = 1 := by
  have r := zbits_r T 6
  have a0 := ztx_r T 0
  have a1 := ztx_r T 1
  have a2 := ztx_r T 2
  have a3 := ztx_r T 3
  have a4 := ztx_r T 4
  have a5 := ztx_r T 5
  have z : iAnd (iShr ((zbits T 6).toNat : Int) (i.toNat : Int)) 1 = (((zbits T 6).toNat / 2 ^ i.toNat % 2 : Nat) : Int) := zand_ok ⟨i.toNat, by omega⟩ ⟨(zbits T 6).toNat, by omega⟩
  rw [show ((zbits T 6).toNat : Int) = zbits T 6 by omega, show ((i.toNat : Nat) : Int) = i by omega] at z
  rw [z]
  have eb : zbits T 6 = ztx T 0 + 2 * ztx T 1 + 4 * ztx T 2 + 8 * ztx T 3 + 16 * ztx T 4 + 32 * ztx T 5 := rfl
  rcases (by omega : i = 0 ∨ i = 1 ∨ i = 2 ∨ i = 3 ∨ i = 4 ∨ i = 5) with rfl | rfl | rfl | rfl | rfl | rfl
  · show (((zbits T 6).toNat / 1 % 2 : Nat) : Int) = 1 ↔ _; omega
  · show (((zbits T 6).toNat / 2 % 2 : Nat) : Int) = 1 ↔ _; omega
  · show (((zbits T 6).toNat / 4 % 2 : Nat) : Int) = 1 ↔ _; omega
  · show (((zbits T 6).toNat / 8 % 2 : Nat) : Int) = 1 ↔ _; omega
  · show (((zbits T 6).toNat / 16 % 2 : Nat) : Int) = 1 ↔ _; omega
  · show (((zbits T 6).toNat / 32 % 2 : Nat) : Int) = 1 ↔ _; omega
theorem zbits_same (hG : Good T) {O : zSt} (hO : zOS T O) : zbits T 6 = zob O ↔ ∀ c, 0 ≤ c → c < T 11 0 4 → ztt T c = O 10 c := by
  have hC := hG.nC
  obtain ⟨-, -, o1, o2⟩ := hO
  have a0 := ztx_r T 0
  have a1 := ztx_r T 1
  have a2 := ztx_r T 2
  have a3 := ztx_r T 3
  have a4 := ztx_r T 4
  have a5 := ztx_r T 5
  have b0 := o1 0 (by omega) (by omega)
  have b1 := o1 1 (by omega) (by omega)
  have b2 := o1 2 (by omega) (by omega)
  have b3 := o1 3 (by omega) (by omega)
  have b4 := o1 4 (by omega) (by omega)
  have b5 := o1 5 (by omega) (by omega)
  have eb : zbits T 6 = ztx T 0 + 2 * ztx T 1 + 4 * ztx T 2 + 8 * ztx T 3 + 16 * ztx T 4 + 32 * ztx T 5 := rfl
  have eo : zob O = O 10 0 + 2 * O 10 1 + 4 * O 10 2 + 8 * O 10 3 + 16 * O 10 4 + 32 * O 10 5 := rfl
  have et : ∀ c, c < T 11 0 4 → ztx T c = ztt T c := fun c h => if_pos h
  have e0 : ∀ c, T 11 0 4 ≤ c → ztx T c = 0 := fun c h => if_neg (by omega)
  refine ⟨fun h c c0 c1 => ?_, fun h => ?_⟩
  · rw [← et c c1]
    rcases (by omega : c = 0 ∨ c = 1 ∨ c = 2 ∨ c = 3 ∨ c = 4 ∨ c = 5) with rfl | rfl | rfl | rfl | rfl | rfl <;> omega
  · have g : ∀ c, 0 ≤ c → c < 6 → ztx T c = O 10 c := fun c c0 c1 => by
      by_cases hc : c < T 11 0 4
      · rw [et c hc]; exact h c c0 hc
      · rw [e0 c (by omega), o2 c (by omega) c1]
    rw [eb, eo, g 0 (by omega) (by omega), g 1 (by omega) (by omega), g 2 (by omega) (by omega), g 3 (by omega) (by omega), g 4 (by omega) (by omega), g 5 (by omega) (by omega)]
theorem k_hasSamePage (hG : Good T) (hD : zDR T M) {O : zSt} (hO : zOS T O) (hK : zKO O M) {p : Int} (p0 : 0 ≤ p) (p1 : p < zpg T 0 1) (p2 : p < O 0 1) {Qm : Int → Mem → Prop} (hy : ¬ zoth T (zpg T) O p → Qm 1 M) (hn : zoth T (zpg T) O p → Qm 0 M) : wp_X6_hasSamePage 0 p 1 M Qm := by
  have hC := hG.nC
  obtain ⟨W, w1, w2⟩ := zpg_wf hG
  have hN := W.2.1
  have h6 : zpg T 0 6 = 0 := by
    by_cases z : zpg T 0 6 = 0
    · exact z
    · have := (w2 z).2; omega
  have hO' := hO
  obtain ⟨WO, cO, o1, o2⟩ := hO
  have hNO := WO.2.1
  obtain ⟨c1, ob, c3, c4⟩ := hK
  obtain ⟨-, -, -, ⟨-, k1, k2, k3, k4, k5, -⟩, d5⟩ := hD
  rw [if_pos h6] at k3
  have c0 : zCS 0 (zpg T) M := ⟨⟨k1, k2, fun p a b => (k5 p a b).1⟩, k4⟩
  have ez := zbits_same hG hO'
  have eS := ob (by omega)
  refine ⟨⟨by omega, by omega⟩, ⟨by omega, by omega⟩, fun h => hn (Or.inl (Or.inr ?_)), fun h => ⟨fun hb => ?_, fun hb => hn (Or.inr ?_)⟩⟩
  · rw [(k5 p p0 p1).2.2, c3 p p0 p2] at h; exact h
  · rw [(k5 p p0 p1).2.2, c3 p p0 p2] at h
    rw [k3, eS, ez] at hb
    refine zLoop (σ := Unit) (fun n k _ => wp_X6_hasSamePage_30 0 p 1 Qm n k M) (fun y _ => ∀ c, 0 ≤ c → c < y → c < T 11 0 4 → ¬ zoc T (zpg T) O p c) 6 (s := ()) (by decide) (fun c a b => absurd b (by omega)) (fun n s hs => ?_) (fun n y s y0 y1 hs ih => ?_)
    · refine ⟨fun _ => k_hasSamePieces W WO (zpg_cd hG) cO c0 c1 p0 p1 p2 (fun hz => ⟨bit_1, hy (fun z => ?_)⟩) (fun hz => ⟨bit_0, hn (Or.inl (Or.inl hz))⟩), fun z => absurd z (by decide)⟩
      rcases z with (z | z) | ⟨c, a, b, z⟩
      · exact z hz
      · exact z h
      · exact hs c a (by omega) b z
    · have hbt := zbits_bt T y0 y1
      have hgo : (ztx T y = 1 → ¬ zoc T (zpg T) O p y) → wp_X6_hasSamePage_96 0 p 1 Qm (wp_X6_hasSamePage_30 0 p 1 Qm n) y M := fun hz => ⟨⟨by omega, by omega⟩, ih () (fun c a b b' => by
        by_cases e : c = y
        · rw [e] at b' ⊢
          have ex : ztx T y = ztt T y := if_pos b'
          have tr := ztx_r T y
          by_cases hx : ztx T y = 1
          · exact hz hx
          · rintro (q | q)
            · exact q (hb y y0 b')
            · exact q.1 (by omega)
        · exact hs c a (by omega) b')⟩
      -- what is carried, when the bit stands
      have hst : ztx T y = 1 → y < T 11 0 4 ∧ ¬ O 10 y = 0 ∧ ¬ ztt T y = 0 := fun hx => by
        have hy4 : y < T 11 0 4 := by
          by_cases z : y < T 11 0 4
          · exact z
          · have : ztx T y = 0 := if_neg z
            omega
        have ex : ztx T y = ztt T y := if_pos hy4
        have := hb y y0 hy4
        exact ⟨hy4, by omega, by omega⟩
      have e44 : ∀ q, 0 ≤ q → q < zpg T 0 1 → M 44 0 (q * 6 + y) = zcar T (zpg T) q y := fun q a b => d5 q y a b y0 y1
      refine ⟨fun z => absurd z (by omega), fun _ => k_carriedOut c0.1.1 (by omega) y0 y1 (fun _ => k_carriedOut c1.1.1 (by omega) y0 y1 (fun _ => ?_) (fun z => absurd ⟨p0, p2⟩ z)) (fun z => absurd ⟨p0, p1⟩ z)⟩
      rw [e44 p p0 p1]
      refine ⟨fun hne => ⟨fun hx => hgo (fun z => absurd (hbt.mpr z) ?_), fun hx => hn (Or.inr ?_)⟩, fun heq => ⟨⟨by omega, by omega⟩, ?_⟩⟩
      · rw [k3] at hx; exact hx
      · rw [k3, hbt] at hx
        obtain ⟨x1, x2, x3⟩ := hst hx
        rw [c4 p y p0 p2 y0 y1 x2] at hne
        exact ⟨y, y0, x1, Or.inr ⟨x3, Or.inl hne⟩⟩
      · have hfin : ∀ a b : Int, (ztx T y = 1 → (a = b ↔ ¬ (0 < p ∧ ¬ zcar T (zpg T) (p - 1) y = O 9 (6 * (p - 1) + y)))) → ((¬ (iAnd (iShr (M 7 0 3) y) 1) = 1 → wp_X6_hasSamePage_96 0 p 1 Qm (wp_X6_hasSamePage_30 0 p 1 Qm n) y M) ∧ ((iAnd (iShr (M 7 0 3) y) 1) = 1 → ((¬ (if ¬ a = b then (0 : Int) else 1) = 0 → wp_X6_hasSamePage_96 0 p 1 Qm (wp_X6_hasSamePage_30 0 p 1 Qm n) y M) ∧ ((if ¬ a = b then (0 : Int) else 1) = 0 → Qm 0 M)))) := fun a b hab => by
          rw [k3, hbt]
          refine ⟨fun hx => hgo (fun z => absurd z hx), fun hx => ?_⟩
          obtain ⟨x1, x2, x3⟩ := hst hx
          rw [c4 p y p0 p2 y0 y1 x2] at heq
          have hab := hab hx
          by_cases e : a = b
          · rw [if_neg (fun z => z e)]
            refine ⟨fun _ => hgo (fun _ => ?_), fun z => absurd z (by decide)⟩
            rintro (q | q)
            · exact q (hb y y0 x1)
            · rcases q.2 with q | q
              · exact q heq
              · exact hab.mp e q
          · rw [if_pos e]
            refine ⟨fun z => absurd rfl z, fun _ => hn (Or.inr ⟨y, y0, x1, Or.inr ⟨x3, Or.inr ?_⟩⟩)⟩
            by_cases q : 0 < p ∧ ¬ zcar T (zpg T) (p - 1) y = O 9 (6 * (p - 1) + y)
            · exact q
            · exact absurd (hab.mpr q) e
        refine k_carriedOut c0.1.1 (by omega) y0 y1 (fun hp => ⟨⟨by omega, by omega⟩, k_carriedOut c1.1.1 (by omega) y0 y1 (fun _ => ?_) (fun z => absurd ⟨hp.1, by omega⟩ z)⟩) (fun hp => ⟨⟨by omega, by omega⟩, k_carriedOut c1.1.1 (by omega) y0 y1 (fun z => absurd ⟨z.1, by omega⟩ hp) (fun _ => hfin 0 0 (fun _ => ⟨fun _ q => hp ⟨by omega, by omega⟩, fun _ => rfl⟩))⟩)
        rw [e44 (p - 1) hp.1 hp.2]
        refine hfin _ _ (fun hx => ?_)
        obtain ⟨x1, x2, x3⟩ := hst hx
        rw [c4 (p - 1) y hp.1 (by omega) y0 y1 x2]
        refine ⟨fun e q => q.2 e, fun q => ?_⟩
        by_cases e : zcar T (zpg T) (p - 1) y = O 9 (6 * (p - 1) + y)
        · exact e
        · exact absurd ⟨by omega, e⟩ q
  · rw [k3, eS, ez] at hb
    by_cases z : ∃ c, 0 ≤ c ∧ c < T 11 0 4 ∧ zoc T (zpg T) O p c
    · exact z
    · refine absurd (fun c a b => ?_) hb
      by_cases e : ztt T c = O 10 c
      · exact e
      · exact absurd ⟨c, a, b, Or.inl e⟩ z
theorem k_countDifferencesTo (hG : Good T) (hD : zDR T M) {O : zSt} (hO : zOS T O) (hK : zKO O M) {Qm : Int → Mem → Prop} (hq : Qm (zlk T (zpg T) O (min (zpg T 0 1) (O 0 1))) M) : wp_X6_countDifferencesTo 0 1 M Qm := by
  obtain ⟨W, w1, w2⟩ := zpg_wf hG
  have hN := W.2.1
  have hNO := hO.1.2.1
  have k1 := hD.2.2.2.1.2.1
  have k2 := hK.1.1.1
  simp only [wp_X6_countDifferencesTo, k1, k2]
  have ed : max (zpg T 0 1) (O 0 1) - min (zpg T 0 1) (O 0 1) = (if zpg T 0 1 ≤ O 0 1 then O 0 1 - zpg T 0 1 else zpg T 0 1 - O 0 1) := by split <;> omega
  have hdr : 0 ≤ (if zpg T 0 1 ≤ O 0 1 then O 0 1 - zpg T 0 1 else zpg T 0 1 - O 0 1) ∧ (if zpg T 0 1 ≤ O 0 1 then O 0 1 - zpg T 0 1 else zpg T 0 1 - O 0 1) ≤ 902 := by split <;> omega
  rw [ed]
  refine ⟨⟨by omega, by omega⟩, zLoop (fun n k s => wp_X6_countDifferencesTo_29 0 1 Qm n (min (zpg T 0 1) (O 0 1)) s k M) (fun y s => s = zlk T (zpg T) O y) (min (zpg T 0 1) (O 0 1)) (by omega) (by unfold zlk; rw [zS_self _ (Int.le_refl _)]; omega) (fun n s hs => ?_) (fun n y s y0 y1 hs ih => ?_)⟩
  · refine ⟨fun _ => ?_, fun z => absurd z (by omega)⟩
    rw [hs]; exact hq
  · have hb := zS_bd (f := fun p => zbt (zoth T (zpg T) O p)) (a := 0) (b := y) 0 1 y0 (fun k _ _ => zbt_r _)
    have hs' : s = (if zpg T 0 1 ≤ O 0 1 then O 0 1 - zpg T 0 1 else zpg T 0 1 - O 0 1) + zS (fun p => zbt (zoth T (zpg T) O p)) 0 y := hs
    have hnx : ∀ v, v = zbt (zoth T (zpg T) O y) → s + v = zlk T (zpg T) O (y + 1) := fun v e => by
      unfold zlk
      rw [zS_succ _ y0, hs', e]; omega
    refine ⟨fun z => absurd z (by omega), fun _ => ⟨fun z => absurd z (by omega), fun _ => k_hasSamePage hG hD hO hK y0 (by omega) (by omega) (fun h => ?_) (fun h => ?_)⟩⟩
    · rw [if_neg (by decide)]
      exact ⟨⟨by omega, by omega⟩, ⟨by omega, by omega⟩, ih _ (hnx 0 (zbt_0 h).symm)⟩
    · rw [if_pos rfl]
      exact ⟨⟨by omega, by omega⟩, ⟨by omega, by omega⟩, ih _ (hnx 1 (zbt_1 h).symm)⟩
end DB
