/-! the pure part: what holds between calls; calls that only ask, first part -/
/-- objects and lists -/
def zKp (κ : Nat → Int) (T : Mem) : Prop := (κ 1 = T 11 0 15 ∧ κ 2 = T 11 0 4 ∧ κ 6 = T 11 0 8) ∧ ∀ s : Nat, 12 ≤ s → s ≤ 17 → T s 0 (-2) = T s 0 (-1) ∧ 0 ≤ T (s + 6) 0 (-1) ∧ T (s + 6) 0 (-1) ≤ 150
/-- what is not used yet is as at first -/
def zNW (T : Mem) : Prop := (∀ c, T 11 0 15 ≤ c → c < 100 → T 72 0 c = 0 ∧ T 73 0 c = 0 ∧ T 74 0 c = 0 ∧ T 75 0 c = 0 ∧ T 76 0 c = 0) ∧ ∀ r k, T 11 0 8 ≤ r → r < 29 → 0 ≤ k → k < 6 → T 69 0 (6 * r + k) = 0
/-- borders, on both sides -/
def zBR (T M : Mem) : Prop := ((0 ≤ M 11 0 30 ∧ M 11 0 30 ≤ 5) ∧ M 4 0 7 = M 11 0 30) ∧ (∀ c k, 0 ≤ c → c < T 11 0 15 → 0 ≤ k → k < 4 → M 24 c k = M 77 0 (4 * c + k)) ∧ (∀ r k, 0 ≤ r → r < T 11 0 8 → 0 ≤ k → k < 4 → M 36 r k = M 78 0 (4 * r + k)) ∧ (∀ c k, 0 ≤ c → c < T 11 0 4 → 0 ≤ k → k < 4 → M 27 c k = M 79 0 (4 * c + k)) ∧ (∀ q, 0 ≤ q → q < 400 → (0 ≤ M 77 0 q ∧ M 77 0 q ≤ 5) ∧ (4 * T 11 0 15 ≤ q → M 77 0 q = 0)) ∧ (∀ q, 0 ≤ q → q < 116 → (0 ≤ M 78 0 q ∧ M 78 0 q ≤ 5) ∧ (4 * T 11 0 8 ≤ q → M 78 0 q = 0)) ∧ (∀ q, 0 ≤ q → q < 24 → (0 ≤ M 79 0 q ∧ M 79 0 q ≤ 5) ∧ (4 * T 11 0 4 ≤ q → M 79 0 q = 0))
def Iv (T : Mem) (O : zSt) (κ : Nat → Int) (M : Mem) : Prop := Good T ∧ zLk T ∧ Ag T M ∧ zOS T O ∧ zOR T O M ∧ zKO O M ∧ (M 10 0 10 = 0 → zDR T M) ∧ zKp κ T ∧ zNW T ∧ zBR T M
def Inv (κ : Nat → Int) (M : Mem) : Prop := ∃ T O, Iv T O κ M
/-- what a question writes on, apart from what the class finds -/
def zQ2 : Nat → Int → Int → Prop := fun s j k => s = 103 ∨ (80 ≤ s ∧ s ≤ 95) ∨ (s = 11 ∧ (k = 41 ∨ k = 46 ∨ k = 49 ∨ k = 59)) ∨ (((34 ≤ s ∧ s ≤ 35) ∨ (49 ≤ s ∧ s ≤ 55)) ∧ j = 1) ∨ (46 ≤ s ∧ s ≤ 48)
theorem zQ2_in : ∀ s j k, zQ2 s j k → zin s k = false := by
  intro s j k hz
  simp only [zQ2] at hz
  simp only [zin, Bool.or_eq_false_iff, Bool.and_eq_false_iff, decide_eq_false_iff_not]
  omega
section FA
variable {T M : Mem} {O : zSt} {κ : Nat → Int}
theorem zDR.fr {M' : Mem} (h : zDR T M) (f : ∀ (s : Nat) (k : Int), (s = 7 ∨ s = 34 ∨ s = 35 ∨ (38 ≤ s ∧ s ≤ 45) ∨ (49 ≤ s ∧ s ≤ 55)) → M' s 0 k = M s 0 k) : zDR T M' := by
  obtain ⟨⟨h1, h2⟩, h3, h4, ⟨k1, k2, k3, k4, k5, k6, k7⟩, h6⟩ := h
  refine ⟨⟨fun k a b => ?_, fun k a b => ?_⟩, fun c a b => ?_, fun r a b => ?_, ⟨?_, ?_, ?_, ?_, fun k a b => ?_, fun p a b => ?_, fun r k x1 x2 x3 x4 x5 x6 => ?_⟩, fun p c a b c0 c1 => ?_⟩
  · rw [f 49 k (by decide), f 50 k (by decide), f 53 k (by decide)]; exact h1 k a b
  · rw [f 51 k (by decide)]; exact h2 k a b
  · rw [f 34 c (by decide)]; exact h3 c a b
  · rw [f 35 r (by decide)]; exact h4 r a b
  · rw [f 7 0 (by decide)]; exact k1
  · rw [f 7 1 (by decide)]; exact k2
  · rw [f 7 2 (by decide)]; exact k3
  · rw [f 7 3 (by decide)]; exact k4
  · rw [f 38 k (by decide), f 39 k (by decide), f 40 k (by decide)]; exact k5 k a b
  · rw [f 41 p (by decide), f 42 p (by decide), f 43 p (by decide)]; exact k6 p a b
  · rw [f 45 r (by decide)]; exact k7 r k x1 x2 x3 x4 x5 x6
  · rw [f 44 _ (by decide)]; exact h6 p c a b c0 c1
theorem zKO.fr {M' : Mem} (h : zKO O M) (f : ∀ (s : Nat) (k : Int), (s = 7 ∨ (38 ≤ s ∧ s ≤ 44)) → M' s 1 k = M s 1 k) : zKO O M' := by
  obtain ⟨⟨⟨h1, h2, h3⟩, h4⟩, h5, h6, h7⟩ := h
  refine ⟨⟨⟨?_, ?_, fun p a b => ?_⟩, fun k a b => ?_⟩, fun h => ?_, fun p a b => ?_, fun p c a b c0 c1 hx => ?_⟩
  · rw [f 7 1 (by decide)]; exact h1
  · rw [f 7 2 (by decide)]; exact h2
  · rw [f 41 p (by decide)]; exact h3 p a b
  · rw [f 38 k (by decide), f 39 k (by decide), f 40 k (by decide)]; exact h4 k a b
  · rw [f 7 3 (by decide)]; exact h5 h
  · rw [f 43 p (by decide)]; exact h6 p a b
  · rw [f 44 _ (by decide)]; exact h7 p c a b c0 c1 hx
theorem zBR.fr {T' M' : Mem} (h : zBR T M) (f4 : T' 11 0 4 = T 11 0 4) (f8 : T' 11 0 8 = T 11 0 8) (f15 : T' 11 0 15 = T 11 0 15) (g30 : M' 11 0 30 = M 11 0 30) (g7 : M' 4 0 7 = M 4 0 7) (e24 : ∀ j k, M' 24 j k = M 24 j k) (e27 : ∀ j k, M' 27 j k = M 27 j k) (e36 : ∀ j k, M' 36 j k = M 36 j k) (e77 : ∀ k, M' 77 0 k = M 77 0 k) (e78 : ∀ k, M' 78 0 k = M 78 0 k) (e79 : ∀ k, M' 79 0 k = M 79 0 k) : zBR T' M' := by
  unfold zBR at h ⊢
  simp only [f4, f8, f15, g30, g7, e24, e27, e36, e77, e78, e79]
  exact h
theorem Iv.q (h : Iv T O κ M) {M1 M2 : Mem} (f1 : Fj zRF M M1) (d1 : M1 10 0 10 = 0 → zDR T M1) (f2 : Fj zQ2 M1 M2) : Iv T O κ M2 := by
  obtain ⟨hG, hL, hA, hO, hR, hK, hd, hp, hw, hb⟩ := h
  have hA1 := f1.ag hA zRF_in
  have fb : ∀ (s : Nat) (j k : Int), (s = 24 ∨ s = 27 ∨ s = 36 ∨ s = 77 ∨ s = 78 ∨ s = 79 ∨ s = 4 ∨ (s = 11 ∧ k = 30)) → M2 s j k = M s j k := fun s j k a => by rw [f2 s j k (by simp only [zQ2]; omega), f1 s j k (by simp only [zRF, zCP]; omega)]
  refine ⟨hG, hL, f2.ag hA1 zQ2_in, hO, hR.fr (fun s j k a b => ?_) ?_ ?_, hK.fr (fun s k a => ?_), fun e => ?_, hp, hw, hb.fr rfl rfl rfl (fb 11 0 30 (by omega)) (fb 4 0 7 (by omega)) (fun j k => fb 24 j k (by omega)) (fun j k => fb 27 j k (by omega)) (fun j k => fb 36 j k (by omega)) (fun k => fb 77 0 k (by omega)) (fun k => fb 78 0 k (by omega)) (fun k => fb 79 0 k (by omega))⟩
  · rw [f2 s j k (by simp only [zQ2]; omega), f1 s j k (by simp only [zRF, zCP]; omega)]
  · rw [f2 11 0 54 (by simp only [zQ2]; omega), f1 11 0 54 (by simp only [zRF, zCP]; omega)]
  · rw [f2 11 0 58 (by simp only [zQ2]; omega), f1 11 0 58 (by simp only [zRF, zCP]; omega)]
  · rw [f2 s 1 k (by simp only [zQ2]; omega), f1 s 1 k (by simp only [zRF, zCP]; omega)]
  · rw [f2 10 0 10 (by simp only [zQ2]; omega)] at e
    exact (d1 e).fr (fun s k a => f2 s 0 k (by simp only [zQ2]; omega))
theorem Iv.q0 (h : Iv T O κ M) {M2 : Mem} (f2 : Fj zQ2 M M2) : Iv T O κ M2 := h.q (Fj.rf _ _) h.2.2.2.2.2.2.1 f2
theorem Iv.x (h : Iv T O κ M) (c : Int) : Iv T O κ (up M 11 0 59 c) := h.q0 ((Fj.rf _ _).up (Or.inr (Or.inr (Or.inl ⟨rfl, Or.inr (Or.inr (Or.inr rfl))⟩))))
theorem Fr.j {Z : Nat → Int → Bool} {Zj : Nat → Int → Int → Prop} {M M' : Mem} (h : Fr Z M M') (hz : ∀ s j k, Z s k = true → Zj s j k) : Fj Zj M M' := fun s j k z => h s j k (by
  by_cases e : Z s k = true
  · exact absurd (hz s j k e) z
  · exact Bool.eq_false_iff.mpr e)
theorem zW_q : ∀ s j k, zW s k = true → zQ2 s j k := by
  intro s j k hz
  simp only [zW, Bool.and_eq_true, decide_eq_true_eq] at hz
  simp only [zQ2]
  omega
theorem zP_q : ∀ s j k, zP s k = true → zQ2 s j k := by
  intro s j k hz
  simp only [zP, Bool.or_eq_true, Bool.and_eq_true, decide_eq_true_eq] at hz
  simp only [zQ2]
  omega
theorem q2_r (M : Mem) (r : Int) : Fj zQ2 M (up M 103 0 0 r) := (Fj.rf _ _).up (Or.inl rfl)
theorem q2_rc (M : Mem) (r c : Int) : Fj zQ2 M (up (up M 103 0 0 r) 11 0 59 c) := (q2_r M r).up (Or.inr (Or.inr (Or.inl ⟨rfl, Or.inr (Or.inr (Or.inr rfl))⟩)))
theorem ag_rc {M1 : Mem} (h : Ag T M1) (r c : Int) : Ag T (up (up M1 103 0 0 r) 11 0 59 c) := (h.up rfl).up rfl
theorem v59 (M : Mem) (r c : Int) : up (up M 103 0 0 r) 11 0 59 c 11 0 59 = c := up_eq _ _ _ _ _
theorem v103 (M : Mem) (r c : Int) : up (up M 103 0 0 r) 11 0 59 c 103 0 0 = r := by rw [up_s _ _ _ _ (by decide), up_eq]
theorem zwid_hid {k : Int} (hC : 0 ≤ T 11 0 4) (h : ¬ T 59 0 k = 0) : zwid T k = 0 := by
  have hg : zgv T k = 0 := by
    unfold zgv
    split
    · exact znar_hid h
    · have : zgive T k = 0 := if_pos (zopen_hid h)
      rw [znar_hid h, this]; omega
  unfold zwid
  by_cases h1 : zrest T ≤ 0
  · rw [if_pos h1]; exact znar_hid h
  · rw [if_neg h1]
    by_cases h2 : zlack T (T 11 0 4) < zrest T
    · rw [if_pos h2]
      have : zgive T k = 0 := if_pos (zopen_hid h)
      rw [znar_hid h, this]; omega
    · rw [if_neg h2]
      have := zF_ind (g := fun (p : (Int → Int) × Int) k => if zopen T k = 0 then p else if zrest T ≤ p.2 then p else if zms T k ≤ p.1 k then p else (zset p.1 k (p.1 k + 1), p.2 + 1)) (x := (zgv T, zS (zgive T) 0 (T 11 0 4))) (a := 0) (b := T 11 0 4) (fun _ p => p.1 k = 0) hC hg (fun i p _ _ hp => by
        by_cases a1 : zopen T i = 0
        · rw [if_pos a1]; exact hp
        · rw [if_neg a1]
          by_cases a2 : zrest T ≤ p.2
          · rw [if_pos a2]; exact hp
          · rw [if_neg a2]
            by_cases a3 : zms T i ≤ p.1 i
            · rw [if_pos a3]; exact hp
            · rw [if_neg a3]
              show zset p.1 i (p.1 i + 1) k = 0
              rw [zset_ne _ _ (fun e => a1 (by rw [← e]; exact zopen_hid h))]
              exact hp)
      exact this
theorem zsumw_sh (hG : Good T) {w : Int → Int} (h : ∀ k, ¬ T 59 0 k = 0 → w k = 0) : max 0 (zvis T - 1) + zS (fun k => if T 59 0 k = 0 then w k else 0) 0 (T 11 0 4) = zsumw T w := by
  have hC := hG.nC
  have e : zS (fun k => if T 59 0 k = 0 then w k else 0) 0 (T 11 0 4) = zS w 0 (T 11 0 4) := zS_congr (fun k _ _ => by
    by_cases z : T 59 0 k = 0
    · rw [if_pos z]
    · rw [if_neg z, h k z])
  unfold zsumw
  rw [e]
  by_cases z : T 11 0 4 ≤ 0
  · rw [if_pos z]
    have : zvis T = 0 := zS_self _ (by omega)
    omega
  · rw [if_neg z]
    have := zvis_pos hG (by omega)
    omega
variable {K : (Nat → Int) → Mem → Prop} {p1 p2 : Int}
end FA
