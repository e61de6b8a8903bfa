/-! the pure part: the class's pages -/
def ztx (T : Mem) (k : Int) : Int := if k < T 11 0 4 then ztt T k else 0
/-- the bits of the first n columns -/
def zbits (T : Mem) (n : Int) : Int := (if 0 < n then ztx T 0 else 0) + (if 1 < n then 2 * ztx T 1 else 0) + (if 2 < n then 4 * ztx T 2 else 0) + (if 3 < n then 8 * ztx T 3 else 0) + (if 4 < n then 16 * ztx T 4 else 0) + (if 5 < n then 32 * ztx T 5 else 0)
/-- the pages lie in the class's memory: before the frame is added -/
def zKR (T : Mem) (S : zSt) (M : Mem) : Prop := M 7 0 2 = S 0 0 ∧ M 7 0 1 = S 0 1 ∧ (∀ k, 0 ≤ k → k < S 0 0 → M 38 0 k = zcc (S 1 k) ∧ M 39 0 k = S 3 k ∧ M 40 0 k = S 4 k) ∧ (∀ p, 0 ≤ p → p < S 0 1 → M 41 0 p = S 8 p ∧ M 42 0 p = S 5 p + (if T 11 0 26 = 0 then S 6 p else 0) ∧ M 43 0 p = S 6 p) ∧ (∀ r k, 0 ≤ r → r < 29 → 0 ≤ k → k < S 0 0 → S 1 k = r → S 3 k = 0 → M 45 0 r = S 7 r)
def zKL (T : Mem) (S : zSt) (M : Mem) : Prop := M 3 0 12 = S 0 2 ∧ M 3 0 13 = 1 - S 0 3
/-- what stays while pages are filled -/
def zKF (T M : Mem) : Prop := zIK (zitm T) M ∧ M 3 0 9 = zsum T (zhH T) 0 + zsum T (zhH T) 2 ∧ M 3 0 10 = zat T ∧ M 3 0 11 = T 11 0 25
def zCQ : Nat → Int → Int → Prop := fun s j k => (j = 0 ∧ ((s = 7 ∧ (k = 1 ∨ k = 2)) ∨ (38 ≤ s ∧ s ≤ 45))) ∨ (s = 3 ∧ (k = 12 ∨ k = 13))
theorem zCQ_in : ∀ s j k, zCQ s j k → zin s k = false := by
  intro s j k hz
  simp only [zCQ] at hz
  simp only [zin, Bool.or_eq_false_iff, Bool.and_eq_false_iff, decide_eq_false_iff_not]
  omega
theorem zCQ_P : ∀ s j k, zCQ s j k → zCP s j k := by
  intro s j k hz
  simp only [zCQ] at hz
  simp only [zCP]
  omega
section CY
variable {T M : Mem}
theorem zKF.fr {M' : Mem} (h : zKF T M) (f : Fj zCQ M M') : zKF T M' := by
  obtain ⟨⟨h1, h2⟩, h3, h4, h5⟩ := h
  refine ⟨⟨by rw [f 3 0 8 (by simp only [zCQ]; omega)]; exact h1, fun k a b => ?_⟩, ?_, ?_, ?_⟩
  · rw [f 28 0 k (by simp only [zCQ]; omega), f 29 0 k (by simp only [zCQ]; omega), f 30 0 k (by simp only [zCQ]; omega), f 31 0 k (by simp only [zCQ]; omega)]; exact h2 k a b
  · rw [f 3 0 9 (by simp only [zCQ]; omega)]; exact h3
  · rw [f 3 0 10 (by simp only [zCQ]; omega)]; exact h4
  · rw [f 3 0 11 (by simp only [zCQ]; omega)]; exact h5
/-- notes of items, by where notes stand -/
theorem zitm_notes (hG : Good T) : (∀ k, 0 ≤ k → k < znn T → zcd T k = 201 → znt T k = 0) ∧ (¬ T 11 0 26 = 0 → ∀ k, 0 ≤ k → k < znn T → znt T k = 0) ∧ (T 11 0 26 = 0 → ∀ k, 0 ≤ k → k < znn T → zcd T k ≠ 201) := by
  have hm := hG.many (p := 1) (by omega) (by omega)
  have hR := hG.nR
  have push : ∀ (I : zSt) (c h n b : Int), 0 ≤ I 0 0 → (c = 201 → n = 0) → (¬ T 11 0 26 = 0 → n = 0) → (T 11 0 26 = 0 → c ≠ 201) → ((∀ k, 0 ≤ k → k < I 0 0 → I 1 k = 201 → I 3 k = 0) ∧ (¬ T 11 0 26 = 0 → ∀ k, 0 ≤ k → k < I 0 0 → I 3 k = 0) ∧ (T 11 0 26 = 0 → ∀ k, 0 ≤ k → k < I 0 0 → I 1 k ≠ 201)) →
      ((∀ k, 0 ≤ k → k < zpush I c h n b 0 0 → zpush I c h n b 1 k = 201 → zpush I c h n b 3 k = 0) ∧ (¬ T 11 0 26 = 0 → ∀ k, 0 ≤ k → k < zpush I c h n b 0 0 → zpush I c h n b 3 k = 0) ∧ (T 11 0 26 = 0 → ∀ k, 0 ≤ k → k < zpush I c h n b 0 0 → zpush I c h n b 1 k ≠ 201)) := by
    intro I c h n b hn c1 c2 c3 H
    obtain ⟨H1, H2, H3⟩ := H
    obtain ⟨p1, p2, p3, p4⟩ := zpush_at I c h n b
    rw [zpush_0]
    refine ⟨fun k k0 k1 => ?_, fun ha k k0 k1 => ?_, fun ha k k0 k1 => ?_⟩
    · by_cases hk : k = I 0 0
      · rw [hk, p1, p3]; exact c1
      · rw [zpush_ne I c h n b (by decide) hk, zpush_ne I c h n b (by decide) hk]; exact H1 k k0 (by omega)
    · by_cases hk : k = I 0 0
      · rw [hk, p3]; exact c2 ha
      · rw [zpush_ne I c h n b (by decide) hk]; exact H2 ha k k0 (by omega)
    · by_cases hk : k = I 0 0
      · rw [hk, p1]; exact c3 ha
      · rw [zpush_ne I c h n b (by decide) hk]; exact H3 ha k k0 (by omega)
  have a1 : (∀ k, 0 ≤ k → k < zi1 T (T 64 0 1) 0 0 → zi1 T (T 64 0 1) 1 k = 201 → zi1 T (T 64 0 1) 3 k = 0) ∧ (¬ T 11 0 26 = 0 → ∀ k, 0 ≤ k → k < zi1 T (T 64 0 1) 0 0 → zi1 T (T 64 0 1) 3 k = 0) ∧ (T 11 0 26 = 0 → ∀ k, 0 ≤ k → k < zi1 T (T 64 0 1) 0 0 → zi1 T (T 64 0 1) 1 k ≠ 201) := by
    have := zF_ind (g := zib T) (x := (fun _ _ => 0 : zSt)) (a := 0) (b := T 64 0 1) (fun _ (I : zSt) => 0 ≤ I 0 0 ∧ ((∀ k, 0 ≤ k → k < I 0 0 → I 1 k = 201 → I 3 k = 0) ∧ (¬ T 11 0 26 = 0 → ∀ k, 0 ≤ k → k < I 0 0 → I 3 k = 0) ∧ (T 11 0 26 = 0 → ∀ k, 0 ≤ k → k < I 0 0 → I 1 k ≠ 201))) hm.1 ⟨by decide, fun k a b => absurd b (by show ¬ k < 0; omega), fun _ k a b => absurd b (by show ¬ k < 0; omega), fun _ k a b => absurd b (by show ¬ k < 0; omega)⟩ (fun k I a b H => ?_)
    · exact this.2
    · obtain ⟨b1, b2, b3, b4⟩ := zbo_r hG a b
      have q0 : zpb T k I 0 0 = I 0 0 + 1 := zpush_0 _ _ _ _ _
      have A := push I (zbo T k) (zht T (zwid T) (zbo T k)) (if T 11 0 26 = 0 then zrn T (zbo T k) (T 11 0 15) else 0) (T 62 0 (zbo T k)) H.1 (fun z => by omega) (fun z => if_neg z) (fun _ => by omega) H.2
      show 0 ≤ zib T I k 0 0 ∧ _
      unfold zib
      split
      · refine ⟨by rw [zpush_0, q0]; have := H.1; omega, ?_⟩
        exact push _ (100 + zbo T k) 1 0 0 (by rw [q0]; have := H.1; omega) (fun _ => rfl) (fun _ => rfl) (fun _ => by omega) A
      · exact ⟨by rw [q0]; have := H.1; omega, A⟩
  have k1 := zi1_ok hG hm.1 (Int.le_refl _)
  have a2 : (∀ k, 0 ≤ k → k < zi2 T 0 0 → zi2 T 1 k = 201 → zi2 T 3 k = 0) ∧ (¬ T 11 0 26 = 0 → ∀ k, 0 ≤ k → k < zi2 T 0 0 → zi2 T 3 k = 0) ∧ (T 11 0 26 = 0 → ∀ k, 0 ≤ k → k < zi2 T 0 0 → zi2 T 1 k ≠ 201) := by
    unfold zi2
    split
    · exact a1
    · exact push _ 200 1 0 0 k1.1 (fun _ => rfl) (fun _ => rfl) (fun _ => by decide) a1
  have k2 := zi2_ok hG
  have a3 : (∀ k, 0 ≤ k → k < zitm T 0 0 → zitm T 1 k = 201 → zitm T 3 k = 0) ∧ (¬ T 11 0 26 = 0 → ∀ k, 0 ≤ k → k < zitm T 0 0 → zitm T 3 k = 0) ∧ (T 11 0 26 = 0 → ∀ k, 0 ≤ k → k < zitm T 0 0 → zitm T 1 k ≠ 201) := by
    unfold zitm
    split
    · rename_i hx
      exact push _ 201 _ 0 1 k2.1 (fun _ => rfl) (fun _ => rfl) (fun z => absurd z hx.1) a2
    · exact a2
  exact a3
theorem zcd_v (hG : Good T) {i : Int} (i0 : 0 ≤ i) (i1 : i < znn T) : (zcd T i < 29 ∨ (100 ≤ zcd T i ∧ zcd T i < 129) ∨ zcd T i = 200 ∨ zcd T i = 201) := by
  have hm := hG.many (p := 1) (by omega) (by omega)
  have hR := hG.nR
  have h1 := zi1_ck hG hm.1 (Int.le_refl _)
  have k1 := zi1_ok hG hm.1 (Int.le_refl _)
  have a1 : ∀ j, 0 ≤ j → j < zi1 T (T 64 0 1) 0 0 → (zi1 T (T 64 0 1) 1 j < 29 ∨ (100 ≤ zi1 T (T 64 0 1) 1 j ∧ zi1 T (T 64 0 1) 1 j < 129) ∨ zi1 T (T 64 0 1) 1 j = 200 ∨ zi1 T (T 64 0 1) 1 j = 201) := fun j a b => by
    obtain ⟨m, m0, m1, m2⟩ := h1.1 j a b
    have := zbo_r hG m0 m1
    omega
  have push : ∀ (I : zSt) (c h n b : Int), (c = 200 ∨ c = 201) → (∀ j, 0 ≤ j → j < I 0 0 → (I 1 j < 29 ∨ (100 ≤ I 1 j ∧ I 1 j < 129) ∨ I 1 j = 200 ∨ I 1 j = 201)) → ∀ j, 0 ≤ j → j < zpush I c h n b 0 0 → (zpush I c h n b 1 j < 29 ∨ (100 ≤ zpush I c h n b 1 j ∧ zpush I c h n b 1 j < 129) ∨ zpush I c h n b 1 j = 200 ∨ zpush I c h n b 1 j = 201) := by
    intro I c h n b hc H j j0 j1
    rw [zpush_0] at j1
    by_cases hj : j = I 0 0
    · rw [hj, (zpush_at I c h n b).1]; omega
    · rw [zpush_ne I c h n b (by decide) hj]; exact H j j0 (by omega)
  have a2 : ∀ j, 0 ≤ j → j < zi2 T 0 0 → (zi2 T 1 j < 29 ∨ (100 ≤ zi2 T 1 j ∧ zi2 T 1 j < 129) ∨ zi2 T 1 j = 200 ∨ zi2 T 1 j = 201) := by
    unfold zi2
    split
    · exact a1
    · exact push _ 200 1 0 0 (Or.inl rfl) a1
  have a3 : ∀ j, 0 ≤ j → j < zitm T 0 0 → (zitm T 1 j < 29 ∨ (100 ≤ zitm T 1 j ∧ zitm T 1 j < 129) ∨ zitm T 1 j = 200 ∨ zitm T 1 j = 201) := by
    unfold zitm
    split
    · exact push _ 201 _ 0 1 (Or.inr rfl) a2
    · exact a2
  exact a3 i i0 i1
theorem k_put (hG : Good T) {S : zSt} (H : zPW T S) (h : S 0 4 < znn T) (hR : zKR T S M) {l : Int} (l0 : 1 ≤ l) (l1 : l ≤ zln T S) {Qm : Mem → Prop} (hq : ∀ M', Fj (fun s j k => j = 0 ∧ ((s = 7 ∧ k = 2) ∨ (38 ≤ s ∧ s ≤ 45))) M M' → (∀ S', S' 0 0 = S 0 0 + 1 → S' 0 1 = S 0 1 → S' 1 = zset (S 1) (S 0 0) (zcd T (S 0 4)) → S' 3 = zset (S 3) (S 0 0) (S 0 5) → S' 4 = zset (S 4) (S 0 0) l → S' 5 = zset (S 5) (S 0 1 - 1) (S 5 (S 0 1 - 1) + l) → S' 6 = zset (S 6) (S 0 1 - 1) (S 6 (S 0 1 - 1) + znl T S l) → S' 7 = zS7 T S → S' 8 = S 8 → zKR T S' M') → Qm M') : wp_X6_put 0 (zcc (zcd T (S 0 4))) (S 0 5) l (zwn T S) M Qm := by
  obtain ⟨⟨a1, a2, a3, a4, a5⟩, b, c, d, e, f, g, m⟩ := H
  have hb : 0 ≤ S 0 4 ∧ 0 ≤ S 0 5 ∧ S 0 5 < zhg T (S 0 4) := by omega
  obtain ⟨r1, r2, r3, r4⟩ := zit_r hG hb.1 h
  obtain ⟨k1, k2, k3, k4, k5⟩ := hR
  have hl : l ≤ 300 := by unfold zln at l1; omega
  have hw0 : 0 ≤ zwn T S ∧ zwn T S ≤ 300 := by unfold zwn; split <;> omega
  have hcv := zcd_v hG hb.1 h
  obtain ⟨n1, n2, n3⟩ := zitm_notes hG
  have hf := f (S 0 1 - 1) (by omega) (by omega)
  obtain ⟨q1, q2, q3⟩ := k4 (S 0 1 - 1) (by omega) (by omega)
  have h65 : zcc (zcd T (S 0 4)) = 65 ↔ zcd T (S 0 4) = 201 := by unfold zcc; split; omega; split <;> omega
  have h29 : (0 ≤ zcc (zcd T (S 0 4)) ∧ zcc (zcd T (S 0 4)) < 29) ↔ zcd T (S 0 4) < 29 := by unfold zcc; split; omega; split <;> omega
  have h29' : zcd T (S 0 4) < 29 → zcc (zcd T (S 0 4)) = zcd T (S 0 4) := fun z => by unfold zcc; rw [if_pos (by omega)]
  have h0c : 0 ≤ zcc (zcd T (S 0 4)) := by unfold zcc; split; omega; split <;> omega
  have enl : (if ¬ zcc (zcd T (S 0 4)) = 65 then zwn T S else l) = znl T S l := by
    unfold znl
    by_cases h201 : zcd T (S 0 4) = 201
    · have e0 : zwn T S = 0 := by
        unfold zwn
        split
        · exact n1 _ hb.1 h h201
        · rfl
      rw [if_neg (by rw [h65]; omega), if_neg (by omega), e0]; omega
    · rw [if_pos (by rw [h65]; exact h201), if_pos h201]; omega
  have eus : S 5 (S 0 1 - 1) + (if T 11 0 26 = 0 then S 6 (S 0 1 - 1) else 0) + (l + zwn T S) = (S 5 (S 0 1 - 1) + l) + (if T 11 0 26 = 0 then S 6 (S 0 1 - 1) + znl T S l else 0) := by
    by_cases h26 : T 11 0 26 = 0
    · rw [if_pos h26, if_pos h26]
      unfold znl
      rw [if_pos (n3 h26 _ hb.1 h)]
      omega
    · rw [if_neg h26, if_neg h26]
      have e0 : zwn T S = 0 := by
        unfold zwn
        split
        · exact n2 h26 _ hb.1 h
        · rfl
      omega
  have hnl : 0 ≤ znl T S l ∧ znl T S l ≤ 600 := by unfold znl; split <;> omega
  have hus : 0 ≤ S 5 (S 0 1 - 1) + (if T 11 0 26 = 0 then S 6 (S 0 1 - 1) else 0) ∧ S 5 (S 0 1 - 1) + (if T 11 0 26 = 0 then S 6 (S 0 1 - 1) else 0) ≤ 1000000 := by split <;> omega
  unfold wp_X6_put
  rw [k1, k2]
  refine ⟨⟨by omega, by omega⟩, fun z => absurd z (by omega), fun _ => ⟨fun z => absurd z (by omega), fun _ => ⟨fun _ => ?_, fun z => absurd z (by omega)⟩⟩⟩
  refine ⟨⟨by omega, by omega⟩, ?_⟩
  intro M1 e1
  have x1 : M1 7 0 2 = S 0 0 := by rw [e1, up_s _ _ _ _ (by decide)]; exact k1
  rw [x1]
  refine ⟨⟨by omega, by omega⟩, ?_⟩
  intro M2 e2
  have x2 : M2 7 0 2 = S 0 0 := by rw [e2, up_s _ _ _ _ (by decide)]; exact x1
  rw [x2]
  refine ⟨⟨by omega, by omega⟩, ?_⟩
  intro M3 e3
  have x3 : M3 7 0 2 = S 0 0 := by rw [e3, up_s _ _ _ _ (by decide)]; exact x2
  rw [x3]
  refine ⟨⟨by omega, by omega⟩, ?_⟩
  intro M4 e4
  have y42 : M4 42 0 (S 0 1 - 1) = S 5 (S 0 1 - 1) + (if T 11 0 26 = 0 then S 6 (S 0 1 - 1) else 0) := by
    rw [e4, up_s _ _ _ _ (by decide), e3, up_s _ _ _ _ (by decide), e2, up_s _ _ _ _ (by decide), e1, up_s _ _ _ _ (by decide)]; exact q2
  rw [y42, eus]
  refine ⟨⟨by omega, by omega⟩, ⟨by omega, by omega⟩, by rw [← eus]; exact ⟨by omega, by omega⟩, ⟨by omega, by omega⟩, ?_⟩
  intro M5 e5
  have y43 : M5 43 0 (S 0 1 - 1) = S 6 (S 0 1 - 1) := by
    rw [e5, up_s _ _ _ _ (by decide), e4, up_s _ _ _ _ (by decide), e3, up_s _ _ _ _ (by decide), e2, up_s _ _ _ _ (by decide), e1, up_s _ _ _ _ (by decide)]; exact q3
  rw [y43, enl]
  refine ⟨⟨by omega, by omega⟩, ⟨by omega, by omega⟩, ⟨by omega, by omega⟩, ?_⟩
  intro M6 e6
  have f6 : Fj (fun s j k => j = 0 ∧ ((s = 7 ∧ k = 2) ∨ (38 ≤ s ∧ s ≤ 45))) M M6 := by
    rw [e6, e5, e4, e3, e2, e1]
    exact ((((((Fj.rf _ M).up ⟨rfl, Or.inr ⟨by decide, by decide⟩⟩).up ⟨rfl, Or.inr ⟨by decide, by decide⟩⟩).up ⟨rfl, Or.inr ⟨by decide, by decide⟩⟩).up ⟨rfl, Or.inl ⟨rfl, rfl⟩⟩).up ⟨rfl, Or.inr ⟨by decide, by decide⟩⟩).up ⟨rfl, Or.inr ⟨by decide, by decide⟩⟩
  have g6 : ∀ S' : zSt, S' 0 0 = S 0 0 + 1 → S' 0 1 = S 0 1 → S' 1 = zset (S 1) (S 0 0) (zcd T (S 0 4)) → S' 3 = zset (S 3) (S 0 0) (S 0 5) → S' 4 = zset (S 4) (S 0 0) l → S' 5 = zset (S 5) (S 0 1 - 1) (S 5 (S 0 1 - 1) + l) → S' 6 = zset (S 6) (S 0 1 - 1) (S 6 (S 0 1 - 1) + znl T S l) → S' 8 = S 8 → (M6 7 0 2 = S' 0 0 ∧ M6 7 0 1 = S' 0 1 ∧ (∀ k, 0 ≤ k → k < S' 0 0 → M6 38 0 k = zcc (S' 1 k) ∧ M6 39 0 k = S' 3 k ∧ M6 40 0 k = S' 4 k) ∧ (∀ p, 0 ≤ p → p < S' 0 1 → M6 41 0 p = S' 8 p ∧ M6 42 0 p = S' 5 p + (if T 11 0 26 = 0 then S' 6 p else 0) ∧ M6 43 0 p = S' 6 p)) := by
    intro S' s0 s1 s2 s3 s4 s5 s6 s8
    rw [s0, s1, s2, s3, s4, s5, s6, s8]
    refine ⟨?_, ?_, fun k k0 k1' => ?_, fun p p0 p1 => ?_⟩
    · rw [e6, up_s _ _ _ _ (by decide), e5, up_s _ _ _ _ (by decide), e4, up_eq]
    · rw [e6, up_s _ _ _ _ (by decide), e5, up_s _ _ _ _ (by decide), e4, up_k _ _ _ _ _ _ (by decide), e3, up_s _ _ _ _ (by decide), e2, up_s _ _ _ _ (by decide), e1, up_s _ _ _ _ (by decide)]; exact k2
    · rw [e6, up_s _ _ _ _ (by decide), up_s _ _ _ _ (by decide), up_s _ _ _ _ (by decide), e5, up_s _ _ _ _ (by decide), up_s _ _ _ _ (by decide), up_s _ _ _ _ (by decide), e4, up_s _ _ _ _ (by decide), up_s _ _ _ _ (by decide), up_s _ _ _ _ (by decide)]
      by_cases hk : k = S 0 0
      · rw [hk, zset_eq, zset_eq, zset_eq, e3, up_s _ _ _ _ (by decide), up_s _ _ _ _ (by decide), up_eq, e2, up_s _ _ _ _ (by decide), up_eq, e1, up_eq]
        exact ⟨rfl, rfl, rfl⟩
      · rw [zset_ne _ _ hk, zset_ne _ _ hk, zset_ne _ _ hk, e3, up_s _ _ _ _ (by decide), up_s _ _ _ _ (by decide), up_k _ _ _ _ _ _ hk, e2, up_s _ _ _ _ (by decide), up_k _ _ _ _ _ _ hk, up_s _ _ _ _ (by decide), e1, up_k _ _ _ _ _ _ hk, up_s _ _ _ _ (by decide), up_s _ _ _ _ (by decide)]
        exact k3 k k0 (by omega)
    · obtain ⟨v1, v2, v3⟩ := k4 p p0 p1
      have s41 : M6 41 0 p = M 41 0 p := by rw [e6, up_s _ _ _ _ (by decide), e5, up_s _ _ _ _ (by decide), e4, up_s _ _ _ _ (by decide), e3, up_s _ _ _ _ (by decide), e2, up_s _ _ _ _ (by decide), e1, up_s _ _ _ _ (by decide)]
      rw [s41]
      by_cases hp : p = S 0 1 - 1
      · rw [hp, zset_eq, zset_eq, e6, up_s _ _ _ _ (by decide), up_eq, e5, up_eq]
        exact ⟨q1, rfl, rfl⟩
      · have s42 : M6 42 0 p = M 42 0 p := by rw [e6, up_s _ _ _ _ (by decide), e5, up_k _ _ _ _ _ _ hp, e4, up_s _ _ _ _ (by decide), e3, up_s _ _ _ _ (by decide), e2, up_s _ _ _ _ (by decide), e1, up_s _ _ _ _ (by decide)]
        have s43 : M6 43 0 p = M 43 0 p := by rw [e6, up_k _ _ _ _ _ _ hp, e5, up_s _ _ _ _ (by decide), e4, up_s _ _ _ _ (by decide), e3, up_s _ _ _ _ (by decide), e2, up_s _ _ _ _ (by decide), e1, up_s _ _ _ _ (by decide)]
        rw [s42, s43, zset_ne _ _ hp, zset_ne _ _ hp]
        exact ⟨v1, v2, v3⟩
  have s45 : ∀ r, M6 45 0 r = M 45 0 r := fun r => by rw [e6, up_s _ _ _ _ (by decide), e5, up_s _ _ _ _ (by decide), e4, up_s _ _ _ _ (by decide), e3, up_s _ _ _ _ (by decide), e2, up_s _ _ _ _ (by decide), e1, up_s _ _ _ _ (by decide)]
  -- no first page is written
  have hno : ¬ (zcd T (S 0 4) < 29 ∧ S 0 5 = 0) → Qm M6 := fun hh => hq M6 f6 (fun S' s0 s1 s2 s3 s4 s5 s6 s7 s8 => by
    obtain ⟨g1, g2, g3, g4⟩ := g6 S' s0 s1 s2 s3 s4 s5 s6 s8
    refine ⟨g1, g2, g3, g4, fun r k r0 r1 k0 k1 hk h3 => ?_⟩
    rw [s45, s7]
    rw [s0] at k1
    rw [s2] at hk
    rw [s3] at h3
    by_cases hkn : k = S 0 0
    · rw [hkn, zset_eq] at hk h3
      exact absurd ⟨by omega, h3⟩ hh
    · rw [zset_ne _ _ hkn] at hk h3
      have := k5 r k r0 r1 k0 (by omega) hk h3
      unfold zS7
      split
      · rename_i h5
        rw [zset_ne _ _ (fun e => hh ⟨by omega, h5⟩)]
        exact this
      · exact this)
  refine ⟨fun z => absurd z (by omega), fun _ => ⟨fun hx => hno (fun z => by have := h29.mpr z.1; omega), fun hx => ⟨fun hz => hno (fun z => hz z.2), fun hz => ⟨⟨by omega, by omega⟩, ?_⟩⟩⟩⟩
  intro M7 e7
  have hcl : zcd T (S 0 4) < 29 := h29.mp ⟨h0c, hx⟩
  rw [h29' hcl] at e7
  refine hq M7 (by rw [e7]; exact f6.up ⟨rfl, Or.inr ⟨by decide, by decide⟩⟩) (fun S' s0 s1 s2 s3 s4 s5 s6 s7 s8 => ?_)
  obtain ⟨g1, g2, g3, g4⟩ := g6 S' s0 s1 s2 s3 s4 s5 s6 s8
  refine ⟨by rw [e7, up_s _ _ _ _ (by decide)]; exact g1, by rw [e7, up_s _ _ _ _ (by decide)]; exact g2, fun k k0 k1 => ?_, fun p p0 p1 => ?_, fun r k r0 r1 k0 k1 hk h3 => ?_⟩
  · rw [e7, up_s _ _ _ _ (by decide), up_s _ _ _ _ (by decide), up_s _ _ _ _ (by decide)]; exact g3 k k0 k1
  · rw [e7, up_s _ _ _ _ (by decide), up_s _ _ _ _ (by decide), up_s _ _ _ _ (by decide)]; exact g4 p p0 p1
  · rw [s7]
    unfold zS7
    rw [if_pos hz]
    by_cases hr : r = zcd T (S 0 4)
    · rw [hr, e7, up_eq, zset_eq]
    · rw [e7, up_k _ _ _ _ _ _ hr, zset_ne _ _ hr, s45]
      rw [s0] at k1
      rw [s2] at hk
      rw [s3] at h3
      by_cases hkn : k = S 0 0
      · rw [hkn, zset_eq] at hk
        exact absurd hk.symm hr
      · rw [zset_ne _ _ hkn] at hk h3
        exact k5 r k r0 r1 k0 (by omega) hk h3
theorem k_openPage (hG : Good T) {S : zSt} (a1 : 0 ≤ S 0 1) (a2 : S 0 1 < 904) (hR : zKR T S M) (hF : zKF T M) {Qm : Mem → Prop} (hq : ∀ M', Fj zCQ M M' → zKR T (znewp T S) M' → zKL T (znewp T S) M' → Qm M') : wp_X2_openPage M Qm := by
  obtain ⟨k1, k2, k3, k4, k5⟩ := hR
  have hF' := hF
  obtain ⟨-, F1, F2, F3⟩ := hF
  have hh := zht_r hG (zwid_r hG)
  have hat := zat_r T hG
  have hrr := zrm_r hG (S 0 1)
  have hm0 := hG.many (p := 0) (by omega) (by omega)
  have hm2 := hG.many (p := 2) (by omega) (by omega)
  have hpp := hG.n.2.2.2.2.1
  have hn := hG.n
  obtain ⟨-, -, -, -, -, -, -, hn2, -, hn3, -⟩ := hn
  have b0 := zsum_r hG hh (p := 0) (by omega) (by omega) hm0.1 (Int.le_refl _)
  have b2 := zsum_r hG hh (p := 2) (by omega) (by omega) hm2.1 (Int.le_refl _)
  have ea : zsum T (zhH T) 0 = zS (fun k => zht T (zwid T) (T 63 0 (24 * 0 + k))) 0 (T 64 0 0) := rfl
  have eb : zsum T (zhH T) 2 = zS (fun k => zht T (zwid T) (T 63 0 (24 * 2 + k))) 0 (T 64 0 2) := rfl
  rw [← ea] at b0
  rw [← eb] at b2
  unfold wp_X2_openPage wp_X6_openPage
  rw [k1, k2]
  refine ⟨fun z => absurd z (by omega), fun _ => ⟨⟨by omega, by omega⟩, ?_⟩⟩
  intro M1 e1
  have x1 : M1 7 0 1 = S 0 1 := by rw [e1, up_s _ _ _ _ (by decide)]; exact k2
  rw [x1]
  refine ⟨⟨by omega, by omega⟩, ?_⟩
  intro M2 e2
  have x2 : M2 7 0 1 = S 0 1 := by rw [e2, up_s _ _ _ _ (by decide)]; exact x1
  rw [x2]
  refine ⟨⟨by omega, by omega⟩, ?_⟩
  intro M3 e3
  have x3 : M3 7 0 1 = S 0 1 := by rw [e3, up_s _ _ _ _ (by decide)]; exact x2
  rw [x3]
  refine ⟨⟨by omega, by omega⟩, ?_⟩
  intro M4 e4
  intro M5 e5
  have f4 : Fj zCQ M M4 := by
    rw [e4, e3, e2, e1]
    exact ((((Fj.rf zCQ M).up (Or.inl ⟨rfl, Or.inr ⟨by decide, by decide⟩⟩)).up (Or.inl ⟨rfl, Or.inr ⟨by decide, by decide⟩⟩)).up (Or.inl ⟨rfl, Or.inr ⟨by decide, by decide⟩⟩)).up (Or.inl ⟨rfl, Or.inl ⟨rfl, Or.inl rfl⟩⟩)
  have f5 : Fj zCQ M M5 := by rw [e5]; exact f4.up (Or.inr ⟨rfl, Or.inr rfl⟩)
  obtain ⟨-, G1, G2, G3⟩ := hF'.fr f5
  have x5 : M5 7 0 1 = S 0 1 + 1 := by rw [e5, up_s _ _ _ _ (by decide), e4, up_eq]
  rw [G1, G2, G3, x5]
  have ez : T 11 0 25 - (zsum T (zhH T) 0 + zsum T (zhH T) 2) - (if S 0 1 + 1 ≤ 1 then 0 else 1 + zat T) = zrm T (S 0 1) := by
    unfold zrm
    by_cases h0 : S 0 1 = 0
    · rw [if_pos (by omega), if_pos h0]; omega
    · rw [if_neg (by omega), if_neg h0]
      by_cases hz : zat T = 0
      · rw [if_pos hz]; omega
      · rw [if_neg hz]; omega
  have hcc : 0 ≤ (if S 0 1 + 1 ≤ 1 then 0 else 1 + zat T) ∧ (if S 0 1 + 1 ≤ 1 then 0 else 1 + zat T) ≤ 2 := by split <;> omega
  rw [ez]
  refine ⟨⟨by omega, by omega⟩, fun _ => ⟨⟨by omega, by omega⟩, trivial⟩, ⟨by omega, by omega⟩, ⟨by omega, by omega⟩, ?_⟩
  intro M6 e6
  refine hq M6 (by rw [e6]; exact f5.up (Or.inr ⟨rfl, Or.inl rfl⟩)) ⟨?_, ?_, fun k k0 k1' => ?_, fun p p0 p1 => ?_, fun r k r0 r1 k0 k1' hk h3 => ?_⟩ ⟨?_, ?_⟩
  · rw [e6, up_s _ _ _ _ (by decide), e5, up_s _ _ _ _ (by decide), e4, up_k _ _ _ _ _ _ (by decide), e3, up_s _ _ _ _ (by decide), e2, up_s _ _ _ _ (by decide), e1, up_s _ _ _ _ (by decide)]; exact k1
  · rw [e6, up_s _ _ _ _ (by decide)]; exact x5
  · have k1' : k < S 0 0 := k1'
    have g : ∀ s : Nat, s = 38 ∨ s = 39 ∨ s = 40 → M6 s 0 k = M s 0 k := fun s hs => by rw [e6, up_s _ _ _ _ (by omega), e5, up_s _ _ _ _ (by omega), e4, up_s _ _ _ _ (by omega), e3, up_s _ _ _ _ (by omega), e2, up_s _ _ _ _ (by omega), e1, up_s _ _ _ _ (by omega)]
    rw [g 38 (by decide), g 39 (by decide), g 40 (by decide)]
    exact k3 k k0 k1'
  · have p1 : p < S 0 1 + 1 := p1
    show M6 41 0 p = zset (S 8) (S 0 1) (S 0 0) p ∧ M6 42 0 p = zset (S 5) (S 0 1) 0 p + (if T 11 0 26 = 0 then zset (S 6) (S 0 1) 0 p else 0) ∧ M6 43 0 p = zset (S 6) (S 0 1) 0 p
    have g41 : M6 41 0 p = up M 41 0 (S 0 1) (S 0 0) 41 0 p := by rw [e6, up_s _ _ _ _ (by decide), e5, up_s _ _ _ _ (by decide), e4, up_s _ _ _ _ (by decide), e3, up_s _ _ _ _ (by decide), e2, up_s _ _ _ _ (by decide), e1]
    have g42 : M6 42 0 p = up M1 42 0 (S 0 1) 0 42 0 p := by rw [e6, up_s _ _ _ _ (by decide), e5, up_s _ _ _ _ (by decide), e4, up_s _ _ _ _ (by decide), e3, up_s _ _ _ _ (by decide), e2]
    have g43 : M6 43 0 p = up M2 43 0 (S 0 1) 0 43 0 p := by rw [e6, up_s _ _ _ _ (by decide), e5, up_s _ _ _ _ (by decide), e4, up_s _ _ _ _ (by decide), e3]
    rw [g41, g42, g43]
    by_cases hp : p = S 0 1
    · rw [hp, up_eq, up_eq, up_eq, zset_eq, zset_eq, zset_eq]
      exact ⟨rfl, by split <;> rfl, rfl⟩
    · rw [up_k _ _ _ _ _ _ hp, up_k _ _ _ _ _ _ hp, up_k _ _ _ _ _ _ hp, zset_ne _ _ hp, zset_ne _ _ hp, zset_ne _ _ hp, e1, up_s _ _ _ _ (by decide), e2, up_s _ _ _ _ (by decide), e1, up_s _ _ _ _ (by decide)]
      exact k4 p p0 (by omega)
  · have g : M6 45 0 r = M 45 0 r := by rw [e6, up_s _ _ _ _ (by decide), e5, up_s _ _ _ _ (by decide), e4, up_s _ _ _ _ (by decide), e3, up_s _ _ _ _ (by decide), e2, up_s _ _ _ _ (by decide), e1, up_s _ _ _ _ (by decide)]
    rw [g]
    exact k5 r k r0 r1 k0 k1' hk h3
  · rw [e6, up_eq]; rfl
  · rw [e6, up_k _ _ _ _ _ _ (by decide), e5, up_eq]; rfl
end CY
