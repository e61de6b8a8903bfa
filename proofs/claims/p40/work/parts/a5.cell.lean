/-! the class's calls as this law asks them: a cell -/
section NG
variable {T M : Mem} {O : zSt} {κ : Nat → Int} {p1 p2 p3 p4 : Int}
/-- the places, a cell put over some of them -/
noncomputable def zG69 (T : Mem) (r0 c d w n q : Int) : Int := @ite Int (0 ≤ q ∧ q < 6 * T 11 0 8 ∧ zCov T r0 c d w (q / 6) (q % 6)) (Classical.propDecidable _) (n + 1) (T 69 0 q)
theorem zG69_y {r0 c d w n r k : Int} (h0 : 0 ≤ r) (h1 : r < T 11 0 8) (k0 : 0 ≤ k) (k1 : k < 6) (h : zCov T r0 c d w r k) : zG69 T r0 c d w n (6 * r + k) = n + 1 := by
  unfold zG69
  rw [show (6 * r + k) / 6 = r by omega, show (6 * r + k) % 6 = k by omega]
  exact if_pos ⟨by omega, by omega, h⟩
theorem zG69_n {r0 c d w n r k : Int} (k0 : 0 ≤ k) (k1 : k < 6) (h : ¬ zCov T r0 c d w r k) : zG69 T r0 c d w n (6 * r + k) = T 69 0 (6 * r + k) := by
  unfold zG69
  rw [show (6 * r + k) / 6 = r by omega, show (6 * r + k) % 6 = k by omega]
  exact if_neg (fun z => h z.2.2)
theorem zG69_o {r0 c d w n q : Int} (h : 6 * T 11 0 8 ≤ q) : zG69 T r0 c d w n q = T 69 0 q := by
  unfold zG69
  exact if_neg (fun z => by omega)
noncomputable def zM69 (N T : Mem) (r0 c d w n : Int) : Mem := fun s j k => if s = 69 ∧ j = 0 then zG69 T r0 c d w n k else N s j k
theorem zM69_o {N : Mem} {r0 c d w n : Int} {s : Nat} {j k : Int} (h : s ≠ 69) : zM69 N T r0 c d w n s j k = N s j k := if_neg (fun z => h z.1)
theorem zM69_e {N : Mem} {r0 c d w n k : Int} : zM69 N T r0 c d w n 69 0 k = zG69 T r0 c d w n k := if_pos ⟨rfl, rfl⟩
theorem zM69_gh {N : Mem} {r0 c d w n : Int} (h : ∀ k, N 69 0 k = T 69 0 k) (hn : inR (n + 1)) : Gh N (zM69 N T r0 c d w n) := fun s j k => by
  by_cases e : s = 69 ∧ j = 0
  · rw [e.1, e.2, zM69_e]
    unfold zG69
    by_cases z : 0 ≤ k ∧ k < 6 * T 11 0 8 ∧ zCov T r0 c d w (k / 6) (k % 6)
    · rw [@if_pos _ (Classical.propDecidable _) z]
      exact Or.inr ⟨Or.inr ⟨by decide, by decide⟩, hn⟩
    · rw [@if_neg _ (Classical.propDecidable _) z]
      exact Or.inl (h k).symm
  · exact Or.inl (if_neg e)
theorem Gh.tr {M1 M2 M3 : Mem} (a : Gh M1 M2) (b : Gh M2 M3) : Gh M1 M3 := fun s j k => by
  rcases b s j k with e | e
  · rw [e]; exact a s j k
  · exact Or.inr e
set_option maxHeartbeats 8000000 in
theorem n_cell (h : Iv T O κ M) (hr : 0 ≤ p1 ∧ p1 < T 11 0 8) (hc : 0 ≤ p2 ∧ p2 < T 11 0 4) (d0 : 1 ≤ p3) (d4 : p3 ≤ 4) (w0 : 1 ≤ p4) (w6 : p4 ≤ 6) (a : T 11 0 15 < 100) {Qf : Int → (Nat → Int) → Mem → Prop} (hX : ¬ zFree T p1 p2 p3 p4 → Qf (-7) κ M) (hK : zFree T p1 p2 p3 p4 → ∀ T' κ' M', Iv T' O κ' M' → zSm M M' → (∀ s : Nat, 104 ≤ s → κ' s = κ s) → T' 11 0 15 = T 11 0 15 + 1 → (∀ k, (k = 4 ∨ k = 8 ∨ k = 24 ∨ k = 25 ∨ k = 26) → T' 11 0 k = T 11 0 k) → (∀ k, T' 65 0 k = if k = T 11 0 15 then p1 else T 65 0 k) → (∀ k, T' 66 0 k = if k = T 11 0 15 then p2 else T 66 0 k) → (∀ k, T' 67 0 k = if k = T 11 0 15 then p3 else T 67 0 k) → (∀ k, T' 68 0 k = if k = T 11 0 15 then p4 else T 68 0 k) → (∀ r k, 0 ≤ r → r < T 11 0 8 → 0 ≤ k → k < 6 → (zCov T p1 p2 p3 p4 r k → T' 69 0 (6 * r + k) = T 11 0 15 + 1) ∧ (¬ zCov T p1 p2 p3 p4 r k → T' 69 0 (6 * r + k) = T 69 0 (6 * r + k))) → (∀ s : Nat, s = 6 ∨ (56 ≤ s ∧ s ≤ 64) ∨ (70 ≤ s ∧ s ≤ 76) → T' s = T s) → Qf (T 11 0 15) κ' M') : wp_L_celled p1 p2 p3 p4 κ M (fun r κ1 M1 => ∃ M2, Gh M1 M2 ∧ Qf r κ1 M2) := by
  have h' := h
  obtain ⟨hG, hL, hA, -, -, -, -, hp, hw, -⟩ := h
  have hC := hG.nC
  have hR := hG.nR
  have hKn := hG.nK
  have e13 := hA.s13
  have e14 := hA.s14
  obtain ⟨n12, n13, n14⟩ := hL.n
  unfold wp_L_celled
  refine k_hasRow hG hL hA (fun _ => ⟨fun _ => ?_, fun z => absurd z (by decide)⟩) (fun z => absurd hr z)
  refine k_hasColumn hG hL hA (fun _ => ⟨fun _ => ?_, fun z => absurd z (by decide)⟩) (fun z => absurd hc z)
  refine ⟨fun a => absurd a (by omega), fun _ => ⟨fun a => absurd a (by omega), fun _ => ⟨fun a => absurd a (by omega), fun _ => ⟨fun _ => ?_, fun a => absurd a (by omega)⟩⟩⟩⟩
  refine ⟨by rw [e13, n13]; exact hr, fun a => ?_, fun a => ?_⟩
  · rw [e14, n14] at a
    omega
  · rw [e14, n14] at a
    rw [e13, (hL.row hr.1 hr.2).1]
    refine k_hasFreePlaces hG hL hA hr.1 hr.2 hc.1 hc.2 d0 d4 w0 w6 (fun hf => ⟨fun _ => ?_, fun z => absurd z (by decide)⟩) (fun hf => ⟨fun z => absurd rfl z, fun _ => ⟨rfl, M, Gh.rf, hX hf⟩⟩)
    intro M9 m9
    obtain ⟨n, en⟩ : ∃ n, n = T 11 0 15 := ⟨_, rfl⟩
    have ek : κ 1 = n := by rw [en]; exact hp.1.1
    rw [ek]
    refine ⟨by omega, ⟨by omega, by omega⟩, ⟨by omega, by omega⟩, fun X mX => ?_⟩
    have gX : ∀ (s : Nat) (j k : Int), s ≠ 1 → s ≠ 24 → s ≠ 25 → s ≠ 26 → s ≠ 10 → X s j k = M s j k := fun s j k z1 z2 z3 z4 z5 => by
      rw [mX]
      show M1 M9 n p1 p2 p3 p4 s j k = M s j k
      unfold M1
      rw [if_neg (fun w => z1 w.1), if_neg (fun w => z2 w.1), if_neg (fun w => z3 w.1), if_neg (fun w => z4 w.1), m9, up_s _ _ _ _ z5]
    have eX : ∀ s : Nat, s ≠ 1 → s ≠ 24 → s ≠ 25 → s ≠ 26 → s ≠ 10 → X s = M s := fun s z1 z2 z3 z4 z5 => funext fun j => funext fun k => gX s j k z1 z2 z3 z4 z5
    have x1 : ∀ k, X 1 n k = (if k = 0 then p1 else if k = 1 then p2 else if k = 2 then p3 else if k = 3 then p4 else 0) := fun k => by
      rw [mX]
      show M1 M9 n p1 p2 p3 p4 1 n k = _
      unfold M1
      rw [if_pos ⟨rfl, rfl⟩]
    have fX : Fj (zCelQ n) M X := by
      rw [mX, m9]
      exact ((Fj.rf _ _).up (zCelQ.c1 n)).m1 (fun s k w => zCelQ.c3 n s k w)
    have cX : Fj zCcQ M X := by
      rw [mX, m9]
      exact ((Fj.rf _ _).up (Or.inr (Or.inl ⟨rfl, rfl⟩))).m1 (fun s k w => Or.inr (Or.inr (by rcases w with w | w | w | w <;> rw [w] <;> rfl)))
    have e6 := hA.s6
    have e12 := hA.s12
    have e15 := hA.s15
    have e16 := hA.s16
    have e17 := hA.s17
    have e20 := hA.s20
    have e33 := hA.s33
    have e37 := hA.s37
    have l14 := hp.2 14 (by decide) (by decide)
    have l14 : T 14 0 (-2) = T 14 0 (-1) ∧ 0 ≤ T 20 0 (-1) ∧ T 20 0 (-1) ≤ 150 := l14
    refine k_addCell hG hL en (by omega) hr.1 hr.2 hc.1 hc.2 d0 d4 w0 w6 hf.1 ⟨by rw [x1, if_pos rfl], by rw [x1, if_neg (by decide), if_pos rfl], by rw [x1, if_neg (by decide), if_neg (by decide), if_pos rfl], by rw [x1, if_neg (by decide), if_neg (by decide), if_neg (by decide), if_pos rfl]⟩ (by rw [eX 6 (by decide) (by decide) (by decide) (by decide) (by decide), e6]) (by rw [eX 12 (by decide) (by decide) (by decide) (by decide) (by decide), e12]) (by rw [eX 33 (by decide) (by decide) (by decide) (by decide) (by decide), e33]) (by rw [eX 37 (by decide) (by decide) (by decide) (by decide) (by decide), e37]) (by rw [eX 15 (by decide) (by decide) (by decide) (by decide) (by decide), e15]) (by rw [eX 16 (by decide) (by decide) (by decide) (by decide) (by decide), e16]) (by rw [eX 17 (by decide) (by decide) (by decide) (by decide) (by decide), e17]) (fun k => by rw [eX 14 (by decide) (by decide) (by decide) (by decide) (by decide), e14]) (by rw [eX 20 (by decide) (by decide) (by decide) (by decide) (by decide), e20]) l14 (fun N fN dN n12' k14 k20 => ?_)
    dsimp only
    have N69 : ∀ k, N 69 0 k = T 69 0 k := fun k => by
      rw [fN 69 0 k (by unfold zAcQ; omega), gX 69 0 k (by decide) (by decide) (by decide) (by decide) (by decide)]
      exact hA 69 0 k rfl
    obtain ⟨Y, eY⟩ : ∃ Y, Y = up (up (up (up N 65 0 n p1) 66 0 n p2) 67 0 n p3) 68 0 n p4 := ⟨_, rfl⟩
    obtain ⟨F, eF⟩ : ∃ F, F = up (zM69 Y T p1 p2 p3 p4 n) 11 0 15 (n + 1) := ⟨_, rfl⟩
    have yY : ∀ (s : Nat) (j k : Int), s ≠ 65 → s ≠ 66 → s ≠ 67 → s ≠ 68 → Y s j k = N s j k := fun s j k z1 z2 z3 z4 => by rw [eY, up_s _ _ _ _ z4, up_s _ _ _ _ z3, up_s _ _ _ _ z2, up_s _ _ _ _ z1]
    have gF : ∀ (s : Nat) (j k : Int), s ≠ 69 → s ≠ 11 → F s j k = Y s j k := fun s j k z1 z2 => by rw [eF, up_s _ _ _ _ z2, zM69_o z1]
    have bF : ∀ (s : Nat) (j k : Int), s ≠ 69 → s ≠ 11 → s ≠ 65 → s ≠ 66 → s ≠ 67 → s ≠ 68 → F s j k = N s j k := fun s j k z1 z2 z3 z4 z5 z6 => by rw [gF s j k z1 z2, yY s j k z3 z4 z5 z6]
    have F69 : ∀ k, F 69 0 k = zG69 T p1 p2 p3 p4 n k := fun k => by rw [eF, up_s _ _ _ _ (by decide), zM69_e]
    have dF : ∀ r k, 0 ≤ r → r < T 11 0 8 → 0 ≤ k → k < 6 → (zCov T p1 p2 p3 p4 r k → F 69 0 (6 * r + k) = n + 1) ∧ (¬ zCov T p1 p2 p3 p4 r k → F 69 0 (6 * r + k) = T 69 0 (6 * r + k)) := fun r k a0 a1 k0 k1 => ⟨fun z => by rw [F69]; exact zG69_y a0 a1 k0 k1 z, fun z => by rw [F69]; exact zG69_n k0 k1 z⟩
    have oF : ∀ q, 6 * T 11 0 8 ≤ q → F 69 0 q = T 69 0 q := fun q hq => by rw [F69]; exact zG69_o hq
    have cF : ∀ k, k ≠ 12 → F 1 n k = X 1 n k := fun k hk => by
      rw [bF 1 n k (by decide) (by decide) (by decide) (by decide) (by decide) (by decide)]
      exact fN 1 n k (fun z => by
        rcases z with z | z | z | z
        · exact absurd z (by decide)
        · exact hk z.2.2
        · exact absurd z.1 (by decide)
        · exact absurd z.1 (by decide))
    have frF : Fj (zCelQ n) M F := fun s j k z => by
      have fNM : N s j k = M s j k := (fX.tr (fN.mono (zAcQ_cel n))) s j k z
      have z0 := z
      unfold zCelQ at z0
      rw [eF, up_at, if_neg (by omega), zM69_o (by omega), eY, up_at, if_neg (by omega), up_at, if_neg (by omega), up_at, if_neg (by omega), up_at, if_neg (by omega), fNM]
    have x1' : ∀ k, k ≠ 0 → k ≠ 1 → k ≠ 2 → k ≠ 3 → k ≠ 12 → F 1 n k = 0 := fun k u0 u1 u2 u3 u4 => by
      rw [cF k u4, x1, if_neg u0, if_neg u1, if_neg u2, if_neg u3]
    have F65 : F 65 0 n = p1 := by rw [gF 65 0 n (by decide) (by decide), eY, up_s _ _ _ _ (by decide), up_s _ _ _ _ (by decide), up_s _ _ _ _ (by decide), up_eq]
    have F66 : F 66 0 n = p2 := by rw [gF 66 0 n (by decide) (by decide), eY, up_s _ _ _ _ (by decide), up_s _ _ _ _ (by decide), up_eq]
    have F67 : F 67 0 n = p3 := by rw [gF 67 0 n (by decide) (by decide), eY, up_s _ _ _ _ (by decide), up_eq]
    have F68 : F 68 0 n = p4 := by rw [gF 68 0 n (by decide) (by decide), eY, up_eq]
    have F15 : F 11 0 15 = n + 1 := by rw [eF, up_eq]
    have hY69 : ∀ k, Y 69 0 k = T 69 0 k := fun k => by rw [yY 69 0 k (by decide) (by decide) (by decide) (by decide), N69]
    have hgh : Gh N F := by
      rw [eF]
      refine (Gh.tr ?_ (zM69_gh hY69 ⟨by omega, by omega⟩)).up (Or.inl rfl) ⟨by omega, by omega⟩
      rw [eY]
      exact (((Gh.rf.up (Or.inr ⟨by decide, by decide⟩) ⟨by omega, by omega⟩).up (Or.inr ⟨by decide, by decide⟩) ⟨by omega, by omega⟩).up (Or.inr ⟨by decide, by decide⟩) ⟨by omega, by omega⟩).up (Or.inr ⟨by decide, by decide⟩) ⟨by omega, by omega⟩
    refine ⟨F, hgh, ?_⟩
    rw [show Qf n = Qf (T 11 0 15) from by rw [en]]
    have one : ∀ (s : Nat) (k v : Int), (65 ≤ s ∧ s ≤ 68) → F s 0 n = v → F s 0 k = if k = T 11 0 15 then v else T s 0 k := fun s k v hs hv => by
      by_cases e : k = T 11 0 15
      · rw [if_pos e, e, ← en, hv]
      · rw [if_neg e]
        exact (frF s 0 k (by unfold zCelQ; omega)).trans (hA s 0 k (by
          simp only [zin, Bool.or_eq_true, Bool.and_eq_true, decide_eq_true_eq]
          omega))
    refine hK hf F _ F (zcell_iv h' en (by omega) hr.1 hr.2 hc.1 hc.2 d0 d4 w0 w6 hf frF F15 ⟨?_, ?_, ?_, ?_, x1' 7 (by decide) (by decide) (by decide) (by decide) (by decide), x1' 8 (by decide) (by decide) (by decide) (by decide) (by decide), x1' 9 (by decide) (by decide) (by decide) (by decide) (by decide), x1' 10 (by decide) (by decide) (by decide) (by decide) (by decide), x1' 11 (by decide) (by decide) (by decide) (by decide) (by decide), ?_⟩ (fun k => ?_) ⟨?_, ?_, ?_⟩ ?_ ⟨F65, F66, F67, F68⟩ dF oF (fun r k a0 a1 k0 k1 => ?_) ?_ ⟨?_, ?_, ?_⟩) ⟨fun s hs => funext fun j => funext fun k => frF s j k (by unfold zCelQ; omega), frF 11 0 30 (by unfold zCelQ; omega)⟩ (fun s hs => ?_) (by rw [F15, en]) (fun k hk => ?_) (fun k => one 65 k p1 (by decide) F65) (fun k => one 66 k p2 (by decide) F66) (fun k => one 67 k p3 (by decide) F67) (fun k => one 68 k p4 (by decide) F68) (fun r k a0 a1 k0 k1 => by rw [← en]; exact dF r k a0 a1 k0 k1) (fun s hs => funext fun j => funext fun k => (frF s j k (by unfold zCelQ; omega)).trans (hA s j k (by
      simp only [zin, Bool.or_eq_true, Bool.and_eq_true, decide_eq_true_eq]
      omega)))
    · rw [cF 0 (by decide), x1, if_pos rfl]
    · rw [cF 1 (by decide), x1, if_neg (by decide), if_pos rfl]
    · rw [cF 2 (by decide), x1, if_neg (by decide), if_neg (by decide), if_pos rfl]
    · rw [cF 3 (by decide), x1, if_neg (by decide), if_neg (by decide), if_neg (by decide), if_pos rfl]
    · rw [bF 1 n 12 (by decide) (by decide) (by decide) (by decide) (by decide) (by decide)]; exact n12'
    · rw [bF 24 n k (by decide) (by decide) (by decide) (by decide) (by decide) (by decide), fN 24 n k (fun z => by
        rcases z with z | z | z | z
        · exact absurd z (by decide)
        · exact absurd z.1 (by decide)
        · exact absurd z.1 (by decide)
        · exact absurd z.1 (by decide)), mX]
      show M1 M9 n p1 p2 p3 p4 24 n k = 0
      unfold M1
      rw [if_neg (fun w => absurd w.1 (by decide)), if_pos ⟨rfl, rfl⟩]
    · rw [bF 14 0 (-1) (by decide) (by decide) (by decide) (by decide) (by decide) (by decide)]; exact k14.1
    · rw [bF 14 0 (-2) (by decide) (by decide) (by decide) (by decide) (by decide) (by decide)]; exact k14.2.1
    · rw [bF 14 0 n (by decide) (by decide) (by decide) (by decide) (by decide) (by decide)]; exact k14.2.2
    · rw [bF 20 0 (-1) (by decide) (by decide) (by decide) (by decide) (by decide) (by decide)]; exact k20
    · rw [bF 37 r k (by decide) (by decide) (by decide) (by decide) (by decide) (by decide)]; exact dN r k a0 a1 k0 k1
    · rw [bF 10 0 10 (by decide) (by decide) (by decide) (by decide) (by decide) (by decide), fN 10 0 10 (fun z => by
        rcases z with z | z | z | z
        · exact absurd z (by decide)
        · exact absurd z.1 (by decide)
        · exact absurd z.1 (by decide)
        · exact absurd z.1 (by decide)), mX]
      show M1 M9 n p1 p2 p3 p4 10 0 10 = 1
      unfold M1
      rw [if_neg (fun w => absurd w.1 (by decide)), if_neg (fun w => absurd w.1 (by decide)), if_neg (fun w => absurd w.1 (by decide)), if_neg (fun w => absurd w.1 (by decide)), m9, up_eq]
    · rfl
    · rfl
    · rfl
    · unfold kad
      rw [if_neg (by omega)]
      exact kup_ge (N := 104) (by decide) hs
    · exact (frF 11 0 k (by unfold zCelQ; omega)).trans (hA 11 0 k (by rcases hk with rfl | rfl | rfl | rfl | rfl <;> rfl))
end NG
