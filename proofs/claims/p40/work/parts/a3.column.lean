/-! the class's calls as this law asks them: a column, a row, a cell -/
theorem kup_ge {g : List Nat} {κ : Nat → Int} {s N : Nat} (h : ∀ x ∈ g, x < N) (hs : N ≤ s) : kup g κ s = κ s := by
  unfold kup
  rw [if_neg (fun z => by have := h s z; omega)]
section NE
variable {T M : Mem} {O : zSt} {κ : Nat → Int} {p1 p2 p3 p4 : Int}
theorem n_column (h : Iv T O κ M) (a0 : 0 ≤ p1) (a2 : p1 ≤ 2) (b1 : 1 ≤ p2) (b60 : p2 ≤ 60) (n6 : T 11 0 4 < 6) (nR : T 11 0 8 = 0) {Xm : String → Mem → Prop} {Qf : Int → (Nat → Int) → Mem → Prop} (hK : ∀ T' O' κ' M', Iv T' O' κ' M' → zSm M M' → (∀ s : Nat, 104 ≤ s → κ' s = κ s) → T' 11 0 4 = T 11 0 4 + 1 → (∀ k, (k = 8 ∨ k = 15 ∨ k = 24 ∨ k = 25 ∨ k = 26) → T' 11 0 k = T 11 0 k) → (∀ k, T' 56 0 k = if k = T 11 0 4 then p1 else T 56 0 k) → (∀ k, T' 57 0 k = if k = T 11 0 4 then p2 else T 57 0 k) → (∀ s : Nat, 58 ≤ s → s ≤ 76 → T' s = T s) → Qf (T 11 0 4) κ' M') : wp_X9_column κ p1 p2 M Xm (fun r κ1 M1 => ∃ M2, Gh M1 M2 ∧ Qf r κ1 M2) := by
  have h' := h
  obtain ⟨hG, hL, hA, -, -, -, -, hp, hw, -⟩ := h
  have hC := hG.nC
  have e12 := hA.s12
  have e13 := hA.s13
  have f4 := hA.f4
  have f8 := hA.f8
  obtain ⟨n12, n13, n14⟩ := hL.n
  refine ⟨fun a => absurd a (by omega), fun _ => ⟨fun a => absurd a (by omega), fun _ => ⟨fun b => absurd b (by omega), fun _ => ⟨fun _ => ⟨fun n6 => ?_, fun n6 => ⟨fun hr => ?_, fun hr => ?_⟩⟩, fun b => absurd b (by omega)⟩⟩⟩⟩
  · rw [e12, n12] at n6
    omega
  · rw [e12, n12] at n6
    intro Mq mq
    obtain ⟨n, en⟩ : ∃ n, n = T 11 0 4 := ⟨_, rfl⟩
    have ek : κ 2 = n := by rw [en]; exact hp.1.2.1
    have l12 := hp.2 12 (by decide) (by decide)
    have q12 : Mq 12 0 (-1) = n := by rw [mq, up_s _ _ _ _ (by decide), e12, n12, en]
    unfold wp_addColumn
    rw [q12, ek]
    refine ⟨⟨by omega, ⟨by omega, by omega⟩⟩, fun Ma ma => ?_⟩
    have hAq : Ag T Mq := by rw [mq]; exact hA.up rfl
    have fa : ∀ (s : Nat) (j k : Int), ¬ ((s = 2 ∨ s = 27) ∧ j = n) → Ma s j k = Mq s j k := fun s j k z => by rw [ma]; exact M2_fr z
    have a12 : ∀ k, Ma 12 0 k = T 12 0 k := fun k => by rw [fa 12 0 k (by omega)]; exact hAq 12 0 k rfl
    have a18 : Ma (12 + 6) 0 (-1) = T 18 0 (-1) := by
      show Ma 18 0 (-1) = T 18 0 (-1)
      rw [fa 18 0 (-1) (by omega)]; exact hAq 18 0 (-1) rfl
    have l12b : 0 ≤ T 18 0 (-1) ∧ T 18 0 (-1) ≤ 150 := l12.2
    have hcap := capN_r (z := T 12 0 (-1)) (c := T 18 0 (-1)) (by omega) (by omega) l12b.1 l12b.2
    rw [a12, a12, a18]
    refine ⟨by rw [l12.1, n12]; exact ⟨by omega, by omega⟩, by omega, fun Mb mb => ⟨fun z => absurd z (by omega), fun _ => ⟨by omega, ?_⟩⟩⟩
    have fb : ∀ (s : Nat) (j k : Int), ¬ (s = 12 ∧ j = 0 ∧ (k = -1 ∨ k = -2 ∨ k = n)) → ¬ (s = 18 ∧ j = 0 ∧ k = -1) → Mb s j k = Ma s j k := fun s j k y z => by
      rw [mb]
      exact adM_fr (fun u v => by rw [a12, n12, ← en]; omega) (fun u v => by omega)
    dsimp only
    obtain ⟨F, eF⟩ : ∃ F, F = up (up (up (up Mb 33 0 n 1) 56 0 n p1) 57 0 n p2) 11 0 4 (n + 1) := ⟨_, rfl⟩
    have back2 : ∀ (s : Nat) (j k : Int), s ≠ 56 → s ≠ 57 → s ≠ 11 → s ≠ 33 → F s j k = Mb s j k := fun s j k u v w x => by
      rw [eF, up_s _ _ _ _ w, up_s _ _ _ _ v, up_s _ _ _ _ u, up_s _ _ _ _ x]
    have frF : Fj (zColQ n) M F := fun s j k z => by
      simp only [zColQ] at z
      rw [eF, up_at, if_neg (by omega), up_at, if_neg (by omega), up_at, if_neg (by omega), up_at, if_neg (by omega), fb s j k (by omega) (by omega), fa s j k (by omega), mq, up_at, if_neg (by omega)]
    have f56 : F 56 0 n = p1 := by rw [eF, up_s _ _ _ _ (by decide), up_s _ _ _ _ (by decide), up_eq]
    have f57 : F 57 0 n = p2 := by rw [eF, up_s _ _ _ _ (by decide), up_eq]
    have y3 : F 11 0 4 = n + 1 := by rw [eF, up_eq]
    have hIv : Iv F (zO9 M O) (kad (kup [2, 27] κ) (12 + 6)) F := by
      refine zcol_iv h' en (by omega) nR a0 a2 b1 b60 frF y3 ⟨?_, ?_, ?_⟩ (fun k => ?_) ⟨?_, ?_, ?_⟩ ?_ ?_ ?_ ?_ ?_ ⟨?_, ?_, ?_⟩
      · rw [back2 2 n 0 (by decide) (by decide) (by decide) (by decide), fb 2 n 0 (by omega) (by omega), ma]
        unfold M2
        rw [if_pos ⟨rfl, rfl⟩, if_pos rfl]
      · rw [back2 2 n 1 (by decide) (by decide) (by decide) (by decide), fb 2 n 1 (by omega) (by omega), ma]
        unfold M2
        rw [if_pos ⟨rfl, rfl⟩, if_neg (by decide), if_pos rfl]
      · rw [back2 2 n 3 (by decide) (by decide) (by decide) (by decide), fb 2 n 3 (by omega) (by omega), ma]
        unfold M2
        rw [if_pos ⟨rfl, rfl⟩, if_neg (by decide), if_neg (by decide)]
      · rw [back2 27 n k (by decide) (by decide) (by decide) (by decide), fb 27 n k (by omega) (by omega), ma]
        unfold M2
        rw [if_neg (by omega), if_pos ⟨rfl, rfl⟩]
      · rw [back2 12 0 (-1) (by decide) (by decide) (by decide) (by decide), mb, adM_n, a12, n12, en]
      · rw [back2 12 0 (-2) (by decide) (by decide) (by decide) (by decide), mb, adM_m, a12, l12.1, n12, en]
      · rw [back2 12 0 n (by decide) (by decide) (by decide) (by decide), mb, adM_e (by omega), a12, n12, if_pos en]
      · have : F 18 0 (-1) = capN (T 12 0 (-1)) (T 18 0 (-1)) := by
          rw [back2 18 0 (-1) (by decide) (by decide) (by decide) (by decide), mb]
          have := adM_c (M := Ma) (L := 12) (v := n)
          rw [a12, a18] at this
          exact this
        rw [this]; exact hcap
      · rw [eF, up_s _ _ _ _ (by decide), up_s _ _ _ _ (by decide), up_s _ _ _ _ (by decide), up_eq]
      · exact f56
      · exact f57
      · rw [back2 10 0 10 (by decide) (by decide) (by decide) (by decide), fb 10 0 10 (by omega) (by omega), fa 10 0 10 (by omega), mq, up_eq]
      · rfl
      · rfl
      · rfl
    have fin : ∀ (s : Nat) (k : Int), zin s k = true → ¬ zColQ n s 0 k → F s 0 k = T s 0 k := fun s k a b => (frF s 0 k b).trans (hA s 0 k a)
    refine ⟨F, by rw [eF]; exact ((Gh.rf.up (Or.inr ⟨by decide, by decide⟩) ⟨by omega, by omega⟩).up (Or.inr ⟨by decide, by decide⟩) ⟨by omega, by omega⟩).up (Or.inl rfl) ⟨by omega, by omega⟩, ?_⟩
    rw [show Qf n = Qf (T 11 0 4) from by rw [en]]
    refine hK F (zO9 M O) _ F hIv ⟨fun s hs => funext fun j => funext fun k => frF s j k (by unfold zColQ; omega), frF 11 0 30 (by unfold zColQ; omega)⟩ (fun s hs => ?_) (by rw [y3, en]) (fun k hk => ?_) (fun k => ?_) (fun k => ?_) (fun s s0 s1 => funext fun j => funext fun k => (frF s j k (by unfold zColQ; omega)).trans (hA s j k (by
      simp only [zin, Bool.or_eq_true, Bool.and_eq_true, decide_eq_true_eq]
      omega)))
    · unfold kad
      rw [if_neg (by omega)]
      exact kup_ge (N := 104) (by decide) hs
    · exact fin 11 k (by rcases hk with rfl | rfl | rfl | rfl | rfl <;> rfl) (by unfold zColQ; omega)
    · by_cases e : k = T 11 0 4
      · rw [if_pos e, e, ← en, f56]
      · rw [if_neg e]; exact fin 56 k rfl (by unfold zColQ; omega)
    · by_cases e : k = T 11 0 4
      · rw [if_pos e, e, ← en, f57]
      · rw [if_neg e]; exact fin 57 k rfl (by unfold zColQ; omega)
  · rw [e13, n13] at hr
    rw [if_pos nR] at hr
    exact absurd hr (by decide)
end NE
