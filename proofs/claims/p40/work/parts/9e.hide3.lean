/-! the pure part: hide, third part -/
section SA
variable {T M T' : Mem} {O : zSt} {κ : Nat → Int} {K : (Nat → Int) → Mem → Prop} {p1 p2 p3 p4 : Int}
theorem Iv.st2 {M' : Mem} (h : Iv T O κ M) (f11 : T' 11 = T 11) (eS : ∀ s : Nat, 12 ≤ s → s ≤ 23 → T' s = T s) (hG' : Good T') (hL' : zLk T') (hA' : Ag T' M') (hw' : zNW T') (fr : ∀ (s : Nat) (j k : Int), ((96 ≤ s ∧ s ≤ 102) ∨ (s = 11 ∧ (k = 54 ∨ k = 58 ∨ k = 30)) ∨ (j = 1 ∧ (s = 7 ∨ (38 ≤ s ∧ s ≤ 44))) ∨ s = 24 ∨ s = 27 ∨ s = 36 ∨ (77 ≤ s ∧ s ≤ 79) ∨ s = 4) → M' s j k = M s j k) (h10 : ¬ M' 10 0 10 = 0) : Iv T' O κ M' := by
  obtain ⟨hG, hL, hA, hO, hR, hK, hd, hp, hw, hb⟩ := h
  have hR' := hR.fr (N := M') (fun s j k a b => fr s j k (by omega)) (fr 11 0 54 (by omega)) (fr 11 0 58 (by omega))
  refine ⟨hG', hL', hA', ⟨hO.1, hO.2.1, hO.2.2.1, by rw [f11]; exact hO.2.2.2⟩, by unfold zOR at hR' ⊢; rw [f11]; exact hR', hK.fr (fun s k a => fr s 1 k (by omega)), fun z => absurd z h10, ⟨by rw [f11]; exact hp.1, fun s s0 s1 => ?_⟩, hw', hb.fr (by rw [f11]) (by rw [f11]) (by rw [f11]) (fr 11 0 30 (by omega)) (fr 4 0 7 (by omega)) (fun j k => fr 24 j k (by omega)) (fun j k => fr 27 j k (by omega)) (fun j k => fr 36 j k (by omega)) (fun k => fr 77 0 k (by omega)) (fun k => fr 78 0 k (by omega)) (fun k => fr 79 0 k (by omega))⟩
  rw [eS s (by omega) (by omega), eS (s + 6) (by omega) (by omega)]
  exact hp.2 s s0 s1
end SA
