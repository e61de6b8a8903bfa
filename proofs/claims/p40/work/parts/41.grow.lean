/-! more things: columns, rows, cells; what a list takes -/
def upA (α : Ax) (s : Nat) (j : Int) (q : Nat) : Ax := fun s' j' => if s' = s ∧ j' = j then q else α s' j'
theorem upA_eq (α : Ax) (s : Nat) (j : Int) (q : Nat) : upA α s j q s j = q := by simp [upA]
theorem upA_s (α : Ax) {s : Nat} (j : Int) (q : Nat) {s' : Nat} (h : s' ≠ s) (j' : Int) : upA α s j q s' j' = α s' j' := by simp [upA, h]
theorem upA_j (α : Ax) (s : Nat) {j : Int} (q : Nat) (s' : Nat) {j' : Int} (h : j' ≠ j) : upA α s j q s' j' = α s' j' := by simp [upA, h]
theorem kc_fin {v t0 : Nat} {l : List Nat} (hv : v ≠ 0) (h : ∀ t : Fin 118, kcode t = v → (t : Nat) ∈ l) {s : Nat} (e : kcode s = v) : s ∈ l := by
  by_cases hs : s < 118
  · exact h ⟨s, hs⟩ e
  · unfold kcode at e
    rw [List.getD_eq_getElem?_getD, List.getElem?_eq_none (by show 118 ≤ s; omega)] at e
    exact absurd e.symm hv
theorem kc_2 {s : Nat} (e : kcode s = 2) : s ∈ [24, 25, 26] := kc_fin (t0 := 0) (by decide) (by decide) e
theorem kc_3 {s : Nat} (e : kcode s = 3) : s ∈ [27] := kc_fin (t0 := 0) (by decide) (by decide) e
theorem kc_4 {s : Nat} (e : kcode s = 4) : s ∈ [36, 37] := kc_fin (t0 := 0) (by decide) (by decide) e
theorem lcl_3 (L : Nat) : lcl L = 2 ∨ lcl L = 1 ∨ lcl L = 6 := by
  unfold lcl
  split
  · exact Or.inl rfl
  · split
    · exact Or.inr (Or.inl rfl)
    · exact Or.inr (Or.inr rfl)
section GR
variable {G : Gx} {e0 : Nat} {α α' : Ax} {κ κ' : Nat → Int} {B : Nat} {M M' : Mem} {H H' : Heap}
theorem Rp.fold (hR : Rp G e0 α κ B M H) (hB : B ≤ H.size) (old : ∀ s j, s < NS → okk κ s j → α' s j = α s j ∧ ent G e0 α' M' s j = ent G e0 α M s j) (oq : ∀ x : Nat, x < H.size → H'[x]? = H[x]?)
    (new : ∀ s j, s < NS → okk κ' s j → ¬ okk κ s j → va_at G.1 vwCl (α' s j, ent G e0 α' M' s j) H' ∧ H.size ≤ α' s j)
    (inj : ∀ s j s' j', okk κ' s j → ¬ okk κ s j → okk κ' s' j' → ¬ okk κ s' j' → α' s j = α' s' j' → s = s' ∧ j = j')
    (hr : ∀ s j k, inR (M' s j k)) (hc : ∀ j, okk κ' 1 j → okk κ' 6 (M' 1 j 0)) (hl : ∀ L, 12 ≤ L → L < 24 → ∀ k, M' L 0 k = M L 0 k) (hk : ∀ s, κ s ≤ κ' s) (hk2 : ∀ s, 18 ≤ s → s < 24 → κ' s = κ s) : Rp G e0 α' κ' B M' H' := by
  obtain ⟨r1, r2, r3, r4, r5⟩ := hR
  refine ⟨fun s j hs ho => ?_, fun s j s' j' hs ho hs' ho' e => ?_, hr, hc, fun L a b => ?_⟩
  · by_cases q : okk κ s j
    · obtain ⟨e1, e2⟩ := old s j hs q
      rw [e1, e2]
      exact ⟨(r1 s j hs q).1.kept (oq _ (r1 s j hs q).1.lt), (r1 s j hs q).2⟩
    · exact ⟨(new s j hs ho q).1, Nat.le_trans hB (new s j hs ho q).2⟩
  · by_cases q : okk κ s j
    · by_cases q' : okk κ s' j'
      · rw [(old s j hs q).1, (old s' j' hs' q').1] at e
        exact r2 s j s' j' hs q hs' q' e
      · have h1 := (new s' j' hs' ho' q').2
        have h2 : α s j < H.size := (r1 s j hs q).1.lt
        rw [(old s j hs q).1] at e
        omega
    · by_cases q' : okk κ s' j'
      · have h1 := (new s j hs ho q).2
        have h2 : α s' j' < H.size := (r1 s' j' hs' q').1.lt
        rw [(old s' j' hs' q').1] at e
        omega
      · exact inj s j s' j' ho q ho' q' e
  · obtain ⟨a1, a2, a3, a4, a5⟩ := r5 L a b
    rw [hl L (by omega) (by omega), hl (L + 6) (by omega) (by omega), hk2 (L + 6) (by omega) (by omega)]
    refine ⟨a1, a2, a3, fun i i1 i2 => ?_, a5⟩
    rw [hl L (by omega) (by omega)]
    have h := a4 i i1 i2
    exact ⟨h.1, Int.lt_of_lt_of_le h.2 (hk _)⟩
def kup (g : List Nat) (κ : Nat → Int) : Nat → Int := fun s => if s ∈ g then κ s + 1 else κ s
theorem kup_le (g : List Nat) (κ : Nat → Int) (s : Nat) : κ s ≤ kup g κ s := by
  unfold kup
  split <;> omega
theorem kup_new {g : List Nat} {κ : Nat → Int} {s : Nat} {j : Int} (h : okk (kup g κ) s j) (h2 : ¬ okk κ s j) : s ∈ g ∧ j = κ s := by
  unfold kup at h
  by_cases e : s ∈ g
  · have := h.2
    simp only [if_pos e] at this
    exact ⟨e, Int.le_antisymm (by omega) (Int.not_lt.mp (fun z => h2 ⟨h.1, z⟩))⟩
  · have := h.2
    simp only [if_neg e] at this
    exact absurd ⟨h.1, this⟩ h2
theorem kOK_g2 (h : kOK κ) : kOK (kup [2, 27] κ) := by
  intro s
  by_cases e : s ∈ [2, 27]
  · have hs : s = 2 ∨ s = 27 := by simpa using e
    rcases hs with rfl | rfl
    · rfl
    · show κ 27 + 1 = κ 2 + 1
      rw [show κ 27 = κ 2 from h 27]
  · have h1 : kup [2, 27] κ s = κ s := if_neg e
    rw [h1, h s]
    unfold kst
    rw [h1]
    have k1 : κ 1 = kup [2, 27] κ 1 ∨ kcode s ≠ 2 := Or.inl rfl
    have k2 : κ 2 = kup [2, 27] κ 2 ∨ kcode s ≠ 3 := Or.inr (fun z => e (by have := kc_3 z; simp at this ⊢; omega))
    have k6 : κ 6 = kup [2, 27] κ 6 ∨ kcode s ≠ 4 := Or.inl rfl
    by_cases c2 : kcode s = 2
    · rw [← k1.resolve_right (fun z => z c2)]; simp [c2]
    · by_cases c3 : kcode s = 3
      · rw [← k2.resolve_right (fun z => z c3)]; simp [c3]
      · by_cases c4 : kcode s = 4
        · rw [← k6.resolve_right (fun z => z c4)]; simp [c4]
        · simp only [if_neg c2, if_neg c3, if_neg c4]
theorem obj_g2 {s : Nat} {j jn : Int} (hα : ∀ s' j', (s' ≠ 2 ∧ s' ≠ 27) ∨ j' ≠ jn → α' s' j' = α s' j') (hM : ∀ k, M' s j k = M s j k) (hj : s = 2 → j ≠ jn) : obj α' M' s j = obj α M s j := by
  have h1 : ∀ s' j', (s' ≠ 2 ∧ s' ≠ 27) → α' s' j' = α s' j' := fun s' j' h => hα s' j' (Or.inl h)
  unfold obj
  split
  · simp (disch := decide) only [hM, h1]
  · simp (disch := decide) only [hM, h1, hα 27 j (Or.inr (hj rfl))]
  · simp (disch := decide) only [hM, h1]
  · simp (disch := decide) only [hM, h1]
  · simp (disch := decide) only [hM, h1]
  · simp (disch := decide) only [hM, h1]
  · simp (disch := decide) only [hM, h1]
  · simp (disch := decide) only [hM, h1]
  · simp (disch := decide) only [hM, h1]
  · simp (disch := decide) only [hM, h1]
  · rfl
theorem ent_g2 {s : Nat} {j jn : Int} (hR : Rp G e0 α κ B M H) (hκ : kOK κ) (hα : ∀ s' j', (s' ≠ 2 ∧ s' ≠ 27) ∨ j' ≠ jn → α' s' j' = α s' j') (ho : okk κ s j) (hM : ∀ k, M' s j k = M s j k) (hl : ∀ L, 12 ≤ L → L < 24 → ∀ k, M' L 0 k = M L 0 k) (hjn : jn = κ 2) : ent G e0 α' M' s j = ent G e0 α M s j := by
  have h1 : ∀ s' j', (s' ≠ 2 ∧ s' ≠ 27) → α' s' j' = α s' j' := fun s' j' h => hα s' j' (Or.inl h)
  unfold ent
  split
  · exact obj_g2 hα hM (fun z => by rw [z] at ho; have := ho.2; omega)
  · rename_i q1
    split
    · rename_i q2
      simp only [hl s (by omega) (by omega), hl (s + 6) (by omega) (by omega), h1 (s + 6) 0 (by omega)]
    · rename_i q2
      split
      · rename_i q3
        have e : ∀ k : Nat, (if (k : Int) < M (s - 6) 0 (-1) then some (α' (lcl (s - 6)) (M (s - 6) 0 k)) else none) = (if (k : Int) < M (s - 6) 0 (-1) then some (α (lcl (s - 6)) (M (s - 6) 0 k)) else none) := fun k => by
          split
          · rename_i q4
            have hk := (hR.2.2.2.2 (s - 6) (by omega) (by omega)).2.2.2.1 k (by omega) q4
            by_cases q5 : lcl (s - 6) = 2
            · rw [hα _ _ (Or.inr (by rw [q5] at hk; have := hk.2; omega))]
            · rw [h1 _ _ (by rcases lcl_3 (s - 6) with z | z | z <;> rw [z] at q5 ⊢ <;> first | decide | exact absurd rfl q5)]
          · rfl
        simp only [hl s (by omega) (by omega), hl (s - 6) (by omega) (by omega), e]
      · simp only [hM]
theorem kOK_g1 (h : kOK κ) : kOK (kup [1, 24, 25, 26] κ) := by
  intro s
  by_cases e : s ∈ [1, 24, 25, 26]
  · have hs : s = 1 ∨ s = 24 ∨ s = 25 ∨ s = 26 := by simpa using e
    rcases hs with rfl | rfl | rfl | rfl
    · rfl
    · show κ 24 + 1 = κ 1 + 1
      rw [show κ 24 = κ 1 from h 24]
    · show κ 25 + 1 = κ 1 + 1
      rw [show κ 25 = κ 1 from h 25]
    · show κ 26 + 1 = κ 1 + 1
      rw [show κ 26 = κ 1 from h 26]
  · have h1 : kup [1, 24, 25, 26] κ s = κ s := if_neg e
    rw [h1, h s]
    unfold kst
    rw [h1]
    have k1 : κ 1 = kup [1, 24, 25, 26] κ 1 ∨ kcode s ≠ 2 := Or.inr (fun z => e (by have := kc_2 z; simp at this ⊢; omega))
    have k2 : κ 2 = kup [1, 24, 25, 26] κ 2 ∨ kcode s ≠ 3 := Or.inl rfl
    have k6 : κ 6 = kup [1, 24, 25, 26] κ 6 ∨ kcode s ≠ 4 := Or.inl rfl
    by_cases c2 : kcode s = 2
    · rw [← k1.resolve_right (fun z => z c2)]; simp [c2]
    · by_cases c3 : kcode s = 3
      · rw [← k2.resolve_right (fun z => z c3)]; simp [c3]
      · by_cases c4 : kcode s = 4
        · rw [← k6.resolve_right (fun z => z c4)]; simp [c4]
        · simp only [if_neg c2, if_neg c3, if_neg c4]
theorem obj_g1 {s : Nat} {j jn : Int} (hα : ∀ s' j', (s' ≠ 1 ∧ s' ≠ 24 ∧ s' ≠ 25 ∧ s' ≠ 26) ∨ j' ≠ jn → α' s' j' = α s' j') (hM : ∀ k, M' s j k = M s j k) (hj : s = 1 → j ≠ jn) : obj α' M' s j = obj α M s j := by
  have h1 : ∀ s' j', (s' ≠ 1 ∧ s' ≠ 24 ∧ s' ≠ 25 ∧ s' ≠ 26) → α' s' j' = α s' j' := fun s' j' h => hα s' j' (Or.inl h)
  unfold obj
  split
  · simp (disch := decide) only [hM, h1, hα 24 j (Or.inr (hj rfl)), hα 25 j (Or.inr (hj rfl)), hα 26 j (Or.inr (hj rfl))]
  · simp (disch := decide) only [hM, h1]
  · simp (disch := decide) only [hM, h1]
  · simp (disch := decide) only [hM, h1]
  · simp (disch := decide) only [hM, h1]
  · simp (disch := decide) only [hM, h1]
  · simp (disch := decide) only [hM, h1]
  · simp (disch := decide) only [hM, h1]
  · simp (disch := decide) only [hM, h1]
  · simp (disch := decide) only [hM, h1]
  · rfl
theorem ent_g1 {s : Nat} {j jn : Int} (hR : Rp G e0 α κ B M H) (hκ : kOK κ) (hα : ∀ s' j', (s' ≠ 1 ∧ s' ≠ 24 ∧ s' ≠ 25 ∧ s' ≠ 26) ∨ j' ≠ jn → α' s' j' = α s' j') (ho : okk κ s j) (hM : ∀ k, M' s j k = M s j k) (hl : ∀ L, 12 ≤ L → L < 24 → ∀ k, M' L 0 k = M L 0 k) (hjn : jn = κ 1) : ent G e0 α' M' s j = ent G e0 α M s j := by
  have h1 : ∀ s' j', (s' ≠ 1 ∧ s' ≠ 24 ∧ s' ≠ 25 ∧ s' ≠ 26) → α' s' j' = α s' j' := fun s' j' h => hα s' j' (Or.inl h)
  unfold ent
  split
  · exact obj_g1 hα hM (fun z => by rw [z] at ho; have := ho.2; omega)
  · rename_i q1
    split
    · rename_i q2
      simp only [hl s (by omega) (by omega), hl (s + 6) (by omega) (by omega), h1 (s + 6) 0 (by omega)]
    · rename_i q2
      split
      · rename_i q3
        have e : ∀ k : Nat, (if (k : Int) < M (s - 6) 0 (-1) then some (α' (lcl (s - 6)) (M (s - 6) 0 k)) else none) = (if (k : Int) < M (s - 6) 0 (-1) then some (α (lcl (s - 6)) (M (s - 6) 0 k)) else none) := fun k => by
          split
          · rename_i q4
            have hk := (hR.2.2.2.2 (s - 6) (by omega) (by omega)).2.2.2.1 k (by omega) q4
            by_cases q5 : lcl (s - 6) = 1
            · rw [hα _ _ (Or.inr (by rw [q5] at hk; have := hk.2; omega))]
            · rw [h1 _ _ (by rcases lcl_3 (s - 6) with z | z | z <;> rw [z] at q5 ⊢ <;> first | decide | exact absurd rfl q5)]
          · rfl
        simp only [hl s (by omega) (by omega), hl (s - 6) (by omega) (by omega), e]
      · simp only [hM]
theorem kOK_g6 (h : kOK κ) : kOK (kup [6, 36, 37] κ) := by
  intro s
  by_cases e : s ∈ [6, 36, 37]
  · have hs : s = 6 ∨ s = 36 ∨ s = 37 := by simpa using e
    rcases hs with rfl | rfl | rfl
    · rfl
    · show κ 36 + 1 = κ 6 + 1
      rw [show κ 36 = κ 6 from h 36]
    · show κ 37 + 1 = κ 6 + 1
      rw [show κ 37 = κ 6 from h 37]
  · have h1 : kup [6, 36, 37] κ s = κ s := if_neg e
    rw [h1, h s]
    unfold kst
    rw [h1]
    have k1 : κ 1 = kup [6, 36, 37] κ 1 ∨ kcode s ≠ 2 := Or.inl rfl
    have k2 : κ 2 = kup [6, 36, 37] κ 2 ∨ kcode s ≠ 3 := Or.inl rfl
    have k6 : κ 6 = kup [6, 36, 37] κ 6 ∨ kcode s ≠ 4 := Or.inr (fun z => e (by have := kc_4 z; simp at this ⊢; omega))
    by_cases c2 : kcode s = 2
    · rw [← k1.resolve_right (fun z => z c2)]; simp [c2]
    · by_cases c3 : kcode s = 3
      · rw [← k2.resolve_right (fun z => z c3)]; simp [c3]
      · by_cases c4 : kcode s = 4
        · rw [← k6.resolve_right (fun z => z c4)]; simp [c4]
        · simp only [if_neg c2, if_neg c3, if_neg c4]
theorem obj_g6 {s : Nat} {j jn : Int} (hα : ∀ s' j', (s' ≠ 6 ∧ s' ≠ 36 ∧ s' ≠ 37) ∨ j' ≠ jn → α' s' j' = α s' j') (hM : ∀ k, M' s j k = M s j k) (hj : s = 6 → j ≠ jn) (h6 : s = 1 → M 1 j 0 ≠ jn) : obj α' M' s j = obj α M s j := by
  have h1 : ∀ s' j', (s' ≠ 6 ∧ s' ≠ 36 ∧ s' ≠ 37) → α' s' j' = α s' j' := fun s' j' h => hα s' j' (Or.inl h)
  unfold obj
  split
  · simp (disch := decide) only [hM, h1, hα 6 _ (Or.inr (h6 rfl))]
  · simp (disch := decide) only [hM, h1]
  · simp (disch := decide) only [hM, h1]
  · simp (disch := decide) only [hM, h1]
  · simp (disch := decide) only [hM, h1]
  · simp (disch := decide) only [hM, h1, hα 36 j (Or.inr (hj rfl)), hα 37 j (Or.inr (hj rfl))]
  · simp (disch := decide) only [hM, h1]
  · simp (disch := decide) only [hM, h1]
  · simp (disch := decide) only [hM, h1]
  · simp (disch := decide) only [hM, h1]
  · rfl
theorem ent_g6 {s : Nat} {j jn : Int} (hR : Rp G e0 α κ B M H) (hκ : kOK κ) (hα : ∀ s' j', (s' ≠ 6 ∧ s' ≠ 36 ∧ s' ≠ 37) ∨ j' ≠ jn → α' s' j' = α s' j') (ho : okk κ s j) (hM : ∀ k, M' s j k = M s j k) (hl : ∀ L, 12 ≤ L → L < 24 → ∀ k, M' L 0 k = M L 0 k) (hjn : jn = κ 6) : ent G e0 α' M' s j = ent G e0 α M s j := by
  have h1 : ∀ s' j', (s' ≠ 6 ∧ s' ≠ 36 ∧ s' ≠ 37) → α' s' j' = α s' j' := fun s' j' h => hα s' j' (Or.inl h)
  unfold ent
  split
  · exact obj_g6 hα hM (fun z => by rw [z] at ho; have := ho.2; omega) (fun z => by rw [z] at ho; have := (hR.2.2.2.1 j ho).2; omega)
  · rename_i q1
    split
    · rename_i q2
      simp only [hl s (by omega) (by omega), hl (s + 6) (by omega) (by omega), h1 (s + 6) 0 (by omega)]
    · rename_i q2
      split
      · rename_i q3
        have e : ∀ k : Nat, (if (k : Int) < M (s - 6) 0 (-1) then some (α' (lcl (s - 6)) (M (s - 6) 0 k)) else none) = (if (k : Int) < M (s - 6) 0 (-1) then some (α (lcl (s - 6)) (M (s - 6) 0 k)) else none) := fun k => by
          split
          · rename_i q4
            have hk := (hR.2.2.2.2 (s - 6) (by omega) (by omega)).2.2.2.1 k (by omega) q4
            by_cases q5 : lcl (s - 6) = 6
            · rw [hα _ _ (Or.inr (by rw [q5] at hk; have := hk.2; omega))]
            · rw [h1 _ _ (by rcases lcl_3 (s - 6) with z | z | z <;> rw [z] at q5 ⊢ <;> first | decide | exact absurd rfl q5)]
          · rfl
        simp only [hl s (by omega) (by omega), hl (s - 6) (by omega) (by omega), e]
      · simp only [hM]
def M2 (M : Mem) (jn : Int) (p1 : Int) (p2 : Int) : Mem := fun s j k => if s = 2 ∧ j = jn then (if k = 0 then p1 else if k = 1 then p2 else 0) else if s = 27 ∧ j = jn then 0 else M s j k
theorem M2_r {jn : Int} {p1 p2 : Int} (hM : ∀ s j k, inR (M s j k)) (hp1 : inR p1) (hp2 : inR p2) (s : Nat) (j k : Int) : inR (M2 M jn p1 p2 s j k) := by
  unfold M2
  repeat' split
  all_goals first | assumption | exact hM _ _ _ | exact ⟨by decide, by decide⟩
theorem M2_o {jn : Int} {p1 p2 : Int} {s : Nat} {j : Int} (h : (s ≠ 2 ∧ s ≠ 27) ∨ j ≠ jn) (k : Int) : M2 M jn p1 p2 s j k = M s j k := by
  unfold M2
  have hx : ∀ t : Nat, t ∈ [2, 27] → ¬ (s = t ∧ j = jn) := fun t ht z => by
    rcases h with h | h
    · rw [z.1] at h; simp at ht; omega
    · exact h z.2
  rw [if_neg (hx 2 (by decide)), if_neg (hx 27 (by decide))]
theorem Rp.new2 {p1 p2 : Int} {w q1 : Nat} (hκ : kOK κ) (hR : Rp G e0 α κ B M H) (hB : B ≤ H.size) (hp1 : inR p1) (hp2 : inR p2) (hP : va_P G.1 vwCl [(w, .inr (2, [.int (Int32.ofInt p1), .int (Int32.ofInt p2), .ref q1, .int 0])), (q1, .inl (G.2.1, 4, .inl (fun _ => 0)))] H') (bw : H.size ≤ w) (bq1 : H.size ≤ q1) (hwq1 : w ≠ q1) (oq : ∀ x : Nat, x < H.size → H'[x]? = H[x]?) :
    Rp G e0 (upA (upA α 2 (κ 2) w) 27 (κ 2) q1) (kup [2, 27] κ) B (M2 M (κ 2) p1 p2) H' ∧ kOK (kup [2, 27] κ) := by
  refine ⟨?_, kOK_g2 hκ⟩
  have k27 : κ 27 = κ 2 := hκ 27
  have a2 : (upA (upA α 2 (κ 2) w) 27 (κ 2) q1) 2 (κ 2) = w := by
    rw [upA_s _ _ _ (by decide), upA_eq]
  have a27 : (upA (upA α 2 (κ 2) w) 27 (κ 2) q1) 27 (κ 2) = q1 := by
    rw [upA_eq]
  have hα : ∀ s' j', (s' ≠ 2 ∧ s' ≠ 27) ∨ j' ≠ κ 2 → (upA (upA α 2 (κ 2) w) 27 (κ 2) q1) s' j' = α s' j' := fun s' j' h => by
    rcases h with h | h
    · obtain ⟨n2, n27⟩ := h
      rw [upA_s _ _ _ n27, upA_s _ _ _ n2]
    · rw [upA_j _ _ _ _ h, upA_j _ _ _ _ h]
  have hl : ∀ L, 12 ≤ L → L < 24 → ∀ k, (M2 M (κ 2) p1 p2) L 0 k = M L 0 k := fun L b1 b2 k => M2_o (Or.inl (by omega)) k
  have hn : ∀ s j, okk (kup [2, 27] κ) s j → ¬ okk κ s j → (s = 2 ∧ j = κ 2) ∨ (s = 27 ∧ j = κ 2) := fun s j h1 h2 => by
    obtain ⟨z1, z2⟩ := kup_new h1 h2
    simp only [List.mem_cons, List.not_mem_nil, or_false] at z1
    rcases z1 with rfl | rfl <;> simp_all
  have hoj : ∀ s j, okk κ s j → (s ≠ 2 ∧ s ≠ 27) ∨ j ≠ κ 2 := fun s j ho => by
    by_cases z : s ≠ 2 ∧ s ≠ 27
    · exact Or.inl z
    · refine Or.inr (fun y => ?_)
      have hs : s = 2 ∨ s = 27 := by omega
      have := ho.2
      rcases hs with rfl | rfl <;> omega
  refine hR.fold hB (fun s j hs ho => ⟨hα s j (hoj s j ho), ent_g2 hR hκ hα ho (fun k => M2_o (hoj s j ho) k) hl rfl⟩) oq (fun s j hs h1 h2 => ?_) (fun s j s' j' h1 h2 h1' h2' e => ?_) (fun s j k => M2_r hR.r hp1 hp2 s j k) (fun j ho => ?_) hl (kup_le _ κ) (fun s b1 b2 => if_neg (by simp; omega))
  · rcases hn s j h1 h2 with ⟨rfl, rfl⟩ | ⟨rfl, rfl⟩
    · rw [a2]
      refine ⟨?_, bw⟩
      have he : ent G e0 (upA (upA α 2 (κ 2) w) 27 (κ 2) q1) (M2 M (κ 2) p1 p2) 2 (κ 2) = .inr (2, [.int (Int32.ofInt p1), .int (Int32.ofInt p2), .ref q1, .int 0]) := by
        show obj (upA (upA α 2 (κ 2) w) 27 (κ 2) q1) (M2 M (κ 2) p1 p2) 2 (κ 2) = _
        unfold obj
        simp only [a27]
        simp [M2]
      rw [he]
      exact hP 0 _ rfl
    · rw [a27]
      refine ⟨?_, bq1⟩
      rw [ent_i (by decide) rfl]
      have hf : (fun k : Nat => Int32.ofInt ((M2 M (κ 2) p1 p2) 27 (κ 2) k)) = fun _ => 0 := by
        funext k
        simp [M2]
      rw [hf]
      exact hP 1 _ rfl
  · rcases hn s j h1 h2 with ⟨rfl, rfl⟩ | ⟨rfl, rfl⟩ <;> rcases hn s' j' h1' h2' with ⟨rfl, rfl⟩ | ⟨rfl, rfl⟩
    · exact ⟨rfl, rfl⟩
    · rw [a2, a27] at e; exact absurd e hwq1
    · rw [a27, a2] at e; exact absurd e.symm hwq1
    · exact ⟨rfl, rfl⟩
  · rw [M2_o (Or.inl (by decide))]
    have z := hR.2.2.2.1 j ho
    exact ⟨z.1, Int.lt_of_lt_of_le z.2 (kup_le _ κ 6)⟩
def M6 (M : Mem) (jn : Int) (p1 : Int) (p2 : Int) (p3 : Int) (p4 : Int) : Mem := fun s j k => if s = 6 ∧ j = jn then (if k = 0 then p1 else if k = 1 then p2 else if k = 2 then p3 else if k = 3 then p4 else 0) else if s = 36 ∧ j = jn then 0 else if s = 37 ∧ j = jn then (if 0 ≤ k ∧ k < 6 then -1 else 0) else M s j k
theorem M6_r {jn : Int} {p1 p2 p3 p4 : Int} (hM : ∀ s j k, inR (M s j k)) (hp1 : inR p1) (hp2 : inR p2) (hp3 : inR p3) (hp4 : inR p4) (s : Nat) (j k : Int) : inR (M6 M jn p1 p2 p3 p4 s j k) := by
  unfold M6
  repeat' split
  all_goals first | assumption | exact hM _ _ _ | exact ⟨by decide, by decide⟩
theorem M6_o {jn : Int} {p1 p2 p3 p4 : Int} {s : Nat} {j : Int} (h : (s ≠ 6 ∧ s ≠ 36 ∧ s ≠ 37) ∨ j ≠ jn) (k : Int) : M6 M jn p1 p2 p3 p4 s j k = M s j k := by
  unfold M6
  have hx : ∀ t : Nat, t ∈ [6, 36, 37] → ¬ (s = t ∧ j = jn) := fun t ht z => by
    rcases h with h | h
    · rw [z.1] at h; simp at ht; omega
    · exact h z.2
  rw [if_neg (hx 6 (by decide)), if_neg (hx 36 (by decide)), if_neg (hx 37 (by decide))]
theorem Rp.new6 {p1 p2 p3 p4 : Int} {w q1 q2 : Nat} (hκ : kOK κ) (hR : Rp G e0 α κ B M H) (hB : B ≤ H.size) (hp1 : inR p1) (hp2 : inR p2) (hp3 : inR p3) (hp4 : inR p4) (hP : va_P G.1 vwCl [(w, .inr (6, [.int (Int32.ofInt p1), .int (Int32.ofInt p2), .int (Int32.ofInt p3), .int (Int32.ofInt p4), .ref q1, .ref q2, .int 0])), (q1, .inl (G.2.1, 4, .inl (fun _ => 0))), (q2, .inl (G.2.1, 6, .inl (fun k => if k < 6 then Int32.ofInt (-1) else 0)))] H') (bw : H.size ≤ w) (bq1 : H.size ≤ q1) (bq2 : H.size ≤ q2) (hwq1 : w ≠ q1) (hwq2 : w ≠ q2) (hq1q2 : q1 ≠ q2) (oq : ∀ x : Nat, x < H.size → H'[x]? = H[x]?) :
    Rp G e0 (upA (upA (upA α 6 (κ 6) w) 36 (κ 6) q1) 37 (κ 6) q2) (kup [6, 36, 37] κ) B (M6 M (κ 6) p1 p2 p3 p4) H' ∧ kOK (kup [6, 36, 37] κ) := by
  refine ⟨?_, kOK_g6 hκ⟩
  have k36 : κ 36 = κ 6 := hκ 36
  have k37 : κ 37 = κ 6 := hκ 37
  have a6 : (upA (upA (upA α 6 (κ 6) w) 36 (κ 6) q1) 37 (κ 6) q2) 6 (κ 6) = w := by
    rw [upA_s _ _ _ (by decide), upA_s _ _ _ (by decide), upA_eq]
  have a36 : (upA (upA (upA α 6 (κ 6) w) 36 (κ 6) q1) 37 (κ 6) q2) 36 (κ 6) = q1 := by
    rw [upA_s _ _ _ (by decide), upA_eq]
  have a37 : (upA (upA (upA α 6 (κ 6) w) 36 (κ 6) q1) 37 (κ 6) q2) 37 (κ 6) = q2 := by
    rw [upA_eq]
  have hα : ∀ s' j', (s' ≠ 6 ∧ s' ≠ 36 ∧ s' ≠ 37) ∨ j' ≠ κ 6 → (upA (upA (upA α 6 (κ 6) w) 36 (κ 6) q1) 37 (κ 6) q2) s' j' = α s' j' := fun s' j' h => by
    rcases h with h | h
    · obtain ⟨n6, n36, n37⟩ := h
      rw [upA_s _ _ _ n37, upA_s _ _ _ n36, upA_s _ _ _ n6]
    · rw [upA_j _ _ _ _ h, upA_j _ _ _ _ h, upA_j _ _ _ _ h]
  have hl : ∀ L, 12 ≤ L → L < 24 → ∀ k, (M6 M (κ 6) p1 p2 p3 p4) L 0 k = M L 0 k := fun L b1 b2 k => M6_o (Or.inl (by omega)) k
  have hn : ∀ s j, okk (kup [6, 36, 37] κ) s j → ¬ okk κ s j → (s = 6 ∧ j = κ 6) ∨ (s = 36 ∧ j = κ 6) ∨ (s = 37 ∧ j = κ 6) := fun s j h1 h2 => by
    obtain ⟨z1, z2⟩ := kup_new h1 h2
    simp only [List.mem_cons, List.not_mem_nil, or_false] at z1
    rcases z1 with rfl | rfl | rfl <;> simp_all
  have hoj : ∀ s j, okk κ s j → (s ≠ 6 ∧ s ≠ 36 ∧ s ≠ 37) ∨ j ≠ κ 6 := fun s j ho => by
    by_cases z : s ≠ 6 ∧ s ≠ 36 ∧ s ≠ 37
    · exact Or.inl z
    · refine Or.inr (fun y => ?_)
      have hs : s = 6 ∨ s = 36 ∨ s = 37 := by omega
      have := ho.2
      rcases hs with rfl | rfl | rfl <;> omega
  refine hR.fold hB (fun s j hs ho => ⟨hα s j (hoj s j ho), ent_g6 hR hκ hα ho (fun k => M6_o (hoj s j ho) k) hl rfl⟩) oq (fun s j hs h1 h2 => ?_) (fun s j s' j' h1 h2 h1' h2' e => ?_) (fun s j k => M6_r hR.r hp1 hp2 hp3 hp4 s j k) (fun j ho => ?_) hl (kup_le _ κ) (fun s b1 b2 => if_neg (by simp; omega))
  · rcases hn s j h1 h2 with ⟨rfl, rfl⟩ | ⟨rfl, rfl⟩ | ⟨rfl, rfl⟩
    · rw [a6]
      refine ⟨?_, bw⟩
      have he : ent G e0 (upA (upA (upA α 6 (κ 6) w) 36 (κ 6) q1) 37 (κ 6) q2) (M6 M (κ 6) p1 p2 p3 p4) 6 (κ 6) = .inr (6, [.int (Int32.ofInt p1), .int (Int32.ofInt p2), .int (Int32.ofInt p3), .int (Int32.ofInt p4), .ref q1, .ref q2, .int 0]) := by
        show obj (upA (upA (upA α 6 (κ 6) w) 36 (κ 6) q1) 37 (κ 6) q2) (M6 M (κ 6) p1 p2 p3 p4) 6 (κ 6) = _
        unfold obj
        simp only [a36, a37]
        simp [M6]
      rw [he]
      exact hP 0 _ rfl
    · rw [a36]
      refine ⟨?_, bq1⟩
      rw [ent_i (by decide) rfl]
      have hf : (fun k : Nat => Int32.ofInt ((M6 M (κ 6) p1 p2 p3 p4) 36 (κ 6) k)) = fun _ => 0 := by
        funext k
        simp [M6]
      rw [hf]
      exact hP 1 _ rfl
    · rw [a37]
      refine ⟨?_, bq2⟩
      rw [ent_i (by decide) rfl]
      have hf : (fun k : Nat => Int32.ofInt ((M6 M (κ 6) p1 p2 p3 p4) 37 (κ 6) k)) = fun k => if k < 6 then Int32.ofInt (-1) else 0 := by
        funext k
        have e1 : (M6 M (κ 6) p1 p2 p3 p4) 37 (κ 6) (k : Int) = (if 0 ≤ (k : Int) ∧ (k : Int) < 6 then -1 else 0) := by
          unfold M6
          rw [if_neg (by simp), if_neg (by simp), if_pos ⟨rfl, rfl⟩]
        by_cases hk : k < 6
        · rw [e1, if_pos hk, if_pos ⟨by omega, by omega⟩]
        · rw [e1, if_neg hk, if_neg (by omega)]; rfl
      rw [hf]
      exact hP 2 _ rfl
  · rcases hn s j h1 h2 with ⟨rfl, rfl⟩ | ⟨rfl, rfl⟩ | ⟨rfl, rfl⟩ <;> rcases hn s' j' h1' h2' with ⟨rfl, rfl⟩ | ⟨rfl, rfl⟩ | ⟨rfl, rfl⟩
    · exact ⟨rfl, rfl⟩
    · rw [a6, a36] at e; exact absurd e hwq1
    · rw [a6, a37] at e; exact absurd e hwq2
    · rw [a36, a6] at e; exact absurd e.symm hwq1
    · exact ⟨rfl, rfl⟩
    · rw [a36, a37] at e; exact absurd e hq1q2
    · rw [a37, a6] at e; exact absurd e.symm hwq2
    · rw [a37, a36] at e; exact absurd e.symm hq1q2
    · exact ⟨rfl, rfl⟩
  · rw [M6_o (Or.inl (by decide))]
    have z := hR.2.2.2.1 j ho
    exact ⟨z.1, Int.lt_of_lt_of_le z.2 (kup_le _ κ 6)⟩
def M1 (M : Mem) (jn : Int) (r : Int) (p2 : Int) (p3 : Int) (p4 : Int) : Mem := fun s j k => if s = 1 ∧ j = jn then (if k = 0 then r else if k = 1 then p2 else if k = 2 then p3 else if k = 3 then p4 else 0) else if s = 24 ∧ j = jn then 0 else if s = 25 ∧ j = jn then 0 else if s = 26 ∧ j = jn then 0 else M s j k
theorem M1_r {jn : Int} {r p2 p3 p4 : Int} (hM : ∀ s j k, inR (M s j k)) (hr : inR r) (hp2 : inR p2) (hp3 : inR p3) (hp4 : inR p4) (s : Nat) (j k : Int) : inR (M1 M jn r p2 p3 p4 s j k) := by
  unfold M1
  repeat' split
  all_goals first | assumption | exact hM _ _ _ | exact ⟨by decide, by decide⟩
theorem M1_o {jn : Int} {r p2 p3 p4 : Int} {s : Nat} {j : Int} (h : (s ≠ 1 ∧ s ≠ 24 ∧ s ≠ 25 ∧ s ≠ 26) ∨ j ≠ jn) (k : Int) : M1 M jn r p2 p3 p4 s j k = M s j k := by
  unfold M1
  have hx : ∀ t : Nat, t ∈ [1, 24, 25, 26] → ¬ (s = t ∧ j = jn) := fun t ht z => by
    rcases h with h | h
    · rw [z.1] at h; simp at ht; omega
    · exact h z.2
  rw [if_neg (hx 1 (by decide)), if_neg (hx 24 (by decide)), if_neg (hx 25 (by decide)), if_neg (hx 26 (by decide))]
theorem Rp.new1 {r p2 p3 p4 : Int} {w q1 q2 q3 : Nat} (hκ : kOK κ) (hR : Rp G e0 α κ B M H) (hB : B ≤ H.size) (hr : inR r) (hp2 : inR p2) (hp3 : inR p3) (hp4 : inR p4) (hrow : okk (kup [1, 24, 25, 26] κ) 6 r) (hP : va_P G.1 vwCl [(w, .inr (1, [.ref (α 6 r), .int (Int32.ofInt p2), .int (Int32.ofInt p3), .int (Int32.ofInt p4), .ref q1, .ref q2, .ref q3, .int 0, .int 0, .int 0, .int 0, .int 0, .int 0])), (q1, .inl (G.2.1, 4, .inl (fun _ => 0))), (q2, .inl (G.2.1, 12, .inl (fun _ => 0))), (q3, .inl (G.2.1, 12, .inl (fun _ => 0)))] H') (bw : H.size ≤ w) (bq1 : H.size ≤ q1) (bq2 : H.size ≤ q2) (bq3 : H.size ≤ q3) (hwq1 : w ≠ q1) (hwq2 : w ≠ q2) (hwq3 : w ≠ q3) (hq1q2 : q1 ≠ q2) (hq1q3 : q1 ≠ q3) (hq2q3 : q2 ≠ q3) (oq : ∀ x : Nat, x < H.size → H'[x]? = H[x]?) :
    Rp G e0 (upA (upA (upA (upA α 1 (κ 1) w) 24 (κ 1) q1) 25 (κ 1) q2) 26 (κ 1) q3) (kup [1, 24, 25, 26] κ) B (M1 M (κ 1) r p2 p3 p4) H' ∧ kOK (kup [1, 24, 25, 26] κ) := by
  refine ⟨?_, kOK_g1 hκ⟩
  have k24 : κ 24 = κ 1 := hκ 24
  have k25 : κ 25 = κ 1 := hκ 25
  have k26 : κ 26 = κ 1 := hκ 26
  have a1 : (upA (upA (upA (upA α 1 (κ 1) w) 24 (κ 1) q1) 25 (κ 1) q2) 26 (κ 1) q3) 1 (κ 1) = w := by
    rw [upA_s _ _ _ (by decide), upA_s _ _ _ (by decide), upA_s _ _ _ (by decide), upA_eq]
  have a24 : (upA (upA (upA (upA α 1 (κ 1) w) 24 (κ 1) q1) 25 (κ 1) q2) 26 (κ 1) q3) 24 (κ 1) = q1 := by
    rw [upA_s _ _ _ (by decide), upA_s _ _ _ (by decide), upA_eq]
  have a25 : (upA (upA (upA (upA α 1 (κ 1) w) 24 (κ 1) q1) 25 (κ 1) q2) 26 (κ 1) q3) 25 (κ 1) = q2 := by
    rw [upA_s _ _ _ (by decide), upA_eq]
  have a26 : (upA (upA (upA (upA α 1 (κ 1) w) 24 (κ 1) q1) 25 (κ 1) q2) 26 (κ 1) q3) 26 (κ 1) = q3 := by
    rw [upA_eq]
  have hα : ∀ s' j', (s' ≠ 1 ∧ s' ≠ 24 ∧ s' ≠ 25 ∧ s' ≠ 26) ∨ j' ≠ κ 1 → (upA (upA (upA (upA α 1 (κ 1) w) 24 (κ 1) q1) 25 (κ 1) q2) 26 (κ 1) q3) s' j' = α s' j' := fun s' j' h => by
    rcases h with h | h
    · obtain ⟨n1, n24, n25, n26⟩ := h
      rw [upA_s _ _ _ n26, upA_s _ _ _ n25, upA_s _ _ _ n24, upA_s _ _ _ n1]
    · rw [upA_j _ _ _ _ h, upA_j _ _ _ _ h, upA_j _ _ _ _ h, upA_j _ _ _ _ h]
  have hl : ∀ L, 12 ≤ L → L < 24 → ∀ k, (M1 M (κ 1) r p2 p3 p4) L 0 k = M L 0 k := fun L b1 b2 k => M1_o (Or.inl (by omega)) k
  have hn : ∀ s j, okk (kup [1, 24, 25, 26] κ) s j → ¬ okk κ s j → (s = 1 ∧ j = κ 1) ∨ (s = 24 ∧ j = κ 1) ∨ (s = 25 ∧ j = κ 1) ∨ (s = 26 ∧ j = κ 1) := fun s j h1 h2 => by
    obtain ⟨z1, z2⟩ := kup_new h1 h2
    simp only [List.mem_cons, List.not_mem_nil, or_false] at z1
    rcases z1 with rfl | rfl | rfl | rfl <;> simp_all
  have hoj : ∀ s j, okk κ s j → (s ≠ 1 ∧ s ≠ 24 ∧ s ≠ 25 ∧ s ≠ 26) ∨ j ≠ κ 1 := fun s j ho => by
    by_cases z : s ≠ 1 ∧ s ≠ 24 ∧ s ≠ 25 ∧ s ≠ 26
    · exact Or.inl z
    · refine Or.inr (fun y => ?_)
      have hs : s = 1 ∨ s = 24 ∨ s = 25 ∨ s = 26 := by omega
      have := ho.2
      rcases hs with rfl | rfl | rfl | rfl <;> omega
  refine hR.fold hB (fun s j hs ho => ⟨hα s j (hoj s j ho), ent_g1 hR hκ hα ho (fun k => M1_o (hoj s j ho) k) hl rfl⟩) oq (fun s j hs h1 h2 => ?_) (fun s j s' j' h1 h2 h1' h2' e => ?_) (fun s j k => M1_r hR.r hr hp2 hp3 hp4 s j k) (fun j ho => ?_) hl (kup_le _ κ) (fun s b1 b2 => if_neg (by simp; omega))
  · rcases hn s j h1 h2 with ⟨rfl, rfl⟩ | ⟨rfl, rfl⟩ | ⟨rfl, rfl⟩ | ⟨rfl, rfl⟩
    · rw [a1]
      refine ⟨?_, bw⟩
      have he : ent G e0 (upA (upA (upA (upA α 1 (κ 1) w) 24 (κ 1) q1) 25 (κ 1) q2) 26 (κ 1) q3) (M1 M (κ 1) r p2 p3 p4) 1 (κ 1) = .inr (1, [.ref (α 6 r), .int (Int32.ofInt p2), .int (Int32.ofInt p3), .int (Int32.ofInt p4), .ref q1, .ref q2, .ref q3, .int 0, .int 0, .int 0, .int 0, .int 0, .int 0]) := by
        show obj (upA (upA (upA (upA α 1 (κ 1) w) 24 (κ 1) q1) 25 (κ 1) q2) 26 (κ 1) q3) (M1 M (κ 1) r p2 p3 p4) 1 (κ 1) = _
        unfold obj
        simp only [a24, a25, a26, hα 6 _ (Or.inl (by decide))]
        simp [M1]
      rw [he]
      exact hP 0 _ rfl
    · rw [a24]
      refine ⟨?_, bq1⟩
      rw [ent_i (by decide) rfl]
      have hf : (fun k : Nat => Int32.ofInt ((M1 M (κ 1) r p2 p3 p4) 24 (κ 1) k)) = fun _ => 0 := by
        funext k
        simp [M1]
      rw [hf]
      exact hP 1 _ rfl
    · rw [a25]
      refine ⟨?_, bq2⟩
      rw [ent_i (by decide) rfl]
      have hf : (fun k : Nat => Int32.ofInt ((M1 M (κ 1) r p2 p3 p4) 25 (κ 1) k)) = fun _ => 0 := by
        funext k
        simp [M1]
      rw [hf]
      exact hP 2 _ rfl
    · rw [a26]
      refine ⟨?_, bq3⟩
      rw [ent_i (by decide) rfl]
      have hf : (fun k : Nat => Int32.ofInt ((M1 M (κ 1) r p2 p3 p4) 26 (κ 1) k)) = fun _ => 0 := by
        funext k
        simp [M1]
      rw [hf]
      exact hP 3 _ rfl
  · rcases hn s j h1 h2 with ⟨rfl, rfl⟩ | ⟨rfl, rfl⟩ | ⟨rfl, rfl⟩ | ⟨rfl, rfl⟩ <;> rcases hn s' j' h1' h2' with ⟨rfl, rfl⟩ | ⟨rfl, rfl⟩ | ⟨rfl, rfl⟩ | ⟨rfl, rfl⟩
    · exact ⟨rfl, rfl⟩
    · rw [a1, a24] at e; exact absurd e hwq1
    · rw [a1, a25] at e; exact absurd e hwq2
    · rw [a1, a26] at e; exact absurd e hwq3
    · rw [a24, a1] at e; exact absurd e.symm hwq1
    · exact ⟨rfl, rfl⟩
    · rw [a24, a25] at e; exact absurd e hq1q2
    · rw [a24, a26] at e; exact absurd e hq1q3
    · rw [a25, a1] at e; exact absurd e.symm hwq2
    · rw [a25, a24] at e; exact absurd e.symm hq1q2
    · exact ⟨rfl, rfl⟩
    · rw [a25, a26] at e; exact absurd e hq2q3
    · rw [a26, a1] at e; exact absurd e.symm hwq3
    · rw [a26, a24] at e; exact absurd e.symm hq1q3
    · rw [a26, a25] at e; exact absurd e.symm hq2q3
    · exact ⟨rfl, rfl⟩
  · by_cases z : okk κ 1 j
    · rw [M1_o (hoj 1 j z)]
      exact hR.2.2.2.1 j z
    · obtain ⟨-, z2⟩ := kup_new ho z
      rw [z2]
      have : (M1 M (κ 1) r p2 p3 p4) 1 (κ 1) 0 = r := by simp [M1]
      rw [this]; exact hrow
end GR
section AR
variable {G : Gx} {e0 : Nat} {α : Ax} {κ : Nat → Int} {B : Nat} {M : Mem} {H H' : Heap}
def capN (z c : Int) : Int := if z < c then c else if c = 0 then 10 else c + max 1 (c / 2)
/-- what the list L takes at its end -/
def adM (M : Mem) (L : Nat) (v : Int) : Mem := fun s j k => if s = L ∧ j = 0 then (if k = -1 then M L 0 (-1) + 1 else if k = -2 then M L 0 (-2) + 1 else if k = M L 0 (-1) then v else M s j k) else if s = L + 6 ∧ j = 0 ∧ k = -1 then capN (M L 0 (-1)) (M (L + 6) 0 (-1)) else M s j k
def kad (κ : Nat → Int) (s : Nat) : Nat → Int := fun s' => if s' = s then 1 else κ s'
theorem kad_ok {L : Nat} (h1 : 12 ≤ L) (h2 : L < 18) (h : kOK κ) : kOK (kad κ (L + 6)) := by
  intro s
  by_cases e : s = L + 6
  · have hc : kcode s = 5 := by
      rcases (by omega : L = 12 ∨ L = 13 ∨ L = 14 ∨ L = 15 ∨ L = 16 ∨ L = 17) with rfl | rfl | rfl | rfl | rfl | rfl <;> rw [e] <;> rfl
    unfold kst
    rw [hc]
    rfl
  · have e1 : kad κ (L + 6) s = κ s := if_neg e
    have e2 : kad κ (L + 6) 1 = κ 1 := if_neg (by omega)
    have e3 : kad κ (L + 6) 2 = κ 2 := if_neg (by omega)
    have e4 : kad κ (L + 6) 6 = κ 6 := if_neg (by omega)
    rw [e1, h s]
    unfold kst
    rw [e1, e2, e3, e4]
theorem adM_o {L : Nat} {v : Int} {s : Nat} (h : s ≠ L) (h2 : s ≠ L + 6) (j k : Int) : adM M L v s j k = M s j k := by
  unfold adM
  rw [if_neg (fun z => h z.1), if_neg (fun z => h2 z.1)]
theorem adM_n {L : Nat} {v : Int} : adM M L v L 0 (-1) = M L 0 (-1) + 1 := by simp [adM]
theorem adM_m {L : Nat} {v : Int} : adM M L v L 0 (-2) = M L 0 (-2) + 1 := by simp [adM]
theorem adM_c {L : Nat} {v : Int} : adM M L v (L + 6) 0 (-1) = capN (M L 0 (-1)) (M (L + 6) 0 (-1)) := by simp [adM]
theorem adM_e {L : Nat} {v k : Int} (h0 : 0 ≤ k) : adM M L v L 0 k = if k = M L 0 (-1) then v else M L 0 k := by
  unfold adM
  rw [if_pos ⟨rfl, rfl⟩, if_neg (by omega), if_neg (by omega)]
theorem capN_b {z c : Int} (h0 : 0 ≤ z) (h : z ≤ c) : z + 1 ≤ capN z c ∧ 0 < capN z c := by
  unfold capN
  split
  · omega
  · split
    · omega
    · omega
theorem obj_ar {α' : Ax} {M' : Mem} {s : Nat} {j : Int} (h1 : ∀ s' j', (s' < 18 ∨ 24 ≤ s') → α' s' j' = α s' j') (hM : ∀ k, M' s j k = M s j k) : obj α' M' s j = obj α M s j := by
  unfold obj
  split <;> first | rfl | simp (disch := decide) only [hM, h1]
theorem Rp.add {L : Nat} (h1 : 12 ≤ L) (h2 : L < 18) (hκ : kOK κ) (hR : Rp G e0 α κ B M H) (hBH : B ≤ H.size) {q N b : Nat} {v : Int} {g : Nat → Option Nat} (hv : okk κ (lcl L) v) (hvR : inR v) (hmo : inR (M L 0 (-2) + 1)) (hN : (N : Int) = capN (M L 0 (-1)) (M (L + 6) 0 (-1))) (hN2 : N ≤ 1000)
    (hg : ∀ k : Nat, g k = if (k : Int) < M L 0 (-1) then some (α (lcl L) (M L 0 k)) else none)
    (hP : va_P G.1 vwCl [(α L 0, liE (M L 0 (-2) + 1) q (M L 0 (-1) + 1)), (q, arE G N (va_up g (M L 0 (-1)).toNat (some (α (lcl L) v))))] H')
    (hq : (M (L + 6) 0 (-1) ≠ 0 ∧ q = α (L + 6) 0) ∨ H.size ≤ q) (hb : (M (L + 6) 0 (-1) = 0 ∧ b = α L 0) ∨ (M (L + 6) 0 (-1) ≠ 0 ∧ b = α (L + 6) 0))
    (oq : ∀ x : Nat, x < H.size → ¬ An2 (α L 0) b H.size x → H'[x]? = H[x]?) : Rp G e0 (upA α (L + 6) 0 q) (kad κ (L + 6)) B (adM M L v) H' ∧ kOK (kad κ (L + 6)) := by
  refine ⟨?_, kad_ok h1 h2 hκ⟩
  obtain ⟨r1, r2, r3, r4, r5⟩ := id hR
  obtain ⟨z0, z1, z2, z3, z4⟩ := r5 L h1 h2
  have hcap := capN_b z0 z1
  have hα : ∀ s' j', s' ≠ L + 6 → upA α (L + 6) 0 q s' j' = α s' j' := fun s' j' h => upA_s α 0 q h j'
  have hκ' : ∀ s, s ≠ L + 6 → kad κ (L + 6) s = κ s := fun s h => if_neg h
  have hok : ∀ s j, s ≠ L + 6 → okk (kad κ (L + 6)) s j → okk κ s j := fun s j h ho => by
    unfold okk at ho ⊢
    rw [hκ' s h] at ho
    exact ho
  have hok0 : ∀ j, okk (kad κ (L + 6)) (L + 6) j → j = 0 := fun j ho => by
    have h3 : kad κ (L + 6) (L + 6) = 1 := if_pos rfl
    unfold okk at ho
    rw [h3] at ho
    omega
  have hlt : ∀ s j, s < NS → okk κ s j → α s j < H.size := fun s j hs ho => (r1 s j hs ho).1.lt
  have hLk := okl hκ h1 h2
  have hne : ∀ s j, s < NS → okk κ s j → ¬ (s = L ∧ j = 0) → s ≠ L + 6 → ¬ An2 (α L 0) b H.size (α s j) := fun s j hs ho n1 n2 hA => by
    rcases hA with e | e | e
    · exact n1 (r2 s j L 0 hs ho (ns_l h2) hLk e)
    · rcases hb with ⟨-, b2⟩ | ⟨b1, b2⟩
      · rw [b2] at e
        exact n1 (r2 s j L 0 hs ho (ns_l h2) hLk e)
      · rw [b2] at e
        exact n2 (r2 s j (L + 6) 0 hs ho (ns_e h2) (oke hR h1 h2 b1) e).1
    · have := hlt s j hs ho
      omega
  have hMl : ∀ s, 12 ≤ s → s < 24 → s ≠ L → s ≠ L + 6 → ∀ j k, adM M L v s j k = M s j k := fun s _ _ a b j k => adM_o a b j k
  have hlc : lcl L ≠ L + 6 := by rcases lcl_3 L with e | e | e <;> rw [e] <;> omega
  refine ⟨fun s j hs ho => ?_, fun s j s' j' hs ho hs' ho' e => ?_, fun s j k => ?_, fun j ho => ?_, fun L' a b => ?_⟩
  · by_cases e : s = L + 6
    · subst e
      have hj := hok0 j ho
      subst hj
      rw [upA_eq, ent_e h1 h2, adM_c, adM_n, ← hN]
      refine ⟨?_, ?_⟩
      · have h := hP 1 _ rfl
        have hf : (fun k : Nat => if (k : Int) < M L 0 (-1) + 1 then some (upA α (L + 6) 0 q (lcl L) (adM M L v L 0 k)) else none) = va_up g (M L 0 (-1)).toNat (some (α (lcl L) v)) := by
          funext k
          unfold va_up
          rw [hα _ _ hlc, adM_e (by omega)]
          by_cases c1 : (k : Int) = M L 0 (-1)
          · rw [if_pos (by omega), if_pos c1, if_pos (by omega)]
          · rw [if_neg (show ¬ k = (M L 0 (-1)).toNat by omega), if_neg c1, hg]
            by_cases c2 : (k : Int) < M L 0 (-1)
            · rw [if_pos (by omega), if_pos c2]
            · rw [if_neg (by omega), if_neg c2]
        rw [hf, show ((N : Int)).toNat = N by omega]
        exact h
      · rcases hq with ⟨q1, q2⟩ | q1
        · rw [q2]
          exact (r1 _ _ (ns_e h2) (oke hR h1 h2 q1)).2
        · exact Nat.le_trans hBH q1
    · have ho2 := hok s j e ho
      rw [hα s j e]
      refine ⟨?_, (r1 s j hs ho2).2⟩
      by_cases e2 : s = L
      · subst e2
        have hj : j = 0 := by
          have h4 := hLk.2
          have h5 := ho2.2
          have h6 : κ s = 1 := by
            have h7 := hκ s
            have hc : kcode s = 0 := by
              rcases (by omega : s = 12 ∨ s = 13 ∨ s = 14 ∨ s = 15 ∨ s = 16 ∨ s = 17) with rfl | rfl | rfl | rfl | rfl | rfl <;> rfl
            simp only [kst, hc, if_true] at h7
            exact h7
          have := ho2.1
          omega
        subst hj
        rw [ent_l h1 h2, adM_n, adM_m, adM_c, if_neg (by omega), upA_eq]
        exact hP 0 _ rfl
      · have hk := (r1 s j hs ho2).1.kept (H1 := H') (oq _ (hlt s j hs ho2) (hne s j hs ho2 (fun z => e2 z.1) e))
        have he : ent G e0 (upA α (L + 6) 0 q) (adM M L v) s j = ent G e0 α M s j := by
          unfold ent
          split
          · exact obj_ar (fun s' j' h => hα s' j' (by omega)) (fun k => adM_o e2 e j k)
          · rename_i p1
            split
            · rename_i p2
              rw [hMl s (by omega) (by omega) e2 e, hMl s (by omega) (by omega) e2 e, hMl (s + 6) (by omega) (by omega) (by omega) (by omega), hα (s + 6) 0 (by omega)]
            · rename_i p2
              split
              · rename_i p3
                rw [hMl s (by omega) (by omega) e2 e]
                have hf : ∀ k : Nat, (if (k : Int) < adM M L v (s - 6) 0 (-1) then some (upA α (L + 6) 0 q (lcl (s - 6)) (adM M L v (s - 6) 0 k)) else none) = (if (k : Int) < M (s - 6) 0 (-1) then some (α (lcl (s - 6)) (M (s - 6) 0 k)) else none) := fun k => by
                  rw [hMl (s - 6) (by omega) (by omega) (by omega) (by omega), hMl (s - 6) (by omega) (by omega) (by omega) (by omega), hα _ _ (by rcases lcl_3 (s - 6) with z | z | z <;> rw [z] <;> omega)]
                simp only [hf]
              · have hm : ∀ k, adM M L v s j k = M s j k := fun k => adM_o e2 e j k
                simp only [hm]
        rw [he]
        exact hk
  · by_cases e1 : s = L + 6
    · by_cases e2 : s' = L + 6
      · subst e1
        rw [e2] at ho'
        exact ⟨e2.symm, (hok0 j ho).trans (hok0 j' ho').symm⟩
      · exfalso
        subst e1
        rw [hok0 j ho, upA_eq, hα s' j' e2] at e
        rcases hq with ⟨q1, q2⟩ | q1
        · rw [q2] at e
          exact e2 (r2 _ _ s' j' (ns_e h2) (oke hR h1 h2 q1) hs' (hok s' j' e2 ho') e).1.symm
        · have := hlt s' j' hs' (hok s' j' e2 ho')
          omega
    · by_cases e2 : s' = L + 6
      · exfalso
        subst e2
        rw [hok0 j' ho', upA_eq, hα s j e1] at e
        rcases hq with ⟨q1, q2⟩ | q1
        · rw [q2] at e
          exact e1 (r2 s j _ _ hs (hok s j e1 ho) (ns_e h2) (oke hR h1 h2 q1) e).1
        · have := hlt s j hs (hok s j e1 ho)
          omega
      · rw [hα s j e1, hα s' j' e2] at e
        exact r2 s j s' j' hs (hok s j e1 ho) hs' (hok s' j' e2 ho') e
  · unfold adM
    have := hR.r L 0 (-1)
    split
    · split
      · exact ⟨by omega, by omega⟩
      · split
        · exact hmo
        · split
          · exact hvR
          · exact r3 s j k
    · split
      · rw [← hN]
        exact ⟨by omega, by omega⟩
      · exact r3 s j k
  · rw [adM_o (by omega) (by omega)]
    have hz := r4 j (hok 1 j (by omega) ho)
    unfold okk at hz ⊢
    rw [hκ' 6 (by omega)]
    exact hz
  · have hmono : ∀ s j, okk κ s j → s ≠ L + 6 → okk (kad κ (L + 6)) s j := fun s j h hs => by
      unfold okk
      rw [hκ' s hs]
      exact h
    by_cases e : L' = L
    · subst e
      rw [adM_n, adM_c, if_neg (by omega)]
      refine ⟨by omega, hcap.1, if_pos rfl, fun i i1 i2 => ?_, by omega⟩
      rw [adM_e i1]
      split
      · exact hmono _ _ hv hlc
      · exact hmono _ _ (z3 i i1 (by omega)) hlc
    · rw [adM_o e (by omega), adM_o (by omega) (by omega), hκ' (L' + 6) (by omega)]
      obtain ⟨a1, a2, a3, a4, a5⟩ := r5 L' a b
      refine ⟨a1, a2, a3, fun i i1 i2 => ?_, a5⟩
      rw [adM_o e (by omega)]
      exact hmono _ _ (a4 i i1 i2) (by rcases lcl_3 L' with z | z | z <;> rw [z] <;> omega)
end AR
