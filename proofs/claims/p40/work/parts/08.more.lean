/-! what the walks of methods need beside the rows of fields -/
theorem cut_j {A D : Prop} (h1 : A → D) (h2 : A) : D := h1 h2
theorem inR_tdiv {a b : Int} (ha : inR a) (hb : inR b) (h0 : 0 < b) : inR (Int.tdiv a b) := by
  have h1 := ha.1
  have h2 := ha.2
  rcases Int.le_total 0 a with h | h
  · rw [Int.tdiv_eq_ediv_of_nonneg h]
    have h3 := Int.ediv_nonneg h (Int.le_of_lt h0)
    have h4 := Int.ediv_le_self b h
    exact ⟨by omega, by omega⟩
  · have e : Int.tdiv a b = -(Int.tdiv (-a) b) := by rw [Int.neg_tdiv, Int.neg_neg]
    rw [e, Int.tdiv_eq_ediv_of_nonneg (by omega)]
    have h3 := Int.ediv_nonneg (a := -a) (by omega) (Int.le_of_lt h0)
    have h4 := Int.ediv_le_self (a := -a) b (by omega)
    exact ⟨by omega, by omega⟩
theorem inR_tmod {a b : Int} (ha : inR a) (hb : inR b) (h0 : 0 < b) : inR (Int.tmod a b) := by
  have h1 := hb.1
  have h2 := hb.2
  have h3 := Int.tmod_lt_of_pos a h0
  have h4 := Int.lt_tmod_of_pos a h0
  exact ⟨by omega, by omega⟩
theorem inR_min {x y : Int} (hx : inR x) (hy : inR y) : inR (min x y) := by
  unfold inR at *
  omega
theorem pr_5 {κ : Nat → Int} (h : kOK κ) {j : Int} (ho : okk κ 5 j) : 0 ≤ j ∧ j < 2 := ⟨ho.1, by have := ho.2; rw [h 5] at this; exact this⟩
theorem pr_7 {κ : Nat → Int} (h : kOK κ) {j : Int} (ho : okk κ 7 j) : 0 ≤ j ∧ j < 2 := ⟨ho.1, by have := ho.2; rw [h 7] at this; exact this⟩
theorem pr_9 {κ : Nat → Int} (h : kOK κ) {j : Int} (ho : okk κ 9 j) : 0 ≤ j ∧ j < 2 := ⟨ho.1, by have := ho.2; rw [h 9] at this; exact this⟩
section SM
variable {p : Program} {l : Launch} {e : Env} {R : Room} {s : State} {m : MethodId} {args : Array Value} {below : List Frame} {meth : Method} {c : Code} {H : Heap} {locs : List Loc} {cells slots : Nat} {Q : State → Prop}
variable {cc : ByteArray} {nL : Nat} {own : String} {pc : Nat} {ls : Array Slot} {rest : List Value}
theorem sa_ldc {n : Int} {v : Int32} {idx : Nat} (C : CallFix p m c cc nL s args gw own) (hv : v = Int32.ofInt n) (k1 : Cond.constant own idx v ∈ gw) (hd : decode cc pc = .ok (.ldc idx, 2)) (kk : W p l e R s m args below meth c H locs cells slots Q (F0 m (pc + 2) ls (.int (Int32.ofInt n) :: rest))) : W p l e R s m args below meth c H locs cells slots Q (F0 m pc ls rest) :=
  lv_ldc C.1 C.2.1 C.2.2.2.1 (C.2.2.2.2 _ k1) hd (by rw [hv]; exact kk)
theorem sa_ldcw {n : Int} {v : Int32} {idx : Nat} (C : CallFix p m c cc nL s args gw own) (hv : v = Int32.ofInt n) (k1 : Cond.constant own idx v ∈ gw) (hd : decode cc pc = .ok (.ldc_w idx, 3)) (kk : W p l e R s m args below meth c H locs cells slots Q (F0 m (pc + 3) ls (.int (Int32.ofInt n) :: rest))) : W p l e R s m args below meth c H locs cells slots Q (F0 m pc ls rest) :=
  lv_ldcw C.1 C.2.1 C.2.2.2.1 (C.2.2.2.2 _ k1) hd (by rw [hv]; exact kk)
end SM
theorem hA6_49 : A6 49 := ⟨by decide, by decide, rfl, rfl⟩
theorem hA6_50 : A6 50 := ⟨by decide, by decide, rfl, rfl⟩
theorem hA6_51 : A6 51 := ⟨by decide, by decide, rfl, rfl⟩
theorem hA6_52 : A6 52 := ⟨by decide, by decide, rfl, rfl⟩
theorem hA6_53 : A6 53 := ⟨by decide, by decide, rfl, rfl⟩
theorem hA6_54 : A6 54 := ⟨by decide, by decide, rfl, rfl⟩
theorem hA6_55 : A6 55 := ⟨by decide, by decide, rfl, rfl⟩
theorem hA6_56 : A6 56 := ⟨by decide, by decide, rfl, rfl⟩
theorem hA6_57 : A6 57 := ⟨by decide, by decide, rfl, rfl⟩
theorem hA6_80 : A6 80 := ⟨by decide, by decide, rfl, rfl⟩
theorem hA6_81 : A6 81 := ⟨by decide, by decide, rfl, rfl⟩
theorem hA6_82 : A6 82 := ⟨by decide, by decide, rfl, rfl⟩
theorem hA6_83 : A6 83 := ⟨by decide, by decide, rfl, rfl⟩
theorem hA6_84 : A6 84 := ⟨by decide, by decide, rfl, rfl⟩
