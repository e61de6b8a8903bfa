/-! the pure part: the class's widths -/
def zMx (g : Int → Int) (n : Int) : Int := zF (fun m i => max m (g i)) 0 0 n
/-- widths' part of the class -/
def zCW (u : Int) : Nat → Int → Int → Prop := fun s j _ => 49 ≤ s ∧ s ≤ 55 ∧ j = u
/-- nothing but what Z names has changed -/
def Fj (Z : Nat → Int → Int → Prop) (M M' : Mem) : Prop := ∀ s j k, ¬ Z s j k → M' s j k = M s j k
section CS
variable {T M : Mem}
theorem Fj.rf (Z : Nat → Int → Int → Prop) (M : Mem) : Fj Z M M := fun _ _ _ _ => rfl
theorem Fj.tr {Z : Nat → Int → Int → Prop} {M M1 M2 : Mem} (h : Fj Z M M1) (h' : Fj Z M1 M2) : Fj Z M M2 := fun s j k z => (h' s j k z).trans (h s j k z)
theorem Fj.mono {Z Z' : Nat → Int → Int → Prop} {M M' : Mem} (h : Fj Z M M') (hz : ∀ s j k, Z s j k → Z' s j k) : Fj Z' M M' := fun s j k z => h s j k (fun q => z (hz s j k q))
theorem Fj.up {Z : Nat → Int → Int → Prop} {M M' : Mem} (h : Fj Z M M') {s : Nat} {j k v : Int} (hz : Z s j k) : Fj Z M (up M' s j k v) := by
  intro s' j' k' z
  rw [up_at, if_neg]
  · exact h s' j' k' z
  · rintro ⟨rfl, rfl, rfl⟩
    exact z hz
theorem Fj.ag {Z : Nat → Int → Int → Prop} {T M M' : Mem} (h : Fj Z M M') (hA : Ag T M) (hz : ∀ s j k, Z s j k → zin s k = false) : Ag T M' := fun s j k z => (h s j k (fun q => by rw [hz s j k q] at z; cases z)).trans (hA s j k z)
theorem zCW_in (u : Int) : ∀ s j k, zCW u s j k → zin s k = false := by
  intro s j k hz
  obtain ⟨a, b, -⟩ := hz
  simp only [zin, Bool.or_eq_false_iff, Bool.and_eq_false_iff, decide_eq_false_iff_not]
  omega
theorem zM_succ (g : Int → Int) {n : Int} (h : 0 ≤ n) : zMx g (n + 1) = max (zMx g n) (g n) := zF_succ _ _ h
theorem zM_0 (g : Int → Int) : zMx g 0 = 0 := zF_self _ _ (Int.le_refl _)
theorem zM_nn (g : Int → Int) {n : Int} (h : 0 ≤ n) : 0 ≤ zMx g n := zF_ind (fun _ m => 0 ≤ m) h (Int.le_refl _) (fun k v _ _ hv => by show 0 ≤ max v (g k); omega)
theorem zM_le {g : Int → Int} {n b : Int} (h : 0 ≤ n) (hb : 0 ≤ b) (hg : ∀ i, 0 ≤ i → i < n → g i ≤ b) : zMx g n ≤ b := zF_ind (fun _ m => m ≤ b) h hb (fun k v a c hv => by have := hg k a c; show max v (g k) ≤ b; omega)
theorem le_zM {g : Int → Int} {n i : Int} (i0 : 0 ≤ i) (i1 : i < n) : g i ≤ zMx g n := by
  have z : ∀ m : Nat, i < m → g i ≤ zMx g m := by
    intro m
    induction m with
    | zero => intro h; omega
    | succ m ih =>
      intro h
      rw [show ((m + 1 : Nat) : Int) = (m : Int) + 1 by omega, zM_succ g (by omega)]
      by_cases e : i = m
      · rw [← e]; omega
      · have := ih (by omega); omega
  have := z n.toNat (by omega)
  rw [show (n.toNat : Int) = n by omega] at this
  exact this
/-- figures of a column: by cells, by rows -/
theorem zfig_cell (hG : Good T) {r k c : Int} (r0 : 0 ≤ r) (r1 : r < T 11 0 8) (k0 : 0 ≤ k) (k1 : k < T 11 0 4) (c0 : 0 ≤ c) (c1 : c < T 11 0 15) : zfig T r k = c ↔ ((T 73 0 c = 1 ∧ T 59 0 (T 66 0 c) = 0 ∧ T 66 0 c = k) ∧ r = T 65 0 c) := by
  have hC := hG.nC
  refine ⟨fun h => ?_, fun h => ?_⟩
  · obtain ⟨f1, f2, f3, f4, f5, f6⟩ := zfig_r hG r0 r1 k0 (by omega) (by omega)
    rw [h] at f3 f4 f5
    exact ⟨⟨f3, by rw [f5]; exact f6, f5⟩, f4.symm⟩
  · obtain ⟨⟨a, b, d⟩, e⟩ := h
    have := zfig_of hG c0 c1 a b
    rw [e, ← d]
    exact this
theorem zfc_sum (hG : Good T) (f : Int → Int) {k : Int} (k0 : 0 ≤ k) (k1 : k < T 11 0 4) : zS (fun c => if T 73 0 c = 1 ∧ T 59 0 (T 66 0 c) = 0 ∧ T 66 0 c = k then f c else 0) 0 (T 11 0 15) = zS (fun r => if zfig T r k = -1 then 0 else f (zfig T r k)) 0 (T 11 0 8) := by
  have hC := hG.nC
  have hR := hG.nR
  have hK := hG.nK
  have e1 : zS (fun r => if zfig T r k = -1 then 0 else f (zfig T r k)) 0 (T 11 0 8) = zS (fun r => zS (fun c => if zfig T r k = c then f c else 0) 0 (T 11 0 15)) 0 (T 11 0 8) := by
    refine zS_congr (fun r r0 r1 => ?_)
    by_cases h : zfig T r k = -1
    · rw [if_pos h]
      exact (zS_zero (fun c c0 _ => if_neg (by omega))).symm
    · rw [if_neg h]
      obtain ⟨f1, f2, -⟩ := zfig_r hG r0 r1 k0 (by omega) h
      rw [← zS_one (a := 0) (b := T 11 0 15) (r0 := zfig T r k) (v := f (zfig T r k)) f1 f2]
      refine zS_congr (fun c c0 c1 => ?_)
      by_cases e : c = zfig T r k
      · rw [if_pos e, if_pos e.symm, e]
      · rw [if_neg e, if_neg (fun z => e z.symm)]
  rw [e1, zS_comm (fun r c => if zfig T r k = c then f c else 0) hR.1 hK.1]
  refine zS_congr (fun c c0 c1 => ?_)
  obtain ⟨w1, -⟩ := hG.cell c c0 c1
  by_cases h : T 73 0 c = 1 ∧ T 59 0 (T 66 0 c) = 0 ∧ T 66 0 c = k
  · rw [if_pos h]
    refine ((zS_congr (fun r r0 r1 => ?_)).trans (zS_one (a := 0) (b := T 11 0 8) (r0 := T 65 0 c) (v := f c) w1.1 w1.2)).symm
    have := zfig_cell hG r0 r1 k0 k1 c0 c1
    by_cases e : r = T 65 0 c
    · rw [if_pos e, if_pos (this.mpr ⟨h, e⟩)]
    · rw [if_neg e, if_neg (fun z => e (this.mp z).2)]
  · rw [if_neg h]
    exact (zS_zero (fun r r0 r1 => if_neg (fun z => h ((zfig_cell hG r0 r1 k0 k1 c0 c1).mp z).1))).symm
theorem zfc_max (hG : Good T) (f : Int → Int) (hf : ∀ c, 0 ≤ c → c < T 11 0 15 → 0 ≤ f c) {k : Int} (k0 : 0 ≤ k) (k1 : k < T 11 0 4) : zMx (fun c => if T 73 0 c = 1 ∧ T 59 0 (T 66 0 c) = 0 ∧ T 66 0 c = k then f c else 0) (T 11 0 15) = zF (fun m r => if zfig T r k = -1 then m else max m (f (zfig T r k))) 0 0 (T 11 0 8) := by
  have hC := hG.nC
  have hR := hG.nR
  have hK := hG.nK
  have e1 : zF (fun m r => if zfig T r k = -1 then m else max m (f (zfig T r k))) 0 0 (T 11 0 8) = zMx (fun r => if zfig T r k = -1 then 0 else f (zfig T r k)) (T 11 0 8) := by
    refine (zF_ind2 (g := fun m r => if zfig T r k = -1 then m else max m (f (zfig T r k))) (g' := fun m r => max m (if zfig T r k = -1 then 0 else f (zfig T r k))) (x := (0 : Int)) (x' := (0 : Int)) (fun _ (a b : Int) => a = b ∧ 0 ≤ a) hR.1 ⟨rfl, Int.le_refl _⟩ (fun r v v' a b h => ?_)).1
    obtain ⟨h1, h2⟩ := h
    subst h1
    show (if zfig T r k = -1 then v else max v (f (zfig T r k))) = max v (if zfig T r k = -1 then 0 else f (zfig T r k)) ∧ 0 ≤ (if zfig T r k = -1 then v else max v (f (zfig T r k)))
    split <;> omega
  rw [e1]
  apply Int.le_antisymm
  · refine zM_le hK.1 (zM_nn _ hR.1) (fun c c0 c1 => ?_)
    show (if T 73 0 c = 1 ∧ T 59 0 (T 66 0 c) = 0 ∧ T 66 0 c = k then f c else 0) ≤ _
    by_cases h : T 73 0 c = 1 ∧ T 59 0 (T 66 0 c) = 0 ∧ T 66 0 c = k
    · rw [if_pos h]
      obtain ⟨w1, -⟩ := hG.cell c c0 c1
      have e := (zfig_cell hG w1.1 w1.2 k0 k1 c0 c1).mpr ⟨h, rfl⟩
      have := le_zM (g := fun r => if zfig T r k = -1 then 0 else f (zfig T r k)) (n := T 11 0 8) w1.1 w1.2
      have e2 : (if zfig T (T 65 0 c) k = -1 then 0 else f (zfig T (T 65 0 c) k)) = f c := by rw [e, if_neg (by omega)]
      have this : (if zfig T (T 65 0 c) k = -1 then 0 else f (zfig T (T 65 0 c) k)) ≤ _ := this
      rw [e2] at this
      exact this
    · rw [if_neg h]; exact zM_nn _ hR.1
  · refine zM_le hR.1 (zM_nn _ hK.1) (fun r r0 r1 => ?_)
    show (if zfig T r k = -1 then 0 else f (zfig T r k)) ≤ _
    by_cases h : zfig T r k = -1
    · rw [if_pos h]; exact zM_nn _ hK.1
    · rw [if_neg h]
      obtain ⟨f1, f2, -⟩ := zfig_r hG r0 r1 k0 (by omega) h
      have e := (zfig_cell hG r0 r1 k0 k1 f1 f2).mp rfl
      have := le_zM (g := fun c => if T 73 0 c = 1 ∧ T 59 0 (T 66 0 c) = 0 ∧ T 66 0 c = k then f c else 0) (n := T 11 0 15) f1 f2
      have this : (if T 73 0 (zfig T r k) = 1 ∧ T 59 0 (T 66 0 (zfig T r k)) = 0 ∧ T 66 0 (zfig T r k) = k then f (zfig T r k) else 0) ≤ _ := this
      rw [if_pos e.1] at this
      exact this
def zL1 (T : Mem) (k n : Int) : Int := zMx (fun c => if T 73 0 c = 1 ∧ T 59 0 (T 66 0 c) = 0 ∧ T 66 0 c = k then zleft (T 74 0 c) else 0) n
def zR1 (T : Mem) (k n : Int) : Int := zMx (fun c => if T 73 0 c = 1 ∧ T 59 0 (T 66 0 c) = 0 ∧ T 66 0 c = k then zright T c else 0) n
def zA1 (T : Mem) (k n : Int) : Int := zS (fun c => if T 73 0 c = 1 ∧ T 59 0 (T 66 0 c) = 0 ∧ T 66 0 c = k then (if T 60 0 (T 65 0 c) = 1 then max 0 (T 74 0 c) else 0) else 0) 0 n
def zB1 (T : Mem) (k n : Int) : Int := zS (fun c => if T 73 0 c = 1 ∧ T 59 0 (T 66 0 c) = 0 ∧ T 66 0 c = k then (if T 60 0 (T 65 0 c) = 1 then min 0 (T 74 0 c) else 0) else 0) 0 n
theorem zL1_eq (hG : Good T) {k : Int} (k0 : 0 ≤ k) (k1 : k < 6) : zL1 T k (T 11 0 15) = if k < T 11 0 4 then zlef T k (T 11 0 8) else 0 := by
  by_cases h : k < T 11 0 4
  · rw [if_pos h]
    exact zfc_max hG (fun c => zleft (T 74 0 c)) (fun c _ _ => by have := zleft_r (T 74 0 c); show 0 ≤ zleft (T 74 0 c); omega) k0 h
  · rw [if_neg h]
    apply Int.le_antisymm
    · refine zM_le hG.nK.1 (Int.le_refl _) (fun c c0 c1 => ?_)
      obtain ⟨-, w2, -, w4, -⟩ := hG.cell c c0 c1
      rw [if_neg (by omega)]
      exact Int.le_refl _
    · exact zM_nn _ hG.nK.1
theorem zR1_eq (hG : Good T) {k : Int} (k0 : 0 ≤ k) (k1 : k < 6) : zR1 T k (T 11 0 15) = if k < T 11 0 4 then zRg T k else 0 := by
  by_cases h : k < T 11 0 4
  · rw [if_pos h]
    exact zfc_max hG (fun c => zright T c) (fun c a b => (zright_r hG a b).1) k0 h
  · rw [if_neg h]
    apply Int.le_antisymm
    · refine zM_le hG.nK.1 (Int.le_refl _) (fun c c0 c1 => ?_)
      obtain ⟨-, w2, -, w4, -⟩ := hG.cell c c0 c1
      rw [if_neg (by omega)]
      exact Int.le_refl _
    · exact zM_nn _ hG.nK.1
theorem zA1_eq (hG : Good T) {k : Int} (k0 : 0 ≤ k) (k1 : k < T 11 0 4) : zA1 T k (T 11 0 15) = zabv T k (T 11 0 8) := by
  have hC := hG.nC
  have := zfc_sum hG (fun c => if T 60 0 (T 65 0 c) = 1 then max 0 (T 74 0 c) else 0) k0 k1
  unfold zA1 zabv
  rw [this]
  refine zS_congr (fun r r0 r1 => ?_)
  by_cases h : zfig T r k = -1
  · rw [if_pos h, if_pos h]
  · rw [if_neg h, if_neg h]
    obtain ⟨f1, f2, f3, f4, f5, f6⟩ := zfig_r hG r0 r1 k0 (by omega) h
    rw [f4]
    by_cases hp : T 60 0 r = 1
    · rw [if_pos hp, if_neg (by omega)]; split <;> omega
    · rw [if_neg hp, if_pos hp]
theorem zB1_eq (hG : Good T) {k : Int} (k0 : 0 ≤ k) (k1 : k < T 11 0 4) : zB1 T k (T 11 0 15) = zblw T k (T 11 0 8) := by
  have hC := hG.nC
  have := zfc_sum hG (fun c => if T 60 0 (T 65 0 c) = 1 then min 0 (T 74 0 c) else 0) k0 k1
  unfold zB1 zblw
  rw [this]
  refine zS_congr (fun r r0 r1 => ?_)
  by_cases h : zfig T r k = -1
  · rw [if_pos h, if_pos h]
  · rw [if_neg h, if_neg h]
    obtain ⟨f1, f2, f3, f4, f5, f6⟩ := zfig_r hG r0 r1 k0 (by omega) h
    rw [f4]
    by_cases hp : T 60 0 r = 1
    · rw [if_pos hp, if_neg (by omega)]; split <;> omega
    · rw [if_neg hp, if_pos hp]
theorem zany_lef (hG : Good T) (k : Int) {n : Int} (n0 : 0 ≤ n) : (zany T k n = 0 → zlef T k n = 0) ∧ (¬ zany T k n = 0 → 1 ≤ zlef T k n) := by
  refine zF_ind2 (g := fun b r => if zfig T r k = -1 then b else 1) (g' := fun m r => if zfig T r k = -1 then m else max m (zleft (T 74 0 (zfig T r k)))) (x := (0 : Int)) (x' := (0 : Int)) (fun _ (b m : Int) => (b = 0 → m = 0) ∧ (¬ b = 0 → 1 ≤ m)) n0 ⟨fun _ => rfl, fun h => absurd rfl h⟩ (fun r b m _ _ h => ?_)
  show ((if zfig T r k = -1 then b else 1) = 0 → (if zfig T r k = -1 then m else max m (zleft (T 74 0 (zfig T r k)))) = 0) ∧ (¬ (if zfig T r k = -1 then b else 1) = 0 → 1 ≤ (if zfig T r k = -1 then m else max m (zleft (T 74 0 (zfig T r k)))))
  by_cases e : zfig T r k = -1
  · rw [if_pos e, if_pos e]; exact h
  · rw [if_neg e, if_neg e]
    have := zleft_r (T 74 0 (zfig T r k))
    exact ⟨fun z => absurd z (by decide), fun _ => by omega⟩
/-- hidden columns have no figures -/
theorem zany_hid {k n : Int} (h : ¬ T 59 0 k = 0) (n0 : 0 ≤ n) : zany T k n = 0 := by
  refine zF_ind (fun _ b => b = 0) n0 rfl (fun r v _ _ hv => ?_)
  have : zfig T r k = -1 := by
    unfold zfig
    split
    · rfl
    · rfl
  show (if zfig T r k = -1 then v else 1) = 0
  rw [if_pos this, hv]
theorem k_fill (a : Nat) (j v : Int) {Qm : Mem → Prop} (hq : ∀ M', Fj (fun s i _ => s = a ∧ i = j) M M' → (∀ k, 0 ≤ k → k < (alen a : Int) → M' a j k = v) → Qm M') : wp_J7_fill_53178 a j v M Qm := by
  have hal := alen_le a
  refine zLoop (fun n k N => wp_J7_fill_53178_5 a j v Qm n k (alen a : Int) N) (fun y N => Fj (fun s i _ => s = a ∧ i = j) M N ∧ ∀ k, 0 ≤ k → k < y → N a j k = v) (alen a : Int) (by omega) ⟨Fj.rf _ _, fun k x y => absurd y (by omega)⟩ (fun n N hN => ?_) (fun n y N y0 y1 hN ih => ?_)
  · exact ⟨fun _ => hq N hN.1 hN.2, fun h => absurd h (by omega)⟩
  · refine ⟨fun h => absurd h (by omega), fun _ => ⟨⟨by omega, by omega⟩, ?_⟩⟩
    intro N2 e2
    refine ⟨⟨by omega, by omega⟩, ih N2 ⟨by rw [e2]; exact hN.1.up ⟨rfl, rfl⟩, fun k x1 x2 => ?_⟩⟩
    by_cases hk : k = y
    · rw [hk, e2, up_eq]
    · rw [e2, up_k _ _ _ _ _ _ hk]; exact hN.2 k x1 (by omega)
theorem k_clear8 (u : Int) {Qm : Mem → Prop} (hq : ∀ M', Fj (zCW u) M M' → (∀ s : Nat, 49 ≤ s → s ≤ 55 → ∀ k, 0 ≤ k → k < 6 → M' s u k = 0) → Qm M') : wp_X8_clear u M Qm := by
  refine k_fill 49 u 0 (fun M1 f1 d1 => k_fill 50 u 0 (fun M2 f2 d2 => k_fill 51 u 0 (fun M3 f3 d3 => k_fill 52 u 0 (fun M4 f4 d4 => k_fill 53 u 0 (fun M5 f5 d5 => k_fill 54 u 0 (fun M6 f6 d6 => k_fill 55 u 0 (fun M7 f7 d7 => ?_)))))))
  have g : ∀ (a : Nat) {N N' : Mem}, 49 ≤ a → a ≤ 55 → Fj (fun s i _ => s = a ∧ i = u) N N' → Fj (zCW u) N N' := fun a N N' x y f => f.mono (fun s j k z => ⟨by have := z.1; omega, by have := z.1; omega, z.2⟩)
  refine hq M7 (((((((g 49 (by decide) (by decide) f1).tr (g 50 (by decide) (by decide) f2)).tr (g 51 (by decide) (by decide) f3)).tr (g 52 (by decide) (by decide) f4)).tr (g 53 (by decide) (by decide) f5)).tr (g 54 (by decide) (by decide) f6)).tr (g 55 (by decide) (by decide) f7)) (fun s s0 s1 k k0 k1 => ?_)
  have h7 : s ≠ 55 → M7 s u k = M6 s u k := fun h => f7 s u k (fun z => h z.1)
  have h6 : s ≠ 54 → M6 s u k = M5 s u k := fun h => f6 s u k (fun z => h z.1)
  have h5 : s ≠ 53 → M5 s u k = M4 s u k := fun h => f5 s u k (fun z => h z.1)
  have h4 : s ≠ 52 → M4 s u k = M3 s u k := fun h => f4 s u k (fun z => h z.1)
  have h3 : s ≠ 51 → M3 s u k = M2 s u k := fun h => f3 s u k (fun z => h z.1)
  have h2 : s ≠ 50 → M2 s u k = M1 s u k := fun h => f2 s u k (fun z => h z.1)
  rcases (by omega : s = 49 ∨ s = 50 ∨ s = 51 ∨ s = 52 ∨ s = 53 ∨ s = 54 ∨ s = 55) with rfl | rfl | rfl | rfl | rfl | rfl | rfl
  · rw [h7 (by decide), h6 (by decide), h5 (by decide), h4 (by decide), h3 (by decide), h2 (by decide)]; exact d1 k k0 k1
  · rw [h7 (by decide), h6 (by decide), h5 (by decide), h4 (by decide), h3 (by decide)]; exact d2 k k0 k1
  · rw [h7 (by decide), h6 (by decide), h5 (by decide), h4 (by decide)]; exact d3 k k0 k1
  · rw [h7 (by decide), h6 (by decide), h5 (by decide)]; exact d4 k k0 k1
  · rw [h7 (by decide), h6 (by decide)]; exact d5 k k0 k1
  · rw [h7 (by decide)]; exact d6 k k0 k1
  · exact d7 k k0 k1
theorem k_measureFigures (hG : Good T) (hL : zLk T) (hA : Ag T M) {u : Int} (h0 : ∀ s : Nat, 49 ≤ s → s ≤ 55 → ∀ k, 0 ≤ k → k < 6 → M s u k = 0) {Qm : Mem → Prop} (hq : ∀ M', Fj (zCW u) M M' → (∀ k, 0 ≤ k → k < 6 → M' 49 u k = 0 ∧ M' 50 u k = 0 ∧ M' 51 u k = 0 ∧ M' 52 u k = zL1 T k (T 11 0 15) ∧ M' 53 u k = zR1 T k (T 11 0 15) ∧ M' 54 u k = zA1 T k (T 11 0 15) ∧ M' 55 u k = zB1 T k (T 11 0 15)) → Qm M') : wp_X8_measureFigures u M Qm := by
  have hK := hG.nK
  have hC := hG.nC
  have n14 := hL.n.2.2
  refine zLoop (fun n k N => wp_X8_measureFigures_2 u Qm n k N) (fun y N => Fj (zCW u) M N ∧ ∀ k, 0 ≤ k → k < 6 → N 49 u k = 0 ∧ N 50 u k = 0 ∧ N 51 u k = 0 ∧ N 52 u k = zL1 T k y ∧ N 53 u k = zR1 T k y ∧ N 54 u k = zA1 T k y ∧ N 55 u k = zB1 T k y) (T 11 0 15) hK.1 ⟨Fj.rf _ _, fun k a b => ?_⟩ (fun n N hN => ?_) (fun n y N y0 y1 hN ih => ?_)
  · refine ⟨h0 49 (by decide) (by decide) k a b, h0 50 (by decide) (by decide) k a b, h0 51 (by decide) (by decide) k a b, ?_, ?_, ?_, ?_⟩
    · rw [h0 52 (by decide) (by decide) k a b]; exact (zM_0 _).symm
    · rw [h0 53 (by decide) (by decide) k a b]; exact (zM_0 _).symm
    · rw [h0 54 (by decide) (by decide) k a b]; exact (zS_self _ (Int.le_refl _)).symm
    · rw [h0 55 (by decide) (by decide) k a b]; exact (zS_self _ (Int.le_refl _)).symm
  · have e14 := (hN.1.ag hA (zCW_in u)).s14
    exact ⟨fun _ => hq N hN.1 hN.2, fun h => absurd h (by rw [e14]; omega)⟩
  · obtain ⟨f1, d1⟩ := hN
    have hA1 : Ag T N := f1.ag hA (zCW_in u)
    have e14 := hA1.s14
    have e1 := hA1.s1
    obtain ⟨w1, w2, w3, w4, w5, w6, w7, w8, w9, w10, w11, w12⟩ := hG.cell y y0 y1
    obtain ⟨l0, l1, l2, l3, l4, l7, l8, l9, l10, l11, l12, lw⟩ := hL.cell y0 y1
    obtain ⟨-, -, r3, -⟩ := hL.row w1.1 w1.2
    have sL : ∀ k, zL1 T k (y + 1) = max (zL1 T k y) (if T 73 0 y = 1 ∧ T 59 0 (T 66 0 y) = 0 ∧ T 66 0 y = k then zleft (T 74 0 y) else 0) := fun k => zM_succ _ y0
    have sR : ∀ k, zR1 T k (y + 1) = max (zR1 T k y) (if T 73 0 y = 1 ∧ T 59 0 (T 66 0 y) = 0 ∧ T 66 0 y = k then zright T y else 0) := fun k => zM_succ _ y0
    have sA : ∀ k, zA1 T k (y + 1) = zA1 T k y + (if T 73 0 y = 1 ∧ T 59 0 (T 66 0 y) = 0 ∧ T 66 0 y = k then (if T 60 0 (T 65 0 y) = 1 then max 0 (T 74 0 y) else 0) else 0) := fun k => zS_succ _ y0
    have sB : ∀ k, zB1 T k (y + 1) = zB1 T k y + (if T 73 0 y = 1 ∧ T 59 0 (T 66 0 y) = 0 ∧ T 66 0 y = k then (if T 60 0 (T 65 0 y) = 1 then min 0 (T 74 0 y) else 0) else 0) := fun k => zS_succ _ y0
    have nL : ∀ k, 0 ≤ zL1 T k y := fun k => zM_nn _ y0
    have nR : ∀ k, 0 ≤ zR1 T k y := fun k => zM_nn _ y0
    have bA : ∀ k, 0 ≤ zA1 T k y ∧ zA1 T k y ≤ 1000000 * y := fun k => by
      have := zS_bd (f := fun c => if T 73 0 c = 1 ∧ T 59 0 (T 66 0 c) = 0 ∧ T 66 0 c = k then (if T 60 0 (T 65 0 c) = 1 then max 0 (T 74 0 c) else 0) else 0) (a := 0) (b := y) 0 1000000 y0 (fun c a b => by
        obtain ⟨-, -, -, -, -, -, -, q8, -⟩ := hG.cell c a (by omega)
        show 0 ≤ (if T 73 0 c = 1 ∧ T 59 0 (T 66 0 c) = 0 ∧ T 66 0 c = k then (if T 60 0 (T 65 0 c) = 1 then max 0 (T 74 0 c) else 0) else 0) ∧ (if T 73 0 c = 1 ∧ T 59 0 (T 66 0 c) = 0 ∧ T 66 0 c = k then (if T 60 0 (T 65 0 c) = 1 then max 0 (T 74 0 c) else 0) else 0) ≤ 1000000
        split
        · split <;> omega
        · omega)
      unfold zA1; omega
    have bB : ∀ k, -1000000 * y ≤ zB1 T k y ∧ zB1 T k y ≤ 0 := fun k => by
      have := zS_bd (f := fun c => if T 73 0 c = 1 ∧ T 59 0 (T 66 0 c) = 0 ∧ T 66 0 c = k then (if T 60 0 (T 65 0 c) = 1 then min 0 (T 74 0 c) else 0) else 0) (a := 0) (b := y) (-1000000) 0 y0 (fun c a b => by
        obtain ⟨-, -, -, -, -, -, -, q8, -⟩ := hG.cell c a (by omega)
        show -1000000 ≤ (if T 73 0 c = 1 ∧ T 59 0 (T 66 0 c) = 0 ∧ T 66 0 c = k then (if T 60 0 (T 65 0 c) = 1 then min 0 (T 74 0 c) else 0) else 0) ∧ (if T 73 0 c = 1 ∧ T 59 0 (T 66 0 c) = 0 ∧ T 66 0 c = k then (if T 60 0 (T 65 0 c) = 1 then min 0 (T 74 0 c) else 0) else 0) ≤ 0
        split
        · split <;> omega
        · omega)
      unfold zB1; omega
    have hskip : ¬ (T 73 0 y = 1 ∧ T 59 0 (T 66 0 y) = 0) → wp_X8_measureFigures_138 u Qm (wp_X8_measureFigures_2 u Qm n) y N := fun hn => ⟨⟨by omega, by omega⟩, ih N ⟨f1, fun k a b => by
      rw [sL, sR, sA, sB, if_neg (fun z => hn ⟨z.1, z.2.1⟩), if_neg (fun z => hn ⟨z.1, z.2.1⟩), if_neg (fun z => hn ⟨z.1, z.2.1⟩), if_neg (fun z => hn ⟨z.1, z.2.1⟩)]
      have := d1 k a b
      have := nL k
      have := nR k
      refine ⟨by omega, by omega, by omega, by omega, by omega, by omega, by omega⟩⟩⟩
    refine ⟨fun h => absurd h (by rw [e14]; omega), fun _ => ?_⟩
    rw [e14, n14, l0]
    refine ⟨⟨by omega, by omega⟩, k_showsFigure hG hL hA1 y0 y1 (fun hs => ⟨fun z => absurd z (by decide), fun _ => ?_⟩) (fun hs => ⟨fun _ => hskip (fun z => hs ⟨z.1, ?_⟩), fun z => absurd rfl z⟩)⟩
    · have hz := zshows_fig hG y0 y1 hs.1
      have hsh : T 59 0 (T 66 0 y) = 0 := by
        by_cases q : T 59 0 (T 66 0 y) = 0
        · exact q
        · exfalso; apply hs.2; rw [hz]; exact if_neg q
      rw [e1, l2, l9]
      refine ⟨fun h => absurd h (by omega), fun _ => ⟨⟨by omega, by omega⟩, k_leftPart (by omega) (by omega) ⟨⟨by omega, by omega⟩, ?_⟩⟩⟩
      obtain ⟨x1, x2, x3, x4, x5, x6, x7⟩ := d1 (T 66 0 y) w2 (by omega)
      intro N2 e2
      have hA2 : Ag T N2 := by rw [e2]; exact hA1.up rfl
      refine ⟨⟨by omega, by omega⟩, k_rightPart hG hL hA2 y0 y1 ⟨⟨by omega, by omega⟩, ?_⟩⟩
      intro N3 e3
      have hA3 : Ag T N3 := by rw [e3]; exact hA2.up rfl
      have e1' := hA3.s1
      have e6' := hA3.s6
      have f3 : Fj (zCW u) M N3 := by rw [e3, e2]; exact (f1.up ⟨by decide, by decide, rfl⟩).up ⟨by decide, by decide, rfl⟩
      have v52 : N2 52 u (T 66 0 y) = max (zL1 T (T 66 0 y) y) (zleft (T 74 0 y)) := by rw [e2, up_eq, x4]
      have v53 : N2 53 u (T 66 0 y) = zR1 T (T 66 0 y) y := by rw [e2, up_s _ _ _ _ (by decide)]; exact x5
      have v54 : N3 54 u (T 66 0 y) = zA1 T (T 66 0 y) y := by rw [e3, up_s _ _ _ _ (by decide), e2, up_s _ _ _ _ (by decide)]; exact x6
      have v55 : N3 55 u (T 66 0 y) = zB1 T (T 66 0 y) y := by rw [e3, up_s _ _ _ _ (by decide), e2, up_s _ _ _ _ (by decide)]; exact x7
      rw [x4] at e2
      rw [v53] at e3
      rw [e1', e6', l1, r3, l9, v54]
      -- other columns
      have ho : ∀ k, 0 ≤ k → k < 6 → k ≠ T 66 0 y → zL1 T k (y + 1) = zL1 T k y ∧ zR1 T k (y + 1) = zR1 T k y ∧ zA1 T k (y + 1) = zA1 T k y ∧ zB1 T k (y + 1) = zB1 T k y := fun k a b hk => by
        rw [sL, sR, sA, sB, if_neg (fun z => hk z.2.2.symm), if_neg (fun z => hk z.2.2.symm), if_neg (fun z => hk z.2.2.symm), if_neg (fun z => hk z.2.2.symm)]
        have := nL k
        have := nR k
        omega
      have hm : zL1 T (T 66 0 y) (y + 1) = max (zL1 T (T 66 0 y) y) (zleft (T 74 0 y)) ∧ zR1 T (T 66 0 y) (y + 1) = max (zR1 T (T 66 0 y) y) (zright T y) ∧ zA1 T (T 66 0 y) (y + 1) = zA1 T (T 66 0 y) y + (if T 60 0 (T 65 0 y) = 1 then max 0 (T 74 0 y) else 0) ∧ zB1 T (T 66 0 y) (y + 1) = zB1 T (T 66 0 y) y + (if T 60 0 (T 65 0 y) = 1 then min 0 (T 74 0 y) else 0) := by
        have hc : T 73 0 y = 1 ∧ T 59 0 (T 66 0 y) = 0 ∧ T 66 0 y = T 66 0 y := ⟨hs.1, hsh, rfl⟩
        rw [sL, sR, sA, sB, if_pos hc, if_pos hc, if_pos hc, if_pos hc]
        exact ⟨rfl, rfl, rfl, rfl⟩
      obtain ⟨hm1, hm2, hm3, hm4⟩ := hm
      have bA' := bA (T 66 0 y)
      have bB' := bB (T 66 0 y)
      refine ⟨fun hp => ⟨⟨by omega, by omega⟩, ih N3 ⟨f3, fun k a b => ?_⟩⟩, fun hp => ⟨⟨by omega, by omega⟩, ⟨by omega, by omega⟩, ⟨by omega, by omega⟩, ?_⟩⟩
      · rw [if_neg hp] at hm3 hm4
        obtain ⟨y1', y2', y3', y4', y5', y6', y7'⟩ := d1 k a b
        rw [e3, up_s _ _ _ _ (by decide), up_s _ _ _ _ (by decide), up_s _ _ _ _ (by decide), up_s _ _ _ _ (by decide), up_s _ _ _ _ (by decide) (s' := 54), up_s _ _ _ _ (by decide) (s' := 55), e2, up_s _ _ _ _ (by decide), up_s _ _ _ _ (by decide), up_s _ _ _ _ (by decide), up_s _ _ _ _ (by decide) (s' := 54), up_s _ _ _ _ (by decide) (s' := 55)]
        by_cases hk : k = T 66 0 y
        · subst hk
          rw [up_eq, up_eq, hm1, hm2, hm3, hm4, Int.add_zero, Int.add_zero]
          exact ⟨y1', y2', y3', rfl, rfl, y6', y7'⟩
        · obtain ⟨o1, o2, o3, o4⟩ := ho k a b hk
          rw [up_k _ _ _ _ _ _ hk, up_k _ _ _ _ _ _ hk, up_s _ _ _ _ (by decide), o1, o2, o3, o4]
          exact ⟨y1', y2', y3', y4', y5', y6', y7'⟩
      · intro N4 e4
        have v55' : N4 55 u (T 66 0 y) = zB1 T (T 66 0 y) y := by rw [e4, up_s _ _ _ _ (by decide)]; exact v55
        have hA4 : Ag T N4 := by rw [e4]; exact hA3.up rfl
        have e1'' := hA4.s1
        rw [e1'', l9, v55']
        refine ⟨⟨by omega, by omega⟩, ⟨by omega, by omega⟩, ⟨by omega, by omega⟩, ?_⟩
        intro N5 e5
        rw [if_pos hp] at hm3 hm4
        refine ⟨⟨by omega, by omega⟩, ih N5 ⟨by rw [e5, e4]; exact (f3.up ⟨by decide, by decide, rfl⟩).up ⟨by decide, by decide, rfl⟩, fun k a b => ?_⟩⟩
        obtain ⟨y1', y2', y3', y4', y5', y6', y7'⟩ := d1 k a b
        have s49 : N5 49 u k = N 49 u k := by rw [e5, up_s _ _ _ _ (by decide), e4, up_s _ _ _ _ (by decide), e3, up_s _ _ _ _ (by decide), e2, up_s _ _ _ _ (by decide)]
        have s50 : N5 50 u k = N 50 u k := by rw [e5, up_s _ _ _ _ (by decide), e4, up_s _ _ _ _ (by decide), e3, up_s _ _ _ _ (by decide), e2, up_s _ _ _ _ (by decide)]
        have s51 : N5 51 u k = N 51 u k := by rw [e5, up_s _ _ _ _ (by decide), e4, up_s _ _ _ _ (by decide), e3, up_s _ _ _ _ (by decide), e2, up_s _ _ _ _ (by decide)]
        rw [s49, s50, s51]
        by_cases hk : k = T 66 0 y
        · subst hk
          have s52 : N5 52 u (T 66 0 y) = max (zL1 T (T 66 0 y) y) (zleft (T 74 0 y)) := by rw [e5, up_s _ _ _ _ (by decide), e4, up_s _ _ _ _ (by decide), e3, up_s _ _ _ _ (by decide), e2, up_eq]
          have s53 : N5 53 u (T 66 0 y) = max (zR1 T (T 66 0 y) y) (zright T y) := by rw [e5, up_s _ _ _ _ (by decide), e4, up_s _ _ _ _ (by decide), e3, up_eq]
          have s54 : N5 54 u (T 66 0 y) = zA1 T (T 66 0 y) y + max 0 (T 74 0 y) := by rw [e5, up_s _ _ _ _ (by decide), e4, up_eq]
          have s55 : N5 55 u (T 66 0 y) = zB1 T (T 66 0 y) y + min 0 (T 74 0 y) := by rw [e5, up_eq]
          exact ⟨y1', y2', y3', s52.trans hm1.symm, s53.trans hm2.symm, s54.trans hm3.symm, s55.trans hm4.symm⟩
        · obtain ⟨o1, o2, o3, o4⟩ := ho k a b hk
          have s52 : N5 52 u k = N 52 u k := by rw [e5, up_s _ _ _ _ (by decide), e4, up_s _ _ _ _ (by decide), e3, up_s _ _ _ _ (by decide), e2, up_k _ _ _ _ _ _ hk]
          have s53 : N5 53 u k = N 53 u k := by rw [e5, up_s _ _ _ _ (by decide), e4, up_s _ _ _ _ (by decide), e3, up_k _ _ _ _ _ _ hk, e2, up_s _ _ _ _ (by decide)]
          have s54 : N5 54 u k = N 54 u k := by rw [e5, up_s _ _ _ _ (by decide), e4, up_k _ _ _ _ _ _ hk, e3, up_s _ _ _ _ (by decide), e2, up_s _ _ _ _ (by decide)]
          have s55 : N5 55 u k = N 55 u k := by rw [e5, up_k _ _ _ _ _ _ hk, e4, up_s _ _ _ _ (by decide), e3, up_s _ _ _ _ (by decide), e2, up_s _ _ _ _ (by decide)]
          rw [s52, s53, s54, s55, o1, o2, o3, o4]
          exact ⟨y1', y2', y3', y4', y5', y6', y7'⟩
    · intro q
      have hz := zshows_fig hG y0 y1 z.1
      rw [q] at hz
      have : zsh T (T 66 0 y) = 1 := if_pos z.2
      omega
end CS
