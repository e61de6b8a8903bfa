/-! the pure part: hide -/
section QA
variable {T M T' : Mem} {O : zSt} {κ : Nat → Int} {K : (Nat → Int) → Mem → Prop} {p1 p2 p3 p4 : Int}
theorem d_isShown {w : Int → Int} (hw : ∀ k, 0 ≤ k → k < 6 → M 33 0 k = w k ∧ (w k = 0 ∨ w k = 1)) {p : Int} (p0 : 0 ≤ p) (p1 : p < 6) {Qm : Int → Mem → Prop} (hq : Qm (w p) M) : wp_X3_isShown p M Qm := by
  obtain ⟨e, b⟩ := hw p p0 p1
  unfold wp_X3_isShown
  rw [e, if_neg (by omega), if_neg (by omega)]
  have ez : (if w p = 0 then (0 : Int) else 1) = w p := by split <;> omega
  rw [ez]
  exact ⟨fun _ => ⟨fun _ => ⟨⟨by omega, by omega⟩, trivial⟩, trivial⟩, b, hq⟩
theorem d_countShown {w : Int → Int} (hw : ∀ k, 0 ≤ k → k < 6 → M 33 0 k = w k ∧ (w k = 0 ∨ w k = 1)) {c a b : Int} (ha : M 1 c 1 = a) (hb : M 1 c 3 = b) (a0 : 0 ≤ a) (b0 : 0 ≤ b) (ab : a + b ≤ 6) {Qm : Int → Mem → Prop} (hq : Qm (zS w a (a + b)) M) : wp_X3_countShown c M Qm := by
  unfold wp_X3_countShown
  rw [ha]
  refine zLoop (fun n k s => wp_X3_countShown_7 c Qm n s k M) (fun k s => s = zS w a k) (a + b) (by omega) (zS_self _ (by omega)).symm (fun n s hs => ?_) (fun n k s h0 h1 hs ih => ?_)
  · simp only [wp_X3_countShown_7, ha, hb]
    refine ⟨⟨by omega, by omega⟩, fun _ => by rw [hs]; exact hq, fun h => absurd h (by omega)⟩
  · have bd := zS_bd (f := w) (a := a) (b := k) 0 1 h0 (fun i x y => by have := (hw i (by omega) (by omega)).2; omega)
    have hk := (hw k (by omega) (by omega)).2
    have ez : (if w k = 0 then (0 : Int) else 1) = w k := by split <;> omega
    simp only [wp_X3_countShown_7, ha, hb]
    refine ⟨⟨by omega, by omega⟩, fun h => absurd h (by omega), fun _ => d_isShown hw (by omega) (by omega) ?_⟩
    rw [ez]
    refine ⟨by rw [hs]; exact ⟨by omega, by omega⟩, ⟨by omega, by omega⟩, ih _ ?_⟩
    rw [zS_succ _ h0, hs]
/-- what hide writes in the class -/
theorem d_hideOrShow (hG : Good T) (hL : zLk T) (hA : Ag T M) {p : Int} (p0 : 0 ≤ p) (p1 : p < T 11 0 4) {v : Int} (hv : v = (if ¬ M 33 0 p = 0 then (0 : Int) else 1)) {w : Int → Int} (hw : ∀ k, 0 ≤ k → k < 6 → up M 33 0 p v 33 0 k = w k ∧ (w k = 0 ∨ w k = 1)) {Qm : Int → Mem → Prop} (hq : ∀ N, (∀ (s : Nat) (j k : Int), ¬ (s = 1 ∧ k = 12 ∧ 0 ≤ j ∧ j < T 11 0 15) → N s j k = up M 33 0 p v s j k) → (∀ c, 0 ≤ c → c < T 11 0 15 → N 1 c 12 = zS w (T 66 0 c) (T 66 0 c + T 68 0 c)) → Qm (if ¬ w p = 0 then (0 : Int) else 1) N) : wp_X3_hideOrShow p M Qm := by
  have hC := hG.nC
  have hKn := hG.nK
  have x14 := hA.s14
  have x1 := hA.s1
  have n14 := hL.n.2.2
  refine ⟨fun z => absurd z (by omega), fun _ => ⟨fun z => absurd z (by omega), fun _ => ⟨⟨by omega, by omega⟩, by split; exact bit_0; exact bit_1, ⟨by omega, by omega⟩, ?_⟩⟩⟩
  intro M1 m1
  rw [← hv] at m1
  refine zLoop (fun n k N => wp_X3_hideOrShow_32 p Qm n k N) (fun y N => (∀ (s : Nat) (j k : Int), ¬ (s = 1 ∧ k = 12 ∧ 0 ≤ j ∧ j < y) → N s j k = M1 s j k) ∧ ∀ c, 0 ≤ c → c < y → N 1 c 12 = zS w (T 66 0 c) (T 66 0 c + T 68 0 c)) (T 11 0 15) hKn.1 ⟨fun _ _ _ _ => rfl, fun c a b => absurd b (by omega)⟩ (fun n N hI => ?_) (fun n y N y0 y1 hI ih => ?_)
  · obtain ⟨f, d⟩ := hI
    have e14 : N 14 0 (-1) = T 11 0 15 := by rw [f 14 0 (-1) (by omega), m1, up_s _ _ _ _ (by decide), x14, n14]
    have hwN : ∀ k, 0 ≤ k → k < 6 → N 33 0 k = w k ∧ (w k = 0 ∨ w k = 1) := fun k a b => by rw [f 33 0 k (by omega), m1]; exact hw k a b
    refine ⟨fun _ => d_isShown hwN p0 (by omega) ⟨by split; exact bit_0; exact bit_1, hq N (fun s j k h => by rw [f s j k h, m1]) d⟩, fun z => absurd z (by rw [e14]; omega)⟩
  · obtain ⟨f, d⟩ := hI
    have e14 : N 14 0 (-1) = T 11 0 15 := by rw [f 14 0 (-1) (by omega), m1, up_s _ _ _ _ (by decide), x14, n14]
    have hwN : ∀ k, 0 ≤ k → k < 6 → N 33 0 k = w k ∧ (w k = 0 ∨ w k = 1) := fun k a b => by rw [f 33 0 k (by omega), m1]; exact hw k a b
    obtain ⟨l0, l1, l2, l3, l4, -⟩ := hL.cell y0 y1
    obtain ⟨w1, w2, w3, w4, -⟩ := hG.cell y y0 y1
    have ey : N 14 0 y = y := by rw [f 14 0 y (by omega), m1, up_s _ _ _ _ (by decide), x14, l0]
    have e1 : N 1 y 1 = T 66 0 y := by rw [f 1 y 1 (by omega), m1, up_s _ _ _ _ (by decide), x1, l2]
    have e3 : N 1 y 3 = T 68 0 y := by rw [f 1 y 3 (by omega), m1, up_s _ _ _ _ (by decide), x1, l4]
    simp only [wp_X3_hideOrShow_32, e14, ey]
    refine ⟨fun z => absurd z (by omega), fun _ => ⟨⟨by omega, by omega⟩, ⟨by omega, by omega⟩, d_countShown hwN e1 e3 w2 (by omega) (by omega) ?_⟩⟩
    intro N1 n1
    refine ⟨⟨by omega, by omega⟩, ih N1 ⟨fun s j k h => ?_, fun c a b => ?_⟩⟩
    · rw [n1, up_at, if_neg (by omega)]; exact f s j k (by omega)
    · by_cases e : c = y
      · rw [e, n1, up_eq]
      · rw [n1, up_j _ _ _ _ _ e]; exact d c a (by omega)
end QA
