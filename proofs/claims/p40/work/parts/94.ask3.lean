/-! the pure part: calls that only ask, fourth part: sums, and lines shown -/
section IA
variable {T M : Mem} {O : zSt} {κ : Nat → Int} {K : (Nat → Int) → Mem → Prop} {p1 p2 : Int}
/-- figures of body rows, by places -/
def zfb (T : Mem) (c m : Int) : Int := zfv T (zbo T m) c
theorem zfb_r (hG : Good T) {c b e : Int} (c0 : 0 ≤ c) (c1 : c < 6) (b0 : 0 ≤ b) (be : b ≤ e) (e1 : e ≤ T 64 0 1) : -24000000 ≤ zS (zfb T c) b e ∧ zS (zfb T c) b e ≤ 24000000 := by
  have hm := hG.many (p := 1) (by omega) (by omega)
  have := zS_bd (f := zfb T c) (a := b) (b := e) (-1000000) 1000000 be (fun m a d => by
    have z := zbo_r hG (by omega : 0 ≤ m) (by omega : m < T 64 0 1)
    exact zfv_r hG z.1 z.2.1 c0 c1)
  omega
theorem k_sumOfBody (hG : Good T) (hL : zLk T) (hA : Ag T M) {b e c : Int} (c0 : 0 ≤ c) (c1 : c < 6) (b0 : 0 ≤ b) (be : b ≤ e) (e1 : e ≤ T 64 0 1) {Qm : Int → Mem → Prop} (hq : Qm (zS (zfb T c) b e) M) : wp_X3_sumOfBody b e c M Qm := by
  have hm := hG.many (p := 1) (by omega) (by omega)
  have e16 := hA.s16
  obtain ⟨q1, q2⟩ := hL.part (p := 1) (by omega) (by omega)
  have q1 : T 16 0 (-1) = T 64 0 1 := q1
  have q2 : ∀ k, 0 ≤ k → k < T 64 0 1 → T 16 0 k = zbo T k := q2
  unfold wp_X3_sumOfBody
  rw [show max 0 b = b by omega]
  refine zLoop (fun n k s => wp_X3_sumOfBody_10 b e c Qm n s k M) (fun y s => s = zS (zfb T c) b y) e be (zS_self _ (Int.le_refl _)).symm (fun n s hs => ?_) (fun n y s y0 y1 hs ih => ?_)
  · refine ⟨fun _ => ?_, fun z => absurd z (by omega)⟩
    rw [hs]; exact hq
  · have z := zbo_r hG (by omega : 0 ≤ y) (by omega : y < T 64 0 1)
    have hb := zfb_r hG c0 c1 b0 y0 (by omega)
    have hf := zfv_r hG z.1 z.2.1 c0 c1
    simp only [wp_X3_sumOfBody_10, e16, q1, q2 y (by omega) (by omega)]
    refine ⟨fun z => absurd z (by omega), fun _ => ⟨fun z => absurd z (by omega), fun _ => ⟨⟨by omega, by omega⟩, k_figureAt hG hL hA z.1 z.2.1 c0 c1 ⟨by rw [hs]; exact ⟨by omega, by omega⟩, ⟨by omega, by omega⟩, ih _ ?_⟩⟩⟩⟩
    rw [zS_succ _ y0, hs]; rfl
/-- where a run begins -/
def zrun (T : Mem) (r b : Int) : Prop := (0 ≤ b ∧ b ≤ T 6 r 6) ∧ (∀ m, b ≤ m → m ≤ T 6 r 6 → T 61 0 (zbo T m) = T 61 0 r) ∧ (b = 0 ∨ ¬ T 61 0 (zbo T (b - 1)) = T 61 0 r)
end IA
