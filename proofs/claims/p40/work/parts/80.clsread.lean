/-! the pure part: the class holds what the reference holds; its methods that only read -/
def zLk (T : Mem) : Prop :=
  (T 12 0 (-1) = T 11 0 4 ∧ T 13 0 (-1) = T 11 0 8 ∧ T 14 0 (-1) = T 11 0 15) ∧
  (∀ k, 0 ≤ k → k < T 11 0 4 → T 12 0 k = k ∧ T 2 k 0 = T 56 0 k ∧ T 2 k 1 = T 57 0 k ∧ T 2 k 3 = T 58 0 k) ∧
  (∀ r, 0 ≤ r → r < T 11 0 8 → T 13 0 r = r ∧ T 6 r 0 = r ∧ T 6 r 1 = T 60 0 r ∧ (T 60 0 r = 1 → T 6 r 2 = T 61 0 r ∧ T 6 r 3 = T 62 0 r) ∧ ∀ k, 0 ≤ k → k < 6 → T 37 r k = T 69 0 (6 * r + k) - 1) ∧
  (∀ c, 0 ≤ c → c < T 11 0 15 → T 14 0 c = c ∧ T 1 c 0 = T 65 0 c ∧ T 1 c 1 = T 66 0 c ∧ T 1 c 2 = T 67 0 c ∧ T 1 c 3 = T 68 0 c ∧ T 1 c 7 = T 72 0 c ∧ T 1 c 8 = T 73 0 c ∧ T 1 c 9 = T 74 0 c ∧ T 1 c 10 = T 75 0 c ∧ T 1 c 11 = T 76 0 c ∧ T 1 c 12 = zshows T c ∧ ∀ i, 0 ≤ i → i < T 72 0 c → T 25 c i = T 70 0 (12 * c + i) ∧ T 26 c i = T 71 0 (12 * c + i)) ∧
  (∀ p, 0 ≤ p → p ≤ 2 → T (rowL p) 0 (-1) = T 64 0 p ∧ ∀ k, 0 ≤ k → k < T 64 0 p → T (rowL p) 0 k = T 63 0 (24 * p + k)) ∧
  (∀ k, 0 ≤ k → k < 6 → T 33 0 k = if k < T 11 0 4 then zsh T k else 0) ∧
  (T 10 0 7 = T 11 0 24 ∧ T 10 0 8 = T 11 0 25 ∧ T 10 0 9 = T 11 0 26 ∧ True) ∧ True
def zcont (T : Mem) : Int := zS (zopen T) 0 (T 11 0 4)
def zac2 (T : Mem) (c : Int) (w : Int → Int) : Int := max 0 (zshows T c - 1) + zS (fun k => if T 59 0 k = 0 then w k else 0) (T 66 0 c) (T 66 0 c + T 68 0 c)
section CR
variable {T M : Mem}
theorem zLk.n (h : zLk T) : T 12 0 (-1) = T 11 0 4 ∧ T 13 0 (-1) = T 11 0 8 ∧ T 14 0 (-1) = T 11 0 15 := h.1
theorem zLk.col (h : zLk T) {k : Int} (k0 : 0 ≤ k) (k1 : k < T 11 0 4) : T 12 0 k = k ∧ T 2 k 0 = T 56 0 k ∧ T 2 k 1 = T 57 0 k ∧ T 2 k 3 = T 58 0 k := h.2.1 k k0 k1
theorem zLk.row (h : zLk T) {r : Int} (r0 : 0 ≤ r) (r1 : r < T 11 0 8) : T 13 0 r = r ∧ T 6 r 0 = r ∧ T 6 r 1 = T 60 0 r ∧ (T 60 0 r = 1 → T 6 r 2 = T 61 0 r ∧ T 6 r 3 = T 62 0 r) ∧ ∀ k, 0 ≤ k → k < 6 → T 37 r k = T 69 0 (6 * r + k) - 1 := h.2.2.1 r r0 r1
theorem zLk.cell (h : zLk T) {c : Int} (c0 : 0 ≤ c) (c1 : c < T 11 0 15) : T 14 0 c = c ∧ T 1 c 0 = T 65 0 c ∧ T 1 c 1 = T 66 0 c ∧ T 1 c 2 = T 67 0 c ∧ T 1 c 3 = T 68 0 c ∧ T 1 c 7 = T 72 0 c ∧ T 1 c 8 = T 73 0 c ∧ T 1 c 9 = T 74 0 c ∧ T 1 c 10 = T 75 0 c ∧ T 1 c 11 = T 76 0 c ∧ T 1 c 12 = zshows T c ∧ ∀ i, 0 ≤ i → i < T 72 0 c → T 25 c i = T 70 0 (12 * c + i) ∧ T 26 c i = T 71 0 (12 * c + i) := h.2.2.2.1 c c0 c1
theorem zLk.part (h : zLk T) {p : Int} (p0 : 0 ≤ p) (p1 : p ≤ 2) : T (rowL p) 0 (-1) = T 64 0 p ∧ ∀ k, 0 ≤ k → k < T 64 0 p → T (rowL p) 0 k = T 63 0 (24 * p + k) := h.2.2.2.2.1 p p0 p1
theorem zLk.shn (h : zLk T) {k : Int} (k0 : 0 ≤ k) (k1 : k < 6) : T 33 0 k = if k < T 11 0 4 then zsh T k else 0 := h.2.2.2.2.2.1 k k0 k1
theorem zLk.pap (h : zLk T) : T 10 0 7 = T 11 0 24 ∧ T 10 0 8 = T 11 0 25 ∧ T 10 0 9 = T 11 0 26 ∧ True := h.2.2.2.2.2.2.1
theorem k_hasColumn (hG : Good T) (hL : zLk T) (hA : Ag T M) {p : Int} {Qm : Int → Mem → Prop} (hy : 0 ≤ p ∧ p < T 11 0 4 → Qm 1 M) (hn : ¬ (0 ≤ p ∧ p < T 11 0 4) → Qm 0 M) : wp_X3_hasColumn p M Qm := by
  have e := hA.s12
  have n := hL.n.1
  simp only [wp_X3_hasColumn, e, n]
  refine ⟨fun h => hn (by omega), fun h => ?_⟩
  by_cases h1 : T 11 0 4 ≤ p
  · rw [if_pos h1]; exact ⟨bit_0, hn (by omega)⟩
  · rw [if_neg h1]; exact ⟨bit_1, hy (by omega)⟩
theorem k_hasRow (hG : Good T) (hL : zLk T) (hA : Ag T M) {p : Int} {Qm : Int → Mem → Prop} (hy : 0 ≤ p ∧ p < T 11 0 8 → Qm 1 M) (hn : ¬ (0 ≤ p ∧ p < T 11 0 8) → Qm 0 M) : wp_X3_hasRow p M Qm := by
  have e := hA.s13
  have n := hL.n.2.1
  simp only [wp_X3_hasRow, e, n]
  refine ⟨fun h => hn (by omega), fun h => ?_⟩
  by_cases h1 : T 11 0 8 ≤ p
  · rw [if_pos h1]; exact ⟨bit_0, hn (by omega)⟩
  · rw [if_neg h1]; exact ⟨bit_1, hy (by omega)⟩
theorem k_hasCell (hG : Good T) (hL : zLk T) (hA : Ag T M) {p : Int} {Qm : Int → Mem → Prop} (hy : 0 ≤ p ∧ p < T 11 0 15 → Qm 1 M) (hn : ¬ (0 ≤ p ∧ p < T 11 0 15) → Qm 0 M) : wp_X3_hasCell p M Qm := by
  have e := hA.s14
  have n := hL.n.2.2
  simp only [wp_X3_hasCell, e, n]
  refine ⟨fun h => hn (by omega), fun h => ?_⟩
  by_cases h1 : T 11 0 15 ≤ p
  · rw [if_pos h1]; exact ⟨bit_0, hn (by omega)⟩
  · rw [if_neg h1]; exact ⟨bit_1, hy (by omega)⟩
theorem k_isBodyRow (hG : Good T) (hL : zLk T) (hA : Ag T M) {p : Int} {Qm : Int → Mem → Prop} (hy : 0 ≤ p ∧ p < T 11 0 8 ∧ T 60 0 p = 1 → Qm 1 M) (hn : ¬ (0 ≤ p ∧ p < T 11 0 8 ∧ T 60 0 p = 1) → Qm 0 M) : wp_X3_isBodyRow p M Qm := by
  have e := hA.s13
  have e6 := hA.s6
  have n := hL.n.2.1
  refine k_hasRow hG hL hA (fun h => ⟨fun z => absurd z (by decide), fun _ => ?_⟩) (fun h => ⟨fun _ => hn (by omega), fun z => absurd rfl z⟩)
  obtain ⟨l1, l2, l3, -⟩ := hL.row h.1 h.2
  rw [e, e6, n, l1, l3]
  by_cases h1 : T 60 0 p = 1
  · rw [if_neg (by omega)]; exact ⟨⟨by omega, by omega⟩, bit_1, hy ⟨h.1, h.2, h1⟩⟩
  · rw [if_pos h1]; exact ⟨⟨by omega, by omega⟩, bit_0, hn (by omega)⟩
theorem k_cellNumberAt (hG : Good T) (hL : zLk T) (hA : Ag T M) {r k : Int} {Qm : Int → Mem → Prop} (hy : (0 ≤ r ∧ r < T 11 0 8) ∧ 0 ≤ k ∧ k < T 11 0 4 → Qm (T 69 0 (6 * r + k) - 1) M) (hn : ¬ ((0 ≤ r ∧ r < T 11 0 8) ∧ 0 ≤ k ∧ k < T 11 0 4) → Qm (-1) M) : wp_X3_cellNumberAt r k M Qm := by
  have hC := hG.nC
  have e := hA.s13
  have e37 := hA.s37
  have n := hL.n.2.1
  refine k_hasRow hG hL hA (fun h => ⟨fun z => absurd z (by decide), fun _ => k_hasColumn hG hL hA (fun h2 => ⟨fun z => absurd z (by decide), fun _ => ?_⟩) (fun h2 => ⟨fun _ => hn (fun z => h2 z.2), fun z => absurd rfl z⟩)⟩) (fun h => ⟨fun _ => hn (fun z => h z.1), fun z => absurd rfl z⟩)
  obtain ⟨l1, l2, l3, l4, l5⟩ := hL.row h.1 h.2
  have := l5 k h2.1 (by omega)
  rw [e, e37, n, l1]
  refine ⟨⟨by omega, by omega⟩, ⟨by omega, by omega⟩, ?_⟩
  show Qm (T 37 r k) M
  rw [this]
  exact hy ⟨h, h2⟩
theorem k_isShown (hG : Good T) (hL : zLk T) (hA : Ag T M) {p : Int} {Qm : Int → Mem → Prop} (hy : 0 ≤ p ∧ p < T 11 0 4 ∧ T 59 0 p = 0 → Qm 1 M) (hn : ¬ (0 ≤ p ∧ p < T 11 0 4 ∧ T 59 0 p = 0) → Qm 0 M) : wp_X3_isShown p M Qm := by
  have hC := hG.nC
  have e := hA.s33
  simp only [wp_X3_isShown, e]
  refine ⟨fun _ => ⟨fun _ => ⟨⟨by omega, by omega⟩, trivial⟩, trivial⟩, ?_⟩
  by_cases h0 : p < 0
  · rw [if_pos h0]; exact ⟨bit_0, hn (by omega)⟩
  · rw [if_neg h0]
    by_cases h6 : 6 ≤ p
    · rw [if_pos h6]; exact ⟨bit_0, hn (by omega)⟩
    · rw [if_neg h6, hL.shn (k := p) (by omega) (by omega)]
      by_cases h4 : p < T 11 0 4
      · rw [if_pos h4]
        unfold zsh
        by_cases h9 : T 59 0 p = 0
        · rw [if_pos h9, if_neg (by decide)]; exact ⟨bit_1, hy ⟨by omega, h4, h9⟩⟩
        · rw [if_neg h9, if_pos rfl]; exact ⟨bit_0, hn (by omega)⟩
      · rw [if_neg h4, if_pos rfl]; exact ⟨bit_0, hn (by omega)⟩
theorem k_isShownContent (hG : Good T) (hL : zLk T) (hA : Ag T M) {p : Int} {Qm : Int → Mem → Prop} (hy : 0 ≤ p ∧ p < T 11 0 4 ∧ zopen T p = 1 → Qm 1 M) (hn : ¬ (0 ≤ p ∧ p < T 11 0 4 ∧ zopen T p = 1) → Qm 0 M) : wp_X3_isShownContent p M Qm := by
  have e12 := hA.s12
  have e2 := hA.s2
  have n := hL.n.1
  have ho : zopen T p = 1 → T 59 0 p = 0 ∧ T 56 0 p = 0 := fun z => by
    unfold zopen at z
    by_cases a : T 59 0 p = 0
    · rw [if_neg (by omega)] at z
      by_cases b : T 56 0 p = 0
      · exact ⟨a, b⟩
      · rw [if_pos b] at z; exact absurd z (by decide)
    · rw [if_pos a] at z; exact absurd z (by decide)
  refine k_isShown hG hL hA (fun h => ⟨fun z => absurd z (by decide), fun _ => ?_⟩) (fun h => ⟨fun _ => hn (fun z => h ⟨z.1, z.2.1, (ho z.2.2).1⟩), fun z => absurd rfl z⟩)
  obtain ⟨l1, l2, -⟩ := hL.col h.1 h.2.1
  rw [e12, e2, n, l1, l2]
  refine ⟨fun z => absurd z (by omega), fun _ => ⟨⟨by omega, by omega⟩, ?_⟩⟩
  by_cases h0 : T 56 0 p = 0
  · rw [if_neg (by omega)]
    exact ⟨bit_1, hy ⟨h.1, h.2.1, by unfold zopen; rw [if_neg (by omega), if_neg (by omega)]⟩⟩
  · rw [if_pos h0]
    exact ⟨bit_0, hn (fun z => h0 (ho z.2.2).2)⟩
theorem k_isTotalled (hG : Good T) (hL : zLk T) (hA : Ag T M) {p : Int} {Qm : Int → Mem → Prop} (hy : 0 ≤ p ∧ p < T 11 0 4 ∧ ztt T p = 1 → Qm 1 M) (hn : ¬ (0 ≤ p ∧ p < T 11 0 4 ∧ ztt T p = 1) → Qm 0 M) : wp_X3_isTotalled p M Qm := by
  have e12 := hA.s12
  have e2 := hA.s2
  have n := hL.n.1
  have ho : ztt T p = 1 → T 59 0 p = 0 ∧ ¬ T 58 0 p = 0 := fun z => by
    unfold ztt at z
    by_cases a : T 58 0 p = 0
    · rw [if_pos a] at z; exact absurd z (by decide)
    · rw [if_neg a] at z
      by_cases b : T 59 0 p = 0
      · exact ⟨b, a⟩
      · rw [if_pos b] at z; exact absurd z (by decide)
  refine k_isShown hG hL hA (fun h => ⟨fun z => absurd z (by decide), fun _ => ?_⟩) (fun h => ⟨fun _ => hn (fun z => h ⟨z.1, z.2.1, (ho z.2.2).1⟩), fun z => absurd rfl z⟩)
  obtain ⟨l1, l2, l3, l4⟩ := hL.col h.1 h.2.1
  rw [e12, e2, n, l1, l4]
  refine ⟨fun z => absurd z (by omega), fun _ => ⟨⟨by omega, by omega⟩, ?_⟩⟩
  by_cases h0 : T 58 0 p = 0
  · rw [if_pos h0]
    exact ⟨bit_0, hn (fun z => (ho z.2.2).2 h0)⟩
  · rw [if_neg h0]
    exact ⟨bit_1, hy ⟨h.1, h.2.1, by unfold ztt; rw [if_neg h0, if_neg (by omega)]⟩⟩
theorem k_countShownColumns (hG : Good T) (hL : zLk T) (hA : Ag T M) {Qm : Int → Mem → Prop} (hq : Qm (zvis T) M) : wp_X3_countShownColumns M Qm := by
  have hC := hG.nC
  have e12 := hA.s12
  have n := hL.n.1
  refine zLoop (fun n k s => wp_X3_countShownColumns_4 Qm n s k M) (fun k s => s = zS (zsh T) 0 k) (T 11 0 4) hC.1 (zS_self _ (by omega)).symm (fun n s hs => ?_) (fun n k s h0 h1 hs ih => ?_)
  · refine ⟨fun _ => by rw [hs]; exact hq, fun h => absurd h (by rw [e12]; omega)⟩
  · have b := zS_bd (f := zsh T) 0 1 h0 (fun k _ _ => zsh_r T k)
    refine ⟨fun h => absurd h (by rw [e12]; omega), fun _ => k_isShown hG hL hA (fun h => ?_) (fun h => ?_)⟩
    · rw [if_neg (by decide)]
      refine ⟨by rw [hs]; exact ⟨by omega, by omega⟩, ⟨by omega, by omega⟩, ih _ ?_⟩
      rw [zS_succ _ h0, hs, zsh, if_pos h.2.2]
    · rw [if_pos rfl]
      refine ⟨by rw [hs]; exact ⟨by omega, by omega⟩, ⟨by omega, by omega⟩, ih _ ?_⟩
      rw [zS_succ _ h0, hs, zsh, if_neg (fun z => h ⟨h0, h1, z⟩)]
theorem k_countShown (hG : Good T) (hL : zLk T) (hA : Ag T M) {c : Int} (c0 : 0 ≤ c) (c1 : c < T 11 0 15) {Qm : Int → Mem → Prop} (hq : Qm (zshows T c) M) : wp_X3_countShown c M Qm := by
  obtain ⟨-, k1, -, k2, -⟩ := hG.cell c c0 c1
  obtain ⟨l0, l1, l2, l3, l4, -⟩ := hL.cell c0 c1
  have hC := hG.nC
  have e1 := hA.s1
  unfold wp_X3_countShown
  rw [e1, l2]
  refine zLoop (fun n k s => wp_X3_countShown_7 c Qm n s k M) (fun k s => s = zS (zsh T) (T 66 0 c) k) (T 66 0 c + T 68 0 c) (by omega) (zS_self _ (by omega)).symm (fun n s hs => ?_) (fun n k s h0 h1 hs ih => ?_)
  · simp only [wp_X3_countShown_7, e1, l2, l4]
    refine ⟨⟨by omega, by omega⟩, fun _ => by rw [hs]; exact hq, fun h => absurd h (by omega)⟩
  · have b := zS_bd (f := zsh T) 0 1 h0 (fun k _ _ => zsh_r T k)
    simp only [wp_X3_countShown_7, e1, l2, l4]
    refine ⟨⟨by omega, by omega⟩, fun h => absurd h (by omega), fun _ => k_isShown hG hL hA (fun h => ?_) (fun h => ?_)⟩
    · rw [if_neg (by decide)]
      refine ⟨by rw [hs]; exact ⟨by omega, by omega⟩, ⟨by omega, by omega⟩, ih _ ?_⟩
      rw [zS_succ _ h0, hs, zsh, if_pos h.2.2]
    · rw [if_pos rfl]
      refine ⟨by rw [hs]; exact ⟨by omega, by omega⟩, ⟨by omega, by omega⟩, ih _ ?_⟩
      rw [zS_succ _ h0, hs, zsh, if_neg (fun z => h ⟨by omega, by omega, z⟩)]
theorem k_between (hG : Good T) (hL : zLk T) (hA : Ag T M) {Qm : Int → Mem → Prop} (hq : Qm (max 0 (zvis T - 1)) M) : wp_X3_between M Qm := by
  have := zvis_r hG
  exact k_countShownColumns hG hL hA ⟨⟨by omega, by omega⟩, hq⟩
theorem k_widthTogether (hG : Good T) (hL : zLk T) (hA : Ag T M) {a : Nat} {j : Int} {w : Int → Int} (hw : zEq T (M a j) w) (hb : zWB T w) {Qm : Int → Mem → Prop} (hq : Qm (max 0 (zvis T - 1) + zS (fun k => if T 59 0 k = 0 then w k else 0) 0 (T 11 0 4)) M) : wp_X3_widthTogether a j M Qm := by
  have hC := hG.nC
  have hv := zvis_r hG
  have e12 := hA.s12
  have n := hL.n.1
  refine k_between hG hL hA ?_
  refine zLoop (fun n k s => wp_X3_widthTogether_7 a j Qm n s k M) (fun k s => s = max 0 (zvis T - 1) + zS (fun k => if T 59 0 k = 0 then w k else 0) 0 k) (T 11 0 4) hC.1 (by rw [zS_self _ (by omega)]; omega) (fun n s hs => ?_) (fun n k s h0 h1 hs ih => ?_)
  · refine ⟨fun _ => ?_, fun h => absurd h (by rw [e12]; omega)⟩
    rw [hs]; exact hq
  · have b := zS_bd (f := fun k => if T 59 0 k = 0 then w k else 0) (a := 0) (b := k) 0 300 h0 (fun i a b => by
      have := hb i a (by omega)
      show 0 ≤ (if T 59 0 i = 0 then w i else 0) ∧ (if T 59 0 i = 0 then w i else 0) ≤ 300
      split <;> omega)
    have hk := hb k h0 h1
    refine ⟨fun h => absurd h (by rw [e12]; omega), fun _ => ⟨fun h => absurd h (by omega), fun _ => k_isShown hG hL hA (fun h => ?_) (fun h => ?_)⟩⟩
    · rw [if_neg (by decide), hw k h0 h1]
      refine ⟨fun _ => ⟨⟨by omega, by omega⟩, trivial⟩, by rw [hs]; exact ⟨by omega, by omega⟩, ⟨by omega, by omega⟩, ih _ ?_⟩
      rw [zS_succ _ h0, hs, if_pos h.2.2]
      omega
    · rw [if_pos rfl]
      refine ⟨fun _ => ⟨⟨by omega, by omega⟩, trivial⟩, by rw [hs]; exact ⟨by omega, by omega⟩, ⟨by omega, by omega⟩, ih _ ?_⟩
      rw [zS_succ _ h0, hs, if_neg (fun z => h ⟨h0, h1, z⟩)]
      omega
theorem k_widthOfCell (hG : Good T) (hL : zLk T) (hA : Ag T M) {c : Int} (c0 : 0 ≤ c) (c1 : c < T 11 0 15) {a : Nat} {j : Int} {w : Int → Int} (hw : zEq T (M a j) w) (hb : zWB T w) {Qm : Int → Mem → Prop} (hq : Qm (zac2 T c w) M) : wp_X3_widthOfCell c a j M Qm := by
  obtain ⟨-, k1, -, k2, -⟩ := hG.cell c c0 c1
  obtain ⟨l0, l1, l2, l3, l4, -, -, -, -, -, l12, -⟩ := hL.cell c0 c1
  have hC := hG.nC
  have hs := zshows_r hG c0 c1
  have e1 := hA.s1
  have em : min (T 66 0 c + T 68 0 c) 6 = T 66 0 c + T 68 0 c := by omega
  simp only [wp_X3_widthOfCell, e1, l2, l4, l12, em]
  refine ⟨⟨by omega, by omega⟩, ⟨by omega, by omega⟩, ?_⟩
  refine zLoop (fun n k s => wp_X3_widthOfCell_33 c a j Qm n s (T 66 0 c + T 68 0 c) k M) (fun k s => s = max 0 (zshows T c - 1) + zS (fun k => if T 59 0 k = 0 then w k else 0) (T 66 0 c) k) (T 66 0 c + T 68 0 c) (by omega) (by rw [zS_self _ (by omega)]; omega) (fun n s hs => ?_) (fun n k s h0 h1 hs' ih => ?_)
  · refine ⟨fun _ => ?_, fun h => absurd h (by omega)⟩
    rw [hs]; exact hq
  · have b := zacr_in_r hG hb c0 c1 (n := k) h0 (by omega)
    have hk := hb k (by omega) (by omega)
    refine ⟨fun h => absurd h (by omega), fun _ => k_isShown hG hL hA (fun h => ?_) (fun h => ?_)⟩
    · rw [if_neg (by decide), hw k (by omega) (by omega)]
      refine ⟨fun _ => ⟨⟨by omega, by omega⟩, trivial⟩, by rw [hs']; exact ⟨by omega, by omega⟩, ⟨by omega, by omega⟩, ih _ ?_⟩
      rw [zS_succ _ h0, hs', if_pos h.2.2]
      omega
    · rw [if_pos rfl]
      refine ⟨fun _ => ⟨⟨by omega, by omega⟩, trivial⟩, by rw [hs']; exact ⟨by omega, by omega⟩, ⟨by omega, by omega⟩, ih _ ?_⟩
      rw [zS_succ _ h0, hs', if_neg (fun z => h ⟨by omega, by omega, z⟩)]
      omega
theorem zac2_eq {c : Int} (w : Int → Int) (h : 1 ≤ zshows T c) : zac2 T c w = zacr T c w := by unfold zac2 zacr; omega
theorem k_leftPart_l {p : Int} {Qm : Int → Mem → Prop} : ∀ (m n : Nat) (y w i : Int), m < n → 0 ≤ w → w < zpw m → 0 ≤ y → y + m ≤ 1000 → 0 ≤ i → i + m ≤ 9 → Qm (y + zdg m w) M → wp_X9_leftPart_26 p Qm n y w i M := by
  intro m
  induction m with
  | zero =>
    intro n y w i hn h0 h1 y0 y1 i0 i1 hq
    obtain ⟨n, rfl⟩ : ∃ k, n = k + 1 := ⟨n - 1, by omega⟩
    have ez : zpw 0 = 10 := rfl
    have e : y + zdg 0 w = y := by show y + 0 = y; omega
    rw [e] at hq
    exact ⟨fun _ => hq, fun _ => ⟨fun _ => hq, fun h => absurd h (by omega)⟩⟩
  | succ m ih =>
    intro n y w i hn h0 h1 y0 y1 i0 i1 hq
    obtain ⟨n, rfl⟩ : ∃ k, n = k + 1 := ⟨n - 1, by omega⟩
    have e : zdg (m + 1) w = if w ≤ 9 then 0 else 1 + zdg m (Int.tdiv w 10) := rfl
    rw [e] at hq
    refine ⟨fun h => absurd h (by omega), fun _ => ⟨fun h => ?_, fun h => ⟨⟨by omega, by omega⟩, ⟨by omega, by omega⟩, ?_⟩⟩⟩
    · rw [if_pos (by omega), Int.add_zero] at hq
      exact hq
    · rw [if_neg (by omega)] at hq
      have e2 : zpw (m + 1) = 10 * zpw m := rfl
      rw [Int.tdiv_eq_ediv_of_nonneg h0] at hq ⊢
      refine ih n (y + 1) (w / 10) (i + 1) (by omega) (by omega) (by omega) (by omega) (by omega) (by omega) (by omega) ?_
      rw [show y + 1 + zdg m (w / 10) = y + (1 + zdg m (w / 10)) by omega]
      exact hq
theorem k_leftPart {h : Int} {Qm : Int → Mem → Prop} (h0 : -100000000 ≤ h) (h1 : h ≤ 100000000) (hq : Qm (zleft h) M) : wp_X9_leftPart h M Qm := by
  have ea : (if 0 ≤ h then h else -h) = zabs h := rfl
  have hb : 0 ≤ zabs h ∧ zabs h ≤ 100000000 := by unfold zabs; split <;> omega
  have ey : (0 : Int) ≤ (if 0 ≤ h then (1 : Int) else 2) ∧ (if 0 ≤ h then (1 : Int) else 2) ≤ 2 := by split <;> omega
  unfold wp_X9_leftPart
  rw [ea]
  refine ⟨fun _ => ⟨⟨by omega, by omega⟩, trivial⟩, ⟨by omega, by omega⟩, 10, ?_⟩
  have e9 : zpw 9 = 10000000000 := by decide
  have ed : Int.tdiv (zabs h) 100 = zabs h / 100 := Int.tdiv_eq_ediv_of_nonneg hb.1
  refine k_leftPart_l 9 10 _ _ 0 (by omega) (by omega) (by omega) (by omega) (by omega) (by omega) (by omega) ?_
  exact hq
theorem k_rightPart (hG : Good T) (hL : zLk T) (hA : Ag T M) {c : Int} (c0 : 0 ≤ c) (c1 : c < T 11 0 15) {Qm : Int → Mem → Prop} (hq : Qm (zright T c) M) : wp_X0_rightPart c M Qm := by
  obtain ⟨w1, w2, w3, w4, w5, w6, w7, w8, w9, w10, w11, w12⟩ := hG.cell c c0 c1
  obtain ⟨l0, l1, l2, l3, l4, l7, l8, l9, l10, l11, l12, -⟩ := hL.cell c0 c1
  have hr := zright_r hG c0 c1
  have e1 := hA.s1
  have ee : (if ¬ T 75 0 c = 0 then T 75 0 c + 1 else 0) = (if T 75 0 c ≤ 0 then 0 else T 75 0 c + 1) := by split <;> split <;> omega
  have hr2 : 0 ≤ (if T 75 0 c ≤ 0 then (0 : Int) else T 75 0 c + 1) ∧ (if T 75 0 c ≤ 0 then (0 : Int) else T 75 0 c + 1) ≤ 3 := by split <;> omega
  unfold zright at hr hq
  simp only [wp_X0_rightPart, e1, l10, l11, ee]
  exact ⟨fun _ => ⟨⟨by omega, by omega⟩, trivial⟩, ⟨by omega, by omega⟩, ⟨by omega, by omega⟩, hq⟩
theorem k_leastByWords (hG : Good T) (hL : zLk T) (hA : Ag T M) {c : Int} (c0 : 0 ≤ c) (c1 : c < T 11 0 15) {Qm : Int → Mem → Prop} (hq : Qm (zleast T c) M) : wp_X0_leastByWords c M Qm := by
  obtain ⟨w1, w2, w3, w4, w5, w6, w7, w8, w9, w10, w11, w12⟩ := hG.cell c c0 c1
  obtain ⟨l0, l1, l2, l3, l4, l7, l8, l9, l10, l11, l12, lw⟩ := hL.cell c0 c1
  have e1 := hA.s1
  have e25 := hA.s25
  have e26 := hA.s26
  refine zLoop (fun n k s => wp_X0_leastByWords_4 c Qm n s k M) (fun k s => s = zF (fun m i => max m (zpiece T c i)) 0 0 k) (T 72 0 c) w6.1 (zF_self _ _ (by omega)).symm (fun n s hs => ?_) (fun n k s h0 h1 hs ih => ?_)
  · refine ⟨fun _ => by rw [hs]; exact hq, fun h => absurd h (by rw [e1]; omega)⟩
  · have w := hG.word c k c0 c1 h0 h1
    obtain ⟨a1, a2⟩ := lw k h0 h1
    have hgo : ∀ v, v = zpiece T c k → wp_X0_leastByWords_54 c Qm (wp_X0_leastByWords_4 c Qm n) s k v M := fun v e => ⟨⟨by omega, by omega⟩, ih _ (by rw [zF_succ _ _ h0, hs, e])⟩
    simp only [wp_X0_leastByWords_4, e1, e25, e26, l7, a1, a2]
    refine ⟨fun h => absurd h (by omega), fun _ => ⟨⟨by omega, by omega⟩, fun h => ⟨⟨by omega, by omega⟩, ⟨by omega, by omega⟩, ⟨by omega, by omega⟩, ⟨by omega, by omega⟩, ⟨by omega, by omega⟩, hgo _ ?_⟩, fun h => ⟨⟨by omega, by omega⟩, hgo _ ?_⟩⟩⟩
    · unfold zpiece; rw [if_neg h]
    · unfold zpiece; rw [if_pos h]
theorem k_mostByWords (hG : Good T) (hL : zLk T) (hA : Ag T M) {c : Int} (c0 : 0 ≤ c) (c1 : c < T 11 0 15) {Qm : Int → Mem → Prop} (hq : Qm (zmost T c) M) : wp_X0_mostByWords c M Qm := by
  obtain ⟨w1, w2, w3, w4, w5, w6, w7, w8, w9, w10, w11, w12⟩ := hG.cell c c0 c1
  obtain ⟨l0, l1, l2, l3, l4, l7, l8, l9, l10, l11, l12, lw⟩ := hL.cell c0 c1
  have e1 := hA.s1
  have e25 := hA.s25
  unfold wp_X0_mostByWords
  rw [e1, l7]
  refine ⟨⟨by omega, by omega⟩, ?_⟩
  refine zLoop (fun n k s => wp_X0_mostByWords_13 c Qm n s k M) (fun k s => s = max 0 (T 72 0 c - 1) + zS (fun i => T 70 0 (12 * c + i)) 0 k) (T 72 0 c) w6.1 (by rw [zS_self _ (by omega)]; omega) (fun n s hs => ?_) (fun n k s h0 h1 hs ih => ?_)
  · refine ⟨fun _ => by rw [hs]; exact hq, fun h => absurd h (by rw [e1]; omega)⟩
  · have w := hG.word c k c0 c1 h0 h1
    have hb := zlens_r hG c0 c1 h0 (by omega : k ≤ T 72 0 c)
    obtain ⟨a1, a2⟩ := lw k h0 h1
    simp only [wp_X0_mostByWords_13, e1, e25, l7, a1]
    refine ⟨fun h => absurd h (by omega), fun _ => ⟨⟨by omega, by omega⟩, by rw [hs]; exact ⟨by omega, by omega⟩, ⟨by omega, by omega⟩, ih _ ?_⟩⟩
    rw [zS_succ _ h0, hs]
    omega
theorem k_isOut (hL : zLk T) (hA : Ag T M) {c : Int} (c0 : 0 ≤ c) (c1 : c < T 11 0 15) {Qm : Int → Mem → Prop} (hy : zshows T c = 0 → Qm 1 M) (hn : ¬ zshows T c = 0 → Qm 0 M) : wp_X0_isOut c M Qm := by
  obtain ⟨l0, l1, l2, l3, l4, l7, l8, l9, l10, l11, l12, lw⟩ := hL.cell c0 c1
  have e1 := hA.s1
  simp only [wp_X0_isOut, e1, l12]
  by_cases h : zshows T c = 0
  · rw [if_neg (by omega)]; exact ⟨bit_1, hy h⟩
  · rw [if_pos h]; exact ⟨bit_0, hn h⟩
theorem k_showsFigure (hG : Good T) (hL : zLk T) (hA : Ag T M) {c : Int} (c0 : 0 ≤ c) (c1 : c < T 11 0 15) {Qm : Int → Mem → Prop} (hy : T 73 0 c = 1 ∧ ¬ zshows T c = 0 → Qm 1 M) (hn : ¬ (T 73 0 c = 1 ∧ ¬ zshows T c = 0) → Qm 0 M) : wp_X0_showsFigure c M Qm := by
  obtain ⟨w1, w2, w3, w4, w5, w6, w7, w8, w9, w10, w11, w12⟩ := hG.cell c c0 c1
  obtain ⟨l0, l1, l2, l3, l4, l7, l8, l9, l10, l11, l12, lw⟩ := hL.cell c0 c1
  have e1 := hA.s1
  unfold wp_X0_showsFigure
  rw [e1, l8]
  refine ⟨fun h => hn (by omega), fun h => k_isOut hL hA c0 c1 (fun z => ?_) (fun z => ?_)⟩
  · rw [if_pos (by decide)]; exact ⟨bit_0, hn (fun q => q.2 z)⟩
  · rw [if_neg (by decide)]; exact ⟨bit_1, hy ⟨by omega, z⟩⟩
/-- a figure's cell is of one column -/
theorem zshows_fig (hG : Good T) {c : Int} (c0 : 0 ≤ c) (c1 : c < T 11 0 15) (h : T 73 0 c = 1) : zshows T c = zsh T (T 66 0 c) := by
  obtain ⟨w1, w2, w3, w4, w5, w6, w7, w8, w9, w10, w11, w12⟩ := hG.cell c c0 c1
  obtain ⟨-, -, a⟩ := w11 h
  unfold zshows
  rw [a, zS_succ _ (Int.le_refl _), zS_self _ (Int.le_refl _)]
  omega
end CR
