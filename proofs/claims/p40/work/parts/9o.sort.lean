/-! the pure part: sort, both sides -/
section ZC
variable {T M : Mem}
/-- what sorting reads -/
def zAh (T M : Mem) : Prop := ∀ (s : Nat) (j k : Int), (s = 1 ∨ s = 12 ∨ s = 14 ∨ s = 33 ∨ s = 37 ∨ s = 59 ∨ s = 60 ∨ s = 64 ∨ s = 65 ∨ s = 67 ∨ s = 69 ∨ s = 73 ∨ s = 74 ∨ (s = 11 ∧ (k = 4 ∨ k = 8 ∨ k = 15)) ∨ (s = 16 ∧ k = -1)) → M s j k = T s j k
theorem Ag.ah (hA : Ag T M) : zAh T M := fun s j k z => hA s j k (by
  simp only [zin, Bool.or_eq_true, Bool.and_eq_true, decide_eq_true_eq]
  omega)
theorem zAh.fj {Z : Nat → Int → Int → Prop} {N : Mem} (hx : zAh T M) (f : Fj Z M N) (hz : ∀ (s : Nat) (j k : Int), Z s j k → (s = 16 ∧ 0 ≤ k) ∨ s = 63 ∨ s = 85 ∨ s = 6 ∨ s = 10 ∨ s = 103 ∨ (s = 11 ∧ k = 59)) : zAh T N := fun s j k z => by
  rw [f s j k (fun y => by have := hz s j k y; omega)]
  exact hx s j k z
theorem zAh.e (hx : zAh T M) (s : Nat) (hs : s = 1 ∨ s = 12 ∨ s = 14 ∨ s = 33 ∨ s = 37 ∨ s = 59 ∨ s = 60 ∨ s = 64 ∨ s = 65 ∨ s = 67 ∨ s = 69 ∨ s = 73 ∨ s = 74) : M s = T s := funext fun j => funext fun k => hx s j k (by omega)
theorem k2_isShown (hG : Good T) (hL : zLk T) (hx : zAh T M) {p : Int} {Qm : Int → Mem → Prop} (hy : 0 ≤ p ∧ p < T 11 0 4 ∧ T 59 0 p = 0 → Qm 1 M) (hn : ¬ (0 ≤ p ∧ p < T 11 0 4 ∧ T 59 0 p = 0) → Qm 0 M) : wp_X3_isShown p M Qm := by
  have hC := hG.nC
  have e := hx.e 33 (by decide)
  simp only [wp_X3_isShown, e]
  refine ⟨fun _ => ⟨fun _ => ⟨⟨by omega, by omega⟩, trivial⟩, trivial⟩, ?_⟩
  by_cases h0 : p < 0
  · rw [if_pos h0]; exact ⟨bit_0, hn (by omega)⟩
  · rw [if_neg h0]
    by_cases h6 : 6 ≤ p
    · rw [if_pos h6]; exact ⟨bit_0, hn (by omega)⟩
    · rw [if_neg h6, hL.shn (k := p) (by omega) (by omega)]
      by_cases h4 : p < T 11 0 4
      · rw [if_pos h4]
        unfold zsh
        by_cases h9 : T 59 0 p = 0
        · rw [if_pos h9, if_neg (by decide)]; exact ⟨bit_1, hy ⟨by omega, h4, h9⟩⟩
        · rw [if_neg h9, if_pos rfl]; exact ⟨bit_0, hn (by omega)⟩
      · rw [if_neg h4, if_pos rfl]; exact ⟨bit_0, hn (by omega)⟩
theorem k2_hasFigureAt (hG : Good T) (hL : zLk T) (hx : zAh T M) {r c : Int} (r0 : 0 ≤ r) (r1 : r < T 11 0 8) (c0 : 0 ≤ c) (c1 : c < T 11 0 4) {Qm : Int → Mem → Prop} (hy : ¬ zfig T r c = -1 → Qm 1 M) (hn : zfig T r c = -1 → Qm 0 M) : wp_X3_hasFigureAt r c M Qm := by
  have hC := hG.nC
  have e14 := hx.e 14 (by decide)
  have e1 := hx.e 1 (by decide)
  have e37 := hx.e 37 (by decide)
  have n14 := hL.n.2.2
  have i1 : ∀ a b : Int, (if (1 : Int) = 0 then a else b) = b := fun _ _ => rfl
  have i0 : ∀ a b : Int, (if (0 : Int) = 0 then a else b) = a := fun _ _ => rfl
  have P := (hG.pl r c r0 r1 c0 (by omega)).1
  obtain ⟨-, -, -, -, l5⟩ := hL.row r0 r1
  have e := l5 c c0 (by omega)
  refine k2_isShown hG hL hx (fun h => ?_) (fun h => ?_)
  · simp only [e37, e14, e1, e, n14, i1]
    refine ⟨fun _ => ⟨⟨by omega, by omega⟩, trivial⟩, fun hz => ?_, fun hz => ⟨fun hw => absurd hw (by omega), fun hw => ?_⟩⟩
    · exact hn (if_pos hz)
    · obtain ⟨k1, -, -, -, -, -, k8, -⟩ := hL.cell hz hw
      rw [k1, k8]
      by_cases h73 : T 73 0 (T 69 0 (6 * r + c) - 1) = 0
      · rw [if_pos h73]
        refine ⟨⟨by omega, by omega⟩, bit_0, hn ?_⟩
        unfold zfig
        rw [if_neg (by omega), if_neg (fun z => z h.2.2), if_pos h73]
      · rw [if_neg h73]
        refine ⟨⟨by omega, by omega⟩, bit_1, hy (fun z => ?_)⟩
        unfold zfig at z
        rw [if_neg (by omega), if_neg (fun z => z h.2.2), if_neg h73] at z
        omega
  · have hh : ¬ T 59 0 c = 0 := fun z => h ⟨c0, c1, z⟩
    refine ⟨fun z => absurd rfl z, fun _ => hn ?_, fun z => absurd z ?_⟩
    · unfold zfig
      by_cases a : T 69 0 (6 * r + c) - 1 < 0
      · rw [if_pos a]
      · rw [if_neg a, if_pos hh]
    · rw [if_pos rfl]; decide
theorem k2_figureAt (hG : Good T) (hL : zLk T) (hx : zAh T M) {r c : Int} (r0 : 0 ≤ r) (r1 : r < T 11 0 8) (c0 : 0 ≤ c) (c1 : c < T 11 0 4) (hf : ¬ zfig T r c = -1) {Qm : Int → Mem → Prop} (hq : Qm (T 74 0 (zfig T r c)) M) : wp_X3_figureAt r c M Qm := by
  have hC := hG.nC
  have e14 := hx.e 14 (by decide)
  have e1 := hx.e 1 (by decide)
  have e37 := hx.e 37 (by decide)
  have n14 := hL.n.2.2
  have i1 : ∀ a b : Int, (if (1 : Int) = 0 then a else b) = b := fun _ _ => rfl
  have P := (hG.pl r c r0 r1 c0 (by omega)).1
  obtain ⟨-, -, -, -, l5⟩ := hL.row r0 r1
  have e := l5 c c0 (by omega)
  obtain ⟨f0, f1, f73, -, -, f59⟩ := zfig_r hG r0 r1 c0 (by omega) hf
  have ef : zfig T r c = T 69 0 (6 * r + c) - 1 := by
    have hf' := hf
    unfold zfig at hf' ⊢
    by_cases a : T 69 0 (6 * r + c) - 1 < 0
    · rw [if_pos a] at hf'; exact absurd rfl hf'
    · rw [if_neg a] at hf' ⊢
      rw [if_neg (fun z => z f59)] at hf' ⊢
      by_cases b : T 73 0 (T 69 0 (6 * r + c) - 1) = 0
      · rw [if_pos b] at hf'; exact absurd rfl hf'
      · rw [if_neg b]
  rw [ef] at f0 f1 f73 hq
  refine k2_isShown hG hL hx (fun h => ?_) (fun h => absurd ⟨c0, c1, f59⟩ h)
  simp only [e37, e14, e1, e, n14, i1]
  obtain ⟨k1, -, -, -, -, -, k8, k9, -⟩ := hL.cell f0 f1
  refine ⟨fun _ => ⟨⟨by omega, by omega⟩, trivial⟩, fun hz => absurd hz (by omega), fun hz => ⟨fun hw => absurd hw (by omega), fun hw => ?_⟩⟩
  rw [k1, k8, k9, f73]
  exact ⟨⟨by omega, by omega⟩, fun z => absurd z (by decide), fun _ => ⟨⟨by omega, by omega⟩, hq⟩⟩
/-- whether a row goes ahead of another one -/
def zga (T : Mem) (p f r o : Int) : Int := if zfig T r p = -1 then 0 else if zfig T o p = -1 then 1 else if f = 0 then (if T 74 0 (zfig T o p) ≤ T 74 0 (zfig T r p) then 0 else 1) else (if T 74 0 (zfig T r p) ≤ T 74 0 (zfig T o p) then 0 else 1)
theorem k_goesAhead (hG : Good T) (hL : zLk T) (hx : zAh T M) {r o p f : Int} (r0 : 0 ≤ r) (r1 : r < T 11 0 8) (o0 : 0 ≤ o) (o1 : o < T 11 0 8) (c0 : 0 ≤ p) (c1 : p < T 11 0 4) {Qm : Int → Mem → Prop} (hq : Qm (zga T p f r o) M) : wp_X3_goesAhead r o p f M Qm := by
  unfold zga at hq
  refine k2_hasFigureAt hG hL hx r0 r1 c0 c1 (fun a => ⟨fun _ => k2_hasFigureAt hG hL hx o0 o1 c0 c1 (fun b => ⟨fun _ => k2_figureAt hG hL hx r0 r1 c0 c1 a (k2_figureAt hG hL hx o0 o1 c0 c1 b ⟨?_, ?_⟩), fun z => absurd z (by decide)⟩) (fun b => ⟨fun z => absurd rfl z, fun _ => ?_⟩), fun z => absurd z (by decide)⟩) (fun a => ⟨fun z => absurd rfl z, fun _ => ?_⟩)
  · split
    · split
      · exact bit_0
      · exact bit_1
    · split
      · exact bit_0
      · exact bit_1
  · rw [if_neg a, if_neg b] at hq; exact hq
  · rw [if_neg a, if_pos b] at hq; exact hq
  · rw [if_pos a] at hq; exact hq
/-! the order -/
def zin1 (T : Mem) (p f x : Int) : Nat → (Int → Int) → Int → Int
  | 0, a => zset a 0 x
  | k + 1, a => if zga T p f x (a k) = 0 then zset a ((k + 1 : Nat) : Int) x else zin1 T p f x k (zset a ((k + 1 : Nat) : Int) (a k))
def zsrt (T : Mem) (p f n : Int) : Int → Int := zF (fun a k => zin1 T p f (a k) k.toNat a) (fun k => T 63 0 (24 + k)) 1 n
/-- all body rows, each at one place -/
def zPm (T : Mem) (a : Int → Int) : Prop := (∀ k, 0 ≤ k → k < T 64 0 1 → (0 ≤ a k ∧ a k < T 11 0 8) ∧ T 60 0 (a k) = 1) ∧ (∀ i j, 0 ≤ i → i < T 64 0 1 → 0 ≤ j → j < T 64 0 1 → a i = a j → i = j) ∧ ∀ r, 0 ≤ r → r < T 11 0 8 → T 60 0 r = 1 → ∃ k, (0 ≤ k ∧ k < T 64 0 1) ∧ a k = r
theorem zPm_0 (hG : Good T) : zPm T (fun k => T 63 0 (24 + k)) := by
  refine ⟨fun k k0 k1 => ?_, fun i j i0 i1 j0 j1 e => ?_, fun r r0 r1 e => ?_⟩
  · have := hG.ord 1 k (by omega) (by omega) k0 k1
    rw [show (24 : Int) * 1 + k = 24 + k by omega] at this
    exact ⟨this.1, this.2.1⟩
  · have h1 := (hG.ord 1 i (by omega) (by omega) i0 i1).2.2
    have h2 := (hG.ord 1 j (by omega) (by omega) j0 j1).2.2
    rw [show (24 : Int) * 1 + i = 24 + i by omega] at h1
    rw [show (24 : Int) * 1 + j = 24 + j by omega] at h2
    have e : T 63 0 (24 + i) = T 63 0 (24 + j) := e
    rw [e] at h1
    omega
  · obtain ⟨-, -, -, a, b⟩ := hG.row r r0 r1
    rw [e] at a b
    exact ⟨T 6 r 6, a, b⟩
theorem zPm_swap {a d : Int → Int} {i j : Int} (h : zPm T a) (hi : 0 ≤ i ∧ i < T 64 0 1) (hj : 0 ≤ j ∧ j < T 64 0 1) (hij : i ≠ j) (di : d i = a j) (dj : d j = a i) (dk : ∀ k, k ≠ i → k ≠ j → d k = a k) : zPm T d := by
  obtain ⟨h1, h2, h3⟩ := h
  have hd : ∀ k, (k = i ∧ d k = a j) ∨ (k = j ∧ d k = a i) ∨ (k ≠ i ∧ k ≠ j ∧ d k = a k) := fun k => by
    by_cases e1 : k = i
    · exact Or.inl ⟨e1, by rw [e1]; exact di⟩
    · by_cases e2 : k = j
      · exact Or.inr (Or.inl ⟨e2, by rw [e2]; exact dj⟩)
      · exact Or.inr (Or.inr ⟨e1, e2, dk k e1 e2⟩)
  refine ⟨fun k k0 k1 => ?_, fun x y x0 x1 y0 y1 e => ?_, fun r r0 r1 er => ?_⟩
  · rcases hd k with ⟨-, b⟩ | ⟨-, b⟩ | ⟨-, -, b⟩ <;> rw [b]
    · exact h1 j hj.1 hj.2
    · exact h1 i hi.1 hi.2
    · exact h1 k k0 k1
  · rcases hd x with ⟨ex, bx⟩ | ⟨ex, bx⟩ | ⟨ex, ex', bx⟩ <;> rcases hd y with ⟨ey, by'⟩ | ⟨ey, by'⟩ | ⟨ey, ey', by'⟩ <;> rw [bx, by'] at e
    · omega
    · have := h2 j i hj.1 hj.2 hi.1 hi.2 e; omega
    · have := h2 j y hj.1 hj.2 y0 y1 e; omega
    · have := h2 i j hi.1 hi.2 hj.1 hj.2 e; omega
    · omega
    · have := h2 i y hi.1 hi.2 y0 y1 e; omega
    · have := h2 x j x0 x1 hj.1 hj.2 e; omega
    · have := h2 x i x0 x1 hi.1 hi.2 e; omega
    · exact h2 x y x0 x1 y0 y1 e
  · obtain ⟨k, k0, ek⟩ := h3 r r0 r1 er
    by_cases e1 : k = i
    · exact ⟨j, hj, by rw [dj, ← e1]; exact ek⟩
    · by_cases e2 : k = j
      · exact ⟨i, hi, by rw [di, ← e2]; exact ek⟩
      · exact ⟨k, k0, by rw [dk k e1 e2]; exact ek⟩
theorem zPm_in1 (p f x : Int) : ∀ (k : Nat) (a : Int → Int), (k : Int) < T 64 0 1 → zPm T (zset a (k : Int) x) → zPm T (zin1 T p f x k a) := by
  intro k
  induction k with
  | zero => intro a _ h; exact h
  | succ k ih =>
    intro a hk h
    show zPm T (if zga T p f x (a k) = 0 then zset a ((k + 1 : Nat) : Int) x else zin1 T p f x k (zset a ((k + 1 : Nat) : Int) (a k)))
    split
    · exact h
    · refine ih _ (by omega) (zPm_swap h (i := ((k + 1 : Nat) : Int)) (j := (k : Int)) ⟨by omega, hk⟩ ⟨by omega, by omega⟩ (by omega) ?_ ?_ (fun y y1 y2 => ?_))
      · unfold zset
        rw [if_neg (by omega), if_pos rfl, if_neg (by omega)]
      · unfold zset
        rw [if_pos rfl, if_pos rfl]
      · unfold zset
        rw [if_neg y2, if_neg y1, if_neg y1]
theorem zset_same (a : Int → Int) (k : Int) : zset a k (a k) = a := funext fun i => by
  unfold zset
  by_cases e : i = k
  · rw [if_pos e, e]
  · rw [if_neg e]
theorem zPm_srt (hG : Good T) (p f : Int) {n : Int} (n1 : 1 ≤ n) (n2 : n ≤ max 1 (T 64 0 1)) : zPm T (zsrt T p f n) := by
  have := zF_ind (g := fun (a : Int → Int) k => zin1 T p f (a k) k.toNat a) (x := fun k => T 63 0 (24 + k)) (a := 1) (b := n) (fun k a => k ≤ n → zPm T a) n1 (fun _ => zPm_0 hG) (fun k a k0 k1 ha _ => by
    have ek : ((k.toNat : Nat) : Int) = k := by omega
    refine zPm_in1 p f (a k) k.toNat a (by omega) ?_
    rw [ek, zset_same]
    exact ha (by omega))
  exact this (Int.le_refl _)
/-! the class -/
def zZ16 : Nat → Int → Int → Prop := fun s j k => s = 16 ∧ j = 0 ∧ 0 ≤ k
theorem zAh.z16 {N : Mem} (hx : zAh T M) (f : Fj zZ16 M N) : zAh T N := hx.fj f (fun s j k z => Or.inl ⟨z.1, z.2.2⟩)
theorem k_insert (hG : Good T) (hL : zLk T) {p f x y3 : Int} (x0 : 0 ≤ x) (x1 : x < T 11 0 8) (c0 : 0 ≤ p) (c1 : p < T 11 0 4) (hy : 0 ≤ y3 ∧ y3 < 100) {Qm : Mem → Prop} {K2 : Int → Mem → Prop} : ∀ (k : Nat) (a : Int → Int) (N : Mem), (k : Int) < T 64 0 1 → zAh T N → (∀ i, 0 ≤ i → i < T 64 0 1 → N 16 0 i = a i) → (∀ i, 0 ≤ i → i < (k : Int) → 0 ≤ a i ∧ a i < T 11 0 8) → (∀ N', Fj zZ16 N N' → (∀ i, 0 ≤ i → i < T 64 0 1 → N' 16 0 i = zin1 T p f x k a i) → K2 (y3 + 1) N') → ∃ n, wp_X3_putBodyInOrder_29 p f Qm K2 n y3 x (k : Int) N := by
  have hm := hG.many (p := 1) (by omega) (by omega)
  have hR := hG.nR
  have n16 : T 16 0 (-1) = T 64 0 1 := (hL.part (p := 1) (by omega) (by omega)).1
  intro k
  induction k with
  | zero =>
    intro a N hk hx hs hr hq
    have e16 : N 16 0 (-1) = T 64 0 1 := by rw [hx 16 0 (-1) (by omega)]; exact n16
    refine ⟨1, fun _ => ⟨⟨by omega, by rw [e16]; exact hk⟩, ⟨by omega, by omega⟩, fun N6 e6 => ⟨⟨by omega, by omega⟩, hq N6 (by rw [e6]; exact (Fj.rf _ _).up ⟨rfl, rfl, by omega⟩) (fun i i0 i1 => ?_)⟩⟩, fun z => absurd z (by omega)⟩
    show N6 16 0 i = zset a 0 x i
    unfold zset
    by_cases e : i = 0
    · rw [if_pos e, e, e6]
      exact up_eq _ _ _ _ _
    · rw [if_neg e, e6, up_k _ _ _ _ _ _ (by omega)]
      exact hs i i0 i1
  | succ k ih =>
    intro a N hk hx hs hr hq
    have e16 : N 16 0 (-1) = T 64 0 1 := by rw [hx 16 0 (-1) (by omega)]; exact n16
    have ek : ((k + 1 : Nat) : Int) - 1 = (k : Int) := by omega
    have ek2 : ((k + 1 : Nat) : Int) + -1 = (k : Int) := by omega
    have sk := hs k (by omega) (by omega)
    have hrk := hr k (by omega) (by omega)
    have hq' : (∀ N', Fj zZ16 N N' → (∀ i, 0 ≤ i → i < T 64 0 1 → N' 16 0 i = (if zga T p f x (a k) = 0 then zset a ((k + 1 : Nat) : Int) x else zin1 T p f x k (zset a ((k + 1 : Nat) : Int) (a k))) i) → K2 (y3 + 1) N') := hq
    by_cases hg : zga T p f x (a k) = 0
    · rw [if_pos hg] at hq'
      refine ⟨1, fun z => absurd z (by omega), fun _ => ⟨⟨by omega, by omega⟩, by rw [e16]; exact ⟨by omega, by omega⟩, ?_⟩⟩
      rw [ek, sk]
      refine k_goesAhead hG hL hx x0 x1 hrk.1 hrk.2 c0 c1 ⟨fun _ => ⟨⟨by omega, by rw [e16]; exact hk⟩, ⟨by omega, by omega⟩, fun N6 e6 => ⟨⟨by omega, by omega⟩, hq' N6 (by rw [e6]; exact (Fj.rf _ _).up ⟨rfl, rfl, by omega⟩) (fun i i0 i1 => ?_)⟩⟩, fun z => absurd hg z⟩
      unfold zset
      by_cases e : i = ((k + 1 : Nat) : Int)
      · rw [if_pos e, e, e6]
        exact up_eq _ _ _ _ _
      · rw [if_neg e, e6, up_k _ _ _ _ _ _ e]
        exact hs i i0 i1
    · rw [if_neg hg] at hq'
      obtain ⟨N2, e2⟩ : ∃ N2, N2 = up N 16 0 ((k + 1 : Nat) : Int) (a k) := ⟨_, rfl⟩
      have f2 : Fj zZ16 N N2 := by rw [e2]; exact (Fj.rf _ _).up ⟨rfl, rfl, by omega⟩
      obtain ⟨n, hn⟩ := ih (zset a ((k + 1 : Nat) : Int) (a k)) N2 (by omega) (hx.z16 f2) (fun i i0 i1 => by
        unfold zset
        by_cases e : i = ((k + 1 : Nat) : Int)
        · rw [if_pos e, e, e2]
          exact up_eq _ _ _ _ _
        · rw [if_neg e, e2, up_k _ _ _ _ _ _ e]
          exact hs i i0 i1) (fun i i0 i1 => by
        unfold zset
        rw [if_neg (by omega)]
        exact hr i i0 (by omega)) (fun N' f' d' => hq' N' (f2.tr f') d')
      refine ⟨n + 1, fun z => absurd z (by omega), fun _ => ⟨⟨by omega, by omega⟩, by rw [e16]; exact ⟨by omega, by omega⟩, ?_⟩⟩
      rw [ek, sk]
      refine k_goesAhead hG hL hx x0 x1 hrk.1 hrk.2 c0 c1 ⟨fun z => absurd z hg, fun _ => ⟨⟨by omega, by omega⟩, by rw [e16]; exact ⟨by omega, by omega⟩, ⟨by omega, by rw [e16]; exact hk⟩, ?_, ?_⟩⟩
      · rw [sk]; exact ⟨by omega, by omega⟩
      · intro N3 e3
        rw [sk, ← e2] at e3
        refine ⟨⟨by omega, by omega⟩, ?_⟩
        rw [ek2, e3]
        exact hn
theorem k_putBodyInOrder (hG : Good T) (hL : zLk T) (hx : zAh T M) {p f : Int} (c0 : 0 ≤ p) (c1 : p < T 11 0 4) (hs : ∀ i, 0 ≤ i → i < T 64 0 1 → M 16 0 i = T 63 0 (24 + i)) {Qm : Mem → Prop} (hq : ∀ N, Fj zZ16 M N → (∀ i, 0 ≤ i → i < T 64 0 1 → N 16 0 i = zsrt T p f (max 1 (T 64 0 1)) i) → Qm N) : wp_X3_putBodyInOrder p f M Qm := by
  have hm := hG.many (p := 1) (by omega) (by omega)
  have n16 : T 16 0 (-1) = T 64 0 1 := (hL.part (p := 1) (by omega) (by omega)).1
  refine zLoop (fun n y N => wp_X3_putBodyInOrder_2 p f Qm n y N) (fun y N => Fj zZ16 M N ∧ ∀ i, 0 ≤ i → i < T 64 0 1 → N 16 0 i = zsrt T p f y i) (max 1 (T 64 0 1)) (by omega) ⟨Fj.rf _ _, fun i i0 i1 => by rw [hs i i0 i1]; unfold zsrt; rw [zF_self _ _ (by omega)]⟩ (fun n N hN => ?_) (fun n y N y0 y1 hN ih => ?_)
  · have e16 : N 16 0 (-1) = T 64 0 1 := by rw [(hx.z16 hN.1) 16 0 (-1) (by omega)]; exact n16
    exact ⟨fun _ => hq N hN.1 hN.2, fun z => absurd z (by rw [e16]; omega)⟩
  · obtain ⟨fN, dN⟩ := hN
    have hxN := hx.z16 fN
    have e16 : N 16 0 (-1) = T 64 0 1 := by rw [hxN 16 0 (-1) (by omega)]; exact n16
    have hP := zPm_srt hG p f y0 (by omega)
    have hPy := (hP.1 y (by omega) (by omega)).1
    refine ⟨fun z => absurd z (by rw [e16]; omega), fun _ => ⟨by rw [e16]; exact ⟨by omega, by omega⟩, ?_⟩⟩
    have ey : ((y.toNat : Nat) : Int) = y := by omega
    have := k_insert (Qm := Qm) (K2 := wp_X3_putBodyInOrder_2 p f Qm n) (f := f) (y3 := y) hG hL hPy.1 hPy.2 c0 c1 ⟨by omega, by omega⟩ y.toNat (zsrt T p f y) N (by omega) hxN dN (fun i i0 i1 => (hP.1 i i0 (by omega)).1) (fun N' f' d' => ih N' ⟨fN.tr f', fun i i0 i1 => by
      rw [d' i i0 i1]
      unfold zsrt
      rw [zF_succ _ _ y0]⟩)
    rw [ey] at this
    rw [dN y (by omega) (by omega)]
    exact this
/-- how many moved -/
def zmvd (T : Mem) (p f n : Int) : Int := zS (fun k => if ¬ T 6 (zsrt T p f (max 1 (T 64 0 1)) k) 6 = k then 1 else 0) 0 n
theorem zmvd_r (T : Mem) (p f : Int) {n : Int} (n0 : 0 ≤ n) : 0 ≤ zmvd T p f n ∧ zmvd T p f n ≤ n := by
  have := zS_bd (f := fun k => if ¬ T 6 (zsrt T p f (max 1 (T 64 0 1)) k) 6 = k then (1 : Int) else 0) (a := 0) (b := n) 0 1 n0 (fun k _ _ => by
    show 0 ≤ (if ¬ T 6 (zsrt T p f (max 1 (T 64 0 1)) k) 6 = k then (1 : Int) else 0) ∧ (if ¬ T 6 (zsrt T p f (max 1 (T 64 0 1)) k) 6 = k then (1 : Int) else 0) ≤ 1
    split <;> omega)
  unfold zmvd
  omega
theorem k_numberBodyAnew (hG : Good T) (hL : zLk T) (hx : zAh T M) {p f : Int} (h6 : ∀ r, M 6 r 6 = T 6 r 6) (hs : ∀ i, 0 ≤ i → i < T 64 0 1 → M 16 0 i = zsrt T p f (max 1 (T 64 0 1)) i) {Qm : Int → Mem → Prop} (hq : ∀ N, Fj (fun s _ k => s = 6 ∧ k = 6) M N → (∀ i, 0 ≤ i → i < T 64 0 1 → N 6 (zsrt T p f (max 1 (T 64 0 1)) i) 6 = i) → (∀ r, ¬ T 60 0 r = 1 → N 6 r 6 = T 6 r 6) → Qm (zmvd T p f (T 64 0 1)) N) : wp_X3_numberBodyAnew M Qm := by
  have hm := hG.many (p := 1) (by omega) (by omega)
  have n16 : T 16 0 (-1) = T 64 0 1 := (hL.part (p := 1) (by omega) (by omega)).1
  have hP := zPm_srt hG p f (n := max 1 (T 64 0 1)) (by omega) (Int.le_refl _)
  obtain ⟨B, eB⟩ : ∃ B, B = zsrt T p f (max 1 (T 64 0 1)) := ⟨_, rfl⟩
  have ec : ∀ n, zmvd T p f n = zS (fun k => if ¬ T 6 (B k) 6 = k then 1 else 0) 0 n := fun n => by rw [eB]; rfl
  rw [← eB] at hs hq hP
  refine zLoop (σ := Int × Mem) (fun n y s => wp_X3_numberBodyAnew_4 Qm n s.1 y s.2) (fun y s => s.1 = zmvd T p f y ∧ Fj (fun s _ k => s = 6 ∧ k = 6) M s.2 ∧ (∀ i, 0 ≤ i → i < y → s.2 6 (B i) 6 = i) ∧ (∀ i, y ≤ i → i < T 64 0 1 → s.2 6 (B i) 6 = T 6 (B i) 6) ∧ (∀ r, ¬ T 60 0 r = 1 → s.2 6 r 6 = T 6 r 6)) (s := (0, M)) (T 64 0 1) hm.1 ⟨(zS_self _ (by omega)).symm, Fj.rf _ _, fun i a b => absurd b (by omega), fun i _ _ => h6 _, fun r _ => h6 r⟩ (fun n s hs' => ?_) (fun n y s y0 y1 hs' ih => ?_)
  · obtain ⟨v, N⟩ := s
    obtain ⟨ev, fN, d1, d2, d3⟩ := hs'
    dsimp only at ev fN d1 d2 d3 ⊢
    have e16 : N 16 0 (-1) = T 64 0 1 := by rw [fN 16 0 (-1) (fun z => absurd z.1 (by decide)), hx 16 0 (-1) (by omega)]; exact n16
    refine ⟨fun _ => ?_, fun z => absurd z (by rw [e16]; omega)⟩
    rw [ev]
    exact hq N fN d1 d3
  · obtain ⟨v, N⟩ := s
    obtain ⟨ev, fN, d1, d2, d3⟩ := hs'
    dsimp only at ev fN d1 d2 d3 ⊢
    have e16 : N 16 0 (-1) = T 64 0 1 := by rw [fN 16 0 (-1) (fun z => absurd z.1 (by decide)), hx 16 0 (-1) (by omega)]; exact n16
    have ey : N 16 0 y = B y := by rw [fN 16 0 y (fun z => absurd z.1 (by decide)), hs y y0 y1]
    have hv := zmvd_r T p f y0
    refine ⟨fun z => absurd z (by rw [e16]; omega), fun _ => ?_⟩
    rw [ey, d2 y (Int.le_refl _) y1, e16]
    have hb : 0 ≤ (if ¬ T 6 (B y) 6 = y then (1 : Int) else 0) ∧ (if ¬ T 6 (B y) 6 = y then (1 : Int) else 0) ≤ 1 := by split <;> omega
    refine ⟨⟨by omega, by omega⟩, by rw [ev]; exact ⟨by omega, by omega⟩, ⟨by omega, by omega⟩, ?_⟩
    intro N2 e2
    refine ⟨⟨by omega, by omega⟩, ih (_, N2) ⟨?_, ?_, fun i a b => ?_, fun i a b => ?_, fun r hr => ?_⟩⟩
    · show v + (if ¬ T 6 (B y) 6 = y then (1 : Int) else 0) = zmvd T p f (y + 1)
      rw [ec, zS_succ _ y0, ev, ec]
    · show Fj (fun s _ k => s = 6 ∧ k = 6) M N2
      rw [e2]; exact fN.up ⟨rfl, rfl⟩
    · show N2 6 (B i) 6 = i
      by_cases e : i = y
      · rw [e, e2, up_eq]
      · rw [e2, up_j _ _ _ _ _ (fun z => e (hP.2.1 i y a (by omega) y0 y1 z))]
        exact d1 i a (by omega)
    · show N2 6 (B i) 6 = T 6 (B i) 6
      rw [e2, up_j _ _ _ _ _ (fun z => absurd (hP.2.1 i y (by omega) b y0 y1 z) (by omega))]
      exact d2 i (by omega) b
    · show N2 6 r 6 = T 6 r 6
      rw [e2, up_j _ _ _ _ _ (fun z => hr (by rw [z]; exact (hP.1 y y0 y1).2))]
      exact d3 r hr
theorem k_hasSeveral (hG : Good T) (hL : zLk T) (hA : Ag T M) {Qm : Int → Mem → Prop} (hy : (∃ c, (0 ≤ c ∧ c < T 11 0 15) ∧ T 60 0 (T 65 0 c) = 1 ∧ 1 < T 67 0 c) → Qm 1 M) (hn : (∀ c, 0 ≤ c → c < T 11 0 15 → T 60 0 (T 65 0 c) = 1 → T 67 0 c ≤ 1) → Qm 0 M) : wp_X3_hasBodyCellOfSeveralRows M Qm := by
  have hK := hG.nK
  have e14 := hA.s14
  have e1 := hA.s1
  have e6 := hA.s6
  have n14 := hL.n.2.2
  refine zLoop (σ := Unit) (fun n y _ => wp_X3_hasBodyCellOfSeveralRows_2 Qm n y M) (fun y _ => ∀ c, 0 ≤ c → c < y → T 60 0 (T 65 0 c) = 1 → T 67 0 c ≤ 1) (s := ()) (T 11 0 15) hK.1 (fun c a b => absurd b (by omega)) (fun n s hs => ?_) (fun n y s y0 y1 hs ih => ?_)
  · show wp_X3_hasBodyCellOfSeveralRows_2 Qm (n + 1) (T 11 0 15) M
    simp only [wp_X3_hasBodyCellOfSeveralRows_2, e14, n14]
    exact ⟨fun _ => hn hs, fun z => absurd z (by omega)⟩
  · show wp_X3_hasBodyCellOfSeveralRows_2 Qm (n + 1) y M
    obtain ⟨l0, l1, -, l3, -⟩ := hL.cell y0 y1
    obtain ⟨w1, -⟩ := hG.cell y y0 y1
    obtain ⟨-, -, r2, -⟩ := hL.row w1.1 w1.2
    have hnext : (T 60 0 (T 65 0 y) = 1 → T 67 0 y ≤ 1) → wp_X3_hasBodyCellOfSeveralRows_54 Qm (wp_X3_hasBodyCellOfSeveralRows_2 Qm n) y M := fun h => ⟨⟨by omega, by omega⟩, ih () (fun c a b => by
      by_cases e : c = y
      · rw [e]; exact h
      · exact hs c a (by omega))⟩
    simp only [wp_X3_hasBodyCellOfSeveralRows_2, e14, e1, e6, n14, l0, l1, l3, r2]
    exact ⟨fun z => absurd z (by omega), fun _ => ⟨⟨by omega, by omega⟩, fun a => hnext (fun _ => a), fun a => ⟨⟨by omega, by omega⟩, fun b => hnext (fun z => absurd z b), fun b => hy ⟨y, ⟨y0, y1⟩, b, a⟩⟩⟩⟩
end ZC
