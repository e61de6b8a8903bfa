/-! pages: what the law's walk goes through -/
section EA
variable {T M : Mem}
/-- a record on the way to the pages -/
def zRch (T : Mem) (S : zSt) : Prop := ∃ n, zit T n S = zpg T
theorem zRch_0 : zRch T (zS0 T) := ⟨1900, rfl⟩
theorem zpg_end (hG : Good T) (h6 : zpg T 0 6 = 0) : zpg T 0 4 = znn T := (zpg_ind hG (fun _ => True) trivial (fun _ _ _ _ => Or.inr trivial) h6).2.2.1
theorem zRch_s (hG : Good T) {S : zSt} (H : zPW T S) (h : S 0 4 < znn T) (hr : zRch T S) : zRch T (zstp T S) := by
  obtain ⟨n, e⟩ := hr
  have e6 := H.2.2.2.2.1
  cases n with
  | zero =>
    have e : S = zpg T := e
    have := zpg_end hG (by rw [← e]; exact e6)
    rw [← e] at this
    omega
  | succ n =>
    rw [zit_go (by omega)] at e
    exact ⟨n, e⟩
theorem zRch_e {S : zSt} (h : znn T ≤ S 0 4) (hr : zRch T S) : zpg T = S := by
  obtain ⟨n, e⟩ := hr
  rw [zit_done (Or.inr h)] at e
  exact e.symm
theorem zRch_f (hG : Good T) {S : zSt} (H : zPW T S) (h : S 0 4 < znn T) (hr : zRch T S) (hf : zstp T S = zfail S) : ¬ zpg T 0 6 = 0 := by
  obtain ⟨n, e⟩ := zRch_s hG H h hr
  rw [hf, zit_done (Or.inl (by show ¬ (1 : Int) = 0; decide))] at e
  rw [← e]
  show ¬ (1 : Int) = 0
  decide
/-- used lines of a page, before what stands around them -/
def zU (T : Mem) (S : zSt) (q : Int) : Int := S 5 q + (if T 11 0 26 = 0 then S 6 q else 0)
/-- the law's rows of pages, of lines on them and of beginnings, against a record -/
def zWk (T : Mem) (M0 M : Mem) (S : zSt) : Prop := (∀ (s : Nat) (j k : Int), s ≠ 114 → s ≠ 115 → s ≠ 116 → M s j k = M0 s j k) ∧ (∀ q, 0 ≤ q → q < 6 → (q < S 0 1 → M 114 0 (1 + q) = zU T S q ∧ M 114 0 (7 + q) = S 6 q) ∧ (S 0 1 ≤ q → M 114 0 (1 + q) = 0 ∧ M 114 0 (7 + q) = 0)) ∧ (∀ r q, 0 ≤ r → r < T 11 0 8 → 0 ≤ q → q < 6 → M 115 0 (6 * r + q) = zlat S r q) ∧ ∀ k, 0 ≤ k → k < S 0 0 → 0 ≤ S 1 k → S 1 k < T 11 0 8 → M 116 0 (S 1 k) = S 7 (S 1 k) ∧ 0 ≤ S 7 (S 1 k)
theorem zpsh (f : Int → Int) (g : Int → Int) {n : Int} (n0 : 0 ≤ n) (h : ∀ k, 0 ≤ k → k < n → g k = f k) : zS g 0 (n + 1) = zS f 0 n + g n := by
  rw [zS_succ _ n0]
  rw [zS_congr (f := g) (g := f) h]
/-- one piece more -/
theorem zlat_put {S S' : zSt} {c pg l : Int} (n0 : 0 ≤ S 0 0) (e0 : S' 0 0 = S 0 0 + 1) (e1 : S' 1 = zset (S 1) (S 0 0) c) (e2 : S' 2 = zset (S 2) (S 0 0) pg) (e4 : S' 4 = zset (S 4) (S 0 0) l) (r q : Int) : zlat S' r q = zlat S r q + (if c = r ∧ pg = q then l else 0) := by
  unfold zlat
  rw [e0, zpsh (fun k => if ¬ S 1 k = r then 0 else if ¬ S 2 k = q then 0 else S 4 k) _ n0 (fun k k0 k1 => by
    show (if ¬ S' 1 k = r then 0 else if ¬ S' 2 k = q then 0 else S' 4 k) = if ¬ S 1 k = r then 0 else if ¬ S 2 k = q then 0 else S 4 k
    rw [e1, e2, e4, zset_ne _ _ (by omega), zset_ne _ _ (by omega), zset_ne _ _ (by omega)])]
  congr 1
  show (if ¬ S' 1 (S 0 0) = r then 0 else if ¬ S' 2 (S 0 0) = q then 0 else S' 4 (S 0 0)) = _
  rw [e1, e2, e4, zset_eq, zset_eq, zset_eq]
  by_cases a : c = r
  · by_cases b : pg = q
    · rw [if_neg (fun z => z a), if_neg (fun z => z b), if_pos ⟨a, b⟩]
    · rw [if_neg (fun z => z a), if_pos b, if_neg (fun z => b z.2)]
  · rw [if_pos a, if_neg (fun z => a z.1)]
/-- a new page changes no lines of rows -/
theorem zlat_same {S S' : zSt} (e0 : S' 0 0 = S 0 0) (e1 : S' 1 = S 1) (e2 : S' 2 = S 2) (e4 : S' 4 = S 4) (r q : Int) : zlat S' r q = zlat S r q := by
  unfold zlat
  rw [e0, e1, e2, e4]
theorem zWk_new {M0 : Mem} {S : zSt} (h : zWk T M0 M S) : zWk T M0 M (znewp T S) := by
  obtain ⟨h1, h2, h3, h4⟩ := h
  refine ⟨h1, fun q q0 q1 => ?_, fun r q r0 r1 q0 q1 => (h3 r q r0 r1 q0 q1).trans (zlat_same rfl rfl rfl rfl r q).symm, h4⟩
  obtain ⟨a, b⟩ := h2 q q0 q1
  have e5 : znewp T S 5 = zset (S 5) (S 0 1) 0 := rfl
  have e6 : znewp T S 6 = zset (S 6) (S 0 1) 0 := rfl
  have e01 : znewp T S 0 1 = S 0 1 + 1 := rfl
  unfold zU
  rw [e5, e6, e01]
  refine ⟨fun hq => ?_, fun hq => b (by omega)⟩
  by_cases e : q = S 0 1
  · rw [e, zset_eq, zset_eq]
    have := b (by omega)
    rw [e] at this
    rw [this.1, this.2]
    refine ⟨?_, rfl⟩
    split <;> rfl
  · rw [zset_ne _ _ e, zset_ne _ _ e]
    exact a (by omega)
end EA
