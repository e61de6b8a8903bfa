/-! the pure part: calls that change contents and settings -/
section KA
variable {T M : Mem} {O : zSt} {κ : Nat → Int} {K : (Nat → Int) → Mem → Prop} {p1 p2 p3 p4 : Int}
theorem up_f (M : Mem) {s s' : Nat} (j k v : Int) (h : s' ≠ s) : up M s j k v s' = M s' := funext fun _ => funext fun _ => up_s M j k v h _ _
theorem ag_up2 (h : Ag T M) (s : Nat) (j k v : Int) : Ag (up T s j k v) (up M s j k v) := by
  intro s' j' k' z
  rw [up_at, up_at]
  by_cases e : s' = s ∧ j' = j ∧ k' = k
  · rw [if_pos e, if_pos e]
  · rw [if_neg e, if_neg e]; exact h s' j' k' z
/-- columns, rows, cells and places stay -/
def zSt0 (T T' : Mem) : Prop := (T' 11 0 4 = T 11 0 4 ∧ T' 11 0 8 = T 11 0 8 ∧ T' 11 0 15 = T 11 0 15) ∧ ∀ s : Nat, (s = 6 ∨ (12 ≤ s ∧ s ≤ 23) ∨ s = 33 ∨ s = 37 ∨ s = 56 ∨ s = 57 ∨ s = 59 ∨ (60 ≤ s ∧ s ≤ 69)) → T' s = T s
theorem Good.st {T' : Mem} (h : Good T) (e : zSt0 T T') (g0 : zG0 T') (gc : zGC T') (gv : zGV T') (gk : zGK T') (gw : zGW T') : Good T' := by
  obtain ⟨⟨f4, f8, f15⟩, eS⟩ := e
  refine ⟨g0, gc, gv, ?_, ?_, gk, gw, ?_, ?_, trivial⟩
  · have := h.row
    unfold zGR at this ⊢
    rw [f8, eS 60 (by decide), eS 61 (by decide), eS 62 (by decide), eS 6 (by decide), eS 64 (by decide), eS 63 (by decide)]
    exact this
  · have := h.ord
    unfold zGO at this ⊢
    rw [f8, eS 60 (by decide), eS 6 (by decide), eS 64 (by decide), eS 63 (by decide)]
    exact this
  · have := h.pl
    unfold zGP at this ⊢
    rw [f8, f15, eS 69 (by decide), eS 60 (by decide), eS 65 (by decide), eS 6 (by decide), eS 67 (by decide), eS 66 (by decide), eS 68 (by decide)]
    exact this
  · have := h.pq
    unfold zGQ at this ⊢
    rw [f8, f15, eS 69 (by decide), eS 60 (by decide), eS 65 (by decide), eS 6 (by decide), eS 67 (by decide), eS 66 (by decide), eS 68 (by decide)]
    exact this
def zLc (T : Mem) : Prop := ∀ k, 0 ≤ k → k < T 11 0 4 → T 12 0 k = k ∧ T 2 k 0 = T 56 0 k ∧ T 2 k 1 = T 57 0 k ∧ T 2 k 3 = T 58 0 k
def zLe (T : Mem) : Prop := ∀ c, 0 ≤ c → c < T 11 0 15 → T 14 0 c = c ∧ T 1 c 0 = T 65 0 c ∧ T 1 c 1 = T 66 0 c ∧ T 1 c 2 = T 67 0 c ∧ T 1 c 3 = T 68 0 c ∧ T 1 c 7 = T 72 0 c ∧ T 1 c 8 = T 73 0 c ∧ T 1 c 9 = T 74 0 c ∧ T 1 c 10 = T 75 0 c ∧ T 1 c 11 = T 76 0 c ∧ T 1 c 12 = zshows T c ∧ ∀ i, 0 ≤ i → i < T 72 0 c → T 25 c i = T 70 0 (12 * c + i) ∧ T 26 c i = T 71 0 (12 * c + i)
def zLp (T : Mem) : Prop := T 10 0 7 = T 11 0 24 ∧ T 10 0 8 = T 11 0 25 ∧ T 10 0 9 = T 11 0 26 ∧ True
theorem zshows_st {T' : Mem} (e : zSt0 T T') (c : Int) : zshows T' c = zshows T c := by
  have : zsh T' = zsh T := funext fun k => by unfold zsh; rw [e.2 59 (by decide)]
  unfold zshows
  rw [this, e.2 66 (by decide), e.2 68 (by decide)]
theorem zLk.st {T' : Mem} (h : zLk T) (e : zSt0 T T') (lc : zLc T') (le : zLe T') (lp : zLp T') : zLk T' := by
  have e' := e
  obtain ⟨⟨f4, f8, f15⟩, eS⟩ := e
  obtain ⟨h1, h2, h3, h4, h5, h6, h7, h8⟩ := h
  have eL : ∀ p, T' (rowL p) = T (rowL p) := fun p => by
    unfold rowL
    split
    · exact eS 15 (by decide)
    · split
      · exact eS 16 (by decide)
      · exact eS 17 (by decide)
  refine ⟨?_, lc, ?_, le, ?_, ?_, lp, trivial⟩
  · rw [f4, f8, f15, eS 12 (by decide), eS 13 (by decide), eS 14 (by decide)]; exact h1
  · rw [f8, eS 13 (by decide), eS 6 (by decide), eS 60 (by decide), eS 61 (by decide), eS 62 (by decide), eS 37 (by decide), eS 69 (by decide)]; exact h3
  · intro p p0 p1
    rw [eL, eS 64 (by decide), eS 63 (by decide)]; exact h5 p p0 p1
  · have : zsh T' = zsh T := funext fun k => by unfold zsh; rw [eS 59 (by decide)]
    rw [f4, eS 33 (by decide), this]; exact h6
theorem zLk.le (h : zLk T) : zLe T := h.2.2.2.1
theorem zLk.lc (h : zLk T) : zLc T := h.2.1
theorem Iv.st {T' M' : Mem} (h : Iv T O κ M) (e : zSt0 T T') (hG' : Good T') (hL' : zLk T') (hA' : Ag T' M') (hw' : zNW T') (fr : ∀ (s : Nat) (j k : Int), ((96 ≤ s ∧ s ≤ 102) ∨ (s = 11 ∧ (k = 54 ∨ k = 58 ∨ k = 30)) ∨ (j = 1 ∧ (s = 7 ∨ (38 ≤ s ∧ s ≤ 44))) ∨ s = 24 ∨ s = 27 ∨ s = 36 ∨ (77 ≤ s ∧ s ≤ 79) ∨ s = 4) → M' s j k = M s j k) (h10 : ¬ M' 10 0 10 = 0) : Iv T' O κ M' := by
  obtain ⟨hG, hL, hA, hO, hR, hK, hd, hp, hw, hb⟩ := h
  obtain ⟨⟨f4, f8, f15⟩, eS⟩ := e
  have hR' := hR.fr (N := M') (fun s j k a b => fr s j k (by omega)) (fr 11 0 54 (by omega)) (fr 11 0 58 (by omega))
  refine ⟨hG', hL', hA', ⟨hO.1, hO.2.1, hO.2.2.1, by rw [f4]; exact hO.2.2.2⟩, by unfold zOR at hR' ⊢; rw [f4]; exact hR', hK.fr (fun s k a => fr s 1 k (by omega)), fun z => absurd z h10, ⟨by rw [f4, f8, f15]; exact hp.1, fun s s0 s1 => ?_⟩, hw', hb.fr f4 f8 f15 (fr 11 0 30 (by omega)) (fr 4 0 7 (by omega)) (fun j k => fr 24 j k (by omega)) (fun j k => fr 27 j k (by omega)) (fun j k => fr 36 j k (by omega)) (fun k => fr 77 0 k (by omega)) (fun k => fr 78 0 k (by omega)) (fun k => fr 79 0 k (by omega))⟩
  rw [eS s (by omega), eS (s + 6) (by omega)]
  exact hp.2 s s0 s1
end KA
