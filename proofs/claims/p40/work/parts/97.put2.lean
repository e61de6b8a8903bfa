/-! the pure part: calls that change contents and settings, second part -/
section LA
variable {T M T' : Mem} {O : zSt} {κ : Nat → Int} {K : (Nat → Int) → Mem → Prop} {p1 p2 p3 p4 : Int}
theorem zG0_st (h : zG0 T) (e : zSt0 T T') (f24 : T' 11 0 24 = T 11 0 24) (f25 : T' 11 0 25 = T 11 0 25) (f26 : T' 11 0 26 = T 11 0 26) : zG0 T' := by
  unfold zG0 at h ⊢
  rw [e.1.1, e.1.2.1, e.1.2.2, f24, f25, f26, e.2 64 (by decide)]; exact h
theorem zGC_st (h : zGC T) (e : zSt0 T T') (e58 : T' 58 = T 58) : zGC T' := by
  unfold zGC at h ⊢
  rw [e.1.1, e.2 56 (by decide), e.2 57 (by decide), e58, e.2 59 (by decide)]; exact h
theorem zGV_st (h : zGV T) (e : zSt0 T T') (e58 : T' 58 = T 58) : zGV T' := by
  unfold zGV at h ⊢
  rw [e.1.1, e58, e.2 59 (by decide)]; exact h
theorem zGK_st (h : zGK T) (e : zSt0 T T') (e72 : T' 72 = T 72) (e73 : T' 73 = T 73) (e74 : T' 74 = T 74) (e75 : T' 75 = T 75) (e76 : T' 76 = T 76) : zGK T' := by
  unfold zGK at h ⊢
  rw [e.1.1, e.1.2.1, e.1.2.2, e.2 65 (by decide), e.2 66 (by decide), e.2 67 (by decide), e.2 68 (by decide), e.2 6 (by decide), e.2 64 (by decide), e.2 60 (by decide), e72, e73, e74, e75, e76]; exact h
theorem zGW_st (h : zGW T) (e : zSt0 T T') (e72 : T' 72 = T 72) (e70 : T' 70 = T 70) (e71 : T' 71 = T 71) : zGW T' := by
  unfold zGW at h ⊢
  rw [e.1.2.2, e72, e70, e71]; exact h
theorem zLc_st (h : zLc T) (e : zSt0 T T') (e2 : T' 2 = T 2) (e58 : T' 58 = T 58) : zLc T' := by
  unfold zLc at h ⊢
  rw [e.1.1, e.2 12 (by decide), e2, e.2 56 (by decide), e.2 57 (by decide), e58]; exact h
theorem zLe_st (h : zLe T) (e : zSt0 T T') (e1 : T' 1 = T 1) (e72 : T' 72 = T 72) (e73 : T' 73 = T 73) (e74 : T' 74 = T 74) (e75 : T' 75 = T 75) (e76 : T' 76 = T 76) (e25 : T' 25 = T 25) (e26 : T' 26 = T 26) (e70 : T' 70 = T 70) (e71 : T' 71 = T 71) : zLe T' := by
  have es : zshows T' = zshows T := funext fun c => zshows_st e c
  unfold zLe at h ⊢
  rw [es, e.1.2.2, e.2 14 (by decide), e1, e.2 65 (by decide), e.2 66 (by decide), e.2 67 (by decide), e.2 68 (by decide), e72, e73, e74, e75, e76, e25, e26, e70, e71]; exact h
theorem zNW_st (h : zNW T) (e : zSt0 T T') (e72 : T' 72 = T 72) (e73 : T' 73 = T 73) (e74 : T' 74 = T 74) (e75 : T' 75 = T 75) (e76 : T' 76 = T 76) : zNW T' := by
  unfold zNW at h ⊢
  rw [e.1.2.2, e.1.2.1, e72, e73, e74, e75, e76, e.2 69 (by decide)]; exact h
/-- settings stay -/
theorem zset0 (d : ∀ s : Nat, (s = 10 ∨ s = 11) → T' s = T s) (e : zSt0 T T') (hG : Good T) (hL : zLk T) : zG0 T' ∧ zLp T' := by
  have a := d 11 (by omega)
  have b := d 10 (by omega)
  refine ⟨zG0_st hG.n e (by rw [a]) (by rw [a]) (by rw [a]), ?_⟩
  have := hL.pap
  unfold zLp
  rw [a, b]; exact this
/-- the class alone has changed -/
theorem Good.cl (h : Good T) (d : ∀ s : Nat, (s = 6 ∨ s = 11 ∨ (12 ≤ s ∧ s ≤ 23) ∨ s = 33 ∨ s = 37 ∨ (56 ≤ s ∧ s ≤ 79)) → T' s = T s) : Good T' := by
  have e0 : zSt0 T T' := ⟨⟨by rw [d 11 (by decide)], by rw [d 11 (by decide)], by rw [d 11 (by decide)]⟩, fun s hs => d s (by omega)⟩
  exact h.st e0 (zG0_st h.n e0 (by rw [d 11 (by decide)]) (by rw [d 11 (by decide)]) (by rw [d 11 (by decide)])) (zGC_st h.col e0 (d 58 (by decide))) (zGV_st h.vis e0 (d 58 (by decide))) (zGK_st h.cell e0 (d 72 (by decide)) (d 73 (by decide)) (d 74 (by decide)) (d 75 (by decide)) (d 76 (by decide))) (zGW_st h.word e0 (d 72 (by decide)) (d 70 (by decide)) (d 71 (by decide)))
end LA
