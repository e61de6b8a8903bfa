/-! the pure part: what is kept, and what it comes to -/
def zG0 (T : Mem) : Prop := (0 ≤ T 11 0 4 ∧ T 11 0 4 ≤ 6) ∧ (0 ≤ T 11 0 8 ∧ T 11 0 8 ≤ 29) ∧ (0 ≤ T 11 0 15 ∧ T 11 0 15 ≤ 100) ∧ (1 ≤ T 11 0 24 ∧ T 11 0 24 ≤ 150) ∧ (1 ≤ T 11 0 25 ∧ T 11 0 25 ≤ 100) ∧ (0 ≤ T 11 0 26 ∧ T 11 0 26 ≤ 1) ∧ True ∧ (0 ≤ T 64 0 0 ∧ T 64 0 0 ≤ 3) ∧ (0 ≤ T 64 0 1 ∧ T 64 0 1 ≤ 24) ∧ (0 ≤ T 64 0 2 ∧ T 64 0 2 ≤ 2) ∧ T 64 0 0 + T 64 0 1 + T 64 0 2 = T 11 0 8 ∧ (T 11 0 4 = 0 → T 11 0 8 = 0)
def zGC (T : Mem) : Prop := ∀ k, 0 ≤ k → k < T 11 0 4 → (0 ≤ T 56 0 k ∧ T 56 0 k ≤ 2) ∧ (1 ≤ T 57 0 k ∧ T 57 0 k ≤ 60) ∧ (0 ≤ T 58 0 k ∧ T 58 0 k ≤ 1) ∧ (0 ≤ T 59 0 k ∧ T 59 0 k ≤ 1)
def zGV (T : Mem) : Prop := (T 11 0 4 = 0 ∨ ∃ k, 0 ≤ k ∧ k < T 11 0 4 ∧ T 59 0 k = 0) ∧ ∀ k, T 11 0 4 ≤ k → k < 6 → T 58 0 k = 0 ∧ T 59 0 k = 0
def zGR (T : Mem) : Prop := ∀ r, 0 ≤ r → r < T 11 0 8 → (0 ≤ T 60 0 r ∧ T 60 0 r ≤ 2) ∧ (0 ≤ T 61 0 r ∧ T 61 0 r ≤ 9) ∧ (0 ≤ T 62 0 r ∧ T 62 0 r ≤ 1) ∧ (0 ≤ T 6 r 6 ∧ T 6 r 6 < T 64 0 (T 60 0 r)) ∧ T 63 0 (24 * T 60 0 r + T 6 r 6) = r
def zGO (T : Mem) : Prop := ∀ p k, 0 ≤ p → p ≤ 2 → 0 ≤ k → k < T 64 0 p → (0 ≤ T 63 0 (24 * p + k) ∧ T 63 0 (24 * p + k) < T 11 0 8) ∧ T 60 0 (T 63 0 (24 * p + k)) = p ∧ T 6 (T 63 0 (24 * p + k)) 6 = k
def zGK (T : Mem) : Prop := ∀ c, 0 ≤ c → c < T 11 0 15 → (0 ≤ T 65 0 c ∧ T 65 0 c < T 11 0 8) ∧ (0 ≤ T 66 0 c) ∧ (1 ≤ T 67 0 c ∧ T 67 0 c ≤ 4) ∧ (1 ≤ T 68 0 c ∧ T 66 0 c + T 68 0 c ≤ T 11 0 4) ∧ (T 6 (T 65 0 c) 6 + T 67 0 c ≤ T 64 0 (T 60 0 (T 65 0 c))) ∧ (0 ≤ T 72 0 c ∧ T 72 0 c ≤ 12) ∧ (0 ≤ T 73 0 c ∧ T 73 0 c ≤ 1) ∧ (-1000000 ≤ T 74 0 c ∧ T 74 0 c ≤ 1000000) ∧ (0 ≤ T 75 0 c ∧ T 75 0 c ≤ 2) ∧ (0 ≤ T 76 0 c ∧ T 76 0 c ≤ 3) ∧ (T 73 0 c = 1 → T 72 0 c = 0 ∧ T 67 0 c = 1 ∧ T 68 0 c = 1) ∧ (0 < T 76 0 c → T 60 0 (T 65 0 c) = 1)
def zGW (T : Mem) : Prop := ∀ c i, 0 ≤ c → c < T 11 0 15 → 0 ≤ i → i < T 72 0 c → (1 ≤ T 70 0 (12 * c + i) ∧ T 70 0 (12 * c + i) ≤ 20) ∧ (0 ≤ T 71 0 (12 * c + i) ∧ T 71 0 (12 * c + i) < T 70 0 (12 * c + i))
def zGP (T : Mem) : Prop := ∀ r k, 0 ≤ r → r < T 11 0 8 → 0 ≤ k → k < 6 → (0 ≤ T 69 0 (6 * r + k) ∧ T 69 0 (6 * r + k) ≤ T 11 0 15) ∧ (0 < T 69 0 (6 * r + k) → T 60 0 r = T 60 0 (T 65 0 (T 69 0 (6 * r + k) - 1)) ∧ (T 6 (T 65 0 (T 69 0 (6 * r + k) - 1)) 6 ≤ T 6 r 6 ∧ T 6 r 6 < T 6 (T 65 0 (T 69 0 (6 * r + k) - 1)) 6 + T 67 0 (T 69 0 (6 * r + k) - 1)) ∧ (T 66 0 (T 69 0 (6 * r + k) - 1) ≤ k ∧ k < T 66 0 (T 69 0 (6 * r + k) - 1) + T 68 0 (T 69 0 (6 * r + k) - 1)))
def zGQ (T : Mem) : Prop := ∀ c r k, 0 ≤ c → c < T 11 0 15 → 0 ≤ r → r < T 11 0 8 → T 60 0 r = T 60 0 (T 65 0 c) → T 6 (T 65 0 c) 6 ≤ T 6 r 6 → T 6 r 6 < T 6 (T 65 0 c) 6 + T 67 0 c → T 66 0 c ≤ k → k < T 66 0 c + T 68 0 c → T 69 0 (6 * r + k) = c + 1
def zGB (_ : Mem) : Prop := True
def Good (T : Mem) : Prop := zG0 T ∧ zGC T ∧ zGV T ∧ zGR T ∧ zGO T ∧ zGK T ∧ zGW T ∧ zGP T ∧ zGQ T ∧ zGB T
section GD
variable {T : Mem}
theorem Good.n (h : Good T) : zG0 T := h.1
theorem Good.col (h : Good T) : zGC T := h.2.1
theorem Good.vis (h : Good T) : zGV T := h.2.2.1
theorem Good.row (h : Good T) : zGR T := h.2.2.2.1
theorem Good.ord (h : Good T) : zGO T := h.2.2.2.2.1
theorem Good.cell (h : Good T) : zGK T := h.2.2.2.2.2.1
theorem Good.word (h : Good T) : zGW T := h.2.2.2.2.2.2.1
theorem Good.pl (h : Good T) : zGP T := h.2.2.2.2.2.2.2.1
theorem Good.pq (h : Good T) : zGQ T := h.2.2.2.2.2.2.2.2.1
theorem Good.bd (h : Good T) : zGB T := h.2.2.2.2.2.2.2.2.2
theorem Good.nC (h : Good T) : 0 ≤ T 11 0 4 ∧ T 11 0 4 ≤ 6 := h.1.1
theorem Good.nR (h : Good T) : 0 ≤ T 11 0 8 ∧ T 11 0 8 ≤ 29 := h.1.2.1
theorem Good.nK (h : Good T) : 0 ≤ T 11 0 15 ∧ T 11 0 15 ≤ 100 := h.1.2.2.1
theorem Good.many (h : Good T) {p : Int} (h0 : 0 ≤ p) (h1 : p ≤ 2) : 0 ≤ T 64 0 p ∧ T 64 0 p ≤ 24 := by
  obtain ⟨-, -, -, -, -, -, -, a, b, c, -⟩ := h.n
  rcases (by omega : p = 0 ∨ p = 1 ∨ p = 2) with rfl | rfl | rfl <;> omega
end GD
/-! figures of speech: columns that are shown, widths and lines of cells -/
def zsh (T : Mem) (k : Int) : Int := if T 59 0 k = 0 then 1 else 0
def zshows (T : Mem) (c : Int) : Int := zS (zsh T) (T 66 0 c) (T 66 0 c + T 68 0 c)
def zvis (T : Mem) : Int := zS (zsh T) 0 (T 11 0 4)
def zfig (T : Mem) (r k : Int) : Int := if T 69 0 (6 * r + k) - 1 < 0 then (-1) else if ¬ T 59 0 k = 0 then (-1) else if T 73 0 (T 69 0 (6 * r + k) - 1) = 0 then (-1) else T 69 0 (6 * r + k) - 1
def zpiece (T : Mem) (c i : Int) : Int := if T 71 0 (12 * c + i) = 0 then T 70 0 (12 * c + i) else max (T 71 0 (12 * c + i) + 1) (T 70 0 (12 * c + i) - T 71 0 (12 * c + i))
def zleast (T : Mem) (c : Int) : Int := zF (fun m i => max m (zpiece T c i)) 0 0 (T 72 0 c)
def zlens (T : Mem) (c : Int) : Int := zS (fun i => T 70 0 (12 * c + i)) 0 (T 72 0 c)
def zmost (T : Mem) (c : Int) : Int := max 0 (T 72 0 c - 1) + zlens T c
def zdg : Nat → Int → Int
  | 0, _ => 0
  | n + 1, w => if w ≤ 9 then 0 else 1 + zdg n (Int.tdiv w 10)
def zabs (h : Int) : Int := if 0 ≤ h then h else -h
def zleft (h : Int) : Int := (if 0 ≤ h then 1 else 2) + zdg 9 (Int.tdiv (zabs h) 100)
def zright (T : Mem) (c : Int) : Int := (if T 75 0 c ≤ 0 then 0 else T 75 0 c + 1) + (if T 76 0 c ≤ 0 then 0 else 1)
def zlef (T : Mem) (k n : Int) : Int := zF (fun m r => if zfig T r k = -1 then m else max m (zleft (T 74 0 (zfig T r k)))) 0 0 n
def zrig (T : Mem) (k n : Int) : Int := zF (fun m r => if zfig T r k = -1 then m else max m (zright T (zfig T r k))) 0 0 n
def zabv (T : Mem) (k n : Int) : Int := zS (fun r => if zfig T r k = -1 then 0 else if ¬ T 60 0 r = 1 then 0 else if T 74 0 (zfig T r k) ≤ 0 then 0 else T 74 0 (zfig T r k)) 0 n
def zblw (T : Mem) (k n : Int) : Int := zS (fun r => if zfig T r k = -1 then 0 else if ¬ T 60 0 r = 1 then 0 else if 0 ≤ T 74 0 (zfig T r k) then 0 else T 74 0 (zfig T r k)) 0 n
def zany (T : Mem) (k n : Int) : Int := zF (fun b r => if zfig T r k = -1 then b else 1) 0 0 n
/-- the left part and the right part of a column -/
def zLf (T : Mem) (k : Int) : Int := if zany T k (T 11 0 8) = 0 ∨ T 58 0 k = 0 then zlef T k (T 11 0 8) else max (zlef T k (T 11 0 8)) (max (zleft (zabv T k (T 11 0 8))) (zleft (zblw T k (T 11 0 8))))
def zRg (T : Mem) (k : Int) : Int := zrig T k (T 11 0 8)
def zacr (T : Mem) (c : Int) (w : Int → Int) : Int := (zshows T c - 1) + zS (fun k => if T 59 0 k = 0 then w k else 0) (T 66 0 c) (T 66 0 c + T 68 0 c)
def ztk (T : Mem) (c : Int) (w : Int → Int) (b : Int) : Int × Int := zF (fun p k => (if ¬ T 59 0 k = 0 then p.1 else if T 56 0 k = 1 then p.1 else if p.1 = -1 then k else if w p.1 ≤ w k then p.1 else k, if T 59 0 k = 0 then k else p.2)) (-1, -1) (T 66 0 c) b
def ztakes (T : Mem) (c : Int) (w : Int → Int) : Int := if ¬ (ztk T c w (T 66 0 c + T 68 0 c)).1 = -1 then (ztk T c w (T 66 0 c + T 68 0 c)).1 else (ztk T c w (T 66 0 c + T 68 0 c)).2
def zset (w : Int → Int) (k v : Int) : Int → Int := fun i => if i = k then v else w i
def zstep (T : Mem) (c : Int) (w : Int → Int) : Int → Int := zset w (ztakes T c w) (w (ztakes T c w) + 1)
def zgrow (T : Mem) (c : Int) : Nat → (Int → Int) → Int → Int
  | 0, w => w
  | n + 1, w => zgrow T c n (zstep T c w)
def zwant (T : Mem) (most c : Int) : Int := if most = 0 then zleast T c else zmost T c
def zspr1 (T : Mem) (most wide : Int) (w : Int → Int) (n : Int) : Int → Int := zF (fun w c => if zshows T c = wide then zgrow T c (zwant T most c - zacr T c w).toNat w else w) w 0 n
def zspr (T : Mem) (most : Int) (w : Int → Int) (n : Int) : Int → Int := zF (fun w wide => zspr1 T most wide w (T 11 0 15)) w 2 n
/-- the last column of a cell that is shown -/
def zlast (T : Mem) (c : Int) : Int := zF (fun b k => if T 59 0 k = 0 then k else b) (-1) (T 66 0 c) (T 66 0 c + T 68 0 c)
def zb0 (T : Mem) (k : Int) : Int := if 0 ≤ k ∧ k < T 11 0 4 then zLf T k + zRg T k else 0
def zb1 (T : Mem) (most n : Int) : Int → Int := zF (fun w c => if zshows T c = 1 then zset w (zlast T c) (max (w (zlast T c)) (zwant T most c)) else w) (zb0 T) 0 n
def zb2 (T : Mem) (most : Int) : Int → Int := zspr T most (zb1 T most (T 11 0 15)) 7
/-- least and most widths of a column -/
def zls (T : Mem) (k : Int) : Int := if T 59 0 k = 0 then zb2 T 0 k else 0
def zms (T : Mem) (k : Int) : Int := if T 59 0 k = 0 then max (zb2 T 1 k) (zb2 T 0 k) else 0
def zpart (a b : Int) : Int := Int.fdiv (a * b) 100
def znar (T : Mem) (k : Int) : Int := if T 59 0 k = 0 then max (if T 56 0 k = 1 then T 57 0 k else if T 56 0 k = 2 then zpart (T 11 0 24 - (zvis T - 1)) (T 57 0 k) else 0) (zls T k) else 0
def zopen (T : Mem) (k : Int) : Int := if ¬ T 59 0 k = 0 then 0 else if ¬ T 56 0 k = 0 then 0 else 1
def zsumw (T : Mem) (w : Int → Int) : Int := (if T 11 0 4 ≤ 0 then 0 else zvis T - 1) + zS w 0 (T 11 0 4)
def zrest (T : Mem) : Int := T 11 0 24 - zsumw T (znar T)
def zlack (T : Mem) (n : Int) : Int := zS (fun k => if zopen T k = 0 then 0 else zms T k - zls T k) 0 n
def zgive (T : Mem) (k : Int) : Int := if zopen T k = 0 then 0 else if zlack T (T 11 0 4) < zrest T then zms T k - zls T k else Int.tdiv (zrest T * (zms T k - zls T k)) (zlack T (T 11 0 4))
def zgv (T : Mem) (k : Int) : Int := if zrest T ≤ 0 then znar T k else znar T k + zgive T k
/-- what is left goes to the first ones: the widths and what is given, by the columns gone through -/
def zfin (T : Mem) (n : Int) : (Int → Int) × Int := zF (fun p k => if zopen T k = 0 then p else if zrest T ≤ p.2 then p else if zms T k ≤ p.1 k then p else (zset p.1 k (p.1 k + 1), p.2 + 1)) (zgv T, zS (zgive T) 0 (T 11 0 4)) 0 n
/-- widths -/
def zwid (T : Mem) (k : Int) : Int := if zrest T ≤ 0 then znar T k else if zlack T (T 11 0 4) < zrest T then znar T k + zgive T k else (zfin T (T 11 0 4)).1 k
