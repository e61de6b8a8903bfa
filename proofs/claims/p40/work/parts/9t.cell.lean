/-! the pure part: a new cell: free places, both sides -/
theorem zcarry {q b : Int} (b1 : 1 ≤ b) (e : q % b = b - 1) : (q + 1) / b = q / b + 1 ∧ (q + 1) % b = 0 := by
  refine (Int.ediv_emod_unique (by omega)).2 ⟨?_, by omega, by omega⟩
  have := Int.mul_ediv_add_emod q b
  rw [Int.mul_add, Int.mul_one]
  omega
theorem znocarry {q b : Int} (b1 : 1 ≤ b) (e : q % b < b - 1) : (q + 1) / b = q / b ∧ (q + 1) % b = q % b + 1 := by
  have h0 := Int.emod_nonneg q (b := b) (by omega)
  refine (Int.ediv_emod_unique (by omega)).2 ⟨?_, by omega, by omega⟩
  have := Int.mul_ediv_add_emod q b
  omega
section ZI
variable {T M : Mem} {p1 p2 p3 p4 : Int}
/-- the row some places below -/
def zrw (T : Mem) (r i : Int) : Int := T 63 0 (24 * T 60 0 r + T 6 r 6 + i)
def zFree (T : Mem) (r c d w : Int) : Prop := (T 6 r 6 + d ≤ T 64 0 (T 60 0 r) ∧ c + w ≤ T 11 0 4) ∧ ∀ i j, 0 ≤ i → i < d → 0 ≤ j → j < w → T 69 0 (6 * zrw T r i + c + j) = 0
/-- places that a new cell takes -/
def zCov (T : Mem) (r0 c d w r k : Int) : Prop := T 60 0 r = T 60 0 r0 ∧ (T 6 r0 6 ≤ T 6 r 6 ∧ T 6 r 6 < T 6 r0 6 + d) ∧ c ≤ k ∧ k < c + w
theorem zrw_r (hG : Good T) {r i : Int} (r0 : 0 ≤ r) (r1 : r < T 11 0 8) (i0 : 0 ≤ i) (i1 : T 6 r 6 + i < T 64 0 (T 60 0 r)) : (0 ≤ zrw T r i ∧ zrw T r i < T 11 0 8) ∧ T 60 0 (zrw T r i) = T 60 0 r ∧ T 6 (zrw T r i) 6 = T 6 r 6 + i := by
  obtain ⟨a, -, -, b, -⟩ := hG.row r r0 r1
  have := hG.ord (T 60 0 r) (T 6 r 6 + i) a.1 a.2 (by omega) i1
  unfold zrw
  rw [show 24 * T 60 0 r + T 6 r 6 + i = 24 * T 60 0 r + (T 6 r 6 + i) by omega]
  exact this
theorem zrw_of (hG : Good T) {r0 r : Int} (r1 : 0 ≤ r) (r2 : r < T 11 0 8) (e : T 60 0 r = T 60 0 r0) : zrw T r0 (T 6 r 6 - T 6 r0 6) = r := by
  obtain ⟨-, -, -, -, b⟩ := hG.row r r1 r2
  unfold zrw
  rw [show 24 * T 60 0 r0 + T 6 r0 6 + (T 6 r 6 - T 6 r0 6) = 24 * T 60 0 r + T 6 r 6 by omega]
  exact b
theorem zCov_free (hG : Good T) {r0 c d w r k : Int} (h : zFree T r0 c d w) (r1 : 0 ≤ r) (r2 : r < T 11 0 8) (hc : zCov T r0 c d w r k) : T 69 0 (6 * r + k) = 0 := by
  obtain ⟨a, b, x⟩ := hc
  have := h.2 (T 6 r 6 - T 6 r0 6) (k - c) (by omega) (by omega) (by omega) (by omega)
  rw [zrw_of hG r1 r2 a, show 6 * r + c + (k - c) = 6 * r + k by omega] at this
  exact this
theorem k_hasFreePlaces (hG : Good T) (hL : zLk T) (hA : Ag T M) (r0 : 0 ≤ p1) (r1 : p1 < T 11 0 8) (c0 : 0 ≤ p2) (c1 : p2 < T 11 0 4) (d0 : 1 ≤ p3) (d4 : p3 ≤ 4) (w0 : 1 ≤ p4) (w6 : p4 ≤ 6) {Qm : Int → Mem → Prop} (hy : zFree T p1 p2 p3 p4 → Qm 1 M) (hn : ¬ zFree T p1 p2 p3 p4 → Qm 0 M) : wp_X3_hasFreePlaces p1 p2 p3 p4 M Qm := by
  obtain ⟨a, -, -, b, -⟩ := hG.row p1 r0 r1
  obtain ⟨-, -, m1, -⟩ := hL.row r0 r1
  obtain ⟨y1, y2⟩ := hL.part a.1 a.2
  have hmm := hG.many a.1 a.2
  have hC := hG.nC
  have hR := hG.nR
  have e6 := hA.s6
  have e12 := hA.s12
  have e37 := hA.s37
  have n12 := hL.n.1
  have eL : M (rowL (T 60 0 p1)) = T (rowL (T 60 0 p1)) := by
    rcases (by omega : T 60 0 p1 = 0 ∨ T 60 0 p1 = 1 ∨ T 60 0 p1 = 2) with h | h | h <;> rw [h]
    · exact hA.s15
    · exact hA.s16
    · exact hA.s17
  unfold wp_X3_hasFreePlaces
  rw [e6, m1, eL, y1, e12, n12]
  refine ⟨⟨by omega, by omega⟩, ⟨by omega, by omega⟩, fun z => hn (fun x => by have := x.1.1; omega), fun z => ⟨fun v => ?_, fun v => hn (fun x => by have := x.1.2; omega)⟩⟩
  refine zLoop (σ := Unit) (fun n i _ => wp_X3_hasFreePlaces_54 p1 p2 p3 p4 Qm n (rowL (T 60 0 p1)) (T 6 p1 6 + p3) (p2 + p4) i M) (fun i _ => ∀ x y, 0 ≤ x → x < i - T 6 p1 6 → 0 ≤ y → y < p4 → T 69 0 (6 * zrw T p1 x + p2 + y) = 0) (s := ()) (T 6 p1 6 + p3) (by omega) (fun x y x0 x1 => by omega) (fun n s hs => ?_) (fun n i s i0 i1 hs ih => ?_)
  · exact ⟨fun _ => hy ⟨⟨by omega, by omega⟩, fun x y x0 x1 y0 y1 => hs x y x0 (by omega) y0 y1⟩, fun z => absurd z (by omega)⟩
  · refine ⟨fun z => absurd z (by omega), fun _ => ?_⟩
    have er := y2 i (by omega) (by omega)
    have ei : T 63 0 (24 * T 60 0 p1 + i) = zrw T p1 (i - T 6 p1 6) := by
      unfold zrw
      rw [show 24 * T 60 0 p1 + T 6 p1 6 + (i - T 6 p1 6) = 24 * T 60 0 p1 + i by omega]
    obtain ⟨q1, q2, q3⟩ := zrw_r hG r0 r1 (i := i - T 6 p1 6) (by omega) (by omega)
    refine zLoop (σ := Unit) (fun n j _ => wp_X3_hasFreePlaces_64 p1 p2 p3 p4 Qm (wp_X3_hasFreePlaces_54 p1 p2 p3 p4 Qm _) n (rowL (T 60 0 p1)) (T 6 p1 6 + p3) (p2 + p4) i j M) (fun j _ => ∀ y, 0 ≤ y → y < j - p2 → T 69 0 (6 * zrw T p1 (i - T 6 p1 6) + p2 + y) = 0) (s := ()) (p2 + p4) (by omega) (fun y y0 y1 => by omega) (fun n s hj => ?_) (fun n j s j0 j1 hj ihj => ?_)
    · refine ⟨fun _ => ⟨⟨by omega, by omega⟩, ih () (fun x y x0 x1 y0 y1 => ?_)⟩, fun z => absurd z (by omega)⟩
      by_cases e : x = i - T 6 p1 6
      · rw [e]; exact hj y y0 (by omega)
      · exact hs x y x0 (by omega) y0 y1
    · show wp_X3_hasFreePlaces_64 p1 p2 p3 p4 Qm _ (n + 1) (rowL (T 60 0 p1)) (T 6 p1 6 + p3) (p2 + p4) i j M
      have h37 := (hL.row q1.1 q1.2).2.2.2.2 j (by omega) (by omega)
      have hpl := (hG.pl _ j q1.1 q1.2 (by omega) (by omega)).1
      simp only [wp_X3_hasFreePlaces_64, eL, er, ei, y1, e37, h37]
      refine ⟨fun z => absurd z (by omega), fun _ => ⟨⟨by omega, by omega⟩, ⟨by omega, by omega⟩, fun u => ⟨⟨by omega, by omega⟩, ihj () (fun y y0 y1 => ?_)⟩, fun u => hn (fun x => ?_)⟩⟩
      · by_cases e : y = j - p2
        · rw [e, show 6 * zrw T p1 (i - T 6 p1 6) + p2 + (j - p2) = 6 * zrw T p1 (i - T 6 p1 6) + j by omega]
          omega
        · exact hj y y0 (by omega)
      · have := x.2 (i - T 6 p1 6) (j - p2) (by omega) (by omega) (by omega) (by omega)
        rw [show 6 * zrw T p1 (i - T 6 p1 6) + p2 + (j - p2) = 6 * zrw T p1 (i - T 6 p1 6) + j by omega] at this
        omega
/-- rows and columns gone through one behind the other -/
theorem zdm {k d w : Int} (k0 : 0 ≤ k) (k1 : k < d * w) (w0 : 1 ≤ w) : (0 ≤ k / w ∧ k / w < d) ∧ (0 ≤ k % w ∧ k % w < w) ∧ Int.tdiv k w = k / w ∧ Int.tmod k w = k % w :=
  ⟨⟨Int.ediv_nonneg k0 (by omega), Int.ediv_lt_of_lt_mul (by omega) k1⟩, ⟨Int.emod_nonneg _ (by omega), Int.emod_lt_of_pos _ (by omega)⟩, Int.tdiv_eq_ediv_of_nonneg k0, Int.tmod_eq_emod_of_nonneg k0⟩
theorem zdm_next {k w i j : Int} (w0 : 1 ≤ w) (j0 : 0 ≤ j) (j1 : j < w) : (i < (k + 1) / w ∨ (i = (k + 1) / w ∧ j < (k + 1) % w)) ↔ ((i < k / w ∨ (i = k / w ∧ j < k % w)) ∨ (i = k / w ∧ j = k % w)) := by
  have h0 := Int.emod_nonneg k (b := w) (by omega)
  have h1 := Int.emod_lt_of_pos k (b := w) (by omega)
  by_cases e : k % w = w - 1
  · obtain ⟨a, b⟩ := zcarry w0 e
    rw [a, b]
    omega
  · obtain ⟨a, b⟩ := znocarry w0 (q := k) (by omega)
    rw [a, b]
    omega
theorem zdm_end {d w i j : Int} (w0 : 1 ≤ w) (j0 : 0 ≤ j) (j1 : j < w) : (i < (d * w) / w ∨ (i = (d * w) / w ∧ j < (d * w) % w)) ↔ i < d := by
  rw [Int.mul_ediv_cancel _ (by omega), Int.mul_emod_left]
  omega
theorem zdw_r {d w : Int} (d0 : 1 ≤ d) (d4 : d ≤ 4) (w0 : 1 ≤ w) (w6 : w ≤ 6) : 1 ≤ d * w ∧ d * w ≤ 24 := by
  rcases (by omega : d = 1 ∨ d = 2 ∨ d = 3 ∨ d = 4) with rfl | rfl | rfl | rfl <;> omega
end ZI
