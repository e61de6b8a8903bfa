/-! the pure part: the edge -/
section WA
variable {T M : Mem} {O : zSt} {κ : Nat → Int} {K : (Nat → Int) → Mem → Prop} {p1 p2 p3 : Int}
/-- the number of the cell at a place, or none -/
def zcn (T : Mem) (r k : Int) : Int := if r = -1 ∨ k = -1 then -1 else T 69 0 (6 * r + k) - 1
theorem k_cn (hG : Good T) (hL : zLk T) (hA : Ag T M) {r k : Int} (hr : r = -1 ∨ (0 ≤ r ∧ r < T 11 0 8)) (hk : k = -1 ∨ (0 ≤ k ∧ k < T 11 0 4)) {Qm : Int → Mem → Prop} (hq : Qm (zcn T r k) M) : wp_X3_cellNumberAt r k M Qm := by
  unfold zcn at hq
  refine k_cellNumberAt hG hL hA (fun y => ?_) (fun y => ?_)
  · rw [if_neg (by omega)] at hq; exact hq
  · rw [if_pos (by omega)] at hq; exact hq
theorem zcn_r (hG : Good T) {r k : Int} (hr : r = -1 ∨ (0 ≤ r ∧ r < T 11 0 8)) (hk : k = -1 ∨ (0 ≤ k ∧ k < T 11 0 4)) : -1 ≤ zcn T r k ∧ zcn T r k < T 11 0 15 := by
  have hC := hG.nC
  have hKn := hG.nK
  unfold zcn
  split
  · omega
  · have := (hG.pl r k (by omega) (by omega) (by omega) (by omega)).1
    omega
def zwho (a b c m : Int) : Int := if ¬ a = m then (if ¬ b = m then (if ¬ c = m then (3 : Int) else 2) else 1) else 0
theorem zwho_r (a b c m : Int) : 0 ≤ zwho a b c m ∧ zwho a b c m ≤ 3 := by
  unfold zwho
  split
  · split
    · split <;> omega
    · omega
  · omega
/-- the strongest of a cell's, a row's, a column's and the table's -/
def zstr (a b c d : Int) : Int := if max (max a b) (max c d) = 0 then 0 else 10 * max (max a b) (max c d) + zwho a b c (max (max a b) (max c d)) + 1
def z05 (a : Int) : Prop := 0 ≤ a ∧ a ≤ 5
theorem zstr_r {a b c d : Int} (ha : z05 a) (hb : z05 b) (hc : z05 c) (hd : z05 d) : (0 ≤ zstr a b c d ∧ zstr a b c d ≤ 60) ∧ Int.tdiv (zstr a b c d) 10 = max (max a b) (max c d) := by
  unfold z05 at ha hb hc hd
  have hw := zwho_r a b c (max (max a b) (max c d))
  have e0 : 0 ≤ zstr a b c d := by
    unfold zstr
    split <;> omega
  refine ⟨⟨e0, ?_⟩, ?_⟩
  · unfold zstr
    split <;> omega
  · rw [Int.tdiv_eq_ediv_of_nonneg e0]
    unfold zstr
    split <;> omega
theorem k_strongest {a b c d : Int} (ha : z05 a) (hb : z05 b) (hc : z05 c) (hd : z05 d) {Qm : Int → Mem → Prop} (hq : Qm (zstr a b c d) M) : wp_X9_strongest a b c d M Qm := by
  unfold z05 at ha hb hc hd
  have hw := zwho_r a b c (max (max a b) (max c d))
  unfold zstr at hq
  unfold zwho at hw hq
  refine ⟨fun z => ⟨⟨by omega, by omega⟩, ⟨by omega, by omega⟩, ⟨by omega, by omega⟩, ?_⟩, fun z => ?_⟩
  · rw [if_neg z] at hq; exact hq
  · rw [if_pos z] at hq; exact hq
theorem q_wins {v w who u : Int} (hv : 0 ≤ v ∧ v ≤ 60) (hw : z05 w) (hh : 0 ≤ who ∧ who ≤ 4) (e : (if w ≤ Int.tdiv v 10 then v else 10 * w + who) = u) {Qm : Int → Mem → Prop} (hq : Qm u M) : wp_X10_wins v w who M Qm := by
  unfold z05 at hw
  rw [← e] at hq
  exact ⟨fun _ => ⟨⟨by omega, by omega⟩, ⟨by omega, by omega⟩, trivial⟩, by split <;> exact ⟨by omega, by omega⟩, hq⟩
theorem zst_0 {a : Int} (ha : z05 a) : (if a ≤ Int.tdiv 0 10 then 0 else 10 * a + 1) = zstr a 0 0 0 := by
  unfold z05 at ha
  rw [show Int.tdiv 0 10 = 0 from rfl]
  unfold zstr zwho
  by_cases z : a = 0
  · rw [if_pos (by omega), if_pos (by omega)]
  · rw [if_neg (by omega), if_neg (by omega), if_neg (by omega)]; omega
theorem zst_1 {a b : Int} (ha : z05 a) (hb : z05 b) : (if b ≤ Int.tdiv (zstr a 0 0 0) 10 then zstr a 0 0 0 else 10 * b + 1) = zstr (max a b) 0 0 0 := by
  have hz : z05 0 := ⟨by decide, by decide⟩
  rw [(zstr_r ha hz hz hz).2]
  unfold z05 at ha hb
  by_cases y : b ≤ a
  · rw [if_pos (by omega), show max a b = a by omega]
  · rw [if_neg (by omega)]
    unfold zstr zwho
    rw [if_neg (by omega), if_neg (by omega)]; omega
theorem zst_2 {a b x : Int} (ha : z05 a) (hb : z05 b) (hx : z05 x) : (if x ≤ Int.tdiv (zstr a b 0 0) 10 then zstr a b 0 0 else 10 * x + 2) = zstr a (max b x) 0 0 := by
  have hz : z05 0 := ⟨by decide, by decide⟩
  rw [(zstr_r ha hb hz hz).2]
  unfold z05 at ha hb hx
  unfold zstr zwho
  by_cases y : x ≤ max a b
  · rw [if_pos (by omega), show max (max a (max b x)) (max 0 0) = max (max a b) (max 0 0) by omega]
    by_cases u : max (max a b) (max 0 0) = 0
    · rw [if_pos u, if_pos u]
    · rw [if_neg u, if_neg u]
      by_cases w : a = max (max a b) (max 0 0)
      · rw [if_neg (by omega), if_neg (by omega)]
      · rw [if_pos w, if_pos w, if_neg (by omega), if_neg (by omega)]
  · rw [if_neg (by omega), if_neg (by omega), if_pos (by omega), if_neg (by omega)]; omega
theorem zst_3 {a c x : Int} (ha : z05 a) (hc : z05 c) (hx : z05 x) : (if x ≤ Int.tdiv (zstr a 0 c 0) 10 then zstr a 0 c 0 else 10 * x + 3) = zstr a 0 (max c x) 0 := by
  have hz : z05 0 := ⟨by decide, by decide⟩
  rw [(zstr_r ha hz hc hz).2]
  unfold z05 at ha hc hx
  unfold zstr zwho
  by_cases y : x ≤ max a c
  · rw [if_pos (by omega), show max (max a 0) (max (max c x) 0) = max (max a 0) (max c 0) by omega]
    by_cases u : max (max a 0) (max c 0) = 0
    · rw [if_pos u, if_pos u]
    · rw [if_neg u, if_neg u]
      by_cases w : a = max (max a 0) (max c 0)
      · rw [if_neg (by omega), if_neg (by omega)]
      · rw [if_pos w, if_pos w, if_pos (by omega), if_neg (by omega), if_pos (by omega), if_neg (by omega)]
  · rw [if_neg (by omega), if_neg (by omega), if_pos (by omega), if_pos (by omega), if_neg (by omega)]; omega
theorem zst_4 {a b c x : Int} (ha : z05 a) (hb : z05 b) (hc : z05 c) (hx : z05 x) : (if x ≤ Int.tdiv (zstr a b c 0) 10 then zstr a b c 0 else 10 * x + 4) = zstr a b c x := by
  have hz : z05 0 := ⟨by decide, by decide⟩
  rw [(zstr_r ha hb hc hz).2]
  unfold z05 at ha hb hc hx
  unfold zstr
  by_cases y : x ≤ max (max a b) (max c 0)
  · rw [if_pos y, show max (max a b) (max c x) = max (max a b) (max c 0) by omega]
  · rw [if_neg y, if_neg (by omega)]
    unfold zwho
    rw [if_pos (by omega), if_pos (by omega), if_pos (by omega)]; omega
/-- what an edge says, by what stands beside -/
def zedge (T M : Mem) (p1 p2 p3 y nr nc : Int) : Int := if 0 ≤ zcn T p1 p2 ∧ zcn T p1 p2 = zcn T nr nc then 0 else zstr (max (zwt T M 0 (zcn T p1 p2) p3) (zwt T M 0 (zcn T nr nc) (Int.tmod (p3 + 2) 4))) (if y = 0 then 0 else max (zwt T M 1 p1 p3) (zwt T M 1 nr (Int.tmod (p3 + 2) 4))) (if y = 0 then max (zwt T M 2 p2 p3) (zwt T M 2 nc (Int.tmod (p3 + 2) 4)) else 0) (if nr = -1 ∨ nc = -1 then M 11 0 30 else 0)
theorem zwt_0 {n s : Int} (y : 0 ≤ n ∧ n < T 11 0 15) : zwt T M 0 n s = M 77 0 (4 * n + s) := by
  unfold zwt; rw [if_pos rfl, if_pos y]
theorem zwt_1 {n s : Int} (y : 0 ≤ n ∧ n < T 11 0 8) : zwt T M 1 n s = M 78 0 (4 * n + s) := by
  unfold zwt; rw [if_neg (by decide), if_pos rfl, if_pos y]
theorem zwt_2 {n s : Int} (y : 0 ≤ n ∧ n < T 11 0 4) : zwt T M 2 n s = M 79 0 (4 * n + s) := by
  unfold zwt; rw [if_neg (by decide), if_neg (by decide), if_pos rfl, if_pos y]
theorem zwt_n {kd n s : Int} (y : n < 0) : zwt T M kd n s = 0 := by
  unfold zwt
  split
  · exact if_neg (by omega)
  · split
    · exact if_neg (by omega)
    · split
      · exact if_neg (by omega)
      · rfl
theorem zo_r {s : Int} (s0 : 0 ≤ s) (s1 : s < 4) : 0 ≤ Int.tmod (s + 2) 4 ∧ Int.tmod (s + 2) 4 < 4 := by
  rcases (by omega : s = 0 ∨ s = 1 ∨ s = 2 ∨ s = 3) with rfl | rfl | rfl | rfl <;> decide
theorem q_won307 {a b c y8 : Int} (ha : z05 a) (hb : z05 b) (hc : z05 c) (hd : z05 (M 11 0 30)) {nr nc : Int} (h8 : (y8 = 1 ∧ (nr = -1 ∨ nc = -1)) ∨ (y8 = 0 ∧ ¬ nr = -1 ∧ ¬ nc = -1)) {Qm : Int → Mem → Prop} (hq : Qm (zstr a b c (if nr = -1 ∨ nc = -1 then M 11 0 30 else 0)) M) : wp_X10_won_307 p1 p2 p3 Qm y8 (zstr a b c 0) M := by
  have hz : z05 0 := ⟨by decide, by decide⟩
  refine ⟨fun z => ?_, fun z => ?_⟩
  · rw [if_neg (by omega)] at hq; exact hq
  · rw [if_pos (by omega)] at hq
    exact q_wins (zstr_r ha hb hc hz).1 hd ⟨by omega, by omega⟩ (zst_4 ha hb hc hd) hq
theorem q_won201 (hG : Good T) (hB : zBR T M) {y4 nr nc y8 o a : Int} (hp : 0 ≤ p1 ∧ p1 < T 11 0 8) (hk : 0 ≤ p2 ∧ p2 < T 11 0 4) (s0 : 0 ≤ p3) (s1 : p3 < 4) (eo : o = Int.tmod (p3 + 2) 4) (hr : nr = -1 ∨ (0 ≤ nr ∧ nr < T 11 0 8)) (hc : nc = -1 ∨ (0 ≤ nc ∧ nc < T 11 0 4)) (h8 : (y8 = 1 ∧ (nr = -1 ∨ nc = -1)) ∨ (y8 = 0 ∧ ¬ nr = -1 ∧ ¬ nc = -1)) (h4 : (y4 = 0 ∧ nr = p1) ∨ (y4 = 1 ∧ nc = p2)) (ha : z05 a) {Qm : Int → Mem → Prop} (hq : Qm (zstr a (if y4 = 0 then 0 else max (zwt T M 1 p1 p3) (zwt T M 1 nr o)) (if y4 = 0 then max (zwt T M 2 p2 p3) (zwt T M 2 nc o) else 0) (if nr = -1 ∨ nc = -1 then M 11 0 30 else 0)) M) : wp_X10_won_201 p1 p2 p3 Qm y4 nr nc y8 o (zstr a 0 0 0) M := by
  have hC := hG.nC
  have hR := hG.nR
  have o1 : 0 ≤ o ∧ o < 4 := by rw [eo]; exact zo_r s0 s1
  have hz : z05 0 := ⟨by decide, by decide⟩
  have hd : z05 (M 11 0 30) := hB.1.1
  have b1 : z05 (zwt T M 1 p1 p3) := zwt_r hG hB 1 p1 s0 s1
  have b2 : z05 (zwt T M 1 nr o) := zwt_r hG hB 1 nr o1.1 o1.2
  have c1 : z05 (zwt T M 2 p2 p3) := zwt_r hG hB 2 p2 s0 s1
  have c2 : z05 (zwt T M 2 nc o) := zwt_r hG hB 2 nc o1.1 o1.2
  have bm : z05 (max (zwt T M 1 p1 p3) (zwt T M 1 nr o)) := by unfold z05 at b1 b2 ⊢; omega
  have cm : z05 (max (zwt T M 2 p2 p3) (zwt T M 2 nc o)) := by unfold z05 at c1 c2 ⊢; omega
  refine ⟨fun z => ?_, fun z => ?_⟩
  · rw [if_pos z, if_pos z] at hq
    rw [← zwt_2 (M := M) hk]
    have e0 : (if zwt T M 2 p2 p3 ≤ Int.tdiv (zstr a 0 0 0) 10 then zstr a 0 0 0 else 10 * zwt T M 2 p2 p3 + 3) = zstr a 0 (zwt T M 2 p2 p3) 0 := by
      have := zst_3 ha hz c1
      rw [show max 0 (zwt T M 2 p2 p3) = zwt T M 2 p2 p3 by unfold z05 at c1; omega] at this
      exact this
    refine ⟨⟨by omega, by omega⟩, ⟨by omega, by omega⟩, ⟨by omega, by omega⟩, q_wins (zstr_r ha hz hz hz).1 c1 ⟨by omega, by omega⟩ e0 ⟨fun y => ?_, fun y => ?_⟩⟩
    · have hn : 0 ≤ nc ∧ nc < T 11 0 4 := by omega
      rw [← zwt_2 (M := M) hn]
      exact ⟨⟨by omega, by omega⟩, ⟨by omega, by omega⟩, ⟨by omega, by omega⟩, q_wins (zstr_r ha hz c1 hz).1 c2 ⟨by omega, by omega⟩ (zst_3 ha c1 c2) (q_won307 ha hz cm hd h8 hq)⟩
    · have hn : nc = -1 := by omega
      rw [show max (zwt T M 2 p2 p3) (zwt T M 2 nc o) = zwt T M 2 p2 p3 by
        rw [zwt_n (n := nc) (by omega)]; unfold z05 at c1; omega] at hq
      exact q_won307 ha hz c1 hd h8 hq
  · rw [if_neg z, if_neg z] at hq
    rw [← zwt_1 (M := M) hp]
    have e0 : (if zwt T M 1 p1 p3 ≤ Int.tdiv (zstr a 0 0 0) 10 then zstr a 0 0 0 else 10 * zwt T M 1 p1 p3 + 2) = zstr a (zwt T M 1 p1 p3) 0 0 := by
      have := zst_2 ha hz b1
      rw [show max 0 (zwt T M 1 p1 p3) = zwt T M 1 p1 p3 by unfold z05 at b1; omega] at this
      exact this
    refine ⟨⟨by omega, by omega⟩, ⟨by omega, by omega⟩, ⟨by omega, by omega⟩, q_wins (zstr_r ha hz hz hz).1 b1 ⟨by omega, by omega⟩ e0 ⟨fun y => ?_, fun y => ?_⟩⟩
    · have hn : 0 ≤ nr ∧ nr < T 11 0 8 := by omega
      rw [← zwt_1 (M := M) hn]
      exact ⟨⟨by omega, by omega⟩, ⟨by omega, by omega⟩, ⟨by omega, by omega⟩, q_wins (zstr_r ha b1 hz hz).1 b2 ⟨by omega, by omega⟩ (zst_2 ha b1 b2) (q_won307 ha bm hz hd h8 hq)⟩
    · have hn : nr = -1 := by omega
      rw [show max (zwt T M 1 p1 p3) (zwt T M 1 nr o) = zwt T M 1 p1 p3 by
        rw [zwt_n (n := nr) (by omega)]; unfold z05 at b1; omega] at hq
      exact q_won307 ha b1 hz hd h8 hq
theorem q_won63 (hG : Good T) (hA : Ag T M) (hB : zBR T M) {y4 nr nc : Int} (hp : 0 ≤ p1 ∧ p1 < T 11 0 8) (hk : 0 ≤ p2 ∧ p2 < T 11 0 4) (s0 : 0 ≤ p3) (s1 : p3 < 4) (hr : nr = -1 ∨ (0 ≤ nr ∧ nr < T 11 0 8)) (hc : nc = -1 ∨ (0 ≤ nc ∧ nc < T 11 0 4)) (h4 : (y4 = 0 ∧ nr = p1) ∨ (y4 = 1 ∧ nc = p2)) {Qm : Int → Mem → Prop} (hq : Qm (zedge T M p1 p2 p3 y4 nr nc) M) : wp_X10_won_63 p1 p2 p3 Qm y4 nr nc M := by
  have hC := hG.nC
  have hR := hG.nR
  have hKn := hG.nK
  have e69 := hA.s69
  have hz : z05 0 := ⟨by decide, by decide⟩
  obtain ⟨y8, e8⟩ : ∃ y8, y8 = (if nr = (-1) then (1 : Int) else (if ¬ nc = (-1) then (0 : Int) else 1)) := ⟨_, rfl⟩
  have h8 : (y8 = 1 ∧ (nr = -1 ∨ nc = -1)) ∨ (y8 = 0 ∧ ¬ nr = -1 ∧ ¬ nc = -1) := by
    rw [e8]
    by_cases a : nr = -1
    · rw [if_pos a]; exact Or.inl ⟨rfl, Or.inl a⟩
    · rw [if_neg a]
      by_cases b : nc = -1
      · rw [if_neg (by omega)]; exact Or.inl ⟨rfl, Or.inr b⟩
      · rw [if_pos b]; exact Or.inr ⟨rfl, a, b⟩
  have en : (if y8 = 0 then (T 69 0 (6 * nr + nc) - 1) else (-1)) = zcn T nr nc := by
    unfold zcn
    by_cases y : nr = -1 ∨ nc = -1
    · rw [if_pos y, if_neg (by omega)]
    · rw [if_neg y, if_pos (by omega)]
  have ec : T 69 0 (6 * p1 + p2) - 1 = zcn T p1 p2 := by
    unfold zcn
    rw [if_neg (by omega)]
  have c1 := zcn_r (k := p2) hG (Or.inr hp) (Or.inr hk)
  have c2 := zcn_r hG hr hc
  have o1 := zo_r s0 s1
  obtain ⟨o, eo⟩ : ∃ o, o = Int.tmod (p3 + 2) 4 := ⟨_, rfl⟩
  unfold zedge at hq
  rw [← eo] at hq o1
  have hgo : (¬ (0 ≤ zcn T p1 p2 ∧ zcn T p1 p2 = zcn T nr nc)) → wp_X10_won_146 p1 p2 p3 Qm y4 nr nc y8 o (zcn T p1 p2) (zcn T nr nc) M := fun hne => by
    rw [if_neg hne] at hq
    obtain ⟨A, eA⟩ : ∃ A, A = zcn T p1 p2 := ⟨_, rfl⟩
    obtain ⟨B, eB⟩ : ∃ B, B = zcn T nr nc := ⟨_, rfl⟩
    rw [← eA] at c1 hq ⊢
    rw [← eB] at c2 hq ⊢
    have a1 : z05 (zwt T M 0 A p3) := zwt_r hG hB 0 A s0 s1
    have a2 : z05 (zwt T M 0 B o) := zwt_r hG hB 0 B o1.1 o1.2
    have am : z05 (max (zwt T M 0 A p3) (zwt T M 0 B o)) := by unfold z05 at a1 a2 ⊢; omega
    have hs : wp_X10_won_171 p1 p2 p3 Qm y4 nr nc y8 o B (zstr (zwt T M 0 A p3) 0 0 0) M := by
      refine ⟨fun y => ?_, fun y => ?_⟩
      · rw [show max (zwt T M 0 A p3) (zwt T M 0 B o) = zwt T M 0 A p3 by
          rw [zwt_n (n := B) y]; unfold z05 at a1; omega] at hq
        exact q_won201 hG hB hp hk s0 s1 eo hr hc h8 h4 a1 hq
      · rw [← zwt_0 (M := M) ⟨y, c2.2⟩]
        exact ⟨⟨by omega, by omega⟩, ⟨by omega, by omega⟩, ⟨by omega, by omega⟩, q_wins (zstr_r a1 hz hz hz).1 a2 ⟨by omega, by omega⟩ (zst_1 a1 a2) (q_won201 hG hB hp hk s0 s1 eo hr hc h8 h4 am hq)⟩
    refine ⟨fun y => ?_, fun y => ?_⟩
    · rw [zwt_n (n := A) y] at hs
      exact hs
    · rw [← zwt_0 (M := M) ⟨y, c1.2⟩]
      exact ⟨⟨by omega, by omega⟩, ⟨by omega, by omega⟩, ⟨by omega, by omega⟩, q_wins ⟨by omega, by omega⟩ a1 ⟨by omega, by omega⟩ (zst_0 a1) hs⟩
  unfold wp_X10_won_63
  rw [e69, ← e8, en, ec, ← eo]
  refine ⟨⟨by omega, by omega⟩, ⟨by omega, by omega⟩, ⟨by omega, by omega⟩, ⟨by omega, by omega⟩, ⟨by omega, by omega⟩, fun y => ⟨⟨by omega, by omega⟩, ⟨by omega, by omega⟩, ⟨by omega, by omega⟩, ?_, trivial⟩, ⟨by omega, by omega⟩, fun y => hgo (by omega), fun y => ⟨fun w => hgo (fun x => w x.2), fun w => ?_⟩⟩
  · have : T 69 0 (6 * nr + nc) - 1 = zcn T nr nc := by rw [← en, if_pos y]
    rw [this]
    exact ⟨by omega, by omega⟩
  · rw [if_pos ⟨y, w⟩] at hq
    exact hq
theorem k_edge166 (hG : Good T) (hL : zLk T) (hA : Ag T M) (hB : zBR T M) {Xm : String → Mem → Prop} {y nr nc : Int} (hp : 0 ≤ p1 ∧ p1 < T 11 0 8) (hk : 0 ≤ p2 ∧ p2 < T 11 0 4) (s0 : 0 ≤ p3) (s1 : p3 < 4) (hr : nr = -1 ∨ (0 ≤ nr ∧ nr < T 11 0 8)) (hc : nc = -1 ∨ (0 ≤ nc ∧ nc < T 11 0 4)) {Qm : Int → Mem → Prop} (hq : Qm (zedge T M p1 p2 p3 (if y = 0 then 1 else 0) nr nc) M) : wp_X9_edge_125 p1 p2 p3 Xm Qm y nr nc M := by
  have o1 := zo_r s0 s1
  have hz : z05 0 := ⟨by decide, by decide⟩
  refine k_cn hG hL hA (Or.inr hp) (Or.inr hk) (k_cn hG hL hA hr hc ?_)
  have c1 := zcn_r (k := p2) hG (Or.inr hp) (Or.inr hk)
  unfold zedge at hq
  obtain ⟨A, eA⟩ : ∃ A, A = zcn T p1 p2 := ⟨_, rfl⟩
  obtain ⟨B, eB⟩ : ∃ B, B = zcn T nr nc := ⟨_, rfl⟩
  rw [← eA] at c1 hq ⊢
  rw [← eB] at hq ⊢
  have a1 : z05 (zwt T M 0 A p3) := zwt_r hG hB 0 A s0 s1
  have a2 : z05 (zwt T M 0 B (Int.tmod (p3 + 2) 4)) := zwt_r hG hB 0 B o1.1 o1.2
  have am : z05 (max (zwt T M 0 A p3) (zwt T M 0 B (Int.tmod (p3 + 2) 4))) := by unfold z05 at a1 a2 ⊢; omega
  have b1 : z05 (zwt T M 1 p1 p3) := zwt_r hG hB 1 p1 s0 s1
  have b2 : z05 (zwt T M 1 nr (Int.tmod (p3 + 2) 4)) := zwt_r hG hB 1 nr o1.1 o1.2
  have f1 : z05 (zwt T M 2 p2 p3) := zwt_r hG hB 2 p2 s0 s1
  have f2 : z05 (zwt T M 2 nc (Int.tmod (p3 + 2) 4)) := zwt_r hG hB 2 nc o1.1 o1.2
  have bm : z05 (max (zwt T M 1 p1 p3) (zwt T M 1 nr (Int.tmod (p3 + 2) 4))) := by unfold z05 at b1 b2 ⊢; omega
  have cm : z05 (max (zwt T M 2 p2 p3) (zwt T M 2 nc (Int.tmod (p3 + 2) 4))) := by unfold z05 at f1 f2 ⊢; omega
  have ed : (if nr = -1 ∨ nc = -1 then M 11 0 30 else 0) = (if (if nr = (-1) then (1 : Int) else (if ¬ nc = (-1) then (0 : Int) else 1)) = 0 then (0 : Int) else (M 4 0 7)) := by
    rw [hB.1.2]
    by_cases a : nr = -1
    · rw [if_pos (Or.inl a), if_pos a, if_neg (by decide)]
    · rw [if_neg a]
      by_cases b : nc = -1
      · rw [if_pos (Or.inr b), if_neg (show ¬ ¬ nc = -1 from fun z => z b), if_neg (by decide)]
      · rw [if_neg (by omega), if_pos b, if_pos rfl]
  have hd : z05 (if (if nr = (-1) then (1 : Int) else (if ¬ nc = (-1) then (0 : Int) else 1)) = 0 then (0 : Int) else (M 4 0 7)) := by
    rw [← ed]
    split
    · exact hB.1.1
    · exact hz
  have hgo : ¬ (0 ≤ A ∧ A = B) → wp_X9_edge_166 p1 p2 p3 Xm Qm y nr nc A B M := fun hne => by
    rw [if_neg hne, ed] at hq
    refine k_greaterWeight hG hL hA hB (by decide) (by decide) s0 s1 ⟨fun e => k_greaterWeight hG hL hA hB (by decide) (by decide) s0 s1 ⟨fun _ => ?_, fun z => absurd e z⟩, fun e => ⟨fun z => absurd z e, fun _ => k_greaterWeight hG hL hA hB (by decide) (by decide) s0 s1 ?_⟩⟩
    · rw [if_pos e, if_neg (by decide), if_neg (by decide)] at hq
      exact k_strongest am bm hz hd hq
    · rw [if_neg e, if_pos rfl, if_pos rfl] at hq
      exact k_strongest am hz cm hd hq
  refine ⟨fun e => hgo (by omega), fun e => ⟨fun w => hgo (fun x => w x.2), fun w => ?_⟩⟩
  rw [if_pos ⟨by omega, w⟩] at hq
  exact hq
theorem zRA_r (hG : Good T) (a : Int) : zRA T a = -1 ∨ (0 ≤ zRA T a ∧ zRA T a < T 11 0 8) := by
  have m0 := hG.many (p := 0) (by omega) (by omega)
  have m1 := hG.many (p := 1) (by omega) (by omega)
  unfold zRA
  split
  · exact Or.inl rfl
  · split
    · have := (hG.ord 0 a (by omega) (by omega) (by omega) (by omega)).1
      rw [show 24 * 0 + a = a by omega] at this
      exact Or.inr this
    · split
      · have := (hG.ord 1 (a - T 64 0 0) (by omega) (by omega) (by omega) (by omega)).1
        rw [show (24 : Int) * 1 = 24 by omega] at this
        exact Or.inr this
      · split
        · have := (hG.ord 2 (a - T 64 0 0 - T 64 0 1) (by omega) (by omega) (by omega) (by omega)).1
          rw [show (24 : Int) * 2 = 48 by omega] at this
          exact Or.inr this
        · exact Or.inl rfl
theorem zNC_r {c st r : Int} (y : zNC T c st r) : r = -1 ∨ (0 ≤ r ∧ r < T 11 0 4) := by
  rcases y with y | y
  · exact Or.inl y.1
  · exact Or.inr y.1
theorem zwt_u (T M : Mem) (r c : Int) : zwt T (up (up M 103 0 0 r) 11 0 59 c) = zwt T M := by
  funext kd n s
  unfold zwt
  rw [up_f _ _ _ _ (by decide), up_f _ _ _ _ (by decide), up_f _ _ _ _ (by decide), up_f _ _ _ _ (by decide), up_f _ _ _ _ (by decide), up_f _ _ _ _ (by decide)]
theorem zedge_u (T M : Mem) (r c p1 p2 p3 y nr nc : Int) : zedge T (up (up M 103 0 0 r) 11 0 59 c) p1 p2 p3 y nr nc = zedge T M p1 p2 p3 y nr nc := by
  unfold zedge
  rw [zwt_u, up_k _ _ _ _ _ _ (by decide), up_s _ _ _ _ (by decide)]
theorem l_edge (h : Iv T O κ M) (hK : ∀ M', Iv T O κ M' → K κ M') : wp_law_25 p1 p2 p3 κ M K := by
  have h' := h
  obtain ⟨hG, hL, hA, -, -, -, -, -, -, hB⟩ := h
  have hC := hG.nC
  have hR := hG.nR
  have e59 := hA.s59
  refine k_hasRow hG hL hA (fun hp => ⟨fun _ => ?_, fun z => absurd z (by decide)⟩) (fun hp => ⟨fun z => absurd rfl z, fun _ => Or.inl ⟨rfl, ?_⟩⟩)
  · refine k_hasColumn hG hL hA (fun hk => ⟨fun _ => ?_, fun z => absurd z (by decide)⟩) (fun hk => ⟨fun z => absurd rfl z, fun _ => Or.inl ⟨rfl, ?_⟩⟩)
    · have hbad : ¬ (0 ≤ p3 ∧ p3 ≤ 3) → wp_X10_edge p1 p2 p3 M (fun r1 N1 => wp_X10_thrown N1 (fun r2 N2 => (r2 = 2) ∧ ((2 : Int) = 0 → N2 103 0 0 = r1) ∧ K κ N2)) := fun hs => by
        refine q_isRow hG hA (fun _ => ⟨fun z => absurd z (by decide), fun _ => q_isColumn hG hA (fun _ => q_in (fun z => absurd z hs) (fun _ => ⟨fun _ => ⟨⟨by omega, by omega⟩, trivial⟩, q_goes2 (by decide) rfl ⟨fun _ => finx0 h' hK (by decide), fun z => absurd rfl z⟩⟩)) (fun z => absurd hk z)⟩) (fun z => absurd hp z)
      refine ⟨fun s0 => Or.inr (Or.inl ⟨rfl, hbad (by omega)⟩), fun s0 => ⟨fun s1 => ?_, fun s1 => Or.inr (Or.inl ⟨rfl, hbad (by omega)⟩)⟩⟩
      refine k_isShown hG hL hA (fun hv => ⟨fun _ => ?_, fun z => absurd z (by decide)⟩) (fun hv => ⟨fun z => absurd rfl z, fun _ => Or.inr (Or.inr ⟨rfl, ?_⟩)⟩)
      · obtain ⟨st, est⟩ : ∃ st, st = (if p3 = 0 then ((-1) : Int) else (if ¬ p3 = 3 then (1 : Int) else (-1))) := ⟨_, rfl⟩
        have hst : st = 1 ∨ st = -1 := by
          rw [est]
          split
          · exact Or.inr rfl
          · split
            · exact Or.inl rfl
            · exact Or.inr rfl
        have hend : ∀ M2 v, M2 = up (up M 103 0 0 v) 11 0 59 0 → M2 11 0 59 = 0 ∧ ((0 : Int) = 0 → M2 103 0 0 = v) ∧ K κ M2 := fun M2 v e => by
          rw [e]
          exact ⟨v59 _ _ _, fun _ => v103 _ _ _, hK _ (h'.q0 (q2_rc _ _ _))⟩
        have hq : ∀ v : Int, (∀ Qm : Int → Mem → Prop, Qm v (up (up M 103 0 0 v) 11 0 59 0) → wp_X10_won p1 p2 p3 (up (up M 103 0 0 v) 11 0 59 0) Qm) → wp_X10_edge p1 p2 p3 (up M 103 0 0 v) (fun r1 N1 => wp_X10_thrown N1 (fun r2 N2 => (r2 = 0) ∧ ((0 : Int) = 0 → N2 103 0 0 = r1) ∧ K κ N2)) := fun v hw => by
          have hA1 : Ag T (up M 103 0 0 v) := hA.up rfl
          have x59 := hA1.s59
          refine q_isRow hG hA1 (fun _ => ⟨fun z => absurd z (by decide), fun _ => q_isColumn hG hA1 (fun _ => q_in (fun _ => ⟨fun _ => ⟨⟨by omega, by omega⟩, trivial⟩, ?_⟩) (fun z => absurd ⟨s0, s1⟩ z)) (fun z => absurd hk z)⟩) (fun z => absurd hp z)
          rw [x59, hv.2.2]
          exact q_goes0 (by decide) (by decide) (by decide) ⟨fun z => absurd z (by decide), fun _ => hw _ (hend _ _ rfl)⟩
        by_cases hu : p3 = 1 ∨ p3 = 3
        · have e1 : (if p3 = 1 then (1 : Int) else (if ¬ p3 = 3 then (0 : Int) else 1)) = 1 := by
            by_cases z : p3 = 1
            · rw [if_pos z]
            · rw [if_neg z, if_neg (by omega)]
          have e4 : (if ¬ (Int.tmod p3 2) = 0 then (0 : Int) else 1) = 0 := by
            rcases hu with rfl | rfl <;> rfl
          rw [e1, ← est]
          refine ⟨fun z => absurd z (by decide), fun _ => ⟨fun z => absurd z (by decide), fun _ => k_columnBeside hG hL hA hst hk.1 hk.2 (fun nc hnc => k_edge166 hG hL hA hB hp hk s0 (by omega) (Or.inr hp) (zNC_r hnc) (hq _ (fun Qm hQ => ?_)))⟩⟩
          have I2 := h'.q0 (q2_rc M (zedge T M p1 p2 p3 (if (1 : Int) = 0 then 1 else 0) p1 nc) 0)
          unfold wp_X10_won
          rw [e4, ← est]
          refine ⟨fun _ => ⟨fun _ => q_nextColumn hG I2.2.2.1 hst hk.1 hk.2 (fun r hr => ?_), fun z => absurd rfl z⟩, fun z => absurd rfl z⟩
          rw [zNC_uni hst hr hnc]
          refine q_won63 hG I2.2.2.1 I2.2.2.2.2.2.2.2.2.2 hp hk s0 (by omega) (Or.inr hp) (zNC_r hnc) (Or.inl ⟨rfl, rfl⟩) ?_
          rw [zedge_u]
          exact hQ
        · have e1 : (if p3 = 1 then (1 : Int) else (if ¬ p3 = 3 then (0 : Int) else 1)) = 0 := by
            rw [if_neg (by omega), if_pos (by omega)]
          have e4 : (if ¬ (Int.tmod p3 2) = 0 then (0 : Int) else 1) = 1 := by
            rcases (by omega : p3 = 0 ∨ p3 = 2) with rfl | rfl <;> rfl
          rw [e1, ← est]
          refine ⟨fun _ => k_rowBeside hG hL hA hst hp.1 hp.2 ⟨fun _ => k_edge166 hG hL hA hB hp hk s0 (by omega) (zRA_r hG _) (Or.inr hk) (hq _ (fun Qm hQ => ?_)), fun z => absurd rfl z⟩, fun z => absurd rfl z⟩
          have I2 := h'.q0 (q2_rc M (zedge T M p1 p2 p3 (if (0 : Int) = 0 then 1 else 0) (zRA T (zoff T (T 60 0 p1) + T 6 p1 6 + st)) p2) 0)
          unfold wp_X10_won
          rw [e4, ← est]
          refine ⟨fun z => absurd z (by decide), fun _ => q_nextRow hG I2.2.2.1 hst hp.1 hp.2 ⟨fun z => absurd z (by decide), fun _ => ?_⟩⟩
          refine q_won63 hG I2.2.2.1 I2.2.2.2.2.2.2.2.2.2 hp hk s0 (by omega) (zRA_r hG _) (Or.inr hk) (Or.inr ⟨rfl, rfl⟩) ?_
          rw [zedge_u]
          exact hQ
      · refine q_isRow hG hA (fun _ => ⟨fun z => absurd z (by decide), fun _ => q_isColumn hG hA (fun _ => q_in (fun _ => ⟨fun _ => ⟨⟨by omega, by omega⟩, trivial⟩, ?_⟩) (fun z => absurd ⟨s0, s1⟩ z)) (fun z => absurd hk z)⟩) (fun z => absurd hp z)
        have hz : ¬ T 59 0 p2 = 0 := fun z => hv ⟨hk.1, hk.2, z⟩
        rw [e59]
        refine q_goes3 (by decide) (by decide) ?_ ⟨fun _ => finx0 h' hK (by decide), fun z => absurd rfl z⟩
        rw [if_neg (by decide), if_pos hz]
    · refine q_isRow hG hA (fun _ => ⟨fun z => absurd z (by decide), fun _ => q_isColumn hG hA (fun z => absurd z hk) (fun _ => ?_)⟩) (fun z => absurd hp z)
      exact q_in (fun _ => ⟨fun z => absurd rfl z, q_goes1 rfl ⟨fun _ => finx0 h' hK (by decide), fun z => absurd rfl z⟩⟩) (fun _ => ⟨fun z => absurd rfl z, q_goes1 rfl ⟨fun _ => finx0 h' hK (by decide), fun z => absurd rfl z⟩⟩)
  · refine q_isRow hG hA (fun z => absurd z hp) (fun _ => ⟨fun _ => ?_, fun z => absurd rfl z⟩)
    exact q_in (fun _ => q_goes1 rfl ⟨fun _ => finx0 h' hK (by decide), fun z => absurd rfl z⟩) (fun _ => q_goes1 rfl ⟨fun _ => finx0 h' hK (by decide), fun z => absurd rfl z⟩)
end WA
