/-! the pure part: the edge -/
section WA
variable {T M : Mem} {O : zSt} {κ : Nat → Int} {K : (Nat → Int) → Mem → Prop} {p1 p2 p3 : Int}
/-- the number of the cell at a place, or none -/
def zcn (T : Mem) (r k : Int) : Int := if r = -1 ∨ k = -1 then -1 else T 69 0 (6 * r + k) - 1
theorem k_cn (hG : Good T) (hL : zLk T) (hA : Ag T M) {r k : Int} (hr : r = -1 ∨ (0 ≤ r ∧ r < T 11 0 8)) (hk : k = -1 ∨ (0 ≤ k ∧ k < T 11 0 4)) {Qm : Int → Mem → Prop} (hq : Qm (zcn T r k) M) : wp_X3_cellNumberAt r k M Qm := by
  unfold zcn at hq
  refine k_cellNumberAt hG hL hA (fun y => ?_) (fun y => ?_)
  · rw [if_neg (by omega)] at hq; exact hq
  · rw [if_pos (by omega)] at hq; exact hq
theorem zcn_r (hG : Good T) {r k : Int} (hr : r = -1 ∨ (0 ≤ r ∧ r < T 11 0 8)) (hk : k = -1 ∨ (0 ≤ k ∧ k < T 11 0 4)) : -1 ≤ zcn T r k ∧ zcn T r k < T 11 0 15 := by
  have hC := hG.nC
  have hKn := hG.nK
  unfold zcn
  split
  · omega
  · have := (hG.pl r k (by omega) (by omega) (by omega) (by omega)).1
    omega
def zwho (a b c m : Int) : Int := if ¬ a = m then (if ¬ b = m then (if ¬ c = m then (3 : Int) else 2) else 1) else 0
theorem zwho_r (a b c m : Int) : 0 ≤ zwho a b c m ∧ zwho a b c m ≤ 3 := by
  unfold zwho
  split
  · split
    · split <;> omega
    · omega
  · omega
/-- the strongest of a cell's, a row's, a column's and the table's -/
def zstr (a b c d : Int) : Int := if max (max a b) (max c d) = 0 then 0 else 10 * max (max a b) (max c d) + zwho a b c (max (max a b) (max c d)) + 1
def z05 (a : Int) : Prop := 0 ≤ a ∧ a ≤ 5
theorem zstr_r {a b c d : Int} (ha : z05 a) (hb : z05 b) (hc : z05 c) (hd : z05 d) : (0 ≤ zstr a b c d ∧ zstr a b c d ≤ 60) ∧ Int.tdiv (zstr a b c d) 10 = max (max a b) (max c d) := by
  unfold z05 at ha hb hc hd
  have hw := zwho_r a b c (max (max a b) (max c d))
  have e0 : 0 ≤ zstr a b c d := by
    unfold zstr
    split <;> omega
  refine ⟨⟨e0, ?_⟩, ?_⟩
  · unfold zstr
    split <;> omega
  · rw [Int.tdiv_eq_ediv_of_nonneg e0]
    unfold zstr
    split <;> omega
theorem k_strongest {a b c d : Int} (ha : z05 a) (hb : z05 b) (hc : z05 c) (hd : z05 d) {Qm : Int → Mem → Prop} (hq : Qm (zstr a b c d) M) : wp_X9_strongest a b c d M Qm := by
  unfold z05 at ha hb hc hd
  have hw := zwho_r a b c (max (max a b) (max c d))
  unfold zstr at hq
  unfold zwho at hw hq
  refine ⟨fun z => ⟨⟨by omega, by omega⟩, ⟨by omega, by omega⟩, ⟨by omega, by omega⟩, ?_⟩, fun z => ?_⟩
  · rw [if_neg z] at hq; exact hq
  · rw [if_pos z] at hq; exact hq
theorem zst_0 {a : Int} (ha : z05 a) : (if a ≤ Int.tdiv 0 10 then 0 else 10 * a + 1) = zstr a 0 0 0 := by
  unfold z05 at ha
  rw [show Int.tdiv 0 10 = 0 from rfl]
  unfold zstr zwho
  by_cases z : a = 0
  · rw [if_pos (by omega), if_pos (by omega)]
  · rw [if_neg (by omega), if_neg (by omega), if_neg (by omega)]; omega
theorem zst_1 {a b : Int} (ha : z05 a) (hb : z05 b) : (if b ≤ Int.tdiv (zstr a 0 0 0) 10 then zstr a 0 0 0 else 10 * b + 1) = zstr (max a b) 0 0 0 := by
  have hz : z05 0 := ⟨by decide, by decide⟩
  rw [(zstr_r ha hz hz hz).2]
  unfold z05 at ha hb
  by_cases y : b ≤ a
  · rw [if_pos (by omega), show max a b = a by omega]
  · rw [if_neg (by omega)]
    unfold zstr zwho
    rw [if_neg (by omega), if_neg (by omega)]; omega
theorem zst_2 {a b x : Int} (ha : z05 a) (hb : z05 b) (hx : z05 x) : (if x ≤ Int.tdiv (zstr a b 0 0) 10 then zstr a b 0 0 else 10 * x + 2) = zstr a (max b x) 0 0 := by
  have hz : z05 0 := ⟨by decide, by decide⟩
  rw [(zstr_r ha hb hz hz).2]
  unfold z05 at ha hb hx
  unfold zstr zwho
  by_cases y : x ≤ max a b
  · rw [if_pos (by omega), show max (max a (max b x)) (max 0 0) = max (max a b) (max 0 0) by omega]
    by_cases u : max (max a b) (max 0 0) = 0
    · rw [if_pos u, if_pos u]
    · rw [if_neg u, if_neg u]
      by_cases w : a = max (max a b) (max 0 0)
      · rw [if_neg (by omega), if_neg (by omega)]
      · rw [if_pos w, if_pos w, if_neg (by omega), if_neg (by omega)]
  · rw [if_neg (by omega), if_neg (by omega), if_pos (by omega), if_neg (by omega)]; omega
theorem zst_3 {a c x : Int} (ha : z05 a) (hc : z05 c) (hx : z05 x) : (if x ≤ Int.tdiv (zstr a 0 c 0) 10 then zstr a 0 c 0 else 10 * x + 3) = zstr a 0 (max c x) 0 := by
  have hz : z05 0 := ⟨by decide, by decide⟩
  rw [(zstr_r ha hz hc hz).2]
  unfold z05 at ha hc hx
  unfold zstr zwho
  by_cases y : x ≤ max a c
  · rw [if_pos (by omega), show max (max a 0) (max (max c x) 0) = max (max a 0) (max c 0) by omega]
    by_cases u : max (max a 0) (max c 0) = 0
    · rw [if_pos u, if_pos u]
    · rw [if_neg u, if_neg u]
      by_cases w : a = max (max a 0) (max c 0)
      · rw [if_neg (by omega), if_neg (by omega)]
      · rw [if_pos w, if_pos w, if_pos (by omega), if_neg (by omega), if_pos (by omega), if_neg (by omega)]
  · rw [if_neg (by omega), if_neg (by omega), if_pos (by omega), if_pos (by omega), if_neg (by omega)]; omega
theorem zst_4 {a b c x : Int} (ha : z05 a) (hb : z05 b) (hc : z05 c) (hx : z05 x) : (if x ≤ Int.tdiv (zstr a b c 0) 10 then zstr a b c 0 else 10 * x + 4) = zstr a b c x := by
  have hz : z05 0 := ⟨by decide, by decide⟩
  rw [(zstr_r ha hb hc hz).2]
  unfold z05 at ha hb hc hx
  unfold zstr
  by_cases y : x ≤ max (max a b) (max c 0)
  · rw [if_pos y, show max (max a b) (max c x) = max (max a b) (max c 0) by omega]
  · rw [if_neg y, if_neg (by omega)]
    unfold zwho
    rw [if_pos (by omega), if_pos (by omega), if_pos (by omega)]; omega
/-- what an edge says, by what stands beside -/
def zedge (T M : Mem) (p1 p2 p3 y nr nc : Int) : Int := if 0 ≤ zcn T p1 p2 ∧ zcn T p1 p2 = zcn T nr nc then 0 else zstr (max (zwt T M 0 (zcn T p1 p2) p3) (zwt T M 0 (zcn T nr nc) (Int.tmod (p3 + 2) 4))) (if y = 0 then 0 else max (zwt T M 1 p1 p3) (zwt T M 1 nr (Int.tmod (p3 + 2) 4))) (if y = 0 then max (zwt T M 2 p2 p3) (zwt T M 2 nc (Int.tmod (p3 + 2) 4)) else 0) (if nr = -1 ∨ nc = -1 then M 11 0 30 else 0)
theorem zwt_0 {n s : Int} (y : 0 ≤ n ∧ n < T 11 0 15) : zwt T M 0 n s = M 77 0 (4 * n + s) := by
  unfold zwt; rw [if_pos rfl, if_pos y]
theorem zwt_1 {n s : Int} (y : 0 ≤ n ∧ n < T 11 0 8) : zwt T M 1 n s = M 78 0 (4 * n + s) := by
  unfold zwt; rw [if_neg (by decide), if_pos rfl, if_pos y]
theorem zwt_2 {n s : Int} (y : 0 ≤ n ∧ n < T 11 0 4) : zwt T M 2 n s = M 79 0 (4 * n + s) := by
  unfold zwt; rw [if_neg (by decide), if_neg (by decide), if_pos rfl, if_pos y]
theorem zwt_n {kd n s : Int} (y : n < 0) : zwt T M kd n s = 0 := by
  unfold zwt
  split
  · exact if_neg (by omega)
  · split
    · exact if_neg (by omega)
    · split
      · exact if_neg (by omega)
      · rfl
theorem zo_r {s : Int} (s0 : 0 ≤ s) (s1 : s < 4) : 0 ≤ Int.tmod (s + 2) 4 ∧ Int.tmod (s + 2) 4 < 4 := by
  rcases (by omega : s = 0 ∨ s = 1 ∨ s = 2 ∨ s = 3) with rfl | rfl | rfl | rfl <;> decide
theorem k_edge166 (hG : Good T) (hL : zLk T) (hA : Ag T M) (hB : zBR T M) {Xm : String → Mem → Prop} {y nr nc : Int} (hp : 0 ≤ p1 ∧ p1 < T 11 0 8) (hk : 0 ≤ p2 ∧ p2 < T 11 0 4) (s0 : 0 ≤ p3) (s1 : p3 < 4) (hr : nr = -1 ∨ (0 ≤ nr ∧ nr < T 11 0 8)) (hc : nc = -1 ∨ (0 ≤ nc ∧ nc < T 11 0 4)) {Qm : Int → Mem → Prop} (hq : Qm (zedge T M p1 p2 p3 (if y = 0 then 1 else 0) nr nc) M) : wp_X9_edge_125 p1 p2 p3 Xm Qm y nr nc M := by
  have o1 := zo_r s0 s1
  have hz : z05 0 := ⟨by decide, by decide⟩
  refine k_cn hG hL hA (Or.inr hp) (Or.inr hk) (k_cn hG hL hA hr hc ?_)
  have c1 := zcn_r (k := p2) hG (Or.inr hp) (Or.inr hk)
  unfold zedge at hq
  obtain ⟨A, eA⟩ : ∃ A, A = zcn T p1 p2 := ⟨_, rfl⟩
  obtain ⟨B, eB⟩ : ∃ B, B = zcn T nr nc := ⟨_, rfl⟩
  rw [← eA] at c1 hq ⊢
  rw [← eB] at hq ⊢
  have a1 : z05 (zwt T M 0 A p3) := zwt_r hG hB 0 A s0 s1
  have a2 : z05 (zwt T M 0 B (Int.tmod (p3 + 2) 4)) := zwt_r hG hB 0 B o1.1 o1.2
  have am : z05 (max (zwt T M 0 A p3) (zwt T M 0 B (Int.tmod (p3 + 2) 4))) := by unfold z05 at a1 a2 ⊢; omega
  have b1 : z05 (zwt T M 1 p1 p3) := zwt_r hG hB 1 p1 s0 s1
  have b2 : z05 (zwt T M 1 nr (Int.tmod (p3 + 2) 4)) := zwt_r hG hB 1 nr o1.1 o1.2
  have f1 : z05 (zwt T M 2 p2 p3) := zwt_r hG hB 2 p2 s0 s1
  have f2 : z05 (zwt T M 2 nc (Int.tmod (p3 + 2) 4)) := zwt_r hG hB 2 nc o1.1 o1.2
  have bm : z05 (max (zwt T M 1 p1 p3) (zwt T M 1 nr (Int.tmod (p3 + 2) 4))) := by unfold z05 at b1 b2 ⊢; omega
  have cm : z05 (max (zwt T M 2 p2 p3) (zwt T M 2 nc (Int.tmod (p3 + 2) 4))) := by unfold z05 at f1 f2 ⊢; omega
  have ed : (if nr = -1 ∨ nc = -1 then M 11 0 30 else 0) = (if (if nr = (-1) then (1 : Int) else (if ¬ nc = (-1) then (0 : Int) else 1)) = 0 then (0 : Int) else (M 4 0 7)) := by
    rw [hB.1.2]
    by_cases a : nr = -1
    · rw [if_pos (Or.inl a), if_pos a, if_neg (by decide)]
    · rw [if_neg a]
      by_cases b : nc = -1
      · rw [if_pos (Or.inr b), if_neg (show ¬ ¬ nc = -1 from fun z => z b), if_neg (by decide)]
      · rw [if_neg (by omega), if_pos b, if_pos rfl]
  have hd : z05 (if (if nr = (-1) then (1 : Int) else (if ¬ nc = (-1) then (0 : Int) else 1)) = 0 then (0 : Int) else (M 4 0 7)) := by
    rw [← ed]
    split
    · exact hB.1.1
    · exact hz
  have hgo : ¬ (0 ≤ A ∧ A = B) → wp_X9_edge_166 p1 p2 p3 Xm Qm y nr nc A B M := fun hne => by
    rw [if_neg hne, ed] at hq
    refine k_greaterWeight hG hL hA hB (by decide) (by decide) s0 s1 ⟨fun e => k_greaterWeight hG hL hA hB (by decide) (by decide) s0 s1 ⟨fun _ => ?_, fun z => absurd e z⟩, fun e => ⟨fun z => absurd z e, fun _ => k_greaterWeight hG hL hA hB (by decide) (by decide) s0 s1 ?_⟩⟩
    · rw [if_pos e, if_neg (by decide), if_neg (by decide)] at hq
      exact k_strongest am bm hz hd hq
    · rw [if_neg e, if_pos rfl, if_pos rfl] at hq
      exact k_strongest am hz cm hd hq
  refine ⟨fun e => hgo (by omega), fun e => ⟨fun w => hgo (fun x => w x.2), fun w => ?_⟩⟩
  rw [if_pos ⟨by omega, w⟩] at hq
  exact hq
theorem zRA_r (hG : Good T) (a : Int) : zRA T a = -1 ∨ (0 ≤ zRA T a ∧ zRA T a < T 11 0 8) := by
  have m0 := hG.many (p := 0) (by omega) (by omega)
  have m1 := hG.many (p := 1) (by omega) (by omega)
  unfold zRA
  split
  · exact Or.inl rfl
  · split
    · have := (hG.ord 0 a (by omega) (by omega) (by omega) (by omega)).1
      rw [show 24 * 0 + a = a by omega] at this
      exact Or.inr this
    · split
      · have := (hG.ord 1 (a - T 64 0 0) (by omega) (by omega) (by omega) (by omega)).1
        rw [show (24 : Int) * 1 = 24 by omega] at this
        exact Or.inr this
      · split
        · have := (hG.ord 2 (a - T 64 0 0 - T 64 0 1) (by omega) (by omega) (by omega) (by omega)).1
          rw [show (24 : Int) * 2 = 48 by omega] at this
          exact Or.inr this
        · exact Or.inl rfl
theorem zNC_r {c st r : Int} (y : zNC T c st r) : r = -1 ∨ (0 ≤ r ∧ r < T 11 0 4) := by
  rcases y with y | y
  · exact Or.inl y.1
  · exact Or.inr y.1
theorem zwt_u (T M : Mem) (r c : Int) : zwt T (up (up M 103 0 0 r) 11 0 59 c) = zwt T M := by
  funext kd n s
  unfold zwt
  rw [up_f _ _ _ _ (by decide), up_f _ _ _ _ (by decide), up_f _ _ _ _ (by decide), up_f _ _ _ _ (by decide), up_f _ _ _ _ (by decide), up_f _ _ _ _ (by decide)]
theorem zedge_u (T M : Mem) (r c p1 p2 p3 y nr nc : Int) : zedge T (up (up M 103 0 0 r) 11 0 59 c) p1 p2 p3 y nr nc = zedge T M p1 p2 p3 y nr nc := by
  unfold zedge
  rw [zwt_u, up_k _ _ _ _ _ _ (by decide), up_s _ _ _ _ (by decide)]
end WA
