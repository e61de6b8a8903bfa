/-! the order of sorted rows -/
def zky (T : Mem) (p f r : Int) : Int := if zfig T r p = -1 then 2000000 else if f = 0 then T 74 0 (zfig T r p) else -T 74 0 (zfig T r p)
def zlt (T : Mem) (p f a b : Int) : Prop := zky T p f a < zky T p f b ∨ (zky T p f a = zky T p f b ∧ T 6 a 6 < T 6 b 6)
/-- what a key is read from -/
def zLv (T M : Mem) : Prop := lwM T M ∧ lwN T ∧ lwC T M ∧ lwR T M ∧ lwT T M ∧ lwF T M
theorem zLv.m {T M : Mem} (h : zLv T M) : lwM T M := h.1
theorem zLv.n {T M : Mem} (h : zLv T M) : lwN T := h.2.1
theorem zLv.c {T M : Mem} (h : zLv T M) : lwC T M := h.2.2.1
theorem zLv.r {T M : Mem} (h : zLv T M) : lwR T M := h.2.2.2.1
theorem zLv.t {T M : Mem} (h : zLv T M) : lwT T M := h.2.2.2.2.1
theorem zLv.f {T M : Mem} (h : zLv T M) : lwF T M := h.2.2.2.2.2
theorem zLw.v {T M M' : Mem} (h : zLw T M) (f : ∀ s : Nat, 104 ≤ s → s ≤ 112 → s ≠ 106 → M' s = M s) : zLv T M' := ⟨h.1.cg (fun _ _ => rfl) (f 112 (by decide) (by decide) (by decide)), h.2.1, h.2.2.1.cg rfl (fun _ _ _ => rfl) (f 104 (by decide) (by decide) (by decide)), h.2.2.2.1.cg rfl (fun _ _ _ => rfl) (f 105 (by decide) (by decide) (by decide)), h.2.2.2.2.2.1.cg rfl (fun _ _ => rfl) (f 107 (by decide) (by decide) (by decide)), h.2.2.2.2.2.2.1.cg rfl (fun _ _ => rfl) (f 109 (by decide) (by decide) (by decide))⟩
section DF
variable {T M : Mem} {p f p4 p5 p6 : Int}
theorem zlt_tr {a b c : Int} (h : zlt T p f a b) (h' : zlt T p f b c) : zlt T p f a c := by
  unfold zlt at *
  omega
theorem zlt_as {a b : Int} (h : zlt T p f a b) : ¬ zlt T p f b a := by
  unfold zlt at *
  omega
theorem zky_r (hG : Good T) {r : Int} (r0 : 0 ≤ r) (r1 : r < T 11 0 8) (k0 : 0 ≤ p) (k1 : p < T 11 0 4) : (zfig T r p = -1 → zky T p f r = 2000000) ∧ (¬ zfig T r p = -1 → -1000000 ≤ zky T p f r ∧ zky T p f r ≤ 1000000) := by
  have hz := zfig_r2 hG r0 r1 k0 k1
  refine ⟨fun h => if_pos h, fun h => ?_⟩
  have hc := hG.cell (zfig T r p) (by omega) (by omega)
  obtain ⟨-, -, -, -, -, -, -, w, -⟩ := hc
  unfold zky
  rw [if_neg h]
  split <;> omega
theorem zga_ky (hG : Good T) {r o : Int} (r0 : 0 ≤ r) (r1 : r < T 11 0 8) (o0 : 0 ≤ o) (o1 : o < T 11 0 8) (k0 : 0 ≤ p) (k1 : p < T 11 0 4) : zga T p f r o = 0 ↔ zky T p f o ≤ zky T p f r := by
  have a := zky_r (f := f) hG r0 r1 k0 k1
  have b := zky_r (f := f) hG o0 o1 k0 k1
  unfold zga
  by_cases h : zfig T r p = -1
  · rw [if_pos h]
    have := a.1 h
    by_cases g : zfig T o p = -1
    · have := b.1 g
      omega
    · have := b.2 g
      omega
  · rw [if_neg h]
    have := a.2 h
    by_cases g : zfig T o p = -1
    · have := b.1 g
      rw [if_pos g]
      omega
    · rw [if_neg g]
      unfold zky
      rw [if_neg h, if_neg g]
      by_cases z : f = 0
      · rw [if_pos z, if_pos z, if_pos z]
        split <;> omega
      · rw [if_neg z, if_neg z, if_neg z]
        split <;> omega
theorem zin1_s (hG : Good T) (k0 : 0 ≤ p) (k1 : p < T 11 0 4) {x : Int} (x0 : 0 ≤ x) (x1 : x < T 11 0 8) : ∀ (k : Nat) (a : Int → Int), (∀ i, 0 ≤ i → i < (k : Int) → 0 ≤ a i ∧ a i < T 11 0 8 ∧ T 6 (a i) 6 < T 6 x 6) → (∀ i j, 0 ≤ i → i < j → j < (k : Int) → zlt T p f (a i) (a j)) → (∀ i j, 0 ≤ i → i < j → j ≤ (k : Int) → zlt T p f (zin1 T p f x k a i) (zin1 T p f x k a j)) ∧ (∀ i, 0 ≤ i → i ≤ (k : Int) → zin1 T p f x k a i = x ∨ ∃ j, (0 ≤ j ∧ j < (k : Int)) ∧ zin1 T p f x k a i = a j) ∧ ∀ i, (k : Int) < i → zin1 T p f x k a i = a i := by
  intro k
  induction k with
  | zero =>
    intro a h1 h2
    refine ⟨fun i j a b c => by omega, fun i a b => Or.inl ?_, fun i a => ?_⟩
    · show zset _ 0 x i = x
      unfold zset
      rw [if_pos (by omega)]
    · show zset _ 0 x i = _
      unfold zset
      rw [if_neg (by omega)]
  | succ k ih =>
    intro a h1 h2
    obtain ⟨ak0, ak1, ak2⟩ := h1 k (by omega) (by omega)
    have hz := zga_ky (f := f) hG x0 x1 ak0 ak1 k0 k1
    have ek : ((k + 1 : Nat) : Int) = (k : Int) + 1 := by omega
    by_cases z : zga T p f x (a k) = 0
    · have e : zin1 T p f x (k + 1) a = zset a ((k + 1 : Nat) : Int) x := by
        show (if zga T p f x (a k) = 0 then _ else _) = _
        rw [if_pos z]
      rw [e]
      have hle := hz.1 z
      have lx : zlt T p f (a k) x := by unfold zlt; omega
      refine ⟨fun i j i0 ij j1 => ?_, fun i i0 i1 => ?_, fun i i1 => ?_⟩
      · unfold zset
        rw [if_neg (show ¬ i = ((k + 1 : Nat) : Int) by omega)]
        by_cases e : j = ((k + 1 : Nat) : Int)
        · rw [if_pos e]
          by_cases e2 : i = k
          · rw [e2]; exact lx
          · exact zlt_tr (h2 i k i0 (by omega) (by omega)) lx
        · rw [if_neg e]
          exact h2 i j i0 ij (by omega)
      · unfold zset
        by_cases e : i = ((k + 1 : Nat) : Int)
        · rw [if_pos e]; exact Or.inl rfl
        · rw [if_neg e]; exact Or.inr ⟨i, by omega, rfl⟩
      · unfold zset
        rw [if_neg (by omega)]
    · have e : zin1 T p f x (k + 1) a = zin1 T p f x k (zset a ((k + 1 : Nat) : Int) (a k)) := by
        show (if zga T p f x (a k) = 0 then _ else _) = _
        rw [if_neg z]
      rw [e]
      have zo : ∀ i, i ≠ ((k + 1 : Nat) : Int) → zset a ((k + 1 : Nat) : Int) (a k) i = a i := fun i hi => by unfold zset; rw [if_neg hi]
      have zk : zset a ((k + 1 : Nat) : Int) (a k) ((k + 1 : Nat) : Int) = a k := by unfold zset; rw [if_pos rfl]
      obtain ⟨g1, g2, g3⟩ := ih (zset a ((k + 1 : Nat) : Int) (a k)) (fun i i0 i1 => by rw [zo i (by omega)]; exact h1 i i0 (by omega)) (fun i j i0 ij j1 => by rw [zo i (by omega), zo j (by omega)]; exact h2 i j i0 ij (by omega))
      have lx : zlt T p f x (a k) := by
        have : ¬ zky T p f (a k) ≤ zky T p f x := fun y => z (hz.2 y)
        unfold zlt
        omega
      have last := g3 ((k + 1 : Nat) : Int) (by omega)
      rw [zk] at last
      refine ⟨fun i j i0 ij j1 => ?_, fun i i0 i1 => ?_, fun i i1 => ?_⟩
      · by_cases e : j = ((k + 1 : Nat) : Int)
        · rw [e, last]
          rcases g2 i i0 (by omega) with y | ⟨q, q0, y⟩
          · rw [y]; exact lx
          · rw [y, zo q (by omega)]
            exact h2 q k q0.1 (by omega) (by omega)
        · exact g1 i j i0 ij (by omega)
      · by_cases e : i = ((k + 1 : Nat) : Int)
        · rw [e, last]
          exact Or.inr ⟨k, by omega, rfl⟩
        · rcases g2 i i0 (by omega) with y | ⟨q, q0, y⟩
          · exact Or.inl y
          · refine Or.inr ⟨q, by omega, ?_⟩
            rw [y, zo q (by omega)]
      · rw [g3 i (by omega), zo i (by omega)]
theorem zsrt_s (hG : Good T) (k0 : 0 ≤ p) (k1 : p < T 11 0 4) : ∀ i j, 0 ≤ i → i < j → j < T 64 0 1 → zlt T p f (zsrt T p f (max 1 (T 64 0 1)) i) (zsrt T p f (max 1 (T 64 0 1)) j) := by
  have hm := hG.many (p := 1) (by decide) (by decide)
  have hB : ∀ k, 0 ≤ k → k < T 64 0 1 → (0 ≤ T 63 0 (24 + k) ∧ T 63 0 (24 + k) < T 11 0 8) ∧ T 6 (T 63 0 (24 + k)) 6 = k := fun k a b => by
    obtain ⟨x, y, z⟩ := hG.ord 1 k (by decide) (by decide) a b
    exact ⟨x, z⟩
  have key : (∀ i j, 0 ≤ i → i < j → j < max 1 (T 64 0 1) → zlt T p f (zsrt T p f (max 1 (T 64 0 1)) i) (zsrt T p f (max 1 (T 64 0 1)) j)) ∧ (∀ i, max 1 (T 64 0 1) ≤ i → zsrt T p f (max 1 (T 64 0 1)) i = T 63 0 (24 + i)) ∧ ∀ i, 0 ≤ i → i < max 1 (T 64 0 1) → i < T 64 0 1 → (0 ≤ zsrt T p f (max 1 (T 64 0 1)) i ∧ zsrt T p f (max 1 (T 64 0 1)) i < T 11 0 8) ∧ T 6 (zsrt T p f (max 1 (T 64 0 1)) i) 6 < max 1 (T 64 0 1) := by
    unfold zsrt
    refine zF_ind (fun (n : Int) (a : Int → Int) => (∀ i j, 0 ≤ i → i < j → j < n → zlt T p f (a i) (a j)) ∧ (∀ i, n ≤ i → a i = T 63 0 (24 + i)) ∧ ∀ i, 0 ≤ i → i < n → i < T 64 0 1 → (0 ≤ a i ∧ a i < T 11 0 8) ∧ T 6 (a i) 6 < n) (by omega) ⟨fun i j a b c => by omega, fun i _ => rfl, fun i a b c => ?_⟩ (fun n a n0 n1 h => ?_)
    · obtain ⟨x, y⟩ := hB i a c
      exact ⟨x, by show T 6 (T 63 0 (24 + i)) 6 < 1; omega⟩
    · obtain ⟨g1, g2, g3⟩ := h
      have nm : n < T 64 0 1 := by omega
      obtain ⟨x, y⟩ := hB n (by omega) nm
      have en : ((n.toNat : Nat) : Int) = n := by omega
      have ea := g2 n (Int.le_refl _)
      rw [← ea] at x y
      obtain ⟨q1, q2, q3⟩ := zin1_s (f := f) hG k0 k1 x.1 x.2 n.toNat a (fun i i0 i1 => by
        have := g3 i i0 (by omega) (by omega)
        rw [y]
        exact ⟨this.1.1, this.1.2, this.2⟩) (fun i j i0 ij j1 => g1 i j i0 ij (by omega))
      rw [en] at q1 q2 q3
      refine ⟨fun i j i0 ij j1 => q1 i j i0 ij (by omega), fun i hi => (q3 i (by omega)).trans (g2 i (by omega)), fun i i0 i1 i2 => ?_⟩
      rcases q2 i i0 (by omega) with e | ⟨j, j0, e⟩
      · rw [e]
        exact ⟨x, by omega⟩
      · rw [e]
        have := g3 j j0.1 j0.2 (by omega)
        exact ⟨this.1, by omega⟩
  exact fun i j i0 ij j1 => key.1 i j i0 ij (by omega)
theorem j_its2 (hG : Good T) (L : zLv T M) {r k c : Int} (r0 : 0 ≤ r) (r1 : r < T 11 0 8) (k0 : 0 ≤ k) (k1 : k < T 11 0 4) (c0 : 0 ≤ c) (c1 : c < T 11 0 15) : zfig T r k = c ↔ (M 107 0 (6 * c) = r ∧ M 107 0 (6 * c + 1) = k ∧ 0 ≤ M 107 0 (6 * c + 5) ∧ M 104 0 (4 * k + 3) = 0) := by
  obtain ⟨t0, t1, t2, t3, t4, t5⟩ := L.t c c0 c1
  obtain ⟨-, -, -, c3⟩ := L.c k k0 k1
  obtain ⟨-, -, -, -, -, -, w7, -, w9, -⟩ := hG.cell c c0 c1
  rw [zfig_cell hG r0 r1 k0 k1 c0 c1, t0, t1, t5, c3]
  constructor
  · rintro ⟨⟨a, b, d⟩, e⟩
    rw [d] at b
    rw [if_pos a]
    exact ⟨e.symm, d, by omega, b⟩
  · rintro ⟨a, b, d, e⟩
    by_cases z : T 73 0 c = 1
    · exact ⟨⟨z, by rw [b]; exact e, b⟩, a.symm⟩
    · rw [if_neg z] at d
      omega
theorem j_key (hG : Good T) (L : zLv T M) (r0 : 0 ≤ p4) (r1 : p4 < T 11 0 8) (k0 : 0 ≤ p5) (k1 : p5 < T 11 0 4) {Qm : Int → Mem → Prop} (hq : Qm (zky T p5 p6 p4) M) : wp_L_key p4 p5 p6 M Qm := by
  have hn := L.n
  unfold lwN at hn
  have hKn := hG.nK
  obtain ⟨-, -, m2, -⟩ := L.m
  have hz := zfig_r2 hG r0 r1 k0 k1
  obtain ⟨v, ev⟩ : ∃ v, v = (if p6 = 0 then T 74 0 (zfig T p4 p5) else -T 74 0 (zfig T p4 p5)) := ⟨_, rfl⟩
  refine zLoop (σ := Int) (fun n k s => wp_L_key_7 p4 p5 p6 Qm n s k M) (fun k s => s = if 0 ≤ zfig T p4 p5 ∧ zfig T p4 p5 < k then v else 2000000) (T 11 0 15) hKn.1 (s := 2000000) (by rw [if_neg (by omega)]) (fun n s hs => ?_) (fun n c s a b hs ih => ?_)
  · refine ⟨fun _ => ?_, fun z => absurd z (by rw [m2]; omega)⟩
    have e : s = zky T p5 p6 p4 := by
      rw [hs]
      unfold zky
      by_cases z : zfig T p4 p5 = -1
      · rw [if_neg (by omega), if_pos z]
      · rw [if_pos (by omega), if_neg z, ev]
    rw [e]; exact hq
  · have hi := j_its2 hG L r0 r1 k0 k1 a b
    obtain ⟨-, -, -, -, -, -, -, w8, -⟩ := hG.cell c a b
    obtain ⟨t, et⟩ : ∃ t, t = (if ¬ M 107 0 (6 * c) = p4 then (0 : Int) else (if ¬ M 107 0 (6 * c + 1) = p5 then (0 : Int) else (if M 107 0 (6 * c + 5) < 0 then (0 : Int) else (if ¬ M 104 0 (4 * p5 + 3) = 0 then (0 : Int) else 1)))) := ⟨_, rfl⟩
    have ht : (t = 1 ∧ zfig T p4 p5 = c) ∨ (t = 0 ∧ ¬ zfig T p4 p5 = c) := by
      by_cases z : zfig T p4 p5 = c
      · obtain ⟨x1, x2, x3, x4⟩ := hi.1 z
        refine Or.inl ⟨?_, z⟩
        rw [et, if_neg (fun y => y x1), if_neg (fun y => y x2), if_neg (by omega), if_neg (fun y => y x4)]
      · refine Or.inr ⟨?_, z⟩
        rw [et]
        by_cases y1 : M 107 0 (6 * c) = p4
        · by_cases y2 : M 107 0 (6 * c + 1) = p5
          · by_cases y3 : M 107 0 (6 * c + 5) < 0
            · rw [if_neg (fun y => y y1), if_neg (fun y => y y2), if_pos y3]
            · by_cases y4 : M 104 0 (4 * p5 + 3) = 0
              · exact absurd (hi.2 ⟨y1, y2, by omega, y4⟩) z
              · rw [if_neg (fun y => y y1), if_neg (fun y => y y2), if_neg y3, if_pos y4]
          · rw [if_neg (fun y => y y1), if_pos y2]
        · rw [if_pos y1]
    refine ⟨fun z => absurd z (by rw [m2]; omega), fun _ => ⟨⟨by omega, by omega⟩, ⟨by omega, by omega⟩, fun _ => ⟨⟨by omega, by omega⟩, ⟨by omega, by omega⟩, ⟨by omega, by omega⟩, fun _ => ⟨⟨by omega, by omega⟩, ⟨by omega, by omega⟩, ⟨by omega, by omega⟩, fun _ => ⟨⟨by omega, by omega⟩, ⟨by omega, by omega⟩, ⟨by omega, by omega⟩, trivial⟩, trivial⟩, trivial⟩, ?_⟩⟩
    rw [← et]
    rcases ht with ⟨e1, e2⟩ | ⟨e1, e2⟩
    · have hf := L.f c a b ((zfig_cell hG r0 r1 k0 k1 a b).1 e2).1.1
      have hv : v = (if p6 = 0 then T 74 0 c else -T 74 0 c) := by rw [ev, e2]
      have hvb : -1000000 ≤ v ∧ v ≤ 1000000 := by rw [hv]; split <;> omega
      rw [e1, hf, ← hv, if_neg (by decide)]
      refine ⟨fun _ => ⟨fun _ => ⟨⟨by omega, by omega⟩, trivial⟩, fun _ => ⟨⟨by omega, by omega⟩, ⟨by omega, by omega⟩, trivial⟩, ⟨by omega, by omega⟩, trivial⟩, ⟨by omega, by omega⟩, ⟨by omega, by omega⟩, ih _ ?_⟩
      rw [if_pos (by omega)]
    · rw [e1, if_pos rfl]
      refine ⟨fun z => absurd rfl z, ?_, ⟨by omega, by omega⟩, ih _ ?_⟩
      · rw [hs]
        by_cases y : 0 ≤ zfig T p4 p5 ∧ zfig T p4 p5 < c
        · rw [if_pos y]
          have hc := hG.cell (zfig T p4 p5) y.1 (by omega)
          obtain ⟨-, -, -, -, -, -, -, w, -⟩ := hc
          rw [ev]
          split <;> exact ⟨by omega, by omega⟩
        · rw [if_neg y]; exact ⟨by decide, by decide⟩
      · rw [hs]
        by_cases y : 0 ≤ zfig T p4 p5 ∧ zfig T p4 p5 < c
        · rw [if_pos y, if_pos (by omega)]
        · rw [if_neg y, if_neg (by omega)]
end DF
