/-! the law's sorting -/
section DG
variable {T M : Mem} {O : zSt} {κ κ2 : Nat → Int} {p f p7 : Int}
theorem j_ahead2 {r n : Int} (h0 : 0 ≤ n) (h1 : n ≤ 10) {Qm : Int → Mem → Prop} (hq : ∀ x, ((x = -1 ∧ ∀ i, 0 ≤ i → i < n → ¬ M 106 0 i = r) ∨ (0 ≤ x ∧ x < n ∧ M 106 0 x = r)) → Qm x M) : wp_L_ahead r n M Qm := by
  refine zLoop (σ := Int) (fun q k s => wp_L_ahead_5 r n Qm q s k M) (fun k s => (s = -1 ∧ ∀ i, 0 ≤ i → i < k → ¬ M 106 0 i = r) ∨ (0 ≤ s ∧ s < k ∧ M 106 0 s = r)) n h0 (s := -1) (Or.inl ⟨rfl, fun i a b => by omega⟩) (fun q s hs => ?_) (fun q k s a b hs ih => ?_)
  · exact ⟨fun _ => hq s hs, fun z => absurd z (by omega)⟩
  · refine ⟨fun z => absurd z (by omega), fun _ => ⟨⟨by omega, by omega⟩, ⟨by omega, by omega⟩, ih _ ?_⟩⟩
    by_cases e : M 106 0 k = r
    · rw [if_neg (fun z => z e)]
      exact Or.inr ⟨a, by omega, e⟩
    · rw [if_pos e]
      rcases hs with ⟨x, y⟩ | ⟨x, y, z⟩
      · refine Or.inl ⟨x, fun i i0 i1 => ?_⟩
        by_cases w : i = k
        · rw [w]; exact e
        · exact y i i0 (by omega)
      · exact Or.inr ⟨x, by omega, z⟩
/-- the t-th body row of the sorted order -/
def zZ (T : Mem) (p f t : Int) : Int := zsrt T p f (max 1 (T 64 0 1)) t
/-- the order as far as it is laid -/
def zod (T : Mem) (p f i k : Int) : Int := if T 64 0 0 ≤ k ∧ k < T 64 0 0 + T 64 0 1 ∧ k < i then zZ T p f (k - T 64 0 0) else zRA T k
def zcl (T : Mem) (i : Int) : Int := min (max (i - T 64 0 0) 0) (T 64 0 1)
theorem zbody (hG : Good T) {k : Int} (k0 : 0 ≤ k) (k1 : k < T 11 0 8) : T 60 0 (zRA T k) = 1 ↔ T 64 0 0 ≤ k ∧ k < T 64 0 0 + T 64 0 1 := by
  obtain ⟨-, -, -, -, -, -, -, g0, g1, g2, gs, -⟩ := hG.n
  obtain ⟨⟨a0, a1⟩, a2⟩ := zRA_in hG k0 k1
  obtain ⟨b0, -, -, b1, -⟩ := hG.row _ a0 a1
  unfold zpl at a2
  rcases (by omega : T 60 0 (zRA T k) = 0 ∨ T 60 0 (zRA T k) = 1 ∨ T 60 0 (zRA T k) = 2) with e | e | e
  · rw [e] at a2 b1 ⊢
    rw [show zoff T 0 = 0 from rfl] at a2
    omega
  · rw [e] at a2 b1 ⊢
    rw [show zoff T 1 = T 64 0 0 from rfl] at a2
    omega
  · rw [e] at a2 b1 ⊢
    rw [show zoff T 2 = T 64 0 0 + T 64 0 1 from rfl] at a2
    omega
theorem zZ_in (hG : Good T) {t : Int} (t0 : 0 ≤ t) (t1 : t < T 64 0 1) : (0 ≤ zZ T p f t ∧ zZ T p f t < T 11 0 8) ∧ T 60 0 (zZ T p f t) = 1 := (zPm_srt hG p f (by omega) (Int.le_refl _)).1 t t0 t1
theorem zZ_inj (hG : Good T) {i j : Int} (i0 : 0 ≤ i) (i1 : i < T 64 0 1) (j0 : 0 ≤ j) (j1 : j < T 64 0 1) (e : zZ T p f i = zZ T p f j) : i = j := (zPm_srt hG p f (by omega) (Int.le_refl _)).2.1 i j i0 i1 j0 j1 e
theorem zZ_sur (hG : Good T) {r : Int} (r0 : 0 ≤ r) (r1 : r < T 11 0 8) (e : T 60 0 r = 1) : ∃ k, (0 ≤ k ∧ k < T 64 0 1) ∧ zZ T p f k = r := (zPm_srt hG p f (by omega) (Int.le_refl _)).2.2 r r0 r1 e
theorem zix (hG : Good T) {k : Int} (k0 : T 64 0 0 ≤ k) (k1 : k < T 64 0 0 + T 64 0 1) : T 6 (zRA T k) 6 = k - T 64 0 0 := by
  obtain ⟨-, -, -, -, -, -, -, g0, g1, g2, gs, -⟩ := hG.n
  have hb := (zbody hG (k := k) (by omega) (by omega)).2 ⟨k0, k1⟩
  have e := (zRA_in hG (a := k) (by omega) (by omega)).2
  unfold zpl at e
  rw [hb, show zoff T 1 = T 64 0 0 from rfl] at e
  omega
/-- a row not yet taken -/
def zcan (T : Mem) (p f i k : Int) : Prop := T 60 0 (zRA T k) = 1 ∧ ∀ q, 0 ≤ q → q < i → ¬ zod T p f i q = zRA T k
set_option maxHeartbeats 8000000 in
theorem j_pickrow (hG : Good T) {N : Mem} (V : zLv T N) (k0 : 0 ≤ p) (k1 : p < T 11 0 4) {K128 : Int → Int → Int → Int → Int → Mem → Prop} {Qm : Int → Mem → Prop} {y11 i : Int} (i0 : 0 ≤ i) (i1 : i < T 11 0 8) (hy : 0 ≤ y11 ∧ y11 ≤ 100) (h117 : ∀ k, 0 ≤ k → k < T 11 0 8 → N 117 0 k = zRA T k) (h106 : ∀ k, 0 ≤ k → k < T 11 0 8 → N 106 0 k = zod T p f i k) (hK : ∀ N' y, (∀ s : Nat, s ≠ 106 → N' s = N s) → (∀ k, 0 ≤ k → k < T 11 0 8 → N' 106 0 k = zod T p f (i + 1) k) → y = y11 + (if T 64 0 0 ≤ i ∧ i < T 64 0 0 + T 64 0 1 then (if ¬ T 6 (zZ T p f (i - T 64 0 0)) 6 = i - T 64 0 0 then 1 else 0) else 0) → K128 p f y 1 (i + 1) N') : ∃ n, wp_L_isSorted_148 κ2 p7 Qm K128 n p f y11 1 i (-1) 0 N := by
  have hn := V.n
  unfold lwN at hn
  obtain ⟨-, m1, -⟩ := V.m
  obtain ⟨-, -, -, -, -, -, -, g0, g1, g2, gs, -⟩ := hG.n
  obtain ⟨⟨a0, a1⟩, -⟩ := zRA_in hG i0 i1
  have o_i : N 106 0 i = zRA T i := by
    rw [h106 i i0 i1]
    unfold zod
    rw [if_neg (by omega)]
  have r_of : ∀ k, 0 ≤ k → k < T 11 0 8 → N 105 0 (3 * zRA T k) = T 60 0 (zRA T k) := fun k x y => by
    obtain ⟨⟨b0, b1⟩, -⟩ := zRA_in hG x y
    exact (V.r _ b0 b1).1
  by_cases hb : T 64 0 0 ≤ i ∧ i < T 64 0 0 + T 64 0 1
  rotate_left
  · -- no body row stands there
    have hnb : ¬ T 60 0 (zRA T i) = 1 := fun z => hb ((zbody hG i0 i1).1 z)
    have h269 : wp_L_isSorted_269 κ2 p7 Qm K128 p f y11 1 i (-1) N := by
      refine ⟨fun _ => ⟨⟨by omega, by omega⟩, hK N y11 (fun _ _ => rfl) (fun k x y => ?_) (by rw [if_neg hb]; omega)⟩, fun z => absurd z (by decide)⟩
      rw [h106 k x y]
      unfold zod
      by_cases e : T 64 0 0 ≤ k ∧ k < T 64 0 0 + T 64 0 1 ∧ k < i
      · rw [if_pos e, if_pos (by omega)]
      · rw [if_neg e, if_neg (by omega)]
    refine ⟨1, fun _ => h269, fun _ => ⟨⟨by omega, by omega⟩, ?_⟩⟩
    rw [o_i, r_of i i0 i1]
    exact ⟨⟨by omega, by omega⟩, ⟨by omega, by omega⟩, fun _ => h269, fun z => absurd z hnb⟩
  · obtain ⟨t, et⟩ : ∃ t, t = i - T 64 0 0 := ⟨_, rfl⟩
    have ht : 0 ≤ t ∧ t < T 64 0 1 := by omega
    have hbi := (zbody hG i0 i1).2 hb
    obtain ⟨⟨z0, z1⟩, z60⟩ := zZ_in (p := p) (f := f) hG ht.1 ht.2
    -- what stands ahead
    have hod : ∀ q, 0 ≤ q → q < i → (T 64 0 0 ≤ q → zod T p f i q = zZ T p f (q - T 64 0 0)) ∧ (q < T 64 0 0 → zod T p f i q = zRA T q) := fun q x y => by
      unfold zod
      exact ⟨fun v => if_pos ⟨v, by omega, y⟩, fun v => if_neg (by omega)⟩
    have zc : zcan T p f i (zpl T (zZ T p f t)) := by
      have e := (zpl_in hG z0 z1).2
      refine ⟨by rw [e]; exact z60, fun q x y => ?_⟩
      rw [e]
      by_cases l : T 64 0 0 ≤ q
      · rw [(hod q x y).1 l]
        intro v
        have := zZ_inj hG (by omega) (by omega) ht.1 ht.2 v
        omega
      · rw [(hod q x y).2 (by omega)]
        intro v
        have := (zbody hG x (by omega)).1 (by rw [v]; exact z60)
        omega
    have zcle : ∀ k, 0 ≤ k → k < T 11 0 8 → zcan T p f i k → zRA T k = zZ T p f t ∨ zlt T p f (zZ T p f t) (zRA T k) := fun k x y hc => by
      obtain ⟨⟨b0, b1⟩, -⟩ := zRA_in hG x y
      obtain ⟨v, v0, ev⟩ := zZ_sur (p := p) (f := f) hG b0 b1 hc.1
      rw [← ev]
      by_cases e : v = t
      · exact Or.inl (by rw [e])
      · by_cases l : v < t
        · exact absurd (((hod (T 64 0 0 + v) (by omega) (by omega)).1 (by omega)).trans (by rw [show T 64 0 0 + v - T 64 0 0 = v by omega]; exact ev)) (hc.2 (T 64 0 0 + v) (by omega) (by omega))
        · exact Or.inr (zsrt_s hG k0 k1 t v ht.1 (by omega) v0.2)
    refine zLoop (σ := Int) (fun q k s => wp_L_isSorted_148 κ2 p7 Qm K128 q p f y11 1 i s k N) (fun k s => (s = -1 ∧ ∀ j, 0 ≤ j → j < k → ¬ zcan T p f i j) ∨ ((0 ≤ s ∧ s < k) ∧ zcan T p f i s ∧ ∀ j, 0 ≤ j → j < k → zcan T p f i j → zky T p f (zRA T s) ≤ zky T p f (zRA T j) ∧ (j < s → zky T p f (zRA T s) < zky T p f (zRA T j)))) (T 11 0 8) (by omega) (s := -1) (Or.inl ⟨rfl, fun j x y => by omega⟩) (fun q s hs => ?_) (fun q k s x y hs ih => ?_)
    · -- the least one
      obtain ⟨pz0, pz1⟩ := zpl_in hG z0 z1
      have hs' := hs.resolve_left (fun e => e.2 _ pz0.1 pz0.2 zc)
      obtain ⟨⟨s0, s1⟩, sc, smin⟩ := hs'
      have es : zRA T s = zZ T p f t := by
        rcases zcle s s0 s1 sc with e | e
        · exact e
        · exfalso
          have := smin _ pz0.1 pz0.2 zc
          rw [pz1] at this
          have bs := (zbody hG s0 s1).1 sc.1
          have ix := zix hG bs.1 bs.2
          have bz := (zbody hG pz0.1 pz0.2).1 zc.1
          have iz := zix hG bz.1 bz.2
          rw [pz1] at iz
          unfold zlt at e
          by_cases l : zpl T (zZ T p f t) < s
          · have := this.2 l
            omega
          · omega
      refine ⟨fun _ => ⟨fun z => absurd z (by omega), fun _ => ⟨⟨by omega, by omega⟩, ⟨by omega, by omega⟩, ?_⟩⟩, fun z => absurd z (by rw [m1]; omega)⟩
      rw [h117 s s0 s1, h117 i i0 i1, es]
      have ev : (if ¬ zZ T p f t = zRA T i then (1 : Int) else 0) = (if ¬ T 6 (zZ T p f t) 6 = t then 1 else 0) := by
        have ei := zix hG hb.1 hb.2
        by_cases e : zZ T p f t = zRA T i
        · rw [if_neg (fun z => z e), if_neg (fun z => z (by rw [e, ei, et]))]
        · rw [if_pos e, if_pos]
          intro v
          apply e
          have w1 := (hG.row _ z0 z1).2.2.2.2
          have w2 := (hG.row _ a0 a1).2.2.2.2
          rw [z60, v] at w1
          rw [hbi, ei, ← et] at w2
          rw [← w1, ← w2]
      have evb : 0 ≤ (if ¬ T 6 (zZ T p f t) 6 = t then (1 : Int) else 0) ∧ (if ¬ T 6 (zZ T p f t) 6 = t then (1 : Int) else 0) ≤ 1 := by split <;> omega
      rw [ev]
      refine ⟨⟨by omega, by omega⟩, ⟨by omega, by omega⟩, ⟨by omega, by omega⟩, fun N2 e2 => ⟨⟨by omega, by omega⟩, hK N2 _ (fun s hs => by rw [e2]; exact up_ne hs) (fun k x y => ?_) (by rw [if_pos hb, ← et])⟩⟩
      rw [e2, up_at]
      by_cases e : k = i
      · rw [if_pos ⟨rfl, rfl, e⟩, e]
        unfold zod
        rw [if_pos ⟨hb.1, hb.2, by omega⟩, et]
      · rw [if_neg (by omega), h106 k x y]
        unfold zod
        by_cases u : T 64 0 0 ≤ k ∧ k < T 64 0 0 + T 64 0 1 ∧ k < i
        · rw [if_pos u, if_pos (by omega)]
        · rw [if_neg u, if_neg (by omega)]
    · refine ⟨fun z => absurd z (by rw [m1]; omega), fun _ => ⟨⟨by omega, by omega⟩, ?_⟩⟩
      obtain ⟨⟨b0, b1⟩, -⟩ := zRA_in hG x y
      rw [o_i, r_of i i0 i1]
      refine ⟨⟨by omega, by omega⟩, ⟨by omega, by omega⟩, fun z => absurd hbi z, fun _ => ⟨⟨by omega, by omega⟩, ?_⟩⟩
      rw [h117 k x y, r_of k x y]
      have skip : ¬ zcan T p f i k → wp_L_isSorted_148 κ2 p7 Qm K128 q p f y11 1 i s (k + 1) N := fun hc => by
        refine ih s ?_
        rcases hs with ⟨e, v⟩ | ⟨e, v, w⟩
        · refine Or.inl ⟨e, fun j j0 j1 => ?_⟩
          by_cases ej : j = k
          · rw [ej]; exact hc
          · exact v j j0 (by omega)
        · refine Or.inr ⟨⟨by omega, by omega⟩, v, fun j j0 j1 hj => ?_⟩
          by_cases ej : j = k
          · rw [ej] at hj; exact absurd hj hc
          · exact w j j0 (by omega) hj
      refine ⟨⟨by omega, by omega⟩, ⟨by omega, by omega⟩, fun z => ⟨⟨by omega, by omega⟩, skip (fun hc => z hc.1)⟩, fun z60k => ⟨⟨by omega, by omega⟩, j_ahead2 i0 (by omega) (fun v hv => ?_)⟩⟩
      rcases hv with ⟨ev, hall⟩ | ⟨v0, v1, ev⟩
      · have hc : zcan T p f i k := ⟨z60k, fun q x' y' => by rw [← h106 q x' (by omega)]; exact hall q x' y'⟩
        rw [ev, if_neg (by decide)]
        refine ⟨fun z => absurd z (by decide), fun _ => ⟨fun z => ⟨⟨by omega, by omega⟩, ih k ?_⟩, fun z => ?_⟩⟩
        · have hs' := hs.resolve_right (fun e => by omega)
          refine Or.inr ⟨⟨by omega, by omega⟩, hc, fun j j0 j1 hj => ?_⟩
          by_cases ej : j = k
          · rw [ej]; omega
          · exact absurd hj (hs'.2 j j0 (by omega))
        · obtain ⟨⟨s0, s1⟩, sc, smin⟩ := hs.resolve_left (fun e => by omega)
          obtain ⟨⟨c0, c1⟩, -⟩ := zRA_in hG (a := s) s0 (by omega)
          rw [h117 k x y]
          refine ⟨⟨by omega, by omega⟩, j_key hG V b0 b1 k0 k1 ?_⟩
          rw [h117 s s0 (by omega)]
          refine ⟨⟨by omega, by omega⟩, j_key hG V c0 c1 k0 k1 ⟨⟨by omega, by omega⟩, ?_⟩⟩
          by_cases l : zky T p f (zRA T s) ≤ zky T p f (zRA T k)
          · rw [if_pos l]
            refine ih s (Or.inr ⟨⟨by omega, by omega⟩, sc, fun j j0 j1 hj => ?_⟩)
            by_cases ej : j = k
            · rw [ej]; omega
            · exact smin j j0 (by omega) hj
          · rw [if_neg l]
            refine ih k (Or.inr ⟨⟨by omega, by omega⟩, hc, fun j j0 j1 hj => ?_⟩)
            by_cases ej : j = k
            · rw [ej]; omega
            · have := smin j j0 (by omega) hj
              omega
      · have hc : ¬ zcan T p f i k := fun hc => hc.2 v v0 v1 (by rw [← h106 v v0 (by omega)]; exact ev)
        rw [if_pos v0]
        exact ⟨fun _ => ⟨⟨by omega, by omega⟩, skip hc⟩, fun z => absurd rfl z⟩
end DG
