/-! the law's widths -/
def zWf (M M' : Mem) : Prop := ∀ (s : Nat) (j k : Int), ¬ (s = 113 ∧ j = 0 ∧ 0 ≤ k ∧ k < 20) → M' s j k = M s j k
theorem zWf.rf (M : Mem) : zWf M M := fun _ _ _ _ => rfl
theorem zWf.tr {M M1 M2 : Mem} (h : zWf M M1) (h' : zWf M1 M2) : zWf M M2 := fun s j k z => (h' s j k z).trans (h s j k z)
theorem zWf.up {M M1 : Mem} (h : zWf M M1) {k v : Int} (k0 : 0 ≤ k) (k1 : k < 20) : zWf M (up M1 113 0 k v) := fun s j q z => by
  rw [up_at, if_neg (by omega)]
  exact h s j q z
theorem zWf.ls {M M' : Mem} (h : zWf M M') : zLs M M' := ⟨fun s hs => funext fun j => funext fun k => h s j k (by omega), h 11 0 30 (by omega)⟩
theorem zGf.wf {b : Int} {M M' : Mem} (h : zGf b M M') (b0 : 0 ≤ b) (b1 : b ≤ 16) : zWf M M' := fun s j k z => h s j k (by omega)
/-- the row of widths -/
def zXr (T M : Mem) (a b c : Int → Int) : Prop := ∀ k, 0 ≤ k → k < T 11 0 4 → M 113 0 k = a k ∧ M 113 0 (4 + k) = b k ∧ M 113 0 (8 + k) = c k ∧ M 113 0 (12 + k) = zLf T k ∧ M 113 0 (16 + k) = zRg T k
theorem zXr.c {T M : Mem} {a b c : Int → Int} (h : zXr T M a b c) (hn : T 11 0 4 ≤ 4) {k v : Int} (k0 : 0 ≤ k) (k1 : k < T 11 0 4) : zXr T (up M 113 0 (8 + k) v) a b (zset c k v) := fun i i0 i1 => by
  obtain ⟨h1, h2, h3, h4, h5⟩ := h i i0 i1
  refine ⟨(up_k _ _ _ _ _ _ (by omega)).trans h1, (up_k _ _ _ _ _ _ (by omega)).trans h2, ?_, (up_k _ _ _ _ _ _ (by omega)).trans h4, (up_k _ _ _ _ _ _ (by omega)).trans h5⟩
  unfold zset
  rw [up_at]
  by_cases e : i = k
  · rw [if_pos ⟨rfl, rfl, by omega⟩, if_pos e]
  · rw [if_neg (by omega), if_neg e]; exact h3
theorem zXr.a {T M : Mem} {a b c : Int → Int} (h : zXr T M a b c) (hn : T 11 0 4 ≤ 4) {k v : Int} (k0 : 0 ≤ k) (k1 : k < T 11 0 4) : zXr T (up M 113 0 k v) (zset a k v) b c := fun i i0 i1 => by
  obtain ⟨h1, h2, h3, h4, h5⟩ := h i i0 i1
  refine ⟨?_, (up_k _ _ _ _ _ _ (by omega)).trans h2, (up_k _ _ _ _ _ _ (by omega)).trans h3, (up_k _ _ _ _ _ _ (by omega)).trans h4, (up_k _ _ _ _ _ _ (by omega)).trans h5⟩
  unfold zset
  rw [up_at]
  by_cases e : i = k
  · rw [if_pos ⟨rfl, rfl, by omega⟩, if_pos e]
  · rw [if_neg (by omega), if_neg e]; exact h1
theorem zXr.b {T M : Mem} {a b c : Int → Int} (h : zXr T M a b c) (hn : T 11 0 4 ≤ 4) {k v : Int} (k0 : 0 ≤ k) (k1 : k < T 11 0 4) : zXr T (up M 113 0 (4 + k) v) a (zset b k v) c := fun i i0 i1 => by
  obtain ⟨h1, h2, h3, h4, h5⟩ := h i i0 i1
  refine ⟨(up_k _ _ _ _ _ _ (by omega)).trans h1, ?_, (up_k _ _ _ _ _ _ (by omega)).trans h3, (up_k _ _ _ _ _ _ (by omega)).trans h4, (up_k _ _ _ _ _ _ (by omega)).trans h5⟩
  unfold zset
  rw [up_at]
  by_cases e : i = k
  · rw [if_pos ⟨rfl, rfl, by omega⟩, if_pos e]
  · rw [if_neg (by omega), if_neg e]; exact h2
theorem zXr.fr {T M M' : Mem} {a b c : Int → Int} (h : zXr T M a b c) (f : ∀ k, 0 ≤ k → k < 20 → M' 113 0 k = M 113 0 k) (hn : T 11 0 4 ≤ 4) : zXr T M' a b c := fun i i0 i1 => by
  rw [f i (by omega) (by omega), f _ (by omega) (by omega), f _ (by omega) (by omega), f _ (by omega) (by omega), f _ (by omega) (by omega)]
  exact h i i0 i1
/-- what is left over goes to the first ones -/
def zfn (T : Mem) (all : Int) (w : Int → Int) (g n : Int) : (Int → Int) × Int := zF (fun (p : (Int → Int) × Int) k => if zopen T k = 0 then p else if all ≤ p.2 then p else if zms T k ≤ p.1 k then p else (zset p.1 k (p.1 k + 1), p.2 + 1)) (w, g) 0 n
section JH
variable {T M : Mem} {Qm : Mem → Prop}
theorem zfn_stop {all g k : Int} {w : Int → Int} (k0 : 0 ≤ k) (h : all ≤ (zfn T all w g k).2) : ∀ m : Nat, zfn T all w g (k + m) = zfn T all w g k := by
  intro m
  induction m with
  | zero => rw [show k + ((0 : Nat) : Int) = k by omega]
  | succ m ih =>
    have e : zfn T all w g (k + ((m + 1 : Nat) : Int)) = (if zopen T (k + m) = 0 then zfn T all w g (k + m) else if all ≤ (zfn T all w g (k + m)).2 then zfn T all w g (k + m) else if zms T (k + m) ≤ (zfn T all w g (k + m)).1 (k + m) then zfn T all w g (k + m) else (zset (zfn T all w g (k + m)).1 (k + m) ((zfn T all w g (k + m)).1 (k + m) + 1), (zfn T all w g (k + m)).2 + 1)) := by
      rw [show k + ((m + 1 : Nat) : Int) = k + m + 1 by omega]
      exact zF_succ _ _ (by omega)
    rw [e, ih, if_pos h]
    split <;> rfl
theorem zopen_c (hG : Good T) {k : Int} (k0 : 0 ≤ k) (k1 : k < T 11 0 4) : zopen T k = 0 ↔ ¬ (T 59 0 k = 0 ∧ T 56 0 k = 0) := by
  unfold zopen
  by_cases a : T 59 0 k = 0
  · by_cases b : T 56 0 k = 0
    · rw [if_neg (fun z => z a), if_neg (fun z => z b)]
      exact ⟨fun z => absurd z (by decide), fun z => absurd ⟨a, b⟩ z⟩
    · rw [if_neg (fun z => z a), if_pos b]
      exact ⟨fun _ z => b z.2, fun _ => rfl⟩
  · rw [if_pos a]
    exact ⟨fun _ z => a z.1, fun _ => rfl⟩
theorem zms_h {k : Int} (h : ¬ T 59 0 k = 0) : zms T k = 0 ∧ zls T k = 0 := ⟨if_neg h, if_neg h⟩
theorem j_w642 (hG : Good T) (L : zLw T M) {all g : Int} {a w : Int → Int} (hx : zXr T M a (zms T) w) (hw : ∀ k, 0 ≤ k → k < T 11 0 4 → 0 ≤ w k ∧ w k ≤ 1000) (hg : -3000 ≤ g ∧ g ≤ 3000) (hq : ∀ M', zWf M M' → zXr T M' a (zms T) (zfn T all w g (T 11 0 4)).1 → Qm M') : wp_L_widths_639 Qm all g M := by
  have hn := L.n
  unfold lwN at hn
  have hb : ∀ k, 0 ≤ k → k ≤ T 11 0 4 → (g ≤ (zfn T all w g k).2 ∧ (zfn T all w g k).2 ≤ g + k) ∧ ∀ i, 0 ≤ i → i < T 11 0 4 → 0 ≤ (zfn T all w g k).1 i ∧ (zfn T all w g k).1 i ≤ 1000 + k := fun k k0 k1 => by
    unfold zfn
    refine zF_ind (fun (k : Int) (p : (Int → Int) × Int) => (g ≤ p.2 ∧ p.2 ≤ g + k) ∧ ∀ i, 0 ≤ i → i < T 11 0 4 → 0 ≤ p.1 i ∧ p.1 i ≤ 1000 + k) k0 ⟨⟨Int.le_refl _, by show g ≤ g + 0; omega⟩, fun i i0 i1 => by have := hw i i0 i1; show 0 ≤ w i ∧ w i ≤ 1000 + 0; omega⟩ (fun q v q0 q1 hv => ?_)
    obtain ⟨v1, v2⟩ := hv
    have same : (g ≤ v.2 ∧ v.2 ≤ g + (q + 1)) ∧ ∀ i, 0 ≤ i → i < T 11 0 4 → 0 ≤ v.1 i ∧ v.1 i ≤ 1000 + (q + 1) := ⟨⟨by omega, by omega⟩, fun i i0 i1 => by have := v2 i i0 i1; omega⟩
    show (g ≤ (if zopen T q = 0 then v else if all ≤ v.2 then v else if zms T q ≤ v.1 q then v else (zset v.1 q (v.1 q + 1), v.2 + 1)).2 ∧ _) ∧ _
    by_cases z1 : zopen T q = 0
    · rw [if_pos z1]; exact same
    · rw [if_neg z1]
      by_cases z2 : all ≤ v.2
      · rw [if_pos z2]; exact same
      · rw [if_neg z2]
        by_cases z3 : zms T q ≤ v.1 q
        · rw [if_pos z3]; exact same
        · rw [if_neg z3]
          refine ⟨⟨by show g ≤ v.2 + 1; omega, by show v.2 + 1 ≤ g + (q + 1); omega⟩, fun i i0 i1 => ?_⟩
          have := v2 i i0 i1
          show 0 ≤ zset v.1 q (v.1 q + 1) i ∧ zset v.1 q (v.1 q + 1) i ≤ 1000 + (q + 1)
          unfold zset
          split
          · have := v2 q q0 (by omega)
            omega
          · omega
  refine zLoop (σ := Mem × Int) (fun n k s => wp_L_widths_642 Qm n all s.2 k s.1) (fun k s => zWf M s.1 ∧ zXr T s.1 a (zms T) (zfn T all w g k).1 ∧ s.2 = (zfn T all w g k).2) (T 11 0 4) (by omega) (s := (M, g)) ⟨zWf.rf _, by unfold zfn; rw [zF_self _ _ (Int.le_refl _)]; exact hx, by unfold zfn; rw [zF_self _ _ (Int.le_refl _)]⟩ (fun n s hs => ?_) (fun n k s k0 k1 hs ih => ?_)
  · obtain ⟨M1, y⟩ := s
    obtain ⟨h1, h2, h3⟩ := hs
    have h1 : zWf M M1 := h1
    have h2 : zXr T M1 a (zms T) (zfn T all w g (T 11 0 4)).1 := h2
    have L1 := L.fr h1.ls
    obtain ⟨m0, -⟩ := L1.m
    exact ⟨fun _ => hq M1 h1 h2, fun z => absurd z (by show ¬ T 11 0 4 < M1 112 0 0; rw [m0]; omega)⟩
  · obtain ⟨M1, y⟩ := s
    obtain ⟨h1, h2, h3⟩ := hs
    have h1 : zWf M M1 := h1
    have h2 : zXr T M1 a (zms T) (zfn T all w g k).1 := h2
    have h3 : y = (zfn T all w g k).2 := h3
    have L1 := L.fr h1.ls
    obtain ⟨m0, -⟩ := L1.m
    obtain ⟨c0, -⟩ := L1.c k k0 k1
    obtain ⟨g1, g2⟩ := hb k k0 (by omega)
    obtain ⟨x1, x2, x3, -⟩ := h2 k k0 k1
    have g2k := g2 k k0 k1
    have hms := (zls_r hG k0 k1)
    show wp_L_widths_642 Qm (n + 1) all y k M1
    refine ⟨fun z => absurd z (by rw [m0]; omega), fun _ => ⟨fun z => ?_, fun z => ?_⟩⟩
    · refine hq M1 h1 ?_
      have := zfn_stop (T := T) (all := all) (g := g) (w := w) k0 (by rw [← h3]; exact z) (T 11 0 4 - k).toNat
      rw [show k + ((T 11 0 4 - k).toNat : Int) = T 11 0 4 by omega] at this
      rw [this]
      exact h2
    · have es : zfn T all w g (k + 1) = (if zopen T k = 0 then zfn T all w g k else if all ≤ (zfn T all w g k).2 then zfn T all w g k else if zms T k ≤ (zfn T all w g k).1 k then zfn T all w g k else (zset (zfn T all w g k).1 k ((zfn T all w g k).1 k + 1), (zfn T all w g k).2 + 1)) := zF_succ _ _ k0
      rw [c0, x2, x3]
      obtain ⟨v, ev⟩ : ∃ v, v = (if (if ¬ T 56 0 k = 0 then (0 : Int) else (if zms T k ≤ (zfn T all w g k).1 k then (0 : Int) else 1)) = 0 then (0 : Int) else 1) := ⟨_, rfl⟩
      have hv : (v = 0 ∧ zfn T all w g (k + 1) = zfn T all w g k) ∨ (v = 1 ∧ zfn T all w g (k + 1) = (zset (zfn T all w g k).1 k ((zfn T all w g k).1 k + 1), (zfn T all w g k).2 + 1)) := by
        by_cases a1 : T 56 0 k = 0
        · by_cases a2 : zms T k ≤ (zfn T all w g k).1 k
          · refine Or.inl ⟨?_, ?_⟩
            · have eu : (if ¬ T 56 0 k = 0 then (0 : Int) else (if zms T k ≤ (zfn T all w g k).1 k then (0 : Int) else 1)) = 0 := by rw [if_neg (fun z => z a1), if_pos a2]
              rw [ev, eu, if_pos rfl]
            · rw [es]
              repeat' split
              all_goals first | rfl | (exfalso; omega)
          · have a3 : T 59 0 k = 0 := by
              by_cases a3 : T 59 0 k = 0
              · exact a3
              · have := (zms_h a3).1; omega
            refine Or.inr ⟨?_, ?_⟩
            · have eu : (if ¬ T 56 0 k = 0 then (0 : Int) else (if zms T k ≤ (zfn T all w g k).1 k then (0 : Int) else 1)) = 1 := by rw [if_neg (fun z => z a1), if_neg a2]
              rw [ev, eu, if_neg (by decide)]
            · rw [es, if_neg (fun z => ((zopen_c hG k0 k1).1 z) ⟨a3, a1⟩), if_neg (by omega), if_neg a2]
        · refine Or.inl ⟨?_, ?_⟩
          · have eu : (if ¬ T 56 0 k = 0 then (0 : Int) else (if zms T k ≤ (zfn T all w g k).1 k then (0 : Int) else 1)) = 0 := if_pos a1
            rw [ev, eu, if_pos rfl]
          · rw [es, if_pos ((zopen_c hG k0 k1).2 (fun z => a1 z.2))]
      rw [← ev]
      refine ⟨⟨by omega, by omega⟩, ⟨by omega, by omega⟩, fun _ => ⟨⟨by omega, by omega⟩, ⟨by omega, by omega⟩, ⟨by omega, by omega⟩, ⟨by omega, by omega⟩, trivial⟩, ⟨by omega, by omega⟩, ⟨by omega, by omega⟩, by rcases hv with e | e <;> rw [e.1] <;> exact ⟨by omega, by omega⟩, ⟨by omega, by omega⟩, fun M44 e44 => ⟨by rcases hv with e | e <;> rw [e.1] <;> exact ⟨by omega, by omega⟩, ⟨by omega, by omega⟩, ih (M44, y + v) ⟨?_, ?_, ?_⟩⟩⟩
      · show zWf M M44
        rw [e44]
        exact h1.up (by omega) (by omega)
      · show zXr T M44 a (zms T) _
        have hz := h2.c (by omega) (v := (zfn T all w g k).1 k + v) k0 k1
        rw [← e44] at hz
        rcases hv with ⟨e1, e2⟩ | ⟨e1, e2⟩
        · rw [e2]
          intro i i0 i1
          have := hz i i0 i1
          unfold zset at this
          rw [e1] at this
          by_cases e : i = k
          · rw [if_pos e, Int.add_zero] at this
            rw [e] at this ⊢
            exact this
          · rw [if_neg e] at this; exact this
        · rw [e2]
          rw [e1] at hz
          exact hz
      · show y + v = _
        rcases hv with ⟨e1, e2⟩ | ⟨e1, e2⟩
        · rw [e2, e1, h3]; omega
        · rw [e2, e1, h3]
end JH
