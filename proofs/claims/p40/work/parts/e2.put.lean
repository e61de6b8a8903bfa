/-! pages: a piece is put -/
section EB
variable {T M M0 : Mem} {Qm : Mem → Prop} {K195 : Int → Int → Int → Int → Int → Int → Int → Int → Mem → Prop} {K563 : Int → Int → Int → Int → Int → Int → Int → Int → Int → Int → Int → Int → Int → Int → Mem → Prop} {y9 y10 y12 y14 y16 y17 y18 y19 y21 y22 y23 y24 y25 y26 : Int}
/-- what the law knows of the thing it goes through: its number, its row, whether it is a body row itself -/
def zIc (T : Mem) (J i row body : Int) : Prop := (-1 ≤ row ∧ row < T 11 0 8) ∧ ((¬ body = 0 ∧ Int.tmod i 2 = 0 ∧ zcd T J = row ∧ 0 ≤ row) ∨ ((body = 0 ∨ ¬ Int.tmod i 2 = 0) ∧ 100 ≤ zcd T J)) ∧ (i = 2 * T 11 0 8 + 1 ↔ zcd T J = 201)
set_option maxHeartbeats 4000000 in
theorem j_put (hG : Good T) (hn : lwN T) (hR : 0 < T 11 0 8) {S : zSt} (n0 : 0 ≤ S 0 0) (pg : 1 ≤ S 0 1 ∧ S 0 1 ≤ 1000) (W : zWk T M0 M S) (m1 : M0 112 0 1 = T 11 0 8) (I : zIc T (S 0 4) y17 y18 y19) (hi : 0 ≤ y17 ∧ y17 ≤ 100) (l0 : 1 ≤ y26 ∧ y26 ≤ 300) (e22 : y22 = zwn T S) (w0 : 0 ≤ y22 ∧ y22 ≤ 300) (h14 : -10000 ≤ y14 ∧ y14 ≤ 10000) (h21 : 0 ≤ y21 ∧ y21 ≤ 300) (h9 : 0 ≤ y9 ∧ y9 ≤ 1) (hb : ∀ q, 0 ≤ q → q < S 0 1 → (0 ≤ S 5 q ∧ S 5 q ≤ 1000000) ∧ 0 ≤ S 6 q ∧ S 6 q ≤ 1000000) (hl : ∀ r q, 0 ≤ r → r < T 11 0 8 → 0 ≤ q → q < 6 → 0 ≤ zlat S r q ∧ zlat S r q ≤ 1000000) (h26 : ¬ T 11 0 26 = 0 → zwn T S = 0) (h26' : T 11 0 26 = 0 → zcd T (S 0 4) ≠ 201) (hnew : S 0 5 = 0 → ∀ k, 0 ≤ k → k < S 0 0 → ¬ S 1 k = zcd T (S 0 4)) (hold : ¬ S 0 5 = 0 → ∃ k, (0 ≤ k ∧ k < S 0 0) ∧ S 1 k = zcd T (S 0 4)) (hbeg : S 0 5 = 0 → ¬ y19 = 0 → Int.tmod y17 2 = 0 → M 116 0 y18 = -1) (hK : ∀ M', zWk T M0 M' (zput4 T S y26) → wp_L_walk_797 Qm K195 K563 y9 y10 y12 (S 0 1 - 1) (y14 - (y26 + y22)) 0 y16 y17 y18 y19 (y21 - y26) 0 y23 y24 y25 M') : wp_L_walk_637 Qm K195 K563 y9 y10 y12 (S 0 1 - 1) y14 y16 y17 y18 y19 y21 y22 y23 y24 y25 y26 M := by
  unfold lwN at hn
  obtain ⟨W1, W2, W3, W4⟩ := W
  obtain ⟨I1, I2, I3⟩ := I
  -- the rows p and g
  have e5 : zput4 T S y26 5 = zset (S 5) (S 0 1 - 1) (S 5 (S 0 1 - 1) + y26) := rfl
  have e6 : zput4 T S y26 6 = zset (S 6) (S 0 1 - 1) (S 6 (S 0 1 - 1) + znl T S y26) := rfl
  have e7 : zput4 T S y26 7 = zS7 T S := rfl
  have e1 : zput4 T S y26 1 = zset (S 1) (S 0 0) (zcd T (S 0 4)) := rfl
  have e00 : zput4 T S y26 0 0 = S 0 0 + 1 := rfl
  have e01 : zput4 T S y26 0 1 = S 0 1 := rfl
  have hlat := fun r q => zlat_put (S := S) (S' := zput4 T S y26) (c := zcd T (S 0 4)) (pg := S 0 1 - 1) (l := y26) n0 rfl rfl rfl rfl r q
  -- begins, and what follows
  have g733 : ∀ N : Mem, (∀ (s : Nat) (j k : Int), s ≠ 114 → s ≠ 115 → s ≠ 116 → N s j k = M0 s j k) → N 116 = M 116 → (∀ q, 0 ≤ q → q < 6 → (q < S 0 1 → N 114 0 (1 + q) = zU T (zput4 T S y26) q ∧ N 114 0 (7 + q) = zput4 T S y26 6 q) ∧ (S 0 1 ≤ q → N 114 0 (1 + q) = 0 ∧ N 114 0 (7 + q) = 0)) → (∀ r q, 0 ≤ r → r < T 11 0 8 → 0 ≤ q → q < 6 → N 115 0 (6 * r + q) = zlat (zput4 T S y26) r q) → wp_L_walk_733 Qm K195 K563 y9 y10 y12 (S 0 1 - 1) y14 y16 y17 y18 y19 y21 y22 y23 y24 y25 y26 N := fun N N1 N116 N2 N3 => by
    have g760 : ∀ N' : Mem, (∀ s : Nat, s ≠ 116 → N' s = N s) → (∀ k, 0 ≤ k → k < S 0 0 + 1 → 0 ≤ zput4 T S y26 1 k → zput4 T S y26 1 k < T 11 0 8 → N' 116 0 (zput4 T S y26 1 k) = zput4 T S y26 7 (zput4 T S y26 1 k) ∧ 0 ≤ zput4 T S y26 7 (zput4 T S y26 1 k)) → wp_L_walk_760 Qm K195 K563 y9 y10 y12 (S 0 1 - 1) y14 y16 y17 y18 y19 y21 y22 y23 y24 y25 y26 N' := fun N' f b => by
      refine ⟨⟨by omega, by omega⟩, ⟨by omega, by omega⟩, ⟨by omega, by omega⟩, hK N' ⟨fun s j k a1 a2 a3 => by rw [f s a3]; exact N1 s j k a1 a2 a3, ?_, ?_, b⟩⟩
      · rw [f 114 (by decide)]; exact N2
      · rw [f 115 (by decide)]; exact N3
    have others : ∀ k, 0 ≤ k → k < S 0 0 → zput4 T S y26 1 k = S 1 k := fun k a b => by rw [e1, zset_ne _ _ (by omega)]
    have this : zput4 T S y26 1 (S 0 0) = zcd T (S 0 4) := by rw [e1, zset_eq]
    -- if nothing is written
    have keep : (∀ k, 0 ≤ k → k < S 0 0 → 0 ≤ S 1 k → S 1 k < T 11 0 8 → zS7 T S (S 1 k) = S 7 (S 1 k)) → (0 ≤ zcd T (S 0 4) → zcd T (S 0 4) < T 11 0 8 → N 116 0 (zcd T (S 0 4)) = zS7 T S (zcd T (S 0 4)) ∧ 0 ≤ zS7 T S (zcd T (S 0 4))) → wp_L_walk_760 Qm K195 K563 y9 y10 y12 (S 0 1 - 1) y14 y16 y17 y18 y19 y21 y22 y23 y24 y25 y26 N := fun h1 h2 => by
      refine g760 N (fun _ _ => rfl) (fun k k0 k1 c0 c1 => ?_)
      rw [e7]
      by_cases e : k = S 0 0
      · rw [e, this] at c0 c1 ⊢
        exact h2 c0 c1
      · rw [others k k0 (by omega)] at c0 c1 ⊢
        rw [h1 k k0 (by omega) c0 c1, N116]
        exact W4 k k0 (by omega) c0 c1
    have s7o : ∀ k, 0 ≤ k → k < S 0 0 → zS7 T S (S 1 k) = S 7 (S 1 k) := fun k k0 k1 => by
      unfold zS7
      by_cases z : S 0 5 = 0
      · rw [if_pos z, zset_ne _ _ (hnew z k k0 k1)]
      · rw [if_neg z]
    have s7b : ¬ S 0 5 = 0 → zS7 T S = S 7 := fun z => if_neg z
    have s7n : S 0 5 = 0 → zS7 T S (zcd T (S 0 4)) = S 0 1 - 1 := fun z => by unfold zS7; rw [if_pos z, zset_eq]
    rcases I2 with ⟨b1, b2, b3, b4⟩ | ⟨b1, b2⟩
    · refine ⟨fun z => absurd z b1, fun _ => ⟨fun z => absurd b2 z, fun _ => ⟨⟨by omega, by omega⟩, fun hge => ?_, fun hlt => ⟨⟨by omega, by omega⟩, fun N2' e2 => ?_⟩⟩⟩⟩
      · have z5 : ¬ S 0 5 = 0 := fun z => by
          have := hbeg z b1 b2
          rw [N116, this] at hge
          omega
        obtain ⟨k, ⟨k0, k1⟩, ek⟩ := hold z5
        have hw := W4 k k0 k1 (by rw [ek, b3]; exact b4) (by rw [ek, b3]; exact I1.2)
        rw [ek] at hw
        exact keep (fun k k0 k1 _ _ => s7o k k0 k1) (fun _ _ => by rw [N116, s7b z5]; exact hw)
      · have z5 : S 0 5 = 0 := by
          by_cases z : S 0 5 = 0
          · exact z
          · obtain ⟨k, ⟨k0, k1⟩, ek⟩ := hold z
            have hw := W4 k k0 k1 (by rw [ek, b3]; exact b4) (by rw [ek, b3]; exact I1.2)
            rw [ek, b3] at hw
            rw [N116, hw.1] at hlt
            omega
        refine g760 N2' (fun s hs => by rw [e2]; exact up_ne hs) (fun k k0 k1 c0 c1 => ?_)
        rw [e7]
        by_cases e : k = S 0 0
        · rw [e, this, s7n z5, b3, e2, up_eq]
          exact ⟨rfl, by omega⟩
        · rw [others k k0 (by omega)] at c0 c1 ⊢
          have hne := hnew z5 k k0 (by omega)
          rw [b3] at hne
          rw [s7o k k0 (by omega), e2, up_k _ _ _ _ _ _ hne, N116]
          exact W4 k k0 (by omega) c0 c1
    · have hk := keep (fun k k0 k1 _ _ => s7o k k0 k1) (fun _ c1 => by omega)
      exact ⟨fun _ => hk, fun z => ⟨fun _ => hk, fun y => absurd y (b1.resolve_left z)⟩⟩
  refine ⟨fun h6 => g733 M W1 rfl (fun q q0 q1 => ?_) (fun r q r0 r1 q0 q1 => ?_), fun h6 => ?_⟩
  · obtain ⟨a, b⟩ := W2 q q0 q1
    refine ⟨fun hq => ?_, b⟩
    unfold zU
    rw [e5, e6, zset_ne _ _ (by omega), zset_ne _ _ (by omega)]
    exact a hq
  · rw [hlat, if_neg (by omega), Int.add_zero]
    exact W3 r q r0 r1 q0 q1
  · obtain ⟨rr, err⟩ : ∃ rr, rr = (if 0 ≤ y18 then y18 else 0) := ⟨_, rfl⟩
    have hrr : 0 ≤ rr ∧ rr < 10 := by rw [err]; split <;> omega
    obtain ⟨gv, egv⟩ : ∃ gv, gv = (if y19 = 0 then (0 : Int) else (if ¬ (Int.tmod y17 2) = 0 then (0 : Int) else y26)) := ⟨_, rfl⟩
    have hgv : (gv = y26 ∧ rr = zcd T (S 0 4)) ∨ (gv = 0 ∧ 100 ≤ zcd T (S 0 4)) := by
      rcases I2 with ⟨b1, b2, b3, b4⟩ | ⟨b1, b2⟩
      · refine Or.inl ⟨?_, by rw [err, if_pos b4, b3]⟩
        rw [egv, if_neg b1, if_neg (fun z => z b2)]
      · refine Or.inr ⟨?_, b2⟩
        rw [egv]
        by_cases z : y19 = 0
        · rw [if_pos z]
        · rw [if_neg z, if_pos (b1.resolve_left z)]
    rw [← err, ← egv]
    have hq6 : 0 ≤ S 0 1 - 1 ∧ S 0 1 - 1 < 6 := by omega
    have hrn : rr < T 11 0 8 := by
      rw [err]
      split <;> omega
    have w3 := W3 rr (S 0 1 - 1) hrr.1 hrn hq6.1 hq6.2
    have hl' := hl rr (S 0 1 - 1) hrr.1 hrn hq6.1 hq6.2
    have w2 := (W2 (S 0 1 - 1) hq6.1 hq6.2).1 (by omega)
    have hb' := hb (S 0 1 - 1) hq6.1 (by omega)
    have hu : 0 ≤ zU T S (S 0 1 - 1) ∧ zU T S (S 0 1 - 1) ≤ 2000000 := by
      unfold zU
      split <;> omega
    have hgb : 0 ≤ gv ∧ gv ≤ 300 := by omega
    rw [w3]
    refine ⟨⟨by omega, by omega⟩, ⟨by omega, by omega⟩, ⟨by omega, by omega⟩, ⟨by omega, by omega⟩, ⟨by omega, by omega⟩, fun N1 a1 => ?_⟩
    have p1 : N1 114 0 (1 + (S 0 1 - 1)) = zU T S (S 0 1 - 1) := by rw [a1, up_s _ _ _ _ (by decide)]; exact w2.1
    rw [p1]
    refine ⟨⟨by omega, by omega⟩, ⟨by omega, by omega⟩, ⟨by omega, by omega⟩, ⟨by omega, by omega⟩, ⟨by omega, by omega⟩, fun N2 a2 => ?_⟩
    have p2 : N2 114 0 (7 + (S 0 1 - 1)) = S 6 (S 0 1 - 1) := by rw [a2]; exact (up_k _ _ _ _ _ _ (by omega)).trans ((by rw [a1]; exact up_s _ _ _ _ (by decide) _ _ : N1 114 0 (7 + (S 0 1 - 1)) = M 114 0 (7 + (S 0 1 - 1))).trans w2.2)
    have p112 : N2 112 0 1 = T 11 0 8 := by rw [a2, up_s _ _ _ _ (by decide), a1, up_s _ _ _ _ (by decide), W1 112 0 1 (by decide) (by decide) (by decide), m1]
    rw [p2, p112]
    obtain ⟨nv, env⟩ : ∃ nv, nv = y22 + (if ¬ y17 = 2 * T 11 0 8 + 1 then (0 : Int) else y26) := ⟨_, rfl⟩
    have hnv : nv = znl T S y26 := by
      rw [env, e22]
      unfold znl
      by_cases z : y17 = 2 * T 11 0 8 + 1
      · rw [if_neg (fun y => y z), if_neg (fun y => y (I3.1 z))]
      · rw [if_pos z, if_pos (fun y => z (I3.2 y))]
    have hnb : 0 ≤ nv ∧ nv ≤ 600 := by
      rw [env]
      split <;> omega
    rw [← env]
    refine ⟨⟨by omega, by omega⟩, ⟨by omega, by omega⟩, ⟨by omega, by omega⟩, ⟨by omega, by omega⟩, ⟨by omega, by omega⟩, ⟨by omega, by omega⟩, ⟨by omega, by omega⟩, fun N3 a3 => g733 N3 (fun s j k x1 x2 x3 => ?_) ?_ (fun q q0 q1 => ?_) (fun r q r0 r1 q0 q1 => ?_)⟩
    · rw [a3, up_s _ _ _ _ x1, a2, up_s _ _ _ _ x1, a1, up_s _ _ _ _ x2]
      exact W1 s j k x1 x2 x3
    · rw [a3, up_ne (by decide), a2, up_ne (by decide), a1, up_ne (by decide)]
    · obtain ⟨wa, wb⟩ := W2 q q0 q1
      have n114 : ∀ x, x ≠ 1 + (S 0 1 - 1) → x ≠ 7 + (S 0 1 - 1) → N3 114 0 x = M 114 0 x := fun x x1 x2 => by
        rw [a3, up_k _ _ _ _ _ _ x2, a2, up_k _ _ _ _ _ _ x1, a1]
        exact up_s _ _ _ _ (by decide) _ _
      refine ⟨fun hq => ?_, fun hq => ?_⟩
      · by_cases e : q = S 0 1 - 1
        · have n1 : N3 114 0 (1 + q) = zU T S (S 0 1 - 1) + (y26 + y22) := by
            rw [e, a3, up_k _ _ _ _ _ _ (by omega), a2, up_eq]
          have n2 : N3 114 0 (7 + q) = S 6 (S 0 1 - 1) + nv := by rw [e, a3, up_eq]
          rw [n1, n2, e6, e, zset_eq, hnv]
          refine ⟨?_, rfl⟩
          unfold zU
          rw [e5, e6, zset_eq, zset_eq]
          by_cases z : T 11 0 26 = 0
          · rw [if_pos z, if_pos z]
            have : znl T S y26 = y22 := by
              unfold znl
              rw [if_pos (h26' z), e22]
              omega
            omega
          · rw [if_neg z, if_neg z]
            have := h26 z
            omega
        · rw [n114 _ (by omega) (by omega), n114 _ (by omega) (by omega), e6, zset_ne _ _ e]
          unfold zU
          rw [e5, e6, zset_ne _ _ e, zset_ne _ _ e]
          exact wa hq
      · rw [n114 _ (by omega) (by omega), n114 _ (by omega) (by omega)]
        exact wb hq
    · rw [hlat, a3, up_s _ _ _ _ (by decide), a2, up_s _ _ _ _ (by decide), a1, up_at]
      have w := W3 r q r0 r1 q0 q1
      by_cases e : 6 * r + q = 6 * rr + (S 0 1 - 1)
      · have er : r = rr := by omega
        have eq : q = S 0 1 - 1 := by omega
        rw [if_pos ⟨rfl, rfl, e⟩, er, eq]
        rcases hgv with ⟨g1, g2⟩ | ⟨g1, g2⟩
        · rw [if_pos ⟨g2.symm, rfl⟩, g1]
        · rw [if_neg (by omega), g1]
      · rw [if_neg (fun z => e z.2.2), w, if_neg]
        · omega
        · rintro ⟨z1, z2⟩
          rcases hgv with ⟨g1, g2⟩ | ⟨g1, g2⟩ <;> omega
end EB
