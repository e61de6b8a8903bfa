/-! the law's edge -/
section JE
variable {T M : Mem} {p6 p7 p8 y9 y11 y12 : Int} {Qm : Int → Mem → Prop}
theorem zNC_uniq {c st r r' : Int} (hst : st = 1 ∨ st = -1) (a : zNC T c st r) (b : zNC T c st r') : r = r' := by
  unfold zNC at a b
  rcases a with ⟨a1, a2⟩ | ⟨a1, a2, a3, a4⟩
  · rcases b with ⟨b1, b2⟩ | ⟨b1, b2, b3, b4⟩
    · rw [a1, b1]
    · exact absurd b2 (a2 r' b1.1 b1.2 b3)
  · rcases b with ⟨b1, b2⟩ | ⟨b1, b2, b3, b4⟩
    · exact absurd a2 (b2 r a1.1 a1.2 a3)
    · by_cases e : r = r'
      · exact e
      · rcases hst with e1 | e1
        · rw [e1] at a3 a4 b3 b4
          by_cases l : r < r'
          · exact absurd a2 (b4 r a1.1 a1.2 a3 (by omega))
          · exact absurd b2 (a4 r' b1.1 b1.2 b3 (by omega))
        · rw [e1] at a3 a4 b3 b4
          by_cases l : r < r'
          · exact absurd b2 (a4 r' b1.1 b1.2 b3 (by omega))
          · exact absurd a2 (b4 r a1.1 a1.2 a3 (by omega))
theorem zst_00 : zstr 0 0 0 0 = 0 := rfl
theorem z05_m {a b : Int} (ha : z05 a) (hb : z05 b) : z05 (max a b) := by unfold z05 at *; omega
theorem z05_0 : z05 0 := ⟨by decide, by decide⟩
theorem zwt_5 (hG : Good T) (hB : zBR T M) (kind n : Int) {side : Int} (s0 : 0 ≤ side) (s1 : side < 4) : z05 (zwt T M kind n side) := zwt_r hG hB kind n s0 s1
theorem zst_60 {a b c d : Int} (ha : z05 a) (hb : z05 b) (hc : z05 c) (hd : z05 d) : 0 ≤ zstr a b c d ∧ zstr a b c d ≤ 60 := (zstr_r ha hb hc hd).1
theorem zRA_out (hG : Good T) {a : Int} (h : a < 0 ∨ T 11 0 8 ≤ a) : zRA T a = -1 := by
  have hn := hG.n.2.2.2.2.2.2.2
  unfold zRA
  by_cases z : a < 0
  · rw [if_pos z]
  · rw [if_neg z, if_neg (by omega), if_neg (by omega), if_neg (by omega)]
theorem j_edge395 (hG : Good T) (L : zLw T M) (hB : zBR T M) {a b c : Int} (ha : z05 a) (hb : z05 b) (hc : z05 c) (hq : Qm (zstr a b c (if y12 = 0 then 0 else M 11 0 30)) M) : wp_L_edge_395 p6 p7 p8 Qm y12 (zstr a b c 0) M := by
  have h30 := hB.1.1
  refine ⟨fun z => ?_, fun z => ?_⟩
  · rw [if_pos z] at hq; exact hq
  · rw [if_neg z] at hq
    have e := zst_60 ha hb hc z05_0
    rw [L.b.2.2.2]
    refine j_stronger e.1 e.2 h30.1 h30.2 (by decide) (by decide) ?_
    rw [zst_4 ha hb hc h30]
    exact hq
theorem j_edge260 (hG : Good T) (L : zLw T M) (hB : zBR T M) (h0 : 0 ≤ p6) (h1 : p6 < T 11 0 8) (k0 : 0 ≤ p7) (k1 : p7 < T 11 0 4) (s0 : 0 ≤ p8) (s3 : p8 ≤ 3) {a y15 nr nc : Int} (ha : z05 a) (e15 : y15 = Int.tmod (p8 + 2) 4) (hy : (y9 = 0 ∧ (p8 = 1 ∨ p8 = 3)) ∨ (¬ y9 = 0 ∧ (p8 = 0 ∨ p8 = 2))) (h12 : (y12 = 0 ∧ (0 ≤ p6 + y9 ∧ p6 + y9 < T 11 0 8) ∧ (0 ≤ y11 ∧ y11 < T 11 0 4) ∧ nr = zRA T (p6 + y9) ∧ nc = y11) ∨ (y12 = 1 ∧ (y9 = 0 → nc = -1) ∧ (¬ y9 = 0 → nr = -1))) (hq : Qm (zstr a (if y9 = 0 then 0 else max (zwt T M 1 (zRA T p6) p8) (zwt T M 1 nr (Int.tmod (p8 + 2) 4))) (if y9 = 0 then max (zwt T M 2 p7 p8) (zwt T M 2 nc (Int.tmod (p8 + 2) 4)) else 0) (if y12 = 0 then 0 else M 11 0 30)) M) : wp_L_edge_260 p6 p7 p8 Qm y9 y11 y12 y15 (zstr a 0 0 0) M := by
  have hn := L.n
  unfold lwN at hn
  obtain ⟨b1, b2, b3, b4⟩ := L.b
  obtain ⟨r0, r1⟩ := (zRA_in hG h0 h1).1
  have e60 := zst_60 ha z05_0 z05_0 z05_0
  have hbk : 0 ≤ Int.tmod (p8 + 2) 4 ∧ Int.tmod (p8 + 2) 4 < 4 := by
    rcases (by omega : p8 = 0 ∨ p8 = 1 ∨ p8 = 2 ∨ p8 = 3) with rfl | rfl | rfl | rfl <;> decide
  refine ⟨fun z => ?_, fun z => ?_⟩
  · rw [if_pos z, if_pos z] at hq
    have hs : p8 = 1 ∨ p8 = 3 := by omega
    have hi : ∀ k, 0 ≤ k → k < T 11 0 4 → M 111 0 (2 * k + (if ¬ p8 = 3 then (1 : Int) else 0)) = zwt T M 2 k p8 := fun k a b => by
      rw [zwt_2 ⟨a, b⟩]
      obtain ⟨x, y⟩ := b3 k a (by omega)
      rcases hs with rfl | rfl
      · exact y
      · rw [if_neg (fun z => z rfl), Int.add_zero]; exact x
    have hj : ∀ k, 0 ≤ k → k < T 11 0 4 → M 111 0 (2 * k + (if ¬ p8 = 3 then (0 : Int) else 1)) = zwt T M 2 k (Int.tmod (p8 + 2) 4) := fun k a b => by
      rw [zwt_2 ⟨a, b⟩]
      obtain ⟨x, y⟩ := b3 k a (by omega)
      rcases hs with rfl | rfl
      · rw [if_pos (by decide), Int.add_zero]; exact x
      · rw [if_neg (fun z => z rfl)]; exact y
    have w1 := zwt_5 hG hB 2 p7 s0 (by omega : p8 < 4)
    have w2 := zwt_5 hG hB 2 nc hbk.1 hbk.2
    have hc1 : (if ¬ p8 = 3 then (1 : Int) else 0) = 0 ∨ (if ¬ p8 = 3 then (1 : Int) else 0) = 1 := by split <;> omega
    have hc2 : (if ¬ p8 = 3 then (0 : Int) else 1) = 0 ∨ (if ¬ p8 = 3 then (0 : Int) else 1) = 1 := by split <;> omega
    rw [hi p7 k0 k1]
    refine ⟨⟨by omega, by omega⟩, ⟨by omega, by omega⟩, ⟨by omega, by omega⟩, j_stronger e60.1 e60.2 w1.1 w1.2 (by decide) (by decide) ?_⟩
    rw [zst_3 ha z05_0 w1]
    have wm := z05_m z05_0 w1
    have e61 := zst_60 ha z05_0 wm z05_0
    refine ⟨fun y => ?_, fun y => ?_⟩
    · obtain ⟨-, g1, g2, g3, g4⟩ := h12.resolve_right (fun x => by omega)
      rw [hj y11 g2.1 g2.2, ← g4]
      refine ⟨⟨by omega, by omega⟩, ⟨by omega, by omega⟩, ⟨by omega, by omega⟩, j_stronger e61.1 e61.2 w2.1 w2.2 (by decide) (by decide) ?_⟩
      rw [zst_3 ha wm w2]
      refine j_edge395 hG L hB ha z05_0 (z05_m wm w2) ?_
      rw [show max (max 0 (zwt T M 2 p7 p8)) (zwt T M 2 nc (Int.tmod (p8 + 2) 4)) = max (zwt T M 2 p7 p8) (zwt T M 2 nc (Int.tmod (p8 + 2) 4)) by unfold z05 at w1 w2; omega]
      exact hq
    · obtain ⟨-, g1, g2⟩ := h12.resolve_left (fun x => y x.1)
      refine j_edge395 hG L hB ha z05_0 wm ?_
      rw [g1 z, zwt_n (T := T) (M := M) (kd := 2) (s := Int.tmod (p8 + 2) 4) (by decide : (-1 : Int) < 0)] at hq
      rw [show max 0 (zwt T M 2 p7 p8) = max (zwt T M 2 p7 p8) 0 by omega]
      exact hq
  · rw [if_neg z, if_neg z] at hq
    have hs : p8 = 0 ∨ p8 = 2 := by omega
    have hi : ∀ r, 0 ≤ r → r < T 11 0 8 → M 110 0 (40 + 2 * r + Int.tdiv p8 2) = zwt T M 1 r p8 := fun k a b => by
      rw [zwt_1 ⟨a, b⟩]
      obtain ⟨x, y⟩ := b2 k a (by omega)
      rcases hs with rfl | rfl
      · rw [show Int.tdiv 0 2 = 0 from rfl, Int.add_zero, Int.add_zero]; exact x
      · exact y
    have hj : ∀ r, 0 ≤ r → r < T 11 0 8 → M 110 0 (40 + 2 * r + Int.tdiv (Int.tmod (p8 + 2) 4) 2) = zwt T M 1 r (Int.tmod (p8 + 2) 4) := fun k a b => by
      rw [zwt_1 ⟨a, b⟩]
      obtain ⟨x, y⟩ := b2 k a (by omega)
      rcases hs with rfl | rfl
      · exact y
      · rw [show Int.tmod (2 + 2) 4 = 0 from rfl, show Int.tdiv 0 2 = 0 from rfl, Int.add_zero, Int.add_zero]; exact x
    have w1 := zwt_5 hG hB 1 (zRA T p6) s0 (by omega : p8 < 4)
    have w2 := zwt_5 hG hB 1 nr hbk.1 hbk.2
    have hd1 : 0 ≤ Int.tdiv p8 2 ∧ Int.tdiv p8 2 ≤ 1 := by rcases hs with rfl | rfl <;> decide
    have hd2 : 0 ≤ Int.tdiv y15 2 ∧ Int.tdiv y15 2 ≤ 1 := by rw [e15]; rcases hs with rfl | rfl <;> decide
    rw [L.o p6 h0 h1, hi _ r0 r1]
    refine ⟨⟨by omega, by omega⟩, ⟨by omega, by omega⟩, ⟨by omega, by omega⟩, ⟨by omega, by omega⟩, ⟨by omega, by omega⟩, j_stronger e60.1 e60.2 w1.1 w1.2 (by decide) (by decide) ?_⟩
    rw [zst_2 ha z05_0 w1]
    have wm := z05_m z05_0 w1
    have e61 := zst_60 ha wm z05_0 z05_0
    refine ⟨fun y => ?_, fun y => ?_⟩
    · obtain ⟨-, g1, g2, g3, g4⟩ := h12.resolve_right (fun x => by omega)
      obtain ⟨q0, q1⟩ := (zRA_in hG g1.1 g1.2).1
      rw [L.o _ g1.1 g1.2, ← g3]
      rw [← g3] at q0 q1
      refine ⟨⟨by omega, by omega⟩, ⟨by omega, by omega⟩, ⟨by omega, by omega⟩, ⟨by omega, by omega⟩, ⟨by omega, by omega⟩, ⟨by omega, by omega⟩, ?_⟩
      rw [e15, hj nr q0 q1]
      refine j_stronger e61.1 e61.2 w2.1 w2.2 (by decide) (by decide) ?_
      rw [zst_2 ha wm w2]
      refine j_edge395 hG L hB ha (z05_m wm w2) z05_0 ?_
      rw [show max (max 0 (zwt T M 1 (zRA T p6) p8)) (zwt T M 1 nr (Int.tmod (p8 + 2) 4)) = max (zwt T M 1 (zRA T p6) p8) (zwt T M 1 nr (Int.tmod (p8 + 2) 4)) by unfold z05 at w1 w2; omega]
      exact hq
    · obtain ⟨-, g1, g2⟩ := h12.resolve_left (fun x => y x.1)
      refine j_edge395 hG L hB ha wm z05_0 ?_
      rw [g2 z, zwt_n (T := T) (M := M) (kd := 1) (s := Int.tmod (p8 + 2) 4) (by decide : (-1 : Int) < 0)] at hq
      rw [show max 0 (zwt T M 1 (zRA T p6) p8) = max (zwt T M 1 (zRA T p6) p8) 0 by omega]
      exact hq
theorem j_edge93 (hG : Good T) (L : zLw T M) (hB : zBR T M) (h0 : 0 ≤ p6) (h1 : p6 < T 11 0 8) (k0 : 0 ≤ p7) (k1 : p7 < T 11 0 4) (s0 : 0 ≤ p8) (s3 : p8 ≤ 3) {nr nc : Int} (hy : (y9 = 0 ∧ (p8 = 1 ∨ p8 = 3)) ∨ ((y9 = 1 ∨ y9 = -1) ∧ (p8 = 0 ∨ p8 = 2))) (h11 : -100 ≤ y11 ∧ y11 ≤ 100) (hn : nr = zRA T (p6 + y9)) (hc : nc = if 0 ≤ y11 ∧ y11 < T 11 0 4 then y11 else -1) (he : ¬ y9 = 0 → y11 = p7) (hq : Qm (zedge T M (zRA T p6) p7 p8 (if y9 = 0 then 0 else 1) nr nc) M) : wp_L_edge_93 p6 p7 p8 Qm y9 y11 M := by
  have hnn := L.n
  unfold lwN at hnn
  have hC := hG.nC
  have hKn := hG.nK
  obtain ⟨m0, m1, -⟩ := L.m
  obtain ⟨b1, b2, b3, b4⟩ := L.b
  obtain ⟨⟨r0, r1⟩, -⟩ := zRA_in hG h0 h1
  have hbk : (if 2 ≤ p8 then (p8 - 2) else (p8 + 2)) = Int.tmod (p8 + 2) 4 ∧ 0 ≤ Int.tmod (p8 + 2) 4 ∧ Int.tmod (p8 + 2) 4 < 4 := by
    rcases (by omega : p8 = 0 ∨ p8 = 1 ∨ p8 = 2 ∨ p8 = 3) with rfl | rfl | rfl | rfl <;> decide
  obtain ⟨A, eA⟩ : ∃ A, A = zcn T (zRA T p6) p7 := ⟨_, rfl⟩
  obtain ⟨Bc, eB⟩ : ∃ B, B = zcn T nr nc := ⟨_, rfl⟩
  have hnr := zRA_r hG (p6 + y9)
  rw [← hn] at hnr
  have hnc : nc = -1 ∨ (0 ≤ nc ∧ nc < T 11 0 4) := by rw [hc]; split <;> omega
  have rA : -1 ≤ A ∧ A < T 11 0 15 := by rw [eA]; exact zcn_r hG (Or.inr ⟨r0, r1⟩) (Or.inr ⟨k0, k1⟩)
  have rB : -1 ≤ Bc ∧ Bc < T 11 0 15 := by rw [eB]; exact zcn_r hG hnr hnc
  have eA2 : T 69 0 (6 * zRA T p6 + p7) - 1 = A := by rw [eA]; unfold zcn; rw [if_neg (by omega)]
  obtain ⟨o, eo⟩ : ∃ o, o = (if (p6 + y9) < 0 then (1 : Int) else (if (M 112 0 1) ≤ (p6 + y9) then (1 : Int) else (if y11 < 0 then (1 : Int) else (if y11 < (M 112 0 0) then (0 : Int) else 1)))) := ⟨_, rfl⟩
  have ho : (o = 0 ∧ (0 ≤ p6 + y9 ∧ p6 + y9 < T 11 0 8) ∧ (0 ≤ y11 ∧ y11 < T 11 0 4)) ∨ (o = 1 ∧ ¬ ((0 ≤ p6 + y9 ∧ p6 + y9 < T 11 0 8) ∧ (0 ≤ y11 ∧ y11 < T 11 0 4))) := by
    rw [eo, m0, m1]
    repeat' split
    all_goals omega
  unfold zedge at hq
  rw [← eA, ← eB] at hq
  have wA := zwt_5 hG hB 0 A s0 (by omega : p8 < 4)
  have wB := zwt_5 hG hB 0 Bc hbk.2.1 hbk.2.2
  have go : wp_L_edge_170 p6 p7 p8 Qm y9 y11 o A Bc M := by
    by_cases hsame : 0 ≤ A ∧ A = Bc
    · rw [if_pos hsame] at hq
      exact ⟨fun z => absurd z (by omega), fun _ => ⟨fun z => absurd hsame.2 z, fun _ => hq⟩⟩
    · rw [if_neg hsame] at hq
      have h186 : wp_L_edge_186 p6 p7 p8 Qm y9 y11 o A Bc M := by
        unfold wp_L_edge_186
        rw [hbk.1]
        have last : wp_L_edge_260 p6 p7 p8 Qm y9 y11 o (Int.tmod (p8 + 2) 4) (zstr (max (zwt T M 0 A p8) (zwt T M 0 Bc (Int.tmod (p8 + 2) 4))) 0 0 0) M := by
          refine j_edge260 hG L hB h0 h1 k0 k1 s0 s3 (nr := nr) (nc := nc) (z05_m wA wB) rfl (by omega) ?_ ?_
          · rcases ho with ⟨x, y, z⟩ | ⟨x, y⟩
            · exact Or.inl ⟨x, y, z, hn, by rw [hc, if_pos z]⟩
            · refine Or.inr ⟨x, fun z => ?_, fun z => ?_⟩
              · rw [hc, if_neg (by omega)]
              · rw [hn]
                exact zRA_out hG (by have := he z; omega)
          · have e1 : (if (if y9 = 0 then (0 : Int) else 1) = 0 then (0 : Int) else max (zwt T M 1 (zRA T p6) p8) (zwt T M 1 nr (Int.tmod (p8 + 2) 4))) = (if y9 = 0 then 0 else max (zwt T M 1 (zRA T p6) p8) (zwt T M 1 nr (Int.tmod (p8 + 2) 4))) := by
              by_cases z : y9 = 0
              · rw [if_pos (c := y9 = 0) z, if_pos rfl, if_pos z]
              · rw [if_neg (c := y9 = 0) z, if_neg (by decide), if_neg z]
            have e2 : (if (if y9 = 0 then (0 : Int) else 1) = 0 then max (zwt T M 2 p7 p8) (zwt T M 2 nc (Int.tmod (p8 + 2) 4)) else (0 : Int)) = (if y9 = 0 then max (zwt T M 2 p7 p8) (zwt T M 2 nc (Int.tmod (p8 + 2) 4)) else 0) := by
              by_cases z : y9 = 0
              · rw [if_pos (c := y9 = 0) z, if_pos rfl, if_pos z]
              · rw [if_neg (c := y9 = 0) z, if_neg (by decide), if_neg z]
            have e3 : (if nr = -1 ∨ nc = -1 then M 11 0 30 else 0) = (if o = 0 then 0 else M 11 0 30) := by
              rcases ho with ⟨x, y, z⟩ | ⟨x, y⟩
              · have := (zRA_in hG y.1 y.2).1
                rw [if_pos x, if_neg (by rw [hn, hc, if_pos z]; omega)]
              · have hor : nr = -1 ∨ nc = -1 := by
                  by_cases v : 0 ≤ y11 ∧ y11 < T 11 0 4
                  · exact Or.inl (by rw [hn]; exact zRA_out hG (by omega))
                  · exact Or.inr (by rw [hc, if_neg v])
                rw [if_pos hor, if_neg (by omega)]
            rw [e1, e2, e3] at hq
            exact hq
        have h233 : wp_L_edge_233 p6 p7 p8 Qm y9 y11 o Bc (Int.tmod (p8 + 2) 4) (zstr (zwt T M 0 A p8) 0 0 0) M := by
          have e60 := zst_60 wA z05_0 z05_0 z05_0
          refine ⟨fun z => ?_, fun z => ?_⟩
          · rw [zwt_n (T := T) (M := M) (kd := 0) (s := Int.tmod (p8 + 2) 4) z] at last
            rw [show max (zwt T M 0 A p8) 0 = zwt T M 0 A p8 by unfold z05 at wA; omega] at last
            exact last
          · have e : M 110 0 (4 * Bc + Int.tmod (p8 + 2) 4) = zwt T M 0 Bc (Int.tmod (p8 + 2) 4) := by
              rw [zwt_0 ⟨z, rB.2⟩]
              exact b1 _ (by omega) (by omega)
            rw [e]
            refine ⟨⟨by omega, by omega⟩, ⟨by omega, by omega⟩, ⟨by omega, by omega⟩, j_stronger e60.1 e60.2 wB.1 wB.2 (by decide) (by decide) ?_⟩
            rw [zst_1 wA wB]
            exact last
        refine ⟨fun _ => ⟨⟨by omega, by omega⟩, trivial⟩, fun _ => ⟨⟨by omega, by omega⟩, trivial⟩, ⟨by omega, by omega⟩, fun z => ?_, fun z => ?_⟩
        · rw [zwt_n (T := T) (M := M) (kd := 0) (s := p8) z, zst_00] at h233
          exact h233
        · have e : M 110 0 (4 * A + p8) = zwt T M 0 A p8 := by
            rw [zwt_0 ⟨z, rA.2⟩]
            exact b1 _ (by omega) (by omega)
          rw [e]
          refine ⟨⟨by omega, by omega⟩, ⟨by omega, by omega⟩, ⟨by omega, by omega⟩, j_stronger (by decide) (by decide) wA.1 wA.2 (by decide) (by decide) ?_⟩
          rw [zst_0 wA]
          exact h233
      exact ⟨fun _ => h186, fun _ => ⟨fun _ => h186, fun z => absurd ⟨by omega, z⟩ hsame⟩⟩
  unfold wp_L_edge_93
  rw [← eo]
  refine ⟨⟨by omega, by omega⟩, fun _ => ⟨⟨by omega, by omega⟩, trivial⟩, j_at hG L h0 h1 k0 k1 ?_⟩
  rw [eA2]
  refine ⟨fun z => ?_, fun z => ?_⟩
  · obtain ⟨-, y, v⟩ := ho.resolve_right (fun x => by omega)
    obtain ⟨⟨q0, q1⟩, -⟩ := zRA_in hG y.1 y.2
    refine ⟨⟨by omega, by omega⟩, j_at hG L y.1 y.2 v.1 v.2 ?_⟩
    have e : T 69 0 (6 * zRA T (p6 + y9) + y11) - 1 = Bc := by
      rw [eB, hn, hc, if_pos v]
      unfold zcn
      rw [if_neg (by omega)]
    rw [e]
    exact go
  · obtain ⟨-, y⟩ := ho.resolve_left (fun x => z x.1)
    have e : Bc = -1 := by
      rw [eB]
      unfold zcn
      rw [if_pos]
      by_cases v : 0 ≤ y11 ∧ y11 < T 11 0 4
      · exact Or.inl (by rw [hn]; exact zRA_out hG (by omega))
      · exact Or.inr (by rw [hc, if_neg v])
    rw [← e]
    exact go
theorem j_edge (hG : Good T) (L : zLw T M) (hB : zBR T M) (h0 : 0 ≤ p6) (h1 : p6 < T 11 0 8) (k0 : 0 ≤ p7) (k1 : p7 < T 11 0 4) (s0 : 0 ≤ p8) (s3 : p8 ≤ 3) (hU : (p8 = 1 ∨ p8 = 3) → ∀ nc, zNC T p7 (if p8 = 3 then -1 else 1) nc → Qm (zedge T M (zRA T p6) p7 p8 0 (zRA T p6) nc) M) (hD : (p8 = 0 ∨ p8 = 2) → Qm (zedge T M (zRA T p6) p7 p8 1 (zRA T (p6 + (if p8 = 0 then -1 else 1))) p7) M) : wp_L_edge p6 p7 p8 M Qm := by
  have hn := L.n
  unfold lwN at hn
  obtain ⟨m0, m1, -⟩ := L.m
  by_cases hs : p8 = 0 ∨ p8 = 2
  · have e1 : (if ¬ p8 = 1 then (if ¬ p8 = 3 then (0 : Int) else (-1)) else 1) = 0 := by
      rw [if_pos (by omega), if_pos (by omega)]
    have e2 : (if ¬ p8 = 0 then (if ¬ p8 = 2 then (0 : Int) else 1) else (-1)) = (if p8 = 0 then -1 else 1) := by
      rcases hs with rfl | rfl <;> rfl
    have e3 : (if p8 = 0 then (-1 : Int) else 1) = 1 ∨ (if p8 = 0 then (-1 : Int) else 1) = -1 := by split <;> omega
    unfold wp_L_edge
    rw [e1, e2, Int.add_zero]
    refine ⟨⟨by omega, by omega⟩, 1, fun _ => ?_, fun z => absurd rfl z⟩
    refine j_edge93 hG L hB h0 h1 k0 k1 s0 s3 (nc := p7) (Or.inr ⟨e3, hs⟩) ⟨by omega, by omega⟩ rfl (by rw [if_pos ⟨k0, k1⟩]) (fun _ => rfl) ?_
    rw [if_neg (by omega)]
    exact hD hs
  · have hs' : p8 = 1 ∨ p8 = 3 := by omega
    have e1 : (if ¬ p8 = 1 then (if ¬ p8 = 3 then (0 : Int) else (-1)) else 1) = (if p8 = 3 then -1 else 1) := by
      rcases hs' with rfl | rfl <;> rfl
    have e2 : (if ¬ p8 = 0 then (if ¬ p8 = 2 then (0 : Int) else 1) else (-1)) = 0 := by
      rcases hs' with rfl | rfl <;> rfl
    have e3 : (if p8 = 3 then (-1 : Int) else 1) = 1 ∨ (if p8 = 3 then (-1 : Int) else 1) = -1 := by split <;> omega
    obtain ⟨st, est⟩ : ∃ st, st = (if p8 = 3 then (-1 : Int) else 1) := ⟨_, rfl⟩
    unfold wp_L_edge
    rw [e1, e2, ← est]
    rw [← est] at e3 hU
    have fin : ∀ v, (-1 ≤ v ∧ v ≤ T 11 0 4) → 0 < st * (v - p7) → (∀ k, 0 ≤ k → k < T 11 0 4 → 0 < st * (k - p7) → st * (k - v) < 0 → ¬ T 59 0 k = 0) → (0 ≤ v → v < T 11 0 4 → T 59 0 v = 0) → wp_L_edge_93 p6 p7 p8 Qm 0 v M := fun v hv hgt hb hsh => by
      refine j_edge93 hG L hB h0 h1 k0 k1 s0 s3 (nr := zRA T p6) (nc := if 0 ≤ v ∧ v < T 11 0 4 then v else -1) (Or.inl ⟨rfl, hs'⟩) ⟨by omega, by omega⟩ (by rw [Int.add_zero]) rfl (fun z => absurd rfl z) ?_
      rw [if_pos rfl]
      refine hU hs' _ ?_
      unfold zNC
      by_cases z : 0 ≤ v ∧ v < T 11 0 4
      · rw [if_pos z]
        exact Or.inr ⟨z, hsh z.1 z.2, hgt, hb⟩
      · rw [if_neg z]
        refine Or.inl ⟨rfl, fun k a b c => hb k a b c ?_⟩
        rcases e3 with e | e <;> rw [e] at hgt c ⊢ <;> omega
    refine ⟨by rcases e3 with e | e <;> rw [e] <;> exact ⟨by omega, by omega⟩, ?_⟩
    refine zWhile (σ := Int) (fun n v => wp_L_edge_52 p6 p7 p8 Qm n 0 st v M) (fun v => (-1 ≤ v ∧ v ≤ T 11 0 4) ∧ 0 < st * (v - p7) ∧ ∀ k, 0 ≤ k → k < T 11 0 4 → 0 < st * (k - p7) → st * (k - v) < 0 → ¬ T 59 0 k = 0) (fun v => (10 - st * v).toNat) (fun n v hv ih => ?_) (p7 + st) ?_
    · obtain ⟨a, b, c⟩ := hv
      refine ⟨fun z => by omega, fun _ => ⟨fun z => fin v a b c (fun x => by omega), fun z => ⟨fun y => fin v a b c (fun _ x => by rw [m0] at y; omega), fun y => ?_⟩⟩⟩
      rw [m0] at y
      obtain ⟨-, -, -, c3⟩ := L.c v z y
      obtain ⟨-, -, -, w⟩ := hG.col v z y
      rw [c3]
      refine ⟨⟨by omega, by omega⟩, ⟨by omega, by omega⟩, ⟨by omega, by omega⟩, fun x => fin v a b c (fun _ _ => by omega), fun x => ⟨by rcases e3 with e | e <;> rw [e] <;> exact ⟨by omega, by omega⟩, ih (v + st) ⟨by rcases e3 with e | e <;> rw [e] <;> exact ⟨by omega, by omega⟩, ?_, fun k k0 k1 g1 g2 => ?_⟩ ?_⟩⟩
      · rcases e3 with e | e <;> rw [e] at b ⊢ <;> omega
      · by_cases ek : k = v
        · rw [ek]; omega
        · refine c k k0 k1 g1 ?_
          rcases e3 with e | e <;> rw [e] at g1 g2 ⊢ <;> omega
      · rcases e3 with e | e <;> rw [e] at b ⊢ <;> omega
    · refine ⟨by rcases e3 with e | e <;> rw [e] <;> exact ⟨by omega, by omega⟩, ?_, fun k k0 k1 g1 g2 => ?_⟩
      · rcases e3 with e | e <;> rw [e] <;> omega
      · rcases e3 with e | e <;> rw [e] at g1 g2 <;> omega
end JE
