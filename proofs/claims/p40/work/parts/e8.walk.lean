/-! pages: the walk through all things, from the first to the last -/
section EH
variable {T M M0 : Mem} {Qm : Mem → Prop} {y9 y10 y12 y16 : Int}
theorem zRA_body (hG : Good T) {a : Int} (a0 : 0 ≤ a) (a1 : a < T 11 0 8) : (T 60 0 (zRA T a) = 1 ∧ (T 64 0 0 ≤ a ∧ a < T 64 0 0 + T 64 0 1) ∧ zRA T a = zbo T (a - T 64 0 0)) ∨ (¬ T 60 0 (zRA T a) = 1 ∧ (a < T 64 0 0 ∨ T 64 0 0 + T 64 0 1 ≤ a)) := by
  have hn := hG.n.2.2.2.2.2.2.2
  unfold zRA
  rw [if_neg (by omega)]
  by_cases h0 : a < T 64 0 0
  · rw [if_pos h0]
    obtain ⟨x, y, z⟩ := hG.ord 0 a (by omega) (by omega) a0 h0
    rw [show 24 * 0 + a = a by omega] at y
    exact Or.inr ⟨by omega, Or.inl h0⟩
  · rw [if_neg h0]
    by_cases h1 : a < T 64 0 0 + T 64 0 1
    · rw [if_pos h1]
      obtain ⟨x, y, z⟩ := hG.ord 1 (a - T 64 0 0) (by omega) (by omega) (by omega) (by omega)
      rw [show 24 * 1 + (a - T 64 0 0) = 24 + (a - T 64 0 0) by omega] at y
      exact Or.inl ⟨y, ⟨by omega, h1⟩, rfl⟩
    · rw [if_neg h1, if_pos (by omega)]
      obtain ⟨x, y, z⟩ := hG.ord 2 (a - T 64 0 0 - T 64 0 1) (by omega) (by omega) (by omega) (by omega)
      rw [show 24 * 2 + (a - T 64 0 0 - T 64 0 1) = 48 + (a - T 64 0 0 - T 64 0 1) by omega] at y
      exact Or.inr ⟨by omega, Or.inr (by omega)⟩
theorem zJ_e {i k : Int} (h : i ≤ 2 * T 11 0 8) (hk : max 0 (min (T 64 0 1) (i / 2 - T 64 0 0)) = k) (ho : ¬ (2 * T 64 0 0 ≤ i ∧ i < 2 * (T 64 0 0 + T 64 0 1) ∧ i % 2 = 1)) : zJ T i = zi1 T k 0 0 := by
  rw [zJ_a h hk (if_neg ho)]
  omega
theorem j_if0 {b c d y : Int} (h : b = 0) : (if (if b = 0 then (0 : Int) else c) = 0 then (0 : Int) else d) = 0 ∧ (if b = 0 then (0 : Int) else y) = 0 := ⟨if_pos (if_pos h), if_pos h⟩
set_option maxHeartbeats 16000000 in
theorem j_195 (hG : Good T) (L : zLw T M0) (X0 : zLX T M0) (hR : 0 < T 11 0 8) (e9 : y9 = zat T) (e10 : y10 = zsum T (zhH T) 0 + zsum T (zhH T) 2) (h10 : 0 ≤ y10 ∧ y10 ≤ 1000) (e12 : y12 = if T 64 0 1 = 0 then -1 else T 64 0 0 + T 64 0 1 - 1) (e16 : y16 = if T 11 0 26 = 0 then 0 else zalln T (T 64 0 1)) (hend : ∀ S M', zPW T S → zpg T = S → zPX T S → zWk T M0 M' S → (inR (S 0 1 - 1 + 1)) ∧ ∀ M15 : Mem, M15 = up M' 114 0 0 (S 0 1 - 1 + 1) → (∃ n35 : Nat, wp_L_walk_842 Qm n35 y9 y10 (S 0 1 - 1) 0 M15)) (hfail : ¬ zpg T 0 6 = 0 → ∀ M', (∀ (s : Nat) (j k : Int), s ≠ 114 → s ≠ 115 → s ≠ 116 → M' s j k = M0 s j k) → M' 114 0 0 = -1 → Qm M') {S : zSt} (H : zPW T S) (hr : zRch T S) (X : zPX T S) (W : zWk T M0 M S) (e4 : S 0 4 = 0) (e5 : S 0 5 = 0) : ∃ n, wp_L_walk_195 Qm n y9 y10 y12 (S 0 1 - 1) (S 0 2) (if S 0 3 = 0 then 1 else 0) y16 0 M := by
  have hn := L.n
  have hn' := hn
  unfold lwN at hn'
  obtain ⟨-, -, -, -, -, hN26, -, hm0, hm1, hm2, hms, -⟩ := hG.n
  have m1 : M0 112 0 1 = T 11 0 8 := L.m.2.1
  have m4 : M0 112 0 4 = T 11 0 25 := L.m.2.2.2.2.1
  have m5 : M0 112 0 5 = T 11 0 26 := L.m.2.2.2.2.2
  have hat := zat_r T hG
  have h12 : -1 ≤ y12 ∧ y12 ≤ 10 := by rw [e12]; split <;> omega
  have hal := zalln_r hG
  have h16 : (y16 = 0 ∧ ¬ (¬ T 11 0 26 = 0 ∧ 0 < zalln T (T 64 0 1))) ∨ (y16 = zalln T (T 64 0 1) ∧ 0 < y16 ∧ ¬ T 11 0 26 = 0 ∧ 0 < zalln T (T 64 0 1)) := by
    by_cases a : T 11 0 26 = 0
    · rw [if_pos a] at e16
      exact Or.inl ⟨e16, fun z => z.1 a⟩
    · rw [if_neg a] at e16
      by_cases b : 0 < zalln T (T 64 0 1)
      · exact Or.inr ⟨e16, by omega, a, b⟩
      · exact Or.inl ⟨by omega, fun z => b z.2⟩
  refine zLoop (σ := zSt × Mem) (fun n i s => wp_L_walk_195 Qm n y9 y10 y12 (s.1 0 1 - 1) (s.1 0 2) (if s.1 0 3 = 0 then 1 else 0) y16 i s.2) (fun i s => zPW T s.1 ∧ zRch T s.1 ∧ zPX T s.1 ∧ zWk T M0 s.2 s.1 ∧ s.1 0 4 = zJ T i ∧ s.1 0 5 = 0) (2 * T 11 0 8 + 2) (by omega) (s := (S, M)) ⟨H, hr, X, W, ?_, e5⟩ (fun n s hs => ?_) (fun n i s i0 i1 hs ih => ?_)
  · show S 0 4 = zJ T 0
    rw [zJ_e (k := 0) (by omega) (by omega) (by omega), e4, show zi1 T 0 = (fun _ _ => 0 : zSt) from zF_self _ _ (Int.le_refl _)]
  · obtain ⟨S1, M1⟩ := s
    obtain ⟨h1, h2, h3, h4, h5, h6⟩ := hs
    have h1 : zPW T S1 := h1
    have h2 : zRch T S1 := h2
    have h3 : zPX T S1 := h3
    have h4 : zWk T M0 M1 S1 := h4
    have h5 : S1 0 4 = zJ T (2 * T 11 0 8 + 2) := h5
    have e : zJ T (2 * T 11 0 8 + 2) = znn T := by unfold zJ; rw [if_neg (by omega), if_neg (by omega)]
    have W112 : M1 112 0 1 = T 11 0 8 := by rw [h4.1 112 0 1 (by decide) (by decide) (by decide), m1]
    show wp_L_walk_195 Qm (n + 1) y9 y10 y12 (S1 0 1 - 1) (S1 0 2) (if S1 0 3 = 0 then 1 else 0) y16 (2 * T 11 0 8 + 2) M1
    exact ⟨by rw [W112]; exact ⟨by omega, by omega⟩, by rw [W112]; exact ⟨by omega, by omega⟩, fun _ => hend S1 M1 h1 (zRch_e (by omega) h2) h3 h4, fun z => absurd z (by rw [W112]; omega)⟩
  · obtain ⟨S1, M1⟩ := s
    obtain ⟨h1, h2, h3, h4, h5, h6⟩ := hs
    have h1 : zPW T S1 := h1
    have h2 : zRch T S1 := h2
    have h3 : zPX T S1 := h3
    have h4 : zWk T M0 M1 S1 := h4
    have h5 : S1 0 4 = zJ T i := h5
    have h6 : S1 0 5 = 0 := h6
    have L1 : zLw T M1 := h4.lw L
    have W112 : M1 112 0 1 = T 11 0 8 := L1.m.2.1
    have W5 : M1 112 0 5 = T 11 0 26 := L1.m.2.2.2.2.2
    obtain ⟨p, ep⟩ : ∃ p, p = Int.tdiv i 2 := ⟨_, rfl⟩
    have etd : p = i / 2 := by rw [ep, Int.tdiv_eq_ediv_of_nonneg i0]
    have etm : Int.tmod i 2 = i % 2 := Int.tmod_eq_emod_of_nonneg i0
    show wp_L_walk_195 Qm (n + 1) y9 y10 y12 (S1 0 1 - 1) (S1 0 2) (if S1 0 3 = 0 then 1 else 0) y16 i M1
    refine ⟨by rw [W112]; exact ⟨by omega, by omega⟩, by rw [W112]; exact ⟨by omega, by omega⟩, fun z => absurd z (by rw [W112]; omega), fun _ => ?_⟩
    rw [W112, ← ep]
    obtain ⟨row, erow⟩ : ∃ z : Int, z = (if (2 * T 11 0 8) ≤ i then ((-1) : Int) else M1 106 0 p) := ⟨_, rfl⟩
    rw [← erow]
    obtain ⟨body, ebody⟩ : ∃ z : Int, z = (if row < 0 then (0 : Int) else (if ¬ (M1 105 0 (3 * row)) = 1 then (0 : Int) else 1)) := ⟨_, rfl⟩
    rw [← ebody]
    obtain ⟨lines, el⟩ : ∃ z : Int, z = (if (2 * T 11 0 8) ≤ i then (if ¬ i = (2 * T 11 0 8) then y16 else y9) else (if ¬ (Int.tmod i 2) = 0 then (if (if body = 0 then (0 : Int) else (if (M1 105 0 ((3 * row) + 1)) ≤ 0 then (0 : Int) else (if p = y12 then (1 : Int) else (if (M1 105 0 ((3 * (M1 106 0 (p + 1))) + 1)) = (M1 105 0 ((3 * row) + 1)) then (0 : Int) else 1)))) = 0 then (0 : Int) else y9) else (if body = 0 then (0 : Int) else (M1 113 0 (20 + row))))) := ⟨_, rfl⟩
    rw [← el]
    have hrow : (2 * T 11 0 8 ≤ i ∧ row = -1 ∧ body = 0) ∨ (i < 2 * T 11 0 8 ∧ (0 ≤ p ∧ p < T 11 0 8) ∧ row = zRA T p ∧ (0 ≤ row ∧ row < T 11 0 8) ∧ ((body = 1 ∧ (T 64 0 0 ≤ p ∧ p < T 64 0 0 + T 64 0 1) ∧ row = zbo T (p - T 64 0 0)) ∨ (body = 0 ∧ (p < T 64 0 0 ∨ T 64 0 0 + T 64 0 1 ≤ p)))) := by
      by_cases hc : 2 * T 11 0 8 ≤ i
      · rw [if_pos hc] at erow
        refine Or.inl ⟨hc, erow, ?_⟩
        rw [ebody, if_pos (by omega)]
      · rw [if_neg hc, L1.o p (by omega) (by omega)] at erow
        obtain ⟨a, b⟩ := zRA_in hG (a := p) (by omega) (by omega)
        rw [← erow] at a
        refine Or.inr ⟨by omega, ⟨by omega, by omega⟩, erow, a, ?_⟩
        rw [ebody, if_neg (by omega), (L1.r row a.1 a.2).1]
        rcases zRA_body hG (a := p) (by omega) (by omega) with ⟨x, y, z⟩ | ⟨x, y⟩
        · rw [← erow] at x z
          exact Or.inl ⟨by rw [if_neg (fun w => w x)], y, z⟩
        · rw [← erow] at x
          exact Or.inr ⟨by rw [if_pos x], y⟩
    have hrb : -1 ≤ row ∧ row < T 11 0 8 := by omega
    have hb0 : ¬ body = 0 → 0 ≤ row := by omega
    have skip : ∀ notes, lines ≤ 0 → (body = 0 ∨ ¬ Int.tmod i 2 = 0) → zJ T (i + 1) = zJ T i → wp_L_walk_425 Qm (wp_L_walk_195 Qm n) y9 y10 y12 (S1 0 1 - 1) (S1 0 2) (if S1 0 3 = 0 then 1 else 0) y16 i row body lines notes M1 := fun notes hl hb hj => j_425 hG hn hR m1 m4 e9 e10 h10 h12 ⟨i0, by omega⟩ hrb hb0 h1 h2 h3 h4 h6 (fun z => absurd hl (by omega)) (fun z => absurd hl (by omega)) (fun z => absurd hl (by omega)) (fun _ => ⟨hb, ih (S1, M1) ⟨h1, h2, h3, h4, h5.trans hj.symm, h6⟩⟩) (fun z => absurd hl (by omega)) hfail
    have go : ∀ notes, 0 < lines → zJ T i < znn T → lines = zhg T (zJ T i) → notes = znt T (zJ T i) → zIc T (zJ T i) i row body → zJ T (i + 1) = zJ T i + 1 → (jbr (T 11 0 8) i body (M1 105 0 ((3 * row) + 2)) = 0 ↔ zbr T (zJ T i) = 0) → (if jen (T 11 0 8) i y9 y16 y12 = 0 then zat T else 0) = (if znn T ≤ zJ T i + 1 then 0 else zat T) → wp_L_walk_425 Qm (wp_L_walk_195 Qm n) y9 y10 y12 (S1 0 1 - 1) (S1 0 2) (if S1 0 3 = 0 then 1 else 0) y16 i row body lines notes M1 := fun notes hl q1 q2 q3 q4 q5 q6 q7 => j_425 hG hn hR m1 m4 e9 e10 h10 h12 ⟨i0, by omega⟩ hrb hb0 h1 h2 h3 h4 h6 (fun _ => by rw [h5]; exact q6) (fun _ => by rw [h5]; exact q7) (fun _ => by rw [h5]; exact ⟨q1, q2, q3, q4⟩) (fun z => absurd z (by omega)) (fun _ S' M' a1 a2 a3 a4 a5 a6 => ih (S', M') ⟨a1, a2, a3, a4, a5.trans (by rw [h5]; exact q5.symm), a6⟩) hfail
    -- with sums, there is more behind a row
    have more : ∀ k, 0 ≤ k → k ≤ T 64 0 1 → ¬ zat T = 0 → zi1 T k 0 0 < znn T := fun k k0 k1 ha => Int.lt_of_le_of_lt (zi1_le k0 k1) (zitm_tot hG ha).1.2
    have enA : i < 2 * T 11 0 8 → (¬ zat T = 0 → zJ T i + 1 < znn T) → (if jen (T 11 0 8) i y9 y16 y12 = 0 then zat T else 0) = (if znn T ≤ zJ T i + 1 then 0 else zat T) := fun c1 hh => by
      by_cases ha : zat T = 0
      · rw [ha]
        rw [ite_self, ite_self]
      · have := hh ha
        have ej : jen (T 11 0 8) i y9 y16 y12 = 0 := by
          unfold jen
          rw [if_neg (by omega), if_pos (by omega), if_pos (by omega)]
        rw [ej, if_pos rfl, if_neg (by omega)]
    have fin : ∀ notes, (¬ body = 0 → Int.tmod i 2 = 0 → notes = if T 11 0 26 = 0 then zrn T row (T 11 0 15) else 0) → ((body = 0 ∨ ¬ Int.tmod i 2 = 0) → notes = 0) → wp_L_walk_425 Qm (wp_L_walk_195 Qm n) y9 y10 y12 (S1 0 1 - 1) (S1 0 2) (if S1 0 3 = 0 then 1 else 0) y16 i row body lines notes M1 := fun notes n1 n2 => by
      rcases hrow with ⟨c1, c2, c3⟩ | ⟨c1, c2, c3, c4, ⟨b1, b2, b3⟩ | ⟨b1, b2⟩⟩
      · have nt0 := n2 (Or.inl c3)
        rw [if_pos c1] at el
        by_cases c : i = 2 * T 11 0 8
        · rw [if_neg (fun z => z c)] at el
          have z0 : zJ T i = zi1 T (T 64 0 1) 0 0 := zJ_e (by omega) (by omega) (by omega)
          have z1 : zJ T (i + 1) = zi2 T 0 0 := by unfold zJ; rw [if_neg (by omega), if_pos (by omega)]
          by_cases ha : zat T = 0
          · refine skip notes (by omega) (Or.inl c3) ?_
            rw [z0, z1, zi2_n, if_pos ha]
            omega
          · obtain ⟨t1, t2, t3, t4, t5⟩ := zitm_tot hG ha
            rw [← z0] at t1 t2 t3 t4 t5
            have e2 := zi2_n (T := T)
            rw [if_neg ha, ← z0] at e2
            have en := znn_n (T := T)
            refine go notes (by omega) t1.2 (by omega) (by omega) ⟨hrb, Or.inr ⟨Or.inl c3, by omega⟩, by omega⟩ (by rw [z1, e2]) ?_ ?_
            · unfold jbr
              rw [if_pos c1, if_pos (by omega)]
              exact ⟨fun _ => t5, fun _ => rfl⟩
            · rcases h16 with ⟨u, v⟩ | ⟨u, v, w, x⟩
              · rw [if_neg v] at en
                have ej : jen (T 11 0 8) i y9 y16 y12 = 1 := by
                  unfold jen
                  rw [if_neg (by omega), if_neg (fun z => z c), if_pos u]
                rw [ej, if_neg (c := (1 : Int) = 0) (by decide), if_pos (by omega)]
              · rw [if_pos ⟨w, x⟩] at en
                have ej : jen (T 11 0 8) i y9 y16 y12 = 0 := by
                  unfold jen
                  rw [if_neg (by omega), if_neg (fun z => z c), if_neg (c := y16 = 0) (by omega), if_pos (by omega)]
                rw [ej, if_pos rfl, if_neg (by omega)]
        · rw [if_pos c] at el
          have z0 : zJ T i = zi2 T 0 0 := by unfold zJ; rw [if_neg (by omega), if_pos (by omega)]
          have z1 : zJ T (i + 1) = znn T := by unfold zJ; rw [if_neg (by omega), if_neg (by omega)]
          have en := znn_n (T := T)
          rcases h16 with ⟨u, v⟩ | ⟨u, v, w, x⟩
          · refine skip notes (by omega) (Or.inl c3) ?_
            rw [z0, z1, en, if_neg v]
            omega
          · obtain ⟨t1, t2, t3, t4, t5⟩ := zitm_end hG ⟨w, x⟩
            rw [if_pos ⟨w, x⟩] at en
            rw [← z0] at t1 t2 t3 t4 t5 en
            refine go notes (by omega) t1.2 (by omega) (by omega) ⟨hrb, Or.inr ⟨Or.inl c3, by omega⟩, by omega⟩ (by rw [z1, en]) ?_ ?_
            · unfold jbr
              rw [if_pos c1, if_neg (by omega)]
              exact ⟨fun z => absurd z (by decide), fun z => by omega⟩
            · have ej : jen (T 11 0 8) i y9 y16 y12 = 1 := by
                unfold jen
                rw [if_pos (by omega)]
              rw [ej, if_neg (c := (1 : Int) = 0) (by decide), if_pos (by omega)]
      · obtain ⟨k, ek⟩ : ∃ k, k = p - T 64 0 0 := ⟨_, rfl⟩
        rw [← ek] at b3
        have e12 : y12 = T 64 0 0 + T 64 0 1 - 1 := by rw [e12, if_neg (by omega)]
        have hk : 0 ≤ k ∧ k < T 64 0 1 := by omega
        have nx := zi1_next (T := T) hk.1
        rw [if_neg (by omega)] at el
        obtain ⟨r1, r2, r3⟩ := L1.r row c4.1 c4.2
        by_cases c : i % 2 = 0
        · have nt := n1 (by omega) (by omega)
          rw [if_neg (by omega), if_neg (by omega), h4.1 113 0 (20 + row) (by decide) (by decide) (by decide), X0.2 row c4.1 c4.2] at el
          obtain ⟨t1, t2, t3, t4, t5⟩ := zitm_row hG hk.1 hk.2
          have z0 : zJ T i = zi1 T k 0 0 := zJ_e (by omega) (by omega) (by omega)
          have z1 : zJ T (i + 1) = zi1 T k 0 0 + 1 := zJ_a (by omega) (by omega) (if_pos ⟨by omega, by omega, by omega⟩)
          have hz := (zit_r hG t1.1 t1.2).2.1
          rw [← b3] at t2 t3 t4 t5
          rw [← z0] at t1 t2 t3 t4 t5 z1 hz nx
          refine go notes (by omega) t1.2 (by omega) (nt.trans t4.symm) ⟨hrb, Or.inl ⟨by omega, by omega, t2, c4.1⟩, by omega⟩ z1 ?_ (enA c1 (fun ha => ?_))
          · unfold jbr
            rw [if_neg (by omega), if_neg (by omega), if_neg (by omega), r3, t5]
            by_cases w : T 62 0 row = 1
            · rw [if_neg (fun z => z w)]
              omega
            · rw [if_pos w]
              have := (hG.row row c4.1 c4.2).2.2.1
              omega
          · have := more (k + 1) (by omega) (by omega) ha
            split at nx <;> omega
        · have nt := n2 (Or.inr (by omega))
          have z0 : zJ T i = zi1 T k 0 0 + 1 := zJ_a (by omega) (by omega) (if_pos ⟨by omega, by omega, by omega⟩)
          have z1 : zJ T (i + 1) = zi1 T (k + 1) 0 0 := zJ_e (by omega) (by omega) (by omega)
          have g61 := (hG.row row c4.1 c4.2).2.1
          rw [if_pos (by omega), if_neg (c := body = 0) (by omega), r2, b3] at el
          rw [b3] at g61
          have erun : lines = if ¬ zat T = 0 ∧ ¬ zends T k = 0 ∧ ¬ T 61 0 (zbo T k) = 0 then 1 else 0 := by
            rw [el]
            have one : ¬ zends T k = 0 → 0 < T 61 0 (zbo T k) → y9 = if ¬ zat T = 0 ∧ ¬ zends T k = 0 ∧ ¬ T 61 0 (zbo T k) = 0 then 1 else 0 := fun u v => by
              by_cases ha : zat T = 0
              · rw [if_neg (fun z => z.1 ha)]; omega
              · rw [if_pos ⟨ha, u, by omega⟩]; omega
            by_cases g0 : T 61 0 (zbo T k) ≤ 0
            · rw [if_pos (c := (if T 61 0 (zbo T k) ≤ 0 then (0 : Int) else _) = 0) (if_pos g0), if_neg (by omega)]
            · rw [if_neg g0]
              by_cases g1 : k + 1 = T 64 0 1
              · rw [if_pos (c := p = y12) (by omega), if_neg (c := (1 : Int) = 0) (by decide)]
                exact one (by unfold zends; rw [if_pos g1]; decide) (by omega)
              · have hx : zRA T (p + 1) = zbo T (k + 1) := by
                  rcases zRA_body hG (a := p + 1) (by omega) (by omega) with ⟨x, y, z⟩ | ⟨x, y⟩
                  · rw [z, show p + 1 - T 64 0 0 = k + 1 by omega]
                  · omega
                have hx2 := zbo_r hG (k := k + 1) (by omega) (by omega)
                rw [if_neg (c := p = y12) (by omega), L1.o (p + 1) (by omega) (by omega), hx, (L1.r _ hx2.1 hx2.2.1).2.1]
                by_cases g2 : T 61 0 (zbo T (k + 1)) = T 61 0 (zbo T k)
                · rw [if_pos g2, if_pos rfl, if_neg]
                  intro z
                  refine z.2.1 ?_
                  unfold zends
                  rw [if_neg g1, if_pos g2]
                · rw [if_neg g2, if_neg (c := (1 : Int) = 0) (by decide)]
                  exact one (by unfold zends; rw [if_neg g1, if_neg g2]; decide) (by omega)
          by_cases hc : ¬ zat T = 0 ∧ ¬ zends T k = 0 ∧ ¬ T 61 0 (zbo T k) = 0
          · rw [if_pos hc] at erun nx
            obtain ⟨t1, t2, t3, t4, t5⟩ := zitm_sub hG hk.1 hk.2 hc
            have hzb := zbo_r hG hk.1 hk.2
            rw [← z0] at t1 t2 t3 t4 t5
            refine go notes (by omega) t1.2 (by omega) (by omega) ⟨hrb, Or.inr ⟨Or.inr (by omega), by omega⟩, by omega⟩ (by omega) ?_ (enA c1 (fun ha => ?_))
            · unfold jbr
              rw [if_neg (by omega), if_pos (by omega), if_pos (by omega)]
              exact ⟨fun _ => t5, fun _ => rfl⟩
            · have := more (k + 1) (by omega) (by omega) ha
              omega
          · rw [if_neg hc] at erun nx
            exact skip notes (by omega) (Or.inr (by omega)) (by omega)
      · have l0 : lines = 0 := by
          rw [el, if_neg (by omega), (j_if0 (y := 0) b1).1, (j_if0 (c := 0) (d := 0) b1).2, ite_self]
        refine skip notes (by omega) (Or.inl b1) ?_
        rcases b2 with u | u
        · rw [zJ_e (k := 0) (by omega) (by omega) (by omega), zJ_e (k := 0) (by omega) (by omega) (by omega)]
        · rw [zJ_e (k := T 64 0 1) (by omega) (by omega) (by omega), zJ_e (k := T 64 0 1) (by omega) (by omega) (by omega)]
    have fin0 : (body = 0 ∨ ¬ Int.tmod i 2 = 0 ∨ ¬ T 11 0 26 = 0) → wp_L_walk_424 Qm (wp_L_walk_195 Qm n) y9 y10 y12 (S1 0 1 - 1) (S1 0 2) (if S1 0 3 = 0 then 1 else 0) y16 i row body lines M1 := fun h => fin 0 (fun a b => by
      rcases h with h | h | h
      · exact absurd h a
      · exact absurd b h
      · rw [if_neg h]) (fun _ => rfl)
    refine ⟨⟨by omega, by omega⟩, fun _ => ⟨⟨by omega, by omega⟩, trivial⟩, fun _ => ⟨⟨by omega, by omega⟩, ⟨by omega, by omega⟩, trivial⟩, fun hb => ?_, ⟨by omega, by omega⟩, fun _ => ⟨⟨by omega, by omega⟩, trivial⟩, fun _ => ⟨fun _ => ⟨fun hb => ?_, trivial⟩, trivial⟩, ⟨by omega, by omega⟩, fun z => fin0 (Or.inl (by omega)), fun z => ⟨fun y => fin0 (Or.inr (Or.inl y)), fun y => ⟨fun x => fin0 (Or.inl x), fun x => ⟨fun w => fin0 (Or.inr (Or.inr (by rw [← W5]; exact w))), fun w => ?_⟩⟩⟩⟩
    · have := hb0 hb
      refine ⟨⟨by omega, by omega⟩, ⟨by omega, by omega⟩, ⟨by omega, by omega⟩, fun _ => ⟨fun hp => ?_, trivial⟩, trivial⟩
      have hp1 : p + 1 < T 11 0 8 := by
        have e12' : ¬ T 64 0 1 = 0 → y12 = T 64 0 0 + T 64 0 1 - 1 := fun z => by rw [e12, if_neg z]
        omega
      obtain ⟨a, b⟩ := zRA_in hG (a := p + 1) (by omega) hp1
      rw [L1.o (p + 1) (by omega) hp1]
      exact ⟨⟨by omega, by omega⟩, ⟨by omega, by omega⟩, ⟨by omega, by omega⟩, ⟨by omega, by omega⟩, ⟨by omega, by omega⟩, ⟨by omega, by omega⟩, ⟨by omega, by omega⟩, ⟨by omega, by omega⟩, trivial⟩
    · have := hb0 hb
      exact ⟨⟨by omega, by omega⟩, ⟨by omega, by omega⟩, trivial⟩
    · refine j_noteLines hG L1 ?_
      have := hb0 x
      exact fin _ (fun _ _ => by rw [zrnA_r this, if_pos (by rw [← W5]; exact w)]) (fun z => by
        rcases z with z | z
        · exact absurd z x
        · exact absurd y z)
end EH
