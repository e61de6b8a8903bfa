/-! pages: the beginning of the law's walk, and all of it -/
section EI
variable {T M : Mem}
theorem z_frame (hG : Good T) (h : Int → Int) : zS (fun r => if ¬ T 60 0 r = 1 then h r else 0) 0 (T 11 0 8) = zsum T h 0 + zsum T h 2 := by
  unfold zsum
  rw [← zS_partp hG (p := 0) (by decide) (by decide) h, ← zS_partp hG (p := 2) (by decide) (by decide) h, ← zS_add]
  refine zS_congr (fun r r0 r1 => ?_)
  have := (hG.row r r0 r1).1
  rcases (by omega : T 60 0 r = 0 ∨ T 60 0 r = 1 ∨ T 60 0 r = 2) with e | e | e
  · rw [if_pos (by omega), if_pos e, if_neg (by omega)]; omega
  · rw [if_neg (by omega), if_neg (by omega), if_neg (by omega)]; omega
  · rw [if_pos (by omega), if_neg (by omega), if_pos e]; omega
/-- what the law's walk leaves in its rows -/
def zPp (T M M' : Mem) : Prop := (∀ (s : Nat) (j k : Int), s ≠ 114 → s ≠ 115 → s ≠ 116 → M' s j k = M s j k) ∧ ((¬ zpg T 0 6 = 0 ∧ M' 114 0 0 = -1) ∨ (zpg T 0 6 = 0 ∧ M' 114 0 0 = zpg T 0 1 ∧ (∀ q, 0 ≤ q → q < 6 → q < zpg T 0 1 → M' 114 0 (1 + q) = zus T (zpg T) q ∧ M' 114 0 (7 + q) = zpg T 6 q) ∧ (∀ r q, 0 ≤ r → r < T 11 0 8 → 0 ≤ q → q < 6 → M' 115 0 (6 * r + q) = zlat (zpg T) r q) ∧ ∀ m, 0 ≤ m → m < T 64 0 1 → M' 116 0 (zbo T m) = zpg T 7 (zbo T m) ∧ 0 ≤ zpg T 7 (zbo T m)))
set_option maxHeartbeats 8000000 in
theorem j_walk (hG : Good T) (L : zLw T M) (X : zLX T M) (hR : 0 < T 11 0 8) {Qm : Mem → Prop} (hq : ∀ M', zPp T M M' → Qm M') : wp_L_walk M Qm := by
  have hn := L.n
  unfold lwN at hn
  obtain ⟨-, -, -, -, hN25, hN26, -, hm0, hm1, hm2, hms, -⟩ := hG.n
  have hat := zat_r T hG
  have hal := zalln_r hG
  have hh := zht_r hG (zwid_r hG)
  have hfr : ∀ k, 0 ≤ k → k ≤ T 11 0 8 → 0 ≤ zS (fun r => if ¬ T 60 0 r = 1 then zhH T r else 0) 0 k ∧ zS (fun r => if ¬ T 60 0 r = 1 then zhH T r else 0) 0 k ≤ 24 * k := fun k k0 k1 => by
    have := zS_bd (f := fun r => if ¬ T 60 0 r = 1 then zhH T r else 0) (a := 0) (b := k) 0 24 k0 (fun r r0 r1 => by
      have := hh r r0 (by omega)
      unfold zhH
      show 0 ≤ (if ¬ T 60 0 r = 1 then zht T (zwid T) r else 0) ∧ (if ¬ T 60 0 r = 1 then zht T (zwid T) r else 0) ≤ 24
      split <;> omega)
    omega
  have hfrn := hfr (T 11 0 8) (by omega) (Int.le_refl _)
  have hfe := z_frame hG (zhH T)
  -- all things
  have g190 : ∀ (M1 : Mem) (y10 y12 y16 : Int), (∀ (s : Nat) (j k : Int), s ≠ 114 → s ≠ 115 → s ≠ 116 → M1 s j k = M s j k) → (∀ k, 0 ≤ k → k < 13 → M1 114 0 k = 0) → (∀ k, 0 ≤ k → k < 60 → M1 115 0 k = 0) → y10 = zsum T (zhH T) 0 + zsum T (zhH T) 2 → (y12 = if T 64 0 1 = 0 then -1 else T 64 0 0 + T 64 0 1 - 1) → (y16 = if T 11 0 26 = 0 then 0 else zalln T (T 64 0 1)) → wp_L_walk_190 Qm (zat T) y10 y12 0 (T 11 0 25 - y10) 1 y16 M1 := fun M1 y10 y12 y16 fr z114 z115 e10 e12 e16 => by
    have W0 : zWk T M M1 (zS0 T) := by
      refine ⟨fr, fun q q0 q1 => ⟨fun h => ?_, fun _ => ⟨z114 _ (by omega) (by omega), z114 _ (by omega) (by omega)⟩⟩, fun r q r0 r1 q0 q1 => ?_, fun k k0 k1 => absurd k1 (by show ¬ k < 0; omega)⟩
      · have h : q < 0 + 1 := h
        have e : q = 0 := by omega
        rw [e, z114 _ (by omega) (by omega), z114 _ (by omega) (by omega)]
        unfold zU
        rw [show zS0 T 5 0 = 0 from rfl, show zS0 T 6 0 = 0 from rfl]
        refine ⟨?_, rfl⟩
        split <;> rfl
      · rw [z115 _ (by omega) (by omega)]
        unfold zlat
        exact (zS_self _ (Int.le_refl _)).symm
    have X0 : zPX T (zS0 T) := ⟨fun k a b => absurd b (by show ¬ k < 0; omega), fun k a b => absurd b (by show ¬ k < 0; omega), fun k a b => absurd b (by show ¬ k < 0; omega), fun j a b => by
      have b : j < 0 ∨ (j = 0 ∧ (0 : Int) < 0) := b
      omega⟩
    have h10 : 0 ≤ y10 ∧ y10 ≤ 1000 := by omega
    have := j_195 (Qm := Qm) (M := M1) (y9 := zat T) (y10 := y10) (y12 := y12) (y16 := y16) hG L X hR rfl e10 h10 e12 e16 (fun S M' H eS XS WS => ?_) (fun h6 M' f e => hq M' ⟨f, Or.inl ⟨h6, e⟩⟩) (zPW_0 hG) zRch_0 X0 W0 rfl rfl
    · have er : zS0 T 0 2 = T 11 0 25 - y10 := by
        show zrm T 0 = _
        unfold zrm
        rw [if_pos rfl, e10]
        omega
      rw [er, show zS0 T 0 3 = 0 from rfl, if_pos rfl, show zS0 T 0 1 - 1 = 0 from rfl] at this
      exact this
    · have H' := H
      obtain ⟨⟨a1, a2, a3, a4, a5⟩, b, ⟨c1, c2⟩, d, e6, g, -⟩ := H
      have h6 : zpg T 0 6 = 0 := by rw [eS]; exact e6
      have h4 : S 0 4 = znn T := by rw [← eS]; exact zpg_end hG h6
      refine ⟨⟨by omega, by omega⟩, fun M15 e15 => ?_⟩
      refine j_842 (T := T) (S := S) ⟨a2, by omega⟩ rfl e10 hat h10 (fun q q0 q1 => ?_) (fun q q0 q1 q2 => ?_) (fun M2 f2 n2 p2 => ?_)
      · have := g q q0 q1
        unfold zU
        split <;> omega
      · rw [e15, up_k _ _ _ _ _ _ (by omega), up_k _ _ _ _ _ _ (by omega)]
        exact (WS.2.1 q q0 q1).1 q2
      · refine hq M2 ⟨fun s j k x1 x2 x3 => by rw [f2 s j k x1, e15, up_s _ _ _ _ x1]; exact WS.1 s j k x1 x2 x3, Or.inr ⟨h6, ?_, ?_, ?_, ?_⟩⟩
        · rw [n2, e15, up_eq, eS]; omega
        · rw [eS]; exact p2
        · intro r q r0 r1 q0 q1
          rw [f2 115 _ _ (by decide), e15, up_s _ _ _ _ (by decide), eS]
          exact WS.2.2.1 r q r0 r1 q0 q1
        · intro m m0 m1'
          rw [f2 116 _ _ (by decide), e15, up_s _ _ _ _ (by decide), eS]
          obtain ⟨j, j0, j1, j2⟩ := (zcd_ok hG).2 m m0 m1'
          obtain ⟨k, k0, k1, k2⟩ := XS.2.2.2 j j0 (Or.inl (by omega))
          have hb := zbo_r hG m0 m1'
          rw [← j2, ← k2]
          exact WS.2.2.2 k k0 k1 (by rw [k2, j2]; exact hb.1) (by rw [k2, j2]; exact hb.2.1)
  -- how much stands around, and the last body row
  have g72 : ∀ (M1 : Mem), (∀ (s : Nat) (j k : Int), s ≠ 114 → s ≠ 115 → s ≠ 116 → M1 s j k = M s j k) → (∀ k, 0 ≤ k → k < 13 → M1 114 0 k = 0) → (∀ k, 0 ≤ k → k < 60 → M1 115 0 k = 0) → ∃ n, wp_L_walk_72 Qm n (zat T) 0 0 (-1) 0 M1 := fun M1 fr z114 z115 => by
    have L1 : zLw T M1 := L.fr ⟨fun s hs => funext fun j => funext fun k => fr s j k (by omega) (by omega) (by omega), fr 11 0 30 (by decide) (by decide) (by decide)⟩
    obtain ⟨v0, v1, v2, v3, v4, v5⟩ := L1.m
    refine zLoop (σ := Int × Int × Int) (fun n k s => wp_L_walk_72 Qm n (zat T) s.1 s.2.1 s.2.2 k M1) (fun k s => s.1 = zS (fun r => if ¬ T 60 0 r = 1 then zhH T r else 0) 0 k ∧ (0 ≤ s.2.1 ∧ s.2.1 ≤ k) ∧ s.2.2 = (if k ≤ T 64 0 0 ∨ T 64 0 1 = 0 then -1 else if k ≤ T 64 0 0 + T 64 0 1 then k - 1 else T 64 0 0 + T 64 0 1 - 1)) (T 11 0 8) (by omega) (s := (0, 0, -1)) ⟨(zS_self _ (Int.le_refl _)).symm, ⟨Int.le_refl _, Int.le_refl _⟩, (if_pos (Or.inl hm0.1)).symm⟩ (fun n s hs => ?_) (fun n k s k0 k1 hs ih => ?_)
    · obtain ⟨x, y, z⟩ := s
      obtain ⟨hx, hy, hz⟩ := hs
      have hx : x = zS (fun r => if ¬ T 60 0 r = 1 then zhH T r else 0) 0 (T 11 0 8) := hx
      have hz : z = (if T 11 0 8 ≤ T 64 0 0 ∨ T 64 0 1 = 0 then -1 else if T 11 0 8 ≤ T 64 0 0 + T 64 0 1 then T 11 0 8 - 1 else T 64 0 0 + T 64 0 1 - 1) := hz
      have hz : z = if T 64 0 1 = 0 then -1 else T 64 0 0 + T 64 0 1 - 1 := by
        rw [hz]
        by_cases u : T 64 0 1 = 0
        · rw [if_pos (Or.inr u), if_pos u]
        · rw [if_neg (by omega), if_neg u]
          split <;> omega
      show wp_L_walk_72 Qm (n + 1) (zat T) x y z (T 11 0 8) M1
      refine ⟨fun _ => ?_, fun w => absurd w (by rw [v1]; omega)⟩
      rw [v4, v5]
      refine ⟨⟨by omega, by omega⟩, fun w => g190 M1 x z 0 fr z114 z115 (hx.trans hfe) hz (by rw [if_pos (by omega)]), fun w => ?_⟩
      refine j_noteLines hG L1 ?_
      refine g190 M1 x z _ fr z114 z115 (hx.trans hfe) hz ?_
      rw [if_neg (by omega), zalln_eq hG]
      unfold zrnA
      exact zS_congr (fun c _ _ => if_pos (Or.inl (by decide)))
    · obtain ⟨x, y, z⟩ := s
      obtain ⟨hx, hy, hz⟩ := hs
      have hx : x = zS (fun r => if ¬ T 60 0 r = 1 then zhH T r else 0) 0 k := hx
      have hy : 0 ≤ y ∧ y ≤ k := hy
      have hz : z = (if k ≤ T 64 0 0 ∨ T 64 0 1 = 0 then -1 else if k ≤ T 64 0 0 + T 64 0 1 then k - 1 else T 64 0 0 + T 64 0 1 - 1) := hz
      have hb := hfr k k0 (by omega)
      have hb1 := hfr (k + 1) (by omega) (by omega)
      rw [zS_succ _ k0, ← hx] at hb1
      rw [← hx] at hb
      obtain ⟨r1, r2, r3⟩ := L1.r k k0 k1
      obtain ⟨a, b⟩ := zRA_in hG k0 k1
      have eh : M1 113 0 (20 + k) = zhH T k := by rw [fr 113 _ _ (by decide) (by decide) (by decide)]; exact X.2 k k0 k1
      show wp_L_walk_72 Qm (n + 1) (zat T) x y z k M1
      refine ⟨fun w => absurd w (by rw [v1]; omega), fun _ => ?_⟩
      rw [r1, eh, L1.o k k0 k1, (L1.r _ a.1 a.2).1]
      have hy2 : 0 ≤ (if ¬ T 60 0 k = 1 then (0 : Int) else 1) ∧ (if ¬ T 60 0 k = 1 then (0 : Int) else 1) ≤ 1 := by split <;> omega
      refine ⟨⟨by omega, by omega⟩, ⟨by omega, by omega⟩, fun _ => ⟨⟨by omega, by omega⟩, ⟨by omega, by omega⟩, trivial⟩, ⟨by omega, by omega⟩, ⟨by omega, by omega⟩, ⟨by omega, by omega⟩, ⟨by omega, by omega⟩, ⟨by omega, by omega⟩, ⟨by omega, by omega⟩, ⟨by omega, by omega⟩, ⟨by omega, by omega⟩, ih (x + (if ¬ T 60 0 k = 1 then zhH T k else 0), y + (if ¬ T 60 0 k = 1 then (0 : Int) else 1), if ¬ T 60 0 (zRA T k) = 1 then z else k) ⟨?_, ⟨by show 0 ≤ y + (if ¬ T 60 0 k = 1 then (0 : Int) else 1); omega, by show y + (if ¬ T 60 0 k = 1 then (0 : Int) else 1) ≤ k + 1; omega⟩, ?_⟩⟩
      · rw [zS_succ _ k0, hx]
      · show (if ¬ T 60 0 (zRA T k) = 1 then z else k) = (if k + 1 ≤ T 64 0 0 ∨ T 64 0 1 = 0 then -1 else if k + 1 ≤ T 64 0 0 + T 64 0 1 then k + 1 - 1 else T 64 0 0 + T 64 0 1 - 1)
        rcases zRA_body hG k0 k1 with ⟨u, v, w⟩ | ⟨u, v⟩
        · rw [if_neg (fun q => q u), if_neg (by omega), if_pos (by omega)]
          omega
        · rw [if_pos u, hz]
          by_cases q : T 64 0 1 = 0
          · rw [if_pos (Or.inr q), if_pos (Or.inr q)]
          · rcases v with v | v
            · rw [if_pos (Or.inl (by omega)), if_pos (Or.inl (by omega))]
            · rw [if_neg (by omega), if_neg (c := k + 1 ≤ T 64 0 0 ∨ T 64 0 1 = 0) (by omega), if_neg (c := k + 1 ≤ T 64 0 0 + T 64 0 1) (by omega)]
              split <;> omega
  have g50 : ∀ (M1 : Mem), (∀ (s : Nat) (j k : Int), s ≠ 115 → M1 s j k = M s j k) → (∀ k, 0 ≤ k → k < 60 → M1 115 0 k = 0) → ∃ n, wp_L_walk_50 Qm n (zat T) 0 0 (-1) 0 M1 := fun M1 fr z115 => by
    refine zLoop (σ := Mem) (fun n k N => wp_L_walk_50 Qm n (zat T) 0 0 (-1) k N) (fun k N => (∀ (s : Nat) (j i : Int), s ≠ 114 → N s j i = M1 s j i) ∧ ∀ i, 0 ≤ i → i < k → N 114 0 i = 0) 13 (by decide) (s := M1) ⟨fun _ _ _ _ => rfl, fun i a b => by omega⟩ (fun n N h => ?_) (fun n k N k0 k1 h ih => ?_)
    · obtain ⟨h1, h2⟩ := h
      exact ⟨fun _ => g72 N (fun s j k x1 x2 _ => (h1 s j k x1).trans (fr s j k x2)) h2 (fun k a b => (h1 115 0 k (by decide)).trans (z115 k a b)), fun z => absurd z (by decide)⟩
    · obtain ⟨h1, h2⟩ := h
      refine ⟨fun z => absurd z (by omega), fun _ => ⟨⟨by omega, by omega⟩, fun N2 e => ⟨⟨by omega, by omega⟩, ih N2 ⟨fun s j i hs => by rw [e, up_s _ _ _ _ hs]; exact h1 s j i hs, fun i i0 i1 => ?_⟩⟩⟩⟩
      rw [e]
      by_cases q : i = k
      · rw [q, up_eq]
      · rw [up_k _ _ _ _ _ _ q]
        exact h2 i i0 (by omega)
  refine j_sums hG L ?_
  have ea : (if zat T = 0 then (0 : Int) else 1) = zat T := by split <;> omega
  show ∃ n277, wp_L_walk_28 Qm n277 (if zat T = 0 then (0 : Int) else 1) 0 0 (-1) 0 M
  rw [ea]
  refine zLoop (σ := Mem) (fun n k N => wp_L_walk_28 Qm n (zat T) 0 0 (-1) k N) (fun k N => (∀ (s : Nat) (j i : Int), s ≠ 115 → N s j i = M s j i) ∧ ∀ i, 0 ≤ i → i < k → N 115 0 i = 0) 60 (by decide) (s := M) ⟨fun _ _ _ _ => rfl, fun i a b => by omega⟩ (fun n N h => ?_) (fun n k N k0 k1 h ih => ?_)
  · obtain ⟨h1, h2⟩ := h
    exact ⟨fun _ => g50 N h1 h2, fun z => absurd z (by decide)⟩
  · obtain ⟨h1, h2⟩ := h
    refine ⟨fun z => absurd z (by omega), fun _ => ⟨⟨by omega, by omega⟩, fun N2 e => ⟨⟨by omega, by omega⟩, ih N2 ⟨fun s j i hs => by rw [e, up_s _ _ _ _ hs]; exact h1 s j i hs, fun i i0 i1 => ?_⟩⟩⟩⟩
    rw [e]
    by_cases q : i = k
    · rw [q, up_eq]
    · rw [up_k _ _ _ _ _ _ q]
      exact h2 i i0 (by omega)
end EI
