/-! the law's new cells -/
section DE
variable {T M : Mem} {O : zSt} {κ : Nat → Int} {p5 : Int}
theorem zrow_at (hG : Good T) {r i : Int} (r0 : 0 ≤ r) (r1 : r < T 11 0 8) (i0 : 0 ≤ i) (i1 : zpl T r + i < T 11 0 8) : (T 60 0 (zRA T (zpl T r + i)) = T 60 0 r ↔ T 6 r 6 + i < T 64 0 (T 60 0 r)) ∧ (T 6 r 6 + i < T 64 0 (T 60 0 r) → zRA T (zpl T r + i) = zrw T r i) := by
  obtain ⟨p0, p1⟩ := zpl_in hG r0 r1
  obtain ⟨⟨a0, a1⟩, a2⟩ := zRA_in hG (a := zpl T r + i) (by omega) i1
  obtain ⟨b0, -, -, b1, -⟩ := hG.row r r0 r1
  obtain ⟨d0, -, -, d1, -⟩ := hG.row _ a0 a1
  have fw : T 6 r 6 + i < T 64 0 (T 60 0 r) → zRA T (zpl T r + i) = zrw T r i ∧ T 60 0 (zrw T r i) = T 60 0 r := fun h => by
    obtain ⟨x, y, z⟩ := zrw_r hG r0 r1 i0 h
    have e : zpl T (zrw T r i) = zpl T r + i := by
      unfold zpl
      rw [y, z]
      omega
    refine ⟨?_, y⟩
    rw [← e]
    exact (zpl_in hG x.1 x.2).2
  refine ⟨⟨fun h => ?_, fun h => ?_⟩, fun h => (fw h).1⟩
  · have e : zpl T (zRA T (zpl T r + i)) = zoff T (T 60 0 r) + T 6 (zRA T (zpl T r + i)) 6 := by
      show zoff T (T 60 0 (zRA T (zpl T r + i))) + T 6 (zRA T (zpl T r + i)) 6 = _
      rw [h]
    rw [a2] at e
    rw [h] at d1
    have e2 : zpl T r = zoff T (T 60 0 r) + T 6 r 6 := rfl
    omega
  · rw [(fw h).1]
    exact (fw h).2
set_option maxHeartbeats 8000000 in
theorem j_isCell (h : Iv T O κ M) (L : zLw T M) (hz : ∀ s : Nat, (114 ≤ s ∧ s ≤ 117) → κ s = 0) (hR : 0 < T 11 0 8) (q0 : 0 ≤ p5) {Qm : Int → (Nat → Int) → Mem → Prop} (hq : ∀ κ' M', zCn κ' M' → κ' 6 = κ 6 → Qm 1 κ' M') : wp_L_isCell κ p5 M Qm := by
  have k6 : κ 6 = T 11 0 8 := h.2.2.2.2.2.2.2.1.1.2.2
  have hG := h.1
  have hNW := h.2.2.2.2.2.2.2.2.1
  have hn := L.n
  unfold lwN at hn
  have hKn := hG.nK
  obtain ⟨m0, m1, m2, m3, m4, m5⟩ := id L.m
  obtain ⟨h1, h2, h3, h4, h5, h6, h7, h8, h9⟩ := id L
  have hC : 0 < T 11 0 4 := by omega
  have trow := tm_r q0 hR
  have d10 := td_r q0 (by decide : (0 : Int) < 10)
  have tcol := tm_r d10.1 hC
  have d160 := td_r q0 (by decide : (0 : Int) < 160)
  have t3 := tm_r d160.1 (by decide : (0 : Int) < 3)
  have d1440 := td_r q0 (by decide : (0 : Int) < 1440)
  have tw := tm_r d1440.1 hC
  obtain ⟨r, er⟩ : ∃ r, r = Int.tmod p5 (T 11 0 8) := ⟨_, rfl⟩
  obtain ⟨c, ec⟩ : ∃ c, c = Int.tmod (Int.tdiv p5 10) (T 11 0 4) := ⟨_, rfl⟩
  obtain ⟨d, ed⟩ : ∃ d, d = (if ¬ (Int.tmod (Int.tdiv p5 40) 4) = 0 then (1 : Int) else (1 + (Int.tmod (Int.tdiv p5 160) 3))) := ⟨_, rfl⟩
  obtain ⟨w, ew⟩ : ∃ w, w = (if ¬ (Int.tmod (Int.tdiv p5 480) 3) = 0 then (1 : Int) else (1 + (Int.tmod (Int.tdiv p5 1440) (T 11 0 4)))) := ⟨_, rfl⟩
  have hd : 1 ≤ d ∧ d ≤ 3 := by
    rw [ed]
    split <;> omega
  have hw : 1 ≤ w ∧ w ≤ 4 := by
    rw [ew]
    split <;> omega
  unfold wp_L_isCell
  rw [m0, m1, ← er, ← ec, ← ed, ← ew]
  rw [← er] at trow
  rw [← ec] at tcol
  obtain ⟨r0, r1⟩ := trow
  obtain ⟨c0, c1⟩ := tcol
  obtain ⟨⟨f0, f1⟩, f2⟩ := zpl_in hG r0 r1
  obtain ⟨a60, -, -, a6, -⟩ := hG.row r r0 r1
  have hwr := zdw_r hd.1 (by omega : d ≤ 4) hw.1 (by omega : w ≤ 6)
  refine ⟨hR, hC, fun _ => ⟨⟨by omega, by omega⟩, trivial⟩, ⟨by omega, by omega⟩, fun _ => ⟨hC, ⟨by omega, by omega⟩, trivial⟩, ⟨by omega, by omega⟩, j_placeOf hG L r0 r1 ?_⟩
  rw [m0, m1]
  refine ⟨⟨by omega, by omega⟩, fun _ => ⟨⟨by omega, by omega⟩, trivial⟩, ?_⟩
  -- what the class answers, whether it can or not
  have me : zCn κ M := ⟨T, O, h, L, hz⟩
  have h60 : T 69 0 (6 * zRA T (zpl T r) + c) - 1 = T 69 0 (6 * r + c) - 1 := by rw [f2]
  have no : ¬ zFree T r c d w → wp_L_isCell_196 κ p5 Qm r c d w (zpl T r) 0 M := fun hf => by
    have g278 : wp_L_isCell_278 κ p5 Qm r c d w (zpl T r) 0 M := by
      refine n_cell h ⟨r0, r1⟩ ⟨c0, c1⟩ hd.1 (by omega) hw.1 (by omega) (by omega) (fun _ => ?_) (fun z => absurd z hf)
      rw [if_pos rfl]
      refine ⟨fun z => absurd rfl z, ⟨by omega, by omega⟩, fun z => absurd rfl z, fun _ => n_at h ⟨r0, r1⟩ ⟨c0, c1⟩ (j_at hG L f0 f1 c0 c1 ?_)⟩
      rw [h60, if_neg (fun z => z rfl)]
      exact ⟨bit_1, hq κ M me rfl⟩
    have g212 : wp_L_isCell_212 κ p5 Qm r c d w (zpl T r) 0 M := ⟨fun _ => g278, fun z => absurd rfl z⟩
    exact ⟨fun _ => g212, fun _ => ⟨fun _ => g212, fun z => absurd rfl z⟩⟩
  have yes : zFree T r c d w → wp_L_isCell_196 κ p5 Qm r c d w (zpl T r) 1 M := fun hf => by
    refine ⟨fun n10 => ⟨fun z => absurd z (by decide), fun _ => ?_⟩, fun _ => ⟨fun z => absurd z (by decide), fun _ => hq κ M me rfl⟩⟩
    rw [m2] at n10 ⊢
    obtain ⟨n, en⟩ : ∃ n, n = T 11 0 15 := ⟨_, rfl⟩
    rw [← en] at n10 ⊢
    refine ⟨⟨by omega, by omega⟩, ⟨by omega, by omega⟩, fun A1 b1 => ⟨⟨by omega, by omega⟩, ⟨by omega, by omega⟩, fun A2 b2 => ⟨⟨by omega, by omega⟩, ⟨by omega, by omega⟩, fun A3 b3 => ⟨⟨by omega, by omega⟩, ⟨by omega, by omega⟩, fun A4 b4 => ⟨⟨by omega, by omega⟩, ⟨by omega, by omega⟩, fun A5 b5 => ⟨⟨by omega, by omega⟩, ⟨by omega, by omega⟩, fun A6 b6 => ?_⟩⟩⟩⟩⟩⟩
    have a6m : A6 112 = M 112 := by rw [b6, up_ne (by decide), b5, up_ne (by decide), b4, up_ne (by decide), b3, up_ne (by decide), b2, up_ne (by decide), b1, up_ne (by decide)]
    rw [a6m, m2, ← en]
    refine ⟨⟨by omega, by omega⟩, fun A b7 => ?_⟩
    have aN : ∀ q : Nat, q ≠ 112 → q ≠ 107 → A q = M q := fun q x1 x2 => by rw [b7, up_ne x1, b6, up_ne x2, b5, up_ne x2, b4, up_ne x2, b3, up_ne x2, b2, up_ne x2, b1, up_ne x2]
    have aI : Iv T O κ A := h.lw (fun s j i hs => by rw [aN s (by omega) (by omega)])
    have a112 : A 112 0 2 = n + 1 := by rw [b7, up_eq]
    have a112o : ∀ k, k ≠ 2 → A 112 0 k = M 112 0 k := fun k hk => by rw [b7, up_k _ _ _ _ _ _ hk, a6m]
    have a107 : ∀ k, A 107 0 k = if k = 6 * n + 5 then -1 else if k = 6 * n + 4 then 0 else if k = 6 * n + 3 then w else if k = 6 * n + 2 then d else if k = 6 * n + 1 then c else if k = 6 * n then r else M 107 0 k := fun k => by
      rw [b7, up_s _ _ _ _ (by decide), b6, up_at, b5, up_at, b4, up_at, b3, up_at, b2, up_at, b1, up_at]
      have st : ∀ (x v u : Int), (if (107 : Nat) = 107 ∧ (0 : Int) = 0 ∧ k = x then v else u) = if k = x then v else u := fun x v u => by
        by_cases e : k = x
        · rw [if_pos ⟨rfl, rfl, e⟩, if_pos e]
        · rw [if_neg (fun z => e z.2.2), if_neg e]
      rw [st, st, st, st, st, st]
    unfold wp_L_isCell_278
    refine n_cell aI ⟨r0, r1⟩ ⟨c0, c1⟩ hd.1 (by omega) hw.1 (by omega) (by omega) (fun z => absurd hf z) (fun _ T' κ' M' I' s' hκ f15 f11 f65 f66 f67 f68 f69 fT => ?_)
    have e112 := s'.1 112 (by decide)
    have L' : zLw T' M' := by
      have eM : ∀ s : Nat, 104 ≤ s → s ≠ 112 → s ≠ 107 → M' s = M s := fun s x x1 x2 => (s'.1 s (by omega)).trans (aN s x1 x2)
      have z72 := hNW.1 n (by omega) (by omega)
      refine ⟨?_, ?_, h3.cg (f11 4 (by decide)) (fun s a b => fT s (by omega)) (eM 104 (by decide) (by decide) (by decide)), h4.cg (f11 8 (by decide)) (fun s a b => fT s (by omega)) (eM 105 (by decide) (by decide) (by decide)), h5.cg (f11 8 (by decide)) (fT 63 (by decide)) (fT 64 (by decide)) (eM 106 (by decide) (by decide) (by decide)), ?_, ?_, ?_, h9.cg (fun s a => (s'.1 s (by omega)).trans (aN s (by omega) (by omega))) (s'.2.trans (by rw [aN 11 (by decide) (by decide)]))⟩
      · unfold lwM
        rw [e112, f15, f11 4 (by decide), f11 8 (by decide), f11 24 (by decide), f11 25 (by decide), f11 26 (by decide), a112, a112o 0 (by decide), a112o 1 (by decide), a112o 3 (by decide), a112o 4 (by decide), a112o 5 (by decide), en]
        exact ⟨m0, m1, rfl, m3, m4, m5⟩
      · unfold lwN
        rw [f15, f11 4 (by decide), f11 8 (by decide)]
        omega
      · unfold lwT
        rw [f15, s'.1 107 (by decide), fT 73 (by decide), fT 75 (by decide), fT 76 (by decide)]
        intro i i0 i1
        rw [f65, f66, f67, f68, ← en]
        by_cases e : i = n
        · have q1 : (if n = n then r else T 65 0 n) = r := if_pos rfl
          have q2 : (if n = n then c else T 66 0 n) = c := if_pos rfl
          have q3 : (if n = n then d else T 67 0 n) = d := if_pos rfl
          have q4 : (if n = n then w else T 68 0 n) = w := if_pos rfl
          rw [e, q1, q2, q3, q4, a107, a107, a107, a107, a107, a107, z72.2.1, z72.2.2.2.2]
          refine ⟨?_, ?_, ?_, ?_, ?_, ?_⟩
          · rw [if_neg (by omega), if_neg (by omega), if_neg (by omega), if_neg (by omega), if_neg (by omega), if_pos rfl]
          · rw [if_neg (by omega), if_neg (by omega), if_neg (by omega), if_neg (by omega), if_pos rfl]
          · rw [if_neg (by omega), if_neg (by omega), if_neg (by omega), if_pos rfl]
          · rw [if_neg (by omega), if_neg (by omega), if_pos rfl]
          · rw [if_neg (by omega), if_pos rfl]
          · rw [if_pos rfl, if_neg (by decide)]
        · obtain ⟨x0, x1, x2, x3, x4, x5⟩ := h6 i i0 (by omega)
          have o : ∀ j, 0 ≤ j → j < 6 → A 107 0 (6 * i + j) = M 107 0 (6 * i + j) := fun j j0 j1 => by
            rw [a107, if_neg (by omega), if_neg (by omega), if_neg (by omega), if_neg (by omega), if_neg (by omega), if_neg (by omega)]
          have o0 := o 0 (by decide) (by decide)
          rw [Int.add_zero] at o0
          rw [o0, o 1 (by decide) (by decide), o 2 (by decide) (by decide), o 3 (by decide) (by decide), o 4 (by decide) (by decide), o 5 (by decide) (by decide), if_neg e, if_neg e, if_neg e, if_neg e]
          exact ⟨x0, x1, x2, x3, x4, x5⟩
      · unfold lwF
        rw [f15, eM 109 (by decide) (by decide) (by decide), fT 73 (by decide), fT 74 (by decide)]
        intro i i0 i1 hi
        by_cases e : i = n
        · rw [e, z72.2.1] at hi; exact absurd hi (by decide)
        · exact h7 i i0 (by omega) hi
      · obtain ⟨g1, g2⟩ := h8
        unfold lwW
        rw [f15, eM 108 (by decide) (by decide) (by decide), fT 70 (by decide), fT 71 (by decide), fT 72 (by decide)]
        refine ⟨fun i i0 i1 => ?_, fun i i0 i1 => ?_⟩
        · by_cases e : i = n
          · have := (g2 i i0 (by omega)).1 (by omega)
            rw [this, e, z72.1]
            exact ⟨rfl, by decide, fun k a b => by omega⟩
          · exact g1 i i0 (by omega)
        · obtain ⟨x, y⟩ := g2 i i0 i1
          exact ⟨fun z => x (by omega), y⟩
    have eRA : zRA T' (zpl T r) = r := by rw [zRA_cg (fT 63 (by decide)) (fT 64 (by decide)), f2]
    rw [if_neg (by decide), e112, a112, ← en, show n + 1 - 1 = n by omega]
    refine ⟨fun _ => ⟨⟨by omega, by omega⟩, trivial⟩, ⟨by omega, by omega⟩, fun z => absurd rfl z, fun _ => ?_⟩
    have e8' := f11 8 (by decide)
    have e4' := f11 4 (by decide)
    refine n_at I' (by rw [e8']; exact ⟨r0, r1⟩) (by rw [e4']; exact ⟨c0, c1⟩) (j_at I'.1 L' f0 (by rw [e8']; exact f1) c0 (by rw [e4']; exact c1) ?_)
    rw [eRA, if_neg (fun z => z rfl)]
    exact ⟨bit_1, hq κ' M' ⟨T', O, I', L', fun s hs => (hκ s (by omega)).trans (hz s hs)⟩ (by rw [I'.2.2.2.2.2.2.2.1.1.2.2, f11 8 (by decide), k6])⟩
  have hfree_in : zFree T r c d w → zpl T r + d ≤ T 11 0 8 := fun hf => by
    obtain ⟨x, y, z⟩ := zrw_r hG r0 r1 (i := d - 1) (by omega) (by have := hf.1.1; omega)
    have e : zpl T (zrw T r (d - 1)) = zpl T r + (d - 1) := by
      unfold zpl
      rw [y, z]
      omega
    have := (zpl_in hG x.1 x.2).1
    omega
  obtain ⟨cn, ecn⟩ : ∃ cn, cn = (if T 11 0 4 < c + w then (0 : Int) else (if T 11 0 8 < zpl T r + d then (0 : Int) else 1)) := ⟨_, rfl⟩
  have hcn : (cn = 0 ∧ ¬ zFree T r c d w) ∨ (cn = 1 ∧ c + w ≤ T 11 0 4 ∧ zpl T r + d ≤ T 11 0 8) := by
    rw [ecn]
    by_cases x : T 11 0 4 < c + w
    · rw [if_pos x]
      exact Or.inl ⟨rfl, fun hf => by have := hf.1.2; omega⟩
    · rw [if_neg x]
      by_cases y : T 11 0 8 < zpl T r + d
      · rw [if_pos y]
        exact Or.inl ⟨rfl, fun hf => by have := hfree_in hf; omega⟩
      · rw [if_neg y]
        exact Or.inr ⟨rfl, by omega, by omega⟩
  rw [← ecn]
  rcases hcn with ⟨e0, hf⟩ | ⟨e1, hcw, hfd⟩
  · rw [e0]
    exact ⟨1, ⟨by omega, by omega⟩, fun _ => no hf, fun _ => ⟨fun _ => no hf, fun z => absurd rfl z⟩⟩
  rw [e1]
  refine zLoop (σ := Int) (fun f k s => wp_L_isCell_119 κ p5 Qm f r c d w (zpl T r) s k M) (fun k s => (s = 1 ∧ ∀ i, 0 ≤ i → i < k → T 60 0 (zRA T (zpl T r + i / w)) = T 60 0 r ∧ T 69 0 (6 * zRA T (zpl T r + i / w) + (c + i % w)) = 0) ∨ (s = 0 ∧ ¬ zFree T r c d w)) (d * w) (by omega) (s := 1) (Or.inl ⟨rfl, fun i a b => by omega⟩) (fun f s hs => ?_) (fun f k s k0 k1 hs ih => ?_)
  · refine ⟨⟨by omega, by omega⟩, fun _ => ?_, fun z => absurd z (by omega)⟩
    rcases hs with ⟨es, hall⟩ | ⟨es, hf⟩
    · rw [es]
      refine yes ⟨⟨?_, hcw⟩, fun i j i0 i1 j0 j1 => ?_⟩
      · have hl : (d - 1) * w < d * w := by
          have : (d - 1) * w = d * w - w := by rw [Int.sub_mul, Int.one_mul]
          omega
        have hl0 : 0 ≤ (d - 1) * w := Int.mul_nonneg (by omega) (by omega)
        have := (hall ((d - 1) * w) hl0 hl).1
        rw [Int.mul_ediv_cancel _ (by omega : w ≠ 0)] at this
        have := ((zrow_at hG r0 r1 (i := d - 1) (by omega) (by omega)).1).1 this
        omega
      · have hl0 : 0 ≤ w * i := Int.mul_nonneg (by omega) i0
        have hl1 : w * i + j < d * w := by
          have : w * i ≤ w * (d - 1) := Int.mul_le_mul_of_nonneg_left (by omega) (by omega)
          have e : w * (d - 1) = d * w - w := by rw [Int.mul_sub, Int.mul_one, Int.mul_comm]
          omega
        have ed : (w * i + j) / w = i := by
          rw [Int.add_comm, Int.add_mul_ediv_left _ _ (by omega : w ≠ 0), Int.ediv_eq_zero_of_lt j0 j1, Int.zero_add]
        have em : (w * i + j) % w = j := by
          rw [Int.add_comm, Int.add_mul_emod_self_left, Int.emod_eq_of_lt j0 j1]
        obtain ⟨x, y⟩ := hall (w * i + j) (by omega) hl1
        rw [ed] at x y
        rw [em] at y
        have za := zrow_at hG r0 r1 (i := i) i0 (by omega)
        rw [za.2 (za.1.1 x)] at y
        rw [show 6 * zrw T r i + c + j = 6 * zrw T r i + (c + j) by omega]
        exact y
    · rw [es]; exact no hf
  · obtain ⟨⟨x0, x1⟩, ⟨y0, y1⟩, ex, ey⟩ := zdm k0 k1 hw.1
    refine ⟨⟨by omega, by omega⟩, fun z => absurd z (by omega), fun _ => ?_⟩
    rcases hs with ⟨es, hall⟩ | ⟨es, hf⟩
    · rw [es, ex, ey]
      obtain ⟨⟨u0, u1⟩, u2⟩ := zRA_in hG (a := zpl T r + k / w) (by omega) (by omega)
      obtain ⟨v0, -⟩ := L.r _ u0 u1
      obtain ⟨v1, -⟩ := L.r r r0 r1
      have za := zrow_at hG r0 r1 (i := k / w) x0 (by omega)
      rw [L.o _ (by omega) (by omega), v0, v1]
      refine ⟨fun z => absurd z (by decide), fun _ => ⟨by omega, ⟨by omega, by omega⟩, ⟨by omega, by omega⟩, ⟨by omega, by omega⟩, ⟨by omega, by omega⟩, ⟨by omega, by omega⟩, ⟨by omega, by omega⟩, fun hne => ⟨⟨by omega, by omega⟩, ih 0 (Or.inr ⟨rfl, fun hf => hne (za.1.2 (by have := hf.1.1; omega))⟩)⟩, fun heq => ⟨by omega, ⟨by omega, by omega⟩, by omega, ⟨by omega, by omega⟩, j_at hG L (by omega) (by omega) (by omega) (by omega) ⟨⟨by omega, by omega⟩, ih _ ?_⟩⟩⟩⟩
      have hpl := (hG.pl _ (c + k % w) u0 u1 (by omega) (by omega)).1
      by_cases z : 0 ≤ T 69 0 (6 * zRA T (zpl T r + k / w) + (c + k % w)) - 1
      · rw [if_pos z]
        refine Or.inr ⟨rfl, fun hf => ?_⟩
        have := hf.2 (k / w) (k % w) x0 x1 y0 y1
        rw [← za.2 (za.1.1 heq), show 6 * zRA T (zpl T r + k / w) + c + k % w = 6 * zRA T (zpl T r + k / w) + (c + k % w) by omega] at this
        omega
      · rw [if_neg z]
        refine Or.inl ⟨rfl, fun i i0 i1 => ?_⟩
        by_cases e : i = k
        · rw [e]
          exact ⟨heq, by omega⟩
        · exact hall i i0 (by omega)
    · rw [es]
      exact ⟨fun _ => no hf, fun z => absurd rfl z⟩
end DE
