/-! the law's new rows -/
section DD
variable {T M : Mem} {O : zSt} {κ : Nat → Int} {p4 : Int}
theorem zS_partp (hG : Good T) {p : Int} (p0 : 0 ≤ p) (p2 : p ≤ 2) (f : Int → Int) : zS (fun r => if T 60 0 r = p then f r else 0) 0 (T 11 0 8) = zS (fun m => f (T 63 0 (24 * p + m))) 0 (T 64 0 p) := by
  have hm := hG.many p0 p2
  have hR := hG.nR
  have e1 : zS (fun r => if T 60 0 r = p then f r else 0) 0 (T 11 0 8) = zS (fun r => zS (fun m => if r = T 63 0 (24 * p + m) then f r else 0) 0 (T 64 0 p)) 0 (T 11 0 8) := zS_congr (fun r r0 r1 => by
    obtain ⟨a, -, -, b, c⟩ := hG.row r r0 r1
    by_cases z : T 60 0 r = p
    · rw [if_pos z]
      rw [z] at b c
      have : zS (fun m => if r = T 63 0 (24 * p + m) then f r else 0) 0 (T 64 0 p) = zS (fun m => if m = T 6 r 6 then f r else 0) 0 (T 64 0 p) := zS_congr (fun m m0 m1 => by
        obtain ⟨x, y, v⟩ := hG.ord p m p0 p2 m0 m1
        by_cases e : r = T 63 0 (24 * p + m)
        · have em : m = T 6 r 6 := by rw [e]; exact v.symm
          rw [if_pos e, if_pos em]
        · rw [if_neg e, if_neg (fun em => e (by rw [em]; exact c.symm))])
      rw [this, zS_one b.1 b.2]
    · rw [if_neg z]
      exact (zS_zero (fun m m0 m1 => if_neg (fun e => z (by rw [e]; exact (hG.ord p m p0 p2 m0 m1).2.1)))).symm)
  rw [e1, zS_comm _ hR.1 hm.1]
  exact zS_congr (fun m m0 m1 => by
    have x := (hG.ord p m p0 p2 m0 m1).1
    have : zS (fun r => if r = T 63 0 (24 * p + m) then f r else 0) 0 (T 11 0 8) = zS (fun r => if r = T 63 0 (24 * p + m) then f (T 63 0 (24 * p + m)) else 0) 0 (T 11 0 8) := zS_congr (fun r _ _ => by
      by_cases e : r = T 63 0 (24 * p + m)
      · rw [if_pos e, if_pos e, e]
      · rw [if_neg e, if_neg e])
    rw [this]
    exact zS_one x.1 x.2)
theorem zS_cnt (hG : Good T) {p : Int} (p0 : 0 ≤ p) (p2 : p ≤ 2) : zS (fun r => if T 60 0 r = p then 1 else 0) 0 (T 11 0 8) = T 64 0 p := by
  rw [zS_partp hG p0 p2 (fun _ => 1)]
  have hm := hG.many p0 p2
  have := zS_bd (f := fun _ : Int => (1 : Int)) (a := 0) (b := T 64 0 p) 1 1 hm.1 (fun _ _ _ => ⟨by omega, by omega⟩)
  omega
theorem zS_cntle (hG : Good T) {p : Int} (p0 : 0 ≤ p) (p2 : p ≤ 2) : zS (fun r => if p < T 60 0 r then 0 else 1) 0 (T 11 0 8) = zoff T p + T 64 0 p := by
  have c0 := zS_cnt hG (p := 0) (by decide) (by decide)
  have c1 := zS_cnt hG (p := 1) (by decide) (by decide)
  have c2 := zS_cnt hG (p := 2) (by decide) (by decide)
  have hr := fun r r0 r1 => (hG.row r r0 r1).1
  rcases (by omega : p = 0 ∨ p = 1 ∨ p = 2) with e | e | e
  · rw [e, show zoff T 0 = 0 from rfl, ← c0, Int.zero_add]
    exact zS_congr (fun r r0 r1 => by
      have := hr r r0 r1
      by_cases z : T 60 0 r = 0
      · rw [if_neg (by omega), if_pos z]
      · rw [if_pos (by omega), if_neg z])
  · rw [e, show zoff T 1 = T 64 0 0 from rfl, ← c1, ← c0, ← zS_add]
    exact zS_congr (fun r r0 r1 => by
      have := hr r r0 r1
      rcases (by omega : T 60 0 r = 0 ∨ T 60 0 r = 1 ∨ T 60 0 r = 2) with z | z | z <;> rw [z] <;> rfl)
  · rw [e, show zoff T 2 = T 64 0 0 + T 64 0 1 from rfl, ← c2, ← c1, ← c0, ← zS_add, ← zS_add]
    exact zS_congr (fun r r0 r1 => by
      have := hr r r0 r1
      rcases (by omega : T 60 0 r = 0 ∨ T 60 0 r = 1 ∨ T 60 0 r = 2) with z | z | z <;> rw [z] <;> rfl)
/-- places of rows with one more -/
theorem zRA_new (hG : Good T) {T' : Mem} {p n : Int} (p0 : 0 ≤ p) (p2 : p ≤ 2) (f63 : ∀ k, T' 63 0 k = if k = 24 * p + T 64 0 p then n else T 63 0 k) (f64 : ∀ k, T' 64 0 k = if k = p then T 64 0 p + 1 else T 64 0 k) (hm : p = 1 → T 64 0 1 < 24) {q : Int} (q0 : 0 ≤ q) (q1 : q ≤ T 11 0 8) : zRA T' q = if q < zoff T p + T 64 0 p then zRA T q else if q = zoff T p + T 64 0 p then n else zRA T (q - 1) := by
  obtain ⟨-, -, -, -, -, -, -, g0, g1, g2, gs, -⟩ := hG.n
  unfold zRA
  rw [if_neg (show ¬ q < 0 by omega), if_neg (show ¬ q < 0 by omega)]
  rcases (by omega : p = 0 ∨ p = 1 ∨ p = 2) with e | e | e
  · have a0 : T' 64 0 0 = T 64 0 0 + 1 := by rw [f64, if_pos e.symm, e]
    have a1 : T' 64 0 1 = T 64 0 1 := by rw [f64, if_neg (by omega)]
    have a2 : T' 64 0 2 = T 64 0 2 := by rw [f64, if_neg (by omega)]
    rw [a0, a1, a2, e, show zoff T 0 = 0 from rfl]
    rw [e] at f63
    by_cases l : q < T 64 0 0
    · rw [if_pos (by omega), if_pos (by omega), f63, if_neg (by omega), if_pos l]
    · by_cases l2 : q = T 64 0 0
      · rw [if_pos (by omega), f63, if_pos (by omega), if_neg (by omega), if_pos (by omega)]
      · rw [if_neg (by omega), if_neg (show ¬ q < 0 + T 64 0 0 by omega), if_neg (show ¬ q = 0 + T 64 0 0 by omega), if_neg (show ¬ q - 1 < 0 by omega), if_neg (show ¬ q - 1 < T 64 0 0 by omega)]
        by_cases l3 : q - 1 < T 64 0 0 + T 64 0 1
        · rw [if_pos (by omega), if_pos l3, f63, if_neg (by omega)]
          exact congrArg (T 63 0) (by omega)
        · rw [if_neg (by omega), if_neg l3, if_pos (by omega), if_pos (by omega), f63, if_neg (by omega)]
          exact congrArg (T 63 0) (by omega)
  · have a0 : T' 64 0 0 = T 64 0 0 := by rw [f64, if_neg (by omega)]
    have a1 : T' 64 0 1 = T 64 0 1 + 1 := by rw [f64, if_pos e.symm, e]
    have a2 : T' 64 0 2 = T 64 0 2 := by rw [f64, if_neg (by omega)]
    have hm1 := hm e
    rw [a0, a1, a2, e, show zoff T 1 = T 64 0 0 from rfl]
    rw [e] at f63
    by_cases l : q < T 64 0 0
    · rw [if_pos l, if_pos (by omega), f63, if_neg (by omega), if_pos l]
    · rw [if_neg l]
      by_cases l2 : q < T 64 0 0 + T 64 0 1
      · rw [if_pos (by omega), if_pos l2, f63, if_neg (by omega), if_neg l, if_pos l2]
      · by_cases l3 : q = T 64 0 0 + T 64 0 1
        · rw [if_pos (by omega), f63, if_pos (by omega), if_neg l2, if_pos l3]
        · rw [if_neg (by omega), if_pos (by omega), if_neg l2, if_neg l3, if_neg (by omega), if_neg (by omega), if_neg (by omega), if_pos (by omega), f63, if_neg (by omega)]
          exact congrArg (T 63 0) (by omega)
  · have a0 : T' 64 0 0 = T 64 0 0 := by rw [f64, if_neg (by omega)]
    have a1 : T' 64 0 1 = T 64 0 1 := by rw [f64, if_neg (by omega)]
    have a2 : T' 64 0 2 = T 64 0 2 + 1 := by rw [f64, if_pos e.symm, e]
    rw [a0, a1, a2, e, show zoff T 2 = T 64 0 0 + T 64 0 1 from rfl]
    rw [e] at f63
    by_cases l : q < T 64 0 0
    · rw [if_pos l, if_pos (by omega), f63, if_neg (by omega), if_pos l]
    · rw [if_neg l]
      by_cases l2 : q < T 64 0 0 + T 64 0 1
      · rw [if_pos l2, if_pos (by omega), f63, if_neg (by omega), if_neg l, if_pos l2]
      · rw [if_neg l2, if_pos (by omega), f63]
        by_cases l3 : q = T 64 0 0 + T 64 0 1 + T 64 0 2
        · rw [if_pos (by omega), if_neg (by omega), if_pos l3]
        · rw [if_neg (by omega), if_pos (by omega), if_neg l, if_neg l2, if_pos (by omega)]
theorem mrp_pos (hG : Good T) {p : Int} (hp : 0 ≤ p ∧ p ≤ 2) (h : mrpI p ≤ T 64 0 p) : 0 < T 11 0 8 := by
  obtain ⟨-, -, -, -, -, -, -, g0, g1, g2, gs, -⟩ := hG.n
  rcases (by omega : p = 0 ∨ p = 1 ∨ p = 2) with rfl | rfl | rfl
  · have e : mrpI 0 = 3 := by decide
    omega
  · have e : mrpI 1 = 24 := by decide
    omega
  · have e : mrpI 2 = 2 := by decide
    omega
set_option maxHeartbeats 8000000 in
theorem j_isRow (h : Iv T O κ M) (L : zLw T M) (hz : ∀ s : Nat, (114 ≤ s ∧ s ≤ 117) → κ s = 0) (q0 : 0 ≤ p4) {Qm : Int → (Nat → Int) → Mem → Prop} (hq : ∀ κ' M', zCn κ' M' → 0 < κ' 6 → Qm 1 κ' M') : wp_L_isRow κ p4 M Qm := by
  have k6 : κ 6 = T 11 0 8 := h.2.2.2.2.2.2.2.1.1.2.2
  have hG := h.1
  have hn := L.n
  unfold lwN at hn
  obtain ⟨m0, m1, m2, m3, m4, m5⟩ := id L.m
  obtain ⟨h1, h2, h3, h4, h5, h6, h7, h8, h9⟩ := id L
  have t5 := tm_r q0 (by decide : (0 : Int) < 5)
  have d5 := td_r q0 (by decide : (0 : Int) < 5)
  have tg := tm_r d5.1 (by decide : (0 : Int) < 3)
  obtain ⟨p, ep⟩ : ∃ p, p = (if ¬ (Int.tmod p4 5) = 0 then (if ¬ (Int.tmod p4 5) = 1 then (1 : Int) else 2) else 0) := ⟨_, rfl⟩
  have hp : 0 ≤ p ∧ p ≤ 2 := by
    rw [ep]
    repeat' split
    all_goals omega
  obtain ⟨g, eg⟩ : ∃ g, g = Int.tmod (Int.tdiv p4 5) 3 := ⟨_, rfl⟩
  obtain ⟨b, eb⟩ : ∃ b, b = (if (Int.tmod (Int.tdiv p4 15) 3) ≤ 0 then (0 : Int) else 1) := ⟨_, rfl⟩
  have hb : bit b := by rw [eb]; split; exact bit_0; exact bit_1
  have hb' := bit_r hb
  unfold wp_L_isRow
  rw [← ep, ← eg]
  rw [← eg] at tg
  obtain ⟨n, en⟩ : ∃ n, n = T 11 0 8 := ⟨_, rfl⟩
  obtain ⟨at', eat⟩ : ∃ a, a = zoff T p + T 64 0 p := ⟨_, rfl⟩
  have hmany := hG.many hp.1 hp.2
  have hat : 0 ≤ at' ∧ at' ≤ n := by
    obtain ⟨-, -, -, -, -, -, -, g0, g1, g2, gs, -⟩ := hG.n
    rw [eat, en]
    rcases (by omega : p = 0 ∨ p = 1 ∨ p = 2) with e | e | e
    · rw [e, show zoff T 0 = 0 from rfl]; omega
    · rw [e, show zoff T 1 = T 64 0 0 from rfl]; omega
    · rw [e, show zoff T 2 = T 64 0 0 + T 64 0 1 from rfl]; omega
  refine zLoop (σ := Int × Int) (fun n k s => wp_L_isRow_43 κ p4 Qm n p g s.1 s.2 k M) (fun k s => s.1 = zS (fun r => if p < T 60 0 r then 0 else 1) 0 k ∧ s.2 = zS (fun r => if T 60 0 r = p then 1 else 0) 0 k) (T 11 0 8) hG.nR.1 (s := (0, 0)) ⟨(zS_self _ (Int.le_refl _)).symm, (zS_self _ (Int.le_refl _)).symm⟩ (fun f s hs => ?_) (fun f k s k0 k1 hs ih => ?_)
  rotate_left
  · obtain ⟨y7, y8⟩ := s
    obtain ⟨e7, e8⟩ := hs
    have e7 : y7 = zS (fun r => if p < T 60 0 r then 0 else 1) 0 k := e7
    have e8 : y8 = zS (fun r => if T 60 0 r = p then 1 else 0) 0 k := e8
    obtain ⟨r0, -⟩ := L.r k k0 k1
    have b7 := zS_bd (f := fun r => if p < T 60 0 r then (0 : Int) else 1) (a := 0) (b := k) 0 1 k0 (fun i _ _ => by split <;> omega)
    have b8 := zS_bd (f := fun r => if T 60 0 r = p then (1 : Int) else 0) (a := 0) (b := k) 0 1 k0 (fun i _ _ => by split <;> omega)
    rw [← e7] at b7
    rw [← e8] at b8
    have v7 : 0 ≤ (if p < T 60 0 k then (0 : Int) else 1) ∧ (if p < T 60 0 k then (0 : Int) else 1) ≤ 1 := by split <;> omega
    have v8 : (if ¬ T 60 0 k = p then (0 : Int) else 1) = (if T 60 0 k = p then 1 else 0) := by
      by_cases z : T 60 0 k = p
      · rw [if_neg (fun y => y z), if_pos z]
      · rw [if_pos z, if_neg z]
    have v8b : 0 ≤ (if T 60 0 k = p then (1 : Int) else 0) ∧ (if T 60 0 k = p then (1 : Int) else 0) ≤ 1 := by split <;> omega
    show wp_L_isRow_43 κ p4 Qm (f + 1) p g y7 y8 k M
    refine ⟨fun z => absurd z (by rw [m1]; omega), fun _ => ?_⟩
    rw [r0, v8]
    refine ⟨⟨by omega, by omega⟩, ⟨by omega, by omega⟩, ⟨by omega, by omega⟩, ⟨by omega, by omega⟩, ⟨by omega, by omega⟩, ⟨by omega, by omega⟩, ⟨by omega, by omega⟩, ih (y7 + _, y8 + _) ⟨?_, ?_⟩⟩
    · rw [zS_succ _ k0, ← e7]
    · rw [zS_succ _ k0, ← e8]
  obtain ⟨y7, y8⟩ := s
  obtain ⟨e7, e8⟩ := hs
  have e7 : y7 = zS (fun r => if p < T 60 0 r then 0 else 1) 0 (T 11 0 8) := e7
  have e8 : y8 = zS (fun r => if T 60 0 r = p then 1 else 0) 0 (T 11 0 8) := e8
  rw [zS_cntle hG hp.1 hp.2, ← eat] at e7
  rw [zS_cnt hG hp.1 hp.2] at e8
  show wp_L_isRow_43 κ p4 Qm (f + 1) p g y7 y8 (T 11 0 8) M
  refine ⟨fun _ => ?_, fun z => absurd z (by rw [m1]; omega)⟩
  rw [e7, e8, mrpI_e, m1, ← en]
  obtain ⟨cn, ecn⟩ : ∃ c, c = (if mrpI p ≤ T 64 0 p then (0 : Int) else 1) := ⟨_, rfl⟩
  have hcn : (cn = 0 ∧ mrpI p ≤ T 64 0 p) ∨ (cn = 1 ∧ T 64 0 p < mrpI p) := by
    rw [ecn]
    split
    · exact Or.inl ⟨rfl, by omega⟩
    · exact Or.inr ⟨rfl, by omega⟩
  rw [← ecn]
  have me : zCn κ M := ⟨T, O, h, L, hz⟩
  have go : n < 10 ∨ cn = 0 → wp_L_isRow_147 κ p4 Qm p g at' cn M := fun hor => by
    refine ⟨fun z => ?_, fun z => ?_⟩
    · unfold wp_L_isRow_254
      rw [← eb]
      refine n_row h hp.1 hp.2 tg.1 (by omega) hb (by omega) (fun _ => ?_) (fun y => by omega)
      rw [z, if_pos rfl, if_neg (fun y => y rfl)]
      exact ⟨fun y => absurd rfl y, ⟨by omega, by omega⟩, bit_1, hq κ M me (by rw [k6]; exact mrp_pos hG hp (by omega))⟩
    · have hc1 : cn = 1 := by omega
      have n10 : n < 10 := by omega
      rw [m1, ← en]
      -- the order makes room
      refine zWhile (σ := Mem × Int) (fun f s => wp_L_isRow_157 κ p4 Qm f p g at' cn s.2 s.1) (fun s => (at' ≤ s.2 ∧ s.2 ≤ n) ∧ (∀ q : Nat, q ≠ 106 → s.1 q = M q) ∧ ∀ k, 0 ≤ k → k ≤ n → s.1 106 0 k = if s.2 < k then M 106 0 (k - 1) else M 106 0 k) (fun s => (s.2 - at').toNat) (fun f s hs ih => ?_) (M, n) ⟨⟨hat.2, Int.le_refl _⟩, fun _ _ => rfl, fun k a c => by show M 106 0 k = if n < k then M 106 0 (k - 1) else M 106 0 k; rw [if_neg (by omega)]⟩
      obtain ⟨N, y⟩ := s
      obtain ⟨⟨hy0, hy1⟩, hN, hv⟩ := hs
      have hy0 : at' ≤ y := hy0
      have hy1 : y ≤ n := hy1
      have hN : ∀ q : Nat, q ≠ 106 → N q = M q := hN
      have hv : ∀ k, 0 ≤ k → k ≤ n → N 106 0 k = if y < k then M 106 0 (k - 1) else M 106 0 k := hv
      have n112 : N 112 = M 112 := hN 112 (by decide)
      show wp_L_isRow_157 κ p4 Qm (f + 1) p g at' cn y N
      refine ⟨fun hle => ?_, fun hlt => ⟨⟨by omega, by omega⟩, ⟨by omega, by omega⟩, ⟨by omega, by omega⟩, fun N2 e2 => ⟨⟨by omega, by omega⟩, ih (N2, y + (-1)) ⟨⟨by show at' ≤ y + -1; omega, by show y + -1 ≤ n; omega⟩, fun q hq => by show N2 q = M q; rw [e2, up_ne hq]; exact hN q hq, fun k a c => ?_⟩ (by show (y + -1 - at').toNat < (y - at').toNat; omega)⟩⟩⟩
      · have ey : y = at' := by omega
        rw [n112, m1, ← en]
        refine ⟨⟨by omega, by omega⟩, fun A1 a1 => ?_⟩
        have p1 : A1 112 = M 112 := by rw [a1, up_ne (by decide)]; exact n112
        rw [p1, m1, ← en]
        refine ⟨⟨by omega, by omega⟩, ⟨by omega, by omega⟩, fun A2 a2 => ?_⟩
        have p2 : A2 112 = M 112 := by rw [a2, up_ne (by decide)]; exact p1
        rw [p2, m1, ← en]
        refine ⟨⟨by omega, by omega⟩, ⟨by omega, by omega⟩, ⟨by omega, by omega⟩, fun A3 a3 => ?_⟩
        have p3 : A3 112 = M 112 := by rw [a3, up_ne (by decide)]; exact p2
        rw [p3, m1, ← en, ← eb]
        refine ⟨⟨by omega, by omega⟩, ⟨by omega, by omega⟩, ⟨by omega, by omega⟩, fun A4 a4 => ?_⟩
        have p4' : A4 112 = M 112 := by rw [a4, up_ne (by decide)]; exact p3
        rw [p4', m1, ← en]
        refine ⟨⟨by omega, by omega⟩, fun A a5 => ?_⟩
        have aN : ∀ q : Nat, q ≠ 112 → q ≠ 105 → q ≠ 106 → A q = M q := fun q x1 x2 x3 => by rw [a5, up_ne x1, a4, up_ne x2, a3, up_ne x2, a2, up_ne x2, a1, up_ne x3]; exact hN q x3
        have aI : Iv T O κ A := h.lw (fun s j i hs => by rw [aN s (by omega) (by omega) (by omega)])
        have a106 : ∀ k, 0 ≤ k → k ≤ n → A 106 0 k = if k < at' then M 106 0 k else if k = at' then n else M 106 0 (k - 1) := fun k x1 x2 => by
          rw [a5, up_s _ _ _ _ (by decide), a4, up_s _ _ _ _ (by decide), a3, up_s _ _ _ _ (by decide), a2, up_s _ _ _ _ (by decide), a1, up_at]
          by_cases e : k = at'
          · rw [if_pos ⟨rfl, rfl, e⟩, if_neg (by omega), if_pos e]
          · rw [if_neg (by omega), hv k x1 x2, ey]
            by_cases l : k < at'
            · rw [if_neg (by omega), if_pos l]
            · rw [if_pos (by omega), if_neg l, if_neg e]
        have a105 : ∀ k, A 105 0 k = if k = 3 * n + 2 then (if ¬ p = 1 then (0 : Int) else b) else if k = 3 * n + 1 then (if ¬ p = 1 then (0 : Int) else g) else if k = 3 * n then p else M 105 0 k := fun k => by
          rw [a5, up_s _ _ _ _ (by decide), a4, up_at, a3, up_at, a2, up_at, a1, up_s _ _ _ _ (by decide), hN 105 (by decide)]
          by_cases e1 : k = 3 * n + 2
          · rw [if_pos ⟨rfl, rfl, e1⟩, if_pos e1]
          · rw [if_neg (fun z => e1 z.2.2), if_neg e1]
            by_cases e2 : k = 3 * n + 1
            · rw [if_pos ⟨rfl, rfl, e2⟩, if_pos e2]
            · rw [if_neg (fun z => e2 z.2.2), if_neg e2]
              by_cases e3 : k = 3 * n
              · rw [if_pos ⟨rfl, rfl, e3⟩, if_pos e3]
              · rw [if_neg (fun z => e3 z.2.2), if_neg e3]
        have a112 : A 112 0 1 = n + 1 := by rw [a5, up_eq]
        have a112o : ∀ k, k ≠ 1 → A 112 0 k = M 112 0 k := fun k hk => by rw [a5, up_k _ _ _ _ _ _ hk, p4']
        unfold wp_L_isRow_254
        rw [← eb]
        refine n_row aI hp.1 hp.2 tg.1 (by omega) hb (by omega) (fun y => by omega) (fun hfull T' κ' M' I' s' hκ f8 f11 f60 f61 f62 f63 f64 f6 fT => ?_)
        have e112 := s'.1 112 (by decide)
        rw [e112, a112, hc1, if_neg (by decide), ← en, show n + 1 - 1 = n by omega, if_neg (fun y => y rfl)]
        refine ⟨fun _ => ⟨⟨by omega, by omega⟩, trivial⟩, ⟨by omega, by omega⟩, bit_1, hq κ' M' ⟨T', O, I', ?_, fun s hs => (hκ s (by omega)).trans (hz s hs)⟩ (by rw [I'.2.2.2.2.2.2.2.1.1.2.2, f8]; omega)⟩
        have eM : ∀ s : Nat, 104 ≤ s → s ≠ 112 → s ≠ 105 → s ≠ 106 → M' s = M s := fun s x x1 x2 x3 => (s'.1 s (by omega)).trans (aN s x1 x2 x3)
        have eT : ∀ s : Nat, (56 ≤ s ∧ s ≤ 59) ∨ (65 ≤ s ∧ s ≤ 76) → T' s = T s := fT
        refine ⟨?_, ?_, h3.cg (f11 4 (by decide)) (fun s a b => eT s (by omega)) (eM 104 (by decide) (by decide) (by decide) (by decide)), ?_, ?_, h6.cg (f11 15 (by decide)) (fun s a => eT s (by omega)) (eM 107 (by decide) (by decide) (by decide) (by decide)), h7.cg (f11 15 (by decide)) (fun s a => eT s (by omega)) (eM 109 (by decide) (by decide) (by decide) (by decide)), h8.cg (f11 15 (by decide)) (fun s a => eT s (by omega)) (eM 108 (by decide) (by decide) (by decide) (by decide)), h9.cg (fun s a => (s'.1 s (by omega)).trans (aN s (by omega) (by omega) (by omega))) (s'.2.trans (by rw [aN 11 (by decide) (by decide) (by decide)]))⟩
        · unfold lwM
          rw [e112, f8, f11 4 (by decide), f11 15 (by decide), f11 24 (by decide), f11 25 (by decide), f11 26 (by decide), a112, a112o 0 (by decide), a112o 2 (by decide), a112o 3 (by decide), a112o 4 (by decide), a112o 5 (by decide), en]
          exact ⟨m0, rfl, m2, m3, m4, m5⟩
        · unfold lwN
          rw [f8, f11 4 (by decide), f11 15 (by decide)]
          omega
        · unfold lwR
          rw [f8, s'.1 105 (by decide)]
          intro r r0 r1
          rw [a105, a105, a105, f60, f61, f62, ← en]
          by_cases e : r = n
          · rw [e, if_neg (by omega), if_neg (by omega), if_pos rfl, if_pos rfl, if_neg (by omega), if_pos rfl, if_pos rfl, if_pos rfl, if_pos rfl]
            refine ⟨rfl, ?_, ?_⟩
            · by_cases z : p = 1
              · rw [if_neg (fun y => y z), if_pos z]
              · rw [if_pos z, if_neg z]
            · by_cases z : p = 1
              · rw [if_neg (fun y => y z), if_pos z]
              · rw [if_pos z, if_neg z]
          · obtain ⟨x, y, v⟩ := h4 r r0 (by omega)
            rw [if_neg e, if_neg e, if_neg e, if_neg (by omega), if_neg (by omega), if_neg (by omega), if_neg (by omega), if_neg (by omega), if_neg (by omega), if_neg (by omega), if_neg (by omega), if_neg (by omega)]
            exact ⟨x, y, v⟩
        · unfold lwO
          rw [f8, s'.1 106 (by decide)]
          intro q x0 x1
          rw [← en] at f63
          rw [a106 q x0 (by omega), zRA_new hG hp.1 hp.2 f63 f64 (fun z => by rw [z] at hfull; exact hfull) x0 (by omega), ← eat]
          by_cases l : q < at'
          · rw [if_pos l, if_pos l]; exact h5 q x0 (by omega)
          · rw [if_neg l, if_neg l]
            by_cases e : q = at'
            · rw [if_pos e, if_pos e]
            · rw [if_neg e, if_neg e]; exact h5 (q - 1) (by omega) (by omega)
      · show N2 106 0 k = if y + -1 < k then M 106 0 (k - 1) else M 106 0 k
        rw [e2, up_at]
        by_cases e : k = y
        · rw [if_pos ⟨rfl, rfl, e⟩, if_pos (by omega), hv (y - 1) (by omega) (by omega), if_neg (by omega), e]
        · rw [if_neg (by omega), hv k a c]
          by_cases l : y < k
          · rw [if_pos l, if_pos (by omega)]
          · rw [if_neg l, if_neg (by omega)]
  refine ⟨fun z => go (Or.inl (by omega)), fun z => ⟨fun y => go (Or.inr y), fun _ => hq κ M me (by rw [k6]; omega)⟩⟩
end DD
