/-! the pure part: lines and heights -/
def zah (u : Int) : Int := if u = 0 then 0 else u + 1
def znu (u : Int) : Int := if u = 0 then 1 else 0
def zput1 (wide len cut : Int) (p : Int × Int) : Int × Int := if zah p.2 + len ≤ wide then (p.1 + znu p.2, zah p.2 + len) else if 0 < cut ∧ zah p.2 + cut + 1 ≤ wide then (p.1 + znu p.2 + 1, len - cut) else (p.1 + znu p.2, zah p.2 + len)
def zput (wide len cut : Int) (p : Int × Int) : Int × Int := if 0 < p.2 ∧ ¬ (zah p.2 + len ≤ wide) ∧ ¬ (0 < cut ∧ zah p.2 + cut + 1 ≤ wide) then zput1 wide len cut (p.1, 0) else zput1 wide len cut p
def zwl (T : Mem) (c wide n : Int) : Int × Int := zF (fun p i => zput wide (T 70 0 (12 * c + i)) (T 71 0 (12 * c + i)) p) (0, 0) 0 n
def zlinesW (T : Mem) (w : Int → Int) (c : Int) : Int := if zshows T c = 0 then 0 else if ¬ T 73 0 c = 0 then 1 else (zwl T c (zacr T c w) (T 72 0 c)).1
def zbel (T : Mem) (c k : Int) : Int := T 63 0 (24 * T 60 0 (T 65 0 c) + T 6 (T 65 0 c) 6 + k)
def zh1 (T : Mem) (w : Int → Int) (n : Int) : Int → Int := zF (fun h c => if T 67 0 c = 1 then zset h (T 65 0 c) (max (h (T 65 0 c)) (zlinesW T w c)) else h) (fun _ => 1) 0 n
def zlong (T : Mem) (w : Int → Int) (c : Int) (h : Int → Int) : Int → Int := zset h (zbel T c (T 67 0 c - 1)) (h (zbel T c (T 67 0 c - 1)) + max 0 (zlinesW T w c - zS (fun k => h (zbel T c k)) 0 (T 67 0 c)))
def zh2 (T : Mem) (w : Int → Int) (d n : Int) (h : Int → Int) : Int → Int := zF (fun h c => if T 67 0 c = d then zlong T w c h else h) h 0 n
def zhs (T : Mem) (w : Int → Int) (n : Int) : Int → Int := zF (fun h d => zh2 T w d (T 11 0 15) h) (zh1 T w (T 11 0 15)) 2 n
def zht (T : Mem) (w : Int → Int) : Int → Int := zhs T w 5
def zsum (T : Mem) (h : Int → Int) (p : Int) : Int := zS (fun k => h (T 63 0 (24 * p + k))) 0 (T 64 0 p)
def zHB (T : Mem) (h : Int → Int) : Prop := ∀ r, 0 ≤ r → r < T 11 0 8 → 1 ≤ h r ∧ h r ≤ 24
section RZ
variable {T M : Mem}
theorem zput_r {wide len cut l u : Int} (hw : wide ≤ 1805) (l0 : 1 ≤ len) (l1 : len ≤ 20) (c0 : 0 ≤ cut) (c1 : cut < len) (u0 : 0 ≤ u) : 1 ≤ (zput wide len cut (l, u)).2 ∧ ((zput wide len cut (l, u)).2 ≤ 1805) ∧ l ≤ (zput wide len cut (l, u)).1 ∧ (zput wide len cut (l, u)).1 ≤ l + 2 ∧ (u = 0 → l + 1 ≤ (zput wide len cut (l, u)).1) := by
  have e0 : zah 0 = 0 := rfl
  have n0 : znu 0 = 1 := rfl
  have eu : (u = 0 → zah u = 0 ∧ znu u = 1) ∧ (0 < u → zah u = u + 1 ∧ znu u = 0) := ⟨fun h => by subst h; exact ⟨rfl, rfl⟩, fun h => ⟨if_neg (by omega), if_neg (by omega)⟩⟩
  unfold zput zput1
  by_cases hu : u = 0
  · subst hu
    rw [if_neg (by omega)]
    simp only [e0, n0]
    split
    · dsimp only; omega
    · split <;> (dsimp only; omega)
  · obtain ⟨e1, e2⟩ := eu.2 (by omega)
    simp only [e0, n0, e1, e2]
    split
    · split
      · dsimp only; omega
      · split <;> (dsimp only; omega)
    · split
      · dsimp only; omega
      · split
        · dsimp only; omega
        · exfalso; omega
theorem zwl_r (hG : Good T) {c : Int} (h0 : 0 ≤ c) (h1 : c < T 11 0 15) {wide : Int} (hw : wide ≤ 1805) {n : Int} (n0 : 0 ≤ n) (n1 : n ≤ T 72 0 c) : 0 ≤ (zwl T c wide n).2 ∧ (zwl T c wide n).2 ≤ 1805 ∧ 0 ≤ (zwl T c wide n).1 ∧ (zwl T c wide n).1 ≤ 2 * n ∧ (0 < n → 1 ≤ (zwl T c wide n).2 ∧ 1 ≤ (zwl T c wide n).1) ∧ (n = 0 → (zwl T c wide n) = (0, 0)) := by
  refine zF_ind (fun n (p : Int × Int) => 0 ≤ p.2 ∧ p.2 ≤ 1805 ∧ 0 ≤ p.1 ∧ p.1 ≤ 2 * n ∧ (0 < n → 1 ≤ p.2 ∧ 1 ≤ p.1) ∧ (n = 0 → p = (0, 0))) n0 ⟨by decide, by decide, by decide, by decide, fun h => absurd h (by decide), fun _ => rfl⟩ (fun k p a b hp => ?_)
  obtain ⟨l, u⟩ := p
  obtain ⟨p1, p2, p3, p4, p5, p6⟩ := hp
  dsimp only at p1 p2 p3 p4 p5
  obtain ⟨w1, w2⟩ := hG.word c k h0 h1 a (by omega)
  obtain ⟨z1, z2, z3, z4, z5⟩ := zput_r (l := l) hw w1.1 w1.2 w2.1 w2.2 p1
  refine ⟨by omega, z2, by omega, by omega, fun _ => ⟨z1, ?_⟩, fun h => absurd h (by omega)⟩
  by_cases hk : k = 0
  · have := p6 hk
    have : u = 0 := congrArg Prod.snd this
    have := z5 this
    omega
  · have := p5 (by omega)
    omega
theorem zlinesW_r (hG : Good T) {w : Int → Int} (hb : zWB T w) {c : Int} (h0 : 0 ≤ c) (h1 : c < T 11 0 15) : 0 ≤ zlinesW T w c ∧ zlinesW T w c ≤ 24 := by
  obtain ⟨w1, w2, w3, w4, w5, w6, w7, w8, w9, w10, w11, w12⟩ := hG.cell c h0 h1
  have := zwl_r hG h0 h1 (zacr_r hG hb h0 h1).2 w6.1 (Int.le_refl _)
  unfold zlinesW
  split
  · omega
  · split <;> omega
theorem zlinesW_congr (hG : Good T) {v w : Int → Int} (h : zEq T v w) {c : Int} (h0 : 0 ≤ c) (h1 : c < T 11 0 15) : zlinesW T v c = zlinesW T w c := by
  unfold zlinesW
  rw [zacr_congr hG h h0 h1]
section WL
variable {p1 wide : Int} {Qm : Int → Mem → Prop} {K11 : Int → Int → Int → Mem → Prop} {k : Int}
theorem q_wl0 {n : Nat} {l u cut : Int} (hk : k < 2000 ∧ 0 ≤ k) (h : K11 l u (k + 1) M) : wp_X10_wordLines_45 p1 wide Qm K11 (n + 1) l u k 0 cut M :=
  ⟨fun _ => ⟨⟨by omega, by omega⟩, h⟩, fun h => absurd h (by decide)⟩
theorem q_wlA {n : Nat} {l len : Int} (hk : k < 2000 ∧ 0 ≤ k) (hl : -1000 ≤ l ∧ l ≤ 1000) (l0 : 1 ≤ len) (l1 : len ≤ 20) (h : K11 (l + 1) len (k + 1) M) : wp_X10_wordLines_45 p1 wide Qm K11 (n + 2) l 0 k len 0 M := by
  have e : (if ¬ (0 : Int) = 0 then (0 : Int) + 1 else 0) = 0 := if_neg (by decide)
  have e2 : (if ¬ (0 : Int) = 0 then (0 : Int) else 1) = 1 := if_neg (by decide)
  have ez : (0 : Int) + len = len := by omega
  refine ⟨fun h => absurd h (by omega), fun _ => ⟨fun h => absurd rfl h, ?_⟩⟩
  rw [e, e2, ez]
  refine ⟨⟨by omega, by omega⟩, ⟨by omega, by omega⟩, fun hc => ⟨fun _ => ⟨fun _ => ⟨⟨by omega, by omega⟩, q_wl0 hk h⟩, fun h => absurd h (by decide)⟩, fun h => absurd h (by decide)⟩, fun hc => ⟨⟨by omega, by omega⟩, ⟨by omega, by omega⟩, q_wl0 hk h⟩⟩
theorem q_wlB {n : Nat} {l len cut : Int} (hk : k < 2000 ∧ 0 ≤ k) (hl : -900 ≤ l ∧ l ≤ 900) (l0 : 1 ≤ len) (l1 : len ≤ 20) (c0 : 0 ≤ cut) (c1 : cut < len) (h : K11 (zput1 wide len cut (l, 0)).1 (zput1 wide len cut (l, 0)).2 (k + 1) M) : wp_X10_wordLines_45 p1 wide Qm K11 (n + 3) l 0 k len cut M := by
  have e : (if ¬ (0 : Int) = 0 then (0 : Int) + 1 else 0) = 0 := if_neg (by decide)
  have e2 : (if ¬ (0 : Int) = 0 then (0 : Int) else 1) = 1 := if_neg (by decide)
  have ez : (0 : Int) + len = len := by omega
  have e0 : zah 0 = 0 := rfl
  have n0 : znu 0 = 1 := rfl
  unfold zput1 at h
  simp only [e0, n0, ez] at h
  refine ⟨fun h => absurd h (by omega), fun _ => ⟨fun h => absurd rfl h, ?_⟩⟩
  rw [e, e2, ez]
  refine ⟨⟨by omega, by omega⟩, ⟨by omega, by omega⟩, fun hc => ?_, fun hc => ?_⟩
  · rw [if_neg (by omega)] at h
    refine ⟨fun h' => ⟨fun _ => ⟨⟨by omega, by omega⟩, ?_⟩, fun h => absurd h (by decide)⟩, fun h' => ⟨⟨by omega, by omega⟩, ⟨by omega, by omega⟩, fun h5 => ⟨fun _ => ⟨⟨by omega, by omega⟩, ?_⟩, fun h => absurd h (by decide)⟩, fun h5 => ⟨⟨by omega, by omega⟩, ⟨by omega, by omega⟩, ?_⟩⟩⟩
    · rw [if_neg (by omega)] at h
      exact q_wl0 hk h
    · rw [if_neg (by omega)] at h
      exact q_wl0 hk h
    · rw [if_pos ⟨h', h5⟩] at h
      exact q_wlA hk (by omega) (by omega) (by omega) h
  · rw [if_pos hc] at h
    exact ⟨⟨by omega, by omega⟩, ⟨by omega, by omega⟩, q_wl0 hk h⟩
theorem q_wlC {n : Nat} {l u len cut : Int} (hk : k < 2000 ∧ 0 ≤ k) (hl : -800 ≤ l ∧ l ≤ 800) (u0 : 0 ≤ u) (u1 : u ≤ 2000) (l0 : 1 ≤ len) (l1 : len ≤ 20) (c0 : 0 ≤ cut) (c1 : cut < len) (h : K11 (zput wide len cut (l, u)).1 (zput wide len cut (l, u)).2 (k + 1) M) : wp_X10_wordLines_45 p1 wide Qm K11 (n + 4) l u k len cut M := by
  by_cases hu : u = 0
  · subst hu
    unfold zput at h
    rw [if_neg (by omega)] at h
    exact q_wlB (n := n + 1) hk (by omega) l0 l1 c0 c1 h
  · have e : (if ¬ u = 0 then u + 1 else 0) = u + 1 := if_pos hu
    have e2 : (if ¬ u = 0 then (0 : Int) else 1) = 0 := if_pos hu
    have e3 : zah u = u + 1 := if_neg hu
    have e4 : znu u = 0 := if_neg hu
    have el : l + 0 = l := by omega
    unfold zput at h
    simp only [e3] at h
    refine ⟨fun h => absurd h (by omega), fun _ => ⟨fun _ => ⟨⟨by omega, by omega⟩, trivial⟩, ?_⟩⟩
    rw [e, e2, el]
    refine ⟨⟨by omega, by omega⟩, ⟨by omega, by omega⟩, fun hc => ?_, fun hc => ?_⟩
    · refine ⟨fun h' => ⟨fun h => absurd h (by omega), fun _ => ?_⟩, fun h' => ⟨⟨by omega, by omega⟩, ⟨by omega, by omega⟩, fun h5 => ⟨fun h => absurd h (by omega), fun _ => ?_⟩, fun h5 => ⟨⟨by omega, by omega⟩, ⟨by omega, by omega⟩, ?_⟩⟩⟩
      · rw [if_pos ⟨by omega, by omega, by omega⟩] at h
        exact q_wlB hk (by omega) l0 l1 c0 c1 h
      · rw [if_pos ⟨by omega, by omega, by omega⟩] at h
        exact q_wlB hk (by omega) l0 l1 c0 c1 h
      · rw [if_neg (by omega)] at h
        unfold zput1 at h
        simp only [e3, e4, el] at h
        rw [if_neg (by omega), if_pos ⟨h', h5⟩] at h
        exact q_wlA (n := n + 1) hk (by omega) (by omega) (by omega) h
    · rw [if_neg (by omega)] at h
      unfold zput1 at h
      simp only [e3, e4, el] at h
      rw [if_pos hc] at h
      exact ⟨⟨by omega, by omega⟩, ⟨by omega, by omega⟩, q_wl0 (n := n + 2) hk h⟩
end WL
theorem q_wordLines (hG : Good T) (hA : Ag T M) {c : Int} (h0 : 0 ≤ c) (h1 : c < T 11 0 15) {wide : Int} (hw : wide ≤ 1805) {Qm : Int → Mem → Prop} (hq : Qm (zwl T c wide (T 72 0 c)).1 M) : wp_X10_wordLines c wide M Qm := by
  obtain ⟨w1, w2, w3, w4, w5, w6, w7, w8, w9, w10, w11, w12⟩ := hG.cell c h0 h1
  have hK := hG.nK
  have e70 := hA.s70
  have e71 := hA.s71
  have e72 := hA.s72
  refine ⟨⟨by omega, by omega⟩, ?_⟩
  refine zLoop (σ := Int × Int) (fun n k s => wp_X10_wordLines_11 c wide Qm n s.1 s.2 k M) (fun k s => s = zwl T c wide (k - 12 * c)) (s := (0, 0)) (12 * c + T 72 0 c) (by omega) (zF_self _ _ (by omega)).symm (fun n s hs => ?_) (fun n k s a0 a1 hs ih => ?_)
  · simp only [wp_X10_wordLines_11, e70, e71, e72]
    refine ⟨⟨by omega, by omega⟩, ⟨by omega, by omega⟩, ⟨by omega, by omega⟩, fun _ => ?_, fun h => absurd h (by omega)⟩
    rw [hs, show 12 * c + T 72 0 c - 12 * c = T 72 0 c by omega]; exact hq
  · obtain ⟨l, u⟩ := s
    have w := hG.word c (k - 12 * c) h0 h1 (by omega) (by omega)
    have hz := zwl_r hG h0 h1 hw (n := k - 12 * c) (by omega) (by omega)
    rw [← hs] at hz
    dsimp only at hz
    rw [show 12 * c + (k - 12 * c) = k by omega] at w
    simp only [wp_X10_wordLines_11, e70, e71, e72]
    refine ⟨⟨by omega, by omega⟩, ⟨by omega, by omega⟩, ⟨by omega, by omega⟩, fun h => absurd h (by omega), fun _ => ⟨⟨by omega, by omega⟩, ⟨by omega, by omega⟩, 4, ?_⟩⟩
    refine q_wlC (n := 0) (by omega) (by omega) hz.1 (by omega) w.1.1 w.1.2 w.2.1 w.2.2 (ih (zput wide (T 70 0 k) (T 71 0 k) (l, u)) ?_)
    have e : zwl T c wide (k - 12 * c + 1) = _ := zF_succ _ _ (by omega)
    rw [show k + 1 - 12 * c = k - 12 * c + 1 by omega, e]
    show _ = zput wide (T 70 0 (12 * c + (k - 12 * c))) (T 71 0 (12 * c + (k - 12 * c))) (zwl T c wide (k - 12 * c))
    rw [← hs, show 12 * c + (k - 12 * c) = k by omega]
theorem q_linesOf (hG : Good T) (hA : Ag T M) {c : Int} (h0 : 0 ≤ c) (h1 : c < T 11 0 15) {w : Int → Int} (hw : zEq T (M 84 0) w) (hb : zWB T w) {Qm : Int → Mem → Prop} (hq : Qm (zlinesW T w c) M) : wp_X10_linesOf c M Qm := by
  have hK := hG.nK
  have e73 := hA.s73
  unfold zlinesW at hq
  refine q_shows hG hA h0 h1 ⟨fun h => ?_, fun h => ?_⟩
  · rw [if_neg h] at hq
    rw [e73]
    refine ⟨⟨by omega, by omega⟩, fun h' => ?_, fun h' => ?_⟩
    · rw [if_neg (by omega)] at hq
      exact q_across hG hA h0 h1 hw hb (q_wordLines hG hA h0 h1 (zacr_r hG hb h0 h1).2 hq)
    · rw [if_pos h'] at hq
      exact hq
  · rw [if_pos h] at hq
    exact hq
/-- the rows of a cell -/
theorem zbel_r (hG : Good T) {c k : Int} (h0 : 0 ≤ c) (h1 : c < T 11 0 15) (k0 : 0 ≤ k) (k1 : k < T 67 0 c) : 0 ≤ zbel T c k ∧ zbel T c k < T 11 0 8 ∧ T 60 0 (zbel T c k) = T 60 0 (T 65 0 c) ∧ T 6 (zbel T c k) 6 = T 6 (T 65 0 c) 6 + k := by
  obtain ⟨w1, w2, w3, w4, w5, w6, w7, w8, w9, w10, w11, w12⟩ := hG.cell c h0 h1
  obtain ⟨r1, r2, r3, r4, r5⟩ := hG.row (T 65 0 c) w1.1 w1.2
  have o := hG.ord (T 60 0 (T 65 0 c)) (T 6 (T 65 0 c) 6 + k) r1.1 r1.2 (by omega) (by omega)
  unfold zbel
  rw [show 24 * T 60 0 (T 65 0 c) + T 6 (T 65 0 c) 6 + k = 24 * T 60 0 (T 65 0 c) + (T 6 (T 65 0 c) 6 + k) by omega]
  exact ⟨o.1.1, o.1.2, o.2.1, o.2.2⟩
theorem zh1_r (hG : Good T) {w : Int → Int} (hb : zWB T w) {n : Int} (n0 : 0 ≤ n) (n1 : n ≤ T 11 0 15) : zHB T (zh1 T w n) := by
  refine zF_ind (fun _ (h : Int → Int) => zHB T h) n0 (fun r _ _ => by omega) (fun c h a b hh => ?_)
  show zHB T (if T 67 0 c = 1 then zset h (T 65 0 c) (max (h (T 65 0 c)) (zlinesW T w c)) else h)
  split
  · have hl := zlinesW_r hG hb a (by omega : c < T 11 0 15)
    obtain ⟨w1, -⟩ := hG.cell c a (by omega)
    have h1 := hh _ w1.1 w1.2
    intro r r0 r1
    have h2 := hh r r0 r1
    unfold zset
    split <;> omega
  · exact hh
theorem zlong_r (hG : Good T) {w : Int → Int} (hb : zWB T w) {c : Int} (h0 : 0 ≤ c) (h1 : c < T 11 0 15) {h : Int → Int} (hh : zHB T h) : (zS (fun k => h (zbel T c k)) 0 (T 67 0 c) ≤ 96 ∧ h (zbel T c (T 67 0 c - 1)) ≤ zS (fun k => h (zbel T c k)) 0 (T 67 0 c)) ∧ zHB T (zlong T w c h) := by
  obtain ⟨w1, w2, w3, w4, w5, w6, w7, w8, w9, w10, w11, w12⟩ := hG.cell c h0 h1
  have hl := zlinesW_r hG hb h0 h1
  have hbl := zbel_r hG h0 h1 (k := T 67 0 c - 1) (by omega) (by omega)
  have hx := hh _ hbl.1 hbl.2.1
  have hs := zS_bd (f := fun k => h (zbel T c k)) (a := 0) (b := T 67 0 c) 0 24 (by omega) (fun k a b => by
    have q := zbel_r hG h0 h1 a b
    have := hh _ q.1 q.2.1
    omega)
  have hm := zS_le_of_mem (f := fun k => h (zbel T c k)) (a := 0) (b := T 67 0 c) (i := T 67 0 c - 1) (fun k a b => by
    have q := zbel_r hG h0 h1 a b
    have := hh _ q.1 q.2.1
    omega) (by omega) (by omega)
  refine ⟨⟨by omega, hm⟩, fun r r0 r1 => ?_⟩
  have h2 := hh r r0 r1
  unfold zlong zset
  split <;> omega
theorem zh2_r (hG : Good T) {w : Int → Int} (hb : zWB T w) {d n : Int} (n0 : 0 ≤ n) (n1 : n ≤ T 11 0 15) {h : Int → Int} (hh : zHB T h) : zHB T (zh2 T w d n h) := by
  refine zF_ind (fun _ (h : Int → Int) => zHB T h) n0 hh (fun c h a b hh => ?_)
  show zHB T (if T 67 0 c = d then zlong T w c h else h)
  split
  · exact (zlong_r hG hb a (by omega) hh).2
  · exact hh
theorem zhs_r (hG : Good T) {w : Int → Int} (hb : zWB T w) {n : Int} (n0 : 2 ≤ n) : zHB T (zhs T w n) :=
  zF_ind (fun _ (h : Int → Int) => zHB T h) n0 (zh1_r hG hb hG.nK.1 (Int.le_refl _)) (fun d h a b hh => zh2_r hG hb hG.nK.1 (Int.le_refl _) hh)
theorem zht_r (hG : Good T) {w : Int → Int} (hb : zWB T w) : zHB T (zht T w) := zhs_r hG hb (by omega)
theorem q_laysRows (hG : Good T) (hA : Ag T M) {w : Int → Int} (hw : zEq T (M 84 0) w) (hb : zWB T w) {Qm : Mem → Prop} (hq : ∀ M', Fr (z1 85) M M' → (∀ r, 0 ≤ r → r < T 11 0 8 → M' 85 0 r = zht T w r) → Qm M') : wp_X10_laysRows M Qm := by
  have hR := hG.nR
  have hK := hG.nK
  have hz85 : ∀ k, zin 85 k = false := fun k => rfl
  have hw' : ∀ N, Fr (z1 85) M N → zEq T (N 84 0) w := fun N f k a b => by rw [f 84 0 k rfl]; exact hw k a b
  refine zLoop (fun n k N => wp_X10_laysRows_2 Qm n k N) (fun y N => Fr (z1 85) M N ∧ ∀ r, 0 ≤ r → r < y → N 85 0 r = 1) (T 11 0 8) hR.1 ⟨Fr.rf _ _, fun k a b => absurd b (by omega)⟩ (fun n N hN => ?_) (fun n y N y0 y1 hN ih => ?_)
  · have hA1 : Ag T N := hN.1.ag hA (z1_in hz85)
    have e8 := hA1.f8
    refine ⟨fun _ => ?_, fun h => absurd h (by omega)⟩
    refine zLoop (fun n k N => wp_X10_laysRows_25 Qm n k N) (fun c N => Fr (z1 85) M N ∧ ∀ r, 0 ≤ r → r < T 11 0 8 → N 85 0 r = zh1 T w c r) (T 11 0 15) hK.1 ⟨hN.1, fun r a b => by rw [hN.2 r a b]; unfold zh1; rw [zF_self _ _ (by omega)]⟩ (fun n2 N2 hN2 => ?_) (fun n2 c N2 c0 c1 hN2 ih2 => ?_)
    · have hA2 : Ag T N2 := hN2.1.ag hA (z1_in hz85)
      have e15 := hA2.f15
      refine ⟨fun _ => ?_, fun h => absurd h (by omega)⟩
      refine zLoop (fun n k N => wp_X10_laysRows_81 Qm n k N) (fun d N => Fr (z1 85) M N ∧ ∀ r, 0 ≤ r → r < T 11 0 8 → N 85 0 r = zhs T w d r) 5 (by omega) ⟨hN2.1, fun r a b => by rw [hN2.2 r a b]; unfold zhs; rw [zF_self _ _ (by omega)]⟩ (fun n3 N3 hN3 => ?_) (fun n3 d N3 d0 d1 hN3 ih3 => ?_)
      · exact ⟨fun _ => hq N3 hN3.1 hN3.2, fun h => absurd h (by omega)⟩
      · refine ⟨fun h => absurd h (by omega), fun _ => ?_⟩
        have hbs := zhs_r hG hb d0
        have esd : zhs T w (d + 1) = _ := zF_succ _ _ d0
        refine zLoop (fun n k N => wp_X10_laysRows_88 Qm (wp_X10_laysRows_81 Qm n3) n d k N) (fun c N => Fr (z1 85) M N ∧ ∀ r, 0 ≤ r → r < T 11 0 8 → N 85 0 r = zh2 T w d c (zhs T w d) r) (T 11 0 15) hK.1 ⟨hN3.1, fun r a b => by rw [hN3.2 r a b]; unfold zh2; rw [zF_self _ _ (by omega)]⟩ (fun n4 N4 hN4 => ?_) (fun n4 c N4 c0 c1 hN4 ih4 => ?_)
        · have hA4 : Ag T N4 := hN4.1.ag hA (z1_in hz85)
          have e15 := hA4.f15
          refine ⟨fun _ => ⟨⟨by omega, by omega⟩, ih3 N4 ⟨hN4.1, fun r a b => ?_⟩⟩, fun h => absurd h (by omega)⟩
          rw [hN4.2 r a b, esd]
          rfl
        · obtain ⟨f4, l4⟩ := hN4
          have hA4 : Ag T N4 := f4.ag hA (z1_in hz85)
          have e15 := hA4.f15
          have e67 := hA4.s67
          have e65 := hA4.s65
          have hb4 := zh2_r hG hb (d := d) (n := c) c0 (by omega) hbs
          have es : zh2 T w d (c + 1) (zhs T w d) = _ := zF_succ _ _ c0
          obtain ⟨w1, w2, w3, w4, w5, w6, w7, w8, w9, w10, w11, w12⟩ := hG.cell c c0 c1
          rw [show wp_X10_laysRows_88 Qm (wp_X10_laysRows_81 Qm n3) (n4 + 1) d c N4 = _ from rfl]
          simp only [wp_X10_laysRows_88, e15, e67]
          refine ⟨fun h => absurd h (by omega), fun _ => ⟨⟨by omega, by omega⟩, fun h => ⟨⟨by omega, by omega⟩, ih4 N4 ⟨f4, fun r a b => ?_⟩⟩, fun h => ?_⟩⟩
          · rw [l4 r a b, es, if_neg h]
            rfl
          · have hbl := zlong_r hG hb c0 c1 hb4
            have hli := zlinesW_r hG hb c0 c1
            refine zLoop (fun n k s => wp_X10_laysRows_111 Qm (wp_X10_laysRows_81 Qm n3) (wp_X10_laysRows_88 Qm (wp_X10_laysRows_81 Qm n3) n4) n d c s k N4) (fun k s => s = zS (fun k => zh2 T w d c (zhs T w d) (zbel T c k)) 0 k) d (by omega) (zS_self _ (by omega)).symm (fun n5 s hs => ?_) (fun n5 k s k0 k1 hs ih5 => ?_)
            · have q1 := zbel_r hG c0 c1 (k := d - 1) (by omega) (by omega)
              have hlast := hb4 _ q1.1 q1.2.1
              simp only [wp_X10_laysRows_111, e65]
              refine ⟨fun _ => ⟨⟨by omega, by omega⟩, ⟨by omega, by omega⟩, q_below hG hA4 w1.1 w1.2 (by omega) (by omega) ?_⟩, fun h => absurd h (by omega)⟩
              have eb : T 63 0 (24 * T 60 0 (T 65 0 c) + T 6 (T 65 0 c) 6 + (d - 1)) = zbel T c (d - 1) := rfl
              rw [eb, l4 _ q1.1 q1.2.1]
              rw [h] at hbl
              refine ⟨⟨by omega, by omega⟩, q_linesOf hG hA4 c0 c1 (hw' N4 f4) hb ⟨by rw [hs]; exact ⟨by omega, by omega⟩, q_greater ⟨by rw [hs]; exact ⟨by omega, by omega⟩, ⟨by omega, by omega⟩, ?_⟩⟩⟩
              intro N5 e5
              refine ⟨⟨by omega, by omega⟩, ih4 N5 ⟨by rw [e5]; exact f4.up rfl, fun r a b => ?_⟩⟩
              rw [es, if_pos h]
              show _ = zlong T w c (zh2 T w d c (zhs T w d)) r
              unfold zlong zset
              rw [h, ← hs]
              by_cases hr : r = zbel T c (d - 1)
              · rw [hr, e5, up_eq, if_pos rfl]
              · rw [e5, up_k _ _ _ _ _ _ hr, if_neg hr]; exact l4 r a b
            · have q1 := zbel_r hG c0 c1 (k := k) k0 (by omega)
              have hlast := hb4 _ q1.1 q1.2.1
              have hs' := zS_bd (f := fun k => zh2 T w d c (zhs T w d) (zbel T c k)) (a := 0) (b := k) 0 24 k0 (fun i a b => by
                have q := zbel_r hG c0 c1 a (by omega)
                have := hb4 _ q.1 q.2.1
                omega)
              simp only [wp_X10_laysRows_111, e65]
              refine ⟨fun h => absurd h (by omega), fun _ => ⟨⟨by omega, by omega⟩, q_below hG hA4 w1.1 w1.2 k0 (by omega) ?_⟩⟩
              have eb : T 63 0 (24 * T 60 0 (T 65 0 c) + T 6 (T 65 0 c) 6 + k) = zbel T c k := rfl
              rw [eb, l4 _ q1.1 q1.2.1]
              refine ⟨⟨by omega, by omega⟩, by rw [hs]; exact ⟨by omega, by omega⟩, ⟨by omega, by omega⟩, ih5 _ ?_⟩
              rw [zS_succ _ k0, hs]
    · obtain ⟨f2, l2⟩ := hN2
      have hA2 : Ag T N2 := f2.ag hA (z1_in hz85)
      have e15 := hA2.f15
      have e65 := hA2.s65
      have e67 := hA2.s67
      have es : zh1 T w (c + 1) = _ := zF_succ _ _ c0
      obtain ⟨w1, w2, w3, w4, w5, w6, w7, w8, w9, w10, w11, w12⟩ := hG.cell c c0 c1
      simp only [wp_X10_laysRows_25, e15, e65, e67]
      refine ⟨fun h => absurd h (by omega), fun _ => ⟨⟨by omega, by omega⟩, fun h => ⟨⟨by omega, by omega⟩, ih2 N2 ⟨f2, fun r a b => ?_⟩⟩, fun h => ⟨⟨by omega, by omega⟩, ⟨by omega, by omega⟩, ⟨by omega, by omega⟩, q_linesOf hG hA2 c0 c1 (hw' N2 f2) hb (q_greater ⟨⟨by omega, by omega⟩, ?_⟩)⟩⟩⟩
      · rw [l2 r a b, es, if_neg h]
        rfl
      · intro N3 e3
        refine ⟨⟨by omega, by omega⟩, ih2 N3 ⟨by rw [e3]; exact f2.up rfl, fun r a b => ?_⟩⟩
        rw [es, if_pos h]
        show _ = zset (zh1 T w c) (T 65 0 c) (max (zh1 T w c (T 65 0 c)) (zlinesW T w c)) r
        unfold zset
        by_cases hr : r = T 65 0 c
        · rw [hr, e3, up_eq, if_pos rfl, l2 _ w1.1 w1.2]
        · rw [e3, up_k _ _ _ _ _ _ hr, if_neg hr]; exact l2 r a b
  · have hA1 : Ag T N := hN.1.ag hA (z1_in hz85)
    have e8 := hA1.f8
    refine ⟨fun h => absurd h (by omega), fun _ => ⟨⟨by omega, by omega⟩, ?_⟩⟩
    intro N2 e2
    refine ⟨⟨by omega, by omega⟩, ih N2 ⟨by rw [e2]; exact hN.1.up rfl, fun r a b => ?_⟩⟩
    by_cases hr : r = y
    · rw [hr, e2, up_eq]
    · rw [e2, up_k _ _ _ _ _ _ hr]; exact hN.2 r a (by omega)
theorem zsum_r (hG : Good T) {h : Int → Int} (hh : zHB T h) {p n : Int} (p0 : 0 ≤ p) (p1 : p ≤ 2) (n0 : 0 ≤ n) (n1 : n ≤ T 64 0 p) : n ≤ zS (fun k => h (T 63 0 (24 * p + k))) 0 n ∧ zS (fun k => h (T 63 0 (24 * p + k))) 0 n ≤ 24 * n := by
  have := zS_bd (f := fun k => h (T 63 0 (24 * p + k))) (a := 0) (b := n) 1 24 n0 (fun k a b => by
    have o := hG.ord p k p0 p1 a (by omega)
    exact hh _ o.1.1 o.1.2)
  omega
theorem q_sumOf (hG : Good T) (hA : Ag T M) {h : Int → Int} (hh : zHB T h) (hm : ∀ r, 0 ≤ r → r < T 11 0 8 → M 85 0 r = h r) {p : Int} (p0 : 0 ≤ p) (p1 : p ≤ 2) {Qm : Int → Mem → Prop} (hq : Qm (zsum T h p) M) : wp_X10_sumOf p M Qm := by
  have hmm := hG.many p0 p1
  have hR := hG.nR
  have e63 := hA.s63
  have e64 := hA.s64
  refine zLoop (fun n k s => wp_X10_sumOf_4 p Qm n s k M) (fun k s => s = zS (fun k => h (T 63 0 (24 * p + k))) 0 k) (T 64 0 p) hmm.1 (zS_self _ (by omega)).symm (fun n s hs => ?_) (fun n k s k0 k1 hs ih => ?_)
  · simp only [wp_X10_sumOf_4, e63, e64]
    refine ⟨⟨by omega, by omega⟩, fun _ => ?_, fun h => absurd h (by omega)⟩
    rw [hs]; exact hq
  · have o := hG.ord p k p0 p1 k0 k1
    have ho := hh _ o.1.1 o.1.2
    have hs' := zsum_r hG hh p0 p1 k0 (by omega)
    simp only [wp_X10_sumOf_4, e63, e64, hm _ o.1.1 o.1.2]
    refine ⟨⟨by omega, by omega⟩, fun h => absurd h (by omega), fun _ => ⟨⟨by omega, by omega⟩, ⟨by omega, by omega⟩, ⟨by omega, by omega⟩, ⟨by omega, by omega⟩, by rw [hs]; exact ⟨by omega, by omega⟩, ⟨by omega, by omega⟩, ih _ ?_⟩⟩
    rw [zS_succ _ k0, hs]
theorem q_laysHeights (hG : Good T) (hA : Ag T M) {Qm : Mem → Prop} (hq : ∀ M', Fr zW M M' → (∀ k, 0 ≤ k → k < T 11 0 4 → M' 81 0 k = zRg T k ∧ M' 82 0 k = zls T k ∧ M' 83 0 k = zms T k ∧ M' 84 0 k = zwid T k) → (∀ r, 0 ≤ r → r < T 11 0 8 → M' 85 0 r = zht T (zwid T) r) → Qm M') : wp_X10_laysHeights M Qm := by
  refine q_laysWidths hG hA (fun M1 f1 l1 => ?_)
  have hA1 : Ag T M1 := f1.ag hA zW_in
  refine q_laysRows hG hA1 (fun k a b => (l1 k a b).2.2.2) (zwid_r hG) (fun M2 f2 l2 => ?_)
  have f2' : Fr zW M1 M2 := f2.mono (fun s k z => by
    simp only [zW, Bool.and_eq_false_iff, decide_eq_false_iff_not] at z
    exact decide_eq_false (by omega))
  refine hq M2 (f1.tr f2') (fun k a b => ?_) l2
  rw [f2 81 0 k rfl, f2 82 0 k rfl, f2 83 0 k rfl, f2 84 0 k rfl]
  exact l1 k a b
end RZ
