/-! the pure part: lines and heights -/
def zah (u : Int) : Int := if u = 0 then 0 else u + 1
def znu (u : Int) : Int := if u = 0 then 1 else 0
def zput1 (wide len cut : Int) (p : Int × Int) : Int × Int := if zah p.2 + len ≤ wide then (p.1 + znu p.2, zah p.2 + len) else if 0 < cut ∧ zah p.2 + cut + 1 ≤ wide then (p.1 + znu p.2 + 1, len - cut) else (p.1 + znu p.2, zah p.2 + len)
def zput (wide len cut : Int) (p : Int × Int) : Int × Int := if 0 < p.2 ∧ ¬ (zah p.2 + len ≤ wide) ∧ ¬ (0 < cut ∧ zah p.2 + cut + 1 ≤ wide) then zput1 wide len cut (p.1, 0) else zput1 wide len cut p
def zwl (T : Mem) (c wide n : Int) : Int × Int := zF (fun p i => zput wide (T 70 0 (12 * c + i)) (T 71 0 (12 * c + i)) p) (0, 0) 0 n
def zlinesW (T : Mem) (w : Int → Int) (c : Int) : Int := if zshows T c = 0 then 0 else if ¬ T 73 0 c = 0 then 1 else (zwl T c (zacr T c w) (T 72 0 c)).1
def zbel (T : Mem) (c k : Int) : Int := T 63 0 (24 * T 60 0 (T 65 0 c) + T 6 (T 65 0 c) 6 + k)
def zh1 (T : Mem) (w : Int → Int) (n : Int) : Int → Int := zF (fun h c => if T 67 0 c = 1 then zset h (T 65 0 c) (max (h (T 65 0 c)) (zlinesW T w c)) else h) (fun _ => 1) 0 n
def zlong (T : Mem) (w : Int → Int) (c : Int) (h : Int → Int) : Int → Int := zset h (zbel T c (T 67 0 c - 1)) (h (zbel T c (T 67 0 c - 1)) + max 0 (zlinesW T w c - zS (fun k => h (zbel T c k)) 0 (T 67 0 c)))
def zh2 (T : Mem) (w : Int → Int) (d n : Int) (h : Int → Int) : Int → Int := zF (fun h c => if T 67 0 c = d then zlong T w c h else h) h 0 n
def zhs (T : Mem) (w : Int → Int) (n : Int) : Int → Int := zF (fun h d => zh2 T w d (T 11 0 15) h) (zh1 T w (T 11 0 15)) 2 n
def zht (T : Mem) (w : Int → Int) : Int → Int := zhs T w 5
def zsum (T : Mem) (h : Int → Int) (p : Int) : Int := zS (fun k => h (T 63 0 (24 * p + k))) 0 (T 64 0 p)
def zHB (T : Mem) (h : Int → Int) : Prop := ∀ r, 0 ≤ r → r < T 11 0 8 → 1 ≤ h r ∧ h r ≤ 24
section RZ
variable {T M : Mem}
theorem zput_r {wide len cut l u : Int} (hw : wide ≤ 1805) (l0 : 1 ≤ len) (l1 : len ≤ 20) (c0 : 0 ≤ cut) (c1 : cut < len) (u0 : 0 ≤ u) : 1 ≤ (zput wide len cut (l, u)).2 ∧ ((zput wide len cut (l, u)).2 ≤ 1805) ∧ l ≤ (zput wide len cut (l, u)).1 ∧ (zput wide len cut (l, u)).1 ≤ l + 2 ∧ (u = 0 → l + 1 ≤ (zput wide len cut (l, u)).1) := by
  have e0 : zah 0 = 0 := rfl
  have n0 : znu 0 = 1 := rfl
  have eu : (u = 0 → zah u = 0 ∧ znu u = 1) ∧ (0 < u → zah u = u + 1 ∧ znu u = 0) := ⟨fun h => by subst h; exact ⟨rfl, rfl⟩, fun h => ⟨if_neg (by omega), if_neg (by omega)⟩⟩
  unfold zput zput1
  by_cases hu : u = 0
  · subst hu
    rw [if_neg (by omega)]
    simp only [e0, n0]
    split
    · dsimp only; omega
    · split <;> (dsimp only; omega)
  · obtain ⟨e1, e2⟩ := eu.2 (by omega)
    simp only [e0, n0, e1, e2]
    split
    · split
      · dsimp only; omega
      · split <;> (dsimp only; omega)
    · split
      · dsimp only; omega
      · split
        · dsimp only; omega
        · exfalso; omega
theorem zwl_r (hG : Good T) {c : Int} (h0 : 0 ≤ c) (h1 : c < T 11 0 15) {wide : Int} (hw : wide ≤ 1805) {n : Int} (n0 : 0 ≤ n) (n1 : n ≤ T 72 0 c) : 0 ≤ (zwl T c wide n).2 ∧ (zwl T c wide n).2 ≤ 1805 ∧ 0 ≤ (zwl T c wide n).1 ∧ (zwl T c wide n).1 ≤ 2 * n ∧ (0 < n → 1 ≤ (zwl T c wide n).2 ∧ 1 ≤ (zwl T c wide n).1) ∧ (n = 0 → (zwl T c wide n) = (0, 0)) := by
  refine zF_ind (fun n (p : Int × Int) => 0 ≤ p.2 ∧ p.2 ≤ 1805 ∧ 0 ≤ p.1 ∧ p.1 ≤ 2 * n ∧ (0 < n → 1 ≤ p.2 ∧ 1 ≤ p.1) ∧ (n = 0 → p = (0, 0))) n0 ⟨by decide, by decide, by decide, by decide, fun h => absurd h (by decide), fun _ => rfl⟩ (fun k p a b hp => ?_)
  obtain ⟨l, u⟩ := p
  obtain ⟨p1, p2, p3, p4, p5, p6⟩ := hp
  dsimp only at p1 p2 p3 p4 p5
  obtain ⟨w1, w2⟩ := hG.word c k h0 h1 a (by omega)
  obtain ⟨z1, z2, z3, z4, z5⟩ := zput_r (l := l) hw w1.1 w1.2 w2.1 w2.2 p1
  refine ⟨by omega, z2, by omega, by omega, fun _ => ⟨z1, ?_⟩, fun h => absurd h (by omega)⟩
  by_cases hk : k = 0
  · have := p6 hk
    have : u = 0 := congrArg Prod.snd this
    have := z5 this
    omega
  · have := p5 (by omega)
    omega
theorem zlinesW_r (hG : Good T) {w : Int → Int} (hb : zWB T w) {c : Int} (h0 : 0 ≤ c) (h1 : c < T 11 0 15) : 0 ≤ zlinesW T w c ∧ zlinesW T w c ≤ 24 := by
  obtain ⟨w1, w2, w3, w4, w5, w6, w7, w8, w9, w10, w11, w12⟩ := hG.cell c h0 h1
  have := zwl_r hG h0 h1 (zacr_r hG hb h0 h1).2 w6.1 (Int.le_refl _)
  unfold zlinesW
  split
  · omega
  · split <;> omega
theorem zlinesW_congr (hG : Good T) {v w : Int → Int} (h : zEq T v w) {c : Int} (h0 : 0 ≤ c) (h1 : c < T 11 0 15) : zlinesW T v c = zlinesW T w c := by
  unfold zlinesW
  rw [zacr_congr hG h h0 h1]
section WL
variable {p1 wide : Int} {Qm : Int → Mem → Prop} {K11 : Int → Int → Int → Mem → Prop} {k : Int}
end WL
/-- the rows of a cell -/
theorem zbel_r (hG : Good T) {c k : Int} (h0 : 0 ≤ c) (h1 : c < T 11 0 15) (k0 : 0 ≤ k) (k1 : k < T 67 0 c) : 0 ≤ zbel T c k ∧ zbel T c k < T 11 0 8 ∧ T 60 0 (zbel T c k) = T 60 0 (T 65 0 c) ∧ T 6 (zbel T c k) 6 = T 6 (T 65 0 c) 6 + k := by
  obtain ⟨w1, w2, w3, w4, w5, w6, w7, w8, w9, w10, w11, w12⟩ := hG.cell c h0 h1
  obtain ⟨r1, r2, r3, r4, r5⟩ := hG.row (T 65 0 c) w1.1 w1.2
  have o := hG.ord (T 60 0 (T 65 0 c)) (T 6 (T 65 0 c) 6 + k) r1.1 r1.2 (by omega) (by omega)
  unfold zbel
  rw [show 24 * T 60 0 (T 65 0 c) + T 6 (T 65 0 c) 6 + k = 24 * T 60 0 (T 65 0 c) + (T 6 (T 65 0 c) 6 + k) by omega]
  exact ⟨o.1.1, o.1.2, o.2.1, o.2.2⟩
theorem zh1_r (hG : Good T) {w : Int → Int} (hb : zWB T w) {n : Int} (n0 : 0 ≤ n) (n1 : n ≤ T 11 0 15) : zHB T (zh1 T w n) := by
  refine zF_ind (fun _ (h : Int → Int) => zHB T h) n0 (fun r _ _ => by omega) (fun c h a b hh => ?_)
  show zHB T (if T 67 0 c = 1 then zset h (T 65 0 c) (max (h (T 65 0 c)) (zlinesW T w c)) else h)
  split
  · have hl := zlinesW_r hG hb a (by omega : c < T 11 0 15)
    obtain ⟨w1, -⟩ := hG.cell c a (by omega)
    have h1 := hh _ w1.1 w1.2
    intro r r0 r1
    have h2 := hh r r0 r1
    unfold zset
    split <;> omega
  · exact hh
theorem zlong_r (hG : Good T) {w : Int → Int} (hb : zWB T w) {c : Int} (h0 : 0 ≤ c) (h1 : c < T 11 0 15) {h : Int → Int} (hh : zHB T h) : (zS (fun k => h (zbel T c k)) 0 (T 67 0 c) ≤ 96 ∧ h (zbel T c (T 67 0 c - 1)) ≤ zS (fun k => h (zbel T c k)) 0 (T 67 0 c)) ∧ zHB T (zlong T w c h) := by
  obtain ⟨w1, w2, w3, w4, w5, w6, w7, w8, w9, w10, w11, w12⟩ := hG.cell c h0 h1
  have hl := zlinesW_r hG hb h0 h1
  have hbl := zbel_r hG h0 h1 (k := T 67 0 c - 1) (by omega) (by omega)
  have hx := hh _ hbl.1 hbl.2.1
  have hs := zS_bd (f := fun k => h (zbel T c k)) (a := 0) (b := T 67 0 c) 0 24 (by omega) (fun k a b => by
    have q := zbel_r hG h0 h1 a b
    have := hh _ q.1 q.2.1
    omega)
  have hm := zS_le_of_mem (f := fun k => h (zbel T c k)) (a := 0) (b := T 67 0 c) (i := T 67 0 c - 1) (fun k a b => by
    have q := zbel_r hG h0 h1 a b
    have := hh _ q.1 q.2.1
    omega) (by omega) (by omega)
  refine ⟨⟨by omega, hm⟩, fun r r0 r1 => ?_⟩
  have h2 := hh r r0 r1
  unfold zlong zset
  split <;> omega
theorem zh2_r (hG : Good T) {w : Int → Int} (hb : zWB T w) {d n : Int} (n0 : 0 ≤ n) (n1 : n ≤ T 11 0 15) {h : Int → Int} (hh : zHB T h) : zHB T (zh2 T w d n h) := by
  refine zF_ind (fun _ (h : Int → Int) => zHB T h) n0 hh (fun c h a b hh => ?_)
  show zHB T (if T 67 0 c = d then zlong T w c h else h)
  split
  · exact (zlong_r hG hb a (by omega) hh).2
  · exact hh
theorem zhs_r (hG : Good T) {w : Int → Int} (hb : zWB T w) {n : Int} (n0 : 2 ≤ n) : zHB T (zhs T w n) :=
  zF_ind (fun _ (h : Int → Int) => zHB T h) n0 (zh1_r hG hb hG.nK.1 (Int.le_refl _)) (fun d h a b hh => zh2_r hG hb hG.nK.1 (Int.le_refl _) hh)
theorem zht_r (hG : Good T) {w : Int → Int} (hb : zWB T w) : zHB T (zht T w) := zhs_r hG hb (by omega)
theorem zsum_r (hG : Good T) {h : Int → Int} (hh : zHB T h) {p n : Int} (p0 : 0 ≤ p) (p1 : p ≤ 2) (n0 : 0 ≤ n) (n1 : n ≤ T 64 0 p) : n ≤ zS (fun k => h (T 63 0 (24 * p + k))) 0 n ∧ zS (fun k => h (T 63 0 (24 * p + k))) 0 n ≤ 24 * n := by
  have := zS_bd (f := fun k => h (T 63 0 (24 * p + k))) (a := 0) (b := n) 1 24 n0 (fun k a b => by
    have o := hG.ord p k p0 p1 a (by omega)
    exact hh _ o.1.1 o.1.2)
  omega
end RZ
