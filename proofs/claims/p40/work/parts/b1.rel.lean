/-! the law's own arrays beside what the class holds -/
def lwM (T M : Mem) : Prop := M 112 0 0 = T 11 0 4 ∧ M 112 0 1 = T 11 0 8 ∧ M 112 0 2 = T 11 0 15 ∧ M 112 0 3 = T 11 0 24 ∧ M 112 0 4 = T 11 0 25 ∧ M 112 0 5 = T 11 0 26
def lwN (T : Mem) : Prop := (1 ≤ T 11 0 4 ∧ T 11 0 4 ≤ 4) ∧ T 11 0 8 ≤ 10 ∧ T 11 0 15 ≤ 10
def lwC (T M : Mem) : Prop := ∀ k, 0 ≤ k → k < T 11 0 4 → M 104 0 (4 * k) = T 56 0 k ∧ M 104 0 (4 * k + 1) = T 57 0 k ∧ M 104 0 (4 * k + 2) = T 58 0 k ∧ M 104 0 (4 * k + 3) = T 59 0 k
def lwR (T M : Mem) : Prop := ∀ r, 0 ≤ r → r < T 11 0 8 → M 105 0 (3 * r) = T 60 0 r ∧ M 105 0 (3 * r + 1) = T 61 0 r ∧ M 105 0 (3 * r + 2) = T 62 0 r
def lwO (T M : Mem) : Prop := ∀ p, 0 ≤ p → p < T 11 0 8 → M 106 0 p = zRA T p
def lwT (T M : Mem) : Prop := ∀ c, 0 ≤ c → c < T 11 0 15 → M 107 0 (6 * c) = T 65 0 c ∧ M 107 0 (6 * c + 1) = T 66 0 c ∧ M 107 0 (6 * c + 2) = T 67 0 c ∧ M 107 0 (6 * c + 3) = T 68 0 c ∧ M 107 0 (6 * c + 4) = T 76 0 c ∧ M 107 0 (6 * c + 5) = if T 73 0 c = 1 then T 75 0 c else -1
def lwF (T M : Mem) : Prop := ∀ c, 0 ≤ c → c < T 11 0 15 → T 73 0 c = 1 → M 109 0 c = T 74 0 c
def lwW (T M : Mem) : Prop := (∀ c, 0 ≤ c → c < T 11 0 15 → M 108 0 (16 * c) = T 72 0 c ∧ T 72 0 c ≤ 5 ∧ ∀ i, 0 ≤ i → i < T 72 0 c → M 108 0 (16 * c + (2 * i + 1)) = T 70 0 (12 * c + i) ∧ M 108 0 (16 * c + (2 * i + 2)) = T 71 0 (12 * c + i)) ∧ ∀ c, 0 ≤ c → c < 10 → (T 11 0 15 ≤ c → M 108 0 (16 * c) = 0) ∧ ∀ i, 1 + 2 * M 108 0 (16 * c) ≤ i → i ≤ 10 → M 108 0 (16 * c + i) = 0
def lwB (M : Mem) : Prop := (∀ q, 0 ≤ q → q < 40 → M 110 0 q = M 77 0 q) ∧ (∀ r, 0 ≤ r → r < 10 → M 110 0 (40 + 2 * r) = M 78 0 (4 * r) ∧ M 110 0 (40 + 2 * r + 1) = M 78 0 (4 * r + 2)) ∧ (∀ k, 0 ≤ k → k < 4 → M 111 0 (2 * k) = M 79 0 (4 * k + 3) ∧ M 111 0 (2 * k + 1) = M 79 0 (4 * k + 1)) ∧ M 111 0 8 = M 11 0 30
def zLw (T M : Mem) : Prop := lwM T M ∧ lwN T ∧ lwC T M ∧ lwR T M ∧ lwO T M ∧ lwT T M ∧ lwF T M ∧ lwW T M ∧ lwB M
/-- the law's arrays, its row of widths aside, and the borders -/
def zLs (M M' : Mem) : Prop := (∀ s : Nat, ((104 ≤ s ∧ s ≤ 112) ∨ (77 ≤ s ∧ s ≤ 79)) → M' s = M s) ∧ M' 11 0 30 = M 11 0 30
theorem zLs.sm {M M' : Mem} (h : zSm M M') : zLs M M' := ⟨fun s hs => h.1 s (by omega), h.2⟩
theorem zLs.rf {M : Mem} : zLs M M := ⟨fun _ _ => rfl, rfl⟩
theorem zLs.tr {M M1 M2 : Mem} (h : zLs M M1) (h2 : zLs M1 M2) : zLs M M2 := ⟨fun s hs => (h2.1 s hs).trans (h.1 s hs), h2.2.trans h.2⟩
/-- where a row stands, counted from the top -/
def zpl (T : Mem) (r : Int) : Int := zoff T (T 60 0 r) + T 6 r 6
section JA
variable {T M : Mem} {p1 p2 p3 p4 : Int}
theorem zLw.fr (h : zLw T M) {M' : Mem} (f : zLs M M') : zLw T M' := by
  obtain ⟨h1, h2, h3, h4, h5, h6, h7, h8, h9⟩ := h
  have e104 := f.1 104 (by decide)
  have e105 := f.1 105 (by decide)
  have e106 := f.1 106 (by decide)
  have e107 := f.1 107 (by decide)
  have e108 := f.1 108 (by decide)
  have e109 := f.1 109 (by decide)
  have e110 := f.1 110 (by decide)
  have e111 := f.1 111 (by decide)
  have e112 := f.1 112 (by decide)
  have e77 := f.1 77 (by decide)
  have e78 := f.1 78 (by decide)
  have e79 := f.1 79 (by decide)
  refine ⟨?_, h2, ?_, ?_, ?_, ?_, ?_, ?_, ?_⟩
  · unfold lwM; rw [e112]; exact h1
  · unfold lwC; rw [e104]; exact h3
  · unfold lwR; rw [e105]; exact h4
  · unfold lwO; rw [e106]; exact h5
  · unfold lwT; rw [e107]; exact h6
  · unfold lwF; rw [e109]; exact h7
  · unfold lwW; rw [e108]; exact h8
  · unfold lwB; rw [e110, e111, e77, e78, e79, f.2]; exact h9
theorem zLw.m (h : zLw T M) : lwM T M := h.1
theorem zLw.n (h : zLw T M) : lwN T := h.2.1
theorem zLw.c (h : zLw T M) : lwC T M := h.2.2.1
theorem zLw.r (h : zLw T M) : lwR T M := h.2.2.2.1
theorem zLw.o (h : zLw T M) : lwO T M := h.2.2.2.2.1
theorem zLw.t (h : zLw T M) : lwT T M := h.2.2.2.2.2.1
theorem zLw.f (h : zLw T M) : lwF T M := h.2.2.2.2.2.2.1
theorem zLw.w (h : zLw T M) : lwW T M := h.2.2.2.2.2.2.2.1
theorem zLw.b (h : zLw T M) : lwB M := h.2.2.2.2.2.2.2.2
theorem zLw.wok (h : zLw T M) (hG : Good T) {c : Int} (c0 : 0 ≤ c) (c1 : c < 10) : wOK M c := by
  obtain ⟨h1, h2⟩ := h.w
  obtain ⟨h3, h4⟩ := h2 c c0 c1
  by_cases hc : c < T 11 0 15
  · obtain ⟨a1, a2, a3⟩ := h1 c c0 hc
    have a4 := (hG.cell c c0 hc).2.2.2.2.2.1
    refine ⟨fun i i0 i1 => ?_, by omega, by omega⟩
    by_cases hi : 1 + 2 * M 108 0 (16 * c) ≤ i
    · rw [h4 i hi i1]
      exact ⟨by omega, by omega⟩
    · obtain ⟨b1, b2⟩ := a3 ((i - 1) / 2) (by omega) (by omega)
      have g := hG.word c ((i - 1) / 2) c0 hc (by omega) (by omega)
      rcases (by omega : i = 2 * ((i - 1) / 2) + 1 ∨ i = 2 * ((i - 1) / 2) + 2) with e | e
      · rw [e, b1]; exact ⟨by omega, by omega⟩
      · rw [e, b2]; exact ⟨by omega, by omega⟩
  · have h5 := h3 (by omega)
    refine ⟨fun i i0 i1 => ?_, by omega, by omega⟩
    rw [h4 i (by omega) i1]
    exact ⟨by omega, by omega⟩
theorem zRA_in (hG : Good T) {a : Int} (a0 : 0 ≤ a) (a1 : a < T 11 0 8) : (0 ≤ zRA T a ∧ zRA T a < T 11 0 8) ∧ zpl T (zRA T a) = a := by
  have hn := hG.n.2.2.2.2.2.2.2
  unfold zRA
  rw [if_neg (by omega)]
  by_cases h0 : a < T 64 0 0
  · rw [if_pos h0]
    obtain ⟨x, y, z⟩ := hG.ord 0 a (by omega) (by omega) a0 h0
    rw [show 24 * 0 + a = a by omega] at x y z
    refine ⟨x, ?_⟩
    unfold zpl zoff
    rw [y, z, if_pos rfl]
    omega
  · rw [if_neg h0]
    by_cases h1 : a < T 64 0 0 + T 64 0 1
    · rw [if_pos h1]
      obtain ⟨x, y, z⟩ := hG.ord 1 (a - T 64 0 0) (by omega) (by omega) (by omega) (by omega)
      rw [show 24 * 1 + (a - T 64 0 0) = 24 + (a - T 64 0 0) by omega] at x y z
      refine ⟨x, ?_⟩
      unfold zpl zoff
      rw [y, z, if_neg (by decide), if_pos rfl]
      omega
    · rw [if_neg h1, if_pos (by omega)]
      obtain ⟨x, y, z⟩ := hG.ord 2 (a - T 64 0 0 - T 64 0 1) (by omega) (by omega) (by omega) (by omega)
      rw [show 24 * 2 + (a - T 64 0 0 - T 64 0 1) = 48 + (a - T 64 0 0 - T 64 0 1) by omega] at x y z
      refine ⟨x, ?_⟩
      unfold zpl zoff
      rw [y, z, if_neg (by decide), if_neg (by decide)]
      omega
theorem zpl_in (hG : Good T) {r : Int} (r0 : 0 ≤ r) (r1 : r < T 11 0 8) : (0 ≤ zpl T r ∧ zpl T r < T 11 0 8) ∧ zRA T (zpl T r) = r := by
  have hn := hG.n.2.2.2.2.2.2.2
  obtain ⟨a, -, -, b, c⟩ := hG.row r r0 r1
  unfold zpl zoff zRA
  rcases (by omega : T 60 0 r = 0 ∨ T 60 0 r = 1 ∨ T 60 0 r = 2) with e | e | e
  · rw [e] at b c ⊢
    rw [if_pos rfl]
    refine ⟨⟨by omega, by omega⟩, ?_⟩
    rw [if_neg (by omega), if_pos (by omega)]
    exact (congrArg (T 63 0) (by omega)).trans c
  · rw [e] at b c ⊢
    rw [if_neg (by decide), if_pos rfl]
    refine ⟨⟨by omega, by omega⟩, ?_⟩
    rw [if_neg (by omega), if_neg (by omega), if_pos (by omega)]
    exact (congrArg (T 63 0) (by omega)).trans c
  · rw [e] at b c ⊢
    rw [if_neg (by decide), if_neg (by decide)]
    refine ⟨⟨by omega, by omega⟩, ?_⟩
    rw [if_neg (by omega), if_neg (by omega), if_neg (by omega), if_pos (by omega)]
    exact (congrArg (T 63 0) (by omega)).trans c
/-- which rows a cell covers, by places of the whole table -/
theorem zpl_cov (hG : Good T) {c r : Int} (c0 : 0 ≤ c) (c1 : c < T 11 0 15) (r0 : 0 ≤ r) (r1 : r < T 11 0 8) : (zpl T (T 65 0 c) ≤ zpl T r ∧ zpl T r < zpl T (T 65 0 c) + T 67 0 c) ↔ (T 60 0 r = T 60 0 (T 65 0 c) ∧ T 6 (T 65 0 c) 6 ≤ T 6 r 6 ∧ T 6 r 6 < T 6 (T 65 0 c) 6 + T 67 0 c) := by
  obtain ⟨w1, -, w3, -, w5, -⟩ := hG.cell c c0 c1
  obtain ⟨a, -, -, b, -⟩ := hG.row r r0 r1
  obtain ⟨a', -, -, b', -⟩ := hG.row _ w1.1 w1.2
  have m0 := hG.many (p := 0) (by omega) (by omega)
  have m1 := hG.many (p := 1) (by omega) (by omega)
  have m2 := hG.many (p := 2) (by omega) (by omega)
  have hz : ∀ q, 0 ≤ q → q ≤ 2 → (q = 0 ∧ zoff T q = 0) ∨ (q = 1 ∧ zoff T q = T 64 0 0) ∨ (q = 2 ∧ zoff T q = T 64 0 0 + T 64 0 1) := fun q q0 q2 => by
    rcases (by omega : q = 0 ∨ q = 1 ∨ q = 2) with e | e | e
    · exact Or.inl ⟨e, by rw [e]; rfl⟩
    · exact Or.inr (Or.inl ⟨e, by rw [e]; rfl⟩)
    · exact Or.inr (Or.inr ⟨e, by rw [e]; rfl⟩)
  unfold zpl
  rcases hz _ a.1 a.2 with ⟨e, z⟩ | ⟨e, z⟩ | ⟨e, z⟩ <;>
  rcases hz _ a'.1 a'.2 with ⟨e', z'⟩ | ⟨e', z'⟩ | ⟨e', z'⟩ <;>
  rw [z, z'] <;> rw [e] at b <;> rw [e'] at b' w5 <;> omega
/-- which cell lies at a place -/
theorem zat_iff (hG : Good T) {c r k : Int} (c0 : 0 ≤ c) (c1 : c < T 11 0 15) (r0 : 0 ≤ r) (r1 : r < T 11 0 8) (k0 : 0 ≤ k) (k1 : k < T 11 0 4) : T 69 0 (6 * r + k) = c + 1 ↔ ((zpl T (T 65 0 c) ≤ zpl T r ∧ zpl T r < zpl T (T 65 0 c) + T 67 0 c) ∧ T 66 0 c ≤ k ∧ k < T 66 0 c + T 68 0 c) := by
  have hC := hG.nC
  rw [zpl_cov hG c0 c1 r0 r1]
  constructor
  · intro h
    obtain ⟨x, y⟩ := hG.pl r k r0 r1 k0 (by omega)
    obtain ⟨y1, y2, y3⟩ := y (by omega)
    rw [show T 69 0 (6 * r + k) - 1 = c by omega] at y1 y2 y3
    exact ⟨⟨y1, y2⟩, y3⟩
  · intro h
    exact hG.pq c r k c0 c1 r0 r1 h.1.1 h.1.2.1 h.1.2.2 h.2.1 h.2.2
theorem j_placeOf (hG : Good T) (L : zLw T M) (h0 : 0 ≤ p1) (h1 : p1 < T 11 0 8) {Qm : Int → Mem → Prop} (hq : Qm (zpl T p1) M) : wp_L_placeOf p1 M Qm := by
  obtain ⟨a, b⟩ := zpl_in hG h0 h1
  have hn := L.n
  unfold lwN at hn
  refine zLoop (σ := Unit) (fun n k _ => wp_L_placeOf_2 p1 Qm n k M) (fun _ _ => True) (zpl T p1) a.1 (s := ()) trivial (fun n _ _ => ?_) (fun n k _ k0 k1 _ ih => ?_)
  · refine ⟨⟨by omega, by omega⟩, fun _ => hq, fun z => absurd ?_ z⟩
    rw [L.o _ a.1 a.2, b]
  · refine ⟨⟨by omega, by omega⟩, fun z => ?_, fun z => ⟨⟨by omega, by omega⟩, ih () trivial⟩⟩
    rw [L.o k k0 (by omega)] at z
    have := (zRA_in hG k0 (by omega : k < T 11 0 8)).2
    rw [z] at this
    omega
theorem j_sel {x p d y w b u v : Int} : (if (if p < x then (0 : Int) else (if d ≤ p then 0 else 1)) = 0 then u else (if w < y then u else (if b ≤ w then u else v))) = if (x ≤ p ∧ p < d) ∧ y ≤ w ∧ w < b then v else u := by
  by_cases h1 : p < x
  · rw [if_pos (show (if p < x then (0 : Int) else (if d ≤ p then 0 else 1)) = 0 by rw [if_pos h1]), if_neg (by omega)]
  · by_cases h2 : d ≤ p
    · rw [if_pos (show (if p < x then (0 : Int) else (if d ≤ p then 0 else 1)) = 0 by rw [if_neg h1, if_pos h2]), if_neg (by omega)]
    · rw [if_neg (show ¬ (if p < x then (0 : Int) else (if d ≤ p then 0 else 1)) = 0 by rw [if_neg h1, if_neg h2]; decide)]
      by_cases h3 : w < y
      · rw [if_pos h3, if_neg (by omega)]
      · by_cases h4 : b ≤ w
        · rw [if_neg h3, if_pos h4, if_neg (by omega)]
        · rw [if_neg h3, if_neg h4, if_pos (by omega)]
theorem j_at (hG : Good T) (L : zLw T M) (h0 : 0 ≤ p3) (h1 : p3 < T 11 0 8) (k0 : 0 ≤ p4) (k1 : p4 < T 11 0 4) {Qm : Int → Mem → Prop} (hq : Qm (T 69 0 (6 * zRA T p3 + p4) - 1) M) : wp_L_at p3 p4 M Qm := by
  obtain ⟨a, b⟩ := zRA_in hG h0 h1
  have hn := L.n
  unfold lwN at hn
  have hC := hG.nC
  have hKn := hG.nK
  obtain ⟨x, -⟩ := hG.pl (zRA T p3) p4 a.1 a.2 k0 (by omega)
  obtain ⟨v, ev⟩ : ∃ v, v = T 69 0 (6 * zRA T p3 + p4) := ⟨_, rfl⟩
  rw [← ev] at hq x
  obtain ⟨-, -, m2, -⟩ := L.m
  refine zLoop (σ := Int) (fun n k s => wp_L_at_6 p3 p4 Qm n s k M) (fun k s => s = if 0 < v ∧ v ≤ k then v - 1 else -1) (T 11 0 15) hKn.1 (s := -1) (by rw [if_neg (by omega)]) (fun n s hs => ?_) (fun n i s i0 i1 hs ih => ?_)
  · refine ⟨fun _ => ?_, fun z => absurd z (by rw [m2]; omega)⟩
    have : s = v - 1 := by
      rw [hs]
      split <;> omega
    rw [this]; exact hq
  · obtain ⟨t0, t1, t2, t3, -⟩ := L.t i i0 i1
    obtain ⟨w1, w2, w3, w4, -⟩ := hG.cell i i0 i1
    have hpl := (zpl_in hG w1.1 w1.2).1
    refine ⟨fun z => absurd z (by rw [m2]; omega), fun _ => ⟨⟨by omega, by omega⟩, ⟨by omega, by omega⟩, ?_⟩⟩
    rw [t0]
    refine j_placeOf hG L w1.1 w1.2 ?_
    rw [t1, t2, t3]
    refine ⟨fun _ => ⟨⟨by omega, by omega⟩, ⟨by omega, by omega⟩, ⟨by omega, by omega⟩, ⟨by omega, by omega⟩, trivial⟩, fun _ => ⟨⟨by omega, by omega⟩, ⟨by omega, by omega⟩, ⟨by omega, by omega⟩, fun _ => ⟨⟨by omega, by omega⟩, ⟨by omega, by omega⟩, ⟨by omega, by omega⟩, ⟨by omega, by omega⟩, ⟨by omega, by omega⟩, ⟨by omega, by omega⟩, ⟨by omega, by omega⟩, trivial⟩, trivial⟩, ⟨by omega, by omega⟩, ?_⟩
    rw [j_sel]
    refine ih _ ?_
    have hz := zat_iff hG i0 i1 a.1 a.2 k0 k1
    rw [b, ← ev] at hz
    by_cases e : v = i + 1
    · rw [if_pos (hz.1 e), if_pos (by omega)]
      omega
    · rw [if_neg (fun z => e (hz.2 z)), hs]
      by_cases f : 0 < v ∧ v ≤ i
      · rw [if_pos f, if_pos (by omega)]
      · rw [if_neg f, if_neg (by omega)]
theorem j_zsh (hG : Good T) (L : zLw T M) {k : Int} (k0 : 0 ≤ k) (k1 : k < T 11 0 4) : 1 - M 104 0 (4 * k + 3) = zsh T k ∧ 0 ≤ zsh T k ∧ zsh T k ≤ 1 := by
  obtain ⟨-, -, -, c3⟩ := L.c k k0 k1
  obtain ⟨-, -, -, w⟩ := hG.col k k0 k1
  rw [c3]
  unfold zsh
  split <;> omega
theorem j_shows (hG : Good T) (L : zLw T M) (h0 : 0 ≤ p2) (h1 : p2 < T 11 0 15) {Qm : Int → Mem → Prop} (hq : Qm (zshows T p2) M) : wp_L_shows p2 M Qm := by
  have hn := L.n
  unfold lwN at hn
  obtain ⟨t0, t1, t2, t3, -⟩ := L.t p2 h0 h1
  obtain ⟨w1, w2, w3, w4, -⟩ := hG.cell p2 h0 h1
  unfold wp_L_shows
  rw [t1]
  refine ⟨⟨by omega, by omega⟩, ⟨by omega, by omega⟩, ⟨by omega, by omega⟩, ?_⟩
  refine zCount (fun n k s => wp_L_shows_12 p2 Qm n s k M) (fun s k => s + zsh T k) 0 (T 66 0 p2) (T 66 0 p2 + T 68 0 p2) (by omega) (fun n => ?_) (fun n k a b ih => ?_)
  · refine ⟨⟨by omega, by omega⟩, ⟨by omega, by omega⟩, ⟨by omega, by omega⟩, ⟨by omega, by omega⟩, ⟨by omega, by omega⟩, ⟨by omega, by omega⟩, ?_⟩
    rw [t1, t3]
    exact ⟨⟨by omega, by omega⟩, fun _ => hq, fun z => absurd z (by omega)⟩
  · refine ⟨⟨by omega, by omega⟩, ⟨by omega, by omega⟩, ⟨by omega, by omega⟩, ⟨by omega, by omega⟩, ⟨by omega, by omega⟩, ⟨by omega, by omega⟩, ?_⟩
    have hs := zS_bd (f := zsh T) 0 1 a (fun i x y => (j_zsh hG L (k := i) (by omega) (by omega)).2)
    have hs : 0 ≤ zF (fun s k => s + zsh T k) 0 (T 66 0 p2) k ∧ zF (fun s k => s + zsh T k) 0 (T 66 0 p2) k ≤ 10 := by
      unfold zS at hs
      omega
    obtain ⟨e1, e2⟩ := j_zsh hG L (k := k) (by omega) (by omega)
    rw [t1, t3, e1]
    exact ⟨⟨by omega, by omega⟩, fun z => absurd z (by omega), fun _ => ⟨⟨by omega, by omega⟩, ⟨by omega, by omega⟩, ⟨by omega, by omega⟩, ⟨by omega, by omega⟩, ⟨by omega, by omega⟩, ⟨by omega, by omega⟩, ih⟩⟩
theorem j_visible (hG : Good T) (L : zLw T M) {Qm : Int → Mem → Prop} (hq : Qm (zvis T) M) : wp_L_visible M Qm := by
  have hn := L.n
  unfold lwN at hn
  obtain ⟨m0, -⟩ := L.m
  refine zCount (fun n k s => wp_L_visible_4 Qm n s k M) (fun s k => s + zsh T k) 0 0 (T 11 0 4) (by omega) (fun n => ?_) (fun n k a b ih => ?_)
  · exact ⟨fun _ => hq, fun z => absurd z (by rw [m0]; omega)⟩
  · have hs := zS_bd (f := zsh T) 0 1 a (fun i x y => (j_zsh hG L (k := i) (by omega) (by omega)).2)
    have hs : 0 ≤ zF (fun s k => s + zsh T k) 0 0 k ∧ zF (fun s k => s + zsh T k) 0 0 k ≤ 10 := by
      unfold zS at hs
      omega
    obtain ⟨e1, e2⟩ := j_zsh hG L (k := k) (by omega) (by omega)
    refine ⟨fun z => absurd z (by rw [m0]; omega), fun _ => ?_⟩
    rw [e1]
    exact ⟨⟨by omega, by omega⟩, ⟨by omega, by omega⟩, ⟨by omega, by omega⟩, ⟨by omega, by omega⟩, ⟨by omega, by omega⟩, ⟨by omega, by omega⟩, ih⟩
end JA
