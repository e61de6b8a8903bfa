/-! the pure part: the class sums up -/
def zPY (S : zSt) : Prop := ∀ k k', 0 ≤ k → k < k' → k' < S 0 0 → S 1 k = S 1 k' → S 3 k' ≠ 0
/-- what a piece brings to the sum of a column -/
def zpb1 (T : Mem) (S : zSt) (c k : Int) : Int := if S 3 k = 0 ∧ 0 ≤ S 1 k ∧ S 1 k < T 11 0 8 ∧ T 60 0 (S 1 k) = 1 then zfv T (S 1 k) c else 0
/-- sheets lie in the class's memory: where pages begin -/
def zSR (u : Int) (S : zSt) (M : Mem) : Prop := M 7 u 1 = S 0 1 ∧ M 7 u 2 = S 0 0 ∧ ∀ p, 0 ≤ p → p < S 0 1 → M 41 u p = S 8 p
section DA
variable {T M : Mem}
theorem zfv_hid (hG : Good T) {r c : Int} (r0 : 0 ≤ r) (r1 : r < T 11 0 8) (c0 : T 11 0 4 ≤ c) (c1 : c < 6) : zfv T r c = 0 := by
  have hC := hG.nC
  unfold zfv
  by_cases h : zfig T r c = -1
  · rw [if_neg (fun z => z h)]
  · obtain ⟨f1, f2, -, -, f5, -⟩ := zfig_r hG r0 r1 (by omega : 0 ≤ c) c1 h
    have := (hG.cell _ f1 f2).2.2.2.1
    omega
theorem zPY_ok (hG : Good T) (h6 : zpg T 0 6 = 0) : zPY (zpg T) := by
  have put : ∀ S, zPW T S → S 0 4 < znn T → zPX T S → zPY S → ∀ k k', 0 ≤ k → k < k' → k' < S 0 0 + 1 → zset (S 1) (S 0 0) (zcd T (S 0 4)) k = zset (S 1) (S 0 0) (zcd T (S 0 4)) k' → zset (S 3) (S 0 0) (S 0 5) k' ≠ 0 := by
    intro S H h X Y k k' k0 k1 k2 e
    rw [zset_ne _ _ (by omega : k ≠ S 0 0)] at e
    by_cases hk : k' = S 0 0
    · rw [hk, zset_eq] at e ⊢
      intro h5
      obtain ⟨j, j0, j1, j2⟩ := X.1 k k0 (by omega)
      exact (zcd_ok hG).1 j (S 0 4) j0 (by omega) h (j2.trans e)
    · rw [zset_ne _ _ hk] at e ⊢
      exact Y k k' k0 k1 (by omega) e
  refine (zpg_ind hG (fun S => zPX T S ∧ zPY S) ⟨⟨fun k a b => absurd b (by show ¬ k < 0; omega), fun k a b => absurd b (by show ¬ k < 0; omega), fun k a b => absurd b (by show ¬ k < 0; omega), fun j a b => ?_⟩, fun k k' a b c => absurd c (by show ¬ k' < 0; omega)⟩ (fun S H h X => ?_) h6).1.2
  · have b : j < 0 ∨ (j = 0 ∧ (0 : Int) < 0) := b
    omega
  · have H' := H
    obtain ⟨⟨a1, a2, a3, a4, a5⟩, b, -⟩ := H
    have hb : 0 ≤ S 0 4 ∧ 0 ≤ S 0 5 := by omega
    unfold zstp
    by_cases hf : zln T S + zwn T S ≤ S 0 2 - (if znn T ≤ S 0 4 + 1 then 0 else zat T)
    · rw [if_pos hf]
      exact Or.inr ⟨zPX_put hG H' h X.1 0 (S 0 4 + 1) (fun j j0 => by omega), put S H' h X.1 X.2⟩
    · rw [if_neg hf]
      by_cases hq : (¬ zbr T (S 0 4) = 0 ∨ S 0 3 = 0) ∧ 1 ≤ zmo T S
      · rw [if_pos hq]
        have hm := hq.2
        exact Or.inr ⟨zPX_put hG H' h X.1 (S 0 5 + zmo T S) (S 0 4) (fun j j0 => by omega), put S H' h X.1 X.2⟩
      · rw [if_neg hq]
        by_cases hz : ¬ S 0 3 = 0
        · rw [if_pos hz]; exact Or.inr X
        · rw [if_neg hz]; exact Or.inl rfl
/-- codes of pieces -/
theorem zpc_v (hG : Good T) (h6 : zpg T 0 6 = 0) {k : Int} (k0 : 0 ≤ k) (k1 : k < zpg T 0 0) : 0 ≤ zpg T 1 k ∧ (zpg T 1 k < 29 ∨ (100 ≤ zpg T 1 k ∧ zpg T 1 k < 129) ∨ zpg T 1 k = 200 ∨ zpg T 1 k = 201) := by
  obtain ⟨X, H, h4, h5⟩ := zPX_ok hG h6
  obtain ⟨j, j0, j1, j2⟩ := X.1 k k0 k1
  have hj : j < znn T := by omega
  rw [← j2]
  exact ⟨(zit_r hG j0 hj).1.1, zcd_v hG j0 hj⟩
/-- the first piece of a body row -/
theorem zfirst (hG : Good T) (h6 : zpg T 0 6 = 0) {m : Int} (m0 : 0 ≤ m) (m1 : m < T 64 0 1) : ∃ k, (0 ≤ k ∧ k < zpg T 0 0) ∧ zpg T 1 k = zbo T m ∧ zpg T 3 k = 0 ∧ zpg T 2 k = zpg T 7 (zbo T m) := by
  obtain ⟨X, H, h4, h5⟩ := zPX_ok hG h6
  obtain ⟨F, G, X3, E⟩ := X
  obtain ⟨j, j0, j1, j2⟩ := (zcd_ok hG).2 m m0 m1
  obtain ⟨k, k0, k1, k2⟩ := E j j0 (Or.inl (by omega))
  rw [j2] at k2
  have z : ∀ n : Nat, ∀ k, 0 ≤ k → k < zpg T 0 0 → k.toNat < n → zpg T 1 k = zbo T m → ∃ k, (0 ≤ k ∧ k < zpg T 0 0) ∧ zpg T 1 k = zbo T m ∧ zpg T 3 k = 0 ∧ zpg T 2 k = zpg T 7 (zbo T m) := by
    intro n
    induction n with
    | zero => intro k _ _ h; omega
    | succ n ih =>
      intro k k0 k1 hn hk
      by_cases h3 : zpg T 3 k = 0
      · exact ⟨k, ⟨k0, k1⟩, hk, h3, by rw [G k k0 k1 h3, hk]⟩
      · obtain ⟨k', a, b, c⟩ := X3 k k0 k1 h3
        exact ih k' a (by omega) (by omega) (c.trans hk)
  exact z (k.toNat + 1) k k0 k1 (by omega) k2
theorem zcar_m1 (hG : Good T) (h6 : zpg T 0 6 = 0) {p : Int} (hp : p < 0) (c : Int) : zcar T (zpg T) p c = 0 := by
  have W := (zpg_wf hG).1
  refine zS_zero (fun m a b => ?_)
  obtain ⟨k, ⟨k0, k1⟩, -, -, k4⟩ := zfirst hG h6 a b
  have := (W.2.2.1 k k0 k1).1
  exact if_neg (by omega)
theorem zcar_add (hG : Good T) (h6 : zpg T 0 6 = 0) {p : Int} (p0 : 0 ≤ p) (p1 : p < zpg T 0 1) (c : Int) : zcar T (zpg T) p c = zcar T (zpg T) (p - 1) c + zS (zpb1 T (zpg T) c) (zpg T 8 p) (zend (zpg T) p) := by
  have W := (zpg_wf hG).1
  have Y := zPY_ok hG h6
  have hm := hG.many (p := 1) (by omega) (by omega)
  have er := W.end_r p0 p1
  have A : zcar T (zpg T) p c = zcar T (zpg T) (p - 1) c + zS (fun m => if zpg T 7 (zbo T m) = p then zfv T (zbo T m) c else 0) 0 (T 64 0 1) := by
    unfold zcar
    rw [← zS_add]
    refine zS_congr (fun m a b => ?_)
    by_cases h1 : zpg T 7 (zbo T m) = p
    · rw [if_pos (by omega), if_neg (by omega), if_pos h1]; omega
    · rw [if_neg h1]
      by_cases h2 : zpg T 7 (zbo T m) ≤ p
      · rw [if_pos h2, if_pos (by omega)]; omega
      · rw [if_neg h2, if_neg (by omega)]; omega
  have B : zS (zpb1 T (zpg T) c) (zpg T 8 p) (zend (zpg T) p) = zS (fun k => zS (fun m => if zpg T 1 k = zbo T m ∧ zpg T 3 k = 0 then zfv T (zbo T m) c else 0) 0 (T 64 0 1)) (zpg T 8 p) (zend (zpg T) p) := by
    refine zS_congr (fun k a b => ?_)
    unfold zpb1
    by_cases h : zpg T 3 k = 0 ∧ 0 ≤ zpg T 1 k ∧ zpg T 1 k < T 11 0 8 ∧ T 60 0 (zpg T 1 k) = 1
    · rw [if_pos h]
      obtain ⟨h3, h1, h2, h4⟩ := h
      obtain ⟨-, -, -, g4, g5⟩ := hG.row _ h1 h2
      rw [h4] at g4 g5
      have eb : zbo T (T 6 (zpg T 1 k) 6) = zpg T 1 k := g5
      rw [← zS_one (a := 0) (b := T 64 0 1) (r0 := T 6 (zpg T 1 k) 6) (v := zfv T (zpg T 1 k) c) g4.1 g4.2]
      refine zS_congr (fun m m0 m1 => ?_)
      by_cases e : m = T 6 (zpg T 1 k) 6
      · rw [if_pos e, e, eb, if_pos ⟨rfl, h3⟩]
      · rw [if_neg e, if_neg (fun z => e ?_)]
        exact zbo_inj hG m0 m1 g4.1 g4.2 (z.1.symm.trans eb.symm)
    · rw [if_neg h]
      refine (zS_zero (fun m m0 m1 => if_neg (fun z => h ?_))).symm
      have := zbo_r hG m0 m1
      rw [z.1]
      exact ⟨z.2, this.1, this.2.1, this.2.2.1⟩
  rw [A, B, zS_comm _ er.2.1 hm.1]
  congr 1
  refine zS_congr (fun m m0 m1 => ?_)
  obtain ⟨k, ⟨k0, k1⟩, k2, k3, k4⟩ := zfirst hG h6 m0 m1
  have hon := W.on k0 k1 p0 p1
  have huni : ∀ i, 0 ≤ i → i < zpg T 0 0 → zpg T 1 i = zbo T m → zpg T 3 i = 0 → i = k := fun i i0 i1 x y => by
    by_cases a : i < k
    · exact absurd k3 (Y i k i0 a k1 (x.trans k2.symm))
    · by_cases b : k < i
      · exact absurd y (Y k i k0 b i1 (k2.trans x.symm))
      · omega
  by_cases h : zpg T 7 (zbo T m) = p
  · rw [if_pos h]
    have hk := hon.mp (k4.trans h)
    refine (zS_one (a := zpg T 8 p) (b := zend (zpg T) p) (r0 := k) (v := zfv T (zbo T m) c) hk.1 hk.2).symm.trans (zS_congr (fun i i0 i1 => ?_))
    by_cases e : i = k
    · rw [if_pos e, e, if_pos ⟨k2, k3⟩]
    · rw [if_neg e, if_neg (fun z => e (huni i (by omega) (by omega) z.1 z.2))]
  · rw [if_neg h]
    refine (zS_zero (fun i i0 i1 => if_neg (fun z => h ?_))).symm
    have := huni i (by omega) (by omega) z.1 z.2
    rw [this] at i0 i1
    rw [← k4]
    exact hon.mpr ⟨i0, i1⟩
/-! the class -/
theorem k_hasPage {u p n : Int} (h : M 7 u 1 = n) (hn : n ≤ 904) {Qm : Int → Mem → Prop} (hy : 0 ≤ p ∧ p < n → Qm 1 M) (hx : ¬ (0 ≤ p ∧ p < n) → Qm 0 M) : wp_X6_hasPage u p M Qm := by
  simp only [wp_X6_hasPage, h]
  by_cases a : p < 0
  · rw [if_pos a]; exact ⟨bit_0, hx (by omega)⟩
  · rw [if_neg a]
    by_cases b : n ≤ p
    · rw [if_pos b]; exact ⟨bit_0, hx (by omega)⟩
    · rw [if_neg b, if_neg (by omega)]; exact ⟨bit_1, hy (by omega)⟩
theorem k_carriedOut {u p n c : Int} (h : M 7 u 1 = n) (hn : n ≤ 904) (c0 : 0 ≤ c) (c1 : c < 6) {Qm : Int → Mem → Prop} (hy : 0 ≤ p ∧ p < n → Qm (M 44 u (p * 6 + c)) M) (hx : ¬ (0 ≤ p ∧ p < n) → Qm 0 M) : wp_X6_carriedOut u p c M Qm := by
  refine k_hasPage h hn (fun hp => ?_) (fun hp => ?_)
  · rw [if_neg (by decide), if_neg (by omega), if_neg (by omega), if_neg (by decide)]
    exact ⟨fun _ => ⟨⟨by omega, by omega⟩, ⟨by omega, by omega⟩, ⟨by omega, by omega⟩, trivial⟩, hy hp⟩
  · rw [if_pos rfl, if_pos rfl]
    exact ⟨fun z => absurd rfl z, hx hp⟩
theorem k_pieceBeginOf {u p : Int} {S : zSt} (hS : zSR u S M) (hn : S 0 1 ≤ 904) {Qm : Int → Mem → Prop} (hy : 0 ≤ p ∧ p < S 0 1 → Qm (S 8 p) M) (hx : ¬ (0 ≤ p ∧ p < S 0 1) → Qm (S 0 0) M) : wp_X6_pieceBeginOf u p M Qm := by
  refine k_hasPage hS.1 hn (fun hp => ?_) (fun hp => ?_)
  · rw [if_neg (by decide), hS.2.2 p hp.1 hp.2]
    exact ⟨fun _ => ⟨⟨by omega, by omega⟩, trivial⟩, hy hp⟩
  · rw [if_pos rfl, hS.2.1]
    exact ⟨fun z => absurd rfl z, hx hp⟩
theorem k_pieceEndOf {u p : Int} {S : zSt} (hS : zSR u S M) (hn : 0 ≤ S 0 1 ∧ S 0 1 ≤ 904) (p0 : 0 ≤ p) {Qm : Int → Mem → Prop} (hq : Qm (zend S p) M) : wp_X6_pieceEndOf u p M Qm := by
  obtain ⟨s1, s2, s3⟩ := hS
  unfold zend at hq
  simp only [wp_X6_pieceEndOf, s1, s2]
  refine ⟨⟨by omega, by omega⟩, fun h => ?_, fun h => ⟨⟨by omega, by omega⟩, k_pieceBeginOf ⟨s1, s2, s3⟩ hn.2 (fun _ => ?_) (fun z => absurd z (by omega))⟩⟩
  · rw [if_neg (by omega)] at hq; exact hq
  · rw [if_pos (by omega)] at hq; exact hq
theorem k_figureAt (hG : Good T) (hL : zLk T) (hA : Ag T M) {r c : Int} (r0 : 0 ≤ r) (r1 : r < T 11 0 8) (c0 : 0 ≤ c) (c1 : c < 6) {Qm : Int → Mem → Prop} (hq : Qm (zfv T r c) M) : wp_X3_figureAt r c M Qm := by
  have hC := hG.nC
  have hK := hG.nK
  have e14 := hA.s14
  have e1 := hA.s1
  have e37 := hA.s37
  have n14 := hL.n.2.2
  have i1 : ∀ a b : Int, (if (1 : Int) = 0 then a else b) = b := fun _ _ => rfl
  have i0 : ∀ a b : Int, (if (0 : Int) = 0 then a else b) = a := fun _ _ => rfl
  have P := (hG.pl r c r0 r1 c0 c1).1
  obtain ⟨-, -, -, -, l5⟩ := hL.row r0 r1
  have e := l5 c c0 c1
  refine k_isShown hG hL hA (fun h => ?_) (fun h => ?_)
  · simp only [e37, e14, e1, e, n14, i1]
    refine ⟨fun _ => ⟨⟨by omega, by omega⟩, trivial⟩, fun hx => ?_, fun hx => ⟨fun hy => absurd hy (by omega), fun hy => ?_⟩⟩
    · have hz : zfig T r c = -1 := if_pos hx
      show Qm 0 M
      unfold zfv at hq
      rw [if_neg (fun z => z hz)] at hq
      exact hq
    · obtain ⟨k1, -, -, -, -, -, k8, k9, -⟩ := hL.cell hx hy
      rw [k1, k8, k9]
      refine ⟨⟨by omega, by omega⟩, fun hz => ?_, fun hz => ⟨⟨by omega, by omega⟩, ?_⟩⟩
      · have h73 : T 73 0 (T 69 0 (6 * r + c) - 1) = 0 := by
          by_cases z : T 73 0 (T 69 0 (6 * r + c) - 1) = 0
          · exact z
          · rw [if_neg z] at hz; exact absurd hz (by decide)
        have hz : zfig T r c = -1 := by
          unfold zfig
          rw [if_neg (by omega), if_neg (fun z => z h.2.2), if_pos h73]
        show Qm 0 M
        unfold zfv at hq
        rw [if_neg (fun z => z hz)] at hq
        exact hq
      · have h73 : ¬ T 73 0 (T 69 0 (6 * r + c) - 1) = 0 := fun z => by
          rw [if_pos z] at hz; exact absurd rfl hz
        have hz : zfig T r c = T 69 0 (6 * r + c) - 1 := by
          unfold zfig
          rw [if_neg (by omega), if_neg (fun z => z h.2.2), if_neg h73]
        show Qm (T 74 0 (T 69 0 (6 * r + c) - 1)) M
        unfold zfv at hq
        rw [hz, if_pos (by omega)] at hq
        exact hq
  · have hz : zfv T r c = 0 := by
      by_cases hc : c < T 11 0 4
      · have h59 : ¬ T 59 0 c = 0 := fun z => h ⟨c0, hc, z⟩
        have hz : zfig T r c = -1 := by
          unfold zfig
          by_cases z : T 69 0 (6 * r + c) - 1 < 0
          · rw [if_pos z]
          · rw [if_neg z, if_pos h59]
        unfold zfv
        rw [if_neg (fun z => z hz)]
      · exact zfv_hid hG r0 r1 (by omega) c1
    rw [hz] at hq
    exact ⟨fun z => absurd rfl z, fun _ => hq, fun z => absurd (show (0 : Int) ≤ -1 from z) (by decide)⟩
theorem k_addFigures (hG : Good T) (hL : zLk T) (hA : Ag T M) {r p n : Int} (r0 : 0 ≤ r) (r1 : r < T 11 0 8) (hn : M 7 0 1 = n) (n1 : n ≤ 904) (p0 : 0 ≤ p) (p1 : p < n) {v : Int → Int} (hv : ∀ c, 0 ≤ c → c < 6 → M 44 0 (p * 6 + c) = v c ∧ -1000000000 ≤ v c ∧ v c ≤ 1000000000) {Qm : Mem → Prop} (hq : ∀ M', Fj (fun s j k => s = 44 ∧ j = 0 ∧ p * 6 ≤ k) M M' → (∀ c, 0 ≤ c → c < 6 → M' 44 0 (p * 6 + c) = v c + zfv T r c) → Qm M') : wp_X6_addFigures 0 r p M Qm := by
  have hz44 : ∀ s (j k : Int), (s = 44 ∧ j = 0 ∧ p * 6 ≤ k) → zin s k = false := fun s j k z => by rw [z.1]; rfl
  refine zLoop (fun n k N => wp_X6_addFigures_3 0 r p Qm n k N) (fun y N => Fj (fun s j k => s = 44 ∧ j = 0 ∧ p * 6 ≤ k) M N ∧ (∀ c, 0 ≤ c → c < y → N 44 0 (p * 6 + c) = v c + zfv T r c) ∧ ∀ c, y ≤ c → c < 6 → N 44 0 (p * 6 + c) = v c) 6 (by decide) ⟨Fj.rf _ _, fun c a b => absurd b (by omega), fun c a b => (hv c a b).1⟩ (fun n N hN => ?_) (fun n y N y0 y1 hN ih => ?_)
  · exact ⟨fun _ => hq N hN.1 hN.2.1, fun z => absurd z (by decide)⟩
  · obtain ⟨f, d1, d2⟩ := hN
    have hf := zfv_r hG r0 r1 y0 y1
    have hvy := (hv y y0 y1).2
    have ey := d2 y (Int.le_refl _) y1
    refine ⟨fun z => absurd z (by omega), fun _ => k_hasPage ((f 7 0 1 (fun z => absurd z.1 (by decide))).trans hn) n1 (fun _ => ⟨fun z => absurd z (by decide), fun _ => ⟨⟨by omega, by omega⟩, ⟨by omega, by omega⟩, ⟨by omega, by omega⟩, k_figureAt hG hL (f.ag hA hz44) r0 r1 y0 y1 ?_⟩⟩) (fun z => absurd ⟨p0, p1⟩ z)⟩
    rw [ey]
    refine ⟨⟨by omega, by omega⟩, ⟨by omega, by omega⟩, ?_⟩
    intro N1 e1
    refine ⟨⟨by omega, by omega⟩, ih N1 ⟨by rw [e1]; exact f.up ⟨rfl, rfl, by omega⟩, fun c a b => ?_, fun c a b => ?_⟩⟩
    · by_cases e : c = y
      · rw [e, e1, up_eq]
      · rw [e1, up_k _ _ _ _ _ _ (by omega)]; exact d1 c a (by omega)
    · rw [e1, up_k _ _ _ _ _ _ (by omega)]; exact d2 c (by omega) b
theorem k_sumUp (hG : Good T) (hL : zLk T) (hA : Ag T M) (hS : zKS T (zpg T) M) {Qm : Mem → Prop} (hq : ∀ M', Fj (fun s j _ => s = 44 ∧ j = 0) M M' → (∀ p c, 0 ≤ p → p < zpg T 0 1 → 0 ≤ c → c < 6 → M' 44 0 (p * 6 + c) = zcar T (zpg T) p c) → Qm M') : wp_X6_sumUp 0 M Qm := by
  have hR := hG.nR
  have hm := hG.many (p := 1) (by omega) (by omega)
  have n13 := hL.n.2.1
  obtain ⟨W, w1, w2⟩ := zpg_wf hG
  obtain ⟨-, k1, k2, -, k4, k5, -⟩ := hS
  have hN := W.2.1
  have hP := W.1
  have hz44 : ∀ s (j k : Int), (s = 44 ∧ j = 0) → zin s k = false := fun s j k z => by rw [z.1]; rfl
  have fM : ∀ N, Fj (fun s j _ => s = 44 ∧ j = 0) M N → zSR 0 (zpg T) N ∧ (∀ k, 0 ≤ k → k < zpg T 0 0 → N 38 0 k = zcc (zpg T 1 k) ∧ N 39 0 k = zpg T 3 k) := fun N f => by
    have u : ∀ (s : Nat) (j k : Int), s ≠ 44 → N s j k = M s j k := fun s j k h => f s j k (fun z => h z.1)
    refine ⟨⟨(u 7 0 1 (by decide)).trans k1, (u 7 0 2 (by decide)).trans k2, fun p a b => (u 41 0 p (by decide)).trans (k5 p a b).1⟩, fun k a b => ⟨(u 38 0 k (by decide)).trans (k4 k a b).1, (u 39 0 k (by decide)).trans (k4 k a b).2.1⟩⟩
  refine zLoop (fun n k N => wp_X6_sumUp_2 0 Qm n k N) (fun y N => Fj (fun s j _ => s = 44 ∧ j = 0) M N ∧ ∀ p c, 0 ≤ p → p < y → 0 ≤ c → c < 6 → N 44 0 (p * 6 + c) = zcar T (zpg T) p c) (zpg T 0 1) hN.1 ⟨Fj.rf _ _, fun p c a b => absurd b (by omega)⟩ (fun n N hI => ?_) (fun n y N y0 y1 hI ih => ?_)
  · obtain ⟨f, d⟩ := hI
    have e1 := (fM N f).1.1
    exact ⟨fun _ => hq N f d, fun z => absurd z (by omega)⟩
  · obtain ⟨f, d⟩ := hI
    have e1 := (fM N f).1.1
    have h6 : zpg T 0 6 = 0 := by
      by_cases z : zpg T 0 6 = 0
      · exact z
      · have := (w2 z).2; omega
    have er := W.end_r y0 y1
    refine ⟨fun z => absurd z (by omega), fun _ => ⟨fun z => absurd z (by omega), fun _ => ?_⟩⟩
    have fj : ∀ N1, Fj (fun s j k => s = 44 ∧ j = 0 ∧ y * 6 ≤ k) N N1 → Fj (fun s j _ => s = 44 ∧ j = 0) M N1 := fun N1 f1 => f.tr (f1.mono (fun s j k z => ⟨z.1, z.2.1⟩))
    have dj : ∀ N1, Fj (fun s j k => s = 44 ∧ j = 0 ∧ y * 6 ≤ k) N N1 → ∀ p c, 0 ≤ p → p < y → 0 ≤ c → c < 6 → N1 44 0 (p * 6 + c) = zcar T (zpg T) p c := fun N1 f1 p c a b c0 c1 => by
      rw [f1 44 0 (p * 6 + c) (fun z => absurd z.2.2 (by omega))]; exact d p c a b c0 c1
    have hcb : ∀ c, 0 ≤ c → c < 6 → -24000000 ≤ zcar T (zpg T) (y - 1) c ∧ zcar T (zpg T) (y - 1) c ≤ 24000000 := fun c c0 c1 => by
      have := zcar_r hG (zpg T) (p := y - 1) c0 c1 hm.1 (Int.le_refl _)
      unfold zcar
      omega
    have hpb : ∀ c k, 0 ≤ c → c < 6 → zpg T 8 y ≤ k → k ≤ 901 → -901000000 ≤ zS (zpb1 T (zpg T) c) (zpg T 8 y) k ∧ zS (zpb1 T (zpg T) c) (zpg T 8 y) k ≤ 901000000 := fun c k c0 c1 a b => by
      have := zS_bd (f := zpb1 T (zpg T) c) (a := zpg T 8 y) (b := k) (-1000000) 1000000 a (fun i i0 i1 => by
        unfold zpb1
        split
        · rename_i h
          exact zfv_r hG h.2.1 h.2.2.1 c0 c1
        · omega)
      omega
    refine zLoop (fun m k N1 => wp_X6_sumUp_19 0 Qm (wp_X6_sumUp_2 0 Qm n) m y k N1) (fun c N1 => Fj (fun s j k => s = 44 ∧ j = 0 ∧ y * 6 ≤ k) N N1 ∧ ∀ i, 0 ≤ i → i < c → N1 44 0 (y * 6 + i) = zcar T (zpg T) (y - 1) i) 6 (by decide) ⟨Fj.rf _ _, fun i a b => absurd b (by omega)⟩ (fun m N1 hI => ?_) (fun m c N1 c0 c1 hI ih2 => ?_)
    · obtain ⟨f1, d1⟩ := hI
      have s1 := (fM N1 (fj N1 f1)).1
      refine ⟨fun _ => k_pieceEndOf s1 ⟨hN.1, by omega⟩ y0 (k_pieceBeginOf s1 (by omega) (fun _ => ?_) (fun z => absurd ⟨y0, y1⟩ z)), fun z => absurd z (by decide)⟩
      rw [show min (zend (zpg T) y) 904 = zend (zpg T) y by omega]
      refine zLoop (fun m k N2 => wp_X6_sumUp_69 0 Qm (wp_X6_sumUp_2 0 Qm n) m y (zend (zpg T) y) k N2) (fun k N2 => Fj (fun s j k => s = 44 ∧ j = 0 ∧ y * 6 ≤ k) N N2 ∧ ∀ c, 0 ≤ c → c < 6 → N2 44 0 (y * 6 + c) = zcar T (zpg T) (y - 1) c + zS (zpb1 T (zpg T) c) (zpg T 8 y) k) (zend (zpg T) y) er.2.1 ⟨f1, fun c a b => by rw [zS_self _ (Int.le_refl _), d1 c a b]; omega⟩ (fun m N2 hI => ?_) (fun m k N2 k0 k1' hI ih3 => ?_)
      · obtain ⟨f2, d2⟩ := hI
        refine ⟨fun _ => ⟨⟨by omega, by omega⟩, ih N2 ⟨fj N2 f2, fun p c a b c0 c1 => ?_⟩⟩, fun z => absurd z (by omega)⟩
        by_cases e : p = y
        · rw [e, d2 c c0 c1, ← zcar_add hG h6 y0 y1]
        · exact dj N2 f2 p c a (by omega) c0 c1
      · obtain ⟨f2, d2⟩ := hI
        obtain ⟨s2, t2⟩ := fM N2 (fj N2 f2)
        obtain ⟨t38, t39⟩ := t2 k (by omega) (by omega)
        have hA2 : Ag T N2 := (fj N2 f2).ag hA hz44
        have hcv := zpc_v hG h6 (k := k) (by omega) (by omega)
        have hno : zpb1 T (zpg T) = zpb1 T (zpg T) := rfl
        have hgo0 : (∀ c, zpb1 T (zpg T) c k = 0) → wp_X6_sumUp_122 0 Qm (wp_X6_sumUp_2 0 Qm n) (wp_X6_sumUp_69 0 Qm (wp_X6_sumUp_2 0 Qm n) m) y (zend (zpg T) y) k N2 := fun h => ⟨⟨by omega, by omega⟩, ih3 N2 ⟨f2, fun c a b => by rw [zS_succ _ k0, h, d2 c a b]; omega⟩⟩
        refine ⟨fun z => absurd z (by omega), fun _ => ⟨⟨by omega, by omega⟩, fun h3 => hgo0 (fun c => ?_), fun h3 => ⟨⟨by omega, by omega⟩, ?_⟩⟩⟩
        · rw [t39] at h3
          exact if_neg (fun z => h3 z.1)
        · rw [t39] at h3
          rw [t38]
          refine k_isBodyRow hG hL hA2 (fun hb => ⟨fun z => absurd z (by decide), fun _ => ?_⟩) (fun hb => ⟨fun _ => hgo0 (fun c => ?_), fun z => absurd rfl z⟩)
          · have ec : zcc (zpg T 1 k) = zpg T 1 k := by
              unfold zcc at hb ⊢
              split at hb
              · rename_i h; rw [if_pos h]
              · split at hb
                · omega
                · omega
            rw [ec] at hb
            have e13 := hA2.s13
            have l1 := (hL.row hb.1 hb.2.1).1
            rw [t38, ec, e13, n13, l1]
            refine ⟨⟨by omega, by omega⟩, ⟨by omega, by omega⟩, k_addFigures hG hL hA2 hb.1 hb.2.1 s2.1 (by omega) y0 y1 (v := fun c => zcar T (zpg T) (y - 1) c + zS (zpb1 T (zpg T) c) (zpg T 8 y) k) (fun c c0 c1 => ⟨d2 c c0 c1, ?_⟩) (fun N3 f3 d3 => ⟨⟨by omega, by omega⟩, ih3 N3 ⟨f2.tr f3, fun c c0 c1 => ?_⟩⟩)⟩
            · have a := hcb c c0 c1
              have b := hpb c k c0 c1 k0 (by omega)
              show -1000000000 ≤ zcar T (zpg T) (y - 1) c + zS (zpb1 T (zpg T) c) (zpg T 8 y) k ∧ zcar T (zpg T) (y - 1) c + zS (zpb1 T (zpg T) c) (zpg T 8 y) k ≤ 1000000000
              omega
            · have ep : zpb1 T (zpg T) c k = zfv T (zpg T 1 k) c := if_pos ⟨h3, hb.1, hb.2.1, hb.2.2⟩
              rw [d3 c c0 c1, zS_succ _ k0, ep]
              show zcar T (zpg T) (y - 1) c + zS (zpb1 T (zpg T) c) (zpg T 8 y) k + zfv T (zpg T 1 k) c = _
              omega
          · refine if_neg (fun z => hb ?_)
            have ec : zcc (zpg T 1 k) = zpg T 1 k := by
              unfold zcc
              rw [if_pos (by omega)]
            rw [ec]
            exact z.2
    · obtain ⟨f1, d1⟩ := hI
      have s1 := (fM N1 (fj N1 f1)).1
      have hset : ∀ v N2, v = zcar T (zpg T) (y - 1) c → N2 = up N1 44 0 (y * 6 + c) v → wp_X6_sumUp_19 0 Qm (wp_X6_sumUp_2 0 Qm n) m y (c + 1) N2 := fun v N2 ev e2 => ih2 N2 ⟨by rw [e2]; exact f1.up ⟨rfl, rfl, by omega⟩, fun i a b => by
        by_cases e : i = c
        · rw [e, e2, up_eq]; exact ev
        · rw [e2, up_k _ _ _ _ _ _ (by omega)]; exact d1 i a (by omega)⟩
      refine ⟨fun z => absurd z (by omega), fun _ => ⟨⟨by omega, by omega⟩, ⟨by omega, by omega⟩, ⟨by omega, by omega⟩, k_carriedOut s1.1 (by omega) c0 c1 (fun hp => ⟨⟨by omega, by omega⟩, fun N2 e2 => ⟨⟨by omega, by omega⟩, hset _ N2 ?_ e2⟩⟩) (fun hp => ⟨⟨by omega, by omega⟩, fun N2 e2 => ⟨⟨by omega, by omega⟩, hset _ N2 ?_ e2⟩⟩)⟩⟩
      · exact dj N1 f1 (y - 1) c hp.1 (by omega) c0 c1
      · exact (zcar_m1 hG h6 (by omega) c).symm
end DA
