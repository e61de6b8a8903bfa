/-! the pure part: sort in the reference, and the call -/
section ZD
variable {T M : Mem} {O : zSt} {κ : Nat → Int} {K : (Nat → Int) → Mem → Prop} {p1 p2 : Int}
def zZ63 : Nat → Int → Int → Prop := fun s j k => s = 63 ∧ j = 0 ∧ 24 ≤ k ∧ k < 48
theorem zAh.z63 {N : Mem} (hx : zAh T M) (f : Fj zZ63 M N) : zAh T N := hx.fj f (fun s j k z => Or.inr (Or.inl z.1))
theorem q_insert (hG : Good T) {p f x y4 : Int} (x0 : 0 ≤ x) (x1 : x < T 11 0 8) (c0 : 0 ≤ p) (c1 : p < T 11 0 4) (hy : 0 ≤ y4 ∧ y4 < 100) {Qm : Int → Mem → Prop} {K2 : Int → Mem → Prop} : ∀ (k : Nat) (a : Int → Int) (N : Mem), (k : Int) < T 64 0 1 → zAh T N → (∀ i, 0 ≤ i → i < T 64 0 1 → N 63 0 (24 + i) = a i) → (∀ i, 0 ≤ i → i < (k : Int) → 0 ≤ a i ∧ a i < T 11 0 8) → (∀ N', Fj zZ63 N N' → (∀ i, 0 ≤ i → i < T 64 0 1 → N' 63 0 (24 + i) = zin1 T p f x k a i) → K2 (y4 + 1) N') → ∃ n, wp_X10_sort_140 p f Qm K2 n y4 x (k : Int) N := by
  have hm := hG.many (p := 1) (by omega) (by omega)
  have hR := hG.nR
  intro k
  induction k with
  | zero =>
    intro a N hk hx hs hr hq
    refine ⟨1, fun _ => ⟨⟨by omega, by omega⟩, ⟨by omega, by omega⟩, fun N6 e6 => ⟨⟨by omega, by omega⟩, hq N6 (by rw [e6]; exact (Fj.rf _ _).up ⟨rfl, rfl, by omega, by omega⟩) (fun i i0 i1 => ?_)⟩⟩, fun z => absurd z (by omega)⟩
    show N6 63 0 (24 + i) = zset a 0 x i
    unfold zset
    by_cases e : i = 0
    · rw [if_pos e, e, e6]
      exact up_eq _ _ _ _ _
    · rw [if_neg e, e6, up_k _ _ _ _ _ _ (by omega)]
      exact hs i i0 i1
  | succ k ih =>
    intro a N hk hx hs hr hq
    have ek : 24 + ((k + 1 : Nat) : Int) - 1 = 24 + (k : Int) := by omega
    have ek2 : ((k + 1 : Nat) : Int) + -1 = (k : Int) := by omega
    have sk := hs k (by omega) (by omega)
    have hrk := hr k (by omega) (by omega)
    have hq' : (∀ N', Fj zZ63 N N' → (∀ i, 0 ≤ i → i < T 64 0 1 → N' 63 0 (24 + i) = (if zga T p f x (a k) = 0 then zset a ((k + 1 : Nat) : Int) x else zin1 T p f x k (zset a ((k + 1 : Nat) : Int) (a k))) i) → K2 (y4 + 1) N') := hq
    by_cases hg : zga T p f x (a k) = 0
    · rw [if_pos hg] at hq'
      refine ⟨1, fun z => absurd z (by omega), fun _ => ⟨⟨by omega, by omega⟩, ⟨by omega, by omega⟩, ⟨by omega, by omega⟩, ?_⟩⟩
      rw [ek, sk]
      refine q_isBehind hG hx x0 x1 hrk.1 hrk.2 c0 c1 ⟨fun _ => ⟨⟨by omega, by omega⟩, ⟨by omega, by omega⟩, fun N6 e6 => ⟨⟨by omega, by omega⟩, hq' N6 (by rw [e6]; exact (Fj.rf _ _).up ⟨rfl, rfl, by omega, by omega⟩) (fun i i0 i1 => ?_)⟩⟩, fun z => absurd hg z⟩
      unfold zset
      by_cases e : i = ((k + 1 : Nat) : Int)
      · rw [if_pos e, e, e6]
        exact up_eq _ _ _ _ _
      · rw [if_neg e, e6, up_k _ _ _ _ _ _ (by omega)]
        exact hs i i0 i1
    · rw [if_neg hg] at hq'
      obtain ⟨N2, e2⟩ : ∃ N2, N2 = up N 63 0 (24 + ((k + 1 : Nat) : Int)) (a k) := ⟨_, rfl⟩
      have f2 : Fj zZ63 N N2 := by rw [e2]; exact (Fj.rf _ _).up ⟨rfl, rfl, by omega, by omega⟩
      obtain ⟨n, hn⟩ := ih (zset a ((k + 1 : Nat) : Int) (a k)) N2 (by omega) (hx.z63 f2) (fun i i0 i1 => by
        unfold zset
        by_cases e : i = ((k + 1 : Nat) : Int)
        · rw [if_pos e, e, e2]
          exact up_eq _ _ _ _ _
        · rw [if_neg e, e2, up_k _ _ _ _ _ _ (by omega)]
          exact hs i i0 i1) (fun i i0 i1 => by
        unfold zset
        rw [if_neg (by omega)]
        exact hr i i0 (by omega)) (fun N' f' d' => hq' N' (f2.tr f') d')
      refine ⟨n + 1, fun z => absurd z (by omega), fun _ => ⟨⟨by omega, by omega⟩, ⟨by omega, by omega⟩, ⟨by omega, by omega⟩, ?_⟩⟩
      rw [ek, sk]
      refine q_isBehind hG hx x0 x1 hrk.1 hrk.2 c0 c1 ⟨fun z => absurd z hg, fun _ => ⟨⟨by omega, by omega⟩, ⟨by omega, by omega⟩, ⟨by omega, by omega⟩, ⟨by omega, by omega⟩, ⟨by omega, by omega⟩, ?_⟩⟩
      intro N3 e3
      rw [sk, ← e2] at e3
      refine ⟨⟨by omega, by omega⟩, ?_⟩
      rw [ek2, e3]
      exact hn
/-- what the reference's sorting writes on -/
def zZS : Nat → Int → Int → Prop := fun s j k => (s = 63 ∧ j = 0 ∧ 24 ≤ k ∧ k < 48) ∨ s = 85
theorem zAh.zs {N : Mem} (hx : zAh T M) (f : Fj zZS M N) : zAh T N := hx.fj f (fun s j k z => by unfold zZS at z; omega)
theorem q_sortRows (hG : Good T) (hx : zAh T M) {p f : Int} (c0 : 0 ≤ p) (c1 : p < T 11 0 4) (hs : ∀ i, 0 ≤ i → i < T 64 0 1 → M 63 0 (24 + i) = T 63 0 (24 + i)) {Qm : Int → Mem → Prop} (hq : ∀ N, Fj zZS M N → (∀ i, 0 ≤ i → i < T 64 0 1 → N 63 0 (24 + i) = zsrt T p f (max 1 (T 64 0 1)) i) → Qm (zmvd T p f (T 64 0 1)) N) : ∃ n, wp_X10_sort_76 p f Qm n 0 M := by
  have hm := hG.many (p := 1) (by omega) (by omega)
  refine zLoop (fun n y N => wp_X10_sort_76 p f Qm n y N) (fun y N => Fj zZS M N ∧ (∀ i, 0 ≤ i → i < T 64 0 1 → N 63 0 (24 + i) = T 63 0 (24 + i)) ∧ ∀ i, 0 ≤ i → i < y → N 85 0 i = T 63 0 (24 + i)) (T 64 0 1) hm.1 ⟨Fj.rf _ _, hs, fun i a b => absurd b (by omega)⟩ (fun n N hN => ?_) (fun n y N y0 y1 hN ih => ?_)
  · obtain ⟨fN, sN, dN⟩ := hN
    have hxN := hx.zs fN
    have e64 := hxN.e 64 (by decide)
    refine ⟨fun _ => ?_, fun z => absurd z (by rw [e64]; omega)⟩
    refine zLoop (fun n y N1 => wp_X10_sort_113 p f Qm n y N1) (fun y N1 => Fj zZ63 N N1 ∧ ∀ i, 0 ≤ i → i < T 64 0 1 → N1 63 0 (24 + i) = zsrt T p f y i) (max 1 (T 64 0 1)) (by omega) ⟨Fj.rf _ _, fun i i0 i1 => by rw [sN i i0 i1]; unfold zsrt; rw [zF_self _ _ (by omega)]⟩ (fun n N1 hN1 => ?_) (fun n y N1 y0 y1 hN1 ih => ?_)
    · obtain ⟨f1, d1⟩ := hN1
      have e64' := (hxN.z63 f1).e 64 (by decide)
      have g1 : Fj zZS M N1 := fN.tr (f1.mono (fun s j k z => Or.inl z))
      refine ⟨fun _ => ?_, fun z => absurd z (by rw [e64']; omega)⟩
      have hP := zPm_srt hG p f (n := max 1 (T 64 0 1)) (by omega) (Int.le_refl _)
      refine zCount (fun n k v => wp_X10_sort_220 p f Qm n v k N1) (fun s k => s + (if ¬ T 6 (zsrt T p f (max 1 (T 64 0 1)) k) 6 = k then (1 : Int) else 0)) 0 0 (T 64 0 1) hm.1 (fun n => ?_) (fun n k k0 k1 ih => ?_)
      · show wp_X10_sort_220 p f Qm (n + 1) (zmvd T p f (T 64 0 1)) (T 64 0 1) N1
        simp only [wp_X10_sort_220, e64']
        exact ⟨fun _ => hq N1 g1 d1, fun z => absurd z (by omega)⟩
      · have hb := zmvd_r T p f k0
        have eb : zF (fun s k => s + (if ¬ T 6 (zsrt T p f (max 1 (T 64 0 1)) k) 6 = k then (1 : Int) else 0)) 0 0 k = zmvd T p f k := rfl
        rw [eb] at ih ⊢
        have e85 : N1 85 0 k = T 63 0 (24 + k) := by rw [f1 85 0 k (fun z => absurd z.1 (by decide))]; exact dN k k0 k1
        have e63 := d1 k k0 k1
        have ei : (if ¬ T 63 0 (24 + k) = zsrt T p f (max 1 (T 64 0 1)) k then (1 : Int) else 0) = (if ¬ T 6 (zsrt T p f (max 1 (T 64 0 1)) k) 6 = k then (1 : Int) else 0) := by
          obtain ⟨B, eB⟩ : ∃ B, B = zsrt T p f (max 1 (T 64 0 1)) k := ⟨_, rfl⟩
          have hBk := hP.1 k k0 k1
          rw [← eB] at hBk ⊢
          by_cases e : T 63 0 (24 + k) = B
          · have := (hG.ord 1 k (by omega) (by omega) k0 k1).2.2
            rw [show (24 : Int) * 1 + k = 24 + k by omega, e] at this
            rw [if_neg (fun z => z e), if_neg (fun z => z this)]
          · rw [if_pos e]
            have h2 : ¬ T 6 B 6 = k := fun z => by
              obtain ⟨-, -, -, -, w⟩ := hG.row B hBk.1.1 hBk.1.2
              rw [hBk.2, z, show (24 : Int) * 1 + k = 24 + k by omega] at w
              exact e w
            rw [if_pos h2]
        simp only [wp_X10_sort_220, e64', e85, e63, ei]
        have hb2 : 0 ≤ (if ¬ T 6 (zsrt T p f (max 1 (T 64 0 1)) k) 6 = k then (1 : Int) else 0) ∧ (if ¬ T 6 (zsrt T p f (max 1 (T 64 0 1)) k) 6 = k then (1 : Int) else 0) ≤ 1 := by split <;> omega
        exact ⟨fun z => absurd z (by omega), fun _ => ⟨⟨by omega, by omega⟩, ⟨by omega, by omega⟩, ⟨by omega, by omega⟩, ⟨by omega, by omega⟩, ⟨by omega, by omega⟩, ih⟩⟩
    · obtain ⟨f1, d1⟩ := hN1
      have hx1 := hxN.z63 f1
      have e64' := hx1.e 64 (by decide)
      have hP := zPm_srt hG p f y0 (by omega)
      have hPy := (hP.1 y (by omega) (by omega)).1
      refine ⟨fun z => absurd z (by rw [e64']; omega), fun _ => ⟨⟨by omega, by omega⟩, ⟨by omega, by omega⟩, ?_⟩⟩
      have ey : ((y.toNat : Nat) : Int) = y := by omega
      have := q_insert (Qm := Qm) (K2 := wp_X10_sort_113 p f Qm n) (f := f) (y4 := y) hG hPy.1 hPy.2 c0 c1 ⟨by omega, by omega⟩ y.toNat (zsrt T p f y) N1 (by omega) hx1 d1 (fun i i0 i1 => (hP.1 i i0 (by omega)).1) (fun N' f' d' => ih N' ⟨f1.tr f', fun i i0 i1 => by
        rw [d' i i0 i1]
        unfold zsrt
        rw [zF_succ _ _ y0]⟩)
      rw [ey] at this
      rw [d1 y (by omega) (by omega)]
      exact this
  · obtain ⟨fN, sN, dN⟩ := hN
    have hxN := hx.zs fN
    have e64 := hxN.e 64 (by decide)
    refine ⟨fun z => absurd z (by rw [e64]; omega), fun _ => ⟨⟨by omega, by omega⟩, ⟨by omega, by omega⟩, ⟨by omega, by omega⟩, ?_⟩⟩
    intro N2 e2
    refine ⟨⟨by omega, by omega⟩, ih N2 ⟨by rw [e2]; exact fN.up (Or.inr rfl), fun i a b => by rw [e2, up_s _ _ _ _ (by decide)]; exact sN i a b, fun i a b => ?_⟩⟩
    by_cases e : i = y
    · rw [e, e2, up_eq, sN y y0 y1]
    · rw [e2, up_k _ _ _ _ _ _ e]; exact dN i a (by omega)
theorem q_sort (hG : Good T) (hA : Ag T M) {p f : Int} {Qm : Int → Mem → Prop} (h1 : ¬ (0 ≤ p ∧ p < T 11 0 4) → Qm 0 (up M 11 0 59 1)) (h2 : 0 ≤ p → p < T 11 0 4 → (∃ c, (0 ≤ c ∧ c < T 11 0 15) ∧ T 60 0 (T 65 0 c) = 1 ∧ 1 < T 67 0 c) → Qm 0 (up M 11 0 59 2)) (h0 : 0 ≤ p → p < T 11 0 4 → (∀ c, 0 ≤ c → c < T 11 0 15 → T 60 0 (T 65 0 c) = 1 → T 67 0 c ≤ 1) → ∃ n, wp_X10_sort_76 p f Qm n 0 (up M 11 0 59 0)) : wp_X10_sort p f M Qm := by
  have hK := hG.nK
  have hR := hG.nR
  have f15 := hA.f15
  have e60 := hA.s60
  have e65 := hA.s65
  have e67 := hA.s67
  refine zLoop (fun n y v => wp_X10_sort_5 p f Qm n v y M) (fun y v => (v = 1 ∧ ∀ c, 0 ≤ c → c < y → T 60 0 (T 65 0 c) = 1 → T 67 0 c ≤ 1) ∨ (v = 0 ∧ ∃ c, (0 ≤ c ∧ c < T 11 0 15) ∧ T 60 0 (T 65 0 c) = 1 ∧ 1 < T 67 0 c)) (T 11 0 15) hK.1 (Or.inl ⟨rfl, fun c a b => absurd b (by omega)⟩) (fun n v hv => ?_) (fun n y v y0 y1 hv ih => ?_)
  · show wp_X10_sort_5 p f Qm (n + 1) v (T 11 0 15) M
    simp only [wp_X10_sort_5, f15]
    refine ⟨fun _ => q_isColumn hG hA (fun hp => ?_) (fun hp => q_goes1 rfl ⟨fun z => absurd rfl z, fun _ => h1 hp⟩), fun z => absurd z (by omega)⟩
    rcases hv with ⟨e, w⟩ | ⟨e, w⟩
    · rw [e]
      exact q_goes0 (by decide) (by decide) (by decide) ⟨fun _ => h0 hp.1 hp.2 w, fun z => absurd z (by decide)⟩
    · rw [e]
      exact q_goes2 (by decide) rfl ⟨fun z => absurd rfl z, fun _ => h2 hp.1 hp.2 w⟩
  · show wp_X10_sort_5 p f Qm (n + 1) v y M
    obtain ⟨w1, -⟩ := hG.cell y y0 y1
    simp only [wp_X10_sort_5, f15, e60, e65, e67]
    refine ⟨fun z => absurd z (by omega), fun _ => ⟨fun _ => ⟨⟨by omega, by omega⟩, ⟨by omega, by omega⟩, fun _ => ⟨⟨by omega, by omega⟩, trivial⟩, trivial⟩, ⟨by omega, by omega⟩, ih _ ?_⟩⟩
    rcases hv with ⟨e, w⟩ | ⟨e, w⟩
    · rw [e, if_neg (by decide)]
      by_cases a : T 60 0 (T 65 0 y) = 1
      · rw [if_neg (fun z => z a)]
        by_cases b : 1 < T 67 0 y
        · rw [if_pos b]; exact Or.inr ⟨rfl, y, ⟨y0, y1⟩, a, b⟩
        · rw [if_neg b]
          refine Or.inl ⟨rfl, fun c c0 c1 x => ?_⟩
          by_cases ec : c = y
          · rw [ec]; omega
          · exact w c c0 (by omega) x
      · rw [if_pos a]
        refine Or.inl ⟨rfl, fun c c0 c1 x => ?_⟩
        by_cases ec : c = y
        · rw [ec] at x; exact absurd x a
        · exact w c c0 (by omega) x
    · rw [e, if_pos rfl]; exact Or.inr ⟨rfl, w⟩
/-- what a sort writes on -/
def zSQ : Nat → Int → Int → Prop := fun s j k => s = 103 ∨ (s = 11 ∧ k = 59) ∨ s = 85 ∨ (s = 10 ∧ k = 10) ∨ (s = 16 ∧ j = 0 ∧ 0 ≤ k) ∨ (s = 6 ∧ k = 6) ∨ (s = 63 ∧ j = 0 ∧ 24 ≤ k ∧ k < 48)
/-- a new memory, columns, rows and cells as many as before -/
theorem Iv.nx {T' M' : Mem} (h : Iv T O κ M) (e : T' 11 0 4 = T 11 0 4 ∧ T' 11 0 8 = T 11 0 8 ∧ T' 11 0 15 = T 11 0 15) (hG' : Good T') (hL' : zLk T') (hA' : Ag T' M') (hp' : zKp κ T') (hw' : zNW T') (fr : ∀ (s : Nat) (j k : Int), ((96 ≤ s ∧ s ≤ 102) ∨ (s = 11 ∧ (k = 54 ∨ k = 58 ∨ k = 30)) ∨ (j = 1 ∧ (s = 7 ∨ (38 ≤ s ∧ s ≤ 44))) ∨ s = 24 ∨ s = 27 ∨ s = 36 ∨ (77 ≤ s ∧ s ≤ 79) ∨ s = 4) → M' s j k = M s j k) (h10 : ¬ M' 10 0 10 = 0) : Iv T' O κ M' := by
  obtain ⟨hG, hL, hA, hO, hR, hK, hd, hp, hw, hb⟩ := h
  obtain ⟨f4, f8, f15⟩ := e
  have hR' := hR.fr (N := M') (fun s j k a b => fr s j k (by omega)) (fr 11 0 54 (by omega)) (fr 11 0 58 (by omega))
  exact ⟨hG', hL', hA', ⟨hO.1, hO.2.1, hO.2.2.1, by rw [f4]; exact hO.2.2.2⟩, by unfold zOR at hR' ⊢; rw [f4]; exact hR', hK.fr (fun s k a => fr s 1 k (by omega)), fun z => absurd z h10, hp', hw', hb.fr f4 f8 f15 (fr 11 0 30 (by omega)) (fr 4 0 7 (by omega)) (fun j k => fr 24 j k (by omega)) (fun j k => fr 27 j k (by omega)) (fun j k => fr 36 j k (by omega)) (fun k => fr 77 0 k (by omega)) (fun k => fr 78 0 k (by omega)) (fun k => fr 79 0 k (by omega))⟩
/-- sorted -/
theorem zsort_good {F : Mem} (hG : Good T) (hL : zLk T) (hA : Ag T M) (hp : zKp κ T) (hw : zNW T) (fr : Fj zSQ M F) {B : Int → Int} (hP : zPm T B) (h16 : ∀ i, 0 ≤ i → i < T 64 0 1 → F 16 0 i = B i) (h63 : ∀ i, 0 ≤ i → i < T 64 0 1 → F 63 0 (24 + i) = B i) (h6 : ∀ i, 0 ≤ i → i < T 64 0 1 → F 6 (B i) 6 = i) (h6n : ∀ r, ¬ T 60 0 r = 1 → F 6 r 6 = T 6 r 6) (hone : ∀ c, 0 ≤ c → c < T 11 0 15 → T 60 0 (T 65 0 c) = 1 → T 67 0 c ≤ 1) : (F 11 0 4 = T 11 0 4 ∧ F 11 0 8 = T 11 0 8 ∧ F 11 0 15 = T 11 0 15) ∧ Good F ∧ zLk F ∧ zKp κ F ∧ zNW F := by
  have hm0 := hG.many (p := 0) (by omega) (by omega)
  have hm1 := hG.many (p := 1) (by omega) (by omega)
  have hm2 := hG.many (p := 2) (by omega) (by omega)
  have fF : ∀ (s : Nat) (j k : Int), zin s k = true → ¬ zSQ s j k → F s j k = T s j k := fun s j k a b => (fr s j k b).trans (hA s j k a)
  have eS : ∀ s : Nat, (s = 1 ∨ s = 2 ∨ (12 ≤ s ∧ s ≤ 15) ∨ (17 ≤ s ∧ s ≤ 23) ∨ s = 25 ∨ s = 26 ∨ s = 33 ∨ s = 37 ∨ (56 ≤ s ∧ s ≤ 62) ∨ (64 ≤ s ∧ s ≤ 76)) → F s = T s := fun s hs => funext fun j => funext fun k => fF s j k (by
    simp only [zin, Bool.or_eq_true, Bool.and_eq_true, decide_eq_true_eq]
    omega) (by unfold zSQ; omega)
  have f11 : ∀ k, (k = 4 ∨ k = 8 ∨ k = 15 ∨ k = 24 ∨ k = 25 ∨ k = 26) → F 11 0 k = T 11 0 k := fun k hk => fF 11 0 k (by rcases hk with rfl | rfl | rfl | rfl | rfl | rfl <;> rfl) (by unfold zSQ; omega)
  have f10 : ∀ k, (k = 7 ∨ k = 8 ∨ k = 9) → F 10 0 k = T 10 0 k := fun k hk => fF 10 0 k (by rcases hk with rfl | rfl | rfl <;> rfl) (by unfold zSQ; omega)
  have f63 : ∀ k, (k < 24 ∨ 48 ≤ k) → F 63 0 k = T 63 0 k := fun k hk => fF 63 0 k rfl (by unfold zSQ; omega)
  have f6 : ∀ r k, k ≠ 6 → F 6 r k = T 6 r k := fun r k hk => fF 6 r k rfl (by unfold zSQ; omega)
  have f16 : ∀ k, k < 0 → F 16 0 k = T 16 0 k := fun k hk => fF 16 0 k rfl (by unfold zSQ; omega)
  have e60 := eS 60 (by decide)
  have e64 := eS 64 (by decide)
  have e65 := eS 65 (by decide)
  have e67 := eS 67 (by decide)
  have c4 := f11 4 (by decide)
  have c8 := f11 8 (by decide)
  have c15 := f11 15 (by decide)
  -- where body rows stand
  have hpos : ∀ r, 0 ≤ r → r < T 11 0 8 → T 60 0 r = 1 → (0 ≤ F 6 r 6 ∧ F 6 r 6 < T 64 0 1) ∧ B (F 6 r 6) = r := fun r r0 r1 er => by
    obtain ⟨i, hi, ei⟩ := hP.2.2 r r0 r1 er
    have := h6 i hi.1 hi.2
    rw [ei] at this
    rw [this]
    exact ⟨hi, ei⟩
  have hinj : ∀ r q, 0 ≤ r → r < T 11 0 8 → 0 ≤ q → q < T 11 0 8 → T 60 0 r = T 60 0 q → F 6 r 6 = F 6 q 6 → r = q := fun r q r0 r1 q0 q1 e e6 => by
    by_cases z : T 60 0 r = 1
    · have a := (hpos r r0 r1 z).2
      have b := (hpos q q0 q1 (by omega)).2
      rw [e6] at a
      omega
    · rw [h6n r z, h6n q (by omega)] at e6
      obtain ⟨-, -, -, -, a⟩ := hG.row r r0 r1
      obtain ⟨-, -, -, -, b⟩ := hG.row q q0 q1
      rw [← a, ← b, e, e6]
  have gO : zGO F := by
    unfold zGO
    rw [e60, e64, c8]
    intro p k p0 p2 k0 k1
    rcases (by omega : p = 0 ∨ p = 1 ∨ p = 2) with rfl | rfl | rfl
    · obtain ⟨a, b, d⟩ := hG.ord 0 k p0 p2 k0 k1
      rw [f63 _ (by omega), h6n _ (by omega)]
      exact ⟨a, b, d⟩
    · rw [show (24 : Int) * 1 + k = 24 + k by omega, h63 k k0 k1, h6 k k0 k1]
      exact ⟨(hP.1 k k0 k1).1, (hP.1 k k0 k1).2, rfl⟩
    · obtain ⟨a, b, d⟩ := hG.ord 2 k p0 p2 k0 k1
      rw [f63 _ (by omega), h6n _ (by omega)]
      exact ⟨a, b, d⟩
  have gR : zGR F := by
    unfold zGR
    rw [e60, eS 61 (by decide), eS 62 (by decide), e64, c8]
    intro r r0 r1
    obtain ⟨a, b, d, x, y⟩ := hG.row r r0 r1
    refine ⟨a, b, d, ?_⟩
    by_cases z : T 60 0 r = 1
    · obtain ⟨u, v⟩ := hpos r r0 r1 z
      rw [z, show (24 : Int) * 1 + F 6 r 6 = 24 + F 6 r 6 by omega, h63 _ u.1 u.2]
      exact ⟨u, v⟩
    · have hmm := hG.many a.1 a.2
      rw [h6n r z, f63 _ (by omega)]
      exact ⟨x, y⟩
  have gK : zGK F := by
    unfold zGK
    rw [c4, c8, c15, e60, e64, e65, eS 66 (by decide), e67, eS 68 (by decide), eS 72 (by decide), eS 73 (by decide), eS 74 (by decide), eS 75 (by decide), eS 76 (by decide)]
    intro c c0 c1
    obtain ⟨w1, w2, w3, w4, w5, w6⟩ := hG.cell c c0 c1
    refine ⟨w1, w2, w3, w4, ?_, w6⟩
    by_cases z : T 60 0 (T 65 0 c) = 1
    · have := (hpos _ w1.1 w1.2 z).1
      have := hone c c0 c1 z
      rw [z]; omega
    · rw [h6n _ z]; exact w5
  have hG' : Good F := by
    refine ⟨?_, ?_, ?_, gR, gO, gK, ?_, ?_, ?_, trivial⟩
    · have := hG.n
      unfold zG0 at this ⊢
      rw [c4, c8, c15, f11 24 (by decide), f11 25 (by decide), f11 26 (by decide), e64]; exact this
    · have := hG.col
      unfold zGC at this ⊢
      rw [c4, eS 56 (by decide), eS 57 (by decide), eS 58 (by decide), eS 59 (by decide)]; exact this
    · have := hG.vis
      unfold zGV at this ⊢
      rw [c4, eS 58 (by decide), eS 59 (by decide)]; exact this
    · have := hG.word
      unfold zGW at this ⊢
      rw [c15, eS 70 (by decide), eS 71 (by decide), eS 72 (by decide)]; exact this
    · unfold zGP
      rw [c8, c15, eS 69 (by decide), e60, e65, e67, eS 66 (by decide), eS 68 (by decide)]
      intro r k r0 r1 k0 k1
      obtain ⟨a, b⟩ := hG.pl r k r0 r1 k0 k1
      refine ⟨a, fun hx => ?_⟩
      obtain ⟨b1, b2, b3⟩ := b hx
      refine ⟨b1, ?_, b3⟩
      obtain ⟨w1, w2, w3, w4, w5, w6⟩ := hG.cell (T 69 0 (6 * r + k) - 1) (by omega) (by omega)
      by_cases z : T 60 0 r = 1
      · have h1 := hone (T 69 0 (6 * r + k) - 1) (by omega) (by omega) (by omega)
        have e : T 6 r 6 = T 6 (T 65 0 (T 69 0 (6 * r + k) - 1)) 6 := by omega
        obtain ⟨-, -, -, -, x⟩ := hG.row r r0 r1
        obtain ⟨-, -, -, -, y⟩ := hG.row _ w1.1 w1.2
        have er : r = T 65 0 (T 69 0 (6 * r + k) - 1) := by
          rw [← b1, ← e, x] at y
          exact y
        have e6 : F 6 r 6 = F 6 (T 65 0 (T 69 0 (6 * r + k) - 1)) 6 := congrArg (fun q => F 6 q 6) er
        omega
      · rw [h6n r z, h6n _ (by omega)]
        exact b2
    · unfold zGQ
      rw [c8, c15, eS 69 (by decide), e60, e65, e67, eS 66 (by decide), eS 68 (by decide)]
      intro c r k c0 c1 r0 r1 er a b d g
      obtain ⟨w1, w2, w3, w4, w5, w6⟩ := hG.cell c c0 c1
      by_cases z : T 60 0 r = 1
      · have h1 := hone c c0 c1 (by omega)
        have e6 : F 6 r 6 = F 6 (T 65 0 c) 6 := by omega
        have e := hinj r (T 65 0 c) r0 r1 w1.1 w1.2 er e6
        exact hG.pq c r k c0 c1 r0 r1 er (by rw [e]; omega) (by rw [e]; omega) d g
      · rw [h6n r z, h6n _ (by omega)] at a b
        exact hG.pq c r k c0 c1 r0 r1 er a b d g
  refine ⟨⟨c4, c8, c15⟩, hG', ?_, ?_, ?_⟩
  · obtain ⟨h1, h2, h3, h4, h5, h6', h7, h8⟩ := hL
    have es : zshows F = zshows T := funext fun c => by
      have : zsh F = zsh T := funext fun k => by unfold zsh; rw [eS 59 (by decide)]
      unfold zshows
      rw [this, eS 66 (by decide), eS 68 (by decide)]
    refine ⟨?_, ?_, ?_, ?_, ?_, ?_, ?_, trivial⟩
    · rw [c4, c8, c15, eS 12 (by decide), eS 13 (by decide), eS 14 (by decide)]; exact h1
    · rw [c4, eS 12 (by decide), eS 2 (by decide), eS 56 (by decide), eS 57 (by decide), eS 58 (by decide)]; exact h2
    · rw [c8, eS 13 (by decide), e60, eS 61 (by decide), eS 62 (by decide), eS 37 (by decide), eS 69 (by decide)]
      intro r r0 r1
      rw [f6 r 0 (by decide), f6 r 1 (by decide), f6 r 2 (by decide), f6 r 3 (by decide)]
      exact h3 r r0 r1
    · rw [es, c15, eS 14 (by decide), eS 1 (by decide), e65, eS 66 (by decide), e67, eS 68 (by decide), eS 72 (by decide), eS 73 (by decide), eS 74 (by decide), eS 75 (by decide), eS 76 (by decide), eS 25 (by decide), eS 26 (by decide), eS 70 (by decide), eS 71 (by decide)]; exact h4
    · intro p p0 p1
      rw [e64]
      rcases (by omega : p = 0 ∨ p = 1 ∨ p = 2) with rfl | rfl | rfl
      · have := h5 0 p0 p1
        show F 15 0 (-1) = T 64 0 0 ∧ ∀ k, 0 ≤ k → k < T 64 0 0 → F 15 0 k = F 63 0 (24 * 0 + k)
        rw [eS 15 (by decide)]
        exact ⟨this.1, fun k k0 k1 => by rw [f63 _ (by omega)]; exact this.2 k k0 k1⟩
      · have := h5 1 p0 p1
        show F 16 0 (-1) = T 64 0 1 ∧ ∀ k, 0 ≤ k → k < T 64 0 1 → F 16 0 k = F 63 0 (24 * 1 + k)
        exact ⟨by rw [f16 _ (by decide)]; exact this.1, fun k k0 k1 => by rw [show (24 : Int) * 1 + k = 24 + k by omega, h16 k k0 k1, h63 k k0 k1]⟩
      · have := h5 2 p0 p1
        show F 17 0 (-1) = T 64 0 2 ∧ ∀ k, 0 ≤ k → k < T 64 0 2 → F 17 0 k = F 63 0 (24 * 2 + k)
        rw [eS 17 (by decide)]
        exact ⟨this.1, fun k k0 k1 => by rw [f63 _ (by omega)]; exact this.2 k k0 k1⟩
    · have : zsh F = zsh T := funext fun k => by unfold zsh; rw [eS 59 (by decide)]
      rw [c4, eS 33 (by decide), this]; exact h6'
    · rw [f10 7 (by decide), f10 8 (by decide), f10 9 (by decide), f11 24 (by decide), f11 25 (by decide), f11 26 (by decide)]; exact h7
  · refine ⟨by rw [c4, c8, c15]; exact hp.1, fun s s0 s1 => ?_⟩
    have := hp.2 s s0 s1
    rw [eS (s + 6) (by omega)]
    by_cases e : s = 16
    · subst e
      rw [f16 _ (by decide), f16 _ (by decide)]; exact this
    · rw [eS s (by omega)]; exact this
  · unfold zNW at hw ⊢
    rw [c8, c15, eS 72 (by decide), eS 73 (by decide), eS 74 (by decide), eS 75 (by decide), eS 76 (by decide), eS 69 (by decide)]; exact hw
theorem l_sort (h : Iv T O κ M) (hK : ∀ T' M', Iv T' O κ M' → K κ M') : wp_law_12 p1 p2 κ M K := by
  have h' := h
  obtain ⟨hG, hL, hA, -, -, -, -, hp, hw, -⟩ := h
  have e16 := hA.s16
  have e63 := hA.s63
  have e6 := hA.s6
  refine k_hasColumn hG hL hA (fun hc => ⟨fun _ => ?_, fun z => absurd z (by decide)⟩) (fun hc => ⟨fun z => absurd rfl z, fun _ => Or.inl ⟨rfl, q_sort hG hA (fun _ => finx0 h' (fun M' => hK T M') (by decide)) (fun a b _ => absurd ⟨a, b⟩ hc) (fun a b _ => absurd ⟨a, b⟩ hc)⟩⟩)
  refine k_hasSeveral hG hL hA (fun hs => ⟨fun z => absurd z (by decide), fun _ => Or.inr ⟨rfl, q_sort hG hA (fun z => absurd hc z) (fun _ _ _ => finx0 h' (fun M' => hK T M') (by decide)) (fun _ _ z => ?_)⟩⟩) (fun hs => ⟨fun _ => ?_, fun z => absurd rfl z⟩)
  · obtain ⟨c, c0, c1, c2⟩ := hs
    exact absurd (z c c0.1 c0.2 c1) (by omega)
  · intro M5 m5
    have hA5 : Ag T M5 := by rw [m5]; exact hA.up rfl
    have h5 : ∀ i, 0 ≤ i → i < T 64 0 1 → M5 16 0 i = T 63 0 (24 + i) := fun i i0 i1 => by
      have := (hL.part (p := 1) (by omega) (by omega)).2 i i0 i1
      have this : T 16 0 i = T 63 0 (24 * 1 + i) := this
      rw [m5, up_s _ _ _ _ (by decide), e16, this, show (24 : Int) * 1 + i = 24 + i by omega]
    refine k_putBodyInOrder (f := (zb p2)) hG hL hA5.ah hc.1 hc.2 h5 (fun M7 f7 d7 => ?_)
    refine k_numberBodyAnew (p := p1) (f := (zb p2)) hG hL (hA5.ah.z16 f7) (fun r => ?_) d7 (fun M8 f8 d8 n8 => ?_)
    · rw [f7 6 r 6 (fun z => absurd z.1 (by decide)), m5, up_s _ _ _ _ (by decide), e6]
    · -- the reference
      have g0 : Fj zSQ M M5 := by rw [m5]; exact (Fj.rf _ _).up (by unfold zSQ; omega)
      have g7 : Fj zSQ M M7 := g0.tr (f7.mono (fun s j k z => by unfold zZ16 at z; unfold zSQ; omega))
      have g8 : Fj zSQ M M8 := g7.tr (f8.mono (fun s j k z => by unfold zSQ; omega))
      have g9 : Fj zSQ M (up M8 103 0 0 (zmvd T p1 (zb p2) (T 64 0 1))) := g8.up (by unfold zSQ; omega)
      -- it reads what was put, but for the order
      obtain ⟨N0, eN0⟩ : ∃ N0, N0 = up M8 103 0 0 (zmvd T p1 (zb p2) (T 64 0 1)) := ⟨_, rfl⟩
      have hP := zPm_srt hG p1 (zb p2) (n := max 1 (T 64 0 1)) (by omega) (Int.le_refl _)
      have x0 : zAh T N0 := by
        rw [eN0]
        exact hA.ah.fj g9 (fun s j k z => by unfold zSQ at z; omega)
      have hrun : ∀ Qm : Int → Mem → Prop, (∃ n, wp_X10_sort_76 p1 (zb p2) Qm n 0 (up N0 11 0 59 0)) → wp_X10_sort p1 (zb p2) N0 Qm := fun Qm hq => by
        have f15 := x0 11 0 15 (by decide)
        have f4 := x0 11 0 4 (by decide)
        have y60 := x0.e 60 (by decide)
        have y65 := x0.e 65 (by decide)
        have y67 := x0.e 67 (by decide)
        have hKn := hG.nK
        have hRn := hG.nR
        have hCn := hG.nC
        refine zLoop (fun n y v => wp_X10_sort_5 p1 (zb p2) Qm n v y N0) (fun y v => v = 1) (T 11 0 15) hKn.1 rfl (fun n v hv => ?_) (fun n y v y0 y1 hv ih => ?_)
        · show wp_X10_sort_5 p1 (zb p2) Qm (n + 1) v (T 11 0 15) N0
          simp only [wp_X10_sort_5, f15]
          refine ⟨fun _ => ?_, fun z => absurd z (by omega)⟩
          refine ⟨by rw [f4]; exact ⟨by omega, by omega⟩, ?_⟩
          rw [f4, hv]
          exact q_in (fun _ => ⟨bit_1, q_goes0 (by decide) (by decide) (by decide) ⟨fun _ => hq, fun z => absurd z (by decide)⟩⟩) (fun z => absurd (by omega) z)
        · show wp_X10_sort_5 p1 (zb p2) Qm (n + 1) v y N0
          obtain ⟨w1, -⟩ := hG.cell y y0 y1
          simp only [wp_X10_sort_5, f15, y60, y65, y67]
          refine ⟨fun z => absurd z (by omega), fun _ => ⟨fun _ => ⟨⟨by omega, by omega⟩, ⟨by omega, by omega⟩, fun _ => ⟨⟨by omega, by omega⟩, trivial⟩, trivial⟩, ⟨by omega, by omega⟩, ih _ ?_⟩⟩
          rw [hv, if_neg (by decide)]
          by_cases a : T 60 0 (T 65 0 y) = 1
          · have := hs y y0 y1 a
            rw [if_neg (fun z => z a), if_neg (by omega)]
          · rw [if_pos a]
      have x1 : zAh T (up N0 11 0 59 0) := x0.fj ((Fj.rf (fun s _ k => s = 11 ∧ k = 59) N0).up ⟨rfl, rfl⟩) (fun s j k z => by omega)
      dsimp only
      rw [← eN0]
      refine hrun _ (q_sortRows hG x1 hc.1 hc.2 (fun i i0 i1 => ?_) (fun N f d => ?_))
      · rw [up_s _ _ _ _ (by decide), eN0, up_s _ _ _ _ (by decide), f8 63 0 _ (fun z => absurd z.1 (by decide)), f7 63 0 _ (fun z => absurd z.1 (by decide)), m5, up_s _ _ _ _ (by decide), e63]
      · have gN : Fj zSQ M N := (((by rw [eN0]; exact g9 : Fj zSQ M N0).up (s := 11) (j := 0) (k := 59) (v := 0) (by unfold zSQ; omega))).tr (f.mono (fun s j k z => by unfold zZS at z; unfold zSQ; omega))
        have back : ∀ (s : Nat) (j k : Int), s = 6 ∨ s = 16 ∨ s = 10 → N s j k = M8 s j k := fun s j k z => by
          rw [f s j k (by unfold zZS; omega), up_at, if_neg (by omega), eN0, up_at, if_neg (by omega)]
        obtain ⟨ec, hG', hL', hp', hw'⟩ := zsort_good (F := N) hG hL hA hp hw gN hP (fun i i0 i1 => by
          rw [back 16 0 i (by omega), f8 16 0 i (fun z => absurd z.1 (by decide))]; exact d7 i i0 i1) d (fun i i0 i1 => by
          rw [back 6 _ 6 (by omega)]; exact d8 i i0 i1) (fun r hr => by rw [back 6 r 6 (by omega)]; exact n8 r hr) hs
        refine ⟨?_, fun _ => ?_, hK N N (h'.nx ec hG' hL' (Ag.rf N) hp' hw' (fun s j k z => gN s j k (by unfold zSQ; omega)) ?_)⟩
        · rw [f 11 0 59 (by unfold zZS; omega), up_eq]
        · rw [f 103 0 0 (by unfold zZS; omega), up_s _ _ _ _ (by decide), eN0, up_eq]
        · rw [back 10 0 10 (by omega), f8 10 0 10 (fun z => absurd z.1 (by decide)), f7 10 0 10 (fun z => absurd z.1 (by decide)), m5, up_eq]
          decide
end ZD
