/-! the law's figures and growing columns -/
section JF
variable {T M : Mem} {p5 p6 : Int}
theorem j_figures (hG : Good T) (L : zLw T M) (k0 : 0 ≤ p6) (k1 : p6 < T 11 0 4) {Qm : Mem → Prop} (hq : Qm (up (up M 113 0 (12 + p6) (zLf T p6)) 113 0 (16 + p6) (zRg T p6))) : wp_L_figures p6 M Qm := by
  have hn := L.n
  unfold lwN at hn
  have hKn := hG.nK
  have hC := hG.nC
  obtain ⟨-, -, m2, -⟩ := L.m
  obtain ⟨-, -, c2, c3⟩ := L.c p6 k0 k1
  obtain ⟨-, -, v2, v3⟩ := hG.col p6 k0 k1
  have eL := zL1_eq hG k0 (by omega : p6 < 6)
  have eR := zR1_eq hG k0 (by omega : p6 < 6)
  have eA := zA1_eq hG k0 k1
  have eB := zB1_eq hG k0 k1
  rw [if_pos k1] at eL eR
  have hRg := zRg_r hG k0 (by omega : p6 < 6)
  have hLf := zLf_r hG (k := p6)
  have hAb : ∀ i, 0 ≤ i → i ≤ T 11 0 15 → (0 ≤ zA1 T p6 i ∧ zA1 T p6 i ≤ 1000000 * i) ∧ -1000000 * i ≤ zB1 T p6 i ∧ zB1 T p6 i ≤ 0 := fun i i0 i1 => by
    have a := zS_bd (f := fun c => if T 73 0 c = 1 ∧ T 59 0 (T 66 0 c) = 0 ∧ T 66 0 c = p6 then (if T 60 0 (T 65 0 c) = 1 then max 0 (T 74 0 c) else 0) else 0) (a := 0) (b := i) 0 1000000 i0 (fun c x y => by
      obtain ⟨-, -, -, -, -, -, -, w, -⟩ := hG.cell c x (by omega)
      split
      · split <;> omega
      · omega)
    have b := zS_bd (f := fun c => if T 73 0 c = 1 ∧ T 59 0 (T 66 0 c) = 0 ∧ T 66 0 c = p6 then (if T 60 0 (T 65 0 c) = 1 then min 0 (T 74 0 c) else 0) else 0) (a := 0) (b := i) (-1000000) 0 i0 (fun c x y => by
      obtain ⟨-, -, -, -, -, -, -, w, -⟩ := hG.cell c x (by omega)
      split
      · split <;> omega
      · omega)
    have a : 0 * (i - 0) ≤ zA1 T p6 i ∧ zA1 T p6 i ≤ 1000000 * (i - 0) := a
    have b : -1000000 * (i - 0) ≤ zB1 T p6 i ∧ zB1 T p6 i ≤ 0 * (i - 0) := b
    omega
  have h272 : ∀ v u N, N = M → v = zLf T p6 → u = zRg T p6 → wp_L_figures_272 p6 Qm v u N := fun v u N e e1 e2 => by
    rw [e, e1, e2]
    exact ⟨⟨by omega, by omega⟩, ⟨by omega, by omega⟩, fun M4 x => ⟨⟨by omega, by omega⟩, ⟨by omega, by omega⟩, fun M8 y => by rw [y, x]; exact hq⟩⟩
  refine zLoop (σ := Int × Int × Int × Int) (fun n k s => wp_L_figures_15 p6 Qm n s.1 s.2.1 s.2.2.1 s.2.2.2 k M) (fun k s => s.1 = zA1 T p6 k ∧ s.2.1 = zB1 T p6 k ∧ s.2.2.1 = zL1 T p6 k ∧ s.2.2.2 = zR1 T p6 k) (T 11 0 15) hKn.1 (s := (0, 0, 0, 0)) ⟨(zS_self _ (Int.le_refl _)).symm, (zS_self _ (Int.le_refl _)).symm, (zM_0 _).symm, (zM_0 _).symm⟩ (fun n s hs => ?_) (fun n c s i0 i1 hs ih => ?_)
  · obtain ⟨s1, s2, s3, s4⟩ := s
    obtain ⟨e1, e2, e3, e4⟩ := hs
    have e1 : s1 = zA1 T p6 (T 11 0 15) := e1
    have e2 : s2 = zB1 T p6 (T 11 0 15) := e2
    have e3 : s3 = zL1 T p6 (T 11 0 15) := e3
    have e4 : s4 = zR1 T p6 (T 11 0 15) := e4
    obtain ⟨ba, bb⟩ := hAb _ hKn.1 (Int.le_refl _)
    obtain ⟨z1, z2⟩ := zany_lef hG p6 hG.nR.1
    rw [eL] at e3
    rw [eR] at e4
    rw [← e1] at ba eA
    rw [← e2] at bb eB
    have ef : zLf T p6 = if s3 ≤ 0 ∨ ¬ T 58 0 p6 = 1 then s3 else max s3 (max (zleft s1) (zleft s2)) := by
      unfold zLf
      rw [← eA, ← eB, ← e3]
      rw [← e3] at z1 z2
      by_cases z : zany T p6 (T 11 0 8) = 0
      · have := z1 z
        rw [if_pos (Or.inl z), if_pos (Or.inl (by omega))]
      · have := z2 z
        by_cases y : T 58 0 p6 = 0
        · rw [if_pos (Or.inr y), if_pos (Or.inr (by omega))]
        · rw [if_neg (by omega), if_neg (by omega)]
    show wp_L_figures_15 p6 Qm (n + 1) s1 s2 s3 s4 (T 11 0 15) M
    refine ⟨fun _ => ⟨fun z => ?_, fun z => ⟨⟨by omega, by omega⟩, ⟨by omega, by omega⟩, ⟨by omega, by omega⟩, ?_⟩⟩, fun z => absurd z (by rw [m2]; omega)⟩
    · refine h272 _ _ M rfl ?_ e4
      rw [ef, if_pos (Or.inl z)]
    · rw [c2]
      refine ⟨fun y => h272 _ _ M rfl (by rw [ef, if_pos (Or.inr y)]) e4, fun y => ?_⟩
      rw [if_neg (by omega)] at ef
      have h248 : ∀ v, v = max s3 (zleft s1) → wp_L_figures_248 p6 Qm s2 s4 v M := fun v hv => by
        refine j_leftOf (by omega) (by omega) ⟨fun x => h272 _ _ M rfl (by rw [ef]; omega) e4, fun x => j_leftOf (by omega) (by omega) (h272 _ _ M rfl (by rw [ef]; omega) e4)⟩
      exact j_leftOf (by omega) (by omega) ⟨fun x => h248 _ (by omega), fun x => j_leftOf (by omega) (by omega) (h248 _ (by omega))⟩
  · obtain ⟨s1, s2, s3, s4⟩ := s
    obtain ⟨e1, e2, e3, e4⟩ := hs
    have e1 : s1 = zA1 T p6 c := e1
    have e2 : s2 = zB1 T p6 c := e2
    have e3 : s3 = zL1 T p6 c := e3
    have e4 : s4 = zR1 T p6 c := e4
    obtain ⟨ba, bb⟩ := hAb c i0 (by omega)
    rw [← e1] at ba
    rw [← e2] at bb
    have nn3 : 0 ≤ s3 := by rw [e3]; exact zM_nn _ i0
    have nn4 : 0 ≤ s4 := by rw [e4]; exact zM_nn _ i0
    have q1 : zA1 T p6 (c + 1) = zA1 T p6 c + (if T 73 0 c = 1 ∧ T 59 0 (T 66 0 c) = 0 ∧ T 66 0 c = p6 then (if T 60 0 (T 65 0 c) = 1 then max 0 (T 74 0 c) else 0) else 0) := zS_succ _ i0
    have q2 : zB1 T p6 (c + 1) = zB1 T p6 c + (if T 73 0 c = 1 ∧ T 59 0 (T 66 0 c) = 0 ∧ T 66 0 c = p6 then (if T 60 0 (T 65 0 c) = 1 then min 0 (T 74 0 c) else 0) else 0) := zS_succ _ i0
    have q3 : zL1 T p6 (c + 1) = max (zL1 T p6 c) (if T 73 0 c = 1 ∧ T 59 0 (T 66 0 c) = 0 ∧ T 66 0 c = p6 then zleft (T 74 0 c) else 0) := zM_succ _ i0
    have q4 : zR1 T p6 (c + 1) = max (zR1 T p6 c) (if T 73 0 c = 1 ∧ T 59 0 (T 66 0 c) = 0 ∧ T 66 0 c = p6 then zright T c else 0) := zM_succ _ i0
    rw [← e1] at q1
    rw [← e2] at q2
    rw [← e3] at q3
    rw [← e4] at q4
    obtain ⟨t0, t1, t2, t3, t4, t5⟩ := L.t c i0 i1
    obtain ⟨w1, w2, w3, w4, w5, w6, w7, w8, w9, w10, -⟩ := hG.cell c i0 i1
    have nx : ∀ a b d e, a = zA1 T p6 (c + 1) → b = zB1 T p6 (c + 1) → d = zL1 T p6 (c + 1) → e = zR1 T p6 (c + 1) → wp_L_figures_205 p6 Qm (wp_L_figures_15 p6 Qm n) a b d e c M := fun a b d e x1 x2 x3 x4 => ⟨⟨by omega, by omega⟩, ih (a, b, d, e) ⟨x1, x2, x3, x4⟩⟩
    have no : ¬ (T 73 0 c = 1 ∧ T 59 0 (T 66 0 c) = 0 ∧ T 66 0 c = p6) → wp_L_figures_205 p6 Qm (wp_L_figures_15 p6 Qm n) s1 s2 s3 s4 c M := fun hc => by
      rw [if_neg hc] at q1 q2 q3 q4
      exact nx _ _ _ _ (by omega) (by omega) (by omega) (by omega)
    show wp_L_figures_15 p6 Qm (n + 1) s1 s2 s3 s4 c M
    refine ⟨fun z => absurd z (by rw [m2]; omega), fun _ => ⟨⟨by omega, by omega⟩, ⟨by omega, by omega⟩, ⟨by omega, by omega⟩, ?_⟩⟩
    rw [t1]
    refine ⟨fun z => no (fun y => z y.2.2), fun ek => ⟨⟨by omega, by omega⟩, ⟨by omega, by omega⟩, ⟨by omega, by omega⟩, ?_⟩⟩
    rw [t5]
    refine ⟨fun z => no (fun y => by rw [if_pos y.1] at z; omega), fun z5 => ⟨⟨by omega, by omega⟩, ⟨by omega, by omega⟩, ⟨by omega, by omega⟩, ?_⟩⟩
    have z73 : T 73 0 c = 1 := by
      by_cases y : T 73 0 c = 1
      · exact y
      · rw [if_neg y] at z5; omega
    rw [c3]
    refine ⟨fun z => no (fun y => z (by rw [← ek]; exact y.2.1)), fun z9 => ?_⟩
    have hc : T 73 0 c = 1 ∧ T 59 0 (T 66 0 c) = 0 ∧ T 66 0 c = p6 := ⟨z73, by rw [ek]; exact z9, ek⟩
    rw [if_pos hc] at q1 q2 q3 q4
    have ef := L.f c i0 i1 z73
    have hlf := zleft_r (T 74 0 c)
    rw [ef]
    refine ⟨⟨by omega, by omega⟩, j_leftOf (by omega) (by omega) ?_⟩
    obtain ⟨r0, -⟩ := L.r (T 65 0 c) w1.1 w1.2
    rw [t0, t5, t4, if_pos z73, r0]
    have er : (if ¬ T 75 0 c = 0 then T 75 0 c + 1 else 0) + (if T 76 0 c ≤ 0 then (0 : Int) else 1) = zright T c := by
      unfold zright
      by_cases y : T 75 0 c = 0
      · rw [if_neg (fun z => z y), if_pos (show T 75 0 c ≤ 0 by omega)]
      · rw [if_pos y, if_neg (show ¬ T 75 0 c ≤ 0 by omega)]
    have hrb : 0 ≤ zright T c ∧ zright T c ≤ 4 := by
      unfold zright
      repeat' split
      all_goals omega
    rw [er]
    have em : ∀ a b : Int, (if b ≤ a then a else b) = max a b := fun a b => by split <;> omega
    rw [em s3, em s4]
    refine ⟨⟨by omega, by omega⟩, ⟨by omega, by omega⟩, ⟨by omega, by omega⟩, fun _ => ⟨⟨by omega, by omega⟩, ⟨by omega, by omega⟩, ⟨by omega, by omega⟩, ⟨by omega, by omega⟩, trivial⟩, by split <;> exact ⟨by omega, by omega⟩, ⟨by omega, by omega⟩, ⟨by omega, by omega⟩, ⟨by omega, by omega⟩, ⟨by omega, by omega⟩, ⟨by omega, by omega⟩, ⟨by omega, by omega⟩, ⟨by omega, by omega⟩, ⟨by omega, by omega⟩, fun y => ?_, fun y => ?_⟩
    · rw [if_neg y] at q1 q2
      exact nx _ _ _ _ (by omega) (by omega) q3.symm q4.symm
    · rw [if_pos y] at q1 q2
      have f1 : (if T 74 0 c ≤ 0 then (0 : Int) else T 74 0 c) = max 0 (T 74 0 c) := by split <;> omega
      have f2 : (if 0 ≤ T 74 0 c then (0 : Int) else -T 74 0 c) = -min 0 (T 74 0 c) := by split <;> omega
      rw [ef, f1, f2]
      exact ⟨⟨by omega, by omega⟩, fun _ => ⟨⟨by omega, by omega⟩, trivial⟩, ⟨by omega, by omega⟩, ⟨by omega, by omega⟩, fun _ => ⟨⟨by omega, by omega⟩, ⟨by omega, by omega⟩, trivial⟩, ⟨by omega, by omega⟩, ⟨by omega, by omega⟩, nx _ _ _ _ (by omega) (by omega) q3.symm q4.symm⟩
/-! growing -/
def zcd1 (T : Mem) (k : Int) : Prop := T 59 0 k = 0 ∧ ¬ T 56 0 k = 1
def zLm (T : Mem) (w : Int → Int) (a b r : Int) : Prop := (r = -1 ∧ ∀ q, a ≤ q → q < b → ¬ zcd1 T q) ∨ ((a ≤ r ∧ r < b) ∧ zcd1 T r ∧ ∀ q, a ≤ q → q < b → zcd1 T q → w r ≤ w q ∧ (q < r → w r < w q))
def zLs2 (T : Mem) (a b r : Int) : Prop := (r = -1 ∧ ∀ q, a ≤ q → q < b → ¬ T 59 0 q = 0) ∨ ((a ≤ r ∧ r < b) ∧ T 59 0 r = 0 ∧ ∀ q, r < q → q < b → ¬ T 59 0 q = 0)
theorem zLm_u {w : Int → Int} {a b r r' : Int} (h : zLm T w a b r) (h' : zLm T w a b r') : r = r' := by
  rcases h with ⟨x, y⟩ | ⟨x, y, z⟩
  · rcases h' with ⟨x', y'⟩ | ⟨x', y', z'⟩
    · rw [x, x']
    · exact absurd y' (y r' x'.1 x'.2)
  · rcases h' with ⟨x', y'⟩ | ⟨x', y', z'⟩
    · exact absurd y (y' r x.1 x.2)
    · have a1 := z r' x'.1 x'.2 y'
      have a2 := z' r x.1 x.2 y
      omega
theorem zLs2_u {a b r r' : Int} (h : zLs2 T a b r) (h' : zLs2 T a b r') : r = r' := by
  rcases h with ⟨x, y⟩ | ⟨x, y, z⟩
  · rcases h' with ⟨x', y'⟩ | ⟨x', y', z'⟩
    · rw [x, x']
    · exact absurd y' (y r' x'.1 x'.2)
  · rcases h' with ⟨x', y'⟩ | ⟨x', y', z'⟩
    · exact absurd y (y' r x.1 x.2)
    · by_cases e : r = r'
      · exact e
      · by_cases l : r < r'
        · exact absurd y' (z r' l x'.2)
        · exact absurd y (z' r (by omega) x.2)
theorem ztk_c (hG : Good T) (w : Int → Int) {c n : Int} (c0 : 0 ≤ c) (c1 : c < T 11 0 15) (n0 : T 66 0 c ≤ n) : zLm T w (T 66 0 c) n (ztk T c w n).1 ∧ zLs2 T (T 66 0 c) n (ztk T c w n).2 := by
  have h66 := (hG.cell c c0 c1).2.1
  unfold ztk
  refine zF_ind (fun (n : Int) (p : Int × Int) => zLm T w (T 66 0 c) n p.1 ∧ zLs2 T (T 66 0 c) n p.2) n0 ⟨Or.inl ⟨rfl, fun q a b => by omega⟩, Or.inl ⟨rfl, fun q a b => by omega⟩⟩ (fun k v k0 k1 hv => ?_)
  obtain ⟨h1, h2⟩ := hv
  refine ⟨?_, ?_⟩
  · show zLm T w (T 66 0 c) (k + 1) (if ¬ T 59 0 k = 0 then v.1 else if T 56 0 k = 1 then v.1 else if v.1 = -1 then k else if w v.1 ≤ w k then v.1 else k)
    have keep : ¬ zcd1 T k → zLm T w (T 66 0 c) (k + 1) v.1 := fun hk => by
      rcases h1 with ⟨x, y⟩ | ⟨x, y, z⟩
      · refine Or.inl ⟨x, fun q a b => ?_⟩
        by_cases e : q = k
        · rw [e]; exact hk
        · exact y q a (by omega)
      · refine Or.inr ⟨⟨by omega, by omega⟩, y, fun q a b d => ?_⟩
        by_cases e : q = k
        · rw [e] at d; exact absurd d hk
        · exact z q a (by omega) d
    by_cases a : T 59 0 k = 0
    · rw [if_neg (fun z => z a)]
      by_cases b : T 56 0 k = 1
      · rw [if_pos b]
        exact keep (fun z => z.2 b)
      · rw [if_neg b]
        rcases h1 with ⟨x, y⟩ | ⟨x, y, z⟩
        · rw [if_pos x]
          refine Or.inr ⟨⟨by omega, by omega⟩, ⟨a, b⟩, fun q q0 q1 d => ?_⟩
          by_cases e : q = k
          · rw [e]; omega
          · exact absurd d (y q q0 (by omega))
        · rw [if_neg (by omega)]
          by_cases l : w v.1 ≤ w k
          · rw [if_pos l]
            refine Or.inr ⟨⟨by omega, by omega⟩, y, fun q q0 q1 d => ?_⟩
            by_cases e : q = k
            · rw [e]; omega
            · exact z q q0 (by omega) d
          · rw [if_neg l]
            refine Or.inr ⟨⟨by omega, by omega⟩, ⟨a, b⟩, fun q q0 q1 d => ?_⟩
            by_cases e : q = k
            · rw [e]; omega
            · have := z q q0 (by omega) d
              omega
    · rw [if_pos a]
      exact keep (fun z => a z.1)
  · show zLs2 T (T 66 0 c) (k + 1) (if T 59 0 k = 0 then k else v.2)
    by_cases a : T 59 0 k = 0
    · rw [if_pos a]
      exact Or.inr ⟨⟨by omega, by omega⟩, a, fun q q0 q1 => by omega⟩
    · rw [if_neg a]
      rcases h2 with ⟨x, y⟩ | ⟨x, y, z⟩
      · refine Or.inl ⟨x, fun q q0 q1 => ?_⟩
        by_cases e : q = k
        · rw [e]; exact a
        · exact y q q0 (by omega)
      · refine Or.inr ⟨⟨by omega, by omega⟩, y, fun q q0 q1 => ?_⟩
        by_cases e : q = k
        · rw [e]; exact a
        · exact z q q0 (by omega)
/-- only four places of the row x change -/
def zGf (b : Int) (M M' : Mem) : Prop := ∀ (s : Nat) (j k : Int), ¬ (s = 113 ∧ j = 0 ∧ b ≤ k ∧ k < b + 4) → M' s j k = M s j k
def zRwd (T : Mem) (b : Int) (M : Mem) (w : Int → Int) : Prop := ∀ k, 0 ≤ k → k < T 11 0 4 → M 113 0 (b + k) = w k
theorem zGf.rf (b : Int) (M : Mem) : zGf b M M := fun _ _ _ _ => rfl
theorem zGf.tr {b : Int} {M M1 M2 : Mem} (h : zGf b M M1) (h' : zGf b M1 M2) : zGf b M M2 := fun s j k z => (h' s j k z).trans (h s j k z)
theorem zGf.up {b : Int} {M M1 : Mem} (h : zGf b M M1) {k v : Int} (k0 : 0 ≤ k) (k1 : k < 4) : zGf b M (up M1 113 0 (b + k) v) := fun s j q z => by
  rw [up_at, if_neg (by omega)]
  exact h s j q z
theorem zGf.ls {b : Int} {M M' : Mem} (h : zGf b M M') : zLs M M' := ⟨fun s hs => funext fun j => funext fun k => h s j k (by omega), h 11 0 30 (by omega)⟩
end JF
