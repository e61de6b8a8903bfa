/-! the pure part: a new cell, the call -/
section ZL
variable {T M : Mem} {O : zSt} {κ : Nat → Int} {K : (Nat → Int) → Mem → Prop} {p1 p2 p3 p4 : Int}
theorem Fj.m1 {Z : Nat → Int → Int → Prop} {M' : Mem} (h : Fj Z M M') {n a b c d : Int} (hz : ∀ (s : Nat) (k : Int), (s = 1 ∨ s = 24 ∨ s = 25 ∨ s = 26) → Z s n k) : Fj Z M (M1 M' n a b c d) := fun s j k z => by
  unfold M1
  rw [if_neg (fun w => z (by rw [w.1, w.2]; exact hz 1 k (by decide))), if_neg (fun w => z (by rw [w.1, w.2]; exact hz 24 k (by decide))), if_neg (fun w => z (by rw [w.1, w.2]; exact hz 25 k (by decide))), if_neg (fun w => z (by rw [w.1, w.2]; exact hz 26 k (by decide)))]
  exact h s j k z
theorem zAcQ_cel (n : Int) : ∀ s j k, zAcQ n s j k → zCelQ n s j k := fun s j k z => by
  rcases z with z | z | z | z
  · exact Or.inr (Or.inr (Or.inr (Or.inr (Or.inl z))))
  · exact Or.inr (Or.inr (Or.inr (Or.inl ⟨Or.inl z.1, z.2.1⟩)))
  · exact Or.inr (Or.inr (Or.inr (Or.inr (Or.inr (Or.inl z)))))
  · exact Or.inr (Or.inr (Or.inr (Or.inr (Or.inr (Or.inr (Or.inl z))))))
theorem zCelQ.c1 (n : Int) : zCelQ n 10 0 10 := Or.inr (Or.inr (Or.inl ⟨rfl, rfl⟩))
theorem zCelQ.c2 (n : Int) {k : Int} (h : k = 59 ∨ k = 15) : zCelQ n 11 0 k := Or.inr (Or.inl ⟨rfl, h⟩)
theorem zCelQ.c3 (n : Int) (s : Nat) (k : Int) (h : s = 1 ∨ s = 24 ∨ s = 25 ∨ s = 26) : zCelQ n s n k := Or.inr (Or.inr (Or.inr (Or.inl ⟨h, rfl⟩)))
theorem zCelQ.c4 (n : Int) {s : Nat} (h : 65 ≤ s ∧ s ≤ 68) : zCelQ n s 0 n := Or.inr (Or.inr (Or.inr (Or.inr (Or.inr (Or.inr (Or.inr (Or.inl ⟨h, rfl, rfl⟩)))))))
theorem zCelQ.c5 (n : Int) (j k : Int) : zCelQ n 69 j k := Or.inr (Or.inr (Or.inr (Or.inr (Or.inr (Or.inr (Or.inr (Or.inr rfl)))))))
/-- what the class alone holds -/
def zcls (s : Nat) : Bool := decide (s = 1) || decide (s = 14) || decide (s = 20) || decide (s = 24) || decide (s = 25) || decide (s = 26) || decide (s = 37)
def zCcQ : Nat → Int → Int → Prop := fun s _ k => s = 103 ∨ (s = 10 ∧ k = 10) ∨ zcls s = true
theorem zAcQ_cc (n : Int) : ∀ s j k, zAcQ n s j k → zCcQ s j k := by
  intro s j k z
  refine Or.inr (Or.inr ?_)
  rcases z with z | z | z | z
  · rw [z]; rfl
  · rw [z.1]; rfl
  · rw [z.1]; rfl
  · rw [z.1]; rfl
def zT1 (T N : Mem) : Mem := fun s => if zcls s = true then N s else T s
theorem zT1_e (T N : Mem) {s : Nat} (h : zcls s = false) : zT1 T N s = T s := by
  unfold zT1
  rw [if_neg (by rw [h]; decide)]
theorem zT1_ag {N : Mem} (hA : Ag T M) (f : Fj zCcQ M N) : Ag (zT1 T N) N := fun s j k z => by
  by_cases e : zcls s = true
  · have : zT1 T N s = N s := by unfold zT1; rw [if_pos e]
    rw [this]
  · rw [zT1_e T N (Bool.eq_false_iff.mpr e)]
    have hz : ¬ zCcQ s j k := fun w => by
      rcases w with w | w | w
      · rw [w] at z
        have : zin 103 k = false := rfl
        rw [this] at z; cases z
      · rw [w.1, w.2] at z
        have : zin 10 10 = false := rfl
        rw [this] at z; cases z
      · exact e w
    rw [f s j k hz]
    exact hA s j k z
set_option maxHeartbeats 8000000 in
theorem l_cell (h : Iv T O κ M) (hK : ∀ T' O' κ' M', Iv T' O' κ' M' → K κ' M') : wp_law_2 p1 p2 p3 p4 κ M K := by
  have h' := h
  obtain ⟨hG, hL, hA, -, -, -, -, hp, hw, -⟩ := h
  have hC := hG.nC
  have hR := hG.nR
  have hKn := hG.nK
  have e13 := hA.s13
  have e14 := hA.s14
  obtain ⟨n12, n13, n14⟩ := hL.n
  have hK0 : ∀ M', Iv T O κ M' → K κ M' := fun M' => hK T O κ M'
  refine k_hasRow hG hL hA (fun hr => ⟨fun _ => ?_, fun z => absurd z (by decide)⟩) (fun hr => ⟨fun z => absurd rfl z, fun _ => Or.inl ⟨rfl, q_cell hG hA (fun _ => finx0 h' hK0 (by decide)) (fun a _ _ => absurd a hr) (fun a _ _ _ _ => absurd a hr) (fun a _ _ _ _ _ => absurd a hr)⟩⟩)
  refine k_hasColumn hG hL hA (fun hc => ⟨fun _ => ?_, fun z => absurd z (by decide)⟩) (fun hc => ⟨fun z => absurd rfl z, fun _ => Or.inl ⟨rfl, q_cell hG hA (fun _ => finx0 h' hK0 (by decide)) (fun _ a _ => absurd a hc) (fun _ a _ _ _ => absurd a hc) (fun _ a _ _ _ _ => absurd a hc)⟩⟩)
  have hbad : ¬ ((1 ≤ p3 ∧ p3 ≤ 4) ∧ 1 ≤ p4 ∧ p4 ≤ 6) → wp_X10_cell p1 p2 p3 p4 M (fun r1 N1 => wp_X10_thrown N1 (fun r2 N2 => (r2 = 2) ∧ ((2 : Int) = 0 → N2 103 0 0 = r1) ∧ K κ N2)) := fun hx => q_cell hG hA (fun z => absurd ⟨hr, hc⟩ z) (fun _ _ _ => finx0 h' hK0 (by decide)) (fun _ _ a b _ => absurd ⟨a, b⟩ hx) (fun _ _ a b _ _ => absurd ⟨a, b⟩ hx)
  refine ⟨fun a => Or.inr (Or.inl ⟨rfl, hbad (by omega)⟩), fun d0 => ⟨fun a => Or.inr (Or.inl ⟨rfl, hbad (by omega)⟩), fun d4 => ⟨fun a => Or.inr (Or.inl ⟨rfl, hbad (by omega)⟩), fun w0 => ⟨fun w6 => ?_, fun a => Or.inr (Or.inl ⟨rfl, hbad (by omega)⟩)⟩⟩⟩⟩
  have hd : 1 ≤ p3 ∧ p3 ≤ 4 := ⟨d0, d4⟩
  have hw' : 1 ≤ p4 ∧ p4 ≤ 6 := ⟨w0, w6⟩
  have hfull : ¬ (T 11 0 15 < 100 ∧ zFree T p1 p2 p3 p4) → wp_X10_cell p1 p2 p3 p4 M (fun r1 N1 => wp_X10_thrown N1 (fun r2 N2 => (r2 = 3) ∧ ((3 : Int) = 0 → N2 103 0 0 = r1) ∧ K κ N2)) := fun hx => q_cell hG hA (fun z => absurd ⟨hr, hc⟩ z) (fun _ _ z => absurd ⟨hd, hw'⟩ z) (fun _ _ _ _ _ => finx0 h' hK0 (by decide)) (fun _ _ _ _ a b => absurd ⟨a, b⟩ hx)
  refine ⟨by rw [e13, n13]; exact hr, fun a => ?_, fun a => ?_⟩
  · rw [e14, n14] at a
    exact Or.inr (Or.inr ⟨rfl, hfull (fun z => by have := z.1; omega)⟩)
  · rw [e14, n14] at a
    rw [e13, (hL.row hr.1 hr.2).1]
    refine k_hasFreePlaces hG hL hA hr.1 hr.2 hc.1 hc.2 d0 d4 w0 w6 (fun hf => ⟨fun _ => ?_, fun z => absurd z (by decide)⟩) (fun hf => ⟨fun z => absurd rfl z, fun _ => Or.inr (Or.inr ⟨rfl, hfull (fun z => hf z.2)⟩)⟩)
    intro M9 m9
    obtain ⟨n, en⟩ : ∃ n, n = T 11 0 15 := ⟨_, rfl⟩
    have ek : κ 1 = n := by rw [en]; exact hp.1.1
    rw [ek]
    refine ⟨by omega, ⟨by omega, by omega⟩, ⟨by omega, by omega⟩, fun X mX => ?_⟩
    have gX : ∀ (s : Nat) (j k : Int), s ≠ 1 → s ≠ 24 → s ≠ 25 → s ≠ 26 → s ≠ 10 → X s j k = M s j k := fun s j k z1 z2 z3 z4 z5 => by
      rw [mX]
      show M1 M9 n p1 p2 p3 p4 s j k = M s j k
      unfold M1
      rw [if_neg (fun w => z1 w.1), if_neg (fun w => z2 w.1), if_neg (fun w => z3 w.1), if_neg (fun w => z4 w.1), m9, up_s _ _ _ _ z5]
    have eX : ∀ s : Nat, s ≠ 1 → s ≠ 24 → s ≠ 25 → s ≠ 26 → s ≠ 10 → X s = M s := fun s z1 z2 z3 z4 z5 => funext fun j => funext fun k => gX s j k z1 z2 z3 z4 z5
    have x1 : ∀ k, X 1 n k = (if k = 0 then p1 else if k = 1 then p2 else if k = 2 then p3 else if k = 3 then p4 else 0) := fun k => by
      rw [mX]
      show M1 M9 n p1 p2 p3 p4 1 n k = _
      unfold M1
      rw [if_pos ⟨rfl, rfl⟩]
    have fX : Fj (zCelQ n) M X := by
      rw [mX, m9]
      exact ((Fj.rf _ _).up (zCelQ.c1 n)).m1 (fun s k w => zCelQ.c3 n s k w)
    have cX : Fj zCcQ M X := by
      rw [mX, m9]
      exact ((Fj.rf _ _).up (Or.inr (Or.inl ⟨rfl, rfl⟩))).m1 (fun s k w => Or.inr (Or.inr (by rcases w with w | w | w | w <;> rw [w] <;> rfl)))
    have e6 := hA.s6
    have e12 := hA.s12
    have e15 := hA.s15
    have e16 := hA.s16
    have e17 := hA.s17
    have e20 := hA.s20
    have e33 := hA.s33
    have e37 := hA.s37
    have l14 := hp.2 14 (by decide) (by decide)
    have l14 : T 14 0 (-2) = T 14 0 (-1) ∧ 0 ≤ T 20 0 (-1) ∧ T 20 0 (-1) ≤ 150 := l14
    refine k_addCell hG hL en (by omega) hr.1 hr.2 hc.1 hc.2 d0 d4 w0 w6 hf.1 ⟨by rw [x1, if_pos rfl], by rw [x1, if_neg (by decide), if_pos rfl], by rw [x1, if_neg (by decide), if_neg (by decide), if_pos rfl], by rw [x1, if_neg (by decide), if_neg (by decide), if_neg (by decide), if_pos rfl]⟩ (by rw [eX 6 (by decide) (by decide) (by decide) (by decide) (by decide), e6]) (by rw [eX 12 (by decide) (by decide) (by decide) (by decide) (by decide), e12]) (by rw [eX 33 (by decide) (by decide) (by decide) (by decide) (by decide), e33]) (by rw [eX 37 (by decide) (by decide) (by decide) (by decide) (by decide), e37]) (by rw [eX 15 (by decide) (by decide) (by decide) (by decide) (by decide), e15]) (by rw [eX 16 (by decide) (by decide) (by decide) (by decide) (by decide), e16]) (by rw [eX 17 (by decide) (by decide) (by decide) (by decide) (by decide), e17]) (fun k => by rw [eX 14 (by decide) (by decide) (by decide) (by decide) (by decide), e14]) (by rw [eX 20 (by decide) (by decide) (by decide) (by decide) (by decide), e20]) l14 (fun N fN dN n12' k14 k20 => ?_)
    dsimp only
    obtain ⟨N1, eN1⟩ : ∃ N1, N1 = up N 103 0 0 n := ⟨_, rfl⟩
    rw [← eN1]
    have c1 : Fj zCcQ M N1 := by rw [eN1]; exact (cX.tr (fN.mono (zAcQ_cc n))).up (Or.inl rfl)
    have f1 : Fj (zCelQ n) M N1 := by rw [eN1]; exact (fX.tr (fN.mono (zAcQ_cel n))).up (Or.inl rfl)
    have hA1 := zT1_ag hA c1
    have hG1 : Good (zT1 T N1) := hG.cl2 (fun s hs => zT1_e T N1 (by
      simp only [zcls, Bool.or_eq_false_iff, decide_eq_false_iff_not]
      omega))
    have t11 : zT1 T N1 11 = T 11 := zT1_e T N1 rfl
    have t6 : zT1 T N1 6 = T 6 := zT1_e T N1 rfl
    have t60 : zT1 T N1 60 = T 60 := zT1_e T N1 rfl
    have t63 : zT1 T N1 63 = T 63 := zT1_e T N1 rfl
    have t64 : zT1 T N1 64 = T 64 := zT1_e T N1 rfl
    have t69 : zT1 T N1 69 = T 69 := zT1_e T N1 rfl
    have hf1 : zFree (zT1 T N1) p1 p2 p3 p4 := by
      have := hf
      unfold zFree zrw at this ⊢
      rw [t6, t60, t63, t64, t69, t11]
      exact this
    refine q_cell hG1 hA1 (fun z => absurd (by rw [t11]; exact ⟨hr, hc⟩) z) (fun _ _ z => absurd ⟨hd, hw'⟩ z) (fun _ _ _ _ z => absurd ⟨by rw [t11]; exact a, hf1⟩ z) (fun _ _ _ _ _ _ => ?_)
    refine q_goes0 (by decide) (by decide) (by decide) ⟨fun _ => ?_, fun z => absurd z (by decide)⟩
    have b0 : N1 11 0 15 = n := by rw [c1 11 0 15 (fun z => by rcases z with z | z | z <;> revert z <;> decide), hA.f15, en]
    obtain ⟨Y0, y0⟩ : ∃ Y0, Y0 = up N1 11 0 59 0 := ⟨_, rfl⟩
    rw [← y0]
    have b1 : Y0 11 0 15 = n := by rw [y0, up_k _ _ _ _ _ _ (by decide), b0]
    rw [b1]
    refine ⟨⟨by omega, by omega⟩, ?_⟩
    intro Y1 y1
    have b2 : Y1 11 0 15 = n := by rw [y1, up_s _ _ _ _ (by decide), b1]
    rw [b2]
    refine ⟨⟨by omega, by omega⟩, ?_⟩
    intro Y2 y2
    have b3 : Y2 11 0 15 = n := by rw [y2, up_s _ _ _ _ (by decide), b2]
    rw [b3]
    refine ⟨⟨by omega, by omega⟩, ?_⟩
    intro Y3 y3
    have b4 : Y3 11 0 15 = n := by rw [y3, up_s _ _ _ _ (by decide), b3]
    rw [b4]
    refine ⟨⟨by omega, by omega⟩, ?_⟩
    intro Y4 y4
    have b5 : Y4 11 0 15 = n := by rw [y4, up_s _ _ _ _ (by decide), b4]
    have fY : ∀ (s : Nat) (j k : Int), s ≠ 11 → s ≠ 65 → s ≠ 66 → s ≠ 67 → s ≠ 68 → Y4 s j k = N1 s j k := fun s j k z1 z2 z3 z4 z5 => by
      rw [y4, up_s _ _ _ _ z5, y3, up_s _ _ _ _ z4, y2, up_s _ _ _ _ z3, y1, up_s _ _ _ _ z2, y0, up_s _ _ _ _ z1]
    have eY : ∀ s : Nat, s ≠ 11 → s ≠ 65 → s ≠ 66 → s ≠ 67 → s ≠ 68 → s ≠ 103 → s ≠ 10 → zcls s = false → (∀ k, zin s k = true) → Y4 s = T s := fun s z1 z2 z3 z4 z5 z6 z7 z8 z9 => funext fun j => funext fun k => by
      rw [fY s j k z1 z2 z3 z4 z5, c1 s j k (fun w => by
        rcases w with w | w | w
        · exact z6 w
        · exact z7 w.1
        · rw [z8] at w; cases w)]
      exact hA s j k (z9 k)
    refine q_putCell hG (n := n) (by omega) (by omega) hr.1 hr.2 hc.1 d0 d4 w0 w6 hf.1 (eY 60 (by decide) (by decide) (by decide) (by decide) (by decide) (by decide) (by decide) rfl (fun _ => rfl)) (eY 63 (by decide) (by decide) (by decide) (by decide) (by decide) (by decide) (by decide) rfl (fun _ => rfl)) (eY 69 (by decide) (by decide) (by decide) (by decide) (by decide) (by decide) (by decide) rfl (fun _ => rfl)) b5 (fun N2 F fN2 eF dF oF => ?_)
    have gF : ∀ (s : Nat) (j k : Int), s ≠ 69 → s ≠ 11 → F s j k = Y4 s j k := fun s j k z1 z2 => by rw [eF, up_s _ _ _ _ z2, fN2 s j k z1]
    have bF : ∀ (s : Nat) (j k : Int), s ≠ 69 → s ≠ 11 → s ≠ 65 → s ≠ 66 → s ≠ 67 → s ≠ 68 → s ≠ 103 → F s j k = N s j k := fun s j k z1 z2 z3 z4 z5 z6 z7 => by rw [gF s j k z1 z2, fY s j k z2 z3 z4 z5 z6, eN1, up_s _ _ _ _ z7]
    have cF : ∀ k, k ≠ 12 → F 1 n k = X 1 n k := fun k hk => by
      rw [bF 1 n k (by decide) (by decide) (by decide) (by decide) (by decide) (by decide) (by decide)]
      exact fN 1 n k (fun z => by
        rcases z with z | z | z | z
        · exact absurd z (by decide)
        · exact hk z.2.2
        · exact absurd z.1 (by decide)
        · exact absurd z.1 (by decide))
    have frF : Fj (zCelQ n) M F := by
      have g0 : Fj (zCelQ n) M Y4 := by
        rw [y4, y3, y2, y1, y0]
        exact ((((f1.up (zCelQ.c2 n (Or.inl rfl))).up (zCelQ.c4 n (by decide))).up (zCelQ.c4 n (by decide))).up (zCelQ.c4 n (by decide))).up (zCelQ.c4 n (by decide))
      rw [eF]
      exact (g0.tr (fN2.mono (fun s j k z => by rw [z]; exact zCelQ.c5 n j k))).up (zCelQ.c2 n (Or.inr rfl))
    have x1' : ∀ k, k ≠ 0 → k ≠ 1 → k ≠ 2 → k ≠ 3 → k ≠ 12 → F 1 n k = 0 := fun k u0 u1 u2 u3 u4 => by
      rw [cF k u4, x1, if_neg u0, if_neg u1, if_neg u2, if_neg u3]
    have F65 : F 65 0 n = p1 := by rw [gF 65 0 n (by decide) (by decide), y4, up_s _ _ _ _ (by decide), y3, up_s _ _ _ _ (by decide), y2, up_s _ _ _ _ (by decide), y1, up_eq]
    have F66 : F 66 0 n = p2 := by rw [gF 66 0 n (by decide) (by decide), y4, up_s _ _ _ _ (by decide), y3, up_s _ _ _ _ (by decide), y2, up_eq]
    have F67 : F 67 0 n = p3 := by rw [gF 67 0 n (by decide) (by decide), y4, up_s _ _ _ _ (by decide), y3, up_eq]
    have F68 : F 68 0 n = p4 := by rw [gF 68 0 n (by decide) (by decide), y4, up_eq]
    refine ⟨?_, fun _ => ?_, hK F O _ F (zcell_iv h' en (by omega) hr.1 hr.2 hc.1 hc.2 d0 d4 w0 w6 hf frF (by rw [eF, up_eq]) ⟨?_, ?_, ?_, ?_, x1' 7 (by decide) (by decide) (by decide) (by decide) (by decide), x1' 8 (by decide) (by decide) (by decide) (by decide) (by decide), x1' 9 (by decide) (by decide) (by decide) (by decide) (by decide), x1' 10 (by decide) (by decide) (by decide) (by decide) (by decide), x1' 11 (by decide) (by decide) (by decide) (by decide) (by decide), ?_⟩ (fun k => ?_) ⟨?_, ?_, ?_⟩ ?_ ⟨F65, F66, F67, F68⟩ dF oF (fun r k a0 a1 k0 k1 => ?_) ?_ ⟨?_, ?_, ?_⟩)⟩
    · rw [eF, up_k _ _ _ _ _ _ (by decide), fN2 11 0 59 (by decide), y4, up_s _ _ _ _ (by decide), y3, up_s _ _ _ _ (by decide), y2, up_s _ _ _ _ (by decide), y1, up_s _ _ _ _ (by decide), y0, up_eq]
    · rw [gF 103 0 0 (by decide) (by decide), fY 103 0 0 (by decide) (by decide) (by decide) (by decide) (by decide), eN1, up_eq]
    · rw [cF 0 (by decide), x1, if_pos rfl]
    · rw [cF 1 (by decide), x1, if_neg (by decide), if_pos rfl]
    · rw [cF 2 (by decide), x1, if_neg (by decide), if_neg (by decide), if_pos rfl]
    · rw [cF 3 (by decide), x1, if_neg (by decide), if_neg (by decide), if_neg (by decide), if_pos rfl]
    · rw [bF 1 n 12 (by decide) (by decide) (by decide) (by decide) (by decide) (by decide) (by decide)]; exact n12'
    · rw [bF 24 n k (by decide) (by decide) (by decide) (by decide) (by decide) (by decide) (by decide), fN 24 n k (fun z => by
        rcases z with z | z | z | z
        · exact absurd z (by decide)
        · exact absurd z.1 (by decide)
        · exact absurd z.1 (by decide)
        · exact absurd z.1 (by decide)), mX]
      show M1 M9 n p1 p2 p3 p4 24 n k = 0
      unfold M1
      rw [if_neg (fun w => absurd w.1 (by decide)), if_pos ⟨rfl, rfl⟩]
    · rw [bF 14 0 (-1) (by decide) (by decide) (by decide) (by decide) (by decide) (by decide) (by decide)]; exact k14.1
    · rw [bF 14 0 (-2) (by decide) (by decide) (by decide) (by decide) (by decide) (by decide) (by decide)]; exact k14.2.1
    · rw [bF 14 0 n (by decide) (by decide) (by decide) (by decide) (by decide) (by decide) (by decide)]; exact k14.2.2
    · rw [bF 20 0 (-1) (by decide) (by decide) (by decide) (by decide) (by decide) (by decide) (by decide)]; exact k20
    · rw [bF 37 r k (by decide) (by decide) (by decide) (by decide) (by decide) (by decide) (by decide)]; exact dN r k a0 a1 k0 k1
    · rw [bF 10 0 10 (by decide) (by decide) (by decide) (by decide) (by decide) (by decide) (by decide), fN 10 0 10 (fun z => by
        rcases z with z | z | z | z
        · exact absurd z (by decide)
        · exact absurd z.1 (by decide)
        · exact absurd z.1 (by decide)
        · exact absurd z.1 (by decide)), mX]
      show M1 M9 n p1 p2 p3 p4 10 0 10 = 1
      unfold M1
      rw [if_neg (fun w => absurd w.1 (by decide)), if_neg (fun w => absurd w.1 (by decide)), if_neg (fun w => absurd w.1 (by decide)), if_neg (fun w => absurd w.1 (by decide)), m9, up_eq]
    · rfl
    · rfl
    · rfl
end ZL
