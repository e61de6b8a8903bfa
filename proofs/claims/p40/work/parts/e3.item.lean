/-! pages: one thing of the law's walk -/
section EC
variable {T M M0 : Mem} {Qm : Mem → Prop} {K195 : Int → Int → Int → Int → Int → Int → Int → Int → Mem → Prop} {y9 y10 y12 y16 : Int}
theorem zPX_stp (hG : Good T) {S : zSt} (H : zPW T S) (h : S 0 4 < znn T) (X : zPX T S) : zstp T S = zfail S ∨ zPX T (zstp T S) := by
  have H' := H
  obtain ⟨⟨a1, a2, a3, a4, a5⟩, b, -⟩ := H
  have hb : 0 ≤ S 0 4 ∧ 0 ≤ S 0 5 := by omega
  unfold zstp
  by_cases hf : zln T S + zwn T S ≤ S 0 2 - (if znn T ≤ S 0 4 + 1 then 0 else zat T)
  · rw [if_pos hf]
    exact Or.inr (zPX_put hG H' h X 0 (S 0 4 + 1) (fun j j0 => by omega))
  · rw [if_neg hf]
    by_cases hq : (¬ zbr T (S 0 4) = 0 ∨ S 0 3 = 0) ∧ 1 ≤ zmo T S
    · rw [if_pos hq]
      exact Or.inr (zPX_put hG H' h X (S 0 5 + zmo T S) (S 0 4) (fun j j0 => by omega))
    · rw [if_neg hq]
      by_cases hz : ¬ S 0 3 = 0
      · rw [if_pos hz]; exact Or.inr X
      · rw [if_neg hz]; exact Or.inl rfl
theorem zWk.cg {S S' : zSt} (h : zWk T M0 M S) (e0 : S' 0 0 = S 0 0) (e01 : S' 0 1 = S 0 1) (e1 : S' 1 = S 1) (e2 : S' 2 = S 2) (e4 : S' 4 = S 4) (e5 : S' 5 = S 5) (e6 : S' 6 = S 6) (e7 : S' 7 = S 7) : zWk T M0 M S' := by
  obtain ⟨h1, h2, h3, h4⟩ := h
  refine ⟨h1, ?_, fun r q r0 r1 q0 q1 => (h3 r q r0 r1 q0 q1).trans (zlat_same e0 e1 e2 e4 r q).symm, ?_⟩
  · unfold zU
    rw [e01, e5, e6]
    exact h2
  · rw [e0, e1, e7]
    exact h4
theorem zWk_brk {S : zSt} (h : zWk T M0 M (zput4 T S (zmo T S))) : zWk T M0 M (zbrk T S) := (zWk_new h).cg rfl rfl rfl rfl rfl rfl rfl rfl
theorem zWk_fit {S : zSt} (h : zWk T M0 M (zput4 T S (zln T S))) : zWk T M0 M (zfit T S) := h.cg rfl rfl rfl rfl rfl rfl rfl rfl
theorem zlat_b {S : zSt} (H : zPW T S) (r q : Int) : 0 ≤ zlat S r q ∧ zlat S r q ≤ 1000000 := by
  obtain ⟨⟨a1, -⟩, -, ⟨b1, b2⟩, -, -, -, c, -⟩ := H
  have := zS_bd (f := fun k => if ¬ S 1 k = r then 0 else if ¬ S 2 k = q then 0 else S 4 k) (a := 0) (b := S 0 0) 0 300 a1 (fun k k0 k1 => by
    have := (c k k0 k1).2.1
    split
    · omega
    · split <;> omega)
  unfold zlat
  omega
set_option maxHeartbeats 8000000 in
theorem j_563 (hG : Good T) (hn : lwN T) (hR : 0 < T 11 0 8) {i row body br en J : Int} (m1 : M0 112 0 1 = T 11 0 8) (m4 : M0 112 0 4 = T 11 0 25) (e9 : y9 = zat T) (e10 : y10 = zsum T (zhH T) 0 + zsum T (zhH T) 2) (h10 : 0 ≤ y10 ∧ y10 ≤ 1000) (I : zIc T J i row body) (hi : 0 ≤ i ∧ i ≤ 90) (hJ : J < znn T) (hbr : br = 0 ↔ zbr T J = 0) (hen : (if en = 0 then zat T else 0) = (if znn T ≤ J + 1 then 0 else zat T)) (hfin : ∀ S M', zPW T S → zRch T S → zPX T S → zWk T M0 M' S → S 0 4 = J + 1 → S 0 5 = 0 → K195 y9 y10 y12 (S 0 1 - 1) (S 0 2) (if S 0 3 = 0 then 1 else 0) y16 (i + 1) M') (hfail : ¬ zpg T 0 6 = 0 → ∀ M', (∀ (s : Nat) (j k : Int), s ≠ 114 → s ≠ 115 → s ≠ 116 → M' s j k = M0 s j k) → M' 114 0 0 = -1 → Qm M') : ∀ (f : Nat) (S : zSt) (M : Mem), zmu T S < f → zPW T S → zRch T S → zPX T S → zWk T M0 M S → S 0 4 = J → (S 0 5 = 0 → ¬ body = 0 → Int.tmod i 2 = 0 → M 116 0 row = -1) → wp_L_walk_563 Qm K195 (f + 1) y9 y10 y12 (S 0 1 - 1) (S 0 2) (if S 0 3 = 0 then 1 else 0) y16 i row body (zln T S) (zwn T S) br en M := by
  intro f
  induction f with
  | zero => intro S M h; omega
  | succ f ih =>
    intro S M hmu H hr X W eJ hbeg
    have hS : S 0 4 < znn T := by omega
    obtain ⟨st, mu⟩ := zstp_ok hG H hS
    have hx := zPX_stp hG H hS X
    have hrs := zRch_s hG H hS hr
    have H' := H
    obtain ⟨⟨a1, a2, a3, a4, a5⟩, b, ⟨c1, c2⟩, d, e6, g, g2, g3⟩ := H
    have hS5 : 0 ≤ S 0 5 := by omega
    have hat := zat_r T hG
    obtain ⟨i1, i2, i3, i4⟩ := zit_r hG (i := J) (by omega) hJ
    have hln : 1 ≤ zln T S ∧ zln T S ≤ 300 := by
      unfold zln
      rw [eJ]
      rw [eJ] at b
      omega
    have hwn : 0 ≤ zwn T S ∧ zwn T S ≤ 300 := by
      unfold zwn
      rw [eJ]
      split <;> omega
    obtain ⟨tn1, tn2, tn3⟩ := zitm_notes hG
    have h26 : ¬ T 11 0 26 = 0 → zwn T S = 0 := fun z => by
      unfold zwn
      rw [eJ, tn2 z J (by omega) hJ]
      split <;> rfl
    have h26' : T 11 0 26 = 0 → zcd T (S 0 4) ≠ 201 := fun z => by rw [eJ]; exact tn3 z J (by omega) hJ
    have hnew : S 0 5 = 0 → ∀ k, 0 ≤ k → k < S 0 0 → ¬ S 1 k = zcd T (S 0 4) := fun z k k0 k1 hk => by
      obtain ⟨j, j0, j1, j2⟩ := X.1 k k0 k1
      exact (zcd_ok hG).1 j (S 0 4) j0 (by omega) hS (j2.trans hk)
    have hold : ¬ S 0 5 = 0 → ∃ k, (0 ≤ k ∧ k < S 0 0) ∧ S 1 k = zcd T (S 0 4) := fun z => by
      obtain ⟨k, k0, k1, k2⟩ := X.2.2.2 (S 0 4) (by omega) (Or.inr ⟨rfl, by omega⟩)
      exact ⟨k, ⟨k0, k1⟩, k2⟩
    have hbd : ∀ q, 0 ≤ q → q < S 0 1 → (0 ≤ S 5 q ∧ S 5 q ≤ 1000000) ∧ 0 ≤ S 6 q ∧ S 6 q ≤ 1000000 := fun q q0 q1 => by
      have := g q q0 q1
      omega
    rw [← eJ] at I
    have put := fun {y14 y21 y25 y26 : Int} {K563} (l0 : 1 ≤ y26 ∧ y26 ≤ 300) (x1 : -10000 ≤ y14 ∧ y14 ≤ 10000) (x2 : 0 ≤ y21 ∧ y21 ≤ 300) => j_put (K195 := K195) (K563 := K563) (Qm := Qm) (y9 := y9) (y10 := y10) (y12 := y12) (y14 := y14) (y16 := y16) (y21 := y21) (y23 := br) (y24 := en) (y25 := y25) (y26 := y26) hG hn hR a1 ⟨by omega, by omega⟩ W m1 I ⟨by omega, by omega⟩ l0 rfl hwn x1 x2 (by omega) hbd (fun r q _ _ _ _ => zlat_b H' r q) h26 h26' hnew hold hbeg
    obtain ⟨fv, efv⟩ : ∃ v, v = (if S 0 2 < ((zln T S + zwn T S) + (if en = 0 then y9 else 0)) then (0 : Int) else 1) := ⟨_, rfl⟩
    have hen' : (if en = 0 then y9 else 0) = (if znn T ≤ S 0 4 + 1 then 0 else zat T) := by rw [e9, eJ]; exact hen
    have hfv0 : ∀ kb : Int, fv = (if S 0 2 < ((zln T S + zwn T S) + kb) then (0 : Int) else 1) → (fv = 1 ∧ zln T S + zwn T S ≤ S 0 2 - kb) ∨ (fv = 0 ∧ ¬ zln T S + zwn T S ≤ S 0 2 - kb) := fun kb h => by
      by_cases z : S 0 2 < ((zln T S + zwn T S) + kb)
      · rw [if_pos z] at h
        exact Or.inr ⟨h, by omega⟩
      · rw [if_neg z] at h
        exact Or.inl ⟨h, by omega⟩
    have hfv := hfv0 _ (by rw [efv, hen'])
    have hkb : 0 ≤ (if en = 0 then y9 else 0) ∧ (if en = 0 then y9 else 0) ≤ 1 := by split <;> omega
    have W112 : M 112 0 4 = T 11 0 25 := by rw [W.1 112 0 4 (by decide) (by decide) (by decide), m4]
    have hrm : ((T 11 0 25 - y10) - 1) - y9 = zrm T (S 0 1) := by
      unfold zrm
      rw [if_neg (by omega), e10, e9]
      split <;> omega
    have hT25 := hG.n.2.2.2.2.1
    refine ⟨fun z => absurd z (by omega), fun _ => ?_⟩
    rw [← efv]
    rcases hfv with ⟨f1, hf⟩ | ⟨f0, hf⟩
    · -- it fits
      have es : zstp T S = zfit T S := if_pos hf
      rw [f1, if_neg (c := (1 : Int) = 0) (by decide)]
      refine ⟨⟨by omega, by omega⟩, ⟨by omega, by omega⟩, fun z => absurd z (by decide), ⟨by omega, by omega⟩, fun _ => put hln ⟨by omega, by omega⟩ ⟨by omega, by omega⟩ (fun M' W' => ⟨fun _ => ⟨fun _ => ⟨⟨by omega, by omega⟩, ?_⟩, fun z => absurd z (by omega)⟩, fun z => absurd z (by decide)⟩), fun z => absurd z (by decide)⟩
      have P := (zPW_fit hG H' hS hf).1
      rw [es] at hrs hx
      have := hfin (zfit T S) M' P hrs (hx.resolve_left (fun z => by have := congrFun (congrFun z 0) 6; rw [show zfit T S 0 6 = S 0 6 from rfl, e6] at this; exact absurd (show (0 : Int) = 1 from this) (by decide))) (zWk_fit W') (by show S 0 4 + 1 = J + 1; rw [eJ]) rfl
      exact this
    · rw [f0, if_pos (c := (0 : Int) = 0) rfl]
      -- a new page behind what was put
      have brk : ((¬ zbr T (S 0 4) = 0 ∨ S 0 3 = 0) ∧ 1 ≤ zmo T S) → wp_L_walk_637 Qm K195 (wp_L_walk_563 Qm K195 (f + 1)) y9 y10 y12 (S 0 1 - 1) (S 0 2) y16 i row body (zln T S) (zwn T S) br en 0 (S 0 2 - y9 - zwn T S) M := fun hq => by
        have es : zstp T S = zbrk T S := by unfold zstp; rw [if_neg hf, if_pos hq]
        obtain ⟨P, -, Pl⟩ := zPW_brk hG H' hS hf hq.2
        have em : S 0 2 - y9 - zwn T S = zmo T S := by unfold zmo; rw [e9]
        rw [em]
        refine put ⟨hq.2, by omega⟩ ⟨by omega, by omega⟩ ⟨by omega, by omega⟩ (fun M' W' => ⟨fun z => absurd rfl z, fun _ => ?_⟩)
        have W112' : M' 112 0 4 = T 11 0 25 := by rw [W'.1 112 0 4 (by decide) (by decide) (by decide), m4]
        rw [W112', hrm]
        have hzr := zrm_r hG (S 0 1)
        refine ⟨⟨by omega, by omega⟩, ⟨by omega, by omega⟩, ⟨by omega, by omega⟩, ⟨by omega, by omega⟩, ?_⟩
        rw [es] at hrs hx mu
        have hne : zbrk T S ≠ zfail S := fun z => by
          have := congrFun (congrFun z 0) 6
          rw [show zbrk T S 0 6 = S 0 6 from rfl, e6] at this
          exact absurd (show (0 : Int) = 1 from this) (by decide)
        have z5 : zbrk T S 0 5 = S 0 5 + zmo T S := rfl
        have zpos : 0 < S 0 5 + zmo T S := Int.add_pos_of_nonneg_of_pos hS5 (Int.lt_of_lt_of_le (by decide) hq.2)
        have := ih (zbrk T S) M' (by omega) P hrs (hx.resolve_left hne) (zWk_brk W') eJ (fun z => absurd (z5.symm.trans z) (Int.ne_of_gt zpos))
        have l1 : zln T (zbrk T S) = zln T S - zmo T S := by
          unfold zln
          rw [z5, show zbrk T S 0 4 = S 0 4 from rfl]
          omega
        have l2 : zwn T (zbrk T S) = 0 := by
          unfold zwn
          rw [z5, if_neg (Int.not_le.mpr zpos)]
        rw [l1, l2, show zbrk T S 0 1 = S 0 1 + 1 from rfl, show zbrk T S 0 2 = zrm T (S 0 1) from rfl, show zbrk T S 0 3 = 0 from rfl, if_pos rfl, show S 0 1 + 1 - 1 = S 0 1 - 1 + 1 by omega] at this
        exact this
      -- nothing is put
      have non : ¬ ((¬ zbr T (S 0 4) = 0 ∨ S 0 3 = 0) ∧ 1 ≤ zmo T S) → wp_L_walk_786 Qm K195 (wp_L_walk_563 Qm K195 (f + 1)) y9 y10 y12 (S 0 1 - 1) (S 0 2) (if S 0 3 = 0 then 1 else 0) y16 i row body (zln T S) (zwn T S) br en 0 M := fun hq => by
        by_cases h3 : S 0 3 = 0
        · rw [if_pos h3]
          have es : zstp T S = zfail S := by unfold zstp; rw [if_neg hf, if_neg hq, if_neg (fun z => z h3)]
          refine ⟨fun z => absurd z (by decide), fun _ N eN => hfail (zRch_f hG H' hS hr es) N (fun s j k x1 x2 x3 => by rw [eN, up_s _ _ _ _ x1]; exact W.1 s j k x1 x2 x3) (by rw [eN, up_eq])⟩
        · rw [if_neg h3]
          have es : zstp T S = znewp T S := by unfold zstp; rw [if_neg hf, if_neg hq, if_pos h3]
          obtain ⟨P, -⟩ := zPW_new hG H' hS h3
          refine ⟨fun _ => ⟨fun z => absurd rfl z, fun _ => ?_⟩, fun z => absurd rfl z⟩
          rw [W112, hrm]
          have hzr := zrm_r hG (S 0 1)
          refine ⟨⟨by omega, by omega⟩, ⟨by omega, by omega⟩, ⟨by omega, by omega⟩, ⟨by omega, by omega⟩, ?_⟩
          rw [es] at hrs mu
          have := ih (znewp T S) M (by omega) P hrs X (zWk_new W) eJ hbeg
          rw [show zln T (znewp T S) = zln T S from rfl, show zwn T (znewp T S) = zwn T S from rfl, show znewp T S 0 1 = S 0 1 + 1 from rfl, show znewp T S 0 2 = zrm T (S 0 1) from rfl, show znewp T S 0 3 = 0 from rfl, if_pos rfl, show S 0 1 + 1 - 1 = S 0 1 - 1 + 1 by omega] at this
          exact this
      have ezm : S 0 2 - y9 - zwn T S = zmo T S := by unfold zmo; rw [e9]
      rw [eJ] at brk non
      have g632 : (¬ zbr T J = 0 ∨ S 0 3 = 0) → wp_L_walk_632 Qm K195 (wp_L_walk_563 Qm K195 (f + 1)) y9 y10 y12 (S 0 1 - 1) (S 0 2) (if S 0 3 = 0 then 1 else 0) y16 i row body (zln T S) (zwn T S) br en 0 (S 0 2 - y9 - zwn T S) M := fun hq => ⟨fun z => non (fun y => by omega), fun z => brk ⟨hq, by omega⟩⟩
      refine ⟨⟨by omega, by omega⟩, ⟨by omega, by omega⟩, fun _ => ⟨⟨by omega, by omega⟩, ⟨by omega, by omega⟩, trivial⟩, ⟨by omega, by omega⟩, fun z => absurd rfl z, fun _ => ⟨fun z => g632 (Or.inl (fun y => z (hbr.2 y))), fun z => ⟨fun y => non (fun x => ?_), fun y => g632 (Or.inr ?_)⟩⟩⟩
      · rcases x.1 with u | u
        · exact u (hbr.1 z)
        · rw [if_pos u] at y; exact absurd y (by decide)
      · by_cases u : S 0 3 = 0
        · exact u
        · rw [if_neg u] at y; exact absurd rfl y
end EC
