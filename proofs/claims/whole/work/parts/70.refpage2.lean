/-! the pure part: the reference lays pages -/
def zput3 (T : Mem) (S : zSt) (l : Int) : zSt := zrec (fun k => if k = 0 then S 0 0 + 1 else S 0 k) (zset (S 1) (S 0 0) (zcd T (S 0 4))) (zset (S 2) (S 0 0) (S 0 1 - 1)) (zset (S 3) (S 0 0) (S 0 5)) (zset (S 4) (S 0 0) l) (zset (S 5) (S 0 1 - 1) (S 5 (S 0 1 - 1) + l)) (zset (S 6) (S 0 1 - 1) (S 6 (S 0 1 - 1) + znl T S l)) (S 7) (S 8)
section RQ
variable {T M : Mem}
theorem q_puts (hG : Good T) {S : zSt} (H : zPW T S) (h : S 0 4 < znn T) (hI : zIR (zitm T) M) (hP : zPR S M) {l wn : Int} (l0 : 1 ≤ l) (l1 : l ≤ zln T S) (hw : wn = zwn T S) {Qm : Mem → Prop} (hq : ∀ M', Fr zFP M M' → zPR (zput3 T S l) M' → Qm M') : wp_X10_puts (S 0 4) (S 0 5) l wn M Qm := by
  obtain ⟨⟨a1, a2, a3, a4, a5⟩, b, c, d, e, f, g, m⟩ := H
  have hb : 0 ≤ S 0 4 ∧ 0 ≤ S 0 5 ∧ S 0 5 < zhg T (S 0 4) := by omega
  have hn50 : znn T ≤ 50 := (zitm_ok hG).2.1
  obtain ⟨r1, r2, r3, r4⟩ := zit_r hG hb.1 h
  obtain ⟨p1, p2, p3, p4⟩ := hP
  have hl : l ≤ 300 := by unfold zln at l1; omega
  have hw0 : 0 ≤ wn ∧ wn ≤ 300 := by rw [hw]; unfold zwn; split <;> omega
  have hi := (hI.2 (S 0 4) hb.1 h).1
  have ec : zitm T 1 (S 0 4) = zcd T (S 0 4) := rfl
  rw [ec] at hi
  have hf := f (S 0 1 - 1) (by omega) (by omega)
  have h45 := p4 (S 0 1 - 1) (by omega) (by omega)
  refine ⟨⟨by omega, by omega⟩, ⟨by omega, by omega⟩, ?_⟩
  intro M1 e1
  rw [hi, p1] at e1
  have x46 : M1 11 0 46 = S 0 0 := by rw [e1, up_s _ _ _ _ (by decide)]; exact p1
  have x49 : M1 11 0 49 = S 0 1 := by rw [e1, up_s _ _ _ _ (by decide)]; exact p2
  refine ⟨⟨by omega, by omega⟩, ⟨by omega, by omega⟩, ?_⟩
  intro M2 e2
  rw [x46, x49] at e2
  have y46 : M2 11 0 46 = S 0 0 := by rw [e2, up_s _ _ _ _ (by decide)]; exact x46
  have y49 : M2 11 0 49 = S 0 1 := by rw [e2, up_s _ _ _ _ (by decide)]; exact x49
  refine ⟨⟨by omega, by omega⟩, ?_⟩
  intro M3 e3
  rw [y46] at e3
  have z46 : M3 11 0 46 = S 0 0 := by rw [e3, up_s _ _ _ _ (by decide)]; exact y46
  have z49 : M3 11 0 49 = S 0 1 := by rw [e3, up_s _ _ _ _ (by decide)]; exact y49
  refine ⟨⟨by omega, by omega⟩, ?_⟩
  intro M4 e4
  rw [z46] at e4
  have w46 : M4 11 0 46 = S 0 0 := by rw [e4, up_s _ _ _ _ (by decide)]; exact z46
  have w49 : M4 11 0 49 = S 0 1 := by rw [e4, up_s _ _ _ _ (by decide)]; exact z49
  refine ⟨⟨by omega, by omega⟩, ?_⟩
  intro M5 e5
  rw [w46] at e5
  have v49 : M5 11 0 49 = S 0 1 := by rw [e5, up_k _ _ _ _ _ _ (by decide)]; exact w49
  have v95 : M5 95 0 (S 0 1 - 1) = S 5 (S 0 1 - 1) := by
    rw [e5, up_s _ _ _ _ (by decide), e4, up_s _ _ _ _ (by decide), e3, up_s _ _ _ _ (by decide), e2, up_s _ _ _ _ (by decide), e1, up_s _ _ _ _ (by decide)]
    exact h45.1
  rw [v49]
  refine ⟨⟨by omega, by omega⟩, ⟨by omega, by omega⟩, ⟨by omega, by omega⟩, ⟨by omega, by omega⟩, ?_⟩
  intro M6 e6
  rw [v95] at e6
  have u49 : M6 11 0 49 = S 0 1 := by rw [e6, up_s _ _ _ _ (by decide)]; exact v49
  have u94 : M6 94 0 (S 0 1 - 1) = S 6 (S 0 1 - 1) := by
    rw [e6, up_s _ _ _ _ (by decide), e5, up_s _ _ _ _ (by decide), e4, up_s _ _ _ _ (by decide), e3, up_s _ _ _ _ (by decide), e2, up_s _ _ _ _ (by decide), e1, up_s _ _ _ _ (by decide)]
    exact h45.2
  have u86 : M6 86 0 (S 0 4) = zcd T (S 0 4) := by
    rw [e6, up_s _ _ _ _ (by decide), e5, up_s _ _ _ _ (by decide), e4, up_s _ _ _ _ (by decide), e3, up_s _ _ _ _ (by decide), e2, up_s _ _ _ _ (by decide), e1, up_s _ _ _ _ (by decide)]
    exact hi
  have enl : wn + (if ¬ zcd T (S 0 4) = 201 then 0 else l) = znl T S l := by rw [hw]; rfl
  have hnl : 0 ≤ znl T S l ∧ znl T S l ≤ 600 := by rw [← enl]; split <;> omega
  rw [u49, u86, enl, u94]
  refine ⟨⟨by omega, by omega⟩, ⟨by omega, by omega⟩, ⟨by omega, by omega⟩, ⟨by omega, by omega⟩, ⟨by omega, by omega⟩, ⟨by omega, by omega⟩, ?_⟩
  intro M7 e7
  refine hq M7 ?_ ⟨?_, ?_, fun k k0 k1 => ?_, fun p p0 p1 => ?_⟩
  · rw [e7, e6, e5, e4, e3, e2, e1]
    exact (((((((Fr.rf zFP M).up rfl).up rfl).up rfl).up rfl).up rfl).up rfl).up rfl
  · rw [e7, up_s _ _ _ _ (by decide), e6, up_s _ _ _ _ (by decide), e5, up_eq]; rfl
  · rw [e7, up_s _ _ _ _ (by decide)]; exact u49
  · have k1 : k < S 0 0 + 1 := k1
    show _ = zset (S 1) (S 0 0) (zcd T (S 0 4)) k ∧ _ = zset (S 2) (S 0 0) (S 0 1 - 1) k ∧ _ = zset (S 3) (S 0 0) (S 0 5) k ∧ _ = zset (S 4) (S 0 0) l k
    rw [e7, up_s _ _ _ _ (by decide), up_s _ _ _ _ (by decide), up_s _ _ _ _ (by decide), up_s _ _ _ _ (by decide), e6, up_s _ _ _ _ (by decide), up_s _ _ _ _ (by decide), up_s _ _ _ _ (by decide), up_s _ _ _ _ (by decide), e5, up_s _ _ _ _ (by decide), up_s _ _ _ _ (by decide), up_s _ _ _ _ (by decide), up_s _ _ _ _ (by decide)]
    by_cases hk : k = S 0 0
    · rw [hk, zset_eq, zset_eq, zset_eq, zset_eq, e4, up_s _ _ _ _ (by decide), up_s _ _ _ _ (by decide), up_s _ _ _ _ (by decide), up_eq, e3, up_s _ _ _ _ (by decide), up_s _ _ _ _ (by decide), up_eq, e2, up_s _ _ _ _ (by decide), up_eq, e1, up_eq]
      exact ⟨rfl, rfl, rfl, rfl⟩
    · rw [zset_ne _ _ hk, zset_ne _ _ hk, zset_ne _ _ hk, zset_ne _ _ hk, e4, up_s _ _ _ _ (by decide), up_s _ _ _ _ (by decide), up_s _ _ _ _ (by decide), up_k _ _ _ _ _ _ hk, e3, up_s _ _ _ _ (by decide), up_s _ _ _ _ (by decide), up_k _ _ _ _ _ _ hk, up_s _ _ _ _ (by decide), e2, up_s _ _ _ _ (by decide), up_k _ _ _ _ _ _ hk, up_s _ _ _ _ (by decide), up_s _ _ _ _ (by decide), e1, up_k _ _ _ _ _ _ hk, up_s _ _ _ _ (by decide), up_s _ _ _ _ (by decide), up_s _ _ _ _ (by decide)]
      exact p3 k k0 (by omega)
  · have p1 : p < S 0 1 := p1
    have q := p4 p p0 p1
    show _ = zset (S 5) (S 0 1 - 1) (S 5 (S 0 1 - 1) + l) p ∧ _ = zset (S 6) (S 0 1 - 1) (S 6 (S 0 1 - 1) + znl T S l) p
    by_cases hp : p = S 0 1 - 1
    · rw [hp, zset_eq, zset_eq, e7, up_s _ _ _ _ (by decide), up_eq, e6, up_eq]
      exact ⟨rfl, rfl⟩
    · rw [zset_ne _ _ hp, zset_ne _ _ hp, e7, up_s _ _ _ _ (by decide), up_k _ _ _ _ _ _ hp, e6, up_k _ _ _ _ _ _ hp, up_s _ _ _ _ (by decide), e5, up_s _ _ _ _ (by decide), up_s _ _ _ _ (by decide), e4, up_s _ _ _ _ (by decide), up_s _ _ _ _ (by decide), e3, up_s _ _ _ _ (by decide), up_s _ _ _ _ (by decide), e2, up_s _ _ _ _ (by decide), up_s _ _ _ _ (by decide), e1, up_s _ _ _ _ (by decide), up_s _ _ _ _ (by decide)]
      exact q
theorem q_begins1 {S : zSt} (a1 : 0 ≤ S 0 1) (a2 : S 0 1 < 1000) (hP : zPR S M) {Qm : Mem → Prop} (hq : ∀ M', Fr zFP M M' → zPR (znewp T S) M' → Qm M') : wp_X10_begins1 M Qm := by
  obtain ⟨p1, p2, p3, p4⟩ := hP
  refine ⟨⟨by omega, by omega⟩, ?_⟩
  intro M1 e1
  rw [p2] at e1
  have x : M1 11 0 49 = S 0 1 := by rw [e1, up_s _ _ _ _ (by decide)]; exact p2
  refine ⟨⟨by omega, by omega⟩, ?_⟩
  intro M2 e2
  rw [x] at e2
  have y : M2 11 0 49 = S 0 1 := by rw [e2, up_s _ _ _ _ (by decide)]; exact x
  refine ⟨⟨by omega, by omega⟩, ?_⟩
  intro M3 e3
  rw [y] at e3
  refine hq M3 ?_ ⟨?_, ?_, fun k k0 k1 => ?_, fun p p0 p1 => ?_⟩
  · rw [e3, e2, e1]
    exact (((Fr.rf zFP M).up rfl).up rfl).up rfl
  · rw [e3, up_k _ _ _ _ _ _ (by decide), e2, up_s _ _ _ _ (by decide), e1, up_s _ _ _ _ (by decide)]; exact p1
  · rw [e3, up_eq]; rfl
  · rw [e3, up_s _ _ _ _ (by decide), up_s _ _ _ _ (by decide), up_s _ _ _ _ (by decide), up_s _ _ _ _ (by decide), e2, up_s _ _ _ _ (by decide), up_s _ _ _ _ (by decide), up_s _ _ _ _ (by decide), up_s _ _ _ _ (by decide), e1, up_s _ _ _ _ (by decide), up_s _ _ _ _ (by decide), up_s _ _ _ _ (by decide), up_s _ _ _ _ (by decide)]
    exact p3 k k0 k1
  · have p1 : p < S 0 1 + 1 := p1
    show _ = zset (S 5) (S 0 1) 0 p ∧ _ = zset (S 6) (S 0 1) 0 p
    by_cases hp : p = S 0 1
    · rw [hp, zset_eq, zset_eq, e3, up_s _ _ _ _ (by decide), up_s _ _ _ _ (by decide), e2, up_s _ _ _ _ (by decide), up_eq, e1, up_eq]
      exact ⟨rfl, rfl⟩
    · rw [zset_ne _ _ hp, zset_ne _ _ hp, e3, up_s _ _ _ _ (by decide), up_s _ _ _ _ (by decide), e2, up_s _ _ _ _ (by decide), up_k _ _ _ _ _ _ hp, e1, up_k _ _ _ _ _ _ hp, up_s _ _ _ _ (by decide)]
      exact p4 p p0 (by omega)
theorem q_roomOf (hG : Good T) (hA : Ag T M) (hh : ∀ r, 0 ≤ r → r < T 11 0 8 → M 85 0 r = zhH T r) {p : Int} {Qm : Int → Mem → Prop} (hq : Qm (zrm T p) M) : wp_X10_roomOf p M Qm := by
  have hn := hG.n
  obtain ⟨-, -, -, -, h1, -, -, h2, -, h3, -⟩ := hn
  have e25 := hA.f25
  have hB : zHB T (zhH T) := zht_r hG (zwid_r hG)
  have a := zsum_r hG hB (p := 0) (by omega) (by omega) h2.1 (Int.le_refl _)
  have b := zsum_r hG hB (p := 2) (by omega) (by omega) h3.1 (Int.le_refl _)
  have ea : zsum T (zhH T) 0 = zS (fun k => zhH T (T 63 0 (24 * 0 + k))) 0 (T 64 0 0) := rfl
  have eb : zsum T (zhH T) 2 = zS (fun k => zhH T (T 63 0 (24 * 2 + k))) 0 (T 64 0 2) := rfl
  rw [← ea] at a
  rw [← eb] at b
  unfold zrm at hq
  refine q_sumOf hG hA hB hh (by omega) (by omega) ?_
  rw [e25]
  refine ⟨⟨by omega, by omega⟩, q_sumOf hG hA hB hh (by omega) (by omega) ⟨⟨by omega, by omega⟩, fun h => q_isAnyTotalled hG hA ?_, fun h => ?_⟩⟩
  · rw [if_neg h] at hq
    have ez : (0 : Int) ≤ (if zat T = 0 then 1 else 2) ∧ (if zat T = 0 then (1 : Int) else 2) ≤ 2 := by split <;> omega
    exact ⟨⟨by omega, by omega⟩, hq⟩
  · rw [if_pos h] at hq
    exact ⟨⟨by omega, by omega⟩, hq⟩
/-- what the pages stand on -/
def zHS (T M : Mem) : Prop := (∀ k, 0 ≤ k → k < T 11 0 4 → M 81 0 k = zRg T k ∧ M 82 0 k = zls T k ∧ M 83 0 k = zms T k ∧ M 84 0 k = zwid T k) ∧ ∀ r, 0 ≤ r → r < T 11 0 8 → M 85 0 r = zhH T r
theorem zHS.fr {M' : Mem} (h : zHS T M) (f : Fr zFP M M') : zHS T M' :=
  ⟨fun k a b => by rw [f 81 0 k rfl, f 82 0 k rfl, f 83 0 k rfl, f 84 0 k rfl]; exact h.1 k a b, fun r a b => by rw [f 85 0 r rfl]; exact h.2 r a b⟩
theorem zIR.fr {I : zSt} {M' : Mem} (h : zIR I M) (f : Fr zFP M M') : zIR I M' :=
  ⟨by rw [f 11 0 41 rfl]; exact h.1, fun k a b => by rw [f 86 0 k rfl, f 87 0 k rfl, f 88 0 k rfl, f 89 0 k rfl]; exact h.2 k a b⟩
theorem q_laysPages (hG : Good T) (hA : Ag T M) {Qm : Int → Mem → Prop} (hq : ∀ M', Fr zP M M' → zHS T M' → zPR (zpg T) M' → (zPW T (zpg T) ∨ ¬ zpg T 0 6 = 0) → (znn T ≤ zpg T 0 4 ∨ ¬ zpg T 0 6 = 0) → Qm (if zpg T 0 6 = 0 then 1 else 0) M') : wp_X10_laysPages M Qm := by
  have hat := zat_r T hG
  have hi := zitm_ok hG
  have hn50 : znn T ≤ 50 := hi.2.1
  have hn0 : 0 ≤ znn T := hi.1
  refine q_laysHeights hG hA (fun M1 f1 l1 d1 => ?_)
  have f1' : Fr zP M M1 := f1.mono zW_P
  have hA1 : Ag T M1 := f1'.ag hA zP_in
  refine q_laysItems hG hA1 d1 (fun M2 f2 i2 => ?_)
  have f2' : Fr zP M M2 := f1'.tr (f2.mono zFI_P)
  have hA2 : Ag T M2 := f2'.ag hA zP_in
  have s2 : zHS T M2 := ⟨fun k a b => by rw [f2 81 0 k rfl, f2 82 0 k rfl, f2 83 0 k rfl, f2 84 0 k rfl]; exact l1 k a b, fun r a b => by rw [f2 85 0 r rfl]; exact d1 r a b⟩
  refine q_isAnyTotalled hG hA2 ?_
  intro M3 e3
  intro M4 e4
  have f4 : Fr zFP M2 M4 := by rw [e4, e3]; exact ((Fr.rf zFP M2).up rfl).up rfl
  have p4 : zPR (fun _ _ => 0) M4 := ⟨by rw [e4, up_k _ _ _ _ _ _ (by decide), e3, up_eq], by rw [e4, up_eq], fun k a b => absurd b (by show ¬ k < 0; omega), fun k a b => absurd b (by show ¬ k < 0; omega)⟩
  refine q_begins1 (T := T) (S := fun _ _ => 0) (by decide) (by decide) p4 (fun M5 f5 p5 => ?_)
  have f5' : Fr zFP M2 M5 := f4.tr f5
  have hA5 : Ag T M5 := f5'.ag hA2 zFP_in
  have s5 := s2.fr f5'
  have i5 := i2.fr f5'
  refine q_roomOf hG hA5 s5.2 ?_
  have eat : (if zat T = 0 then (0 : Int) else 1) = zat T := by split <;> omega
  rw [eat]
  have hW0 := zPW_0 hG
  refine zWhile (σ := zSt × Mem) (fun n q => wp_X10_laysPages_49 Qm n (zat T) (q.1 0 2) (q.1 0 3) (q.1 0 4) (q.1 0 5) q.2) (fun q => zPW T q.1 ∧ Fr zFP M2 q.2 ∧ zPR q.1 q.2 ∧ ∃ f, zmu T q.1 < f ∧ zit T f q.1 = zpg T) (fun q => zmu T q.1) (fun n q hI ih => ?_) (zS0 T, M5) ⟨hW0, f5', p5, 1900, ?_, rfl⟩
  · obtain ⟨S, N⟩ := q
    obtain ⟨H, fN, pN, f, hf1, hf2⟩ := hI
    dsimp only at H fN pN hf1 hf2 ih ⊢
    have hAN : Ag T N := fN.ag hA2 zFP_in
    have sN := s2.fr fN
    have iN := i2.fr fN
    have H' := H
    obtain ⟨⟨a1, a2, a3, a4, a5⟩, b, c, d, e, g, k, m⟩ := H
    have hnn : N 11 0 41 = znn T := iN.1
    have hfail : ∀ N', Fr zFP M2 N' → zPR (zfail S) N' → zstp T S = zfail S → ¬ (znn T ≤ S 0 4) → Qm 0 N' := fun N' fN' pN' es hlt => by
      obtain ⟨f, rfl⟩ : ∃ k, f = k + 1 := ⟨f - 1, by omega⟩
      rw [zit_go (by omega), es, zit_done (Or.inl (by show ¬ (1 : Int) = 0; decide))] at hf2
      have h6 : ¬ zpg T 0 6 = 0 := by rw [← hf2]; show ¬ (1 : Int) = 0; decide
      have := hq N' (f2'.tr (fN'.mono zFP_P)) (s2.fr fN') (by rw [← hf2]; exact pN') (Or.inr h6) (Or.inr h6)
      rw [if_neg h6] at this
      exact this
    refine ⟨fun hd => ?_, fun hd => ?_⟩
    · rw [zit_done (Or.inr (by omega))] at hf2
      have := hq N (f2'.tr (fN.mono zFP_P)) sN (by rw [← hf2]; exact pN) (Or.inl (by rw [← hf2]; exact H')) (Or.inl (by rw [← hf2]; omega))
      rw [← hf2, if_pos e] at this
      exact this
    · have hlt : S 0 4 < znn T := by omega
      have hb : 0 ≤ S 0 4 ∧ 0 ≤ S 0 5 ∧ S 0 5 < zhg T (S 0 4) := by omega
      obtain ⟨r1, r2, r3, r4⟩ := zit_r hG hb.1 hlt
      obtain ⟨j1, j2, j3, j4⟩ := iN.2 (S 0 4) hb.1 hlt
      have j2' : N 87 0 (S 0 4) = zhg T (S 0 4) := j2
      have j3' : N 88 0 (S 0 4) = znt T (S 0 4) := j3
      have j4' : N 89 0 (S 0 4) = zbr T (S 0 4) := j4
      have ew : (if S 0 5 ≤ 0 then znt T (S 0 4) else 0) = zwn T S := rfl
      have el : zhg T (S 0 4) - S 0 5 = zln T S := rfl
      have hw : 0 ≤ zwn T S ∧ zwn T S ≤ 300 := by unfold zwn; split <;> omega
      have hl : 1 ≤ zln T S ∧ zln T S ≤ 300 := by rw [← el]; omega
      have em : S 0 2 - zat T - zwn T S = zmo T S := rfl
      obtain ⟨hst, hmu⟩ := zstp_ok hG H' hlt
      have hgo : ∀ N', Fr zFP M2 N' → zPW T (zstp T S) → zPR (zstp T S) N' → wp_X10_laysPages_49 Qm n (zat T) (zstp T S 0 2) (zstp T S 0 3) (zstp T S 0 4) (zstp T S 0 5) N' := fun N' fN' W' pN' => by
        obtain ⟨f, rfl⟩ : ∃ k, f = k + 1 := ⟨f - 1, by omega⟩
        rw [zit_go (by omega)] at hf2
        exact ih (zstp T S, N') ⟨W', fN', pN', f, by show zmu T (zstp T S) < f; omega, hf2⟩ hmu
      have hc0 : 0 ≤ (if znn T ≤ S 0 4 + 1 then 0 else zat T) ∧ (if znn T ≤ S 0 4 + 1 then 0 else zat T) ≤ 1 := by split <;> omega
      simp only [hnn, j2', j3', j4', ew, el, em]
      -- a new page
      have hnew : ¬ (zln T S + zwn T S ≤ S 0 2 - (if znn T ≤ S 0 4 + 1 then 0 else zat T)) → ¬ ((¬ zbr T (S 0 4) = 0 ∨ S 0 3 = 0) ∧ 1 ≤ zmo T S) → wp_X10_laysPages_212 Qm (wp_X10_laysPages_49 Qm n) (zat T) (S 0 3) (S 0 4) (S 0 5) N := fun hx hy => by
        refine ⟨fun h0 => ?_, fun h0 => ?_⟩
        · intro N1 n1
          intro N2 n2
          have es : zstp T S = zfail S := by unfold zstp; rw [if_neg hx, if_neg hy, if_neg (by omega)]
          exact hfail N2 (by rw [n2, n1]; exact (fN.up rfl).up rfl) ⟨by rw [n2, up_eq]; rfl, by rw [n2, up_k _ _ _ _ _ _ (by decide), n1, up_eq]; rfl, fun k a b => absurd b (by show ¬ k < 0; omega), fun k a b => absurd b (by show ¬ k < 0; omega)⟩ es (by omega)
        · have es : zstp T S = znewp T S := by unfold zstp; rw [if_neg hx, if_neg hy, if_pos h0]
          obtain ⟨W1, -⟩ := zPW_new hG H' hlt h0
          refine q_begins1 (T := T) (by omega) (by omega) pN (fun N1 g1 q1 => ?_)
          have fN1 := fN.tr g1
          have e49 : N1 11 0 49 = S 0 1 + 1 := q1.2.1
          rw [e49]
          refine ⟨⟨by omega, by omega⟩, q_roomOf hG (fN1.ag hA2 zFP_in) (s2.fr fN1).2 ?_⟩
          have := hgo N1 fN1 (by rw [es]; exact W1) (by rw [es]; exact q1)
          rw [es] at this
          rw [show S 0 1 + 1 - 1 = S 0 1 by omega]
          exact this
      have hbrk : ¬ (zln T S + zwn T S ≤ S 0 2 - (if znn T ≤ S 0 4 + 1 then 0 else zat T)) → (¬ zbr T (S 0 4) = 0 ∨ S 0 3 = 0) → wp_X10_laysPages_167 Qm (wp_X10_laysPages_49 Qm n) (zat T) (S 0 3) (S 0 4) (S 0 5) (zwn T S) (zmo T S) N := fun hx hy => by
        refine ⟨fun h1 => hnew hx (by omega), fun h1 => ?_⟩
        obtain ⟨W1, -, w3⟩ := zPW_brk hG H' hlt hx h1
        have es : zstp T S = zbrk T S := by unfold zstp; rw [if_neg hx, if_pos ⟨hy, h1⟩]
        refine q_puts hG H' hlt iN pN h1 (by omega) rfl (fun N1 g1 q1 => ⟨⟨by omega, by omega⟩, q_begins1 (T := T) (S := zput3 T S (zmo T S)) (by show 0 ≤ S 0 1; omega) (by show S 0 1 < 1000; omega) q1 (fun N2 g2 q2 => ?_)⟩)
        have fN2 := (fN.tr g1).tr g2
        have e49 : N2 11 0 49 = S 0 1 + 1 := q2.2.1
        rw [e49]
        refine ⟨⟨by omega, by omega⟩, q_roomOf hG (fN2.ag hA2 zFP_in) (s2.fr fN2).2 ?_⟩
        have q2' : zPR (zbrk T S) N2 := q2
        have := hgo N2 fN2 (by rw [es]; exact W1) (by rw [es]; exact q2')
        rw [es] at this
        rw [show S 0 1 + 1 - 1 = S 0 1 by omega]
        exact this
      refine ⟨⟨by omega, by omega⟩, ⟨by omega, by omega⟩, fun _ => ⟨⟨by omega, by omega⟩, trivial⟩, ⟨by omega, by omega⟩, ⟨by omega, by omega⟩, ⟨by omega, by omega⟩, ⟨by omega, by omega⟩, ⟨by omega, by omega⟩, fun hx => ⟨⟨by omega, by omega⟩, fun hz => hbrk (by omega) (Or.inl hz), fun hz => ⟨fun h0 => hnew (by omega) (by omega), fun h0 => hbrk (by omega) (Or.inr h0)⟩⟩, fun hx => ?_⟩
      obtain ⟨W1, -, -⟩ := zPW_fit hG H' hlt hx
      have es : zstp T S = zfit T S := by unfold zstp; rw [if_pos hx]
      refine q_puts hG H' hlt iN pN hl.1 (Int.le_refl _) rfl (fun N1 g1 q1 => ⟨⟨by omega, by omega⟩, ⟨by omega, by omega⟩, ⟨by omega, by omega⟩, ?_⟩)
      have q1' : zPR (zfit T S) N1 := q1
      have := hgo N1 (fN.tr g1) (by rw [es]; exact W1) (by rw [es]; exact q1')
      rw [es] at this
      exact this
  · have hz := hW0.2.2.1
    have h6 := hW0.2.2.2.2.1
    have h03 := hW0.1
    show zmu T (zS0 T) < 1900
    unfold zmu
    rw [if_neg (by omega)]
    omega
end RQ
