/-! the law's leaves: what they come to -/
theorem ite_max {a b : Int} : (if a ≤ b then b else a) = max b a := by split <;> omega
section JB
variable {T M : Mem} {p0 p1 p2 p3 p4 p5 p6 : Int}
theorem j_wants (hG : Good T) (L : zLw T M) (h0 : 0 ≤ p1) (h1 : p1 < T 11 0 15) (hm : p2 = 0 ∨ p2 = 1) {Qm : Int → Mem → Prop} (hq : Qm (zwant T p2 p1) M) : wp_L_wants p1 p2 M Qm := by
  have hn := L.n
  unfold lwN at hn
  obtain ⟨l1, l2, l3⟩ := L.w.1 p1 h0 h1
  have hw := L.wok hG h0 (by omega : p1 < 10)
  have n0 := (hG.cell p1 h0 h1).2.2.2.2.2.1.1
  have hwd := fun i => hG.word p1 i h0 h1
  have hb : ∀ k, 0 ≤ k → k ≤ T 72 0 p1 → (0 ≤ zF (fun m i => max m (zpiece T p1 i)) 0 0 k ∧ zF (fun m i => max m (zpiece T p1 i)) 0 0 k ≤ 30) ∧ k ≤ zS (fun i => T 70 0 (12 * p1 + i)) 0 k ∧ zS (fun i => T 70 0 (12 * p1 + i)) 0 k ≤ 20 * k := fun k k0 k1 => by
    refine ⟨zF_ind (fun _ m => 0 ≤ m ∧ m ≤ 30) k0 ⟨by omega, by omega⟩ (fun i v i0 i1 hv => ?_), ?_⟩
    · have := hwd i i0 (by omega)
      unfold zpiece
      show 0 ≤ max v _ ∧ max v _ ≤ 30
      split <;> omega
    · have := zS_bd (f := fun i => T 70 0 (12 * p1 + i)) 1 20 k0 (fun i i0 i1 => (hwd i i0 (by omega)).1)
      omega
  refine zLoop (σ := Int × Int) (fun n k s => wp_L_wants_8 p1 p2 Qm n s.1 s.2 k M) (fun k s => s.1 = zF (fun m i => max m (zpiece T p1 i)) 0 0 k ∧ s.2 = -1 + k + zS (fun i => T 70 0 (12 * p1 + i)) 0 k) (T 72 0 p1) n0 (s := (0, -1)) ⟨(zF_self _ _ (Int.le_refl _)).symm, by rw [zS_self _ (Int.le_refl _)]; rfl⟩ (fun n s hs => ?_) (fun n i s i0 i1 hs ih => ?_)
  · obtain ⟨e1, e2⟩ := hs
    obtain ⟨b1, b2⟩ := hb _ n0 (Int.le_refl _)
    refine ⟨⟨by omega, by omega⟩, hw, ?_⟩
    rw [l1]
    refine ⟨fun _ => ?_, fun z => absurd z (by omega)⟩
    have e : (if p2 = 0 then s.1 else (if s.2 ≤ 0 then s.1 else s.2)) = zwant T p2 p1 := by
      unfold zwant
      rcases hm with z | z
      · rw [if_pos z, if_pos z, e1]; rfl
      · rw [if_neg (c := p2 = 0) (by omega), if_neg (c := p2 = 0) (by omega)]
        unfold zmost zlens
        by_cases y : T 72 0 p1 = 0
        · rw [y] at e1 e2 ⊢
          rw [zS_self _ (Int.le_refl _)] at e2 ⊢
          rw [zF_self _ _ (Int.le_refl _)] at e1
          rw [if_pos (c := s.2 ≤ 0) (by omega), e1]
          rfl
        · rw [if_neg (c := s.2 ≤ 0) (by omega), e2]
          omega
    rw [e]; exact hq
  · obtain ⟨e1, e2⟩ := hs
    obtain ⟨b1, b2, b3⟩ := hb i i0 (by omega)
    obtain ⟨g1, g2⟩ := l3 i i0 i1
    have hwi := hwd i i0 i1
    refine ⟨⟨by omega, by omega⟩, hw, ?_⟩
    rw [l1]
    refine ⟨fun z => absurd z (by omega), fun _ => ⟨⟨by omega, by omega⟩, hw, ⟨by omega, by omega⟩, ⟨⟨by omega, by omega⟩, hw, ⟨by omega, by omega⟩, ?_⟩⟩⟩
    rw [g1, g2]
    obtain ⟨ln, eln⟩ : ∃ z, z = T 70 0 (12 * p1 + i) := ⟨_, rfl⟩
    obtain ⟨ct, ect⟩ : ∃ z, z = T 71 0 (12 * p1 + i) := ⟨_, rfl⟩
    have ep : zpiece T p1 i = if ct = 0 then ln else max (ct + 1) (ln - ct) := by unfold zpiece; rw [← eln, ← ect]
    rw [← eln, ← ect] at hwi ⊢
    have ey : (if (ln - ct) ≤ (if (if ¬ ct = 0 then (ct + 1) else ln) ≤ s.1 then s.1 else (if ¬ ct = 0 then (ct + 1) else ln)) then (if (if ¬ ct = 0 then (ct + 1) else ln) ≤ s.1 then s.1 else (if ¬ ct = 0 then (ct + 1) else ln)) else (ln - ct)) = max s.1 (zpiece T p1 i) := by
      rw [ite_max, ite_max, ep]
      by_cases c0 : ct = 0
      · rw [if_neg (c := ¬ ct = 0) (fun z => z c0), if_pos c0]
        omega
      · rw [if_pos (c := ¬ ct = 0) c0, if_neg c0]
        omega
    rw [ey]
    have hpb : zpiece T p1 i ≤ 30 := by
      rw [ep]
      split <;> omega
    refine ⟨fun _ => ⟨⟨by omega, by omega⟩, trivial⟩, by split <;> exact ⟨by omega, by omega⟩, ⟨by omega, by omega⟩, fun _ => ⟨⟨by omega, by omega⟩, trivial⟩, ⟨by omega, by omega⟩, ⟨by omega, by omega⟩, ⟨by omega, by omega⟩, ⟨by omega, by omega⟩, ih (max s.1 (zpiece T p1 i), s.2 + (1 + ln)) ⟨?_, ?_⟩⟩
    · rw [zF_succ _ _ i0, e1]
    · show s.2 + (1 + ln) = _
      rw [zS_succ _ i0, e2, ← eln]
      omega
theorem zdg_s (n : Nat) (w : Int) (w0 : 0 ≤ w) : zdg (n + 1) w = if w ≤ 9 then 0 else 1 + zdg n (w / 10) := by
  rw [← Int.tdiv_eq_ediv_of_nonneg w0]
  rfl
theorem zdg_6 {w : Int} (w0 : 0 ≤ w) (w1 : w < 1000000) : 1 + zdg 9 w = (if 10 ≤ w then (if 100 ≤ w then (if 1000 ≤ w then (if 10000 ≤ w then (if 100000 ≤ w then (6 : Int) else 5) else 4) else 3) else 2) else 1) := by
  rw [zdg_s 8 w w0]
  by_cases a1 : w ≤ 9
  · rw [if_pos a1, if_neg (by omega)]; rfl
  · rw [if_neg a1, if_pos (by omega), zdg_s 7 _ (by omega)]
    by_cases a2 : w / 10 ≤ 9
    · rw [if_pos a2, if_neg (by omega)]; rfl
    · rw [if_neg a2, if_pos (by omega), zdg_s 6 _ (by omega)]
      by_cases a3 : w / 10 / 10 ≤ 9
      · rw [if_pos a3, if_neg (by omega)]; rfl
      · rw [if_neg a3, if_pos (by omega), zdg_s 5 _ (by omega)]
        by_cases a4 : w / 10 / 10 / 10 ≤ 9
        · rw [if_pos a4, if_neg (by omega)]; rfl
        · rw [if_neg a4, if_pos (by omega), zdg_s 4 _ (by omega)]
          by_cases a5 : w / 10 / 10 / 10 / 10 ≤ 9
          · rw [if_pos a5, if_neg (by omega)]; rfl
          · rw [if_neg a5, if_pos (by omega), zdg_s 3 _ (by omega), if_pos (by omega)]; rfl
theorem j_leftOf (h0 : -99999999 ≤ p0) (h1 : p0 ≤ 99999999) {Qm : Int → Mem → Prop} (hq : Qm (zleft p0) M) : wp_L_leftOf p0 M Qm := by
  obtain ⟨a, ea⟩ : ∃ a, a = (if 0 ≤ p0 then p0 else (-p0)) := ⟨_, rfl⟩
  have ab : 0 ≤ a ∧ a ≤ 99999999 := by
    rw [ea]
    split <;> omega
  have et : Int.tdiv a 100 = a / 100 := Int.tdiv_eq_ediv_of_nonneg ab.1
  have e6 := zdg_6 (w := a / 100) (by omega) (by omega)
  have ez : zleft p0 = (if 0 ≤ p0 then (0 : Int) else 1) + (1 + zdg 9 (a / 100)) := by
    unfold zleft zabs
    rw [← ea, et]
    split <;> omega
  have hd : 1 ≤ 1 + zdg 9 (a / 100) ∧ 1 + zdg 9 (a / 100) ≤ 6 := by
    rw [e6]
    repeat' split
    all_goals omega
  unfold wp_L_leftOf
  rw [← ea, et, ← e6, ← ez]
  refine ⟨fun _ => ⟨⟨by omega, by omega⟩, trivial⟩, ⟨by omega, by omega⟩, ?_, hq⟩
  rw [ez]
  split <;> exact ⟨by omega, by omega⟩
theorem j_acr (hG : Good T) {c : Int} (h0 : 0 ≤ c) (h1 : c < T 11 0 15) (w : Int → Int) : -1 + zS (fun k => if ¬ T 59 0 k = 1 then 1 + w k else 0) (T 66 0 c) (T 66 0 c + T 68 0 c) = zacr T c w := by
  obtain ⟨w1, w2, w3, w4, -⟩ := hG.cell c h0 h1
  unfold zacr zshows
  have e : zS (fun k => if ¬ T 59 0 k = 1 then 1 + w k else 0) (T 66 0 c) (T 66 0 c + T 68 0 c) = zS (fun k => zsh T k + (if T 59 0 k = 0 then w k else 0)) (T 66 0 c) (T 66 0 c + T 68 0 c) := zS_congr (fun k k0 k1 => by
    obtain ⟨-, -, -, v⟩ := hG.col k (by omega) (by omega)
    unfold zsh
    by_cases z : T 59 0 k = 0
    · rw [if_pos (by omega), if_pos z, if_pos z]
    · rw [if_neg (by omega), if_neg z, if_neg z]; rfl)
  rw [e, zS_add]
  omega
theorem j_across (hG : Good T) (L : zLw T M) (h0 : 0 ≤ p3) (h1 : p3 < T 11 0 15) {w : Int → Int} (hx : ∀ k, 0 ≤ k → k < T 11 0 4 → M 113 0 (8 + k) = w k) (hB : ∀ k, 0 ≤ k → k < T 11 0 4 → 0 ≤ w k ∧ w k ≤ 300) {Qm : Int → Mem → Prop} (hq : Qm (zacr T p3 w) M) : wp_L_across p3 M Qm := by
  have hn := L.n
  unfold lwN at hn
  obtain ⟨t0, t1, t2, t3, -⟩ := L.t p3 h0 h1
  obtain ⟨w1, w2, w3, w4, -⟩ := hG.cell p3 h0 h1
  unfold wp_L_across
  rw [t1]
  refine ⟨⟨by omega, by omega⟩, ⟨by omega, by omega⟩, ⟨by omega, by omega⟩, ?_⟩
  refine zLoop (σ := Int) (fun n k s => wp_L_across_13 p3 Qm n s k M) (fun k s => s = -1 + zS (fun k => if ¬ T 59 0 k = 1 then 1 + w k else 0) (T 66 0 p3) k) (T 66 0 p3 + T 68 0 p3) (by omega) (s := -1) (by rw [zS_self _ (Int.le_refl _)]; rfl) (fun n s hs => ?_) (fun n k s a b hs ih => ?_)
  · refine ⟨⟨by omega, by omega⟩, ⟨by omega, by omega⟩, ⟨by omega, by omega⟩, ⟨by omega, by omega⟩, ⟨by omega, by omega⟩, ⟨by omega, by omega⟩, ?_⟩
    rw [t1, t3]
    refine ⟨⟨by omega, by omega⟩, fun _ => ?_, fun z => absurd z (by omega)⟩
    rw [hs, j_acr hG h0 h1]
    exact hq
  · obtain ⟨-, -, -, c3⟩ := L.c k (by omega) (by omega)
    have hxk := hx k (by omega) (by omega)
    have hBk := hB k (by omega) (by omega)
    have hbd := zS_bd (f := fun k => if ¬ T 59 0 k = 1 then 1 + w k else 0) 0 301 a (fun i i0 i1 => by
      have := hB i (by omega) (by omega)
      split <;> omega)
    refine ⟨⟨by omega, by omega⟩, ⟨by omega, by omega⟩, ⟨by omega, by omega⟩, ⟨by omega, by omega⟩, ⟨by omega, by omega⟩, ⟨by omega, by omega⟩, ?_⟩
    rw [t1, t3, c3, hxk]
    have hv : 0 ≤ (if ¬ T 59 0 k = 1 then 1 + w k else 0) ∧ (if ¬ T 59 0 k = 1 then 1 + w k else 0) ≤ 301 := by split <;> omega
    refine ⟨⟨by omega, by omega⟩, fun z => absurd z (by omega), fun _ => ⟨⟨by omega, by omega⟩, ⟨by omega, by omega⟩, ⟨by omega, by omega⟩, fun _ => ⟨⟨by omega, by omega⟩, ⟨by omega, by omega⟩, ⟨by omega, by omega⟩, trivial⟩, ⟨by omega, by omega⟩, ?_, ⟨by omega, by omega⟩, ih _ ?_⟩⟩
    · rw [hs]
      exact ⟨by omega, by omega⟩
    · rw [zS_succ _ a, hs]
      omega
theorem j_sums (hG : Good T) (L : zLw T M) {Qm : Int → Mem → Prop} (hq : Qm (zat T) M) : wp_L_sums M Qm := by
  have hn := L.n
  unfold lwN at hn
  obtain ⟨m0, -⟩ := L.m
  have hb : ∀ k, 0 ≤ k → bit (zF (fun b k => if ¬ b = 0 then 1 else if T 58 0 k = 0 then 0 else if ¬ T 59 0 k = 0 then 0 else 1) 0 0 k) := fun k k0 => zF_ind (fun _ b => bit b) k0 bit_0 (fun i v _ _ _ => by
    show bit (if ¬ v = 0 then 1 else if T 58 0 i = 0 then 0 else if ¬ T 59 0 i = 0 then 0 else 1)
    split
    · exact bit_1
    · split
      · exact bit_0
      · split
        · exact bit_0
        · exact bit_1)
  refine zCount (fun n k s => wp_L_sums_4 Qm n s k M) (fun b k => if ¬ b = 0 then 1 else if T 58 0 k = 0 then 0 else if ¬ T 59 0 k = 0 then 0 else 1) 0 0 (T 11 0 4) (by omega) (fun n => ?_) (fun n k a b ih => ?_)
  · exact ⟨fun _ => ⟨hb _ (by omega), hq⟩, fun z => absurd z (by rw [m0]; omega)⟩
  · obtain ⟨-, -, c2, c3⟩ := L.c k a b
    obtain ⟨-, -, v, -⟩ := hG.col k a b
    refine ⟨fun z => absurd z (by rw [m0]; omega), fun _ => ?_⟩
    rw [c2, c3]
    refine ⟨fun _ => ⟨⟨by omega, by omega⟩, ⟨by omega, by omega⟩, ⟨by omega, by omega⟩, fun _ => ⟨⟨by omega, by omega⟩, ⟨by omega, by omega⟩, ⟨by omega, by omega⟩, trivial⟩, trivial⟩, ⟨by omega, by omega⟩, ?_⟩
    have e : ∀ y : Int, (if ¬ y = 0 then (1 : Int) else (if ¬ T 58 0 k = 1 then (0 : Int) else (if ¬ T 59 0 k = 0 then (0 : Int) else 1))) = (if ¬ y = 0 then 1 else if T 58 0 k = 0 then 0 else if ¬ T 59 0 k = 0 then 0 else 1) := fun y => by
      by_cases z : T 58 0 k = 0
      · rw [if_pos (c := ¬ T 58 0 k = 1) (by omega), if_pos (c := T 58 0 k = 0) z]
      · rw [if_neg (c := ¬ T 58 0 k = 1) (by omega), if_neg (c := T 58 0 k = 0) z]
    rw [e]
    exact ih
/-- lines of notes: of all rows, or of one -/
def zrnA (T : Mem) (p n : Int) : Int := zS (fun c => if p < 0 ∨ T 65 0 c = p then znote T c else 0) 0 n
theorem j_note (hG : Good T) {c : Int} (h0 : 0 ≤ c) (h1 : c < T 11 0 15) : 0 ≤ znote T c ∧ znote T c ≤ 3 := by
  obtain ⟨-, -, -, -, -, -, -, -, -, w, -⟩ := hG.cell c h0 h1
  unfold znote
  split <;> omega
theorem j_noteLines (hG : Good T) (L : zLw T M) {Qm : Int → Mem → Prop} (hq : Qm (zrnA T p3 (T 11 0 15)) M) : wp_L_noteLines p3 M Qm := by
  have hn := L.n
  unfold lwN at hn
  have hKn := hG.nK
  obtain ⟨-, -, m2, -⟩ := L.m
  refine zCount (fun n k s => wp_L_noteLines_6 p3 Qm n s k M) (fun s c => s + (if p3 < 0 ∨ T 65 0 c = p3 then znote T c else 0)) 0 0 (T 11 0 15) (by omega) (fun n => ?_) (fun n k a b ih => ?_)
  · exact ⟨fun _ => hq, fun z => absurd z (by rw [m2]; omega)⟩
  · obtain ⟨t0, t1, t2, t3, t4, -⟩ := L.t k a b
    have hs := zS_bd (f := fun c => if p3 < 0 ∨ T 65 0 c = p3 then znote T c else 0) 0 3 a (fun i x y => by
      have := j_note hG x (by omega : i < T 11 0 15)
      split <;> omega)
    have hs : 0 * (k - 0) ≤ zF (fun s c => s + (if p3 < 0 ∨ T 65 0 c = p3 then znote T c else 0)) 0 0 k ∧ zF (fun s c => s + (if p3 < 0 ∨ T 65 0 c = p3 then znote T c else 0)) 0 0 k ≤ 3 * (k - 0) := hs
    have hk := j_note hG a b
    obtain ⟨S, eS⟩ : ∃ S, S = zF (fun s c => s + (if p3 < 0 ∨ T 65 0 c = p3 then znote T c else 0)) 0 0 k := ⟨_, rfl⟩
    rw [← eS] at ih hs ⊢
    have yes : (p3 < 0 ∨ T 65 0 k = p3) → wp_L_noteLines_31 p3 Qm (wp_L_noteLines_6 p3 Qm n) k S M := fun hc => by
      rw [if_pos hc] at ih
      refine j_shows hG L a b ?_
      have e : (if zshows T k ≤ 0 then (0 : Int) else T 76 0 k) = znote T k := by
        have hsh : 0 ≤ zshows T k := zS_nn (fun i _ _ => by unfold zsh; split <;> omega)
        unfold znote
        by_cases z : zshows T k = 0
        · rw [if_pos (by omega), if_pos z]
        · rw [if_neg (by omega), if_neg z]
      rw [t4, e]
      exact ⟨fun _ => ⟨⟨by omega, by omega⟩, ⟨by omega, by omega⟩, ⟨by omega, by omega⟩, trivial⟩, ⟨by omega, by omega⟩, ⟨by omega, by omega⟩, ih⟩
    refine ⟨fun z => absurd z (by rw [m2]; omega), fun _ => ⟨fun z => yes (Or.inl z), fun z => ⟨⟨by omega, by omega⟩, ⟨by omega, by omega⟩, ?_⟩⟩⟩
    rw [t0]
    refine ⟨fun y => ?_, fun y => yes (Or.inr y)⟩
    rw [if_neg (by omega)] at ih
    exact ⟨⟨by omega, by omega⟩, ⟨by omega, by omega⟩, ih⟩
theorem zfig_r2 (hG : Good T) {r k : Int} (r0 : 0 ≤ r) (r1 : r < T 11 0 8) (k0 : 0 ≤ k) (k1 : k < T 11 0 4) : zfig T r k = -1 ∨ (0 ≤ zfig T r k ∧ zfig T r k < T 11 0 15) := by
  have hC := hG.nC
  have := (hG.pl r k r0 r1 k0 (by omega)).1
  unfold zfig
  repeat' split
  all_goals omega
theorem j_its (hG : Good T) (L : zLw T M) {r k c : Int} (r0 : 0 ≤ r) (r1 : r < T 11 0 8) (k0 : 0 ≤ k) (k1 : k < T 11 0 4) (c0 : 0 ≤ c) (c1 : c < T 11 0 15) : zfig T r k = c ↔ (M 107 0 (6 * c) = r ∧ M 107 0 (6 * c + 1) = k ∧ 0 ≤ M 107 0 (6 * c + 5) ∧ M 104 0 (4 * k + 3) = 0) := by
  obtain ⟨t0, t1, t2, t3, t4, t5⟩ := L.t c c0 c1
  obtain ⟨-, -, -, c3⟩ := L.c k k0 k1
  obtain ⟨-, -, -, -, -, -, w7, -, w9, -⟩ := hG.cell c c0 c1
  rw [zfig_cell hG r0 r1 k0 k1 c0 c1, t0, t1, t5, c3]
  constructor
  · rintro ⟨⟨a, b, d⟩, e⟩
    rw [d] at b
    rw [if_pos a]
    exact ⟨e.symm, d, by omega, b⟩
  · rintro ⟨a, b, d, e⟩
    by_cases z : T 73 0 c = 1
    · exact ⟨⟨z, by rw [b]; exact e, b⟩, a.symm⟩
    · rw [if_neg z] at d
      omega
theorem j_figure (hG : Good T) (L : zLw T M) (r0 : 0 ≤ p4) (r1 : p4 < T 11 0 8) (k0 : 0 ≤ p5) (k1 : p5 < T 11 0 4) {Qm : Int → Mem → Prop} (hq : Qm (zfv T p4 p5) M) : wp_L_figure p4 p5 M Qm := by
  have hn := L.n
  unfold lwN at hn
  have hKn := hG.nK
  obtain ⟨-, -, m2, -⟩ := L.m
  have hz := zfig_r2 hG r0 r1 k0 k1
  refine zLoop (σ := Int) (fun n k s => wp_L_figure_6 p4 p5 Qm n s k M) (fun k s => s = if 0 ≤ zfig T p4 p5 ∧ zfig T p4 p5 < k then T 74 0 (zfig T p4 p5) else 0) (T 11 0 15) hKn.1 (s := 0) (by rw [if_neg (by omega)]) (fun n s hs => ?_) (fun n c s a b hs ih => ?_)
  · refine ⟨fun _ => ?_, fun z => absurd z (by rw [m2]; omega)⟩
    have e : s = zfv T p4 p5 := by
      rw [hs]
      unfold zfv
      by_cases z : zfig T p4 p5 = -1
      · rw [if_neg (by omega), if_neg (fun y => y z)]
      · rw [if_pos (by omega), if_pos z]
    rw [e]; exact hq
  · have hi := j_its hG L r0 r1 k0 k1 a b
    refine ⟨fun z => absurd z (by rw [m2]; omega), fun _ => ⟨⟨by omega, by omega⟩, ⟨by omega, by omega⟩, fun _ => ⟨⟨by omega, by omega⟩, ⟨by omega, by omega⟩, ⟨by omega, by omega⟩, fun _ => ⟨⟨by omega, by omega⟩, ⟨by omega, by omega⟩, ⟨by omega, by omega⟩, fun _ => ⟨⟨by omega, by omega⟩, ⟨by omega, by omega⟩, ⟨by omega, by omega⟩, fun _ => ⟨⟨by omega, by omega⟩, trivial⟩, trivial⟩, trivial⟩, trivial⟩, ⟨by omega, by omega⟩, ih _ ?_⟩⟩
    by_cases z : zfig T p4 p5 = c
    · obtain ⟨x1, x2, x3, x4⟩ := hi.1 z
      have hf := L.f c a b ((zfig_cell hG r0 r1 k0 k1 a b).1 z).1.1
      rw [if_neg (fun y => y x1), if_neg (fun y => y x2), if_neg (by omega), if_neg (fun y => y x4), hf, if_pos (by omega), z]
    · have e : (if ¬ M 107 0 (6 * c) = p4 then s else (if ¬ M 107 0 (6 * c + 1) = p5 then s else (if M 107 0 (6 * c + 5) < 0 then s else (if ¬ M 104 0 (4 * p5 + 3) = 0 then s else M 109 0 c)))) = s := by
        by_cases y1 : M 107 0 (6 * c) = p4
        · by_cases y2 : M 107 0 (6 * c + 1) = p5
          · by_cases y3 : M 107 0 (6 * c + 5) < 0
            · rw [if_neg (fun y => y y1), if_neg (fun y => y y2), if_pos y3]
            · by_cases y4 : M 104 0 (4 * p5 + 3) = 0
              · exact absurd (hi.2 ⟨y1, y2, by omega, y4⟩) z
              · rw [if_neg (fun y => y y1), if_neg (fun y => y y2), if_neg y3, if_pos y4]
          · rw [if_neg (fun y => y y1), if_pos y2]
        · rw [if_pos y1]
      rw [e, hs]
      by_cases y : 0 ≤ zfig T p4 p5 ∧ zfig T p4 p5 < c
      · rw [if_pos y, if_pos (by omega)]
      · rw [if_neg y, if_neg (by omega)]
theorem j_stronger (a0 : 0 ≤ p0) (a1 : p0 ≤ 60) (b0 : 0 ≤ p1) (b1 : p1 ≤ 5) (c0 : 0 ≤ p2) (c1 : p2 ≤ 4) {Qm : Int → Mem → Prop} (hq : Qm (if p1 ≤ Int.tdiv p0 10 then p0 else 10 * p1 + p2) M) : wp_L_stronger p0 p1 p2 M Qm :=
  ⟨fun _ => ⟨⟨by omega, by omega⟩, ⟨by omega, by omega⟩, trivial⟩, by split <;> exact ⟨by omega, by omega⟩, hq⟩
theorem j_ahead (L : zLw T M) (h0 : 0 ≤ p2) (h1 : p2 ≤ 10) {Qm : Int → Mem → Prop} (hq : ∀ x, ((x = -1 ∧ ∀ i, 0 ≤ i → i < p2 → ¬ M 106 0 i = p1) ∨ (0 ≤ x ∧ x < p2 ∧ M 106 0 x = p1)) → Qm x M) : wp_L_ahead p1 p2 M Qm := by
  refine zLoop (σ := Int) (fun n k s => wp_L_ahead_5 p1 p2 Qm n s k M) (fun k s => (s = -1 ∧ ∀ i, 0 ≤ i → i < k → ¬ M 106 0 i = p1) ∨ (0 ≤ s ∧ s < k ∧ M 106 0 s = p1)) p2 h0 (s := -1) (Or.inl ⟨rfl, fun i a b => by omega⟩) (fun n s hs => ?_) (fun n k s a b hs ih => ?_)
  · exact ⟨fun _ => hq s hs, fun z => absurd z (by omega)⟩
  · refine ⟨fun z => absurd z (by omega), fun _ => ⟨⟨by omega, by omega⟩, ⟨by omega, by omega⟩, ih _ ?_⟩⟩
    by_cases e : M 106 0 k = p1
    · rw [if_neg (fun z => z e)]
      exact Or.inr ⟨a, by omega, e⟩
    · rw [if_pos e]
      rcases hs with ⟨x, y⟩ | ⟨x, y, z⟩
      · refine Or.inl ⟨x, fun i i0 i1 => ?_⟩
        by_cases w : i = k
        · rw [w]; exact e
        · exact y i i0 (by omega)
      · exact Or.inr ⟨x, by omega, z⟩
end JB
