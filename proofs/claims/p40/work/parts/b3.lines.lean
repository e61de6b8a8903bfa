/-! the law's lines and heights -/
/-- what is left of a line behind what is used of it -/
def zrmn (wide u : Int) : Int := if u = 0 then -1 else max (-1) (wide - u - 1)
theorem zah_p {u : Int} (h : 0 < u) : zah u = u + 1 := if_neg (by omega)
theorem znu_p {u : Int} (h : 0 < u) : znu u = 0 := if_neg (by omega)
theorem zput_fresh {wide ln ct N u : Int} (h : u = 0 ∨ (0 < u ∧ ¬ (u + 1 + ln ≤ wide) ∧ ¬ (0 < ct ∧ u + 1 + ct + 1 ≤ wide))) : zput wide ln ct (N, u) = if ln ≤ wide then (N + 1, ln) else if 0 < ct ∧ ct + 1 ≤ wide then (N + 1 + 1, ln - ct) else (N + 1, ln) := by
  have e : zput wide ln ct (N, u) = zput1 wide ln ct (N, 0) := by
    unfold zput
    rcases h with h | ⟨h1, h2, h3⟩
    · rw [h, if_neg (fun z => absurd z.1 (show ¬ (0 : Int) < 0 by decide))]
    · rw [if_pos ⟨h1, by show ¬ (zah u + ln ≤ wide); rw [zah_p h1]; exact h2, by show ¬ (0 < ct ∧ zah u + ct + 1 ≤ wide); rw [zah_p h1]; exact h3⟩]
  rw [e]
  unfold zput1
  show (if zah 0 + ln ≤ wide then (N + znu 0, zah 0 + ln) else if 0 < ct ∧ zah 0 + ct + 1 ≤ wide then (N + znu 0 + 1, ln - ct) else (N + znu 0, zah 0 + ln)) = _
  rw [show zah 0 = 0 from rfl, show znu 0 = 1 from rfl, Int.zero_add, Int.zero_add]
theorem zput_fit {wide ln ct N u : Int} (h1 : 0 < u) (h2 : u + 1 + ln ≤ wide) : zput wide ln ct (N, u) = (N, u + 1 + ln) := by
  unfold zput
  rw [if_neg (fun z => z.2.1 (by show zah u + ln ≤ wide; rw [zah_p h1]; exact h2))]
  unfold zput1
  show (if zah u + ln ≤ wide then (N + znu u, zah u + ln) else if 0 < ct ∧ zah u + ct + 1 ≤ wide then (N + znu u + 1, ln - ct) else (N + znu u, zah u + ln)) = _
  rw [zah_p h1, znu_p h1, if_pos h2, Int.add_zero]
theorem zput_cut {wide ln ct N u : Int} (h1 : 0 < u) (h2 : ¬ (u + 1 + ln ≤ wide)) (h3 : 0 < ct ∧ u + 1 + ct + 1 ≤ wide) : zput wide ln ct (N, u) = (N + 1, ln - ct) := by
  unfold zput
  rw [if_neg (fun z => z.2.2 (by show 0 < ct ∧ zah u + ct + 1 ≤ wide; rw [zah_p h1]; exact h3))]
  unfold zput1
  show (if zah u + ln ≤ wide then (N + znu u, zah u + ln) else if 0 < ct ∧ zah u + ct + 1 ≤ wide then (N + znu u + 1, ln - ct) else (N + znu u, zah u + ln)) = _
  rw [zah_p h1, znu_p h1, if_neg h2, if_pos h3, Int.add_zero]
section JC
variable {T M : Mem} {p4 : Int} {w : Int → Int}
theorem zwl_b (hG : Good T) {c : Int} (h0 : 0 ≤ c) (h1 : c < T 11 0 15) (wide : Int) {k : Int} (k0 : 0 ≤ k) (k1 : k ≤ T 72 0 c) : (0 ≤ (zwl T c wide k).2 ∧ (zwl T c wide k).2 ≤ 21 * k) ∧ 0 ≤ (zwl T c wide k).1 ∧ (zwl T c wide k).1 ≤ 2 * k := by
  unfold zwl
  refine zF_ind (fun (k : Int) (p : Int × Int) => (0 ≤ p.2 ∧ p.2 ≤ 21 * k) ∧ 0 ≤ p.1 ∧ p.1 ≤ 2 * k) k0 ⟨⟨by omega, by omega⟩, ⟨by omega, by omega⟩⟩ (fun i v i0 i1 hv => ?_)
  obtain ⟨⟨g1, g2⟩, g3, g4⟩ := hG.word c i h0 h1 i0 (by omega)
  obtain ⟨N, u⟩ := v
  obtain ⟨⟨v1, v2⟩, v3, v4⟩ := hv
  have v1 : 0 ≤ u := v1
  have v2 : u ≤ 21 * i := v2
  have v3 : 0 ≤ N := v3
  have v4 : N ≤ 2 * i := v4
  show (0 ≤ (zput wide (T 70 0 (12 * c + i)) (T 71 0 (12 * c + i)) (N, u)).2 ∧ (zput wide (T 70 0 (12 * c + i)) (T 71 0 (12 * c + i)) (N, u)).2 ≤ 21 * (i + 1)) ∧ 0 ≤ (zput wide (T 70 0 (12 * c + i)) (T 71 0 (12 * c + i)) (N, u)).1 ∧ (zput wide (T 70 0 (12 * c + i)) (T 71 0 (12 * c + i)) (N, u)).1 ≤ 2 * (i + 1)
  by_cases a : u = 0 ∨ (0 < u ∧ ¬ (u + 1 + T 70 0 (12 * c + i) ≤ wide) ∧ ¬ (0 < T 71 0 (12 * c + i) ∧ u + 1 + T 71 0 (12 * c + i) + 1 ≤ wide))
  · rw [zput_fresh a]
    split
    · exact ⟨⟨by omega, by omega⟩, ⟨by omega, by omega⟩⟩
    · split
      · exact ⟨⟨by omega, by omega⟩, ⟨by omega, by omega⟩⟩
      · exact ⟨⟨by omega, by omega⟩, ⟨by omega, by omega⟩⟩
  · by_cases b : u + 1 + T 70 0 (12 * c + i) ≤ wide
    · rw [zput_fit (by omega) b]
      exact ⟨⟨by omega, by omega⟩, ⟨by omega, by omega⟩⟩
    · rw [zput_cut (by omega) b (by omega)]
      exact ⟨⟨by omega, by omega⟩, ⟨by omega, by omega⟩⟩
theorem zlin_r (hG : Good T) (L : zLw T M) {c : Int} (h0 : 0 ≤ c) (h1 : c < T 11 0 15) (w : Int → Int) : 0 ≤ zlinesW T w c ∧ zlinesW T w c ≤ 10 := by
  obtain ⟨-, l2, -⟩ := L.w.1 c h0 h1
  have n0 := (hG.cell c h0 h1).2.2.2.2.2.1.1
  have := (zwl_b hG h0 h1 (zacr T c w) n0 (Int.le_refl _)).2
  unfold zlinesW
  split
  · omega
  · split <;> omega
theorem zshows_r2 (hG : Good T) {c : Int} (h0 : 0 ≤ c) (h1 : c < T 11 0 15) : 0 ≤ zshows T c ∧ zshows T c ≤ T 68 0 c := by
  obtain ⟨w1, w2, w3, w4, -⟩ := hG.cell c h0 h1
  have := zS_bd (f := zsh T) (a := T 66 0 c) (b := T 66 0 c + T 68 0 c) 0 1 (by omega) (fun k _ _ => by unfold zsh; split <;> omega)
  unfold zshows
  omega
theorem j_lines22 (hG : Good T) (L : zLw T M) (h0 : 0 ≤ p4) (h1 : p4 < T 11 0 15) {Qm : Int → Mem → Prop} (hq : Qm (if zshows T p4 = 0 then 0 else 1) M) : wp_L_lines_22 p4 Qm M := by
  refine j_shows hG L h0 h1 ?_
  by_cases z : zshows T p4 = 0
  · rw [if_neg (fun y => y z)]
    rw [if_pos z] at hq
    exact hq
  · rw [if_pos z]
    rw [if_neg z] at hq
    exact hq
theorem j_lines (hG : Good T) (L : zLw T M) (h0 : 0 ≤ p4) (h1 : p4 < T 11 0 15) (hx : ∀ k, 0 ≤ k → k < T 11 0 4 → M 113 0 (8 + k) = w k) (hB : ∀ k, 0 ≤ k → k < T 11 0 4 → 0 ≤ w k ∧ w k ≤ 300) {Qm : Int → Mem → Prop} (hq : Qm (zlinesW T w p4) M) : wp_L_lines p4 M Qm := by
  have hn := L.n
  unfold lwN at hn
  obtain ⟨t0, t1, t2, t3, t4, t5⟩ := L.t p4 h0 h1
  obtain ⟨w1, w2, w3, w4, w5, w6, w7, w8, w9, -⟩ := hG.cell p4 h0 h1
  obtain ⟨l1, l2, l3⟩ := L.w.1 p4 h0 h1
  have hw := L.wok hG h0 (by omega : p4 < 10)
  refine j_shows hG L h0 h1 ⟨fun z => j_lines22 hG L h0 h1 ?_, fun z => ⟨⟨by omega, by omega⟩, ⟨by omega, by omega⟩, ⟨by omega, by omega⟩, ?_⟩⟩
  · rw [if_pos z]
    unfold zlinesW at hq
    rw [if_pos z] at hq
    exact hq
  rw [t5]
  refine ⟨fun y => ?_, fun y => j_lines22 hG L h0 h1 ?_⟩
  · have z73 : T 73 0 p4 = 0 := by
      by_cases x : T 73 0 p4 = 1
      · rw [if_pos x] at y; omega
      · omega
    unfold zlinesW at hq
    rw [if_neg z, if_neg (fun x => x z73)] at hq
    refine j_across hG L h0 h1 hx hB ?_
    obtain ⟨wide, ew⟩ : ∃ z, z = zacr T p4 w := ⟨_, rfl⟩
    have hwide : -1 ≤ wide ∧ wide ≤ 2000 := by
      have a := zshows_r2 hG h0 h1
      have b := zS_bd (f := fun k => if T 59 0 k = 0 then w k else 0) (a := T 66 0 p4) (b := T 66 0 p4 + T 68 0 p4) 0 300 (by omega) (fun k k0 k1 => by
        have := hB k (by omega) (by omega)
        split <;> omega)
      rw [ew]
      unfold zacr
      omega
    rw [← ew] at hq ⊢
    refine zLoop (σ := Int × Int) (fun n k s => wp_L_lines_57 p4 Qm n wide s.1 s.2 k M) (fun k s => s.1 = (zwl T p4 wide k).1 ∧ s.2 = zrmn wide (zwl T p4 wide k).2) (T 72 0 p4) w6.1 (s := (0, -1)) ⟨by unfold zwl; rw [zF_self _ _ (Int.le_refl _)], by unfold zwl; rw [zF_self _ _ (Int.le_refl _)]; rfl⟩ (fun n s hs => ?_) (fun n k s k0 k1 hs ih => ?_)
    · refine ⟨⟨by omega, by omega⟩, hw, ?_⟩
      rw [l1]
      refine ⟨fun _ => ?_, fun x => absurd x (by omega)⟩
      rw [hs.1]
      exact hq
    · obtain ⟨e1, e2⟩ := hs
      obtain ⟨⟨b1, b2⟩, b3, b4⟩ := zwl_b hG h0 h1 wide k0 (by omega)
      obtain ⟨g1, g2⟩ := l3 k k0 k1
      obtain ⟨⟨q1, q2⟩, q3, q4⟩ := hG.word p4 k h0 h1 k0 k1
      have es : zwl T p4 wide (k + 1) = zput wide (T 70 0 (12 * p4 + k)) (T 71 0 (12 * p4 + k)) ((zwl T p4 wide k).1, (zwl T p4 wide k).2) := zF_succ _ _ k0
      refine ⟨⟨by omega, by omega⟩, hw, ?_⟩
      rw [l1]
      refine ⟨fun x => absurd x (by omega), fun _ => ⟨⟨by omega, by omega⟩, hw, ⟨by omega, by omega⟩, ⟨⟨by omega, by omega⟩, hw, ⟨by omega, by omega⟩, ?_⟩⟩⟩
      rw [g1, g2, e1, e2]
      obtain ⟨ln, eln⟩ : ∃ z, z = T 70 0 (12 * p4 + k) := ⟨_, rfl⟩
      obtain ⟨ct, ect⟩ : ∃ z, z = T 71 0 (12 * p4 + k) := ⟨_, rfl⟩
      obtain ⟨N, eN⟩ : ∃ z, z = (zwl T p4 wide k).1 := ⟨_, rfl⟩
      obtain ⟨u, eu⟩ : ∃ z, z = (zwl T p4 wide k).2 := ⟨_, rfl⟩
      rw [← eln] at q1 q2 q4 es ⊢
      rw [← ect] at q3 q4 es ⊢
      rw [← eN] at b3 b4 es ⊢
      rw [← eu] at b1 b2 es ⊢
      have fin : ∀ y6 y7 y9 N' u', zput wide ln ct (N, u) = (N', u') → 0 < u' → y6 = N' → (-100 ≤ y7 ∧ y7 ≤ 2000) → (0 ≤ y9 ∧ y9 ≤ 100) → y7 - (y9 + 1) = wide - u' - 1 → wp_L_lines_156 p4 Qm (wp_L_lines_57 p4 Qm n) wide y6 y7 k y9 M := fun y6 y7 y9 N' u' hp hu h6 h7 h9 he => by
        refine ⟨⟨by omega, by omega⟩, ⟨by omega, by omega⟩, ⟨by omega, by omega⟩, ih (y6, _) ⟨?_, ?_⟩⟩
        · rw [es, hp]; exact h6
        · rw [es, hp]
          show (if 0 ≤ y7 - (y9 + 1) then y7 - (y9 + 1) else -1) = zrmn wide u'
          unfold zrmn
          rw [if_neg (show ¬ u' = 0 by omega)]
          split <;> omega
      have fresh : zput wide ln ct (N, u) = (if ln ≤ wide then (N + 1, ln) else if 0 < ct ∧ ct + 1 ≤ wide then (N + 1 + 1, ln - ct) else (N + 1, ln)) → wp_L_lines_114 p4 Qm (wp_L_lines_57 p4 Qm n) wide N k ln ct M := fun hp => by
        refine ⟨⟨by omega, by omega⟩, fun a => ?_, fun a => ⟨fun b => ?_, fun b => ⟨⟨by omega, by omega⟩, fun d => ?_, fun d => ⟨⟨by omega, by omega⟩, ⟨by omega, by omega⟩, ?_⟩⟩⟩⟩
        · rw [if_pos a] at hp
          exact fin _ _ _ _ _ hp (by omega) rfl ⟨by omega, by omega⟩ ⟨by omega, by omega⟩ (by omega)
        · rw [if_neg (by omega), if_neg (by omega)] at hp
          exact fin _ _ _ _ _ hp (by omega) rfl ⟨by omega, by omega⟩ ⟨by omega, by omega⟩ (by omega)
        · rw [if_neg (by omega), if_neg (by omega)] at hp
          exact fin _ _ _ _ _ hp (by omega) rfl ⟨by omega, by omega⟩ ⟨by omega, by omega⟩ (by omega)
        · rw [if_neg (by omega), if_pos (by omega)] at hp
          exact fin _ _ _ _ _ hp (by omega) rfl ⟨by omega, by omega⟩ ⟨by omega, by omega⟩ (by omega)
      by_cases u0 : u = 0
      · have er : zrmn wide u = -1 := by unfold zrmn; rw [if_pos u0]
        rw [er]
        exact ⟨fun _ => fresh (zput_fresh (Or.inl u0)), fun x => absurd x (by decide)⟩
      · have er : zrmn wide u = max (-1) (wide - u - 1) := by unfold zrmn; rw [if_neg u0]
        refine ⟨fun a => fresh (zput_fresh (Or.inr ⟨by omega, by omega, by omega⟩)), fun a => ⟨fun b => ⟨fun _ => fin _ _ _ _ _ (zput_fit (by omega) (by omega)) (by omega) rfl ⟨by omega, by omega⟩ ⟨by omega, by omega⟩ (by omega), fun x => absurd x (by omega)⟩, fun b => ⟨fun d => fresh (zput_fresh (Or.inr ⟨by omega, by omega, by omega⟩)), fun d => ⟨⟨by omega, by omega⟩, fun e => ?_, fun e => fresh (zput_fresh (Or.inr ⟨by omega, by omega, by omega⟩))⟩⟩⟩⟩
        refine ⟨fun x => absurd x (by omega), fun _ => ⟨fun x => absurd x (by omega), fun _ => ⟨⟨by omega, by omega⟩, fun x => absurd x (by omega), fun _ => ⟨⟨by omega, by omega⟩, ⟨by omega, by omega⟩, ?_⟩⟩⟩⟩
        exact fin _ _ _ _ _ (zput_cut (by omega) (by omega) (by omega)) (by omega) rfl ⟨by omega, by omega⟩ ⟨by omega, by omega⟩ (by omega)
  · rw [if_neg z]
    have z73 : ¬ T 73 0 p4 = 0 := fun x => by
      rw [if_neg (by omega)] at y; omega
    unfold zlinesW at hq
    rw [if_neg z, if_pos z73] at hq
    exact hq
end JC
