/-! the law's growing columns -/
section JG
variable {T M : Mem} {p5 p6 : Int} {Qm : Mem → Prop} {K3 : Int → Mem → Prop} {K12 : Int → Int → Mem → Prop} {K121 : Int → Int → Int → Int → Int → Mem → Prop}
theorem j_pick (hG : Good T) (L : zLw T M) {c : Int} (c0 : 0 ≤ c) (c1 : c < T 11 0 15) (b0 : 0 ≤ p5) (b1 : p5 ≤ 4) {w : Int → Int} (hw : zRwd T p5 M w) (hb : zWB T w) (hs : 1 ≤ zshows T c) {d y11 : Int} (hy : 0 < y11 ∧ y11 ≤ 1000) (hK : K121 d c (T 66 0 c) (T 66 0 c + T 68 0 c) (y11 + -1) (up M 113 0 (p5 + ztakes T c w) (w (ztakes T c w) + 1))) : ∃ n, wp_L_grow_138 p5 p6 Qm K3 K12 K121 n d c (T 66 0 c) (T 66 0 c + T 68 0 c) y11 (-1) (-1) (T 66 0 c + T 68 0 c - 1) M := by
  have hn := L.n
  unfold lwN at hn
  obtain ⟨w1, w2, w3, w4, -⟩ := hG.cell c c0 c1
  have ht := ztakes_r hG w c0 c1 hs
  have htb := hb (ztakes T c w) (by omega) (by omega)
  have htw := hw (ztakes T c w) (by omega) (by omega)
  obtain ⟨u1, u2⟩ := ztk_c hG w c0 c1 (n := T 66 0 c + T 68 0 c) (by omega)
  refine zWhile (σ := Int × Int × Int) (fun n s => wp_L_grow_138 p5 p6 Qm K3 K12 K121 n d c (T 66 0 c) (T 66 0 c + T 68 0 c) y11 s.1 s.2.1 s.2.2 M) (fun s => (T 66 0 c - 1 ≤ s.2.2 ∧ s.2.2 ≤ T 66 0 c + T 68 0 c - 1) ∧ zLm T w (s.2.2 + 1) (T 66 0 c + T 68 0 c) s.1 ∧ zLs2 T (s.2.2 + 1) (T 66 0 c + T 68 0 c) s.2.1) (fun s => (s.2.2 + 1).toNat) (fun n s hsI ih => ?_) (-1, -1, T 66 0 c + T 68 0 c - 1) ⟨⟨by show T 66 0 c - 1 ≤ T 66 0 c + T 68 0 c - 1; omega, Int.le_refl _⟩, Or.inl ⟨rfl, fun q a b => by have a : T 66 0 c + T 68 0 c - 1 + 1 ≤ q := a; omega⟩, Or.inl ⟨rfl, fun q a b => by have a : T 66 0 c + T 68 0 c - 1 + 1 ≤ q := a; omega⟩⟩
  obtain ⟨its, beh, k⟩ := s
  obtain ⟨⟨k0, k1⟩, h1, h2⟩ := hsI
  have k0 : T 66 0 c - 1 ≤ k := k0
  have k1 : k ≤ T 66 0 c + T 68 0 c - 1 := k1
  have h1 : zLm T w (k + 1) (T 66 0 c + T 68 0 c) its := h1
  have h2 : zLs2 T (k + 1) (T 66 0 c + T 68 0 c) beh := h2
  show wp_L_grow_138 p5 p6 Qm K3 K12 K121 (n + 1) d c (T 66 0 c) (T 66 0 c + T 68 0 c) y11 its beh k M
  refine ⟨fun z => ?_, fun z => ?_⟩
  · have ek : k + 1 = T 66 0 c := by omega
    rw [ek] at h1 h2
    have e1 := zLm_u h1 u1
    have e2 := zLs2_u h2 u2
    have et : (if 0 ≤ its then its else beh) = ztakes T c w := by
      unfold ztakes
      rw [← e1, ← e2]
      rcases h1 with ⟨x, -⟩ | ⟨x, -⟩
      · rw [if_neg (by omega), if_neg (fun y => y x)]
      · rw [if_pos (by omega), if_pos (by omega)]
    rw [et, htw]
    exact ⟨⟨by omega, by omega⟩, ⟨by omega, by omega⟩, ⟨by omega, by omega⟩, ⟨by omega, by omega⟩, fun M25 e => ⟨⟨by omega, by omega⟩, by rw [e]; exact hK⟩⟩
  · obtain ⟨c0', -, -, c3⟩ := L.c k (by omega) (by omega)
    have hwk := hw k (by omega) (by omega)
    have hbk := hb k (by omega) (by omega)
    have hitr : 0 ≤ its → k < its ∧ its < T 66 0 c + T 68 0 c := fun y => by
      rcases h1 with ⟨x, -⟩ | ⟨x, -⟩ <;> omega
    have nx : ∀ a b, zLm T w k (T 66 0 c + T 68 0 c) a → zLs2 T k (T 66 0 c + T 68 0 c) b → wp_L_grow_138 p5 p6 Qm K3 K12 K121 n d c (T 66 0 c) (T 66 0 c + T 68 0 c) y11 a b (k + (-1)) M := fun a b x y => ih (a, b, k + (-1)) ⟨⟨by show T 66 0 c - 1 ≤ k + -1; omega, by show k + -1 ≤ T 66 0 c + T 68 0 c - 1; omega⟩, by show zLm T w (k + -1 + 1) _ a; rw [show k + -1 + 1 = k by omega]; exact x, by show zLs2 T (k + -1 + 1) _ b; rw [show k + -1 + 1 = k by omega]; exact y⟩ (by show (k + -1 + 1).toNat < (k + 1).toNat; omega)
    rw [c3, c0', hwk]
    refine ⟨⟨by omega, by omega⟩, ⟨by omega, by omega⟩, ⟨by omega, by omega⟩, fun _ => ⟨⟨by omega, by omega⟩, ⟨by omega, by omega⟩, fun _ => ⟨fun y => ?_, trivial⟩, trivial⟩, ⟨by omega, by omega⟩, nx _ _ ?_ ?_⟩
    · have := hitr y
      exact ⟨⟨by omega, by omega⟩, ⟨by omega, by omega⟩, ⟨by omega, by omega⟩, ⟨by omega, by omega⟩, trivial⟩
    · have keep : ¬ zcd1 T k → zLm T w k (T 66 0 c + T 68 0 c) its := fun hk => by
        rcases h1 with ⟨x, y⟩ | ⟨x, y, v⟩
        · refine Or.inl ⟨x, fun q a b => ?_⟩
          by_cases e : q = k
          · rw [e]; exact hk
          · exact y q (by omega) b
        · refine Or.inr ⟨⟨by omega, by omega⟩, y, fun q a b d => ?_⟩
          by_cases e : q = k
          · rw [e] at d; exact absurd d hk
          · exact v q (by omega) b d
      by_cases a : T 59 0 k = 0
      · rw [if_neg (show ¬ (if ¬ T 59 0 k = 0 then (0 : Int) else 1) = 0 by rw [if_neg (fun y => y a)]; decide)]
        by_cases b : T 56 0 k = 1
        · rw [if_pos b]
          exact keep (fun y => y.2 b)
        · rw [if_neg b]
          rcases h1 with ⟨x, y⟩ | ⟨x, y, v⟩
          · rw [if_pos (by omega)]
            refine Or.inr ⟨⟨by omega, by omega⟩, ⟨a, b⟩, fun q q0 q1 d => ?_⟩
            by_cases e : q = k
            · rw [e]; omega
            · exact absurd d (y q (by omega) q1)
          · rw [if_neg (by omega), hw its (by omega) (by omega)]
            by_cases l : w its < w k
            · rw [if_pos l]
              refine Or.inr ⟨⟨by omega, by omega⟩, y, fun q q0 q1 d => ?_⟩
              by_cases e : q = k
              · rw [e]; omega
              · exact v q (by omega) q1 d
            · rw [if_neg l]
              refine Or.inr ⟨⟨by omega, by omega⟩, ⟨a, b⟩, fun q q0 q1 d => ?_⟩
              by_cases e : q = k
              · rw [e]; omega
              · have := v q (by omega) q1 d
                omega
      · rw [if_pos (show (if ¬ T 59 0 k = 0 then (0 : Int) else 1) = 0 by rw [if_pos a])]
        exact keep (fun y => a y.1)
    · by_cases a : T 59 0 k = 0
      · rw [if_neg (show ¬ (if ¬ T 59 0 k = 0 then (0 : Int) else 1) = 0 by rw [if_neg (fun y => y a)]; decide)]
        rcases h2 with ⟨x, y⟩ | ⟨x, y, v⟩
        · rw [if_neg (by omega)]
          exact Or.inr ⟨⟨by omega, by omega⟩, a, fun q q0 q1 => y q (by omega) q1⟩
        · rw [if_pos (by omega)]
          exact Or.inr ⟨⟨by omega, by omega⟩, y, v⟩
      · rw [if_pos (show (if ¬ T 59 0 k = 0 then (0 : Int) else 1) = 0 by rw [if_pos a])]
        rcases h2 with ⟨x, y⟩ | ⟨x, y, v⟩
        · refine Or.inl ⟨x, fun q q0 q1 => ?_⟩
          by_cases e : q = k
          · rw [e]; exact a
          · exact y q (by omega) q1
        · exact Or.inr ⟨⟨by omega, by omega⟩, y, v⟩
theorem j_g121 (hG : Good T) {c : Int} (c0 : 0 ≤ c) (c1 : c < T 11 0 15) (b0 : 0 ≤ p5) (b1 : p5 ≤ 4) (hs : 1 ≤ zshows T c) {d wants : Int} (hwt : wants ≤ 251) : ∀ (n : Nat) (w : Int → Int) (M : Mem) (y : Int), zLw T M → zRwd T p5 M w → zWB T w → (n : Int) = max 0 y → y ≤ wants - zacr T c w → (∀ M', zGf p5 M M' → zRwd T p5 M' (zgrow T c n w) → K12 d (c + 1) M') → ∃ f, wp_L_grow_121 p5 p6 Qm K3 K12 f d c (T 66 0 c) (T 66 0 c + T 68 0 c) y M := by
  intro n
  induction n with
  | zero =>
    intro w M y L hw hb hn hy hK
    have hnn := L.n
    unfold lwN at hnn
    exact ⟨1, fun _ => ⟨⟨by omega, by omega⟩, hK M (zGf.rf _ _) hw⟩, fun z => by omega⟩
  | succ n ih =>
    intro w M y L hw hb hn hy hK
    have hnn := L.n
    unfold lwN at hnn
    obtain ⟨w1, w2, w3, w4, -⟩ := hG.cell c c0 c1
    have hb1 : zWB T (zstep T c w) := zgrow_r hG c0 c1 hs hwt 1 w hb (by omega)
    have hac := zacr_step hG (w := w) c0 c1 hs
    have har := zacr_r hG hb c0 c1
    have ht := ztakes_r hG w c0 c1 hs
    have gf : zGf p5 M (up M 113 0 (p5 + ztakes T c w) (w (ztakes T c w) + 1)) := (zGf.rf _ _).up (by omega) (by omega)
    have hw1 : zRwd T p5 (up M 113 0 (p5 + ztakes T c w) (w (ztakes T c w) + 1)) (zstep T c w) := fun k k0 k1 => by
      rw [up_at]
      unfold zstep zset
      by_cases e : k = ztakes T c w
      · rw [if_pos ⟨rfl, rfl, by omega⟩, if_pos e]
      · rw [if_neg (by omega), if_neg e]
        exact hw k k0 k1
    obtain ⟨f, hf⟩ := ih (zstep T c w) (up M 113 0 (p5 + ztakes T c w) (w (ztakes T c w) + 1)) (y + -1) (L.fr gf.ls) hw1 hb1 (by omega) (by omega) (fun M' g h => hK M' (gf.tr g) h)
    exact ⟨f + 1, fun z => by omega, fun z => ⟨⟨by omega, by omega⟩, j_pick hG L c0 c1 b0 b1 hw hb hs ⟨by omega, by omega⟩ hf⟩⟩
theorem zspr1_s {most d n : Int} {w : Int → Int} (n0 : 0 ≤ n) : zspr1 T most d w (n + 1) = if zshows T n = d then zgrow T n (zwant T most n - zacr T n (zspr1 T most d w n)).toNat (zspr1 T most d w n) else zspr1 T most d w n := zF_succ _ _ n0
theorem j_g12 (hG : Good T) (hp6 : p6 = 0 ∨ p6 = 1) (b0 : 0 ≤ p5) (b1 : p5 ≤ 4) {d : Int} (d2 : 2 ≤ d) (d5 : d < 5) {w : Int → Int} (L : zLw T M) (hw : zRwd T p5 M w) (hb : zWB T w) (hK : ∀ M', zGf p5 M M' → zRwd T p5 M' (zspr1 T p6 d w (T 11 0 15)) → K3 (d + 1) M') : ∃ n, wp_L_grow_12 p5 p6 Qm K3 n d 0 M := by
  have hn := L.n
  unfold lwN at hn
  have hKn := hG.nK
  refine zLoop (σ := Mem) (fun n k M' => wp_L_grow_12 p5 p6 Qm K3 n d k M') (fun c M' => zGf p5 M M' ∧ zRwd T p5 M' (zspr1 T p6 d w c)) (T 11 0 15) hKn.1 (s := M) ⟨zGf.rf _ _, by unfold zspr1; rw [zF_self _ _ (Int.le_refl _)]; exact hw⟩ (fun n M1 h => ?_) (fun n c M1 c0 c1 h ih => ?_)
  · have L1 := L.fr h.1.ls
    obtain ⟨-, -, m2, -⟩ := L1.m
    exact ⟨fun _ => ⟨⟨by omega, by omega⟩, hK M1 h.1 h.2⟩, fun z => absurd z (by rw [m2]; omega)⟩
  · obtain ⟨g1, hw1⟩ := h
    have L1 := L.fr g1.ls
    obtain ⟨-, -, m2, -⟩ := L1.m
    obtain ⟨t0, t1, t2, t3, -⟩ := L1.t c c0 c1
    obtain ⟨w1, w2, w3, w4, -⟩ := hG.cell c c0 c1
    have hb1 : zWB T (zspr1 T p6 d w c) := zspr1_r hG d2 hb c0 (by omega)
    have hsr := zspr1_s (T := T) (most := p6) (d := d) (w := w) c0
    have hwr := zwant_r hG p6 c0 c1
    have har := zacr_r hG hb1 c0 c1
    obtain ⟨W, eW⟩ : ∃ W, W = zspr1 T p6 d w c := ⟨_, rfl⟩
    rw [← eW] at hw1 hb1 hsr har
    -- from a beginning lack on
    have lack : ∀ z, (-1000 ≤ z ∧ z ≤ 1000) → (∃ n, wp_L_grow_121 p5 p6 Qm K3 (wp_L_grow_12 p5 p6 Qm K3 n) n d c (T 66 0 c) (T 66 0 c + T 68 0 c) z M1) → True := fun _ _ _ => trivial
    have h80 : ∀ z, (-1000 ≤ z ∧ z ≤ 1000) → (∃ f, wp_L_grow_121 p5 p6 Qm K3 (wp_L_grow_12 p5 p6 Qm K3 n) f d c (T 66 0 c) (T 66 0 c + T 68 0 c) (z - zS (fun k => if T 59 0 k = 0 then W k else 0) (T 66 0 c) (T 66 0 c + T 68 0 c)) M1) → wp_L_grow_74 p5 p6 Qm K3 (wp_L_grow_12 p5 p6 Qm K3 n) d c (T 66 0 c) (T 66 0 c + T 68 0 c) z M1 := fun z hz hf => by
      refine zLoop (σ := Int) (fun n' k s => wp_L_grow_80 p5 p6 Qm K3 (wp_L_grow_12 p5 p6 Qm K3 n) n' d c (T 66 0 c) (T 66 0 c + T 68 0 c) s k M1) (fun k s => s = z - zS (fun k => if T 59 0 k = 0 then W k else 0) (T 66 0 c) k) (T 66 0 c + T 68 0 c) (by omega) (s := z) (by rw [zS_self _ (Int.le_refl _)]; omega) (fun q s hs => ?_) (fun q k s k0 k1 hs ih3 => ?_)
      · refine ⟨fun _ => ?_, fun y => absurd y (by omega)⟩
        rw [hs]; exact hf
      · obtain ⟨-, -, -, c3⟩ := L1.c k (by omega) (by omega)
        have hin := zacr_in_r hG hb1 c0 c1 (n := k) (by omega) (by omega)
        have hWk := hw1 k (by omega) (by omega)
        have hBk := hb1 k (by omega) (by omega)
        have e : (if ¬ T 59 0 k = 0 then (0 : Int) else W k) = if T 59 0 k = 0 then W k else 0 := by
          by_cases y : T 59 0 k = 0
          · rw [if_neg (fun x => x y), if_pos y]
          · rw [if_pos y, if_neg y]
        have hv : 0 ≤ (if T 59 0 k = 0 then W k else 0) ∧ (if T 59 0 k = 0 then W k else 0) ≤ 300 := by split <;> omega
        refine ⟨fun y => absurd y (by omega), fun _ => ?_⟩
        rw [c3, hWk, e]
        refine ⟨⟨by omega, by omega⟩, ⟨by omega, by omega⟩, ⟨by omega, by omega⟩, fun _ => ⟨⟨by omega, by omega⟩, ⟨by omega, by omega⟩, trivial⟩, ?_, ⟨by omega, by omega⟩, ih3 _ ?_⟩
        · rw [hs]; exact ⟨by omega, by omega⟩
        · rw [zS_succ _ k0, hs]; omega
    refine ⟨fun z => absurd z (by rw [m2]; omega), fun _ => ?_⟩
    rw [t1, t3]
    refine ⟨⟨by omega, by omega⟩, ⟨by omega, by omega⟩, ⟨by omega, by omega⟩, ⟨by omega, by omega⟩, ⟨by omega, by omega⟩, ⟨by omega, by omega⟩, ⟨by omega, by omega⟩, j_shows hG L1 c0 c1 ⟨fun hne => ?_, fun heq => ?_⟩⟩
    · rw [if_neg hne] at hsr
      refine h80 0 (by decide) ⟨1, fun _ => ⟨⟨by omega, by omega⟩, ih M1 ⟨g1, by rw [hsr]; exact hw1⟩⟩, fun z => ?_⟩
      have hin := zacr_in_r hG hb1 c0 c1 (n := T 66 0 c + T 68 0 c) (by omega) (by omega)
      omega
    · rw [if_pos heq] at hsr
      refine j_wants hG L1 c0 c1 hp6 ⟨⟨by omega, by omega⟩, ⟨by omega, by omega⟩, h80 _ ⟨by omega, by omega⟩ ?_⟩
      have hac : zwant T p6 c - d + 1 - zS (fun k => if T 59 0 k = 0 then W k else 0) (T 66 0 c) (T 66 0 c + T 68 0 c) = zwant T p6 c - zacr T c W := by
        unfold zacr
        rw [heq]
        omega
      rw [hac]
      refine j_g121 hG c0 c1 b0 b1 (by omega) hwr.2 (zwant T p6 c - zacr T c W).toNat W M1 _ L1 hw1 hb1 (by omega) (Int.le_refl _) (fun M' g h => ih M' ⟨g1.tr g, ?_⟩)
      rw [hsr]; exact h
theorem zspr7 (hG : Good T) (hn : lwN T) {most : Int} {w : Int → Int} : zspr T most w 7 = zspr T most w 5 := by
  unfold lwN at hn
  have h : ∀ d v, 5 ≤ d → zspr1 T most d v (T 11 0 15) = v := fun d v hd => zF_ind (fun _ u => u = v) hG.nK.1 rfl (fun c u c0 c1 hu => by
    have a := zshows_r2 hG c0 c1
    obtain ⟨w1, w2, w3, w4, -⟩ := hG.cell c c0 c1
    show (if zshows T c = d then _ else u) = v
    rw [if_neg (by omega)]
    exact hu)
  unfold zspr
  rw [show (7 : Int) = 5 + 1 + 1 from rfl, zF_succ _ _ (by decide), zF_succ _ _ (by decide), h _ _ (by decide), h _ _ (by decide)]
theorem j_grow (hG : Good T) (L : zLw T M) (hp6 : p6 = 0 ∨ p6 = 1) (b0 : 0 ≤ p5) (b1 : p5 ≤ 4) {w : Int → Int} (hw : zRwd T p5 M w) (hb : zWB T w) (hq : ∀ M', zGf p5 M M' → zRwd T p5 M' (zspr T p6 w 7) → Qm M') : wp_L_grow p5 p6 M Qm := by
  refine zLoop (σ := Mem) (fun n k M' => wp_L_grow_3 p5 p6 Qm n k M') (fun d M' => zGf p5 M M' ∧ zRwd T p5 M' (zspr T p6 w d)) 5 (by decide) (s := M) ⟨zGf.rf _ _, by unfold zspr; rw [zF_self _ _ (Int.le_refl _)]; exact hw⟩ (fun n M1 h => ?_) (fun n d M1 d2 d5 h ih => ?_)
  · exact ⟨fun _ => hq M1 h.1 (by rw [zspr7 hG L.n]; exact h.2), fun z => absurd z (by decide)⟩
  · refine ⟨fun z => absurd z (by omega), fun _ => ?_⟩
    refine j_g12 hG hp6 b0 b1 d2 d5 (L.fr h.1.ls) h.2 (zspr_r hG hb d2) (fun M' g hh => ih M' ⟨h.1.tr g, ?_⟩)
    have : zspr T p6 w (d + 1) = zspr1 T p6 d (zspr T p6 w d) (T 11 0 15) := zF_succ _ _ d2
    rw [this]
    exact hh
end JG
