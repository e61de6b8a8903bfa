/-! pages: the walk through all things -/
/-- how many items lie before a thing of the law's walk -/
def zJ (T : Mem) (i : Int) : Int := if i ≤ 2 * T 11 0 8 then zi1 T (max 0 (min (T 64 0 1) (i / 2 - T 64 0 0))) 0 0 + (if 2 * T 64 0 0 ≤ i ∧ i < 2 * (T 64 0 0 + T 64 0 1) ∧ i % 2 = 1 then 1 else 0) else if i = 2 * T 11 0 8 + 1 then zi2 T 0 0 else znn T
/-- the law's word for whether a thing breaks, and whether it is the last -/
def jbr (nR i body b : Int) : Int := if (2 * nR) ≤ i then (if ¬ i = ((2 * nR) + 1) then (0 : Int) else 1) else (if ¬ (Int.tmod i 2) = 0 then (if ¬ i = ((2 * nR) + 1) then (0 : Int) else 1) else (if body = 0 then (0 : Int) else (if ¬ b = 1 then (0 : Int) else 1)))
def jen (nR i y9 y16 y12 : Int) : Int := if i = ((2 * nR) + 1) then (1 : Int) else (if ¬ i = (2 * nR) then (if ¬ y9 = 0 then (0 : Int) else (if ¬ y16 = 0 then (0 : Int) else (if ¬ i = (2 * y12) then (0 : Int) else 1))) else (if y16 = 0 then (1 : Int) else (if ¬ y9 = 0 then (0 : Int) else (if ¬ y16 = 0 then (0 : Int) else (if ¬ i = (2 * y12) then (0 : Int) else 1)))))
section EG
variable {T M M0 : Mem} {Qm : Mem → Prop} {K195 : Int → Int → Int → Int → Int → Int → Int → Int → Mem → Prop} {y9 y10 y12 y16 : Int}
theorem zWk.lw {S : zSt} (h : zWk T M0 M S) (L : zLw T M0) : zLw T M := L.fr ⟨fun s hs => funext fun j => funext fun k => h.1 s j k (by omega) (by omega) (by omega), h.1 11 0 30 (by decide) (by decide) (by decide)⟩
theorem zi1_le {a b : Int} (a0 : 0 ≤ a) (h : a ≤ b) : zi1 T a 0 0 ≤ zi1 T b 0 0 := by
  have := (zi1_ext (T := T) a0 (b - a).toNat).2.1
  rw [show a + ((b - a).toNat : Int) = b by omega] at this
  exact this
theorem zJ_a {i k o : Int} (h : i ≤ 2 * T 11 0 8) (hk : max 0 (min (T 64 0 1) (i / 2 - T 64 0 0)) = k) (ho : (if 2 * T 64 0 0 ≤ i ∧ i < 2 * (T 64 0 0 + T 64 0 1) ∧ i % 2 = 1 then (1 : Int) else 0) = o) : zJ T i = zi1 T k 0 0 + o := by
  unfold zJ
  rw [if_pos h, hk, ho]
theorem zrnA_r {r n : Int} (h : 0 ≤ r) : zrnA T r n = zrn T r n := by
  unfold zrnA zrn
  refine zS_congr (fun c _ _ => ?_)
  by_cases e : T 65 0 c = r
  · rw [if_pos e, if_pos (Or.inr e)]
  · rw [if_neg e, if_neg (by omega)]
set_option maxHeartbeats 4000000 in
theorem j_425 (hG : Good T) (hn : lwN T) (hR : 0 < T 11 0 8) {i row body lines notes : Int} (m1 : M0 112 0 1 = T 11 0 8) (m4 : M0 112 0 4 = T 11 0 25) (e9 : y9 = zat T) (e10 : y10 = zsum T (zhH T) 0 + zsum T (zhH T) 2) (h10 : 0 ≤ y10 ∧ y10 ≤ 1000) (h12 : -1 ≤ y12 ∧ y12 ≤ 10) (hi : 0 ≤ i ∧ i ≤ 2 * T 11 0 8 + 1) (hrow : -1 ≤ row ∧ row < T 11 0 8) (hb : ¬ body = 0 → 0 ≤ row) {S : zSt} (H : zPW T S) (hr : zRch T S) (X : zPX T S) (W : zWk T M0 M S) (e5 : S 0 5 = 0) (hbr : 0 < lines → (jbr (T 11 0 8) i body (M 105 0 ((3 * row) + 2)) = 0 ↔ zbr T (S 0 4) = 0)) (hen : 0 < lines → (if jen (T 11 0 8) i y9 y16 y12 = 0 then zat T else 0) = (if znn T ≤ S 0 4 + 1 then 0 else zat T)) (hgo : 0 < lines → S 0 4 < znn T ∧ lines = zhg T (S 0 4) ∧ notes = znt T (S 0 4) ∧ zIc T (S 0 4) i row body) (hskip : lines ≤ 0 → (body = 0 ∨ ¬ Int.tmod i 2 = 0) ∧ K195 y9 y10 y12 (S 0 1 - 1) (S 0 2) (if S 0 3 = 0 then 1 else 0) y16 (i + 1) M) (hfin : 0 < lines → ∀ S' M', zPW T S' → zRch T S' → zPX T S' → zWk T M0 M' S' → S' 0 4 = S 0 4 + 1 → S' 0 5 = 0 → K195 y9 y10 y12 (S' 0 1 - 1) (S' 0 2) (if S' 0 3 = 0 then 1 else 0) y16 (i + 1) M') (hfail : ¬ zpg T 0 6 = 0 → ∀ M', (∀ (s : Nat) (j k : Int), s ≠ 114 → s ≠ 115 → s ≠ 116 → M' s j k = M0 s j k) → M' 114 0 0 = -1 → Qm M') : wp_L_walk_425 Qm K195 y9 y10 y12 (S 0 1 - 1) (S 0 2) (if S 0 3 = 0 then 1 else 0) y16 i row body lines notes M := by
  have hn' := hn
  unfold lwN at hn'
  have W112 : M 112 0 1 = T 11 0 8 := by rw [W.1 112 0 1 (by decide) (by decide) (by decide), m1]
  unfold wp_L_walk_425
  rw [W112]
  obtain ⟨br, ebr⟩ : ∃ z : Int, z = (if (2 * T 11 0 8) ≤ i then (if ¬ i = ((2 * T 11 0 8) + 1) then (0 : Int) else 1) else (if ¬ (Int.tmod i 2) = 0 then (if ¬ i = ((2 * T 11 0 8) + 1) then (0 : Int) else 1) else (if body = 0 then (0 : Int) else (if ¬ (M 105 0 ((3 * row) + 2)) = 1 then (0 : Int) else 1)))) := ⟨_, rfl⟩
  obtain ⟨en, een⟩ : ∃ z : Int, z = (if i = ((2 * T 11 0 8) + 1) then (1 : Int) else (if ¬ i = (2 * T 11 0 8) then (if ¬ y9 = 0 then (0 : Int) else (if ¬ y16 = 0 then (0 : Int) else (if ¬ i = (2 * y12) then (0 : Int) else 1))) else (if y16 = 0 then (1 : Int) else (if ¬ y9 = 0 then (0 : Int) else (if ¬ y16 = 0 then (0 : Int) else (if ¬ i = (2 * y12) then (0 : Int) else 1)))))) := ⟨_, rfl⟩
  rw [← ebr, ← een]
  have ebr : br = jbr (T 11 0 8) i body (M 105 0 ((3 * row) + 2)) := ebr
  have een : en = jen (T 11 0 8) i y9 y16 y12 := een
  have g563 : ∀ N, zWk T M0 N S → (0 < lines → ¬ body = 0 → Int.tmod i 2 = 0 → N 116 0 row = -1) → (lines ≤ 0 → N = M) → ∃ n, wp_L_walk_563 Qm K195 n y9 y10 y12 (S 0 1 - 1) (S 0 2) (if S 0 3 = 0 then 1 else 0) y16 i row body lines notes br en N := fun N WN hN hM => by
    by_cases hl : lines ≤ 0
    · refine ⟨1, fun _ => ⟨⟨by omega, by omega⟩, ?_⟩, fun z => absurd hl (by omega)⟩
      rw [hM hl]
      exact (hskip hl).2
    · obtain ⟨q1, q2, q3, q4⟩ := hgo (by omega)
      have := j_563 (br := br) (en := en) hG hn hR m1 m4 e9 e10 h10 q4 ⟨hi.1, by omega⟩ q1 (by rw [ebr]; exact hbr (by omega)) (by rw [een]; exact hen (by omega)) (hfin (by omega)) hfail (zmu T S + 1) S N (by omega) H hr X WN rfl (fun _ => hN (by omega))
      have el : zln T S = lines := by unfold zln; rw [e5, q2]; omega
      have ew : zwn T S = notes := by unfold zwn; rw [e5, if_pos (Int.le_refl _), q3]
      rw [el, ew] at this
      exact ⟨_, this⟩
  refine ⟨⟨by omega, by omega⟩, fun _ => ⟨⟨by omega, by omega⟩, ⟨by omega, by omega⟩, trivial⟩, fun z => ⟨fun _ => ⟨⟨by omega, by omega⟩, ⟨by omega, by omega⟩, trivial⟩, fun _ => ⟨fun y => ?_, trivial⟩, trivial⟩, ⟨by omega, by omega⟩, ⟨by omega, by omega⟩, fun _ => ⟨⟨by omega, by omega⟩, fun _ => ⟨fun _ => ⟨fun _ => ⟨⟨by omega, by omega⟩, trivial⟩, trivial⟩, trivial⟩, fun _ => ⟨fun _ => ⟨fun _ => ⟨fun _ => ⟨⟨by omega, by omega⟩, trivial⟩, trivial⟩, trivial⟩, trivial⟩, trivial⟩, fun z => g563 M W (fun _ y => absurd z y) (fun _ => rfl), fun z => ⟨fun y => g563 M W (fun _ _ x => absurd x y) (fun _ => rfl), fun y => ⟨⟨hb z, by omega⟩, fun N e => ?_⟩⟩⟩
  · have := hb y
    exact ⟨⟨by omega, by omega⟩, ⟨by omega, by omega⟩, ⟨by omega, by omega⟩, trivial⟩
  · by_cases hl : lines ≤ 0
    · rcases (hskip hl).1 with u | u
      · exact absurd u z
      · exact absurd y u
    · obtain ⟨q1, q2, q3, q4⟩ := hgo (by omega)
      have hc : zcd T (S 0 4) = row := by
        rcases q4.2.1 with u | u
        · exact u.2.2.1
        · rcases u.1 with v | v
          · exact absurd v z
          · exact absurd y v
      refine g563 N ?_ (fun _ _ _ => by rw [e, up_eq]) (fun x => absurd x hl)
      rw [e]
      refine W.pre (fun k k0 k1 hk => ?_)
      obtain ⟨j, j0, j1, j2⟩ := X.1 k k0 k1
      exact (zcd_ok hG).1 j (S 0 4) j0 (by omega) q1 (j2.trans (hk.trans hc.symm))
end EG
