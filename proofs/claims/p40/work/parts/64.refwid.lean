/-! the pure part: the reference's least and most widths -/
def zEq (T : Mem) (v w : Int → Int) : Prop := ∀ k, 0 ≤ k → k < T 11 0 4 → v k = w k
def zWB (T : Mem) (w : Int → Int) : Prop := ∀ k, 0 ≤ k → k < T 11 0 4 → 0 ≤ w k ∧ w k ≤ 300
section RW
variable {T M : Mem}
theorem zS_set {f f' : Int → Int} {a b k0 : Int} (h1 : a ≤ k0) (h2 : k0 < b) (h : ∀ k, a ≤ k → k < b → k ≠ k0 → f' k = f k) : zS f' a b = zS f a b + (f' k0 - f k0) := by
  have e := zS_one (a := a) (b := b) (r0 := k0) (v := f' k0 - f k0) h1 h2
  have e2 := zS_add f (fun r => if r = k0 then f' k0 - f k0 else 0) a b
  rw [e] at e2
  rw [← e2]
  refine zS_congr (fun k x y => ?_)
  show f' k = f k + (if k = k0 then f' k0 - f k0 else 0)
  by_cases z : k = k0
  · rw [if_pos z, z]; omega
  · rw [if_neg z, h k x y z]; omega
theorem zacr_congr (hG : Good T) {v w : Int → Int} (h : zEq T v w) {c : Int} (h0 : 0 ≤ c) (h1 : c < T 11 0 15) : zacr T c v = zacr T c w := by
  obtain ⟨-, k1, -, k2, -⟩ := hG.cell c h0 h1
  unfold zacr
  rw [zS_congr (fun k a b => by rw [h k (by omega) (by omega)])]
theorem zacr_in_r (hG : Good T) {w : Int → Int} (hb : zWB T w) {c n : Int} (h0 : 0 ≤ c) (h1 : c < T 11 0 15) (n0 : T 66 0 c ≤ n) (n1 : n ≤ T 66 0 c + T 68 0 c) : 0 ≤ zS (fun k => if T 59 0 k = 0 then w k else 0) (T 66 0 c) n ∧ zS (fun k => if T 59 0 k = 0 then w k else 0) (T 66 0 c) n ≤ 1800 := by
  obtain ⟨-, k1, -, k2, -⟩ := hG.cell c h0 h1
  have hC := hG.nC
  have := zS_bd (f := fun k => if T 59 0 k = 0 then w k else 0) (a := T 66 0 c) (b := n) 0 300 n0 (fun k a b => by
    have := hb k (by omega) (by omega)
    show 0 ≤ (if T 59 0 k = 0 then w k else 0) ∧ (if T 59 0 k = 0 then w k else 0) ≤ 300
    split <;> omega)
  omega
theorem zacr_r (hG : Good T) {w : Int → Int} (hb : zWB T w) {c : Int} (h0 : 0 ≤ c) (h1 : c < T 11 0 15) : zshows T c - 1 ≤ zacr T c w ∧ zacr T c w ≤ 1805 := by
  obtain ⟨-, k1, -, k2, -⟩ := hG.cell c h0 h1
  have := zacr_in_r hG hb h0 h1 (n := T 66 0 c + T 68 0 c) (by omega) (by omega)
  have := zshows_r hG h0 h1
  unfold zacr
  omega
theorem zacr_ge (hG : Good T) {w : Int → Int} (hb : zWB T w) {c k : Int} (h0 : 0 ≤ c) (h1 : c < T 11 0 15) (k0 : T 66 0 c ≤ k) (k1 : k < T 66 0 c + T 68 0 c) (hs : T 59 0 k = 0) (h2 : 1 ≤ zshows T c) : w k ≤ zacr T c w := by
  obtain ⟨-, c1, -, c2, -⟩ := hG.cell c h0 h1
  have := zS_le_of_mem (f := fun k => if T 59 0 k = 0 then w k else 0) (a := T 66 0 c) (b := T 66 0 c + T 68 0 c) (i := k) (fun k a b => by
    have := hb k (by omega) (by omega)
    show 0 ≤ (if T 59 0 k = 0 then w k else 0)
    split <;> omega) k0 k1
  have e : (if T 59 0 k = 0 then w k else 0) = w k := if_pos hs
  unfold zacr
  have this : (if T 59 0 k = 0 then w k else 0) ≤ _ := this
  omega
theorem ztk_r (hG : Good T) (w : Int → Int) {c n : Int} (h0 : 0 ≤ c) (h1 : c < T 11 0 15) (n0 : T 66 0 c ≤ n) : ((ztk T c w n).1 = -1 ∨ (T 66 0 c ≤ (ztk T c w n).1 ∧ (ztk T c w n).1 < n ∧ T 59 0 (ztk T c w n).1 = 0)) ∧ ((ztk T c w n).2 = -1 ∨ (T 66 0 c ≤ (ztk T c w n).2 ∧ (ztk T c w n).2 < n ∧ T 59 0 (ztk T c w n).2 = 0)) ∧ (zS (zsh T) (T 66 0 c) n = 0 → (ztk T c w n).1 = -1 ∧ (ztk T c w n).2 = -1) ∧ (1 ≤ zS (zsh T) (T 66 0 c) n → (ztk T c w n).2 ≠ -1) ∧ (zS (zsh T) (T 66 0 c) n = 1 → (ztk T c w n).1 = -1 ∨ (ztk T c w n).1 = (ztk T c w n).2) := by
  obtain ⟨-, k1, -, k2, -⟩ := hG.cell c h0 h1
  refine zF_ind2 (g := fun s k => s + zsh T k) (g' := fun p k => (if ¬ T 59 0 k = 0 then p.1 else if T 56 0 k = 1 then p.1 else if p.1 = -1 then k else if w p.1 ≤ w k then p.1 else k, if T 59 0 k = 0 then k else p.2)) (x := (0 : Int)) (x' := ((-1, -1) : Int × Int)) (fun n (s : Int) (p : Int × Int) => (0 ≤ s) ∧ (p.1 = -1 ∨ (T 66 0 c ≤ p.1 ∧ p.1 < n ∧ T 59 0 p.1 = 0)) ∧ (p.2 = -1 ∨ (T 66 0 c ≤ p.2 ∧ p.2 < n ∧ T 59 0 p.2 = 0)) ∧ (s = 0 → p.1 = -1 ∧ p.2 = -1) ∧ (1 ≤ s → p.2 ≠ -1) ∧ (s = 1 → p.1 = -1 ∨ p.1 = p.2)) n0 ⟨Int.le_refl _, Or.inl rfl, Or.inl rfl, fun _ => ⟨rfl, rfl⟩, fun h => absurd h (by decide), fun h => absurd h (by decide)⟩ (fun k s p a b ⟨e0, e1, e2, e3, e4, e5⟩ => ?_) |>.2
  obtain ⟨p1, p2⟩ := p
  dsimp only at e1 e2 e3 e4 e5 ⊢
  by_cases hk : T 59 0 k = 0
  · have es : zsh T k = 1 := if_pos hk
    rw [es, if_neg (by omega), if_pos hk]
    refine ⟨by omega, ?_, Or.inr ⟨by omega, by omega, hk⟩, fun h => absurd h (by omega), fun _ => by omega, fun h => ?_⟩
    · split
      · rcases e1 with e1 | e1
        · exact Or.inl e1
        · exact Or.inr ⟨e1.1, by omega, e1.2.2⟩
      · split
        · exact Or.inr ⟨by omega, by omega, hk⟩
        · split
          · rcases e1 with e1 | e1
            · exact Or.inl e1
            · exact Or.inr ⟨e1.1, by omega, e1.2.2⟩
          · exact Or.inr ⟨by omega, by omega, hk⟩
    · obtain ⟨e3, -⟩ := e3 (by omega)
      subst e3
      split
      · exact Or.inl rfl
      · rw [if_pos rfl]; exact Or.inr rfl
  · have es : zsh T k = 0 := if_neg hk
    rw [es, if_pos hk, if_neg hk, Int.add_zero]
    refine ⟨e0, ?_, ?_, e3, e4, e5⟩
    · rcases e1 with e1 | e1
      · exact Or.inl e1
      · exact Or.inr ⟨e1.1, by omega, e1.2.2⟩
    · rcases e2 with e2 | e2
      · exact Or.inl e2
      · exact Or.inr ⟨e2.1, by omega, e2.2.2⟩
theorem ztakes_r (hG : Good T) (w : Int → Int) {c : Int} (h0 : 0 ≤ c) (h1 : c < T 11 0 15) (h2 : 1 ≤ zshows T c) : T 66 0 c ≤ ztakes T c w ∧ ztakes T c w < T 66 0 c + T 68 0 c ∧ T 59 0 (ztakes T c w) = 0 := by
  obtain ⟨-, k1, -, k2, -⟩ := hG.cell c h0 h1
  obtain ⟨a, b, c', d, e⟩ := ztk_r hG w h0 h1 (n := T 66 0 c + T 68 0 c) (by omega)
  unfold ztakes
  split
  · rename_i z
    rcases a with a | a
    · exact absurd a z
    · exact a
  · rcases b with b | b
    · exact absurd b (d h2)
    · exact b
theorem zlast_eq (hG : Good T) (w : Int → Int) {c : Int} (h0 : 0 ≤ c) (h1 : c < T 11 0 15) : zlast T c = (ztk T c w (T 66 0 c + T 68 0 c)).2 := by
  obtain ⟨-, k1, -, k2, -⟩ := hG.cell c h0 h1
  refine zF_ind2 (g := fun b k => if T 59 0 k = 0 then k else b) (g' := fun p k => (if ¬ T 59 0 k = 0 then p.1 else if T 56 0 k = 1 then p.1 else if p.1 = -1 then k else if w p.1 ≤ w k then p.1 else k, if T 59 0 k = 0 then k else p.2)) (x := (-1 : Int)) (x' := ((-1, -1) : Int × Int)) (fun _ (b : Int) (p : Int × Int) => b = p.2) (by omega) rfl (fun k v p _ _ h => ?_)
  show (if T 59 0 k = 0 then k else v) = (if T 59 0 k = 0 then k else p.2)
  rw [h]
theorem ztakes_one (hG : Good T) (w : Int → Int) {c : Int} (h0 : 0 ≤ c) (h1 : c < T 11 0 15) (h2 : zshows T c = 1) : ztakes T c w = zlast T c := by
  obtain ⟨-, k1, -, k2, -⟩ := hG.cell c h0 h1
  obtain ⟨a, b, c', d, e⟩ := ztk_r hG w h0 h1 (n := T 66 0 c + T 68 0 c) (by omega)
  rw [zlast_eq hG w h0 h1]
  unfold ztakes
  split
  · rename_i z
    rcases e h2 with e | e
    · exact absurd e z
    · exact e
  · rfl
theorem ztk_congr (hG : Good T) {v w : Int → Int} (h : zEq T v w) {c n : Int} (h0 : 0 ≤ c) (h1 : c < T 11 0 15) (n0 : T 66 0 c ≤ n) (n1 : n ≤ T 66 0 c + T 68 0 c) : ztk T c v n = ztk T c w n := by
  obtain ⟨-, k1, -, k2, -⟩ := hG.cell c h0 h1
  have hr : ∀ m, T 66 0 c ≤ m → ((ztk T c w m).1 = -1 ∨ (T 66 0 c ≤ (ztk T c w m).1 ∧ (ztk T c w m).1 < m ∧ T 59 0 (ztk T c w m).1 = 0)) := fun m hm => (ztk_r hG w h0 h1 hm).1
  have z : ∀ m : Nat, T 66 0 c + m ≤ T 66 0 c + T 68 0 c → ztk T c v (T 66 0 c + m) = ztk T c w (T 66 0 c + m) := by
    intro m
    induction m with
    | zero => intro _; unfold ztk; rw [zF_self _ _ (by omega), zF_self _ _ (by omega)]
    | succ m ih =>
      intro hm
      have ih := ih (by omega)
      have hm' := hr (T 66 0 c + m) (by omega)
      rw [show T 66 0 c + ((m + 1 : Nat) : Int) = T 66 0 c + m + 1 by omega]
      have e1 : ztk T c v (T 66 0 c + m + 1) = _ := zF_succ _ _ (by omega)
      have e2 : ztk T c w (T 66 0 c + m + 1) = _ := zF_succ _ _ (by omega)
      rw [e1, e2]
      show (if ¬ T 59 0 (T 66 0 c + m) = 0 then (ztk T c v (T 66 0 c + m)).1 else if T 56 0 (T 66 0 c + m) = 1 then (ztk T c v (T 66 0 c + m)).1 else if (ztk T c v (T 66 0 c + m)).1 = -1 then (T 66 0 c + m) else if v (ztk T c v (T 66 0 c + m)).1 ≤ v (T 66 0 c + m) then (ztk T c v (T 66 0 c + m)).1 else (T 66 0 c + m), if T 59 0 (T 66 0 c + m) = 0 then (T 66 0 c + m) else (ztk T c v (T 66 0 c + m)).2) = (if ¬ T 59 0 (T 66 0 c + m) = 0 then (ztk T c w (T 66 0 c + m)).1 else if T 56 0 (T 66 0 c + m) = 1 then (ztk T c w (T 66 0 c + m)).1 else if (ztk T c w (T 66 0 c + m)).1 = -1 then (T 66 0 c + m) else if w (ztk T c w (T 66 0 c + m)).1 ≤ w (T 66 0 c + m) then (ztk T c w (T 66 0 c + m)).1 else (T 66 0 c + m), if T 59 0 (T 66 0 c + m) = 0 then (T 66 0 c + m) else (ztk T c w (T 66 0 c + m)).2)
      rw [ih]
      by_cases hz : (ztk T c w (T 66 0 c + m)).1 = -1
      · simp only [if_pos hz]
      · rcases hm' with q | q
        · exact absurd q hz
        · rw [h _ (by omega) (by omega), h _ (by omega) (by omega)]
  have := z (n - T 66 0 c).toNat (by omega)
  rw [show T 66 0 c + ((n - T 66 0 c).toNat : Int) = n by omega] at this
  exact this
theorem ztakes_congr (hG : Good T) {v w : Int → Int} (h : zEq T v w) {c : Int} (h0 : 0 ≤ c) (h1 : c < T 11 0 15) : ztakes T c v = ztakes T c w := by
  obtain ⟨-, k1, -, k2, -⟩ := hG.cell c h0 h1
  unfold ztakes
  rw [ztk_congr hG h h0 h1 (by omega) (Int.le_refl _)]
theorem zacr_step (hG : Good T) {w : Int → Int} {c : Int} (h0 : 0 ≤ c) (h1 : c < T 11 0 15) (h2 : 1 ≤ zshows T c) : zacr T c (zstep T c w) = zacr T c w + 1 := by
  obtain ⟨t1, t2, t3⟩ := ztakes_r hG w h0 h1 h2
  unfold zacr
  rw [zS_set (f := fun k => if T 59 0 k = 0 then w k else 0) (f' := fun k => if T 59 0 k = 0 then zstep T c w k else 0) (k0 := ztakes T c w) t1 t2 (fun k a b hk => by
    show (if T 59 0 k = 0 then zstep T c w k else 0) = (if T 59 0 k = 0 then w k else 0)
    unfold zstep zset
    rw [if_neg hk])]
  simp only [if_pos t3, zstep, zset, if_true]
  omega
theorem zWB_step (hG : Good T) {w : Int → Int} (hb : zWB T w) {c : Int} (h0 : 0 ≤ c) (h1 : c < T 11 0 15) (h2 : 1 ≤ zshows T c) (h3 : zacr T c w < 299) : zWB T (zstep T c w) := by
  obtain ⟨t1, t2, t3⟩ := ztakes_r hG w h0 h1 h2
  have g := zacr_ge hG hb h0 h1 t1 t2 t3 h2
  intro k k0 k1
  have := hb k k0 k1
  unfold zstep zset
  split
  · rename_i e; subst e; omega
  · exact this
theorem zEq_step (hG : Good T) {v w : Int → Int} (h : zEq T v w) {c : Int} (h0 : 0 ≤ c) (h1 : c < T 11 0 15) (h2 : 1 ≤ zshows T c) : zEq T (zstep T c v) (zstep T c w) := by
  obtain ⟨-, c1, -, c2, -⟩ := hG.cell c h0 h1
  obtain ⟨t1, t2, t3⟩ := ztakes_r hG w h0 h1 h2
  intro k k0 k1
  unfold zstep zset
  rw [ztakes_congr hG h h0 h1, h k k0 k1, h _ (by omega) (by omega)]
theorem zgrow_r (hG : Good T) {c : Int} (h0 : 0 ≤ c) (h1 : c < T 11 0 15) (h2 : 1 ≤ zshows T c) {wants : Int} (hwt : wants ≤ 251) : ∀ (n : Nat) (w : Int → Int), zWB T w → (n : Int) ≤ wants - zacr T c w → zWB T (zgrow T c n w) := by
  intro n
  induction n with
  | zero => intro w hb _; exact hb
  | succ n ih =>
    intro w hb hn
    exact ih _ (zWB_step hG hb h0 h1 h2 (by omega)) (by rw [zacr_step hG h0 h1 h2]; omega)
theorem zspr1_r (hG : Good T) {most wide : Int} (hwd : 2 ≤ wide) {w : Int → Int} (hb : zWB T w) {n : Int} (n0 : 0 ≤ n) (n1 : n ≤ T 11 0 15) : zWB T (zspr1 T most wide w n) := by
  refine zF_ind (fun _ w => zWB T w) n0 hb (fun c v a b hv => ?_)
  show zWB T (if zshows T c = wide then zgrow T c (zwant T most c - zacr T c v).toNat v else v)
  split
  · rename_i hs
    have := zwant_r hG most a (by omega)
    by_cases hh : zacr T c v ≤ zwant T most c
    · exact zgrow_r hG a (by omega) (by omega) (wants := zwant T most c) this.2 _ _ hv (by omega)
    · rw [show (zwant T most c - zacr T c v).toNat = 0 by omega]; exact hv
  · exact hv
theorem zspr_r (hG : Good T) {most : Int} {w : Int → Int} (hb : zWB T w) {n : Int} (n0 : 2 ≤ n) : zWB T (zspr T most w n) :=
  zF_ind (fun _ w => zWB T w) n0 hb (fun k v a b hv => zspr1_r hG a hv hG.nK.1 (Int.le_refl _))
end RW
