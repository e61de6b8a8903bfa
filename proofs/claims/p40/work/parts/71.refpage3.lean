/-! the pure part: what is asked of pages -/
def zICk (T : Mem) (I : zSt) (k : Int) : Prop := (∀ j, 0 ≤ j → j < I 0 0 → ∃ m, 0 ≤ m ∧ m < k ∧ (I 1 j = zbo T m ∨ I 1 j = 100 + zbo T m)) ∧ (∀ j j', 0 ≤ j → j < j' → j' < I 0 0 → I 1 j ≠ I 1 j') ∧ (∀ m, 0 ≤ m → m < k → ∃ j, 0 ≤ j ∧ j < I 0 0 ∧ I 1 j = zbo T m)
/-- what holds of codes and first pages -/
def zPX (T : Mem) (S : zSt) : Prop :=
  (∀ k, 0 ≤ k → k < S 0 0 → ∃ j, 0 ≤ j ∧ (j < S 0 4 ∨ (j = S 0 4 ∧ 0 < S 0 5)) ∧ zcd T j = S 1 k) ∧
  (∀ k, 0 ≤ k → k < S 0 0 → S 3 k = 0 → S 2 k = S 7 (S 1 k)) ∧
  (∀ k, 0 ≤ k → k < S 0 0 → S 3 k ≠ 0 → ∃ k', 0 ≤ k' ∧ k' < k ∧ S 1 k' = S 1 k) ∧
  (∀ j, 0 ≤ j → (j < S 0 4 ∨ (j = S 0 4 ∧ 0 < S 0 5)) → ∃ k, 0 ≤ k ∧ k < S 0 0 ∧ S 1 k = zcd T j)
def zlat (S : zSt) (r p : Int) : Int := zS (fun k => if ¬ S 1 k = r then 0 else if ¬ S 2 k = p then 0 else S 4 k) 0 (S 0 0)
def zfv (T : Mem) (r c : Int) : Int := if ¬ zfig T r c = -1 then T 74 0 (zfig T r c) else 0
def zcar (T : Mem) (S : zSt) (p c : Int) : Int := zS (fun m => if S 7 (zbo T m) ≤ p then zfv T (zbo T m) c else 0) 0 (T 64 0 1)
section RS
variable {T M : Mem}
theorem zbo_inj (hG : Good T) {a b : Int} (a0 : 0 ≤ a) (a1 : a < T 64 0 1) (b0 : 0 ≤ b) (b1 : b < T 64 0 1) (h : zbo T a = zbo T b) : a = b := by
  rw [← (zbo_r hG a0 a1).2.2.2, ← (zbo_r hG b0 b1).2.2.2, h]
theorem zICk.more {I : zSt} {k k' : Int} (H : zICk T I k) (h : ∀ m, 0 ≤ m → m < k' → m < k) (h2 : k ≤ k') : zICk T I k' :=
  ⟨fun j a b => by obtain ⟨m, m0, m1, m2⟩ := H.1 j a b; exact ⟨m, m0, by omega, m2⟩, H.2.1, fun m a b => H.2.2 m a (h m a b)⟩
theorem zib_ck (hG : Good T) {k : Int} (k0 : 0 ≤ k) (k1 : k < T 64 0 1) {I : zSt} (hn : 0 ≤ I 0 0) (H : zICk T I k) : zICk T (zib T I k) (k + 1) := by
  have hR := hG.nR
  obtain ⟨b1, b2, b3, b4⟩ := zbo_r hG k0 k1
  obtain ⟨h1, h2, h3⟩ := H
  -- the row's item
  have q0 : zpb T k I 0 0 = I 0 0 + 1 := zpush_0 _ _ _ _ _
  have q1 : zpb T k I 1 (I 0 0) = zbo T k := (zpush_at _ _ _ _ _).1
  have q2 : ∀ j, j ≠ I 0 0 → zpb T k I 1 j = I 1 j := fun j hj => zpush_ne _ _ _ _ _ (by decide) hj
  have A : zICk T (zpb T k I) (k + 1) := by
    refine ⟨fun j a b => ?_, fun j j' a b c => ?_, fun m a b => ?_⟩
    · rw [q0] at b
      by_cases hj : j = I 0 0
      · exact ⟨k, k0, by omega, Or.inl (by rw [hj, q1])⟩
      · rw [q2 j hj]
        obtain ⟨m, m0, m1, m2⟩ := h1 j a (by omega)
        exact ⟨m, m0, by omega, m2⟩
    · rw [q0] at c
      rw [q2 j (by omega)]
      by_cases hj : j' = I 0 0
      · rw [hj, q1]
        obtain ⟨m, m0, m1, m2⟩ := h1 j a (by omega)
        intro e
        rcases m2 with m2 | m2
        · have := zbo_inj hG m0 (by omega) k0 k1 (m2.symm.trans e)
          omega
        · have := zbo_r hG m0 (by omega : m < T 64 0 1)
          omega
      · rw [q2 j' hj]
        exact h2 j j' a b (by omega)
    · by_cases hm : m = k
      · exact ⟨I 0 0, hn, by rw [q0]; omega, by rw [q1, hm]⟩
      · obtain ⟨j, j0, j1, j2⟩ := h3 m a (by omega)
        exact ⟨j, j0, by rw [q0]; omega, by rw [q2 j (by omega)]; exact j2⟩
  unfold zib
  split
  · have r0 : zpush (zpb T k I) (100 + zbo T k) 1 0 0 0 0 = I 0 0 + 1 + 1 := by rw [zpush_0, q0]
    have r1 : zpush (zpb T k I) (100 + zbo T k) 1 0 0 1 (I 0 0 + 1) = 100 + zbo T k := by
      have := (zpush_at (zpb T k I) (100 + zbo T k) 1 0 0).1
      rw [q0] at this; exact this
    have r2 : ∀ j, j ≠ I 0 0 + 1 → zpush (zpb T k I) (100 + zbo T k) 1 0 0 1 j = zpb T k I 1 j := fun j hj => zpush_ne _ _ _ _ _ (by decide) (by rw [q0]; exact hj)
    refine ⟨fun j a b => ?_, fun j j' a b c => ?_, fun m a b => ?_⟩
    · rw [r0] at b
      by_cases hj : j = I 0 0 + 1
      · exact ⟨k, k0, by omega, Or.inr (by rw [hj, r1])⟩
      · rw [r2 j hj]
        exact A.1 j a (by rw [q0]; omega)
    · rw [r0] at c
      rw [r2 j (by omega)]
      by_cases hj : j' = I 0 0 + 1
      · rw [hj, r1]
        intro e
        by_cases hj2 : j = I 0 0
        · rw [hj2, q1] at e; omega
        · rw [q2 j hj2] at e
          obtain ⟨m, m0, m1, m2⟩ := h1 j a (by omega)
          have z := zbo_r hG m0 (by omega : m < T 64 0 1)
          rcases m2 with m2 | m2
          · omega
          · have := zbo_inj hG m0 (by omega) k0 k1 (by omega)
            omega
      · rw [r2 j' hj]
        exact A.2.1 j j' a b (by rw [q0]; omega)
    · obtain ⟨j, j0, j1, j2⟩ := A.2.2 m a b
      rw [q0] at j1
      exact ⟨j, j0, by rw [r0]; omega, by rw [r2 j (by omega)]; exact j2⟩
  · exact A
theorem zi1_ck (hG : Good T) {n : Int} (n0 : 0 ≤ n) (n1 : n ≤ T 64 0 1) : zICk T (zi1 T n) n := by
  have := zF_ind (g := zib T) (x := (fun _ _ => 0 : zSt)) (a := 0) (b := n) (fun k (I : zSt) => 0 ≤ I 0 0 ∧ zICk T I k) n0 ⟨by decide, fun j a b => absurd b (by show ¬ j < 0; omega), fun j j' a b c => absurd c (by show ¬ j' < 0; omega), fun m a b => absurd b (by omega)⟩ (fun k I a b H => ⟨?_, zib_ck hG a (by omega) H.1 H.2⟩)
  · exact this.2
  · obtain ⟨H1, -⟩ := H
    have q0 : zpb T k I 0 0 = I 0 0 + 1 := zpush_0 _ _ _ _ _
    show 0 ≤ zib T I k 0 0
    unfold zib
    split
    · rw [zpush_0, q0]; omega
    · rw [q0]; omega
/-- codes of items are apart, and each body row has one -/
theorem zcd_ok (hG : Good T) : (∀ j j', 0 ≤ j → j < j' → j' < znn T → zcd T j ≠ zcd T j') ∧ (∀ m, 0 ≤ m → m < T 64 0 1 → ∃ j, 0 ≤ j ∧ j < znn T ∧ zcd T j = zbo T m) := by
  have hR := hG.nR
  have hm := hG.many (p := 1) (by omega) (by omega)
  have h1 := zi1_ck hG hm.1 (Int.le_refl _)
  have k1 := zi1_ok hG hm.1 (Int.le_refl _)
  -- one more, of a code that is another's
  have step : ∀ (I : zSt) (c h n b : Int), 0 ≤ I 0 0 → ((∀ j, 0 ≤ j → j < I 0 0 → I 1 j < c) ∧ (∀ j j', 0 ≤ j → j < j' → j' < I 0 0 → I 1 j ≠ I 1 j') ∧ (∀ m, 0 ≤ m → m < T 64 0 1 → ∃ j, 0 ≤ j ∧ j < I 0 0 ∧ I 1 j = zbo T m)) →
      ((∀ j, 0 ≤ j → j < zpush I c h n b 0 0 → zpush I c h n b 1 j < c + 1) ∧ (∀ j j', 0 ≤ j → j < j' → j' < zpush I c h n b 0 0 → zpush I c h n b 1 j ≠ zpush I c h n b 1 j') ∧ (∀ m, 0 ≤ m → m < T 64 0 1 → ∃ j, 0 ≤ j ∧ j < zpush I c h n b 0 0 ∧ zpush I c h n b 1 j = zbo T m)) := by
    intro I c h n b hn H
    obtain ⟨H1, H2, H3⟩ := H
    have q1 := (zpush_at I c h n b).1
    have q2 : ∀ j, j ≠ I 0 0 → zpush I c h n b 1 j = I 1 j := fun j hj => zpush_ne _ _ _ _ _ (by decide) hj
    rw [zpush_0]
    refine ⟨fun j a b => ?_, fun j j' a b c => ?_, fun m a b => ?_⟩
    · by_cases hj : j = I 0 0
      · rw [hj, q1]; omega
      · rw [q2 j hj]; have := H1 j a (by omega); omega
    · rw [q2 j (by omega)]
      by_cases hj : j' = I 0 0
      · rw [hj, q1]; have := H1 j a (by omega); omega
      · rw [q2 j' hj]; exact H2 j j' a b (by omega)
    · obtain ⟨j, j0, j1, j2⟩ := H3 m a b
      exact ⟨j, j0, by omega, by rw [q2 j (by omega)]; exact j2⟩
  have a1 : (∀ j, 0 ≤ j → j < zi1 T (T 64 0 1) 0 0 → zi1 T (T 64 0 1) 1 j < 200) ∧ (∀ j j', 0 ≤ j → j < j' → j' < zi1 T (T 64 0 1) 0 0 → zi1 T (T 64 0 1) 1 j ≠ zi1 T (T 64 0 1) 1 j') ∧ (∀ m, 0 ≤ m → m < T 64 0 1 → ∃ j, 0 ≤ j ∧ j < zi1 T (T 64 0 1) 0 0 ∧ zi1 T (T 64 0 1) 1 j = zbo T m) := by
    refine ⟨fun j a b => ?_, h1.2.1, h1.2.2⟩
    obtain ⟨m, m0, m1, m2⟩ := h1.1 j a b
    have := zbo_r hG m0 m1
    omega
  have a2 : (∀ j, 0 ≤ j → j < zi2 T 0 0 → zi2 T 1 j < 201) ∧ (∀ j j', 0 ≤ j → j < j' → j' < zi2 T 0 0 → zi2 T 1 j ≠ zi2 T 1 j') ∧ (∀ m, 0 ≤ m → m < T 64 0 1 → ∃ j, 0 ≤ j ∧ j < zi2 T 0 0 ∧ zi2 T 1 j = zbo T m) := by
    unfold zi2
    split
    · exact ⟨fun j a b => by have := a1.1 j a b; omega, a1.2⟩
    · exact step _ 200 1 0 0 k1.1 a1
  have k2 := zi2_ok hG
  have a3 : (∀ j j', 0 ≤ j → j < j' → j' < zitm T 0 0 → zitm T 1 j ≠ zitm T 1 j') ∧ (∀ m, 0 ≤ m → m < T 64 0 1 → ∃ j, 0 ≤ j ∧ j < zitm T 0 0 ∧ zitm T 1 j = zbo T m) := by
    unfold zitm
    split
    · exact (step _ 201 _ 0 1 k2.1 a2).2
    · exact a2.2
  exact a3
/-- what every step keeps holds at the end -/
theorem zpg_ind (hG : Good T) (P : zSt → Prop) (h0 : P (zS0 T)) (hs : ∀ S, zPW T S → S 0 4 < znn T → P S → zstp T S = zfail S ∨ P (zstp T S)) (h6 : zpg T 0 6 = 0) : P (zpg T) ∧ zPW T (zpg T) ∧ zpg T 0 4 = znn T ∧ zpg T 0 5 = 0 := by
  have z : ∀ (f : Nat) (S : zSt), zPW T S → P S → zmu T S < f → zit T f S 0 6 = 0 → P (zit T f S) ∧ zPW T (zit T f S) ∧ zit T f S 0 4 = znn T ∧ zit T f S 0 5 = 0 := by
    intro f
    induction f with
    | zero => intro S _ _ h; omega
    | succ f ih =>
      intro S H hP hm h6
      have e6 := H.2.2.2.2.1
      by_cases hd : znn T ≤ S 0 4
      · rw [zit_done (Or.inr hd)]
        have := H.2.1
        exact ⟨hP, H, by omega, by omega⟩
      · rw [zit_go (by omega)] at h6 ⊢
        obtain ⟨st, mu⟩ := zstp_ok hG H (by omega)
        have hne : zstp T S ≠ zfail S := fun e => by
          rw [e, zit_done (Or.inl (by show ¬ (1 : Int) = 0; decide))] at h6
          exact absurd h6 (by show ¬ (1 : Int) = 0; decide)
        rcases st with st | st
        · rcases hs S H (by omega) hP with q | q
          · exact absurd q hne
          · exact ih _ st q (by omega) h6
        · exact absurd st hne
  have hz := zPW_0 hG
  have h3 := hz.2.2.1
  have h03 := hz.1
  have e6 := hz.2.2.2.2.1
  refine z 1900 _ hz h0 ?_ h6
  unfold zmu
  rw [if_neg (by omega)]
  omega
theorem zPX_put (hG : Good T) {S : zSt} (H : zPW T S) (h : S 0 4 < znn T) (X : zPX T S) (f' i' : Int) (hx : ∀ j, 0 ≤ j → ((j < S 0 4 ∨ (j = S 0 4 ∧ 0 < S 0 5)) ∨ j = S 0 4 ↔ (j < i' ∨ (j = i' ∧ 0 < f')))) :
    (∀ k, 0 ≤ k → k < S 0 0 + 1 → ∃ j, 0 ≤ j ∧ (j < i' ∨ (j = i' ∧ 0 < f')) ∧ zcd T j = zset (S 1) (S 0 0) (zcd T (S 0 4)) k) ∧
    (∀ k, 0 ≤ k → k < S 0 0 + 1 → zset (S 3) (S 0 0) (S 0 5) k = 0 → zset (S 2) (S 0 0) (S 0 1 - 1) k = zS7 T S (zset (S 1) (S 0 0) (zcd T (S 0 4)) k)) ∧
    (∀ k, 0 ≤ k → k < S 0 0 + 1 → zset (S 3) (S 0 0) (S 0 5) k ≠ 0 → ∃ k', 0 ≤ k' ∧ k' < k ∧ zset (S 1) (S 0 0) (zcd T (S 0 4)) k' = zset (S 1) (S 0 0) (zcd T (S 0 4)) k) ∧
    (∀ j, 0 ≤ j → (j < i' ∨ (j = i' ∧ 0 < f')) → ∃ k, 0 ≤ k ∧ k < S 0 0 + 1 ∧ zset (S 1) (S 0 0) (zcd T (S 0 4)) k = zcd T j) := by
  obtain ⟨⟨a1, a2, a3, a4, a5⟩, b, -⟩ := H
  obtain ⟨F, G, X3, E⟩ := X
  have hb : 0 ≤ S 0 4 ∧ 0 ≤ S 0 5 := by omega
  refine ⟨fun k k0 k1 => ?_, fun k k0 k1 h3 => ?_, fun k k0 k1 h3 => ?_, fun j j0 hj => ?_⟩
  · by_cases hk : k = S 0 0
    · rw [hk, zset_eq]
      exact ⟨S 0 4, hb.1, (hx _ hb.1).mp (Or.inr rfl), rfl⟩
    · rw [zset_ne _ _ hk]
      obtain ⟨j, j0, j1, j2⟩ := F k k0 (by omega)
      exact ⟨j, j0, (hx j j0).mp (Or.inl j1), j2⟩
  · by_cases hk : k = S 0 0
    · rw [hk, zset_eq] at h3
      rw [hk, zset_eq, zset_eq]
      unfold zS7
      rw [if_pos h3, zset_eq]
    · rw [zset_ne _ _ hk] at h3
      rw [zset_ne _ _ hk, zset_ne _ _ hk]
      have g := G k k0 (by omega) h3
      unfold zS7
      split
      · rename_i h5
        obtain ⟨j, j0, j1, j2⟩ := F k k0 (by omega)
        have hne : S 1 k ≠ zcd T (S 0 4) := by
          rw [← j2]
          exact (zcd_ok hG).1 j (S 0 4) j0 (by omega) h
        rw [zset_ne _ _ hne]
        exact g
      · exact g
  · by_cases hk : k = S 0 0
    · rw [hk, zset_eq] at h3
      obtain ⟨k', k0', k1', k2'⟩ := E (S 0 4) hb.1 (Or.inr ⟨rfl, by omega⟩)
      exact ⟨k', k0', by omega, by rw [hk, zset_eq, zset_ne _ _ (by omega)]; exact k2'⟩
    · rw [zset_ne _ _ hk] at h3
      obtain ⟨k', k0', k1', k2'⟩ := X3 k k0 (by omega) h3
      exact ⟨k', k0', k1', by rw [zset_ne _ _ hk, zset_ne _ _ (by omega)]; exact k2'⟩
  · by_cases hj4 : j = S 0 4
    · exact ⟨S 0 0, a1, by omega, by rw [zset_eq, hj4]⟩
    · have := (hx j j0).mpr hj
      obtain ⟨k, k0, k1, k2⟩ := E j j0 (by omega)
      exact ⟨k, k0, by omega, by rw [zset_ne _ _ (by omega)]; exact k2⟩
theorem zPX_ok (hG : Good T) (h6 : zpg T 0 6 = 0) : zPX T (zpg T) ∧ zPW T (zpg T) ∧ zpg T 0 4 = znn T ∧ zpg T 0 5 = 0 := by
  refine zpg_ind hG (zPX T) ⟨fun k a b => absurd b (by show ¬ k < 0; omega), fun k a b => absurd b (by show ¬ k < 0; omega), fun k a b => absurd b (by show ¬ k < 0; omega), fun j a b => ?_⟩ (fun S H h X => ?_) h6
  · have b : j < 0 ∨ (j = 0 ∧ (0 : Int) < 0) := b
    omega
  · have H' := H
    obtain ⟨⟨a1, a2, a3, a4, a5⟩, b, -⟩ := H
    have hb : 0 ≤ S 0 4 ∧ 0 ≤ S 0 5 := by omega
    unfold zstp
    by_cases hf : zln T S + zwn T S ≤ S 0 2 - (if znn T ≤ S 0 4 + 1 then 0 else zat T)
    · rw [if_pos hf]
      exact Or.inr (zPX_put hG H' h X 0 (S 0 4 + 1) (fun j j0 => by omega))
    · rw [if_neg hf]
      by_cases hq : (¬ zbr T (S 0 4) = 0 ∨ S 0 3 = 0) ∧ 1 ≤ zmo T S
      · rw [if_pos hq]
        exact Or.inr (zPX_put hG H' h X (S 0 5 + zmo T S) (S 0 4) (fun j j0 => by omega))
      · rw [if_neg hq]
        by_cases hz : ¬ S 0 3 = 0
        · rw [if_pos hz]; exact Or.inr X
        · rw [if_neg hz]; exact Or.inl rfl
theorem zfv_r (hG : Good T) {r c : Int} (r0 : 0 ≤ r) (r1 : r < T 11 0 8) (c0 : 0 ≤ c) (c1 : c < 6) : -1000000 ≤ zfv T r c ∧ zfv T r c ≤ 1000000 := by
  unfold zfv
  split
  · rename_i h
    obtain ⟨f1, f2, -⟩ := zfig_r hG r0 r1 c0 c1 h
    exact (hG.cell _ f1 f2).2.2.2.2.2.2.2.1
  · omega
theorem zcar_r (hG : Good T) (S : zSt) {p c n : Int} (c0 : 0 ≤ c) (c1 : c < 6) (n0 : 0 ≤ n) (n1 : n ≤ T 64 0 1) : -1000000 * n ≤ zS (fun m => if S 7 (zbo T m) ≤ p then zfv T (zbo T m) c else 0) 0 n ∧ zS (fun m => if S 7 (zbo T m) ≤ p then zfv T (zbo T m) c else 0) 0 n ≤ 1000000 * n := by
  have := zS_bd (f := fun m => if S 7 (zbo T m) ≤ p then zfv T (zbo T m) c else 0) (a := 0) (b := n) (-1000000) 1000000 n0 (fun m a b => by
    have z := zbo_r hG a (by omega : m < T 64 0 1)
    have := zfv_r hG z.1 z.2.1 c0 c1
    show -1000000 ≤ (if S 7 (zbo T m) ≤ p then zfv T (zbo T m) c else 0) ∧ (if S 7 (zbo T m) ≤ p then zfv T (zbo T m) c else 0) ≤ 1000000
    split <;> omega)
  omega
end RS
