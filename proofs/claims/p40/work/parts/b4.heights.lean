/-! the law's heights -/
section JD
variable {T M : Mem} {w : Int → Int}
/-- heights as far as they are laid: the row x from 20 on, nothing else -/
def zRh (T M M' : Mem) (h : Int → Int) (b : Int) : Prop := (∀ (s : Nat) (j k : Int), ¬ (s = 113 ∧ j = 0 ∧ 20 ≤ k ∧ k < 30) → M' s j k = M s j k) ∧ ∀ r, 0 ≤ r → r < T 11 0 8 → M' 113 0 (20 + r) = h r ∧ 1 ≤ h r ∧ h r ≤ b
theorem zbel_RA (hG : Good T) {c j : Int} (c0 : 0 ≤ c) (c1 : c < T 11 0 15) (j0 : 0 ≤ j) (j1 : j < T 67 0 c) : zRA T (zpl T (T 65 0 c) + j) = zbel T c j ∧ 0 ≤ zbel T c j ∧ zbel T c j < T 11 0 8 ∧ zpl T (zbel T c j) = zpl T (T 65 0 c) + j := by
  obtain ⟨w1, -, w3, -, w5, -⟩ := hG.cell c c0 c1
  obtain ⟨a, -, -, b, -⟩ := hG.row _ w1.1 w1.2
  obtain ⟨x, y, z⟩ := hG.ord (T 60 0 (T 65 0 c)) (T 6 (T 65 0 c) 6 + j) a.1 a.2 (by omega) (by omega)
  have e : T 63 0 (24 * T 60 0 (T 65 0 c) + (T 6 (T 65 0 c) 6 + j)) = zbel T c j := by
    unfold zbel
    exact congrArg (T 63 0) (by omega)
  rw [e] at x y z
  have ep : zpl T (zbel T c j) = zpl T (T 65 0 c) + j := by
    unfold zpl
    rw [y, z]
    omega
  refine ⟨?_, x.1, x.2, ep⟩
  rw [← ep]
  exact (zpl_in hG x.1 x.2).2
theorem zbel_0 (hG : Good T) {c : Int} (c0 : 0 ≤ c) (c1 : c < T 11 0 15) : zbel T c 0 = T 65 0 c := by
  obtain ⟨w1, -, w3, -⟩ := hG.cell c c0 c1
  have := (zbel_RA hG c0 c1 (j := 0) (by omega) (by omega)).1
  rw [Int.add_zero, (zpl_in hG w1.1 w1.2).2] at this
  exact this.symm
/-- the reference's heights after some cells of those that go over d rows -/
def zHc (T : Mem) (w : Int → Int) (d n : Int) : Int → Int := if d = 1 then zh1 T w n else zh2 T w d n (zhs T w d)
theorem zHc_s (hG : Good T) {d n : Int} (n0 : 0 ≤ n) (n1 : n < T 11 0 15) : zHc T w d (n + 1) = if T 67 0 n = d then zlong T w n (zHc T w d n) else zHc T w d n := by
  unfold zHc
  by_cases e : d = 1
  · rw [if_pos e, if_pos e]
    unfold zh1
    rw [zF_succ _ _ n0]
    by_cases z : T 67 0 n = 1
    · rw [if_pos z, if_pos (by omega)]
      unfold zlong
      rw [z, show (1 : Int) - 1 = 0 from rfl, zbel_0 hG n0 n1, show (1 : Int) = 0 + 1 from rfl, zS_succ _ (Int.le_refl _), zS_self _ (Int.le_refl _), zbel_0 hG n0 n1]
      congr 1
      omega
    · rw [if_neg z, if_neg (by omega)]
  · rw [if_neg e, if_neg e]
    unfold zh2
    rw [zF_succ _ _ n0]
theorem zHc_0 (d : Int) : zHc T w d 0 = if d = 1 then (fun _ => 1) else zhs T w d := by
  unfold zHc zh1 zh2
  split
  · exact zF_self _ _ (Int.le_refl _)
  · exact zF_self _ _ (Int.le_refl _)
theorem zHc_n {d : Int} (d1 : 1 ≤ d) : zHc T w d (T 11 0 15) = zhs T w (d + 1) := by
  unfold zHc zhs
  by_cases e : d = 1
  · rw [if_pos e, e]
    exact (zF_self _ _ (by decide)).symm
  · rw [if_neg e, zF_succ _ _ (by omega)]
theorem zlong_at {c r : Int} {h : Int → Int} : zlong T w c h r = if r = zbel T c (T 67 0 c - 1) then h r + max 0 (zlinesW T w c - zS (fun k => h (zbel T c k)) 0 (T 67 0 c)) else h r := by
  unfold zlong zset
  by_cases e : r = zbel T c (T 67 0 c - 1)
  · rw [if_pos e, if_pos e, e]
  · rw [if_neg e, if_neg e]
set_option maxHeartbeats 8000000 in
theorem j_heights (hG : Good T) (L : zLw T M) (hx : ∀ k, 0 ≤ k → k < T 11 0 4 → M 113 0 (8 + k) = w k) (hB : ∀ k, 0 ≤ k → k < T 11 0 4 → 0 ≤ w k ∧ w k ≤ 300) {Qm : Mem → Prop} (hq : ∀ M', zRh T M M' (zht T w) 10000 → Qm M') : wp_L_heights M Qm := by
  have hn := L.n
  unfold lwN at hn
  have hR := hG.nR
  have hKn := hG.nK
  obtain ⟨-, m1, m2, -⟩ := L.m
  have ls : ∀ M' h b, zRh T M M' h b → zLs M M' := fun M' h b r => ⟨fun s hs => funext fun j => funext fun k => r.1 s j k (by omega), r.1 11 0 30 (by omega)⟩
  refine zLoop (σ := Mem) (fun n k M' => wp_L_heights_3 Qm n k M') (fun k M' => (∀ (s : Nat) (j k : Int), ¬ (s = 113 ∧ j = 0 ∧ 20 ≤ k ∧ k < 30) → M' s j k = M s j k) ∧ ∀ r, 0 ≤ r → r < k → M' 113 0 (20 + r) = 1) (T 11 0 8) hR.1 (s := M) ⟨fun _ _ _ _ => rfl, fun r a b => by omega⟩ (fun n M1 hs => ?_) (fun n k M1 k0 k1 hs ih => ?_)
  rotate_left
  · have e1 : M1 112 0 1 = T 11 0 8 := by rw [hs.1 112 0 1 (by omega), m1]
    refine ⟨fun z => absurd z (by rw [e1]; omega), fun _ => ⟨⟨by omega, by omega⟩, ⟨by omega, by omega⟩, fun M2 e2 => ⟨⟨by omega, by omega⟩, ih M2 ⟨fun s j i z => ?_, fun r r0 r1 => ?_⟩⟩⟩⟩
    · rw [e2, up_at, if_neg (by omega)]
      exact hs.1 s j i z
    · rw [e2, up_at]
      by_cases e : r = k
      · rw [if_pos ⟨rfl, rfl, by omega⟩]
      · rw [if_neg (by omega)]
        exact hs.2 r r0 (by omega)
  have e1 : M1 112 0 1 = T 11 0 8 := by rw [hs.1 112 0 1 (by omega), m1]
  refine ⟨fun _ => ?_, fun z => absurd z (by rw [e1]; omega)⟩
  refine zLoop (σ := Mem) (fun n k M' => wp_L_heights_30 Qm n k M') (fun d M' => zRh T M M' (zHc T w d 0) (1 + 100 * d)) 5 (by decide) (s := M1) ?_ (fun n M2 h2 => ?_) (fun n d M2 d1 d5 h2 ih => ?_)
  · refine ⟨hs.1, fun r r0 r1 => ?_⟩
    rw [zHc_0, if_pos rfl]
    exact ⟨hs.2 r r0 r1, by decide, by decide⟩
  · refine ⟨fun _ => hq M2 ⟨h2.1, fun r r0 r1 => ?_⟩, fun z => absurd z (by decide)⟩
    obtain ⟨a, b, c⟩ := h2.2 r r0 r1
    rw [zHc_0, if_neg (by decide)] at a b c
    exact ⟨a, b, by unfold zht; omega⟩
  · refine ⟨fun z => absurd z (by omega), fun _ => ?_⟩
    refine zLoop (σ := Mem) (fun m k M' => wp_L_heights_39 Qm (wp_L_heights_30 Qm n) m d k M') (fun c M' => zRh T M M' (zHc T w d c) (1 + 100 * d + 10 * c)) (T 11 0 15) hKn.1 (s := M2) ⟨h2.1, fun r r0 r1 => by have := h2.2 r r0 r1; omega⟩ (fun m M3 h3 => ?_) (fun m c M3 c0 c1 h3 ih2 => ?_)
    · have e2 : M3 112 0 2 = T 11 0 15 := by rw [h3.1 112 0 2 (by omega), m2]
      refine ⟨fun _ => ⟨⟨by omega, by omega⟩, ih M3 ⟨h3.1, fun r r0 r1 => ?_⟩⟩, fun z => absurd z (by rw [e2]; omega)⟩
      obtain ⟨a, b, c⟩ := h3.2 r r0 r1
      rw [zHc_0, if_neg (by omega), ← zHc_n d1]
      exact ⟨a, b, by omega⟩
    · have e2 : M3 112 0 2 = T 11 0 15 := by rw [h3.1 112 0 2 (by omega), m2]
      have L3 : zLw T M3 := L.fr (ls M3 _ _ h3)
      have hx3 : ∀ k, 0 ≤ k → k < T 11 0 4 → M3 113 0 (8 + k) = w k := fun k k0 k1 => by rw [h3.1 113 0 _ (by omega)]; exact hx k k0 k1
      obtain ⟨t0, t1, t2, t3, -⟩ := L3.t c c0 c1
      obtain ⟨w1, w2, w3, w4, w5, -⟩ := hG.cell c c0 c1
      have hpl := (zpl_in hG w1.1 w1.2).1
      have hln := zlin_r hG L3 c0 c1 w
      have hbl := fun (j : Int) (j0 : 0 ≤ j) (j1 : j < T 67 0 c) => zbel_RA hG c0 c1 j0 j1
      have hlast := hbl (T 67 0 c - 1) (by omega) (by omega)
      have hpe : zpl T (T 65 0 c) + T 67 0 c ≤ T 11 0 8 := by
        have := (zpl_in hG hlast.2.1 hlast.2.2.1).1
        omega
      have ho : ∀ j, 0 ≤ j → j < T 67 0 c → M3 106 0 (zpl T (T 65 0 c) + j) = zbel T c j := fun j j0 j1 => by
        rw [L3.o _ (by omega) (by omega)]
        exact (hbl j j0 j1).1
      -- what is put at last
      have put : ∀ v, (-500000 ≤ v ∧ v ≤ 10) → (zHc T w d (c + 1) = fun r => if r = zbel T c (T 67 0 c - 1) then zHc T w d c r + (if v ≤ 0 then 0 else v) else zHc T w d c r) → wp_L_heights_131 Qm (wp_L_heights_30 Qm n) (wp_L_heights_39 Qm (wp_L_heights_30 Qm n) m) d c (zpl T (T 65 0 c)) v M3 := fun v hv hc => by
        obtain ⟨a, b, g⟩ := h3.2 _ hlast.2.1 hlast.2.2.1
        unfold wp_L_heights_131
        rw [t2, show zpl T (T 65 0 c) + T 67 0 c - 1 = zpl T (T 65 0 c) + (T 67 0 c - 1) by omega, ho _ (by omega) (by omega), a]
        have hv2 : 0 ≤ (if v ≤ 0 then (0 : Int) else v) ∧ (if v ≤ 0 then (0 : Int) else v) ≤ 10 := by split <;> omega
        refine ⟨⟨by omega, by omega⟩, ⟨by omega, by omega⟩, ⟨by omega, by omega⟩, ⟨by omega, by omega⟩, ⟨by omega, by omega⟩, ⟨by omega, by omega⟩, ⟨by omega, by omega⟩, ⟨by omega, by omega⟩, ⟨by omega, by omega⟩, ⟨by omega, by omega⟩, fun M4 e4 => ⟨⟨by omega, by omega⟩, ih2 M4 ⟨fun s j k z => ?_, fun r r0 r1 => ?_⟩⟩⟩
        · rw [e4, up_at, if_neg (by omega)]
          exact h3.1 s j k z
        · obtain ⟨a', b', g'⟩ := h3.2 r r0 r1
          rw [hc, e4, up_at]
          dsimp only
          by_cases e : r = zbel T c (T 67 0 c - 1)
          · rw [if_pos ⟨rfl, rfl, by omega⟩, if_pos e, e]
            exact ⟨rfl, by omega, by omega⟩
          · rw [if_neg (by omega), if_neg e]
            exact ⟨a', b', by omega⟩
      refine ⟨fun z => absurd z (by rw [e2]; omega), fun _ => ⟨⟨by omega, by omega⟩, ⟨by omega, by omega⟩, ?_⟩⟩
      rw [t0]
      refine j_placeOf hG L3 w1.1 w1.2 ⟨⟨by omega, by omega⟩, ⟨by omega, by omega⟩, ⟨by omega, by omega⟩, fun z => ?_, fun z => ?_⟩
      · rw [t2] at z
        have hp := put 0 (by decide) (by
          rw [zHc_s hG c0 c1, if_neg z]
          funext r
          split
          · rw [if_pos (Int.le_refl _)]; omega
          · rfl)
        refine ⟨1, ⟨by omega, by omega⟩, fun _ => hp, fun _ => ⟨fun _ => hp, fun y => absurd y (by decide)⟩⟩
      · rw [t2] at z
        refine j_lines hG L3 c0 c1 hx3 hB ?_
        have hsum : ∀ i, 0 ≤ i → i ≤ d → i ≤ zS (fun k => zHc T w d c (zbel T c k)) 0 i ∧ zS (fun k => zHc T w d c (zbel T c k)) 0 i ≤ 100000 * i := fun i i0 i1 => by
          have := zS_bd (f := fun k => zHc T w d c (zbel T c k)) (a := 0) (b := i) 1 100000 i0 (fun k k0 k1 => by
            have hb := hbl k k0 (by omega)
            have := h3.2 _ hb.2.1 hb.2.2.1
            exact ⟨this.2.1, by omega⟩)
          omega
        have hnext : ∀ v, (v ≤ 0 → zlinesW T w c - zS (fun k => zHc T w d c (zbel T c k)) 0 d ≤ 0) → (0 < v → v = zlinesW T w c - zS (fun k => zHc T w d c (zbel T c k)) 0 d) → zHc T w d (c + 1) = fun r => if r = zbel T c (T 67 0 c - 1) then zHc T w d c r + (if v ≤ 0 then 0 else v) else zHc T w d c r := fun v v0 v1 => by
          rw [zHc_s hG c0 c1, if_pos z]
          funext r
          rw [zlong_at, z]
          by_cases e : r = zbel T c (d - 1)
          · rw [if_pos e, if_pos e]
            by_cases y : v ≤ 0
            · have := v0 y
              rw [if_pos y]; omega
            · have := v1 (by omega)
              rw [if_neg y]; omega
          · rw [if_neg e, if_neg e]
        refine zLoop (σ := Int) (fun q k s => wp_L_heights_95 Qm (wp_L_heights_30 Qm n) (wp_L_heights_39 Qm (wp_L_heights_30 Qm n) m) q d c (zpl T (T 65 0 c)) s k M3) (fun k s => s = zlinesW T w c - zS (fun k => zHc T w d c (zbel T c k)) 0 (k - zpl T (T 65 0 c))) (zpl T (T 65 0 c) + d) (by omega) (s := zlinesW T w c) (by rw [zS_self _ (by omega)]; omega) (fun q s hs => ?_) (fun q k s k0 k1 hs ih3 => ?_)
        · have hb := hsum d (by omega) (Int.le_refl _)
          rw [show zpl T (T 65 0 c) + d - zpl T (T 65 0 c) = d by omega] at hs
          refine ⟨⟨by omega, by omega⟩, fun _ => put s ⟨by omega, by omega⟩ (hnext s (fun _ => by omega) (fun _ => hs)), fun y => absurd y (by omega)⟩
        · obtain ⟨i, ei⟩ : ∃ i, i = k - zpl T (T 65 0 c) := ⟨_, rfl⟩
          have ek : k = zpl T (T 65 0 c) + i := by omega
          rw [← ei] at hs
          have hb := hsum i (by omega) (by omega)
          have hbi := hbl i (by omega) (by omega)
          obtain ⟨a, b, g⟩ := h3.2 _ hbi.2.1 hbi.2.2.1
          refine ⟨⟨by omega, by omega⟩, fun y => absurd y (by omega), fun _ => ⟨fun y => put s ⟨by omega, by omega⟩ (hnext s (fun _ => ?_) (fun x => absurd x (by omega))), fun y => ?_⟩⟩
          · have := zS_split (fun k => zHc T w d c (zbel T c k)) (a := 0) (m := i) (b := d) (by omega) (by omega)
            have n2 := zS_nn (f := fun k => zHc T w d c (zbel T c k)) (a := i) (b := d) (fun k x1 x2 => by
              have hb := hbl k (by omega) (by omega)
              have := h3.2 _ hb.2.1 hb.2.2.1
              show 0 ≤ zHc T w d c (zbel T c k)
              omega)
            omega
          · rw [ek, ho i (by omega) (by omega), a]
            rw [ek] at ih3
            refine ⟨⟨by omega, by omega⟩, ⟨by omega, by omega⟩, ⟨by omega, by omega⟩, ⟨by omega, by omega⟩, ⟨by omega, by omega⟩, ih3 _ ?_⟩
            rw [show zpl T (T 65 0 c) + i + 1 - zpl T (T 65 0 c) = i + 1 by omega, zS_succ _ (by omega), hs]
            omega
end JD
