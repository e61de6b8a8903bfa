/-! pages: what the class answers against the law's rows: what of a cell is shown -/
/-- how many pages, as the law has it -/
def zP0 (T : Mem) : Int := if zpg T 0 6 = 0 then zpg T 0 1 else -1
def zPq (T M : Mem) : Prop := M 114 0 0 = zP0 T ∧ (zpg T 0 6 = 0 → (∀ q, 0 ≤ q → q < 6 → q < zpg T 0 1 → M 114 0 (1 + q) = zus T (zpg T) q ∧ M 114 0 (7 + q) = zpg T 6 q) ∧ (∀ r q, 0 ≤ r → r < T 11 0 8 → 0 ≤ q → q < 6 → M 115 0 (6 * r + q) = zlat (zpg T) r q) ∧ ∀ m, 0 ≤ m → m < T 64 0 1 → M 116 0 (zbo T m) = zpg T 7 (zbo T m) ∧ 0 ≤ zpg T 7 (zbo T m))
/-- what holds while the law asks of pages -/
def zPN (T : Mem) (O : zSt) (κ : Nat → Int) (M : Mem) : Prop := zBn T O κ M ∧ zPq T M
section FA
variable {T M : Mem} {O : zSt} {κ κ2 : Nat → Int} {p9 : Int} {Qm : Int → Mem → Prop}
theorem zP0_p (h : 0 < zP0 T) : zpg T 0 6 = 0 ∧ zP0 T = zpg T 0 1 := by
  unfold zP0 at *
  by_cases e : zpg T 0 6 = 0
  · rw [if_pos e]; exact ⟨e, rfl⟩
  · rw [if_neg e] at h; exact absurd h (by decide)
theorem zPN.sm (h : zPN T O κ M) {M' : Mem} (i : Iv T O κ M') (s : zSm M M') : zPN T O κ M' := by
  refine ⟨h.1.sm i s, ?_⟩
  have h2 := h.2
  unfold zPq at *
  rw [s.1 114 (by decide), s.1 115 (by decide), s.1 116 (by decide)]
  exact h2
theorem zPN.fig (h : zPN T O κ M) (h6 : zpg T 0 6 = 0) {r : Int} (r0 : 0 ≤ r) (r1 : r < T 11 0 8) (hb : T 60 0 r = 1) : M 116 0 r = zpg T 7 r ∧ 0 ≤ zpg T 7 r := by
  obtain ⟨a, b, c⟩ := zbo_of h.1.1.1 r0 r1 hb
  have := (h.2.2 h6).2.2 _ a b
  rw [c] at this
  exact this
theorem zRq_0 (hG : Good T) {c : Int} (c0 : 0 ≤ c) (c1 : c < T 11 0 15) : zRq T c 0 = zlinesW T (zwid T) c := by
  unfold zRq
  rw [zS_self _ (Int.le_refl _)]
  have := zlinesW_r hG (zwid_r hG) c0 c1
  omega
theorem zRq_s {c q : Int} (q0 : 0 ≤ q) (ha : 0 ≤ zAq T c q) : zRq T c (q + 1) = zRq T c q - (if zAq T c q ≤ zRq T c q then zAq T c q else zRq T c q) := by
  unfold zRq
  rw [zS_succ _ q0]
  split <;> omega
set_option maxHeartbeats 4000000 in
theorem j_p480 (h : zPN T O κ M) (hp : 0 < zP0 T ∧ zP0 T < 7) {c : Int} (c0 : 0 ≤ c) (c1 : c < T 11 0 15) {K419 : Int → Int → Mem → Prop} (hK : ∀ M', zPN T O κ M' → K419 1 (c + 1) M') : ∃ n, wp_L_arePages_480 κ2 p9 Qm K419 n 1 c (zlinesW T (zwid T) c) (zpl T (T 65 0 c)) 0 M := by
  obtain ⟨h6, eP⟩ := zP0_p hp.1
  have hG := h.1.1.1
  have hn := h.1.2.1.n
  unfold lwN at hn
  have hW := zDR.pw hG h6
  have hl : ∀ k, 0 ≤ k → k < zpg T 0 0 → 1 ≤ zpg T 4 k ∧ zpg T 4 k ≤ 300 := fun k a b => (hW.2.2.2.2.2.2.1 k a b).2.1
  have hlw := zlinesW_r hG (zwid_r hG) c0 c1
  obtain ⟨w1, w2, w3, w4, w5, -⟩ := hG.cell c c0 c1
  obtain ⟨u1, -, -, u2, u3⟩ := hG.row _ w1.1 w1.2
  obtain ⟨-, -, -, -, -, -, -, hm0, hm1, hm2, hms, -⟩ := hG.n
  refine zLoop (σ := Int × Mem) (fun n k s => wp_L_arePages_480 κ2 p9 Qm K419 n 1 c s.1 (zpl T (T 65 0 c)) k s.2) (fun k s => zPN T O κ s.2 ∧ s.1 = zRq T c k) (zP0 T) (by omega) (s := (zlinesW T (zwid T) c, M)) ⟨h, (zRq_0 hG c0 c1).symm⟩ (fun n s hs => ?_) (fun n k s k0 k1 hs ih => ?_)
  · obtain ⟨y, M1⟩ := s
    obtain ⟨N1, e1⟩ := hs
    have N1 : zPN T O κ M1 := N1
    show wp_L_arePages_480 κ2 p9 Qm K419 (n + 1) 1 c y (zpl T (T 65 0 c)) (zP0 T) M1
    exact ⟨fun _ => ⟨⟨by omega, by omega⟩, hK M1 N1⟩, fun z => absurd z (by rw [N1.2.1]; omega)⟩
  · obtain ⟨y, M1⟩ := s
    obtain ⟨N1, e1⟩ := hs
    have N1 : zPN T O κ M1 := N1
    have e1 : y = zRq T c k := e1
    show wp_L_arePages_480 κ2 p9 Qm K419 (n + 1) 1 c y (zpl T (T 65 0 c)) k M1
    obtain ⟨t0, -, t2, -⟩ := N1.1.2.1.t c c0 c1
    obtain ⟨r0, -⟩ := N1.1.2.1.r _ w1.1 w1.2
    refine ⟨fun z => absurd z (by rw [N1.2.1]; omega), fun _ => ⟨fun z => absurd z (by decide), fun _ => ?_⟩⟩
    rw [t0, r0]
    refine ⟨⟨by omega, by omega⟩, ⟨by omega, by omega⟩, ⟨by omega, by omega⟩, ⟨by omega, by omega⟩, fun _ => ⟨⟨by omega, by omega⟩, hK M1 N1⟩, fun hb => ?_⟩
    rw [hb] at u2 w5
    have ezp : zpl T (T 65 0 c) = T 64 0 0 + T 6 (T 65 0 c) 6 := by
      unfold zpl zoff
      rw [hb, if_neg (by decide), if_pos rfl]
    have ry : 0 ≤ y ∧ y ≤ 1000 := by
      rw [e1]
      unfold zRq
      have := zS_nn (f := zAq T c) (a := 0) (b := k) (fun i i0 i1 => zS_nn (fun j _ _ => (zlat_r hG i0 hl).1))
      omega
    have ha : 0 ≤ zAq T c k := zS_nn (fun j _ _ => (zlat_r hG k0 hl).1)
    refine zLoop (σ := Int) (fun n2 i v => wp_L_arePages_517 κ2 p9 Qm K419 (wp_L_arePages_480 κ2 p9 Qm K419 n) n2 c y (zpl T (T 65 0 c)) k v i M1) (fun i v => v = zS (fun i => zlat (zpg T) (zbo T i) k) (T 6 (T 65 0 c) 6) (i - T 64 0 0)) (zpl T (T 65 0 c) + T 67 0 c) (by omega) (s := 0) (by rw [ezp, show T 64 0 0 + T 6 (T 65 0 c) 6 - T 64 0 0 = T 6 (T 65 0 c) 6 by omega, zS_self _ (Int.le_refl _)]) (fun n2 v hv => ?_) (fun n2 i v i0 i1 hv ih2 => ?_)
    · have hv : v = zAq T c k := by
        rw [hv, ezp, show T 64 0 0 + T 6 (T 65 0 c) 6 + T 67 0 c - T 64 0 0 = T 6 (T 65 0 c) 6 + T 67 0 c by omega]
        rfl
      show wp_L_arePages_517 κ2 p9 Qm K419 (wp_L_arePages_480 κ2 p9 Qm K419 n) (n2 + 1) c y (zpl T (T 65 0 c)) k v (zpl T (T 65 0 c) + T 67 0 c) M1
      refine ⟨⟨by omega, by omega⟩, ⟨by omega, by omega⟩, ⟨by omega, by omega⟩, ?_⟩
      rw [t2]
      refine ⟨⟨by omega, by omega⟩, fun _ => ?_, fun z => absurd z (by omega)⟩
      have hm : 0 ≤ (if v ≤ y then v else y) ∧ (if v ≤ y then v else y) ≤ y := by
        rw [hv]
        split <;> omega
      refine ⟨⟨by omega, by omega⟩, n_shown N1.1.1 h6 ⟨c0, c1⟩ hb k0 (by omega) (fun M2 I2 s2 => ⟨⟨by omega, by omega⟩, ?_⟩)⟩
      have es : (if zRq T c k ≤ zAq T c k then zRq T c k else zAq T c k) = (if v ≤ y then v else y) := by
        rw [hv, e1]
        split <;> split <;> omega
      rw [if_neg (c := ¬ (if zRq T c k ≤ zAq T c k then zRq T c k else zAq T c k) = (if v ≤ y then v else y)) (fun z => z es)]
      refine ih (y - (if v ≤ y then v else y), M2) ⟨N1.sm I2 s2, ?_⟩
      show y - (if v ≤ y then v else y) = zRq T c (k + 1)
      rw [zRq_s k0 ha, hv, e1]
    · show wp_L_arePages_517 κ2 p9 Qm K419 (wp_L_arePages_480 κ2 p9 Qm K419 n) (n2 + 1) c y (zpl T (T 65 0 c)) k v i M1
      have hi : T 64 0 0 + T 6 (T 65 0 c) 6 ≤ i ∧ i < T 64 0 0 + T 6 (T 65 0 c) 6 + T 67 0 c := by omega
      have hx : zRA T i = zbo T (i - T 64 0 0) := by
        rcases zRA_body hG (a := i) (by omega) (by omega) with ⟨a, b, d⟩ | ⟨a, b⟩
        · exact d
        · omega
      have hz := zbo_r hG (k := i - T 64 0 0) (by omega) (by omega)
      have hvb := zS_bd (f := fun i => zlat (zpg T) (zbo T i) k) (a := T 6 (T 65 0 c) 6) (b := i - T 64 0 0) 0 270300 (by omega) (fun j _ _ => zlat_r hG k0 hl)
      rw [← hv] at hvb
      have hg := (N1.2.2 h6).2.1 (zbo T (i - T 64 0 0)) k hz.1 hz.2.1 k0 (by omega)
      have hgb := zlat_r (r := zbo T (i - T 64 0 0)) hG k0 hl
      refine ⟨⟨by omega, by omega⟩, ⟨by omega, by omega⟩, ⟨by omega, by omega⟩, ?_⟩
      rw [t2, N1.1.2.1.o i (by omega) (by omega), hx, hg]
      refine ⟨⟨by omega, by omega⟩, fun z => absurd z (by omega), fun _ => ⟨⟨by omega, by omega⟩, ⟨by omega, by omega⟩, ⟨by omega, by omega⟩, ⟨by omega, by omega⟩, ⟨by omega, by omega⟩, ⟨by omega, by omega⟩, ih2 _ ?_⟩⟩
      rw [show i + 1 - T 64 0 0 = (i - T 64 0 0) + 1 by omega, zS_succ _ (by omega), ← hv]
theorem j_p416 (h : zPN T O κ M) (hq : ∀ M', zPN T O κ M' → Qm 1 M') : wp_L_arePages_416 κ2 p9 Qm 1 M := by
  have hG := h.1.1.1
  have hn := h.1.2.1.n
  unfold lwN at hn
  have hwb := zwid_r hG
  have fin : ∀ M', zPN T O κ M' → wp_L_arePages_614 κ2 p9 Qm 1 M' := fun M' N => ⟨Or.inr rfl, hq M' N⟩
  refine zLoop (σ := Mem) (fun n k s => wp_L_arePages_419 κ2 p9 Qm n 1 k s) (fun k s => zPN T O κ s) (T 11 0 15) hG.nK.1 (s := M) h (fun n M1 N1 => ?_) (fun n k M1 k0 k1 N1 ih => ?_)
  · obtain ⟨-, -, m2, -⟩ := N1.1.2.1.m
    exact ⟨fun _ => fin M1 N1, fun z => absurd z (by rw [m2]; omega)⟩
  · obtain ⟨-, -, m2, -⟩ := N1.1.2.1.m
    obtain ⟨w1, -⟩ := hG.cell k k0 k1
    obtain ⟨t0, -⟩ := N1.1.2.1.t k k0 k1
    refine ⟨fun _ => fin M1 N1, fun _ => ⟨fun _ => fin M1 N1, fun _ => ⟨fun _ => fin M1 N1, fun z0 => ⟨fun _ => fin M1 N1, fun z1 => ?_⟩⟩⟩⟩
    rw [N1.2.1] at z0 z1
    refine j_lines hG N1.1.2.1 k0 k1 (fun i i0 i1 => (N1.1.2.2.1 i i0 i1).2.2.1) (fun i i0 i1 => hwb i i0 i1) ⟨⟨by omega, by omega⟩, ⟨by omega, by omega⟩, ?_⟩
    rw [t0]
    exact j_placeOf hG N1.1.2.1 w1.1 w1.2 (j_p480 N1 ⟨z0, z1⟩ k0 k1 (fun M' N' => ih M' N'))
end FA
