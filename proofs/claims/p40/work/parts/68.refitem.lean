/-! the pure part: the items that flow. A record is a function of a place and an index. -/
abbrev zSt : Type := Nat → Int → Int
def znote (T : Mem) (c : Int) : Int := if zshows T c = 0 then 0 else T 76 0 c
def zrn (T : Mem) (r n : Int) : Int := zS (fun c => if T 65 0 c = r then znote T c else 0) 0 n
def zat (T : Mem) : Int := zF (fun b k => if ¬ b = 0 then 1 else if T 58 0 k = 0 then 0 else if ¬ T 59 0 k = 0 then 0 else 1) 0 0 (T 11 0 4)
def zbo (T : Mem) (k : Int) : Int := T 63 0 (24 + k)
def zpush (I : zSt) (c h n b : Int) : zSt := fun s k => if s = 0 ∧ k = 0 then I 0 0 + 1 else if s = 1 ∧ k = I 0 0 then c else if s = 2 ∧ k = I 0 0 then h else if s = 3 ∧ k = I 0 0 then n else if s = 4 ∧ k = I 0 0 then b else I s k
def zends (T : Mem) (k : Int) : Int := if k + 1 = T 64 0 1 then 1 else if T 61 0 (zbo T (k + 1)) = T 61 0 (zbo T k) then 0 else 1
def zpb (T : Mem) (k : Int) (I : zSt) : zSt := zpush I (zbo T k) (zht T (zwid T) (zbo T k)) (if T 11 0 26 = 0 then zrn T (zbo T k) (T 11 0 15) else 0) (T 62 0 (zbo T k))
def zib (T : Mem) (I : zSt) (k : Int) : zSt := if ¬ zat T = 0 ∧ ¬ zends T k = 0 ∧ ¬ T 61 0 (zbo T k) = 0 then zpush (zpb T k I) (100 + zbo T k) 1 0 0 else zpb T k I
def zi1 (T : Mem) (n : Int) : zSt := zF (zib T) (fun _ _ => 0) 0 n
def zi2 (T : Mem) : zSt := if zat T = 0 then zi1 T (T 64 0 1) else zpush (zi1 T (T 64 0 1)) 200 1 0 0
/-- all lines of notes of the body rows -/
def zalln (T : Mem) (n : Int) : Int := zS (fun k => zrn T (zbo T k) (T 11 0 15)) 0 n
def zitm (T : Mem) : zSt := if ¬ T 11 0 26 = 0 ∧ 0 < zalln T (T 64 0 1) then zpush (zi2 T) 201 (zalln T (T 64 0 1)) 0 1 else zi2 T
/-- what holds of items: how many, how many lines -/
def zIOK (I : zSt) (m L : Int) : Prop := 0 ≤ I 0 0 ∧ I 0 0 ≤ m ∧ zS (I 2) 0 (I 0 0) ≤ L ∧ ∀ k, 0 ≤ k → k < I 0 0 → (0 ≤ I 1 k ∧ I 1 k ≤ 201) ∧ (1 ≤ I 2 k ∧ I 2 k ≤ 300) ∧ (0 ≤ I 3 k ∧ I 3 k ≤ 300) ∧ (0 ≤ I 4 k ∧ I 4 k ≤ 1)
/-- they lie in the reference's memory -/
def zIR (I : zSt) (M : Mem) : Prop := M 11 0 41 = I 0 0 ∧ ∀ k, 0 ≤ k → k < I 0 0 → M 86 0 k = I 1 k ∧ M 87 0 k = I 2 k ∧ M 88 0 k = I 3 k ∧ M 89 0 k = I 4 k
def zFI : Nat → Int → Bool := fun s k => (decide (86 ≤ s) && decide (s ≤ 89)) || (decide (s = 11) && decide (k = 41))
theorem zFI_in : ∀ s k, zin s k = true → zFI s k = false := by
  intro s k hz
  simp only [zin, Bool.or_eq_true, Bool.and_eq_true, decide_eq_true_eq] at hz
  simp only [zFI, Bool.or_eq_false_iff, Bool.and_eq_false_iff, decide_eq_false_iff_not]
  omega
theorem zFI_P : ∀ s k, zP s k = false → zFI s k = false := by
  intro s k hz
  simp only [zP, Bool.or_eq_false_iff, Bool.and_eq_false_iff, decide_eq_false_iff_not] at hz
  simp only [zFI, Bool.or_eq_false_iff, Bool.and_eq_false_iff, decide_eq_false_iff_not]
  omega
section RI
variable {T M : Mem}
theorem zat_r (T : Mem) (hG : Good T) : 0 ≤ zat T ∧ zat T ≤ 1 := by
  refine zF_ind (fun _ b => 0 ≤ b ∧ b ≤ 1) hG.nC.1 (by omega) (fun k v _ _ _ => ?_)
  show 0 ≤ (if ¬ v = 0 then (1 : Int) else if T 58 0 k = 0 then 0 else if ¬ T 59 0 k = 0 then 0 else 1) ∧ (if ¬ v = 0 then (1 : Int) else if T 58 0 k = 0 then 0 else if ¬ T 59 0 k = 0 then 0 else 1) ≤ 1
  split; omega; split; omega; split <;> omega
theorem znote_r (hG : Good T) {c : Int} (h0 : 0 ≤ c) (h1 : c < T 11 0 15) : 0 ≤ znote T c ∧ znote T c ≤ 3 := by
  obtain ⟨w1, w2, w3, w4, w5, w6, w7, w8, w9, w10, w11, w12⟩ := hG.cell c h0 h1
  unfold znote
  split <;> omega
theorem zrn_r (hG : Good T) {r n : Int} (n0 : 0 ≤ n) (n1 : n ≤ T 11 0 15) : 0 ≤ zrn T r n ∧ zrn T r n ≤ 3 * n := by
  have := zS_bd (f := fun c => if T 65 0 c = r then znote T c else 0) (a := 0) (b := n) 0 3 n0 (fun c a b => by
    have := znote_r hG a (by omega : c < T 11 0 15)
    show 0 ≤ (if T 65 0 c = r then znote T c else 0) ∧ (if T 65 0 c = r then znote T c else 0) ≤ 3
    split <;> omega)
  unfold zrn
  omega
/-- a body row by its place -/
theorem zbo_r (hG : Good T) {k : Int} (k0 : 0 ≤ k) (k1 : k < T 64 0 1) : 0 ≤ zbo T k ∧ zbo T k < T 11 0 8 ∧ T 60 0 (zbo T k) = 1 ∧ T 6 (zbo T k) 6 = k := by
  have o := hG.ord 1 k (by omega) (by omega) k0 k1
  exact ⟨o.1.1, o.1.2, o.2.1, o.2.2⟩
theorem zbo_of (hG : Good T) {r : Int} (r0 : 0 ≤ r) (r1 : r < T 11 0 8) (h : T 60 0 r = 1) : 0 ≤ T 6 r 6 ∧ T 6 r 6 < T 64 0 1 ∧ zbo T (T 6 r 6) = r := by
  obtain ⟨p1, -, -, p2, p3⟩ := hG.row r r0 r1
  rw [h] at p2 p3
  exact ⟨p2.1, p2.2, p3⟩
/-- all notes together: by rows, by cells -/
theorem zalln_eq (hG : Good T) : zalln T (T 64 0 1) = zS (znote T) 0 (T 11 0 15) := by
  have hK := hG.nK
  have hm := hG.many (p := 1) (by omega) (by omega)
  unfold zalln zrn
  rw [zS_comm (fun k c => if T 65 0 c = zbo T k then znote T c else 0) hm.1 hK.1]
  refine zS_congr (fun c c0 c1 => ?_)
  obtain ⟨w1, w2, w3, w4, w5, w6, w7, w8, w9, w10, w11, w12⟩ := hG.cell c c0 c1
  by_cases hp : T 60 0 (T 65 0 c) = 1
  · obtain ⟨b1, b2, b3⟩ := zbo_of hG w1.1 w1.2 hp
    refine (zS_congr (fun k k0 k1 => ?_)).trans (zS_one (a := 0) (b := T 64 0 1) (r0 := T 6 (T 65 0 c) 6) (v := znote T c) b1 b2)
    have z := zbo_r hG k0 k1
    by_cases hk : k = T 6 (T 65 0 c) 6
    · rw [if_pos hk, hk, b3, if_pos rfl]
    · rw [if_neg hk, if_neg (fun e => hk (by rw [e]; exact z.2.2.2.symm))]
  · have e0 : znote T c = 0 := by unfold znote; split; rfl; omega
    rw [e0]
    exact zS_zero (fun k _ _ => by split <;> rfl)
theorem zalln_r (hG : Good T) : 0 ≤ zalln T (T 64 0 1) ∧ zalln T (T 64 0 1) ≤ 300 := by
  have hK := hG.nK
  have := zS_bd (f := znote T) (a := 0) (b := T 11 0 15) 0 3 hK.1 (fun c a b => znote_r hG a b)
  rw [zalln_eq hG]
  omega
theorem zalln_n (hG : Good T) {n : Int} (n0 : 0 ≤ n) (n1 : n ≤ T 64 0 1) : 0 ≤ zalln T n ∧ zalln T n ≤ 300 := by
  have h := zalln_r hG
  have hK := hG.nK
  have nn : ∀ k, 0 ≤ zrn T k (T 11 0 15) := fun k => (zrn_r hG hK.1 (Int.le_refl _)).1
  have e := zS_split (fun k => zrn T (zbo T k) (T 11 0 15)) (a := 0) (m := n) (b := T 64 0 1) n0 n1
  have a1 := zS_nn (f := fun k => zrn T (zbo T k) (T 11 0 15)) (a := 0) (b := n) (fun k _ _ => nn _)
  have a2 := zS_nn (f := fun k => zrn T (zbo T k) (T 11 0 15)) (a := n) (b := T 64 0 1) (fun k _ _ => nn _)
  unfold zalln at h ⊢
  omega
/-- one more item -/
theorem zpush_0 (I : zSt) (c h n b : Int) : zpush I c h n b 0 0 = I 0 0 + 1 := by unfold zpush; rw [if_pos ⟨rfl, rfl⟩]
theorem zpush_at (I : zSt) (c h n b : Int) : zpush I c h n b 1 (I 0 0) = c ∧ zpush I c h n b 2 (I 0 0) = h ∧ zpush I c h n b 3 (I 0 0) = n ∧ zpush I c h n b 4 (I 0 0) = b := by
  unfold zpush
  refine ⟨?_, ?_, ?_, ?_⟩ <;> simp
theorem zpush_ne (I : zSt) (c h n b : Int) {s : Nat} {k : Int} (hs : s ≠ 0) (hk : k ≠ I 0 0) : zpush I c h n b s k = I s k := by
  unfold zpush
  rw [if_neg (by omega), if_neg (by omega), if_neg (by omega), if_neg (by omega), if_neg (by omega)]
theorem zIOK.push {I : zSt} {m L c h n b : Int} (H : zIOK I m L) (c0 : 0 ≤ c ∧ c ≤ 201) (h0 : 1 ≤ h ∧ h ≤ 300) (n0 : 0 ≤ n ∧ n ≤ 300) (b0 : 0 ≤ b ∧ b ≤ 1) : zIOK (zpush I c h n b) (m + 1) (L + h) := by
  obtain ⟨a1, a2, a3, a4⟩ := H
  obtain ⟨p1, p2, p3, p4⟩ := zpush_at I c h n b
  refine ⟨by rw [zpush_0]; omega, by rw [zpush_0]; omega, ?_, fun k k0 k1 => ?_⟩
  · rw [zpush_0, zS_succ _ a1, p2, zS_congr (g := I 2) (fun k _ k1 => zpush_ne I c h n b (by decide) (by omega))]
    omega
  · rw [zpush_0] at k1
    by_cases hk : k = I 0 0
    · rw [hk, p1, p2, p3, p4]; exact ⟨c0, h0, n0, b0⟩
    · rw [zpush_ne I c h n b (by decide) hk, zpush_ne I c h n b (by decide) hk, zpush_ne I c h n b (by decide) hk, zpush_ne I c h n b (by decide) hk]
      exact a4 k k0 (by omega)
theorem zIOK.more {I : zSt} {m m' L L' : Int} (H : zIOK I m L) (h1 : m ≤ m') (h2 : L ≤ L') : zIOK I m' L' := ⟨H.1, by have := H.2.1; omega, by have := H.2.2.1; omega, H.2.2.2⟩
theorem zpb_ok (hG : Good T) {k : Int} (k0 : 0 ≤ k) (k1 : k < T 64 0 1) {I : zSt} {m L : Int} (H : zIOK I m L) : zIOK (zpb T k I) (m + 1) (L + 24) := by
  have hR := hG.nR
  have hK := hG.nK
  obtain ⟨b1, b2, b3, b4⟩ := zbo_r hG k0 k1
  have hh := zht_r hG (zwid_r hG) _ b1 b2
  have hn := zrn_r hG (r := zbo T k) hK.1 (Int.le_refl _)
  obtain ⟨-, -, r1, -⟩ := hG.row _ b1 b2
  refine (H.push (by omega) (by omega) (by split <;> omega) r1).more (Int.le_refl _) (by omega)
theorem zib_ok (hG : Good T) {k : Int} (k0 : 0 ≤ k) (k1 : k < T 64 0 1) {I : zSt} {m L : Int} (H : zIOK I m L) : zIOK (zib T I k) (m + 2) (L + 25) := by
  have hR := hG.nR
  obtain ⟨b1, b2, b3, b4⟩ := zbo_r hG k0 k1
  have h1 := zpb_ok hG k0 k1 H
  unfold zib
  split
  · exact (h1.push (by omega) (by omega) (by omega) (by omega)).more (by omega) (by omega)
  · exact h1.more (by omega) (by omega)
theorem zi1_ok (hG : Good T) {n : Int} (n0 : 0 ≤ n) (n1 : n ≤ T 64 0 1) : zIOK (zi1 T n) (2 * n) (25 * n) := by
  refine zF_ind (fun n (I : zSt) => zIOK I (2 * n) (25 * n)) n0 ⟨by decide, by decide, by decide, fun k a b => absurd b (by show ¬ k < 0; omega)⟩ (fun k I a b H => ?_)
  exact (zib_ok hG a (by omega) H).more (by omega) (by omega)
theorem zi2_ok (hG : Good T) : zIOK (zi2 T) 49 601 := by
  have hm := hG.many (p := 1) (by omega) (by omega)
  have h1 := zi1_ok hG hm.1 (Int.le_refl _)
  unfold zi2
  split
  · exact h1.more (by omega) (by omega)
  · exact (h1.push (by omega) (by omega) (by omega) (by omega)).more (by omega) (by omega)
theorem zitm_ok (hG : Good T) : zIOK (zitm T) 50 901 := by
  have h := zi2_ok hG
  have hn := zalln_r hG
  unfold zitm
  split
  · exact (h.push (by omega) (by omega) (by omega) (by omega)).more (by omega) (by omega)
  · exact h.more (by omega) (by omega)
end RI
