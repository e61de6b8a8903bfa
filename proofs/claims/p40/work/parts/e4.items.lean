/-! pages: which things the reference's items are -/
def zext (I I' : zSt) : Prop := 0 ≤ I 0 0 ∧ I 0 0 ≤ I' 0 0 ∧ ∀ (s : Nat) (k : Int), (s = 1 ∨ s = 2 ∨ s = 3 ∨ s = 4) → 0 ≤ k → k < I 0 0 → I' s k = I s k
section ED
variable {T : Mem}
theorem zext.rf {I : zSt} (h : 0 ≤ I 0 0) : zext I I := ⟨h, Int.le_refl _, fun _ _ _ _ _ => rfl⟩
theorem zext.tr {I J K : zSt} (a : zext I J) (b : zext J K) : zext I K := ⟨a.1, Int.le_trans a.2.1 b.2.1, fun s k hs k0 k1 => (b.2.2 s k hs k0 (Int.lt_of_lt_of_le k1 a.2.1)).trans (a.2.2 s k hs k0 k1)⟩
theorem zpush_at2 {I : zSt} {c h n b : Int} : zpush I c h n b 0 0 = I 0 0 + 1 ∧ zpush I c h n b 1 (I 0 0) = c ∧ zpush I c h n b 2 (I 0 0) = h ∧ zpush I c h n b 3 (I 0 0) = n ∧ zpush I c h n b 4 (I 0 0) = b := by
  unfold zpush
  refine ⟨if_pos ⟨rfl, rfl⟩, ?_, ?_, ?_, ?_⟩
  · rw [if_neg (fun z => absurd z.1 (by decide)), if_pos ⟨rfl, rfl⟩]
  · rw [if_neg (fun z => absurd z.1 (by decide)), if_neg (fun z => absurd z.1 (by decide)), if_pos ⟨rfl, rfl⟩]
  · rw [if_neg (fun z => absurd z.1 (by decide)), if_neg (fun z => absurd z.1 (by decide)), if_neg (fun z => absurd z.1 (by decide)), if_pos ⟨rfl, rfl⟩]
  · rw [if_neg (fun z => absurd z.1 (by decide)), if_neg (fun z => absurd z.1 (by decide)), if_neg (fun z => absurd z.1 (by decide)), if_neg (fun z => absurd z.1 (by decide)), if_pos ⟨rfl, rfl⟩]
theorem zext.ps {I : zSt} (h0 : 0 ≤ I 0 0) (c h n b : Int) : zext I (zpush I c h n b) := by
  refine ⟨h0, by rw [zpush_at2.1]; omega, fun s k hs k0 k1 => ?_⟩
  unfold zpush
  rw [if_neg (by omega), if_neg (by omega), if_neg (by omega), if_neg (by omega), if_neg (by omega)]
theorem zpb_ext {I : zSt} (h0 : 0 ≤ I 0 0) (k : Int) : zext I (zpb T k I) ∧ 0 ≤ zpb T k I 0 0 := by
  have := zext.ps h0 (zbo T k) (zht T (zwid T) (zbo T k)) (if T 11 0 26 = 0 then zrn T (zbo T k) (T 11 0 15) else 0) (T 62 0 (zbo T k))
  exact ⟨this, Int.le_trans this.1 this.2.1⟩
theorem zib_ext {I : zSt} (h0 : 0 ≤ I 0 0) (k : Int) : zext (zpb T k I) (zib T I k) ∧ 0 ≤ zib T I k 0 0 := by
  have hp := (zpb_ext (T := T) h0 k).2
  unfold zib
  split
  · have := zext.ps hp (100 + zbo T k) 1 0 0
    exact ⟨this, Int.le_trans this.1 this.2.1⟩
  · exact ⟨zext.rf hp, hp⟩
theorem zi1_s {k : Int} (k0 : 0 ≤ k) : zi1 T (k + 1) = zib T (zi1 T k) k := zF_succ _ _ k0
theorem zi1_nn {k : Int} (k0 : 0 ≤ k) : 0 ≤ zi1 T k 0 0 := zF_ind (fun (_ : Int) (I : zSt) => 0 ≤ I 0 0) k0 (Int.le_refl _) (fun i I _ _ h => (zib_ext h i).2)
theorem zi1_ext {a : Int} (a0 : 0 ≤ a) : ∀ n : Nat, zext (zi1 T a) (zi1 T (a + n)) := by
  intro n
  induction n with
  | zero => rw [show a + ((0 : Nat) : Int) = a by omega]; exact zext.rf (zi1_nn a0)
  | succ n ih =>
    rw [show a + ((n + 1 : Nat) : Int) = (a + n) + 1 by omega, zi1_s (by omega)]
    exact (ih.tr (zpb_ext (zi1_nn (by omega)) _).1).tr (zib_ext (zi1_nn (by omega)) _).1
theorem zi2_ext (hG : Good T) : zext (zi1 T (T 64 0 1)) (zi2 T) := by
  have hm := (hG.many (p := 1) (by decide) (by decide)).1
  unfold zi2
  split
  · exact zext.rf (zi1_nn hm)
  · exact zext.ps (zi1_nn hm) _ _ _ _
theorem zi2_nn (hG : Good T) : 0 ≤ zi2 T 0 0 := Int.le_trans (zi2_ext hG).1 (zi2_ext hG).2.1
theorem zitm_ext (hG : Good T) : zext (zi2 T) (zitm T) := by
  unfold zitm
  split
  · exact zext.ps (zi2_nn hG) _ _ _ _
  · exact zext.rf (zi2_nn hG)
theorem zi1_itm (hG : Good T) {k : Int} (k0 : 0 ≤ k) (k1 : k ≤ T 64 0 1) : zext (zi1 T k) (zitm T) := by
  have := zi1_ext (T := T) k0 (T 64 0 1 - k).toNat
  rw [show k + ((T 64 0 1 - k).toNat : Int) = T 64 0 1 by omega] at this
  exact (this.tr (zi2_ext hG)).tr (zitm_ext hG)
/-- a body row's own item -/
theorem zitm_row (hG : Good T) {k : Int} (k0 : 0 ≤ k) (k1 : k < T 64 0 1) : (0 ≤ zi1 T k 0 0 ∧ zi1 T k 0 0 < znn T) ∧ zcd T (zi1 T k 0 0) = zbo T k ∧ zhg T (zi1 T k 0 0) = zhH T (zbo T k) ∧ znt T (zi1 T k 0 0) = (if T 11 0 26 = 0 then zrn T (zbo T k) (T 11 0 15) else 0) ∧ zbr T (zi1 T k 0 0) = T 62 0 (zbo T k) := by
  have hn := zi1_nn (T := T) k0
  have e := (zib_ext (T := T) hn k).1
  rw [← zi1_s k0] at e
  have x := e.tr (zi1_itm hG (k := k + 1) (by omega) (by omega))
  obtain ⟨p0, p1, p2, p3, p4⟩ := zpush_at2 (I := zi1 T k) (c := zbo T k) (h := zht T (zwid T) (zbo T k)) (n := if T 11 0 26 = 0 then zrn T (zbo T k) (T 11 0 15) else 0) (b := T 62 0 (zbo T k))
  have p0 : zpb T k (zi1 T k) 0 0 = zi1 T k 0 0 + 1 := p0
  have hlt : zi1 T k 0 0 < zpb T k (zi1 T k) 0 0 := by omega
  refine ⟨⟨hn, Int.lt_of_lt_of_le hlt x.2.1⟩, (x.2.2 1 _ (by decide) hn hlt).trans p1, (x.2.2 2 _ (by decide) hn hlt).trans p2, (x.2.2 3 _ (by decide) hn hlt).trans p3, (x.2.2 4 _ (by decide) hn hlt).trans p4⟩
/-- how many items lie before the next row: the run's sum between -/
theorem zi1_next {k : Int} (k0 : 0 ≤ k) : zi1 T (k + 1) 0 0 = zi1 T k 0 0 + 1 + (if ¬ zat T = 0 ∧ ¬ zends T k = 0 ∧ ¬ T 61 0 (zbo T k) = 0 then 1 else 0) := by
  rw [zi1_s k0]
  have p0 : zpb T k (zi1 T k) 0 0 = zi1 T k 0 0 + 1 := zpush_at2.1
  unfold zib
  by_cases h : ¬ zat T = 0 ∧ ¬ zends T k = 0 ∧ ¬ T 61 0 (zbo T k) = 0
  · rw [if_pos h, if_pos h, zpush_at2.1, p0]
  · rw [if_neg h, if_neg h, p0]; omega
/-- a run's sum -/
theorem zitm_sub (hG : Good T) {k : Int} (k0 : 0 ≤ k) (k1 : k < T 64 0 1) (h : ¬ zat T = 0 ∧ ¬ zends T k = 0 ∧ ¬ T 61 0 (zbo T k) = 0) : (0 ≤ zi1 T k 0 0 + 1 ∧ zi1 T k 0 0 + 1 < znn T) ∧ zcd T (zi1 T k 0 0 + 1) = 100 + zbo T k ∧ zhg T (zi1 T k 0 0 + 1) = 1 ∧ znt T (zi1 T k 0 0 + 1) = 0 ∧ zbr T (zi1 T k 0 0 + 1) = 0 := by
  have hn := zi1_nn (T := T) k0
  have p0 : zpb T k (zi1 T k) 0 0 = zi1 T k 0 0 + 1 := zpush_at2.1
  have x := zi1_itm hG (k := k + 1) (by omega) (by omega)
  have e : zi1 T (k + 1) = zpush (zpb T k (zi1 T k)) (100 + zbo T k) 1 0 0 := by
    rw [zi1_s k0]
    exact if_pos h
  obtain ⟨q0, q1, q2, q3, q4⟩ := zpush_at2 (I := zpb T k (zi1 T k)) (c := 100 + zbo T k) (h := 1) (n := 0) (b := 0)
  rw [← e, p0] at q0 q1 q2 q3 q4
  have hlt : zi1 T k 0 0 + 1 < zi1 T (k + 1) 0 0 := by omega
  have h1 : 0 ≤ zi1 T k 0 0 + 1 := by omega
  exact ⟨⟨h1, Int.lt_of_lt_of_le hlt x.2.1⟩, (x.2.2 1 _ (by decide) h1 hlt).trans q1, (x.2.2 2 _ (by decide) h1 hlt).trans q2, (x.2.2 3 _ (by decide) h1 hlt).trans q3, (x.2.2 4 _ (by decide) h1 hlt).trans q4⟩
end ED
