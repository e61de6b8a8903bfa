/-! pages: the items behind all rows -/
section EE
variable {T : Mem}
theorem zi2_n : zi2 T 0 0 = zi1 T (T 64 0 1) 0 0 + (if zat T = 0 then 0 else 1) := by
  unfold zi2
  by_cases h : zat T = 0
  · rw [if_pos h, if_pos h]; omega
  · rw [if_neg h, if_neg h, zpush_at2.1]
theorem znn_n : znn T = zi2 T 0 0 + (if ¬ T 11 0 26 = 0 ∧ 0 < zalln T (T 64 0 1) then 1 else 0) := by
  unfold znn zitm
  by_cases h : ¬ T 11 0 26 = 0 ∧ 0 < zalln T (T 64 0 1)
  · rw [if_pos h, if_pos h, zpush_at2.1]
  · rw [if_neg h, if_neg h]; omega
theorem zitm_tot (hG : Good T) (h : ¬ zat T = 0) : (0 ≤ zi1 T (T 64 0 1) 0 0 ∧ zi1 T (T 64 0 1) 0 0 < znn T) ∧ zcd T (zi1 T (T 64 0 1) 0 0) = 200 ∧ zhg T (zi1 T (T 64 0 1) 0 0) = 1 ∧ znt T (zi1 T (T 64 0 1) 0 0) = 0 ∧ zbr T (zi1 T (T 64 0 1) 0 0) = 0 := by
  have hm := (hG.many (p := 1) (by decide) (by decide)).1
  have hn := zi1_nn (T := T) hm
  have x := zitm_ext hG
  have e : zi2 T = zpush (zi1 T (T 64 0 1)) 200 1 0 0 := if_neg h
  obtain ⟨q0, q1, q2, q3, q4⟩ := zpush_at2 (I := zi1 T (T 64 0 1)) (c := 200) (h := 1) (n := 0) (b := 0)
  rw [← e] at q0 q1 q2 q3 q4
  have hlt : zi1 T (T 64 0 1) 0 0 < zi2 T 0 0 := by omega
  exact ⟨⟨hn, Int.lt_of_lt_of_le hlt x.2.1⟩, (x.2.2 1 _ (by decide) hn hlt).trans q1, (x.2.2 2 _ (by decide) hn hlt).trans q2, (x.2.2 3 _ (by decide) hn hlt).trans q3, (x.2.2 4 _ (by decide) hn hlt).trans q4⟩
theorem zitm_end (hG : Good T) (h : ¬ T 11 0 26 = 0 ∧ 0 < zalln T (T 64 0 1)) : (0 ≤ zi2 T 0 0 ∧ zi2 T 0 0 < znn T) ∧ zcd T (zi2 T 0 0) = 201 ∧ zhg T (zi2 T 0 0) = zalln T (T 64 0 1) ∧ znt T (zi2 T 0 0) = 0 ∧ zbr T (zi2 T 0 0) = 1 := by
  have hn := zi2_nn hG
  have e : zitm T = zpush (zi2 T) 201 (zalln T (T 64 0 1)) 0 1 := if_pos h
  have en := znn_n (T := T)
  rw [if_pos h] at en
  obtain ⟨q0, q1, q2, q3, q4⟩ := zpush_at2 (I := zi2 T) (c := 201) (h := zalln T (T 64 0 1)) (n := 0) (b := 1)
  rw [← e] at q0 q1 q2 q3 q4
  exact ⟨⟨hn, by omega⟩, q1, q2, q3, q4⟩
end EE
