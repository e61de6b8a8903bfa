/-! the pure part: calls that only ask, second part -/
/-- lines of pieces b up to e of one code -/
def zlb (S : zSt) (r b e : Int) : Int := zS (fun k => if ¬ S 1 k = r then 0 else S 4 k) b e
section GA
variable {T M : Mem} {O : zSt} {κ : Nat → Int} {K : (Nat → Int) → Mem → Prop} {p1 p2 : Int}
theorem q2_u {M M' : Mem} (h : Fj zQ2 M M') (c : Int) : Fj zQ2 M (up M' 11 0 59 c) := h.up (Or.inr (Or.inr (Or.inl ⟨rfl, Or.inr (Or.inr (Or.inr rfl))⟩)))
theorem zDR.s70 (d : zDR T M) : (¬ M 7 0 0 = 0 → zpg T 0 6 = 0) ∧ (M 7 0 0 = 0 → ¬ zpg T 0 6 = 0) := by
  have e := d.2.2.2.1.1
  refine ⟨fun h => ?_, fun h z => ?_⟩
  · by_cases z : zpg T 0 6 = 0
    · exact z
    · rw [if_neg z] at e; exact absurd e h
  · rw [if_pos z] at e; omega
theorem zDR.n (d : zDR T M) : M 7 0 1 = zpg T 0 1 := d.2.2.2.1.2.1
theorem zDR.cs (d : zDR T M) : zCS 0 (zpg T) M := ⟨⟨d.2.2.2.1.2.1, d.2.2.2.1.2.2.1, fun p a b => (d.2.2.2.1.2.2.2.2.2.1 p a b).1⟩, d.2.2.2.1.2.2.2.2.1⟩
theorem zPR.u {S : zSt} (h : zPR S M) (c : Int) : zPR S (up M 11 0 59 c) := by
  obtain ⟨a1, a2, a3, a4⟩ := h
  exact ⟨by rw [up_k _ _ _ _ _ _ (by decide)]; exact a1, by rw [up_k _ _ _ _ _ _ (by decide)]; exact a2, fun k a b => by rw [up_s _ _ _ _ (by decide), up_s _ _ _ _ (by decide), up_s _ _ _ _ (by decide), up_s _ _ _ _ (by decide)]; exact a3 k a b, fun p a b => by rw [up_s _ _ _ _ (by decide), up_s _ _ _ _ (by decide)]; exact a4 p a b⟩
theorem zHS.u (h : zHS T M) (c : Int) : zHS T (up M 11 0 59 c) := ⟨fun k a b => by rw [up_s _ _ _ _ (by decide), up_s _ _ _ _ (by decide), up_s _ _ _ _ (by decide), up_s _ _ _ _ (by decide)]; exact h.1 k a b, fun r a b => by rw [up_s _ _ _ _ (by decide)]; exact h.2 r a b⟩
/-- the end of a call: the reference's frame and what it says -/
theorem fin {M1 M2 : Mem} (h : Iv T O κ M) (hK : ∀ M', Iv T O κ M' → K κ M') (f1 : Fj zRF M M1) (d1 : M1 10 0 10 = 0 → zDR T M1) {r v : Int} (f2 : Fr zP (up M1 103 0 0 r) M2) (e : r = v) : up M2 11 0 59 0 11 0 59 = 0 ∧ ((0 : Int) = 0 → up M2 11 0 59 0 103 0 0 = v) ∧ K κ (up M2 11 0 59 0) := by
  refine ⟨up_eq _ _ _ _ _, fun _ => ?_, hK _ (h.q f1 d1 (q2_u ((q2_r _ _).tr (f2.j zP_q)) 0))⟩
  rw [up_s _ _ _ _ (by decide), f2 103 0 0 rfl, up_eq, e]
theorem finx {M1 M2 : Mem} (h : Iv T O κ M) (hK : ∀ M', Iv T O κ M' → K κ M') (f1 : Fj zRF M M1) (d1 : M1 10 0 10 = 0 → zDR T M1) {c v : Int} (hc : ¬ c = 0) (f2 : Fr zP M1 M2) : up M2 11 0 59 c 11 0 59 = c ∧ (c = 0 → up M2 11 0 59 c 103 0 0 = v) ∧ K κ (up M2 11 0 59 c) :=
  ⟨up_eq _ _ _ _ _, fun z => absurd z hc, hK _ (h.q f1 d1 (q2_u (f2.j zP_q) c))⟩
theorem finx0 (h : Iv T O κ M) (hK : ∀ M', Iv T O κ M' → K κ M') {c v : Int} (hc : ¬ c = 0) : up M 11 0 59 c 11 0 59 = c ∧ (c = 0 → up M 11 0 59 c 103 0 0 = v) ∧ K κ (up M 11 0 59 c) :=
  ⟨up_eq _ _ _ _ _, fun z => absurd z hc, hK _ (h.x c)⟩
theorem Iv.dr (h : Iv T O κ M) : M 10 0 10 = 0 → zDR T M := h.2.2.2.2.2.2.1
end GA
