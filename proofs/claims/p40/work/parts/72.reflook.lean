/-! the pure part: look -/
noncomputable def zbt (P : Prop) : Int := @ite Int P (Classical.propDecidable P) 1 0
theorem zbt_1 {P : Prop} (h : P) : zbt P = 1 := if_pos h
theorem zbt_0 {P : Prop} (h : ¬ P) : zbt P = 0 := if_neg h
theorem zbt_r (P : Prop) : 0 ≤ zbt P ∧ zbt P ≤ 1 := by
  by_cases h : P
  · rw [zbt_1 h]; omega
  · rw [zbt_0 h]; omega
/-- pieces in the order of their pages -/
def zWF (S : zSt) : Prop := (0 ≤ S 0 0 ∧ S 0 0 ≤ 901) ∧ (0 ≤ S 0 1 ∧ S 0 1 ≤ 902) ∧ (∀ k, 0 ≤ k → k < S 0 0 → (0 ≤ S 2 k ∧ S 2 k < S 0 1) ∧ S 8 (S 2 k) ≤ k ∧ (S 2 k + 1 < S 0 1 → k < S 8 (S 2 k + 1))) ∧ (∀ p, 0 ≤ p → p < S 0 1 → 0 ≤ S 8 p ∧ S 8 p ≤ S 0 0 ∧ (p + 1 < S 0 1 → S 8 p ≤ S 8 (p + 1))) ∧ (∀ p, 0 ≤ p → p < S 0 1 → 0 ≤ S 6 p ∧ S 6 p ≤ 1000000)
def zend (S : zSt) (p : Int) : Int := if p + 1 < S 0 1 then S 8 (p + 1) else S 0 0
def zsame (S O : zSt) (p : Int) : Prop := zend S p - S 8 p = zend O p - O 8 p ∧ ∀ i, 0 ≤ i → i < zend S p - S 8 p → S 1 (S 8 p + i) = O 1 (O 8 p + i) ∧ S 3 (S 8 p + i) = O 3 (O 8 p + i) ∧ S 4 (S 8 p + i) = O 4 (O 8 p + i)
def ztt (T : Mem) (c : Int) : Int := if T 58 0 c = 0 then 0 else if ¬ T 59 0 c = 0 then 0 else 1
def zoc (T : Mem) (S O : zSt) (p c : Int) : Prop := ¬ ztt T c = O 10 c ∨ (¬ ztt T c = 0 ∧ (¬ zcar T S p c = O 9 (6 * p + c) ∨ (0 < p ∧ ¬ zcar T S (p - 1) c = O 9 (6 * (p - 1) + c))))
def zoth (T : Mem) (S O : zSt) (p : Int) : Prop := (¬ zsame S O p ∨ ¬ S 6 p = O 6 p) ∨ ∃ c, 0 ≤ c ∧ c < T 11 0 4 ∧ zoc T S O p c
def zOR (T : Mem) (O : zSt) (M : Mem) : Prop := M 11 0 54 = O 0 0 ∧ M 11 0 58 = O 0 1 ∧ (∀ k, 0 ≤ k → k < O 0 0 → M 96 0 k = O 1 k ∧ M 97 0 k = O 2 k ∧ M 98 0 k = O 3 k ∧ M 99 0 k = O 4 k) ∧ (∀ p, 0 ≤ p → p < O 0 1 → M 100 0 p = O 6 p) ∧ (∀ p c, 0 ≤ p → p < O 0 1 → 0 ≤ c → c < T 11 0 4 → M 101 0 (6 * p + c) = O 9 (6 * p + c)) ∧ (∀ c, 0 ≤ c → c < 6 → M 102 0 c = O 10 c)
noncomputable def zlk (T : Mem) (S O : zSt) (n : Int) : Int := (if S 0 1 ≤ O 0 1 then O 0 1 - S 0 1 else S 0 1 - O 0 1) + zS (fun p => zbt (zoth T S O p)) 0 n
/-- what is kept of a look -/
def zkeep (T : Mem) (S : zSt) : zSt := fun s k => if s = 9 then (if ztt T (k % 6) = 0 then 0 else zcar T S (k / 6) (k % 6)) else if s = 10 then (if 0 ≤ k ∧ k < T 11 0 4 then ztt T k else 0) else S s k
def zFO : Nat → Int → Bool := fun s k => (decide (96 ≤ s) && decide (s ≤ 102)) || (decide (s = 11) && (decide (k = 54) || decide (k = 58)))
theorem zFO_in : ∀ s k, zin s k = true → zFO s k = false := by
  intro s k hz
  simp only [zin, Bool.or_eq_true, Bool.and_eq_true, decide_eq_true_eq] at hz
  simp only [zFO, Bool.or_eq_false_iff, Bool.and_eq_false_iff, decide_eq_false_iff_not]
  omega
section RK
variable {T M : Mem}
theorem zPW.wf {S : zSt} (H : zPW T S) : zWF S := by
  obtain ⟨⟨a1, a2, a3, a4, a5⟩, b, c, d, e, f, g, m⟩ := H
  refine ⟨⟨by omega, by omega⟩, ⟨by omega, by omega⟩, fun k k0 k1 => ?_, m, fun p p0 p1 => ?_⟩
  · obtain ⟨x1, -, -, -, x5, x6⟩ := g k k0 k1
    exact ⟨x1, x5, x6⟩
  · have := f p p0 p1
    omega
theorem zfail_wf (S : zSt) : zWF (zfail S) := ⟨⟨by show (0 : Int) ≤ 0; omega, by show (0 : Int) ≤ 901; omega⟩, ⟨by show (0 : Int) ≤ 0; omega, by show (0 : Int) ≤ 902; omega⟩, fun k k0 k1 => absurd k1 (by show ¬ k < 0; omega), fun k k0 k1 => absurd k1 (by show ¬ k < 0; omega), fun k k0 k1 => absurd k1 (by show ¬ k < 0; omega)⟩
/-- the end: well-formed, whatever it is -/
theorem zpg_wf (hG : Good T) : zWF (zpg T) ∧ (zpg T 0 6 = 0 → 1 ≤ zpg T 0 1) ∧ (¬ zpg T 0 6 = 0 → zpg T 0 0 = 0 ∧ zpg T 0 1 = 0) := by
  by_cases h6 : zpg T 0 6 = 0
  · obtain ⟨-, H, -⟩ := zPX_ok hG h6
    exact ⟨H.wf, fun _ => H.1.2.1, fun h => absurd h6 h⟩
  · have z : ∀ (f : Nat) (S : zSt), zPW T S → ¬ zit T f S 0 6 = 0 → ∃ S', zit T f S = zfail S' := by
      intro f
      induction f with
      | zero => intro S H h; exact absurd H.2.2.2.2.1 h
      | succ f ih =>
        intro S H h
        by_cases hd : znn T ≤ S 0 4
        · rw [zit_done (Or.inr hd)] at h
          exact absurd H.2.2.2.2.1 h
        · rw [zit_go (by have := H.2.2.2.2.1; omega)] at h ⊢
          rcases (zstp_ok hG H (by omega)).1 with st | st
          · exact ih _ st h
          · rw [st, zit_done (Or.inl (by show ¬ (1 : Int) = 0; decide))]
            exact ⟨S, rfl⟩
    obtain ⟨S', e⟩ := z 1900 (zS0 T) (zPW_0 hG) h6
    have e : zpg T = zfail S' := e
    rw [e] at h6 ⊢
    exact ⟨zfail_wf S', fun h => absurd h h6, fun _ => ⟨rfl, rfl⟩⟩
theorem zWF.mono {S : zSt} (H : zWF S) {a b : Int} (a0 : 0 ≤ a) (ab : a ≤ b) (b1 : b < S 0 1) : S 8 a ≤ S 8 b := by
  have z : ∀ n : Nat, a + n < S 0 1 → S 8 a ≤ S 8 (a + n) := by
    intro n
    induction n with
    | zero => intro _; rw [show a + ((0 : Nat) : Int) = a by omega]; exact Int.le_refl _
    | succ n ih =>
      intro h
      have h1 := ih (by omega)
      have h2 := (H.2.2.2.1 (a + n) (by omega) (by omega)).2.2 (by omega)
      rw [show a + ((n + 1 : Nat) : Int) = a + n + 1 by omega]
      omega
  have := z (b - a).toNat (by omega)
  rw [show a + ((b - a).toNat : Int) = b by omega] at this
  exact this
theorem zWF.lt {S : zSt} (H : zWF S) {k p : Int} (k0 : 0 ≤ k) (k1 : k < S 0 0) (p1 : p < S 0 1) (h : S 2 k < p) : k < S 8 p := by
  obtain ⟨x1, x2, x3⟩ := H.2.2.1 k k0 k1
  have := H.mono (a := S 2 k + 1) (b := p) (by omega) (by omega) p1
  have := x3 (by omega)
  omega
theorem zWF.ge {S : zSt} (H : zWF S) {k p : Int} (k0 : 0 ≤ k) (k1 : k < S 0 0) (p0 : 0 ≤ p) (h : p ≤ S 2 k) : S 8 p ≤ k := by
  obtain ⟨x1, x2, x3⟩ := H.2.2.1 k k0 k1
  have := H.mono (a := p) (b := S 2 k) p0 h (by omega)
  omega
theorem zWF.end_r {S : zSt} (H : zWF S) {p : Int} (p0 : 0 ≤ p) (p1 : p < S 0 1) : 0 ≤ S 8 p ∧ S 8 p ≤ zend S p ∧ zend S p ≤ S 0 0 := by
  obtain ⟨a, b, c⟩ := H.2.2.2.1 p p0 p1
  unfold zend
  split
  · rename_i h
    have := H.2.2.2.1 (p + 1) (by omega) h
    exact ⟨a, c h, this.2.1⟩
  · exact ⟨a, b, Int.le_refl _⟩
theorem zWF.on {S : zSt} (H : zWF S) {k p : Int} (k0 : 0 ≤ k) (k1 : k < S 0 0) (p0 : 0 ≤ p) (p1 : p < S 0 1) : S 2 k = p ↔ (S 8 p ≤ k ∧ k < zend S p) := by
  refine ⟨fun h => ⟨H.ge k0 k1 p0 (by omega), ?_⟩, fun h => ?_⟩
  · unfold zend
    split
    · rename_i hp
      exact H.lt k0 k1 hp (by omega)
    · exact k1
  · by_cases h1 : S 2 k < p
    · have := H.lt k0 k1 p1 h1
      omega
    · by_cases h2 : p < S 2 k
      · have hx := (H.2.2.1 k k0 k1).1
        have := H.ge k0 k1 (p := p + 1) (by omega) (by omega)
        unfold zend at h
        rw [if_pos (by omega)] at h
        omega
      · omega
theorem ztt_r (T : Mem) (c : Int) : bit (ztt T c) := by unfold ztt; split; exact bit_0; split; exact bit_0; exact bit_1
end RK
