/-! the pure part: look -/
noncomputable def zbt (P : Prop) : Int := @ite Int P (Classical.propDecidable P) 1 0
theorem zbt_1 {P : Prop} (h : P) : zbt P = 1 := if_pos h
theorem zbt_0 {P : Prop} (h : ¬ P) : zbt P = 0 := if_neg h
theorem zbt_r (P : Prop) : 0 ≤ zbt P ∧ zbt P ≤ 1 := by
  by_cases h : P
  · rw [zbt_1 h]; omega
  · rw [zbt_0 h]; omega
/-- pieces in the order of their pages -/
def zWF (S : zSt) : Prop := (0 ≤ S 0 0 ∧ S 0 0 ≤ 901) ∧ (0 ≤ S 0 1 ∧ S 0 1 ≤ 902) ∧ (∀ k, 0 ≤ k → k < S 0 0 → (0 ≤ S 2 k ∧ S 2 k < S 0 1) ∧ S 8 (S 2 k) ≤ k ∧ (S 2 k + 1 < S 0 1 → k < S 8 (S 2 k + 1))) ∧ (∀ p, 0 ≤ p → p < S 0 1 → 0 ≤ S 8 p ∧ S 8 p ≤ S 0 0 ∧ (p + 1 < S 0 1 → S 8 p ≤ S 8 (p + 1))) ∧ (∀ p, 0 ≤ p → p < S 0 1 → 0 ≤ S 6 p ∧ S 6 p ≤ 1000000)
def zend (S : zSt) (p : Int) : Int := if p + 1 < S 0 1 then S 8 (p + 1) else S 0 0
def zsame (S O : zSt) (p : Int) : Prop := zend S p - S 8 p = zend O p - O 8 p ∧ ∀ i, 0 ≤ i → i < zend S p - S 8 p → S 1 (S 8 p + i) = O 1 (O 8 p + i) ∧ S 3 (S 8 p + i) = O 3 (O 8 p + i) ∧ S 4 (S 8 p + i) = O 4 (O 8 p + i)
def ztt (T : Mem) (c : Int) : Int := if T 58 0 c = 0 then 0 else if ¬ T 59 0 c = 0 then 0 else 1
def zoc (T : Mem) (S O : zSt) (p c : Int) : Prop := ¬ ztt T c = O 10 c ∨ (¬ ztt T c = 0 ∧ (¬ zcar T S p c = O 9 (6 * p + c) ∨ (0 < p ∧ ¬ zcar T S (p - 1) c = O 9 (6 * (p - 1) + c))))
def zoth (T : Mem) (S O : zSt) (p : Int) : Prop := (¬ zsame S O p ∨ ¬ S 6 p = O 6 p) ∨ ∃ c, 0 ≤ c ∧ c < T 11 0 4 ∧ zoc T S O p c
def zOR (T : Mem) (O : zSt) (M : Mem) : Prop := M 11 0 54 = O 0 0 ∧ M 11 0 58 = O 0 1 ∧ (∀ k, 0 ≤ k → k < O 0 0 → M 96 0 k = O 1 k ∧ M 97 0 k = O 2 k ∧ M 98 0 k = O 3 k ∧ M 99 0 k = O 4 k) ∧ (∀ p, 0 ≤ p → p < O 0 1 → M 100 0 p = O 6 p) ∧ (∀ p c, 0 ≤ p → p < O 0 1 → 0 ≤ c → c < T 11 0 4 → M 101 0 (6 * p + c) = O 9 (6 * p + c)) ∧ (∀ c, 0 ≤ c → c < 6 → M 102 0 c = O 10 c)
noncomputable def zlk (T : Mem) (S O : zSt) (n : Int) : Int := (if S 0 1 ≤ O 0 1 then O 0 1 - S 0 1 else S 0 1 - O 0 1) + zS (fun p => zbt (zoth T S O p)) 0 n
/-- what is kept of a look -/
def zkeep (T : Mem) (S : zSt) : zSt := fun s k => if s = 9 then (if ztt T (k % 6) = 0 then 0 else zcar T S (k / 6) (k % 6)) else if s = 10 then (if 0 ≤ k ∧ k < T 11 0 4 then ztt T k else 0) else S s k
def zFO : Nat → Int → Bool := fun s k => (decide (96 ≤ s) && decide (s ≤ 102)) || (decide (s = 11) && (decide (k = 54) || decide (k = 58)))
theorem zFO_in : ∀ s k, zin s k = true → zFO s k = false := by
  intro s k hz
  simp only [zin, Bool.or_eq_true, Bool.and_eq_true, decide_eq_true_eq] at hz
  simp only [zFO, Bool.or_eq_false_iff, Bool.and_eq_false_iff, decide_eq_false_iff_not]
  omega
section RK
variable {T M : Mem}
theorem zPW.wf {S : zSt} (H : zPW T S) : zWF S := by
  obtain ⟨⟨a1, a2, a3, a4, a5⟩, b, c, d, e, f, g, m⟩ := H
  refine ⟨⟨by omega, by omega⟩, ⟨by omega, by omega⟩, fun k k0 k1 => ?_, m, fun p p0 p1 => ?_⟩
  · obtain ⟨x1, -, -, -, x5, x6⟩ := g k k0 k1
    exact ⟨x1, x5, x6⟩
  · have := f p p0 p1
    omega
theorem zfail_wf (S : zSt) : zWF (zfail S) := ⟨⟨by show (0 : Int) ≤ 0; omega, by show (0 : Int) ≤ 901; omega⟩, ⟨by show (0 : Int) ≤ 0; omega, by show (0 : Int) ≤ 902; omega⟩, fun k k0 k1 => absurd k1 (by show ¬ k < 0; omega), fun k k0 k1 => absurd k1 (by show ¬ k < 0; omega), fun k k0 k1 => absurd k1 (by show ¬ k < 0; omega)⟩
/-- the end: well-formed, whatever it is -/
theorem zpg_wf (hG : Good T) : zWF (zpg T) ∧ (zpg T 0 6 = 0 → 1 ≤ zpg T 0 1) ∧ (¬ zpg T 0 6 = 0 → zpg T 0 0 = 0 ∧ zpg T 0 1 = 0) := by
  by_cases h6 : zpg T 0 6 = 0
  · obtain ⟨-, H, -⟩ := zPX_ok hG h6
    exact ⟨H.wf, fun _ => H.1.2.1, fun h => absurd h6 h⟩
  · have z : ∀ (f : Nat) (S : zSt), zPW T S → ¬ zit T f S 0 6 = 0 → ∃ S', zit T f S = zfail S' := by
      intro f
      induction f with
      | zero => intro S H h; exact absurd H.2.2.2.2.1 h
      | succ f ih =>
        intro S H h
        by_cases hd : znn T ≤ S 0 4
        · rw [zit_done (Or.inr hd)] at h
          exact absurd H.2.2.2.2.1 h
        · rw [zit_go (by have := H.2.2.2.2.1; omega)] at h ⊢
          rcases (zstp_ok hG H (by omega)).1 with st | st
          · exact ih _ st h
          · rw [st, zit_done (Or.inl (by show ¬ (1 : Int) = 0; decide))]
            exact ⟨S, rfl⟩
    obtain ⟨S', e⟩ := z 1900 (zS0 T) (zPW_0 hG) h6
    have e : zpg T = zfail S' := e
    rw [e] at h6 ⊢
    exact ⟨zfail_wf S', fun h => absurd h h6, fun _ => ⟨rfl, rfl⟩⟩
theorem zWF.mono {S : zSt} (H : zWF S) {a b : Int} (a0 : 0 ≤ a) (ab : a ≤ b) (b1 : b < S 0 1) : S 8 a ≤ S 8 b := by
  have z : ∀ n : Nat, a + n < S 0 1 → S 8 a ≤ S 8 (a + n) := by
    intro n
    induction n with
    | zero => intro _; rw [show a + ((0 : Nat) : Int) = a by omega]; exact Int.le_refl _
    | succ n ih =>
      intro h
      have h1 := ih (by omega)
      have h2 := (H.2.2.2.1 (a + n) (by omega) (by omega)).2.2 (by omega)
      rw [show a + ((n + 1 : Nat) : Int) = a + n + 1 by omega]
      omega
  have := z (b - a).toNat (by omega)
  rw [show a + ((b - a).toNat : Int) = b by omega] at this
  exact this
theorem zWF.lt {S : zSt} (H : zWF S) {k p : Int} (k0 : 0 ≤ k) (k1 : k < S 0 0) (p1 : p < S 0 1) (h : S 2 k < p) : k < S 8 p := by
  obtain ⟨x1, x2, x3⟩ := H.2.2.1 k k0 k1
  have := H.mono (a := S 2 k + 1) (b := p) (by omega) (by omega) p1
  have := x3 (by omega)
  omega
theorem zWF.ge {S : zSt} (H : zWF S) {k p : Int} (k0 : 0 ≤ k) (k1 : k < S 0 0) (p0 : 0 ≤ p) (h : p ≤ S 2 k) : S 8 p ≤ k := by
  obtain ⟨x1, x2, x3⟩ := H.2.2.1 k k0 k1
  have := H.mono (a := p) (b := S 2 k) p0 h (by omega)
  omega
theorem zWF.end_r {S : zSt} (H : zWF S) {p : Int} (p0 : 0 ≤ p) (p1 : p < S 0 1) : 0 ≤ S 8 p ∧ S 8 p ≤ zend S p ∧ zend S p ≤ S 0 0 := by
  obtain ⟨a, b, c⟩ := H.2.2.2.1 p p0 p1
  unfold zend
  split
  · rename_i h
    have := H.2.2.2.1 (p + 1) (by omega) h
    exact ⟨a, c h, this.2.1⟩
  · exact ⟨a, b, Int.le_refl _⟩
theorem zWF.on {S : zSt} (H : zWF S) {k p : Int} (k0 : 0 ≤ k) (k1 : k < S 0 0) (p0 : 0 ≤ p) (p1 : p < S 0 1) : S 2 k = p ↔ (S 8 p ≤ k ∧ k < zend S p) := by
  refine ⟨fun h => ⟨H.ge k0 k1 p0 (by omega), ?_⟩, fun h => ?_⟩
  · unfold zend
    split
    · rename_i hp
      exact H.lt k0 k1 hp (by omega)
    · exact k1
  · by_cases h1 : S 2 k < p
    · have := H.lt k0 k1 p1 h1
      omega
    · by_cases h2 : p < S 2 k
      · have hx := (H.2.2.1 k k0 k1).1
        have := H.ge k0 k1 (p := p + 1) (by omega) (by omega)
        unfold zend at h
        rw [if_pos (by omega)] at h
        omega
      · omega
theorem q_hasOthers {S O : zSt} (hS : zWF S) (hO : zWF O) (hP : zPR S M) (hR : zOR T O M) {p : Int} (p0 : 0 ≤ p) (p1 : p < S 0 1) (p2 : p < O 0 1) {Qm : Int → Mem → Prop} (hy : ¬ zsame S O p → Qm 1 M) (hn : zsame S O p → Qm 0 M) : wp_X10_hasOthers p M Qm := by
  obtain ⟨s1, s2, s3, s4⟩ := hP
  obtain ⟨o1, o2, o3, -⟩ := hR
  have eS := hS.end_r p0 p1
  have eO := hO.end_r p0 p2
  have nS := hS.1
  have nO := hO.1
  -- the end of the comparison
  have hend : ∀ i, 0 ≤ i → i ≤ zend S p - S 8 p → i ≤ zend O p - O 8 p → (i = zend S p - S 8 p ∨ i = zend O p - O 8 p) → (∀ j, 0 ≤ j → j < i → S 1 (S 8 p + j) = O 1 (O 8 p + j) ∧ S 3 (S 8 p + j) = O 3 (O 8 p + j) ∧ S 4 (S 8 p + j) = O 4 (O 8 p + j)) → wp_X10_hasOthers_144 p Qm (S 8 p + i) (O 8 p + i) M := by
    intro i i0 i1 i2 i3 hj
    have hS2 : S 8 p + i < S 0 0 → (M 91 0 (S 8 p + i) = p ↔ S 8 p + i < zend S p) := fun h => by
      rw [(s3 _ (by omega) h).2.1, hS.on (by omega) h p0 p1]
      omega
    have hO2 : O 8 p + i < O 0 0 → (M 97 0 (O 8 p + i) = p ↔ O 8 p + i < zend O p) := fun h => by
      rw [(o3 _ (by omega) h).2.1, hO.on (by omega) h p0 p2]
      omega
    simp only [wp_X10_hasOthers_144, s1, o1]
    refine ⟨fun _ => ⟨fun _ => ⟨⟨by omega, by omega⟩, trivial⟩, trivial⟩, fun _ => ⟨⟨by omega, by omega⟩, fun _ => ⟨fun _ => ⟨⟨by omega, by omega⟩, trivial⟩, trivial⟩, trivial⟩, ?_⟩
    have key : ∀ v : Int, v = (if S 0 0 ≤ S 8 p + i then (if O 0 0 ≤ O 8 p + i then (0 : Int) else if ¬ M 97 0 (O 8 p + i) = p then 0 else 1) else if M 91 0 (S 8 p + i) = p then 1 else if O 0 0 ≤ O 8 p + i then 0 else if ¬ M 97 0 (O 8 p + i) = p then 0 else 1) → bit v ∧ Qm v M := by
      intro v ev
      by_cases hb : i = zend S p - S 8 p ∧ i = zend O p - O 8 p
      · have e0 : v = 0 := by
          rw [ev]
          have h1 : S 0 0 ≤ S 8 p + i ∨ (S 8 p + i < S 0 0 ∧ ¬ M 91 0 (S 8 p + i) = p) := by
            by_cases h : S 0 0 ≤ S 8 p + i
            · exact Or.inl h
            · exact Or.inr ⟨by omega, fun e => by have := (hS2 (by omega)).mp e; omega⟩
          have h2 : O 0 0 ≤ O 8 p + i ∨ (O 8 p + i < O 0 0 ∧ ¬ M 97 0 (O 8 p + i) = p) := by
            by_cases h : O 0 0 ≤ O 8 p + i
            · exact Or.inl h
            · exact Or.inr ⟨by omega, fun e => by have := (hO2 (by omega)).mp e; omega⟩
          rcases h1 with h1 | h1
          · rw [if_pos h1]
            rcases h2 with h2 | h2
            · rw [if_pos h2]
            · rw [if_neg (by omega), if_pos h2.2]
          · rw [if_neg (by omega), if_neg h1.2]
            rcases h2 with h2 | h2
            · rw [if_pos h2]
            · rw [if_neg (by omega), if_pos h2.2]
        rw [e0]
        refine ⟨bit_0, hn ⟨by omega, fun j j0 j1 => hj j j0 (by omega)⟩⟩
      · have e1 : v = 1 := by
          rw [ev]
          by_cases h1 : S 8 p + i < zend S p
          · rw [if_neg (by omega), if_pos ((hS2 (by omega)).mpr h1)]
          · have h2 : O 8 p + i < zend O p := by omega
            have h3 := (hO2 (by omega)).mpr h2
            by_cases h : S 0 0 ≤ S 8 p + i
            · rw [if_pos h, if_neg (by omega), if_neg (fun z => z h3)]
            · rw [if_neg h, if_neg (fun e => h1 ((hS2 (by omega)).mp e)), if_neg (by omega), if_neg (fun z => z h3)]
        rw [e1]
        refine ⟨bit_1, hy (fun z => ?_)⟩
        have := z.1
        omega
    exact key _ rfl
  -- the comparison
  have hcmp : ∃ n, wp_X10_hasOthers_52 p Qm n (S 8 p) (O 8 p) M := by
    have := zWhile (σ := Int) (fun n i => wp_X10_hasOthers_52 p Qm n (S 8 p + i) (O 8 p + i) M) (fun i => 0 ≤ i ∧ i ≤ zend S p - S 8 p ∧ i ≤ zend O p - O 8 p ∧ ∀ j, 0 ≤ j → j < i → S 1 (S 8 p + j) = O 1 (O 8 p + j) ∧ S 3 (S 8 p + j) = O 3 (O 8 p + j) ∧ S 4 (S 8 p + j) = O 4 (O 8 p + j)) (fun i => (zend S p - S 8 p - i).toNat) (fun n i hi ih => ?_) 0 ⟨by omega, by omega, by omega, fun j a b => absurd b (by omega)⟩
    · rw [Int.add_zero, Int.add_zero] at this
      exact this
    · obtain ⟨i0, i1, i2, hj⟩ := hi
      show wp_X10_hasOthers_52 p Qm (n + 1) (S 8 p + i) (O 8 p + i) M
      simp only [wp_X10_hasOthers_52, s1, o1]
      refine ⟨fun h => hend i i0 i1 i2 (by omega) hj, fun h => ⟨fun h' => hend i i0 i1 i2 (by omega) hj, fun h' => ⟨⟨by omega, by omega⟩, fun hx => hend i i0 i1 i2 ?_ hj, fun hx => ⟨⟨by omega, by omega⟩, fun hz => hend i i0 i1 i2 ?_ hj, fun hz => ?_⟩⟩⟩⟩
      · rw [(s3 _ (by omega) h).2.1, hS.on (by omega) h p0 p1] at hx
        omega
      · rw [(o3 _ (by omega) h').2.1, hO.on (by omega) h' p0 p2] at hz
        omega
      · obtain ⟨u1, u2, u3, u4⟩ := s3 _ (by omega) h
        obtain ⟨v1, v2, v3, v4⟩ := o3 _ (by omega) h'
        rw [u2, hS.on (by omega) h p0 p1] at hx
        rw [v2, hO.on (by omega) h' p0 p2] at hz
        have hno : ¬ (S 1 (S 8 p + i) = O 1 (O 8 p + i) ∧ S 3 (S 8 p + i) = O 3 (O 8 p + i) ∧ S 4 (S 8 p + i) = O 4 (O 8 p + i)) → ¬ zsame S O p := fun hh z => hh (z.2 i i0 (by omega))
        rw [u1, u3, u4, v1, v3, v4]
        refine ⟨⟨by omega, by omega⟩, ⟨by omega, by omega⟩, fun h1 => hy (hno (fun z => h1 z.1)), fun h1 => ⟨⟨by omega, by omega⟩, ⟨by omega, by omega⟩, fun h3 => hy (hno (fun z => h3 z.2.1)), fun h3 => ⟨⟨by omega, by omega⟩, ⟨by omega, by omega⟩, fun h4 => ⟨⟨by omega, by omega⟩, ⟨by omega, by omega⟩, ?_⟩, fun h4 => hy (hno (fun z => h4 z.2.2))⟩⟩⟩
        have := ih (i + 1) ⟨by omega, by omega, by omega, fun j j0 j1 => ?_⟩ (by omega)
        · rw [show S 8 p + i + 1 = S 8 p + (i + 1) by omega, show O 8 p + i + 1 = O 8 p + (i + 1) by omega]
          exact this
        · by_cases e : j = i
          · rw [e]; exact ⟨h1, h3, h4⟩
          · exact hj j j0 (by omega)
  -- up to the page in the old ones
  have hold : ∃ n, wp_X10_hasOthers_28 p Qm n (S 8 p) 0 M := by
    refine zWhile (σ := Int) (fun n y => wp_X10_hasOthers_28 p Qm n (S 8 p) y M) (fun y => 0 ≤ y ∧ y ≤ O 8 p) (fun y => (O 8 p - y).toNat) (fun n y hy' ih => ?_) 0 ⟨by omega, by omega⟩
    obtain ⟨y0, y1⟩ := hy'
    show wp_X10_hasOthers_28 p Qm (n + 1) (S 8 p) y M
    simp only [wp_X10_hasOthers_28, o1]
    refine ⟨fun h => ?_, fun h => ⟨⟨by omega, by omega⟩, fun hx => ?_, fun hx => ⟨⟨by omega, by omega⟩, ih (y + 1) ⟨by omega, ?_⟩ ?_⟩⟩⟩
    · have : y = O 8 p := by omega
      rw [this]; exact hcmp
    · rw [(o3 y y0 h).2.1] at hx
      have := hO.ge y0 h p0 hx
      have : y = O 8 p := by omega
      rw [this]; exact hcmp
    · rw [(o3 y y0 h).2.1] at hx
      have := hO.lt y0 h p2 hx
      omega
    · rw [(o3 y y0 h).2.1] at hx
      have := hO.lt y0 h p2 hx
      omega
  refine zWhile (σ := Int) (fun n y => wp_X10_hasOthers_4 p Qm n y 0 M) (fun y => 0 ≤ y ∧ y ≤ S 8 p) (fun y => (S 8 p - y).toNat) (fun n y hy' ih => ?_) 0 ⟨by omega, by omega⟩
  obtain ⟨y0, y1⟩ := hy'
  show wp_X10_hasOthers_4 p Qm (n + 1) y 0 M
  simp only [wp_X10_hasOthers_4, s1]
  refine ⟨fun h => ?_, fun h => ⟨⟨by omega, by omega⟩, fun hx => ?_, fun hx => ⟨⟨by omega, by omega⟩, ih (y + 1) ⟨by omega, ?_⟩ ?_⟩⟩⟩
  · have : y = S 8 p := by omega
    rw [this]; exact hold
  · rw [(s3 y y0 h).2.1] at hx
    have := hS.ge y0 h p0 hx
    have : y = S 8 p := by omega
    rw [this]; exact hold
  · rw [(s3 y y0 h).2.1] at hx
    have := hS.lt y0 h p1 hx
    omega
  · rw [(s3 y y0 h).2.1] at hx
    have := hS.lt y0 h p1 hx
    omega
theorem ztt_r (T : Mem) (c : Int) : bit (ztt T c) := by unfold ztt; split; exact bit_0; split; exact bit_0; exact bit_1
theorem q_isOther (hG : Good T) (hA : Ag T M) (h6 : zpg T 0 6 = 0) {O : zSt} (hO : zWF O) (hP : zPR (zpg T) M) (hR : zOR T O M) {p : Int} (p0 : 0 ≤ p) (p1 : p < zpg T 0 1) (p2 : p < O 0 1) {Qm : Int → Mem → Prop} (hq : Qm (zbt (zoth T (zpg T) O p)) M) : wp_X10_isOther p M Qm := by
  have hC := hG.nC
  have hS := (zpg_wf hG).1
  have hP' := hP
  have hR' := hR
  obtain ⟨s1, s2, s3, s4⟩ := hP
  obtain ⟨o1, o2, o3, o4, o5, o6⟩ := hR
  have nS := hS.2.1
  have e4 := hA.f4
  have e58 := hA.s58
  have e59 := hA.s59
  have es6 := (s4 p p0 p1).2
  have eo6 := o4 p p0 p2
  have hgo : ∀ v : Int, bit v → (¬ v = 0 ↔ (¬ zsame (zpg T) O p ∨ ¬ zpg T 6 p = O 6 p)) → ∃ n, wp_X10_isOther_31 p Qm n v 0 M := by
    intro v hv hvv
    refine zLoop (σ := Int) (fun n k s => wp_X10_isOther_31 p Qm n s k M) (fun y s => bit s ∧ (¬ s = 0 ↔ ((¬ zsame (zpg T) O p ∨ ¬ zpg T 6 p = O 6 p) ∨ ∃ c, 0 ≤ c ∧ c < y ∧ zoc T (zpg T) O p c))) (T 11 0 4) hC.1 ⟨hv, hvv.trans ⟨Or.inl, fun h => h.elim id (fun ⟨c, a, b, _⟩ => absurd b (by omega))⟩⟩ (fun n s hs => ?_) (fun n y s y0 y1 hs ih => ?_)
    · obtain ⟨b, hb⟩ := hs
      refine ⟨fun _ => ⟨b, ?_⟩, fun h => absurd h (by omega)⟩
      rcases b with b | b
      · rw [zbt_0 (P := zoth T (zpg T) O p) (fun z => absurd (hb.mpr z) (by omega))] at hq
        rw [b]; exact hq
      · rw [zbt_1 (P := zoth T (zpg T) O p) (hb.mp (by omega))] at hq
        rw [b]; exact hq
    · obtain ⟨b, hb⟩ := hs
      have b' := bit_r b
      have ett : (if T 58 0 y = 0 then (0 : Int) else if ¬ T 59 0 y = 0 then 0 else 1) = ztt T y := rfl
      have eo10 := o6 y y0 (by omega)
      have tb := bit_r (ztt_r T y)
      have h1 : (¬ s = 0 ∨ zoc T (zpg T) O p y) → wp_X10_isOther_31 p Qm n 1 (y + 1) M := fun hh => ih 1 ⟨bit_1, fun _ => by
        rcases hh with hh | hh
        · rcases hb.mp hh with hh | ⟨c, c0, c1, c2⟩
          · exact Or.inl hh
          · exact Or.inr ⟨c, c0, by omega, c2⟩
        · exact Or.inr ⟨y, y0, by omega, hh⟩, fun _ => by decide⟩
      have h0 : (s = 0 ∧ ¬ zoc T (zpg T) O p y) → wp_X10_isOther_31 p Qm n 0 (y + 1) M := fun hh => ih 0 ⟨bit_0, fun zz => absurd rfl zz, fun zz => by
        rcases zz with zz | ⟨c, c0, c1, c2⟩
        · exact absurd hh.1 (hb.mpr (Or.inl zz))
        · by_cases e : c = y
          · rw [e] at c2; exact absurd c2 hh.2
          · exact absurd hh.1 (hb.mpr (Or.inr ⟨c, c0, by omega, c2⟩))⟩
      · simp only [wp_X10_isOther_31, e4, e58, e59, ett, eo10]
        refine ⟨fun h => absurd h (by omega), fun _ => ⟨⟨by omega, by omega⟩, fun _ => ⟨⟨by omega, by omega⟩, trivial⟩, fun _ => ⟨⟨by omega, by omega⟩, trivial⟩, fun hx => ⟨⟨by omega, by omega⟩, h1 ?_⟩, fun hx => ?_⟩⟩
        · by_cases hs0 : s = 0
          · rw [if_neg (by omega)] at hx
            right
            left
            intro e
            rw [if_pos e] at hx
            exact hx rfl
          · exact Or.inl hs0
        · have hs0 : s = 0 := by
            by_cases z : s = 0
            · exact z
            · rw [if_pos z] at hx; exact absurd hx (by decide)
          have heq : ztt T y = O 10 y := by
            rw [if_neg (by omega)] at hx
            by_cases z : ztt T y = O 10 y
            · exact z
            · rw [if_neg z] at hx; exact absurd hx (by decide)
          refine ⟨fun ht => ⟨⟨by omega, by omega⟩, h0 ⟨hs0, ?_⟩⟩, fun ht => q_carries hG hA h6 hP' y0 (by omega) ?_⟩
          · rintro (z | z)
            · exact z heq
            · exact z.1 ht
          · rw [o5 p y p0 p2 y0 y1]
            refine ⟨⟨by omega, by omega⟩, ⟨by omega, by omega⟩, ⟨by omega, by omega⟩, fun hc => ⟨⟨by omega, by omega⟩, h1 (Or.inr (Or.inr ⟨ht, Or.inl hc⟩))⟩, fun hc => ⟨fun hp => ⟨⟨by omega, by omega⟩, h0 ⟨hs0, ?_⟩⟩, fun hp => ⟨⟨by omega, by omega⟩, q_carries hG hA h6 hP' y0 (by omega) ?_⟩⟩⟩
            · rintro (z | z)
              · exact z heq
              · rcases z.2 with z | z
                · exact z hc
                · omega
            · rw [o5 (p - 1) y (by omega) (by omega) y0 y1]
              refine ⟨⟨by omega, by omega⟩, ⟨by omega, by omega⟩, ⟨by omega, by omega⟩, ⟨by omega, by omega⟩, ⟨by omega, by omega⟩, ?_⟩
              by_cases hd : zcar T (zpg T) (p - 1) y = O 9 (6 * (p - 1) + y)
              · rw [if_pos hd]
                refine h0 ⟨hs0, ?_⟩
                rintro (z | z)
                · exact z heq
                · rcases z.2 with z | z
                  · exact z hc
                  · exact z.2 hd
              · rw [if_neg hd]
                exact h1 (Or.inr (Or.inr ⟨ht, Or.inr ⟨hp, hd⟩⟩))
  refine q_hasOthers hS hO hP' hR' p0 p1 p2 (fun h => ⟨fun z => absurd z (by decide), ?_⟩) (fun h => ⟨fun _ => ⟨⟨by omega, by omega⟩, ⟨by omega, by omega⟩, trivial⟩, ?_⟩)
  · rw [if_pos (by decide)]
    exact hgo 1 bit_1 ⟨fun _ => Or.inl h, fun _ => by decide⟩
  · rw [if_neg (by decide), es6, eo6]
    by_cases e : zpg T 6 p = O 6 p
    · rw [if_pos e]
      exact hgo 0 bit_0 ⟨fun z => absurd rfl z, fun z => z.elim (fun z => absurd h z) (fun z => absurd e z)⟩
    · rw [if_neg e]
      exact hgo 1 bit_1 ⟨fun _ => Or.inr e, fun _ => by decide⟩
end RK
