/-! the pure part: folds, sums, loops -/
def zFd {α : Type} (g : α → Int → α) (x : α) (a : Int) : Nat → α
  | 0 => x
  | n + 1 => g (zFd g x a n) (a + n)
def zF {α : Type} (g : α → Int → α) (x : α) (a b : Int) : α := zFd g x a (b - a).toNat
theorem zF_self {α : Type} (g : α → Int → α) (x : α) {a b : Int} (h : b ≤ a) : zF g x a b = x := by
  have e : (b - a).toNat = 0 := by omega
  unfold zF
  rw [e]
  rfl
theorem zF_succ {α : Type} (g : α → Int → α) (x : α) {a b : Int} (h : a ≤ b) : zF g x a (b + 1) = g (zF g x a b) b := by
  have e : (b + 1 - a).toNat = (b - a).toNat + 1 := by omega
  have e2 : a + ((b - a).toNat : Int) = b := by omega
  unfold zF
  rw [e]
  show g (zFd g x a (b - a).toNat) (a + ((b - a).toNat : Int)) = _
  rw [e2]
theorem zF_ind {α : Type} {g : α → Int → α} {x : α} {a b : Int} (P : Int → α → Prop) (h : a ≤ b) (h0 : P a x) (hs : ∀ k v, a ≤ k → k < b → P k v → P (k + 1) (g v k)) : P b (zF g x a b) := by
  have z : ∀ n : Nat, a + n ≤ b → P (a + n) (zFd g x a n) := by
    intro n
    induction n with
    | zero => intro _; rw [show a + ((0 : Nat) : Int) = a by omega]; exact h0
    | succ n ih =>
      intro hn
      have := hs (a + n) _ (by omega) (by omega) (ih (by omega))
      rw [show a + ((n + 1 : Nat) : Int) = a + n + 1 by omega]
      exact this
  have := z (b - a).toNat (by omega)
  rw [show a + ((b - a).toNat : Int) = b by omega] at this
  exact this
theorem zF_congr {α : Type} {g g' : α → Int → α} {x : α} {a b : Int} (h : ∀ k v, a ≤ k → k < b → g v k = g' v k) : zF g x a b = zF g' x a b := by
  by_cases hab : a ≤ b
  · have z : ∀ n : Nat, a + n ≤ b → zFd g x a n = zFd g' x a n := by
      intro n
      induction n with
      | zero => intro _; rfl
      | succ n ih =>
        intro hn
        show g _ _ = g' _ _
        rw [ih (by omega), h _ _ (by omega) (by omega)]
    exact z _ (by omega)
  · rw [zF_self _ _ (by omega), zF_self _ _ (by omega)]
/-- two folds side by side -/
theorem zF_ind2 {α β : Type} {g : α → Int → α} {g' : β → Int → β} {x : α} {x' : β} {a b : Int} (P : Int → α → β → Prop) (h : a ≤ b) (h0 : P a x x') (hs : ∀ k v v', a ≤ k → k < b → P k v v' → P (k + 1) (g v k) (g' v' k)) : P b (zF g x a b) (zF g' x' a b) := by
  have z : ∀ n : Nat, a + n ≤ b → P (a + n) (zFd g x a n) (zFd g' x' a n) := by
    intro n
    induction n with
    | zero => intro _; rw [show a + ((0 : Nat) : Int) = a by omega]; exact h0
    | succ n ih =>
      intro hn
      have := hs (a + n) _ _ (by omega) (by omega) (ih (by omega))
      rw [show a + ((n + 1 : Nat) : Int) = a + n + 1 by omega]
      exact this
  have := z (b - a).toNat (by omega)
  rw [show a + ((b - a).toNat : Int) = b by omega] at this
  exact this
def zS (f : Int → Int) (a b : Int) : Int := zF (fun s k => s + f k) 0 a b
theorem zS_self (f : Int → Int) {a b : Int} (h : b ≤ a) : zS f a b = 0 := zF_self _ _ h
theorem zS_succ (f : Int → Int) {a b : Int} (h : a ≤ b) : zS f a (b + 1) = zS f a b + f b := zF_succ _ _ h
theorem zS_ind {f : Int → Int} {a b : Int} (P : Int → Int → Prop) (h : a ≤ b) (h0 : P a 0) (hs : ∀ k v, a ≤ k → k < b → P k v → P (k + 1) (v + f k)) : P b (zS f a b) := zF_ind P h h0 hs
theorem zS_congr {f g : Int → Int} {a b : Int} (h : ∀ k, a ≤ k → k < b → f k = g k) : zS f a b = zS g a b := zF_congr (fun k v h0 h1 => by rw [h k h0 h1])
theorem zS_bd {f : Int → Int} {a b : Int} (lo hi : Int) (hab : a ≤ b) (h : ∀ k, a ≤ k → k < b → lo ≤ f k ∧ f k ≤ hi) : lo * (b - a) ≤ zS f a b ∧ zS f a b ≤ hi * (b - a) := by
  refine zS_ind (fun k v => lo * (k - a) ≤ v ∧ v ≤ hi * (k - a)) hab (by simp) (fun k v h0 h1 hv => ?_)
  have := h k h0 h1
  have e1 : lo * (k + 1 - a) = lo * (k - a) + lo := by rw [show k + 1 - a = (k - a) + 1 by omega, Int.mul_add, Int.mul_one]
  have e2 : hi * (k + 1 - a) = hi * (k - a) + hi := by rw [show k + 1 - a = (k - a) + 1 by omega, Int.mul_add, Int.mul_one]
  omega
theorem zS_nn {f : Int → Int} {a b : Int} (h : ∀ k, a ≤ k → k < b → 0 ≤ f k) : 0 ≤ zS f a b := by
  by_cases hab : a ≤ b
  · exact zS_ind (fun _ v => 0 ≤ v) hab (by omega) (fun k v h0 h1 hv => by have := h k h0 h1; omega)
  · rw [zS_self _ (by omega)]; omega
theorem zS_zero {f : Int → Int} {a b : Int} (h : ∀ k, a ≤ k → k < b → f k = 0) : zS f a b = 0 := by
  by_cases hab : a ≤ b
  · exact zS_ind (fun _ v => v = 0) hab rfl (fun k v h0 h1 hv => by have := h k h0 h1; omega)
  · exact zS_self _ (by omega)
theorem zS_add (f g : Int → Int) (a b : Int) : zS (fun k => f k + g k) a b = zS f a b + zS g a b := by
  by_cases hab : a ≤ b
  · have z : ∀ n : Nat, a + n ≤ b → zS (fun k => f k + g k) a (a + n) = zS f a (a + n) + zS g a (a + n) := by
      intro n
      induction n with
      | zero => intro _; rw [zS_self _ (by omega), zS_self _ (by omega), zS_self _ (by omega)]; rfl
      | succ n ih =>
        intro hn
        have := ih (by omega)
        rw [show a + ((n + 1 : Nat) : Int) = a + n + 1 by omega, zS_succ _ (by omega), zS_succ _ (by omega), zS_succ _ (by omega), this]
        omega
    have := z (b - a).toNat (by omega)
    rw [show a + ((b - a).toNat : Int) = b by omega] at this
    exact this
  · rw [zS_self _ (by omega), zS_self _ (by omega), zS_self _ (by omega)]; rfl
theorem zS_split (f : Int → Int) {a m b : Int} (h1 : a ≤ m) (h2 : m ≤ b) : zS f a b = zS f a m + zS f m b := by
  have z : ∀ n : Nat, m + n ≤ b → zS f a (m + n) = zS f a m + zS f m (m + n) := by
    intro n
    induction n with
    | zero => intro _; rw [zS_self f (a := m) (by omega)]; simp
    | succ n ih =>
      intro hn
      have := ih (by omega)
      rw [show m + ((n + 1 : Nat) : Int) = m + n + 1 by omega, zS_succ _ (by omega), zS_succ _ (by omega), this]
      omega
  have := z (b - m).toNat (by omega)
  rw [show m + ((b - m).toNat : Int) = b by omega] at this
  exact this
/-- one of them -/
theorem zS_le_of_mem {f : Int → Int} {a b i : Int} (h : ∀ k, a ≤ k → k < b → 0 ≤ f k) (h1 : a ≤ i) (h2 : i < b) : f i ≤ zS f a b := by
  rw [zS_split f (a := a) (m := i) (b := b) h1 (by omega), zS_split f (a := i) (m := i + 1) (b := b) (by omega) (by omega), zS_succ f (a := i) (b := i) (by omega), zS_self f (a := i) (b := i) (by omega)]
  have := zS_nn (f := f) (a := a) (b := i) (fun k x y => h k x (by omega))
  have := zS_nn (f := f) (a := i + 1) (b := b) (fun k x y => h k (by omega) y)
  omega
theorem zS_one {a b r0 v : Int} (h1 : a ≤ r0) (h2 : r0 < b) : zS (fun r => if r = r0 then v else 0) a b = v := by
  have e1 : zS (fun r => if r = r0 then v else 0) a r0 = 0 := zS_zero (fun k x y => if_neg (by omega))
  have e2 : zS (fun r => if r = r0 then v else 0) (r0 + 1) b = 0 := zS_zero (fun k x y => if_neg (by omega))
  have e3 : zS (fun r => if r = r0 then v else 0) r0 (r0 + 1) = v := by
    rw [zS_succ _ (Int.le_refl r0), zS_self _ (Int.le_refl r0), if_pos rfl]; omega
  rw [zS_split _ (a := a) (m := r0) (b := b) h1 (by omega), zS_split _ (a := r0) (m := r0 + 1) (b := b) (by omega) (by omega), e1, e2, e3]
  omega
theorem zS_comm (f : Int → Int → Int) {a b c d : Int} (h1 : a ≤ b) (h2 : c ≤ d) : zS (fun i => zS (fun j => f i j) c d) a b = zS (fun j => zS (fun i => f i j) a b) c d := by
  have z : ∀ n : Nat, a + n ≤ b → zS (fun i => zS (fun j => f i j) c d) a (a + n) = zS (fun j => zS (fun i => f i j) a (a + n)) c d := by
    intro n
    induction n with
    | zero =>
      intro _
      rw [zS_self _ (by omega)]
      exact (zS_zero (fun k _ _ => zS_self _ (by omega))).symm
    | succ n ih =>
      intro hn
      have e := ih (by omega)
      rw [show a + ((n + 1 : Nat) : Int) = a + n + 1 by omega, zS_succ _ (by omega), e, ← zS_add]
      exact zS_congr (fun k _ _ => (zS_succ _ (by omega)).symm)
  have := z (b - a).toNat (by omega)
  rw [show a + ((b - a).toNat : Int) = b by omega] at this
  exact this
theorem up_ne59 (M : Mem) (j k v : Int) : up M 82 j k v 59 = M 59 := funext fun _ => funext fun _ => up_s M j k v (by decide) _ _
theorem zS_mul (f : Int → Int) (a b : Int) (c : Int) : zS (fun k => c * f k) a b = c * zS f a b := by
  by_cases hab : a ≤ b
  · refine (zF_ind2 (g := fun s k => s + f k) (g' := fun s k => s + c * f k) (x := (0 : Int)) (x' := (0 : Int)) (fun _ v v' => c * v = v') hab (by simp) (fun k v v' _ _ h => ?_)).symm
    show c * (v + f k) = v' + c * f k
    rw [Int.mul_add, h]
  · rw [zS_self _ (by omega), zS_self _ (by omega)]; simp
/-! loops -/
theorem zWhile {σ : Type} (L : Nat → σ → Prop) (I : σ → Prop) (μ : σ → Nat) (hstep : ∀ n s, I s → (∀ s', I s' → μ s' < μ s → L n s') → L (n + 1) s) : ∀ s, I s → ∃ n, L n s := by
  have z : ∀ n s, I s → μ s < n → L n s := by
    intro n
    induction n with
    | zero => intro s _ h; omega
    | succ n ih => intro s hs h; exact hstep n s hs (fun s' hs' h' => ih s' hs' (by omega))
  intro s hs
  exact ⟨μ s + 1, z _ s hs (by omega)⟩
theorem zLoop {σ : Type} (L : Nat → Int → σ → Prop) (I : Int → σ → Prop) {a : Int} (b : Int) (hab : a ≤ b) {s : σ} (h0 : I a s) (hend : ∀ n s, I b s → L (n + 1) b s) (hstep : ∀ n k s, a ≤ k → k < b → I k s → (∀ s', I (k + 1) s' → L n (k + 1) s') → L (n + 1) k s) : ∃ n, L n a s := by
  have := zWhile (σ := Int × σ) (fun n q => L n q.1 q.2) (fun q => a ≤ q.1 ∧ q.1 ≤ b ∧ I q.1 q.2) (fun q => (b - q.1).toNat) (fun n q hq ih => by
    obtain ⟨k, s⟩ := q
    obtain ⟨h1, h2, h3⟩ := hq
    by_cases hk : k = b
    · subst hk; exact hend n s h3
    · exact hstep n k s h1 (by have h2 : k ≤ b := h2; omega) h3 (fun s' hs' => ih (k + 1, s') ⟨by have h1 : a ≤ k := h1; show a ≤ k + 1; omega, by have h2 : k ≤ b := h2; show k + 1 ≤ b; omega, hs'⟩ (by have h2 : k ≤ b := h2; show (b - (k + 1)).toNat < (b - k).toNat; omega))) (a, s) ⟨Int.le_refl a, hab, h0⟩
  exact this
/-- a loop that only counts and reads -/
theorem zCount {α : Type} (L : Nat → Int → α → Prop) (g : α → Int → α) (x : α) (a b : Int) (hab : a ≤ b) (hend : ∀ n, L (n + 1) b (zF g x a b)) (hstep : ∀ n k, a ≤ k → k < b → L n (k + 1) (g (zF g x a k) k) → L (n + 1) k (zF g x a k)) : ∃ n, L n a x :=
  zLoop L (fun k s => s = zF g x a k) b hab (zF_self g x (Int.le_refl a)).symm (fun n s h => by rw [h]; exact hend n) (fun n k s h0 h1 h ih => by
    subst h
    exact hstep n k h0 h1 (ih _ (zF_succ g x h0).symm))
theorem inR_mk {x : Int} (a : -2147483648 ≤ x) (b : x ≤ 2147483647) : inR x := ⟨a, b⟩
theorem bit_0 : bit 0 := Or.inl rfl
theorem bit_1 : bit 1 := Or.inr rfl
theorem bit_ite {c : Prop} (h : Decidable c) : bit (if c then (0 : Int) else 1) := by split; exact bit_0; exact bit_1
theorem bit_ite' {c : Prop} (h : Decidable c) : bit (if c then (1 : Int) else 0) := by split; exact bit_1; exact bit_0
theorem bit_r {x : Int} (h : bit x) : 0 ≤ x ∧ x ≤ 1 := by rcases h with rfl | rfl <;> omega
/-! what is put in, and frames -/
def zin (s : Nat) (k : Int) : Bool := decide (s = 1) || decide (s = 2) || decide (s = 6) || (decide (12 ≤ s) && decide (s ≤ 23)) || decide (s = 25) || decide (s = 26) || decide (s = 33) || decide (s = 37) || (decide (56 ≤ s) && decide (s ≤ 76)) || (decide (s = 11) && (decide (k = 4) || decide (k = 8) || decide (k = 15) || decide (k = 24) || decide (k = 25) || decide (k = 26))) || (decide (s = 10) && (decide (k = 7) || decide (k = 8) || decide (k = 9)))
def Ag (T M : Mem) : Prop := ∀ s j k, zin s k = true → M s j k = T s j k
theorem Ag.rf (T : Mem) : Ag T T := fun _ _ _ _ => rfl
theorem Ag.tr {T M M' : Mem} (h : Ag T M) (h' : Ag M M') : Ag T M' := fun s j k z => (h' s j k z).trans (h s j k z)
theorem Ag.up {T M : Mem} (h : Ag T M) {s : Nat} {j k v : Int} (hz : zin s k = false) : Ag T (up M s j k v) := by
  intro s' j' k' z
  rw [up_at, if_neg]
  · exact h s' j' k' z
  · rintro ⟨rfl, rfl, rfl⟩
    rw [hz] at z
    cases z
def Fr (Z : Nat → Int → Bool) (M M' : Mem) : Prop := ∀ s j k, Z s k = false → M' s j k = M s j k
theorem Fr.rf (Z : Nat → Int → Bool) (M : Mem) : Fr Z M M := fun _ _ _ _ => rfl
theorem Fr.tr {Z : Nat → Int → Bool} {M M1 M2 : Mem} (h : Fr Z M M1) (h' : Fr Z M1 M2) : Fr Z M M2 := fun s j k z => (h' s j k z).trans (h s j k z)
theorem Fr.mono {Z Z' : Nat → Int → Bool} {M M' : Mem} (h : Fr Z M M') (hz : ∀ s k, Z' s k = false → Z s k = false) : Fr Z' M M' := fun s j k z => h s j k (hz s k z)
theorem Fr.up {Z : Nat → Int → Bool} {M M' : Mem} (h : Fr Z M M') {s : Nat} {j k v : Int} (hz : Z s k = true) : Fr Z M (up M' s j k v) := by
  intro s' j' k' z
  rw [up_at, if_neg]
  · exact h s' j' k' z
  · rintro ⟨rfl, rfl, rfl⟩
    rw [hz] at z
    cases z
theorem Fr.ag {Z : Nat → Int → Bool} {T M M' : Mem} (h : Fr Z M M') (hA : Ag T M) (hz : ∀ s k, zin s k = true → Z s k = false) : Ag T M' := fun s j k z => (h s j k (hz s k z)).trans (hA s j k z)
/-- one site alone -/
def z1 (s0 : Nat) : Nat → Int → Bool := fun s _ => decide (s = s0)
/-- widths and heights of the reference -/
def zW : Nat → Int → Bool := fun s _ => decide (80 ≤ s) && decide (s ≤ 85)
/-- its pages -/
def zP : Nat → Int → Bool := fun s k => (decide (80 ≤ s) && decide (s ≤ 95)) || (decide (s = 11) && (decide (k = 41) || decide (k = 46) || decide (k = 49)))
theorem z1_in {s0 : Nat} (h : ∀ k, zin s0 k = false) : ∀ s k, zin s k = true → z1 s0 s k = false := by
  intro s k hz
  unfold z1
  by_cases e : s = s0
  · subst e; rw [h] at hz; cases hz
  · exact decide_eq_false e
theorem zW_in : ∀ s k, zin s k = true → zW s k = false := by
  intro s k hz
  simp only [zin, Bool.or_eq_true, Bool.and_eq_true, decide_eq_true_eq] at hz
  simp only [zW, Bool.and_eq_false_iff, decide_eq_false_iff_not]
  omega
theorem zP_in : ∀ s k, zin s k = true → zP s k = false := by
  intro s k hz
  simp only [zin, Bool.or_eq_true, Bool.and_eq_true, decide_eq_true_eq] at hz
  simp only [zP, Bool.or_eq_false_iff, Bool.and_eq_false_iff, decide_eq_false_iff_not]
  omega
theorem zW_P : ∀ s k, zP s k = false → zW s k = false := by
  intro s k hz
  simp only [zP, Bool.or_eq_false_iff, Bool.and_eq_false_iff, decide_eq_false_iff_not] at hz
  simp only [zW, Bool.and_eq_false_iff, decide_eq_false_iff_not]
  omega
theorem Ag.s1 {T M : Mem} (h : Ag T M) : M 1 = T 1 := funext fun j => funext fun k => h 1 j k rfl
theorem Ag.s2 {T M : Mem} (h : Ag T M) : M 2 = T 2 := funext fun j => funext fun k => h 2 j k rfl
theorem Ag.s6 {T M : Mem} (h : Ag T M) : M 6 = T 6 := funext fun j => funext fun k => h 6 j k rfl
theorem Ag.s12 {T M : Mem} (h : Ag T M) : M 12 = T 12 := funext fun j => funext fun k => h 12 j k rfl
theorem Ag.s13 {T M : Mem} (h : Ag T M) : M 13 = T 13 := funext fun j => funext fun k => h 13 j k rfl
theorem Ag.s14 {T M : Mem} (h : Ag T M) : M 14 = T 14 := funext fun j => funext fun k => h 14 j k rfl
theorem Ag.s15 {T M : Mem} (h : Ag T M) : M 15 = T 15 := funext fun j => funext fun k => h 15 j k rfl
theorem Ag.s16 {T M : Mem} (h : Ag T M) : M 16 = T 16 := funext fun j => funext fun k => h 16 j k rfl
theorem Ag.s17 {T M : Mem} (h : Ag T M) : M 17 = T 17 := funext fun j => funext fun k => h 17 j k rfl
theorem Ag.s18 {T M : Mem} (h : Ag T M) : M 18 = T 18 := funext fun j => funext fun k => h 18 j k rfl
theorem Ag.s19 {T M : Mem} (h : Ag T M) : M 19 = T 19 := funext fun j => funext fun k => h 19 j k rfl
theorem Ag.s20 {T M : Mem} (h : Ag T M) : M 20 = T 20 := funext fun j => funext fun k => h 20 j k rfl
theorem Ag.s21 {T M : Mem} (h : Ag T M) : M 21 = T 21 := funext fun j => funext fun k => h 21 j k rfl
theorem Ag.s22 {T M : Mem} (h : Ag T M) : M 22 = T 22 := funext fun j => funext fun k => h 22 j k rfl
theorem Ag.s23 {T M : Mem} (h : Ag T M) : M 23 = T 23 := funext fun j => funext fun k => h 23 j k rfl
theorem Ag.s25 {T M : Mem} (h : Ag T M) : M 25 = T 25 := funext fun j => funext fun k => h 25 j k rfl
theorem Ag.s26 {T M : Mem} (h : Ag T M) : M 26 = T 26 := funext fun j => funext fun k => h 26 j k rfl
theorem Ag.s33 {T M : Mem} (h : Ag T M) : M 33 = T 33 := funext fun j => funext fun k => h 33 j k rfl
theorem Ag.s37 {T M : Mem} (h : Ag T M) : M 37 = T 37 := funext fun j => funext fun k => h 37 j k rfl
theorem Ag.s56 {T M : Mem} (h : Ag T M) : M 56 = T 56 := funext fun j => funext fun k => h 56 j k rfl
theorem Ag.s57 {T M : Mem} (h : Ag T M) : M 57 = T 57 := funext fun j => funext fun k => h 57 j k rfl
theorem Ag.s58 {T M : Mem} (h : Ag T M) : M 58 = T 58 := funext fun j => funext fun k => h 58 j k rfl
theorem Ag.s59 {T M : Mem} (h : Ag T M) : M 59 = T 59 := funext fun j => funext fun k => h 59 j k rfl
theorem Ag.s60 {T M : Mem} (h : Ag T M) : M 60 = T 60 := funext fun j => funext fun k => h 60 j k rfl
theorem Ag.s61 {T M : Mem} (h : Ag T M) : M 61 = T 61 := funext fun j => funext fun k => h 61 j k rfl
theorem Ag.s62 {T M : Mem} (h : Ag T M) : M 62 = T 62 := funext fun j => funext fun k => h 62 j k rfl
theorem Ag.s63 {T M : Mem} (h : Ag T M) : M 63 = T 63 := funext fun j => funext fun k => h 63 j k rfl
theorem Ag.s64 {T M : Mem} (h : Ag T M) : M 64 = T 64 := funext fun j => funext fun k => h 64 j k rfl
theorem Ag.s65 {T M : Mem} (h : Ag T M) : M 65 = T 65 := funext fun j => funext fun k => h 65 j k rfl
theorem Ag.s66 {T M : Mem} (h : Ag T M) : M 66 = T 66 := funext fun j => funext fun k => h 66 j k rfl
theorem Ag.s67 {T M : Mem} (h : Ag T M) : M 67 = T 67 := funext fun j => funext fun k => h 67 j k rfl
theorem Ag.s68 {T M : Mem} (h : Ag T M) : M 68 = T 68 := funext fun j => funext fun k => h 68 j k rfl
theorem Ag.s69 {T M : Mem} (h : Ag T M) : M 69 = T 69 := funext fun j => funext fun k => h 69 j k rfl
theorem Ag.s70 {T M : Mem} (h : Ag T M) : M 70 = T 70 := funext fun j => funext fun k => h 70 j k rfl
theorem Ag.s71 {T M : Mem} (h : Ag T M) : M 71 = T 71 := funext fun j => funext fun k => h 71 j k rfl
theorem Ag.s72 {T M : Mem} (h : Ag T M) : M 72 = T 72 := funext fun j => funext fun k => h 72 j k rfl
theorem Ag.s73 {T M : Mem} (h : Ag T M) : M 73 = T 73 := funext fun j => funext fun k => h 73 j k rfl
theorem Ag.s74 {T M : Mem} (h : Ag T M) : M 74 = T 74 := funext fun j => funext fun k => h 74 j k rfl
theorem Ag.s75 {T M : Mem} (h : Ag T M) : M 75 = T 75 := funext fun j => funext fun k => h 75 j k rfl
theorem Ag.s76 {T M : Mem} (h : Ag T M) : M 76 = T 76 := funext fun j => funext fun k => h 76 j k rfl
theorem Ag.f4 {T M : Mem} (h : Ag T M) : M 11 0 4 = T 11 0 4 := h 11 0 4 rfl
theorem Ag.f8 {T M : Mem} (h : Ag T M) : M 11 0 8 = T 11 0 8 := h 11 0 8 rfl
theorem Ag.f15 {T M : Mem} (h : Ag T M) : M 11 0 15 = T 11 0 15 := h 11 0 15 rfl
theorem Ag.f24 {T M : Mem} (h : Ag T M) : M 11 0 24 = T 11 0 24 := h 11 0 24 rfl
theorem Ag.f25 {T M : Mem} (h : Ag T M) : M 11 0 25 = T 11 0 25 := h 11 0 25 rfl
theorem Ag.f26 {T M : Mem} (h : Ag T M) : M 11 0 26 = T 11 0 26 := h 11 0 26 rfl
theorem Ag.g7 {T M : Mem} (h : Ag T M) : M 10 0 7 = T 10 0 7 := h 10 0 7 rfl
theorem Ag.g8 {T M : Mem} (h : Ag T M) : M 10 0 8 = T 10 0 8 := h 10 0 8 rfl
theorem Ag.g9 {T M : Mem} (h : Ag T M) : M 10 0 9 = T 10 0 9 := h 10 0 9 rfl
