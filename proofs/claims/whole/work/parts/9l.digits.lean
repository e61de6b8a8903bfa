/-! the pure part: choices of widths, by their number -/
section YA
variable {T M : Mem}
/-- how many widths a column may have -/
def zbs (T : Mem) (k : Int) : Int := if 0 ≤ k ∧ k < T 11 0 4 ∧ zopen T k = 1 then 1 + min 8 (zms T k - zls T k) else 1
def zqt (T : Mem) (n : Int) : Nat → Int
  | 0 => n
  | k + 1 => zqt T n k / zbs T k
def zdgt (T : Mem) (n k : Int) : Int := zqt T n k.toNat % zbs T k
def zpr (T : Mem) : Nat → Int
  | 0 => 1
  | k + 1 => zpr T k * zbs T k
theorem zbs_r (hG : Good T) (k : Int) : 1 ≤ zbs T k ∧ zbs T k ≤ 9 := by
  unfold zbs
  split
  · rename_i hx
    have := zls_r hG hx.1 hx.2.1
    omega
  · omega
theorem zbs_1 {k : Int} (hx : ¬ (0 ≤ k ∧ k < T 11 0 4 ∧ zopen T k = 1)) : zbs T k = 1 := if_neg hx
theorem zqt_nn (hG : Good T) {n : Int} (n0 : 0 ≤ n) (k : Nat) : 0 ≤ zqt T n k := by
  induction k with
  | zero => exact n0
  | succ k ih =>
    have := (zbs_r hG (k : Int)).1
    exact Int.ediv_nonneg ih (by omega)
theorem zpr_pos (hG : Good T) (k : Nat) : 1 ≤ zpr T k := by
  induction k with
  | zero => show (1 : Int) ≤ 1; omega
  | succ k ih =>
    have := (zbs_r hG (k : Int)).1
    have e : zpr T k * 1 ≤ zpr T k * zbs T k := Int.mul_le_mul_of_nonneg_left this (by omega)
    show 1 ≤ zpr T k * zbs T k
    omega
theorem zqt_pr (hG : Good T) (n : Int) (k : Nat) : zqt T n k = n / zpr T k := by
  induction k with
  | zero => exact (Int.ediv_one n).symm
  | succ k ih =>
    have := zpr_pos hG k
    show zqt T n k / zbs T k = n / (zpr T k * zbs T k)
    rw [ih, Int.ediv_ediv_of_nonneg (by omega)]
theorem zqt_lt (hG : Good T) {n : Int} (n0 : 0 ≤ n) (k : Nat) (hx : n < zpr T k) : zqt T n k = 0 := by
  rw [zqt_pr hG]
  exact Int.ediv_eq_zero_of_lt n0 hx
theorem zqt_ge (hG : Good T) {n : Int} (k : Nat) (hx : zpr T k ≤ n) : 1 ≤ zqt T n k := by
  rw [zqt_pr hG]
  have := zpr_pos hG k
  exact Int.le_ediv_of_mul_le (by omega) (by omega)
theorem zdgt_r (hG : Good T) {n : Int} (k : Int) : 0 ≤ zdgt T n k ∧ zdgt T n k < zbs T k := by
  have := (zbs_r hG k).1
  exact ⟨Int.emod_nonneg _ (by omega), Int.emod_lt_of_pos _ (by omega)⟩
theorem zdgt_1 (hG : Good T) {n k : Int} (hx : ¬ (0 ≤ k ∧ k < T 11 0 4 ∧ zopen T k = 1)) : zdgt T n k = 0 := by
  have := zdgt_r (n := n) hG k
  have e := zbs_1 hx
  omega
theorem zqt_0 (k : Nat) : zqt T 0 k = 0 := by
  induction k with
  | zero => rfl
  | succ k ih =>
    show zqt T 0 k / zbs T k = 0
    rw [ih, Int.zero_ediv]
theorem zdgt_0 (k : Int) : zdgt T 0 k = 0 := by
  unfold zdgt
  rw [zqt_0, Int.zero_emod]
theorem zcarry {q b : Int} (b1 : 1 ≤ b) (e : q % b = b - 1) : (q + 1) / b = q / b + 1 ∧ (q + 1) % b = 0 := by
  refine (Int.ediv_emod_unique (by omega)).2 ⟨?_, by omega, by omega⟩
  have := Int.mul_ediv_add_emod q b
  rw [Int.mul_add, Int.mul_one]
  omega
theorem znocarry {q b : Int} (b1 : 1 ≤ b) (e : q % b < b - 1) : (q + 1) / b = q / b ∧ (q + 1) % b = q % b + 1 := by
  have h0 := Int.emod_nonneg q (b := b) (by omega)
  refine (Int.ediv_emod_unique (by omega)).2 ⟨?_, by omega, by omega⟩
  have := Int.mul_ediv_add_emod q b
  omega
theorem zinc (hG : Good T) (n : Int) (k : Nat) : (∀ i : Nat, i < k → zdgt T n i = zbs T i - 1) → zqt T (n + 1) k = zqt T n k + 1 ∧ ∀ i : Nat, i < k → zdgt T (n + 1) i = 0 := by
  induction k with
  | zero => exact fun _ => ⟨rfl, fun i hi => absurd hi (by omega)⟩
  | succ k ih =>
    intro hx
    obtain ⟨a, b⟩ := ih (fun i hi => hx i (by omega))
    have e : zqt T n k % zbs T k = zbs T k - 1 := hx k (by omega)
    have c := zcarry (zbs_r hG (k : Int)).1 e
    refine ⟨?_, fun i hi => ?_⟩
    · show zqt T (n + 1) k / zbs T k = zqt T n k / zbs T k + 1
      rw [a]; exact c.1
    · by_cases ei : i = k
      · rw [ei]
        show zqt T (n + 1) k % zbs T k = 0
        rw [a]; exact c.2
      · exact b i (by omega)
theorem zinc_at (hG : Good T) (n : Int) (k : Nat) (hx : ∀ i : Nat, i < k → zdgt T n i = zbs T i - 1) (hd : zdgt T n k < zbs T k - 1) : zdgt T (n + 1) k = zdgt T n k + 1 ∧ ∀ m : Nat, zqt T (n + 1) (k + 1 + m) = zqt T n (k + 1 + m) := by
  have a := (zinc hG n k hx).1
  have hd : zqt T n k % zbs T k < zbs T k - 1 := hd
  have c := znocarry (zbs_r hG (k : Int)).1 hd
  refine ⟨?_, fun m => ?_⟩
  · show zqt T (n + 1) k % zbs T k = zqt T n k % zbs T k + 1
    rw [a]; exact c.2
  · induction m with
    | zero =>
      show zqt T (n + 1) k / zbs T k = zqt T n k / zbs T k
      rw [a]; exact c.1
    | succ m ih =>
      show zqt T (n + 1) (k + 1 + m) / zbs T ((k + 1 + m : Nat) : Int) = zqt T n (k + 1 + m) / zbs T ((k + 1 + m : Nat) : Int)
      rw [ih]
theorem znx0 (hG : Good T) {n k : Int} (k0 : 0 ≤ k) (hx : ∀ i, 0 ≤ i → i < k → zdgt T n i = zbs T i - 1) : ∀ i, 0 ≤ i → i < k → zdgt T (n + 1) i = 0 := by
  intro i i0 i1
  have := (zinc hG n k.toNat (fun m hm => hx m (by omega) (by omega))).2 i.toNat (by omega)
  rw [show ((i.toNat : Nat) : Int) = i by omega] at this
  exact this
theorem znx1 (hG : Good T) {n k : Int} (k0 : 0 ≤ k) (hx : ∀ i, 0 ≤ i → i < k → zdgt T n i = zbs T i - 1) (hd : zdgt T n k < zbs T k - 1) : zdgt T (n + 1) k = zdgt T n k + 1 ∧ ∀ i, k < i → zdgt T (n + 1) i = zdgt T n i := by
  have ek : ((k.toNat : Nat) : Int) = k := by omega
  have := zinc_at hG n k.toNat (fun m hm => hx m (by omega) (by omega)) (by rw [ek]; exact hd)
  rw [ek] at this
  refine ⟨this.1, fun i hi => ?_⟩
  have h2 := this.2 (i.toNat - (k.toNat + 1))
  rw [show k.toNat + 1 + (i.toNat - (k.toNat + 1)) = i.toNat by omega] at h2
  unfold zdgt
  rw [h2]
theorem znx_last (hG : Good T) {n : Int} (n0 : 0 ≤ n) (n1 : n < zpr T 6) (hx : ∀ i, 0 ≤ i → i < 6 → zdgt T n i = zbs T i - 1) : n + 1 = zpr T 6 := by
  have a := (zinc hG n 6 (fun m hm => hx m (by omega) (by omega))).1
  have b := zqt_lt hG n0 6 n1
  by_cases c : n + 1 < zpr T 6
  · have := zqt_lt hG (by omega) 6 c
    omega
  · omega
theorem znx_more (hG : Good T) {n k : Int} (n0 : 0 ≤ n) (n1 : n < zpr T 6) (k0 : 0 ≤ k) (k1 : k < 6) (hx : ∀ i, 0 ≤ i → i < k → zdgt T n i = zbs T i - 1) (hd : zdgt T n k < zbs T k - 1) : n + 1 < zpr T 6 := by
  have ek : ((k.toNat : Nat) : Int) = k := by omega
  have := (zinc_at hG n k.toNat (fun m hm => hx m (by omega) (by omega)) (by rw [ek]; exact hd)).2 (6 - (k.toNat + 1))
  rw [show k.toNat + 1 + (6 - (k.toNat + 1)) = 6 by omega, zqt_lt hG n0 6 n1] at this
  by_cases c : n + 1 < zpr T 6
  · exact c
  · have := zqt_ge hG (n := n + 1) 6 (by omega)
    omega
/-- widths by a choice's number -/
def zwc (T : Mem) (n k : Int) : Int := znar T k + zdgt T n k
theorem zwc_0 : zwc T 0 = znar T := funext fun k => by unfold zwc; rw [zdgt_0]; omega
theorem znar_op1 (hG : Good T) {k : Int} (k0 : 0 ≤ k) (k1 : k < T 11 0 4) (e : zopen T k = 1) : znar T k = zls T k := by
  have := zls_r hG k0 k1
  have h59 : T 59 0 k = 0 := by
    by_cases z : T 59 0 k = 0
    · exact z
    · rw [zopen_hid z] at e; omega
  have h56 : T 56 0 k = 0 := by
    by_cases z : T 56 0 k = 0
    · exact z
    · unfold zopen at e
      rw [if_neg (by omega), if_pos z] at e
      omega
  unfold znar
  rw [if_pos h59, if_neg (by omega), if_neg (by omega)]
  omega
theorem zwc_open (hG : Good T) (n : Int) {k : Int} (k0 : 0 ≤ k) (k1 : k < T 11 0 4) (e : zopen T k = 1) : zwc T n k = zls T k + zdgt T n k ∧ zdgt T n k ≤ 8 ∧ zdgt T n k ≤ zms T k - zls T k ∧ zbs T k = 1 + min 8 (zms T k - zls T k) := by
  have h1 := zdgt_r (n := n) hG k
  have h2 : zbs T k = 1 + min 8 (zms T k - zls T k) := if_pos ⟨k0, k1, e⟩
  unfold zwc
  rw [znar_op1 hG k0 k1 e]
  omega
theorem zwc_shut (hG : Good T) (n : Int) {k : Int} (hx : ¬ (0 ≤ k ∧ k < T 11 0 4 ∧ zopen T k = 1)) : zwc T n k = znar T k := by
  unfold zwc
  rw [zdgt_1 hG hx]
  omega
theorem zwc_r (hG : Good T) (n : Int) : zWB T (zwc T n) := fun k k0 k1 => by
  have hs := zls_r hG k0 k1
  by_cases e : zopen T k = 1
  · have := zwc_open hG n k0 k1 e
    have h1 := zdgt_r (n := n) hG k
    omega
  · rw [zwc_shut hG n (fun z => e z.2.2)]
    exact znar_r hG k0 k1
theorem zwid_shut {k : Int} (hC : 0 ≤ T 11 0 4) (h : zopen T k = 0) : zwid T k = znar T k := by
  have hgi : zgive T k = 0 := if_pos h
  have hg : zgv T k = znar T k := by
    unfold zgv
    split
    · rfl
    · rw [hgi]; omega
  unfold zwid
  by_cases h1 : zrest T ≤ 0
  · rw [if_pos h1]
  · rw [if_neg h1]
    by_cases h2 : zlack T (T 11 0 4) < zrest T
    · rw [if_pos h2, hgi]; omega
    · rw [if_neg h2]
      have := zF_ind (g := fun (p : (Int → Int) × Int) k => if zopen T k = 0 then p else if zrest T ≤ p.2 then p else if zms T k ≤ p.1 k then p else (zset p.1 k (p.1 k + 1), p.2 + 1)) (x := (zgv T, zS (zgive T) 0 (T 11 0 4))) (a := 0) (b := T 11 0 4) (fun _ p => p.1 k = znar T k) hC hg (fun i p _ _ hp => by
        by_cases a1 : zopen T i = 0
        · rw [if_pos a1]; exact hp
        · rw [if_neg a1]
          by_cases a2 : zrest T ≤ p.2
          · rw [if_pos a2]; exact hp
          · rw [if_neg a2]
            by_cases a3 : zms T i ≤ p.1 i
            · rw [if_pos a3]; exact hp
            · rw [if_neg a3]
              show zset p.1 i (p.1 i + 1) k = znar T k
              rw [zset_ne _ _ (fun e => a1 (by rw [← e]; exact h))]
              exact hp)
      exact this
theorem zS_mono {f g : Int → Int} {a b : Int} (hab : a ≤ b) (h : ∀ k, a ≤ k → k < b → f k ≤ g k) : zS f a b ≤ zS g a b :=
  zF_ind2 (g := fun s k => s + f k) (g' := fun s k => s + g k) (x := (0 : Int)) (x' := (0 : Int)) (fun _ v v' => v ≤ v') hab (Int.le_refl _) (fun k v v' x y hv => by have := h k x y; show v + f k ≤ v' + g k; omega)
/-- by how much a choice widens all, and a cell -/
def zsx (T : Mem) (n : Int) : Int := zS (zdgt T n) 0 6
def zex (T : Mem) (n c : Int) : Int := zS (zdgt T n) (T 66 0 c) (T 66 0 c + T 68 0 c)
theorem zsx_r (hG : Good T) (n : Int) {k : Int} (k0 : 0 ≤ k) : 0 ≤ zS (zdgt T n) 0 k ∧ zS (zdgt T n) 0 k ≤ 8 * k := by
  have := zS_bd (f := zdgt T n) (a := 0) (b := k) 0 8 k0 (fun i _ _ => by
    have h1 := zdgt_r (n := n) hG i
    have h2 := zbs_r hG i
    omega)
  omega
theorem zsumw_n (hG : Good T) (n : Int) : zsumw T (zwc T n) = zsumw T (znar T) + zsx T n := by
  have hC := hG.nC
  have e1 : zS (zwc T n) 0 (T 11 0 4) = zS (znar T) 0 (T 11 0 4) + zS (zdgt T n) 0 (T 11 0 4) := zS_add (znar T) (zdgt T n) 0 (T 11 0 4)
  have e2 : zS (zdgt T n) 0 6 = zS (zdgt T n) 0 (T 11 0 4) + zS (zdgt T n) (T 11 0 4) 6 := zS_split _ hC.1 hC.2
  have e3 : zS (zdgt T n) (T 11 0 4) 6 = 0 := zS_zero (fun k a _ => zdgt_1 hG (by omega))
  unfold zsumw zsx
  omega
theorem zex_r (hG : Good T) (h3 : zcont T ≤ 3) (n : Int) {c : Int} (c0 : 0 ≤ c) (c1 : c < T 11 0 15) {k : Int} (k0 : T 66 0 c ≤ k) (k1 : k ≤ T 66 0 c + T 68 0 c) : 0 ≤ zS (zdgt T n) (T 66 0 c) k ∧ zS (zdgt T n) (T 66 0 c) k ≤ 24 := by
  have hC := hG.nC
  obtain ⟨w1, w2, w3, w4, -⟩ := hG.cell c c0 c1
  refine ⟨zS_nn (fun i _ _ => (zdgt_r hG i).1), ?_⟩
  have e1 : zS (zdgt T n) (T 66 0 c) k ≤ zS (fun i => 8 * zopen T i) (T 66 0 c) k := zS_mono k0 (fun i a b => by
    by_cases e : zopen T i = 1
    · have := (zwc_open hG n (k := i) (by omega) (by omega) e).2.1
      omega
    · have := zdgt_1 (n := n) hG (k := i) (fun z => e z.2.2)
      rcases zopen_r T i with z | z <;> omega)
  rw [zS_mul] at e1
  have hn : ∀ a b, 0 ≤ zS (zopen T) a b := fun a b => zS_nn (fun i _ _ => by rcases zopen_r T i with z | z <;> omega)
  have e2 := zS_split (zopen T) (a := 0) (m := T 66 0 c) (b := T 11 0 4) (by omega) (by omega)
  have e3 := zS_split (zopen T) (a := T 66 0 c) (m := k) (b := T 11 0 4) (by omega) (by omega)
  have n1 := hn 0 (T 66 0 c)
  have n2 := hn k (T 11 0 4)
  unfold zcont at h3
  omega
theorem zac2_n (hG : Good T) (n c : Int) : zac2 T c (znar T) + zex T n c = zac2 T c (zwc T n) := by
  have e : zS (fun k => if T 59 0 k = 0 then zwc T n k else 0) (T 66 0 c) (T 66 0 c + T 68 0 c) = zS (fun k => (fun k => if T 59 0 k = 0 then znar T k else 0) k + zdgt T n k) (T 66 0 c) (T 66 0 c + T 68 0 c) := zS_congr (fun k _ _ => by
    show (if T 59 0 k = 0 then zwc T n k else 0) = (if T 59 0 k = 0 then znar T k else 0) + zdgt T n k
    by_cases z : T 59 0 k = 0
    · rw [if_pos z, if_pos z]; rfl
    · rw [if_neg z, if_neg z, zdgt_1 hG (fun w => by rw [zopen_hid z] at w; omega)]; rfl)
  rw [zS_add] at e
  unfold zac2 zex
  omega
/-- the height of the table with a choice, and the least one of the first choices -/
def zHn (T : Mem) (n : Int) : Int := zsum T (zht T (zwc T n)) 1
def zLst (T : Mem) (n : Int) : Int := zF (fun m i => if i = 0 then zHn T 0 else if zsx T i ≤ zrest T then min m (zHn T i) else m) 0 0 n
theorem zLst_succ {n : Int} (n0 : 0 ≤ n) : zLst T (n + 1) = if n = 0 then zHn T 0 else if zsx T n ≤ zrest T then min (zLst T n) (zHn T n) else zLst T n := zF_succ _ _ n0
theorem zLst_1 : zLst T 1 = zHn T 0 := by
  have := zLst_succ (T := T) (n := 0) (Int.le_refl 0)
  rw [if_pos rfl] at this
  exact this
theorem zLst_over (hG : Good T) (hx : zrest T < 0) {n : Int} (n1 : 1 ≤ n) : zLst T n = zHn T 0 := by
  have z : ∀ m : Nat, zLst T (1 + m) = zHn T 0 := by
    intro m
    induction m with
    | zero => exact zLst_1
    | succ m ih =>
      have h0 := (zsx_r hG (1 + m) (k := 6) (by omega)).1
      have h0 : 0 ≤ zsx T (1 + m) := h0
      rw [show (1 : Int) + ((m + 1 : Nat) : Int) = (1 + m) + 1 by omega, zLst_succ (by omega), if_neg (by omega), if_neg (by omega)]
      exact ih
  have := z (n - 1).toNat
  rw [show (1 : Int) + ((n - 1).toNat : Int) = n by omega] at this
  exact this
theorem zHn_r (hG : Good T) (n : Int) : 0 ≤ zHn T n ∧ zHn T n ≤ 600 := by
  have hm := hG.many (p := 1) (by omega) (by omega)
  have := zsum_r hG (zht_r hG (zwc_r hG n)) (p := 1) (by omega) (by omega) hm.1 (Int.le_refl _)
  have e : zHn T n = zS (fun k => zht T (zwc T n) (T 63 0 (24 * 1 + k))) 0 (T 64 0 1) := rfl
  omega
end YA
