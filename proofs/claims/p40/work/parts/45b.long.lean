/-! the law's row of longs -/
def wOK (M : Mem) (c : Int) : Prop := (∀ i, 1 ≤ i → i ≤ 10 → 0 ≤ M 108 0 (16 * c + i) ∧ M 108 0 (16 * c + i) ≤ 31) ∧ 0 ≤ M 108 0 (16 * c) ∧ M 108 0 (16 * c) ≤ 5
def wNew (M : Mem) (c ln ct wd : Int) : Prop := (0 ≤ c ∧ c < 10) ∧ wOK M c ∧ (0 ≤ ln ∧ ln ≤ 31) ∧ (0 ≤ ct ∧ ct ≤ 31) ∧ (0 ≤ wd ∧ wd < 5) ∧ ∀ i, 1 + 2 * wd ≤ i → i ≤ 10 → M 108 0 (16 * c + i) = 0
def wW (M : Mem) (c ln ct wd : Int) : Mem := up (up (up M 108 0 (16 * c + (1 + 2 * wd)) ln) 108 0 (16 * c + (2 + 2 * wd)) ct) 108 0 (16 * c) (wd + 1)
def wZ (M : Mem) (c : Int) : Mem := fun s j k => if s = 108 ∧ j = 0 ∧ 16 * c ≤ k ∧ k ≤ 16 * c + 10 then 0 else M s j k
theorem pk_val {f : Int → Int} {c : Int} {g : Nat → Nat} (h : ∀ i : Nat, i ≤ 10 → (f (16 * c + i)).toNat = g i) : pkN f c = g 1 + 32 * (g 2 + 32 * (g 3 + 32 * (g 4 + 32 * (g 5 + 32 * (g 6 + 32 * (g 7 + 32 * (g 8 + 32 * (g 9 + 32 * (g 10 + 32 * g 0))))))))) := by
  have h0 : (f (16 * c)).toNat = g 0 := by
    have := h 0 (by decide)
    rwa [show 16 * c + ((0 : Nat) : Int) = 16 * c by omega] at this
  have h1 : (f (16 * c + 1)).toNat = g 1 := h 1 (by decide)
  have h2 : (f (16 * c + 2)).toNat = g 2 := h 2 (by decide)
  have h3 : (f (16 * c + 3)).toNat = g 3 := h 3 (by decide)
  have h4 : (f (16 * c + 4)).toNat = g 4 := h 4 (by decide)
  have h5 : (f (16 * c + 5)).toNat = g 5 := h 5 (by decide)
  have h6 : (f (16 * c + 6)).toNat = g 6 := h 6 (by decide)
  have h7 : (f (16 * c + 7)).toNat = g 7 := h 7 (by decide)
  have h8 : (f (16 * c + 8)).toNat = g 8 := h 8 (by decide)
  have h9 : (f (16 * c + 9)).toNat = g 9 := h 9 (by decide)
  have h10 : (f (16 * c + 10)).toNat = g 10 := h 10 (by decide)
  rw [← h0, ← h1, ← h2, ← h3, ← h4, ← h5, ← h6, ← h7, ← h8, ← h9, ← h10]
  rfl
theorem bv_ext {a b : Int64} (h : a.toBitVec.toNat = b.toBitVec.toNat) : a = b := Int64.toBitVec_inj.mp (BitVec.eq_of_toNat_eq h)
theorem bv_of {n : Nat} (h : n < 2 ^ 64) : (Int64.ofNat n).toBitVec.toNat = n := by
  show (BitVec.ofNat 64 n).toNat = n
  rw [BitVec.toNat_ofNat]
  exact Nat.mod_eq_of_lt h
/-- a number of few bits, as an int made long -/
theorem bv_i {x : Int} (h0 : 0 ≤ x) (h1 : x < 2000000000) : ((Int32.ofInt x).toInt64).toBitVec.toNat = x.toNat := by
  have e : (Int32.ofInt x).toInt64 = Int64.ofNat x.toNat := by
    apply Int64.toInt_inj.mp
    rw [Int32.toInt_toInt64, Int32.toInt_ofInt_of_le (by omega) (by omega), Int64.toInt_ofNat_of_lt (by omega)]
    omega
  rw [e, bv_of (by omega)]
theorem sh_r {n : Nat} {y : Int} (hn : n < 2 ^ 63) (h0 : 0 ≤ y) (h1 : y < 64) : ((Int64.ofNat n).toUInt64 >>> ((Int32.ofInt y).toInt64.toUInt64 &&& Int64.toUInt64 63)).toInt64 = Int64.ofNat (n / 2 ^ y.toNat) := by
  apply bv_ext
  rw [bv_of (Nat.lt_of_le_of_lt (Nat.div_le_self _ _) (by omega))]
  have hy := bv_i h0 (by omega)
  show ((BitVec.ofNat 64 n) >>> (((Int32.ofInt y).toInt64.toBitVec &&& 63#64) % 64#64)).toNat = _
  show (BitVec.ofNat 64 n).toNat >>> (((Int32.ofInt y).toInt64.toBitVec &&& 63#64) % 64#64).toNat = _
  rw [BitVec.toNat_umod, BitVec.toNat_and, hy, BitVec.toNat_ofNat, Nat.mod_eq_of_lt (by omega : n < 2 ^ 64), Nat.shiftRight_eq_div_pow]
  have e : (y.toNat &&& (63#64).toNat) % (64#64).toNat = y.toNat := by
    show (y.toNat &&& (2 ^ 6 - 1)) % 64 = y.toNat
    rw [Nat.and_two_pow_sub_one_eq_mod]
    omega
  rw [e]
theorem sh_l {x : Int64} {y : Int} (h0 : 0 ≤ y) (h1 : y < 64) : (x <<< ((Int32.ofInt y).toInt64 &&& 63)).toBitVec.toNat = x.toBitVec.toNat * 2 ^ y.toNat % 2 ^ 64 := by
  have hy := bv_i h0 (by omega)
  have e : ((Int32.ofInt y).toInt64 &&& 63).toBitVec.toNat = y.toNat := by
    show ((Int32.ofInt y).toInt64.toBitVec &&& 63#64).toNat = _
    rw [BitVec.toNat_and, hy]
    show y.toNat &&& (2 ^ 6 - 1) = y.toNat
    rw [Nat.and_two_pow_sub_one_eq_mod]
    omega
  have e2 : ((Int32.ofInt y).toInt64 &&& 63).toBitVec.smod 64 = BitVec.ofNat 64 y.toNat := by
    apply BitVec.eq_of_toInt_eq
    have e3 : ((Int32.ofInt y).toInt64 &&& 63).toBitVec.toInt = y := by
      rw [BitVec.toInt_eq_toNat_of_lt (by omega), e]
      omega
    rw [BitVec.toInt_smod, e3]
    show Int.fmod y 64 = _
    rw [Int.fmod_eq_emod_of_nonneg _ (by decide), BitVec.toInt_eq_toNat_of_lt (by rw [BitVec.toNat_ofNat]; omega), BitVec.toNat_ofNat]
    omega
  rw [Int64.toBitVec_shiftLeft, e2, BitVec.shiftLeft_eq', BitVec.toNat_shiftLeft, BitVec.toNat_ofNat, Nat.shiftLeft_eq, Nat.mod_eq_of_lt (by omega : y.toNat < 2 ^ 64)]
theorem l_i32 {n : Nat} (h : n < 2147483648) : (Int64.ofNat n).toInt32 = Int32.ofInt n := by
  apply Int32.toInt_inj.mp
  rw [Int32.toInt_ofInt_of_le (by omega) (by omega), Int64.toInt_toInt32, Int64.toInt_ofNat_of_lt (by omega), Int.bmod_eq_of_le (by omega) (by omega)]
theorem nst {a b k : Nat} (ha : a < 32) (hb : b < k) : a + 32 * b < 32 * k := by omega
theorem nsd {a b : Nat} (h : a < 32) : (a + 32 * b) / 32 = b := by omega
theorem nsm {a b : Nat} (h : a < 32) : (a + 32 * b) % 32 = a := by omega
theorem put_n {P a0 v w k n : Nat} (hk : k ≤ 40) (hP : P < 2 ^ k) (hv : v < 1024) (hw : w < 32) (hn : n = P + 2 ^ 50 * a0) : ((n % 1125899906842624) ||| (v * 2 ^ k % 2 ^ 64)) ||| (w * 2 ^ (50 : Int).toNat % 2 ^ 64) = P + v * 2 ^ k + w * 2 ^ 50 := by
  have dis : ∀ a b k : Nat, a < 2 ^ k → a ||| (b * 2 ^ k) = a + b * 2 ^ k := fun a b k h => by
    rw [Nat.or_comm, ← Nat.shiftLeft_eq, ← Nat.shiftLeft_add_eq_or_of_lt h, Nat.shiftLeft_eq]
    omega
  have h40 : 2 ^ k ≤ 2 ^ 40 := Nat.pow_le_pow_right (by decide) hk
  have q0 : n % 1125899906842624 = P := by
    rw [hn]
    omega
  have q1 : v * 2 ^ k + 2 ^ k ≤ 1024 * 2 ^ k := by
    rw [← Nat.succ_mul]
    exact Nat.mul_le_mul_right _ hv
  have q2 : v * 2 ^ k % 2 ^ 64 = v * 2 ^ k := Nat.mod_eq_of_lt (by omega)
  have q3 : w * 2 ^ (50 : Int).toNat % 2 ^ 64 = w * 2 ^ 50 := by
    show w * 1125899906842624 % 18446744073709551616 = w * 1125899906842624
    omega
  rw [q0, q2, q3, dis _ _ _ hP, dis _ _ _ (by omega)]
theorem put_0 {a0 x y : Nat}  (hx : x < 32) (hy : y < 32) : (((0 + 32 * (0 + 32 * (0 + 32 * (0 + 32 * (0 + 32 * (0 + 32 * (0 + 32 * (0 + 32 * (0 + 32 * (0 + 32 * (a0))))))))))) % 1125899906842624) ||| ((x + 32 * y) * 2 ^ (10 * (0 : Int)).toNat % 2 ^ 64)) ||| (((0 : Int).toNat + 1) * 2 ^ (50 : Int).toNat % 2 ^ 64) = x + 32 * (y + 32 * (0 + 32 * (0 + 32 * (0 + 32 * (0 + 32 * (0 + 32 * (0 + 32 * (0 + 32 * (0 + 32 * (1)))))))))) := by
  have h := put_n (P := 0) (a0 := a0) (v := x + 32 * y) (w := 0 + 1) (k := 0) (n := 0 + 32 * (0 + 32 * (0 + 32 * (0 + 32 * (0 + 32 * (0 + 32 * (0 + 32 * (0 + 32 * (0 + 32 * (0 + 32 * (a0))))))))))) (by decide) (by decide) (by omega) (by decide) (by omega)
  refine Eq.trans h ?_
  omega
theorem put_1 {a0 x y : Nat} {a1 a2 : Nat} (h1 : a1 < 32) (h2 : a2 < 32) (hx : x < 32) (hy : y < 32) : (((a1 + 32 * (a2 + 32 * (0 + 32 * (0 + 32 * (0 + 32 * (0 + 32 * (0 + 32 * (0 + 32 * (0 + 32 * (0 + 32 * (a0))))))))))) % 1125899906842624) ||| ((x + 32 * y) * 2 ^ (10 * (1 : Int)).toNat % 2 ^ 64)) ||| (((1 : Int).toNat + 1) * 2 ^ (50 : Int).toNat % 2 ^ 64) = a1 + 32 * (a2 + 32 * (x + 32 * (y + 32 * (0 + 32 * (0 + 32 * (0 + 32 * (0 + 32 * (0 + 32 * (0 + 32 * (2)))))))))) := by
  have h := put_n (P := a1 + 32 * (a2)) (a0 := a0) (v := x + 32 * y) (w := 1 + 1) (k := 10) (n := a1 + 32 * (a2 + 32 * (0 + 32 * (0 + 32 * (0 + 32 * (0 + 32 * (0 + 32 * (0 + 32 * (0 + 32 * (0 + 32 * (a0))))))))))) (by decide) (Nat.lt_of_lt_of_le (nst h1 (h2)) (by decide)) (by omega) (by decide) (by omega)
  refine Eq.trans h ?_
  omega
theorem put_2 {a0 x y : Nat} {a1 a2 a3 a4 : Nat} (h1 : a1 < 32) (h2 : a2 < 32) (h3 : a3 < 32) (h4 : a4 < 32) (hx : x < 32) (hy : y < 32) : (((a1 + 32 * (a2 + 32 * (a3 + 32 * (a4 + 32 * (0 + 32 * (0 + 32 * (0 + 32 * (0 + 32 * (0 + 32 * (0 + 32 * (a0))))))))))) % 1125899906842624) ||| ((x + 32 * y) * 2 ^ (10 * (2 : Int)).toNat % 2 ^ 64)) ||| (((2 : Int).toNat + 1) * 2 ^ (50 : Int).toNat % 2 ^ 64) = a1 + 32 * (a2 + 32 * (a3 + 32 * (a4 + 32 * (x + 32 * (y + 32 * (0 + 32 * (0 + 32 * (0 + 32 * (0 + 32 * (3)))))))))) := by
  have h := put_n (P := a1 + 32 * (a2 + 32 * (a3 + 32 * (a4)))) (a0 := a0) (v := x + 32 * y) (w := 2 + 1) (k := 20) (n := a1 + 32 * (a2 + 32 * (a3 + 32 * (a4 + 32 * (0 + 32 * (0 + 32 * (0 + 32 * (0 + 32 * (0 + 32 * (0 + 32 * (a0))))))))))) (by decide) (Nat.lt_of_lt_of_le (nst h1 (nst h2 (nst h3 (h4)))) (by decide)) (by omega) (by decide) (by omega)
  refine Eq.trans h ?_
  omega
theorem put_3 {a0 x y : Nat} {a1 a2 a3 a4 a5 a6 : Nat} (h1 : a1 < 32) (h2 : a2 < 32) (h3 : a3 < 32) (h4 : a4 < 32) (h5 : a5 < 32) (h6 : a6 < 32) (hx : x < 32) (hy : y < 32) : (((a1 + 32 * (a2 + 32 * (a3 + 32 * (a4 + 32 * (a5 + 32 * (a6 + 32 * (0 + 32 * (0 + 32 * (0 + 32 * (0 + 32 * (a0))))))))))) % 1125899906842624) ||| ((x + 32 * y) * 2 ^ (10 * (3 : Int)).toNat % 2 ^ 64)) ||| (((3 : Int).toNat + 1) * 2 ^ (50 : Int).toNat % 2 ^ 64) = a1 + 32 * (a2 + 32 * (a3 + 32 * (a4 + 32 * (a5 + 32 * (a6 + 32 * (x + 32 * (y + 32 * (0 + 32 * (0 + 32 * (4)))))))))) := by
  have h := put_n (P := a1 + 32 * (a2 + 32 * (a3 + 32 * (a4 + 32 * (a5 + 32 * (a6)))))) (a0 := a0) (v := x + 32 * y) (w := 3 + 1) (k := 30) (n := a1 + 32 * (a2 + 32 * (a3 + 32 * (a4 + 32 * (a5 + 32 * (a6 + 32 * (0 + 32 * (0 + 32 * (0 + 32 * (0 + 32 * (a0))))))))))) (by decide) (Nat.lt_of_lt_of_le (nst h1 (nst h2 (nst h3 (nst h4 (nst h5 (h6)))))) (by decide)) (by omega) (by decide) (by omega)
  refine Eq.trans h ?_
  omega
theorem put_4 {a0 x y : Nat} {a1 a2 a3 a4 a5 a6 a7 a8 : Nat} (h1 : a1 < 32) (h2 : a2 < 32) (h3 : a3 < 32) (h4 : a4 < 32) (h5 : a5 < 32) (h6 : a6 < 32) (h7 : a7 < 32) (h8 : a8 < 32) (hx : x < 32) (hy : y < 32) : (((a1 + 32 * (a2 + 32 * (a3 + 32 * (a4 + 32 * (a5 + 32 * (a6 + 32 * (a7 + 32 * (a8 + 32 * (0 + 32 * (0 + 32 * (a0))))))))))) % 1125899906842624) ||| ((x + 32 * y) * 2 ^ (10 * (4 : Int)).toNat % 2 ^ 64)) ||| (((4 : Int).toNat + 1) * 2 ^ (50 : Int).toNat % 2 ^ 64) = a1 + 32 * (a2 + 32 * (a3 + 32 * (a4 + 32 * (a5 + 32 * (a6 + 32 * (a7 + 32 * (a8 + 32 * (x + 32 * (y + 32 * (5)))))))))) := by
  have h := put_n (P := a1 + 32 * (a2 + 32 * (a3 + 32 * (a4 + 32 * (a5 + 32 * (a6 + 32 * (a7 + 32 * (a8)))))))) (a0 := a0) (v := x + 32 * y) (w := 4 + 1) (k := 40) (n := a1 + 32 * (a2 + 32 * (a3 + 32 * (a4 + 32 * (a5 + 32 * (a6 + 32 * (a7 + 32 * (a8 + 32 * (0 + 32 * (0 + 32 * (a0))))))))))) (by decide) (Nat.lt_of_lt_of_le (nst h1 (nst h2 (nst h3 (nst h4 (nst h5 (nst h6 (nst h7 (h8)))))))) (by decide)) (by omega) (by decide) (by omega)
  refine Eq.trans h ?_
  omega
theorem putl_0 {x y : Nat}  (hx : x < 32) (hy : y < 32) : x + 32 * (y + 32 * (0 + 32 * (0 + 32 * (0 + 32 * (0 + 32 * (0 + 32 * (0 + 32 * (0 + 32 * (0 + 32 * (1)))))))))) < 2 ^ 64 := by
  exact Nat.lt_of_lt_of_le (nst hx (nst hy (nst (by decide : 0 < 32) (nst (by decide : 0 < 32) (nst (by decide : 0 < 32) (nst (by decide : 0 < 32) (nst (by decide : 0 < 32) (nst (by decide : 0 < 32) (nst (by decide : 0 < 32) (nst (by decide : 0 < 32) ((by decide : 1 < 8)))))))))))) (by decide)
theorem putl_1 {x y : Nat} {a1 a2 : Nat} (h1 : a1 < 32) (h2 : a2 < 32) (hx : x < 32) (hy : y < 32) : a1 + 32 * (a2 + 32 * (x + 32 * (y + 32 * (0 + 32 * (0 + 32 * (0 + 32 * (0 + 32 * (0 + 32 * (0 + 32 * (2)))))))))) < 2 ^ 64 := by
  exact Nat.lt_of_lt_of_le (nst h1 (nst h2 (nst hx (nst hy (nst (by decide : 0 < 32) (nst (by decide : 0 < 32) (nst (by decide : 0 < 32) (nst (by decide : 0 < 32) (nst (by decide : 0 < 32) (nst (by decide : 0 < 32) ((by decide : 2 < 8)))))))))))) (by decide)
theorem putl_2 {x y : Nat} {a1 a2 a3 a4 : Nat} (h1 : a1 < 32) (h2 : a2 < 32) (h3 : a3 < 32) (h4 : a4 < 32) (hx : x < 32) (hy : y < 32) : a1 + 32 * (a2 + 32 * (a3 + 32 * (a4 + 32 * (x + 32 * (y + 32 * (0 + 32 * (0 + 32 * (0 + 32 * (0 + 32 * (3)))))))))) < 2 ^ 64 := by
  exact Nat.lt_of_lt_of_le (nst h1 (nst h2 (nst h3 (nst h4 (nst hx (nst hy (nst (by decide : 0 < 32) (nst (by decide : 0 < 32) (nst (by decide : 0 < 32) (nst (by decide : 0 < 32) ((by decide : 3 < 8)))))))))))) (by decide)
theorem putl_3 {x y : Nat} {a1 a2 a3 a4 a5 a6 : Nat} (h1 : a1 < 32) (h2 : a2 < 32) (h3 : a3 < 32) (h4 : a4 < 32) (h5 : a5 < 32) (h6 : a6 < 32) (hx : x < 32) (hy : y < 32) : a1 + 32 * (a2 + 32 * (a3 + 32 * (a4 + 32 * (a5 + 32 * (a6 + 32 * (x + 32 * (y + 32 * (0 + 32 * (0 + 32 * (4)))))))))) < 2 ^ 64 := by
  exact Nat.lt_of_lt_of_le (nst h1 (nst h2 (nst h3 (nst h4 (nst h5 (nst h6 (nst hx (nst hy (nst (by decide : 0 < 32) (nst (by decide : 0 < 32) ((by decide : 4 < 8)))))))))))) (by decide)
theorem putl_4 {x y : Nat} {a1 a2 a3 a4 a5 a6 a7 a8 : Nat} (h1 : a1 < 32) (h2 : a2 < 32) (h3 : a3 < 32) (h4 : a4 < 32) (h5 : a5 < 32) (h6 : a6 < 32) (h7 : a7 < 32) (h8 : a8 < 32) (hx : x < 32) (hy : y < 32) : a1 + 32 * (a2 + 32 * (a3 + 32 * (a4 + 32 * (a5 + 32 * (a6 + 32 * (a7 + 32 * (a8 + 32 * (x + 32 * (y + 32 * (5)))))))))) < 2 ^ 64 := by
  exact Nat.lt_of_lt_of_le (nst h1 (nst h2 (nst h3 (nst h4 (nst h5 (nst h6 (nst h7 (nst h8 (nst hx (nst hy ((by decide : 5 < 8)))))))))))) (by decide)
section LG
variable {M : Mem} {c : Int}
theorem pk_b (h : wOK M c) : pkN (fun q => M 108 0 q) c < 2 ^ 53 ∧ ∃ g : Nat → Nat, (∀ i : Nat, i ≤ 10 → (g i : Int) = M 108 0 (16 * c + i)) ∧ (∀ i : Nat, 1 ≤ i → i ≤ 10 → g i < 32) ∧ g 0 ≤ 5 ∧ pkN (fun q => M 108 0 q) c = g 1 + 32 * (g 2 + 32 * (g 3 + 32 * (g 4 + 32 * (g 5 + 32 * (g 6 + 32 * (g 7 + 32 * (g 8 + 32 * (g 9 + 32 * (g 10 + 32 * g 0))))))))) := by
  obtain ⟨h1, h2, h3⟩ := h
  obtain ⟨g, hgd⟩ : ∃ g : Nat → Nat, ∀ i : Nat, (M 108 0 (16 * c + i)).toNat = g i := ⟨fun i => (M 108 0 (16 * c + i)).toNat, fun _ => rfl⟩
  have e := pk_val (f := fun q => M 108 0 q) (c := c) (g := g) (fun i _ => hgd i)
  have b : ∀ i : Nat, 1 ≤ i → i ≤ 10 → g i < 32 := fun i a b => by
    have := h1 i (by omega) (by omega)
    have := hgd i
    omega
  have b0 : g 0 ≤ 5 := by
    have := hgd 0
    rw [show 16 * c + ((0 : Nat) : Int) = 16 * c by omega] at this
    omega
  refine ⟨?_, g, fun i hi => ?_, b, b0, e⟩
  · rw [e]
    exact Nat.lt_of_lt_of_le (nst (b 1 (by decide) (by decide)) (nst (b 2 (by decide) (by decide)) (nst (b 3 (by decide) (by decide)) (nst (b 4 (by decide) (by decide)) (nst (b 5 (by decide) (by decide)) (nst (b 6 (by decide) (by decide)) (nst (b 7 (by decide) (by decide)) (nst (b 8 (by decide) (by decide)) (nst (b 9 (by decide) (by decide)) (nst (b 10 (by decide) (by decide)) (Nat.lt_succ_of_le b0))))))))))) (by decide)
  · rw [← hgd]
    by_cases z : i = 0
    · subst z
      rw [show 16 * c + ((0 : Nat) : Int) = 16 * c by omega]
      omega
    · have := h1 i (by omega) (by omega)
      omega
theorem pk_count (h : wOK M c) : (Int64.ofNat (pkN (fun q => M 108 0 q) c / 2 ^ (50 : Int).toNat)).toInt32 = Int32.ofInt (M 108 0 (16 * c)) := by
  obtain ⟨hb, g, hg, h32, h5, e⟩ := pk_b h
  have b1 := h32 1 (by decide) (by decide)
  have b2 := h32 2 (by decide) (by decide)
  have b3 := h32 3 (by decide) (by decide)
  have b4 := h32 4 (by decide) (by decide)
  have b5 := h32 5 (by decide) (by decide)
  have b6 := h32 6 (by decide) (by decide)
  have b7 := h32 7 (by decide) (by decide)
  have b8 := h32 8 (by decide) (by decide)
  have b9 := h32 9 (by decide) (by decide)
  have b10 := h32 10 (by decide) (by decide)
  have e0 := hg 0 (by decide)
  rw [show 16 * c + ((0 : Nat) : Int) = 16 * c by omega] at e0
  have ed : pkN (fun q => M 108 0 q) c / 2 ^ (50 : Int).toNat = g 0 := by
    rw [e, show 2 ^ (50 : Int).toNat = 32*32*32*32*32*32*32*32*32*32 from by decide, ← Nat.div_div_eq_div_mul, ← Nat.div_div_eq_div_mul, ← Nat.div_div_eq_div_mul, ← Nat.div_div_eq_div_mul, ← Nat.div_div_eq_div_mul, ← Nat.div_div_eq_div_mul, ← Nat.div_div_eq_div_mul, ← Nat.div_div_eq_div_mul, ← Nat.div_div_eq_div_mul, nsd b1, nsd b2, nsd b3, nsd b4, nsd b5, nsd b6, nsd b7, nsd b8, nsd b9, nsd b10]
  rw [ed, l_i32 (by omega), e0]
theorem pk_field (h : wOK M c) {j : Nat} (hj : j < 10) : (Int64.ofNat (pkN (fun q => M 108 0 q) c / 2 ^ (5 * j)) &&& 31).toInt32 = Int32.ofInt (M 108 0 (16 * c + ((j : Int) + 1))) := by
  obtain ⟨hb, g, hg, h32, h5, e⟩ := pk_b h
  have b1 := h32 1 (by decide) (by decide)
  have b2 := h32 2 (by decide) (by decide)
  have b3 := h32 3 (by decide) (by decide)
  have b4 := h32 4 (by decide) (by decide)
  have b5 := h32 5 (by decide) (by decide)
  have b6 := h32 6 (by decide) (by decide)
  have b7 := h32 7 (by decide) (by decide)
  have b8 := h32 8 (by decide) (by decide)
  have b9 := h32 9 (by decide) (by decide)
  have b10 := h32 10 (by decide) (by decide)
  have ej := hg (j + 1) (by omega)
  have ea : Int64.ofNat (pkN (fun q => M 108 0 q) c / 2 ^ (5 * j)) &&& 31 = Int64.ofNat (pkN (fun q => M 108 0 q) c / 2 ^ (5 * j) % 32) := by
    apply bv_ext
    have q1 : pkN (fun q => M 108 0 q) c / 2 ^ (5 * j) < 2 ^ 64 := Nat.lt_of_le_of_lt (Nat.div_le_self _ _) (by omega)
    rw [bv_of (by omega)]
    show ((Int64.ofNat _).toBitVec &&& 31#64).toNat = _
    rw [BitVec.toNat_and, bv_of q1]
    show _ &&& (2 ^ 5 - 1) = _
    rw [Nat.and_two_pow_sub_one_eq_mod]
  have ed : pkN (fun q => M 108 0 q) c / 2 ^ (5 * j) % 32 = g (j + 1) := by
    rw [e]
    rcases (by omega : j = 0 ∨ j = 1 ∨ j = 2 ∨ j = 3 ∨ j = 4 ∨ j = 5 ∨ j = 6 ∨ j = 7 ∨ j = 8 ∨ j = 9) with rfl | rfl | rfl | rfl | rfl | rfl | rfl | rfl | rfl | rfl
    · rw [show 2 ^ (5 * 0) = 1 from by decide, Nat.div_one]
      exact nsm b1
    · rw [show 2 ^ (5 * 1) = 32 from by decide, nsd b1]
      exact nsm b2
    · rw [show 2 ^ (5 * 2) = 32*32 from by decide, ← Nat.div_div_eq_div_mul, nsd b1, nsd b2]
      exact nsm b3
    · rw [show 2 ^ (5 * 3) = 32*32*32 from by decide, ← Nat.div_div_eq_div_mul, ← Nat.div_div_eq_div_mul, nsd b1, nsd b2, nsd b3]
      exact nsm b4
    · rw [show 2 ^ (5 * 4) = 32*32*32*32 from by decide, ← Nat.div_div_eq_div_mul, ← Nat.div_div_eq_div_mul, ← Nat.div_div_eq_div_mul, nsd b1, nsd b2, nsd b3, nsd b4]
      exact nsm b5
    · rw [show 2 ^ (5 * 5) = 32*32*32*32*32 from by decide, ← Nat.div_div_eq_div_mul, ← Nat.div_div_eq_div_mul, ← Nat.div_div_eq_div_mul, ← Nat.div_div_eq_div_mul, nsd b1, nsd b2, nsd b3, nsd b4, nsd b5]
      exact nsm b6
    · rw [show 2 ^ (5 * 6) = 32*32*32*32*32*32 from by decide, ← Nat.div_div_eq_div_mul, ← Nat.div_div_eq_div_mul, ← Nat.div_div_eq_div_mul, ← Nat.div_div_eq_div_mul, ← Nat.div_div_eq_div_mul, nsd b1, nsd b2, nsd b3, nsd b4, nsd b5, nsd b6]
      exact nsm b7
    · rw [show 2 ^ (5 * 7) = 32*32*32*32*32*32*32 from by decide, ← Nat.div_div_eq_div_mul, ← Nat.div_div_eq_div_mul, ← Nat.div_div_eq_div_mul, ← Nat.div_div_eq_div_mul, ← Nat.div_div_eq_div_mul, ← Nat.div_div_eq_div_mul, nsd b1, nsd b2, nsd b3, nsd b4, nsd b5, nsd b6, nsd b7]
      exact nsm b8
    · rw [show 2 ^ (5 * 8) = 32*32*32*32*32*32*32*32 from by decide, ← Nat.div_div_eq_div_mul, ← Nat.div_div_eq_div_mul, ← Nat.div_div_eq_div_mul, ← Nat.div_div_eq_div_mul, ← Nat.div_div_eq_div_mul, ← Nat.div_div_eq_div_mul, ← Nat.div_div_eq_div_mul, nsd b1, nsd b2, nsd b3, nsd b4, nsd b5, nsd b6, nsd b7, nsd b8]
      exact nsm b9
    · rw [show 2 ^ (5 * 9) = 32*32*32*32*32*32*32*32*32 from by decide, ← Nat.div_div_eq_div_mul, ← Nat.div_div_eq_div_mul, ← Nat.div_div_eq_div_mul, ← Nat.div_div_eq_div_mul, ← Nat.div_div_eq_div_mul, ← Nat.div_div_eq_div_mul, ← Nat.div_div_eq_div_mul, ← Nat.div_div_eq_div_mul, nsd b1, nsd b2, nsd b3, nsd b4, nsd b5, nsd b6, nsd b7, nsd b8, nsd b9]
      exact nsm b10
  have := h32 (j + 1) (by omega) (by omega)
  rw [ea, ed, l_i32 (by omega), ej]
  rfl
/-- a word put behind the others -/
theorem pk_put {ln ct wd : Int} (h : wNew M c ln ct wd) : ((Int64.ofNat (pkN (fun q => M 108 0 q) c) &&& 1125899906842623) ||| ((Int32.ofInt (ln + 32 * ct)).toInt64 <<< ((Int32.ofInt (10 * wd)).toInt64 &&& 63))) ||| ((Int32.ofInt (wd + 1)).toInt64 <<< ((Int32.ofInt 50).toInt64 &&& 63)) = Int64.ofNat (pkN (fun q => wW M c ln ct wd 108 0 q) c) := by
  obtain ⟨-, hk, hln, hct, hwd, hz⟩ := h
  obtain ⟨hb, g, hg, h32, h5, e⟩ := pk_b hk
  have b1 := h32 1 (by decide) (by decide)
  have b2 := h32 2 (by decide) (by decide)
  have b3 := h32 3 (by decide) (by decide)
  have b4 := h32 4 (by decide) (by decide)
  have b5 := h32 5 (by decide) (by decide)
  have b6 := h32 6 (by decide) (by decide)
  have b7 := h32 7 (by decide) (by decide)
  have b8 := h32 8 (by decide) (by decide)
  have b9 := h32 9 (by decide) (by decide)
  have b10 := h32 10 (by decide) (by decide)
  have hz' : ∀ i : Nat, 1 + 2 * wd ≤ i → i ≤ 10 → g i = 0 := fun i a b => by
    have h1 := hg i b
    have h2 := hz i a (by omega)
    omega
  obtain ⟨f, hf⟩ : ∃ f : Nat → Nat, ∀ i : Nat, f i = (if i = 0 then (wd + 1).toNat else if i = (1 + 2 * wd).toNat then ln.toNat else if i = (2 + 2 * wd).toNat then ct.toNat else if (1 + 2 * wd).toNat ≤ i then 0 else g i) := ⟨fun i => if i = 0 then (wd + 1).toNat else if i = (1 + 2 * wd).toNat then ln.toNat else if i = (2 + 2 * wd).toNat then ct.toNat else if (1 + 2 * wd).toNat ≤ i then 0 else g i, fun _ => rfl⟩
  have en := pk_val (f := fun q => wW M c ln ct wd 108 0 q) (c := c) (g := f) (fun i hi => by
    rw [hf]
    have h1 := hg i hi
    simp only [wW, up_at]
    by_cases z0 : i = 0
    · subst z0
      rw [if_pos ⟨trivial, trivial, by omega⟩, if_pos rfl]
    · rw [if_neg (by omega), if_neg z0]
      by_cases z2 : i = (2 + 2 * wd).toNat
      · rw [if_pos ⟨trivial, trivial, by omega⟩, if_neg (by omega), if_pos z2]
      · rw [if_neg (by omega), if_neg z2]
        by_cases z1 : i = (1 + 2 * wd).toNat
        · rw [if_pos ⟨trivial, trivial, by omega⟩, if_pos z1]
        · rw [if_neg (by omega), if_neg z1]
          by_cases z3 : (1 + 2 * wd).toNat ≤ i
          · rw [if_pos z3, hz i (by omega) (by omega)]
            rfl
          · rw [if_neg z3]
            omega)
  apply bv_ext
  have s50 := sh_l (x := (Int32.ofInt (wd + 1)).toInt64) (y := 50) (by decide) (by decide)
  rw [bv_i (by omega) (by omega)] at s50
  have s10 := sh_l (x := (Int32.ofInt (ln + 32 * ct)).toInt64) (y := 10 * wd) (by omega) (by omega)
  rw [bv_i (by omega) (by omega)] at s10
  have and0 : (Int64.ofNat (pkN (fun q => M 108 0 q) c) &&& 1125899906842623).toBitVec.toNat = pkN (fun q => M 108 0 q) c % 1125899906842624 := by
    show ((Int64.ofNat _).toBitVec &&& 1125899906842623#64).toNat = _
    rw [BitVec.toNat_and, bv_of (by omega)]
    show _ &&& (2 ^ 50 - 1) = _
    rw [Nat.and_two_pow_sub_one_eq_mod]
  have ors : ∀ x y : Int64, (x ||| y).toBitVec.toNat = x.toBitVec.toNat ||| y.toBitVec.toNat := fun x y => by
    show (x.toBitVec ||| y.toBitVec).toNat = _
    rw [BitVec.toNat_or]
  rw [ors, ors, and0, s10, s50, e, en]
  have v1 : (ln + 32 * ct).toNat = ln.toNat + 32 * ct.toNat := by omega
  have w1 : (wd + 1).toNat = wd.toNat + 1 := by omega
  have hln' : ln.toNat < 32 := by omega
  have hct' : ct.toNat < 32 := by omega
  rw [v1, w1]
  generalize ln.toNat = x at *
  generalize ct.toNat = y at *
  clear s10 s50 and0 ors v1 w1 e en hb hg hz hk hln hct h5
  generalize g 0 = g0
  rcases (by omega : wd = 0 ∨ wd = 1 ∨ wd = 2 ∨ wd = 3 ∨ wd = 4) with rfl | rfl | rfl | rfl | rfl
  · rw [hz' 1 (by decide) (by decide), hz' 2 (by decide) (by decide), hz' 3 (by decide) (by decide), hz' 4 (by decide) (by decide), hz' 5 (by decide) (by decide), hz' 6 (by decide) (by decide), hz' 7 (by decide) (by decide), hz' 8 (by decide) (by decide), hz' 9 (by decide) (by decide), hz' 10 (by decide) (by decide)]
    have d0 : f 0 = 0 + 1 := hf 0
    have d1 : f 1 = x := hf 1
    have d2 : f 2 = y := hf 2
    have d3 : f 3 = 0 := hf 3
    have d4 : f 4 = 0 := hf 4
    have d5 : f 5 = 0 := hf 5
    have d6 : f 6 = 0 := hf 6
    have d7 : f 7 = 0 := hf 7
    have d8 : f 8 = 0 := hf 8
    have d9 : f 9 = 0 := hf 9
    have d10 : f 10 = 0 := hf 10
    rw [d1, d2, d3, d4, d5, d6, d7, d8, d9, d10, d0]
    exact (put_0  hln' hct').trans (bv_of (putl_0  hln' hct')).symm
  · rw [hz' 3 (by decide) (by decide), hz' 4 (by decide) (by decide), hz' 5 (by decide) (by decide), hz' 6 (by decide) (by decide), hz' 7 (by decide) (by decide), hz' 8 (by decide) (by decide), hz' 9 (by decide) (by decide), hz' 10 (by decide) (by decide)]
    have d0 : f 0 = 1 + 1 := hf 0
    have d1 : f 1 = g 1 := hf 1
    have d2 : f 2 = g 2 := hf 2
    have d3 : f 3 = x := hf 3
    have d4 : f 4 = y := hf 4
    have d5 : f 5 = 0 := hf 5
    have d6 : f 6 = 0 := hf 6
    have d7 : f 7 = 0 := hf 7
    have d8 : f 8 = 0 := hf 8
    have d9 : f 9 = 0 := hf 9
    have d10 : f 10 = 0 := hf 10
    rw [d1, d2, d3, d4, d5, d6, d7, d8, d9, d10, d0]
    exact (put_1 b1 b2 hln' hct').trans (bv_of (putl_1 b1 b2 hln' hct')).symm
  · rw [hz' 5 (by decide) (by decide), hz' 6 (by decide) (by decide), hz' 7 (by decide) (by decide), hz' 8 (by decide) (by decide), hz' 9 (by decide) (by decide), hz' 10 (by decide) (by decide)]
    have d0 : f 0 = 2 + 1 := hf 0
    have d1 : f 1 = g 1 := hf 1
    have d2 : f 2 = g 2 := hf 2
    have d3 : f 3 = g 3 := hf 3
    have d4 : f 4 = g 4 := hf 4
    have d5 : f 5 = x := hf 5
    have d6 : f 6 = y := hf 6
    have d7 : f 7 = 0 := hf 7
    have d8 : f 8 = 0 := hf 8
    have d9 : f 9 = 0 := hf 9
    have d10 : f 10 = 0 := hf 10
    rw [d1, d2, d3, d4, d5, d6, d7, d8, d9, d10, d0]
    exact (put_2 b1 b2 b3 b4 hln' hct').trans (bv_of (putl_2 b1 b2 b3 b4 hln' hct')).symm
  · rw [hz' 7 (by decide) (by decide), hz' 8 (by decide) (by decide), hz' 9 (by decide) (by decide), hz' 10 (by decide) (by decide)]
    have d0 : f 0 = 3 + 1 := hf 0
    have d1 : f 1 = g 1 := hf 1
    have d2 : f 2 = g 2 := hf 2
    have d3 : f 3 = g 3 := hf 3
    have d4 : f 4 = g 4 := hf 4
    have d5 : f 5 = g 5 := hf 5
    have d6 : f 6 = g 6 := hf 6
    have d7 : f 7 = x := hf 7
    have d8 : f 8 = y := hf 8
    have d9 : f 9 = 0 := hf 9
    have d10 : f 10 = 0 := hf 10
    rw [d1, d2, d3, d4, d5, d6, d7, d8, d9, d10, d0]
    exact (put_3 b1 b2 b3 b4 b5 b6 hln' hct').trans (bv_of (putl_3 b1 b2 b3 b4 b5 b6 hln' hct')).symm
  · rw [hz' 9 (by decide) (by decide), hz' 10 (by decide) (by decide)]
    have d0 : f 0 = 4 + 1 := hf 0
    have d1 : f 1 = g 1 := hf 1
    have d2 : f 2 = g 2 := hf 2
    have d3 : f 3 = g 3 := hf 3
    have d4 : f 4 = g 4 := hf 4
    have d5 : f 5 = g 5 := hf 5
    have d6 : f 6 = g 6 := hf 6
    have d7 : f 7 = g 7 := hf 7
    have d8 : f 8 = g 8 := hf 8
    have d9 : f 9 = x := hf 9
    have d10 : f 10 = y := hf 10
    rw [d1, d2, d3, d4, d5, d6, d7, d8, d9, d10, d0]
    exact (put_4 b1 b2 b3 b4 b5 b6 b7 b8 hln' hct').trans (bv_of (putl_4 b1 b2 b3 b4 b5 b6 b7 b8 hln' hct')).symm
theorem pk_zero : (Int64.ofNat ((0 : Fin 2) : Nat)) = Int64.ofNat (pkN (fun q => wZ M c 108 0 q) c) := by
  have e := pk_val (f := fun q => wZ M c 108 0 q) (c := c) (g := fun _ => 0) (fun i hi => by
    unfold wZ
    rw [if_pos ⟨rfl, rfl, by omega, by omega⟩]
    rfl)
  rw [e]
  rfl
/-- another cell's long stays -/
theorem pk_other {M' : Mem} {c' : Int} (h : ∀ i : Int, 0 ≤ i → i ≤ 10 → M' 108 0 (16 * c' + i) = M 108 0 (16 * c' + i)) : pkN (fun q => M' 108 0 q) c' = pkN (fun q => M 108 0 q) c' := by
  have e := pk_val (f := fun q => M' 108 0 q) (c := c') (g := fun i => (M 108 0 (16 * c' + i)).toNat) (fun i hi => by
    rw [h i (by omega) (by omega)])
  have e2 := pk_val (f := fun q => M 108 0 q) (c := c') (g := fun i => (M 108 0 (16 * c' + i)).toNat) (fun i hi => rfl)
  rw [e, e2]
end LG
section LH
variable {p : Program} {l : Launch} {e : Env} {R : Room} {s : State} {m : MethodId} {args : Array Value} {below : List Frame} {meth : Method} {c : Code} {H : Heap} {locs : List Loc} {cells slots : Nat} {Q : State → Prop}
variable {cc : ByteArray} {nL : Nat} {own : String} {pc : Nat} {ls : Array Slot} {rest : List Value} {G : Gx} {e0 : Nat} {α : Ax} {κ : Nat → Int} {B : Nat} {M : Mem} {ret : Option FieldType}
theorem ent_108 (j : Int) : ent G e0 α M 108 j = .inl (G.2.2.2.1, 10, .inr (.inl (fun k => pkW (fun q => M 108 j q) k))) := by
  unfold ent
  rw [if_neg (by omega), if_neg (by omega), if_neg (by omega), if_neg (by decide), if_neg (by decide), if_pos (by decide)]
  rfl
theorem wl_ld {ce : Int} (X : CX p m c cc nL s args own G B κ meth ret) (hR : Rp G e0 α κ B M H) (hc : 0 ≤ ce ∧ ce < 10) (hd : decode cc pc = .ok (.laload, 1))
    (kk : W p l e R s m args below meth c H locs cells slots Q (F0 m (pc + 1) ls (.long (Int64.ofNat (pkN (fun q => M 108 0 q) ce)) :: rest))) : W p l e R s m args below meth c H locs cells slots Q (F0 m pc ls (.int (Int32.ofInt ce) :: .ref (α 108 0) :: rest)) := by
  obtain ⟨h1, h2⟩ := inR_in (i := ce) (n := 10) hc.1 (by omega) (by decide)
  have ho : okk κ 108 0 := okf X.2.2.1 rfl
  exact va_lald X.1.1 X.1.2.1 X.2.1.1 (hR.one (by decide) ho (ent_108 0)) 0 2 rfl rfl h1 hd (by show W p l e R s m args below meth c H locs cells slots Q (F0 m (pc + 1) ls (.long (Int64.ofNat (pkN (fun q => M 108 0 q) ((Int32.ofInt ce).toNatClampNeg : Nat))) :: rest)); rw [h2]; exact kk)
/-- a long is stored -/
theorem wl_st {ce : Int} {x : Int64} {M' : Mem} (X : CX p m c cc nL s args own G B κ meth ret) (hR : Rp G e0 α κ B M H) (hS : va_S (fun q => B ≤ q) s.heap H locs) (hc : 0 ≤ ce ∧ ce < 10) (hx : x = Int64.ofNat (pkN (fun q => M' 108 0 q) ce)) (ho : ∀ c' : Int, c' ≠ ce → pkN (fun q => M' 108 0 q) c' = pkN (fun q => M 108 0 q) c') (hM : ∀ s' j k, (s' ≠ 108 ∨ j ≠ 0) → M' s' j k = M s' j k) (hr : ∀ k, inR (M' 108 0 k)) (hd : decode cc pc = .ok (.lastore, 1))
    (kk : ∀ (H1 : Heap) (locs1 : List Loc), Rp G e0 α κ B M' H1 → va_S (fun q => B ≤ q) s.heap H1 locs1 → W p l e R s m args below meth c H1 locs1 cells slots Q (F0 m (pc + 1) ls rest)) : W p l e R s m args below meth c H locs cells slots Q (F0 m pc ls (.long x :: .int (Int32.ofInt ce) :: .ref (α 108 0) :: rest)) := by
  obtain ⟨h1, h2⟩ := inR_in (i := ce) (n := 10) hc.1 (by omega) (by decide)
  have hok : okk κ 108 0 := okf X.2.2.1 rfl
  have hq := hR.ne (s := 108) (by decide) hok
  rw [ent_108] at hq
  refine W.last X.1.1 X.1.2.1 hq ((X.2.1.1.2 2 _ rfl).1 _ (fun k : Nat => .long (pkW (fun q => M 108 0 q) k))) (fun q => by cases q) (by show ¬ (Int32.ofInt ce < 0 ∨ (arrV _ _ _).slots.size ≤ _); rw [arrV_size]; exact h1) rfl rfl hd fun H1 e z oq => ?_
  obtain ⟨r1, r2, r3, r4, r5⟩ := hR
  have he : va_at G.1 vwCl (α 108 0, ent G e0 α M' 108 0) H1 := by
    rw [ent_108]
    show H1[α 108 0]? = some (vp_cell _ _)
    rw [e, vp_cell_l, vp_cell_l, arrV_store]
    congr 2
    funext q
    by_cases hq : q = (Int32.ofInt ce).toNatClampNeg
    · rw [hq]
      simp only [updV, if_true]
      rw [hx]
      show _ = Value.long (Int64.ofNat (pkN (fun q => M' 108 0 q) (((Int32.ofInt ce).toNatClampNeg : Nat) : Int)))
      rw [h2]
    · simp only [updV, if_neg hq]
      show Value.long (Int64.ofNat (pkN (fun q => M 108 0 q) (q : Int))) = Value.long (Int64.ofNat (pkN (fun q => M' 108 0 q) (q : Int)))
      rw [ho q (fun z => hq (by omega))]
  have hl : ∀ s', 12 ≤ s' → s' < 24 → ∀ k', M' s' 0 k' = M s' 0 k' := fun s' a b k' => hM _ _ _ (Or.inl (by omega))
  refine kk H1 _ ⟨fun s' j' hs' ho' => ?_, r2, fun s' j' k' => ?_, fun j' ho' => ?_, fun L a b => ?_⟩ (hS.put z oq (r1 108 0 (by decide) hok).2)
  · by_cases e8 : s' = 108 ∧ j' = 0
    · obtain ⟨rfl, rfl⟩ := e8
      exact ⟨he, (r1 108 0 (by decide) hok).2⟩
    · refine ⟨?_, (r1 s' j' hs' ho').2⟩
      rw [ent_congr (fun k' => hM s' j' k' (by omega)) (fun t a b k' => hl t a b k')]
      exact (r1 s' j' hs' ho').1.kept (oq _ (fun z => e8 (r2 s' j' 108 0 hs' ho' (by decide) hok z)))
  · by_cases e8 : s' = 108 ∧ j' = 0
    · obtain ⟨rfl, rfl⟩ := e8
      exact hr k'
    · rw [hM s' j' k' (by omega)]
      exact r3 s' j' k'
  · rw [hM 1 j' 0 (Or.inl (by decide))]
    exact r4 j' ho'
  · rw [hl L (by omega) (by omega), hl (L + 6) (by omega) (by omega)]
    obtain ⟨a1, a2, a3, a4, a5⟩ := r5 L a b
    refine ⟨a1, a2, a3, fun i i1 i2 => ?_, a5⟩
    rw [hl L (by omega) (by omega)]
    exact a4 i i1 i2
theorem wl_zero {ce : Int} (X : CX p m c cc nL s args own G B κ meth ret) (hR : Rp G e0 α κ B M H) (hS : va_S (fun q => B ≤ q) s.heap H locs) (hc : 0 ≤ ce ∧ ce < 10) (hd0 : decode cc pc = .ok (.lconst 0, 1)) (hd : decode cc (pc + 1) = .ok (.lastore, 1))
    (kk : ∀ (H1 : Heap) (locs1 : List Loc), Rp G e0 α κ B (wZ M ce) H1 → va_S (fun q => B ≤ q) s.heap H1 locs1 → W p l e R s m args below meth c H1 locs1 cells slots Q (F0 m (pc + 2) ls rest)) : W p l e R s m args below meth c H locs cells slots Q (F0 m pc ls (.int (Int32.ofInt ce) :: .ref (α 108 0) :: rest)) := by
  refine lv_lconst X.1.1 X.1.2.1 hd0 rfl ?_
  refine wl_st X hR hS hc pk_zero (fun c' hc' => pk_other (fun i i0 i1 => ?_)) (fun s' j k h => ?_) (fun k => ?_) hd kk
  · unfold wZ
    rw [if_neg (by omega)]
  · unfold wZ
    rw [if_neg (by omega)]
  · unfold wZ
    split
    · exact ⟨by decide, by decide⟩
    · exact hR.r 108 0 k
theorem wl_word {ce ln ct wd : Int} (X : CX p m c cc nL s args own G B κ meth ret) (hR : Rp G e0 α κ B M H) (hS : va_S (fun q => B ≤ q) s.heap H locs) (h : wNew M ce ln ct wd) (hd : decode cc pc = .ok (.lastore, 1))
    (kk : ∀ (H1 : Heap) (locs1 : List Loc), Rp G e0 α κ B (wW M ce ln ct wd) H1 → va_S (fun q => B ≤ q) s.heap H1 locs1 → W p l e R s m args below meth c H1 locs1 cells slots Q (F0 m (pc + 1) ls rest)) : W p l e R s m args below meth c H locs cells slots Q (F0 m pc ls (.long (((Int64.ofNat (pkN (fun q => M 108 0 q) ce) &&& 1125899906842623) ||| ((Int32.ofInt (ln + 32 * ct)).toInt64 <<< ((Int32.ofInt (10 * wd)).toInt64 &&& 63))) ||| ((Int32.ofInt (wd + 1)).toInt64 <<< ((Int32.ofInt 50).toInt64 &&& 63))) :: .int (Int32.ofInt ce) :: .ref (α 108 0) :: rest)) := by
  obtain ⟨hc, h2, h3, h4, h5, h6⟩ := id h
  refine wl_st X hR hS hc (pk_put h) (fun c' hc' => pk_other (fun i i0 i1 => ?_)) (fun s' j k h => ?_) (fun k => ?_) hd kk
  · simp only [wW, up_at]
    rw [if_neg (by omega), if_neg (by omega), if_neg (by omega)]
  · simp only [wW, up_at]
    rw [if_neg (by omega), if_neg (by omega), if_neg (by omega)]
  · simp only [wW, up_at]
    split
    · exact ⟨by omega, by omega⟩
    · split
      · exact ⟨by omega, by omega⟩
      · split
        · exact ⟨by omega, by omega⟩
        · exact hR.r 108 0 k
end LH
theorem rm_ok2 {R : Room} {k kc maxL : Nat} (hR : RmOK R kc) (h : k + 2 ≤ kc) (hm : maxL ≤ 57) : (rmL k).frames + 1 ≤ R.frames ∧ 8 + (maxL + 11) + (rmL k).locals ≤ R.locals := by
  obtain ⟨h1, h2⟩ := hR
  simp only [rmL]
  omega
