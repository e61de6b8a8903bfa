/-! the abstract memory: M s j k = what the place k of the j-th thing of the site s holds (a number; of a reference: the number of the thing).
Sites: 1 Cell, 2 Column, 3 Flow, 4 Grid, 5 Heights, 6 Row, 7 Sheets, 8 Trial, 9 Widths, 10 TablePages, 11 TablePagesModel; 12..17 the lists columns, rows, cells, heads, body, feet (place -1: the size, -2: modCount); 18..23 their arrays (place -1: how many places); 24.. the arrays of numbers. -/
abbrev Mem : Type := Nat → Int → Int → Int
def up (M : Mem) (s : Nat) (j k v : Int) : Mem := fun s' j' k' => if s' = s ∧ j' = j ∧ k' = k then v else M s' j' k'
def inR (x : Int) : Prop := -2147483648 ≤ x ∧ x ≤ 2147483647
def bit (x : Int) : Prop := x = 0 ∨ x = 1
theorem up_eq (M : Mem) (s : Nat) (j k v : Int) : up M s j k v s j k = v := by simp [up]
theorem up_at (M : Mem) (s : Nat) (j k v : Int) (s' : Nat) (j' k' : Int) : up M s j k v s' j' k' = if s' = s ∧ j' = j ∧ k' = k then v else M s' j' k' := rfl
theorem up_s (M : Mem) {s : Nat} (j k v : Int) {s' : Nat} (h : s' ≠ s) (j' k' : Int) : up M s j k v s' j' k' = M s' j' k' := by simp [up, h]
theorem up_j (M : Mem) (s : Nat) {j : Int} (k v : Int) (s' : Nat) {j' : Int} (h : j' ≠ j) (k' : Int) : up M s j k v s' j' k' = M s' j' k' := by simp [up, h]
theorem up_k (M : Mem) (s : Nat) (j : Int) {k : Int} (v : Int) (s' : Nat) (j' : Int) {k' : Int} (h : k' ≠ k) : up M s j k v s' j' k' = M s' j' k' := by simp [up, h]
abbrev Gx : Type := va_G × ClassId × ClassId × ClassId × ClassId × Nat
abbrev Ax : Type := Nat → Int → Nat
def alL : List Nat := [4, 12, 12, 4, 50, 50, 50, 50, 29, 6, 100, 29, 4, 6, 904, 904, 904, 904, 904, 904, 5424, 29, 6, 6, 2500, 6, 6, 6, 6, 6, 6, 6, 6, 6, 6, 6, 29, 29, 29, 72, 3, 100, 100, 100, 100, 174, 1200, 1200, 100, 100, 100, 100, 100, 400, 116, 24, 6, 6, 6, 6, 6, 29, 60, 60, 60, 60, 1100, 1100, 1100, 1100, 1000, 1000, 1100, 1100, 1100, 1100, 1000, 6000, 6, 1, 16, 30, 10, 60, 10, 10, 60, 9, 6, 30, 13, 60, 10, 10]
def akL : List Nat := [0, 0, 0, 0, 0, 0, 0, 1, 0, 1, 0, 0, 0, 0, 0, 0, 0, 0, 0, 0, 0, 0, 0, 0, 0, 0, 0, 0, 0, 0, 0, 0, 0, 0, 0, 0, 0, 0, 0, 0, 0, 0, 0, 0, 0, 0, 0, 0, 0, 0, 0, 0, 0, 0, 0, 0, 0, 0, 0, 0, 0, 0, 0, 0, 0, 0, 0, 0, 0, 0, 0, 0, 0, 0, 0, 0, 0, 0, 0, 0, 0, 0, 0, 0, 3, 0, 0, 0, 0, 0, 0, 0, 0, 0]
def kcL : List Nat := [5, 5, 5, 0, 0, 1, 5, 1, 0, 1, 0, 6, 0, 0, 0, 0, 0, 0, 5, 5, 5, 5, 5, 5, 2, 2, 2, 3, 0, 0, 0, 0, 0, 0, 1, 1, 4, 4, 1, 1, 1, 1, 1, 1, 1, 1, 0, 0, 0, 1, 1, 1, 1, 1, 1, 1, 6, 6, 6, 6, 6, 6, 6, 6, 6, 6, 6, 6, 6, 6, 6, 6, 6, 6, 6, 6, 6, 6, 6, 6, 6, 6, 6, 6, 6, 6, 6, 6, 6, 6, 6, 6, 6, 6, 6, 6, 6, 6, 6, 6, 6, 6, 6, 6, 0, 0, 0, 0, 0, 0, 0, 0, 0, 0, 5, 5, 5, 5]
def alen (s : Nat) : Nat := alL.getD (s - 24) 0
def akd (s : Nat) : Nat := akL.getD (s - 24) 0
def kcode (s : Nat) : Nat := kcL.getD s 0
/-- of which class the things of a list are -/
def lcl (s : Nat) : Nat := if s = 12 then 2 else if s = 14 then 1 else 6
def okk (κ : Nat → Int) (s : Nat) (j : Int) : Prop := 0 ≤ j ∧ j < κ s
def kst (κ : Nat → Int) (s : Nat) : Int := if kcode s = 0 then 1 else if kcode s = 1 then 2 else if kcode s = 2 then κ 1 else if kcode s = 3 then κ 2 else if kcode s = 4 then κ 6 else if kcode s = 6 then 0 else κ s
def kOK (κ : Nat → Int) : Prop := ∀ s, κ s = kst κ s
theorem okf {κ : Nat → Int} (h : kOK κ) {s : Nat} (hc : kcode s = 0) : okk κ s 0 := by
  have e := h s
  simp only [kst, hc, if_true] at e
  exact ⟨Int.le_refl 0, by omega⟩
theorem okp {κ : Nat → Int} (h : kOK κ) {s : Nat} (hc : kcode s = 1) {j : Int} (hj : 0 ≤ j ∧ j < 2) : okk κ s j := by
  have e := h s
  simp only [kst, hc, if_true] at e
  exact ⟨hj.1, by rw [e]; simpa using hj.2⟩
theorem ok2 {κ : Nat → Int} (h : kOK κ) {s : Nat} (hc : kcode s = 2) {j : Int} (hj : okk κ 1 j) : okk κ s j := by
  have e := h s
  simp only [kst, hc, if_true] at e
  exact ⟨hj.1, by rw [e]; simpa using hj.2⟩
theorem ok3 {κ : Nat → Int} (h : kOK κ) {s : Nat} (hc : kcode s = 3) {j : Int} (hj : okk κ 2 j) : okk κ s j := by
  have e := h s
  simp only [kst, hc, if_true] at e
  exact ⟨hj.1, by rw [e]; simpa using hj.2⟩
theorem ok4 {κ : Nat → Int} (h : kOK κ) {s : Nat} (hc : kcode s = 4) {j : Int} (hj : okk κ 6 j) : okk κ s j := by
  have e := h s
  simp only [kst, hc, if_true] at e
  exact ⟨hj.1, by rw [e]; simpa using hj.2⟩
def obj (α : Ax) (M : Mem) (s : Nat) (j : Int) : va_E := match s with
  | 1 => .inr (1, [.ref (α 6 (M 1 j 0)), .int (Int32.ofInt (M 1 j 1)), .int (Int32.ofInt (M 1 j 2)), .int (Int32.ofInt (M 1 j 3)), .ref (α 24 j), .ref (α 25 j), .ref (α 26 j), .int (Int32.ofInt (M 1 j 7)), .int (Int32.ofInt (M 1 j 8)), .int (Int32.ofInt (M 1 j 9)), .int (Int32.ofInt (M 1 j 10)), .int (Int32.ofInt (M 1 j 11)), .int (Int32.ofInt (M 1 j 12))])
  | 2 => .inr (2, [.int (Int32.ofInt (M 2 j 0)), .int (Int32.ofInt (M 2 j 1)), .ref (α 27 j), .int (Int32.ofInt (M 2 j 3))])
  | 3 => .inr (3, [.ref (α 4 0), .ref (α 5 0), .ref (α 7 0), .ref (α 28 j), .ref (α 29 j), .ref (α 30 j), .ref (α 31 j), .ref (α 32 j), .int (Int32.ofInt (M 3 j 8)), .int (Int32.ofInt (M 3 j 9)), .int (Int32.ofInt (M 3 j 10)), .int (Int32.ofInt (M 3 j 11)), .int (Int32.ofInt (M 3 j 12)), .int (Int32.ofInt (M 3 j 13))])
  | 4 => .inr (4, [.ref (α 12 0), .ref (α 13 0), .ref (α 14 0), .ref (α 15 0), .ref (α 16 0), .ref (α 17 0), .ref (α 33 j), .int (Int32.ofInt (M 4 j 7))])
  | 5 => .inr (5, [.ref (α 4 0), .ref (α 34 j), .ref (α 35 j)])
  | 6 => .inr (6, [.int (Int32.ofInt (M 6 j 0)), .int (Int32.ofInt (M 6 j 1)), .int (Int32.ofInt (M 6 j 2)), .int (Int32.ofInt (M 6 j 3)), .ref (α 36 j), .ref (α 37 j), .int (Int32.ofInt (M 6 j 6))])
  | 7 => .inr (7, [.int (Int32.ofInt (M 7 j 0)), .int (Int32.ofInt (M 7 j 1)), .int (Int32.ofInt (M 7 j 2)), .int (Int32.ofInt (M 7 j 3)), .ref (α 38 j), .ref (α 39 j), .ref (α 40 j), .ref (α 41 j), .ref (α 42 j), .ref (α 43 j), .ref (α 44 j), .ref (α 45 j)])
  | 8 => .inr (8, [.ref (α 4 0), .ref (α 9 1), .ref (α 5 1), .ref (α 46 j), .ref (α 47 j), .ref (α 48 j)])
  | 9 => .inr (9, [.ref (α 4 0), .ref (α 49 j), .ref (α 50 j), .ref (α 51 j), .ref (α 52 j), .ref (α 53 j), .ref (α 54 j), .ref (α 55 j)])
  | 10 => .inr (10, [.ref (α 4 0), .ref (α 9 0), .ref (α 5 0), .ref (α 8 0), .ref (α 3 0), .ref (α 7 0), .ref (α 7 1), .int (Int32.ofInt (M 10 j 7)), .int (Int32.ofInt (M 10 j 8)), .int (Int32.ofInt (M 10 j 9)), .int (Int32.ofInt (M 10 j 10))])
  | _ => .inl (0, 0, .inl (fun _ => 0))
def NS : Nat := 118
/-- a long of the law's row of words: five words of ten bits (length, cut), and above them how many; of cell c: how many at 16 c, the i-th length at 16 c + 1 + 2 i, its cut behind it -/
def pkN (f : Int → Int) (c : Int) : Nat := (f (16 * c + 1)).toNat + 32 * ((f (16 * c + 2)).toNat + 32 * ((f (16 * c + 3)).toNat + 32 * ((f (16 * c + 4)).toNat + 32 * ((f (16 * c + 5)).toNat + 32 * ((f (16 * c + 6)).toNat + 32 * ((f (16 * c + 7)).toNat + 32 * ((f (16 * c + 8)).toNat + 32 * ((f (16 * c + 9)).toNat + 32 * ((f (16 * c + 10)).toNat + 32 * (f (16 * c)).toNat)))))))))
def pkW (f : Int → Int) (c : Int) : Int64 := Int64.ofNat (pkN f c)
/-- the list s: modCount, its array (the empty one of the class, at G.2.2.2.2.2, as long as nothing was put in), its size -/
def ent (G : Gx) (e0 : Nat) (α : Ax) (M : Mem) (s : Nat) (j : Int) : va_E :=
  if s < 12 then obj α M s j
  else if s < 18 then .inr (0, [.int (Int32.ofInt (M s 0 (-2))), .ref (if M (s + 6) 0 (-1) = 0 then e0 else α (s + 6) 0), .int (Int32.ofInt (M s 0 (-1)))])
  else if s < 24 then .inl (G.2.2.2.2.1, (M s 0 (-1)).toNat, .inr (.inr (.inr (.inr (fun k => if (k : Int) < M (s - 6) 0 (-1) then some (α (lcl (s - 6)) (M (s - 6) 0 k)) else none)))))
  else if akd s = 0 then .inl (G.2.1, alen s, .inl (fun k => Int32.ofInt (M s j k)))
  else if akd s = 1 then .inl (G.2.2.1, alen s, .inl (fun k => Int32.ofInt (M s j k)))
  else if akd s = 3 then .inl (G.2.2.2.1, alen s, .inr (.inl (fun k => pkW (fun q => M s j q) k)))
  else .inl (G.2.2.2.1, alen s, .inr (.inl (fun k => (Int32.ofInt (M s j k)).toInt64)))
theorem obj_congr {α : Ax} {M1 M2 : Mem} {s : Nat} {j : Int} (h : ∀ k, M1 s j k = M2 s j k) : obj α M1 s j = obj α M2 s j := by
  unfold obj
  split <;> simp only [h]
theorem ent_congr {G : Gx} {e0 : Nat} {α : Ax} {M1 M2 : Mem} {s : Nat} {j : Int} (h : ∀ k, M1 s j k = M2 s j k) (hl : ∀ s', 12 ≤ s' → s' < 24 → ∀ k, M1 s' 0 k = M2 s' 0 k) : ent G e0 α M1 s j = ent G e0 α M2 s j := by
  unfold ent
  split
  · exact obj_congr h
  · rename_i h1
    split
    · rename_i h2
      simp only [hl s (by omega) (by omega), hl (s + 6) (by omega) (by omega)]
    · rename_i h2
      split
      · rename_i h3
        simp only [hl s (by omega) (by omega), hl (s - 6) (by omega) (by omega)]
      · simp only [h]
/-- the memory M lies in the heap H: its things at the addresses α, from B on -/
def Rp (G : Gx) (e0 : Nat) (α : Ax) (κ : Nat → Int) (B : Nat) (M : Mem) (H : Heap) : Prop :=
  (∀ s j, s < NS → okk κ s j → va_at G.1 vwCl (α s j, ent G e0 α M s j) H ∧ B ≤ α s j) ∧
  (∀ s j s' j', s < NS → okk κ s j → s' < NS → okk κ s' j' → α s j = α s' j' → s = s' ∧ j = j') ∧
  (∀ s j k, inR (M s j k)) ∧
  (∀ j, okk κ 1 j → okk κ 6 (M 1 j 0)) ∧
  (∀ L, 12 ≤ L → L < 18 → 0 ≤ M L 0 (-1) ∧ M L 0 (-1) ≤ M (L + 6) 0 (-1) ∧ (κ (L + 6) = if M (L + 6) 0 (-1) = 0 then 0 else 1) ∧ (∀ i, 0 ≤ i → i < M L 0 (-1) → okk κ (lcl L) (M L 0 i)) ∧ M (L + 6) 0 (-1) ≤ 1000)
theorem Rp.ne {G : Gx} {e0 : Nat} {α : Ax} {κ : Nat → Int} {B : Nat} {M : Mem} {H : Heap} (h : Rp G e0 α κ B M H) {s : Nat} {j : Int} (hs : s < NS) (ho : okk κ s j) : va_at G.1 vwCl (α s j, ent G e0 α M s j) H := (h.1 s j hs ho).1
theorem Rp.one {G : Gx} {e0 : Nat} {α : Ax} {κ : Nat → Int} {B : Nat} {M : Mem} {H : Heap} (h : Rp G e0 α κ B M H) {s : Nat} {j : Int} (hs : s < NS) (ho : okk κ s j) {e : va_E} (he : ent G e0 α M s j = e) : va_P G.1 vwCl [(α s j, e)] H := by
  intro k q hk
  match k, hk with
  | 0, hk => cases hk; rw [← he]; exact h.ne hs ho
  | k + 1, hk => simp at hk
theorem Rp.r {G : Gx} {e0 : Nat} {α : Ax} {κ : Nat → Int} {B : Nat} {M : Mem} {H : Heap} (h : Rp G e0 α κ B M H) (s : Nat) (j k : Int) : inR (M s j k) := h.2.2.1 s j k
/-- a place that is no reference's and no list's -/
def plain (s : Nat) (k : Int) : Bool := (decide (s < 12) || decide (24 ≤ s)) && !(decide (s = 1) && decide (k = 0))
theorem Rp.put {G : Gx} {e0 : Nat} {α : Ax} {κ : Nat → Int} {B : Nat} {M : Mem} {H H' : Heap} (h : Rp G e0 α κ B M H) {s : Nat} {j k x : Int} (hs : s < NS) (ho : okk κ s j) (hx : inR x) (hp : plain s k = true)
    (he : va_at G.1 vwCl (α s j, ent G e0 α (up M s j k x) s j) H') (oq : ∀ q, q ≠ α s j → H'[q]? = H[q]?) : Rp G e0 α κ B (up M s j k x) H' := by
  obtain ⟨h1, h2, h3, h4, h5⟩ := h
  simp only [plain, Bool.and_eq_true, Bool.or_eq_true, decide_eq_true_eq, Bool.not_eq_true', Bool.and_eq_false_iff, decide_eq_false_iff_not] at hp
  obtain ⟨hp1, hp2⟩ := hp
  have hl : ∀ s', 12 ≤ s' → s' < 24 → ∀ (j' k' : Int), up M s j k x s' j' k' = M s' j' k' := fun s' a b j' k' => up_s M j k x (by omega) j' k'
  refine ⟨fun s' j' hs' ho' => ?_, h2, fun s' j' k' => ?_, fun j' ho' => ?_, fun L a b => ?_⟩
  · by_cases e : s' = s ∧ j' = j
    · obtain ⟨rfl, rfl⟩ := e
      exact ⟨he, (h1 s' j' hs ho).2⟩
    · have hne : ∀ k', up M s j k x s' j' k' = M s' j' k' := fun k' => by
        unfold up
        rw [if_neg (fun z => e ⟨z.1, z.2.1⟩)]
      refine ⟨?_, (h1 s' j' hs' ho').2⟩
      rw [ent_congr hne (fun s' a b k' => hl s' a b 0 k')]
      exact (h1 s' j' hs' ho').1.kept (oq _ (fun z => e (h2 s' j' s j hs' ho' hs ho z)))
  · unfold up
    split
    · exact hx
    · exact h3 s' j' k'
  · have : up M s j k x 1 j' 0 = M 1 j' 0 := by
      unfold up
      rw [if_neg]
      rintro ⟨a, b, c⟩
      rcases hp2 with z | z
      · exact z a.symm
      · exact z c.symm
    rw [this]
    exact h4 j' ho'
  · rw [hl L (by omega) (by omega), hl (L + 6) (by omega) (by omega)]
    obtain ⟨a1, a2, a3, a4, a5⟩ := h5 L a b
    refine ⟨a1, a2, a3, fun i i1 i2 => ?_, a5⟩
    rw [hl L (by omega) (by omega)]
    exact a4 i i1 i2
theorem Rp.kept {G : Gx} {e0 : Nat} {α : Ax} {κ : Nat → Int} {B : Nat} {M : Mem} {H H' : Heap} (h : Rp G e0 α κ B M H) (oq : ∀ q, q < H.size → H'[q]? = H[q]?) : Rp G e0 α κ B M H' :=
  ⟨fun s j hs ho => ⟨(h.1 s j hs ho).1.kept (oq _ (h.1 s j hs ho).1.lt), (h.1 s j hs ho).2⟩, h.2⟩
/-! numbers -/
theorem inR_le {a b : Int} (ha : inR a) (hb : inR b) : (Int32.ofInt a ≤ Int32.ofInt b) ↔ a ≤ b := by
  rw [Int32.le_iff_toInt_le, Int32.toInt_ofInt_of_le (by have := ha.1; omega) (by have := ha.2; omega), Int32.toInt_ofInt_of_le (by have := hb.1; omega) (by have := hb.2; omega)]
theorem inR_lt {a b : Int} (ha : inR a) (hb : inR b) : (Int32.ofInt a < Int32.ofInt b) ↔ a < b := by
  rw [Int32.lt_iff_toInt_lt, Int32.toInt_ofInt_of_le (by have := ha.1; omega) (by have := ha.2; omega), Int32.toInt_ofInt_of_le (by have := hb.1; omega) (by have := hb.2; omega)]
theorem inR_eq {a b : Int} (ha : inR a) (hb : inR b) : (Int32.ofInt a = Int32.ofInt b) ↔ a = b := by
  rw [← Int32.toInt_inj, Int32.toInt_ofInt_of_le (by have := ha.1; omega) (by have := ha.2; omega), Int32.toInt_ofInt_of_le (by have := hb.1; omega) (by have := hb.2; omega)]
theorem inR_c {a : Int} (h : decide (-2147483648 ≤ a ∧ a ≤ 2147483647) = true) : inR a := show (-2147483648 ≤ a ∧ a ≤ 2147483647) from of_decide_eq_true h
theorem inR_in {i : Int} {n : Nat} (h0 : 0 ≤ i) (h1 : i < n) (hn : n ≤ 1000000) : vp_in (Int32.ofInt i) n ∧ (((Int32.ofInt i).toNatClampNeg : Nat) : Int) = i := by
  have e : (Int32.ofInt i).toNatClampNeg = i.toNat := by rw [Int32.toNatClampNeg_ofInt_of_le (by omega) (by omega)]
  refine ⟨?_, by rw [e]; omega⟩
  rw [vp_in_iff, Int32.toInt_ofInt_of_le (by omega) (by omega)]
  exact ⟨h0, h1⟩
theorem alen_le (s : Nat) : alen s ≤ 1000000 := by
  unfold alen
  have h : ∀ n ∈ alL, n ≤ 1000000 := by decide
  rw [List.getD_eq_getElem?_getD]
  cases e : alL[s - 24]? with
  | none => simp
  | some n => exact h n (List.mem_of_getElem? e)
