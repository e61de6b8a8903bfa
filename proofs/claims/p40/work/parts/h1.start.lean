/-! the start: the things as they are made, as a memory -/
def PL : List (Nat × Int) := (10, 0) :: (4, 0) :: (12, 0) :: (13, 0) :: (14, 0) :: (15, 0) :: (16, 0) :: (17, 0) :: (33, 0) :: (9, 0) :: (49, 0) :: (50, 0) :: (51, 0) :: (52, 0) :: (53, 0) :: (54, 0) :: (55, 0) :: (5, 0) :: (34, 0) :: (35, 0) :: (8, 0) :: (46, 0) :: (47, 0) :: (48, 0) :: (9, 1) :: (49, 1) :: (50, 1) :: (51, 1) :: (52, 1) :: (53, 1) :: (54, 1) :: (55, 1) :: (5, 1) :: (34, 1) :: (35, 1) :: (7, 0) :: (38, 0) :: (39, 0) :: (40, 0) :: (41, 0) :: (42, 0) :: (43, 0) :: (44, 0) :: (45, 0) :: (7, 1) :: (38, 1) :: (39, 1) :: (40, 1) :: (41, 1) :: (42, 1) :: (43, 1) :: (44, 1) :: (45, 1) :: (3, 0) :: (28, 0) :: (29, 0) :: (30, 0) :: (31, 0) :: (32, 0) :: (104, 0) :: (105, 0) :: (106, 0) :: (107, 0) :: (108, 0) :: (109, 0) :: (110, 0) :: (111, 0) :: (112, 0) :: (113, 0) :: []
def P0 : List Nat := [0, 0, 0, 53, 1, 17, 0, 35, 20, 9, 0, 0, 2, 3, 4, 5, 6, 7, 0, 0, 0, 0, 0, 0, 0, 0, 0, 0, 54, 55, 56, 57, 58, 8, 18, 19, 0, 0, 36, 37, 38, 39, 40, 41, 42, 43, 21, 22, 23, 10, 11, 12, 13, 14, 15, 16, 0, 0, 0, 0, 0, 0, 0, 0, 0, 0, 0, 0, 0, 0, 0, 0, 0, 0, 0, 0, 0, 0, 0, 0, 0, 0, 0, 0, 0, 0, 0, 0, 0, 0, 0, 0, 0, 0, 0, 0, 0, 0, 0, 0, 0, 0, 0, 0, 59, 60, 61, 62, 63, 64, 65, 66, 67, 68, 0, 0, 0, 0]
def P1 : List Nat := [0, 0, 0, 0, 0, 32, 0, 44, 0, 24, 0, 0, 0, 0, 0, 0, 0, 0, 0, 0, 0, 0, 0, 0, 0, 0, 0, 0, 0, 0, 0, 0, 0, 0, 33, 34, 0, 0, 45, 46, 47, 48, 49, 50, 51, 52, 0, 0, 0, 25, 26, 27, 28, 29, 30, 31, 0, 0, 0, 0, 0, 0, 0, 0, 0, 0, 0, 0, 0, 0, 0, 0, 0, 0, 0, 0, 0, 0, 0, 0, 0, 0, 0, 0, 0, 0, 0, 0, 0, 0, 0, 0, 0, 0, 0, 0, 0, 0, 0, 0, 0, 0, 0, 0, 0, 0, 0, 0, 0, 0, 0, 0, 0, 0, 0, 0, 0, 0]
def pos (s : Nat) (j : Int) : Nat := if j = 1 then P1.getD s 0 else P0.getD s 0
def α0 (a : Nat → Nat) : Ax := fun s j => a (pos s j)
def κ0 : Nat → Int := fun s => if kcode s = 0 then 1 else if kcode s = 1 then 2 else 0
def M0 : Mem := fun s j k => if s = 10 ∧ j = 0 ∧ k = 7 then 60 else if s = 10 ∧ j = 0 ∧ k = 8 then 30 else if s = 10 ∧ j = 0 ∧ k = 10 then 1 else if s = 11 ∧ j = 0 ∧ k = 24 then 60 else if s = 11 ∧ j = 0 ∧ k = 25 then 30 else 0
def WL (G : Gx) (a : Nat → Nat) : va_W := (a 0, .inr (10, [.ref (a 1), .ref (a 9), .ref (a 17), .ref (a 20), .ref (a 53), .ref (a 35), .ref (a 44), .int (Int32.ofInt 60), .int (Int32.ofInt 30), .int 0, .int (Int32.ofInt 1)])) :: (a 1, .inr (4, [.ref (a 2), .ref (a 3), .ref (a 4), .ref (a 5), .ref (a 6), .ref (a 7), .ref (a 8), .int 0])) :: (a 2, .inr (0, [.int (Int32.ofInt 0), .ref G.2.2.2.2.2, .int (Int32.ofInt 0)])) :: (a 3, .inr (0, [.int (Int32.ofInt 0), .ref G.2.2.2.2.2, .int (Int32.ofInt 0)])) :: (a 4, .inr (0, [.int (Int32.ofInt 0), .ref G.2.2.2.2.2, .int (Int32.ofInt 0)])) :: (a 5, .inr (0, [.int (Int32.ofInt 0), .ref G.2.2.2.2.2, .int (Int32.ofInt 0)])) :: (a 6, .inr (0, [.int (Int32.ofInt 0), .ref G.2.2.2.2.2, .int (Int32.ofInt 0)])) :: (a 7, .inr (0, [.int (Int32.ofInt 0), .ref G.2.2.2.2.2, .int (Int32.ofInt 0)])) :: (a 8, .inl (G.2.2.1, 6, .inl (fun _ => 0))) :: (a 9, .inr (9, [.ref (a 1), .ref (a 10), .ref (a 11), .ref (a 12), .ref (a 13), .ref (a 14), .ref (a 15), .ref (a 16)])) :: (a 10, .inl (G.2.1, 6, .inl (fun _ => 0))) :: (a 11, .inl (G.2.1, 6, .inl (fun _ => 0))) :: (a 12, .inl (G.2.1, 6, .inl (fun _ => 0))) :: (a 13, .inl (G.2.1, 6, .inl (fun _ => 0))) :: (a 14, .inl (G.2.1, 6, .inl (fun _ => 0))) :: (a 15, .inl (G.2.1, 6, .inl (fun _ => 0))) :: (a 16, .inl (G.2.1, 6, .inl (fun _ => 0))) :: (a 17, .inr (5, [.ref (a 1), .ref (a 18), .ref (a 19)])) :: (a 18, .inl (G.2.1, 100, .inl (fun _ => 0))) :: (a 19, .inl (G.2.1, 29, .inl (fun _ => 0))) :: (a 20, .inr (8, [.ref (a 1), .ref (a 24), .ref (a 32), .ref (a 21), .ref (a 22), .ref (a 23)])) :: (a 21, .inl (G.2.1, 6, .inl (fun _ => 0))) :: (a 22, .inl (G.2.1, 6, .inl (fun _ => 0))) :: (a 23, .inl (G.2.1, 2500, .inl (fun _ => 0))) :: (a 24, .inr (9, [.ref (a 1), .ref (a 25), .ref (a 26), .ref (a 27), .ref (a 28), .ref (a 29), .ref (a 30), .ref (a 31)])) :: (a 25, .inl (G.2.1, 6, .inl (fun _ => 0))) :: (a 26, .inl (G.2.1, 6, .inl (fun _ => 0))) :: (a 27, .inl (G.2.1, 6, .inl (fun _ => 0))) :: (a 28, .inl (G.2.1, 6, .inl (fun _ => 0))) :: (a 29, .inl (G.2.1, 6, .inl (fun _ => 0))) :: (a 30, .inl (G.2.1, 6, .inl (fun _ => 0))) :: (a 31, .inl (G.2.1, 6, .inl (fun _ => 0))) :: (a 32, .inr (5, [.ref (a 1), .ref (a 33), .ref (a 34)])) :: (a 33, .inl (G.2.1, 100, .inl (fun _ => 0))) :: (a 34, .inl (G.2.1, 29, .inl (fun _ => 0))) :: (a 35, .inr (7, [.int 0, .int 0, .int 0, .int 0, .ref (a 36), .ref (a 37), .ref (a 38), .ref (a 39), .ref (a 40), .ref (a 41), .ref (a 42), .ref (a 43)])) :: (a 36, .inl (G.2.1, 904, .inl (fun _ => 0))) :: (a 37, .inl (G.2.1, 904, .inl (fun _ => 0))) :: (a 38, .inl (G.2.1, 904, .inl (fun _ => 0))) :: (a 39, .inl (G.2.1, 904, .inl (fun _ => 0))) :: (a 40, .inl (G.2.1, 904, .inl (fun _ => 0))) :: (a 41, .inl (G.2.1, 904, .inl (fun _ => 0))) :: (a 42, .inl (G.2.1, 5424, .inl (fun _ => 0))) :: (a 43, .inl (G.2.1, 29, .inl (fun _ => 0))) :: (a 44, .inr (7, [.int 0, .int 0, .int 0, .int 0, .ref (a 45), .ref (a 46), .ref (a 47), .ref (a 48), .ref (a 49), .ref (a 50), .ref (a 51), .ref (a 52)])) :: (a 45, .inl (G.2.1, 904, .inl (fun _ => 0))) :: (a 46, .inl (G.2.1, 904, .inl (fun _ => 0))) :: (a 47, .inl (G.2.1, 904, .inl (fun _ => 0))) :: (a 48, .inl (G.2.1, 904, .inl (fun _ => 0))) :: (a 49, .inl (G.2.1, 904, .inl (fun _ => 0))) :: (a 50, .inl (G.2.1, 904, .inl (fun _ => 0))) :: (a 51, .inl (G.2.1, 5424, .inl (fun _ => 0))) :: (a 52, .inl (G.2.1, 29, .inl (fun _ => 0))) :: (a 53, .inr (3, [.ref (a 1), .ref (a 17), .ref (a 35), .ref (a 54), .ref (a 55), .ref (a 56), .ref (a 57), .ref (a 58), .int 0, .int 0, .int 0, .int 0, .int 0, .int 0])) :: (a 54, .inl (G.2.1, 50, .inl (fun _ => 0))) :: (a 55, .inl (G.2.1, 50, .inl (fun _ => 0))) :: (a 56, .inl (G.2.1, 50, .inl (fun _ => 0))) :: (a 57, .inl (G.2.2.1, 50, .inl (fun _ => 0))) :: (a 58, .inl (G.2.1, 29, .inl (fun _ => 0))) :: (a 59, .inl (G.2.1, 16, .inl (fun _ => 0))) :: (a 60, .inl (G.2.1, 30, .inl (fun _ => 0))) :: (a 61, .inl (G.2.1, 10, .inl (fun _ => 0))) :: (a 62, .inl (G.2.1, 60, .inl (fun _ => 0))) :: (a 63, .inl (G.2.2.2.1, 10, .inr (.inl (fun _ => 0)))) :: (a 64, .inl (G.2.1, 10, .inl (fun _ => 0))) :: (a 65, .inl (G.2.1, 60, .inl (fun _ => 0))) :: (a 66, .inl (G.2.1, 9, .inl (fun _ => 0))) :: (a 67, .inl (G.2.1, 6, .inl (fun _ => 0))) :: (a 68, .inl (G.2.1, 30, .inl (fun _ => 0))) :: []
theorem M0_z {s : Nat} {j k : Int} (h : s ≠ 10) (h' : s ≠ 11) : M0 s j k = 0 := by
  unfold M0
  rw [if_neg (fun z => h z.1), if_neg (fun z => h z.1), if_neg (fun z => h z.1), if_neg (fun z => h' z.1), if_neg (fun z => h' z.1)]
theorem pkW0 (k : Int) : pkW (fun q => M0 108 0 q) k = 0 := by
  have e : pkN (fun q => M0 108 0 q) k = 0 := by
    unfold pkN
    simp only [M0_z (s := 108) (by decide) (by decide)]
    rfl
  unfold pkW
  rw [e]
  rfl
theorem se_0 (G : Gx) (a : Nat → Nat) : (WL G a)[0]? = some (α0 a 10 0, ent G G.2.2.2.2.2 (α0 a) M0 10 0) := rfl
theorem se_1 (G : Gx) (a : Nat → Nat) : (WL G a)[1]? = some (α0 a 4 0, ent G G.2.2.2.2.2 (α0 a) M0 4 0) := rfl
theorem se_2 (G : Gx) (a : Nat → Nat) : (WL G a)[2]? = some (α0 a 12 0, ent G G.2.2.2.2.2 (α0 a) M0 12 0) := rfl
theorem se_3 (G : Gx) (a : Nat → Nat) : (WL G a)[3]? = some (α0 a 13 0, ent G G.2.2.2.2.2 (α0 a) M0 13 0) := rfl
theorem se_4 (G : Gx) (a : Nat → Nat) : (WL G a)[4]? = some (α0 a 14 0, ent G G.2.2.2.2.2 (α0 a) M0 14 0) := rfl
theorem se_5 (G : Gx) (a : Nat → Nat) : (WL G a)[5]? = some (α0 a 15 0, ent G G.2.2.2.2.2 (α0 a) M0 15 0) := rfl
theorem se_6 (G : Gx) (a : Nat → Nat) : (WL G a)[6]? = some (α0 a 16 0, ent G G.2.2.2.2.2 (α0 a) M0 16 0) := rfl
theorem se_7 (G : Gx) (a : Nat → Nat) : (WL G a)[7]? = some (α0 a 17 0, ent G G.2.2.2.2.2 (α0 a) M0 17 0) := rfl
theorem se_8 (G : Gx) (a : Nat → Nat) : (WL G a)[8]? = some (α0 a 33 0, ent G G.2.2.2.2.2 (α0 a) M0 33 0) := rfl
theorem se_9 (G : Gx) (a : Nat → Nat) : (WL G a)[9]? = some (α0 a 9 0, ent G G.2.2.2.2.2 (α0 a) M0 9 0) := rfl
theorem se_10 (G : Gx) (a : Nat → Nat) : (WL G a)[10]? = some (α0 a 49 0, ent G G.2.2.2.2.2 (α0 a) M0 49 0) := rfl
theorem se_11 (G : Gx) (a : Nat → Nat) : (WL G a)[11]? = some (α0 a 50 0, ent G G.2.2.2.2.2 (α0 a) M0 50 0) := rfl
theorem se_12 (G : Gx) (a : Nat → Nat) : (WL G a)[12]? = some (α0 a 51 0, ent G G.2.2.2.2.2 (α0 a) M0 51 0) := rfl
theorem se_13 (G : Gx) (a : Nat → Nat) : (WL G a)[13]? = some (α0 a 52 0, ent G G.2.2.2.2.2 (α0 a) M0 52 0) := rfl
theorem se_14 (G : Gx) (a : Nat → Nat) : (WL G a)[14]? = some (α0 a 53 0, ent G G.2.2.2.2.2 (α0 a) M0 53 0) := rfl
theorem se_15 (G : Gx) (a : Nat → Nat) : (WL G a)[15]? = some (α0 a 54 0, ent G G.2.2.2.2.2 (α0 a) M0 54 0) := rfl
theorem se_16 (G : Gx) (a : Nat → Nat) : (WL G a)[16]? = some (α0 a 55 0, ent G G.2.2.2.2.2 (α0 a) M0 55 0) := rfl
theorem se_17 (G : Gx) (a : Nat → Nat) : (WL G a)[17]? = some (α0 a 5 0, ent G G.2.2.2.2.2 (α0 a) M0 5 0) := rfl
theorem se_18 (G : Gx) (a : Nat → Nat) : (WL G a)[18]? = some (α0 a 34 0, ent G G.2.2.2.2.2 (α0 a) M0 34 0) := rfl
theorem se_19 (G : Gx) (a : Nat → Nat) : (WL G a)[19]? = some (α0 a 35 0, ent G G.2.2.2.2.2 (α0 a) M0 35 0) := rfl
theorem se_20 (G : Gx) (a : Nat → Nat) : (WL G a)[20]? = some (α0 a 8 0, ent G G.2.2.2.2.2 (α0 a) M0 8 0) := rfl
theorem se_21 (G : Gx) (a : Nat → Nat) : (WL G a)[21]? = some (α0 a 46 0, ent G G.2.2.2.2.2 (α0 a) M0 46 0) := rfl
theorem se_22 (G : Gx) (a : Nat → Nat) : (WL G a)[22]? = some (α0 a 47 0, ent G G.2.2.2.2.2 (α0 a) M0 47 0) := rfl
theorem se_23 (G : Gx) (a : Nat → Nat) : (WL G a)[23]? = some (α0 a 48 0, ent G G.2.2.2.2.2 (α0 a) M0 48 0) := rfl
theorem se_24 (G : Gx) (a : Nat → Nat) : (WL G a)[24]? = some (α0 a 9 1, ent G G.2.2.2.2.2 (α0 a) M0 9 1) := rfl
theorem se_25 (G : Gx) (a : Nat → Nat) : (WL G a)[25]? = some (α0 a 49 1, ent G G.2.2.2.2.2 (α0 a) M0 49 1) := rfl
theorem se_26 (G : Gx) (a : Nat → Nat) : (WL G a)[26]? = some (α0 a 50 1, ent G G.2.2.2.2.2 (α0 a) M0 50 1) := rfl
theorem se_27 (G : Gx) (a : Nat → Nat) : (WL G a)[27]? = some (α0 a 51 1, ent G G.2.2.2.2.2 (α0 a) M0 51 1) := rfl
theorem se_28 (G : Gx) (a : Nat → Nat) : (WL G a)[28]? = some (α0 a 52 1, ent G G.2.2.2.2.2 (α0 a) M0 52 1) := rfl
theorem se_29 (G : Gx) (a : Nat → Nat) : (WL G a)[29]? = some (α0 a 53 1, ent G G.2.2.2.2.2 (α0 a) M0 53 1) := rfl
theorem se_30 (G : Gx) (a : Nat → Nat) : (WL G a)[30]? = some (α0 a 54 1, ent G G.2.2.2.2.2 (α0 a) M0 54 1) := rfl
theorem se_31 (G : Gx) (a : Nat → Nat) : (WL G a)[31]? = some (α0 a 55 1, ent G G.2.2.2.2.2 (α0 a) M0 55 1) := rfl
theorem se_32 (G : Gx) (a : Nat → Nat) : (WL G a)[32]? = some (α0 a 5 1, ent G G.2.2.2.2.2 (α0 a) M0 5 1) := rfl
theorem se_33 (G : Gx) (a : Nat → Nat) : (WL G a)[33]? = some (α0 a 34 1, ent G G.2.2.2.2.2 (α0 a) M0 34 1) := rfl
theorem se_34 (G : Gx) (a : Nat → Nat) : (WL G a)[34]? = some (α0 a 35 1, ent G G.2.2.2.2.2 (α0 a) M0 35 1) := rfl
theorem se_35 (G : Gx) (a : Nat → Nat) : (WL G a)[35]? = some (α0 a 7 0, ent G G.2.2.2.2.2 (α0 a) M0 7 0) := rfl
theorem se_36 (G : Gx) (a : Nat → Nat) : (WL G a)[36]? = some (α0 a 38 0, ent G G.2.2.2.2.2 (α0 a) M0 38 0) := rfl
theorem se_37 (G : Gx) (a : Nat → Nat) : (WL G a)[37]? = some (α0 a 39 0, ent G G.2.2.2.2.2 (α0 a) M0 39 0) := rfl
theorem se_38 (G : Gx) (a : Nat → Nat) : (WL G a)[38]? = some (α0 a 40 0, ent G G.2.2.2.2.2 (α0 a) M0 40 0) := rfl
theorem se_39 (G : Gx) (a : Nat → Nat) : (WL G a)[39]? = some (α0 a 41 0, ent G G.2.2.2.2.2 (α0 a) M0 41 0) := rfl
theorem se_40 (G : Gx) (a : Nat → Nat) : (WL G a)[40]? = some (α0 a 42 0, ent G G.2.2.2.2.2 (α0 a) M0 42 0) := rfl
theorem se_41 (G : Gx) (a : Nat → Nat) : (WL G a)[41]? = some (α0 a 43 0, ent G G.2.2.2.2.2 (α0 a) M0 43 0) := rfl
theorem se_42 (G : Gx) (a : Nat → Nat) : (WL G a)[42]? = some (α0 a 44 0, ent G G.2.2.2.2.2 (α0 a) M0 44 0) := rfl
theorem se_43 (G : Gx) (a : Nat → Nat) : (WL G a)[43]? = some (α0 a 45 0, ent G G.2.2.2.2.2 (α0 a) M0 45 0) := rfl
theorem se_44 (G : Gx) (a : Nat → Nat) : (WL G a)[44]? = some (α0 a 7 1, ent G G.2.2.2.2.2 (α0 a) M0 7 1) := rfl
theorem se_45 (G : Gx) (a : Nat → Nat) : (WL G a)[45]? = some (α0 a 38 1, ent G G.2.2.2.2.2 (α0 a) M0 38 1) := rfl
theorem se_46 (G : Gx) (a : Nat → Nat) : (WL G a)[46]? = some (α0 a 39 1, ent G G.2.2.2.2.2 (α0 a) M0 39 1) := rfl
theorem se_47 (G : Gx) (a : Nat → Nat) : (WL G a)[47]? = some (α0 a 40 1, ent G G.2.2.2.2.2 (α0 a) M0 40 1) := rfl
theorem se_48 (G : Gx) (a : Nat → Nat) : (WL G a)[48]? = some (α0 a 41 1, ent G G.2.2.2.2.2 (α0 a) M0 41 1) := rfl
theorem se_49 (G : Gx) (a : Nat → Nat) : (WL G a)[49]? = some (α0 a 42 1, ent G G.2.2.2.2.2 (α0 a) M0 42 1) := rfl
theorem se_50 (G : Gx) (a : Nat → Nat) : (WL G a)[50]? = some (α0 a 43 1, ent G G.2.2.2.2.2 (α0 a) M0 43 1) := rfl
theorem se_51 (G : Gx) (a : Nat → Nat) : (WL G a)[51]? = some (α0 a 44 1, ent G G.2.2.2.2.2 (α0 a) M0 44 1) := rfl
theorem se_52 (G : Gx) (a : Nat → Nat) : (WL G a)[52]? = some (α0 a 45 1, ent G G.2.2.2.2.2 (α0 a) M0 45 1) := rfl
theorem se_53 (G : Gx) (a : Nat → Nat) : (WL G a)[53]? = some (α0 a 3 0, ent G G.2.2.2.2.2 (α0 a) M0 3 0) := rfl
theorem se_54 (G : Gx) (a : Nat → Nat) : (WL G a)[54]? = some (α0 a 28 0, ent G G.2.2.2.2.2 (α0 a) M0 28 0) := rfl
theorem se_55 (G : Gx) (a : Nat → Nat) : (WL G a)[55]? = some (α0 a 29 0, ent G G.2.2.2.2.2 (α0 a) M0 29 0) := rfl
theorem se_56 (G : Gx) (a : Nat → Nat) : (WL G a)[56]? = some (α0 a 30 0, ent G G.2.2.2.2.2 (α0 a) M0 30 0) := rfl
theorem se_57 (G : Gx) (a : Nat → Nat) : (WL G a)[57]? = some (α0 a 31 0, ent G G.2.2.2.2.2 (α0 a) M0 31 0) := rfl
theorem se_58 (G : Gx) (a : Nat → Nat) : (WL G a)[58]? = some (α0 a 32 0, ent G G.2.2.2.2.2 (α0 a) M0 32 0) := rfl
theorem se_59 (G : Gx) (a : Nat → Nat) : (WL G a)[59]? = some (α0 a 104 0, ent G G.2.2.2.2.2 (α0 a) M0 104 0) := rfl
theorem se_60 (G : Gx) (a : Nat → Nat) : (WL G a)[60]? = some (α0 a 105 0, ent G G.2.2.2.2.2 (α0 a) M0 105 0) := rfl
theorem se_61 (G : Gx) (a : Nat → Nat) : (WL G a)[61]? = some (α0 a 106 0, ent G G.2.2.2.2.2 (α0 a) M0 106 0) := rfl
theorem se_62 (G : Gx) (a : Nat → Nat) : (WL G a)[62]? = some (α0 a 107 0, ent G G.2.2.2.2.2 (α0 a) M0 107 0) := rfl
theorem se_63 (G : Gx) (a : Nat → Nat) : (WL G a)[63]? = some (α0 a 108 0, ent G G.2.2.2.2.2 (α0 a) M0 108 0) := by
  have e : ent G G.2.2.2.2.2 (α0 a) M0 108 0 = .inl (G.2.2.2.1, 10, .inr (.inl (fun k : Nat => pkW (fun q => M0 108 0 q) k))) := rfl
  rw [e, show (fun k : Nat => pkW (fun q => M0 108 0 q) (k : Int)) = (fun _ => 0) from funext fun k => pkW0 k]
  rfl
theorem se_64 (G : Gx) (a : Nat → Nat) : (WL G a)[64]? = some (α0 a 109 0, ent G G.2.2.2.2.2 (α0 a) M0 109 0) := rfl
theorem se_65 (G : Gx) (a : Nat → Nat) : (WL G a)[65]? = some (α0 a 110 0, ent G G.2.2.2.2.2 (α0 a) M0 110 0) := rfl
theorem se_66 (G : Gx) (a : Nat → Nat) : (WL G a)[66]? = some (α0 a 111 0, ent G G.2.2.2.2.2 (α0 a) M0 111 0) := rfl
theorem se_67 (G : Gx) (a : Nat → Nat) : (WL G a)[67]? = some (α0 a 112 0, ent G G.2.2.2.2.2 (α0 a) M0 112 0) := rfl
theorem se_68 (G : Gx) (a : Nat → Nat) : (WL G a)[68]? = some (α0 a 113 0, ent G G.2.2.2.2.2 (α0 a) M0 113 0) := rfl
theorem se_all (G : Gx) (a : Nat → Nat) : ∀ k : Nat, ∀ q : Nat × Int, PL[k]? = some q → (WL G a)[k]? = some (α0 a q.1 q.2, ent G G.2.2.2.2.2 (α0 a) M0 q.1 q.2) := by
  intro k q hq
  have hk : k < 69 := (List.getElem?_eq_some_iff.mp hq).1
  match k, hq with
  | 0, hq => cases hq; exact se_0 G a
  | 1, hq => cases hq; exact se_1 G a
  | 2, hq => cases hq; exact se_2 G a
  | 3, hq => cases hq; exact se_3 G a
  | 4, hq => cases hq; exact se_4 G a
  | 5, hq => cases hq; exact se_5 G a
  | 6, hq => cases hq; exact se_6 G a
  | 7, hq => cases hq; exact se_7 G a
  | 8, hq => cases hq; exact se_8 G a
  | 9, hq => cases hq; exact se_9 G a
  | 10, hq => cases hq; exact se_10 G a
  | 11, hq => cases hq; exact se_11 G a
  | 12, hq => cases hq; exact se_12 G a
  | 13, hq => cases hq; exact se_13 G a
  | 14, hq => cases hq; exact se_14 G a
  | 15, hq => cases hq; exact se_15 G a
  | 16, hq => cases hq; exact se_16 G a
  | 17, hq => cases hq; exact se_17 G a
  | 18, hq => cases hq; exact se_18 G a
  | 19, hq => cases hq; exact se_19 G a
  | 20, hq => cases hq; exact se_20 G a
  | 21, hq => cases hq; exact se_21 G a
  | 22, hq => cases hq; exact se_22 G a
  | 23, hq => cases hq; exact se_23 G a
  | 24, hq => cases hq; exact se_24 G a
  | 25, hq => cases hq; exact se_25 G a
  | 26, hq => cases hq; exact se_26 G a
  | 27, hq => cases hq; exact se_27 G a
  | 28, hq => cases hq; exact se_28 G a
  | 29, hq => cases hq; exact se_29 G a
  | 30, hq => cases hq; exact se_30 G a
  | 31, hq => cases hq; exact se_31 G a
  | 32, hq => cases hq; exact se_32 G a
  | 33, hq => cases hq; exact se_33 G a
  | 34, hq => cases hq; exact se_34 G a
  | 35, hq => cases hq; exact se_35 G a
  | 36, hq => cases hq; exact se_36 G a
  | 37, hq => cases hq; exact se_37 G a
  | 38, hq => cases hq; exact se_38 G a
  | 39, hq => cases hq; exact se_39 G a
  | 40, hq => cases hq; exact se_40 G a
  | 41, hq => cases hq; exact se_41 G a
  | 42, hq => cases hq; exact se_42 G a
  | 43, hq => cases hq; exact se_43 G a
  | 44, hq => cases hq; exact se_44 G a
  | 45, hq => cases hq; exact se_45 G a
  | 46, hq => cases hq; exact se_46 G a
  | 47, hq => cases hq; exact se_47 G a
  | 48, hq => cases hq; exact se_48 G a
  | 49, hq => cases hq; exact se_49 G a
  | 50, hq => cases hq; exact se_50 G a
  | 51, hq => cases hq; exact se_51 G a
  | 52, hq => cases hq; exact se_52 G a
  | 53, hq => cases hq; exact se_53 G a
  | 54, hq => cases hq; exact se_54 G a
  | 55, hq => cases hq; exact se_55 G a
  | 56, hq => cases hq; exact se_56 G a
  | 57, hq => cases hq; exact se_57 G a
  | 58, hq => cases hq; exact se_58 G a
  | 59, hq => cases hq; exact se_59 G a
  | 60, hq => cases hq; exact se_60 G a
  | 61, hq => cases hq; exact se_61 G a
  | 62, hq => cases hq; exact se_62 G a
  | 63, hq => cases hq; exact se_63 G a
  | 64, hq => cases hq; exact se_64 G a
  | 65, hq => cases hq; exact se_65 G a
  | 66, hq => cases hq; exact se_66 G a
  | 67, hq => cases hq; exact se_67 G a
  | 68, hq => cases hq; exact se_68 G a
  | k + 69, hq => exact absurd hk (by omega)
theorem pl_ok : ∀ s : Fin 118, (kcode s = 0 → PL[pos s 0]? = some ((s : Nat), 0)) ∧ (kcode s = 1 → PL[pos s 0]? = some ((s : Nat), 0) ∧ PL[pos s 1]? = some ((s : Nat), 1)) := by decide +kernel
theorem pl_at {s : Nat} {j : Int} (hs : s < NS) (ho : okk κ0 s j) : PL[pos s j]? = some (s, j) := by
  obtain ⟨h1, h2⟩ := ho
  have h := pl_ok ⟨s, hs⟩
  unfold κ0 at h2
  by_cases e : kcode s = 0
  · rw [if_pos e] at h2
    obtain rfl : j = 0 := by omega
    exact h.1 e
  · rw [if_neg e] at h2
    by_cases e2 : kcode s = 1
    · rw [if_pos e2] at h2
      rcases (show j = 0 ∨ j = 1 by omega) with rfl | rfl
      · exact (h.2 e2).1
      · exact (h.2 e2).2
    · rw [if_neg e2] at h2
      omega
theorem kOK0 : kOK κ0 := by
  intro s
  unfold kst
  have k1 : κ0 1 = 0 := by decide
  have k2 : κ0 2 = 0 := by decide
  have k6 : κ0 6 = 0 := by decide
  rw [k1, k2, k6]
  by_cases e : kcode s = 0
  · rw [if_pos e]; unfold κ0; rw [if_pos e]
  · rw [if_neg e]
    by_cases e1 : kcode s = 1
    · rw [if_pos e1]; unfold κ0; rw [if_neg e, if_pos e1]
    · rw [if_neg e1]
      have z : κ0 s = 0 := by unfold κ0; rw [if_neg e, if_neg e1]
      rw [z]
      repeat' split
      all_goals rfl
set_option maxHeartbeats 4000000 in
theorem M0_R (s : Nat) (j k : Int) : inR (M0 s j k) := by
  unfold M0
  repeat' split
  all_goals exact ⟨by decide, by decide⟩
theorem start_Rp {G : Gx} {a : Nat → Nat} {H : Heap} {B : Nat} (hP : va_P G.1 vwCl (WL G a) H) (hD : va_D (fun q => B ≤ q) (WL G a)) : Rp G G.2.2.2.2.2 (α0 a) κ0 B M0 H := by
  refine ⟨fun s j hs ho => ?_, fun s j s' j' hs ho hs' ho' e => ?_, M0_R, fun j ho => ?_, fun L h1 h2 => ?_⟩
  · have h := se_all G a _ _ (pl_at hs ho)
    exact ⟨hP _ _ h, hD.2 _ _ h⟩
  · have h := se_all G a _ _ (pl_at hs ho)
    have h' := se_all G a _ _ (pl_at hs' ho')
    have hk := hD.1 _ _ _ _ h h' e
    have z := pl_at hs ho
    rw [hk, pl_at hs' ho'] at z
    have z := Option.some.inj z
    exact ⟨(congrArg Prod.fst z).symm, (congrArg Prod.snd z).symm⟩
  · have := ho.2
    rw [show κ0 1 = 0 by decide] at this
    have := ho.1
    omega
  · have hz : M0 L 0 (-1) = 0 ∧ M0 (L + 6) 0 (-1) = 0 ∧ κ0 (L + 6) = 0 := by
      rcases (by omega : L = 12 ∨ L = 13 ∨ L = 14 ∨ L = 15 ∨ L = 16 ∨ L = 17) with rfl | rfl | rfl | rfl | rfl | rfl <;> decide
    rw [hz.1, hz.2.1, hz.2.2]
    exact ⟨by decide, by decide, by decide, fun i h1 h2 => absurd h2 (by omega), by decide⟩
/-- all that is made at first, in a row -/
theorem start_fold {G : Gx} {w1 l_c l_r l_o l_t l_w l_f l_b l_d l_m l_x : Nat} {u1 : va_W} {A : Nat → Prop} {H : Heap} (ho1 : Out_X9_init G w1 u1) (hP : va_P G.1 vwCl (((((((((((u1) ++ [(l_c, .inl (G.2.1, 16, .inl (fun _ => 0)))]) ++ [(l_r, .inl (G.2.1, 30, .inl (fun _ => 0)))]) ++ [(l_o, .inl (G.2.1, 10, .inl (fun _ => 0)))]) ++ [(l_t, .inl (G.2.1, 60, .inl (fun _ => 0)))]) ++ [(l_w, .inl (G.2.2.2.1, 10, .inr (.inl (fun _ => 0))))]) ++ [(l_f, .inl (G.2.1, 10, .inl (fun _ => 0)))]) ++ [(l_b, .inl (G.2.1, 60, .inl (fun _ => 0)))]) ++ [(l_d, .inl (G.2.1, 9, .inl (fun _ => 0)))]) ++ [(l_m, .inl (G.2.1, 6, .inl (fun _ => 0)))]) ++ [(l_x, .inl (G.2.1, 30, .inl (fun _ => 0)))]) H) (hD : va_D A (((((((((((u1) ++ [(l_c, .inl (G.2.1, 16, .inl (fun _ => 0)))]) ++ [(l_r, .inl (G.2.1, 30, .inl (fun _ => 0)))]) ++ [(l_o, .inl (G.2.1, 10, .inl (fun _ => 0)))]) ++ [(l_t, .inl (G.2.1, 60, .inl (fun _ => 0)))]) ++ [(l_w, .inl (G.2.2.2.1, 10, .inr (.inl (fun _ => 0))))]) ++ [(l_f, .inl (G.2.1, 10, .inl (fun _ => 0)))]) ++ [(l_b, .inl (G.2.1, 60, .inl (fun _ => 0)))]) ++ [(l_d, .inl (G.2.1, 9, .inl (fun _ => 0)))]) ++ [(l_m, .inl (G.2.1, 6, .inl (fun _ => 0)))]) ++ [(l_x, .inl (G.2.1, 30, .inl (fun _ => 0)))])) : ∃ a : Nat → Nat, va_P G.1 vwCl (WL G a) H ∧ va_D A (WL G a) ∧ a (pos 10 0) = w1 ∧ a (pos 104 0) = l_c ∧ a (pos 105 0) = l_r ∧ a (pos 106 0) = l_o ∧ a (pos 107 0) = l_t ∧ a (pos 108 0) = l_w ∧ a (pos 109 0) = l_f ∧ a (pos 110 0) = l_b ∧ a (pos 111 0) = l_d ∧ a (pos 112 0) = l_m ∧ a (pos 113 0) = l_x := by
  obtain ⟨q1, q2, q3, q4, q5, q6, q7, q8, q9, q10, q11, q12, q13, q14, q15, q16, q17, q18, q19, q20, q21, q22, q23, q24, q25, q26, q27, q28, q29, q30, q31, q32, q33, q34, q35, q36, q37, q38, q39, q40, q41, q42, q43, q44, q45, q46, q47, q48, q49, q50, q51, q52, q53, q54, q55, q56, q57, q58, rfl⟩ := ho1
  refine ⟨fun k => (w1 :: q1 :: q2 :: q3 :: q4 :: q5 :: q6 :: q7 :: q8 :: q9 :: q10 :: q11 :: q12 :: q13 :: q14 :: q15 :: q16 :: q17 :: q18 :: q19 :: q20 :: q21 :: q22 :: q23 :: q24 :: q25 :: q26 :: q27 :: q28 :: q29 :: q30 :: q31 :: q32 :: q33 :: q34 :: q35 :: q36 :: q37 :: q38 :: q39 :: q40 :: q41 :: q42 :: q43 :: q44 :: q45 :: q46 :: q47 :: q48 :: q49 :: q50 :: q51 :: q52 :: q53 :: q54 :: q55 :: q56 :: q57 :: q58 :: l_c :: l_r :: l_o :: l_t :: l_w :: l_f :: l_b :: l_d :: l_m :: l_x :: []).getD k 0, hP, hD, rfl, rfl, rfl, rfl, rfl, rfl, rfl, rfl, rfl, rfl, rfl⟩
