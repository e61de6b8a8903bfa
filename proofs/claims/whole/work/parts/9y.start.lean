/-! the start: the things as they are made, as a memory -/
def PL : List (Nat × Int) := (10, 0) :: (4, 0) :: (12, 0) :: (13, 0) :: (14, 0) :: (15, 0) :: (16, 0) :: (17, 0) :: (33, 0) :: (9, 0) :: (49, 0) :: (50, 0) :: (51, 0) :: (52, 0) :: (53, 0) :: (54, 0) :: (55, 0) :: (5, 0) :: (34, 0) :: (35, 0) :: (8, 0) :: (46, 0) :: (47, 0) :: (48, 0) :: (9, 1) :: (49, 1) :: (50, 1) :: (51, 1) :: (52, 1) :: (53, 1) :: (54, 1) :: (55, 1) :: (5, 1) :: (34, 1) :: (35, 1) :: (7, 0) :: (38, 0) :: (39, 0) :: (40, 0) :: (41, 0) :: (42, 0) :: (43, 0) :: (44, 0) :: (45, 0) :: (7, 1) :: (38, 1) :: (39, 1) :: (40, 1) :: (41, 1) :: (42, 1) :: (43, 1) :: (44, 1) :: (45, 1) :: (3, 0) :: (28, 0) :: (29, 0) :: (30, 0) :: (31, 0) :: (32, 0) :: (11, 0) :: (56, 0) :: (57, 0) :: (58, 0) :: (59, 0) :: (60, 0) :: (61, 0) :: (62, 0) :: (63, 0) :: (64, 0) :: (65, 0) :: (66, 0) :: (67, 0) :: (68, 0) :: (69, 0) :: (70, 0) :: (71, 0) :: (72, 0) :: (73, 0) :: (74, 0) :: (75, 0) :: (76, 0) :: (77, 0) :: (78, 0) :: (79, 0) :: (80, 0) :: (81, 0) :: (82, 0) :: (83, 0) :: (84, 0) :: (85, 0) :: (86, 0) :: (87, 0) :: (88, 0) :: (89, 0) :: (90, 0) :: (91, 0) :: (92, 0) :: (93, 0) :: (94, 0) :: (95, 0) :: (96, 0) :: (97, 0) :: (98, 0) :: (99, 0) :: (100, 0) :: (101, 0) :: (102, 0) :: (103, 0) :: []
def P0 : List Nat := [0, 0, 0, 53, 1, 17, 0, 35, 20, 9, 0, 59, 2, 3, 4, 5, 6, 7, 0, 0, 0, 0, 0, 0, 0, 0, 0, 0, 54, 55, 56, 57, 58, 8, 18, 19, 0, 0, 36, 37, 38, 39, 40, 41, 42, 43, 21, 22, 23, 10, 11, 12, 13, 14, 15, 16, 60, 61, 62, 63, 64, 65, 66, 67, 68, 69, 70, 71, 72, 73, 74, 75, 76, 77, 78, 79, 80, 81, 82, 83, 84, 85, 86, 87, 88, 89, 90, 91, 92, 93, 94, 95, 96, 97, 98, 99, 100, 101, 102, 103, 104, 105, 106, 107]
def P1 : List Nat := [0, 0, 0, 0, 0, 32, 0, 44, 0, 24, 0, 0, 0, 0, 0, 0, 0, 0, 0, 0, 0, 0, 0, 0, 0, 0, 0, 0, 0, 0, 0, 0, 0, 0, 33, 34, 0, 0, 45, 46, 47, 48, 49, 50, 51, 52, 0, 0, 0, 25, 26, 27, 28, 29, 30, 31, 0, 0, 0, 0, 0, 0, 0, 0, 0, 0, 0, 0, 0, 0, 0, 0, 0, 0, 0, 0, 0, 0, 0, 0, 0, 0, 0, 0, 0, 0, 0, 0, 0, 0, 0, 0, 0, 0, 0, 0, 0, 0, 0, 0, 0, 0, 0, 0]
def pos (s : Nat) (j : Int) : Nat := if j = 1 then P1.getD s 0 else P0.getD s 0
def α0 (a : Nat → Nat) : Ax := fun s j => a (pos s j)
def κ0 : Nat → Int := fun s => if kcode s = 0 then 1 else if kcode s = 1 then 2 else 0
def M0 : Mem := fun s j k => if s = 10 ∧ j = 0 ∧ k = 7 then 60 else if s = 10 ∧ j = 0 ∧ k = 8 then 30 else if s = 10 ∧ j = 0 ∧ k = 10 then 1 else if s = 11 ∧ j = 0 ∧ k = 24 then 60 else if s = 11 ∧ j = 0 ∧ k = 25 then 30 else 0
def WL (G : Gx) (a : Nat → Nat) : va_W := (a 0, .inr (10, [.ref (a 1), .ref (a 9), .ref (a 17), .ref (a 20), .ref (a 53), .ref (a 35), .ref (a 44), .int (Int32.ofInt 60), .int (Int32.ofInt 30), .int 0, .int (Int32.ofInt 1)])) :: (a 1, .inr (4, [.ref (a 2), .ref (a 3), .ref (a 4), .ref (a 5), .ref (a 6), .ref (a 7), .ref (a 8), .int 0])) :: (a 2, .inr (0, [.int (Int32.ofInt 0), .ref G.2.2.2.2.2, .int (Int32.ofInt 0)])) :: (a 3, .inr (0, [.int (Int32.ofInt 0), .ref G.2.2.2.2.2, .int (Int32.ofInt 0)])) :: (a 4, .inr (0, [.int (Int32.ofInt 0), .ref G.2.2.2.2.2, .int (Int32.ofInt 0)])) :: (a 5, .inr (0, [.int (Int32.ofInt 0), .ref G.2.2.2.2.2, .int (Int32.ofInt 0)])) :: (a 6, .inr (0, [.int (Int32.ofInt 0), .ref G.2.2.2.2.2, .int (Int32.ofInt 0)])) :: (a 7, .inr (0, [.int (Int32.ofInt 0), .ref G.2.2.2.2.2, .int (Int32.ofInt 0)])) :: (a 8, .inl (G.2.2.1, 6, .inl (fun _ => 0))) :: (a 9, .inr (9, [.ref (a 1), .ref (a 10), .ref (a 11), .ref (a 12), .ref (a 13), .ref (a 14), .ref (a 15), .ref (a 16)])) :: (a 10, .inl (G.2.1, 6, .inl (fun _ => 0))) :: (a 11, .inl (G.2.1, 6, .inl (fun _ => 0))) :: (a 12, .inl (G.2.1, 6, .inl (fun _ => 0))) :: (a 13, .inl (G.2.1, 6, .inl (fun _ => 0))) :: (a 14, .inl (G.2.1, 6, .inl (fun _ => 0))) :: (a 15, .inl (G.2.1, 6, .inl (fun _ => 0))) :: (a 16, .inl (G.2.1, 6, .inl (fun _ => 0))) :: (a 17, .inr (5, [.ref (a 1), .ref (a 18), .ref (a 19)])) :: (a 18, .inl (G.2.1, 100, .inl (fun _ => 0))) :: (a 19, .inl (G.2.1, 29, .inl (fun _ => 0))) :: (a 20, .inr (8, [.ref (a 1), .ref (a 24), .ref (a 32), .ref (a 21), .ref (a 22), .ref (a 23)])) :: (a 21, .inl (G.2.1, 6, .inl (fun _ => 0))) :: (a 22, .inl (G.2.1, 6, .inl (fun _ => 0))) :: (a 23, .inl (G.2.1, 2500, .inl (fun _ => 0))) :: (a 24, .inr (9, [.ref (a 1), .ref (a 25), .ref (a 26), .ref (a 27), .ref (a 28), .ref (a 29), .ref (a 30), .ref (a 31)])) :: (a 25, .inl (G.2.1, 6, .inl (fun _ => 0))) :: (a 26, .inl (G.2.1, 6, .inl (fun _ => 0))) :: (a 27, .inl (G.2.1, 6, .inl (fun _ => 0))) :: (a 28, .inl (G.2.1, 6, .inl (fun _ => 0))) :: (a 29, .inl (G.2.1, 6, .inl (fun _ => 0))) :: (a 30, .inl (G.2.1, 6, .inl (fun _ => 0))) :: (a 31, .inl (G.2.1, 6, .inl (fun _ => 0))) :: (a 32, .inr (5, [.ref (a 1), .ref (a 33), .ref (a 34)])) :: (a 33, .inl (G.2.1, 100, .inl (fun _ => 0))) :: (a 34, .inl (G.2.1, 29, .inl (fun _ => 0))) :: (a 35, .inr (7, [.int 0, .int 0, .int 0, .int 0, .ref (a 36), .ref (a 37), .ref (a 38), .ref (a 39), .ref (a 40), .ref (a 41), .ref (a 42), .ref (a 43)])) :: (a 36, .inl (G.2.1, 904, .inl (fun _ => 0))) :: (a 37, .inl (G.2.1, 904, .inl (fun _ => 0))) :: (a 38, .inl (G.2.1, 904, .inl (fun _ => 0))) :: (a 39, .inl (G.2.1, 904, .inl (fun _ => 0))) :: (a 40, .inl (G.2.1, 904, .inl (fun _ => 0))) :: (a 41, .inl (G.2.1, 904, .inl (fun _ => 0))) :: (a 42, .inl (G.2.1, 5424, .inl (fun _ => 0))) :: (a 43, .inl (G.2.1, 29, .inl (fun _ => 0))) :: (a 44, .inr (7, [.int 0, .int 0, .int 0, .int 0, .ref (a 45), .ref (a 46), .ref (a 47), .ref (a 48), .ref (a 49), .ref (a 50), .ref (a 51), .ref (a 52)])) :: (a 45, .inl (G.2.1, 904, .inl (fun _ => 0))) :: (a 46, .inl (G.2.1, 904, .inl (fun _ => 0))) :: (a 47, .inl (G.2.1, 904, .inl (fun _ => 0))) :: (a 48, .inl (G.2.1, 904, .inl (fun _ => 0))) :: (a 49, .inl (G.2.1, 904, .inl (fun _ => 0))) :: (a 50, .inl (G.2.1, 904, .inl (fun _ => 0))) :: (a 51, .inl (G.2.1, 5424, .inl (fun _ => 0))) :: (a 52, .inl (G.2.1, 29, .inl (fun _ => 0))) :: (a 53, .inr (3, [.ref (a 1), .ref (a 17), .ref (a 35), .ref (a 54), .ref (a 55), .ref (a 56), .ref (a 57), .ref (a 58), .int 0, .int 0, .int 0, .int 0, .int 0, .int 0])) :: (a 54, .inl (G.2.1, 50, .inl (fun _ => 0))) :: (a 55, .inl (G.2.1, 50, .inl (fun _ => 0))) :: (a 56, .inl (G.2.1, 50, .inl (fun _ => 0))) :: (a 57, .inl (G.2.2.1, 50, .inl (fun _ => 0))) :: (a 58, .inl (G.2.1, 29, .inl (fun _ => 0))) :: (a 59, .inr (11, [.ref (a 60), .ref (a 61), .ref (a 62), .ref (a 63), .int 0, .ref (a 64), .ref (a 65), .ref (a 66), .int 0, .ref (a 67), .ref (a 68), .ref (a 69), .ref (a 70), .ref (a 71), .ref (a 72), .int 0, .ref (a 73), .ref (a 74), .ref (a 75), .ref (a 76), .ref (a 77), .ref (a 78), .ref (a 79), .ref (a 80), .int (Int32.ofInt 60), .int (Int32.ofInt 30), .int 0, .ref (a 81), .ref (a 82), .ref (a 83), .int 0, .ref (a 84), .ref (a 85), .ref (a 86), .ref (a 87), .ref (a 88), .ref (a 89), .ref (a 90), .ref (a 91), .ref (a 92), .ref (a 93), .int 0, .ref (a 94), .ref (a 95), .ref (a 96), .ref (a 97), .int 0, .ref (a 98), .ref (a 99), .int 0, .ref (a 100), .ref (a 101), .ref (a 102), .ref (a 103), .int 0, .ref (a 104), .ref (a 105), .ref (a 106), .int 0, .int 0])) :: (a 60, .inl (G.2.1, 6, .inl (fun _ => 0))) :: (a 61, .inl (G.2.1, 6, .inl (fun _ => 0))) :: (a 62, .inl (G.2.2.1, 6, .inl (fun _ => 0))) :: (a 63, .inl (G.2.2.1, 6, .inl (fun _ => 0))) :: (a 64, .inl (G.2.1, 29, .inl (fun _ => 0))) :: (a 65, .inl (G.2.1, 29, .inl (fun _ => 0))) :: (a 66, .inl (G.2.2.1, 29, .inl (fun _ => 0))) :: (a 67, .inl (G.2.1, 72, .inl (fun _ => 0))) :: (a 68, .inl (G.2.1, 3, .inl (fun _ => 0))) :: (a 69, .inl (G.2.1, 100, .inl (fun _ => 0))) :: (a 70, .inl (G.2.1, 100, .inl (fun _ => 0))) :: (a 71, .inl (G.2.1, 100, .inl (fun _ => 0))) :: (a 72, .inl (G.2.1, 100, .inl (fun _ => 0))) :: (a 73, .inl (G.2.1, 174, .inl (fun _ => 0))) :: (a 74, .inl (G.2.1, 1200, .inl (fun _ => 0))) :: (a 75, .inl (G.2.1, 1200, .inl (fun _ => 0))) :: (a 76, .inl (G.2.1, 100, .inl (fun _ => 0))) :: (a 77, .inl (G.2.2.1, 100, .inl (fun _ => 0))) :: (a 78, .inl (G.2.1, 100, .inl (fun _ => 0))) :: (a 79, .inl (G.2.1, 100, .inl (fun _ => 0))) :: (a 80, .inl (G.2.1, 100, .inl (fun _ => 0))) :: (a 81, .inl (G.2.1, 400, .inl (fun _ => 0))) :: (a 82, .inl (G.2.1, 116, .inl (fun _ => 0))) :: (a 83, .inl (G.2.1, 24, .inl (fun _ => 0))) :: (a 84, .inl (G.2.1, 6, .inl (fun _ => 0))) :: (a 85, .inl (G.2.1, 6, .inl (fun _ => 0))) :: (a 86, .inl (G.2.1, 6, .inl (fun _ => 0))) :: (a 87, .inl (G.2.1, 6, .inl (fun _ => 0))) :: (a 88, .inl (G.2.1, 6, .inl (fun _ => 0))) :: (a 89, .inl (G.2.1, 29, .inl (fun _ => 0))) :: (a 90, .inl (G.2.1, 60, .inl (fun _ => 0))) :: (a 91, .inl (G.2.1, 60, .inl (fun _ => 0))) :: (a 92, .inl (G.2.1, 60, .inl (fun _ => 0))) :: (a 93, .inl (G.2.2.1, 60, .inl (fun _ => 0))) :: (a 94, .inl (G.2.1, 1100, .inl (fun _ => 0))) :: (a 95, .inl (G.2.1, 1100, .inl (fun _ => 0))) :: (a 96, .inl (G.2.1, 1100, .inl (fun _ => 0))) :: (a 97, .inl (G.2.1, 1100, .inl (fun _ => 0))) :: (a 98, .inl (G.2.1, 1000, .inl (fun _ => 0))) :: (a 99, .inl (G.2.1, 1000, .inl (fun _ => 0))) :: (a 100, .inl (G.2.1, 1100, .inl (fun _ => 0))) :: (a 101, .inl (G.2.1, 1100, .inl (fun _ => 0))) :: (a 102, .inl (G.2.1, 1100, .inl (fun _ => 0))) :: (a 103, .inl (G.2.1, 1100, .inl (fun _ => 0))) :: (a 104, .inl (G.2.1, 1000, .inl (fun _ => 0))) :: (a 105, .inl (G.2.1, 6000, .inl (fun _ => 0))) :: (a 106, .inl (G.2.2.1, 6, .inl (fun _ => 0))) :: (a 107, .inl (G.2.2.2.1, 1, .inr (.inl (fun _ => 0)))) :: []
theorem se_0 (G : Gx) (a : Nat → Nat) : (WL G a)[0]? = some (α0 a 10 0, ent G G.2.2.2.2.2 (α0 a) M0 10 0) := rfl
theorem se_1 (G : Gx) (a : Nat → Nat) : (WL G a)[1]? = some (α0 a 4 0, ent G G.2.2.2.2.2 (α0 a) M0 4 0) := rfl
theorem se_2 (G : Gx) (a : Nat → Nat) : (WL G a)[2]? = some (α0 a 12 0, ent G G.2.2.2.2.2 (α0 a) M0 12 0) := rfl
theorem se_3 (G : Gx) (a : Nat → Nat) : (WL G a)[3]? = some (α0 a 13 0, ent G G.2.2.2.2.2 (α0 a) M0 13 0) := rfl
theorem se_4 (G : Gx) (a : Nat → Nat) : (WL G a)[4]? = some (α0 a 14 0, ent G G.2.2.2.2.2 (α0 a) M0 14 0) := rfl
theorem se_5 (G : Gx) (a : Nat → Nat) : (WL G a)[5]? = some (α0 a 15 0, ent G G.2.2.2.2.2 (α0 a) M0 15 0) := rfl
theorem se_6 (G : Gx) (a : Nat → Nat) : (WL G a)[6]? = some (α0 a 16 0, ent G G.2.2.2.2.2 (α0 a) M0 16 0) := rfl
theorem se_7 (G : Gx) (a : Nat → Nat) : (WL G a)[7]? = some (α0 a 17 0, ent G G.2.2.2.2.2 (α0 a) M0 17 0) := rfl
theorem se_8 (G : Gx) (a : Nat → Nat) : (WL G a)[8]? = some (α0 a 33 0, ent G G.2.2.2.2.2 (α0 a) M0 33 0) := rfl
theorem se_9 (G : Gx) (a : Nat → Nat) : (WL G a)[9]? = some (α0 a 9 0, ent G G.2.2.2.2.2 (α0 a) M0 9 0) := rfl
theorem se_10 (G : Gx) (a : Nat → Nat) : (WL G a)[10]? = some (α0 a 49 0, ent G G.2.2.2.2.2 (α0 a) M0 49 0) := rfl
theorem se_11 (G : Gx) (a : Nat → Nat) : (WL G a)[11]? = some (α0 a 50 0, ent G G.2.2.2.2.2 (α0 a) M0 50 0) := rfl
theorem se_12 (G : Gx) (a : Nat → Nat) : (WL G a)[12]? = some (α0 a 51 0, ent G G.2.2.2.2.2 (α0 a) M0 51 0) := rfl
theorem se_13 (G : Gx) (a : Nat → Nat) : (WL G a)[13]? = some (α0 a 52 0, ent G G.2.2.2.2.2 (α0 a) M0 52 0) := rfl
theorem se_14 (G : Gx) (a : Nat → Nat) : (WL G a)[14]? = some (α0 a 53 0, ent G G.2.2.2.2.2 (α0 a) M0 53 0) := rfl
theorem se_15 (G : Gx) (a : Nat → Nat) : (WL G a)[15]? = some (α0 a 54 0, ent G G.2.2.2.2.2 (α0 a) M0 54 0) := rfl
theorem se_16 (G : Gx) (a : Nat → Nat) : (WL G a)[16]? = some (α0 a 55 0, ent G G.2.2.2.2.2 (α0 a) M0 55 0) := rfl
theorem se_17 (G : Gx) (a : Nat → Nat) : (WL G a)[17]? = some (α0 a 5 0, ent G G.2.2.2.2.2 (α0 a) M0 5 0) := rfl
theorem se_18 (G : Gx) (a : Nat → Nat) : (WL G a)[18]? = some (α0 a 34 0, ent G G.2.2.2.2.2 (α0 a) M0 34 0) := rfl
theorem se_19 (G : Gx) (a : Nat → Nat) : (WL G a)[19]? = some (α0 a 35 0, ent G G.2.2.2.2.2 (α0 a) M0 35 0) := rfl
theorem se_20 (G : Gx) (a : Nat → Nat) : (WL G a)[20]? = some (α0 a 8 0, ent G G.2.2.2.2.2 (α0 a) M0 8 0) := rfl
theorem se_21 (G : Gx) (a : Nat → Nat) : (WL G a)[21]? = some (α0 a 46 0, ent G G.2.2.2.2.2 (α0 a) M0 46 0) := rfl
theorem se_22 (G : Gx) (a : Nat → Nat) : (WL G a)[22]? = some (α0 a 47 0, ent G G.2.2.2.2.2 (α0 a) M0 47 0) := rfl
theorem se_23 (G : Gx) (a : Nat → Nat) : (WL G a)[23]? = some (α0 a 48 0, ent G G.2.2.2.2.2 (α0 a) M0 48 0) := rfl
theorem se_24 (G : Gx) (a : Nat → Nat) : (WL G a)[24]? = some (α0 a 9 1, ent G G.2.2.2.2.2 (α0 a) M0 9 1) := rfl
theorem se_25 (G : Gx) (a : Nat → Nat) : (WL G a)[25]? = some (α0 a 49 1, ent G G.2.2.2.2.2 (α0 a) M0 49 1) := rfl
theorem se_26 (G : Gx) (a : Nat → Nat) : (WL G a)[26]? = some (α0 a 50 1, ent G G.2.2.2.2.2 (α0 a) M0 50 1) := rfl
theorem se_27 (G : Gx) (a : Nat → Nat) : (WL G a)[27]? = some (α0 a 51 1, ent G G.2.2.2.2.2 (α0 a) M0 51 1) := rfl
theorem se_28 (G : Gx) (a : Nat → Nat) : (WL G a)[28]? = some (α0 a 52 1, ent G G.2.2.2.2.2 (α0 a) M0 52 1) := rfl
theorem se_29 (G : Gx) (a : Nat → Nat) : (WL G a)[29]? = some (α0 a 53 1, ent G G.2.2.2.2.2 (α0 a) M0 53 1) := rfl
theorem se_30 (G : Gx) (a : Nat → Nat) : (WL G a)[30]? = some (α0 a 54 1, ent G G.2.2.2.2.2 (α0 a) M0 54 1) := rfl
theorem se_31 (G : Gx) (a : Nat → Nat) : (WL G a)[31]? = some (α0 a 55 1, ent G G.2.2.2.2.2 (α0 a) M0 55 1) := rfl
theorem se_32 (G : Gx) (a : Nat → Nat) : (WL G a)[32]? = some (α0 a 5 1, ent G G.2.2.2.2.2 (α0 a) M0 5 1) := rfl
theorem se_33 (G : Gx) (a : Nat → Nat) : (WL G a)[33]? = some (α0 a 34 1, ent G G.2.2.2.2.2 (α0 a) M0 34 1) := rfl
theorem se_34 (G : Gx) (a : Nat → Nat) : (WL G a)[34]? = some (α0 a 35 1, ent G G.2.2.2.2.2 (α0 a) M0 35 1) := rfl
theorem se_35 (G : Gx) (a : Nat → Nat) : (WL G a)[35]? = some (α0 a 7 0, ent G G.2.2.2.2.2 (α0 a) M0 7 0) := rfl
theorem se_36 (G : Gx) (a : Nat → Nat) : (WL G a)[36]? = some (α0 a 38 0, ent G G.2.2.2.2.2 (α0 a) M0 38 0) := rfl
theorem se_37 (G : Gx) (a : Nat → Nat) : (WL G a)[37]? = some (α0 a 39 0, ent G G.2.2.2.2.2 (α0 a) M0 39 0) := rfl
theorem se_38 (G : Gx) (a : Nat → Nat) : (WL G a)[38]? = some (α0 a 40 0, ent G G.2.2.2.2.2 (α0 a) M0 40 0) := rfl
theorem se_39 (G : Gx) (a : Nat → Nat) : (WL G a)[39]? = some (α0 a 41 0, ent G G.2.2.2.2.2 (α0 a) M0 41 0) := rfl
theorem se_40 (G : Gx) (a : Nat → Nat) : (WL G a)[40]? = some (α0 a 42 0, ent G G.2.2.2.2.2 (α0 a) M0 42 0) := rfl
theorem se_41 (G : Gx) (a : Nat → Nat) : (WL G a)[41]? = some (α0 a 43 0, ent G G.2.2.2.2.2 (α0 a) M0 43 0) := rfl
theorem se_42 (G : Gx) (a : Nat → Nat) : (WL G a)[42]? = some (α0 a 44 0, ent G G.2.2.2.2.2 (α0 a) M0 44 0) := rfl
theorem se_43 (G : Gx) (a : Nat → Nat) : (WL G a)[43]? = some (α0 a 45 0, ent G G.2.2.2.2.2 (α0 a) M0 45 0) := rfl
theorem se_44 (G : Gx) (a : Nat → Nat) : (WL G a)[44]? = some (α0 a 7 1, ent G G.2.2.2.2.2 (α0 a) M0 7 1) := rfl
theorem se_45 (G : Gx) (a : Nat → Nat) : (WL G a)[45]? = some (α0 a 38 1, ent G G.2.2.2.2.2 (α0 a) M0 38 1) := rfl
theorem se_46 (G : Gx) (a : Nat → Nat) : (WL G a)[46]? = some (α0 a 39 1, ent G G.2.2.2.2.2 (α0 a) M0 39 1) := rfl
theorem se_47 (G : Gx) (a : Nat → Nat) : (WL G a)[47]? = some (α0 a 40 1, ent G G.2.2.2.2.2 (α0 a) M0 40 1) := rfl
theorem se_48 (G : Gx) (a : Nat → Nat) : (WL G a)[48]? = some (α0 a 41 1, ent G G.2.2.2.2.2 (α0 a) M0 41 1) := rfl
theorem se_49 (G : Gx) (a : Nat → Nat) : (WL G a)[49]? = some (α0 a 42 1, ent G G.2.2.2.2.2 (α0 a) M0 42 1) := rfl
theorem se_50 (G : Gx) (a : Nat → Nat) : (WL G a)[50]? = some (α0 a 43 1, ent G G.2.2.2.2.2 (α0 a) M0 43 1) := rfl
theorem se_51 (G : Gx) (a : Nat → Nat) : (WL G a)[51]? = some (α0 a 44 1, ent G G.2.2.2.2.2 (α0 a) M0 44 1) := rfl
theorem se_52 (G : Gx) (a : Nat → Nat) : (WL G a)[52]? = some (α0 a 45 1, ent G G.2.2.2.2.2 (α0 a) M0 45 1) := rfl
theorem se_53 (G : Gx) (a : Nat → Nat) : (WL G a)[53]? = some (α0 a 3 0, ent G G.2.2.2.2.2 (α0 a) M0 3 0) := rfl
theorem se_54 (G : Gx) (a : Nat → Nat) : (WL G a)[54]? = some (α0 a 28 0, ent G G.2.2.2.2.2 (α0 a) M0 28 0) := rfl
theorem se_55 (G : Gx) (a : Nat → Nat) : (WL G a)[55]? = some (α0 a 29 0, ent G G.2.2.2.2.2 (α0 a) M0 29 0) := rfl
theorem se_56 (G : Gx) (a : Nat → Nat) : (WL G a)[56]? = some (α0 a 30 0, ent G G.2.2.2.2.2 (α0 a) M0 30 0) := rfl
theorem se_57 (G : Gx) (a : Nat → Nat) : (WL G a)[57]? = some (α0 a 31 0, ent G G.2.2.2.2.2 (α0 a) M0 31 0) := rfl
theorem se_58 (G : Gx) (a : Nat → Nat) : (WL G a)[58]? = some (α0 a 32 0, ent G G.2.2.2.2.2 (α0 a) M0 32 0) := rfl
theorem se_59 (G : Gx) (a : Nat → Nat) : (WL G a)[59]? = some (α0 a 11 0, ent G G.2.2.2.2.2 (α0 a) M0 11 0) := rfl
theorem se_60 (G : Gx) (a : Nat → Nat) : (WL G a)[60]? = some (α0 a 56 0, ent G G.2.2.2.2.2 (α0 a) M0 56 0) := rfl
theorem se_61 (G : Gx) (a : Nat → Nat) : (WL G a)[61]? = some (α0 a 57 0, ent G G.2.2.2.2.2 (α0 a) M0 57 0) := rfl
theorem se_62 (G : Gx) (a : Nat → Nat) : (WL G a)[62]? = some (α0 a 58 0, ent G G.2.2.2.2.2 (α0 a) M0 58 0) := rfl
theorem se_63 (G : Gx) (a : Nat → Nat) : (WL G a)[63]? = some (α0 a 59 0, ent G G.2.2.2.2.2 (α0 a) M0 59 0) := rfl
theorem se_64 (G : Gx) (a : Nat → Nat) : (WL G a)[64]? = some (α0 a 60 0, ent G G.2.2.2.2.2 (α0 a) M0 60 0) := rfl
theorem se_65 (G : Gx) (a : Nat → Nat) : (WL G a)[65]? = some (α0 a 61 0, ent G G.2.2.2.2.2 (α0 a) M0 61 0) := rfl
theorem se_66 (G : Gx) (a : Nat → Nat) : (WL G a)[66]? = some (α0 a 62 0, ent G G.2.2.2.2.2 (α0 a) M0 62 0) := rfl
theorem se_67 (G : Gx) (a : Nat → Nat) : (WL G a)[67]? = some (α0 a 63 0, ent G G.2.2.2.2.2 (α0 a) M0 63 0) := rfl
theorem se_68 (G : Gx) (a : Nat → Nat) : (WL G a)[68]? = some (α0 a 64 0, ent G G.2.2.2.2.2 (α0 a) M0 64 0) := rfl
theorem se_69 (G : Gx) (a : Nat → Nat) : (WL G a)[69]? = some (α0 a 65 0, ent G G.2.2.2.2.2 (α0 a) M0 65 0) := rfl
theorem se_70 (G : Gx) (a : Nat → Nat) : (WL G a)[70]? = some (α0 a 66 0, ent G G.2.2.2.2.2 (α0 a) M0 66 0) := rfl
theorem se_71 (G : Gx) (a : Nat → Nat) : (WL G a)[71]? = some (α0 a 67 0, ent G G.2.2.2.2.2 (α0 a) M0 67 0) := rfl
theorem se_72 (G : Gx) (a : Nat → Nat) : (WL G a)[72]? = some (α0 a 68 0, ent G G.2.2.2.2.2 (α0 a) M0 68 0) := rfl
theorem se_73 (G : Gx) (a : Nat → Nat) : (WL G a)[73]? = some (α0 a 69 0, ent G G.2.2.2.2.2 (α0 a) M0 69 0) := rfl
theorem se_74 (G : Gx) (a : Nat → Nat) : (WL G a)[74]? = some (α0 a 70 0, ent G G.2.2.2.2.2 (α0 a) M0 70 0) := rfl
theorem se_75 (G : Gx) (a : Nat → Nat) : (WL G a)[75]? = some (α0 a 71 0, ent G G.2.2.2.2.2 (α0 a) M0 71 0) := rfl
theorem se_76 (G : Gx) (a : Nat → Nat) : (WL G a)[76]? = some (α0 a 72 0, ent G G.2.2.2.2.2 (α0 a) M0 72 0) := rfl
theorem se_77 (G : Gx) (a : Nat → Nat) : (WL G a)[77]? = some (α0 a 73 0, ent G G.2.2.2.2.2 (α0 a) M0 73 0) := rfl
theorem se_78 (G : Gx) (a : Nat → Nat) : (WL G a)[78]? = some (α0 a 74 0, ent G G.2.2.2.2.2 (α0 a) M0 74 0) := rfl
theorem se_79 (G : Gx) (a : Nat → Nat) : (WL G a)[79]? = some (α0 a 75 0, ent G G.2.2.2.2.2 (α0 a) M0 75 0) := rfl
theorem se_80 (G : Gx) (a : Nat → Nat) : (WL G a)[80]? = some (α0 a 76 0, ent G G.2.2.2.2.2 (α0 a) M0 76 0) := rfl
theorem se_81 (G : Gx) (a : Nat → Nat) : (WL G a)[81]? = some (α0 a 77 0, ent G G.2.2.2.2.2 (α0 a) M0 77 0) := rfl
theorem se_82 (G : Gx) (a : Nat → Nat) : (WL G a)[82]? = some (α0 a 78 0, ent G G.2.2.2.2.2 (α0 a) M0 78 0) := rfl
theorem se_83 (G : Gx) (a : Nat → Nat) : (WL G a)[83]? = some (α0 a 79 0, ent G G.2.2.2.2.2 (α0 a) M0 79 0) := rfl
theorem se_84 (G : Gx) (a : Nat → Nat) : (WL G a)[84]? = some (α0 a 80 0, ent G G.2.2.2.2.2 (α0 a) M0 80 0) := rfl
theorem se_85 (G : Gx) (a : Nat → Nat) : (WL G a)[85]? = some (α0 a 81 0, ent G G.2.2.2.2.2 (α0 a) M0 81 0) := rfl
theorem se_86 (G : Gx) (a : Nat → Nat) : (WL G a)[86]? = some (α0 a 82 0, ent G G.2.2.2.2.2 (α0 a) M0 82 0) := rfl
theorem se_87 (G : Gx) (a : Nat → Nat) : (WL G a)[87]? = some (α0 a 83 0, ent G G.2.2.2.2.2 (α0 a) M0 83 0) := rfl
theorem se_88 (G : Gx) (a : Nat → Nat) : (WL G a)[88]? = some (α0 a 84 0, ent G G.2.2.2.2.2 (α0 a) M0 84 0) := rfl
theorem se_89 (G : Gx) (a : Nat → Nat) : (WL G a)[89]? = some (α0 a 85 0, ent G G.2.2.2.2.2 (α0 a) M0 85 0) := rfl
theorem se_90 (G : Gx) (a : Nat → Nat) : (WL G a)[90]? = some (α0 a 86 0, ent G G.2.2.2.2.2 (α0 a) M0 86 0) := rfl
theorem se_91 (G : Gx) (a : Nat → Nat) : (WL G a)[91]? = some (α0 a 87 0, ent G G.2.2.2.2.2 (α0 a) M0 87 0) := rfl
theorem se_92 (G : Gx) (a : Nat → Nat) : (WL G a)[92]? = some (α0 a 88 0, ent G G.2.2.2.2.2 (α0 a) M0 88 0) := rfl
theorem se_93 (G : Gx) (a : Nat → Nat) : (WL G a)[93]? = some (α0 a 89 0, ent G G.2.2.2.2.2 (α0 a) M0 89 0) := rfl
theorem se_94 (G : Gx) (a : Nat → Nat) : (WL G a)[94]? = some (α0 a 90 0, ent G G.2.2.2.2.2 (α0 a) M0 90 0) := rfl
theorem se_95 (G : Gx) (a : Nat → Nat) : (WL G a)[95]? = some (α0 a 91 0, ent G G.2.2.2.2.2 (α0 a) M0 91 0) := rfl
theorem se_96 (G : Gx) (a : Nat → Nat) : (WL G a)[96]? = some (α0 a 92 0, ent G G.2.2.2.2.2 (α0 a) M0 92 0) := rfl
theorem se_97 (G : Gx) (a : Nat → Nat) : (WL G a)[97]? = some (α0 a 93 0, ent G G.2.2.2.2.2 (α0 a) M0 93 0) := rfl
theorem se_98 (G : Gx) (a : Nat → Nat) : (WL G a)[98]? = some (α0 a 94 0, ent G G.2.2.2.2.2 (α0 a) M0 94 0) := rfl
theorem se_99 (G : Gx) (a : Nat → Nat) : (WL G a)[99]? = some (α0 a 95 0, ent G G.2.2.2.2.2 (α0 a) M0 95 0) := rfl
theorem se_100 (G : Gx) (a : Nat → Nat) : (WL G a)[100]? = some (α0 a 96 0, ent G G.2.2.2.2.2 (α0 a) M0 96 0) := rfl
theorem se_101 (G : Gx) (a : Nat → Nat) : (WL G a)[101]? = some (α0 a 97 0, ent G G.2.2.2.2.2 (α0 a) M0 97 0) := rfl
theorem se_102 (G : Gx) (a : Nat → Nat) : (WL G a)[102]? = some (α0 a 98 0, ent G G.2.2.2.2.2 (α0 a) M0 98 0) := rfl
theorem se_103 (G : Gx) (a : Nat → Nat) : (WL G a)[103]? = some (α0 a 99 0, ent G G.2.2.2.2.2 (α0 a) M0 99 0) := rfl
theorem se_104 (G : Gx) (a : Nat → Nat) : (WL G a)[104]? = some (α0 a 100 0, ent G G.2.2.2.2.2 (α0 a) M0 100 0) := rfl
theorem se_105 (G : Gx) (a : Nat → Nat) : (WL G a)[105]? = some (α0 a 101 0, ent G G.2.2.2.2.2 (α0 a) M0 101 0) := rfl
theorem se_106 (G : Gx) (a : Nat → Nat) : (WL G a)[106]? = some (α0 a 102 0, ent G G.2.2.2.2.2 (α0 a) M0 102 0) := rfl
theorem se_107 (G : Gx) (a : Nat → Nat) : (WL G a)[107]? = some (α0 a 103 0, ent G G.2.2.2.2.2 (α0 a) M0 103 0) := rfl
theorem se_all (G : Gx) (a : Nat → Nat) : ∀ k : Nat, ∀ q : Nat × Int, PL[k]? = some q → (WL G a)[k]? = some (α0 a q.1 q.2, ent G G.2.2.2.2.2 (α0 a) M0 q.1 q.2) := by
  intro k q hq
  have hk : k < 108 := (List.getElem?_eq_some_iff.mp hq).1
  match k, hq with
  | 0, hq => cases hq; exact se_0 G a
  | 1, hq => cases hq; exact se_1 G a
  | 2, hq => cases hq; exact se_2 G a
  | 3, hq => cases hq; exact se_3 G a
  | 4, hq => cases hq; exact se_4 G a
  | 5, hq => cases hq; exact se_5 G a
  | 6, hq => cases hq; exact se_6 G a
  | 7, hq => cases hq; exact se_7 G a
  | 8, hq => cases hq; exact se_8 G a
  | 9, hq => cases hq; exact se_9 G a
  | 10, hq => cases hq; exact se_10 G a
  | 11, hq => cases hq; exact se_11 G a
  | 12, hq => cases hq; exact se_12 G a
  | 13, hq => cases hq; exact se_13 G a
  | 14, hq => cases hq; exact se_14 G a
  | 15, hq => cases hq; exact se_15 G a
  | 16, hq => cases hq; exact se_16 G a
  | 17, hq => cases hq; exact se_17 G a
  | 18, hq => cases hq; exact se_18 G a
  | 19, hq => cases hq; exact se_19 G a
  | 20, hq => cases hq; exact se_20 G a
  | 21, hq => cases hq; exact se_21 G a
  | 22, hq => cases hq; exact se_22 G a
  | 23, hq => cases hq; exact se_23 G a
  | 24, hq => cases hq; exact se_24 G a
  | 25, hq => cases hq; exact se_25 G a
  | 26, hq => cases hq; exact se_26 G a
  | 27, hq => cases hq; exact se_27 G a
  | 28, hq => cases hq; exact se_28 G a
  | 29, hq => cases hq; exact se_29 G a
  | 30, hq => cases hq; exact se_30 G a
  | 31, hq => cases hq; exact se_31 G a
  | 32, hq => cases hq; exact se_32 G a
  | 33, hq => cases hq; exact se_33 G a
  | 34, hq => cases hq; exact se_34 G a
  | 35, hq => cases hq; exact se_35 G a
  | 36, hq => cases hq; exact se_36 G a
  | 37, hq => cases hq; exact se_37 G a
  | 38, hq => cases hq; exact se_38 G a
  | 39, hq => cases hq; exact se_39 G a
  | 40, hq => cases hq; exact se_40 G a
  | 41, hq => cases hq; exact se_41 G a
  | 42, hq => cases hq; exact se_42 G a
  | 43, hq => cases hq; exact se_43 G a
  | 44, hq => cases hq; exact se_44 G a
  | 45, hq => cases hq; exact se_45 G a
  | 46, hq => cases hq; exact se_46 G a
  | 47, hq => cases hq; exact se_47 G a
  | 48, hq => cases hq; exact se_48 G a
  | 49, hq => cases hq; exact se_49 G a
  | 50, hq => cases hq; exact se_50 G a
  | 51, hq => cases hq; exact se_51 G a
  | 52, hq => cases hq; exact se_52 G a
  | 53, hq => cases hq; exact se_53 G a
  | 54, hq => cases hq; exact se_54 G a
  | 55, hq => cases hq; exact se_55 G a
  | 56, hq => cases hq; exact se_56 G a
  | 57, hq => cases hq; exact se_57 G a
  | 58, hq => cases hq; exact se_58 G a
  | 59, hq => cases hq; exact se_59 G a
  | 60, hq => cases hq; exact se_60 G a
  | 61, hq => cases hq; exact se_61 G a
  | 62, hq => cases hq; exact se_62 G a
  | 63, hq => cases hq; exact se_63 G a
  | 64, hq => cases hq; exact se_64 G a
  | 65, hq => cases hq; exact se_65 G a
  | 66, hq => cases hq; exact se_66 G a
  | 67, hq => cases hq; exact se_67 G a
  | 68, hq => cases hq; exact se_68 G a
  | 69, hq => cases hq; exact se_69 G a
  | 70, hq => cases hq; exact se_70 G a
  | 71, hq => cases hq; exact se_71 G a
  | 72, hq => cases hq; exact se_72 G a
  | 73, hq => cases hq; exact se_73 G a
  | 74, hq => cases hq; exact se_74 G a
  | 75, hq => cases hq; exact se_75 G a
  | 76, hq => cases hq; exact se_76 G a
  | 77, hq => cases hq; exact se_77 G a
  | 78, hq => cases hq; exact se_78 G a
  | 79, hq => cases hq; exact se_79 G a
  | 80, hq => cases hq; exact se_80 G a
  | 81, hq => cases hq; exact se_81 G a
  | 82, hq => cases hq; exact se_82 G a
  | 83, hq => cases hq; exact se_83 G a
  | 84, hq => cases hq; exact se_84 G a
  | 85, hq => cases hq; exact se_85 G a
  | 86, hq => cases hq; exact se_86 G a
  | 87, hq => cases hq; exact se_87 G a
  | 88, hq => cases hq; exact se_88 G a
  | 89, hq => cases hq; exact se_89 G a
  | 90, hq => cases hq; exact se_90 G a
  | 91, hq => cases hq; exact se_91 G a
  | 92, hq => cases hq; exact se_92 G a
  | 93, hq => cases hq; exact se_93 G a
  | 94, hq => cases hq; exact se_94 G a
  | 95, hq => cases hq; exact se_95 G a
  | 96, hq => cases hq; exact se_96 G a
  | 97, hq => cases hq; exact se_97 G a
  | 98, hq => cases hq; exact se_98 G a
  | 99, hq => cases hq; exact se_99 G a
  | 100, hq => cases hq; exact se_100 G a
  | 101, hq => cases hq; exact se_101 G a
  | 102, hq => cases hq; exact se_102 G a
  | 103, hq => cases hq; exact se_103 G a
  | 104, hq => cases hq; exact se_104 G a
  | 105, hq => cases hq; exact se_105 G a
  | 106, hq => cases hq; exact se_106 G a
  | 107, hq => cases hq; exact se_107 G a
  | k + 108, hq => exact absurd hk (by omega)
theorem pl_ok : ∀ s : Fin 104, (kcode s = 0 → PL[pos s 0]? = some ((s : Nat), 0)) ∧ (kcode s = 1 → PL[pos s 0]? = some ((s : Nat), 0) ∧ PL[pos s 1]? = some ((s : Nat), 1)) := by decide +kernel
theorem pl_at {s : Nat} {j : Int} (hs : s < NS) (ho : okk κ0 s j) : PL[pos s j]? = some (s, j) := by
  obtain ⟨h1, h2⟩ := ho
  have h := pl_ok ⟨s, hs⟩
  unfold κ0 at h2
  by_cases e : kcode s = 0
  · rw [if_pos e] at h2
    obtain rfl : j = 0 := by omega
    exact h.1 e
  · rw [if_neg e] at h2
    by_cases e2 : kcode s = 1
    · rw [if_pos e2] at h2
      rcases (show j = 0 ∨ j = 1 by omega) with rfl | rfl
      · exact (h.2 e2).1
      · exact (h.2 e2).2
    · rw [if_neg e2] at h2
      omega
theorem kOK0 : kOK κ0 := by
  intro s
  unfold kst
  have k1 : κ0 1 = 0 := by decide
  have k2 : κ0 2 = 0 := by decide
  have k6 : κ0 6 = 0 := by decide
  rw [k1, k2, k6]
  by_cases e : kcode s = 0
  · rw [if_pos e]; unfold κ0; rw [if_pos e]
  · rw [if_neg e]
    by_cases e1 : kcode s = 1
    · rw [if_pos e1]; unfold κ0; rw [if_neg e, if_pos e1]
    · rw [if_neg e1]
      have z : κ0 s = 0 := by unfold κ0; rw [if_neg e, if_neg e1]
      rw [z]
      repeat' split
      all_goals rfl
set_option maxHeartbeats 4000000 in
theorem M0_R (s : Nat) (j k : Int) : inR (M0 s j k) := by
  unfold M0
  repeat' split
  all_goals exact ⟨by decide, by decide⟩
theorem start_Rp {G : Gx} {a : Nat → Nat} {H : Heap} {B : Nat} (hP : va_P G.1 vwCl (WL G a) H) (hD : va_D (fun q => B ≤ q) (WL G a)) : Rp G G.2.2.2.2.2 (α0 a) κ0 B M0 H := by
  refine ⟨fun s j hs ho => ?_, fun s j s' j' hs ho hs' ho' e => ?_, M0_R, fun j ho => ?_, fun L h1 h2 => ?_⟩
  · have h := se_all G a _ _ (pl_at hs ho)
    exact ⟨hP _ _ h, hD.2 _ _ h⟩
  · have h := se_all G a _ _ (pl_at hs ho)
    have h' := se_all G a _ _ (pl_at hs' ho')
    have hk := hD.1 _ _ _ _ h h' e
    have z := pl_at hs ho
    rw [hk, pl_at hs' ho'] at z
    have z := Option.some.inj z
    exact ⟨(congrArg Prod.fst z).symm, (congrArg Prod.snd z).symm⟩
  · have := ho.2
    rw [show κ0 1 = 0 by decide] at this
    have := ho.1
    omega
  · have hz : M0 L 0 (-1) = 0 ∧ M0 (L + 6) 0 (-1) = 0 ∧ κ0 (L + 6) = 0 := by
      rcases (by omega : L = 12 ∨ L = 13 ∨ L = 14 ∨ L = 15 ∨ L = 16 ∨ L = 17) with rfl | rfl | rfl | rfl | rfl | rfl <;> decide
    rw [hz.1, hz.2.1, hz.2.2]
    exact ⟨by decide, by decide, by decide, fun i h1 h2 => absurd h2 (by omega), by decide⟩
theorem eq_int_of {args : Array Value} {s : State} {t : Term} {n : Int32} (h : (Cond.eq t (.int n)).before args s = true) : t.eval args s none [] s = some (.int n) := by
  have hb : (Term.int n).eval args s none [] s = some (.int n) := rfl
  simp only [Cond.before, Cond.holds, Cond.value, hb] at h
  cases ha : t.eval args s none [] s with
  | none => simp [ha] at h
  | some v => cases v <;> simp [ha] at h <;> simp [h]
theorem nwk_tab {w : Cond} (h : nwk w = true) : w.onTables = true := by
  cases w <;> first | rfl | (exact absurd h (by simp [nwk]))
theorem start_arr {s : State} {args : Array Value} {ty : FieldType} (h : (Cond.arrayClass ty).before args s = true) : ∃ cA : ClassId, ArrOfT s cA ty ∧ s.vm.findClass ("[" ++ ty.toString) = some cA := by
  obtain ⟨c, k, comp, h1, h2, h3⟩ := Cond.arrayClass_spec h
  exact ⟨c, fun n z => ⟨(fun k h => by cases h), k, h2, comp, h3⟩, h1⟩
set_option maxHeartbeats 4000000 in
set_option maxRecDepth 100000 in
theorem start_EV {p : Program} {s : State} {m : MethodId} {meth : Method} {c : Code} {b L : Nat} {xs : Nat → Int32} (C0 : lw_At p s m meth c b L xs) : ∃ G : Gx, EV G s.heap.size s ∧ NcA s := by
  obtain ⟨hx, hb, hr, hml, hown, hts, hX, hbl, hlocks, hgv⟩ := id C0
  have htg : ∀ w ∈ gw, w.before #[Value.ref b] s = true := fun w hw => hts w (List.mem_filter.mp hw).1
  have htn : ∀ w ∈ nw, va_Nw w s := fun w hw => va_Nw.of (nwk_tab (List.mem_filter.mp hw).2) (hts w (List.mem_filter.mp hw).1)
  have hs := flat_of_before _ hgv
  have hA : ∀ a : Nat, a < s.heap.size → ¬ (s.heap.size ≤ a) := fun a h1 h2 => absurd h1 (Nat.not_lt.mpr h2)
  have hcl : ∀ q ∈ vwCl, ∃ (cC : ClassId) (iS : Nat → Nat), u_Kn s q.1 q.2.1 q.2.2 cC iS := List.forall_mem_cons.mpr ⟨u_known (ws := gw) htg gf_Jx4a65c (htg _ kw_135), List.forall_mem_cons.mpr ⟨u_known (ws := gw) htg gf_X0 (htg _ kw_579), List.forall_mem_cons.mpr ⟨u_known (ws := gw) htg gf_X1 (htg _ kw_847), List.forall_mem_cons.mpr ⟨u_known (ws := gw) htg gf_X2 (htg _ kw_336), List.forall_mem_cons.mpr ⟨u_known (ws := gw) htg gf_X3 (htg _ kw_129), List.forall_mem_cons.mpr ⟨u_known (ws := gw) htg gf_X4 (htg _ kw_237), List.forall_mem_cons.mpr ⟨u_known (ws := gw) htg gf_X5 (htg _ kw_946), List.forall_mem_cons.mpr ⟨u_known (ws := gw) htg gf_X6 (htg _ kw_287), List.forall_mem_cons.mpr ⟨u_known (ws := gw) htg gf_X7 (htg _ kw_258), List.forall_mem_cons.mpr ⟨u_known (ws := gw) htg gf_X8 (htg _ kw_199), List.forall_mem_cons.mpr ⟨u_known (ws := gw) htg gf_X9 (htg _ kw_121), List.forall_mem_cons.mpr ⟨u_known (ws := gw) htg gf_X10 (htg _ kw_1524), (fun _ h => nomatch h)⟩⟩⟩⟩⟩⟩⟩⟩⟩⟩⟩⟩
  have hcl2 : ∀ k : Nat, ∃ d : ClassId × (Nat → Nat), ∀ q, vwCl[k]? = some q → u_Kn s q.1 q.2.1 q.2.2 d.1 d.2 := fun k => by
    cases h : vwCl[k]? with
    | none => exact ⟨(0, fun _ => 0), fun q hq => by cases hq⟩
    | some q =>
      obtain ⟨cC, iS, h1⟩ := hcl q (List.mem_of_getElem? h)
      exact ⟨(cC, iS), fun q' hq => by cases hq; exact h1⟩
  obtain ⟨dd, hdd⟩ := Classical.axiomOfChoice hcl2
  obtain ⟨cI, hI1, hI2⟩ := start_arr (htg _ kw_235)
  obtain ⟨cZ, hZ1, hZ2⟩ := start_arr (htg _ kw_197)
  obtain ⟨cJ, hJ1, hJ2⟩ := start_arr (htg _ kw_2086)
  have hao : va_AO "java/lang/Object" s := va_AO.of (hts _ (List.mem_of_getElem? (i := 920) (by decide +kernel)))
  obtain ⟨comp, cO, kO, o1, o2, o3, o4, o5⟩ := Cond.arrayOver_spec hao
  obtain ⟨t, ht, hT⟩ := va_Tof (N := 3) (f := fun j => .int (mrp j)) (ty := .int) (tm := (.static "TablePages" "MOST_ROWS_OF_PART" "[I")) (A := fun q => s.heap.size ≤ q) (by decide) (hs _ (by decide +kernel)) (eq_int_of (hs _ (by decide +kernel))) (fun j hj => by
    rcases (show j = 0 ∨ j = 1 ∨ j = 2 by omega) with rfl | rfl | rfl
    · exact eq_int_of (n := 3) (hs _ (by decide +kernel))
    · exact eq_int_of (n := 24) (hs _ (by decide +kernel))
    · exact eq_int_of (n := 2) (hs _ (by decide +kernel))) hA
  obtain ⟨e0, he, hE⟩ := va_Tof (N := 0) (f := fun _ => .null) (ty := .object "java/lang/Object") (tm := (.static "java/util/ArrayList" "DEFAULTCAPACITY_EMPTY_ELEMENTDATA" "[Ljava/lang/Object;")) (A := fun q => s.heap.size ≤ q) (by decide) (hs _ (by decide +kernel)) (eq_int_of (hs _ (by decide +kernel))) (fun j hj => absurd hj (by omega)) hA
  have htp : ∃ cls, s.vm.findClass "TablePages" = some cls := ⟨_, (hdd 10 _ rfl).2.1⟩
  have hstr : ∀ (k : Nat) (tx : String), (Cond.stringRef "TablePages" k tx).before #[Value.ref b] s = true → ∃ sa : Nat, vk_R "TablePages" k tx sa s := fun k tx h => by
    obtain ⟨cls, h1⟩ := htp
    obtain ⟨-, -, -, sa, -, -, -, -, -, hev⟩ := Cond.stringRef_spec h1 h
    exact ⟨sa, vk_R.of h hev⟩
  refine ⟨((fun k => (dd k).1, fun k => (dd k).2), cI, cZ, cJ, cO, e0), ⟨⟨fun k q hq => hdd k q hq, fun k q hq => ?_⟩, ⟨htn, ?_, ?_, List.forall_mem_cons.mpr ⟨hstr _ _ (hts _ (List.mem_of_getElem? (i := 795) (by decide +kernel))), List.forall_mem_cons.mpr ⟨hstr _ _ (hts _ (List.mem_of_getElem? (i := 836) (by decide +kernel))), List.forall_mem_cons.mpr ⟨hstr _ _ (hts _ (List.mem_of_getElem? (i := 933) (by decide +kernel))), List.forall_mem_cons.mpr ⟨hstr _ _ (hts _ (List.mem_of_getElem? (i := 941) (by decide +kernel))), List.forall_mem_cons.mpr ⟨hstr _ _ (hts _ (List.mem_of_getElem? (i := 1010) (by decide +kernel))), List.forall_mem_cons.mpr ⟨hstr _ _ (hts _ (List.mem_of_getElem? (i := 1025) (by decide +kernel))), List.forall_mem_cons.mpr ⟨hstr _ _ (hts _ (List.mem_of_getElem? (i := 1026) (by decide +kernel))), List.forall_mem_cons.mpr ⟨hstr _ _ (hts _ (List.mem_of_getElem? (i := 1033) (by decide +kernel))), List.forall_mem_cons.mpr ⟨hstr _ _ (hts _ (List.mem_of_getElem? (i := 1129) (by decide +kernel))), List.forall_mem_cons.mpr ⟨hstr _ _ (hts _ (List.mem_of_getElem? (i := 1130) (by decide +kernel))), List.forall_mem_cons.mpr ⟨hstr _ _ (hts _ (List.mem_of_getElem? (i := 1131) (by decide +kernel))), List.forall_mem_cons.mpr ⟨hstr _ _ (hts _ (List.mem_of_getElem? (i := 1148) (by decide +kernel))), List.forall_mem_cons.mpr ⟨hstr _ _ (hts _ (List.mem_of_getElem? (i := 1149) (by decide +kernel))), List.forall_mem_cons.mpr ⟨hstr _ _ (hts _ (List.mem_of_getElem? (i := 1164) (by decide +kernel))), List.forall_mem_cons.mpr ⟨hstr _ _ (hts _ (List.mem_of_getElem? (i := 1165) (by decide +kernel))), List.forall_mem_cons.mpr ⟨hstr _ _ (hts _ (List.mem_of_getElem? (i := 1185) (by decide +kernel))), List.forall_mem_cons.mpr ⟨hstr _ _ (hts _ (List.mem_of_getElem? (i := 1203) (by decide +kernel))), List.forall_mem_cons.mpr ⟨hstr _ _ (hts _ (List.mem_of_getElem? (i := 1219) (by decide +kernel))), List.forall_mem_cons.mpr ⟨hstr _ _ (hts _ (List.mem_of_getElem? (i := 1270) (by decide +kernel))), List.forall_mem_cons.mpr ⟨hstr _ _ (hts _ (List.mem_of_getElem? (i := 1323) (by decide +kernel))), List.forall_mem_cons.mpr ⟨hstr _ _ (hts _ (List.mem_of_getElem? (i := 1370) (by decide +kernel))), List.forall_mem_cons.mpr ⟨hstr _ _ (hts _ (List.mem_of_getElem? (i := 1376) (by decide +kernel))), List.forall_mem_cons.mpr ⟨hstr _ _ (hts _ (List.mem_of_getElem? (i := 1396) (by decide +kernel))), List.forall_mem_cons.mpr ⟨hstr _ _ (hts _ (List.mem_of_getElem? (i := 1397) (by decide +kernel))), List.forall_mem_cons.mpr ⟨hstr _ _ (hts _ (List.mem_of_getElem? (i := 1428) (by decide +kernel))), List.forall_mem_cons.mpr ⟨hstr _ _ (hts _ (List.mem_of_getElem? (i := 1437) (by decide +kernel))), List.forall_mem_cons.mpr ⟨hstr _ _ (hts _ (List.mem_of_getElem? (i := 1445) (by decide +kernel))), List.forall_mem_cons.mpr ⟨hstr _ _ (hts _ (List.mem_of_getElem? (i := 1459) (by decide +kernel))), List.forall_mem_cons.mpr ⟨hstr _ _ (hts _ (List.mem_of_getElem? (i := 1477) (by decide +kernel))), (fun _ h => nomatch h)⟩⟩⟩⟩⟩⟩⟩⟩⟩⟩⟩⟩⟩⟩⟩⟩⟩⟩⟩⟩⟩⟩⟩⟩⟩⟩⟩⟩⟩, ⟨t, ?_, hT⟩, ?_, hE, va_Mi.of (hs _ (by decide +kernel)), hao⟩, Nat.le_refl _⟩, ?_⟩
  · match k, hq with
    | 0, hq => cases hq; exact ⟨hI1, hI2⟩
    | 1, hq => cases hq; exact ⟨hZ1, hZ2⟩
    | 2, hq => cases hq; exact ⟨hJ1, hJ2⟩
    | 3, hq => cases hq; exact ⟨fun N z => ⟨(fun k h => by cases h), kO, o3, comp, o4⟩, kO, comp, o3, o4, o1, o5⟩
    | k + 4, hq => simp at hq
  · exact vx_Zqof (hts _ (List.mem_of_getElem? (i := 781) (by decide +kernel))) (htg _ kw_105) (hs _ (by decide +kernel)) hA
  · exact vx_Zqof (hts _ (List.mem_of_getElem? (i := 783) (by decide +kernel))) (htg _ kw_105) (hs _ (by decide +kernel)) hA
  · exact va_Zof (hts _ (List.mem_of_getElem? (i := 940) (by decide +kernel))) (htg _ kw_94) ht hA
  · exact va_Zof (hts _ (List.mem_of_getElem? (i := 147) (by decide +kernel))) (htg _ kw_98) he hA
  · exact ⟨va_Nc.of (hs (.not (.castable xIAE xISE)) (by decide +kernel)), va_Nc.of (hs (.not (.castable xIAE xIOB)) (by decide +kernel)), va_Nc.of (hs (.not (.castable xISE xIAE)) (by decide +kernel)), va_Nc.of (hs (.not (.castable xISE xIOB)) (by decide +kernel)), va_Nc.of (hs (.not (.castable xIOB xIAE)) (by decide +kernel)), va_Nc.of (hs (.not (.castable xIOB xISE)) (by decide +kernel))⟩
