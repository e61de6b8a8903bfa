/-! the law's settings -/
section DA
variable {T T' M M' : Mem} {O : zSt} {κ : Nat → Int} {p5 p6 p7 y7 y8 y9 : Int}
theorem lwM.cg (h : lwM T M) (e : ∀ k, (k = 4 ∨ k = 8 ∨ k = 15 ∨ k = 24 ∨ k = 25 ∨ k = 26) → T' 11 0 k = T 11 0 k) (m : M' 112 = M 112) : lwM T' M' := by
  unfold lwM
  rw [m, e 4 (by decide), e 8 (by decide), e 15 (by decide), e 24 (by decide), e 25 (by decide), e 26 (by decide)]
  exact h
theorem lwN.cg (h : lwN T) (e : ∀ k, (k = 4 ∨ k = 8 ∨ k = 15) → T' 11 0 k = T 11 0 k) : lwN T' := by
  unfold lwN
  rw [e 4 (by decide), e 8 (by decide), e 15 (by decide)]
  exact h
theorem lwC.cg (h : lwC T M) (e4 : T' 11 0 4 = T 11 0 4) (e : ∀ s : Nat, 56 ≤ s → s ≤ 59 → T' s = T s) (m : M' 104 = M 104) : lwC T' M' := by
  unfold lwC
  rw [m, e4, e 56 (by decide) (by decide), e 57 (by decide) (by decide), e 58 (by decide) (by decide), e 59 (by decide) (by decide)]
  exact h
theorem lwR.cg (h : lwR T M) (e8 : T' 11 0 8 = T 11 0 8) (e : ∀ s : Nat, 60 ≤ s → s ≤ 62 → T' s = T s) (m : M' 105 = M 105) : lwR T' M' := by
  unfold lwR
  rw [m, e8, e 60 (by decide) (by decide), e 61 (by decide) (by decide), e 62 (by decide) (by decide)]
  exact h
theorem zRA_cg (e63 : T' 63 = T 63) (e64 : T' 64 = T 64) : zRA T' = zRA T := funext fun a => by
  unfold zRA
  rw [e63, e64]
theorem lwO.cg (h : lwO T M) (e8 : T' 11 0 8 = T 11 0 8) (e63 : T' 63 = T 63) (e64 : T' 64 = T 64) (m : M' 106 = M 106) : lwO T' M' := by
  unfold lwO
  rw [m, e8, zRA_cg e63 e64]
  exact h
theorem lwT.cg (h : lwT T M) (e15 : T' 11 0 15 = T 11 0 15) (e : ∀ s : Nat, (65 ≤ s ∧ s ≤ 68) ∨ s = 73 ∨ s = 75 ∨ s = 76 → T' s = T s) (m : M' 107 = M 107) : lwT T' M' := by
  unfold lwT
  rw [m, e15, e 65 (by decide), e 66 (by decide), e 67 (by decide), e 68 (by decide), e 73 (by decide), e 75 (by decide), e 76 (by decide)]
  exact h
theorem lwF.cg (h : lwF T M) (e15 : T' 11 0 15 = T 11 0 15) (e : ∀ s : Nat, s = 73 ∨ s = 74 → T' s = T s) (m : M' 109 = M 109) : lwF T' M' := by
  unfold lwF
  rw [m, e15, e 73 (by decide), e 74 (by decide)]
  exact h
theorem lwW.cg (h : lwW T M) (e15 : T' 11 0 15 = T 11 0 15) (e : ∀ s : Nat, s = 70 ∨ s = 71 ∨ s = 72 → T' s = T s) (m : M' 108 = M 108) : lwW T' M' := by
  unfold lwW
  rw [m, e15, e 70 (by decide), e 71 (by decide), e 72 (by decide)]
  exact h
theorem lwB.cg (h : lwB M) (m : ∀ s : Nat, s = 110 ∨ s = 111 ∨ (77 ≤ s ∧ s ≤ 79) → M' s = M s) (m2 : M' 11 0 30 = M 11 0 30) : lwB M' := by
  unfold lwB
  rw [m 110 (by decide), m 111 (by decide), m 77 (by decide), m 78 (by decide), m 79 (by decide), m2]
  exact h
theorem up_ne {s s' : Nat} {j k v : Int} (h : s' ≠ s) : up M s j k v s' = M s' := funext fun _ => funext fun _ => up_s _ _ _ _ h _ _
/-- what holds between the law's steps -/
def zCn (κ : Nat → Int) (M : Mem) : Prop := ∃ T O, Iv T O κ M ∧ zLw T M ∧ ∀ s : Nat, (114 ≤ s ∧ s ≤ 117) → κ s = 0
theorem tm_r {a b : Int} (a0 : 0 ≤ a) (b0 : 0 < b) : 0 ≤ Int.tmod a b ∧ Int.tmod a b < b := ⟨Int.tmod_nonneg _ a0, Int.tmod_lt_of_pos _ b0⟩
theorem td_r {a b : Int} (a0 : 0 ≤ a) (b0 : 0 < b) : 0 ≤ Int.tdiv a b ∧ Int.tdiv a b ≤ a := ⟨Int.tdiv_nonneg a0 (by omega), Int.tdiv_le_self _ a0⟩
/-- a border the law has written, then set -/
theorem j_bord (h : Iv T O κ M) (L : zLw T M) (hz : ∀ s : Nat, (114 ≤ s ∧ s ≤ 117) → κ s = 0) {s0 : Nat} {q0 : Int} {k n sd : Int} (hs : zSide k sd) (hh : zHas T k n) (w0 : 0 ≤ y8) (w5 : y8 ≤ 5) (hs0 : s0 = 110 ∨ s0 = 111) (hq0 : M s0 0 q0 = zHad T M k n sd) (hb : ∀ N, (∀ s : Nat, 104 ≤ s → N s = up M s0 0 q0 y8 s) → (∀ (s : Nat) (j i : Int), ((77 ≤ s ∧ s ≤ 79) ∨ (s = 11 ∧ i = 30)) → N s j i = zPutR M k n sd y8 s j i) → lwB N) {Qm : Int → Mem → Prop} (hq : ∀ M', zCn κ M' → Qm 1 M') : ∀ N : Mem, N = up M s0 0 q0 y8 → wo_X9_border k n sd y8 N fun (x : Int) (M1 : Mem) => ∃ M2 : Mem, Gh M1 M2 ∧ (bit (if ¬ x = (M s0 0 q0) then (0 : Int) else 1)) ∧ Qm (if ¬ x = (M s0 0 q0) then (0 : Int) else 1) M2 := by
  intro N eN
  have hN : ∀ s : Nat, s ≠ s0 → N s = M s := fun s hs => by rw [eN]; exact up_ne hs
  have hI : Iv T O κ N := h.lw (fun s j k hs => by rw [hN s (by omega)])
  have e1 : ∀ k n sd, zHad T N k n sd = zHad T M k n sd := fun k n sd => by
    unfold zHad zwt
    rw [hN 11 (by omega), hN 77 (by omega), hN 78 (by omega), hN 79 (by omega)]
  refine n_border hI hs hh w0 w5 (fun M2 I2 f2 g2 => ?_)
  rw [e1, ← hq0, if_neg (fun z => z rfl)]
  have g2' : ∀ (s : Nat) (j i : Int), ((77 ≤ s ∧ s ≤ 79) ∨ (s = 11 ∧ i = 30)) → M2 s j i = zPutR M k n sd y8 s j i := fun s j i hsi => by
    rw [g2 s j i hsi]
    have : ∀ a b c d, up N a b c d s j i = up M a b c d s j i := fun a b c d => up_cg (by rw [hN s (by omega)])
    unfold zPutR
    split
    · exact this _ _ _ _
    · split
      · exact this _ _ _ _
      · split
        · exact this _ _ _ _
        · exact this _ _ _ _
  refine ⟨bit_1, hq M2 ⟨T, O, I2, ?_, hz⟩⟩
  have f2' : ∀ s : Nat, 104 ≤ s → s ≠ s0 → M2 s = M s := fun s a b => (f2 s a).trans (hN s b)
  obtain ⟨h1, h2, h3, h4, h5, h6, h7, h8, h9⟩ := L
  exact ⟨h1.cg (fun _ _ => rfl) (f2' 112 (by decide) (by omega)), h2, h3.cg rfl (fun _ _ _ => rfl) (f2' 104 (by decide) (by omega)), h4.cg rfl (fun _ _ _ => rfl) (f2' 105 (by decide) (by omega)), h5.cg rfl rfl rfl (f2' 106 (by decide) (by omega)), h6.cg rfl (fun _ _ => rfl) (f2' 107 (by decide) (by omega)), h7.cg rfl (fun _ _ => rfl) (f2' 109 (by decide) (by omega)), h8.cg rfl (fun _ _ => rfl) (f2' 108 (by decide) (by omega)), hb M2 (fun s hs => (f2 s hs).trans (by rw [eN])) g2'⟩
theorem j_isSet385 (h : Iv T O κ M) (L : zLw T M) (hz : ∀ s : Nat, (114 ≤ s ∧ s ≤ 117) → κ s = 0) (hR : 0 < T 11 0 8) (p0 : 0 ≤ p6) (p1 : p6 < 2000000000) (a0 : 0 ≤ y7) (a1 : y7 < T 11 0 4) (w0 : 0 ≤ y8) (w5 : y8 ≤ 5) (s0 : 0 ≤ y9) (s3 : y9 ≤ 3) {Qm : Int → Mem → Prop} (hq : ∀ M', zCn κ M' → Qm 1 M') : wp_L_isSet_385 p5 p6 Qm y7 y8 y9 M := by
  have hn := L.n
  unfold lwN at hn
  obtain ⟨m0, m1, m2, -⟩ := L.m
  obtain ⟨b1, b2, b3, b4⟩ := L.b
  have ht := tm_r s0 (by decide : (0 : Int) < 2)
  refine ⟨fun _ => ⟨fun _ => ?_, fun _ => ⟨⟨by omega, by omega⟩, ⟨by omega, by omega⟩, ⟨by omega, by omega⟩, ⟨by omega, by omega⟩, ⟨by omega, by omega⟩, ⟨by omega, by omega⟩, ?_⟩⟩, fun _ => ?_⟩
  · refine j_bord h L hz (s0 := 111) (q0 := 8) (k := 3) (Or.inr (Or.inr (Or.inr rfl))) (Or.inr (Or.inr (Or.inr rfl))) w0 w5 (Or.inr rfl) (by rw [b4]; rfl) (fun N f g => ?_) hq
    have e111 := f 111 (by decide)
    have e110 : N 110 = M 110 := (f 110 (by decide)).trans (up_ne (by decide))
    have eP : zPutR M 3 p6 (Int.tdiv p6 7) y8 = up M 11 0 30 y8 := by
      unfold zPutR
      rw [if_neg (by decide), if_neg (by decide), if_neg (by decide)]
    rw [eP] at g
    refine ⟨fun q q0 q1 => ?_, fun r r0 r1 => ?_, fun k k0 k1 => ?_, ?_⟩
    · rw [e110, g 77 0 q (Or.inl ⟨by decide, by decide⟩), up_s _ _ _ _ (by decide)]; exact b1 q q0 q1
    · rw [e110, g 78 0 _ (Or.inl ⟨by decide, by decide⟩), g 78 0 _ (Or.inl ⟨by decide, by decide⟩), up_s _ _ _ _ (by decide), up_s _ _ _ _ (by decide)]; exact b2 r r0 r1
    · obtain ⟨x, y⟩ := b3 k k0 k1
      rw [e111, g 79 0 _ (Or.inl ⟨by decide, by decide⟩), g 79 0 _ (Or.inl ⟨by decide, by decide⟩)]
      exact ⟨(up_k _ _ _ _ _ _ (by omega)).trans (x.trans (up_s _ _ _ _ (by decide) _ _).symm), (up_k _ _ _ _ _ _ (by omega)).trans (y.trans (up_s _ _ _ _ (by decide) _ _).symm)⟩
    · rw [e111, g 11 0 30 (Or.inr ⟨rfl, rfl⟩), up_eq, up_eq]
  · obtain ⟨sd, esd⟩ : ∃ sd, sd = (if ¬ Int.tmod y9 2 = 0 then (1 : Int) else 3) := ⟨_, rfl⟩
    have hsd : (Int.tmod y9 2 = 0 ∧ sd = 3) ∨ (Int.tmod y9 2 = 1 ∧ sd = 1) := by
      rw [esd]
      by_cases z : Int.tmod y9 2 = 0
      · rw [if_neg (fun y => y z)]; exact Or.inl ⟨z, rfl⟩
      · rw [if_pos z]; exact Or.inr ⟨by omega, rfl⟩
    rw [← esd]
    have hh : zHas T 2 y7 := Or.inr (Or.inr (Or.inl ⟨rfl, a0, a1⟩))
    refine j_bord h L hz (s0 := 111) (q0 := 2 * y7 + Int.tmod y9 2) (k := 2) (Or.inr (Or.inr (Or.inl ⟨rfl, by omega⟩))) hh w0 w5 (Or.inr rfl) ?_ (fun N f g => ?_) hq
    · unfold zHad
      rw [if_neg (by decide), zwt_2 ⟨a0, a1⟩]
      obtain ⟨x, y⟩ := b3 y7 a0 (by omega)
      rcases hsd with ⟨e, e'⟩ | ⟨e, e'⟩
      · rw [e, e', Int.add_zero]; exact x
      · rw [e, e']; exact y
    · have e111 := f 111 (by decide)
      have e110 : N 110 = M 110 := (f 110 (by decide)).trans (up_ne (by decide))
      have eP : zPutR M 2 y7 sd y8 = up M 79 0 (4 * y7 + sd) y8 := by
        unfold zPutR
        rw [if_neg (by decide), if_neg (by decide), if_pos rfl]
      rw [eP] at g
      refine ⟨fun q q0 q1 => ?_, fun r r0 r1 => ?_, fun k k0 k1 => ?_, ?_⟩
      · rw [e110, g 77 0 q (Or.inl ⟨by decide, by decide⟩), up_s _ _ _ _ (by decide)]; exact b1 q q0 q1
      · rw [e110, g 78 0 _ (Or.inl ⟨by decide, by decide⟩), g 78 0 _ (Or.inl ⟨by decide, by decide⟩), up_s _ _ _ _ (by decide), up_s _ _ _ _ (by decide)]; exact b2 r r0 r1
      · obtain ⟨x, y⟩ := b3 k k0 k1
        rw [e111, g 79 0 _ (Or.inl ⟨by decide, by decide⟩), g 79 0 _ (Or.inl ⟨by decide, by decide⟩), up_at, up_at, up_at, up_at]
        rcases hsd with ⟨e, e'⟩ | ⟨e, e'⟩
        · rw [e, e']
          by_cases ek : k = y7
          · rw [if_pos ⟨rfl, rfl, by omega⟩, if_pos ⟨rfl, rfl, by omega⟩, if_neg (by omega), if_neg (by omega)]
            exact ⟨rfl, y⟩
          · rw [if_neg (by omega), if_neg (by omega), if_neg (by omega), if_neg (by omega)]
            exact ⟨x, y⟩
        · rw [e, e']
          by_cases ek : k = y7
          · rw [if_neg (by omega), if_neg (by omega), if_pos ⟨rfl, rfl, by omega⟩, if_pos ⟨rfl, rfl, by omega⟩]
            exact ⟨x, rfl⟩
          · rw [if_neg (by omega), if_neg (by omega), if_neg (by omega), if_neg (by omega)]
            exact ⟨x, y⟩
      · rw [e111, g 11 0 30 (Or.inr ⟨rfl, rfl⟩), up_k _ _ _ _ _ _ (by omega), up_s _ _ _ _ (by decide)]; exact b4
  · rw [m1]
    have h4 := td_r p0 (by decide : (0 : Int) < 4)
    have hr := tm_r h4.1 hR
    obtain ⟨r, er⟩ : ∃ r, r = Int.tmod (Int.tdiv p6 4) (T 11 0 8) := ⟨_, rfl⟩
    rw [← er] at hr ⊢
    refine ⟨hR, ⟨by omega, by omega⟩, ⟨by omega, by omega⟩, ⟨by omega, by omega⟩, ⟨by omega, by omega⟩, ⟨by omega, by omega⟩, ⟨by omega, by omega⟩, ⟨by omega, by omega⟩, ⟨by omega, by omega⟩, fun N eN => ⟨⟨by omega, by omega⟩, ?_⟩⟩
    revert N
    refine j_bord h L hz (s0 := 110) (q0 := 40 + 2 * r + Int.tmod y9 2) (k := 1) (Or.inr (Or.inl ⟨rfl, by omega⟩)) (Or.inr (Or.inl ⟨rfl, hr.1, hr.2⟩)) w0 w5 (Or.inl rfl) ?_ (fun N f g => ?_) hq
    · unfold zHad
      rw [if_neg (by decide), zwt_1 ⟨hr.1, hr.2⟩]
      obtain ⟨x, y⟩ := b2 r hr.1 (by omega)
      rcases (by omega : Int.tmod y9 2 = 0 ∨ Int.tmod y9 2 = 1) with e | e
      · rw [e, Int.add_zero, show 4 * r + 0 * 2 = 4 * r by omega]; exact x
      · rw [e]; exact y
    · have e110 := f 110 (by decide)
      have e111 : N 111 = M 111 := (f 111 (by decide)).trans (up_ne (by decide))
      have eP : zPutR M 1 r (Int.tmod y9 2 * 2) y8 = up M 78 0 (4 * r + Int.tmod y9 2 * 2) y8 := by
        unfold zPutR
        rw [if_neg (by decide), if_pos rfl]
      rw [eP] at g
      refine ⟨fun q q0 q1 => ?_, fun i i0 i1 => ?_, fun k k0 k1 => ?_, ?_⟩
      · rw [e110, g 77 0 q (Or.inl ⟨by decide, by decide⟩), up_k _ _ _ _ _ _ (by omega), up_s _ _ _ _ (by decide)]; exact b1 q q0 q1
      · obtain ⟨x, y⟩ := b2 i i0 i1
        rw [e110, g 78 0 _ (Or.inl ⟨by decide, by decide⟩), g 78 0 _ (Or.inl ⟨by decide, by decide⟩), up_at, up_at, up_at, up_at]
        rcases (by omega : Int.tmod y9 2 = 0 ∨ Int.tmod y9 2 = 1) with e | e
        · rw [e]
          by_cases ek : i = r
          · rw [if_pos ⟨rfl, rfl, by omega⟩, if_pos ⟨rfl, rfl, by omega⟩, if_neg (by omega), if_neg (by omega)]
            exact ⟨rfl, y⟩
          · rw [if_neg (by omega), if_neg (by omega), if_neg (by omega), if_neg (by omega)]
            exact ⟨x, y⟩
        · rw [e]
          by_cases ek : i = r
          · rw [if_neg (by omega), if_neg (by omega), if_pos ⟨rfl, rfl, by omega⟩, if_pos ⟨rfl, rfl, by omega⟩]
            exact ⟨x, rfl⟩
          · rw [if_neg (by omega), if_neg (by omega), if_neg (by omega), if_neg (by omega)]
            exact ⟨x, y⟩
      · rw [e111, g 79 0 _ (Or.inl ⟨by decide, by decide⟩), g 79 0 _ (Or.inl ⟨by decide, by decide⟩), up_s _ _ _ _ (by decide), up_s _ _ _ _ (by decide)]; exact b3 k k0 k1
      · rw [e111, g 11 0 30 (Or.inr ⟨rfl, rfl⟩), up_s _ _ _ _ (by decide)]; exact b4
end DA
