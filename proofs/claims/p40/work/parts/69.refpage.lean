/-! the pure part: pages. S 0: 0 pieces, 1 pages, 2 room, 3 any, 4 item, 5 from, 6 whether it can't be set; S 1 codes, 2 pages, 3 from, 4 lines of pieces; 5 flow, 6 notes, 8 first piece of pages; 7 first page by code -/
def zrec (a0 a1 a2 a3 a4 a5 a6 a7 a8 : Int → Int) : zSt := fun s => if s = 0 then a0 else if s = 1 then a1 else if s = 2 then a2 else if s = 3 then a3 else if s = 4 then a4 else if s = 5 then a5 else if s = 6 then a6 else if s = 7 then a7 else a8
def zhH (T : Mem) : Int → Int := zht T (zwid T)
def zrm (T : Mem) (p : Int) : Int := T 11 0 25 - zsum T (zhH T) 0 - zsum T (zhH T) 2 - (if p = 0 then 0 else if zat T = 0 then 1 else 2)
def zcd (T : Mem) (i : Int) : Int := zitm T 1 i
def zhg (T : Mem) (i : Int) : Int := zitm T 2 i
def znt (T : Mem) (i : Int) : Int := zitm T 3 i
def zbr (T : Mem) (i : Int) : Int := zitm T 4 i
def znn (T : Mem) : Int := zitm T 0 0
def zwn (T : Mem) (S : zSt) : Int := if S 0 5 ≤ 0 then znt T (S 0 4) else 0
def zln (T : Mem) (S : zSt) : Int := zhg T (S 0 4) - S 0 5
def zmo (T : Mem) (S : zSt) : Int := S 0 2 - zat T - zwn T S
def zS7 (T : Mem) (S : zSt) : Int → Int := if S 0 5 = 0 then zset (S 7) (zcd T (S 0 4)) (S 0 1 - 1) else S 7
def znl (T : Mem) (S : zSt) (l : Int) : Int := zwn T S + (if ¬ zcd T (S 0 4) = 201 then 0 else l)
def zfit (T : Mem) (S : zSt) : zSt := zrec (fun k => if k = 0 then S 0 0 + 1 else if k = 2 then S 0 2 - (zln T S + zwn T S) else if k = 3 then 1 else if k = 4 then S 0 4 + 1 else if k = 5 then 0 else S 0 k) (zset (S 1) (S 0 0) (zcd T (S 0 4))) (zset (S 2) (S 0 0) (S 0 1 - 1)) (zset (S 3) (S 0 0) (S 0 5)) (zset (S 4) (S 0 0) (zln T S)) (zset (S 5) (S 0 1 - 1) (S 5 (S 0 1 - 1) + zln T S)) (zset (S 6) (S 0 1 - 1) (S 6 (S 0 1 - 1) + znl T S (zln T S))) (zS7 T S) (S 8)
def zbrk (T : Mem) (S : zSt) : zSt := zrec (fun k => if k = 0 then S 0 0 + 1 else if k = 1 then S 0 1 + 1 else if k = 2 then zrm T (S 0 1) else if k = 3 then 0 else if k = 5 then S 0 5 + zmo T S else S 0 k) (zset (S 1) (S 0 0) (zcd T (S 0 4))) (zset (S 2) (S 0 0) (S 0 1 - 1)) (zset (S 3) (S 0 0) (S 0 5)) (zset (S 4) (S 0 0) (zmo T S)) (zset (zset (S 5) (S 0 1 - 1) (S 5 (S 0 1 - 1) + zmo T S)) (S 0 1) 0) (zset (zset (S 6) (S 0 1 - 1) (S 6 (S 0 1 - 1) + znl T S (zmo T S))) (S 0 1) 0) (zS7 T S) (zset (S 8) (S 0 1) (S 0 0 + 1))
def znewp (T : Mem) (S : zSt) : zSt := zrec (fun k => if k = 1 then S 0 1 + 1 else if k = 2 then zrm T (S 0 1) else if k = 3 then 0 else S 0 k) (S 1) (S 2) (S 3) (S 4) (zset (S 5) (S 0 1) 0) (zset (S 6) (S 0 1) 0) (S 7) (zset (S 8) (S 0 1) (S 0 0))
def zfail (S : zSt) : zSt := zrec (fun k => if k = 0 then 0 else if k = 1 then 0 else if k = 6 then 1 else S 0 k) (S 1) (S 2) (S 3) (S 4) (S 5) (S 6) (S 7) (S 8)
def zstp (T : Mem) (S : zSt) : zSt := if zln T S + zwn T S ≤ S 0 2 - (if znn T ≤ S 0 4 + 1 then 0 else zat T) then zfit T S else if (¬ zbr T (S 0 4) = 0 ∨ S 0 3 = 0) ∧ 1 ≤ zmo T S then zbrk T S else if ¬ S 0 3 = 0 then znewp T S else zfail S
def zit (T : Mem) : Nat → zSt → zSt
  | 0, S => S
  | n + 1, S => if ¬ S 0 6 = 0 ∨ znn T ≤ S 0 4 then S else zit T n (zstp T S)
def zS0 (T : Mem) : zSt := znewp T (fun _ _ => 0)
def zpg (T : Mem) : zSt := zit T 1900 (zS0 T)
/-- the lines that are still to be put -/
def zrem (T : Mem) (S : zSt) : Int := zS (zhg T) (S 0 4) (znn T) - S 0 5
def zPW (T : Mem) (S : zSt) : Prop :=
  (0 ≤ S 0 0 ∧ 1 ≤ S 0 1 ∧ 0 ≤ S 0 3 ∧ S 0 3 ≤ 1 ∧ S 0 1 + S 0 3 ≤ S 0 0 + 1) ∧ ((0 ≤ S 0 4 ∧ S 0 4 < znn T ∧ 0 ≤ S 0 5 ∧ S 0 5 < zhg T (S 0 4)) ∨ (S 0 4 = znn T ∧ S 0 5 = 0)) ∧ (S 0 0 + zrem T S ≤ 901 ∧ 0 ≤ zrem T S) ∧ (-250 ≤ S 0 2 ∧ S 0 2 ≤ 100) ∧ S 0 6 = 0 ∧
  (∀ p, 0 ≤ p → p < S 0 1 → 0 ≤ S 5 p ∧ S 5 p ≤ 901 - zrem T S ∧ 0 ≤ S 6 p ∧ S 6 p ≤ 601 * S 0 0) ∧
  (∀ k, 0 ≤ k → k < S 0 0 → (0 ≤ S 2 k ∧ S 2 k < S 0 1) ∧ (1 ≤ S 4 k ∧ S 4 k ≤ 300) ∧ (0 ≤ S 3 k ∧ S 3 k ≤ 300) ∧ (0 ≤ S 1 k ∧ S 1 k ≤ 201) ∧ S 8 (S 2 k) ≤ k ∧ (S 2 k + 1 < S 0 1 → k < S 8 (S 2 k + 1))) ∧
  (∀ p, 0 ≤ p → p < S 0 1 → 0 ≤ S 8 p ∧ S 8 p ≤ S 0 0 ∧ (p + 1 < S 0 1 → S 8 p ≤ S 8 (p + 1)))
def zPR (S : zSt) (M : Mem) : Prop := M 11 0 46 = S 0 0 ∧ M 11 0 49 = S 0 1 ∧ (∀ k, 0 ≤ k → k < S 0 0 → M 90 0 k = S 1 k ∧ M 91 0 k = S 2 k ∧ M 92 0 k = S 3 k ∧ M 93 0 k = S 4 k) ∧ ∀ p, 0 ≤ p → p < S 0 1 → M 95 0 p = S 5 p ∧ M 94 0 p = S 6 p
def zFP : Nat → Int → Bool := fun s k => (decide (90 ≤ s) && decide (s ≤ 95)) || (decide (s = 11) && (decide (k = 46) || decide (k = 49)))
theorem zFP_in : ∀ s k, zin s k = true → zFP s k = false := by
  intro s k hz
  simp only [zin, Bool.or_eq_true, Bool.and_eq_true, decide_eq_true_eq] at hz
  simp only [zFP, Bool.or_eq_false_iff, Bool.and_eq_false_iff, decide_eq_false_iff_not]
  omega
theorem zFP_P : ∀ s k, zP s k = false → zFP s k = false := by
  intro s k hz
  simp only [zP, Bool.or_eq_false_iff, Bool.and_eq_false_iff, decide_eq_false_iff_not] at hz
  simp only [zFP, Bool.or_eq_false_iff, Bool.and_eq_false_iff, decide_eq_false_iff_not]
  omega
theorem zset_eq (w : Int → Int) (k v : Int) : zset w k v k = v := if_pos rfl
theorem zset_ne (w : Int → Int) {k i : Int} (v : Int) (h : i ≠ k) : zset w k v i = w i := if_neg h
section RP
variable {T M : Mem}
theorem zrm_r (hG : Good T) (p : Int) : -200 ≤ zrm T p ∧ zrm T p ≤ 100 := by
  have hh := zht_r hG (zwid_r hG)
  have hm0 := hG.many (p := 0) (by omega) (by omega)
  have hm2 := hG.many (p := 2) (by omega) (by omega)
  have hn := hG.n
  have a := zsum_r hG hh (p := 0) (by omega) (by omega) hm0.1 (Int.le_refl _)
  have b := zsum_r hG hh (p := 2) (by omega) (by omega) hm2.1 (Int.le_refl _)
  unfold zrm zsum zhH
  obtain ⟨-, -, -, -, h1, -, -, h2, -, h3, -⟩ := hn
  split
  · omega
  · split <;> omega
theorem zit_r (hG : Good T) {i : Int} (i0 : 0 ≤ i) (i1 : i < znn T) : (0 ≤ zcd T i ∧ zcd T i ≤ 201) ∧ (1 ≤ zhg T i ∧ zhg T i ≤ 300) ∧ (0 ≤ znt T i ∧ znt T i ≤ 300) ∧ (0 ≤ zbr T i ∧ zbr T i ≤ 1) := (zitm_ok hG).2.2.2 i i0 i1
theorem zrem_succ (hG : Good T) {S : zSt} (h : S 0 4 < znn T) : zS (zhg T) (S 0 4) (znn T) = zhg T (S 0 4) + zS (zhg T) (S 0 4 + 1) (znn T) := by
  rw [zS_split (zhg T) (a := S 0 4) (m := S 0 4 + 1) (b := znn T) (by omega) (by omega), zS_succ _ (Int.le_refl _), zS_self _ (Int.le_refl _)]
  omega
theorem zrem_nn (hG : Good T) {i : Int} (i0 : 0 ≤ i) : 0 ≤ zS (zhg T) i (znn T) := zS_nn (fun k a b => by have := (zit_r hG (by omega : 0 ≤ k) b).2.1; omega)
/-- one piece more: what holds of pieces and pages -/
theorem zPW_put (hG : Good T) {S : zSt} (H : zPW T S) (h : S 0 4 < znn T) {l : Int} (l0 : 1 ≤ l) (l1 : l ≤ zln T S) :
    (∀ p, 0 ≤ p → p < S 0 1 → 0 ≤ zset (S 5) (S 0 1 - 1) (S 5 (S 0 1 - 1) + l) p ∧ zset (S 5) (S 0 1 - 1) (S 5 (S 0 1 - 1) + l) p ≤ 901 - (zrem T S - l) ∧ 0 ≤ zset (S 6) (S 0 1 - 1) (S 6 (S 0 1 - 1) + znl T S l) p ∧ zset (S 6) (S 0 1 - 1) (S 6 (S 0 1 - 1) + znl T S l) p ≤ 601 * (S 0 0 + 1)) ∧
    (∀ k, 0 ≤ k → k < S 0 0 + 1 → (0 ≤ zset (S 2) (S 0 0) (S 0 1 - 1) k ∧ zset (S 2) (S 0 0) (S 0 1 - 1) k < S 0 1) ∧ (1 ≤ zset (S 4) (S 0 0) l k ∧ zset (S 4) (S 0 0) l k ≤ 300) ∧ (0 ≤ zset (S 3) (S 0 0) (S 0 5) k ∧ zset (S 3) (S 0 0) (S 0 5) k ≤ 300) ∧ (0 ≤ zset (S 1) (S 0 0) (zcd T (S 0 4)) k ∧ zset (S 1) (S 0 0) (zcd T (S 0 4)) k ≤ 201) ∧ S 8 (zset (S 2) (S 0 0) (S 0 1 - 1) k) ≤ k ∧ (zset (S 2) (S 0 0) (S 0 1 - 1) k + 1 < S 0 1 → k < S 8 (zset (S 2) (S 0 0) (S 0 1 - 1) k + 1))) := by
  obtain ⟨⟨a1, a2, a3, a4, a5⟩, b, c, d, e, f, g, m⟩ := H
  have hb : 0 ≤ S 0 4 ∧ 0 ≤ S 0 5 ∧ S 0 5 < zhg T (S 0 4) := by omega
  obtain ⟨r1, r2, r3, r4⟩ := zit_r hG hb.1 h
  have hl : l ≤ 300 := by unfold zln at l1; omega
  have hw : 0 ≤ zwn T S ∧ zwn T S ≤ 300 := by unfold zwn; split <;> omega
  have hn : 0 ≤ znl T S l ∧ znl T S l ≤ 600 := by unfold znl; split <;> omega
  refine ⟨fun p p0 p1 => ?_, fun k k0 k1 => ?_⟩
  · have q := f p p0 p1
    by_cases hp : p = S 0 1 - 1
    · have q' := q
      rw [hp] at q'
      rw [hp, zset_eq, zset_eq]
      omega
    · rw [zset_ne _ _ hp, zset_ne _ _ hp]
      omega
  · by_cases hk : k = S 0 0
    · rw [hk, zset_eq, zset_eq, zset_eq, zset_eq]
      have q := m (S 0 1 - 1) (by omega) (by omega)
      exact ⟨⟨by omega, by omega⟩, ⟨by omega, by omega⟩, ⟨by omega, by omega⟩, ⟨by omega, by omega⟩, q.2.1, fun h => absurd h (by omega)⟩
    · rw [zset_ne _ _ hk, zset_ne _ _ hk, zset_ne _ _ hk, zset_ne _ _ hk]
      exact g k k0 (by omega)
theorem zPW_fit (hG : Good T) {S : zSt} (H : zPW T S) (h : S 0 4 < znn T) (hf : zln T S + zwn T S ≤ S 0 2 - (if znn T ≤ S 0 4 + 1 then 0 else zat T)) : zPW T (zfit T S) ∧ zrem T (zfit T S) = zrem T S - zln T S ∧ 1 ≤ zln T S := by
  have H' := H
  obtain ⟨⟨a1, a2, a3, a4, a5⟩, b, c, d, e, f, g, m⟩ := H
  have hb : 0 ≤ S 0 4 ∧ 0 ≤ S 0 5 ∧ S 0 5 < zhg T (S 0 4) := by omega
  obtain ⟨r1, r2, r3, r4⟩ := zit_r hG hb.1 h
  have hl : 1 ≤ zln T S := by unfold zln; omega
  have hat := zat_r T hG
  have hw : 0 ≤ zwn T S ∧ zwn T S ≤ 300 := by unfold zwn; split <;> omega
  have er : zrem T (zfit T S) = zrem T S - zln T S := by
    show zS (zhg T) (S 0 4 + 1) (znn T) - 0 = zS (zhg T) (S 0 4) (znn T) - S 0 5 - zln T S
    rw [zrem_succ hG h]
    unfold zln
    omega
  have hnn : 0 ≤ zrem T (zfit T S) := by
    show 0 ≤ zS (zhg T) (S 0 4 + 1) (znn T) - 0
    have := zrem_nn hG (i := S 0 4 + 1) (by omega)
    omega
  obtain ⟨z1, z2⟩ := zPW_put hG H' h hl (Int.le_refl _)
  have hroom : 0 ≤ S 0 2 - (zln T S + zwn T S) := by split at hf <;> omega
  refine ⟨⟨⟨?_, a2, ?_, ?_, ?_⟩, ?_, ⟨?_, hnn⟩, ⟨?_, ?_⟩, e, ?_, ?_, ?_⟩, er, hl⟩
  · show 0 ≤ S 0 0 + 1; omega
  · show (0 : Int) ≤ 1; omega
  · show (1 : Int) ≤ 1; omega
  · show S 0 1 + 1 ≤ S 0 0 + 1 + 1; omega
  · show (0 ≤ S 0 4 + 1 ∧ S 0 4 + 1 < znn T ∧ (0 : Int) ≤ 0 ∧ 0 < zhg T (S 0 4 + 1)) ∨ (S 0 4 + 1 = znn T ∧ (0 : Int) = 0)
    by_cases hh : S 0 4 + 1 < znn T
    · have := (zit_r hG (i := S 0 4 + 1) (by omega) hh).2.1
      exact Or.inl ⟨by omega, hh, by omega, by omega⟩
    · exact Or.inr ⟨by omega, rfl⟩
  · rw [er]; show S 0 0 + 1 + (zrem T S - zln T S) ≤ 901; omega
  · show -250 ≤ S 0 2 - (zln T S + zwn T S); omega
  · show S 0 2 - (zln T S + zwn T S) ≤ 100; omega
  · rw [er]; exact z1
  · exact z2
  · intro p p0 p1
    have q := m p p0 p1
    show 0 ≤ S 8 p ∧ S 8 p ≤ S 0 0 + 1 ∧ (p + 1 < S 0 1 → S 8 p ≤ S 8 (p + 1))
    exact ⟨q.1, by omega, q.2.2⟩
theorem zPW_brk (hG : Good T) {S : zSt} (H : zPW T S) (h : S 0 4 < znn T) (hf : ¬ zln T S + zwn T S ≤ S 0 2 - (if znn T ≤ S 0 4 + 1 then 0 else zat T)) (hm : 1 ≤ zmo T S) : zPW T (zbrk T S) ∧ zrem T (zbrk T S) = zrem T S - zmo T S ∧ zmo T S < zln T S := by
  have H' := H
  obtain ⟨⟨a1, a2, a3, a4, a5⟩, b, c, d, e, f, g, m⟩ := H
  have hb : 0 ≤ S 0 4 ∧ 0 ≤ S 0 5 ∧ S 0 5 < zhg T (S 0 4) := by omega
  obtain ⟨r1, r2, r3, r4⟩ := zit_r hG hb.1 h
  have hat := zat_r T hG
  have hw : 0 ≤ zwn T S ∧ zwn T S ≤ 300 := by unfold zwn; split <;> omega
  have hlt : zmo T S < zln T S := by unfold zmo; split at hf <;> omega
  have er : zrem T (zbrk T S) = zrem T S - zmo T S := by
    show zS (zhg T) (S 0 4) (znn T) - (S 0 5 + zmo T S) = zS (zhg T) (S 0 4) (znn T) - S 0 5 - zmo T S
    omega
  have hbig : zhg T (S 0 4) ≤ zS (zhg T) (S 0 4) (znn T) := by
    rw [zrem_succ hG h]
    have := zrem_nn hG (i := S 0 4 + 1) (by omega)
    omega
  have hln : zln T S = zhg T (S 0 4) - S 0 5 := rfl
  have hre : zrem T S = zS (zhg T) (S 0 4) (znn T) - S 0 5 := rfl
  have hrr := zrm_r hG (S 0 1)
  obtain ⟨z1, z2⟩ := zPW_put hG H' h hm (by omega)
  refine ⟨⟨⟨?_, ?_, ?_, ?_, ?_⟩, ?_, ⟨?_, ?_⟩, ⟨?_, ?_⟩, e, ?_, ?_, ?_⟩, er, hlt⟩
  · show 0 ≤ S 0 0 + 1; omega
  · show 1 ≤ S 0 1 + 1; omega
  · show (0 : Int) ≤ 0; omega
  · show (0 : Int) ≤ 1; omega
  · show S 0 1 + 1 + 0 ≤ S 0 0 + 1 + 1; omega
  · show (0 ≤ S 0 4 ∧ S 0 4 < znn T ∧ 0 ≤ S 0 5 + zmo T S ∧ S 0 5 + zmo T S < zhg T (S 0 4)) ∨ _
    exact Or.inl ⟨hb.1, h, by omega, by omega⟩
  · rw [er]; show S 0 0 + 1 + (zrem T S - zmo T S) ≤ 901; omega
  · rw [er]; omega
  · show -250 ≤ zrm T (S 0 1); omega
  · show zrm T (S 0 1) ≤ 100; omega
  · rw [er]
    intro p p0 p1
    show 0 ≤ zset (zset (S 5) (S 0 1 - 1) (S 5 (S 0 1 - 1) + zmo T S)) (S 0 1) 0 p ∧ zset (zset (S 5) (S 0 1 - 1) (S 5 (S 0 1 - 1) + zmo T S)) (S 0 1) 0 p ≤ _ ∧ 0 ≤ zset (zset (S 6) (S 0 1 - 1) (S 6 (S 0 1 - 1) + znl T S (zmo T S))) (S 0 1) 0 p ∧ zset (zset (S 6) (S 0 1 - 1) (S 6 (S 0 1 - 1) + znl T S (zmo T S))) (S 0 1) 0 p ≤ 601 * (S 0 0 + 1)
    have p1 : p < S 0 1 + 1 := p1
    by_cases hp : p = S 0 1
    · rw [hp, zset_eq, zset_eq]; omega
    · rw [zset_ne _ _ hp, zset_ne _ _ hp]; exact z1 p p0 (by omega)
  · intro k k0 k1
    obtain ⟨y1, y2, y3, y4, y5, y6⟩ := z2 k k0 k1
    show (0 ≤ zset (S 2) (S 0 0) (S 0 1 - 1) k ∧ zset (S 2) (S 0 0) (S 0 1 - 1) k < S 0 1 + 1) ∧ _ ∧ _ ∧ _ ∧ zset (S 8) (S 0 1) (S 0 0 + 1) (zset (S 2) (S 0 0) (S 0 1 - 1) k) ≤ k ∧ (zset (S 2) (S 0 0) (S 0 1 - 1) k + 1 < S 0 1 + 1 → k < zset (S 8) (S 0 1) (S 0 0 + 1) (zset (S 2) (S 0 0) (S 0 1 - 1) k + 1))
    refine ⟨⟨y1.1, by omega⟩, y2, y3, y4, ?_, fun hx => ?_⟩
    · rw [zset_ne _ _ (by omega)]; exact y5
    · by_cases hz : zset (S 2) (S 0 0) (S 0 1 - 1) k + 1 = S 0 1
      · rw [hz, zset_eq]; exact k1
      · rw [zset_ne _ _ hz]; exact y6 (by omega)
  · intro p p0 p1
    have p1 : p < S 0 1 + 1 := p1
    show 0 ≤ zset (S 8) (S 0 1) (S 0 0 + 1) p ∧ zset (S 8) (S 0 1) (S 0 0 + 1) p ≤ S 0 0 + 1 ∧ (p + 1 < S 0 1 + 1 → zset (S 8) (S 0 1) (S 0 0 + 1) p ≤ zset (S 8) (S 0 1) (S 0 0 + 1) (p + 1))
    by_cases hp : p = S 0 1
    · rw [hp, zset_eq]; exact ⟨by omega, by omega, fun h => absurd h (by omega)⟩
    · have q := m p p0 (by omega)
      rw [zset_ne _ _ hp]
      refine ⟨q.1, by omega, fun hx => ?_⟩
      by_cases hz : p + 1 = S 0 1
      · rw [hz, zset_eq]; omega
      · rw [zset_ne _ _ hz]; exact q.2.2 (by omega)
theorem zPW_new (hG : Good T) {S : zSt} (H : zPW T S) (h : S 0 4 < znn T) (ha : ¬ S 0 3 = 0) : zPW T (znewp T S) ∧ zrem T (znewp T S) = zrem T S := by
  obtain ⟨⟨a1, a2, a3, a4, a5⟩, b, c, d, e, f, g, m⟩ := H
  have hrr := zrm_r hG (S 0 1)
  refine ⟨⟨⟨a1, ?_, ?_, ?_, ?_⟩, b, c, ⟨?_, ?_⟩, e, ?_, ?_, ?_⟩, rfl⟩
  · show 1 ≤ S 0 1 + 1; omega
  · show (0 : Int) ≤ 0; omega
  · show (0 : Int) ≤ 1; omega
  · show S 0 1 + 1 + 0 ≤ S 0 0 + 1; omega
  · show -250 ≤ zrm T (S 0 1); omega
  · show zrm T (S 0 1) ≤ 100; omega
  · intro p p0 p1
    show 0 ≤ zset (S 5) (S 0 1) 0 p ∧ zset (S 5) (S 0 1) 0 p ≤ 901 - zrem T S ∧ 0 ≤ zset (S 6) (S 0 1) 0 p ∧ zset (S 6) (S 0 1) 0 p ≤ 601 * S 0 0
    have p1 : p < S 0 1 + 1 := p1
    by_cases hp : p = S 0 1
    · rw [hp, zset_eq, zset_eq]; omega
    · rw [zset_ne _ _ hp, zset_ne _ _ hp]; exact f p p0 (by omega)
  · intro k k0 k1
    obtain ⟨y1, y2, y3, y4, y5, y6⟩ := g k k0 k1
    show (0 ≤ S 2 k ∧ S 2 k < S 0 1 + 1) ∧ _ ∧ _ ∧ _ ∧ zset (S 8) (S 0 1) (S 0 0) (S 2 k) ≤ k ∧ (S 2 k + 1 < S 0 1 + 1 → k < zset (S 8) (S 0 1) (S 0 0) (S 2 k + 1))
    refine ⟨⟨y1.1, by omega⟩, y2, y3, y4, ?_, fun hx => ?_⟩
    · rw [zset_ne _ _ (by omega)]; exact y5
    · by_cases hz : S 2 k + 1 = S 0 1
      · rw [hz, zset_eq]; exact k1
      · rw [zset_ne _ _ hz]; exact y6 (by omega)
  · intro p p0 p1
    have p1 : p < S 0 1 + 1 := p1
    show 0 ≤ zset (S 8) (S 0 1) (S 0 0) p ∧ zset (S 8) (S 0 1) (S 0 0) p ≤ S 0 0 ∧ (p + 1 < S 0 1 + 1 → zset (S 8) (S 0 1) (S 0 0) p ≤ zset (S 8) (S 0 1) (S 0 0) (p + 1))
    by_cases hp : p = S 0 1
    · rw [hp, zset_eq]; exact ⟨by omega, by omega, fun h => absurd h (by omega)⟩
    · have q := m p p0 (by omega)
      rw [zset_ne _ _ hp]
      refine ⟨q.1, q.2.1, fun hx => ?_⟩
      by_cases hz : p + 1 = S 0 1
      · rw [hz, zset_eq]; exact q.2.1
      · rw [zset_ne _ _ hz]; exact q.2.2 (by omega)
theorem zPW_0 (hG : Good T) : zPW T (zS0 T) := by
  have hi := zitm_ok hG
  have hrr := zrm_r hG 0
  have hnn := zrem_nn hG (i := 0) (by omega)
  have hL : zS (zhg T) 0 (znn T) ≤ 901 := hi.2.2.1
  have hn0 : 0 ≤ znn T := hi.1
  refine ⟨⟨?_, ?_, ?_, ?_, ?_⟩, ?_, ⟨?_, ?_⟩, ⟨?_, ?_⟩, rfl, ?_, ?_, ?_⟩
  · show (0 : Int) ≤ 0; omega
  · show (1 : Int) ≤ 0 + 1; omega
  · show (0 : Int) ≤ 0; omega
  · show (0 : Int) ≤ 1; omega
  · show (0 : Int) + 1 + 0 ≤ 0 + 1; omega
  · show (0 ≤ (0 : Int) ∧ 0 < znn T ∧ (0 : Int) ≤ 0 ∧ 0 < zhg T 0) ∨ ((0 : Int) = znn T ∧ (0 : Int) = 0)
    by_cases h : 0 < znn T
    · have := (zit_r hG (i := 0) (by omega) h).2.1
      exact Or.inl ⟨by omega, h, by omega, by omega⟩
    · exact Or.inr ⟨by omega, rfl⟩
  · show 0 + (zS (zhg T) 0 (znn T) - 0) ≤ 901; omega
  · show 0 ≤ zS (zhg T) 0 (znn T) - 0; omega
  · show -250 ≤ zrm T 0; omega
  · show zrm T 0 ≤ 100; omega
  · intro p p0 p1
    have p1 : p < 0 + 1 := p1
    have hp : p = 0 := by omega
    subst hp
    show 0 ≤ zset (fun _ => (0 : Int)) 0 0 0 ∧ zset (fun _ => (0 : Int)) 0 0 0 ≤ 901 - (zS (zhg T) 0 (znn T) - 0) ∧ 0 ≤ zset (fun _ => (0 : Int)) 0 0 0 ∧ zset (fun _ => (0 : Int)) 0 0 0 ≤ 601 * 0
    rw [zset_eq]
    omega
  · intro k k0 k1
    have k1 : k < 0 := k1
    omega
  · intro p p0 p1
    have p1 : p < 0 + 1 := p1
    have hp : p = 0 := by omega
    subst hp
    show 0 ≤ zset (fun _ => (0 : Int)) 0 0 0 ∧ zset (fun _ => (0 : Int)) 0 0 0 ≤ 0 ∧ ((0 : Int) + 1 < 0 + 1 → _)
    rw [zset_eq]
    exact ⟨by omega, by omega, fun h => absurd h (by omega)⟩
def zmu (T : Mem) (S : zSt) : Nat := if ¬ S 0 6 = 0 then 0 else (2 * zrem T S + S 0 3).toNat
/-- a step -/
theorem zstp_ok (hG : Good T) {S : zSt} (H : zPW T S) (h : S 0 4 < znn T) : (zPW T (zstp T S) ∨ zstp T S = zfail S) ∧ zmu T (zstp T S) < zmu T S := by
  have H' := H
  obtain ⟨⟨a1, a2, a3, a4, a5⟩, b, c, d, e, f, g, m⟩ := H
  have hb : 0 ≤ S 0 4 ∧ 0 ≤ S 0 5 ∧ S 0 5 < zhg T (S 0 4) := by omega
  have hbig : zhg T (S 0 4) ≤ zS (zhg T) (S 0 4) (znn T) := by
    rw [zrem_succ hG h]
    have := zrem_nn hG (i := S 0 4 + 1) (by omega)
    omega
  have hre : zrem T S = zS (zhg T) (S 0 4) (znn T) - S 0 5 := rfl
  have em : zmu T S = (2 * zrem T S + S 0 3).toNat := by unfold zmu; rw [if_neg (by omega)]
  unfold zstp
  by_cases hf : zln T S + zwn T S ≤ S 0 2 - (if znn T ≤ S 0 4 + 1 then 0 else zat T)
  · rw [if_pos hf]
    obtain ⟨x1, x2, x3⟩ := zPW_fit hG H' h hf
    refine ⟨Or.inl x1, ?_⟩
    have : zmu T (zfit T S) = (2 * zrem T (zfit T S) + 1).toNat := by unfold zmu; rw [if_neg (fun z => z x1.2.2.2.2.1)]; rfl
    rw [this, em, x2]
    have := x1.2.2.1.2
    omega
  · rw [if_neg hf]
    by_cases hq : (¬ zbr T (S 0 4) = 0 ∨ S 0 3 = 0) ∧ 1 ≤ zmo T S
    · rw [if_pos hq]
      obtain ⟨x1, x2, x3⟩ := zPW_brk hG H' h hf hq.2
      refine ⟨Or.inl x1, ?_⟩
      have : zmu T (zbrk T S) = (2 * zrem T (zbrk T S) + 0).toNat := by unfold zmu; rw [if_neg (fun z => z x1.2.2.2.2.1)]; rfl
      rw [this, em, x2]
      have := x1.2.2.1.2
      omega
    · rw [if_neg hq]
      by_cases hz : ¬ S 0 3 = 0
      · rw [if_pos hz]
        obtain ⟨x1, x2⟩ := zPW_new hG H' h hz
        refine ⟨Or.inl x1, ?_⟩
        have : zmu T (znewp T S) = (2 * zrem T (znewp T S) + 0).toNat := by unfold zmu; rw [if_neg (fun z => z x1.2.2.2.2.1)]; rfl
        rw [this, em, x2]
        omega
      · rw [if_neg hz]
        refine ⟨Or.inr rfl, ?_⟩
        have : zmu T (zfail S) = 0 := by unfold zmu; rw [if_pos (by show ¬ (1 : Int) = 0; decide)]
        rw [this, em]
        omega
theorem zit_done {S : zSt} (h : ¬ S 0 6 = 0 ∨ znn T ≤ S 0 4) (n : Nat) : zit T n S = S := by
  cases n with
  | zero => rfl
  | succ n => show (if ¬ S 0 6 = 0 ∨ znn T ≤ S 0 4 then S else zit T n (zstp T S)) = S; rw [if_pos h]
theorem zit_go {S : zSt} (h : ¬ (¬ S 0 6 = 0 ∨ znn T ≤ S 0 4)) (n : Nat) : zit T (n + 1) S = zit T n (zstp T S) := by
  show (if ¬ S 0 6 = 0 ∨ znn T ≤ S 0 4 then S else zit T n (zstp T S)) = _
  rw [if_neg h]
end RP
