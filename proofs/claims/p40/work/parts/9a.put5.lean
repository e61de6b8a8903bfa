/-! the pure part: calls that change contents and settings, fifth part -/
section OA
variable {T M T' : Mem} {O : zSt} {κ : Nat → Int} {K : (Nat → Int) → Mem → Prop} {p1 p2 p3 p4 : Int}
def zst (d : Int) : Int := if ¬ d = 0 then (if ¬ d = 1 then 1 else 10) else 100
def zisf (h d : Int) : Prop := (-1000000 ≤ h ∧ h ≤ 1000000) ∧ (0 ≤ d ∧ d ≤ 2) ∧ Int.tmod h (zst d) = 0
theorem k_isFigure {h d : Int} {Qm : Int → Mem → Prop} (hy : zisf h d → Qm 1 M) (hn : ¬ zisf h d → Qm 0 M) : wp_X9_isFigure h d M Qm := by
  have hs : 0 < zst d := by unfold zst; split; split; omega; omega; omega
  refine ⟨fun a => hn (fun z => by have := z.1; omega), fun a => ⟨fun b => ⟨fun c => hn (fun z => by have := z.2.1; omega), fun c => ⟨fun e => ⟨hs, ?_⟩, fun e => hn (fun z => by have := z.2.1; omega)⟩⟩, fun b => hn (fun z => by have := z.1; omega)⟩⟩
  show bit (if ¬ Int.tmod h (zst d) = 0 then (0 : Int) else 1) ∧ Qm (if ¬ Int.tmod h (zst d) = 0 then (0 : Int) else 1) M
  by_cases f : Int.tmod h (zst d) = 0
  · rw [if_neg (fun z => z f)]; exact ⟨bit_1, hy ⟨⟨a, b⟩, ⟨c, e⟩, f⟩⟩
  · rw [if_pos f]; exact ⟨bit_0, hn (fun z => f z.2.2)⟩
theorem zflag {h d : Int} (d0 : 0 ≤ d) (d2 : d ≤ 2) : (if d = 2 then (1 : Int) else if ¬ Int.tmod h (if ¬ d = 1 then 100 else 10) = 0 then 0 else 1) = if Int.tmod h (zst d) = 0 then 1 else 0 := by
  rcases (by omega : d = 0 ∨ d = 1 ∨ d = 2) with rfl | rfl | rfl
  · show (if ¬ Int.tmod h 100 = 0 then (0 : Int) else 1) = if Int.tmod h 100 = 0 then 1 else 0
    by_cases z : Int.tmod h 100 = 0
    · rw [if_neg (fun w => w z), if_pos z]
    · rw [if_pos z, if_neg z]
  · show (if ¬ Int.tmod h 10 = 0 then (0 : Int) else 1) = if Int.tmod h 10 = 0 then 1 else 0
    by_cases z : Int.tmod h 10 = 0
    · rw [if_neg (fun w => w z), if_pos z]
    · rw [if_pos z, if_neg z]
  · show (1 : Int) = if Int.tmod h 1 = 0 then 1 else 0
    have : Int.tmod h 1 = 0 := by simp
    rw [if_pos this]
end OA
