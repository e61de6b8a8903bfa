/-! the pure part: the reference lays pages -/
def zput3 (T : Mem) (S : zSt) (l : Int) : zSt := zrec (fun k => if k = 0 then S 0 0 + 1 else S 0 k) (zset (S 1) (S 0 0) (zcd T (S 0 4))) (zset (S 2) (S 0 0) (S 0 1 - 1)) (zset (S 3) (S 0 0) (S 0 5)) (zset (S 4) (S 0 0) l) (zset (S 5) (S 0 1 - 1) (S 5 (S 0 1 - 1) + l)) (zset (S 6) (S 0 1 - 1) (S 6 (S 0 1 - 1) + znl T S l)) (S 7) (S 8)
section RQ
variable {T M : Mem}
/-- what the pages stand on -/
def zHS (T M : Mem) : Prop := (∀ k, 0 ≤ k → k < T 11 0 4 → M 81 0 k = zRg T k ∧ M 82 0 k = zls T k ∧ M 83 0 k = zms T k ∧ M 84 0 k = zwid T k) ∧ ∀ r, 0 ≤ r → r < T 11 0 8 → M 85 0 r = zhH T r
theorem zHS.fr {M' : Mem} (h : zHS T M) (f : Fr zFP M M') : zHS T M' :=
  ⟨fun k a b => by rw [f 81 0 k rfl, f 82 0 k rfl, f 83 0 k rfl, f 84 0 k rfl]; exact h.1 k a b, fun r a b => by rw [f 85 0 r rfl]; exact h.2 r a b⟩
theorem zIR.fr {I : zSt} {M' : Mem} (h : zIR I M) (f : Fr zFP M M') : zIR I M' :=
  ⟨by rw [f 11 0 41 rfl]; exact h.1, fun k a b => by rw [f 86 0 k rfl, f 87 0 k rfl, f 88 0 k rfl, f 89 0 k rfl]; exact h.2 k a b⟩
end RQ
