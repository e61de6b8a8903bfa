/-! the pure part: calls that change contents and settings, fifth part -/
section OA
variable {T M T' : Mem} {O : zSt} {κ : Nat → Int} {K : (Nat → Int) → Mem → Prop} {p1 p2 p3 p4 : Int}
def zst (d : Int) : Int := if ¬ d = 0 then (if ¬ d = 1 then 1 else 10) else 100
def zisf (h d : Int) : Prop := (-1000000 ≤ h ∧ h ≤ 1000000) ∧ (0 ≤ d ∧ d ≤ 2) ∧ Int.tmod h (zst d) = 0
theorem k_isFigure {h d : Int} {Qm : Int → Mem → Prop} (hy : zisf h d → Qm 1 M) (hn : ¬ zisf h d → Qm 0 M) : wp_X9_isFigure h d M Qm := by
  have hs : 0 < zst d := by unfold zst; split; split; omega; omega; omega
  refine ⟨fun a => hn (fun z => by have := z.1; omega), fun a => ⟨fun b => ⟨fun c => hn (fun z => by have := z.2.1; omega), fun c => ⟨fun e => ⟨hs, ?_⟩, fun e => hn (fun z => by have := z.2.1; omega)⟩⟩, fun b => hn (fun z => by have := z.1; omega)⟩⟩
  show bit (if ¬ Int.tmod h (zst d) = 0 then (0 : Int) else 1) ∧ Qm (if ¬ Int.tmod h (zst d) = 0 then (0 : Int) else 1) M
  by_cases f : Int.tmod h (zst d) = 0
  · rw [if_neg (fun z => z f)]; exact ⟨bit_1, hy ⟨⟨a, b⟩, ⟨c, e⟩, f⟩⟩
  · rw [if_pos f]; exact ⟨bit_0, hn (fun z => f z.2.2)⟩
theorem zflag {h d : Int} (d0 : 0 ≤ d) (d2 : d ≤ 2) : (if d = 2 then (1 : Int) else if ¬ Int.tmod h (if ¬ d = 1 then 100 else 10) = 0 then 0 else 1) = if Int.tmod h (zst d) = 0 then 1 else 0 := by
  rcases (by omega : d = 0 ∨ d = 1 ∨ d = 2) with rfl | rfl | rfl
  · show (if ¬ Int.tmod h 100 = 0 then (0 : Int) else 1) = if Int.tmod h 100 = 0 then 1 else 0
    by_cases z : Int.tmod h 100 = 0
    · rw [if_neg (fun w => w z), if_pos z]
    · rw [if_pos z, if_neg z]
  · show (if ¬ Int.tmod h 10 = 0 then (0 : Int) else 1) = if Int.tmod h 10 = 0 then 1 else 0
    by_cases z : Int.tmod h 10 = 0
    · rw [if_neg (fun w => w z), if_pos z]
    · rw [if_pos z, if_neg z]
  · show (1 : Int) = if Int.tmod h 1 = 0 then 1 else 0
    have : Int.tmod h 1 = 0 := by simp
    rw [if_pos this]
/-- the reference's flags of a figure -/
theorem q_figure (hG : Good T) (hA : Ag T M) {c : Int} (hp : 0 ≤ c ∧ c < T 11 0 15) {h d : Int} {Qm : Mem → Prop} (hbad : ¬ zisf h d → Qm (up M 11 0 59 2)) (hst : zisf h d → ¬ (T 72 0 c = 0 ∧ T 67 0 c = 1 ∧ T 68 0 c = 1) → Qm (up M 11 0 59 3)) (hok : zisf h d → (T 72 0 c = 0 ∧ T 67 0 c = 1 ∧ T 68 0 c = 1) → Qm (up (up (up (up M 11 0 59 0) 73 0 c 1) 74 0 c h) 75 0 c d)) : wp_X10_figure c h d M Qm := by
  have hKn := hG.nK
  have x72 := hA.s72
  have x67 := hA.s67
  have x68 := hA.s68
  have i1 : ∀ a b : Int, (if (1 : Int) = 0 then a else b) = b := fun _ _ => rfl
  refine q_isCell hG hA (fun _ => q_in (fun a => ⟨fun z => absurd z (by decide), fun _ => ?_⟩) (fun a => ⟨fun _ => ⟨fun _ => ⟨⟨by omega, by omega⟩, fun _ => ⟨⟨by omega, by omega⟩, fun _ => ⟨⟨by omega, by omega⟩, trivial⟩, trivial⟩, trivial⟩, q_goes2 (by decide) rfl ⟨fun _ => hbad (fun z => a z.1), fun z => absurd rfl z⟩⟩, fun z => absurd rfl z⟩)) (fun z => absurd hp z)
  refine q_in (fun b => ⟨fun _ => ⟨fun _ => ⟨by split <;> omega, trivial⟩, trivial⟩, fun _ => ⟨⟨by omega, by omega⟩, fun _ => ⟨⟨by omega, by omega⟩, fun _ => ⟨⟨by omega, by omega⟩, trivial⟩, trivial⟩, trivial⟩, ?_⟩) (fun b => ⟨fun z => absurd rfl z, fun _ => ⟨⟨by omega, by omega⟩, fun _ => ⟨⟨by omega, by omega⟩, fun _ => ⟨⟨by omega, by omega⟩, trivial⟩, trivial⟩, trivial⟩, q_goes2 (by decide) rfl ⟨fun _ => hbad (fun z => b z.2.1), fun z => absurd rfl z⟩⟩)
  rw [x72, x67, x68, i1, i1, zflag b.1 b.2]
  by_cases f : Int.tmod h (zst d) = 0
  · rw [if_pos f]
    have hf : zisf h d := ⟨a, b, f⟩
    by_cases y1 : T 72 0 c = 0
    · rw [if_neg (fun w : ¬ T 72 0 c = 0 => w y1)]
      by_cases y2 : T 67 0 c = 1
      · rw [if_neg (fun w : ¬ T 67 0 c = 1 => w y2)]
        by_cases y3 : T 68 0 c = 1
        · rw [if_neg (fun w : ¬ T 68 0 c = 1 => w y3)]
          refine q_goes0 (by decide) (by decide) (by decide) ⟨fun z => absurd z (by decide), fun _ => ⟨⟨by omega, by omega⟩, fun N1 n1 => ⟨⟨by omega, by omega⟩, fun N2 n2 => ⟨⟨by omega, by omega⟩, fun N3 n3 => ?_⟩⟩⟩⟩
          rw [n3, n2, n1]
          exact hok hf ⟨y1, y2, y3⟩
        · rw [if_pos y3]
          exact q_goes3 (by decide) (by decide) rfl ⟨fun _ => hst hf (fun z => y3 z.2.2), fun z => absurd rfl z⟩
      · rw [if_pos y2]
        exact q_goes3 (by decide) (by decide) rfl ⟨fun _ => hst hf (fun z => y2 z.2.1), fun z => absurd rfl z⟩
    · rw [if_pos y1]
      exact q_goes3 (by decide) (by decide) rfl ⟨fun _ => hst hf (fun z => y1 z.1), fun z => absurd rfl z⟩
  · rw [if_neg f]
    exact q_goes2 (by decide) rfl ⟨fun _ => hbad (fun z => f z.2.2), fun z => absurd rfl z⟩
theorem l_figure (h : Iv T O κ M) (hK : ∀ T' M', Iv T' O κ M' → K κ M') : wp_law_4 p1 p2 p3 κ M K := by
  have h' := h
  obtain ⟨hG, hL, hA, -, -, -, -, -, hw, -⟩ := h
  have hKn := hG.nK
  have n14 := hL.n.2.2
  have x14 := hA.s14
  have x1 := hA.s1
  have fx : ∀ c : Int, up M 11 0 59 c 11 0 59 = c ∧ K κ (up M 11 0 59 c) := fun c => ⟨up_eq _ _ _ _ _, hK T _ (h'.x c)⟩
  refine k_hasCell hG hL hA (fun hp => ⟨fun _ => ?_, fun z => absurd z (by decide)⟩) (fun hp => ⟨fun z => absurd rfl z, fun _ => Or.inl ⟨rfl, ?_⟩⟩)
  · obtain ⟨l0, l1, l2, l3, l4, l7, l8, l9, l10, l11, l12, lw⟩ := hL.cell hp.1 hp.2
    obtain ⟨w1, w2, w3, w4, w5, w6, w7, w8, w9, w10, w11, w12⟩ := hG.cell p1 hp.1 hp.2
    refine k_isFigure (fun hf => ⟨fun _ => ?_, fun z => absurd z (by decide)⟩) (fun hf => ⟨fun z => absurd rfl z, fun _ => Or.inr (Or.inl ⟨rfl, q_figure hG hA hp (fun _ => fx 2) (fun z => absurd z hf) (fun z => absurd z hf)⟩)⟩)
    have hst : ¬ (T 72 0 p1 = 0 ∧ T 67 0 p1 = 1 ∧ T 68 0 p1 = 1) → (wp_X10_figure p1 p2 p3 M fun N1 => wp_X10_thrown N1 fun r2 N2 => r2 = 3 ∧ K κ N2) := fun hx => q_figure hG hA hp (fun z => absurd hf z) (fun _ _ => fx 3) (fun _ z => absurd z hx)
    rw [x14, x1, n14, l0, l7, l3, l4]
    refine ⟨hp, fun a => Or.inr (Or.inr ⟨rfl, hst (fun z => by omega)⟩), fun a => ⟨fun b => Or.inr (Or.inr ⟨rfl, hst (fun z => by omega)⟩), fun b => ⟨fun d => ?_, fun d => Or.inr (Or.inr ⟨rfl, hst (fun z => by omega)⟩)⟩⟩⟩
    intro M10 m10 M12 m12 M14 m14 M16 m16
    have hy : T 72 0 p1 = 0 ∧ T 67 0 p1 = 1 ∧ T 68 0 p1 = 1 := ⟨by omega, by omega, by omega⟩
    obtain ⟨T1, eT1⟩ : ∃ T1, T1 = up (up (up T 1 p1 8 1) 1 p1 9 p2) 1 p1 10 p3 := ⟨_, rfl⟩
    have hA1 : Ag T1 M16 := by rw [eT1, m16, m14, m12, m10]; exact ag_up2 (ag_up2 (ag_up2 (hA.up rfl) _ _ _ _) _ _ _ _) _ _ _ _
    have d1 : ∀ s : Nat, s ≠ 1 → T1 s = T s := fun s x => by rw [eT1, up_f _ _ _ _ x, up_f _ _ _ _ x, up_f _ _ _ _ x]
    have hG1 : Good T1 := hG.cl (fun s hs => d1 s (by omega))
    refine q_figure hG1 hA1 (by rw [d1 11 (by decide)]; exact hp) (fun z => absurd hf z) (fun _ z => absurd (by rw [d1 72 (by decide), d1 67 (by decide), d1 68 (by decide)]; exact hy) z) (fun _ _ => ?_)
    obtain ⟨T', eT⟩ : ∃ T', T' = up (up (up T1 73 0 p1 1) 74 0 p1 p2) 75 0 p1 p3 := ⟨_, rfl⟩
    have hA' : Ag T' (up (up (up (up M16 11 0 59 0) 73 0 p1 1) 74 0 p1 p2) 75 0 p1 p3) := by rw [eT]; exact ag_up2 (ag_up2 (ag_up2 (hA1.up rfl) _ _ _ _) _ _ _ _) _ _ _ _
    have dS : ∀ s : Nat, s ≠ 1 → s ≠ 73 → s ≠ 74 → s ≠ 75 → T' s = T s := fun s x u v w => by rw [eT, up_f _ _ _ _ w, up_f _ _ _ _ v, up_f _ _ _ _ u]; exact d1 s x
    have t72 : T' 72 = T 72 := dS 72 (by decide) (by decide) (by decide) (by decide)
    have t76 : T' 76 = T 76 := dS 76 (by decide) (by decide) (by decide) (by decide)
    have t73 : T' 73 0 p1 = 1 := by rw [eT, up_s _ _ _ _ (by decide), up_s _ _ _ _ (by decide), up_eq]
    have t74 : T' 74 0 p1 = p2 := by rw [eT, up_s _ _ _ _ (by decide), up_eq]
    have t75 : T' 75 0 p1 = p3 := by rw [eT, up_eq]
    have u1 : ∀ j k, T' 1 j k = T1 1 j k := fun j k => by rw [eT, up_s _ _ _ _ (by decide), up_s _ _ _ _ (by decide), up_s _ _ _ _ (by decide)]
    have t1 : ∀ k, k ≠ 8 → k ≠ 9 → k ≠ 10 → T' 1 p1 k = T 1 p1 k := fun k x y z => by rw [u1, eT1, up_k _ _ _ _ _ _ z, up_k _ _ _ _ _ _ y, up_k _ _ _ _ _ _ x]
    obtain ⟨e0, hG', hL', hw'⟩ := zput_cell (T' := T') hG hL hw hp.1 hp.2 (fun s hs => dS s (by omega) (by omega) (by omega) (by omega)) (fun s hs j k hj => by
      by_cases q : s = 1
      · rw [q, u1, eT1, up_j _ _ _ _ _ hj, up_j _ _ _ _ _ hj, up_j _ _ _ _ _ hj]
      · rw [dS s q (by omega) (by omega) (by omega)]) (fun s hs k hk => by
      rw [eT, up_k _ _ _ _ _ _ hk, up_k _ _ _ _ _ _ hk, up_k _ _ _ _ _ _ hk, d1 s (by omega)]) (fun s hs i k _ _ _ => by rw [dS s (by omega) (by omega) (by omega) (by omega)]) (fun k hk => t1 k (by omega) (by omega) (by omega))
      (by rw [t72, t73, t74, t75, t76]; exact ⟨w6, ⟨by omega, by omega⟩, hf.1, hf.2.1, w10, fun _ => hy, w12⟩)
      (fun i i0 i1 => absurd i1 (by rw [t72]; omega))
      (by
        rw [t72, t73, t74, t75, t76, t1 7 (by decide) (by decide) (by decide), t1 11 (by decide) (by decide) (by decide)]
        refine ⟨l7, ?_, ?_, ?_, l11⟩
        · rw [u1, eT1, up_k _ _ _ _ _ _ (by decide), up_k _ _ _ _ _ _ (by decide), up_eq]
        · rw [u1, eT1, up_k _ _ _ _ _ _ (by decide), up_eq]
        · rw [u1, eT1, up_eq])
    refine ⟨?_, hK T' _ (h'.st e0 hG' hL' hA' hw' (fun s j k z => ?_) ?_)⟩
    · rw [up_s _ _ _ _ (by decide), up_s _ _ _ _ (by decide), up_s _ _ _ _ (by decide), up_eq]
    · rw [up_at, if_neg (by omega), up_at, if_neg (by omega), up_at, if_neg (by omega), up_at, if_neg (by omega), m16, up_at, if_neg (by omega), m14, up_at, if_neg (by omega), m12, up_at, if_neg (by omega), m10, up_at, if_neg (by omega)]
    · rw [up_s _ _ _ _ (by decide), up_s _ _ _ _ (by decide), up_s _ _ _ _ (by decide), up_s _ _ _ _ (by decide), m16, up_s _ _ _ _ (by decide), m14, up_s _ _ _ _ (by decide), m12, up_s _ _ _ _ (by decide), m10, up_eq]
      decide
  · refine q_isCell hG hA (fun z => absurd z hp) (fun _ => q_in (fun a => ⟨fun z => absurd z (by decide), fun _ => q_in (fun b => ⟨fun _ => ⟨fun _ => ⟨by split <;> omega, trivial⟩, trivial⟩, fun z => absurd rfl z, q_goes1 rfl ⟨fun _ => fx 1, fun z => absurd rfl z⟩⟩) (fun b => ⟨fun z => absurd rfl z, fun z => absurd rfl z, q_goes1 rfl ⟨fun _ => fx 1, fun z => absurd rfl z⟩⟩)⟩) (fun _ => ⟨fun _ => ⟨fun z => absurd rfl z, q_goes1 rfl ⟨fun _ => fx 1, fun z => absurd rfl z⟩⟩, fun z => absurd rfl z⟩))
end OA
