theorem dL_figure_0 : decode cL_figure 0 = .ok (.iconst 0, 1) := by decide +kernel
theorem dL_figure_1 : decode cL_figure 1 = .ok (.istore 6, 2) := by decide +kernel
theorem dL_figure_3 : decode cL_figure 3 = .ok (.iconst 0, 1) := by decide +kernel
theorem dL_figure_4 : decode cL_figure 4 = .ok (.istore 7, 2) := by decide +kernel
theorem dL_figure_6 : decode cL_figure 6 = .ok (.iload 7, 2) := by decide +kernel
theorem dL_figure_8 : decode cL_figure 8 = .ok (.aload_n 3, 1) := by decide +kernel
theorem dL_figure_9 : decode cL_figure 9 = .ok (.iconst 2, 1) := by decide +kernel
theorem dL_figure_10 : decode cL_figure 10 = .ok (.iaload, 1) := by decide +kernel
theorem dL_figure_11 : decode cL_figure 11 = .ok (.if_icmp .ge 69, 3) := by decide +kernel
theorem dL_figure_14 : decode cL_figure 14 = .ok (.aload_n 1, 1) := by decide +kernel
theorem dL_figure_15 : decode cL_figure 15 = .ok (.bipush 6, 2) := by decide +kernel
theorem dL_figure_17 : decode cL_figure 17 = .ok (.iload 7, 2) := by decide +kernel
theorem dL_figure_19 : decode cL_figure 19 = .ok (.imul, 1) := by decide +kernel
theorem dL_figure_20 : decode cL_figure 20 = .ok (.iaload, 1) := by decide +kernel
theorem dL_figure_21 : decode cL_figure 21 = .ok (.iload 4, 2) := by decide +kernel
theorem dL_figure_23 : decode cL_figure 23 = .ok (.if_icmp .ne 47, 3) := by decide +kernel
theorem dL_figure_26 : decode cL_figure 26 = .ok (.aload_n 1, 1) := by decide +kernel
theorem dL_figure_27 : decode cL_figure 27 = .ok (.bipush 6, 2) := by decide +kernel
theorem dL_figure_29 : decode cL_figure 29 = .ok (.iload 7, 2) := by decide +kernel
theorem dL_figure_31 : decode cL_figure 31 = .ok (.imul, 1) := by decide +kernel
theorem dL_figure_32 : decode cL_figure 32 = .ok (.iconst 1, 1) := by decide +kernel
theorem dL_figure_33 : decode cL_figure 33 = .ok (.iadd, 1) := by decide +kernel
theorem dL_figure_34 : decode cL_figure 34 = .ok (.iaload, 1) := by decide +kernel
theorem dL_figure_35 : decode cL_figure 35 = .ok (.iload 5, 2) := by decide +kernel
theorem dL_figure_37 : decode cL_figure 37 = .ok (.if_icmp .ne 33, 3) := by decide +kernel
theorem dL_figure_40 : decode cL_figure 40 = .ok (.aload_n 1, 1) := by decide +kernel
theorem dL_figure_41 : decode cL_figure 41 = .ok (.bipush 6, 2) := by decide +kernel
theorem dL_figure_43 : decode cL_figure 43 = .ok (.iload 7, 2) := by decide +kernel
theorem dL_figure_45 : decode cL_figure 45 = .ok (.imul, 1) := by decide +kernel
theorem dL_figure_46 : decode cL_figure 46 = .ok (.iconst 5, 1) := by decide +kernel
theorem dL_figure_47 : decode cL_figure 47 = .ok (.iadd, 1) := by decide +kernel
theorem dL_figure_48 : decode cL_figure 48 = .ok (.iaload, 1) := by decide +kernel
theorem dL_figure_49 : decode cL_figure 49 = .ok (.ifCond .lt 21, 3) := by decide +kernel
theorem dL_figure_52 : decode cL_figure 52 = .ok (.aload_n 0, 1) := by decide +kernel
theorem dL_figure_53 : decode cL_figure 53 = .ok (.iconst 4, 1) := by decide +kernel
theorem dL_figure_54 : decode cL_figure 54 = .ok (.iload 5, 2) := by decide +kernel
theorem dL_figure_56 : decode cL_figure 56 = .ok (.imul, 1) := by decide +kernel
theorem dL_figure_57 : decode cL_figure 57 = .ok (.iconst 3, 1) := by decide +kernel
theorem dL_figure_58 : decode cL_figure 58 = .ok (.iadd, 1) := by decide +kernel
theorem dL_figure_59 : decode cL_figure 59 = .ok (.iaload, 1) := by decide +kernel
theorem dL_figure_60 : decode cL_figure 60 = .ok (.ifCond .ne 10, 3) := by decide +kernel
theorem dL_figure_63 : decode cL_figure 63 = .ok (.aload_n 2, 1) := by decide +kernel
theorem dL_figure_64 : decode cL_figure 64 = .ok (.iload 7, 2) := by decide +kernel
theorem dL_figure_66 : decode cL_figure 66 = .ok (.iaload, 1) := by decide +kernel
theorem dL_figure_67 : decode cL_figure 67 = .ok (.goto 5, 3) := by decide +kernel
theorem dL_figure_70 : decode cL_figure 70 = .ok (.iload 6, 2) := by decide +kernel
theorem dL_figure_72 : decode cL_figure 72 = .ok (.istore 6, 2) := by decide +kernel
theorem dL_figure_74 : decode cL_figure 74 = .ok (.iinc 7 1, 3) := by decide +kernel
theorem dL_figure_77 : decode cL_figure 77 = .ok (.goto (-71), 3) := by decide +kernel
theorem dL_figure_80 : decode cL_figure 80 = .ok (.iload 6, 2) := by decide +kernel
theorem dL_figure_82 : decode cL_figure 82 = .ok (.ireturn, 1) := by decide +kernel
theorem dL_key_0 : decode cL_key 0 = .ok (.ldc 211, 2) := by decide +kernel
theorem dL_key_2 : decode cL_key 2 = .ok (.istore 7, 2) := by decide +kernel
theorem dL_key_4 : decode cL_key 4 = .ok (.iconst 0, 1) := by decide +kernel
theorem dL_key_5 : decode cL_key 5 = .ok (.istore 8, 2) := by decide +kernel
theorem dL_key_7 : decode cL_key 7 = .ok (.iload 8, 2) := by decide +kernel
theorem dL_key_9 : decode cL_key 9 = .ok (.aload_n 3, 1) := by decide +kernel
theorem dL_key_10 : decode cL_key 10 = .ok (.iconst 2, 1) := by decide +kernel
theorem dL_key_11 : decode cL_key 11 = .ok (.iaload, 1) := by decide +kernel
theorem dL_key_12 : decode cL_key 12 = .ok (.if_icmp .ge 94, 3) := by decide +kernel
theorem dL_key_15 : decode cL_key 15 = .ok (.aload_n 1, 1) := by decide +kernel
theorem dL_key_16 : decode cL_key 16 = .ok (.bipush 6, 2) := by decide +kernel
theorem dL_key_18 : decode cL_key 18 = .ok (.iload 8, 2) := by decide +kernel
theorem dL_key_20 : decode cL_key 20 = .ok (.imul, 1) := by decide +kernel
theorem dL_key_21 : decode cL_key 21 = .ok (.iaload, 1) := by decide +kernel
theorem dL_key_22 : decode cL_key 22 = .ok (.iload 4, 2) := by decide +kernel
theorem dL_key_24 : decode cL_key 24 = .ok (.if_icmp .ne 44, 3) := by decide +kernel
theorem dL_key_27 : decode cL_key 27 = .ok (.aload_n 1, 1) := by decide +kernel
theorem dL_key_28 : decode cL_key 28 = .ok (.bipush 6, 2) := by decide +kernel
theorem dL_key_30 : decode cL_key 30 = .ok (.iload 8, 2) := by decide +kernel
theorem dL_key_32 : decode cL_key 32 = .ok (.imul, 1) := by decide +kernel
theorem dL_key_33 : decode cL_key 33 = .ok (.iconst 1, 1) := by decide +kernel
theorem dL_key_34 : decode cL_key 34 = .ok (.iadd, 1) := by decide +kernel
theorem dL_key_35 : decode cL_key 35 = .ok (.iaload, 1) := by decide +kernel
theorem dL_key_36 : decode cL_key 36 = .ok (.iload 5, 2) := by decide +kernel
theorem dL_key_38 : decode cL_key 38 = .ok (.if_icmp .ne 30, 3) := by decide +kernel
theorem dL_key_41 : decode cL_key 41 = .ok (.aload_n 1, 1) := by decide +kernel
theorem dL_key_42 : decode cL_key 42 = .ok (.bipush 6, 2) := by decide +kernel
theorem dL_key_44 : decode cL_key 44 = .ok (.iload 8, 2) := by decide +kernel
theorem dL_key_46 : decode cL_key 46 = .ok (.imul, 1) := by decide +kernel
theorem dL_key_47 : decode cL_key 47 = .ok (.iconst 5, 1) := by decide +kernel
theorem dL_key_48 : decode cL_key 48 = .ok (.iadd, 1) := by decide +kernel
theorem dL_key_49 : decode cL_key 49 = .ok (.iaload, 1) := by decide +kernel
theorem dL_key_50 : decode cL_key 50 = .ok (.ifCond .lt 18, 3) := by decide +kernel
theorem dL_key_53 : decode cL_key 53 = .ok (.aload_n 0, 1) := by decide +kernel
theorem dL_key_54 : decode cL_key 54 = .ok (.iconst 4, 1) := by decide +kernel
theorem dL_key_55 : decode cL_key 55 = .ok (.iload 5, 2) := by decide +kernel
theorem dL_key_57 : decode cL_key 57 = .ok (.imul, 1) := by decide +kernel
theorem dL_key_58 : decode cL_key 58 = .ok (.iconst 3, 1) := by decide +kernel
theorem dL_key_59 : decode cL_key 59 = .ok (.iadd, 1) := by decide +kernel
theorem dL_key_60 : decode cL_key 60 = .ok (.iaload, 1) := by decide +kernel
theorem dL_key_61 : decode cL_key 61 = .ok (.ifCond .ne 7, 3) := by decide +kernel
theorem dL_key_64 : decode cL_key 64 = .ok (.iconst 1, 1) := by decide +kernel
theorem dL_key_65 : decode cL_key 65 = .ok (.goto 4, 3) := by decide +kernel
theorem dL_key_68 : decode cL_key 68 = .ok (.iconst 0, 1) := by decide +kernel
theorem dL_key_69 : decode cL_key 69 = .ok (.istore 9, 2) := by decide +kernel
theorem dL_key_71 : decode cL_key 71 = .ok (.iload 9, 2) := by decide +kernel
theorem dL_key_73 : decode cL_key 73 = .ok (.ifCond .eq 23, 3) := by decide +kernel
theorem dL_key_76 : decode cL_key 76 = .ok (.iload 6, 2) := by decide +kernel
theorem dL_key_78 : decode cL_key 78 = .ok (.ifCond .eq 11, 3) := by decide +kernel
theorem dL_key_81 : decode cL_key 81 = .ok (.aload_n 2, 1) := by decide +kernel
theorem dL_key_82 : decode cL_key 82 = .ok (.iload 8, 2) := by decide +kernel
theorem dL_key_84 : decode cL_key 84 = .ok (.iaload, 1) := by decide +kernel
theorem dL_key_85 : decode cL_key 85 = .ok (.ineg, 1) := by decide +kernel
theorem dL_key_86 : decode cL_key 86 = .ok (.goto 12, 3) := by decide +kernel
theorem dL_key_89 : decode cL_key 89 = .ok (.aload_n 2, 1) := by decide +kernel
theorem dL_key_90 : decode cL_key 90 = .ok (.iload 8, 2) := by decide +kernel
theorem dL_key_92 : decode cL_key 92 = .ok (.iaload, 1) := by decide +kernel
theorem dL_key_93 : decode cL_key 93 = .ok (.goto 5, 3) := by decide +kernel
theorem dL_key_96 : decode cL_key 96 = .ok (.iload 7, 2) := by decide +kernel
theorem dL_key_98 : decode cL_key 98 = .ok (.istore 7, 2) := by decide +kernel
theorem dL_key_100 : decode cL_key 100 = .ok (.iinc 8 1, 3) := by decide +kernel
theorem dL_key_103 : decode cL_key 103 = .ok (.goto (-96), 3) := by decide +kernel
theorem dL_key_106 : decode cL_key 106 = .ok (.iload 7, 2) := by decide +kernel
theorem dL_key_108 : decode cL_key 108 = .ok (.ireturn, 1) := by decide +kernel
theorem dL_ahead_0 : decode cL_ahead 0 = .ok (.iconst (-1), 1) := by decide +kernel
theorem dL_ahead_1 : decode cL_ahead 1 = .ok (.istore_n 3, 1) := by decide +kernel
theorem dL_ahead_2 : decode cL_ahead 2 = .ok (.iconst 0, 1) := by decide +kernel
theorem dL_ahead_3 : decode cL_ahead 3 = .ok (.istore 4, 2) := by decide +kernel
theorem dL_ahead_5 : decode cL_ahead 5 = .ok (.iload 4, 2) := by decide +kernel
theorem dL_ahead_7 : decode cL_ahead 7 = .ok (.iload_n 2, 1) := by decide +kernel
theorem dL_ahead_8 : decode cL_ahead 8 = .ok (.if_icmp .ge 24, 3) := by decide +kernel
theorem dL_ahead_11 : decode cL_ahead 11 = .ok (.aload_n 0, 1) := by decide +kernel
theorem dL_ahead_12 : decode cL_ahead 12 = .ok (.iload 4, 2) := by decide +kernel
theorem dL_ahead_14 : decode cL_ahead 14 = .ok (.iaload, 1) := by decide +kernel
theorem dL_ahead_15 : decode cL_ahead 15 = .ok (.iload_n 1, 1) := by decide +kernel
theorem dL_ahead_16 : decode cL_ahead 16 = .ok (.if_icmp .ne 8, 3) := by decide +kernel
theorem dL_ahead_19 : decode cL_ahead 19 = .ok (.iload 4, 2) := by decide +kernel
theorem dL_ahead_21 : decode cL_ahead 21 = .ok (.goto 4, 3) := by decide +kernel
theorem dL_ahead_24 : decode cL_ahead 24 = .ok (.iload_n 3, 1) := by decide +kernel
theorem dL_ahead_25 : decode cL_ahead 25 = .ok (.istore_n 3, 1) := by decide +kernel
theorem dL_ahead_26 : decode cL_ahead 26 = .ok (.iinc 4 1, 3) := by decide +kernel
theorem dL_ahead_29 : decode cL_ahead 29 = .ok (.goto (-24), 3) := by decide +kernel
theorem dL_ahead_32 : decode cL_ahead 32 = .ok (.iload_n 3, 1) := by decide +kernel
theorem dL_ahead_33 : decode cL_ahead 33 = .ok (.ireturn, 1) := by decide +kernel
section
variable {p : Program} {l : Launch} {e : Env} {s : State} {m : MethodId} {args : Array Value} {below : List Frame} {meth : Method} {c : Code} {G : Gx} {e0 : Nat} {α : Ax} {κ : Nat → Int} {B : Nat}
def wp_L_figure_6 (p4 : Int) (p5 : Int) (Qm : Int → Mem → Prop) : Nat → Int → Int → Mem → Prop
  | 0 => fun _ _ _ => False
  | n + 1 => fun y6 y7 M => (((M 112 0 2) ≤ y7 → Qm y6 M) ∧ (y7 < (M 112 0 2) → (inR (6 * y7)) ∧ (0 ≤ (6 * y7) ∧ (6 * y7) < 60) ∧ ((M 107 0 (6 * y7)) = p4 → (inR (6 * y7)) ∧ (inR ((6 * y7) + 1)) ∧ (0 ≤ ((6 * y7) + 1) ∧ ((6 * y7) + 1) < 60) ∧ ((M 107 0 ((6 * y7) + 1)) = p5 → (inR (6 * y7)) ∧ (inR ((6 * y7) + 5)) ∧ (0 ≤ ((6 * y7) + 5) ∧ ((6 * y7) + 5) < 60) ∧ (0 ≤ (M 107 0 ((6 * y7) + 5)) → (inR (4 * p5)) ∧ (inR ((4 * p5) + 3)) ∧ (0 ≤ ((4 * p5) + 3) ∧ ((4 * p5) + 3) < 16) ∧ ((M 104 0 ((4 * p5) + 3)) = 0 → (0 ≤ y7 ∧ y7 < 10) ∧ True) ∧ True) ∧ True) ∧ True) ∧ (inR (y7 + 1)) ∧ wp_L_figure_6 p4 p5 Qm n (if ¬ (M 107 0 (6 * y7)) = p4 then y6 else (if ¬ (M 107 0 ((6 * y7) + 1)) = p5 then y6 else (if (M 107 0 ((6 * y7) + 5)) < 0 then y6 else (if ¬ (M 104 0 ((4 * p5) + 3)) = 0 then y6 else (M 109 0 y7))))) (y7 + 1) M))
def wp_L_figure (p4 : Int) (p5 : Int) (M : Mem) (Qm : Int → Mem → Prop) : Prop := (∃ n29 : Nat, wp_L_figure_6 p4 p5 Qm n29 0 0 M)
set_option maxHeartbeats 4000000 in
set_option maxRecDepth 100000 in
theorem t_L_figure_6 {p4 : Int} {p5 : Int} (X : CX p m c cL_figure 8 s args RL G B κ meth (some .int)) (hp4 : inR p4) (hp5 : inR p5) {Qm : Int → Mem → Prop} : ∀ n : Nat, ∀ y6 : Int, ∀ y7 : Int, ∀ M : Mem, wp_L_figure_6 p4 p5 Qm n y6 y7 M → inR y6 → inR y7 → ∀ (H : Heap) (locs : List Loc), Rp G e0 α κ B M H → va_S (fun q => B ≤ q) s.heap H locs → ∀ (ls : Array Slot), lv_has ls 8 [(0, .ref (α 104 0)), (1, .ref (α 107 0)), (2, .ref (α 109 0)), (3, .ref (α 112 0)), (4, .int (Int32.ofInt p4)), (5, .int (Int32.ofInt p5)), (6, .int (Int32.ofInt y6)), (7, .int (Int32.ofInt y7))] → WI p l e 0 s m args below meth c G e0 α κ B Qm H locs 6 ls [] := by
  intro n
  induction n with
  | zero =>
    intro y6 y7 M hw hy6 hy7 H locs hR hS ls hl
    exact hw.elim
  | succ n ih =>
    intro y6 y7 M hw hy6 hy7 H locs hR hS ls hl
    have hw : (((M 112 0 2) ≤ y7 → Qm y6 M) ∧ (y7 < (M 112 0 2) → (inR (6 * y7)) ∧ (0 ≤ (6 * y7) ∧ (6 * y7) < 60) ∧ ((M 107 0 (6 * y7)) = p4 → (inR (6 * y7)) ∧ (inR ((6 * y7) + 1)) ∧ (0 ≤ ((6 * y7) + 1) ∧ ((6 * y7) + 1) < 60) ∧ ((M 107 0 ((6 * y7) + 1)) = p5 → (inR (6 * y7)) ∧ (inR ((6 * y7) + 5)) ∧ (0 ≤ ((6 * y7) + 5) ∧ ((6 * y7) + 5) < 60) ∧ (0 ≤ (M 107 0 ((6 * y7) + 5)) → (inR (4 * p5)) ∧ (inR ((4 * p5) + 3)) ∧ (0 ≤ ((4 * p5) + 3) ∧ ((4 * p5) + 3) < 16) ∧ ((M 104 0 ((4 * p5) + 3)) = 0 → (0 ≤ y7 ∧ y7 < 10) ∧ True) ∧ True) ∧ True) ∧ True) ∧ (inR (y7 + 1)) ∧ wp_L_figure_6 p4 p5 Qm n (if ¬ (M 107 0 (6 * y7)) = p4 then y6 else (if ¬ (M 107 0 ((6 * y7) + 1)) = p5 then y6 else (if (M 107 0 ((6 * y7) + 5)) < 0 then y6 else (if ¬ (M 104 0 ((4 * p5) + 3)) = 0 then y6 else (M 109 0 y7))))) (y7 + 1) M)) := hw
    refine lv_iload X.1.1 X.1.2.1 dL_figure_6 (lv_at hl 7 rfl) ?_
    refine lv_aload_n X.1.1 X.1.2.1 dL_figure_8 rfl (lv_at hl 3 rfl) ?_
    refine sa_const X.1 dL_figure_9 ?_
    refine ra_112 X hR (okf X.2.2.1 rfl) ⟨by decide, by decide⟩ dL_figure_10 ?_
    have r1 := hR.r 112 0 2
    refine sa_icmp_ge (tgt := 80) X.1 hy7 r1 dL_figure_11 (by decide) (fun hc => ?_) (fun hc => ?_)
    · have hw := hw.1 hc
      refine lv_iload X.1.1 X.1.2.1 dL_figure_80 (lv_at hl 6 rfl) ?_
      exact sa_iret X.1 X.2.2.2.1 X.2.2.2.2 hR hS hy6 hw dL_figure_82
    · have hw := hw.2 hc
      refine lv_aload_n X.1.1 X.1.2.1 dL_figure_14 rfl (lv_at hl 1 rfl) ?_
      refine sa_bipush X.1 dL_figure_15 (by decide) ?_
      refine lv_iload X.1.1 X.1.2.1 dL_figure_17 (lv_at hl 7 rfl) ?_
      have c2 := hw.1
      have hw := hw.2
      refine sa_imul X.1 dL_figure_19 ?_
      have c3 := hw.1
      have hw := hw.2
      refine ra_107 X hR (okf X.2.2.1 rfl) c3 dL_figure_20 ?_
      have r4 := hR.r 107 0 (6 * y7)
      refine lv_iload X.1.1 X.1.2.1 dL_figure_21 (lv_at hl 4 rfl) ?_
      have s24 := hw.1
      have hw := hw.2
      have r25 := inR_ite (c := ¬ (M 107 0 (6 * y7)) = p4) hy6 (inR_ite (c := ¬ (M 107 0 ((6 * y7) + 1)) = p5) hy6 (inR_ite (c := (M 107 0 ((6 * y7) + 5)) < 0) hy6 (inR_ite (c := ¬ (M 104 0 ((4 * p5) + 3)) = 0) hy6 (hR.r 109 0 y7))))
      refine cut_j (A := ∀ v26 : Int, v26 = (if ¬ (M 107 0 (6 * y7)) = p4 then y6 else (if ¬ (M 107 0 ((6 * y7) + 1)) = p5 then y6 else (if (M 107 0 ((6 * y7) + 5)) < 0 then y6 else (if ¬ (M 104 0 ((4 * p5) + 3)) = 0 then y6 else (M 109 0 y7))))) → WI p l e 0 s m args below meth c G e0 α κ B Qm H locs 72 ls [.int (Int32.ofInt v26)]) (fun J27 => ?_) ?_
      · refine sa_icmp_ne (tgt := 70) X.1 r4 hp4 dL_figure_23 (by decide) (fun hc => ?_) (fun hc => ?_)
        · skip
          refine lv_iload X.1.1 X.1.2.1 dL_figure_70 (lv_at hl 6 rfl) ?_
          exact J27 (y6) (if_pos (c := ¬ (M 107 0 (6 * y7)) = p4) hc).symm
        · have hw := s24 hc
          refine lv_aload_n X.1.1 X.1.2.1 dL_figure_26 rfl (lv_at hl 1 rfl) ?_
          refine sa_bipush X.1 dL_figure_27 (by decide) ?_
          refine lv_iload X.1.1 X.1.2.1 dL_figure_29 (lv_at hl 7 rfl) ?_
          have c5 := hw.1
          have hw := hw.2
          refine sa_imul X.1 dL_figure_31 ?_
          refine sa_const X.1 dL_figure_32 ?_
          have c6 := hw.1
          have hw := hw.2
          refine sa_iadd X.1 dL_figure_33 ?_
          have c7 := hw.1
          have hw := hw.2
          refine ra_107 X hR (okf X.2.2.1 rfl) c7 dL_figure_34 ?_
          refine lv_iload X.1.1 X.1.2.1 dL_figure_35 (lv_at hl 5 rfl) ?_
          have s21 := hw.1
          have hw := hw.2
          refine cut_j (A := ∀ v22 : Int, v22 = (if ¬ (M 107 0 ((6 * y7) + 1)) = p5 then y6 else (if (M 107 0 ((6 * y7) + 5)) < 0 then y6 else (if ¬ (M 104 0 ((4 * p5) + 3)) = 0 then y6 else (M 109 0 y7)))) → WI p l e 0 s m args below meth c G e0 α κ B Qm H locs 72 ls [.int (Int32.ofInt v22)]) (fun J23 => ?_) ?_
          · refine sa_icmp_ne (tgt := 70) X.1 (hR.r 107 0 ((6 * y7) + 1)) hp5 dL_figure_37 (by decide) (fun hc => ?_) (fun hc => ?_)
            · skip
              refine lv_iload X.1.1 X.1.2.1 dL_figure_70 (lv_at hl 6 rfl) ?_
              exact J23 (y6) (if_pos (c := ¬ (M 107 0 ((6 * y7) + 1)) = p5) hc).symm
            · have hw := s21 hc
              refine lv_aload_n X.1.1 X.1.2.1 dL_figure_40 rfl (lv_at hl 1 rfl) ?_
              refine sa_bipush X.1 dL_figure_41 (by decide) ?_
              refine lv_iload X.1.1 X.1.2.1 dL_figure_43 (lv_at hl 7 rfl) ?_
              have c8 := hw.1
              have hw := hw.2
              refine sa_imul X.1 dL_figure_45 ?_
              refine sa_const X.1 dL_figure_46 ?_
              have c9 := hw.1
              have hw := hw.2
              refine sa_iadd X.1 dL_figure_47 ?_
              have c10 := hw.1
              have hw := hw.2
              refine ra_107 X hR (okf X.2.2.1 rfl) c10 dL_figure_48 ?_
              have s18 := hw.1
              have hw := hw.2
              refine cut_j (A := ∀ v19 : Int, v19 = (if (M 107 0 ((6 * y7) + 5)) < 0 then y6 else (if ¬ (M 104 0 ((4 * p5) + 3)) = 0 then y6 else (M 109 0 y7))) → WI p l e 0 s m args below meth c G e0 α κ B Qm H locs 72 ls [.int (Int32.ofInt v19)]) (fun J20 => ?_) ?_
              · refine sa_if_lt (tgt := 70) X.1 (hR.r 107 0 ((6 * y7) + 5)) dL_figure_49 (by decide) (fun hc => ?_) (fun hc => ?_)
                · skip
                  refine lv_iload X.1.1 X.1.2.1 dL_figure_70 (lv_at hl 6 rfl) ?_
                  exact J20 (y6) (if_pos (c := (M 107 0 ((6 * y7) + 5)) < 0) hc).symm
                · have hw := s18 hc
                  refine lv_aload_n X.1.1 X.1.2.1 dL_figure_52 rfl (lv_at hl 0 rfl) ?_
                  refine sa_const X.1 dL_figure_53 ?_
                  refine lv_iload X.1.1 X.1.2.1 dL_figure_54 (lv_at hl 5 rfl) ?_
                  have c11 := hw.1
                  have hw := hw.2
                  refine sa_imul X.1 dL_figure_56 ?_
                  refine sa_const X.1 dL_figure_57 ?_
                  have c12 := hw.1
                  have hw := hw.2
                  refine sa_iadd X.1 dL_figure_58 ?_
                  have c13 := hw.1
                  have hw := hw.2
                  refine ra_104 X hR (okf X.2.2.1 rfl) c13 dL_figure_59 ?_
                  have s15 := hw.1
                  have hw := hw.2
                  refine cut_j (A := ∀ v16 : Int, v16 = (if ¬ (M 104 0 ((4 * p5) + 3)) = 0 then y6 else (M 109 0 y7)) → WI p l e 0 s m args below meth c G e0 α κ B Qm H locs 72 ls [.int (Int32.ofInt v16)]) (fun J17 => ?_) ?_
                  · refine sa_if_ne (tgt := 70) X.1 (hR.r 104 0 ((4 * p5) + 3)) dL_figure_60 (by decide) (fun hc => ?_) (fun hc => ?_)
                    · skip
                      refine lv_iload X.1.1 X.1.2.1 dL_figure_70 (lv_at hl 6 rfl) ?_
                      exact J17 (y6) (if_pos (c := ¬ (M 104 0 ((4 * p5) + 3)) = 0) hc).symm
                    · have hw := s15 hc
                      refine lv_aload_n X.1.1 X.1.2.1 dL_figure_63 rfl (lv_at hl 2 rfl) ?_
                      refine lv_iload X.1.1 X.1.2.1 dL_figure_64 (lv_at hl 7 rfl) ?_
                      have c14 := hw.1
                      have hw := hw.2
                      refine ra_109 X hR (okf X.2.2.1 rfl) c14 dL_figure_66 ?_
                      refine lv_goto (tgt := 72) X.1.1 X.1.2.1 dL_figure_67 (by decide) ?_
                      exact J17 ((M 109 0 y7)) (if_neg (c := ¬ (M 104 0 ((4 * p5) + 3)) = 0) (fun z => z hc)).symm
                  intro v16 hv16
                  subst hv16
                  exact J20 ((if ¬ (M 104 0 ((4 * p5) + 3)) = 0 then y6 else (M 109 0 y7))) (if_neg (c := (M 107 0 ((6 * y7) + 5)) < 0) (Int.not_lt.mpr hc)).symm
              intro v19 hv19
              subst hv19
              exact J23 ((if (M 107 0 ((6 * y7) + 5)) < 0 then y6 else (if ¬ (M 104 0 ((4 * p5) + 3)) = 0 then y6 else (M 109 0 y7)))) (if_neg (c := ¬ (M 107 0 ((6 * y7) + 1)) = p5) (fun z => z hc)).symm
          intro v22 hv22
          subst hv22
          exact J27 ((if ¬ (M 107 0 ((6 * y7) + 1)) = p5 then y6 else (if (M 107 0 ((6 * y7) + 5)) < 0 then y6 else (if ¬ (M 104 0 ((4 * p5) + 3)) = 0 then y6 else (M 109 0 y7))))) (if_neg (c := ¬ (M 107 0 (6 * y7)) = p4) (fun z => z hc)).symm
      intro v26 hv26
      subst hv26
      refine lv_istore (lv' := [(6, .int (Int32.ofInt (if ¬ (M 107 0 (6 * y7)) = p4 then y6 else (if ¬ (M 107 0 ((6 * y7) + 1)) = p5 then y6 else (if (M 107 0 ((6 * y7) + 5)) < 0 then y6 else (if ¬ (M 104 0 ((4 * p5) + 3)) = 0 then y6 else (M 109 0 y7))))))), (0, .ref (α 104 0)), (1, .ref (α 107 0)), (2, .ref (α 109 0)), (3, .ref (α 112 0)), (4, .int (Int32.ofInt p4)), (5, .int (Int32.ofInt p5)), (7, .int (Int32.ofInt y7))]) X.1.1 X.1.2.1 dL_figure_72 hl (by decide) rfl (fun ls hl => ?_)
      have c28 := hw.1
      have hw := hw.2
      refine lv_iinc (v := Int32.ofInt (y7 + 1)) (lv' := [(7, .int (Int32.ofInt (y7 + 1))), (6, .int (Int32.ofInt (if ¬ (M 107 0 (6 * y7)) = p4 then y6 else (if ¬ (M 107 0 ((6 * y7) + 1)) = p5 then y6 else (if (M 107 0 ((6 * y7) + 5)) < 0 then y6 else (if ¬ (M 104 0 ((4 * p5) + 3)) = 0 then y6 else (M 109 0 y7))))))), (0, .ref (α 104 0)), (1, .ref (α 107 0)), (2, .ref (α 109 0)), (3, .ref (α 112 0)), (4, .int (Int32.ofInt p4)), (5, .int (Int32.ofInt p5))]) X.1.1 X.1.2.1 dL_figure_74 hl (k := 7) rfl (Int32.ofInt_add _ _).symm (by decide) rfl (fun ls hl => ?_)
      refine lv_goto (tgt := 6) X.1.1 X.1.2.1 dL_figure_77 (by decide) ?_
      exact ih _ _ _ hw r25 c28 _ _ hR hS _ (lv_sub hl [2, 3, 4, 5, 6, 7, 1, 0] rfl)
set_option maxHeartbeats 4000000 in
set_option maxRecDepth 100000 in
theorem t_L_figure {p4 : Int} {p5 : Int} (X : CX p m c cL_figure 8 s args RL G B κ meth (some .int)) (hp4 : inR p4) (hp5 : inR p5) {M : Mem} {Qm : Int → Mem → Prop} (hw : wp_L_figure p4 p5 M Qm) (H : Heap) (locs : List Loc) (hR : Rp G e0 α κ B M H) (hS : va_S (fun q => B ≤ q) s.heap H locs) (ls : Array Slot) (hl : lv_has ls 8 [(0, .ref (α 104 0)), (1, .ref (α 107 0)), (2, .ref (α 109 0)), (3, .ref (α 112 0)), (4, .int (Int32.ofInt p4)), (5, .int (Int32.ofInt p5))]) : WI p l e 0 s m args below meth c G e0 α κ B Qm H locs 0 ls [] := by
  have hw : (∃ n29 : Nat, wp_L_figure_6 p4 p5 Qm n29 0 0 M) := hw
  refine sa_const X.1 dL_figure_0 ?_
  refine lv_istore (lv' := [(6, .int (Int32.ofInt 0)), (0, .ref (α 104 0)), (1, .ref (α 107 0)), (2, .ref (α 109 0)), (3, .ref (α 112 0)), (4, .int (Int32.ofInt p4)), (5, .int (Int32.ofInt p5))]) X.1.1 X.1.2.1 dL_figure_1 hl (by decide) rfl (fun ls hl => ?_)
  refine sa_const X.1 dL_figure_3 ?_
  refine lv_istore (lv' := [(7, .int (Int32.ofInt 0)), (6, .int (Int32.ofInt 0)), (0, .ref (α 104 0)), (1, .ref (α 107 0)), (2, .ref (α 109 0)), (3, .ref (α 112 0)), (4, .int (Int32.ofInt p4)), (5, .int (Int32.ofInt p5))]) X.1.1 X.1.2.1 dL_figure_4 hl (by decide) rfl (fun ls hl => ?_)
  obtain ⟨n29, hw⟩ := hw
  exact t_L_figure_6 X hp4 hp5 n29 _ _ _ hw (inR_c (a := 0) rfl) (inR_c (a := 0) rfl) _ _ hR hS _ (lv_sub hl [2, 3, 4, 5, 6, 7, 1, 0] rfl)
theorem m_L_figure {l : Launch} {G : Gx} {e0 : Nat} {α : Ax} {κ : Nat → Int} {B : Nat} {p4 : Int} {p5 : Int} (hκ : kOK κ) (hp4 : inR p4) (hp5 : inR p5) {M : Mem} {Qm : Int → Mem → Prop} (hw : wp_L_figure p4 p5 M Qm) : CI l yL_figure (Cond.code yL_figure cL_figure 8 (some .int)) 0 G e0 α κ B [.ref (α 104 0), .ref (α 107 0), .ref (α 109 0), .ref (α 112 0), .int (Int32.ofInt p4), .int (Int32.ofInt p5)] M Qm :=
  CI.mk hκ (by decide +kernel) rfl (Nat.le_of_ble_eq_true rfl) (lv := [(0, .ref (α 104 0)), (1, .ref (α 107 0)), (2, .ref (α 109 0)), (3, .ref (α 112 0)), (4, .int (Int32.ofInt p4)), (5, .int (Int32.ofInt p5))]) rfl (fun p e s m args below meth c ls X hR hS hl => t_L_figure X hp4 hp5 hw _ _ hR hS ls hl)
theorem cs_L_figure {cc : ByteArray} {nL : Nat} {own : String} {ret : Option FieldType} {idx pc : Nat} {p4 : Int} {p5 : Int} (X : CX p m c cc nL s args own G B κ meth ret) (hp4 : inR p4) (hp5 : inR p5) {kc : Nat} {R : Room} {cells slots : Nat} (hRr : RmOK R kc) (hcel : cells ≤ R.cells ∧ slots ≤ R.slots) (hk : 0 + 1 ≤ kc) {M : Mem} {H : Heap} {locs : List Loc} (hR : Rp G e0 α κ B M H) (hS : va_S (fun q => B ≤ q) s.heap H locs) (k1 : Cond.methodLink own idx yL_figure ∈ gw) {ls : Array Slot} (hml : ls.size = nL) {rest : List Value} (hd : decode cc pc = .ok (.invokestatic idx, 3)) (hrest : (rest.map fun v => v.category).sum ≤ 8) {Q : State → Prop} {Qm : Int → Mem → Prop} (hw : wp_L_figure p4 p5 M Qm) (kk : ∀ (r : Int) (M1 : Mem) (H1 : Heap) (locs1 : List Loc), Qm r M1 → inR r → Rp G e0 α κ B M1 H1 → va_S (fun q => B ≤ q) s.heap H1 locs1 → W p l e R s m args below meth c H1 locs1 cells slots Q (F0 m (pc + 3) ls (.int (Int32.ofInt r) :: rest))) : W p l e R s m args below meth c H locs cells slots Q (F0 m pc ls (.int (Int32.ofInt p5) :: .int (Int32.ofInt p4) :: .ref (α 112 0) :: .ref (α 109 0) :: .ref (α 107 0) :: .ref (α 104 0) :: rest)) :=
  sa_callSI 0 (n := 6) (As := [.ref (α 104 0), .ref (α 107 0), .ref (α 109 0), .ref (α 112 0), .int (Int32.ofInt p4), .int (Int32.ofInt p5)]) (rest := rest) X.1 X.2.1 hR hS (m_L_figure X.2.2.1 hp4 hp5 hw) k1 kw_1349 kw_37 kw_1350 ⟨by decide +kernel, by decide +kernel, by decide +kernel⟩ (rm_ok hRr hk (by decide)) rfl rfl hrest hml hd hcel kk
def wp_L_key_7 (p4 : Int) (p5 : Int) (p6 : Int) (Qm : Int → Mem → Prop) : Nat → Int → Int → Mem → Prop
  | 0 => fun _ _ _ => False
  | n + 1 => fun y7 y8 M => (((M 112 0 2) ≤ y8 → Qm y7 M) ∧ (y8 < (M 112 0 2) → (inR (6 * y8)) ∧ (0 ≤ (6 * y8) ∧ (6 * y8) < 60) ∧ ((M 107 0 (6 * y8)) = p4 → (inR (6 * y8)) ∧ (inR ((6 * y8) + 1)) ∧ (0 ≤ ((6 * y8) + 1) ∧ ((6 * y8) + 1) < 60) ∧ ((M 107 0 ((6 * y8) + 1)) = p5 → (inR (6 * y8)) ∧ (inR ((6 * y8) + 5)) ∧ (0 ≤ ((6 * y8) + 5) ∧ ((6 * y8) + 5) < 60) ∧ (0 ≤ (M 107 0 ((6 * y8) + 5)) → (inR (4 * p5)) ∧ (inR ((4 * p5) + 3)) ∧ (0 ≤ ((4 * p5) + 3) ∧ ((4 * p5) + 3) < 16) ∧ True) ∧ True) ∧ True) ∧ (¬ (if ¬ (M 107 0 (6 * y8)) = p4 then (0 : Int) else (if ¬ (M 107 0 ((6 * y8) + 1)) = p5 then (0 : Int) else (if (M 107 0 ((6 * y8) + 5)) < 0 then (0 : Int) else (if ¬ (M 104 0 ((4 * p5) + 3)) = 0 then (0 : Int) else 1)))) = 0 → (p6 = 0 → (0 ≤ y8 ∧ y8 < 10) ∧ True) ∧ (¬ p6 = 0 → (0 ≤ y8 ∧ y8 < 10) ∧ (inR (-(M 109 0 y8))) ∧ True) ∧ (inR (if p6 = 0 then (M 109 0 y8) else (-(M 109 0 y8)))) ∧ True) ∧ (inR (if (if ¬ (M 107 0 (6 * y8)) = p4 then (0 : Int) else (if ¬ (M 107 0 ((6 * y8) + 1)) = p5 then (0 : Int) else (if (M 107 0 ((6 * y8) + 5)) < 0 then (0 : Int) else (if ¬ (M 104 0 ((4 * p5) + 3)) = 0 then (0 : Int) else 1)))) = 0 then y7 else (if p6 = 0 then (M 109 0 y8) else (-(M 109 0 y8))))) ∧ (inR (y8 + 1)) ∧ wp_L_key_7 p4 p5 p6 Qm n (if (if ¬ (M 107 0 (6 * y8)) = p4 then (0 : Int) else (if ¬ (M 107 0 ((6 * y8) + 1)) = p5 then (0 : Int) else (if (M 107 0 ((6 * y8) + 5)) < 0 then (0 : Int) else (if ¬ (M 104 0 ((4 * p5) + 3)) = 0 then (0 : Int) else 1)))) = 0 then y7 else (if p6 = 0 then (M 109 0 y8) else (-(M 109 0 y8)))) (y8 + 1) M))
def wp_L_key (p4 : Int) (p5 : Int) (p6 : Int) (M : Mem) (Qm : Int → Mem → Prop) : Prop := (∃ n39 : Nat, wp_L_key_7 p4 p5 p6 Qm n39 2000000 0 M)
set_option maxHeartbeats 4000000 in
set_option maxRecDepth 100000 in
theorem t_L_key_7 {p4 : Int} {p5 : Int} {p6 : Int} (X : CX p m c cL_key 10 s args RL G B κ meth (some .int)) (hp4 : inR p4) (hp5 : inR p5) (hp6 : inR p6) {Qm : Int → Mem → Prop} : ∀ n : Nat, ∀ y7 : Int, ∀ y8 : Int, ∀ M : Mem, wp_L_key_7 p4 p5 p6 Qm n y7 y8 M → inR y7 → inR y8 → ∀ (H : Heap) (locs : List Loc), Rp G e0 α κ B M H → va_S (fun q => B ≤ q) s.heap H locs → ∀ (ls : Array Slot), lv_has ls 10 [(0, .ref (α 104 0)), (1, .ref (α 107 0)), (2, .ref (α 109 0)), (3, .ref (α 112 0)), (4, .int (Int32.ofInt p4)), (5, .int (Int32.ofInt p5)), (6, .int (Int32.ofInt p6)), (7, .int (Int32.ofInt y7)), (8, .int (Int32.ofInt y8))] → WI p l e 0 s m args below meth c G e0 α κ B Qm H locs 7 ls [] := by
  intro n
  induction n with
  | zero =>
    intro y7 y8 M hw hy7 hy8 H locs hR hS ls hl
    exact hw.elim
  | succ n ih =>
    intro y7 y8 M hw hy7 hy8 H locs hR hS ls hl
    have hw : (((M 112 0 2) ≤ y8 → Qm y7 M) ∧ (y8 < (M 112 0 2) → (inR (6 * y8)) ∧ (0 ≤ (6 * y8) ∧ (6 * y8) < 60) ∧ ((M 107 0 (6 * y8)) = p4 → (inR (6 * y8)) ∧ (inR ((6 * y8) + 1)) ∧ (0 ≤ ((6 * y8) + 1) ∧ ((6 * y8) + 1) < 60) ∧ ((M 107 0 ((6 * y8) + 1)) = p5 → (inR (6 * y8)) ∧ (inR ((6 * y8) + 5)) ∧ (0 ≤ ((6 * y8) + 5) ∧ ((6 * y8) + 5) < 60) ∧ (0 ≤ (M 107 0 ((6 * y8) + 5)) → (inR (4 * p5)) ∧ (inR ((4 * p5) + 3)) ∧ (0 ≤ ((4 * p5) + 3) ∧ ((4 * p5) + 3) < 16) ∧ True) ∧ True) ∧ True) ∧ (¬ (if ¬ (M 107 0 (6 * y8)) = p4 then (0 : Int) else (if ¬ (M 107 0 ((6 * y8) + 1)) = p5 then (0 : Int) else (if (M 107 0 ((6 * y8) + 5)) < 0 then (0 : Int) else (if ¬ (M 104 0 ((4 * p5) + 3)) = 0 then (0 : Int) else 1)))) = 0 → (p6 = 0 → (0 ≤ y8 ∧ y8 < 10) ∧ True) ∧ (¬ p6 = 0 → (0 ≤ y8 ∧ y8 < 10) ∧ (inR (-(M 109 0 y8))) ∧ True) ∧ (inR (if p6 = 0 then (M 109 0 y8) else (-(M 109 0 y8)))) ∧ True) ∧ (inR (if (if ¬ (M 107 0 (6 * y8)) = p4 then (0 : Int) else (if ¬ (M 107 0 ((6 * y8) + 1)) = p5 then (0 : Int) else (if (M 107 0 ((6 * y8) + 5)) < 0 then (0 : Int) else (if ¬ (M 104 0 ((4 * p5) + 3)) = 0 then (0 : Int) else 1)))) = 0 then y7 else (if p6 = 0 then (M 109 0 y8) else (-(M 109 0 y8))))) ∧ (inR (y8 + 1)) ∧ wp_L_key_7 p4 p5 p6 Qm n (if (if ¬ (M 107 0 (6 * y8)) = p4 then (0 : Int) else (if ¬ (M 107 0 ((6 * y8) + 1)) = p5 then (0 : Int) else (if (M 107 0 ((6 * y8) + 5)) < 0 then (0 : Int) else (if ¬ (M 104 0 ((4 * p5) + 3)) = 0 then (0 : Int) else 1)))) = 0 then y7 else (if p6 = 0 then (M 109 0 y8) else (-(M 109 0 y8)))) (y8 + 1) M)) := hw
    refine lv_iload X.1.1 X.1.2.1 dL_key_7 (lv_at hl 8 rfl) ?_
    refine lv_aload_n X.1.1 X.1.2.1 dL_key_9 rfl (lv_at hl 3 rfl) ?_
    refine sa_const X.1 dL_key_10 ?_
    refine ra_112 X hR (okf X.2.2.1 rfl) ⟨by decide, by decide⟩ dL_key_11 ?_
    have r1 := hR.r 112 0 2
    refine sa_icmp_ge (tgt := 106) X.1 hy8 r1 dL_key_12 (by decide) (fun hc => ?_) (fun hc => ?_)
    · have hw := hw.1 hc
      refine lv_iload X.1.1 X.1.2.1 dL_key_106 (lv_at hl 7 rfl) ?_
      exact sa_iret X.1 X.2.2.2.1 X.2.2.2.2 hR hS hy7 hw dL_key_108
    · have hw := hw.2 hc
      refine lv_aload_n X.1.1 X.1.2.1 dL_key_15 rfl (lv_at hl 1 rfl) ?_
      refine sa_bipush X.1 dL_key_16 (by decide) ?_
      refine lv_iload X.1.1 X.1.2.1 dL_key_18 (lv_at hl 8 rfl) ?_
      have c2 := hw.1
      have hw := hw.2
      refine sa_imul X.1 dL_key_20 ?_
      have c3 := hw.1
      have hw := hw.2
      refine ra_107 X hR (okf X.2.2.1 rfl) c3 dL_key_21 ?_
      have r4 := hR.r 107 0 (6 * y8)
      refine lv_iload X.1.1 X.1.2.1 dL_key_22 (lv_at hl 4 rfl) ?_
      have s22 := hw.1
      have hw := hw.2
      have r23 := inR_ite (c := ¬ (M 107 0 (6 * y8)) = p4) (inR_c (a := 0) rfl) (inR_ite (c := ¬ (M 107 0 ((6 * y8) + 1)) = p5) (inR_c (a := 0) rfl) (inR_ite (c := (M 107 0 ((6 * y8) + 5)) < 0) (inR_c (a := 0) rfl) (inR_ite (c := ¬ (M 104 0 ((4 * p5) + 3)) = 0) (inR_c (a := 0) rfl) (inR_c (a := 1) rfl))))
      refine cut_j (A := ∀ v24 : Int, v24 = (if ¬ (M 107 0 (6 * y8)) = p4 then (0 : Int) else (if ¬ (M 107 0 ((6 * y8) + 1)) = p5 then (0 : Int) else (if (M 107 0 ((6 * y8) + 5)) < 0 then (0 : Int) else (if ¬ (M 104 0 ((4 * p5) + 3)) = 0 then (0 : Int) else 1)))) → WI p l e 0 s m args below meth c G e0 α κ B Qm H locs 69 ls [.int (Int32.ofInt v24)]) (fun J25 => ?_) ?_
      · refine sa_icmp_ne (tgt := 68) X.1 r4 hp4 dL_key_24 (by decide) (fun hc => ?_) (fun hc => ?_)
        · skip
          refine sa_const X.1 dL_key_68 ?_
          exact J25 (0) (if_pos (c := ¬ (M 107 0 (6 * y8)) = p4) hc).symm
        · have hw := s22 hc
          refine lv_aload_n X.1.1 X.1.2.1 dL_key_27 rfl (lv_at hl 1 rfl) ?_
          refine sa_bipush X.1 dL_key_28 (by decide) ?_
          refine lv_iload X.1.1 X.1.2.1 dL_key_30 (lv_at hl 8 rfl) ?_
          have c5 := hw.1
          have hw := hw.2
          refine sa_imul X.1 dL_key_32 ?_
          refine sa_const X.1 dL_key_33 ?_
          have c6 := hw.1
          have hw := hw.2
          refine sa_iadd X.1 dL_key_34 ?_
          have c7 := hw.1
          have hw := hw.2
          refine ra_107 X hR (okf X.2.2.1 rfl) c7 dL_key_35 ?_
          refine lv_iload X.1.1 X.1.2.1 dL_key_36 (lv_at hl 5 rfl) ?_
          have s19 := hw.1
          have hw := hw.2
          refine cut_j (A := ∀ v20 : Int, v20 = (if ¬ (M 107 0 ((6 * y8) + 1)) = p5 then (0 : Int) else (if (M 107 0 ((6 * y8) + 5)) < 0 then (0 : Int) else (if ¬ (M 104 0 ((4 * p5) + 3)) = 0 then (0 : Int) else 1))) → WI p l e 0 s m args below meth c G e0 α κ B Qm H locs 69 ls [.int (Int32.ofInt v20)]) (fun J21 => ?_) ?_
          · refine sa_icmp_ne (tgt := 68) X.1 (hR.r 107 0 ((6 * y8) + 1)) hp5 dL_key_38 (by decide) (fun hc => ?_) (fun hc => ?_)
            · skip
              refine sa_const X.1 dL_key_68 ?_
              exact J21 (0) (if_pos (c := ¬ (M 107 0 ((6 * y8) + 1)) = p5) hc).symm
            · have hw := s19 hc
              refine lv_aload_n X.1.1 X.1.2.1 dL_key_41 rfl (lv_at hl 1 rfl) ?_
              refine sa_bipush X.1 dL_key_42 (by decide) ?_
              refine lv_iload X.1.1 X.1.2.1 dL_key_44 (lv_at hl 8 rfl) ?_
              have c8 := hw.1
              have hw := hw.2
              refine sa_imul X.1 dL_key_46 ?_
              refine sa_const X.1 dL_key_47 ?_
              have c9 := hw.1
              have hw := hw.2
              refine sa_iadd X.1 dL_key_48 ?_
              have c10 := hw.1
              have hw := hw.2
              refine ra_107 X hR (okf X.2.2.1 rfl) c10 dL_key_49 ?_
              have s16 := hw.1
              have hw := hw.2
              refine cut_j (A := ∀ v17 : Int, v17 = (if (M 107 0 ((6 * y8) + 5)) < 0 then (0 : Int) else (if ¬ (M 104 0 ((4 * p5) + 3)) = 0 then (0 : Int) else 1)) → WI p l e 0 s m args below meth c G e0 α κ B Qm H locs 69 ls [.int (Int32.ofInt v17)]) (fun J18 => ?_) ?_
              · refine sa_if_lt (tgt := 68) X.1 (hR.r 107 0 ((6 * y8) + 5)) dL_key_50 (by decide) (fun hc => ?_) (fun hc => ?_)
                · skip
                  refine sa_const X.1 dL_key_68 ?_
                  exact J18 (0) (if_pos (c := (M 107 0 ((6 * y8) + 5)) < 0) hc).symm
                · have hw := s16 hc
                  refine lv_aload_n X.1.1 X.1.2.1 dL_key_53 rfl (lv_at hl 0 rfl) ?_
                  refine sa_const X.1 dL_key_54 ?_
                  refine lv_iload X.1.1 X.1.2.1 dL_key_55 (lv_at hl 5 rfl) ?_
                  have c11 := hw.1
                  have hw := hw.2
                  refine sa_imul X.1 dL_key_57 ?_
                  refine sa_const X.1 dL_key_58 ?_
                  have c12 := hw.1
                  have hw := hw.2
                  refine sa_iadd X.1 dL_key_59 ?_
                  have c13 := hw.1
                  have hw := hw.2
                  refine ra_104 X hR (okf X.2.2.1 rfl) c13 dL_key_60 ?_
                  refine cut_j (A := ∀ v14 : Int, v14 = (if ¬ (M 104 0 ((4 * p5) + 3)) = 0 then (0 : Int) else 1) → WI p l e 0 s m args below meth c G e0 α κ B Qm H locs 69 ls [.int (Int32.ofInt v14)]) (fun J15 => ?_) ?_
                  · refine sa_if_ne (tgt := 68) X.1 (hR.r 104 0 ((4 * p5) + 3)) dL_key_61 (by decide) (fun hc => ?_) (fun hc => ?_)
                    · skip
                      refine sa_const X.1 dL_key_68 ?_
                      exact J15 (0) (if_pos (c := ¬ (M 104 0 ((4 * p5) + 3)) = 0) hc).symm
                    · skip
                      refine sa_const X.1 dL_key_64 ?_
                      refine lv_goto (tgt := 69) X.1.1 X.1.2.1 dL_key_65 (by decide) ?_
                      exact J15 (1) (if_neg (c := ¬ (M 104 0 ((4 * p5) + 3)) = 0) (fun z => z hc)).symm
                  intro v14 hv14
                  subst hv14
                  exact J18 ((if ¬ (M 104 0 ((4 * p5) + 3)) = 0 then (0 : Int) else 1)) (if_neg (c := (M 107 0 ((6 * y8) + 5)) < 0) (Int.not_lt.mpr hc)).symm
              intro v17 hv17
              subst hv17
              exact J21 ((if (M 107 0 ((6 * y8) + 5)) < 0 then (0 : Int) else (if ¬ (M 104 0 ((4 * p5) + 3)) = 0 then (0 : Int) else 1))) (if_neg (c := ¬ (M 107 0 ((6 * y8) + 1)) = p5) (fun z => z hc)).symm
          intro v20 hv20
          subst hv20
          exact J25 ((if ¬ (M 107 0 ((6 * y8) + 1)) = p5 then (0 : Int) else (if (M 107 0 ((6 * y8) + 5)) < 0 then (0 : Int) else (if ¬ (M 104 0 ((4 * p5) + 3)) = 0 then (0 : Int) else 1)))) (if_neg (c := ¬ (M 107 0 (6 * y8)) = p4) (fun z => z hc)).symm
      intro v24 hv24
      subst hv24
      refine lv_istore (lv' := [(9, .int (Int32.ofInt (if ¬ (M 107 0 (6 * y8)) = p4 then (0 : Int) else (if ¬ (M 107 0 ((6 * y8) + 1)) = p5 then (0 : Int) else (if (M 107 0 ((6 * y8) + 5)) < 0 then (0 : Int) else (if ¬ (M 104 0 ((4 * p5) + 3)) = 0 then (0 : Int) else 1)))))), (0, .ref (α 104 0)), (1, .ref (α 107 0)), (2, .ref (α 109 0)), (3, .ref (α 112 0)), (4, .int (Int32.ofInt p4)), (5, .int (Int32.ofInt p5)), (6, .int (Int32.ofInt p6)), (7, .int (Int32.ofInt y7)), (8, .int (Int32.ofInt y8))]) X.1.1 X.1.2.1 dL_key_69 hl (by decide) rfl (fun ls hl => ?_)
      refine lv_iload X.1.1 X.1.2.1 dL_key_71 (lv_at hl 0 rfl) ?_
      have s34 := hw.1
      have hw := hw.2
      have c35 := hw.1
      have hw := hw.2
      refine cut_j (A := ∀ v36 : Int, v36 = (if (if ¬ (M 107 0 (6 * y8)) = p4 then (0 : Int) else (if ¬ (M 107 0 ((6 * y8) + 1)) = p5 then (0 : Int) else (if (M 107 0 ((6 * y8) + 5)) < 0 then (0 : Int) else (if ¬ (M 104 0 ((4 * p5) + 3)) = 0 then (0 : Int) else 1)))) = 0 then y7 else (if p6 = 0 then (M 109 0 y8) else (-(M 109 0 y8)))) → WI p l e 0 s m args below meth c G e0 α κ B Qm H locs 98 ls [.int (Int32.ofInt v36)]) (fun J37 => ?_) ?_
      · refine sa_if_eq (tgt := 96) X.1 r23 dL_key_73 (by decide) (fun hc => ?_) (fun hc => ?_)
        · skip
          refine lv_iload X.1.1 X.1.2.1 dL_key_96 (lv_at hl 8 rfl) ?_
          exact J37 (y7) (if_pos (c := (if ¬ (M 107 0 (6 * y8)) = p4 then (0 : Int) else (if ¬ (M 107 0 ((6 * y8) + 1)) = p5 then (0 : Int) else (if (M 107 0 ((6 * y8) + 5)) < 0 then (0 : Int) else (if ¬ (M 104 0 ((4 * p5) + 3)) = 0 then (0 : Int) else 1)))) = 0) hc).symm
        · have hw := s34 hc
          refine lv_iload X.1.1 X.1.2.1 dL_key_76 (lv_at hl 7 rfl) ?_
          have s29 := hw.1
          have hw := hw.2
          have s30 := hw.1
          have hw := hw.2
          have c31 := hw.1
          have hw := hw.2
          refine cut_j (A := ∀ v32 : Int, v32 = (if p6 = 0 then (M 109 0 y8) else (-(M 109 0 y8))) → WI p l e 0 s m args below meth c G e0 α κ B Qm H locs 98 ls [.int (Int32.ofInt v32)]) (fun J33 => ?_) ?_
          · refine sa_if_eq (tgt := 89) X.1 hp6 dL_key_78 (by decide) (fun hc => ?_) (fun hc => ?_)
            · have hw := s29 hc
              refine lv_aload_n X.1.1 X.1.2.1 dL_key_89 rfl (lv_at hl 3 rfl) ?_
              refine lv_iload X.1.1 X.1.2.1 dL_key_90 (lv_at hl 9 rfl) ?_
              have c26 := hw.1
              have hw := hw.2
              refine ra_109 X hR (okf X.2.2.1 rfl) c26 dL_key_92 ?_
              refine lv_goto (tgt := 98) X.1.1 X.1.2.1 dL_key_93 (by decide) ?_
              exact J33 ((M 109 0 y8)) (if_pos (c := p6 = 0) hc).symm
            · have hw := s30 hc
              refine lv_aload_n X.1.1 X.1.2.1 dL_key_81 rfl (lv_at hl 3 rfl) ?_
              refine lv_iload X.1.1 X.1.2.1 dL_key_82 (lv_at hl 9 rfl) ?_
              have c27 := hw.1
              have hw := hw.2
              refine ra_109 X hR (okf X.2.2.1 rfl) c27 dL_key_84 ?_
              have c28 := hw.1
              have hw := hw.2
              refine sa_ineg X.1 dL_key_85 ?_
              refine lv_goto (tgt := 98) X.1.1 X.1.2.1 dL_key_86 (by decide) ?_
              exact J33 ((-(M 109 0 y8))) (if_neg (c := p6 = 0) hc).symm
          intro v32 hv32
          subst hv32
          exact J37 ((if p6 = 0 then (M 109 0 y8) else (-(M 109 0 y8)))) (if_neg (c := (if ¬ (M 107 0 (6 * y8)) = p4 then (0 : Int) else (if ¬ (M 107 0 ((6 * y8) + 1)) = p5 then (0 : Int) else (if (M 107 0 ((6 * y8) + 5)) < 0 then (0 : Int) else (if ¬ (M 104 0 ((4 * p5) + 3)) = 0 then (0 : Int) else 1)))) = 0) hc).symm
      intro v36 hv36
      subst hv36
      refine lv_istore (lv' := [(7, .int (Int32.ofInt (if (if ¬ (M 107 0 (6 * y8)) = p4 then (0 : Int) else (if ¬ (M 107 0 ((6 * y8) + 1)) = p5 then (0 : Int) else (if (M 107 0 ((6 * y8) + 5)) < 0 then (0 : Int) else (if ¬ (M 104 0 ((4 * p5) + 3)) = 0 then (0 : Int) else 1)))) = 0 then y7 else (if p6 = 0 then (M 109 0 y8) else (-(M 109 0 y8)))))), (9, .int (Int32.ofInt (if ¬ (M 107 0 (6 * y8)) = p4 then (0 : Int) else (if ¬ (M 107 0 ((6 * y8) + 1)) = p5 then (0 : Int) else (if (M 107 0 ((6 * y8) + 5)) < 0 then (0 : Int) else (if ¬ (M 104 0 ((4 * p5) + 3)) = 0 then (0 : Int) else 1)))))), (0, .ref (α 104 0)), (1, .ref (α 107 0)), (2, .ref (α 109 0)), (3, .ref (α 112 0)), (4, .int (Int32.ofInt p4)), (5, .int (Int32.ofInt p5)), (6, .int (Int32.ofInt p6)), (8, .int (Int32.ofInt y8))]) X.1.1 X.1.2.1 dL_key_98 hl (by decide) rfl (fun ls hl => ?_)
      have c38 := hw.1
      have hw := hw.2
      refine lv_iinc (v := Int32.ofInt (y8 + 1)) (lv' := [(8, .int (Int32.ofInt (y8 + 1))), (7, .int (Int32.ofInt (if (if ¬ (M 107 0 (6 * y8)) = p4 then (0 : Int) else (if ¬ (M 107 0 ((6 * y8) + 1)) = p5 then (0 : Int) else (if (M 107 0 ((6 * y8) + 5)) < 0 then (0 : Int) else (if ¬ (M 104 0 ((4 * p5) + 3)) = 0 then (0 : Int) else 1)))) = 0 then y7 else (if p6 = 0 then (M 109 0 y8) else (-(M 109 0 y8)))))), (9, .int (Int32.ofInt (if ¬ (M 107 0 (6 * y8)) = p4 then (0 : Int) else (if ¬ (M 107 0 ((6 * y8) + 1)) = p5 then (0 : Int) else (if (M 107 0 ((6 * y8) + 5)) < 0 then (0 : Int) else (if ¬ (M 104 0 ((4 * p5) + 3)) = 0 then (0 : Int) else 1)))))), (0, .ref (α 104 0)), (1, .ref (α 107 0)), (2, .ref (α 109 0)), (3, .ref (α 112 0)), (4, .int (Int32.ofInt p4)), (5, .int (Int32.ofInt p5)), (6, .int (Int32.ofInt p6))]) X.1.1 X.1.2.1 dL_key_100 hl (k := 9) rfl (Int32.ofInt_add _ _).symm (by decide) rfl (fun ls hl => ?_)
      refine lv_goto (tgt := 7) X.1.1 X.1.2.1 dL_key_103 (by decide) ?_
      exact ih _ _ _ hw c35 c38 _ _ hR hS _ (lv_sub hl [3, 4, 5, 6, 7, 8, 9, 1, 0] rfl)
set_option maxHeartbeats 4000000 in
set_option maxRecDepth 100000 in
theorem t_L_key {p4 : Int} {p5 : Int} {p6 : Int} (X : CX p m c cL_key 10 s args RL G B κ meth (some .int)) (hp4 : inR p4) (hp5 : inR p5) (hp6 : inR p6) {M : Mem} {Qm : Int → Mem → Prop} (hw : wp_L_key p4 p5 p6 M Qm) (H : Heap) (locs : List Loc) (hR : Rp G e0 α κ B M H) (hS : va_S (fun q => B ≤ q) s.heap H locs) (ls : Array Slot) (hl : lv_has ls 10 [(0, .ref (α 104 0)), (1, .ref (α 107 0)), (2, .ref (α 109 0)), (3, .ref (α 112 0)), (4, .int (Int32.ofInt p4)), (5, .int (Int32.ofInt p5)), (6, .int (Int32.ofInt p6))]) : WI p l e 0 s m args below meth c G e0 α κ B Qm H locs 0 ls [] := by
  have hw : (∃ n39 : Nat, wp_L_key_7 p4 p5 p6 Qm n39 2000000 0 M) := hw
  refine sa_ldc (n := 2000000) X.1 (by decide) kw_1128 dL_key_0 ?_
  refine lv_istore (lv' := [(7, .int (Int32.ofInt 2000000)), (0, .ref (α 104 0)), (1, .ref (α 107 0)), (2, .ref (α 109 0)), (3, .ref (α 112 0)), (4, .int (Int32.ofInt p4)), (5, .int (Int32.ofInt p5)), (6, .int (Int32.ofInt p6))]) X.1.1 X.1.2.1 dL_key_2 hl (by decide) rfl (fun ls hl => ?_)
  refine sa_const X.1 dL_key_4 ?_
  refine lv_istore (lv' := [(8, .int (Int32.ofInt 0)), (7, .int (Int32.ofInt 2000000)), (0, .ref (α 104 0)), (1, .ref (α 107 0)), (2, .ref (α 109 0)), (3, .ref (α 112 0)), (4, .int (Int32.ofInt p4)), (5, .int (Int32.ofInt p5)), (6, .int (Int32.ofInt p6))]) X.1.1 X.1.2.1 dL_key_5 hl (by decide) rfl (fun ls hl => ?_)
  obtain ⟨n39, hw⟩ := hw
  exact t_L_key_7 X hp4 hp5 hp6 n39 _ _ _ hw (inR_c (a := 2000000) rfl) (inR_c (a := 0) rfl) _ _ hR hS _ (lv_sub hl [2, 3, 4, 5, 6, 7, 8, 1, 0] rfl)
theorem m_L_key {l : Launch} {G : Gx} {e0 : Nat} {α : Ax} {κ : Nat → Int} {B : Nat} {p4 : Int} {p5 : Int} {p6 : Int} (hκ : kOK κ) (hp4 : inR p4) (hp5 : inR p5) (hp6 : inR p6) {M : Mem} {Qm : Int → Mem → Prop} (hw : wp_L_key p4 p5 p6 M Qm) : CI l yL_key (Cond.code yL_key cL_key 10 (some .int)) 0 G e0 α κ B [.ref (α 104 0), .ref (α 107 0), .ref (α 109 0), .ref (α 112 0), .int (Int32.ofInt p4), .int (Int32.ofInt p5), .int (Int32.ofInt p6)] M Qm :=
  CI.mk hκ (by decide +kernel) rfl (Nat.le_of_ble_eq_true rfl) (lv := [(0, .ref (α 104 0)), (1, .ref (α 107 0)), (2, .ref (α 109 0)), (3, .ref (α 112 0)), (4, .int (Int32.ofInt p4)), (5, .int (Int32.ofInt p5)), (6, .int (Int32.ofInt p6))]) rfl (fun p e s m args below meth c ls X hR hS hl => t_L_key X hp4 hp5 hp6 hw _ _ hR hS ls hl)
theorem cs_L_key {cc : ByteArray} {nL : Nat} {own : String} {ret : Option FieldType} {idx pc : Nat} {p4 : Int} {p5 : Int} {p6 : Int} (X : CX p m c cc nL s args own G B κ meth ret) (hp4 : inR p4) (hp5 : inR p5) (hp6 : inR p6) {kc : Nat} {R : Room} {cells slots : Nat} (hRr : RmOK R kc) (hcel : cells ≤ R.cells ∧ slots ≤ R.slots) (hk : 0 + 1 ≤ kc) {M : Mem} {H : Heap} {locs : List Loc} (hR : Rp G e0 α κ B M H) (hS : va_S (fun q => B ≤ q) s.heap H locs) (k1 : Cond.methodLink own idx yL_key ∈ gw) {ls : Array Slot} (hml : ls.size = nL) {rest : List Value} (hd : decode cc pc = .ok (.invokestatic idx, 3)) (hrest : (rest.map fun v => v.category).sum ≤ 8) {Q : State → Prop} {Qm : Int → Mem → Prop} (hw : wp_L_key p4 p5 p6 M Qm) (kk : ∀ (r : Int) (M1 : Mem) (H1 : Heap) (locs1 : List Loc), Qm r M1 → inR r → Rp G e0 α κ B M1 H1 → va_S (fun q => B ≤ q) s.heap H1 locs1 → W p l e R s m args below meth c H1 locs1 cells slots Q (F0 m (pc + 3) ls (.int (Int32.ofInt r) :: rest))) : W p l e R s m args below meth c H locs cells slots Q (F0 m pc ls (.int (Int32.ofInt p6) :: .int (Int32.ofInt p5) :: .int (Int32.ofInt p4) :: .ref (α 112 0) :: .ref (α 109 0) :: .ref (α 107 0) :: .ref (α 104 0) :: rest)) :=
  sa_callSI 0 (n := 7) (As := [.ref (α 104 0), .ref (α 107 0), .ref (α 109 0), .ref (α 112 0), .int (Int32.ofInt p4), .int (Int32.ofInt p5), .int (Int32.ofInt p6)]) (rest := rest) X.1 X.2.1 hR hS (m_L_key X.2.2.1 hp4 hp5 hp6 hw) k1 kw_1126 kw_37 kw_1127 ⟨by decide +kernel, by decide +kernel, by decide +kernel⟩ (rm_ok hRr hk (by decide)) rfl rfl hrest hml hd hcel kk
def wp_L_ahead_5 (p1 : Int) (p2 : Int) (Qm : Int → Mem → Prop) : Nat → Int → Int → Mem → Prop
  | 0 => fun _ _ _ => False
  | n + 1 => fun y3 y4 M => ((p2 ≤ y4 → Qm y3 M) ∧ (y4 < p2 → (0 ≤ y4 ∧ y4 < 10) ∧ (inR (y4 + 1)) ∧ wp_L_ahead_5 p1 p2 Qm n (if ¬ (M 106 0 y4) = p1 then y3 else y4) (y4 + 1) M))
def wp_L_ahead (p1 : Int) (p2 : Int) (M : Mem) (Qm : Int → Mem → Prop) : Prop := (∃ n7 : Nat, wp_L_ahead_5 p1 p2 Qm n7 (-1) 0 M)
set_option maxHeartbeats 4000000 in
set_option maxRecDepth 100000 in
theorem t_L_ahead_5 {p1 : Int} {p2 : Int} (X : CX p m c cL_ahead 5 s args RL G B κ meth (some .int)) (hp1 : inR p1) (hp2 : inR p2) {Qm : Int → Mem → Prop} : ∀ n : Nat, ∀ y3 : Int, ∀ y4 : Int, ∀ M : Mem, wp_L_ahead_5 p1 p2 Qm n y3 y4 M → inR y3 → inR y4 → ∀ (H : Heap) (locs : List Loc), Rp G e0 α κ B M H → va_S (fun q => B ≤ q) s.heap H locs → ∀ (ls : Array Slot), lv_has ls 5 [(0, .ref (α 106 0)), (1, .int (Int32.ofInt p1)), (2, .int (Int32.ofInt p2)), (3, .int (Int32.ofInt y3)), (4, .int (Int32.ofInt y4))] → WI p l e 0 s m args below meth c G e0 α κ B Qm H locs 5 ls [] := by
  intro n
  induction n with
  | zero =>
    intro y3 y4 M hw hy3 hy4 H locs hR hS ls hl
    exact hw.elim
  | succ n ih =>
    intro y3 y4 M hw hy3 hy4 H locs hR hS ls hl
    have hw : ((p2 ≤ y4 → Qm y3 M) ∧ (y4 < p2 → (0 ≤ y4 ∧ y4 < 10) ∧ (inR (y4 + 1)) ∧ wp_L_ahead_5 p1 p2 Qm n (if ¬ (M 106 0 y4) = p1 then y3 else y4) (y4 + 1) M)) := hw
    refine lv_iload X.1.1 X.1.2.1 dL_ahead_5 (lv_at hl 4 rfl) ?_
    refine lv_iload_n X.1.1 X.1.2.1 dL_ahead_7 rfl (lv_at hl 2 rfl) ?_
    refine sa_icmp_ge (tgt := 32) X.1 hy4 hp2 dL_ahead_8 (by decide) (fun hc => ?_) (fun hc => ?_)
    · have hw := hw.1 hc
      refine lv_iload_n X.1.1 X.1.2.1 dL_ahead_32 rfl (lv_at hl 3 rfl) ?_
      exact sa_iret X.1 X.2.2.2.1 X.2.2.2.2 hR hS hy3 hw dL_ahead_33
    · have hw := hw.2 hc
      refine lv_aload_n X.1.1 X.1.2.1 dL_ahead_11 rfl (lv_at hl 0 rfl) ?_
      refine lv_iload X.1.1 X.1.2.1 dL_ahead_12 (lv_at hl 4 rfl) ?_
      have c1 := hw.1
      have hw := hw.2
      refine ra_106 X hR (okf X.2.2.1 rfl) c1 dL_ahead_14 ?_
      have r2 := hR.r 106 0 y4
      refine lv_iload_n X.1.1 X.1.2.1 dL_ahead_15 rfl (lv_at hl 1 rfl) ?_
      have r3 := inR_ite (c := ¬ (M 106 0 y4) = p1) hy3 hy4
      refine cut_j (A := ∀ v4 : Int, v4 = (if ¬ (M 106 0 y4) = p1 then y3 else y4) → WI p l e 0 s m args below meth c G e0 α κ B Qm H locs 25 ls [.int (Int32.ofInt v4)]) (fun J5 => ?_) ?_
      · refine sa_icmp_ne (tgt := 24) X.1 r2 hp1 dL_ahead_16 (by decide) (fun hc => ?_) (fun hc => ?_)
        · skip
          refine lv_iload_n X.1.1 X.1.2.1 dL_ahead_24 rfl (lv_at hl 3 rfl) ?_
          exact J5 (y3) (if_pos (c := ¬ (M 106 0 y4) = p1) hc).symm
        · skip
          refine lv_iload X.1.1 X.1.2.1 dL_ahead_19 (lv_at hl 4 rfl) ?_
          refine lv_goto (tgt := 25) X.1.1 X.1.2.1 dL_ahead_21 (by decide) ?_
          exact J5 (y4) (if_neg (c := ¬ (M 106 0 y4) = p1) (fun z => z hc)).symm
      intro v4 hv4
      subst hv4
      refine lv_istore_n (lv' := [(3, .int (Int32.ofInt (if ¬ (M 106 0 y4) = p1 then y3 else y4))), (0, .ref (α 106 0)), (1, .int (Int32.ofInt p1)), (2, .int (Int32.ofInt p2)), (4, .int (Int32.ofInt y4))]) X.1.1 X.1.2.1 dL_ahead_25 rfl hl (by decide) rfl (fun ls hl => ?_)
      have c6 := hw.1
      have hw := hw.2
      refine lv_iinc (v := Int32.ofInt (y4 + 1)) (lv' := [(4, .int (Int32.ofInt (y4 + 1))), (3, .int (Int32.ofInt (if ¬ (M 106 0 y4) = p1 then y3 else y4))), (0, .ref (α 106 0)), (1, .int (Int32.ofInt p1)), (2, .int (Int32.ofInt p2))]) X.1.1 X.1.2.1 dL_ahead_26 hl (k := 4) rfl (Int32.ofInt_add _ _).symm (by decide) rfl (fun ls hl => ?_)
      refine lv_goto (tgt := 5) X.1.1 X.1.2.1 dL_ahead_29 (by decide) ?_
      exact ih _ _ _ hw r3 c6 _ _ hR hS _ (lv_sub hl [2, 3, 4, 1, 0] rfl)
set_option maxHeartbeats 4000000 in
set_option maxRecDepth 100000 in
theorem t_L_ahead {p1 : Int} {p2 : Int} (X : CX p m c cL_ahead 5 s args RL G B κ meth (some .int)) (hp1 : inR p1) (hp2 : inR p2) {M : Mem} {Qm : Int → Mem → Prop} (hw : wp_L_ahead p1 p2 M Qm) (H : Heap) (locs : List Loc) (hR : Rp G e0 α κ B M H) (hS : va_S (fun q => B ≤ q) s.heap H locs) (ls : Array Slot) (hl : lv_has ls 5 [(0, .ref (α 106 0)), (1, .int (Int32.ofInt p1)), (2, .int (Int32.ofInt p2))]) : WI p l e 0 s m args below meth c G e0 α κ B Qm H locs 0 ls [] := by
  have hw : (∃ n7 : Nat, wp_L_ahead_5 p1 p2 Qm n7 (-1) 0 M) := hw
  refine sa_const X.1 dL_ahead_0 ?_
  refine lv_istore_n (lv' := [(3, .int (Int32.ofInt (-1))), (0, .ref (α 106 0)), (1, .int (Int32.ofInt p1)), (2, .int (Int32.ofInt p2))]) X.1.1 X.1.2.1 dL_ahead_1 rfl hl (by decide) rfl (fun ls hl => ?_)
  refine sa_const X.1 dL_ahead_2 ?_
  refine lv_istore (lv' := [(4, .int (Int32.ofInt 0)), (3, .int (Int32.ofInt (-1))), (0, .ref (α 106 0)), (1, .int (Int32.ofInt p1)), (2, .int (Int32.ofInt p2))]) X.1.1 X.1.2.1 dL_ahead_3 hl (by decide) rfl (fun ls hl => ?_)
  obtain ⟨n7, hw⟩ := hw
  exact t_L_ahead_5 X hp1 hp2 n7 _ _ _ hw (inR_c (a := -1) rfl) (inR_c (a := 0) rfl) _ _ hR hS _ (lv_sub hl [2, 3, 4, 1, 0] rfl)
theorem m_L_ahead {l : Launch} {G : Gx} {e0 : Nat} {α : Ax} {κ : Nat → Int} {B : Nat} {p1 : Int} {p2 : Int} (hκ : kOK κ) (hp1 : inR p1) (hp2 : inR p2) {M : Mem} {Qm : Int → Mem → Prop} (hw : wp_L_ahead p1 p2 M Qm) : CI l yL_ahead (Cond.code yL_ahead cL_ahead 5 (some .int)) 0 G e0 α κ B [.ref (α 106 0), .int (Int32.ofInt p1), .int (Int32.ofInt p2)] M Qm :=
  CI.mk hκ (by decide +kernel) rfl (Nat.le_of_ble_eq_true rfl) (lv := [(0, .ref (α 106 0)), (1, .int (Int32.ofInt p1)), (2, .int (Int32.ofInt p2))]) rfl (fun p e s m args below meth c ls X hR hS hl => t_L_ahead X hp1 hp2 hw _ _ hR hS ls hl)
theorem cs_L_ahead {cc : ByteArray} {nL : Nat} {own : String} {ret : Option FieldType} {idx pc : Nat} {p1 : Int} {p2 : Int} (X : CX p m c cc nL s args own G B κ meth ret) (hp1 : inR p1) (hp2 : inR p2) {kc : Nat} {R : Room} {cells slots : Nat} (hRr : RmOK R kc) (hcel : cells ≤ R.cells ∧ slots ≤ R.slots) (hk : 0 + 1 ≤ kc) {M : Mem} {H : Heap} {locs : List Loc} (hR : Rp G e0 α κ B M H) (hS : va_S (fun q => B ≤ q) s.heap H locs) (k1 : Cond.methodLink own idx yL_ahead ∈ gw) {ls : Array Slot} (hml : ls.size = nL) {rest : List Value} (hd : decode cc pc = .ok (.invokestatic idx, 3)) (hrest : (rest.map fun v => v.category).sum ≤ 8) {Q : State → Prop} {Qm : Int → Mem → Prop} (hw : wp_L_ahead p1 p2 M Qm) (kk : ∀ (r : Int) (M1 : Mem) (H1 : Heap) (locs1 : List Loc), Qm r M1 → inR r → Rp G e0 α κ B M1 H1 → va_S (fun q => B ≤ q) s.heap H1 locs1 → W p l e R s m args below meth c H1 locs1 cells slots Q (F0 m (pc + 3) ls (.int (Int32.ofInt r) :: rest))) : W p l e R s m args below meth c H locs cells slots Q (F0 m pc ls (.int (Int32.ofInt p2) :: .int (Int32.ofInt p1) :: .ref (α 106 0) :: rest)) :=
  sa_callSI 0 (n := 3) (As := [.ref (α 106 0), .int (Int32.ofInt p1), .int (Int32.ofInt p2)]) (rest := rest) X.1 X.2.1 hR hS (m_L_ahead X.2.2.1 hp1 hp2 hw) k1 kw_1123 kw_37 kw_1124 ⟨by decide +kernel, by decide +kernel, by decide +kernel⟩ (rm_ok hRr hk (by decide)) rfl rfl hrest hml hd hcel kk
end
