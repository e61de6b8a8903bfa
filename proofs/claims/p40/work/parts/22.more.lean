theorem A6_AI {a : Nat} (h : A6 a) : AI a := ⟨h.1, h.2.1, h.2.2.1⟩
theorem knat : Cond.native arraycopyName ∈ gw := kw_673
theorem kst_copy : Cond.static arraycopyName ∈ gw := kw_672
theorem kin_sys : Cond.initialized "java/lang/System" ∈ gw := kw_53
theorem kmath_max_s : Cond.static Lib.Math.max.name ∈ gw := kw_420
theorem kmath_min_s : Cond.static Lib.Math.min.name ∈ gw := kw_427
theorem kmath_i : Cond.initialized "java/lang/Math" ∈ gw := kw_51
theorem kmath_max_c : Cond.code Lib.Math.max.name Lib.Math.max.code 2 (some .int) ∈ gw := kw_421
theorem kmath_min_c : Cond.code Lib.Math.min.name Lib.Math.min.code 2 (some .int) ∈ gw := kw_428
theorem g_in1 {cd : Cond} (k5 : cd ∈ gw) : GoodIn gw (cd :: gw) := by
  intro w hw
  rcases List.mem_cons.mp hw with rfl | hw
  · exact gw_in _ k5
  · exact gw_in _ hw
section SQ
variable {p : Program} {l : Launch} {e : Env} {R : Room} {s : State} {m : MethodId} {args : Array Value} {below : List Frame} {meth : Method} {c : Code} {H : Heap} {locs : List Loc} {cells slots : Nat} {Q : State → Prop}
variable {cc : ByteArray} {nL : Nat} {own : String} {pc : Nat} {ls : Array Slot} {rest : List Value} {G : Gx} {e0 : Nat} {α : Ax} {κ : Nat → Int} {B : Nat} {M : Mem}
theorem sa_min {a b : Int} {idx : Nat} (C : CallFix p m c cc nL s args gw own) (ha : inR a) (hb : inR b) (k1 : Cond.methodLink own idx Lib.Math.min.name ∈ gw) (hml : ls.size = nL) (k2 : Cond.static Lib.Math.min.name ∈ gw) (k4 : Cond.initialized "java/lang/Math" ∈ gw) (k5 : Cond.code Lib.Math.min.name Lib.Math.min.code 2 (some .int) ∈ gw)
    (hframes : 1 ≤ R.frames) (hlocals : (rest.map fun v => v.category).sum + 13 ≤ R.locals) (hcel : cells ≤ R.cells ∧ slots ≤ R.slots) (hd : decode cc pc = .ok (.invokestatic idx, 3))
    (kk : W p l e R s m args below meth c H locs cells slots Q (F0 m (pc + 3) ls (.int (Int32.ofInt (min a b)) :: rest))) : W p l e R s m args below meth c H locs cells slots Q (F0 m pc ls (.int (Int32.ofInt b) :: .int (Int32.ofInt a) :: rest)) := by
  refine va_mmin C.1 C.2.1 (C.2.2.1.trans hml.symm) C.2.2.2.1 (C.2.2.2.2 _ k1) (C.2.2.2.2 _ k2) (C.2.2.2.2 _ k4) (C.2.2.2.2 _ k5) hframes hlocals hcel.1 hcel.2 hd ?_
  by_cases h : a < b
  · rw [show min a b = a by omega] at kk
    first
      | (rw [if_pos ((inR_lt ha hb).mpr h)]; exact kk)
      | (rw [if_neg (fun z => Int.lt_asymm h ((inR_lt hb ha).mp z))]; exact kk)
  · rw [show min a b = b by omega] at kk
    first
      | (rw [if_neg (fun z => h ((inR_lt ha hb).mp z))]; exact kk)
      | (by_cases h2 : b < a
         · rw [if_pos ((inR_lt hb ha).mpr h2)]; exact kk
         · rw [if_neg (fun z => h2 ((inR_lt hb ha).mp z))]
           rw [show a = b by omega]
           exact kk)
theorem sa_callSNI {y : MethodName} {bytes : ByteArray} {maxL n idx : Nat} {host : String} (k : Nat) {ret : Option FieldType} {As st0 : List Value} {Qm : Int → Mem → Prop} (C : CallFix p m c cc nL s args gw own) (E : EV G B s) (hR : Rp G e0 α κ B M H) (hS : va_S (fun q => B ≤ q) s.heap H locs)
    (hM : CI l y (Cond.code y bytes maxL ret) k G e0 α κ B As M Qm) (k1 : Cond.methodLinkNest own idx y host ∈ nw) (k2 : Cond.static y ∈ gw) (k4 : Cond.initialized y.cls ∈ gw) (k5 : Cond.code y bytes maxL ret ∈ gw) (hdc : y.cls ≠ "java/lang/invoke/MethodHandle" ∧ y.cls ≠ "java/lang/invoke/VarHandle" ∧ (parseMethodDescriptor y.desc).map (fun d => d.parameters.length) = some n)
    (hroom : (rmL k).frames + 1 ≤ R.frames ∧ 8 + (maxL + 11) + (rmL k).locals ≤ R.locals) (hn : As.length = n) (hst : st0 = As.reverse ++ rest) (hw : (rest.map fun v => v.category).sum ≤ 8) (hml : ls.size = nL) (hd : decode cc pc = .ok (.invokestatic idx, 3)) (hcel : cells ≤ R.cells ∧ slots ≤ R.slots)
    (kk : ∀ (r : Int) (M1 : Mem) (H1 : Heap) (locs1 : List Loc), Qm r M1 → inR r → Rp G e0 α κ B M1 H1 → va_S (fun q => B ≤ q) s.heap H1 locs1 → W p l e R s m args below meth c H1 locs1 cells slots Q (F0 m (pc + 3) ls (.int (Int32.ofInt r) :: rest))) : W p l e R s m args below meth c H locs cells slots Q (F0 m pc ls st0) := by
  subst hst
  refine va_calli (va_runSN (As := As) (rest := rest) (n := n) C hM ⟨va_cnB n C.2.2.2.2 (g_in1 k5) rfl rfl rfl (E.2.1.1 _ k1) (C.2.2.2.2 _ k4) hdc hroom, C.2.2.2.2 _ k2, trivial⟩ ⟨Pw.blind, fun U hU hW => ⟨rfl, E.at hS hU hW, by rw [hU]; exact hR⟩⟩ rfl hn hml rfl (lv_room hw) hd hcel) hS (fun q _ h => h) (fun q h => h) (fun r u t H1 locs1 ht hvm hp hb _ _ hS1 => ?_)
  obtain ⟨rfl, hx, hq⟩ := hp
  exact kk u.1 u.2 H1 locs1 hq hx (by rw [← ht]; exact hb) hS1
end SQ
theorem AI_24 : AI 24 := ⟨by decide, by decide, rfl⟩
theorem AI_25 : AI 25 := ⟨by decide, by decide, rfl⟩
theorem AI_26 : AI 26 := ⟨by decide, by decide, rfl⟩
theorem AI_27 : AI 27 := ⟨by decide, by decide, rfl⟩
theorem AI_28 : AI 28 := ⟨by decide, by decide, rfl⟩
theorem AI_29 : AI 29 := ⟨by decide, by decide, rfl⟩
theorem AI_30 : AI 30 := ⟨by decide, by decide, rfl⟩
theorem AI_32 : AI 32 := ⟨by decide, by decide, rfl⟩
theorem AI_34 : AI 34 := ⟨by decide, by decide, rfl⟩
theorem AI_35 : AI 35 := ⟨by decide, by decide, rfl⟩
theorem AI_36 : AI 36 := ⟨by decide, by decide, rfl⟩
theorem AI_37 : AI 37 := ⟨by decide, by decide, rfl⟩
theorem AI_38 : AI 38 := ⟨by decide, by decide, rfl⟩
theorem AI_39 : AI 39 := ⟨by decide, by decide, rfl⟩
theorem AI_40 : AI 40 := ⟨by decide, by decide, rfl⟩
theorem AI_41 : AI 41 := ⟨by decide, by decide, rfl⟩
theorem AI_42 : AI 42 := ⟨by decide, by decide, rfl⟩
theorem AI_43 : AI 43 := ⟨by decide, by decide, rfl⟩
theorem AI_44 : AI 44 := ⟨by decide, by decide, rfl⟩
theorem AI_45 : AI 45 := ⟨by decide, by decide, rfl⟩
theorem AI_46 : AI 46 := ⟨by decide, by decide, rfl⟩
theorem AI_47 : AI 47 := ⟨by decide, by decide, rfl⟩
theorem AI_48 : AI 48 := ⟨by decide, by decide, rfl⟩
theorem AI_49 : AI 49 := ⟨by decide, by decide, rfl⟩
theorem AI_50 : AI 50 := ⟨by decide, by decide, rfl⟩
theorem AI_51 : AI 51 := ⟨by decide, by decide, rfl⟩
theorem AI_52 : AI 52 := ⟨by decide, by decide, rfl⟩
theorem AI_53 : AI 53 := ⟨by decide, by decide, rfl⟩
theorem AI_54 : AI 54 := ⟨by decide, by decide, rfl⟩
theorem AI_55 : AI 55 := ⟨by decide, by decide, rfl⟩
theorem AI_56 : AI 56 := ⟨by decide, by decide, rfl⟩
theorem AI_57 : AI 57 := ⟨by decide, by decide, rfl⟩
theorem AI_60 : AI 60 := ⟨by decide, by decide, rfl⟩
theorem AI_61 : AI 61 := ⟨by decide, by decide, rfl⟩
theorem AI_63 : AI 63 := ⟨by decide, by decide, rfl⟩
theorem AI_64 : AI 64 := ⟨by decide, by decide, rfl⟩
theorem AI_65 : AI 65 := ⟨by decide, by decide, rfl⟩
theorem AI_66 : AI 66 := ⟨by decide, by decide, rfl⟩
theorem AI_67 : AI 67 := ⟨by decide, by decide, rfl⟩
theorem AI_68 : AI 68 := ⟨by decide, by decide, rfl⟩
theorem AI_69 : AI 69 := ⟨by decide, by decide, rfl⟩
theorem AI_70 : AI 70 := ⟨by decide, by decide, rfl⟩
theorem AI_71 : AI 71 := ⟨by decide, by decide, rfl⟩
theorem AI_72 : AI 72 := ⟨by decide, by decide, rfl⟩
theorem AI_74 : AI 74 := ⟨by decide, by decide, rfl⟩
theorem AI_75 : AI 75 := ⟨by decide, by decide, rfl⟩
theorem AI_76 : AI 76 := ⟨by decide, by decide, rfl⟩
theorem AI_77 : AI 77 := ⟨by decide, by decide, rfl⟩
theorem AI_78 : AI 78 := ⟨by decide, by decide, rfl⟩
theorem AI_79 : AI 79 := ⟨by decide, by decide, rfl⟩
theorem AI_80 : AI 80 := ⟨by decide, by decide, rfl⟩
theorem AI_81 : AI 81 := ⟨by decide, by decide, rfl⟩
theorem AI_82 : AI 82 := ⟨by decide, by decide, rfl⟩
theorem AI_83 : AI 83 := ⟨by decide, by decide, rfl⟩
theorem AI_84 : AI 84 := ⟨by decide, by decide, rfl⟩
theorem AI_85 : AI 85 := ⟨by decide, by decide, rfl⟩
theorem AI_86 : AI 86 := ⟨by decide, by decide, rfl⟩
theorem AI_87 : AI 87 := ⟨by decide, by decide, rfl⟩
theorem AI_88 : AI 88 := ⟨by decide, by decide, rfl⟩
theorem AI_90 : AI 90 := ⟨by decide, by decide, rfl⟩
theorem AI_91 : AI 91 := ⟨by decide, by decide, rfl⟩
theorem AI_92 : AI 92 := ⟨by decide, by decide, rfl⟩
theorem AI_93 : AI 93 := ⟨by decide, by decide, rfl⟩
theorem AI_94 : AI 94 := ⟨by decide, by decide, rfl⟩
theorem AI_95 : AI 95 := ⟨by decide, by decide, rfl⟩
theorem AI_96 : AI 96 := ⟨by decide, by decide, rfl⟩
theorem AI_97 : AI 97 := ⟨by decide, by decide, rfl⟩
theorem AI_98 : AI 98 := ⟨by decide, by decide, rfl⟩
theorem AI_99 : AI 99 := ⟨by decide, by decide, rfl⟩
theorem AI_100 : AI 100 := ⟨by decide, by decide, rfl⟩
theorem AI_101 : AI 101 := ⟨by decide, by decide, rfl⟩
