/-- words that are kept, though not good: what is castable, links among nest mates -/
def nwk : Cond → Bool
  | .castable .. | .methodLinkNest .. | .fieldLinkNest .. | .declares _ => true
  | _ => false
def nw : List Cond := lw_tbl.filter nwk
theorem nw_warm {w : Cond} (h : nwk w = true) {s U : State} (hW : s.WarmedH U.vm) (hZ : va_Nw w s) : va_Nw w U := by
  cases w <;> first | exact va_Nw.warmC hW hZ | exact va_Nw.warmM hW hZ | exact va_Nw.warmF hW hZ | exact va_Nw.warmD hW hZ | exact Bool.noConfusion h
theorem nw_of (n : Nat) {w : Cond} (h : lw_tbl[n]? = some w) (g : nwk w = true) : w ∈ nw := List.mem_filter.mpr ⟨List.mem_of_getElem? h, g⟩
theorem kn_130 : (Jvm.Cond.methodLinkNest "TablePages" (11 : Nat) ({ cls := "TablePages$Grid", name := "<init>", desc := "()V" } : Jvm.MethodName) "TablePages") ∈ nw := nw_of 130 (by decide +kernel) (by decide +kernel)
theorem kn_288 : (Jvm.Cond.methodLinkNest "TablePages" (41 : Nat) ({ cls := "TablePages$Sheets", name := "<init>", desc := "()V" } : Jvm.MethodName) "TablePages") ∈ nw := nw_of 288 (by decide +kernel) (by decide +kernel)
theorem kn_472 : (Jvm.Cond.methodLinkNest "TablePages$Widths" (101 : Nat) ({ cls := "TablePages", name := "leftPart", desc := "(I)I" } : Jvm.MethodName) "TablePages") ∈ nw := nw_of 472 (by decide +kernel) (by decide +kernel)
theorem kn_756 : (Jvm.Cond.castable "java/lang/IllegalArgumentException" "java/lang/IllegalArgumentException") ∈ nw := nw_of 756 (by decide +kernel) (by decide +kernel)
theorem kn_757 : (Jvm.Cond.declares ({ cls := "java/lang/RuntimeException", name := "<init>", desc := "()V" } : Jvm.MethodName)) ∈ nw := nw_of 757 (by decide +kernel) (by decide +kernel)
theorem kn_758 : (Jvm.Cond.declares ({ cls := "java/lang/RuntimeException", name := "<init>", desc := "(Ljava/lang/String;)V" } : Jvm.MethodName)) ∈ nw := nw_of 758 (by decide +kernel) (by decide +kernel)
theorem kn_759 : (Jvm.Cond.declares ({ cls := "java/lang/Exception", name := "<init>", desc := "()V" } : Jvm.MethodName)) ∈ nw := nw_of 759 (by decide +kernel) (by decide +kernel)
theorem kn_760 : (Jvm.Cond.declares ({ cls := "java/lang/Exception", name := "<init>", desc := "(Ljava/lang/String;)V" } : Jvm.MethodName)) ∈ nw := nw_of 760 (by decide +kernel) (by decide +kernel)
theorem kn_761 : (Jvm.Cond.declares ({ cls := "java/lang/Throwable", name := "<init>", desc := "()V" } : Jvm.MethodName)) ∈ nw := nw_of 761 (by decide +kernel) (by decide +kernel)
theorem kn_762 : (Jvm.Cond.declares ({ cls := "java/lang/Throwable", name := "<init>", desc := "(Ljava/lang/String;)V" } : Jvm.MethodName)) ∈ nw := nw_of 762 (by decide +kernel) (by decide +kernel)
theorem kn_829 : (Jvm.Cond.castable "java/lang/IllegalStateException" "java/lang/IllegalStateException") ∈ nw := nw_of 829 (by decide +kernel) (by decide +kernel)
theorem kn_939 : (Jvm.Cond.fieldLinkNest "TablePages$Grid" (59 : Nat) "TablePages" "MOST_ROWS_OF_PART" "[I" "TablePages") ∈ nw := nw_of 939 (by decide +kernel) (by decide +kernel)
theorem kn_1003 : (Jvm.Cond.castable "java/lang/IndexOutOfBoundsException" "java/lang/IndexOutOfBoundsException") ∈ nw := nw_of 1003 (by decide +kernel) (by decide +kernel)
theorem kn_2088 : (Jvm.Cond.castable "TablePages" "java/lang/Object") ∈ nw := nw_of 2088 (by decide +kernel) (by decide +kernel)
theorem kn_2089 : (Jvm.Cond.castable "TablePages$Grid" "java/lang/Object") ∈ nw := nw_of 2089 (by decide +kernel) (by decide +kernel)
theorem kn_2090 : (Jvm.Cond.castable "java/util/ArrayList" "java/lang/Object") ∈ nw := nw_of 2090 (by decide +kernel) (by decide +kernel)
theorem kn_2091 : (Jvm.Cond.castable "TablePages$Widths" "java/lang/Object") ∈ nw := nw_of 2091 (by decide +kernel) (by decide +kernel)
theorem kn_2092 : (Jvm.Cond.castable "TablePages$Heights" "java/lang/Object") ∈ nw := nw_of 2092 (by decide +kernel) (by decide +kernel)
theorem kn_2093 : (Jvm.Cond.castable "TablePages$Trial" "java/lang/Object") ∈ nw := nw_of 2093 (by decide +kernel) (by decide +kernel)
theorem kn_2094 : (Jvm.Cond.castable "TablePages$Sheets" "java/lang/Object") ∈ nw := nw_of 2094 (by decide +kernel) (by decide +kernel)
theorem kn_2095 : (Jvm.Cond.castable "TablePages$Flow" "java/lang/Object") ∈ nw := nw_of 2095 (by decide +kernel) (by decide +kernel)
theorem kn_2096 : (Jvm.Cond.castable "TablePagesModel" "java/lang/Object") ∈ nw := nw_of 2096 (by decide +kernel) (by decide +kernel)
theorem kn_2097 : (Jvm.Cond.castable "java/lang/IllegalArgumentException" "java/lang/Object") ∈ nw := nw_of 2097 (by decide +kernel) (by decide +kernel)
theorem kn_2098 : (Jvm.Cond.castable "java/lang/IllegalStateException" "java/lang/Object") ∈ nw := nw_of 2098 (by decide +kernel) (by decide +kernel)
theorem kn_2099 : (Jvm.Cond.castable "TablePages$Column" "java/lang/Object") ∈ nw := nw_of 2099 (by decide +kernel) (by decide +kernel)
theorem kn_2100 : (Jvm.Cond.castable "TablePages$Row" "java/lang/Object") ∈ nw := nw_of 2100 (by decide +kernel) (by decide +kernel)
theorem kn_2101 : (Jvm.Cond.castable "java/lang/IndexOutOfBoundsException" "java/lang/Object") ∈ nw := nw_of 2101 (by decide +kernel) (by decide +kernel)
theorem kn_2102 : (Jvm.Cond.castable "TablePages$Cell" "java/lang/Object") ∈ nw := nw_of 2102 (by decide +kernel) (by decide +kernel)
theorem kn_2103 : (Jvm.Cond.castable "java/lang/Throwable" "java/lang/Object") ∈ nw := nw_of 2103 (by decide +kernel) (by decide +kernel)
theorem kn_2104 : (Jvm.Cond.castable "java/lang/String" "java/lang/Object") ∈ nw := nw_of 2104 (by decide +kernel) (by decide +kernel)
theorem kn_2107 : (Jvm.Cond.declares ({ cls := "java/lang/Object", name := "getClass", desc := "()Ljava/lang/Class;" } : Jvm.MethodName)) ∈ nw := nw_of 2107 (by decide +kernel) (by decide +kernel)
theorem kn_2108 : (Jvm.Cond.castable "[Z" "java/lang/Object") ∈ nw := nw_of 2108 (by decide +kernel) (by decide +kernel)
theorem kn_2109 : (Jvm.Cond.castable "[I" "java/lang/Object") ∈ nw := nw_of 2109 (by decide +kernel) (by decide +kernel)
theorem kn_2110 : (Jvm.Cond.castable "[B" "java/lang/Object") ∈ nw := nw_of 2110 (by decide +kernel) (by decide +kernel)
theorem kn_2111 : (Jvm.Cond.castable "[Ljava/lang/Object;" "java/lang/Object") ∈ nw := nw_of 2111 (by decide +kernel) (by decide +kernel)
theorem kn_2112 : (Jvm.Cond.castable "[J" "java/lang/Object") ∈ nw := nw_of 2112 (by decide +kernel) (by decide +kernel)
