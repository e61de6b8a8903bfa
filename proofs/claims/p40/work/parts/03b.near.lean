/-- words that are kept, though not good: what is castable, links among nest mates -/
def nwk : Cond → Bool
  | .castable .. | .methodLinkNest .. | .fieldLinkNest .. | .declares _ => true
  | _ => false
def nw : List Cond := lw_tbl.filter nwk
theorem nw_warm {w : Cond} (h : nwk w = true) {s U : State} (hW : s.WarmedH U.vm) (hZ : va_Nw w s) : va_Nw w U := by
  cases w <;> first | exact va_Nw.warmC hW hZ | exact va_Nw.warmM hW hZ | exact va_Nw.warmF hW hZ | exact va_Nw.warmD hW hZ | exact Bool.noConfusion h
theorem nw_of (n : Nat) {w : Cond} (h : lw_tbl[n]? = some w) (g : nwk w = true) : w ∈ nw := List.mem_filter.mpr ⟨List.mem_of_getElem? h, g⟩
theorem kn_82 : (Jvm.Cond.methodLinkNest "TablePages" (11 : Nat) ({ cls := "TablePages$Grid", name := "<init>", desc := "()V" } : Jvm.MethodName) "TablePages") ∈ nw := nw_of 82 (by decide +kernel) (by decide +kernel)
theorem kn_236 : (Jvm.Cond.methodLinkNest "TablePages" (41 : Nat) ({ cls := "TablePages$Sheets", name := "<init>", desc := "()V" } : Jvm.MethodName) "TablePages") ∈ nw := nw_of 236 (by decide +kernel) (by decide +kernel)
theorem kn_416 : (Jvm.Cond.methodLinkNest "TablePages$Widths" (101 : Nat) ({ cls := "TablePages", name := "leftPart", desc := "(I)I" } : Jvm.MethodName) "TablePages") ∈ nw := nw_of 416 (by decide +kernel) (by decide +kernel)
theorem kn_686 : (Jvm.Cond.castable "java/lang/IllegalArgumentException" "java/lang/IllegalArgumentException") ∈ nw := nw_of 686 (by decide +kernel) (by decide +kernel)
theorem kn_687 : (Jvm.Cond.declares ({ cls := "java/lang/RuntimeException", name := "<init>", desc := "()V" } : Jvm.MethodName)) ∈ nw := nw_of 687 (by decide +kernel) (by decide +kernel)
theorem kn_688 : (Jvm.Cond.declares ({ cls := "java/lang/RuntimeException", name := "<init>", desc := "(Ljava/lang/String;)V" } : Jvm.MethodName)) ∈ nw := nw_of 688 (by decide +kernel) (by decide +kernel)
theorem kn_689 : (Jvm.Cond.declares ({ cls := "java/lang/Exception", name := "<init>", desc := "()V" } : Jvm.MethodName)) ∈ nw := nw_of 689 (by decide +kernel) (by decide +kernel)
theorem kn_690 : (Jvm.Cond.declares ({ cls := "java/lang/Exception", name := "<init>", desc := "(Ljava/lang/String;)V" } : Jvm.MethodName)) ∈ nw := nw_of 690 (by decide +kernel) (by decide +kernel)
theorem kn_691 : (Jvm.Cond.declares ({ cls := "java/lang/Throwable", name := "<init>", desc := "()V" } : Jvm.MethodName)) ∈ nw := nw_of 691 (by decide +kernel) (by decide +kernel)
theorem kn_692 : (Jvm.Cond.declares ({ cls := "java/lang/Throwable", name := "<init>", desc := "(Ljava/lang/String;)V" } : Jvm.MethodName)) ∈ nw := nw_of 692 (by decide +kernel) (by decide +kernel)
theorem kn_760 : (Jvm.Cond.castable "java/lang/IllegalStateException" "java/lang/IllegalStateException") ∈ nw := nw_of 760 (by decide +kernel) (by decide +kernel)
theorem kn_873 : (Jvm.Cond.fieldLinkNest "TablePages$Grid" (59 : Nat) "TablePages" "MOST_ROWS_OF_PART" "[I" "TablePages") ∈ nw := nw_of 873 (by decide +kernel) (by decide +kernel)
theorem kn_945 : (Jvm.Cond.castable "java/lang/IndexOutOfBoundsException" "java/lang/IndexOutOfBoundsException") ∈ nw := nw_of 945 (by decide +kernel) (by decide +kernel)
theorem kn_1441 : (Jvm.Cond.castable "TablePages" "java/lang/Object") ∈ nw := nw_of 1441 (by decide +kernel) (by decide +kernel)
theorem kn_1442 : (Jvm.Cond.castable "TablePages$Grid" "java/lang/Object") ∈ nw := nw_of 1442 (by decide +kernel) (by decide +kernel)
theorem kn_1443 : (Jvm.Cond.castable "java/util/ArrayList" "java/lang/Object") ∈ nw := nw_of 1443 (by decide +kernel) (by decide +kernel)
theorem kn_1444 : (Jvm.Cond.castable "TablePages$Widths" "java/lang/Object") ∈ nw := nw_of 1444 (by decide +kernel) (by decide +kernel)
theorem kn_1445 : (Jvm.Cond.castable "TablePages$Heights" "java/lang/Object") ∈ nw := nw_of 1445 (by decide +kernel) (by decide +kernel)
theorem kn_1446 : (Jvm.Cond.castable "TablePages$Trial" "java/lang/Object") ∈ nw := nw_of 1446 (by decide +kernel) (by decide +kernel)
theorem kn_1447 : (Jvm.Cond.castable "TablePages$Sheets" "java/lang/Object") ∈ nw := nw_of 1447 (by decide +kernel) (by decide +kernel)
theorem kn_1448 : (Jvm.Cond.castable "TablePages$Flow" "java/lang/Object") ∈ nw := nw_of 1448 (by decide +kernel) (by decide +kernel)
theorem kn_1449 : (Jvm.Cond.castable "java/lang/IllegalArgumentException" "java/lang/Object") ∈ nw := nw_of 1449 (by decide +kernel) (by decide +kernel)
theorem kn_1450 : (Jvm.Cond.castable "java/lang/IllegalStateException" "java/lang/Object") ∈ nw := nw_of 1450 (by decide +kernel) (by decide +kernel)
theorem kn_1451 : (Jvm.Cond.castable "TablePages$Column" "java/lang/Object") ∈ nw := nw_of 1451 (by decide +kernel) (by decide +kernel)
theorem kn_1452 : (Jvm.Cond.castable "TablePages$Row" "java/lang/Object") ∈ nw := nw_of 1452 (by decide +kernel) (by decide +kernel)
theorem kn_1453 : (Jvm.Cond.castable "java/lang/IndexOutOfBoundsException" "java/lang/Object") ∈ nw := nw_of 1453 (by decide +kernel) (by decide +kernel)
theorem kn_1454 : (Jvm.Cond.castable "TablePages$Cell" "java/lang/Object") ∈ nw := nw_of 1454 (by decide +kernel) (by decide +kernel)
theorem kn_1455 : (Jvm.Cond.castable "java/lang/Throwable" "java/lang/Object") ∈ nw := nw_of 1455 (by decide +kernel) (by decide +kernel)
theorem kn_1456 : (Jvm.Cond.castable "java/lang/String" "java/lang/Object") ∈ nw := nw_of 1456 (by decide +kernel) (by decide +kernel)
theorem kn_1459 : (Jvm.Cond.declares ({ cls := "java/lang/Object", name := "getClass", desc := "()Ljava/lang/Class;" } : Jvm.MethodName)) ∈ nw := nw_of 1459 (by decide +kernel) (by decide +kernel)
theorem kn_1460 : (Jvm.Cond.castable "[Z" "java/lang/Object") ∈ nw := nw_of 1460 (by decide +kernel) (by decide +kernel)
theorem kn_1461 : (Jvm.Cond.castable "[I" "java/lang/Object") ∈ nw := nw_of 1461 (by decide +kernel) (by decide +kernel)
theorem kn_1462 : (Jvm.Cond.castable "[J" "java/lang/Object") ∈ nw := nw_of 1462 (by decide +kernel) (by decide +kernel)
theorem kn_1463 : (Jvm.Cond.castable "[B" "java/lang/Object") ∈ nw := nw_of 1463 (by decide +kernel) (by decide +kernel)
theorem kn_1464 : (Jvm.Cond.castable "[Ljava/lang/Object;" "java/lang/Object") ∈ nw := nw_of 1464 (by decide +kernel) (by decide +kernel)
