theorem tt_1 : (tables_1.filter (fun w => !goodWord w)).length = 12 := by decide +kernel
theorem tt_2 : tables_1.length = 1450 := by decide +kernel
theorem tt_3 : goodWord (Jvm.Cond.methodLinkNest "WholeSound" (11 : Nat) ({ cls := "WholeSound$Tape", name := "<init>", desc := "()V" } : Jvm.MethodName) "WholeSound") = true := by decide +kernel
theorem tt_4 : (tables_1.filter (fun w => !goodWord w)) = [] := by decide +kernel
