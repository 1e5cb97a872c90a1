/-! ===== words of the tables ===== -/
set_option maxRecDepth 100000 in
theorem mw_688 : (Jvm.Cond.code ({ cls := "PermitParkLaw", name := "calls", desc := "()Z" } : Jvm.MethodName) method_33_code (12 : Nat) (Option.some Jvm.ClassFile.FieldType.boolean)) ∈ tblG := tblG_t (List.mem_of_getElem? (i := 688) (by rfl)) (by decide +kernel)
set_option maxRecDepth 100000 in
theorem mw_762 : (Jvm.Cond.code ({ cls := "PermitParkLaw", name := "statesAreSo", desc := "()Z" } : Jvm.MethodName) method_30_code (10 : Nat) (Option.some Jvm.ClassFile.FieldType.boolean)) ∈ tblG := tblG_t (List.mem_of_getElem? (i := 762) (by rfl)) (by decide +kernel)
