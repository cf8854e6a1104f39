set_option maxRecDepth 20000 in
theorem mw444 : Cond.classLink "DatalogmillLaw" (13 : Nat) "java/lang/IndexOutOfBoundsException" ∈ GW := inGW (List.mem_of_getElem? (i := 444) (by rfl)) (by decide +kernel)
set_option maxRecDepth 20000 in
theorem mw445 : Cond.classLink "DatalogmillLaw" (16 : Nat) "java/lang/IllegalArgumentException" ∈ GW := inGW (List.mem_of_getElem? (i := 445) (by rfl)) (by decide +kernel)
set_option maxRecDepth 20000 in
theorem mw446 : Cond.classLink "DatalogmillLaw" (19 : Nat) "java/lang/IllegalStateException" ∈ GW := inGW (List.mem_of_getElem? (i := 446) (by rfl)) (by decide +kernel)
set_option maxRecDepth 20000 in
theorem mw447 : Cond.methodLink "DatalogmillLaw" (7 : Nat) ({ cls := "Datalogmill", name := "declare", desc := "(IIII)V" } : MethodName) ∈ GW := inGW (List.mem_of_getElem? (i := 447) (by rfl)) (by decide +kernel)
set_option maxRecDepth 20000 in
theorem mw450 : Cond.code yX10_declare cX10_declare 5 none ∈ GW := inGW (List.mem_of_getElem? (i := 450) (by rfl)) (by decide +kernel)
theorem ml_Dm_declare : ML yX10_declare cX10_declare 5 none 4 := ⟨mw450, mw112, by decide +kernel, by decide +kernel, by decide +kernel⟩
set_option maxRecDepth 20000 in
theorem mw448 : Cond.instanceMethod ({ cls := "Datalogmill", name := "declare", desc := "(IIII)V" } : MethodName) ∈ GW := inGW (List.mem_of_getElem? (i := 448) (by rfl)) (by decide +kernel)
set_option maxRecDepth 20000 in
theorem mw449 : Cond.selects "Datalogmill" ({ cls := "Datalogmill", name := "declare", desc := "(IIII)V" } : MethodName) ({ cls := "Datalogmill", name := "declare", desc := "(IIII)V" } : MethodName) ∈ GW := inGW (List.mem_of_getElem? (i := 449) (by rfl)) (by decide +kernel)
theorem vl_Dm_declare : VL yX10_declare := ⟨mw448, mw449⟩
set_option maxRecDepth 20000 in
theorem mw569 : Cond.constant "DatalogmillLaw" (15 : Nat) (-2000000001 : Int32) ∈ GW := inGW (List.mem_of_getElem? (i := 569) (by rfl)) (by decide +kernel)
theorem kcL_15 : Cond.constant "DatalogmillLaw" 15 (ii (-2000000001)) ∈ GW := by
  rw [show ii (-2000000001) = (-2000000001 : Int32) by decide]
  exact mw569
theorem rlm2000000001 : R32 (-2000000001) := ⟨by decide, by decide⟩
set_option maxRecDepth 20000 in
theorem mw570 : Cond.constant "DatalogmillLaw" (18 : Nat) (-2000000002 : Int32) ∈ GW := inGW (List.mem_of_getElem? (i := 570) (by rfl)) (by decide +kernel)
theorem kcL_18 : Cond.constant "DatalogmillLaw" 18 (ii (-2000000002)) ∈ GW := by
  rw [show ii (-2000000002) = (-2000000002 : Int32) by decide]
  exact mw570
theorem rlm2000000002 : R32 (-2000000002) := ⟨by decide, by decide⟩
set_option maxRecDepth 20000 in
theorem mw571 : Cond.constant "DatalogmillLaw" (21 : Nat) (-2000000003 : Int32) ∈ GW := inGW (List.mem_of_getElem? (i := 571) (by rfl)) (by decide +kernel)
theorem kcL_21 : Cond.constant "DatalogmillLaw" 21 (ii (-2000000003)) ∈ GW := by
  rw [show ii (-2000000003) = (-2000000003 : Int32) by decide]
  exact mw571
theorem rlm2000000003 : R32 (-2000000003) := ⟨by decide, by decide⟩
set_option maxRecDepth 20000 in
theorem mw583 : Cond.methodLink "DatalogmillLaw" (22 : Nat) ({ cls := "Datalogmill", name := "fact", desc := "(IIIIIII)I" } : MethodName) ∈ GW := inGW (List.mem_of_getElem? (i := 583) (by rfl)) (by decide +kernel)
set_option maxRecDepth 20000 in
theorem mw586 : Cond.code yX10_fact cX10_fact 8 (some .int) ∈ GW := inGW (List.mem_of_getElem? (i := 586) (by rfl)) (by decide +kernel)
theorem ml_Dm_fact : ML yX10_fact cX10_fact 8 (some .int) 7 := ⟨mw586, mw112, by decide +kernel, by decide +kernel, by decide +kernel⟩
set_option maxRecDepth 20000 in
theorem mw584 : Cond.instanceMethod ({ cls := "Datalogmill", name := "fact", desc := "(IIIIIII)I" } : MethodName) ∈ GW := inGW (List.mem_of_getElem? (i := 584) (by rfl)) (by decide +kernel)
set_option maxRecDepth 20000 in
theorem mw585 : Cond.selects "Datalogmill" ({ cls := "Datalogmill", name := "fact", desc := "(IIIIIII)I" } : MethodName) ({ cls := "Datalogmill", name := "fact", desc := "(IIIIIII)I" } : MethodName) ∈ GW := inGW (List.mem_of_getElem? (i := 585) (by rfl)) (by decide +kernel)
theorem vl_Dm_fact : VL yX10_fact := ⟨mw584, mw585⟩
set_option maxRecDepth 20000 in
theorem mw817 : Cond.methodLink "DatalogmillLaw" (26 : Nat) ({ cls := "Datalogmill", name := "drop", desc := "(I)I" } : MethodName) ∈ GW := inGW (List.mem_of_getElem? (i := 817) (by rfl)) (by decide +kernel)
set_option maxRecDepth 20000 in
theorem mw820 : Cond.code yX10_drop cX10_drop 2 (some .int) ∈ GW := inGW (List.mem_of_getElem? (i := 820) (by rfl)) (by decide +kernel)
theorem ml_Dm_drop : ML yX10_drop cX10_drop 2 (some .int) 1 := ⟨mw820, mw112, by decide +kernel, by decide +kernel, by decide +kernel⟩
set_option maxRecDepth 20000 in
theorem mw818 : Cond.instanceMethod ({ cls := "Datalogmill", name := "drop", desc := "(I)I" } : MethodName) ∈ GW := inGW (List.mem_of_getElem? (i := 818) (by rfl)) (by decide +kernel)
set_option maxRecDepth 20000 in
theorem mw819 : Cond.selects "Datalogmill" ({ cls := "Datalogmill", name := "drop", desc := "(I)I" } : MethodName) ({ cls := "Datalogmill", name := "drop", desc := "(I)I" } : MethodName) ∈ GW := inGW (List.mem_of_getElem? (i := 819) (by rfl)) (by decide +kernel)
theorem vl_Dm_drop : VL yX10_drop := ⟨mw818, mw819⟩
set_option maxRecDepth 20000 in
theorem mw985 : Cond.methodLink "DatalogmillLaw" (30 : Nat) ({ cls := "Datalogmill", name := "pass", desc := "()I" } : MethodName) ∈ GW := inGW (List.mem_of_getElem? (i := 985) (by rfl)) (by decide +kernel)
set_option maxRecDepth 20000 in
theorem mw988 : Cond.code yX10_pass cX10_pass 1 (some .int) ∈ GW := inGW (List.mem_of_getElem? (i := 988) (by rfl)) (by decide +kernel)
theorem ml_Dm_pass : ML yX10_pass cX10_pass 1 (some .int) 0 := ⟨mw988, mw112, by decide +kernel, by decide +kernel, by decide +kernel⟩
set_option maxRecDepth 20000 in
theorem mw986 : Cond.instanceMethod ({ cls := "Datalogmill", name := "pass", desc := "()I" } : MethodName) ∈ GW := inGW (List.mem_of_getElem? (i := 986) (by rfl)) (by decide +kernel)
set_option maxRecDepth 20000 in
theorem mw987 : Cond.selects "Datalogmill" ({ cls := "Datalogmill", name := "pass", desc := "()I" } : MethodName) ({ cls := "Datalogmill", name := "pass", desc := "()I" } : MethodName) ∈ GW := inGW (List.mem_of_getElem? (i := 987) (by rfl)) (by decide +kernel)
theorem vl_Dm_pass : VL yX10_pass := ⟨mw986, mw987⟩
set_option maxRecDepth 20000 in
theorem mw842 : Cond.methodLink "DatalogmillLaw" (34 : Nat) ({ cls := "Datalogmill", name := "head", desc := "(IIII)V" } : MethodName) ∈ GW := inGW (List.mem_of_getElem? (i := 842) (by rfl)) (by decide +kernel)
set_option maxRecDepth 20000 in
theorem mw845 : Cond.code yX10_head cX10_head 5 none ∈ GW := inGW (List.mem_of_getElem? (i := 845) (by rfl)) (by decide +kernel)
theorem ml_Dm_head : ML yX10_head cX10_head 5 none 4 := ⟨mw845, mw112, by decide +kernel, by decide +kernel, by decide +kernel⟩
set_option maxRecDepth 20000 in
theorem mw843 : Cond.instanceMethod ({ cls := "Datalogmill", name := "head", desc := "(IIII)V" } : MethodName) ∈ GW := inGW (List.mem_of_getElem? (i := 843) (by rfl)) (by decide +kernel)
set_option maxRecDepth 20000 in
theorem mw844 : Cond.selects "Datalogmill" ({ cls := "Datalogmill", name := "head", desc := "(IIII)V" } : MethodName) ({ cls := "Datalogmill", name := "head", desc := "(IIII)V" } : MethodName) ∈ GW := inGW (List.mem_of_getElem? (i := 844) (by rfl)) (by decide +kernel)
theorem vl_Dm_head : VL yX10_head := ⟨mw843, mw844⟩
set_option maxRecDepth 20000 in
theorem mw859 : Cond.methodLink "DatalogmillLaw" (37 : Nat) ({ cls := "Datalogmill", name := "atom", desc := "(IZIII)I" } : MethodName) ∈ GW := inGW (List.mem_of_getElem? (i := 859) (by rfl)) (by decide +kernel)
set_option maxRecDepth 20000 in
theorem mw862 : Cond.code yX10_atom cX10_atom 6 (some .int) ∈ GW := inGW (List.mem_of_getElem? (i := 862) (by rfl)) (by decide +kernel)
theorem ml_Dm_atom : ML yX10_atom cX10_atom 6 (some .int) 5 := ⟨mw862, mw112, by decide +kernel, by decide +kernel, by decide +kernel⟩
set_option maxRecDepth 20000 in
theorem mw860 : Cond.instanceMethod ({ cls := "Datalogmill", name := "atom", desc := "(IZIII)I" } : MethodName) ∈ GW := inGW (List.mem_of_getElem? (i := 860) (by rfl)) (by decide +kernel)
set_option maxRecDepth 20000 in
theorem mw861 : Cond.selects "Datalogmill" ({ cls := "Datalogmill", name := "atom", desc := "(IZIII)I" } : MethodName) ({ cls := "Datalogmill", name := "atom", desc := "(IZIII)I" } : MethodName) ∈ GW := inGW (List.mem_of_getElem? (i := 861) (by rfl)) (by decide +kernel)
theorem vl_Dm_atom : VL yX10_atom := ⟨mw860, mw861⟩
set_option maxRecDepth 20000 in
theorem mw876 : Cond.methodLink "DatalogmillLaw" (41 : Nat) ({ cls := "Datalogmill", name := "compare", desc := "(III)I" } : MethodName) ∈ GW := inGW (List.mem_of_getElem? (i := 876) (by rfl)) (by decide +kernel)
set_option maxRecDepth 20000 in
theorem mw879 : Cond.code yX10_compare cX10_compare 4 (some .int) ∈ GW := inGW (List.mem_of_getElem? (i := 879) (by rfl)) (by decide +kernel)
theorem ml_Dm_compare : ML yX10_compare cX10_compare 4 (some .int) 3 := ⟨mw879, mw112, by decide +kernel, by decide +kernel, by decide +kernel⟩
set_option maxRecDepth 20000 in
theorem mw877 : Cond.instanceMethod ({ cls := "Datalogmill", name := "compare", desc := "(III)I" } : MethodName) ∈ GW := inGW (List.mem_of_getElem? (i := 877) (by rfl)) (by decide +kernel)
set_option maxRecDepth 20000 in
theorem mw878 : Cond.selects "Datalogmill" ({ cls := "Datalogmill", name := "compare", desc := "(III)I" } : MethodName) ({ cls := "Datalogmill", name := "compare", desc := "(III)I" } : MethodName) ∈ GW := inGW (List.mem_of_getElem? (i := 878) (by rfl)) (by decide +kernel)
theorem vl_Dm_compare : VL yX10_compare := ⟨mw877, mw878⟩
set_option maxRecDepth 20000 in
theorem mw885 : Cond.methodLink "DatalogmillLaw" (45 : Nat) ({ cls := "Datalogmill", name := "add", desc := "(III)I" } : MethodName) ∈ GW := inGW (List.mem_of_getElem? (i := 885) (by rfl)) (by decide +kernel)
set_option maxRecDepth 20000 in
theorem mw888 : Cond.code yX10_add cX10_add 4 (some .int) ∈ GW := inGW (List.mem_of_getElem? (i := 888) (by rfl)) (by decide +kernel)
theorem ml_Dm_add : ML yX10_add cX10_add 4 (some .int) 3 := ⟨mw888, mw112, by decide +kernel, by decide +kernel, by decide +kernel⟩
set_option maxRecDepth 20000 in
theorem mw886 : Cond.instanceMethod ({ cls := "Datalogmill", name := "add", desc := "(III)I" } : MethodName) ∈ GW := inGW (List.mem_of_getElem? (i := 886) (by rfl)) (by decide +kernel)
set_option maxRecDepth 20000 in
theorem mw887 : Cond.selects "Datalogmill" ({ cls := "Datalogmill", name := "add", desc := "(III)I" } : MethodName) ({ cls := "Datalogmill", name := "add", desc := "(III)I" } : MethodName) ∈ GW := inGW (List.mem_of_getElem? (i := 887) (by rfl)) (by decide +kernel)
theorem vl_Dm_add : VL yX10_add := ⟨mw886, mw887⟩
set_option maxRecDepth 20000 in
theorem mw1275 : Cond.methodLink "DatalogmillLaw" (48 : Nat) ({ cls := "Datalogmill", name := "enter", desc := "()I" } : MethodName) ∈ GW := inGW (List.mem_of_getElem? (i := 1275) (by rfl)) (by decide +kernel)
set_option maxRecDepth 20000 in
theorem mw1278 : Cond.code yX10_enter cX10_enter 1 (some .int) ∈ GW := inGW (List.mem_of_getElem? (i := 1278) (by rfl)) (by decide +kernel)
theorem ml_Dm_enter : ML yX10_enter cX10_enter 1 (some .int) 0 := ⟨mw1278, mw112, by decide +kernel, by decide +kernel, by decide +kernel⟩
set_option maxRecDepth 20000 in
theorem mw1276 : Cond.instanceMethod ({ cls := "Datalogmill", name := "enter", desc := "()I" } : MethodName) ∈ GW := inGW (List.mem_of_getElem? (i := 1276) (by rfl)) (by decide +kernel)
set_option maxRecDepth 20000 in
theorem mw1277 : Cond.selects "Datalogmill" ({ cls := "Datalogmill", name := "enter", desc := "()I" } : MethodName) ({ cls := "Datalogmill", name := "enter", desc := "()I" } : MethodName) ∈ GW := inGW (List.mem_of_getElem? (i := 1277) (by rfl)) (by decide +kernel)
theorem vl_Dm_enter : VL yX10_enter := ⟨mw1276, mw1277⟩
set_option maxRecDepth 20000 in
theorem mw947 : Cond.methodLink "DatalogmillLaw" (51 : Nat) ({ cls := "Datalogmill", name := "deny", desc := "()I" } : MethodName) ∈ GW := inGW (List.mem_of_getElem? (i := 947) (by rfl)) (by decide +kernel)
set_option maxRecDepth 20000 in
theorem mw950 : Cond.code yX10_deny cX10_deny 1 (some .int) ∈ GW := inGW (List.mem_of_getElem? (i := 950) (by rfl)) (by decide +kernel)
theorem ml_Dm_deny : ML yX10_deny cX10_deny 1 (some .int) 0 := ⟨mw950, mw112, by decide +kernel, by decide +kernel, by decide +kernel⟩
set_option maxRecDepth 20000 in
theorem mw948 : Cond.instanceMethod ({ cls := "Datalogmill", name := "deny", desc := "()I" } : MethodName) ∈ GW := inGW (List.mem_of_getElem? (i := 948) (by rfl)) (by decide +kernel)
set_option maxRecDepth 20000 in
theorem mw949 : Cond.selects "Datalogmill" ({ cls := "Datalogmill", name := "deny", desc := "()I" } : MethodName) ({ cls := "Datalogmill", name := "deny", desc := "()I" } : MethodName) ∈ GW := inGW (List.mem_of_getElem? (i := 949) (by rfl)) (by decide +kernel)
theorem vl_Dm_deny : VL yX10_deny := ⟨mw948, mw949⟩
set_option maxRecDepth 20000 in
theorem mw892 : Cond.methodLink "DatalogmillLaw" (54 : Nat) ({ cls := "Datalogmill", name := "remove", desc := "(I)I" } : MethodName) ∈ GW := inGW (List.mem_of_getElem? (i := 892) (by rfl)) (by decide +kernel)
set_option maxRecDepth 20000 in
theorem mw895 : Cond.code yX10_remove cX10_remove 3 (some .int) ∈ GW := inGW (List.mem_of_getElem? (i := 895) (by rfl)) (by decide +kernel)
theorem ml_Dm_remove : ML yX10_remove cX10_remove 3 (some .int) 1 := ⟨mw895, mw112, by decide +kernel, by decide +kernel, by decide +kernel⟩
set_option maxRecDepth 20000 in
theorem mw893 : Cond.instanceMethod ({ cls := "Datalogmill", name := "remove", desc := "(I)I" } : MethodName) ∈ GW := inGW (List.mem_of_getElem? (i := 893) (by rfl)) (by decide +kernel)
set_option maxRecDepth 20000 in
theorem mw894 : Cond.selects "Datalogmill" ({ cls := "Datalogmill", name := "remove", desc := "(I)I" } : MethodName) ({ cls := "Datalogmill", name := "remove", desc := "(I)I" } : MethodName) ∈ GW := inGW (List.mem_of_getElem? (i := 894) (by rfl)) (by decide +kernel)
theorem vl_Dm_remove : VL yX10_remove := ⟨mw893, mw894⟩
set_option maxRecDepth 20000 in
theorem mw993 : Cond.methodLink "DatalogmillLaw" (57 : Nat) ({ cls := "Datalogmill", name := "holds", desc := "(IIII)Z" } : MethodName) ∈ GW := inGW (List.mem_of_getElem? (i := 993) (by rfl)) (by decide +kernel)
set_option maxRecDepth 20000 in
theorem mw996 : Cond.code yX10_holds cX10_holds 5 (some .boolean) ∈ GW := inGW (List.mem_of_getElem? (i := 996) (by rfl)) (by decide +kernel)
theorem ml_Dm_holds : ML yX10_holds cX10_holds 5 (some .boolean) 4 := ⟨mw996, mw112, by decide +kernel, by decide +kernel, by decide +kernel⟩
set_option maxRecDepth 20000 in
theorem mw994 : Cond.instanceMethod ({ cls := "Datalogmill", name := "holds", desc := "(IIII)Z" } : MethodName) ∈ GW := inGW (List.mem_of_getElem? (i := 994) (by rfl)) (by decide +kernel)
set_option maxRecDepth 20000 in
theorem mw995 : Cond.selects "Datalogmill" ({ cls := "Datalogmill", name := "holds", desc := "(IIII)Z" } : MethodName) ({ cls := "Datalogmill", name := "holds", desc := "(IIII)Z" } : MethodName) ∈ GW := inGW (List.mem_of_getElem? (i := 995) (by rfl)) (by decide +kernel)
theorem vl_Dm_holds : VL yX10_holds := ⟨mw994, mw995⟩
set_option maxRecDepth 20000 in
theorem mw1012 : Cond.methodLink "DatalogmillLaw" (61 : Nat) ({ cls := "Datalogmill", name := "holdsAt", desc := "(IIIII)Z" } : MethodName) ∈ GW := inGW (List.mem_of_getElem? (i := 1012) (by rfl)) (by decide +kernel)
set_option maxRecDepth 20000 in
theorem mw1015 : Cond.code yX10_holdsAt cX10_holdsAt 6 (some .boolean) ∈ GW := inGW (List.mem_of_getElem? (i := 1015) (by rfl)) (by decide +kernel)
theorem ml_Dm_holdsAt : ML yX10_holdsAt cX10_holdsAt 6 (some .boolean) 5 := ⟨mw1015, mw112, by decide +kernel, by decide +kernel, by decide +kernel⟩
set_option maxRecDepth 20000 in
theorem mw1013 : Cond.instanceMethod ({ cls := "Datalogmill", name := "holdsAt", desc := "(IIIII)Z" } : MethodName) ∈ GW := inGW (List.mem_of_getElem? (i := 1013) (by rfl)) (by decide +kernel)
set_option maxRecDepth 20000 in
theorem mw1014 : Cond.selects "Datalogmill" ({ cls := "Datalogmill", name := "holdsAt", desc := "(IIIII)Z" } : MethodName) ({ cls := "Datalogmill", name := "holdsAt", desc := "(IIIII)Z" } : MethodName) ∈ GW := inGW (List.mem_of_getElem? (i := 1014) (by rfl)) (by decide +kernel)
theorem vl_Dm_holdsAt : VL yX10_holdsAt := ⟨mw1013, mw1014⟩
set_option maxRecDepth 20000 in
theorem mw1020 : Cond.methodLink "DatalogmillLaw" (65 : Nat) ({ cls := "Datalogmill", name := "holdsAnew", desc := "(IIIII)Z" } : MethodName) ∈ GW := inGW (List.mem_of_getElem? (i := 1020) (by rfl)) (by decide +kernel)
set_option maxRecDepth 20000 in
theorem mw1023 : Cond.code yX10_holdsAnew cX10_holdsAnew 6 (some .boolean) ∈ GW := inGW (List.mem_of_getElem? (i := 1023) (by rfl)) (by decide +kernel)
theorem ml_Dm_holdsAnew : ML yX10_holdsAnew cX10_holdsAnew 6 (some .boolean) 5 := ⟨mw1023, mw112, by decide +kernel, by decide +kernel, by decide +kernel⟩
set_option maxRecDepth 20000 in
theorem mw1021 : Cond.instanceMethod ({ cls := "Datalogmill", name := "holdsAnew", desc := "(IIIII)Z" } : MethodName) ∈ GW := inGW (List.mem_of_getElem? (i := 1021) (by rfl)) (by decide +kernel)
set_option maxRecDepth 20000 in
theorem mw1022 : Cond.selects "Datalogmill" ({ cls := "Datalogmill", name := "holdsAnew", desc := "(IIIII)Z" } : MethodName) ({ cls := "Datalogmill", name := "holdsAnew", desc := "(IIIII)Z" } : MethodName) ∈ GW := inGW (List.mem_of_getElem? (i := 1022) (by rfl)) (by decide +kernel)
theorem vl_Dm_holdsAnew : VL yX10_holdsAnew := ⟨mw1021, mw1022⟩
set_option maxRecDepth 20000 in
theorem mw1027 : Cond.methodLink "DatalogmillLaw" (68 : Nat) ({ cls := "Datalogmill", name := "size", desc := "(I)I" } : MethodName) ∈ GW := inGW (List.mem_of_getElem? (i := 1027) (by rfl)) (by decide +kernel)
set_option maxRecDepth 20000 in
theorem mw1030 : Cond.code yX10_size cX10_size 2 (some .int) ∈ GW := inGW (List.mem_of_getElem? (i := 1030) (by rfl)) (by decide +kernel)
theorem ml_Dm_size : ML yX10_size cX10_size 2 (some .int) 1 := ⟨mw1030, mw112, by decide +kernel, by decide +kernel, by decide +kernel⟩
set_option maxRecDepth 20000 in
theorem mw1028 : Cond.instanceMethod ({ cls := "Datalogmill", name := "size", desc := "(I)I" } : MethodName) ∈ GW := inGW (List.mem_of_getElem? (i := 1028) (by rfl)) (by decide +kernel)
set_option maxRecDepth 20000 in
theorem mw1029 : Cond.selects "Datalogmill" ({ cls := "Datalogmill", name := "size", desc := "(I)I" } : MethodName) ({ cls := "Datalogmill", name := "size", desc := "(I)I" } : MethodName) ∈ GW := inGW (List.mem_of_getElem? (i := 1029) (by rfl)) (by decide +kernel)
theorem vl_Dm_size : VL yX10_size := ⟨mw1028, mw1029⟩
set_option maxRecDepth 20000 in
theorem mw1039 : Cond.methodLink "DatalogmillLaw" (71 : Nat) ({ cls := "Datalogmill", name := "at", desc := "(II)I" } : MethodName) ∈ GW := inGW (List.mem_of_getElem? (i := 1039) (by rfl)) (by decide +kernel)
set_option maxRecDepth 20000 in
theorem mw1042 : Cond.code yX10_at cX10_at 4 (some .int) ∈ GW := inGW (List.mem_of_getElem? (i := 1042) (by rfl)) (by decide +kernel)
theorem ml_Dm_at : ML yX10_at cX10_at 4 (some .int) 2 := ⟨mw1042, mw112, by decide +kernel, by decide +kernel, by decide +kernel⟩
set_option maxRecDepth 20000 in
theorem mw1040 : Cond.instanceMethod ({ cls := "Datalogmill", name := "at", desc := "(II)I" } : MethodName) ∈ GW := inGW (List.mem_of_getElem? (i := 1040) (by rfl)) (by decide +kernel)
set_option maxRecDepth 20000 in
theorem mw1041 : Cond.selects "Datalogmill" ({ cls := "Datalogmill", name := "at", desc := "(II)I" } : MethodName) ({ cls := "Datalogmill", name := "at", desc := "(II)I" } : MethodName) ∈ GW := inGW (List.mem_of_getElem? (i := 1041) (by rfl)) (by decide +kernel)
theorem vl_Dm_at : VL yX10_at := ⟨mw1040, mw1041⟩
set_option maxRecDepth 20000 in
theorem mw1052 : Cond.methodLink "DatalogmillLaw" (75 : Nat) ({ cls := "Datalogmill", name := "stratum", desc := "(I)I" } : MethodName) ∈ GW := inGW (List.mem_of_getElem? (i := 1052) (by rfl)) (by decide +kernel)
set_option maxRecDepth 20000 in
theorem mw1055 : Cond.code yX10_stratum cX10_stratum 2 (some .int) ∈ GW := inGW (List.mem_of_getElem? (i := 1055) (by rfl)) (by decide +kernel)
theorem ml_Dm_stratum : ML yX10_stratum cX10_stratum 2 (some .int) 1 := ⟨mw1055, mw112, by decide +kernel, by decide +kernel, by decide +kernel⟩
set_option maxRecDepth 20000 in
theorem mw1053 : Cond.instanceMethod ({ cls := "Datalogmill", name := "stratum", desc := "(I)I" } : MethodName) ∈ GW := inGW (List.mem_of_getElem? (i := 1053) (by rfl)) (by decide +kernel)
set_option maxRecDepth 20000 in
theorem mw1054 : Cond.selects "Datalogmill" ({ cls := "Datalogmill", name := "stratum", desc := "(I)I" } : MethodName) ({ cls := "Datalogmill", name := "stratum", desc := "(I)I" } : MethodName) ∈ GW := inGW (List.mem_of_getElem? (i := 1054) (by rfl)) (by decide +kernel)
theorem vl_Dm_stratum : VL yX10_stratum := ⟨mw1053, mw1054⟩
set_option maxRecDepth 20000 in
theorem mw1060 : Cond.methodLink "DatalogmillLaw" (78 : Nat) ({ cls := "Datalogmill", name := "ways", desc := "(IIII)I" } : MethodName) ∈ GW := inGW (List.mem_of_getElem? (i := 1060) (by rfl)) (by decide +kernel)
set_option maxRecDepth 20000 in
theorem mw1063 : Cond.code yX10_ways cX10_ways 6 (some .int) ∈ GW := inGW (List.mem_of_getElem? (i := 1063) (by rfl)) (by decide +kernel)
theorem ml_Dm_ways : ML yX10_ways cX10_ways 6 (some .int) 4 := ⟨mw1063, mw112, by decide +kernel, by decide +kernel, by decide +kernel⟩
set_option maxRecDepth 20000 in
theorem mw1061 : Cond.instanceMethod ({ cls := "Datalogmill", name := "ways", desc := "(IIII)I" } : MethodName) ∈ GW := inGW (List.mem_of_getElem? (i := 1061) (by rfl)) (by decide +kernel)
set_option maxRecDepth 20000 in
theorem mw1062 : Cond.selects "Datalogmill" ({ cls := "Datalogmill", name := "ways", desc := "(IIII)I" } : MethodName) ({ cls := "Datalogmill", name := "ways", desc := "(IIII)I" } : MethodName) ∈ GW := inGW (List.mem_of_getElem? (i := 1062) (by rfl)) (by decide +kernel)
theorem vl_Dm_ways : VL yX10_ways := ⟨mw1061, mw1062⟩
set_option maxRecDepth 20000 in
theorem mw1103 : Cond.methodLink "DatalogmillLaw" (82 : Nat) ({ cls := "Datalogmill", name := "cheapest", desc := "(IIII)I" } : MethodName) ∈ GW := inGW (List.mem_of_getElem? (i := 1103) (by rfl)) (by decide +kernel)
set_option maxRecDepth 20000 in
theorem mw1106 : Cond.code yX10_cheapest cX10_cheapest 5 (some .int) ∈ GW := inGW (List.mem_of_getElem? (i := 1106) (by rfl)) (by decide +kernel)
theorem ml_Dm_cheapest : ML yX10_cheapest cX10_cheapest 5 (some .int) 4 := ⟨mw1106, mw112, by decide +kernel, by decide +kernel, by decide +kernel⟩
set_option maxRecDepth 20000 in
theorem mw1104 : Cond.instanceMethod ({ cls := "Datalogmill", name := "cheapest", desc := "(IIII)I" } : MethodName) ∈ GW := inGW (List.mem_of_getElem? (i := 1104) (by rfl)) (by decide +kernel)
set_option maxRecDepth 20000 in
theorem mw1105 : Cond.selects "Datalogmill" ({ cls := "Datalogmill", name := "cheapest", desc := "(IIII)I" } : MethodName) ({ cls := "Datalogmill", name := "cheapest", desc := "(IIII)I" } : MethodName) ∈ GW := inGW (List.mem_of_getElem? (i := 1105) (by rfl)) (by decide +kernel)
theorem vl_Dm_cheapest : VL yX10_cheapest := ⟨mw1104, mw1105⟩
set_option maxRecDepth 20000 in
theorem mw1142 : Cond.methodLink "DatalogmillLaw" (85 : Nat) ({ cls := "Datalogmill", name := "needed", desc := "(IIII)I" } : MethodName) ∈ GW := inGW (List.mem_of_getElem? (i := 1142) (by rfl)) (by decide +kernel)
set_option maxRecDepth 20000 in
theorem mw1145 : Cond.code yX10_needed cX10_needed 9 (some .int) ∈ GW := inGW (List.mem_of_getElem? (i := 1145) (by rfl)) (by decide +kernel)
theorem ml_Dm_needed : ML yX10_needed cX10_needed 9 (some .int) 4 := ⟨mw1145, mw112, by decide +kernel, by decide +kernel, by decide +kernel⟩
set_option maxRecDepth 20000 in
theorem mw1143 : Cond.instanceMethod ({ cls := "Datalogmill", name := "needed", desc := "(IIII)I" } : MethodName) ∈ GW := inGW (List.mem_of_getElem? (i := 1143) (by rfl)) (by decide +kernel)
set_option maxRecDepth 20000 in
theorem mw1144 : Cond.selects "Datalogmill" ({ cls := "Datalogmill", name := "needed", desc := "(IIII)I" } : MethodName) ({ cls := "Datalogmill", name := "needed", desc := "(IIII)I" } : MethodName) ∈ GW := inGW (List.mem_of_getElem? (i := 1144) (by rfl)) (by decide +kernel)
theorem vl_Dm_needed : VL yX10_needed := ⟨mw1143, mw1144⟩
set_option maxRecDepth 20000 in
theorem mw1149 : Cond.methodLink "DatalogmillLaw" (88 : Nat) ({ cls := "Datalogmill", name := "whyNot", desc := "(IIII)I" } : MethodName) ∈ GW := inGW (List.mem_of_getElem? (i := 1149) (by rfl)) (by decide +kernel)
set_option maxRecDepth 20000 in
theorem mw1152 : Cond.code yX10_whyNot cX10_whyNot 9 (some .int) ∈ GW := inGW (List.mem_of_getElem? (i := 1152) (by rfl)) (by decide +kernel)
theorem ml_Dm_whyNot : ML yX10_whyNot cX10_whyNot 9 (some .int) 4 := ⟨mw1152, mw112, by decide +kernel, by decide +kernel, by decide +kernel⟩
set_option maxRecDepth 20000 in
theorem mw1150 : Cond.instanceMethod ({ cls := "Datalogmill", name := "whyNot", desc := "(IIII)I" } : MethodName) ∈ GW := inGW (List.mem_of_getElem? (i := 1150) (by rfl)) (by decide +kernel)
set_option maxRecDepth 20000 in
theorem mw1151 : Cond.selects "Datalogmill" ({ cls := "Datalogmill", name := "whyNot", desc := "(IIII)I" } : MethodName) ({ cls := "Datalogmill", name := "whyNot", desc := "(IIII)I" } : MethodName) ∈ GW := inGW (List.mem_of_getElem? (i := 1151) (by rfl)) (by decide +kernel)
theorem vl_Dm_whyNot : VL yX10_whyNot := ⟨mw1150, mw1151⟩
set_option maxRecDepth 20000 in
theorem mw1162 : Cond.methodLink "DatalogmillLaw" (91 : Nat) ({ cls := "Datalogmill", name := "goals", desc := "(IIII)I" } : MethodName) ∈ GW := inGW (List.mem_of_getElem? (i := 1162) (by rfl)) (by decide +kernel)
set_option maxRecDepth 20000 in
theorem mw1165 : Cond.code yX10_goals cX10_goals 6 (some .int) ∈ GW := inGW (List.mem_of_getElem? (i := 1165) (by rfl)) (by decide +kernel)
theorem ml_Dm_goals : ML yX10_goals cX10_goals 6 (some .int) 4 := ⟨mw1165, mw112, by decide +kernel, by decide +kernel, by decide +kernel⟩
set_option maxRecDepth 20000 in
theorem mw1163 : Cond.instanceMethod ({ cls := "Datalogmill", name := "goals", desc := "(IIII)I" } : MethodName) ∈ GW := inGW (List.mem_of_getElem? (i := 1163) (by rfl)) (by decide +kernel)
set_option maxRecDepth 20000 in
theorem mw1164 : Cond.selects "Datalogmill" ({ cls := "Datalogmill", name := "goals", desc := "(IIII)I" } : MethodName) ({ cls := "Datalogmill", name := "goals", desc := "(IIII)I" } : MethodName) ∈ GW := inGW (List.mem_of_getElem? (i := 1164) (by rfl)) (by decide +kernel)
theorem vl_Dm_goals : VL yX10_goals := ⟨mw1163, mw1164⟩
set_option maxRecDepth 20000 in
theorem mw1198 : Cond.methodLink "DatalogmillLaw" (94 : Nat) ({ cls := "Datalogmill", name := "order", desc := "(II)I" } : MethodName) ∈ GW := inGW (List.mem_of_getElem? (i := 1198) (by rfl)) (by decide +kernel)
set_option maxRecDepth 20000 in
theorem mw1201 : Cond.code yX10_order cX10_order 3 (some .int) ∈ GW := inGW (List.mem_of_getElem? (i := 1201) (by rfl)) (by decide +kernel)
theorem ml_Dm_order : ML yX10_order cX10_order 3 (some .int) 2 := ⟨mw1201, mw112, by decide +kernel, by decide +kernel, by decide +kernel⟩
set_option maxRecDepth 20000 in
theorem mw1199 : Cond.instanceMethod ({ cls := "Datalogmill", name := "order", desc := "(II)I" } : MethodName) ∈ GW := inGW (List.mem_of_getElem? (i := 1199) (by rfl)) (by decide +kernel)
set_option maxRecDepth 20000 in
theorem mw1200 : Cond.selects "Datalogmill" ({ cls := "Datalogmill", name := "order", desc := "(II)I" } : MethodName) ({ cls := "Datalogmill", name := "order", desc := "(II)I" } : MethodName) ∈ GW := inGW (List.mem_of_getElem? (i := 1200) (by rfl)) (by decide +kernel)
theorem vl_Dm_order : VL yX10_order := ⟨mw1199, mw1200⟩
set_option maxRecDepth 20000 in
theorem mw1228 : Cond.methodLink "DatalogmillLaw" (97 : Nat) ({ cls := "Datalogmill", name := "joins", desc := "(I)I" } : MethodName) ∈ GW := inGW (List.mem_of_getElem? (i := 1228) (by rfl)) (by decide +kernel)
set_option maxRecDepth 20000 in
theorem mw1231 : Cond.code yX10_joins cX10_joins 5 (some .int) ∈ GW := inGW (List.mem_of_getElem? (i := 1231) (by rfl)) (by decide +kernel)
theorem ml_Dm_joins : ML yX10_joins cX10_joins 5 (some .int) 1 := ⟨mw1231, mw112, by decide +kernel, by decide +kernel, by decide +kernel⟩
set_option maxRecDepth 20000 in
theorem mw1229 : Cond.instanceMethod ({ cls := "Datalogmill", name := "joins", desc := "(I)I" } : MethodName) ∈ GW := inGW (List.mem_of_getElem? (i := 1229) (by rfl)) (by decide +kernel)
set_option maxRecDepth 20000 in
theorem mw1230 : Cond.selects "Datalogmill" ({ cls := "Datalogmill", name := "joins", desc := "(I)I" } : MethodName) ({ cls := "Datalogmill", name := "joins", desc := "(I)I" } : MethodName) ∈ GW := inGW (List.mem_of_getElem? (i := 1230) (by rfl)) (by decide +kernel)
theorem vl_Dm_joins : VL yX10_joins := ⟨mw1229, mw1230⟩
set_option maxRecDepth 20000 in
theorem mw1250 : Cond.methodLink "DatalogmillLaw" (100 : Nat) ({ cls := "Datalogmill", name := "indexes", desc := "(I)I" } : MethodName) ∈ GW := inGW (List.mem_of_getElem? (i := 1250) (by rfl)) (by decide +kernel)
set_option maxRecDepth 20000 in
theorem mw1253 : Cond.code yX10_indexes cX10_indexes 5 (some .int) ∈ GW := inGW (List.mem_of_getElem? (i := 1253) (by rfl)) (by decide +kernel)
theorem ml_Dm_indexes : ML yX10_indexes cX10_indexes 5 (some .int) 1 := ⟨mw1253, mw112, by decide +kernel, by decide +kernel, by decide +kernel⟩
set_option maxRecDepth 20000 in
theorem mw1251 : Cond.instanceMethod ({ cls := "Datalogmill", name := "indexes", desc := "(I)I" } : MethodName) ∈ GW := inGW (List.mem_of_getElem? (i := 1251) (by rfl)) (by decide +kernel)
set_option maxRecDepth 20000 in
theorem mw1252 : Cond.selects "Datalogmill" ({ cls := "Datalogmill", name := "indexes", desc := "(I)I" } : MethodName) ({ cls := "Datalogmill", name := "indexes", desc := "(I)I" } : MethodName) ∈ GW := inGW (List.mem_of_getElem? (i := 1252) (by rfl)) (by decide +kernel)
theorem vl_Dm_indexes : VL yX10_indexes := ⟨mw1251, mw1252⟩
/-! THE WRAPPERS OF THE LAW, printed by program -/
def xcd (n : Nat) : Int := if n = 1 then -2000000001 else if n = 2 then -2000000002 else -2000000003
theorem lxc1 : Cond.classLink "DatalogmillLaw" 13 (xName 1) ∈ GW := mw444
theorem lxc2 : Cond.classLink "DatalogmillLaw" 16 (xName 2) ∈ GW := mw445
theorem lxc3 : Cond.classLink "DatalogmillLaw" 19 (xName 3) ∈ GW := mw446
abbrev rm_L_declares : Room := { frames := 7, cells := 1, slots := 6, locals := 124 }
def hh_L_declares : List (Nat × Nat × Nat × Nat) := [(0, 10, 11, 13), (0, 10, 16, 16), (0, 10, 21, 19)]
noncomputable def f_L_declares (z : ZQ) (m0 : Bool) (x1 x2 x3 x4 : Int) : Option (ZQ × Int) :=
  bnd (f_Dm_declare (zg z m0) x1 x2 x3 x4) fun v => gd (v.2.1 = 0 ∨ v.2.1 = 1 ∨ v.2.1 = 2 ∨ v.2.1 = 3) (some (zs z m0 v.1, if v.2.1 = 0 then 1 else xcd v.2.1))
theorem c_L_declares {X : QX} {l : Launch} (hst : l.stackTraces = false) (hA : ApQ X) {z : ZQ} {m0 : Bool} {x1 x2 x3 x4 : Int} (r_x1 : R32 x1) (r_x2 : R32 x2) (r_x3 : R32 x3) (r_x4 : R32 x4) {out : ZQ × Int} (hf : f_L_declares z m0 x1 x2 x3 x4 = some out) : ConQW X l yL_declares (WSW yL_declares cL_declares 6 (some .int) hh_L_declares) rm_L_declares [rf (X.M m0).ad 1, .int (ii x1), .int (ii x2), .int (ii x3), .int (ii x4)] z out.1 out.2 := by
  unfold f_L_declares at hf
  obtain ⟨v, ev, hf⟩ := bnd_some hf
  obtain ⟨hn, hf⟩ := gd_some hf
  have hf := some_inj hf
  subst hf
  refine con_QW (by decide +kernel) rfl (Nat.le_of_ble_eq_true rfl) (c1s_r (c1s_i (c1s_i (c1s_i (c1s_i c1s_0 (Nat.le_of_ble_eq_true rfl)) (Nat.le_of_ble_eq_true rfl)) (Nat.le_of_ble_eq_true rfl)) (Nat.le_of_ble_eq_true rfl)) (Nat.le_of_ble_eq_true rfl)).1 hA hst ?_
  intro K H0 o g kc0 hst gT hret
  refine J_aload_n o dL_declares_0 rfl ?_
  refine J_iload_n o dL_declares_1 rfl ?_
  refine J_iload_n o dL_declares_2 rfl ?_
  refine J_iload_n o dL_declares_3 rfl ?_
  refine J_iload o dL_declares_4 rfl ?_
  refine J_qxV (m := m0) (vs := [.int (ii x1), .int (ii x2), .int (ii x3), .int (ii x4)]) o g kc0 dL_declares_6 mw447 ml_Dm_declare vl_Dm_declare ⟨rfl, rfl, Nat.le_of_ble_eq_true rfl, Nat.le_of_ble_eq_true rfl⟩ ⟨Nat.le_refl _, Nat.le_refl _⟩ (c_Dm_declare hst g.2.1.inj r_x1 r_x2 r_x3 r_x4 ev) kA_1 rfl ⟨by decide, by decide⟩ rfl rfl c1s_0 (fun h0 => ?_) (fun h0 => ?_)
  · have o2 := OkQ.add (a := 1) (b := 6) o
    refine J_iconst o2 dL_declares_9 ?_
    exact hret _ _ _ rl1 (if_pos h0).symm dL_declares_10
  · have o2 := OkQ.add (a := 1) (b := 6) o
    have g2 := GdQ.add (a := 1) (b := 6) g
    rcases hn with hn | hn | hn | hn
    · exact absurd hn h0
    · rw [hn]
      refine J_qcatch (hh := hh_L_declares) o2 g2 gT [] (0, 10, 11, 13) [(0, 10, 16, 16), (0, 10, 21, 19)] rfl (Or.inl rfl) (fun _ h => absurd h List.not_mem_nil) ⟨by decide, by decide⟩ (by decide) lxc1 (fun q => ?_)
      refine J_astO o2 dL_declares_11 (Nat.le_of_ble_eq_true rfl) ?_
      refine J_ldc o2 dL_declares_13 kcL_15 ?_
      exact hret _ _ _ rlm2000000001 (by rw [if_neg h0, hn]; rfl) dL_declares_15
    · rw [hn]
      refine J_qcatch (hh := hh_L_declares) o2 g2 gT [(0, 10, 11, 13)] (0, 10, 16, 16) [(0, 10, 21, 19)] rfl (Or.inr (Or.inl rfl)) (by
        intro z hz
        simp only [List.mem_cons, List.not_mem_nil, or_false] at hz
        rcases hz with rfl
        · exact ⟨by decide, 1, Or.inl rfl, by decide, lxc1⟩) ⟨by decide, by decide⟩ (by decide) lxc2 (fun q => ?_)
      refine J_astO o2 dL_declares_16 (Nat.le_of_ble_eq_true rfl) ?_
      refine J_ldc o2 dL_declares_18 kcL_18 ?_
      exact hret _ _ _ rlm2000000002 (by rw [if_neg h0, hn]; rfl) dL_declares_20
    · rw [hn]
      refine J_qcatch (hh := hh_L_declares) o2 g2 gT [(0, 10, 11, 13), (0, 10, 16, 16)] (0, 10, 21, 19) [] rfl (Or.inr (Or.inr rfl)) (by
        intro z hz
        simp only [List.mem_cons, List.not_mem_nil, or_false] at hz
        rcases hz with rfl | rfl
        · exact ⟨by decide, 1, Or.inl rfl, by decide, lxc1⟩
        · exact ⟨by decide, 2, Or.inr (Or.inl rfl), by decide, lxc2⟩) ⟨by decide, by decide⟩ (by decide) lxc3 (fun q => ?_)
      refine J_astO o2 dL_declares_21 (Nat.le_of_ble_eq_true rfl) ?_
      refine J_ldc o2 dL_declares_23 kcL_21 ?_
      exact hret _ _ _ rlm2000000003 (by rw [if_neg h0, hn]; rfl) dL_declares_25
abbrev rm_L_facts : Room := { frames := 9, cells := 1, slots := 6, locals := 233 }
def hh_L_facts : List (Nat × Nat × Nat × Nat) := [(0, 15, 16, 13), (0, 15, 21, 16), (0, 15, 26, 19)]
noncomputable def f_L_facts (z : ZQ) (m0 : Bool) (x1 x2 x3 x4 x5 x6 x7 : Int) : Option (ZQ × Int) :=
  bnd (f_Dm_fact (zg z m0) x1 x2 x3 x4 x5 x6 x7) fun v => gd (v.2.1 = 0 ∨ v.2.1 = 1 ∨ v.2.1 = 2 ∨ v.2.1 = 3) (some (zs z m0 v.1, if v.2.1 = 0 then v.2.2 else xcd v.2.1))
theorem c_L_facts {X : QX} {l : Launch} (hst : l.stackTraces = false) (hA : ApQ X) {z : ZQ} {m0 : Bool} {x1 x2 x3 x4 x5 x6 x7 : Int} (r_x1 : R32 x1) (r_x2 : R32 x2) (r_x3 : R32 x3) (r_x4 : R32 x4) (r_x5 : R32 x5) (r_x6 : R32 x6) (r_x7 : R32 x7) {out : ZQ × Int} (hf : f_L_facts z m0 x1 x2 x3 x4 x5 x6 x7 = some out) : ConQW X l yL_facts (WSW yL_facts cL_facts 9 (some .int) hh_L_facts) rm_L_facts [rf (X.M m0).ad 1, .int (ii x1), .int (ii x2), .int (ii x3), .int (ii x4), .int (ii x5), .int (ii x6), .int (ii x7)] z out.1 out.2 := by
  unfold f_L_facts at hf
  obtain ⟨v, ev, hf⟩ := bnd_some hf
  obtain ⟨hn, hf⟩ := gd_some hf
  have hf := some_inj hf
  subst hf
  refine con_QW (by decide +kernel) rfl (Nat.le_of_ble_eq_true rfl) (c1s_r (c1s_i (c1s_i (c1s_i (c1s_i (c1s_i (c1s_i (c1s_i c1s_0 (Nat.le_of_ble_eq_true rfl)) (Nat.le_of_ble_eq_true rfl)) (Nat.le_of_ble_eq_true rfl)) (Nat.le_of_ble_eq_true rfl)) (Nat.le_of_ble_eq_true rfl)) (Nat.le_of_ble_eq_true rfl)) (Nat.le_of_ble_eq_true rfl)) (Nat.le_of_ble_eq_true rfl)).1 hA hst ?_
  intro K H0 o g kc0 hst gT hret
  refine J_aload_n o dL_facts_0 rfl ?_
  refine J_iload_n o dL_facts_1 rfl ?_
  refine J_iload_n o dL_facts_2 rfl ?_
  refine J_iload_n o dL_facts_3 rfl ?_
  refine J_iload o dL_facts_4 rfl ?_
  refine J_iload o dL_facts_6 rfl ?_
  refine J_iload o dL_facts_8 rfl ?_
  refine J_iload o dL_facts_10 rfl ?_
  refine J_qxI (m := m0) (vs := [.int (ii x1), .int (ii x2), .int (ii x3), .int (ii x4), .int (ii x5), .int (ii x6), .int (ii x7)]) o g kc0 dL_facts_12 mw583 ml_Dm_fact vl_Dm_fact ⟨rfl, rfl, Nat.le_of_ble_eq_true rfl, Nat.le_of_ble_eq_true rfl⟩ ⟨Nat.le_refl _, Nat.le_refl _⟩ (c_Dm_fact hst g.2.1.inj r_x1 r_x2 r_x3 r_x4 r_x5 r_x6 r_x7 ev) kA_1 rfl ⟨by decide, by decide⟩ rfl rfl c1s_0 (fun h0 hr => ?_) (fun h0 => ?_)
  · have o2 := OkQ.add (a := 1) (b := 6) o
    exact hret _ _ _ hr (if_pos h0).symm dL_facts_15
  · have o2 := OkQ.add (a := 1) (b := 6) o
    have g2 := GdQ.add (a := 1) (b := 6) g
    rcases hn with hn | hn | hn | hn
    · exact absurd hn h0
    · rw [hn]
      refine J_qcatch (hh := hh_L_facts) o2 g2 gT [] (0, 15, 16, 13) [(0, 15, 21, 16), (0, 15, 26, 19)] rfl (Or.inl rfl) (fun _ h => absurd h List.not_mem_nil) ⟨by decide, by decide⟩ (by decide) lxc1 (fun q => ?_)
      refine J_astO o2 dL_facts_16 (Nat.le_of_ble_eq_true rfl) ?_
      refine J_ldc o2 dL_facts_18 kcL_15 ?_
      exact hret _ _ _ rlm2000000001 (by rw [if_neg h0, hn]; rfl) dL_facts_20
    · rw [hn]
      refine J_qcatch (hh := hh_L_facts) o2 g2 gT [(0, 15, 16, 13)] (0, 15, 21, 16) [(0, 15, 26, 19)] rfl (Or.inr (Or.inl rfl)) (by
        intro z hz
        simp only [List.mem_cons, List.not_mem_nil, or_false] at hz
        rcases hz with rfl
        · exact ⟨by decide, 1, Or.inl rfl, by decide, lxc1⟩) ⟨by decide, by decide⟩ (by decide) lxc2 (fun q => ?_)
      refine J_astO o2 dL_facts_21 (Nat.le_of_ble_eq_true rfl) ?_
      refine J_ldc o2 dL_facts_23 kcL_18 ?_
      exact hret _ _ _ rlm2000000002 (by rw [if_neg h0, hn]; rfl) dL_facts_25
    · rw [hn]
      refine J_qcatch (hh := hh_L_facts) o2 g2 gT [(0, 15, 16, 13), (0, 15, 21, 16)] (0, 15, 26, 19) [] rfl (Or.inr (Or.inr rfl)) (by
        intro z hz
        simp only [List.mem_cons, List.not_mem_nil, or_false] at hz
        rcases hz with rfl | rfl
        · exact ⟨by decide, 1, Or.inl rfl, by decide, lxc1⟩
        · exact ⟨by decide, 2, Or.inr (Or.inl rfl), by decide, lxc2⟩) ⟨by decide, by decide⟩ (by decide) lxc3 (fun q => ?_)
      refine J_astO o2 dL_facts_26 (Nat.le_of_ble_eq_true rfl) ?_
      refine J_ldc o2 dL_facts_28 kcL_21 ?_
      exact hret _ _ _ rlm2000000003 (by rw [if_neg h0, hn]; rfl) dL_facts_30
abbrev rm_L_drops : Room := { frames := 9, cells := 1, slots := 6, locals := 227 }
def hh_L_drops : List (Nat × Nat × Nat × Nat) := [(0, 5, 6, 13), (0, 5, 10, 19)]
noncomputable def f_L_drops (z : ZQ) (m0 : Bool) (x1 : Int) : Option (ZQ × Int) :=
  bnd (f_Dm_drop (zg z m0) x1) fun v => gd (v.2.1 = 0 ∨ v.2.1 = 1 ∨ v.2.1 = 3) (some (zs z m0 v.1, if v.2.1 = 0 then v.2.2 else xcd v.2.1))
theorem c_L_drops {X : QX} {l : Launch} (hst : l.stackTraces = false) (hA : ApQ X) {z : ZQ} {m0 : Bool} {x1 : Int} (r_x1 : R32 x1) {out : ZQ × Int} (hf : f_L_drops z m0 x1 = some out) : ConQW X l yL_drops (WSW yL_drops cL_drops 3 (some .int) hh_L_drops) rm_L_drops [rf (X.M m0).ad 1, .int (ii x1)] z out.1 out.2 := by
  unfold f_L_drops at hf
  obtain ⟨v, ev, hf⟩ := bnd_some hf
  obtain ⟨hn, hf⟩ := gd_some hf
  have hf := some_inj hf
  subst hf
  refine con_QW (by decide +kernel) rfl (Nat.le_of_ble_eq_true rfl) (c1s_r (c1s_i c1s_0 (Nat.le_of_ble_eq_true rfl)) (Nat.le_of_ble_eq_true rfl)).1 hA hst ?_
  intro K H0 o g kc0 hst gT hret
  refine J_aload_n o dL_drops_0 rfl ?_
  refine J_iload_n o dL_drops_1 rfl ?_
  refine J_qxI (m := m0) (vs := [.int (ii x1)]) o g kc0 dL_drops_2 mw817 ml_Dm_drop vl_Dm_drop ⟨rfl, rfl, Nat.le_of_ble_eq_true rfl, Nat.le_of_ble_eq_true rfl⟩ ⟨Nat.le_refl _, Nat.le_refl _⟩ (c_Dm_drop hst g.2.1.inj r_x1 ev) kA_1 rfl ⟨by decide, by decide⟩ rfl rfl c1s_0 (fun h0 hr => ?_) (fun h0 => ?_)
  · have o2 := OkQ.add (a := 1) (b := 6) o
    exact hret _ _ _ hr (if_pos h0).symm dL_drops_5
  · have o2 := OkQ.add (a := 1) (b := 6) o
    have g2 := GdQ.add (a := 1) (b := 6) g
    rcases hn with hn | hn | hn
    · exact absurd hn h0
    · rw [hn]
      refine J_qcatch (hh := hh_L_drops) o2 g2 gT [] (0, 5, 6, 13) [(0, 5, 10, 19)] rfl (Or.inl rfl) (fun _ h => absurd h List.not_mem_nil) ⟨by decide, by decide⟩ (by decide) lxc1 (fun q => ?_)
      refine J_astO_n o2 dL_drops_6 (Nat.le_of_ble_eq_true rfl) ?_
      refine J_ldc o2 dL_drops_7 kcL_15 ?_
      exact hret _ _ _ rlm2000000001 (by rw [if_neg h0, hn]; rfl) dL_drops_9
    · rw [hn]
      refine J_qcatch (hh := hh_L_drops) o2 g2 gT [(0, 5, 6, 13)] (0, 5, 10, 19) [] rfl (Or.inr (Or.inr rfl)) (by
        intro z hz
        simp only [List.mem_cons, List.not_mem_nil, or_false] at hz
        rcases hz with rfl
        · exact ⟨by decide, 1, Or.inl rfl, by decide, lxc1⟩) ⟨by decide, by decide⟩ (by decide) lxc3 (fun q => ?_)
      refine J_astO_n o2 dL_drops_10 (Nat.le_of_ble_eq_true rfl) ?_
      refine J_ldc o2 dL_drops_11 kcL_21 ?_
      exact hret _ _ _ rlm2000000003 (by rw [if_neg h0, hn]; rfl) dL_drops_13
abbrev rm_L_passes : Room := { frames := 7, cells := 1, slots := 6, locals := 120 }
def hh_L_passes : List (Nat × Nat × Nat × Nat) := [(0, 4, 5, 19)]
noncomputable def f_L_passes (z : ZQ) (m0 : Bool) : Option (ZQ × Int) :=
  bnd (f_Dm_pass (zg z m0)) fun v => gd (v.2.1 = 0 ∨ v.2.1 = 3) (some (zs z m0 v.1, if v.2.1 = 0 then v.2.2 else xcd v.2.1))
theorem c_L_passes {X : QX} {l : Launch} (hst : l.stackTraces = false) (hA : ApQ X) {z : ZQ} {m0 : Bool}  {out : ZQ × Int} (hf : f_L_passes z m0 = some out) : ConQW X l yL_passes (WSW yL_passes cL_passes 2 (some .int) hh_L_passes) rm_L_passes [rf (X.M m0).ad 1] z out.1 out.2 := by
  unfold f_L_passes at hf
  obtain ⟨v, ev, hf⟩ := bnd_some hf
  obtain ⟨hn, hf⟩ := gd_some hf
  have hf := some_inj hf
  subst hf
  refine con_QW (by decide +kernel) rfl (Nat.le_of_ble_eq_true rfl) (c1s_r c1s_0 (Nat.le_of_ble_eq_true rfl)).1 hA hst ?_
  intro K H0 o g kc0 hst gT hret
  refine J_aload_n o dL_passes_0 rfl ?_
  refine J_qxI (m := m0) (vs := []) o g kc0 dL_passes_1 mw985 ml_Dm_pass vl_Dm_pass ⟨rfl, rfl, Nat.le_of_ble_eq_true rfl, Nat.le_of_ble_eq_true rfl⟩ ⟨Nat.le_refl _, Nat.le_refl _⟩ (c_Dm_pass hst g.2.1.inj  ev) kA_1 rfl ⟨by decide, by decide⟩ rfl rfl c1s_0 (fun h0 hr => ?_) (fun h0 => ?_)
  · have o2 := OkQ.add (a := 1) (b := 6) o
    exact hret _ _ _ hr (if_pos h0).symm dL_passes_4
  · have o2 := OkQ.add (a := 1) (b := 6) o
    have g2 := GdQ.add (a := 1) (b := 6) g
    rcases hn with hn | hn
    · exact absurd hn h0
    · rw [hn]
      refine J_qcatch (hh := hh_L_passes) o2 g2 gT [] (0, 4, 5, 19) [] rfl (Or.inr (Or.inr rfl)) (fun _ h => absurd h List.not_mem_nil) ⟨by decide, by decide⟩ (by decide) lxc3 (fun q => ?_)
      refine J_astO_n o2 dL_passes_5 (Nat.le_of_ble_eq_true rfl) ?_
      refine J_ldc o2 dL_passes_6 kcL_21 ?_
      exact hret _ _ _ rlm2000000003 (by rw [if_neg h0, hn]; rfl) dL_passes_8
abbrev rm_L_heads : Room := { frames := 7, cells := 1, slots := 6, locals := 124 }
def hh_L_heads : List (Nat × Nat × Nat × Nat) := [(0, 10, 11, 13), (0, 10, 16, 16)]
noncomputable def f_L_heads (z : ZQ) (m0 : Bool) (x1 x2 x3 x4 : Int) : Option (ZQ × Int) :=
  bnd (f_Dm_head (zg z m0) x1 x2 x3 x4) fun v => gd (v.2.1 = 0 ∨ v.2.1 = 1 ∨ v.2.1 = 2) (some (zs z m0 v.1, if v.2.1 = 0 then 1 else xcd v.2.1))
theorem c_L_heads {X : QX} {l : Launch} (hst : l.stackTraces = false) (hA : ApQ X) {z : ZQ} {m0 : Bool} {x1 x2 x3 x4 : Int} (r_x1 : R32 x1) (r_x2 : R32 x2) (r_x3 : R32 x3) (r_x4 : R32 x4) {out : ZQ × Int} (hf : f_L_heads z m0 x1 x2 x3 x4 = some out) : ConQW X l yL_heads (WSW yL_heads cL_heads 6 (some .int) hh_L_heads) rm_L_heads [rf (X.M m0).ad 1, .int (ii x1), .int (ii x2), .int (ii x3), .int (ii x4)] z out.1 out.2 := by
  unfold f_L_heads at hf
  obtain ⟨v, ev, hf⟩ := bnd_some hf
  obtain ⟨hn, hf⟩ := gd_some hf
  have hf := some_inj hf
  subst hf
  refine con_QW (by decide +kernel) rfl (Nat.le_of_ble_eq_true rfl) (c1s_r (c1s_i (c1s_i (c1s_i (c1s_i c1s_0 (Nat.le_of_ble_eq_true rfl)) (Nat.le_of_ble_eq_true rfl)) (Nat.le_of_ble_eq_true rfl)) (Nat.le_of_ble_eq_true rfl)) (Nat.le_of_ble_eq_true rfl)).1 hA hst ?_
  intro K H0 o g kc0 hst gT hret
  refine J_aload_n o dL_heads_0 rfl ?_
  refine J_iload_n o dL_heads_1 rfl ?_
  refine J_iload_n o dL_heads_2 rfl ?_
  refine J_iload_n o dL_heads_3 rfl ?_
  refine J_iload o dL_heads_4 rfl ?_
  refine J_qxV (m := m0) (vs := [.int (ii x1), .int (ii x2), .int (ii x3), .int (ii x4)]) o g kc0 dL_heads_6 mw842 ml_Dm_head vl_Dm_head ⟨rfl, rfl, Nat.le_of_ble_eq_true rfl, Nat.le_of_ble_eq_true rfl⟩ ⟨Nat.le_refl _, Nat.le_refl _⟩ (c_Dm_head hst g.2.1.inj r_x1 r_x2 r_x3 r_x4 ev) kA_1 rfl ⟨by decide, by decide⟩ rfl rfl c1s_0 (fun h0 => ?_) (fun h0 => ?_)
  · have o2 := OkQ.add (a := 1) (b := 6) o
    refine J_iconst o2 dL_heads_9 ?_
    exact hret _ _ _ rl1 (if_pos h0).symm dL_heads_10
  · have o2 := OkQ.add (a := 1) (b := 6) o
    have g2 := GdQ.add (a := 1) (b := 6) g
    rcases hn with hn | hn | hn
    · exact absurd hn h0
    · rw [hn]
      refine J_qcatch (hh := hh_L_heads) o2 g2 gT [] (0, 10, 11, 13) [(0, 10, 16, 16)] rfl (Or.inl rfl) (fun _ h => absurd h List.not_mem_nil) ⟨by decide, by decide⟩ (by decide) lxc1 (fun q => ?_)
      refine J_astO o2 dL_heads_11 (Nat.le_of_ble_eq_true rfl) ?_
      refine J_ldc o2 dL_heads_13 kcL_15 ?_
      exact hret _ _ _ rlm2000000001 (by rw [if_neg h0, hn]; rfl) dL_heads_15
    · rw [hn]
      refine J_qcatch (hh := hh_L_heads) o2 g2 gT [(0, 10, 11, 13)] (0, 10, 16, 16) [] rfl (Or.inr (Or.inl rfl)) (by
        intro z hz
        simp only [List.mem_cons, List.not_mem_nil, or_false] at hz
        rcases hz with rfl
        · exact ⟨by decide, 1, Or.inl rfl, by decide, lxc1⟩) ⟨by decide, by decide⟩ (by decide) lxc2 (fun q => ?_)
      refine J_astO o2 dL_heads_16 (Nat.le_of_ble_eq_true rfl) ?_
      refine J_ldc o2 dL_heads_18 kcL_18 ?_
      exact hret _ _ _ rlm2000000002 (by rw [if_neg h0, hn]; rfl) dL_heads_20
abbrev rm_L_atoms : Room := { frames := 7, cells := 1, slots := 6, locals := 125 }
def hh_L_atoms : List (Nat × Nat × Nat × Nat) := [(0, 11, 12, 13), (0, 11, 17, 16), (0, 11, 22, 19)]
noncomputable def f_L_atoms (z : ZQ) (m0 : Bool) (x1 x2 x3 x4 x5 : Int) : Option (ZQ × Int) :=
  bnd (f_Dm_atom (zg z m0) x1 x2 x3 x4 x5) fun v => gd (v.2.1 = 0 ∨ v.2.1 = 1 ∨ v.2.1 = 2 ∨ v.2.1 = 3) (some (zs z m0 v.1, if v.2.1 = 0 then v.2.2 else xcd v.2.1))
theorem c_L_atoms {X : QX} {l : Launch} (hst : l.stackTraces = false) (hA : ApQ X) {z : ZQ} {m0 : Bool} {x1 x2 x3 x4 x5 : Int} (r_x1 : R32 x1) (r_x2 : R32 x2) (r_x3 : R32 x3) (r_x4 : R32 x4) (r_x5 : R32 x5) {out : ZQ × Int} (hf : f_L_atoms z m0 x1 x2 x3 x4 x5 = some out) : ConQW X l yL_atoms (WSW yL_atoms cL_atoms 7 (some .int) hh_L_atoms) rm_L_atoms [rf (X.M m0).ad 1, .int (ii x1), .int (ii x2), .int (ii x3), .int (ii x4), .int (ii x5)] z out.1 out.2 := by
  unfold f_L_atoms at hf
  obtain ⟨v, ev, hf⟩ := bnd_some hf
  obtain ⟨hn, hf⟩ := gd_some hf
  have hf := some_inj hf
  subst hf
  refine con_QW (by decide +kernel) rfl (Nat.le_of_ble_eq_true rfl) (c1s_r (c1s_i (c1s_i (c1s_i (c1s_i (c1s_i c1s_0 (Nat.le_of_ble_eq_true rfl)) (Nat.le_of_ble_eq_true rfl)) (Nat.le_of_ble_eq_true rfl)) (Nat.le_of_ble_eq_true rfl)) (Nat.le_of_ble_eq_true rfl)) (Nat.le_of_ble_eq_true rfl)).1 hA hst ?_
  intro K H0 o g kc0 hst gT hret
  refine J_aload_n o dL_atoms_0 rfl ?_
  refine J_iload_n o dL_atoms_1 rfl ?_
  refine J_iload_n o dL_atoms_2 rfl ?_
  refine J_iload_n o dL_atoms_3 rfl ?_
  refine J_iload o dL_atoms_4 rfl ?_
  refine J_iload o dL_atoms_6 rfl ?_
  refine J_qxI (m := m0) (vs := [.int (ii x1), .int (ii x2), .int (ii x3), .int (ii x4), .int (ii x5)]) o g kc0 dL_atoms_8 mw859 ml_Dm_atom vl_Dm_atom ⟨rfl, rfl, Nat.le_of_ble_eq_true rfl, Nat.le_of_ble_eq_true rfl⟩ ⟨Nat.le_refl _, Nat.le_refl _⟩ (c_Dm_atom hst g.2.1.inj r_x1 r_x2 r_x3 r_x4 r_x5 ev) kA_1 rfl ⟨by decide, by decide⟩ rfl rfl c1s_0 (fun h0 hr => ?_) (fun h0 => ?_)
  · have o2 := OkQ.add (a := 1) (b := 6) o
    exact hret _ _ _ hr (if_pos h0).symm dL_atoms_11
  · have o2 := OkQ.add (a := 1) (b := 6) o
    have g2 := GdQ.add (a := 1) (b := 6) g
    rcases hn with hn | hn | hn | hn
    · exact absurd hn h0
    · rw [hn]
      refine J_qcatch (hh := hh_L_atoms) o2 g2 gT [] (0, 11, 12, 13) [(0, 11, 17, 16), (0, 11, 22, 19)] rfl (Or.inl rfl) (fun _ h => absurd h List.not_mem_nil) ⟨by decide, by decide⟩ (by decide) lxc1 (fun q => ?_)
      refine J_astO o2 dL_atoms_12 (Nat.le_of_ble_eq_true rfl) ?_
      refine J_ldc o2 dL_atoms_14 kcL_15 ?_
      exact hret _ _ _ rlm2000000001 (by rw [if_neg h0, hn]; rfl) dL_atoms_16
    · rw [hn]
      refine J_qcatch (hh := hh_L_atoms) o2 g2 gT [(0, 11, 12, 13)] (0, 11, 17, 16) [(0, 11, 22, 19)] rfl (Or.inr (Or.inl rfl)) (by
        intro z hz
        simp only [List.mem_cons, List.not_mem_nil, or_false] at hz
        rcases hz with rfl
        · exact ⟨by decide, 1, Or.inl rfl, by decide, lxc1⟩) ⟨by decide, by decide⟩ (by decide) lxc2 (fun q => ?_)
      refine J_astO o2 dL_atoms_17 (Nat.le_of_ble_eq_true rfl) ?_
      refine J_ldc o2 dL_atoms_19 kcL_18 ?_
      exact hret _ _ _ rlm2000000002 (by rw [if_neg h0, hn]; rfl) dL_atoms_21
    · rw [hn]
      refine J_qcatch (hh := hh_L_atoms) o2 g2 gT [(0, 11, 12, 13), (0, 11, 17, 16)] (0, 11, 22, 19) [] rfl (Or.inr (Or.inr rfl)) (by
        intro z hz
        simp only [List.mem_cons, List.not_mem_nil, or_false] at hz
        rcases hz with rfl | rfl
        · exact ⟨by decide, 1, Or.inl rfl, by decide, lxc1⟩
        · exact ⟨by decide, 2, Or.inr (Or.inl rfl), by decide, lxc2⟩) ⟨by decide, by decide⟩ (by decide) lxc3 (fun q => ?_)
      refine J_astO o2 dL_atoms_22 (Nat.le_of_ble_eq_true rfl) ?_
      refine J_ldc o2 dL_atoms_24 kcL_21 ?_
      exact hret _ _ _ rlm2000000003 (by rw [if_neg h0, hn]; rfl) dL_atoms_26
abbrev rm_L_compares : Room := { frames := 7, cells := 1, slots := 6, locals := 123 }
def hh_L_compares : List (Nat × Nat × Nat × Nat) := [(0, 7, 8, 13), (0, 7, 13, 16), (0, 7, 18, 19)]
noncomputable def f_L_compares (z : ZQ) (m0 : Bool) (x1 x2 x3 : Int) : Option (ZQ × Int) :=
  bnd (f_Dm_compare (zg z m0) x1 x2 x3) fun v => gd (v.2.1 = 0 ∨ v.2.1 = 1 ∨ v.2.1 = 2 ∨ v.2.1 = 3) (some (zs z m0 v.1, if v.2.1 = 0 then v.2.2 else xcd v.2.1))
theorem c_L_compares {X : QX} {l : Launch} (hst : l.stackTraces = false) (hA : ApQ X) {z : ZQ} {m0 : Bool} {x1 x2 x3 : Int} (r_x1 : R32 x1) (r_x2 : R32 x2) (r_x3 : R32 x3) {out : ZQ × Int} (hf : f_L_compares z m0 x1 x2 x3 = some out) : ConQW X l yL_compares (WSW yL_compares cL_compares 5 (some .int) hh_L_compares) rm_L_compares [rf (X.M m0).ad 1, .int (ii x1), .int (ii x2), .int (ii x3)] z out.1 out.2 := by
  unfold f_L_compares at hf
  obtain ⟨v, ev, hf⟩ := bnd_some hf
  obtain ⟨hn, hf⟩ := gd_some hf
  have hf := some_inj hf
  subst hf
  refine con_QW (by decide +kernel) rfl (Nat.le_of_ble_eq_true rfl) (c1s_r (c1s_i (c1s_i (c1s_i c1s_0 (Nat.le_of_ble_eq_true rfl)) (Nat.le_of_ble_eq_true rfl)) (Nat.le_of_ble_eq_true rfl)) (Nat.le_of_ble_eq_true rfl)).1 hA hst ?_
  intro K H0 o g kc0 hst gT hret
  refine J_aload_n o dL_compares_0 rfl ?_
  refine J_iload_n o dL_compares_1 rfl ?_
  refine J_iload_n o dL_compares_2 rfl ?_
  refine J_iload_n o dL_compares_3 rfl ?_
  refine J_qxI (m := m0) (vs := [.int (ii x1), .int (ii x2), .int (ii x3)]) o g kc0 dL_compares_4 mw876 ml_Dm_compare vl_Dm_compare ⟨rfl, rfl, Nat.le_of_ble_eq_true rfl, Nat.le_of_ble_eq_true rfl⟩ ⟨Nat.le_refl _, Nat.le_refl _⟩ (c_Dm_compare hst g.2.1.inj r_x1 r_x2 r_x3 ev) kA_1 rfl ⟨by decide, by decide⟩ rfl rfl c1s_0 (fun h0 hr => ?_) (fun h0 => ?_)
  · have o2 := OkQ.add (a := 1) (b := 6) o
    exact hret _ _ _ hr (if_pos h0).symm dL_compares_7
  · have o2 := OkQ.add (a := 1) (b := 6) o
    have g2 := GdQ.add (a := 1) (b := 6) g
    rcases hn with hn | hn | hn | hn
    · exact absurd hn h0
    · rw [hn]
      refine J_qcatch (hh := hh_L_compares) o2 g2 gT [] (0, 7, 8, 13) [(0, 7, 13, 16), (0, 7, 18, 19)] rfl (Or.inl rfl) (fun _ h => absurd h List.not_mem_nil) ⟨by decide, by decide⟩ (by decide) lxc1 (fun q => ?_)
      refine J_astO o2 dL_compares_8 (Nat.le_of_ble_eq_true rfl) ?_
      refine J_ldc o2 dL_compares_10 kcL_15 ?_
      exact hret _ _ _ rlm2000000001 (by rw [if_neg h0, hn]; rfl) dL_compares_12
    · rw [hn]
      refine J_qcatch (hh := hh_L_compares) o2 g2 gT [(0, 7, 8, 13)] (0, 7, 13, 16) [(0, 7, 18, 19)] rfl (Or.inr (Or.inl rfl)) (by
        intro z hz
        simp only [List.mem_cons, List.not_mem_nil, or_false] at hz
        rcases hz with rfl
        · exact ⟨by decide, 1, Or.inl rfl, by decide, lxc1⟩) ⟨by decide, by decide⟩ (by decide) lxc2 (fun q => ?_)
      refine J_astO o2 dL_compares_13 (Nat.le_of_ble_eq_true rfl) ?_
      refine J_ldc o2 dL_compares_15 kcL_18 ?_
      exact hret _ _ _ rlm2000000002 (by rw [if_neg h0, hn]; rfl) dL_compares_17
    · rw [hn]
      refine J_qcatch (hh := hh_L_compares) o2 g2 gT [(0, 7, 8, 13), (0, 7, 13, 16)] (0, 7, 18, 19) [] rfl (Or.inr (Or.inr rfl)) (by
        intro z hz
        simp only [List.mem_cons, List.not_mem_nil, or_false] at hz
        rcases hz with rfl | rfl
        · exact ⟨by decide, 1, Or.inl rfl, by decide, lxc1⟩
        · exact ⟨by decide, 2, Or.inr (Or.inl rfl), by decide, lxc2⟩) ⟨by decide, by decide⟩ (by decide) lxc3 (fun q => ?_)
      refine J_astO o2 dL_compares_18 (Nat.le_of_ble_eq_true rfl) ?_
      refine J_ldc o2 dL_compares_20 kcL_21 ?_
      exact hret _ _ _ rlm2000000003 (by rw [if_neg h0, hn]; rfl) dL_compares_22
abbrev rm_L_adds : Room := { frames := 7, cells := 1, slots := 6, locals := 123 }
def hh_L_adds : List (Nat × Nat × Nat × Nat) := [(0, 7, 8, 16), (0, 7, 13, 19)]
noncomputable def f_L_adds (z : ZQ) (m0 : Bool) (x1 x2 x3 : Int) : Option (ZQ × Int) :=
  bnd (f_Dm_add (zg z m0) x1 x2 x3) fun v => gd (v.2.1 = 0 ∨ v.2.1 = 2 ∨ v.2.1 = 3) (some (zs z m0 v.1, if v.2.1 = 0 then v.2.2 else xcd v.2.1))
theorem c_L_adds {X : QX} {l : Launch} (hst : l.stackTraces = false) (hA : ApQ X) {z : ZQ} {m0 : Bool} {x1 x2 x3 : Int} (r_x1 : R32 x1) (r_x2 : R32 x2) (r_x3 : R32 x3) {out : ZQ × Int} (hf : f_L_adds z m0 x1 x2 x3 = some out) : ConQW X l yL_adds (WSW yL_adds cL_adds 5 (some .int) hh_L_adds) rm_L_adds [rf (X.M m0).ad 1, .int (ii x1), .int (ii x2), .int (ii x3)] z out.1 out.2 := by
  unfold f_L_adds at hf
  obtain ⟨v, ev, hf⟩ := bnd_some hf
  obtain ⟨hn, hf⟩ := gd_some hf
  have hf := some_inj hf
  subst hf
  refine con_QW (by decide +kernel) rfl (Nat.le_of_ble_eq_true rfl) (c1s_r (c1s_i (c1s_i (c1s_i c1s_0 (Nat.le_of_ble_eq_true rfl)) (Nat.le_of_ble_eq_true rfl)) (Nat.le_of_ble_eq_true rfl)) (Nat.le_of_ble_eq_true rfl)).1 hA hst ?_
  intro K H0 o g kc0 hst gT hret
  refine J_aload_n o dL_adds_0 rfl ?_
  refine J_iload_n o dL_adds_1 rfl ?_
  refine J_iload_n o dL_adds_2 rfl ?_
  refine J_iload_n o dL_adds_3 rfl ?_
  refine J_qxI (m := m0) (vs := [.int (ii x1), .int (ii x2), .int (ii x3)]) o g kc0 dL_adds_4 mw885 ml_Dm_add vl_Dm_add ⟨rfl, rfl, Nat.le_of_ble_eq_true rfl, Nat.le_of_ble_eq_true rfl⟩ ⟨Nat.le_refl _, Nat.le_refl _⟩ (c_Dm_add hst g.2.1.inj r_x1 r_x2 r_x3 ev) kA_1 rfl ⟨by decide, by decide⟩ rfl rfl c1s_0 (fun h0 hr => ?_) (fun h0 => ?_)
  · have o2 := OkQ.add (a := 1) (b := 6) o
    exact hret _ _ _ hr (if_pos h0).symm dL_adds_7
  · have o2 := OkQ.add (a := 1) (b := 6) o
    have g2 := GdQ.add (a := 1) (b := 6) g
    rcases hn with hn | hn | hn
    · exact absurd hn h0
    · rw [hn]
      refine J_qcatch (hh := hh_L_adds) o2 g2 gT [] (0, 7, 8, 16) [(0, 7, 13, 19)] rfl (Or.inr (Or.inl rfl)) (fun _ h => absurd h List.not_mem_nil) ⟨by decide, by decide⟩ (by decide) lxc2 (fun q => ?_)
      refine J_astO o2 dL_adds_8 (Nat.le_of_ble_eq_true rfl) ?_
      refine J_ldc o2 dL_adds_10 kcL_18 ?_
      exact hret _ _ _ rlm2000000002 (by rw [if_neg h0, hn]; rfl) dL_adds_12
    · rw [hn]
      refine J_qcatch (hh := hh_L_adds) o2 g2 gT [(0, 7, 8, 16)] (0, 7, 13, 19) [] rfl (Or.inr (Or.inr rfl)) (by
        intro z hz
        simp only [List.mem_cons, List.not_mem_nil, or_false] at hz
        rcases hz with rfl
        · exact ⟨by decide, 2, Or.inr (Or.inl rfl), by decide, lxc2⟩) ⟨by decide, by decide⟩ (by decide) lxc3 (fun q => ?_)
      refine J_astO o2 dL_adds_13 (Nat.le_of_ble_eq_true rfl) ?_
      refine J_ldc o2 dL_adds_15 kcL_21 ?_
      exact hret _ _ _ rlm2000000003 (by rw [if_neg h0, hn]; rfl) dL_adds_17
abbrev rm_L_enters : Room := { frames := 9, cells := 1, slots := 6, locals := 226 }
def hh_L_enters : List (Nat × Nat × Nat × Nat) := [(0, 4, 5, 16), (0, 4, 9, 19)]
noncomputable def f_L_enters (z : ZQ) (m0 : Bool) : Option (ZQ × Int) :=
  bnd (f_Dm_enter (zg z m0)) fun v => gd (v.2.1 = 0 ∨ v.2.1 = 2 ∨ v.2.1 = 3) (some (zs z m0 v.1, if v.2.1 = 0 then v.2.2 else xcd v.2.1))
theorem c_L_enters {X : QX} {l : Launch} (hst : l.stackTraces = false) (hA : ApQ X) {z : ZQ} {m0 : Bool}  {out : ZQ × Int} (hf : f_L_enters z m0 = some out) : ConQW X l yL_enters (WSW yL_enters cL_enters 2 (some .int) hh_L_enters) rm_L_enters [rf (X.M m0).ad 1] z out.1 out.2 := by
  unfold f_L_enters at hf
  obtain ⟨v, ev, hf⟩ := bnd_some hf
  obtain ⟨hn, hf⟩ := gd_some hf
  have hf := some_inj hf
  subst hf
  refine con_QW (by decide +kernel) rfl (Nat.le_of_ble_eq_true rfl) (c1s_r c1s_0 (Nat.le_of_ble_eq_true rfl)).1 hA hst ?_
  intro K H0 o g kc0 hst gT hret
  refine J_aload_n o dL_enters_0 rfl ?_
  refine J_qxI (m := m0) (vs := []) o g kc0 dL_enters_1 mw1275 ml_Dm_enter vl_Dm_enter ⟨rfl, rfl, Nat.le_of_ble_eq_true rfl, Nat.le_of_ble_eq_true rfl⟩ ⟨Nat.le_refl _, Nat.le_refl _⟩ (c_Dm_enter hst g.2.1.inj  ev) kA_1 rfl ⟨by decide, by decide⟩ rfl rfl c1s_0 (fun h0 hr => ?_) (fun h0 => ?_)
  · have o2 := OkQ.add (a := 1) (b := 6) o
    exact hret _ _ _ hr (if_pos h0).symm dL_enters_4
  · have o2 := OkQ.add (a := 1) (b := 6) o
    have g2 := GdQ.add (a := 1) (b := 6) g
    rcases hn with hn | hn | hn
    · exact absurd hn h0
    · rw [hn]
      refine J_qcatch (hh := hh_L_enters) o2 g2 gT [] (0, 4, 5, 16) [(0, 4, 9, 19)] rfl (Or.inr (Or.inl rfl)) (fun _ h => absurd h List.not_mem_nil) ⟨by decide, by decide⟩ (by decide) lxc2 (fun q => ?_)
      refine J_astO_n o2 dL_enters_5 (Nat.le_of_ble_eq_true rfl) ?_
      refine J_ldc o2 dL_enters_6 kcL_18 ?_
      exact hret _ _ _ rlm2000000002 (by rw [if_neg h0, hn]; rfl) dL_enters_8
    · rw [hn]
      refine J_qcatch (hh := hh_L_enters) o2 g2 gT [(0, 4, 5, 16)] (0, 4, 9, 19) [] rfl (Or.inr (Or.inr rfl)) (by
        intro z hz
        simp only [List.mem_cons, List.not_mem_nil, or_false] at hz
        rcases hz with rfl
        · exact ⟨by decide, 2, Or.inr (Or.inl rfl), by decide, lxc2⟩) ⟨by decide, by decide⟩ (by decide) lxc3 (fun q => ?_)
      refine J_astO_n o2 dL_enters_9 (Nat.le_of_ble_eq_true rfl) ?_
      refine J_ldc o2 dL_enters_10 kcL_21 ?_
      exact hret _ _ _ rlm2000000003 (by rw [if_neg h0, hn]; rfl) dL_enters_12
abbrev rm_L_denies : Room := { frames := 8, cells := 1, slots := 6, locals := 180 }
def hh_L_denies : List (Nat × Nat × Nat × Nat) := [(0, 4, 5, 16), (0, 4, 9, 19)]
noncomputable def f_L_denies (z : ZQ) (m0 : Bool) : Option (ZQ × Int) :=
  bnd (f_Dm_deny (zg z m0)) fun v => gd (v.2.1 = 0 ∨ v.2.1 = 2 ∨ v.2.1 = 3) (some (zs z m0 v.1, if v.2.1 = 0 then v.2.2 else xcd v.2.1))
theorem c_L_denies {X : QX} {l : Launch} (hst : l.stackTraces = false) (hA : ApQ X) {z : ZQ} {m0 : Bool}  {out : ZQ × Int} (hf : f_L_denies z m0 = some out) : ConQW X l yL_denies (WSW yL_denies cL_denies 2 (some .int) hh_L_denies) rm_L_denies [rf (X.M m0).ad 1] z out.1 out.2 := by
  unfold f_L_denies at hf
  obtain ⟨v, ev, hf⟩ := bnd_some hf
  obtain ⟨hn, hf⟩ := gd_some hf
  have hf := some_inj hf
  subst hf
  refine con_QW (by decide +kernel) rfl (Nat.le_of_ble_eq_true rfl) (c1s_r c1s_0 (Nat.le_of_ble_eq_true rfl)).1 hA hst ?_
  intro K H0 o g kc0 hst gT hret
  refine J_aload_n o dL_denies_0 rfl ?_
  refine J_qxI (m := m0) (vs := []) o g kc0 dL_denies_1 mw947 ml_Dm_deny vl_Dm_deny ⟨rfl, rfl, Nat.le_of_ble_eq_true rfl, Nat.le_of_ble_eq_true rfl⟩ ⟨Nat.le_refl _, Nat.le_refl _⟩ (c_Dm_deny hst g.2.1.inj  ev) kA_1 rfl ⟨by decide, by decide⟩ rfl rfl c1s_0 (fun h0 hr => ?_) (fun h0 => ?_)
  · have o2 := OkQ.add (a := 1) (b := 6) o
    exact hret _ _ _ hr (if_pos h0).symm dL_denies_4
  · have o2 := OkQ.add (a := 1) (b := 6) o
    have g2 := GdQ.add (a := 1) (b := 6) g
    rcases hn with hn | hn | hn
    · exact absurd hn h0
    · rw [hn]
      refine J_qcatch (hh := hh_L_denies) o2 g2 gT [] (0, 4, 5, 16) [(0, 4, 9, 19)] rfl (Or.inr (Or.inl rfl)) (fun _ h => absurd h List.not_mem_nil) ⟨by decide, by decide⟩ (by decide) lxc2 (fun q => ?_)
      refine J_astO_n o2 dL_denies_5 (Nat.le_of_ble_eq_true rfl) ?_
      refine J_ldc o2 dL_denies_6 kcL_18 ?_
      exact hret _ _ _ rlm2000000002 (by rw [if_neg h0, hn]; rfl) dL_denies_8
    · rw [hn]
      refine J_qcatch (hh := hh_L_denies) o2 g2 gT [(0, 4, 5, 16)] (0, 4, 9, 19) [] rfl (Or.inr (Or.inr rfl)) (by
        intro z hz
        simp only [List.mem_cons, List.not_mem_nil, or_false] at hz
        rcases hz with rfl
        · exact ⟨by decide, 2, Or.inr (Or.inl rfl), by decide, lxc2⟩) ⟨by decide, by decide⟩ (by decide) lxc3 (fun q => ?_)
      refine J_astO_n o2 dL_denies_9 (Nat.le_of_ble_eq_true rfl) ?_
      refine J_ldc o2 dL_denies_10 kcL_21 ?_
      exact hret _ _ _ rlm2000000003 (by rw [if_neg h0, hn]; rfl) dL_denies_12
abbrev rm_L_removes : Room := { frames := 9, cells := 1, slots := 6, locals := 228 }
def hh_L_removes : List (Nat × Nat × Nat × Nat) := [(0, 5, 6, 13), (0, 5, 10, 19)]
noncomputable def f_L_removes (z : ZQ) (m0 : Bool) (x1 : Int) : Option (ZQ × Int) :=
  bnd (f_Dm_remove (zg z m0) x1) fun v => gd (v.2.1 = 0 ∨ v.2.1 = 1 ∨ v.2.1 = 3) (some (zs z m0 v.1, if v.2.1 = 0 then v.2.2 else xcd v.2.1))
theorem c_L_removes {X : QX} {l : Launch} (hst : l.stackTraces = false) (hA : ApQ X) {z : ZQ} {m0 : Bool} {x1 : Int} (r_x1 : R32 x1) {out : ZQ × Int} (hf : f_L_removes z m0 x1 = some out) : ConQW X l yL_removes (WSW yL_removes cL_removes 3 (some .int) hh_L_removes) rm_L_removes [rf (X.M m0).ad 1, .int (ii x1)] z out.1 out.2 := by
  unfold f_L_removes at hf
  obtain ⟨v, ev, hf⟩ := bnd_some hf
  obtain ⟨hn, hf⟩ := gd_some hf
  have hf := some_inj hf
  subst hf
  refine con_QW (by decide +kernel) rfl (Nat.le_of_ble_eq_true rfl) (c1s_r (c1s_i c1s_0 (Nat.le_of_ble_eq_true rfl)) (Nat.le_of_ble_eq_true rfl)).1 hA hst ?_
  intro K H0 o g kc0 hst gT hret
  refine J_aload_n o dL_removes_0 rfl ?_
  refine J_iload_n o dL_removes_1 rfl ?_
  refine J_qxI (m := m0) (vs := [.int (ii x1)]) o g kc0 dL_removes_2 mw892 ml_Dm_remove vl_Dm_remove ⟨rfl, rfl, Nat.le_of_ble_eq_true rfl, Nat.le_of_ble_eq_true rfl⟩ ⟨Nat.le_refl _, Nat.le_refl _⟩ (c_Dm_remove hst g.2.1.inj r_x1 ev) kA_1 rfl ⟨by decide, by decide⟩ rfl rfl c1s_0 (fun h0 hr => ?_) (fun h0 => ?_)
  · have o2 := OkQ.add (a := 1) (b := 6) o
    exact hret _ _ _ hr (if_pos h0).symm dL_removes_5
  · have o2 := OkQ.add (a := 1) (b := 6) o
    have g2 := GdQ.add (a := 1) (b := 6) g
    rcases hn with hn | hn | hn
    · exact absurd hn h0
    · rw [hn]
      refine J_qcatch (hh := hh_L_removes) o2 g2 gT [] (0, 5, 6, 13) [(0, 5, 10, 19)] rfl (Or.inl rfl) (fun _ h => absurd h List.not_mem_nil) ⟨by decide, by decide⟩ (by decide) lxc1 (fun q => ?_)
      refine J_astO_n o2 dL_removes_6 (Nat.le_of_ble_eq_true rfl) ?_
      refine J_ldc o2 dL_removes_7 kcL_15 ?_
      exact hret _ _ _ rlm2000000001 (by rw [if_neg h0, hn]; rfl) dL_removes_9
    · rw [hn]
      refine J_qcatch (hh := hh_L_removes) o2 g2 gT [(0, 5, 6, 13)] (0, 5, 10, 19) [] rfl (Or.inr (Or.inr rfl)) (by
        intro z hz
        simp only [List.mem_cons, List.not_mem_nil, or_false] at hz
        rcases hz with rfl
        · exact ⟨by decide, 1, Or.inl rfl, by decide, lxc1⟩) ⟨by decide, by decide⟩ (by decide) lxc3 (fun q => ?_)
      refine J_astO_n o2 dL_removes_10 (Nat.le_of_ble_eq_true rfl) ?_
      refine J_ldc o2 dL_removes_11 kcL_21 ?_
      exact hret _ _ _ rlm2000000003 (by rw [if_neg h0, hn]; rfl) dL_removes_13
abbrev rm_L_holds : Room := { frames := 7, cells := 1, slots := 6, locals := 143 }
def hh_L_holds : List (Nat × Nat × Nat × Nat) := [(0, 17, 18, 13)]
noncomputable def f_L_holds (z : ZQ) (m0 : Bool) (x1 x2 x3 x4 : Int) : Option (ZQ × Int) :=
  bnd (f_Dm_holds (zg z m0) x1 x2 x3 x4) fun v => gd ((v.2.1 = 0 ∨ v.2.1 = 1) ∧ (v.2.1 = 0 → v.2.2 = 0 ∨ v.2.2 = 1)) (some (zs z m0 v.1, if v.2.1 = 0 then v.2.2 else xcd v.2.1))
theorem c_L_holds {X : QX} {l : Launch} (hst : l.stackTraces = false) (hA : ApQ X) {z : ZQ} {m0 : Bool} {x1 x2 x3 x4 : Int} (r_x1 : R32 x1) (r_x2 : R32 x2) (r_x3 : R32 x3) (r_x4 : R32 x4) {out : ZQ × Int} (hf : f_L_holds z m0 x1 x2 x3 x4 = some out) : ConQW X l yL_holds (WSW yL_holds cL_holds 6 (some .int) hh_L_holds) rm_L_holds [rf (X.M m0).ad 1, .int (ii x1), .int (ii x2), .int (ii x3), .int (ii x4)] z out.1 out.2 := by
  unfold f_L_holds at hf
  obtain ⟨v, ev, hf⟩ := bnd_some hf
  obtain ⟨hn, hf⟩ := gd_some hf
  have hf := some_inj hf
  subst hf
  obtain ⟨hn, hbo⟩ := hn
  refine con_QW (by decide +kernel) rfl (Nat.le_of_ble_eq_true rfl) (c1s_r (c1s_i (c1s_i (c1s_i (c1s_i c1s_0 (Nat.le_of_ble_eq_true rfl)) (Nat.le_of_ble_eq_true rfl)) (Nat.le_of_ble_eq_true rfl)) (Nat.le_of_ble_eq_true rfl)) (Nat.le_of_ble_eq_true rfl)).1 hA hst ?_
  intro K H0 o g kc0 hst gT hret
  refine J_aload_n o dL_holds_0 rfl ?_
  refine J_iload_n o dL_holds_1 rfl ?_
  refine J_iload_n o dL_holds_2 rfl ?_
  refine J_iload_n o dL_holds_3 rfl ?_
  refine J_iload o dL_holds_4 rfl ?_
  refine J_qxI (m := m0) (vs := [.int (ii x1), .int (ii x2), .int (ii x3), .int (ii x4)]) o g kc0 dL_holds_6 mw993 ml_Dm_holds vl_Dm_holds ⟨rfl, rfl, Nat.le_of_ble_eq_true rfl, Nat.le_of_ble_eq_true rfl⟩ ⟨Nat.le_refl _, Nat.le_refl _⟩ (c_Dm_holds hst g.2.1.inj r_x1 r_x2 r_x3 r_x4 ev) kA_1 rfl ⟨by decide, by decide⟩ rfl rfl c1s_0 (fun h0 hr => ?_) (fun h0 => ?_)
  · have o2 := OkQ.add (a := 1) (b := 6) o
    refine J_if_eq 16 o2 dL_holds_9 (by decide) hr (fun e0 => ?_) (fun e0 => ?_)
    · skip
      refine J_iconst o2 dL_holds_16 ?_
      exact hret _ _ _ rl0 (e0.symm.trans (if_pos h0).symm) dL_holds_17
    · skip
      refine J_iconst o2 dL_holds_12 ?_
      refine J_goto 17 o2 dL_holds_13 (by decide) ?_
      exact hret _ _ _ rl1 ((((hbo h0).resolve_left e0).symm).trans (if_pos h0).symm) dL_holds_17
  · have o2 := OkQ.add (a := 1) (b := 6) o
    have g2 := GdQ.add (a := 1) (b := 6) g
    rcases hn with hn | hn
    · exact absurd hn h0
    · rw [hn]
      refine J_qcatch (hh := hh_L_holds) o2 g2 gT [] (0, 17, 18, 13) [] rfl (Or.inl rfl) (fun _ h => absurd h List.not_mem_nil) ⟨by decide, by decide⟩ (by decide) lxc1 (fun q => ?_)
      refine J_astO o2 dL_holds_18 (Nat.le_of_ble_eq_true rfl) ?_
      refine J_ldc o2 dL_holds_20 kcL_15 ?_
      exact hret _ _ _ rlm2000000001 (by rw [if_neg h0, hn]; rfl) dL_holds_22
abbrev rm_L_holdsAt : Room := { frames := 7, cells := 1, slots := 6, locals := 144 }
def hh_L_holdsAt : List (Nat × Nat × Nat × Nat) := [(0, 19, 20, 13), (0, 19, 25, 16)]
noncomputable def f_L_holdsAt (z : ZQ) (m0 : Bool) (x1 x2 x3 x4 x5 : Int) : Option (ZQ × Int) :=
  bnd (f_Dm_holdsAt (zg z m0) x1 x2 x3 x4 x5) fun v => gd ((v.2.1 = 0 ∨ v.2.1 = 1 ∨ v.2.1 = 2) ∧ (v.2.1 = 0 → v.2.2 = 0 ∨ v.2.2 = 1)) (some (zs z m0 v.1, if v.2.1 = 0 then v.2.2 else xcd v.2.1))
theorem c_L_holdsAt {X : QX} {l : Launch} (hst : l.stackTraces = false) (hA : ApQ X) {z : ZQ} {m0 : Bool} {x1 x2 x3 x4 x5 : Int} (r_x1 : R32 x1) (r_x2 : R32 x2) (r_x3 : R32 x3) (r_x4 : R32 x4) (r_x5 : R32 x5) {out : ZQ × Int} (hf : f_L_holdsAt z m0 x1 x2 x3 x4 x5 = some out) : ConQW X l yL_holdsAt (WSW yL_holdsAt cL_holdsAt 7 (some .int) hh_L_holdsAt) rm_L_holdsAt [rf (X.M m0).ad 1, .int (ii x1), .int (ii x2), .int (ii x3), .int (ii x4), .int (ii x5)] z out.1 out.2 := by
  unfold f_L_holdsAt at hf
  obtain ⟨v, ev, hf⟩ := bnd_some hf
  obtain ⟨hn, hf⟩ := gd_some hf
  have hf := some_inj hf
  subst hf
  obtain ⟨hn, hbo⟩ := hn
  refine con_QW (by decide +kernel) rfl (Nat.le_of_ble_eq_true rfl) (c1s_r (c1s_i (c1s_i (c1s_i (c1s_i (c1s_i c1s_0 (Nat.le_of_ble_eq_true rfl)) (Nat.le_of_ble_eq_true rfl)) (Nat.le_of_ble_eq_true rfl)) (Nat.le_of_ble_eq_true rfl)) (Nat.le_of_ble_eq_true rfl)) (Nat.le_of_ble_eq_true rfl)).1 hA hst ?_
  intro K H0 o g kc0 hst gT hret
  refine J_aload_n o dL_holdsAt_0 rfl ?_
  refine J_iload_n o dL_holdsAt_1 rfl ?_
  refine J_iload_n o dL_holdsAt_2 rfl ?_
  refine J_iload_n o dL_holdsAt_3 rfl ?_
  refine J_iload o dL_holdsAt_4 rfl ?_
  refine J_iload o dL_holdsAt_6 rfl ?_
  refine J_qxI (m := m0) (vs := [.int (ii x1), .int (ii x2), .int (ii x3), .int (ii x4), .int (ii x5)]) o g kc0 dL_holdsAt_8 mw1012 ml_Dm_holdsAt vl_Dm_holdsAt ⟨rfl, rfl, Nat.le_of_ble_eq_true rfl, Nat.le_of_ble_eq_true rfl⟩ ⟨Nat.le_refl _, Nat.le_refl _⟩ (c_Dm_holdsAt hst g.2.1.inj r_x1 r_x2 r_x3 r_x4 r_x5 ev) kA_1 rfl ⟨by decide, by decide⟩ rfl rfl c1s_0 (fun h0 hr => ?_) (fun h0 => ?_)
  · have o2 := OkQ.add (a := 1) (b := 6) o
    refine J_if_eq 18 o2 dL_holdsAt_11 (by decide) hr (fun e0 => ?_) (fun e0 => ?_)
    · skip
      refine J_iconst o2 dL_holdsAt_18 ?_
      exact hret _ _ _ rl0 (e0.symm.trans (if_pos h0).symm) dL_holdsAt_19
    · skip
      refine J_iconst o2 dL_holdsAt_14 ?_
      refine J_goto 19 o2 dL_holdsAt_15 (by decide) ?_
      exact hret _ _ _ rl1 ((((hbo h0).resolve_left e0).symm).trans (if_pos h0).symm) dL_holdsAt_19
  · have o2 := OkQ.add (a := 1) (b := 6) o
    have g2 := GdQ.add (a := 1) (b := 6) g
    rcases hn with hn | hn | hn
    · exact absurd hn h0
    · rw [hn]
      refine J_qcatch (hh := hh_L_holdsAt) o2 g2 gT [] (0, 19, 20, 13) [(0, 19, 25, 16)] rfl (Or.inl rfl) (fun _ h => absurd h List.not_mem_nil) ⟨by decide, by decide⟩ (by decide) lxc1 (fun q => ?_)
      refine J_astO o2 dL_holdsAt_20 (Nat.le_of_ble_eq_true rfl) ?_
      refine J_ldc o2 dL_holdsAt_22 kcL_15 ?_
      exact hret _ _ _ rlm2000000001 (by rw [if_neg h0, hn]; rfl) dL_holdsAt_24
    · rw [hn]
      refine J_qcatch (hh := hh_L_holdsAt) o2 g2 gT [(0, 19, 20, 13)] (0, 19, 25, 16) [] rfl (Or.inr (Or.inl rfl)) (by
        intro z hz
        simp only [List.mem_cons, List.not_mem_nil, or_false] at hz
        rcases hz with rfl
        · exact ⟨by decide, 1, Or.inl rfl, by decide, lxc1⟩) ⟨by decide, by decide⟩ (by decide) lxc2 (fun q => ?_)
      refine J_astO o2 dL_holdsAt_25 (Nat.le_of_ble_eq_true rfl) ?_
      refine J_ldc o2 dL_holdsAt_27 kcL_18 ?_
      exact hret _ _ _ rlm2000000002 (by rw [if_neg h0, hn]; rfl) dL_holdsAt_29
abbrev rm_L_anew : Room := { frames := 8, cells := 1, slots := 6, locals := 207 }
def hh_L_anew : List (Nat × Nat × Nat × Nat) := [(0, 19, 20, 13), (0, 19, 25, 16)]
noncomputable def f_L_anew (z : ZQ) (m0 : Bool) (x1 x2 x3 x4 x5 : Int) : Option (ZQ × Int) :=
  bnd (f_Dm_holdsAnew (zg z m0) x1 x2 x3 x4 x5) fun v => gd ((v.2.1 = 0 ∨ v.2.1 = 1 ∨ v.2.1 = 2) ∧ (v.2.1 = 0 → v.2.2 = 0 ∨ v.2.2 = 1)) (some (zs z m0 v.1, if v.2.1 = 0 then v.2.2 else xcd v.2.1))
theorem c_L_anew {X : QX} {l : Launch} (hst : l.stackTraces = false) (hA : ApQ X) {z : ZQ} {m0 : Bool} {x1 x2 x3 x4 x5 : Int} (r_x1 : R32 x1) (r_x2 : R32 x2) (r_x3 : R32 x3) (r_x4 : R32 x4) (r_x5 : R32 x5) {out : ZQ × Int} (hf : f_L_anew z m0 x1 x2 x3 x4 x5 = some out) : ConQW X l yL_anew (WSW yL_anew cL_anew 7 (some .int) hh_L_anew) rm_L_anew [rf (X.M m0).ad 1, .int (ii x1), .int (ii x2), .int (ii x3), .int (ii x4), .int (ii x5)] z out.1 out.2 := by
  unfold f_L_anew at hf
  obtain ⟨v, ev, hf⟩ := bnd_some hf
  obtain ⟨hn, hf⟩ := gd_some hf
  have hf := some_inj hf
  subst hf
  obtain ⟨hn, hbo⟩ := hn
  refine con_QW (by decide +kernel) rfl (Nat.le_of_ble_eq_true rfl) (c1s_r (c1s_i (c1s_i (c1s_i (c1s_i (c1s_i c1s_0 (Nat.le_of_ble_eq_true rfl)) (Nat.le_of_ble_eq_true rfl)) (Nat.le_of_ble_eq_true rfl)) (Nat.le_of_ble_eq_true rfl)) (Nat.le_of_ble_eq_true rfl)) (Nat.le_of_ble_eq_true rfl)).1 hA hst ?_
  intro K H0 o g kc0 hst gT hret
  refine J_aload_n o dL_anew_0 rfl ?_
  refine J_iload_n o dL_anew_1 rfl ?_
  refine J_iload_n o dL_anew_2 rfl ?_
  refine J_iload_n o dL_anew_3 rfl ?_
  refine J_iload o dL_anew_4 rfl ?_
  refine J_iload o dL_anew_6 rfl ?_
  refine J_qxI (m := m0) (vs := [.int (ii x1), .int (ii x2), .int (ii x3), .int (ii x4), .int (ii x5)]) o g kc0 dL_anew_8 mw1020 ml_Dm_holdsAnew vl_Dm_holdsAnew ⟨rfl, rfl, Nat.le_of_ble_eq_true rfl, Nat.le_of_ble_eq_true rfl⟩ ⟨Nat.le_refl _, Nat.le_refl _⟩ (c_Dm_holdsAnew hst g.2.1.inj r_x1 r_x2 r_x3 r_x4 r_x5 ev) kA_1 rfl ⟨by decide, by decide⟩ rfl rfl c1s_0 (fun h0 hr => ?_) (fun h0 => ?_)
  · have o2 := OkQ.add (a := 1) (b := 6) o
    refine J_if_eq 18 o2 dL_anew_11 (by decide) hr (fun e0 => ?_) (fun e0 => ?_)
    · skip
      refine J_iconst o2 dL_anew_18 ?_
      exact hret _ _ _ rl0 (e0.symm.trans (if_pos h0).symm) dL_anew_19
    · skip
      refine J_iconst o2 dL_anew_14 ?_
      refine J_goto 19 o2 dL_anew_15 (by decide) ?_
      exact hret _ _ _ rl1 ((((hbo h0).resolve_left e0).symm).trans (if_pos h0).symm) dL_anew_19
  · have o2 := OkQ.add (a := 1) (b := 6) o
    have g2 := GdQ.add (a := 1) (b := 6) g
    rcases hn with hn | hn | hn
    · exact absurd hn h0
    · rw [hn]
      refine J_qcatch (hh := hh_L_anew) o2 g2 gT [] (0, 19, 20, 13) [(0, 19, 25, 16)] rfl (Or.inl rfl) (fun _ h => absurd h List.not_mem_nil) ⟨by decide, by decide⟩ (by decide) lxc1 (fun q => ?_)
      refine J_astO o2 dL_anew_20 (Nat.le_of_ble_eq_true rfl) ?_
      refine J_ldc o2 dL_anew_22 kcL_15 ?_
      exact hret _ _ _ rlm2000000001 (by rw [if_neg h0, hn]; rfl) dL_anew_24
    · rw [hn]
      refine J_qcatch (hh := hh_L_anew) o2 g2 gT [(0, 19, 20, 13)] (0, 19, 25, 16) [] rfl (Or.inr (Or.inl rfl)) (by
        intro z hz
        simp only [List.mem_cons, List.not_mem_nil, or_false] at hz
        rcases hz with rfl
        · exact ⟨by decide, 1, Or.inl rfl, by decide, lxc1⟩) ⟨by decide, by decide⟩ (by decide) lxc2 (fun q => ?_)
      refine J_astO o2 dL_anew_25 (Nat.le_of_ble_eq_true rfl) ?_
      refine J_ldc o2 dL_anew_27 kcL_18 ?_
      exact hret _ _ _ rlm2000000002 (by rw [if_neg h0, hn]; rfl) dL_anew_29
abbrev rm_L_size : Room := { frames := 7, cells := 1, slots := 6, locals := 121 }
def hh_L_size : List (Nat × Nat × Nat × Nat) := [(0, 5, 6, 13)]
noncomputable def f_L_size (z : ZQ) (m0 : Bool) (x1 : Int) : Option (ZQ × Int) :=
  bnd (f_Dm_size (zg z m0) x1) fun v => gd (v.2.1 = 0 ∨ v.2.1 = 1) (some (zs z m0 v.1, if v.2.1 = 0 then v.2.2 else xcd v.2.1))
theorem c_L_size {X : QX} {l : Launch} (hst : l.stackTraces = false) (hA : ApQ X) {z : ZQ} {m0 : Bool} {x1 : Int} (r_x1 : R32 x1) {out : ZQ × Int} (hf : f_L_size z m0 x1 = some out) : ConQW X l yL_size (WSW yL_size cL_size 3 (some .int) hh_L_size) rm_L_size [rf (X.M m0).ad 1, .int (ii x1)] z out.1 out.2 := by
  unfold f_L_size at hf
  obtain ⟨v, ev, hf⟩ := bnd_some hf
  obtain ⟨hn, hf⟩ := gd_some hf
  have hf := some_inj hf
  subst hf
  refine con_QW (by decide +kernel) rfl (Nat.le_of_ble_eq_true rfl) (c1s_r (c1s_i c1s_0 (Nat.le_of_ble_eq_true rfl)) (Nat.le_of_ble_eq_true rfl)).1 hA hst ?_
  intro K H0 o g kc0 hst gT hret
  refine J_aload_n o dL_size_0 rfl ?_
  refine J_iload_n o dL_size_1 rfl ?_
  refine J_qxI (m := m0) (vs := [.int (ii x1)]) o g kc0 dL_size_2 mw1027 ml_Dm_size vl_Dm_size ⟨rfl, rfl, Nat.le_of_ble_eq_true rfl, Nat.le_of_ble_eq_true rfl⟩ ⟨Nat.le_refl _, Nat.le_refl _⟩ (c_Dm_size hst g.2.1.inj r_x1 ev) kA_1 rfl ⟨by decide, by decide⟩ rfl rfl c1s_0 (fun h0 hr => ?_) (fun h0 => ?_)
  · have o2 := OkQ.add (a := 1) (b := 6) o
    exact hret _ _ _ hr (if_pos h0).symm dL_size_5
  · have o2 := OkQ.add (a := 1) (b := 6) o
    have g2 := GdQ.add (a := 1) (b := 6) g
    rcases hn with hn | hn
    · exact absurd hn h0
    · rw [hn]
      refine J_qcatch (hh := hh_L_size) o2 g2 gT [] (0, 5, 6, 13) [] rfl (Or.inl rfl) (fun _ h => absurd h List.not_mem_nil) ⟨by decide, by decide⟩ (by decide) lxc1 (fun q => ?_)
      refine J_astO_n o2 dL_size_6 (Nat.le_of_ble_eq_true rfl) ?_
      refine J_ldc o2 dL_size_7 kcL_15 ?_
      exact hret _ _ _ rlm2000000001 (by rw [if_neg h0, hn]; rfl) dL_size_9
abbrev rm_L_at : Room := { frames := 7, cells := 1, slots := 6, locals := 123 }
def hh_L_at : List (Nat × Nat × Nat × Nat) := [(0, 6, 7, 13)]
noncomputable def f_L_at (z : ZQ) (m0 : Bool) (x1 x2 : Int) : Option (ZQ × Int) :=
  bnd (f_Dm_at (zg z m0) x1 x2) fun v => gd (v.2.1 = 0 ∨ v.2.1 = 1) (some (zs z m0 v.1, if v.2.1 = 0 then v.2.2 else xcd v.2.1))
theorem c_L_at {X : QX} {l : Launch} (hst : l.stackTraces = false) (hA : ApQ X) {z : ZQ} {m0 : Bool} {x1 x2 : Int} (r_x1 : R32 x1) (r_x2 : R32 x2) {out : ZQ × Int} (hf : f_L_at z m0 x1 x2 = some out) : ConQW X l yL_at (WSW yL_at cL_at 4 (some .int) hh_L_at) rm_L_at [rf (X.M m0).ad 1, .int (ii x1), .int (ii x2)] z out.1 out.2 := by
  unfold f_L_at at hf
  obtain ⟨v, ev, hf⟩ := bnd_some hf
  obtain ⟨hn, hf⟩ := gd_some hf
  have hf := some_inj hf
  subst hf
  refine con_QW (by decide +kernel) rfl (Nat.le_of_ble_eq_true rfl) (c1s_r (c1s_i (c1s_i c1s_0 (Nat.le_of_ble_eq_true rfl)) (Nat.le_of_ble_eq_true rfl)) (Nat.le_of_ble_eq_true rfl)).1 hA hst ?_
  intro K H0 o g kc0 hst gT hret
  refine J_aload_n o dL_at_0 rfl ?_
  refine J_iload_n o dL_at_1 rfl ?_
  refine J_iload_n o dL_at_2 rfl ?_
  refine J_qxI (m := m0) (vs := [.int (ii x1), .int (ii x2)]) o g kc0 dL_at_3 mw1039 ml_Dm_at vl_Dm_at ⟨rfl, rfl, Nat.le_of_ble_eq_true rfl, Nat.le_of_ble_eq_true rfl⟩ ⟨Nat.le_refl _, Nat.le_refl _⟩ (c_Dm_at hst g.2.1.inj r_x1 r_x2 ev) kA_1 rfl ⟨by decide, by decide⟩ rfl rfl c1s_0 (fun h0 hr => ?_) (fun h0 => ?_)
  · have o2 := OkQ.add (a := 1) (b := 6) o
    exact hret _ _ _ hr (if_pos h0).symm dL_at_6
  · have o2 := OkQ.add (a := 1) (b := 6) o
    have g2 := GdQ.add (a := 1) (b := 6) g
    rcases hn with hn | hn
    · exact absurd hn h0
    · rw [hn]
      refine J_qcatch (hh := hh_L_at) o2 g2 gT [] (0, 6, 7, 13) [] rfl (Or.inl rfl) (fun _ h => absurd h List.not_mem_nil) ⟨by decide, by decide⟩ (by decide) lxc1 (fun q => ?_)
      refine J_astO_n o2 dL_at_7 (Nat.le_of_ble_eq_true rfl) ?_
      refine J_ldc o2 dL_at_8 kcL_15 ?_
      exact hret _ _ _ rlm2000000001 (by rw [if_neg h0, hn]; rfl) dL_at_10
abbrev rm_L_stratum : Room := { frames := 7, cells := 1, slots := 6, locals := 121 }
def hh_L_stratum : List (Nat × Nat × Nat × Nat) := [(0, 5, 6, 13)]
noncomputable def f_L_stratum (z : ZQ) (m0 : Bool) (x1 : Int) : Option (ZQ × Int) :=
  bnd (f_Dm_stratum (zg z m0) x1) fun v => gd (v.2.1 = 0 ∨ v.2.1 = 1) (some (zs z m0 v.1, if v.2.1 = 0 then v.2.2 else xcd v.2.1))
theorem c_L_stratum {X : QX} {l : Launch} (hst : l.stackTraces = false) (hA : ApQ X) {z : ZQ} {m0 : Bool} {x1 : Int} (r_x1 : R32 x1) {out : ZQ × Int} (hf : f_L_stratum z m0 x1 = some out) : ConQW X l yL_stratum (WSW yL_stratum cL_stratum 3 (some .int) hh_L_stratum) rm_L_stratum [rf (X.M m0).ad 1, .int (ii x1)] z out.1 out.2 := by
  unfold f_L_stratum at hf
  obtain ⟨v, ev, hf⟩ := bnd_some hf
  obtain ⟨hn, hf⟩ := gd_some hf
  have hf := some_inj hf
  subst hf
  refine con_QW (by decide +kernel) rfl (Nat.le_of_ble_eq_true rfl) (c1s_r (c1s_i c1s_0 (Nat.le_of_ble_eq_true rfl)) (Nat.le_of_ble_eq_true rfl)).1 hA hst ?_
  intro K H0 o g kc0 hst gT hret
  refine J_aload_n o dL_stratum_0 rfl ?_
  refine J_iload_n o dL_stratum_1 rfl ?_
  refine J_qxI (m := m0) (vs := [.int (ii x1)]) o g kc0 dL_stratum_2 mw1052 ml_Dm_stratum vl_Dm_stratum ⟨rfl, rfl, Nat.le_of_ble_eq_true rfl, Nat.le_of_ble_eq_true rfl⟩ ⟨Nat.le_refl _, Nat.le_refl _⟩ (c_Dm_stratum hst g.2.1.inj r_x1 ev) kA_1 rfl ⟨by decide, by decide⟩ rfl rfl c1s_0 (fun h0 hr => ?_) (fun h0 => ?_)
  · have o2 := OkQ.add (a := 1) (b := 6) o
    exact hret _ _ _ hr (if_pos h0).symm dL_stratum_5
  · have o2 := OkQ.add (a := 1) (b := 6) o
    have g2 := GdQ.add (a := 1) (b := 6) g
    rcases hn with hn | hn
    · exact absurd hn h0
    · rw [hn]
      refine J_qcatch (hh := hh_L_stratum) o2 g2 gT [] (0, 5, 6, 13) [] rfl (Or.inl rfl) (fun _ h => absurd h List.not_mem_nil) ⟨by decide, by decide⟩ (by decide) lxc1 (fun q => ?_)
      refine J_astO_n o2 dL_stratum_6 (Nat.le_of_ble_eq_true rfl) ?_
      refine J_ldc o2 dL_stratum_7 kcL_15 ?_
      exact hret _ _ _ rlm2000000001 (by rw [if_neg h0, hn]; rfl) dL_stratum_9
abbrev rm_L_ways : Room := { frames := 7, cells := 1, slots := 6, locals := 174 }
def hh_L_ways : List (Nat × Nat × Nat × Nat) := [(0, 9, 10, 13)]
noncomputable def f_L_ways (z : ZQ) (m0 : Bool) (x1 x2 x3 x4 : Int) : Option (ZQ × Int) :=
  bnd (f_Dm_ways (zg z m0) x1 x2 x3 x4) fun v => gd (v.2.1 = 0 ∨ v.2.1 = 1) (some (zs z m0 v.1, if v.2.1 = 0 then v.2.2 else xcd v.2.1))
theorem c_L_ways {X : QX} {l : Launch} (hst : l.stackTraces = false) (hA : ApQ X) {z : ZQ} {m0 : Bool} {x1 x2 x3 x4 : Int} (r_x1 : R32 x1) (r_x2 : R32 x2) (r_x3 : R32 x3) (r_x4 : R32 x4) {out : ZQ × Int} (hf : f_L_ways z m0 x1 x2 x3 x4 = some out) : ConQW X l yL_ways (WSW yL_ways cL_ways 6 (some .int) hh_L_ways) rm_L_ways [rf (X.M m0).ad 1, .int (ii x1), .int (ii x2), .int (ii x3), .int (ii x4)] z out.1 out.2 := by
  unfold f_L_ways at hf
  obtain ⟨v, ev, hf⟩ := bnd_some hf
  obtain ⟨hn, hf⟩ := gd_some hf
  have hf := some_inj hf
  subst hf
  refine con_QW (by decide +kernel) rfl (Nat.le_of_ble_eq_true rfl) (c1s_r (c1s_i (c1s_i (c1s_i (c1s_i c1s_0 (Nat.le_of_ble_eq_true rfl)) (Nat.le_of_ble_eq_true rfl)) (Nat.le_of_ble_eq_true rfl)) (Nat.le_of_ble_eq_true rfl)) (Nat.le_of_ble_eq_true rfl)).1 hA hst ?_
  intro K H0 o g kc0 hst gT hret
  refine J_aload_n o dL_ways_0 rfl ?_
  refine J_iload_n o dL_ways_1 rfl ?_
  refine J_iload_n o dL_ways_2 rfl ?_
  refine J_iload_n o dL_ways_3 rfl ?_
  refine J_iload o dL_ways_4 rfl ?_
  refine J_qxI (m := m0) (vs := [.int (ii x1), .int (ii x2), .int (ii x3), .int (ii x4)]) o g kc0 dL_ways_6 mw1060 ml_Dm_ways vl_Dm_ways ⟨rfl, rfl, Nat.le_of_ble_eq_true rfl, Nat.le_of_ble_eq_true rfl⟩ ⟨Nat.le_refl _, Nat.le_refl _⟩ (c_Dm_ways hst g.2.1.inj r_x1 r_x2 r_x3 r_x4 ev) kA_1 rfl ⟨by decide, by decide⟩ rfl rfl c1s_0 (fun h0 hr => ?_) (fun h0 => ?_)
  · have o2 := OkQ.add (a := 1) (b := 6) o
    exact hret _ _ _ hr (if_pos h0).symm dL_ways_9
  · have o2 := OkQ.add (a := 1) (b := 6) o
    have g2 := GdQ.add (a := 1) (b := 6) g
    rcases hn with hn | hn
    · exact absurd hn h0
    · rw [hn]
      refine J_qcatch (hh := hh_L_ways) o2 g2 gT [] (0, 9, 10, 13) [] rfl (Or.inl rfl) (fun _ h => absurd h List.not_mem_nil) ⟨by decide, by decide⟩ (by decide) lxc1 (fun q => ?_)
      refine J_astO o2 dL_ways_10 (Nat.le_of_ble_eq_true rfl) ?_
      refine J_ldc o2 dL_ways_12 kcL_15 ?_
      exact hret _ _ _ rlm2000000001 (by rw [if_neg h0, hn]; rfl) dL_ways_14
abbrev rm_L_cheapest : Room := { frames := 8, cells := 1, slots := 6, locals := 194 }
def hh_L_cheapest : List (Nat × Nat × Nat × Nat) := [(0, 9, 10, 13)]
noncomputable def f_L_cheapest (z : ZQ) (m0 : Bool) (x1 x2 x3 x4 : Int) : Option (ZQ × Int) :=
  bnd (f_Dm_cheapest (zg z m0) x1 x2 x3 x4) fun v => gd (v.2.1 = 0 ∨ v.2.1 = 1) (some (zs z m0 v.1, if v.2.1 = 0 then v.2.2 else xcd v.2.1))
theorem c_L_cheapest {X : QX} {l : Launch} (hst : l.stackTraces = false) (hA : ApQ X) {z : ZQ} {m0 : Bool} {x1 x2 x3 x4 : Int} (r_x1 : R32 x1) (r_x2 : R32 x2) (r_x3 : R32 x3) (r_x4 : R32 x4) {out : ZQ × Int} (hf : f_L_cheapest z m0 x1 x2 x3 x4 = some out) : ConQW X l yL_cheapest (WSW yL_cheapest cL_cheapest 6 (some .int) hh_L_cheapest) rm_L_cheapest [rf (X.M m0).ad 1, .int (ii x1), .int (ii x2), .int (ii x3), .int (ii x4)] z out.1 out.2 := by
  unfold f_L_cheapest at hf
  obtain ⟨v, ev, hf⟩ := bnd_some hf
  obtain ⟨hn, hf⟩ := gd_some hf
  have hf := some_inj hf
  subst hf
  refine con_QW (by decide +kernel) rfl (Nat.le_of_ble_eq_true rfl) (c1s_r (c1s_i (c1s_i (c1s_i (c1s_i c1s_0 (Nat.le_of_ble_eq_true rfl)) (Nat.le_of_ble_eq_true rfl)) (Nat.le_of_ble_eq_true rfl)) (Nat.le_of_ble_eq_true rfl)) (Nat.le_of_ble_eq_true rfl)).1 hA hst ?_
  intro K H0 o g kc0 hst gT hret
  refine J_aload_n o dL_cheapest_0 rfl ?_
  refine J_iload_n o dL_cheapest_1 rfl ?_
  refine J_iload_n o dL_cheapest_2 rfl ?_
  refine J_iload_n o dL_cheapest_3 rfl ?_
  refine J_iload o dL_cheapest_4 rfl ?_
  refine J_qxI (m := m0) (vs := [.int (ii x1), .int (ii x2), .int (ii x3), .int (ii x4)]) o g kc0 dL_cheapest_6 mw1103 ml_Dm_cheapest vl_Dm_cheapest ⟨rfl, rfl, Nat.le_of_ble_eq_true rfl, Nat.le_of_ble_eq_true rfl⟩ ⟨Nat.le_refl _, Nat.le_refl _⟩ (c_Dm_cheapest hst g.2.1.inj r_x1 r_x2 r_x3 r_x4 ev) kA_1 rfl ⟨by decide, by decide⟩ rfl rfl c1s_0 (fun h0 hr => ?_) (fun h0 => ?_)
  · have o2 := OkQ.add (a := 1) (b := 6) o
    exact hret _ _ _ hr (if_pos h0).symm dL_cheapest_9
  · have o2 := OkQ.add (a := 1) (b := 6) o
    have g2 := GdQ.add (a := 1) (b := 6) g
    rcases hn with hn | hn
    · exact absurd hn h0
    · rw [hn]
      refine J_qcatch (hh := hh_L_cheapest) o2 g2 gT [] (0, 9, 10, 13) [] rfl (Or.inl rfl) (fun _ h => absurd h List.not_mem_nil) ⟨by decide, by decide⟩ (by decide) lxc1 (fun q => ?_)
      refine J_astO o2 dL_cheapest_10 (Nat.le_of_ble_eq_true rfl) ?_
      refine J_ldc o2 dL_cheapest_12 kcL_15 ?_
      exact hret _ _ _ rlm2000000001 (by rw [if_neg h0, hn]; rfl) dL_cheapest_14
abbrev rm_L_needed : Room := { frames := 8, cells := 1, slots := 6, locals := 210 }
def hh_L_needed : List (Nat × Nat × Nat × Nat) := [(0, 9, 10, 13)]
noncomputable def f_L_needed (z : ZQ) (m0 : Bool) (x1 x2 x3 x4 : Int) : Option (ZQ × Int) :=
  bnd (f_Dm_needed (zg z m0) x1 x2 x3 x4) fun v => gd (v.2.1 = 0 ∨ v.2.1 = 1) (some (zs z m0 v.1, if v.2.1 = 0 then v.2.2 else xcd v.2.1))
theorem c_L_needed {X : QX} {l : Launch} (hst : l.stackTraces = false) (hA : ApQ X) {z : ZQ} {m0 : Bool} {x1 x2 x3 x4 : Int} (r_x1 : R32 x1) (r_x2 : R32 x2) (r_x3 : R32 x3) (r_x4 : R32 x4) {out : ZQ × Int} (hf : f_L_needed z m0 x1 x2 x3 x4 = some out) : ConQW X l yL_needed (WSW yL_needed cL_needed 6 (some .int) hh_L_needed) rm_L_needed [rf (X.M m0).ad 1, .int (ii x1), .int (ii x2), .int (ii x3), .int (ii x4)] z out.1 out.2 := by
  unfold f_L_needed at hf
  obtain ⟨v, ev, hf⟩ := bnd_some hf
  obtain ⟨hn, hf⟩ := gd_some hf
  have hf := some_inj hf
  subst hf
  refine con_QW (by decide +kernel) rfl (Nat.le_of_ble_eq_true rfl) (c1s_r (c1s_i (c1s_i (c1s_i (c1s_i c1s_0 (Nat.le_of_ble_eq_true rfl)) (Nat.le_of_ble_eq_true rfl)) (Nat.le_of_ble_eq_true rfl)) (Nat.le_of_ble_eq_true rfl)) (Nat.le_of_ble_eq_true rfl)).1 hA hst ?_
  intro K H0 o g kc0 hst gT hret
  refine J_aload_n o dL_needed_0 rfl ?_
  refine J_iload_n o dL_needed_1 rfl ?_
  refine J_iload_n o dL_needed_2 rfl ?_
  refine J_iload_n o dL_needed_3 rfl ?_
  refine J_iload o dL_needed_4 rfl ?_
  refine J_qxI (m := m0) (vs := [.int (ii x1), .int (ii x2), .int (ii x3), .int (ii x4)]) o g kc0 dL_needed_6 mw1142 ml_Dm_needed vl_Dm_needed ⟨rfl, rfl, Nat.le_of_ble_eq_true rfl, Nat.le_of_ble_eq_true rfl⟩ ⟨Nat.le_refl _, Nat.le_refl _⟩ (c_Dm_needed hst g.2.1.inj r_x1 r_x2 r_x3 r_x4 ev) kA_1 rfl ⟨by decide, by decide⟩ rfl rfl c1s_0 (fun h0 hr => ?_) (fun h0 => ?_)
  · have o2 := OkQ.add (a := 1) (b := 6) o
    exact hret _ _ _ hr (if_pos h0).symm dL_needed_9
  · have o2 := OkQ.add (a := 1) (b := 6) o
    have g2 := GdQ.add (a := 1) (b := 6) g
    rcases hn with hn | hn
    · exact absurd hn h0
    · rw [hn]
      refine J_qcatch (hh := hh_L_needed) o2 g2 gT [] (0, 9, 10, 13) [] rfl (Or.inl rfl) (fun _ h => absurd h List.not_mem_nil) ⟨by decide, by decide⟩ (by decide) lxc1 (fun q => ?_)
      refine J_astO o2 dL_needed_10 (Nat.le_of_ble_eq_true rfl) ?_
      refine J_ldc o2 dL_needed_12 kcL_15 ?_
      exact hret _ _ _ rlm2000000001 (by rw [if_neg h0, hn]; rfl) dL_needed_14
abbrev rm_L_whyNot : Room := { frames := 7, cells := 1, slots := 6, locals := 175 }
def hh_L_whyNot : List (Nat × Nat × Nat × Nat) := [(0, 9, 10, 13), (0, 9, 15, 16), (0, 9, 20, 19)]
noncomputable def f_L_whyNot (z : ZQ) (m0 : Bool) (x1 x2 x3 x4 : Int) : Option (ZQ × Int) :=
  bnd (f_Dm_whyNot (zg z m0) x1 x2 x3 x4) fun v => gd (v.2.1 = 0 ∨ v.2.1 = 1 ∨ v.2.1 = 2 ∨ v.2.1 = 3) (some (zs z m0 v.1, if v.2.1 = 0 then v.2.2 else xcd v.2.1))
theorem c_L_whyNot {X : QX} {l : Launch} (hst : l.stackTraces = false) (hA : ApQ X) {z : ZQ} {m0 : Bool} {x1 x2 x3 x4 : Int} (r_x1 : R32 x1) (r_x2 : R32 x2) (r_x3 : R32 x3) (r_x4 : R32 x4) {out : ZQ × Int} (hf : f_L_whyNot z m0 x1 x2 x3 x4 = some out) : ConQW X l yL_whyNot (WSW yL_whyNot cL_whyNot 6 (some .int) hh_L_whyNot) rm_L_whyNot [rf (X.M m0).ad 1, .int (ii x1), .int (ii x2), .int (ii x3), .int (ii x4)] z out.1 out.2 := by
  unfold f_L_whyNot at hf
  obtain ⟨v, ev, hf⟩ := bnd_some hf
  obtain ⟨hn, hf⟩ := gd_some hf
  have hf := some_inj hf
  subst hf
  refine con_QW (by decide +kernel) rfl (Nat.le_of_ble_eq_true rfl) (c1s_r (c1s_i (c1s_i (c1s_i (c1s_i c1s_0 (Nat.le_of_ble_eq_true rfl)) (Nat.le_of_ble_eq_true rfl)) (Nat.le_of_ble_eq_true rfl)) (Nat.le_of_ble_eq_true rfl)) (Nat.le_of_ble_eq_true rfl)).1 hA hst ?_
  intro K H0 o g kc0 hst gT hret
  refine J_aload_n o dL_whyNot_0 rfl ?_
  refine J_iload_n o dL_whyNot_1 rfl ?_
  refine J_iload_n o dL_whyNot_2 rfl ?_
  refine J_iload_n o dL_whyNot_3 rfl ?_
  refine J_iload o dL_whyNot_4 rfl ?_
  refine J_qxI (m := m0) (vs := [.int (ii x1), .int (ii x2), .int (ii x3), .int (ii x4)]) o g kc0 dL_whyNot_6 mw1149 ml_Dm_whyNot vl_Dm_whyNot ⟨rfl, rfl, Nat.le_of_ble_eq_true rfl, Nat.le_of_ble_eq_true rfl⟩ ⟨Nat.le_refl _, Nat.le_refl _⟩ (c_Dm_whyNot hst g.2.1.inj r_x1 r_x2 r_x3 r_x4 ev) kA_1 rfl ⟨by decide, by decide⟩ rfl rfl c1s_0 (fun h0 hr => ?_) (fun h0 => ?_)
  · have o2 := OkQ.add (a := 1) (b := 6) o
    exact hret _ _ _ hr (if_pos h0).symm dL_whyNot_9
  · have o2 := OkQ.add (a := 1) (b := 6) o
    have g2 := GdQ.add (a := 1) (b := 6) g
    rcases hn with hn | hn | hn | hn
    · exact absurd hn h0
    · rw [hn]
      refine J_qcatch (hh := hh_L_whyNot) o2 g2 gT [] (0, 9, 10, 13) [(0, 9, 15, 16), (0, 9, 20, 19)] rfl (Or.inl rfl) (fun _ h => absurd h List.not_mem_nil) ⟨by decide, by decide⟩ (by decide) lxc1 (fun q => ?_)
      refine J_astO o2 dL_whyNot_10 (Nat.le_of_ble_eq_true rfl) ?_
      refine J_ldc o2 dL_whyNot_12 kcL_15 ?_
      exact hret _ _ _ rlm2000000001 (by rw [if_neg h0, hn]; rfl) dL_whyNot_14
    · rw [hn]
      refine J_qcatch (hh := hh_L_whyNot) o2 g2 gT [(0, 9, 10, 13)] (0, 9, 15, 16) [(0, 9, 20, 19)] rfl (Or.inr (Or.inl rfl)) (by
        intro z hz
        simp only [List.mem_cons, List.not_mem_nil, or_false] at hz
        rcases hz with rfl
        · exact ⟨by decide, 1, Or.inl rfl, by decide, lxc1⟩) ⟨by decide, by decide⟩ (by decide) lxc2 (fun q => ?_)
      refine J_astO o2 dL_whyNot_15 (Nat.le_of_ble_eq_true rfl) ?_
      refine J_ldc o2 dL_whyNot_17 kcL_18 ?_
      exact hret _ _ _ rlm2000000002 (by rw [if_neg h0, hn]; rfl) dL_whyNot_19
    · rw [hn]
      refine J_qcatch (hh := hh_L_whyNot) o2 g2 gT [(0, 9, 10, 13), (0, 9, 15, 16)] (0, 9, 20, 19) [] rfl (Or.inr (Or.inr rfl)) (by
        intro z hz
        simp only [List.mem_cons, List.not_mem_nil, or_false] at hz
        rcases hz with rfl | rfl
        · exact ⟨by decide, 1, Or.inl rfl, by decide, lxc1⟩
        · exact ⟨by decide, 2, Or.inr (Or.inl rfl), by decide, lxc2⟩) ⟨by decide, by decide⟩ (by decide) lxc3 (fun q => ?_)
      refine J_astO o2 dL_whyNot_20 (Nat.le_of_ble_eq_true rfl) ?_
      refine J_ldc o2 dL_whyNot_22 kcL_21 ?_
      exact hret _ _ _ rlm2000000003 (by rw [if_neg h0, hn]; rfl) dL_whyNot_24
abbrev rm_L_goals : Room := { frames := 7, cells := 1, slots := 6, locals := 177 }
def hh_L_goals : List (Nat × Nat × Nat × Nat) := [(0, 9, 10, 13), (0, 9, 15, 16)]
noncomputable def f_L_goals (z : ZQ) (m0 : Bool) (x1 x2 x3 x4 : Int) : Option (ZQ × Int) :=
  bnd (f_Dm_goals (zg z m0) x1 x2 x3 x4) fun v => gd (v.2.1 = 0 ∨ v.2.1 = 1 ∨ v.2.1 = 2) (some (zs z m0 v.1, if v.2.1 = 0 then v.2.2 else xcd v.2.1))
theorem c_L_goals {X : QX} {l : Launch} (hst : l.stackTraces = false) (hA : ApQ X) {z : ZQ} {m0 : Bool} {x1 x2 x3 x4 : Int} (r_x1 : R32 x1) (r_x2 : R32 x2) (r_x3 : R32 x3) (r_x4 : R32 x4) {out : ZQ × Int} (hf : f_L_goals z m0 x1 x2 x3 x4 = some out) : ConQW X l yL_goals (WSW yL_goals cL_goals 6 (some .int) hh_L_goals) rm_L_goals [rf (X.M m0).ad 1, .int (ii x1), .int (ii x2), .int (ii x3), .int (ii x4)] z out.1 out.2 := by
  unfold f_L_goals at hf
  obtain ⟨v, ev, hf⟩ := bnd_some hf
  obtain ⟨hn, hf⟩ := gd_some hf
  have hf := some_inj hf
  subst hf
  refine con_QW (by decide +kernel) rfl (Nat.le_of_ble_eq_true rfl) (c1s_r (c1s_i (c1s_i (c1s_i (c1s_i c1s_0 (Nat.le_of_ble_eq_true rfl)) (Nat.le_of_ble_eq_true rfl)) (Nat.le_of_ble_eq_true rfl)) (Nat.le_of_ble_eq_true rfl)) (Nat.le_of_ble_eq_true rfl)).1 hA hst ?_
  intro K H0 o g kc0 hst gT hret
  refine J_aload_n o dL_goals_0 rfl ?_
  refine J_iload_n o dL_goals_1 rfl ?_
  refine J_iload_n o dL_goals_2 rfl ?_
  refine J_iload_n o dL_goals_3 rfl ?_
  refine J_iload o dL_goals_4 rfl ?_
  refine J_qxI (m := m0) (vs := [.int (ii x1), .int (ii x2), .int (ii x3), .int (ii x4)]) o g kc0 dL_goals_6 mw1162 ml_Dm_goals vl_Dm_goals ⟨rfl, rfl, Nat.le_of_ble_eq_true rfl, Nat.le_of_ble_eq_true rfl⟩ ⟨Nat.le_refl _, Nat.le_refl _⟩ (c_Dm_goals hst g.2.1.inj r_x1 r_x2 r_x3 r_x4 ev) kA_1 rfl ⟨by decide, by decide⟩ rfl rfl c1s_0 (fun h0 hr => ?_) (fun h0 => ?_)
  · have o2 := OkQ.add (a := 1) (b := 6) o
    exact hret _ _ _ hr (if_pos h0).symm dL_goals_9
  · have o2 := OkQ.add (a := 1) (b := 6) o
    have g2 := GdQ.add (a := 1) (b := 6) g
    rcases hn with hn | hn | hn
    · exact absurd hn h0
    · rw [hn]
      refine J_qcatch (hh := hh_L_goals) o2 g2 gT [] (0, 9, 10, 13) [(0, 9, 15, 16)] rfl (Or.inl rfl) (fun _ h => absurd h List.not_mem_nil) ⟨by decide, by decide⟩ (by decide) lxc1 (fun q => ?_)
      refine J_astO o2 dL_goals_10 (Nat.le_of_ble_eq_true rfl) ?_
      refine J_ldc o2 dL_goals_12 kcL_15 ?_
      exact hret _ _ _ rlm2000000001 (by rw [if_neg h0, hn]; rfl) dL_goals_14
    · rw [hn]
      refine J_qcatch (hh := hh_L_goals) o2 g2 gT [(0, 9, 10, 13)] (0, 9, 15, 16) [] rfl (Or.inr (Or.inl rfl)) (by
        intro z hz
        simp only [List.mem_cons, List.not_mem_nil, or_false] at hz
        rcases hz with rfl
        · exact ⟨by decide, 1, Or.inl rfl, by decide, lxc1⟩) ⟨by decide, by decide⟩ (by decide) lxc2 (fun q => ?_)
      refine J_astO o2 dL_goals_15 (Nat.le_of_ble_eq_true rfl) ?_
      refine J_ldc o2 dL_goals_17 kcL_18 ?_
      exact hret _ _ _ rlm2000000002 (by rw [if_neg h0, hn]; rfl) dL_goals_19
abbrev rm_L_order : Room := { frames := 7, cells := 1, slots := 6, locals := 126 }
def hh_L_order : List (Nat × Nat × Nat × Nat) := [(0, 6, 7, 13)]
noncomputable def f_L_order (z : ZQ) (m0 : Bool) (x1 x2 : Int) : Option (ZQ × Int) :=
  bnd (f_Dm_order (zg z m0) x1 x2) fun v => gd (v.2.1 = 0 ∨ v.2.1 = 1) (some (zs z m0 v.1, if v.2.1 = 0 then v.2.2 else xcd v.2.1))
theorem c_L_order {X : QX} {l : Launch} (hst : l.stackTraces = false) (hA : ApQ X) {z : ZQ} {m0 : Bool} {x1 x2 : Int} (r_x1 : R32 x1) (r_x2 : R32 x2) {out : ZQ × Int} (hf : f_L_order z m0 x1 x2 = some out) : ConQW X l yL_order (WSW yL_order cL_order 4 (some .int) hh_L_order) rm_L_order [rf (X.M m0).ad 1, .int (ii x1), .int (ii x2)] z out.1 out.2 := by
  unfold f_L_order at hf
  obtain ⟨v, ev, hf⟩ := bnd_some hf
  obtain ⟨hn, hf⟩ := gd_some hf
  have hf := some_inj hf
  subst hf
  refine con_QW (by decide +kernel) rfl (Nat.le_of_ble_eq_true rfl) (c1s_r (c1s_i (c1s_i c1s_0 (Nat.le_of_ble_eq_true rfl)) (Nat.le_of_ble_eq_true rfl)) (Nat.le_of_ble_eq_true rfl)).1 hA hst ?_
  intro K H0 o g kc0 hst gT hret
  refine J_aload_n o dL_order_0 rfl ?_
  refine J_iload_n o dL_order_1 rfl ?_
  refine J_iload_n o dL_order_2 rfl ?_
  refine J_qxI (m := m0) (vs := [.int (ii x1), .int (ii x2)]) o g kc0 dL_order_3 mw1198 ml_Dm_order vl_Dm_order ⟨rfl, rfl, Nat.le_of_ble_eq_true rfl, Nat.le_of_ble_eq_true rfl⟩ ⟨Nat.le_refl _, Nat.le_refl _⟩ (c_Dm_order hst g.2.1.inj r_x1 r_x2 ev) kA_1 rfl ⟨by decide, by decide⟩ rfl rfl c1s_0 (fun h0 hr => ?_) (fun h0 => ?_)
  · have o2 := OkQ.add (a := 1) (b := 6) o
    exact hret _ _ _ hr (if_pos h0).symm dL_order_6
  · have o2 := OkQ.add (a := 1) (b := 6) o
    have g2 := GdQ.add (a := 1) (b := 6) g
    rcases hn with hn | hn
    · exact absurd hn h0
    · rw [hn]
      refine J_qcatch (hh := hh_L_order) o2 g2 gT [] (0, 6, 7, 13) [] rfl (Or.inl rfl) (fun _ h => absurd h List.not_mem_nil) ⟨by decide, by decide⟩ (by decide) lxc1 (fun q => ?_)
      refine J_astO_n o2 dL_order_7 (Nat.le_of_ble_eq_true rfl) ?_
      refine J_ldc o2 dL_order_8 kcL_15 ?_
      exact hret _ _ _ rlm2000000001 (by rw [if_neg h0, hn]; rfl) dL_order_10
abbrev rm_L_joins : Room := { frames := 7, cells := 1, slots := 6, locals := 124 }
def hh_L_joins : List (Nat × Nat × Nat × Nat) := [(0, 5, 6, 13)]
noncomputable def f_L_joins (z : ZQ) (m0 : Bool) (x1 : Int) : Option (ZQ × Int) :=
  bnd (f_Dm_joins (zg z m0) x1) fun v => gd (v.2.1 = 0 ∨ v.2.1 = 1) (some (zs z m0 v.1, if v.2.1 = 0 then v.2.2 else xcd v.2.1))
theorem c_L_joins {X : QX} {l : Launch} (hst : l.stackTraces = false) (hA : ApQ X) {z : ZQ} {m0 : Bool} {x1 : Int} (r_x1 : R32 x1) {out : ZQ × Int} (hf : f_L_joins z m0 x1 = some out) : ConQW X l yL_joins (WSW yL_joins cL_joins 3 (some .int) hh_L_joins) rm_L_joins [rf (X.M m0).ad 1, .int (ii x1)] z out.1 out.2 := by
  unfold f_L_joins at hf
  obtain ⟨v, ev, hf⟩ := bnd_some hf
  obtain ⟨hn, hf⟩ := gd_some hf
  have hf := some_inj hf
  subst hf
  refine con_QW (by decide +kernel) rfl (Nat.le_of_ble_eq_true rfl) (c1s_r (c1s_i c1s_0 (Nat.le_of_ble_eq_true rfl)) (Nat.le_of_ble_eq_true rfl)).1 hA hst ?_
  intro K H0 o g kc0 hst gT hret
  refine J_aload_n o dL_joins_0 rfl ?_
  refine J_iload_n o dL_joins_1 rfl ?_
  refine J_qxI (m := m0) (vs := [.int (ii x1)]) o g kc0 dL_joins_2 mw1228 ml_Dm_joins vl_Dm_joins ⟨rfl, rfl, Nat.le_of_ble_eq_true rfl, Nat.le_of_ble_eq_true rfl⟩ ⟨Nat.le_refl _, Nat.le_refl _⟩ (c_Dm_joins hst g.2.1.inj r_x1 ev) kA_1 rfl ⟨by decide, by decide⟩ rfl rfl c1s_0 (fun h0 hr => ?_) (fun h0 => ?_)
  · have o2 := OkQ.add (a := 1) (b := 6) o
    exact hret _ _ _ hr (if_pos h0).symm dL_joins_5
  · have o2 := OkQ.add (a := 1) (b := 6) o
    have g2 := GdQ.add (a := 1) (b := 6) g
    rcases hn with hn | hn
    · exact absurd hn h0
    · rw [hn]
      refine J_qcatch (hh := hh_L_joins) o2 g2 gT [] (0, 5, 6, 13) [] rfl (Or.inl rfl) (fun _ h => absurd h List.not_mem_nil) ⟨by decide, by decide⟩ (by decide) lxc1 (fun q => ?_)
      refine J_astO_n o2 dL_joins_6 (Nat.le_of_ble_eq_true rfl) ?_
      refine J_ldc o2 dL_joins_7 kcL_15 ?_
      exact hret _ _ _ rlm2000000001 (by rw [if_neg h0, hn]; rfl) dL_joins_9
abbrev rm_L_indexes : Room := { frames := 7, cells := 1, slots := 6, locals := 128 }
def hh_L_indexes : List (Nat × Nat × Nat × Nat) := [(0, 5, 6, 13)]
noncomputable def f_L_indexes (z : ZQ) (m0 : Bool) (x1 : Int) : Option (ZQ × Int) :=
  bnd (f_Dm_indexes (zg z m0) x1) fun v => gd (v.2.1 = 0 ∨ v.2.1 = 1) (some (zs z m0 v.1, if v.2.1 = 0 then v.2.2 else xcd v.2.1))
theorem c_L_indexes {X : QX} {l : Launch} (hst : l.stackTraces = false) (hA : ApQ X) {z : ZQ} {m0 : Bool} {x1 : Int} (r_x1 : R32 x1) {out : ZQ × Int} (hf : f_L_indexes z m0 x1 = some out) : ConQW X l yL_indexes (WSW yL_indexes cL_indexes 3 (some .int) hh_L_indexes) rm_L_indexes [rf (X.M m0).ad 1, .int (ii x1)] z out.1 out.2 := by
  unfold f_L_indexes at hf
  obtain ⟨v, ev, hf⟩ := bnd_some hf
  obtain ⟨hn, hf⟩ := gd_some hf
  have hf := some_inj hf
  subst hf
  refine con_QW (by decide +kernel) rfl (Nat.le_of_ble_eq_true rfl) (c1s_r (c1s_i c1s_0 (Nat.le_of_ble_eq_true rfl)) (Nat.le_of_ble_eq_true rfl)).1 hA hst ?_
  intro K H0 o g kc0 hst gT hret
  refine J_aload_n o dL_indexes_0 rfl ?_
  refine J_iload_n o dL_indexes_1 rfl ?_
  refine J_qxI (m := m0) (vs := [.int (ii x1)]) o g kc0 dL_indexes_2 mw1250 ml_Dm_indexes vl_Dm_indexes ⟨rfl, rfl, Nat.le_of_ble_eq_true rfl, Nat.le_of_ble_eq_true rfl⟩ ⟨Nat.le_refl _, Nat.le_refl _⟩ (c_Dm_indexes hst g.2.1.inj r_x1 ev) kA_1 rfl ⟨by decide, by decide⟩ rfl rfl c1s_0 (fun h0 hr => ?_) (fun h0 => ?_)
  · have o2 := OkQ.add (a := 1) (b := 6) o
    exact hret _ _ _ hr (if_pos h0).symm dL_indexes_5
  · have o2 := OkQ.add (a := 1) (b := 6) o
    have g2 := GdQ.add (a := 1) (b := 6) g
    rcases hn with hn | hn
    · exact absurd hn h0
    · rw [hn]
      refine J_qcatch (hh := hh_L_indexes) o2 g2 gT [] (0, 5, 6, 13) [] rfl (Or.inl rfl) (fun _ h => absurd h List.not_mem_nil) ⟨by decide, by decide⟩ (by decide) lxc1 (fun q => ?_)
      refine J_astO_n o2 dL_indexes_6 (Nat.le_of_ble_eq_true rfl) ?_
      refine J_ldc o2 dL_indexes_7 kcL_15 ?_
      exact hret _ _ _ rlm2000000001 (by rw [if_neg h0, hn]; rfl) dL_indexes_9
