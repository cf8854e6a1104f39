set_option maxRecDepth 20000 in
theorem mw753 : Cond.classLink "DatalogmillLaw" (13 : Nat) "java/lang/IndexOutOfBoundsException" ∈ GW := inGW (List.mem_of_getElem? (i := 753) (by rfl)) (by decide +kernel)
set_option maxRecDepth 20000 in
theorem mw754 : Cond.classLink "DatalogmillLaw" (15 : Nat) "java/lang/IllegalArgumentException" ∈ GW := inGW (List.mem_of_getElem? (i := 754) (by rfl)) (by decide +kernel)
set_option maxRecDepth 20000 in
theorem mw755 : Cond.classLink "DatalogmillLaw" (17 : Nat) "java/lang/IllegalStateException" ∈ GW := inGW (List.mem_of_getElem? (i := 755) (by rfl)) (by decide +kernel)
set_option maxRecDepth 20000 in
theorem mw756 : Cond.methodLink "DatalogmillLaw" (7 : Nat) ({ cls := "Datalogmill", name := "declare", desc := "(IIII)V" } : MethodName) ∈ GW := inGW (List.mem_of_getElem? (i := 756) (by rfl)) (by decide +kernel)
set_option maxRecDepth 20000 in
theorem mw759 : Cond.code yX10_declare cX10_declare 5 none ∈ GW := inGW (List.mem_of_getElem? (i := 759) (by rfl)) (by decide +kernel)
theorem ml_Dm_declare : ML yX10_declare cX10_declare 5 none 4 := ⟨mw759, mw163, by decide +kernel, by decide +kernel, by decide +kernel⟩
set_option maxRecDepth 20000 in
theorem mw757 : Cond.instanceMethod ({ cls := "Datalogmill", name := "declare", desc := "(IIII)V" } : MethodName) ∈ GW := inGW (List.mem_of_getElem? (i := 757) (by rfl)) (by decide +kernel)
set_option maxRecDepth 20000 in
theorem mw758 : Cond.selects "Datalogmill" ({ cls := "Datalogmill", name := "declare", desc := "(IIII)V" } : MethodName) ({ cls := "Datalogmill", name := "declare", desc := "(IIII)V" } : MethodName) ∈ GW := inGW (List.mem_of_getElem? (i := 758) (by rfl)) (by decide +kernel)
theorem vl_Dm_declare : VL yX10_declare := ⟨mw757, mw758⟩
set_option maxRecDepth 20000 in
theorem mw875 : Cond.methodLink "DatalogmillLaw" (19 : Nat) ({ cls := "Datalogmill", name := "fact", desc := "(IIIIIII)I" } : MethodName) ∈ GW := inGW (List.mem_of_getElem? (i := 875) (by rfl)) (by decide +kernel)
set_option maxRecDepth 20000 in
theorem mw878 : Cond.code yX10_fact cX10_fact 8 (some .int) ∈ GW := inGW (List.mem_of_getElem? (i := 878) (by rfl)) (by decide +kernel)
theorem ml_Dm_fact : ML yX10_fact cX10_fact 8 (some .int) 7 := ⟨mw878, mw163, by decide +kernel, by decide +kernel, by decide +kernel⟩
set_option maxRecDepth 20000 in
theorem mw876 : Cond.instanceMethod ({ cls := "Datalogmill", name := "fact", desc := "(IIIIIII)I" } : MethodName) ∈ GW := inGW (List.mem_of_getElem? (i := 876) (by rfl)) (by decide +kernel)
set_option maxRecDepth 20000 in
theorem mw877 : Cond.selects "Datalogmill" ({ cls := "Datalogmill", name := "fact", desc := "(IIIIIII)I" } : MethodName) ({ cls := "Datalogmill", name := "fact", desc := "(IIIIIII)I" } : MethodName) ∈ GW := inGW (List.mem_of_getElem? (i := 877) (by rfl)) (by decide +kernel)
theorem vl_Dm_fact : VL yX10_fact := ⟨mw876, mw877⟩
set_option maxRecDepth 20000 in
theorem mw918 : Cond.methodLink "DatalogmillLaw" (23 : Nat) ({ cls := "Datalogmill", name := "drop", desc := "(I)I" } : MethodName) ∈ GW := inGW (List.mem_of_getElem? (i := 918) (by rfl)) (by decide +kernel)
set_option maxRecDepth 20000 in
theorem mw921 : Cond.code yX10_drop cX10_drop 2 (some .int) ∈ GW := inGW (List.mem_of_getElem? (i := 921) (by rfl)) (by decide +kernel)
theorem ml_Dm_drop : ML yX10_drop cX10_drop 2 (some .int) 1 := ⟨mw921, mw163, by decide +kernel, by decide +kernel, by decide +kernel⟩
set_option maxRecDepth 20000 in
theorem mw919 : Cond.instanceMethod ({ cls := "Datalogmill", name := "drop", desc := "(I)I" } : MethodName) ∈ GW := inGW (List.mem_of_getElem? (i := 919) (by rfl)) (by decide +kernel)
set_option maxRecDepth 20000 in
theorem mw920 : Cond.selects "Datalogmill" ({ cls := "Datalogmill", name := "drop", desc := "(I)I" } : MethodName) ({ cls := "Datalogmill", name := "drop", desc := "(I)I" } : MethodName) ∈ GW := inGW (List.mem_of_getElem? (i := 920) (by rfl)) (by decide +kernel)
theorem vl_Dm_drop : VL yX10_drop := ⟨mw919, mw920⟩
set_option maxRecDepth 20000 in
theorem mw943 : Cond.methodLink "DatalogmillLaw" (27 : Nat) ({ cls := "Datalogmill", name := "pass", desc := "()I" } : MethodName) ∈ GW := inGW (List.mem_of_getElem? (i := 943) (by rfl)) (by decide +kernel)
set_option maxRecDepth 20000 in
theorem mw946 : Cond.code yX10_pass cX10_pass 1 (some .int) ∈ GW := inGW (List.mem_of_getElem? (i := 946) (by rfl)) (by decide +kernel)
theorem ml_Dm_pass : ML yX10_pass cX10_pass 1 (some .int) 0 := ⟨mw946, mw163, by decide +kernel, by decide +kernel, by decide +kernel⟩
set_option maxRecDepth 20000 in
theorem mw944 : Cond.instanceMethod ({ cls := "Datalogmill", name := "pass", desc := "()I" } : MethodName) ∈ GW := inGW (List.mem_of_getElem? (i := 944) (by rfl)) (by decide +kernel)
set_option maxRecDepth 20000 in
theorem mw945 : Cond.selects "Datalogmill" ({ cls := "Datalogmill", name := "pass", desc := "()I" } : MethodName) ({ cls := "Datalogmill", name := "pass", desc := "()I" } : MethodName) ∈ GW := inGW (List.mem_of_getElem? (i := 945) (by rfl)) (by decide +kernel)
theorem vl_Dm_pass : VL yX10_pass := ⟨mw944, mw945⟩
set_option maxRecDepth 20000 in
theorem mw951 : Cond.methodLink "DatalogmillLaw" (31 : Nat) ({ cls := "Datalogmill", name := "head", desc := "(IIII)V" } : MethodName) ∈ GW := inGW (List.mem_of_getElem? (i := 951) (by rfl)) (by decide +kernel)
set_option maxRecDepth 20000 in
theorem mw954 : Cond.code yX10_head cX10_head 5 none ∈ GW := inGW (List.mem_of_getElem? (i := 954) (by rfl)) (by decide +kernel)
theorem ml_Dm_head : ML yX10_head cX10_head 5 none 4 := ⟨mw954, mw163, by decide +kernel, by decide +kernel, by decide +kernel⟩
set_option maxRecDepth 20000 in
theorem mw952 : Cond.instanceMethod ({ cls := "Datalogmill", name := "head", desc := "(IIII)V" } : MethodName) ∈ GW := inGW (List.mem_of_getElem? (i := 952) (by rfl)) (by decide +kernel)
set_option maxRecDepth 20000 in
theorem mw953 : Cond.selects "Datalogmill" ({ cls := "Datalogmill", name := "head", desc := "(IIII)V" } : MethodName) ({ cls := "Datalogmill", name := "head", desc := "(IIII)V" } : MethodName) ∈ GW := inGW (List.mem_of_getElem? (i := 953) (by rfl)) (by decide +kernel)
theorem vl_Dm_head : VL yX10_head := ⟨mw952, mw953⟩
set_option maxRecDepth 20000 in
theorem mw960 : Cond.methodLink "DatalogmillLaw" (34 : Nat) ({ cls := "Datalogmill", name := "atom", desc := "(IZIII)I" } : MethodName) ∈ GW := inGW (List.mem_of_getElem? (i := 960) (by rfl)) (by decide +kernel)
set_option maxRecDepth 20000 in
theorem mw963 : Cond.code yX10_atom cX10_atom 6 (some .int) ∈ GW := inGW (List.mem_of_getElem? (i := 963) (by rfl)) (by decide +kernel)
theorem ml_Dm_atom : ML yX10_atom cX10_atom 6 (some .int) 5 := ⟨mw963, mw163, by decide +kernel, by decide +kernel, by decide +kernel⟩
set_option maxRecDepth 20000 in
theorem mw961 : Cond.instanceMethod ({ cls := "Datalogmill", name := "atom", desc := "(IZIII)I" } : MethodName) ∈ GW := inGW (List.mem_of_getElem? (i := 961) (by rfl)) (by decide +kernel)
set_option maxRecDepth 20000 in
theorem mw962 : Cond.selects "Datalogmill" ({ cls := "Datalogmill", name := "atom", desc := "(IZIII)I" } : MethodName) ({ cls := "Datalogmill", name := "atom", desc := "(IZIII)I" } : MethodName) ∈ GW := inGW (List.mem_of_getElem? (i := 962) (by rfl)) (by decide +kernel)
theorem vl_Dm_atom : VL yX10_atom := ⟨mw961, mw962⟩
set_option maxRecDepth 20000 in
theorem mw977 : Cond.methodLink "DatalogmillLaw" (38 : Nat) ({ cls := "Datalogmill", name := "compare", desc := "(III)I" } : MethodName) ∈ GW := inGW (List.mem_of_getElem? (i := 977) (by rfl)) (by decide +kernel)
set_option maxRecDepth 20000 in
theorem mw980 : Cond.code yX10_compare cX10_compare 4 (some .int) ∈ GW := inGW (List.mem_of_getElem? (i := 980) (by rfl)) (by decide +kernel)
theorem ml_Dm_compare : ML yX10_compare cX10_compare 4 (some .int) 3 := ⟨mw980, mw163, by decide +kernel, by decide +kernel, by decide +kernel⟩
set_option maxRecDepth 20000 in
theorem mw978 : Cond.instanceMethod ({ cls := "Datalogmill", name := "compare", desc := "(III)I" } : MethodName) ∈ GW := inGW (List.mem_of_getElem? (i := 978) (by rfl)) (by decide +kernel)
set_option maxRecDepth 20000 in
theorem mw979 : Cond.selects "Datalogmill" ({ cls := "Datalogmill", name := "compare", desc := "(III)I" } : MethodName) ({ cls := "Datalogmill", name := "compare", desc := "(III)I" } : MethodName) ∈ GW := inGW (List.mem_of_getElem? (i := 979) (by rfl)) (by decide +kernel)
theorem vl_Dm_compare : VL yX10_compare := ⟨mw978, mw979⟩
set_option maxRecDepth 20000 in
theorem mw986 : Cond.methodLink "DatalogmillLaw" (42 : Nat) ({ cls := "Datalogmill", name := "add", desc := "(III)I" } : MethodName) ∈ GW := inGW (List.mem_of_getElem? (i := 986) (by rfl)) (by decide +kernel)
set_option maxRecDepth 20000 in
theorem mw989 : Cond.code yX10_add cX10_add 4 (some .int) ∈ GW := inGW (List.mem_of_getElem? (i := 989) (by rfl)) (by decide +kernel)
theorem ml_Dm_add : ML yX10_add cX10_add 4 (some .int) 3 := ⟨mw989, mw163, by decide +kernel, by decide +kernel, by decide +kernel⟩
set_option maxRecDepth 20000 in
theorem mw987 : Cond.instanceMethod ({ cls := "Datalogmill", name := "add", desc := "(III)I" } : MethodName) ∈ GW := inGW (List.mem_of_getElem? (i := 987) (by rfl)) (by decide +kernel)
set_option maxRecDepth 20000 in
theorem mw988 : Cond.selects "Datalogmill" ({ cls := "Datalogmill", name := "add", desc := "(III)I" } : MethodName) ({ cls := "Datalogmill", name := "add", desc := "(III)I" } : MethodName) ∈ GW := inGW (List.mem_of_getElem? (i := 988) (by rfl)) (by decide +kernel)
theorem vl_Dm_add : VL yX10_add := ⟨mw987, mw988⟩
set_option maxRecDepth 20000 in
theorem mw993 : Cond.methodLink "DatalogmillLaw" (45 : Nat) ({ cls := "Datalogmill", name := "enter", desc := "()I" } : MethodName) ∈ GW := inGW (List.mem_of_getElem? (i := 993) (by rfl)) (by decide +kernel)
set_option maxRecDepth 20000 in
theorem mw996 : Cond.code yX10_enter cX10_enter 1 (some .int) ∈ GW := inGW (List.mem_of_getElem? (i := 996) (by rfl)) (by decide +kernel)
theorem ml_Dm_enter : ML yX10_enter cX10_enter 1 (some .int) 0 := ⟨mw996, mw163, by decide +kernel, by decide +kernel, by decide +kernel⟩
set_option maxRecDepth 20000 in
theorem mw994 : Cond.instanceMethod ({ cls := "Datalogmill", name := "enter", desc := "()I" } : MethodName) ∈ GW := inGW (List.mem_of_getElem? (i := 994) (by rfl)) (by decide +kernel)
set_option maxRecDepth 20000 in
theorem mw995 : Cond.selects "Datalogmill" ({ cls := "Datalogmill", name := "enter", desc := "()I" } : MethodName) ({ cls := "Datalogmill", name := "enter", desc := "()I" } : MethodName) ∈ GW := inGW (List.mem_of_getElem? (i := 995) (by rfl)) (by decide +kernel)
theorem vl_Dm_enter : VL yX10_enter := ⟨mw994, mw995⟩
set_option maxRecDepth 20000 in
theorem mw1069 : Cond.methodLink "DatalogmillLaw" (48 : Nat) ({ cls := "Datalogmill", name := "deny", desc := "()I" } : MethodName) ∈ GW := inGW (List.mem_of_getElem? (i := 1069) (by rfl)) (by decide +kernel)
set_option maxRecDepth 20000 in
theorem mw1072 : Cond.code yX10_deny cX10_deny 1 (some .int) ∈ GW := inGW (List.mem_of_getElem? (i := 1072) (by rfl)) (by decide +kernel)
theorem ml_Dm_deny : ML yX10_deny cX10_deny 1 (some .int) 0 := ⟨mw1072, mw163, by decide +kernel, by decide +kernel, by decide +kernel⟩
set_option maxRecDepth 20000 in
theorem mw1070 : Cond.instanceMethod ({ cls := "Datalogmill", name := "deny", desc := "()I" } : MethodName) ∈ GW := inGW (List.mem_of_getElem? (i := 1070) (by rfl)) (by decide +kernel)
set_option maxRecDepth 20000 in
theorem mw1071 : Cond.selects "Datalogmill" ({ cls := "Datalogmill", name := "deny", desc := "()I" } : MethodName) ({ cls := "Datalogmill", name := "deny", desc := "()I" } : MethodName) ∈ GW := inGW (List.mem_of_getElem? (i := 1071) (by rfl)) (by decide +kernel)
theorem vl_Dm_deny : VL yX10_deny := ⟨mw1070, mw1071⟩
set_option maxRecDepth 20000 in
theorem mw1084 : Cond.methodLink "DatalogmillLaw" (51 : Nat) ({ cls := "Datalogmill", name := "remove", desc := "(I)I" } : MethodName) ∈ GW := inGW (List.mem_of_getElem? (i := 1084) (by rfl)) (by decide +kernel)
set_option maxRecDepth 20000 in
theorem mw1087 : Cond.code yX10_remove cX10_remove 3 (some .int) ∈ GW := inGW (List.mem_of_getElem? (i := 1087) (by rfl)) (by decide +kernel)
theorem ml_Dm_remove : ML yX10_remove cX10_remove 3 (some .int) 1 := ⟨mw1087, mw163, by decide +kernel, by decide +kernel, by decide +kernel⟩
set_option maxRecDepth 20000 in
theorem mw1085 : Cond.instanceMethod ({ cls := "Datalogmill", name := "remove", desc := "(I)I" } : MethodName) ∈ GW := inGW (List.mem_of_getElem? (i := 1085) (by rfl)) (by decide +kernel)
set_option maxRecDepth 20000 in
theorem mw1086 : Cond.selects "Datalogmill" ({ cls := "Datalogmill", name := "remove", desc := "(I)I" } : MethodName) ({ cls := "Datalogmill", name := "remove", desc := "(I)I" } : MethodName) ∈ GW := inGW (List.mem_of_getElem? (i := 1086) (by rfl)) (by decide +kernel)
theorem vl_Dm_remove : VL yX10_remove := ⟨mw1085, mw1086⟩
set_option maxRecDepth 20000 in
theorem mw1102 : Cond.methodLink "DatalogmillLaw" (54 : Nat) ({ cls := "Datalogmill", name := "holds", desc := "(IIII)Z" } : MethodName) ∈ GW := inGW (List.mem_of_getElem? (i := 1102) (by rfl)) (by decide +kernel)
set_option maxRecDepth 20000 in
theorem mw1105 : Cond.code yX10_holds cX10_holds 5 (some .boolean) ∈ GW := inGW (List.mem_of_getElem? (i := 1105) (by rfl)) (by decide +kernel)
theorem ml_Dm_holds : ML yX10_holds cX10_holds 5 (some .boolean) 4 := ⟨mw1105, mw163, by decide +kernel, by decide +kernel, by decide +kernel⟩
set_option maxRecDepth 20000 in
theorem mw1103 : Cond.instanceMethod ({ cls := "Datalogmill", name := "holds", desc := "(IIII)Z" } : MethodName) ∈ GW := inGW (List.mem_of_getElem? (i := 1103) (by rfl)) (by decide +kernel)
set_option maxRecDepth 20000 in
theorem mw1104 : Cond.selects "Datalogmill" ({ cls := "Datalogmill", name := "holds", desc := "(IIII)Z" } : MethodName) ({ cls := "Datalogmill", name := "holds", desc := "(IIII)Z" } : MethodName) ∈ GW := inGW (List.mem_of_getElem? (i := 1104) (by rfl)) (by decide +kernel)
theorem vl_Dm_holds : VL yX10_holds := ⟨mw1103, mw1104⟩
set_option maxRecDepth 20000 in
theorem mw1117 : Cond.methodLink "DatalogmillLaw" (58 : Nat) ({ cls := "Datalogmill", name := "holdsAt", desc := "(IIIII)Z" } : MethodName) ∈ GW := inGW (List.mem_of_getElem? (i := 1117) (by rfl)) (by decide +kernel)
set_option maxRecDepth 20000 in
theorem mw1120 : Cond.code yX10_holdsAt cX10_holdsAt 6 (some .boolean) ∈ GW := inGW (List.mem_of_getElem? (i := 1120) (by rfl)) (by decide +kernel)
theorem ml_Dm_holdsAt : ML yX10_holdsAt cX10_holdsAt 6 (some .boolean) 5 := ⟨mw1120, mw163, by decide +kernel, by decide +kernel, by decide +kernel⟩
set_option maxRecDepth 20000 in
theorem mw1118 : Cond.instanceMethod ({ cls := "Datalogmill", name := "holdsAt", desc := "(IIIII)Z" } : MethodName) ∈ GW := inGW (List.mem_of_getElem? (i := 1118) (by rfl)) (by decide +kernel)
set_option maxRecDepth 20000 in
theorem mw1119 : Cond.selects "Datalogmill" ({ cls := "Datalogmill", name := "holdsAt", desc := "(IIIII)Z" } : MethodName) ({ cls := "Datalogmill", name := "holdsAt", desc := "(IIIII)Z" } : MethodName) ∈ GW := inGW (List.mem_of_getElem? (i := 1119) (by rfl)) (by decide +kernel)
theorem vl_Dm_holdsAt : VL yX10_holdsAt := ⟨mw1118, mw1119⟩
set_option maxRecDepth 20000 in
theorem mw1125 : Cond.methodLink "DatalogmillLaw" (62 : Nat) ({ cls := "Datalogmill", name := "holdsAnew", desc := "(IIIII)Z" } : MethodName) ∈ GW := inGW (List.mem_of_getElem? (i := 1125) (by rfl)) (by decide +kernel)
set_option maxRecDepth 20000 in
theorem mw1128 : Cond.code yX10_holdsAnew cX10_holdsAnew 6 (some .boolean) ∈ GW := inGW (List.mem_of_getElem? (i := 1128) (by rfl)) (by decide +kernel)
theorem ml_Dm_holdsAnew : ML yX10_holdsAnew cX10_holdsAnew 6 (some .boolean) 5 := ⟨mw1128, mw163, by decide +kernel, by decide +kernel, by decide +kernel⟩
set_option maxRecDepth 20000 in
theorem mw1126 : Cond.instanceMethod ({ cls := "Datalogmill", name := "holdsAnew", desc := "(IIIII)Z" } : MethodName) ∈ GW := inGW (List.mem_of_getElem? (i := 1126) (by rfl)) (by decide +kernel)
set_option maxRecDepth 20000 in
theorem mw1127 : Cond.selects "Datalogmill" ({ cls := "Datalogmill", name := "holdsAnew", desc := "(IIIII)Z" } : MethodName) ({ cls := "Datalogmill", name := "holdsAnew", desc := "(IIIII)Z" } : MethodName) ∈ GW := inGW (List.mem_of_getElem? (i := 1127) (by rfl)) (by decide +kernel)
theorem vl_Dm_holdsAnew : VL yX10_holdsAnew := ⟨mw1126, mw1127⟩
set_option maxRecDepth 20000 in
theorem mw1132 : Cond.methodLink "DatalogmillLaw" (65 : Nat) ({ cls := "Datalogmill", name := "size", desc := "(I)I" } : MethodName) ∈ GW := inGW (List.mem_of_getElem? (i := 1132) (by rfl)) (by decide +kernel)
set_option maxRecDepth 20000 in
theorem mw1135 : Cond.code yX10_size cX10_size 2 (some .int) ∈ GW := inGW (List.mem_of_getElem? (i := 1135) (by rfl)) (by decide +kernel)
theorem ml_Dm_size : ML yX10_size cX10_size 2 (some .int) 1 := ⟨mw1135, mw163, by decide +kernel, by decide +kernel, by decide +kernel⟩
set_option maxRecDepth 20000 in
theorem mw1133 : Cond.instanceMethod ({ cls := "Datalogmill", name := "size", desc := "(I)I" } : MethodName) ∈ GW := inGW (List.mem_of_getElem? (i := 1133) (by rfl)) (by decide +kernel)
set_option maxRecDepth 20000 in
theorem mw1134 : Cond.selects "Datalogmill" ({ cls := "Datalogmill", name := "size", desc := "(I)I" } : MethodName) ({ cls := "Datalogmill", name := "size", desc := "(I)I" } : MethodName) ∈ GW := inGW (List.mem_of_getElem? (i := 1134) (by rfl)) (by decide +kernel)
theorem vl_Dm_size : VL yX10_size := ⟨mw1133, mw1134⟩
set_option maxRecDepth 20000 in
theorem mw1143 : Cond.methodLink "DatalogmillLaw" (68 : Nat) ({ cls := "Datalogmill", name := "at", desc := "(II)I" } : MethodName) ∈ GW := inGW (List.mem_of_getElem? (i := 1143) (by rfl)) (by decide +kernel)
set_option maxRecDepth 20000 in
theorem mw1146 : Cond.code yX10_at cX10_at 4 (some .int) ∈ GW := inGW (List.mem_of_getElem? (i := 1146) (by rfl)) (by decide +kernel)
theorem ml_Dm_at : ML yX10_at cX10_at 4 (some .int) 2 := ⟨mw1146, mw163, by decide +kernel, by decide +kernel, by decide +kernel⟩
set_option maxRecDepth 20000 in
theorem mw1144 : Cond.instanceMethod ({ cls := "Datalogmill", name := "at", desc := "(II)I" } : MethodName) ∈ GW := inGW (List.mem_of_getElem? (i := 1144) (by rfl)) (by decide +kernel)
set_option maxRecDepth 20000 in
theorem mw1145 : Cond.selects "Datalogmill" ({ cls := "Datalogmill", name := "at", desc := "(II)I" } : MethodName) ({ cls := "Datalogmill", name := "at", desc := "(II)I" } : MethodName) ∈ GW := inGW (List.mem_of_getElem? (i := 1145) (by rfl)) (by decide +kernel)
theorem vl_Dm_at : VL yX10_at := ⟨mw1144, mw1145⟩
set_option maxRecDepth 20000 in
theorem mw1156 : Cond.methodLink "DatalogmillLaw" (72 : Nat) ({ cls := "Datalogmill", name := "stratum", desc := "(I)I" } : MethodName) ∈ GW := inGW (List.mem_of_getElem? (i := 1156) (by rfl)) (by decide +kernel)
set_option maxRecDepth 20000 in
theorem mw1159 : Cond.code yX10_stratum cX10_stratum 2 (some .int) ∈ GW := inGW (List.mem_of_getElem? (i := 1159) (by rfl)) (by decide +kernel)
theorem ml_Dm_stratum : ML yX10_stratum cX10_stratum 2 (some .int) 1 := ⟨mw1159, mw163, by decide +kernel, by decide +kernel, by decide +kernel⟩
set_option maxRecDepth 20000 in
theorem mw1157 : Cond.instanceMethod ({ cls := "Datalogmill", name := "stratum", desc := "(I)I" } : MethodName) ∈ GW := inGW (List.mem_of_getElem? (i := 1157) (by rfl)) (by decide +kernel)
set_option maxRecDepth 20000 in
theorem mw1158 : Cond.selects "Datalogmill" ({ cls := "Datalogmill", name := "stratum", desc := "(I)I" } : MethodName) ({ cls := "Datalogmill", name := "stratum", desc := "(I)I" } : MethodName) ∈ GW := inGW (List.mem_of_getElem? (i := 1158) (by rfl)) (by decide +kernel)
theorem vl_Dm_stratum : VL yX10_stratum := ⟨mw1157, mw1158⟩
set_option maxRecDepth 20000 in
theorem mw1164 : Cond.methodLink "DatalogmillLaw" (75 : Nat) ({ cls := "Datalogmill", name := "ways", desc := "(IIII)I" } : MethodName) ∈ GW := inGW (List.mem_of_getElem? (i := 1164) (by rfl)) (by decide +kernel)
set_option maxRecDepth 20000 in
theorem mw1167 : Cond.code yX10_ways cX10_ways 6 (some .int) ∈ GW := inGW (List.mem_of_getElem? (i := 1167) (by rfl)) (by decide +kernel)
theorem ml_Dm_ways : ML yX10_ways cX10_ways 6 (some .int) 4 := ⟨mw1167, mw163, by decide +kernel, by decide +kernel, by decide +kernel⟩
set_option maxRecDepth 20000 in
theorem mw1165 : Cond.instanceMethod ({ cls := "Datalogmill", name := "ways", desc := "(IIII)I" } : MethodName) ∈ GW := inGW (List.mem_of_getElem? (i := 1165) (by rfl)) (by decide +kernel)
set_option maxRecDepth 20000 in
theorem mw1166 : Cond.selects "Datalogmill" ({ cls := "Datalogmill", name := "ways", desc := "(IIII)I" } : MethodName) ({ cls := "Datalogmill", name := "ways", desc := "(IIII)I" } : MethodName) ∈ GW := inGW (List.mem_of_getElem? (i := 1166) (by rfl)) (by decide +kernel)
theorem vl_Dm_ways : VL yX10_ways := ⟨mw1165, mw1166⟩
set_option maxRecDepth 20000 in
theorem mw1199 : Cond.methodLink "DatalogmillLaw" (79 : Nat) ({ cls := "Datalogmill", name := "cheapest", desc := "(IIII)I" } : MethodName) ∈ GW := inGW (List.mem_of_getElem? (i := 1199) (by rfl)) (by decide +kernel)
set_option maxRecDepth 20000 in
theorem mw1202 : Cond.code yX10_cheapest cX10_cheapest 5 (some .int) ∈ GW := inGW (List.mem_of_getElem? (i := 1202) (by rfl)) (by decide +kernel)
theorem ml_Dm_cheapest : ML yX10_cheapest cX10_cheapest 5 (some .int) 4 := ⟨mw1202, mw163, by decide +kernel, by decide +kernel, by decide +kernel⟩
set_option maxRecDepth 20000 in
theorem mw1200 : Cond.instanceMethod ({ cls := "Datalogmill", name := "cheapest", desc := "(IIII)I" } : MethodName) ∈ GW := inGW (List.mem_of_getElem? (i := 1200) (by rfl)) (by decide +kernel)
set_option maxRecDepth 20000 in
theorem mw1201 : Cond.selects "Datalogmill" ({ cls := "Datalogmill", name := "cheapest", desc := "(IIII)I" } : MethodName) ({ cls := "Datalogmill", name := "cheapest", desc := "(IIII)I" } : MethodName) ∈ GW := inGW (List.mem_of_getElem? (i := 1201) (by rfl)) (by decide +kernel)
theorem vl_Dm_cheapest : VL yX10_cheapest := ⟨mw1200, mw1201⟩
set_option maxRecDepth 20000 in
theorem mw1238 : Cond.methodLink "DatalogmillLaw" (82 : Nat) ({ cls := "Datalogmill", name := "needed", desc := "(IIII)I" } : MethodName) ∈ GW := inGW (List.mem_of_getElem? (i := 1238) (by rfl)) (by decide +kernel)
set_option maxRecDepth 20000 in
theorem mw1241 : Cond.code yX10_needed cX10_needed 9 (some .int) ∈ GW := inGW (List.mem_of_getElem? (i := 1241) (by rfl)) (by decide +kernel)
theorem ml_Dm_needed : ML yX10_needed cX10_needed 9 (some .int) 4 := ⟨mw1241, mw163, by decide +kernel, by decide +kernel, by decide +kernel⟩
set_option maxRecDepth 20000 in
theorem mw1239 : Cond.instanceMethod ({ cls := "Datalogmill", name := "needed", desc := "(IIII)I" } : MethodName) ∈ GW := inGW (List.mem_of_getElem? (i := 1239) (by rfl)) (by decide +kernel)
set_option maxRecDepth 20000 in
theorem mw1240 : Cond.selects "Datalogmill" ({ cls := "Datalogmill", name := "needed", desc := "(IIII)I" } : MethodName) ({ cls := "Datalogmill", name := "needed", desc := "(IIII)I" } : MethodName) ∈ GW := inGW (List.mem_of_getElem? (i := 1240) (by rfl)) (by decide +kernel)
theorem vl_Dm_needed : VL yX10_needed := ⟨mw1239, mw1240⟩
set_option maxRecDepth 20000 in
theorem mw1245 : Cond.methodLink "DatalogmillLaw" (85 : Nat) ({ cls := "Datalogmill", name := "whyNot", desc := "(IIII)I" } : MethodName) ∈ GW := inGW (List.mem_of_getElem? (i := 1245) (by rfl)) (by decide +kernel)
set_option maxRecDepth 20000 in
theorem mw1248 : Cond.code yX10_whyNot cX10_whyNot 9 (some .int) ∈ GW := inGW (List.mem_of_getElem? (i := 1248) (by rfl)) (by decide +kernel)
theorem ml_Dm_whyNot : ML yX10_whyNot cX10_whyNot 9 (some .int) 4 := ⟨mw1248, mw163, by decide +kernel, by decide +kernel, by decide +kernel⟩
set_option maxRecDepth 20000 in
theorem mw1246 : Cond.instanceMethod ({ cls := "Datalogmill", name := "whyNot", desc := "(IIII)I" } : MethodName) ∈ GW := inGW (List.mem_of_getElem? (i := 1246) (by rfl)) (by decide +kernel)
set_option maxRecDepth 20000 in
theorem mw1247 : Cond.selects "Datalogmill" ({ cls := "Datalogmill", name := "whyNot", desc := "(IIII)I" } : MethodName) ({ cls := "Datalogmill", name := "whyNot", desc := "(IIII)I" } : MethodName) ∈ GW := inGW (List.mem_of_getElem? (i := 1247) (by rfl)) (by decide +kernel)
theorem vl_Dm_whyNot : VL yX10_whyNot := ⟨mw1246, mw1247⟩
set_option maxRecDepth 20000 in
theorem mw1258 : Cond.methodLink "DatalogmillLaw" (88 : Nat) ({ cls := "Datalogmill", name := "goals", desc := "(IIII)I" } : MethodName) ∈ GW := inGW (List.mem_of_getElem? (i := 1258) (by rfl)) (by decide +kernel)
set_option maxRecDepth 20000 in
theorem mw1261 : Cond.code yX10_goals cX10_goals 6 (some .int) ∈ GW := inGW (List.mem_of_getElem? (i := 1261) (by rfl)) (by decide +kernel)
theorem ml_Dm_goals : ML yX10_goals cX10_goals 6 (some .int) 4 := ⟨mw1261, mw163, by decide +kernel, by decide +kernel, by decide +kernel⟩
set_option maxRecDepth 20000 in
theorem mw1259 : Cond.instanceMethod ({ cls := "Datalogmill", name := "goals", desc := "(IIII)I" } : MethodName) ∈ GW := inGW (List.mem_of_getElem? (i := 1259) (by rfl)) (by decide +kernel)
set_option maxRecDepth 20000 in
theorem mw1260 : Cond.selects "Datalogmill" ({ cls := "Datalogmill", name := "goals", desc := "(IIII)I" } : MethodName) ({ cls := "Datalogmill", name := "goals", desc := "(IIII)I" } : MethodName) ∈ GW := inGW (List.mem_of_getElem? (i := 1260) (by rfl)) (by decide +kernel)
theorem vl_Dm_goals : VL yX10_goals := ⟨mw1259, mw1260⟩
set_option maxRecDepth 20000 in
theorem mw1294 : Cond.methodLink "DatalogmillLaw" (91 : Nat) ({ cls := "Datalogmill", name := "order", desc := "(II)I" } : MethodName) ∈ GW := inGW (List.mem_of_getElem? (i := 1294) (by rfl)) (by decide +kernel)
set_option maxRecDepth 20000 in
theorem mw1297 : Cond.code yX10_order cX10_order 3 (some .int) ∈ GW := inGW (List.mem_of_getElem? (i := 1297) (by rfl)) (by decide +kernel)
theorem ml_Dm_order : ML yX10_order cX10_order 3 (some .int) 2 := ⟨mw1297, mw163, by decide +kernel, by decide +kernel, by decide +kernel⟩
set_option maxRecDepth 20000 in
theorem mw1295 : Cond.instanceMethod ({ cls := "Datalogmill", name := "order", desc := "(II)I" } : MethodName) ∈ GW := inGW (List.mem_of_getElem? (i := 1295) (by rfl)) (by decide +kernel)
set_option maxRecDepth 20000 in
theorem mw1296 : Cond.selects "Datalogmill" ({ cls := "Datalogmill", name := "order", desc := "(II)I" } : MethodName) ({ cls := "Datalogmill", name := "order", desc := "(II)I" } : MethodName) ∈ GW := inGW (List.mem_of_getElem? (i := 1296) (by rfl)) (by decide +kernel)
theorem vl_Dm_order : VL yX10_order := ⟨mw1295, mw1296⟩
set_option maxRecDepth 20000 in
theorem mw1324 : Cond.methodLink "DatalogmillLaw" (94 : Nat) ({ cls := "Datalogmill", name := "joins", desc := "(I)I" } : MethodName) ∈ GW := inGW (List.mem_of_getElem? (i := 1324) (by rfl)) (by decide +kernel)
set_option maxRecDepth 20000 in
theorem mw1327 : Cond.code yX10_joins cX10_joins 5 (some .int) ∈ GW := inGW (List.mem_of_getElem? (i := 1327) (by rfl)) (by decide +kernel)
theorem ml_Dm_joins : ML yX10_joins cX10_joins 5 (some .int) 1 := ⟨mw1327, mw163, by decide +kernel, by decide +kernel, by decide +kernel⟩
set_option maxRecDepth 20000 in
theorem mw1325 : Cond.instanceMethod ({ cls := "Datalogmill", name := "joins", desc := "(I)I" } : MethodName) ∈ GW := inGW (List.mem_of_getElem? (i := 1325) (by rfl)) (by decide +kernel)
set_option maxRecDepth 20000 in
theorem mw1326 : Cond.selects "Datalogmill" ({ cls := "Datalogmill", name := "joins", desc := "(I)I" } : MethodName) ({ cls := "Datalogmill", name := "joins", desc := "(I)I" } : MethodName) ∈ GW := inGW (List.mem_of_getElem? (i := 1326) (by rfl)) (by decide +kernel)
theorem vl_Dm_joins : VL yX10_joins := ⟨mw1325, mw1326⟩
set_option maxRecDepth 20000 in
theorem mw1342 : Cond.methodLink "DatalogmillLaw" (97 : Nat) ({ cls := "Datalogmill", name := "indexes", desc := "(I)I" } : MethodName) ∈ GW := inGW (List.mem_of_getElem? (i := 1342) (by rfl)) (by decide +kernel)
set_option maxRecDepth 20000 in
theorem mw1345 : Cond.code yX10_indexes cX10_indexes 5 (some .int) ∈ GW := inGW (List.mem_of_getElem? (i := 1345) (by rfl)) (by decide +kernel)
theorem ml_Dm_indexes : ML yX10_indexes cX10_indexes 5 (some .int) 1 := ⟨mw1345, mw163, by decide +kernel, by decide +kernel, by decide +kernel⟩
set_option maxRecDepth 20000 in
theorem mw1343 : Cond.instanceMethod ({ cls := "Datalogmill", name := "indexes", desc := "(I)I" } : MethodName) ∈ GW := inGW (List.mem_of_getElem? (i := 1343) (by rfl)) (by decide +kernel)
set_option maxRecDepth 20000 in
theorem mw1344 : Cond.selects "Datalogmill" ({ cls := "Datalogmill", name := "indexes", desc := "(I)I" } : MethodName) ({ cls := "Datalogmill", name := "indexes", desc := "(I)I" } : MethodName) ∈ GW := inGW (List.mem_of_getElem? (i := 1344) (by rfl)) (by decide +kernel)
theorem vl_Dm_indexes : VL yX10_indexes := ⟨mw1343, mw1344⟩
/-! THE WRAPPERS, printed by program -/
def hmL (a b c : Int) (n : Nat) : Int := if n = 0 then 0 else if n = 1 then a else if n = 2 then b else c
theorem lxc1 : Cond.classLink "DatalogmillLaw" 13 (xName 1) ∈ GW := mw753
theorem lxc2 : Cond.classLink "DatalogmillLaw" 15 (xName 2) ∈ GW := mw754
theorem lxc3 : Cond.classLink "DatalogmillLaw" 17 (xName 3) ∈ GW := mw755
abbrev rm_L_declare : Room := { frames := 7, cells := 1, slots := 6, locals := 124 }
def hh_L_declare : List (Nat × Nat × Nat × Nat) := [(0, 9, 12, 13), (0, 9, 16, 15), (0, 9, 20, 17)]
theorem c_L_declare {E : EE} {O : OO} {l : Launch} (hst : l.stackTraces = false) (hI : Inj TA E) (hA : Ap TA E O.2) {w : World} {v : Nat → Int64} {x1 x2 x3 x4 : Int} (r_x1 : R32 x1) (r_x2 : R32 x2) (r_x3 : R32 x3) (r_x4 : R32 x4) {out : World × Nat × Int} (hf : f_Dm_declare w x1 x2 x3 x4 = some out) (hn : out.2.1 = 0 ∨ out.2.1 = 1 ∨ out.2.1 = 2 ∨ out.2.1 = 3) : ConO TA E O l yL_declare (WSW yL_declare cL_declare 6 (some .int) hh_L_declare) rm_L_declare [rf E.ad 1, .int (ii x1), .int (ii x2), .int (ii x3), .int (ii x4)] (w, v) out false (hmL 1 2 3) := by
  refine con_O (by decide +kernel) rfl (Nat.le_of_ble_eq_true rfl) (c1s_r (c1s_i (c1s_i (c1s_i (c1s_i c1s_0 (Nat.le_of_ble_eq_true rfl)) (Nat.le_of_ble_eq_true rfl)) (Nat.le_of_ble_eq_true rfl)) (Nat.le_of_ble_eq_true rfl)) (Nat.le_of_ble_eq_true rfl)).1 hI TnA hA ?_
  intro K H0 o g kc hl hret
  subst hl
  refine J_aload_n o dL_declare_0 rfl ?_
  refine J_iload_n o dL_declare_1 rfl ?_
  refine J_iload_n o dL_declare_2 rfl ?_
  refine J_iload_n o dL_declare_3 rfl ?_
  refine J_iload o dL_declare_4 rfl ?_
  refine J_xV (vs := [.int (ii x1), .int (ii x2), .int (ii x3), .int (ii x4)]) o g kc dL_declare_6 mw756 ml_Dm_declare vl_Dm_declare ⟨rfl, rfl, Nat.le_of_ble_eq_true rfl, Nat.le_of_ble_eq_true rfl⟩ ⟨Nat.le_refl _, Nat.le_refl _⟩ (c_Dm_declare hst g.2.1.1 r_x1 r_x2 r_x3 r_x4 hf) kA_1 rfl ⟨by decide, by decide⟩ rfl rfl c1s_0 (fun h0 => ?_) (fun h0 => ?_)
  · have o2 := OkO.add (a' := 1) (b' := 6) o
    have g2 := GdO.add (a' := 1) (b' := 6) g
    refine J_goto 24 o2 dL_declare_9 (by decide) ?_
    refine J_iconst o2 dL_declare_24 ?_
    exact hret _ _ v _ rl0 (by rw [h0]; rfl) (fun h => absurd h (by decide)) dL_declare_25
  · have o2 := OkO.add (a' := 1) (b' := 6) o
    have g2 := GdO.add (a' := 1) (b' := 6) g
    rcases hn with hn | hn | hn | hn
    · exact absurd hn h0
    · rw [hn]
      refine J_catch o2 g2 [] (0, 9, 12, 13) [(0, 9, 16, 15), (0, 9, 20, 17)] rfl (Or.inl rfl) (fun _ h => absurd h List.not_mem_nil) ⟨by decide, by decide⟩ (by decide) lxc1 (fun q => ?_)
      refine J_astO o2 dL_declare_12 (Nat.le_of_ble_eq_true rfl) ?_
      refine J_iconst o2 dL_declare_14 ?_
      exact hret _ _ v _ rl1 (by rw [hn]; rfl) (fun h => absurd h (by decide)) dL_declare_15
    · rw [hn]
      refine J_catch o2 g2 [(0, 9, 12, 13)] (0, 9, 16, 15) [(0, 9, 20, 17)] rfl (Or.inr (Or.inl rfl)) (by
        intro z hz
        simp only [List.mem_cons, List.not_mem_nil, or_false] at hz
        rcases hz with rfl
        · exact ⟨by decide, 1, Or.inl rfl, by decide, lxc1⟩) ⟨by decide, by decide⟩ (by decide) lxc2 (fun q => ?_)
      refine J_astO o2 dL_declare_16 (Nat.le_of_ble_eq_true rfl) ?_
      refine J_iconst o2 dL_declare_18 ?_
      exact hret _ _ v _ rl2 (by rw [hn]; rfl) (fun h => absurd h (by decide)) dL_declare_19
    · rw [hn]
      refine J_catch o2 g2 [(0, 9, 12, 13), (0, 9, 16, 15)] (0, 9, 20, 17) [] rfl (Or.inr (Or.inr rfl)) (by
        intro z hz
        simp only [List.mem_cons, List.not_mem_nil, or_false] at hz
        rcases hz with rfl | rfl
        · exact ⟨by decide, 1, Or.inl rfl, by decide, lxc1⟩
        · exact ⟨by decide, 2, Or.inr (Or.inl rfl), by decide, lxc2⟩) ⟨by decide, by decide⟩ (by decide) lxc3 (fun q => ?_)
      refine J_astO o2 dL_declare_20 (Nat.le_of_ble_eq_true rfl) ?_
      refine J_iconst o2 dL_declare_22 ?_
      exact hret _ _ v _ rl3 (by rw [hn]; rfl) (fun h => absurd h (by decide)) dL_declare_23
abbrev rm_L_fact : Room := { frames := 9, cells := 1, slots := 6, locals := 233 }
def hh_L_fact : List (Nat × Nat × Nat × Nat) := [(0, 20, 23, 13), (0, 20, 27, 15), (0, 20, 31, 17)]
theorem c_L_fact {E : EE} {O : OO} {l : Launch} (hst : l.stackTraces = false) (hI : Inj TA E) (hA : Ap TA E O.2) {w : World} {v : Nat → Int64} {x1 x2 x3 x4 x5 x6 x7 : Int} (r_x1 : R32 x1) (r_x2 : R32 x2) (r_x3 : R32 x3) (r_x4 : R32 x4) (r_x5 : R32 x5) (r_x6 : R32 x6) (r_x7 : R32 x7) {out : World × Nat × Int} (hf : f_Dm_fact w x1 x2 x3 x4 x5 x6 x7 = some out) (hn : out.2.1 = 0 ∨ out.2.1 = 1 ∨ out.2.1 = 2 ∨ out.2.1 = 3) : ConO TA E O l yL_fact (WSW yL_fact cL_fact 10 (some .int) hh_L_fact) rm_L_fact [rf E.ad 1, .int (ii x1), .int (ii x2), .int (ii x3), .int (ii x4), .int (ii x5), .int (ii x6), .int (ii x7), .ref O.2] (w, v) out true (hmL 1 2 3) := by
  refine con_O (by decide +kernel) rfl (Nat.le_of_ble_eq_true rfl) (by intro v hv; simp only [List.mem_cons, List.not_mem_nil, or_false] at hv; rcases hv with rfl | rfl | rfl | rfl | rfl | rfl | rfl | rfl | rfl <;> first | rfl | exact rf_cat) hI TnA hA ?_
  intro K H0 o g kc hl hret
  subst hl
  refine J_aldO o dL_fact_0 rfl ?_
  refine J_iconst o dL_fact_2 ?_
  refine J_aload_n o dL_fact_3 rfl ?_
  refine J_iload_n o dL_fact_4 rfl ?_
  refine J_iload_n o dL_fact_5 rfl ?_
  refine J_iload_n o dL_fact_6 rfl ?_
  refine J_iload o dL_fact_7 rfl ?_
  refine J_iload o dL_fact_9 rfl ?_
  refine J_iload o dL_fact_11 rfl ?_
  refine J_iload o dL_fact_13 rfl ?_
  refine J_xI (vs := [.int (ii x1), .int (ii x2), .int (ii x3), .int (ii x4), .int (ii x5), .int (ii x6), .int (ii x7)]) o g kc dL_fact_15 mw875 ml_Dm_fact vl_Dm_fact ⟨rfl, rfl, Nat.le_of_ble_eq_true rfl, Nat.le_of_ble_eq_true rfl⟩ ⟨Nat.le_refl _, Nat.le_refl _⟩ (c_Dm_fact hst g.2.1.1 r_x1 r_x2 r_x3 r_x4 r_x5 r_x6 r_x7 hf) kA_1 rfl ⟨by decide, by decide⟩ rfl rfl (c1s_i (c1s_a c1s_0 (Nat.le_of_ble_eq_true rfl)) (Nat.le_of_ble_eq_true rfl)) (fun h0 hr => ?_) (fun h0 => ?_)
  · have o2 := OkO.add (a' := 1) (b' := 6) o
    have g2 := GdO.add (a' := 1) (b' := 6) g
    refine J_i2l o2 dL_fact_18 hr (fun u hu => ?_)
    refine J_last o2 g2 dL_fact_19 rfl (fun f hf1 => ?_)
    refine J_goto 35 o2 dL_fact_20 (by decide) ?_
    refine J_iconst o2 dL_fact_35 ?_
    exact hret _ _ _ _ rl0 (by rw [h0]; rfl) (fun _ _ => by rw [hf1]; exact hu) dL_fact_36
  · have o2 := OkO.add (a' := 1) (b' := 6) o
    have g2 := GdO.add (a' := 1) (b' := 6) g
    rcases hn with hn | hn | hn | hn
    · exact absurd hn h0
    · rw [hn]
      refine J_catch o2 g2 [] (0, 20, 23, 13) [(0, 20, 27, 15), (0, 20, 31, 17)] rfl (Or.inl rfl) (fun _ h => absurd h List.not_mem_nil) ⟨by decide, by decide⟩ (by decide) lxc1 (fun q => ?_)
      refine J_astO o2 dL_fact_23 (Nat.le_of_ble_eq_true rfl) ?_
      refine J_iconst o2 dL_fact_25 ?_
      exact hret _ _ v _ rl1 (by rw [hn]; rfl) (fun _ h9 => absurd h9 h0) dL_fact_26
    · rw [hn]
      refine J_catch o2 g2 [(0, 20, 23, 13)] (0, 20, 27, 15) [(0, 20, 31, 17)] rfl (Or.inr (Or.inl rfl)) (by
        intro z hz
        simp only [List.mem_cons, List.not_mem_nil, or_false] at hz
        rcases hz with rfl
        · exact ⟨by decide, 1, Or.inl rfl, by decide, lxc1⟩) ⟨by decide, by decide⟩ (by decide) lxc2 (fun q => ?_)
      refine J_astO o2 dL_fact_27 (Nat.le_of_ble_eq_true rfl) ?_
      refine J_iconst o2 dL_fact_29 ?_
      exact hret _ _ v _ rl2 (by rw [hn]; rfl) (fun _ h9 => absurd h9 h0) dL_fact_30
    · rw [hn]
      refine J_catch o2 g2 [(0, 20, 23, 13), (0, 20, 27, 15)] (0, 20, 31, 17) [] rfl (Or.inr (Or.inr rfl)) (by
        intro z hz
        simp only [List.mem_cons, List.not_mem_nil, or_false] at hz
        rcases hz with rfl | rfl
        · exact ⟨by decide, 1, Or.inl rfl, by decide, lxc1⟩
        · exact ⟨by decide, 2, Or.inr (Or.inl rfl), by decide, lxc2⟩) ⟨by decide, by decide⟩ (by decide) lxc3 (fun q => ?_)
      refine J_astO o2 dL_fact_31 (Nat.le_of_ble_eq_true rfl) ?_
      refine J_iconst o2 dL_fact_33 ?_
      exact hret _ _ v _ rl3 (by rw [hn]; rfl) (fun _ h9 => absurd h9 h0) dL_fact_34
abbrev rm_L_drop : Room := { frames := 9, cells := 1, slots := 6, locals := 227 }
def hh_L_drop : List (Nat × Nat × Nat × Nat) := [(0, 9, 12, 13), (0, 9, 15, 17)]
theorem c_L_drop {E : EE} {O : OO} {l : Launch} (hst : l.stackTraces = false) (hI : Inj TA E) (hA : Ap TA E O.2) {w : World} {v : Nat → Int64} {x1 : Int} (r_x1 : R32 x1) {out : World × Nat × Int} (hf : f_Dm_drop w x1 = some out) (hn : out.2.1 = 0 ∨ out.2.1 = 1 ∨ out.2.1 = 3) : ConO TA E O l yL_drop (WSW yL_drop cL_drop 4 (some .int) hh_L_drop) rm_L_drop [rf E.ad 1, .int (ii x1), .ref O.2] (w, v) out true (hmL 1 0 2) := by
  refine con_O (by decide +kernel) rfl (Nat.le_of_ble_eq_true rfl) (c1s_r (c1s_i (c1s_a c1s_0 (Nat.le_of_ble_eq_true rfl)) (Nat.le_of_ble_eq_true rfl)) (Nat.le_of_ble_eq_true rfl)).1 hI TnA hA ?_
  intro K H0 o g kc hl hret
  subst hl
  refine J_aldO_n o dL_drop_0 rfl ?_
  refine J_iconst o dL_drop_1 ?_
  refine J_aload_n o dL_drop_2 rfl ?_
  refine J_iload_n o dL_drop_3 rfl ?_
  refine J_xI (vs := [.int (ii x1)]) o g kc dL_drop_4 mw918 ml_Dm_drop vl_Dm_drop ⟨rfl, rfl, Nat.le_of_ble_eq_true rfl, Nat.le_of_ble_eq_true rfl⟩ ⟨Nat.le_refl _, Nat.le_refl _⟩ (c_Dm_drop hst g.2.1.1 r_x1 hf) kA_1 rfl ⟨by decide, by decide⟩ rfl rfl (c1s_i (c1s_a c1s_0 (Nat.le_of_ble_eq_true rfl)) (Nat.le_of_ble_eq_true rfl)) (fun h0 hr => ?_) (fun h0 => ?_)
  · have o2 := OkO.add (a' := 1) (b' := 6) o
    have g2 := GdO.add (a' := 1) (b' := 6) g
    refine J_i2l o2 dL_drop_7 hr (fun u hu => ?_)
    refine J_last o2 g2 dL_drop_8 rfl (fun f hf1 => ?_)
    refine J_goto 18 o2 dL_drop_9 (by decide) ?_
    refine J_iconst o2 dL_drop_18 ?_
    exact hret _ _ _ _ rl0 (by rw [h0]; rfl) (fun _ _ => by rw [hf1]; exact hu) dL_drop_19
  · have o2 := OkO.add (a' := 1) (b' := 6) o
    have g2 := GdO.add (a' := 1) (b' := 6) g
    rcases hn with hn | hn | hn
    · exact absurd hn h0
    · rw [hn]
      refine J_catch o2 g2 [] (0, 9, 12, 13) [(0, 9, 15, 17)] rfl (Or.inl rfl) (fun _ h => absurd h List.not_mem_nil) ⟨by decide, by decide⟩ (by decide) lxc1 (fun q => ?_)
      refine J_astO_n o2 dL_drop_12 (Nat.le_of_ble_eq_true rfl) ?_
      refine J_iconst o2 dL_drop_13 ?_
      exact hret _ _ v _ rl1 (by rw [hn]; rfl) (fun _ h9 => absurd h9 h0) dL_drop_14
    · rw [hn]
      refine J_catch o2 g2 [(0, 9, 12, 13)] (0, 9, 15, 17) [] rfl (Or.inr (Or.inr rfl)) (by
        intro z hz
        simp only [List.mem_cons, List.not_mem_nil, or_false] at hz
        rcases hz with rfl
        · exact ⟨by decide, 1, Or.inl rfl, by decide, lxc1⟩) ⟨by decide, by decide⟩ (by decide) lxc3 (fun q => ?_)
      refine J_astO_n o2 dL_drop_15 (Nat.le_of_ble_eq_true rfl) ?_
      refine J_iconst o2 dL_drop_16 ?_
      exact hret _ _ v _ rl2 (by rw [hn]; rfl) (fun _ h9 => absurd h9 h0) dL_drop_17
abbrev rm_L_pass : Room := { frames := 7, cells := 1, slots := 6, locals := 120 }
def hh_L_pass : List (Nat × Nat × Nat × Nat) := [(0, 8, 11, 17)]
theorem c_L_pass {E : EE} {O : OO} {l : Launch} (hst : l.stackTraces = false) (hI : Inj TA E) (hA : Ap TA E O.2) {w : World} {v : Nat → Int64}  {out : World × Nat × Int} (hf : f_Dm_pass w = some out) (hn : out.2.1 = 0 ∨ out.2.1 = 3) : ConO TA E O l yL_pass (WSW yL_pass cL_pass 3 (some .int) hh_L_pass) rm_L_pass [rf E.ad 1, .ref O.2] (w, v) out true (hmL 0 0 1) := by
  refine con_O (by decide +kernel) rfl (Nat.le_of_ble_eq_true rfl) (c1s_r (c1s_a c1s_0 (Nat.le_of_ble_eq_true rfl)) (Nat.le_of_ble_eq_true rfl)).1 hI TnA hA ?_
  intro K H0 o g kc hl hret
  subst hl
  refine J_aldO_n o dL_pass_0 rfl ?_
  refine J_iconst o dL_pass_1 ?_
  refine J_aload_n o dL_pass_2 rfl ?_
  refine J_xI (vs := []) o g kc dL_pass_3 mw943 ml_Dm_pass vl_Dm_pass ⟨rfl, rfl, Nat.le_of_ble_eq_true rfl, Nat.le_of_ble_eq_true rfl⟩ ⟨Nat.le_refl _, Nat.le_refl _⟩ (c_Dm_pass hst g.2.1.1  hf) kA_1 rfl ⟨by decide, by decide⟩ rfl rfl (c1s_i (c1s_a c1s_0 (Nat.le_of_ble_eq_true rfl)) (Nat.le_of_ble_eq_true rfl)) (fun h0 hr => ?_) (fun h0 => ?_)
  · have o2 := OkO.add (a' := 1) (b' := 6) o
    have g2 := GdO.add (a' := 1) (b' := 6) g
    refine J_i2l o2 dL_pass_6 hr (fun u hu => ?_)
    refine J_last o2 g2 dL_pass_7 rfl (fun f hf1 => ?_)
    refine J_goto 14 o2 dL_pass_8 (by decide) ?_
    refine J_iconst o2 dL_pass_14 ?_
    exact hret _ _ _ _ rl0 (by rw [h0]; rfl) (fun _ _ => by rw [hf1]; exact hu) dL_pass_15
  · have o2 := OkO.add (a' := 1) (b' := 6) o
    have g2 := GdO.add (a' := 1) (b' := 6) g
    rcases hn with hn | hn
    · exact absurd hn h0
    · rw [hn]
      refine J_catch o2 g2 [] (0, 8, 11, 17) [] rfl (Or.inr (Or.inr rfl)) (fun _ h => absurd h List.not_mem_nil) ⟨by decide, by decide⟩ (by decide) lxc3 (fun q => ?_)
      refine J_astO_n o2 dL_pass_11 (Nat.le_of_ble_eq_true rfl) ?_
      refine J_iconst o2 dL_pass_12 ?_
      exact hret _ _ v _ rl1 (by rw [hn]; rfl) (fun _ h9 => absurd h9 h0) dL_pass_13
abbrev rm_L_head : Room := { frames := 7, cells := 1, slots := 6, locals := 124 }
def hh_L_head : List (Nat × Nat × Nat × Nat) := [(0, 9, 12, 13), (0, 9, 16, 15)]
theorem c_L_head {E : EE} {O : OO} {l : Launch} (hst : l.stackTraces = false) (hI : Inj TA E) (hA : Ap TA E O.2) {w : World} {v : Nat → Int64} {x1 x2 x3 x4 : Int} (r_x1 : R32 x1) (r_x2 : R32 x2) (r_x3 : R32 x3) (r_x4 : R32 x4) {out : World × Nat × Int} (hf : f_Dm_head w x1 x2 x3 x4 = some out) (hn : out.2.1 = 0 ∨ out.2.1 = 1 ∨ out.2.1 = 2) : ConO TA E O l yL_head (WSW yL_head cL_head 6 (some .int) hh_L_head) rm_L_head [rf E.ad 1, .int (ii x1), .int (ii x2), .int (ii x3), .int (ii x4)] (w, v) out false (hmL 1 2 0) := by
  refine con_O (by decide +kernel) rfl (Nat.le_of_ble_eq_true rfl) (c1s_r (c1s_i (c1s_i (c1s_i (c1s_i c1s_0 (Nat.le_of_ble_eq_true rfl)) (Nat.le_of_ble_eq_true rfl)) (Nat.le_of_ble_eq_true rfl)) (Nat.le_of_ble_eq_true rfl)) (Nat.le_of_ble_eq_true rfl)).1 hI TnA hA ?_
  intro K H0 o g kc hl hret
  subst hl
  refine J_aload_n o dL_head_0 rfl ?_
  refine J_iload_n o dL_head_1 rfl ?_
  refine J_iload_n o dL_head_2 rfl ?_
  refine J_iload_n o dL_head_3 rfl ?_
  refine J_iload o dL_head_4 rfl ?_
  refine J_xV (vs := [.int (ii x1), .int (ii x2), .int (ii x3), .int (ii x4)]) o g kc dL_head_6 mw951 ml_Dm_head vl_Dm_head ⟨rfl, rfl, Nat.le_of_ble_eq_true rfl, Nat.le_of_ble_eq_true rfl⟩ ⟨Nat.le_refl _, Nat.le_refl _⟩ (c_Dm_head hst g.2.1.1 r_x1 r_x2 r_x3 r_x4 hf) kA_1 rfl ⟨by decide, by decide⟩ rfl rfl c1s_0 (fun h0 => ?_) (fun h0 => ?_)
  · have o2 := OkO.add (a' := 1) (b' := 6) o
    have g2 := GdO.add (a' := 1) (b' := 6) g
    refine J_goto 20 o2 dL_head_9 (by decide) ?_
    refine J_iconst o2 dL_head_20 ?_
    exact hret _ _ v _ rl0 (by rw [h0]; rfl) (fun h => absurd h (by decide)) dL_head_21
  · have o2 := OkO.add (a' := 1) (b' := 6) o
    have g2 := GdO.add (a' := 1) (b' := 6) g
    rcases hn with hn | hn | hn
    · exact absurd hn h0
    · rw [hn]
      refine J_catch o2 g2 [] (0, 9, 12, 13) [(0, 9, 16, 15)] rfl (Or.inl rfl) (fun _ h => absurd h List.not_mem_nil) ⟨by decide, by decide⟩ (by decide) lxc1 (fun q => ?_)
      refine J_astO o2 dL_head_12 (Nat.le_of_ble_eq_true rfl) ?_
      refine J_iconst o2 dL_head_14 ?_
      exact hret _ _ v _ rl1 (by rw [hn]; rfl) (fun h => absurd h (by decide)) dL_head_15
    · rw [hn]
      refine J_catch o2 g2 [(0, 9, 12, 13)] (0, 9, 16, 15) [] rfl (Or.inr (Or.inl rfl)) (by
        intro z hz
        simp only [List.mem_cons, List.not_mem_nil, or_false] at hz
        rcases hz with rfl
        · exact ⟨by decide, 1, Or.inl rfl, by decide, lxc1⟩) ⟨by decide, by decide⟩ (by decide) lxc2 (fun q => ?_)
      refine J_astO o2 dL_head_16 (Nat.le_of_ble_eq_true rfl) ?_
      refine J_iconst o2 dL_head_18 ?_
      exact hret _ _ v _ rl2 (by rw [hn]; rfl) (fun h => absurd h (by decide)) dL_head_19
abbrev rm_L_atom : Room := { frames := 7, cells := 1, slots := 6, locals := 125 }
def hh_L_atom : List (Nat × Nat × Nat × Nat) := [(0, 16, 19, 13), (0, 16, 23, 15), (0, 16, 27, 17)]
theorem c_L_atom {E : EE} {O : OO} {l : Launch} (hst : l.stackTraces = false) (hI : Inj TA E) (hA : Ap TA E O.2) {w : World} {v : Nat → Int64} {x1 x2 x3 x4 x5 : Int} (r_x1 : R32 x1) (r_x2 : R32 x2) (r_x3 : R32 x3) (r_x4 : R32 x4) (r_x5 : R32 x5) {out : World × Nat × Int} (hf : f_Dm_atom w x1 x2 x3 x4 x5 = some out) (hn : out.2.1 = 0 ∨ out.2.1 = 1 ∨ out.2.1 = 2 ∨ out.2.1 = 3) : ConO TA E O l yL_atom (WSW yL_atom cL_atom 8 (some .int) hh_L_atom) rm_L_atom [rf E.ad 1, .int (ii x1), .int (ii x2), .int (ii x3), .int (ii x4), .int (ii x5), .ref O.2] (w, v) out true (hmL 1 2 3) := by
  refine con_O (by decide +kernel) rfl (Nat.le_of_ble_eq_true rfl) (c1s_r (c1s_i (c1s_i (c1s_i (c1s_i (c1s_i (c1s_a c1s_0 (Nat.le_of_ble_eq_true rfl)) (Nat.le_of_ble_eq_true rfl)) (Nat.le_of_ble_eq_true rfl)) (Nat.le_of_ble_eq_true rfl)) (Nat.le_of_ble_eq_true rfl)) (Nat.le_of_ble_eq_true rfl)) (Nat.le_of_ble_eq_true rfl)).1 hI TnA hA ?_
  intro K H0 o g kc hl hret
  subst hl
  refine J_aldO o dL_atom_0 rfl ?_
  refine J_iconst o dL_atom_2 ?_
  refine J_aload_n o dL_atom_3 rfl ?_
  refine J_iload_n o dL_atom_4 rfl ?_
  refine J_iload_n o dL_atom_5 rfl ?_
  refine J_iload_n o dL_atom_6 rfl ?_
  refine J_iload o dL_atom_7 rfl ?_
  refine J_iload o dL_atom_9 rfl ?_
  refine J_xI (vs := [.int (ii x1), .int (ii x2), .int (ii x3), .int (ii x4), .int (ii x5)]) o g kc dL_atom_11 mw960 ml_Dm_atom vl_Dm_atom ⟨rfl, rfl, Nat.le_of_ble_eq_true rfl, Nat.le_of_ble_eq_true rfl⟩ ⟨Nat.le_refl _, Nat.le_refl _⟩ (c_Dm_atom hst g.2.1.1 r_x1 r_x2 r_x3 r_x4 r_x5 hf) kA_1 rfl ⟨by decide, by decide⟩ rfl rfl (c1s_i (c1s_a c1s_0 (Nat.le_of_ble_eq_true rfl)) (Nat.le_of_ble_eq_true rfl)) (fun h0 hr => ?_) (fun h0 => ?_)
  · have o2 := OkO.add (a' := 1) (b' := 6) o
    have g2 := GdO.add (a' := 1) (b' := 6) g
    refine J_i2l o2 dL_atom_14 hr (fun u hu => ?_)
    refine J_last o2 g2 dL_atom_15 rfl (fun f hf1 => ?_)
    refine J_goto 31 o2 dL_atom_16 (by decide) ?_
    refine J_iconst o2 dL_atom_31 ?_
    exact hret _ _ _ _ rl0 (by rw [h0]; rfl) (fun _ _ => by rw [hf1]; exact hu) dL_atom_32
  · have o2 := OkO.add (a' := 1) (b' := 6) o
    have g2 := GdO.add (a' := 1) (b' := 6) g
    rcases hn with hn | hn | hn | hn
    · exact absurd hn h0
    · rw [hn]
      refine J_catch o2 g2 [] (0, 16, 19, 13) [(0, 16, 23, 15), (0, 16, 27, 17)] rfl (Or.inl rfl) (fun _ h => absurd h List.not_mem_nil) ⟨by decide, by decide⟩ (by decide) lxc1 (fun q => ?_)
      refine J_astO o2 dL_atom_19 (Nat.le_of_ble_eq_true rfl) ?_
      refine J_iconst o2 dL_atom_21 ?_
      exact hret _ _ v _ rl1 (by rw [hn]; rfl) (fun _ h9 => absurd h9 h0) dL_atom_22
    · rw [hn]
      refine J_catch o2 g2 [(0, 16, 19, 13)] (0, 16, 23, 15) [(0, 16, 27, 17)] rfl (Or.inr (Or.inl rfl)) (by
        intro z hz
        simp only [List.mem_cons, List.not_mem_nil, or_false] at hz
        rcases hz with rfl
        · exact ⟨by decide, 1, Or.inl rfl, by decide, lxc1⟩) ⟨by decide, by decide⟩ (by decide) lxc2 (fun q => ?_)
      refine J_astO o2 dL_atom_23 (Nat.le_of_ble_eq_true rfl) ?_
      refine J_iconst o2 dL_atom_25 ?_
      exact hret _ _ v _ rl2 (by rw [hn]; rfl) (fun _ h9 => absurd h9 h0) dL_atom_26
    · rw [hn]
      refine J_catch o2 g2 [(0, 16, 19, 13), (0, 16, 23, 15)] (0, 16, 27, 17) [] rfl (Or.inr (Or.inr rfl)) (by
        intro z hz
        simp only [List.mem_cons, List.not_mem_nil, or_false] at hz
        rcases hz with rfl | rfl
        · exact ⟨by decide, 1, Or.inl rfl, by decide, lxc1⟩
        · exact ⟨by decide, 2, Or.inr (Or.inl rfl), by decide, lxc2⟩) ⟨by decide, by decide⟩ (by decide) lxc3 (fun q => ?_)
      refine J_astO o2 dL_atom_27 (Nat.le_of_ble_eq_true rfl) ?_
      refine J_iconst o2 dL_atom_29 ?_
      exact hret _ _ v _ rl3 (by rw [hn]; rfl) (fun _ h9 => absurd h9 h0) dL_atom_30
abbrev rm_L_compare : Room := { frames := 7, cells := 1, slots := 6, locals := 123 }
def hh_L_compare : List (Nat × Nat × Nat × Nat) := [(0, 12, 15, 13), (0, 12, 19, 15), (0, 12, 23, 17)]
theorem c_L_compare {E : EE} {O : OO} {l : Launch} (hst : l.stackTraces = false) (hI : Inj TA E) (hA : Ap TA E O.2) {w : World} {v : Nat → Int64} {x1 x2 x3 : Int} (r_x1 : R32 x1) (r_x2 : R32 x2) (r_x3 : R32 x3) {out : World × Nat × Int} (hf : f_Dm_compare w x1 x2 x3 = some out) (hn : out.2.1 = 0 ∨ out.2.1 = 1 ∨ out.2.1 = 2 ∨ out.2.1 = 3) : ConO TA E O l yL_compare (WSW yL_compare cL_compare 6 (some .int) hh_L_compare) rm_L_compare [rf E.ad 1, .int (ii x1), .int (ii x2), .int (ii x3), .ref O.2] (w, v) out true (hmL 1 2 3) := by
  refine con_O (by decide +kernel) rfl (Nat.le_of_ble_eq_true rfl) (c1s_r (c1s_i (c1s_i (c1s_i (c1s_a c1s_0 (Nat.le_of_ble_eq_true rfl)) (Nat.le_of_ble_eq_true rfl)) (Nat.le_of_ble_eq_true rfl)) (Nat.le_of_ble_eq_true rfl)) (Nat.le_of_ble_eq_true rfl)).1 hI TnA hA ?_
  intro K H0 o g kc hl hret
  subst hl
  refine J_aldO o dL_compare_0 rfl ?_
  refine J_iconst o dL_compare_2 ?_
  refine J_aload_n o dL_compare_3 rfl ?_
  refine J_iload_n o dL_compare_4 rfl ?_
  refine J_iload_n o dL_compare_5 rfl ?_
  refine J_iload_n o dL_compare_6 rfl ?_
  refine J_xI (vs := [.int (ii x1), .int (ii x2), .int (ii x3)]) o g kc dL_compare_7 mw977 ml_Dm_compare vl_Dm_compare ⟨rfl, rfl, Nat.le_of_ble_eq_true rfl, Nat.le_of_ble_eq_true rfl⟩ ⟨Nat.le_refl _, Nat.le_refl _⟩ (c_Dm_compare hst g.2.1.1 r_x1 r_x2 r_x3 hf) kA_1 rfl ⟨by decide, by decide⟩ rfl rfl (c1s_i (c1s_a c1s_0 (Nat.le_of_ble_eq_true rfl)) (Nat.le_of_ble_eq_true rfl)) (fun h0 hr => ?_) (fun h0 => ?_)
  · have o2 := OkO.add (a' := 1) (b' := 6) o
    have g2 := GdO.add (a' := 1) (b' := 6) g
    refine J_i2l o2 dL_compare_10 hr (fun u hu => ?_)
    refine J_last o2 g2 dL_compare_11 rfl (fun f hf1 => ?_)
    refine J_goto 27 o2 dL_compare_12 (by decide) ?_
    refine J_iconst o2 dL_compare_27 ?_
    exact hret _ _ _ _ rl0 (by rw [h0]; rfl) (fun _ _ => by rw [hf1]; exact hu) dL_compare_28
  · have o2 := OkO.add (a' := 1) (b' := 6) o
    have g2 := GdO.add (a' := 1) (b' := 6) g
    rcases hn with hn | hn | hn | hn
    · exact absurd hn h0
    · rw [hn]
      refine J_catch o2 g2 [] (0, 12, 15, 13) [(0, 12, 19, 15), (0, 12, 23, 17)] rfl (Or.inl rfl) (fun _ h => absurd h List.not_mem_nil) ⟨by decide, by decide⟩ (by decide) lxc1 (fun q => ?_)
      refine J_astO o2 dL_compare_15 (Nat.le_of_ble_eq_true rfl) ?_
      refine J_iconst o2 dL_compare_17 ?_
      exact hret _ _ v _ rl1 (by rw [hn]; rfl) (fun _ h9 => absurd h9 h0) dL_compare_18
    · rw [hn]
      refine J_catch o2 g2 [(0, 12, 15, 13)] (0, 12, 19, 15) [(0, 12, 23, 17)] rfl (Or.inr (Or.inl rfl)) (by
        intro z hz
        simp only [List.mem_cons, List.not_mem_nil, or_false] at hz
        rcases hz with rfl
        · exact ⟨by decide, 1, Or.inl rfl, by decide, lxc1⟩) ⟨by decide, by decide⟩ (by decide) lxc2 (fun q => ?_)
      refine J_astO o2 dL_compare_19 (Nat.le_of_ble_eq_true rfl) ?_
      refine J_iconst o2 dL_compare_21 ?_
      exact hret _ _ v _ rl2 (by rw [hn]; rfl) (fun _ h9 => absurd h9 h0) dL_compare_22
    · rw [hn]
      refine J_catch o2 g2 [(0, 12, 15, 13), (0, 12, 19, 15)] (0, 12, 23, 17) [] rfl (Or.inr (Or.inr rfl)) (by
        intro z hz
        simp only [List.mem_cons, List.not_mem_nil, or_false] at hz
        rcases hz with rfl | rfl
        · exact ⟨by decide, 1, Or.inl rfl, by decide, lxc1⟩
        · exact ⟨by decide, 2, Or.inr (Or.inl rfl), by decide, lxc2⟩) ⟨by decide, by decide⟩ (by decide) lxc3 (fun q => ?_)
      refine J_astO o2 dL_compare_23 (Nat.le_of_ble_eq_true rfl) ?_
      refine J_iconst o2 dL_compare_25 ?_
      exact hret _ _ v _ rl3 (by rw [hn]; rfl) (fun _ h9 => absurd h9 h0) dL_compare_26
abbrev rm_L_add : Room := { frames := 7, cells := 1, slots := 6, locals := 123 }
def hh_L_add : List (Nat × Nat × Nat × Nat) := [(0, 12, 15, 15), (0, 12, 19, 17)]
theorem c_L_add {E : EE} {O : OO} {l : Launch} (hst : l.stackTraces = false) (hI : Inj TA E) (hA : Ap TA E O.2) {w : World} {v : Nat → Int64} {x1 x2 x3 : Int} (r_x1 : R32 x1) (r_x2 : R32 x2) (r_x3 : R32 x3) {out : World × Nat × Int} (hf : f_Dm_add w x1 x2 x3 = some out) (hn : out.2.1 = 0 ∨ out.2.1 = 2 ∨ out.2.1 = 3) : ConO TA E O l yL_add (WSW yL_add cL_add 6 (some .int) hh_L_add) rm_L_add [rf E.ad 1, .int (ii x1), .int (ii x2), .int (ii x3), .ref O.2] (w, v) out true (hmL 0 1 2) := by
  refine con_O (by decide +kernel) rfl (Nat.le_of_ble_eq_true rfl) (c1s_r (c1s_i (c1s_i (c1s_i (c1s_a c1s_0 (Nat.le_of_ble_eq_true rfl)) (Nat.le_of_ble_eq_true rfl)) (Nat.le_of_ble_eq_true rfl)) (Nat.le_of_ble_eq_true rfl)) (Nat.le_of_ble_eq_true rfl)).1 hI TnA hA ?_
  intro K H0 o g kc hl hret
  subst hl
  refine J_aldO o dL_add_0 rfl ?_
  refine J_iconst o dL_add_2 ?_
  refine J_aload_n o dL_add_3 rfl ?_
  refine J_iload_n o dL_add_4 rfl ?_
  refine J_iload_n o dL_add_5 rfl ?_
  refine J_iload_n o dL_add_6 rfl ?_
  refine J_xI (vs := [.int (ii x1), .int (ii x2), .int (ii x3)]) o g kc dL_add_7 mw986 ml_Dm_add vl_Dm_add ⟨rfl, rfl, Nat.le_of_ble_eq_true rfl, Nat.le_of_ble_eq_true rfl⟩ ⟨Nat.le_refl _, Nat.le_refl _⟩ (c_Dm_add hst g.2.1.1 r_x1 r_x2 r_x3 hf) kA_1 rfl ⟨by decide, by decide⟩ rfl rfl (c1s_i (c1s_a c1s_0 (Nat.le_of_ble_eq_true rfl)) (Nat.le_of_ble_eq_true rfl)) (fun h0 hr => ?_) (fun h0 => ?_)
  · have o2 := OkO.add (a' := 1) (b' := 6) o
    have g2 := GdO.add (a' := 1) (b' := 6) g
    refine J_i2l o2 dL_add_10 hr (fun u hu => ?_)
    refine J_last o2 g2 dL_add_11 rfl (fun f hf1 => ?_)
    refine J_goto 23 o2 dL_add_12 (by decide) ?_
    refine J_iconst o2 dL_add_23 ?_
    exact hret _ _ _ _ rl0 (by rw [h0]; rfl) (fun _ _ => by rw [hf1]; exact hu) dL_add_24
  · have o2 := OkO.add (a' := 1) (b' := 6) o
    have g2 := GdO.add (a' := 1) (b' := 6) g
    rcases hn with hn | hn | hn
    · exact absurd hn h0
    · rw [hn]
      refine J_catch o2 g2 [] (0, 12, 15, 15) [(0, 12, 19, 17)] rfl (Or.inr (Or.inl rfl)) (fun _ h => absurd h List.not_mem_nil) ⟨by decide, by decide⟩ (by decide) lxc2 (fun q => ?_)
      refine J_astO o2 dL_add_15 (Nat.le_of_ble_eq_true rfl) ?_
      refine J_iconst o2 dL_add_17 ?_
      exact hret _ _ v _ rl1 (by rw [hn]; rfl) (fun _ h9 => absurd h9 h0) dL_add_18
    · rw [hn]
      refine J_catch o2 g2 [(0, 12, 15, 15)] (0, 12, 19, 17) [] rfl (Or.inr (Or.inr rfl)) (by
        intro z hz
        simp only [List.mem_cons, List.not_mem_nil, or_false] at hz
        rcases hz with rfl
        · exact ⟨by decide, 2, Or.inr (Or.inl rfl), by decide, lxc2⟩) ⟨by decide, by decide⟩ (by decide) lxc3 (fun q => ?_)
      refine J_astO o2 dL_add_19 (Nat.le_of_ble_eq_true rfl) ?_
      refine J_iconst o2 dL_add_21 ?_
      exact hret _ _ v _ rl2 (by rw [hn]; rfl) (fun _ h9 => absurd h9 h0) dL_add_22
abbrev rm_L_enter : Room := { frames := 9, cells := 1, slots := 6, locals := 226 }
def hh_L_enter : List (Nat × Nat × Nat × Nat) := [(0, 8, 11, 15), (0, 8, 14, 17)]
theorem c_L_enter {E : EE} {O : OO} {l : Launch} (hst : l.stackTraces = false) (hI : Inj TA E) (hA : Ap TA E O.2) {w : World} {v : Nat → Int64}  {out : World × Nat × Int} (hf : f_Dm_enter w = some out) (hn : out.2.1 = 0 ∨ out.2.1 = 2 ∨ out.2.1 = 3) : ConO TA E O l yL_enter (WSW yL_enter cL_enter 3 (some .int) hh_L_enter) rm_L_enter [rf E.ad 1, .ref O.2] (w, v) out true (hmL 0 1 2) := by
  refine con_O (by decide +kernel) rfl (Nat.le_of_ble_eq_true rfl) (c1s_r (c1s_a c1s_0 (Nat.le_of_ble_eq_true rfl)) (Nat.le_of_ble_eq_true rfl)).1 hI TnA hA ?_
  intro K H0 o g kc hl hret
  subst hl
  refine J_aldO_n o dL_enter_0 rfl ?_
  refine J_iconst o dL_enter_1 ?_
  refine J_aload_n o dL_enter_2 rfl ?_
  refine J_xI (vs := []) o g kc dL_enter_3 mw993 ml_Dm_enter vl_Dm_enter ⟨rfl, rfl, Nat.le_of_ble_eq_true rfl, Nat.le_of_ble_eq_true rfl⟩ ⟨Nat.le_refl _, Nat.le_refl _⟩ (c_Dm_enter hst g.2.1.1  hf) kA_1 rfl ⟨by decide, by decide⟩ rfl rfl (c1s_i (c1s_a c1s_0 (Nat.le_of_ble_eq_true rfl)) (Nat.le_of_ble_eq_true rfl)) (fun h0 hr => ?_) (fun h0 => ?_)
  · have o2 := OkO.add (a' := 1) (b' := 6) o
    have g2 := GdO.add (a' := 1) (b' := 6) g
    refine J_i2l o2 dL_enter_6 hr (fun u hu => ?_)
    refine J_last o2 g2 dL_enter_7 rfl (fun f hf1 => ?_)
    refine J_goto 17 o2 dL_enter_8 (by decide) ?_
    refine J_iconst o2 dL_enter_17 ?_
    exact hret _ _ _ _ rl0 (by rw [h0]; rfl) (fun _ _ => by rw [hf1]; exact hu) dL_enter_18
  · have o2 := OkO.add (a' := 1) (b' := 6) o
    have g2 := GdO.add (a' := 1) (b' := 6) g
    rcases hn with hn | hn | hn
    · exact absurd hn h0
    · rw [hn]
      refine J_catch o2 g2 [] (0, 8, 11, 15) [(0, 8, 14, 17)] rfl (Or.inr (Or.inl rfl)) (fun _ h => absurd h List.not_mem_nil) ⟨by decide, by decide⟩ (by decide) lxc2 (fun q => ?_)
      refine J_astO_n o2 dL_enter_11 (Nat.le_of_ble_eq_true rfl) ?_
      refine J_iconst o2 dL_enter_12 ?_
      exact hret _ _ v _ rl1 (by rw [hn]; rfl) (fun _ h9 => absurd h9 h0) dL_enter_13
    · rw [hn]
      refine J_catch o2 g2 [(0, 8, 11, 15)] (0, 8, 14, 17) [] rfl (Or.inr (Or.inr rfl)) (by
        intro z hz
        simp only [List.mem_cons, List.not_mem_nil, or_false] at hz
        rcases hz with rfl
        · exact ⟨by decide, 2, Or.inr (Or.inl rfl), by decide, lxc2⟩) ⟨by decide, by decide⟩ (by decide) lxc3 (fun q => ?_)
      refine J_astO_n o2 dL_enter_14 (Nat.le_of_ble_eq_true rfl) ?_
      refine J_iconst o2 dL_enter_15 ?_
      exact hret _ _ v _ rl2 (by rw [hn]; rfl) (fun _ h9 => absurd h9 h0) dL_enter_16
abbrev rm_L_deny : Room := { frames := 8, cells := 1, slots := 6, locals := 180 }
def hh_L_deny : List (Nat × Nat × Nat × Nat) := [(0, 8, 11, 15), (0, 8, 14, 17)]
theorem c_L_deny {E : EE} {O : OO} {l : Launch} (hst : l.stackTraces = false) (hI : Inj TA E) (hA : Ap TA E O.2) {w : World} {v : Nat → Int64}  {out : World × Nat × Int} (hf : f_Dm_deny w = some out) (hn : out.2.1 = 0 ∨ out.2.1 = 2 ∨ out.2.1 = 3) : ConO TA E O l yL_deny (WSW yL_deny cL_deny 3 (some .int) hh_L_deny) rm_L_deny [rf E.ad 1, .ref O.2] (w, v) out true (hmL 0 1 2) := by
  refine con_O (by decide +kernel) rfl (Nat.le_of_ble_eq_true rfl) (c1s_r (c1s_a c1s_0 (Nat.le_of_ble_eq_true rfl)) (Nat.le_of_ble_eq_true rfl)).1 hI TnA hA ?_
  intro K H0 o g kc hl hret
  subst hl
  refine J_aldO_n o dL_deny_0 rfl ?_
  refine J_iconst o dL_deny_1 ?_
  refine J_aload_n o dL_deny_2 rfl ?_
  refine J_xI (vs := []) o g kc dL_deny_3 mw1069 ml_Dm_deny vl_Dm_deny ⟨rfl, rfl, Nat.le_of_ble_eq_true rfl, Nat.le_of_ble_eq_true rfl⟩ ⟨Nat.le_refl _, Nat.le_refl _⟩ (c_Dm_deny hst g.2.1.1  hf) kA_1 rfl ⟨by decide, by decide⟩ rfl rfl (c1s_i (c1s_a c1s_0 (Nat.le_of_ble_eq_true rfl)) (Nat.le_of_ble_eq_true rfl)) (fun h0 hr => ?_) (fun h0 => ?_)
  · have o2 := OkO.add (a' := 1) (b' := 6) o
    have g2 := GdO.add (a' := 1) (b' := 6) g
    refine J_i2l o2 dL_deny_6 hr (fun u hu => ?_)
    refine J_last o2 g2 dL_deny_7 rfl (fun f hf1 => ?_)
    refine J_goto 17 o2 dL_deny_8 (by decide) ?_
    refine J_iconst o2 dL_deny_17 ?_
    exact hret _ _ _ _ rl0 (by rw [h0]; rfl) (fun _ _ => by rw [hf1]; exact hu) dL_deny_18
  · have o2 := OkO.add (a' := 1) (b' := 6) o
    have g2 := GdO.add (a' := 1) (b' := 6) g
    rcases hn with hn | hn | hn
    · exact absurd hn h0
    · rw [hn]
      refine J_catch o2 g2 [] (0, 8, 11, 15) [(0, 8, 14, 17)] rfl (Or.inr (Or.inl rfl)) (fun _ h => absurd h List.not_mem_nil) ⟨by decide, by decide⟩ (by decide) lxc2 (fun q => ?_)
      refine J_astO_n o2 dL_deny_11 (Nat.le_of_ble_eq_true rfl) ?_
      refine J_iconst o2 dL_deny_12 ?_
      exact hret _ _ v _ rl1 (by rw [hn]; rfl) (fun _ h9 => absurd h9 h0) dL_deny_13
    · rw [hn]
      refine J_catch o2 g2 [(0, 8, 11, 15)] (0, 8, 14, 17) [] rfl (Or.inr (Or.inr rfl)) (by
        intro z hz
        simp only [List.mem_cons, List.not_mem_nil, or_false] at hz
        rcases hz with rfl
        · exact ⟨by decide, 2, Or.inr (Or.inl rfl), by decide, lxc2⟩) ⟨by decide, by decide⟩ (by decide) lxc3 (fun q => ?_)
      refine J_astO_n o2 dL_deny_14 (Nat.le_of_ble_eq_true rfl) ?_
      refine J_iconst o2 dL_deny_15 ?_
      exact hret _ _ v _ rl2 (by rw [hn]; rfl) (fun _ h9 => absurd h9 h0) dL_deny_16
abbrev rm_L_remove : Room := { frames := 9, cells := 1, slots := 6, locals := 228 }
def hh_L_remove : List (Nat × Nat × Nat × Nat) := [(0, 9, 12, 13), (0, 9, 15, 17)]
theorem c_L_remove {E : EE} {O : OO} {l : Launch} (hst : l.stackTraces = false) (hI : Inj TA E) (hA : Ap TA E O.2) {w : World} {v : Nat → Int64} {x1 : Int} (r_x1 : R32 x1) {out : World × Nat × Int} (hf : f_Dm_remove w x1 = some out) (hn : out.2.1 = 0 ∨ out.2.1 = 1 ∨ out.2.1 = 3) : ConO TA E O l yL_remove (WSW yL_remove cL_remove 4 (some .int) hh_L_remove) rm_L_remove [rf E.ad 1, .int (ii x1), .ref O.2] (w, v) out true (hmL 1 0 2) := by
  refine con_O (by decide +kernel) rfl (Nat.le_of_ble_eq_true rfl) (c1s_r (c1s_i (c1s_a c1s_0 (Nat.le_of_ble_eq_true rfl)) (Nat.le_of_ble_eq_true rfl)) (Nat.le_of_ble_eq_true rfl)).1 hI TnA hA ?_
  intro K H0 o g kc hl hret
  subst hl
  refine J_aldO_n o dL_remove_0 rfl ?_
  refine J_iconst o dL_remove_1 ?_
  refine J_aload_n o dL_remove_2 rfl ?_
  refine J_iload_n o dL_remove_3 rfl ?_
  refine J_xI (vs := [.int (ii x1)]) o g kc dL_remove_4 mw1084 ml_Dm_remove vl_Dm_remove ⟨rfl, rfl, Nat.le_of_ble_eq_true rfl, Nat.le_of_ble_eq_true rfl⟩ ⟨Nat.le_refl _, Nat.le_refl _⟩ (c_Dm_remove hst g.2.1.1 r_x1 hf) kA_1 rfl ⟨by decide, by decide⟩ rfl rfl (c1s_i (c1s_a c1s_0 (Nat.le_of_ble_eq_true rfl)) (Nat.le_of_ble_eq_true rfl)) (fun h0 hr => ?_) (fun h0 => ?_)
  · have o2 := OkO.add (a' := 1) (b' := 6) o
    have g2 := GdO.add (a' := 1) (b' := 6) g
    refine J_i2l o2 dL_remove_7 hr (fun u hu => ?_)
    refine J_last o2 g2 dL_remove_8 rfl (fun f hf1 => ?_)
    refine J_goto 18 o2 dL_remove_9 (by decide) ?_
    refine J_iconst o2 dL_remove_18 ?_
    exact hret _ _ _ _ rl0 (by rw [h0]; rfl) (fun _ _ => by rw [hf1]; exact hu) dL_remove_19
  · have o2 := OkO.add (a' := 1) (b' := 6) o
    have g2 := GdO.add (a' := 1) (b' := 6) g
    rcases hn with hn | hn | hn
    · exact absurd hn h0
    · rw [hn]
      refine J_catch o2 g2 [] (0, 9, 12, 13) [(0, 9, 15, 17)] rfl (Or.inl rfl) (fun _ h => absurd h List.not_mem_nil) ⟨by decide, by decide⟩ (by decide) lxc1 (fun q => ?_)
      refine J_astO_n o2 dL_remove_12 (Nat.le_of_ble_eq_true rfl) ?_
      refine J_iconst o2 dL_remove_13 ?_
      exact hret _ _ v _ rl1 (by rw [hn]; rfl) (fun _ h9 => absurd h9 h0) dL_remove_14
    · rw [hn]
      refine J_catch o2 g2 [(0, 9, 12, 13)] (0, 9, 15, 17) [] rfl (Or.inr (Or.inr rfl)) (by
        intro z hz
        simp only [List.mem_cons, List.not_mem_nil, or_false] at hz
        rcases hz with rfl
        · exact ⟨by decide, 1, Or.inl rfl, by decide, lxc1⟩) ⟨by decide, by decide⟩ (by decide) lxc3 (fun q => ?_)
      refine J_astO_n o2 dL_remove_15 (Nat.le_of_ble_eq_true rfl) ?_
      refine J_iconst o2 dL_remove_16 ?_
      exact hret _ _ v _ rl2 (by rw [hn]; rfl) (fun _ h9 => absurd h9 h0) dL_remove_17
abbrev rm_L_holds : Room := { frames := 7, cells := 1, slots := 6, locals := 143 }
def hh_L_holds : List (Nat × Nat × Nat × Nat) := [(0, 21, 24, 13)]
theorem c_L_holds {E : EE} {O : OO} {l : Launch} (hst : l.stackTraces = false) (hI : Inj TA E) (hA : Ap TA E O.2) {w : World} {v : Nat → Int64} {x1 x2 x3 x4 : Int} (r_x1 : R32 x1) (r_x2 : R32 x2) (r_x3 : R32 x3) (r_x4 : R32 x4) {out : World × Nat × Int} (hf : f_Dm_holds w x1 x2 x3 x4 = some out) (hn : out.2.1 = 0 ∨ out.2.1 = 1) (hbo : out.2.1 = 0 → out.2.2 = 0 ∨ out.2.2 = 1) : ConO TA E O l yL_holds (WSW yL_holds cL_holds 7 (some .int) hh_L_holds) rm_L_holds [rf E.ad 1, .int (ii x1), .int (ii x2), .int (ii x3), .int (ii x4), .ref O.2] (w, v) out true (hmL 1 0 0) := by
  refine con_O (by decide +kernel) rfl (Nat.le_of_ble_eq_true rfl) (c1s_r (c1s_i (c1s_i (c1s_i (c1s_i (c1s_a c1s_0 (Nat.le_of_ble_eq_true rfl)) (Nat.le_of_ble_eq_true rfl)) (Nat.le_of_ble_eq_true rfl)) (Nat.le_of_ble_eq_true rfl)) (Nat.le_of_ble_eq_true rfl)) (Nat.le_of_ble_eq_true rfl)).1 hI TnA hA ?_
  intro K H0 o g kc hl hret
  subst hl
  refine J_aldO o dL_holds_0 rfl ?_
  refine J_iconst o dL_holds_2 ?_
  refine J_aload_n o dL_holds_3 rfl ?_
  refine J_iload_n o dL_holds_4 rfl ?_
  refine J_iload_n o dL_holds_5 rfl ?_
  refine J_iload_n o dL_holds_6 rfl ?_
  refine J_iload o dL_holds_7 rfl ?_
  refine J_xI (vs := [.int (ii x1), .int (ii x2), .int (ii x3), .int (ii x4)]) o g kc dL_holds_9 mw1102 ml_Dm_holds vl_Dm_holds ⟨rfl, rfl, Nat.le_of_ble_eq_true rfl, Nat.le_of_ble_eq_true rfl⟩ ⟨Nat.le_refl _, Nat.le_refl _⟩ (c_Dm_holds hst g.2.1.1 r_x1 r_x2 r_x3 r_x4 hf) kA_1 rfl ⟨by decide, by decide⟩ rfl rfl (c1s_i (c1s_a c1s_0 (Nat.le_of_ble_eq_true rfl)) (Nat.le_of_ble_eq_true rfl)) (fun h0 hr => ?_) (fun h0 => ?_)
  · have o2 := OkO.add (a' := 1) (b' := 6) o
    have g2 := GdO.add (a' := 1) (b' := 6) g
    refine J_if_eq 19 o2 dL_holds_12 (by decide) hr (fun e0 => ?_) (fun e0 => ?_)
    · skip
      refine J_lc0 o2 dL_holds_19 (fun u hu => ?_)
      refine J_last o2 g2 dL_holds_20 rfl (fun f hf1 => ?_)
      refine J_goto 28 o2 dL_holds_21 (by decide) ?_
      refine J_iconst o2 dL_holds_28 ?_
      exact hret _ _ _ _ rl0 (by rw [h0]; rfl) (fun _ _ => by rw [hf1, hu]; exact e0.symm) dL_holds_29
    · skip
      refine J_lc1 o2 dL_holds_15 (fun u hu => ?_)
      refine J_goto 20 o2 dL_holds_16 (by decide) ?_
      refine J_last o2 g2 dL_holds_20 rfl (fun f hf1 => ?_)
      refine J_goto 28 o2 dL_holds_21 (by decide) ?_
      refine J_iconst o2 dL_holds_28 ?_
      exact hret _ _ _ _ rl0 (by rw [h0]; rfl) (fun _ _ => by rw [hf1, hu]; rcases hbo h0 with e | e; exact absurd e e0; exact e.symm) dL_holds_29
  · have o2 := OkO.add (a' := 1) (b' := 6) o
    have g2 := GdO.add (a' := 1) (b' := 6) g
    rcases hn with hn | hn
    · exact absurd hn h0
    · rw [hn]
      refine J_catch o2 g2 [] (0, 21, 24, 13) [] rfl (Or.inl rfl) (fun _ h => absurd h List.not_mem_nil) ⟨by decide, by decide⟩ (by decide) lxc1 (fun q => ?_)
      refine J_astO o2 dL_holds_24 (Nat.le_of_ble_eq_true rfl) ?_
      refine J_iconst o2 dL_holds_26 ?_
      exact hret _ _ v _ rl1 (by rw [hn]; rfl) (fun _ h9 => absurd h9 h0) dL_holds_27
abbrev rm_L_holdsAt : Room := { frames := 7, cells := 1, slots := 6, locals := 144 }
def hh_L_holdsAt : List (Nat × Nat × Nat × Nat) := [(0, 23, 26, 13), (0, 23, 30, 15)]
theorem c_L_holdsAt {E : EE} {O : OO} {l : Launch} (hst : l.stackTraces = false) (hI : Inj TA E) (hA : Ap TA E O.2) {w : World} {v : Nat → Int64} {x1 x2 x3 x4 x5 : Int} (r_x1 : R32 x1) (r_x2 : R32 x2) (r_x3 : R32 x3) (r_x4 : R32 x4) (r_x5 : R32 x5) {out : World × Nat × Int} (hf : f_Dm_holdsAt w x1 x2 x3 x4 x5 = some out) (hn : out.2.1 = 0 ∨ out.2.1 = 1 ∨ out.2.1 = 2) (hbo : out.2.1 = 0 → out.2.2 = 0 ∨ out.2.2 = 1) : ConO TA E O l yL_holdsAt (WSW yL_holdsAt cL_holdsAt 8 (some .int) hh_L_holdsAt) rm_L_holdsAt [rf E.ad 1, .int (ii x1), .int (ii x2), .int (ii x3), .int (ii x4), .int (ii x5), .ref O.2] (w, v) out true (hmL 1 2 0) := by
  refine con_O (by decide +kernel) rfl (Nat.le_of_ble_eq_true rfl) (c1s_r (c1s_i (c1s_i (c1s_i (c1s_i (c1s_i (c1s_a c1s_0 (Nat.le_of_ble_eq_true rfl)) (Nat.le_of_ble_eq_true rfl)) (Nat.le_of_ble_eq_true rfl)) (Nat.le_of_ble_eq_true rfl)) (Nat.le_of_ble_eq_true rfl)) (Nat.le_of_ble_eq_true rfl)) (Nat.le_of_ble_eq_true rfl)).1 hI TnA hA ?_
  intro K H0 o g kc hl hret
  subst hl
  refine J_aldO o dL_holdsAt_0 rfl ?_
  refine J_iconst o dL_holdsAt_2 ?_
  refine J_aload_n o dL_holdsAt_3 rfl ?_
  refine J_iload_n o dL_holdsAt_4 rfl ?_
  refine J_iload_n o dL_holdsAt_5 rfl ?_
  refine J_iload_n o dL_holdsAt_6 rfl ?_
  refine J_iload o dL_holdsAt_7 rfl ?_
  refine J_iload o dL_holdsAt_9 rfl ?_
  refine J_xI (vs := [.int (ii x1), .int (ii x2), .int (ii x3), .int (ii x4), .int (ii x5)]) o g kc dL_holdsAt_11 mw1117 ml_Dm_holdsAt vl_Dm_holdsAt ⟨rfl, rfl, Nat.le_of_ble_eq_true rfl, Nat.le_of_ble_eq_true rfl⟩ ⟨Nat.le_refl _, Nat.le_refl _⟩ (c_Dm_holdsAt hst g.2.1.1 r_x1 r_x2 r_x3 r_x4 r_x5 hf) kA_1 rfl ⟨by decide, by decide⟩ rfl rfl (c1s_i (c1s_a c1s_0 (Nat.le_of_ble_eq_true rfl)) (Nat.le_of_ble_eq_true rfl)) (fun h0 hr => ?_) (fun h0 => ?_)
  · have o2 := OkO.add (a' := 1) (b' := 6) o
    have g2 := GdO.add (a' := 1) (b' := 6) g
    refine J_if_eq 21 o2 dL_holdsAt_14 (by decide) hr (fun e0 => ?_) (fun e0 => ?_)
    · skip
      refine J_lc0 o2 dL_holdsAt_21 (fun u hu => ?_)
      refine J_last o2 g2 dL_holdsAt_22 rfl (fun f hf1 => ?_)
      refine J_goto 34 o2 dL_holdsAt_23 (by decide) ?_
      refine J_iconst o2 dL_holdsAt_34 ?_
      exact hret _ _ _ _ rl0 (by rw [h0]; rfl) (fun _ _ => by rw [hf1, hu]; exact e0.symm) dL_holdsAt_35
    · skip
      refine J_lc1 o2 dL_holdsAt_17 (fun u hu => ?_)
      refine J_goto 22 o2 dL_holdsAt_18 (by decide) ?_
      refine J_last o2 g2 dL_holdsAt_22 rfl (fun f hf1 => ?_)
      refine J_goto 34 o2 dL_holdsAt_23 (by decide) ?_
      refine J_iconst o2 dL_holdsAt_34 ?_
      exact hret _ _ _ _ rl0 (by rw [h0]; rfl) (fun _ _ => by rw [hf1, hu]; rcases hbo h0 with e | e; exact absurd e e0; exact e.symm) dL_holdsAt_35
  · have o2 := OkO.add (a' := 1) (b' := 6) o
    have g2 := GdO.add (a' := 1) (b' := 6) g
    rcases hn with hn | hn | hn
    · exact absurd hn h0
    · rw [hn]
      refine J_catch o2 g2 [] (0, 23, 26, 13) [(0, 23, 30, 15)] rfl (Or.inl rfl) (fun _ h => absurd h List.not_mem_nil) ⟨by decide, by decide⟩ (by decide) lxc1 (fun q => ?_)
      refine J_astO o2 dL_holdsAt_26 (Nat.le_of_ble_eq_true rfl) ?_
      refine J_iconst o2 dL_holdsAt_28 ?_
      exact hret _ _ v _ rl1 (by rw [hn]; rfl) (fun _ h9 => absurd h9 h0) dL_holdsAt_29
    · rw [hn]
      refine J_catch o2 g2 [(0, 23, 26, 13)] (0, 23, 30, 15) [] rfl (Or.inr (Or.inl rfl)) (by
        intro z hz
        simp only [List.mem_cons, List.not_mem_nil, or_false] at hz
        rcases hz with rfl
        · exact ⟨by decide, 1, Or.inl rfl, by decide, lxc1⟩) ⟨by decide, by decide⟩ (by decide) lxc2 (fun q => ?_)
      refine J_astO o2 dL_holdsAt_30 (Nat.le_of_ble_eq_true rfl) ?_
      refine J_iconst o2 dL_holdsAt_32 ?_
      exact hret _ _ v _ rl2 (by rw [hn]; rfl) (fun _ h9 => absurd h9 h0) dL_holdsAt_33
abbrev rm_L_holdsAnew : Room := { frames := 8, cells := 1, slots := 6, locals := 207 }
def hh_L_holdsAnew : List (Nat × Nat × Nat × Nat) := [(0, 23, 26, 13), (0, 23, 30, 15)]
theorem c_L_holdsAnew {E : EE} {O : OO} {l : Launch} (hst : l.stackTraces = false) (hI : Inj TA E) (hA : Ap TA E O.2) {w : World} {v : Nat → Int64} {x1 x2 x3 x4 x5 : Int} (r_x1 : R32 x1) (r_x2 : R32 x2) (r_x3 : R32 x3) (r_x4 : R32 x4) (r_x5 : R32 x5) {out : World × Nat × Int} (hf : f_Dm_holdsAnew w x1 x2 x3 x4 x5 = some out) (hn : out.2.1 = 0 ∨ out.2.1 = 1 ∨ out.2.1 = 2) (hbo : out.2.1 = 0 → out.2.2 = 0 ∨ out.2.2 = 1) : ConO TA E O l yL_holdsAnew (WSW yL_holdsAnew cL_holdsAnew 8 (some .int) hh_L_holdsAnew) rm_L_holdsAnew [rf E.ad 1, .int (ii x1), .int (ii x2), .int (ii x3), .int (ii x4), .int (ii x5), .ref O.2] (w, v) out true (hmL 1 2 0) := by
  refine con_O (by decide +kernel) rfl (Nat.le_of_ble_eq_true rfl) (c1s_r (c1s_i (c1s_i (c1s_i (c1s_i (c1s_i (c1s_a c1s_0 (Nat.le_of_ble_eq_true rfl)) (Nat.le_of_ble_eq_true rfl)) (Nat.le_of_ble_eq_true rfl)) (Nat.le_of_ble_eq_true rfl)) (Nat.le_of_ble_eq_true rfl)) (Nat.le_of_ble_eq_true rfl)) (Nat.le_of_ble_eq_true rfl)).1 hI TnA hA ?_
  intro K H0 o g kc hl hret
  subst hl
  refine J_aldO o dL_holdsAnew_0 rfl ?_
  refine J_iconst o dL_holdsAnew_2 ?_
  refine J_aload_n o dL_holdsAnew_3 rfl ?_
  refine J_iload_n o dL_holdsAnew_4 rfl ?_
  refine J_iload_n o dL_holdsAnew_5 rfl ?_
  refine J_iload_n o dL_holdsAnew_6 rfl ?_
  refine J_iload o dL_holdsAnew_7 rfl ?_
  refine J_iload o dL_holdsAnew_9 rfl ?_
  refine J_xI (vs := [.int (ii x1), .int (ii x2), .int (ii x3), .int (ii x4), .int (ii x5)]) o g kc dL_holdsAnew_11 mw1125 ml_Dm_holdsAnew vl_Dm_holdsAnew ⟨rfl, rfl, Nat.le_of_ble_eq_true rfl, Nat.le_of_ble_eq_true rfl⟩ ⟨Nat.le_refl _, Nat.le_refl _⟩ (c_Dm_holdsAnew hst g.2.1.1 r_x1 r_x2 r_x3 r_x4 r_x5 hf) kA_1 rfl ⟨by decide, by decide⟩ rfl rfl (c1s_i (c1s_a c1s_0 (Nat.le_of_ble_eq_true rfl)) (Nat.le_of_ble_eq_true rfl)) (fun h0 hr => ?_) (fun h0 => ?_)
  · have o2 := OkO.add (a' := 1) (b' := 6) o
    have g2 := GdO.add (a' := 1) (b' := 6) g
    refine J_if_eq 21 o2 dL_holdsAnew_14 (by decide) hr (fun e0 => ?_) (fun e0 => ?_)
    · skip
      refine J_lc0 o2 dL_holdsAnew_21 (fun u hu => ?_)
      refine J_last o2 g2 dL_holdsAnew_22 rfl (fun f hf1 => ?_)
      refine J_goto 34 o2 dL_holdsAnew_23 (by decide) ?_
      refine J_iconst o2 dL_holdsAnew_34 ?_
      exact hret _ _ _ _ rl0 (by rw [h0]; rfl) (fun _ _ => by rw [hf1, hu]; exact e0.symm) dL_holdsAnew_35
    · skip
      refine J_lc1 o2 dL_holdsAnew_17 (fun u hu => ?_)
      refine J_goto 22 o2 dL_holdsAnew_18 (by decide) ?_
      refine J_last o2 g2 dL_holdsAnew_22 rfl (fun f hf1 => ?_)
      refine J_goto 34 o2 dL_holdsAnew_23 (by decide) ?_
      refine J_iconst o2 dL_holdsAnew_34 ?_
      exact hret _ _ _ _ rl0 (by rw [h0]; rfl) (fun _ _ => by rw [hf1, hu]; rcases hbo h0 with e | e; exact absurd e e0; exact e.symm) dL_holdsAnew_35
  · have o2 := OkO.add (a' := 1) (b' := 6) o
    have g2 := GdO.add (a' := 1) (b' := 6) g
    rcases hn with hn | hn | hn
    · exact absurd hn h0
    · rw [hn]
      refine J_catch o2 g2 [] (0, 23, 26, 13) [(0, 23, 30, 15)] rfl (Or.inl rfl) (fun _ h => absurd h List.not_mem_nil) ⟨by decide, by decide⟩ (by decide) lxc1 (fun q => ?_)
      refine J_astO o2 dL_holdsAnew_26 (Nat.le_of_ble_eq_true rfl) ?_
      refine J_iconst o2 dL_holdsAnew_28 ?_
      exact hret _ _ v _ rl1 (by rw [hn]; rfl) (fun _ h9 => absurd h9 h0) dL_holdsAnew_29
    · rw [hn]
      refine J_catch o2 g2 [(0, 23, 26, 13)] (0, 23, 30, 15) [] rfl (Or.inr (Or.inl rfl)) (by
        intro z hz
        simp only [List.mem_cons, List.not_mem_nil, or_false] at hz
        rcases hz with rfl
        · exact ⟨by decide, 1, Or.inl rfl, by decide, lxc1⟩) ⟨by decide, by decide⟩ (by decide) lxc2 (fun q => ?_)
      refine J_astO o2 dL_holdsAnew_30 (Nat.le_of_ble_eq_true rfl) ?_
      refine J_iconst o2 dL_holdsAnew_32 ?_
      exact hret _ _ v _ rl2 (by rw [hn]; rfl) (fun _ h9 => absurd h9 h0) dL_holdsAnew_33
abbrev rm_L_size : Room := { frames := 7, cells := 1, slots := 6, locals := 121 }
def hh_L_size : List (Nat × Nat × Nat × Nat) := [(0, 9, 12, 13)]
theorem c_L_size {E : EE} {O : OO} {l : Launch} (hst : l.stackTraces = false) (hI : Inj TA E) (hA : Ap TA E O.2) {w : World} {v : Nat → Int64} {x1 : Int} (r_x1 : R32 x1) {out : World × Nat × Int} (hf : f_Dm_size w x1 = some out) (hn : out.2.1 = 0 ∨ out.2.1 = 1) : ConO TA E O l yL_size (WSW yL_size cL_size 4 (some .int) hh_L_size) rm_L_size [rf E.ad 1, .int (ii x1), .ref O.2] (w, v) out true (hmL 1 0 0) := by
  refine con_O (by decide +kernel) rfl (Nat.le_of_ble_eq_true rfl) (c1s_r (c1s_i (c1s_a c1s_0 (Nat.le_of_ble_eq_true rfl)) (Nat.le_of_ble_eq_true rfl)) (Nat.le_of_ble_eq_true rfl)).1 hI TnA hA ?_
  intro K H0 o g kc hl hret
  subst hl
  refine J_aldO_n o dL_size_0 rfl ?_
  refine J_iconst o dL_size_1 ?_
  refine J_aload_n o dL_size_2 rfl ?_
  refine J_iload_n o dL_size_3 rfl ?_
  refine J_xI (vs := [.int (ii x1)]) o g kc dL_size_4 mw1132 ml_Dm_size vl_Dm_size ⟨rfl, rfl, Nat.le_of_ble_eq_true rfl, Nat.le_of_ble_eq_true rfl⟩ ⟨Nat.le_refl _, Nat.le_refl _⟩ (c_Dm_size hst g.2.1.1 r_x1 hf) kA_1 rfl ⟨by decide, by decide⟩ rfl rfl (c1s_i (c1s_a c1s_0 (Nat.le_of_ble_eq_true rfl)) (Nat.le_of_ble_eq_true rfl)) (fun h0 hr => ?_) (fun h0 => ?_)
  · have o2 := OkO.add (a' := 1) (b' := 6) o
    have g2 := GdO.add (a' := 1) (b' := 6) g
    refine J_i2l o2 dL_size_7 hr (fun u hu => ?_)
    refine J_last o2 g2 dL_size_8 rfl (fun f hf1 => ?_)
    refine J_goto 15 o2 dL_size_9 (by decide) ?_
    refine J_iconst o2 dL_size_15 ?_
    exact hret _ _ _ _ rl0 (by rw [h0]; rfl) (fun _ _ => by rw [hf1]; exact hu) dL_size_16
  · have o2 := OkO.add (a' := 1) (b' := 6) o
    have g2 := GdO.add (a' := 1) (b' := 6) g
    rcases hn with hn | hn
    · exact absurd hn h0
    · rw [hn]
      refine J_catch o2 g2 [] (0, 9, 12, 13) [] rfl (Or.inl rfl) (fun _ h => absurd h List.not_mem_nil) ⟨by decide, by decide⟩ (by decide) lxc1 (fun q => ?_)
      refine J_astO_n o2 dL_size_12 (Nat.le_of_ble_eq_true rfl) ?_
      refine J_iconst o2 dL_size_13 ?_
      exact hret _ _ v _ rl1 (by rw [hn]; rfl) (fun _ h9 => absurd h9 h0) dL_size_14
abbrev rm_L_at : Room := { frames := 7, cells := 1, slots := 6, locals := 123 }
def hh_L_at : List (Nat × Nat × Nat × Nat) := [(0, 10, 13, 13)]
theorem c_L_at {E : EE} {O : OO} {l : Launch} (hst : l.stackTraces = false) (hI : Inj TA E) (hA : Ap TA E O.2) {w : World} {v : Nat → Int64} {x1 x2 : Int} (r_x1 : R32 x1) (r_x2 : R32 x2) {out : World × Nat × Int} (hf : f_Dm_at w x1 x2 = some out) (hn : out.2.1 = 0 ∨ out.2.1 = 1) : ConO TA E O l yL_at (WSW yL_at cL_at 5 (some .int) hh_L_at) rm_L_at [rf E.ad 1, .int (ii x1), .int (ii x2), .ref O.2] (w, v) out true (hmL 1 0 0) := by
  refine con_O (by decide +kernel) rfl (Nat.le_of_ble_eq_true rfl) (c1s_r (c1s_i (c1s_i (c1s_a c1s_0 (Nat.le_of_ble_eq_true rfl)) (Nat.le_of_ble_eq_true rfl)) (Nat.le_of_ble_eq_true rfl)) (Nat.le_of_ble_eq_true rfl)).1 hI TnA hA ?_
  intro K H0 o g kc hl hret
  subst hl
  refine J_aldO_n o dL_at_0 rfl ?_
  refine J_iconst o dL_at_1 ?_
  refine J_aload_n o dL_at_2 rfl ?_
  refine J_iload_n o dL_at_3 rfl ?_
  refine J_iload_n o dL_at_4 rfl ?_
  refine J_xI (vs := [.int (ii x1), .int (ii x2)]) o g kc dL_at_5 mw1143 ml_Dm_at vl_Dm_at ⟨rfl, rfl, Nat.le_of_ble_eq_true rfl, Nat.le_of_ble_eq_true rfl⟩ ⟨Nat.le_refl _, Nat.le_refl _⟩ (c_Dm_at hst g.2.1.1 r_x1 r_x2 hf) kA_1 rfl ⟨by decide, by decide⟩ rfl rfl (c1s_i (c1s_a c1s_0 (Nat.le_of_ble_eq_true rfl)) (Nat.le_of_ble_eq_true rfl)) (fun h0 hr => ?_) (fun h0 => ?_)
  · have o2 := OkO.add (a' := 1) (b' := 6) o
    have g2 := GdO.add (a' := 1) (b' := 6) g
    refine J_i2l o2 dL_at_8 hr (fun u hu => ?_)
    refine J_last o2 g2 dL_at_9 rfl (fun f hf1 => ?_)
    refine J_goto 17 o2 dL_at_10 (by decide) ?_
    refine J_iconst o2 dL_at_17 ?_
    exact hret _ _ _ _ rl0 (by rw [h0]; rfl) (fun _ _ => by rw [hf1]; exact hu) dL_at_18
  · have o2 := OkO.add (a' := 1) (b' := 6) o
    have g2 := GdO.add (a' := 1) (b' := 6) g
    rcases hn with hn | hn
    · exact absurd hn h0
    · rw [hn]
      refine J_catch o2 g2 [] (0, 10, 13, 13) [] rfl (Or.inl rfl) (fun _ h => absurd h List.not_mem_nil) ⟨by decide, by decide⟩ (by decide) lxc1 (fun q => ?_)
      refine J_astO o2 dL_at_13 (Nat.le_of_ble_eq_true rfl) ?_
      refine J_iconst o2 dL_at_15 ?_
      exact hret _ _ v _ rl1 (by rw [hn]; rfl) (fun _ h9 => absurd h9 h0) dL_at_16
abbrev rm_L_stratum : Room := { frames := 7, cells := 1, slots := 6, locals := 121 }
def hh_L_stratum : List (Nat × Nat × Nat × Nat) := [(0, 9, 12, 13)]
theorem c_L_stratum {E : EE} {O : OO} {l : Launch} (hst : l.stackTraces = false) (hI : Inj TA E) (hA : Ap TA E O.2) {w : World} {v : Nat → Int64} {x1 : Int} (r_x1 : R32 x1) {out : World × Nat × Int} (hf : f_Dm_stratum w x1 = some out) (hn : out.2.1 = 0 ∨ out.2.1 = 1) : ConO TA E O l yL_stratum (WSW yL_stratum cL_stratum 4 (some .int) hh_L_stratum) rm_L_stratum [rf E.ad 1, .int (ii x1), .ref O.2] (w, v) out true (hmL 1 0 0) := by
  refine con_O (by decide +kernel) rfl (Nat.le_of_ble_eq_true rfl) (c1s_r (c1s_i (c1s_a c1s_0 (Nat.le_of_ble_eq_true rfl)) (Nat.le_of_ble_eq_true rfl)) (Nat.le_of_ble_eq_true rfl)).1 hI TnA hA ?_
  intro K H0 o g kc hl hret
  subst hl
  refine J_aldO_n o dL_stratum_0 rfl ?_
  refine J_iconst o dL_stratum_1 ?_
  refine J_aload_n o dL_stratum_2 rfl ?_
  refine J_iload_n o dL_stratum_3 rfl ?_
  refine J_xI (vs := [.int (ii x1)]) o g kc dL_stratum_4 mw1156 ml_Dm_stratum vl_Dm_stratum ⟨rfl, rfl, Nat.le_of_ble_eq_true rfl, Nat.le_of_ble_eq_true rfl⟩ ⟨Nat.le_refl _, Nat.le_refl _⟩ (c_Dm_stratum hst g.2.1.1 r_x1 hf) kA_1 rfl ⟨by decide, by decide⟩ rfl rfl (c1s_i (c1s_a c1s_0 (Nat.le_of_ble_eq_true rfl)) (Nat.le_of_ble_eq_true rfl)) (fun h0 hr => ?_) (fun h0 => ?_)
  · have o2 := OkO.add (a' := 1) (b' := 6) o
    have g2 := GdO.add (a' := 1) (b' := 6) g
    refine J_i2l o2 dL_stratum_7 hr (fun u hu => ?_)
    refine J_last o2 g2 dL_stratum_8 rfl (fun f hf1 => ?_)
    refine J_goto 15 o2 dL_stratum_9 (by decide) ?_
    refine J_iconst o2 dL_stratum_15 ?_
    exact hret _ _ _ _ rl0 (by rw [h0]; rfl) (fun _ _ => by rw [hf1]; exact hu) dL_stratum_16
  · have o2 := OkO.add (a' := 1) (b' := 6) o
    have g2 := GdO.add (a' := 1) (b' := 6) g
    rcases hn with hn | hn
    · exact absurd hn h0
    · rw [hn]
      refine J_catch o2 g2 [] (0, 9, 12, 13) [] rfl (Or.inl rfl) (fun _ h => absurd h List.not_mem_nil) ⟨by decide, by decide⟩ (by decide) lxc1 (fun q => ?_)
      refine J_astO_n o2 dL_stratum_12 (Nat.le_of_ble_eq_true rfl) ?_
      refine J_iconst o2 dL_stratum_13 ?_
      exact hret _ _ v _ rl1 (by rw [hn]; rfl) (fun _ h9 => absurd h9 h0) dL_stratum_14
abbrev rm_L_ways : Room := { frames := 7, cells := 1, slots := 6, locals := 174 }
def hh_L_ways : List (Nat × Nat × Nat × Nat) := [(0, 14, 17, 13)]
theorem c_L_ways {E : EE} {O : OO} {l : Launch} (hst : l.stackTraces = false) (hI : Inj TA E) (hA : Ap TA E O.2) {w : World} {v : Nat → Int64} {x1 x2 x3 x4 : Int} (r_x1 : R32 x1) (r_x2 : R32 x2) (r_x3 : R32 x3) (r_x4 : R32 x4) {out : World × Nat × Int} (hf : f_Dm_ways w x1 x2 x3 x4 = some out) (hn : out.2.1 = 0 ∨ out.2.1 = 1) : ConO TA E O l yL_ways (WSW yL_ways cL_ways 7 (some .int) hh_L_ways) rm_L_ways [rf E.ad 1, .int (ii x1), .int (ii x2), .int (ii x3), .int (ii x4), .ref O.2] (w, v) out true (hmL 1 0 0) := by
  refine con_O (by decide +kernel) rfl (Nat.le_of_ble_eq_true rfl) (c1s_r (c1s_i (c1s_i (c1s_i (c1s_i (c1s_a c1s_0 (Nat.le_of_ble_eq_true rfl)) (Nat.le_of_ble_eq_true rfl)) (Nat.le_of_ble_eq_true rfl)) (Nat.le_of_ble_eq_true rfl)) (Nat.le_of_ble_eq_true rfl)) (Nat.le_of_ble_eq_true rfl)).1 hI TnA hA ?_
  intro K H0 o g kc hl hret
  subst hl
  refine J_aldO o dL_ways_0 rfl ?_
  refine J_iconst o dL_ways_2 ?_
  refine J_aload_n o dL_ways_3 rfl ?_
  refine J_iload_n o dL_ways_4 rfl ?_
  refine J_iload_n o dL_ways_5 rfl ?_
  refine J_iload_n o dL_ways_6 rfl ?_
  refine J_iload o dL_ways_7 rfl ?_
  refine J_xI (vs := [.int (ii x1), .int (ii x2), .int (ii x3), .int (ii x4)]) o g kc dL_ways_9 mw1164 ml_Dm_ways vl_Dm_ways ⟨rfl, rfl, Nat.le_of_ble_eq_true rfl, Nat.le_of_ble_eq_true rfl⟩ ⟨Nat.le_refl _, Nat.le_refl _⟩ (c_Dm_ways hst g.2.1.1 r_x1 r_x2 r_x3 r_x4 hf) kA_1 rfl ⟨by decide, by decide⟩ rfl rfl (c1s_i (c1s_a c1s_0 (Nat.le_of_ble_eq_true rfl)) (Nat.le_of_ble_eq_true rfl)) (fun h0 hr => ?_) (fun h0 => ?_)
  · have o2 := OkO.add (a' := 1) (b' := 6) o
    have g2 := GdO.add (a' := 1) (b' := 6) g
    refine J_i2l o2 dL_ways_12 hr (fun u hu => ?_)
    refine J_last o2 g2 dL_ways_13 rfl (fun f hf1 => ?_)
    refine J_goto 21 o2 dL_ways_14 (by decide) ?_
    refine J_iconst o2 dL_ways_21 ?_
    exact hret _ _ _ _ rl0 (by rw [h0]; rfl) (fun _ _ => by rw [hf1]; exact hu) dL_ways_22
  · have o2 := OkO.add (a' := 1) (b' := 6) o
    have g2 := GdO.add (a' := 1) (b' := 6) g
    rcases hn with hn | hn
    · exact absurd hn h0
    · rw [hn]
      refine J_catch o2 g2 [] (0, 14, 17, 13) [] rfl (Or.inl rfl) (fun _ h => absurd h List.not_mem_nil) ⟨by decide, by decide⟩ (by decide) lxc1 (fun q => ?_)
      refine J_astO o2 dL_ways_17 (Nat.le_of_ble_eq_true rfl) ?_
      refine J_iconst o2 dL_ways_19 ?_
      exact hret _ _ v _ rl1 (by rw [hn]; rfl) (fun _ h9 => absurd h9 h0) dL_ways_20
abbrev rm_L_cheapest : Room := { frames := 8, cells := 1, slots := 6, locals := 194 }
def hh_L_cheapest : List (Nat × Nat × Nat × Nat) := [(0, 14, 17, 13)]
theorem c_L_cheapest {E : EE} {O : OO} {l : Launch} (hst : l.stackTraces = false) (hI : Inj TA E) (hA : Ap TA E O.2) {w : World} {v : Nat → Int64} {x1 x2 x3 x4 : Int} (r_x1 : R32 x1) (r_x2 : R32 x2) (r_x3 : R32 x3) (r_x4 : R32 x4) {out : World × Nat × Int} (hf : f_Dm_cheapest w x1 x2 x3 x4 = some out) (hn : out.2.1 = 0 ∨ out.2.1 = 1) : ConO TA E O l yL_cheapest (WSW yL_cheapest cL_cheapest 7 (some .int) hh_L_cheapest) rm_L_cheapest [rf E.ad 1, .int (ii x1), .int (ii x2), .int (ii x3), .int (ii x4), .ref O.2] (w, v) out true (hmL 1 0 0) := by
  refine con_O (by decide +kernel) rfl (Nat.le_of_ble_eq_true rfl) (c1s_r (c1s_i (c1s_i (c1s_i (c1s_i (c1s_a c1s_0 (Nat.le_of_ble_eq_true rfl)) (Nat.le_of_ble_eq_true rfl)) (Nat.le_of_ble_eq_true rfl)) (Nat.le_of_ble_eq_true rfl)) (Nat.le_of_ble_eq_true rfl)) (Nat.le_of_ble_eq_true rfl)).1 hI TnA hA ?_
  intro K H0 o g kc hl hret
  subst hl
  refine J_aldO o dL_cheapest_0 rfl ?_
  refine J_iconst o dL_cheapest_2 ?_
  refine J_aload_n o dL_cheapest_3 rfl ?_
  refine J_iload_n o dL_cheapest_4 rfl ?_
  refine J_iload_n o dL_cheapest_5 rfl ?_
  refine J_iload_n o dL_cheapest_6 rfl ?_
  refine J_iload o dL_cheapest_7 rfl ?_
  refine J_xI (vs := [.int (ii x1), .int (ii x2), .int (ii x3), .int (ii x4)]) o g kc dL_cheapest_9 mw1199 ml_Dm_cheapest vl_Dm_cheapest ⟨rfl, rfl, Nat.le_of_ble_eq_true rfl, Nat.le_of_ble_eq_true rfl⟩ ⟨Nat.le_refl _, Nat.le_refl _⟩ (c_Dm_cheapest hst g.2.1.1 r_x1 r_x2 r_x3 r_x4 hf) kA_1 rfl ⟨by decide, by decide⟩ rfl rfl (c1s_i (c1s_a c1s_0 (Nat.le_of_ble_eq_true rfl)) (Nat.le_of_ble_eq_true rfl)) (fun h0 hr => ?_) (fun h0 => ?_)
  · have o2 := OkO.add (a' := 1) (b' := 6) o
    have g2 := GdO.add (a' := 1) (b' := 6) g
    refine J_i2l o2 dL_cheapest_12 hr (fun u hu => ?_)
    refine J_last o2 g2 dL_cheapest_13 rfl (fun f hf1 => ?_)
    refine J_goto 21 o2 dL_cheapest_14 (by decide) ?_
    refine J_iconst o2 dL_cheapest_21 ?_
    exact hret _ _ _ _ rl0 (by rw [h0]; rfl) (fun _ _ => by rw [hf1]; exact hu) dL_cheapest_22
  · have o2 := OkO.add (a' := 1) (b' := 6) o
    have g2 := GdO.add (a' := 1) (b' := 6) g
    rcases hn with hn | hn
    · exact absurd hn h0
    · rw [hn]
      refine J_catch o2 g2 [] (0, 14, 17, 13) [] rfl (Or.inl rfl) (fun _ h => absurd h List.not_mem_nil) ⟨by decide, by decide⟩ (by decide) lxc1 (fun q => ?_)
      refine J_astO o2 dL_cheapest_17 (Nat.le_of_ble_eq_true rfl) ?_
      refine J_iconst o2 dL_cheapest_19 ?_
      exact hret _ _ v _ rl1 (by rw [hn]; rfl) (fun _ h9 => absurd h9 h0) dL_cheapest_20
abbrev rm_L_needed : Room := { frames := 8, cells := 1, slots := 6, locals := 210 }
def hh_L_needed : List (Nat × Nat × Nat × Nat) := [(0, 14, 17, 13)]
theorem c_L_needed {E : EE} {O : OO} {l : Launch} (hst : l.stackTraces = false) (hI : Inj TA E) (hA : Ap TA E O.2) {w : World} {v : Nat → Int64} {x1 x2 x3 x4 : Int} (r_x1 : R32 x1) (r_x2 : R32 x2) (r_x3 : R32 x3) (r_x4 : R32 x4) {out : World × Nat × Int} (hf : f_Dm_needed w x1 x2 x3 x4 = some out) (hn : out.2.1 = 0 ∨ out.2.1 = 1) : ConO TA E O l yL_needed (WSW yL_needed cL_needed 7 (some .int) hh_L_needed) rm_L_needed [rf E.ad 1, .int (ii x1), .int (ii x2), .int (ii x3), .int (ii x4), .ref O.2] (w, v) out true (hmL 1 0 0) := by
  refine con_O (by decide +kernel) rfl (Nat.le_of_ble_eq_true rfl) (c1s_r (c1s_i (c1s_i (c1s_i (c1s_i (c1s_a c1s_0 (Nat.le_of_ble_eq_true rfl)) (Nat.le_of_ble_eq_true rfl)) (Nat.le_of_ble_eq_true rfl)) (Nat.le_of_ble_eq_true rfl)) (Nat.le_of_ble_eq_true rfl)) (Nat.le_of_ble_eq_true rfl)).1 hI TnA hA ?_
  intro K H0 o g kc hl hret
  subst hl
  refine J_aldO o dL_needed_0 rfl ?_
  refine J_iconst o dL_needed_2 ?_
  refine J_aload_n o dL_needed_3 rfl ?_
  refine J_iload_n o dL_needed_4 rfl ?_
  refine J_iload_n o dL_needed_5 rfl ?_
  refine J_iload_n o dL_needed_6 rfl ?_
  refine J_iload o dL_needed_7 rfl ?_
  refine J_xI (vs := [.int (ii x1), .int (ii x2), .int (ii x3), .int (ii x4)]) o g kc dL_needed_9 mw1238 ml_Dm_needed vl_Dm_needed ⟨rfl, rfl, Nat.le_of_ble_eq_true rfl, Nat.le_of_ble_eq_true rfl⟩ ⟨Nat.le_refl _, Nat.le_refl _⟩ (c_Dm_needed hst g.2.1.1 r_x1 r_x2 r_x3 r_x4 hf) kA_1 rfl ⟨by decide, by decide⟩ rfl rfl (c1s_i (c1s_a c1s_0 (Nat.le_of_ble_eq_true rfl)) (Nat.le_of_ble_eq_true rfl)) (fun h0 hr => ?_) (fun h0 => ?_)
  · have o2 := OkO.add (a' := 1) (b' := 6) o
    have g2 := GdO.add (a' := 1) (b' := 6) g
    refine J_i2l o2 dL_needed_12 hr (fun u hu => ?_)
    refine J_last o2 g2 dL_needed_13 rfl (fun f hf1 => ?_)
    refine J_goto 21 o2 dL_needed_14 (by decide) ?_
    refine J_iconst o2 dL_needed_21 ?_
    exact hret _ _ _ _ rl0 (by rw [h0]; rfl) (fun _ _ => by rw [hf1]; exact hu) dL_needed_22
  · have o2 := OkO.add (a' := 1) (b' := 6) o
    have g2 := GdO.add (a' := 1) (b' := 6) g
    rcases hn with hn | hn
    · exact absurd hn h0
    · rw [hn]
      refine J_catch o2 g2 [] (0, 14, 17, 13) [] rfl (Or.inl rfl) (fun _ h => absurd h List.not_mem_nil) ⟨by decide, by decide⟩ (by decide) lxc1 (fun q => ?_)
      refine J_astO o2 dL_needed_17 (Nat.le_of_ble_eq_true rfl) ?_
      refine J_iconst o2 dL_needed_19 ?_
      exact hret _ _ v _ rl1 (by rw [hn]; rfl) (fun _ h9 => absurd h9 h0) dL_needed_20
abbrev rm_L_whyNot : Room := { frames := 7, cells := 1, slots := 6, locals := 175 }
def hh_L_whyNot : List (Nat × Nat × Nat × Nat) := [(0, 14, 17, 13), (0, 14, 21, 15), (0, 14, 25, 17)]
theorem c_L_whyNot {E : EE} {O : OO} {l : Launch} (hst : l.stackTraces = false) (hI : Inj TA E) (hA : Ap TA E O.2) {w : World} {v : Nat → Int64} {x1 x2 x3 x4 : Int} (r_x1 : R32 x1) (r_x2 : R32 x2) (r_x3 : R32 x3) (r_x4 : R32 x4) {out : World × Nat × Int} (hf : f_Dm_whyNot w x1 x2 x3 x4 = some out) (hn : out.2.1 = 0 ∨ out.2.1 = 1 ∨ out.2.1 = 2 ∨ out.2.1 = 3) : ConO TA E O l yL_whyNot (WSW yL_whyNot cL_whyNot 7 (some .int) hh_L_whyNot) rm_L_whyNot [rf E.ad 1, .int (ii x1), .int (ii x2), .int (ii x3), .int (ii x4), .ref O.2] (w, v) out true (hmL 1 2 3) := by
  refine con_O (by decide +kernel) rfl (Nat.le_of_ble_eq_true rfl) (c1s_r (c1s_i (c1s_i (c1s_i (c1s_i (c1s_a c1s_0 (Nat.le_of_ble_eq_true rfl)) (Nat.le_of_ble_eq_true rfl)) (Nat.le_of_ble_eq_true rfl)) (Nat.le_of_ble_eq_true rfl)) (Nat.le_of_ble_eq_true rfl)) (Nat.le_of_ble_eq_true rfl)).1 hI TnA hA ?_
  intro K H0 o g kc hl hret
  subst hl
  refine J_aldO o dL_whyNot_0 rfl ?_
  refine J_iconst o dL_whyNot_2 ?_
  refine J_aload_n o dL_whyNot_3 rfl ?_
  refine J_iload_n o dL_whyNot_4 rfl ?_
  refine J_iload_n o dL_whyNot_5 rfl ?_
  refine J_iload_n o dL_whyNot_6 rfl ?_
  refine J_iload o dL_whyNot_7 rfl ?_
  refine J_xI (vs := [.int (ii x1), .int (ii x2), .int (ii x3), .int (ii x4)]) o g kc dL_whyNot_9 mw1245 ml_Dm_whyNot vl_Dm_whyNot ⟨rfl, rfl, Nat.le_of_ble_eq_true rfl, Nat.le_of_ble_eq_true rfl⟩ ⟨Nat.le_refl _, Nat.le_refl _⟩ (c_Dm_whyNot hst g.2.1.1 r_x1 r_x2 r_x3 r_x4 hf) kA_1 rfl ⟨by decide, by decide⟩ rfl rfl (c1s_i (c1s_a c1s_0 (Nat.le_of_ble_eq_true rfl)) (Nat.le_of_ble_eq_true rfl)) (fun h0 hr => ?_) (fun h0 => ?_)
  · have o2 := OkO.add (a' := 1) (b' := 6) o
    have g2 := GdO.add (a' := 1) (b' := 6) g
    refine J_i2l o2 dL_whyNot_12 hr (fun u hu => ?_)
    refine J_last o2 g2 dL_whyNot_13 rfl (fun f hf1 => ?_)
    refine J_goto 29 o2 dL_whyNot_14 (by decide) ?_
    refine J_iconst o2 dL_whyNot_29 ?_
    exact hret _ _ _ _ rl0 (by rw [h0]; rfl) (fun _ _ => by rw [hf1]; exact hu) dL_whyNot_30
  · have o2 := OkO.add (a' := 1) (b' := 6) o
    have g2 := GdO.add (a' := 1) (b' := 6) g
    rcases hn with hn | hn | hn | hn
    · exact absurd hn h0
    · rw [hn]
      refine J_catch o2 g2 [] (0, 14, 17, 13) [(0, 14, 21, 15), (0, 14, 25, 17)] rfl (Or.inl rfl) (fun _ h => absurd h List.not_mem_nil) ⟨by decide, by decide⟩ (by decide) lxc1 (fun q => ?_)
      refine J_astO o2 dL_whyNot_17 (Nat.le_of_ble_eq_true rfl) ?_
      refine J_iconst o2 dL_whyNot_19 ?_
      exact hret _ _ v _ rl1 (by rw [hn]; rfl) (fun _ h9 => absurd h9 h0) dL_whyNot_20
    · rw [hn]
      refine J_catch o2 g2 [(0, 14, 17, 13)] (0, 14, 21, 15) [(0, 14, 25, 17)] rfl (Or.inr (Or.inl rfl)) (by
        intro z hz
        simp only [List.mem_cons, List.not_mem_nil, or_false] at hz
        rcases hz with rfl
        · exact ⟨by decide, 1, Or.inl rfl, by decide, lxc1⟩) ⟨by decide, by decide⟩ (by decide) lxc2 (fun q => ?_)
      refine J_astO o2 dL_whyNot_21 (Nat.le_of_ble_eq_true rfl) ?_
      refine J_iconst o2 dL_whyNot_23 ?_
      exact hret _ _ v _ rl2 (by rw [hn]; rfl) (fun _ h9 => absurd h9 h0) dL_whyNot_24
    · rw [hn]
      refine J_catch o2 g2 [(0, 14, 17, 13), (0, 14, 21, 15)] (0, 14, 25, 17) [] rfl (Or.inr (Or.inr rfl)) (by
        intro z hz
        simp only [List.mem_cons, List.not_mem_nil, or_false] at hz
        rcases hz with rfl | rfl
        · exact ⟨by decide, 1, Or.inl rfl, by decide, lxc1⟩
        · exact ⟨by decide, 2, Or.inr (Or.inl rfl), by decide, lxc2⟩) ⟨by decide, by decide⟩ (by decide) lxc3 (fun q => ?_)
      refine J_astO o2 dL_whyNot_25 (Nat.le_of_ble_eq_true rfl) ?_
      refine J_iconst o2 dL_whyNot_27 ?_
      exact hret _ _ v _ rl3 (by rw [hn]; rfl) (fun _ h9 => absurd h9 h0) dL_whyNot_28
abbrev rm_L_goals : Room := { frames := 7, cells := 1, slots := 6, locals := 177 }
def hh_L_goals : List (Nat × Nat × Nat × Nat) := [(0, 14, 17, 13), (0, 14, 21, 15)]
theorem c_L_goals {E : EE} {O : OO} {l : Launch} (hst : l.stackTraces = false) (hI : Inj TA E) (hA : Ap TA E O.2) {w : World} {v : Nat → Int64} {x1 x2 x3 x4 : Int} (r_x1 : R32 x1) (r_x2 : R32 x2) (r_x3 : R32 x3) (r_x4 : R32 x4) {out : World × Nat × Int} (hf : f_Dm_goals w x1 x2 x3 x4 = some out) (hn : out.2.1 = 0 ∨ out.2.1 = 1 ∨ out.2.1 = 2) : ConO TA E O l yL_goals (WSW yL_goals cL_goals 7 (some .int) hh_L_goals) rm_L_goals [rf E.ad 1, .int (ii x1), .int (ii x2), .int (ii x3), .int (ii x4), .ref O.2] (w, v) out true (hmL 1 2 0) := by
  refine con_O (by decide +kernel) rfl (Nat.le_of_ble_eq_true rfl) (c1s_r (c1s_i (c1s_i (c1s_i (c1s_i (c1s_a c1s_0 (Nat.le_of_ble_eq_true rfl)) (Nat.le_of_ble_eq_true rfl)) (Nat.le_of_ble_eq_true rfl)) (Nat.le_of_ble_eq_true rfl)) (Nat.le_of_ble_eq_true rfl)) (Nat.le_of_ble_eq_true rfl)).1 hI TnA hA ?_
  intro K H0 o g kc hl hret
  subst hl
  refine J_aldO o dL_goals_0 rfl ?_
  refine J_iconst o dL_goals_2 ?_
  refine J_aload_n o dL_goals_3 rfl ?_
  refine J_iload_n o dL_goals_4 rfl ?_
  refine J_iload_n o dL_goals_5 rfl ?_
  refine J_iload_n o dL_goals_6 rfl ?_
  refine J_iload o dL_goals_7 rfl ?_
  refine J_xI (vs := [.int (ii x1), .int (ii x2), .int (ii x3), .int (ii x4)]) o g kc dL_goals_9 mw1258 ml_Dm_goals vl_Dm_goals ⟨rfl, rfl, Nat.le_of_ble_eq_true rfl, Nat.le_of_ble_eq_true rfl⟩ ⟨Nat.le_refl _, Nat.le_refl _⟩ (c_Dm_goals hst g.2.1.1 r_x1 r_x2 r_x3 r_x4 hf) kA_1 rfl ⟨by decide, by decide⟩ rfl rfl (c1s_i (c1s_a c1s_0 (Nat.le_of_ble_eq_true rfl)) (Nat.le_of_ble_eq_true rfl)) (fun h0 hr => ?_) (fun h0 => ?_)
  · have o2 := OkO.add (a' := 1) (b' := 6) o
    have g2 := GdO.add (a' := 1) (b' := 6) g
    refine J_i2l o2 dL_goals_12 hr (fun u hu => ?_)
    refine J_last o2 g2 dL_goals_13 rfl (fun f hf1 => ?_)
    refine J_goto 25 o2 dL_goals_14 (by decide) ?_
    refine J_iconst o2 dL_goals_25 ?_
    exact hret _ _ _ _ rl0 (by rw [h0]; rfl) (fun _ _ => by rw [hf1]; exact hu) dL_goals_26
  · have o2 := OkO.add (a' := 1) (b' := 6) o
    have g2 := GdO.add (a' := 1) (b' := 6) g
    rcases hn with hn | hn | hn
    · exact absurd hn h0
    · rw [hn]
      refine J_catch o2 g2 [] (0, 14, 17, 13) [(0, 14, 21, 15)] rfl (Or.inl rfl) (fun _ h => absurd h List.not_mem_nil) ⟨by decide, by decide⟩ (by decide) lxc1 (fun q => ?_)
      refine J_astO o2 dL_goals_17 (Nat.le_of_ble_eq_true rfl) ?_
      refine J_iconst o2 dL_goals_19 ?_
      exact hret _ _ v _ rl1 (by rw [hn]; rfl) (fun _ h9 => absurd h9 h0) dL_goals_20
    · rw [hn]
      refine J_catch o2 g2 [(0, 14, 17, 13)] (0, 14, 21, 15) [] rfl (Or.inr (Or.inl rfl)) (by
        intro z hz
        simp only [List.mem_cons, List.not_mem_nil, or_false] at hz
        rcases hz with rfl
        · exact ⟨by decide, 1, Or.inl rfl, by decide, lxc1⟩) ⟨by decide, by decide⟩ (by decide) lxc2 (fun q => ?_)
      refine J_astO o2 dL_goals_21 (Nat.le_of_ble_eq_true rfl) ?_
      refine J_iconst o2 dL_goals_23 ?_
      exact hret _ _ v _ rl2 (by rw [hn]; rfl) (fun _ h9 => absurd h9 h0) dL_goals_24
abbrev rm_L_order : Room := { frames := 7, cells := 1, slots := 6, locals := 126 }
def hh_L_order : List (Nat × Nat × Nat × Nat) := [(0, 10, 13, 13)]
theorem c_L_order {E : EE} {O : OO} {l : Launch} (hst : l.stackTraces = false) (hI : Inj TA E) (hA : Ap TA E O.2) {w : World} {v : Nat → Int64} {x1 x2 : Int} (r_x1 : R32 x1) (r_x2 : R32 x2) {out : World × Nat × Int} (hf : f_Dm_order w x1 x2 = some out) (hn : out.2.1 = 0 ∨ out.2.1 = 1) : ConO TA E O l yL_order (WSW yL_order cL_order 5 (some .int) hh_L_order) rm_L_order [rf E.ad 1, .int (ii x1), .int (ii x2), .ref O.2] (w, v) out true (hmL 1 0 0) := by
  refine con_O (by decide +kernel) rfl (Nat.le_of_ble_eq_true rfl) (c1s_r (c1s_i (c1s_i (c1s_a c1s_0 (Nat.le_of_ble_eq_true rfl)) (Nat.le_of_ble_eq_true rfl)) (Nat.le_of_ble_eq_true rfl)) (Nat.le_of_ble_eq_true rfl)).1 hI TnA hA ?_
  intro K H0 o g kc hl hret
  subst hl
  refine J_aldO_n o dL_order_0 rfl ?_
  refine J_iconst o dL_order_1 ?_
  refine J_aload_n o dL_order_2 rfl ?_
  refine J_iload_n o dL_order_3 rfl ?_
  refine J_iload_n o dL_order_4 rfl ?_
  refine J_xI (vs := [.int (ii x1), .int (ii x2)]) o g kc dL_order_5 mw1294 ml_Dm_order vl_Dm_order ⟨rfl, rfl, Nat.le_of_ble_eq_true rfl, Nat.le_of_ble_eq_true rfl⟩ ⟨Nat.le_refl _, Nat.le_refl _⟩ (c_Dm_order hst g.2.1.1 r_x1 r_x2 hf) kA_1 rfl ⟨by decide, by decide⟩ rfl rfl (c1s_i (c1s_a c1s_0 (Nat.le_of_ble_eq_true rfl)) (Nat.le_of_ble_eq_true rfl)) (fun h0 hr => ?_) (fun h0 => ?_)
  · have o2 := OkO.add (a' := 1) (b' := 6) o
    have g2 := GdO.add (a' := 1) (b' := 6) g
    refine J_i2l o2 dL_order_8 hr (fun u hu => ?_)
    refine J_last o2 g2 dL_order_9 rfl (fun f hf1 => ?_)
    refine J_goto 17 o2 dL_order_10 (by decide) ?_
    refine J_iconst o2 dL_order_17 ?_
    exact hret _ _ _ _ rl0 (by rw [h0]; rfl) (fun _ _ => by rw [hf1]; exact hu) dL_order_18
  · have o2 := OkO.add (a' := 1) (b' := 6) o
    have g2 := GdO.add (a' := 1) (b' := 6) g
    rcases hn with hn | hn
    · exact absurd hn h0
    · rw [hn]
      refine J_catch o2 g2 [] (0, 10, 13, 13) [] rfl (Or.inl rfl) (fun _ h => absurd h List.not_mem_nil) ⟨by decide, by decide⟩ (by decide) lxc1 (fun q => ?_)
      refine J_astO o2 dL_order_13 (Nat.le_of_ble_eq_true rfl) ?_
      refine J_iconst o2 dL_order_15 ?_
      exact hret _ _ v _ rl1 (by rw [hn]; rfl) (fun _ h9 => absurd h9 h0) dL_order_16
abbrev rm_L_joins : Room := { frames := 7, cells := 1, slots := 6, locals := 124 }
def hh_L_joins : List (Nat × Nat × Nat × Nat) := [(0, 9, 12, 13)]
theorem c_L_joins {E : EE} {O : OO} {l : Launch} (hst : l.stackTraces = false) (hI : Inj TA E) (hA : Ap TA E O.2) {w : World} {v : Nat → Int64} {x1 : Int} (r_x1 : R32 x1) {out : World × Nat × Int} (hf : f_Dm_joins w x1 = some out) (hn : out.2.1 = 0 ∨ out.2.1 = 1) : ConO TA E O l yL_joins (WSW yL_joins cL_joins 4 (some .int) hh_L_joins) rm_L_joins [rf E.ad 1, .int (ii x1), .ref O.2] (w, v) out true (hmL 1 0 0) := by
  refine con_O (by decide +kernel) rfl (Nat.le_of_ble_eq_true rfl) (c1s_r (c1s_i (c1s_a c1s_0 (Nat.le_of_ble_eq_true rfl)) (Nat.le_of_ble_eq_true rfl)) (Nat.le_of_ble_eq_true rfl)).1 hI TnA hA ?_
  intro K H0 o g kc hl hret
  subst hl
  refine J_aldO_n o dL_joins_0 rfl ?_
  refine J_iconst o dL_joins_1 ?_
  refine J_aload_n o dL_joins_2 rfl ?_
  refine J_iload_n o dL_joins_3 rfl ?_
  refine J_xI (vs := [.int (ii x1)]) o g kc dL_joins_4 mw1324 ml_Dm_joins vl_Dm_joins ⟨rfl, rfl, Nat.le_of_ble_eq_true rfl, Nat.le_of_ble_eq_true rfl⟩ ⟨Nat.le_refl _, Nat.le_refl _⟩ (c_Dm_joins hst g.2.1.1 r_x1 hf) kA_1 rfl ⟨by decide, by decide⟩ rfl rfl (c1s_i (c1s_a c1s_0 (Nat.le_of_ble_eq_true rfl)) (Nat.le_of_ble_eq_true rfl)) (fun h0 hr => ?_) (fun h0 => ?_)
  · have o2 := OkO.add (a' := 1) (b' := 6) o
    have g2 := GdO.add (a' := 1) (b' := 6) g
    refine J_i2l o2 dL_joins_7 hr (fun u hu => ?_)
    refine J_last o2 g2 dL_joins_8 rfl (fun f hf1 => ?_)
    refine J_goto 15 o2 dL_joins_9 (by decide) ?_
    refine J_iconst o2 dL_joins_15 ?_
    exact hret _ _ _ _ rl0 (by rw [h0]; rfl) (fun _ _ => by rw [hf1]; exact hu) dL_joins_16
  · have o2 := OkO.add (a' := 1) (b' := 6) o
    have g2 := GdO.add (a' := 1) (b' := 6) g
    rcases hn with hn | hn
    · exact absurd hn h0
    · rw [hn]
      refine J_catch o2 g2 [] (0, 9, 12, 13) [] rfl (Or.inl rfl) (fun _ h => absurd h List.not_mem_nil) ⟨by decide, by decide⟩ (by decide) lxc1 (fun q => ?_)
      refine J_astO_n o2 dL_joins_12 (Nat.le_of_ble_eq_true rfl) ?_
      refine J_iconst o2 dL_joins_13 ?_
      exact hret _ _ v _ rl1 (by rw [hn]; rfl) (fun _ h9 => absurd h9 h0) dL_joins_14
abbrev rm_L_indexes : Room := { frames := 7, cells := 1, slots := 6, locals := 128 }
def hh_L_indexes : List (Nat × Nat × Nat × Nat) := [(0, 9, 12, 13)]
theorem c_L_indexes {E : EE} {O : OO} {l : Launch} (hst : l.stackTraces = false) (hI : Inj TA E) (hA : Ap TA E O.2) {w : World} {v : Nat → Int64} {x1 : Int} (r_x1 : R32 x1) {out : World × Nat × Int} (hf : f_Dm_indexes w x1 = some out) (hn : out.2.1 = 0 ∨ out.2.1 = 1) : ConO TA E O l yL_indexes (WSW yL_indexes cL_indexes 4 (some .int) hh_L_indexes) rm_L_indexes [rf E.ad 1, .int (ii x1), .ref O.2] (w, v) out true (hmL 1 0 0) := by
  refine con_O (by decide +kernel) rfl (Nat.le_of_ble_eq_true rfl) (c1s_r (c1s_i (c1s_a c1s_0 (Nat.le_of_ble_eq_true rfl)) (Nat.le_of_ble_eq_true rfl)) (Nat.le_of_ble_eq_true rfl)).1 hI TnA hA ?_
  intro K H0 o g kc hl hret
  subst hl
  refine J_aldO_n o dL_indexes_0 rfl ?_
  refine J_iconst o dL_indexes_1 ?_
  refine J_aload_n o dL_indexes_2 rfl ?_
  refine J_iload_n o dL_indexes_3 rfl ?_
  refine J_xI (vs := [.int (ii x1)]) o g kc dL_indexes_4 mw1342 ml_Dm_indexes vl_Dm_indexes ⟨rfl, rfl, Nat.le_of_ble_eq_true rfl, Nat.le_of_ble_eq_true rfl⟩ ⟨Nat.le_refl _, Nat.le_refl _⟩ (c_Dm_indexes hst g.2.1.1 r_x1 hf) kA_1 rfl ⟨by decide, by decide⟩ rfl rfl (c1s_i (c1s_a c1s_0 (Nat.le_of_ble_eq_true rfl)) (Nat.le_of_ble_eq_true rfl)) (fun h0 hr => ?_) (fun h0 => ?_)
  · have o2 := OkO.add (a' := 1) (b' := 6) o
    have g2 := GdO.add (a' := 1) (b' := 6) g
    refine J_i2l o2 dL_indexes_7 hr (fun u hu => ?_)
    refine J_last o2 g2 dL_indexes_8 rfl (fun f hf1 => ?_)
    refine J_goto 15 o2 dL_indexes_9 (by decide) ?_
    refine J_iconst o2 dL_indexes_15 ?_
    exact hret _ _ _ _ rl0 (by rw [h0]; rfl) (fun _ _ => by rw [hf1]; exact hu) dL_indexes_16
  · have o2 := OkO.add (a' := 1) (b' := 6) o
    have g2 := GdO.add (a' := 1) (b' := 6) g
    rcases hn with hn | hn
    · exact absurd hn h0
    · rw [hn]
      refine J_catch o2 g2 [] (0, 9, 12, 13) [] rfl (Or.inl rfl) (fun _ h => absurd h List.not_mem_nil) ⟨by decide, by decide⟩ (by decide) lxc1 (fun q => ?_)
      refine J_astO_n o2 dL_indexes_12 (Nat.le_of_ble_eq_true rfl) ?_
      refine J_iconst o2 dL_indexes_13 ?_
      exact hret _ _ v _ rl1 (by rw [hn]; rfl) (fun _ h9 => absurd h9 h0) dL_indexes_14
