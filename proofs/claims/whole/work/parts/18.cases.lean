set_option maxRecDepth 20000 in
theorem mw750 : Cond.methodLink "DatalogmillLaw" (104 : Nat) ({ cls := "DatalogmillLaw", name := "declare", desc := "(LDatalogmill;IIII)I" } : MethodName) ∈ GW := inGW (List.mem_of_getElem? (i := 750) (by rfl)) (by decide +kernel)
set_option maxRecDepth 20000 in
theorem mw752 : Cond.codeWith yL_declare cL_declare 6 (some .int) hh_L_declare ∈ GW := inGW (List.mem_of_getElem? (i := 752) (by rfl)) (by decide +kernel)
set_option maxRecDepth 20000 in
theorem mw751 : Cond.static ({ cls := "DatalogmillLaw", name := "declare", desc := "(LDatalogmill;IIII)I" } : MethodName) ∈ GW := inGW (List.mem_of_getElem? (i := 751) (by rfl)) (by decide +kernel)
set_option maxRecDepth 20000 in
theorem mw162 : Cond.initialized "DatalogmillLaw" ∈ GW := inGW (List.mem_of_getElem? (i := 162) (by rfl)) (by decide +kernel)
set_option maxRecDepth 20000 in
theorem mw1483 : Cond.methodLink "DatalogmillLaw" (109 : Nat) ({ cls := "DatalogmillModel", name := "declare", desc := "(IIII)V" } : MethodName) ∈ GW := inGW (List.mem_of_getElem? (i := 1483) (by rfl)) (by decide +kernel)
theorem lkL_109 : LK "DatalogmillLaw" 109 yX11_declare := Or.inl mw1483
set_option maxRecDepth 20000 in
theorem mw1486 : Cond.code yX11_declare cX11_declare 7 none ∈ GW := inGW (List.mem_of_getElem? (i := 1486) (by rfl)) (by decide +kernel)
theorem ml_Re_declare : ML yX11_declare cX11_declare 7 none 4 := ⟨mw1486, mw174, by decide +kernel, by decide +kernel, by decide +kernel⟩
set_option maxRecDepth 20000 in
theorem mw1484 : Cond.instanceMethod ({ cls := "DatalogmillModel", name := "declare", desc := "(IIII)V" } : MethodName) ∈ GW := inGW (List.mem_of_getElem? (i := 1484) (by rfl)) (by decide +kernel)
set_option maxRecDepth 20000 in
theorem mw1485 : Cond.selects "DatalogmillModel" ({ cls := "DatalogmillModel", name := "declare", desc := "(IIII)V" } : MethodName) ({ cls := "DatalogmillModel", name := "declare", desc := "(IIII)V" } : MethodName) ∈ GW := inGW (List.mem_of_getElem? (i := 1485) (by rfl)) (by decide +kernel)
theorem vl_Re_declare : VL yX11_declare := ⟨mw1484, mw1485⟩
set_option maxRecDepth 20000 in
theorem mw1479 : Cond.methodLink "DatalogmillLaw" (110 : Nat) ({ cls := "DatalogmillModel", name := "thrown", desc := "()I" } : MethodName) ∈ GW := inGW (List.mem_of_getElem? (i := 1479) (by rfl)) (by decide +kernel)
theorem lkL_110 : LK "DatalogmillLaw" 110 yX11_thrown := Or.inl mw1479
set_option maxRecDepth 20000 in
theorem mw1482 : Cond.code yX11_thrown cX11_thrown 1 (some .int) ∈ GW := inGW (List.mem_of_getElem? (i := 1482) (by rfl)) (by decide +kernel)
theorem ml_Re_thrown : ML yX11_thrown cX11_thrown 1 (some .int) 0 := ⟨mw1482, mw174, by decide +kernel, by decide +kernel, by decide +kernel⟩
set_option maxRecDepth 20000 in
theorem mw1480 : Cond.instanceMethod ({ cls := "DatalogmillModel", name := "thrown", desc := "()I" } : MethodName) ∈ GW := inGW (List.mem_of_getElem? (i := 1480) (by rfl)) (by decide +kernel)
set_option maxRecDepth 20000 in
theorem mw1481 : Cond.selects "DatalogmillModel" ({ cls := "DatalogmillModel", name := "thrown", desc := "()I" } : MethodName) ({ cls := "DatalogmillModel", name := "thrown", desc := "()I" } : MethodName) ∈ GW := inGW (List.mem_of_getElem? (i := 1481) (by rfl)) (by decide +kernel)
theorem vl_Re_thrown : VL yX11_thrown := ⟨mw1480, mw1481⟩
set_option maxRecDepth 20000 in
theorem mw872 : Cond.methodLink "DatalogmillLaw" (113 : Nat) ({ cls := "DatalogmillLaw", name := "fact", desc := "(LDatalogmill;IIIIIII[J)I" } : MethodName) ∈ GW := inGW (List.mem_of_getElem? (i := 872) (by rfl)) (by decide +kernel)
set_option maxRecDepth 20000 in
theorem mw874 : Cond.codeWith yL_fact cL_fact 10 (some .int) hh_L_fact ∈ GW := inGW (List.mem_of_getElem? (i := 874) (by rfl)) (by decide +kernel)
set_option maxRecDepth 20000 in
theorem mw873 : Cond.static ({ cls := "DatalogmillLaw", name := "fact", desc := "(LDatalogmill;IIIIIII[J)I" } : MethodName) ∈ GW := inGW (List.mem_of_getElem? (i := 873) (by rfl)) (by decide +kernel)
set_option maxRecDepth 20000 in
theorem mw1494 : Cond.methodLink "DatalogmillLaw" (116 : Nat) ({ cls := "DatalogmillModel", name := "fact", desc := "(IIIIIII)I" } : MethodName) ∈ GW := inGW (List.mem_of_getElem? (i := 1494) (by rfl)) (by decide +kernel)
theorem lkL_116 : LK "DatalogmillLaw" 116 yX11_fact := Or.inl mw1494
set_option maxRecDepth 20000 in
theorem mw1497 : Cond.code yX11_fact cX11_fact 9 (some .int) ∈ GW := inGW (List.mem_of_getElem? (i := 1497) (by rfl)) (by decide +kernel)
theorem ml_Re_fact : ML yX11_fact cX11_fact 9 (some .int) 7 := ⟨mw1497, mw174, by decide +kernel, by decide +kernel, by decide +kernel⟩
set_option maxRecDepth 20000 in
theorem mw1495 : Cond.instanceMethod ({ cls := "DatalogmillModel", name := "fact", desc := "(IIIIIII)I" } : MethodName) ∈ GW := inGW (List.mem_of_getElem? (i := 1495) (by rfl)) (by decide +kernel)
set_option maxRecDepth 20000 in
theorem mw1496 : Cond.selects "DatalogmillModel" ({ cls := "DatalogmillModel", name := "fact", desc := "(IIIIIII)I" } : MethodName) ({ cls := "DatalogmillModel", name := "fact", desc := "(IIIIIII)I" } : MethodName) ∈ GW := inGW (List.mem_of_getElem? (i := 1496) (by rfl)) (by decide +kernel)
theorem vl_Re_fact : VL yX11_fact := ⟨mw1495, mw1496⟩
set_option maxRecDepth 20000 in
theorem mw915 : Cond.methodLink "DatalogmillLaw" (117 : Nat) ({ cls := "DatalogmillLaw", name := "drop", desc := "(LDatalogmill;I[J)I" } : MethodName) ∈ GW := inGW (List.mem_of_getElem? (i := 915) (by rfl)) (by decide +kernel)
set_option maxRecDepth 20000 in
theorem mw917 : Cond.codeWith yL_drop cL_drop 4 (some .int) hh_L_drop ∈ GW := inGW (List.mem_of_getElem? (i := 917) (by rfl)) (by decide +kernel)
set_option maxRecDepth 20000 in
theorem mw916 : Cond.static ({ cls := "DatalogmillLaw", name := "drop", desc := "(LDatalogmill;I[J)I" } : MethodName) ∈ GW := inGW (List.mem_of_getElem? (i := 916) (by rfl)) (by decide +kernel)
set_option maxRecDepth 20000 in
theorem mw1580 : Cond.methodLink "DatalogmillLaw" (120 : Nat) ({ cls := "DatalogmillModel", name := "drop", desc := "(I)I" } : MethodName) ∈ GW := inGW (List.mem_of_getElem? (i := 1580) (by rfl)) (by decide +kernel)
theorem lkL_120 : LK "DatalogmillLaw" 120 yX11_drop := Or.inl mw1580
set_option maxRecDepth 20000 in
theorem mw1583 : Cond.code yX11_drop cX11_drop 5 (some .int) ∈ GW := inGW (List.mem_of_getElem? (i := 1583) (by rfl)) (by decide +kernel)
theorem ml_Re_drop : ML yX11_drop cX11_drop 5 (some .int) 1 := ⟨mw1583, mw174, by decide +kernel, by decide +kernel, by decide +kernel⟩
set_option maxRecDepth 20000 in
theorem mw1581 : Cond.instanceMethod ({ cls := "DatalogmillModel", name := "drop", desc := "(I)I" } : MethodName) ∈ GW := inGW (List.mem_of_getElem? (i := 1581) (by rfl)) (by decide +kernel)
set_option maxRecDepth 20000 in
theorem mw1582 : Cond.selects "DatalogmillModel" ({ cls := "DatalogmillModel", name := "drop", desc := "(I)I" } : MethodName) ({ cls := "DatalogmillModel", name := "drop", desc := "(I)I" } : MethodName) ∈ GW := inGW (List.mem_of_getElem? (i := 1582) (by rfl)) (by decide +kernel)
theorem vl_Re_drop : VL yX11_drop := ⟨mw1581, mw1582⟩
set_option maxRecDepth 20000 in
theorem mw940 : Cond.methodLink "DatalogmillLaw" (121 : Nat) ({ cls := "DatalogmillLaw", name := "pass", desc := "(LDatalogmill;[J)I" } : MethodName) ∈ GW := inGW (List.mem_of_getElem? (i := 940) (by rfl)) (by decide +kernel)
set_option maxRecDepth 20000 in
theorem mw942 : Cond.codeWith yL_pass cL_pass 3 (some .int) hh_L_pass ∈ GW := inGW (List.mem_of_getElem? (i := 942) (by rfl)) (by decide +kernel)
set_option maxRecDepth 20000 in
theorem mw941 : Cond.static ({ cls := "DatalogmillLaw", name := "pass", desc := "(LDatalogmill;[J)I" } : MethodName) ∈ GW := inGW (List.mem_of_getElem? (i := 941) (by rfl)) (by decide +kernel)
set_option maxRecDepth 20000 in
theorem mw1584 : Cond.methodLink "DatalogmillLaw" (124 : Nat) ({ cls := "DatalogmillModel", name := "pass", desc := "()I" } : MethodName) ∈ GW := inGW (List.mem_of_getElem? (i := 1584) (by rfl)) (by decide +kernel)
theorem lkL_124 : LK "DatalogmillLaw" 124 yX11_pass := Or.inl mw1584
set_option maxRecDepth 20000 in
theorem mw1587 : Cond.code yX11_pass cX11_pass 1 (some .int) ∈ GW := inGW (List.mem_of_getElem? (i := 1587) (by rfl)) (by decide +kernel)
theorem ml_Re_pass : ML yX11_pass cX11_pass 1 (some .int) 0 := ⟨mw1587, mw174, by decide +kernel, by decide +kernel, by decide +kernel⟩
set_option maxRecDepth 20000 in
theorem mw1585 : Cond.instanceMethod ({ cls := "DatalogmillModel", name := "pass", desc := "()I" } : MethodName) ∈ GW := inGW (List.mem_of_getElem? (i := 1585) (by rfl)) (by decide +kernel)
set_option maxRecDepth 20000 in
theorem mw1586 : Cond.selects "DatalogmillModel" ({ cls := "DatalogmillModel", name := "pass", desc := "()I" } : MethodName) ({ cls := "DatalogmillModel", name := "pass", desc := "()I" } : MethodName) ∈ GW := inGW (List.mem_of_getElem? (i := 1586) (by rfl)) (by decide +kernel)
theorem vl_Re_pass : VL yX11_pass := ⟨mw1585, mw1586⟩
set_option maxRecDepth 20000 in
theorem mw948 : Cond.methodLink "DatalogmillLaw" (125 : Nat) ({ cls := "DatalogmillLaw", name := "head", desc := "(LDatalogmill;IIII)I" } : MethodName) ∈ GW := inGW (List.mem_of_getElem? (i := 948) (by rfl)) (by decide +kernel)
set_option maxRecDepth 20000 in
theorem mw950 : Cond.codeWith yL_head cL_head 6 (some .int) hh_L_head ∈ GW := inGW (List.mem_of_getElem? (i := 950) (by rfl)) (by decide +kernel)
set_option maxRecDepth 20000 in
theorem mw949 : Cond.static ({ cls := "DatalogmillLaw", name := "head", desc := "(LDatalogmill;IIII)I" } : MethodName) ∈ GW := inGW (List.mem_of_getElem? (i := 949) (by rfl)) (by decide +kernel)
set_option maxRecDepth 20000 in
theorem mw1588 : Cond.methodLink "DatalogmillLaw" (127 : Nat) ({ cls := "DatalogmillModel", name := "head", desc := "(IIII)V" } : MethodName) ∈ GW := inGW (List.mem_of_getElem? (i := 1588) (by rfl)) (by decide +kernel)
theorem lkL_127 : LK "DatalogmillLaw" 127 yX11_head := Or.inl mw1588
set_option maxRecDepth 20000 in
theorem mw1591 : Cond.code yX11_head cX11_head 5 none ∈ GW := inGW (List.mem_of_getElem? (i := 1591) (by rfl)) (by decide +kernel)
theorem ml_Re_head : ML yX11_head cX11_head 5 none 4 := ⟨mw1591, mw174, by decide +kernel, by decide +kernel, by decide +kernel⟩
set_option maxRecDepth 20000 in
theorem mw1589 : Cond.instanceMethod ({ cls := "DatalogmillModel", name := "head", desc := "(IIII)V" } : MethodName) ∈ GW := inGW (List.mem_of_getElem? (i := 1589) (by rfl)) (by decide +kernel)
set_option maxRecDepth 20000 in
theorem mw1590 : Cond.selects "DatalogmillModel" ({ cls := "DatalogmillModel", name := "head", desc := "(IIII)V" } : MethodName) ({ cls := "DatalogmillModel", name := "head", desc := "(IIII)V" } : MethodName) ∈ GW := inGW (List.mem_of_getElem? (i := 1590) (by rfl)) (by decide +kernel)
theorem vl_Re_head : VL yX11_head := ⟨mw1589, mw1590⟩
set_option maxRecDepth 20000 in
theorem mw957 : Cond.methodLink "DatalogmillLaw" (128 : Nat) ({ cls := "DatalogmillLaw", name := "atom", desc := "(LDatalogmill;IZIII[J)I" } : MethodName) ∈ GW := inGW (List.mem_of_getElem? (i := 957) (by rfl)) (by decide +kernel)
set_option maxRecDepth 20000 in
theorem mw959 : Cond.codeWith yL_atom cL_atom 8 (some .int) hh_L_atom ∈ GW := inGW (List.mem_of_getElem? (i := 959) (by rfl)) (by decide +kernel)
set_option maxRecDepth 20000 in
theorem mw958 : Cond.static ({ cls := "DatalogmillLaw", name := "atom", desc := "(LDatalogmill;IZIII[J)I" } : MethodName) ∈ GW := inGW (List.mem_of_getElem? (i := 958) (by rfl)) (by decide +kernel)
set_option maxRecDepth 20000 in
theorem mw1600 : Cond.methodLink "DatalogmillLaw" (131 : Nat) ({ cls := "DatalogmillModel", name := "atom", desc := "(IZIII)I" } : MethodName) ∈ GW := inGW (List.mem_of_getElem? (i := 1600) (by rfl)) (by decide +kernel)
theorem lkL_131 : LK "DatalogmillLaw" 131 yX11_atom := Or.inl mw1600
set_option maxRecDepth 20000 in
theorem mw1603 : Cond.code yX11_atom cX11_atom 8 (some .int) ∈ GW := inGW (List.mem_of_getElem? (i := 1603) (by rfl)) (by decide +kernel)
theorem ml_Re_atom : ML yX11_atom cX11_atom 8 (some .int) 5 := ⟨mw1603, mw174, by decide +kernel, by decide +kernel, by decide +kernel⟩
set_option maxRecDepth 20000 in
theorem mw1601 : Cond.instanceMethod ({ cls := "DatalogmillModel", name := "atom", desc := "(IZIII)I" } : MethodName) ∈ GW := inGW (List.mem_of_getElem? (i := 1601) (by rfl)) (by decide +kernel)
set_option maxRecDepth 20000 in
theorem mw1602 : Cond.selects "DatalogmillModel" ({ cls := "DatalogmillModel", name := "atom", desc := "(IZIII)I" } : MethodName) ({ cls := "DatalogmillModel", name := "atom", desc := "(IZIII)I" } : MethodName) ∈ GW := inGW (List.mem_of_getElem? (i := 1602) (by rfl)) (by decide +kernel)
theorem vl_Re_atom : VL yX11_atom := ⟨mw1601, mw1602⟩
set_option maxRecDepth 20000 in
theorem mw974 : Cond.methodLink "DatalogmillLaw" (132 : Nat) ({ cls := "DatalogmillLaw", name := "compare", desc := "(LDatalogmill;III[J)I" } : MethodName) ∈ GW := inGW (List.mem_of_getElem? (i := 974) (by rfl)) (by decide +kernel)
set_option maxRecDepth 20000 in
theorem mw976 : Cond.codeWith yL_compare cL_compare 6 (some .int) hh_L_compare ∈ GW := inGW (List.mem_of_getElem? (i := 976) (by rfl)) (by decide +kernel)
set_option maxRecDepth 20000 in
theorem mw975 : Cond.static ({ cls := "DatalogmillLaw", name := "compare", desc := "(LDatalogmill;III[J)I" } : MethodName) ∈ GW := inGW (List.mem_of_getElem? (i := 975) (by rfl)) (by decide +kernel)
set_option maxRecDepth 20000 in
theorem mw1612 : Cond.methodLink "DatalogmillLaw" (135 : Nat) ({ cls := "DatalogmillModel", name := "compare", desc := "(III)I" } : MethodName) ∈ GW := inGW (List.mem_of_getElem? (i := 1612) (by rfl)) (by decide +kernel)
theorem lkL_135 : LK "DatalogmillLaw" 135 yX11_compare := Or.inl mw1612
set_option maxRecDepth 20000 in
theorem mw1615 : Cond.code yX11_compare cX11_compare 5 (some .int) ∈ GW := inGW (List.mem_of_getElem? (i := 1615) (by rfl)) (by decide +kernel)
theorem ml_Re_compare : ML yX11_compare cX11_compare 5 (some .int) 3 := ⟨mw1615, mw174, by decide +kernel, by decide +kernel, by decide +kernel⟩
set_option maxRecDepth 20000 in
theorem mw1613 : Cond.instanceMethod ({ cls := "DatalogmillModel", name := "compare", desc := "(III)I" } : MethodName) ∈ GW := inGW (List.mem_of_getElem? (i := 1613) (by rfl)) (by decide +kernel)
set_option maxRecDepth 20000 in
theorem mw1614 : Cond.selects "DatalogmillModel" ({ cls := "DatalogmillModel", name := "compare", desc := "(III)I" } : MethodName) ({ cls := "DatalogmillModel", name := "compare", desc := "(III)I" } : MethodName) ∈ GW := inGW (List.mem_of_getElem? (i := 1614) (by rfl)) (by decide +kernel)
theorem vl_Re_compare : VL yX11_compare := ⟨mw1613, mw1614⟩
set_option maxRecDepth 20000 in
theorem mw983 : Cond.methodLink "DatalogmillLaw" (136 : Nat) ({ cls := "DatalogmillLaw", name := "add", desc := "(LDatalogmill;III[J)I" } : MethodName) ∈ GW := inGW (List.mem_of_getElem? (i := 983) (by rfl)) (by decide +kernel)
set_option maxRecDepth 20000 in
theorem mw985 : Cond.codeWith yL_add cL_add 6 (some .int) hh_L_add ∈ GW := inGW (List.mem_of_getElem? (i := 985) (by rfl)) (by decide +kernel)
set_option maxRecDepth 20000 in
theorem mw984 : Cond.static ({ cls := "DatalogmillLaw", name := "add", desc := "(LDatalogmill;III[J)I" } : MethodName) ∈ GW := inGW (List.mem_of_getElem? (i := 984) (by rfl)) (by decide +kernel)
set_option maxRecDepth 20000 in
theorem mw1619 : Cond.methodLink "DatalogmillLaw" (138 : Nat) ({ cls := "DatalogmillModel", name := "add", desc := "(III)I" } : MethodName) ∈ GW := inGW (List.mem_of_getElem? (i := 1619) (by rfl)) (by decide +kernel)
theorem lkL_138 : LK "DatalogmillLaw" 138 yX11_add := Or.inl mw1619
set_option maxRecDepth 20000 in
theorem mw1622 : Cond.code yX11_add cX11_add 5 (some .int) ∈ GW := inGW (List.mem_of_getElem? (i := 1622) (by rfl)) (by decide +kernel)
theorem ml_Re_add : ML yX11_add cX11_add 5 (some .int) 3 := ⟨mw1622, mw174, by decide +kernel, by decide +kernel, by decide +kernel⟩
set_option maxRecDepth 20000 in
theorem mw1620 : Cond.instanceMethod ({ cls := "DatalogmillModel", name := "add", desc := "(III)I" } : MethodName) ∈ GW := inGW (List.mem_of_getElem? (i := 1620) (by rfl)) (by decide +kernel)
set_option maxRecDepth 20000 in
theorem mw1621 : Cond.selects "DatalogmillModel" ({ cls := "DatalogmillModel", name := "add", desc := "(III)I" } : MethodName) ({ cls := "DatalogmillModel", name := "add", desc := "(III)I" } : MethodName) ∈ GW := inGW (List.mem_of_getElem? (i := 1621) (by rfl)) (by decide +kernel)
theorem vl_Re_add : VL yX11_add := ⟨mw1620, mw1621⟩
set_option maxRecDepth 20000 in
theorem mw493 : Cond.methodLink "DatalogmillLaw" (139 : Nat) ({ cls := "Datalogmill", name := "clear", desc := "()I" } : MethodName) ∈ GW := inGW (List.mem_of_getElem? (i := 493) (by rfl)) (by decide +kernel)
theorem lkL_139 : LK "DatalogmillLaw" 139 yX10_clear := Or.inl mw493
set_option maxRecDepth 20000 in
theorem mw496 : Cond.code yX10_clear cX10_clear 2 (some .int) ∈ GW := inGW (List.mem_of_getElem? (i := 496) (by rfl)) (by decide +kernel)
theorem ml_Dm_clear : ML yX10_clear cX10_clear 2 (some .int) 0 := ⟨mw496, mw163, by decide +kernel, by decide +kernel, by decide +kernel⟩
set_option maxRecDepth 20000 in
theorem mw494 : Cond.instanceMethod ({ cls := "Datalogmill", name := "clear", desc := "()I" } : MethodName) ∈ GW := inGW (List.mem_of_getElem? (i := 494) (by rfl)) (by decide +kernel)
set_option maxRecDepth 20000 in
theorem mw495 : Cond.selects "Datalogmill" ({ cls := "Datalogmill", name := "clear", desc := "()I" } : MethodName) ({ cls := "Datalogmill", name := "clear", desc := "()I" } : MethodName) ∈ GW := inGW (List.mem_of_getElem? (i := 495) (by rfl)) (by decide +kernel)
theorem vl_Dm_clear : VL yX10_clear := ⟨mw494, mw495⟩
set_option maxRecDepth 20000 in
theorem mw1623 : Cond.methodLink "DatalogmillLaw" (142 : Nat) ({ cls := "DatalogmillModel", name := "clear", desc := "()I" } : MethodName) ∈ GW := inGW (List.mem_of_getElem? (i := 1623) (by rfl)) (by decide +kernel)
theorem lkL_142 : LK "DatalogmillLaw" 142 yX11_clear := Or.inl mw1623
set_option maxRecDepth 20000 in
theorem mw1626 : Cond.code yX11_clear cX11_clear 2 (some .int) ∈ GW := inGW (List.mem_of_getElem? (i := 1626) (by rfl)) (by decide +kernel)
theorem ml_Re_clear : ML yX11_clear cX11_clear 2 (some .int) 0 := ⟨mw1626, mw174, by decide +kernel, by decide +kernel, by decide +kernel⟩
set_option maxRecDepth 20000 in
theorem mw1624 : Cond.instanceMethod ({ cls := "DatalogmillModel", name := "clear", desc := "()I" } : MethodName) ∈ GW := inGW (List.mem_of_getElem? (i := 1624) (by rfl)) (by decide +kernel)
set_option maxRecDepth 20000 in
theorem mw1625 : Cond.selects "DatalogmillModel" ({ cls := "DatalogmillModel", name := "clear", desc := "()I" } : MethodName) ({ cls := "DatalogmillModel", name := "clear", desc := "()I" } : MethodName) ∈ GW := inGW (List.mem_of_getElem? (i := 1625) (by rfl)) (by decide +kernel)
theorem vl_Re_clear : VL yX11_clear := ⟨mw1624, mw1625⟩
set_option maxRecDepth 20000 in
theorem mw990 : Cond.methodLink "DatalogmillLaw" (143 : Nat) ({ cls := "DatalogmillLaw", name := "enter", desc := "(LDatalogmill;[J)I" } : MethodName) ∈ GW := inGW (List.mem_of_getElem? (i := 990) (by rfl)) (by decide +kernel)
set_option maxRecDepth 20000 in
theorem mw992 : Cond.codeWith yL_enter cL_enter 3 (some .int) hh_L_enter ∈ GW := inGW (List.mem_of_getElem? (i := 992) (by rfl)) (by decide +kernel)
set_option maxRecDepth 20000 in
theorem mw991 : Cond.static ({ cls := "DatalogmillLaw", name := "enter", desc := "(LDatalogmill;[J)I" } : MethodName) ∈ GW := inGW (List.mem_of_getElem? (i := 991) (by rfl)) (by decide +kernel)
set_option maxRecDepth 20000 in
theorem mw1631 : Cond.methodLink "DatalogmillLaw" (145 : Nat) ({ cls := "DatalogmillModel", name := "enter", desc := "()I" } : MethodName) ∈ GW := inGW (List.mem_of_getElem? (i := 1631) (by rfl)) (by decide +kernel)
theorem lkL_145 : LK "DatalogmillLaw" 145 yX11_enter := Or.inl mw1631
set_option maxRecDepth 20000 in
theorem mw1634 : Cond.code yX11_enter cX11_enter 2 (some .int) ∈ GW := inGW (List.mem_of_getElem? (i := 1634) (by rfl)) (by decide +kernel)
theorem ml_Re_enter : ML yX11_enter cX11_enter 2 (some .int) 0 := ⟨mw1634, mw174, by decide +kernel, by decide +kernel, by decide +kernel⟩
set_option maxRecDepth 20000 in
theorem mw1632 : Cond.instanceMethod ({ cls := "DatalogmillModel", name := "enter", desc := "()I" } : MethodName) ∈ GW := inGW (List.mem_of_getElem? (i := 1632) (by rfl)) (by decide +kernel)
set_option maxRecDepth 20000 in
theorem mw1633 : Cond.selects "DatalogmillModel" ({ cls := "DatalogmillModel", name := "enter", desc := "()I" } : MethodName) ({ cls := "DatalogmillModel", name := "enter", desc := "()I" } : MethodName) ∈ GW := inGW (List.mem_of_getElem? (i := 1633) (by rfl)) (by decide +kernel)
theorem vl_Re_enter : VL yX11_enter := ⟨mw1632, mw1633⟩
set_option maxRecDepth 20000 in
theorem mw1066 : Cond.methodLink "DatalogmillLaw" (146 : Nat) ({ cls := "DatalogmillLaw", name := "deny", desc := "(LDatalogmill;[J)I" } : MethodName) ∈ GW := inGW (List.mem_of_getElem? (i := 1066) (by rfl)) (by decide +kernel)
set_option maxRecDepth 20000 in
theorem mw1068 : Cond.codeWith yL_deny cL_deny 3 (some .int) hh_L_deny ∈ GW := inGW (List.mem_of_getElem? (i := 1068) (by rfl)) (by decide +kernel)
set_option maxRecDepth 20000 in
theorem mw1067 : Cond.static ({ cls := "DatalogmillLaw", name := "deny", desc := "(LDatalogmill;[J)I" } : MethodName) ∈ GW := inGW (List.mem_of_getElem? (i := 1067) (by rfl)) (by decide +kernel)
set_option maxRecDepth 20000 in
theorem mw1667 : Cond.methodLink "DatalogmillLaw" (148 : Nat) ({ cls := "DatalogmillModel", name := "deny", desc := "()I" } : MethodName) ∈ GW := inGW (List.mem_of_getElem? (i := 1667) (by rfl)) (by decide +kernel)
theorem lkL_148 : LK "DatalogmillLaw" 148 yX11_deny := Or.inl mw1667
set_option maxRecDepth 20000 in
theorem mw1670 : Cond.code yX11_deny cX11_deny 2 (some .int) ∈ GW := inGW (List.mem_of_getElem? (i := 1670) (by rfl)) (by decide +kernel)
theorem ml_Re_deny : ML yX11_deny cX11_deny 2 (some .int) 0 := ⟨mw1670, mw174, by decide +kernel, by decide +kernel, by decide +kernel⟩
set_option maxRecDepth 20000 in
theorem mw1668 : Cond.instanceMethod ({ cls := "DatalogmillModel", name := "deny", desc := "()I" } : MethodName) ∈ GW := inGW (List.mem_of_getElem? (i := 1668) (by rfl)) (by decide +kernel)
set_option maxRecDepth 20000 in
theorem mw1669 : Cond.selects "DatalogmillModel" ({ cls := "DatalogmillModel", name := "deny", desc := "()I" } : MethodName) ({ cls := "DatalogmillModel", name := "deny", desc := "()I" } : MethodName) ∈ GW := inGW (List.mem_of_getElem? (i := 1669) (by rfl)) (by decide +kernel)
theorem vl_Re_deny : VL yX11_deny := ⟨mw1668, mw1669⟩
set_option maxRecDepth 20000 in
theorem mw1081 : Cond.methodLink "DatalogmillLaw" (149 : Nat) ({ cls := "DatalogmillLaw", name := "remove", desc := "(LDatalogmill;I[J)I" } : MethodName) ∈ GW := inGW (List.mem_of_getElem? (i := 1081) (by rfl)) (by decide +kernel)
set_option maxRecDepth 20000 in
theorem mw1083 : Cond.codeWith yL_remove cL_remove 4 (some .int) hh_L_remove ∈ GW := inGW (List.mem_of_getElem? (i := 1083) (by rfl)) (by decide +kernel)
set_option maxRecDepth 20000 in
theorem mw1082 : Cond.static ({ cls := "DatalogmillLaw", name := "remove", desc := "(LDatalogmill;I[J)I" } : MethodName) ∈ GW := inGW (List.mem_of_getElem? (i := 1082) (by rfl)) (by decide +kernel)
set_option maxRecDepth 20000 in
theorem mw1671 : Cond.methodLink "DatalogmillLaw" (151 : Nat) ({ cls := "DatalogmillModel", name := "remove", desc := "(I)I" } : MethodName) ∈ GW := inGW (List.mem_of_getElem? (i := 1671) (by rfl)) (by decide +kernel)
theorem lkL_151 : LK "DatalogmillLaw" 151 yX11_remove := Or.inl mw1671
set_option maxRecDepth 20000 in
theorem mw1674 : Cond.code yX11_remove cX11_remove 5 (some .int) ∈ GW := inGW (List.mem_of_getElem? (i := 1674) (by rfl)) (by decide +kernel)
theorem ml_Re_remove : ML yX11_remove cX11_remove 5 (some .int) 1 := ⟨mw1674, mw174, by decide +kernel, by decide +kernel, by decide +kernel⟩
set_option maxRecDepth 20000 in
theorem mw1672 : Cond.instanceMethod ({ cls := "DatalogmillModel", name := "remove", desc := "(I)I" } : MethodName) ∈ GW := inGW (List.mem_of_getElem? (i := 1672) (by rfl)) (by decide +kernel)
set_option maxRecDepth 20000 in
theorem mw1673 : Cond.selects "DatalogmillModel" ({ cls := "DatalogmillModel", name := "remove", desc := "(I)I" } : MethodName) ({ cls := "DatalogmillModel", name := "remove", desc := "(I)I" } : MethodName) ∈ GW := inGW (List.mem_of_getElem? (i := 1673) (by rfl)) (by decide +kernel)
theorem vl_Re_remove : VL yX11_remove := ⟨mw1672, mw1673⟩
set_option maxRecDepth 20000 in
theorem mw1099 : Cond.methodLink "DatalogmillLaw" (152 : Nat) ({ cls := "DatalogmillLaw", name := "holds", desc := "(LDatalogmill;IIII[J)I" } : MethodName) ∈ GW := inGW (List.mem_of_getElem? (i := 1099) (by rfl)) (by decide +kernel)
set_option maxRecDepth 20000 in
theorem mw1101 : Cond.codeWith yL_holds cL_holds 7 (some .int) hh_L_holds ∈ GW := inGW (List.mem_of_getElem? (i := 1101) (by rfl)) (by decide +kernel)
set_option maxRecDepth 20000 in
theorem mw1100 : Cond.static ({ cls := "DatalogmillLaw", name := "holds", desc := "(LDatalogmill;IIII[J)I" } : MethodName) ∈ GW := inGW (List.mem_of_getElem? (i := 1100) (by rfl)) (by decide +kernel)
set_option maxRecDepth 20000 in
theorem mw1675 : Cond.methodLink "DatalogmillLaw" (155 : Nat) ({ cls := "DatalogmillModel", name := "holds", desc := "(IIII)Z" } : MethodName) ∈ GW := inGW (List.mem_of_getElem? (i := 1675) (by rfl)) (by decide +kernel)
theorem lkL_155 : LK "DatalogmillLaw" 155 yX11_holds := Or.inl mw1675
set_option maxRecDepth 20000 in
theorem mw1678 : Cond.code yX11_holds cX11_holds 5 (some .boolean) ∈ GW := inGW (List.mem_of_getElem? (i := 1678) (by rfl)) (by decide +kernel)
theorem ml_Re_holds : ML yX11_holds cX11_holds 5 (some .boolean) 4 := ⟨mw1678, mw174, by decide +kernel, by decide +kernel, by decide +kernel⟩
set_option maxRecDepth 20000 in
theorem mw1676 : Cond.instanceMethod ({ cls := "DatalogmillModel", name := "holds", desc := "(IIII)Z" } : MethodName) ∈ GW := inGW (List.mem_of_getElem? (i := 1676) (by rfl)) (by decide +kernel)
set_option maxRecDepth 20000 in
theorem mw1677 : Cond.selects "DatalogmillModel" ({ cls := "DatalogmillModel", name := "holds", desc := "(IIII)Z" } : MethodName) ({ cls := "DatalogmillModel", name := "holds", desc := "(IIII)Z" } : MethodName) ∈ GW := inGW (List.mem_of_getElem? (i := 1677) (by rfl)) (by decide +kernel)
theorem vl_Re_holds : VL yX11_holds := ⟨mw1676, mw1677⟩
set_option maxRecDepth 20000 in
theorem mw1114 : Cond.methodLink "DatalogmillLaw" (156 : Nat) ({ cls := "DatalogmillLaw", name := "holdsAt", desc := "(LDatalogmill;IIIII[J)I" } : MethodName) ∈ GW := inGW (List.mem_of_getElem? (i := 1114) (by rfl)) (by decide +kernel)
set_option maxRecDepth 20000 in
theorem mw1116 : Cond.codeWith yL_holdsAt cL_holdsAt 8 (some .int) hh_L_holdsAt ∈ GW := inGW (List.mem_of_getElem? (i := 1116) (by rfl)) (by decide +kernel)
set_option maxRecDepth 20000 in
theorem mw1115 : Cond.static ({ cls := "DatalogmillLaw", name := "holdsAt", desc := "(LDatalogmill;IIIII[J)I" } : MethodName) ∈ GW := inGW (List.mem_of_getElem? (i := 1115) (by rfl)) (by decide +kernel)
set_option maxRecDepth 20000 in
theorem mw1687 : Cond.methodLink "DatalogmillLaw" (159 : Nat) ({ cls := "DatalogmillModel", name := "holdsAt", desc := "(IIIII)Z" } : MethodName) ∈ GW := inGW (List.mem_of_getElem? (i := 1687) (by rfl)) (by decide +kernel)
theorem lkL_159 : LK "DatalogmillLaw" 159 yX11_holdsAt := Or.inl mw1687
set_option maxRecDepth 20000 in
theorem mw1122 : Cond.methodLink "DatalogmillLaw" (160 : Nat) ({ cls := "DatalogmillLaw", name := "holdsAnew", desc := "(LDatalogmill;IIIII[J)I" } : MethodName) ∈ GW := inGW (List.mem_of_getElem? (i := 1122) (by rfl)) (by decide +kernel)
set_option maxRecDepth 20000 in
theorem mw1124 : Cond.codeWith yL_holdsAnew cL_holdsAnew 8 (some .int) hh_L_holdsAnew ∈ GW := inGW (List.mem_of_getElem? (i := 1124) (by rfl)) (by decide +kernel)
set_option maxRecDepth 20000 in
theorem mw1123 : Cond.static ({ cls := "DatalogmillLaw", name := "holdsAnew", desc := "(LDatalogmill;IIIII[J)I" } : MethodName) ∈ GW := inGW (List.mem_of_getElem? (i := 1123) (by rfl)) (by decide +kernel)
set_option maxRecDepth 20000 in
theorem mw1691 : Cond.methodLink "DatalogmillLaw" (162 : Nat) ({ cls := "DatalogmillModel", name := "holdsAnew", desc := "(IIIII)Z" } : MethodName) ∈ GW := inGW (List.mem_of_getElem? (i := 1691) (by rfl)) (by decide +kernel)
theorem lkL_162 : LK "DatalogmillLaw" 162 yX11_holdsAnew := Or.inl mw1691
set_option maxRecDepth 20000 in
theorem mw1694 : Cond.code yX11_holdsAnew cX11_holdsAnew 6 (some .boolean) ∈ GW := inGW (List.mem_of_getElem? (i := 1694) (by rfl)) (by decide +kernel)
theorem ml_Re_holdsAnew : ML yX11_holdsAnew cX11_holdsAnew 6 (some .boolean) 5 := ⟨mw1694, mw174, by decide +kernel, by decide +kernel, by decide +kernel⟩
set_option maxRecDepth 20000 in
theorem mw1692 : Cond.instanceMethod ({ cls := "DatalogmillModel", name := "holdsAnew", desc := "(IIIII)Z" } : MethodName) ∈ GW := inGW (List.mem_of_getElem? (i := 1692) (by rfl)) (by decide +kernel)
set_option maxRecDepth 20000 in
theorem mw1693 : Cond.selects "DatalogmillModel" ({ cls := "DatalogmillModel", name := "holdsAnew", desc := "(IIIII)Z" } : MethodName) ({ cls := "DatalogmillModel", name := "holdsAnew", desc := "(IIIII)Z" } : MethodName) ∈ GW := inGW (List.mem_of_getElem? (i := 1693) (by rfl)) (by decide +kernel)
theorem vl_Re_holdsAnew : VL yX11_holdsAnew := ⟨mw1692, mw1693⟩
set_option maxRecDepth 20000 in
theorem mw1129 : Cond.methodLink "DatalogmillLaw" (163 : Nat) ({ cls := "DatalogmillLaw", name := "size", desc := "(LDatalogmill;I[J)I" } : MethodName) ∈ GW := inGW (List.mem_of_getElem? (i := 1129) (by rfl)) (by decide +kernel)
set_option maxRecDepth 20000 in
theorem mw1131 : Cond.codeWith yL_size cL_size 4 (some .int) hh_L_size ∈ GW := inGW (List.mem_of_getElem? (i := 1131) (by rfl)) (by decide +kernel)
set_option maxRecDepth 20000 in
theorem mw1130 : Cond.static ({ cls := "DatalogmillLaw", name := "size", desc := "(LDatalogmill;I[J)I" } : MethodName) ∈ GW := inGW (List.mem_of_getElem? (i := 1130) (by rfl)) (by decide +kernel)
set_option maxRecDepth 20000 in
theorem mw1696 : Cond.methodLink "DatalogmillLaw" (165 : Nat) ({ cls := "DatalogmillModel", name := "size", desc := "(I)I" } : MethodName) ∈ GW := inGW (List.mem_of_getElem? (i := 1696) (by rfl)) (by decide +kernel)
theorem lkL_165 : LK "DatalogmillLaw" 165 yX11_size := Or.inl mw1696
set_option maxRecDepth 20000 in
theorem mw1699 : Cond.code yX11_size cX11_size 2 (some .int) ∈ GW := inGW (List.mem_of_getElem? (i := 1699) (by rfl)) (by decide +kernel)
theorem ml_Re_size : ML yX11_size cX11_size 2 (some .int) 1 := ⟨mw1699, mw174, by decide +kernel, by decide +kernel, by decide +kernel⟩
set_option maxRecDepth 20000 in
theorem mw1697 : Cond.instanceMethod ({ cls := "DatalogmillModel", name := "size", desc := "(I)I" } : MethodName) ∈ GW := inGW (List.mem_of_getElem? (i := 1697) (by rfl)) (by decide +kernel)
set_option maxRecDepth 20000 in
theorem mw1698 : Cond.selects "DatalogmillModel" ({ cls := "DatalogmillModel", name := "size", desc := "(I)I" } : MethodName) ({ cls := "DatalogmillModel", name := "size", desc := "(I)I" } : MethodName) ∈ GW := inGW (List.mem_of_getElem? (i := 1698) (by rfl)) (by decide +kernel)
theorem vl_Re_size : VL yX11_size := ⟨mw1697, mw1698⟩
set_option maxRecDepth 20000 in
theorem mw1140 : Cond.methodLink "DatalogmillLaw" (166 : Nat) ({ cls := "DatalogmillLaw", name := "at", desc := "(LDatalogmill;II[J)I" } : MethodName) ∈ GW := inGW (List.mem_of_getElem? (i := 1140) (by rfl)) (by decide +kernel)
set_option maxRecDepth 20000 in
theorem mw1142 : Cond.codeWith yL_at cL_at 5 (some .int) hh_L_at ∈ GW := inGW (List.mem_of_getElem? (i := 1142) (by rfl)) (by decide +kernel)
set_option maxRecDepth 20000 in
theorem mw1141 : Cond.static ({ cls := "DatalogmillLaw", name := "at", desc := "(LDatalogmill;II[J)I" } : MethodName) ∈ GW := inGW (List.mem_of_getElem? (i := 1141) (by rfl)) (by decide +kernel)
set_option maxRecDepth 20000 in
theorem mw1704 : Cond.methodLink "DatalogmillLaw" (169 : Nat) ({ cls := "DatalogmillModel", name := "at", desc := "(II)I" } : MethodName) ∈ GW := inGW (List.mem_of_getElem? (i := 1704) (by rfl)) (by decide +kernel)
theorem lkL_169 : LK "DatalogmillLaw" 169 yX11_at := Or.inl mw1704
set_option maxRecDepth 20000 in
theorem mw1707 : Cond.code yX11_at cX11_at 8 (some .int) ∈ GW := inGW (List.mem_of_getElem? (i := 1707) (by rfl)) (by decide +kernel)
theorem ml_Re_at : ML yX11_at cX11_at 8 (some .int) 2 := ⟨mw1707, mw174, by decide +kernel, by decide +kernel, by decide +kernel⟩
set_option maxRecDepth 20000 in
theorem mw1705 : Cond.instanceMethod ({ cls := "DatalogmillModel", name := "at", desc := "(II)I" } : MethodName) ∈ GW := inGW (List.mem_of_getElem? (i := 1705) (by rfl)) (by decide +kernel)
set_option maxRecDepth 20000 in
theorem mw1706 : Cond.selects "DatalogmillModel" ({ cls := "DatalogmillModel", name := "at", desc := "(II)I" } : MethodName) ({ cls := "DatalogmillModel", name := "at", desc := "(II)I" } : MethodName) ∈ GW := inGW (List.mem_of_getElem? (i := 1706) (by rfl)) (by decide +kernel)
theorem vl_Re_at : VL yX11_at := ⟨mw1705, mw1706⟩
set_option maxRecDepth 20000 in
theorem mw1153 : Cond.methodLink "DatalogmillLaw" (170 : Nat) ({ cls := "DatalogmillLaw", name := "stratum", desc := "(LDatalogmill;I[J)I" } : MethodName) ∈ GW := inGW (List.mem_of_getElem? (i := 1153) (by rfl)) (by decide +kernel)
set_option maxRecDepth 20000 in
theorem mw1155 : Cond.codeWith yL_stratum cL_stratum 4 (some .int) hh_L_stratum ∈ GW := inGW (List.mem_of_getElem? (i := 1155) (by rfl)) (by decide +kernel)
set_option maxRecDepth 20000 in
theorem mw1154 : Cond.static ({ cls := "DatalogmillLaw", name := "stratum", desc := "(LDatalogmill;I[J)I" } : MethodName) ∈ GW := inGW (List.mem_of_getElem? (i := 1154) (by rfl)) (by decide +kernel)
set_option maxRecDepth 20000 in
theorem mw1712 : Cond.methodLink "DatalogmillLaw" (172 : Nat) ({ cls := "DatalogmillModel", name := "stratum", desc := "(I)I" } : MethodName) ∈ GW := inGW (List.mem_of_getElem? (i := 1712) (by rfl)) (by decide +kernel)
theorem lkL_172 : LK "DatalogmillLaw" 172 yX11_stratum := Or.inl mw1712
set_option maxRecDepth 20000 in
theorem mw1715 : Cond.code yX11_stratum cX11_stratum 2 (some .int) ∈ GW := inGW (List.mem_of_getElem? (i := 1715) (by rfl)) (by decide +kernel)
theorem ml_Re_stratum : ML yX11_stratum cX11_stratum 2 (some .int) 1 := ⟨mw1715, mw174, by decide +kernel, by decide +kernel, by decide +kernel⟩
set_option maxRecDepth 20000 in
theorem mw1713 : Cond.instanceMethod ({ cls := "DatalogmillModel", name := "stratum", desc := "(I)I" } : MethodName) ∈ GW := inGW (List.mem_of_getElem? (i := 1713) (by rfl)) (by decide +kernel)
set_option maxRecDepth 20000 in
theorem mw1714 : Cond.selects "DatalogmillModel" ({ cls := "DatalogmillModel", name := "stratum", desc := "(I)I" } : MethodName) ({ cls := "DatalogmillModel", name := "stratum", desc := "(I)I" } : MethodName) ∈ GW := inGW (List.mem_of_getElem? (i := 1714) (by rfl)) (by decide +kernel)
theorem vl_Re_stratum : VL yX11_stratum := ⟨mw1713, mw1714⟩
set_option maxRecDepth 20000 in
theorem mw1161 : Cond.methodLink "DatalogmillLaw" (173 : Nat) ({ cls := "DatalogmillLaw", name := "ways", desc := "(LDatalogmill;IIII[J)I" } : MethodName) ∈ GW := inGW (List.mem_of_getElem? (i := 1161) (by rfl)) (by decide +kernel)
set_option maxRecDepth 20000 in
theorem mw1163 : Cond.codeWith yL_ways cL_ways 7 (some .int) hh_L_ways ∈ GW := inGW (List.mem_of_getElem? (i := 1163) (by rfl)) (by decide +kernel)
set_option maxRecDepth 20000 in
theorem mw1162 : Cond.static ({ cls := "DatalogmillLaw", name := "ways", desc := "(LDatalogmill;IIII[J)I" } : MethodName) ∈ GW := inGW (List.mem_of_getElem? (i := 1162) (by rfl)) (by decide +kernel)
set_option maxRecDepth 20000 in
theorem mw1716 : Cond.methodLink "DatalogmillLaw" (175 : Nat) ({ cls := "DatalogmillModel", name := "ways", desc := "(IIII)I" } : MethodName) ∈ GW := inGW (List.mem_of_getElem? (i := 1716) (by rfl)) (by decide +kernel)
theorem lkL_175 : LK "DatalogmillLaw" 175 yX11_ways := Or.inl mw1716
set_option maxRecDepth 20000 in
theorem mw1719 : Cond.code yX11_ways cX11_ways 8 (some .int) ∈ GW := inGW (List.mem_of_getElem? (i := 1719) (by rfl)) (by decide +kernel)
theorem ml_Re_ways : ML yX11_ways cX11_ways 8 (some .int) 4 := ⟨mw1719, mw174, by decide +kernel, by decide +kernel, by decide +kernel⟩
set_option maxRecDepth 20000 in
theorem mw1717 : Cond.instanceMethod ({ cls := "DatalogmillModel", name := "ways", desc := "(IIII)I" } : MethodName) ∈ GW := inGW (List.mem_of_getElem? (i := 1717) (by rfl)) (by decide +kernel)
set_option maxRecDepth 20000 in
theorem mw1718 : Cond.selects "DatalogmillModel" ({ cls := "DatalogmillModel", name := "ways", desc := "(IIII)I" } : MethodName) ({ cls := "DatalogmillModel", name := "ways", desc := "(IIII)I" } : MethodName) ∈ GW := inGW (List.mem_of_getElem? (i := 1718) (by rfl)) (by decide +kernel)
theorem vl_Re_ways : VL yX11_ways := ⟨mw1717, mw1718⟩
set_option maxRecDepth 20000 in
theorem mw1196 : Cond.methodLink "DatalogmillLaw" (176 : Nat) ({ cls := "DatalogmillLaw", name := "cheapest", desc := "(LDatalogmill;IIII[J)I" } : MethodName) ∈ GW := inGW (List.mem_of_getElem? (i := 1196) (by rfl)) (by decide +kernel)
set_option maxRecDepth 20000 in
theorem mw1198 : Cond.codeWith yL_cheapest cL_cheapest 7 (some .int) hh_L_cheapest ∈ GW := inGW (List.mem_of_getElem? (i := 1198) (by rfl)) (by decide +kernel)
set_option maxRecDepth 20000 in
theorem mw1197 : Cond.static ({ cls := "DatalogmillLaw", name := "cheapest", desc := "(LDatalogmill;IIII[J)I" } : MethodName) ∈ GW := inGW (List.mem_of_getElem? (i := 1197) (by rfl)) (by decide +kernel)
set_option maxRecDepth 20000 in
theorem mw1720 : Cond.methodLink "DatalogmillLaw" (178 : Nat) ({ cls := "DatalogmillModel", name := "cheapest", desc := "(IIII)I" } : MethodName) ∈ GW := inGW (List.mem_of_getElem? (i := 1720) (by rfl)) (by decide +kernel)
theorem lkL_178 : LK "DatalogmillLaw" 178 yX11_cheapest := Or.inl mw1720
set_option maxRecDepth 20000 in
theorem mw1723 : Cond.code yX11_cheapest cX11_cheapest 5 (some .int) ∈ GW := inGW (List.mem_of_getElem? (i := 1723) (by rfl)) (by decide +kernel)
theorem ml_Re_cheapest : ML yX11_cheapest cX11_cheapest 5 (some .int) 4 := ⟨mw1723, mw174, by decide +kernel, by decide +kernel, by decide +kernel⟩
set_option maxRecDepth 20000 in
theorem mw1721 : Cond.instanceMethod ({ cls := "DatalogmillModel", name := "cheapest", desc := "(IIII)I" } : MethodName) ∈ GW := inGW (List.mem_of_getElem? (i := 1721) (by rfl)) (by decide +kernel)
set_option maxRecDepth 20000 in
theorem mw1722 : Cond.selects "DatalogmillModel" ({ cls := "DatalogmillModel", name := "cheapest", desc := "(IIII)I" } : MethodName) ({ cls := "DatalogmillModel", name := "cheapest", desc := "(IIII)I" } : MethodName) ∈ GW := inGW (List.mem_of_getElem? (i := 1722) (by rfl)) (by decide +kernel)
theorem vl_Re_cheapest : VL yX11_cheapest := ⟨mw1721, mw1722⟩
set_option maxRecDepth 20000 in
theorem mw1235 : Cond.methodLink "DatalogmillLaw" (179 : Nat) ({ cls := "DatalogmillLaw", name := "needed", desc := "(LDatalogmill;IIII[J)I" } : MethodName) ∈ GW := inGW (List.mem_of_getElem? (i := 1235) (by rfl)) (by decide +kernel)
set_option maxRecDepth 20000 in
theorem mw1237 : Cond.codeWith yL_needed cL_needed 7 (some .int) hh_L_needed ∈ GW := inGW (List.mem_of_getElem? (i := 1237) (by rfl)) (by decide +kernel)
set_option maxRecDepth 20000 in
theorem mw1236 : Cond.static ({ cls := "DatalogmillLaw", name := "needed", desc := "(LDatalogmill;IIII[J)I" } : MethodName) ∈ GW := inGW (List.mem_of_getElem? (i := 1236) (by rfl)) (by decide +kernel)
set_option maxRecDepth 20000 in
theorem mw1737 : Cond.methodLink "DatalogmillLaw" (181 : Nat) ({ cls := "DatalogmillModel", name := "needed", desc := "(IIII)I" } : MethodName) ∈ GW := inGW (List.mem_of_getElem? (i := 1737) (by rfl)) (by decide +kernel)
theorem lkL_181 : LK "DatalogmillLaw" 181 yX11_needed := Or.inl mw1737
set_option maxRecDepth 20000 in
theorem mw1740 : Cond.code yX11_needed cX11_needed 7 (some .int) ∈ GW := inGW (List.mem_of_getElem? (i := 1740) (by rfl)) (by decide +kernel)
theorem ml_Re_needed : ML yX11_needed cX11_needed 7 (some .int) 4 := ⟨mw1740, mw174, by decide +kernel, by decide +kernel, by decide +kernel⟩
set_option maxRecDepth 20000 in
theorem mw1738 : Cond.instanceMethod ({ cls := "DatalogmillModel", name := "needed", desc := "(IIII)I" } : MethodName) ∈ GW := inGW (List.mem_of_getElem? (i := 1738) (by rfl)) (by decide +kernel)
set_option maxRecDepth 20000 in
theorem mw1739 : Cond.selects "DatalogmillModel" ({ cls := "DatalogmillModel", name := "needed", desc := "(IIII)I" } : MethodName) ({ cls := "DatalogmillModel", name := "needed", desc := "(IIII)I" } : MethodName) ∈ GW := inGW (List.mem_of_getElem? (i := 1739) (by rfl)) (by decide +kernel)
theorem vl_Re_needed : VL yX11_needed := ⟨mw1738, mw1739⟩
set_option maxRecDepth 20000 in
theorem mw1242 : Cond.methodLink "DatalogmillLaw" (182 : Nat) ({ cls := "DatalogmillLaw", name := "whyNot", desc := "(LDatalogmill;IIII[J)I" } : MethodName) ∈ GW := inGW (List.mem_of_getElem? (i := 1242) (by rfl)) (by decide +kernel)
set_option maxRecDepth 20000 in
theorem mw1244 : Cond.codeWith yL_whyNot cL_whyNot 7 (some .int) hh_L_whyNot ∈ GW := inGW (List.mem_of_getElem? (i := 1244) (by rfl)) (by decide +kernel)
set_option maxRecDepth 20000 in
theorem mw1243 : Cond.static ({ cls := "DatalogmillLaw", name := "whyNot", desc := "(LDatalogmill;IIII[J)I" } : MethodName) ∈ GW := inGW (List.mem_of_getElem? (i := 1243) (by rfl)) (by decide +kernel)
set_option maxRecDepth 20000 in
theorem mw1741 : Cond.methodLink "DatalogmillLaw" (184 : Nat) ({ cls := "DatalogmillModel", name := "whyNot", desc := "(IIII)I" } : MethodName) ∈ GW := inGW (List.mem_of_getElem? (i := 1741) (by rfl)) (by decide +kernel)
theorem lkL_184 : LK "DatalogmillLaw" 184 yX11_whyNot := Or.inl mw1741
set_option maxRecDepth 20000 in
theorem mw1744 : Cond.code yX11_whyNot cX11_whyNot 10 (some .int) ∈ GW := inGW (List.mem_of_getElem? (i := 1744) (by rfl)) (by decide +kernel)
theorem ml_Re_whyNot : ML yX11_whyNot cX11_whyNot 10 (some .int) 4 := ⟨mw1744, mw174, by decide +kernel, by decide +kernel, by decide +kernel⟩
set_option maxRecDepth 20000 in
theorem mw1742 : Cond.instanceMethod ({ cls := "DatalogmillModel", name := "whyNot", desc := "(IIII)I" } : MethodName) ∈ GW := inGW (List.mem_of_getElem? (i := 1742) (by rfl)) (by decide +kernel)
set_option maxRecDepth 20000 in
theorem mw1743 : Cond.selects "DatalogmillModel" ({ cls := "DatalogmillModel", name := "whyNot", desc := "(IIII)I" } : MethodName) ({ cls := "DatalogmillModel", name := "whyNot", desc := "(IIII)I" } : MethodName) ∈ GW := inGW (List.mem_of_getElem? (i := 1743) (by rfl)) (by decide +kernel)
theorem vl_Re_whyNot : VL yX11_whyNot := ⟨mw1742, mw1743⟩
set_option maxRecDepth 20000 in
theorem mw512 : Cond.methodLink "DatalogmillLaw" (185 : Nat) ({ cls := "Datalogmill", name := "broken", desc := "()I" } : MethodName) ∈ GW := inGW (List.mem_of_getElem? (i := 512) (by rfl)) (by decide +kernel)
theorem lkL_185 : LK "DatalogmillLaw" 185 yX10_broken := Or.inl mw512
set_option maxRecDepth 20000 in
theorem mw515 : Cond.code yX10_broken cX10_broken 1 (some .int) ∈ GW := inGW (List.mem_of_getElem? (i := 515) (by rfl)) (by decide +kernel)
theorem ml_Dm_broken : ML yX10_broken cX10_broken 1 (some .int) 0 := ⟨mw515, mw163, by decide +kernel, by decide +kernel, by decide +kernel⟩
set_option maxRecDepth 20000 in
theorem mw513 : Cond.instanceMethod ({ cls := "Datalogmill", name := "broken", desc := "()I" } : MethodName) ∈ GW := inGW (List.mem_of_getElem? (i := 513) (by rfl)) (by decide +kernel)
set_option maxRecDepth 20000 in
theorem mw514 : Cond.selects "Datalogmill" ({ cls := "Datalogmill", name := "broken", desc := "()I" } : MethodName) ({ cls := "Datalogmill", name := "broken", desc := "()I" } : MethodName) ∈ GW := inGW (List.mem_of_getElem? (i := 514) (by rfl)) (by decide +kernel)
theorem vl_Dm_broken : VL yX10_broken := ⟨mw513, mw514⟩
set_option maxRecDepth 20000 in
theorem mw1753 : Cond.methodLink "DatalogmillLaw" (188 : Nat) ({ cls := "DatalogmillModel", name := "broken", desc := "()I" } : MethodName) ∈ GW := inGW (List.mem_of_getElem? (i := 1753) (by rfl)) (by decide +kernel)
theorem lkL_188 : LK "DatalogmillLaw" 188 yX11_broken := Or.inl mw1753
set_option maxRecDepth 20000 in
theorem mw1756 : Cond.code yX11_broken cX11_broken 1 (some .int) ∈ GW := inGW (List.mem_of_getElem? (i := 1756) (by rfl)) (by decide +kernel)
theorem ml_Re_broken : ML yX11_broken cX11_broken 1 (some .int) 0 := ⟨mw1756, mw174, by decide +kernel, by decide +kernel, by decide +kernel⟩
set_option maxRecDepth 20000 in
theorem mw1754 : Cond.instanceMethod ({ cls := "DatalogmillModel", name := "broken", desc := "()I" } : MethodName) ∈ GW := inGW (List.mem_of_getElem? (i := 1754) (by rfl)) (by decide +kernel)
set_option maxRecDepth 20000 in
theorem mw1755 : Cond.selects "DatalogmillModel" ({ cls := "DatalogmillModel", name := "broken", desc := "()I" } : MethodName) ({ cls := "DatalogmillModel", name := "broken", desc := "()I" } : MethodName) ∈ GW := inGW (List.mem_of_getElem? (i := 1755) (by rfl)) (by decide +kernel)
theorem vl_Re_broken : VL yX11_broken := ⟨mw1754, mw1755⟩
set_option maxRecDepth 20000 in
theorem mw667 : Cond.methodLink "DatalogmillLaw" (189 : Nat) ({ cls := "Datalogmill", name := "repair", desc := "()I" } : MethodName) ∈ GW := inGW (List.mem_of_getElem? (i := 667) (by rfl)) (by decide +kernel)
theorem lkL_189 : LK "DatalogmillLaw" 189 yX10_repair := Or.inl mw667
set_option maxRecDepth 20000 in
theorem mw670 : Cond.code yX10_repair cX10_repair 3 (some .int) ∈ GW := inGW (List.mem_of_getElem? (i := 670) (by rfl)) (by decide +kernel)
theorem ml_Dm_repair : ML yX10_repair cX10_repair 3 (some .int) 0 := ⟨mw670, mw163, by decide +kernel, by decide +kernel, by decide +kernel⟩
set_option maxRecDepth 20000 in
theorem mw668 : Cond.instanceMethod ({ cls := "Datalogmill", name := "repair", desc := "()I" } : MethodName) ∈ GW := inGW (List.mem_of_getElem? (i := 668) (by rfl)) (by decide +kernel)
set_option maxRecDepth 20000 in
theorem mw669 : Cond.selects "Datalogmill" ({ cls := "Datalogmill", name := "repair", desc := "()I" } : MethodName) ({ cls := "Datalogmill", name := "repair", desc := "()I" } : MethodName) ∈ GW := inGW (List.mem_of_getElem? (i := 669) (by rfl)) (by decide +kernel)
theorem vl_Dm_repair : VL yX10_repair := ⟨mw668, mw669⟩
set_option maxRecDepth 20000 in
theorem mw1765 : Cond.methodLink "DatalogmillLaw" (192 : Nat) ({ cls := "DatalogmillModel", name := "repair", desc := "()I" } : MethodName) ∈ GW := inGW (List.mem_of_getElem? (i := 1765) (by rfl)) (by decide +kernel)
theorem lkL_192 : LK "DatalogmillLaw" 192 yX11_repair := Or.inl mw1765
set_option maxRecDepth 20000 in
theorem mw1768 : Cond.code yX11_repair cX11_repair 3 (some .int) ∈ GW := inGW (List.mem_of_getElem? (i := 1768) (by rfl)) (by decide +kernel)
theorem ml_Re_repair : ML yX11_repair cX11_repair 3 (some .int) 0 := ⟨mw1768, mw174, by decide +kernel, by decide +kernel, by decide +kernel⟩
set_option maxRecDepth 20000 in
theorem mw1766 : Cond.instanceMethod ({ cls := "DatalogmillModel", name := "repair", desc := "()I" } : MethodName) ∈ GW := inGW (List.mem_of_getElem? (i := 1766) (by rfl)) (by decide +kernel)
set_option maxRecDepth 20000 in
theorem mw1767 : Cond.selects "DatalogmillModel" ({ cls := "DatalogmillModel", name := "repair", desc := "()I" } : MethodName) ({ cls := "DatalogmillModel", name := "repair", desc := "()I" } : MethodName) ∈ GW := inGW (List.mem_of_getElem? (i := 1767) (by rfl)) (by decide +kernel)
theorem vl_Re_repair : VL yX11_repair := ⟨mw1766, mw1767⟩
set_option maxRecDepth 20000 in
theorem mw1255 : Cond.methodLink "DatalogmillLaw" (193 : Nat) ({ cls := "DatalogmillLaw", name := "goals", desc := "(LDatalogmill;IIII[J)I" } : MethodName) ∈ GW := inGW (List.mem_of_getElem? (i := 1255) (by rfl)) (by decide +kernel)
set_option maxRecDepth 20000 in
theorem mw1257 : Cond.codeWith yL_goals cL_goals 7 (some .int) hh_L_goals ∈ GW := inGW (List.mem_of_getElem? (i := 1257) (by rfl)) (by decide +kernel)
set_option maxRecDepth 20000 in
theorem mw1256 : Cond.static ({ cls := "DatalogmillLaw", name := "goals", desc := "(LDatalogmill;IIII[J)I" } : MethodName) ∈ GW := inGW (List.mem_of_getElem? (i := 1256) (by rfl)) (by decide +kernel)
set_option maxRecDepth 20000 in
theorem mw1773 : Cond.methodLink "DatalogmillLaw" (195 : Nat) ({ cls := "DatalogmillModel", name := "goals", desc := "(IIII)I" } : MethodName) ∈ GW := inGW (List.mem_of_getElem? (i := 1773) (by rfl)) (by decide +kernel)
theorem lkL_195 : LK "DatalogmillLaw" 195 yX11_goals := Or.inl mw1773
set_option maxRecDepth 20000 in
theorem mw1776 : Cond.code yX11_goals cX11_goals 8 (some .int) ∈ GW := inGW (List.mem_of_getElem? (i := 1776) (by rfl)) (by decide +kernel)
theorem ml_Re_goals : ML yX11_goals cX11_goals 8 (some .int) 4 := ⟨mw1776, mw174, by decide +kernel, by decide +kernel, by decide +kernel⟩
set_option maxRecDepth 20000 in
theorem mw1774 : Cond.instanceMethod ({ cls := "DatalogmillModel", name := "goals", desc := "(IIII)I" } : MethodName) ∈ GW := inGW (List.mem_of_getElem? (i := 1774) (by rfl)) (by decide +kernel)
set_option maxRecDepth 20000 in
theorem mw1775 : Cond.selects "DatalogmillModel" ({ cls := "DatalogmillModel", name := "goals", desc := "(IIII)I" } : MethodName) ({ cls := "DatalogmillModel", name := "goals", desc := "(IIII)I" } : MethodName) ∈ GW := inGW (List.mem_of_getElem? (i := 1775) (by rfl)) (by decide +kernel)
theorem vl_Re_goals : VL yX11_goals := ⟨mw1774, mw1775⟩
set_option maxRecDepth 20000 in
theorem mw1291 : Cond.methodLink "DatalogmillLaw" (196 : Nat) ({ cls := "DatalogmillLaw", name := "order", desc := "(LDatalogmill;II[J)I" } : MethodName) ∈ GW := inGW (List.mem_of_getElem? (i := 1291) (by rfl)) (by decide +kernel)
set_option maxRecDepth 20000 in
theorem mw1293 : Cond.codeWith yL_order cL_order 5 (some .int) hh_L_order ∈ GW := inGW (List.mem_of_getElem? (i := 1293) (by rfl)) (by decide +kernel)
set_option maxRecDepth 20000 in
theorem mw1292 : Cond.static ({ cls := "DatalogmillLaw", name := "order", desc := "(LDatalogmill;II[J)I" } : MethodName) ∈ GW := inGW (List.mem_of_getElem? (i := 1292) (by rfl)) (by decide +kernel)
set_option maxRecDepth 20000 in
theorem mw1789 : Cond.methodLink "DatalogmillLaw" (198 : Nat) ({ cls := "DatalogmillModel", name := "order", desc := "(II)I" } : MethodName) ∈ GW := inGW (List.mem_of_getElem? (i := 1789) (by rfl)) (by decide +kernel)
theorem lkL_198 : LK "DatalogmillLaw" 198 yX11_order := Or.inl mw1789
set_option maxRecDepth 20000 in
theorem mw1792 : Cond.code yX11_order cX11_order 4 (some .int) ∈ GW := inGW (List.mem_of_getElem? (i := 1792) (by rfl)) (by decide +kernel)
theorem ml_Re_order : ML yX11_order cX11_order 4 (some .int) 2 := ⟨mw1792, mw174, by decide +kernel, by decide +kernel, by decide +kernel⟩
set_option maxRecDepth 20000 in
theorem mw1790 : Cond.instanceMethod ({ cls := "DatalogmillModel", name := "order", desc := "(II)I" } : MethodName) ∈ GW := inGW (List.mem_of_getElem? (i := 1790) (by rfl)) (by decide +kernel)
set_option maxRecDepth 20000 in
theorem mw1791 : Cond.selects "DatalogmillModel" ({ cls := "DatalogmillModel", name := "order", desc := "(II)I" } : MethodName) ({ cls := "DatalogmillModel", name := "order", desc := "(II)I" } : MethodName) ∈ GW := inGW (List.mem_of_getElem? (i := 1791) (by rfl)) (by decide +kernel)
theorem vl_Re_order : VL yX11_order := ⟨mw1790, mw1791⟩
set_option maxRecDepth 20000 in
theorem mw1321 : Cond.methodLink "DatalogmillLaw" (199 : Nat) ({ cls := "DatalogmillLaw", name := "joins", desc := "(LDatalogmill;I[J)I" } : MethodName) ∈ GW := inGW (List.mem_of_getElem? (i := 1321) (by rfl)) (by decide +kernel)
set_option maxRecDepth 20000 in
theorem mw1323 : Cond.codeWith yL_joins cL_joins 4 (some .int) hh_L_joins ∈ GW := inGW (List.mem_of_getElem? (i := 1323) (by rfl)) (by decide +kernel)
set_option maxRecDepth 20000 in
theorem mw1322 : Cond.static ({ cls := "DatalogmillLaw", name := "joins", desc := "(LDatalogmill;I[J)I" } : MethodName) ∈ GW := inGW (List.mem_of_getElem? (i := 1322) (by rfl)) (by decide +kernel)
set_option maxRecDepth 20000 in
theorem mw1804 : Cond.methodLink "DatalogmillLaw" (201 : Nat) ({ cls := "DatalogmillModel", name := "joins", desc := "(I)I" } : MethodName) ∈ GW := inGW (List.mem_of_getElem? (i := 1804) (by rfl)) (by decide +kernel)
theorem lkL_201 : LK "DatalogmillLaw" 201 yX11_joins := Or.inl mw1804
set_option maxRecDepth 20000 in
theorem mw1807 : Cond.code yX11_joins cX11_joins 6 (some .int) ∈ GW := inGW (List.mem_of_getElem? (i := 1807) (by rfl)) (by decide +kernel)
theorem ml_Re_joins : ML yX11_joins cX11_joins 6 (some .int) 1 := ⟨mw1807, mw174, by decide +kernel, by decide +kernel, by decide +kernel⟩
set_option maxRecDepth 20000 in
theorem mw1805 : Cond.instanceMethod ({ cls := "DatalogmillModel", name := "joins", desc := "(I)I" } : MethodName) ∈ GW := inGW (List.mem_of_getElem? (i := 1805) (by rfl)) (by decide +kernel)
set_option maxRecDepth 20000 in
theorem mw1806 : Cond.selects "DatalogmillModel" ({ cls := "DatalogmillModel", name := "joins", desc := "(I)I" } : MethodName) ({ cls := "DatalogmillModel", name := "joins", desc := "(I)I" } : MethodName) ∈ GW := inGW (List.mem_of_getElem? (i := 1806) (by rfl)) (by decide +kernel)
theorem vl_Re_joins : VL yX11_joins := ⟨mw1805, mw1806⟩
set_option maxRecDepth 20000 in
theorem mw1339 : Cond.methodLink "DatalogmillLaw" (202 : Nat) ({ cls := "DatalogmillLaw", name := "indexes", desc := "(LDatalogmill;I[J)I" } : MethodName) ∈ GW := inGW (List.mem_of_getElem? (i := 1339) (by rfl)) (by decide +kernel)
set_option maxRecDepth 20000 in
theorem mw1341 : Cond.codeWith yL_indexes cL_indexes 4 (some .int) hh_L_indexes ∈ GW := inGW (List.mem_of_getElem? (i := 1341) (by rfl)) (by decide +kernel)
set_option maxRecDepth 20000 in
theorem mw1340 : Cond.static ({ cls := "DatalogmillLaw", name := "indexes", desc := "(LDatalogmill;I[J)I" } : MethodName) ∈ GW := inGW (List.mem_of_getElem? (i := 1340) (by rfl)) (by decide +kernel)
set_option maxRecDepth 20000 in
theorem mw1812 : Cond.methodLink "DatalogmillLaw" (204 : Nat) ({ cls := "DatalogmillModel", name := "indexes", desc := "(I)I" } : MethodName) ∈ GW := inGW (List.mem_of_getElem? (i := 1812) (by rfl)) (by decide +kernel)
theorem lkL_204 : LK "DatalogmillLaw" 204 yX11_indexes := Or.inl mw1812
set_option maxRecDepth 20000 in
theorem mw1815 : Cond.code yX11_indexes cX11_indexes 9 (some .int) ∈ GW := inGW (List.mem_of_getElem? (i := 1815) (by rfl)) (by decide +kernel)
theorem ml_Re_indexes : ML yX11_indexes cX11_indexes 9 (some .int) 1 := ⟨mw1815, mw174, by decide +kernel, by decide +kernel, by decide +kernel⟩
set_option maxRecDepth 20000 in
theorem mw1813 : Cond.instanceMethod ({ cls := "DatalogmillModel", name := "indexes", desc := "(I)I" } : MethodName) ∈ GW := inGW (List.mem_of_getElem? (i := 1813) (by rfl)) (by decide +kernel)
set_option maxRecDepth 20000 in
theorem mw1814 : Cond.selects "DatalogmillModel" ({ cls := "DatalogmillModel", name := "indexes", desc := "(I)I" } : MethodName) ({ cls := "DatalogmillModel", name := "indexes", desc := "(I)I" } : MethodName) ∈ GW := inGW (List.mem_of_getElem? (i := 1814) (by rfl)) (by decide +kernel)
theorem vl_Re_indexes : VL yX11_indexes := ⟨mw1813, mw1814⟩
/-! THE LAW'S CASES, printed by program -/
abbrev lawL (X : LX) (i : Nat) (o5 o6 : Option Value) : List (Option Value) := [some (.ref X.b), some (rf X.A.ad 1), some (rf X.B.ad 1), some (.ref X.O.2), some (.int (ii (i : Int))), o5, o6]
def LawK (X : LX) (K0 K : KT) (H0 : Heap) (a b : Nat) : Prop := Ok K cL_law "DatalogmillLaw" room_1 ∧ GdZ X K H0 ∧ KC K a b ∧ (kL K).stackTraces = false ∧ KSim K0 K
theorem LawK.st {X : LX} {K0 K : KT} {H0 : Heap} {a b : Nat} (h : LawK X K0 K H0 a b) : (kL K).stackTraces = false := h.2.2.2.1
theorem LawK.kr {X : LX} {K0 K : KT} {H0 : Heap} {a b : Nat} (h : LawK X K0 K H0 a b) (h1 : a ≤ room_1.cells ∧ b ≤ room_1.slots) : KR K := by
  obtain ⟨p, l, e, R, s, m, args, below, meth, c, cells, slots, Q⟩ := K
  obtain ⟨o, -, kc, -⟩ := h
  have hR : R = room_1 := o.2.2.2.2.2
  have e0 : cells = a := kc.1
  have e1 : slots = b := kc.2
  subst hR; subst e0; subst e1
  exact h1
theorem LawK.add {X : LX} {K0 K : KT} {H0 : Heap} {a b : Nat} (h : LawK X K0 K H0 a b) : LawK X K0 (kAdd K 1 6) H0 (a + 1) (b + 6) := ⟨OkO.add h.1, h.2.1.add, h.2.2.1.add, h.2.2.2.1, h.2.2.2.2.add⟩
/-- what follows a call -/
def LawE (X : LX) (K0 : KT) (H0 : Heap) (I : World → World → Prop) (a9 b9 i : Nat) : Prop := ∀ (K' : KT) (a' b' : Nat) (wA wB : World) (v : Nat → Int64) (o5 o6 : Option Value), LawK X K0 K' H0 a' b' → (a' ≤ a9 + 1 ∧ b' ≤ b9 + 6) → I wA wB → Jj K' (WdZ X H0) (wA, wB, v) 2148 (lawL X i o5 o6) []
def St_declare (I : World → World → Prop) : Prop := ∀ {wA wB : World}, I wA wB → ∀ x1 x2 x3 x4 : Int, R32 x1 → R32 x2 → R32 x3 → R32 x4 → ∃ (oA : World × Nat × Int) (oB : World), f_Dm_declare wA x1 x2 x3 x4 = some oA ∧ f_Re_declare wB x1 x2 x3 x4 = some oB ∧ f_Re_thrown oB = some (hmL 1 2 3 oA.2.1) ∧ (oA.2.1 = 0 ∨ oA.2.1 = 1 ∨ oA.2.1 = 2 ∨ oA.2.1 = 3) ∧ I oA.1 oB
theorem lz_declare {X : LX} {K0 K : KT} {H0 : Heap} {I : World → World → Prop} {a9 b9 i : Nat} {o5 o6 : Option Value} {wA wB : World} {v : Nat → Int64} (k : LawK X K0 K H0 a9 b9) (hroom : a9 + 1 ≤ room_1.cells ∧ b9 + 6 ≤ room_1.slots) (hi : i + 8 ≤ X.n) (hN : X.n ≤ 4096) (hI : I wA wB) (hs : St_declare I) (hend : LawE X K0 H0 I a9 b9 i) : Jj K (WdZ X H0) (wA, wB, v) 168 (lawL X i o5 o6) [] := by
  have o := k.1
  have g := k.2.1
  have kc := k.2.2.1
  have kr := k.kr ⟨by omega, by omega⟩
  refine J_aload_n o dL_law_168 rfl ?_
  refine J_aldO_n o dL_law_169 rfl ?_
  refine J_iload o dL_law_170 rfl ?_
  refine J_iconst o dL_law_172 ?_
  refine J_iadd o dL_law_173 ?_
  refine J_sld (n := i + 1) o g dL_law_174 ((wr_of ⟨by omega, by omega⟩).trans (by omega)) (by omega) hN ?_
  refine J_aldO_n o dL_law_175 rfl ?_
  refine J_iload o dL_law_176 rfl ?_
  refine J_iconst o dL_law_178 ?_
  refine J_iadd o dL_law_179 ?_
  refine J_sld (n := i + 2) o g dL_law_180 ((wr_of ⟨by omega, by omega⟩).trans (by omega)) (by omega) hN ?_
  refine J_aldO_n o dL_law_181 rfl ?_
  refine J_iload o dL_law_182 rfl ?_
  refine J_iconst o dL_law_184 ?_
  refine J_iadd o dL_law_185 ?_
  refine J_sld (n := i + 3) o g dL_law_186 ((wr_of ⟨by omega, by omega⟩).trans (by omega)) (by omega) hN ?_
  refine J_aldO_n o dL_law_187 rfl ?_
  refine J_iload o dL_law_188 rfl ?_
  refine J_iconst o dL_law_190 ?_
  refine J_iadd o dL_law_191 ?_
  refine J_sld (n := i + 4) o g dL_law_192 ((wr_of ⟨by omega, by omega⟩).trans (by omega)) (by omega) hN ?_
  obtain ⟨oA, oB, hA, hB, hT, hn, hI2⟩ := hs hI (sc X (i + 1)) (sc X (i + 2)) (sc X (i + 3)) (sc X (i + 4)) (R_sc _ _) (R_sc _ _) (R_sc _ _) (R_sc _ _)
  refine J_wO (np := 5) (vs := [rf X.A.ad 1, .int (ii (sc X (i + 1))), .int (ii (sc X (i + 2))), .int (ii (sc X (i + 3))), .int (ii (sc X (i + 4)))]) o g kc dL_law_193 mw750 mw752 mw751 mw162 ⟨by decide +kernel, by decide +kernel, by decide +kernel⟩ ⟨rfl, rfl, Nat.le_of_ble_eq_true rfl, Nat.le_of_ble_eq_true rfl⟩ hroom (c_L_declare k.st g.2.1.1 g.2.1.2.2.1 (R_sc _ _) (R_sc _ _) (R_sc _ _) (R_sc _ _) hA hn) rfl rfl c1s_0 (fun u hu hr => ?_)
  replace o := OkO.add (a' := 1) (b' := 6) o
  replace g := GdZ.add (a := 1) (b := 6) g
  replace kr := (k.add).kr hroom
  refine J_istore o dL_law_196 (Nat.le_of_ble_eq_true rfl) ?_
  refine J_aload_n o dL_law_198 rfl ?_
  refine J_aldO_n o dL_law_199 rfl ?_
  refine J_iload o dL_law_200 rfl ?_
  refine J_iconst o dL_law_202 ?_
  refine J_iadd o dL_law_203 ?_
  refine J_sld (n := i + 1) o g dL_law_204 ((wr_of ⟨by omega, by omega⟩).trans (by omega)) (by omega) hN ?_
  refine J_aldO_n o dL_law_205 rfl ?_
  refine J_iload o dL_law_206 rfl ?_
  refine J_iconst o dL_law_208 ?_
  refine J_iadd o dL_law_209 ?_
  refine J_sld (n := i + 2) o g dL_law_210 ((wr_of ⟨by omega, by omega⟩).trans (by omega)) (by omega) hN ?_
  refine J_aldO_n o dL_law_211 rfl ?_
  refine J_iload o dL_law_212 rfl ?_
  refine J_iconst o dL_law_214 ?_
  refine J_iadd o dL_law_215 ?_
  refine J_sld (n := i + 3) o g dL_law_216 ((wr_of ⟨by omega, by omega⟩).trans (by omega)) (by omega) hN ?_
  refine J_aldO_n o dL_law_217 rfl ?_
  refine J_iload o dL_law_218 rfl ?_
  refine J_iconst o dL_law_220 ?_
  refine J_iadd o dL_law_221 ?_
  refine J_sld (n := i + 4) o g dL_law_222 ((wr_of ⟨by omega, by omega⟩).trans (by omega)) (by omega) hN ?_
  refine J_bV (vs := [.int (ii (sc X (i + 1))), .int (ii (sc X (i + 2))), .int (ii (sc X (i + 3))), .int (ii (sc X (i + 4)))]) o g kr dL_law_223 lkL_109 ml_Re_declare vl_Re_declare ⟨rfl, rfl, Nat.le_of_ble_eq_true rfl, Nat.le_of_ble_eq_true rfl⟩ (c_Re_declare g.2.1.2.1 (R_sc _ _) (R_sc _ _) (R_sc _ _) (R_sc _ _) hB) kB_1 rfl ⟨by decide, by decide⟩ rfl rfl c1s_0 ?_
  refine J_aload_n o dL_law_226 rfl ?_
  refine J_bI (vs := []) o g kr dL_law_227 lkL_110 ml_Re_thrown vl_Re_thrown ⟨rfl, rfl, Nat.le_of_ble_eq_true rfl, Nat.le_of_ble_eq_true rfl⟩ (c_Re_thrown g.2.1.2.1 hT) kB_1 rfl ⟨by decide, by decide⟩ rfl rfl c1s_0 (fun hrT => ?_)
  refine J_iload o dL_law_230 rfl ?_
  refine J_icmp_eq 237 o dL_law_232 (by decide) hrT hr (fun _ => ?_) (fun c => absurd rfl c)
  refine J_goto 2148 o dL_law_237 (by decide) ?_
  exact hend _ _ _ _ _ _ _ _ k.add ⟨Nat.le_refl _, Nat.le_refl _⟩ hI2
def St_fact (I : World → World → Prop) : Prop := ∀ {wA wB : World}, I wA wB → ∀ x1 x2 x3 x4 x5 x6 x7 : Int, R32 x1 → R32 x2 → R32 x3 → R32 x4 → R32 x5 → R32 x6 → R32 x7 → ∃ (oA : World × Nat × Int) (oB : World × Int), f_Dm_fact wA x1 x2 x3 x4 x5 x6 x7 = some oA ∧ f_Re_fact wB x1 x2 x3 x4 x5 x6 x7 = some oB ∧ f_Re_thrown oB.1 = some (hmL 1 2 3 oA.2.1) ∧ (oA.2.1 = 0 ∨ oA.2.1 = 1 ∨ oA.2.1 = 2 ∨ oA.2.1 = 3) ∧ (oA.2.1 = 0 → oA.2.2 = oB.2) ∧ I oA.1 oB.1
theorem lz_fact {X : LX} {K0 K : KT} {H0 : Heap} {I : World → World → Prop} {a9 b9 i : Nat} {o5 o6 : Option Value} {wA wB : World} {v : Nat → Int64} (k : LawK X K0 K H0 a9 b9) (hroom : a9 + 1 ≤ room_1.cells ∧ b9 + 6 ≤ room_1.slots) (hi : i + 8 ≤ X.n) (hN : X.n ≤ 4096) (hI : I wA wB) (hs : St_fact I) (hend : LawE X K0 H0 I a9 b9 i) : Jj K (WdZ X H0) (wA, wB, v) 240 (lawL X i o5 o6) [] := by
  have o := k.1
  have g := k.2.1
  have kc := k.2.2.1
  have kr := k.kr ⟨by omega, by omega⟩
  refine J_aload_n o dL_law_240 rfl ?_
  refine J_aldO_n o dL_law_241 rfl ?_
  refine J_iload o dL_law_242 rfl ?_
  refine J_iconst o dL_law_244 ?_
  refine J_iadd o dL_law_245 ?_
  refine J_sld (n := i + 1) o g dL_law_246 ((wr_of ⟨by omega, by omega⟩).trans (by omega)) (by omega) hN ?_
  refine J_aldO_n o dL_law_247 rfl ?_
  refine J_iload o dL_law_248 rfl ?_
  refine J_iconst o dL_law_250 ?_
  refine J_iadd o dL_law_251 ?_
  refine J_sld (n := i + 2) o g dL_law_252 ((wr_of ⟨by omega, by omega⟩).trans (by omega)) (by omega) hN ?_
  refine J_aldO_n o dL_law_253 rfl ?_
  refine J_iload o dL_law_254 rfl ?_
  refine J_iconst o dL_law_256 ?_
  refine J_iadd o dL_law_257 ?_
  refine J_sld (n := i + 3) o g dL_law_258 ((wr_of ⟨by omega, by omega⟩).trans (by omega)) (by omega) hN ?_
  refine J_aldO_n o dL_law_259 rfl ?_
  refine J_iload o dL_law_260 rfl ?_
  refine J_iconst o dL_law_262 ?_
  refine J_iadd o dL_law_263 ?_
  refine J_sld (n := i + 4) o g dL_law_264 ((wr_of ⟨by omega, by omega⟩).trans (by omega)) (by omega) hN ?_
  refine J_aldO_n o dL_law_265 rfl ?_
  refine J_iload o dL_law_266 rfl ?_
  refine J_iconst o dL_law_268 ?_
  refine J_iadd o dL_law_269 ?_
  refine J_sld (n := i + 5) o g dL_law_270 ((wr_of ⟨by omega, by omega⟩).trans (by omega)) (by omega) hN ?_
  refine J_aldO_n o dL_law_271 rfl ?_
  refine J_iload o dL_law_272 rfl ?_
  refine J_bipush o dL_law_274 (by decide) ?_
  refine J_iadd o dL_law_276 ?_
  refine J_sld (n := i + 6) o g dL_law_277 ((wr_of ⟨by omega, by omega⟩).trans (by omega)) (by omega) hN ?_
  refine J_aldO_n o dL_law_278 rfl ?_
  refine J_iload o dL_law_279 rfl ?_
  refine J_bipush o dL_law_281 (by decide) ?_
  refine J_iadd o dL_law_283 ?_
  refine J_sld (n := i + 7) o g dL_law_284 ((wr_of ⟨by omega, by omega⟩).trans (by omega)) (by omega) hN ?_
  refine J_aldO_n o dL_law_285 rfl ?_
  obtain ⟨oA, oB, hA, hB, hT, hn, hv, hI2⟩ := hs hI (sc X (i + 1)) (sc X (i + 2)) (sc X (i + 3)) (sc X (i + 4)) (sc X (i + 5)) (sc X (i + 6)) (sc X (i + 7)) (R_sc _ _) (R_sc _ _) (R_sc _ _) (R_sc _ _) (R_sc _ _) (R_sc _ _) (R_sc _ _)
  refine J_wO (np := 9) (vs := [rf X.A.ad 1, .int (ii (sc X (i + 1))), .int (ii (sc X (i + 2))), .int (ii (sc X (i + 3))), .int (ii (sc X (i + 4))), .int (ii (sc X (i + 5))), .int (ii (sc X (i + 6))), .int (ii (sc X (i + 7))), .ref X.O.2]) o g kc dL_law_286 mw872 mw874 mw873 mw162 ⟨by decide +kernel, by decide +kernel, by decide +kernel⟩ ⟨rfl, rfl, Nat.le_of_ble_eq_true rfl, Nat.le_of_ble_eq_true rfl⟩ hroom (c_L_fact k.st g.2.1.1 g.2.1.2.2.1 (R_sc _ _) (R_sc _ _) (R_sc _ _) (R_sc _ _) (R_sc _ _) (R_sc _ _) (R_sc _ _) hA hn) rfl rfl c1s_0 (fun u hu hr => ?_)
  replace o := OkO.add (a' := 1) (b' := 6) o
  replace g := GdZ.add (a := 1) (b := 6) g
  replace kr := (k.add).kr hroom
  refine J_istore o dL_law_289 (Nat.le_of_ble_eq_true rfl) ?_
  refine J_aload_n o dL_law_291 rfl ?_
  refine J_aldO_n o dL_law_292 rfl ?_
  refine J_iload o dL_law_293 rfl ?_
  refine J_iconst o dL_law_295 ?_
  refine J_iadd o dL_law_296 ?_
  refine J_sld (n := i + 1) o g dL_law_297 ((wr_of ⟨by omega, by omega⟩).trans (by omega)) (by omega) hN ?_
  refine J_aldO_n o dL_law_298 rfl ?_
  refine J_iload o dL_law_299 rfl ?_
  refine J_iconst o dL_law_301 ?_
  refine J_iadd o dL_law_302 ?_
  refine J_sld (n := i + 2) o g dL_law_303 ((wr_of ⟨by omega, by omega⟩).trans (by omega)) (by omega) hN ?_
  refine J_aldO_n o dL_law_304 rfl ?_
  refine J_iload o dL_law_305 rfl ?_
  refine J_iconst o dL_law_307 ?_
  refine J_iadd o dL_law_308 ?_
  refine J_sld (n := i + 3) o g dL_law_309 ((wr_of ⟨by omega, by omega⟩).trans (by omega)) (by omega) hN ?_
  refine J_aldO_n o dL_law_310 rfl ?_
  refine J_iload o dL_law_311 rfl ?_
  refine J_iconst o dL_law_313 ?_
  refine J_iadd o dL_law_314 ?_
  refine J_sld (n := i + 4) o g dL_law_315 ((wr_of ⟨by omega, by omega⟩).trans (by omega)) (by omega) hN ?_
  refine J_aldO_n o dL_law_316 rfl ?_
  refine J_iload o dL_law_317 rfl ?_
  refine J_iconst o dL_law_319 ?_
  refine J_iadd o dL_law_320 ?_
  refine J_sld (n := i + 5) o g dL_law_321 ((wr_of ⟨by omega, by omega⟩).trans (by omega)) (by omega) hN ?_
  refine J_aldO_n o dL_law_322 rfl ?_
  refine J_iload o dL_law_323 rfl ?_
  refine J_bipush o dL_law_325 (by decide) ?_
  refine J_iadd o dL_law_327 ?_
  refine J_sld (n := i + 6) o g dL_law_328 ((wr_of ⟨by omega, by omega⟩).trans (by omega)) (by omega) hN ?_
  refine J_aldO_n o dL_law_329 rfl ?_
  refine J_iload o dL_law_330 rfl ?_
  refine J_bipush o dL_law_332 (by decide) ?_
  refine J_iadd o dL_law_334 ?_
  refine J_sld (n := i + 7) o g dL_law_335 ((wr_of ⟨by omega, by omega⟩).trans (by omega)) (by omega) hN ?_
  refine J_bI (vs := [.int (ii (sc X (i + 1))), .int (ii (sc X (i + 2))), .int (ii (sc X (i + 3))), .int (ii (sc X (i + 4))), .int (ii (sc X (i + 5))), .int (ii (sc X (i + 6))), .int (ii (sc X (i + 7)))]) o g kr dL_law_336 lkL_116 ml_Re_fact vl_Re_fact ⟨rfl, rfl, Nat.le_of_ble_eq_true rfl, Nat.le_of_ble_eq_true rfl⟩ (c_Re_fact g.2.1.2.1 (R_sc _ _) (R_sc _ _) (R_sc _ _) (R_sc _ _) (R_sc _ _) (R_sc _ _) (R_sc _ _) hB) kB_1 rfl ⟨by decide, by decide⟩ rfl rfl c1s_0 (fun hrB => ?_)
  refine J_istore o dL_law_339 (Nat.le_of_ble_eq_true rfl) ?_
  refine J_aload_n o dL_law_341 rfl ?_
  refine J_bI (vs := []) o g kr dL_law_342 lkL_110 ml_Re_thrown vl_Re_thrown ⟨rfl, rfl, Nat.le_of_ble_eq_true rfl, Nat.le_of_ble_eq_true rfl⟩ (c_Re_thrown g.2.1.2.1 hT) kB_1 rfl ⟨by decide, by decide⟩ rfl rfl c1s_0 (fun hrT => ?_)
  refine J_iload o dL_law_345 rfl ?_
  refine J_icmp_eq 352 o dL_law_347 (by decide) hrT hr (fun _ => ?_) (fun c => absurd rfl c)
  refine J_iload o dL_law_352 rfl ?_
  refine J_if_ne 369 o dL_law_354 (by decide) hr (fun c => ?_) (fun c => ?_)
  · skip
    refine J_goto 2148 o dL_law_369 (by decide) ?_
    exact hend _ _ _ _ _ _ _ _ k.add ⟨Nat.le_refl _, Nat.le_refl _⟩ hI2
  · have h0 : oA.2.1 = 0 := by
      rcases hn with h | h | h | h
      · exact h
      · rw [h] at c; exact absurd c (by decide)
      · rw [h] at c; exact absurd c (by decide)
      · rw [h] at c; exact absurd c (by decide)
    refine J_aldO_n o dL_law_357 rfl ?_
    refine J_iconst o dL_law_358 ?_
    refine J_lald o g dL_law_359 rfl ?_
    refine J_iload o dL_law_360 rfl ?_
    refine J_i2l o dL_law_362 hrB (fun y hy => ?_)
    refine J_lcmp o dL_law_363 ((hu rfl h0).trans ((hv h0).trans hy.symm)) ?_
    refine J_if_eq 369 o dL_law_364 (by decide) rl0 (fun _ => ?_) (fun c => absurd rfl c)
    refine J_goto 2148 o dL_law_369 (by decide) ?_
    exact hend _ _ _ _ _ _ _ _ k.add ⟨Nat.le_refl _, Nat.le_refl _⟩ hI2
def St_drop (I : World → World → Prop) : Prop := ∀ {wA wB : World}, I wA wB → ∀ x1 : Int, R32 x1 → ∃ (oA : World × Nat × Int) (oB : World × Int), f_Dm_drop wA x1 = some oA ∧ f_Re_drop wB x1 = some oB ∧ f_Re_thrown oB.1 = some (hmL 1 0 2 oA.2.1) ∧ (oA.2.1 = 0 ∨ oA.2.1 = 1 ∨ oA.2.1 = 3) ∧ (oA.2.1 = 0 → oA.2.2 = oB.2) ∧ I oA.1 oB.1
theorem lz_drop {X : LX} {K0 K : KT} {H0 : Heap} {I : World → World → Prop} {a9 b9 i : Nat} {o5 o6 : Option Value} {wA wB : World} {v : Nat → Int64} (k : LawK X K0 K H0 a9 b9) (hroom : a9 + 1 ≤ room_1.cells ∧ b9 + 6 ≤ room_1.slots) (hi : i + 8 ≤ X.n) (hN : X.n ≤ 4096) (hI : I wA wB) (hs : St_drop I) (hend : LawE X K0 H0 I a9 b9 i) : Jj K (WdZ X H0) (wA, wB, v) 372 (lawL X i o5 o6) [] := by
  have o := k.1
  have g := k.2.1
  have kc := k.2.2.1
  have kr := k.kr ⟨by omega, by omega⟩
  refine J_aload_n o dL_law_372 rfl ?_
  refine J_aldO_n o dL_law_373 rfl ?_
  refine J_iload o dL_law_374 rfl ?_
  refine J_iconst o dL_law_376 ?_
  refine J_iadd o dL_law_377 ?_
  refine J_sld (n := i + 1) o g dL_law_378 ((wr_of ⟨by omega, by omega⟩).trans (by omega)) (by omega) hN ?_
  refine J_aldO_n o dL_law_379 rfl ?_
  obtain ⟨oA, oB, hA, hB, hT, hn, hv, hI2⟩ := hs hI (sc X (i + 1)) (R_sc _ _)
  refine J_wO (np := 3) (vs := [rf X.A.ad 1, .int (ii (sc X (i + 1))), .ref X.O.2]) o g kc dL_law_380 mw915 mw917 mw916 mw162 ⟨by decide +kernel, by decide +kernel, by decide +kernel⟩ ⟨rfl, rfl, Nat.le_of_ble_eq_true rfl, Nat.le_of_ble_eq_true rfl⟩ hroom (c_L_drop k.st g.2.1.1 g.2.1.2.2.1 (R_sc _ _) hA hn) rfl rfl c1s_0 (fun u hu hr => ?_)
  replace o := OkO.add (a' := 1) (b' := 6) o
  replace g := GdZ.add (a := 1) (b := 6) g
  replace kr := (k.add).kr hroom
  refine J_istore o dL_law_383 (Nat.le_of_ble_eq_true rfl) ?_
  refine J_aload_n o dL_law_385 rfl ?_
  refine J_aldO_n o dL_law_386 rfl ?_
  refine J_iload o dL_law_387 rfl ?_
  refine J_iconst o dL_law_389 ?_
  refine J_iadd o dL_law_390 ?_
  refine J_sld (n := i + 1) o g dL_law_391 ((wr_of ⟨by omega, by omega⟩).trans (by omega)) (by omega) hN ?_
  refine J_bI (vs := [.int (ii (sc X (i + 1)))]) o g kr dL_law_392 lkL_120 ml_Re_drop vl_Re_drop ⟨rfl, rfl, Nat.le_of_ble_eq_true rfl, Nat.le_of_ble_eq_true rfl⟩ (c_Re_drop g.2.1.2.1 (R_sc _ _) hB) kB_1 rfl ⟨by decide, by decide⟩ rfl rfl c1s_0 (fun hrB => ?_)
  refine J_istore o dL_law_395 (Nat.le_of_ble_eq_true rfl) ?_
  refine J_aload_n o dL_law_397 rfl ?_
  refine J_bI (vs := []) o g kr dL_law_398 lkL_110 ml_Re_thrown vl_Re_thrown ⟨rfl, rfl, Nat.le_of_ble_eq_true rfl, Nat.le_of_ble_eq_true rfl⟩ (c_Re_thrown g.2.1.2.1 hT) kB_1 rfl ⟨by decide, by decide⟩ rfl rfl c1s_0 (fun hrT => ?_)
  refine J_iload o dL_law_401 rfl ?_
  refine J_icmp_eq 408 o dL_law_403 (by decide) hrT hr (fun _ => ?_) (fun c => absurd rfl c)
  refine J_iload o dL_law_408 rfl ?_
  refine J_if_ne 425 o dL_law_410 (by decide) hr (fun c => ?_) (fun c => ?_)
  · skip
    refine J_goto 2148 o dL_law_425 (by decide) ?_
    exact hend _ _ _ _ _ _ _ _ k.add ⟨Nat.le_refl _, Nat.le_refl _⟩ hI2
  · have h0 : oA.2.1 = 0 := by
      rcases hn with h | h | h
      · exact h
      · rw [h] at c; exact absurd c (by decide)
      · rw [h] at c; exact absurd c (by decide)
    refine J_aldO_n o dL_law_413 rfl ?_
    refine J_iconst o dL_law_414 ?_
    refine J_lald o g dL_law_415 rfl ?_
    refine J_iload o dL_law_416 rfl ?_
    refine J_i2l o dL_law_418 hrB (fun y hy => ?_)
    refine J_lcmp o dL_law_419 ((hu rfl h0).trans ((hv h0).trans hy.symm)) ?_
    refine J_if_eq 425 o dL_law_420 (by decide) rl0 (fun _ => ?_) (fun c => absurd rfl c)
    refine J_goto 2148 o dL_law_425 (by decide) ?_
    exact hend _ _ _ _ _ _ _ _ k.add ⟨Nat.le_refl _, Nat.le_refl _⟩ hI2
def St_pass (I : World → World → Prop) : Prop := ∀ {wA wB : World}, I wA wB → ∃ (oA : World × Nat × Int) (oB : World × Int), f_Dm_pass wA = some oA ∧ f_Re_pass wB = some oB ∧ f_Re_thrown oB.1 = some (hmL 0 0 1 oA.2.1) ∧ (oA.2.1 = 0 ∨ oA.2.1 = 3) ∧ (oA.2.1 = 0 → oA.2.2 = oB.2) ∧ I oA.1 oB.1
theorem lz_pass {X : LX} {K0 K : KT} {H0 : Heap} {I : World → World → Prop} {a9 b9 i : Nat} {o5 o6 : Option Value} {wA wB : World} {v : Nat → Int64} (k : LawK X K0 K H0 a9 b9) (hroom : a9 + 1 ≤ room_1.cells ∧ b9 + 6 ≤ room_1.slots) (hi : i + 8 ≤ X.n) (hN : X.n ≤ 4096) (hI : I wA wB) (hs : St_pass I) (hend : LawE X K0 H0 I a9 b9 i) : Jj K (WdZ X H0) (wA, wB, v) 428 (lawL X i o5 o6) [] := by
  have o := k.1
  have g := k.2.1
  have kc := k.2.2.1
  have kr := k.kr ⟨by omega, by omega⟩
  refine J_aload_n o dL_law_428 rfl ?_
  refine J_aldO_n o dL_law_429 rfl ?_
  obtain ⟨oA, oB, hA, hB, hT, hn, hv, hI2⟩ := hs hI
  refine J_wO (np := 2) (vs := [rf X.A.ad 1, .ref X.O.2]) o g kc dL_law_430 mw940 mw942 mw941 mw162 ⟨by decide +kernel, by decide +kernel, by decide +kernel⟩ ⟨rfl, rfl, Nat.le_of_ble_eq_true rfl, Nat.le_of_ble_eq_true rfl⟩ hroom (c_L_pass k.st g.2.1.1 g.2.1.2.2.1  hA hn) rfl rfl c1s_0 (fun u hu hr => ?_)
  replace o := OkO.add (a' := 1) (b' := 6) o
  replace g := GdZ.add (a := 1) (b := 6) g
  replace kr := (k.add).kr hroom
  refine J_istore o dL_law_433 (Nat.le_of_ble_eq_true rfl) ?_
  refine J_aload_n o dL_law_435 rfl ?_
  refine J_bI (vs := []) o g kr dL_law_436 lkL_124 ml_Re_pass vl_Re_pass ⟨rfl, rfl, Nat.le_of_ble_eq_true rfl, Nat.le_of_ble_eq_true rfl⟩ (c_Re_pass g.2.1.2.1 hB) kB_1 rfl ⟨by decide, by decide⟩ rfl rfl c1s_0 (fun hrB => ?_)
  refine J_istore o dL_law_439 (Nat.le_of_ble_eq_true rfl) ?_
  refine J_aload_n o dL_law_441 rfl ?_
  refine J_bI (vs := []) o g kr dL_law_442 lkL_110 ml_Re_thrown vl_Re_thrown ⟨rfl, rfl, Nat.le_of_ble_eq_true rfl, Nat.le_of_ble_eq_true rfl⟩ (c_Re_thrown g.2.1.2.1 hT) kB_1 rfl ⟨by decide, by decide⟩ rfl rfl c1s_0 (fun hrT => ?_)
  refine J_iload o dL_law_445 rfl ?_
  refine J_icmp_eq 452 o dL_law_447 (by decide) hrT hr (fun _ => ?_) (fun c => absurd rfl c)
  refine J_iload o dL_law_452 rfl ?_
  refine J_if_ne 469 o dL_law_454 (by decide) hr (fun c => ?_) (fun c => ?_)
  · skip
    refine J_goto 2148 o dL_law_469 (by decide) ?_
    exact hend _ _ _ _ _ _ _ _ k.add ⟨Nat.le_refl _, Nat.le_refl _⟩ hI2
  · have h0 : oA.2.1 = 0 := by
      rcases hn with h | h
      · exact h
      · rw [h] at c; exact absurd c (by decide)
    refine J_aldO_n o dL_law_457 rfl ?_
    refine J_iconst o dL_law_458 ?_
    refine J_lald o g dL_law_459 rfl ?_
    refine J_iload o dL_law_460 rfl ?_
    refine J_i2l o dL_law_462 hrB (fun y hy => ?_)
    refine J_lcmp o dL_law_463 ((hu rfl h0).trans ((hv h0).trans hy.symm)) ?_
    refine J_if_eq 469 o dL_law_464 (by decide) rl0 (fun _ => ?_) (fun c => absurd rfl c)
    refine J_goto 2148 o dL_law_469 (by decide) ?_
    exact hend _ _ _ _ _ _ _ _ k.add ⟨Nat.le_refl _, Nat.le_refl _⟩ hI2
def St_head (I : World → World → Prop) : Prop := ∀ {wA wB : World}, I wA wB → ∀ x1 x2 x3 x4 : Int, R32 x1 → R32 x2 → R32 x3 → R32 x4 → ∃ (oA : World × Nat × Int) (oB : World), f_Dm_head wA x1 x2 x3 x4 = some oA ∧ f_Re_head wB x1 x2 x3 x4 = some oB ∧ f_Re_thrown oB = some (hmL 1 2 0 oA.2.1) ∧ (oA.2.1 = 0 ∨ oA.2.1 = 1 ∨ oA.2.1 = 2) ∧ I oA.1 oB
theorem lz_head {X : LX} {K0 K : KT} {H0 : Heap} {I : World → World → Prop} {a9 b9 i : Nat} {o5 o6 : Option Value} {wA wB : World} {v : Nat → Int64} (k : LawK X K0 K H0 a9 b9) (hroom : a9 + 1 ≤ room_1.cells ∧ b9 + 6 ≤ room_1.slots) (hi : i + 8 ≤ X.n) (hN : X.n ≤ 4096) (hI : I wA wB) (hs : St_head I) (hend : LawE X K0 H0 I a9 b9 i) : Jj K (WdZ X H0) (wA, wB, v) 472 (lawL X i o5 o6) [] := by
  have o := k.1
  have g := k.2.1
  have kc := k.2.2.1
  have kr := k.kr ⟨by omega, by omega⟩
  refine J_aload_n o dL_law_472 rfl ?_
  refine J_aldO_n o dL_law_473 rfl ?_
  refine J_iload o dL_law_474 rfl ?_
  refine J_iconst o dL_law_476 ?_
  refine J_iadd o dL_law_477 ?_
  refine J_sld (n := i + 1) o g dL_law_478 ((wr_of ⟨by omega, by omega⟩).trans (by omega)) (by omega) hN ?_
  refine J_aldO_n o dL_law_479 rfl ?_
  refine J_iload o dL_law_480 rfl ?_
  refine J_iconst o dL_law_482 ?_
  refine J_iadd o dL_law_483 ?_
  refine J_sld (n := i + 2) o g dL_law_484 ((wr_of ⟨by omega, by omega⟩).trans (by omega)) (by omega) hN ?_
  refine J_aldO_n o dL_law_485 rfl ?_
  refine J_iload o dL_law_486 rfl ?_
  refine J_iconst o dL_law_488 ?_
  refine J_iadd o dL_law_489 ?_
  refine J_sld (n := i + 3) o g dL_law_490 ((wr_of ⟨by omega, by omega⟩).trans (by omega)) (by omega) hN ?_
  refine J_aldO_n o dL_law_491 rfl ?_
  refine J_iload o dL_law_492 rfl ?_
  refine J_iconst o dL_law_494 ?_
  refine J_iadd o dL_law_495 ?_
  refine J_sld (n := i + 4) o g dL_law_496 ((wr_of ⟨by omega, by omega⟩).trans (by omega)) (by omega) hN ?_
  obtain ⟨oA, oB, hA, hB, hT, hn, hI2⟩ := hs hI (sc X (i + 1)) (sc X (i + 2)) (sc X (i + 3)) (sc X (i + 4)) (R_sc _ _) (R_sc _ _) (R_sc _ _) (R_sc _ _)
  refine J_wO (np := 5) (vs := [rf X.A.ad 1, .int (ii (sc X (i + 1))), .int (ii (sc X (i + 2))), .int (ii (sc X (i + 3))), .int (ii (sc X (i + 4)))]) o g kc dL_law_497 mw948 mw950 mw949 mw162 ⟨by decide +kernel, by decide +kernel, by decide +kernel⟩ ⟨rfl, rfl, Nat.le_of_ble_eq_true rfl, Nat.le_of_ble_eq_true rfl⟩ hroom (c_L_head k.st g.2.1.1 g.2.1.2.2.1 (R_sc _ _) (R_sc _ _) (R_sc _ _) (R_sc _ _) hA hn) rfl rfl c1s_0 (fun u hu hr => ?_)
  replace o := OkO.add (a' := 1) (b' := 6) o
  replace g := GdZ.add (a := 1) (b := 6) g
  replace kr := (k.add).kr hroom
  refine J_istore o dL_law_500 (Nat.le_of_ble_eq_true rfl) ?_
  refine J_aload_n o dL_law_502 rfl ?_
  refine J_aldO_n o dL_law_503 rfl ?_
  refine J_iload o dL_law_504 rfl ?_
  refine J_iconst o dL_law_506 ?_
  refine J_iadd o dL_law_507 ?_
  refine J_sld (n := i + 1) o g dL_law_508 ((wr_of ⟨by omega, by omega⟩).trans (by omega)) (by omega) hN ?_
  refine J_aldO_n o dL_law_509 rfl ?_
  refine J_iload o dL_law_510 rfl ?_
  refine J_iconst o dL_law_512 ?_
  refine J_iadd o dL_law_513 ?_
  refine J_sld (n := i + 2) o g dL_law_514 ((wr_of ⟨by omega, by omega⟩).trans (by omega)) (by omega) hN ?_
  refine J_aldO_n o dL_law_515 rfl ?_
  refine J_iload o dL_law_516 rfl ?_
  refine J_iconst o dL_law_518 ?_
  refine J_iadd o dL_law_519 ?_
  refine J_sld (n := i + 3) o g dL_law_520 ((wr_of ⟨by omega, by omega⟩).trans (by omega)) (by omega) hN ?_
  refine J_aldO_n o dL_law_521 rfl ?_
  refine J_iload o dL_law_522 rfl ?_
  refine J_iconst o dL_law_524 ?_
  refine J_iadd o dL_law_525 ?_
  refine J_sld (n := i + 4) o g dL_law_526 ((wr_of ⟨by omega, by omega⟩).trans (by omega)) (by omega) hN ?_
  refine J_bV (vs := [.int (ii (sc X (i + 1))), .int (ii (sc X (i + 2))), .int (ii (sc X (i + 3))), .int (ii (sc X (i + 4)))]) o g kr dL_law_527 lkL_127 ml_Re_head vl_Re_head ⟨rfl, rfl, Nat.le_of_ble_eq_true rfl, Nat.le_of_ble_eq_true rfl⟩ (c_Re_head g.2.1.2.1 (R_sc _ _) (R_sc _ _) (R_sc _ _) (R_sc _ _) hB) kB_1 rfl ⟨by decide, by decide⟩ rfl rfl c1s_0 ?_
  refine J_aload_n o dL_law_530 rfl ?_
  refine J_bI (vs := []) o g kr dL_law_531 lkL_110 ml_Re_thrown vl_Re_thrown ⟨rfl, rfl, Nat.le_of_ble_eq_true rfl, Nat.le_of_ble_eq_true rfl⟩ (c_Re_thrown g.2.1.2.1 hT) kB_1 rfl ⟨by decide, by decide⟩ rfl rfl c1s_0 (fun hrT => ?_)
  refine J_iload o dL_law_534 rfl ?_
  refine J_icmp_eq 541 o dL_law_536 (by decide) hrT hr (fun _ => ?_) (fun c => absurd rfl c)
  refine J_goto 2148 o dL_law_541 (by decide) ?_
  exact hend _ _ _ _ _ _ _ _ k.add ⟨Nat.le_refl _, Nat.le_refl _⟩ hI2
def St_atom (I : World → World → Prop) : Prop := ∀ {wA wB : World}, I wA wB → ∀ x1 x2 x3 x4 x5 : Int, R32 x1 → R32 x2 → R32 x3 → R32 x4 → R32 x5 → ∃ (oA : World × Nat × Int) (oB : World × Int), f_Dm_atom wA x1 x2 x3 x4 x5 = some oA ∧ f_Re_atom wB x1 x2 x3 x4 x5 = some oB ∧ f_Re_thrown oB.1 = some (hmL 1 2 3 oA.2.1) ∧ (oA.2.1 = 0 ∨ oA.2.1 = 1 ∨ oA.2.1 = 2 ∨ oA.2.1 = 3) ∧ (oA.2.1 = 0 → oA.2.2 = oB.2) ∧ I oA.1 oB.1
theorem lz_atom {X : LX} {K0 K : KT} {H0 : Heap} {I : World → World → Prop} {a9 b9 i : Nat} {o5 o6 : Option Value} {wA wB : World} {v : Nat → Int64} (k : LawK X K0 K H0 a9 b9) (hroom : a9 + 1 ≤ room_1.cells ∧ b9 + 6 ≤ room_1.slots) (hi : i + 8 ≤ X.n) (hN : X.n ≤ 4096) (hI : I wA wB) (hs : St_atom I) (hend : LawE X K0 H0 I a9 b9 i) : Jj K (WdZ X H0) (wA, wB, v) 544 (lawL X i o5 o6) [] := by
  have o := k.1
  have g := k.2.1
  have kc := k.2.2.1
  have kr := k.kr ⟨by omega, by omega⟩
  by_cases hb : sc X (i + 2) = 0
  · skip
    refine J_aload_n o dL_law_544 rfl ?_
    refine J_aldO_n o dL_law_545 rfl ?_
    refine J_iload o dL_law_546 rfl ?_
    refine J_iconst o dL_law_548 ?_
    refine J_iadd o dL_law_549 ?_
    refine J_sld (n := i + 1) o g dL_law_550 ((wr_of ⟨by omega, by omega⟩).trans (by omega)) (by omega) hN ?_
    refine J_aldO_n o dL_law_551 rfl ?_
    refine J_iload o dL_law_552 rfl ?_
    refine J_iconst o dL_law_554 ?_
    refine J_iadd o dL_law_555 ?_
    refine J_sld (n := i + 2) o g dL_law_556 ((wr_of ⟨by omega, by omega⟩).trans (by omega)) (by omega) hN ?_
    refine J_if_eq 564 o dL_law_557 (by decide) (R_sc _ _) (fun c => ?_) (fun c => absurd hb c)
    refine J_iconst o dL_law_564 ?_
    refine J_aldO_n o dL_law_565 rfl ?_
    refine J_iload o dL_law_566 rfl ?_
    refine J_iconst o dL_law_568 ?_
    refine J_iadd o dL_law_569 ?_
    refine J_sld (n := i + 3) o g dL_law_570 ((wr_of ⟨by omega, by omega⟩).trans (by omega)) (by omega) hN ?_
    refine J_aldO_n o dL_law_571 rfl ?_
    refine J_iload o dL_law_572 rfl ?_
    refine J_iconst o dL_law_574 ?_
    refine J_iadd o dL_law_575 ?_
    refine J_sld (n := i + 4) o g dL_law_576 ((wr_of ⟨by omega, by omega⟩).trans (by omega)) (by omega) hN ?_
    refine J_aldO_n o dL_law_577 rfl ?_
    refine J_iload o dL_law_578 rfl ?_
    refine J_iconst o dL_law_580 ?_
    refine J_iadd o dL_law_581 ?_
    refine J_sld (n := i + 5) o g dL_law_582 ((wr_of ⟨by omega, by omega⟩).trans (by omega)) (by omega) hN ?_
    refine J_aldO_n o dL_law_583 rfl ?_
    obtain ⟨oA, oB, hA, hB, hT, hn, hv, hI2⟩ := hs hI (sc X (i + 1)) 0 (sc X (i + 3)) (sc X (i + 4)) (sc X (i + 5)) (R_sc _ _) rl0 (R_sc _ _) (R_sc _ _) (R_sc _ _)
    refine J_wO (np := 7) (vs := [rf X.A.ad 1, .int (ii (sc X (i + 1))), .int (ii 0), .int (ii (sc X (i + 3))), .int (ii (sc X (i + 4))), .int (ii (sc X (i + 5))), .ref X.O.2]) o g kc dL_law_584 mw957 mw959 mw958 mw162 ⟨by decide +kernel, by decide +kernel, by decide +kernel⟩ ⟨rfl, rfl, Nat.le_of_ble_eq_true rfl, Nat.le_of_ble_eq_true rfl⟩ hroom (c_L_atom k.st g.2.1.1 g.2.1.2.2.1 (R_sc _ _) rl0 (R_sc _ _) (R_sc _ _) (R_sc _ _) hA hn) rfl rfl c1s_0 (fun u hu hr => ?_)
    replace o := OkO.add (a' := 1) (b' := 6) o
    replace g := GdZ.add (a := 1) (b := 6) g
    replace kr := (k.add).kr hroom
    refine J_istore o dL_law_587 (Nat.le_of_ble_eq_true rfl) ?_
    refine J_aload_n o dL_law_589 rfl ?_
    refine J_aldO_n o dL_law_590 rfl ?_
    refine J_iload o dL_law_591 rfl ?_
    refine J_iconst o dL_law_593 ?_
    refine J_iadd o dL_law_594 ?_
    refine J_sld (n := i + 1) o g dL_law_595 ((wr_of ⟨by omega, by omega⟩).trans (by omega)) (by omega) hN ?_
    refine J_aldO_n o dL_law_596 rfl ?_
    refine J_iload o dL_law_597 rfl ?_
    refine J_iconst o dL_law_599 ?_
    refine J_iadd o dL_law_600 ?_
    refine J_sld (n := i + 2) o g dL_law_601 ((wr_of ⟨by omega, by omega⟩).trans (by omega)) (by omega) hN ?_
    refine J_if_eq 609 o dL_law_602 (by decide) (R_sc _ _) (fun c => ?_) (fun c => absurd hb c)
    refine J_iconst o dL_law_609 ?_
    refine J_aldO_n o dL_law_610 rfl ?_
    refine J_iload o dL_law_611 rfl ?_
    refine J_iconst o dL_law_613 ?_
    refine J_iadd o dL_law_614 ?_
    refine J_sld (n := i + 3) o g dL_law_615 ((wr_of ⟨by omega, by omega⟩).trans (by omega)) (by omega) hN ?_
    refine J_aldO_n o dL_law_616 rfl ?_
    refine J_iload o dL_law_617 rfl ?_
    refine J_iconst o dL_law_619 ?_
    refine J_iadd o dL_law_620 ?_
    refine J_sld (n := i + 4) o g dL_law_621 ((wr_of ⟨by omega, by omega⟩).trans (by omega)) (by omega) hN ?_
    refine J_aldO_n o dL_law_622 rfl ?_
    refine J_iload o dL_law_623 rfl ?_
    refine J_iconst o dL_law_625 ?_
    refine J_iadd o dL_law_626 ?_
    refine J_sld (n := i + 5) o g dL_law_627 ((wr_of ⟨by omega, by omega⟩).trans (by omega)) (by omega) hN ?_
    refine J_bI (vs := [.int (ii (sc X (i + 1))), .int (ii 0), .int (ii (sc X (i + 3))), .int (ii (sc X (i + 4))), .int (ii (sc X (i + 5)))]) o g kr dL_law_628 lkL_131 ml_Re_atom vl_Re_atom ⟨rfl, rfl, Nat.le_of_ble_eq_true rfl, Nat.le_of_ble_eq_true rfl⟩ (c_Re_atom g.2.1.2.1 (R_sc _ _) rl0 (R_sc _ _) (R_sc _ _) (R_sc _ _) hB) kB_1 rfl ⟨by decide, by decide⟩ rfl rfl c1s_0 (fun hrB => ?_)
    refine J_istore o dL_law_631 (Nat.le_of_ble_eq_true rfl) ?_
    refine J_aload_n o dL_law_633 rfl ?_
    refine J_bI (vs := []) o g kr dL_law_634 lkL_110 ml_Re_thrown vl_Re_thrown ⟨rfl, rfl, Nat.le_of_ble_eq_true rfl, Nat.le_of_ble_eq_true rfl⟩ (c_Re_thrown g.2.1.2.1 hT) kB_1 rfl ⟨by decide, by decide⟩ rfl rfl c1s_0 (fun hrT => ?_)
    refine J_iload o dL_law_637 rfl ?_
    refine J_icmp_eq 644 o dL_law_639 (by decide) hrT hr (fun _ => ?_) (fun c => absurd rfl c)
    refine J_iload o dL_law_644 rfl ?_
    refine J_if_ne 661 o dL_law_646 (by decide) hr (fun c => ?_) (fun c => ?_)
    · skip
      refine J_goto 2148 o dL_law_661 (by decide) ?_
      exact hend _ _ _ _ _ _ _ _ k.add ⟨Nat.le_refl _, Nat.le_refl _⟩ hI2
    · have h0 : oA.2.1 = 0 := by
        rcases hn with h | h | h | h
        · exact h
        · rw [h] at c; exact absurd c (by decide)
        · rw [h] at c; exact absurd c (by decide)
        · rw [h] at c; exact absurd c (by decide)
      refine J_aldO_n o dL_law_649 rfl ?_
      refine J_iconst o dL_law_650 ?_
      refine J_lald o g dL_law_651 rfl ?_
      refine J_iload o dL_law_652 rfl ?_
      refine J_i2l o dL_law_654 hrB (fun y hy => ?_)
      refine J_lcmp o dL_law_655 ((hu rfl h0).trans ((hv h0).trans hy.symm)) ?_
      refine J_if_eq 661 o dL_law_656 (by decide) rl0 (fun _ => ?_) (fun c => absurd rfl c)
      refine J_goto 2148 o dL_law_661 (by decide) ?_
      exact hend _ _ _ _ _ _ _ _ k.add ⟨Nat.le_refl _, Nat.le_refl _⟩ hI2
  · skip
    refine J_aload_n o dL_law_544 rfl ?_
    refine J_aldO_n o dL_law_545 rfl ?_
    refine J_iload o dL_law_546 rfl ?_
    refine J_iconst o dL_law_548 ?_
    refine J_iadd o dL_law_549 ?_
    refine J_sld (n := i + 1) o g dL_law_550 ((wr_of ⟨by omega, by omega⟩).trans (by omega)) (by omega) hN ?_
    refine J_aldO_n o dL_law_551 rfl ?_
    refine J_iload o dL_law_552 rfl ?_
    refine J_iconst o dL_law_554 ?_
    refine J_iadd o dL_law_555 ?_
    refine J_sld (n := i + 2) o g dL_law_556 ((wr_of ⟨by omega, by omega⟩).trans (by omega)) (by omega) hN ?_
    refine J_if_eq 564 o dL_law_557 (by decide) (R_sc _ _) (fun c => absurd c hb) (fun c => ?_)
    refine J_iconst o dL_law_560 ?_
    refine J_goto 565 o dL_law_561 (by decide) ?_
    refine J_aldO_n o dL_law_565 rfl ?_
    refine J_iload o dL_law_566 rfl ?_
    refine J_iconst o dL_law_568 ?_
    refine J_iadd o dL_law_569 ?_
    refine J_sld (n := i + 3) o g dL_law_570 ((wr_of ⟨by omega, by omega⟩).trans (by omega)) (by omega) hN ?_
    refine J_aldO_n o dL_law_571 rfl ?_
    refine J_iload o dL_law_572 rfl ?_
    refine J_iconst o dL_law_574 ?_
    refine J_iadd o dL_law_575 ?_
    refine J_sld (n := i + 4) o g dL_law_576 ((wr_of ⟨by omega, by omega⟩).trans (by omega)) (by omega) hN ?_
    refine J_aldO_n o dL_law_577 rfl ?_
    refine J_iload o dL_law_578 rfl ?_
    refine J_iconst o dL_law_580 ?_
    refine J_iadd o dL_law_581 ?_
    refine J_sld (n := i + 5) o g dL_law_582 ((wr_of ⟨by omega, by omega⟩).trans (by omega)) (by omega) hN ?_
    refine J_aldO_n o dL_law_583 rfl ?_
    obtain ⟨oA, oB, hA, hB, hT, hn, hv, hI2⟩ := hs hI (sc X (i + 1)) 1 (sc X (i + 3)) (sc X (i + 4)) (sc X (i + 5)) (R_sc _ _) rl1 (R_sc _ _) (R_sc _ _) (R_sc _ _)
    refine J_wO (np := 7) (vs := [rf X.A.ad 1, .int (ii (sc X (i + 1))), .int (ii 1), .int (ii (sc X (i + 3))), .int (ii (sc X (i + 4))), .int (ii (sc X (i + 5))), .ref X.O.2]) o g kc dL_law_584 mw957 mw959 mw958 mw162 ⟨by decide +kernel, by decide +kernel, by decide +kernel⟩ ⟨rfl, rfl, Nat.le_of_ble_eq_true rfl, Nat.le_of_ble_eq_true rfl⟩ hroom (c_L_atom k.st g.2.1.1 g.2.1.2.2.1 (R_sc _ _) rl1 (R_sc _ _) (R_sc _ _) (R_sc _ _) hA hn) rfl rfl c1s_0 (fun u hu hr => ?_)
    replace o := OkO.add (a' := 1) (b' := 6) o
    replace g := GdZ.add (a := 1) (b := 6) g
    replace kr := (k.add).kr hroom
    refine J_istore o dL_law_587 (Nat.le_of_ble_eq_true rfl) ?_
    refine J_aload_n o dL_law_589 rfl ?_
    refine J_aldO_n o dL_law_590 rfl ?_
    refine J_iload o dL_law_591 rfl ?_
    refine J_iconst o dL_law_593 ?_
    refine J_iadd o dL_law_594 ?_
    refine J_sld (n := i + 1) o g dL_law_595 ((wr_of ⟨by omega, by omega⟩).trans (by omega)) (by omega) hN ?_
    refine J_aldO_n o dL_law_596 rfl ?_
    refine J_iload o dL_law_597 rfl ?_
    refine J_iconst o dL_law_599 ?_
    refine J_iadd o dL_law_600 ?_
    refine J_sld (n := i + 2) o g dL_law_601 ((wr_of ⟨by omega, by omega⟩).trans (by omega)) (by omega) hN ?_
    refine J_if_eq 609 o dL_law_602 (by decide) (R_sc _ _) (fun c => absurd c hb) (fun c => ?_)
    refine J_iconst o dL_law_605 ?_
    refine J_goto 610 o dL_law_606 (by decide) ?_
    refine J_aldO_n o dL_law_610 rfl ?_
    refine J_iload o dL_law_611 rfl ?_
    refine J_iconst o dL_law_613 ?_
    refine J_iadd o dL_law_614 ?_
    refine J_sld (n := i + 3) o g dL_law_615 ((wr_of ⟨by omega, by omega⟩).trans (by omega)) (by omega) hN ?_
    refine J_aldO_n o dL_law_616 rfl ?_
    refine J_iload o dL_law_617 rfl ?_
    refine J_iconst o dL_law_619 ?_
    refine J_iadd o dL_law_620 ?_
    refine J_sld (n := i + 4) o g dL_law_621 ((wr_of ⟨by omega, by omega⟩).trans (by omega)) (by omega) hN ?_
    refine J_aldO_n o dL_law_622 rfl ?_
    refine J_iload o dL_law_623 rfl ?_
    refine J_iconst o dL_law_625 ?_
    refine J_iadd o dL_law_626 ?_
    refine J_sld (n := i + 5) o g dL_law_627 ((wr_of ⟨by omega, by omega⟩).trans (by omega)) (by omega) hN ?_
    refine J_bI (vs := [.int (ii (sc X (i + 1))), .int (ii 1), .int (ii (sc X (i + 3))), .int (ii (sc X (i + 4))), .int (ii (sc X (i + 5)))]) o g kr dL_law_628 lkL_131 ml_Re_atom vl_Re_atom ⟨rfl, rfl, Nat.le_of_ble_eq_true rfl, Nat.le_of_ble_eq_true rfl⟩ (c_Re_atom g.2.1.2.1 (R_sc _ _) rl1 (R_sc _ _) (R_sc _ _) (R_sc _ _) hB) kB_1 rfl ⟨by decide, by decide⟩ rfl rfl c1s_0 (fun hrB => ?_)
    refine J_istore o dL_law_631 (Nat.le_of_ble_eq_true rfl) ?_
    refine J_aload_n o dL_law_633 rfl ?_
    refine J_bI (vs := []) o g kr dL_law_634 lkL_110 ml_Re_thrown vl_Re_thrown ⟨rfl, rfl, Nat.le_of_ble_eq_true rfl, Nat.le_of_ble_eq_true rfl⟩ (c_Re_thrown g.2.1.2.1 hT) kB_1 rfl ⟨by decide, by decide⟩ rfl rfl c1s_0 (fun hrT => ?_)
    refine J_iload o dL_law_637 rfl ?_
    refine J_icmp_eq 644 o dL_law_639 (by decide) hrT hr (fun _ => ?_) (fun c => absurd rfl c)
    refine J_iload o dL_law_644 rfl ?_
    refine J_if_ne 661 o dL_law_646 (by decide) hr (fun c => ?_) (fun c => ?_)
    · skip
      refine J_goto 2148 o dL_law_661 (by decide) ?_
      exact hend _ _ _ _ _ _ _ _ k.add ⟨Nat.le_refl _, Nat.le_refl _⟩ hI2
    · have h0 : oA.2.1 = 0 := by
        rcases hn with h | h | h | h
        · exact h
        · rw [h] at c; exact absurd c (by decide)
        · rw [h] at c; exact absurd c (by decide)
        · rw [h] at c; exact absurd c (by decide)
      refine J_aldO_n o dL_law_649 rfl ?_
      refine J_iconst o dL_law_650 ?_
      refine J_lald o g dL_law_651 rfl ?_
      refine J_iload o dL_law_652 rfl ?_
      refine J_i2l o dL_law_654 hrB (fun y hy => ?_)
      refine J_lcmp o dL_law_655 ((hu rfl h0).trans ((hv h0).trans hy.symm)) ?_
      refine J_if_eq 661 o dL_law_656 (by decide) rl0 (fun _ => ?_) (fun c => absurd rfl c)
      refine J_goto 2148 o dL_law_661 (by decide) ?_
      exact hend _ _ _ _ _ _ _ _ k.add ⟨Nat.le_refl _, Nat.le_refl _⟩ hI2
def St_compare (I : World → World → Prop) : Prop := ∀ {wA wB : World}, I wA wB → ∀ x1 x2 x3 : Int, R32 x1 → R32 x2 → R32 x3 → ∃ (oA : World × Nat × Int) (oB : World × Int), f_Dm_compare wA x1 x2 x3 = some oA ∧ f_Re_compare wB x1 x2 x3 = some oB ∧ f_Re_thrown oB.1 = some (hmL 1 2 3 oA.2.1) ∧ (oA.2.1 = 0 ∨ oA.2.1 = 1 ∨ oA.2.1 = 2 ∨ oA.2.1 = 3) ∧ (oA.2.1 = 0 → oA.2.2 = oB.2) ∧ I oA.1 oB.1
theorem lz_compare {X : LX} {K0 K : KT} {H0 : Heap} {I : World → World → Prop} {a9 b9 i : Nat} {o5 o6 : Option Value} {wA wB : World} {v : Nat → Int64} (k : LawK X K0 K H0 a9 b9) (hroom : a9 + 1 ≤ room_1.cells ∧ b9 + 6 ≤ room_1.slots) (hi : i + 8 ≤ X.n) (hN : X.n ≤ 4096) (hI : I wA wB) (hs : St_compare I) (hend : LawE X K0 H0 I a9 b9 i) : Jj K (WdZ X H0) (wA, wB, v) 664 (lawL X i o5 o6) [] := by
  have o := k.1
  have g := k.2.1
  have kc := k.2.2.1
  have kr := k.kr ⟨by omega, by omega⟩
  refine J_aload_n o dL_law_664 rfl ?_
  refine J_aldO_n o dL_law_665 rfl ?_
  refine J_iload o dL_law_666 rfl ?_
  refine J_iconst o dL_law_668 ?_
  refine J_iadd o dL_law_669 ?_
  refine J_sld (n := i + 1) o g dL_law_670 ((wr_of ⟨by omega, by omega⟩).trans (by omega)) (by omega) hN ?_
  refine J_aldO_n o dL_law_671 rfl ?_
  refine J_iload o dL_law_672 rfl ?_
  refine J_iconst o dL_law_674 ?_
  refine J_iadd o dL_law_675 ?_
  refine J_sld (n := i + 2) o g dL_law_676 ((wr_of ⟨by omega, by omega⟩).trans (by omega)) (by omega) hN ?_
  refine J_aldO_n o dL_law_677 rfl ?_
  refine J_iload o dL_law_678 rfl ?_
  refine J_iconst o dL_law_680 ?_
  refine J_iadd o dL_law_681 ?_
  refine J_sld (n := i + 3) o g dL_law_682 ((wr_of ⟨by omega, by omega⟩).trans (by omega)) (by omega) hN ?_
  refine J_aldO_n o dL_law_683 rfl ?_
  obtain ⟨oA, oB, hA, hB, hT, hn, hv, hI2⟩ := hs hI (sc X (i + 1)) (sc X (i + 2)) (sc X (i + 3)) (R_sc _ _) (R_sc _ _) (R_sc _ _)
  refine J_wO (np := 5) (vs := [rf X.A.ad 1, .int (ii (sc X (i + 1))), .int (ii (sc X (i + 2))), .int (ii (sc X (i + 3))), .ref X.O.2]) o g kc dL_law_684 mw974 mw976 mw975 mw162 ⟨by decide +kernel, by decide +kernel, by decide +kernel⟩ ⟨rfl, rfl, Nat.le_of_ble_eq_true rfl, Nat.le_of_ble_eq_true rfl⟩ hroom (c_L_compare k.st g.2.1.1 g.2.1.2.2.1 (R_sc _ _) (R_sc _ _) (R_sc _ _) hA hn) rfl rfl c1s_0 (fun u hu hr => ?_)
  replace o := OkO.add (a' := 1) (b' := 6) o
  replace g := GdZ.add (a := 1) (b := 6) g
  replace kr := (k.add).kr hroom
  refine J_istore o dL_law_687 (Nat.le_of_ble_eq_true rfl) ?_
  refine J_aload_n o dL_law_689 rfl ?_
  refine J_aldO_n o dL_law_690 rfl ?_
  refine J_iload o dL_law_691 rfl ?_
  refine J_iconst o dL_law_693 ?_
  refine J_iadd o dL_law_694 ?_
  refine J_sld (n := i + 1) o g dL_law_695 ((wr_of ⟨by omega, by omega⟩).trans (by omega)) (by omega) hN ?_
  refine J_aldO_n o dL_law_696 rfl ?_
  refine J_iload o dL_law_697 rfl ?_
  refine J_iconst o dL_law_699 ?_
  refine J_iadd o dL_law_700 ?_
  refine J_sld (n := i + 2) o g dL_law_701 ((wr_of ⟨by omega, by omega⟩).trans (by omega)) (by omega) hN ?_
  refine J_aldO_n o dL_law_702 rfl ?_
  refine J_iload o dL_law_703 rfl ?_
  refine J_iconst o dL_law_705 ?_
  refine J_iadd o dL_law_706 ?_
  refine J_sld (n := i + 3) o g dL_law_707 ((wr_of ⟨by omega, by omega⟩).trans (by omega)) (by omega) hN ?_
  refine J_bI (vs := [.int (ii (sc X (i + 1))), .int (ii (sc X (i + 2))), .int (ii (sc X (i + 3)))]) o g kr dL_law_708 lkL_135 ml_Re_compare vl_Re_compare ⟨rfl, rfl, Nat.le_of_ble_eq_true rfl, Nat.le_of_ble_eq_true rfl⟩ (c_Re_compare g.2.1.2.1 (R_sc _ _) (R_sc _ _) (R_sc _ _) hB) kB_1 rfl ⟨by decide, by decide⟩ rfl rfl c1s_0 (fun hrB => ?_)
  refine J_istore o dL_law_711 (Nat.le_of_ble_eq_true rfl) ?_
  refine J_aload_n o dL_law_713 rfl ?_
  refine J_bI (vs := []) o g kr dL_law_714 lkL_110 ml_Re_thrown vl_Re_thrown ⟨rfl, rfl, Nat.le_of_ble_eq_true rfl, Nat.le_of_ble_eq_true rfl⟩ (c_Re_thrown g.2.1.2.1 hT) kB_1 rfl ⟨by decide, by decide⟩ rfl rfl c1s_0 (fun hrT => ?_)
  refine J_iload o dL_law_717 rfl ?_
  refine J_icmp_eq 724 o dL_law_719 (by decide) hrT hr (fun _ => ?_) (fun c => absurd rfl c)
  refine J_iload o dL_law_724 rfl ?_
  refine J_if_ne 741 o dL_law_726 (by decide) hr (fun c => ?_) (fun c => ?_)
  · skip
    refine J_goto 2148 o dL_law_741 (by decide) ?_
    exact hend _ _ _ _ _ _ _ _ k.add ⟨Nat.le_refl _, Nat.le_refl _⟩ hI2
  · have h0 : oA.2.1 = 0 := by
      rcases hn with h | h | h | h
      · exact h
      · rw [h] at c; exact absurd c (by decide)
      · rw [h] at c; exact absurd c (by decide)
      · rw [h] at c; exact absurd c (by decide)
    refine J_aldO_n o dL_law_729 rfl ?_
    refine J_iconst o dL_law_730 ?_
    refine J_lald o g dL_law_731 rfl ?_
    refine J_iload o dL_law_732 rfl ?_
    refine J_i2l o dL_law_734 hrB (fun y hy => ?_)
    refine J_lcmp o dL_law_735 ((hu rfl h0).trans ((hv h0).trans hy.symm)) ?_
    refine J_if_eq 741 o dL_law_736 (by decide) rl0 (fun _ => ?_) (fun c => absurd rfl c)
    refine J_goto 2148 o dL_law_741 (by decide) ?_
    exact hend _ _ _ _ _ _ _ _ k.add ⟨Nat.le_refl _, Nat.le_refl _⟩ hI2
def St_add (I : World → World → Prop) : Prop := ∀ {wA wB : World}, I wA wB → ∀ x1 x2 x3 : Int, R32 x1 → R32 x2 → R32 x3 → ∃ (oA : World × Nat × Int) (oB : World × Int), f_Dm_add wA x1 x2 x3 = some oA ∧ f_Re_add wB x1 x2 x3 = some oB ∧ f_Re_thrown oB.1 = some (hmL 0 1 2 oA.2.1) ∧ (oA.2.1 = 0 ∨ oA.2.1 = 2 ∨ oA.2.1 = 3) ∧ (oA.2.1 = 0 → oA.2.2 = oB.2) ∧ I oA.1 oB.1
theorem lz_add {X : LX} {K0 K : KT} {H0 : Heap} {I : World → World → Prop} {a9 b9 i : Nat} {o5 o6 : Option Value} {wA wB : World} {v : Nat → Int64} (k : LawK X K0 K H0 a9 b9) (hroom : a9 + 1 ≤ room_1.cells ∧ b9 + 6 ≤ room_1.slots) (hi : i + 8 ≤ X.n) (hN : X.n ≤ 4096) (hI : I wA wB) (hs : St_add I) (hend : LawE X K0 H0 I a9 b9 i) : Jj K (WdZ X H0) (wA, wB, v) 744 (lawL X i o5 o6) [] := by
  have o := k.1
  have g := k.2.1
  have kc := k.2.2.1
  have kr := k.kr ⟨by omega, by omega⟩
  refine J_aload_n o dL_law_744 rfl ?_
  refine J_aldO_n o dL_law_745 rfl ?_
  refine J_iload o dL_law_746 rfl ?_
  refine J_iconst o dL_law_748 ?_
  refine J_iadd o dL_law_749 ?_
  refine J_sld (n := i + 1) o g dL_law_750 ((wr_of ⟨by omega, by omega⟩).trans (by omega)) (by omega) hN ?_
  refine J_aldO_n o dL_law_751 rfl ?_
  refine J_iload o dL_law_752 rfl ?_
  refine J_iconst o dL_law_754 ?_
  refine J_iadd o dL_law_755 ?_
  refine J_sld (n := i + 2) o g dL_law_756 ((wr_of ⟨by omega, by omega⟩).trans (by omega)) (by omega) hN ?_
  refine J_aldO_n o dL_law_757 rfl ?_
  refine J_iload o dL_law_758 rfl ?_
  refine J_iconst o dL_law_760 ?_
  refine J_iadd o dL_law_761 ?_
  refine J_sld (n := i + 3) o g dL_law_762 ((wr_of ⟨by omega, by omega⟩).trans (by omega)) (by omega) hN ?_
  refine J_aldO_n o dL_law_763 rfl ?_
  obtain ⟨oA, oB, hA, hB, hT, hn, hv, hI2⟩ := hs hI (sc X (i + 1)) (sc X (i + 2)) (sc X (i + 3)) (R_sc _ _) (R_sc _ _) (R_sc _ _)
  refine J_wO (np := 5) (vs := [rf X.A.ad 1, .int (ii (sc X (i + 1))), .int (ii (sc X (i + 2))), .int (ii (sc X (i + 3))), .ref X.O.2]) o g kc dL_law_764 mw983 mw985 mw984 mw162 ⟨by decide +kernel, by decide +kernel, by decide +kernel⟩ ⟨rfl, rfl, Nat.le_of_ble_eq_true rfl, Nat.le_of_ble_eq_true rfl⟩ hroom (c_L_add k.st g.2.1.1 g.2.1.2.2.1 (R_sc _ _) (R_sc _ _) (R_sc _ _) hA hn) rfl rfl c1s_0 (fun u hu hr => ?_)
  replace o := OkO.add (a' := 1) (b' := 6) o
  replace g := GdZ.add (a := 1) (b := 6) g
  replace kr := (k.add).kr hroom
  refine J_istore o dL_law_767 (Nat.le_of_ble_eq_true rfl) ?_
  refine J_aload_n o dL_law_769 rfl ?_
  refine J_aldO_n o dL_law_770 rfl ?_
  refine J_iload o dL_law_771 rfl ?_
  refine J_iconst o dL_law_773 ?_
  refine J_iadd o dL_law_774 ?_
  refine J_sld (n := i + 1) o g dL_law_775 ((wr_of ⟨by omega, by omega⟩).trans (by omega)) (by omega) hN ?_
  refine J_aldO_n o dL_law_776 rfl ?_
  refine J_iload o dL_law_777 rfl ?_
  refine J_iconst o dL_law_779 ?_
  refine J_iadd o dL_law_780 ?_
  refine J_sld (n := i + 2) o g dL_law_781 ((wr_of ⟨by omega, by omega⟩).trans (by omega)) (by omega) hN ?_
  refine J_aldO_n o dL_law_782 rfl ?_
  refine J_iload o dL_law_783 rfl ?_
  refine J_iconst o dL_law_785 ?_
  refine J_iadd o dL_law_786 ?_
  refine J_sld (n := i + 3) o g dL_law_787 ((wr_of ⟨by omega, by omega⟩).trans (by omega)) (by omega) hN ?_
  refine J_bI (vs := [.int (ii (sc X (i + 1))), .int (ii (sc X (i + 2))), .int (ii (sc X (i + 3)))]) o g kr dL_law_788 lkL_138 ml_Re_add vl_Re_add ⟨rfl, rfl, Nat.le_of_ble_eq_true rfl, Nat.le_of_ble_eq_true rfl⟩ (c_Re_add g.2.1.2.1 (R_sc _ _) (R_sc _ _) (R_sc _ _) hB) kB_1 rfl ⟨by decide, by decide⟩ rfl rfl c1s_0 (fun hrB => ?_)
  refine J_istore o dL_law_791 (Nat.le_of_ble_eq_true rfl) ?_
  refine J_aload_n o dL_law_793 rfl ?_
  refine J_bI (vs := []) o g kr dL_law_794 lkL_110 ml_Re_thrown vl_Re_thrown ⟨rfl, rfl, Nat.le_of_ble_eq_true rfl, Nat.le_of_ble_eq_true rfl⟩ (c_Re_thrown g.2.1.2.1 hT) kB_1 rfl ⟨by decide, by decide⟩ rfl rfl c1s_0 (fun hrT => ?_)
  refine J_iload o dL_law_797 rfl ?_
  refine J_icmp_eq 804 o dL_law_799 (by decide) hrT hr (fun _ => ?_) (fun c => absurd rfl c)
  refine J_iload o dL_law_804 rfl ?_
  refine J_if_ne 821 o dL_law_806 (by decide) hr (fun c => ?_) (fun c => ?_)
  · skip
    refine J_goto 2148 o dL_law_821 (by decide) ?_
    exact hend _ _ _ _ _ _ _ _ k.add ⟨Nat.le_refl _, Nat.le_refl _⟩ hI2
  · have h0 : oA.2.1 = 0 := by
      rcases hn with h | h | h
      · exact h
      · rw [h] at c; exact absurd c (by decide)
      · rw [h] at c; exact absurd c (by decide)
    refine J_aldO_n o dL_law_809 rfl ?_
    refine J_iconst o dL_law_810 ?_
    refine J_lald o g dL_law_811 rfl ?_
    refine J_iload o dL_law_812 rfl ?_
    refine J_i2l o dL_law_814 hrB (fun y hy => ?_)
    refine J_lcmp o dL_law_815 ((hu rfl h0).trans ((hv h0).trans hy.symm)) ?_
    refine J_if_eq 821 o dL_law_816 (by decide) rl0 (fun _ => ?_) (fun c => absurd rfl c)
    refine J_goto 2148 o dL_law_821 (by decide) ?_
    exact hend _ _ _ _ _ _ _ _ k.add ⟨Nat.le_refl _, Nat.le_refl _⟩ hI2
def St_clear (I : World → World → Prop) : Prop := ∀ {wA wB : World}, I wA wB → ∃ oA oB : World × Int, f_Dm_clear wA = some oA ∧ f_Re_clear wB = some oB ∧ oA.2 = oB.2 ∧ I oA.1 oB.1
theorem lz_clear {X : LX} {K0 K : KT} {H0 : Heap} {I : World → World → Prop} {a9 b9 i : Nat} {o5 o6 : Option Value} {wA wB : World} {v : Nat → Int64} (k : LawK X K0 K H0 a9 b9) (hroom : a9 + 1 ≤ room_1.cells ∧ b9 + 6 ≤ room_1.slots) (hi : i + 8 ≤ X.n) (hN : X.n ≤ 4096) (hI : I wA wB) (hs : St_clear I) (hend : LawE X K0 H0 I a9 b9 i) : Jj K (WdZ X H0) (wA, wB, v) 824 (lawL X i o5 o6) [] := by
  have o := k.1
  have g := k.2.1
  have kc := k.2.2.1
  have kr := k.kr ⟨by omega, by omega⟩
  refine J_aload_n o dL_law_824 rfl ?_
  obtain ⟨oA, oB, hA, hB, hv, hI2⟩ := hs hI
  refine J_aI (vs := []) o g kr dL_law_825 lkL_139 ml_Dm_clear vl_Dm_clear ⟨rfl, rfl, Nat.le_of_ble_eq_true rfl, Nat.le_of_ble_eq_true rfl⟩ (c_Dm_clear g.2.1.1 hA) kA_1 rfl ⟨by decide, by decide⟩ rfl rfl c1s_0 (fun hrA => ?_)
  refine J_aload_n o dL_law_828 rfl ?_
  refine J_bI (vs := []) o g kr dL_law_829 lkL_142 ml_Re_clear vl_Re_clear ⟨rfl, rfl, Nat.le_of_ble_eq_true rfl, Nat.le_of_ble_eq_true rfl⟩ (c_Re_clear g.2.1.2.1 hB) kB_1 rfl ⟨by decide, by decide⟩ rfl rfl (c1s_i c1s_0 (Nat.le_of_ble_eq_true rfl)) (fun hrB => ?_)
  refine J_icmp_eq 2148 o dL_law_832 (by decide) hrA hrB (fun _ => ?_) (fun c => absurd hv c)
  exact hend _ _ _ _ _ _ _ _ k ⟨by omega, by omega⟩ hI2
def St_enter (I : World → World → Prop) : Prop := ∀ {wA wB : World}, I wA wB → ∃ (oA : World × Nat × Int) (oB : World × Int), f_Dm_enter wA = some oA ∧ f_Re_enter wB = some oB ∧ f_Re_thrown oB.1 = some (hmL 0 1 2 oA.2.1) ∧ (oA.2.1 = 0 ∨ oA.2.1 = 2 ∨ oA.2.1 = 3) ∧ (oA.2.1 = 0 → oA.2.2 = oB.2) ∧ I oA.1 oB.1
theorem lz_enter {X : LX} {K0 K : KT} {H0 : Heap} {I : World → World → Prop} {a9 b9 i : Nat} {o5 o6 : Option Value} {wA wB : World} {v : Nat → Int64} (k : LawK X K0 K H0 a9 b9) (hroom : a9 + 1 ≤ room_1.cells ∧ b9 + 6 ≤ room_1.slots) (hi : i + 8 ≤ X.n) (hN : X.n ≤ 4096) (hI : I wA wB) (hs : St_enter I) (hend : LawE X K0 H0 I a9 b9 i) : Jj K (WdZ X H0) (wA, wB, v) 837 (lawL X i o5 o6) [] := by
  have o := k.1
  have g := k.2.1
  have kc := k.2.2.1
  have kr := k.kr ⟨by omega, by omega⟩
  refine J_aload_n o dL_law_837 rfl ?_
  refine J_aldO_n o dL_law_838 rfl ?_
  obtain ⟨oA, oB, hA, hB, hT, hn, hv, hI2⟩ := hs hI
  refine J_wO (np := 2) (vs := [rf X.A.ad 1, .ref X.O.2]) o g kc dL_law_839 mw990 mw992 mw991 mw162 ⟨by decide +kernel, by decide +kernel, by decide +kernel⟩ ⟨rfl, rfl, Nat.le_of_ble_eq_true rfl, Nat.le_of_ble_eq_true rfl⟩ hroom (c_L_enter k.st g.2.1.1 g.2.1.2.2.1  hA hn) rfl rfl c1s_0 (fun u hu hr => ?_)
  replace o := OkO.add (a' := 1) (b' := 6) o
  replace g := GdZ.add (a := 1) (b := 6) g
  replace kr := (k.add).kr hroom
  refine J_istore o dL_law_842 (Nat.le_of_ble_eq_true rfl) ?_
  refine J_aload_n o dL_law_844 rfl ?_
  refine J_bI (vs := []) o g kr dL_law_845 lkL_145 ml_Re_enter vl_Re_enter ⟨rfl, rfl, Nat.le_of_ble_eq_true rfl, Nat.le_of_ble_eq_true rfl⟩ (c_Re_enter g.2.1.2.1 hB) kB_1 rfl ⟨by decide, by decide⟩ rfl rfl c1s_0 (fun hrB => ?_)
  refine J_istore o dL_law_848 (Nat.le_of_ble_eq_true rfl) ?_
  refine J_aload_n o dL_law_850 rfl ?_
  refine J_bI (vs := []) o g kr dL_law_851 lkL_110 ml_Re_thrown vl_Re_thrown ⟨rfl, rfl, Nat.le_of_ble_eq_true rfl, Nat.le_of_ble_eq_true rfl⟩ (c_Re_thrown g.2.1.2.1 hT) kB_1 rfl ⟨by decide, by decide⟩ rfl rfl c1s_0 (fun hrT => ?_)
  refine J_iload o dL_law_854 rfl ?_
  refine J_icmp_eq 861 o dL_law_856 (by decide) hrT hr (fun _ => ?_) (fun c => absurd rfl c)
  refine J_iload o dL_law_861 rfl ?_
  refine J_if_ne 878 o dL_law_863 (by decide) hr (fun c => ?_) (fun c => ?_)
  · skip
    refine J_goto 2148 o dL_law_878 (by decide) ?_
    exact hend _ _ _ _ _ _ _ _ k.add ⟨Nat.le_refl _, Nat.le_refl _⟩ hI2
  · have h0 : oA.2.1 = 0 := by
      rcases hn with h | h | h
      · exact h
      · rw [h] at c; exact absurd c (by decide)
      · rw [h] at c; exact absurd c (by decide)
    refine J_aldO_n o dL_law_866 rfl ?_
    refine J_iconst o dL_law_867 ?_
    refine J_lald o g dL_law_868 rfl ?_
    refine J_iload o dL_law_869 rfl ?_
    refine J_i2l o dL_law_871 hrB (fun y hy => ?_)
    refine J_lcmp o dL_law_872 ((hu rfl h0).trans ((hv h0).trans hy.symm)) ?_
    refine J_if_eq 878 o dL_law_873 (by decide) rl0 (fun _ => ?_) (fun c => absurd rfl c)
    refine J_goto 2148 o dL_law_878 (by decide) ?_
    exact hend _ _ _ _ _ _ _ _ k.add ⟨Nat.le_refl _, Nat.le_refl _⟩ hI2
def St_deny (I : World → World → Prop) : Prop := ∀ {wA wB : World}, I wA wB → ∃ (oA : World × Nat × Int) (oB : World × Int), f_Dm_deny wA = some oA ∧ f_Re_deny wB = some oB ∧ f_Re_thrown oB.1 = some (hmL 0 1 2 oA.2.1) ∧ (oA.2.1 = 0 ∨ oA.2.1 = 2 ∨ oA.2.1 = 3) ∧ (oA.2.1 = 0 → oA.2.2 = oB.2) ∧ I oA.1 oB.1
theorem lz_deny {X : LX} {K0 K : KT} {H0 : Heap} {I : World → World → Prop} {a9 b9 i : Nat} {o5 o6 : Option Value} {wA wB : World} {v : Nat → Int64} (k : LawK X K0 K H0 a9 b9) (hroom : a9 + 1 ≤ room_1.cells ∧ b9 + 6 ≤ room_1.slots) (hi : i + 8 ≤ X.n) (hN : X.n ≤ 4096) (hI : I wA wB) (hs : St_deny I) (hend : LawE X K0 H0 I a9 b9 i) : Jj K (WdZ X H0) (wA, wB, v) 881 (lawL X i o5 o6) [] := by
  have o := k.1
  have g := k.2.1
  have kc := k.2.2.1
  have kr := k.kr ⟨by omega, by omega⟩
  refine J_aload_n o dL_law_881 rfl ?_
  refine J_aldO_n o dL_law_882 rfl ?_
  obtain ⟨oA, oB, hA, hB, hT, hn, hv, hI2⟩ := hs hI
  refine J_wO (np := 2) (vs := [rf X.A.ad 1, .ref X.O.2]) o g kc dL_law_883 mw1066 mw1068 mw1067 mw162 ⟨by decide +kernel, by decide +kernel, by decide +kernel⟩ ⟨rfl, rfl, Nat.le_of_ble_eq_true rfl, Nat.le_of_ble_eq_true rfl⟩ hroom (c_L_deny k.st g.2.1.1 g.2.1.2.2.1  hA hn) rfl rfl c1s_0 (fun u hu hr => ?_)
  replace o := OkO.add (a' := 1) (b' := 6) o
  replace g := GdZ.add (a := 1) (b := 6) g
  replace kr := (k.add).kr hroom
  refine J_istore o dL_law_886 (Nat.le_of_ble_eq_true rfl) ?_
  refine J_aload_n o dL_law_888 rfl ?_
  refine J_bI (vs := []) o g kr dL_law_889 lkL_148 ml_Re_deny vl_Re_deny ⟨rfl, rfl, Nat.le_of_ble_eq_true rfl, Nat.le_of_ble_eq_true rfl⟩ (c_Re_deny g.2.1.2.1 hB) kB_1 rfl ⟨by decide, by decide⟩ rfl rfl c1s_0 (fun hrB => ?_)
  refine J_istore o dL_law_892 (Nat.le_of_ble_eq_true rfl) ?_
  refine J_aload_n o dL_law_894 rfl ?_
  refine J_bI (vs := []) o g kr dL_law_895 lkL_110 ml_Re_thrown vl_Re_thrown ⟨rfl, rfl, Nat.le_of_ble_eq_true rfl, Nat.le_of_ble_eq_true rfl⟩ (c_Re_thrown g.2.1.2.1 hT) kB_1 rfl ⟨by decide, by decide⟩ rfl rfl c1s_0 (fun hrT => ?_)
  refine J_iload o dL_law_898 rfl ?_
  refine J_icmp_eq 905 o dL_law_900 (by decide) hrT hr (fun _ => ?_) (fun c => absurd rfl c)
  refine J_iload o dL_law_905 rfl ?_
  refine J_if_ne 922 o dL_law_907 (by decide) hr (fun c => ?_) (fun c => ?_)
  · skip
    refine J_goto 2148 o dL_law_922 (by decide) ?_
    exact hend _ _ _ _ _ _ _ _ k.add ⟨Nat.le_refl _, Nat.le_refl _⟩ hI2
  · have h0 : oA.2.1 = 0 := by
      rcases hn with h | h | h
      · exact h
      · rw [h] at c; exact absurd c (by decide)
      · rw [h] at c; exact absurd c (by decide)
    refine J_aldO_n o dL_law_910 rfl ?_
    refine J_iconst o dL_law_911 ?_
    refine J_lald o g dL_law_912 rfl ?_
    refine J_iload o dL_law_913 rfl ?_
    refine J_i2l o dL_law_915 hrB (fun y hy => ?_)
    refine J_lcmp o dL_law_916 ((hu rfl h0).trans ((hv h0).trans hy.symm)) ?_
    refine J_if_eq 922 o dL_law_917 (by decide) rl0 (fun _ => ?_) (fun c => absurd rfl c)
    refine J_goto 2148 o dL_law_922 (by decide) ?_
    exact hend _ _ _ _ _ _ _ _ k.add ⟨Nat.le_refl _, Nat.le_refl _⟩ hI2
def St_remove (I : World → World → Prop) : Prop := ∀ {wA wB : World}, I wA wB → ∀ x1 : Int, R32 x1 → ∃ (oA : World × Nat × Int) (oB : World × Int), f_Dm_remove wA x1 = some oA ∧ f_Re_remove wB x1 = some oB ∧ f_Re_thrown oB.1 = some (hmL 1 0 2 oA.2.1) ∧ (oA.2.1 = 0 ∨ oA.2.1 = 1 ∨ oA.2.1 = 3) ∧ (oA.2.1 = 0 → oA.2.2 = oB.2) ∧ I oA.1 oB.1
theorem lz_remove {X : LX} {K0 K : KT} {H0 : Heap} {I : World → World → Prop} {a9 b9 i : Nat} {o5 o6 : Option Value} {wA wB : World} {v : Nat → Int64} (k : LawK X K0 K H0 a9 b9) (hroom : a9 + 1 ≤ room_1.cells ∧ b9 + 6 ≤ room_1.slots) (hi : i + 8 ≤ X.n) (hN : X.n ≤ 4096) (hI : I wA wB) (hs : St_remove I) (hend : LawE X K0 H0 I a9 b9 i) : Jj K (WdZ X H0) (wA, wB, v) 925 (lawL X i o5 o6) [] := by
  have o := k.1
  have g := k.2.1
  have kc := k.2.2.1
  have kr := k.kr ⟨by omega, by omega⟩
  refine J_aload_n o dL_law_925 rfl ?_
  refine J_aldO_n o dL_law_926 rfl ?_
  refine J_iload o dL_law_927 rfl ?_
  refine J_iconst o dL_law_929 ?_
  refine J_iadd o dL_law_930 ?_
  refine J_sld (n := i + 1) o g dL_law_931 ((wr_of ⟨by omega, by omega⟩).trans (by omega)) (by omega) hN ?_
  refine J_aldO_n o dL_law_932 rfl ?_
  obtain ⟨oA, oB, hA, hB, hT, hn, hv, hI2⟩ := hs hI (sc X (i + 1)) (R_sc _ _)
  refine J_wO (np := 3) (vs := [rf X.A.ad 1, .int (ii (sc X (i + 1))), .ref X.O.2]) o g kc dL_law_933 mw1081 mw1083 mw1082 mw162 ⟨by decide +kernel, by decide +kernel, by decide +kernel⟩ ⟨rfl, rfl, Nat.le_of_ble_eq_true rfl, Nat.le_of_ble_eq_true rfl⟩ hroom (c_L_remove k.st g.2.1.1 g.2.1.2.2.1 (R_sc _ _) hA hn) rfl rfl c1s_0 (fun u hu hr => ?_)
  replace o := OkO.add (a' := 1) (b' := 6) o
  replace g := GdZ.add (a := 1) (b := 6) g
  replace kr := (k.add).kr hroom
  refine J_istore o dL_law_936 (Nat.le_of_ble_eq_true rfl) ?_
  refine J_aload_n o dL_law_938 rfl ?_
  refine J_aldO_n o dL_law_939 rfl ?_
  refine J_iload o dL_law_940 rfl ?_
  refine J_iconst o dL_law_942 ?_
  refine J_iadd o dL_law_943 ?_
  refine J_sld (n := i + 1) o g dL_law_944 ((wr_of ⟨by omega, by omega⟩).trans (by omega)) (by omega) hN ?_
  refine J_bI (vs := [.int (ii (sc X (i + 1)))]) o g kr dL_law_945 lkL_151 ml_Re_remove vl_Re_remove ⟨rfl, rfl, Nat.le_of_ble_eq_true rfl, Nat.le_of_ble_eq_true rfl⟩ (c_Re_remove g.2.1.2.1 (R_sc _ _) hB) kB_1 rfl ⟨by decide, by decide⟩ rfl rfl c1s_0 (fun hrB => ?_)
  refine J_istore o dL_law_948 (Nat.le_of_ble_eq_true rfl) ?_
  refine J_aload_n o dL_law_950 rfl ?_
  refine J_bI (vs := []) o g kr dL_law_951 lkL_110 ml_Re_thrown vl_Re_thrown ⟨rfl, rfl, Nat.le_of_ble_eq_true rfl, Nat.le_of_ble_eq_true rfl⟩ (c_Re_thrown g.2.1.2.1 hT) kB_1 rfl ⟨by decide, by decide⟩ rfl rfl c1s_0 (fun hrT => ?_)
  refine J_iload o dL_law_954 rfl ?_
  refine J_icmp_eq 961 o dL_law_956 (by decide) hrT hr (fun _ => ?_) (fun c => absurd rfl c)
  refine J_iload o dL_law_961 rfl ?_
  refine J_if_ne 978 o dL_law_963 (by decide) hr (fun c => ?_) (fun c => ?_)
  · skip
    refine J_goto 2148 o dL_law_978 (by decide) ?_
    exact hend _ _ _ _ _ _ _ _ k.add ⟨Nat.le_refl _, Nat.le_refl _⟩ hI2
  · have h0 : oA.2.1 = 0 := by
      rcases hn with h | h | h
      · exact h
      · rw [h] at c; exact absurd c (by decide)
      · rw [h] at c; exact absurd c (by decide)
    refine J_aldO_n o dL_law_966 rfl ?_
    refine J_iconst o dL_law_967 ?_
    refine J_lald o g dL_law_968 rfl ?_
    refine J_iload o dL_law_969 rfl ?_
    refine J_i2l o dL_law_971 hrB (fun y hy => ?_)
    refine J_lcmp o dL_law_972 ((hu rfl h0).trans ((hv h0).trans hy.symm)) ?_
    refine J_if_eq 978 o dL_law_973 (by decide) rl0 (fun _ => ?_) (fun c => absurd rfl c)
    refine J_goto 2148 o dL_law_978 (by decide) ?_
    exact hend _ _ _ _ _ _ _ _ k.add ⟨Nat.le_refl _, Nat.le_refl _⟩ hI2
def St_holds (I : World → World → Prop) : Prop := ∀ {wA wB : World}, I wA wB → ∀ x1 x2 x3 x4 : Int, R32 x1 → R32 x2 → R32 x3 → R32 x4 → ∃ (oA : World × Nat × Int) (oB : World × Int), f_Dm_holds wA x1 x2 x3 x4 = some oA ∧ f_Re_holds wB x1 x2 x3 x4 = some oB ∧ f_Re_thrown oB.1 = some (hmL 1 0 0 oA.2.1) ∧ (oA.2.1 = 0 ∨ oA.2.1 = 1) ∧ (oA.2.1 = 0 → oA.2.2 = oB.2) ∧ (oA.2.1 = 0 → oA.2.2 = 0 ∨ oA.2.2 = 1) ∧ I oA.1 oB.1
theorem lz_holds {X : LX} {K0 K : KT} {H0 : Heap} {I : World → World → Prop} {a9 b9 i : Nat} {o5 o6 : Option Value} {wA wB : World} {v : Nat → Int64} (k : LawK X K0 K H0 a9 b9) (hroom : a9 + 1 ≤ room_1.cells ∧ b9 + 6 ≤ room_1.slots) (hi : i + 8 ≤ X.n) (hN : X.n ≤ 4096) (hI : I wA wB) (hs : St_holds I) (hend : LawE X K0 H0 I a9 b9 i) : Jj K (WdZ X H0) (wA, wB, v) 981 (lawL X i o5 o6) [] := by
  have o := k.1
  have g := k.2.1
  have kc := k.2.2.1
  have kr := k.kr ⟨by omega, by omega⟩
  refine J_aload_n o dL_law_981 rfl ?_
  refine J_aldO_n o dL_law_982 rfl ?_
  refine J_iload o dL_law_983 rfl ?_
  refine J_iconst o dL_law_985 ?_
  refine J_iadd o dL_law_986 ?_
  refine J_sld (n := i + 1) o g dL_law_987 ((wr_of ⟨by omega, by omega⟩).trans (by omega)) (by omega) hN ?_
  refine J_aldO_n o dL_law_988 rfl ?_
  refine J_iload o dL_law_989 rfl ?_
  refine J_iconst o dL_law_991 ?_
  refine J_iadd o dL_law_992 ?_
  refine J_sld (n := i + 2) o g dL_law_993 ((wr_of ⟨by omega, by omega⟩).trans (by omega)) (by omega) hN ?_
  refine J_aldO_n o dL_law_994 rfl ?_
  refine J_iload o dL_law_995 rfl ?_
  refine J_iconst o dL_law_997 ?_
  refine J_iadd o dL_law_998 ?_
  refine J_sld (n := i + 3) o g dL_law_999 ((wr_of ⟨by omega, by omega⟩).trans (by omega)) (by omega) hN ?_
  refine J_aldO_n o dL_law_1000 rfl ?_
  refine J_iload o dL_law_1001 rfl ?_
  refine J_iconst o dL_law_1003 ?_
  refine J_iadd o dL_law_1004 ?_
  refine J_sld (n := i + 4) o g dL_law_1005 ((wr_of ⟨by omega, by omega⟩).trans (by omega)) (by omega) hN ?_
  refine J_aldO_n o dL_law_1006 rfl ?_
  obtain ⟨oA, oB, hA, hB, hT, hn, hv, hz, hI2⟩ := hs hI (sc X (i + 1)) (sc X (i + 2)) (sc X (i + 3)) (sc X (i + 4)) (R_sc _ _) (R_sc _ _) (R_sc _ _) (R_sc _ _)
  refine J_wO (np := 6) (vs := [rf X.A.ad 1, .int (ii (sc X (i + 1))), .int (ii (sc X (i + 2))), .int (ii (sc X (i + 3))), .int (ii (sc X (i + 4))), .ref X.O.2]) o g kc dL_law_1007 mw1099 mw1101 mw1100 mw162 ⟨by decide +kernel, by decide +kernel, by decide +kernel⟩ ⟨rfl, rfl, Nat.le_of_ble_eq_true rfl, Nat.le_of_ble_eq_true rfl⟩ hroom (c_L_holds k.st g.2.1.1 g.2.1.2.2.1 (R_sc _ _) (R_sc _ _) (R_sc _ _) (R_sc _ _) hA hn hz) rfl rfl c1s_0 (fun u hu hr => ?_)
  replace o := OkO.add (a' := 1) (b' := 6) o
  replace g := GdZ.add (a := 1) (b := 6) g
  replace kr := (k.add).kr hroom
  refine J_istore o dL_law_1010 (Nat.le_of_ble_eq_true rfl) ?_
  refine J_aload_n o dL_law_1012 rfl ?_
  refine J_aldO_n o dL_law_1013 rfl ?_
  refine J_iload o dL_law_1014 rfl ?_
  refine J_iconst o dL_law_1016 ?_
  refine J_iadd o dL_law_1017 ?_
  refine J_sld (n := i + 1) o g dL_law_1018 ((wr_of ⟨by omega, by omega⟩).trans (by omega)) (by omega) hN ?_
  refine J_aldO_n o dL_law_1019 rfl ?_
  refine J_iload o dL_law_1020 rfl ?_
  refine J_iconst o dL_law_1022 ?_
  refine J_iadd o dL_law_1023 ?_
  refine J_sld (n := i + 2) o g dL_law_1024 ((wr_of ⟨by omega, by omega⟩).trans (by omega)) (by omega) hN ?_
  refine J_aldO_n o dL_law_1025 rfl ?_
  refine J_iload o dL_law_1026 rfl ?_
  refine J_iconst o dL_law_1028 ?_
  refine J_iadd o dL_law_1029 ?_
  refine J_sld (n := i + 3) o g dL_law_1030 ((wr_of ⟨by omega, by omega⟩).trans (by omega)) (by omega) hN ?_
  refine J_aldO_n o dL_law_1031 rfl ?_
  refine J_iload o dL_law_1032 rfl ?_
  refine J_iconst o dL_law_1034 ?_
  refine J_iadd o dL_law_1035 ?_
  refine J_sld (n := i + 4) o g dL_law_1036 ((wr_of ⟨by omega, by omega⟩).trans (by omega)) (by omega) hN ?_
  refine J_bI (vs := [.int (ii (sc X (i + 1))), .int (ii (sc X (i + 2))), .int (ii (sc X (i + 3))), .int (ii (sc X (i + 4)))]) o g kr dL_law_1037 lkL_155 ml_Re_holds vl_Re_holds ⟨rfl, rfl, Nat.le_of_ble_eq_true rfl, Nat.le_of_ble_eq_true rfl⟩ (c_Re_holds g.2.1.2.1 (R_sc _ _) (R_sc _ _) (R_sc _ _) (R_sc _ _) hB) kB_1 rfl ⟨by decide, by decide⟩ rfl rfl c1s_0 (fun hrB => ?_)
  refine J_istore o dL_law_1040 (Nat.le_of_ble_eq_true rfl) ?_
  refine J_aload_n o dL_law_1042 rfl ?_
  refine J_bI (vs := []) o g kr dL_law_1043 lkL_110 ml_Re_thrown vl_Re_thrown ⟨rfl, rfl, Nat.le_of_ble_eq_true rfl, Nat.le_of_ble_eq_true rfl⟩ (c_Re_thrown g.2.1.2.1 hT) kB_1 rfl ⟨by decide, by decide⟩ rfl rfl c1s_0 (fun hrT => ?_)
  refine J_iload o dL_law_1046 rfl ?_
  refine J_icmp_eq 1053 o dL_law_1048 (by decide) hrT hr (fun _ => ?_) (fun c => absurd rfl c)
  refine J_iload o dL_law_1053 rfl ?_
  refine J_if_ne 1077 o dL_law_1055 (by decide) hr (fun c => ?_) (fun c => ?_)
  · skip
    refine J_goto 2148 o dL_law_1077 (by decide) ?_
    exact hend _ _ _ _ _ _ _ _ k.add ⟨Nat.le_refl _, Nat.le_refl _⟩ hI2
  · have h0 : oA.2.1 = 0 := by
      rcases hn with h | h
      · exact h
      · rw [h] at c; exact absurd c (by decide)
    refine J_aldO_n o dL_law_1058 rfl ?_
    refine J_iconst o dL_law_1059 ?_
    refine J_lald o g dL_law_1060 rfl ?_
    refine J_iload o dL_law_1061 rfl ?_
    refine J_if_eq 1070 o dL_law_1063 (by decide) hrB (fun e0 => ?_) (fun e0 => ?_)
    · skip
      refine J_lc0 o dL_law_1070 (fun y hy => ?_)
      refine J_lcmp o dL_law_1071 ((hu rfl h0).trans ((hv h0).trans (e0.trans hy.symm))) ?_
      refine J_if_eq 1077 o dL_law_1072 (by decide) rl0 (fun _ => ?_) (fun c => absurd rfl c)
      refine J_goto 2148 o dL_law_1077 (by decide) ?_
      exact hend _ _ _ _ _ _ _ _ k.add ⟨Nat.le_refl _, Nat.le_refl _⟩ hI2
    · skip
      refine J_lc1 o dL_law_1066 (fun y hy => ?_)
      refine J_goto 1071 o dL_law_1067 (by decide) ?_
      refine J_lcmp o dL_law_1071 ((hu rfl h0).trans (((hz h0).resolve_left (fun e => e0 ((hv h0).symm.trans e))).trans hy.symm)) ?_
      refine J_if_eq 1077 o dL_law_1072 (by decide) rl0 (fun _ => ?_) (fun c => absurd rfl c)
      refine J_goto 2148 o dL_law_1077 (by decide) ?_
      exact hend _ _ _ _ _ _ _ _ k.add ⟨Nat.le_refl _, Nat.le_refl _⟩ hI2
def St_holdsAt (I : World → World → Prop) : Prop := ∀ {wA wB : World}, I wA wB → ∀ x1 x2 x3 x4 x5 : Int, R32 x1 → R32 x2 → R32 x3 → R32 x4 → R32 x5 → ∃ (oA : World × Nat × Int) (oB : World × Int), f_Dm_holdsAt wA x1 x2 x3 x4 x5 = some oA ∧ f_Re_holdsAt wB x1 x2 x3 x4 x5 = some oB ∧ f_Re_thrown oB.1 = some (hmL 1 2 0 oA.2.1) ∧ (oA.2.1 = 0 ∨ oA.2.1 = 1 ∨ oA.2.1 = 2) ∧ (oA.2.1 = 0 → oA.2.2 = oB.2) ∧ (oA.2.1 = 0 → oA.2.2 = 0 ∨ oA.2.2 = 1) ∧ I oA.1 oB.1
theorem lz_holdsAt {X : LX} {K0 K : KT} {H0 : Heap} {I : World → World → Prop} {a9 b9 i : Nat} {o5 o6 : Option Value} {wA wB : World} {v : Nat → Int64} (k : LawK X K0 K H0 a9 b9) (hroom : a9 + 1 ≤ room_1.cells ∧ b9 + 6 ≤ room_1.slots) (hi : i + 8 ≤ X.n) (hN : X.n ≤ 4096) (hI : I wA wB) (hs : St_holdsAt I) (hend : LawE X K0 H0 I a9 b9 i) : Jj K (WdZ X H0) (wA, wB, v) 1080 (lawL X i o5 o6) [] := by
  have o := k.1
  have g := k.2.1
  have kc := k.2.2.1
  have kr := k.kr ⟨by omega, by omega⟩
  refine J_aload_n o dL_law_1080 rfl ?_
  refine J_aldO_n o dL_law_1081 rfl ?_
  refine J_iload o dL_law_1082 rfl ?_
  refine J_iconst o dL_law_1084 ?_
  refine J_iadd o dL_law_1085 ?_
  refine J_sld (n := i + 1) o g dL_law_1086 ((wr_of ⟨by omega, by omega⟩).trans (by omega)) (by omega) hN ?_
  refine J_aldO_n o dL_law_1087 rfl ?_
  refine J_iload o dL_law_1088 rfl ?_
  refine J_iconst o dL_law_1090 ?_
  refine J_iadd o dL_law_1091 ?_
  refine J_sld (n := i + 2) o g dL_law_1092 ((wr_of ⟨by omega, by omega⟩).trans (by omega)) (by omega) hN ?_
  refine J_aldO_n o dL_law_1093 rfl ?_
  refine J_iload o dL_law_1094 rfl ?_
  refine J_iconst o dL_law_1096 ?_
  refine J_iadd o dL_law_1097 ?_
  refine J_sld (n := i + 3) o g dL_law_1098 ((wr_of ⟨by omega, by omega⟩).trans (by omega)) (by omega) hN ?_
  refine J_aldO_n o dL_law_1099 rfl ?_
  refine J_iload o dL_law_1100 rfl ?_
  refine J_iconst o dL_law_1102 ?_
  refine J_iadd o dL_law_1103 ?_
  refine J_sld (n := i + 4) o g dL_law_1104 ((wr_of ⟨by omega, by omega⟩).trans (by omega)) (by omega) hN ?_
  refine J_aldO_n o dL_law_1105 rfl ?_
  refine J_iload o dL_law_1106 rfl ?_
  refine J_iconst o dL_law_1108 ?_
  refine J_iadd o dL_law_1109 ?_
  refine J_sld (n := i + 5) o g dL_law_1110 ((wr_of ⟨by omega, by omega⟩).trans (by omega)) (by omega) hN ?_
  refine J_aldO_n o dL_law_1111 rfl ?_
  obtain ⟨oA, oB, hA, hB, hT, hn, hv, hz, hI2⟩ := hs hI (sc X (i + 1)) (sc X (i + 2)) (sc X (i + 3)) (sc X (i + 4)) (sc X (i + 5)) (R_sc _ _) (R_sc _ _) (R_sc _ _) (R_sc _ _) (R_sc _ _)
  refine J_wO (np := 7) (vs := [rf X.A.ad 1, .int (ii (sc X (i + 1))), .int (ii (sc X (i + 2))), .int (ii (sc X (i + 3))), .int (ii (sc X (i + 4))), .int (ii (sc X (i + 5))), .ref X.O.2]) o g kc dL_law_1112 mw1114 mw1116 mw1115 mw162 ⟨by decide +kernel, by decide +kernel, by decide +kernel⟩ ⟨rfl, rfl, Nat.le_of_ble_eq_true rfl, Nat.le_of_ble_eq_true rfl⟩ hroom (c_L_holdsAt k.st g.2.1.1 g.2.1.2.2.1 (R_sc _ _) (R_sc _ _) (R_sc _ _) (R_sc _ _) (R_sc _ _) hA hn hz) rfl rfl c1s_0 (fun u hu hr => ?_)
  replace o := OkO.add (a' := 1) (b' := 6) o
  replace g := GdZ.add (a := 1) (b := 6) g
  replace kr := (k.add).kr hroom
  refine J_istore o dL_law_1115 (Nat.le_of_ble_eq_true rfl) ?_
  refine J_aload_n o dL_law_1117 rfl ?_
  refine J_aldO_n o dL_law_1118 rfl ?_
  refine J_iload o dL_law_1119 rfl ?_
  refine J_iconst o dL_law_1121 ?_
  refine J_iadd o dL_law_1122 ?_
  refine J_sld (n := i + 1) o g dL_law_1123 ((wr_of ⟨by omega, by omega⟩).trans (by omega)) (by omega) hN ?_
  refine J_aldO_n o dL_law_1124 rfl ?_
  refine J_iload o dL_law_1125 rfl ?_
  refine J_iconst o dL_law_1127 ?_
  refine J_iadd o dL_law_1128 ?_
  refine J_sld (n := i + 2) o g dL_law_1129 ((wr_of ⟨by omega, by omega⟩).trans (by omega)) (by omega) hN ?_
  refine J_aldO_n o dL_law_1130 rfl ?_
  refine J_iload o dL_law_1131 rfl ?_
  refine J_iconst o dL_law_1133 ?_
  refine J_iadd o dL_law_1134 ?_
  refine J_sld (n := i + 3) o g dL_law_1135 ((wr_of ⟨by omega, by omega⟩).trans (by omega)) (by omega) hN ?_
  refine J_aldO_n o dL_law_1136 rfl ?_
  refine J_iload o dL_law_1137 rfl ?_
  refine J_iconst o dL_law_1139 ?_
  refine J_iadd o dL_law_1140 ?_
  refine J_sld (n := i + 4) o g dL_law_1141 ((wr_of ⟨by omega, by omega⟩).trans (by omega)) (by omega) hN ?_
  refine J_aldO_n o dL_law_1142 rfl ?_
  refine J_iload o dL_law_1143 rfl ?_
  refine J_iconst o dL_law_1145 ?_
  refine J_iadd o dL_law_1146 ?_
  refine J_sld (n := i + 5) o g dL_law_1147 ((wr_of ⟨by omega, by omega⟩).trans (by omega)) (by omega) hN ?_
  refine J_bI (vs := [.int (ii (sc X (i + 1))), .int (ii (sc X (i + 2))), .int (ii (sc X (i + 3))), .int (ii (sc X (i + 4))), .int (ii (sc X (i + 5)))]) o g kr dL_law_1148 lkL_159 ml_Re_holdsAt vl_Re_holdsAt ⟨rfl, rfl, Nat.le_of_ble_eq_true rfl, Nat.le_of_ble_eq_true rfl⟩ (c_Re_holdsAt g.2.1.2.1 (R_sc _ _) (R_sc _ _) (R_sc _ _) (R_sc _ _) (R_sc _ _) hB) kB_1 rfl ⟨by decide, by decide⟩ rfl rfl c1s_0 (fun hrB => ?_)
  refine J_istore o dL_law_1151 (Nat.le_of_ble_eq_true rfl) ?_
  refine J_aload_n o dL_law_1153 rfl ?_
  refine J_bI (vs := []) o g kr dL_law_1154 lkL_110 ml_Re_thrown vl_Re_thrown ⟨rfl, rfl, Nat.le_of_ble_eq_true rfl, Nat.le_of_ble_eq_true rfl⟩ (c_Re_thrown g.2.1.2.1 hT) kB_1 rfl ⟨by decide, by decide⟩ rfl rfl c1s_0 (fun hrT => ?_)
  refine J_iload o dL_law_1157 rfl ?_
  refine J_icmp_eq 1164 o dL_law_1159 (by decide) hrT hr (fun _ => ?_) (fun c => absurd rfl c)
  refine J_iload o dL_law_1164 rfl ?_
  refine J_if_ne 1188 o dL_law_1166 (by decide) hr (fun c => ?_) (fun c => ?_)
  · skip
    refine J_goto 2148 o dL_law_1188 (by decide) ?_
    exact hend _ _ _ _ _ _ _ _ k.add ⟨Nat.le_refl _, Nat.le_refl _⟩ hI2
  · have h0 : oA.2.1 = 0 := by
      rcases hn with h | h | h
      · exact h
      · rw [h] at c; exact absurd c (by decide)
      · rw [h] at c; exact absurd c (by decide)
    refine J_aldO_n o dL_law_1169 rfl ?_
    refine J_iconst o dL_law_1170 ?_
    refine J_lald o g dL_law_1171 rfl ?_
    refine J_iload o dL_law_1172 rfl ?_
    refine J_if_eq 1181 o dL_law_1174 (by decide) hrB (fun e0 => ?_) (fun e0 => ?_)
    · skip
      refine J_lc0 o dL_law_1181 (fun y hy => ?_)
      refine J_lcmp o dL_law_1182 ((hu rfl h0).trans ((hv h0).trans (e0.trans hy.symm))) ?_
      refine J_if_eq 1188 o dL_law_1183 (by decide) rl0 (fun _ => ?_) (fun c => absurd rfl c)
      refine J_goto 2148 o dL_law_1188 (by decide) ?_
      exact hend _ _ _ _ _ _ _ _ k.add ⟨Nat.le_refl _, Nat.le_refl _⟩ hI2
    · skip
      refine J_lc1 o dL_law_1177 (fun y hy => ?_)
      refine J_goto 1182 o dL_law_1178 (by decide) ?_
      refine J_lcmp o dL_law_1182 ((hu rfl h0).trans (((hz h0).resolve_left (fun e => e0 ((hv h0).symm.trans e))).trans hy.symm)) ?_
      refine J_if_eq 1188 o dL_law_1183 (by decide) rl0 (fun _ => ?_) (fun c => absurd rfl c)
      refine J_goto 2148 o dL_law_1188 (by decide) ?_
      exact hend _ _ _ _ _ _ _ _ k.add ⟨Nat.le_refl _, Nat.le_refl _⟩ hI2
def St_holdsAnew (I : World → World → Prop) : Prop := ∀ {wA wB : World}, I wA wB → ∀ x1 x2 x3 x4 x5 : Int, R32 x1 → R32 x2 → R32 x3 → R32 x4 → R32 x5 → ∃ (oA : World × Nat × Int) (oB : World × Int), f_Dm_holdsAnew wA x1 x2 x3 x4 x5 = some oA ∧ f_Re_holdsAnew wB x1 x2 x3 x4 x5 = some oB ∧ f_Re_thrown oB.1 = some (hmL 1 2 0 oA.2.1) ∧ (oA.2.1 = 0 ∨ oA.2.1 = 1 ∨ oA.2.1 = 2) ∧ (oA.2.1 = 0 → oA.2.2 = oB.2) ∧ (oA.2.1 = 0 → oA.2.2 = 0 ∨ oA.2.2 = 1) ∧ I oA.1 oB.1
theorem lz_holdsAnew {X : LX} {K0 K : KT} {H0 : Heap} {I : World → World → Prop} {a9 b9 i : Nat} {o5 o6 : Option Value} {wA wB : World} {v : Nat → Int64} (k : LawK X K0 K H0 a9 b9) (hroom : a9 + 1 ≤ room_1.cells ∧ b9 + 6 ≤ room_1.slots) (hi : i + 8 ≤ X.n) (hN : X.n ≤ 4096) (hI : I wA wB) (hs : St_holdsAnew I) (hend : LawE X K0 H0 I a9 b9 i) : Jj K (WdZ X H0) (wA, wB, v) 1191 (lawL X i o5 o6) [] := by
  have o := k.1
  have g := k.2.1
  have kc := k.2.2.1
  have kr := k.kr ⟨by omega, by omega⟩
  refine J_aload_n o dL_law_1191 rfl ?_
  refine J_aldO_n o dL_law_1192 rfl ?_
  refine J_iload o dL_law_1193 rfl ?_
  refine J_iconst o dL_law_1195 ?_
  refine J_iadd o dL_law_1196 ?_
  refine J_sld (n := i + 1) o g dL_law_1197 ((wr_of ⟨by omega, by omega⟩).trans (by omega)) (by omega) hN ?_
  refine J_aldO_n o dL_law_1198 rfl ?_
  refine J_iload o dL_law_1199 rfl ?_
  refine J_iconst o dL_law_1201 ?_
  refine J_iadd o dL_law_1202 ?_
  refine J_sld (n := i + 2) o g dL_law_1203 ((wr_of ⟨by omega, by omega⟩).trans (by omega)) (by omega) hN ?_
  refine J_aldO_n o dL_law_1204 rfl ?_
  refine J_iload o dL_law_1205 rfl ?_
  refine J_iconst o dL_law_1207 ?_
  refine J_iadd o dL_law_1208 ?_
  refine J_sld (n := i + 3) o g dL_law_1209 ((wr_of ⟨by omega, by omega⟩).trans (by omega)) (by omega) hN ?_
  refine J_aldO_n o dL_law_1210 rfl ?_
  refine J_iload o dL_law_1211 rfl ?_
  refine J_iconst o dL_law_1213 ?_
  refine J_iadd o dL_law_1214 ?_
  refine J_sld (n := i + 4) o g dL_law_1215 ((wr_of ⟨by omega, by omega⟩).trans (by omega)) (by omega) hN ?_
  refine J_aldO_n o dL_law_1216 rfl ?_
  refine J_iload o dL_law_1217 rfl ?_
  refine J_iconst o dL_law_1219 ?_
  refine J_iadd o dL_law_1220 ?_
  refine J_sld (n := i + 5) o g dL_law_1221 ((wr_of ⟨by omega, by omega⟩).trans (by omega)) (by omega) hN ?_
  refine J_aldO_n o dL_law_1222 rfl ?_
  obtain ⟨oA, oB, hA, hB, hT, hn, hv, hz, hI2⟩ := hs hI (sc X (i + 1)) (sc X (i + 2)) (sc X (i + 3)) (sc X (i + 4)) (sc X (i + 5)) (R_sc _ _) (R_sc _ _) (R_sc _ _) (R_sc _ _) (R_sc _ _)
  refine J_wO (np := 7) (vs := [rf X.A.ad 1, .int (ii (sc X (i + 1))), .int (ii (sc X (i + 2))), .int (ii (sc X (i + 3))), .int (ii (sc X (i + 4))), .int (ii (sc X (i + 5))), .ref X.O.2]) o g kc dL_law_1223 mw1122 mw1124 mw1123 mw162 ⟨by decide +kernel, by decide +kernel, by decide +kernel⟩ ⟨rfl, rfl, Nat.le_of_ble_eq_true rfl, Nat.le_of_ble_eq_true rfl⟩ hroom (c_L_holdsAnew k.st g.2.1.1 g.2.1.2.2.1 (R_sc _ _) (R_sc _ _) (R_sc _ _) (R_sc _ _) (R_sc _ _) hA hn hz) rfl rfl c1s_0 (fun u hu hr => ?_)
  replace o := OkO.add (a' := 1) (b' := 6) o
  replace g := GdZ.add (a := 1) (b := 6) g
  replace kr := (k.add).kr hroom
  refine J_istore o dL_law_1226 (Nat.le_of_ble_eq_true rfl) ?_
  refine J_aload_n o dL_law_1228 rfl ?_
  refine J_aldO_n o dL_law_1229 rfl ?_
  refine J_iload o dL_law_1230 rfl ?_
  refine J_iconst o dL_law_1232 ?_
  refine J_iadd o dL_law_1233 ?_
  refine J_sld (n := i + 1) o g dL_law_1234 ((wr_of ⟨by omega, by omega⟩).trans (by omega)) (by omega) hN ?_
  refine J_aldO_n o dL_law_1235 rfl ?_
  refine J_iload o dL_law_1236 rfl ?_
  refine J_iconst o dL_law_1238 ?_
  refine J_iadd o dL_law_1239 ?_
  refine J_sld (n := i + 2) o g dL_law_1240 ((wr_of ⟨by omega, by omega⟩).trans (by omega)) (by omega) hN ?_
  refine J_aldO_n o dL_law_1241 rfl ?_
  refine J_iload o dL_law_1242 rfl ?_
  refine J_iconst o dL_law_1244 ?_
  refine J_iadd o dL_law_1245 ?_
  refine J_sld (n := i + 3) o g dL_law_1246 ((wr_of ⟨by omega, by omega⟩).trans (by omega)) (by omega) hN ?_
  refine J_aldO_n o dL_law_1247 rfl ?_
  refine J_iload o dL_law_1248 rfl ?_
  refine J_iconst o dL_law_1250 ?_
  refine J_iadd o dL_law_1251 ?_
  refine J_sld (n := i + 4) o g dL_law_1252 ((wr_of ⟨by omega, by omega⟩).trans (by omega)) (by omega) hN ?_
  refine J_aldO_n o dL_law_1253 rfl ?_
  refine J_iload o dL_law_1254 rfl ?_
  refine J_iconst o dL_law_1256 ?_
  refine J_iadd o dL_law_1257 ?_
  refine J_sld (n := i + 5) o g dL_law_1258 ((wr_of ⟨by omega, by omega⟩).trans (by omega)) (by omega) hN ?_
  refine J_bI (vs := [.int (ii (sc X (i + 1))), .int (ii (sc X (i + 2))), .int (ii (sc X (i + 3))), .int (ii (sc X (i + 4))), .int (ii (sc X (i + 5)))]) o g kr dL_law_1259 lkL_162 ml_Re_holdsAnew vl_Re_holdsAnew ⟨rfl, rfl, Nat.le_of_ble_eq_true rfl, Nat.le_of_ble_eq_true rfl⟩ (c_Re_holdsAnew g.2.1.2.1 (R_sc _ _) (R_sc _ _) (R_sc _ _) (R_sc _ _) (R_sc _ _) hB) kB_1 rfl ⟨by decide, by decide⟩ rfl rfl c1s_0 (fun hrB => ?_)
  refine J_istore o dL_law_1262 (Nat.le_of_ble_eq_true rfl) ?_
  refine J_aload_n o dL_law_1264 rfl ?_
  refine J_bI (vs := []) o g kr dL_law_1265 lkL_110 ml_Re_thrown vl_Re_thrown ⟨rfl, rfl, Nat.le_of_ble_eq_true rfl, Nat.le_of_ble_eq_true rfl⟩ (c_Re_thrown g.2.1.2.1 hT) kB_1 rfl ⟨by decide, by decide⟩ rfl rfl c1s_0 (fun hrT => ?_)
  refine J_iload o dL_law_1268 rfl ?_
  refine J_icmp_eq 1275 o dL_law_1270 (by decide) hrT hr (fun _ => ?_) (fun c => absurd rfl c)
  refine J_iload o dL_law_1275 rfl ?_
  refine J_if_ne 1299 o dL_law_1277 (by decide) hr (fun c => ?_) (fun c => ?_)
  · skip
    refine J_goto 2148 o dL_law_1299 (by decide) ?_
    exact hend _ _ _ _ _ _ _ _ k.add ⟨Nat.le_refl _, Nat.le_refl _⟩ hI2
  · have h0 : oA.2.1 = 0 := by
      rcases hn with h | h | h
      · exact h
      · rw [h] at c; exact absurd c (by decide)
      · rw [h] at c; exact absurd c (by decide)
    refine J_aldO_n o dL_law_1280 rfl ?_
    refine J_iconst o dL_law_1281 ?_
    refine J_lald o g dL_law_1282 rfl ?_
    refine J_iload o dL_law_1283 rfl ?_
    refine J_if_eq 1292 o dL_law_1285 (by decide) hrB (fun e0 => ?_) (fun e0 => ?_)
    · skip
      refine J_lc0 o dL_law_1292 (fun y hy => ?_)
      refine J_lcmp o dL_law_1293 ((hu rfl h0).trans ((hv h0).trans (e0.trans hy.symm))) ?_
      refine J_if_eq 1299 o dL_law_1294 (by decide) rl0 (fun _ => ?_) (fun c => absurd rfl c)
      refine J_goto 2148 o dL_law_1299 (by decide) ?_
      exact hend _ _ _ _ _ _ _ _ k.add ⟨Nat.le_refl _, Nat.le_refl _⟩ hI2
    · skip
      refine J_lc1 o dL_law_1288 (fun y hy => ?_)
      refine J_goto 1293 o dL_law_1289 (by decide) ?_
      refine J_lcmp o dL_law_1293 ((hu rfl h0).trans (((hz h0).resolve_left (fun e => e0 ((hv h0).symm.trans e))).trans hy.symm)) ?_
      refine J_if_eq 1299 o dL_law_1294 (by decide) rl0 (fun _ => ?_) (fun c => absurd rfl c)
      refine J_goto 2148 o dL_law_1299 (by decide) ?_
      exact hend _ _ _ _ _ _ _ _ k.add ⟨Nat.le_refl _, Nat.le_refl _⟩ hI2
def St_size (I : World → World → Prop) : Prop := ∀ {wA wB : World}, I wA wB → ∀ x1 : Int, R32 x1 → ∃ (oA : World × Nat × Int) (oB : World × Int), f_Dm_size wA x1 = some oA ∧ f_Re_size wB x1 = some oB ∧ f_Re_thrown oB.1 = some (hmL 1 0 0 oA.2.1) ∧ (oA.2.1 = 0 ∨ oA.2.1 = 1) ∧ (oA.2.1 = 0 → oA.2.2 = oB.2) ∧ I oA.1 oB.1
theorem lz_size {X : LX} {K0 K : KT} {H0 : Heap} {I : World → World → Prop} {a9 b9 i : Nat} {o5 o6 : Option Value} {wA wB : World} {v : Nat → Int64} (k : LawK X K0 K H0 a9 b9) (hroom : a9 + 1 ≤ room_1.cells ∧ b9 + 6 ≤ room_1.slots) (hi : i + 8 ≤ X.n) (hN : X.n ≤ 4096) (hI : I wA wB) (hs : St_size I) (hend : LawE X K0 H0 I a9 b9 i) : Jj K (WdZ X H0) (wA, wB, v) 1302 (lawL X i o5 o6) [] := by
  have o := k.1
  have g := k.2.1
  have kc := k.2.2.1
  have kr := k.kr ⟨by omega, by omega⟩
  refine J_aload_n o dL_law_1302 rfl ?_
  refine J_aldO_n o dL_law_1303 rfl ?_
  refine J_iload o dL_law_1304 rfl ?_
  refine J_iconst o dL_law_1306 ?_
  refine J_iadd o dL_law_1307 ?_
  refine J_sld (n := i + 1) o g dL_law_1308 ((wr_of ⟨by omega, by omega⟩).trans (by omega)) (by omega) hN ?_
  refine J_aldO_n o dL_law_1309 rfl ?_
  obtain ⟨oA, oB, hA, hB, hT, hn, hv, hI2⟩ := hs hI (sc X (i + 1)) (R_sc _ _)
  refine J_wO (np := 3) (vs := [rf X.A.ad 1, .int (ii (sc X (i + 1))), .ref X.O.2]) o g kc dL_law_1310 mw1129 mw1131 mw1130 mw162 ⟨by decide +kernel, by decide +kernel, by decide +kernel⟩ ⟨rfl, rfl, Nat.le_of_ble_eq_true rfl, Nat.le_of_ble_eq_true rfl⟩ hroom (c_L_size k.st g.2.1.1 g.2.1.2.2.1 (R_sc _ _) hA hn) rfl rfl c1s_0 (fun u hu hr => ?_)
  replace o := OkO.add (a' := 1) (b' := 6) o
  replace g := GdZ.add (a := 1) (b := 6) g
  replace kr := (k.add).kr hroom
  refine J_istore o dL_law_1313 (Nat.le_of_ble_eq_true rfl) ?_
  refine J_aload_n o dL_law_1315 rfl ?_
  refine J_aldO_n o dL_law_1316 rfl ?_
  refine J_iload o dL_law_1317 rfl ?_
  refine J_iconst o dL_law_1319 ?_
  refine J_iadd o dL_law_1320 ?_
  refine J_sld (n := i + 1) o g dL_law_1321 ((wr_of ⟨by omega, by omega⟩).trans (by omega)) (by omega) hN ?_
  refine J_bI (vs := [.int (ii (sc X (i + 1)))]) o g kr dL_law_1322 lkL_165 ml_Re_size vl_Re_size ⟨rfl, rfl, Nat.le_of_ble_eq_true rfl, Nat.le_of_ble_eq_true rfl⟩ (c_Re_size g.2.1.2.1 (R_sc _ _) hB) kB_1 rfl ⟨by decide, by decide⟩ rfl rfl c1s_0 (fun hrB => ?_)
  refine J_istore o dL_law_1325 (Nat.le_of_ble_eq_true rfl) ?_
  refine J_aload_n o dL_law_1327 rfl ?_
  refine J_bI (vs := []) o g kr dL_law_1328 lkL_110 ml_Re_thrown vl_Re_thrown ⟨rfl, rfl, Nat.le_of_ble_eq_true rfl, Nat.le_of_ble_eq_true rfl⟩ (c_Re_thrown g.2.1.2.1 hT) kB_1 rfl ⟨by decide, by decide⟩ rfl rfl c1s_0 (fun hrT => ?_)
  refine J_iload o dL_law_1331 rfl ?_
  refine J_icmp_eq 1338 o dL_law_1333 (by decide) hrT hr (fun _ => ?_) (fun c => absurd rfl c)
  refine J_iload o dL_law_1338 rfl ?_
  refine J_if_ne 1355 o dL_law_1340 (by decide) hr (fun c => ?_) (fun c => ?_)
  · skip
    refine J_goto 2148 o dL_law_1355 (by decide) ?_
    exact hend _ _ _ _ _ _ _ _ k.add ⟨Nat.le_refl _, Nat.le_refl _⟩ hI2
  · have h0 : oA.2.1 = 0 := by
      rcases hn with h | h
      · exact h
      · rw [h] at c; exact absurd c (by decide)
    refine J_aldO_n o dL_law_1343 rfl ?_
    refine J_iconst o dL_law_1344 ?_
    refine J_lald o g dL_law_1345 rfl ?_
    refine J_iload o dL_law_1346 rfl ?_
    refine J_i2l o dL_law_1348 hrB (fun y hy => ?_)
    refine J_lcmp o dL_law_1349 ((hu rfl h0).trans ((hv h0).trans hy.symm)) ?_
    refine J_if_eq 1355 o dL_law_1350 (by decide) rl0 (fun _ => ?_) (fun c => absurd rfl c)
    refine J_goto 2148 o dL_law_1355 (by decide) ?_
    exact hend _ _ _ _ _ _ _ _ k.add ⟨Nat.le_refl _, Nat.le_refl _⟩ hI2
def St_at (I : World → World → Prop) : Prop := ∀ {wA wB : World}, I wA wB → ∀ x1 x2 : Int, R32 x1 → R32 x2 → ∃ (oA : World × Nat × Int) (oB : World × Int), f_Dm_at wA x1 x2 = some oA ∧ f_Re_at wB x1 x2 = some oB ∧ f_Re_thrown oB.1 = some (hmL 1 0 0 oA.2.1) ∧ (oA.2.1 = 0 ∨ oA.2.1 = 1) ∧ (oA.2.1 = 0 → oA.2.2 = oB.2) ∧ I oA.1 oB.1
theorem lz_at {X : LX} {K0 K : KT} {H0 : Heap} {I : World → World → Prop} {a9 b9 i : Nat} {o5 o6 : Option Value} {wA wB : World} {v : Nat → Int64} (k : LawK X K0 K H0 a9 b9) (hroom : a9 + 1 ≤ room_1.cells ∧ b9 + 6 ≤ room_1.slots) (hi : i + 8 ≤ X.n) (hN : X.n ≤ 4096) (hI : I wA wB) (hs : St_at I) (hend : LawE X K0 H0 I a9 b9 i) : Jj K (WdZ X H0) (wA, wB, v) 1358 (lawL X i o5 o6) [] := by
  have o := k.1
  have g := k.2.1
  have kc := k.2.2.1
  have kr := k.kr ⟨by omega, by omega⟩
  refine J_aload_n o dL_law_1358 rfl ?_
  refine J_aldO_n o dL_law_1359 rfl ?_
  refine J_iload o dL_law_1360 rfl ?_
  refine J_iconst o dL_law_1362 ?_
  refine J_iadd o dL_law_1363 ?_
  refine J_sld (n := i + 1) o g dL_law_1364 ((wr_of ⟨by omega, by omega⟩).trans (by omega)) (by omega) hN ?_
  refine J_aldO_n o dL_law_1365 rfl ?_
  refine J_iload o dL_law_1366 rfl ?_
  refine J_iconst o dL_law_1368 ?_
  refine J_iadd o dL_law_1369 ?_
  refine J_sld (n := i + 2) o g dL_law_1370 ((wr_of ⟨by omega, by omega⟩).trans (by omega)) (by omega) hN ?_
  refine J_aldO_n o dL_law_1371 rfl ?_
  obtain ⟨oA, oB, hA, hB, hT, hn, hv, hI2⟩ := hs hI (sc X (i + 1)) (sc X (i + 2)) (R_sc _ _) (R_sc _ _)
  refine J_wO (np := 4) (vs := [rf X.A.ad 1, .int (ii (sc X (i + 1))), .int (ii (sc X (i + 2))), .ref X.O.2]) o g kc dL_law_1372 mw1140 mw1142 mw1141 mw162 ⟨by decide +kernel, by decide +kernel, by decide +kernel⟩ ⟨rfl, rfl, Nat.le_of_ble_eq_true rfl, Nat.le_of_ble_eq_true rfl⟩ hroom (c_L_at k.st g.2.1.1 g.2.1.2.2.1 (R_sc _ _) (R_sc _ _) hA hn) rfl rfl c1s_0 (fun u hu hr => ?_)
  replace o := OkO.add (a' := 1) (b' := 6) o
  replace g := GdZ.add (a := 1) (b := 6) g
  replace kr := (k.add).kr hroom
  refine J_istore o dL_law_1375 (Nat.le_of_ble_eq_true rfl) ?_
  refine J_aload_n o dL_law_1377 rfl ?_
  refine J_aldO_n o dL_law_1378 rfl ?_
  refine J_iload o dL_law_1379 rfl ?_
  refine J_iconst o dL_law_1381 ?_
  refine J_iadd o dL_law_1382 ?_
  refine J_sld (n := i + 1) o g dL_law_1383 ((wr_of ⟨by omega, by omega⟩).trans (by omega)) (by omega) hN ?_
  refine J_aldO_n o dL_law_1384 rfl ?_
  refine J_iload o dL_law_1385 rfl ?_
  refine J_iconst o dL_law_1387 ?_
  refine J_iadd o dL_law_1388 ?_
  refine J_sld (n := i + 2) o g dL_law_1389 ((wr_of ⟨by omega, by omega⟩).trans (by omega)) (by omega) hN ?_
  refine J_bI (vs := [.int (ii (sc X (i + 1))), .int (ii (sc X (i + 2)))]) o g kr dL_law_1390 lkL_169 ml_Re_at vl_Re_at ⟨rfl, rfl, Nat.le_of_ble_eq_true rfl, Nat.le_of_ble_eq_true rfl⟩ (c_Re_at g.2.1.2.1 (R_sc _ _) (R_sc _ _) hB) kB_1 rfl ⟨by decide, by decide⟩ rfl rfl c1s_0 (fun hrB => ?_)
  refine J_istore o dL_law_1393 (Nat.le_of_ble_eq_true rfl) ?_
  refine J_aload_n o dL_law_1395 rfl ?_
  refine J_bI (vs := []) o g kr dL_law_1396 lkL_110 ml_Re_thrown vl_Re_thrown ⟨rfl, rfl, Nat.le_of_ble_eq_true rfl, Nat.le_of_ble_eq_true rfl⟩ (c_Re_thrown g.2.1.2.1 hT) kB_1 rfl ⟨by decide, by decide⟩ rfl rfl c1s_0 (fun hrT => ?_)
  refine J_iload o dL_law_1399 rfl ?_
  refine J_icmp_eq 1406 o dL_law_1401 (by decide) hrT hr (fun _ => ?_) (fun c => absurd rfl c)
  refine J_iload o dL_law_1406 rfl ?_
  refine J_if_ne 1423 o dL_law_1408 (by decide) hr (fun c => ?_) (fun c => ?_)
  · skip
    refine J_goto 2148 o dL_law_1423 (by decide) ?_
    exact hend _ _ _ _ _ _ _ _ k.add ⟨Nat.le_refl _, Nat.le_refl _⟩ hI2
  · have h0 : oA.2.1 = 0 := by
      rcases hn with h | h
      · exact h
      · rw [h] at c; exact absurd c (by decide)
    refine J_aldO_n o dL_law_1411 rfl ?_
    refine J_iconst o dL_law_1412 ?_
    refine J_lald o g dL_law_1413 rfl ?_
    refine J_iload o dL_law_1414 rfl ?_
    refine J_i2l o dL_law_1416 hrB (fun y hy => ?_)
    refine J_lcmp o dL_law_1417 ((hu rfl h0).trans ((hv h0).trans hy.symm)) ?_
    refine J_if_eq 1423 o dL_law_1418 (by decide) rl0 (fun _ => ?_) (fun c => absurd rfl c)
    refine J_goto 2148 o dL_law_1423 (by decide) ?_
    exact hend _ _ _ _ _ _ _ _ k.add ⟨Nat.le_refl _, Nat.le_refl _⟩ hI2
def St_stratum (I : World → World → Prop) : Prop := ∀ {wA wB : World}, I wA wB → ∀ x1 : Int, R32 x1 → ∃ (oA : World × Nat × Int) (oB : World × Int), f_Dm_stratum wA x1 = some oA ∧ f_Re_stratum wB x1 = some oB ∧ f_Re_thrown oB.1 = some (hmL 1 0 0 oA.2.1) ∧ (oA.2.1 = 0 ∨ oA.2.1 = 1) ∧ (oA.2.1 = 0 → oA.2.2 = oB.2) ∧ I oA.1 oB.1
theorem lz_stratum {X : LX} {K0 K : KT} {H0 : Heap} {I : World → World → Prop} {a9 b9 i : Nat} {o5 o6 : Option Value} {wA wB : World} {v : Nat → Int64} (k : LawK X K0 K H0 a9 b9) (hroom : a9 + 1 ≤ room_1.cells ∧ b9 + 6 ≤ room_1.slots) (hi : i + 8 ≤ X.n) (hN : X.n ≤ 4096) (hI : I wA wB) (hs : St_stratum I) (hend : LawE X K0 H0 I a9 b9 i) : Jj K (WdZ X H0) (wA, wB, v) 1426 (lawL X i o5 o6) [] := by
  have o := k.1
  have g := k.2.1
  have kc := k.2.2.1
  have kr := k.kr ⟨by omega, by omega⟩
  refine J_aload_n o dL_law_1426 rfl ?_
  refine J_aldO_n o dL_law_1427 rfl ?_
  refine J_iload o dL_law_1428 rfl ?_
  refine J_iconst o dL_law_1430 ?_
  refine J_iadd o dL_law_1431 ?_
  refine J_sld (n := i + 1) o g dL_law_1432 ((wr_of ⟨by omega, by omega⟩).trans (by omega)) (by omega) hN ?_
  refine J_aldO_n o dL_law_1433 rfl ?_
  obtain ⟨oA, oB, hA, hB, hT, hn, hv, hI2⟩ := hs hI (sc X (i + 1)) (R_sc _ _)
  refine J_wO (np := 3) (vs := [rf X.A.ad 1, .int (ii (sc X (i + 1))), .ref X.O.2]) o g kc dL_law_1434 mw1153 mw1155 mw1154 mw162 ⟨by decide +kernel, by decide +kernel, by decide +kernel⟩ ⟨rfl, rfl, Nat.le_of_ble_eq_true rfl, Nat.le_of_ble_eq_true rfl⟩ hroom (c_L_stratum k.st g.2.1.1 g.2.1.2.2.1 (R_sc _ _) hA hn) rfl rfl c1s_0 (fun u hu hr => ?_)
  replace o := OkO.add (a' := 1) (b' := 6) o
  replace g := GdZ.add (a := 1) (b := 6) g
  replace kr := (k.add).kr hroom
  refine J_istore o dL_law_1437 (Nat.le_of_ble_eq_true rfl) ?_
  refine J_aload_n o dL_law_1439 rfl ?_
  refine J_aldO_n o dL_law_1440 rfl ?_
  refine J_iload o dL_law_1441 rfl ?_
  refine J_iconst o dL_law_1443 ?_
  refine J_iadd o dL_law_1444 ?_
  refine J_sld (n := i + 1) o g dL_law_1445 ((wr_of ⟨by omega, by omega⟩).trans (by omega)) (by omega) hN ?_
  refine J_bI (vs := [.int (ii (sc X (i + 1)))]) o g kr dL_law_1446 lkL_172 ml_Re_stratum vl_Re_stratum ⟨rfl, rfl, Nat.le_of_ble_eq_true rfl, Nat.le_of_ble_eq_true rfl⟩ (c_Re_stratum g.2.1.2.1 (R_sc _ _) hB) kB_1 rfl ⟨by decide, by decide⟩ rfl rfl c1s_0 (fun hrB => ?_)
  refine J_istore o dL_law_1449 (Nat.le_of_ble_eq_true rfl) ?_
  refine J_aload_n o dL_law_1451 rfl ?_
  refine J_bI (vs := []) o g kr dL_law_1452 lkL_110 ml_Re_thrown vl_Re_thrown ⟨rfl, rfl, Nat.le_of_ble_eq_true rfl, Nat.le_of_ble_eq_true rfl⟩ (c_Re_thrown g.2.1.2.1 hT) kB_1 rfl ⟨by decide, by decide⟩ rfl rfl c1s_0 (fun hrT => ?_)
  refine J_iload o dL_law_1455 rfl ?_
  refine J_icmp_eq 1462 o dL_law_1457 (by decide) hrT hr (fun _ => ?_) (fun c => absurd rfl c)
  refine J_iload o dL_law_1462 rfl ?_
  refine J_if_ne 1479 o dL_law_1464 (by decide) hr (fun c => ?_) (fun c => ?_)
  · skip
    refine J_goto 2148 o dL_law_1479 (by decide) ?_
    exact hend _ _ _ _ _ _ _ _ k.add ⟨Nat.le_refl _, Nat.le_refl _⟩ hI2
  · have h0 : oA.2.1 = 0 := by
      rcases hn with h | h
      · exact h
      · rw [h] at c; exact absurd c (by decide)
    refine J_aldO_n o dL_law_1467 rfl ?_
    refine J_iconst o dL_law_1468 ?_
    refine J_lald o g dL_law_1469 rfl ?_
    refine J_iload o dL_law_1470 rfl ?_
    refine J_i2l o dL_law_1472 hrB (fun y hy => ?_)
    refine J_lcmp o dL_law_1473 ((hu rfl h0).trans ((hv h0).trans hy.symm)) ?_
    refine J_if_eq 1479 o dL_law_1474 (by decide) rl0 (fun _ => ?_) (fun c => absurd rfl c)
    refine J_goto 2148 o dL_law_1479 (by decide) ?_
    exact hend _ _ _ _ _ _ _ _ k.add ⟨Nat.le_refl _, Nat.le_refl _⟩ hI2
def St_ways (I : World → World → Prop) : Prop := ∀ {wA wB : World}, I wA wB → ∀ x1 x2 x3 x4 : Int, R32 x1 → R32 x2 → R32 x3 → R32 x4 → ∃ (oA : World × Nat × Int) (oB : World × Int), f_Dm_ways wA x1 x2 x3 x4 = some oA ∧ f_Re_ways wB x1 x2 x3 x4 = some oB ∧ f_Re_thrown oB.1 = some (hmL 1 0 0 oA.2.1) ∧ (oA.2.1 = 0 ∨ oA.2.1 = 1) ∧ (oA.2.1 = 0 → oA.2.2 = oB.2) ∧ I oA.1 oB.1
theorem lz_ways {X : LX} {K0 K : KT} {H0 : Heap} {I : World → World → Prop} {a9 b9 i : Nat} {o5 o6 : Option Value} {wA wB : World} {v : Nat → Int64} (k : LawK X K0 K H0 a9 b9) (hroom : a9 + 1 ≤ room_1.cells ∧ b9 + 6 ≤ room_1.slots) (hi : i + 8 ≤ X.n) (hN : X.n ≤ 4096) (hI : I wA wB) (hs : St_ways I) (hend : LawE X K0 H0 I a9 b9 i) : Jj K (WdZ X H0) (wA, wB, v) 1482 (lawL X i o5 o6) [] := by
  have o := k.1
  have g := k.2.1
  have kc := k.2.2.1
  have kr := k.kr ⟨by omega, by omega⟩
  refine J_aload_n o dL_law_1482 rfl ?_
  refine J_aldO_n o dL_law_1483 rfl ?_
  refine J_iload o dL_law_1484 rfl ?_
  refine J_iconst o dL_law_1486 ?_
  refine J_iadd o dL_law_1487 ?_
  refine J_sld (n := i + 1) o g dL_law_1488 ((wr_of ⟨by omega, by omega⟩).trans (by omega)) (by omega) hN ?_
  refine J_aldO_n o dL_law_1489 rfl ?_
  refine J_iload o dL_law_1490 rfl ?_
  refine J_iconst o dL_law_1492 ?_
  refine J_iadd o dL_law_1493 ?_
  refine J_sld (n := i + 2) o g dL_law_1494 ((wr_of ⟨by omega, by omega⟩).trans (by omega)) (by omega) hN ?_
  refine J_aldO_n o dL_law_1495 rfl ?_
  refine J_iload o dL_law_1496 rfl ?_
  refine J_iconst o dL_law_1498 ?_
  refine J_iadd o dL_law_1499 ?_
  refine J_sld (n := i + 3) o g dL_law_1500 ((wr_of ⟨by omega, by omega⟩).trans (by omega)) (by omega) hN ?_
  refine J_aldO_n o dL_law_1501 rfl ?_
  refine J_iload o dL_law_1502 rfl ?_
  refine J_iconst o dL_law_1504 ?_
  refine J_iadd o dL_law_1505 ?_
  refine J_sld (n := i + 4) o g dL_law_1506 ((wr_of ⟨by omega, by omega⟩).trans (by omega)) (by omega) hN ?_
  refine J_aldO_n o dL_law_1507 rfl ?_
  obtain ⟨oA, oB, hA, hB, hT, hn, hv, hI2⟩ := hs hI (sc X (i + 1)) (sc X (i + 2)) (sc X (i + 3)) (sc X (i + 4)) (R_sc _ _) (R_sc _ _) (R_sc _ _) (R_sc _ _)
  refine J_wO (np := 6) (vs := [rf X.A.ad 1, .int (ii (sc X (i + 1))), .int (ii (sc X (i + 2))), .int (ii (sc X (i + 3))), .int (ii (sc X (i + 4))), .ref X.O.2]) o g kc dL_law_1508 mw1161 mw1163 mw1162 mw162 ⟨by decide +kernel, by decide +kernel, by decide +kernel⟩ ⟨rfl, rfl, Nat.le_of_ble_eq_true rfl, Nat.le_of_ble_eq_true rfl⟩ hroom (c_L_ways k.st g.2.1.1 g.2.1.2.2.1 (R_sc _ _) (R_sc _ _) (R_sc _ _) (R_sc _ _) hA hn) rfl rfl c1s_0 (fun u hu hr => ?_)
  replace o := OkO.add (a' := 1) (b' := 6) o
  replace g := GdZ.add (a := 1) (b := 6) g
  replace kr := (k.add).kr hroom
  refine J_istore o dL_law_1511 (Nat.le_of_ble_eq_true rfl) ?_
  refine J_aload_n o dL_law_1513 rfl ?_
  refine J_aldO_n o dL_law_1514 rfl ?_
  refine J_iload o dL_law_1515 rfl ?_
  refine J_iconst o dL_law_1517 ?_
  refine J_iadd o dL_law_1518 ?_
  refine J_sld (n := i + 1) o g dL_law_1519 ((wr_of ⟨by omega, by omega⟩).trans (by omega)) (by omega) hN ?_
  refine J_aldO_n o dL_law_1520 rfl ?_
  refine J_iload o dL_law_1521 rfl ?_
  refine J_iconst o dL_law_1523 ?_
  refine J_iadd o dL_law_1524 ?_
  refine J_sld (n := i + 2) o g dL_law_1525 ((wr_of ⟨by omega, by omega⟩).trans (by omega)) (by omega) hN ?_
  refine J_aldO_n o dL_law_1526 rfl ?_
  refine J_iload o dL_law_1527 rfl ?_
  refine J_iconst o dL_law_1529 ?_
  refine J_iadd o dL_law_1530 ?_
  refine J_sld (n := i + 3) o g dL_law_1531 ((wr_of ⟨by omega, by omega⟩).trans (by omega)) (by omega) hN ?_
  refine J_aldO_n o dL_law_1532 rfl ?_
  refine J_iload o dL_law_1533 rfl ?_
  refine J_iconst o dL_law_1535 ?_
  refine J_iadd o dL_law_1536 ?_
  refine J_sld (n := i + 4) o g dL_law_1537 ((wr_of ⟨by omega, by omega⟩).trans (by omega)) (by omega) hN ?_
  refine J_bI (vs := [.int (ii (sc X (i + 1))), .int (ii (sc X (i + 2))), .int (ii (sc X (i + 3))), .int (ii (sc X (i + 4)))]) o g kr dL_law_1538 lkL_175 ml_Re_ways vl_Re_ways ⟨rfl, rfl, Nat.le_of_ble_eq_true rfl, Nat.le_of_ble_eq_true rfl⟩ (c_Re_ways g.2.1.2.1 (R_sc _ _) (R_sc _ _) (R_sc _ _) (R_sc _ _) hB) kB_1 rfl ⟨by decide, by decide⟩ rfl rfl c1s_0 (fun hrB => ?_)
  refine J_istore o dL_law_1541 (Nat.le_of_ble_eq_true rfl) ?_
  refine J_aload_n o dL_law_1543 rfl ?_
  refine J_bI (vs := []) o g kr dL_law_1544 lkL_110 ml_Re_thrown vl_Re_thrown ⟨rfl, rfl, Nat.le_of_ble_eq_true rfl, Nat.le_of_ble_eq_true rfl⟩ (c_Re_thrown g.2.1.2.1 hT) kB_1 rfl ⟨by decide, by decide⟩ rfl rfl c1s_0 (fun hrT => ?_)
  refine J_iload o dL_law_1547 rfl ?_
  refine J_icmp_eq 1554 o dL_law_1549 (by decide) hrT hr (fun _ => ?_) (fun c => absurd rfl c)
  refine J_iload o dL_law_1554 rfl ?_
  refine J_if_ne 1571 o dL_law_1556 (by decide) hr (fun c => ?_) (fun c => ?_)
  · skip
    refine J_goto 2148 o dL_law_1571 (by decide) ?_
    exact hend _ _ _ _ _ _ _ _ k.add ⟨Nat.le_refl _, Nat.le_refl _⟩ hI2
  · have h0 : oA.2.1 = 0 := by
      rcases hn with h | h
      · exact h
      · rw [h] at c; exact absurd c (by decide)
    refine J_aldO_n o dL_law_1559 rfl ?_
    refine J_iconst o dL_law_1560 ?_
    refine J_lald o g dL_law_1561 rfl ?_
    refine J_iload o dL_law_1562 rfl ?_
    refine J_i2l o dL_law_1564 hrB (fun y hy => ?_)
    refine J_lcmp o dL_law_1565 ((hu rfl h0).trans ((hv h0).trans hy.symm)) ?_
    refine J_if_eq 1571 o dL_law_1566 (by decide) rl0 (fun _ => ?_) (fun c => absurd rfl c)
    refine J_goto 2148 o dL_law_1571 (by decide) ?_
    exact hend _ _ _ _ _ _ _ _ k.add ⟨Nat.le_refl _, Nat.le_refl _⟩ hI2
def St_cheapest (I : World → World → Prop) : Prop := ∀ {wA wB : World}, I wA wB → ∀ x1 x2 x3 x4 : Int, R32 x1 → R32 x2 → R32 x3 → R32 x4 → ∃ (oA : World × Nat × Int) (oB : World × Int), f_Dm_cheapest wA x1 x2 x3 x4 = some oA ∧ f_Re_cheapest wB x1 x2 x3 x4 = some oB ∧ f_Re_thrown oB.1 = some (hmL 1 0 0 oA.2.1) ∧ (oA.2.1 = 0 ∨ oA.2.1 = 1) ∧ (oA.2.1 = 0 → oA.2.2 = oB.2) ∧ I oA.1 oB.1
theorem lz_cheapest {X : LX} {K0 K : KT} {H0 : Heap} {I : World → World → Prop} {a9 b9 i : Nat} {o5 o6 : Option Value} {wA wB : World} {v : Nat → Int64} (k : LawK X K0 K H0 a9 b9) (hroom : a9 + 1 ≤ room_1.cells ∧ b9 + 6 ≤ room_1.slots) (hi : i + 8 ≤ X.n) (hN : X.n ≤ 4096) (hI : I wA wB) (hs : St_cheapest I) (hend : LawE X K0 H0 I a9 b9 i) : Jj K (WdZ X H0) (wA, wB, v) 1574 (lawL X i o5 o6) [] := by
  have o := k.1
  have g := k.2.1
  have kc := k.2.2.1
  have kr := k.kr ⟨by omega, by omega⟩
  refine J_aload_n o dL_law_1574 rfl ?_
  refine J_aldO_n o dL_law_1575 rfl ?_
  refine J_iload o dL_law_1576 rfl ?_
  refine J_iconst o dL_law_1578 ?_
  refine J_iadd o dL_law_1579 ?_
  refine J_sld (n := i + 1) o g dL_law_1580 ((wr_of ⟨by omega, by omega⟩).trans (by omega)) (by omega) hN ?_
  refine J_aldO_n o dL_law_1581 rfl ?_
  refine J_iload o dL_law_1582 rfl ?_
  refine J_iconst o dL_law_1584 ?_
  refine J_iadd o dL_law_1585 ?_
  refine J_sld (n := i + 2) o g dL_law_1586 ((wr_of ⟨by omega, by omega⟩).trans (by omega)) (by omega) hN ?_
  refine J_aldO_n o dL_law_1587 rfl ?_
  refine J_iload o dL_law_1588 rfl ?_
  refine J_iconst o dL_law_1590 ?_
  refine J_iadd o dL_law_1591 ?_
  refine J_sld (n := i + 3) o g dL_law_1592 ((wr_of ⟨by omega, by omega⟩).trans (by omega)) (by omega) hN ?_
  refine J_aldO_n o dL_law_1593 rfl ?_
  refine J_iload o dL_law_1594 rfl ?_
  refine J_iconst o dL_law_1596 ?_
  refine J_iadd o dL_law_1597 ?_
  refine J_sld (n := i + 4) o g dL_law_1598 ((wr_of ⟨by omega, by omega⟩).trans (by omega)) (by omega) hN ?_
  refine J_aldO_n o dL_law_1599 rfl ?_
  obtain ⟨oA, oB, hA, hB, hT, hn, hv, hI2⟩ := hs hI (sc X (i + 1)) (sc X (i + 2)) (sc X (i + 3)) (sc X (i + 4)) (R_sc _ _) (R_sc _ _) (R_sc _ _) (R_sc _ _)
  refine J_wO (np := 6) (vs := [rf X.A.ad 1, .int (ii (sc X (i + 1))), .int (ii (sc X (i + 2))), .int (ii (sc X (i + 3))), .int (ii (sc X (i + 4))), .ref X.O.2]) o g kc dL_law_1600 mw1196 mw1198 mw1197 mw162 ⟨by decide +kernel, by decide +kernel, by decide +kernel⟩ ⟨rfl, rfl, Nat.le_of_ble_eq_true rfl, Nat.le_of_ble_eq_true rfl⟩ hroom (c_L_cheapest k.st g.2.1.1 g.2.1.2.2.1 (R_sc _ _) (R_sc _ _) (R_sc _ _) (R_sc _ _) hA hn) rfl rfl c1s_0 (fun u hu hr => ?_)
  replace o := OkO.add (a' := 1) (b' := 6) o
  replace g := GdZ.add (a := 1) (b := 6) g
  replace kr := (k.add).kr hroom
  refine J_istore o dL_law_1603 (Nat.le_of_ble_eq_true rfl) ?_
  refine J_aload_n o dL_law_1605 rfl ?_
  refine J_aldO_n o dL_law_1606 rfl ?_
  refine J_iload o dL_law_1607 rfl ?_
  refine J_iconst o dL_law_1609 ?_
  refine J_iadd o dL_law_1610 ?_
  refine J_sld (n := i + 1) o g dL_law_1611 ((wr_of ⟨by omega, by omega⟩).trans (by omega)) (by omega) hN ?_
  refine J_aldO_n o dL_law_1612 rfl ?_
  refine J_iload o dL_law_1613 rfl ?_
  refine J_iconst o dL_law_1615 ?_
  refine J_iadd o dL_law_1616 ?_
  refine J_sld (n := i + 2) o g dL_law_1617 ((wr_of ⟨by omega, by omega⟩).trans (by omega)) (by omega) hN ?_
  refine J_aldO_n o dL_law_1618 rfl ?_
  refine J_iload o dL_law_1619 rfl ?_
  refine J_iconst o dL_law_1621 ?_
  refine J_iadd o dL_law_1622 ?_
  refine J_sld (n := i + 3) o g dL_law_1623 ((wr_of ⟨by omega, by omega⟩).trans (by omega)) (by omega) hN ?_
  refine J_aldO_n o dL_law_1624 rfl ?_
  refine J_iload o dL_law_1625 rfl ?_
  refine J_iconst o dL_law_1627 ?_
  refine J_iadd o dL_law_1628 ?_
  refine J_sld (n := i + 4) o g dL_law_1629 ((wr_of ⟨by omega, by omega⟩).trans (by omega)) (by omega) hN ?_
  refine J_bI (vs := [.int (ii (sc X (i + 1))), .int (ii (sc X (i + 2))), .int (ii (sc X (i + 3))), .int (ii (sc X (i + 4)))]) o g kr dL_law_1630 lkL_178 ml_Re_cheapest vl_Re_cheapest ⟨rfl, rfl, Nat.le_of_ble_eq_true rfl, Nat.le_of_ble_eq_true rfl⟩ (c_Re_cheapest g.2.1.2.1 (R_sc _ _) (R_sc _ _) (R_sc _ _) (R_sc _ _) hB) kB_1 rfl ⟨by decide, by decide⟩ rfl rfl c1s_0 (fun hrB => ?_)
  refine J_istore o dL_law_1633 (Nat.le_of_ble_eq_true rfl) ?_
  refine J_aload_n o dL_law_1635 rfl ?_
  refine J_bI (vs := []) o g kr dL_law_1636 lkL_110 ml_Re_thrown vl_Re_thrown ⟨rfl, rfl, Nat.le_of_ble_eq_true rfl, Nat.le_of_ble_eq_true rfl⟩ (c_Re_thrown g.2.1.2.1 hT) kB_1 rfl ⟨by decide, by decide⟩ rfl rfl c1s_0 (fun hrT => ?_)
  refine J_iload o dL_law_1639 rfl ?_
  refine J_icmp_eq 1646 o dL_law_1641 (by decide) hrT hr (fun _ => ?_) (fun c => absurd rfl c)
  refine J_iload o dL_law_1646 rfl ?_
  refine J_if_ne 1663 o dL_law_1648 (by decide) hr (fun c => ?_) (fun c => ?_)
  · skip
    refine J_goto 2148 o dL_law_1663 (by decide) ?_
    exact hend _ _ _ _ _ _ _ _ k.add ⟨Nat.le_refl _, Nat.le_refl _⟩ hI2
  · have h0 : oA.2.1 = 0 := by
      rcases hn with h | h
      · exact h
      · rw [h] at c; exact absurd c (by decide)
    refine J_aldO_n o dL_law_1651 rfl ?_
    refine J_iconst o dL_law_1652 ?_
    refine J_lald o g dL_law_1653 rfl ?_
    refine J_iload o dL_law_1654 rfl ?_
    refine J_i2l o dL_law_1656 hrB (fun y hy => ?_)
    refine J_lcmp o dL_law_1657 ((hu rfl h0).trans ((hv h0).trans hy.symm)) ?_
    refine J_if_eq 1663 o dL_law_1658 (by decide) rl0 (fun _ => ?_) (fun c => absurd rfl c)
    refine J_goto 2148 o dL_law_1663 (by decide) ?_
    exact hend _ _ _ _ _ _ _ _ k.add ⟨Nat.le_refl _, Nat.le_refl _⟩ hI2
def St_needed (I : World → World → Prop) : Prop := ∀ {wA wB : World}, I wA wB → ∀ x1 x2 x3 x4 : Int, R32 x1 → R32 x2 → R32 x3 → R32 x4 → ∃ (oA : World × Nat × Int) (oB : World × Int), f_Dm_needed wA x1 x2 x3 x4 = some oA ∧ f_Re_needed wB x1 x2 x3 x4 = some oB ∧ f_Re_thrown oB.1 = some (hmL 1 0 0 oA.2.1) ∧ (oA.2.1 = 0 ∨ oA.2.1 = 1) ∧ (oA.2.1 = 0 → oA.2.2 = oB.2) ∧ I oA.1 oB.1
theorem lz_needed {X : LX} {K0 K : KT} {H0 : Heap} {I : World → World → Prop} {a9 b9 i : Nat} {o5 o6 : Option Value} {wA wB : World} {v : Nat → Int64} (k : LawK X K0 K H0 a9 b9) (hroom : a9 + 1 ≤ room_1.cells ∧ b9 + 6 ≤ room_1.slots) (hi : i + 8 ≤ X.n) (hN : X.n ≤ 4096) (hI : I wA wB) (hs : St_needed I) (hend : LawE X K0 H0 I a9 b9 i) : Jj K (WdZ X H0) (wA, wB, v) 1666 (lawL X i o5 o6) [] := by
  have o := k.1
  have g := k.2.1
  have kc := k.2.2.1
  have kr := k.kr ⟨by omega, by omega⟩
  refine J_aload_n o dL_law_1666 rfl ?_
  refine J_aldO_n o dL_law_1667 rfl ?_
  refine J_iload o dL_law_1668 rfl ?_
  refine J_iconst o dL_law_1670 ?_
  refine J_iadd o dL_law_1671 ?_
  refine J_sld (n := i + 1) o g dL_law_1672 ((wr_of ⟨by omega, by omega⟩).trans (by omega)) (by omega) hN ?_
  refine J_aldO_n o dL_law_1673 rfl ?_
  refine J_iload o dL_law_1674 rfl ?_
  refine J_iconst o dL_law_1676 ?_
  refine J_iadd o dL_law_1677 ?_
  refine J_sld (n := i + 2) o g dL_law_1678 ((wr_of ⟨by omega, by omega⟩).trans (by omega)) (by omega) hN ?_
  refine J_aldO_n o dL_law_1679 rfl ?_
  refine J_iload o dL_law_1680 rfl ?_
  refine J_iconst o dL_law_1682 ?_
  refine J_iadd o dL_law_1683 ?_
  refine J_sld (n := i + 3) o g dL_law_1684 ((wr_of ⟨by omega, by omega⟩).trans (by omega)) (by omega) hN ?_
  refine J_aldO_n o dL_law_1685 rfl ?_
  refine J_iload o dL_law_1686 rfl ?_
  refine J_iconst o dL_law_1688 ?_
  refine J_iadd o dL_law_1689 ?_
  refine J_sld (n := i + 4) o g dL_law_1690 ((wr_of ⟨by omega, by omega⟩).trans (by omega)) (by omega) hN ?_
  refine J_aldO_n o dL_law_1691 rfl ?_
  obtain ⟨oA, oB, hA, hB, hT, hn, hv, hI2⟩ := hs hI (sc X (i + 1)) (sc X (i + 2)) (sc X (i + 3)) (sc X (i + 4)) (R_sc _ _) (R_sc _ _) (R_sc _ _) (R_sc _ _)
  refine J_wO (np := 6) (vs := [rf X.A.ad 1, .int (ii (sc X (i + 1))), .int (ii (sc X (i + 2))), .int (ii (sc X (i + 3))), .int (ii (sc X (i + 4))), .ref X.O.2]) o g kc dL_law_1692 mw1235 mw1237 mw1236 mw162 ⟨by decide +kernel, by decide +kernel, by decide +kernel⟩ ⟨rfl, rfl, Nat.le_of_ble_eq_true rfl, Nat.le_of_ble_eq_true rfl⟩ hroom (c_L_needed k.st g.2.1.1 g.2.1.2.2.1 (R_sc _ _) (R_sc _ _) (R_sc _ _) (R_sc _ _) hA hn) rfl rfl c1s_0 (fun u hu hr => ?_)
  replace o := OkO.add (a' := 1) (b' := 6) o
  replace g := GdZ.add (a := 1) (b := 6) g
  replace kr := (k.add).kr hroom
  refine J_istore o dL_law_1695 (Nat.le_of_ble_eq_true rfl) ?_
  refine J_aload_n o dL_law_1697 rfl ?_
  refine J_aldO_n o dL_law_1698 rfl ?_
  refine J_iload o dL_law_1699 rfl ?_
  refine J_iconst o dL_law_1701 ?_
  refine J_iadd o dL_law_1702 ?_
  refine J_sld (n := i + 1) o g dL_law_1703 ((wr_of ⟨by omega, by omega⟩).trans (by omega)) (by omega) hN ?_
  refine J_aldO_n o dL_law_1704 rfl ?_
  refine J_iload o dL_law_1705 rfl ?_
  refine J_iconst o dL_law_1707 ?_
  refine J_iadd o dL_law_1708 ?_
  refine J_sld (n := i + 2) o g dL_law_1709 ((wr_of ⟨by omega, by omega⟩).trans (by omega)) (by omega) hN ?_
  refine J_aldO_n o dL_law_1710 rfl ?_
  refine J_iload o dL_law_1711 rfl ?_
  refine J_iconst o dL_law_1713 ?_
  refine J_iadd o dL_law_1714 ?_
  refine J_sld (n := i + 3) o g dL_law_1715 ((wr_of ⟨by omega, by omega⟩).trans (by omega)) (by omega) hN ?_
  refine J_aldO_n o dL_law_1716 rfl ?_
  refine J_iload o dL_law_1717 rfl ?_
  refine J_iconst o dL_law_1719 ?_
  refine J_iadd o dL_law_1720 ?_
  refine J_sld (n := i + 4) o g dL_law_1721 ((wr_of ⟨by omega, by omega⟩).trans (by omega)) (by omega) hN ?_
  refine J_bI (vs := [.int (ii (sc X (i + 1))), .int (ii (sc X (i + 2))), .int (ii (sc X (i + 3))), .int (ii (sc X (i + 4)))]) o g kr dL_law_1722 lkL_181 ml_Re_needed vl_Re_needed ⟨rfl, rfl, Nat.le_of_ble_eq_true rfl, Nat.le_of_ble_eq_true rfl⟩ (c_Re_needed g.2.1.2.1 (R_sc _ _) (R_sc _ _) (R_sc _ _) (R_sc _ _) hB) kB_1 rfl ⟨by decide, by decide⟩ rfl rfl c1s_0 (fun hrB => ?_)
  refine J_istore o dL_law_1725 (Nat.le_of_ble_eq_true rfl) ?_
  refine J_aload_n o dL_law_1727 rfl ?_
  refine J_bI (vs := []) o g kr dL_law_1728 lkL_110 ml_Re_thrown vl_Re_thrown ⟨rfl, rfl, Nat.le_of_ble_eq_true rfl, Nat.le_of_ble_eq_true rfl⟩ (c_Re_thrown g.2.1.2.1 hT) kB_1 rfl ⟨by decide, by decide⟩ rfl rfl c1s_0 (fun hrT => ?_)
  refine J_iload o dL_law_1731 rfl ?_
  refine J_icmp_eq 1738 o dL_law_1733 (by decide) hrT hr (fun _ => ?_) (fun c => absurd rfl c)
  refine J_iload o dL_law_1738 rfl ?_
  refine J_if_ne 1755 o dL_law_1740 (by decide) hr (fun c => ?_) (fun c => ?_)
  · skip
    refine J_goto 2148 o dL_law_1755 (by decide) ?_
    exact hend _ _ _ _ _ _ _ _ k.add ⟨Nat.le_refl _, Nat.le_refl _⟩ hI2
  · have h0 : oA.2.1 = 0 := by
      rcases hn with h | h
      · exact h
      · rw [h] at c; exact absurd c (by decide)
    refine J_aldO_n o dL_law_1743 rfl ?_
    refine J_iconst o dL_law_1744 ?_
    refine J_lald o g dL_law_1745 rfl ?_
    refine J_iload o dL_law_1746 rfl ?_
    refine J_i2l o dL_law_1748 hrB (fun y hy => ?_)
    refine J_lcmp o dL_law_1749 ((hu rfl h0).trans ((hv h0).trans hy.symm)) ?_
    refine J_if_eq 1755 o dL_law_1750 (by decide) rl0 (fun _ => ?_) (fun c => absurd rfl c)
    refine J_goto 2148 o dL_law_1755 (by decide) ?_
    exact hend _ _ _ _ _ _ _ _ k.add ⟨Nat.le_refl _, Nat.le_refl _⟩ hI2
def St_whyNot (I : World → World → Prop) : Prop := ∀ {wA wB : World}, I wA wB → ∀ x1 x2 x3 x4 : Int, R32 x1 → R32 x2 → R32 x3 → R32 x4 → ∃ (oA : World × Nat × Int) (oB : World × Int), f_Dm_whyNot wA x1 x2 x3 x4 = some oA ∧ f_Re_whyNot wB x1 x2 x3 x4 = some oB ∧ f_Re_thrown oB.1 = some (hmL 1 2 3 oA.2.1) ∧ (oA.2.1 = 0 ∨ oA.2.1 = 1 ∨ oA.2.1 = 2 ∨ oA.2.1 = 3) ∧ (oA.2.1 = 0 → oA.2.2 = oB.2) ∧ I oA.1 oB.1
theorem lz_whyNot {X : LX} {K0 K : KT} {H0 : Heap} {I : World → World → Prop} {a9 b9 i : Nat} {o5 o6 : Option Value} {wA wB : World} {v : Nat → Int64} (k : LawK X K0 K H0 a9 b9) (hroom : a9 + 1 ≤ room_1.cells ∧ b9 + 6 ≤ room_1.slots) (hi : i + 8 ≤ X.n) (hN : X.n ≤ 4096) (hI : I wA wB) (hs : St_whyNot I) (hend : LawE X K0 H0 I a9 b9 i) : Jj K (WdZ X H0) (wA, wB, v) 1758 (lawL X i o5 o6) [] := by
  have o := k.1
  have g := k.2.1
  have kc := k.2.2.1
  have kr := k.kr ⟨by omega, by omega⟩
  refine J_aload_n o dL_law_1758 rfl ?_
  refine J_aldO_n o dL_law_1759 rfl ?_
  refine J_iload o dL_law_1760 rfl ?_
  refine J_iconst o dL_law_1762 ?_
  refine J_iadd o dL_law_1763 ?_
  refine J_sld (n := i + 1) o g dL_law_1764 ((wr_of ⟨by omega, by omega⟩).trans (by omega)) (by omega) hN ?_
  refine J_aldO_n o dL_law_1765 rfl ?_
  refine J_iload o dL_law_1766 rfl ?_
  refine J_iconst o dL_law_1768 ?_
  refine J_iadd o dL_law_1769 ?_
  refine J_sld (n := i + 2) o g dL_law_1770 ((wr_of ⟨by omega, by omega⟩).trans (by omega)) (by omega) hN ?_
  refine J_aldO_n o dL_law_1771 rfl ?_
  refine J_iload o dL_law_1772 rfl ?_
  refine J_iconst o dL_law_1774 ?_
  refine J_iadd o dL_law_1775 ?_
  refine J_sld (n := i + 3) o g dL_law_1776 ((wr_of ⟨by omega, by omega⟩).trans (by omega)) (by omega) hN ?_
  refine J_aldO_n o dL_law_1777 rfl ?_
  refine J_iload o dL_law_1778 rfl ?_
  refine J_iconst o dL_law_1780 ?_
  refine J_iadd o dL_law_1781 ?_
  refine J_sld (n := i + 4) o g dL_law_1782 ((wr_of ⟨by omega, by omega⟩).trans (by omega)) (by omega) hN ?_
  refine J_aldO_n o dL_law_1783 rfl ?_
  obtain ⟨oA, oB, hA, hB, hT, hn, hv, hI2⟩ := hs hI (sc X (i + 1)) (sc X (i + 2)) (sc X (i + 3)) (sc X (i + 4)) (R_sc _ _) (R_sc _ _) (R_sc _ _) (R_sc _ _)
  refine J_wO (np := 6) (vs := [rf X.A.ad 1, .int (ii (sc X (i + 1))), .int (ii (sc X (i + 2))), .int (ii (sc X (i + 3))), .int (ii (sc X (i + 4))), .ref X.O.2]) o g kc dL_law_1784 mw1242 mw1244 mw1243 mw162 ⟨by decide +kernel, by decide +kernel, by decide +kernel⟩ ⟨rfl, rfl, Nat.le_of_ble_eq_true rfl, Nat.le_of_ble_eq_true rfl⟩ hroom (c_L_whyNot k.st g.2.1.1 g.2.1.2.2.1 (R_sc _ _) (R_sc _ _) (R_sc _ _) (R_sc _ _) hA hn) rfl rfl c1s_0 (fun u hu hr => ?_)
  replace o := OkO.add (a' := 1) (b' := 6) o
  replace g := GdZ.add (a := 1) (b := 6) g
  replace kr := (k.add).kr hroom
  refine J_istore o dL_law_1787 (Nat.le_of_ble_eq_true rfl) ?_
  refine J_aload_n o dL_law_1789 rfl ?_
  refine J_aldO_n o dL_law_1790 rfl ?_
  refine J_iload o dL_law_1791 rfl ?_
  refine J_iconst o dL_law_1793 ?_
  refine J_iadd o dL_law_1794 ?_
  refine J_sld (n := i + 1) o g dL_law_1795 ((wr_of ⟨by omega, by omega⟩).trans (by omega)) (by omega) hN ?_
  refine J_aldO_n o dL_law_1796 rfl ?_
  refine J_iload o dL_law_1797 rfl ?_
  refine J_iconst o dL_law_1799 ?_
  refine J_iadd o dL_law_1800 ?_
  refine J_sld (n := i + 2) o g dL_law_1801 ((wr_of ⟨by omega, by omega⟩).trans (by omega)) (by omega) hN ?_
  refine J_aldO_n o dL_law_1802 rfl ?_
  refine J_iload o dL_law_1803 rfl ?_
  refine J_iconst o dL_law_1805 ?_
  refine J_iadd o dL_law_1806 ?_
  refine J_sld (n := i + 3) o g dL_law_1807 ((wr_of ⟨by omega, by omega⟩).trans (by omega)) (by omega) hN ?_
  refine J_aldO_n o dL_law_1808 rfl ?_
  refine J_iload o dL_law_1809 rfl ?_
  refine J_iconst o dL_law_1811 ?_
  refine J_iadd o dL_law_1812 ?_
  refine J_sld (n := i + 4) o g dL_law_1813 ((wr_of ⟨by omega, by omega⟩).trans (by omega)) (by omega) hN ?_
  refine J_bI (vs := [.int (ii (sc X (i + 1))), .int (ii (sc X (i + 2))), .int (ii (sc X (i + 3))), .int (ii (sc X (i + 4)))]) o g kr dL_law_1814 lkL_184 ml_Re_whyNot vl_Re_whyNot ⟨rfl, rfl, Nat.le_of_ble_eq_true rfl, Nat.le_of_ble_eq_true rfl⟩ (c_Re_whyNot g.2.1.2.1 (R_sc _ _) (R_sc _ _) (R_sc _ _) (R_sc _ _) hB) kB_1 rfl ⟨by decide, by decide⟩ rfl rfl c1s_0 (fun hrB => ?_)
  refine J_istore o dL_law_1817 (Nat.le_of_ble_eq_true rfl) ?_
  refine J_aload_n o dL_law_1819 rfl ?_
  refine J_bI (vs := []) o g kr dL_law_1820 lkL_110 ml_Re_thrown vl_Re_thrown ⟨rfl, rfl, Nat.le_of_ble_eq_true rfl, Nat.le_of_ble_eq_true rfl⟩ (c_Re_thrown g.2.1.2.1 hT) kB_1 rfl ⟨by decide, by decide⟩ rfl rfl c1s_0 (fun hrT => ?_)
  refine J_iload o dL_law_1823 rfl ?_
  refine J_icmp_eq 1830 o dL_law_1825 (by decide) hrT hr (fun _ => ?_) (fun c => absurd rfl c)
  refine J_iload o dL_law_1830 rfl ?_
  refine J_if_ne 1847 o dL_law_1832 (by decide) hr (fun c => ?_) (fun c => ?_)
  · skip
    refine J_goto 2148 o dL_law_1847 (by decide) ?_
    exact hend _ _ _ _ _ _ _ _ k.add ⟨Nat.le_refl _, Nat.le_refl _⟩ hI2
  · have h0 : oA.2.1 = 0 := by
      rcases hn with h | h | h | h
      · exact h
      · rw [h] at c; exact absurd c (by decide)
      · rw [h] at c; exact absurd c (by decide)
      · rw [h] at c; exact absurd c (by decide)
    refine J_aldO_n o dL_law_1835 rfl ?_
    refine J_iconst o dL_law_1836 ?_
    refine J_lald o g dL_law_1837 rfl ?_
    refine J_iload o dL_law_1838 rfl ?_
    refine J_i2l o dL_law_1840 hrB (fun y hy => ?_)
    refine J_lcmp o dL_law_1841 ((hu rfl h0).trans ((hv h0).trans hy.symm)) ?_
    refine J_if_eq 1847 o dL_law_1842 (by decide) rl0 (fun _ => ?_) (fun c => absurd rfl c)
    refine J_goto 2148 o dL_law_1847 (by decide) ?_
    exact hend _ _ _ _ _ _ _ _ k.add ⟨Nat.le_refl _, Nat.le_refl _⟩ hI2
def St_broken (I : World → World → Prop) : Prop := ∀ {wA wB : World}, I wA wB → ∃ oA oB : World × Int, f_Dm_broken wA = some oA ∧ f_Re_broken wB = some oB ∧ oA.2 = oB.2 ∧ I oA.1 oB.1
theorem lz_broken {X : LX} {K0 K : KT} {H0 : Heap} {I : World → World → Prop} {a9 b9 i : Nat} {o5 o6 : Option Value} {wA wB : World} {v : Nat → Int64} (k : LawK X K0 K H0 a9 b9) (hroom : a9 + 1 ≤ room_1.cells ∧ b9 + 6 ≤ room_1.slots) (hi : i + 8 ≤ X.n) (hN : X.n ≤ 4096) (hI : I wA wB) (hs : St_broken I) (hend : LawE X K0 H0 I a9 b9 i) : Jj K (WdZ X H0) (wA, wB, v) 1850 (lawL X i o5 o6) [] := by
  have o := k.1
  have g := k.2.1
  have kc := k.2.2.1
  have kr := k.kr ⟨by omega, by omega⟩
  refine J_aload_n o dL_law_1850 rfl ?_
  obtain ⟨oA, oB, hA, hB, hv, hI2⟩ := hs hI
  refine J_aI (vs := []) o g kr dL_law_1851 lkL_185 ml_Dm_broken vl_Dm_broken ⟨rfl, rfl, Nat.le_of_ble_eq_true rfl, Nat.le_of_ble_eq_true rfl⟩ (c_Dm_broken g.2.1.1 hA) kA_1 rfl ⟨by decide, by decide⟩ rfl rfl c1s_0 (fun hrA => ?_)
  refine J_aload_n o dL_law_1854 rfl ?_
  refine J_bI (vs := []) o g kr dL_law_1855 lkL_188 ml_Re_broken vl_Re_broken ⟨rfl, rfl, Nat.le_of_ble_eq_true rfl, Nat.le_of_ble_eq_true rfl⟩ (c_Re_broken g.2.1.2.1 hB) kB_1 rfl ⟨by decide, by decide⟩ rfl rfl (c1s_i c1s_0 (Nat.le_of_ble_eq_true rfl)) (fun hrB => ?_)
  refine J_icmp_eq 2148 o dL_law_1858 (by decide) hrA hrB (fun _ => ?_) (fun c => absurd hv c)
  exact hend _ _ _ _ _ _ _ _ k ⟨by omega, by omega⟩ hI2
def St_repair (I : World → World → Prop) : Prop := ∀ {wA wB : World}, I wA wB → ∃ oA oB : World × Int, f_Dm_repair wA = some oA ∧ f_Re_repair wB = some oB ∧ oA.2 = oB.2 ∧ I oA.1 oB.1
theorem lz_repair {X : LX} {K0 K : KT} {H0 : Heap} {I : World → World → Prop} {a9 b9 i : Nat} {o5 o6 : Option Value} {wA wB : World} {v : Nat → Int64} (k : LawK X K0 K H0 a9 b9) (hroom : a9 + 1 ≤ room_1.cells ∧ b9 + 6 ≤ room_1.slots) (hi : i + 8 ≤ X.n) (hN : X.n ≤ 4096) (hI : I wA wB) (hs : St_repair I) (hend : LawE X K0 H0 I a9 b9 i) : Jj K (WdZ X H0) (wA, wB, v) 1863 (lawL X i o5 o6) [] := by
  have o := k.1
  have g := k.2.1
  have kc := k.2.2.1
  have kr := k.kr ⟨by omega, by omega⟩
  refine J_aload_n o dL_law_1863 rfl ?_
  obtain ⟨oA, oB, hA, hB, hv, hI2⟩ := hs hI
  refine J_aI (vs := []) o g kr dL_law_1864 lkL_189 ml_Dm_repair vl_Dm_repair ⟨rfl, rfl, Nat.le_of_ble_eq_true rfl, Nat.le_of_ble_eq_true rfl⟩ (c_Dm_repair g.2.1.1 hA) kA_1 rfl ⟨by decide, by decide⟩ rfl rfl c1s_0 (fun hrA => ?_)
  refine J_aload_n o dL_law_1867 rfl ?_
  refine J_bI (vs := []) o g kr dL_law_1868 lkL_192 ml_Re_repair vl_Re_repair ⟨rfl, rfl, Nat.le_of_ble_eq_true rfl, Nat.le_of_ble_eq_true rfl⟩ (c_Re_repair g.2.1.2.1 hB) kB_1 rfl ⟨by decide, by decide⟩ rfl rfl (c1s_i c1s_0 (Nat.le_of_ble_eq_true rfl)) (fun hrB => ?_)
  refine J_icmp_eq 2148 o dL_law_1871 (by decide) hrA hrB (fun _ => ?_) (fun c => absurd hv c)
  exact hend _ _ _ _ _ _ _ _ k ⟨by omega, by omega⟩ hI2
def St_goals (I : World → World → Prop) : Prop := ∀ {wA wB : World}, I wA wB → ∀ x1 x2 x3 x4 : Int, R32 x1 → R32 x2 → R32 x3 → R32 x4 → ∃ (oA : World × Nat × Int) (oB : World × Int), f_Dm_goals wA x1 x2 x3 x4 = some oA ∧ f_Re_goals wB x1 x2 x3 x4 = some oB ∧ f_Re_thrown oB.1 = some (hmL 1 2 0 oA.2.1) ∧ (oA.2.1 = 0 ∨ oA.2.1 = 1 ∨ oA.2.1 = 2) ∧ (oA.2.1 = 0 → oA.2.2 = oB.2) ∧ I oA.1 oB.1
theorem lz_goals {X : LX} {K0 K : KT} {H0 : Heap} {I : World → World → Prop} {a9 b9 i : Nat} {o5 o6 : Option Value} {wA wB : World} {v : Nat → Int64} (k : LawK X K0 K H0 a9 b9) (hroom : a9 + 1 ≤ room_1.cells ∧ b9 + 6 ≤ room_1.slots) (hi : i + 8 ≤ X.n) (hN : X.n ≤ 4096) (hI : I wA wB) (hs : St_goals I) (hend : LawE X K0 H0 I a9 b9 i) : Jj K (WdZ X H0) (wA, wB, v) 1876 (lawL X i o5 o6) [] := by
  have o := k.1
  have g := k.2.1
  have kc := k.2.2.1
  have kr := k.kr ⟨by omega, by omega⟩
  refine J_aload_n o dL_law_1876 rfl ?_
  refine J_aldO_n o dL_law_1877 rfl ?_
  refine J_iload o dL_law_1878 rfl ?_
  refine J_iconst o dL_law_1880 ?_
  refine J_iadd o dL_law_1881 ?_
  refine J_sld (n := i + 1) o g dL_law_1882 ((wr_of ⟨by omega, by omega⟩).trans (by omega)) (by omega) hN ?_
  refine J_aldO_n o dL_law_1883 rfl ?_
  refine J_iload o dL_law_1884 rfl ?_
  refine J_iconst o dL_law_1886 ?_
  refine J_iadd o dL_law_1887 ?_
  refine J_sld (n := i + 2) o g dL_law_1888 ((wr_of ⟨by omega, by omega⟩).trans (by omega)) (by omega) hN ?_
  refine J_aldO_n o dL_law_1889 rfl ?_
  refine J_iload o dL_law_1890 rfl ?_
  refine J_iconst o dL_law_1892 ?_
  refine J_iadd o dL_law_1893 ?_
  refine J_sld (n := i + 3) o g dL_law_1894 ((wr_of ⟨by omega, by omega⟩).trans (by omega)) (by omega) hN ?_
  refine J_aldO_n o dL_law_1895 rfl ?_
  refine J_iload o dL_law_1896 rfl ?_
  refine J_iconst o dL_law_1898 ?_
  refine J_iadd o dL_law_1899 ?_
  refine J_sld (n := i + 4) o g dL_law_1900 ((wr_of ⟨by omega, by omega⟩).trans (by omega)) (by omega) hN ?_
  refine J_aldO_n o dL_law_1901 rfl ?_
  obtain ⟨oA, oB, hA, hB, hT, hn, hv, hI2⟩ := hs hI (sc X (i + 1)) (sc X (i + 2)) (sc X (i + 3)) (sc X (i + 4)) (R_sc _ _) (R_sc _ _) (R_sc _ _) (R_sc _ _)
  refine J_wO (np := 6) (vs := [rf X.A.ad 1, .int (ii (sc X (i + 1))), .int (ii (sc X (i + 2))), .int (ii (sc X (i + 3))), .int (ii (sc X (i + 4))), .ref X.O.2]) o g kc dL_law_1902 mw1255 mw1257 mw1256 mw162 ⟨by decide +kernel, by decide +kernel, by decide +kernel⟩ ⟨rfl, rfl, Nat.le_of_ble_eq_true rfl, Nat.le_of_ble_eq_true rfl⟩ hroom (c_L_goals k.st g.2.1.1 g.2.1.2.2.1 (R_sc _ _) (R_sc _ _) (R_sc _ _) (R_sc _ _) hA hn) rfl rfl c1s_0 (fun u hu hr => ?_)
  replace o := OkO.add (a' := 1) (b' := 6) o
  replace g := GdZ.add (a := 1) (b := 6) g
  replace kr := (k.add).kr hroom
  refine J_istore o dL_law_1905 (Nat.le_of_ble_eq_true rfl) ?_
  refine J_aload_n o dL_law_1907 rfl ?_
  refine J_aldO_n o dL_law_1908 rfl ?_
  refine J_iload o dL_law_1909 rfl ?_
  refine J_iconst o dL_law_1911 ?_
  refine J_iadd o dL_law_1912 ?_
  refine J_sld (n := i + 1) o g dL_law_1913 ((wr_of ⟨by omega, by omega⟩).trans (by omega)) (by omega) hN ?_
  refine J_aldO_n o dL_law_1914 rfl ?_
  refine J_iload o dL_law_1915 rfl ?_
  refine J_iconst o dL_law_1917 ?_
  refine J_iadd o dL_law_1918 ?_
  refine J_sld (n := i + 2) o g dL_law_1919 ((wr_of ⟨by omega, by omega⟩).trans (by omega)) (by omega) hN ?_
  refine J_aldO_n o dL_law_1920 rfl ?_
  refine J_iload o dL_law_1921 rfl ?_
  refine J_iconst o dL_law_1923 ?_
  refine J_iadd o dL_law_1924 ?_
  refine J_sld (n := i + 3) o g dL_law_1925 ((wr_of ⟨by omega, by omega⟩).trans (by omega)) (by omega) hN ?_
  refine J_aldO_n o dL_law_1926 rfl ?_
  refine J_iload o dL_law_1927 rfl ?_
  refine J_iconst o dL_law_1929 ?_
  refine J_iadd o dL_law_1930 ?_
  refine J_sld (n := i + 4) o g dL_law_1931 ((wr_of ⟨by omega, by omega⟩).trans (by omega)) (by omega) hN ?_
  refine J_bI (vs := [.int (ii (sc X (i + 1))), .int (ii (sc X (i + 2))), .int (ii (sc X (i + 3))), .int (ii (sc X (i + 4)))]) o g kr dL_law_1932 lkL_195 ml_Re_goals vl_Re_goals ⟨rfl, rfl, Nat.le_of_ble_eq_true rfl, Nat.le_of_ble_eq_true rfl⟩ (c_Re_goals g.2.1.2.1 (R_sc _ _) (R_sc _ _) (R_sc _ _) (R_sc _ _) hB) kB_1 rfl ⟨by decide, by decide⟩ rfl rfl c1s_0 (fun hrB => ?_)
  refine J_istore o dL_law_1935 (Nat.le_of_ble_eq_true rfl) ?_
  refine J_aload_n o dL_law_1937 rfl ?_
  refine J_bI (vs := []) o g kr dL_law_1938 lkL_110 ml_Re_thrown vl_Re_thrown ⟨rfl, rfl, Nat.le_of_ble_eq_true rfl, Nat.le_of_ble_eq_true rfl⟩ (c_Re_thrown g.2.1.2.1 hT) kB_1 rfl ⟨by decide, by decide⟩ rfl rfl c1s_0 (fun hrT => ?_)
  refine J_iload o dL_law_1941 rfl ?_
  refine J_icmp_eq 1948 o dL_law_1943 (by decide) hrT hr (fun _ => ?_) (fun c => absurd rfl c)
  refine J_iload o dL_law_1948 rfl ?_
  refine J_if_ne 1965 o dL_law_1950 (by decide) hr (fun c => ?_) (fun c => ?_)
  · skip
    refine J_goto 2148 o dL_law_1965 (by decide) ?_
    exact hend _ _ _ _ _ _ _ _ k.add ⟨Nat.le_refl _, Nat.le_refl _⟩ hI2
  · have h0 : oA.2.1 = 0 := by
      rcases hn with h | h | h
      · exact h
      · rw [h] at c; exact absurd c (by decide)
      · rw [h] at c; exact absurd c (by decide)
    refine J_aldO_n o dL_law_1953 rfl ?_
    refine J_iconst o dL_law_1954 ?_
    refine J_lald o g dL_law_1955 rfl ?_
    refine J_iload o dL_law_1956 rfl ?_
    refine J_i2l o dL_law_1958 hrB (fun y hy => ?_)
    refine J_lcmp o dL_law_1959 ((hu rfl h0).trans ((hv h0).trans hy.symm)) ?_
    refine J_if_eq 1965 o dL_law_1960 (by decide) rl0 (fun _ => ?_) (fun c => absurd rfl c)
    refine J_goto 2148 o dL_law_1965 (by decide) ?_
    exact hend _ _ _ _ _ _ _ _ k.add ⟨Nat.le_refl _, Nat.le_refl _⟩ hI2
def St_order (I : World → World → Prop) : Prop := ∀ {wA wB : World}, I wA wB → ∀ x1 x2 : Int, R32 x1 → R32 x2 → ∃ (oA : World × Nat × Int) (oB : World × Int), f_Dm_order wA x1 x2 = some oA ∧ f_Re_order wB x1 x2 = some oB ∧ f_Re_thrown oB.1 = some (hmL 1 0 0 oA.2.1) ∧ (oA.2.1 = 0 ∨ oA.2.1 = 1) ∧ (oA.2.1 = 0 → oA.2.2 = oB.2) ∧ I oA.1 oB.1
theorem lz_order {X : LX} {K0 K : KT} {H0 : Heap} {I : World → World → Prop} {a9 b9 i : Nat} {o5 o6 : Option Value} {wA wB : World} {v : Nat → Int64} (k : LawK X K0 K H0 a9 b9) (hroom : a9 + 1 ≤ room_1.cells ∧ b9 + 6 ≤ room_1.slots) (hi : i + 8 ≤ X.n) (hN : X.n ≤ 4096) (hI : I wA wB) (hs : St_order I) (hend : LawE X K0 H0 I a9 b9 i) : Jj K (WdZ X H0) (wA, wB, v) 1968 (lawL X i o5 o6) [] := by
  have o := k.1
  have g := k.2.1
  have kc := k.2.2.1
  have kr := k.kr ⟨by omega, by omega⟩
  refine J_aload_n o dL_law_1968 rfl ?_
  refine J_aldO_n o dL_law_1969 rfl ?_
  refine J_iload o dL_law_1970 rfl ?_
  refine J_iconst o dL_law_1972 ?_
  refine J_iadd o dL_law_1973 ?_
  refine J_sld (n := i + 1) o g dL_law_1974 ((wr_of ⟨by omega, by omega⟩).trans (by omega)) (by omega) hN ?_
  refine J_aldO_n o dL_law_1975 rfl ?_
  refine J_iload o dL_law_1976 rfl ?_
  refine J_iconst o dL_law_1978 ?_
  refine J_iadd o dL_law_1979 ?_
  refine J_sld (n := i + 2) o g dL_law_1980 ((wr_of ⟨by omega, by omega⟩).trans (by omega)) (by omega) hN ?_
  refine J_aldO_n o dL_law_1981 rfl ?_
  obtain ⟨oA, oB, hA, hB, hT, hn, hv, hI2⟩ := hs hI (sc X (i + 1)) (sc X (i + 2)) (R_sc _ _) (R_sc _ _)
  refine J_wO (np := 4) (vs := [rf X.A.ad 1, .int (ii (sc X (i + 1))), .int (ii (sc X (i + 2))), .ref X.O.2]) o g kc dL_law_1982 mw1291 mw1293 mw1292 mw162 ⟨by decide +kernel, by decide +kernel, by decide +kernel⟩ ⟨rfl, rfl, Nat.le_of_ble_eq_true rfl, Nat.le_of_ble_eq_true rfl⟩ hroom (c_L_order k.st g.2.1.1 g.2.1.2.2.1 (R_sc _ _) (R_sc _ _) hA hn) rfl rfl c1s_0 (fun u hu hr => ?_)
  replace o := OkO.add (a' := 1) (b' := 6) o
  replace g := GdZ.add (a := 1) (b := 6) g
  replace kr := (k.add).kr hroom
  refine J_istore o dL_law_1985 (Nat.le_of_ble_eq_true rfl) ?_
  refine J_aload_n o dL_law_1987 rfl ?_
  refine J_aldO_n o dL_law_1988 rfl ?_
  refine J_iload o dL_law_1989 rfl ?_
  refine J_iconst o dL_law_1991 ?_
  refine J_iadd o dL_law_1992 ?_
  refine J_sld (n := i + 1) o g dL_law_1993 ((wr_of ⟨by omega, by omega⟩).trans (by omega)) (by omega) hN ?_
  refine J_aldO_n o dL_law_1994 rfl ?_
  refine J_iload o dL_law_1995 rfl ?_
  refine J_iconst o dL_law_1997 ?_
  refine J_iadd o dL_law_1998 ?_
  refine J_sld (n := i + 2) o g dL_law_1999 ((wr_of ⟨by omega, by omega⟩).trans (by omega)) (by omega) hN ?_
  refine J_bI (vs := [.int (ii (sc X (i + 1))), .int (ii (sc X (i + 2)))]) o g kr dL_law_2000 lkL_198 ml_Re_order vl_Re_order ⟨rfl, rfl, Nat.le_of_ble_eq_true rfl, Nat.le_of_ble_eq_true rfl⟩ (c_Re_order g.2.1.2.1 (R_sc _ _) (R_sc _ _) hB) kB_1 rfl ⟨by decide, by decide⟩ rfl rfl c1s_0 (fun hrB => ?_)
  refine J_istore o dL_law_2003 (Nat.le_of_ble_eq_true rfl) ?_
  refine J_aload_n o dL_law_2005 rfl ?_
  refine J_bI (vs := []) o g kr dL_law_2006 lkL_110 ml_Re_thrown vl_Re_thrown ⟨rfl, rfl, Nat.le_of_ble_eq_true rfl, Nat.le_of_ble_eq_true rfl⟩ (c_Re_thrown g.2.1.2.1 hT) kB_1 rfl ⟨by decide, by decide⟩ rfl rfl c1s_0 (fun hrT => ?_)
  refine J_iload o dL_law_2009 rfl ?_
  refine J_icmp_eq 2016 o dL_law_2011 (by decide) hrT hr (fun _ => ?_) (fun c => absurd rfl c)
  refine J_iload o dL_law_2016 rfl ?_
  refine J_if_ne 2033 o dL_law_2018 (by decide) hr (fun c => ?_) (fun c => ?_)
  · skip
    refine J_goto 2148 o dL_law_2033 (by decide) ?_
    exact hend _ _ _ _ _ _ _ _ k.add ⟨Nat.le_refl _, Nat.le_refl _⟩ hI2
  · have h0 : oA.2.1 = 0 := by
      rcases hn with h | h
      · exact h
      · rw [h] at c; exact absurd c (by decide)
    refine J_aldO_n o dL_law_2021 rfl ?_
    refine J_iconst o dL_law_2022 ?_
    refine J_lald o g dL_law_2023 rfl ?_
    refine J_iload o dL_law_2024 rfl ?_
    refine J_i2l o dL_law_2026 hrB (fun y hy => ?_)
    refine J_lcmp o dL_law_2027 ((hu rfl h0).trans ((hv h0).trans hy.symm)) ?_
    refine J_if_eq 2033 o dL_law_2028 (by decide) rl0 (fun _ => ?_) (fun c => absurd rfl c)
    refine J_goto 2148 o dL_law_2033 (by decide) ?_
    exact hend _ _ _ _ _ _ _ _ k.add ⟨Nat.le_refl _, Nat.le_refl _⟩ hI2
def St_joins (I : World → World → Prop) : Prop := ∀ {wA wB : World}, I wA wB → ∀ x1 : Int, R32 x1 → ∃ (oA : World × Nat × Int) (oB : World × Int), f_Dm_joins wA x1 = some oA ∧ f_Re_joins wB x1 = some oB ∧ f_Re_thrown oB.1 = some (hmL 1 0 0 oA.2.1) ∧ (oA.2.1 = 0 ∨ oA.2.1 = 1) ∧ (oA.2.1 = 0 → oA.2.2 = oB.2) ∧ I oA.1 oB.1
theorem lz_joins {X : LX} {K0 K : KT} {H0 : Heap} {I : World → World → Prop} {a9 b9 i : Nat} {o5 o6 : Option Value} {wA wB : World} {v : Nat → Int64} (k : LawK X K0 K H0 a9 b9) (hroom : a9 + 1 ≤ room_1.cells ∧ b9 + 6 ≤ room_1.slots) (hi : i + 8 ≤ X.n) (hN : X.n ≤ 4096) (hI : I wA wB) (hs : St_joins I) (hend : LawE X K0 H0 I a9 b9 i) : Jj K (WdZ X H0) (wA, wB, v) 2036 (lawL X i o5 o6) [] := by
  have o := k.1
  have g := k.2.1
  have kc := k.2.2.1
  have kr := k.kr ⟨by omega, by omega⟩
  refine J_aload_n o dL_law_2036 rfl ?_
  refine J_aldO_n o dL_law_2037 rfl ?_
  refine J_iload o dL_law_2038 rfl ?_
  refine J_iconst o dL_law_2040 ?_
  refine J_iadd o dL_law_2041 ?_
  refine J_sld (n := i + 1) o g dL_law_2042 ((wr_of ⟨by omega, by omega⟩).trans (by omega)) (by omega) hN ?_
  refine J_aldO_n o dL_law_2043 rfl ?_
  obtain ⟨oA, oB, hA, hB, hT, hn, hv, hI2⟩ := hs hI (sc X (i + 1)) (R_sc _ _)
  refine J_wO (np := 3) (vs := [rf X.A.ad 1, .int (ii (sc X (i + 1))), .ref X.O.2]) o g kc dL_law_2044 mw1321 mw1323 mw1322 mw162 ⟨by decide +kernel, by decide +kernel, by decide +kernel⟩ ⟨rfl, rfl, Nat.le_of_ble_eq_true rfl, Nat.le_of_ble_eq_true rfl⟩ hroom (c_L_joins k.st g.2.1.1 g.2.1.2.2.1 (R_sc _ _) hA hn) rfl rfl c1s_0 (fun u hu hr => ?_)
  replace o := OkO.add (a' := 1) (b' := 6) o
  replace g := GdZ.add (a := 1) (b := 6) g
  replace kr := (k.add).kr hroom
  refine J_istore o dL_law_2047 (Nat.le_of_ble_eq_true rfl) ?_
  refine J_aload_n o dL_law_2049 rfl ?_
  refine J_aldO_n o dL_law_2050 rfl ?_
  refine J_iload o dL_law_2051 rfl ?_
  refine J_iconst o dL_law_2053 ?_
  refine J_iadd o dL_law_2054 ?_
  refine J_sld (n := i + 1) o g dL_law_2055 ((wr_of ⟨by omega, by omega⟩).trans (by omega)) (by omega) hN ?_
  refine J_bI (vs := [.int (ii (sc X (i + 1)))]) o g kr dL_law_2056 lkL_201 ml_Re_joins vl_Re_joins ⟨rfl, rfl, Nat.le_of_ble_eq_true rfl, Nat.le_of_ble_eq_true rfl⟩ (c_Re_joins g.2.1.2.1 (R_sc _ _) hB) kB_1 rfl ⟨by decide, by decide⟩ rfl rfl c1s_0 (fun hrB => ?_)
  refine J_istore o dL_law_2059 (Nat.le_of_ble_eq_true rfl) ?_
  refine J_aload_n o dL_law_2061 rfl ?_
  refine J_bI (vs := []) o g kr dL_law_2062 lkL_110 ml_Re_thrown vl_Re_thrown ⟨rfl, rfl, Nat.le_of_ble_eq_true rfl, Nat.le_of_ble_eq_true rfl⟩ (c_Re_thrown g.2.1.2.1 hT) kB_1 rfl ⟨by decide, by decide⟩ rfl rfl c1s_0 (fun hrT => ?_)
  refine J_iload o dL_law_2065 rfl ?_
  refine J_icmp_eq 2072 o dL_law_2067 (by decide) hrT hr (fun _ => ?_) (fun c => absurd rfl c)
  refine J_iload o dL_law_2072 rfl ?_
  refine J_if_ne 2089 o dL_law_2074 (by decide) hr (fun c => ?_) (fun c => ?_)
  · skip
    refine J_goto 2148 o dL_law_2089 (by decide) ?_
    exact hend _ _ _ _ _ _ _ _ k.add ⟨Nat.le_refl _, Nat.le_refl _⟩ hI2
  · have h0 : oA.2.1 = 0 := by
      rcases hn with h | h
      · exact h
      · rw [h] at c; exact absurd c (by decide)
    refine J_aldO_n o dL_law_2077 rfl ?_
    refine J_iconst o dL_law_2078 ?_
    refine J_lald o g dL_law_2079 rfl ?_
    refine J_iload o dL_law_2080 rfl ?_
    refine J_i2l o dL_law_2082 hrB (fun y hy => ?_)
    refine J_lcmp o dL_law_2083 ((hu rfl h0).trans ((hv h0).trans hy.symm)) ?_
    refine J_if_eq 2089 o dL_law_2084 (by decide) rl0 (fun _ => ?_) (fun c => absurd rfl c)
    refine J_goto 2148 o dL_law_2089 (by decide) ?_
    exact hend _ _ _ _ _ _ _ _ k.add ⟨Nat.le_refl _, Nat.le_refl _⟩ hI2
def St_indexes (I : World → World → Prop) : Prop := ∀ {wA wB : World}, I wA wB → ∀ x1 : Int, R32 x1 → ∃ (oA : World × Nat × Int) (oB : World × Int), f_Dm_indexes wA x1 = some oA ∧ f_Re_indexes wB x1 = some oB ∧ f_Re_thrown oB.1 = some (hmL 1 0 0 oA.2.1) ∧ (oA.2.1 = 0 ∨ oA.2.1 = 1) ∧ (oA.2.1 = 0 → oA.2.2 = oB.2) ∧ I oA.1 oB.1
theorem lz_indexes {X : LX} {K0 K : KT} {H0 : Heap} {I : World → World → Prop} {a9 b9 i : Nat} {o5 o6 : Option Value} {wA wB : World} {v : Nat → Int64} (k : LawK X K0 K H0 a9 b9) (hroom : a9 + 1 ≤ room_1.cells ∧ b9 + 6 ≤ room_1.slots) (hi : i + 8 ≤ X.n) (hN : X.n ≤ 4096) (hI : I wA wB) (hs : St_indexes I) (hend : LawE X K0 H0 I a9 b9 i) : Jj K (WdZ X H0) (wA, wB, v) 2092 (lawL X i o5 o6) [] := by
  have o := k.1
  have g := k.2.1
  have kc := k.2.2.1
  have kr := k.kr ⟨by omega, by omega⟩
  refine J_aload_n o dL_law_2092 rfl ?_
  refine J_aldO_n o dL_law_2093 rfl ?_
  refine J_iload o dL_law_2094 rfl ?_
  refine J_iconst o dL_law_2096 ?_
  refine J_iadd o dL_law_2097 ?_
  refine J_sld (n := i + 1) o g dL_law_2098 ((wr_of ⟨by omega, by omega⟩).trans (by omega)) (by omega) hN ?_
  refine J_aldO_n o dL_law_2099 rfl ?_
  obtain ⟨oA, oB, hA, hB, hT, hn, hv, hI2⟩ := hs hI (sc X (i + 1)) (R_sc _ _)
  refine J_wO (np := 3) (vs := [rf X.A.ad 1, .int (ii (sc X (i + 1))), .ref X.O.2]) o g kc dL_law_2100 mw1339 mw1341 mw1340 mw162 ⟨by decide +kernel, by decide +kernel, by decide +kernel⟩ ⟨rfl, rfl, Nat.le_of_ble_eq_true rfl, Nat.le_of_ble_eq_true rfl⟩ hroom (c_L_indexes k.st g.2.1.1 g.2.1.2.2.1 (R_sc _ _) hA hn) rfl rfl c1s_0 (fun u hu hr => ?_)
  replace o := OkO.add (a' := 1) (b' := 6) o
  replace g := GdZ.add (a := 1) (b := 6) g
  replace kr := (k.add).kr hroom
  refine J_istore o dL_law_2103 (Nat.le_of_ble_eq_true rfl) ?_
  refine J_aload_n o dL_law_2105 rfl ?_
  refine J_aldO_n o dL_law_2106 rfl ?_
  refine J_iload o dL_law_2107 rfl ?_
  refine J_iconst o dL_law_2109 ?_
  refine J_iadd o dL_law_2110 ?_
  refine J_sld (n := i + 1) o g dL_law_2111 ((wr_of ⟨by omega, by omega⟩).trans (by omega)) (by omega) hN ?_
  refine J_bI (vs := [.int (ii (sc X (i + 1)))]) o g kr dL_law_2112 lkL_204 ml_Re_indexes vl_Re_indexes ⟨rfl, rfl, Nat.le_of_ble_eq_true rfl, Nat.le_of_ble_eq_true rfl⟩ (c_Re_indexes g.2.1.2.1 (R_sc _ _) hB) kB_1 rfl ⟨by decide, by decide⟩ rfl rfl c1s_0 (fun hrB => ?_)
  refine J_istore o dL_law_2115 (Nat.le_of_ble_eq_true rfl) ?_
  refine J_aload_n o dL_law_2117 rfl ?_
  refine J_bI (vs := []) o g kr dL_law_2118 lkL_110 ml_Re_thrown vl_Re_thrown ⟨rfl, rfl, Nat.le_of_ble_eq_true rfl, Nat.le_of_ble_eq_true rfl⟩ (c_Re_thrown g.2.1.2.1 hT) kB_1 rfl ⟨by decide, by decide⟩ rfl rfl c1s_0 (fun hrT => ?_)
  refine J_iload o dL_law_2121 rfl ?_
  refine J_icmp_eq 2128 o dL_law_2123 (by decide) hrT hr (fun _ => ?_) (fun c => absurd rfl c)
  refine J_iload o dL_law_2128 rfl ?_
  refine J_if_ne 2145 o dL_law_2130 (by decide) hr (fun c => ?_) (fun c => ?_)
  · skip
    refine J_goto 2148 o dL_law_2145 (by decide) ?_
    exact hend _ _ _ _ _ _ _ _ k.add ⟨Nat.le_refl _, Nat.le_refl _⟩ hI2
  · have h0 : oA.2.1 = 0 := by
      rcases hn with h | h
      · exact h
      · rw [h] at c; exact absurd c (by decide)
    refine J_aldO_n o dL_law_2133 rfl ?_
    refine J_iconst o dL_law_2134 ?_
    refine J_lald o g dL_law_2135 rfl ?_
    refine J_iload o dL_law_2136 rfl ?_
    refine J_i2l o dL_law_2138 hrB (fun y hy => ?_)
    refine J_lcmp o dL_law_2139 ((hu rfl h0).trans ((hv h0).trans hy.symm)) ?_
    refine J_if_eq 2145 o dL_law_2140 (by decide) rl0 (fun _ => ?_) (fun c => absurd rfl c)
    refine J_goto 2148 o dL_law_2145 (by decide) ?_
    exact hend _ _ _ _ _ _ _ _ k.add ⟨Nat.le_refl _, Nat.le_refl _⟩ hI2
