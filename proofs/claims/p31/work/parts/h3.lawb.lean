/-! THE LAW'S OWN METHODS, as functions: refuses -/
set_option maxRecDepth 20000 in
theorem mw1195 : Cond.methodLink "DatalogmillLaw" (168 : Nat) ({ cls := "DatalogmillLaw", name := "order", desc := "(LDatalogmill;II)I" } : MethodName) ∈ GW := inGW (List.mem_of_getElem? (i := 1195) (by rfl)) (by decide +kernel)
set_option maxRecDepth 20000 in
theorem mw1196 : Cond.static ({ cls := "DatalogmillLaw", name := "order", desc := "(LDatalogmill;II)I" } : MethodName) ∈ GW := inGW (List.mem_of_getElem? (i := 1196) (by rfl)) (by decide +kernel)
set_option maxRecDepth 20000 in
theorem mw1197 : Cond.codeWith yL_order cL_order 4 (some .int) hh_L_order ∈ GW := inGW (List.mem_of_getElem? (i := 1197) (by rfl)) (by decide +kernel)
set_option maxRecDepth 20000 in
theorem mw1036 : Cond.methodLink "DatalogmillLaw" (153 : Nat) ({ cls := "DatalogmillLaw", name := "at", desc := "(LDatalogmill;II)I" } : MethodName) ∈ GW := inGW (List.mem_of_getElem? (i := 1036) (by rfl)) (by decide +kernel)
set_option maxRecDepth 20000 in
theorem mw1037 : Cond.static ({ cls := "DatalogmillLaw", name := "at", desc := "(LDatalogmill;II)I" } : MethodName) ∈ GW := inGW (List.mem_of_getElem? (i := 1037) (by rfl)) (by decide +kernel)
set_option maxRecDepth 20000 in
theorem mw1038 : Cond.codeWith yL_at cL_at 4 (some .int) hh_L_at ∈ GW := inGW (List.mem_of_getElem? (i := 1038) (by rfl)) (by decide +kernel)
theorem rl16384 : R32 (16384) := ⟨by decide, by decide⟩
theorem rl128 : R32 (128) := ⟨by decide, by decide⟩
set_option maxRecDepth 20000 in
theorem mw1146 : Cond.methodLink "DatalogmillLaw" (164 : Nat) ({ cls := "DatalogmillLaw", name := "whyNot", desc := "(LDatalogmill;IIII)I" } : MethodName) ∈ GW := inGW (List.mem_of_getElem? (i := 1146) (by rfl)) (by decide +kernel)
set_option maxRecDepth 20000 in
theorem mw1147 : Cond.static ({ cls := "DatalogmillLaw", name := "whyNot", desc := "(LDatalogmill;IIII)I" } : MethodName) ∈ GW := inGW (List.mem_of_getElem? (i := 1147) (by rfl)) (by decide +kernel)
set_option maxRecDepth 20000 in
theorem mw1148 : Cond.codeWith yL_whyNot cL_whyNot 6 (some .int) hh_L_whyNot ∈ GW := inGW (List.mem_of_getElem? (i := 1148) (by rfl)) (by decide +kernel)
set_option maxRecDepth 20000 in
theorem mw1159 : Cond.methodLink "DatalogmillLaw" (166 : Nat) ({ cls := "DatalogmillLaw", name := "goals", desc := "(LDatalogmill;IIII)I" } : MethodName) ∈ GW := inGW (List.mem_of_getElem? (i := 1159) (by rfl)) (by decide +kernel)
set_option maxRecDepth 20000 in
theorem mw1160 : Cond.static ({ cls := "DatalogmillLaw", name := "goals", desc := "(LDatalogmill;IIII)I" } : MethodName) ∈ GW := inGW (List.mem_of_getElem? (i := 1160) (by rfl)) (by decide +kernel)
set_option maxRecDepth 20000 in
theorem mw1161 : Cond.codeWith yL_goals cL_goals 6 (some .int) hh_L_goals ∈ GW := inGW (List.mem_of_getElem? (i := 1161) (by rfl)) (by decide +kernel)
set_option maxRecDepth 20000 in
theorem mw1225 : Cond.methodLink "DatalogmillLaw" (170 : Nat) ({ cls := "DatalogmillLaw", name := "joins", desc := "(LDatalogmill;I)I" } : MethodName) ∈ GW := inGW (List.mem_of_getElem? (i := 1225) (by rfl)) (by decide +kernel)
set_option maxRecDepth 20000 in
theorem mw1226 : Cond.static ({ cls := "DatalogmillLaw", name := "joins", desc := "(LDatalogmill;I)I" } : MethodName) ∈ GW := inGW (List.mem_of_getElem? (i := 1226) (by rfl)) (by decide +kernel)
set_option maxRecDepth 20000 in
theorem mw1227 : Cond.codeWith yL_joins cL_joins 3 (some .int) hh_L_joins ∈ GW := inGW (List.mem_of_getElem? (i := 1227) (by rfl)) (by decide +kernel)
set_option maxRecDepth 20000 in
theorem mw1247 : Cond.methodLink "DatalogmillLaw" (172 : Nat) ({ cls := "DatalogmillLaw", name := "indexes", desc := "(LDatalogmill;I)I" } : MethodName) ∈ GW := inGW (List.mem_of_getElem? (i := 1247) (by rfl)) (by decide +kernel)
set_option maxRecDepth 20000 in
theorem mw1248 : Cond.static ({ cls := "DatalogmillLaw", name := "indexes", desc := "(LDatalogmill;I)I" } : MethodName) ∈ GW := inGW (List.mem_of_getElem? (i := 1248) (by rfl)) (by decide +kernel)
set_option maxRecDepth 20000 in
theorem mw1249 : Cond.codeWith yL_indexes cL_indexes 3 (some .int) hh_L_indexes ∈ GW := inGW (List.mem_of_getElem? (i := 1249) (by rfl)) (by decide +kernel)
set_option maxRecDepth 20000 in
theorem mw1009 : Cond.methodLink "DatalogmillLaw" (145 : Nat) ({ cls := "DatalogmillLaw", name := "holdsAt", desc := "(LDatalogmill;IIIII)I" } : MethodName) ∈ GW := inGW (List.mem_of_getElem? (i := 1009) (by rfl)) (by decide +kernel)
set_option maxRecDepth 20000 in
theorem mw1010 : Cond.static ({ cls := "DatalogmillLaw", name := "holdsAt", desc := "(LDatalogmill;IIIII)I" } : MethodName) ∈ GW := inGW (List.mem_of_getElem? (i := 1010) (by rfl)) (by decide +kernel)
set_option maxRecDepth 20000 in
theorem mw1011 : Cond.codeWith yL_holdsAt cL_holdsAt 7 (some .int) hh_L_holdsAt ∈ GW := inGW (List.mem_of_getElem? (i := 1011) (by rfl)) (by decide +kernel)
set_option maxRecDepth 20000 in
theorem mw1017 : Cond.methodLink "DatalogmillLaw" (148 : Nat) ({ cls := "DatalogmillLaw", name := "anew", desc := "(LDatalogmill;IIIII)I" } : MethodName) ∈ GW := inGW (List.mem_of_getElem? (i := 1017) (by rfl)) (by decide +kernel)
set_option maxRecDepth 20000 in
theorem mw1018 : Cond.static ({ cls := "DatalogmillLaw", name := "anew", desc := "(LDatalogmill;IIIII)I" } : MethodName) ∈ GW := inGW (List.mem_of_getElem? (i := 1018) (by rfl)) (by decide +kernel)
set_option maxRecDepth 20000 in
theorem mw1019 : Cond.codeWith yL_anew cL_anew 7 (some .int) hh_L_anew ∈ GW := inGW (List.mem_of_getElem? (i := 1019) (by rfl)) (by decide +kernel)
set_option maxRecDepth 20000 in
theorem mw1049 : Cond.methodLink "DatalogmillLaw" (156 : Nat) ({ cls := "DatalogmillLaw", name := "stratum", desc := "(LDatalogmill;I)I" } : MethodName) ∈ GW := inGW (List.mem_of_getElem? (i := 1049) (by rfl)) (by decide +kernel)
set_option maxRecDepth 20000 in
theorem mw1050 : Cond.static ({ cls := "DatalogmillLaw", name := "stratum", desc := "(LDatalogmill;I)I" } : MethodName) ∈ GW := inGW (List.mem_of_getElem? (i := 1050) (by rfl)) (by decide +kernel)
set_option maxRecDepth 20000 in
theorem mw1051 : Cond.codeWith yL_stratum cL_stratum 3 (some .int) hh_L_stratum ∈ GW := inGW (List.mem_of_getElem? (i := 1051) (by rfl)) (by decide +kernel)
set_option maxRecDepth 20000 in
theorem mw1057 : Cond.methodLink "DatalogmillLaw" (158 : Nat) ({ cls := "DatalogmillLaw", name := "ways", desc := "(LDatalogmill;IIII)I" } : MethodName) ∈ GW := inGW (List.mem_of_getElem? (i := 1057) (by rfl)) (by decide +kernel)
set_option maxRecDepth 20000 in
theorem mw1058 : Cond.static ({ cls := "DatalogmillLaw", name := "ways", desc := "(LDatalogmill;IIII)I" } : MethodName) ∈ GW := inGW (List.mem_of_getElem? (i := 1058) (by rfl)) (by decide +kernel)
set_option maxRecDepth 20000 in
theorem mw1059 : Cond.codeWith yL_ways cL_ways 6 (some .int) hh_L_ways ∈ GW := inGW (List.mem_of_getElem? (i := 1059) (by rfl)) (by decide +kernel)
set_option maxRecDepth 20000 in
theorem mw1100 : Cond.methodLink "DatalogmillLaw" (160 : Nat) ({ cls := "DatalogmillLaw", name := "cheapest", desc := "(LDatalogmill;IIII)I" } : MethodName) ∈ GW := inGW (List.mem_of_getElem? (i := 1100) (by rfl)) (by decide +kernel)
set_option maxRecDepth 20000 in
theorem mw1101 : Cond.static ({ cls := "DatalogmillLaw", name := "cheapest", desc := "(LDatalogmill;IIII)I" } : MethodName) ∈ GW := inGW (List.mem_of_getElem? (i := 1101) (by rfl)) (by decide +kernel)
set_option maxRecDepth 20000 in
theorem mw1102 : Cond.codeWith yL_cheapest cL_cheapest 6 (some .int) hh_L_cheapest ∈ GW := inGW (List.mem_of_getElem? (i := 1102) (by rfl)) (by decide +kernel)
set_option maxRecDepth 20000 in
theorem mw1139 : Cond.methodLink "DatalogmillLaw" (162 : Nat) ({ cls := "DatalogmillLaw", name := "needed", desc := "(LDatalogmill;IIII)I" } : MethodName) ∈ GW := inGW (List.mem_of_getElem? (i := 1139) (by rfl)) (by decide +kernel)
set_option maxRecDepth 20000 in
theorem mw1140 : Cond.static ({ cls := "DatalogmillLaw", name := "needed", desc := "(LDatalogmill;IIII)I" } : MethodName) ∈ GW := inGW (List.mem_of_getElem? (i := 1140) (by rfl)) (by decide +kernel)
set_option maxRecDepth 20000 in
theorem mw1141 : Cond.codeWith yL_needed cL_needed 6 (some .int) hh_L_needed ∈ GW := inGW (List.mem_of_getElem? (i := 1141) (by rfl)) (by decide +kernel)
theorem rlm10 : R32 (-10) := ⟨by decide, by decide⟩
set_option maxRecDepth 20000 in
theorem mw990 : Cond.methodLink "DatalogmillLaw" (143 : Nat) ({ cls := "DatalogmillLaw", name := "holds", desc := "(LDatalogmill;IIII)I" } : MethodName) ∈ GW := inGW (List.mem_of_getElem? (i := 990) (by rfl)) (by decide +kernel)
set_option maxRecDepth 20000 in
theorem mw991 : Cond.static ({ cls := "DatalogmillLaw", name := "holds", desc := "(LDatalogmill;IIII)I" } : MethodName) ∈ GW := inGW (List.mem_of_getElem? (i := 991) (by rfl)) (by decide +kernel)
set_option maxRecDepth 20000 in
theorem mw992 : Cond.codeWith yL_holds cL_holds 6 (some .int) hh_L_holds ∈ GW := inGW (List.mem_of_getElem? (i := 992) (by rfl)) (by decide +kernel)
set_option maxRecDepth 20000 in
theorem mw441 : Cond.methodLink "DatalogmillLaw" (105 : Nat) ({ cls := "DatalogmillLaw", name := "declares", desc := "(LDatalogmill;IIII)I" } : MethodName) ∈ GW := inGW (List.mem_of_getElem? (i := 441) (by rfl)) (by decide +kernel)
set_option maxRecDepth 20000 in
theorem mw442 : Cond.static ({ cls := "DatalogmillLaw", name := "declares", desc := "(LDatalogmill;IIII)I" } : MethodName) ∈ GW := inGW (List.mem_of_getElem? (i := 442) (by rfl)) (by decide +kernel)
set_option maxRecDepth 20000 in
theorem mw443 : Cond.codeWith yL_declares cL_declares 6 (some .int) hh_L_declares ∈ GW := inGW (List.mem_of_getElem? (i := 443) (by rfl)) (by decide +kernel)
theorem rl101 : R32 (101) := ⟨by decide, by decide⟩
theorem rl50 : R32 (50) := ⟨by decide, by decide⟩
abbrev rm_L_refuses : Room := { frames := 10, cells := 62, slots := 372, locals := 261 }
noncomputable def f_L_refuses_1113 (z : ZQ) (m0 : Bool) : Option (ZQ × Int) :=
  some (z, 1)
set_option maxRecDepth 100000 in
theorem t_L_refuses_1113 {X : QX} {K : KT} {H0 : Heap} (k : KofQ X K H0 cL_refuses "DatalogmillLaw" rm_L_refuses 62) {z : ZQ} {m0 : Bool} {o0 o1 o2 o3 o4 o5 o6 o7 o8 o9 o10 o11 : Option Value}  {out : (ZQ × Int)} (hf : f_L_refuses_1113 z m0 = some out) (hc : (fun out : (ZQ × Int) => RetQZ X K H0 cL_refuses 62 out.1 out.2) out) : Jj (kAdd K 62 (6 * 62)) (WdQ X H0) z 1113 [o0, o1, o2, o3, o4, o5, o6, o7, o8, o9, o10, o11] [] := by
  unfold f_L_refuses_1113 at hf
  have o : ∀ a b, Ok (kAdd K a b) cL_refuses "DatalogmillLaw" rm_L_refuses := fun _ _ => OkQ.add k.1
  have g : ∀ a b, GdQ X (kAdd K a b) H0 := fun _ _ => GdQ.add k.2.1
  refine J_iconst (o _ _) dL_refuses_1113 ?_
  refine J_goto 1118 (o _ _) dL_refuses_1114 (by decide) ?_
  have hf := some_inj hf
  subst hf
  exact hc _ _ _ (Nat.le_of_ble_eq_true rfl) (Or.inr rfl) dL_refuses_1118
noncomputable def f_L_refuses_1069 (z : ZQ) (m0 : Bool) (x2 : Int) (x10 : Int) : Option (ZQ × Int) :=
  if x10 = 0 then (some (z, 0)) else (if (z.2.2 1) = 0 then (f_L_refuses_1113 z m0) else (gd ((z.2.2 1) ≠ 0) (bnd (f_L_order z m0 (irem x2 (z.2.2 1)) (wr ((-1) - x2))) fun v8 => if v8.2 = (-2000000001) then (gd ((v8.1.2.2 1) ≠ 0) (bnd (f_L_order v8.1 m0 (irem x2 (v8.1.2.2 1)) (wr (3 + x2))) fun v15 => if v15.2 = (-1) then (f_L_refuses_1113 v15.1 m0) else (some (v15.1, 0)))) else (some (v8.1, 0)))))
set_option maxRecDepth 100000 in
theorem t_L_refuses_1069 {X : QX} {K : KT} {H0 : Heap} (k : KofQ X K H0 cL_refuses "DatalogmillLaw" rm_L_refuses 62) {z : ZQ} {m0 : Bool} {x2 : Int} {x10 : Int} {o3 o4 o5 o6 o7 o8 o9 o11 : Option Value} (r_x2 : R32 x2) (r_x10 : R32 x10) {out : (ZQ × Int)} (hf : f_L_refuses_1069 z m0 x2 x10 = some out) (hc : (fun out : (ZQ × Int) => RetQZ X K H0 cL_refuses 62 out.1 out.2) out) : Jj (kAdd K 60 (6 * 60)) (WdQ X H0) z 1069 [some (rf (X.M m0).ad 1), some (.ref X.oa), some (.int (ii x2)), o3, o4, o5, o6, o7, o8, o9, some (.int (ii x10)), o11] [] := by
  unfold f_L_refuses_1069 at hf
  have o : ∀ a b, Ok (kAdd K a b) cL_refuses "DatalogmillLaw" rm_L_refuses := fun _ _ => OkQ.add k.1
  have g : ∀ a b, GdQ X (kAdd K a b) H0 := fun _ _ => GdQ.add k.2.1
  refine J_iload (o _ _) dL_refuses_1069 rfl ?_
  refine J_if_eq 1117 (o _ _) dL_refuses_1071 (by decide) r_x10 (fun c1 => ?_) (fun c2 => ?_)
  · have hf := ite_t c1 hf
    refine J_iconst (o _ _) dL_refuses_1117 ?_
    have hf := some_inj hf
    subst hf
    exact hc _ _ _ (Nat.le_of_ble_eq_true rfl) (Or.inl rfl) dL_refuses_1118
  · have hf := ite_f c2 hf
    refine J_aldO_n (o _ _) dL_refuses_1074 rfl ?_
    refine J_iconst (o _ _) dL_refuses_1075 ?_
    refine J_nld (o _ _) (g _ _) dL_refuses_1076 rl1 ⟨by decide, by decide⟩ (fun q3 => ?_)
    refine J_if_eq 1113 (o _ _) dL_refuses_1077 (by decide) q3 (fun c4 => ?_) (fun c5 => ?_)
    · have hf := ite_t c4 hf
      refine J_wid (t := 60) (u := 62) (Nat.le_of_ble_eq_true rfl) ?_
      exact t_L_refuses_1113 k  hf hc
    · have hf := ite_f c5 hf
      refine J_aload_n (o _ _) dL_refuses_1080 rfl ?_
      refine J_iload_n (o _ _) dL_refuses_1081 rfl ?_
      refine J_aldO_n (o _ _) dL_refuses_1082 rfl ?_
      refine J_iconst (o _ _) dL_refuses_1083 ?_
      refine J_nld (o _ _) (g _ _) dL_refuses_1084 rl1 ⟨by decide, by decide⟩ (fun q6 => ?_)
      obtain ⟨g7, hf⟩ := gd_some hf
      refine J_irem (o _ _) dL_refuses_1085 q6 g7 ?_
      refine J_iconst (o _ _) dL_refuses_1086 ?_
      refine J_iload_n (o _ _) dL_refuses_1087 rfl ?_
      refine J_isub (o _ _) dL_refuses_1088 ?_
      obtain ⟨v8, e9, hf⟩ := bnd_some hf
      refine J_qW (np := 3) k.1 k.2.1 k.2.2.1 (Nat.le_of_ble_eq_true rfl) dL_refuses_1089 mw1195 mw1197 mw1196 mw111 ⟨by decide +kernel, by decide +kernel, by decide +kernel⟩ ⟨rfl, rfl, Nat.le_of_ble_eq_true rfl, Nat.le_of_ble_eq_true rfl⟩ (c_L_order k.2.2.2 k.2.1.2.1 (R_irem _ _) (R_wr _) e9) rfl rfl c1s_0 (fun q10 => ?_)
      refine J_tt (u := 61) rfl ?_
      refine J_ldc (o _ _) dL_refuses_1092 kcL_15 ?_
      refine J_icmp_ne 1117 (o _ _) dL_refuses_1094 (by decide) q10 rlm2000000001 (fun c11 => ?_) (fun c12 => ?_)
      · have hf := ite_f c11 hf
        refine J_iconst (o _ _) dL_refuses_1117 ?_
        have hf := some_inj hf
        subst hf
        exact hc _ _ _ (Nat.le_of_ble_eq_true rfl) (Or.inl rfl) dL_refuses_1118
      · have hf := ite_t c12 hf
        refine J_aload_n (o _ _) dL_refuses_1097 rfl ?_
        refine J_iload_n (o _ _) dL_refuses_1098 rfl ?_
        refine J_aldO_n (o _ _) dL_refuses_1099 rfl ?_
        refine J_iconst (o _ _) dL_refuses_1100 ?_
        refine J_nld (o _ _) (g _ _) dL_refuses_1101 rl1 ⟨by decide, by decide⟩ (fun q13 => ?_)
        obtain ⟨g14, hf⟩ := gd_some hf
        refine J_irem (o _ _) dL_refuses_1102 q13 g14 ?_
        refine J_iconst (o _ _) dL_refuses_1103 ?_
        refine J_iload_n (o _ _) dL_refuses_1104 rfl ?_
        refine J_iadd (o _ _) dL_refuses_1105 ?_
        obtain ⟨v15, e16, hf⟩ := bnd_some hf
        refine J_qW (np := 3) k.1 k.2.1 k.2.2.1 (Nat.le_of_ble_eq_true rfl) dL_refuses_1106 mw1195 mw1197 mw1196 mw111 ⟨by decide +kernel, by decide +kernel, by decide +kernel⟩ ⟨rfl, rfl, Nat.le_of_ble_eq_true rfl, Nat.le_of_ble_eq_true rfl⟩ (c_L_order k.2.2.2 k.2.1.2.1 (R_irem _ _) (R_wr _) e16) rfl rfl c1s_0 (fun q17 => ?_)
        refine J_tt (u := 62) rfl ?_
        refine J_iconst (o _ _) dL_refuses_1109 ?_
        refine J_icmp_ne 1117 (o _ _) dL_refuses_1110 (by decide) q17 rlm1 (fun c18 => ?_) (fun c19 => ?_)
        · have hf := ite_f c18 hf
          refine J_iconst (o _ _) dL_refuses_1117 ?_
          have hf := some_inj hf
          subst hf
          exact hc _ _ _ (Nat.le_of_ble_eq_true rfl) (Or.inl rfl) dL_refuses_1118
        · have hf := ite_t c19 hf
          exact t_L_refuses_1113 k  hf hc
noncomputable def f_L_refuses_1067 (z : ZQ) (m0 : Bool) (x2 : Int) (s0 : Int) : Option (ZQ × Int) :=
  f_L_refuses_1069 z m0 x2 s0
set_option maxRecDepth 100000 in
theorem t_L_refuses_1067 {X : QX} {K : KT} {H0 : Heap} (k : KofQ X K H0 cL_refuses "DatalogmillLaw" rm_L_refuses 62) {z : ZQ} {m0 : Bool} {x2 : Int} {s0 : Int} {o3 o4 o5 o6 o7 o8 o9 o10 o11 : Option Value} (r_x2 : R32 x2) (r_s0 : R32 s0) {out : (ZQ × Int)} (hf : f_L_refuses_1067 z m0 x2 s0 = some out) (hc : (fun out : (ZQ × Int) => RetQZ X K H0 cL_refuses 62 out.1 out.2) out) : Jj (kAdd K 60 (6 * 60)) (WdQ X H0) z 1067 [some (rf (X.M m0).ad 1), some (.ref X.oa), some (.int (ii x2)), o3, o4, o5, o6, o7, o8, o9, o10, o11] [.int (ii s0)] := by
  unfold f_L_refuses_1067 at hf
  have o : ∀ a b, Ok (kAdd K a b) cL_refuses "DatalogmillLaw" rm_L_refuses := fun _ _ => OkQ.add k.1
  have g : ∀ a b, GdQ X (kAdd K a b) H0 := fun _ _ => GdQ.add k.2.1
  refine J_istore (o _ _) dL_refuses_1067 (Nat.le_of_ble_eq_true rfl) ?_
  exact t_L_refuses_1069 k r_x2 r_s0 hf hc
noncomputable def f_L_refuses_997 (z : ZQ) (m0 : Bool) (x2 : Int) (x9 : Int) (s0 : Int) : Option (ZQ × Int) :=
  if s0 = 0 then (f_L_refuses_1069 z m0 x2 s0) else (bnd (f_L_size z m0 x9) fun v3 => if v3.2 ≤ 0 then (f_L_refuses_1069 v3.1 m0 x2 s0) else (bnd (f_L_size v3.1 m0 x9) fun v8 => gd (v8.2 ≠ 0) (bnd (f_L_at v8.1 m0 x9 (irem x2 v8.2)) fun v12 => bnd (f_L_whyNot v12.1 m0 x9 (idiv v12.2 16384) (irem (idiv v12.2 128) 128) (irem v12.2 128)) fun v15 => if v15.2 = (-2000000003) then (f_L_refuses_1067 v15.1 m0 x2 1) else (f_L_refuses_1067 v15.1 m0 x2 0))))
set_option maxRecDepth 100000 in
theorem t_L_refuses_997 {X : QX} {K : KT} {H0 : Heap} (k : KofQ X K H0 cL_refuses "DatalogmillLaw" rm_L_refuses 62) {z : ZQ} {m0 : Bool} {x2 : Int} {x9 : Int} {s0 : Int} {o3 o4 o5 o6 o7 o8 o10 o11 : Option Value} (r_x2 : R32 x2) (r_x9 : R32 x9) (r_s0 : R32 s0) {out : (ZQ × Int)} (hf : f_L_refuses_997 z m0 x2 x9 s0 = some out) (hc : (fun out : (ZQ × Int) => RetQZ X K H0 cL_refuses 62 out.1 out.2) out) : Jj (kAdd K 56 (6 * 56)) (WdQ X H0) z 997 [some (rf (X.M m0).ad 1), some (.ref X.oa), some (.int (ii x2)), o3, o4, o5, o6, o7, o8, some (.int (ii x9)), o10, o11] [.int (ii s0)] := by
  unfold f_L_refuses_997 at hf
  have o : ∀ a b, Ok (kAdd K a b) cL_refuses "DatalogmillLaw" rm_L_refuses := fun _ _ => OkQ.add k.1
  have g : ∀ a b, GdQ X (kAdd K a b) H0 := fun _ _ => GdQ.add k.2.1
  refine J_istore (o _ _) dL_refuses_997 (Nat.le_of_ble_eq_true rfl) ?_
  refine J_iload (o _ _) dL_refuses_999 rfl ?_
  refine J_if_eq 1069 (o _ _) dL_refuses_1001 (by decide) r_s0 (fun c1 => ?_) (fun c2 => ?_)
  · have hf := ite_t c1 hf
    refine J_wid (t := 56) (u := 60) (Nat.le_of_ble_eq_true rfl) ?_
    exact t_L_refuses_1069 k r_x2 r_s0 hf hc
  · have hf := ite_f c2 hf
    refine J_aload_n (o _ _) dL_refuses_1004 rfl ?_
    refine J_iload (o _ _) dL_refuses_1005 rfl ?_
    obtain ⟨v3, e4, hf⟩ := bnd_some hf
    refine J_qW (np := 2) k.1 k.2.1 k.2.2.1 (Nat.le_of_ble_eq_true rfl) dL_refuses_1007 mw1024 mw1026 mw1025 mw111 ⟨by decide +kernel, by decide +kernel, by decide +kernel⟩ ⟨rfl, rfl, Nat.le_of_ble_eq_true rfl, Nat.le_of_ble_eq_true rfl⟩ (c_L_size k.2.2.2 k.2.1.2.1 r_x9 e4) rfl rfl c1s_0 (fun q5 => ?_)
    refine J_tt (u := 57) rfl ?_
    refine J_if_le 1069 (o _ _) dL_refuses_1010 (by decide) q5 (fun c6 => ?_) (fun c7 => ?_)
    · have hf := ite_t c6 hf
      refine J_wid (t := 57) (u := 60) (Nat.le_of_ble_eq_true rfl) ?_
      exact t_L_refuses_1069 k r_x2 r_s0 hf hc
    · have hf := ite_f c7 hf
      refine J_aload_n (o _ _) dL_refuses_1013 rfl ?_
      refine J_iload (o _ _) dL_refuses_1014 rfl ?_
      refine J_iload_n (o _ _) dL_refuses_1016 rfl ?_
      refine J_aload_n (o _ _) dL_refuses_1017 rfl ?_
      refine J_iload (o _ _) dL_refuses_1018 rfl ?_
      obtain ⟨v8, e9, hf⟩ := bnd_some hf
      refine J_qW (np := 2) k.1 k.2.1 k.2.2.1 (Nat.le_of_ble_eq_true rfl) dL_refuses_1020 mw1024 mw1026 mw1025 mw111 ⟨by decide +kernel, by decide +kernel, by decide +kernel⟩ ⟨rfl, rfl, Nat.le_of_ble_eq_true rfl, Nat.le_of_ble_eq_true rfl⟩ (c_L_size k.2.2.2 k.2.1.2.1 r_x9 e9) rfl rfl (c1s_i (c1s_i (c1s_r c1s_0 (Nat.le_of_ble_eq_true rfl)) (Nat.le_of_ble_eq_true rfl)) (Nat.le_of_ble_eq_true rfl)) (fun q10 => ?_)
      refine J_tt (u := 58) rfl ?_
      obtain ⟨g11, hf⟩ := gd_some hf
      refine J_irem (o _ _) dL_refuses_1023 q10 g11 ?_
      obtain ⟨v12, e13, hf⟩ := bnd_some hf
      refine J_qW (np := 3) k.1 k.2.1 k.2.2.1 (Nat.le_of_ble_eq_true rfl) dL_refuses_1024 mw1036 mw1038 mw1037 mw111 ⟨by decide +kernel, by decide +kernel, by decide +kernel⟩ ⟨rfl, rfl, Nat.le_of_ble_eq_true rfl, Nat.le_of_ble_eq_true rfl⟩ (c_L_at k.2.2.2 k.2.1.2.1 r_x9 (R_irem _ _) e13) rfl rfl c1s_0 (fun q14 => ?_)
      refine J_tt (u := 59) rfl ?_
      refine J_istore (o _ _) dL_refuses_1027 (Nat.le_of_ble_eq_true rfl) ?_
      refine J_aload_n (o _ _) dL_refuses_1029 rfl ?_
      refine J_iload (o _ _) dL_refuses_1030 rfl ?_
      refine J_iload (o _ _) dL_refuses_1032 rfl ?_
      refine J_sipush (o _ _) dL_refuses_1034 (by decide) ?_
      refine J_idiv (o _ _) dL_refuses_1037 rl16384 (by decide) ?_
      refine J_iload (o _ _) dL_refuses_1038 rfl ?_
      refine J_sipush (o _ _) dL_refuses_1040 (by decide) ?_
      refine J_idiv (o _ _) dL_refuses_1043 rl128 (by decide) ?_
      refine J_sipush (o _ _) dL_refuses_1044 (by decide) ?_
      refine J_irem (o _ _) dL_refuses_1047 rl128 (by decide) ?_
      refine J_iload (o _ _) dL_refuses_1048 rfl ?_
      refine J_sipush (o _ _) dL_refuses_1050 (by decide) ?_
      refine J_irem (o _ _) dL_refuses_1053 rl128 (by decide) ?_
      obtain ⟨v15, e16, hf⟩ := bnd_some hf
      refine J_qW (np := 5) k.1 k.2.1 k.2.2.1 (Nat.le_of_ble_eq_true rfl) dL_refuses_1054 mw1146 mw1148 mw1147 mw111 ⟨by decide +kernel, by decide +kernel, by decide +kernel⟩ ⟨rfl, rfl, Nat.le_of_ble_eq_true rfl, Nat.le_of_ble_eq_true rfl⟩ (c_L_whyNot k.2.2.2 k.2.1.2.1 r_x9 (R_idiv _ _) (R_irem _ _) (R_irem _ _) e16) rfl rfl c1s_0 (fun q17 => ?_)
      refine J_tt (u := 60) rfl ?_
      refine J_ldc (o _ _) dL_refuses_1057 kcL_21 ?_
      refine J_icmp_ne 1066 (o _ _) dL_refuses_1059 (by decide) q17 rlm2000000003 (fun c18 => ?_) (fun c19 => ?_)
      · have hf := ite_f c18 hf
        refine J_iconst (o _ _) dL_refuses_1066 ?_
        exact t_L_refuses_1067 k r_x2 rl0 hf hc
      · have hf := ite_t c19 hf
        refine J_iconst (o _ _) dL_refuses_1062 ?_
        refine J_goto 1067 (o _ _) dL_refuses_1063 (by decide) ?_
        exact t_L_refuses_1067 k r_x2 rl1 hf hc
noncomputable def f_L_refuses_996 (z : ZQ) (m0 : Bool) (x2 : Int) (x9 : Int) : Option (ZQ × Int) :=
  f_L_refuses_997 z m0 x2 x9 0
set_option maxRecDepth 100000 in
theorem t_L_refuses_996 {X : QX} {K : KT} {H0 : Heap} (k : KofQ X K H0 cL_refuses "DatalogmillLaw" rm_L_refuses 62) {z : ZQ} {m0 : Bool} {x2 : Int} {x9 : Int} {o3 o4 o5 o6 o7 o8 o10 o11 : Option Value} (r_x2 : R32 x2) (r_x9 : R32 x9) {out : (ZQ × Int)} (hf : f_L_refuses_996 z m0 x2 x9 = some out) (hc : (fun out : (ZQ × Int) => RetQZ X K H0 cL_refuses 62 out.1 out.2) out) : Jj (kAdd K 56 (6 * 56)) (WdQ X H0) z 996 [some (rf (X.M m0).ad 1), some (.ref X.oa), some (.int (ii x2)), o3, o4, o5, o6, o7, o8, some (.int (ii x9)), o10, o11] [] := by
  unfold f_L_refuses_996 at hf
  have o : ∀ a b, Ok (kAdd K a b) cL_refuses "DatalogmillLaw" rm_L_refuses := fun _ _ => OkQ.add k.1
  have g : ∀ a b, GdQ X (kAdd K a b) H0 := fun _ _ => GdQ.add k.2.1
  refine J_iconst (o _ _) dL_refuses_996 ?_
  exact t_L_refuses_997 k r_x2 r_x9 rl0 hf hc
noncomputable def f_L_refuses_933 (z : ZQ) (m0 : Bool) (x2 : Int) (x4 : Int) (x7 : Int) (x9 : Int) (s1 : Int) (s2 : Int) : Option (ZQ × Int) :=
  bnd (f_L_goals z m0 s1 s2 0 0) fun v1 => if v1.2 = (-2000000002) then (bnd (f_L_goals v1.1 m0 x9 0 0 (-9)) fun v6 => if v6.2 = (-2000000002) then (bnd (f_L_order v6.1 m0 x7 0) fun v11 => if v11.2 = (-2000000001) then (bnd (f_L_joins v11.1 m0 x7) fun v16 => if v16.2 = (-2000000001) then (bnd (f_L_indexes v16.1 m0 x4) fun v21 => if v21.2 = (-2000000001) then (f_L_refuses_997 v21.1 m0 x2 x9 1) else (f_L_refuses_996 v21.1 m0 x2 x9)) else (f_L_refuses_996 v16.1 m0 x2 x9)) else (f_L_refuses_996 v11.1 m0 x2 x9)) else (f_L_refuses_996 v6.1 m0 x2 x9)) else (f_L_refuses_996 v1.1 m0 x2 x9)
set_option maxRecDepth 100000 in
theorem t_L_refuses_933 {X : QX} {K : KT} {H0 : Heap} (k : KofQ X K H0 cL_refuses "DatalogmillLaw" rm_L_refuses 62) {z : ZQ} {m0 : Bool} {x2 : Int} {x4 : Int} {x7 : Int} {x9 : Int} {s1 : Int} {s2 : Int} {o3 o5 o6 o8 o10 o11 : Option Value} (r_x2 : R32 x2) (r_x4 : R32 x4) (r_x7 : R32 x7) (r_x9 : R32 x9) (r_s1 : R32 s1) (r_s2 : R32 s2) {out : (ZQ × Int)} (hf : f_L_refuses_933 z m0 x2 x4 x7 x9 s1 s2 = some out) (hc : (fun out : (ZQ × Int) => RetQZ X K H0 cL_refuses 62 out.1 out.2) out) : Jj (kAdd K 51 (6 * 51)) (WdQ X H0) z 933 [some (rf (X.M m0).ad 1), some (.ref X.oa), some (.int (ii x2)), o3, some (.int (ii x4)), o5, o6, some (.int (ii x7)), o8, some (.int (ii x9)), o10, o11] [.int (ii s2), .int (ii s1), rf (X.M m0).ad 1] := by
  unfold f_L_refuses_933 at hf
  have o : ∀ a b, Ok (kAdd K a b) cL_refuses "DatalogmillLaw" rm_L_refuses := fun _ _ => OkQ.add k.1
  have g : ∀ a b, GdQ X (kAdd K a b) H0 := fun _ _ => GdQ.add k.2.1
  refine J_iconst (o _ _) dL_refuses_933 ?_
  refine J_iconst (o _ _) dL_refuses_934 ?_
  obtain ⟨v1, e2, hf⟩ := bnd_some hf
  refine J_qW (np := 5) k.1 k.2.1 k.2.2.1 (Nat.le_of_ble_eq_true rfl) dL_refuses_935 mw1159 mw1161 mw1160 mw111 ⟨by decide +kernel, by decide +kernel, by decide +kernel⟩ ⟨rfl, rfl, Nat.le_of_ble_eq_true rfl, Nat.le_of_ble_eq_true rfl⟩ (c_L_goals k.2.2.2 k.2.1.2.1 r_s1 r_s2 rl0 rl0 e2) rfl rfl c1s_0 (fun q3 => ?_)
  refine J_tt (u := 52) rfl ?_
  refine J_ldc (o _ _) dL_refuses_938 kcL_18 ?_
  refine J_icmp_ne 996 (o _ _) dL_refuses_940 (by decide) q3 rlm2000000002 (fun c4 => ?_) (fun c5 => ?_)
  · have hf := ite_f c4 hf
    refine J_wid (t := 52) (u := 56) (Nat.le_of_ble_eq_true rfl) ?_
    exact t_L_refuses_996 k r_x2 r_x9 hf hc
  · have hf := ite_t c5 hf
    refine J_aload_n (o _ _) dL_refuses_943 rfl ?_
    refine J_iload (o _ _) dL_refuses_944 rfl ?_
    refine J_iconst (o _ _) dL_refuses_946 ?_
    refine J_iconst (o _ _) dL_refuses_947 ?_
    refine J_bipush (o _ _) dL_refuses_948 (by decide) ?_
    obtain ⟨v6, e7, hf⟩ := bnd_some hf
    refine J_qW (np := 5) k.1 k.2.1 k.2.2.1 (Nat.le_of_ble_eq_true rfl) dL_refuses_950 mw1159 mw1161 mw1160 mw111 ⟨by decide +kernel, by decide +kernel, by decide +kernel⟩ ⟨rfl, rfl, Nat.le_of_ble_eq_true rfl, Nat.le_of_ble_eq_true rfl⟩ (c_L_goals k.2.2.2 k.2.1.2.1 r_x9 rl0 rl0 rlm9 e7) rfl rfl c1s_0 (fun q8 => ?_)
    refine J_tt (u := 53) rfl ?_
    refine J_ldc (o _ _) dL_refuses_953 kcL_18 ?_
    refine J_icmp_ne 996 (o _ _) dL_refuses_955 (by decide) q8 rlm2000000002 (fun c9 => ?_) (fun c10 => ?_)
    · have hf := ite_f c9 hf
      refine J_wid (t := 53) (u := 56) (Nat.le_of_ble_eq_true rfl) ?_
      exact t_L_refuses_996 k r_x2 r_x9 hf hc
    · have hf := ite_t c10 hf
      refine J_aload_n (o _ _) dL_refuses_958 rfl ?_
      refine J_iload (o _ _) dL_refuses_959 rfl ?_
      refine J_iconst (o _ _) dL_refuses_961 ?_
      obtain ⟨v11, e12, hf⟩ := bnd_some hf
      refine J_qW (np := 3) k.1 k.2.1 k.2.2.1 (Nat.le_of_ble_eq_true rfl) dL_refuses_962 mw1195 mw1197 mw1196 mw111 ⟨by decide +kernel, by decide +kernel, by decide +kernel⟩ ⟨rfl, rfl, Nat.le_of_ble_eq_true rfl, Nat.le_of_ble_eq_true rfl⟩ (c_L_order k.2.2.2 k.2.1.2.1 r_x7 rl0 e12) rfl rfl c1s_0 (fun q13 => ?_)
      refine J_tt (u := 54) rfl ?_
      refine J_ldc (o _ _) dL_refuses_965 kcL_15 ?_
      refine J_icmp_ne 996 (o _ _) dL_refuses_967 (by decide) q13 rlm2000000001 (fun c14 => ?_) (fun c15 => ?_)
      · have hf := ite_f c14 hf
        refine J_wid (t := 54) (u := 56) (Nat.le_of_ble_eq_true rfl) ?_
        exact t_L_refuses_996 k r_x2 r_x9 hf hc
      · have hf := ite_t c15 hf
        refine J_aload_n (o _ _) dL_refuses_970 rfl ?_
        refine J_iload (o _ _) dL_refuses_971 rfl ?_
        obtain ⟨v16, e17, hf⟩ := bnd_some hf
        refine J_qW (np := 2) k.1 k.2.1 k.2.2.1 (Nat.le_of_ble_eq_true rfl) dL_refuses_973 mw1225 mw1227 mw1226 mw111 ⟨by decide +kernel, by decide +kernel, by decide +kernel⟩ ⟨rfl, rfl, Nat.le_of_ble_eq_true rfl, Nat.le_of_ble_eq_true rfl⟩ (c_L_joins k.2.2.2 k.2.1.2.1 r_x7 e17) rfl rfl c1s_0 (fun q18 => ?_)
        refine J_tt (u := 55) rfl ?_
        refine J_ldc (o _ _) dL_refuses_976 kcL_15 ?_
        refine J_icmp_ne 996 (o _ _) dL_refuses_978 (by decide) q18 rlm2000000001 (fun c19 => ?_) (fun c20 => ?_)
        · have hf := ite_f c19 hf
          refine J_wid (t := 55) (u := 56) (Nat.le_of_ble_eq_true rfl) ?_
          exact t_L_refuses_996 k r_x2 r_x9 hf hc
        · have hf := ite_t c20 hf
          refine J_aload_n (o _ _) dL_refuses_981 rfl ?_
          refine J_iload (o _ _) dL_refuses_982 rfl ?_
          obtain ⟨v21, e22, hf⟩ := bnd_some hf
          refine J_qW (np := 2) k.1 k.2.1 k.2.2.1 (Nat.le_of_ble_eq_true rfl) dL_refuses_984 mw1247 mw1249 mw1248 mw111 ⟨by decide +kernel, by decide +kernel, by decide +kernel⟩ ⟨rfl, rfl, Nat.le_of_ble_eq_true rfl, Nat.le_of_ble_eq_true rfl⟩ (c_L_indexes k.2.2.2 k.2.1.2.1 r_x4 e22) rfl rfl c1s_0 (fun q23 => ?_)
          refine J_tt (u := 56) rfl ?_
          refine J_ldc (o _ _) dL_refuses_987 kcL_15 ?_
          refine J_icmp_ne 996 (o _ _) dL_refuses_989 (by decide) q23 rlm2000000001 (fun c24 => ?_) (fun c25 => ?_)
          · have hf := ite_f c24 hf
            exact t_L_refuses_996 k r_x2 r_x9 hf hc
          · have hf := ite_t c25 hf
            refine J_iconst (o _ _) dL_refuses_992 ?_
            refine J_goto 997 (o _ _) dL_refuses_993 (by decide) ?_
            exact t_L_refuses_997 k r_x2 r_x9 rl1 hf hc
noncomputable def f_L_refuses_683 (z : ZQ) (m0 : Bool) (x2 : Int) (x3 : Int) (x4 : Int) (x7 : Int) (x8 : Int) (x9 : Int) (s1 : Int) (s2 : Int) (s3 : Int) (s4 : Int) (s5 : Int) : Option (ZQ × Int) :=
  bnd (f_L_holdsAt z m0 s1 s2 s3 s4 s5) fun v1 => if v1.2 = (-2000000002) then (bnd (f_L_anew v1.1 m0 x9 0 0 0 (wr (4 + x2))) fun v6 => if v6.2 = (-2000000002) then (bnd (f_L_anew v6.1 m0 x4 0 0 0 0) fun v11 => if v11.2 = (-2000000001) then (bnd (f_L_size v11.1 m0 x4) fun v16 => if v16.2 = (-2000000001) then (bnd (f_L_at v16.1 m0 x4 0) fun v21 => if v21.2 = (-2000000001) then (bnd (f_L_at v21.1 m0 x9 (wr ((-1) - x2))) fun v26 => if v26.2 = (-2000000001) then (bnd (f_L_size v26.1 m0 x9) fun v31 => bnd (f_L_at v31.1 m0 x9 (wr (v31.2 + x2))) fun v34 => if v34.2 = (-2000000001) then (bnd (f_L_stratum v34.1 m0 x4) fun v39 => if v39.2 = (-2000000001) then (bnd (f_L_ways v39.1 m0 x4 0 0 0) fun v44 => if v44.2 = (-2000000001) then (bnd (f_L_ways v44.1 m0 x9 x8 0 0) fun v49 => if v49.2 = 0 then (bnd (f_L_cheapest v49.1 m0 x4 0 0 0) fun v54 => if v54.2 = (-2000000001) then (bnd (f_L_cheapest v54.1 m0 x9 0 x8 0) fun v59 => if v59.2 = (-1) then (bnd (f_L_needed v59.1 m0 x4 0 0 0) fun v64 => if v64.2 = (-2000000001) then (bnd (f_L_needed v64.1 m0 x9 0 0 5) fun v69 => if v69.2 = 0 then (bnd (f_L_whyNot v69.1 m0 x4 0 0 0) fun v74 => if v74.2 = (-2000000001) then (bnd (f_L_whyNot v74.1 m0 x9 x8 0 0) fun v79 => if v79.2 = (-2000000002) then (bnd (f_L_goals v79.1 m0 x4 0 0 0) fun v84 => if v84.2 = (-2000000001) then (if x3 = 0 then (f_L_refuses_933 v84.1 m0 x2 x4 x7 x9 x9 (wr (128 + x2))) else (f_L_refuses_933 v84.1 m0 x2 x4 x7 x9 x9 (wr ((-10) - x2)))) else (f_L_refuses_996 v84.1 m0 x2 x9)) else (f_L_refuses_996 v79.1 m0 x2 x9)) else (f_L_refuses_996 v74.1 m0 x2 x9)) else (f_L_refuses_996 v69.1 m0 x2 x9)) else (f_L_refuses_996 v64.1 m0 x2 x9)) else (f_L_refuses_996 v59.1 m0 x2 x9)) else (f_L_refuses_996 v54.1 m0 x2 x9)) else (f_L_refuses_996 v49.1 m0 x2 x9)) else (f_L_refuses_996 v44.1 m0 x2 x9)) else (f_L_refuses_996 v39.1 m0 x2 x9)) else (f_L_refuses_996 v34.1 m0 x2 x9)) else (f_L_refuses_996 v26.1 m0 x2 x9)) else (f_L_refuses_996 v21.1 m0 x2 x9)) else (f_L_refuses_996 v16.1 m0 x2 x9)) else (f_L_refuses_996 v11.1 m0 x2 x9)) else (f_L_refuses_996 v6.1 m0 x2 x9)) else (f_L_refuses_996 v1.1 m0 x2 x9)
set_option maxRecDepth 100000 in
theorem t_L_refuses_683 {X : QX} {K : KT} {H0 : Heap} (k : KofQ X K H0 cL_refuses "DatalogmillLaw" rm_L_refuses 62) {z : ZQ} {m0 : Bool} {x2 : Int} {x3 : Int} {x4 : Int} {x7 : Int} {x8 : Int} {x9 : Int} {s1 : Int} {s2 : Int} {s3 : Int} {s4 : Int} {s5 : Int} {o5 o6 o10 o11 : Option Value} (r_x2 : R32 x2) (r_x3 : R32 x3) (r_x4 : R32 x4) (r_x7 : R32 x7) (r_x8 : R32 x8) (r_x9 : R32 x9) (r_s1 : R32 s1) (r_s2 : R32 s2) (r_s3 : R32 s3) (r_s4 : R32 s4) (r_s5 : R32 s5) {out : (ZQ × Int)} (hf : f_L_refuses_683 z m0 x2 x3 x4 x7 x8 x9 s1 s2 s3 s4 s5 = some out) (hc : (fun out : (ZQ × Int) => RetQZ X K H0 cL_refuses 62 out.1 out.2) out) : Jj (kAdd K 33 (6 * 33)) (WdQ X H0) z 683 [some (rf (X.M m0).ad 1), some (.ref X.oa), some (.int (ii x2)), some (.int (ii x3)), some (.int (ii x4)), o5, o6, some (.int (ii x7)), some (.int (ii x8)), some (.int (ii x9)), o10, o11] [.int (ii s5), .int (ii s4), .int (ii s3), .int (ii s2), .int (ii s1), rf (X.M m0).ad 1] := by
  unfold f_L_refuses_683 at hf
  have o : ∀ a b, Ok (kAdd K a b) cL_refuses "DatalogmillLaw" rm_L_refuses := fun _ _ => OkQ.add k.1
  have g : ∀ a b, GdQ X (kAdd K a b) H0 := fun _ _ => GdQ.add k.2.1
  obtain ⟨v1, e2, hf⟩ := bnd_some hf
  refine J_qW (np := 6) k.1 k.2.1 k.2.2.1 (Nat.le_of_ble_eq_true rfl) dL_refuses_683 mw1009 mw1011 mw1010 mw111 ⟨by decide +kernel, by decide +kernel, by decide +kernel⟩ ⟨rfl, rfl, Nat.le_of_ble_eq_true rfl, Nat.le_of_ble_eq_true rfl⟩ (c_L_holdsAt k.2.2.2 k.2.1.2.1 r_s1 r_s2 r_s3 r_s4 r_s5 e2) rfl rfl c1s_0 (fun q3 => ?_)
  refine J_tt (u := 34) rfl ?_
  refine J_ldc (o _ _) dL_refuses_686 kcL_18 ?_
  refine J_icmp_ne 996 (o _ _) dL_refuses_688 (by decide) q3 rlm2000000002 (fun c4 => ?_) (fun c5 => ?_)
  · have hf := ite_f c4 hf
    refine J_wid (t := 34) (u := 56) (Nat.le_of_ble_eq_true rfl) ?_
    exact t_L_refuses_996 k r_x2 r_x9 hf hc
  · have hf := ite_t c5 hf
    refine J_aload_n (o _ _) dL_refuses_691 rfl ?_
    refine J_iload (o _ _) dL_refuses_692 rfl ?_
    refine J_iconst (o _ _) dL_refuses_694 ?_
    refine J_iconst (o _ _) dL_refuses_695 ?_
    refine J_iconst (o _ _) dL_refuses_696 ?_
    refine J_iconst (o _ _) dL_refuses_697 ?_
    refine J_iload_n (o _ _) dL_refuses_698 rfl ?_
    refine J_iadd (o _ _) dL_refuses_699 ?_
    obtain ⟨v6, e7, hf⟩ := bnd_some hf
    refine J_qW (np := 6) k.1 k.2.1 k.2.2.1 (Nat.le_of_ble_eq_true rfl) dL_refuses_700 mw1017 mw1019 mw1018 mw111 ⟨by decide +kernel, by decide +kernel, by decide +kernel⟩ ⟨rfl, rfl, Nat.le_of_ble_eq_true rfl, Nat.le_of_ble_eq_true rfl⟩ (c_L_anew k.2.2.2 k.2.1.2.1 r_x9 rl0 rl0 rl0 (R_wr _) e7) rfl rfl c1s_0 (fun q8 => ?_)
    refine J_tt (u := 35) rfl ?_
    refine J_ldc (o _ _) dL_refuses_703 kcL_18 ?_
    refine J_icmp_ne 996 (o _ _) dL_refuses_705 (by decide) q8 rlm2000000002 (fun c9 => ?_) (fun c10 => ?_)
    · have hf := ite_f c9 hf
      refine J_wid (t := 35) (u := 56) (Nat.le_of_ble_eq_true rfl) ?_
      exact t_L_refuses_996 k r_x2 r_x9 hf hc
    · have hf := ite_t c10 hf
      refine J_aload_n (o _ _) dL_refuses_708 rfl ?_
      refine J_iload (o _ _) dL_refuses_709 rfl ?_
      refine J_iconst (o _ _) dL_refuses_711 ?_
      refine J_iconst (o _ _) dL_refuses_712 ?_
      refine J_iconst (o _ _) dL_refuses_713 ?_
      refine J_iconst (o _ _) dL_refuses_714 ?_
      obtain ⟨v11, e12, hf⟩ := bnd_some hf
      refine J_qW (np := 6) k.1 k.2.1 k.2.2.1 (Nat.le_of_ble_eq_true rfl) dL_refuses_715 mw1017 mw1019 mw1018 mw111 ⟨by decide +kernel, by decide +kernel, by decide +kernel⟩ ⟨rfl, rfl, Nat.le_of_ble_eq_true rfl, Nat.le_of_ble_eq_true rfl⟩ (c_L_anew k.2.2.2 k.2.1.2.1 r_x4 rl0 rl0 rl0 rl0 e12) rfl rfl c1s_0 (fun q13 => ?_)
      refine J_tt (u := 36) rfl ?_
      refine J_ldc (o _ _) dL_refuses_718 kcL_15 ?_
      refine J_icmp_ne 996 (o _ _) dL_refuses_720 (by decide) q13 rlm2000000001 (fun c14 => ?_) (fun c15 => ?_)
      · have hf := ite_f c14 hf
        refine J_wid (t := 36) (u := 56) (Nat.le_of_ble_eq_true rfl) ?_
        exact t_L_refuses_996 k r_x2 r_x9 hf hc
      · have hf := ite_t c15 hf
        refine J_aload_n (o _ _) dL_refuses_723 rfl ?_
        refine J_iload (o _ _) dL_refuses_724 rfl ?_
        obtain ⟨v16, e17, hf⟩ := bnd_some hf
        refine J_qW (np := 2) k.1 k.2.1 k.2.2.1 (Nat.le_of_ble_eq_true rfl) dL_refuses_726 mw1024 mw1026 mw1025 mw111 ⟨by decide +kernel, by decide +kernel, by decide +kernel⟩ ⟨rfl, rfl, Nat.le_of_ble_eq_true rfl, Nat.le_of_ble_eq_true rfl⟩ (c_L_size k.2.2.2 k.2.1.2.1 r_x4 e17) rfl rfl c1s_0 (fun q18 => ?_)
        refine J_tt (u := 37) rfl ?_
        refine J_ldc (o _ _) dL_refuses_729 kcL_15 ?_
        refine J_icmp_ne 996 (o _ _) dL_refuses_731 (by decide) q18 rlm2000000001 (fun c19 => ?_) (fun c20 => ?_)
        · have hf := ite_f c19 hf
          refine J_wid (t := 37) (u := 56) (Nat.le_of_ble_eq_true rfl) ?_
          exact t_L_refuses_996 k r_x2 r_x9 hf hc
        · have hf := ite_t c20 hf
          refine J_aload_n (o _ _) dL_refuses_734 rfl ?_
          refine J_iload (o _ _) dL_refuses_735 rfl ?_
          refine J_iconst (o _ _) dL_refuses_737 ?_
          obtain ⟨v21, e22, hf⟩ := bnd_some hf
          refine J_qW (np := 3) k.1 k.2.1 k.2.2.1 (Nat.le_of_ble_eq_true rfl) dL_refuses_738 mw1036 mw1038 mw1037 mw111 ⟨by decide +kernel, by decide +kernel, by decide +kernel⟩ ⟨rfl, rfl, Nat.le_of_ble_eq_true rfl, Nat.le_of_ble_eq_true rfl⟩ (c_L_at k.2.2.2 k.2.1.2.1 r_x4 rl0 e22) rfl rfl c1s_0 (fun q23 => ?_)
          refine J_tt (u := 38) rfl ?_
          refine J_ldc (o _ _) dL_refuses_741 kcL_15 ?_
          refine J_icmp_ne 996 (o _ _) dL_refuses_743 (by decide) q23 rlm2000000001 (fun c24 => ?_) (fun c25 => ?_)
          · have hf := ite_f c24 hf
            refine J_wid (t := 38) (u := 56) (Nat.le_of_ble_eq_true rfl) ?_
            exact t_L_refuses_996 k r_x2 r_x9 hf hc
          · have hf := ite_t c25 hf
            refine J_aload_n (o _ _) dL_refuses_746 rfl ?_
            refine J_iload (o _ _) dL_refuses_747 rfl ?_
            refine J_iconst (o _ _) dL_refuses_749 ?_
            refine J_iload_n (o _ _) dL_refuses_750 rfl ?_
            refine J_isub (o _ _) dL_refuses_751 ?_
            obtain ⟨v26, e27, hf⟩ := bnd_some hf
            refine J_qW (np := 3) k.1 k.2.1 k.2.2.1 (Nat.le_of_ble_eq_true rfl) dL_refuses_752 mw1036 mw1038 mw1037 mw111 ⟨by decide +kernel, by decide +kernel, by decide +kernel⟩ ⟨rfl, rfl, Nat.le_of_ble_eq_true rfl, Nat.le_of_ble_eq_true rfl⟩ (c_L_at k.2.2.2 k.2.1.2.1 r_x9 (R_wr _) e27) rfl rfl c1s_0 (fun q28 => ?_)
            refine J_tt (u := 39) rfl ?_
            refine J_ldc (o _ _) dL_refuses_755 kcL_15 ?_
            refine J_icmp_ne 996 (o _ _) dL_refuses_757 (by decide) q28 rlm2000000001 (fun c29 => ?_) (fun c30 => ?_)
            · have hf := ite_f c29 hf
              refine J_wid (t := 39) (u := 56) (Nat.le_of_ble_eq_true rfl) ?_
              exact t_L_refuses_996 k r_x2 r_x9 hf hc
            · have hf := ite_t c30 hf
              refine J_aload_n (o _ _) dL_refuses_760 rfl ?_
              refine J_iload (o _ _) dL_refuses_761 rfl ?_
              refine J_aload_n (o _ _) dL_refuses_763 rfl ?_
              refine J_iload (o _ _) dL_refuses_764 rfl ?_
              obtain ⟨v31, e32, hf⟩ := bnd_some hf
              refine J_qW (np := 2) k.1 k.2.1 k.2.2.1 (Nat.le_of_ble_eq_true rfl) dL_refuses_766 mw1024 mw1026 mw1025 mw111 ⟨by decide +kernel, by decide +kernel, by decide +kernel⟩ ⟨rfl, rfl, Nat.le_of_ble_eq_true rfl, Nat.le_of_ble_eq_true rfl⟩ (c_L_size k.2.2.2 k.2.1.2.1 r_x9 e32) rfl rfl (c1s_i (c1s_r c1s_0 (Nat.le_of_ble_eq_true rfl)) (Nat.le_of_ble_eq_true rfl)) (fun q33 => ?_)
              refine J_tt (u := 40) rfl ?_
              refine J_iload_n (o _ _) dL_refuses_769 rfl ?_
              refine J_iadd (o _ _) dL_refuses_770 ?_
              obtain ⟨v34, e35, hf⟩ := bnd_some hf
              refine J_qW (np := 3) k.1 k.2.1 k.2.2.1 (Nat.le_of_ble_eq_true rfl) dL_refuses_771 mw1036 mw1038 mw1037 mw111 ⟨by decide +kernel, by decide +kernel, by decide +kernel⟩ ⟨rfl, rfl, Nat.le_of_ble_eq_true rfl, Nat.le_of_ble_eq_true rfl⟩ (c_L_at k.2.2.2 k.2.1.2.1 r_x9 (R_wr _) e35) rfl rfl c1s_0 (fun q36 => ?_)
              refine J_tt (u := 41) rfl ?_
              refine J_ldc (o _ _) dL_refuses_774 kcL_15 ?_
              refine J_icmp_ne 996 (o _ _) dL_refuses_776 (by decide) q36 rlm2000000001 (fun c37 => ?_) (fun c38 => ?_)
              · have hf := ite_f c37 hf
                refine J_wid (t := 41) (u := 56) (Nat.le_of_ble_eq_true rfl) ?_
                exact t_L_refuses_996 k r_x2 r_x9 hf hc
              · have hf := ite_t c38 hf
                refine J_aload_n (o _ _) dL_refuses_779 rfl ?_
                refine J_iload (o _ _) dL_refuses_780 rfl ?_
                obtain ⟨v39, e40, hf⟩ := bnd_some hf
                refine J_qW (np := 2) k.1 k.2.1 k.2.2.1 (Nat.le_of_ble_eq_true rfl) dL_refuses_782 mw1049 mw1051 mw1050 mw111 ⟨by decide +kernel, by decide +kernel, by decide +kernel⟩ ⟨rfl, rfl, Nat.le_of_ble_eq_true rfl, Nat.le_of_ble_eq_true rfl⟩ (c_L_stratum k.2.2.2 k.2.1.2.1 r_x4 e40) rfl rfl c1s_0 (fun q41 => ?_)
                refine J_tt (u := 42) rfl ?_
                refine J_ldc (o _ _) dL_refuses_785 kcL_15 ?_
                refine J_icmp_ne 996 (o _ _) dL_refuses_787 (by decide) q41 rlm2000000001 (fun c42 => ?_) (fun c43 => ?_)
                · have hf := ite_f c42 hf
                  refine J_wid (t := 42) (u := 56) (Nat.le_of_ble_eq_true rfl) ?_
                  exact t_L_refuses_996 k r_x2 r_x9 hf hc
                · have hf := ite_t c43 hf
                  refine J_aload_n (o _ _) dL_refuses_790 rfl ?_
                  refine J_iload (o _ _) dL_refuses_791 rfl ?_
                  refine J_iconst (o _ _) dL_refuses_793 ?_
                  refine J_iconst (o _ _) dL_refuses_794 ?_
                  refine J_iconst (o _ _) dL_refuses_795 ?_
                  obtain ⟨v44, e45, hf⟩ := bnd_some hf
                  refine J_qW (np := 5) k.1 k.2.1 k.2.2.1 (Nat.le_of_ble_eq_true rfl) dL_refuses_796 mw1057 mw1059 mw1058 mw111 ⟨by decide +kernel, by decide +kernel, by decide +kernel⟩ ⟨rfl, rfl, Nat.le_of_ble_eq_true rfl, Nat.le_of_ble_eq_true rfl⟩ (c_L_ways k.2.2.2 k.2.1.2.1 r_x4 rl0 rl0 rl0 e45) rfl rfl c1s_0 (fun q46 => ?_)
                  refine J_tt (u := 43) rfl ?_
                  refine J_ldc (o _ _) dL_refuses_799 kcL_15 ?_
                  refine J_icmp_ne 996 (o _ _) dL_refuses_801 (by decide) q46 rlm2000000001 (fun c47 => ?_) (fun c48 => ?_)
                  · have hf := ite_f c47 hf
                    refine J_wid (t := 43) (u := 56) (Nat.le_of_ble_eq_true rfl) ?_
                    exact t_L_refuses_996 k r_x2 r_x9 hf hc
                  · have hf := ite_t c48 hf
                    refine J_aload_n (o _ _) dL_refuses_804 rfl ?_
                    refine J_iload (o _ _) dL_refuses_805 rfl ?_
                    refine J_iload (o _ _) dL_refuses_807 rfl ?_
                    refine J_iconst (o _ _) dL_refuses_809 ?_
                    refine J_iconst (o _ _) dL_refuses_810 ?_
                    obtain ⟨v49, e50, hf⟩ := bnd_some hf
                    refine J_qW (np := 5) k.1 k.2.1 k.2.2.1 (Nat.le_of_ble_eq_true rfl) dL_refuses_811 mw1057 mw1059 mw1058 mw111 ⟨by decide +kernel, by decide +kernel, by decide +kernel⟩ ⟨rfl, rfl, Nat.le_of_ble_eq_true rfl, Nat.le_of_ble_eq_true rfl⟩ (c_L_ways k.2.2.2 k.2.1.2.1 r_x9 r_x8 rl0 rl0 e50) rfl rfl c1s_0 (fun q51 => ?_)
                    refine J_tt (u := 44) rfl ?_
                    refine J_if_ne 996 (o _ _) dL_refuses_814 (by decide) q51 (fun c52 => ?_) (fun c53 => ?_)
                    · have hf := ite_f c52 hf
                      refine J_wid (t := 44) (u := 56) (Nat.le_of_ble_eq_true rfl) ?_
                      exact t_L_refuses_996 k r_x2 r_x9 hf hc
                    · have hf := ite_t c53 hf
                      refine J_aload_n (o _ _) dL_refuses_817 rfl ?_
                      refine J_iload (o _ _) dL_refuses_818 rfl ?_
                      refine J_iconst (o _ _) dL_refuses_820 ?_
                      refine J_iconst (o _ _) dL_refuses_821 ?_
                      refine J_iconst (o _ _) dL_refuses_822 ?_
                      obtain ⟨v54, e55, hf⟩ := bnd_some hf
                      refine J_qW (np := 5) k.1 k.2.1 k.2.2.1 (Nat.le_of_ble_eq_true rfl) dL_refuses_823 mw1100 mw1102 mw1101 mw111 ⟨by decide +kernel, by decide +kernel, by decide +kernel⟩ ⟨rfl, rfl, Nat.le_of_ble_eq_true rfl, Nat.le_of_ble_eq_true rfl⟩ (c_L_cheapest k.2.2.2 k.2.1.2.1 r_x4 rl0 rl0 rl0 e55) rfl rfl c1s_0 (fun q56 => ?_)
                      refine J_tt (u := 45) rfl ?_
                      refine J_ldc (o _ _) dL_refuses_826 kcL_15 ?_
                      refine J_icmp_ne 996 (o _ _) dL_refuses_828 (by decide) q56 rlm2000000001 (fun c57 => ?_) (fun c58 => ?_)
                      · have hf := ite_f c57 hf
                        refine J_wid (t := 45) (u := 56) (Nat.le_of_ble_eq_true rfl) ?_
                        exact t_L_refuses_996 k r_x2 r_x9 hf hc
                      · have hf := ite_t c58 hf
                        refine J_aload_n (o _ _) dL_refuses_831 rfl ?_
                        refine J_iload (o _ _) dL_refuses_832 rfl ?_
                        refine J_iconst (o _ _) dL_refuses_834 ?_
                        refine J_iload (o _ _) dL_refuses_835 rfl ?_
                        refine J_iconst (o _ _) dL_refuses_837 ?_
                        obtain ⟨v59, e60, hf⟩ := bnd_some hf
                        refine J_qW (np := 5) k.1 k.2.1 k.2.2.1 (Nat.le_of_ble_eq_true rfl) dL_refuses_838 mw1100 mw1102 mw1101 mw111 ⟨by decide +kernel, by decide +kernel, by decide +kernel⟩ ⟨rfl, rfl, Nat.le_of_ble_eq_true rfl, Nat.le_of_ble_eq_true rfl⟩ (c_L_cheapest k.2.2.2 k.2.1.2.1 r_x9 rl0 r_x8 rl0 e60) rfl rfl c1s_0 (fun q61 => ?_)
                        refine J_tt (u := 46) rfl ?_
                        refine J_iconst (o _ _) dL_refuses_841 ?_
                        refine J_icmp_ne 996 (o _ _) dL_refuses_842 (by decide) q61 rlm1 (fun c62 => ?_) (fun c63 => ?_)
                        · have hf := ite_f c62 hf
                          refine J_wid (t := 46) (u := 56) (Nat.le_of_ble_eq_true rfl) ?_
                          exact t_L_refuses_996 k r_x2 r_x9 hf hc
                        · have hf := ite_t c63 hf
                          refine J_aload_n (o _ _) dL_refuses_845 rfl ?_
                          refine J_iload (o _ _) dL_refuses_846 rfl ?_
                          refine J_iconst (o _ _) dL_refuses_848 ?_
                          refine J_iconst (o _ _) dL_refuses_849 ?_
                          refine J_iconst (o _ _) dL_refuses_850 ?_
                          obtain ⟨v64, e65, hf⟩ := bnd_some hf
                          refine J_qW (np := 5) k.1 k.2.1 k.2.2.1 (Nat.le_of_ble_eq_true rfl) dL_refuses_851 mw1139 mw1141 mw1140 mw111 ⟨by decide +kernel, by decide +kernel, by decide +kernel⟩ ⟨rfl, rfl, Nat.le_of_ble_eq_true rfl, Nat.le_of_ble_eq_true rfl⟩ (c_L_needed k.2.2.2 k.2.1.2.1 r_x4 rl0 rl0 rl0 e65) rfl rfl c1s_0 (fun q66 => ?_)
                          refine J_tt (u := 47) rfl ?_
                          refine J_ldc (o _ _) dL_refuses_854 kcL_15 ?_
                          refine J_icmp_ne 996 (o _ _) dL_refuses_856 (by decide) q66 rlm2000000001 (fun c67 => ?_) (fun c68 => ?_)
                          · have hf := ite_f c67 hf
                            refine J_wid (t := 47) (u := 56) (Nat.le_of_ble_eq_true rfl) ?_
                            exact t_L_refuses_996 k r_x2 r_x9 hf hc
                          · have hf := ite_t c68 hf
                            refine J_aload_n (o _ _) dL_refuses_859 rfl ?_
                            refine J_iload (o _ _) dL_refuses_860 rfl ?_
                            refine J_iconst (o _ _) dL_refuses_862 ?_
                            refine J_iconst (o _ _) dL_refuses_863 ?_
                            refine J_iconst (o _ _) dL_refuses_864 ?_
                            obtain ⟨v69, e70, hf⟩ := bnd_some hf
                            refine J_qW (np := 5) k.1 k.2.1 k.2.2.1 (Nat.le_of_ble_eq_true rfl) dL_refuses_865 mw1139 mw1141 mw1140 mw111 ⟨by decide +kernel, by decide +kernel, by decide +kernel⟩ ⟨rfl, rfl, Nat.le_of_ble_eq_true rfl, Nat.le_of_ble_eq_true rfl⟩ (c_L_needed k.2.2.2 k.2.1.2.1 r_x9 rl0 rl0 rl5 e70) rfl rfl c1s_0 (fun q71 => ?_)
                            refine J_tt (u := 48) rfl ?_
                            refine J_if_ne 996 (o _ _) dL_refuses_868 (by decide) q71 (fun c72 => ?_) (fun c73 => ?_)
                            · have hf := ite_f c72 hf
                              refine J_wid (t := 48) (u := 56) (Nat.le_of_ble_eq_true rfl) ?_
                              exact t_L_refuses_996 k r_x2 r_x9 hf hc
                            · have hf := ite_t c73 hf
                              refine J_aload_n (o _ _) dL_refuses_871 rfl ?_
                              refine J_iload (o _ _) dL_refuses_872 rfl ?_
                              refine J_iconst (o _ _) dL_refuses_874 ?_
                              refine J_iconst (o _ _) dL_refuses_875 ?_
                              refine J_iconst (o _ _) dL_refuses_876 ?_
                              obtain ⟨v74, e75, hf⟩ := bnd_some hf
                              refine J_qW (np := 5) k.1 k.2.1 k.2.2.1 (Nat.le_of_ble_eq_true rfl) dL_refuses_877 mw1146 mw1148 mw1147 mw111 ⟨by decide +kernel, by decide +kernel, by decide +kernel⟩ ⟨rfl, rfl, Nat.le_of_ble_eq_true rfl, Nat.le_of_ble_eq_true rfl⟩ (c_L_whyNot k.2.2.2 k.2.1.2.1 r_x4 rl0 rl0 rl0 e75) rfl rfl c1s_0 (fun q76 => ?_)
                              refine J_tt (u := 49) rfl ?_
                              refine J_ldc (o _ _) dL_refuses_880 kcL_15 ?_
                              refine J_icmp_ne 996 (o _ _) dL_refuses_882 (by decide) q76 rlm2000000001 (fun c77 => ?_) (fun c78 => ?_)
                              · have hf := ite_f c77 hf
                                refine J_wid (t := 49) (u := 56) (Nat.le_of_ble_eq_true rfl) ?_
                                exact t_L_refuses_996 k r_x2 r_x9 hf hc
                              · have hf := ite_t c78 hf
                                refine J_aload_n (o _ _) dL_refuses_885 rfl ?_
                                refine J_iload (o _ _) dL_refuses_886 rfl ?_
                                refine J_iload (o _ _) dL_refuses_888 rfl ?_
                                refine J_iconst (o _ _) dL_refuses_890 ?_
                                refine J_iconst (o _ _) dL_refuses_891 ?_
                                obtain ⟨v79, e80, hf⟩ := bnd_some hf
                                refine J_qW (np := 5) k.1 k.2.1 k.2.2.1 (Nat.le_of_ble_eq_true rfl) dL_refuses_892 mw1146 mw1148 mw1147 mw111 ⟨by decide +kernel, by decide +kernel, by decide +kernel⟩ ⟨rfl, rfl, Nat.le_of_ble_eq_true rfl, Nat.le_of_ble_eq_true rfl⟩ (c_L_whyNot k.2.2.2 k.2.1.2.1 r_x9 r_x8 rl0 rl0 e80) rfl rfl c1s_0 (fun q81 => ?_)
                                refine J_tt (u := 50) rfl ?_
                                refine J_ldc (o _ _) dL_refuses_895 kcL_18 ?_
                                refine J_icmp_ne 996 (o _ _) dL_refuses_897 (by decide) q81 rlm2000000002 (fun c82 => ?_) (fun c83 => ?_)
                                · have hf := ite_f c82 hf
                                  refine J_wid (t := 50) (u := 56) (Nat.le_of_ble_eq_true rfl) ?_
                                  exact t_L_refuses_996 k r_x2 r_x9 hf hc
                                · have hf := ite_t c83 hf
                                  refine J_aload_n (o _ _) dL_refuses_900 rfl ?_
                                  refine J_iload (o _ _) dL_refuses_901 rfl ?_
                                  refine J_iconst (o _ _) dL_refuses_903 ?_
                                  refine J_iconst (o _ _) dL_refuses_904 ?_
                                  refine J_iconst (o _ _) dL_refuses_905 ?_
                                  obtain ⟨v84, e85, hf⟩ := bnd_some hf
                                  refine J_qW (np := 5) k.1 k.2.1 k.2.2.1 (Nat.le_of_ble_eq_true rfl) dL_refuses_906 mw1159 mw1161 mw1160 mw111 ⟨by decide +kernel, by decide +kernel, by decide +kernel⟩ ⟨rfl, rfl, Nat.le_of_ble_eq_true rfl, Nat.le_of_ble_eq_true rfl⟩ (c_L_goals k.2.2.2 k.2.1.2.1 r_x4 rl0 rl0 rl0 e85) rfl rfl c1s_0 (fun q86 => ?_)
                                  refine J_tt (u := 51) rfl ?_
                                  refine J_ldc (o _ _) dL_refuses_909 kcL_15 ?_
                                  refine J_icmp_ne 996 (o _ _) dL_refuses_911 (by decide) q86 rlm2000000001 (fun c87 => ?_) (fun c88 => ?_)
                                  · have hf := ite_f c87 hf
                                    refine J_wid (t := 51) (u := 56) (Nat.le_of_ble_eq_true rfl) ?_
                                    exact t_L_refuses_996 k r_x2 r_x9 hf hc
                                  · have hf := ite_t c88 hf
                                    refine J_aload_n (o _ _) dL_refuses_914 rfl ?_
                                    refine J_iload (o _ _) dL_refuses_915 rfl ?_
                                    refine J_iload_n (o _ _) dL_refuses_917 rfl ?_
                                    refine J_if_eq 928 (o _ _) dL_refuses_918 (by decide) r_x3 (fun c89 => ?_) (fun c90 => ?_)
                                    · have hf := ite_t c89 hf
                                      refine J_sipush (o _ _) dL_refuses_928 (by decide) ?_
                                      refine J_iload_n (o _ _) dL_refuses_931 rfl ?_
                                      refine J_iadd (o _ _) dL_refuses_932 ?_
                                      exact t_L_refuses_933 k r_x2 r_x4 r_x7 r_x9 r_x9 (R_wr _) hf hc
                                    · have hf := ite_f c90 hf
                                      refine J_bipush (o _ _) dL_refuses_921 (by decide) ?_
                                      refine J_iload_n (o _ _) dL_refuses_923 rfl ?_
                                      refine J_isub (o _ _) dL_refuses_924 ?_
                                      refine J_goto 933 (o _ _) dL_refuses_925 (by decide) ?_
                                      exact t_L_refuses_933 k r_x2 r_x4 r_x7 r_x9 r_x9 (R_wr _) hf hc
noncomputable def f_L_refuses_614 (z : ZQ) (m0 : Bool) (x2 : Int) (x3 : Int) (x4 : Int) (x7 : Int) (x8 : Int) (x9 : Int) (s0 : Int) : Option (ZQ × Int) :=
  if s0 = 0 then (f_L_refuses_996 z m0 x2 x9) else (bnd (f_L_holds z m0 x4 0 0 0) fun v3 => if v3.2 = (-2000000001) then (bnd (f_L_holds v3.1 m0 x9 x8 0 0) fun v8 => if v8.2 = 0 then (bnd (f_L_holdsAt v8.1 m0 x4 0 0 0 9) fun v13 => if v13.2 = (-2000000001) then (if x3 = 0 then (f_L_refuses_683 v13.1 m0 x2 x3 x4 x7 x8 x9 x9 0 0 0 (wr (4 + x2))) else (f_L_refuses_683 v13.1 m0 x2 x3 x4 x7 x8 x9 x9 0 0 0 (wr ((-1) - x2)))) else (f_L_refuses_996 v13.1 m0 x2 x9)) else (f_L_refuses_996 v8.1 m0 x2 x9)) else (f_L_refuses_996 v3.1 m0 x2 x9))
set_option maxRecDepth 100000 in
theorem t_L_refuses_614 {X : QX} {K : KT} {H0 : Heap} (k : KofQ X K H0 cL_refuses "DatalogmillLaw" rm_L_refuses 62) {z : ZQ} {m0 : Bool} {x2 : Int} {x3 : Int} {x4 : Int} {x7 : Int} {x8 : Int} {x9 : Int} {s0 : Int} {o5 o6 o10 o11 : Option Value} (r_x2 : R32 x2) (r_x3 : R32 x3) (r_x4 : R32 x4) (r_x7 : R32 x7) (r_x8 : R32 x8) (r_x9 : R32 x9) (r_s0 : R32 s0) {out : (ZQ × Int)} (hf : f_L_refuses_614 z m0 x2 x3 x4 x7 x8 x9 s0 = some out) (hc : (fun out : (ZQ × Int) => RetQZ X K H0 cL_refuses 62 out.1 out.2) out) : Jj (kAdd K 30 (6 * 30)) (WdQ X H0) z 614 [some (rf (X.M m0).ad 1), some (.ref X.oa), some (.int (ii x2)), some (.int (ii x3)), some (.int (ii x4)), o5, o6, some (.int (ii x7)), some (.int (ii x8)), some (.int (ii x9)), o10, o11] [.int (ii s0)] := by
  unfold f_L_refuses_614 at hf
  have o : ∀ a b, Ok (kAdd K a b) cL_refuses "DatalogmillLaw" rm_L_refuses := fun _ _ => OkQ.add k.1
  have g : ∀ a b, GdQ X (kAdd K a b) H0 := fun _ _ => GdQ.add k.2.1
  refine J_istore (o _ _) dL_refuses_614 (Nat.le_of_ble_eq_true rfl) ?_
  refine J_iload (o _ _) dL_refuses_616 rfl ?_
  refine J_if_eq 996 (o _ _) dL_refuses_618 (by decide) r_s0 (fun c1 => ?_) (fun c2 => ?_)
  · have hf := ite_t c1 hf
    refine J_wid (t := 30) (u := 56) (Nat.le_of_ble_eq_true rfl) ?_
    exact t_L_refuses_996 k r_x2 r_x9 hf hc
  · have hf := ite_f c2 hf
    refine J_aload_n (o _ _) dL_refuses_621 rfl ?_
    refine J_iload (o _ _) dL_refuses_622 rfl ?_
    refine J_iconst (o _ _) dL_refuses_624 ?_
    refine J_iconst (o _ _) dL_refuses_625 ?_
    refine J_iconst (o _ _) dL_refuses_626 ?_
    obtain ⟨v3, e4, hf⟩ := bnd_some hf
    refine J_qW (np := 5) k.1 k.2.1 k.2.2.1 (Nat.le_of_ble_eq_true rfl) dL_refuses_627 mw990 mw992 mw991 mw111 ⟨by decide +kernel, by decide +kernel, by decide +kernel⟩ ⟨rfl, rfl, Nat.le_of_ble_eq_true rfl, Nat.le_of_ble_eq_true rfl⟩ (c_L_holds k.2.2.2 k.2.1.2.1 r_x4 rl0 rl0 rl0 e4) rfl rfl c1s_0 (fun q5 => ?_)
    refine J_tt (u := 31) rfl ?_
    refine J_ldc (o _ _) dL_refuses_630 kcL_15 ?_
    refine J_icmp_ne 996 (o _ _) dL_refuses_632 (by decide) q5 rlm2000000001 (fun c6 => ?_) (fun c7 => ?_)
    · have hf := ite_f c6 hf
      refine J_wid (t := 31) (u := 56) (Nat.le_of_ble_eq_true rfl) ?_
      exact t_L_refuses_996 k r_x2 r_x9 hf hc
    · have hf := ite_t c7 hf
      refine J_aload_n (o _ _) dL_refuses_635 rfl ?_
      refine J_iload (o _ _) dL_refuses_636 rfl ?_
      refine J_iload (o _ _) dL_refuses_638 rfl ?_
      refine J_iconst (o _ _) dL_refuses_640 ?_
      refine J_iconst (o _ _) dL_refuses_641 ?_
      obtain ⟨v8, e9, hf⟩ := bnd_some hf
      refine J_qW (np := 5) k.1 k.2.1 k.2.2.1 (Nat.le_of_ble_eq_true rfl) dL_refuses_642 mw990 mw992 mw991 mw111 ⟨by decide +kernel, by decide +kernel, by decide +kernel⟩ ⟨rfl, rfl, Nat.le_of_ble_eq_true rfl, Nat.le_of_ble_eq_true rfl⟩ (c_L_holds k.2.2.2 k.2.1.2.1 r_x9 r_x8 rl0 rl0 e9) rfl rfl c1s_0 (fun q10 => ?_)
      refine J_tt (u := 32) rfl ?_
      refine J_if_ne 996 (o _ _) dL_refuses_645 (by decide) q10 (fun c11 => ?_) (fun c12 => ?_)
      · have hf := ite_f c11 hf
        refine J_wid (t := 32) (u := 56) (Nat.le_of_ble_eq_true rfl) ?_
        exact t_L_refuses_996 k r_x2 r_x9 hf hc
      · have hf := ite_t c12 hf
        refine J_aload_n (o _ _) dL_refuses_648 rfl ?_
        refine J_iload (o _ _) dL_refuses_649 rfl ?_
        refine J_iconst (o _ _) dL_refuses_651 ?_
        refine J_iconst (o _ _) dL_refuses_652 ?_
        refine J_iconst (o _ _) dL_refuses_653 ?_
        refine J_bipush (o _ _) dL_refuses_654 (by decide) ?_
        obtain ⟨v13, e14, hf⟩ := bnd_some hf
        refine J_qW (np := 6) k.1 k.2.1 k.2.2.1 (Nat.le_of_ble_eq_true rfl) dL_refuses_656 mw1009 mw1011 mw1010 mw111 ⟨by decide +kernel, by decide +kernel, by decide +kernel⟩ ⟨rfl, rfl, Nat.le_of_ble_eq_true rfl, Nat.le_of_ble_eq_true rfl⟩ (c_L_holdsAt k.2.2.2 k.2.1.2.1 r_x4 rl0 rl0 rl0 rl9 e14) rfl rfl c1s_0 (fun q15 => ?_)
        refine J_tt (u := 33) rfl ?_
        refine J_ldc (o _ _) dL_refuses_659 kcL_15 ?_
        refine J_icmp_ne 996 (o _ _) dL_refuses_661 (by decide) q15 rlm2000000001 (fun c16 => ?_) (fun c17 => ?_)
        · have hf := ite_f c16 hf
          refine J_wid (t := 33) (u := 56) (Nat.le_of_ble_eq_true rfl) ?_
          exact t_L_refuses_996 k r_x2 r_x9 hf hc
        · have hf := ite_t c17 hf
          refine J_aload_n (o _ _) dL_refuses_664 rfl ?_
          refine J_iload (o _ _) dL_refuses_665 rfl ?_
          refine J_iconst (o _ _) dL_refuses_667 ?_
          refine J_iconst (o _ _) dL_refuses_668 ?_
          refine J_iconst (o _ _) dL_refuses_669 ?_
          refine J_iload_n (o _ _) dL_refuses_670 rfl ?_
          refine J_if_eq 680 (o _ _) dL_refuses_671 (by decide) r_x3 (fun c18 => ?_) (fun c19 => ?_)
          · have hf := ite_t c18 hf
            refine J_iconst (o _ _) dL_refuses_680 ?_
            refine J_iload_n (o _ _) dL_refuses_681 rfl ?_
            refine J_iadd (o _ _) dL_refuses_682 ?_
            exact t_L_refuses_683 k r_x2 r_x3 r_x4 r_x7 r_x8 r_x9 r_x9 rl0 rl0 rl0 (R_wr _) hf hc
          · have hf := ite_f c19 hf
            refine J_iconst (o _ _) dL_refuses_674 ?_
            refine J_iload_n (o _ _) dL_refuses_675 rfl ?_
            refine J_isub (o _ _) dL_refuses_676 ?_
            refine J_goto 683 (o _ _) dL_refuses_677 (by decide) ?_
            exact t_L_refuses_683 k r_x2 r_x3 r_x4 r_x7 r_x8 r_x9 r_x9 rl0 rl0 rl0 (R_wr _) hf hc
noncomputable def f_L_refuses_613 (z : ZQ) (m0 : Bool) (x2 : Int) (x3 : Int) (x4 : Int) (x7 : Int) (x8 : Int) (x9 : Int) : Option (ZQ × Int) :=
  f_L_refuses_614 z m0 x2 x3 x4 x7 x8 x9 0
set_option maxRecDepth 100000 in
theorem t_L_refuses_613 {X : QX} {K : KT} {H0 : Heap} (k : KofQ X K H0 cL_refuses "DatalogmillLaw" rm_L_refuses 62) {z : ZQ} {m0 : Bool} {x2 : Int} {x3 : Int} {x4 : Int} {x7 : Int} {x8 : Int} {x9 : Int} {o5 o6 o10 o11 : Option Value} (r_x2 : R32 x2) (r_x3 : R32 x3) (r_x4 : R32 x4) (r_x7 : R32 x7) (r_x8 : R32 x8) (r_x9 : R32 x9) {out : (ZQ × Int)} (hf : f_L_refuses_613 z m0 x2 x3 x4 x7 x8 x9 = some out) (hc : (fun out : (ZQ × Int) => RetQZ X K H0 cL_refuses 62 out.1 out.2) out) : Jj (kAdd K 30 (6 * 30)) (WdQ X H0) z 613 [some (rf (X.M m0).ad 1), some (.ref X.oa), some (.int (ii x2)), some (.int (ii x3)), some (.int (ii x4)), o5, o6, some (.int (ii x7)), some (.int (ii x8)), some (.int (ii x9)), o10, o11] [] := by
  unfold f_L_refuses_613 at hf
  have o : ∀ a b, Ok (kAdd K a b) cL_refuses "DatalogmillLaw" rm_L_refuses := fun _ _ => OkQ.add k.1
  have g : ∀ a b, GdQ X (kAdd K a b) H0 := fun _ _ => GdQ.add k.2.1
  refine J_iconst (o _ _) dL_refuses_613 ?_
  exact t_L_refuses_614 k r_x2 r_x3 r_x4 r_x7 r_x8 r_x9 rl0 hf hc
noncomputable def f_L_refuses_609 (z : ZQ) (m0 : Bool) (x2 : Int) (x3 : Int) (x4 : Int) (x7 : Int) (x8 : Int) (x9 : Int) : Option (ZQ × Int) :=
  f_L_refuses_614 z m0 x2 x3 x4 x7 x8 x9 1
set_option maxRecDepth 100000 in
theorem t_L_refuses_609 {X : QX} {K : KT} {H0 : Heap} (k : KofQ X K H0 cL_refuses "DatalogmillLaw" rm_L_refuses 62) {z : ZQ} {m0 : Bool} {x2 : Int} {x3 : Int} {x4 : Int} {x7 : Int} {x8 : Int} {x9 : Int} {o5 o6 o10 o11 : Option Value} (r_x2 : R32 x2) (r_x3 : R32 x3) (r_x4 : R32 x4) (r_x7 : R32 x7) (r_x8 : R32 x8) (r_x9 : R32 x9) {out : (ZQ × Int)} (hf : f_L_refuses_609 z m0 x2 x3 x4 x7 x8 x9 = some out) (hc : (fun out : (ZQ × Int) => RetQZ X K H0 cL_refuses 62 out.1 out.2) out) : Jj (kAdd K 30 (6 * 30)) (WdQ X H0) z 609 [some (rf (X.M m0).ad 1), some (.ref X.oa), some (.int (ii x2)), some (.int (ii x3)), some (.int (ii x4)), o5, o6, some (.int (ii x7)), some (.int (ii x8)), some (.int (ii x9)), o10, o11] [] := by
  unfold f_L_refuses_609 at hf
  have o : ∀ a b, Ok (kAdd K a b) cL_refuses "DatalogmillLaw" rm_L_refuses := fun _ _ => OkQ.add k.1
  have g : ∀ a b, GdQ X (kAdd K a b) H0 := fun _ _ => GdQ.add k.2.1
  refine J_iconst (o _ _) dL_refuses_609 ?_
  refine J_goto 614 (o _ _) dL_refuses_610 (by decide) ?_
  exact t_L_refuses_614 k r_x2 r_x3 r_x4 r_x7 r_x8 r_x9 rl1 hf hc
noncomputable def f_L_refuses_585 (z : ZQ) (m0 : Bool) (x2 : Int) (x3 : Int) (x4 : Int) (x7 : Int) (x8 : Int) (x9 : Int) : Option (ZQ × Int) :=
  if (z.2.2 0) < 24 then (f_L_refuses_609 z m0 x2 x3 x4 x7 x8 x9) else (bnd (f_L_facts z m0 2 1 0 0 1 0 0) fun v4 => if v4.2 = (-2000000003) then (f_L_refuses_609 v4.1 m0 x2 x3 x4 x7 x8 x9) else (f_L_refuses_613 v4.1 m0 x2 x3 x4 x7 x8 x9))
set_option maxRecDepth 100000 in
theorem t_L_refuses_585 {X : QX} {K : KT} {H0 : Heap} (k : KofQ X K H0 cL_refuses "DatalogmillLaw" rm_L_refuses 62) {z : ZQ} {m0 : Bool} {x2 : Int} {x3 : Int} {x4 : Int} {x7 : Int} {x8 : Int} {x9 : Int} {o5 o6 o10 o11 : Option Value} (r_x2 : R32 x2) (r_x3 : R32 x3) (r_x4 : R32 x4) (r_x7 : R32 x7) (r_x8 : R32 x8) (r_x9 : R32 x9) {out : (ZQ × Int)} (hf : f_L_refuses_585 z m0 x2 x3 x4 x7 x8 x9 = some out) (hc : (fun out : (ZQ × Int) => RetQZ X K H0 cL_refuses 62 out.1 out.2) out) : Jj (kAdd K 29 (6 * 29)) (WdQ X H0) z 585 [some (rf (X.M m0).ad 1), some (.ref X.oa), some (.int (ii x2)), some (.int (ii x3)), some (.int (ii x4)), o5, o6, some (.int (ii x7)), some (.int (ii x8)), some (.int (ii x9)), o10, o11] [] := by
  unfold f_L_refuses_585 at hf
  have o : ∀ a b, Ok (kAdd K a b) cL_refuses "DatalogmillLaw" rm_L_refuses := fun _ _ => OkQ.add k.1
  have g : ∀ a b, GdQ X (kAdd K a b) H0 := fun _ _ => GdQ.add k.2.1
  refine J_aldO_n (o _ _) dL_refuses_585 rfl ?_
  refine J_iconst (o _ _) dL_refuses_586 ?_
  refine J_nld (o _ _) (g _ _) dL_refuses_587 rl0 ⟨by decide, by decide⟩ (fun q1 => ?_)
  refine J_bipush (o _ _) dL_refuses_588 (by decide) ?_
  refine J_icmp_lt 609 (o _ _) dL_refuses_590 (by decide) q1 rl24 (fun c2 => ?_) (fun c3 => ?_)
  · have hf := ite_t c2 hf
    refine J_wid (t := 29) (u := 30) (Nat.le_of_ble_eq_true rfl) ?_
    exact t_L_refuses_609 k r_x2 r_x3 r_x4 r_x7 r_x8 r_x9 hf hc
  · have hf := ite_f c3 hf
    refine J_aload_n (o _ _) dL_refuses_593 rfl ?_
    refine J_iconst (o _ _) dL_refuses_594 ?_
    refine J_iconst (o _ _) dL_refuses_595 ?_
    refine J_iconst (o _ _) dL_refuses_596 ?_
    refine J_iconst (o _ _) dL_refuses_597 ?_
    refine J_iconst (o _ _) dL_refuses_598 ?_
    refine J_iconst (o _ _) dL_refuses_599 ?_
    refine J_iconst (o _ _) dL_refuses_600 ?_
    obtain ⟨v4, e5, hf⟩ := bnd_some hf
    refine J_qW (np := 8) k.1 k.2.1 k.2.2.1 (Nat.le_of_ble_eq_true rfl) dL_refuses_601 mw580 mw582 mw581 mw111 ⟨by decide +kernel, by decide +kernel, by decide +kernel⟩ ⟨rfl, rfl, Nat.le_of_ble_eq_true rfl, Nat.le_of_ble_eq_true rfl⟩ (c_L_facts k.2.2.2 k.2.1.2.1 rl2 rl1 rl0 rl0 rl1 rl0 rl0 e5) rfl rfl c1s_0 (fun q6 => ?_)
    refine J_tt (u := 30) rfl ?_
    refine J_ldc (o _ _) dL_refuses_604 kcL_21 ?_
    refine J_icmp_ne 613 (o _ _) dL_refuses_606 (by decide) q6 rlm2000000003 (fun c7 => ?_) (fun c8 => ?_)
    · have hf := ite_f c7 hf
      exact t_L_refuses_613 k r_x2 r_x3 r_x4 r_x7 r_x8 r_x9 hf hc
    · have hf := ite_t c8 hf
      exact t_L_refuses_609 k r_x2 r_x3 r_x4 r_x7 r_x8 r_x9 hf hc
noncomputable def f_L_refuses_569 (z : ZQ) (m0 : Bool) (x2 : Int) (x3 : Int) (x4 : Int) (x7 : Int) (x8 : Int) (x9 : Int) : Option (ZQ × Int) :=
  if (z.2.2 5) < 3 then (f_L_refuses_585 z m0 x2 x3 x4 x7 x8 x9) else (bnd (f_L_passes z m0) fun v4 => if v4.2 = (-2000000003) then (f_L_refuses_585 v4.1 m0 x2 x3 x4 x7 x8 x9) else (f_L_refuses_613 v4.1 m0 x2 x3 x4 x7 x8 x9))
set_option maxRecDepth 100000 in
theorem t_L_refuses_569 {X : QX} {K : KT} {H0 : Heap} (k : KofQ X K H0 cL_refuses "DatalogmillLaw" rm_L_refuses 62) {z : ZQ} {m0 : Bool} {x2 : Int} {x3 : Int} {x4 : Int} {x7 : Int} {x8 : Int} {x9 : Int} {o5 o6 o10 o11 : Option Value} (r_x2 : R32 x2) (r_x3 : R32 x3) (r_x4 : R32 x4) (r_x7 : R32 x7) (r_x8 : R32 x8) (r_x9 : R32 x9) {out : (ZQ × Int)} (hf : f_L_refuses_569 z m0 x2 x3 x4 x7 x8 x9 = some out) (hc : (fun out : (ZQ × Int) => RetQZ X K H0 cL_refuses 62 out.1 out.2) out) : Jj (kAdd K 28 (6 * 28)) (WdQ X H0) z 569 [some (rf (X.M m0).ad 1), some (.ref X.oa), some (.int (ii x2)), some (.int (ii x3)), some (.int (ii x4)), o5, o6, some (.int (ii x7)), some (.int (ii x8)), some (.int (ii x9)), o10, o11] [] := by
  unfold f_L_refuses_569 at hf
  have o : ∀ a b, Ok (kAdd K a b) cL_refuses "DatalogmillLaw" rm_L_refuses := fun _ _ => OkQ.add k.1
  have g : ∀ a b, GdQ X (kAdd K a b) H0 := fun _ _ => GdQ.add k.2.1
  refine J_aldO_n (o _ _) dL_refuses_569 rfl ?_
  refine J_iconst (o _ _) dL_refuses_570 ?_
  refine J_nld (o _ _) (g _ _) dL_refuses_571 rl5 ⟨by decide, by decide⟩ (fun q1 => ?_)
  refine J_iconst (o _ _) dL_refuses_572 ?_
  refine J_icmp_lt 585 (o _ _) dL_refuses_573 (by decide) q1 rl3 (fun c2 => ?_) (fun c3 => ?_)
  · have hf := ite_t c2 hf
    refine J_wid (t := 28) (u := 29) (Nat.le_of_ble_eq_true rfl) ?_
    exact t_L_refuses_585 k r_x2 r_x3 r_x4 r_x7 r_x8 r_x9 hf hc
  · have hf := ite_f c3 hf
    refine J_aload_n (o _ _) dL_refuses_576 rfl ?_
    obtain ⟨v4, e5, hf⟩ := bnd_some hf
    refine J_qW (np := 1) k.1 k.2.1 k.2.2.1 (Nat.le_of_ble_eq_true rfl) dL_refuses_577 mw982 mw984 mw983 mw111 ⟨by decide +kernel, by decide +kernel, by decide +kernel⟩ ⟨rfl, rfl, Nat.le_of_ble_eq_true rfl, Nat.le_of_ble_eq_true rfl⟩ (c_L_passes k.2.2.2 k.2.1.2.1  e5) rfl rfl c1s_0 (fun q6 => ?_)
    refine J_tt (u := 29) rfl ?_
    refine J_ldc (o _ _) dL_refuses_580 kcL_21 ?_
    refine J_icmp_ne 613 (o _ _) dL_refuses_582 (by decide) q6 rlm2000000003 (fun c7 => ?_) (fun c8 => ?_)
    · have hf := ite_f c7 hf
      refine J_wid (t := 29) (u := 30) (Nat.le_of_ble_eq_true rfl) ?_
      exact t_L_refuses_613 k r_x2 r_x3 r_x4 r_x7 r_x8 r_x9 hf hc
    · have hf := ite_t c8 hf
      exact t_L_refuses_585 k r_x2 r_x3 r_x4 r_x7 r_x8 r_x9 hf hc
noncomputable def f_L_refuses_554 (z : ZQ) (m0 : Bool) (x2 : Int) (x3 : Int) (x4 : Int) (x7 : Int) (x8 : Int) (x9 : Int) : Option (ZQ × Int) :=
  if 0 < (z.2.2 3) then (f_L_refuses_569 z m0 x2 x3 x4 x7 x8 x9) else (bnd (f_L_denies z m0) fun v4 => if v4.2 = (-2000000002) then (f_L_refuses_569 v4.1 m0 x2 x3 x4 x7 x8 x9) else (f_L_refuses_613 v4.1 m0 x2 x3 x4 x7 x8 x9))
set_option maxRecDepth 100000 in
theorem t_L_refuses_554 {X : QX} {K : KT} {H0 : Heap} (k : KofQ X K H0 cL_refuses "DatalogmillLaw" rm_L_refuses 62) {z : ZQ} {m0 : Bool} {x2 : Int} {x3 : Int} {x4 : Int} {x7 : Int} {x8 : Int} {x9 : Int} {o5 o6 o10 o11 : Option Value} (r_x2 : R32 x2) (r_x3 : R32 x3) (r_x4 : R32 x4) (r_x7 : R32 x7) (r_x8 : R32 x8) (r_x9 : R32 x9) {out : (ZQ × Int)} (hf : f_L_refuses_554 z m0 x2 x3 x4 x7 x8 x9 = some out) (hc : (fun out : (ZQ × Int) => RetQZ X K H0 cL_refuses 62 out.1 out.2) out) : Jj (kAdd K 27 (6 * 27)) (WdQ X H0) z 554 [some (rf (X.M m0).ad 1), some (.ref X.oa), some (.int (ii x2)), some (.int (ii x3)), some (.int (ii x4)), o5, o6, some (.int (ii x7)), some (.int (ii x8)), some (.int (ii x9)), o10, o11] [] := by
  unfold f_L_refuses_554 at hf
  have o : ∀ a b, Ok (kAdd K a b) cL_refuses "DatalogmillLaw" rm_L_refuses := fun _ _ => OkQ.add k.1
  have g : ∀ a b, GdQ X (kAdd K a b) H0 := fun _ _ => GdQ.add k.2.1
  refine J_aldO_n (o _ _) dL_refuses_554 rfl ?_
  refine J_iconst (o _ _) dL_refuses_555 ?_
  refine J_nld (o _ _) (g _ _) dL_refuses_556 rl3 ⟨by decide, by decide⟩ (fun q1 => ?_)
  refine J_if_gt 569 (o _ _) dL_refuses_557 (by decide) q1 (fun c2 => ?_) (fun c3 => ?_)
  · have hf := ite_t c2 hf
    refine J_wid (t := 27) (u := 28) (Nat.le_of_ble_eq_true rfl) ?_
    exact t_L_refuses_569 k r_x2 r_x3 r_x4 r_x7 r_x8 r_x9 hf hc
  · have hf := ite_f c3 hf
    refine J_aload_n (o _ _) dL_refuses_560 rfl ?_
    obtain ⟨v4, e5, hf⟩ := bnd_some hf
    refine J_qW (np := 1) k.1 k.2.1 k.2.2.1 (Nat.le_of_ble_eq_true rfl) dL_refuses_561 mw944 mw946 mw945 mw111 ⟨by decide +kernel, by decide +kernel, by decide +kernel⟩ ⟨rfl, rfl, Nat.le_of_ble_eq_true rfl, Nat.le_of_ble_eq_true rfl⟩ (c_L_denies k.2.2.2 k.2.1.2.1  e5) rfl rfl c1s_0 (fun q6 => ?_)
    refine J_tt (u := 28) rfl ?_
    refine J_ldc (o _ _) dL_refuses_564 kcL_18 ?_
    refine J_icmp_ne 613 (o _ _) dL_refuses_566 (by decide) q6 rlm2000000002 (fun c7 => ?_) (fun c8 => ?_)
    · have hf := ite_f c7 hf
      refine J_wid (t := 28) (u := 30) (Nat.le_of_ble_eq_true rfl) ?_
      exact t_L_refuses_613 k r_x2 r_x3 r_x4 r_x7 r_x8 r_x9 hf hc
    · have hf := ite_t c8 hf
      exact t_L_refuses_569 k r_x2 r_x3 r_x4 r_x7 r_x8 r_x9 hf hc
noncomputable def f_L_refuses_533 (z : ZQ) (m0 : Bool) (x2 : Int) (x3 : Int) (x4 : Int) (x7 : Int) (x8 : Int) (x9 : Int) : Option (ZQ × Int) :=
  if (z.2.2 4) < 3 then (f_L_refuses_554 z m0 x2 x3 x4 x7 x8 x9) else (bnd (f_L_atoms z m0 2 1 0 0 0) fun v4 => if v4.2 = (-2000000003) then (f_L_refuses_554 v4.1 m0 x2 x3 x4 x7 x8 x9) else (f_L_refuses_613 v4.1 m0 x2 x3 x4 x7 x8 x9))
set_option maxRecDepth 100000 in
theorem t_L_refuses_533 {X : QX} {K : KT} {H0 : Heap} (k : KofQ X K H0 cL_refuses "DatalogmillLaw" rm_L_refuses 62) {z : ZQ} {m0 : Bool} {x2 : Int} {x3 : Int} {x4 : Int} {x7 : Int} {x8 : Int} {x9 : Int} {o5 o6 o10 o11 : Option Value} (r_x2 : R32 x2) (r_x3 : R32 x3) (r_x4 : R32 x4) (r_x7 : R32 x7) (r_x8 : R32 x8) (r_x9 : R32 x9) {out : (ZQ × Int)} (hf : f_L_refuses_533 z m0 x2 x3 x4 x7 x8 x9 = some out) (hc : (fun out : (ZQ × Int) => RetQZ X K H0 cL_refuses 62 out.1 out.2) out) : Jj (kAdd K 26 (6 * 26)) (WdQ X H0) z 533 [some (rf (X.M m0).ad 1), some (.ref X.oa), some (.int (ii x2)), some (.int (ii x3)), some (.int (ii x4)), o5, o6, some (.int (ii x7)), some (.int (ii x8)), some (.int (ii x9)), o10, o11] [] := by
  unfold f_L_refuses_533 at hf
  have o : ∀ a b, Ok (kAdd K a b) cL_refuses "DatalogmillLaw" rm_L_refuses := fun _ _ => OkQ.add k.1
  have g : ∀ a b, GdQ X (kAdd K a b) H0 := fun _ _ => GdQ.add k.2.1
  refine J_aldO_n (o _ _) dL_refuses_533 rfl ?_
  refine J_iconst (o _ _) dL_refuses_534 ?_
  refine J_nld (o _ _) (g _ _) dL_refuses_535 rl4 ⟨by decide, by decide⟩ (fun q1 => ?_)
  refine J_iconst (o _ _) dL_refuses_536 ?_
  refine J_icmp_lt 554 (o _ _) dL_refuses_537 (by decide) q1 rl3 (fun c2 => ?_) (fun c3 => ?_)
  · have hf := ite_t c2 hf
    refine J_wid (t := 26) (u := 27) (Nat.le_of_ble_eq_true rfl) ?_
    exact t_L_refuses_554 k r_x2 r_x3 r_x4 r_x7 r_x8 r_x9 hf hc
  · have hf := ite_f c3 hf
    refine J_aload_n (o _ _) dL_refuses_540 rfl ?_
    refine J_iconst (o _ _) dL_refuses_541 ?_
    refine J_iconst (o _ _) dL_refuses_542 ?_
    refine J_iconst (o _ _) dL_refuses_543 ?_
    refine J_iconst (o _ _) dL_refuses_544 ?_
    refine J_iconst (o _ _) dL_refuses_545 ?_
    obtain ⟨v4, e5, hf⟩ := bnd_some hf
    refine J_qW (np := 6) k.1 k.2.1 k.2.2.1 (Nat.le_of_ble_eq_true rfl) dL_refuses_546 mw856 mw858 mw857 mw111 ⟨by decide +kernel, by decide +kernel, by decide +kernel⟩ ⟨rfl, rfl, Nat.le_of_ble_eq_true rfl, Nat.le_of_ble_eq_true rfl⟩ (c_L_atoms k.2.2.2 k.2.1.2.1 rl2 rl1 rl0 rl0 rl0 e5) rfl rfl c1s_0 (fun q6 => ?_)
    refine J_tt (u := 27) rfl ?_
    refine J_ldc (o _ _) dL_refuses_549 kcL_21 ?_
    refine J_icmp_ne 613 (o _ _) dL_refuses_551 (by decide) q6 rlm2000000003 (fun c7 => ?_) (fun c8 => ?_)
    · have hf := ite_f c7 hf
      refine J_wid (t := 27) (u := 30) (Nat.le_of_ble_eq_true rfl) ?_
      exact t_L_refuses_613 k r_x2 r_x3 r_x4 r_x7 r_x8 r_x9 hf hc
    · have hf := ite_t c8 hf
      exact t_L_refuses_554 k r_x2 r_x3 r_x4 r_x7 r_x8 r_x9 hf hc
noncomputable def f_L_refuses_117 (z : ZQ) (m0 : Bool) (x2 : Int) (x3 : Int) (x4 : Int) (x5 : Int) (x6 : Int) (x7 : Int) (s0 : Int) : Option (ZQ × Int) :=
  bl (irem (idiv x2 2) 2) fun n1 => bnd (f_L_declares z m0 x5 1 0 1) fun v2 => if v2.2 = (-2000000001) then (bnd (f_L_declares v2.1 m0 9 1 (wr (4 + x2)) 1) fun v7 => if v7.2 = (-2000000001) then (bnd (f_L_declares v7.1 m0 9 (wr (4 + x2)) 0 1) fun v12 => if v12.2 = (-2000000002) then (bnd (f_L_declares v12.1 m0 9 2 0 (wr (3 + x2))) fun v17 => if v17.2 = (-2000000002) then (bnd (f_L_declares v17.1 m0 9 2 1 2) fun v22 => if v22.2 = (-2000000002) then (bnd (f_L_declares v22.1 m0 (irem x2 6) 1 0 1) fun v27 => if v27.2 = (-2000000003) then (bnd (f_L_facts v27.1 m0 x4 0 0 0 0 0 0) fun v32 => if v32.2 = (-2000000001) then (bnd (f_L_facts v32.1 m0 n1 s0 0 0 1 0 0) fun v37 => if v37.2 = (-2000000002) then (bnd (f_L_facts v37.1 m0 n1 0 0 (wr (1 + (irem x2 100))) 1 0 0) fun v42 => if v42.2 = (-2000000002) then (bnd (f_L_facts v42.1 m0 n1 0 0 0 (wr (101 + x2)) 0 0) fun v47 => if v47.2 = (-2000000002) then (bnd (f_L_facts v47.1 m0 n1 0 0 0 (wr (-x2)) 0 0) fun v52 => if v52.2 = (-2000000002) then (bnd (f_L_facts v52.1 m0 n1 0 0 0 1 (wr (4 + x2)) (wr (4 + x2))) fun v57 => if v57.2 = (-2000000002) then (bnd (f_L_facts v57.1 m0 n1 0 0 0 1 2 1) fun v62 => if v62.2 = (-2000000002) then (bnd (f_L_drops v62.1 m0 x6) fun v67 => if v67.2 = (-2000000001) then (bnd (f_L_heads v67.1 m0 x4 0 0 0) fun v72 => if v72.2 = (-2000000001) then (bnd (f_L_heads v72.1 m0 n1 s0 0 0) fun v77 => if v77.2 = (-2000000002) then (bnd (f_L_heads v77.1 m0 2 (-1) 1 0) fun v82 => if v82.2 = (-2000000002) then (bnd (f_L_atoms v82.1 m0 x4 1 0 0 0) fun v87 => if v87.2 = (-2000000001) then (bnd (f_L_atoms v87.1 m0 n1 1 0 s0 0) fun v92 => if v92.2 = (-2000000002) then (bnd (f_L_compares v92.1 m0 (wr (4 + x2)) 0 0) fun v97 => if v97.2 = (-2000000001) then (bnd (f_L_compares v97.1 m0 (irem x2 4) s0 0) fun v102 => if v102.2 = (-2000000002) then (bnd (f_L_adds v102.1 m0 0 s0 0) fun v107 => if v107.2 = (-2000000002) then (bnd (f_L_removes v107.1 m0 x7) fun v112 => if v112.2 = (-2000000001) then (if (v112.1.2.2 3) < 5 then (f_L_refuses_533 v112.1 m0 x2 x3 x4 x7 s0 n1) else (bnd (f_L_compares v112.1 m0 0 0 0) fun v120 => if v120.2 = (-2000000003) then (bnd (f_L_adds v120.1 m0 0 0 0) fun v125 => if v125.2 = (-2000000003) then (bnd (f_L_atoms v125.1 m0 2 0 0 0 0) fun v130 => if v130.2 = (-2000000003) then (f_L_refuses_533 v130.1 m0 x2 x3 x4 x7 s0 n1) else (f_L_refuses_613 v130.1 m0 x2 x3 x4 x7 s0 n1)) else (f_L_refuses_613 v125.1 m0 x2 x3 x4 x7 s0 n1)) else (f_L_refuses_613 v120.1 m0 x2 x3 x4 x7 s0 n1))) else (f_L_refuses_613 v112.1 m0 x2 x3 x4 x7 s0 n1)) else (f_L_refuses_613 v107.1 m0 x2 x3 x4 x7 s0 n1)) else (f_L_refuses_613 v102.1 m0 x2 x3 x4 x7 s0 n1)) else (f_L_refuses_613 v97.1 m0 x2 x3 x4 x7 s0 n1)) else (f_L_refuses_613 v92.1 m0 x2 x3 x4 x7 s0 n1)) else (f_L_refuses_613 v87.1 m0 x2 x3 x4 x7 s0 n1)) else (f_L_refuses_613 v82.1 m0 x2 x3 x4 x7 s0 n1)) else (f_L_refuses_613 v77.1 m0 x2 x3 x4 x7 s0 n1)) else (f_L_refuses_613 v72.1 m0 x2 x3 x4 x7 s0 n1)) else (f_L_refuses_613 v67.1 m0 x2 x3 x4 x7 s0 n1)) else (f_L_refuses_613 v62.1 m0 x2 x3 x4 x7 s0 n1)) else (f_L_refuses_613 v57.1 m0 x2 x3 x4 x7 s0 n1)) else (f_L_refuses_613 v52.1 m0 x2 x3 x4 x7 s0 n1)) else (f_L_refuses_613 v47.1 m0 x2 x3 x4 x7 s0 n1)) else (f_L_refuses_613 v42.1 m0 x2 x3 x4 x7 s0 n1)) else (f_L_refuses_613 v37.1 m0 x2 x3 x4 x7 s0 n1)) else (f_L_refuses_613 v32.1 m0 x2 x3 x4 x7 s0 n1)) else (f_L_refuses_613 v27.1 m0 x2 x3 x4 x7 s0 n1)) else (f_L_refuses_613 v22.1 m0 x2 x3 x4 x7 s0 n1)) else (f_L_refuses_613 v17.1 m0 x2 x3 x4 x7 s0 n1)) else (f_L_refuses_613 v12.1 m0 x2 x3 x4 x7 s0 n1)) else (f_L_refuses_613 v7.1 m0 x2 x3 x4 x7 s0 n1)) else (f_L_refuses_613 v2.1 m0 x2 x3 x4 x7 s0 n1)
set_option maxRecDepth 100000 in
theorem t_L_refuses_117 {X : QX} {K : KT} {H0 : Heap} (k : KofQ X K H0 cL_refuses "DatalogmillLaw" rm_L_refuses 62) {z : ZQ} {m0 : Bool} {x2 : Int} {x3 : Int} {x4 : Int} {x5 : Int} {x6 : Int} {x7 : Int} {s0 : Int} {o8 o9 o10 o11 : Option Value} (r_x2 : R32 x2) (r_x3 : R32 x3) (r_x4 : R32 x4) (r_x5 : R32 x5) (r_x6 : R32 x6) (r_x7 : R32 x7) (r_s0 : R32 s0) {out : (ZQ × Int)} (hf : f_L_refuses_117 z m0 x2 x3 x4 x5 x6 x7 s0 = some out) (hc : (fun out : (ZQ × Int) => RetQZ X K H0 cL_refuses 62 out.1 out.2) out) : Jj (kAdd K 0 (6 * 0)) (WdQ X H0) z 117 [some (rf (X.M m0).ad 1), some (.ref X.oa), some (.int (ii x2)), some (.int (ii x3)), some (.int (ii x4)), some (.int (ii x5)), some (.int (ii x6)), some (.int (ii x7)), o8, o9, o10, o11] [.int (ii s0)] := by
  unfold f_L_refuses_117 at hf
  have o : ∀ a b, Ok (kAdd K a b) cL_refuses "DatalogmillLaw" rm_L_refuses := fun _ _ => OkQ.add k.1
  have g : ∀ a b, GdQ X (kAdd K a b) H0 := fun _ _ => GdQ.add k.2.1
  refine J_istore (o _ _) dL_refuses_117 (Nat.le_of_ble_eq_true rfl) ?_
  refine J_iload_n (o _ _) dL_refuses_119 rfl ?_
  refine J_iconst (o _ _) dL_refuses_120 ?_
  refine J_idiv (o _ _) dL_refuses_121 rl2 (by decide) ?_
  refine J_iconst (o _ _) dL_refuses_122 ?_
  refine J_irem (o _ _) dL_refuses_123 rl2 (by decide) ?_
  refine J_istore (o _ _) dL_refuses_124 (Nat.le_of_ble_eq_true rfl) ?_
  have hf := bl_out hf
  refine J_aload_n (o _ _) dL_refuses_126 rfl ?_
  refine J_iload (o _ _) dL_refuses_127 rfl ?_
  refine J_iconst (o _ _) dL_refuses_129 ?_
  refine J_iconst (o _ _) dL_refuses_130 ?_
  refine J_iconst (o _ _) dL_refuses_131 ?_
  obtain ⟨v2, e3, hf⟩ := bnd_some hf
  refine J_qW (np := 5) k.1 k.2.1 k.2.2.1 (Nat.le_of_ble_eq_true rfl) dL_refuses_132 mw441 mw443 mw442 mw111 ⟨by decide +kernel, by decide +kernel, by decide +kernel⟩ ⟨rfl, rfl, Nat.le_of_ble_eq_true rfl, Nat.le_of_ble_eq_true rfl⟩ (c_L_declares k.2.2.2 k.2.1.2.1 r_x5 rl1 rl0 rl1 e3) rfl rfl c1s_0 (fun q4 => ?_)
  refine J_tt (u := 1) rfl ?_
  refine J_ldc (o _ _) dL_refuses_135 kcL_15 ?_
  refine J_icmp_ne 613 (o _ _) dL_refuses_137 (by decide) q4 rlm2000000001 (fun c5 => ?_) (fun c6 => ?_)
  · have hf := ite_f c5 hf
    refine J_wid (t := 1) (u := 30) (Nat.le_of_ble_eq_true rfl) ?_
    exact t_L_refuses_613 k r_x2 r_x3 r_x4 r_x7 r_s0 (R_irem _ _) hf hc
  · have hf := ite_t c6 hf
    refine J_aload_n (o _ _) dL_refuses_140 rfl ?_
    refine J_bipush (o _ _) dL_refuses_141 (by decide) ?_
    refine J_iconst (o _ _) dL_refuses_143 ?_
    refine J_iconst (o _ _) dL_refuses_144 ?_
    refine J_iload_n (o _ _) dL_refuses_145 rfl ?_
    refine J_iadd (o _ _) dL_refuses_146 ?_
    refine J_iconst (o _ _) dL_refuses_147 ?_
    obtain ⟨v7, e8, hf⟩ := bnd_some hf
    refine J_qW (np := 5) k.1 k.2.1 k.2.2.1 (Nat.le_of_ble_eq_true rfl) dL_refuses_148 mw441 mw443 mw442 mw111 ⟨by decide +kernel, by decide +kernel, by decide +kernel⟩ ⟨rfl, rfl, Nat.le_of_ble_eq_true rfl, Nat.le_of_ble_eq_true rfl⟩ (c_L_declares k.2.2.2 k.2.1.2.1 rl9 rl1 (R_wr _) rl1 e8) rfl rfl c1s_0 (fun q9 => ?_)
    refine J_tt (u := 2) rfl ?_
    refine J_ldc (o _ _) dL_refuses_151 kcL_15 ?_
    refine J_icmp_ne 613 (o _ _) dL_refuses_153 (by decide) q9 rlm2000000001 (fun c10 => ?_) (fun c11 => ?_)
    · have hf := ite_f c10 hf
      refine J_wid (t := 2) (u := 30) (Nat.le_of_ble_eq_true rfl) ?_
      exact t_L_refuses_613 k r_x2 r_x3 r_x4 r_x7 r_s0 (R_irem _ _) hf hc
    · have hf := ite_t c11 hf
      refine J_aload_n (o _ _) dL_refuses_156 rfl ?_
      refine J_bipush (o _ _) dL_refuses_157 (by decide) ?_
      refine J_iconst (o _ _) dL_refuses_159 ?_
      refine J_iload_n (o _ _) dL_refuses_160 rfl ?_
      refine J_iadd (o _ _) dL_refuses_161 ?_
      refine J_iconst (o _ _) dL_refuses_162 ?_
      refine J_iconst (o _ _) dL_refuses_163 ?_
      obtain ⟨v12, e13, hf⟩ := bnd_some hf
      refine J_qW (np := 5) k.1 k.2.1 k.2.2.1 (Nat.le_of_ble_eq_true rfl) dL_refuses_164 mw441 mw443 mw442 mw111 ⟨by decide +kernel, by decide +kernel, by decide +kernel⟩ ⟨rfl, rfl, Nat.le_of_ble_eq_true rfl, Nat.le_of_ble_eq_true rfl⟩ (c_L_declares k.2.2.2 k.2.1.2.1 rl9 (R_wr _) rl0 rl1 e13) rfl rfl c1s_0 (fun q14 => ?_)
      refine J_tt (u := 3) rfl ?_
      refine J_ldc (o _ _) dL_refuses_167 kcL_18 ?_
      refine J_icmp_ne 613 (o _ _) dL_refuses_169 (by decide) q14 rlm2000000002 (fun c15 => ?_) (fun c16 => ?_)
      · have hf := ite_f c15 hf
        refine J_wid (t := 3) (u := 30) (Nat.le_of_ble_eq_true rfl) ?_
        exact t_L_refuses_613 k r_x2 r_x3 r_x4 r_x7 r_s0 (R_irem _ _) hf hc
      · have hf := ite_t c16 hf
        refine J_aload_n (o _ _) dL_refuses_172 rfl ?_
        refine J_bipush (o _ _) dL_refuses_173 (by decide) ?_
        refine J_iconst (o _ _) dL_refuses_175 ?_
        refine J_iconst (o _ _) dL_refuses_176 ?_
        refine J_iconst (o _ _) dL_refuses_177 ?_
        refine J_iload_n (o _ _) dL_refuses_178 rfl ?_
        refine J_iadd (o _ _) dL_refuses_179 ?_
        obtain ⟨v17, e18, hf⟩ := bnd_some hf
        refine J_qW (np := 5) k.1 k.2.1 k.2.2.1 (Nat.le_of_ble_eq_true rfl) dL_refuses_180 mw441 mw443 mw442 mw111 ⟨by decide +kernel, by decide +kernel, by decide +kernel⟩ ⟨rfl, rfl, Nat.le_of_ble_eq_true rfl, Nat.le_of_ble_eq_true rfl⟩ (c_L_declares k.2.2.2 k.2.1.2.1 rl9 rl2 rl0 (R_wr _) e18) rfl rfl c1s_0 (fun q19 => ?_)
        refine J_tt (u := 4) rfl ?_
        refine J_ldc (o _ _) dL_refuses_183 kcL_18 ?_
        refine J_icmp_ne 613 (o _ _) dL_refuses_185 (by decide) q19 rlm2000000002 (fun c20 => ?_) (fun c21 => ?_)
        · have hf := ite_f c20 hf
          refine J_wid (t := 4) (u := 30) (Nat.le_of_ble_eq_true rfl) ?_
          exact t_L_refuses_613 k r_x2 r_x3 r_x4 r_x7 r_s0 (R_irem _ _) hf hc
        · have hf := ite_t c21 hf
          refine J_aload_n (o _ _) dL_refuses_188 rfl ?_
          refine J_bipush (o _ _) dL_refuses_189 (by decide) ?_
          refine J_iconst (o _ _) dL_refuses_191 ?_
          refine J_iconst (o _ _) dL_refuses_192 ?_
          refine J_iconst (o _ _) dL_refuses_193 ?_
          obtain ⟨v22, e23, hf⟩ := bnd_some hf
          refine J_qW (np := 5) k.1 k.2.1 k.2.2.1 (Nat.le_of_ble_eq_true rfl) dL_refuses_194 mw441 mw443 mw442 mw111 ⟨by decide +kernel, by decide +kernel, by decide +kernel⟩ ⟨rfl, rfl, Nat.le_of_ble_eq_true rfl, Nat.le_of_ble_eq_true rfl⟩ (c_L_declares k.2.2.2 k.2.1.2.1 rl9 rl2 rl1 rl2 e23) rfl rfl c1s_0 (fun q24 => ?_)
          refine J_tt (u := 5) rfl ?_
          refine J_ldc (o _ _) dL_refuses_197 kcL_18 ?_
          refine J_icmp_ne 613 (o _ _) dL_refuses_199 (by decide) q24 rlm2000000002 (fun c25 => ?_) (fun c26 => ?_)
          · have hf := ite_f c25 hf
            refine J_wid (t := 5) (u := 30) (Nat.le_of_ble_eq_true rfl) ?_
            exact t_L_refuses_613 k r_x2 r_x3 r_x4 r_x7 r_s0 (R_irem _ _) hf hc
          · have hf := ite_t c26 hf
            refine J_aload_n (o _ _) dL_refuses_202 rfl ?_
            refine J_iload_n (o _ _) dL_refuses_203 rfl ?_
            refine J_bipush (o _ _) dL_refuses_204 (by decide) ?_
            refine J_irem (o _ _) dL_refuses_206 rl6 (by decide) ?_
            refine J_iconst (o _ _) dL_refuses_207 ?_
            refine J_iconst (o _ _) dL_refuses_208 ?_
            refine J_iconst (o _ _) dL_refuses_209 ?_
            obtain ⟨v27, e28, hf⟩ := bnd_some hf
            refine J_qW (np := 5) k.1 k.2.1 k.2.2.1 (Nat.le_of_ble_eq_true rfl) dL_refuses_210 mw441 mw443 mw442 mw111 ⟨by decide +kernel, by decide +kernel, by decide +kernel⟩ ⟨rfl, rfl, Nat.le_of_ble_eq_true rfl, Nat.le_of_ble_eq_true rfl⟩ (c_L_declares k.2.2.2 k.2.1.2.1 (R_irem _ _) rl1 rl0 rl1 e28) rfl rfl c1s_0 (fun q29 => ?_)
            refine J_tt (u := 6) rfl ?_
            refine J_ldc (o _ _) dL_refuses_213 kcL_21 ?_
            refine J_icmp_ne 613 (o _ _) dL_refuses_215 (by decide) q29 rlm2000000003 (fun c30 => ?_) (fun c31 => ?_)
            · have hf := ite_f c30 hf
              refine J_wid (t := 6) (u := 30) (Nat.le_of_ble_eq_true rfl) ?_
              exact t_L_refuses_613 k r_x2 r_x3 r_x4 r_x7 r_s0 (R_irem _ _) hf hc
            · have hf := ite_t c31 hf
              refine J_aload_n (o _ _) dL_refuses_218 rfl ?_
              refine J_iload (o _ _) dL_refuses_219 rfl ?_
              refine J_iconst (o _ _) dL_refuses_221 ?_
              refine J_iconst (o _ _) dL_refuses_222 ?_
              refine J_iconst (o _ _) dL_refuses_223 ?_
              refine J_iconst (o _ _) dL_refuses_224 ?_
              refine J_iconst (o _ _) dL_refuses_225 ?_
              refine J_iconst (o _ _) dL_refuses_226 ?_
              obtain ⟨v32, e33, hf⟩ := bnd_some hf
              refine J_qW (np := 8) k.1 k.2.1 k.2.2.1 (Nat.le_of_ble_eq_true rfl) dL_refuses_227 mw580 mw582 mw581 mw111 ⟨by decide +kernel, by decide +kernel, by decide +kernel⟩ ⟨rfl, rfl, Nat.le_of_ble_eq_true rfl, Nat.le_of_ble_eq_true rfl⟩ (c_L_facts k.2.2.2 k.2.1.2.1 r_x4 rl0 rl0 rl0 rl0 rl0 rl0 e33) rfl rfl c1s_0 (fun q34 => ?_)
              refine J_tt (u := 7) rfl ?_
              refine J_ldc (o _ _) dL_refuses_230 kcL_15 ?_
              refine J_icmp_ne 613 (o _ _) dL_refuses_232 (by decide) q34 rlm2000000001 (fun c35 => ?_) (fun c36 => ?_)
              · have hf := ite_f c35 hf
                refine J_wid (t := 7) (u := 30) (Nat.le_of_ble_eq_true rfl) ?_
                exact t_L_refuses_613 k r_x2 r_x3 r_x4 r_x7 r_s0 (R_irem _ _) hf hc
              · have hf := ite_t c36 hf
                refine J_aload_n (o _ _) dL_refuses_235 rfl ?_
                refine J_iload (o _ _) dL_refuses_236 rfl ?_
                refine J_iload (o _ _) dL_refuses_238 rfl ?_
                refine J_iconst (o _ _) dL_refuses_240 ?_
                refine J_iconst (o _ _) dL_refuses_241 ?_
                refine J_iconst (o _ _) dL_refuses_242 ?_
                refine J_iconst (o _ _) dL_refuses_243 ?_
                refine J_iconst (o _ _) dL_refuses_244 ?_
                obtain ⟨v37, e38, hf⟩ := bnd_some hf
                refine J_qW (np := 8) k.1 k.2.1 k.2.2.1 (Nat.le_of_ble_eq_true rfl) dL_refuses_245 mw580 mw582 mw581 mw111 ⟨by decide +kernel, by decide +kernel, by decide +kernel⟩ ⟨rfl, rfl, Nat.le_of_ble_eq_true rfl, Nat.le_of_ble_eq_true rfl⟩ (c_L_facts k.2.2.2 k.2.1.2.1 (R_irem _ _) r_s0 rl0 rl0 rl1 rl0 rl0 e38) rfl rfl c1s_0 (fun q39 => ?_)
                refine J_tt (u := 8) rfl ?_
                refine J_ldc (o _ _) dL_refuses_248 kcL_18 ?_
                refine J_icmp_ne 613 (o _ _) dL_refuses_250 (by decide) q39 rlm2000000002 (fun c40 => ?_) (fun c41 => ?_)
                · have hf := ite_f c40 hf
                  refine J_wid (t := 8) (u := 30) (Nat.le_of_ble_eq_true rfl) ?_
                  exact t_L_refuses_613 k r_x2 r_x3 r_x4 r_x7 r_s0 (R_irem _ _) hf hc
                · have hf := ite_t c41 hf
                  refine J_aload_n (o _ _) dL_refuses_253 rfl ?_
                  refine J_iload (o _ _) dL_refuses_254 rfl ?_
                  refine J_iconst (o _ _) dL_refuses_256 ?_
                  refine J_iconst (o _ _) dL_refuses_257 ?_
                  refine J_iconst (o _ _) dL_refuses_258 ?_
                  refine J_iload_n (o _ _) dL_refuses_259 rfl ?_
                  refine J_bipush (o _ _) dL_refuses_260 (by decide) ?_
                  refine J_irem (o _ _) dL_refuses_262 rl100 (by decide) ?_
                  refine J_iadd (o _ _) dL_refuses_263 ?_
                  refine J_iconst (o _ _) dL_refuses_264 ?_
                  refine J_iconst (o _ _) dL_refuses_265 ?_
                  refine J_iconst (o _ _) dL_refuses_266 ?_
                  obtain ⟨v42, e43, hf⟩ := bnd_some hf
                  refine J_qW (np := 8) k.1 k.2.1 k.2.2.1 (Nat.le_of_ble_eq_true rfl) dL_refuses_267 mw580 mw582 mw581 mw111 ⟨by decide +kernel, by decide +kernel, by decide +kernel⟩ ⟨rfl, rfl, Nat.le_of_ble_eq_true rfl, Nat.le_of_ble_eq_true rfl⟩ (c_L_facts k.2.2.2 k.2.1.2.1 (R_irem _ _) rl0 rl0 (R_wr _) rl1 rl0 rl0 e43) rfl rfl c1s_0 (fun q44 => ?_)
                  refine J_tt (u := 9) rfl ?_
                  refine J_ldc (o _ _) dL_refuses_270 kcL_18 ?_
                  refine J_icmp_ne 613 (o _ _) dL_refuses_272 (by decide) q44 rlm2000000002 (fun c45 => ?_) (fun c46 => ?_)
                  · have hf := ite_f c45 hf
                    refine J_wid (t := 9) (u := 30) (Nat.le_of_ble_eq_true rfl) ?_
                    exact t_L_refuses_613 k r_x2 r_x3 r_x4 r_x7 r_s0 (R_irem _ _) hf hc
                  · have hf := ite_t c46 hf
                    refine J_aload_n (o _ _) dL_refuses_275 rfl ?_
                    refine J_iload (o _ _) dL_refuses_276 rfl ?_
                    refine J_iconst (o _ _) dL_refuses_278 ?_
                    refine J_iconst (o _ _) dL_refuses_279 ?_
                    refine J_iconst (o _ _) dL_refuses_280 ?_
                    refine J_bipush (o _ _) dL_refuses_281 (by decide) ?_
                    refine J_iload_n (o _ _) dL_refuses_283 rfl ?_
                    refine J_iadd (o _ _) dL_refuses_284 ?_
                    refine J_iconst (o _ _) dL_refuses_285 ?_
                    refine J_iconst (o _ _) dL_refuses_286 ?_
                    obtain ⟨v47, e48, hf⟩ := bnd_some hf
                    refine J_qW (np := 8) k.1 k.2.1 k.2.2.1 (Nat.le_of_ble_eq_true rfl) dL_refuses_287 mw580 mw582 mw581 mw111 ⟨by decide +kernel, by decide +kernel, by decide +kernel⟩ ⟨rfl, rfl, Nat.le_of_ble_eq_true rfl, Nat.le_of_ble_eq_true rfl⟩ (c_L_facts k.2.2.2 k.2.1.2.1 (R_irem _ _) rl0 rl0 rl0 (R_wr _) rl0 rl0 e48) rfl rfl c1s_0 (fun q49 => ?_)
                    refine J_tt (u := 10) rfl ?_
                    refine J_ldc (o _ _) dL_refuses_290 kcL_18 ?_
                    refine J_icmp_ne 613 (o _ _) dL_refuses_292 (by decide) q49 rlm2000000002 (fun c50 => ?_) (fun c51 => ?_)
                    · have hf := ite_f c50 hf
                      refine J_wid (t := 10) (u := 30) (Nat.le_of_ble_eq_true rfl) ?_
                      exact t_L_refuses_613 k r_x2 r_x3 r_x4 r_x7 r_s0 (R_irem _ _) hf hc
                    · have hf := ite_t c51 hf
                      refine J_aload_n (o _ _) dL_refuses_295 rfl ?_
                      refine J_iload (o _ _) dL_refuses_296 rfl ?_
                      refine J_iconst (o _ _) dL_refuses_298 ?_
                      refine J_iconst (o _ _) dL_refuses_299 ?_
                      refine J_iconst (o _ _) dL_refuses_300 ?_
                      refine J_iload_n (o _ _) dL_refuses_301 rfl ?_
                      refine J_ineg (o _ _) dL_refuses_302 ?_
                      refine J_iconst (o _ _) dL_refuses_303 ?_
                      refine J_iconst (o _ _) dL_refuses_304 ?_
                      obtain ⟨v52, e53, hf⟩ := bnd_some hf
                      refine J_qW (np := 8) k.1 k.2.1 k.2.2.1 (Nat.le_of_ble_eq_true rfl) dL_refuses_305 mw580 mw582 mw581 mw111 ⟨by decide +kernel, by decide +kernel, by decide +kernel⟩ ⟨rfl, rfl, Nat.le_of_ble_eq_true rfl, Nat.le_of_ble_eq_true rfl⟩ (c_L_facts k.2.2.2 k.2.1.2.1 (R_irem _ _) rl0 rl0 rl0 (R_wr _) rl0 rl0 e53) rfl rfl c1s_0 (fun q54 => ?_)
                      refine J_tt (u := 11) rfl ?_
                      refine J_ldc (o _ _) dL_refuses_308 kcL_18 ?_
                      refine J_icmp_ne 613 (o _ _) dL_refuses_310 (by decide) q54 rlm2000000002 (fun c55 => ?_) (fun c56 => ?_)
                      · have hf := ite_f c55 hf
                        refine J_wid (t := 11) (u := 30) (Nat.le_of_ble_eq_true rfl) ?_
                        exact t_L_refuses_613 k r_x2 r_x3 r_x4 r_x7 r_s0 (R_irem _ _) hf hc
                      · have hf := ite_t c56 hf
                        refine J_aload_n (o _ _) dL_refuses_313 rfl ?_
                        refine J_iload (o _ _) dL_refuses_314 rfl ?_
                        refine J_iconst (o _ _) dL_refuses_316 ?_
                        refine J_iconst (o _ _) dL_refuses_317 ?_
                        refine J_iconst (o _ _) dL_refuses_318 ?_
                        refine J_iconst (o _ _) dL_refuses_319 ?_
                        refine J_iconst (o _ _) dL_refuses_320 ?_
                        refine J_iload_n (o _ _) dL_refuses_321 rfl ?_
                        refine J_iadd (o _ _) dL_refuses_322 ?_
                        refine J_iconst (o _ _) dL_refuses_323 ?_
                        refine J_iload_n (o _ _) dL_refuses_324 rfl ?_
                        refine J_iadd (o _ _) dL_refuses_325 ?_
                        obtain ⟨v57, e58, hf⟩ := bnd_some hf
                        refine J_qW (np := 8) k.1 k.2.1 k.2.2.1 (Nat.le_of_ble_eq_true rfl) dL_refuses_326 mw580 mw582 mw581 mw111 ⟨by decide +kernel, by decide +kernel, by decide +kernel⟩ ⟨rfl, rfl, Nat.le_of_ble_eq_true rfl, Nat.le_of_ble_eq_true rfl⟩ (c_L_facts k.2.2.2 k.2.1.2.1 (R_irem _ _) rl0 rl0 rl0 rl1 (R_wr _) (R_wr _) e58) rfl rfl c1s_0 (fun q59 => ?_)
                        refine J_tt (u := 12) rfl ?_
                        refine J_ldc (o _ _) dL_refuses_329 kcL_18 ?_
                        refine J_icmp_ne 613 (o _ _) dL_refuses_331 (by decide) q59 rlm2000000002 (fun c60 => ?_) (fun c61 => ?_)
                        · have hf := ite_f c60 hf
                          refine J_wid (t := 12) (u := 30) (Nat.le_of_ble_eq_true rfl) ?_
                          exact t_L_refuses_613 k r_x2 r_x3 r_x4 r_x7 r_s0 (R_irem _ _) hf hc
                        · have hf := ite_t c61 hf
                          refine J_aload_n (o _ _) dL_refuses_334 rfl ?_
                          refine J_iload (o _ _) dL_refuses_335 rfl ?_
                          refine J_iconst (o _ _) dL_refuses_337 ?_
                          refine J_iconst (o _ _) dL_refuses_338 ?_
                          refine J_iconst (o _ _) dL_refuses_339 ?_
                          refine J_iconst (o _ _) dL_refuses_340 ?_
                          refine J_iconst (o _ _) dL_refuses_341 ?_
                          refine J_iconst (o _ _) dL_refuses_342 ?_
                          obtain ⟨v62, e63, hf⟩ := bnd_some hf
                          refine J_qW (np := 8) k.1 k.2.1 k.2.2.1 (Nat.le_of_ble_eq_true rfl) dL_refuses_343 mw580 mw582 mw581 mw111 ⟨by decide +kernel, by decide +kernel, by decide +kernel⟩ ⟨rfl, rfl, Nat.le_of_ble_eq_true rfl, Nat.le_of_ble_eq_true rfl⟩ (c_L_facts k.2.2.2 k.2.1.2.1 (R_irem _ _) rl0 rl0 rl0 rl1 rl2 rl1 e63) rfl rfl c1s_0 (fun q64 => ?_)
                          refine J_tt (u := 13) rfl ?_
                          refine J_ldc (o _ _) dL_refuses_346 kcL_18 ?_
                          refine J_icmp_ne 613 (o _ _) dL_refuses_348 (by decide) q64 rlm2000000002 (fun c65 => ?_) (fun c66 => ?_)
                          · have hf := ite_f c65 hf
                            refine J_wid (t := 13) (u := 30) (Nat.le_of_ble_eq_true rfl) ?_
                            exact t_L_refuses_613 k r_x2 r_x3 r_x4 r_x7 r_s0 (R_irem _ _) hf hc
                          · have hf := ite_t c66 hf
                            refine J_aload_n (o _ _) dL_refuses_351 rfl ?_
                            refine J_iload (o _ _) dL_refuses_352 rfl ?_
                            obtain ⟨v67, e68, hf⟩ := bnd_some hf
                            refine J_qW (np := 2) k.1 k.2.1 k.2.2.1 (Nat.le_of_ble_eq_true rfl) dL_refuses_354 mw814 mw816 mw815 mw111 ⟨by decide +kernel, by decide +kernel, by decide +kernel⟩ ⟨rfl, rfl, Nat.le_of_ble_eq_true rfl, Nat.le_of_ble_eq_true rfl⟩ (c_L_drops k.2.2.2 k.2.1.2.1 r_x6 e68) rfl rfl c1s_0 (fun q69 => ?_)
                            refine J_tt (u := 14) rfl ?_
                            refine J_ldc (o _ _) dL_refuses_357 kcL_15 ?_
                            refine J_icmp_ne 613 (o _ _) dL_refuses_359 (by decide) q69 rlm2000000001 (fun c70 => ?_) (fun c71 => ?_)
                            · have hf := ite_f c70 hf
                              refine J_wid (t := 14) (u := 30) (Nat.le_of_ble_eq_true rfl) ?_
                              exact t_L_refuses_613 k r_x2 r_x3 r_x4 r_x7 r_s0 (R_irem _ _) hf hc
                            · have hf := ite_t c71 hf
                              refine J_aload_n (o _ _) dL_refuses_362 rfl ?_
                              refine J_iload (o _ _) dL_refuses_363 rfl ?_
                              refine J_iconst (o _ _) dL_refuses_365 ?_
                              refine J_iconst (o _ _) dL_refuses_366 ?_
                              refine J_iconst (o _ _) dL_refuses_367 ?_
                              obtain ⟨v72, e73, hf⟩ := bnd_some hf
                              refine J_qW (np := 5) k.1 k.2.1 k.2.2.1 (Nat.le_of_ble_eq_true rfl) dL_refuses_368 mw839 mw841 mw840 mw111 ⟨by decide +kernel, by decide +kernel, by decide +kernel⟩ ⟨rfl, rfl, Nat.le_of_ble_eq_true rfl, Nat.le_of_ble_eq_true rfl⟩ (c_L_heads k.2.2.2 k.2.1.2.1 r_x4 rl0 rl0 rl0 e73) rfl rfl c1s_0 (fun q74 => ?_)
                              refine J_tt (u := 15) rfl ?_
                              refine J_ldc (o _ _) dL_refuses_371 kcL_15 ?_
                              refine J_icmp_ne 613 (o _ _) dL_refuses_373 (by decide) q74 rlm2000000001 (fun c75 => ?_) (fun c76 => ?_)
                              · have hf := ite_f c75 hf
                                refine J_wid (t := 15) (u := 30) (Nat.le_of_ble_eq_true rfl) ?_
                                exact t_L_refuses_613 k r_x2 r_x3 r_x4 r_x7 r_s0 (R_irem _ _) hf hc
                              · have hf := ite_t c76 hf
                                refine J_aload_n (o _ _) dL_refuses_376 rfl ?_
                                refine J_iload (o _ _) dL_refuses_377 rfl ?_
                                refine J_iload (o _ _) dL_refuses_379 rfl ?_
                                refine J_iconst (o _ _) dL_refuses_381 ?_
                                refine J_iconst (o _ _) dL_refuses_382 ?_
                                obtain ⟨v77, e78, hf⟩ := bnd_some hf
                                refine J_qW (np := 5) k.1 k.2.1 k.2.2.1 (Nat.le_of_ble_eq_true rfl) dL_refuses_383 mw839 mw841 mw840 mw111 ⟨by decide +kernel, by decide +kernel, by decide +kernel⟩ ⟨rfl, rfl, Nat.le_of_ble_eq_true rfl, Nat.le_of_ble_eq_true rfl⟩ (c_L_heads k.2.2.2 k.2.1.2.1 (R_irem _ _) r_s0 rl0 rl0 e78) rfl rfl c1s_0 (fun q79 => ?_)
                                refine J_tt (u := 16) rfl ?_
                                refine J_ldc (o _ _) dL_refuses_386 kcL_18 ?_
                                refine J_icmp_ne 613 (o _ _) dL_refuses_388 (by decide) q79 rlm2000000002 (fun c80 => ?_) (fun c81 => ?_)
                                · have hf := ite_f c80 hf
                                  refine J_wid (t := 16) (u := 30) (Nat.le_of_ble_eq_true rfl) ?_
                                  exact t_L_refuses_613 k r_x2 r_x3 r_x4 r_x7 r_s0 (R_irem _ _) hf hc
                                · have hf := ite_t c81 hf
                                  refine J_aload_n (o _ _) dL_refuses_391 rfl ?_
                                  refine J_iconst (o _ _) dL_refuses_392 ?_
                                  refine J_iconst (o _ _) dL_refuses_393 ?_
                                  refine J_iconst (o _ _) dL_refuses_394 ?_
                                  refine J_iconst (o _ _) dL_refuses_395 ?_
                                  obtain ⟨v82, e83, hf⟩ := bnd_some hf
                                  refine J_qW (np := 5) k.1 k.2.1 k.2.2.1 (Nat.le_of_ble_eq_true rfl) dL_refuses_396 mw839 mw841 mw840 mw111 ⟨by decide +kernel, by decide +kernel, by decide +kernel⟩ ⟨rfl, rfl, Nat.le_of_ble_eq_true rfl, Nat.le_of_ble_eq_true rfl⟩ (c_L_heads k.2.2.2 k.2.1.2.1 rl2 rlm1 rl1 rl0 e83) rfl rfl c1s_0 (fun q84 => ?_)
                                  refine J_tt (u := 17) rfl ?_
                                  refine J_ldc (o _ _) dL_refuses_399 kcL_18 ?_
                                  refine J_icmp_ne 613 (o _ _) dL_refuses_401 (by decide) q84 rlm2000000002 (fun c85 => ?_) (fun c86 => ?_)
                                  · have hf := ite_f c85 hf
                                    refine J_wid (t := 17) (u := 30) (Nat.le_of_ble_eq_true rfl) ?_
                                    exact t_L_refuses_613 k r_x2 r_x3 r_x4 r_x7 r_s0 (R_irem _ _) hf hc
                                  · have hf := ite_t c86 hf
                                    refine J_aload_n (o _ _) dL_refuses_404 rfl ?_
                                    refine J_iload (o _ _) dL_refuses_405 rfl ?_
                                    refine J_iconst (o _ _) dL_refuses_407 ?_
                                    refine J_iconst (o _ _) dL_refuses_408 ?_
                                    refine J_iconst (o _ _) dL_refuses_409 ?_
                                    refine J_iconst (o _ _) dL_refuses_410 ?_
                                    obtain ⟨v87, e88, hf⟩ := bnd_some hf
                                    refine J_qW (np := 6) k.1 k.2.1 k.2.2.1 (Nat.le_of_ble_eq_true rfl) dL_refuses_411 mw856 mw858 mw857 mw111 ⟨by decide +kernel, by decide +kernel, by decide +kernel⟩ ⟨rfl, rfl, Nat.le_of_ble_eq_true rfl, Nat.le_of_ble_eq_true rfl⟩ (c_L_atoms k.2.2.2 k.2.1.2.1 r_x4 rl1 rl0 rl0 rl0 e88) rfl rfl c1s_0 (fun q89 => ?_)
                                    refine J_tt (u := 18) rfl ?_
                                    refine J_ldc (o _ _) dL_refuses_414 kcL_15 ?_
                                    refine J_icmp_ne 613 (o _ _) dL_refuses_416 (by decide) q89 rlm2000000001 (fun c90 => ?_) (fun c91 => ?_)
                                    · have hf := ite_f c90 hf
                                      refine J_wid (t := 18) (u := 30) (Nat.le_of_ble_eq_true rfl) ?_
                                      exact t_L_refuses_613 k r_x2 r_x3 r_x4 r_x7 r_s0 (R_irem _ _) hf hc
                                    · have hf := ite_t c91 hf
                                      refine J_aload_n (o _ _) dL_refuses_419 rfl ?_
                                      refine J_iload (o _ _) dL_refuses_420 rfl ?_
                                      refine J_iconst (o _ _) dL_refuses_422 ?_
                                      refine J_iconst (o _ _) dL_refuses_423 ?_
                                      refine J_iload (o _ _) dL_refuses_424 rfl ?_
                                      refine J_iconst (o _ _) dL_refuses_426 ?_
                                      obtain ⟨v92, e93, hf⟩ := bnd_some hf
                                      refine J_qW (np := 6) k.1 k.2.1 k.2.2.1 (Nat.le_of_ble_eq_true rfl) dL_refuses_427 mw856 mw858 mw857 mw111 ⟨by decide +kernel, by decide +kernel, by decide +kernel⟩ ⟨rfl, rfl, Nat.le_of_ble_eq_true rfl, Nat.le_of_ble_eq_true rfl⟩ (c_L_atoms k.2.2.2 k.2.1.2.1 (R_irem _ _) rl1 rl0 r_s0 rl0 e93) rfl rfl c1s_0 (fun q94 => ?_)
                                      refine J_tt (u := 19) rfl ?_
                                      refine J_ldc (o _ _) dL_refuses_430 kcL_18 ?_
                                      refine J_icmp_ne 613 (o _ _) dL_refuses_432 (by decide) q94 rlm2000000002 (fun c95 => ?_) (fun c96 => ?_)
                                      · have hf := ite_f c95 hf
                                        refine J_wid (t := 19) (u := 30) (Nat.le_of_ble_eq_true rfl) ?_
                                        exact t_L_refuses_613 k r_x2 r_x3 r_x4 r_x7 r_s0 (R_irem _ _) hf hc
                                      · have hf := ite_t c96 hf
                                        refine J_aload_n (o _ _) dL_refuses_435 rfl ?_
                                        refine J_iconst (o _ _) dL_refuses_436 ?_
                                        refine J_iload_n (o _ _) dL_refuses_437 rfl ?_
                                        refine J_iadd (o _ _) dL_refuses_438 ?_
                                        refine J_iconst (o _ _) dL_refuses_439 ?_
                                        refine J_iconst (o _ _) dL_refuses_440 ?_
                                        obtain ⟨v97, e98, hf⟩ := bnd_some hf
                                        refine J_qW (np := 4) k.1 k.2.1 k.2.2.1 (Nat.le_of_ble_eq_true rfl) dL_refuses_441 mw873 mw875 mw874 mw111 ⟨by decide +kernel, by decide +kernel, by decide +kernel⟩ ⟨rfl, rfl, Nat.le_of_ble_eq_true rfl, Nat.le_of_ble_eq_true rfl⟩ (c_L_compares k.2.2.2 k.2.1.2.1 (R_wr _) rl0 rl0 e98) rfl rfl c1s_0 (fun q99 => ?_)
                                        refine J_tt (u := 20) rfl ?_
                                        refine J_ldc (o _ _) dL_refuses_444 kcL_15 ?_
                                        refine J_icmp_ne 613 (o _ _) dL_refuses_446 (by decide) q99 rlm2000000001 (fun c100 => ?_) (fun c101 => ?_)
                                        · have hf := ite_f c100 hf
                                          refine J_wid (t := 20) (u := 30) (Nat.le_of_ble_eq_true rfl) ?_
                                          exact t_L_refuses_613 k r_x2 r_x3 r_x4 r_x7 r_s0 (R_irem _ _) hf hc
                                        · have hf := ite_t c101 hf
                                          refine J_aload_n (o _ _) dL_refuses_449 rfl ?_
                                          refine J_iload_n (o _ _) dL_refuses_450 rfl ?_
                                          refine J_iconst (o _ _) dL_refuses_451 ?_
                                          refine J_irem (o _ _) dL_refuses_452 rl4 (by decide) ?_
                                          refine J_iload (o _ _) dL_refuses_453 rfl ?_
                                          refine J_iconst (o _ _) dL_refuses_455 ?_
                                          obtain ⟨v102, e103, hf⟩ := bnd_some hf
                                          refine J_qW (np := 4) k.1 k.2.1 k.2.2.1 (Nat.le_of_ble_eq_true rfl) dL_refuses_456 mw873 mw875 mw874 mw111 ⟨by decide +kernel, by decide +kernel, by decide +kernel⟩ ⟨rfl, rfl, Nat.le_of_ble_eq_true rfl, Nat.le_of_ble_eq_true rfl⟩ (c_L_compares k.2.2.2 k.2.1.2.1 (R_irem _ _) r_s0 rl0 e103) rfl rfl c1s_0 (fun q104 => ?_)
                                          refine J_tt (u := 21) rfl ?_
                                          refine J_ldc (o _ _) dL_refuses_459 kcL_18 ?_
                                          refine J_icmp_ne 613 (o _ _) dL_refuses_461 (by decide) q104 rlm2000000002 (fun c105 => ?_) (fun c106 => ?_)
                                          · have hf := ite_f c105 hf
                                            refine J_wid (t := 21) (u := 30) (Nat.le_of_ble_eq_true rfl) ?_
                                            exact t_L_refuses_613 k r_x2 r_x3 r_x4 r_x7 r_s0 (R_irem _ _) hf hc
                                          · have hf := ite_t c106 hf
                                            refine J_aload_n (o _ _) dL_refuses_464 rfl ?_
                                            refine J_iconst (o _ _) dL_refuses_465 ?_
                                            refine J_iload (o _ _) dL_refuses_466 rfl ?_
                                            refine J_iconst (o _ _) dL_refuses_468 ?_
                                            obtain ⟨v107, e108, hf⟩ := bnd_some hf
                                            refine J_qW (np := 4) k.1 k.2.1 k.2.2.1 (Nat.le_of_ble_eq_true rfl) dL_refuses_469 mw882 mw884 mw883 mw111 ⟨by decide +kernel, by decide +kernel, by decide +kernel⟩ ⟨rfl, rfl, Nat.le_of_ble_eq_true rfl, Nat.le_of_ble_eq_true rfl⟩ (c_L_adds k.2.2.2 k.2.1.2.1 rl0 r_s0 rl0 e108) rfl rfl c1s_0 (fun q109 => ?_)
                                            refine J_tt (u := 22) rfl ?_
                                            refine J_ldc (o _ _) dL_refuses_472 kcL_18 ?_
                                            refine J_icmp_ne 613 (o _ _) dL_refuses_474 (by decide) q109 rlm2000000002 (fun c110 => ?_) (fun c111 => ?_)
                                            · have hf := ite_f c110 hf
                                              refine J_wid (t := 22) (u := 30) (Nat.le_of_ble_eq_true rfl) ?_
                                              exact t_L_refuses_613 k r_x2 r_x3 r_x4 r_x7 r_s0 (R_irem _ _) hf hc
                                            · have hf := ite_t c111 hf
                                              refine J_aload_n (o _ _) dL_refuses_477 rfl ?_
                                              refine J_iload (o _ _) dL_refuses_478 rfl ?_
                                              obtain ⟨v112, e113, hf⟩ := bnd_some hf
                                              refine J_qW (np := 2) k.1 k.2.1 k.2.2.1 (Nat.le_of_ble_eq_true rfl) dL_refuses_480 mw889 mw891 mw890 mw111 ⟨by decide +kernel, by decide +kernel, by decide +kernel⟩ ⟨rfl, rfl, Nat.le_of_ble_eq_true rfl, Nat.le_of_ble_eq_true rfl⟩ (c_L_removes k.2.2.2 k.2.1.2.1 r_x7 e113) rfl rfl c1s_0 (fun q114 => ?_)
                                              refine J_tt (u := 23) rfl ?_
                                              refine J_ldc (o _ _) dL_refuses_483 kcL_15 ?_
                                              refine J_icmp_ne 613 (o _ _) dL_refuses_485 (by decide) q114 rlm2000000001 (fun c115 => ?_) (fun c116 => ?_)
                                              · have hf := ite_f c115 hf
                                                refine J_wid (t := 23) (u := 30) (Nat.le_of_ble_eq_true rfl) ?_
                                                exact t_L_refuses_613 k r_x2 r_x3 r_x4 r_x7 r_s0 (R_irem _ _) hf hc
                                              · have hf := ite_t c116 hf
                                                refine J_aldO_n (o _ _) dL_refuses_488 rfl ?_
                                                refine J_iconst (o _ _) dL_refuses_489 ?_
                                                refine J_nld (o _ _) (g _ _) dL_refuses_490 rl3 ⟨by decide, by decide⟩ (fun q117 => ?_)
                                                refine J_iconst (o _ _) dL_refuses_491 ?_
                                                refine J_icmp_lt 533 (o _ _) dL_refuses_492 (by decide) q117 rl5 (fun c118 => ?_) (fun c119 => ?_)
                                                · have hf := ite_t c118 hf
                                                  refine J_wid (t := 23) (u := 26) (Nat.le_of_ble_eq_true rfl) ?_
                                                  exact t_L_refuses_533 k r_x2 r_x3 r_x4 r_x7 r_s0 (R_irem _ _) hf hc
                                                · have hf := ite_f c119 hf
                                                  refine J_aload_n (o _ _) dL_refuses_495 rfl ?_
                                                  refine J_iconst (o _ _) dL_refuses_496 ?_
                                                  refine J_iconst (o _ _) dL_refuses_497 ?_
                                                  refine J_iconst (o _ _) dL_refuses_498 ?_
                                                  obtain ⟨v120, e121, hf⟩ := bnd_some hf
                                                  refine J_qW (np := 4) k.1 k.2.1 k.2.2.1 (Nat.le_of_ble_eq_true rfl) dL_refuses_499 mw873 mw875 mw874 mw111 ⟨by decide +kernel, by decide +kernel, by decide +kernel⟩ ⟨rfl, rfl, Nat.le_of_ble_eq_true rfl, Nat.le_of_ble_eq_true rfl⟩ (c_L_compares k.2.2.2 k.2.1.2.1 rl0 rl0 rl0 e121) rfl rfl c1s_0 (fun q122 => ?_)
                                                  refine J_tt (u := 24) rfl ?_
                                                  refine J_ldc (o _ _) dL_refuses_502 kcL_21 ?_
                                                  refine J_icmp_ne 613 (o _ _) dL_refuses_504 (by decide) q122 rlm2000000003 (fun c123 => ?_) (fun c124 => ?_)
                                                  · have hf := ite_f c123 hf
                                                    refine J_wid (t := 24) (u := 30) (Nat.le_of_ble_eq_true rfl) ?_
                                                    exact t_L_refuses_613 k r_x2 r_x3 r_x4 r_x7 r_s0 (R_irem _ _) hf hc
                                                  · have hf := ite_t c124 hf
                                                    refine J_aload_n (o _ _) dL_refuses_507 rfl ?_
                                                    refine J_iconst (o _ _) dL_refuses_508 ?_
                                                    refine J_iconst (o _ _) dL_refuses_509 ?_
                                                    refine J_iconst (o _ _) dL_refuses_510 ?_
                                                    obtain ⟨v125, e126, hf⟩ := bnd_some hf
                                                    refine J_qW (np := 4) k.1 k.2.1 k.2.2.1 (Nat.le_of_ble_eq_true rfl) dL_refuses_511 mw882 mw884 mw883 mw111 ⟨by decide +kernel, by decide +kernel, by decide +kernel⟩ ⟨rfl, rfl, Nat.le_of_ble_eq_true rfl, Nat.le_of_ble_eq_true rfl⟩ (c_L_adds k.2.2.2 k.2.1.2.1 rl0 rl0 rl0 e126) rfl rfl c1s_0 (fun q127 => ?_)
                                                    refine J_tt (u := 25) rfl ?_
                                                    refine J_ldc (o _ _) dL_refuses_514 kcL_21 ?_
                                                    refine J_icmp_ne 613 (o _ _) dL_refuses_516 (by decide) q127 rlm2000000003 (fun c128 => ?_) (fun c129 => ?_)
                                                    · have hf := ite_f c128 hf
                                                      refine J_wid (t := 25) (u := 30) (Nat.le_of_ble_eq_true rfl) ?_
                                                      exact t_L_refuses_613 k r_x2 r_x3 r_x4 r_x7 r_s0 (R_irem _ _) hf hc
                                                    · have hf := ite_t c129 hf
                                                      refine J_aload_n (o _ _) dL_refuses_519 rfl ?_
                                                      refine J_iconst (o _ _) dL_refuses_520 ?_
                                                      refine J_iconst (o _ _) dL_refuses_521 ?_
                                                      refine J_iconst (o _ _) dL_refuses_522 ?_
                                                      refine J_iconst (o _ _) dL_refuses_523 ?_
                                                      refine J_iconst (o _ _) dL_refuses_524 ?_
                                                      obtain ⟨v130, e131, hf⟩ := bnd_some hf
                                                      refine J_qW (np := 6) k.1 k.2.1 k.2.2.1 (Nat.le_of_ble_eq_true rfl) dL_refuses_525 mw856 mw858 mw857 mw111 ⟨by decide +kernel, by decide +kernel, by decide +kernel⟩ ⟨rfl, rfl, Nat.le_of_ble_eq_true rfl, Nat.le_of_ble_eq_true rfl⟩ (c_L_atoms k.2.2.2 k.2.1.2.1 rl2 rl0 rl0 rl0 rl0 e131) rfl rfl c1s_0 (fun q132 => ?_)
                                                      refine J_tt (u := 26) rfl ?_
                                                      refine J_ldc (o _ _) dL_refuses_528 kcL_21 ?_
                                                      refine J_icmp_ne 613 (o _ _) dL_refuses_530 (by decide) q132 rlm2000000003 (fun c133 => ?_) (fun c134 => ?_)
                                                      · have hf := ite_f c133 hf
                                                        refine J_wid (t := 26) (u := 30) (Nat.le_of_ble_eq_true rfl) ?_
                                                        exact t_L_refuses_613 k r_x2 r_x3 r_x4 r_x7 r_s0 (R_irem _ _) hf hc
                                                      · have hf := ite_t c134 hf
                                                        exact t_L_refuses_533 k r_x2 r_x3 r_x4 r_x7 r_s0 (R_irem _ _) hf hc
noncomputable def f_L_refuses_99 (z : ZQ) (m0 : Bool) (x2 : Int) (x3 : Int) (x4 : Int) (x5 : Int) (x6 : Int) (s0 : Int) : Option (ZQ × Int) :=
  if x3 = 0 then (f_L_refuses_117 z m0 x2 x3 x4 x5 x6 s0 (wr (128 + x2))) else (f_L_refuses_117 z m0 x2 x3 x4 x5 x6 s0 (wr ((-9) - x2)))
set_option maxRecDepth 100000 in
theorem t_L_refuses_99 {X : QX} {K : KT} {H0 : Heap} (k : KofQ X K H0 cL_refuses "DatalogmillLaw" rm_L_refuses 62) {z : ZQ} {m0 : Bool} {x2 : Int} {x3 : Int} {x4 : Int} {x5 : Int} {x6 : Int} {s0 : Int} {o7 o8 o9 o10 o11 : Option Value} (r_x2 : R32 x2) (r_x3 : R32 x3) (r_x4 : R32 x4) (r_x5 : R32 x5) (r_x6 : R32 x6) (r_s0 : R32 s0) {out : (ZQ × Int)} (hf : f_L_refuses_99 z m0 x2 x3 x4 x5 x6 s0 = some out) (hc : (fun out : (ZQ × Int) => RetQZ X K H0 cL_refuses 62 out.1 out.2) out) : Jj (kAdd K 0 (6 * 0)) (WdQ X H0) z 99 [some (rf (X.M m0).ad 1), some (.ref X.oa), some (.int (ii x2)), some (.int (ii x3)), some (.int (ii x4)), some (.int (ii x5)), some (.int (ii x6)), o7, o8, o9, o10, o11] [.int (ii s0)] := by
  unfold f_L_refuses_99 at hf
  have o : ∀ a b, Ok (kAdd K a b) cL_refuses "DatalogmillLaw" rm_L_refuses := fun _ _ => OkQ.add k.1
  have g : ∀ a b, GdQ X (kAdd K a b) H0 := fun _ _ => GdQ.add k.2.1
  refine J_istore (o _ _) dL_refuses_99 (Nat.le_of_ble_eq_true rfl) ?_
  refine J_iload_n (o _ _) dL_refuses_101 rfl ?_
  refine J_if_eq 112 (o _ _) dL_refuses_102 (by decide) r_x3 (fun c1 => ?_) (fun c2 => ?_)
  · have hf := ite_t c1 hf
    refine J_sipush (o _ _) dL_refuses_112 (by decide) ?_
    refine J_iload_n (o _ _) dL_refuses_115 rfl ?_
    refine J_iadd (o _ _) dL_refuses_116 ?_
    exact t_L_refuses_117 k r_x2 r_x3 r_x4 r_x5 r_x6 r_s0 (R_wr _) hf hc
  · have hf := ite_f c2 hf
    refine J_bipush (o _ _) dL_refuses_105 (by decide) ?_
    refine J_iload_n (o _ _) dL_refuses_107 rfl ?_
    refine J_isub (o _ _) dL_refuses_108 ?_
    refine J_goto 117 (o _ _) dL_refuses_109 (by decide) ?_
    exact t_L_refuses_117 k r_x2 r_x3 r_x4 r_x5 r_x6 r_s0 (R_wr _) hf hc
noncomputable def f_L_refuses_76 (z : ZQ) (m0 : Bool) (x2 : Int) (x3 : Int) (x4 : Int) (x5 : Int) (s0 : Int) : Option (ZQ × Int) :=
  if x3 = 0 then (f_L_refuses_99 z m0 x2 x3 x4 x5 s0 (wr ((z.2.2 1) + (irem x2 50)))) else (f_L_refuses_99 z m0 x2 x3 x4 x5 s0 (wr ((-1) - (irem x2 50))))
set_option maxRecDepth 100000 in
theorem t_L_refuses_76 {X : QX} {K : KT} {H0 : Heap} (k : KofQ X K H0 cL_refuses "DatalogmillLaw" rm_L_refuses 62) {z : ZQ} {m0 : Bool} {x2 : Int} {x3 : Int} {x4 : Int} {x5 : Int} {s0 : Int} {o6 o7 o8 o9 o10 o11 : Option Value} (r_x2 : R32 x2) (r_x3 : R32 x3) (r_x4 : R32 x4) (r_x5 : R32 x5) (r_s0 : R32 s0) {out : (ZQ × Int)} (hf : f_L_refuses_76 z m0 x2 x3 x4 x5 s0 = some out) (hc : (fun out : (ZQ × Int) => RetQZ X K H0 cL_refuses 62 out.1 out.2) out) : Jj (kAdd K 0 (6 * 0)) (WdQ X H0) z 76 [some (rf (X.M m0).ad 1), some (.ref X.oa), some (.int (ii x2)), some (.int (ii x3)), some (.int (ii x4)), some (.int (ii x5)), o6, o7, o8, o9, o10, o11] [.int (ii s0)] := by
  unfold f_L_refuses_76 at hf
  have o : ∀ a b, Ok (kAdd K a b) cL_refuses "DatalogmillLaw" rm_L_refuses := fun _ _ => OkQ.add k.1
  have g : ∀ a b, GdQ X (kAdd K a b) H0 := fun _ _ => GdQ.add k.2.1
  refine J_istore (o _ _) dL_refuses_76 (Nat.le_of_ble_eq_true rfl) ?_
  refine J_iload_n (o _ _) dL_refuses_78 rfl ?_
  refine J_if_eq 91 (o _ _) dL_refuses_79 (by decide) r_x3 (fun c1 => ?_) (fun c2 => ?_)
  · have hf := ite_t c1 hf
    refine J_aldO_n (o _ _) dL_refuses_91 rfl ?_
    refine J_iconst (o _ _) dL_refuses_92 ?_
    refine J_nld (o _ _) (g _ _) dL_refuses_93 rl1 ⟨by decide, by decide⟩ (fun q3 => ?_)
    refine J_iload_n (o _ _) dL_refuses_94 rfl ?_
    refine J_bipush (o _ _) dL_refuses_95 (by decide) ?_
    refine J_irem (o _ _) dL_refuses_97 rl50 (by decide) ?_
    refine J_iadd (o _ _) dL_refuses_98 ?_
    exact t_L_refuses_99 k r_x2 r_x3 r_x4 r_x5 r_s0 (R_wr _) hf hc
  · have hf := ite_f c2 hf
    refine J_iconst (o _ _) dL_refuses_82 ?_
    refine J_iload_n (o _ _) dL_refuses_83 rfl ?_
    refine J_bipush (o _ _) dL_refuses_84 (by decide) ?_
    refine J_irem (o _ _) dL_refuses_86 rl50 (by decide) ?_
    refine J_isub (o _ _) dL_refuses_87 ?_
    refine J_goto 99 (o _ _) dL_refuses_88 (by decide) ?_
    exact t_L_refuses_99 k r_x2 r_x3 r_x4 r_x5 r_s0 (R_wr _) hf hc
noncomputable def f_L_refuses_53 (z : ZQ) (m0 : Bool) (x2 : Int) (x3 : Int) (x4 : Int) (s0 : Int) : Option (ZQ × Int) :=
  if x3 = 0 then (f_L_refuses_76 z m0 x2 x3 x4 s0 (wr ((z.2.2 0) + (irem x2 50)))) else (f_L_refuses_76 z m0 x2 x3 x4 s0 (wr ((-1) - (irem x2 50))))
set_option maxRecDepth 100000 in
theorem t_L_refuses_53 {X : QX} {K : KT} {H0 : Heap} (k : KofQ X K H0 cL_refuses "DatalogmillLaw" rm_L_refuses 62) {z : ZQ} {m0 : Bool} {x2 : Int} {x3 : Int} {x4 : Int} {s0 : Int} {o5 o6 o7 o8 o9 o10 o11 : Option Value} (r_x2 : R32 x2) (r_x3 : R32 x3) (r_x4 : R32 x4) (r_s0 : R32 s0) {out : (ZQ × Int)} (hf : f_L_refuses_53 z m0 x2 x3 x4 s0 = some out) (hc : (fun out : (ZQ × Int) => RetQZ X K H0 cL_refuses 62 out.1 out.2) out) : Jj (kAdd K 0 (6 * 0)) (WdQ X H0) z 53 [some (rf (X.M m0).ad 1), some (.ref X.oa), some (.int (ii x2)), some (.int (ii x3)), some (.int (ii x4)), o5, o6, o7, o8, o9, o10, o11] [.int (ii s0)] := by
  unfold f_L_refuses_53 at hf
  have o : ∀ a b, Ok (kAdd K a b) cL_refuses "DatalogmillLaw" rm_L_refuses := fun _ _ => OkQ.add k.1
  have g : ∀ a b, GdQ X (kAdd K a b) H0 := fun _ _ => GdQ.add k.2.1
  refine J_istore (o _ _) dL_refuses_53 (Nat.le_of_ble_eq_true rfl) ?_
  refine J_iload_n (o _ _) dL_refuses_55 rfl ?_
  refine J_if_eq 68 (o _ _) dL_refuses_56 (by decide) r_x3 (fun c1 => ?_) (fun c2 => ?_)
  · have hf := ite_t c1 hf
    refine J_aldO_n (o _ _) dL_refuses_68 rfl ?_
    refine J_iconst (o _ _) dL_refuses_69 ?_
    refine J_nld (o _ _) (g _ _) dL_refuses_70 rl0 ⟨by decide, by decide⟩ (fun q3 => ?_)
    refine J_iload_n (o _ _) dL_refuses_71 rfl ?_
    refine J_bipush (o _ _) dL_refuses_72 (by decide) ?_
    refine J_irem (o _ _) dL_refuses_74 rl50 (by decide) ?_
    refine J_iadd (o _ _) dL_refuses_75 ?_
    exact t_L_refuses_76 k r_x2 r_x3 r_x4 r_s0 (R_wr _) hf hc
  · have hf := ite_f c2 hf
    refine J_iconst (o _ _) dL_refuses_59 ?_
    refine J_iload_n (o _ _) dL_refuses_60 rfl ?_
    refine J_bipush (o _ _) dL_refuses_61 (by decide) ?_
    refine J_irem (o _ _) dL_refuses_63 rl50 (by decide) ?_
    refine J_isub (o _ _) dL_refuses_64 ?_
    refine J_goto 76 (o _ _) dL_refuses_65 (by decide) ?_
    exact t_L_refuses_76 k r_x2 r_x3 r_x4 r_s0 (R_wr _) hf hc
noncomputable def f_L_refuses_31 (z : ZQ) (m0 : Bool) (x2 : Int) (x3 : Int) (s0 : Int) : Option (ZQ × Int) :=
  if x3 = 0 then (f_L_refuses_53 z m0 x2 x3 s0 (wr (10 + (irem x2 50)))) else (f_L_refuses_53 z m0 x2 x3 s0 (wr ((-1) - (irem x2 50))))
set_option maxRecDepth 100000 in
theorem t_L_refuses_31 {X : QX} {K : KT} {H0 : Heap} (k : KofQ X K H0 cL_refuses "DatalogmillLaw" rm_L_refuses 62) {z : ZQ} {m0 : Bool} {x2 : Int} {x3 : Int} {s0 : Int} {o4 o5 o6 o7 o8 o9 o10 o11 : Option Value} (r_x2 : R32 x2) (r_x3 : R32 x3) (r_s0 : R32 s0) {out : (ZQ × Int)} (hf : f_L_refuses_31 z m0 x2 x3 s0 = some out) (hc : (fun out : (ZQ × Int) => RetQZ X K H0 cL_refuses 62 out.1 out.2) out) : Jj (kAdd K 0 (6 * 0)) (WdQ X H0) z 31 [some (rf (X.M m0).ad 1), some (.ref X.oa), some (.int (ii x2)), some (.int (ii x3)), o4, o5, o6, o7, o8, o9, o10, o11] [.int (ii s0)] := by
  unfold f_L_refuses_31 at hf
  have o : ∀ a b, Ok (kAdd K a b) cL_refuses "DatalogmillLaw" rm_L_refuses := fun _ _ => OkQ.add k.1
  have g : ∀ a b, GdQ X (kAdd K a b) H0 := fun _ _ => GdQ.add k.2.1
  refine J_istore (o _ _) dL_refuses_31 (Nat.le_of_ble_eq_true rfl) ?_
  refine J_iload_n (o _ _) dL_refuses_33 rfl ?_
  refine J_if_eq 46 (o _ _) dL_refuses_34 (by decide) r_x3 (fun c1 => ?_) (fun c2 => ?_)
  · have hf := ite_t c1 hf
    refine J_bipush (o _ _) dL_refuses_46 (by decide) ?_
    refine J_iload_n (o _ _) dL_refuses_48 rfl ?_
    refine J_bipush (o _ _) dL_refuses_49 (by decide) ?_
    refine J_irem (o _ _) dL_refuses_51 rl50 (by decide) ?_
    refine J_iadd (o _ _) dL_refuses_52 ?_
    exact t_L_refuses_53 k r_x2 r_x3 r_s0 (R_wr _) hf hc
  · have hf := ite_f c2 hf
    refine J_iconst (o _ _) dL_refuses_37 ?_
    refine J_iload_n (o _ _) dL_refuses_38 rfl ?_
    refine J_bipush (o _ _) dL_refuses_39 (by decide) ?_
    refine J_irem (o _ _) dL_refuses_41 rl50 (by decide) ?_
    refine J_isub (o _ _) dL_refuses_42 ?_
    refine J_goto 53 (o _ _) dL_refuses_43 (by decide) ?_
    exact t_L_refuses_53 k r_x2 r_x3 r_s0 (R_wr _) hf hc
noncomputable def f_L_refuses_11 (z : ZQ) (m0 : Bool) (x2 : Int) (s0 : Int) : Option (ZQ × Int) :=
  if s0 = 0 then (f_L_refuses_31 z m0 x2 s0 (wr (6 + (irem x2 4)))) else (f_L_refuses_31 z m0 x2 s0 (wr ((-1) - (irem x2 50))))
set_option maxRecDepth 100000 in
theorem t_L_refuses_11 {X : QX} {K : KT} {H0 : Heap} (k : KofQ X K H0 cL_refuses "DatalogmillLaw" rm_L_refuses 62) {z : ZQ} {m0 : Bool} {x2 : Int} {s0 : Int} {o3 o4 o5 o6 o7 o8 o9 o10 o11 : Option Value} (r_x2 : R32 x2) (r_s0 : R32 s0) {out : (ZQ × Int)} (hf : f_L_refuses_11 z m0 x2 s0 = some out) (hc : (fun out : (ZQ × Int) => RetQZ X K H0 cL_refuses 62 out.1 out.2) out) : Jj (kAdd K 0 (6 * 0)) (WdQ X H0) z 11 [some (rf (X.M m0).ad 1), some (.ref X.oa), some (.int (ii x2)), o3, o4, o5, o6, o7, o8, o9, o10, o11] [.int (ii s0)] := by
  unfold f_L_refuses_11 at hf
  have o : ∀ a b, Ok (kAdd K a b) cL_refuses "DatalogmillLaw" rm_L_refuses := fun _ _ => OkQ.add k.1
  have g : ∀ a b, GdQ X (kAdd K a b) H0 := fun _ _ => GdQ.add k.2.1
  refine J_istore_n (o _ _) dL_refuses_11 (Nat.le_of_ble_eq_true rfl) ?_
  refine J_iload_n (o _ _) dL_refuses_12 rfl ?_
  refine J_if_eq 25 (o _ _) dL_refuses_13 (by decide) r_s0 (fun c1 => ?_) (fun c2 => ?_)
  · have hf := ite_t c1 hf
    refine J_bipush (o _ _) dL_refuses_25 (by decide) ?_
    refine J_iload_n (o _ _) dL_refuses_27 rfl ?_
    refine J_iconst (o _ _) dL_refuses_28 ?_
    refine J_irem (o _ _) dL_refuses_29 rl4 (by decide) ?_
    refine J_iadd (o _ _) dL_refuses_30 ?_
    exact t_L_refuses_31 k r_x2 r_s0 (R_wr _) hf hc
  · have hf := ite_f c2 hf
    refine J_iconst (o _ _) dL_refuses_16 ?_
    refine J_iload_n (o _ _) dL_refuses_17 rfl ?_
    refine J_bipush (o _ _) dL_refuses_18 (by decide) ?_
    refine J_irem (o _ _) dL_refuses_20 rl50 (by decide) ?_
    refine J_isub (o _ _) dL_refuses_21 ?_
    refine J_goto 31 (o _ _) dL_refuses_22 (by decide) ?_
    exact t_L_refuses_31 k r_x2 r_s0 (R_wr _) hf hc
noncomputable def f_L_refuses (z : ZQ) (m0 : Bool) (x2 : Int) : Option (ZQ × Int) :=
  if (irem x2 2) = 0 then (f_L_refuses_11 z m0 x2 1) else (f_L_refuses_11 z m0 x2 0)
set_option maxRecDepth 100000 in
theorem t_L_refuses_0 {X : QX} {K : KT} {H0 : Heap} (k : KofQ X K H0 cL_refuses "DatalogmillLaw" rm_L_refuses 62) {z : ZQ} {m0 : Bool} {x2 : Int} {o3 o4 o5 o6 o7 o8 o9 o10 o11 : Option Value} (r_x2 : R32 x2) {out : (ZQ × Int)} (hf : f_L_refuses z m0 x2 = some out) (hc : (fun out : (ZQ × Int) => RetQZ X K H0 cL_refuses 62 out.1 out.2) out) : Jj (kAdd K 0 (6 * 0)) (WdQ X H0) z 0 [some (rf (X.M m0).ad 1), some (.ref X.oa), some (.int (ii x2)), o3, o4, o5, o6, o7, o8, o9, o10, o11] [] := by
  unfold f_L_refuses at hf
  have o : ∀ a b, Ok (kAdd K a b) cL_refuses "DatalogmillLaw" rm_L_refuses := fun _ _ => OkQ.add k.1
  have g : ∀ a b, GdQ X (kAdd K a b) H0 := fun _ _ => GdQ.add k.2.1
  refine J_iload_n (o _ _) dL_refuses_0 rfl ?_
  refine J_iconst (o _ _) dL_refuses_1 ?_
  refine J_irem (o _ _) dL_refuses_2 rl2 (by decide) ?_
  refine J_if_ne 10 (o _ _) dL_refuses_3 (by decide) (R_irem _ _) (fun c1 => ?_) (fun c2 => ?_)
  · have hf := ite_f c1 hf
    refine J_iconst (o _ _) dL_refuses_10 ?_
    exact t_L_refuses_11 k r_x2 rl0 hf hc
  · have hf := ite_t c2 hf
    refine J_iconst (o _ _) dL_refuses_6 ?_
    refine J_goto 11 (o _ _) dL_refuses_7 (by decide) ?_
    exact t_L_refuses_11 k r_x2 rl1 hf hc
theorem c_L_refuses {X : QX} {l : Launch} (hst : l.stackTraces = false) (hA : ApQ X) {z : ZQ} {m0 : Bool} {x2 : Int} (r_x2 : R32 x2) {out : (ZQ × Int)} (hf : f_L_refuses z m0 x2 = some out) : ConQ X l yL_refuses (WS yL_refuses cL_refuses 12 (some .boolean)) rm_L_refuses [rf (X.M m0).ad 1, .ref X.oa, .int (ii x2)] z out.1 out.2 :=
  con_QZ (by decide +kernel) rfl (Nat.le_of_ble_eq_true rfl) (c1s_r (c1s_a (c1s_i c1s_0 (Nat.le_of_ble_eq_true rfl)) (Nat.le_of_ble_eq_true rfl)) (Nat.le_of_ble_eq_true rfl)).1 ⟨rfl, rfl⟩ hA hst (fun K H0 k hret => t_L_refuses_0 k r_x2 hf hret)
