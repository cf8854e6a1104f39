/-! THE LAW'S OWN METHODS, as functions: printed by program -/
theorem J_tt {ω : Type} {K : KT} {Wd : ω → Heap → List Loc → Prop} {w : ω} {pc t u : Nat} {L : List (Option Value)} {st : List Value} (h : t = u) (k : Jj (kAdd K u (6 * u)) Wd w pc L st) : Jj (kAdd K t (6 * t)) Wd w pc L st := by rw [h]; exact k
set_option maxRecDepth 20000 in
theorem mw575 : Cond.constant "DatalogmillLaw" (103 : Nat) (15526151 : Int32) ∈ GW := inGW (List.mem_of_getElem? (i := 575) (by rfl)) (by decide +kernel)
theorem kcL_103 : Cond.constant "DatalogmillLaw" 103 (ii (15526151)) ∈ GW := by
  rw [show ii (15526151) = (15526151 : Int32) by decide]
  exact mw575
theorem rl15526151 : R32 (15526151) := ⟨by decide, by decide⟩
theorem rl14177 : R32 (14177) := ⟨by decide, by decide⟩
set_option maxRecDepth 20000 in
theorem mw576 : Cond.constant "DatalogmillLaw" (104 : Nat) (2147483647 : Int32) ∈ GW := inGW (List.mem_of_getElem? (i := 576) (by rfl)) (by decide +kernel)
theorem kcL_104 : Cond.constant "DatalogmillLaw" 104 (ii (2147483647)) ∈ GW := by
  rw [show ii (2147483647) = (2147483647 : Int32) by decide]
  exact mw576
theorem rl2147483647 : R32 (2147483647) := ⟨by decide, by decide⟩
set_option maxRecDepth 20000 in
theorem mw580 : Cond.methodLink "DatalogmillLaw" (111 : Nat) ({ cls := "DatalogmillLaw", name := "facts", desc := "(LDatalogmill;IIIIIII)I" } : MethodName) ∈ GW := inGW (List.mem_of_getElem? (i := 580) (by rfl)) (by decide +kernel)
set_option maxRecDepth 20000 in
theorem mw581 : Cond.static ({ cls := "DatalogmillLaw", name := "facts", desc := "(LDatalogmill;IIIIIII)I" } : MethodName) ∈ GW := inGW (List.mem_of_getElem? (i := 581) (by rfl)) (by decide +kernel)
set_option maxRecDepth 20000 in
theorem mw111 : Cond.initialized "DatalogmillLaw" ∈ GW := inGW (List.mem_of_getElem? (i := 111) (by rfl)) (by decide +kernel)
set_option maxRecDepth 20000 in
theorem mw582 : Cond.codeWith yL_facts cL_facts 9 (some .int) hh_L_facts ∈ GW := inGW (List.mem_of_getElem? (i := 582) (by rfl)) (by decide +kernel)
theorem rl90 : R32 (90) := ⟨by decide, by decide⟩
theorem rl384 : R32 (384) := ⟨by decide, by decide⟩
set_option maxRecDepth 20000 in
theorem mw814 : Cond.methodLink "DatalogmillLaw" (115 : Nat) ({ cls := "DatalogmillLaw", name := "drops", desc := "(LDatalogmill;I)I" } : MethodName) ∈ GW := inGW (List.mem_of_getElem? (i := 814) (by rfl)) (by decide +kernel)
set_option maxRecDepth 20000 in
theorem mw815 : Cond.static ({ cls := "DatalogmillLaw", name := "drops", desc := "(LDatalogmill;I)I" } : MethodName) ∈ GW := inGW (List.mem_of_getElem? (i := 815) (by rfl)) (by decide +kernel)
set_option maxRecDepth 20000 in
theorem mw816 : Cond.codeWith yL_drops cL_drops 3 (some .int) hh_L_drops ∈ GW := inGW (List.mem_of_getElem? (i := 816) (by rfl)) (by decide +kernel)
set_option maxRecDepth 20000 in
theorem mw839 : Cond.methodLink "DatalogmillLaw" (119 : Nat) ({ cls := "DatalogmillLaw", name := "heads", desc := "(LDatalogmill;IIII)I" } : MethodName) ∈ GW := inGW (List.mem_of_getElem? (i := 839) (by rfl)) (by decide +kernel)
set_option maxRecDepth 20000 in
theorem mw840 : Cond.static ({ cls := "DatalogmillLaw", name := "heads", desc := "(LDatalogmill;IIII)I" } : MethodName) ∈ GW := inGW (List.mem_of_getElem? (i := 840) (by rfl)) (by decide +kernel)
set_option maxRecDepth 20000 in
theorem mw841 : Cond.codeWith yL_heads cL_heads 6 (some .int) hh_L_heads ∈ GW := inGW (List.mem_of_getElem? (i := 841) (by rfl)) (by decide +kernel)
set_option maxRecDepth 20000 in
theorem mw1269 : Cond.methodLink "DatalogmillLaw" (174 : Nat) ({ cls := "DatalogmillLaw", name := "term", desc := "(I)I" } : MethodName) ∈ GW := inGW (List.mem_of_getElem? (i := 1269) (by rfl)) (by decide +kernel)
set_option maxRecDepth 20000 in
theorem mw1270 : Cond.static ({ cls := "DatalogmillLaw", name := "term", desc := "(I)I" } : MethodName) ∈ GW := inGW (List.mem_of_getElem? (i := 1270) (by rfl)) (by decide +kernel)
set_option maxRecDepth 20000 in
theorem mw1271 : Cond.code yL_term cL_term 1 (some .int) ∈ GW := inGW (List.mem_of_getElem? (i := 1271) (by rfl)) (by decide +kernel)
theorem ml_L_term : ML yL_term cL_term 1 (some .int) 1 := ⟨mw1271, mw111, by decide +kernel, by decide +kernel, by decide +kernel⟩
set_option maxRecDepth 20000 in
theorem mw856 : Cond.methodLink "DatalogmillLaw" (122 : Nat) ({ cls := "DatalogmillLaw", name := "atoms", desc := "(LDatalogmill;IZIII)I" } : MethodName) ∈ GW := inGW (List.mem_of_getElem? (i := 856) (by rfl)) (by decide +kernel)
set_option maxRecDepth 20000 in
theorem mw857 : Cond.static ({ cls := "DatalogmillLaw", name := "atoms", desc := "(LDatalogmill;IZIII)I" } : MethodName) ∈ GW := inGW (List.mem_of_getElem? (i := 857) (by rfl)) (by decide +kernel)
set_option maxRecDepth 20000 in
theorem mw858 : Cond.codeWith yL_atoms cL_atoms 7 (some .int) hh_L_atoms ∈ GW := inGW (List.mem_of_getElem? (i := 858) (by rfl)) (by decide +kernel)
set_option maxRecDepth 20000 in
theorem mw889 : Cond.methodLink "DatalogmillLaw" (133 : Nat) ({ cls := "DatalogmillLaw", name := "removes", desc := "(LDatalogmill;I)I" } : MethodName) ∈ GW := inGW (List.mem_of_getElem? (i := 889) (by rfl)) (by decide +kernel)
set_option maxRecDepth 20000 in
theorem mw890 : Cond.static ({ cls := "DatalogmillLaw", name := "removes", desc := "(LDatalogmill;I)I" } : MethodName) ∈ GW := inGW (List.mem_of_getElem? (i := 890) (by rfl)) (by decide +kernel)
set_option maxRecDepth 20000 in
theorem mw891 : Cond.codeWith yL_removes cL_removes 3 (some .int) hh_L_removes ∈ GW := inGW (List.mem_of_getElem? (i := 891) (by rfl)) (by decide +kernel)
theorem rl96 : R32 (96) := ⟨by decide, by decide⟩
set_option maxRecDepth 20000 in
theorem mw1024 : Cond.methodLink "DatalogmillLaw" (151 : Nat) ({ cls := "DatalogmillLaw", name := "size", desc := "(LDatalogmill;I)I" } : MethodName) ∈ GW := inGW (List.mem_of_getElem? (i := 1024) (by rfl)) (by decide +kernel)
set_option maxRecDepth 20000 in
theorem mw1025 : Cond.static ({ cls := "DatalogmillLaw", name := "size", desc := "(LDatalogmill;I)I" } : MethodName) ∈ GW := inGW (List.mem_of_getElem? (i := 1025) (by rfl)) (by decide +kernel)
set_option maxRecDepth 20000 in
theorem mw1026 : Cond.codeWith yL_size cL_size 3 (some .int) hh_L_size ∈ GW := inGW (List.mem_of_getElem? (i := 1026) (by rfl)) (by decide +kernel)
set_option maxRecDepth 20000 in
theorem mw982 : Cond.methodLink "DatalogmillLaw" (140 : Nat) ({ cls := "DatalogmillLaw", name := "passes", desc := "(LDatalogmill;)I" } : MethodName) ∈ GW := inGW (List.mem_of_getElem? (i := 982) (by rfl)) (by decide +kernel)
set_option maxRecDepth 20000 in
theorem mw983 : Cond.static ({ cls := "DatalogmillLaw", name := "passes", desc := "(LDatalogmill;)I" } : MethodName) ∈ GW := inGW (List.mem_of_getElem? (i := 983) (by rfl)) (by decide +kernel)
set_option maxRecDepth 20000 in
theorem mw984 : Cond.codeWith yL_passes cL_passes 2 (some .int) hh_L_passes ∈ GW := inGW (List.mem_of_getElem? (i := 984) (by rfl)) (by decide +kernel)
theorem rlm4 : R32 (-4) := ⟨by decide, by decide⟩
set_option maxRecDepth 20000 in
theorem mw882 : Cond.methodLink "DatalogmillLaw" (130 : Nat) ({ cls := "DatalogmillLaw", name := "adds", desc := "(LDatalogmill;III)I" } : MethodName) ∈ GW := inGW (List.mem_of_getElem? (i := 882) (by rfl)) (by decide +kernel)
set_option maxRecDepth 20000 in
theorem mw883 : Cond.static ({ cls := "DatalogmillLaw", name := "adds", desc := "(LDatalogmill;III)I" } : MethodName) ∈ GW := inGW (List.mem_of_getElem? (i := 883) (by rfl)) (by decide +kernel)
set_option maxRecDepth 20000 in
theorem mw884 : Cond.codeWith yL_adds cL_adds 5 (some .int) hh_L_adds ∈ GW := inGW (List.mem_of_getElem? (i := 884) (by rfl)) (by decide +kernel)
set_option maxRecDepth 20000 in
theorem mw873 : Cond.methodLink "DatalogmillLaw" (126 : Nat) ({ cls := "DatalogmillLaw", name := "compares", desc := "(LDatalogmill;III)I" } : MethodName) ∈ GW := inGW (List.mem_of_getElem? (i := 873) (by rfl)) (by decide +kernel)
set_option maxRecDepth 20000 in
theorem mw874 : Cond.static ({ cls := "DatalogmillLaw", name := "compares", desc := "(LDatalogmill;III)I" } : MethodName) ∈ GW := inGW (List.mem_of_getElem? (i := 874) (by rfl)) (by decide +kernel)
set_option maxRecDepth 20000 in
theorem mw875 : Cond.codeWith yL_compares cL_compares 5 (some .int) hh_L_compares ∈ GW := inGW (List.mem_of_getElem? (i := 875) (by rfl)) (by decide +kernel)
set_option maxRecDepth 20000 in
theorem mw1272 : Cond.methodLink "DatalogmillLaw" (177 : Nat) ({ cls := "DatalogmillLaw", name := "enters", desc := "(LDatalogmill;)I" } : MethodName) ∈ GW := inGW (List.mem_of_getElem? (i := 1272) (by rfl)) (by decide +kernel)
set_option maxRecDepth 20000 in
theorem mw1273 : Cond.static ({ cls := "DatalogmillLaw", name := "enters", desc := "(LDatalogmill;)I" } : MethodName) ∈ GW := inGW (List.mem_of_getElem? (i := 1273) (by rfl)) (by decide +kernel)
set_option maxRecDepth 20000 in
theorem mw1274 : Cond.codeWith yL_enters cL_enters 2 (some .int) hh_L_enters ∈ GW := inGW (List.mem_of_getElem? (i := 1274) (by rfl)) (by decide +kernel)
set_option maxRecDepth 20000 in
theorem mw1296 : Cond.methodLink "DatalogmillLaw" (180 : Nat) ({ cls := "Datalogmill", name := "clear", desc := "()I" } : MethodName) ∈ GW := inGW (List.mem_of_getElem? (i := 1296) (by rfl)) (by decide +kernel)
theorem lkL_180 : LK "DatalogmillLaw" 180 yX10_clear := Or.inl mw1296
set_option maxRecDepth 20000 in
theorem mw1299 : Cond.code yX10_clear cX10_clear 2 (some .int) ∈ GW := inGW (List.mem_of_getElem? (i := 1299) (by rfl)) (by decide +kernel)
theorem ml_Dm_clear : ML yX10_clear cX10_clear 2 (some .int) 0 := ⟨mw1299, mw112, by decide +kernel, by decide +kernel, by decide +kernel⟩
set_option maxRecDepth 20000 in
theorem mw1297 : Cond.instanceMethod ({ cls := "Datalogmill", name := "clear", desc := "()I" } : MethodName) ∈ GW := inGW (List.mem_of_getElem? (i := 1297) (by rfl)) (by decide +kernel)
set_option maxRecDepth 20000 in
theorem mw1298 : Cond.selects "Datalogmill" ({ cls := "Datalogmill", name := "clear", desc := "()I" } : MethodName) ({ cls := "Datalogmill", name := "clear", desc := "()I" } : MethodName) ∈ GW := inGW (List.mem_of_getElem? (i := 1298) (by rfl)) (by decide +kernel)
theorem vl_Dm_clear : VL yX10_clear := ⟨mw1297, mw1298⟩
set_option maxRecDepth 20000 in
theorem mw944 : Cond.methodLink "DatalogmillLaw" (136 : Nat) ({ cls := "DatalogmillLaw", name := "denies", desc := "(LDatalogmill;)I" } : MethodName) ∈ GW := inGW (List.mem_of_getElem? (i := 944) (by rfl)) (by decide +kernel)
set_option maxRecDepth 20000 in
theorem mw945 : Cond.static ({ cls := "DatalogmillLaw", name := "denies", desc := "(LDatalogmill;)I" } : MethodName) ∈ GW := inGW (List.mem_of_getElem? (i := 945) (by rfl)) (by decide +kernel)
set_option maxRecDepth 20000 in
theorem mw946 : Cond.codeWith yL_denies cL_denies 2 (some .int) hh_L_denies ∈ GW := inGW (List.mem_of_getElem? (i := 946) (by rfl)) (by decide +kernel)
abbrev rm_L_drawn : Room := { frames := 1, cells := 0, slots := 0, locals := 24 }
noncomputable def f_L_drawn (z : ZQ) (sn : Nat) (sx : Nat → Int) (x1 : Int) : Option (ZQ × Int) :=
  if (sn : Int) ≤ x1 then (some (z, iand (wr ((wr (15526151 * (wr (x1 + 3)))) + 14177)) 2147483647)) else (gd (0 ≤ x1 ∧ x1 < (sn : Int)) (some (z, iand (sx x1.toNat) 2147483647)))
set_option maxRecDepth 100000 in
theorem t_L_drawn_0 {X : QX} {K : KT} {H0 : Heap} (k : KofQ X K H0 cL_drawn "DatalogmillLaw" rm_L_drawn 0) {z : ZQ} {x1 : Int} (r_x1 : R32 x1) {out : (ZQ × Int)} (hf : f_L_drawn z X.n (scQ X) x1 = some out) (hc : (fun out : (ZQ × Int) => RetQI X K H0 cL_drawn 0 out.1 out.2) out) : Jj (kAdd K 0 (6 * 0)) (WdQ X H0) z 0 [some (.ref X.b), some (.int (ii x1))] [] := by
  unfold f_L_drawn at hf
  have o : ∀ a b, Ok (kAdd K a b) cL_drawn "DatalogmillLaw" rm_L_drawn := fun _ _ => OkQ.add k.1
  have g : ∀ a b, GdQ X (kAdd K a b) H0 := fun _ _ => GdQ.add k.2.1
  refine J_iload_n (o _ _) dL_drawn_0 rfl ?_
  refine J_aldO_n (o _ _) dL_drawn_1 rfl ?_
  refine J_qslen (o _ _) (g _ _) dL_drawn_2 (fun q1 => ?_)
  refine J_icmp_ge 12 (o _ _) dL_drawn_3 (by decide) r_x1 q1 (fun c2 => ?_) (fun c3 => ?_)
  · have hf := ite_t c2 hf
    refine J_ldc (o _ _) dL_drawn_12 kcL_103 ?_
    refine J_iload_n (o _ _) dL_drawn_14 rfl ?_
    refine J_iconst (o _ _) dL_drawn_15 ?_
    refine J_iadd (o _ _) dL_drawn_16 ?_
    refine J_imul (o _ _) dL_drawn_17 ?_
    refine J_sipush (o _ _) dL_drawn_18 (by decide) ?_
    refine J_iadd (o _ _) dL_drawn_21 ?_
    refine J_ldc (o _ _) dL_drawn_22 kcL_104 ?_
    refine J_iand (o _ _) dL_drawn_24 ?_
    have hf := some_inj hf
    subst hf
    exact hc _ _ _ (Nat.le_of_ble_eq_true rfl) (R_iand _ _) dL_drawn_25
  · have hf := ite_f c3 hf
    refine J_aldO_n (o _ _) dL_drawn_6 rfl ?_
    refine J_iload_n (o _ _) dL_drawn_7 rfl ?_
    obtain ⟨g4, hf⟩ := gd_some hf
    refine J_qsld (o _ _) (g _ _) dL_drawn_8 r_x1 g4 ?_
    refine J_goto 22 (o _ _) dL_drawn_9 (by decide) ?_
    refine J_ldc (o _ _) dL_drawn_22 kcL_104 ?_
    refine J_iand (o _ _) dL_drawn_24 ?_
    have hf := some_inj hf
    subst hf
    exact hc _ _ _ (Nat.le_of_ble_eq_true rfl) (R_iand _ _) dL_drawn_25
theorem c_L_drawn {X : QX} {l : Launch} (hst : l.stackTraces = false) (hA : ApQ X) {z : ZQ} {x1 : Int} (r_x1 : R32 x1) {out : (ZQ × Int)} (hf : f_L_drawn z X.n (scQ X) x1 = some out) : ConQ X l yL_drawn (WS yL_drawn cL_drawn 2 (some .int)) rm_L_drawn [.ref X.b, .int (ii x1)] z out.1 out.2 :=
  con_QI (by decide +kernel) rfl (Nat.le_of_ble_eq_true rfl) (c1s_a (c1s_i c1s_0 (Nat.le_of_ble_eq_true rfl)) (Nat.le_of_ble_eq_true rfl)).1 ⟨rfl, rfl⟩ hA hst (fun K H0 k hret => t_L_drawn_0 k r_x1 hf hret)
abbrev rm_L_term : Room := { frames := 1, cells := 0, slots := 0, locals := 24 }
noncomputable def f_L_term (z : ZQ) (x0 : Int) : Option (ZQ × Int) :=
  if 4 ≤ (irem x0 5) then (some (z, irem (idiv x0 5) 4)) else (some (z, wr ((-1) - (irem (irem x0 5) 3))))
set_option maxRecDepth 100000 in
theorem t_L_term_0 {X : QX} {K : KT} {H0 : Heap} (k : KofQ X K H0 cL_term "DatalogmillLaw" rm_L_term 0) {z : ZQ} {x0 : Int} (r_x0 : R32 x0) {out : (ZQ × Int)} (hf : f_L_term z x0 = some out) (hc : (fun out : (ZQ × Int) => RetQI X K H0 cL_term 0 out.1 out.2) out) : Jj (kAdd K 0 (6 * 0)) (WdQ X H0) z 0 [some (.int (ii x0))] [] := by
  unfold f_L_term at hf
  have o : ∀ a b, Ok (kAdd K a b) cL_term "DatalogmillLaw" rm_L_term := fun _ _ => OkQ.add k.1
  have g : ∀ a b, GdQ X (kAdd K a b) H0 := fun _ _ => GdQ.add k.2.1
  refine J_iload_n (o _ _) dL_term_0 rfl ?_
  refine J_iconst (o _ _) dL_term_1 ?_
  refine J_irem (o _ _) dL_term_2 rl5 (by decide) ?_
  refine J_iconst (o _ _) dL_term_3 ?_
  refine J_icmp_ge 17 (o _ _) dL_term_4 (by decide) (R_irem _ _) rl4 (fun c1 => ?_) (fun c2 => ?_)
  · have hf := ite_t c1 hf
    refine J_iload_n (o _ _) dL_term_17 rfl ?_
    refine J_iconst (o _ _) dL_term_18 ?_
    refine J_idiv (o _ _) dL_term_19 rl5 (by decide) ?_
    refine J_iconst (o _ _) dL_term_20 ?_
    refine J_irem (o _ _) dL_term_21 rl4 (by decide) ?_
    have hf := some_inj hf
    subst hf
    exact hc _ _ _ (Nat.le_of_ble_eq_true rfl) (R_irem _ _) dL_term_22
  · have hf := ite_f c2 hf
    refine J_iconst (o _ _) dL_term_7 ?_
    refine J_iload_n (o _ _) dL_term_8 rfl ?_
    refine J_iconst (o _ _) dL_term_9 ?_
    refine J_irem (o _ _) dL_term_10 rl5 (by decide) ?_
    refine J_iconst (o _ _) dL_term_11 ?_
    refine J_irem (o _ _) dL_term_12 rl3 (by decide) ?_
    refine J_isub (o _ _) dL_term_13 ?_
    refine J_goto 22 (o _ _) dL_term_14 (by decide) ?_
    have hf := some_inj hf
    subst hf
    exact hc _ _ _ (Nat.le_of_ble_eq_true rfl) (R_wr _) dL_term_22
theorem c_L_term {X : QX} {l : Launch} (hst : l.stackTraces = false) (hA : ApQ X) {z : ZQ} {x0 : Int} (r_x0 : R32 x0) {out : (ZQ × Int)} (hf : f_L_term z x0 = some out) : ConQ X l yL_term (WS yL_term cL_term 1 (some .int)) rm_L_term [.int (ii x0)] z out.1 out.2 :=
  con_QI (by decide +kernel) rfl (Nat.le_of_ble_eq_true rfl) (c1s_i c1s_0 (Nat.le_of_ble_eq_true rfl)).1 ⟨rfl, rfl⟩ hA hst (fun K H0 k hret => t_L_term_0 k r_x0 hf hret)
abbrev rm_L_count : Room := { frames := 1, cells := 0, slots := 0, locals := 24 }
noncomputable def f_L_count_235 (z : ZQ) : Option ZQ :=
  bl (zn z 3 0) fun z1 => bl (zn z1 4 0) fun z2 => some z2
set_option maxRecDepth 100000 in
theorem t_L_count_235 {X : QX} {K : KT} {H0 : Heap} (k : KofQ X K H0 cL_count "DatalogmillLaw" rm_L_count 0) {z : ZQ} {o1 o2 o3 o4 o5 o6 o7 : Option Value}  {out : ZQ} (hf : f_L_count_235 z = some out) (hc : (fun out : ZQ => RetQV X K H0 cL_count 0 out) out) : Jj (kAdd K 0 (6 * 0)) (WdQ X H0) z 235 [some (.ref X.oa), o1, o2, o3, o4, o5, o6, o7] [] := by
  unfold f_L_count_235 at hf
  have o : ∀ a b, Ok (kAdd K a b) cL_count "DatalogmillLaw" rm_L_count := fun _ _ => OkQ.add k.1
  have g : ∀ a b, GdQ X (kAdd K a b) H0 := fun _ _ => GdQ.add k.2.1
  refine J_aldO_n (o _ _) dL_count_235 rfl ?_
  refine J_iconst (o _ _) dL_count_236 ?_
  refine J_iconst (o _ _) dL_count_237 ?_
  refine J_nst (o _ _) (g _ _) dL_count_238 rl3 ⟨by decide, by decide⟩ rl0 ?_
  have hf := bl_out hf
  refine J_aldO_n (o _ _) dL_count_239 rfl ?_
  refine J_iconst (o _ _) dL_count_240 ?_
  refine J_iconst (o _ _) dL_count_241 ?_
  refine J_nst (o _ _) (g _ _) dL_count_242 rl4 ⟨by decide, by decide⟩ rl0 ?_
  have hf := bl_out hf
  have hf := some_inj hf
  subst hf
  exact hc _ _ _ (Nat.le_of_ble_eq_true rfl)  dL_count_243
noncomputable def f_L_count_209 (z : ZQ) (x3 : Int) (x4 : Int) (x6 : Int) (x7 : Int) (s1 : Int) (s2 : Int) (s3 : Int) : Option ZQ :=
  gd (0 ≤ s1 ∧ s1 < 6) (bl (zn z s1.toNat (wr (s2 + s3))) fun z2 => if x6 = 0 then (if x7 = 0 then (if x3 = 14 then (if (irem x4 3) = 1 then (f_L_count_235 z2) else (some z2)) else (some z2)) else (f_L_count_235 z2)) else (f_L_count_235 z2))
set_option maxRecDepth 100000 in
theorem t_L_count_209 {X : QX} {K : KT} {H0 : Heap} (k : KofQ X K H0 cL_count "DatalogmillLaw" rm_L_count 0) {z : ZQ} {x3 : Int} {x4 : Int} {x6 : Int} {x7 : Int} {s1 : Int} {s2 : Int} {s3 : Int} {o1 o2 o5 : Option Value} (r_x3 : R32 x3) (r_x4 : R32 x4) (r_x6 : R32 x6) (r_x7 : R32 x7) (r_s1 : R32 s1) (r_s2 : R32 s2) (r_s3 : R32 s3) {out : ZQ} (hf : f_L_count_209 z x3 x4 x6 x7 s1 s2 s3 = some out) (hc : (fun out : ZQ => RetQV X K H0 cL_count 0 out) out) : Jj (kAdd K 0 (6 * 0)) (WdQ X H0) z 209 [some (.ref X.oa), o1, o2, some (.int (ii x3)), some (.int (ii x4)), o5, some (.int (ii x6)), some (.int (ii x7))] [.int (ii s3), .int (ii s2), .int (ii s1), .ref X.oa] := by
  unfold f_L_count_209 at hf
  have o : ∀ a b, Ok (kAdd K a b) cL_count "DatalogmillLaw" rm_L_count := fun _ _ => OkQ.add k.1
  have g : ∀ a b, GdQ X (kAdd K a b) H0 := fun _ _ => GdQ.add k.2.1
  refine J_iadd (o _ _) dL_count_209 ?_
  obtain ⟨g1, hf⟩ := gd_some hf
  refine J_nst (o _ _) (g _ _) dL_count_210 r_s1 g1 (R_wr _) ?_
  have hf := bl_out hf
  refine J_iload (o _ _) dL_count_211 rfl ?_
  refine J_if_ne 235 (o _ _) dL_count_213 (by decide) r_x6 (fun c3 => ?_) (fun c4 => ?_)
  · have hf := ite_f c3 hf
    exact t_L_count_235 k  hf hc
  · have hf := ite_t c4 hf
    refine J_iload (o _ _) dL_count_216 rfl ?_
    refine J_if_ne 235 (o _ _) dL_count_218 (by decide) r_x7 (fun c5 => ?_) (fun c6 => ?_)
    · have hf := ite_f c5 hf
      exact t_L_count_235 k  hf hc
    · have hf := ite_t c6 hf
      refine J_iload_n (o _ _) dL_count_221 rfl ?_
      refine J_bipush (o _ _) dL_count_222 (by decide) ?_
      refine J_icmp_ne 243 (o _ _) dL_count_224 (by decide) r_x3 rl14 (fun c7 => ?_) (fun c8 => ?_)
      · have hf := ite_f c7 hf
        have hf := some_inj hf
        subst hf
        exact hc _ _ _ (Nat.le_of_ble_eq_true rfl)  dL_count_243
      · have hf := ite_t c8 hf
        refine J_iload (o _ _) dL_count_227 rfl ?_
        refine J_iconst (o _ _) dL_count_229 ?_
        refine J_irem (o _ _) dL_count_230 rl3 (by decide) ?_
        refine J_iconst (o _ _) dL_count_231 ?_
        refine J_icmp_ne 243 (o _ _) dL_count_232 (by decide) (R_irem _ _) rl1 (fun c9 => ?_) (fun c10 => ?_)
        · have hf := ite_f c9 hf
          have hf := some_inj hf
          subst hf
          exact hc _ _ _ (Nat.le_of_ble_eq_true rfl)  dL_count_243
        · have hf := ite_t c10 hf
          exact t_L_count_235 k  hf hc
noncomputable def f_L_count_193 (z : ZQ) (x3 : Int) (x4 : Int) (x6 : Int) (x7 : Int) (s1 : Int) (s2 : Int) (s3 : Int) : Option ZQ :=
  gd (0 ≤ s1 ∧ s1 < 6) (bl (zn z s1.toNat (wr (s2 + s3))) fun z2 => if x7 = 0 then (f_L_count_209 z2 x3 x4 x6 x7 2 (z2.2.2 2) 0) else (f_L_count_209 z2 x3 x4 x6 x7 2 (z2.2.2 2) 1))
set_option maxRecDepth 100000 in
theorem t_L_count_193 {X : QX} {K : KT} {H0 : Heap} (k : KofQ X K H0 cL_count "DatalogmillLaw" rm_L_count 0) {z : ZQ} {x3 : Int} {x4 : Int} {x6 : Int} {x7 : Int} {s1 : Int} {s2 : Int} {s3 : Int} {o1 o2 o5 : Option Value} (r_x3 : R32 x3) (r_x4 : R32 x4) (r_x6 : R32 x6) (r_x7 : R32 x7) (r_s1 : R32 s1) (r_s2 : R32 s2) (r_s3 : R32 s3) {out : ZQ} (hf : f_L_count_193 z x3 x4 x6 x7 s1 s2 s3 = some out) (hc : (fun out : ZQ => RetQV X K H0 cL_count 0 out) out) : Jj (kAdd K 0 (6 * 0)) (WdQ X H0) z 193 [some (.ref X.oa), o1, o2, some (.int (ii x3)), some (.int (ii x4)), o5, some (.int (ii x6)), some (.int (ii x7))] [.int (ii s3), .int (ii s2), .int (ii s1), .ref X.oa] := by
  unfold f_L_count_193 at hf
  have o : ∀ a b, Ok (kAdd K a b) cL_count "DatalogmillLaw" rm_L_count := fun _ _ => OkQ.add k.1
  have g : ∀ a b, GdQ X (kAdd K a b) H0 := fun _ _ => GdQ.add k.2.1
  refine J_iadd (o _ _) dL_count_193 ?_
  obtain ⟨g1, hf⟩ := gd_some hf
  refine J_nst (o _ _) (g _ _) dL_count_194 r_s1 g1 (R_wr _) ?_
  have hf := bl_out hf
  refine J_aldO_n (o _ _) dL_count_195 rfl ?_
  refine J_iconst (o _ _) dL_count_196 ?_
  refine J_dup2 (o _ _) dL_count_197 rfl rfl ?_
  refine J_nld (o _ _) (g _ _) dL_count_198 rl2 ⟨by decide, by decide⟩ (fun q3 => ?_)
  refine J_iload (o _ _) dL_count_199 rfl ?_
  refine J_if_eq 208 (o _ _) dL_count_201 (by decide) r_x7 (fun c4 => ?_) (fun c5 => ?_)
  · have hf := ite_t c4 hf
    refine J_iconst (o _ _) dL_count_208 ?_
    exact t_L_count_209 k r_x3 r_x4 r_x6 r_x7 rl2 q3 rl0 hf hc
  · have hf := ite_f c5 hf
    refine J_iconst (o _ _) dL_count_204 ?_
    refine J_goto 209 (o _ _) dL_count_205 (by decide) ?_
    exact t_L_count_209 k r_x3 r_x4 r_x6 r_x7 rl2 q3 rl1 hf hc
noncomputable def f_L_count_177 (z : ZQ) (x3 : Int) (x4 : Int) (x6 : Int) (s0 : Int) : Option ZQ :=
  if x6 = 0 then (f_L_count_193 z x3 x4 x6 s0 1 (z.2.2 1) 0) else (f_L_count_193 z x3 x4 x6 s0 1 (z.2.2 1) 1)
set_option maxRecDepth 100000 in
theorem t_L_count_177 {X : QX} {K : KT} {H0 : Heap} (k : KofQ X K H0 cL_count "DatalogmillLaw" rm_L_count 0) {z : ZQ} {x3 : Int} {x4 : Int} {x6 : Int} {s0 : Int} {o1 o2 o5 o7 : Option Value} (r_x3 : R32 x3) (r_x4 : R32 x4) (r_x6 : R32 x6) (r_s0 : R32 s0) {out : ZQ} (hf : f_L_count_177 z x3 x4 x6 s0 = some out) (hc : (fun out : ZQ => RetQV X K H0 cL_count 0 out) out) : Jj (kAdd K 0 (6 * 0)) (WdQ X H0) z 177 [some (.ref X.oa), o1, o2, some (.int (ii x3)), some (.int (ii x4)), o5, some (.int (ii x6)), o7] [.int (ii s0)] := by
  unfold f_L_count_177 at hf
  have o : ∀ a b, Ok (kAdd K a b) cL_count "DatalogmillLaw" rm_L_count := fun _ _ => OkQ.add k.1
  have g : ∀ a b, GdQ X (kAdd K a b) H0 := fun _ _ => GdQ.add k.2.1
  refine J_istore (o _ _) dL_count_177 (Nat.le_of_ble_eq_true rfl) ?_
  refine J_aldO_n (o _ _) dL_count_179 rfl ?_
  refine J_iconst (o _ _) dL_count_180 ?_
  refine J_dup2 (o _ _) dL_count_181 rfl rfl ?_
  refine J_nld (o _ _) (g _ _) dL_count_182 rl1 ⟨by decide, by decide⟩ (fun q1 => ?_)
  refine J_iload (o _ _) dL_count_183 rfl ?_
  refine J_if_eq 192 (o _ _) dL_count_185 (by decide) r_x6 (fun c2 => ?_) (fun c3 => ?_)
  · have hf := ite_t c2 hf
    refine J_iconst (o _ _) dL_count_192 ?_
    exact t_L_count_193 k r_x3 r_x4 r_x6 r_s0 rl1 q1 rl0 hf hc
  · have hf := ite_f c3 hf
    refine J_iconst (o _ _) dL_count_188 ?_
    refine J_goto 193 (o _ _) dL_count_189 (by decide) ?_
    exact t_L_count_193 k r_x3 r_x4 r_x6 r_s0 rl1 q1 rl1 hf hc
noncomputable def f_L_count_176 (z : ZQ) (x3 : Int) (x4 : Int) (x6 : Int) : Option ZQ :=
  f_L_count_177 z x3 x4 x6 0
set_option maxRecDepth 100000 in
theorem t_L_count_176 {X : QX} {K : KT} {H0 : Heap} (k : KofQ X K H0 cL_count "DatalogmillLaw" rm_L_count 0) {z : ZQ} {x3 : Int} {x4 : Int} {x6 : Int} {o1 o2 o5 o7 : Option Value} (r_x3 : R32 x3) (r_x4 : R32 x4) (r_x6 : R32 x6) {out : ZQ} (hf : f_L_count_176 z x3 x4 x6 = some out) (hc : (fun out : ZQ => RetQV X K H0 cL_count 0 out) out) : Jj (kAdd K 0 (6 * 0)) (WdQ X H0) z 176 [some (.ref X.oa), o1, o2, some (.int (ii x3)), some (.int (ii x4)), o5, some (.int (ii x6)), o7] [] := by
  unfold f_L_count_176 at hf
  have o : ∀ a b, Ok (kAdd K a b) cL_count "DatalogmillLaw" rm_L_count := fun _ _ => OkQ.add k.1
  have g : ∀ a b, GdQ X (kAdd K a b) H0 := fun _ _ => GdQ.add k.2.1
  refine J_iconst (o _ _) dL_count_176 ?_
  exact t_L_count_177 k r_x3 r_x4 r_x6 rl0 hf hc
noncomputable def f_L_count_153 (z : ZQ) (x2 : Int) (x3 : Int) (x4 : Int) (s0 : Int) : Option ZQ :=
  if x3 = 14 then (if (irem x4 3) = 0 then (if x2 < 0 then (f_L_count_176 z x3 x4 s0) else (f_L_count_177 z x3 x4 s0 1)) else (f_L_count_176 z x3 x4 s0)) else (f_L_count_176 z x3 x4 s0)
set_option maxRecDepth 100000 in
theorem t_L_count_153 {X : QX} {K : KT} {H0 : Heap} (k : KofQ X K H0 cL_count "DatalogmillLaw" rm_L_count 0) {z : ZQ} {x2 : Int} {x3 : Int} {x4 : Int} {s0 : Int} {o1 o5 o6 o7 : Option Value} (r_x2 : R32 x2) (r_x3 : R32 x3) (r_x4 : R32 x4) (r_s0 : R32 s0) {out : ZQ} (hf : f_L_count_153 z x2 x3 x4 s0 = some out) (hc : (fun out : ZQ => RetQV X K H0 cL_count 0 out) out) : Jj (kAdd K 0 (6 * 0)) (WdQ X H0) z 153 [some (.ref X.oa), o1, some (.int (ii x2)), some (.int (ii x3)), some (.int (ii x4)), o5, o6, o7] [.int (ii s0)] := by
  unfold f_L_count_153 at hf
  have o : ∀ a b, Ok (kAdd K a b) cL_count "DatalogmillLaw" rm_L_count := fun _ _ => OkQ.add k.1
  have g : ∀ a b, GdQ X (kAdd K a b) H0 := fun _ _ => GdQ.add k.2.1
  refine J_istore (o _ _) dL_count_153 (Nat.le_of_ble_eq_true rfl) ?_
  refine J_iload_n (o _ _) dL_count_155 rfl ?_
  refine J_bipush (o _ _) dL_count_156 (by decide) ?_
  refine J_icmp_ne 176 (o _ _) dL_count_158 (by decide) r_x3 rl14 (fun c1 => ?_) (fun c2 => ?_)
  · have hf := ite_f c1 hf
    exact t_L_count_176 k r_x3 r_x4 r_s0 hf hc
  · have hf := ite_t c2 hf
    refine J_iload (o _ _) dL_count_161 rfl ?_
    refine J_iconst (o _ _) dL_count_163 ?_
    refine J_irem (o _ _) dL_count_164 rl3 (by decide) ?_
    refine J_if_ne 176 (o _ _) dL_count_165 (by decide) (R_irem _ _) (fun c3 => ?_) (fun c4 => ?_)
    · have hf := ite_f c3 hf
      exact t_L_count_176 k r_x3 r_x4 r_s0 hf hc
    · have hf := ite_t c4 hf
      refine J_iload_n (o _ _) dL_count_168 rfl ?_
      refine J_if_lt 176 (o _ _) dL_count_169 (by decide) r_x2 (fun c5 => ?_) (fun c6 => ?_)
      · have hf := ite_t c5 hf
        exact t_L_count_176 k r_x3 r_x4 r_s0 hf hc
      · have hf := ite_f c6 hf
        refine J_iconst (o _ _) dL_count_172 ?_
        refine J_goto 177 (o _ _) dL_count_173 (by decide) ?_
        exact t_L_count_177 k r_x3 r_x4 r_s0 rl1 hf hc
noncomputable def f_L_count_152 (z : ZQ) (x2 : Int) (x3 : Int) (x4 : Int) : Option ZQ :=
  f_L_count_153 z x2 x3 x4 0
set_option maxRecDepth 100000 in
theorem t_L_count_152 {X : QX} {K : KT} {H0 : Heap} (k : KofQ X K H0 cL_count "DatalogmillLaw" rm_L_count 0) {z : ZQ} {x2 : Int} {x3 : Int} {x4 : Int} {o1 o5 o6 o7 : Option Value} (r_x2 : R32 x2) (r_x3 : R32 x3) (r_x4 : R32 x4) {out : ZQ} (hf : f_L_count_152 z x2 x3 x4 = some out) (hc : (fun out : ZQ => RetQV X K H0 cL_count 0 out) out) : Jj (kAdd K 0 (6 * 0)) (WdQ X H0) z 152 [some (.ref X.oa), o1, some (.int (ii x2)), some (.int (ii x3)), some (.int (ii x4)), o5, o6, o7] [] := by
  unfold f_L_count_152 at hf
  have o : ∀ a b, Ok (kAdd K a b) cL_count "DatalogmillLaw" rm_L_count := fun _ _ => OkQ.add k.1
  have g : ∀ a b, GdQ X (kAdd K a b) H0 := fun _ _ => GdQ.add k.2.1
  refine J_iconst (o _ _) dL_count_152 ?_
  exact t_L_count_153 k r_x2 r_x3 r_x4 rl0 hf hc
noncomputable def f_L_count_130 (z : ZQ) (x2 : Int) (x3 : Int) (x4 : Int) (s1 : Int) (s2 : Int) (s3 : Int) : Option ZQ :=
  gd (0 ≤ s1 ∧ s1 < 6) (bl (zn z s1.toNat (wr (s2 + s3))) fun z2 => if x3 ≤ 10 then (f_L_count_152 z2 x2 x3 x4) else (if 14 ≤ x3 then (f_L_count_152 z2 x2 x3 x4) else (if x2 < 0 then (f_L_count_152 z2 x2 x3 x4) else (f_L_count_153 z2 x2 x3 x4 1))))
set_option maxRecDepth 100000 in
theorem t_L_count_130 {X : QX} {K : KT} {H0 : Heap} (k : KofQ X K H0 cL_count "DatalogmillLaw" rm_L_count 0) {z : ZQ} {x2 : Int} {x3 : Int} {x4 : Int} {s1 : Int} {s2 : Int} {s3 : Int} {o1 o5 o6 o7 : Option Value} (r_x2 : R32 x2) (r_x3 : R32 x3) (r_x4 : R32 x4) (r_s1 : R32 s1) (r_s2 : R32 s2) (r_s3 : R32 s3) {out : ZQ} (hf : f_L_count_130 z x2 x3 x4 s1 s2 s3 = some out) (hc : (fun out : ZQ => RetQV X K H0 cL_count 0 out) out) : Jj (kAdd K 0 (6 * 0)) (WdQ X H0) z 130 [some (.ref X.oa), o1, some (.int (ii x2)), some (.int (ii x3)), some (.int (ii x4)), o5, o6, o7] [.int (ii s3), .int (ii s2), .int (ii s1), .ref X.oa] := by
  unfold f_L_count_130 at hf
  have o : ∀ a b, Ok (kAdd K a b) cL_count "DatalogmillLaw" rm_L_count := fun _ _ => OkQ.add k.1
  have g : ∀ a b, GdQ X (kAdd K a b) H0 := fun _ _ => GdQ.add k.2.1
  refine J_iadd (o _ _) dL_count_130 ?_
  obtain ⟨g1, hf⟩ := gd_some hf
  refine J_nst (o _ _) (g _ _) dL_count_131 r_s1 g1 (R_wr _) ?_
  have hf := bl_out hf
  refine J_iload_n (o _ _) dL_count_132 rfl ?_
  refine J_bipush (o _ _) dL_count_133 (by decide) ?_
  refine J_icmp_le 152 (o _ _) dL_count_135 (by decide) r_x3 rl10 (fun c3 => ?_) (fun c4 => ?_)
  · have hf := ite_t c3 hf
    exact t_L_count_152 k r_x2 r_x3 r_x4 hf hc
  · have hf := ite_f c4 hf
    refine J_iload_n (o _ _) dL_count_138 rfl ?_
    refine J_bipush (o _ _) dL_count_139 (by decide) ?_
    refine J_icmp_ge 152 (o _ _) dL_count_141 (by decide) r_x3 rl14 (fun c5 => ?_) (fun c6 => ?_)
    · have hf := ite_t c5 hf
      exact t_L_count_152 k r_x2 r_x3 r_x4 hf hc
    · have hf := ite_f c6 hf
      refine J_iload_n (o _ _) dL_count_144 rfl ?_
      refine J_if_lt 152 (o _ _) dL_count_145 (by decide) r_x2 (fun c7 => ?_) (fun c8 => ?_)
      · have hf := ite_t c7 hf
        exact t_L_count_152 k r_x2 r_x3 r_x4 hf hc
      · have hf := ite_f c8 hf
        refine J_iconst (o _ _) dL_count_148 ?_
        refine J_goto 153 (o _ _) dL_count_149 (by decide) ?_
        exact t_L_count_153 k r_x2 r_x3 r_x4 rl1 hf hc
noncomputable def f_L_count_129 (z : ZQ) (x2 : Int) (x3 : Int) (x4 : Int) (s1 : Int) (s2 : Int) : Option ZQ :=
  f_L_count_130 z x2 x3 x4 s1 s2 0
set_option maxRecDepth 100000 in
theorem t_L_count_129 {X : QX} {K : KT} {H0 : Heap} (k : KofQ X K H0 cL_count "DatalogmillLaw" rm_L_count 0) {z : ZQ} {x2 : Int} {x3 : Int} {x4 : Int} {s1 : Int} {s2 : Int} {o1 o5 o6 o7 : Option Value} (r_x2 : R32 x2) (r_x3 : R32 x3) (r_x4 : R32 x4) (r_s1 : R32 s1) (r_s2 : R32 s2) {out : ZQ} (hf : f_L_count_129 z x2 x3 x4 s1 s2 = some out) (hc : (fun out : ZQ => RetQV X K H0 cL_count 0 out) out) : Jj (kAdd K 0 (6 * 0)) (WdQ X H0) z 129 [some (.ref X.oa), o1, some (.int (ii x2)), some (.int (ii x3)), some (.int (ii x4)), o5, o6, o7] [.int (ii s2), .int (ii s1), .ref X.oa] := by
  unfold f_L_count_129 at hf
  have o : ∀ a b, Ok (kAdd K a b) cL_count "DatalogmillLaw" rm_L_count := fun _ _ => OkQ.add k.1
  have g : ∀ a b, GdQ X (kAdd K a b) H0 := fun _ _ => GdQ.add k.2.1
  refine J_iconst (o _ _) dL_count_129 ?_
  exact t_L_count_130 k r_x2 r_x3 r_x4 r_s1 r_s2 rl0 hf hc
noncomputable def f_L_count_105 (z : ZQ) (x2 : Int) (x3 : Int) (x4 : Int) (x5 : Int) (s1 : Int) (s2 : Int) (s3 : Int) : Option ZQ :=
  gd (0 ≤ s1 ∧ s1 < 6) (bl (zn z s1.toNat (wr (s2 + s3))) fun z2 => if x5 = 0 then (f_L_count_129 z2 x2 x3 x4 4 (z2.2.2 4)) else (if (irem (idiv x4 3) 5) ≤ 0 then (f_L_count_129 z2 x2 x3 x4 4 (z2.2.2 4)) else (f_L_count_130 z2 x2 x3 x4 4 (z2.2.2 4) 1)))
set_option maxRecDepth 100000 in
theorem t_L_count_105 {X : QX} {K : KT} {H0 : Heap} (k : KofQ X K H0 cL_count "DatalogmillLaw" rm_L_count 0) {z : ZQ} {x2 : Int} {x3 : Int} {x4 : Int} {x5 : Int} {s1 : Int} {s2 : Int} {s3 : Int} {o1 o6 o7 : Option Value} (r_x2 : R32 x2) (r_x3 : R32 x3) (r_x4 : R32 x4) (r_x5 : R32 x5) (r_s1 : R32 s1) (r_s2 : R32 s2) (r_s3 : R32 s3) {out : ZQ} (hf : f_L_count_105 z x2 x3 x4 x5 s1 s2 s3 = some out) (hc : (fun out : ZQ => RetQV X K H0 cL_count 0 out) out) : Jj (kAdd K 0 (6 * 0)) (WdQ X H0) z 105 [some (.ref X.oa), o1, some (.int (ii x2)), some (.int (ii x3)), some (.int (ii x4)), some (.int (ii x5)), o6, o7] [.int (ii s3), .int (ii s2), .int (ii s1), .ref X.oa] := by
  unfold f_L_count_105 at hf
  have o : ∀ a b, Ok (kAdd K a b) cL_count "DatalogmillLaw" rm_L_count := fun _ _ => OkQ.add k.1
  have g : ∀ a b, GdQ X (kAdd K a b) H0 := fun _ _ => GdQ.add k.2.1
  refine J_iadd (o _ _) dL_count_105 ?_
  obtain ⟨g1, hf⟩ := gd_some hf
  refine J_nst (o _ _) (g _ _) dL_count_106 r_s1 g1 (R_wr _) ?_
  have hf := bl_out hf
  refine J_aldO_n (o _ _) dL_count_107 rfl ?_
  refine J_iconst (o _ _) dL_count_108 ?_
  refine J_dup2 (o _ _) dL_count_109 rfl rfl ?_
  refine J_nld (o _ _) (g _ _) dL_count_110 rl4 ⟨by decide, by decide⟩ (fun q3 => ?_)
  refine J_iload (o _ _) dL_count_111 rfl ?_
  refine J_if_eq 129 (o _ _) dL_count_113 (by decide) r_x5 (fun c4 => ?_) (fun c5 => ?_)
  · have hf := ite_t c4 hf
    exact t_L_count_129 k r_x2 r_x3 r_x4 rl4 q3 hf hc
  · have hf := ite_f c5 hf
    refine J_iload (o _ _) dL_count_116 rfl ?_
    refine J_iconst (o _ _) dL_count_118 ?_
    refine J_idiv (o _ _) dL_count_119 rl3 (by decide) ?_
    refine J_iconst (o _ _) dL_count_120 ?_
    refine J_irem (o _ _) dL_count_121 rl5 (by decide) ?_
    refine J_if_le 129 (o _ _) dL_count_122 (by decide) (R_irem _ _) (fun c6 => ?_) (fun c7 => ?_)
    · have hf := ite_t c6 hf
      exact t_L_count_129 k r_x2 r_x3 r_x4 rl4 q3 hf hc
    · have hf := ite_f c7 hf
      refine J_iconst (o _ _) dL_count_125 ?_
      refine J_goto 130 (o _ _) dL_count_126 (by decide) ?_
      exact t_L_count_130 k r_x2 r_x3 r_x4 rl4 q3 rl1 hf hc
noncomputable def f_L_count_100 (z : ZQ) (x2 : Int) (x3 : Int) (x4 : Int) (x5 : Int) (s1 : Int) (s2 : Int) : Option ZQ :=
  f_L_count_105 z x2 x3 x4 x5 s1 s2 1
set_option maxRecDepth 100000 in
theorem t_L_count_100 {X : QX} {K : KT} {H0 : Heap} (k : KofQ X K H0 cL_count "DatalogmillLaw" rm_L_count 0) {z : ZQ} {x2 : Int} {x3 : Int} {x4 : Int} {x5 : Int} {s1 : Int} {s2 : Int} {o1 o6 o7 : Option Value} (r_x2 : R32 x2) (r_x3 : R32 x3) (r_x4 : R32 x4) (r_x5 : R32 x5) (r_s1 : R32 s1) (r_s2 : R32 s2) {out : ZQ} (hf : f_L_count_100 z x2 x3 x4 x5 s1 s2 = some out) (hc : (fun out : ZQ => RetQV X K H0 cL_count 0 out) out) : Jj (kAdd K 0 (6 * 0)) (WdQ X H0) z 100 [some (.ref X.oa), o1, some (.int (ii x2)), some (.int (ii x3)), some (.int (ii x4)), some (.int (ii x5)), o6, o7] [.int (ii s2), .int (ii s1), .ref X.oa] := by
  unfold f_L_count_100 at hf
  have o : ∀ a b, Ok (kAdd K a b) cL_count "DatalogmillLaw" rm_L_count := fun _ _ => OkQ.add k.1
  have g : ∀ a b, GdQ X (kAdd K a b) H0 := fun _ _ => GdQ.add k.2.1
  refine J_iconst (o _ _) dL_count_100 ?_
  refine J_goto 105 (o _ _) dL_count_101 (by decide) ?_
  exact t_L_count_105 k r_x2 r_x3 r_x4 r_x5 r_s1 r_s2 rl1 hf hc
noncomputable def f_L_count_104 (z : ZQ) (x2 : Int) (x3 : Int) (x4 : Int) (x5 : Int) (s1 : Int) (s2 : Int) : Option ZQ :=
  f_L_count_105 z x2 x3 x4 x5 s1 s2 0
set_option maxRecDepth 100000 in
theorem t_L_count_104 {X : QX} {K : KT} {H0 : Heap} (k : KofQ X K H0 cL_count "DatalogmillLaw" rm_L_count 0) {z : ZQ} {x2 : Int} {x3 : Int} {x4 : Int} {x5 : Int} {s1 : Int} {s2 : Int} {o1 o6 o7 : Option Value} (r_x2 : R32 x2) (r_x3 : R32 x3) (r_x4 : R32 x4) (r_x5 : R32 x5) (r_s1 : R32 s1) (r_s2 : R32 s2) {out : ZQ} (hf : f_L_count_104 z x2 x3 x4 x5 s1 s2 = some out) (hc : (fun out : ZQ => RetQV X K H0 cL_count 0 out) out) : Jj (kAdd K 0 (6 * 0)) (WdQ X H0) z 104 [some (.ref X.oa), o1, some (.int (ii x2)), some (.int (ii x3)), some (.int (ii x4)), some (.int (ii x5)), o6, o7] [.int (ii s2), .int (ii s1), .ref X.oa] := by
  unfold f_L_count_104 at hf
  have o : ∀ a b, Ok (kAdd K a b) cL_count "DatalogmillLaw" rm_L_count := fun _ _ => OkQ.add k.1
  have g : ∀ a b, GdQ X (kAdd K a b) H0 := fun _ _ => GdQ.add k.2.1
  refine J_iconst (o _ _) dL_count_104 ?_
  exact t_L_count_105 k r_x2 r_x3 r_x4 r_x5 r_s1 r_s2 rl0 hf hc
noncomputable def f_L_count_79 (z : ZQ) (x2 : Int) (x3 : Int) (x4 : Int) (s0 : Int) : Option ZQ :=
  if s0 = 0 then (if x3 = 10 then (if x2 ≤ 0 then (f_L_count_104 z x2 x3 x4 s0 3 (z.2.2 3)) else (f_L_count_100 z x2 x3 x4 s0 3 (z.2.2 3))) else (f_L_count_104 z x2 x3 x4 s0 3 (z.2.2 3))) else (f_L_count_100 z x2 x3 x4 s0 3 (z.2.2 3))
set_option maxRecDepth 100000 in
theorem t_L_count_79 {X : QX} {K : KT} {H0 : Heap} (k : KofQ X K H0 cL_count "DatalogmillLaw" rm_L_count 0) {z : ZQ} {x2 : Int} {x3 : Int} {x4 : Int} {s0 : Int} {o1 o5 o6 o7 : Option Value} (r_x2 : R32 x2) (r_x3 : R32 x3) (r_x4 : R32 x4) (r_s0 : R32 s0) {out : ZQ} (hf : f_L_count_79 z x2 x3 x4 s0 = some out) (hc : (fun out : ZQ => RetQV X K H0 cL_count 0 out) out) : Jj (kAdd K 0 (6 * 0)) (WdQ X H0) z 79 [some (.ref X.oa), o1, some (.int (ii x2)), some (.int (ii x3)), some (.int (ii x4)), o5, o6, o7] [.int (ii s0)] := by
  unfold f_L_count_79 at hf
  have o : ∀ a b, Ok (kAdd K a b) cL_count "DatalogmillLaw" rm_L_count := fun _ _ => OkQ.add k.1
  have g : ∀ a b, GdQ X (kAdd K a b) H0 := fun _ _ => GdQ.add k.2.1
  refine J_istore (o _ _) dL_count_79 (Nat.le_of_ble_eq_true rfl) ?_
  refine J_aldO_n (o _ _) dL_count_81 rfl ?_
  refine J_iconst (o _ _) dL_count_82 ?_
  refine J_dup2 (o _ _) dL_count_83 rfl rfl ?_
  refine J_nld (o _ _) (g _ _) dL_count_84 rl3 ⟨by decide, by decide⟩ (fun q1 => ?_)
  refine J_iload (o _ _) dL_count_85 rfl ?_
  refine J_if_ne 100 (o _ _) dL_count_87 (by decide) r_s0 (fun c2 => ?_) (fun c3 => ?_)
  · have hf := ite_f c2 hf
    exact t_L_count_100 k r_x2 r_x3 r_x4 r_s0 rl3 q1 hf hc
  · have hf := ite_t c3 hf
    refine J_iload_n (o _ _) dL_count_90 rfl ?_
    refine J_bipush (o _ _) dL_count_91 (by decide) ?_
    refine J_icmp_ne 104 (o _ _) dL_count_93 (by decide) r_x3 rl10 (fun c4 => ?_) (fun c5 => ?_)
    · have hf := ite_f c4 hf
      exact t_L_count_104 k r_x2 r_x3 r_x4 r_s0 rl3 q1 hf hc
    · have hf := ite_t c5 hf
      refine J_iload_n (o _ _) dL_count_96 rfl ?_
      refine J_if_le 104 (o _ _) dL_count_97 (by decide) r_x2 (fun c6 => ?_) (fun c7 => ?_)
      · have hf := ite_t c6 hf
        exact t_L_count_104 k r_x2 r_x3 r_x4 r_s0 rl3 q1 hf hc
      · have hf := ite_f c7 hf
        exact t_L_count_100 k r_x2 r_x3 r_x4 r_s0 rl3 q1 hf hc
noncomputable def f_L_count_78 (z : ZQ) (x2 : Int) (x3 : Int) (x4 : Int) : Option ZQ :=
  f_L_count_79 z x2 x3 x4 0
set_option maxRecDepth 100000 in
theorem t_L_count_78 {X : QX} {K : KT} {H0 : Heap} (k : KofQ X K H0 cL_count "DatalogmillLaw" rm_L_count 0) {z : ZQ} {x2 : Int} {x3 : Int} {x4 : Int} {o1 o5 o6 o7 : Option Value} (r_x2 : R32 x2) (r_x3 : R32 x3) (r_x4 : R32 x4) {out : ZQ} (hf : f_L_count_78 z x2 x3 x4 = some out) (hc : (fun out : ZQ => RetQV X K H0 cL_count 0 out) out) : Jj (kAdd K 0 (6 * 0)) (WdQ X H0) z 78 [some (.ref X.oa), o1, some (.int (ii x2)), some (.int (ii x3)), some (.int (ii x4)), o5, o6, o7] [] := by
  unfold f_L_count_78 at hf
  have o : ∀ a b, Ok (kAdd K a b) cL_count "DatalogmillLaw" rm_L_count := fun _ _ => OkQ.add k.1
  have g : ∀ a b, GdQ X (kAdd K a b) H0 := fun _ _ => GdQ.add k.2.1
  refine J_iconst (o _ _) dL_count_78 ?_
  exact t_L_count_79 k r_x2 r_x3 r_x4 rl0 hf hc
noncomputable def f_L_count_56 (z : ZQ) (x2 : Int) (x3 : Int) (x4 : Int) (s1 : Int) (s2 : Int) (s3 : Int) : Option ZQ :=
  gd (0 ≤ s1 ∧ s1 < 6) (bl (zn z s1.toNat (wr (s2 + s3))) fun z2 => if x3 ≤ 6 then (f_L_count_78 z2 x2 x3 x4) else (if 10 ≤ x3 then (f_L_count_78 z2 x2 x3 x4) else (if x2 ≤ 0 then (f_L_count_78 z2 x2 x3 x4) else (f_L_count_79 z2 x2 x3 x4 1))))
set_option maxRecDepth 100000 in
theorem t_L_count_56 {X : QX} {K : KT} {H0 : Heap} (k : KofQ X K H0 cL_count "DatalogmillLaw" rm_L_count 0) {z : ZQ} {x2 : Int} {x3 : Int} {x4 : Int} {s1 : Int} {s2 : Int} {s3 : Int} {o1 o5 o6 o7 : Option Value} (r_x2 : R32 x2) (r_x3 : R32 x3) (r_x4 : R32 x4) (r_s1 : R32 s1) (r_s2 : R32 s2) (r_s3 : R32 s3) {out : ZQ} (hf : f_L_count_56 z x2 x3 x4 s1 s2 s3 = some out) (hc : (fun out : ZQ => RetQV X K H0 cL_count 0 out) out) : Jj (kAdd K 0 (6 * 0)) (WdQ X H0) z 56 [some (.ref X.oa), o1, some (.int (ii x2)), some (.int (ii x3)), some (.int (ii x4)), o5, o6, o7] [.int (ii s3), .int (ii s2), .int (ii s1), .ref X.oa] := by
  unfold f_L_count_56 at hf
  have o : ∀ a b, Ok (kAdd K a b) cL_count "DatalogmillLaw" rm_L_count := fun _ _ => OkQ.add k.1
  have g : ∀ a b, GdQ X (kAdd K a b) H0 := fun _ _ => GdQ.add k.2.1
  refine J_iadd (o _ _) dL_count_56 ?_
  obtain ⟨g1, hf⟩ := gd_some hf
  refine J_nst (o _ _) (g _ _) dL_count_57 r_s1 g1 (R_wr _) ?_
  have hf := bl_out hf
  refine J_iload_n (o _ _) dL_count_58 rfl ?_
  refine J_bipush (o _ _) dL_count_59 (by decide) ?_
  refine J_icmp_le 78 (o _ _) dL_count_61 (by decide) r_x3 rl6 (fun c3 => ?_) (fun c4 => ?_)
  · have hf := ite_t c3 hf
    exact t_L_count_78 k r_x2 r_x3 r_x4 hf hc
  · have hf := ite_f c4 hf
    refine J_iload_n (o _ _) dL_count_64 rfl ?_
    refine J_bipush (o _ _) dL_count_65 (by decide) ?_
    refine J_icmp_ge 78 (o _ _) dL_count_67 (by decide) r_x3 rl10 (fun c5 => ?_) (fun c6 => ?_)
    · have hf := ite_t c5 hf
      exact t_L_count_78 k r_x2 r_x3 r_x4 hf hc
    · have hf := ite_f c6 hf
      refine J_iload_n (o _ _) dL_count_70 rfl ?_
      refine J_if_le 78 (o _ _) dL_count_71 (by decide) r_x2 (fun c7 => ?_) (fun c8 => ?_)
      · have hf := ite_t c7 hf
        exact t_L_count_78 k r_x2 r_x3 r_x4 hf hc
      · have hf := ite_f c8 hf
        refine J_iconst (o _ _) dL_count_74 ?_
        refine J_goto 79 (o _ _) dL_count_75 (by decide) ?_
        exact t_L_count_79 k r_x2 r_x3 r_x4 rl1 hf hc
noncomputable def f_L_count_55 (z : ZQ) (x2 : Int) (x3 : Int) (x4 : Int) (s1 : Int) (s2 : Int) : Option ZQ :=
  f_L_count_56 z x2 x3 x4 s1 s2 0
set_option maxRecDepth 100000 in
theorem t_L_count_55 {X : QX} {K : KT} {H0 : Heap} (k : KofQ X K H0 cL_count "DatalogmillLaw" rm_L_count 0) {z : ZQ} {x2 : Int} {x3 : Int} {x4 : Int} {s1 : Int} {s2 : Int} {o1 o5 o6 o7 : Option Value} (r_x2 : R32 x2) (r_x3 : R32 x3) (r_x4 : R32 x4) (r_s1 : R32 s1) (r_s2 : R32 s2) {out : ZQ} (hf : f_L_count_55 z x2 x3 x4 s1 s2 = some out) (hc : (fun out : ZQ => RetQV X K H0 cL_count 0 out) out) : Jj (kAdd K 0 (6 * 0)) (WdQ X H0) z 55 [some (.ref X.oa), o1, some (.int (ii x2)), some (.int (ii x3)), some (.int (ii x4)), o5, o6, o7] [.int (ii s2), .int (ii s1), .ref X.oa] := by
  unfold f_L_count_55 at hf
  have o : ∀ a b, Ok (kAdd K a b) cL_count "DatalogmillLaw" rm_L_count := fun _ _ => OkQ.add k.1
  have g : ∀ a b, GdQ X (kAdd K a b) H0 := fun _ _ => GdQ.add k.2.1
  refine J_iconst (o _ _) dL_count_55 ?_
  exact t_L_count_56 k r_x2 r_x3 r_x4 r_s1 r_s2 rl0 hf hc
noncomputable def f_L_count_29 (z : ZQ) (x2 : Int) (x3 : Int) (x4 : Int) (s1 : Int) (s2 : Int) (s3 : Int) : Option ZQ :=
  gd (0 ≤ s1 ∧ s1 < 6) (bl (zn z s1.toNat (wr (s2 + s3))) fun z2 => if x3 = 4 then (if (irem x4 5) = 0 then (if x2 < 0 then (f_L_count_55 z2 x2 x3 x4 5 (z2.2.2 5)) else (f_L_count_56 z2 x2 x3 x4 5 (z2.2.2 5) 1)) else (f_L_count_55 z2 x2 x3 x4 5 (z2.2.2 5))) else (f_L_count_55 z2 x2 x3 x4 5 (z2.2.2 5)))
set_option maxRecDepth 100000 in
theorem t_L_count_29 {X : QX} {K : KT} {H0 : Heap} (k : KofQ X K H0 cL_count "DatalogmillLaw" rm_L_count 0) {z : ZQ} {x2 : Int} {x3 : Int} {x4 : Int} {s1 : Int} {s2 : Int} {s3 : Int} {o1 o5 o6 o7 : Option Value} (r_x2 : R32 x2) (r_x3 : R32 x3) (r_x4 : R32 x4) (r_s1 : R32 s1) (r_s2 : R32 s2) (r_s3 : R32 s3) {out : ZQ} (hf : f_L_count_29 z x2 x3 x4 s1 s2 s3 = some out) (hc : (fun out : ZQ => RetQV X K H0 cL_count 0 out) out) : Jj (kAdd K 0 (6 * 0)) (WdQ X H0) z 29 [some (.ref X.oa), o1, some (.int (ii x2)), some (.int (ii x3)), some (.int (ii x4)), o5, o6, o7] [.int (ii s3), .int (ii s2), .int (ii s1), .ref X.oa] := by
  unfold f_L_count_29 at hf
  have o : ∀ a b, Ok (kAdd K a b) cL_count "DatalogmillLaw" rm_L_count := fun _ _ => OkQ.add k.1
  have g : ∀ a b, GdQ X (kAdd K a b) H0 := fun _ _ => GdQ.add k.2.1
  refine J_iadd (o _ _) dL_count_29 ?_
  obtain ⟨g1, hf⟩ := gd_some hf
  refine J_nst (o _ _) (g _ _) dL_count_30 r_s1 g1 (R_wr _) ?_
  have hf := bl_out hf
  refine J_aldO_n (o _ _) dL_count_31 rfl ?_
  refine J_iconst (o _ _) dL_count_32 ?_
  refine J_dup2 (o _ _) dL_count_33 rfl rfl ?_
  refine J_nld (o _ _) (g _ _) dL_count_34 rl5 ⟨by decide, by decide⟩ (fun q3 => ?_)
  refine J_iload_n (o _ _) dL_count_35 rfl ?_
  refine J_iconst (o _ _) dL_count_36 ?_
  refine J_icmp_ne 55 (o _ _) dL_count_37 (by decide) r_x3 rl4 (fun c4 => ?_) (fun c5 => ?_)
  · have hf := ite_f c4 hf
    exact t_L_count_55 k r_x2 r_x3 r_x4 rl5 q3 hf hc
  · have hf := ite_t c5 hf
    refine J_iload (o _ _) dL_count_40 rfl ?_
    refine J_iconst (o _ _) dL_count_42 ?_
    refine J_irem (o _ _) dL_count_43 rl5 (by decide) ?_
    refine J_if_ne 55 (o _ _) dL_count_44 (by decide) (R_irem _ _) (fun c6 => ?_) (fun c7 => ?_)
    · have hf := ite_f c6 hf
      exact t_L_count_55 k r_x2 r_x3 r_x4 rl5 q3 hf hc
    · have hf := ite_t c7 hf
      refine J_iload_n (o _ _) dL_count_47 rfl ?_
      refine J_if_lt 55 (o _ _) dL_count_48 (by decide) r_x2 (fun c8 => ?_) (fun c9 => ?_)
      · have hf := ite_t c8 hf
        exact t_L_count_55 k r_x2 r_x3 r_x4 rl5 q3 hf hc
      · have hf := ite_f c9 hf
        refine J_iconst (o _ _) dL_count_51 ?_
        refine J_goto 56 (o _ _) dL_count_52 (by decide) ?_
        exact t_L_count_56 k r_x2 r_x3 r_x4 rl5 q3 rl1 hf hc
noncomputable def f_L_count_28 (z : ZQ) (x2 : Int) (x3 : Int) (x4 : Int) (s1 : Int) (s2 : Int) : Option ZQ :=
  f_L_count_29 z x2 x3 x4 s1 s2 0
set_option maxRecDepth 100000 in
theorem t_L_count_28 {X : QX} {K : KT} {H0 : Heap} (k : KofQ X K H0 cL_count "DatalogmillLaw" rm_L_count 0) {z : ZQ} {x2 : Int} {x3 : Int} {x4 : Int} {s1 : Int} {s2 : Int} {o1 o5 o6 o7 : Option Value} (r_x2 : R32 x2) (r_x3 : R32 x3) (r_x4 : R32 x4) (r_s1 : R32 s1) (r_s2 : R32 s2) {out : ZQ} (hf : f_L_count_28 z x2 x3 x4 s1 s2 = some out) (hc : (fun out : ZQ => RetQV X K H0 cL_count 0 out) out) : Jj (kAdd K 0 (6 * 0)) (WdQ X H0) z 28 [some (.ref X.oa), o1, some (.int (ii x2)), some (.int (ii x3)), some (.int (ii x4)), o5, o6, o7] [.int (ii s2), .int (ii s1), .ref X.oa] := by
  unfold f_L_count_28 at hf
  have o : ∀ a b, Ok (kAdd K a b) cL_count "DatalogmillLaw" rm_L_count := fun _ _ => OkQ.add k.1
  have g : ∀ a b, GdQ X (kAdd K a b) H0 := fun _ _ => GdQ.add k.2.1
  refine J_iconst (o _ _) dL_count_28 ?_
  exact t_L_count_29 k r_x2 r_x3 r_x4 r_s1 r_s2 rl0 hf hc
noncomputable def f_L_count (z : ZQ) (x1 : Int) (x2 : Int) : Option ZQ :=
  bl (irem x1 16) fun n1 => bl (idiv x1 16) fun n2 => if 3 ≤ n1 then (f_L_count_28 z x2 n1 n2 0 (z.2.2 0)) else (if x2 < 0 then (f_L_count_28 z x2 n1 n2 0 (z.2.2 0)) else (f_L_count_29 z x2 n1 n2 0 (z.2.2 0) 1))
set_option maxRecDepth 100000 in
theorem t_L_count_0 {X : QX} {K : KT} {H0 : Heap} (k : KofQ X K H0 cL_count "DatalogmillLaw" rm_L_count 0) {z : ZQ} {x1 : Int} {x2 : Int} {o3 o4 o5 o6 o7 : Option Value} (r_x1 : R32 x1) (r_x2 : R32 x2) {out : ZQ} (hf : f_L_count z x1 x2 = some out) (hc : (fun out : ZQ => RetQV X K H0 cL_count 0 out) out) : Jj (kAdd K 0 (6 * 0)) (WdQ X H0) z 0 [some (.ref X.oa), some (.int (ii x1)), some (.int (ii x2)), o3, o4, o5, o6, o7] [] := by
  unfold f_L_count at hf
  have o : ∀ a b, Ok (kAdd K a b) cL_count "DatalogmillLaw" rm_L_count := fun _ _ => OkQ.add k.1
  have g : ∀ a b, GdQ X (kAdd K a b) H0 := fun _ _ => GdQ.add k.2.1
  refine J_iload_n (o _ _) dL_count_0 rfl ?_
  refine J_bipush (o _ _) dL_count_1 (by decide) ?_
  refine J_irem (o _ _) dL_count_3 rl16 (by decide) ?_
  refine J_istore_n (o _ _) dL_count_4 (Nat.le_of_ble_eq_true rfl) ?_
  have hf := bl_out hf
  refine J_iload_n (o _ _) dL_count_5 rfl ?_
  refine J_bipush (o _ _) dL_count_6 (by decide) ?_
  refine J_idiv (o _ _) dL_count_8 rl16 (by decide) ?_
  refine J_istore (o _ _) dL_count_9 (Nat.le_of_ble_eq_true rfl) ?_
  have hf := bl_out hf
  refine J_aldO_n (o _ _) dL_count_11 rfl ?_
  refine J_iconst (o _ _) dL_count_12 ?_
  refine J_dup2 (o _ _) dL_count_13 rfl rfl ?_
  refine J_nld (o _ _) (g _ _) dL_count_14 rl0 ⟨by decide, by decide⟩ (fun q3 => ?_)
  refine J_iload_n (o _ _) dL_count_15 rfl ?_
  refine J_iconst (o _ _) dL_count_16 ?_
  refine J_icmp_ge 28 (o _ _) dL_count_17 (by decide) (R_irem _ _) rl3 (fun c4 => ?_) (fun c5 => ?_)
  · have hf := ite_t c4 hf
    exact t_L_count_28 k r_x2 (R_irem _ _) (R_idiv _ _) rl0 q3 hf hc
  · have hf := ite_f c5 hf
    refine J_iload_n (o _ _) dL_count_20 rfl ?_
    refine J_if_lt 28 (o _ _) dL_count_21 (by decide) r_x2 (fun c6 => ?_) (fun c7 => ?_)
    · have hf := ite_t c6 hf
      exact t_L_count_28 k r_x2 (R_irem _ _) (R_idiv _ _) rl0 q3 hf hc
    · have hf := ite_f c7 hf
      refine J_iconst (o _ _) dL_count_24 ?_
      refine J_goto 29 (o _ _) dL_count_25 (by decide) ?_
      exact t_L_count_29 k r_x2 (R_irem _ _) (R_idiv _ _) rl0 q3 rl1 hf hc
theorem c_L_count {X : QX} {l : Launch} (hst : l.stackTraces = false) (hA : ApQ X) {z : ZQ} {x1 : Int} {x2 : Int} (r_x1 : R32 x1) (r_x2 : R32 x2) {out : ZQ} (hf : f_L_count z x1 x2 = some out) : ConQV X l yL_count (WS yL_count cL_count 8 none) rm_L_count [.ref X.oa, .int (ii x1), .int (ii x2)] z out :=
  con_QV (by decide +kernel) rfl (Nat.le_of_ble_eq_true rfl) (c1s_a (c1s_i (c1s_i c1s_0 (Nat.le_of_ble_eq_true rfl)) (Nat.le_of_ble_eq_true rfl)) (Nat.le_of_ble_eq_true rfl)).1 ⟨rfl, rfl⟩ hA hst (fun K H0 k hret => t_L_count_0 k r_x1 r_x2 hf hret)
abbrev rm_L_act : Room := { frames := 10, cells := 1, slots := 6, locals := 261 }
noncomputable def f_L_act_194 (z : ZQ) (m0 : Bool) (s1 : Int) (s2 : Int) (s3 : Int) (s4 : Int) (s5 : Int) (s6 : Int) (s7 : Int) : Option (ZQ × Int) :=
  bnd (f_L_facts z m0 s1 s2 s3 s4 s5 s6 s7) fun v1 => some (v1.1, v1.2)
set_option maxRecDepth 100000 in
theorem t_L_act_194 {X : QX} {K : KT} {H0 : Heap} (k : KofQ X K H0 cL_act "DatalogmillLaw" rm_L_act 1) {z : ZQ} {m0 : Bool} {s1 : Int} {s2 : Int} {s3 : Int} {s4 : Int} {s5 : Int} {s6 : Int} {s7 : Int} {o0 o1 o2 o3 o4 o5 o6 o7 o8 o9 : Option Value} (r_s1 : R32 s1) (r_s2 : R32 s2) (r_s3 : R32 s3) (r_s4 : R32 s4) (r_s5 : R32 s5) (r_s6 : R32 s6) (r_s7 : R32 s7) {out : (ZQ × Int)} (hf : f_L_act_194 z m0 s1 s2 s3 s4 s5 s6 s7 = some out) (hc : (fun out : (ZQ × Int) => RetQI X K H0 cL_act 1 out.1 out.2) out) : Jj (kAdd K 0 (6 * 0)) (WdQ X H0) z 194 [o0, o1, o2, o3, o4, o5, o6, o7, o8, o9] [.int (ii s7), .int (ii s6), .int (ii s5), .int (ii s4), .int (ii s3), .int (ii s2), .int (ii s1), rf (X.M m0).ad 1] := by
  unfold f_L_act_194 at hf
  have o : ∀ a b, Ok (kAdd K a b) cL_act "DatalogmillLaw" rm_L_act := fun _ _ => OkQ.add k.1
  have g : ∀ a b, GdQ X (kAdd K a b) H0 := fun _ _ => GdQ.add k.2.1
  obtain ⟨v1, e2, hf⟩ := bnd_some hf
  refine J_qW (np := 8) k.1 k.2.1 k.2.2.1 (Nat.le_of_ble_eq_true rfl) dL_act_194 mw580 mw582 mw581 mw111 ⟨by decide +kernel, by decide +kernel, by decide +kernel⟩ ⟨rfl, rfl, Nat.le_of_ble_eq_true rfl, Nat.le_of_ble_eq_true rfl⟩ (c_L_facts k.2.2.2 k.2.1.2.1 r_s1 r_s2 r_s3 r_s4 r_s5 r_s6 r_s7 e2) rfl rfl c1s_0 (fun q3 => ?_)
  refine J_tt (u := 1) rfl ?_
  have hf := some_inj hf
  subst hf
  exact hc _ _ _ (Nat.le_of_ble_eq_true rfl) q3 dL_act_197
noncomputable def f_L_act_170 (z : ZQ) (m0 : Bool) (x3 : Int) (x9 : Int) (s1 : Int) (s2 : Int) (s3 : Int) (s4 : Int) : Option (ZQ × Int) :=
  if (irem (idiv x3 384) 2) = 0 then (f_L_act_194 z m0 s1 s2 s3 s4 (wr (1 + (irem x3 90))) x9 3) else (f_L_act_194 z m0 s1 s2 s3 s4 (wr (1 + (irem x3 90))) x9 x9)
set_option maxRecDepth 100000 in
theorem t_L_act_170 {X : QX} {K : KT} {H0 : Heap} (k : KofQ X K H0 cL_act "DatalogmillLaw" rm_L_act 1) {z : ZQ} {m0 : Bool} {x3 : Int} {x9 : Int} {s1 : Int} {s2 : Int} {s3 : Int} {s4 : Int} {o0 o1 o2 o4 o5 o6 o7 o8 : Option Value} (r_x3 : R32 x3) (r_x9 : R32 x9) (r_s1 : R32 s1) (r_s2 : R32 s2) (r_s3 : R32 s3) (r_s4 : R32 s4) {out : (ZQ × Int)} (hf : f_L_act_170 z m0 x3 x9 s1 s2 s3 s4 = some out) (hc : (fun out : (ZQ × Int) => RetQI X K H0 cL_act 1 out.1 out.2) out) : Jj (kAdd K 0 (6 * 0)) (WdQ X H0) z 170 [o0, o1, o2, some (.int (ii x3)), o4, o5, o6, o7, o8, some (.int (ii x9))] [.int (ii s4), .int (ii s3), .int (ii s2), .int (ii s1), rf (X.M m0).ad 1] := by
  unfold f_L_act_170 at hf
  have o : ∀ a b, Ok (kAdd K a b) cL_act "DatalogmillLaw" rm_L_act := fun _ _ => OkQ.add k.1
  have g : ∀ a b, GdQ X (kAdd K a b) H0 := fun _ _ => GdQ.add k.2.1
  refine J_iconst (o _ _) dL_act_170 ?_
  refine J_iload_n (o _ _) dL_act_171 rfl ?_
  refine J_bipush (o _ _) dL_act_172 (by decide) ?_
  refine J_irem (o _ _) dL_act_174 rl90 (by decide) ?_
  refine J_iadd (o _ _) dL_act_175 ?_
  refine J_iload (o _ _) dL_act_176 rfl ?_
  refine J_iload_n (o _ _) dL_act_178 rfl ?_
  refine J_sipush (o _ _) dL_act_179 (by decide) ?_
  refine J_idiv (o _ _) dL_act_182 rl384 (by decide) ?_
  refine J_iconst (o _ _) dL_act_183 ?_
  refine J_irem (o _ _) dL_act_184 rl2 (by decide) ?_
  refine J_if_ne 192 (o _ _) dL_act_185 (by decide) (R_irem _ _) (fun c1 => ?_) (fun c2 => ?_)
  · have hf := ite_f c1 hf
    refine J_iload (o _ _) dL_act_192 rfl ?_
    exact t_L_act_194 k r_s1 r_s2 r_s3 r_s4 (R_wr _) r_x9 r_x9 hf hc
  · have hf := ite_t c2 hf
    refine J_iconst (o _ _) dL_act_188 ?_
    refine J_goto 194 (o _ _) dL_act_189 (by decide) ?_
    exact t_L_act_194 k r_s1 r_s2 r_s3 r_s4 (R_wr _) r_x9 rl3 hf hc
noncomputable def f_L_act_156 (z : ZQ) (m0 : Bool) (x3 : Int) (x8 : Int) (x9 : Int) (s1 : Int) (s2 : Int) (s3 : Int) : Option (ZQ × Int) :=
  if x8 = 0 then (f_L_act_170 z m0 x3 x9 s1 s2 s3 0) else (f_L_act_170 z m0 x3 x9 s1 s2 s3 (irem (idiv x3 5) 4))
set_option maxRecDepth 100000 in
theorem t_L_act_156 {X : QX} {K : KT} {H0 : Heap} (k : KofQ X K H0 cL_act "DatalogmillLaw" rm_L_act 1) {z : ZQ} {m0 : Bool} {x3 : Int} {x8 : Int} {x9 : Int} {s1 : Int} {s2 : Int} {s3 : Int} {o0 o1 o2 o4 o5 o6 o7 : Option Value} (r_x3 : R32 x3) (r_x8 : R32 x8) (r_x9 : R32 x9) (r_s1 : R32 s1) (r_s2 : R32 s2) (r_s3 : R32 s3) {out : (ZQ × Int)} (hf : f_L_act_156 z m0 x3 x8 x9 s1 s2 s3 = some out) (hc : (fun out : (ZQ × Int) => RetQI X K H0 cL_act 1 out.1 out.2) out) : Jj (kAdd K 0 (6 * 0)) (WdQ X H0) z 156 [o0, o1, o2, some (.int (ii x3)), o4, o5, o6, o7, some (.int (ii x8)), some (.int (ii x9))] [.int (ii s3), .int (ii s2), .int (ii s1), rf (X.M m0).ad 1] := by
  unfold f_L_act_156 at hf
  have o : ∀ a b, Ok (kAdd K a b) cL_act "DatalogmillLaw" rm_L_act := fun _ _ => OkQ.add k.1
  have g : ∀ a b, GdQ X (kAdd K a b) H0 := fun _ _ => GdQ.add k.2.1
  refine J_iload (o _ _) dL_act_156 rfl ?_
  refine J_if_eq 169 (o _ _) dL_act_158 (by decide) r_x8 (fun c1 => ?_) (fun c2 => ?_)
  · have hf := ite_t c1 hf
    refine J_iconst (o _ _) dL_act_169 ?_
    exact t_L_act_170 k r_x3 r_x9 r_s1 r_s2 r_s3 rl0 hf hc
  · have hf := ite_f c2 hf
    refine J_iload_n (o _ _) dL_act_161 rfl ?_
    refine J_iconst (o _ _) dL_act_162 ?_
    refine J_idiv (o _ _) dL_act_163 rl5 (by decide) ?_
    refine J_iconst (o _ _) dL_act_164 ?_
    refine J_irem (o _ _) dL_act_165 rl4 (by decide) ?_
    refine J_goto 170 (o _ _) dL_act_166 (by decide) ?_
    exact t_L_act_170 k r_x3 r_x9 r_s1 r_s2 r_s3 (R_irem _ _) hf hc
noncomputable def f_L_act_214 (z : ZQ) (m0 : Bool) (s1 : Int) : Option (ZQ × Int) :=
  bnd (f_L_drops z m0 s1) fun v1 => some (v1.1, v1.2)
set_option maxRecDepth 100000 in
theorem t_L_act_214 {X : QX} {K : KT} {H0 : Heap} (k : KofQ X K H0 cL_act "DatalogmillLaw" rm_L_act 1) {z : ZQ} {m0 : Bool} {s1 : Int} {o0 o1 o2 o3 o4 o5 o6 o7 o8 o9 : Option Value} (r_s1 : R32 s1) {out : (ZQ × Int)} (hf : f_L_act_214 z m0 s1 = some out) (hc : (fun out : (ZQ × Int) => RetQI X K H0 cL_act 1 out.1 out.2) out) : Jj (kAdd K 0 (6 * 0)) (WdQ X H0) z 214 [o0, o1, o2, o3, o4, o5, o6, o7, o8, o9] [.int (ii s1), rf (X.M m0).ad 1] := by
  unfold f_L_act_214 at hf
  have o : ∀ a b, Ok (kAdd K a b) cL_act "DatalogmillLaw" rm_L_act := fun _ _ => OkQ.add k.1
  have g : ∀ a b, GdQ X (kAdd K a b) H0 := fun _ _ => GdQ.add k.2.1
  obtain ⟨v1, e2, hf⟩ := bnd_some hf
  refine J_qW (np := 2) k.1 k.2.1 k.2.2.1 (Nat.le_of_ble_eq_true rfl) dL_act_214 mw814 mw816 mw815 mw111 ⟨by decide +kernel, by decide +kernel, by decide +kernel⟩ ⟨rfl, rfl, Nat.le_of_ble_eq_true rfl, Nat.le_of_ble_eq_true rfl⟩ (c_L_drops k.2.2.2 k.2.1.2.1 r_s1 e2) rfl rfl c1s_0 (fun q3 => ?_)
  refine J_tt (u := 1) rfl ?_
  have hf := some_inj hf
  subst hf
  exact hc _ _ _ (Nat.le_of_ble_eq_true rfl) q3 dL_act_217
noncomputable def f_L_act_277 (z : ZQ) (m0 : Bool) (s1 : Int) (s2 : Int) (s3 : Int) (s4 : Int) : Option (ZQ × Int) :=
  bnd (f_L_heads z m0 s1 s2 s3 s4) fun v1 => some (v1.1, v1.2)
set_option maxRecDepth 100000 in
theorem t_L_act_277 {X : QX} {K : KT} {H0 : Heap} (k : KofQ X K H0 cL_act "DatalogmillLaw" rm_L_act 1) {z : ZQ} {m0 : Bool} {s1 : Int} {s2 : Int} {s3 : Int} {s4 : Int} {o0 o1 o2 o3 o4 o5 o6 o7 o8 o9 : Option Value} (r_s1 : R32 s1) (r_s2 : R32 s2) (r_s3 : R32 s3) (r_s4 : R32 s4) {out : (ZQ × Int)} (hf : f_L_act_277 z m0 s1 s2 s3 s4 = some out) (hc : (fun out : (ZQ × Int) => RetQI X K H0 cL_act 1 out.1 out.2) out) : Jj (kAdd K 0 (6 * 0)) (WdQ X H0) z 277 [o0, o1, o2, o3, o4, o5, o6, o7, o8, o9] [.int (ii s4), .int (ii s3), .int (ii s2), .int (ii s1), rf (X.M m0).ad 1] := by
  unfold f_L_act_277 at hf
  have o : ∀ a b, Ok (kAdd K a b) cL_act "DatalogmillLaw" rm_L_act := fun _ _ => OkQ.add k.1
  have g : ∀ a b, GdQ X (kAdd K a b) H0 := fun _ _ => GdQ.add k.2.1
  obtain ⟨v1, e2, hf⟩ := bnd_some hf
  refine J_qW (np := 5) k.1 k.2.1 k.2.2.1 (Nat.le_of_ble_eq_true rfl) dL_act_277 mw839 mw841 mw840 mw111 ⟨by decide +kernel, by decide +kernel, by decide +kernel⟩ ⟨rfl, rfl, Nat.le_of_ble_eq_true rfl, Nat.le_of_ble_eq_true rfl⟩ (c_L_heads k.2.2.2 k.2.1.2.1 r_s1 r_s2 r_s3 r_s4 e2) rfl rfl c1s_0 (fun q3 => ?_)
  refine J_tt (u := 1) rfl ?_
  have hf := some_inj hf
  subst hf
  exact hc _ _ _ (Nat.le_of_ble_eq_true rfl) q3 dL_act_280
noncomputable def f_L_act_261 (z : ZQ) (m0 : Bool) (x3 : Int) (x8 : Int) (s1 : Int) (s2 : Int) (s3 : Int) : Option (ZQ × Int) :=
  if x8 = 0 then (f_L_act_277 z m0 s1 s2 s3 0) else (bnd (f_L_term z (idiv x3 11)) fun v3 => f_L_act_277 v3.1 m0 s1 s2 s3 v3.2)
set_option maxRecDepth 100000 in
theorem t_L_act_261 {X : QX} {K : KT} {H0 : Heap} (k : KofQ X K H0 cL_act "DatalogmillLaw" rm_L_act 1) {z : ZQ} {m0 : Bool} {x3 : Int} {x8 : Int} {s1 : Int} {s2 : Int} {s3 : Int} {o0 o1 o2 o4 o5 o6 o7 o9 : Option Value} (r_x3 : R32 x3) (r_x8 : R32 x8) (r_s1 : R32 s1) (r_s2 : R32 s2) (r_s3 : R32 s3) {out : (ZQ × Int)} (hf : f_L_act_261 z m0 x3 x8 s1 s2 s3 = some out) (hc : (fun out : (ZQ × Int) => RetQI X K H0 cL_act 1 out.1 out.2) out) : Jj (kAdd K 0 (6 * 0)) (WdQ X H0) z 261 [o0, o1, o2, some (.int (ii x3)), o4, o5, o6, o7, some (.int (ii x8)), o9] [.int (ii s3), .int (ii s2), .int (ii s1), rf (X.M m0).ad 1] := by
  unfold f_L_act_261 at hf
  have o : ∀ a b, Ok (kAdd K a b) cL_act "DatalogmillLaw" rm_L_act := fun _ _ => OkQ.add k.1
  have g : ∀ a b, GdQ X (kAdd K a b) H0 := fun _ _ => GdQ.add k.2.1
  refine J_iload (o _ _) dL_act_261 rfl ?_
  refine J_if_eq 276 (o _ _) dL_act_263 (by decide) r_x8 (fun c1 => ?_) (fun c2 => ?_)
  · have hf := ite_t c1 hf
    refine J_iconst (o _ _) dL_act_276 ?_
    exact t_L_act_277 k r_s1 r_s2 r_s3 rl0 hf hc
  · have hf := ite_f c2 hf
    refine J_iload_n (o _ _) dL_act_266 rfl ?_
    refine J_bipush (o _ _) dL_act_267 (by decide) ?_
    refine J_idiv (o _ _) dL_act_269 rl11 (by decide) ?_
    obtain ⟨v3, e4, hf⟩ := bnd_some hf
    refine J_qS (np := 1) (c9 := 0) k.1 k.2.1 k.2.2.1 (Nat.le_of_ble_eq_true rfl) dL_act_270 mw1269 ml_L_term mw1270 ⟨rfl, rfl, Nat.le_of_ble_eq_true rfl, Nat.le_of_ble_eq_true rfl⟩ (c_L_term k.2.2.2 k.2.1.2.1 (R_idiv _ _) e4) rfl rfl (c1s_i (c1s_i (c1s_i (c1s_r c1s_0 (Nat.le_of_ble_eq_true rfl)) (Nat.le_of_ble_eq_true rfl)) (Nat.le_of_ble_eq_true rfl)) (Nat.le_of_ble_eq_true rfl)) (fun q5 => ?_)
    refine J_tt (u := 0) rfl ?_
    refine J_goto 277 (o _ _) dL_act_273 (by decide) ?_
    exact t_L_act_277 k r_s1 r_s2 r_s3 q5 hf hc
noncomputable def f_L_act_335 (z : ZQ) (m0 : Bool) (s1 : Int) (s2 : Int) (s3 : Int) (s4 : Int) (s5 : Int) : Option (ZQ × Int) :=
  bnd (f_L_atoms z m0 s1 s2 s3 s4 s5) fun v1 => some (v1.1, v1.2)
set_option maxRecDepth 100000 in
theorem t_L_act_335 {X : QX} {K : KT} {H0 : Heap} (k : KofQ X K H0 cL_act "DatalogmillLaw" rm_L_act 1) {z : ZQ} {m0 : Bool} {s1 : Int} {s2 : Int} {s3 : Int} {s4 : Int} {s5 : Int} {o0 o1 o2 o3 o4 o5 o6 o7 o8 o9 : Option Value} (r_s1 : R32 s1) (r_s2 : R32 s2) (r_s3 : R32 s3) (r_s4 : R32 s4) (r_s5 : R32 s5) {out : (ZQ × Int)} (hf : f_L_act_335 z m0 s1 s2 s3 s4 s5 = some out) (hc : (fun out : (ZQ × Int) => RetQI X K H0 cL_act 1 out.1 out.2) out) : Jj (kAdd K 0 (6 * 0)) (WdQ X H0) z 335 [o0, o1, o2, o3, o4, o5, o6, o7, o8, o9] [.int (ii s5), .int (ii s4), .int (ii s3), .int (ii s2), .int (ii s1), rf (X.M m0).ad 1] := by
  unfold f_L_act_335 at hf
  have o : ∀ a b, Ok (kAdd K a b) cL_act "DatalogmillLaw" rm_L_act := fun _ _ => OkQ.add k.1
  have g : ∀ a b, GdQ X (kAdd K a b) H0 := fun _ _ => GdQ.add k.2.1
  obtain ⟨v1, e2, hf⟩ := bnd_some hf
  refine J_qW (np := 6) k.1 k.2.1 k.2.2.1 (Nat.le_of_ble_eq_true rfl) dL_act_335 mw856 mw858 mw857 mw111 ⟨by decide +kernel, by decide +kernel, by decide +kernel⟩ ⟨rfl, rfl, Nat.le_of_ble_eq_true rfl, Nat.le_of_ble_eq_true rfl⟩ (c_L_atoms k.2.2.2 k.2.1.2.1 r_s1 r_s2 r_s3 r_s4 r_s5 e2) rfl rfl c1s_0 (fun q3 => ?_)
  refine J_tt (u := 1) rfl ?_
  have hf := some_inj hf
  subst hf
  exact hc _ _ _ (Nat.le_of_ble_eq_true rfl) q3 dL_act_338
noncomputable def f_L_act_319 (z : ZQ) (m0 : Bool) (x3 : Int) (x8 : Int) (s1 : Int) (s2 : Int) (s3 : Int) (s4 : Int) : Option (ZQ × Int) :=
  if x8 = 0 then (f_L_act_335 z m0 s1 s2 s3 s4 0) else (bnd (f_L_term z (idiv x3 11)) fun v3 => f_L_act_335 v3.1 m0 s1 s2 s3 s4 v3.2)
set_option maxRecDepth 100000 in
theorem t_L_act_319 {X : QX} {K : KT} {H0 : Heap} (k : KofQ X K H0 cL_act "DatalogmillLaw" rm_L_act 1) {z : ZQ} {m0 : Bool} {x3 : Int} {x8 : Int} {s1 : Int} {s2 : Int} {s3 : Int} {s4 : Int} {o0 o1 o2 o4 o5 o6 o7 o9 : Option Value} (r_x3 : R32 x3) (r_x8 : R32 x8) (r_s1 : R32 s1) (r_s2 : R32 s2) (r_s3 : R32 s3) (r_s4 : R32 s4) {out : (ZQ × Int)} (hf : f_L_act_319 z m0 x3 x8 s1 s2 s3 s4 = some out) (hc : (fun out : (ZQ × Int) => RetQI X K H0 cL_act 1 out.1 out.2) out) : Jj (kAdd K 0 (6 * 0)) (WdQ X H0) z 319 [o0, o1, o2, some (.int (ii x3)), o4, o5, o6, o7, some (.int (ii x8)), o9] [.int (ii s4), .int (ii s3), .int (ii s2), .int (ii s1), rf (X.M m0).ad 1] := by
  unfold f_L_act_319 at hf
  have o : ∀ a b, Ok (kAdd K a b) cL_act "DatalogmillLaw" rm_L_act := fun _ _ => OkQ.add k.1
  have g : ∀ a b, GdQ X (kAdd K a b) H0 := fun _ _ => GdQ.add k.2.1
  refine J_iload (o _ _) dL_act_319 rfl ?_
  refine J_if_eq 334 (o _ _) dL_act_321 (by decide) r_x8 (fun c1 => ?_) (fun c2 => ?_)
  · have hf := ite_t c1 hf
    refine J_iconst (o _ _) dL_act_334 ?_
    exact t_L_act_335 k r_s1 r_s2 r_s3 r_s4 rl0 hf hc
  · have hf := ite_f c2 hf
    refine J_iload_n (o _ _) dL_act_324 rfl ?_
    refine J_bipush (o _ _) dL_act_325 (by decide) ?_
    refine J_idiv (o _ _) dL_act_327 rl11 (by decide) ?_
    obtain ⟨v3, e4, hf⟩ := bnd_some hf
    refine J_qS (np := 1) (c9 := 0) k.1 k.2.1 k.2.2.1 (Nat.le_of_ble_eq_true rfl) dL_act_328 mw1269 ml_L_term mw1270 ⟨rfl, rfl, Nat.le_of_ble_eq_true rfl, Nat.le_of_ble_eq_true rfl⟩ (c_L_term k.2.2.2 k.2.1.2.1 (R_idiv _ _) e4) rfl rfl (c1s_i (c1s_i (c1s_i (c1s_i (c1s_r c1s_0 (Nat.le_of_ble_eq_true rfl)) (Nat.le_of_ble_eq_true rfl)) (Nat.le_of_ble_eq_true rfl)) (Nat.le_of_ble_eq_true rfl)) (Nat.le_of_ble_eq_true rfl)) (fun q5 => ?_)
    refine J_tt (u := 0) rfl ?_
    refine J_goto 335 (o _ _) dL_act_331 (by decide) ?_
    exact t_L_act_335 k r_s1 r_s2 r_s3 r_s4 q5 hf hc
noncomputable def f_L_act_297 (z : ZQ) (m0 : Bool) (x3 : Int) (x7 : Int) (x8 : Int) (s1 : Int) (s2 : Int) : Option (ZQ × Int) :=
  bnd (f_L_term z (idiv x3 2)) fun v1 => if x7 = 0 then (f_L_act_319 v1.1 m0 x3 x8 s1 s2 v1.2 0) else (bnd (f_L_term v1.1 (idiv x3 7)) fun v6 => f_L_act_319 v6.1 m0 x3 x8 s1 s2 v1.2 v6.2)
set_option maxRecDepth 100000 in
theorem t_L_act_297 {X : QX} {K : KT} {H0 : Heap} (k : KofQ X K H0 cL_act "DatalogmillLaw" rm_L_act 1) {z : ZQ} {m0 : Bool} {x3 : Int} {x7 : Int} {x8 : Int} {s1 : Int} {s2 : Int} {o0 o1 o2 o4 o5 o6 o9 : Option Value} (r_x3 : R32 x3) (r_x7 : R32 x7) (r_x8 : R32 x8) (r_s1 : R32 s1) (r_s2 : R32 s2) {out : (ZQ × Int)} (hf : f_L_act_297 z m0 x3 x7 x8 s1 s2 = some out) (hc : (fun out : (ZQ × Int) => RetQI X K H0 cL_act 1 out.1 out.2) out) : Jj (kAdd K 0 (6 * 0)) (WdQ X H0) z 297 [o0, o1, o2, some (.int (ii x3)), o4, o5, o6, some (.int (ii x7)), some (.int (ii x8)), o9] [.int (ii s2), .int (ii s1), rf (X.M m0).ad 1] := by
  unfold f_L_act_297 at hf
  have o : ∀ a b, Ok (kAdd K a b) cL_act "DatalogmillLaw" rm_L_act := fun _ _ => OkQ.add k.1
  have g : ∀ a b, GdQ X (kAdd K a b) H0 := fun _ _ => GdQ.add k.2.1
  refine J_iload_n (o _ _) dL_act_297 rfl ?_
  refine J_iconst (o _ _) dL_act_298 ?_
  refine J_idiv (o _ _) dL_act_299 rl2 (by decide) ?_
  obtain ⟨v1, e2, hf⟩ := bnd_some hf
  refine J_qS (np := 1) (c9 := 0) k.1 k.2.1 k.2.2.1 (Nat.le_of_ble_eq_true rfl) dL_act_300 mw1269 ml_L_term mw1270 ⟨rfl, rfl, Nat.le_of_ble_eq_true rfl, Nat.le_of_ble_eq_true rfl⟩ (c_L_term k.2.2.2 k.2.1.2.1 (R_idiv _ _) e2) rfl rfl (c1s_i (c1s_i (c1s_r c1s_0 (Nat.le_of_ble_eq_true rfl)) (Nat.le_of_ble_eq_true rfl)) (Nat.le_of_ble_eq_true rfl)) (fun q3 => ?_)
  refine J_tt (u := 0) rfl ?_
  refine J_iload (o _ _) dL_act_303 rfl ?_
  refine J_if_eq 318 (o _ _) dL_act_305 (by decide) r_x7 (fun c4 => ?_) (fun c5 => ?_)
  · have hf := ite_t c4 hf
    refine J_iconst (o _ _) dL_act_318 ?_
    exact t_L_act_319 k r_x3 r_x8 r_s1 r_s2 q3 rl0 hf hc
  · have hf := ite_f c5 hf
    refine J_iload_n (o _ _) dL_act_308 rfl ?_
    refine J_bipush (o _ _) dL_act_309 (by decide) ?_
    refine J_idiv (o _ _) dL_act_311 rl7 (by decide) ?_
    obtain ⟨v6, e7, hf⟩ := bnd_some hf
    refine J_qS (np := 1) (c9 := 0) k.1 k.2.1 k.2.2.1 (Nat.le_of_ble_eq_true rfl) dL_act_312 mw1269 ml_L_term mw1270 ⟨rfl, rfl, Nat.le_of_ble_eq_true rfl, Nat.le_of_ble_eq_true rfl⟩ (c_L_term k.2.2.2 k.2.1.2.1 (R_idiv _ _) e7) rfl rfl (c1s_i (c1s_i (c1s_i (c1s_r c1s_0 (Nat.le_of_ble_eq_true rfl)) (Nat.le_of_ble_eq_true rfl)) (Nat.le_of_ble_eq_true rfl)) (Nat.le_of_ble_eq_true rfl)) (fun q8 => ?_)
    refine J_tt (u := 0) rfl ?_
    refine J_goto 319 (o _ _) dL_act_315 (by decide) ?_
    exact t_L_act_319 k r_x3 r_x8 r_s1 r_s2 q3 q8 hf hc
noncomputable def f_L_act_441 (z : ZQ) (m0 : Bool) (s1 : Int) : Option (ZQ × Int) :=
  bnd (f_L_removes z m0 s1) fun v1 => some (v1.1, v1.2)
set_option maxRecDepth 100000 in
theorem t_L_act_441 {X : QX} {K : KT} {H0 : Heap} (k : KofQ X K H0 cL_act "DatalogmillLaw" rm_L_act 1) {z : ZQ} {m0 : Bool} {s1 : Int} {o0 o1 o2 o3 o4 o5 o6 o7 o8 o9 : Option Value} (r_s1 : R32 s1) {out : (ZQ × Int)} (hf : f_L_act_441 z m0 s1 = some out) (hc : (fun out : (ZQ × Int) => RetQI X K H0 cL_act 1 out.1 out.2) out) : Jj (kAdd K 0 (6 * 0)) (WdQ X H0) z 441 [o0, o1, o2, o3, o4, o5, o6, o7, o8, o9] [.int (ii s1), rf (X.M m0).ad 1] := by
  unfold f_L_act_441 at hf
  have o : ∀ a b, Ok (kAdd K a b) cL_act "DatalogmillLaw" rm_L_act := fun _ _ => OkQ.add k.1
  have g : ∀ a b, GdQ X (kAdd K a b) H0 := fun _ _ => GdQ.add k.2.1
  obtain ⟨v1, e2, hf⟩ := bnd_some hf
  refine J_qW (np := 2) k.1 k.2.1 k.2.2.1 (Nat.le_of_ble_eq_true rfl) dL_act_441 mw889 mw891 mw890 mw111 ⟨by decide +kernel, by decide +kernel, by decide +kernel⟩ ⟨rfl, rfl, Nat.le_of_ble_eq_true rfl, Nat.le_of_ble_eq_true rfl⟩ (c_L_removes k.2.2.2 k.2.1.2.1 r_s1 e2) rfl rfl c1s_0 (fun q3 => ?_)
  refine J_tt (u := 1) rfl ?_
  have hf := some_inj hf
  subst hf
  exact hc _ _ _ (Nat.le_of_ble_eq_true rfl) q3 dL_act_444
noncomputable def f_L_act_463 (z : ZQ) (m0 : Bool) (s1 : Int) : Option (ZQ × Int) :=
  bnd (f_L_removes z m0 s1) fun v1 => some (v1.1, v1.2)
set_option maxRecDepth 100000 in
theorem t_L_act_463 {X : QX} {K : KT} {H0 : Heap} (k : KofQ X K H0 cL_act "DatalogmillLaw" rm_L_act 1) {z : ZQ} {m0 : Bool} {s1 : Int} {o0 o1 o2 o3 o4 o5 o6 o7 o8 o9 : Option Value} (r_s1 : R32 s1) {out : (ZQ × Int)} (hf : f_L_act_463 z m0 s1 = some out) (hc : (fun out : (ZQ × Int) => RetQI X K H0 cL_act 1 out.1 out.2) out) : Jj (kAdd K 0 (6 * 0)) (WdQ X H0) z 463 [o0, o1, o2, o3, o4, o5, o6, o7, o8, o9] [.int (ii s1), rf (X.M m0).ad 1] := by
  unfold f_L_act_463 at hf
  have o : ∀ a b, Ok (kAdd K a b) cL_act "DatalogmillLaw" rm_L_act := fun _ _ => OkQ.add k.1
  have g : ∀ a b, GdQ X (kAdd K a b) H0 := fun _ _ => GdQ.add k.2.1
  obtain ⟨v1, e2, hf⟩ := bnd_some hf
  refine J_qW (np := 2) k.1 k.2.1 k.2.2.1 (Nat.le_of_ble_eq_true rfl) dL_act_463 mw889 mw891 mw890 mw111 ⟨by decide +kernel, by decide +kernel, by decide +kernel⟩ ⟨rfl, rfl, Nat.le_of_ble_eq_true rfl, Nat.le_of_ble_eq_true rfl⟩ (c_L_removes k.2.2.2 k.2.1.2.1 r_s1 e2) rfl rfl c1s_0 (fun q3 => ?_)
  refine J_tt (u := 1) rfl ?_
  have hf := some_inj hf
  subst hf
  exact hc _ _ _ (Nat.le_of_ble_eq_true rfl) q3 dL_act_466
noncomputable def f_L_act_51 (z : ZQ) (m0 : Bool) (x2 : Int) (x3 : Int) (x4 : Int) (x5 : Int) (x6 : Int) (x7 : Int) (s0 : Int) : Option (ZQ × Int) :=
  bl (irem x2 16) fun n1 => if n1 = 0 then (bl (irem (idiv x3 96) 4) fun n3 => if x7 = 0 then (f_L_act_156 z m0 x3 s0 n3 x4 x5 0) else (f_L_act_156 z m0 x3 s0 n3 x4 x5 x6)) else (if n1 = 1 then (bl (irem (idiv x3 96) 4) fun n8 => if x7 = 0 then (f_L_act_156 z m0 x3 s0 n8 x4 x5 0) else (f_L_act_156 z m0 x3 s0 n8 x4 x5 x6)) else (if n1 = 2 then (bl (irem (idiv x3 96) 4) fun n13 => if x7 = 0 then (f_L_act_156 z m0 x3 s0 n13 x4 x5 0) else (f_L_act_156 z m0 x3 s0 n13 x4 x5 x6)) else (if n1 = 3 then (if (z.2.2 0) = 0 then (f_L_act_214 z m0 0) else (gd ((z.2.2 0) ≠ 0) (f_L_act_214 z m0 (irem x3 (z.2.2 0))))) else (if n1 = 4 then (if (irem x3 5) = 0 then (bnd (f_L_passes z m0) fun v30 => some (v30.1, v30.2)) else (bnd (f_L_size z m0 x4) fun v27 => some (v27.1, v27.2))) else (if n1 = 5 then (bnd (f_L_term z x3) fun v35 => if x7 = 0 then (f_L_act_261 v35.1 m0 x3 s0 x4 v35.2 0) else (bnd (f_L_term v35.1 (idiv x3 7)) fun v40 => f_L_act_261 v40.1 m0 x3 s0 x4 v35.2 v40.2)) else (if n1 = 6 then (bnd (f_L_term z x3) fun v45 => if x7 = 0 then (f_L_act_261 v45.1 m0 x3 s0 x4 v45.2 0) else (bnd (f_L_term v45.1 (idiv x3 7)) fun v50 => f_L_act_261 v50.1 m0 x3 s0 x4 v45.2 v50.2)) else (if n1 = 7 then (if (irem (idiv x3 3) 5) ≤ 0 then (f_L_act_297 z m0 x3 x7 s0 x4 0) else (f_L_act_297 z m0 x3 x7 s0 x4 1)) else (if n1 = 8 then (if (irem (idiv x3 3) 5) ≤ 0 then (f_L_act_297 z m0 x3 x7 s0 x4 0) else (f_L_act_297 z m0 x3 x7 s0 x4 1)) else (if n1 = 9 then (if (irem (idiv x3 3) 5) ≤ 0 then (f_L_act_297 z m0 x3 x7 s0 x4 0) else (f_L_act_297 z m0 x3 x7 s0 x4 1)) else (if n1 = 10 then (if (irem x3 2) = 0 then (bnd (f_L_term z (idiv x3 3)) fun v75 => bnd (f_L_term v75.1 (idiv x3 11)) fun v78 => bnd (f_L_compares v78.1 m0 (irem (idiv x3 2) 4) v75.2 v78.2) fun v81 => some (v81.1, v81.2)) else (bnd (f_L_term z (idiv x3 3)) fun v69 => bnd (f_L_adds v69.1 m0 (wr ((-4) - (irem x3 2))) v69.2 (irem (idiv x3 5) 9)) fun v72 => some (v72.1, v72.2))) else (if n1 = 11 then (bnd (f_L_enters z m0) fun v86 => some (v86.1, v86.2)) else (if n1 = 12 then (bnd (f_L_enters z m0) fun v91 => some (v91.1, v91.2)) else (if n1 = 13 then (bnd (f_L_enters z m0) fun v96 => some (v96.1, v96.2)) else (if n1 = 14 then (if (irem x3 3) = 0 then (bnd (f_L_denies z m0) fun v114 => some (v114.1, v114.2)) else (if (irem x3 3) = 1 then (bnd (f_Dm_clear (zg z m0)) fun v110 => bl (zs z m0 v110.1) fun z113 => some (z113, v110.2)) else (if (z.2.2 1) = 0 then (f_L_act_441 z m0 0) else (gd ((z.2.2 1) ≠ 0) (f_L_act_441 z m0 (irem x3 (z.2.2 1))))))) else (if (z.2.2 1) = 0 then (f_L_act_463 z m0 0) else (gd ((z.2.2 1) ≠ 0) (f_L_act_463 z m0 (irem (idiv x3 3) (z.2.2 1)))))))))))))))))))
set_option maxRecDepth 100000 in
theorem t_L_act_51 {X : QX} {K : KT} {H0 : Heap} (k : KofQ X K H0 cL_act "DatalogmillLaw" rm_L_act 1) {z : ZQ} {m0 : Bool} {x2 : Int} {x3 : Int} {x4 : Int} {x5 : Int} {x6 : Int} {x7 : Int} {s0 : Int} {o8 o9 : Option Value} (r_x2 : R32 x2) (r_x3 : R32 x3) (r_x4 : R32 x4) (r_x5 : R32 x5) (r_x6 : R32 x6) (r_x7 : R32 x7) (r_s0 : R32 s0) {out : (ZQ × Int)} (hf : f_L_act_51 z m0 x2 x3 x4 x5 x6 x7 s0 = some out) (hc : (fun out : (ZQ × Int) => RetQI X K H0 cL_act 1 out.1 out.2) out) : Jj (kAdd K 0 (6 * 0)) (WdQ X H0) z 51 [some (rf (X.M m0).ad 1), some (.ref X.oa), some (.int (ii x2)), some (.int (ii x3)), some (.int (ii x4)), some (.int (ii x5)), some (.int (ii x6)), some (.int (ii x7)), o8, o9] [.int (ii s0)] := by
  unfold f_L_act_51 at hf
  have o : ∀ a b, Ok (kAdd K a b) cL_act "DatalogmillLaw" rm_L_act := fun _ _ => OkQ.add k.1
  have g : ∀ a b, GdQ X (kAdd K a b) H0 := fun _ _ => GdQ.add k.2.1
  refine J_istore (o _ _) dL_act_51 (Nat.le_of_ble_eq_true rfl) ?_
  refine J_iload_n (o _ _) dL_act_53 rfl ?_
  refine J_bipush (o _ _) dL_act_54 (by decide) ?_
  refine J_irem (o _ _) dL_act_56 rl16 (by decide) ?_
  have hf := bl_out hf
  rcases Classical.em (irem x2 16 = 0) with c2 | c6
  · have hf := ite_t c2 hf
    refine J_tabI 132 (o _ _) dL_act_57 (R_irem _ _) (by omega) (by rw [c2]; rfl) (by decide) ?_
    refine J_iload_n (o _ _) dL_act_132 rfl ?_
    refine J_bipush (o _ _) dL_act_133 (by decide) ?_
    refine J_idiv (o _ _) dL_act_135 rl96 (by decide) ?_
    refine J_iconst (o _ _) dL_act_136 ?_
    refine J_irem (o _ _) dL_act_137 rl4 (by decide) ?_
    refine J_istore (o _ _) dL_act_138 (Nat.le_of_ble_eq_true rfl) ?_
    have hf := bl_out hf
    refine J_aload_n (o _ _) dL_act_140 rfl ?_
    refine J_iload (o _ _) dL_act_141 rfl ?_
    refine J_iload (o _ _) dL_act_143 rfl ?_
    refine J_iload (o _ _) dL_act_145 rfl ?_
    refine J_if_eq 155 (o _ _) dL_act_147 (by decide) r_x7 (fun c4 => ?_) (fun c5 => ?_)
    · have hf := ite_t c4 hf
      refine J_iconst (o _ _) dL_act_155 ?_
      exact t_L_act_156 k r_x3 r_s0 (R_irem _ _) r_x4 r_x5 rl0 hf hc
    · have hf := ite_f c5 hf
      refine J_iload (o _ _) dL_act_150 rfl ?_
      refine J_goto 156 (o _ _) dL_act_152 (by decide) ?_
      exact t_L_act_156 k r_x3 r_s0 (R_irem _ _) r_x4 r_x5 r_x6 hf hc
  · have hf := ite_f c6 hf
    rcases Classical.em (irem x2 16 = 1) with c7 | c11
    · have hf := ite_t c7 hf
      refine J_tabI 132 (o _ _) dL_act_57 (R_irem _ _) (by omega) (by rw [c7]; rfl) (by decide) ?_
      refine J_iload_n (o _ _) dL_act_132 rfl ?_
      refine J_bipush (o _ _) dL_act_133 (by decide) ?_
      refine J_idiv (o _ _) dL_act_135 rl96 (by decide) ?_
      refine J_iconst (o _ _) dL_act_136 ?_
      refine J_irem (o _ _) dL_act_137 rl4 (by decide) ?_
      refine J_istore (o _ _) dL_act_138 (Nat.le_of_ble_eq_true rfl) ?_
      have hf := bl_out hf
      refine J_aload_n (o _ _) dL_act_140 rfl ?_
      refine J_iload (o _ _) dL_act_141 rfl ?_
      refine J_iload (o _ _) dL_act_143 rfl ?_
      refine J_iload (o _ _) dL_act_145 rfl ?_
      refine J_if_eq 155 (o _ _) dL_act_147 (by decide) r_x7 (fun c9 => ?_) (fun c10 => ?_)
      · have hf := ite_t c9 hf
        refine J_iconst (o _ _) dL_act_155 ?_
        exact t_L_act_156 k r_x3 r_s0 (R_irem _ _) r_x4 r_x5 rl0 hf hc
      · have hf := ite_f c10 hf
        refine J_iload (o _ _) dL_act_150 rfl ?_
        refine J_goto 156 (o _ _) dL_act_152 (by decide) ?_
        exact t_L_act_156 k r_x3 r_s0 (R_irem _ _) r_x4 r_x5 r_x6 hf hc
    · have hf := ite_f c11 hf
      rcases Classical.em (irem x2 16 = 2) with c12 | c16
      · have hf := ite_t c12 hf
        refine J_tabI 132 (o _ _) dL_act_57 (R_irem _ _) (by omega) (by rw [c12]; rfl) (by decide) ?_
        refine J_iload_n (o _ _) dL_act_132 rfl ?_
        refine J_bipush (o _ _) dL_act_133 (by decide) ?_
        refine J_idiv (o _ _) dL_act_135 rl96 (by decide) ?_
        refine J_iconst (o _ _) dL_act_136 ?_
        refine J_irem (o _ _) dL_act_137 rl4 (by decide) ?_
        refine J_istore (o _ _) dL_act_138 (Nat.le_of_ble_eq_true rfl) ?_
        have hf := bl_out hf
        refine J_aload_n (o _ _) dL_act_140 rfl ?_
        refine J_iload (o _ _) dL_act_141 rfl ?_
        refine J_iload (o _ _) dL_act_143 rfl ?_
        refine J_iload (o _ _) dL_act_145 rfl ?_
        refine J_if_eq 155 (o _ _) dL_act_147 (by decide) r_x7 (fun c14 => ?_) (fun c15 => ?_)
        · have hf := ite_t c14 hf
          refine J_iconst (o _ _) dL_act_155 ?_
          exact t_L_act_156 k r_x3 r_s0 (R_irem _ _) r_x4 r_x5 rl0 hf hc
        · have hf := ite_f c15 hf
          refine J_iload (o _ _) dL_act_150 rfl ?_
          refine J_goto 156 (o _ _) dL_act_152 (by decide) ?_
          exact t_L_act_156 k r_x3 r_s0 (R_irem _ _) r_x4 r_x5 r_x6 hf hc
      · have hf := ite_f c16 hf
        rcases Classical.em (irem x2 16 = 3) with c17 | c23
        · have hf := ite_t c17 hf
          refine J_tabI 198 (o _ _) dL_act_57 (R_irem _ _) (by omega) (by rw [c17]; rfl) (by decide) ?_
          refine J_aload_n (o _ _) dL_act_198 rfl ?_
          refine J_aldO_n (o _ _) dL_act_199 rfl ?_
          refine J_iconst (o _ _) dL_act_200 ?_
          refine J_nld (o _ _) (g _ _) dL_act_201 rl0 ⟨by decide, by decide⟩ (fun q18 => ?_)
          refine J_if_ne 209 (o _ _) dL_act_202 (by decide) q18 (fun c19 => ?_) (fun c20 => ?_)
          · have hf := ite_f c19 hf
            refine J_iload_n (o _ _) dL_act_209 rfl ?_
            refine J_aldO_n (o _ _) dL_act_210 rfl ?_
            refine J_iconst (o _ _) dL_act_211 ?_
            refine J_nld (o _ _) (g _ _) dL_act_212 rl0 ⟨by decide, by decide⟩ (fun q21 => ?_)
            obtain ⟨g22, hf⟩ := gd_some hf
            refine J_irem (o _ _) dL_act_213 q21 g22 ?_
            exact t_L_act_214 k (R_irem _ _) hf hc
          · have hf := ite_t c20 hf
            refine J_iconst (o _ _) dL_act_205 ?_
            refine J_goto 214 (o _ _) dL_act_206 (by decide) ?_
            exact t_L_act_214 k rl0 hf hc
        · have hf := ite_f c23 hf
          rcases Classical.em (irem x2 16 = 4) with c24 | c33
          · have hf := ite_t c24 hf
            refine J_tabI 218 (o _ _) dL_act_57 (R_irem _ _) (by omega) (by rw [c24]; rfl) (by decide) ?_
            refine J_iload_n (o _ _) dL_act_218 rfl ?_
            refine J_iconst (o _ _) dL_act_219 ?_
            refine J_irem (o _ _) dL_act_220 rl5 (by decide) ?_
            refine J_if_ne 231 (o _ _) dL_act_221 (by decide) (R_irem _ _) (fun c25 => ?_) (fun c26 => ?_)
            · have hf := ite_f c25 hf
              refine J_aload_n (o _ _) dL_act_231 rfl ?_
              refine J_iload (o _ _) dL_act_232 rfl ?_
              obtain ⟨v27, e28, hf⟩ := bnd_some hf
              refine J_qW (np := 2) k.1 k.2.1 k.2.2.1 (Nat.le_of_ble_eq_true rfl) dL_act_234 mw1024 mw1026 mw1025 mw111 ⟨by decide +kernel, by decide +kernel, by decide +kernel⟩ ⟨rfl, rfl, Nat.le_of_ble_eq_true rfl, Nat.le_of_ble_eq_true rfl⟩ (c_L_size k.2.2.2 k.2.1.2.1 r_x4 e28) rfl rfl c1s_0 (fun q29 => ?_)
              refine J_tt (u := 1) rfl ?_
              have hf := some_inj hf
              subst hf
              exact hc _ _ _ (Nat.le_of_ble_eq_true rfl) q29 dL_act_237
            · have hf := ite_t c26 hf
              refine J_aload_n (o _ _) dL_act_224 rfl ?_
              obtain ⟨v30, e31, hf⟩ := bnd_some hf
              refine J_qW (np := 1) k.1 k.2.1 k.2.2.1 (Nat.le_of_ble_eq_true rfl) dL_act_225 mw982 mw984 mw983 mw111 ⟨by decide +kernel, by decide +kernel, by decide +kernel⟩ ⟨rfl, rfl, Nat.le_of_ble_eq_true rfl, Nat.le_of_ble_eq_true rfl⟩ (c_L_passes k.2.2.2 k.2.1.2.1  e31) rfl rfl c1s_0 (fun q32 => ?_)
              refine J_tt (u := 1) rfl ?_
              refine J_goto 237 (o _ _) dL_act_228 (by decide) ?_
              have hf := some_inj hf
              subst hf
              exact hc _ _ _ (Nat.le_of_ble_eq_true rfl) q32 dL_act_237
          · have hf := ite_f c33 hf
            rcases Classical.em (irem x2 16 = 5) with c34 | c43
            · have hf := ite_t c34 hf
              refine J_tabI 238 (o _ _) dL_act_57 (R_irem _ _) (by omega) (by rw [c34]; rfl) (by decide) ?_
              refine J_aload_n (o _ _) dL_act_238 rfl ?_
              refine J_iload (o _ _) dL_act_239 rfl ?_
              refine J_iload_n (o _ _) dL_act_241 rfl ?_
              obtain ⟨v35, e36, hf⟩ := bnd_some hf
              refine J_qS (np := 1) (c9 := 0) k.1 k.2.1 k.2.2.1 (Nat.le_of_ble_eq_true rfl) dL_act_242 mw1269 ml_L_term mw1270 ⟨rfl, rfl, Nat.le_of_ble_eq_true rfl, Nat.le_of_ble_eq_true rfl⟩ (c_L_term k.2.2.2 k.2.1.2.1 r_x3 e36) rfl rfl (c1s_i (c1s_r c1s_0 (Nat.le_of_ble_eq_true rfl)) (Nat.le_of_ble_eq_true rfl)) (fun q37 => ?_)
              refine J_tt (u := 0) rfl ?_
              refine J_iload (o _ _) dL_act_245 rfl ?_
              refine J_if_eq 260 (o _ _) dL_act_247 (by decide) r_x7 (fun c38 => ?_) (fun c39 => ?_)
              · have hf := ite_t c38 hf
                refine J_iconst (o _ _) dL_act_260 ?_
                exact t_L_act_261 k r_x3 r_s0 r_x4 q37 rl0 hf hc
              · have hf := ite_f c39 hf
                refine J_iload_n (o _ _) dL_act_250 rfl ?_
                refine J_bipush (o _ _) dL_act_251 (by decide) ?_
                refine J_idiv (o _ _) dL_act_253 rl7 (by decide) ?_
                obtain ⟨v40, e41, hf⟩ := bnd_some hf
                refine J_qS (np := 1) (c9 := 0) k.1 k.2.1 k.2.2.1 (Nat.le_of_ble_eq_true rfl) dL_act_254 mw1269 ml_L_term mw1270 ⟨rfl, rfl, Nat.le_of_ble_eq_true rfl, Nat.le_of_ble_eq_true rfl⟩ (c_L_term k.2.2.2 k.2.1.2.1 (R_idiv _ _) e41) rfl rfl (c1s_i (c1s_i (c1s_r c1s_0 (Nat.le_of_ble_eq_true rfl)) (Nat.le_of_ble_eq_true rfl)) (Nat.le_of_ble_eq_true rfl)) (fun q42 => ?_)
                refine J_tt (u := 0) rfl ?_
                refine J_goto 261 (o _ _) dL_act_257 (by decide) ?_
                exact t_L_act_261 k r_x3 r_s0 r_x4 q37 q42 hf hc
            · have hf := ite_f c43 hf
              rcases Classical.em (irem x2 16 = 6) with c44 | c53
              · have hf := ite_t c44 hf
                refine J_tabI 238 (o _ _) dL_act_57 (R_irem _ _) (by omega) (by rw [c44]; rfl) (by decide) ?_
                refine J_aload_n (o _ _) dL_act_238 rfl ?_
                refine J_iload (o _ _) dL_act_239 rfl ?_
                refine J_iload_n (o _ _) dL_act_241 rfl ?_
                obtain ⟨v45, e46, hf⟩ := bnd_some hf
                refine J_qS (np := 1) (c9 := 0) k.1 k.2.1 k.2.2.1 (Nat.le_of_ble_eq_true rfl) dL_act_242 mw1269 ml_L_term mw1270 ⟨rfl, rfl, Nat.le_of_ble_eq_true rfl, Nat.le_of_ble_eq_true rfl⟩ (c_L_term k.2.2.2 k.2.1.2.1 r_x3 e46) rfl rfl (c1s_i (c1s_r c1s_0 (Nat.le_of_ble_eq_true rfl)) (Nat.le_of_ble_eq_true rfl)) (fun q47 => ?_)
                refine J_tt (u := 0) rfl ?_
                refine J_iload (o _ _) dL_act_245 rfl ?_
                refine J_if_eq 260 (o _ _) dL_act_247 (by decide) r_x7 (fun c48 => ?_) (fun c49 => ?_)
                · have hf := ite_t c48 hf
                  refine J_iconst (o _ _) dL_act_260 ?_
                  exact t_L_act_261 k r_x3 r_s0 r_x4 q47 rl0 hf hc
                · have hf := ite_f c49 hf
                  refine J_iload_n (o _ _) dL_act_250 rfl ?_
                  refine J_bipush (o _ _) dL_act_251 (by decide) ?_
                  refine J_idiv (o _ _) dL_act_253 rl7 (by decide) ?_
                  obtain ⟨v50, e51, hf⟩ := bnd_some hf
                  refine J_qS (np := 1) (c9 := 0) k.1 k.2.1 k.2.2.1 (Nat.le_of_ble_eq_true rfl) dL_act_254 mw1269 ml_L_term mw1270 ⟨rfl, rfl, Nat.le_of_ble_eq_true rfl, Nat.le_of_ble_eq_true rfl⟩ (c_L_term k.2.2.2 k.2.1.2.1 (R_idiv _ _) e51) rfl rfl (c1s_i (c1s_i (c1s_r c1s_0 (Nat.le_of_ble_eq_true rfl)) (Nat.le_of_ble_eq_true rfl)) (Nat.le_of_ble_eq_true rfl)) (fun q52 => ?_)
                  refine J_tt (u := 0) rfl ?_
                  refine J_goto 261 (o _ _) dL_act_257 (by decide) ?_
                  exact t_L_act_261 k r_x3 r_s0 r_x4 q47 q52 hf hc
              · have hf := ite_f c53 hf
                rcases Classical.em (irem x2 16 = 7) with c54 | c57
                · have hf := ite_t c54 hf
                  refine J_tabI 281 (o _ _) dL_act_57 (R_irem _ _) (by omega) (by rw [c54]; rfl) (by decide) ?_
                  refine J_aload_n (o _ _) dL_act_281 rfl ?_
                  refine J_iload (o _ _) dL_act_282 rfl ?_
                  refine J_iload_n (o _ _) dL_act_284 rfl ?_
                  refine J_iconst (o _ _) dL_act_285 ?_
                  refine J_idiv (o _ _) dL_act_286 rl3 (by decide) ?_
                  refine J_iconst (o _ _) dL_act_287 ?_
                  refine J_irem (o _ _) dL_act_288 rl5 (by decide) ?_
                  refine J_if_le 296 (o _ _) dL_act_289 (by decide) (R_irem _ _) (fun c55 => ?_) (fun c56 => ?_)
                  · have hf := ite_t c55 hf
                    refine J_iconst (o _ _) dL_act_296 ?_
                    exact t_L_act_297 k r_x3 r_x7 r_s0 r_x4 rl0 hf hc
                  · have hf := ite_f c56 hf
                    refine J_iconst (o _ _) dL_act_292 ?_
                    refine J_goto 297 (o _ _) dL_act_293 (by decide) ?_
                    exact t_L_act_297 k r_x3 r_x7 r_s0 r_x4 rl1 hf hc
                · have hf := ite_f c57 hf
                  rcases Classical.em (irem x2 16 = 8) with c58 | c61
                  · have hf := ite_t c58 hf
                    refine J_tabI 281 (o _ _) dL_act_57 (R_irem _ _) (by omega) (by rw [c58]; rfl) (by decide) ?_
                    refine J_aload_n (o _ _) dL_act_281 rfl ?_
                    refine J_iload (o _ _) dL_act_282 rfl ?_
                    refine J_iload_n (o _ _) dL_act_284 rfl ?_
                    refine J_iconst (o _ _) dL_act_285 ?_
                    refine J_idiv (o _ _) dL_act_286 rl3 (by decide) ?_
                    refine J_iconst (o _ _) dL_act_287 ?_
                    refine J_irem (o _ _) dL_act_288 rl5 (by decide) ?_
                    refine J_if_le 296 (o _ _) dL_act_289 (by decide) (R_irem _ _) (fun c59 => ?_) (fun c60 => ?_)
                    · have hf := ite_t c59 hf
                      refine J_iconst (o _ _) dL_act_296 ?_
                      exact t_L_act_297 k r_x3 r_x7 r_s0 r_x4 rl0 hf hc
                    · have hf := ite_f c60 hf
                      refine J_iconst (o _ _) dL_act_292 ?_
                      refine J_goto 297 (o _ _) dL_act_293 (by decide) ?_
                      exact t_L_act_297 k r_x3 r_x7 r_s0 r_x4 rl1 hf hc
                  · have hf := ite_f c61 hf
                    rcases Classical.em (irem x2 16 = 9) with c62 | c65
                    · have hf := ite_t c62 hf
                      refine J_tabI 281 (o _ _) dL_act_57 (R_irem _ _) (by omega) (by rw [c62]; rfl) (by decide) ?_
                      refine J_aload_n (o _ _) dL_act_281 rfl ?_
                      refine J_iload (o _ _) dL_act_282 rfl ?_
                      refine J_iload_n (o _ _) dL_act_284 rfl ?_
                      refine J_iconst (o _ _) dL_act_285 ?_
                      refine J_idiv (o _ _) dL_act_286 rl3 (by decide) ?_
                      refine J_iconst (o _ _) dL_act_287 ?_
                      refine J_irem (o _ _) dL_act_288 rl5 (by decide) ?_
                      refine J_if_le 296 (o _ _) dL_act_289 (by decide) (R_irem _ _) (fun c63 => ?_) (fun c64 => ?_)
                      · have hf := ite_t c63 hf
                        refine J_iconst (o _ _) dL_act_296 ?_
                        exact t_L_act_297 k r_x3 r_x7 r_s0 r_x4 rl0 hf hc
                      · have hf := ite_f c64 hf
                        refine J_iconst (o _ _) dL_act_292 ?_
                        refine J_goto 297 (o _ _) dL_act_293 (by decide) ?_
                        exact t_L_act_297 k r_x3 r_x7 r_s0 r_x4 rl1 hf hc
                    · have hf := ite_f c65 hf
                      rcases Classical.em (irem x2 16 = 10) with c66 | c84
                      · have hf := ite_t c66 hf
                        refine J_tabI 339 (o _ _) dL_act_57 (R_irem _ _) (by omega) (by rw [c66]; rfl) (by decide) ?_
                        refine J_iload_n (o _ _) dL_act_339 rfl ?_
                        refine J_iconst (o _ _) dL_act_340 ?_
                        refine J_irem (o _ _) dL_act_341 rl2 (by decide) ?_
                        refine J_if_ne 370 (o _ _) dL_act_342 (by decide) (R_irem _ _) (fun c67 => ?_) (fun c68 => ?_)
                        · have hf := ite_f c67 hf
                          refine J_aload_n (o _ _) dL_act_370 rfl ?_
                          refine J_bipush (o _ _) dL_act_371 (by decide) ?_
                          refine J_iload_n (o _ _) dL_act_373 rfl ?_
                          refine J_iconst (o _ _) dL_act_374 ?_
                          refine J_irem (o _ _) dL_act_375 rl2 (by decide) ?_
                          refine J_isub (o _ _) dL_act_376 ?_
                          refine J_iload_n (o _ _) dL_act_377 rfl ?_
                          refine J_iconst (o _ _) dL_act_378 ?_
                          refine J_idiv (o _ _) dL_act_379 rl3 (by decide) ?_
                          obtain ⟨v69, e70, hf⟩ := bnd_some hf
                          refine J_qS (np := 1) (c9 := 0) k.1 k.2.1 k.2.2.1 (Nat.le_of_ble_eq_true rfl) dL_act_380 mw1269 ml_L_term mw1270 ⟨rfl, rfl, Nat.le_of_ble_eq_true rfl, Nat.le_of_ble_eq_true rfl⟩ (c_L_term k.2.2.2 k.2.1.2.1 (R_idiv _ _) e70) rfl rfl (c1s_i (c1s_r c1s_0 (Nat.le_of_ble_eq_true rfl)) (Nat.le_of_ble_eq_true rfl)) (fun q71 => ?_)
                          refine J_tt (u := 0) rfl ?_
                          refine J_iload_n (o _ _) dL_act_383 rfl ?_
                          refine J_iconst (o _ _) dL_act_384 ?_
                          refine J_idiv (o _ _) dL_act_385 rl5 (by decide) ?_
                          refine J_bipush (o _ _) dL_act_386 (by decide) ?_
                          refine J_irem (o _ _) dL_act_388 rl9 (by decide) ?_
                          obtain ⟨v72, e73, hf⟩ := bnd_some hf
                          refine J_qW (np := 4) k.1 k.2.1 k.2.2.1 (Nat.le_of_ble_eq_true rfl) dL_act_389 mw882 mw884 mw883 mw111 ⟨by decide +kernel, by decide +kernel, by decide +kernel⟩ ⟨rfl, rfl, Nat.le_of_ble_eq_true rfl, Nat.le_of_ble_eq_true rfl⟩ (c_L_adds k.2.2.2 k.2.1.2.1 (R_wr _) q71 (R_irem _ _) e73) rfl rfl c1s_0 (fun q74 => ?_)
                          refine J_tt (u := 1) rfl ?_
                          have hf := some_inj hf
                          subst hf
                          exact hc _ _ _ (Nat.le_of_ble_eq_true rfl) q74 dL_act_392
                        · have hf := ite_t c68 hf
                          refine J_aload_n (o _ _) dL_act_345 rfl ?_
                          refine J_iload_n (o _ _) dL_act_346 rfl ?_
                          refine J_iconst (o _ _) dL_act_347 ?_
                          refine J_idiv (o _ _) dL_act_348 rl2 (by decide) ?_
                          refine J_iconst (o _ _) dL_act_349 ?_
                          refine J_irem (o _ _) dL_act_350 rl4 (by decide) ?_
                          refine J_iload_n (o _ _) dL_act_351 rfl ?_
                          refine J_iconst (o _ _) dL_act_352 ?_
                          refine J_idiv (o _ _) dL_act_353 rl3 (by decide) ?_
                          obtain ⟨v75, e76, hf⟩ := bnd_some hf
                          refine J_qS (np := 1) (c9 := 0) k.1 k.2.1 k.2.2.1 (Nat.le_of_ble_eq_true rfl) dL_act_354 mw1269 ml_L_term mw1270 ⟨rfl, rfl, Nat.le_of_ble_eq_true rfl, Nat.le_of_ble_eq_true rfl⟩ (c_L_term k.2.2.2 k.2.1.2.1 (R_idiv _ _) e76) rfl rfl (c1s_i (c1s_r c1s_0 (Nat.le_of_ble_eq_true rfl)) (Nat.le_of_ble_eq_true rfl)) (fun q77 => ?_)
                          refine J_tt (u := 0) rfl ?_
                          refine J_iload_n (o _ _) dL_act_357 rfl ?_
                          refine J_bipush (o _ _) dL_act_358 (by decide) ?_
                          refine J_idiv (o _ _) dL_act_360 rl11 (by decide) ?_
                          obtain ⟨v78, e79, hf⟩ := bnd_some hf
                          refine J_qS (np := 1) (c9 := 0) k.1 k.2.1 k.2.2.1 (Nat.le_of_ble_eq_true rfl) dL_act_361 mw1269 ml_L_term mw1270 ⟨rfl, rfl, Nat.le_of_ble_eq_true rfl, Nat.le_of_ble_eq_true rfl⟩ (c_L_term k.2.2.2 k.2.1.2.1 (R_idiv _ _) e79) rfl rfl (c1s_i (c1s_i (c1s_r c1s_0 (Nat.le_of_ble_eq_true rfl)) (Nat.le_of_ble_eq_true rfl)) (Nat.le_of_ble_eq_true rfl)) (fun q80 => ?_)
                          refine J_tt (u := 0) rfl ?_
                          obtain ⟨v81, e82, hf⟩ := bnd_some hf
                          refine J_qW (np := 4) k.1 k.2.1 k.2.2.1 (Nat.le_of_ble_eq_true rfl) dL_act_364 mw873 mw875 mw874 mw111 ⟨by decide +kernel, by decide +kernel, by decide +kernel⟩ ⟨rfl, rfl, Nat.le_of_ble_eq_true rfl, Nat.le_of_ble_eq_true rfl⟩ (c_L_compares k.2.2.2 k.2.1.2.1 (R_irem _ _) q77 q80 e82) rfl rfl c1s_0 (fun q83 => ?_)
                          refine J_tt (u := 1) rfl ?_
                          refine J_goto 392 (o _ _) dL_act_367 (by decide) ?_
                          have hf := some_inj hf
                          subst hf
                          exact hc _ _ _ (Nat.le_of_ble_eq_true rfl) q83 dL_act_392
                      · have hf := ite_f c84 hf
                        rcases Classical.em (irem x2 16 = 11) with c85 | c89
                        · have hf := ite_t c85 hf
                          refine J_tabI 393 (o _ _) dL_act_57 (R_irem _ _) (by omega) (by rw [c85]; rfl) (by decide) ?_
                          refine J_aload_n (o _ _) dL_act_393 rfl ?_
                          obtain ⟨v86, e87, hf⟩ := bnd_some hf
                          refine J_qW (np := 1) k.1 k.2.1 k.2.2.1 (Nat.le_of_ble_eq_true rfl) dL_act_394 mw1272 mw1274 mw1273 mw111 ⟨by decide +kernel, by decide +kernel, by decide +kernel⟩ ⟨rfl, rfl, Nat.le_of_ble_eq_true rfl, Nat.le_of_ble_eq_true rfl⟩ (c_L_enters k.2.2.2 k.2.1.2.1  e87) rfl rfl c1s_0 (fun q88 => ?_)
                          refine J_tt (u := 1) rfl ?_
                          have hf := some_inj hf
                          subst hf
                          exact hc _ _ _ (Nat.le_of_ble_eq_true rfl) q88 dL_act_397
                        · have hf := ite_f c89 hf
                          rcases Classical.em (irem x2 16 = 12) with c90 | c94
                          · have hf := ite_t c90 hf
                            refine J_tabI 393 (o _ _) dL_act_57 (R_irem _ _) (by omega) (by rw [c90]; rfl) (by decide) ?_
                            refine J_aload_n (o _ _) dL_act_393 rfl ?_
                            obtain ⟨v91, e92, hf⟩ := bnd_some hf
                            refine J_qW (np := 1) k.1 k.2.1 k.2.2.1 (Nat.le_of_ble_eq_true rfl) dL_act_394 mw1272 mw1274 mw1273 mw111 ⟨by decide +kernel, by decide +kernel, by decide +kernel⟩ ⟨rfl, rfl, Nat.le_of_ble_eq_true rfl, Nat.le_of_ble_eq_true rfl⟩ (c_L_enters k.2.2.2 k.2.1.2.1  e92) rfl rfl c1s_0 (fun q93 => ?_)
                            refine J_tt (u := 1) rfl ?_
                            have hf := some_inj hf
                            subst hf
                            exact hc _ _ _ (Nat.le_of_ble_eq_true rfl) q93 dL_act_397
                          · have hf := ite_f c94 hf
                            rcases Classical.em (irem x2 16 = 13) with c95 | c99
                            · have hf := ite_t c95 hf
                              refine J_tabI 393 (o _ _) dL_act_57 (R_irem _ _) (by omega) (by rw [c95]; rfl) (by decide) ?_
                              refine J_aload_n (o _ _) dL_act_393 rfl ?_
                              obtain ⟨v96, e97, hf⟩ := bnd_some hf
                              refine J_qW (np := 1) k.1 k.2.1 k.2.2.1 (Nat.le_of_ble_eq_true rfl) dL_act_394 mw1272 mw1274 mw1273 mw111 ⟨by decide +kernel, by decide +kernel, by decide +kernel⟩ ⟨rfl, rfl, Nat.le_of_ble_eq_true rfl, Nat.le_of_ble_eq_true rfl⟩ (c_L_enters k.2.2.2 k.2.1.2.1  e97) rfl rfl c1s_0 (fun q98 => ?_)
                              refine J_tt (u := 1) rfl ?_
                              have hf := some_inj hf
                              subst hf
                              exact hc _ _ _ (Nat.le_of_ble_eq_true rfl) q98 dL_act_397
                            · have hf := ite_f c99 hf
                              rcases Classical.em (irem x2 16 = 14) with c100 | c117
                              · have hf := ite_t c100 hf
                                refine J_tabI 398 (o _ _) dL_act_57 (R_irem _ _) (by omega) (by rw [c100]; rfl) (by decide) ?_
                                refine J_iload_n (o _ _) dL_act_398 rfl ?_
                                refine J_iconst (o _ _) dL_act_399 ?_
                                refine J_irem (o _ _) dL_act_400 rl3 (by decide) ?_
                                refine J_if_ne 411 (o _ _) dL_act_401 (by decide) (R_irem _ _) (fun c101 => ?_) (fun c102 => ?_)
                                · have hf := ite_f c101 hf
                                  refine J_iload_n (o _ _) dL_act_411 rfl ?_
                                  refine J_iconst (o _ _) dL_act_412 ?_
                                  refine J_irem (o _ _) dL_act_413 rl3 (by decide) ?_
                                  refine J_iconst (o _ _) dL_act_414 ?_
                                  refine J_icmp_ne 425 (o _ _) dL_act_415 (by decide) (R_irem _ _) rl1 (fun c103 => ?_) (fun c104 => ?_)
                                  · have hf := ite_f c103 hf
                                    refine J_aload_n (o _ _) dL_act_425 rfl ?_
                                    refine J_aldO_n (o _ _) dL_act_426 rfl ?_
                                    refine J_iconst (o _ _) dL_act_427 ?_
                                    refine J_nld (o _ _) (g _ _) dL_act_428 rl1 ⟨by decide, by decide⟩ (fun q105 => ?_)
                                    refine J_if_ne 436 (o _ _) dL_act_429 (by decide) q105 (fun c106 => ?_) (fun c107 => ?_)
                                    · have hf := ite_f c106 hf
                                      refine J_iload_n (o _ _) dL_act_436 rfl ?_
                                      refine J_aldO_n (o _ _) dL_act_437 rfl ?_
                                      refine J_iconst (o _ _) dL_act_438 ?_
                                      refine J_nld (o _ _) (g _ _) dL_act_439 rl1 ⟨by decide, by decide⟩ (fun q108 => ?_)
                                      obtain ⟨g109, hf⟩ := gd_some hf
                                      refine J_irem (o _ _) dL_act_440 q108 g109 ?_
                                      exact t_L_act_441 k (R_irem _ _) hf hc
                                    · have hf := ite_t c107 hf
                                      refine J_iconst (o _ _) dL_act_432 ?_
                                      refine J_goto 441 (o _ _) dL_act_433 (by decide) ?_
                                      exact t_L_act_441 k rl0 hf hc
                                  · have hf := ite_t c104 hf
                                    refine J_aload_n (o _ _) dL_act_418 rfl ?_
                                    obtain ⟨v110, e111, hf⟩ := bnd_some hf
                                    refine J_qaI (m := m0) (vs := []) k.1 k.2.1 k.2.2.1 (Nat.le_of_ble_eq_true rfl) dL_act_419 lkL_180 ml_Dm_clear vl_Dm_clear ⟨rfl, rfl, Nat.le_of_ble_eq_true rfl, Nat.le_of_ble_eq_true rfl⟩ (c_Dm_clear k.2.1.2.1.inj e111) kA_1 rfl ⟨by decide, by decide⟩ rfl rfl c1s_0 (fun q112 => ?_)
                                    have hf := bl_out hf
                                    refine J_goto 444 (o _ _) dL_act_422 (by decide) ?_
                                    have hf := some_inj hf
                                    subst hf
                                    exact hc _ _ _ (Nat.le_of_ble_eq_true rfl) q112 dL_act_444
                                · have hf := ite_t c102 hf
                                  refine J_aload_n (o _ _) dL_act_404 rfl ?_
                                  obtain ⟨v114, e115, hf⟩ := bnd_some hf
                                  refine J_qW (np := 1) k.1 k.2.1 k.2.2.1 (Nat.le_of_ble_eq_true rfl) dL_act_405 mw944 mw946 mw945 mw111 ⟨by decide +kernel, by decide +kernel, by decide +kernel⟩ ⟨rfl, rfl, Nat.le_of_ble_eq_true rfl, Nat.le_of_ble_eq_true rfl⟩ (c_L_denies k.2.2.2 k.2.1.2.1  e115) rfl rfl c1s_0 (fun q116 => ?_)
                                  refine J_tt (u := 1) rfl ?_
                                  refine J_goto 444 (o _ _) dL_act_408 (by decide) ?_
                                  have hf := some_inj hf
                                  subst hf
                                  exact hc _ _ _ (Nat.le_of_ble_eq_true rfl) q116 dL_act_444
                              · have hf := ite_f c117 hf
                                refine J_tabO 445 (o _ _) dL_act_57 (R_irem _ _) (by omega) (by decide) ?_
                                refine J_aload_n (o _ _) dL_act_445 rfl ?_
                                refine J_aldO_n (o _ _) dL_act_446 rfl ?_
                                refine J_iconst (o _ _) dL_act_447 ?_
                                refine J_nld (o _ _) (g _ _) dL_act_448 rl1 ⟨by decide, by decide⟩ (fun q118 => ?_)
                                refine J_if_ne 456 (o _ _) dL_act_449 (by decide) q118 (fun c119 => ?_) (fun c120 => ?_)
                                · have hf := ite_f c119 hf
                                  refine J_iload_n (o _ _) dL_act_456 rfl ?_
                                  refine J_iconst (o _ _) dL_act_457 ?_
                                  refine J_idiv (o _ _) dL_act_458 rl3 (by decide) ?_
                                  refine J_aldO_n (o _ _) dL_act_459 rfl ?_
                                  refine J_iconst (o _ _) dL_act_460 ?_
                                  refine J_nld (o _ _) (g _ _) dL_act_461 rl1 ⟨by decide, by decide⟩ (fun q121 => ?_)
                                  obtain ⟨g122, hf⟩ := gd_some hf
                                  refine J_irem (o _ _) dL_act_462 q121 g122 ?_
                                  exact t_L_act_463 k (R_irem _ _) hf hc
                                · have hf := ite_t c120 hf
                                  refine J_iconst (o _ _) dL_act_452 ?_
                                  refine J_goto 463 (o _ _) dL_act_453 (by decide) ?_
                                  exact t_L_act_463 k rl0 hf hc
noncomputable def f_L_act_38 (z : ZQ) (m0 : Bool) (x2 : Int) (x3 : Int) (x4 : Int) (x5 : Int) (x6 : Int) (s0 : Int) : Option (ZQ × Int) :=
  if x4 = 5 then (f_L_act_51 z m0 x2 x3 x4 x5 x6 s0 1) else (f_L_act_51 z m0 x2 x3 x4 x5 x6 s0 0)
set_option maxRecDepth 100000 in
theorem t_L_act_38 {X : QX} {K : KT} {H0 : Heap} (k : KofQ X K H0 cL_act "DatalogmillLaw" rm_L_act 1) {z : ZQ} {m0 : Bool} {x2 : Int} {x3 : Int} {x4 : Int} {x5 : Int} {x6 : Int} {s0 : Int} {o7 o8 o9 : Option Value} (r_x2 : R32 x2) (r_x3 : R32 x3) (r_x4 : R32 x4) (r_x5 : R32 x5) (r_x6 : R32 x6) (r_s0 : R32 s0) {out : (ZQ × Int)} (hf : f_L_act_38 z m0 x2 x3 x4 x5 x6 s0 = some out) (hc : (fun out : (ZQ × Int) => RetQI X K H0 cL_act 1 out.1 out.2) out) : Jj (kAdd K 0 (6 * 0)) (WdQ X H0) z 38 [some (rf (X.M m0).ad 1), some (.ref X.oa), some (.int (ii x2)), some (.int (ii x3)), some (.int (ii x4)), some (.int (ii x5)), some (.int (ii x6)), o7, o8, o9] [.int (ii s0)] := by
  unfold f_L_act_38 at hf
  have o : ∀ a b, Ok (kAdd K a b) cL_act "DatalogmillLaw" rm_L_act := fun _ _ => OkQ.add k.1
  have g : ∀ a b, GdQ X (kAdd K a b) H0 := fun _ _ => GdQ.add k.2.1
  refine J_istore (o _ _) dL_act_38 (Nat.le_of_ble_eq_true rfl) ?_
  refine J_iload (o _ _) dL_act_40 rfl ?_
  refine J_iconst (o _ _) dL_act_42 ?_
  refine J_icmp_ne 50 (o _ _) dL_act_43 (by decide) r_x4 rl5 (fun c1 => ?_) (fun c2 => ?_)
  · have hf := ite_f c1 hf
    refine J_iconst (o _ _) dL_act_50 ?_
    exact t_L_act_51 k r_x2 r_x3 r_x4 r_x5 r_x6 r_s0 rl0 hf hc
  · have hf := ite_t c2 hf
    refine J_iconst (o _ _) dL_act_46 ?_
    refine J_goto 51 (o _ _) dL_act_47 (by decide) ?_
    exact t_L_act_51 k r_x2 r_x3 r_x4 r_x5 r_x6 r_s0 rl1 hf hc
noncomputable def f_L_act (z : ZQ) (m0 : Bool) (x2 : Int) : Option (ZQ × Int) :=
  bl (idiv x2 16) fun n1 => bl (irem n1 6) fun n2 => bl (irem (idiv n1 6) 4) fun n3 => bl (irem (idiv n1 24) 4) fun n4 => if n2 = 2 then (f_L_act_38 z m0 x2 n1 n2 n3 n4 0) else (f_L_act_38 z m0 x2 n1 n2 n3 n4 1)
set_option maxRecDepth 100000 in
theorem t_L_act_0 {X : QX} {K : KT} {H0 : Heap} (k : KofQ X K H0 cL_act "DatalogmillLaw" rm_L_act 1) {z : ZQ} {m0 : Bool} {x2 : Int} {o3 o4 o5 o6 o7 o8 o9 : Option Value} (r_x2 : R32 x2) {out : (ZQ × Int)} (hf : f_L_act z m0 x2 = some out) (hc : (fun out : (ZQ × Int) => RetQI X K H0 cL_act 1 out.1 out.2) out) : Jj (kAdd K 0 (6 * 0)) (WdQ X H0) z 0 [some (rf (X.M m0).ad 1), some (.ref X.oa), some (.int (ii x2)), o3, o4, o5, o6, o7, o8, o9] [] := by
  unfold f_L_act at hf
  have o : ∀ a b, Ok (kAdd K a b) cL_act "DatalogmillLaw" rm_L_act := fun _ _ => OkQ.add k.1
  have g : ∀ a b, GdQ X (kAdd K a b) H0 := fun _ _ => GdQ.add k.2.1
  refine J_iload_n (o _ _) dL_act_0 rfl ?_
  refine J_bipush (o _ _) dL_act_1 (by decide) ?_
  refine J_idiv (o _ _) dL_act_3 rl16 (by decide) ?_
  refine J_istore_n (o _ _) dL_act_4 (Nat.le_of_ble_eq_true rfl) ?_
  have hf := bl_out hf
  refine J_iload_n (o _ _) dL_act_5 rfl ?_
  refine J_bipush (o _ _) dL_act_6 (by decide) ?_
  refine J_irem (o _ _) dL_act_8 rl6 (by decide) ?_
  refine J_istore (o _ _) dL_act_9 (Nat.le_of_ble_eq_true rfl) ?_
  have hf := bl_out hf
  refine J_iload_n (o _ _) dL_act_11 rfl ?_
  refine J_bipush (o _ _) dL_act_12 (by decide) ?_
  refine J_idiv (o _ _) dL_act_14 rl6 (by decide) ?_
  refine J_iconst (o _ _) dL_act_15 ?_
  refine J_irem (o _ _) dL_act_16 rl4 (by decide) ?_
  refine J_istore (o _ _) dL_act_17 (Nat.le_of_ble_eq_true rfl) ?_
  have hf := bl_out hf
  refine J_iload_n (o _ _) dL_act_19 rfl ?_
  refine J_bipush (o _ _) dL_act_20 (by decide) ?_
  refine J_idiv (o _ _) dL_act_22 rl24 (by decide) ?_
  refine J_iconst (o _ _) dL_act_23 ?_
  refine J_irem (o _ _) dL_act_24 rl4 (by decide) ?_
  refine J_istore (o _ _) dL_act_25 (Nat.le_of_ble_eq_true rfl) ?_
  have hf := bl_out hf
  refine J_iload (o _ _) dL_act_27 rfl ?_
  refine J_iconst (o _ _) dL_act_29 ?_
  refine J_icmp_eq 37 (o _ _) dL_act_30 (by decide) (R_irem _ _) rl2 (fun c5 => ?_) (fun c6 => ?_)
  · have hf := ite_t c5 hf
    refine J_iconst (o _ _) dL_act_37 ?_
    exact t_L_act_38 k r_x2 (R_idiv _ _) (R_irem _ _) (R_irem _ _) (R_irem _ _) rl0 hf hc
  · have hf := ite_f c6 hf
    refine J_iconst (o _ _) dL_act_33 ?_
    refine J_goto 38 (o _ _) dL_act_34 (by decide) ?_
    exact t_L_act_38 k r_x2 (R_idiv _ _) (R_irem _ _) (R_irem _ _) (R_irem _ _) rl1 hf hc
theorem c_L_act {X : QX} {l : Launch} (hst : l.stackTraces = false) (hA : ApQ X) {z : ZQ} {m0 : Bool} {x2 : Int} (r_x2 : R32 x2) {out : (ZQ × Int)} (hf : f_L_act z m0 x2 = some out) : ConQ X l yL_act (WS yL_act cL_act 10 (some .int)) rm_L_act [rf (X.M m0).ad 1, .ref X.oa, .int (ii x2)] z out.1 out.2 :=
  con_QI (by decide +kernel) rfl (Nat.le_of_ble_eq_true rfl) (c1s_r (c1s_a (c1s_i c1s_0 (Nat.le_of_ble_eq_true rfl)) (Nat.le_of_ble_eq_true rfl)) (Nat.le_of_ble_eq_true rfl)).1 ⟨rfl, rfl⟩ hA hst (fun K H0 k hret => t_L_act_0 k r_x2 hf hret)
