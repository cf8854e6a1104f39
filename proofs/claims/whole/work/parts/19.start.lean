set_option maxRecDepth 20000 in
theorem mw184 : Cond.instantiable "Datalogmill" (13 : Nat) ∈ GW := inGW (List.mem_of_getElem? (i := 184) (by rfl)) (by decide +kernel)
set_option maxRecDepth 20000 in
theorem mw1359 : Cond.instantiable "DatalogmillModel" (38 : Nat) ∈ GW := inGW (List.mem_of_getElem? (i := 1359) (by rfl)) (by decide +kernel)
set_option maxRecDepth 20000 in
theorem mw1819 : Cond.arrayClass ClassFile.FieldType.long ∈ GW := inGW (List.mem_of_getElem? (i := 1819) (by rfl)) (by decide +kernel)
set_option maxRecDepth 20000 in
theorem mt801 : Cond.stringRef "Datalogmill" (94 : Nat) "no such relation or kind" ∈ lw_tbl := List.mem_of_getElem? (i := 801) (by rfl)
set_option maxRecDepth 20000 in
theorem mt840 : Cond.stringRef "Datalogmill" (105 : Nat) "columns or key out of range" ∈ lw_tbl := List.mem_of_getElem? (i := 840) (by rfl)
set_option maxRecDepth 20000 in
theorem mt860 : Cond.stringRef "Datalogmill" (114 : Nat) "declared already" ∈ lw_tbl := List.mem_of_getElem? (i := 860) (by rfl)
set_option maxRecDepth 20000 in
theorem mt879 : Cond.stringRef "Datalogmill" (121 : Nat) "no such relation" ∈ lw_tbl := List.mem_of_getElem? (i := 879) (by rfl)
set_option maxRecDepth 20000 in
theorem mt894 : Cond.stringRef "Datalogmill" (127 : Nat) "value, cost, from or to out of range" ∈ lw_tbl := List.mem_of_getElem? (i := 894) (by rfl)
set_option maxRecDepth 20000 in
theorem mt895 : Cond.stringRef "Datalogmill" (133 : Nat) "no more facts" ∈ lw_tbl := List.mem_of_getElem? (i := 895) (by rfl)
set_option maxRecDepth 20000 in
theorem mt914 : Cond.stringRef "Datalogmill" (150 : Nat) "too many tuples" ∈ lw_tbl := List.mem_of_getElem? (i := 914) (by rfl)
set_option maxRecDepth 20000 in
theorem mt922 : Cond.stringRef "Datalogmill" (152 : Nat) "no such fact" ∈ lw_tbl := List.mem_of_getElem? (i := 922) (by rfl)
set_option maxRecDepth 20000 in
theorem mt927 : Cond.stringRef "Datalogmill" (157 : Nat) "dropped already" ∈ lw_tbl := List.mem_of_getElem? (i := 927) (by rfl)
set_option maxRecDepth 20000 in
theorem mt947 : Cond.stringRef "Datalogmill" (176 : Nat) "no hour is to come" ∈ lw_tbl := List.mem_of_getElem? (i := 947) (by rfl)
set_option maxRecDepth 20000 in
theorem mt955 : Cond.stringRef "Datalogmill" (182 : Nat) "term out of range" ∈ lw_tbl := List.mem_of_getElem? (i := 955) (by rfl)
set_option maxRecDepth 20000 in
theorem mt969 : Cond.stringRef "Datalogmill" (192 : Nat) "no more such literals" ∈ lw_tbl := List.mem_of_getElem? (i := 969) (by rfl)
set_option maxRecDepth 20000 in
theorem mt981 : Cond.stringRef "Datalogmill" (198 : Nat) "no such comparison" ∈ lw_tbl := List.mem_of_getElem? (i := 981) (by rfl)
set_option maxRecDepth 20000 in
theorem mt982 : Cond.stringRef "Datalogmill" (203 : Nat) "no more literals" ∈ lw_tbl := List.mem_of_getElem? (i := 982) (by rfl)
set_option maxRecDepth 20000 in
theorem mt1011 : Cond.stringRef "Datalogmill" (215 : Nat) "no head, or not safe" ∈ lw_tbl := List.mem_of_getElem? (i := 1011) (by rfl)
set_option maxRecDepth 20000 in
theorem mt1012 : Cond.stringRef "Datalogmill" (220 : Nat) "no more rules" ∈ lw_tbl := List.mem_of_getElem? (i := 1012) (by rfl)
set_option maxRecDepth 20000 in
theorem mt1065 : Cond.stringRef "Datalogmill" (229 : Nat) "no strata, or too many tuples" ∈ lw_tbl := List.mem_of_getElem? (i := 1065) (by rfl)
set_option maxRecDepth 20000 in
theorem mt1074 : Cond.stringRef "Datalogmill" (234 : Nat) "no literals, or not safe" ∈ lw_tbl := List.mem_of_getElem? (i := 1074) (by rfl)
set_option maxRecDepth 20000 in
theorem mt1075 : Cond.stringRef "Datalogmill" (239 : Nat) "no more denials" ∈ lw_tbl := List.mem_of_getElem? (i := 1075) (by rfl)
set_option maxRecDepth 20000 in
theorem mt1092 : Cond.stringRef "Datalogmill" (247 : Nat) "no such rule" ∈ lw_tbl := List.mem_of_getElem? (i := 1092) (by rfl)
set_option maxRecDepth 20000 in
theorem mt1094 : Cond.stringRef "Datalogmill" (256 : Nat) "removed already" ∈ lw_tbl := List.mem_of_getElem? (i := 1094) (by rfl)
set_option maxRecDepth 20000 in
theorem mt1121 : Cond.stringRef "Datalogmill" (269 : Nat) "no such hour" ∈ lw_tbl := List.mem_of_getElem? (i := 1121) (by rfl)
set_option maxRecDepth 20000 in
theorem mt1151 : Cond.stringRef "Datalogmill" (286 : Nat) "no such relation or tuple" ∈ lw_tbl := List.mem_of_getElem? (i := 1151) (by rfl)
set_option maxRecDepth 20000 in
theorem mt1249 : Cond.stringRef "Datalogmill" (315 : Nat) "value out of range" ∈ lw_tbl := List.mem_of_getElem? (i := 1249) (by rfl)
set_option maxRecDepth 20000 in
theorem mt1250 : Cond.stringRef "Datalogmill" (317 : Nat) "it is in the model" ∈ lw_tbl := List.mem_of_getElem? (i := 1250) (by rfl)
set_option maxRecDepth 20000 in
theorem mt1298 : Cond.stringRef "Datalogmill" (346 : Nat) "no such rule, or no such place" ∈ lw_tbl := List.mem_of_getElem? (i := 1298) (by rfl)
set_option maxRecDepth 20000 in
theorem mt787 : Cond.laysStatic "java/lang/Throwable" "UNASSIGNED_STACK" "[Ljava/lang/StackTraceElement;" ∈ lw_tbl := List.mem_of_getElem? (i := 787) (by rfl)
set_option maxRecDepth 20000 in
theorem mt175 : Cond.initialized "java/lang/Throwable" ∈ lw_tbl := List.mem_of_getElem? (i := 175) (by rfl)
set_option maxRecDepth 20000 in
theorem mt789 : Cond.laysStatic "java/lang/Throwable" "SUPPRESSED_SENTINEL" "Ljava/util/List;" ∈ lw_tbl := List.mem_of_getElem? (i := 789) (by rfl)
set_option maxRecDepth 20000 in
theorem mt1355 : Cond.laysStatic "Datalogmill" "SERVED" "[I" ∈ lw_tbl := List.mem_of_getElem? (i := 1355) (by rfl)
set_option maxRecDepth 20000 in
theorem mt163 : Cond.initialized "Datalogmill" ∈ lw_tbl := List.mem_of_getElem? (i := 163) (by rfl)
/-! THE START: what the Statement gives there -/
set_option maxRecDepth 20000 in
theorem st_words {s : State} {a : Array Value} (hts : ∀ w ∈ lw_tbl, w.before a s = true) : NWs s := by
  refine ⟨fun a i b n d h hm => va_Nw.of rfl (hts _ hm), fun a i x h hm => va_Nw.of rfl (hts _ hm), fun C hm => ?_⟩
  exact va_AO.of (hts _ hm)
theorem st_known {s : State} {a : Array Value} (hts : ∀ w ∈ GW, w.before a s = true) : ∃ D : va_G, ∀ (c : Nat) (q : vw_C), vwCl[c]? = some q → u_Kn s q.1 q.2.1 q.2.2 (D.1 c) (D.2 c) := by
  have h : ∀ (k : Nat) (q : vw_C), vwCl[k]? = some q → ∃ (cC : ClassId) (iS : Nat → Nat), u_Kn s q.1 q.2.1 q.2.2 cC iS := by
    intro k q hq
    match k, hq with
    | 0, hq => cases hq; exact u_known hts inWX0 (hts _ mw253)
    | 1, hq => cases hq; exact u_known hts inWX1 (hts _ mw408)
    | 2, hq => cases hq; exact u_known hts inWX2 (hts _ mw212)
    | 3, hq => cases hq; exact u_known hts inWX3 (hts _ mw421)
    | 4, hq => cases hq; exact u_known hts inWX4 (hts _ mw391)
    | 5, hq => cases hq; exact u_known hts inWX5 (hts _ mw321)
    | 6, hq => cases hq; exact u_known hts inWX6 (hts _ mw438)
    | 7, hq => cases hq; exact u_known hts inWX7 (hts _ mw247)
    | 8, hq => cases hq; exact u_known hts inWX8 (hts _ mw192)
    | 9, hq => cases hq; exact u_known hts inWX9 (hts _ mw351)
    | 10, hq => cases hq; exact u_known hts inWX10 (hts _ mw184)
    | 11, hq => cases hq; exact u_known hts inWX11 (hts _ mw1359)
    | k + 12, hq => simp [vwCl] at hq
  have h2 : ∀ k : Nat, ∃ x : ClassId × (Nat → Nat), ∀ q : vw_C, vwCl[k]? = some q → u_Kn s q.1 q.2.1 q.2.2 x.1 x.2 := by
    intro k
    cases hk : vwCl[k]? with
    | none => exact ⟨(0, fun _ => 0), fun q hq => by cases hq⟩
    | some q0 =>
      obtain ⟨cC, iS, hh⟩ := h k q0 hk
      exact ⟨(cC, iS), fun q hq => by cases hq; exact hh⟩
  obtain ⟨f, hf⟩ := Classical.axiomOfChoice h2
  exact ⟨(fun k => (f k).1, fun k => (f k).2), fun c q hq => hf c q hq⟩
theorem st_arr {s : State} {a : Array Value} {ty : FieldType} (hp : ∀ C, ty ≠ .object C) (h : (Cond.arrayClass ty).before a s = true) : ∃ cA : ClassId, ArrOfT s cA ty ∧ va_RA s cA ty := by
  obtain ⟨c, k, comp, h1, h2, h3⟩ := Cond.arrayClass_spec h
  refine ⟨c, fun n z => ⟨fun k h => (by cases h), k, h2, comp, h3⟩, ?_⟩
  cases ty with
  | object C => exact absurd rfl (hp C)
  | _ => exact h1
theorem st_arrO {s : State} {a : Array Value} {C : String} (h : (Cond.arrayOver (.object C)).before a s = true) : ∃ cA : ClassId, ArrOfT s cA (.object C) ∧ va_RA s cA (.object C) := by
  obtain ⟨comp, c, k, h1, h2, h3, h4, h5⟩ := Cond.arrayOver_spec h
  exact ⟨c, fun n z => ⟨fun k h => (by cases h), k, h3, comp, h4⟩, k, comp, h3, h4, h1, h5⟩
def TYS (cI cZ c0 c1 cJ : ClassId) : List (ClassId × FieldType) := [(cI, .int), (cZ, .boolean), (c0, .object "Datalogmill$Body"), (c1, .object "Datalogmill$Model"), (cJ, .long)]
theorem st_K {s : State} {a : Array Value} (hts : ∀ w ∈ GW, w.before a s = true) (htt : ∀ w ∈ lw_tbl, w.before a s = true) : ∃ (D : va_G) (cI cZ c0 c1 cJ : ClassId), va_K D vwCl (TYS cI cZ c0 c1 cJ) s := by
  obtain ⟨D, hD⟩ := st_known hts
  obtain ⟨cI, i1, i2⟩ := st_arr (ty := .int) (fun C => nofun) (hts _ mw210)
  obtain ⟨cZ, z1, z2⟩ := st_arr (ty := .boolean) (fun C => nofun) (hts _ mw245)
  obtain ⟨cJ, j1, j2⟩ := st_arr (ty := .long) (fun C => nofun) (hts _ mw1819)
  obtain ⟨c0, b1, b2⟩ := st_arrO (htt _ mt288)
  obtain ⟨c1, m1, m2⟩ := st_arrO (htt _ mt406)
  refine ⟨D, cI, cZ, c0, c1, cJ, hD, fun k q hq => ?_⟩
  match k, hq with
  | 0, hq => cases hq; exact ⟨i1, i2⟩
  | 1, hq => cases hq; exact ⟨z1, z2⟩
  | 2, hq => cases hq; exact ⟨b1, b2⟩
  | 3, hq => cases hq; exact ⟨m1, m2⟩
  | 4, hq => cases hq; exact ⟨j1, j2⟩
  | k + 5, hq => simp [TYS] at hq
set_option maxRecDepth 100000 in
theorem st_XN {s : State} {a : Array Value} (h : (Jvm.Cond.and given_1 narrow_1).before a s = true) : XNs s := by
  intro x y hx hy hne
  rcases hx with rfl | rfl | rfl <;> rcases hy with rfl | rfl | rfl
  · exact absurd rfl hne
  · exact va_Nc.of (C := "java/lang/IndexOutOfBoundsException") (T := "java/lang/IllegalArgumentException") (flat_of_before _ h (Cond.not (Cond.castable "java/lang/IndexOutOfBoundsException" "java/lang/IllegalArgumentException")) (by decide +kernel))
  · exact va_Nc.of (C := "java/lang/IndexOutOfBoundsException") (T := "java/lang/IllegalStateException") (flat_of_before _ h (Cond.not (Cond.castable "java/lang/IndexOutOfBoundsException" "java/lang/IllegalStateException")) (by decide +kernel))
  · exact va_Nc.of (C := "java/lang/IllegalArgumentException") (T := "java/lang/IndexOutOfBoundsException") (flat_of_before _ h (Cond.not (Cond.castable "java/lang/IllegalArgumentException" "java/lang/IndexOutOfBoundsException")) (by decide +kernel))
  · exact absurd rfl hne
  · exact va_Nc.of (C := "java/lang/IllegalArgumentException") (T := "java/lang/IllegalStateException") (flat_of_before _ h (Cond.not (Cond.castable "java/lang/IllegalArgumentException" "java/lang/IllegalStateException")) (by decide +kernel))
  · exact va_Nc.of (C := "java/lang/IllegalStateException") (T := "java/lang/IndexOutOfBoundsException") (flat_of_before _ h (Cond.not (Cond.castable "java/lang/IllegalStateException" "java/lang/IndexOutOfBoundsException")) (by decide +kernel))
  · exact va_Nc.of (C := "java/lang/IllegalStateException") (T := "java/lang/IllegalArgumentException") (flat_of_before _ h (Cond.not (Cond.castable "java/lang/IllegalStateException" "java/lang/IllegalArgumentException")) (by decide +kernel))
  · exact absurd rfl hne
set_option maxRecDepth 100000 in
theorem st_XS {s : State} {a : Array Value} (htt : ∀ w ∈ lw_tbl, w.before a s = true) (h : (Jvm.Cond.and given_1 narrow_1).before a s = true) : XS s := by
  refine ⟨fun w hw => ?_, fun q hq => ?_⟩
  · have h1 := htt w (xOther_in w hw)
    simp only [xOther, List.mem_cons, List.not_mem_nil, or_false] at hw
    rcases hw with rfl | rfl | rfl | rfl | rfl | rfl <;> exact va_Nw.of rfl h1
  · simp only [xStr, List.mem_cons, List.not_mem_nil, or_false] at hq
    rcases hq with rfl | rfl | rfl | rfl | rfl | rfl | rfl | rfl | rfl | rfl | rfl | rfl | rfl | rfl | rfl | rfl | rfl | rfl | rfl | rfl | rfl | rfl | rfl | rfl | rfl | rfl
    · obtain ⟨sa, -, -, -, q1, -⟩ := Cond.exactly_spec (flat_of_before _ h (Cond.exactly (Term.string "Datalogmill" (94 : Nat)) "java/lang/String") (by decide +kernel))
      exact ⟨sa, vk_R.of (htt _ mt801) q1⟩
    · obtain ⟨sa, -, -, -, q1, -⟩ := Cond.exactly_spec (flat_of_before _ h (Cond.exactly (Term.string "Datalogmill" (105 : Nat)) "java/lang/String") (by decide +kernel))
      exact ⟨sa, vk_R.of (htt _ mt840) q1⟩
    · obtain ⟨sa, -, -, -, q1, -⟩ := Cond.exactly_spec (flat_of_before _ h (Cond.exactly (Term.string "Datalogmill" (114 : Nat)) "java/lang/String") (by decide +kernel))
      exact ⟨sa, vk_R.of (htt _ mt860) q1⟩
    · obtain ⟨sa, -, -, -, q1, -⟩ := Cond.exactly_spec (flat_of_before _ h (Cond.exactly (Term.string "Datalogmill" (121 : Nat)) "java/lang/String") (by decide +kernel))
      exact ⟨sa, vk_R.of (htt _ mt879) q1⟩
    · obtain ⟨sa, -, -, -, q1, -⟩ := Cond.exactly_spec (flat_of_before _ h (Cond.exactly (Term.string "Datalogmill" (127 : Nat)) "java/lang/String") (by decide +kernel))
      exact ⟨sa, vk_R.of (htt _ mt894) q1⟩
    · obtain ⟨sa, -, -, -, q1, -⟩ := Cond.exactly_spec (flat_of_before _ h (Cond.exactly (Term.string "Datalogmill" (133 : Nat)) "java/lang/String") (by decide +kernel))
      exact ⟨sa, vk_R.of (htt _ mt895) q1⟩
    · obtain ⟨sa, -, -, -, q1, -⟩ := Cond.exactly_spec (flat_of_before _ h (Cond.exactly (Term.string "Datalogmill" (150 : Nat)) "java/lang/String") (by decide +kernel))
      exact ⟨sa, vk_R.of (htt _ mt914) q1⟩
    · obtain ⟨sa, -, -, -, q1, -⟩ := Cond.exactly_spec (flat_of_before _ h (Cond.exactly (Term.string "Datalogmill" (152 : Nat)) "java/lang/String") (by decide +kernel))
      exact ⟨sa, vk_R.of (htt _ mt922) q1⟩
    · obtain ⟨sa, -, -, -, q1, -⟩ := Cond.exactly_spec (flat_of_before _ h (Cond.exactly (Term.string "Datalogmill" (157 : Nat)) "java/lang/String") (by decide +kernel))
      exact ⟨sa, vk_R.of (htt _ mt927) q1⟩
    · obtain ⟨sa, -, -, -, q1, -⟩ := Cond.exactly_spec (flat_of_before _ h (Cond.exactly (Term.string "Datalogmill" (176 : Nat)) "java/lang/String") (by decide +kernel))
      exact ⟨sa, vk_R.of (htt _ mt947) q1⟩
    · obtain ⟨sa, -, -, -, q1, -⟩ := Cond.exactly_spec (flat_of_before _ h (Cond.exactly (Term.string "Datalogmill" (182 : Nat)) "java/lang/String") (by decide +kernel))
      exact ⟨sa, vk_R.of (htt _ mt955) q1⟩
    · obtain ⟨sa, -, -, -, q1, -⟩ := Cond.exactly_spec (flat_of_before _ h (Cond.exactly (Term.string "Datalogmill" (192 : Nat)) "java/lang/String") (by decide +kernel))
      exact ⟨sa, vk_R.of (htt _ mt969) q1⟩
    · obtain ⟨sa, -, -, -, q1, -⟩ := Cond.exactly_spec (flat_of_before _ h (Cond.exactly (Term.string "Datalogmill" (198 : Nat)) "java/lang/String") (by decide +kernel))
      exact ⟨sa, vk_R.of (htt _ mt981) q1⟩
    · obtain ⟨sa, -, -, -, q1, -⟩ := Cond.exactly_spec (flat_of_before _ h (Cond.exactly (Term.string "Datalogmill" (203 : Nat)) "java/lang/String") (by decide +kernel))
      exact ⟨sa, vk_R.of (htt _ mt982) q1⟩
    · obtain ⟨sa, -, -, -, q1, -⟩ := Cond.exactly_spec (flat_of_before _ h (Cond.exactly (Term.string "Datalogmill" (215 : Nat)) "java/lang/String") (by decide +kernel))
      exact ⟨sa, vk_R.of (htt _ mt1011) q1⟩
    · obtain ⟨sa, -, -, -, q1, -⟩ := Cond.exactly_spec (flat_of_before _ h (Cond.exactly (Term.string "Datalogmill" (220 : Nat)) "java/lang/String") (by decide +kernel))
      exact ⟨sa, vk_R.of (htt _ mt1012) q1⟩
    · obtain ⟨sa, -, -, -, q1, -⟩ := Cond.exactly_spec (flat_of_before _ h (Cond.exactly (Term.string "Datalogmill" (229 : Nat)) "java/lang/String") (by decide +kernel))
      exact ⟨sa, vk_R.of (htt _ mt1065) q1⟩
    · obtain ⟨sa, -, -, -, q1, -⟩ := Cond.exactly_spec (flat_of_before _ h (Cond.exactly (Term.string "Datalogmill" (234 : Nat)) "java/lang/String") (by decide +kernel))
      exact ⟨sa, vk_R.of (htt _ mt1074) q1⟩
    · obtain ⟨sa, -, -, -, q1, -⟩ := Cond.exactly_spec (flat_of_before _ h (Cond.exactly (Term.string "Datalogmill" (239 : Nat)) "java/lang/String") (by decide +kernel))
      exact ⟨sa, vk_R.of (htt _ mt1075) q1⟩
    · obtain ⟨sa, -, -, -, q1, -⟩ := Cond.exactly_spec (flat_of_before _ h (Cond.exactly (Term.string "Datalogmill" (247 : Nat)) "java/lang/String") (by decide +kernel))
      exact ⟨sa, vk_R.of (htt _ mt1092) q1⟩
    · obtain ⟨sa, -, -, -, q1, -⟩ := Cond.exactly_spec (flat_of_before _ h (Cond.exactly (Term.string "Datalogmill" (256 : Nat)) "java/lang/String") (by decide +kernel))
      exact ⟨sa, vk_R.of (htt _ mt1094) q1⟩
    · obtain ⟨sa, -, -, -, q1, -⟩ := Cond.exactly_spec (flat_of_before _ h (Cond.exactly (Term.string "Datalogmill" (269 : Nat)) "java/lang/String") (by decide +kernel))
      exact ⟨sa, vk_R.of (htt _ mt1121) q1⟩
    · obtain ⟨sa, -, -, -, q1, -⟩ := Cond.exactly_spec (flat_of_before _ h (Cond.exactly (Term.string "Datalogmill" (286 : Nat)) "java/lang/String") (by decide +kernel))
      exact ⟨sa, vk_R.of (htt _ mt1151) q1⟩
    · obtain ⟨sa, -, -, -, q1, -⟩ := Cond.exactly_spec (flat_of_before _ h (Cond.exactly (Term.string "Datalogmill" (315 : Nat)) "java/lang/String") (by decide +kernel))
      exact ⟨sa, vk_R.of (htt _ mt1249) q1⟩
    · obtain ⟨sa, -, -, -, q1, -⟩ := Cond.exactly_spec (flat_of_before _ h (Cond.exactly (Term.string "Datalogmill" (317 : Nat)) "java/lang/String") (by decide +kernel))
      exact ⟨sa, vk_R.of (htt _ mt1250) q1⟩
    · obtain ⟨sa, -, -, -, q1, -⟩ := Cond.exactly_spec (flat_of_before _ h (Cond.exactly (Term.string "Datalogmill" (346 : Nat)) "java/lang/String") (by decide +kernel))
      exact ⟨sa, vk_R.of (htt _ mt1298) q1⟩
set_option maxRecDepth 100000 in
theorem st_XH {s : State} {a : Array Value} (htt : ∀ w ∈ lw_tbl, w.before a s = true) (h : (Jvm.Cond.and given_1 narrow_1).before a s = true) : XH (fun q => s.heap.size ≤ q) s s.heap := by
  have hA : ∀ a : Nat, a < s.heap.size → ¬ s.heap.size ≤ a := fun a h => Nat.not_le.mpr h
  refine ⟨vx_Zqof (htt _ mt787) (htt _ mt175) (flat_of_before _ h (Cond.isRef (Term.static "java/lang/Throwable" "UNASSIGNED_STACK" "[Ljava/lang/StackTraceElement;")) (by decide +kernel)) hA, vx_Zqof (htt _ mt789) (htt _ mt175) (flat_of_before _ h (Cond.isRef (Term.static "java/lang/Throwable" "SUPPRESSED_SENTINEL" "Ljava/util/List;")) (by decide +kernel)) hA, ?_⟩
  obtain ⟨t, ht, hT⟩ := va_Tof (N := 6) (f := fun j => .int (ii (svI j))) (by decide) (flat_of_before _ h (Cond.arrayOf (Term.static "Datalogmill" "SERVED" "[I") ClassFile.FieldType.int) (by decide +kernel)) (va_eqt (flat_of_before _ h (Cond.eq (Term.length (Term.static "Datalogmill" "SERVED" "[I")) (Term.int (6 : Int32))) (by decide +kernel))) (fun j hj => by
    match j, hj with
    | 0, _ => exact va_eqt (flat_of_before _ h (Cond.eq (Term.elem (Term.static "Datalogmill" "SERVED" "[I") (Term.int (0 : Int32))) (Term.int (138 : Int32))) (by decide +kernel))
    | 1, _ => exact va_eqt (flat_of_before _ h (Cond.eq (Term.elem (Term.static "Datalogmill" "SERVED" "[I") (Term.int (1 : Int32))) (Term.int (162 : Int32))) (by decide +kernel))
    | 2, _ => exact va_eqt (flat_of_before _ h (Cond.eq (Term.elem (Term.static "Datalogmill" "SERVED" "[I") (Term.int (2 : Int32))) (Term.int (140 : Int32))) (by decide +kernel))
    | 3, _ => exact va_eqt (flat_of_before _ h (Cond.eq (Term.elem (Term.static "Datalogmill" "SERVED" "[I") (Term.int (3 : Int32))) (Term.int (196 : Int32))) (by decide +kernel))
    | 4, _ => exact va_eqt (flat_of_before _ h (Cond.eq (Term.elem (Term.static "Datalogmill" "SERVED" "[I") (Term.int (4 : Int32))) (Term.int (176 : Int32))) (by decide +kernel))
    | 5, _ => exact va_eqt (flat_of_before _ h (Cond.eq (Term.elem (Term.static "Datalogmill" "SERVED" "[I") (Term.int (5 : Int32))) (Term.int (208 : Int32))) (by decide +kernel))
    | j + 6, hj => exact absurd hj (by omega)) hA
  exact ⟨t, va_Zof (htt _ mt1355) (htt _ mt163) ht hA, hT⟩
