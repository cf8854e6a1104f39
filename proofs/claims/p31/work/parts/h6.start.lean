set_option maxRecDepth 20000 in
theorem mw132 : Cond.instantiable "Datalogmill" (13 : Nat) ∈ GW := inGW (List.mem_of_getElem? (i := 132) (by rfl)) (by decide +kernel)
set_option maxRecDepth 20000 in
theorem mt492 : Cond.stringRef "Datalogmill" (94 : Nat) "no such relation or kind" ∈ lw_tbl := List.mem_of_getElem? (i := 492) (by rfl)
set_option maxRecDepth 20000 in
theorem mt531 : Cond.stringRef "Datalogmill" (105 : Nat) "columns or key out of range" ∈ lw_tbl := List.mem_of_getElem? (i := 531) (by rfl)
set_option maxRecDepth 20000 in
theorem mt555 : Cond.stringRef "Datalogmill" (114 : Nat) "declared already" ∈ lw_tbl := List.mem_of_getElem? (i := 555) (by rfl)
set_option maxRecDepth 20000 in
theorem mt587 : Cond.stringRef "Datalogmill" (121 : Nat) "no such relation" ∈ lw_tbl := List.mem_of_getElem? (i := 587) (by rfl)
set_option maxRecDepth 20000 in
theorem mt604 : Cond.stringRef "Datalogmill" (127 : Nat) "value, cost, from or to out of range" ∈ lw_tbl := List.mem_of_getElem? (i := 604) (by rfl)
set_option maxRecDepth 20000 in
theorem mt605 : Cond.stringRef "Datalogmill" (133 : Nat) "no more facts" ∈ lw_tbl := List.mem_of_getElem? (i := 605) (by rfl)
set_option maxRecDepth 20000 in
theorem mt813 : Cond.stringRef "Datalogmill" (150 : Nat) "too many tuples" ∈ lw_tbl := List.mem_of_getElem? (i := 813) (by rfl)
set_option maxRecDepth 20000 in
theorem mt821 : Cond.stringRef "Datalogmill" (152 : Nat) "no such fact" ∈ lw_tbl := List.mem_of_getElem? (i := 821) (by rfl)
set_option maxRecDepth 20000 in
theorem mt826 : Cond.stringRef "Datalogmill" (157 : Nat) "dropped already" ∈ lw_tbl := List.mem_of_getElem? (i := 826) (by rfl)
set_option maxRecDepth 20000 in
theorem mt989 : Cond.stringRef "Datalogmill" (176 : Nat) "no hour is to come" ∈ lw_tbl := List.mem_of_getElem? (i := 989) (by rfl)
set_option maxRecDepth 20000 in
theorem mt846 : Cond.stringRef "Datalogmill" (182 : Nat) "term out of range" ∈ lw_tbl := List.mem_of_getElem? (i := 846) (by rfl)
set_option maxRecDepth 20000 in
theorem mt868 : Cond.stringRef "Datalogmill" (192 : Nat) "no more such literals" ∈ lw_tbl := List.mem_of_getElem? (i := 868) (by rfl)
set_option maxRecDepth 20000 in
theorem mt880 : Cond.stringRef "Datalogmill" (198 : Nat) "no such comparison" ∈ lw_tbl := List.mem_of_getElem? (i := 880) (by rfl)
set_option maxRecDepth 20000 in
theorem mt881 : Cond.stringRef "Datalogmill" (203 : Nat) "no more literals" ∈ lw_tbl := List.mem_of_getElem? (i := 881) (by rfl)
set_option maxRecDepth 20000 in
theorem mt1284 : Cond.stringRef "Datalogmill" (215 : Nat) "no head, or not safe" ∈ lw_tbl := List.mem_of_getElem? (i := 1284) (by rfl)
set_option maxRecDepth 20000 in
theorem mt1285 : Cond.stringRef "Datalogmill" (220 : Nat) "no more rules" ∈ lw_tbl := List.mem_of_getElem? (i := 1285) (by rfl)
set_option maxRecDepth 20000 in
theorem mt1295 : Cond.stringRef "Datalogmill" (229 : Nat) "no strata, or too many tuples" ∈ lw_tbl := List.mem_of_getElem? (i := 1295) (by rfl)
set_option maxRecDepth 20000 in
theorem mt960 : Cond.stringRef "Datalogmill" (234 : Nat) "no literals, or not safe" ∈ lw_tbl := List.mem_of_getElem? (i := 960) (by rfl)
set_option maxRecDepth 20000 in
theorem mt961 : Cond.stringRef "Datalogmill" (239 : Nat) "no more denials" ∈ lw_tbl := List.mem_of_getElem? (i := 961) (by rfl)
set_option maxRecDepth 20000 in
theorem mt900 : Cond.stringRef "Datalogmill" (247 : Nat) "no such rule" ∈ lw_tbl := List.mem_of_getElem? (i := 900) (by rfl)
set_option maxRecDepth 20000 in
theorem mt902 : Cond.stringRef "Datalogmill" (256 : Nat) "removed already" ∈ lw_tbl := List.mem_of_getElem? (i := 902) (by rfl)
set_option maxRecDepth 20000 in
theorem mt1016 : Cond.stringRef "Datalogmill" (269 : Nat) "no such hour" ∈ lw_tbl := List.mem_of_getElem? (i := 1016) (by rfl)
set_option maxRecDepth 20000 in
theorem mt1047 : Cond.stringRef "Datalogmill" (286 : Nat) "no such relation or tuple" ∈ lw_tbl := List.mem_of_getElem? (i := 1047) (by rfl)
set_option maxRecDepth 20000 in
theorem mt1153 : Cond.stringRef "Datalogmill" (315 : Nat) "value out of range" ∈ lw_tbl := List.mem_of_getElem? (i := 1153) (by rfl)
set_option maxRecDepth 20000 in
theorem mt1154 : Cond.stringRef "Datalogmill" (317 : Nat) "it is in the model" ∈ lw_tbl := List.mem_of_getElem? (i := 1154) (by rfl)
set_option maxRecDepth 20000 in
theorem mt1202 : Cond.stringRef "Datalogmill" (346 : Nat) "no such rule, or no such place" ∈ lw_tbl := List.mem_of_getElem? (i := 1202) (by rfl)
set_option maxRecDepth 20000 in
theorem mt478 : Cond.laysStatic "java/lang/Throwable" "UNASSIGNED_STACK" "[Ljava/lang/StackTraceElement;" ∈ lw_tbl := List.mem_of_getElem? (i := 478) (by rfl)
set_option maxRecDepth 20000 in
theorem mt123 : Cond.initialized "java/lang/Throwable" ∈ lw_tbl := List.mem_of_getElem? (i := 123) (by rfl)
set_option maxRecDepth 20000 in
theorem mt480 : Cond.laysStatic "java/lang/Throwable" "SUPPRESSED_SENTINEL" "Ljava/util/List;" ∈ lw_tbl := List.mem_of_getElem? (i := 480) (by rfl)
set_option maxRecDepth 20000 in
theorem mt1263 : Cond.laysStatic "Datalogmill" "SERVED" "[I" ∈ lw_tbl := List.mem_of_getElem? (i := 1263) (by rfl)
set_option maxRecDepth 20000 in
theorem mt112 : Cond.initialized "Datalogmill" ∈ lw_tbl := List.mem_of_getElem? (i := 112) (by rfl)
set_option maxRecDepth 20000 in
theorem mw131 : Cond.classLink "DatalogmillLaw" (8 : Nat) "Datalogmill" ∈ GW := inGW (List.mem_of_getElem? (i := 131) (by rfl)) (by decide +kernel)
set_option maxRecDepth 20000 in
theorem mw133 : Cond.methodLink "DatalogmillLaw" (194 : Nat) ({ cls := "Datalogmill", name := "<init>", desc := "()V" } : MethodName) ∈ GW := inGW (List.mem_of_getElem? (i := 133) (by rfl)) (by decide +kernel)
theorem lkL_194 : LK "DatalogmillLaw" 194 yX10_init := Or.inl mw133
set_option maxRecDepth 20000 in
theorem mw135 : Cond.code yX10_init cX10_init 8 none ∈ GW := inGW (List.mem_of_getElem? (i := 135) (by rfl)) (by decide +kernel)
theorem ml_Dm_init : ML yX10_init cX10_init 8 none 0 := ⟨mw135, mw112, by decide +kernel, by decide +kernel, by decide +kernel⟩
set_option maxRecDepth 20000 in
theorem mw134 : Cond.instanceMethod ({ cls := "Datalogmill", name := "<init>", desc := "()V" } : MethodName) ∈ GW := inGW (List.mem_of_getElem? (i := 134) (by rfl)) (by decide +kernel)
/-! THE START: what the Statement gives there -/
set_option maxRecDepth 20000 in
theorem st_words {s : State} {a : Array Value} (hts : ∀ w ∈ lw_tbl, w.before a s = true) : NWs s := by
  refine ⟨fun a i b n d h hm => va_Nw.of rfl (hts _ hm), fun a i x h hm => va_Nw.of rfl (hts _ hm), fun C hm => ?_⟩
  exact va_AO.of (hts _ hm)
theorem st_known {s : State} {a : Array Value} (hts : ∀ w ∈ GW, w.before a s = true) : ∃ D : va_G, ∀ (c : Nat) (q : vw_C), vwCl[c]? = some q → u_Kn s q.1 q.2.1 q.2.2 (D.1 c) (D.2 c) := by
  have h : ∀ (k : Nat) (q : vw_C), vwCl[k]? = some q → ∃ (cC : ClassId) (iS : Nat → Nat), u_Kn s q.1 q.2.1 q.2.2 cC iS := by
    intro k q hq
    match k, hq with
    | 0, hq => cases hq; exact u_known hts inWX0 (hts _ mw201)
    | 1, hq => cases hq; exact u_known hts inWX1 (hts _ mw356)
    | 2, hq => cases hq; exact u_known hts inWX2 (hts _ mw160)
    | 3, hq => cases hq; exact u_known hts inWX3 (hts _ mw369)
    | 4, hq => cases hq; exact u_known hts inWX4 (hts _ mw339)
    | 5, hq => cases hq; exact u_known hts inWX5 (hts _ mw269)
    | 6, hq => cases hq; exact u_known hts inWX6 (hts _ mw386)
    | 7, hq => cases hq; exact u_known hts inWX7 (hts _ mw195)
    | 8, hq => cases hq; exact u_known hts inWX8 (hts _ mw140)
    | 9, hq => cases hq; exact u_known hts inWX9 (hts _ mw299)
    | 10, hq => cases hq; exact u_known hts inWX10 (hts _ mw132)
    | k + 11, hq => simp [vwCl] at hq
  have h2 : ∀ k : Nat, ∃ x : ClassId × (Nat → Nat), ∀ q : vw_C, vwCl[k]? = some q → u_Kn s q.1 q.2.1 q.2.2 x.1 x.2 := by
    intro k
    cases hk : vwCl[k]? with
    | none => exact ⟨(0, fun _ => 0), fun q hq => by cases hq⟩
    | some q0 =>
      obtain ⟨cC, iS, hh⟩ := h k q0 hk
      exact ⟨(cC, iS), fun q hq => by cases hq; exact hh⟩
  obtain ⟨f, hf⟩ := Classical.axiomOfChoice h2
  exact ⟨(fun k => (f k).1, fun k => (f k).2), fun c q hq => hf c q hq⟩
theorem st_arr {s : State} {a : Array Value} {ty : FieldType} (hp : ∀ C, ty ≠ .object C) (h : (Cond.arrayClass ty).before a s = true) : ∃ cA : ClassId, ArrOfT s cA ty ∧ va_RA s cA ty := by
  obtain ⟨c, k, comp, h1, h2, h3⟩ := Cond.arrayClass_spec h
  refine ⟨c, fun n z => ⟨fun k h => (by cases h), k, h2, comp, h3⟩, ?_⟩
  cases ty with
  | object C => exact absurd rfl (hp C)
  | _ => exact h1
theorem st_arrO {s : State} {a : Array Value} {C : String} (h : (Cond.arrayOver (.object C)).before a s = true) : ∃ cA : ClassId, ArrOfT s cA (.object C) ∧ va_RA s cA (.object C) := by
  obtain ⟨comp, c, k, h1, h2, h3, h4, h5⟩ := Cond.arrayOver_spec h
  exact ⟨c, fun n z => ⟨fun k h => (by cases h), k, h3, comp, h4⟩, k, comp, h3, h4, h1, h5⟩
def TYS (cI cZ c0 c1 : ClassId) : List (ClassId × FieldType) := [(cI, .int), (cZ, .boolean), (c0, .object "Datalogmill$Body"), (c1, .object "Datalogmill$Model")]
theorem st_K {s : State} {a : Array Value} (hts : ∀ w ∈ GW, w.before a s = true) (htt : ∀ w ∈ lw_tbl, w.before a s = true) : ∃ (D : va_G) (cI cZ c0 c1 : ClassId), va_K D vwCl (TYS cI cZ c0 c1) s := by
  obtain ⟨D, hD⟩ := st_known hts
  obtain ⟨cI, i1, i2⟩ := st_arr (ty := .int) (fun C => nofun) (hts _ mw158)
  obtain ⟨cZ, z1, z2⟩ := st_arr (ty := .boolean) (fun C => nofun) (hts _ mw193)
  obtain ⟨c0, b1, b2⟩ := st_arrO (htt _ mt236)
  obtain ⟨c1, m1, m2⟩ := st_arrO (htt _ mt354)
  refine ⟨D, cI, cZ, c0, c1, hD, fun k q hq => ?_⟩
  match k, hq with
  | 0, hq => cases hq; exact ⟨i1, i2⟩
  | 1, hq => cases hq; exact ⟨z1, z2⟩
  | 2, hq => cases hq; exact ⟨b1, b2⟩
  | 3, hq => cases hq; exact ⟨m1, m2⟩
  | k + 4, hq => simp [TYS] at hq
set_option maxRecDepth 100000 in
theorem st_XN {s : State} {a : Array Value} (h : (Jvm.Cond.and given_1 narrow_1).before a s = true) : XNs s := by
  intro x y hx hy hne
  rcases hx with rfl | rfl | rfl <;> rcases hy with rfl | rfl | rfl
  · exact absurd rfl hne
  · exact va_Nc.of (C := "java/lang/IndexOutOfBoundsException") (T := "java/lang/IllegalArgumentException") (flat_of_before _ h (Cond.not (Cond.castable "java/lang/IndexOutOfBoundsException" "java/lang/IllegalArgumentException")) (by decide +kernel))
  · exact va_Nc.of (C := "java/lang/IndexOutOfBoundsException") (T := "java/lang/IllegalStateException") (flat_of_before _ h (Cond.not (Cond.castable "java/lang/IndexOutOfBoundsException" "java/lang/IllegalStateException")) (by decide +kernel))
  · exact va_Nc.of (C := "java/lang/IllegalArgumentException") (T := "java/lang/IndexOutOfBoundsException") (flat_of_before _ h (Cond.not (Cond.castable "java/lang/IllegalArgumentException" "java/lang/IndexOutOfBoundsException")) (by decide +kernel))
  · exact absurd rfl hne
  · exact va_Nc.of (C := "java/lang/IllegalArgumentException") (T := "java/lang/IllegalStateException") (flat_of_before _ h (Cond.not (Cond.castable "java/lang/IllegalArgumentException" "java/lang/IllegalStateException")) (by decide +kernel))
  · exact va_Nc.of (C := "java/lang/IllegalStateException") (T := "java/lang/IndexOutOfBoundsException") (flat_of_before _ h (Cond.not (Cond.castable "java/lang/IllegalStateException" "java/lang/IndexOutOfBoundsException")) (by decide +kernel))
  · exact va_Nc.of (C := "java/lang/IllegalStateException") (T := "java/lang/IllegalArgumentException") (flat_of_before _ h (Cond.not (Cond.castable "java/lang/IllegalStateException" "java/lang/IllegalArgumentException")) (by decide +kernel))
  · exact absurd rfl hne
set_option maxRecDepth 100000 in
theorem st_XS {s : State} {a : Array Value} (htt : ∀ w ∈ lw_tbl, w.before a s = true) (h : (Jvm.Cond.and given_1 narrow_1).before a s = true) : XS s := by
  refine ⟨fun w hw => ?_, fun q hq => ?_⟩
  · have h1 := htt w (xOther_in w hw)
    simp only [xOther, List.mem_cons, List.not_mem_nil, or_false] at hw
    rcases hw with rfl | rfl | rfl | rfl | rfl | rfl <;> exact va_Nw.of rfl h1
  · simp only [xStr, List.mem_cons, List.not_mem_nil, or_false] at hq
    rcases hq with rfl | rfl | rfl | rfl | rfl | rfl | rfl | rfl | rfl | rfl | rfl | rfl | rfl | rfl | rfl | rfl | rfl | rfl | rfl | rfl | rfl | rfl | rfl | rfl | rfl | rfl
    · obtain ⟨sa, -, -, -, q1, -⟩ := Cond.exactly_spec (flat_of_before _ h (Cond.exactly (Term.string "Datalogmill" (94 : Nat)) "java/lang/String") (by decide +kernel))
      exact ⟨sa, vk_R.of (htt _ mt492) q1⟩
    · obtain ⟨sa, -, -, -, q1, -⟩ := Cond.exactly_spec (flat_of_before _ h (Cond.exactly (Term.string "Datalogmill" (105 : Nat)) "java/lang/String") (by decide +kernel))
      exact ⟨sa, vk_R.of (htt _ mt531) q1⟩
    · obtain ⟨sa, -, -, -, q1, -⟩ := Cond.exactly_spec (flat_of_before _ h (Cond.exactly (Term.string "Datalogmill" (114 : Nat)) "java/lang/String") (by decide +kernel))
      exact ⟨sa, vk_R.of (htt _ mt555) q1⟩
    · obtain ⟨sa, -, -, -, q1, -⟩ := Cond.exactly_spec (flat_of_before _ h (Cond.exactly (Term.string "Datalogmill" (121 : Nat)) "java/lang/String") (by decide +kernel))
      exact ⟨sa, vk_R.of (htt _ mt587) q1⟩
    · obtain ⟨sa, -, -, -, q1, -⟩ := Cond.exactly_spec (flat_of_before _ h (Cond.exactly (Term.string "Datalogmill" (127 : Nat)) "java/lang/String") (by decide +kernel))
      exact ⟨sa, vk_R.of (htt _ mt604) q1⟩
    · obtain ⟨sa, -, -, -, q1, -⟩ := Cond.exactly_spec (flat_of_before _ h (Cond.exactly (Term.string "Datalogmill" (133 : Nat)) "java/lang/String") (by decide +kernel))
      exact ⟨sa, vk_R.of (htt _ mt605) q1⟩
    · obtain ⟨sa, -, -, -, q1, -⟩ := Cond.exactly_spec (flat_of_before _ h (Cond.exactly (Term.string "Datalogmill" (150 : Nat)) "java/lang/String") (by decide +kernel))
      exact ⟨sa, vk_R.of (htt _ mt813) q1⟩
    · obtain ⟨sa, -, -, -, q1, -⟩ := Cond.exactly_spec (flat_of_before _ h (Cond.exactly (Term.string "Datalogmill" (152 : Nat)) "java/lang/String") (by decide +kernel))
      exact ⟨sa, vk_R.of (htt _ mt821) q1⟩
    · obtain ⟨sa, -, -, -, q1, -⟩ := Cond.exactly_spec (flat_of_before _ h (Cond.exactly (Term.string "Datalogmill" (157 : Nat)) "java/lang/String") (by decide +kernel))
      exact ⟨sa, vk_R.of (htt _ mt826) q1⟩
    · obtain ⟨sa, -, -, -, q1, -⟩ := Cond.exactly_spec (flat_of_before _ h (Cond.exactly (Term.string "Datalogmill" (176 : Nat)) "java/lang/String") (by decide +kernel))
      exact ⟨sa, vk_R.of (htt _ mt989) q1⟩
    · obtain ⟨sa, -, -, -, q1, -⟩ := Cond.exactly_spec (flat_of_before _ h (Cond.exactly (Term.string "Datalogmill" (182 : Nat)) "java/lang/String") (by decide +kernel))
      exact ⟨sa, vk_R.of (htt _ mt846) q1⟩
    · obtain ⟨sa, -, -, -, q1, -⟩ := Cond.exactly_spec (flat_of_before _ h (Cond.exactly (Term.string "Datalogmill" (192 : Nat)) "java/lang/String") (by decide +kernel))
      exact ⟨sa, vk_R.of (htt _ mt868) q1⟩
    · obtain ⟨sa, -, -, -, q1, -⟩ := Cond.exactly_spec (flat_of_before _ h (Cond.exactly (Term.string "Datalogmill" (198 : Nat)) "java/lang/String") (by decide +kernel))
      exact ⟨sa, vk_R.of (htt _ mt880) q1⟩
    · obtain ⟨sa, -, -, -, q1, -⟩ := Cond.exactly_spec (flat_of_before _ h (Cond.exactly (Term.string "Datalogmill" (203 : Nat)) "java/lang/String") (by decide +kernel))
      exact ⟨sa, vk_R.of (htt _ mt881) q1⟩
    · obtain ⟨sa, -, -, -, q1, -⟩ := Cond.exactly_spec (flat_of_before _ h (Cond.exactly (Term.string "Datalogmill" (215 : Nat)) "java/lang/String") (by decide +kernel))
      exact ⟨sa, vk_R.of (htt _ mt1284) q1⟩
    · obtain ⟨sa, -, -, -, q1, -⟩ := Cond.exactly_spec (flat_of_before _ h (Cond.exactly (Term.string "Datalogmill" (220 : Nat)) "java/lang/String") (by decide +kernel))
      exact ⟨sa, vk_R.of (htt _ mt1285) q1⟩
    · obtain ⟨sa, -, -, -, q1, -⟩ := Cond.exactly_spec (flat_of_before _ h (Cond.exactly (Term.string "Datalogmill" (229 : Nat)) "java/lang/String") (by decide +kernel))
      exact ⟨sa, vk_R.of (htt _ mt1295) q1⟩
    · obtain ⟨sa, -, -, -, q1, -⟩ := Cond.exactly_spec (flat_of_before _ h (Cond.exactly (Term.string "Datalogmill" (234 : Nat)) "java/lang/String") (by decide +kernel))
      exact ⟨sa, vk_R.of (htt _ mt960) q1⟩
    · obtain ⟨sa, -, -, -, q1, -⟩ := Cond.exactly_spec (flat_of_before _ h (Cond.exactly (Term.string "Datalogmill" (239 : Nat)) "java/lang/String") (by decide +kernel))
      exact ⟨sa, vk_R.of (htt _ mt961) q1⟩
    · obtain ⟨sa, -, -, -, q1, -⟩ := Cond.exactly_spec (flat_of_before _ h (Cond.exactly (Term.string "Datalogmill" (247 : Nat)) "java/lang/String") (by decide +kernel))
      exact ⟨sa, vk_R.of (htt _ mt900) q1⟩
    · obtain ⟨sa, -, -, -, q1, -⟩ := Cond.exactly_spec (flat_of_before _ h (Cond.exactly (Term.string "Datalogmill" (256 : Nat)) "java/lang/String") (by decide +kernel))
      exact ⟨sa, vk_R.of (htt _ mt902) q1⟩
    · obtain ⟨sa, -, -, -, q1, -⟩ := Cond.exactly_spec (flat_of_before _ h (Cond.exactly (Term.string "Datalogmill" (269 : Nat)) "java/lang/String") (by decide +kernel))
      exact ⟨sa, vk_R.of (htt _ mt1016) q1⟩
    · obtain ⟨sa, -, -, -, q1, -⟩ := Cond.exactly_spec (flat_of_before _ h (Cond.exactly (Term.string "Datalogmill" (286 : Nat)) "java/lang/String") (by decide +kernel))
      exact ⟨sa, vk_R.of (htt _ mt1047) q1⟩
    · obtain ⟨sa, -, -, -, q1, -⟩ := Cond.exactly_spec (flat_of_before _ h (Cond.exactly (Term.string "Datalogmill" (315 : Nat)) "java/lang/String") (by decide +kernel))
      exact ⟨sa, vk_R.of (htt _ mt1153) q1⟩
    · obtain ⟨sa, -, -, -, q1, -⟩ := Cond.exactly_spec (flat_of_before _ h (Cond.exactly (Term.string "Datalogmill" (317 : Nat)) "java/lang/String") (by decide +kernel))
      exact ⟨sa, vk_R.of (htt _ mt1154) q1⟩
    · obtain ⟨sa, -, -, -, q1, -⟩ := Cond.exactly_spec (flat_of_before _ h (Cond.exactly (Term.string "Datalogmill" (346 : Nat)) "java/lang/String") (by decide +kernel))
      exact ⟨sa, vk_R.of (htt _ mt1202) q1⟩
set_option maxRecDepth 100000 in
theorem st_XH {s : State} {a : Array Value} (htt : ∀ w ∈ lw_tbl, w.before a s = true) (h : (Jvm.Cond.and given_1 narrow_1).before a s = true) : XH (fun q => s.heap.size ≤ q) s s.heap := by
  have hA : ∀ a : Nat, a < s.heap.size → ¬ s.heap.size ≤ a := fun a h => Nat.not_le.mpr h
  refine ⟨vx_Zqof (htt _ mt478) (htt _ mt123) (flat_of_before _ h (Cond.isRef (Term.static "java/lang/Throwable" "UNASSIGNED_STACK" "[Ljava/lang/StackTraceElement;")) (by decide +kernel)) hA, vx_Zqof (htt _ mt480) (htt _ mt123) (flat_of_before _ h (Cond.isRef (Term.static "java/lang/Throwable" "SUPPRESSED_SENTINEL" "Ljava/util/List;")) (by decide +kernel)) hA, ?_⟩
  obtain ⟨t, ht, hT⟩ := va_Tof (N := 6) (f := fun j => .int (ii (svI j))) (by decide) (flat_of_before _ h (Cond.arrayOf (Term.static "Datalogmill" "SERVED" "[I") ClassFile.FieldType.int) (by decide +kernel)) (va_eqt (flat_of_before _ h (Cond.eq (Term.length (Term.static "Datalogmill" "SERVED" "[I")) (Term.int (6 : Int32))) (by decide +kernel))) (fun j hj => by
    match j, hj with
    | 0, _ => exact va_eqt (flat_of_before _ h (Cond.eq (Term.elem (Term.static "Datalogmill" "SERVED" "[I") (Term.int (0 : Int32))) (Term.int (138 : Int32))) (by decide +kernel))
    | 1, _ => exact va_eqt (flat_of_before _ h (Cond.eq (Term.elem (Term.static "Datalogmill" "SERVED" "[I") (Term.int (1 : Int32))) (Term.int (162 : Int32))) (by decide +kernel))
    | 2, _ => exact va_eqt (flat_of_before _ h (Cond.eq (Term.elem (Term.static "Datalogmill" "SERVED" "[I") (Term.int (2 : Int32))) (Term.int (140 : Int32))) (by decide +kernel))
    | 3, _ => exact va_eqt (flat_of_before _ h (Cond.eq (Term.elem (Term.static "Datalogmill" "SERVED" "[I") (Term.int (3 : Int32))) (Term.int (196 : Int32))) (by decide +kernel))
    | 4, _ => exact va_eqt (flat_of_before _ h (Cond.eq (Term.elem (Term.static "Datalogmill" "SERVED" "[I") (Term.int (4 : Int32))) (Term.int (176 : Int32))) (by decide +kernel))
    | 5, _ => exact va_eqt (flat_of_before _ h (Cond.eq (Term.elem (Term.static "Datalogmill" "SERVED" "[I") (Term.int (5 : Int32))) (Term.int (208 : Int32))) (by decide +kernel))
    | j + 6, hj => exact absurd hj (by omega)) hA
  exact ⟨t, va_Zof (htt _ mt1263) (htt _ mt112) ht hA, hT⟩
/-! THE CLAIM OUT OF ONE WALK OF THE LAW'S BODY. Your part is whole_start (and what it stands on); all else here is the same for every law, but numbers. -/
def R_law : String := "DatalogmillLaw"
def lw_P (b : Addr) (xs : List Int32) (args : Array Value) (s : State) : Prop := args = #[.ref b] ∧ s.IntsAt b xs ∧ xs.length ≤ 260 ∧ (Jvm.Cond.and given_1 narrow_1).before args s = true
def lw_Q (_ : Array Value) (s : State) (o : Outcome) (t : State) : Prop := o = .returned (some (.int 1)) ∧ Framed s o t [] 676259 7073052
def lw_Z (below : List Frame) (a : Array Value) (s : State) : State → Prop := fun t => ∃ o, t.status = .running ∧ Ended t below o ∧ lw_Q a s o t
/-- the law's own end, with 1 on the stack, nothing written that was there before, its room as the claim has it -/
theorem lw_ret {p : Program} {l : Launch} {e : Env} {s : State} {m : MethodId} {below : List Frame} {meth : Method} {c : Code} {b : Nat} (hx : p.tables.exec = Jvm.exec) (hb : c.code = code) (hr : meth.sig.returnType = ret) (hlocks : meth.locks = false) {pc : Nat} {H : Heap} {ls : Array Slot} (hdg : decode code pc = .ok (.ireturn, 1)) : W p l e room_1 s m #[Value.ref b] below meth c H [] 676259 7073052 (lw_Z below #[Value.ref b] s) (F0 m pc ls [.int 1]) := by
  intro T hT X
  obtain ⟨fs, hret, hrun, hended, hW, hframe⟩ := X.leave (v := some (.int 1)) (hlocks := hlocks) (fun h => by rw [hr] at h; cases h)
  have hmeth' : T.vm.method? m = some meth := X.method'
  refine ⟨T.setFrames fs, ?_, .returned (some (.int 1)), hrun, hended, rfl, ⟨_, rfl⟩, hW, hframe⟩
  jvm_step X.here [X.here.top, hx, hb, hdg, hmeth', hr, ret, narrow_b1]
  (try refine ⟨rfl, ?_⟩); (try refine ⟨rfl, ?_⟩)
  first | (intro acts; rw [hret _ acts rfl rfl rfl]) | rw [hret _ _ rfl rfl rfl]
  exact Steps.refl _
/-- what holds at the law's entry: the machine, the code, the tables' words (any of lw_tbl by 'hts w (by decide +kernel)'), the script of L ints xs at the cell b, what the Statement gives of the start (any of its parts by flat_of_before) -/
def lw_At (p : Program) (s : State) (m : MethodId) (meth : Method) (c : Code) (b L : Nat) (xs : Nat → Int32) : Prop :=
  p.tables.exec = Jvm.exec ∧ c.code = code ∧ meth.sig.returnType = ret ∧ c.maxLocals = 9 ∧ s.vm.findClass R_law = some m.cls ∧ (∀ w ∈ lw_tbl, w.before #[Value.ref b] s = true) ∧ va_X b L xs s s.heap ∧ b < s.heap.size ∧ meth.locks = false ∧ (Jvm.Cond.and given_1 narrow_1).before #[Value.ref b] s = true
section JL
variable {T : TT} {S : EE} {K : KT} {w w' : World} {H0 : Heap} {pc idx n n' : Nat} {L : List (Option Value)} {st vs : List Value} {cc bytes : ByteArray} {own : String} {rm rm' : Room} {y : MethodName} {maxL np κ N a b c j : Nat} {ad : Nat → Nat}
theorem J_newL {C : String} {F : u_T} {ty : Nat → FieldType} {a' b' : Nat} (o : Ok K cc own rm) (hT : Tn T) (g : Gd (tr T n) (sad S ad) K) (kc : KC K a b) (d : decode cc pc = .ok (.new idx, 3)) (hcl : Cond.classLink own idx C ∈ GW) (hin : Cond.instantiable C N ∈ GW) (hini : Cond.initialized C ∈ GW)
    (hc : T.cl[κ - 1]? = some (C, F, N)) (hF : ∀ w ∈ u_ws C F N, w ∈ GW) (hty : ∀ k, k < N → parseFieldDescriptor (F k).2.2.1 = some (ty k)) (hk : T.kd (n + 1) = κ) (hκ : 0 < κ ∧ κ < 40) (hd : ∀ j, j < N → defaultValue (ty j) = if T.isref κ j = true then .null else .int 0)
    (hz : Zn n w) (hr : Rn T n w) (ha : a + 1 = a') (hb : b + N = b') (hroom : a' ≤ rm.cells ∧ b' ≤ rm.slots)
    (k : ∀ (K' : KT) (ad' : Nat → Nat) (q : Nat), KSim K K' → Ok K' cc own rm → KC K' a' b' → Ag n (n + 1) H0.size ad ad' → ad' (n + 1) = q → Gd (tr T (n + 1)) (sad S ad') K' → Jj K' (WdT (tr T (n + 1)) (sad S ad') H0) w (pc + 3) L (.ref q :: st)) : Jj K (WdT (tr T n) (sad S ad) H0) w pc L st := by
  have o' : Ok (kAdd K 1 N) cc own rm := OkQ.add o
  obtain ⟨p, l, e, R, s, m, args, below, meth, cd, cells, slots, Q⟩ := K
  intro H locs ls hW hl hcc
  have hR : R = rm := o.2.2.2.2.2
  obtain ⟨kc1, kc2⟩ := kc
  have kc1' : cells = a := kc1
  have kc2' : slots = b := kc2
  obtain ⟨hKn, hfc, hkk⟩ := g.1.1 (κ - 1) _ hc
  have hcell : cells + 1 ≤ R.cells := by rw [hR, kc1']; exact Nat.le_trans (by omega) hroom.1
  have hslot : slots + N ≤ R.slots := by rw [hR, kc2']; exact Nat.le_trans (by omega) hroom.2
  refine W.newcK o.1 o.2.1 o.2.2.1 (o.2.2.2.1 _ hcl) (o.2.2.2.1 _ hin) (o.2.2.2.1 _ hini) (g := F0 m pc ls st) rfl d hcell hslot hfc rfl (fun H1 kC hkC e1 z1 o1 => ?_)
  refine grow (a := 1) (b := N) hT g hW hr o1 z1 ?_ hl hcc (fun ad' q hag hq hg => k _ ad' q ⟨1, N, rfl⟩ o' ⟨by show cells + 1 = a'; omega, by show slots + N = b'; omega⟩ hag hq hg)
  have hkn : (tr T (n + 1)).kd (n + 1) = κ := tr_kd hk (Nat.le_refl _)
  rw [cel_obj hkn hκ.2, nfT_eq (show (tr T (n + 1)).cl[κ - 1]? = some (C, F, N) from hc)]
  have hts : ∀ w ∈ GW, w.before args s = true := o.2.2.2.1
  refine ⟨_, hc, (u_born ty hts hF ⟨hKn, hfc, hkk⟩ hkC e1 hty).to (fun j hj => ?_)⟩
  rw [hd j hj]
  have e2 : vp_V ((List.range N).map (fval (tr T (n + 1)) (sad S (fun c => if c = n + 1 then H.size else ad c)) κ w (n + 1))) j = fval (tr T (n + 1)) (sad S (fun c => if c = n + 1 then H.size else ad c)) κ w (n + 1) j := by
    unfold vp_V
    rw [List.getD_eq_getElem?_getD, List.getElem?_map, List.getElem?_range hj]
    rfl
  rw [e2]
  unfold fval
  show _ = if T.isref κ j = true then _ else _
  rw [hz (n + 1) j (by omega)]
  by_cases q : T.isref κ j = true
  · rw [if_pos q, if_pos q]; rfl
  · rw [if_neg q, if_neg q]; rfl
theorem J_initL {b0 : Nat} {stk vs' : List Value} {b1 : Nat} {a' b' : Nat} (o : Ok K cc own rm) (hT : Tn T) (g : Gd (tr T n) (sad S ad) K) (kc : KC K a b) (d : decode cc pc = .ok (.invokespecial idx, 3)) (lk : LK own idx y) (ml : ML y bytes maxL none np) (hi : Cond.instanceMethod y ∈ GW) (hnm : y.name = "<init>") (hrm : rmLeC rm' rm maxL)
    (hM : ConC T S n n' (kL K) y (WS y bytes maxL none) rm' (.ref b0 :: vs) ad w w') (he : (.ref b1 :: vs' : List Value) = .ref b0 :: vs) (hn : vs.length = np) (hnn : n ≤ n') (hk : stk = vs'.reverse ++ .ref b1 :: st) (hst : c1s st) (ha : a + rm'.cells = a') (hb : b + rm'.slots = b') (hroom : a' ≤ rm.cells ∧ b' ≤ rm.slots)
    (k : ∀ (K' : KT) (ad' : Nat → Nat), KSim K K' → Ok K' cc own rm → KC K' a' b' → Ag n n' H0.size ad ad' → Gd (tr T n') (sad S ad') K' → Jj K' (WdT (tr T n') (sad S ad') H0) w' (pc + 3) L st) : Jj K (WdT (tr T n) (sad S ad) H0) w pc L stk := by
  have he2 : vs = vs' := (List.cons.inj he).2.symm
  have he1 : b0 = b1 := by have := (List.cons.inj he).1; cases this; rfl
  subst he2
  subst he1
  subst hk
  have o' : Ok (kAdd K rm'.cells rm'.slots) cc own rm := OkQ.add o
  obtain ⟨p, l, e, R, s, m, args, below, meth, cd, cells, slots, Q⟩ := K
  intro H locs ls hW hl hc
  have hR : R = rm := o.2.2.2.2.2
  obtain ⟨kc1, kc2⟩ := kc
  have kc1' : cells = a := kc1
  have kc2' : slots = b := kc2
  obtain ⟨gK, gI, gT, gN⟩ := g
  obtain ⟨m1, m2, m3, m4, m5⟩ := ml
  have hts := o.2.2.2.1
  have k1 : rm'.frames + 1 ≤ R.frames := by rw [hR]; exact hrm.1
  have k2 : 8 + (maxL + 11) + rm'.locals ≤ R.locals := by rw [hR]; exact hrm.2
  have hlen : ∀ sig, parseMethodDescriptor y.desc = some sig → np = sig.parameters.length := fun sig h => by
    rw [h] at m5
    exact (Option.some.inj m5).symm
  have hpre : PreS s H (va_Pc (.ref b0 :: vs) (PreA (tr T n) (sad S ad) w H.size)) (.ref b0 :: vs) := ⟨PreA_blind, fun U hU hWm => ⟨rfl, by rw [hU], hW.1, hW.2.1, by rw [hU]; exact hW.2.2.1, va_K.moved hWm.alike gK, gN.warm hWm⟩⟩
  have hroomc : cells + rm'.cells ≤ R.cells ∧ slots + rm'.slots ≤ R.slots := by rw [hR, kc1', kc2']; exact ⟨Nat.le_trans (by omega) hroom.1, Nat.le_trans (by omega) hroom.2⟩
  have run : va_Run p l e R s m args below meth cd H locs cells slots rm'.cells rm'.slots (F0 m pc ls (vs.reverse ++ .ref b0 :: st)) st (va_Qv (fun (ad' : Nat → Nat) => Ag n n' H.size ad ad' ∧ Inj (tr T n') (sad S ad')) (fun ad' t => StA (tr T n') (sad S ad') w' t) (AA (tr T n) (sad S ad) H.size) (Value.ref b0 :: vs).toArray) (AA (tr T n) (sad S ad) H.size) := by
    rcases lk with h | ⟨host, h⟩
    · exact va_runI (Ts := GW) (nL := cd.maxLocals) (As := vs) (rest := st) ⟨o.1, o.2.1, rfl, o.2.2.1, hts⟩ (hM H.size) ⟨⟨rfl, rfl, k1, k2, pay_in hts (goodIn_WS m1), List.mem_cons_self, hts _ m1, hts _ m2, ⟨m3, m4⟩, hlen, hts _ h⟩, hnm, hts _ hi⟩ hpre rfl hn hl.1 rfl (lv_room (c1s_sum hst)) d hroomc
    · exact va_runIN (Ts := GW) (nL := cd.maxLocals) (As := vs) (rest := st) ⟨o.1, o.2.1, rfl, o.2.2.1, hts⟩ (hM H.size) ⟨⟨⟨rfl, rfl, k1, k2, pay_in hts (goodIn_WS m1), List.mem_cons_self⟩, hts _ m1, hts _ m2, ⟨m3, m4⟩, hlen, va_Nw.use rfl (gN.2.1 _ _ _ _ h)⟩, hnm, hts _ hi⟩ hpre rfl hn hl.1 rfl (lv_room (c1s_sum hst)) d hroomc
  have hsub : ∀ q, AA (tr T n) (sad S ad) H.size q → AA (tr T n) (sad S ad) H0.size q := AA_sub hW.2.2.2.1
  refine va_callv run hW.2.2.2 (fun q _ h => hsub q h) hsub (fun ad' t H1 locs1 ht hvm hv hB hz1 hk1 hS1 => ?_)
  have hag : Ag n n' H0.size ad ad' := ⟨hv.1.1, fun c h1 h2 => Nat.le_trans hW.2.2.2.1 (hv.1.2 c h1 h2)⟩
  exact k (kAdd (p, l, e, R, s, m, args, below, meth, cd, cells, slots, Q) rm'.cells rm'.slots) ad' ⟨_, _, rfl⟩ o' ⟨by show cells + rm'.cells = a'; omega, by show slots + rm'.slots = b'; omega⟩ hag ⟨gK, hv.2, tr_Tn hT _, gN⟩ H1 locs1 ls ⟨hB.1, hB.2.1, by rw [← ht]; exact hB.2.2.1, va_S_iff (AA_tr (E := S) hag hnn) hS1⟩ hl hc
end JL
