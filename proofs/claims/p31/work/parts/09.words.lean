set_option maxRecDepth 20000 in
theorem mw144 : Cond.methodLink "Datalogmill$Schema" 3 Lib.objectInit ∈ GW := inGW (List.mem_of_getElem? (i := 144) (by rfl)) (by decide +kernel)
set_option maxRecDepth 20000 in
theorem mw137 : Cond.instanceMethod Lib.objectInit ∈ GW := inGW (List.mem_of_getElem? (i := 137) (by rfl)) (by decide +kernel)
set_option maxRecDepth 20000 in
theorem mw138 : Cond.code Lib.objectInit ⟨#[0xb1]⟩ 1 none ∈ GW := inGW (List.mem_of_getElem? (i := 138) (by rfl)) (by decide +kernel)
theorem rl10 : R32 (10) := ⟨by decide, by decide⟩
set_option maxRecDepth 20000 in
theorem mw158 : Cond.arrayClass ClassFile.FieldType.int ∈ GW := inGW (List.mem_of_getElem? (i := 158) (by rfl)) (by decide +kernel)
set_option maxRecDepth 20000 in
theorem mw145 : Cond.fieldLink "Datalogmill$Schema" (9 : Nat) "Datalogmill$Schema" "columns" "[I" ∈ GW := inGW (List.mem_of_getElem? (i := 145) (by rfl)) (by decide +kernel)
theorem fpfX8_9 : FPF RX8 9 TA 9 0 (.array .int) := ⟨RX8, TX8, 4, rfl, ⟨by decide, by decide, by decide⟩, inWX8, mw145, ⟨tyX8, tyX8_ok, rfl⟩, nmX8, rfl, rfl⟩
set_option maxRecDepth 20000 in
theorem mw146 : Cond.fieldLink "Datalogmill$Schema" (15 : Nat) "Datalogmill$Schema" "kinds" "[I" ∈ GW := inGW (List.mem_of_getElem? (i := 146) (by rfl)) (by decide +kernel)
theorem fpfX8_15 : FPF RX8 15 TA 9 1 (.array .int) := ⟨RX8, TX8, 4, rfl, ⟨by decide, by decide, by decide⟩, inWX8, mw146, ⟨tyX8, tyX8_ok, rfl⟩, nmX8, rfl, rfl⟩
set_option maxRecDepth 20000 in
theorem mw147 : Cond.fieldLink "Datalogmill$Schema" (18 : Nat) "Datalogmill$Schema" "keys" "[I" ∈ GW := inGW (List.mem_of_getElem? (i := 147) (by rfl)) (by decide +kernel)
theorem fpfX8_18 : FPF RX8 18 TA 9 2 (.array .int) := ⟨RX8, TX8, 4, rfl, ⟨by decide, by decide, by decide⟩, inWX8, mw147, ⟨tyX8, tyX8_ok, rfl⟩, nmX8, rfl, rfl⟩
set_option maxRecDepth 20000 in
theorem mw148 : Cond.fieldLink "Datalogmill$Schema" (21 : Nat) "Datalogmill$Schema" "bits" "[I" ∈ GW := inGW (List.mem_of_getElem? (i := 148) (by rfl)) (by decide +kernel)
theorem fpfX8_21 : FPF RX8 21 TA 9 3 (.array .int) := ⟨RX8, TX8, 4, rfl, ⟨by decide, by decide, by decide⟩, inWX8, mw148, ⟨tyX8, tyX8_ok, rfl⟩, nmX8, rfl, rfl⟩
set_option maxRecDepth 20000 in
theorem mw164 : Cond.methodLink "Datalogmill$Facts" 3 Lib.objectInit ∈ GW := inGW (List.mem_of_getElem? (i := 164) (by rfl)) (by decide +kernel)
theorem rl24 : R32 (24) := ⟨by decide, by decide⟩
set_option maxRecDepth 20000 in
theorem mw170 : Cond.fieldLink "Datalogmill$Facts" (9 : Nat) "Datalogmill$Facts" "relations" "[I" ∈ GW := inGW (List.mem_of_getElem? (i := 170) (by rfl)) (by decide +kernel)
theorem fpfX2_9 : FPF RX2 9 TA 3 2 (.array .int) := ⟨RX2, TX2, 8, rfl, ⟨by decide, by decide, by decide⟩, inWX2, mw170, ⟨tyX2, tyX2_ok, rfl⟩, nmX2, rfl, rfl⟩
set_option maxRecDepth 20000 in
theorem mw171 : Cond.fieldLink "Datalogmill$Facts" (15 : Nat) "Datalogmill$Facts" "codes" "[I" ∈ GW := inGW (List.mem_of_getElem? (i := 171) (by rfl)) (by decide +kernel)
theorem fpfX2_15 : FPF RX2 15 TA 3 3 (.array .int) := ⟨RX2, TX2, 8, rfl, ⟨by decide, by decide, by decide⟩, inWX2, mw171, ⟨tyX2, tyX2_ok, rfl⟩, nmX2, rfl, rfl⟩
set_option maxRecDepth 20000 in
theorem mw172 : Cond.fieldLink "Datalogmill$Facts" (18 : Nat) "Datalogmill$Facts" "costs" "[I" ∈ GW := inGW (List.mem_of_getElem? (i := 172) (by rfl)) (by decide +kernel)
theorem fpfX2_18 : FPF RX2 18 TA 3 4 (.array .int) := ⟨RX2, TX2, 8, rfl, ⟨by decide, by decide, by decide⟩, inWX2, mw172, ⟨tyX2, tyX2_ok, rfl⟩, nmX2, rfl, rfl⟩
set_option maxRecDepth 20000 in
theorem mw173 : Cond.fieldLink "Datalogmill$Facts" (21 : Nat) "Datalogmill$Facts" "froms" "[I" ∈ GW := inGW (List.mem_of_getElem? (i := 173) (by rfl)) (by decide +kernel)
theorem fpfX2_21 : FPF RX2 21 TA 3 5 (.array .int) := ⟨RX2, TX2, 8, rfl, ⟨by decide, by decide, by decide⟩, inWX2, mw173, ⟨tyX2, tyX2_ok, rfl⟩, nmX2, rfl, rfl⟩
set_option maxRecDepth 20000 in
theorem mw174 : Cond.fieldLink "Datalogmill$Facts" (24 : Nat) "Datalogmill$Facts" "tos" "[I" ∈ GW := inGW (List.mem_of_getElem? (i := 174) (by rfl)) (by decide +kernel)
theorem fpfX2_24 : FPF RX2 24 TA 3 6 (.array .int) := ⟨RX2, TX2, 8, rfl, ⟨by decide, by decide, by decide⟩, inWX2, mw174, ⟨tyX2, tyX2_ok, rfl⟩, nmX2, rfl, rfl⟩
set_option maxRecDepth 20000 in
theorem mw193 : Cond.arrayClass ClassFile.FieldType.boolean ∈ GW := inGW (List.mem_of_getElem? (i := 193) (by rfl)) (by decide +kernel)
set_option maxRecDepth 20000 in
theorem mw175 : Cond.fieldLink "Datalogmill$Facts" (27 : Nat) "Datalogmill$Facts" "dropped" "[Z" ∈ GW := inGW (List.mem_of_getElem? (i := 175) (by rfl)) (by decide +kernel)
theorem fpfX2_27 : FPF RX2 27 TA 3 7 (.array .boolean) := ⟨RX2, TX2, 8, rfl, ⟨by decide, by decide, by decide⟩, inWX2, mw175, ⟨tyX2, tyX2_ok, rfl⟩, nmX2, rfl, rfl⟩
set_option maxRecDepth 20000 in
theorem mw205 : Cond.methodLink "Datalogmill$Body" 3 Lib.objectInit ∈ GW := inGW (List.mem_of_getElem? (i := 205) (by rfl)) (by decide +kernel)
theorem rlm1 : R32 (-1) := ⟨by decide, by decide⟩
set_option maxRecDepth 20000 in
theorem mw212 : Cond.fieldLink "Datalogmill$Body" (9 : Nat) "Datalogmill$Body" "target" "I" ∈ GW := inGW (List.mem_of_getElem? (i := 212) (by rfl)) (by decide +kernel)
theorem fpX0_9 : FP RX0 9 TA 1 1 .int := ⟨RX0, TX0, 6, rfl, ⟨by decide, by decide, by decide⟩, inWX0, Or.inl mw212, ⟨tyX0, tyX0_ok, rfl⟩, nmX0, rfl⟩
theorem rl5 : R32 (5) := ⟨by decide, by decide⟩
set_option maxRecDepth 20000 in
theorem mw220 : Cond.fieldLink "Datalogmill$Body" (15 : Nat) "Datalogmill$Body" "forms" "[I" ∈ GW := inGW (List.mem_of_getElem? (i := 220) (by rfl)) (by decide +kernel)
theorem fpfX0_15 : FPF RX0 15 TA 1 3 (.array .int) := ⟨RX0, TX0, 6, rfl, ⟨by decide, by decide, by decide⟩, inWX0, mw220, ⟨tyX0, tyX0_ok, rfl⟩, nmX0, rfl, rfl⟩
set_option maxRecDepth 20000 in
theorem mw221 : Cond.fieldLink "Datalogmill$Body" (19 : Nat) "Datalogmill$Body" "subjects" "[I" ∈ GW := inGW (List.mem_of_getElem? (i := 221) (by rfl)) (by decide +kernel)
theorem fpfX0_19 : FPF RX0 19 TA 1 4 (.array .int) := ⟨RX0, TX0, 6, rfl, ⟨by decide, by decide, by decide⟩, inWX0, mw221, ⟨tyX0, tyX0_ok, rfl⟩, nmX0, rfl, rfl⟩
theorem rl18 : R32 (18) := ⟨by decide, by decide⟩
set_option maxRecDepth 20000 in
theorem mw222 : Cond.fieldLink "Datalogmill$Body" (22 : Nat) "Datalogmill$Body" "terms" "[I" ∈ GW := inGW (List.mem_of_getElem? (i := 222) (by rfl)) (by decide +kernel)
theorem fpfX0_22 : FPF RX0 22 TA 1 5 (.array .int) := ⟨RX0, TX0, 6, rfl, ⟨by decide, by decide, by decide⟩, inWX0, mw222, ⟨tyX0, tyX0_ok, rfl⟩, nmX0, rfl, rfl⟩
set_option maxRecDepth 20000 in
theorem mw199 : Cond.methodLink "Datalogmill$Program" 3 Lib.objectInit ∈ GW := inGW (List.mem_of_getElem? (i := 199) (by rfl)) (by decide +kernel)
set_option maxRecDepth 20000 in
theorem mw200 : Cond.classLink "Datalogmill$Program" (9 : Nat) "Datalogmill$Body" ∈ GW := inGW (List.mem_of_getElem? (i := 200) (by rfl)) (by decide +kernel)
set_option maxRecDepth 20000 in
theorem mw201 : Cond.instantiable "Datalogmill$Body" (6 : Nat) ∈ GW := inGW (List.mem_of_getElem? (i := 201) (by rfl)) (by decide +kernel)
set_option maxRecDepth 20000 in
theorem mw116 : Cond.initialized "Datalogmill$Body" ∈ GW := inGW (List.mem_of_getElem? (i := 116) (by rfl)) (by decide +kernel)
set_option maxRecDepth 20000 in
theorem mt202 : Cond.methodLinkNest "Datalogmill$Program" (11 : Nat) ({ cls := "Datalogmill$Body", name := "<init>", desc := "()V" } : MethodName) "Datalogmill" ∈ lw_tbl := List.mem_of_getElem? (i := 202) (by rfl)
theorem lkX7_11 : LK "Datalogmill$Program" 11 yX0_init := Or.inr ⟨_, mt202⟩
set_option maxRecDepth 20000 in
theorem mw204 : Cond.code yX0_init cX0_init 1 none ∈ GW := inGW (List.mem_of_getElem? (i := 204) (by rfl)) (by decide +kernel)
theorem ml_Bo_init : ML yX0_init cX0_init 1 none 0 := ⟨mw204, mw116, by decide +kernel, by decide +kernel, by decide +kernel⟩
set_option maxRecDepth 20000 in
theorem mw203 : Cond.instanceMethod ({ cls := "Datalogmill$Body", name := "<init>", desc := "()V" } : MethodName) ∈ GW := inGW (List.mem_of_getElem? (i := 203) (by rfl)) (by decide +kernel)
set_option maxRecDepth 20000 in
theorem mw238 : Cond.fieldLink "Datalogmill$Program" (12 : Nat) "Datalogmill$Program" "nothing" "LDatalogmill$Body;" ∈ GW := inGW (List.mem_of_getElem? (i := 238) (by rfl)) (by decide +kernel)
theorem fpfX7_12 : FPF RX7 12 TA 8 1 (.object "Datalogmill$Body") := ⟨RX7, TX7, 8, rfl, ⟨by decide, by decide, by decide⟩, inWX7, mw238, ⟨tyX7, tyX7_ok, rfl⟩, nmX7, rfl, rfl⟩
theorem rl12 : R32 (12) := ⟨by decide, by decide⟩
set_option maxRecDepth 20000 in
theorem mt236 : Cond.arrayOver (ClassFile.FieldType.object "Datalogmill$Body") ∈ lw_tbl := List.mem_of_getElem? (i := 236) (by rfl)
set_option maxRecDepth 20000 in
theorem mw239 : Cond.fieldLink "Datalogmill$Program" (18 : Nat) "Datalogmill$Program" "rules" "[LDatalogmill$Body;" ∈ GW := inGW (List.mem_of_getElem? (i := 239) (by rfl)) (by decide +kernel)
theorem fpfX7_18 : FPF RX7 18 TA 8 2 (.array (.object "Datalogmill$Body")) := ⟨RX7, TX7, 8, rfl, ⟨by decide, by decide, by decide⟩, inWX7, mw239, ⟨tyX7, tyX7_ok, rfl⟩, nmX7, rfl, rfl⟩
theorem rl6 : R32 (6) := ⟨by decide, by decide⟩
set_option maxRecDepth 20000 in
theorem mw240 : Cond.fieldLink "Datalogmill$Program" (22 : Nat) "Datalogmill$Program" "denials" "[LDatalogmill$Body;" ∈ GW := inGW (List.mem_of_getElem? (i := 240) (by rfl)) (by decide +kernel)
theorem fpfX7_22 : FPF RX7 22 TA 8 3 (.array (.object "Datalogmill$Body")) := ⟨RX7, TX7, 8, rfl, ⟨by decide, by decide, by decide⟩, inWX7, mw240, ⟨tyX7, tyX7_ok, rfl⟩, nmX7, rfl, rfl⟩
set_option maxRecDepth 20000 in
theorem mw246 : Cond.fieldLink "Datalogmill$Program" (25 : Nat) "Datalogmill$Program" "levels" "[I" ∈ GW := inGW (List.mem_of_getElem? (i := 246) (by rfl)) (by decide +kernel)
theorem fpfX7_25 : FPF RX7 25 TA 8 6 (.array .int) := ⟨RX7, TX7, 8, rfl, ⟨by decide, by decide, by decide⟩, inWX7, mw246, ⟨tyX7, tyX7_ok, rfl⟩, nmX7, rfl, rfl⟩
set_option maxRecDepth 20000 in
theorem mw237 : Cond.fieldLink "Datalogmill$Program" (29 : Nat) "Datalogmill$Program" "schema" "LDatalogmill$Schema;" ∈ GW := inGW (List.mem_of_getElem? (i := 237) (by rfl)) (by decide +kernel)
theorem fpfX7_29 : FPF RX7 29 TA 8 0 (.object "Datalogmill$Schema") := ⟨RX7, TX7, 8, rfl, ⟨by decide, by decide, by decide⟩, inWX7, mw237, ⟨tyX7, tyX7_ok, rfl⟩, nmX7, rfl, rfl⟩
theorem rl0 : R32 (0) := ⟨by decide, by decide⟩
theorem flX7_18 : FL RX7 18 TA 8 2 := ⟨RX7, TX7, 8, rfl, ⟨by decide, by decide, by decide⟩, inWX7, Or.inl mw239⟩
theorem rl1 : R32 (1) := ⟨by decide, by decide⟩
theorem rl2 : R32 (2) := ⟨by decide, by decide⟩
theorem rl3 : R32 (3) := ⟨by decide, by decide⟩
theorem rl4 : R32 (4) := ⟨by decide, by decide⟩
theorem rl7 : R32 (7) := ⟨by decide, by decide⟩
theorem rl8 : R32 (8) := ⟨by decide, by decide⟩
theorem rl9 : R32 (9) := ⟨by decide, by decide⟩
theorem rl11 : R32 (11) := ⟨by decide, by decide⟩
theorem flX7_22 : FL RX7 22 TA 8 3 := ⟨RX7, TX7, 8, rfl, ⟨by decide, by decide, by decide⟩, inWX7, Or.inl mw240⟩
set_option maxRecDepth 20000 in
theorem mw273 : Cond.methodLink "Datalogmill$Model" 3 Lib.objectInit ∈ GW := inGW (List.mem_of_getElem? (i := 273) (by rfl)) (by decide +kernel)
set_option maxRecDepth 20000 in
theorem mw279 : Cond.fieldLink "Datalogmill$Model" (9 : Nat) "Datalogmill$Model" "firsts" "[I" ∈ GW := inGW (List.mem_of_getElem? (i := 279) (by rfl)) (by decide +kernel)
theorem fpfX5_9 : FPF RX5 9 TA 6 3 (.array .int) := ⟨RX5, TX5, 7, rfl, ⟨by decide, by decide, by decide⟩, inWX5, mw279, ⟨tyX5, tyX5_ok, rfl⟩, nmX5, rfl, rfl⟩
theorem rl48 : R32 (48) := ⟨by decide, by decide⟩
set_option maxRecDepth 20000 in
theorem mw280 : Cond.fieldLink "Datalogmill$Model" (15 : Nat) "Datalogmill$Model" "nexts" "[I" ∈ GW := inGW (List.mem_of_getElem? (i := 280) (by rfl)) (by decide +kernel)
theorem fpfX5_15 : FPF RX5 15 TA 6 4 (.array .int) := ⟨RX5, TX5, 7, rfl, ⟨by decide, by decide, by decide⟩, inWX5, mw280, ⟨tyX5, tyX5_ok, rfl⟩, nmX5, rfl, rfl⟩
set_option maxRecDepth 20000 in
theorem mw281 : Cond.fieldLink "Datalogmill$Model" (18 : Nat) "Datalogmill$Model" "codes" "[I" ∈ GW := inGW (List.mem_of_getElem? (i := 281) (by rfl)) (by decide +kernel)
theorem fpfX5_18 : FPF RX5 18 TA 6 5 (.array .int) := ⟨RX5, TX5, 7, rfl, ⟨by decide, by decide, by decide⟩, inWX5, mw281, ⟨tyX5, tyX5_ok, rfl⟩, nmX5, rfl, rfl⟩
set_option maxRecDepth 20000 in
theorem mw282 : Cond.fieldLink "Datalogmill$Model" (21 : Nat) "Datalogmill$Model" "rounds" "[I" ∈ GW := inGW (List.mem_of_getElem? (i := 282) (by rfl)) (by decide +kernel)
theorem fpfX5_21 : FPF RX5 21 TA 6 6 (.array .int) := ⟨RX5, TX5, 7, rfl, ⟨by decide, by decide, by decide⟩, inWX5, mw282, ⟨tyX5, tyX5_ok, rfl⟩, nmX5, rfl, rfl⟩
set_option maxRecDepth 20000 in
theorem mw274 : Cond.fieldLink "Datalogmill$Model" (24 : Nat) "Datalogmill$Model" "schema" "LDatalogmill$Schema;" ∈ GW := inGW (List.mem_of_getElem? (i := 274) (by rfl)) (by decide +kernel)
theorem fpfX5_24 : FPF RX5 24 TA 6 0 (.object "Datalogmill$Schema") := ⟨RX5, TX5, 7, rfl, ⟨by decide, by decide, by decide⟩, inWX5, mw274, ⟨tyX5, tyX5_ok, rfl⟩, nmX5, rfl, rfl⟩
theorem flX5_9 : FL RX5 9 TA 6 3 := ⟨RX5, TX5, 7, rfl, ⟨by decide, by decide, by decide⟩, inWX5, Or.inl mw279⟩
set_option maxRecDepth 20000 in
theorem mw303 : Cond.methodLink "Datalogmill$Walk" 3 Lib.objectInit ∈ GW := inGW (List.mem_of_getElem? (i := 303) (by rfl)) (by decide +kernel)
set_option maxRecDepth 20000 in
theorem mw312 : Cond.fieldLink "Datalogmill$Walk" (9 : Nat) "Datalogmill$Walk" "values" "[I" ∈ GW := inGW (List.mem_of_getElem? (i := 312) (by rfl)) (by decide +kernel)
theorem fpfX9_9 : FPF RX9 9 TA 10 8 (.array .int) := ⟨RX9, TX9, 11, rfl, ⟨by decide, by decide, by decide⟩, inWX9, mw312, ⟨tyX9, tyX9_ok, rfl⟩, nmX9, rfl, rfl⟩
set_option maxRecDepth 20000 in
theorem mw313 : Cond.fieldLink "Datalogmill$Walk" (15 : Nat) "Datalogmill$Walk" "slots" "[I" ∈ GW := inGW (List.mem_of_getElem? (i := 313) (by rfl)) (by decide +kernel)
theorem fpfX9_15 : FPF RX9 15 TA 10 9 (.array .int) := ⟨RX9, TX9, 11, rfl, ⟨by decide, by decide, by decide⟩, inWX9, mw313, ⟨tyX9, tyX9_ok, rfl⟩, nmX9, rfl, rfl⟩
set_option maxRecDepth 20000 in
theorem mw314 : Cond.fieldLink "Datalogmill$Walk" (18 : Nat) "Datalogmill$Walk" "bound" "[I" ∈ GW := inGW (List.mem_of_getElem? (i := 314) (by rfl)) (by decide +kernel)
theorem fpfX9_18 : FPF RX9 18 TA 10 10 (.array .int) := ⟨RX9, TX9, 11, rfl, ⟨by decide, by decide, by decide⟩, inWX9, mw314, ⟨tyX9, tyX9_ok, rfl⟩, nmX9, rfl, rfl⟩
set_option maxRecDepth 20000 in
theorem mw304 : Cond.fieldLink "Datalogmill$Walk" (21 : Nat) "Datalogmill$Walk" "schema" "LDatalogmill$Schema;" ∈ GW := inGW (List.mem_of_getElem? (i := 304) (by rfl)) (by decide +kernel)
theorem fpfX9_21 : FPF RX9 21 TA 10 0 (.object "Datalogmill$Schema") := ⟨RX9, TX9, 11, rfl, ⟨by decide, by decide, by decide⟩, inWX9, mw304, ⟨tyX9, tyX9_ok, rfl⟩, nmX9, rfl, rfl⟩
set_option maxRecDepth 20000 in
theorem mw305 : Cond.fieldLink "Datalogmill$Walk" (25 : Nat) "Datalogmill$Walk" "body" "LDatalogmill$Body;" ∈ GW := inGW (List.mem_of_getElem? (i := 305) (by rfl)) (by decide +kernel)
theorem fpX9_25 : FP RX9 25 TA 10 1 (.object "Datalogmill$Body") := ⟨RX9, TX9, 11, rfl, ⟨by decide, by decide, by decide⟩, inWX9, Or.inl mw305, ⟨tyX9, tyX9_ok, rfl⟩, nmX9, rfl⟩
set_option maxRecDepth 20000 in
theorem mw306 : Cond.fieldLink "Datalogmill$Walk" (29 : Nat) "Datalogmill$Walk" "model" "LDatalogmill$Model;" ∈ GW := inGW (List.mem_of_getElem? (i := 306) (by rfl)) (by decide +kernel)
theorem fpX9_29 : FP RX9 29 TA 10 2 (.object "Datalogmill$Model") := ⟨RX9, TX9, 11, rfl, ⟨by decide, by decide, by decide⟩, inWX9, Or.inl mw306, ⟨tyX9, tyX9_ok, rfl⟩, nmX9, rfl⟩
set_option maxRecDepth 20000 in
theorem mw310 : Cond.fieldLink "Datalogmill$Walk" (33 : Nat) "Datalogmill$Walk" "lead" "I" ∈ GW := inGW (List.mem_of_getElem? (i := 310) (by rfl)) (by decide +kernel)
theorem fpX9_33 : FP RX9 33 TA 10 6 .int := ⟨RX9, TX9, 11, rfl, ⟨by decide, by decide, by decide⟩, inWX9, Or.inl mw310, ⟨tyX9, tyX9_ok, rfl⟩, nmX9, rfl⟩
set_option maxRecDepth 20000 in
theorem mw308 : Cond.fieldLink "Datalogmill$Walk" (37 : Nat) "Datalogmill$Walk" "depth" "I" ∈ GW := inGW (List.mem_of_getElem? (i := 308) (by rfl)) (by decide +kernel)
theorem fpX9_37 : FP RX9 37 TA 10 4 .int := ⟨RX9, TX9, 11, rfl, ⟨by decide, by decide, by decide⟩, inWX9, Or.inl mw308, ⟨tyX9, tyX9_ok, rfl⟩, nmX9, rfl⟩
set_option maxRecDepth 20000 in
theorem mw343 : Cond.methodLink "Datalogmill$Mill" 3 Lib.objectInit ∈ GW := inGW (List.mem_of_getElem? (i := 343) (by rfl)) (by decide +kernel)
set_option maxRecDepth 20000 in
theorem mw344 : Cond.fieldLink "Datalogmill$Mill" (9 : Nat) "Datalogmill$Mill" "facts" "LDatalogmill$Facts;" ∈ GW := inGW (List.mem_of_getElem? (i := 344) (by rfl)) (by decide +kernel)
theorem fpfX4_9 : FPF RX4 9 TA 5 0 (.object "Datalogmill$Facts") := ⟨RX4, TX4, 3, rfl, ⟨by decide, by decide, by decide⟩, inWX4, mw344, ⟨tyX4, tyX4_ok, rfl⟩, nmX4, rfl, rfl⟩
set_option maxRecDepth 20000 in
theorem mw345 : Cond.fieldLink "Datalogmill$Mill" (15 : Nat) "Datalogmill$Mill" "program" "LDatalogmill$Program;" ∈ GW := inGW (List.mem_of_getElem? (i := 345) (by rfl)) (by decide +kernel)
theorem fpfX4_15 : FPF RX4 15 TA 5 1 (.object "Datalogmill$Program") := ⟨RX4, TX4, 3, rfl, ⟨by decide, by decide, by decide⟩, inWX4, mw345, ⟨tyX4, tyX4_ok, rfl⟩, nmX4, rfl, rfl⟩
set_option maxRecDepth 20000 in
theorem mw346 : Cond.fieldLink "Datalogmill$Mill" (19 : Nat) "Datalogmill$Mill" "walk" "LDatalogmill$Walk;" ∈ GW := inGW (List.mem_of_getElem? (i := 346) (by rfl)) (by decide +kernel)
theorem fpfX4_19 : FPF RX4 19 TA 5 2 (.object "Datalogmill$Walk") := ⟨RX4, TX4, 3, rfl, ⟨by decide, by decide, by decide⟩, inWX4, mw346, ⟨tyX4, tyX4_ok, rfl⟩, nmX4, rfl, rfl⟩
set_option maxRecDepth 20000 in
theorem mw360 : Cond.methodLink "Datalogmill$Costs" 3 Lib.objectInit ∈ GW := inGW (List.mem_of_getElem? (i := 360) (by rfl)) (by decide +kernel)
set_option maxRecDepth 20000 in
theorem mw362 : Cond.fieldLink "Datalogmill$Costs" (9 : Nat) "Datalogmill$Costs" "costs" "[I" ∈ GW := inGW (List.mem_of_getElem? (i := 362) (by rfl)) (by decide +kernel)
theorem fpfX1_9 : FPF RX1 9 TA 2 1 (.array .int) := ⟨RX1, TX1, 2, rfl, ⟨by decide, by decide, by decide⟩, inWX1, mw362, ⟨tyX1, tyX1_ok, rfl⟩, nmX1, rfl, rfl⟩
set_option maxRecDepth 20000 in
theorem mw373 : Cond.methodLink "Datalogmill$Goals" 3 Lib.objectInit ∈ GW := inGW (List.mem_of_getElem? (i := 373) (by rfl)) (by decide +kernel)
theorem rl400 : R32 (400) := ⟨by decide, by decide⟩
set_option maxRecDepth 20000 in
theorem mw376 : Cond.fieldLink "Datalogmill$Goals" (9 : Nat) "Datalogmill$Goals" "rows" "[I" ∈ GW := inGW (List.mem_of_getElem? (i := 376) (by rfl)) (by decide +kernel)
theorem fpfX3_9 : FPF RX3 9 TA 4 1 (.array .int) := ⟨RX3, TX3, 3, rfl, ⟨by decide, by decide, by decide⟩, inWX3, mw376, ⟨tyX3, tyX3_ok, rfl⟩, nmX3, rfl, rfl⟩
theorem rl1024 : R32 (1024) := ⟨by decide, by decide⟩
set_option maxRecDepth 20000 in
theorem mw377 : Cond.fieldLink "Datalogmill$Goals" (15 : Nat) "Datalogmill$Goals" "table" "[I" ∈ GW := inGW (List.mem_of_getElem? (i := 377) (by rfl)) (by decide +kernel)
theorem fpfX3_15 : FPF RX3 15 TA 4 2 (.array .int) := ⟨RX3, TX3, 3, rfl, ⟨by decide, by decide, by decide⟩, inWX3, mw377, ⟨tyX3, tyX3_ok, rfl⟩, nmX3, rfl, rfl⟩
set_option maxRecDepth 20000 in
theorem mw390 : Cond.methodLink "Datalogmill$Plan" 3 Lib.objectInit ∈ GW := inGW (List.mem_of_getElem? (i := 390) (by rfl)) (by decide +kernel)
set_option maxRecDepth 20000 in
theorem mw392 : Cond.fieldLink "Datalogmill$Plan" (9 : Nat) "Datalogmill$Plan" "places" "[I" ∈ GW := inGW (List.mem_of_getElem? (i := 392) (by rfl)) (by decide +kernel)
theorem fpfX6_9 : FPF RX6 9 TA 7 1 (.array .int) := ⟨RX6, TX6, 3, rfl, ⟨by decide, by decide, by decide⟩, inWX6, mw392, ⟨tyX6, tyX6_ok, rfl⟩, nmX6, rfl, rfl⟩
set_option maxRecDepth 20000 in
theorem mw393 : Cond.fieldLink "Datalogmill$Plan" (15 : Nat) "Datalogmill$Plan" "searches" "[I" ∈ GW := inGW (List.mem_of_getElem? (i := 393) (by rfl)) (by decide +kernel)
theorem fpfX6_15 : FPF RX6 15 TA 7 2 (.array .int) := ⟨RX6, TX6, 3, rfl, ⟨by decide, by decide, by decide⟩, inWX6, mw393, ⟨tyX6, tyX6_ok, rfl⟩, nmX6, rfl, rfl⟩
set_option maxRecDepth 20000 in
theorem mw136 : Cond.methodLink "Datalogmill" 3 Lib.objectInit ∈ GW := inGW (List.mem_of_getElem? (i := 136) (by rfl)) (by decide +kernel)
set_option maxRecDepth 20000 in
theorem mw139 : Cond.classLink "Datalogmill" (9 : Nat) "Datalogmill$Schema" ∈ GW := inGW (List.mem_of_getElem? (i := 139) (by rfl)) (by decide +kernel)
set_option maxRecDepth 20000 in
theorem mw140 : Cond.instantiable "Datalogmill$Schema" (4 : Nat) ∈ GW := inGW (List.mem_of_getElem? (i := 140) (by rfl)) (by decide +kernel)
set_option maxRecDepth 20000 in
theorem mw113 : Cond.initialized "Datalogmill$Schema" ∈ GW := inGW (List.mem_of_getElem? (i := 113) (by rfl)) (by decide +kernel)
set_option maxRecDepth 20000 in
theorem mt141 : Cond.methodLinkNest "Datalogmill" (11 : Nat) ({ cls := "Datalogmill$Schema", name := "<init>", desc := "()V" } : MethodName) "Datalogmill" ∈ lw_tbl := List.mem_of_getElem? (i := 141) (by rfl)
theorem lkX10_11 : LK "Datalogmill" 11 yX8_init := Or.inr ⟨_, mt141⟩
set_option maxRecDepth 20000 in
theorem mw143 : Cond.code yX8_init cX8_init 1 none ∈ GW := inGW (List.mem_of_getElem? (i := 143) (by rfl)) (by decide +kernel)
theorem ml_Sc_init : ML yX8_init cX8_init 1 none 0 := ⟨mw143, mw113, by decide +kernel, by decide +kernel, by decide +kernel⟩
set_option maxRecDepth 20000 in
theorem mw142 : Cond.instanceMethod ({ cls := "Datalogmill$Schema", name := "<init>", desc := "()V" } : MethodName) ∈ GW := inGW (List.mem_of_getElem? (i := 142) (by rfl)) (by decide +kernel)
set_option maxRecDepth 20000 in
theorem mw159 : Cond.classLink "Datalogmill" (12 : Nat) "Datalogmill$Facts" ∈ GW := inGW (List.mem_of_getElem? (i := 159) (by rfl)) (by decide +kernel)
set_option maxRecDepth 20000 in
theorem mw160 : Cond.instantiable "Datalogmill$Facts" (8 : Nat) ∈ GW := inGW (List.mem_of_getElem? (i := 160) (by rfl)) (by decide +kernel)
set_option maxRecDepth 20000 in
theorem mw114 : Cond.initialized "Datalogmill$Facts" ∈ GW := inGW (List.mem_of_getElem? (i := 114) (by rfl)) (by decide +kernel)
set_option maxRecDepth 20000 in
theorem mt161 : Cond.methodLinkNest "Datalogmill" (14 : Nat) ({ cls := "Datalogmill$Facts", name := "<init>", desc := "()V" } : MethodName) "Datalogmill" ∈ lw_tbl := List.mem_of_getElem? (i := 161) (by rfl)
theorem lkX10_14 : LK "Datalogmill" 14 yX2_init := Or.inr ⟨_, mt161⟩
set_option maxRecDepth 20000 in
theorem mw163 : Cond.code yX2_init cX2_init 1 none ∈ GW := inGW (List.mem_of_getElem? (i := 163) (by rfl)) (by decide +kernel)
theorem ml_Fa_init : ML yX2_init cX2_init 1 none 0 := ⟨mw163, mw114, by decide +kernel, by decide +kernel, by decide +kernel⟩
set_option maxRecDepth 20000 in
theorem mw162 : Cond.instanceMethod ({ cls := "Datalogmill$Facts", name := "<init>", desc := "()V" } : MethodName) ∈ GW := inGW (List.mem_of_getElem? (i := 162) (by rfl)) (by decide +kernel)
set_option maxRecDepth 20000 in
theorem mw194 : Cond.classLink "Datalogmill" (15 : Nat) "Datalogmill$Program" ∈ GW := inGW (List.mem_of_getElem? (i := 194) (by rfl)) (by decide +kernel)
set_option maxRecDepth 20000 in
theorem mw195 : Cond.instantiable "Datalogmill$Program" (8 : Nat) ∈ GW := inGW (List.mem_of_getElem? (i := 195) (by rfl)) (by decide +kernel)
set_option maxRecDepth 20000 in
theorem mw115 : Cond.initialized "Datalogmill$Program" ∈ GW := inGW (List.mem_of_getElem? (i := 115) (by rfl)) (by decide +kernel)
set_option maxRecDepth 20000 in
theorem mt196 : Cond.methodLinkNest "Datalogmill" (17 : Nat) ({ cls := "Datalogmill$Program", name := "<init>", desc := "(LDatalogmill$Schema;)V" } : MethodName) "Datalogmill" ∈ lw_tbl := List.mem_of_getElem? (i := 196) (by rfl)
theorem lkX10_17 : LK "Datalogmill" 17 yX7_init := Or.inr ⟨_, mt196⟩
set_option maxRecDepth 20000 in
theorem mw198 : Cond.code yX7_init cX7_init 3 none ∈ GW := inGW (List.mem_of_getElem? (i := 198) (by rfl)) (by decide +kernel)
theorem ml_Pr_init : ML yX7_init cX7_init 3 none 1 := ⟨mw198, mw115, by decide +kernel, by decide +kernel, by decide +kernel⟩
set_option maxRecDepth 20000 in
theorem mw197 : Cond.instanceMethod ({ cls := "Datalogmill$Program", name := "<init>", desc := "(LDatalogmill$Schema;)V" } : MethodName) ∈ GW := inGW (List.mem_of_getElem? (i := 197) (by rfl)) (by decide +kernel)
set_option maxRecDepth 20000 in
theorem mw266 : Cond.classLink "Datalogmill" (20 : Nat) "Datalogmill$Body" ∈ GW := inGW (List.mem_of_getElem? (i := 266) (by rfl)) (by decide +kernel)
set_option maxRecDepth 20000 in
theorem mt267 : Cond.methodLinkNest "Datalogmill" (22 : Nat) ({ cls := "Datalogmill$Body", name := "<init>", desc := "()V" } : MethodName) "Datalogmill" ∈ lw_tbl := List.mem_of_getElem? (i := 267) (by rfl)
theorem lkX10_22 : LK "Datalogmill" 22 yX0_init := Or.inr ⟨_, mt267⟩
set_option maxRecDepth 20000 in
theorem mw268 : Cond.classLink "Datalogmill" (23 : Nat) "Datalogmill$Model" ∈ GW := inGW (List.mem_of_getElem? (i := 268) (by rfl)) (by decide +kernel)
set_option maxRecDepth 20000 in
theorem mw269 : Cond.instantiable "Datalogmill$Model" (7 : Nat) ∈ GW := inGW (List.mem_of_getElem? (i := 269) (by rfl)) (by decide +kernel)
set_option maxRecDepth 20000 in
theorem mw117 : Cond.initialized "Datalogmill$Model" ∈ GW := inGW (List.mem_of_getElem? (i := 117) (by rfl)) (by decide +kernel)
set_option maxRecDepth 20000 in
theorem mt270 : Cond.methodLinkNest "Datalogmill" (25 : Nat) ({ cls := "Datalogmill$Model", name := "<init>", desc := "(LDatalogmill$Schema;)V" } : MethodName) "Datalogmill" ∈ lw_tbl := List.mem_of_getElem? (i := 270) (by rfl)
theorem lkX10_25 : LK "Datalogmill" 25 yX5_init := Or.inr ⟨_, mt270⟩
set_option maxRecDepth 20000 in
theorem mw272 : Cond.code yX5_init cX5_init 3 none ∈ GW := inGW (List.mem_of_getElem? (i := 272) (by rfl)) (by decide +kernel)
theorem ml_Mo_init : ML yX5_init cX5_init 3 none 1 := ⟨mw272, mw117, by decide +kernel, by decide +kernel, by decide +kernel⟩
set_option maxRecDepth 20000 in
theorem mw271 : Cond.instanceMethod ({ cls := "Datalogmill$Model", name := "<init>", desc := "(LDatalogmill$Schema;)V" } : MethodName) ∈ GW := inGW (List.mem_of_getElem? (i := 271) (by rfl)) (by decide +kernel)
set_option maxRecDepth 20000 in
theorem mw298 : Cond.classLink "Datalogmill" (26 : Nat) "Datalogmill$Walk" ∈ GW := inGW (List.mem_of_getElem? (i := 298) (by rfl)) (by decide +kernel)
set_option maxRecDepth 20000 in
theorem mw299 : Cond.instantiable "Datalogmill$Walk" (11 : Nat) ∈ GW := inGW (List.mem_of_getElem? (i := 299) (by rfl)) (by decide +kernel)
set_option maxRecDepth 20000 in
theorem mw118 : Cond.initialized "Datalogmill$Walk" ∈ GW := inGW (List.mem_of_getElem? (i := 118) (by rfl)) (by decide +kernel)
set_option maxRecDepth 20000 in
theorem mt300 : Cond.methodLinkNest "Datalogmill" (28 : Nat) ({ cls := "Datalogmill$Walk", name := "<init>", desc := "(LDatalogmill$Schema;LDatalogmill$Body;LDatalogmill$Model;)V" } : MethodName) "Datalogmill" ∈ lw_tbl := List.mem_of_getElem? (i := 300) (by rfl)
theorem lkX10_28 : LK "Datalogmill" 28 yX9_init := Or.inr ⟨_, mt300⟩
set_option maxRecDepth 20000 in
theorem mw302 : Cond.code yX9_init cX9_init 4 none ∈ GW := inGW (List.mem_of_getElem? (i := 302) (by rfl)) (by decide +kernel)
theorem ml_Wa_init : ML yX9_init cX9_init 4 none 3 := ⟨mw302, mw118, by decide +kernel, by decide +kernel, by decide +kernel⟩
set_option maxRecDepth 20000 in
theorem mw301 : Cond.instanceMethod ({ cls := "Datalogmill$Walk", name := "<init>", desc := "(LDatalogmill$Schema;LDatalogmill$Body;LDatalogmill$Model;)V" } : MethodName) ∈ GW := inGW (List.mem_of_getElem? (i := 301) (by rfl)) (by decide +kernel)
set_option maxRecDepth 20000 in
theorem mw401 : Cond.fieldLink "Datalogmill" (31 : Nat) "Datalogmill" "schema" "LDatalogmill$Schema;" ∈ GW := inGW (List.mem_of_getElem? (i := 401) (by rfl)) (by decide +kernel)
theorem fpfX10_31 : FPF RX10 31 TA 11 0 (.object "Datalogmill$Schema") := ⟨RX10, TX10, 13, rfl, ⟨by decide, by decide, by decide⟩, inWX10, mw401, ⟨tyX10, tyX10_ok, rfl⟩, nmX10, rfl, rfl⟩
set_option maxRecDepth 20000 in
theorem mw402 : Cond.fieldLink "Datalogmill" (35 : Nat) "Datalogmill" "facts" "LDatalogmill$Facts;" ∈ GW := inGW (List.mem_of_getElem? (i := 402) (by rfl)) (by decide +kernel)
theorem fpfX10_35 : FPF RX10 35 TA 11 1 (.object "Datalogmill$Facts") := ⟨RX10, TX10, 13, rfl, ⟨by decide, by decide, by decide⟩, inWX10, mw402, ⟨tyX10, tyX10_ok, rfl⟩, nmX10, rfl, rfl⟩
set_option maxRecDepth 20000 in
theorem mw403 : Cond.fieldLink "Datalogmill" (39 : Nat) "Datalogmill" "program" "LDatalogmill$Program;" ∈ GW := inGW (List.mem_of_getElem? (i := 403) (by rfl)) (by decide +kernel)
theorem fpfX10_39 : FPF RX10 39 TA 11 2 (.object "Datalogmill$Program") := ⟨RX10, TX10, 13, rfl, ⟨by decide, by decide, by decide⟩, inWX10, mw403, ⟨tyX10, tyX10_ok, rfl⟩, nmX10, rfl, rfl⟩
set_option maxRecDepth 20000 in
theorem mw404 : Cond.fieldLink "Datalogmill" (43 : Nat) "Datalogmill" "draft" "LDatalogmill$Body;" ∈ GW := inGW (List.mem_of_getElem? (i := 404) (by rfl)) (by decide +kernel)
theorem fpfX10_43 : FPF RX10 43 TA 11 3 (.object "Datalogmill$Body") := ⟨RX10, TX10, 13, rfl, ⟨by decide, by decide, by decide⟩, inWX10, mw404, ⟨tyX10, tyX10_ok, rfl⟩, nmX10, rfl, rfl⟩
set_option maxRecDepth 20000 in
theorem mw407 : Cond.fieldLink "Datalogmill" (47 : Nat) "Datalogmill" "trial" "LDatalogmill$Model;" ∈ GW := inGW (List.mem_of_getElem? (i := 407) (by rfl)) (by decide +kernel)
theorem fpfX10_47 : FPF RX10 47 TA 11 6 (.object "Datalogmill$Model") := ⟨RX10, TX10, 13, rfl, ⟨by decide, by decide, by decide⟩, inWX10, mw407, ⟨tyX10, tyX10_ok, rfl⟩, nmX10, rfl, rfl⟩
set_option maxRecDepth 20000 in
theorem mw408 : Cond.fieldLink "Datalogmill" (51 : Nat) "Datalogmill" "walk" "LDatalogmill$Walk;" ∈ GW := inGW (List.mem_of_getElem? (i := 408) (by rfl)) (by decide +kernel)
theorem fpfX10_51 : FPF RX10 51 TA 11 7 (.object "Datalogmill$Walk") := ⟨RX10, TX10, 13, rfl, ⟨by decide, by decide, by decide⟩, inWX10, mw408, ⟨tyX10, tyX10_ok, rfl⟩, nmX10, rfl, rfl⟩
set_option maxRecDepth 20000 in
theorem mw338 : Cond.classLink "Datalogmill" (55 : Nat) "Datalogmill$Mill" ∈ GW := inGW (List.mem_of_getElem? (i := 338) (by rfl)) (by decide +kernel)
set_option maxRecDepth 20000 in
theorem mw339 : Cond.instantiable "Datalogmill$Mill" (3 : Nat) ∈ GW := inGW (List.mem_of_getElem? (i := 339) (by rfl)) (by decide +kernel)
set_option maxRecDepth 20000 in
theorem mw119 : Cond.initialized "Datalogmill$Mill" ∈ GW := inGW (List.mem_of_getElem? (i := 119) (by rfl)) (by decide +kernel)
set_option maxRecDepth 20000 in
theorem mt340 : Cond.methodLinkNest "Datalogmill" (57 : Nat) ({ cls := "Datalogmill$Mill", name := "<init>", desc := "(LDatalogmill$Facts;LDatalogmill$Program;LDatalogmill$Walk;)V" } : MethodName) "Datalogmill" ∈ lw_tbl := List.mem_of_getElem? (i := 340) (by rfl)
theorem lkX10_57 : LK "Datalogmill" 57 yX4_init := Or.inr ⟨_, mt340⟩
set_option maxRecDepth 20000 in
theorem mw342 : Cond.code yX4_init cX4_init 4 none ∈ GW := inGW (List.mem_of_getElem? (i := 342) (by rfl)) (by decide +kernel)
theorem ml_Mi_init : ML yX4_init cX4_init 4 none 3 := ⟨mw342, mw119, by decide +kernel, by decide +kernel, by decide +kernel⟩
set_option maxRecDepth 20000 in
theorem mw341 : Cond.instanceMethod ({ cls := "Datalogmill$Mill", name := "<init>", desc := "(LDatalogmill$Facts;LDatalogmill$Program;LDatalogmill$Walk;)V" } : MethodName) ∈ GW := inGW (List.mem_of_getElem? (i := 341) (by rfl)) (by decide +kernel)
set_option maxRecDepth 20000 in
theorem mw409 : Cond.fieldLink "Datalogmill" (60 : Nat) "Datalogmill" "mill" "LDatalogmill$Mill;" ∈ GW := inGW (List.mem_of_getElem? (i := 409) (by rfl)) (by decide +kernel)
theorem fpfX10_60 : FPF RX10 60 TA 11 8 (.object "Datalogmill$Mill") := ⟨RX10, TX10, 13, rfl, ⟨by decide, by decide, by decide⟩, inWX10, mw409, ⟨tyX10, tyX10_ok, rfl⟩, nmX10, rfl, rfl⟩
set_option maxRecDepth 20000 in
theorem mt354 : Cond.arrayOver (ClassFile.FieldType.object "Datalogmill$Model") ∈ lw_tbl := List.mem_of_getElem? (i := 354) (by rfl)
set_option maxRecDepth 20000 in
theorem mw405 : Cond.fieldLink "Datalogmill" (64 : Nat) "Datalogmill" "models" "[LDatalogmill$Model;" ∈ GW := inGW (List.mem_of_getElem? (i := 405) (by rfl)) (by decide +kernel)
theorem fpfX10_64 : FPF RX10 64 TA 11 4 (.array (.object "Datalogmill$Model")) := ⟨RX10, TX10, 13, rfl, ⟨by decide, by decide, by decide⟩, inWX10, mw405, ⟨tyX10, tyX10_ok, rfl⟩, nmX10, rfl, rfl⟩
set_option maxRecDepth 20000 in
theorem mw406 : Cond.fieldLink "Datalogmill" (68 : Nat) "Datalogmill" "spares" "[LDatalogmill$Model;" ∈ GW := inGW (List.mem_of_getElem? (i := 406) (by rfl)) (by decide +kernel)
theorem fpfX10_68 : FPF RX10 68 TA 11 5 (.array (.object "Datalogmill$Model")) := ⟨RX10, TX10, 13, rfl, ⟨by decide, by decide, by decide⟩, inWX10, mw406, ⟨tyX10, tyX10_ok, rfl⟩, nmX10, rfl, rfl⟩
theorem flX10_64 : FL RX10 64 TA 11 4 := ⟨RX10, TX10, 13, rfl, ⟨by decide, by decide, by decide⟩, inWX10, Or.inl mw405⟩
theorem flX10_68 : FL RX10 68 TA 11 5 := ⟨RX10, TX10, 13, rfl, ⟨by decide, by decide, by decide⟩, inWX10, Or.inl mw406⟩
set_option maxRecDepth 20000 in
theorem mw355 : Cond.classLink "Datalogmill" (71 : Nat) "Datalogmill$Costs" ∈ GW := inGW (List.mem_of_getElem? (i := 355) (by rfl)) (by decide +kernel)
set_option maxRecDepth 20000 in
theorem mw356 : Cond.instantiable "Datalogmill$Costs" (2 : Nat) ∈ GW := inGW (List.mem_of_getElem? (i := 356) (by rfl)) (by decide +kernel)
set_option maxRecDepth 20000 in
theorem mw120 : Cond.initialized "Datalogmill$Costs" ∈ GW := inGW (List.mem_of_getElem? (i := 120) (by rfl)) (by decide +kernel)
set_option maxRecDepth 20000 in
theorem mt357 : Cond.methodLinkNest "Datalogmill" (73 : Nat) ({ cls := "Datalogmill$Costs", name := "<init>", desc := "()V" } : MethodName) "Datalogmill" ∈ lw_tbl := List.mem_of_getElem? (i := 357) (by rfl)
theorem lkX10_73 : LK "Datalogmill" 73 yX1_init := Or.inr ⟨_, mt357⟩
set_option maxRecDepth 20000 in
theorem mw359 : Cond.code yX1_init cX1_init 1 none ∈ GW := inGW (List.mem_of_getElem? (i := 359) (by rfl)) (by decide +kernel)
theorem ml_Co_init : ML yX1_init cX1_init 1 none 0 := ⟨mw359, mw120, by decide +kernel, by decide +kernel, by decide +kernel⟩
set_option maxRecDepth 20000 in
theorem mw358 : Cond.instanceMethod ({ cls := "Datalogmill$Costs", name := "<init>", desc := "()V" } : MethodName) ∈ GW := inGW (List.mem_of_getElem? (i := 358) (by rfl)) (by decide +kernel)
set_option maxRecDepth 20000 in
theorem mw410 : Cond.fieldLink "Datalogmill" (74 : Nat) "Datalogmill" "costs" "LDatalogmill$Costs;" ∈ GW := inGW (List.mem_of_getElem? (i := 410) (by rfl)) (by decide +kernel)
theorem fpfX10_74 : FPF RX10 74 TA 11 9 (.object "Datalogmill$Costs") := ⟨RX10, TX10, 13, rfl, ⟨by decide, by decide, by decide⟩, inWX10, mw410, ⟨tyX10, tyX10_ok, rfl⟩, nmX10, rfl, rfl⟩
set_option maxRecDepth 20000 in
theorem mw368 : Cond.classLink "Datalogmill" (78 : Nat) "Datalogmill$Goals" ∈ GW := inGW (List.mem_of_getElem? (i := 368) (by rfl)) (by decide +kernel)
set_option maxRecDepth 20000 in
theorem mw369 : Cond.instantiable "Datalogmill$Goals" (3 : Nat) ∈ GW := inGW (List.mem_of_getElem? (i := 369) (by rfl)) (by decide +kernel)
set_option maxRecDepth 20000 in
theorem mw121 : Cond.initialized "Datalogmill$Goals" ∈ GW := inGW (List.mem_of_getElem? (i := 121) (by rfl)) (by decide +kernel)
set_option maxRecDepth 20000 in
theorem mt370 : Cond.methodLinkNest "Datalogmill" (80 : Nat) ({ cls := "Datalogmill$Goals", name := "<init>", desc := "()V" } : MethodName) "Datalogmill" ∈ lw_tbl := List.mem_of_getElem? (i := 370) (by rfl)
theorem lkX10_80 : LK "Datalogmill" 80 yX3_init := Or.inr ⟨_, mt370⟩
set_option maxRecDepth 20000 in
theorem mw372 : Cond.code yX3_init cX3_init 1 none ∈ GW := inGW (List.mem_of_getElem? (i := 372) (by rfl)) (by decide +kernel)
theorem ml_Go_init : ML yX3_init cX3_init 1 none 0 := ⟨mw372, mw121, by decide +kernel, by decide +kernel, by decide +kernel⟩
set_option maxRecDepth 20000 in
theorem mw371 : Cond.instanceMethod ({ cls := "Datalogmill$Goals", name := "<init>", desc := "()V" } : MethodName) ∈ GW := inGW (List.mem_of_getElem? (i := 371) (by rfl)) (by decide +kernel)
set_option maxRecDepth 20000 in
theorem mw411 : Cond.fieldLink "Datalogmill" (81 : Nat) "Datalogmill" "asked" "LDatalogmill$Goals;" ∈ GW := inGW (List.mem_of_getElem? (i := 411) (by rfl)) (by decide +kernel)
theorem fpfX10_81 : FPF RX10 81 TA 11 10 (.object "Datalogmill$Goals") := ⟨RX10, TX10, 13, rfl, ⟨by decide, by decide, by decide⟩, inWX10, mw411, ⟨tyX10, tyX10_ok, rfl⟩, nmX10, rfl, rfl⟩
set_option maxRecDepth 20000 in
theorem mw385 : Cond.classLink "Datalogmill" (85 : Nat) "Datalogmill$Plan" ∈ GW := inGW (List.mem_of_getElem? (i := 385) (by rfl)) (by decide +kernel)
set_option maxRecDepth 20000 in
theorem mw386 : Cond.instantiable "Datalogmill$Plan" (3 : Nat) ∈ GW := inGW (List.mem_of_getElem? (i := 386) (by rfl)) (by decide +kernel)
set_option maxRecDepth 20000 in
theorem mw122 : Cond.initialized "Datalogmill$Plan" ∈ GW := inGW (List.mem_of_getElem? (i := 122) (by rfl)) (by decide +kernel)
set_option maxRecDepth 20000 in
theorem mt387 : Cond.methodLinkNest "Datalogmill" (87 : Nat) ({ cls := "Datalogmill$Plan", name := "<init>", desc := "()V" } : MethodName) "Datalogmill" ∈ lw_tbl := List.mem_of_getElem? (i := 387) (by rfl)
theorem lkX10_87 : LK "Datalogmill" 87 yX6_init := Or.inr ⟨_, mt387⟩
set_option maxRecDepth 20000 in
theorem mw389 : Cond.code yX6_init cX6_init 1 none ∈ GW := inGW (List.mem_of_getElem? (i := 389) (by rfl)) (by decide +kernel)
theorem ml_Pl_init : ML yX6_init cX6_init 1 none 0 := ⟨mw389, mw122, by decide +kernel, by decide +kernel, by decide +kernel⟩
set_option maxRecDepth 20000 in
theorem mw388 : Cond.instanceMethod ({ cls := "Datalogmill$Plan", name := "<init>", desc := "()V" } : MethodName) ∈ GW := inGW (List.mem_of_getElem? (i := 388) (by rfl)) (by decide +kernel)
set_option maxRecDepth 20000 in
theorem mw412 : Cond.fieldLink "Datalogmill" (88 : Nat) "Datalogmill" "plan" "LDatalogmill$Plan;" ∈ GW := inGW (List.mem_of_getElem? (i := 412) (by rfl)) (by decide +kernel)
theorem fpfX10_88 : FPF RX10 88 TA 11 11 (.object "Datalogmill$Plan") := ⟨RX10, TX10, 13, rfl, ⟨by decide, by decide, by decide⟩, inWX10, mw412, ⟨tyX10, tyX10_ok, rfl⟩, nmX10, rfl, rfl⟩
theorem flX0_22 : FL RX0 22 TA 1 5 := ⟨RX0, TX0, 6, rfl, ⟨by decide, by decide, by decide⟩, inWX0, Or.inl mw222⟩
set_option maxRecDepth 20000 in
theorem mt855 : Cond.methodLinkNest "Datalogmill$Body" (35 : Nat) ({ cls := "Datalogmill", name := "picked", desc := "(IIII)I" } : MethodName) "Datalogmill" ∈ lw_tbl := List.mem_of_getElem? (i := 855) (by rfl)
theorem lkX0_35 : LK "Datalogmill$Body" 35 yX10_picked := Or.inr ⟨_, mt855⟩
set_option maxRecDepth 20000 in
theorem mw594 : Cond.code yX10_picked cX10_picked 4 (some .int) ∈ GW := inGW (List.mem_of_getElem? (i := 594) (by rfl)) (by decide +kernel)
set_option maxRecDepth 20000 in
theorem mw112 : Cond.initialized "Datalogmill" ∈ GW := inGW (List.mem_of_getElem? (i := 112) (by rfl)) (by decide +kernel)
theorem ml_Dm_picked : ML yX10_picked cX10_picked 4 (some .int) 4 := ⟨mw594, mw112, by decide +kernel, by decide +kernel, by decide +kernel⟩
set_option maxRecDepth 20000 in
theorem mw593 : Cond.static ({ cls := "Datalogmill", name := "picked", desc := "(IIII)I" } : MethodName) ∈ GW := inGW (List.mem_of_getElem? (i := 593) (by rfl)) (by decide +kernel)
set_option maxRecDepth 20000 in
theorem mw851 : Cond.methodLink "Datalogmill$Body" (32 : Nat) ({ cls := "Datalogmill$Body", name := "setTerms", desc := "(IIII)V" } : MethodName) ∈ GW := inGW (List.mem_of_getElem? (i := 851) (by rfl)) (by decide +kernel)
theorem lkX0_32 : LK "Datalogmill$Body" 32 yX0_setTerms := Or.inl mw851
set_option maxRecDepth 20000 in
theorem mw854 : Cond.code yX0_setTerms cX0_setTerms 7 none ∈ GW := inGW (List.mem_of_getElem? (i := 854) (by rfl)) (by decide +kernel)
theorem ml_Bo_setTerms : ML yX0_setTerms cX0_setTerms 7 none 4 := ⟨mw854, mw116, by decide +kernel, by decide +kernel, by decide +kernel⟩
set_option maxRecDepth 20000 in
theorem mw853 : Cond.instanceMethod ({ cls := "Datalogmill$Body", name := "setTerms", desc := "(IIII)V" } : MethodName) ∈ GW := inGW (List.mem_of_getElem? (i := 853) (by rfl)) (by decide +kernel)
set_option maxRecDepth 20000 in
theorem mw54 : Cond.selects RX0 yX0_setTerms yX0_setTerms ∈ GW := inGW (List.mem_of_getElem? (i := 54) (by rfl)) (by decide +kernel)
theorem vl_Bo_setTerms : VL yX0_setTerms := ⟨mw853, mw54⟩
set_option maxRecDepth 20000 in
theorem mw206 : Cond.fieldLink "Datalogmill$Body" (25 : Nat) "Datalogmill$Body" "count" "I" ∈ GW := inGW (List.mem_of_getElem? (i := 206) (by rfl)) (by decide +kernel)
theorem fpX0_25 : FP RX0 25 TA 1 0 .int := ⟨RX0, TX0, 6, rfl, ⟨by decide, by decide, by decide⟩, inWX0, Or.inl mw206, ⟨tyX0, tyX0_ok, rfl⟩, nmX0, rfl⟩
set_option maxRecDepth 20000 in
theorem mw978 : Cond.methodLink "Datalogmill$Body" (28 : Nat) ({ cls := "Datalogmill$Body", name := "setHead", desc := "(IIII)V" } : MethodName) ∈ GW := inGW (List.mem_of_getElem? (i := 978) (by rfl)) (by decide +kernel)
theorem lkX0_28 : LK "Datalogmill$Body" 28 yX0_setHead := Or.inl mw978
set_option maxRecDepth 20000 in
theorem mw850 : Cond.code yX0_setHead cX0_setHead 5 none ∈ GW := inGW (List.mem_of_getElem? (i := 850) (by rfl)) (by decide +kernel)
theorem ml_Bo_setHead : ML yX0_setHead cX0_setHead 5 none 4 := ⟨mw850, mw116, by decide +kernel, by decide +kernel, by decide +kernel⟩
set_option maxRecDepth 20000 in
theorem mw849 : Cond.instanceMethod ({ cls := "Datalogmill$Body", name := "setHead", desc := "(IIII)V" } : MethodName) ∈ GW := inGW (List.mem_of_getElem? (i := 849) (by rfl)) (by decide +kernel)
set_option maxRecDepth 20000 in
theorem mw53 : Cond.selects RX0 yX0_setHead yX0_setHead ∈ GW := inGW (List.mem_of_getElem? (i := 53) (by rfl)) (by decide +kernel)
theorem vl_Bo_setHead : VL yX0_setHead := ⟨mw849, mw53⟩
theorem flX10_43 : FL RX10 43 TA 11 3 := ⟨RX10, TX10, 13, rfl, ⟨by decide, by decide, by decide⟩, inWX10, Or.inl mw404⟩
set_option maxRecDepth 20000 in
theorem mt209 : Cond.fieldLinkNest "Datalogmill" (187 : Nat) "Datalogmill$Body" "count" "I" "Datalogmill" ∈ lw_tbl := List.mem_of_getElem? (i := 209) (by rfl)
theorem flX10_187 : FL RX10 187 TA 1 0 := ⟨RX0, TX0, 6, rfl, ⟨by decide, by decide, by decide⟩, inWX0, Or.inr ⟨_, mt209⟩⟩
set_option maxRecDepth 20000 in
theorem mt981 : Cond.methodLinkNest "Datalogmill" (205 : Nat) ({ cls := "Datalogmill$Body", name := "empty", desc := "()V" } : MethodName) "Datalogmill" ∈ lw_tbl := List.mem_of_getElem? (i := 981) (by rfl)
theorem lkX10_205 : LK "Datalogmill" 205 yX0_empty := Or.inr ⟨_, mt981⟩
set_option maxRecDepth 20000 in
theorem mw977 : Cond.code yX0_empty cX0_empty 1 none ∈ GW := inGW (List.mem_of_getElem? (i := 977) (by rfl)) (by decide +kernel)
theorem ml_Bo_empty : ML yX0_empty cX0_empty 1 none 0 := ⟨mw977, mw116, by decide +kernel, by decide +kernel, by decide +kernel⟩
set_option maxRecDepth 20000 in
theorem mw976 : Cond.instanceMethod ({ cls := "Datalogmill$Body", name := "empty", desc := "()V" } : MethodName) ∈ GW := inGW (List.mem_of_getElem? (i := 976) (by rfl)) (by decide +kernel)
set_option maxRecDepth 20000 in
theorem mw71 : Cond.selects RX0 yX0_empty yX0_empty ∈ GW := inGW (List.mem_of_getElem? (i := 71) (by rfl)) (by decide +kernel)
theorem vl_Bo_empty : VL yX0_empty := ⟨mw976, mw71⟩
theorem flX10_47 : FL RX10 47 TA 11 6 := ⟨RX10, TX10, 13, rfl, ⟨by decide, by decide, by decide⟩, inWX10, Or.inl mw407⟩
set_option maxRecDepth 20000 in
theorem mw413 : Cond.fieldLink "Datalogmill" (173 : Nat) "Datalogmill" "now" "I" ∈ GW := inGW (List.mem_of_getElem? (i := 413) (by rfl)) (by decide +kernel)
theorem flX10_173 : FL RX10 173 TA 11 12 := ⟨RX10, TX10, 13, rfl, ⟨by decide, by decide, by decide⟩, inWX10, Or.inl mw413⟩
set_option maxRecDepth 20000 in
theorem mw805 : Cond.methodLink "Datalogmill" (271 : Nat) ({ cls := "Datalogmill", name := "modelOf", desc := "(I)LDatalogmill$Model;" } : MethodName) ∈ GW := inGW (List.mem_of_getElem? (i := 805) (by rfl)) (by decide +kernel)
theorem lkX10_271 : LK "Datalogmill" 271 yX10_modelOf := Or.inl mw805
set_option maxRecDepth 20000 in
theorem mw808 : Cond.code yX10_modelOf cX10_modelOf 3 (some (.object "Datalogmill$Model")) ∈ GW := inGW (List.mem_of_getElem? (i := 808) (by rfl)) (by decide +kernel)
theorem ml_Dm_modelOf : ML yX10_modelOf cX10_modelOf 3 (some (.object "Datalogmill$Model")) 1 := ⟨mw808, mw112, by decide +kernel, by decide +kernel, by decide +kernel⟩
set_option maxRecDepth 20000 in
theorem mw807 : Cond.instanceMethod ({ cls := "Datalogmill", name := "modelOf", desc := "(I)LDatalogmill$Model;" } : MethodName) ∈ GW := inGW (List.mem_of_getElem? (i := 807) (by rfl)) (by decide +kernel)
set_option maxRecDepth 20000 in
theorem mw47 : Cond.selects RX10 yX10_modelOf yX10_modelOf ∈ GW := inGW (List.mem_of_getElem? (i := 47) (by rfl)) (by decide +kernel)
theorem vl_Dm_modelOf : VL yX10_modelOf := ⟨mw807, mw47⟩
theorem flX7_12 : FL RX7 12 TA 8 1 := ⟨RX7, TX7, 8, rfl, ⟨by decide, by decide, by decide⟩, inWX7, Or.inl mw238⟩
theorem flX9_9 : FL RX9 9 TA 10 8 := ⟨RX9, TX9, 11, rfl, ⟨by decide, by decide, by decide⟩, inWX9, Or.inl mw312⟩
set_option maxRecDepth 20000 in
theorem mw307 : Cond.fieldLink "Datalogmill$Walk" (40 : Nat) "Datalogmill$Walk" "end" "I" ∈ GW := inGW (List.mem_of_getElem? (i := 307) (by rfl)) (by decide +kernel)
theorem fpX9_40 : FP RX9 40 TA 10 3 .int := ⟨RX9, TX9, 11, rfl, ⟨by decide, by decide, by decide⟩, inWX9, Or.inl mw307, ⟨tyX9, tyX9_ok, rfl⟩, nmX9, rfl⟩
set_option maxRecDepth 20000 in
theorem mw309 : Cond.fieldLink "Datalogmill$Walk" (43 : Nat) "Datalogmill$Walk" "fresh" "Z" ∈ GW := inGW (List.mem_of_getElem? (i := 309) (by rfl)) (by decide +kernel)
theorem fpX9_43 : FP RX9 43 TA 10 5 .boolean := ⟨RX9, TX9, 11, rfl, ⟨by decide, by decide, by decide⟩, inWX9, Or.inl mw309, ⟨tyX9, tyX9_ok, rfl⟩, nmX9, rfl⟩
set_option maxRecDepth 20000 in
theorem mw719 : Cond.methodLink "Datalogmill$Walk" (47 : Nat) ({ cls := "Datalogmill$Walk", name := "unbind", desc := "(I)V" } : MethodName) ∈ GW := inGW (List.mem_of_getElem? (i := 719) (by rfl)) (by decide +kernel)
theorem lkX9_47 : LK "Datalogmill$Walk" 47 yX9_unbind := Or.inl mw719
set_option maxRecDepth 20000 in
theorem mw722 : Cond.code yX9_unbind cX9_unbind 3 none ∈ GW := inGW (List.mem_of_getElem? (i := 722) (by rfl)) (by decide +kernel)
theorem ml_Wa_unbind : ML yX9_unbind cX9_unbind 3 none 1 := ⟨mw722, mw118, by decide +kernel, by decide +kernel, by decide +kernel⟩
set_option maxRecDepth 20000 in
theorem mw721 : Cond.instanceMethod ({ cls := "Datalogmill$Walk", name := "unbind", desc := "(I)V" } : MethodName) ∈ GW := inGW (List.mem_of_getElem? (i := 721) (by rfl)) (by decide +kernel)
set_option maxRecDepth 20000 in
theorem mw31 : Cond.selects RX9 yX9_unbind yX9_unbind ∈ GW := inGW (List.mem_of_getElem? (i := 31) (by rfl)) (by decide +kernel)
theorem vl_Wa_unbind : VL yX9_unbind := ⟨mw721, mw31⟩
theorem flX9_33 : FL RX9 33 TA 10 6 := ⟨RX9, TX9, 11, rfl, ⟨by decide, by decide, by decide⟩, inWX9, Or.inl mw310⟩
theorem flX0_15 : FL RX0 15 TA 1 3 := ⟨RX0, TX0, 6, rfl, ⟨by decide, by decide, by decide⟩, inWX0, Or.inl mw220⟩
theorem flX0_19 : FL RX0 19 TA 1 4 := ⟨RX0, TX0, 6, rfl, ⟨by decide, by decide, by decide⟩, inWX0, Or.inl mw221⟩
theorem flX5_15 : FL RX5 15 TA 6 4 := ⟨RX5, TX5, 7, rfl, ⟨by decide, by decide, by decide⟩, inWX5, Or.inl mw280⟩
theorem flX8_9 : FL RX8 9 TA 9 0 := ⟨RX8, TX8, 4, rfl, ⟨by decide, by decide, by decide⟩, inWX8, Or.inl mw145⟩
theorem flX5_21 : FL RX5 21 TA 6 6 := ⟨RX5, TX5, 7, rfl, ⟨by decide, by decide, by decide⟩, inWX5, Or.inl mw282⟩
theorem flX9_29 : FL RX9 29 TA 10 2 := ⟨RX9, TX9, 11, rfl, ⟨by decide, by decide, by decide⟩, inWX9, Or.inl mw306⟩
set_option maxRecDepth 20000 in
theorem mt753 : Cond.methodLinkNest "Datalogmill$Walk" (112 : Nat) ({ cls := "Datalogmill$Model", name := "roundOf", desc := "(I)I" } : MethodName) "Datalogmill" ∈ lw_tbl := List.mem_of_getElem? (i := 753) (by rfl)
theorem lkX9_112 : LK "Datalogmill$Walk" 112 yX5_roundOf := Or.inr ⟨_, mt753⟩
set_option maxRecDepth 20000 in
theorem mw756 : Cond.code yX5_roundOf cX5_roundOf 2 (some .int) ∈ GW := inGW (List.mem_of_getElem? (i := 756) (by rfl)) (by decide +kernel)
theorem ml_Mo_roundOf : ML yX5_roundOf cX5_roundOf 2 (some .int) 1 := ⟨mw756, mw117, by decide +kernel, by decide +kernel, by decide +kernel⟩
set_option maxRecDepth 20000 in
theorem mw755 : Cond.instanceMethod ({ cls := "Datalogmill$Model", name := "roundOf", desc := "(I)I" } : MethodName) ∈ GW := inGW (List.mem_of_getElem? (i := 755) (by rfl)) (by decide +kernel)
set_option maxRecDepth 20000 in
theorem mw38 : Cond.selects RX5 yX5_roundOf yX5_roundOf ∈ GW := inGW (List.mem_of_getElem? (i := 38) (by rfl)) (by decide +kernel)
theorem vl_Mo_roundOf : VL yX5_roundOf := ⟨mw755, mw38⟩
set_option maxRecDepth 20000 in
theorem mw311 : Cond.fieldLink "Datalogmill$Walk" (51 : Nat) "Datalogmill$Walk" "leadRound" "I" ∈ GW := inGW (List.mem_of_getElem? (i := 311) (by rfl)) (by decide +kernel)
theorem flX9_51 : FL RX9 51 TA 10 7 := ⟨RX9, TX9, 11, rfl, ⟨by decide, by decide, by decide⟩, inWX9, Or.inl mw311⟩
theorem flX5_18 : FL RX5 18 TA 6 5 := ⟨RX5, TX5, 7, rfl, ⟨by decide, by decide, by decide⟩, inWX5, Or.inl mw281⟩
theorem rl127 : R32 (127) := ⟨by decide, by decide⟩
theorem rlm8 : R32 (-8) := ⟨by decide, by decide⟩
theorem flX9_18 : FL RX9 18 TA 10 10 := ⟨RX9, TX9, 11, rfl, ⟨by decide, by decide, by decide⟩, inWX9, Or.inl mw314⟩
set_option maxRecDepth 20000 in
theorem mw780 : Cond.methodLink "Datalogmill$Walk" (118 : Nat) ({ cls := "Datalogmill$Walk", name := "noteBound", desc := "(II)V" } : MethodName) ∈ GW := inGW (List.mem_of_getElem? (i := 780) (by rfl)) (by decide +kernel)
theorem lkX9_118 : LK "Datalogmill$Walk" 118 yX9_noteBound := Or.inl mw780
set_option maxRecDepth 20000 in
theorem mw783 : Cond.code yX9_noteBound cX9_noteBound 3 none ∈ GW := inGW (List.mem_of_getElem? (i := 783) (by rfl)) (by decide +kernel)
theorem ml_Wa_noteBound : ML yX9_noteBound cX9_noteBound 3 none 2 := ⟨mw783, mw118, by decide +kernel, by decide +kernel, by decide +kernel⟩
set_option maxRecDepth 20000 in
theorem mw782 : Cond.instanceMethod ({ cls := "Datalogmill$Walk", name := "noteBound", desc := "(II)V" } : MethodName) ∈ GW := inGW (List.mem_of_getElem? (i := 782) (by rfl)) (by decide +kernel)
set_option maxRecDepth 20000 in
theorem mw43 : Cond.selects RX9 yX9_noteBound yX9_noteBound ∈ GW := inGW (List.mem_of_getElem? (i := 43) (by rfl)) (by decide +kernel)
theorem vl_Wa_noteBound : VL yX9_noteBound := ⟨mw782, mw43⟩
theorem flX9_25 : FL RX9 25 TA 10 1 := ⟨RX9, TX9, 11, rfl, ⟨by decide, by decide, by decide⟩, inWX9, Or.inl mw305⟩
set_option maxRecDepth 20000 in
theorem mt762 : Cond.methodLinkNest "Datalogmill$Walk" (54 : Nat) ({ cls := "Datalogmill$Body", name := "termOf", desc := "(II)I" } : MethodName) "Datalogmill" ∈ lw_tbl := List.mem_of_getElem? (i := 762) (by rfl)
theorem lkX9_54 : LK "Datalogmill$Walk" 54 yX0_termOf := Or.inr ⟨_, mt762⟩
set_option maxRecDepth 20000 in
theorem mw765 : Cond.code yX0_termOf cX0_termOf 4 (some .int) ∈ GW := inGW (List.mem_of_getElem? (i := 765) (by rfl)) (by decide +kernel)
theorem ml_Bo_termOf : ML yX0_termOf cX0_termOf 4 (some .int) 2 := ⟨mw765, mw116, by decide +kernel, by decide +kernel, by decide +kernel⟩
set_option maxRecDepth 20000 in
theorem mw764 : Cond.instanceMethod ({ cls := "Datalogmill$Body", name := "termOf", desc := "(II)I" } : MethodName) ∈ GW := inGW (List.mem_of_getElem? (i := 764) (by rfl)) (by decide +kernel)
set_option maxRecDepth 20000 in
theorem mw40 : Cond.selects RX0 yX0_termOf yX0_termOf ∈ GW := inGW (List.mem_of_getElem? (i := 40) (by rfl)) (by decide +kernel)
theorem vl_Bo_termOf : VL yX0_termOf := ⟨mw764, mw40⟩
set_option maxRecDepth 20000 in
theorem mt766 : Cond.methodLinkNest "Datalogmill$Walk" (60 : Nat) ({ cls := "Datalogmill", name := "columnOf", desc := "(II)I" } : MethodName) "Datalogmill" ∈ lw_tbl := List.mem_of_getElem? (i := 766) (by rfl)
theorem lkX9_60 : LK "Datalogmill$Walk" 60 yX10_columnOf := Or.inr ⟨_, mt766⟩
set_option maxRecDepth 20000 in
theorem mw768 : Cond.code yX10_columnOf cX10_columnOf 2 (some .int) ∈ GW := inGW (List.mem_of_getElem? (i := 768) (by rfl)) (by decide +kernel)
theorem ml_Dm_columnOf : ML yX10_columnOf cX10_columnOf 2 (some .int) 2 := ⟨mw768, mw112, by decide +kernel, by decide +kernel, by decide +kernel⟩
set_option maxRecDepth 20000 in
theorem mw767 : Cond.static ({ cls := "Datalogmill", name := "columnOf", desc := "(II)I" } : MethodName) ∈ GW := inGW (List.mem_of_getElem? (i := 767) (by rfl)) (by decide +kernel)
set_option maxRecDepth 20000 in
theorem mw769 : Cond.methodLink "Datalogmill$Walk" (67 : Nat) ({ cls := "Datalogmill$Walk", name := "valueOf", desc := "(I)I" } : MethodName) ∈ GW := inGW (List.mem_of_getElem? (i := 769) (by rfl)) (by decide +kernel)
theorem lkX9_67 : LK "Datalogmill$Walk" 67 yX9_valueOf := Or.inl mw769
set_option maxRecDepth 20000 in
theorem mw772 : Cond.code yX9_valueOf cX9_valueOf 3 (some .int) ∈ GW := inGW (List.mem_of_getElem? (i := 772) (by rfl)) (by decide +kernel)
theorem ml_Wa_valueOf : ML yX9_valueOf cX9_valueOf 3 (some .int) 1 := ⟨mw772, mw118, by decide +kernel, by decide +kernel, by decide +kernel⟩
set_option maxRecDepth 20000 in
theorem mw771 : Cond.instanceMethod ({ cls := "Datalogmill$Walk", name := "valueOf", desc := "(I)I" } : MethodName) ∈ GW := inGW (List.mem_of_getElem? (i := 771) (by rfl)) (by decide +kernel)
set_option maxRecDepth 20000 in
theorem mw41 : Cond.selects RX9 yX9_valueOf yX9_valueOf ∈ GW := inGW (List.mem_of_getElem? (i := 41) (by rfl)) (by decide +kernel)
theorem vl_Wa_valueOf : VL yX9_valueOf := ⟨mw771, mw41⟩
set_option maxRecDepth 20000 in
theorem mw773 : Cond.methodLink "Datalogmill$Walk" (63 : Nat) ({ cls := "Datalogmill$Walk", name := "bindIfFree", desc := "(II)V" } : MethodName) ∈ GW := inGW (List.mem_of_getElem? (i := 773) (by rfl)) (by decide +kernel)
theorem lkX9_63 : LK "Datalogmill$Walk" 63 yX9_bindIfFree := Or.inl mw773
set_option maxRecDepth 20000 in
theorem mw776 : Cond.code yX9_bindIfFree cX9_bindIfFree 4 none ∈ GW := inGW (List.mem_of_getElem? (i := 776) (by rfl)) (by decide +kernel)
theorem ml_Wa_bindIfFree : ML yX9_bindIfFree cX9_bindIfFree 4 none 2 := ⟨mw776, mw118, by decide +kernel, by decide +kernel, by decide +kernel⟩
set_option maxRecDepth 20000 in
theorem mw775 : Cond.instanceMethod ({ cls := "Datalogmill$Walk", name := "bindIfFree", desc := "(II)V" } : MethodName) ∈ GW := inGW (List.mem_of_getElem? (i := 775) (by rfl)) (by decide +kernel)
set_option maxRecDepth 20000 in
theorem mw42 : Cond.selects RX9 yX9_bindIfFree yX9_bindIfFree ∈ GW := inGW (List.mem_of_getElem? (i := 42) (by rfl)) (by decide +kernel)
theorem vl_Wa_bindIfFree : VL yX9_bindIfFree := ⟨mw775, mw42⟩
set_option maxRecDepth 20000 in
theorem mt777 : Cond.methodLinkNest "Datalogmill$Walk" (115 : Nat) ({ cls := "Datalogmill", name := "variableBit", desc := "(I)I" } : MethodName) "Datalogmill" ∈ lw_tbl := List.mem_of_getElem? (i := 777) (by rfl)
theorem lkX9_115 : LK "Datalogmill$Walk" 115 yX10_variableBit := Or.inr ⟨_, mt777⟩
set_option maxRecDepth 20000 in
theorem mw779 : Cond.code yX10_variableBit cX10_variableBit 1 (some .int) ∈ GW := inGW (List.mem_of_getElem? (i := 779) (by rfl)) (by decide +kernel)
theorem ml_Dm_variableBit : ML yX10_variableBit cX10_variableBit 1 (some .int) 1 := ⟨mw779, mw112, by decide +kernel, by decide +kernel, by decide +kernel⟩
set_option maxRecDepth 20000 in
theorem mw778 : Cond.static ({ cls := "Datalogmill", name := "variableBit", desc := "(I)I" } : MethodName) ∈ GW := inGW (List.mem_of_getElem? (i := 778) (by rfl)) (by decide +kernel)
set_option maxRecDepth 20000 in
theorem mt744 : Cond.methodLinkNest "Datalogmill$Walk" (93 : Nat) ({ cls := "Datalogmill$Model", name := "nextOf", desc := "(I)I" } : MethodName) "Datalogmill" ∈ lw_tbl := List.mem_of_getElem? (i := 744) (by rfl)
theorem lkX9_93 : LK "Datalogmill$Walk" 93 yX5_nextOf := Or.inr ⟨_, mt744⟩
set_option maxRecDepth 20000 in
theorem mw747 : Cond.code yX5_nextOf cX5_nextOf 2 (some .int) ∈ GW := inGW (List.mem_of_getElem? (i := 747) (by rfl)) (by decide +kernel)
theorem ml_Mo_nextOf : ML yX5_nextOf cX5_nextOf 2 (some .int) 1 := ⟨mw747, mw117, by decide +kernel, by decide +kernel, by decide +kernel⟩
set_option maxRecDepth 20000 in
theorem mw746 : Cond.instanceMethod ({ cls := "Datalogmill$Model", name := "nextOf", desc := "(I)I" } : MethodName) ∈ GW := inGW (List.mem_of_getElem? (i := 746) (by rfl)) (by decide +kernel)
set_option maxRecDepth 20000 in
theorem mw36 : Cond.selects RX5 yX5_nextOf yX5_nextOf ∈ GW := inGW (List.mem_of_getElem? (i := 36) (by rfl)) (by decide +kernel)
theorem vl_Mo_nextOf : VL yX5_nextOf := ⟨mw746, mw36⟩
set_option maxRecDepth 20000 in
theorem mw749 : Cond.methodLink "Datalogmill$Walk" (101 : Nat) ({ cls := "Datalogmill$Walk", name := "isTimely", desc := "(II)Z" } : MethodName) ∈ GW := inGW (List.mem_of_getElem? (i := 749) (by rfl)) (by decide +kernel)
theorem lkX9_101 : LK "Datalogmill$Walk" 101 yX9_isTimely := Or.inl mw749
set_option maxRecDepth 20000 in
theorem mw752 : Cond.code yX9_isTimely cX9_isTimely 4 (some .boolean) ∈ GW := inGW (List.mem_of_getElem? (i := 752) (by rfl)) (by decide +kernel)
theorem ml_Wa_isTimely : ML yX9_isTimely cX9_isTimely 4 (some .boolean) 2 := ⟨mw752, mw118, by decide +kernel, by decide +kernel, by decide +kernel⟩
set_option maxRecDepth 20000 in
theorem mw751 : Cond.instanceMethod ({ cls := "Datalogmill$Walk", name := "isTimely", desc := "(II)Z" } : MethodName) ∈ GW := inGW (List.mem_of_getElem? (i := 751) (by rfl)) (by decide +kernel)
set_option maxRecDepth 20000 in
theorem mw37 : Cond.selects RX9 yX9_isTimely yX9_isTimely ∈ GW := inGW (List.mem_of_getElem? (i := 37) (by rfl)) (by decide +kernel)
theorem vl_Wa_isTimely : VL yX9_isTimely := ⟨mw751, mw37⟩
set_option maxRecDepth 20000 in
theorem mt757 : Cond.methodLinkNest "Datalogmill$Walk" (105 : Nat) ({ cls := "Datalogmill$Model", name := "codeOf", desc := "(I)I" } : MethodName) "Datalogmill" ∈ lw_tbl := List.mem_of_getElem? (i := 757) (by rfl)
theorem lkX9_105 : LK "Datalogmill$Walk" 105 yX5_codeOf := Or.inr ⟨_, mt757⟩
set_option maxRecDepth 20000 in
theorem mw680 : Cond.code yX5_codeOf cX5_codeOf 2 (some .int) ∈ GW := inGW (List.mem_of_getElem? (i := 680) (by rfl)) (by decide +kernel)
theorem ml_Mo_codeOf : ML yX5_codeOf cX5_codeOf 2 (some .int) 1 := ⟨mw680, mw117, by decide +kernel, by decide +kernel, by decide +kernel⟩
set_option maxRecDepth 20000 in
theorem mw679 : Cond.instanceMethod ({ cls := "Datalogmill$Model", name := "codeOf", desc := "(I)I" } : MethodName) ∈ GW := inGW (List.mem_of_getElem? (i := 679) (by rfl)) (by decide +kernel)
set_option maxRecDepth 20000 in
theorem mw22 : Cond.selects RX5 yX5_codeOf yX5_codeOf ∈ GW := inGW (List.mem_of_getElem? (i := 22) (by rfl)) (by decide +kernel)
theorem vl_Mo_codeOf : VL yX5_codeOf := ⟨mw679, mw22⟩
set_option maxRecDepth 20000 in
theorem mw758 : Cond.methodLink "Datalogmill$Walk" (108 : Nat) ({ cls := "Datalogmill$Walk", name := "fits", desc := "(III)Z" } : MethodName) ∈ GW := inGW (List.mem_of_getElem? (i := 758) (by rfl)) (by decide +kernel)
theorem lkX9_108 : LK "Datalogmill$Walk" 108 yX9_fits := Or.inl mw758
set_option maxRecDepth 20000 in
theorem mw761 : Cond.code yX9_fits cX9_fits 9 (some .boolean) ∈ GW := inGW (List.mem_of_getElem? (i := 761) (by rfl)) (by decide +kernel)
theorem ml_Wa_fits : ML yX9_fits cX9_fits 9 (some .boolean) 3 := ⟨mw761, mw118, by decide +kernel, by decide +kernel, by decide +kernel⟩
set_option maxRecDepth 20000 in
theorem mw760 : Cond.instanceMethod ({ cls := "Datalogmill$Walk", name := "fits", desc := "(III)Z" } : MethodName) ∈ GW := inGW (List.mem_of_getElem? (i := 760) (by rfl)) (by decide +kernel)
set_option maxRecDepth 20000 in
theorem mw39 : Cond.selects RX9 yX9_fits yX9_fits ∈ GW := inGW (List.mem_of_getElem? (i := 39) (by rfl)) (by decide +kernel)
theorem vl_Wa_fits : VL yX9_fits := ⟨mw760, mw39⟩
theorem flX9_15 : FL RX9 15 TA 10 9 := ⟨RX9, TX9, 11, rfl, ⟨by decide, by decide, by decide⟩, inWX9, Or.inl mw313⟩
theorem flX9_21 : FL RX9 21 TA 10 0 := ⟨RX9, TX9, 11, rfl, ⟨by decide, by decide, by decide⟩, inWX9, Or.inl mw304⟩
set_option maxRecDepth 20000 in
theorem mt748 : Cond.methodLinkNest "Datalogmill$Walk" (96 : Nat) ({ cls := "Datalogmill$Schema", name := "columnsOf", desc := "(I)I" } : MethodName) "Datalogmill" ∈ lw_tbl := List.mem_of_getElem? (i := 748) (by rfl)
theorem lkX9_96 : LK "Datalogmill$Walk" 96 yX8_columnsOf := Or.inr ⟨_, mt748⟩
set_option maxRecDepth 20000 in
theorem mw545 : Cond.code yX8_columnsOf cX8_columnsOf 2 (some .int) ∈ GW := inGW (List.mem_of_getElem? (i := 545) (by rfl)) (by decide +kernel)
theorem ml_Sc_columnsOf : ML yX8_columnsOf cX8_columnsOf 2 (some .int) 1 := ⟨mw545, mw113, by decide +kernel, by decide +kernel, by decide +kernel⟩
set_option maxRecDepth 20000 in
theorem mw544 : Cond.instanceMethod ({ cls := "Datalogmill$Schema", name := "columnsOf", desc := "(I)I" } : MethodName) ∈ GW := inGW (List.mem_of_getElem? (i := 544) (by rfl)) (by decide +kernel)
set_option maxRecDepth 20000 in
theorem mw2 : Cond.selects RX8 yX8_columnsOf yX8_columnsOf ∈ GW := inGW (List.mem_of_getElem? (i := 2) (by rfl)) (by decide +kernel)
theorem vl_Sc_columnsOf : VL yX8_columnsOf := ⟨mw544, mw2⟩
theorem flX9_43 : FL RX9 43 TA 10 5 := ⟨RX9, TX9, 11, rfl, ⟨by decide, by decide, by decide⟩, inWX9, Or.inl mw309⟩
set_option maxRecDepth 20000 in
theorem mt742 : Cond.methodLinkNest "Datalogmill$Walk" (85 : Nat) ({ cls := "Datalogmill$Body", name := "subjectOf", desc := "(I)I" } : MethodName) "Datalogmill" ∈ lw_tbl := List.mem_of_getElem? (i := 742) (by rfl)
theorem lkX9_85 : LK "Datalogmill$Walk" 85 yX0_subjectOf := Or.inr ⟨_, mt742⟩
set_option maxRecDepth 20000 in
theorem mw714 : Cond.code yX0_subjectOf cX0_subjectOf 2 (some .int) ∈ GW := inGW (List.mem_of_getElem? (i := 714) (by rfl)) (by decide +kernel)
theorem ml_Bo_subjectOf : ML yX0_subjectOf cX0_subjectOf 2 (some .int) 1 := ⟨mw714, mw116, by decide +kernel, by decide +kernel, by decide +kernel⟩
set_option maxRecDepth 20000 in
theorem mw713 : Cond.instanceMethod ({ cls := "Datalogmill$Body", name := "subjectOf", desc := "(I)I" } : MethodName) ∈ GW := inGW (List.mem_of_getElem? (i := 713) (by rfl)) (by decide +kernel)
set_option maxRecDepth 20000 in
theorem mw29 : Cond.selects RX0 yX0_subjectOf yX0_subjectOf ∈ GW := inGW (List.mem_of_getElem? (i := 29) (by rfl)) (by decide +kernel)
theorem vl_Bo_subjectOf : VL yX0_subjectOf := ⟨mw713, mw29⟩
set_option maxRecDepth 20000 in
theorem mt743 : Cond.methodLinkNest "Datalogmill$Walk" (88 : Nat) ({ cls := "Datalogmill$Model", name := "firstOf", desc := "(I)I" } : MethodName) "Datalogmill" ∈ lw_tbl := List.mem_of_getElem? (i := 743) (by rfl)
theorem lkX9_88 : LK "Datalogmill$Walk" 88 yX5_firstOf := Or.inr ⟨_, mt743⟩
set_option maxRecDepth 20000 in
theorem mw668 : Cond.code yX5_firstOf cX5_firstOf 2 (some .int) ∈ GW := inGW (List.mem_of_getElem? (i := 668) (by rfl)) (by decide +kernel)
theorem ml_Mo_firstOf : ML yX5_firstOf cX5_firstOf 2 (some .int) 1 := ⟨mw668, mw117, by decide +kernel, by decide +kernel, by decide +kernel⟩
set_option maxRecDepth 20000 in
theorem mw667 : Cond.instanceMethod ({ cls := "Datalogmill$Model", name := "firstOf", desc := "(I)I" } : MethodName) ∈ GW := inGW (List.mem_of_getElem? (i := 667) (by rfl)) (by decide +kernel)
set_option maxRecDepth 20000 in
theorem mw19 : Cond.selects RX5 yX5_firstOf yX5_firstOf ∈ GW := inGW (List.mem_of_getElem? (i := 19) (by rfl)) (by decide +kernel)
theorem vl_Mo_firstOf : VL yX5_firstOf := ⟨mw667, mw19⟩
theorem rl14 : R32 (14) := ⟨by decide, by decide⟩
set_option maxRecDepth 20000 in
theorem mw796 : Cond.methodLink "Datalogmill$Walk" 138 Lib.Math.max.name ∈ GW := inGW (List.mem_of_getElem? (i := 796) (by rfl)) (by decide +kernel)
set_option maxRecDepth 20000 in
theorem mw693 : Cond.static Lib.Math.max.name ∈ GW := inGW (List.mem_of_getElem? (i := 693) (by rfl)) (by decide +kernel)
set_option maxRecDepth 20000 in
theorem mw129 : Cond.initialized "java/lang/Math" ∈ GW := inGW (List.mem_of_getElem? (i := 129) (by rfl)) (by decide +kernel)
set_option maxRecDepth 20000 in
theorem mw694 : Cond.code Lib.Math.max.name Lib.Math.max.code 2 (some .int) ∈ GW := inGW (List.mem_of_getElem? (i := 694) (by rfl)) (by decide +kernel)
set_option maxRecDepth 20000 in
theorem mt797 : Cond.methodLinkNest "Datalogmill$Walk" (141 : Nat) ({ cls := "Datalogmill", name := "packed", desc := "(III)I" } : MethodName) "Datalogmill" ∈ lw_tbl := List.mem_of_getElem? (i := 797) (by rfl)
theorem lkX9_141 : LK "Datalogmill$Walk" 141 yX10_packed := Or.inr ⟨_, mt797⟩
set_option maxRecDepth 20000 in
theorem mw608 : Cond.code yX10_packed cX10_packed 3 (some .int) ∈ GW := inGW (List.mem_of_getElem? (i := 608) (by rfl)) (by decide +kernel)
theorem ml_Dm_packed : ML yX10_packed cX10_packed 3 (some .int) 3 := ⟨mw608, mw112, by decide +kernel, by decide +kernel, by decide +kernel⟩
set_option maxRecDepth 20000 in
theorem mw607 : Cond.static ({ cls := "Datalogmill", name := "packed", desc := "(III)I" } : MethodName) ∈ GW := inGW (List.mem_of_getElem? (i := 607) (by rfl)) (by decide +kernel)
theorem flX8_21 : FL RX8 21 TA 9 3 := ⟨RX8, TX8, 4, rfl, ⟨by decide, by decide, by decide⟩, inWX8, Or.inl mw148⟩
theorem flX5_24 : FL RX5 24 TA 6 0 := ⟨RX5, TX5, 7, rfl, ⟨by decide, by decide, by decide⟩, inWX5, Or.inl mw274⟩
set_option maxRecDepth 20000 in
theorem mt661 : Cond.methodLinkNest "Datalogmill$Model" (43 : Nat) ({ cls := "Datalogmill$Schema", name := "tellingBits", desc := "(I)I" } : MethodName) "Datalogmill" ∈ lw_tbl := List.mem_of_getElem? (i := 661) (by rfl)
theorem lkX5_43 : LK "Datalogmill$Model" 43 yX8_tellingBits := Or.inr ⟨_, mt661⟩
set_option maxRecDepth 20000 in
theorem mw664 : Cond.code yX8_tellingBits cX8_tellingBits 2 (some .int) ∈ GW := inGW (List.mem_of_getElem? (i := 664) (by rfl)) (by decide +kernel)
theorem ml_Sc_tellingBits : ML yX8_tellingBits cX8_tellingBits 2 (some .int) 1 := ⟨mw664, mw113, by decide +kernel, by decide +kernel, by decide +kernel⟩
set_option maxRecDepth 20000 in
theorem mw663 : Cond.instanceMethod ({ cls := "Datalogmill$Schema", name := "tellingBits", desc := "(I)I" } : MethodName) ∈ GW := inGW (List.mem_of_getElem? (i := 663) (by rfl)) (by decide +kernel)
set_option maxRecDepth 20000 in
theorem mw18 : Cond.selects RX8 yX8_tellingBits yX8_tellingBits ∈ GW := inGW (List.mem_of_getElem? (i := 18) (by rfl)) (by decide +kernel)
theorem vl_Sc_tellingBits : VL yX8_tellingBits := ⟨mw663, mw18⟩
set_option maxRecDepth 20000 in
theorem mw665 : Cond.methodLink "Datalogmill$Model" (36 : Nat) ({ cls := "Datalogmill$Model", name := "firstOf", desc := "(I)I" } : MethodName) ∈ GW := inGW (List.mem_of_getElem? (i := 665) (by rfl)) (by decide +kernel)
theorem lkX5_36 : LK "Datalogmill$Model" 36 yX5_firstOf := Or.inl mw665
set_option maxRecDepth 20000 in
theorem mt737 : Cond.methodLinkNest "Datalogmill$Walk" (75 : Nat) ({ cls := "Datalogmill$Body", name := "formOf", desc := "(I)I" } : MethodName) "Datalogmill" ∈ lw_tbl := List.mem_of_getElem? (i := 737) (by rfl)
theorem lkX9_75 : LK "Datalogmill$Walk" 75 yX0_formOf := Or.inr ⟨_, mt737⟩
set_option maxRecDepth 20000 in
theorem mw710 : Cond.code yX0_formOf cX0_formOf 2 (some .int) ∈ GW := inGW (List.mem_of_getElem? (i := 710) (by rfl)) (by decide +kernel)
theorem ml_Bo_formOf : ML yX0_formOf cX0_formOf 2 (some .int) 1 := ⟨mw710, mw116, by decide +kernel, by decide +kernel, by decide +kernel⟩
set_option maxRecDepth 20000 in
theorem mw709 : Cond.instanceMethod ({ cls := "Datalogmill$Body", name := "formOf", desc := "(I)I" } : MethodName) ∈ GW := inGW (List.mem_of_getElem? (i := 709) (by rfl)) (by decide +kernel)
set_option maxRecDepth 20000 in
theorem mw28 : Cond.selects RX0 yX0_formOf yX0_formOf ∈ GW := inGW (List.mem_of_getElem? (i := 28) (by rfl)) (by decide +kernel)
theorem vl_Bo_formOf : VL yX0_formOf := ⟨mw709, mw28⟩
set_option maxRecDepth 20000 in
theorem mw802 : Cond.methodLink "Datalogmill$Walk" 133 Lib.Math.min.name ∈ GW := inGW (List.mem_of_getElem? (i := 802) (by rfl)) (by decide +kernel)
set_option maxRecDepth 20000 in
theorem mw690 : Cond.static Lib.Math.min.name ∈ GW := inGW (List.mem_of_getElem? (i := 690) (by rfl)) (by decide +kernel)
set_option maxRecDepth 20000 in
theorem mw691 : Cond.code Lib.Math.min.name Lib.Math.min.code 2 (some .int) ∈ GW := inGW (List.mem_of_getElem? (i := 691) (by rfl)) (by decide +kernel)
set_option maxRecDepth 20000 in
theorem mw799 : Cond.methodLink "Datalogmill$Walk" (130 : Nat) ({ cls := "Datalogmill$Walk", name := "isSo", desc := "(III)Z" } : MethodName) ∈ GW := inGW (List.mem_of_getElem? (i := 799) (by rfl)) (by decide +kernel)
theorem lkX9_130 : LK "Datalogmill$Walk" 130 yX9_isSo := Or.inl mw799
set_option maxRecDepth 20000 in
theorem mw801 : Cond.code yX9_isSo cX9_isSo 3 (some .boolean) ∈ GW := inGW (List.mem_of_getElem? (i := 801) (by rfl)) (by decide +kernel)
theorem ml_Wa_isSo : ML yX9_isSo cX9_isSo 3 (some .boolean) 3 := ⟨mw801, mw118, by decide +kernel, by decide +kernel, by decide +kernel⟩
set_option maxRecDepth 20000 in
theorem mw800 : Cond.static ({ cls := "Datalogmill$Walk", name := "isSo", desc := "(III)Z" } : MethodName) ∈ GW := inGW (List.mem_of_getElem? (i := 800) (by rfl)) (by decide +kernel)
set_option maxRecDepth 20000 in
theorem mw792 : Cond.methodLink "Datalogmill$Walk" (124 : Nat) ({ cls := "Datalogmill$Walk", name := "tuple", desc := "(I)I" } : MethodName) ∈ GW := inGW (List.mem_of_getElem? (i := 792) (by rfl)) (by decide +kernel)
theorem lkX9_124 : LK "Datalogmill$Walk" 124 yX9_tuple := Or.inl mw792
set_option maxRecDepth 20000 in
theorem mw795 : Cond.code yX9_tuple cX9_tuple 2 (some .int) ∈ GW := inGW (List.mem_of_getElem? (i := 795) (by rfl)) (by decide +kernel)
theorem ml_Wa_tuple : ML yX9_tuple cX9_tuple 2 (some .int) 1 := ⟨mw795, mw118, by decide +kernel, by decide +kernel, by decide +kernel⟩
set_option maxRecDepth 20000 in
theorem mw794 : Cond.instanceMethod ({ cls := "Datalogmill$Walk", name := "tuple", desc := "(I)I" } : MethodName) ∈ GW := inGW (List.mem_of_getElem? (i := 794) (by rfl)) (by decide +kernel)
set_option maxRecDepth 20000 in
theorem mw46 : Cond.selects RX9 yX9_tuple yX9_tuple ∈ GW := inGW (List.mem_of_getElem? (i := 46) (by rfl)) (by decide +kernel)
theorem vl_Wa_tuple : VL yX9_tuple := ⟨mw794, mw46⟩
set_option maxRecDepth 20000 in
theorem mt798 : Cond.methodLinkNest "Datalogmill$Walk" (127 : Nat) ({ cls := "Datalogmill$Model", name := "slotLike", desc := "(II)I" } : MethodName) "Datalogmill" ∈ lw_tbl := List.mem_of_getElem? (i := 798) (by rfl)
theorem lkX9_127 : LK "Datalogmill$Walk" 127 yX5_slotLike := Or.inr ⟨_, mt798⟩
set_option maxRecDepth 20000 in
theorem mw660 : Cond.code yX5_slotLike cX5_slotLike 7 (some .int) ∈ GW := inGW (List.mem_of_getElem? (i := 660) (by rfl)) (by decide +kernel)
theorem ml_Mo_slotLike : ML yX5_slotLike cX5_slotLike 7 (some .int) 2 := ⟨mw660, mw117, by decide +kernel, by decide +kernel, by decide +kernel⟩
set_option maxRecDepth 20000 in
theorem mw659 : Cond.instanceMethod ({ cls := "Datalogmill$Model", name := "slotLike", desc := "(II)I" } : MethodName) ∈ GW := inGW (List.mem_of_getElem? (i := 659) (by rfl)) (by decide +kernel)
set_option maxRecDepth 20000 in
theorem mw17 : Cond.selects RX5 yX5_slotLike yX5_slotLike ∈ GW := inGW (List.mem_of_getElem? (i := 17) (by rfl)) (by decide +kernel)
theorem vl_Mo_slotLike : VL yX5_slotLike := ⟨mw659, mw17⟩
set_option maxRecDepth 20000 in
theorem mw788 : Cond.methodLink "Datalogmill$Walk" (121 : Nat) ({ cls := "Datalogmill$Walk", name := "boundAt", desc := "(I)I" } : MethodName) ∈ GW := inGW (List.mem_of_getElem? (i := 788) (by rfl)) (by decide +kernel)
theorem lkX9_121 : LK "Datalogmill$Walk" 121 yX9_boundAt := Or.inl mw788
set_option maxRecDepth 20000 in
theorem mw791 : Cond.code yX9_boundAt cX9_boundAt 2 (some .int) ∈ GW := inGW (List.mem_of_getElem? (i := 791) (by rfl)) (by decide +kernel)
theorem ml_Wa_boundAt : ML yX9_boundAt cX9_boundAt 2 (some .int) 1 := ⟨mw791, mw118, by decide +kernel, by decide +kernel, by decide +kernel⟩
set_option maxRecDepth 20000 in
theorem mw790 : Cond.instanceMethod ({ cls := "Datalogmill$Walk", name := "boundAt", desc := "(I)I" } : MethodName) ∈ GW := inGW (List.mem_of_getElem? (i := 790) (by rfl)) (by decide +kernel)
set_option maxRecDepth 20000 in
theorem mw45 : Cond.selects RX9 yX9_boundAt yX9_boundAt ∈ GW := inGW (List.mem_of_getElem? (i := 45) (by rfl)) (by decide +kernel)
theorem vl_Wa_boundAt : VL yX9_boundAt := ⟨mw790, mw45⟩
theorem flX9_37 : FL RX9 37 TA 10 4 := ⟨RX9, TX9, 11, rfl, ⟨by decide, by decide, by decide⟩, inWX9, Or.inl mw308⟩
theorem flX9_40 : FL RX9 40 TA 10 3 := ⟨RX9, TX9, 11, rfl, ⟨by decide, by decide, by decide⟩, inWX9, Or.inl mw307⟩
set_option maxRecDepth 20000 in
theorem mw732 : Cond.constant "Datalogmill$Walk" (71 : Nat) (10000000 : Int32) ∈ GW := inGW (List.mem_of_getElem? (i := 732) (by rfl)) (by decide +kernel)
theorem kcX9_71 : Cond.constant RX9 71 (ii (10000000)) ∈ GW := by
  rw [show ii (10000000) = (10000000 : Int32) by decide]
  exact mw732
theorem rl10000000 : R32 (10000000) := ⟨by decide, by decide⟩
set_option maxRecDepth 20000 in
theorem mw733 : Cond.methodLink "Datalogmill$Walk" (72 : Nat) ({ cls := "Datalogmill$Walk", name := "placeAt", desc := "(I)I" } : MethodName) ∈ GW := inGW (List.mem_of_getElem? (i := 733) (by rfl)) (by decide +kernel)
theorem lkX9_72 : LK "Datalogmill$Walk" 72 yX9_placeAt := Or.inl mw733
set_option maxRecDepth 20000 in
theorem mw736 : Cond.code yX9_placeAt cX9_placeAt 2 (some .int) ∈ GW := inGW (List.mem_of_getElem? (i := 736) (by rfl)) (by decide +kernel)
theorem ml_Wa_placeAt : ML yX9_placeAt cX9_placeAt 2 (some .int) 1 := ⟨mw736, mw118, by decide +kernel, by decide +kernel, by decide +kernel⟩
set_option maxRecDepth 20000 in
theorem mw735 : Cond.instanceMethod ({ cls := "Datalogmill$Walk", name := "placeAt", desc := "(I)I" } : MethodName) ∈ GW := inGW (List.mem_of_getElem? (i := 735) (by rfl)) (by decide +kernel)
set_option maxRecDepth 20000 in
theorem mw34 : Cond.selects RX9 yX9_placeAt yX9_placeAt ∈ GW := inGW (List.mem_of_getElem? (i := 34) (by rfl)) (by decide +kernel)
theorem vl_Wa_placeAt : VL yX9_placeAt := ⟨mw735, mw34⟩
set_option maxRecDepth 20000 in
theorem mw784 : Cond.methodLink "Datalogmill$Walk" (82 : Nat) ({ cls := "Datalogmill$Walk", name := "passes", desc := "(I)Z" } : MethodName) ∈ GW := inGW (List.mem_of_getElem? (i := 784) (by rfl)) (by decide +kernel)
theorem lkX9_82 : LK "Datalogmill$Walk" 82 yX9_passes := Or.inl mw784
set_option maxRecDepth 20000 in
theorem mw787 : Cond.code yX9_passes cX9_passes 7 (some .boolean) ∈ GW := inGW (List.mem_of_getElem? (i := 787) (by rfl)) (by decide +kernel)
theorem ml_Wa_passes : ML yX9_passes cX9_passes 7 (some .boolean) 1 := ⟨mw787, mw118, by decide +kernel, by decide +kernel, by decide +kernel⟩
set_option maxRecDepth 20000 in
theorem mw786 : Cond.instanceMethod ({ cls := "Datalogmill$Walk", name := "passes", desc := "(I)Z" } : MethodName) ∈ GW := inGW (List.mem_of_getElem? (i := 786) (by rfl)) (by decide +kernel)
set_option maxRecDepth 20000 in
theorem mw44 : Cond.selects RX9 yX9_passes yX9_passes ∈ GW := inGW (List.mem_of_getElem? (i := 44) (by rfl)) (by decide +kernel)
theorem vl_Wa_passes : VL yX9_passes := ⟨mw786, mw44⟩
set_option maxRecDepth 20000 in
theorem mw738 : Cond.methodLink "Datalogmill$Walk" (78 : Nat) ({ cls := "Datalogmill$Walk", name := "takesTuple", desc := "(I)Z" } : MethodName) ∈ GW := inGW (List.mem_of_getElem? (i := 738) (by rfl)) (by decide +kernel)
theorem lkX9_78 : LK "Datalogmill$Walk" 78 yX9_takesTuple := Or.inl mw738
set_option maxRecDepth 20000 in
theorem mw741 : Cond.code yX9_takesTuple cX9_takesTuple 6 (some .boolean) ∈ GW := inGW (List.mem_of_getElem? (i := 741) (by rfl)) (by decide +kernel)
theorem ml_Wa_takesTuple : ML yX9_takesTuple cX9_takesTuple 6 (some .boolean) 1 := ⟨mw741, mw118, by decide +kernel, by decide +kernel, by decide +kernel⟩
set_option maxRecDepth 20000 in
theorem mw740 : Cond.instanceMethod ({ cls := "Datalogmill$Walk", name := "takesTuple", desc := "(I)Z" } : MethodName) ∈ GW := inGW (List.mem_of_getElem? (i := 740) (by rfl)) (by decide +kernel)
set_option maxRecDepth 20000 in
theorem mw35 : Cond.selects RX9 yX9_takesTuple yX9_takesTuple ∈ GW := inGW (List.mem_of_getElem? (i := 35) (by rfl)) (by decide +kernel)
theorem vl_Wa_takesTuple : VL yX9_takesTuple := ⟨mw740, mw35⟩
theorem flX8_15 : FL RX8 15 TA 9 1 := ⟨RX8, TX8, 4, rfl, ⟨by decide, by decide, by decide⟩, inWX8, Or.inl mw146⟩
theorem flX8_18 : FL RX8 18 TA 9 2 := ⟨RX8, TX8, 4, rfl, ⟨by decide, by decide, by decide⟩, inWX8, Or.inl mw147⟩
set_option maxRecDepth 20000 in
theorem mw1089 : Cond.methodLink "Datalogmill$Schema" (31 : Nat) ({ cls := "Datalogmill$Schema", name := "kindOf", desc := "(I)I" } : MethodName) ∈ GW := inGW (List.mem_of_getElem? (i := 1089) (by rfl)) (by decide +kernel)
theorem lkX8_31 : LK "Datalogmill$Schema" 31 yX8_kindOf := Or.inl mw1089
set_option maxRecDepth 20000 in
theorem mw688 : Cond.code yX8_kindOf cX8_kindOf 2 (some .int) ∈ GW := inGW (List.mem_of_getElem? (i := 688) (by rfl)) (by decide +kernel)
theorem ml_Sc_kindOf : ML yX8_kindOf cX8_kindOf 2 (some .int) 1 := ⟨mw688, mw113, by decide +kernel, by decide +kernel, by decide +kernel⟩
set_option maxRecDepth 20000 in
theorem mw687 : Cond.instanceMethod ({ cls := "Datalogmill$Schema", name := "kindOf", desc := "(I)I" } : MethodName) ∈ GW := inGW (List.mem_of_getElem? (i := 687) (by rfl)) (by decide +kernel)
set_option maxRecDepth 20000 in
theorem mw24 : Cond.selects RX8 yX8_kindOf yX8_kindOf ∈ GW := inGW (List.mem_of_getElem? (i := 24) (by rfl)) (by decide +kernel)
theorem vl_Sc_kindOf : VL yX8_kindOf := ⟨mw687, mw24⟩
set_option maxRecDepth 20000 in
theorem mw1090 : Cond.methodLink "Datalogmill$Schema" (34 : Nat) ({ cls := "Datalogmill$Schema", name := "keyOf", desc := "(I)I" } : MethodName) ∈ GW := inGW (List.mem_of_getElem? (i := 1090) (by rfl)) (by decide +kernel)
theorem lkX8_34 : LK "Datalogmill$Schema" 34 yX8_keyOf := Or.inl mw1090
set_option maxRecDepth 20000 in
theorem mw1093 : Cond.code yX8_keyOf cX8_keyOf 2 (some .int) ∈ GW := inGW (List.mem_of_getElem? (i := 1093) (by rfl)) (by decide +kernel)
theorem ml_Sc_keyOf : ML yX8_keyOf cX8_keyOf 2 (some .int) 1 := ⟨mw1093, mw113, by decide +kernel, by decide +kernel, by decide +kernel⟩
set_option maxRecDepth 20000 in
theorem mw1092 : Cond.instanceMethod ({ cls := "Datalogmill$Schema", name := "keyOf", desc := "(I)I" } : MethodName) ∈ GW := inGW (List.mem_of_getElem? (i := 1092) (by rfl)) (by decide +kernel)
set_option maxRecDepth 20000 in
theorem mw82 : Cond.selects RX8 yX8_keyOf yX8_keyOf ∈ GW := inGW (List.mem_of_getElem? (i := 82) (by rfl)) (by decide +kernel)
theorem vl_Sc_keyOf : VL yX8_keyOf := ⟨mw1092, mw82⟩
set_option maxRecDepth 20000 in
theorem mw542 : Cond.methodLink "Datalogmill$Schema" (28 : Nat) ({ cls := "Datalogmill$Schema", name := "columnsOf", desc := "(I)I" } : MethodName) ∈ GW := inGW (List.mem_of_getElem? (i := 542) (by rfl)) (by decide +kernel)
theorem lkX8_28 : LK "Datalogmill$Schema" 28 yX8_columnsOf := Or.inl mw542
set_option maxRecDepth 20000 in
theorem mw1035 : Cond.methodLink "Datalogmill$Model" (40 : Nat) ({ cls := "Datalogmill$Model", name := "nextOf", desc := "(I)I" } : MethodName) ∈ GW := inGW (List.mem_of_getElem? (i := 1035) (by rfl)) (by decide +kernel)
theorem lkX5_40 : LK "Datalogmill$Model" 40 yX5_nextOf := Or.inl mw1035
set_option maxRecDepth 20000 in
theorem mw677 : Cond.methodLink "Datalogmill$Model" (52 : Nat) ({ cls := "Datalogmill$Model", name := "codeOf", desc := "(I)I" } : MethodName) ∈ GW := inGW (List.mem_of_getElem? (i := 677) (by rfl)) (by decide +kernel)
theorem lkX5_52 : LK "Datalogmill$Model" 52 yX5_codeOf := Or.inl mw677
set_option maxRecDepth 20000 in
theorem mt1319 : Cond.methodLinkNest "Datalogmill$Model" (77 : Nat) ({ cls := "Datalogmill$Schema", name := "keyOf", desc := "(I)I" } : MethodName) "Datalogmill" ∈ lw_tbl := List.mem_of_getElem? (i := 1319) (by rfl)
theorem lkX5_77 : LK "Datalogmill$Model" 77 yX8_keyOf := Or.inr ⟨_, mt1319⟩
set_option maxRecDepth 20000 in
theorem mt1320 : Cond.methodLinkNest "Datalogmill$Model" (80 : Nat) ({ cls := "Datalogmill", name := "shiftOf", desc := "(I)I" } : MethodName) "Datalogmill" ∈ lw_tbl := List.mem_of_getElem? (i := 1320) (by rfl)
theorem lkX5_80 : LK "Datalogmill$Model" 80 yX10_shiftOf := Or.inr ⟨_, mt1320⟩
set_option maxRecDepth 20000 in
theorem mw568 : Cond.code yX10_shiftOf cX10_shiftOf 1 (some .int) ∈ GW := inGW (List.mem_of_getElem? (i := 568) (by rfl)) (by decide +kernel)
theorem ml_Dm_shiftOf : ML yX10_shiftOf cX10_shiftOf 1 (some .int) 1 := ⟨mw568, mw112, by decide +kernel, by decide +kernel, by decide +kernel⟩
set_option maxRecDepth 20000 in
theorem mw567 : Cond.static ({ cls := "Datalogmill", name := "shiftOf", desc := "(I)I" } : MethodName) ∈ GW := inGW (List.mem_of_getElem? (i := 567) (by rfl)) (by decide +kernel)
theorem flX10_31 : FL RX10 31 TA 11 0 := ⟨RX10, TX10, 13, rfl, ⟨by decide, by decide, by decide⟩, inWX10, Or.inl mw401⟩
set_option maxRecDepth 20000 in
theorem mt1238 : Cond.methodLinkNest "Datalogmill" (425 : Nat) ({ cls := "Datalogmill$Schema", name := "hasOpenKey", desc := "(I)Z" } : MethodName) "Datalogmill" ∈ lw_tbl := List.mem_of_getElem? (i := 1238) (by rfl)
theorem lkX10_425 : LK "Datalogmill" 425 yX8_hasOpenKey := Or.inr ⟨_, mt1238⟩
set_option maxRecDepth 20000 in
theorem mw1241 : Cond.code yX8_hasOpenKey cX8_hasOpenKey 2 (some .boolean) ∈ GW := inGW (List.mem_of_getElem? (i := 1241) (by rfl)) (by decide +kernel)
theorem ml_Sc_hasOpenKey : ML yX8_hasOpenKey cX8_hasOpenKey 2 (some .boolean) 1 := ⟨mw1241, mw113, by decide +kernel, by decide +kernel, by decide +kernel⟩
set_option maxRecDepth 20000 in
theorem mw1240 : Cond.instanceMethod ({ cls := "Datalogmill$Schema", name := "hasOpenKey", desc := "(I)Z" } : MethodName) ∈ GW := inGW (List.mem_of_getElem? (i := 1240) (by rfl)) (by decide +kernel)
set_option maxRecDepth 20000 in
theorem mw102 : Cond.selects RX8 yX8_hasOpenKey yX8_hasOpenKey ∈ GW := inGW (List.mem_of_getElem? (i := 102) (by rfl)) (by decide +kernel)
theorem vl_Sc_hasOpenKey : VL yX8_hasOpenKey := ⟨mw1240, mw102⟩
set_option maxRecDepth 20000 in
theorem mt1315 : Cond.methodLinkNest "Datalogmill" (428 : Nat) ({ cls := "Datalogmill$Model", name := "breaksKey", desc := "(I)Z" } : MethodName) "Datalogmill" ∈ lw_tbl := List.mem_of_getElem? (i := 1315) (by rfl)
theorem lkX10_428 : LK "Datalogmill" 428 yX5_breaksKey := Or.inr ⟨_, mt1315⟩
set_option maxRecDepth 20000 in
theorem mw1318 : Cond.code yX5_breaksKey cX5_breaksKey 7 (some .boolean) ∈ GW := inGW (List.mem_of_getElem? (i := 1318) (by rfl)) (by decide +kernel)
theorem ml_Mo_breaksKey : ML yX5_breaksKey cX5_breaksKey 7 (some .boolean) 1 := ⟨mw1318, mw117, by decide +kernel, by decide +kernel, by decide +kernel⟩
set_option maxRecDepth 20000 in
theorem mw1317 : Cond.instanceMethod ({ cls := "Datalogmill$Model", name := "breaksKey", desc := "(I)Z" } : MethodName) ∈ GW := inGW (List.mem_of_getElem? (i := 1317) (by rfl)) (by decide +kernel)
set_option maxRecDepth 20000 in
theorem mw109 : Cond.selects RX5 yX5_breaksKey yX5_breaksKey ∈ GW := inGW (List.mem_of_getElem? (i := 109) (by rfl)) (by decide +kernel)
theorem vl_Mo_breaksKey : VL yX5_breaksKey := ⟨mw1317, mw109⟩
theorem flX10_39 : FL RX10 39 TA 11 2 := ⟨RX10, TX10, 13, rfl, ⟨by decide, by decide, by decide⟩, inWX10, Or.inl mw403⟩
set_option maxRecDepth 20000 in
theorem mt245 : Cond.fieldLinkNest "Datalogmill" (236 : Nat) "Datalogmill$Program" "denialCount" "I" "Datalogmill" ∈ lw_tbl := List.mem_of_getElem? (i := 245) (by rfl)
theorem flX10_236 : FL RX10 236 TA 8 5 := ⟨RX7, TX7, 8, rfl, ⟨by decide, by decide, by decide⟩, inWX7, Or.inr ⟨_, mt245⟩⟩
set_option maxRecDepth 20000 in
theorem mt1314 : Cond.methodLinkNest "Datalogmill" (422 : Nat) ({ cls := "Datalogmill$Program", name := "denial", desc := "(I)LDatalogmill$Body;" } : MethodName) "Datalogmill" ∈ lw_tbl := List.mem_of_getElem? (i := 1314) (by rfl)
theorem lkX10_422 : LK "Datalogmill" 422 yX7_denial := Or.inr ⟨_, mt1314⟩
set_option maxRecDepth 20000 in
theorem mw969 : Cond.code yX7_denial cX7_denial 3 (some (.object "Datalogmill$Body")) ∈ GW := inGW (List.mem_of_getElem? (i := 969) (by rfl)) (by decide +kernel)
theorem ml_Pr_denial : ML yX7_denial cX7_denial 3 (some (.object "Datalogmill$Body")) 1 := ⟨mw969, mw115, by decide +kernel, by decide +kernel, by decide +kernel⟩
set_option maxRecDepth 20000 in
theorem mw968 : Cond.instanceMethod ({ cls := "Datalogmill$Program", name := "denial", desc := "(I)LDatalogmill$Body;" } : MethodName) ∈ GW := inGW (List.mem_of_getElem? (i := 968) (by rfl)) (by decide +kernel)
set_option maxRecDepth 20000 in
theorem mw69 : Cond.selects RX7 yX7_denial yX7_denial ∈ GW := inGW (List.mem_of_getElem? (i := 69) (by rfl)) (by decide +kernel)
theorem vl_Pr_denial : VL yX7_denial := ⟨mw968, mw69⟩
theorem flX10_51 : FL RX10 51 TA 11 7 := ⟨RX10, TX10, 13, rfl, ⟨by decide, by decide, by decide⟩, inWX10, Or.inl mw408⟩
set_option maxRecDepth 20000 in
theorem mt1080 : Cond.methodLinkNest "Datalogmill" (395 : Nat) ({ cls := "Datalogmill$Walk", name := "begin", desc := "(LDatalogmill$Body;LDatalogmill$Model;I)V" } : MethodName) "Datalogmill" ∈ lw_tbl := List.mem_of_getElem? (i := 1080) (by rfl)
theorem lkX10_395 : LK "Datalogmill" 395 yX9_begin := Or.inr ⟨_, mt1080⟩
set_option maxRecDepth 20000 in
theorem mw718 : Cond.code yX9_begin cX9_begin 4 none ∈ GW := inGW (List.mem_of_getElem? (i := 718) (by rfl)) (by decide +kernel)
theorem ml_Wa_begin : ML yX9_begin cX9_begin 4 none 3 := ⟨mw718, mw118, by decide +kernel, by decide +kernel, by decide +kernel⟩
set_option maxRecDepth 20000 in
theorem mw717 : Cond.instanceMethod ({ cls := "Datalogmill$Walk", name := "begin", desc := "(LDatalogmill$Body;LDatalogmill$Model;I)V" } : MethodName) ∈ GW := inGW (List.mem_of_getElem? (i := 717) (by rfl)) (by decide +kernel)
set_option maxRecDepth 20000 in
theorem mw30 : Cond.selects RX9 yX9_begin yX9_begin ∈ GW := inGW (List.mem_of_getElem? (i := 30) (by rfl)) (by decide +kernel)
theorem vl_Wa_begin : VL yX9_begin := ⟨mw717, mw30⟩
set_option maxRecDepth 20000 in
theorem mt1099 : Cond.methodLinkNest "Datalogmill" (392 : Nat) ({ cls := "Datalogmill$Walk", name := "next", desc := "()Z" } : MethodName) "Datalogmill" ∈ lw_tbl := List.mem_of_getElem? (i := 1099) (by rfl)
theorem lkX10_392 : LK "Datalogmill" 392 yX9_next := Or.inr ⟨_, mt1099⟩
set_option maxRecDepth 20000 in
theorem mw731 : Cond.code yX9_next cX9_next 4 (some .boolean) ∈ GW := inGW (List.mem_of_getElem? (i := 731) (by rfl)) (by decide +kernel)
theorem ml_Wa_next : ML yX9_next cX9_next 4 (some .boolean) 0 := ⟨mw731, mw118, by decide +kernel, by decide +kernel, by decide +kernel⟩
set_option maxRecDepth 20000 in
theorem mw730 : Cond.instanceMethod ({ cls := "Datalogmill$Walk", name := "next", desc := "()Z" } : MethodName) ∈ GW := inGW (List.mem_of_getElem? (i := 730) (by rfl)) (by decide +kernel)
set_option maxRecDepth 20000 in
theorem mw33 : Cond.selects RX9 yX9_next yX9_next ∈ GW := inGW (List.mem_of_getElem? (i := 33) (by rfl)) (by decide +kernel)
theorem vl_Wa_next : VL yX9_next := ⟨mw730, mw33⟩
set_option maxRecDepth 20000 in
theorem mw997 : Cond.methodLink "Datalogmill" (261 : Nat) ({ cls := "Datalogmill", name := "present", desc := "()LDatalogmill$Model;" } : MethodName) ∈ GW := inGW (List.mem_of_getElem? (i := 997) (by rfl)) (by decide +kernel)
theorem lkX10_261 : LK "Datalogmill" 261 yX10_present := Or.inl mw997
set_option maxRecDepth 20000 in
theorem mw1000 : Cond.code yX10_present cX10_present 1 (some (.object "Datalogmill$Model")) ∈ GW := inGW (List.mem_of_getElem? (i := 1000) (by rfl)) (by decide +kernel)
theorem ml_Dm_present : ML yX10_present cX10_present 1 (some (.object "Datalogmill$Model")) 0 := ⟨mw1000, mw112, by decide +kernel, by decide +kernel, by decide +kernel⟩
set_option maxRecDepth 20000 in
theorem mw999 : Cond.instanceMethod ({ cls := "Datalogmill", name := "present", desc := "()LDatalogmill$Model;" } : MethodName) ∈ GW := inGW (List.mem_of_getElem? (i := 999) (by rfl)) (by decide +kernel)
set_option maxRecDepth 20000 in
theorem mw72 : Cond.selects RX10 yX10_present yX10_present ∈ GW := inGW (List.mem_of_getElem? (i := 72) (by rfl)) (by decide +kernel)
theorem vl_Dm_present : VL yX10_present := ⟨mw999, mw72⟩
set_option maxRecDepth 20000 in
theorem mw1310 : Cond.methodLink "Datalogmill" (323 : Nat) ({ cls := "Datalogmill", name := "brokenIn", desc := "(LDatalogmill$Model;)I" } : MethodName) ∈ GW := inGW (List.mem_of_getElem? (i := 1310) (by rfl)) (by decide +kernel)
theorem lkX10_323 : LK "Datalogmill" 323 yX10_brokenIn := Or.inl mw1310
set_option maxRecDepth 20000 in
theorem mw1313 : Cond.code yX10_brokenIn cX10_brokenIn 5 (some .int) ∈ GW := inGW (List.mem_of_getElem? (i := 1313) (by rfl)) (by decide +kernel)
theorem ml_Dm_brokenIn : ML yX10_brokenIn cX10_brokenIn 5 (some .int) 1 := ⟨mw1313, mw112, by decide +kernel, by decide +kernel, by decide +kernel⟩
set_option maxRecDepth 20000 in
theorem mw1312 : Cond.instanceMethod ({ cls := "Datalogmill", name := "brokenIn", desc := "(LDatalogmill$Model;)I" } : MethodName) ∈ GW := inGW (List.mem_of_getElem? (i := 1312) (by rfl)) (by decide +kernel)
set_option maxRecDepth 20000 in
theorem mw108 : Cond.selects RX10 yX10_brokenIn yX10_brokenIn ∈ GW := inGW (List.mem_of_getElem? (i := 108) (by rfl)) (by decide +kernel)
theorem vl_Dm_brokenIn : VL yX10_brokenIn := ⟨mw1312, mw108⟩
set_option maxRecDepth 20000 in
theorem mw165 : Cond.fieldLink "Datalogmill$Facts" (31 : Nat) "Datalogmill$Facts" "count" "I" ∈ GW := inGW (List.mem_of_getElem? (i := 165) (by rfl)) (by decide +kernel)
theorem flX2_31 : FL RX2 31 TA 3 0 := ⟨RX2, TX2, 8, rfl, ⟨by decide, by decide, by decide⟩, inWX2, Or.inl mw165⟩
set_option maxRecDepth 20000 in
theorem mw637 : Cond.methodLink "Datalogmill$Facts" (38 : Nat) ({ cls := "Datalogmill$Facts", name := "isFact", desc := "(I)Z" } : MethodName) ∈ GW := inGW (List.mem_of_getElem? (i := 637) (by rfl)) (by decide +kernel)
theorem lkX2_38 : LK "Datalogmill$Facts" 38 yX2_isFact := Or.inl mw637
set_option maxRecDepth 20000 in
theorem mw640 : Cond.code yX2_isFact cX2_isFact 2 (some .boolean) ∈ GW := inGW (List.mem_of_getElem? (i := 640) (by rfl)) (by decide +kernel)
theorem ml_Fa_isFact : ML yX2_isFact cX2_isFact 2 (some .boolean) 1 := ⟨mw640, mw114, by decide +kernel, by decide +kernel, by decide +kernel⟩
set_option maxRecDepth 20000 in
theorem mw639 : Cond.instanceMethod ({ cls := "Datalogmill$Facts", name := "isFact", desc := "(I)Z" } : MethodName) ∈ GW := inGW (List.mem_of_getElem? (i := 639) (by rfl)) (by decide +kernel)
set_option maxRecDepth 20000 in
theorem mw12 : Cond.selects RX2 yX2_isFact yX2_isFact ∈ GW := inGW (List.mem_of_getElem? (i := 12) (by rfl)) (by decide +kernel)
theorem vl_Fa_isFact : VL yX2_isFact := ⟨mw639, mw12⟩
theorem flX2_27 : FL RX2 27 TA 3 7 := ⟨RX2, TX2, 8, rfl, ⟨by decide, by decide, by decide⟩, inWX2, Or.inl mw175⟩
theorem flX2_21 : FL RX2 21 TA 3 5 := ⟨RX2, TX2, 8, rfl, ⟨by decide, by decide, by decide⟩, inWX2, Or.inl mw173⟩
theorem flX2_24 : FL RX2 24 TA 3 6 := ⟨RX2, TX2, 8, rfl, ⟨by decide, by decide, by decide⟩, inWX2, Or.inl mw174⟩
set_option maxRecDepth 20000 in
theorem mw275 : Cond.fieldLink "Datalogmill$Model" (28 : Nat) "Datalogmill$Model" "count" "I" ∈ GW := inGW (List.mem_of_getElem? (i := 275) (by rfl)) (by decide +kernel)
theorem fpX5_28 : FP RX5 28 TA 6 1 .int := ⟨RX5, TX5, 7, rfl, ⟨by decide, by decide, by decide⟩, inWX5, Or.inl mw275, ⟨tyX5, tyX5_ok, rfl⟩, nmX5, rfl⟩
set_option maxRecDepth 20000 in
theorem mw276 : Cond.fieldLink "Datalogmill$Model" (32 : Nat) "Datalogmill$Model" "over" "Z" ∈ GW := inGW (List.mem_of_getElem? (i := 276) (by rfl)) (by decide +kernel)
theorem fpX5_32 : FP RX5 32 TA 6 2 .boolean := ⟨RX5, TX5, 7, rfl, ⟨by decide, by decide, by decide⟩, inWX5, Or.inl mw276, ⟨tyX5, tyX5_ok, rfl⟩, nmX5, rfl⟩
theorem flX2_9 : FL RX2 9 TA 3 2 := ⟨RX2, TX2, 8, rfl, ⟨by decide, by decide, by decide⟩, inWX2, Or.inl mw170⟩
theorem flX7_25 : FL RX7 25 TA 8 6 := ⟨RX7, TX7, 8, rfl, ⟨by decide, by decide, by decide⟩, inWX7, Or.inl mw246⟩
theorem flX2_15 : FL RX2 15 TA 3 3 := ⟨RX2, TX2, 8, rfl, ⟨by decide, by decide, by decide⟩, inWX2, Or.inl mw171⟩
theorem flX5_28 : FL RX5 28 TA 6 1 := ⟨RX5, TX5, 7, rfl, ⟨by decide, by decide, by decide⟩, inWX5, Or.inl mw275⟩
set_option maxRecDepth 20000 in
theorem mw673 : Cond.methodLink "Datalogmill$Model" (63 : Nat) ({ cls := "Datalogmill$Model", name := "slotBelow", desc := "(II)I" } : MethodName) ∈ GW := inGW (List.mem_of_getElem? (i := 673) (by rfl)) (by decide +kernel)
theorem lkX5_63 : LK "Datalogmill$Model" 63 yX5_slotBelow := Or.inl mw673
set_option maxRecDepth 20000 in
theorem mw676 : Cond.code yX5_slotBelow cX5_slotBelow 8 (some .int) ∈ GW := inGW (List.mem_of_getElem? (i := 676) (by rfl)) (by decide +kernel)
theorem ml_Mo_slotBelow : ML yX5_slotBelow cX5_slotBelow 8 (some .int) 2 := ⟨mw676, mw117, by decide +kernel, by decide +kernel, by decide +kernel⟩
set_option maxRecDepth 20000 in
theorem mw675 : Cond.instanceMethod ({ cls := "Datalogmill$Model", name := "slotBelow", desc := "(II)I" } : MethodName) ∈ GW := inGW (List.mem_of_getElem? (i := 675) (by rfl)) (by decide +kernel)
set_option maxRecDepth 20000 in
theorem mw21 : Cond.selects RX5 yX5_slotBelow yX5_slotBelow ∈ GW := inGW (List.mem_of_getElem? (i := 21) (by rfl)) (by decide +kernel)
theorem vl_Mo_slotBelow : VL yX5_slotBelow := ⟨mw675, mw21⟩
set_option maxRecDepth 20000 in
theorem mt685 : Cond.methodLinkNest "Datalogmill$Model" (66 : Nat) ({ cls := "Datalogmill$Schema", name := "kindOf", desc := "(I)I" } : MethodName) "Datalogmill" ∈ lw_tbl := List.mem_of_getElem? (i := 685) (by rfl)
theorem lkX5_66 : LK "Datalogmill$Model" 66 yX8_kindOf := Or.inr ⟨_, mt685⟩
set_option maxRecDepth 20000 in
theorem mw692 : Cond.methodLink "Datalogmill$Model" 74 Lib.Math.max.name ∈ GW := inGW (List.mem_of_getElem? (i := 692) (by rfl)) (by decide +kernel)
set_option maxRecDepth 20000 in
theorem mw689 : Cond.methodLink "Datalogmill$Model" 69 Lib.Math.min.name ∈ GW := inGW (List.mem_of_getElem? (i := 689) (by rfl)) (by decide +kernel)
set_option maxRecDepth 20000 in
theorem mw657 : Cond.methodLink "Datalogmill$Model" (48 : Nat) ({ cls := "Datalogmill$Model", name := "slotLike", desc := "(II)I" } : MethodName) ∈ GW := inGW (List.mem_of_getElem? (i := 657) (by rfl)) (by decide +kernel)
theorem lkX5_48 : LK "Datalogmill$Model" 48 yX5_slotLike := Or.inl mw657
set_option maxRecDepth 20000 in
theorem mw681 : Cond.methodLink "Datalogmill$Model" (59 : Nat) ({ cls := "Datalogmill$Model", name := "merged", desc := "(III)I" } : MethodName) ∈ GW := inGW (List.mem_of_getElem? (i := 681) (by rfl)) (by decide +kernel)
theorem lkX5_59 : LK "Datalogmill$Model" 59 yX5_merged := Or.inl mw681
set_option maxRecDepth 20000 in
theorem mw684 : Cond.code yX5_merged cX5_merged 5 (some .int) ∈ GW := inGW (List.mem_of_getElem? (i := 684) (by rfl)) (by decide +kernel)
theorem ml_Mo_merged : ML yX5_merged cX5_merged 5 (some .int) 3 := ⟨mw684, mw117, by decide +kernel, by decide +kernel, by decide +kernel⟩
set_option maxRecDepth 20000 in
theorem mw683 : Cond.instanceMethod ({ cls := "Datalogmill$Model", name := "merged", desc := "(III)I" } : MethodName) ∈ GW := inGW (List.mem_of_getElem? (i := 683) (by rfl)) (by decide +kernel)
set_option maxRecDepth 20000 in
theorem mw23 : Cond.selects RX5 yX5_merged yX5_merged ∈ GW := inGW (List.mem_of_getElem? (i := 23) (by rfl)) (by decide +kernel)
theorem vl_Mo_merged : VL yX5_merged := ⟨mw683, mw23⟩
set_option maxRecDepth 20000 in
theorem mw669 : Cond.methodLink "Datalogmill$Model" (55 : Nat) ({ cls := "Datalogmill$Model", name := "insert", desc := "(III)Z" } : MethodName) ∈ GW := inGW (List.mem_of_getElem? (i := 669) (by rfl)) (by decide +kernel)
theorem lkX5_55 : LK "Datalogmill$Model" 55 yX5_insert := Or.inl mw669
set_option maxRecDepth 20000 in
theorem mw672 : Cond.code yX5_insert cX5_insert 6 (some .boolean) ∈ GW := inGW (List.mem_of_getElem? (i := 672) (by rfl)) (by decide +kernel)
theorem ml_Mo_insert : ML yX5_insert cX5_insert 6 (some .boolean) 3 := ⟨mw672, mw117, by decide +kernel, by decide +kernel, by decide +kernel⟩
set_option maxRecDepth 20000 in
theorem mw671 : Cond.instanceMethod ({ cls := "Datalogmill$Model", name := "insert", desc := "(III)Z" } : MethodName) ∈ GW := inGW (List.mem_of_getElem? (i := 671) (by rfl)) (by decide +kernel)
set_option maxRecDepth 20000 in
theorem mw20 : Cond.selects RX5 yX5_insert yX5_insert ∈ GW := inGW (List.mem_of_getElem? (i := 20) (by rfl)) (by decide +kernel)
theorem vl_Mo_insert : VL yX5_insert := ⟨mw671, mw20⟩
theorem flX4_9 : FL RX4 9 TA 5 0 := ⟨RX4, TX4, 3, rfl, ⟨by decide, by decide, by decide⟩, inWX4, Or.inl mw344⟩
set_option maxRecDepth 20000 in
theorem mt166 : Cond.fieldLinkNest "Datalogmill$Mill" (46 : Nat) "Datalogmill$Facts" "count" "I" "Datalogmill" ∈ lw_tbl := List.mem_of_getElem? (i := 166) (by rfl)
theorem flX4_46 : FL RX4 46 TA 3 0 := ⟨RX2, TX2, 8, rfl, ⟨by decide, by decide, by decide⟩, inWX2, Or.inr ⟨_, mt166⟩⟩
set_option maxRecDepth 20000 in
theorem mt633 : Cond.methodLinkNest "Datalogmill$Mill" (51 : Nat) ({ cls := "Datalogmill$Facts", name := "relationOf", desc := "(I)I" } : MethodName) "Datalogmill" ∈ lw_tbl := List.mem_of_getElem? (i := 633) (by rfl)
theorem lkX4_51 : LK "Datalogmill$Mill" 51 yX2_relationOf := Or.inr ⟨_, mt633⟩
set_option maxRecDepth 20000 in
theorem mw636 : Cond.code yX2_relationOf cX2_relationOf 2 (some .int) ∈ GW := inGW (List.mem_of_getElem? (i := 636) (by rfl)) (by decide +kernel)
theorem ml_Fa_relationOf : ML yX2_relationOf cX2_relationOf 2 (some .int) 1 := ⟨mw636, mw114, by decide +kernel, by decide +kernel, by decide +kernel⟩
set_option maxRecDepth 20000 in
theorem mw635 : Cond.instanceMethod ({ cls := "Datalogmill$Facts", name := "relationOf", desc := "(I)I" } : MethodName) ∈ GW := inGW (List.mem_of_getElem? (i := 635) (by rfl)) (by decide +kernel)
set_option maxRecDepth 20000 in
theorem mw11 : Cond.selects RX2 yX2_relationOf yX2_relationOf ∈ GW := inGW (List.mem_of_getElem? (i := 11) (by rfl)) (by decide +kernel)
theorem vl_Fa_relationOf : VL yX2_relationOf := ⟨mw635, mw11⟩
set_option maxRecDepth 20000 in
theorem mt641 : Cond.methodLinkNest "Datalogmill$Mill" (55 : Nat) ({ cls := "Datalogmill$Facts", name := "holdsIn", desc := "(II)Z" } : MethodName) "Datalogmill" ∈ lw_tbl := List.mem_of_getElem? (i := 641) (by rfl)
theorem lkX4_55 : LK "Datalogmill$Mill" 55 yX2_holdsIn := Or.inr ⟨_, mt641⟩
set_option maxRecDepth 20000 in
theorem mw644 : Cond.code yX2_holdsIn cX2_holdsIn 3 (some .boolean) ∈ GW := inGW (List.mem_of_getElem? (i := 644) (by rfl)) (by decide +kernel)
theorem ml_Fa_holdsIn : ML yX2_holdsIn cX2_holdsIn 3 (some .boolean) 2 := ⟨mw644, mw114, by decide +kernel, by decide +kernel, by decide +kernel⟩
set_option maxRecDepth 20000 in
theorem mw643 : Cond.instanceMethod ({ cls := "Datalogmill$Facts", name := "holdsIn", desc := "(II)Z" } : MethodName) ∈ GW := inGW (List.mem_of_getElem? (i := 643) (by rfl)) (by decide +kernel)
set_option maxRecDepth 20000 in
theorem mw13 : Cond.selects RX2 yX2_holdsIn yX2_holdsIn ∈ GW := inGW (List.mem_of_getElem? (i := 13) (by rfl)) (by decide +kernel)
theorem vl_Fa_holdsIn : VL yX2_holdsIn := ⟨mw643, mw13⟩
theorem flX4_15 : FL RX4 15 TA 5 1 := ⟨RX4, TX4, 3, rfl, ⟨by decide, by decide, by decide⟩, inWX4, Or.inl mw345⟩
set_option maxRecDepth 20000 in
theorem mt645 : Cond.methodLinkNest "Datalogmill$Mill" (59 : Nat) ({ cls := "Datalogmill$Program", name := "levelOf", desc := "(I)I" } : MethodName) "Datalogmill" ∈ lw_tbl := List.mem_of_getElem? (i := 645) (by rfl)
theorem lkX4_59 : LK "Datalogmill$Mill" 59 yX7_levelOf := Or.inr ⟨_, mt645⟩
set_option maxRecDepth 20000 in
theorem mw648 : Cond.code yX7_levelOf cX7_levelOf 2 (some .int) ∈ GW := inGW (List.mem_of_getElem? (i := 648) (by rfl)) (by decide +kernel)
theorem ml_Pr_levelOf : ML yX7_levelOf cX7_levelOf 2 (some .int) 1 := ⟨mw648, mw115, by decide +kernel, by decide +kernel, by decide +kernel⟩
set_option maxRecDepth 20000 in
theorem mw647 : Cond.instanceMethod ({ cls := "Datalogmill$Program", name := "levelOf", desc := "(I)I" } : MethodName) ∈ GW := inGW (List.mem_of_getElem? (i := 647) (by rfl)) (by decide +kernel)
set_option maxRecDepth 20000 in
theorem mw14 : Cond.selects RX7 yX7_levelOf yX7_levelOf ∈ GW := inGW (List.mem_of_getElem? (i := 14) (by rfl)) (by decide +kernel)
theorem vl_Pr_levelOf : VL yX7_levelOf := ⟨mw647, mw14⟩
set_option maxRecDepth 20000 in
theorem mt649 : Cond.methodLinkNest "Datalogmill$Mill" (62 : Nat) ({ cls := "Datalogmill$Facts", name := "codeOf", desc := "(I)I" } : MethodName) "Datalogmill" ∈ lw_tbl := List.mem_of_getElem? (i := 649) (by rfl)
theorem lkX4_62 : LK "Datalogmill$Mill" 62 yX2_codeOf := Or.inr ⟨_, mt649⟩
set_option maxRecDepth 20000 in
theorem mw652 : Cond.code yX2_codeOf cX2_codeOf 2 (some .int) ∈ GW := inGW (List.mem_of_getElem? (i := 652) (by rfl)) (by decide +kernel)
theorem ml_Fa_codeOf : ML yX2_codeOf cX2_codeOf 2 (some .int) 1 := ⟨mw652, mw114, by decide +kernel, by decide +kernel, by decide +kernel⟩
set_option maxRecDepth 20000 in
theorem mw651 : Cond.instanceMethod ({ cls := "Datalogmill$Facts", name := "codeOf", desc := "(I)I" } : MethodName) ∈ GW := inGW (List.mem_of_getElem? (i := 651) (by rfl)) (by decide +kernel)
set_option maxRecDepth 20000 in
theorem mw15 : Cond.selects RX2 yX2_codeOf yX2_codeOf ∈ GW := inGW (List.mem_of_getElem? (i := 15) (by rfl)) (by decide +kernel)
theorem vl_Fa_codeOf : VL yX2_codeOf := ⟨mw651, mw15⟩
set_option maxRecDepth 20000 in
theorem mt653 : Cond.methodLinkNest "Datalogmill$Mill" (65 : Nat) ({ cls := "Datalogmill$Model", name := "take", desc := "(III)Z" } : MethodName) "Datalogmill" ∈ lw_tbl := List.mem_of_getElem? (i := 653) (by rfl)
theorem lkX4_65 : LK "Datalogmill$Mill" 65 yX5_take := Or.inr ⟨_, mt653⟩
set_option maxRecDepth 20000 in
theorem mw656 : Cond.code yX5_take cX5_take 6 (some .boolean) ∈ GW := inGW (List.mem_of_getElem? (i := 656) (by rfl)) (by decide +kernel)
theorem ml_Mo_take : ML yX5_take cX5_take 6 (some .boolean) 3 := ⟨mw656, mw117, by decide +kernel, by decide +kernel, by decide +kernel⟩
set_option maxRecDepth 20000 in
theorem mw655 : Cond.instanceMethod ({ cls := "Datalogmill$Model", name := "take", desc := "(III)Z" } : MethodName) ∈ GW := inGW (List.mem_of_getElem? (i := 655) (by rfl)) (by decide +kernel)
set_option maxRecDepth 20000 in
theorem mw16 : Cond.selects RX5 yX5_take yX5_take ∈ GW := inGW (List.mem_of_getElem? (i := 16) (by rfl)) (by decide +kernel)
theorem vl_Mo_take : VL yX5_take := ⟨mw655, mw16⟩
set_option maxRecDepth 20000 in
theorem mt707 : Cond.methodLinkNest "Datalogmill$Mill" (107 : Nat) ({ cls := "Datalogmill$Body", name := "formOf", desc := "(I)I" } : MethodName) "Datalogmill" ∈ lw_tbl := List.mem_of_getElem? (i := 707) (by rfl)
theorem lkX4_107 : LK "Datalogmill$Mill" 107 yX0_formOf := Or.inr ⟨_, mt707⟩
set_option maxRecDepth 20000 in
theorem mt711 : Cond.methodLinkNest "Datalogmill$Mill" (110 : Nat) ({ cls := "Datalogmill$Body", name := "subjectOf", desc := "(I)I" } : MethodName) "Datalogmill" ∈ lw_tbl := List.mem_of_getElem? (i := 711) (by rfl)
theorem lkX4_110 : LK "Datalogmill$Mill" 110 yX0_subjectOf := Or.inr ⟨_, mt711⟩
theorem fpX9_51 : FP RX9 51 TA 10 7 .int := ⟨RX9, TX9, 11, rfl, ⟨by decide, by decide, by decide⟩, inWX9, Or.inl mw311, ⟨tyX9, tyX9_ok, rfl⟩, nmX9, rfl⟩
set_option maxRecDepth 20000 in
theorem mw727 : Cond.constant "Datalogmill$Mill" (99 : Nat) (10000000 : Int32) ∈ GW := inGW (List.mem_of_getElem? (i := 727) (by rfl)) (by decide +kernel)
theorem kcX4_99 : Cond.constant RX4 99 (ii (10000000)) ∈ GW := by
  rw [show ii (10000000) = (10000000 : Int32) by decide]
  exact mw727
set_option maxRecDepth 20000 in
theorem mt277 : Cond.fieldLinkNest "Datalogmill$Mill" (42 : Nat) "Datalogmill$Model" "over" "Z" "Datalogmill" ∈ lw_tbl := List.mem_of_getElem? (i := 277) (by rfl)
theorem flX4_42 : FL RX4 42 TA 6 2 := ⟨RX5, TX5, 7, rfl, ⟨by decide, by decide, by decide⟩, inWX5, Or.inr ⟨_, mt277⟩⟩
theorem flX4_19 : FL RX4 19 TA 5 2 := ⟨RX4, TX4, 3, rfl, ⟨by decide, by decide, by decide⟩, inWX4, Or.inl mw346⟩
set_option maxRecDepth 20000 in
theorem mt728 : Cond.methodLinkNest "Datalogmill$Mill" (100 : Nat) ({ cls := "Datalogmill$Walk", name := "next", desc := "()Z" } : MethodName) "Datalogmill" ∈ lw_tbl := List.mem_of_getElem? (i := 728) (by rfl)
theorem lkX4_100 : LK "Datalogmill$Mill" 100 yX9_next := Or.inr ⟨_, mt728⟩
set_option maxRecDepth 20000 in
theorem mt213 : Cond.fieldLinkNest "Datalogmill$Mill" (81 : Nat) "Datalogmill$Body" "target" "I" "Datalogmill" ∈ lw_tbl := List.mem_of_getElem? (i := 213) (by rfl)
theorem flX4_81 : FL RX4 81 TA 1 1 := ⟨RX0, TX0, 6, rfl, ⟨by decide, by decide, by decide⟩, inWX0, Or.inr ⟨_, mt213⟩⟩
set_option maxRecDepth 20000 in
theorem mt803 : Cond.methodLinkNest "Datalogmill$Mill" (104 : Nat) ({ cls := "Datalogmill$Walk", name := "tuple", desc := "(I)I" } : MethodName) "Datalogmill" ∈ lw_tbl := List.mem_of_getElem? (i := 803) (by rfl)
theorem lkX4_104 : LK "Datalogmill$Mill" 104 yX9_tuple := Or.inr ⟨_, mt803⟩
set_option maxRecDepth 20000 in
theorem mt723 : Cond.methodLinkNest "Datalogmill$Mill" (95 : Nat) ({ cls := "Datalogmill$Walk", name := "leadBy", desc := "(II)V" } : MethodName) "Datalogmill" ∈ lw_tbl := List.mem_of_getElem? (i := 723) (by rfl)
theorem lkX4_95 : LK "Datalogmill$Mill" 95 yX9_leadBy := Or.inr ⟨_, mt723⟩
set_option maxRecDepth 20000 in
theorem mw726 : Cond.code yX9_leadBy cX9_leadBy 3 none ∈ GW := inGW (List.mem_of_getElem? (i := 726) (by rfl)) (by decide +kernel)
theorem ml_Wa_leadBy : ML yX9_leadBy cX9_leadBy 3 none 2 := ⟨mw726, mw118, by decide +kernel, by decide +kernel, by decide +kernel⟩
set_option maxRecDepth 20000 in
theorem mw725 : Cond.instanceMethod ({ cls := "Datalogmill$Walk", name := "leadBy", desc := "(II)V" } : MethodName) ∈ GW := inGW (List.mem_of_getElem? (i := 725) (by rfl)) (by decide +kernel)
set_option maxRecDepth 20000 in
theorem mw32 : Cond.selects RX9 yX9_leadBy yX9_leadBy ∈ GW := inGW (List.mem_of_getElem? (i := 32) (by rfl)) (by decide +kernel)
theorem vl_Wa_leadBy : VL yX9_leadBy := ⟨mw725, mw32⟩
set_option maxRecDepth 20000 in
theorem mt208 : Cond.fieldLinkNest "Datalogmill$Mill" (84 : Nat) "Datalogmill$Body" "count" "I" "Datalogmill" ∈ lw_tbl := List.mem_of_getElem? (i := 208) (by rfl)
theorem flX4_84 : FL RX4 84 TA 1 0 := ⟨RX0, TX0, 6, rfl, ⟨by decide, by decide, by decide⟩, inWX0, Or.inr ⟨_, mt208⟩⟩
set_option maxRecDepth 20000 in
theorem mt715 : Cond.methodLinkNest "Datalogmill$Mill" (89 : Nat) ({ cls := "Datalogmill$Walk", name := "begin", desc := "(LDatalogmill$Body;LDatalogmill$Model;I)V" } : MethodName) "Datalogmill" ∈ lw_tbl := List.mem_of_getElem? (i := 715) (by rfl)
theorem lkX4_89 : LK "Datalogmill$Mill" 89 yX9_begin := Or.inr ⟨_, mt715⟩
set_option maxRecDepth 20000 in
theorem mw703 : Cond.methodLink "Datalogmill$Mill" (85 : Nat) ({ cls := "Datalogmill$Mill", name := "isLead", desc := "(LDatalogmill$Body;II)Z" } : MethodName) ∈ GW := inGW (List.mem_of_getElem? (i := 703) (by rfl)) (by decide +kernel)
theorem lkX4_85 : LK "Datalogmill$Mill" 85 yX4_isLead := Or.inl mw703
set_option maxRecDepth 20000 in
theorem mw706 : Cond.code yX4_isLead cX4_isLead 4 (some .boolean) ∈ GW := inGW (List.mem_of_getElem? (i := 706) (by rfl)) (by decide +kernel)
theorem ml_Mi_isLead : ML yX4_isLead cX4_isLead 4 (some .boolean) 3 := ⟨mw706, mw119, by decide +kernel, by decide +kernel, by decide +kernel⟩
set_option maxRecDepth 20000 in
theorem mw705 : Cond.instanceMethod ({ cls := "Datalogmill$Mill", name := "isLead", desc := "(LDatalogmill$Body;II)Z" } : MethodName) ∈ GW := inGW (List.mem_of_getElem? (i := 705) (by rfl)) (by decide +kernel)
set_option maxRecDepth 20000 in
theorem mw27 : Cond.selects RX4 yX4_isLead yX4_isLead ∈ GW := inGW (List.mem_of_getElem? (i := 27) (by rfl)) (by decide +kernel)
theorem vl_Mi_isLead : VL yX4_isLead := ⟨mw705, mw27⟩
set_option maxRecDepth 20000 in
theorem mt242 : Cond.fieldLinkNest "Datalogmill$Mill" (69 : Nat) "Datalogmill$Program" "ruleCount" "I" "Datalogmill" ∈ lw_tbl := List.mem_of_getElem? (i := 242) (by rfl)
theorem flX4_69 : FL RX4 69 TA 8 4 := ⟨RX7, TX7, 8, rfl, ⟨by decide, by decide, by decide⟩, inWX7, Or.inr ⟨_, mt242⟩⟩
set_option maxRecDepth 20000 in
theorem mt699 : Cond.methodLinkNest "Datalogmill$Mill" (72 : Nat) ({ cls := "Datalogmill$Program", name := "rule", desc := "(I)LDatalogmill$Body;" } : MethodName) "Datalogmill" ∈ lw_tbl := List.mem_of_getElem? (i := 699) (by rfl)
theorem lkX4_72 : LK "Datalogmill$Mill" 72 yX7_rule := Or.inr ⟨_, mt699⟩
set_option maxRecDepth 20000 in
theorem mw702 : Cond.code yX7_rule cX7_rule 3 (some (.object "Datalogmill$Body")) ∈ GW := inGW (List.mem_of_getElem? (i := 702) (by rfl)) (by decide +kernel)
theorem ml_Pr_rule : ML yX7_rule cX7_rule 3 (some (.object "Datalogmill$Body")) 1 := ⟨mw702, mw115, by decide +kernel, by decide +kernel, by decide +kernel⟩
set_option maxRecDepth 20000 in
theorem mw701 : Cond.instanceMethod ({ cls := "Datalogmill$Program", name := "rule", desc := "(I)LDatalogmill$Body;" } : MethodName) ∈ GW := inGW (List.mem_of_getElem? (i := 701) (by rfl)) (by decide +kernel)
set_option maxRecDepth 20000 in
theorem mw26 : Cond.selects RX7 yX7_rule yX7_rule ∈ GW := inGW (List.mem_of_getElem? (i := 26) (by rfl)) (by decide +kernel)
theorem vl_Pr_rule : VL yX7_rule := ⟨mw701, mw26⟩
set_option maxRecDepth 20000 in
theorem mt216 : Cond.fieldLinkNest "Datalogmill$Mill" (76 : Nat) "Datalogmill$Body" "removed" "Z" "Datalogmill" ∈ lw_tbl := List.mem_of_getElem? (i := 216) (by rfl)
theorem flX4_76 : FL RX4 76 TA 1 2 := ⟨RX0, TX0, 6, rfl, ⟨by decide, by decide, by decide⟩, inWX0, Or.inr ⟨_, mt216⟩⟩
theorem rl10000 : R32 (10000) := ⟨by decide, by decide⟩
set_option maxRecDepth 20000 in
theorem mw695 : Cond.methodLink "Datalogmill$Mill" (38 : Nat) ({ cls := "Datalogmill$Mill", name := "sweep", desc := "(LDatalogmill$Model;IIZ)Z" } : MethodName) ∈ GW := inGW (List.mem_of_getElem? (i := 695) (by rfl)) (by decide +kernel)
theorem lkX4_38 : LK "Datalogmill$Mill" 38 yX4_sweep := Or.inl mw695
set_option maxRecDepth 20000 in
theorem mw698 : Cond.code yX4_sweep cX4_sweep 12 (some .boolean) ∈ GW := inGW (List.mem_of_getElem? (i := 698) (by rfl)) (by decide +kernel)
theorem ml_Mi_sweep : ML yX4_sweep cX4_sweep 12 (some .boolean) 4 := ⟨mw698, mw119, by decide +kernel, by decide +kernel, by decide +kernel⟩
set_option maxRecDepth 20000 in
theorem mw697 : Cond.instanceMethod ({ cls := "Datalogmill$Mill", name := "sweep", desc := "(LDatalogmill$Model;IIZ)Z" } : MethodName) ∈ GW := inGW (List.mem_of_getElem? (i := 697) (by rfl)) (by decide +kernel)
set_option maxRecDepth 20000 in
theorem mw25 : Cond.selects RX4 yX4_sweep yX4_sweep ∈ GW := inGW (List.mem_of_getElem? (i := 25) (by rfl)) (by decide +kernel)
theorem vl_Mi_sweep : VL yX4_sweep := ⟨mw697, mw25⟩
set_option maxRecDepth 20000 in
theorem mt247 : Cond.fieldLinkNest "Datalogmill$Mill" (28 : Nat) "Datalogmill$Program" "top" "I" "Datalogmill" ∈ lw_tbl := List.mem_of_getElem? (i := 247) (by rfl)
theorem flX4_28 : FL RX4 28 TA 8 7 := ⟨RX7, TX7, 8, rfl, ⟨by decide, by decide, by decide⟩, inWX7, Or.inr ⟨_, mt247⟩⟩
set_option maxRecDepth 20000 in
theorem mw629 : Cond.methodLink "Datalogmill$Mill" (34 : Nat) ({ cls := "Datalogmill$Mill", name := "load", desc := "(LDatalogmill$Model;III)V" } : MethodName) ∈ GW := inGW (List.mem_of_getElem? (i := 629) (by rfl)) (by decide +kernel)
theorem lkX4_34 : LK "Datalogmill$Mill" 34 yX4_load := Or.inl mw629
set_option maxRecDepth 20000 in
theorem mw632 : Cond.code yX4_load cX4_load 7 none ∈ GW := inGW (List.mem_of_getElem? (i := 632) (by rfl)) (by decide +kernel)
theorem ml_Mi_load : ML yX4_load cX4_load 7 none 4 := ⟨mw632, mw119, by decide +kernel, by decide +kernel, by decide +kernel⟩
set_option maxRecDepth 20000 in
theorem mw631 : Cond.instanceMethod ({ cls := "Datalogmill$Mill", name := "load", desc := "(LDatalogmill$Model;III)V" } : MethodName) ∈ GW := inGW (List.mem_of_getElem? (i := 631) (by rfl)) (by decide +kernel)
set_option maxRecDepth 20000 in
theorem mw10 : Cond.selects RX4 yX4_load yX4_load ∈ GW := inGW (List.mem_of_getElem? (i := 10) (by rfl)) (by decide +kernel)
theorem vl_Mi_load : VL yX4_load := ⟨mw631, mw10⟩
set_option maxRecDepth 20000 in
theorem mt625 : Cond.methodLinkNest "Datalogmill$Mill" (23 : Nat) ({ cls := "Datalogmill$Model", name := "reset", desc := "()V" } : MethodName) "Datalogmill" ∈ lw_tbl := List.mem_of_getElem? (i := 625) (by rfl)
theorem lkX4_23 : LK "Datalogmill$Mill" 23 yX5_reset := Or.inr ⟨_, mt625⟩
set_option maxRecDepth 20000 in
theorem mw628 : Cond.code yX5_reset cX5_reset 2 none ∈ GW := inGW (List.mem_of_getElem? (i := 628) (by rfl)) (by decide +kernel)
theorem ml_Mo_reset : ML yX5_reset cX5_reset 2 none 0 := ⟨mw628, mw117, by decide +kernel, by decide +kernel, by decide +kernel⟩
set_option maxRecDepth 20000 in
theorem mw627 : Cond.instanceMethod ({ cls := "Datalogmill$Model", name := "reset", desc := "()V" } : MethodName) ∈ GW := inGW (List.mem_of_getElem? (i := 627) (by rfl)) (by decide +kernel)
set_option maxRecDepth 20000 in
theorem mw9 : Cond.selects RX5 yX5_reset yX5_reset ∈ GW := inGW (List.mem_of_getElem? (i := 9) (by rfl)) (by decide +kernel)
theorem vl_Mo_reset : VL yX5_reset := ⟨mw627, mw9⟩
theorem flX10_60 : FL RX10 60 TA 11 8 := ⟨RX10, TX10, 13, rfl, ⟨by decide, by decide, by decide⟩, inWX10, Or.inl mw409⟩
set_option maxRecDepth 20000 in
theorem mt621 : Cond.methodLinkNest "Datalogmill" (275 : Nat) ({ cls := "Datalogmill$Mill", name := "build", desc := "(LDatalogmill$Model;IIZ)V" } : MethodName) "Datalogmill" ∈ lw_tbl := List.mem_of_getElem? (i := 621) (by rfl)
theorem lkX10_275 : LK "Datalogmill" 275 yX4_build := Or.inr ⟨_, mt621⟩
set_option maxRecDepth 20000 in
theorem mw624 : Cond.code yX4_build cX4_build 9 none ∈ GW := inGW (List.mem_of_getElem? (i := 624) (by rfl)) (by decide +kernel)
theorem ml_Mi_build : ML yX4_build cX4_build 9 none 4 := ⟨mw624, mw119, by decide +kernel, by decide +kernel, by decide +kernel⟩
set_option maxRecDepth 20000 in
theorem mw623 : Cond.instanceMethod ({ cls := "Datalogmill$Mill", name := "build", desc := "(LDatalogmill$Model;IIZ)V" } : MethodName) ∈ GW := inGW (List.mem_of_getElem? (i := 623) (by rfl)) (by decide +kernel)
set_option maxRecDepth 20000 in
theorem mw8 : Cond.selects RX4 yX4_build yX4_build ∈ GW := inGW (List.mem_of_getElem? (i := 8) (by rfl)) (by decide +kernel)
theorem vl_Mi_build : VL yX4_build := ⟨mw623, mw8⟩
set_option maxRecDepth 20000 in
theorem mt278 : Cond.fieldLinkNest "Datalogmill" (312 : Nat) "Datalogmill$Model" "over" "Z" "Datalogmill" ∈ lw_tbl := List.mem_of_getElem? (i := 278) (by rfl)
theorem flX10_312 : FL RX10 312 TA 6 2 := ⟨RX5, TX5, 7, rfl, ⟨by decide, by decide, by decide⟩, inWX5, Or.inr ⟨_, mt278⟩⟩
theorem flX10_35 : FL RX10 35 TA 11 1 := ⟨RX10, TX10, 13, rfl, ⟨by decide, by decide, by decide⟩, inWX10, Or.inl mw402⟩
set_option maxRecDepth 20000 in
theorem mt1069 : Cond.methodLinkNest "Datalogmill" (309 : Nat) ({ cls := "Datalogmill$Facts", name := "holdsIn", desc := "(II)Z" } : MethodName) "Datalogmill" ∈ lw_tbl := List.mem_of_getElem? (i := 1069) (by rfl)
theorem lkX10_309 : LK "Datalogmill" 309 yX2_holdsIn := Or.inr ⟨_, mt1069⟩
set_option maxRecDepth 20000 in
theorem mw1332 : Cond.methodLink "Datalogmill" (327 : Nat) ({ cls := "Datalogmill", name := "mends", desc := "(I)Z" } : MethodName) ∈ GW := inGW (List.mem_of_getElem? (i := 1332) (by rfl)) (by decide +kernel)
theorem lkX10_327 : LK "Datalogmill" 327 yX10_mends := Or.inl mw1332
set_option maxRecDepth 20000 in
theorem mw1335 : Cond.code yX10_mends cX10_mends 2 (some .boolean) ∈ GW := inGW (List.mem_of_getElem? (i := 1335) (by rfl)) (by decide +kernel)
theorem ml_Dm_mends : ML yX10_mends cX10_mends 2 (some .boolean) 1 := ⟨mw1335, mw112, by decide +kernel, by decide +kernel, by decide +kernel⟩
set_option maxRecDepth 20000 in
theorem mw1334 : Cond.instanceMethod ({ cls := "Datalogmill", name := "mends", desc := "(I)Z" } : MethodName) ∈ GW := inGW (List.mem_of_getElem? (i := 1334) (by rfl)) (by decide +kernel)
set_option maxRecDepth 20000 in
theorem mw110 : Cond.selects RX10 yX10_mends yX10_mends ∈ GW := inGW (List.mem_of_getElem? (i := 110) (by rfl)) (by decide +kernel)
theorem vl_Dm_mends : VL yX10_mends := ⟨mw1334, mw110⟩
set_option maxRecDepth 20000 in
theorem mt167 : Cond.fieldLinkNest "Datalogmill" (129 : Nat) "Datalogmill$Facts" "count" "I" "Datalogmill" ∈ lw_tbl := List.mem_of_getElem? (i := 167) (by rfl)
theorem flX10_129 : FL RX10 129 TA 3 0 := ⟨RX2, TX2, 8, rfl, ⟨by decide, by decide, by decide⟩, inWX2, Or.inr ⟨_, mt167⟩⟩
theorem rlm9 : R32 (-9) := ⟨by decide, by decide⟩
set_option maxRecDepth 20000 in
theorem mw598 : Cond.methodLink "Datalogmill" (369 : Nat) ({ cls := "Datalogmill", name := "isValue", desc := "(I)Z" } : MethodName) ∈ GW := inGW (List.mem_of_getElem? (i := 598) (by rfl)) (by decide +kernel)
theorem lkX10_369 : LK "Datalogmill" 369 yX10_isValue := Or.inl mw598
set_option maxRecDepth 20000 in
theorem mw600 : Cond.code yX10_isValue cX10_isValue 1 (some .boolean) ∈ GW := inGW (List.mem_of_getElem? (i := 600) (by rfl)) (by decide +kernel)
theorem ml_Dm_isValue : ML yX10_isValue cX10_isValue 1 (some .boolean) 1 := ⟨mw600, mw112, by decide +kernel, by decide +kernel, by decide +kernel⟩
set_option maxRecDepth 20000 in
theorem mw599 : Cond.static ({ cls := "Datalogmill", name := "isValue", desc := "(I)Z" } : MethodName) ∈ GW := inGW (List.mem_of_getElem? (i := 599) (by rfl)) (by decide +kernel)
set_option maxRecDepth 20000 in
theorem mw601 : Cond.methodLink "Datalogmill" (200 : Nat) ({ cls := "Datalogmill", name := "isTerm", desc := "(I)Z" } : MethodName) ∈ GW := inGW (List.mem_of_getElem? (i := 601) (by rfl)) (by decide +kernel)
theorem lkX10_200 : LK "Datalogmill" 200 yX10_isTerm := Or.inl mw601
set_option maxRecDepth 20000 in
theorem mw603 : Cond.code yX10_isTerm cX10_isTerm 1 (some .boolean) ∈ GW := inGW (List.mem_of_getElem? (i := 603) (by rfl)) (by decide +kernel)
theorem ml_Dm_isTerm : ML yX10_isTerm cX10_isTerm 1 (some .boolean) 1 := ⟨mw603, mw112, by decide +kernel, by decide +kernel, by decide +kernel⟩
set_option maxRecDepth 20000 in
theorem mw602 : Cond.static ({ cls := "Datalogmill", name := "isTerm", desc := "(I)Z" } : MethodName) ∈ GW := inGW (List.mem_of_getElem? (i := 602) (by rfl)) (by decide +kernel)
set_option maxRecDepth 20000 in
theorem mt592 : Cond.methodLinkNest "Datalogmill$Schema" (40 : Nat) ({ cls := "Datalogmill", name := "picked", desc := "(IIII)I" } : MethodName) "Datalogmill" ∈ lw_tbl := List.mem_of_getElem? (i := 592) (by rfl)
theorem lkX8_40 : LK "Datalogmill$Schema" 40 yX10_picked := Or.inr ⟨_, mt592⟩
set_option maxRecDepth 20000 in
theorem mt595 : Cond.methodLinkNest "Datalogmill$Schema" (44 : Nat) ({ cls := "Datalogmill", name := "isPermitted", desc := "(II)Z" } : MethodName) "Datalogmill" ∈ lw_tbl := List.mem_of_getElem? (i := 595) (by rfl)
theorem lkX8_44 : LK "Datalogmill$Schema" 44 yX10_isPermitted := Or.inr ⟨_, mt595⟩
set_option maxRecDepth 20000 in
theorem mw597 : Cond.code yX10_isPermitted cX10_isPermitted 2 (some .boolean) ∈ GW := inGW (List.mem_of_getElem? (i := 597) (by rfl)) (by decide +kernel)
theorem ml_Dm_isPermitted : ML yX10_isPermitted cX10_isPermitted 2 (some .boolean) 2 := ⟨mw597, mw112, by decide +kernel, by decide +kernel, by decide +kernel⟩
set_option maxRecDepth 20000 in
theorem mw596 : Cond.static ({ cls := "Datalogmill", name := "isPermitted", desc := "(II)Z" } : MethodName) ∈ GW := inGW (List.mem_of_getElem? (i := 596) (by rfl)) (by decide +kernel)
set_option maxRecDepth 20000 in
theorem mt588 : Cond.methodLinkNest "Datalogmill" (123 : Nat) ({ cls := "Datalogmill$Schema", name := "permits", desc := "(IIIII)Z" } : MethodName) "Datalogmill" ∈ lw_tbl := List.mem_of_getElem? (i := 588) (by rfl)
theorem lkX10_123 : LK "Datalogmill" 123 yX8_permits := Or.inr ⟨_, mt588⟩
set_option maxRecDepth 20000 in
theorem mw591 : Cond.code yX8_permits cX8_permits 9 (some .boolean) ∈ GW := inGW (List.mem_of_getElem? (i := 591) (by rfl)) (by decide +kernel)
theorem ml_Sc_permits : ML yX8_permits cX8_permits 9 (some .boolean) 5 := ⟨mw591, mw113, by decide +kernel, by decide +kernel, by decide +kernel⟩
set_option maxRecDepth 20000 in
theorem mw590 : Cond.instanceMethod ({ cls := "Datalogmill$Schema", name := "permits", desc := "(IIIII)Z" } : MethodName) ∈ GW := inGW (List.mem_of_getElem? (i := 590) (by rfl)) (by decide +kernel)
set_option maxRecDepth 20000 in
theorem mw4 : Cond.selects RX8 yX8_permits yX8_permits ∈ GW := inGW (List.mem_of_getElem? (i := 4) (by rfl)) (by decide +kernel)
theorem vl_Sc_permits : VL yX8_permits := ⟨mw590, mw4⟩
set_option maxRecDepth 20000 in
theorem mw606 : Cond.methodLink "Datalogmill" (135 : Nat) ({ cls := "Datalogmill", name := "packed", desc := "(III)I" } : MethodName) ∈ GW := inGW (List.mem_of_getElem? (i := 606) (by rfl)) (by decide +kernel)
theorem lkX10_135 : LK "Datalogmill" 135 yX10_packed := Or.inl mw606
set_option maxRecDepth 20000 in
theorem mt1005 : Cond.methodLinkNest "Datalogmill" (372 : Nat) ({ cls := "Datalogmill$Model", name := "has", desc := "(II)Z" } : MethodName) "Datalogmill" ∈ lw_tbl := List.mem_of_getElem? (i := 1005) (by rfl)
theorem lkX10_372 : LK "Datalogmill" 372 yX5_has := Or.inr ⟨_, mt1005⟩
set_option maxRecDepth 20000 in
theorem mw1008 : Cond.code yX5_has cX5_has 4 (some .boolean) ∈ GW := inGW (List.mem_of_getElem? (i := 1008) (by rfl)) (by decide +kernel)
theorem ml_Mo_has : ML yX5_has cX5_has 4 (some .boolean) 2 := ⟨mw1008, mw117, by decide +kernel, by decide +kernel, by decide +kernel⟩
set_option maxRecDepth 20000 in
theorem mw1007 : Cond.instanceMethod ({ cls := "Datalogmill$Model", name := "has", desc := "(II)Z" } : MethodName) ∈ GW := inGW (List.mem_of_getElem? (i := 1007) (by rfl)) (by decide +kernel)
set_option maxRecDepth 20000 in
theorem mw74 : Cond.selects RX5 yX5_has yX5_has ∈ GW := inGW (List.mem_of_getElem? (i := 74) (by rfl)) (by decide +kernel)
theorem vl_Mo_has : VL yX5_has := ⟨mw1007, mw74⟩
theorem flX10_74 : FL RX10 74 TA 11 9 := ⟨RX10, TX10, 13, rfl, ⟨by decide, by decide, by decide⟩, inWX10, Or.inl mw410⟩
set_option maxRecDepth 20000 in
theorem mt361 : Cond.fieldLinkNest "Datalogmill" (178 : Nat) "Datalogmill$Costs" "known" "Z" "Datalogmill" ∈ lw_tbl := List.mem_of_getElem? (i := 361) (by rfl)
theorem fpX10_178 : FP RX10 178 TA 2 0 .boolean := ⟨RX1, TX1, 2, rfl, ⟨by decide, by decide, by decide⟩, inWX1, Or.inr ⟨_, mt361⟩, ⟨tyX1, tyX1_ok, rfl⟩, nmX1, rfl⟩
set_option maxRecDepth 20000 in
theorem mw617 : Cond.methodLink "Datalogmill" (375 : Nat) ({ cls := "Datalogmill", name := "spareOf", desc := "(I)LDatalogmill$Model;" } : MethodName) ∈ GW := inGW (List.mem_of_getElem? (i := 617) (by rfl)) (by decide +kernel)
theorem lkX10_375 : LK "Datalogmill" 375 yX10_spareOf := Or.inl mw617
set_option maxRecDepth 20000 in
theorem mw620 : Cond.code yX10_spareOf cX10_spareOf 3 (some (.object "Datalogmill$Model")) ∈ GW := inGW (List.mem_of_getElem? (i := 620) (by rfl)) (by decide +kernel)
theorem ml_Dm_spareOf : ML yX10_spareOf cX10_spareOf 3 (some (.object "Datalogmill$Model")) 1 := ⟨mw620, mw112, by decide +kernel, by decide +kernel, by decide +kernel⟩
set_option maxRecDepth 20000 in
theorem mw619 : Cond.instanceMethod ({ cls := "Datalogmill", name := "spareOf", desc := "(I)LDatalogmill$Model;" } : MethodName) ∈ GW := inGW (List.mem_of_getElem? (i := 619) (by rfl)) (by decide +kernel)
set_option maxRecDepth 20000 in
theorem mw7 : Cond.selects RX10 yX10_spareOf yX10_spareOf ∈ GW := inGW (List.mem_of_getElem? (i := 7) (by rfl)) (by decide +kernel)
theorem vl_Dm_spareOf : VL yX10_spareOf := ⟨mw619, mw7⟩
set_option maxRecDepth 20000 in
theorem mw804 : Cond.methodLink "Datalogmill" 378 Lib.Math.max.name ∈ GW := inGW (List.mem_of_getElem? (i := 804) (by rfl)) (by decide +kernel)
set_option maxRecDepth 20000 in
theorem mt1070 : Cond.methodLinkNest "Datalogmill" (383 : Nat) ({ cls := "Datalogmill$Facts", name := "relationOf", desc := "(I)I" } : MethodName) "Datalogmill" ∈ lw_tbl := List.mem_of_getElem? (i := 1070) (by rfl)
theorem lkX10_383 : LK "Datalogmill" 383 yX2_relationOf := Or.inr ⟨_, mt1070⟩
set_option maxRecDepth 20000 in
theorem mt1071 : Cond.methodLinkNest "Datalogmill" (386 : Nat) ({ cls := "Datalogmill$Facts", name := "codeOf", desc := "(I)I" } : MethodName) "Datalogmill" ∈ lw_tbl := List.mem_of_getElem? (i := 1071) (by rfl)
theorem lkX10_386 : LK "Datalogmill" 386 yX2_codeOf := Or.inr ⟨_, mt1071⟩
set_option maxRecDepth 20000 in
theorem mt1068 : Cond.methodLinkNest "Datalogmill" (303 : Nat) ({ cls := "Datalogmill$Model", name := "slotLike", desc := "(II)I" } : MethodName) "Datalogmill" ∈ lw_tbl := List.mem_of_getElem? (i := 1068) (by rfl)
theorem lkX10_303 : LK "Datalogmill" 303 yX5_slotLike := Or.inr ⟨_, mt1068⟩
set_option maxRecDepth 20000 in
theorem mw1085 : Cond.methodLink "Datalogmill$Schema" (37 : Nat) ({ cls := "Datalogmill$Schema", name := "tellingColumns", desc := "(I)I" } : MethodName) ∈ GW := inGW (List.mem_of_getElem? (i := 1085) (by rfl)) (by decide +kernel)
theorem lkX8_37 : LK "Datalogmill$Schema" 37 yX8_tellingColumns := Or.inl mw1085
set_option maxRecDepth 20000 in
theorem mw1088 : Cond.code yX8_tellingColumns cX8_tellingColumns 2 (some .int) ∈ GW := inGW (List.mem_of_getElem? (i := 1088) (by rfl)) (by decide +kernel)
theorem ml_Sc_tellingColumns : ML yX8_tellingColumns cX8_tellingColumns 2 (some .int) 1 := ⟨mw1088, mw113, by decide +kernel, by decide +kernel, by decide +kernel⟩
set_option maxRecDepth 20000 in
theorem mw1087 : Cond.instanceMethod ({ cls := "Datalogmill$Schema", name := "tellingColumns", desc := "(I)I" } : MethodName) ∈ GW := inGW (List.mem_of_getElem? (i := 1087) (by rfl)) (by decide +kernel)
set_option maxRecDepth 20000 in
theorem mw81 : Cond.selects RX8 yX8_tellingColumns yX8_tellingColumns ∈ GW := inGW (List.mem_of_getElem? (i := 81) (by rfl)) (by decide +kernel)
theorem vl_Sc_tellingColumns : VL yX8_tellingColumns := ⟨mw1087, mw81⟩
set_option maxRecDepth 20000 in
theorem mt219 : Cond.fieldLinkNest "Datalogmill" (253 : Nat) "Datalogmill$Body" "removed" "Z" "Datalogmill" ∈ lw_tbl := List.mem_of_getElem? (i := 219) (by rfl)
theorem flX10_253 : FL RX10 253 TA 1 2 := ⟨RX0, TX0, 6, rfl, ⟨by decide, by decide, by decide⟩, inWX0, Or.inr ⟨_, mt219⟩⟩
set_option maxRecDepth 20000 in
theorem mt215 : Cond.fieldLinkNest "Datalogmill" (208 : Nat) "Datalogmill$Body" "target" "I" "Datalogmill" ∈ lw_tbl := List.mem_of_getElem? (i := 215) (by rfl)
theorem flX10_208 : FL RX10 208 TA 1 1 := ⟨RX0, TX0, 6, rfl, ⟨by decide, by decide, by decide⟩, inWX0, Or.inr ⟨_, mt215⟩⟩
set_option maxRecDepth 20000 in
theorem mt1081 : Cond.methodLinkNest "Datalogmill" (399 : Nat) ({ cls := "Datalogmill$Schema", name := "tellingSet", desc := "(I)I" } : MethodName) "Datalogmill" ∈ lw_tbl := List.mem_of_getElem? (i := 1081) (by rfl)
theorem lkX10_399 : LK "Datalogmill" 399 yX8_tellingSet := Or.inr ⟨_, mt1081⟩
set_option maxRecDepth 20000 in
theorem mw1084 : Cond.code yX8_tellingSet cX8_tellingSet 2 (some .int) ∈ GW := inGW (List.mem_of_getElem? (i := 1084) (by rfl)) (by decide +kernel)
theorem ml_Sc_tellingSet : ML yX8_tellingSet cX8_tellingSet 2 (some .int) 1 := ⟨mw1084, mw113, by decide +kernel, by decide +kernel, by decide +kernel⟩
set_option maxRecDepth 20000 in
theorem mw1083 : Cond.instanceMethod ({ cls := "Datalogmill$Schema", name := "tellingSet", desc := "(I)I" } : MethodName) ∈ GW := inGW (List.mem_of_getElem? (i := 1083) (by rfl)) (by decide +kernel)
set_option maxRecDepth 20000 in
theorem mw80 : Cond.selects RX8 yX8_tellingSet yX8_tellingSet ∈ GW := inGW (List.mem_of_getElem? (i := 80) (by rfl)) (by decide +kernel)
theorem vl_Sc_tellingSet : VL yX8_tellingSet := ⟨mw1083, mw80⟩
set_option maxRecDepth 20000 in
theorem mt1094 : Cond.methodLinkNest "Datalogmill" (402 : Nat) ({ cls := "Datalogmill$Walk", name := "pose", desc := "(II)Z" } : MethodName) "Datalogmill" ∈ lw_tbl := List.mem_of_getElem? (i := 1094) (by rfl)
theorem lkX10_402 : LK "Datalogmill" 402 yX9_pose := Or.inr ⟨_, mt1094⟩
set_option maxRecDepth 20000 in
theorem mw1097 : Cond.code yX9_pose cX9_pose 6 (some .boolean) ∈ GW := inGW (List.mem_of_getElem? (i := 1097) (by rfl)) (by decide +kernel)
theorem ml_Wa_pose : ML yX9_pose cX9_pose 6 (some .boolean) 2 := ⟨mw1097, mw118, by decide +kernel, by decide +kernel, by decide +kernel⟩
set_option maxRecDepth 20000 in
theorem mw1096 : Cond.instanceMethod ({ cls := "Datalogmill$Walk", name := "pose", desc := "(II)Z" } : MethodName) ∈ GW := inGW (List.mem_of_getElem? (i := 1096) (by rfl)) (by decide +kernel)
set_option maxRecDepth 20000 in
theorem mw83 : Cond.selects RX9 yX9_pose yX9_pose ∈ GW := inGW (List.mem_of_getElem? (i := 83) (by rfl)) (by decide +kernel)
theorem vl_Wa_pose : VL yX9_pose := ⟨mw1096, mw83⟩
set_option maxRecDepth 20000 in
theorem mw1098 : Cond.constant "Datalogmill" (391 : Nat) (10000000 : Int32) ∈ GW := inGW (List.mem_of_getElem? (i := 1098) (by rfl)) (by decide +kernel)
theorem kcX10_391 : Cond.constant RX10 391 (ii (10000000)) ∈ GW := by
  rw [show ii (10000000) = (10000000 : Int32) by decide]
  exact mw1098
set_option maxRecDepth 20000 in
theorem mt243 : Cond.fieldLinkNest "Datalogmill" (217 : Nat) "Datalogmill$Program" "ruleCount" "I" "Datalogmill" ∈ lw_tbl := List.mem_of_getElem? (i := 243) (by rfl)
theorem flX10_217 : FL RX10 217 TA 8 4 := ⟨RX7, TX7, 8, rfl, ⟨by decide, by decide, by decide⟩, inWX7, Or.inr ⟨_, mt243⟩⟩
set_option maxRecDepth 20000 in
theorem mt901 : Cond.methodLinkNest "Datalogmill" (249 : Nat) ({ cls := "Datalogmill$Program", name := "rule", desc := "(I)LDatalogmill$Body;" } : MethodName) "Datalogmill" ∈ lw_tbl := List.mem_of_getElem? (i := 901) (by rfl)
theorem lkX10_249 : LK "Datalogmill" 249 yX7_rule := Or.inr ⟨_, mt901⟩
set_option maxRecDepth 20000 in
theorem mw1076 : Cond.methodLink "Datalogmill" (387 : Nat) ({ cls := "Datalogmill", name := "canGive", desc := "(LDatalogmill$Body;III)Z" } : MethodName) ∈ GW := inGW (List.mem_of_getElem? (i := 1076) (by rfl)) (by decide +kernel)
theorem lkX10_387 : LK "Datalogmill" 387 yX10_canGive := Or.inl mw1076
set_option maxRecDepth 20000 in
theorem mw1079 : Cond.code yX10_canGive cX10_canGive 5 (some .boolean) ∈ GW := inGW (List.mem_of_getElem? (i := 1079) (by rfl)) (by decide +kernel)
theorem ml_Dm_canGive : ML yX10_canGive cX10_canGive 5 (some .boolean) 4 := ⟨mw1079, mw112, by decide +kernel, by decide +kernel, by decide +kernel⟩
set_option maxRecDepth 20000 in
theorem mw1078 : Cond.instanceMethod ({ cls := "Datalogmill", name := "canGive", desc := "(LDatalogmill$Body;III)Z" } : MethodName) ∈ GW := inGW (List.mem_of_getElem? (i := 1078) (by rfl)) (by decide +kernel)
set_option maxRecDepth 20000 in
theorem mw79 : Cond.selects RX10 yX10_canGive yX10_canGive ∈ GW := inGW (List.mem_of_getElem? (i := 79) (by rfl)) (by decide +kernel)
theorem vl_Dm_canGive : VL yX10_canGive := ⟨mw1078, mw79⟩
theorem flX1_9 : FL RX1 9 TA 2 1 := ⟨RX1, TX1, 2, rfl, ⟨by decide, by decide, by decide⟩, inWX1, Or.inl mw362⟩
set_option maxRecDepth 20000 in
theorem mw1115 : Cond.constant "Datalogmill$Costs" (15 : Nat) (1000000 : Int32) ∈ GW := inGW (List.mem_of_getElem? (i := 1115) (by rfl)) (by decide +kernel)
theorem kcX1_15 : Cond.constant RX1 15 (ii (1000000)) ∈ GW := by
  rw [show ii (1000000) = (1000000 : Int32) by decide]
  exact mw1115
theorem rl1000000 : R32 (1000000) := ⟨by decide, by decide⟩
set_option maxRecDepth 20000 in
theorem mw1120 : Cond.constant "Datalogmill$Facts" (42 : Nat) (1000000 : Int32) ∈ GW := inGW (List.mem_of_getElem? (i := 1120) (by rfl)) (by decide +kernel)
theorem kcX2_42 : Cond.constant RX2 42 (ii (1000000)) ∈ GW := by
  rw [show ii (1000000) = (1000000 : Int32) by decide]
  exact mw1120
theorem flX2_18 : FL RX2 18 TA 3 4 := ⟨RX2, TX2, 8, rfl, ⟨by decide, by decide, by decide⟩, inWX2, Or.inl mw172⟩
set_option maxRecDepth 20000 in
theorem mt211 : Cond.fieldLinkNest "Datalogmill$Walk" (149 : Nat) "Datalogmill$Body" "count" "I" "Datalogmill" ∈ lw_tbl := List.mem_of_getElem? (i := 211) (by rfl)
theorem flX9_149 : FL RX9 149 TA 1 0 := ⟨RX0, TX0, 6, rfl, ⟨by decide, by decide, by decide⟩, inWX0, Or.inr ⟨_, mt211⟩⟩
set_option maxRecDepth 20000 in
theorem mt1134 : Cond.methodLinkNest "Datalogmill$Walk" (152 : Nat) ({ cls := "Datalogmill$Costs", name := "costOf", desc := "(I)I" } : MethodName) "Datalogmill" ∈ lw_tbl := List.mem_of_getElem? (i := 1134) (by rfl)
theorem lkX9_152 : LK "Datalogmill$Walk" 152 yX1_costOf := Or.inr ⟨_, mt1134⟩
set_option maxRecDepth 20000 in
theorem mw1137 : Cond.code yX1_costOf cX1_costOf 2 (some .int) ∈ GW := inGW (List.mem_of_getElem? (i := 1137) (by rfl)) (by decide +kernel)
theorem ml_Co_costOf : ML yX1_costOf cX1_costOf 2 (some .int) 1 := ⟨mw1137, mw120, by decide +kernel, by decide +kernel, by decide +kernel⟩
set_option maxRecDepth 20000 in
theorem mw1136 : Cond.instanceMethod ({ cls := "Datalogmill$Costs", name := "costOf", desc := "(I)I" } : MethodName) ∈ GW := inGW (List.mem_of_getElem? (i := 1136) (by rfl)) (by decide +kernel)
set_option maxRecDepth 20000 in
theorem mw90 : Cond.selects RX1 yX1_costOf yX1_costOf ∈ GW := inGW (List.mem_of_getElem? (i := 90) (by rfl)) (by decide +kernel)
theorem vl_Co_costOf : VL yX1_costOf := ⟨mw1136, mw90⟩
set_option maxRecDepth 20000 in
theorem mt1129 : Cond.methodLinkNest "Datalogmill" (415 : Nat) ({ cls := "Datalogmill$Walk", name := "tuple", desc := "(I)I" } : MethodName) "Datalogmill" ∈ lw_tbl := List.mem_of_getElem? (i := 1129) (by rfl)
theorem lkX10_415 : LK "Datalogmill" 415 yX9_tuple := Or.inr ⟨_, mt1129⟩
set_option maxRecDepth 20000 in
theorem mt1130 : Cond.methodLinkNest "Datalogmill" (418 : Nat) ({ cls := "Datalogmill$Walk", name := "cost", desc := "(LDatalogmill$Costs;)I" } : MethodName) "Datalogmill" ∈ lw_tbl := List.mem_of_getElem? (i := 1130) (by rfl)
theorem lkX10_418 : LK "Datalogmill" 418 yX9_cost := Or.inr ⟨_, mt1130⟩
set_option maxRecDepth 20000 in
theorem mw1133 : Cond.code yX9_cost cX9_cost 4 (some .int) ∈ GW := inGW (List.mem_of_getElem? (i := 1133) (by rfl)) (by decide +kernel)
theorem ml_Wa_cost : ML yX9_cost cX9_cost 4 (some .int) 1 := ⟨mw1133, mw118, by decide +kernel, by decide +kernel, by decide +kernel⟩
set_option maxRecDepth 20000 in
theorem mw1132 : Cond.instanceMethod ({ cls := "Datalogmill$Walk", name := "cost", desc := "(LDatalogmill$Costs;)I" } : MethodName) ∈ GW := inGW (List.mem_of_getElem? (i := 1132) (by rfl)) (by decide +kernel)
set_option maxRecDepth 20000 in
theorem mw89 : Cond.selects RX9 yX9_cost yX9_cost ∈ GW := inGW (List.mem_of_getElem? (i := 89) (by rfl)) (by decide +kernel)
theorem vl_Wa_cost : VL yX9_cost := ⟨mw1132, mw89⟩
set_option maxRecDepth 20000 in
theorem mt1121 : Cond.methodLinkNest "Datalogmill" (409 : Nat) ({ cls := "Datalogmill$Costs", name := "lower", desc := "(II)Z" } : MethodName) "Datalogmill" ∈ lw_tbl := List.mem_of_getElem? (i := 1121) (by rfl)
theorem lkX10_409 : LK "Datalogmill" 409 yX1_lower := Or.inr ⟨_, mt1121⟩
set_option maxRecDepth 20000 in
theorem mw1124 : Cond.code yX1_lower cX1_lower 3 (some .boolean) ∈ GW := inGW (List.mem_of_getElem? (i := 1124) (by rfl)) (by decide +kernel)
theorem ml_Co_lower : ML yX1_lower cX1_lower 3 (some .boolean) 2 := ⟨mw1124, mw120, by decide +kernel, by decide +kernel, by decide +kernel⟩
set_option maxRecDepth 20000 in
theorem mw1123 : Cond.instanceMethod ({ cls := "Datalogmill$Costs", name := "lower", desc := "(II)Z" } : MethodName) ∈ GW := inGW (List.mem_of_getElem? (i := 1123) (by rfl)) (by decide +kernel)
set_option maxRecDepth 20000 in
theorem mw87 : Cond.selects RX1 yX1_lower yX1_lower ∈ GW := inGW (List.mem_of_getElem? (i := 87) (by rfl)) (by decide +kernel)
theorem vl_Co_lower : VL yX1_lower := ⟨mw1123, mw87⟩
set_option maxRecDepth 20000 in
theorem mw1125 : Cond.methodLink "Datalogmill" (412 : Nat) ({ cls := "Datalogmill", name := "lowerByRules", desc := "()Z" } : MethodName) ∈ GW := inGW (List.mem_of_getElem? (i := 1125) (by rfl)) (by decide +kernel)
theorem lkX10_412 : LK "Datalogmill" 412 yX10_lowerByRules := Or.inl mw1125
set_option maxRecDepth 20000 in
theorem mw1128 : Cond.code yX10_lowerByRules cX10_lowerByRules 6 (some .boolean) ∈ GW := inGW (List.mem_of_getElem? (i := 1128) (by rfl)) (by decide +kernel)
theorem ml_Dm_lowerByRules : ML yX10_lowerByRules cX10_lowerByRules 6 (some .boolean) 0 := ⟨mw1128, mw112, by decide +kernel, by decide +kernel, by decide +kernel⟩
set_option maxRecDepth 20000 in
theorem mw1127 : Cond.instanceMethod ({ cls := "Datalogmill", name := "lowerByRules", desc := "()Z" } : MethodName) ∈ GW := inGW (List.mem_of_getElem? (i := 1127) (by rfl)) (by decide +kernel)
set_option maxRecDepth 20000 in
theorem mw88 : Cond.selects RX10 yX10_lowerByRules yX10_lowerByRules ∈ GW := inGW (List.mem_of_getElem? (i := 88) (by rfl)) (by decide +kernel)
theorem vl_Dm_lowerByRules : VL yX10_lowerByRules := ⟨mw1127, mw88⟩
set_option maxRecDepth 20000 in
theorem mt1116 : Cond.methodLinkNest "Datalogmill" (408 : Nat) ({ cls := "Datalogmill$Facts", name := "costOf", desc := "(I)I" } : MethodName) "Datalogmill" ∈ lw_tbl := List.mem_of_getElem? (i := 1116) (by rfl)
theorem lkX10_408 : LK "Datalogmill" 408 yX2_costOf := Or.inr ⟨_, mt1116⟩
set_option maxRecDepth 20000 in
theorem mw1119 : Cond.code yX2_costOf cX2_costOf 2 (some .int) ∈ GW := inGW (List.mem_of_getElem? (i := 1119) (by rfl)) (by decide +kernel)
theorem ml_Fa_costOf : ML yX2_costOf cX2_costOf 2 (some .int) 1 := ⟨mw1119, mw114, by decide +kernel, by decide +kernel, by decide +kernel⟩
set_option maxRecDepth 20000 in
theorem mw1118 : Cond.instanceMethod ({ cls := "Datalogmill$Facts", name := "costOf", desc := "(I)I" } : MethodName) ∈ GW := inGW (List.mem_of_getElem? (i := 1118) (by rfl)) (by decide +kernel)
set_option maxRecDepth 20000 in
theorem mw86 : Cond.selects RX2 yX2_costOf yX2_costOf ∈ GW := inGW (List.mem_of_getElem? (i := 86) (by rfl)) (by decide +kernel)
theorem vl_Fa_costOf : VL yX2_costOf := ⟨mw1118, mw86⟩
theorem flX10_178 : FL RX10 178 TA 2 0 := ⟨RX1, TX1, 2, rfl, ⟨by decide, by decide, by decide⟩, inWX1, Or.inr ⟨_, mt361⟩⟩
set_option maxRecDepth 20000 in
theorem mt1111 : Cond.methodLinkNest "Datalogmill" (405 : Nat) ({ cls := "Datalogmill$Costs", name := "reset", desc := "()V" } : MethodName) "Datalogmill" ∈ lw_tbl := List.mem_of_getElem? (i := 1111) (by rfl)
theorem lkX10_405 : LK "Datalogmill" 405 yX1_reset := Or.inr ⟨_, mt1111⟩
set_option maxRecDepth 20000 in
theorem mw1114 : Cond.code yX1_reset cX1_reset 2 none ∈ GW := inGW (List.mem_of_getElem? (i := 1114) (by rfl)) (by decide +kernel)
theorem ml_Co_reset : ML yX1_reset cX1_reset 2 none 0 := ⟨mw1114, mw120, by decide +kernel, by decide +kernel, by decide +kernel⟩
set_option maxRecDepth 20000 in
theorem mw1113 : Cond.instanceMethod ({ cls := "Datalogmill$Costs", name := "reset", desc := "()V" } : MethodName) ∈ GW := inGW (List.mem_of_getElem? (i := 1113) (by rfl)) (by decide +kernel)
set_option maxRecDepth 20000 in
theorem mw85 : Cond.selects RX1 yX1_reset yX1_reset ∈ GW := inGW (List.mem_of_getElem? (i := 85) (by rfl)) (by decide +kernel)
theorem vl_Co_reset : VL yX1_reset := ⟨mw1113, mw85⟩
set_option maxRecDepth 20000 in
theorem mw867 : Cond.methodLink "Datalogmill$Body" (46 : Nat) ({ cls := "Datalogmill$Body", name := "formOf", desc := "(I)I" } : MethodName) ∈ GW := inGW (List.mem_of_getElem? (i := 867) (by rfl)) (by decide +kernel)
theorem lkX0_46 : LK "Datalogmill$Body" 46 yX0_formOf := Or.inl mw867
theorem rl21 : R32 (21) := ⟨by decide, by decide⟩
set_option maxRecDepth 20000 in
theorem mt566 : Cond.methodLinkNest "Datalogmill$Schema" (24 : Nat) ({ cls := "Datalogmill", name := "shiftOf", desc := "(I)I" } : MethodName) "Datalogmill" ∈ lw_tbl := List.mem_of_getElem? (i := 566) (by rfl)
theorem lkX8_24 : LK "Datalogmill$Schema" 24 yX10_shiftOf := Or.inr ⟨_, mt566⟩
set_option maxRecDepth 20000 in
theorem mt1194 : Cond.methodLinkNest "Datalogmill$Walk" (145 : Nat) ({ cls := "Datalogmill$Schema", name := "goalOf", desc := "(IIII)I" } : MethodName) "Datalogmill" ∈ lw_tbl := List.mem_of_getElem? (i := 1194) (by rfl)
theorem lkX9_145 : LK "Datalogmill$Walk" 145 yX8_goalOf := Or.inr ⟨_, mt1194⟩
set_option maxRecDepth 20000 in
theorem mw1173 : Cond.code yX8_goalOf cX8_goalOf 9 (some .int) ∈ GW := inGW (List.mem_of_getElem? (i := 1173) (by rfl)) (by decide +kernel)
theorem ml_Sc_goalOf : ML yX8_goalOf cX8_goalOf 9 (some .int) 4 := ⟨mw1173, mw113, by decide +kernel, by decide +kernel, by decide +kernel⟩
set_option maxRecDepth 20000 in
theorem mw1172 : Cond.instanceMethod ({ cls := "Datalogmill$Schema", name := "goalOf", desc := "(IIII)I" } : MethodName) ∈ GW := inGW (List.mem_of_getElem? (i := 1172) (by rfl)) (by decide +kernel)
set_option maxRecDepth 20000 in
theorem mw93 : Cond.selects RX8 yX8_goalOf yX8_goalOf ∈ GW := inGW (List.mem_of_getElem? (i := 93) (by rfl)) (by decide +kernel)
theorem vl_Sc_goalOf : VL yX8_goalOf := ⟨mw1172, mw93⟩
theorem flX3_9 : FL RX3 9 TA 4 1 := ⟨RX3, TX3, 3, rfl, ⟨by decide, by decide, by decide⟩, inWX3, Or.inl mw376⟩
theorem flX3_15 : FL RX3 15 TA 4 2 := ⟨RX3, TX3, 3, rfl, ⟨by decide, by decide, by decide⟩, inWX3, Or.inl mw377⟩
set_option maxRecDepth 20000 in
theorem mw1179 : Cond.methodLink "Datalogmill$Goals" (23 : Nat) ({ cls := "Datalogmill$Goals", name := "goalAt", desc := "(I)I" } : MethodName) ∈ GW := inGW (List.mem_of_getElem? (i := 1179) (by rfl)) (by decide +kernel)
theorem lkX3_23 : LK "Datalogmill$Goals" 23 yX3_goalAt := Or.inl mw1179
set_option maxRecDepth 20000 in
theorem mw1182 : Cond.code yX3_goalAt cX3_goalAt 2 (some .int) ∈ GW := inGW (List.mem_of_getElem? (i := 1182) (by rfl)) (by decide +kernel)
theorem ml_Go_goalAt : ML yX3_goalAt cX3_goalAt 2 (some .int) 1 := ⟨mw1182, mw121, by decide +kernel, by decide +kernel, by decide +kernel⟩
set_option maxRecDepth 20000 in
theorem mw1181 : Cond.instanceMethod ({ cls := "Datalogmill$Goals", name := "goalAt", desc := "(I)I" } : MethodName) ∈ GW := inGW (List.mem_of_getElem? (i := 1181) (by rfl)) (by decide +kernel)
set_option maxRecDepth 20000 in
theorem mw95 : Cond.selects RX3 yX3_goalAt yX3_goalAt ∈ GW := inGW (List.mem_of_getElem? (i := 95) (by rfl)) (by decide +kernel)
theorem vl_Go_goalAt : VL yX3_goalAt := ⟨mw1181, mw95⟩
set_option maxRecDepth 20000 in
theorem mw374 : Cond.fieldLink "Datalogmill$Goals" (18 : Nat) "Datalogmill$Goals" "count" "I" ∈ GW := inGW (List.mem_of_getElem? (i := 374) (by rfl)) (by decide +kernel)
theorem flX3_18 : FL RX3 18 TA 4 0 := ⟨RX3, TX3, 3, rfl, ⟨by decide, by decide, by decide⟩, inWX3, Or.inl mw374⟩
theorem fpX3_18 : FP RX3 18 TA 4 0 .int := ⟨RX3, TX3, 3, rfl, ⟨by decide, by decide, by decide⟩, inWX3, Or.inl mw374, ⟨tyX3, tyX3_ok, rfl⟩, nmX3, rfl⟩
set_option maxRecDepth 20000 in
theorem mw1178 : Cond.constant "Datalogmill$Goals" (22 : Nat) (-1640531535 : Int32) ∈ GW := inGW (List.mem_of_getElem? (i := 1178) (by rfl)) (by decide +kernel)
theorem kcX3_22 : Cond.constant RX3 22 (ii (-1640531535)) ∈ GW := by
  rw [show ii (-1640531535) = (-1640531535 : Int32) by decide]
  exact mw1178
theorem rlm1640531535 : R32 (-1640531535) := ⟨by decide, by decide⟩
theorem rl22 : R32 (22) := ⟨by decide, by decide⟩
theorem flX10_81 : FL RX10 81 TA 11 10 := ⟨RX10, TX10, 13, rfl, ⟨by decide, by decide, by decide⟩, inWX10, Or.inl mw411⟩
set_option maxRecDepth 20000 in
theorem mt375 : Cond.fieldLinkNest "Datalogmill" (339 : Nat) "Datalogmill$Goals" "count" "I" "Datalogmill" ∈ lw_tbl := List.mem_of_getElem? (i := 375) (by rfl)
theorem flX10_339 : FL RX10 339 TA 4 0 := ⟨RX3, TX3, 3, rfl, ⟨by decide, by decide, by decide⟩, inWX3, Or.inr ⟨_, mt375⟩⟩
set_option maxRecDepth 20000 in
theorem mt1190 : Cond.methodLinkNest "Datalogmill" (435 : Nat) ({ cls := "Datalogmill$Walk", name := "goal", desc := "(I)I" } : MethodName) "Datalogmill" ∈ lw_tbl := List.mem_of_getElem? (i := 1190) (by rfl)
theorem lkX10_435 : LK "Datalogmill" 435 yX9_goal := Or.inr ⟨_, mt1190⟩
set_option maxRecDepth 20000 in
theorem mw1193 : Cond.code yX9_goal cX9_goal 2 (some .int) ∈ GW := inGW (List.mem_of_getElem? (i := 1193) (by rfl)) (by decide +kernel)
theorem ml_Wa_goal : ML yX9_goal cX9_goal 2 (some .int) 1 := ⟨mw1193, mw118, by decide +kernel, by decide +kernel, by decide +kernel⟩
set_option maxRecDepth 20000 in
theorem mw1192 : Cond.instanceMethod ({ cls := "Datalogmill$Walk", name := "goal", desc := "(I)I" } : MethodName) ∈ GW := inGW (List.mem_of_getElem? (i := 1192) (by rfl)) (by decide +kernel)
set_option maxRecDepth 20000 in
theorem mw97 : Cond.selects RX9 yX9_goal yX9_goal ∈ GW := inGW (List.mem_of_getElem? (i := 97) (by rfl)) (by decide +kernel)
theorem vl_Wa_goal : VL yX9_goal := ⟨mw1192, mw97⟩
set_option maxRecDepth 20000 in
theorem mt1174 : Cond.methodLinkNest "Datalogmill" (335 : Nat) ({ cls := "Datalogmill$Goals", name := "ask", desc := "(I)V" } : MethodName) "Datalogmill" ∈ lw_tbl := List.mem_of_getElem? (i := 1174) (by rfl)
theorem lkX10_335 : LK "Datalogmill" 335 yX3_ask := Or.inr ⟨_, mt1174⟩
set_option maxRecDepth 20000 in
theorem mw1177 : Cond.code yX3_ask cX3_ask 5 none ∈ GW := inGW (List.mem_of_getElem? (i := 1177) (by rfl)) (by decide +kernel)
theorem ml_Go_ask : ML yX3_ask cX3_ask 5 none 1 := ⟨mw1177, mw121, by decide +kernel, by decide +kernel, by decide +kernel⟩
set_option maxRecDepth 20000 in
theorem mw1176 : Cond.instanceMethod ({ cls := "Datalogmill$Goals", name := "ask", desc := "(I)V" } : MethodName) ∈ GW := inGW (List.mem_of_getElem? (i := 1176) (by rfl)) (by decide +kernel)
set_option maxRecDepth 20000 in
theorem mw94 : Cond.selects RX3 yX3_ask yX3_ask ∈ GW := inGW (List.mem_of_getElem? (i := 94) (by rfl)) (by decide +kernel)
theorem vl_Go_ask : VL yX3_ask := ⟨mw1176, mw94⟩
set_option maxRecDepth 20000 in
theorem mt1189 : Cond.methodLinkNest "Datalogmill" (432 : Nat) ({ cls := "Datalogmill$Body", name := "isAtom", desc := "(I)Z" } : MethodName) "Datalogmill" ∈ lw_tbl := List.mem_of_getElem? (i := 1189) (by rfl)
theorem lkX10_432 : LK "Datalogmill" 432 yX0_isAtom := Or.inr ⟨_, mt1189⟩
set_option maxRecDepth 20000 in
theorem mw915 : Cond.code yX0_isAtom cX0_isAtom 2 (some .boolean) ∈ GW := inGW (List.mem_of_getElem? (i := 915) (by rfl)) (by decide +kernel)
theorem ml_Bo_isAtom : ML yX0_isAtom cX0_isAtom 2 (some .boolean) 1 := ⟨mw915, mw116, by decide +kernel, by decide +kernel, by decide +kernel⟩
set_option maxRecDepth 20000 in
theorem mw914 : Cond.instanceMethod ({ cls := "Datalogmill$Body", name := "isAtom", desc := "(I)Z" } : MethodName) ∈ GW := inGW (List.mem_of_getElem? (i := 914) (by rfl)) (by decide +kernel)
set_option maxRecDepth 20000 in
theorem mw60 : Cond.selects RX0 yX0_isAtom yX0_isAtom ∈ GW := inGW (List.mem_of_getElem? (i := 60) (by rfl)) (by decide +kernel)
theorem vl_Bo_isAtom : VL yX0_isAtom := ⟨mw914, mw60⟩
set_option maxRecDepth 20000 in
theorem mw1188 : Cond.constant "Datalogmill" (431 : Nat) (2097151 : Int32) ∈ GW := inGW (List.mem_of_getElem? (i := 1188) (by rfl)) (by decide +kernel)
theorem kcX10_431 : Cond.constant RX10 431 (ii (2097151)) ∈ GW := by
  rw [show ii (2097151) = (2097151 : Int32) by decide]
  exact mw1188
theorem rl2097151 : R32 (2097151) := ⟨by decide, by decide⟩
set_option maxRecDepth 20000 in
theorem mw934 : Cond.methodLink "Datalogmill$Body" (53 : Nat) ({ cls := "Datalogmill$Body", name := "termOf", desc := "(II)I" } : MethodName) ∈ GW := inGW (List.mem_of_getElem? (i := 934) (by rfl)) (by decide +kernel)
theorem lkX0_53 : LK "Datalogmill$Body" 53 yX0_termOf := Or.inl mw934
set_option maxRecDepth 20000 in
theorem mt1232 : Cond.methodLinkNest "Datalogmill" (355 : Nat) ({ cls := "Datalogmill$Body", name := "formOf", desc := "(I)I" } : MethodName) "Datalogmill" ∈ lw_tbl := List.mem_of_getElem? (i := 1232) (by rfl)
theorem lkX10_355 : LK "Datalogmill" 355 yX0_formOf := Or.inr ⟨_, mt1232⟩
set_option maxRecDepth 20000 in
theorem mt1237 : Cond.methodLinkNest "Datalogmill" (438 : Nat) ({ cls := "Datalogmill$Body", name := "subjectOf", desc := "(I)I" } : MethodName) "Datalogmill" ∈ lw_tbl := List.mem_of_getElem? (i := 1237) (by rfl)
theorem lkX10_438 : LK "Datalogmill" 438 yX0_subjectOf := Or.inr ⟨_, mt1237⟩
set_option maxRecDepth 20000 in
theorem mt1242 : Cond.methodLinkNest "Datalogmill" (441 : Nat) ({ cls := "Datalogmill$Schema", name := "keyOf", desc := "(I)I" } : MethodName) "Datalogmill" ∈ lw_tbl := List.mem_of_getElem? (i := 1242) (by rfl)
theorem lkX10_441 : LK "Datalogmill" 441 yX8_keyOf := Or.inr ⟨_, mt1242⟩
set_option maxRecDepth 20000 in
theorem mt1243 : Cond.methodLinkNest "Datalogmill" (444 : Nat) ({ cls := "Datalogmill$Body", name := "areAlike", desc := "(III)Z" } : MethodName) "Datalogmill" ∈ lw_tbl := List.mem_of_getElem? (i := 1243) (by rfl)
theorem lkX10_444 : LK "Datalogmill" 444 yX0_areAlike := Or.inr ⟨_, mt1243⟩
set_option maxRecDepth 20000 in
theorem mw1246 : Cond.code yX0_areAlike cX0_areAlike 6 (some .boolean) ∈ GW := inGW (List.mem_of_getElem? (i := 1246) (by rfl)) (by decide +kernel)
theorem ml_Bo_areAlike : ML yX0_areAlike cX0_areAlike 6 (some .boolean) 3 := ⟨mw1246, mw116, by decide +kernel, by decide +kernel, by decide +kernel⟩
set_option maxRecDepth 20000 in
theorem mw1245 : Cond.instanceMethod ({ cls := "Datalogmill$Body", name := "areAlike", desc := "(III)Z" } : MethodName) ∈ GW := inGW (List.mem_of_getElem? (i := 1245) (by rfl)) (by decide +kernel)
set_option maxRecDepth 20000 in
theorem mw103 : Cond.selects RX0 yX0_areAlike yX0_areAlike ∈ GW := inGW (List.mem_of_getElem? (i := 103) (by rfl)) (by decide +kernel)
theorem vl_Bo_areAlike : VL yX0_areAlike := ⟨mw1245, mw103⟩
theorem flX0_25 : FL RX0 25 TA 1 0 := ⟨RX0, TX0, 6, rfl, ⟨by decide, by decide, by decide⟩, inWX0, Or.inl mw206⟩
theorem flX0_9 : FL RX0 9 TA 1 1 := ⟨RX0, TX0, 6, rfl, ⟨by decide, by decide, by decide⟩, inWX0, Or.inl mw212⟩
set_option maxRecDepth 20000 in
theorem mw979 : Cond.methodLink "Datalogmill$Body" (50 : Nat) ({ cls := "Datalogmill$Body", name := "subjectOf", desc := "(I)I" } : MethodName) ∈ GW := inGW (List.mem_of_getElem? (i := 979) (by rfl)) (by decide +kernel)
theorem lkX0_50 : LK "Datalogmill$Body" 50 yX0_subjectOf := Or.inl mw979
set_option maxRecDepth 20000 in
theorem mw980 : Cond.methodLink "Datalogmill$Body" (57 : Nat) ({ cls := "Datalogmill$Body", name := "push", desc := "(IIIII)I" } : MethodName) ∈ GW := inGW (List.mem_of_getElem? (i := 980) (by rfl)) (by decide +kernel)
theorem lkX0_57 : LK "Datalogmill$Body" 57 yX0_push := Or.inl mw980
set_option maxRecDepth 20000 in
theorem mw872 : Cond.code yX0_push cX0_push 7 (some .int) ∈ GW := inGW (List.mem_of_getElem? (i := 872) (by rfl)) (by decide +kernel)
theorem ml_Bo_push : ML yX0_push cX0_push 7 (some .int) 5 := ⟨mw872, mw116, by decide +kernel, by decide +kernel, by decide +kernel⟩
set_option maxRecDepth 20000 in
theorem mw871 : Cond.instanceMethod ({ cls := "Datalogmill$Body", name := "push", desc := "(IIIII)I" } : MethodName) ∈ GW := inGW (List.mem_of_getElem? (i := 871) (by rfl)) (by decide +kernel)
set_option maxRecDepth 20000 in
theorem mw56 : Cond.selects RX0 yX0_push yX0_push ∈ GW := inGW (List.mem_of_getElem? (i := 56) (by rfl)) (by decide +kernel)
theorem vl_Bo_push : VL yX0_push := ⟨mw871, mw56⟩
set_option maxRecDepth 20000 in
theorem mw974 : Cond.methodLink "Datalogmill$Body" (39 : Nat) ({ cls := "Datalogmill$Body", name := "empty", desc := "()V" } : MethodName) ∈ GW := inGW (List.mem_of_getElem? (i := 974) (by rfl)) (by decide +kernel)
theorem lkX0_39 : LK "Datalogmill$Body" 39 yX0_empty := Or.inl mw974
set_option maxRecDepth 20000 in
theorem mw218 : Cond.fieldLink "Datalogmill$Body" (42 : Nat) "Datalogmill$Body" "removed" "Z" ∈ GW := inGW (List.mem_of_getElem? (i := 218) (by rfl)) (by decide +kernel)
theorem fpX0_42 : FP RX0 42 TA 1 2 .boolean := ⟨RX0, TX0, 6, rfl, ⟨by decide, by decide, by decide⟩, inWX0, Or.inl mw218, ⟨tyX0, tyX0_ok, rfl⟩, nmX0, rfl⟩
set_option maxRecDepth 20000 in
theorem mt959 : Cond.methodLinkNest "Datalogmill$Body" (61 : Nat) ({ cls := "Datalogmill", name := "variableBit", desc := "(I)I" } : MethodName) "Datalogmill" ∈ lw_tbl := List.mem_of_getElem? (i := 959) (by rfl)
theorem lkX0_61 : LK "Datalogmill$Body" 61 yX10_variableBit := Or.inr ⟨_, mt959⟩
set_option maxRecDepth 20000 in
theorem mw955 : Cond.methodLink "Datalogmill$Body" (64 : Nat) ({ cls := "Datalogmill$Body", name := "variablesFrom", desc := "(II)I" } : MethodName) ∈ GW := inGW (List.mem_of_getElem? (i := 955) (by rfl)) (by decide +kernel)
theorem lkX0_64 : LK "Datalogmill$Body" 64 yX0_variablesFrom := Or.inl mw955
set_option maxRecDepth 20000 in
theorem mw958 : Cond.code yX0_variablesFrom cX0_variablesFrom 5 (some .int) ∈ GW := inGW (List.mem_of_getElem? (i := 958) (by rfl)) (by decide +kernel)
theorem ml_Bo_variablesFrom : ML yX0_variablesFrom cX0_variablesFrom 5 (some .int) 2 := ⟨mw958, mw116, by decide +kernel, by decide +kernel, by decide +kernel⟩
set_option maxRecDepth 20000 in
theorem mw957 : Cond.instanceMethod ({ cls := "Datalogmill$Body", name := "variablesFrom", desc := "(II)I" } : MethodName) ∈ GW := inGW (List.mem_of_getElem? (i := 957) (by rfl)) (by decide +kernel)
set_option maxRecDepth 20000 in
theorem mw67 : Cond.selects RX0 yX0_variablesFrom yX0_variablesFrom ∈ GW := inGW (List.mem_of_getElem? (i := 67) (by rfl)) (by decide +kernel)
theorem vl_Bo_variablesFrom : VL yX0_variablesFrom := ⟨mw957, mw67⟩
set_option maxRecDepth 20000 in
theorem mw1283 : Cond.methodLink "Datalogmill$Body" (67 : Nat) ({ cls := "Datalogmill$Body", name := "boundVariables", desc := "()I" } : MethodName) ∈ GW := inGW (List.mem_of_getElem? (i := 1283) (by rfl)) (by decide +kernel)
theorem lkX0_67 : LK "Datalogmill$Body" 67 yX0_boundVariables := Or.inl mw1283
set_option maxRecDepth 20000 in
theorem mw954 : Cond.code yX0_boundVariables cX0_boundVariables 5 (some .int) ∈ GW := inGW (List.mem_of_getElem? (i := 954) (by rfl)) (by decide +kernel)
theorem ml_Bo_boundVariables : ML yX0_boundVariables cX0_boundVariables 5 (some .int) 0 := ⟨mw954, mw116, by decide +kernel, by decide +kernel, by decide +kernel⟩
set_option maxRecDepth 20000 in
theorem mw953 : Cond.instanceMethod ({ cls := "Datalogmill$Body", name := "boundVariables", desc := "()I" } : MethodName) ∈ GW := inGW (List.mem_of_getElem? (i := 953) (by rfl)) (by decide +kernel)
set_option maxRecDepth 20000 in
theorem mw66 : Cond.selects RX0 yX0_boundVariables yX0_boundVariables ∈ GW := inGW (List.mem_of_getElem? (i := 66) (by rfl)) (by decide +kernel)
theorem vl_Bo_boundVariables : VL yX0_boundVariables := ⟨mw953, mw66⟩
theorem fpX2_31 : FP RX2 31 TA 3 0 .int := ⟨RX2, TX2, 8, rfl, ⟨by decide, by decide, by decide⟩, inWX2, Or.inl mw165, ⟨tyX2, tyX2_ok, rfl⟩, nmX2, rfl⟩
set_option maxRecDepth 20000 in
theorem mw168 : Cond.fieldLink "Datalogmill$Facts" (35 : Nat) "Datalogmill$Facts" "left" "I" ∈ GW := inGW (List.mem_of_getElem? (i := 168) (by rfl)) (by decide +kernel)
theorem flX2_35 : FL RX2 35 TA 3 1 := ⟨RX2, TX2, 8, rfl, ⟨by decide, by decide, by decide⟩, inWX2, Or.inl mw168⟩
theorem fpX2_35 : FP RX2 35 TA 3 1 .int := ⟨RX2, TX2, 8, rfl, ⟨by decide, by decide, by decide⟩, inWX2, Or.inl mw168, ⟨tyX2, tyX2_ok, rfl⟩, nmX2, rfl⟩
set_option maxRecDepth 20000 in
theorem mw1216 : Cond.constant "java/lang/Integer" (265 : Nat) (1431655765 : Int32) ∈ GW := inGW (List.mem_of_getElem? (i := 1216) (by rfl)) (by decide +kernel)
theorem kcJ6_265 : Cond.constant RJ6 265 (ii (1431655765)) ∈ GW := by
  rw [show ii (1431655765) = (1431655765 : Int32) by decide]
  exact mw1216
theorem rl1431655765 : R32 (1431655765) := ⟨by decide, by decide⟩
set_option maxRecDepth 20000 in
theorem mw1217 : Cond.constant "java/lang/Integer" (266 : Nat) (858993459 : Int32) ∈ GW := inGW (List.mem_of_getElem? (i := 1217) (by rfl)) (by decide +kernel)
theorem kcJ6_266 : Cond.constant RJ6 266 (ii (858993459)) ∈ GW := by
  rw [show ii (858993459) = (858993459 : Int32) by decide]
  exact mw1217
theorem rl858993459 : R32 (858993459) := ⟨by decide, by decide⟩
set_option maxRecDepth 20000 in
theorem mw1218 : Cond.constant "java/lang/Integer" (267 : Nat) (252645135 : Int32) ∈ GW := inGW (List.mem_of_getElem? (i := 1218) (by rfl)) (by decide +kernel)
theorem kcJ6_267 : Cond.constant RJ6 267 (ii (252645135)) ∈ GW := by
  rw [show ii (252645135) = (252645135 : Int32) by decide]
  exact mw1218
theorem rl252645135 : R32 (252645135) := ⟨by decide, by decide⟩
theorem rl16 : R32 (16) := ⟨by decide, by decide⟩
theorem rl63 : R32 (63) := ⟨by decide, by decide⟩
set_option maxRecDepth 20000 in
theorem mt1219 : Cond.methodLinkNest "Datalogmill$Plan" (43 : Nat) ({ cls := "Datalogmill$Body", name := "formOf", desc := "(I)I" } : MethodName) "Datalogmill" ∈ lw_tbl := List.mem_of_getElem? (i := 1219) (by rfl)
theorem lkX6_43 : LK "Datalogmill$Plan" 43 yX0_formOf := Or.inr ⟨_, mt1219⟩
set_option maxRecDepth 20000 in
theorem mt207 : Cond.fieldLinkNest "Datalogmill$Plan" (22 : Nat) "Datalogmill$Body" "count" "I" "Datalogmill" ∈ lw_tbl := List.mem_of_getElem? (i := 207) (by rfl)
theorem flX6_22 : FL RX6 22 TA 1 0 := ⟨RX0, TX0, 6, rfl, ⟨by decide, by decide, by decide⟩, inWX0, Or.inr ⟨_, mt207⟩⟩
theorem flX6_9 : FL RX6 9 TA 7 1 := ⟨RX6, TX6, 3, rfl, ⟨by decide, by decide, by decide⟩, inWX6, Or.inl mw392⟩
theorem flX6_15 : FL RX6 15 TA 7 2 := ⟨RX6, TX6, 3, rfl, ⟨by decide, by decide, by decide⟩, inWX6, Or.inl mw393⟩
set_option maxRecDepth 20000 in
theorem mw391 : Cond.fieldLink "Datalogmill$Plan" (18 : Nat) "Datalogmill$Plan" "count" "I" ∈ GW := inGW (List.mem_of_getElem? (i := 391) (by rfl)) (by decide +kernel)
theorem flX6_18 : FL RX6 18 TA 7 0 := ⟨RX6, TX6, 3, rfl, ⟨by decide, by decide, by decide⟩, inWX6, Or.inl mw391⟩
theorem fpX6_18 : FP RX6 18 TA 7 0 .int := ⟨RX6, TX6, 3, rfl, ⟨by decide, by decide, by decide⟩, inWX6, Or.inl mw391, ⟨tyX6, tyX6_ok, rfl⟩, nmX6, rfl⟩
set_option maxRecDepth 20000 in
theorem mt1220 : Cond.methodLinkNest "Datalogmill$Plan" (46 : Nat) ({ cls := "Datalogmill$Body", name := "variablesFrom", desc := "(II)I" } : MethodName) "Datalogmill" ∈ lw_tbl := List.mem_of_getElem? (i := 1220) (by rfl)
theorem lkX6_46 : LK "Datalogmill$Plan" 46 yX0_variablesFrom := Or.inr ⟨_, mt1220⟩
set_option maxRecDepth 20000 in
theorem mt1207 : Cond.methodLinkNest "Datalogmill$Plan" (25 : Nat) ({ cls := "Datalogmill$Body", name := "subjectOf", desc := "(I)I" } : MethodName) "Datalogmill" ∈ lw_tbl := List.mem_of_getElem? (i := 1207) (by rfl)
theorem lkX6_25 : LK "Datalogmill$Plan" 25 yX0_subjectOf := Or.inr ⟨_, mt1207⟩
set_option maxRecDepth 20000 in
theorem mt1208 : Cond.methodLinkNest "Datalogmill$Plan" (29 : Nat) ({ cls := "Datalogmill$Schema", name := "columnsOf", desc := "(I)I" } : MethodName) "Datalogmill" ∈ lw_tbl := List.mem_of_getElem? (i := 1208) (by rfl)
theorem lkX6_29 : LK "Datalogmill$Plan" 29 yX8_columnsOf := Or.inr ⟨_, mt1208⟩
set_option maxRecDepth 20000 in
theorem mt1209 : Cond.methodLinkNest "Datalogmill$Plan" (34 : Nat) ({ cls := "Datalogmill$Body", name := "knownColumns", desc := "(III)I" } : MethodName) "Datalogmill" ∈ lw_tbl := List.mem_of_getElem? (i := 1209) (by rfl)
theorem lkX6_34 : LK "Datalogmill$Plan" 34 yX0_knownColumns := Or.inr ⟨_, mt1209⟩
set_option maxRecDepth 20000 in
theorem mw1212 : Cond.code yX0_knownColumns cX0_knownColumns 7 (some .int) ∈ GW := inGW (List.mem_of_getElem? (i := 1212) (by rfl)) (by decide +kernel)
theorem ml_Bo_knownColumns : ML yX0_knownColumns cX0_knownColumns 7 (some .int) 3 := ⟨mw1212, mw116, by decide +kernel, by decide +kernel, by decide +kernel⟩
set_option maxRecDepth 20000 in
theorem mw1211 : Cond.instanceMethod ({ cls := "Datalogmill$Body", name := "knownColumns", desc := "(III)I" } : MethodName) ∈ GW := inGW (List.mem_of_getElem? (i := 1211) (by rfl)) (by decide +kernel)
set_option maxRecDepth 20000 in
theorem mw99 : Cond.selects RX0 yX0_knownColumns yX0_knownColumns ∈ GW := inGW (List.mem_of_getElem? (i := 99) (by rfl)) (by decide +kernel)
theorem vl_Bo_knownColumns : VL yX0_knownColumns := ⟨mw1211, mw99⟩
set_option maxRecDepth 20000 in
theorem mw1213 : Cond.methodLink "Datalogmill$Plan" (38 : Nat) ({ cls := "java/lang/Integer", name := "bitCount", desc := "(I)I" } : MethodName) ∈ GW := inGW (List.mem_of_getElem? (i := 1213) (by rfl)) (by decide +kernel)
theorem lkX6_38 : LK "Datalogmill$Plan" 38 yJ6_bitCount_0f7a4 := Or.inl mw1213
set_option maxRecDepth 20000 in
theorem mw1215 : Cond.code yJ6_bitCount_0f7a4 cJ6_bitCount_0f7a4 1 (some .int) ∈ GW := inGW (List.mem_of_getElem? (i := 1215) (by rfl)) (by decide +kernel)
set_option maxRecDepth 20000 in
theorem mw130 : Cond.initialized "java/lang/Integer" ∈ GW := inGW (List.mem_of_getElem? (i := 130) (by rfl)) (by decide +kernel)
theorem ml_In_bitCount : ML yJ6_bitCount_0f7a4 cJ6_bitCount_0f7a4 1 (some .int) 1 := ⟨mw1215, mw130, by decide +kernel, by decide +kernel, by decide +kernel⟩
set_option maxRecDepth 20000 in
theorem mw1214 : Cond.static ({ cls := "java/lang/Integer", name := "bitCount", desc := "(I)I" } : MethodName) ∈ GW := inGW (List.mem_of_getElem? (i := 1214) (by rfl)) (by decide +kernel)
theorem rlm2 : R32 (-2) := ⟨by decide, by decide⟩
set_option maxRecDepth 20000 in
theorem mw1258 : Cond.methodLink "Datalogmill$Plan" (50 : Nat) ({ cls := "Datalogmill$Plan", name := "placeAt", desc := "(I)I" } : MethodName) ∈ GW := inGW (List.mem_of_getElem? (i := 1258) (by rfl)) (by decide +kernel)
theorem lkX6_50 : LK "Datalogmill$Plan" 50 yX6_placeAt := Or.inl mw1258
set_option maxRecDepth 20000 in
theorem mw1224 : Cond.code yX6_placeAt cX6_placeAt 2 (some .int) ∈ GW := inGW (List.mem_of_getElem? (i := 1224) (by rfl)) (by decide +kernel)
theorem ml_Pl_placeAt : ML yX6_placeAt cX6_placeAt 2 (some .int) 1 := ⟨mw1224, mw122, by decide +kernel, by decide +kernel, by decide +kernel⟩
set_option maxRecDepth 20000 in
theorem mw1223 : Cond.instanceMethod ({ cls := "Datalogmill$Plan", name := "placeAt", desc := "(I)I" } : MethodName) ∈ GW := inGW (List.mem_of_getElem? (i := 1223) (by rfl)) (by decide +kernel)
set_option maxRecDepth 20000 in
theorem mw100 : Cond.selects RX6 yX6_placeAt yX6_placeAt ∈ GW := inGW (List.mem_of_getElem? (i := 100) (by rfl)) (by decide +kernel)
theorem vl_Pl_placeAt : VL yX6_placeAt := ⟨mw1223, mw100⟩
set_option maxRecDepth 20000 in
theorem mw241 : Cond.fieldLink "Datalogmill$Program" (33 : Nat) "Datalogmill$Program" "ruleCount" "I" ∈ GW := inGW (List.mem_of_getElem? (i := 241) (by rfl)) (by decide +kernel)
theorem flX7_33 : FL RX7 33 TA 8 4 := ⟨RX7, TX7, 8, rfl, ⟨by decide, by decide, by decide⟩, inWX7, Or.inl mw241⟩
set_option maxRecDepth 20000 in
theorem mw907 : Cond.methodLink "Datalogmill$Program" (37 : Nat) ({ cls := "Datalogmill$Program", name := "rule", desc := "(I)LDatalogmill$Body;" } : MethodName) ∈ GW := inGW (List.mem_of_getElem? (i := 907) (by rfl)) (by decide +kernel)
theorem lkX7_37 : LK "Datalogmill$Program" 37 yX7_rule := Or.inl mw907
set_option maxRecDepth 20000 in
theorem mt217 : Cond.fieldLinkNest "Datalogmill$Program" (41 : Nat) "Datalogmill$Body" "removed" "Z" "Datalogmill" ∈ lw_tbl := List.mem_of_getElem? (i := 217) (by rfl)
theorem flX7_41 : FL RX7 41 TA 1 2 := ⟨RX0, TX0, 6, rfl, ⟨by decide, by decide, by decide⟩, inWX0, Or.inr ⟨_, mt217⟩⟩
set_option maxRecDepth 20000 in
theorem mt970 : Cond.methodLinkNest "Datalogmill$Program" (45 : Nat) ({ cls := "Datalogmill$Body", name := "copy", desc := "(LDatalogmill$Body;)V" } : MethodName) "Datalogmill" ∈ lw_tbl := List.mem_of_getElem? (i := 970) (by rfl)
theorem lkX7_45 : LK "Datalogmill$Program" 45 yX0_copy := Or.inr ⟨_, mt970⟩
set_option maxRecDepth 20000 in
theorem mw973 : Cond.code yX0_copy cX0_copy 3 none ∈ GW := inGW (List.mem_of_getElem? (i := 973) (by rfl)) (by decide +kernel)
theorem ml_Bo_copy : ML yX0_copy cX0_copy 3 none 1 := ⟨mw973, mw116, by decide +kernel, by decide +kernel, by decide +kernel⟩
set_option maxRecDepth 20000 in
theorem mw972 : Cond.instanceMethod ({ cls := "Datalogmill$Body", name := "copy", desc := "(LDatalogmill$Body;)V" } : MethodName) ∈ GW := inGW (List.mem_of_getElem? (i := 972) (by rfl)) (by decide +kernel)
set_option maxRecDepth 20000 in
theorem mw70 : Cond.selects RX0 yX0_copy yX0_copy ∈ GW := inGW (List.mem_of_getElem? (i := 70) (by rfl)) (by decide +kernel)
theorem vl_Bo_copy : VL yX0_copy := ⟨mw972, mw70⟩
theorem fpX7_33 : FP RX7 33 TA 8 4 .int := ⟨RX7, TX7, 8, rfl, ⟨by decide, by decide, by decide⟩, inWX7, Or.inl mw241, ⟨tyX7, tyX7_ok, rfl⟩, nmX7, rfl⟩
set_option maxRecDepth 20000 in
theorem mt930 : Cond.methodLinkNest "Datalogmill$Program" (110 : Nat) ({ cls := "Datalogmill$Body", name := "mentions", desc := "(I)I" } : MethodName) "Datalogmill" ∈ lw_tbl := List.mem_of_getElem? (i := 930) (by rfl)
theorem lkX7_110 : LK "Datalogmill$Program" 110 yX0_mentions := Or.inr ⟨_, mt930⟩
set_option maxRecDepth 20000 in
theorem mw933 : Cond.code yX0_mentions cX0_mentions 5 (some .int) ∈ GW := inGW (List.mem_of_getElem? (i := 933) (by rfl)) (by decide +kernel)
theorem ml_Bo_mentions : ML yX0_mentions cX0_mentions 5 (some .int) 1 := ⟨mw933, mw116, by decide +kernel, by decide +kernel, by decide +kernel⟩
set_option maxRecDepth 20000 in
theorem mw932 : Cond.instanceMethod ({ cls := "Datalogmill$Body", name := "mentions", desc := "(I)I" } : MethodName) ∈ GW := inGW (List.mem_of_getElem? (i := 932) (by rfl)) (by decide +kernel)
set_option maxRecDepth 20000 in
theorem mw63 : Cond.selects RX0 yX0_mentions yX0_mentions ∈ GW := inGW (List.mem_of_getElem? (i := 63) (by rfl)) (by decide +kernel)
theorem vl_Bo_mentions : VL yX0_mentions := ⟨mw932, mw63⟩
theorem flX7_29 : FL RX7 29 TA 8 0 := ⟨RX7, TX7, 8, rfl, ⟨by decide, by decide, by decide⟩, inWX7, Or.inl mw237⟩
set_option maxRecDepth 20000 in
theorem mt214 : Cond.fieldLinkNest "Datalogmill$Program" (66 : Nat) "Datalogmill$Body" "target" "I" "Datalogmill" ∈ lw_tbl := List.mem_of_getElem? (i := 214) (by rfl)
theorem flX7_66 : FL RX7 66 TA 1 1 := ⟨RX0, TX0, 6, rfl, ⟨by decide, by decide, by decide⟩, inWX0, Or.inr ⟨_, mt214⟩⟩
set_option maxRecDepth 20000 in
theorem mt928 : Cond.methodLinkNest "Datalogmill$Program" (104 : Nat) ({ cls := "Datalogmill$Schema", name := "columnsOf", desc := "(I)I" } : MethodName) "Datalogmill" ∈ lw_tbl := List.mem_of_getElem? (i := 928) (by rfl)
theorem lkX7_104 : LK "Datalogmill$Program" 104 yX8_columnsOf := Or.inr ⟨_, mt928⟩
set_option maxRecDepth 20000 in
theorem mt929 : Cond.methodLinkNest "Datalogmill$Program" (107 : Nat) ({ cls := "Datalogmill$Body", name := "termOf", desc := "(II)I" } : MethodName) "Datalogmill" ∈ lw_tbl := List.mem_of_getElem? (i := 929) (by rfl)
theorem lkX7_107 : LK "Datalogmill$Program" 107 yX0_termOf := Or.inr ⟨_, mt929⟩
set_option maxRecDepth 20000 in
theorem mt935 : Cond.methodLinkNest "Datalogmill$Program" (113 : Nat) ({ cls := "Datalogmill$Body", name := "sumOver", desc := "(I)I" } : MethodName) "Datalogmill" ∈ lw_tbl := List.mem_of_getElem? (i := 935) (by rfl)
theorem lkX7_113 : LK "Datalogmill$Program" 113 yX0_sumOver := Or.inr ⟨_, mt935⟩
set_option maxRecDepth 20000 in
theorem mw938 : Cond.code yX0_sumOver cX0_sumOver 4 (some .int) ∈ GW := inGW (List.mem_of_getElem? (i := 938) (by rfl)) (by decide +kernel)
theorem ml_Bo_sumOver : ML yX0_sumOver cX0_sumOver 4 (some .int) 1 := ⟨mw938, mw116, by decide +kernel, by decide +kernel, by decide +kernel⟩
set_option maxRecDepth 20000 in
theorem mw937 : Cond.instanceMethod ({ cls := "Datalogmill$Body", name := "sumOver", desc := "(I)I" } : MethodName) ∈ GW := inGW (List.mem_of_getElem? (i := 937) (by rfl)) (by decide +kernel)
set_option maxRecDepth 20000 in
theorem mw64 : Cond.selects RX0 yX0_sumOver yX0_sumOver ∈ GW := inGW (List.mem_of_getElem? (i := 64) (by rfl)) (by decide +kernel)
theorem vl_Bo_sumOver : VL yX0_sumOver := ⟨mw937, mw64⟩
set_option maxRecDepth 20000 in
theorem mt916 : Cond.methodLinkNest "Datalogmill$Program" (76 : Nat) ({ cls := "Datalogmill$Body", name := "subjectOf", desc := "(I)I" } : MethodName) "Datalogmill" ∈ lw_tbl := List.mem_of_getElem? (i := 916) (by rfl)
theorem lkX7_76 : LK "Datalogmill$Program" 76 yX0_subjectOf := Or.inr ⟨_, mt916⟩
set_option maxRecDepth 20000 in
theorem mt923 : Cond.methodLinkNest "Datalogmill$Program" (96 : Nat) ({ cls := "Datalogmill$Schema", name := "kindOf", desc := "(I)I" } : MethodName) "Datalogmill" ∈ lw_tbl := List.mem_of_getElem? (i := 923) (by rfl)
theorem lkX7_96 : LK "Datalogmill$Program" 96 yX8_kindOf := Or.inr ⟨_, mt923⟩
set_option maxRecDepth 20000 in
theorem mt922 : Cond.methodLinkNest "Datalogmill$Program" (93 : Nat) ({ cls := "Datalogmill$Body", name := "formOf", desc := "(I)I" } : MethodName) "Datalogmill" ∈ lw_tbl := List.mem_of_getElem? (i := 922) (by rfl)
theorem lkX7_93 : LK "Datalogmill$Program" 93 yX0_formOf := Or.inr ⟨_, mt922⟩
set_option maxRecDepth 20000 in
theorem mw924 : Cond.methodLink "Datalogmill$Program" (101 : Nat) ({ cls := "Datalogmill$Program", name := "grows", desc := "(LDatalogmill$Body;I)Z" } : MethodName) ∈ GW := inGW (List.mem_of_getElem? (i := 924) (by rfl)) (by decide +kernel)
theorem lkX7_101 : LK "Datalogmill$Program" 101 yX7_grows := Or.inl mw924
set_option maxRecDepth 20000 in
theorem mw927 : Cond.code yX7_grows cX7_grows 10 (some .boolean) ∈ GW := inGW (List.mem_of_getElem? (i := 927) (by rfl)) (by decide +kernel)
theorem ml_Pr_grows : ML yX7_grows cX7_grows 10 (some .boolean) 2 := ⟨mw927, mw115, by decide +kernel, by decide +kernel, by decide +kernel⟩
set_option maxRecDepth 20000 in
theorem mw926 : Cond.instanceMethod ({ cls := "Datalogmill$Program", name := "grows", desc := "(LDatalogmill$Body;I)Z" } : MethodName) ∈ GW := inGW (List.mem_of_getElem? (i := 926) (by rfl)) (by decide +kernel)
set_option maxRecDepth 20000 in
theorem mw62 : Cond.selects RX7 yX7_grows yX7_grows ∈ GW := inGW (List.mem_of_getElem? (i := 62) (by rfl)) (by decide +kernel)
theorem vl_Pr_grows : VL yX7_grows := ⟨mw926, mw62⟩
set_option maxRecDepth 20000 in
theorem mw248 : Cond.fieldLink "Datalogmill$Program" (59 : Nat) "Datalogmill$Program" "top" "I" ∈ GW := inGW (List.mem_of_getElem? (i := 248) (by rfl)) (by decide +kernel)
theorem flX7_59 : FL RX7 59 TA 8 7 := ⟨RX7, TX7, 8, rfl, ⟨by decide, by decide, by decide⟩, inWX7, Or.inl mw248⟩
set_option maxRecDepth 20000 in
theorem mw939 : Cond.methodLink "Datalogmill$Program" 87 Lib.Math.max.name ∈ GW := inGW (List.mem_of_getElem? (i := 939) (by rfl)) (by decide +kernel)
theorem fpX7_59 : FP RX7 59 TA 8 7 .int := ⟨RX7, TX7, 8, rfl, ⟨by decide, by decide, by decide⟩, inWX7, Or.inl mw248, ⟨tyX7, tyX7_ok, rfl⟩, nmX7, rfl⟩
set_option maxRecDepth 20000 in
theorem mt210 : Cond.fieldLinkNest "Datalogmill$Program" (69 : Nat) "Datalogmill$Body" "count" "I" "Datalogmill" ∈ lw_tbl := List.mem_of_getElem? (i := 210) (by rfl)
theorem flX7_69 : FL RX7 69 TA 1 0 := ⟨RX0, TX0, 6, rfl, ⟨by decide, by decide, by decide⟩, inWX0, Or.inr ⟨_, mt210⟩⟩
set_option maxRecDepth 20000 in
theorem mt912 : Cond.methodLinkNest "Datalogmill$Program" (72 : Nat) ({ cls := "Datalogmill$Body", name := "isAtom", desc := "(I)Z" } : MethodName) "Datalogmill" ∈ lw_tbl := List.mem_of_getElem? (i := 912) (by rfl)
theorem lkX7_72 : LK "Datalogmill$Program" 72 yX0_isAtom := Or.inr ⟨_, mt912⟩
set_option maxRecDepth 20000 in
theorem mw917 : Cond.methodLink "Datalogmill$Program" (80 : Nat) ({ cls := "Datalogmill$Program", name := "levelOf", desc := "(I)I" } : MethodName) ∈ GW := inGW (List.mem_of_getElem? (i := 917) (by rfl)) (by decide +kernel)
theorem lkX7_80 : LK "Datalogmill$Program" 80 yX7_levelOf := Or.inl mw917
set_option maxRecDepth 20000 in
theorem mw918 : Cond.methodLink "Datalogmill$Program" (83 : Nat) ({ cls := "Datalogmill$Program", name := "isAbove", desc := "(LDatalogmill$Body;I)Z" } : MethodName) ∈ GW := inGW (List.mem_of_getElem? (i := 918) (by rfl)) (by decide +kernel)
theorem lkX7_83 : LK "Datalogmill$Program" 83 yX7_isAbove := Or.inl mw918
set_option maxRecDepth 20000 in
theorem mw921 : Cond.code yX7_isAbove cX7_isAbove 3 (some .boolean) ∈ GW := inGW (List.mem_of_getElem? (i := 921) (by rfl)) (by decide +kernel)
theorem ml_Pr_isAbove : ML yX7_isAbove cX7_isAbove 3 (some .boolean) 2 := ⟨mw921, mw115, by decide +kernel, by decide +kernel, by decide +kernel⟩
set_option maxRecDepth 20000 in
theorem mw920 : Cond.instanceMethod ({ cls := "Datalogmill$Program", name := "isAbove", desc := "(LDatalogmill$Body;I)Z" } : MethodName) ∈ GW := inGW (List.mem_of_getElem? (i := 920) (by rfl)) (by decide +kernel)
set_option maxRecDepth 20000 in
theorem mw61 : Cond.selects RX7 yX7_isAbove yX7_isAbove ∈ GW := inGW (List.mem_of_getElem? (i := 61) (by rfl)) (by decide +kernel)
theorem vl_Pr_isAbove : VL yX7_isAbove := ⟨mw920, mw61⟩
set_option maxRecDepth 20000 in
theorem mw908 : Cond.methodLink "Datalogmill$Program" (62 : Nat) ({ cls := "Datalogmill$Program", name := "raise", desc := "(LDatalogmill$Body;)Z" } : MethodName) ∈ GW := inGW (List.mem_of_getElem? (i := 908) (by rfl)) (by decide +kernel)
theorem lkX7_62 : LK "Datalogmill$Program" 62 yX7_raise := Or.inl mw908
set_option maxRecDepth 20000 in
theorem mw911 : Cond.code yX7_raise cX7_raise 6 (some .boolean) ∈ GW := inGW (List.mem_of_getElem? (i := 911) (by rfl)) (by decide +kernel)
theorem ml_Pr_raise : ML yX7_raise cX7_raise 6 (some .boolean) 1 := ⟨mw911, mw115, by decide +kernel, by decide +kernel, by decide +kernel⟩
set_option maxRecDepth 20000 in
theorem mw910 : Cond.instanceMethod ({ cls := "Datalogmill$Program", name := "raise", desc := "(LDatalogmill$Body;)Z" } : MethodName) ∈ GW := inGW (List.mem_of_getElem? (i := 910) (by rfl)) (by decide +kernel)
set_option maxRecDepth 20000 in
theorem mw59 : Cond.selects RX7 yX7_raise yX7_raise ∈ GW := inGW (List.mem_of_getElem? (i := 59) (by rfl)) (by decide +kernel)
theorem vl_Pr_raise : VL yX7_raise := ⟨mw910, mw59⟩
set_option maxRecDepth 20000 in
theorem mw1294 : Cond.methodLink "Datalogmill$Program" (49 : Nat) ({ cls := "Datalogmill$Program", name := "stratify", desc := "()Z" } : MethodName) ∈ GW := inGW (List.mem_of_getElem? (i := 1294) (by rfl)) (by decide +kernel)
theorem lkX7_49 : LK "Datalogmill$Program" 49 yX7_stratify := Or.inl mw1294
set_option maxRecDepth 20000 in
theorem mw906 : Cond.code yX7_stratify cX7_stratify 4 (some .boolean) ∈ GW := inGW (List.mem_of_getElem? (i := 906) (by rfl)) (by decide +kernel)
theorem ml_Pr_stratify : ML yX7_stratify cX7_stratify 4 (some .boolean) 0 := ⟨mw906, mw115, by decide +kernel, by decide +kernel, by decide +kernel⟩
set_option maxRecDepth 20000 in
theorem mw905 : Cond.instanceMethod ({ cls := "Datalogmill$Program", name := "stratify", desc := "()Z" } : MethodName) ∈ GW := inGW (List.mem_of_getElem? (i := 905) (by rfl)) (by decide +kernel)
set_option maxRecDepth 20000 in
theorem mw58 : Cond.selects RX7 yX7_stratify yX7_stratify ∈ GW := inGW (List.mem_of_getElem? (i := 58) (by rfl)) (by decide +kernel)
theorem vl_Pr_stratify : VL yX7_stratify := ⟨mw905, mw58⟩
set_option maxRecDepth 20000 in
theorem mw244 : Cond.fieldLink "Datalogmill$Program" (53 : Nat) "Datalogmill$Program" "denialCount" "I" ∈ GW := inGW (List.mem_of_getElem? (i := 244) (by rfl)) (by decide +kernel)
theorem flX7_53 : FL RX7 53 TA 8 5 := ⟨RX7, TX7, 8, rfl, ⟨by decide, by decide, by decide⟩, inWX7, Or.inl mw244⟩
set_option maxRecDepth 20000 in
theorem mw966 : Cond.methodLink "Datalogmill$Program" (56 : Nat) ({ cls := "Datalogmill$Program", name := "denial", desc := "(I)LDatalogmill$Body;" } : MethodName) ∈ GW := inGW (List.mem_of_getElem? (i := 966) (by rfl)) (by decide +kernel)
theorem lkX7_56 : LK "Datalogmill$Program" 56 yX7_denial := Or.inl mw966
theorem fpX7_53 : FP RX7 53 TA 8 5 .int := ⟨RX7, TX7, 8, rfl, ⟨by decide, by decide, by decide⟩, inWX7, Or.inl mw244, ⟨tyX7, tyX7_ok, rfl⟩, nmX7, rfl⟩
set_option maxRecDepth 20000 in
theorem mw519 : Cond.methodLink "Datalogmill" (99 : Nat) ({ cls := "Datalogmill", name := "isKey", desc := "(III)Z" } : MethodName) ∈ GW := inGW (List.mem_of_getElem? (i := 519) (by rfl)) (by decide +kernel)
theorem lkX10_99 : LK "Datalogmill" 99 yX10_isKey := Or.inl mw519
set_option maxRecDepth 20000 in
theorem mw521 : Cond.code yX10_isKey cX10_isKey 3 (some .boolean) ∈ GW := inGW (List.mem_of_getElem? (i := 521) (by rfl)) (by decide +kernel)
theorem ml_Dm_isKey : ML yX10_isKey cX10_isKey 3 (some .boolean) 3 := ⟨mw521, mw112, by decide +kernel, by decide +kernel, by decide +kernel⟩
set_option maxRecDepth 20000 in
theorem mw520 : Cond.static ({ cls := "Datalogmill", name := "isKey", desc := "(III)Z" } : MethodName) ∈ GW := inGW (List.mem_of_getElem? (i := 520) (by rfl)) (by decide +kernel)
set_option maxRecDepth 20000 in
theorem mt538 : Cond.methodLinkNest "Datalogmill" (108 : Nat) ({ cls := "Datalogmill$Schema", name := "isDeclared", desc := "(I)Z" } : MethodName) "Datalogmill" ∈ lw_tbl := List.mem_of_getElem? (i := 538) (by rfl)
theorem lkX10_108 : LK "Datalogmill" 108 yX8_isDeclared := Or.inr ⟨_, mt538⟩
set_option maxRecDepth 20000 in
theorem mw541 : Cond.code yX8_isDeclared cX8_isDeclared 2 (some .boolean) ∈ GW := inGW (List.mem_of_getElem? (i := 541) (by rfl)) (by decide +kernel)
theorem ml_Sc_isDeclared : ML yX8_isDeclared cX8_isDeclared 2 (some .boolean) 1 := ⟨mw541, mw113, by decide +kernel, by decide +kernel, by decide +kernel⟩
set_option maxRecDepth 20000 in
theorem mw540 : Cond.instanceMethod ({ cls := "Datalogmill$Schema", name := "isDeclared", desc := "(I)Z" } : MethodName) ∈ GW := inGW (List.mem_of_getElem? (i := 540) (by rfl)) (by decide +kernel)
set_option maxRecDepth 20000 in
theorem mw1 : Cond.selects RX8 yX8_isDeclared yX8_isDeclared ∈ GW := inGW (List.mem_of_getElem? (i := 1) (by rfl)) (by decide +kernel)
theorem vl_Sc_isDeclared : VL yX8_isDeclared := ⟨mw540, mw1⟩
set_option maxRecDepth 20000 in
theorem mt562 : Cond.methodLinkNest "Datalogmill" (117 : Nat) ({ cls := "Datalogmill$Schema", name := "note", desc := "(IIII)V" } : MethodName) "Datalogmill" ∈ lw_tbl := List.mem_of_getElem? (i := 562) (by rfl)
theorem lkX10_117 : LK "Datalogmill" 117 yX8_note := Or.inr ⟨_, mt562⟩
set_option maxRecDepth 20000 in
theorem mw565 : Cond.code yX8_note cX8_note 5 none ∈ GW := inGW (List.mem_of_getElem? (i := 565) (by rfl)) (by decide +kernel)
theorem ml_Sc_note : ML yX8_note cX8_note 5 none 4 := ⟨mw565, mw113, by decide +kernel, by decide +kernel, by decide +kernel⟩
set_option maxRecDepth 20000 in
theorem mw564 : Cond.instanceMethod ({ cls := "Datalogmill$Schema", name := "note", desc := "(IIII)V" } : MethodName) ∈ GW := inGW (List.mem_of_getElem? (i := 564) (by rfl)) (by decide +kernel)
set_option maxRecDepth 20000 in
theorem mw3 : Cond.selects RX8 yX8_note yX8_note ∈ GW := inGW (List.mem_of_getElem? (i := 3) (by rfl)) (by decide +kernel)
theorem vl_Sc_note : VL yX8_note := ⟨mw564, mw3⟩
theorem rl100 : R32 (100) := ⟨by decide, by decide⟩
set_option maxRecDepth 20000 in
theorem mt609 : Cond.methodLinkNest "Datalogmill" (139 : Nat) ({ cls := "Datalogmill$Facts", name := "append", desc := "(IIIII)V" } : MethodName) "Datalogmill" ∈ lw_tbl := List.mem_of_getElem? (i := 609) (by rfl)
theorem lkX10_139 : LK "Datalogmill" 139 yX2_append := Or.inr ⟨_, mt609⟩
set_option maxRecDepth 20000 in
theorem mw612 : Cond.code yX2_append cX2_append 7 none ∈ GW := inGW (List.mem_of_getElem? (i := 612) (by rfl)) (by decide +kernel)
theorem ml_Fa_append : ML yX2_append cX2_append 7 none 5 := ⟨mw612, mw114, by decide +kernel, by decide +kernel, by decide +kernel⟩
set_option maxRecDepth 20000 in
theorem mw611 : Cond.instanceMethod ({ cls := "Datalogmill$Facts", name := "append", desc := "(IIIII)V" } : MethodName) ∈ GW := inGW (List.mem_of_getElem? (i := 611) (by rfl)) (by decide +kernel)
set_option maxRecDepth 20000 in
theorem mw5 : Cond.selects RX2 yX2_append yX2_append ∈ GW := inGW (List.mem_of_getElem? (i := 5) (by rfl)) (by decide +kernel)
theorem vl_Fa_append : VL yX2_append := ⟨mw611, mw5⟩
set_option maxRecDepth 20000 in
theorem mw613 : Cond.methodLink "Datalogmill" (143 : Nat) ({ cls := "Datalogmill", name := "renew", desc := "(II)Z" } : MethodName) ∈ GW := inGW (List.mem_of_getElem? (i := 613) (by rfl)) (by decide +kernel)
theorem lkX10_143 : LK "Datalogmill" 143 yX10_renew := Or.inl mw613
set_option maxRecDepth 20000 in
theorem mw616 : Cond.code yX10_renew cX10_renew 5 (some .boolean) ∈ GW := inGW (List.mem_of_getElem? (i := 616) (by rfl)) (by decide +kernel)
theorem ml_Dm_renew : ML yX10_renew cX10_renew 5 (some .boolean) 2 := ⟨mw616, mw112, by decide +kernel, by decide +kernel, by decide +kernel⟩
set_option maxRecDepth 20000 in
theorem mw615 : Cond.instanceMethod ({ cls := "Datalogmill", name := "renew", desc := "(II)Z" } : MethodName) ∈ GW := inGW (List.mem_of_getElem? (i := 615) (by rfl)) (by decide +kernel)
set_option maxRecDepth 20000 in
theorem mw6 : Cond.selects RX10 yX10_renew yX10_renew ∈ GW := inGW (List.mem_of_getElem? (i := 6) (by rfl)) (by decide +kernel)
theorem vl_Dm_renew : VL yX10_renew := ⟨mw615, mw6⟩
set_option maxRecDepth 20000 in
theorem mt809 : Cond.methodLinkNest "Datalogmill" (147 : Nat) ({ cls := "Datalogmill$Facts", name := "takeBack", desc := "()V" } : MethodName) "Datalogmill" ∈ lw_tbl := List.mem_of_getElem? (i := 809) (by rfl)
theorem lkX10_147 : LK "Datalogmill" 147 yX2_takeBack := Or.inr ⟨_, mt809⟩
set_option maxRecDepth 20000 in
theorem mw812 : Cond.code yX2_takeBack cX2_takeBack 1 none ∈ GW := inGW (List.mem_of_getElem? (i := 812) (by rfl)) (by decide +kernel)
theorem ml_Fa_takeBack : ML yX2_takeBack cX2_takeBack 1 none 0 := ⟨mw812, mw114, by decide +kernel, by decide +kernel, by decide +kernel⟩
set_option maxRecDepth 20000 in
theorem mw811 : Cond.instanceMethod ({ cls := "Datalogmill$Facts", name := "takeBack", desc := "()V" } : MethodName) ∈ GW := inGW (List.mem_of_getElem? (i := 811) (by rfl)) (by decide +kernel)
set_option maxRecDepth 20000 in
theorem mw48 : Cond.selects RX2 yX2_takeBack yX2_takeBack ∈ GW := inGW (List.mem_of_getElem? (i := 48) (by rfl)) (by decide +kernel)
theorem vl_Fa_takeBack : VL yX2_takeBack := ⟨mw811, mw48⟩
set_option maxRecDepth 20000 in
theorem mt822 : Cond.methodLinkNest "Datalogmill" (154 : Nat) ({ cls := "Datalogmill$Facts", name := "isDropped", desc := "(I)Z" } : MethodName) "Datalogmill" ∈ lw_tbl := List.mem_of_getElem? (i := 822) (by rfl)
theorem lkX10_154 : LK "Datalogmill" 154 yX2_isDropped := Or.inr ⟨_, mt822⟩
set_option maxRecDepth 20000 in
theorem mw825 : Cond.code yX2_isDropped cX2_isDropped 2 (some .boolean) ∈ GW := inGW (List.mem_of_getElem? (i := 825) (by rfl)) (by decide +kernel)
theorem ml_Fa_isDropped : ML yX2_isDropped cX2_isDropped 2 (some .boolean) 1 := ⟨mw825, mw114, by decide +kernel, by decide +kernel, by decide +kernel⟩
set_option maxRecDepth 20000 in
theorem mw824 : Cond.instanceMethod ({ cls := "Datalogmill$Facts", name := "isDropped", desc := "(I)Z" } : MethodName) ∈ GW := inGW (List.mem_of_getElem? (i := 824) (by rfl)) (by decide +kernel)
set_option maxRecDepth 20000 in
theorem mw49 : Cond.selects RX2 yX2_isDropped yX2_isDropped ∈ GW := inGW (List.mem_of_getElem? (i := 49) (by rfl)) (by decide +kernel)
theorem vl_Fa_isDropped : VL yX2_isDropped := ⟨mw824, mw49⟩
set_option maxRecDepth 20000 in
theorem mt827 : Cond.methodLinkNest "Datalogmill" (159 : Nat) ({ cls := "Datalogmill$Facts", name := "setDropped", desc := "(IZ)V" } : MethodName) "Datalogmill" ∈ lw_tbl := List.mem_of_getElem? (i := 827) (by rfl)
theorem lkX10_159 : LK "Datalogmill" 159 yX2_setDropped := Or.inr ⟨_, mt827⟩
set_option maxRecDepth 20000 in
theorem mw830 : Cond.code yX2_setDropped cX2_setDropped 3 none ∈ GW := inGW (List.mem_of_getElem? (i := 830) (by rfl)) (by decide +kernel)
theorem ml_Fa_setDropped : ML yX2_setDropped cX2_setDropped 3 none 2 := ⟨mw830, mw114, by decide +kernel, by decide +kernel, by decide +kernel⟩
set_option maxRecDepth 20000 in
theorem mw829 : Cond.instanceMethod ({ cls := "Datalogmill$Facts", name := "setDropped", desc := "(IZ)V" } : MethodName) ∈ GW := inGW (List.mem_of_getElem? (i := 829) (by rfl)) (by decide +kernel)
set_option maxRecDepth 20000 in
theorem mw50 : Cond.selects RX2 yX2_setDropped yX2_setDropped ∈ GW := inGW (List.mem_of_getElem? (i := 50) (by rfl)) (by decide +kernel)
theorem vl_Fa_setDropped : VL yX2_setDropped := ⟨mw829, mw50⟩
set_option maxRecDepth 20000 in
theorem mt831 : Cond.methodLinkNest "Datalogmill" (163 : Nat) ({ cls := "Datalogmill$Facts", name := "fromOf", desc := "(I)I" } : MethodName) "Datalogmill" ∈ lw_tbl := List.mem_of_getElem? (i := 831) (by rfl)
theorem lkX10_163 : LK "Datalogmill" 163 yX2_fromOf := Or.inr ⟨_, mt831⟩
set_option maxRecDepth 20000 in
theorem mw834 : Cond.code yX2_fromOf cX2_fromOf 2 (some .int) ∈ GW := inGW (List.mem_of_getElem? (i := 834) (by rfl)) (by decide +kernel)
theorem ml_Fa_fromOf : ML yX2_fromOf cX2_fromOf 2 (some .int) 1 := ⟨mw834, mw114, by decide +kernel, by decide +kernel, by decide +kernel⟩
set_option maxRecDepth 20000 in
theorem mw833 : Cond.instanceMethod ({ cls := "Datalogmill$Facts", name := "fromOf", desc := "(I)I" } : MethodName) ∈ GW := inGW (List.mem_of_getElem? (i := 833) (by rfl)) (by decide +kernel)
set_option maxRecDepth 20000 in
theorem mw51 : Cond.selects RX2 yX2_fromOf yX2_fromOf ∈ GW := inGW (List.mem_of_getElem? (i := 51) (by rfl)) (by decide +kernel)
theorem vl_Fa_fromOf : VL yX2_fromOf := ⟨mw833, mw51⟩
set_option maxRecDepth 20000 in
theorem mt835 : Cond.methodLinkNest "Datalogmill" (167 : Nat) ({ cls := "Datalogmill$Facts", name := "toOf", desc := "(I)I" } : MethodName) "Datalogmill" ∈ lw_tbl := List.mem_of_getElem? (i := 835) (by rfl)
theorem lkX10_167 : LK "Datalogmill" 167 yX2_toOf := Or.inr ⟨_, mt835⟩
set_option maxRecDepth 20000 in
theorem mw838 : Cond.code yX2_toOf cX2_toOf 2 (some .int) ∈ GW := inGW (List.mem_of_getElem? (i := 838) (by rfl)) (by decide +kernel)
theorem ml_Fa_toOf : ML yX2_toOf cX2_toOf 2 (some .int) 1 := ⟨mw838, mw114, by decide +kernel, by decide +kernel, by decide +kernel⟩
set_option maxRecDepth 20000 in
theorem mw837 : Cond.instanceMethod ({ cls := "Datalogmill$Facts", name := "toOf", desc := "(I)I" } : MethodName) ∈ GW := inGW (List.mem_of_getElem? (i := 837) (by rfl)) (by decide +kernel)
set_option maxRecDepth 20000 in
theorem mw52 : Cond.selects RX2 yX2_toOf yX2_toOf ∈ GW := inGW (List.mem_of_getElem? (i := 52) (by rfl)) (by decide +kernel)
theorem vl_Fa_toOf : VL yX2_toOf := ⟨mw837, mw52⟩
set_option maxRecDepth 20000 in
theorem mt169 : Cond.fieldLinkNest "Datalogmill" (170 : Nat) "Datalogmill$Facts" "left" "I" "Datalogmill" ∈ lw_tbl := List.mem_of_getElem? (i := 169) (by rfl)
theorem flX10_170 : FL RX10 170 TA 3 1 := ⟨RX2, TX2, 8, rfl, ⟨by decide, by decide, by decide⟩, inWX2, Or.inr ⟨_, mt169⟩⟩
theorem fpX10_173 : FP RX10 173 TA 11 12 .int := ⟨RX10, TX10, 13, rfl, ⟨by decide, by decide, by decide⟩, inWX10, Or.inl mw413, ⟨tyX10, tyX10_ok, rfl⟩, nmX10, rfl⟩
set_option maxRecDepth 20000 in
theorem mt847 : Cond.methodLinkNest "Datalogmill" (184 : Nat) ({ cls := "Datalogmill$Body", name := "setHead", desc := "(IIII)V" } : MethodName) "Datalogmill" ∈ lw_tbl := List.mem_of_getElem? (i := 847) (by rfl)
theorem lkX10_184 : LK "Datalogmill" 184 yX0_setHead := Or.inr ⟨_, mt847⟩
set_option maxRecDepth 20000 in
theorem mt869 : Cond.methodLinkNest "Datalogmill" (194 : Nat) ({ cls := "Datalogmill$Body", name := "push", desc := "(IIIII)I" } : MethodName) "Datalogmill" ∈ lw_tbl := List.mem_of_getElem? (i := 869) (by rfl)
theorem lkX10_194 : LK "Datalogmill" 194 yX0_push := Or.inr ⟨_, mt869⟩
set_option maxRecDepth 20000 in
theorem mt863 : Cond.methodLinkNest "Datalogmill" (188 : Nat) ({ cls := "Datalogmill$Body", name := "holdingAtoms", desc := "()I" } : MethodName) "Datalogmill" ∈ lw_tbl := List.mem_of_getElem? (i := 863) (by rfl)
theorem lkX10_188 : LK "Datalogmill" 188 yX0_holdingAtoms := Or.inr ⟨_, mt863⟩
set_option maxRecDepth 20000 in
theorem mw866 : Cond.code yX0_holdingAtoms cX0_holdingAtoms 3 (some .int) ∈ GW := inGW (List.mem_of_getElem? (i := 866) (by rfl)) (by decide +kernel)
theorem ml_Bo_holdingAtoms : ML yX0_holdingAtoms cX0_holdingAtoms 3 (some .int) 0 := ⟨mw866, mw116, by decide +kernel, by decide +kernel, by decide +kernel⟩
set_option maxRecDepth 20000 in
theorem mw865 : Cond.instanceMethod ({ cls := "Datalogmill$Body", name := "holdingAtoms", desc := "()I" } : MethodName) ∈ GW := inGW (List.mem_of_getElem? (i := 865) (by rfl)) (by decide +kernel)
set_option maxRecDepth 20000 in
theorem mw55 : Cond.selects RX0 yX0_holdingAtoms yX0_holdingAtoms ∈ GW := inGW (List.mem_of_getElem? (i := 55) (by rfl)) (by decide +kernel)
theorem vl_Bo_holdingAtoms : VL yX0_holdingAtoms := ⟨mw865, mw55⟩
set_option maxRecDepth 20000 in
theorem mt1290 : Cond.methodLinkNest "Datalogmill" (228 : Nat) ({ cls := "Datalogmill$Program", name := "takeBack", desc := "()V" } : MethodName) "Datalogmill" ∈ lw_tbl := List.mem_of_getElem? (i := 1290) (by rfl)
theorem lkX10_228 : LK "Datalogmill" 228 yX7_takeBack := Or.inr ⟨_, mt1290⟩
set_option maxRecDepth 20000 in
theorem mw1293 : Cond.code yX7_takeBack cX7_takeBack 1 none ∈ GW := inGW (List.mem_of_getElem? (i := 1293) (by rfl)) (by decide +kernel)
theorem ml_Pr_takeBack : ML yX7_takeBack cX7_takeBack 1 none 0 := ⟨mw1293, mw115, by decide +kernel, by decide +kernel, by decide +kernel⟩
set_option maxRecDepth 20000 in
theorem mw1292 : Cond.instanceMethod ({ cls := "Datalogmill$Program", name := "takeBack", desc := "()V" } : MethodName) ∈ GW := inGW (List.mem_of_getElem? (i := 1292) (by rfl)) (by decide +kernel)
set_option maxRecDepth 20000 in
theorem mw107 : Cond.selects RX7 yX7_takeBack yX7_takeBack ∈ GW := inGW (List.mem_of_getElem? (i := 107) (by rfl)) (by decide +kernel)
theorem vl_Pr_takeBack : VL yX7_takeBack := ⟨mw1292, mw107⟩
set_option maxRecDepth 20000 in
theorem mt1279 : Cond.methodLinkNest "Datalogmill" (211 : Nat) ({ cls := "Datalogmill$Body", name := "isSafe", desc := "()Z" } : MethodName) "Datalogmill" ∈ lw_tbl := List.mem_of_getElem? (i := 1279) (by rfl)
theorem lkX10_211 : LK "Datalogmill" 211 yX0_isSafe := Or.inr ⟨_, mt1279⟩
set_option maxRecDepth 20000 in
theorem mw1282 : Cond.code yX0_isSafe cX0_isSafe 2 (some .boolean) ∈ GW := inGW (List.mem_of_getElem? (i := 1282) (by rfl)) (by decide +kernel)
theorem ml_Bo_isSafe : ML yX0_isSafe cX0_isSafe 2 (some .boolean) 0 := ⟨mw1282, mw116, by decide +kernel, by decide +kernel, by decide +kernel⟩
set_option maxRecDepth 20000 in
theorem mw1281 : Cond.instanceMethod ({ cls := "Datalogmill$Body", name := "isSafe", desc := "()Z" } : MethodName) ∈ GW := inGW (List.mem_of_getElem? (i := 1281) (by rfl)) (by decide +kernel)
set_option maxRecDepth 20000 in
theorem mw105 : Cond.selects RX0 yX0_isSafe yX0_isSafe ∈ GW := inGW (List.mem_of_getElem? (i := 105) (by rfl)) (by decide +kernel)
theorem vl_Bo_isSafe : VL yX0_isSafe := ⟨mw1281, mw105⟩
set_option maxRecDepth 20000 in
theorem mt1286 : Cond.methodLinkNest "Datalogmill" (222 : Nat) ({ cls := "Datalogmill$Program", name := "append", desc := "(LDatalogmill$Body;)V" } : MethodName) "Datalogmill" ∈ lw_tbl := List.mem_of_getElem? (i := 1286) (by rfl)
theorem lkX10_222 : LK "Datalogmill" 222 yX7_append := Or.inr ⟨_, mt1286⟩
set_option maxRecDepth 20000 in
theorem mw1289 : Cond.code yX7_append cX7_append 2 none ∈ GW := inGW (List.mem_of_getElem? (i := 1289) (by rfl)) (by decide +kernel)
theorem ml_Pr_append : ML yX7_append cX7_append 2 none 1 := ⟨mw1289, mw115, by decide +kernel, by decide +kernel, by decide +kernel⟩
set_option maxRecDepth 20000 in
theorem mw1288 : Cond.instanceMethod ({ cls := "Datalogmill$Program", name := "append", desc := "(LDatalogmill$Body;)V" } : MethodName) ∈ GW := inGW (List.mem_of_getElem? (i := 1288) (by rfl)) (by decide +kernel)
set_option maxRecDepth 20000 in
theorem mw106 : Cond.selects RX7 yX7_append yX7_append ∈ GW := inGW (List.mem_of_getElem? (i := 106) (by rfl)) (by decide +kernel)
theorem vl_Pr_append : VL yX7_append := ⟨mw1288, mw106⟩
set_option maxRecDepth 20000 in
theorem mt903 : Cond.methodLinkNest "Datalogmill" (225 : Nat) ({ cls := "Datalogmill$Program", name := "stratify", desc := "()Z" } : MethodName) "Datalogmill" ∈ lw_tbl := List.mem_of_getElem? (i := 903) (by rfl)
theorem lkX10_225 : LK "Datalogmill" 225 yX7_stratify := Or.inr ⟨_, mt903⟩
set_option maxRecDepth 20000 in
theorem mt951 : Cond.methodLinkNest "Datalogmill" (231 : Nat) ({ cls := "Datalogmill$Body", name := "boundVariables", desc := "()I" } : MethodName) "Datalogmill" ∈ lw_tbl := List.mem_of_getElem? (i := 951) (by rfl)
theorem lkX10_231 : LK "Datalogmill" 231 yX0_boundVariables := Or.inr ⟨_, mt951⟩
set_option maxRecDepth 20000 in
theorem mt962 : Cond.methodLinkNest "Datalogmill" (241 : Nat) ({ cls := "Datalogmill$Program", name := "appendDenial", desc := "(LDatalogmill$Body;)V" } : MethodName) "Datalogmill" ∈ lw_tbl := List.mem_of_getElem? (i := 962) (by rfl)
theorem lkX10_241 : LK "Datalogmill" 241 yX7_appendDenial := Or.inr ⟨_, mt962⟩
set_option maxRecDepth 20000 in
theorem mw965 : Cond.code yX7_appendDenial cX7_appendDenial 2 none ∈ GW := inGW (List.mem_of_getElem? (i := 965) (by rfl)) (by decide +kernel)
theorem ml_Pr_appendDenial : ML yX7_appendDenial cX7_appendDenial 2 none 1 := ⟨mw965, mw115, by decide +kernel, by decide +kernel, by decide +kernel⟩
set_option maxRecDepth 20000 in
theorem mw964 : Cond.instanceMethod ({ cls := "Datalogmill$Program", name := "appendDenial", desc := "(LDatalogmill$Body;)V" } : MethodName) ∈ GW := inGW (List.mem_of_getElem? (i := 964) (by rfl)) (by decide +kernel)
set_option maxRecDepth 20000 in
theorem mw68 : Cond.selects RX7 yX7_appendDenial yX7_appendDenial ∈ GW := inGW (List.mem_of_getElem? (i := 68) (by rfl)) (by decide +kernel)
theorem vl_Pr_appendDenial : VL yX7_appendDenial := ⟨mw964, mw68⟩
theorem fpX10_253 : FP RX10 253 TA 1 2 .boolean := ⟨RX0, TX0, 6, rfl, ⟨by decide, by decide, by decide⟩, inWX0, Or.inr ⟨_, mt219⟩, ⟨tyX0, tyX0_ok, rfl⟩, nmX0, rfl⟩
set_option maxRecDepth 20000 in
theorem mt896 : Cond.methodLinkNest "Datalogmill" (244 : Nat) ({ cls := "Datalogmill$Program", name := "hasRule", desc := "(I)Z" } : MethodName) "Datalogmill" ∈ lw_tbl := List.mem_of_getElem? (i := 896) (by rfl)
theorem lkX10_244 : LK "Datalogmill" 244 yX7_hasRule := Or.inr ⟨_, mt896⟩
set_option maxRecDepth 20000 in
theorem mw899 : Cond.code yX7_hasRule cX7_hasRule 2 (some .boolean) ∈ GW := inGW (List.mem_of_getElem? (i := 899) (by rfl)) (by decide +kernel)
theorem ml_Pr_hasRule : ML yX7_hasRule cX7_hasRule 2 (some .boolean) 1 := ⟨mw899, mw115, by decide +kernel, by decide +kernel, by decide +kernel⟩
set_option maxRecDepth 20000 in
theorem mw898 : Cond.instanceMethod ({ cls := "Datalogmill$Program", name := "hasRule", desc := "(I)Z" } : MethodName) ∈ GW := inGW (List.mem_of_getElem? (i := 898) (by rfl)) (by decide +kernel)
set_option maxRecDepth 20000 in
theorem mw57 : Cond.selects RX7 yX7_hasRule yX7_hasRule ∈ GW := inGW (List.mem_of_getElem? (i := 57) (by rfl)) (by decide +kernel)
theorem vl_Pr_hasRule : VL yX7_hasRule := ⟨mw898, mw57⟩
set_option maxRecDepth 20000 in
theorem mt940 : Cond.methodLinkNest "Datalogmill" (258 : Nat) ({ cls := "Datalogmill$Program", name := "rulesLeft", desc := "()I" } : MethodName) "Datalogmill" ∈ lw_tbl := List.mem_of_getElem? (i := 940) (by rfl)
theorem lkX10_258 : LK "Datalogmill" 258 yX7_rulesLeft := Or.inr ⟨_, mt940⟩
set_option maxRecDepth 20000 in
theorem mw943 : Cond.code yX7_rulesLeft cX7_rulesLeft 3 (some .int) ∈ GW := inGW (List.mem_of_getElem? (i := 943) (by rfl)) (by decide +kernel)
theorem ml_Pr_rulesLeft : ML yX7_rulesLeft cX7_rulesLeft 3 (some .int) 0 := ⟨mw943, mw115, by decide +kernel, by decide +kernel, by decide +kernel⟩
set_option maxRecDepth 20000 in
theorem mw942 : Cond.instanceMethod ({ cls := "Datalogmill$Program", name := "rulesLeft", desc := "()I" } : MethodName) ∈ GW := inGW (List.mem_of_getElem? (i := 942) (by rfl)) (by decide +kernel)
set_option maxRecDepth 20000 in
theorem mw65 : Cond.selects RX7 yX7_rulesLeft yX7_rulesLeft ∈ GW := inGW (List.mem_of_getElem? (i := 65) (by rfl)) (by decide +kernel)
theorem vl_Pr_rulesLeft : VL yX7_rulesLeft := ⟨mw942, mw65⟩
set_option maxRecDepth 20000 in
theorem mw1001 : Cond.methodLink "Datalogmill" (265 : Nat) ({ cls := "Datalogmill", name := "isIn", desc := "(LDatalogmill$Model;IIII)Z" } : MethodName) ∈ GW := inGW (List.mem_of_getElem? (i := 1001) (by rfl)) (by decide +kernel)
theorem lkX10_265 : LK "Datalogmill" 265 yX10_isIn := Or.inl mw1001
set_option maxRecDepth 20000 in
theorem mw1004 : Cond.code yX10_isIn cX10_isIn 6 (some .boolean) ∈ GW := inGW (List.mem_of_getElem? (i := 1004) (by rfl)) (by decide +kernel)
theorem ml_Dm_isIn : ML yX10_isIn cX10_isIn 6 (some .boolean) 5 := ⟨mw1004, mw112, by decide +kernel, by decide +kernel, by decide +kernel⟩
set_option maxRecDepth 20000 in
theorem mw1003 : Cond.instanceMethod ({ cls := "Datalogmill", name := "isIn", desc := "(LDatalogmill$Model;IIII)Z" } : MethodName) ∈ GW := inGW (List.mem_of_getElem? (i := 1003) (by rfl)) (by decide +kernel)
set_option maxRecDepth 20000 in
theorem mw73 : Cond.selects RX10 yX10_isIn yX10_isIn ∈ GW := inGW (List.mem_of_getElem? (i := 73) (by rfl)) (by decide +kernel)
theorem vl_Dm_isIn : VL yX10_isIn := ⟨mw1003, mw73⟩
set_option maxRecDepth 20000 in
theorem mt1031 : Cond.methodLinkNest "Datalogmill" (279 : Nat) ({ cls := "Datalogmill$Model", name := "tuplesOf", desc := "(I)I" } : MethodName) "Datalogmill" ∈ lw_tbl := List.mem_of_getElem? (i := 1031) (by rfl)
theorem lkX10_279 : LK "Datalogmill" 279 yX5_tuplesOf := Or.inr ⟨_, mt1031⟩
set_option maxRecDepth 20000 in
theorem mw1034 : Cond.code yX5_tuplesOf cX5_tuplesOf 5 (some .int) ∈ GW := inGW (List.mem_of_getElem? (i := 1034) (by rfl)) (by decide +kernel)
theorem ml_Mo_tuplesOf : ML yX5_tuplesOf cX5_tuplesOf 5 (some .int) 1 := ⟨mw1034, mw117, by decide +kernel, by decide +kernel, by decide +kernel⟩
set_option maxRecDepth 20000 in
theorem mw1033 : Cond.instanceMethod ({ cls := "Datalogmill$Model", name := "tuplesOf", desc := "(I)I" } : MethodName) ∈ GW := inGW (List.mem_of_getElem? (i := 1033) (by rfl)) (by decide +kernel)
set_option maxRecDepth 20000 in
theorem mw75 : Cond.selects RX5 yX5_tuplesOf yX5_tuplesOf ∈ GW := inGW (List.mem_of_getElem? (i := 75) (by rfl)) (by decide +kernel)
theorem vl_Mo_tuplesOf : VL yX5_tuplesOf := ⟨mw1033, mw75⟩
set_option maxRecDepth 20000 in
theorem mt1048 : Cond.methodLinkNest "Datalogmill" (288 : Nat) ({ cls := "Datalogmill$Model", name := "codeOf", desc := "(I)I" } : MethodName) "Datalogmill" ∈ lw_tbl := List.mem_of_getElem? (i := 1048) (by rfl)
theorem lkX10_288 : LK "Datalogmill" 288 yX5_codeOf := Or.inr ⟨_, mt1048⟩
set_option maxRecDepth 20000 in
theorem mt1043 : Cond.methodLinkNest "Datalogmill" (282 : Nat) ({ cls := "Datalogmill$Model", name := "slotAt", desc := "(II)I" } : MethodName) "Datalogmill" ∈ lw_tbl := List.mem_of_getElem? (i := 1043) (by rfl)
theorem lkX10_282 : LK "Datalogmill" 282 yX5_slotAt := Or.inr ⟨_, mt1043⟩
set_option maxRecDepth 20000 in
theorem mw1046 : Cond.code yX5_slotAt cX5_slotAt 5 (some .int) ∈ GW := inGW (List.mem_of_getElem? (i := 1046) (by rfl)) (by decide +kernel)
theorem ml_Mo_slotAt : ML yX5_slotAt cX5_slotAt 5 (some .int) 2 := ⟨mw1046, mw117, by decide +kernel, by decide +kernel, by decide +kernel⟩
set_option maxRecDepth 20000 in
theorem mw1045 : Cond.instanceMethod ({ cls := "Datalogmill$Model", name := "slotAt", desc := "(II)I" } : MethodName) ∈ GW := inGW (List.mem_of_getElem? (i := 1045) (by rfl)) (by decide +kernel)
set_option maxRecDepth 20000 in
theorem mw76 : Cond.selects RX5 yX5_slotAt yX5_slotAt ∈ GW := inGW (List.mem_of_getElem? (i := 76) (by rfl)) (by decide +kernel)
theorem vl_Mo_slotAt : VL yX5_slotAt := ⟨mw1045, mw76⟩
set_option maxRecDepth 20000 in
theorem mt1056 : Cond.methodLinkNest "Datalogmill" (291 : Nat) ({ cls := "Datalogmill$Program", name := "levelOf", desc := "(I)I" } : MethodName) "Datalogmill" ∈ lw_tbl := List.mem_of_getElem? (i := 1056) (by rfl)
theorem lkX10_291 : LK "Datalogmill" 291 yX7_levelOf := Or.inr ⟨_, mt1056⟩
set_option maxRecDepth 20000 in
theorem mw1064 : Cond.methodLink "Datalogmill" (294 : Nat) ({ cls := "Datalogmill", name := "waysByFacts", desc := "(II)I" } : MethodName) ∈ GW := inGW (List.mem_of_getElem? (i := 1064) (by rfl)) (by decide +kernel)
theorem lkX10_294 : LK "Datalogmill" 294 yX10_waysByFacts := Or.inl mw1064
set_option maxRecDepth 20000 in
theorem mw1067 : Cond.code yX10_waysByFacts cX10_waysByFacts 6 (some .int) ∈ GW := inGW (List.mem_of_getElem? (i := 1067) (by rfl)) (by decide +kernel)
theorem ml_Dm_waysByFacts : ML yX10_waysByFacts cX10_waysByFacts 6 (some .int) 2 := ⟨mw1067, mw112, by decide +kernel, by decide +kernel, by decide +kernel⟩
set_option maxRecDepth 20000 in
theorem mw1066 : Cond.instanceMethod ({ cls := "Datalogmill", name := "waysByFacts", desc := "(II)I" } : MethodName) ∈ GW := inGW (List.mem_of_getElem? (i := 1066) (by rfl)) (by decide +kernel)
set_option maxRecDepth 20000 in
theorem mw77 : Cond.selects RX10 yX10_waysByFacts yX10_waysByFacts ∈ GW := inGW (List.mem_of_getElem? (i := 77) (by rfl)) (by decide +kernel)
theorem vl_Dm_waysByFacts : VL yX10_waysByFacts := ⟨mw1066, mw77⟩
set_option maxRecDepth 20000 in
theorem mw1072 : Cond.methodLink "Datalogmill" (297 : Nat) ({ cls := "Datalogmill", name := "waysByRules", desc := "(II)I" } : MethodName) ∈ GW := inGW (List.mem_of_getElem? (i := 1072) (by rfl)) (by decide +kernel)
theorem lkX10_297 : LK "Datalogmill" 297 yX10_waysByRules := Or.inl mw1072
set_option maxRecDepth 20000 in
theorem mw1075 : Cond.code yX10_waysByRules cX10_waysByRules 7 (some .int) ∈ GW := inGW (List.mem_of_getElem? (i := 1075) (by rfl)) (by decide +kernel)
theorem ml_Dm_waysByRules : ML yX10_waysByRules cX10_waysByRules 7 (some .int) 2 := ⟨mw1075, mw112, by decide +kernel, by decide +kernel, by decide +kernel⟩
set_option maxRecDepth 20000 in
theorem mw1074 : Cond.instanceMethod ({ cls := "Datalogmill", name := "waysByRules", desc := "(II)I" } : MethodName) ∈ GW := inGW (List.mem_of_getElem? (i := 1074) (by rfl)) (by decide +kernel)
set_option maxRecDepth 20000 in
theorem mw78 : Cond.selects RX10 yX10_waysByRules yX10_waysByRules ∈ GW := inGW (List.mem_of_getElem? (i := 78) (by rfl)) (by decide +kernel)
theorem vl_Dm_waysByRules : VL yX10_waysByRules := ⟨mw1074, mw78⟩
set_option maxRecDepth 20000 in
theorem mw1107 : Cond.methodLink "Datalogmill" (300 : Nat) ({ cls := "Datalogmill", name := "findCosts", desc := "()V" } : MethodName) ∈ GW := inGW (List.mem_of_getElem? (i := 1107) (by rfl)) (by decide +kernel)
theorem lkX10_300 : LK "Datalogmill" 300 yX10_findCosts := Or.inl mw1107
set_option maxRecDepth 20000 in
theorem mw1110 : Cond.code yX10_findCosts cX10_findCosts 3 none ∈ GW := inGW (List.mem_of_getElem? (i := 1110) (by rfl)) (by decide +kernel)
theorem ml_Dm_findCosts : ML yX10_findCosts cX10_findCosts 3 none 0 := ⟨mw1110, mw112, by decide +kernel, by decide +kernel, by decide +kernel⟩
set_option maxRecDepth 20000 in
theorem mw1109 : Cond.instanceMethod ({ cls := "Datalogmill", name := "findCosts", desc := "()V" } : MethodName) ∈ GW := inGW (List.mem_of_getElem? (i := 1109) (by rfl)) (by decide +kernel)
set_option maxRecDepth 20000 in
theorem mw84 : Cond.selects RX10 yX10_findCosts yX10_findCosts ∈ GW := inGW (List.mem_of_getElem? (i := 84) (by rfl)) (by decide +kernel)
theorem vl_Dm_findCosts : VL yX10_findCosts := ⟨mw1109, mw84⟩
set_option maxRecDepth 20000 in
theorem mt1138 : Cond.methodLinkNest "Datalogmill" (306 : Nat) ({ cls := "Datalogmill$Costs", name := "costOf", desc := "(I)I" } : MethodName) "Datalogmill" ∈ lw_tbl := List.mem_of_getElem? (i := 1138) (by rfl)
theorem lkX10_306 : LK "Datalogmill" 306 yX1_costOf := Or.inr ⟨_, mt1138⟩
set_option maxRecDepth 20000 in
theorem mw1155 : Cond.methodLink "Datalogmill" (319 : Nat) ({ cls := "Datalogmill", name := "literalsHeld", desc := "(LDatalogmill$Body;II)I" } : MethodName) ∈ GW := inGW (List.mem_of_getElem? (i := 1155) (by rfl)) (by decide +kernel)
theorem lkX10_319 : LK "Datalogmill" 319 yX10_literalsHeld := Or.inl mw1155
set_option maxRecDepth 20000 in
theorem mw1158 : Cond.code yX10_literalsHeld cX10_literalsHeld 5 (some .int) ∈ GW := inGW (List.mem_of_getElem? (i := 1158) (by rfl)) (by decide +kernel)
theorem ml_Dm_literalsHeld : ML yX10_literalsHeld cX10_literalsHeld 5 (some .int) 3 := ⟨mw1158, mw112, by decide +kernel, by decide +kernel, by decide +kernel⟩
set_option maxRecDepth 20000 in
theorem mw1157 : Cond.instanceMethod ({ cls := "Datalogmill", name := "literalsHeld", desc := "(LDatalogmill$Body;II)I" } : MethodName) ∈ GW := inGW (List.mem_of_getElem? (i := 1157) (by rfl)) (by decide +kernel)
set_option maxRecDepth 20000 in
theorem mw91 : Cond.selects RX10 yX10_literalsHeld yX10_literalsHeld ∈ GW := inGW (List.mem_of_getElem? (i := 91) (by rfl)) (by decide +kernel)
theorem vl_Dm_literalsHeld : VL yX10_literalsHeld := ⟨mw1157, mw91⟩
set_option maxRecDepth 20000 in
theorem mt1183 : Cond.methodLinkNest "Datalogmill" (340 : Nat) ({ cls := "Datalogmill$Goals", name := "goalAt", desc := "(I)I" } : MethodName) "Datalogmill" ∈ lw_tbl := List.mem_of_getElem? (i := 1183) (by rfl)
theorem lkX10_340 : LK "Datalogmill" 340 yX3_goalAt := Or.inr ⟨_, mt1183⟩
set_option maxRecDepth 20000 in
theorem mw1184 : Cond.methodLink "Datalogmill" (343 : Nat) ({ cls := "Datalogmill", name := "askFor", desc := "(I)V" } : MethodName) ∈ GW := inGW (List.mem_of_getElem? (i := 1184) (by rfl)) (by decide +kernel)
theorem lkX10_343 : LK "Datalogmill" 343 yX10_askFor := Or.inl mw1184
set_option maxRecDepth 20000 in
theorem mw1187 : Cond.code yX10_askFor cX10_askFor 10 none ∈ GW := inGW (List.mem_of_getElem? (i := 1187) (by rfl)) (by decide +kernel)
theorem ml_Dm_askFor : ML yX10_askFor cX10_askFor 10 none 1 := ⟨mw1187, mw112, by decide +kernel, by decide +kernel, by decide +kernel⟩
set_option maxRecDepth 20000 in
theorem mw1186 : Cond.instanceMethod ({ cls := "Datalogmill", name := "askFor", desc := "(I)V" } : MethodName) ∈ GW := inGW (List.mem_of_getElem? (i := 1186) (by rfl)) (by decide +kernel)
set_option maxRecDepth 20000 in
theorem mw96 : Cond.selects RX10 yX10_askFor yX10_askFor ∈ GW := inGW (List.mem_of_getElem? (i := 96) (by rfl)) (by decide +kernel)
theorem vl_Dm_askFor : VL yX10_askFor := ⟨mw1186, mw96⟩
set_option maxRecDepth 20000 in
theorem mt1166 : Cond.methodLinkNest "Datalogmill" (330 : Nat) ({ cls := "Datalogmill$Goals", name := "empty", desc := "()V" } : MethodName) "Datalogmill" ∈ lw_tbl := List.mem_of_getElem? (i := 1166) (by rfl)
theorem lkX10_330 : LK "Datalogmill" 330 yX3_empty := Or.inr ⟨_, mt1166⟩
set_option maxRecDepth 20000 in
theorem mw1169 : Cond.code yX3_empty cX3_empty 2 none ∈ GW := inGW (List.mem_of_getElem? (i := 1169) (by rfl)) (by decide +kernel)
theorem ml_Go_empty : ML yX3_empty cX3_empty 2 none 0 := ⟨mw1169, mw121, by decide +kernel, by decide +kernel, by decide +kernel⟩
set_option maxRecDepth 20000 in
theorem mw1168 : Cond.instanceMethod ({ cls := "Datalogmill$Goals", name := "empty", desc := "()V" } : MethodName) ∈ GW := inGW (List.mem_of_getElem? (i := 1168) (by rfl)) (by decide +kernel)
set_option maxRecDepth 20000 in
theorem mw92 : Cond.selects RX3 yX3_empty yX3_empty ∈ GW := inGW (List.mem_of_getElem? (i := 92) (by rfl)) (by decide +kernel)
theorem vl_Go_empty : VL yX3_empty := ⟨mw1168, mw92⟩
set_option maxRecDepth 20000 in
theorem mt1170 : Cond.methodLinkNest "Datalogmill" (331 : Nat) ({ cls := "Datalogmill$Schema", name := "goalOf", desc := "(IIII)I" } : MethodName) "Datalogmill" ∈ lw_tbl := List.mem_of_getElem? (i := 1170) (by rfl)
theorem lkX10_331 : LK "Datalogmill" 331 yX8_goalOf := Or.inr ⟨_, mt1170⟩
theorem flX10_88 : FL RX10 88 TA 11 11 := ⟨RX10, TX10, 13, rfl, ⟨by decide, by decide, by decide⟩, inWX10, Or.inl mw412⟩
set_option maxRecDepth 20000 in
theorem mt1203 : Cond.methodLinkNest "Datalogmill" (348 : Nat) ({ cls := "Datalogmill$Plan", name := "make", desc := "(LDatalogmill$Body;LDatalogmill$Schema;)V" } : MethodName) "Datalogmill" ∈ lw_tbl := List.mem_of_getElem? (i := 1203) (by rfl)
theorem lkX10_348 : LK "Datalogmill" 348 yX6_make := Or.inr ⟨_, mt1203⟩
set_option maxRecDepth 20000 in
theorem mw1206 : Cond.code yX6_make cX6_make 12 none ∈ GW := inGW (List.mem_of_getElem? (i := 1206) (by rfl)) (by decide +kernel)
theorem ml_Pl_make : ML yX6_make cX6_make 12 none 2 := ⟨mw1206, mw122, by decide +kernel, by decide +kernel, by decide +kernel⟩
set_option maxRecDepth 20000 in
theorem mw1205 : Cond.instanceMethod ({ cls := "Datalogmill$Plan", name := "make", desc := "(LDatalogmill$Body;LDatalogmill$Schema;)V" } : MethodName) ∈ GW := inGW (List.mem_of_getElem? (i := 1205) (by rfl)) (by decide +kernel)
set_option maxRecDepth 20000 in
theorem mw98 : Cond.selects RX6 yX6_make yX6_make ∈ GW := inGW (List.mem_of_getElem? (i := 98) (by rfl)) (by decide +kernel)
theorem vl_Pl_make : VL yX6_make := ⟨mw1205, mw98⟩
set_option maxRecDepth 20000 in
theorem mt1221 : Cond.methodLinkNest "Datalogmill" (352 : Nat) ({ cls := "Datalogmill$Plan", name := "placeAt", desc := "(I)I" } : MethodName) "Datalogmill" ∈ lw_tbl := List.mem_of_getElem? (i := 1221) (by rfl)
theorem lkX10_352 : LK "Datalogmill" 352 yX6_placeAt := Or.inr ⟨_, mt1221⟩
set_option maxRecDepth 20000 in
theorem mw1233 : Cond.methodLink "Datalogmill" (358 : Nat) ({ cls := "Datalogmill", name := "isNeedless", desc := "(LDatalogmill$Body;I)Z" } : MethodName) ∈ GW := inGW (List.mem_of_getElem? (i := 1233) (by rfl)) (by decide +kernel)
theorem lkX10_358 : LK "Datalogmill" 358 yX10_isNeedless := Or.inl mw1233
set_option maxRecDepth 20000 in
theorem mw1236 : Cond.code yX10_isNeedless cX10_isNeedless 6 (some .boolean) ∈ GW := inGW (List.mem_of_getElem? (i := 1236) (by rfl)) (by decide +kernel)
theorem ml_Dm_isNeedless : ML yX10_isNeedless cX10_isNeedless 6 (some .boolean) 2 := ⟨mw1236, mw112, by decide +kernel, by decide +kernel, by decide +kernel⟩
set_option maxRecDepth 20000 in
theorem mw1235 : Cond.instanceMethod ({ cls := "Datalogmill", name := "isNeedless", desc := "(LDatalogmill$Body;I)Z" } : MethodName) ∈ GW := inGW (List.mem_of_getElem? (i := 1235) (by rfl)) (by decide +kernel)
set_option maxRecDepth 20000 in
theorem mw101 : Cond.selects RX10 yX10_isNeedless yX10_isNeedless ∈ GW := inGW (List.mem_of_getElem? (i := 101) (by rfl)) (by decide +kernel)
theorem vl_Dm_isNeedless : VL yX10_isNeedless := ⟨mw1235, mw101⟩
set_option maxRecDepth 20000 in
theorem mw1262 : Cond.fieldLink "Datalogmill" (447 : Nat) "Datalogmill" "SERVED" "[I" ∈ GW := inGW (List.mem_of_getElem? (i := 1262) (by rfl)) (by decide +kernel)
set_option maxRecDepth 20000 in
theorem mw1264 : Cond.methodLink "Datalogmill" (451 : Nat) ({ cls := "java/lang/Integer", name := "bitCount", desc := "(I)I" } : MethodName) ∈ GW := inGW (List.mem_of_getElem? (i := 1264) (by rfl)) (by decide +kernel)
theorem lkX10_451 : LK "Datalogmill" 451 yJ6_bitCount_0f7a4 := Or.inl mw1264
set_option maxRecDepth 20000 in
theorem mw1265 : Cond.methodLink "Datalogmill" 456 Lib.Math.min.name ∈ GW := inGW (List.mem_of_getElem? (i := 1265) (by rfl)) (by decide +kernel)
set_option maxRecDepth 20000 in
theorem mw1259 : Cond.methodLink "Datalogmill" (366 : Nat) ({ cls := "Datalogmill", name := "fewestOrders", desc := "(I)I" } : MethodName) ∈ GW := inGW (List.mem_of_getElem? (i := 1259) (by rfl)) (by decide +kernel)
theorem lkX10_366 : LK "Datalogmill" 366 yX10_fewestOrders := Or.inl mw1259
set_option maxRecDepth 20000 in
theorem mw1261 : Cond.code yX10_fewestOrders cX10_fewestOrders 5 (some .int) ∈ GW := inGW (List.mem_of_getElem? (i := 1261) (by rfl)) (by decide +kernel)
theorem ml_Dm_fewestOrders : ML yX10_fewestOrders cX10_fewestOrders 5 (some .int) 1 := ⟨mw1261, mw112, by decide +kernel, by decide +kernel, by decide +kernel⟩
set_option maxRecDepth 20000 in
theorem mw1260 : Cond.static ({ cls := "Datalogmill", name := "fewestOrders", desc := "(I)I" } : MethodName) ∈ GW := inGW (List.mem_of_getElem? (i := 1260) (by rfl)) (by decide +kernel)
set_option maxRecDepth 20000 in
theorem mt1254 : Cond.methodLinkNest "Datalogmill" (362 : Nat) ({ cls := "Datalogmill$Plan", name := "searchesOf", desc := "(LDatalogmill$Body;I)I" } : MethodName) "Datalogmill" ∈ lw_tbl := List.mem_of_getElem? (i := 1254) (by rfl)
theorem lkX10_362 : LK "Datalogmill" 362 yX6_searchesOf := Or.inr ⟨_, mt1254⟩
set_option maxRecDepth 20000 in
theorem mw1257 : Cond.code yX6_searchesOf cX6_searchesOf 5 (some .int) ∈ GW := inGW (List.mem_of_getElem? (i := 1257) (by rfl)) (by decide +kernel)
theorem ml_Pl_searchesOf : ML yX6_searchesOf cX6_searchesOf 5 (some .int) 2 := ⟨mw1257, mw122, by decide +kernel, by decide +kernel, by decide +kernel⟩
set_option maxRecDepth 20000 in
theorem mw1256 : Cond.instanceMethod ({ cls := "Datalogmill$Plan", name := "searchesOf", desc := "(LDatalogmill$Body;I)I" } : MethodName) ∈ GW := inGW (List.mem_of_getElem? (i := 1256) (by rfl)) (by decide +kernel)
set_option maxRecDepth 20000 in
theorem mw104 : Cond.selects RX6 yX6_searchesOf yX6_searchesOf ∈ GW := inGW (List.mem_of_getElem? (i := 104) (by rfl)) (by decide +kernel)
theorem vl_Pl_searchesOf : VL yX6_searchesOf := ⟨mw1256, mw104⟩
