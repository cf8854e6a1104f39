set_option maxRecDepth 20000 in
theorem mw196 : Cond.methodLink "Datalogmill$Schema" 3 Lib.objectInit ∈ GW := inGW (List.mem_of_getElem? (i := 196) (by rfl)) (by decide +kernel)
set_option maxRecDepth 20000 in
theorem mw189 : Cond.instanceMethod Lib.objectInit ∈ GW := inGW (List.mem_of_getElem? (i := 189) (by rfl)) (by decide +kernel)
set_option maxRecDepth 20000 in
theorem mw190 : Cond.code Lib.objectInit ⟨#[0xb1]⟩ 1 none ∈ GW := inGW (List.mem_of_getElem? (i := 190) (by rfl)) (by decide +kernel)
theorem rl10 : R32 (10) := ⟨by decide, by decide⟩
set_option maxRecDepth 20000 in
theorem mw210 : Cond.arrayClass ClassFile.FieldType.int ∈ GW := inGW (List.mem_of_getElem? (i := 210) (by rfl)) (by decide +kernel)
set_option maxRecDepth 20000 in
theorem mw197 : Cond.fieldLink "Datalogmill$Schema" (9 : Nat) "Datalogmill$Schema" "columns" "[I" ∈ GW := inGW (List.mem_of_getElem? (i := 197) (by rfl)) (by decide +kernel)
theorem fpfX8_9 : FPF RX8 9 TA 9 0 (.array .int) := ⟨RX8, TX8, 4, rfl, ⟨by decide, by decide, by decide⟩, inWX8, mw197, ⟨tyX8, tyX8_ok, rfl⟩, nmX8, rfl, rfl⟩
set_option maxRecDepth 20000 in
theorem mw198 : Cond.fieldLink "Datalogmill$Schema" (15 : Nat) "Datalogmill$Schema" "kinds" "[I" ∈ GW := inGW (List.mem_of_getElem? (i := 198) (by rfl)) (by decide +kernel)
theorem fpfX8_15 : FPF RX8 15 TA 9 1 (.array .int) := ⟨RX8, TX8, 4, rfl, ⟨by decide, by decide, by decide⟩, inWX8, mw198, ⟨tyX8, tyX8_ok, rfl⟩, nmX8, rfl, rfl⟩
set_option maxRecDepth 20000 in
theorem mw199 : Cond.fieldLink "Datalogmill$Schema" (18 : Nat) "Datalogmill$Schema" "keys" "[I" ∈ GW := inGW (List.mem_of_getElem? (i := 199) (by rfl)) (by decide +kernel)
theorem fpfX8_18 : FPF RX8 18 TA 9 2 (.array .int) := ⟨RX8, TX8, 4, rfl, ⟨by decide, by decide, by decide⟩, inWX8, mw199, ⟨tyX8, tyX8_ok, rfl⟩, nmX8, rfl, rfl⟩
set_option maxRecDepth 20000 in
theorem mw200 : Cond.fieldLink "Datalogmill$Schema" (21 : Nat) "Datalogmill$Schema" "bits" "[I" ∈ GW := inGW (List.mem_of_getElem? (i := 200) (by rfl)) (by decide +kernel)
theorem fpfX8_21 : FPF RX8 21 TA 9 3 (.array .int) := ⟨RX8, TX8, 4, rfl, ⟨by decide, by decide, by decide⟩, inWX8, mw200, ⟨tyX8, tyX8_ok, rfl⟩, nmX8, rfl, rfl⟩
set_option maxRecDepth 20000 in
theorem mw216 : Cond.methodLink "Datalogmill$Facts" 3 Lib.objectInit ∈ GW := inGW (List.mem_of_getElem? (i := 216) (by rfl)) (by decide +kernel)
theorem rl24 : R32 (24) := ⟨by decide, by decide⟩
set_option maxRecDepth 20000 in
theorem mw222 : Cond.fieldLink "Datalogmill$Facts" (9 : Nat) "Datalogmill$Facts" "relations" "[I" ∈ GW := inGW (List.mem_of_getElem? (i := 222) (by rfl)) (by decide +kernel)
theorem fpfX2_9 : FPF RX2 9 TA 3 2 (.array .int) := ⟨RX2, TX2, 8, rfl, ⟨by decide, by decide, by decide⟩, inWX2, mw222, ⟨tyX2, tyX2_ok, rfl⟩, nmX2, rfl, rfl⟩
set_option maxRecDepth 20000 in
theorem mw223 : Cond.fieldLink "Datalogmill$Facts" (15 : Nat) "Datalogmill$Facts" "codes" "[I" ∈ GW := inGW (List.mem_of_getElem? (i := 223) (by rfl)) (by decide +kernel)
theorem fpfX2_15 : FPF RX2 15 TA 3 3 (.array .int) := ⟨RX2, TX2, 8, rfl, ⟨by decide, by decide, by decide⟩, inWX2, mw223, ⟨tyX2, tyX2_ok, rfl⟩, nmX2, rfl, rfl⟩
set_option maxRecDepth 20000 in
theorem mw224 : Cond.fieldLink "Datalogmill$Facts" (18 : Nat) "Datalogmill$Facts" "costs" "[I" ∈ GW := inGW (List.mem_of_getElem? (i := 224) (by rfl)) (by decide +kernel)
theorem fpfX2_18 : FPF RX2 18 TA 3 4 (.array .int) := ⟨RX2, TX2, 8, rfl, ⟨by decide, by decide, by decide⟩, inWX2, mw224, ⟨tyX2, tyX2_ok, rfl⟩, nmX2, rfl, rfl⟩
set_option maxRecDepth 20000 in
theorem mw225 : Cond.fieldLink "Datalogmill$Facts" (21 : Nat) "Datalogmill$Facts" "froms" "[I" ∈ GW := inGW (List.mem_of_getElem? (i := 225) (by rfl)) (by decide +kernel)
theorem fpfX2_21 : FPF RX2 21 TA 3 5 (.array .int) := ⟨RX2, TX2, 8, rfl, ⟨by decide, by decide, by decide⟩, inWX2, mw225, ⟨tyX2, tyX2_ok, rfl⟩, nmX2, rfl, rfl⟩
set_option maxRecDepth 20000 in
theorem mw226 : Cond.fieldLink "Datalogmill$Facts" (24 : Nat) "Datalogmill$Facts" "tos" "[I" ∈ GW := inGW (List.mem_of_getElem? (i := 226) (by rfl)) (by decide +kernel)
theorem fpfX2_24 : FPF RX2 24 TA 3 6 (.array .int) := ⟨RX2, TX2, 8, rfl, ⟨by decide, by decide, by decide⟩, inWX2, mw226, ⟨tyX2, tyX2_ok, rfl⟩, nmX2, rfl, rfl⟩
set_option maxRecDepth 20000 in
theorem mw245 : Cond.arrayClass ClassFile.FieldType.boolean ∈ GW := inGW (List.mem_of_getElem? (i := 245) (by rfl)) (by decide +kernel)
set_option maxRecDepth 20000 in
theorem mw227 : Cond.fieldLink "Datalogmill$Facts" (27 : Nat) "Datalogmill$Facts" "dropped" "[Z" ∈ GW := inGW (List.mem_of_getElem? (i := 227) (by rfl)) (by decide +kernel)
theorem fpfX2_27 : FPF RX2 27 TA 3 7 (.array .boolean) := ⟨RX2, TX2, 8, rfl, ⟨by decide, by decide, by decide⟩, inWX2, mw227, ⟨tyX2, tyX2_ok, rfl⟩, nmX2, rfl, rfl⟩
set_option maxRecDepth 20000 in
theorem mw257 : Cond.methodLink "Datalogmill$Body" 3 Lib.objectInit ∈ GW := inGW (List.mem_of_getElem? (i := 257) (by rfl)) (by decide +kernel)
theorem rlm1 : R32 (-1) := ⟨by decide, by decide⟩
set_option maxRecDepth 20000 in
theorem mw264 : Cond.fieldLink "Datalogmill$Body" (9 : Nat) "Datalogmill$Body" "target" "I" ∈ GW := inGW (List.mem_of_getElem? (i := 264) (by rfl)) (by decide +kernel)
theorem fpX0_9 : FP RX0 9 TA 1 1 .int := ⟨RX0, TX0, 6, rfl, ⟨by decide, by decide, by decide⟩, inWX0, Or.inl mw264, ⟨tyX0, tyX0_ok, rfl⟩, nmX0, rfl⟩
theorem rl5 : R32 (5) := ⟨by decide, by decide⟩
set_option maxRecDepth 20000 in
theorem mw272 : Cond.fieldLink "Datalogmill$Body" (15 : Nat) "Datalogmill$Body" "forms" "[I" ∈ GW := inGW (List.mem_of_getElem? (i := 272) (by rfl)) (by decide +kernel)
theorem fpfX0_15 : FPF RX0 15 TA 1 3 (.array .int) := ⟨RX0, TX0, 6, rfl, ⟨by decide, by decide, by decide⟩, inWX0, mw272, ⟨tyX0, tyX0_ok, rfl⟩, nmX0, rfl, rfl⟩
set_option maxRecDepth 20000 in
theorem mw273 : Cond.fieldLink "Datalogmill$Body" (19 : Nat) "Datalogmill$Body" "subjects" "[I" ∈ GW := inGW (List.mem_of_getElem? (i := 273) (by rfl)) (by decide +kernel)
theorem fpfX0_19 : FPF RX0 19 TA 1 4 (.array .int) := ⟨RX0, TX0, 6, rfl, ⟨by decide, by decide, by decide⟩, inWX0, mw273, ⟨tyX0, tyX0_ok, rfl⟩, nmX0, rfl, rfl⟩
theorem rl18 : R32 (18) := ⟨by decide, by decide⟩
set_option maxRecDepth 20000 in
theorem mw274 : Cond.fieldLink "Datalogmill$Body" (22 : Nat) "Datalogmill$Body" "terms" "[I" ∈ GW := inGW (List.mem_of_getElem? (i := 274) (by rfl)) (by decide +kernel)
theorem fpfX0_22 : FPF RX0 22 TA 1 5 (.array .int) := ⟨RX0, TX0, 6, rfl, ⟨by decide, by decide, by decide⟩, inWX0, mw274, ⟨tyX0, tyX0_ok, rfl⟩, nmX0, rfl, rfl⟩
set_option maxRecDepth 20000 in
theorem mw251 : Cond.methodLink "Datalogmill$Program" 3 Lib.objectInit ∈ GW := inGW (List.mem_of_getElem? (i := 251) (by rfl)) (by decide +kernel)
set_option maxRecDepth 20000 in
theorem mw252 : Cond.classLink "Datalogmill$Program" (9 : Nat) "Datalogmill$Body" ∈ GW := inGW (List.mem_of_getElem? (i := 252) (by rfl)) (by decide +kernel)
set_option maxRecDepth 20000 in
theorem mw253 : Cond.instantiable "Datalogmill$Body" (6 : Nat) ∈ GW := inGW (List.mem_of_getElem? (i := 253) (by rfl)) (by decide +kernel)
set_option maxRecDepth 20000 in
theorem mw167 : Cond.initialized "Datalogmill$Body" ∈ GW := inGW (List.mem_of_getElem? (i := 167) (by rfl)) (by decide +kernel)
set_option maxRecDepth 20000 in
theorem mt254 : Cond.methodLinkNest "Datalogmill$Program" (11 : Nat) ({ cls := "Datalogmill$Body", name := "<init>", desc := "()V" } : MethodName) "Datalogmill" ∈ lw_tbl := List.mem_of_getElem? (i := 254) (by rfl)
theorem lkX7_11 : LK "Datalogmill$Program" 11 yX0_init := Or.inr ⟨_, mt254⟩
set_option maxRecDepth 20000 in
theorem mw256 : Cond.code yX0_init cX0_init 1 none ∈ GW := inGW (List.mem_of_getElem? (i := 256) (by rfl)) (by decide +kernel)
theorem ml_Bo_init : ML yX0_init cX0_init 1 none 0 := ⟨mw256, mw167, by decide +kernel, by decide +kernel, by decide +kernel⟩
set_option maxRecDepth 20000 in
theorem mw255 : Cond.instanceMethod ({ cls := "Datalogmill$Body", name := "<init>", desc := "()V" } : MethodName) ∈ GW := inGW (List.mem_of_getElem? (i := 255) (by rfl)) (by decide +kernel)
set_option maxRecDepth 20000 in
theorem mw290 : Cond.fieldLink "Datalogmill$Program" (12 : Nat) "Datalogmill$Program" "nothing" "LDatalogmill$Body;" ∈ GW := inGW (List.mem_of_getElem? (i := 290) (by rfl)) (by decide +kernel)
theorem fpfX7_12 : FPF RX7 12 TA 8 1 (.object "Datalogmill$Body") := ⟨RX7, TX7, 8, rfl, ⟨by decide, by decide, by decide⟩, inWX7, mw290, ⟨tyX7, tyX7_ok, rfl⟩, nmX7, rfl, rfl⟩
theorem rl12 : R32 (12) := ⟨by decide, by decide⟩
set_option maxRecDepth 20000 in
theorem mt288 : Cond.arrayOver (ClassFile.FieldType.object "Datalogmill$Body") ∈ lw_tbl := List.mem_of_getElem? (i := 288) (by rfl)
set_option maxRecDepth 20000 in
theorem mw291 : Cond.fieldLink "Datalogmill$Program" (18 : Nat) "Datalogmill$Program" "rules" "[LDatalogmill$Body;" ∈ GW := inGW (List.mem_of_getElem? (i := 291) (by rfl)) (by decide +kernel)
theorem fpfX7_18 : FPF RX7 18 TA 8 2 (.array (.object "Datalogmill$Body")) := ⟨RX7, TX7, 8, rfl, ⟨by decide, by decide, by decide⟩, inWX7, mw291, ⟨tyX7, tyX7_ok, rfl⟩, nmX7, rfl, rfl⟩
theorem rl6 : R32 (6) := ⟨by decide, by decide⟩
set_option maxRecDepth 20000 in
theorem mw292 : Cond.fieldLink "Datalogmill$Program" (22 : Nat) "Datalogmill$Program" "denials" "[LDatalogmill$Body;" ∈ GW := inGW (List.mem_of_getElem? (i := 292) (by rfl)) (by decide +kernel)
theorem fpfX7_22 : FPF RX7 22 TA 8 3 (.array (.object "Datalogmill$Body")) := ⟨RX7, TX7, 8, rfl, ⟨by decide, by decide, by decide⟩, inWX7, mw292, ⟨tyX7, tyX7_ok, rfl⟩, nmX7, rfl, rfl⟩
set_option maxRecDepth 20000 in
theorem mw298 : Cond.fieldLink "Datalogmill$Program" (25 : Nat) "Datalogmill$Program" "levels" "[I" ∈ GW := inGW (List.mem_of_getElem? (i := 298) (by rfl)) (by decide +kernel)
theorem fpfX7_25 : FPF RX7 25 TA 8 6 (.array .int) := ⟨RX7, TX7, 8, rfl, ⟨by decide, by decide, by decide⟩, inWX7, mw298, ⟨tyX7, tyX7_ok, rfl⟩, nmX7, rfl, rfl⟩
set_option maxRecDepth 20000 in
theorem mw289 : Cond.fieldLink "Datalogmill$Program" (29 : Nat) "Datalogmill$Program" "schema" "LDatalogmill$Schema;" ∈ GW := inGW (List.mem_of_getElem? (i := 289) (by rfl)) (by decide +kernel)
theorem fpfX7_29 : FPF RX7 29 TA 8 0 (.object "Datalogmill$Schema") := ⟨RX7, TX7, 8, rfl, ⟨by decide, by decide, by decide⟩, inWX7, mw289, ⟨tyX7, tyX7_ok, rfl⟩, nmX7, rfl, rfl⟩
theorem rl0 : R32 (0) := ⟨by decide, by decide⟩
theorem flX7_18 : FL RX7 18 TA 8 2 := ⟨RX7, TX7, 8, rfl, ⟨by decide, by decide, by decide⟩, inWX7, Or.inl mw291⟩
theorem rl1 : R32 (1) := ⟨by decide, by decide⟩
theorem rl2 : R32 (2) := ⟨by decide, by decide⟩
theorem rl3 : R32 (3) := ⟨by decide, by decide⟩
theorem rl4 : R32 (4) := ⟨by decide, by decide⟩
theorem rl7 : R32 (7) := ⟨by decide, by decide⟩
theorem rl8 : R32 (8) := ⟨by decide, by decide⟩
theorem rl9 : R32 (9) := ⟨by decide, by decide⟩
theorem rl11 : R32 (11) := ⟨by decide, by decide⟩
theorem flX7_22 : FL RX7 22 TA 8 3 := ⟨RX7, TX7, 8, rfl, ⟨by decide, by decide, by decide⟩, inWX7, Or.inl mw292⟩
set_option maxRecDepth 20000 in
theorem mw325 : Cond.methodLink "Datalogmill$Model" 3 Lib.objectInit ∈ GW := inGW (List.mem_of_getElem? (i := 325) (by rfl)) (by decide +kernel)
set_option maxRecDepth 20000 in
theorem mw331 : Cond.fieldLink "Datalogmill$Model" (9 : Nat) "Datalogmill$Model" "firsts" "[I" ∈ GW := inGW (List.mem_of_getElem? (i := 331) (by rfl)) (by decide +kernel)
theorem fpfX5_9 : FPF RX5 9 TA 6 3 (.array .int) := ⟨RX5, TX5, 7, rfl, ⟨by decide, by decide, by decide⟩, inWX5, mw331, ⟨tyX5, tyX5_ok, rfl⟩, nmX5, rfl, rfl⟩
theorem rl48 : R32 (48) := ⟨by decide, by decide⟩
set_option maxRecDepth 20000 in
theorem mw332 : Cond.fieldLink "Datalogmill$Model" (15 : Nat) "Datalogmill$Model" "nexts" "[I" ∈ GW := inGW (List.mem_of_getElem? (i := 332) (by rfl)) (by decide +kernel)
theorem fpfX5_15 : FPF RX5 15 TA 6 4 (.array .int) := ⟨RX5, TX5, 7, rfl, ⟨by decide, by decide, by decide⟩, inWX5, mw332, ⟨tyX5, tyX5_ok, rfl⟩, nmX5, rfl, rfl⟩
set_option maxRecDepth 20000 in
theorem mw333 : Cond.fieldLink "Datalogmill$Model" (18 : Nat) "Datalogmill$Model" "codes" "[I" ∈ GW := inGW (List.mem_of_getElem? (i := 333) (by rfl)) (by decide +kernel)
theorem fpfX5_18 : FPF RX5 18 TA 6 5 (.array .int) := ⟨RX5, TX5, 7, rfl, ⟨by decide, by decide, by decide⟩, inWX5, mw333, ⟨tyX5, tyX5_ok, rfl⟩, nmX5, rfl, rfl⟩
set_option maxRecDepth 20000 in
theorem mw334 : Cond.fieldLink "Datalogmill$Model" (21 : Nat) "Datalogmill$Model" "rounds" "[I" ∈ GW := inGW (List.mem_of_getElem? (i := 334) (by rfl)) (by decide +kernel)
theorem fpfX5_21 : FPF RX5 21 TA 6 6 (.array .int) := ⟨RX5, TX5, 7, rfl, ⟨by decide, by decide, by decide⟩, inWX5, mw334, ⟨tyX5, tyX5_ok, rfl⟩, nmX5, rfl, rfl⟩
set_option maxRecDepth 20000 in
theorem mw326 : Cond.fieldLink "Datalogmill$Model" (24 : Nat) "Datalogmill$Model" "schema" "LDatalogmill$Schema;" ∈ GW := inGW (List.mem_of_getElem? (i := 326) (by rfl)) (by decide +kernel)
theorem fpfX5_24 : FPF RX5 24 TA 6 0 (.object "Datalogmill$Schema") := ⟨RX5, TX5, 7, rfl, ⟨by decide, by decide, by decide⟩, inWX5, mw326, ⟨tyX5, tyX5_ok, rfl⟩, nmX5, rfl, rfl⟩
theorem flX5_9 : FL RX5 9 TA 6 3 := ⟨RX5, TX5, 7, rfl, ⟨by decide, by decide, by decide⟩, inWX5, Or.inl mw331⟩
set_option maxRecDepth 20000 in
theorem mw355 : Cond.methodLink "Datalogmill$Walk" 3 Lib.objectInit ∈ GW := inGW (List.mem_of_getElem? (i := 355) (by rfl)) (by decide +kernel)
set_option maxRecDepth 20000 in
theorem mw364 : Cond.fieldLink "Datalogmill$Walk" (9 : Nat) "Datalogmill$Walk" "values" "[I" ∈ GW := inGW (List.mem_of_getElem? (i := 364) (by rfl)) (by decide +kernel)
theorem fpfX9_9 : FPF RX9 9 TA 10 8 (.array .int) := ⟨RX9, TX9, 11, rfl, ⟨by decide, by decide, by decide⟩, inWX9, mw364, ⟨tyX9, tyX9_ok, rfl⟩, nmX9, rfl, rfl⟩
set_option maxRecDepth 20000 in
theorem mw365 : Cond.fieldLink "Datalogmill$Walk" (15 : Nat) "Datalogmill$Walk" "slots" "[I" ∈ GW := inGW (List.mem_of_getElem? (i := 365) (by rfl)) (by decide +kernel)
theorem fpfX9_15 : FPF RX9 15 TA 10 9 (.array .int) := ⟨RX9, TX9, 11, rfl, ⟨by decide, by decide, by decide⟩, inWX9, mw365, ⟨tyX9, tyX9_ok, rfl⟩, nmX9, rfl, rfl⟩
set_option maxRecDepth 20000 in
theorem mw366 : Cond.fieldLink "Datalogmill$Walk" (18 : Nat) "Datalogmill$Walk" "bound" "[I" ∈ GW := inGW (List.mem_of_getElem? (i := 366) (by rfl)) (by decide +kernel)
theorem fpfX9_18 : FPF RX9 18 TA 10 10 (.array .int) := ⟨RX9, TX9, 11, rfl, ⟨by decide, by decide, by decide⟩, inWX9, mw366, ⟨tyX9, tyX9_ok, rfl⟩, nmX9, rfl, rfl⟩
set_option maxRecDepth 20000 in
theorem mw356 : Cond.fieldLink "Datalogmill$Walk" (21 : Nat) "Datalogmill$Walk" "schema" "LDatalogmill$Schema;" ∈ GW := inGW (List.mem_of_getElem? (i := 356) (by rfl)) (by decide +kernel)
theorem fpfX9_21 : FPF RX9 21 TA 10 0 (.object "Datalogmill$Schema") := ⟨RX9, TX9, 11, rfl, ⟨by decide, by decide, by decide⟩, inWX9, mw356, ⟨tyX9, tyX9_ok, rfl⟩, nmX9, rfl, rfl⟩
set_option maxRecDepth 20000 in
theorem mw357 : Cond.fieldLink "Datalogmill$Walk" (25 : Nat) "Datalogmill$Walk" "body" "LDatalogmill$Body;" ∈ GW := inGW (List.mem_of_getElem? (i := 357) (by rfl)) (by decide +kernel)
theorem fpX9_25 : FP RX9 25 TA 10 1 (.object "Datalogmill$Body") := ⟨RX9, TX9, 11, rfl, ⟨by decide, by decide, by decide⟩, inWX9, Or.inl mw357, ⟨tyX9, tyX9_ok, rfl⟩, nmX9, rfl⟩
set_option maxRecDepth 20000 in
theorem mw358 : Cond.fieldLink "Datalogmill$Walk" (29 : Nat) "Datalogmill$Walk" "model" "LDatalogmill$Model;" ∈ GW := inGW (List.mem_of_getElem? (i := 358) (by rfl)) (by decide +kernel)
theorem fpX9_29 : FP RX9 29 TA 10 2 (.object "Datalogmill$Model") := ⟨RX9, TX9, 11, rfl, ⟨by decide, by decide, by decide⟩, inWX9, Or.inl mw358, ⟨tyX9, tyX9_ok, rfl⟩, nmX9, rfl⟩
set_option maxRecDepth 20000 in
theorem mw362 : Cond.fieldLink "Datalogmill$Walk" (33 : Nat) "Datalogmill$Walk" "lead" "I" ∈ GW := inGW (List.mem_of_getElem? (i := 362) (by rfl)) (by decide +kernel)
theorem fpX9_33 : FP RX9 33 TA 10 6 .int := ⟨RX9, TX9, 11, rfl, ⟨by decide, by decide, by decide⟩, inWX9, Or.inl mw362, ⟨tyX9, tyX9_ok, rfl⟩, nmX9, rfl⟩
set_option maxRecDepth 20000 in
theorem mw360 : Cond.fieldLink "Datalogmill$Walk" (37 : Nat) "Datalogmill$Walk" "depth" "I" ∈ GW := inGW (List.mem_of_getElem? (i := 360) (by rfl)) (by decide +kernel)
theorem fpX9_37 : FP RX9 37 TA 10 4 .int := ⟨RX9, TX9, 11, rfl, ⟨by decide, by decide, by decide⟩, inWX9, Or.inl mw360, ⟨tyX9, tyX9_ok, rfl⟩, nmX9, rfl⟩
set_option maxRecDepth 20000 in
theorem mw395 : Cond.methodLink "Datalogmill$Mill" 3 Lib.objectInit ∈ GW := inGW (List.mem_of_getElem? (i := 395) (by rfl)) (by decide +kernel)
set_option maxRecDepth 20000 in
theorem mw396 : Cond.fieldLink "Datalogmill$Mill" (9 : Nat) "Datalogmill$Mill" "facts" "LDatalogmill$Facts;" ∈ GW := inGW (List.mem_of_getElem? (i := 396) (by rfl)) (by decide +kernel)
theorem fpfX4_9 : FPF RX4 9 TA 5 0 (.object "Datalogmill$Facts") := ⟨RX4, TX4, 3, rfl, ⟨by decide, by decide, by decide⟩, inWX4, mw396, ⟨tyX4, tyX4_ok, rfl⟩, nmX4, rfl, rfl⟩
set_option maxRecDepth 20000 in
theorem mw397 : Cond.fieldLink "Datalogmill$Mill" (15 : Nat) "Datalogmill$Mill" "program" "LDatalogmill$Program;" ∈ GW := inGW (List.mem_of_getElem? (i := 397) (by rfl)) (by decide +kernel)
theorem fpfX4_15 : FPF RX4 15 TA 5 1 (.object "Datalogmill$Program") := ⟨RX4, TX4, 3, rfl, ⟨by decide, by decide, by decide⟩, inWX4, mw397, ⟨tyX4, tyX4_ok, rfl⟩, nmX4, rfl, rfl⟩
set_option maxRecDepth 20000 in
theorem mw398 : Cond.fieldLink "Datalogmill$Mill" (19 : Nat) "Datalogmill$Mill" "walk" "LDatalogmill$Walk;" ∈ GW := inGW (List.mem_of_getElem? (i := 398) (by rfl)) (by decide +kernel)
theorem fpfX4_19 : FPF RX4 19 TA 5 2 (.object "Datalogmill$Walk") := ⟨RX4, TX4, 3, rfl, ⟨by decide, by decide, by decide⟩, inWX4, mw398, ⟨tyX4, tyX4_ok, rfl⟩, nmX4, rfl, rfl⟩
set_option maxRecDepth 20000 in
theorem mw412 : Cond.methodLink "Datalogmill$Costs" 3 Lib.objectInit ∈ GW := inGW (List.mem_of_getElem? (i := 412) (by rfl)) (by decide +kernel)
set_option maxRecDepth 20000 in
theorem mw414 : Cond.fieldLink "Datalogmill$Costs" (9 : Nat) "Datalogmill$Costs" "costs" "[I" ∈ GW := inGW (List.mem_of_getElem? (i := 414) (by rfl)) (by decide +kernel)
theorem fpfX1_9 : FPF RX1 9 TA 2 1 (.array .int) := ⟨RX1, TX1, 2, rfl, ⟨by decide, by decide, by decide⟩, inWX1, mw414, ⟨tyX1, tyX1_ok, rfl⟩, nmX1, rfl, rfl⟩
set_option maxRecDepth 20000 in
theorem mw425 : Cond.methodLink "Datalogmill$Goals" 3 Lib.objectInit ∈ GW := inGW (List.mem_of_getElem? (i := 425) (by rfl)) (by decide +kernel)
theorem rl400 : R32 (400) := ⟨by decide, by decide⟩
set_option maxRecDepth 20000 in
theorem mw428 : Cond.fieldLink "Datalogmill$Goals" (9 : Nat) "Datalogmill$Goals" "rows" "[I" ∈ GW := inGW (List.mem_of_getElem? (i := 428) (by rfl)) (by decide +kernel)
theorem fpfX3_9 : FPF RX3 9 TA 4 1 (.array .int) := ⟨RX3, TX3, 3, rfl, ⟨by decide, by decide, by decide⟩, inWX3, mw428, ⟨tyX3, tyX3_ok, rfl⟩, nmX3, rfl, rfl⟩
theorem rl1024 : R32 (1024) := ⟨by decide, by decide⟩
set_option maxRecDepth 20000 in
theorem mw429 : Cond.fieldLink "Datalogmill$Goals" (15 : Nat) "Datalogmill$Goals" "table" "[I" ∈ GW := inGW (List.mem_of_getElem? (i := 429) (by rfl)) (by decide +kernel)
theorem fpfX3_15 : FPF RX3 15 TA 4 2 (.array .int) := ⟨RX3, TX3, 3, rfl, ⟨by decide, by decide, by decide⟩, inWX3, mw429, ⟨tyX3, tyX3_ok, rfl⟩, nmX3, rfl, rfl⟩
set_option maxRecDepth 20000 in
theorem mw442 : Cond.methodLink "Datalogmill$Plan" 3 Lib.objectInit ∈ GW := inGW (List.mem_of_getElem? (i := 442) (by rfl)) (by decide +kernel)
set_option maxRecDepth 20000 in
theorem mw444 : Cond.fieldLink "Datalogmill$Plan" (9 : Nat) "Datalogmill$Plan" "places" "[I" ∈ GW := inGW (List.mem_of_getElem? (i := 444) (by rfl)) (by decide +kernel)
theorem fpfX6_9 : FPF RX6 9 TA 7 1 (.array .int) := ⟨RX6, TX6, 3, rfl, ⟨by decide, by decide, by decide⟩, inWX6, mw444, ⟨tyX6, tyX6_ok, rfl⟩, nmX6, rfl, rfl⟩
set_option maxRecDepth 20000 in
theorem mw445 : Cond.fieldLink "Datalogmill$Plan" (15 : Nat) "Datalogmill$Plan" "searches" "[I" ∈ GW := inGW (List.mem_of_getElem? (i := 445) (by rfl)) (by decide +kernel)
theorem fpfX6_15 : FPF RX6 15 TA 7 2 (.array .int) := ⟨RX6, TX6, 3, rfl, ⟨by decide, by decide, by decide⟩, inWX6, mw445, ⟨tyX6, tyX6_ok, rfl⟩, nmX6, rfl, rfl⟩
set_option maxRecDepth 20000 in
theorem mw188 : Cond.methodLink "Datalogmill" 3 Lib.objectInit ∈ GW := inGW (List.mem_of_getElem? (i := 188) (by rfl)) (by decide +kernel)
set_option maxRecDepth 20000 in
theorem mw191 : Cond.classLink "Datalogmill" (9 : Nat) "Datalogmill$Schema" ∈ GW := inGW (List.mem_of_getElem? (i := 191) (by rfl)) (by decide +kernel)
set_option maxRecDepth 20000 in
theorem mw192 : Cond.instantiable "Datalogmill$Schema" (4 : Nat) ∈ GW := inGW (List.mem_of_getElem? (i := 192) (by rfl)) (by decide +kernel)
set_option maxRecDepth 20000 in
theorem mw164 : Cond.initialized "Datalogmill$Schema" ∈ GW := inGW (List.mem_of_getElem? (i := 164) (by rfl)) (by decide +kernel)
set_option maxRecDepth 20000 in
theorem mt193 : Cond.methodLinkNest "Datalogmill" (11 : Nat) ({ cls := "Datalogmill$Schema", name := "<init>", desc := "()V" } : MethodName) "Datalogmill" ∈ lw_tbl := List.mem_of_getElem? (i := 193) (by rfl)
theorem lkX10_11 : LK "Datalogmill" 11 yX8_init := Or.inr ⟨_, mt193⟩
set_option maxRecDepth 20000 in
theorem mw195 : Cond.code yX8_init cX8_init 1 none ∈ GW := inGW (List.mem_of_getElem? (i := 195) (by rfl)) (by decide +kernel)
theorem ml_Sc_init : ML yX8_init cX8_init 1 none 0 := ⟨mw195, mw164, by decide +kernel, by decide +kernel, by decide +kernel⟩
set_option maxRecDepth 20000 in
theorem mw194 : Cond.instanceMethod ({ cls := "Datalogmill$Schema", name := "<init>", desc := "()V" } : MethodName) ∈ GW := inGW (List.mem_of_getElem? (i := 194) (by rfl)) (by decide +kernel)
set_option maxRecDepth 20000 in
theorem mw211 : Cond.classLink "Datalogmill" (12 : Nat) "Datalogmill$Facts" ∈ GW := inGW (List.mem_of_getElem? (i := 211) (by rfl)) (by decide +kernel)
set_option maxRecDepth 20000 in
theorem mw212 : Cond.instantiable "Datalogmill$Facts" (8 : Nat) ∈ GW := inGW (List.mem_of_getElem? (i := 212) (by rfl)) (by decide +kernel)
set_option maxRecDepth 20000 in
theorem mw165 : Cond.initialized "Datalogmill$Facts" ∈ GW := inGW (List.mem_of_getElem? (i := 165) (by rfl)) (by decide +kernel)
set_option maxRecDepth 20000 in
theorem mt213 : Cond.methodLinkNest "Datalogmill" (14 : Nat) ({ cls := "Datalogmill$Facts", name := "<init>", desc := "()V" } : MethodName) "Datalogmill" ∈ lw_tbl := List.mem_of_getElem? (i := 213) (by rfl)
theorem lkX10_14 : LK "Datalogmill" 14 yX2_init := Or.inr ⟨_, mt213⟩
set_option maxRecDepth 20000 in
theorem mw215 : Cond.code yX2_init cX2_init 1 none ∈ GW := inGW (List.mem_of_getElem? (i := 215) (by rfl)) (by decide +kernel)
theorem ml_Fa_init : ML yX2_init cX2_init 1 none 0 := ⟨mw215, mw165, by decide +kernel, by decide +kernel, by decide +kernel⟩
set_option maxRecDepth 20000 in
theorem mw214 : Cond.instanceMethod ({ cls := "Datalogmill$Facts", name := "<init>", desc := "()V" } : MethodName) ∈ GW := inGW (List.mem_of_getElem? (i := 214) (by rfl)) (by decide +kernel)
set_option maxRecDepth 20000 in
theorem mw246 : Cond.classLink "Datalogmill" (15 : Nat) "Datalogmill$Program" ∈ GW := inGW (List.mem_of_getElem? (i := 246) (by rfl)) (by decide +kernel)
set_option maxRecDepth 20000 in
theorem mw247 : Cond.instantiable "Datalogmill$Program" (8 : Nat) ∈ GW := inGW (List.mem_of_getElem? (i := 247) (by rfl)) (by decide +kernel)
set_option maxRecDepth 20000 in
theorem mw166 : Cond.initialized "Datalogmill$Program" ∈ GW := inGW (List.mem_of_getElem? (i := 166) (by rfl)) (by decide +kernel)
set_option maxRecDepth 20000 in
theorem mt248 : Cond.methodLinkNest "Datalogmill" (17 : Nat) ({ cls := "Datalogmill$Program", name := "<init>", desc := "(LDatalogmill$Schema;)V" } : MethodName) "Datalogmill" ∈ lw_tbl := List.mem_of_getElem? (i := 248) (by rfl)
theorem lkX10_17 : LK "Datalogmill" 17 yX7_init := Or.inr ⟨_, mt248⟩
set_option maxRecDepth 20000 in
theorem mw250 : Cond.code yX7_init cX7_init 3 none ∈ GW := inGW (List.mem_of_getElem? (i := 250) (by rfl)) (by decide +kernel)
theorem ml_Pr_init : ML yX7_init cX7_init 3 none 1 := ⟨mw250, mw166, by decide +kernel, by decide +kernel, by decide +kernel⟩
set_option maxRecDepth 20000 in
theorem mw249 : Cond.instanceMethod ({ cls := "Datalogmill$Program", name := "<init>", desc := "(LDatalogmill$Schema;)V" } : MethodName) ∈ GW := inGW (List.mem_of_getElem? (i := 249) (by rfl)) (by decide +kernel)
set_option maxRecDepth 20000 in
theorem mw318 : Cond.classLink "Datalogmill" (20 : Nat) "Datalogmill$Body" ∈ GW := inGW (List.mem_of_getElem? (i := 318) (by rfl)) (by decide +kernel)
set_option maxRecDepth 20000 in
theorem mt319 : Cond.methodLinkNest "Datalogmill" (22 : Nat) ({ cls := "Datalogmill$Body", name := "<init>", desc := "()V" } : MethodName) "Datalogmill" ∈ lw_tbl := List.mem_of_getElem? (i := 319) (by rfl)
theorem lkX10_22 : LK "Datalogmill" 22 yX0_init := Or.inr ⟨_, mt319⟩
set_option maxRecDepth 20000 in
theorem mw320 : Cond.classLink "Datalogmill" (23 : Nat) "Datalogmill$Model" ∈ GW := inGW (List.mem_of_getElem? (i := 320) (by rfl)) (by decide +kernel)
set_option maxRecDepth 20000 in
theorem mw321 : Cond.instantiable "Datalogmill$Model" (7 : Nat) ∈ GW := inGW (List.mem_of_getElem? (i := 321) (by rfl)) (by decide +kernel)
set_option maxRecDepth 20000 in
theorem mw168 : Cond.initialized "Datalogmill$Model" ∈ GW := inGW (List.mem_of_getElem? (i := 168) (by rfl)) (by decide +kernel)
set_option maxRecDepth 20000 in
theorem mt322 : Cond.methodLinkNest "Datalogmill" (25 : Nat) ({ cls := "Datalogmill$Model", name := "<init>", desc := "(LDatalogmill$Schema;)V" } : MethodName) "Datalogmill" ∈ lw_tbl := List.mem_of_getElem? (i := 322) (by rfl)
theorem lkX10_25 : LK "Datalogmill" 25 yX5_init := Or.inr ⟨_, mt322⟩
set_option maxRecDepth 20000 in
theorem mw324 : Cond.code yX5_init cX5_init 3 none ∈ GW := inGW (List.mem_of_getElem? (i := 324) (by rfl)) (by decide +kernel)
theorem ml_Mo_init : ML yX5_init cX5_init 3 none 1 := ⟨mw324, mw168, by decide +kernel, by decide +kernel, by decide +kernel⟩
set_option maxRecDepth 20000 in
theorem mw323 : Cond.instanceMethod ({ cls := "Datalogmill$Model", name := "<init>", desc := "(LDatalogmill$Schema;)V" } : MethodName) ∈ GW := inGW (List.mem_of_getElem? (i := 323) (by rfl)) (by decide +kernel)
set_option maxRecDepth 20000 in
theorem mw350 : Cond.classLink "Datalogmill" (26 : Nat) "Datalogmill$Walk" ∈ GW := inGW (List.mem_of_getElem? (i := 350) (by rfl)) (by decide +kernel)
set_option maxRecDepth 20000 in
theorem mw351 : Cond.instantiable "Datalogmill$Walk" (11 : Nat) ∈ GW := inGW (List.mem_of_getElem? (i := 351) (by rfl)) (by decide +kernel)
set_option maxRecDepth 20000 in
theorem mw169 : Cond.initialized "Datalogmill$Walk" ∈ GW := inGW (List.mem_of_getElem? (i := 169) (by rfl)) (by decide +kernel)
set_option maxRecDepth 20000 in
theorem mt352 : Cond.methodLinkNest "Datalogmill" (28 : Nat) ({ cls := "Datalogmill$Walk", name := "<init>", desc := "(LDatalogmill$Schema;LDatalogmill$Body;LDatalogmill$Model;)V" } : MethodName) "Datalogmill" ∈ lw_tbl := List.mem_of_getElem? (i := 352) (by rfl)
theorem lkX10_28 : LK "Datalogmill" 28 yX9_init := Or.inr ⟨_, mt352⟩
set_option maxRecDepth 20000 in
theorem mw354 : Cond.code yX9_init cX9_init 4 none ∈ GW := inGW (List.mem_of_getElem? (i := 354) (by rfl)) (by decide +kernel)
theorem ml_Wa_init : ML yX9_init cX9_init 4 none 3 := ⟨mw354, mw169, by decide +kernel, by decide +kernel, by decide +kernel⟩
set_option maxRecDepth 20000 in
theorem mw353 : Cond.instanceMethod ({ cls := "Datalogmill$Walk", name := "<init>", desc := "(LDatalogmill$Schema;LDatalogmill$Body;LDatalogmill$Model;)V" } : MethodName) ∈ GW := inGW (List.mem_of_getElem? (i := 353) (by rfl)) (by decide +kernel)
set_option maxRecDepth 20000 in
theorem mw453 : Cond.fieldLink "Datalogmill" (31 : Nat) "Datalogmill" "schema" "LDatalogmill$Schema;" ∈ GW := inGW (List.mem_of_getElem? (i := 453) (by rfl)) (by decide +kernel)
theorem fpfX10_31 : FPF RX10 31 TA 11 0 (.object "Datalogmill$Schema") := ⟨RX10, TX10, 13, rfl, ⟨by decide, by decide, by decide⟩, inWX10, mw453, ⟨tyX10, tyX10_ok, rfl⟩, nmX10, rfl, rfl⟩
set_option maxRecDepth 20000 in
theorem mw454 : Cond.fieldLink "Datalogmill" (35 : Nat) "Datalogmill" "facts" "LDatalogmill$Facts;" ∈ GW := inGW (List.mem_of_getElem? (i := 454) (by rfl)) (by decide +kernel)
theorem fpfX10_35 : FPF RX10 35 TA 11 1 (.object "Datalogmill$Facts") := ⟨RX10, TX10, 13, rfl, ⟨by decide, by decide, by decide⟩, inWX10, mw454, ⟨tyX10, tyX10_ok, rfl⟩, nmX10, rfl, rfl⟩
set_option maxRecDepth 20000 in
theorem mw455 : Cond.fieldLink "Datalogmill" (39 : Nat) "Datalogmill" "program" "LDatalogmill$Program;" ∈ GW := inGW (List.mem_of_getElem? (i := 455) (by rfl)) (by decide +kernel)
theorem fpfX10_39 : FPF RX10 39 TA 11 2 (.object "Datalogmill$Program") := ⟨RX10, TX10, 13, rfl, ⟨by decide, by decide, by decide⟩, inWX10, mw455, ⟨tyX10, tyX10_ok, rfl⟩, nmX10, rfl, rfl⟩
set_option maxRecDepth 20000 in
theorem mw456 : Cond.fieldLink "Datalogmill" (43 : Nat) "Datalogmill" "draft" "LDatalogmill$Body;" ∈ GW := inGW (List.mem_of_getElem? (i := 456) (by rfl)) (by decide +kernel)
theorem fpfX10_43 : FPF RX10 43 TA 11 3 (.object "Datalogmill$Body") := ⟨RX10, TX10, 13, rfl, ⟨by decide, by decide, by decide⟩, inWX10, mw456, ⟨tyX10, tyX10_ok, rfl⟩, nmX10, rfl, rfl⟩
set_option maxRecDepth 20000 in
theorem mw459 : Cond.fieldLink "Datalogmill" (47 : Nat) "Datalogmill" "trial" "LDatalogmill$Model;" ∈ GW := inGW (List.mem_of_getElem? (i := 459) (by rfl)) (by decide +kernel)
theorem fpfX10_47 : FPF RX10 47 TA 11 6 (.object "Datalogmill$Model") := ⟨RX10, TX10, 13, rfl, ⟨by decide, by decide, by decide⟩, inWX10, mw459, ⟨tyX10, tyX10_ok, rfl⟩, nmX10, rfl, rfl⟩
set_option maxRecDepth 20000 in
theorem mw460 : Cond.fieldLink "Datalogmill" (51 : Nat) "Datalogmill" "walk" "LDatalogmill$Walk;" ∈ GW := inGW (List.mem_of_getElem? (i := 460) (by rfl)) (by decide +kernel)
theorem fpfX10_51 : FPF RX10 51 TA 11 7 (.object "Datalogmill$Walk") := ⟨RX10, TX10, 13, rfl, ⟨by decide, by decide, by decide⟩, inWX10, mw460, ⟨tyX10, tyX10_ok, rfl⟩, nmX10, rfl, rfl⟩
set_option maxRecDepth 20000 in
theorem mw390 : Cond.classLink "Datalogmill" (55 : Nat) "Datalogmill$Mill" ∈ GW := inGW (List.mem_of_getElem? (i := 390) (by rfl)) (by decide +kernel)
set_option maxRecDepth 20000 in
theorem mw391 : Cond.instantiable "Datalogmill$Mill" (3 : Nat) ∈ GW := inGW (List.mem_of_getElem? (i := 391) (by rfl)) (by decide +kernel)
set_option maxRecDepth 20000 in
theorem mw170 : Cond.initialized "Datalogmill$Mill" ∈ GW := inGW (List.mem_of_getElem? (i := 170) (by rfl)) (by decide +kernel)
set_option maxRecDepth 20000 in
theorem mt392 : Cond.methodLinkNest "Datalogmill" (57 : Nat) ({ cls := "Datalogmill$Mill", name := "<init>", desc := "(LDatalogmill$Facts;LDatalogmill$Program;LDatalogmill$Walk;)V" } : MethodName) "Datalogmill" ∈ lw_tbl := List.mem_of_getElem? (i := 392) (by rfl)
theorem lkX10_57 : LK "Datalogmill" 57 yX4_init := Or.inr ⟨_, mt392⟩
set_option maxRecDepth 20000 in
theorem mw394 : Cond.code yX4_init cX4_init 4 none ∈ GW := inGW (List.mem_of_getElem? (i := 394) (by rfl)) (by decide +kernel)
theorem ml_Mi_init : ML yX4_init cX4_init 4 none 3 := ⟨mw394, mw170, by decide +kernel, by decide +kernel, by decide +kernel⟩
set_option maxRecDepth 20000 in
theorem mw393 : Cond.instanceMethod ({ cls := "Datalogmill$Mill", name := "<init>", desc := "(LDatalogmill$Facts;LDatalogmill$Program;LDatalogmill$Walk;)V" } : MethodName) ∈ GW := inGW (List.mem_of_getElem? (i := 393) (by rfl)) (by decide +kernel)
set_option maxRecDepth 20000 in
theorem mw461 : Cond.fieldLink "Datalogmill" (60 : Nat) "Datalogmill" "mill" "LDatalogmill$Mill;" ∈ GW := inGW (List.mem_of_getElem? (i := 461) (by rfl)) (by decide +kernel)
theorem fpfX10_60 : FPF RX10 60 TA 11 8 (.object "Datalogmill$Mill") := ⟨RX10, TX10, 13, rfl, ⟨by decide, by decide, by decide⟩, inWX10, mw461, ⟨tyX10, tyX10_ok, rfl⟩, nmX10, rfl, rfl⟩
set_option maxRecDepth 20000 in
theorem mt406 : Cond.arrayOver (ClassFile.FieldType.object "Datalogmill$Model") ∈ lw_tbl := List.mem_of_getElem? (i := 406) (by rfl)
set_option maxRecDepth 20000 in
theorem mw457 : Cond.fieldLink "Datalogmill" (64 : Nat) "Datalogmill" "models" "[LDatalogmill$Model;" ∈ GW := inGW (List.mem_of_getElem? (i := 457) (by rfl)) (by decide +kernel)
theorem fpfX10_64 : FPF RX10 64 TA 11 4 (.array (.object "Datalogmill$Model")) := ⟨RX10, TX10, 13, rfl, ⟨by decide, by decide, by decide⟩, inWX10, mw457, ⟨tyX10, tyX10_ok, rfl⟩, nmX10, rfl, rfl⟩
set_option maxRecDepth 20000 in
theorem mw458 : Cond.fieldLink "Datalogmill" (68 : Nat) "Datalogmill" "spares" "[LDatalogmill$Model;" ∈ GW := inGW (List.mem_of_getElem? (i := 458) (by rfl)) (by decide +kernel)
theorem fpfX10_68 : FPF RX10 68 TA 11 5 (.array (.object "Datalogmill$Model")) := ⟨RX10, TX10, 13, rfl, ⟨by decide, by decide, by decide⟩, inWX10, mw458, ⟨tyX10, tyX10_ok, rfl⟩, nmX10, rfl, rfl⟩
theorem flX10_64 : FL RX10 64 TA 11 4 := ⟨RX10, TX10, 13, rfl, ⟨by decide, by decide, by decide⟩, inWX10, Or.inl mw457⟩
theorem flX10_68 : FL RX10 68 TA 11 5 := ⟨RX10, TX10, 13, rfl, ⟨by decide, by decide, by decide⟩, inWX10, Or.inl mw458⟩
set_option maxRecDepth 20000 in
theorem mw407 : Cond.classLink "Datalogmill" (71 : Nat) "Datalogmill$Costs" ∈ GW := inGW (List.mem_of_getElem? (i := 407) (by rfl)) (by decide +kernel)
set_option maxRecDepth 20000 in
theorem mw408 : Cond.instantiable "Datalogmill$Costs" (2 : Nat) ∈ GW := inGW (List.mem_of_getElem? (i := 408) (by rfl)) (by decide +kernel)
set_option maxRecDepth 20000 in
theorem mw171 : Cond.initialized "Datalogmill$Costs" ∈ GW := inGW (List.mem_of_getElem? (i := 171) (by rfl)) (by decide +kernel)
set_option maxRecDepth 20000 in
theorem mt409 : Cond.methodLinkNest "Datalogmill" (73 : Nat) ({ cls := "Datalogmill$Costs", name := "<init>", desc := "()V" } : MethodName) "Datalogmill" ∈ lw_tbl := List.mem_of_getElem? (i := 409) (by rfl)
theorem lkX10_73 : LK "Datalogmill" 73 yX1_init := Or.inr ⟨_, mt409⟩
set_option maxRecDepth 20000 in
theorem mw411 : Cond.code yX1_init cX1_init 1 none ∈ GW := inGW (List.mem_of_getElem? (i := 411) (by rfl)) (by decide +kernel)
theorem ml_Co_init : ML yX1_init cX1_init 1 none 0 := ⟨mw411, mw171, by decide +kernel, by decide +kernel, by decide +kernel⟩
set_option maxRecDepth 20000 in
theorem mw410 : Cond.instanceMethod ({ cls := "Datalogmill$Costs", name := "<init>", desc := "()V" } : MethodName) ∈ GW := inGW (List.mem_of_getElem? (i := 410) (by rfl)) (by decide +kernel)
set_option maxRecDepth 20000 in
theorem mw462 : Cond.fieldLink "Datalogmill" (74 : Nat) "Datalogmill" "costs" "LDatalogmill$Costs;" ∈ GW := inGW (List.mem_of_getElem? (i := 462) (by rfl)) (by decide +kernel)
theorem fpfX10_74 : FPF RX10 74 TA 11 9 (.object "Datalogmill$Costs") := ⟨RX10, TX10, 13, rfl, ⟨by decide, by decide, by decide⟩, inWX10, mw462, ⟨tyX10, tyX10_ok, rfl⟩, nmX10, rfl, rfl⟩
set_option maxRecDepth 20000 in
theorem mw420 : Cond.classLink "Datalogmill" (78 : Nat) "Datalogmill$Goals" ∈ GW := inGW (List.mem_of_getElem? (i := 420) (by rfl)) (by decide +kernel)
set_option maxRecDepth 20000 in
theorem mw421 : Cond.instantiable "Datalogmill$Goals" (3 : Nat) ∈ GW := inGW (List.mem_of_getElem? (i := 421) (by rfl)) (by decide +kernel)
set_option maxRecDepth 20000 in
theorem mw172 : Cond.initialized "Datalogmill$Goals" ∈ GW := inGW (List.mem_of_getElem? (i := 172) (by rfl)) (by decide +kernel)
set_option maxRecDepth 20000 in
theorem mt422 : Cond.methodLinkNest "Datalogmill" (80 : Nat) ({ cls := "Datalogmill$Goals", name := "<init>", desc := "()V" } : MethodName) "Datalogmill" ∈ lw_tbl := List.mem_of_getElem? (i := 422) (by rfl)
theorem lkX10_80 : LK "Datalogmill" 80 yX3_init := Or.inr ⟨_, mt422⟩
set_option maxRecDepth 20000 in
theorem mw424 : Cond.code yX3_init cX3_init 1 none ∈ GW := inGW (List.mem_of_getElem? (i := 424) (by rfl)) (by decide +kernel)
theorem ml_Go_init : ML yX3_init cX3_init 1 none 0 := ⟨mw424, mw172, by decide +kernel, by decide +kernel, by decide +kernel⟩
set_option maxRecDepth 20000 in
theorem mw423 : Cond.instanceMethod ({ cls := "Datalogmill$Goals", name := "<init>", desc := "()V" } : MethodName) ∈ GW := inGW (List.mem_of_getElem? (i := 423) (by rfl)) (by decide +kernel)
set_option maxRecDepth 20000 in
theorem mw463 : Cond.fieldLink "Datalogmill" (81 : Nat) "Datalogmill" "asked" "LDatalogmill$Goals;" ∈ GW := inGW (List.mem_of_getElem? (i := 463) (by rfl)) (by decide +kernel)
theorem fpfX10_81 : FPF RX10 81 TA 11 10 (.object "Datalogmill$Goals") := ⟨RX10, TX10, 13, rfl, ⟨by decide, by decide, by decide⟩, inWX10, mw463, ⟨tyX10, tyX10_ok, rfl⟩, nmX10, rfl, rfl⟩
set_option maxRecDepth 20000 in
theorem mw437 : Cond.classLink "Datalogmill" (85 : Nat) "Datalogmill$Plan" ∈ GW := inGW (List.mem_of_getElem? (i := 437) (by rfl)) (by decide +kernel)
set_option maxRecDepth 20000 in
theorem mw438 : Cond.instantiable "Datalogmill$Plan" (3 : Nat) ∈ GW := inGW (List.mem_of_getElem? (i := 438) (by rfl)) (by decide +kernel)
set_option maxRecDepth 20000 in
theorem mw173 : Cond.initialized "Datalogmill$Plan" ∈ GW := inGW (List.mem_of_getElem? (i := 173) (by rfl)) (by decide +kernel)
set_option maxRecDepth 20000 in
theorem mt439 : Cond.methodLinkNest "Datalogmill" (87 : Nat) ({ cls := "Datalogmill$Plan", name := "<init>", desc := "()V" } : MethodName) "Datalogmill" ∈ lw_tbl := List.mem_of_getElem? (i := 439) (by rfl)
theorem lkX10_87 : LK "Datalogmill" 87 yX6_init := Or.inr ⟨_, mt439⟩
set_option maxRecDepth 20000 in
theorem mw441 : Cond.code yX6_init cX6_init 1 none ∈ GW := inGW (List.mem_of_getElem? (i := 441) (by rfl)) (by decide +kernel)
theorem ml_Pl_init : ML yX6_init cX6_init 1 none 0 := ⟨mw441, mw173, by decide +kernel, by decide +kernel, by decide +kernel⟩
set_option maxRecDepth 20000 in
theorem mw440 : Cond.instanceMethod ({ cls := "Datalogmill$Plan", name := "<init>", desc := "()V" } : MethodName) ∈ GW := inGW (List.mem_of_getElem? (i := 440) (by rfl)) (by decide +kernel)
set_option maxRecDepth 20000 in
theorem mw464 : Cond.fieldLink "Datalogmill" (88 : Nat) "Datalogmill" "plan" "LDatalogmill$Plan;" ∈ GW := inGW (List.mem_of_getElem? (i := 464) (by rfl)) (by decide +kernel)
theorem fpfX10_88 : FPF RX10 88 TA 11 11 (.object "Datalogmill$Plan") := ⟨RX10, TX10, 13, rfl, ⟨by decide, by decide, by decide⟩, inWX10, mw464, ⟨tyX10, tyX10_ok, rfl⟩, nmX10, rfl, rfl⟩
set_option maxRecDepth 20000 in
theorem mw1363 : Cond.methodLink "DatalogmillModel" 1 Lib.objectInit ∈ GW := inGW (List.mem_of_getElem? (i := 1363) (by rfl)) (by decide +kernel)
set_option maxRecDepth 20000 in
theorem mw1366 : Cond.fieldLink "DatalogmillModel" (7 : Nat) "DatalogmillModel" "isDeclared" "[Z" ∈ GW := inGW (List.mem_of_getElem? (i := 1366) (by rfl)) (by decide +kernel)
theorem fpfX11_7 : FPF RX11 7 TB 12 2 (.array .boolean) := ⟨RX11, TX11, 38, rfl, ⟨by decide, by decide, by decide⟩, inWX11, mw1366, ⟨tyX11, tyX11_ok, rfl⟩, nmX11, rfl, rfl⟩
set_option maxRecDepth 20000 in
theorem mw1367 : Cond.fieldLink "DatalogmillModel" (13 : Nat) "DatalogmillModel" "columns" "[I" ∈ GW := inGW (List.mem_of_getElem? (i := 1367) (by rfl)) (by decide +kernel)
theorem fpfX11_13 : FPF RX11 13 TB 12 3 (.array .int) := ⟨RX11, TX11, 38, rfl, ⟨by decide, by decide, by decide⟩, inWX11, mw1367, ⟨tyX11, tyX11_ok, rfl⟩, nmX11, rfl, rfl⟩
set_option maxRecDepth 20000 in
theorem mw1368 : Cond.fieldLink "DatalogmillModel" (17 : Nat) "DatalogmillModel" "kinds" "[I" ∈ GW := inGW (List.mem_of_getElem? (i := 1368) (by rfl)) (by decide +kernel)
theorem fpfX11_17 : FPF RX11 17 TB 12 4 (.array .int) := ⟨RX11, TX11, 38, rfl, ⟨by decide, by decide, by decide⟩, inWX11, mw1368, ⟨tyX11, tyX11_ok, rfl⟩, nmX11, rfl, rfl⟩
set_option maxRecDepth 20000 in
theorem mw1369 : Cond.fieldLink "DatalogmillModel" (20 : Nat) "DatalogmillModel" "keys" "[I" ∈ GW := inGW (List.mem_of_getElem? (i := 1369) (by rfl)) (by decide +kernel)
theorem fpfX11_20 : FPF RX11 20 TB 12 5 (.array .int) := ⟨RX11, TX11, 38, rfl, ⟨by decide, by decide, by decide⟩, inWX11, mw1369, ⟨tyX11, tyX11_ok, rfl⟩, nmX11, rfl, rfl⟩
set_option maxRecDepth 20000 in
theorem mw1370 : Cond.fieldLink "DatalogmillModel" (23 : Nat) "DatalogmillModel" "strata" "[I" ∈ GW := inGW (List.mem_of_getElem? (i := 1370) (by rfl)) (by decide +kernel)
theorem fpfX11_23 : FPF RX11 23 TB 12 6 (.array .int) := ⟨RX11, TX11, 38, rfl, ⟨by decide, by decide, by decide⟩, inWX11, mw1370, ⟨tyX11, tyX11_ok, rfl⟩, nmX11, rfl, rfl⟩
set_option maxRecDepth 20000 in
theorem mw1372 : Cond.fieldLink "DatalogmillModel" (26 : Nat) "DatalogmillModel" "factRelation" "[I" ∈ GW := inGW (List.mem_of_getElem? (i := 1372) (by rfl)) (by decide +kernel)
theorem fpfX11_26 : FPF RX11 26 TB 12 8 (.array .int) := ⟨RX11, TX11, 38, rfl, ⟨by decide, by decide, by decide⟩, inWX11, mw1372, ⟨tyX11, tyX11_ok, rfl⟩, nmX11, rfl, rfl⟩
theorem rl72 : R32 (72) := ⟨by decide, by decide⟩
set_option maxRecDepth 20000 in
theorem mw1373 : Cond.fieldLink "DatalogmillModel" (29 : Nat) "DatalogmillModel" "factValues" "[I" ∈ GW := inGW (List.mem_of_getElem? (i := 1373) (by rfl)) (by decide +kernel)
theorem fpfX11_29 : FPF RX11 29 TB 12 9 (.array .int) := ⟨RX11, TX11, 38, rfl, ⟨by decide, by decide, by decide⟩, inWX11, mw1373, ⟨tyX11, tyX11_ok, rfl⟩, nmX11, rfl, rfl⟩
set_option maxRecDepth 20000 in
theorem mw1374 : Cond.fieldLink "DatalogmillModel" (32 : Nat) "DatalogmillModel" "factCost" "[I" ∈ GW := inGW (List.mem_of_getElem? (i := 1374) (by rfl)) (by decide +kernel)
theorem fpfX11_32 : FPF RX11 32 TB 12 10 (.array .int) := ⟨RX11, TX11, 38, rfl, ⟨by decide, by decide, by decide⟩, inWX11, mw1374, ⟨tyX11, tyX11_ok, rfl⟩, nmX11, rfl, rfl⟩
set_option maxRecDepth 20000 in
theorem mw1375 : Cond.fieldLink "DatalogmillModel" (35 : Nat) "DatalogmillModel" "factFrom" "[I" ∈ GW := inGW (List.mem_of_getElem? (i := 1375) (by rfl)) (by decide +kernel)
theorem fpfX11_35 : FPF RX11 35 TB 12 11 (.array .int) := ⟨RX11, TX11, 38, rfl, ⟨by decide, by decide, by decide⟩, inWX11, mw1375, ⟨tyX11, tyX11_ok, rfl⟩, nmX11, rfl, rfl⟩
set_option maxRecDepth 20000 in
theorem mw1376 : Cond.fieldLink "DatalogmillModel" (38 : Nat) "DatalogmillModel" "factTo" "[I" ∈ GW := inGW (List.mem_of_getElem? (i := 1376) (by rfl)) (by decide +kernel)
theorem fpfX11_38 : FPF RX11 38 TB 12 12 (.array .int) := ⟨RX11, TX11, 38, rfl, ⟨by decide, by decide, by decide⟩, inWX11, mw1376, ⟨tyX11, tyX11_ok, rfl⟩, nmX11, rfl, rfl⟩
set_option maxRecDepth 20000 in
theorem mw1377 : Cond.fieldLink "DatalogmillModel" (41 : Nat) "DatalogmillModel" "isDropped" "[Z" ∈ GW := inGW (List.mem_of_getElem? (i := 1377) (by rfl)) (by decide +kernel)
theorem fpfX11_41 : FPF RX11 41 TB 12 13 (.array .boolean) := ⟨RX11, TX11, 38, rfl, ⟨by decide, by decide, by decide⟩, inWX11, mw1377, ⟨tyX11, tyX11_ok, rfl⟩, nmX11, rfl, rfl⟩
set_option maxRecDepth 20000 in
theorem mw1380 : Cond.fieldLink "DatalogmillModel" (44 : Nat) "DatalogmillModel" "isRemoved" "[Z" ∈ GW := inGW (List.mem_of_getElem? (i := 1380) (by rfl)) (by decide +kernel)
theorem fpfX11_44 : FPF RX11 44 TB 12 16 (.array .boolean) := ⟨RX11, TX11, 38, rfl, ⟨by decide, by decide, by decide⟩, inWX11, mw1380, ⟨tyX11, tyX11_ok, rfl⟩, nmX11, rfl, rfl⟩
theorem rl19 : R32 (19) := ⟨by decide, by decide⟩
set_option maxRecDepth 20000 in
theorem mw1381 : Cond.fieldLink "DatalogmillModel" (47 : Nat) "DatalogmillModel" "headRelation" "[I" ∈ GW := inGW (List.mem_of_getElem? (i := 1381) (by rfl)) (by decide +kernel)
theorem fpfX11_47 : FPF RX11 47 TB 12 17 (.array .int) := ⟨RX11, TX11, 38, rfl, ⟨by decide, by decide, by decide⟩, inWX11, mw1381, ⟨tyX11, tyX11_ok, rfl⟩, nmX11, rfl, rfl⟩
theorem rl57 : R32 (57) := ⟨by decide, by decide⟩
set_option maxRecDepth 20000 in
theorem mw1382 : Cond.fieldLink "DatalogmillModel" (50 : Nat) "DatalogmillModel" "headTerms" "[I" ∈ GW := inGW (List.mem_of_getElem? (i := 1382) (by rfl)) (by decide +kernel)
theorem fpfX11_50 : FPF RX11 50 TB 12 18 (.array .int) := ⟨RX11, TX11, 38, rfl, ⟨by decide, by decide, by decide⟩, inWX11, mw1382, ⟨tyX11, tyX11_ok, rfl⟩, nmX11, rfl, rfl⟩
set_option maxRecDepth 20000 in
theorem mw1383 : Cond.fieldLink "DatalogmillModel" (53 : Nat) "DatalogmillModel" "lengths" "[I" ∈ GW := inGW (List.mem_of_getElem? (i := 1383) (by rfl)) (by decide +kernel)
theorem fpfX11_53 : FPF RX11 53 TB 12 19 (.array .int) := ⟨RX11, TX11, 38, rfl, ⟨by decide, by decide, by decide⟩, inWX11, mw1383, ⟨tyX11, tyX11_ok, rfl⟩, nmX11, rfl, rfl⟩
theorem rl95 : R32 (95) := ⟨by decide, by decide⟩
set_option maxRecDepth 20000 in
theorem mw1384 : Cond.fieldLink "DatalogmillModel" (56 : Nat) "DatalogmillModel" "kindOf" "[I" ∈ GW := inGW (List.mem_of_getElem? (i := 1384) (by rfl)) (by decide +kernel)
theorem fpfX11_56 : FPF RX11 56 TB 12 20 (.array .int) := ⟨RX11, TX11, 38, rfl, ⟨by decide, by decide, by decide⟩, inWX11, mw1384, ⟨tyX11, tyX11_ok, rfl⟩, nmX11, rfl, rfl⟩
set_option maxRecDepth 20000 in
theorem mw1385 : Cond.fieldLink "DatalogmillModel" (59 : Nat) "DatalogmillModel" "of" "[I" ∈ GW := inGW (List.mem_of_getElem? (i := 1385) (by rfl)) (by decide +kernel)
theorem fpfX11_59 : FPF RX11 59 TB 12 21 (.array .int) := ⟨RX11, TX11, 38, rfl, ⟨by decide, by decide, by decide⟩, inWX11, mw1385, ⟨tyX11, tyX11_ok, rfl⟩, nmX11, rfl, rfl⟩
theorem rl285 : R32 (285) := ⟨by decide, by decide⟩
set_option maxRecDepth 20000 in
theorem mw1386 : Cond.fieldLink "DatalogmillModel" (62 : Nat) "DatalogmillModel" "terms" "[I" ∈ GW := inGW (List.mem_of_getElem? (i := 1386) (by rfl)) (by decide +kernel)
theorem fpfX11_62 : FPF RX11 62 TB 12 22 (.array .int) := ⟨RX11, TX11, 38, rfl, ⟨by decide, by decide, by decide⟩, inWX11, mw1386, ⟨tyX11, tyX11_ok, rfl⟩, nmX11, rfl, rfl⟩
set_option maxRecDepth 20000 in
theorem mw1387 : Cond.fieldLink "DatalogmillModel" (65 : Nat) "DatalogmillModel" "sizes" "[I" ∈ GW := inGW (List.mem_of_getElem? (i := 1387) (by rfl)) (by decide +kernel)
theorem fpfX11_65 : FPF RX11 65 TB 12 23 (.array .int) := ⟨RX11, TX11, 38, rfl, ⟨by decide, by decide, by decide⟩, inWX11, mw1387, ⟨tyX11, tyX11_ok, rfl⟩, nmX11, rfl, rfl⟩
theorem rl250 : R32 (250) := ⟨by decide, by decide⟩
set_option maxRecDepth 20000 in
theorem mw1388 : Cond.fieldLink "DatalogmillModel" (68 : Nat) "DatalogmillModel" "tupleRelation" "[I" ∈ GW := inGW (List.mem_of_getElem? (i := 1388) (by rfl)) (by decide +kernel)
theorem fpfX11_68 : FPF RX11 68 TB 12 24 (.array .int) := ⟨RX11, TX11, 38, rfl, ⟨by decide, by decide, by decide⟩, inWX11, mw1388, ⟨tyX11, tyX11_ok, rfl⟩, nmX11, rfl, rfl⟩
theorem rl750 : R32 (750) := ⟨by decide, by decide⟩
set_option maxRecDepth 20000 in
theorem mw1389 : Cond.fieldLink "DatalogmillModel" (71 : Nat) "DatalogmillModel" "tuple" "[I" ∈ GW := inGW (List.mem_of_getElem? (i := 1389) (by rfl)) (by decide +kernel)
theorem fpfX11_71 : FPF RX11 71 TB 12 25 (.array .int) := ⟨RX11, TX11, 38, rfl, ⟨by decide, by decide, by decide⟩, inWX11, mw1389, ⟨tyX11, tyX11_ok, rfl⟩, nmX11, rfl, rfl⟩
set_option maxRecDepth 20000 in
theorem mw1390 : Cond.fieldLink "DatalogmillModel" (74 : Nat) "DatalogmillModel" "values" "[I" ∈ GW := inGW (List.mem_of_getElem? (i := 1390) (by rfl)) (by decide +kernel)
theorem fpfX11_74 : FPF RX11 74 TB 12 26 (.array .int) := ⟨RX11, TX11, 38, rfl, ⟨by decide, by decide, by decide⟩, inWX11, mw1390, ⟨tyX11, tyX11_ok, rfl⟩, nmX11, rfl, rfl⟩
set_option maxRecDepth 20000 in
theorem mw1391 : Cond.fieldLink "DatalogmillModel" (77 : Nat) "DatalogmillModel" "boundBy" "[I" ∈ GW := inGW (List.mem_of_getElem? (i := 1391) (by rfl)) (by decide +kernel)
theorem fpfX11_77 : FPF RX11 77 TB 12 27 (.array .int) := ⟨RX11, TX11, 38, rfl, ⟨by decide, by decide, by decide⟩, inWX11, mw1391, ⟨tyX11, tyX11_ok, rfl⟩, nmX11, rfl, rfl⟩
set_option maxRecDepth 20000 in
theorem mw1392 : Cond.fieldLink "DatalogmillModel" (80 : Nat) "DatalogmillModel" "cursors" "[I" ∈ GW := inGW (List.mem_of_getElem? (i := 1392) (by rfl)) (by decide +kernel)
theorem fpfX11_80 : FPF RX11 80 TB 12 28 (.array .int) := ⟨RX11, TX11, 38, rfl, ⟨by decide, by decide, by decide⟩, inWX11, mw1392, ⟨tyX11, tyX11_ok, rfl⟩, nmX11, rfl, rfl⟩
theorem rl50 : R32 (50) := ⟨by decide, by decide⟩
set_option maxRecDepth 20000 in
theorem mw1395 : Cond.fieldLink "DatalogmillModel" (83 : Nat) "DatalogmillModel" "costs" "[I" ∈ GW := inGW (List.mem_of_getElem? (i := 1395) (by rfl)) (by decide +kernel)
theorem fpfX11_83 : FPF RX11 83 TB 12 31 (.array .int) := ⟨RX11, TX11, 38, rfl, ⟨by decide, by decide, by decide⟩, inWX11, mw1395, ⟨tyX11, tyX11_ok, rfl⟩, nmX11, rfl, rfl⟩
set_option maxRecDepth 20000 in
theorem mw1397 : Cond.fieldLink "DatalogmillModel" (86 : Nat) "DatalogmillModel" "goalRelation" "[I" ∈ GW := inGW (List.mem_of_getElem? (i := 1397) (by rfl)) (by decide +kernel)
theorem fpfX11_86 : FPF RX11 86 TB 12 33 (.array .int) := ⟨RX11, TX11, 38, rfl, ⟨by decide, by decide, by decide⟩, inWX11, mw1397, ⟨tyX11, tyX11_ok, rfl⟩, nmX11, rfl, rfl⟩
theorem rl1200 : R32 (1200) := ⟨by decide, by decide⟩
set_option maxRecDepth 20000 in
theorem mw1398 : Cond.fieldLink "DatalogmillModel" (89 : Nat) "DatalogmillModel" "goalValues" "[I" ∈ GW := inGW (List.mem_of_getElem? (i := 1398) (by rfl)) (by decide +kernel)
theorem fpfX11_89 : FPF RX11 89 TB 12 34 (.array .int) := ⟨RX11, TX11, 38, rfl, ⟨by decide, by decide, by decide⟩, inWX11, mw1398, ⟨tyX11, tyX11_ok, rfl⟩, nmX11, rfl, rfl⟩
set_option maxRecDepth 20000 in
theorem mw1400 : Cond.fieldLink "DatalogmillModel" (92 : Nat) "DatalogmillModel" "plan" "[I" ∈ GW := inGW (List.mem_of_getElem? (i := 1400) (by rfl)) (by decide +kernel)
theorem fpfX11_92 : FPF RX11 92 TB 12 36 (.array .int) := ⟨RX11, TX11, 38, rfl, ⟨by decide, by decide, by decide⟩, inWX11, mw1400, ⟨tyX11, tyX11_ok, rfl⟩, nmX11, rfl, rfl⟩
set_option maxRecDepth 20000 in
theorem mw1401 : Cond.fieldLink "DatalogmillModel" (95 : Nat) "DatalogmillModel" "searches" "[I" ∈ GW := inGW (List.mem_of_getElem? (i := 1401) (by rfl)) (by decide +kernel)
theorem fpfX11_95 : FPF RX11 95 TB 12 37 (.array .int) := ⟨RX11, TX11, 38, rfl, ⟨by decide, by decide, by decide⟩, inWX11, mw1401, ⟨tyX11, tyX11_ok, rfl⟩, nmX11, rfl, rfl⟩
theorem flX11_47 : FL RX11 47 TB 12 17 := ⟨RX11, TX11, 38, rfl, ⟨by decide, by decide, by decide⟩, inWX11, Or.inl mw1381⟩
theorem flX0_22 : FL RX0 22 TA 1 5 := ⟨RX0, TX0, 6, rfl, ⟨by decide, by decide, by decide⟩, inWX0, Or.inl mw274⟩
set_option maxRecDepth 20000 in
theorem mt509 : Cond.methodLinkNest "Datalogmill$Body" (35 : Nat) ({ cls := "Datalogmill", name := "picked", desc := "(IIII)I" } : MethodName) "Datalogmill" ∈ lw_tbl := List.mem_of_getElem? (i := 509) (by rfl)
theorem lkX0_35 : LK "Datalogmill$Body" 35 yX10_picked := Or.inr ⟨_, mt509⟩
set_option maxRecDepth 20000 in
theorem mw511 : Cond.code yX10_picked cX10_picked 4 (some .int) ∈ GW := inGW (List.mem_of_getElem? (i := 511) (by rfl)) (by decide +kernel)
set_option maxRecDepth 20000 in
theorem mw163 : Cond.initialized "Datalogmill" ∈ GW := inGW (List.mem_of_getElem? (i := 163) (by rfl)) (by decide +kernel)
theorem ml_Dm_picked : ML yX10_picked cX10_picked 4 (some .int) 4 := ⟨mw511, mw163, by decide +kernel, by decide +kernel, by decide +kernel⟩
set_option maxRecDepth 20000 in
theorem mw510 : Cond.static ({ cls := "Datalogmill", name := "picked", desc := "(IIII)I" } : MethodName) ∈ GW := inGW (List.mem_of_getElem? (i := 510) (by rfl)) (by decide +kernel)
set_option maxRecDepth 20000 in
theorem mw505 : Cond.methodLink "Datalogmill$Body" (32 : Nat) ({ cls := "Datalogmill$Body", name := "setTerms", desc := "(IIII)V" } : MethodName) ∈ GW := inGW (List.mem_of_getElem? (i := 505) (by rfl)) (by decide +kernel)
theorem lkX0_32 : LK "Datalogmill$Body" 32 yX0_setTerms := Or.inl mw505
set_option maxRecDepth 20000 in
theorem mw508 : Cond.code yX0_setTerms cX0_setTerms 7 none ∈ GW := inGW (List.mem_of_getElem? (i := 508) (by rfl)) (by decide +kernel)
theorem ml_Bo_setTerms : ML yX0_setTerms cX0_setTerms 7 none 4 := ⟨mw508, mw167, by decide +kernel, by decide +kernel, by decide +kernel⟩
set_option maxRecDepth 20000 in
theorem mw507 : Cond.instanceMethod ({ cls := "Datalogmill$Body", name := "setTerms", desc := "(IIII)V" } : MethodName) ∈ GW := inGW (List.mem_of_getElem? (i := 507) (by rfl)) (by decide +kernel)
set_option maxRecDepth 20000 in
theorem mw2 : Cond.selects RX0 yX0_setTerms yX0_setTerms ∈ GW := inGW (List.mem_of_getElem? (i := 2) (by rfl)) (by decide +kernel)
theorem vl_Bo_setTerms : VL yX0_setTerms := ⟨mw507, mw2⟩
set_option maxRecDepth 20000 in
theorem mw258 : Cond.fieldLink "Datalogmill$Body" (25 : Nat) "Datalogmill$Body" "count" "I" ∈ GW := inGW (List.mem_of_getElem? (i := 258) (by rfl)) (by decide +kernel)
theorem fpX0_25 : FP RX0 25 TA 1 0 .int := ⟨RX0, TX0, 6, rfl, ⟨by decide, by decide, by decide⟩, inWX0, Or.inl mw258, ⟨tyX0, tyX0_ok, rfl⟩, nmX0, rfl⟩
set_option maxRecDepth 20000 in
theorem mw501 : Cond.methodLink "Datalogmill$Body" (28 : Nat) ({ cls := "Datalogmill$Body", name := "setHead", desc := "(IIII)V" } : MethodName) ∈ GW := inGW (List.mem_of_getElem? (i := 501) (by rfl)) (by decide +kernel)
theorem lkX0_28 : LK "Datalogmill$Body" 28 yX0_setHead := Or.inl mw501
set_option maxRecDepth 20000 in
theorem mw504 : Cond.code yX0_setHead cX0_setHead 5 none ∈ GW := inGW (List.mem_of_getElem? (i := 504) (by rfl)) (by decide +kernel)
theorem ml_Bo_setHead : ML yX0_setHead cX0_setHead 5 none 4 := ⟨mw504, mw167, by decide +kernel, by decide +kernel, by decide +kernel⟩
set_option maxRecDepth 20000 in
theorem mw503 : Cond.instanceMethod ({ cls := "Datalogmill$Body", name := "setHead", desc := "(IIII)V" } : MethodName) ∈ GW := inGW (List.mem_of_getElem? (i := 503) (by rfl)) (by decide +kernel)
set_option maxRecDepth 20000 in
theorem mw1 : Cond.selects RX0 yX0_setHead yX0_setHead ∈ GW := inGW (List.mem_of_getElem? (i := 1) (by rfl)) (by decide +kernel)
theorem vl_Bo_setHead : VL yX0_setHead := ⟨mw503, mw1⟩
theorem flX10_43 : FL RX10 43 TA 11 3 := ⟨RX10, TX10, 13, rfl, ⟨by decide, by decide, by decide⟩, inWX10, Or.inl mw456⟩
set_option maxRecDepth 20000 in
theorem mt261 : Cond.fieldLinkNest "Datalogmill" (187 : Nat) "Datalogmill$Body" "count" "I" "Datalogmill" ∈ lw_tbl := List.mem_of_getElem? (i := 261) (by rfl)
theorem flX10_187 : FL RX10 187 TA 1 0 := ⟨RX0, TX0, 6, rfl, ⟨by decide, by decide, by decide⟩, inWX0, Or.inr ⟨_, mt261⟩⟩
set_option maxRecDepth 20000 in
theorem mt497 : Cond.methodLinkNest "Datalogmill" (205 : Nat) ({ cls := "Datalogmill$Body", name := "empty", desc := "()V" } : MethodName) "Datalogmill" ∈ lw_tbl := List.mem_of_getElem? (i := 497) (by rfl)
theorem lkX10_205 : LK "Datalogmill" 205 yX0_empty := Or.inr ⟨_, mt497⟩
set_option maxRecDepth 20000 in
theorem mw500 : Cond.code yX0_empty cX0_empty 1 none ∈ GW := inGW (List.mem_of_getElem? (i := 500) (by rfl)) (by decide +kernel)
theorem ml_Bo_empty : ML yX0_empty cX0_empty 1 none 0 := ⟨mw500, mw167, by decide +kernel, by decide +kernel, by decide +kernel⟩
set_option maxRecDepth 20000 in
theorem mw499 : Cond.instanceMethod ({ cls := "Datalogmill$Body", name := "empty", desc := "()V" } : MethodName) ∈ GW := inGW (List.mem_of_getElem? (i := 499) (by rfl)) (by decide +kernel)
set_option maxRecDepth 20000 in
theorem mw0 : Cond.selects RX0 yX0_empty yX0_empty ∈ GW := inGW (List.mem_of_getElem? (i := 0) (by rfl)) (by decide +kernel)
theorem vl_Bo_empty : VL yX0_empty := ⟨mw499, mw0⟩
theorem flX10_47 : FL RX10 47 TA 11 6 := ⟨RX10, TX10, 13, rfl, ⟨by decide, by decide, by decide⟩, inWX10, Or.inl mw459⟩
set_option maxRecDepth 20000 in
theorem mw465 : Cond.fieldLink "Datalogmill" (173 : Nat) "Datalogmill" "now" "I" ∈ GW := inGW (List.mem_of_getElem? (i := 465) (by rfl)) (by decide +kernel)
theorem flX10_173 : FL RX10 173 TA 11 12 := ⟨RX10, TX10, 13, rfl, ⟨by decide, by decide, by decide⟩, inWX10, Or.inl mw465⟩
set_option maxRecDepth 20000 in
theorem mw520 : Cond.methodLink "Datalogmill" (271 : Nat) ({ cls := "Datalogmill", name := "modelOf", desc := "(I)LDatalogmill$Model;" } : MethodName) ∈ GW := inGW (List.mem_of_getElem? (i := 520) (by rfl)) (by decide +kernel)
theorem lkX10_271 : LK "Datalogmill" 271 yX10_modelOf := Or.inl mw520
set_option maxRecDepth 20000 in
theorem mw523 : Cond.code yX10_modelOf cX10_modelOf 3 (some (.object "Datalogmill$Model")) ∈ GW := inGW (List.mem_of_getElem? (i := 523) (by rfl)) (by decide +kernel)
theorem ml_Dm_modelOf : ML yX10_modelOf cX10_modelOf 3 (some (.object "Datalogmill$Model")) 1 := ⟨mw523, mw163, by decide +kernel, by decide +kernel, by decide +kernel⟩
set_option maxRecDepth 20000 in
theorem mw522 : Cond.instanceMethod ({ cls := "Datalogmill", name := "modelOf", desc := "(I)LDatalogmill$Model;" } : MethodName) ∈ GW := inGW (List.mem_of_getElem? (i := 522) (by rfl)) (by decide +kernel)
set_option maxRecDepth 20000 in
theorem mw4 : Cond.selects RX10 yX10_modelOf yX10_modelOf ∈ GW := inGW (List.mem_of_getElem? (i := 4) (by rfl)) (by decide +kernel)
theorem vl_Dm_modelOf : VL yX10_modelOf := ⟨mw522, mw4⟩
theorem flX7_12 : FL RX7 12 TA 8 1 := ⟨RX7, TX7, 8, rfl, ⟨by decide, by decide, by decide⟩, inWX7, Or.inl mw290⟩
theorem flX9_9 : FL RX9 9 TA 10 8 := ⟨RX9, TX9, 11, rfl, ⟨by decide, by decide, by decide⟩, inWX9, Or.inl mw364⟩
set_option maxRecDepth 20000 in
theorem mw359 : Cond.fieldLink "Datalogmill$Walk" (40 : Nat) "Datalogmill$Walk" "end" "I" ∈ GW := inGW (List.mem_of_getElem? (i := 359) (by rfl)) (by decide +kernel)
theorem fpX9_40 : FP RX9 40 TA 10 3 .int := ⟨RX9, TX9, 11, rfl, ⟨by decide, by decide, by decide⟩, inWX9, Or.inl mw359, ⟨tyX9, tyX9_ok, rfl⟩, nmX9, rfl⟩
set_option maxRecDepth 20000 in
theorem mw361 : Cond.fieldLink "Datalogmill$Walk" (43 : Nat) "Datalogmill$Walk" "fresh" "Z" ∈ GW := inGW (List.mem_of_getElem? (i := 361) (by rfl)) (by decide +kernel)
theorem fpX9_43 : FP RX9 43 TA 10 5 .boolean := ⟨RX9, TX9, 11, rfl, ⟨by decide, by decide, by decide⟩, inWX9, Or.inl mw361, ⟨tyX9, tyX9_ok, rfl⟩, nmX9, rfl⟩
set_option maxRecDepth 20000 in
theorem mw536 : Cond.methodLink "Datalogmill$Walk" (47 : Nat) ({ cls := "Datalogmill$Walk", name := "unbind", desc := "(I)V" } : MethodName) ∈ GW := inGW (List.mem_of_getElem? (i := 536) (by rfl)) (by decide +kernel)
theorem lkX9_47 : LK "Datalogmill$Walk" 47 yX9_unbind := Or.inl mw536
set_option maxRecDepth 20000 in
theorem mw539 : Cond.code yX9_unbind cX9_unbind 3 none ∈ GW := inGW (List.mem_of_getElem? (i := 539) (by rfl)) (by decide +kernel)
theorem ml_Wa_unbind : ML yX9_unbind cX9_unbind 3 none 1 := ⟨mw539, mw169, by decide +kernel, by decide +kernel, by decide +kernel⟩
set_option maxRecDepth 20000 in
theorem mw538 : Cond.instanceMethod ({ cls := "Datalogmill$Walk", name := "unbind", desc := "(I)V" } : MethodName) ∈ GW := inGW (List.mem_of_getElem? (i := 538) (by rfl)) (by decide +kernel)
set_option maxRecDepth 20000 in
theorem mw8 : Cond.selects RX9 yX9_unbind yX9_unbind ∈ GW := inGW (List.mem_of_getElem? (i := 8) (by rfl)) (by decide +kernel)
theorem vl_Wa_unbind : VL yX9_unbind := ⟨mw538, mw8⟩
theorem flX9_33 : FL RX9 33 TA 10 6 := ⟨RX9, TX9, 11, rfl, ⟨by decide, by decide, by decide⟩, inWX9, Or.inl mw362⟩
theorem flX0_15 : FL RX0 15 TA 1 3 := ⟨RX0, TX0, 6, rfl, ⟨by decide, by decide, by decide⟩, inWX0, Or.inl mw272⟩
theorem flX0_19 : FL RX0 19 TA 1 4 := ⟨RX0, TX0, 6, rfl, ⟨by decide, by decide, by decide⟩, inWX0, Or.inl mw273⟩
theorem flX5_15 : FL RX5 15 TA 6 4 := ⟨RX5, TX5, 7, rfl, ⟨by decide, by decide, by decide⟩, inWX5, Or.inl mw332⟩
theorem flX8_9 : FL RX8 9 TA 9 0 := ⟨RX8, TX8, 4, rfl, ⟨by decide, by decide, by decide⟩, inWX8, Or.inl mw197⟩
theorem flX5_21 : FL RX5 21 TA 6 6 := ⟨RX5, TX5, 7, rfl, ⟨by decide, by decide, by decide⟩, inWX5, Or.inl mw334⟩
theorem flX9_29 : FL RX9 29 TA 10 2 := ⟨RX9, TX9, 11, rfl, ⟨by decide, by decide, by decide⟩, inWX9, Or.inl mw358⟩
set_option maxRecDepth 20000 in
theorem mt577 : Cond.methodLinkNest "Datalogmill$Walk" (112 : Nat) ({ cls := "Datalogmill$Model", name := "roundOf", desc := "(I)I" } : MethodName) "Datalogmill" ∈ lw_tbl := List.mem_of_getElem? (i := 577) (by rfl)
theorem lkX9_112 : LK "Datalogmill$Walk" 112 yX5_roundOf := Or.inr ⟨_, mt577⟩
set_option maxRecDepth 20000 in
theorem mw580 : Cond.code yX5_roundOf cX5_roundOf 2 (some .int) ∈ GW := inGW (List.mem_of_getElem? (i := 580) (by rfl)) (by decide +kernel)
theorem ml_Mo_roundOf : ML yX5_roundOf cX5_roundOf 2 (some .int) 1 := ⟨mw580, mw168, by decide +kernel, by decide +kernel, by decide +kernel⟩
set_option maxRecDepth 20000 in
theorem mw579 : Cond.instanceMethod ({ cls := "Datalogmill$Model", name := "roundOf", desc := "(I)I" } : MethodName) ∈ GW := inGW (List.mem_of_getElem? (i := 579) (by rfl)) (by decide +kernel)
set_option maxRecDepth 20000 in
theorem mw18 : Cond.selects RX5 yX5_roundOf yX5_roundOf ∈ GW := inGW (List.mem_of_getElem? (i := 18) (by rfl)) (by decide +kernel)
theorem vl_Mo_roundOf : VL yX5_roundOf := ⟨mw579, mw18⟩
set_option maxRecDepth 20000 in
theorem mw363 : Cond.fieldLink "Datalogmill$Walk" (51 : Nat) "Datalogmill$Walk" "leadRound" "I" ∈ GW := inGW (List.mem_of_getElem? (i := 363) (by rfl)) (by decide +kernel)
theorem flX9_51 : FL RX9 51 TA 10 7 := ⟨RX9, TX9, 11, rfl, ⟨by decide, by decide, by decide⟩, inWX9, Or.inl mw363⟩
theorem flX5_18 : FL RX5 18 TA 6 5 := ⟨RX5, TX5, 7, rfl, ⟨by decide, by decide, by decide⟩, inWX5, Or.inl mw333⟩
theorem rl127 : R32 (127) := ⟨by decide, by decide⟩
theorem rlm8 : R32 (-8) := ⟨by decide, by decide⟩
theorem flX9_18 : FL RX9 18 TA 10 10 := ⟨RX9, TX9, 11, rfl, ⟨by decide, by decide, by decide⟩, inWX9, Or.inl mw366⟩
set_option maxRecDepth 20000 in
theorem mw607 : Cond.methodLink "Datalogmill$Walk" (118 : Nat) ({ cls := "Datalogmill$Walk", name := "noteBound", desc := "(II)V" } : MethodName) ∈ GW := inGW (List.mem_of_getElem? (i := 607) (by rfl)) (by decide +kernel)
theorem lkX9_118 : LK "Datalogmill$Walk" 118 yX9_noteBound := Or.inl mw607
set_option maxRecDepth 20000 in
theorem mw610 : Cond.code yX9_noteBound cX9_noteBound 3 none ∈ GW := inGW (List.mem_of_getElem? (i := 610) (by rfl)) (by decide +kernel)
theorem ml_Wa_noteBound : ML yX9_noteBound cX9_noteBound 3 none 2 := ⟨mw610, mw169, by decide +kernel, by decide +kernel, by decide +kernel⟩
set_option maxRecDepth 20000 in
theorem mw609 : Cond.instanceMethod ({ cls := "Datalogmill$Walk", name := "noteBound", desc := "(II)V" } : MethodName) ∈ GW := inGW (List.mem_of_getElem? (i := 609) (by rfl)) (by decide +kernel)
set_option maxRecDepth 20000 in
theorem mw24 : Cond.selects RX9 yX9_noteBound yX9_noteBound ∈ GW := inGW (List.mem_of_getElem? (i := 24) (by rfl)) (by decide +kernel)
theorem vl_Wa_noteBound : VL yX9_noteBound := ⟨mw609, mw24⟩
theorem flX9_25 : FL RX9 25 TA 10 1 := ⟨RX9, TX9, 11, rfl, ⟨by decide, by decide, by decide⟩, inWX9, Or.inl mw357⟩
set_option maxRecDepth 20000 in
theorem mt589 : Cond.methodLinkNest "Datalogmill$Walk" (54 : Nat) ({ cls := "Datalogmill$Body", name := "termOf", desc := "(II)I" } : MethodName) "Datalogmill" ∈ lw_tbl := List.mem_of_getElem? (i := 589) (by rfl)
theorem lkX9_54 : LK "Datalogmill$Walk" 54 yX0_termOf := Or.inr ⟨_, mt589⟩
set_option maxRecDepth 20000 in
theorem mw592 : Cond.code yX0_termOf cX0_termOf 4 (some .int) ∈ GW := inGW (List.mem_of_getElem? (i := 592) (by rfl)) (by decide +kernel)
theorem ml_Bo_termOf : ML yX0_termOf cX0_termOf 4 (some .int) 2 := ⟨mw592, mw167, by decide +kernel, by decide +kernel, by decide +kernel⟩
set_option maxRecDepth 20000 in
theorem mw591 : Cond.instanceMethod ({ cls := "Datalogmill$Body", name := "termOf", desc := "(II)I" } : MethodName) ∈ GW := inGW (List.mem_of_getElem? (i := 591) (by rfl)) (by decide +kernel)
set_option maxRecDepth 20000 in
theorem mw21 : Cond.selects RX0 yX0_termOf yX0_termOf ∈ GW := inGW (List.mem_of_getElem? (i := 21) (by rfl)) (by decide +kernel)
theorem vl_Bo_termOf : VL yX0_termOf := ⟨mw591, mw21⟩
set_option maxRecDepth 20000 in
theorem mt593 : Cond.methodLinkNest "Datalogmill$Walk" (60 : Nat) ({ cls := "Datalogmill", name := "columnOf", desc := "(II)I" } : MethodName) "Datalogmill" ∈ lw_tbl := List.mem_of_getElem? (i := 593) (by rfl)
theorem lkX9_60 : LK "Datalogmill$Walk" 60 yX10_columnOf := Or.inr ⟨_, mt593⟩
set_option maxRecDepth 20000 in
theorem mw595 : Cond.code yX10_columnOf cX10_columnOf 2 (some .int) ∈ GW := inGW (List.mem_of_getElem? (i := 595) (by rfl)) (by decide +kernel)
theorem ml_Dm_columnOf : ML yX10_columnOf cX10_columnOf 2 (some .int) 2 := ⟨mw595, mw163, by decide +kernel, by decide +kernel, by decide +kernel⟩
set_option maxRecDepth 20000 in
theorem mw594 : Cond.static ({ cls := "Datalogmill", name := "columnOf", desc := "(II)I" } : MethodName) ∈ GW := inGW (List.mem_of_getElem? (i := 594) (by rfl)) (by decide +kernel)
set_option maxRecDepth 20000 in
theorem mw596 : Cond.methodLink "Datalogmill$Walk" (67 : Nat) ({ cls := "Datalogmill$Walk", name := "valueOf", desc := "(I)I" } : MethodName) ∈ GW := inGW (List.mem_of_getElem? (i := 596) (by rfl)) (by decide +kernel)
theorem lkX9_67 : LK "Datalogmill$Walk" 67 yX9_valueOf := Or.inl mw596
set_option maxRecDepth 20000 in
theorem mw599 : Cond.code yX9_valueOf cX9_valueOf 3 (some .int) ∈ GW := inGW (List.mem_of_getElem? (i := 599) (by rfl)) (by decide +kernel)
theorem ml_Wa_valueOf : ML yX9_valueOf cX9_valueOf 3 (some .int) 1 := ⟨mw599, mw169, by decide +kernel, by decide +kernel, by decide +kernel⟩
set_option maxRecDepth 20000 in
theorem mw598 : Cond.instanceMethod ({ cls := "Datalogmill$Walk", name := "valueOf", desc := "(I)I" } : MethodName) ∈ GW := inGW (List.mem_of_getElem? (i := 598) (by rfl)) (by decide +kernel)
set_option maxRecDepth 20000 in
theorem mw22 : Cond.selects RX9 yX9_valueOf yX9_valueOf ∈ GW := inGW (List.mem_of_getElem? (i := 22) (by rfl)) (by decide +kernel)
theorem vl_Wa_valueOf : VL yX9_valueOf := ⟨mw598, mw22⟩
set_option maxRecDepth 20000 in
theorem mw600 : Cond.methodLink "Datalogmill$Walk" (63 : Nat) ({ cls := "Datalogmill$Walk", name := "bindIfFree", desc := "(II)V" } : MethodName) ∈ GW := inGW (List.mem_of_getElem? (i := 600) (by rfl)) (by decide +kernel)
theorem lkX9_63 : LK "Datalogmill$Walk" 63 yX9_bindIfFree := Or.inl mw600
set_option maxRecDepth 20000 in
theorem mw603 : Cond.code yX9_bindIfFree cX9_bindIfFree 4 none ∈ GW := inGW (List.mem_of_getElem? (i := 603) (by rfl)) (by decide +kernel)
theorem ml_Wa_bindIfFree : ML yX9_bindIfFree cX9_bindIfFree 4 none 2 := ⟨mw603, mw169, by decide +kernel, by decide +kernel, by decide +kernel⟩
set_option maxRecDepth 20000 in
theorem mw602 : Cond.instanceMethod ({ cls := "Datalogmill$Walk", name := "bindIfFree", desc := "(II)V" } : MethodName) ∈ GW := inGW (List.mem_of_getElem? (i := 602) (by rfl)) (by decide +kernel)
set_option maxRecDepth 20000 in
theorem mw23 : Cond.selects RX9 yX9_bindIfFree yX9_bindIfFree ∈ GW := inGW (List.mem_of_getElem? (i := 23) (by rfl)) (by decide +kernel)
theorem vl_Wa_bindIfFree : VL yX9_bindIfFree := ⟨mw602, mw23⟩
set_option maxRecDepth 20000 in
theorem mt604 : Cond.methodLinkNest "Datalogmill$Walk" (115 : Nat) ({ cls := "Datalogmill", name := "variableBit", desc := "(I)I" } : MethodName) "Datalogmill" ∈ lw_tbl := List.mem_of_getElem? (i := 604) (by rfl)
theorem lkX9_115 : LK "Datalogmill$Walk" 115 yX10_variableBit := Or.inr ⟨_, mt604⟩
set_option maxRecDepth 20000 in
theorem mw606 : Cond.code yX10_variableBit cX10_variableBit 1 (some .int) ∈ GW := inGW (List.mem_of_getElem? (i := 606) (by rfl)) (by decide +kernel)
theorem ml_Dm_variableBit : ML yX10_variableBit cX10_variableBit 1 (some .int) 1 := ⟨mw606, mw163, by decide +kernel, by decide +kernel, by decide +kernel⟩
set_option maxRecDepth 20000 in
theorem mw605 : Cond.static ({ cls := "Datalogmill", name := "variableBit", desc := "(I)I" } : MethodName) ∈ GW := inGW (List.mem_of_getElem? (i := 605) (by rfl)) (by decide +kernel)
set_option maxRecDepth 20000 in
theorem mt565 : Cond.methodLinkNest "Datalogmill$Walk" (93 : Nat) ({ cls := "Datalogmill$Model", name := "nextOf", desc := "(I)I" } : MethodName) "Datalogmill" ∈ lw_tbl := List.mem_of_getElem? (i := 565) (by rfl)
theorem lkX9_93 : LK "Datalogmill$Walk" 93 yX5_nextOf := Or.inr ⟨_, mt565⟩
set_option maxRecDepth 20000 in
theorem mw568 : Cond.code yX5_nextOf cX5_nextOf 2 (some .int) ∈ GW := inGW (List.mem_of_getElem? (i := 568) (by rfl)) (by decide +kernel)
theorem ml_Mo_nextOf : ML yX5_nextOf cX5_nextOf 2 (some .int) 1 := ⟨mw568, mw168, by decide +kernel, by decide +kernel, by decide +kernel⟩
set_option maxRecDepth 20000 in
theorem mw567 : Cond.instanceMethod ({ cls := "Datalogmill$Model", name := "nextOf", desc := "(I)I" } : MethodName) ∈ GW := inGW (List.mem_of_getElem? (i := 567) (by rfl)) (by decide +kernel)
set_option maxRecDepth 20000 in
theorem mw15 : Cond.selects RX5 yX5_nextOf yX5_nextOf ∈ GW := inGW (List.mem_of_getElem? (i := 15) (by rfl)) (by decide +kernel)
theorem vl_Mo_nextOf : VL yX5_nextOf := ⟨mw567, mw15⟩
set_option maxRecDepth 20000 in
theorem mw573 : Cond.methodLink "Datalogmill$Walk" (101 : Nat) ({ cls := "Datalogmill$Walk", name := "isTimely", desc := "(II)Z" } : MethodName) ∈ GW := inGW (List.mem_of_getElem? (i := 573) (by rfl)) (by decide +kernel)
theorem lkX9_101 : LK "Datalogmill$Walk" 101 yX9_isTimely := Or.inl mw573
set_option maxRecDepth 20000 in
theorem mw576 : Cond.code yX9_isTimely cX9_isTimely 4 (some .boolean) ∈ GW := inGW (List.mem_of_getElem? (i := 576) (by rfl)) (by decide +kernel)
theorem ml_Wa_isTimely : ML yX9_isTimely cX9_isTimely 4 (some .boolean) 2 := ⟨mw576, mw169, by decide +kernel, by decide +kernel, by decide +kernel⟩
set_option maxRecDepth 20000 in
theorem mw575 : Cond.instanceMethod ({ cls := "Datalogmill$Walk", name := "isTimely", desc := "(II)Z" } : MethodName) ∈ GW := inGW (List.mem_of_getElem? (i := 575) (by rfl)) (by decide +kernel)
set_option maxRecDepth 20000 in
theorem mw17 : Cond.selects RX9 yX9_isTimely yX9_isTimely ∈ GW := inGW (List.mem_of_getElem? (i := 17) (by rfl)) (by decide +kernel)
theorem vl_Wa_isTimely : VL yX9_isTimely := ⟨mw575, mw17⟩
set_option maxRecDepth 20000 in
theorem mt581 : Cond.methodLinkNest "Datalogmill$Walk" (105 : Nat) ({ cls := "Datalogmill$Model", name := "codeOf", desc := "(I)I" } : MethodName) "Datalogmill" ∈ lw_tbl := List.mem_of_getElem? (i := 581) (by rfl)
theorem lkX9_105 : LK "Datalogmill$Walk" 105 yX5_codeOf := Or.inr ⟨_, mt581⟩
set_option maxRecDepth 20000 in
theorem mw584 : Cond.code yX5_codeOf cX5_codeOf 2 (some .int) ∈ GW := inGW (List.mem_of_getElem? (i := 584) (by rfl)) (by decide +kernel)
theorem ml_Mo_codeOf : ML yX5_codeOf cX5_codeOf 2 (some .int) 1 := ⟨mw584, mw168, by decide +kernel, by decide +kernel, by decide +kernel⟩
set_option maxRecDepth 20000 in
theorem mw583 : Cond.instanceMethod ({ cls := "Datalogmill$Model", name := "codeOf", desc := "(I)I" } : MethodName) ∈ GW := inGW (List.mem_of_getElem? (i := 583) (by rfl)) (by decide +kernel)
set_option maxRecDepth 20000 in
theorem mw19 : Cond.selects RX5 yX5_codeOf yX5_codeOf ∈ GW := inGW (List.mem_of_getElem? (i := 19) (by rfl)) (by decide +kernel)
theorem vl_Mo_codeOf : VL yX5_codeOf := ⟨mw583, mw19⟩
set_option maxRecDepth 20000 in
theorem mw585 : Cond.methodLink "Datalogmill$Walk" (108 : Nat) ({ cls := "Datalogmill$Walk", name := "fits", desc := "(III)Z" } : MethodName) ∈ GW := inGW (List.mem_of_getElem? (i := 585) (by rfl)) (by decide +kernel)
theorem lkX9_108 : LK "Datalogmill$Walk" 108 yX9_fits := Or.inl mw585
set_option maxRecDepth 20000 in
theorem mw588 : Cond.code yX9_fits cX9_fits 9 (some .boolean) ∈ GW := inGW (List.mem_of_getElem? (i := 588) (by rfl)) (by decide +kernel)
theorem ml_Wa_fits : ML yX9_fits cX9_fits 9 (some .boolean) 3 := ⟨mw588, mw169, by decide +kernel, by decide +kernel, by decide +kernel⟩
set_option maxRecDepth 20000 in
theorem mw587 : Cond.instanceMethod ({ cls := "Datalogmill$Walk", name := "fits", desc := "(III)Z" } : MethodName) ∈ GW := inGW (List.mem_of_getElem? (i := 587) (by rfl)) (by decide +kernel)
set_option maxRecDepth 20000 in
theorem mw20 : Cond.selects RX9 yX9_fits yX9_fits ∈ GW := inGW (List.mem_of_getElem? (i := 20) (by rfl)) (by decide +kernel)
theorem vl_Wa_fits : VL yX9_fits := ⟨mw587, mw20⟩
theorem flX9_15 : FL RX9 15 TA 10 9 := ⟨RX9, TX9, 11, rfl, ⟨by decide, by decide, by decide⟩, inWX9, Or.inl mw365⟩
theorem flX9_21 : FL RX9 21 TA 10 0 := ⟨RX9, TX9, 11, rfl, ⟨by decide, by decide, by decide⟩, inWX9, Or.inl mw356⟩
set_option maxRecDepth 20000 in
theorem mt569 : Cond.methodLinkNest "Datalogmill$Walk" (96 : Nat) ({ cls := "Datalogmill$Schema", name := "columnsOf", desc := "(I)I" } : MethodName) "Datalogmill" ∈ lw_tbl := List.mem_of_getElem? (i := 569) (by rfl)
theorem lkX9_96 : LK "Datalogmill$Walk" 96 yX8_columnsOf := Or.inr ⟨_, mt569⟩
set_option maxRecDepth 20000 in
theorem mw572 : Cond.code yX8_columnsOf cX8_columnsOf 2 (some .int) ∈ GW := inGW (List.mem_of_getElem? (i := 572) (by rfl)) (by decide +kernel)
theorem ml_Sc_columnsOf : ML yX8_columnsOf cX8_columnsOf 2 (some .int) 1 := ⟨mw572, mw164, by decide +kernel, by decide +kernel, by decide +kernel⟩
set_option maxRecDepth 20000 in
theorem mw571 : Cond.instanceMethod ({ cls := "Datalogmill$Schema", name := "columnsOf", desc := "(I)I" } : MethodName) ∈ GW := inGW (List.mem_of_getElem? (i := 571) (by rfl)) (by decide +kernel)
set_option maxRecDepth 20000 in
theorem mw16 : Cond.selects RX8 yX8_columnsOf yX8_columnsOf ∈ GW := inGW (List.mem_of_getElem? (i := 16) (by rfl)) (by decide +kernel)
theorem vl_Sc_columnsOf : VL yX8_columnsOf := ⟨mw571, mw16⟩
theorem flX9_43 : FL RX9 43 TA 10 5 := ⟨RX9, TX9, 11, rfl, ⟨by decide, by decide, by decide⟩, inWX9, Or.inl mw361⟩
set_option maxRecDepth 20000 in
theorem mt557 : Cond.methodLinkNest "Datalogmill$Walk" (85 : Nat) ({ cls := "Datalogmill$Body", name := "subjectOf", desc := "(I)I" } : MethodName) "Datalogmill" ∈ lw_tbl := List.mem_of_getElem? (i := 557) (by rfl)
theorem lkX9_85 : LK "Datalogmill$Walk" 85 yX0_subjectOf := Or.inr ⟨_, mt557⟩
set_option maxRecDepth 20000 in
theorem mw560 : Cond.code yX0_subjectOf cX0_subjectOf 2 (some .int) ∈ GW := inGW (List.mem_of_getElem? (i := 560) (by rfl)) (by decide +kernel)
theorem ml_Bo_subjectOf : ML yX0_subjectOf cX0_subjectOf 2 (some .int) 1 := ⟨mw560, mw167, by decide +kernel, by decide +kernel, by decide +kernel⟩
set_option maxRecDepth 20000 in
theorem mw559 : Cond.instanceMethod ({ cls := "Datalogmill$Body", name := "subjectOf", desc := "(I)I" } : MethodName) ∈ GW := inGW (List.mem_of_getElem? (i := 559) (by rfl)) (by decide +kernel)
set_option maxRecDepth 20000 in
theorem mw13 : Cond.selects RX0 yX0_subjectOf yX0_subjectOf ∈ GW := inGW (List.mem_of_getElem? (i := 13) (by rfl)) (by decide +kernel)
theorem vl_Bo_subjectOf : VL yX0_subjectOf := ⟨mw559, mw13⟩
set_option maxRecDepth 20000 in
theorem mt561 : Cond.methodLinkNest "Datalogmill$Walk" (88 : Nat) ({ cls := "Datalogmill$Model", name := "firstOf", desc := "(I)I" } : MethodName) "Datalogmill" ∈ lw_tbl := List.mem_of_getElem? (i := 561) (by rfl)
theorem lkX9_88 : LK "Datalogmill$Walk" 88 yX5_firstOf := Or.inr ⟨_, mt561⟩
set_option maxRecDepth 20000 in
theorem mw564 : Cond.code yX5_firstOf cX5_firstOf 2 (some .int) ∈ GW := inGW (List.mem_of_getElem? (i := 564) (by rfl)) (by decide +kernel)
theorem ml_Mo_firstOf : ML yX5_firstOf cX5_firstOf 2 (some .int) 1 := ⟨mw564, mw168, by decide +kernel, by decide +kernel, by decide +kernel⟩
set_option maxRecDepth 20000 in
theorem mw563 : Cond.instanceMethod ({ cls := "Datalogmill$Model", name := "firstOf", desc := "(I)I" } : MethodName) ∈ GW := inGW (List.mem_of_getElem? (i := 563) (by rfl)) (by decide +kernel)
set_option maxRecDepth 20000 in
theorem mw14 : Cond.selects RX5 yX5_firstOf yX5_firstOf ∈ GW := inGW (List.mem_of_getElem? (i := 14) (by rfl)) (by decide +kernel)
theorem vl_Mo_firstOf : VL yX5_firstOf := ⟨mw563, mw14⟩
theorem rl14 : R32 (14) := ⟨by decide, by decide⟩
set_option maxRecDepth 20000 in
theorem mw623 : Cond.methodLink "Datalogmill$Walk" 138 Lib.Math.max.name ∈ GW := inGW (List.mem_of_getElem? (i := 623) (by rfl)) (by decide +kernel)
set_option maxRecDepth 20000 in
theorem mw624 : Cond.static Lib.Math.max.name ∈ GW := inGW (List.mem_of_getElem? (i := 624) (by rfl)) (by decide +kernel)
set_option maxRecDepth 20000 in
theorem mw181 : Cond.initialized "java/lang/Math" ∈ GW := inGW (List.mem_of_getElem? (i := 181) (by rfl)) (by decide +kernel)
set_option maxRecDepth 20000 in
theorem mw625 : Cond.code Lib.Math.max.name Lib.Math.max.code 2 (some .int) ∈ GW := inGW (List.mem_of_getElem? (i := 625) (by rfl)) (by decide +kernel)
set_option maxRecDepth 20000 in
theorem mt626 : Cond.methodLinkNest "Datalogmill$Walk" (141 : Nat) ({ cls := "Datalogmill", name := "packed", desc := "(III)I" } : MethodName) "Datalogmill" ∈ lw_tbl := List.mem_of_getElem? (i := 626) (by rfl)
theorem lkX9_141 : LK "Datalogmill$Walk" 141 yX10_packed := Or.inr ⟨_, mt626⟩
set_option maxRecDepth 20000 in
theorem mw628 : Cond.code yX10_packed cX10_packed 3 (some .int) ∈ GW := inGW (List.mem_of_getElem? (i := 628) (by rfl)) (by decide +kernel)
theorem ml_Dm_packed : ML yX10_packed cX10_packed 3 (some .int) 3 := ⟨mw628, mw163, by decide +kernel, by decide +kernel, by decide +kernel⟩
set_option maxRecDepth 20000 in
theorem mw627 : Cond.static ({ cls := "Datalogmill", name := "packed", desc := "(III)I" } : MethodName) ∈ GW := inGW (List.mem_of_getElem? (i := 627) (by rfl)) (by decide +kernel)
theorem flX8_21 : FL RX8 21 TA 9 3 := ⟨RX8, TX8, 4, rfl, ⟨by decide, by decide, by decide⟩, inWX8, Or.inl mw200⟩
theorem flX5_24 : FL RX5 24 TA 6 0 := ⟨RX5, TX5, 7, rfl, ⟨by decide, by decide, by decide⟩, inWX5, Or.inl mw326⟩
set_option maxRecDepth 20000 in
theorem mt633 : Cond.methodLinkNest "Datalogmill$Model" (43 : Nat) ({ cls := "Datalogmill$Schema", name := "tellingBits", desc := "(I)I" } : MethodName) "Datalogmill" ∈ lw_tbl := List.mem_of_getElem? (i := 633) (by rfl)
theorem lkX5_43 : LK "Datalogmill$Model" 43 yX8_tellingBits := Or.inr ⟨_, mt633⟩
set_option maxRecDepth 20000 in
theorem mw636 : Cond.code yX8_tellingBits cX8_tellingBits 2 (some .int) ∈ GW := inGW (List.mem_of_getElem? (i := 636) (by rfl)) (by decide +kernel)
theorem ml_Sc_tellingBits : ML yX8_tellingBits cX8_tellingBits 2 (some .int) 1 := ⟨mw636, mw164, by decide +kernel, by decide +kernel, by decide +kernel⟩
set_option maxRecDepth 20000 in
theorem mw635 : Cond.instanceMethod ({ cls := "Datalogmill$Schema", name := "tellingBits", desc := "(I)I" } : MethodName) ∈ GW := inGW (List.mem_of_getElem? (i := 635) (by rfl)) (by decide +kernel)
set_option maxRecDepth 20000 in
theorem mw29 : Cond.selects RX8 yX8_tellingBits yX8_tellingBits ∈ GW := inGW (List.mem_of_getElem? (i := 29) (by rfl)) (by decide +kernel)
theorem vl_Sc_tellingBits : VL yX8_tellingBits := ⟨mw635, mw29⟩
set_option maxRecDepth 20000 in
theorem mw637 : Cond.methodLink "Datalogmill$Model" (36 : Nat) ({ cls := "Datalogmill$Model", name := "firstOf", desc := "(I)I" } : MethodName) ∈ GW := inGW (List.mem_of_getElem? (i := 637) (by rfl)) (by decide +kernel)
theorem lkX5_36 : LK "Datalogmill$Model" 36 yX5_firstOf := Or.inl mw637
set_option maxRecDepth 20000 in
theorem mt549 : Cond.methodLinkNest "Datalogmill$Walk" (75 : Nat) ({ cls := "Datalogmill$Body", name := "formOf", desc := "(I)I" } : MethodName) "Datalogmill" ∈ lw_tbl := List.mem_of_getElem? (i := 549) (by rfl)
theorem lkX9_75 : LK "Datalogmill$Walk" 75 yX0_formOf := Or.inr ⟨_, mt549⟩
set_option maxRecDepth 20000 in
theorem mw552 : Cond.code yX0_formOf cX0_formOf 2 (some .int) ∈ GW := inGW (List.mem_of_getElem? (i := 552) (by rfl)) (by decide +kernel)
theorem ml_Bo_formOf : ML yX0_formOf cX0_formOf 2 (some .int) 1 := ⟨mw552, mw167, by decide +kernel, by decide +kernel, by decide +kernel⟩
set_option maxRecDepth 20000 in
theorem mw551 : Cond.instanceMethod ({ cls := "Datalogmill$Body", name := "formOf", desc := "(I)I" } : MethodName) ∈ GW := inGW (List.mem_of_getElem? (i := 551) (by rfl)) (by decide +kernel)
set_option maxRecDepth 20000 in
theorem mw11 : Cond.selects RX0 yX0_formOf yX0_formOf ∈ GW := inGW (List.mem_of_getElem? (i := 11) (by rfl)) (by decide +kernel)
theorem vl_Bo_formOf : VL yX0_formOf := ⟨mw551, mw11⟩
set_option maxRecDepth 20000 in
theorem mw641 : Cond.methodLink "Datalogmill$Walk" 133 Lib.Math.min.name ∈ GW := inGW (List.mem_of_getElem? (i := 641) (by rfl)) (by decide +kernel)
set_option maxRecDepth 20000 in
theorem mw642 : Cond.static Lib.Math.min.name ∈ GW := inGW (List.mem_of_getElem? (i := 642) (by rfl)) (by decide +kernel)
set_option maxRecDepth 20000 in
theorem mw643 : Cond.code Lib.Math.min.name Lib.Math.min.code 2 (some .int) ∈ GW := inGW (List.mem_of_getElem? (i := 643) (by rfl)) (by decide +kernel)
set_option maxRecDepth 20000 in
theorem mw638 : Cond.methodLink "Datalogmill$Walk" (130 : Nat) ({ cls := "Datalogmill$Walk", name := "isSo", desc := "(III)Z" } : MethodName) ∈ GW := inGW (List.mem_of_getElem? (i := 638) (by rfl)) (by decide +kernel)
theorem lkX9_130 : LK "Datalogmill$Walk" 130 yX9_isSo := Or.inl mw638
set_option maxRecDepth 20000 in
theorem mw640 : Cond.code yX9_isSo cX9_isSo 3 (some .boolean) ∈ GW := inGW (List.mem_of_getElem? (i := 640) (by rfl)) (by decide +kernel)
theorem ml_Wa_isSo : ML yX9_isSo cX9_isSo 3 (some .boolean) 3 := ⟨mw640, mw169, by decide +kernel, by decide +kernel, by decide +kernel⟩
set_option maxRecDepth 20000 in
theorem mw639 : Cond.static ({ cls := "Datalogmill$Walk", name := "isSo", desc := "(III)Z" } : MethodName) ∈ GW := inGW (List.mem_of_getElem? (i := 639) (by rfl)) (by decide +kernel)
set_option maxRecDepth 20000 in
theorem mw619 : Cond.methodLink "Datalogmill$Walk" (124 : Nat) ({ cls := "Datalogmill$Walk", name := "tuple", desc := "(I)I" } : MethodName) ∈ GW := inGW (List.mem_of_getElem? (i := 619) (by rfl)) (by decide +kernel)
theorem lkX9_124 : LK "Datalogmill$Walk" 124 yX9_tuple := Or.inl mw619
set_option maxRecDepth 20000 in
theorem mw622 : Cond.code yX9_tuple cX9_tuple 2 (some .int) ∈ GW := inGW (List.mem_of_getElem? (i := 622) (by rfl)) (by decide +kernel)
theorem ml_Wa_tuple : ML yX9_tuple cX9_tuple 2 (some .int) 1 := ⟨mw622, mw169, by decide +kernel, by decide +kernel, by decide +kernel⟩
set_option maxRecDepth 20000 in
theorem mw621 : Cond.instanceMethod ({ cls := "Datalogmill$Walk", name := "tuple", desc := "(I)I" } : MethodName) ∈ GW := inGW (List.mem_of_getElem? (i := 621) (by rfl)) (by decide +kernel)
set_option maxRecDepth 20000 in
theorem mw27 : Cond.selects RX9 yX9_tuple yX9_tuple ∈ GW := inGW (List.mem_of_getElem? (i := 27) (by rfl)) (by decide +kernel)
theorem vl_Wa_tuple : VL yX9_tuple := ⟨mw621, mw27⟩
set_option maxRecDepth 20000 in
theorem mt629 : Cond.methodLinkNest "Datalogmill$Walk" (127 : Nat) ({ cls := "Datalogmill$Model", name := "slotLike", desc := "(II)I" } : MethodName) "Datalogmill" ∈ lw_tbl := List.mem_of_getElem? (i := 629) (by rfl)
theorem lkX9_127 : LK "Datalogmill$Walk" 127 yX5_slotLike := Or.inr ⟨_, mt629⟩
set_option maxRecDepth 20000 in
theorem mw632 : Cond.code yX5_slotLike cX5_slotLike 7 (some .int) ∈ GW := inGW (List.mem_of_getElem? (i := 632) (by rfl)) (by decide +kernel)
theorem ml_Mo_slotLike : ML yX5_slotLike cX5_slotLike 7 (some .int) 2 := ⟨mw632, mw168, by decide +kernel, by decide +kernel, by decide +kernel⟩
set_option maxRecDepth 20000 in
theorem mw631 : Cond.instanceMethod ({ cls := "Datalogmill$Model", name := "slotLike", desc := "(II)I" } : MethodName) ∈ GW := inGW (List.mem_of_getElem? (i := 631) (by rfl)) (by decide +kernel)
set_option maxRecDepth 20000 in
theorem mw28 : Cond.selects RX5 yX5_slotLike yX5_slotLike ∈ GW := inGW (List.mem_of_getElem? (i := 28) (by rfl)) (by decide +kernel)
theorem vl_Mo_slotLike : VL yX5_slotLike := ⟨mw631, mw28⟩
set_option maxRecDepth 20000 in
theorem mw615 : Cond.methodLink "Datalogmill$Walk" (121 : Nat) ({ cls := "Datalogmill$Walk", name := "boundAt", desc := "(I)I" } : MethodName) ∈ GW := inGW (List.mem_of_getElem? (i := 615) (by rfl)) (by decide +kernel)
theorem lkX9_121 : LK "Datalogmill$Walk" 121 yX9_boundAt := Or.inl mw615
set_option maxRecDepth 20000 in
theorem mw618 : Cond.code yX9_boundAt cX9_boundAt 2 (some .int) ∈ GW := inGW (List.mem_of_getElem? (i := 618) (by rfl)) (by decide +kernel)
theorem ml_Wa_boundAt : ML yX9_boundAt cX9_boundAt 2 (some .int) 1 := ⟨mw618, mw169, by decide +kernel, by decide +kernel, by decide +kernel⟩
set_option maxRecDepth 20000 in
theorem mw617 : Cond.instanceMethod ({ cls := "Datalogmill$Walk", name := "boundAt", desc := "(I)I" } : MethodName) ∈ GW := inGW (List.mem_of_getElem? (i := 617) (by rfl)) (by decide +kernel)
set_option maxRecDepth 20000 in
theorem mw26 : Cond.selects RX9 yX9_boundAt yX9_boundAt ∈ GW := inGW (List.mem_of_getElem? (i := 26) (by rfl)) (by decide +kernel)
theorem vl_Wa_boundAt : VL yX9_boundAt := ⟨mw617, mw26⟩
theorem flX9_37 : FL RX9 37 TA 10 4 := ⟨RX9, TX9, 11, rfl, ⟨by decide, by decide, by decide⟩, inWX9, Or.inl mw360⟩
theorem flX9_40 : FL RX9 40 TA 10 3 := ⟨RX9, TX9, 11, rfl, ⟨by decide, by decide, by decide⟩, inWX9, Or.inl mw359⟩
set_option maxRecDepth 20000 in
theorem mw544 : Cond.constant "Datalogmill$Walk" (71 : Nat) (10000000 : Int32) ∈ GW := inGW (List.mem_of_getElem? (i := 544) (by rfl)) (by decide +kernel)
theorem kcX9_71 : Cond.constant RX9 71 (ii (10000000)) ∈ GW := by
  rw [show ii (10000000) = (10000000 : Int32) by decide]
  exact mw544
theorem rl10000000 : R32 (10000000) := ⟨by decide, by decide⟩
set_option maxRecDepth 20000 in
theorem mw545 : Cond.methodLink "Datalogmill$Walk" (72 : Nat) ({ cls := "Datalogmill$Walk", name := "placeAt", desc := "(I)I" } : MethodName) ∈ GW := inGW (List.mem_of_getElem? (i := 545) (by rfl)) (by decide +kernel)
theorem lkX9_72 : LK "Datalogmill$Walk" 72 yX9_placeAt := Or.inl mw545
set_option maxRecDepth 20000 in
theorem mw548 : Cond.code yX9_placeAt cX9_placeAt 2 (some .int) ∈ GW := inGW (List.mem_of_getElem? (i := 548) (by rfl)) (by decide +kernel)
theorem ml_Wa_placeAt : ML yX9_placeAt cX9_placeAt 2 (some .int) 1 := ⟨mw548, mw169, by decide +kernel, by decide +kernel, by decide +kernel⟩
set_option maxRecDepth 20000 in
theorem mw547 : Cond.instanceMethod ({ cls := "Datalogmill$Walk", name := "placeAt", desc := "(I)I" } : MethodName) ∈ GW := inGW (List.mem_of_getElem? (i := 547) (by rfl)) (by decide +kernel)
set_option maxRecDepth 20000 in
theorem mw10 : Cond.selects RX9 yX9_placeAt yX9_placeAt ∈ GW := inGW (List.mem_of_getElem? (i := 10) (by rfl)) (by decide +kernel)
theorem vl_Wa_placeAt : VL yX9_placeAt := ⟨mw547, mw10⟩
set_option maxRecDepth 20000 in
theorem mw611 : Cond.methodLink "Datalogmill$Walk" (82 : Nat) ({ cls := "Datalogmill$Walk", name := "passes", desc := "(I)Z" } : MethodName) ∈ GW := inGW (List.mem_of_getElem? (i := 611) (by rfl)) (by decide +kernel)
theorem lkX9_82 : LK "Datalogmill$Walk" 82 yX9_passes := Or.inl mw611
set_option maxRecDepth 20000 in
theorem mw614 : Cond.code yX9_passes cX9_passes 7 (some .boolean) ∈ GW := inGW (List.mem_of_getElem? (i := 614) (by rfl)) (by decide +kernel)
theorem ml_Wa_passes : ML yX9_passes cX9_passes 7 (some .boolean) 1 := ⟨mw614, mw169, by decide +kernel, by decide +kernel, by decide +kernel⟩
set_option maxRecDepth 20000 in
theorem mw613 : Cond.instanceMethod ({ cls := "Datalogmill$Walk", name := "passes", desc := "(I)Z" } : MethodName) ∈ GW := inGW (List.mem_of_getElem? (i := 613) (by rfl)) (by decide +kernel)
set_option maxRecDepth 20000 in
theorem mw25 : Cond.selects RX9 yX9_passes yX9_passes ∈ GW := inGW (List.mem_of_getElem? (i := 25) (by rfl)) (by decide +kernel)
theorem vl_Wa_passes : VL yX9_passes := ⟨mw613, mw25⟩
set_option maxRecDepth 20000 in
theorem mw553 : Cond.methodLink "Datalogmill$Walk" (78 : Nat) ({ cls := "Datalogmill$Walk", name := "takesTuple", desc := "(I)Z" } : MethodName) ∈ GW := inGW (List.mem_of_getElem? (i := 553) (by rfl)) (by decide +kernel)
theorem lkX9_78 : LK "Datalogmill$Walk" 78 yX9_takesTuple := Or.inl mw553
set_option maxRecDepth 20000 in
theorem mw556 : Cond.code yX9_takesTuple cX9_takesTuple 6 (some .boolean) ∈ GW := inGW (List.mem_of_getElem? (i := 556) (by rfl)) (by decide +kernel)
theorem ml_Wa_takesTuple : ML yX9_takesTuple cX9_takesTuple 6 (some .boolean) 1 := ⟨mw556, mw169, by decide +kernel, by decide +kernel, by decide +kernel⟩
set_option maxRecDepth 20000 in
theorem mw555 : Cond.instanceMethod ({ cls := "Datalogmill$Walk", name := "takesTuple", desc := "(I)Z" } : MethodName) ∈ GW := inGW (List.mem_of_getElem? (i := 555) (by rfl)) (by decide +kernel)
set_option maxRecDepth 20000 in
theorem mw12 : Cond.selects RX9 yX9_takesTuple yX9_takesTuple ∈ GW := inGW (List.mem_of_getElem? (i := 12) (by rfl)) (by decide +kernel)
theorem vl_Wa_takesTuple : VL yX9_takesTuple := ⟨mw555, mw12⟩
theorem flX8_15 : FL RX8 15 TA 9 1 := ⟨RX8, TX8, 4, rfl, ⟨by decide, by decide, by decide⟩, inWX8, Or.inl mw198⟩
theorem flX8_18 : FL RX8 18 TA 9 2 := ⟨RX8, TX8, 4, rfl, ⟨by decide, by decide, by decide⟩, inWX8, Or.inl mw199⟩
set_option maxRecDepth 20000 in
theorem mw648 : Cond.methodLink "Datalogmill$Schema" (31 : Nat) ({ cls := "Datalogmill$Schema", name := "kindOf", desc := "(I)I" } : MethodName) ∈ GW := inGW (List.mem_of_getElem? (i := 648) (by rfl)) (by decide +kernel)
theorem lkX8_31 : LK "Datalogmill$Schema" 31 yX8_kindOf := Or.inl mw648
set_option maxRecDepth 20000 in
theorem mw651 : Cond.code yX8_kindOf cX8_kindOf 2 (some .int) ∈ GW := inGW (List.mem_of_getElem? (i := 651) (by rfl)) (by decide +kernel)
theorem ml_Sc_kindOf : ML yX8_kindOf cX8_kindOf 2 (some .int) 1 := ⟨mw651, mw164, by decide +kernel, by decide +kernel, by decide +kernel⟩
set_option maxRecDepth 20000 in
theorem mw650 : Cond.instanceMethod ({ cls := "Datalogmill$Schema", name := "kindOf", desc := "(I)I" } : MethodName) ∈ GW := inGW (List.mem_of_getElem? (i := 650) (by rfl)) (by decide +kernel)
set_option maxRecDepth 20000 in
theorem mw31 : Cond.selects RX8 yX8_kindOf yX8_kindOf ∈ GW := inGW (List.mem_of_getElem? (i := 31) (by rfl)) (by decide +kernel)
theorem vl_Sc_kindOf : VL yX8_kindOf := ⟨mw650, mw31⟩
set_option maxRecDepth 20000 in
theorem mw652 : Cond.methodLink "Datalogmill$Schema" (34 : Nat) ({ cls := "Datalogmill$Schema", name := "keyOf", desc := "(I)I" } : MethodName) ∈ GW := inGW (List.mem_of_getElem? (i := 652) (by rfl)) (by decide +kernel)
theorem lkX8_34 : LK "Datalogmill$Schema" 34 yX8_keyOf := Or.inl mw652
set_option maxRecDepth 20000 in
theorem mw655 : Cond.code yX8_keyOf cX8_keyOf 2 (some .int) ∈ GW := inGW (List.mem_of_getElem? (i := 655) (by rfl)) (by decide +kernel)
theorem ml_Sc_keyOf : ML yX8_keyOf cX8_keyOf 2 (some .int) 1 := ⟨mw655, mw164, by decide +kernel, by decide +kernel, by decide +kernel⟩
set_option maxRecDepth 20000 in
theorem mw654 : Cond.instanceMethod ({ cls := "Datalogmill$Schema", name := "keyOf", desc := "(I)I" } : MethodName) ∈ GW := inGW (List.mem_of_getElem? (i := 654) (by rfl)) (by decide +kernel)
set_option maxRecDepth 20000 in
theorem mw32 : Cond.selects RX8 yX8_keyOf yX8_keyOf ∈ GW := inGW (List.mem_of_getElem? (i := 32) (by rfl)) (by decide +kernel)
theorem vl_Sc_keyOf : VL yX8_keyOf := ⟨mw654, mw32⟩
set_option maxRecDepth 20000 in
theorem mw656 : Cond.methodLink "Datalogmill$Schema" (28 : Nat) ({ cls := "Datalogmill$Schema", name := "columnsOf", desc := "(I)I" } : MethodName) ∈ GW := inGW (List.mem_of_getElem? (i := 656) (by rfl)) (by decide +kernel)
theorem lkX8_28 : LK "Datalogmill$Schema" 28 yX8_columnsOf := Or.inl mw656
set_option maxRecDepth 20000 in
theorem mw665 : Cond.methodLink "Datalogmill$Model" (40 : Nat) ({ cls := "Datalogmill$Model", name := "nextOf", desc := "(I)I" } : MethodName) ∈ GW := inGW (List.mem_of_getElem? (i := 665) (by rfl)) (by decide +kernel)
theorem lkX5_40 : LK "Datalogmill$Model" 40 yX5_nextOf := Or.inl mw665
set_option maxRecDepth 20000 in
theorem mw666 : Cond.methodLink "Datalogmill$Model" (52 : Nat) ({ cls := "Datalogmill$Model", name := "codeOf", desc := "(I)I" } : MethodName) ∈ GW := inGW (List.mem_of_getElem? (i := 666) (by rfl)) (by decide +kernel)
theorem lkX5_52 : LK "Datalogmill$Model" 52 yX5_codeOf := Or.inl mw666
set_option maxRecDepth 20000 in
theorem mt661 : Cond.methodLinkNest "Datalogmill$Model" (77 : Nat) ({ cls := "Datalogmill$Schema", name := "keyOf", desc := "(I)I" } : MethodName) "Datalogmill" ∈ lw_tbl := List.mem_of_getElem? (i := 661) (by rfl)
theorem lkX5_77 : LK "Datalogmill$Model" 77 yX8_keyOf := Or.inr ⟨_, mt661⟩
set_option maxRecDepth 20000 in
theorem mt662 : Cond.methodLinkNest "Datalogmill$Model" (80 : Nat) ({ cls := "Datalogmill", name := "shiftOf", desc := "(I)I" } : MethodName) "Datalogmill" ∈ lw_tbl := List.mem_of_getElem? (i := 662) (by rfl)
theorem lkX5_80 : LK "Datalogmill$Model" 80 yX10_shiftOf := Or.inr ⟨_, mt662⟩
set_option maxRecDepth 20000 in
theorem mw664 : Cond.code yX10_shiftOf cX10_shiftOf 1 (some .int) ∈ GW := inGW (List.mem_of_getElem? (i := 664) (by rfl)) (by decide +kernel)
theorem ml_Dm_shiftOf : ML yX10_shiftOf cX10_shiftOf 1 (some .int) 1 := ⟨mw664, mw163, by decide +kernel, by decide +kernel, by decide +kernel⟩
set_option maxRecDepth 20000 in
theorem mw663 : Cond.static ({ cls := "Datalogmill", name := "shiftOf", desc := "(I)I" } : MethodName) ∈ GW := inGW (List.mem_of_getElem? (i := 663) (by rfl)) (by decide +kernel)
theorem flX10_31 : FL RX10 31 TA 11 0 := ⟨RX10, TX10, 13, rfl, ⟨by decide, by decide, by decide⟩, inWX10, Or.inl mw453⟩
set_option maxRecDepth 20000 in
theorem mt644 : Cond.methodLinkNest "Datalogmill" (425 : Nat) ({ cls := "Datalogmill$Schema", name := "hasOpenKey", desc := "(I)Z" } : MethodName) "Datalogmill" ∈ lw_tbl := List.mem_of_getElem? (i := 644) (by rfl)
theorem lkX10_425 : LK "Datalogmill" 425 yX8_hasOpenKey := Or.inr ⟨_, mt644⟩
set_option maxRecDepth 20000 in
theorem mw647 : Cond.code yX8_hasOpenKey cX8_hasOpenKey 2 (some .boolean) ∈ GW := inGW (List.mem_of_getElem? (i := 647) (by rfl)) (by decide +kernel)
theorem ml_Sc_hasOpenKey : ML yX8_hasOpenKey cX8_hasOpenKey 2 (some .boolean) 1 := ⟨mw647, mw164, by decide +kernel, by decide +kernel, by decide +kernel⟩
set_option maxRecDepth 20000 in
theorem mw646 : Cond.instanceMethod ({ cls := "Datalogmill$Schema", name := "hasOpenKey", desc := "(I)Z" } : MethodName) ∈ GW := inGW (List.mem_of_getElem? (i := 646) (by rfl)) (by decide +kernel)
set_option maxRecDepth 20000 in
theorem mw30 : Cond.selects RX8 yX8_hasOpenKey yX8_hasOpenKey ∈ GW := inGW (List.mem_of_getElem? (i := 30) (by rfl)) (by decide +kernel)
theorem vl_Sc_hasOpenKey : VL yX8_hasOpenKey := ⟨mw646, mw30⟩
set_option maxRecDepth 20000 in
theorem mt657 : Cond.methodLinkNest "Datalogmill" (428 : Nat) ({ cls := "Datalogmill$Model", name := "breaksKey", desc := "(I)Z" } : MethodName) "Datalogmill" ∈ lw_tbl := List.mem_of_getElem? (i := 657) (by rfl)
theorem lkX10_428 : LK "Datalogmill" 428 yX5_breaksKey := Or.inr ⟨_, mt657⟩
set_option maxRecDepth 20000 in
theorem mw660 : Cond.code yX5_breaksKey cX5_breaksKey 7 (some .boolean) ∈ GW := inGW (List.mem_of_getElem? (i := 660) (by rfl)) (by decide +kernel)
theorem ml_Mo_breaksKey : ML yX5_breaksKey cX5_breaksKey 7 (some .boolean) 1 := ⟨mw660, mw168, by decide +kernel, by decide +kernel, by decide +kernel⟩
set_option maxRecDepth 20000 in
theorem mw659 : Cond.instanceMethod ({ cls := "Datalogmill$Model", name := "breaksKey", desc := "(I)Z" } : MethodName) ∈ GW := inGW (List.mem_of_getElem? (i := 659) (by rfl)) (by decide +kernel)
set_option maxRecDepth 20000 in
theorem mw33 : Cond.selects RX5 yX5_breaksKey yX5_breaksKey ∈ GW := inGW (List.mem_of_getElem? (i := 33) (by rfl)) (by decide +kernel)
theorem vl_Mo_breaksKey : VL yX5_breaksKey := ⟨mw659, mw33⟩
theorem flX10_39 : FL RX10 39 TA 11 2 := ⟨RX10, TX10, 13, rfl, ⟨by decide, by decide, by decide⟩, inWX10, Or.inl mw455⟩
set_option maxRecDepth 20000 in
theorem mt297 : Cond.fieldLinkNest "Datalogmill" (236 : Nat) "Datalogmill$Program" "denialCount" "I" "Datalogmill" ∈ lw_tbl := List.mem_of_getElem? (i := 297) (by rfl)
theorem flX10_236 : FL RX10 236 TA 8 5 := ⟨RX7, TX7, 8, rfl, ⟨by decide, by decide, by decide⟩, inWX7, Or.inr ⟨_, mt297⟩⟩
set_option maxRecDepth 20000 in
theorem mt528 : Cond.methodLinkNest "Datalogmill" (422 : Nat) ({ cls := "Datalogmill$Program", name := "denial", desc := "(I)LDatalogmill$Body;" } : MethodName) "Datalogmill" ∈ lw_tbl := List.mem_of_getElem? (i := 528) (by rfl)
theorem lkX10_422 : LK "Datalogmill" 422 yX7_denial := Or.inr ⟨_, mt528⟩
set_option maxRecDepth 20000 in
theorem mw531 : Cond.code yX7_denial cX7_denial 3 (some (.object "Datalogmill$Body")) ∈ GW := inGW (List.mem_of_getElem? (i := 531) (by rfl)) (by decide +kernel)
theorem ml_Pr_denial : ML yX7_denial cX7_denial 3 (some (.object "Datalogmill$Body")) 1 := ⟨mw531, mw166, by decide +kernel, by decide +kernel, by decide +kernel⟩
set_option maxRecDepth 20000 in
theorem mw530 : Cond.instanceMethod ({ cls := "Datalogmill$Program", name := "denial", desc := "(I)LDatalogmill$Body;" } : MethodName) ∈ GW := inGW (List.mem_of_getElem? (i := 530) (by rfl)) (by decide +kernel)
set_option maxRecDepth 20000 in
theorem mw6 : Cond.selects RX7 yX7_denial yX7_denial ∈ GW := inGW (List.mem_of_getElem? (i := 6) (by rfl)) (by decide +kernel)
theorem vl_Pr_denial : VL yX7_denial := ⟨mw530, mw6⟩
theorem flX10_51 : FL RX10 51 TA 11 7 := ⟨RX10, TX10, 13, rfl, ⟨by decide, by decide, by decide⟩, inWX10, Or.inl mw460⟩
set_option maxRecDepth 20000 in
theorem mt532 : Cond.methodLinkNest "Datalogmill" (395 : Nat) ({ cls := "Datalogmill$Walk", name := "begin", desc := "(LDatalogmill$Body;LDatalogmill$Model;I)V" } : MethodName) "Datalogmill" ∈ lw_tbl := List.mem_of_getElem? (i := 532) (by rfl)
theorem lkX10_395 : LK "Datalogmill" 395 yX9_begin := Or.inr ⟨_, mt532⟩
set_option maxRecDepth 20000 in
theorem mw535 : Cond.code yX9_begin cX9_begin 4 none ∈ GW := inGW (List.mem_of_getElem? (i := 535) (by rfl)) (by decide +kernel)
theorem ml_Wa_begin : ML yX9_begin cX9_begin 4 none 3 := ⟨mw535, mw169, by decide +kernel, by decide +kernel, by decide +kernel⟩
set_option maxRecDepth 20000 in
theorem mw534 : Cond.instanceMethod ({ cls := "Datalogmill$Walk", name := "begin", desc := "(LDatalogmill$Body;LDatalogmill$Model;I)V" } : MethodName) ∈ GW := inGW (List.mem_of_getElem? (i := 534) (by rfl)) (by decide +kernel)
set_option maxRecDepth 20000 in
theorem mw7 : Cond.selects RX9 yX9_begin yX9_begin ∈ GW := inGW (List.mem_of_getElem? (i := 7) (by rfl)) (by decide +kernel)
theorem vl_Wa_begin : VL yX9_begin := ⟨mw534, mw7⟩
set_option maxRecDepth 20000 in
theorem mt540 : Cond.methodLinkNest "Datalogmill" (392 : Nat) ({ cls := "Datalogmill$Walk", name := "next", desc := "()Z" } : MethodName) "Datalogmill" ∈ lw_tbl := List.mem_of_getElem? (i := 540) (by rfl)
theorem lkX10_392 : LK "Datalogmill" 392 yX9_next := Or.inr ⟨_, mt540⟩
set_option maxRecDepth 20000 in
theorem mw543 : Cond.code yX9_next cX9_next 4 (some .boolean) ∈ GW := inGW (List.mem_of_getElem? (i := 543) (by rfl)) (by decide +kernel)
theorem ml_Wa_next : ML yX9_next cX9_next 4 (some .boolean) 0 := ⟨mw543, mw169, by decide +kernel, by decide +kernel, by decide +kernel⟩
set_option maxRecDepth 20000 in
theorem mw542 : Cond.instanceMethod ({ cls := "Datalogmill$Walk", name := "next", desc := "()Z" } : MethodName) ∈ GW := inGW (List.mem_of_getElem? (i := 542) (by rfl)) (by decide +kernel)
set_option maxRecDepth 20000 in
theorem mw9 : Cond.selects RX9 yX9_next yX9_next ∈ GW := inGW (List.mem_of_getElem? (i := 9) (by rfl)) (by decide +kernel)
theorem vl_Wa_next : VL yX9_next := ⟨mw542, mw9⟩
set_option maxRecDepth 20000 in
theorem mw516 : Cond.methodLink "Datalogmill" (261 : Nat) ({ cls := "Datalogmill", name := "present", desc := "()LDatalogmill$Model;" } : MethodName) ∈ GW := inGW (List.mem_of_getElem? (i := 516) (by rfl)) (by decide +kernel)
theorem lkX10_261 : LK "Datalogmill" 261 yX10_present := Or.inl mw516
set_option maxRecDepth 20000 in
theorem mw519 : Cond.code yX10_present cX10_present 1 (some (.object "Datalogmill$Model")) ∈ GW := inGW (List.mem_of_getElem? (i := 519) (by rfl)) (by decide +kernel)
theorem ml_Dm_present : ML yX10_present cX10_present 1 (some (.object "Datalogmill$Model")) 0 := ⟨mw519, mw163, by decide +kernel, by decide +kernel, by decide +kernel⟩
set_option maxRecDepth 20000 in
theorem mw518 : Cond.instanceMethod ({ cls := "Datalogmill", name := "present", desc := "()LDatalogmill$Model;" } : MethodName) ∈ GW := inGW (List.mem_of_getElem? (i := 518) (by rfl)) (by decide +kernel)
set_option maxRecDepth 20000 in
theorem mw3 : Cond.selects RX10 yX10_present yX10_present ∈ GW := inGW (List.mem_of_getElem? (i := 3) (by rfl)) (by decide +kernel)
theorem vl_Dm_present : VL yX10_present := ⟨mw518, mw3⟩
set_option maxRecDepth 20000 in
theorem mw524 : Cond.methodLink "Datalogmill" (323 : Nat) ({ cls := "Datalogmill", name := "brokenIn", desc := "(LDatalogmill$Model;)I" } : MethodName) ∈ GW := inGW (List.mem_of_getElem? (i := 524) (by rfl)) (by decide +kernel)
theorem lkX10_323 : LK "Datalogmill" 323 yX10_brokenIn := Or.inl mw524
set_option maxRecDepth 20000 in
theorem mw527 : Cond.code yX10_brokenIn cX10_brokenIn 5 (some .int) ∈ GW := inGW (List.mem_of_getElem? (i := 527) (by rfl)) (by decide +kernel)
theorem ml_Dm_brokenIn : ML yX10_brokenIn cX10_brokenIn 5 (some .int) 1 := ⟨mw527, mw163, by decide +kernel, by decide +kernel, by decide +kernel⟩
set_option maxRecDepth 20000 in
theorem mw526 : Cond.instanceMethod ({ cls := "Datalogmill", name := "brokenIn", desc := "(LDatalogmill$Model;)I" } : MethodName) ∈ GW := inGW (List.mem_of_getElem? (i := 526) (by rfl)) (by decide +kernel)
set_option maxRecDepth 20000 in
theorem mw5 : Cond.selects RX10 yX10_brokenIn yX10_brokenIn ∈ GW := inGW (List.mem_of_getElem? (i := 5) (by rfl)) (by decide +kernel)
theorem vl_Dm_brokenIn : VL yX10_brokenIn := ⟨mw526, mw5⟩
set_option maxRecDepth 20000 in
theorem mw217 : Cond.fieldLink "Datalogmill$Facts" (31 : Nat) "Datalogmill$Facts" "count" "I" ∈ GW := inGW (List.mem_of_getElem? (i := 217) (by rfl)) (by decide +kernel)
theorem flX2_31 : FL RX2 31 TA 3 0 := ⟨RX2, TX2, 8, rfl, ⟨by decide, by decide, by decide⟩, inWX2, Or.inl mw217⟩
set_option maxRecDepth 20000 in
theorem mw675 : Cond.methodLink "Datalogmill$Facts" (38 : Nat) ({ cls := "Datalogmill$Facts", name := "isFact", desc := "(I)Z" } : MethodName) ∈ GW := inGW (List.mem_of_getElem? (i := 675) (by rfl)) (by decide +kernel)
theorem lkX2_38 : LK "Datalogmill$Facts" 38 yX2_isFact := Or.inl mw675
set_option maxRecDepth 20000 in
theorem mw678 : Cond.code yX2_isFact cX2_isFact 2 (some .boolean) ∈ GW := inGW (List.mem_of_getElem? (i := 678) (by rfl)) (by decide +kernel)
theorem ml_Fa_isFact : ML yX2_isFact cX2_isFact 2 (some .boolean) 1 := ⟨mw678, mw165, by decide +kernel, by decide +kernel, by decide +kernel⟩
set_option maxRecDepth 20000 in
theorem mw677 : Cond.instanceMethod ({ cls := "Datalogmill$Facts", name := "isFact", desc := "(I)Z" } : MethodName) ∈ GW := inGW (List.mem_of_getElem? (i := 677) (by rfl)) (by decide +kernel)
set_option maxRecDepth 20000 in
theorem mw35 : Cond.selects RX2 yX2_isFact yX2_isFact ∈ GW := inGW (List.mem_of_getElem? (i := 35) (by rfl)) (by decide +kernel)
theorem vl_Fa_isFact : VL yX2_isFact := ⟨mw677, mw35⟩
theorem flX2_27 : FL RX2 27 TA 3 7 := ⟨RX2, TX2, 8, rfl, ⟨by decide, by decide, by decide⟩, inWX2, Or.inl mw227⟩
theorem flX2_21 : FL RX2 21 TA 3 5 := ⟨RX2, TX2, 8, rfl, ⟨by decide, by decide, by decide⟩, inWX2, Or.inl mw225⟩
theorem flX2_24 : FL RX2 24 TA 3 6 := ⟨RX2, TX2, 8, rfl, ⟨by decide, by decide, by decide⟩, inWX2, Or.inl mw226⟩
set_option maxRecDepth 20000 in
theorem mw327 : Cond.fieldLink "Datalogmill$Model" (28 : Nat) "Datalogmill$Model" "count" "I" ∈ GW := inGW (List.mem_of_getElem? (i := 327) (by rfl)) (by decide +kernel)
theorem fpX5_28 : FP RX5 28 TA 6 1 .int := ⟨RX5, TX5, 7, rfl, ⟨by decide, by decide, by decide⟩, inWX5, Or.inl mw327, ⟨tyX5, tyX5_ok, rfl⟩, nmX5, rfl⟩
set_option maxRecDepth 20000 in
theorem mw328 : Cond.fieldLink "Datalogmill$Model" (32 : Nat) "Datalogmill$Model" "over" "Z" ∈ GW := inGW (List.mem_of_getElem? (i := 328) (by rfl)) (by decide +kernel)
theorem fpX5_32 : FP RX5 32 TA 6 2 .boolean := ⟨RX5, TX5, 7, rfl, ⟨by decide, by decide, by decide⟩, inWX5, Or.inl mw328, ⟨tyX5, tyX5_ok, rfl⟩, nmX5, rfl⟩
theorem flX2_9 : FL RX2 9 TA 3 2 := ⟨RX2, TX2, 8, rfl, ⟨by decide, by decide, by decide⟩, inWX2, Or.inl mw222⟩
theorem flX7_25 : FL RX7 25 TA 8 6 := ⟨RX7, TX7, 8, rfl, ⟨by decide, by decide, by decide⟩, inWX7, Or.inl mw298⟩
theorem flX2_15 : FL RX2 15 TA 3 3 := ⟨RX2, TX2, 8, rfl, ⟨by decide, by decide, by decide⟩, inWX2, Or.inl mw223⟩
theorem flX5_28 : FL RX5 28 TA 6 1 := ⟨RX5, TX5, 7, rfl, ⟨by decide, by decide, by decide⟩, inWX5, Or.inl mw327⟩
set_option maxRecDepth 20000 in
theorem mw717 : Cond.methodLink "Datalogmill$Model" (63 : Nat) ({ cls := "Datalogmill$Model", name := "slotBelow", desc := "(II)I" } : MethodName) ∈ GW := inGW (List.mem_of_getElem? (i := 717) (by rfl)) (by decide +kernel)
theorem lkX5_63 : LK "Datalogmill$Model" 63 yX5_slotBelow := Or.inl mw717
set_option maxRecDepth 20000 in
theorem mw720 : Cond.code yX5_slotBelow cX5_slotBelow 8 (some .int) ∈ GW := inGW (List.mem_of_getElem? (i := 720) (by rfl)) (by decide +kernel)
theorem ml_Mo_slotBelow : ML yX5_slotBelow cX5_slotBelow 8 (some .int) 2 := ⟨mw720, mw168, by decide +kernel, by decide +kernel, by decide +kernel⟩
set_option maxRecDepth 20000 in
theorem mw719 : Cond.instanceMethod ({ cls := "Datalogmill$Model", name := "slotBelow", desc := "(II)I" } : MethodName) ∈ GW := inGW (List.mem_of_getElem? (i := 719) (by rfl)) (by decide +kernel)
set_option maxRecDepth 20000 in
theorem mw45 : Cond.selects RX5 yX5_slotBelow yX5_slotBelow ∈ GW := inGW (List.mem_of_getElem? (i := 45) (by rfl)) (by decide +kernel)
theorem vl_Mo_slotBelow : VL yX5_slotBelow := ⟨mw719, mw45⟩
set_option maxRecDepth 20000 in
theorem mt725 : Cond.methodLinkNest "Datalogmill$Model" (66 : Nat) ({ cls := "Datalogmill$Schema", name := "kindOf", desc := "(I)I" } : MethodName) "Datalogmill" ∈ lw_tbl := List.mem_of_getElem? (i := 725) (by rfl)
theorem lkX5_66 : LK "Datalogmill$Model" 66 yX8_kindOf := Or.inr ⟨_, mt725⟩
set_option maxRecDepth 20000 in
theorem mw727 : Cond.methodLink "Datalogmill$Model" 74 Lib.Math.max.name ∈ GW := inGW (List.mem_of_getElem? (i := 727) (by rfl)) (by decide +kernel)
set_option maxRecDepth 20000 in
theorem mw726 : Cond.methodLink "Datalogmill$Model" 69 Lib.Math.min.name ∈ GW := inGW (List.mem_of_getElem? (i := 726) (by rfl)) (by decide +kernel)
set_option maxRecDepth 20000 in
theorem mw712 : Cond.methodLink "Datalogmill$Model" (48 : Nat) ({ cls := "Datalogmill$Model", name := "slotLike", desc := "(II)I" } : MethodName) ∈ GW := inGW (List.mem_of_getElem? (i := 712) (by rfl)) (by decide +kernel)
theorem lkX5_48 : LK "Datalogmill$Model" 48 yX5_slotLike := Or.inl mw712
set_option maxRecDepth 20000 in
theorem mw721 : Cond.methodLink "Datalogmill$Model" (59 : Nat) ({ cls := "Datalogmill$Model", name := "merged", desc := "(III)I" } : MethodName) ∈ GW := inGW (List.mem_of_getElem? (i := 721) (by rfl)) (by decide +kernel)
theorem lkX5_59 : LK "Datalogmill$Model" 59 yX5_merged := Or.inl mw721
set_option maxRecDepth 20000 in
theorem mw724 : Cond.code yX5_merged cX5_merged 5 (some .int) ∈ GW := inGW (List.mem_of_getElem? (i := 724) (by rfl)) (by decide +kernel)
theorem ml_Mo_merged : ML yX5_merged cX5_merged 5 (some .int) 3 := ⟨mw724, mw168, by decide +kernel, by decide +kernel, by decide +kernel⟩
set_option maxRecDepth 20000 in
theorem mw723 : Cond.instanceMethod ({ cls := "Datalogmill$Model", name := "merged", desc := "(III)I" } : MethodName) ∈ GW := inGW (List.mem_of_getElem? (i := 723) (by rfl)) (by decide +kernel)
set_option maxRecDepth 20000 in
theorem mw46 : Cond.selects RX5 yX5_merged yX5_merged ∈ GW := inGW (List.mem_of_getElem? (i := 46) (by rfl)) (by decide +kernel)
theorem vl_Mo_merged : VL yX5_merged := ⟨mw723, mw46⟩
set_option maxRecDepth 20000 in
theorem mw713 : Cond.methodLink "Datalogmill$Model" (55 : Nat) ({ cls := "Datalogmill$Model", name := "insert", desc := "(III)Z" } : MethodName) ∈ GW := inGW (List.mem_of_getElem? (i := 713) (by rfl)) (by decide +kernel)
theorem lkX5_55 : LK "Datalogmill$Model" 55 yX5_insert := Or.inl mw713
set_option maxRecDepth 20000 in
theorem mw716 : Cond.code yX5_insert cX5_insert 6 (some .boolean) ∈ GW := inGW (List.mem_of_getElem? (i := 716) (by rfl)) (by decide +kernel)
theorem ml_Mo_insert : ML yX5_insert cX5_insert 6 (some .boolean) 3 := ⟨mw716, mw168, by decide +kernel, by decide +kernel, by decide +kernel⟩
set_option maxRecDepth 20000 in
theorem mw715 : Cond.instanceMethod ({ cls := "Datalogmill$Model", name := "insert", desc := "(III)Z" } : MethodName) ∈ GW := inGW (List.mem_of_getElem? (i := 715) (by rfl)) (by decide +kernel)
set_option maxRecDepth 20000 in
theorem mw44 : Cond.selects RX5 yX5_insert yX5_insert ∈ GW := inGW (List.mem_of_getElem? (i := 44) (by rfl)) (by decide +kernel)
theorem vl_Mo_insert : VL yX5_insert := ⟨mw715, mw44⟩
theorem flX4_9 : FL RX4 9 TA 5 0 := ⟨RX4, TX4, 3, rfl, ⟨by decide, by decide, by decide⟩, inWX4, Or.inl mw396⟩
set_option maxRecDepth 20000 in
theorem mt218 : Cond.fieldLinkNest "Datalogmill$Mill" (46 : Nat) "Datalogmill$Facts" "count" "I" "Datalogmill" ∈ lw_tbl := List.mem_of_getElem? (i := 218) (by rfl)
theorem flX4_46 : FL RX4 46 TA 3 0 := ⟨RX2, TX2, 8, rfl, ⟨by decide, by decide, by decide⟩, inWX2, Or.inr ⟨_, mt218⟩⟩
set_option maxRecDepth 20000 in
theorem mt695 : Cond.methodLinkNest "Datalogmill$Mill" (51 : Nat) ({ cls := "Datalogmill$Facts", name := "relationOf", desc := "(I)I" } : MethodName) "Datalogmill" ∈ lw_tbl := List.mem_of_getElem? (i := 695) (by rfl)
theorem lkX4_51 : LK "Datalogmill$Mill" 51 yX2_relationOf := Or.inr ⟨_, mt695⟩
set_option maxRecDepth 20000 in
theorem mw698 : Cond.code yX2_relationOf cX2_relationOf 2 (some .int) ∈ GW := inGW (List.mem_of_getElem? (i := 698) (by rfl)) (by decide +kernel)
theorem ml_Fa_relationOf : ML yX2_relationOf cX2_relationOf 2 (some .int) 1 := ⟨mw698, mw165, by decide +kernel, by decide +kernel, by decide +kernel⟩
set_option maxRecDepth 20000 in
theorem mw697 : Cond.instanceMethod ({ cls := "Datalogmill$Facts", name := "relationOf", desc := "(I)I" } : MethodName) ∈ GW := inGW (List.mem_of_getElem? (i := 697) (by rfl)) (by decide +kernel)
set_option maxRecDepth 20000 in
theorem mw40 : Cond.selects RX2 yX2_relationOf yX2_relationOf ∈ GW := inGW (List.mem_of_getElem? (i := 40) (by rfl)) (by decide +kernel)
theorem vl_Fa_relationOf : VL yX2_relationOf := ⟨mw697, mw40⟩
set_option maxRecDepth 20000 in
theorem mt699 : Cond.methodLinkNest "Datalogmill$Mill" (55 : Nat) ({ cls := "Datalogmill$Facts", name := "holdsIn", desc := "(II)Z" } : MethodName) "Datalogmill" ∈ lw_tbl := List.mem_of_getElem? (i := 699) (by rfl)
theorem lkX4_55 : LK "Datalogmill$Mill" 55 yX2_holdsIn := Or.inr ⟨_, mt699⟩
set_option maxRecDepth 20000 in
theorem mw674 : Cond.code yX2_holdsIn cX2_holdsIn 3 (some .boolean) ∈ GW := inGW (List.mem_of_getElem? (i := 674) (by rfl)) (by decide +kernel)
theorem ml_Fa_holdsIn : ML yX2_holdsIn cX2_holdsIn 3 (some .boolean) 2 := ⟨mw674, mw165, by decide +kernel, by decide +kernel, by decide +kernel⟩
set_option maxRecDepth 20000 in
theorem mw673 : Cond.instanceMethod ({ cls := "Datalogmill$Facts", name := "holdsIn", desc := "(II)Z" } : MethodName) ∈ GW := inGW (List.mem_of_getElem? (i := 673) (by rfl)) (by decide +kernel)
set_option maxRecDepth 20000 in
theorem mw34 : Cond.selects RX2 yX2_holdsIn yX2_holdsIn ∈ GW := inGW (List.mem_of_getElem? (i := 34) (by rfl)) (by decide +kernel)
theorem vl_Fa_holdsIn : VL yX2_holdsIn := ⟨mw673, mw34⟩
theorem flX4_15 : FL RX4 15 TA 5 1 := ⟨RX4, TX4, 3, rfl, ⟨by decide, by decide, by decide⟩, inWX4, Or.inl mw397⟩
set_option maxRecDepth 20000 in
theorem mt700 : Cond.methodLinkNest "Datalogmill$Mill" (59 : Nat) ({ cls := "Datalogmill$Program", name := "levelOf", desc := "(I)I" } : MethodName) "Datalogmill" ∈ lw_tbl := List.mem_of_getElem? (i := 700) (by rfl)
theorem lkX4_59 : LK "Datalogmill$Mill" 59 yX7_levelOf := Or.inr ⟨_, mt700⟩
set_option maxRecDepth 20000 in
theorem mw703 : Cond.code yX7_levelOf cX7_levelOf 2 (some .int) ∈ GW := inGW (List.mem_of_getElem? (i := 703) (by rfl)) (by decide +kernel)
theorem ml_Pr_levelOf : ML yX7_levelOf cX7_levelOf 2 (some .int) 1 := ⟨mw703, mw166, by decide +kernel, by decide +kernel, by decide +kernel⟩
set_option maxRecDepth 20000 in
theorem mw702 : Cond.instanceMethod ({ cls := "Datalogmill$Program", name := "levelOf", desc := "(I)I" } : MethodName) ∈ GW := inGW (List.mem_of_getElem? (i := 702) (by rfl)) (by decide +kernel)
set_option maxRecDepth 20000 in
theorem mw41 : Cond.selects RX7 yX7_levelOf yX7_levelOf ∈ GW := inGW (List.mem_of_getElem? (i := 41) (by rfl)) (by decide +kernel)
theorem vl_Pr_levelOf : VL yX7_levelOf := ⟨mw702, mw41⟩
set_option maxRecDepth 20000 in
theorem mt704 : Cond.methodLinkNest "Datalogmill$Mill" (62 : Nat) ({ cls := "Datalogmill$Facts", name := "codeOf", desc := "(I)I" } : MethodName) "Datalogmill" ∈ lw_tbl := List.mem_of_getElem? (i := 704) (by rfl)
theorem lkX4_62 : LK "Datalogmill$Mill" 62 yX2_codeOf := Or.inr ⟨_, mt704⟩
set_option maxRecDepth 20000 in
theorem mw707 : Cond.code yX2_codeOf cX2_codeOf 2 (some .int) ∈ GW := inGW (List.mem_of_getElem? (i := 707) (by rfl)) (by decide +kernel)
theorem ml_Fa_codeOf : ML yX2_codeOf cX2_codeOf 2 (some .int) 1 := ⟨mw707, mw165, by decide +kernel, by decide +kernel, by decide +kernel⟩
set_option maxRecDepth 20000 in
theorem mw706 : Cond.instanceMethod ({ cls := "Datalogmill$Facts", name := "codeOf", desc := "(I)I" } : MethodName) ∈ GW := inGW (List.mem_of_getElem? (i := 706) (by rfl)) (by decide +kernel)
set_option maxRecDepth 20000 in
theorem mw42 : Cond.selects RX2 yX2_codeOf yX2_codeOf ∈ GW := inGW (List.mem_of_getElem? (i := 42) (by rfl)) (by decide +kernel)
theorem vl_Fa_codeOf : VL yX2_codeOf := ⟨mw706, mw42⟩
set_option maxRecDepth 20000 in
theorem mt708 : Cond.methodLinkNest "Datalogmill$Mill" (65 : Nat) ({ cls := "Datalogmill$Model", name := "take", desc := "(III)Z" } : MethodName) "Datalogmill" ∈ lw_tbl := List.mem_of_getElem? (i := 708) (by rfl)
theorem lkX4_65 : LK "Datalogmill$Mill" 65 yX5_take := Or.inr ⟨_, mt708⟩
set_option maxRecDepth 20000 in
theorem mw711 : Cond.code yX5_take cX5_take 6 (some .boolean) ∈ GW := inGW (List.mem_of_getElem? (i := 711) (by rfl)) (by decide +kernel)
theorem ml_Mo_take : ML yX5_take cX5_take 6 (some .boolean) 3 := ⟨mw711, mw168, by decide +kernel, by decide +kernel, by decide +kernel⟩
set_option maxRecDepth 20000 in
theorem mw710 : Cond.instanceMethod ({ cls := "Datalogmill$Model", name := "take", desc := "(III)Z" } : MethodName) ∈ GW := inGW (List.mem_of_getElem? (i := 710) (by rfl)) (by decide +kernel)
set_option maxRecDepth 20000 in
theorem mw43 : Cond.selects RX5 yX5_take yX5_take ∈ GW := inGW (List.mem_of_getElem? (i := 43) (by rfl)) (by decide +kernel)
theorem vl_Mo_take : VL yX5_take := ⟨mw710, mw43⟩
set_option maxRecDepth 20000 in
theorem mt740 : Cond.methodLinkNest "Datalogmill$Mill" (107 : Nat) ({ cls := "Datalogmill$Body", name := "formOf", desc := "(I)I" } : MethodName) "Datalogmill" ∈ lw_tbl := List.mem_of_getElem? (i := 740) (by rfl)
theorem lkX4_107 : LK "Datalogmill$Mill" 107 yX0_formOf := Or.inr ⟨_, mt740⟩
set_option maxRecDepth 20000 in
theorem mt741 : Cond.methodLinkNest "Datalogmill$Mill" (110 : Nat) ({ cls := "Datalogmill$Body", name := "subjectOf", desc := "(I)I" } : MethodName) "Datalogmill" ∈ lw_tbl := List.mem_of_getElem? (i := 741) (by rfl)
theorem lkX4_110 : LK "Datalogmill$Mill" 110 yX0_subjectOf := Or.inr ⟨_, mt741⟩
theorem fpX9_51 : FP RX9 51 TA 10 7 .int := ⟨RX9, TX9, 11, rfl, ⟨by decide, by decide, by decide⟩, inWX9, Or.inl mw363, ⟨tyX9, tyX9_ok, rfl⟩, nmX9, rfl⟩
set_option maxRecDepth 20000 in
theorem mw747 : Cond.constant "Datalogmill$Mill" (99 : Nat) (10000000 : Int32) ∈ GW := inGW (List.mem_of_getElem? (i := 747) (by rfl)) (by decide +kernel)
theorem kcX4_99 : Cond.constant RX4 99 (ii (10000000)) ∈ GW := by
  rw [show ii (10000000) = (10000000 : Int32) by decide]
  exact mw747
set_option maxRecDepth 20000 in
theorem mt329 : Cond.fieldLinkNest "Datalogmill$Mill" (42 : Nat) "Datalogmill$Model" "over" "Z" "Datalogmill" ∈ lw_tbl := List.mem_of_getElem? (i := 329) (by rfl)
theorem flX4_42 : FL RX4 42 TA 6 2 := ⟨RX5, TX5, 7, rfl, ⟨by decide, by decide, by decide⟩, inWX5, Or.inr ⟨_, mt329⟩⟩
theorem flX4_19 : FL RX4 19 TA 5 2 := ⟨RX4, TX4, 3, rfl, ⟨by decide, by decide, by decide⟩, inWX4, Or.inl mw398⟩
set_option maxRecDepth 20000 in
theorem mt748 : Cond.methodLinkNest "Datalogmill$Mill" (100 : Nat) ({ cls := "Datalogmill$Walk", name := "next", desc := "()Z" } : MethodName) "Datalogmill" ∈ lw_tbl := List.mem_of_getElem? (i := 748) (by rfl)
theorem lkX4_100 : LK "Datalogmill$Mill" 100 yX9_next := Or.inr ⟨_, mt748⟩
set_option maxRecDepth 20000 in
theorem mt265 : Cond.fieldLinkNest "Datalogmill$Mill" (81 : Nat) "Datalogmill$Body" "target" "I" "Datalogmill" ∈ lw_tbl := List.mem_of_getElem? (i := 265) (by rfl)
theorem flX4_81 : FL RX4 81 TA 1 1 := ⟨RX0, TX0, 6, rfl, ⟨by decide, by decide, by decide⟩, inWX0, Or.inr ⟨_, mt265⟩⟩
set_option maxRecDepth 20000 in
theorem mt749 : Cond.methodLinkNest "Datalogmill$Mill" (104 : Nat) ({ cls := "Datalogmill$Walk", name := "tuple", desc := "(I)I" } : MethodName) "Datalogmill" ∈ lw_tbl := List.mem_of_getElem? (i := 749) (by rfl)
theorem lkX4_104 : LK "Datalogmill$Mill" 104 yX9_tuple := Or.inr ⟨_, mt749⟩
set_option maxRecDepth 20000 in
theorem mt743 : Cond.methodLinkNest "Datalogmill$Mill" (95 : Nat) ({ cls := "Datalogmill$Walk", name := "leadBy", desc := "(II)V" } : MethodName) "Datalogmill" ∈ lw_tbl := List.mem_of_getElem? (i := 743) (by rfl)
theorem lkX4_95 : LK "Datalogmill$Mill" 95 yX9_leadBy := Or.inr ⟨_, mt743⟩
set_option maxRecDepth 20000 in
theorem mw746 : Cond.code yX9_leadBy cX9_leadBy 3 none ∈ GW := inGW (List.mem_of_getElem? (i := 746) (by rfl)) (by decide +kernel)
theorem ml_Wa_leadBy : ML yX9_leadBy cX9_leadBy 3 none 2 := ⟨mw746, mw169, by decide +kernel, by decide +kernel, by decide +kernel⟩
set_option maxRecDepth 20000 in
theorem mw745 : Cond.instanceMethod ({ cls := "Datalogmill$Walk", name := "leadBy", desc := "(II)V" } : MethodName) ∈ GW := inGW (List.mem_of_getElem? (i := 745) (by rfl)) (by decide +kernel)
set_option maxRecDepth 20000 in
theorem mw50 : Cond.selects RX9 yX9_leadBy yX9_leadBy ∈ GW := inGW (List.mem_of_getElem? (i := 50) (by rfl)) (by decide +kernel)
theorem vl_Wa_leadBy : VL yX9_leadBy := ⟨mw745, mw50⟩
set_option maxRecDepth 20000 in
theorem mt260 : Cond.fieldLinkNest "Datalogmill$Mill" (84 : Nat) "Datalogmill$Body" "count" "I" "Datalogmill" ∈ lw_tbl := List.mem_of_getElem? (i := 260) (by rfl)
theorem flX4_84 : FL RX4 84 TA 1 0 := ⟨RX0, TX0, 6, rfl, ⟨by decide, by decide, by decide⟩, inWX0, Or.inr ⟨_, mt260⟩⟩
set_option maxRecDepth 20000 in
theorem mt742 : Cond.methodLinkNest "Datalogmill$Mill" (89 : Nat) ({ cls := "Datalogmill$Walk", name := "begin", desc := "(LDatalogmill$Body;LDatalogmill$Model;I)V" } : MethodName) "Datalogmill" ∈ lw_tbl := List.mem_of_getElem? (i := 742) (by rfl)
theorem lkX4_89 : LK "Datalogmill$Mill" 89 yX9_begin := Or.inr ⟨_, mt742⟩
set_option maxRecDepth 20000 in
theorem mw736 : Cond.methodLink "Datalogmill$Mill" (85 : Nat) ({ cls := "Datalogmill$Mill", name := "isLead", desc := "(LDatalogmill$Body;II)Z" } : MethodName) ∈ GW := inGW (List.mem_of_getElem? (i := 736) (by rfl)) (by decide +kernel)
theorem lkX4_85 : LK "Datalogmill$Mill" 85 yX4_isLead := Or.inl mw736
set_option maxRecDepth 20000 in
theorem mw739 : Cond.code yX4_isLead cX4_isLead 4 (some .boolean) ∈ GW := inGW (List.mem_of_getElem? (i := 739) (by rfl)) (by decide +kernel)
theorem ml_Mi_isLead : ML yX4_isLead cX4_isLead 4 (some .boolean) 3 := ⟨mw739, mw170, by decide +kernel, by decide +kernel, by decide +kernel⟩
set_option maxRecDepth 20000 in
theorem mw738 : Cond.instanceMethod ({ cls := "Datalogmill$Mill", name := "isLead", desc := "(LDatalogmill$Body;II)Z" } : MethodName) ∈ GW := inGW (List.mem_of_getElem? (i := 738) (by rfl)) (by decide +kernel)
set_option maxRecDepth 20000 in
theorem mw49 : Cond.selects RX4 yX4_isLead yX4_isLead ∈ GW := inGW (List.mem_of_getElem? (i := 49) (by rfl)) (by decide +kernel)
theorem vl_Mi_isLead : VL yX4_isLead := ⟨mw738, mw49⟩
set_option maxRecDepth 20000 in
theorem mt294 : Cond.fieldLinkNest "Datalogmill$Mill" (69 : Nat) "Datalogmill$Program" "ruleCount" "I" "Datalogmill" ∈ lw_tbl := List.mem_of_getElem? (i := 294) (by rfl)
theorem flX4_69 : FL RX4 69 TA 8 4 := ⟨RX7, TX7, 8, rfl, ⟨by decide, by decide, by decide⟩, inWX7, Or.inr ⟨_, mt294⟩⟩
set_option maxRecDepth 20000 in
theorem mt732 : Cond.methodLinkNest "Datalogmill$Mill" (72 : Nat) ({ cls := "Datalogmill$Program", name := "rule", desc := "(I)LDatalogmill$Body;" } : MethodName) "Datalogmill" ∈ lw_tbl := List.mem_of_getElem? (i := 732) (by rfl)
theorem lkX4_72 : LK "Datalogmill$Mill" 72 yX7_rule := Or.inr ⟨_, mt732⟩
set_option maxRecDepth 20000 in
theorem mw735 : Cond.code yX7_rule cX7_rule 3 (some (.object "Datalogmill$Body")) ∈ GW := inGW (List.mem_of_getElem? (i := 735) (by rfl)) (by decide +kernel)
theorem ml_Pr_rule : ML yX7_rule cX7_rule 3 (some (.object "Datalogmill$Body")) 1 := ⟨mw735, mw166, by decide +kernel, by decide +kernel, by decide +kernel⟩
set_option maxRecDepth 20000 in
theorem mw734 : Cond.instanceMethod ({ cls := "Datalogmill$Program", name := "rule", desc := "(I)LDatalogmill$Body;" } : MethodName) ∈ GW := inGW (List.mem_of_getElem? (i := 734) (by rfl)) (by decide +kernel)
set_option maxRecDepth 20000 in
theorem mw48 : Cond.selects RX7 yX7_rule yX7_rule ∈ GW := inGW (List.mem_of_getElem? (i := 48) (by rfl)) (by decide +kernel)
theorem vl_Pr_rule : VL yX7_rule := ⟨mw734, mw48⟩
set_option maxRecDepth 20000 in
theorem mt268 : Cond.fieldLinkNest "Datalogmill$Mill" (76 : Nat) "Datalogmill$Body" "removed" "Z" "Datalogmill" ∈ lw_tbl := List.mem_of_getElem? (i := 268) (by rfl)
theorem flX4_76 : FL RX4 76 TA 1 2 := ⟨RX0, TX0, 6, rfl, ⟨by decide, by decide, by decide⟩, inWX0, Or.inr ⟨_, mt268⟩⟩
theorem rl10000 : R32 (10000) := ⟨by decide, by decide⟩
set_option maxRecDepth 20000 in
theorem mw728 : Cond.methodLink "Datalogmill$Mill" (38 : Nat) ({ cls := "Datalogmill$Mill", name := "sweep", desc := "(LDatalogmill$Model;IIZ)Z" } : MethodName) ∈ GW := inGW (List.mem_of_getElem? (i := 728) (by rfl)) (by decide +kernel)
theorem lkX4_38 : LK "Datalogmill$Mill" 38 yX4_sweep := Or.inl mw728
set_option maxRecDepth 20000 in
theorem mw731 : Cond.code yX4_sweep cX4_sweep 12 (some .boolean) ∈ GW := inGW (List.mem_of_getElem? (i := 731) (by rfl)) (by decide +kernel)
theorem ml_Mi_sweep : ML yX4_sweep cX4_sweep 12 (some .boolean) 4 := ⟨mw731, mw170, by decide +kernel, by decide +kernel, by decide +kernel⟩
set_option maxRecDepth 20000 in
theorem mw730 : Cond.instanceMethod ({ cls := "Datalogmill$Mill", name := "sweep", desc := "(LDatalogmill$Model;IIZ)Z" } : MethodName) ∈ GW := inGW (List.mem_of_getElem? (i := 730) (by rfl)) (by decide +kernel)
set_option maxRecDepth 20000 in
theorem mw47 : Cond.selects RX4 yX4_sweep yX4_sweep ∈ GW := inGW (List.mem_of_getElem? (i := 47) (by rfl)) (by decide +kernel)
theorem vl_Mi_sweep : VL yX4_sweep := ⟨mw730, mw47⟩
set_option maxRecDepth 20000 in
theorem mt299 : Cond.fieldLinkNest "Datalogmill$Mill" (28 : Nat) "Datalogmill$Program" "top" "I" "Datalogmill" ∈ lw_tbl := List.mem_of_getElem? (i := 299) (by rfl)
theorem flX4_28 : FL RX4 28 TA 8 7 := ⟨RX7, TX7, 8, rfl, ⟨by decide, by decide, by decide⟩, inWX7, Or.inr ⟨_, mt299⟩⟩
set_option maxRecDepth 20000 in
theorem mw691 : Cond.methodLink "Datalogmill$Mill" (34 : Nat) ({ cls := "Datalogmill$Mill", name := "load", desc := "(LDatalogmill$Model;III)V" } : MethodName) ∈ GW := inGW (List.mem_of_getElem? (i := 691) (by rfl)) (by decide +kernel)
theorem lkX4_34 : LK "Datalogmill$Mill" 34 yX4_load := Or.inl mw691
set_option maxRecDepth 20000 in
theorem mw694 : Cond.code yX4_load cX4_load 7 none ∈ GW := inGW (List.mem_of_getElem? (i := 694) (by rfl)) (by decide +kernel)
theorem ml_Mi_load : ML yX4_load cX4_load 7 none 4 := ⟨mw694, mw170, by decide +kernel, by decide +kernel, by decide +kernel⟩
set_option maxRecDepth 20000 in
theorem mw693 : Cond.instanceMethod ({ cls := "Datalogmill$Mill", name := "load", desc := "(LDatalogmill$Model;III)V" } : MethodName) ∈ GW := inGW (List.mem_of_getElem? (i := 693) (by rfl)) (by decide +kernel)
set_option maxRecDepth 20000 in
theorem mw39 : Cond.selects RX4 yX4_load yX4_load ∈ GW := inGW (List.mem_of_getElem? (i := 39) (by rfl)) (by decide +kernel)
theorem vl_Mi_load : VL yX4_load := ⟨mw693, mw39⟩
set_option maxRecDepth 20000 in
theorem mt687 : Cond.methodLinkNest "Datalogmill$Mill" (23 : Nat) ({ cls := "Datalogmill$Model", name := "reset", desc := "()V" } : MethodName) "Datalogmill" ∈ lw_tbl := List.mem_of_getElem? (i := 687) (by rfl)
theorem lkX4_23 : LK "Datalogmill$Mill" 23 yX5_reset := Or.inr ⟨_, mt687⟩
set_option maxRecDepth 20000 in
theorem mw690 : Cond.code yX5_reset cX5_reset 2 none ∈ GW := inGW (List.mem_of_getElem? (i := 690) (by rfl)) (by decide +kernel)
theorem ml_Mo_reset : ML yX5_reset cX5_reset 2 none 0 := ⟨mw690, mw168, by decide +kernel, by decide +kernel, by decide +kernel⟩
set_option maxRecDepth 20000 in
theorem mw689 : Cond.instanceMethod ({ cls := "Datalogmill$Model", name := "reset", desc := "()V" } : MethodName) ∈ GW := inGW (List.mem_of_getElem? (i := 689) (by rfl)) (by decide +kernel)
set_option maxRecDepth 20000 in
theorem mw38 : Cond.selects RX5 yX5_reset yX5_reset ∈ GW := inGW (List.mem_of_getElem? (i := 38) (by rfl)) (by decide +kernel)
theorem vl_Mo_reset : VL yX5_reset := ⟨mw689, mw38⟩
theorem flX10_60 : FL RX10 60 TA 11 8 := ⟨RX10, TX10, 13, rfl, ⟨by decide, by decide, by decide⟩, inWX10, Or.inl mw461⟩
set_option maxRecDepth 20000 in
theorem mt683 : Cond.methodLinkNest "Datalogmill" (275 : Nat) ({ cls := "Datalogmill$Mill", name := "build", desc := "(LDatalogmill$Model;IIZ)V" } : MethodName) "Datalogmill" ∈ lw_tbl := List.mem_of_getElem? (i := 683) (by rfl)
theorem lkX10_275 : LK "Datalogmill" 275 yX4_build := Or.inr ⟨_, mt683⟩
set_option maxRecDepth 20000 in
theorem mw686 : Cond.code yX4_build cX4_build 9 none ∈ GW := inGW (List.mem_of_getElem? (i := 686) (by rfl)) (by decide +kernel)
theorem ml_Mi_build : ML yX4_build cX4_build 9 none 4 := ⟨mw686, mw170, by decide +kernel, by decide +kernel, by decide +kernel⟩
set_option maxRecDepth 20000 in
theorem mw685 : Cond.instanceMethod ({ cls := "Datalogmill$Mill", name := "build", desc := "(LDatalogmill$Model;IIZ)V" } : MethodName) ∈ GW := inGW (List.mem_of_getElem? (i := 685) (by rfl)) (by decide +kernel)
set_option maxRecDepth 20000 in
theorem mw37 : Cond.selects RX4 yX4_build yX4_build ∈ GW := inGW (List.mem_of_getElem? (i := 37) (by rfl)) (by decide +kernel)
theorem vl_Mi_build : VL yX4_build := ⟨mw685, mw37⟩
set_option maxRecDepth 20000 in
theorem mt330 : Cond.fieldLinkNest "Datalogmill" (312 : Nat) "Datalogmill$Model" "over" "Z" "Datalogmill" ∈ lw_tbl := List.mem_of_getElem? (i := 330) (by rfl)
theorem flX10_312 : FL RX10 312 TA 6 2 := ⟨RX5, TX5, 7, rfl, ⟨by decide, by decide, by decide⟩, inWX5, Or.inr ⟨_, mt330⟩⟩
theorem flX10_35 : FL RX10 35 TA 11 1 := ⟨RX10, TX10, 13, rfl, ⟨by decide, by decide, by decide⟩, inWX10, Or.inl mw454⟩
set_option maxRecDepth 20000 in
theorem mt671 : Cond.methodLinkNest "Datalogmill" (309 : Nat) ({ cls := "Datalogmill$Facts", name := "holdsIn", desc := "(II)Z" } : MethodName) "Datalogmill" ∈ lw_tbl := List.mem_of_getElem? (i := 671) (by rfl)
theorem lkX10_309 : LK "Datalogmill" 309 yX2_holdsIn := Or.inr ⟨_, mt671⟩
set_option maxRecDepth 20000 in
theorem mw679 : Cond.methodLink "Datalogmill" (327 : Nat) ({ cls := "Datalogmill", name := "mends", desc := "(I)Z" } : MethodName) ∈ GW := inGW (List.mem_of_getElem? (i := 679) (by rfl)) (by decide +kernel)
theorem lkX10_327 : LK "Datalogmill" 327 yX10_mends := Or.inl mw679
set_option maxRecDepth 20000 in
theorem mw682 : Cond.code yX10_mends cX10_mends 2 (some .boolean) ∈ GW := inGW (List.mem_of_getElem? (i := 682) (by rfl)) (by decide +kernel)
theorem ml_Dm_mends : ML yX10_mends cX10_mends 2 (some .boolean) 1 := ⟨mw682, mw163, by decide +kernel, by decide +kernel, by decide +kernel⟩
set_option maxRecDepth 20000 in
theorem mw681 : Cond.instanceMethod ({ cls := "Datalogmill", name := "mends", desc := "(I)Z" } : MethodName) ∈ GW := inGW (List.mem_of_getElem? (i := 681) (by rfl)) (by decide +kernel)
set_option maxRecDepth 20000 in
theorem mw36 : Cond.selects RX10 yX10_mends yX10_mends ∈ GW := inGW (List.mem_of_getElem? (i := 36) (by rfl)) (by decide +kernel)
theorem vl_Dm_mends : VL yX10_mends := ⟨mw681, mw36⟩
set_option maxRecDepth 20000 in
theorem mt219 : Cond.fieldLinkNest "Datalogmill" (129 : Nat) "Datalogmill$Facts" "count" "I" "Datalogmill" ∈ lw_tbl := List.mem_of_getElem? (i := 219) (by rfl)
theorem flX10_129 : FL RX10 129 TA 3 0 := ⟨RX2, TX2, 8, rfl, ⟨by decide, by decide, by decide⟩, inWX2, Or.inr ⟨_, mt219⟩⟩
theorem rlm9 : R32 (-9) := ⟨by decide, by decide⟩
set_option maxRecDepth 20000 in
theorem mw888 : Cond.methodLink "Datalogmill" (369 : Nat) ({ cls := "Datalogmill", name := "isValue", desc := "(I)Z" } : MethodName) ∈ GW := inGW (List.mem_of_getElem? (i := 888) (by rfl)) (by decide +kernel)
theorem lkX10_369 : LK "Datalogmill" 369 yX10_isValue := Or.inl mw888
set_option maxRecDepth 20000 in
theorem mw890 : Cond.code yX10_isValue cX10_isValue 1 (some .boolean) ∈ GW := inGW (List.mem_of_getElem? (i := 890) (by rfl)) (by decide +kernel)
theorem ml_Dm_isValue : ML yX10_isValue cX10_isValue 1 (some .boolean) 1 := ⟨mw890, mw163, by decide +kernel, by decide +kernel, by decide +kernel⟩
set_option maxRecDepth 20000 in
theorem mw889 : Cond.static ({ cls := "Datalogmill", name := "isValue", desc := "(I)Z" } : MethodName) ∈ GW := inGW (List.mem_of_getElem? (i := 889) (by rfl)) (by decide +kernel)
set_option maxRecDepth 20000 in
theorem mw891 : Cond.methodLink "Datalogmill" (200 : Nat) ({ cls := "Datalogmill", name := "isTerm", desc := "(I)Z" } : MethodName) ∈ GW := inGW (List.mem_of_getElem? (i := 891) (by rfl)) (by decide +kernel)
theorem lkX10_200 : LK "Datalogmill" 200 yX10_isTerm := Or.inl mw891
set_option maxRecDepth 20000 in
theorem mw893 : Cond.code yX10_isTerm cX10_isTerm 1 (some .boolean) ∈ GW := inGW (List.mem_of_getElem? (i := 893) (by rfl)) (by decide +kernel)
theorem ml_Dm_isTerm : ML yX10_isTerm cX10_isTerm 1 (some .boolean) 1 := ⟨mw893, mw163, by decide +kernel, by decide +kernel, by decide +kernel⟩
set_option maxRecDepth 20000 in
theorem mw892 : Cond.static ({ cls := "Datalogmill", name := "isTerm", desc := "(I)Z" } : MethodName) ∈ GW := inGW (List.mem_of_getElem? (i := 892) (by rfl)) (by decide +kernel)
set_option maxRecDepth 20000 in
theorem mt884 : Cond.methodLinkNest "Datalogmill$Schema" (40 : Nat) ({ cls := "Datalogmill", name := "picked", desc := "(IIII)I" } : MethodName) "Datalogmill" ∈ lw_tbl := List.mem_of_getElem? (i := 884) (by rfl)
theorem lkX8_40 : LK "Datalogmill$Schema" 40 yX10_picked := Or.inr ⟨_, mt884⟩
set_option maxRecDepth 20000 in
theorem mt885 : Cond.methodLinkNest "Datalogmill$Schema" (44 : Nat) ({ cls := "Datalogmill", name := "isPermitted", desc := "(II)Z" } : MethodName) "Datalogmill" ∈ lw_tbl := List.mem_of_getElem? (i := 885) (by rfl)
theorem lkX8_44 : LK "Datalogmill$Schema" 44 yX10_isPermitted := Or.inr ⟨_, mt885⟩
set_option maxRecDepth 20000 in
theorem mw887 : Cond.code yX10_isPermitted cX10_isPermitted 2 (some .boolean) ∈ GW := inGW (List.mem_of_getElem? (i := 887) (by rfl)) (by decide +kernel)
theorem ml_Dm_isPermitted : ML yX10_isPermitted cX10_isPermitted 2 (some .boolean) 2 := ⟨mw887, mw163, by decide +kernel, by decide +kernel, by decide +kernel⟩
set_option maxRecDepth 20000 in
theorem mw886 : Cond.static ({ cls := "Datalogmill", name := "isPermitted", desc := "(II)Z" } : MethodName) ∈ GW := inGW (List.mem_of_getElem? (i := 886) (by rfl)) (by decide +kernel)
set_option maxRecDepth 20000 in
theorem mt880 : Cond.methodLinkNest "Datalogmill" (123 : Nat) ({ cls := "Datalogmill$Schema", name := "permits", desc := "(IIIII)Z" } : MethodName) "Datalogmill" ∈ lw_tbl := List.mem_of_getElem? (i := 880) (by rfl)
theorem lkX10_123 : LK "Datalogmill" 123 yX8_permits := Or.inr ⟨_, mt880⟩
set_option maxRecDepth 20000 in
theorem mw883 : Cond.code yX8_permits cX8_permits 9 (some .boolean) ∈ GW := inGW (List.mem_of_getElem? (i := 883) (by rfl)) (by decide +kernel)
theorem ml_Sc_permits : ML yX8_permits cX8_permits 9 (some .boolean) 5 := ⟨mw883, mw164, by decide +kernel, by decide +kernel, by decide +kernel⟩
set_option maxRecDepth 20000 in
theorem mw882 : Cond.instanceMethod ({ cls := "Datalogmill$Schema", name := "permits", desc := "(IIIII)Z" } : MethodName) ∈ GW := inGW (List.mem_of_getElem? (i := 882) (by rfl)) (by decide +kernel)
set_option maxRecDepth 20000 in
theorem mw54 : Cond.selects RX8 yX8_permits yX8_permits ∈ GW := inGW (List.mem_of_getElem? (i := 54) (by rfl)) (by decide +kernel)
theorem vl_Sc_permits : VL yX8_permits := ⟨mw882, mw54⟩
set_option maxRecDepth 20000 in
theorem mw896 : Cond.methodLink "Datalogmill" (135 : Nat) ({ cls := "Datalogmill", name := "packed", desc := "(III)I" } : MethodName) ∈ GW := inGW (List.mem_of_getElem? (i := 896) (by rfl)) (by decide +kernel)
theorem lkX10_135 : LK "Datalogmill" 135 yX10_packed := Or.inl mw896
set_option maxRecDepth 20000 in
theorem mt1110 : Cond.methodLinkNest "Datalogmill" (372 : Nat) ({ cls := "Datalogmill$Model", name := "has", desc := "(II)Z" } : MethodName) "Datalogmill" ∈ lw_tbl := List.mem_of_getElem? (i := 1110) (by rfl)
theorem lkX10_372 : LK "Datalogmill" 372 yX5_has := Or.inr ⟨_, mt1110⟩
set_option maxRecDepth 20000 in
theorem mw1113 : Cond.code yX5_has cX5_has 4 (some .boolean) ∈ GW := inGW (List.mem_of_getElem? (i := 1113) (by rfl)) (by decide +kernel)
theorem ml_Mo_has : ML yX5_has cX5_has 4 (some .boolean) 2 := ⟨mw1113, mw168, by decide +kernel, by decide +kernel, by decide +kernel⟩
set_option maxRecDepth 20000 in
theorem mw1112 : Cond.instanceMethod ({ cls := "Datalogmill$Model", name := "has", desc := "(II)Z" } : MethodName) ∈ GW := inGW (List.mem_of_getElem? (i := 1112) (by rfl)) (by decide +kernel)
set_option maxRecDepth 20000 in
theorem mw82 : Cond.selects RX5 yX5_has yX5_has ∈ GW := inGW (List.mem_of_getElem? (i := 82) (by rfl)) (by decide +kernel)
theorem vl_Mo_has : VL yX5_has := ⟨mw1112, mw82⟩
theorem flX10_74 : FL RX10 74 TA 11 9 := ⟨RX10, TX10, 13, rfl, ⟨by decide, by decide, by decide⟩, inWX10, Or.inl mw462⟩
set_option maxRecDepth 20000 in
theorem mt413 : Cond.fieldLinkNest "Datalogmill" (178 : Nat) "Datalogmill$Costs" "known" "Z" "Datalogmill" ∈ lw_tbl := List.mem_of_getElem? (i := 413) (by rfl)
theorem fpX10_178 : FP RX10 178 TA 2 0 .boolean := ⟨RX1, TX1, 2, rfl, ⟨by decide, by decide, by decide⟩, inWX1, Or.inr ⟨_, mt413⟩, ⟨tyX1, tyX1_ok, rfl⟩, nmX1, rfl⟩
set_option maxRecDepth 20000 in
theorem mw905 : Cond.methodLink "Datalogmill" (375 : Nat) ({ cls := "Datalogmill", name := "spareOf", desc := "(I)LDatalogmill$Model;" } : MethodName) ∈ GW := inGW (List.mem_of_getElem? (i := 905) (by rfl)) (by decide +kernel)
theorem lkX10_375 : LK "Datalogmill" 375 yX10_spareOf := Or.inl mw905
set_option maxRecDepth 20000 in
theorem mw908 : Cond.code yX10_spareOf cX10_spareOf 3 (some (.object "Datalogmill$Model")) ∈ GW := inGW (List.mem_of_getElem? (i := 908) (by rfl)) (by decide +kernel)
theorem ml_Dm_spareOf : ML yX10_spareOf cX10_spareOf 3 (some (.object "Datalogmill$Model")) 1 := ⟨mw908, mw163, by decide +kernel, by decide +kernel, by decide +kernel⟩
set_option maxRecDepth 20000 in
theorem mw907 : Cond.instanceMethod ({ cls := "Datalogmill", name := "spareOf", desc := "(I)LDatalogmill$Model;" } : MethodName) ∈ GW := inGW (List.mem_of_getElem? (i := 907) (by rfl)) (by decide +kernel)
set_option maxRecDepth 20000 in
theorem mw57 : Cond.selects RX10 yX10_spareOf yX10_spareOf ∈ GW := inGW (List.mem_of_getElem? (i := 57) (by rfl)) (by decide +kernel)
theorem vl_Dm_spareOf : VL yX10_spareOf := ⟨mw907, mw57⟩
set_option maxRecDepth 20000 in
theorem mw909 : Cond.methodLink "Datalogmill" 378 Lib.Math.max.name ∈ GW := inGW (List.mem_of_getElem? (i := 909) (by rfl)) (by decide +kernel)
set_option maxRecDepth 20000 in
theorem mt1173 : Cond.methodLinkNest "Datalogmill" (383 : Nat) ({ cls := "Datalogmill$Facts", name := "relationOf", desc := "(I)I" } : MethodName) "Datalogmill" ∈ lw_tbl := List.mem_of_getElem? (i := 1173) (by rfl)
theorem lkX10_383 : LK "Datalogmill" 383 yX2_relationOf := Or.inr ⟨_, mt1173⟩
set_option maxRecDepth 20000 in
theorem mt1174 : Cond.methodLinkNest "Datalogmill" (386 : Nat) ({ cls := "Datalogmill$Facts", name := "codeOf", desc := "(I)I" } : MethodName) "Datalogmill" ∈ lw_tbl := List.mem_of_getElem? (i := 1174) (by rfl)
theorem lkX10_386 : LK "Datalogmill" 386 yX2_codeOf := Or.inr ⟨_, mt1174⟩
set_option maxRecDepth 20000 in
theorem mt1172 : Cond.methodLinkNest "Datalogmill" (303 : Nat) ({ cls := "Datalogmill$Model", name := "slotLike", desc := "(II)I" } : MethodName) "Datalogmill" ∈ lw_tbl := List.mem_of_getElem? (i := 1172) (by rfl)
theorem lkX10_303 : LK "Datalogmill" 303 yX5_slotLike := Or.inr ⟨_, mt1172⟩
set_option maxRecDepth 20000 in
theorem mw1187 : Cond.methodLink "Datalogmill$Schema" (37 : Nat) ({ cls := "Datalogmill$Schema", name := "tellingColumns", desc := "(I)I" } : MethodName) ∈ GW := inGW (List.mem_of_getElem? (i := 1187) (by rfl)) (by decide +kernel)
theorem lkX8_37 : LK "Datalogmill$Schema" 37 yX8_tellingColumns := Or.inl mw1187
set_option maxRecDepth 20000 in
theorem mw1190 : Cond.code yX8_tellingColumns cX8_tellingColumns 2 (some .int) ∈ GW := inGW (List.mem_of_getElem? (i := 1190) (by rfl)) (by decide +kernel)
theorem ml_Sc_tellingColumns : ML yX8_tellingColumns cX8_tellingColumns 2 (some .int) 1 := ⟨mw1190, mw164, by decide +kernel, by decide +kernel, by decide +kernel⟩
set_option maxRecDepth 20000 in
theorem mw1189 : Cond.instanceMethod ({ cls := "Datalogmill$Schema", name := "tellingColumns", desc := "(I)I" } : MethodName) ∈ GW := inGW (List.mem_of_getElem? (i := 1189) (by rfl)) (by decide +kernel)
set_option maxRecDepth 20000 in
theorem mw89 : Cond.selects RX8 yX8_tellingColumns yX8_tellingColumns ∈ GW := inGW (List.mem_of_getElem? (i := 89) (by rfl)) (by decide +kernel)
theorem vl_Sc_tellingColumns : VL yX8_tellingColumns := ⟨mw1189, mw89⟩
set_option maxRecDepth 20000 in
theorem mt271 : Cond.fieldLinkNest "Datalogmill" (253 : Nat) "Datalogmill$Body" "removed" "Z" "Datalogmill" ∈ lw_tbl := List.mem_of_getElem? (i := 271) (by rfl)
theorem flX10_253 : FL RX10 253 TA 1 2 := ⟨RX0, TX0, 6, rfl, ⟨by decide, by decide, by decide⟩, inWX0, Or.inr ⟨_, mt271⟩⟩
set_option maxRecDepth 20000 in
theorem mt267 : Cond.fieldLinkNest "Datalogmill" (208 : Nat) "Datalogmill$Body" "target" "I" "Datalogmill" ∈ lw_tbl := List.mem_of_getElem? (i := 267) (by rfl)
theorem flX10_208 : FL RX10 208 TA 1 1 := ⟨RX0, TX0, 6, rfl, ⟨by decide, by decide, by decide⟩, inWX0, Or.inr ⟨_, mt267⟩⟩
set_option maxRecDepth 20000 in
theorem mt1183 : Cond.methodLinkNest "Datalogmill" (399 : Nat) ({ cls := "Datalogmill$Schema", name := "tellingSet", desc := "(I)I" } : MethodName) "Datalogmill" ∈ lw_tbl := List.mem_of_getElem? (i := 1183) (by rfl)
theorem lkX10_399 : LK "Datalogmill" 399 yX8_tellingSet := Or.inr ⟨_, mt1183⟩
set_option maxRecDepth 20000 in
theorem mw1186 : Cond.code yX8_tellingSet cX8_tellingSet 2 (some .int) ∈ GW := inGW (List.mem_of_getElem? (i := 1186) (by rfl)) (by decide +kernel)
theorem ml_Sc_tellingSet : ML yX8_tellingSet cX8_tellingSet 2 (some .int) 1 := ⟨mw1186, mw164, by decide +kernel, by decide +kernel, by decide +kernel⟩
set_option maxRecDepth 20000 in
theorem mw1185 : Cond.instanceMethod ({ cls := "Datalogmill$Schema", name := "tellingSet", desc := "(I)I" } : MethodName) ∈ GW := inGW (List.mem_of_getElem? (i := 1185) (by rfl)) (by decide +kernel)
set_option maxRecDepth 20000 in
theorem mw88 : Cond.selects RX8 yX8_tellingSet yX8_tellingSet ∈ GW := inGW (List.mem_of_getElem? (i := 88) (by rfl)) (by decide +kernel)
theorem vl_Sc_tellingSet : VL yX8_tellingSet := ⟨mw1185, mw88⟩
set_option maxRecDepth 20000 in
theorem mt1191 : Cond.methodLinkNest "Datalogmill" (402 : Nat) ({ cls := "Datalogmill$Walk", name := "pose", desc := "(II)Z" } : MethodName) "Datalogmill" ∈ lw_tbl := List.mem_of_getElem? (i := 1191) (by rfl)
theorem lkX10_402 : LK "Datalogmill" 402 yX9_pose := Or.inr ⟨_, mt1191⟩
set_option maxRecDepth 20000 in
theorem mw1194 : Cond.code yX9_pose cX9_pose 6 (some .boolean) ∈ GW := inGW (List.mem_of_getElem? (i := 1194) (by rfl)) (by decide +kernel)
theorem ml_Wa_pose : ML yX9_pose cX9_pose 6 (some .boolean) 2 := ⟨mw1194, mw169, by decide +kernel, by decide +kernel, by decide +kernel⟩
set_option maxRecDepth 20000 in
theorem mw1193 : Cond.instanceMethod ({ cls := "Datalogmill$Walk", name := "pose", desc := "(II)Z" } : MethodName) ∈ GW := inGW (List.mem_of_getElem? (i := 1193) (by rfl)) (by decide +kernel)
set_option maxRecDepth 20000 in
theorem mw90 : Cond.selects RX9 yX9_pose yX9_pose ∈ GW := inGW (List.mem_of_getElem? (i := 90) (by rfl)) (by decide +kernel)
theorem vl_Wa_pose : VL yX9_pose := ⟨mw1193, mw90⟩
set_option maxRecDepth 20000 in
theorem mw1195 : Cond.constant "Datalogmill" (391 : Nat) (10000000 : Int32) ∈ GW := inGW (List.mem_of_getElem? (i := 1195) (by rfl)) (by decide +kernel)
theorem kcX10_391 : Cond.constant RX10 391 (ii (10000000)) ∈ GW := by
  rw [show ii (10000000) = (10000000 : Int32) by decide]
  exact mw1195
set_option maxRecDepth 20000 in
theorem mt295 : Cond.fieldLinkNest "Datalogmill" (217 : Nat) "Datalogmill$Program" "ruleCount" "I" "Datalogmill" ∈ lw_tbl := List.mem_of_getElem? (i := 295) (by rfl)
theorem flX10_217 : FL RX10 217 TA 8 4 := ⟨RX7, TX7, 8, rfl, ⟨by decide, by decide, by decide⟩, inWX7, Or.inr ⟨_, mt295⟩⟩
set_option maxRecDepth 20000 in
theorem mt1093 : Cond.methodLinkNest "Datalogmill" (249 : Nat) ({ cls := "Datalogmill$Program", name := "rule", desc := "(I)LDatalogmill$Body;" } : MethodName) "Datalogmill" ∈ lw_tbl := List.mem_of_getElem? (i := 1093) (by rfl)
theorem lkX10_249 : LK "Datalogmill" 249 yX7_rule := Or.inr ⟨_, mt1093⟩
set_option maxRecDepth 20000 in
theorem mw1179 : Cond.methodLink "Datalogmill" (387 : Nat) ({ cls := "Datalogmill", name := "canGive", desc := "(LDatalogmill$Body;III)Z" } : MethodName) ∈ GW := inGW (List.mem_of_getElem? (i := 1179) (by rfl)) (by decide +kernel)
theorem lkX10_387 : LK "Datalogmill" 387 yX10_canGive := Or.inl mw1179
set_option maxRecDepth 20000 in
theorem mw1182 : Cond.code yX10_canGive cX10_canGive 5 (some .boolean) ∈ GW := inGW (List.mem_of_getElem? (i := 1182) (by rfl)) (by decide +kernel)
theorem ml_Dm_canGive : ML yX10_canGive cX10_canGive 5 (some .boolean) 4 := ⟨mw1182, mw163, by decide +kernel, by decide +kernel, by decide +kernel⟩
set_option maxRecDepth 20000 in
theorem mw1181 : Cond.instanceMethod ({ cls := "Datalogmill", name := "canGive", desc := "(LDatalogmill$Body;III)Z" } : MethodName) ∈ GW := inGW (List.mem_of_getElem? (i := 1181) (by rfl)) (by decide +kernel)
set_option maxRecDepth 20000 in
theorem mw87 : Cond.selects RX10 yX10_canGive yX10_canGive ∈ GW := inGW (List.mem_of_getElem? (i := 87) (by rfl)) (by decide +kernel)
theorem vl_Dm_canGive : VL yX10_canGive := ⟨mw1181, mw87⟩
theorem flX1_9 : FL RX1 9 TA 2 1 := ⟨RX1, TX1, 2, rfl, ⟨by decide, by decide, by decide⟩, inWX1, Or.inl mw414⟩
set_option maxRecDepth 20000 in
theorem mw1211 : Cond.constant "Datalogmill$Costs" (15 : Nat) (1000000 : Int32) ∈ GW := inGW (List.mem_of_getElem? (i := 1211) (by rfl)) (by decide +kernel)
theorem kcX1_15 : Cond.constant RX1 15 (ii (1000000)) ∈ GW := by
  rw [show ii (1000000) = (1000000 : Int32) by decide]
  exact mw1211
theorem rl1000000 : R32 (1000000) := ⟨by decide, by decide⟩
set_option maxRecDepth 20000 in
theorem mw1216 : Cond.constant "Datalogmill$Facts" (42 : Nat) (1000000 : Int32) ∈ GW := inGW (List.mem_of_getElem? (i := 1216) (by rfl)) (by decide +kernel)
theorem kcX2_42 : Cond.constant RX2 42 (ii (1000000)) ∈ GW := by
  rw [show ii (1000000) = (1000000 : Int32) by decide]
  exact mw1216
theorem flX2_18 : FL RX2 18 TA 3 4 := ⟨RX2, TX2, 8, rfl, ⟨by decide, by decide, by decide⟩, inWX2, Or.inl mw224⟩
set_option maxRecDepth 20000 in
theorem mt263 : Cond.fieldLinkNest "Datalogmill$Walk" (149 : Nat) "Datalogmill$Body" "count" "I" "Datalogmill" ∈ lw_tbl := List.mem_of_getElem? (i := 263) (by rfl)
theorem flX9_149 : FL RX9 149 TA 1 0 := ⟨RX0, TX0, 6, rfl, ⟨by decide, by decide, by decide⟩, inWX0, Or.inr ⟨_, mt263⟩⟩
set_option maxRecDepth 20000 in
theorem mt1230 : Cond.methodLinkNest "Datalogmill$Walk" (152 : Nat) ({ cls := "Datalogmill$Costs", name := "costOf", desc := "(I)I" } : MethodName) "Datalogmill" ∈ lw_tbl := List.mem_of_getElem? (i := 1230) (by rfl)
theorem lkX9_152 : LK "Datalogmill$Walk" 152 yX1_costOf := Or.inr ⟨_, mt1230⟩
set_option maxRecDepth 20000 in
theorem mw1233 : Cond.code yX1_costOf cX1_costOf 2 (some .int) ∈ GW := inGW (List.mem_of_getElem? (i := 1233) (by rfl)) (by decide +kernel)
theorem ml_Co_costOf : ML yX1_costOf cX1_costOf 2 (some .int) 1 := ⟨mw1233, mw171, by decide +kernel, by decide +kernel, by decide +kernel⟩
set_option maxRecDepth 20000 in
theorem mw1232 : Cond.instanceMethod ({ cls := "Datalogmill$Costs", name := "costOf", desc := "(I)I" } : MethodName) ∈ GW := inGW (List.mem_of_getElem? (i := 1232) (by rfl)) (by decide +kernel)
set_option maxRecDepth 20000 in
theorem mw97 : Cond.selects RX1 yX1_costOf yX1_costOf ∈ GW := inGW (List.mem_of_getElem? (i := 97) (by rfl)) (by decide +kernel)
theorem vl_Co_costOf : VL yX1_costOf := ⟨mw1232, mw97⟩
set_option maxRecDepth 20000 in
theorem mt1225 : Cond.methodLinkNest "Datalogmill" (415 : Nat) ({ cls := "Datalogmill$Walk", name := "tuple", desc := "(I)I" } : MethodName) "Datalogmill" ∈ lw_tbl := List.mem_of_getElem? (i := 1225) (by rfl)
theorem lkX10_415 : LK "Datalogmill" 415 yX9_tuple := Or.inr ⟨_, mt1225⟩
set_option maxRecDepth 20000 in
theorem mt1226 : Cond.methodLinkNest "Datalogmill" (418 : Nat) ({ cls := "Datalogmill$Walk", name := "cost", desc := "(LDatalogmill$Costs;)I" } : MethodName) "Datalogmill" ∈ lw_tbl := List.mem_of_getElem? (i := 1226) (by rfl)
theorem lkX10_418 : LK "Datalogmill" 418 yX9_cost := Or.inr ⟨_, mt1226⟩
set_option maxRecDepth 20000 in
theorem mw1229 : Cond.code yX9_cost cX9_cost 4 (some .int) ∈ GW := inGW (List.mem_of_getElem? (i := 1229) (by rfl)) (by decide +kernel)
theorem ml_Wa_cost : ML yX9_cost cX9_cost 4 (some .int) 1 := ⟨mw1229, mw169, by decide +kernel, by decide +kernel, by decide +kernel⟩
set_option maxRecDepth 20000 in
theorem mw1228 : Cond.instanceMethod ({ cls := "Datalogmill$Walk", name := "cost", desc := "(LDatalogmill$Costs;)I" } : MethodName) ∈ GW := inGW (List.mem_of_getElem? (i := 1228) (by rfl)) (by decide +kernel)
set_option maxRecDepth 20000 in
theorem mw96 : Cond.selects RX9 yX9_cost yX9_cost ∈ GW := inGW (List.mem_of_getElem? (i := 96) (by rfl)) (by decide +kernel)
theorem vl_Wa_cost : VL yX9_cost := ⟨mw1228, mw96⟩
set_option maxRecDepth 20000 in
theorem mt1217 : Cond.methodLinkNest "Datalogmill" (409 : Nat) ({ cls := "Datalogmill$Costs", name := "lower", desc := "(II)Z" } : MethodName) "Datalogmill" ∈ lw_tbl := List.mem_of_getElem? (i := 1217) (by rfl)
theorem lkX10_409 : LK "Datalogmill" 409 yX1_lower := Or.inr ⟨_, mt1217⟩
set_option maxRecDepth 20000 in
theorem mw1220 : Cond.code yX1_lower cX1_lower 3 (some .boolean) ∈ GW := inGW (List.mem_of_getElem? (i := 1220) (by rfl)) (by decide +kernel)
theorem ml_Co_lower : ML yX1_lower cX1_lower 3 (some .boolean) 2 := ⟨mw1220, mw171, by decide +kernel, by decide +kernel, by decide +kernel⟩
set_option maxRecDepth 20000 in
theorem mw1219 : Cond.instanceMethod ({ cls := "Datalogmill$Costs", name := "lower", desc := "(II)Z" } : MethodName) ∈ GW := inGW (List.mem_of_getElem? (i := 1219) (by rfl)) (by decide +kernel)
set_option maxRecDepth 20000 in
theorem mw94 : Cond.selects RX1 yX1_lower yX1_lower ∈ GW := inGW (List.mem_of_getElem? (i := 94) (by rfl)) (by decide +kernel)
theorem vl_Co_lower : VL yX1_lower := ⟨mw1219, mw94⟩
set_option maxRecDepth 20000 in
theorem mw1221 : Cond.methodLink "Datalogmill" (412 : Nat) ({ cls := "Datalogmill", name := "lowerByRules", desc := "()Z" } : MethodName) ∈ GW := inGW (List.mem_of_getElem? (i := 1221) (by rfl)) (by decide +kernel)
theorem lkX10_412 : LK "Datalogmill" 412 yX10_lowerByRules := Or.inl mw1221
set_option maxRecDepth 20000 in
theorem mw1224 : Cond.code yX10_lowerByRules cX10_lowerByRules 6 (some .boolean) ∈ GW := inGW (List.mem_of_getElem? (i := 1224) (by rfl)) (by decide +kernel)
theorem ml_Dm_lowerByRules : ML yX10_lowerByRules cX10_lowerByRules 6 (some .boolean) 0 := ⟨mw1224, mw163, by decide +kernel, by decide +kernel, by decide +kernel⟩
set_option maxRecDepth 20000 in
theorem mw1223 : Cond.instanceMethod ({ cls := "Datalogmill", name := "lowerByRules", desc := "()Z" } : MethodName) ∈ GW := inGW (List.mem_of_getElem? (i := 1223) (by rfl)) (by decide +kernel)
set_option maxRecDepth 20000 in
theorem mw95 : Cond.selects RX10 yX10_lowerByRules yX10_lowerByRules ∈ GW := inGW (List.mem_of_getElem? (i := 95) (by rfl)) (by decide +kernel)
theorem vl_Dm_lowerByRules : VL yX10_lowerByRules := ⟨mw1223, mw95⟩
set_option maxRecDepth 20000 in
theorem mt1212 : Cond.methodLinkNest "Datalogmill" (408 : Nat) ({ cls := "Datalogmill$Facts", name := "costOf", desc := "(I)I" } : MethodName) "Datalogmill" ∈ lw_tbl := List.mem_of_getElem? (i := 1212) (by rfl)
theorem lkX10_408 : LK "Datalogmill" 408 yX2_costOf := Or.inr ⟨_, mt1212⟩
set_option maxRecDepth 20000 in
theorem mw1215 : Cond.code yX2_costOf cX2_costOf 2 (some .int) ∈ GW := inGW (List.mem_of_getElem? (i := 1215) (by rfl)) (by decide +kernel)
theorem ml_Fa_costOf : ML yX2_costOf cX2_costOf 2 (some .int) 1 := ⟨mw1215, mw165, by decide +kernel, by decide +kernel, by decide +kernel⟩
set_option maxRecDepth 20000 in
theorem mw1214 : Cond.instanceMethod ({ cls := "Datalogmill$Facts", name := "costOf", desc := "(I)I" } : MethodName) ∈ GW := inGW (List.mem_of_getElem? (i := 1214) (by rfl)) (by decide +kernel)
set_option maxRecDepth 20000 in
theorem mw93 : Cond.selects RX2 yX2_costOf yX2_costOf ∈ GW := inGW (List.mem_of_getElem? (i := 93) (by rfl)) (by decide +kernel)
theorem vl_Fa_costOf : VL yX2_costOf := ⟨mw1214, mw93⟩
theorem flX10_178 : FL RX10 178 TA 2 0 := ⟨RX1, TX1, 2, rfl, ⟨by decide, by decide, by decide⟩, inWX1, Or.inr ⟨_, mt413⟩⟩
set_option maxRecDepth 20000 in
theorem mt1207 : Cond.methodLinkNest "Datalogmill" (405 : Nat) ({ cls := "Datalogmill$Costs", name := "reset", desc := "()V" } : MethodName) "Datalogmill" ∈ lw_tbl := List.mem_of_getElem? (i := 1207) (by rfl)
theorem lkX10_405 : LK "Datalogmill" 405 yX1_reset := Or.inr ⟨_, mt1207⟩
set_option maxRecDepth 20000 in
theorem mw1210 : Cond.code yX1_reset cX1_reset 2 none ∈ GW := inGW (List.mem_of_getElem? (i := 1210) (by rfl)) (by decide +kernel)
theorem ml_Co_reset : ML yX1_reset cX1_reset 2 none 0 := ⟨mw1210, mw171, by decide +kernel, by decide +kernel, by decide +kernel⟩
set_option maxRecDepth 20000 in
theorem mw1209 : Cond.instanceMethod ({ cls := "Datalogmill$Costs", name := "reset", desc := "()V" } : MethodName) ∈ GW := inGW (List.mem_of_getElem? (i := 1209) (by rfl)) (by decide +kernel)
set_option maxRecDepth 20000 in
theorem mw92 : Cond.selects RX1 yX1_reset yX1_reset ∈ GW := inGW (List.mem_of_getElem? (i := 92) (by rfl)) (by decide +kernel)
theorem vl_Co_reset : VL yX1_reset := ⟨mw1209, mw92⟩
set_option maxRecDepth 20000 in
theorem mw968 : Cond.methodLink "Datalogmill$Body" (46 : Nat) ({ cls := "Datalogmill$Body", name := "formOf", desc := "(I)I" } : MethodName) ∈ GW := inGW (List.mem_of_getElem? (i := 968) (by rfl)) (by decide +kernel)
theorem lkX0_46 : LK "Datalogmill$Body" 46 yX0_formOf := Or.inl mw968
theorem rl21 : R32 (21) := ⟨by decide, by decide⟩
set_option maxRecDepth 20000 in
theorem mt871 : Cond.methodLinkNest "Datalogmill$Schema" (24 : Nat) ({ cls := "Datalogmill", name := "shiftOf", desc := "(I)I" } : MethodName) "Datalogmill" ∈ lw_tbl := List.mem_of_getElem? (i := 871) (by rfl)
theorem lkX8_24 : LK "Datalogmill$Schema" 24 yX10_shiftOf := Or.inr ⟨_, mt871⟩
set_option maxRecDepth 20000 in
theorem mt1290 : Cond.methodLinkNest "Datalogmill$Walk" (145 : Nat) ({ cls := "Datalogmill$Schema", name := "goalOf", desc := "(IIII)I" } : MethodName) "Datalogmill" ∈ lw_tbl := List.mem_of_getElem? (i := 1290) (by rfl)
theorem lkX9_145 : LK "Datalogmill$Walk" 145 yX8_goalOf := Or.inr ⟨_, mt1290⟩
set_option maxRecDepth 20000 in
theorem mw1269 : Cond.code yX8_goalOf cX8_goalOf 9 (some .int) ∈ GW := inGW (List.mem_of_getElem? (i := 1269) (by rfl)) (by decide +kernel)
theorem ml_Sc_goalOf : ML yX8_goalOf cX8_goalOf 9 (some .int) 4 := ⟨mw1269, mw164, by decide +kernel, by decide +kernel, by decide +kernel⟩
set_option maxRecDepth 20000 in
theorem mw1268 : Cond.instanceMethod ({ cls := "Datalogmill$Schema", name := "goalOf", desc := "(IIII)I" } : MethodName) ∈ GW := inGW (List.mem_of_getElem? (i := 1268) (by rfl)) (by decide +kernel)
set_option maxRecDepth 20000 in
theorem mw100 : Cond.selects RX8 yX8_goalOf yX8_goalOf ∈ GW := inGW (List.mem_of_getElem? (i := 100) (by rfl)) (by decide +kernel)
theorem vl_Sc_goalOf : VL yX8_goalOf := ⟨mw1268, mw100⟩
theorem flX3_9 : FL RX3 9 TA 4 1 := ⟨RX3, TX3, 3, rfl, ⟨by decide, by decide, by decide⟩, inWX3, Or.inl mw428⟩
theorem flX3_15 : FL RX3 15 TA 4 2 := ⟨RX3, TX3, 3, rfl, ⟨by decide, by decide, by decide⟩, inWX3, Or.inl mw429⟩
set_option maxRecDepth 20000 in
theorem mw1275 : Cond.methodLink "Datalogmill$Goals" (23 : Nat) ({ cls := "Datalogmill$Goals", name := "goalAt", desc := "(I)I" } : MethodName) ∈ GW := inGW (List.mem_of_getElem? (i := 1275) (by rfl)) (by decide +kernel)
theorem lkX3_23 : LK "Datalogmill$Goals" 23 yX3_goalAt := Or.inl mw1275
set_option maxRecDepth 20000 in
theorem mw1278 : Cond.code yX3_goalAt cX3_goalAt 2 (some .int) ∈ GW := inGW (List.mem_of_getElem? (i := 1278) (by rfl)) (by decide +kernel)
theorem ml_Go_goalAt : ML yX3_goalAt cX3_goalAt 2 (some .int) 1 := ⟨mw1278, mw172, by decide +kernel, by decide +kernel, by decide +kernel⟩
set_option maxRecDepth 20000 in
theorem mw1277 : Cond.instanceMethod ({ cls := "Datalogmill$Goals", name := "goalAt", desc := "(I)I" } : MethodName) ∈ GW := inGW (List.mem_of_getElem? (i := 1277) (by rfl)) (by decide +kernel)
set_option maxRecDepth 20000 in
theorem mw102 : Cond.selects RX3 yX3_goalAt yX3_goalAt ∈ GW := inGW (List.mem_of_getElem? (i := 102) (by rfl)) (by decide +kernel)
theorem vl_Go_goalAt : VL yX3_goalAt := ⟨mw1277, mw102⟩
set_option maxRecDepth 20000 in
theorem mw426 : Cond.fieldLink "Datalogmill$Goals" (18 : Nat) "Datalogmill$Goals" "count" "I" ∈ GW := inGW (List.mem_of_getElem? (i := 426) (by rfl)) (by decide +kernel)
theorem flX3_18 : FL RX3 18 TA 4 0 := ⟨RX3, TX3, 3, rfl, ⟨by decide, by decide, by decide⟩, inWX3, Or.inl mw426⟩
theorem fpX3_18 : FP RX3 18 TA 4 0 .int := ⟨RX3, TX3, 3, rfl, ⟨by decide, by decide, by decide⟩, inWX3, Or.inl mw426, ⟨tyX3, tyX3_ok, rfl⟩, nmX3, rfl⟩
set_option maxRecDepth 20000 in
theorem mw1274 : Cond.constant "Datalogmill$Goals" (22 : Nat) (-1640531535 : Int32) ∈ GW := inGW (List.mem_of_getElem? (i := 1274) (by rfl)) (by decide +kernel)
theorem kcX3_22 : Cond.constant RX3 22 (ii (-1640531535)) ∈ GW := by
  rw [show ii (-1640531535) = (-1640531535 : Int32) by decide]
  exact mw1274
theorem rlm1640531535 : R32 (-1640531535) := ⟨by decide, by decide⟩
theorem rl22 : R32 (22) := ⟨by decide, by decide⟩
theorem flX10_81 : FL RX10 81 TA 11 10 := ⟨RX10, TX10, 13, rfl, ⟨by decide, by decide, by decide⟩, inWX10, Or.inl mw463⟩
set_option maxRecDepth 20000 in
theorem mt427 : Cond.fieldLinkNest "Datalogmill" (339 : Nat) "Datalogmill$Goals" "count" "I" "Datalogmill" ∈ lw_tbl := List.mem_of_getElem? (i := 427) (by rfl)
theorem flX10_339 : FL RX10 339 TA 4 0 := ⟨RX3, TX3, 3, rfl, ⟨by decide, by decide, by decide⟩, inWX3, Or.inr ⟨_, mt427⟩⟩
set_option maxRecDepth 20000 in
theorem mt1286 : Cond.methodLinkNest "Datalogmill" (435 : Nat) ({ cls := "Datalogmill$Walk", name := "goal", desc := "(I)I" } : MethodName) "Datalogmill" ∈ lw_tbl := List.mem_of_getElem? (i := 1286) (by rfl)
theorem lkX10_435 : LK "Datalogmill" 435 yX9_goal := Or.inr ⟨_, mt1286⟩
set_option maxRecDepth 20000 in
theorem mw1289 : Cond.code yX9_goal cX9_goal 2 (some .int) ∈ GW := inGW (List.mem_of_getElem? (i := 1289) (by rfl)) (by decide +kernel)
theorem ml_Wa_goal : ML yX9_goal cX9_goal 2 (some .int) 1 := ⟨mw1289, mw169, by decide +kernel, by decide +kernel, by decide +kernel⟩
set_option maxRecDepth 20000 in
theorem mw1288 : Cond.instanceMethod ({ cls := "Datalogmill$Walk", name := "goal", desc := "(I)I" } : MethodName) ∈ GW := inGW (List.mem_of_getElem? (i := 1288) (by rfl)) (by decide +kernel)
set_option maxRecDepth 20000 in
theorem mw104 : Cond.selects RX9 yX9_goal yX9_goal ∈ GW := inGW (List.mem_of_getElem? (i := 104) (by rfl)) (by decide +kernel)
theorem vl_Wa_goal : VL yX9_goal := ⟨mw1288, mw104⟩
set_option maxRecDepth 20000 in
theorem mt1270 : Cond.methodLinkNest "Datalogmill" (335 : Nat) ({ cls := "Datalogmill$Goals", name := "ask", desc := "(I)V" } : MethodName) "Datalogmill" ∈ lw_tbl := List.mem_of_getElem? (i := 1270) (by rfl)
theorem lkX10_335 : LK "Datalogmill" 335 yX3_ask := Or.inr ⟨_, mt1270⟩
set_option maxRecDepth 20000 in
theorem mw1273 : Cond.code yX3_ask cX3_ask 5 none ∈ GW := inGW (List.mem_of_getElem? (i := 1273) (by rfl)) (by decide +kernel)
theorem ml_Go_ask : ML yX3_ask cX3_ask 5 none 1 := ⟨mw1273, mw172, by decide +kernel, by decide +kernel, by decide +kernel⟩
set_option maxRecDepth 20000 in
theorem mw1272 : Cond.instanceMethod ({ cls := "Datalogmill$Goals", name := "ask", desc := "(I)V" } : MethodName) ∈ GW := inGW (List.mem_of_getElem? (i := 1272) (by rfl)) (by decide +kernel)
set_option maxRecDepth 20000 in
theorem mw101 : Cond.selects RX3 yX3_ask yX3_ask ∈ GW := inGW (List.mem_of_getElem? (i := 101) (by rfl)) (by decide +kernel)
theorem vl_Go_ask : VL yX3_ask := ⟨mw1272, mw101⟩
set_option maxRecDepth 20000 in
theorem mt1285 : Cond.methodLinkNest "Datalogmill" (432 : Nat) ({ cls := "Datalogmill$Body", name := "isAtom", desc := "(I)Z" } : MethodName) "Datalogmill" ∈ lw_tbl := List.mem_of_getElem? (i := 1285) (by rfl)
theorem lkX10_432 : LK "Datalogmill" 432 yX0_isAtom := Or.inr ⟨_, mt1285⟩
set_option maxRecDepth 20000 in
theorem mw1036 : Cond.code yX0_isAtom cX0_isAtom 2 (some .boolean) ∈ GW := inGW (List.mem_of_getElem? (i := 1036) (by rfl)) (by decide +kernel)
theorem ml_Bo_isAtom : ML yX0_isAtom cX0_isAtom 2 (some .boolean) 1 := ⟨mw1036, mw167, by decide +kernel, by decide +kernel, by decide +kernel⟩
set_option maxRecDepth 20000 in
theorem mw1035 : Cond.instanceMethod ({ cls := "Datalogmill$Body", name := "isAtom", desc := "(I)Z" } : MethodName) ∈ GW := inGW (List.mem_of_getElem? (i := 1035) (by rfl)) (by decide +kernel)
set_option maxRecDepth 20000 in
theorem mw72 : Cond.selects RX0 yX0_isAtom yX0_isAtom ∈ GW := inGW (List.mem_of_getElem? (i := 72) (by rfl)) (by decide +kernel)
theorem vl_Bo_isAtom : VL yX0_isAtom := ⟨mw1035, mw72⟩
set_option maxRecDepth 20000 in
theorem mw1284 : Cond.constant "Datalogmill" (431 : Nat) (2097151 : Int32) ∈ GW := inGW (List.mem_of_getElem? (i := 1284) (by rfl)) (by decide +kernel)
theorem kcX10_431 : Cond.constant RX10 431 (ii (2097151)) ∈ GW := by
  rw [show ii (2097151) = (2097151 : Int32) by decide]
  exact mw1284
theorem rl2097151 : R32 (2097151) := ⟨by decide, by decide⟩
set_option maxRecDepth 20000 in
theorem mw1009 : Cond.methodLink "Datalogmill$Body" (53 : Nat) ({ cls := "Datalogmill$Body", name := "termOf", desc := "(II)I" } : MethodName) ∈ GW := inGW (List.mem_of_getElem? (i := 1009) (by rfl)) (by decide +kernel)
theorem lkX0_53 : LK "Datalogmill$Body" 53 yX0_termOf := Or.inl mw1009
set_option maxRecDepth 20000 in
theorem mt1328 : Cond.methodLinkNest "Datalogmill" (355 : Nat) ({ cls := "Datalogmill$Body", name := "formOf", desc := "(I)I" } : MethodName) "Datalogmill" ∈ lw_tbl := List.mem_of_getElem? (i := 1328) (by rfl)
theorem lkX10_355 : LK "Datalogmill" 355 yX0_formOf := Or.inr ⟨_, mt1328⟩
set_option maxRecDepth 20000 in
theorem mt1333 : Cond.methodLinkNest "Datalogmill" (438 : Nat) ({ cls := "Datalogmill$Body", name := "subjectOf", desc := "(I)I" } : MethodName) "Datalogmill" ∈ lw_tbl := List.mem_of_getElem? (i := 1333) (by rfl)
theorem lkX10_438 : LK "Datalogmill" 438 yX0_subjectOf := Or.inr ⟨_, mt1333⟩
set_option maxRecDepth 20000 in
theorem mt1334 : Cond.methodLinkNest "Datalogmill" (441 : Nat) ({ cls := "Datalogmill$Schema", name := "keyOf", desc := "(I)I" } : MethodName) "Datalogmill" ∈ lw_tbl := List.mem_of_getElem? (i := 1334) (by rfl)
theorem lkX10_441 : LK "Datalogmill" 441 yX8_keyOf := Or.inr ⟨_, mt1334⟩
set_option maxRecDepth 20000 in
theorem mt1335 : Cond.methodLinkNest "Datalogmill" (444 : Nat) ({ cls := "Datalogmill$Body", name := "areAlike", desc := "(III)Z" } : MethodName) "Datalogmill" ∈ lw_tbl := List.mem_of_getElem? (i := 1335) (by rfl)
theorem lkX10_444 : LK "Datalogmill" 444 yX0_areAlike := Or.inr ⟨_, mt1335⟩
set_option maxRecDepth 20000 in
theorem mw1338 : Cond.code yX0_areAlike cX0_areAlike 6 (some .boolean) ∈ GW := inGW (List.mem_of_getElem? (i := 1338) (by rfl)) (by decide +kernel)
theorem ml_Bo_areAlike : ML yX0_areAlike cX0_areAlike 6 (some .boolean) 3 := ⟨mw1338, mw167, by decide +kernel, by decide +kernel, by decide +kernel⟩
set_option maxRecDepth 20000 in
theorem mw1337 : Cond.instanceMethod ({ cls := "Datalogmill$Body", name := "areAlike", desc := "(III)Z" } : MethodName) ∈ GW := inGW (List.mem_of_getElem? (i := 1337) (by rfl)) (by decide +kernel)
set_option maxRecDepth 20000 in
theorem mw109 : Cond.selects RX0 yX0_areAlike yX0_areAlike ∈ GW := inGW (List.mem_of_getElem? (i := 109) (by rfl)) (by decide +kernel)
theorem vl_Bo_areAlike : VL yX0_areAlike := ⟨mw1337, mw109⟩
set_option maxRecDepth 20000 in
theorem mw1364 : Cond.fieldLink "DatalogmillModel" (98 : Nat) "DatalogmillModel" "refusal" "I" ∈ GW := inGW (List.mem_of_getElem? (i := 1364) (by rfl)) (by decide +kernel)
theorem flX11_98 : FL RX11 98 TB 12 0 := ⟨RX11, TX11, 38, rfl, ⟨by decide, by decide, by decide⟩, inWX11, Or.inl mw1364⟩
theorem fpX11_98 : FP RX11 98 TB 12 0 .int := ⟨RX11, TX11, 38, rfl, ⟨by decide, by decide, by decide⟩, inWX11, Or.inl mw1364, ⟨tyX11, tyX11_ok, rfl⟩, nmX11, rfl⟩
set_option maxRecDepth 20000 in
theorem mw1487 : Cond.methodLink "DatalogmillModel" (102 : Nat) ({ cls := "DatalogmillModel", name := "in", desc := "(III)Z" } : MethodName) ∈ GW := inGW (List.mem_of_getElem? (i := 1487) (by rfl)) (by decide +kernel)
theorem lkX11_102 : LK "DatalogmillModel" 102 yX11_in := Or.inl mw1487
set_option maxRecDepth 20000 in
theorem mw1489 : Cond.code yX11_in cX11_in 3 (some .boolean) ∈ GW := inGW (List.mem_of_getElem? (i := 1489) (by rfl)) (by decide +kernel)
set_option maxRecDepth 20000 in
theorem mw174 : Cond.initialized "DatalogmillModel" ∈ GW := inGW (List.mem_of_getElem? (i := 174) (by rfl)) (by decide +kernel)
theorem ml_Re_in : ML yX11_in cX11_in 3 (some .boolean) 3 := ⟨mw1489, mw174, by decide +kernel, by decide +kernel, by decide +kernel⟩
set_option maxRecDepth 20000 in
theorem mw1488 : Cond.static ({ cls := "DatalogmillModel", name := "in", desc := "(III)Z" } : MethodName) ∈ GW := inGW (List.mem_of_getElem? (i := 1488) (by rfl)) (by decide +kernel)
theorem flX11_7 : FL RX11 7 TB 12 2 := ⟨RX11, TX11, 38, rfl, ⟨by decide, by decide, by decide⟩, inWX11, Or.inl mw1366⟩
theorem flX11_13 : FL RX11 13 TB 12 3 := ⟨RX11, TX11, 38, rfl, ⟨by decide, by decide, by decide⟩, inWX11, Or.inl mw1367⟩
set_option maxRecDepth 20000 in
theorem mw1596 : Cond.methodLink "DatalogmillModel" (106 : Nat) ({ cls := "DatalogmillModel", name := "isTerm", desc := "(III)Z" } : MethodName) ∈ GW := inGW (List.mem_of_getElem? (i := 1596) (by rfl)) (by decide +kernel)
theorem lkX11_106 : LK "DatalogmillModel" 106 yX11_isTerm := Or.inl mw1596
set_option maxRecDepth 20000 in
theorem mw1599 : Cond.code yX11_isTerm cX11_isTerm 4 (some .boolean) ∈ GW := inGW (List.mem_of_getElem? (i := 1599) (by rfl)) (by decide +kernel)
theorem ml_Re_isTerm : ML yX11_isTerm cX11_isTerm 4 (some .boolean) 3 := ⟨mw1599, mw174, by decide +kernel, by decide +kernel, by decide +kernel⟩
set_option maxRecDepth 20000 in
theorem mw1598 : Cond.instanceMethod ({ cls := "DatalogmillModel", name := "isTerm", desc := "(III)Z" } : MethodName) ∈ GW := inGW (List.mem_of_getElem? (i := 1598) (by rfl)) (by decide +kernel)
set_option maxRecDepth 20000 in
theorem mw132 : Cond.selects RX11 yX11_isTerm yX11_isTerm ∈ GW := inGW (List.mem_of_getElem? (i := 132) (by rfl)) (by decide +kernel)
theorem vl_Re_isTerm : VL yX11_isTerm := ⟨mw1598, mw132⟩
set_option maxRecDepth 20000 in
theorem mw1506 : Cond.methodLink "DatalogmillModel" (109 : Nat) ({ cls := "DatalogmillModel", name := "isValue", desc := "(IIIZ)Z" } : MethodName) ∈ GW := inGW (List.mem_of_getElem? (i := 1506) (by rfl)) (by decide +kernel)
theorem lkX11_109 : LK "DatalogmillModel" 109 yX11_isValue := Or.inl mw1506
set_option maxRecDepth 20000 in
theorem mw1509 : Cond.code yX11_isValue cX11_isValue 5 (some .boolean) ∈ GW := inGW (List.mem_of_getElem? (i := 1509) (by rfl)) (by decide +kernel)
theorem ml_Re_isValue : ML yX11_isValue cX11_isValue 5 (some .boolean) 4 := ⟨mw1509, mw174, by decide +kernel, by decide +kernel, by decide +kernel⟩
set_option maxRecDepth 20000 in
theorem mw1508 : Cond.instanceMethod ({ cls := "DatalogmillModel", name := "isValue", desc := "(IIIZ)Z" } : MethodName) ∈ GW := inGW (List.mem_of_getElem? (i := 1508) (by rfl)) (by decide +kernel)
set_option maxRecDepth 20000 in
theorem mw114 : Cond.selects RX11 yX11_isValue yX11_isValue ∈ GW := inGW (List.mem_of_getElem? (i := 114) (by rfl)) (by decide +kernel)
theorem vl_Re_isValue : VL yX11_isValue := ⟨mw1508, mw114⟩
set_option maxRecDepth 20000 in
theorem mw1490 : Cond.methodLink "DatalogmillModel" (113 : Nat) ({ cls := "DatalogmillModel", name := "refused", desc := "(I)Z" } : MethodName) ∈ GW := inGW (List.mem_of_getElem? (i := 1490) (by rfl)) (by decide +kernel)
theorem lkX11_113 : LK "DatalogmillModel" 113 yX11_refused := Or.inl mw1490
set_option maxRecDepth 20000 in
theorem mw1493 : Cond.code yX11_refused cX11_refused 2 (some .boolean) ∈ GW := inGW (List.mem_of_getElem? (i := 1493) (by rfl)) (by decide +kernel)
theorem ml_Re_refused : ML yX11_refused cX11_refused 2 (some .boolean) 1 := ⟨mw1493, mw174, by decide +kernel, by decide +kernel, by decide +kernel⟩
set_option maxRecDepth 20000 in
theorem mw1492 : Cond.instanceMethod ({ cls := "DatalogmillModel", name := "refused", desc := "(I)Z" } : MethodName) ∈ GW := inGW (List.mem_of_getElem? (i := 1492) (by rfl)) (by decide +kernel)
set_option maxRecDepth 20000 in
theorem mw111 : Cond.selects RX11 yX11_refused yX11_refused ∈ GW := inGW (List.mem_of_getElem? (i := 111) (by rfl)) (by decide +kernel)
theorem vl_Re_refused : VL yX11_refused := ⟨mw1492, mw111⟩
theorem flX11_17 : FL RX11 17 TB 12 4 := ⟨RX11, TX11, 38, rfl, ⟨by decide, by decide, by decide⟩, inWX11, Or.inl mw1368⟩
theorem flX11_20 : FL RX11 20 TB 12 5 := ⟨RX11, TX11, 38, rfl, ⟨by decide, by decide, by decide⟩, inWX11, Or.inl mw1369⟩
theorem flX11_41 : FL RX11 41 TB 12 13 := ⟨RX11, TX11, 38, rfl, ⟨by decide, by decide, by decide⟩, inWX11, Or.inl mw1377⟩
theorem flX11_35 : FL RX11 35 TB 12 11 := ⟨RX11, TX11, 38, rfl, ⟨by decide, by decide, by decide⟩, inWX11, Or.inl mw1375⟩
theorem flX11_38 : FL RX11 38 TB 12 12 := ⟨RX11, TX11, 38, rfl, ⟨by decide, by decide, by decide⟩, inWX11, Or.inl mw1376⟩
theorem flX11_71 : FL RX11 71 TB 12 25 := ⟨RX11, TX11, 38, rfl, ⟨by decide, by decide, by decide⟩, inWX11, Or.inl mw1389⟩
theorem flX11_65 : FL RX11 65 TB 12 23 := ⟨RX11, TX11, 38, rfl, ⟨by decide, by decide, by decide⟩, inWX11, Or.inl mw1387⟩
theorem flX11_68 : FL RX11 68 TB 12 24 := ⟨RX11, TX11, 38, rfl, ⟨by decide, by decide, by decide⟩, inWX11, Or.inl mw1388⟩
set_option maxRecDepth 20000 in
theorem mw1530 : Cond.methodLink "DatalogmillModel" (220 : Nat) ({ cls := "DatalogmillModel", name := "merged", desc := "(III)I" } : MethodName) ∈ GW := inGW (List.mem_of_getElem? (i := 1530) (by rfl)) (by decide +kernel)
theorem lkX11_220 : LK "DatalogmillModel" 220 yX11_merged := Or.inl mw1530
set_option maxRecDepth 20000 in
theorem mw1532 : Cond.code yX11_merged cX11_merged 3 (some .int) ∈ GW := inGW (List.mem_of_getElem? (i := 1532) (by rfl)) (by decide +kernel)
theorem ml_Re_merged : ML yX11_merged cX11_merged 3 (some .int) 3 := ⟨mw1532, mw174, by decide +kernel, by decide +kernel, by decide +kernel⟩
set_option maxRecDepth 20000 in
theorem mw1531 : Cond.static ({ cls := "DatalogmillModel", name := "merged", desc := "(III)I" } : MethodName) ∈ GW := inGW (List.mem_of_getElem? (i := 1531) (by rfl)) (by decide +kernel)
set_option maxRecDepth 20000 in
theorem mw1526 : Cond.methodLink "DatalogmillModel" (217 : Nat) ({ cls := "DatalogmillModel", name := "place", desc := "(IIIII)I" } : MethodName) ∈ GW := inGW (List.mem_of_getElem? (i := 1526) (by rfl)) (by decide +kernel)
theorem lkX11_217 : LK "DatalogmillModel" 217 yX11_place := Or.inl mw1526
set_option maxRecDepth 20000 in
theorem mw1529 : Cond.code yX11_place cX11_place 11 (some .int) ∈ GW := inGW (List.mem_of_getElem? (i := 1529) (by rfl)) (by decide +kernel)
theorem ml_Re_place : ML yX11_place cX11_place 11 (some .int) 5 := ⟨mw1529, mw174, by decide +kernel, by decide +kernel, by decide +kernel⟩
set_option maxRecDepth 20000 in
theorem mw1528 : Cond.instanceMethod ({ cls := "DatalogmillModel", name := "place", desc := "(IIIII)I" } : MethodName) ∈ GW := inGW (List.mem_of_getElem? (i := 1528) (by rfl)) (by decide +kernel)
set_option maxRecDepth 20000 in
theorem mw119 : Cond.selects RX11 yX11_place yX11_place ∈ GW := inGW (List.mem_of_getElem? (i := 119) (by rfl)) (by decide +kernel)
theorem vl_Re_place : VL yX11_place := ⟨mw1528, mw119⟩
set_option maxRecDepth 20000 in
theorem mw1394 : Cond.fieldLink "DatalogmillModel" (186 : Nat) "DatalogmillModel" "isBegun" "Z" ∈ GW := inGW (List.mem_of_getElem? (i := 1394) (by rfl)) (by decide +kernel)
theorem fpX11_186 : FP RX11 186 TB 12 30 .boolean := ⟨RX11, TX11, 38, rfl, ⟨by decide, by decide, by decide⟩, inWX11, Or.inl mw1394, ⟨tyX11, tyX11_ok, rfl⟩, nmX11, rfl⟩
theorem flX11_77 : FL RX11 77 TB 12 27 := ⟨RX11, TX11, 38, rfl, ⟨by decide, by decide, by decide⟩, inWX11, Or.inl mw1391⟩
theorem flX11_74 : FL RX11 74 TB 12 26 := ⟨RX11, TX11, 38, rfl, ⟨by decide, by decide, by decide⟩, inWX11, Or.inl mw1390⟩
set_option maxRecDepth 20000 in
theorem mw1561 : Cond.methodLink "DatalogmillModel" (190 : Nat) ({ cls := "DatalogmillModel", name := "isBound", desc := "(I)Z" } : MethodName) ∈ GW := inGW (List.mem_of_getElem? (i := 1561) (by rfl)) (by decide +kernel)
theorem lkX11_190 : LK "DatalogmillModel" 190 yX11_isBound := Or.inl mw1561
set_option maxRecDepth 20000 in
theorem mw1564 : Cond.code yX11_isBound cX11_isBound 2 (some .boolean) ∈ GW := inGW (List.mem_of_getElem? (i := 1564) (by rfl)) (by decide +kernel)
theorem ml_Re_isBound : ML yX11_isBound cX11_isBound 2 (some .boolean) 1 := ⟨mw1564, mw174, by decide +kernel, by decide +kernel, by decide +kernel⟩
set_option maxRecDepth 20000 in
theorem mw1563 : Cond.instanceMethod ({ cls := "DatalogmillModel", name := "isBound", desc := "(I)Z" } : MethodName) ∈ GW := inGW (List.mem_of_getElem? (i := 1563) (by rfl)) (by decide +kernel)
set_option maxRecDepth 20000 in
theorem mw127 : Cond.selects RX11 yX11_isBound yX11_isBound ∈ GW := inGW (List.mem_of_getElem? (i := 127) (by rfl)) (by decide +kernel)
theorem vl_Re_isBound : VL yX11_isBound := ⟨mw1563, mw127⟩
set_option maxRecDepth 20000 in
theorem mw1565 : Cond.methodLink "DatalogmillModel" (193 : Nat) ({ cls := "DatalogmillModel", name := "valueOf", desc := "(I)I" } : MethodName) ∈ GW := inGW (List.mem_of_getElem? (i := 1565) (by rfl)) (by decide +kernel)
theorem lkX11_193 : LK "DatalogmillModel" 193 yX11_valueOf := Or.inl mw1565
set_option maxRecDepth 20000 in
theorem mw1568 : Cond.code yX11_valueOf cX11_valueOf 2 (some .int) ∈ GW := inGW (List.mem_of_getElem? (i := 1568) (by rfl)) (by decide +kernel)
theorem ml_Re_valueOf : ML yX11_valueOf cX11_valueOf 2 (some .int) 1 := ⟨mw1568, mw174, by decide +kernel, by decide +kernel, by decide +kernel⟩
set_option maxRecDepth 20000 in
theorem mw1567 : Cond.instanceMethod ({ cls := "DatalogmillModel", name := "valueOf", desc := "(I)I" } : MethodName) ∈ GW := inGW (List.mem_of_getElem? (i := 1567) (by rfl)) (by decide +kernel)
set_option maxRecDepth 20000 in
theorem mw128 : Cond.selects RX11 yX11_valueOf yX11_valueOf ∈ GW := inGW (List.mem_of_getElem? (i := 128) (by rfl)) (by decide +kernel)
theorem vl_Re_valueOf : VL yX11_valueOf := ⟨mw1567, mw128⟩
set_option maxRecDepth 20000 in
theorem mw1549 : Cond.methodLink "DatalogmillModel" (199 : Nat) ({ cls := "DatalogmillModel", name := "unbind", desc := "(I)V" } : MethodName) ∈ GW := inGW (List.mem_of_getElem? (i := 1549) (by rfl)) (by decide +kernel)
theorem lkX11_199 : LK "DatalogmillModel" 199 yX11_unbind := Or.inl mw1549
set_option maxRecDepth 20000 in
theorem mw1552 : Cond.code yX11_unbind cX11_unbind 3 none ∈ GW := inGW (List.mem_of_getElem? (i := 1552) (by rfl)) (by decide +kernel)
theorem ml_Re_unbind : ML yX11_unbind cX11_unbind 3 none 1 := ⟨mw1552, mw174, by decide +kernel, by decide +kernel, by decide +kernel⟩
set_option maxRecDepth 20000 in
theorem mw1551 : Cond.instanceMethod ({ cls := "DatalogmillModel", name := "unbind", desc := "(I)V" } : MethodName) ∈ GW := inGW (List.mem_of_getElem? (i := 1551) (by rfl)) (by decide +kernel)
set_option maxRecDepth 20000 in
theorem mw124 : Cond.selects RX11 yX11_unbind yX11_unbind ∈ GW := inGW (List.mem_of_getElem? (i := 124) (by rfl)) (by decide +kernel)
theorem vl_Re_unbind : VL yX11_unbind := ⟨mw1551, mw124⟩
theorem flX11_59 : FL RX11 59 TB 12 21 := ⟨RX11, TX11, 38, rfl, ⟨by decide, by decide, by decide⟩, inWX11, Or.inl mw1385⟩
theorem flX11_62 : FL RX11 62 TB 12 22 := ⟨RX11, TX11, 38, rfl, ⟨by decide, by decide, by decide⟩, inWX11, Or.inl mw1386⟩
set_option maxRecDepth 20000 in
theorem mw1557 : Cond.methodLink "DatalogmillModel" (196 : Nat) ({ cls := "DatalogmillModel", name := "match", desc := "(III)Z" } : MethodName) ∈ GW := inGW (List.mem_of_getElem? (i := 1557) (by rfl)) (by decide +kernel)
theorem lkX11_196 : LK "DatalogmillModel" 196 yX11_match := Or.inl mw1557
set_option maxRecDepth 20000 in
theorem mw1560 : Cond.code yX11_match cX11_match 4 (some .boolean) ∈ GW := inGW (List.mem_of_getElem? (i := 1560) (by rfl)) (by decide +kernel)
theorem ml_Re_match : ML yX11_match cX11_match 4 (some .boolean) 3 := ⟨mw1560, mw174, by decide +kernel, by decide +kernel, by decide +kernel⟩
set_option maxRecDepth 20000 in
theorem mw1559 : Cond.instanceMethod ({ cls := "DatalogmillModel", name := "match", desc := "(III)Z" } : MethodName) ∈ GW := inGW (List.mem_of_getElem? (i := 1559) (by rfl)) (by decide +kernel)
set_option maxRecDepth 20000 in
theorem mw126 : Cond.selects RX11 yX11_match yX11_match ∈ GW := inGW (List.mem_of_getElem? (i := 126) (by rfl)) (by decide +kernel)
theorem vl_Re_match : VL yX11_match := ⟨mw1559, mw126⟩
theorem flX11_80 : FL RX11 80 TB 12 28 := ⟨RX11, TX11, 38, rfl, ⟨by decide, by decide, by decide⟩, inWX11, Or.inl mw1392⟩
set_option maxRecDepth 20000 in
theorem mw1553 : Cond.methodLink "DatalogmillModel" (202 : Nat) ({ cls := "DatalogmillModel", name := "fits", desc := "(IIII)Z" } : MethodName) ∈ GW := inGW (List.mem_of_getElem? (i := 1553) (by rfl)) (by decide +kernel)
theorem lkX11_202 : LK "DatalogmillModel" 202 yX11_fits := Or.inl mw1553
set_option maxRecDepth 20000 in
theorem mw1556 : Cond.code yX11_fits cX11_fits 7 (some .boolean) ∈ GW := inGW (List.mem_of_getElem? (i := 1556) (by rfl)) (by decide +kernel)
theorem ml_Re_fits : ML yX11_fits cX11_fits 7 (some .boolean) 4 := ⟨mw1556, mw174, by decide +kernel, by decide +kernel, by decide +kernel⟩
set_option maxRecDepth 20000 in
theorem mw1555 : Cond.instanceMethod ({ cls := "DatalogmillModel", name := "fits", desc := "(IIII)Z" } : MethodName) ∈ GW := inGW (List.mem_of_getElem? (i := 1555) (by rfl)) (by decide +kernel)
set_option maxRecDepth 20000 in
theorem mw125 : Cond.selects RX11 yX11_fits yX11_fits ∈ GW := inGW (List.mem_of_getElem? (i := 125) (by rfl)) (by decide +kernel)
theorem vl_Re_fits : VL yX11_fits := ⟨mw1555, mw125⟩
theorem flX11_56 : FL RX11 56 TB 12 20 := ⟨RX11, TX11, 38, rfl, ⟨by decide, by decide, by decide⟩, inWX11, Or.inl mw1384⟩
set_option maxRecDepth 20000 in
theorem mw1573 : Cond.methodLink "DatalogmillModel" (208 : Nat) ({ cls := "DatalogmillModel", name := "compares", desc := "(III)Z" } : MethodName) ∈ GW := inGW (List.mem_of_getElem? (i := 1573) (by rfl)) (by decide +kernel)
theorem lkX11_208 : LK "DatalogmillModel" 208 yX11_compares := Or.inl mw1573
set_option maxRecDepth 20000 in
theorem mw1575 : Cond.code yX11_compares cX11_compares 3 (some .boolean) ∈ GW := inGW (List.mem_of_getElem? (i := 1575) (by rfl)) (by decide +kernel)
theorem ml_Re_compares : ML yX11_compares cX11_compares 3 (some .boolean) 3 := ⟨mw1575, mw174, by decide +kernel, by decide +kernel, by decide +kernel⟩
set_option maxRecDepth 20000 in
theorem mw1574 : Cond.static ({ cls := "DatalogmillModel", name := "compares", desc := "(III)Z" } : MethodName) ∈ GW := inGW (List.mem_of_getElem? (i := 1574) (by rfl)) (by decide +kernel)
set_option maxRecDepth 20000 in
theorem mw1569 : Cond.methodLink "DatalogmillModel" (205 : Nat) ({ cls := "DatalogmillModel", name := "has", desc := "(II)Z" } : MethodName) ∈ GW := inGW (List.mem_of_getElem? (i := 1569) (by rfl)) (by decide +kernel)
theorem lkX11_205 : LK "DatalogmillModel" 205 yX11_has := Or.inl mw1569
set_option maxRecDepth 20000 in
theorem mw1572 : Cond.code yX11_has cX11_has 7 (some .boolean) ∈ GW := inGW (List.mem_of_getElem? (i := 1572) (by rfl)) (by decide +kernel)
theorem ml_Re_has : ML yX11_has cX11_has 7 (some .boolean) 2 := ⟨mw1572, mw174, by decide +kernel, by decide +kernel, by decide +kernel⟩
set_option maxRecDepth 20000 in
theorem mw1571 : Cond.instanceMethod ({ cls := "DatalogmillModel", name := "has", desc := "(II)Z" } : MethodName) ∈ GW := inGW (List.mem_of_getElem? (i := 1571) (by rfl)) (by decide +kernel)
set_option maxRecDepth 20000 in
theorem mw129 : Cond.selects RX11 yX11_has yX11_has ∈ GW := inGW (List.mem_of_getElem? (i := 129) (by rfl)) (by decide +kernel)
theorem vl_Re_has : VL yX11_has := ⟨mw1571, mw129⟩
set_option maxRecDepth 20000 in
theorem mw1393 : Cond.fieldLink "DatalogmillModel" (211 : Nat) "DatalogmillModel" "level" "I" ∈ GW := inGW (List.mem_of_getElem? (i := 1393) (by rfl)) (by decide +kernel)
theorem flX11_211 : FL RX11 211 TB 12 29 := ⟨RX11, TX11, 38, rfl, ⟨by decide, by decide, by decide⟩, inWX11, Or.inl mw1393⟩
set_option maxRecDepth 20000 in
theorem mw1545 : Cond.methodLink "DatalogmillModel" (214 : Nat) ({ cls := "DatalogmillModel", name := "tries", desc := "(III)Z" } : MethodName) ∈ GW := inGW (List.mem_of_getElem? (i := 1545) (by rfl)) (by decide +kernel)
theorem lkX11_214 : LK "DatalogmillModel" 214 yX11_tries := Or.inl mw1545
set_option maxRecDepth 20000 in
theorem mw1548 : Cond.code yX11_tries cX11_tries 8 (some .boolean) ∈ GW := inGW (List.mem_of_getElem? (i := 1548) (by rfl)) (by decide +kernel)
theorem ml_Re_tries : ML yX11_tries cX11_tries 8 (some .boolean) 3 := ⟨mw1548, mw174, by decide +kernel, by decide +kernel, by decide +kernel⟩
set_option maxRecDepth 20000 in
theorem mw1547 : Cond.instanceMethod ({ cls := "DatalogmillModel", name := "tries", desc := "(III)Z" } : MethodName) ∈ GW := inGW (List.mem_of_getElem? (i := 1547) (by rfl)) (by decide +kernel)
set_option maxRecDepth 20000 in
theorem mw123 : Cond.selects RX11 yX11_tries yX11_tries ∈ GW := inGW (List.mem_of_getElem? (i := 123) (by rfl)) (by decide +kernel)
theorem vl_Re_tries : VL yX11_tries := ⟨mw1547, mw123⟩
theorem fpX11_211 : FP RX11 211 TB 12 29 .int := ⟨RX11, TX11, 38, rfl, ⟨by decide, by decide, by decide⟩, inWX11, Or.inl mw1393, ⟨tyX11, tyX11_ok, rfl⟩, nmX11, rfl⟩
theorem flX11_186 : FL RX11 186 TB 12 30 := ⟨RX11, TX11, 38, rfl, ⟨by decide, by decide, by decide⟩, inWX11, Or.inl mw1394⟩
theorem flX11_50 : FL RX11 50 TB 12 18 := ⟨RX11, TX11, 38, rfl, ⟨by decide, by decide, by decide⟩, inWX11, Or.inl mw1382⟩
theorem flX11_53 : FL RX11 53 TB 12 19 := ⟨RX11, TX11, 38, rfl, ⟨by decide, by decide, by decide⟩, inWX11, Or.inl mw1383⟩
set_option maxRecDepth 20000 in
theorem mw1541 : Cond.methodLink "DatalogmillModel" (237 : Nat) ({ cls := "DatalogmillModel", name := "next", desc := "(III)Z" } : MethodName) ∈ GW := inGW (List.mem_of_getElem? (i := 1541) (by rfl)) (by decide +kernel)
theorem lkX11_237 : LK "DatalogmillModel" 237 yX11_next := Or.inl mw1541
set_option maxRecDepth 20000 in
theorem mw1544 : Cond.code yX11_next cX11_next 4 (some .boolean) ∈ GW := inGW (List.mem_of_getElem? (i := 1544) (by rfl)) (by decide +kernel)
theorem ml_Re_next : ML yX11_next cX11_next 4 (some .boolean) 3 := ⟨mw1544, mw174, by decide +kernel, by decide +kernel, by decide +kernel⟩
set_option maxRecDepth 20000 in
theorem mw1543 : Cond.instanceMethod ({ cls := "DatalogmillModel", name := "next", desc := "(III)Z" } : MethodName) ∈ GW := inGW (List.mem_of_getElem? (i := 1543) (by rfl)) (by decide +kernel)
set_option maxRecDepth 20000 in
theorem mw122 : Cond.selects RX11 yX11_next yX11_next ∈ GW := inGW (List.mem_of_getElem? (i := 122) (by rfl)) (by decide +kernel)
theorem vl_Re_next : VL yX11_next := ⟨mw1543, mw122⟩
set_option maxRecDepth 20000 in
theorem mw1576 : Cond.methodLink "DatalogmillModel" (240 : Nat) ({ cls := "DatalogmillModel", name := "headValue", desc := "(II)I" } : MethodName) ∈ GW := inGW (List.mem_of_getElem? (i := 1576) (by rfl)) (by decide +kernel)
theorem lkX11_240 : LK "DatalogmillModel" 240 yX11_headValue := Or.inl mw1576
set_option maxRecDepth 20000 in
theorem mw1579 : Cond.code yX11_headValue cX11_headValue 3 (some .int) ∈ GW := inGW (List.mem_of_getElem? (i := 1579) (by rfl)) (by decide +kernel)
theorem ml_Re_headValue : ML yX11_headValue cX11_headValue 3 (some .int) 2 := ⟨mw1579, mw174, by decide +kernel, by decide +kernel, by decide +kernel⟩
set_option maxRecDepth 20000 in
theorem mw1578 : Cond.instanceMethod ({ cls := "DatalogmillModel", name := "headValue", desc := "(II)I" } : MethodName) ∈ GW := inGW (List.mem_of_getElem? (i := 1578) (by rfl)) (by decide +kernel)
set_option maxRecDepth 20000 in
theorem mw130 : Cond.selects RX11 yX11_headValue yX11_headValue ∈ GW := inGW (List.mem_of_getElem? (i := 130) (by rfl)) (by decide +kernel)
theorem vl_Re_headValue : VL yX11_headValue := ⟨mw1578, mw130⟩
set_option maxRecDepth 20000 in
theorem mw1522 : Cond.methodLink "DatalogmillModel" (227 : Nat) ({ cls := "DatalogmillModel", name := "take", desc := "(IIIII)Z" } : MethodName) ∈ GW := inGW (List.mem_of_getElem? (i := 1522) (by rfl)) (by decide +kernel)
theorem lkX11_227 : LK "DatalogmillModel" 227 yX11_take := Or.inl mw1522
set_option maxRecDepth 20000 in
theorem mw1525 : Cond.code yX11_take cX11_take 11 (some .boolean) ∈ GW := inGW (List.mem_of_getElem? (i := 1525) (by rfl)) (by decide +kernel)
theorem ml_Re_take : ML yX11_take cX11_take 11 (some .boolean) 5 := ⟨mw1525, mw174, by decide +kernel, by decide +kernel, by decide +kernel⟩
set_option maxRecDepth 20000 in
theorem mw1524 : Cond.instanceMethod ({ cls := "DatalogmillModel", name := "take", desc := "(IIIII)Z" } : MethodName) ∈ GW := inGW (List.mem_of_getElem? (i := 1524) (by rfl)) (by decide +kernel)
set_option maxRecDepth 20000 in
theorem mw118 : Cond.selects RX11 yX11_take yX11_take ∈ GW := inGW (List.mem_of_getElem? (i := 118) (by rfl)) (by decide +kernel)
theorem vl_Re_take : VL yX11_take := ⟨mw1524, mw118⟩
set_option maxRecDepth 20000 in
theorem mw1378 : Cond.fieldLink "DatalogmillModel" (159 : Nat) "DatalogmillModel" "rules" "I" ∈ GW := inGW (List.mem_of_getElem? (i := 1378) (by rfl)) (by decide +kernel)
theorem flX11_159 : FL RX11 159 TB 12 14 := ⟨RX11, TX11, 38, rfl, ⟨by decide, by decide, by decide⟩, inWX11, Or.inl mw1378⟩
theorem flX11_44 : FL RX11 44 TB 12 16 := ⟨RX11, TX11, 38, rfl, ⟨by decide, by decide, by decide⟩, inWX11, Or.inl mw1380⟩
theorem flX11_23 : FL RX11 23 TB 12 6 := ⟨RX11, TX11, 38, rfl, ⟨by decide, by decide, by decide⟩, inWX11, Or.inl mw1370⟩
set_option maxRecDepth 20000 in
theorem mw1537 : Cond.methodLink "DatalogmillModel" (234 : Nat) ({ cls := "DatalogmillModel", name := "begin", desc := "()V" } : MethodName) ∈ GW := inGW (List.mem_of_getElem? (i := 1537) (by rfl)) (by decide +kernel)
theorem lkX11_234 : LK "DatalogmillModel" 234 yX11_begin := Or.inl mw1537
set_option maxRecDepth 20000 in
theorem mw1540 : Cond.code yX11_begin cX11_begin 2 none ∈ GW := inGW (List.mem_of_getElem? (i := 1540) (by rfl)) (by decide +kernel)
theorem ml_Re_begin : ML yX11_begin cX11_begin 2 none 0 := ⟨mw1540, mw174, by decide +kernel, by decide +kernel, by decide +kernel⟩
set_option maxRecDepth 20000 in
theorem mw1539 : Cond.instanceMethod ({ cls := "DatalogmillModel", name := "begin", desc := "()V" } : MethodName) ∈ GW := inGW (List.mem_of_getElem? (i := 1539) (by rfl)) (by decide +kernel)
set_option maxRecDepth 20000 in
theorem mw121 : Cond.selects RX11 yX11_begin yX11_begin ∈ GW := inGW (List.mem_of_getElem? (i := 121) (by rfl)) (by decide +kernel)
theorem vl_Re_begin : VL yX11_begin := ⟨mw1539, mw121⟩
set_option maxRecDepth 20000 in
theorem mw1533 : Cond.methodLink "DatalogmillModel" (231 : Nat) ({ cls := "DatalogmillModel", name := "round", desc := "(II)Z" } : MethodName) ∈ GW := inGW (List.mem_of_getElem? (i := 1533) (by rfl)) (by decide +kernel)
theorem lkX11_231 : LK "DatalogmillModel" 231 yX11_round := Or.inl mw1533
set_option maxRecDepth 20000 in
theorem mw1536 : Cond.code yX11_round cX11_round 6 (some .boolean) ∈ GW := inGW (List.mem_of_getElem? (i := 1536) (by rfl)) (by decide +kernel)
theorem ml_Re_round : ML yX11_round cX11_round 6 (some .boolean) 2 := ⟨mw1536, mw174, by decide +kernel, by decide +kernel, by decide +kernel⟩
set_option maxRecDepth 20000 in
theorem mw1535 : Cond.instanceMethod ({ cls := "DatalogmillModel", name := "round", desc := "(II)Z" } : MethodName) ∈ GW := inGW (List.mem_of_getElem? (i := 1535) (by rfl)) (by decide +kernel)
set_option maxRecDepth 20000 in
theorem mw120 : Cond.selects RX11 yX11_round yX11_round ∈ GW := inGW (List.mem_of_getElem? (i := 120) (by rfl)) (by decide +kernel)
theorem vl_Re_round : VL yX11_round := ⟨mw1535, mw120⟩
set_option maxRecDepth 20000 in
theorem mw1371 : Cond.fieldLink "DatalogmillModel" (124 : Nat) "DatalogmillModel" "facts" "I" ∈ GW := inGW (List.mem_of_getElem? (i := 1371) (by rfl)) (by decide +kernel)
theorem flX11_124 : FL RX11 124 TB 12 7 := ⟨RX11, TX11, 38, rfl, ⟨by decide, by decide, by decide⟩, inWX11, Or.inl mw1371⟩
theorem flX11_26 : FL RX11 26 TB 12 8 := ⟨RX11, TX11, 38, rfl, ⟨by decide, by decide, by decide⟩, inWX11, Or.inl mw1372⟩
set_option maxRecDepth 20000 in
theorem mw1518 : Cond.methodLink "DatalogmillModel" (224 : Nat) ({ cls := "DatalogmillModel", name := "holdsIn", desc := "(III)Z" } : MethodName) ∈ GW := inGW (List.mem_of_getElem? (i := 1518) (by rfl)) (by decide +kernel)
theorem lkX11_224 : LK "DatalogmillModel" 224 yX11_holdsIn := Or.inl mw1518
set_option maxRecDepth 20000 in
theorem mw1521 : Cond.code yX11_holdsIn cX11_holdsIn 4 (some .boolean) ∈ GW := inGW (List.mem_of_getElem? (i := 1521) (by rfl)) (by decide +kernel)
theorem ml_Re_holdsIn : ML yX11_holdsIn cX11_holdsIn 4 (some .boolean) 3 := ⟨mw1521, mw174, by decide +kernel, by decide +kernel, by decide +kernel⟩
set_option maxRecDepth 20000 in
theorem mw1520 : Cond.instanceMethod ({ cls := "DatalogmillModel", name := "holdsIn", desc := "(III)Z" } : MethodName) ∈ GW := inGW (List.mem_of_getElem? (i := 1520) (by rfl)) (by decide +kernel)
set_option maxRecDepth 20000 in
theorem mw117 : Cond.selects RX11 yX11_holdsIn yX11_holdsIn ∈ GW := inGW (List.mem_of_getElem? (i := 117) (by rfl)) (by decide +kernel)
theorem vl_Re_holdsIn : VL yX11_holdsIn := ⟨mw1520, mw117⟩
theorem flX11_29 : FL RX11 29 TB 12 9 := ⟨RX11, TX11, 38, rfl, ⟨by decide, by decide, by decide⟩, inWX11, Or.inl mw1373⟩
set_option maxRecDepth 20000 in
theorem mw1514 : Cond.methodLink "DatalogmillModel" (243 : Nat) ({ cls := "DatalogmillModel", name := "build", desc := "(III)Z" } : MethodName) ∈ GW := inGW (List.mem_of_getElem? (i := 1514) (by rfl)) (by decide +kernel)
theorem lkX11_243 : LK "DatalogmillModel" 243 yX11_build := Or.inl mw1514
set_option maxRecDepth 20000 in
theorem mw1517 : Cond.code yX11_build cX11_build 7 (some .boolean) ∈ GW := inGW (List.mem_of_getElem? (i := 1517) (by rfl)) (by decide +kernel)
theorem ml_Re_build : ML yX11_build cX11_build 7 (some .boolean) 3 := ⟨mw1517, mw174, by decide +kernel, by decide +kernel, by decide +kernel⟩
set_option maxRecDepth 20000 in
theorem mw1516 : Cond.instanceMethod ({ cls := "DatalogmillModel", name := "build", desc := "(III)Z" } : MethodName) ∈ GW := inGW (List.mem_of_getElem? (i := 1516) (by rfl)) (by decide +kernel)
set_option maxRecDepth 20000 in
theorem mw116 : Cond.selects RX11 yX11_build yX11_build ∈ GW := inGW (List.mem_of_getElem? (i := 116) (by rfl)) (by decide +kernel)
theorem vl_Re_build : VL yX11_build := ⟨mw1516, mw116⟩
theorem flX11_32 : FL RX11 32 TB 12 10 := ⟨RX11, TX11, 38, rfl, ⟨by decide, by decide, by decide⟩, inWX11, Or.inl mw1374⟩
theorem fpX11_124 : FP RX11 124 TB 12 7 .int := ⟨RX11, TX11, 38, rfl, ⟨by decide, by decide, by decide⟩, inWX11, Or.inl mw1371, ⟨tyX11, tyX11_ok, rfl⟩, nmX11, rfl⟩
set_option maxRecDepth 20000 in
theorem mw1510 : Cond.methodLink "DatalogmillModel" (127 : Nat) ({ cls := "DatalogmillModel", name := "buildAll", desc := "()Z" } : MethodName) ∈ GW := inGW (List.mem_of_getElem? (i := 1510) (by rfl)) (by decide +kernel)
theorem lkX11_127 : LK "DatalogmillModel" 127 yX11_buildAll := Or.inl mw1510
set_option maxRecDepth 20000 in
theorem mw1513 : Cond.code yX11_buildAll cX11_buildAll 4 (some .boolean) ∈ GW := inGW (List.mem_of_getElem? (i := 1513) (by rfl)) (by decide +kernel)
theorem ml_Re_buildAll : ML yX11_buildAll cX11_buildAll 4 (some .boolean) 0 := ⟨mw1513, mw174, by decide +kernel, by decide +kernel, by decide +kernel⟩
set_option maxRecDepth 20000 in
theorem mw1512 : Cond.instanceMethod ({ cls := "DatalogmillModel", name := "buildAll", desc := "()Z" } : MethodName) ∈ GW := inGW (List.mem_of_getElem? (i := 1512) (by rfl)) (by decide +kernel)
set_option maxRecDepth 20000 in
theorem mw115 : Cond.selects RX11 yX11_buildAll yX11_buildAll ∈ GW := inGW (List.mem_of_getElem? (i := 115) (by rfl)) (by decide +kernel)
theorem vl_Re_buildAll : VL yX11_buildAll := ⟨mw1512, mw115⟩
set_option maxRecDepth 20000 in
theorem mw1498 : Cond.methodLink "DatalogmillModel" (117 : Nat) ({ cls := "DatalogmillModel", name := "isRelation", desc := "(I)Z" } : MethodName) ∈ GW := inGW (List.mem_of_getElem? (i := 1498) (by rfl)) (by decide +kernel)
theorem lkX11_117 : LK "DatalogmillModel" 117 yX11_isRelation := Or.inl mw1498
set_option maxRecDepth 20000 in
theorem mw1501 : Cond.code yX11_isRelation cX11_isRelation 2 (some .boolean) ∈ GW := inGW (List.mem_of_getElem? (i := 1501) (by rfl)) (by decide +kernel)
theorem ml_Re_isRelation : ML yX11_isRelation cX11_isRelation 2 (some .boolean) 1 := ⟨mw1501, mw174, by decide +kernel, by decide +kernel, by decide +kernel⟩
set_option maxRecDepth 20000 in
theorem mw1500 : Cond.instanceMethod ({ cls := "DatalogmillModel", name := "isRelation", desc := "(I)Z" } : MethodName) ∈ GW := inGW (List.mem_of_getElem? (i := 1500) (by rfl)) (by decide +kernel)
set_option maxRecDepth 20000 in
theorem mw112 : Cond.selects RX11 yX11_isRelation yX11_isRelation ∈ GW := inGW (List.mem_of_getElem? (i := 112) (by rfl)) (by decide +kernel)
theorem vl_Re_isRelation : VL yX11_isRelation := ⟨mw1500, mw112⟩
set_option maxRecDepth 20000 in
theorem mw1502 : Cond.methodLink "DatalogmillModel" (120 : Nat) ({ cls := "DatalogmillModel", name := "areValues", desc := "(IIIIZ)Z" } : MethodName) ∈ GW := inGW (List.mem_of_getElem? (i := 1502) (by rfl)) (by decide +kernel)
theorem lkX11_120 : LK "DatalogmillModel" 120 yX11_areValues := Or.inl mw1502
set_option maxRecDepth 20000 in
theorem mw1505 : Cond.code yX11_areValues cX11_areValues 6 (some .boolean) ∈ GW := inGW (List.mem_of_getElem? (i := 1505) (by rfl)) (by decide +kernel)
theorem ml_Re_areValues : ML yX11_areValues cX11_areValues 6 (some .boolean) 5 := ⟨mw1505, mw174, by decide +kernel, by decide +kernel, by decide +kernel⟩
set_option maxRecDepth 20000 in
theorem mw1504 : Cond.instanceMethod ({ cls := "DatalogmillModel", name := "areValues", desc := "(IIIIZ)Z" } : MethodName) ∈ GW := inGW (List.mem_of_getElem? (i := 1504) (by rfl)) (by decide +kernel)
set_option maxRecDepth 20000 in
theorem mw113 : Cond.selects RX11 yX11_areValues yX11_areValues ∈ GW := inGW (List.mem_of_getElem? (i := 113) (by rfl)) (by decide +kernel)
theorem vl_Re_areValues : VL yX11_areValues := ⟨mw1504, mw113⟩
theorem rl100 : R32 (100) := ⟨by decide, by decide⟩
set_option maxRecDepth 20000 in
theorem mw1365 : Cond.fieldLink "DatalogmillModel" (131 : Nat) "DatalogmillModel" "hour" "I" ∈ GW := inGW (List.mem_of_getElem? (i := 1365) (by rfl)) (by decide +kernel)
theorem flX11_131 : FL RX11 131 TB 12 1 := ⟨RX11, TX11, 38, rfl, ⟨by decide, by decide, by decide⟩, inWX11, Or.inl mw1365⟩
theorem fpX11_131 : FP RX11 131 TB 12 1 .int := ⟨RX11, TX11, 38, rfl, ⟨by decide, by decide, by decide⟩, inWX11, Or.inl mw1365, ⟨tyX11, tyX11_ok, rfl⟩, nmX11, rfl⟩
theorem rl54 : R32 (54) := ⟨by decide, by decide⟩
theorem rl55 : R32 (55) := ⟨by decide, by decide⟩
theorem rl56 : R32 (56) := ⟨by decide, by decide⟩
set_option maxRecDepth 20000 in
theorem mw1592 : Cond.methodLink "DatalogmillModel" (134 : Nat) ({ cls := "DatalogmillModel", name := "areTerms", desc := "(IIII)Z" } : MethodName) ∈ GW := inGW (List.mem_of_getElem? (i := 1592) (by rfl)) (by decide +kernel)
theorem lkX11_134 : LK "DatalogmillModel" 134 yX11_areTerms := Or.inl mw1592
set_option maxRecDepth 20000 in
theorem mw1595 : Cond.code yX11_areTerms cX11_areTerms 5 (some .boolean) ∈ GW := inGW (List.mem_of_getElem? (i := 1595) (by rfl)) (by decide +kernel)
theorem ml_Re_areTerms : ML yX11_areTerms cX11_areTerms 5 (some .boolean) 4 := ⟨mw1595, mw174, by decide +kernel, by decide +kernel, by decide +kernel⟩
set_option maxRecDepth 20000 in
theorem mw1594 : Cond.instanceMethod ({ cls := "DatalogmillModel", name := "areTerms", desc := "(IIII)Z" } : MethodName) ∈ GW := inGW (List.mem_of_getElem? (i := 1594) (by rfl)) (by decide +kernel)
set_option maxRecDepth 20000 in
theorem mw131 : Cond.selects RX11 yX11_areTerms yX11_areTerms ∈ GW := inGW (List.mem_of_getElem? (i := 131) (by rfl)) (by decide +kernel)
theorem vl_Re_areTerms : VL yX11_areTerms := ⟨mw1594, mw131⟩
theorem rl90 : R32 (90) := ⟨by decide, by decide⟩
set_option maxRecDepth 20000 in
theorem mw1608 : Cond.methodLink "DatalogmillModel" (142 : Nat) ({ cls := "DatalogmillModel", name := "put", desc := "(IIIII)I" } : MethodName) ∈ GW := inGW (List.mem_of_getElem? (i := 1608) (by rfl)) (by decide +kernel)
theorem lkX11_142 : LK "DatalogmillModel" 142 yX11_put := Or.inl mw1608
set_option maxRecDepth 20000 in
theorem mw1611 : Cond.code yX11_put cX11_put 7 (some .int) ∈ GW := inGW (List.mem_of_getElem? (i := 1611) (by rfl)) (by decide +kernel)
theorem ml_Re_put : ML yX11_put cX11_put 7 (some .int) 5 := ⟨mw1611, mw174, by decide +kernel, by decide +kernel, by decide +kernel⟩
set_option maxRecDepth 20000 in
theorem mw1610 : Cond.instanceMethod ({ cls := "DatalogmillModel", name := "put", desc := "(IIIII)I" } : MethodName) ∈ GW := inGW (List.mem_of_getElem? (i := 1610) (by rfl)) (by decide +kernel)
set_option maxRecDepth 20000 in
theorem mw134 : Cond.selects RX11 yX11_put yX11_put ∈ GW := inGW (List.mem_of_getElem? (i := 134) (by rfl)) (by decide +kernel)
theorem vl_Re_put : VL yX11_put := ⟨mw1610, mw134⟩
set_option maxRecDepth 20000 in
theorem mw1604 : Cond.methodLink "DatalogmillModel" (138 : Nat) ({ cls := "DatalogmillModel", name := "atomsOf", desc := "(I)I" } : MethodName) ∈ GW := inGW (List.mem_of_getElem? (i := 1604) (by rfl)) (by decide +kernel)
theorem lkX11_138 : LK "DatalogmillModel" 138 yX11_atomsOf := Or.inl mw1604
set_option maxRecDepth 20000 in
theorem mw1607 : Cond.code yX11_atomsOf cX11_atomsOf 4 (some .int) ∈ GW := inGW (List.mem_of_getElem? (i := 1607) (by rfl)) (by decide +kernel)
theorem ml_Re_atomsOf : ML yX11_atomsOf cX11_atomsOf 4 (some .int) 1 := ⟨mw1607, mw174, by decide +kernel, by decide +kernel, by decide +kernel⟩
set_option maxRecDepth 20000 in
theorem mw1606 : Cond.instanceMethod ({ cls := "DatalogmillModel", name := "atomsOf", desc := "(I)I" } : MethodName) ∈ GW := inGW (List.mem_of_getElem? (i := 1606) (by rfl)) (by decide +kernel)
set_option maxRecDepth 20000 in
theorem mw133 : Cond.selects RX11 yX11_atomsOf yX11_atomsOf ∈ GW := inGW (List.mem_of_getElem? (i := 133) (by rfl)) (by decide +kernel)
theorem vl_Re_atomsOf : VL yX11_atomsOf := ⟨mw1606, mw133⟩
set_option maxRecDepth 20000 in
theorem mw1616 : Cond.methodLink "DatalogmillModel" (146 : Nat) ({ cls := "DatalogmillModel", name := "isAnyTerm", desc := "(I)Z" } : MethodName) ∈ GW := inGW (List.mem_of_getElem? (i := 1616) (by rfl)) (by decide +kernel)
theorem lkX11_146 : LK "DatalogmillModel" 146 yX11_isAnyTerm := Or.inl mw1616
set_option maxRecDepth 20000 in
theorem mw1618 : Cond.code yX11_isAnyTerm cX11_isAnyTerm 1 (some .boolean) ∈ GW := inGW (List.mem_of_getElem? (i := 1618) (by rfl)) (by decide +kernel)
theorem ml_Re_isAnyTerm : ML yX11_isAnyTerm cX11_isAnyTerm 1 (some .boolean) 1 := ⟨mw1618, mw174, by decide +kernel, by decide +kernel, by decide +kernel⟩
set_option maxRecDepth 20000 in
theorem mw1617 : Cond.static ({ cls := "DatalogmillModel", name := "isAnyTerm", desc := "(I)Z" } : MethodName) ∈ GW := inGW (List.mem_of_getElem? (i := 1617) (by rfl)) (by decide +kernel)
set_option maxRecDepth 20000 in
theorem mw1627 : Cond.methodLink "DatalogmillModel" (149 : Nat) ({ cls := "DatalogmillModel", name := "fine", desc := "(I)I" } : MethodName) ∈ GW := inGW (List.mem_of_getElem? (i := 1627) (by rfl)) (by decide +kernel)
theorem lkX11_149 : LK "DatalogmillModel" 149 yX11_fine := Or.inl mw1627
set_option maxRecDepth 20000 in
theorem mw1630 : Cond.code yX11_fine cX11_fine 2 (some .int) ∈ GW := inGW (List.mem_of_getElem? (i := 1630) (by rfl)) (by decide +kernel)
theorem ml_Re_fine : ML yX11_fine cX11_fine 2 (some .int) 1 := ⟨mw1630, mw174, by decide +kernel, by decide +kernel, by decide +kernel⟩
set_option maxRecDepth 20000 in
theorem mw1629 : Cond.instanceMethod ({ cls := "DatalogmillModel", name := "fine", desc := "(I)I" } : MethodName) ∈ GW := inGW (List.mem_of_getElem? (i := 1629) (by rfl)) (by decide +kernel)
set_option maxRecDepth 20000 in
theorem mw135 : Cond.selects RX11 yX11_fine yX11_fine ∈ GW := inGW (List.mem_of_getElem? (i := 135) (by rfl)) (by decide +kernel)
theorem vl_Re_fine : VL yX11_fine := ⟨mw1629, mw135⟩
set_option maxRecDepth 20000 in
theorem mw1639 : Cond.methodLink "DatalogmillModel" (152 : Nat) ({ cls := "DatalogmillModel", name := "width", desc := "(I)I" } : MethodName) ∈ GW := inGW (List.mem_of_getElem? (i := 1639) (by rfl)) (by decide +kernel)
theorem lkX11_152 : LK "DatalogmillModel" 152 yX11_width := Or.inl mw1639
set_option maxRecDepth 20000 in
theorem mw1642 : Cond.code yX11_width cX11_width 2 (some .int) ∈ GW := inGW (List.mem_of_getElem? (i := 1642) (by rfl)) (by decide +kernel)
theorem ml_Re_width : ML yX11_width cX11_width 2 (some .int) 1 := ⟨mw1642, mw174, by decide +kernel, by decide +kernel, by decide +kernel⟩
set_option maxRecDepth 20000 in
theorem mw1641 : Cond.instanceMethod ({ cls := "DatalogmillModel", name := "width", desc := "(I)I" } : MethodName) ∈ GW := inGW (List.mem_of_getElem? (i := 1641) (by rfl)) (by decide +kernel)
set_option maxRecDepth 20000 in
theorem mw137 : Cond.selects RX11 yX11_width yX11_width ∈ GW := inGW (List.mem_of_getElem? (i := 137) (by rfl)) (by decide +kernel)
theorem vl_Re_width : VL yX11_width := ⟨mw1641, mw137⟩
set_option maxRecDepth 20000 in
theorem mw1659 : Cond.methodLink "DatalogmillModel" (179 : Nat) ({ cls := "DatalogmillModel", name := "lastOfHead", desc := "(I)I" } : MethodName) ∈ GW := inGW (List.mem_of_getElem? (i := 1659) (by rfl)) (by decide +kernel)
theorem lkX11_179 : LK "DatalogmillModel" 179 yX11_lastOfHead := Or.inl mw1659
set_option maxRecDepth 20000 in
theorem mw1662 : Cond.code yX11_lastOfHead cX11_lastOfHead 2 (some .int) ∈ GW := inGW (List.mem_of_getElem? (i := 1662) (by rfl)) (by decide +kernel)
theorem ml_Re_lastOfHead : ML yX11_lastOfHead cX11_lastOfHead 2 (some .int) 1 := ⟨mw1662, mw174, by decide +kernel, by decide +kernel, by decide +kernel⟩
set_option maxRecDepth 20000 in
theorem mw1661 : Cond.instanceMethod ({ cls := "DatalogmillModel", name := "lastOfHead", desc := "(I)I" } : MethodName) ∈ GW := inGW (List.mem_of_getElem? (i := 1661) (by rfl)) (by decide +kernel)
set_option maxRecDepth 20000 in
theorem mw142 : Cond.selects RX11 yX11_lastOfHead yX11_lastOfHead ∈ GW := inGW (List.mem_of_getElem? (i := 142) (by rfl)) (by decide +kernel)
theorem vl_Re_lastOfHead : VL yX11_lastOfHead := ⟨mw1661, mw142⟩
set_option maxRecDepth 20000 in
theorem mw1655 : Cond.methodLink "DatalogmillModel" (175 : Nat) ({ cls := "DatalogmillModel", name := "times", desc := "(II)I" } : MethodName) ∈ GW := inGW (List.mem_of_getElem? (i := 1655) (by rfl)) (by decide +kernel)
theorem lkX11_175 : LK "DatalogmillModel" 175 yX11_times := Or.inl mw1655
set_option maxRecDepth 20000 in
theorem mw1658 : Cond.code yX11_times cX11_times 6 (some .int) ∈ GW := inGW (List.mem_of_getElem? (i := 1658) (by rfl)) (by decide +kernel)
theorem ml_Re_times : ML yX11_times cX11_times 6 (some .int) 2 := ⟨mw1658, mw174, by decide +kernel, by decide +kernel, by decide +kernel⟩
set_option maxRecDepth 20000 in
theorem mw1657 : Cond.instanceMethod ({ cls := "DatalogmillModel", name := "times", desc := "(II)I" } : MethodName) ∈ GW := inGW (List.mem_of_getElem? (i := 1657) (by rfl)) (by decide +kernel)
set_option maxRecDepth 20000 in
theorem mw141 : Cond.selects RX11 yX11_times yX11_times ∈ GW := inGW (List.mem_of_getElem? (i := 141) (by rfl)) (by decide +kernel)
theorem vl_Re_times : VL yX11_times := ⟨mw1657, mw141⟩
set_option maxRecDepth 20000 in
theorem mw1651 : Cond.methodLink "DatalogmillModel" (182 : Nat) ({ cls := "DatalogmillModel", name := "grows", desc := "(II)Z" } : MethodName) ∈ GW := inGW (List.mem_of_getElem? (i := 1651) (by rfl)) (by decide +kernel)
theorem lkX11_182 : LK "DatalogmillModel" 182 yX11_grows := Or.inl mw1651
set_option maxRecDepth 20000 in
theorem mw1654 : Cond.code yX11_grows cX11_grows 11 (some .boolean) ∈ GW := inGW (List.mem_of_getElem? (i := 1654) (by rfl)) (by decide +kernel)
theorem ml_Re_grows : ML yX11_grows cX11_grows 11 (some .boolean) 2 := ⟨mw1654, mw174, by decide +kernel, by decide +kernel, by decide +kernel⟩
set_option maxRecDepth 20000 in
theorem mw1653 : Cond.instanceMethod ({ cls := "DatalogmillModel", name := "grows", desc := "(II)Z" } : MethodName) ∈ GW := inGW (List.mem_of_getElem? (i := 1653) (by rfl)) (by decide +kernel)
set_option maxRecDepth 20000 in
theorem mw140 : Cond.selects RX11 yX11_grows yX11_grows ∈ GW := inGW (List.mem_of_getElem? (i := 140) (by rfl)) (by decide +kernel)
theorem vl_Re_grows : VL yX11_grows := ⟨mw1653, mw140⟩
theorem fpX11_159 : FP RX11 159 TB 12 14 .int := ⟨RX11, TX11, 38, rfl, ⟨by decide, by decide, by decide⟩, inWX11, Or.inl mw1378, ⟨tyX11, tyX11_ok, rfl⟩, nmX11, rfl⟩
set_option maxRecDepth 20000 in
theorem mw1647 : Cond.methodLink "DatalogmillModel" (166 : Nat) ({ cls := "DatalogmillModel", name := "layer", desc := "()Z" } : MethodName) ∈ GW := inGW (List.mem_of_getElem? (i := 1647) (by rfl)) (by decide +kernel)
theorem lkX11_166 : LK "DatalogmillModel" 166 yX11_layer := Or.inl mw1647
set_option maxRecDepth 20000 in
theorem mw1650 : Cond.code yX11_layer cX11_layer 8 (some .boolean) ∈ GW := inGW (List.mem_of_getElem? (i := 1650) (by rfl)) (by decide +kernel)
theorem ml_Re_layer : ML yX11_layer cX11_layer 8 (some .boolean) 0 := ⟨mw1650, mw174, by decide +kernel, by decide +kernel, by decide +kernel⟩
set_option maxRecDepth 20000 in
theorem mw1649 : Cond.instanceMethod ({ cls := "DatalogmillModel", name := "layer", desc := "()Z" } : MethodName) ∈ GW := inGW (List.mem_of_getElem? (i := 1649) (by rfl)) (by decide +kernel)
set_option maxRecDepth 20000 in
theorem mw139 : Cond.selects RX11 yX11_layer yX11_layer ∈ GW := inGW (List.mem_of_getElem? (i := 139) (by rfl)) (by decide +kernel)
theorem vl_Re_layer : VL yX11_layer := ⟨mw1649, mw139⟩
set_option maxRecDepth 20000 in
theorem mw1643 : Cond.methodLink "DatalogmillModel" (162 : Nat) ({ cls := "DatalogmillModel", name := "copyDraft", desc := "(I)V" } : MethodName) ∈ GW := inGW (List.mem_of_getElem? (i := 1643) (by rfl)) (by decide +kernel)
theorem lkX11_162 : LK "DatalogmillModel" 162 yX11_copyDraft := Or.inl mw1643
set_option maxRecDepth 20000 in
theorem mw1646 : Cond.code yX11_copyDraft cX11_copyDraft 4 none ∈ GW := inGW (List.mem_of_getElem? (i := 1646) (by rfl)) (by decide +kernel)
theorem ml_Re_copyDraft : ML yX11_copyDraft cX11_copyDraft 4 none 1 := ⟨mw1646, mw174, by decide +kernel, by decide +kernel, by decide +kernel⟩
set_option maxRecDepth 20000 in
theorem mw1645 : Cond.instanceMethod ({ cls := "DatalogmillModel", name := "copyDraft", desc := "(I)V" } : MethodName) ∈ GW := inGW (List.mem_of_getElem? (i := 1645) (by rfl)) (by decide +kernel)
set_option maxRecDepth 20000 in
theorem mw138 : Cond.selects RX11 yX11_copyDraft yX11_copyDraft ∈ GW := inGW (List.mem_of_getElem? (i := 138) (by rfl)) (by decide +kernel)
theorem vl_Re_copyDraft : VL yX11_copyDraft := ⟨mw1645, mw138⟩
set_option maxRecDepth 20000 in
theorem mw1663 : Cond.methodLink "DatalogmillModel" (169 : Nat) ({ cls := "DatalogmillModel", name := "emptyDraft", desc := "()V" } : MethodName) ∈ GW := inGW (List.mem_of_getElem? (i := 1663) (by rfl)) (by decide +kernel)
theorem lkX11_169 : LK "DatalogmillModel" 169 yX11_emptyDraft := Or.inl mw1663
set_option maxRecDepth 20000 in
theorem mw1666 : Cond.code yX11_emptyDraft cX11_emptyDraft 1 none ∈ GW := inGW (List.mem_of_getElem? (i := 1666) (by rfl)) (by decide +kernel)
theorem ml_Re_emptyDraft : ML yX11_emptyDraft cX11_emptyDraft 1 none 0 := ⟨mw1666, mw174, by decide +kernel, by decide +kernel, by decide +kernel⟩
set_option maxRecDepth 20000 in
theorem mw1665 : Cond.instanceMethod ({ cls := "DatalogmillModel", name := "emptyDraft", desc := "()V" } : MethodName) ∈ GW := inGW (List.mem_of_getElem? (i := 1665) (by rfl)) (by decide +kernel)
set_option maxRecDepth 20000 in
theorem mw143 : Cond.selects RX11 yX11_emptyDraft yX11_emptyDraft ∈ GW := inGW (List.mem_of_getElem? (i := 143) (by rfl)) (by decide +kernel)
theorem vl_Re_emptyDraft : VL yX11_emptyDraft := ⟨mw1665, mw143⟩
set_option maxRecDepth 20000 in
theorem mw1635 : Cond.methodLink "DatalogmillModel" (155 : Nat) ({ cls := "DatalogmillModel", name := "isSafe", desc := "(IZ)Z" } : MethodName) ∈ GW := inGW (List.mem_of_getElem? (i := 1635) (by rfl)) (by decide +kernel)
theorem lkX11_155 : LK "DatalogmillModel" 155 yX11_isSafe := Or.inl mw1635
set_option maxRecDepth 20000 in
theorem mw1638 : Cond.code yX11_isSafe cX11_isSafe 10 (some .boolean) ∈ GW := inGW (List.mem_of_getElem? (i := 1638) (by rfl)) (by decide +kernel)
theorem ml_Re_isSafe : ML yX11_isSafe cX11_isSafe 10 (some .boolean) 2 := ⟨mw1638, mw174, by decide +kernel, by decide +kernel, by decide +kernel⟩
set_option maxRecDepth 20000 in
theorem mw1637 : Cond.instanceMethod ({ cls := "DatalogmillModel", name := "isSafe", desc := "(IZ)Z" } : MethodName) ∈ GW := inGW (List.mem_of_getElem? (i := 1637) (by rfl)) (by decide +kernel)
set_option maxRecDepth 20000 in
theorem mw136 : Cond.selects RX11 yX11_isSafe yX11_isSafe ∈ GW := inGW (List.mem_of_getElem? (i := 136) (by rfl)) (by decide +kernel)
theorem vl_Re_isSafe : VL yX11_isSafe := ⟨mw1637, mw136⟩
set_option maxRecDepth 20000 in
theorem mw1379 : Cond.fieldLink "DatalogmillModel" (172 : Nat) "DatalogmillModel" "denials" "I" ∈ GW := inGW (List.mem_of_getElem? (i := 1379) (by rfl)) (by decide +kernel)
theorem flX11_172 : FL RX11 172 TB 12 15 := ⟨RX11, TX11, 38, rfl, ⟨by decide, by decide, by decide⟩, inWX11, Or.inl mw1379⟩
theorem fpX11_172 : FP RX11 172 TB 12 15 .int := ⟨RX11, TX11, 38, rfl, ⟨by decide, by decide, by decide⟩, inWX11, Or.inl mw1379, ⟨tyX11, tyX11_ok, rfl⟩, nmX11, rfl⟩
set_option maxRecDepth 20000 in
theorem mw1679 : Cond.methodLink "DatalogmillModel" (246 : Nat) ({ cls := "DatalogmillModel", name := "noRelation", desc := "(I)Z" } : MethodName) ∈ GW := inGW (List.mem_of_getElem? (i := 1679) (by rfl)) (by decide +kernel)
theorem lkX11_246 : LK "DatalogmillModel" 246 yX11_noRelation := Or.inl mw1679
set_option maxRecDepth 20000 in
theorem mw1682 : Cond.code yX11_noRelation cX11_noRelation 2 (some .boolean) ∈ GW := inGW (List.mem_of_getElem? (i := 1682) (by rfl)) (by decide +kernel)
theorem ml_Re_noRelation : ML yX11_noRelation cX11_noRelation 2 (some .boolean) 1 := ⟨mw1682, mw174, by decide +kernel, by decide +kernel, by decide +kernel⟩
set_option maxRecDepth 20000 in
theorem mw1681 : Cond.instanceMethod ({ cls := "DatalogmillModel", name := "noRelation", desc := "(I)Z" } : MethodName) ∈ GW := inGW (List.mem_of_getElem? (i := 1681) (by rfl)) (by decide +kernel)
set_option maxRecDepth 20000 in
theorem mw144 : Cond.selects RX11 yX11_noRelation yX11_noRelation ∈ GW := inGW (List.mem_of_getElem? (i := 144) (by rfl)) (by decide +kernel)
theorem vl_Re_noRelation : VL yX11_noRelation := ⟨mw1681, mw144⟩
set_option maxRecDepth 20000 in
theorem mw1683 : Cond.methodLink "DatalogmillModel" (249 : Nat) ({ cls := "DatalogmillModel", name := "hasTuple", desc := "(IIIII)Z" } : MethodName) ∈ GW := inGW (List.mem_of_getElem? (i := 1683) (by rfl)) (by decide +kernel)
theorem lkX11_249 : LK "DatalogmillModel" 249 yX11_hasTuple := Or.inl mw1683
set_option maxRecDepth 20000 in
theorem mw1686 : Cond.code yX11_hasTuple cX11_hasTuple 8 (some .boolean) ∈ GW := inGW (List.mem_of_getElem? (i := 1686) (by rfl)) (by decide +kernel)
theorem ml_Re_hasTuple : ML yX11_hasTuple cX11_hasTuple 8 (some .boolean) 5 := ⟨mw1686, mw174, by decide +kernel, by decide +kernel, by decide +kernel⟩
set_option maxRecDepth 20000 in
theorem mw1685 : Cond.instanceMethod ({ cls := "DatalogmillModel", name := "hasTuple", desc := "(IIIII)Z" } : MethodName) ∈ GW := inGW (List.mem_of_getElem? (i := 1685) (by rfl)) (by decide +kernel)
set_option maxRecDepth 20000 in
theorem mw145 : Cond.selects RX11 yX11_hasTuple yX11_hasTuple ∈ GW := inGW (List.mem_of_getElem? (i := 145) (by rfl)) (by decide +kernel)
theorem vl_Re_hasTuple : VL yX11_hasTuple := ⟨mw1685, mw145⟩
set_option maxRecDepth 20000 in
theorem mw1695 : Cond.methodLink "DatalogmillModel" (252 : Nat) ({ cls := "DatalogmillModel", name := "holdsAt", desc := "(IIIII)Z" } : MethodName) ∈ GW := inGW (List.mem_of_getElem? (i := 1695) (by rfl)) (by decide +kernel)
theorem lkX11_252 : LK "DatalogmillModel" 252 yX11_holdsAt := Or.inl mw1695
set_option maxRecDepth 20000 in
theorem mw1690 : Cond.code yX11_holdsAt cX11_holdsAt 6 (some .boolean) ∈ GW := inGW (List.mem_of_getElem? (i := 1690) (by rfl)) (by decide +kernel)
theorem ml_Re_holdsAt : ML yX11_holdsAt cX11_holdsAt 6 (some .boolean) 5 := ⟨mw1690, mw174, by decide +kernel, by decide +kernel, by decide +kernel⟩
set_option maxRecDepth 20000 in
theorem mw1688 : Cond.instanceMethod ({ cls := "DatalogmillModel", name := "holdsAt", desc := "(IIIII)Z" } : MethodName) ∈ GW := inGW (List.mem_of_getElem? (i := 1688) (by rfl)) (by decide +kernel)
set_option maxRecDepth 20000 in
theorem mw1689 : Cond.selects "DatalogmillModel" ({ cls := "DatalogmillModel", name := "holdsAt", desc := "(IIIII)Z" } : MethodName) ({ cls := "DatalogmillModel", name := "holdsAt", desc := "(IIIII)Z" } : MethodName) ∈ GW := inGW (List.mem_of_getElem? (i := 1689) (by rfl)) (by decide +kernel)
theorem vl_Re_holdsAt : VL yX11_holdsAt := ⟨mw1688, mw1689⟩
set_option maxRecDepth 20000 in
theorem mw1700 : Cond.methodLink "DatalogmillModel" (255 : Nat) ({ cls := "DatalogmillModel", name := "sizeOf", desc := "(I)I" } : MethodName) ∈ GW := inGW (List.mem_of_getElem? (i := 1700) (by rfl)) (by decide +kernel)
theorem lkX11_255 : LK "DatalogmillModel" 255 yX11_sizeOf := Or.inl mw1700
set_option maxRecDepth 20000 in
theorem mw1703 : Cond.code yX11_sizeOf cX11_sizeOf 4 (some .int) ∈ GW := inGW (List.mem_of_getElem? (i := 1703) (by rfl)) (by decide +kernel)
theorem ml_Re_sizeOf : ML yX11_sizeOf cX11_sizeOf 4 (some .int) 1 := ⟨mw1703, mw174, by decide +kernel, by decide +kernel, by decide +kernel⟩
set_option maxRecDepth 20000 in
theorem mw1702 : Cond.instanceMethod ({ cls := "DatalogmillModel", name := "sizeOf", desc := "(I)I" } : MethodName) ∈ GW := inGW (List.mem_of_getElem? (i := 1702) (by rfl)) (by decide +kernel)
set_option maxRecDepth 20000 in
theorem mw146 : Cond.selects RX11 yX11_sizeOf yX11_sizeOf ∈ GW := inGW (List.mem_of_getElem? (i := 146) (by rfl)) (by decide +kernel)
theorem vl_Re_sizeOf : VL yX11_sizeOf := ⟨mw1702, mw146⟩
theorem rl16384 : R32 (16384) := ⟨by decide, by decide⟩
theorem rl128 : R32 (128) := ⟨by decide, by decide⟩
set_option maxRecDepth 20000 in
theorem mw1708 : Cond.methodLink "DatalogmillModel" (258 : Nat) ({ cls := "DatalogmillModel", name := "told", desc := "(I)I" } : MethodName) ∈ GW := inGW (List.mem_of_getElem? (i := 1708) (by rfl)) (by decide +kernel)
theorem lkX11_258 : LK "DatalogmillModel" 258 yX11_told := Or.inl mw1708
set_option maxRecDepth 20000 in
theorem mw1711 : Cond.code yX11_told cX11_told 3 (some .int) ∈ GW := inGW (List.mem_of_getElem? (i := 1711) (by rfl)) (by decide +kernel)
theorem ml_Re_told : ML yX11_told cX11_told 3 (some .int) 1 := ⟨mw1711, mw174, by decide +kernel, by decide +kernel, by decide +kernel⟩
set_option maxRecDepth 20000 in
theorem mw1710 : Cond.instanceMethod ({ cls := "DatalogmillModel", name := "told", desc := "(I)I" } : MethodName) ∈ GW := inGW (List.mem_of_getElem? (i := 1710) (by rfl)) (by decide +kernel)
set_option maxRecDepth 20000 in
theorem mw147 : Cond.selects RX11 yX11_told yX11_told ∈ GW := inGW (List.mem_of_getElem? (i := 147) (by rfl)) (by decide +kernel)
theorem vl_Re_told : VL yX11_told := ⟨mw1710, mw147⟩
theorem flX11_83 : FL RX11 83 TB 12 31 := ⟨RX11, TX11, 38, rfl, ⟨by decide, by decide, by decide⟩, inWX11, Or.inl mw1395⟩
set_option maxRecDepth 20000 in
theorem mw1733 : Cond.methodLink "DatalogmillModel" (265 : Nat) ({ cls := "DatalogmillModel", name := "costOf", desc := "(I)I" } : MethodName) ∈ GW := inGW (List.mem_of_getElem? (i := 1733) (by rfl)) (by decide +kernel)
theorem lkX11_265 : LK "DatalogmillModel" 265 yX11_costOf := Or.inl mw1733
set_option maxRecDepth 20000 in
theorem mw1736 : Cond.code yX11_costOf cX11_costOf 7 (some .int) ∈ GW := inGW (List.mem_of_getElem? (i := 1736) (by rfl)) (by decide +kernel)
theorem ml_Re_costOf : ML yX11_costOf cX11_costOf 7 (some .int) 1 := ⟨mw1736, mw174, by decide +kernel, by decide +kernel, by decide +kernel⟩
set_option maxRecDepth 20000 in
theorem mw1735 : Cond.instanceMethod ({ cls := "DatalogmillModel", name := "costOf", desc := "(I)I" } : MethodName) ∈ GW := inGW (List.mem_of_getElem? (i := 1735) (by rfl)) (by decide +kernel)
set_option maxRecDepth 20000 in
theorem mw150 : Cond.selects RX11 yX11_costOf yX11_costOf ∈ GW := inGW (List.mem_of_getElem? (i := 150) (by rfl)) (by decide +kernel)
theorem vl_Re_costOf : VL yX11_costOf := ⟨mw1735, mw150⟩
set_option maxRecDepth 20000 in
theorem mw1729 : Cond.methodLink "DatalogmillModel" (262 : Nat) ({ cls := "DatalogmillModel", name := "lower", desc := "(II)Z" } : MethodName) ∈ GW := inGW (List.mem_of_getElem? (i := 1729) (by rfl)) (by decide +kernel)
theorem lkX11_262 : LK "DatalogmillModel" 262 yX11_lower := Or.inl mw1729
set_option maxRecDepth 20000 in
theorem mw1732 : Cond.code yX11_lower cX11_lower 4 (some .boolean) ∈ GW := inGW (List.mem_of_getElem? (i := 1732) (by rfl)) (by decide +kernel)
theorem ml_Re_lower : ML yX11_lower cX11_lower 4 (some .boolean) 2 := ⟨mw1732, mw174, by decide +kernel, by decide +kernel, by decide +kernel⟩
set_option maxRecDepth 20000 in
theorem mw1731 : Cond.instanceMethod ({ cls := "DatalogmillModel", name := "lower", desc := "(II)Z" } : MethodName) ∈ GW := inGW (List.mem_of_getElem? (i := 1731) (by rfl)) (by decide +kernel)
set_option maxRecDepth 20000 in
theorem mw149 : Cond.selects RX11 yX11_lower yX11_lower ∈ GW := inGW (List.mem_of_getElem? (i := 149) (by rfl)) (by decide +kernel)
theorem vl_Re_lower : VL yX11_lower := ⟨mw1731, mw149⟩
set_option maxRecDepth 20000 in
theorem mw1728 : Cond.constant "DatalogmillModel" (261 : Nat) (1000000 : Int32) ∈ GW := inGW (List.mem_of_getElem? (i := 1728) (by rfl)) (by decide +kernel)
theorem kcX11_261 : Cond.constant RX11 261 (ii (1000000)) ∈ GW := by
  rw [show ii (1000000) = (1000000 : Int32) by decide]
  exact mw1728
set_option maxRecDepth 20000 in
theorem mw1724 : Cond.methodLink "DatalogmillModel" (268 : Nat) ({ cls := "DatalogmillModel", name := "findCosts", desc := "()V" } : MethodName) ∈ GW := inGW (List.mem_of_getElem? (i := 1724) (by rfl)) (by decide +kernel)
theorem lkX11_268 : LK "DatalogmillModel" 268 yX11_findCosts := Or.inl mw1724
set_option maxRecDepth 20000 in
theorem mw1727 : Cond.code yX11_findCosts cX11_findCosts 5 none ∈ GW := inGW (List.mem_of_getElem? (i := 1727) (by rfl)) (by decide +kernel)
theorem ml_Re_findCosts : ML yX11_findCosts cX11_findCosts 5 none 0 := ⟨mw1727, mw174, by decide +kernel, by decide +kernel, by decide +kernel⟩
set_option maxRecDepth 20000 in
theorem mw1726 : Cond.instanceMethod ({ cls := "DatalogmillModel", name := "findCosts", desc := "()V" } : MethodName) ∈ GW := inGW (List.mem_of_getElem? (i := 1726) (by rfl)) (by decide +kernel)
set_option maxRecDepth 20000 in
theorem mw148 : Cond.selects RX11 yX11_findCosts yX11_findCosts ∈ GW := inGW (List.mem_of_getElem? (i := 148) (by rfl)) (by decide +kernel)
theorem vl_Re_findCosts : VL yX11_findCosts := ⟨mw1726, mw148⟩
set_option maxRecDepth 20000 in
theorem mw1749 : Cond.methodLink "DatalogmillModel" (271 : Nat) ({ cls := "DatalogmillModel", name := "give", desc := "(II)Z" } : MethodName) ∈ GW := inGW (List.mem_of_getElem? (i := 1749) (by rfl)) (by decide +kernel)
theorem lkX11_271 : LK "DatalogmillModel" 271 yX11_give := Or.inl mw1749
set_option maxRecDepth 20000 in
theorem mw1752 : Cond.code yX11_give cX11_give 3 (some .boolean) ∈ GW := inGW (List.mem_of_getElem? (i := 1752) (by rfl)) (by decide +kernel)
theorem ml_Re_give : ML yX11_give cX11_give 3 (some .boolean) 2 := ⟨mw1752, mw174, by decide +kernel, by decide +kernel, by decide +kernel⟩
set_option maxRecDepth 20000 in
theorem mw1751 : Cond.instanceMethod ({ cls := "DatalogmillModel", name := "give", desc := "(II)Z" } : MethodName) ∈ GW := inGW (List.mem_of_getElem? (i := 1751) (by rfl)) (by decide +kernel)
set_option maxRecDepth 20000 in
theorem mw152 : Cond.selects RX11 yX11_give yX11_give ∈ GW := inGW (List.mem_of_getElem? (i := 152) (by rfl)) (by decide +kernel)
theorem vl_Re_give : VL yX11_give := ⟨mw1751, mw152⟩
set_option maxRecDepth 20000 in
theorem mw1745 : Cond.methodLink "DatalogmillModel" (274 : Nat) ({ cls := "DatalogmillModel", name := "giveHead", desc := "(IIII)Z" } : MethodName) ∈ GW := inGW (List.mem_of_getElem? (i := 1745) (by rfl)) (by decide +kernel)
theorem lkX11_274 : LK "DatalogmillModel" 274 yX11_giveHead := Or.inl mw1745
set_option maxRecDepth 20000 in
theorem mw1748 : Cond.code yX11_giveHead cX11_giveHead 10 (some .boolean) ∈ GW := inGW (List.mem_of_getElem? (i := 1748) (by rfl)) (by decide +kernel)
theorem ml_Re_giveHead : ML yX11_giveHead cX11_giveHead 10 (some .boolean) 4 := ⟨mw1748, mw174, by decide +kernel, by decide +kernel, by decide +kernel⟩
set_option maxRecDepth 20000 in
theorem mw1747 : Cond.instanceMethod ({ cls := "DatalogmillModel", name := "giveHead", desc := "(IIII)Z" } : MethodName) ∈ GW := inGW (List.mem_of_getElem? (i := 1747) (by rfl)) (by decide +kernel)
set_option maxRecDepth 20000 in
theorem mw151 : Cond.selects RX11 yX11_giveHead yX11_giveHead ∈ GW := inGW (List.mem_of_getElem? (i := 151) (by rfl)) (by decide +kernel)
theorem vl_Re_giveHead : VL yX11_giveHead := ⟨mw1747, mw151⟩
set_option maxRecDepth 20000 in
theorem mw1761 : Cond.methodLink "DatalogmillModel" (277 : Nat) ({ cls := "DatalogmillModel", name := "isKeyBroken", desc := "(II)Z" } : MethodName) ∈ GW := inGW (List.mem_of_getElem? (i := 1761) (by rfl)) (by decide +kernel)
theorem lkX11_277 : LK "DatalogmillModel" 277 yX11_isKeyBroken := Or.inl mw1761
set_option maxRecDepth 20000 in
theorem mw1764 : Cond.code yX11_isKeyBroken cX11_isKeyBroken 10 (some .boolean) ∈ GW := inGW (List.mem_of_getElem? (i := 1764) (by rfl)) (by decide +kernel)
theorem ml_Re_isKeyBroken : ML yX11_isKeyBroken cX11_isKeyBroken 10 (some .boolean) 2 := ⟨mw1764, mw174, by decide +kernel, by decide +kernel, by decide +kernel⟩
set_option maxRecDepth 20000 in
theorem mw1763 : Cond.instanceMethod ({ cls := "DatalogmillModel", name := "isKeyBroken", desc := "(II)Z" } : MethodName) ∈ GW := inGW (List.mem_of_getElem? (i := 1763) (by rfl)) (by decide +kernel)
set_option maxRecDepth 20000 in
theorem mw154 : Cond.selects RX11 yX11_isKeyBroken yX11_isKeyBroken ∈ GW := inGW (List.mem_of_getElem? (i := 154) (by rfl)) (by decide +kernel)
theorem vl_Re_isKeyBroken : VL yX11_isKeyBroken := ⟨mw1763, mw154⟩
set_option maxRecDepth 20000 in
theorem mw1757 : Cond.methodLink "DatalogmillModel" (280 : Nat) ({ cls := "DatalogmillModel", name := "brokenIn", desc := "(I)I" } : MethodName) ∈ GW := inGW (List.mem_of_getElem? (i := 1757) (by rfl)) (by decide +kernel)
theorem lkX11_280 : LK "DatalogmillModel" 280 yX11_brokenIn := Or.inl mw1757
set_option maxRecDepth 20000 in
theorem mw1760 : Cond.code yX11_brokenIn cX11_brokenIn 4 (some .int) ∈ GW := inGW (List.mem_of_getElem? (i := 1760) (by rfl)) (by decide +kernel)
theorem ml_Re_brokenIn : ML yX11_brokenIn cX11_brokenIn 4 (some .int) 1 := ⟨mw1760, mw174, by decide +kernel, by decide +kernel, by decide +kernel⟩
set_option maxRecDepth 20000 in
theorem mw1759 : Cond.instanceMethod ({ cls := "DatalogmillModel", name := "brokenIn", desc := "(I)I" } : MethodName) ∈ GW := inGW (List.mem_of_getElem? (i := 1759) (by rfl)) (by decide +kernel)
set_option maxRecDepth 20000 in
theorem mw153 : Cond.selects RX11 yX11_brokenIn yX11_brokenIn ∈ GW := inGW (List.mem_of_getElem? (i := 153) (by rfl)) (by decide +kernel)
theorem vl_Re_brokenIn : VL yX11_brokenIn := ⟨mw1759, mw153⟩
set_option maxRecDepth 20000 in
theorem mw1769 : Cond.methodLink "DatalogmillModel" (283 : Nat) ({ cls := "DatalogmillModel", name := "repairs", desc := "(I)Z" } : MethodName) ∈ GW := inGW (List.mem_of_getElem? (i := 1769) (by rfl)) (by decide +kernel)
theorem lkX11_283 : LK "DatalogmillModel" 283 yX11_repairs := Or.inl mw1769
set_option maxRecDepth 20000 in
theorem mw1772 : Cond.code yX11_repairs cX11_repairs 2 (some .boolean) ∈ GW := inGW (List.mem_of_getElem? (i := 1772) (by rfl)) (by decide +kernel)
theorem ml_Re_repairs : ML yX11_repairs cX11_repairs 2 (some .boolean) 1 := ⟨mw1772, mw174, by decide +kernel, by decide +kernel, by decide +kernel⟩
set_option maxRecDepth 20000 in
theorem mw1771 : Cond.instanceMethod ({ cls := "DatalogmillModel", name := "repairs", desc := "(I)Z" } : MethodName) ∈ GW := inGW (List.mem_of_getElem? (i := 1771) (by rfl)) (by decide +kernel)
set_option maxRecDepth 20000 in
theorem mw155 : Cond.selects RX11 yX11_repairs yX11_repairs ∈ GW := inGW (List.mem_of_getElem? (i := 155) (by rfl)) (by decide +kernel)
theorem vl_Re_repairs : VL yX11_repairs := ⟨mw1771, mw155⟩
set_option maxRecDepth 20000 in
theorem mw1396 : Cond.fieldLink "DatalogmillModel" (286 : Nat) "DatalogmillModel" "goals" "I" ∈ GW := inGW (List.mem_of_getElem? (i := 1396) (by rfl)) (by decide +kernel)
theorem flX11_286 : FL RX11 286 TB 12 32 := ⟨RX11, TX11, 38, rfl, ⟨by decide, by decide, by decide⟩, inWX11, Or.inl mw1396⟩
theorem flX11_86 : FL RX11 86 TB 12 33 := ⟨RX11, TX11, 38, rfl, ⟨by decide, by decide, by decide⟩, inWX11, Or.inl mw1397⟩
theorem flX11_89 : FL RX11 89 TB 12 34 := ⟨RX11, TX11, 38, rfl, ⟨by decide, by decide, by decide⟩, inWX11, Or.inl mw1398⟩
theorem fpX11_286 : FP RX11 286 TB 12 32 .int := ⟨RX11, TX11, 38, rfl, ⟨by decide, by decide, by decide⟩, inWX11, Or.inl mw1396, ⟨tyX11, tyX11_ok, rfl⟩, nmX11, rfl⟩
set_option maxRecDepth 20000 in
theorem mw1785 : Cond.methodLink "DatalogmillModel" (289 : Nat) ({ cls := "DatalogmillModel", name := "asked", desc := "(II)I" } : MethodName) ∈ GW := inGW (List.mem_of_getElem? (i := 1785) (by rfl)) (by decide +kernel)
theorem lkX11_289 : LK "DatalogmillModel" 289 yX11_asked := Or.inl mw1785
set_option maxRecDepth 20000 in
theorem mw1788 : Cond.code yX11_asked cX11_asked 4 (some .int) ∈ GW := inGW (List.mem_of_getElem? (i := 1788) (by rfl)) (by decide +kernel)
theorem ml_Re_asked : ML yX11_asked cX11_asked 4 (some .int) 2 := ⟨mw1788, mw174, by decide +kernel, by decide +kernel, by decide +kernel⟩
set_option maxRecDepth 20000 in
theorem mw1787 : Cond.instanceMethod ({ cls := "DatalogmillModel", name := "asked", desc := "(II)I" } : MethodName) ∈ GW := inGW (List.mem_of_getElem? (i := 1787) (by rfl)) (by decide +kernel)
set_option maxRecDepth 20000 in
theorem mw158 : Cond.selects RX11 yX11_asked yX11_asked ∈ GW := inGW (List.mem_of_getElem? (i := 158) (by rfl)) (by decide +kernel)
theorem vl_Re_asked : VL yX11_asked := ⟨mw1787, mw158⟩
set_option maxRecDepth 20000 in
theorem mw1777 : Cond.methodLink "DatalogmillModel" (292 : Nat) ({ cls := "DatalogmillModel", name := "ask", desc := "(IIII)V" } : MethodName) ∈ GW := inGW (List.mem_of_getElem? (i := 1777) (by rfl)) (by decide +kernel)
theorem lkX11_292 : LK "DatalogmillModel" 292 yX11_ask := Or.inl mw1777
set_option maxRecDepth 20000 in
theorem mw1780 : Cond.code yX11_ask cX11_ask 11 none ∈ GW := inGW (List.mem_of_getElem? (i := 1780) (by rfl)) (by decide +kernel)
theorem ml_Re_ask : ML yX11_ask cX11_ask 11 none 4 := ⟨mw1780, mw174, by decide +kernel, by decide +kernel, by decide +kernel⟩
set_option maxRecDepth 20000 in
theorem mw1779 : Cond.instanceMethod ({ cls := "DatalogmillModel", name := "ask", desc := "(IIII)V" } : MethodName) ∈ GW := inGW (List.mem_of_getElem? (i := 1779) (by rfl)) (by decide +kernel)
set_option maxRecDepth 20000 in
theorem mw156 : Cond.selects RX11 yX11_ask yX11_ask ∈ GW := inGW (List.mem_of_getElem? (i := 156) (by rfl)) (by decide +kernel)
theorem vl_Re_ask : VL yX11_ask := ⟨mw1779, mw156⟩
set_option maxRecDepth 20000 in
theorem mw1781 : Cond.methodLink "DatalogmillModel" (296 : Nat) ({ cls := "DatalogmillModel", name := "askBy", desc := "(II)V" } : MethodName) ∈ GW := inGW (List.mem_of_getElem? (i := 1781) (by rfl)) (by decide +kernel)
theorem lkX11_296 : LK "DatalogmillModel" 296 yX11_askBy := Or.inl mw1781
set_option maxRecDepth 20000 in
theorem mw1784 : Cond.code yX11_askBy cX11_askBy 6 none ∈ GW := inGW (List.mem_of_getElem? (i := 1784) (by rfl)) (by decide +kernel)
theorem ml_Re_askBy : ML yX11_askBy cX11_askBy 6 none 2 := ⟨mw1784, mw174, by decide +kernel, by decide +kernel, by decide +kernel⟩
set_option maxRecDepth 20000 in
theorem mw1783 : Cond.instanceMethod ({ cls := "DatalogmillModel", name := "askBy", desc := "(II)V" } : MethodName) ∈ GW := inGW (List.mem_of_getElem? (i := 1783) (by rfl)) (by decide +kernel)
set_option maxRecDepth 20000 in
theorem mw157 : Cond.selects RX11 yX11_askBy yX11_askBy ∈ GW := inGW (List.mem_of_getElem? (i := 157) (by rfl)) (by decide +kernel)
theorem vl_Re_askBy : VL yX11_askBy := ⟨mw1783, mw157⟩
set_option maxRecDepth 20000 in
theorem mw1801 : Cond.methodLink "DatalogmillModel" (306 : Nat) ({ cls := "DatalogmillModel", name := "bits", desc := "(I)I" } : MethodName) ∈ GW := inGW (List.mem_of_getElem? (i := 1801) (by rfl)) (by decide +kernel)
theorem lkX11_306 : LK "DatalogmillModel" 306 yX11_bits := Or.inl mw1801
set_option maxRecDepth 20000 in
theorem mw1803 : Cond.code yX11_bits cX11_bits 1 (some .int) ∈ GW := inGW (List.mem_of_getElem? (i := 1803) (by rfl)) (by decide +kernel)
theorem ml_Re_bits : ML yX11_bits cX11_bits 1 (some .int) 1 := ⟨mw1803, mw174, by decide +kernel, by decide +kernel, by decide +kernel⟩
set_option maxRecDepth 20000 in
theorem mw1802 : Cond.static ({ cls := "DatalogmillModel", name := "bits", desc := "(I)I" } : MethodName) ∈ GW := inGW (List.mem_of_getElem? (i := 1802) (by rfl)) (by decide +kernel)
theorem flX11_92 : FL RX11 92 TB 12 36 := ⟨RX11, TX11, 38, rfl, ⟨by decide, by decide, by decide⟩, inWX11, Or.inl mw1400⟩
set_option maxRecDepth 20000 in
theorem mw1399 : Cond.fieldLink "DatalogmillModel" (300 : Nat) "DatalogmillModel" "planned" "I" ∈ GW := inGW (List.mem_of_getElem? (i := 1399) (by rfl)) (by decide +kernel)
theorem flX11_300 : FL RX11 300 TB 12 35 := ⟨RX11, TX11, 38, rfl, ⟨by decide, by decide, by decide⟩, inWX11, Or.inl mw1399⟩
theorem flX11_95 : FL RX11 95 TB 12 37 := ⟨RX11, TX11, 38, rfl, ⟨by decide, by decide, by decide⟩, inWX11, Or.inl mw1401⟩
theorem fpX11_300 : FP RX11 300 TB 12 35 .int := ⟨RX11, TX11, 38, rfl, ⟨by decide, by decide, by decide⟩, inWX11, Or.inl mw1399, ⟨tyX11, tyX11_ok, rfl⟩, nmX11, rfl⟩
set_option maxRecDepth 20000 in
theorem mw1797 : Cond.methodLink "DatalogmillModel" (303 : Nat) ({ cls := "DatalogmillModel", name := "searched", desc := "(II)I" } : MethodName) ∈ GW := inGW (List.mem_of_getElem? (i := 1797) (by rfl)) (by decide +kernel)
theorem lkX11_303 : LK "DatalogmillModel" 303 yX11_searched := Or.inl mw1797
set_option maxRecDepth 20000 in
theorem mw1800 : Cond.code yX11_searched cX11_searched 6 (some .int) ∈ GW := inGW (List.mem_of_getElem? (i := 1800) (by rfl)) (by decide +kernel)
theorem ml_Re_searched : ML yX11_searched cX11_searched 6 (some .int) 2 := ⟨mw1800, mw174, by decide +kernel, by decide +kernel, by decide +kernel⟩
set_option maxRecDepth 20000 in
theorem mw1799 : Cond.instanceMethod ({ cls := "DatalogmillModel", name := "searched", desc := "(II)I" } : MethodName) ∈ GW := inGW (List.mem_of_getElem? (i := 1799) (by rfl)) (by decide +kernel)
set_option maxRecDepth 20000 in
theorem mw160 : Cond.selects RX11 yX11_searched yX11_searched ∈ GW := inGW (List.mem_of_getElem? (i := 160) (by rfl)) (by decide +kernel)
theorem vl_Re_searched : VL yX11_searched := ⟨mw1799, mw160⟩
set_option maxRecDepth 20000 in
theorem mw1793 : Cond.methodLink "DatalogmillModel" (309 : Nat) ({ cls := "DatalogmillModel", name := "makePlan", desc := "(I)V" } : MethodName) ∈ GW := inGW (List.mem_of_getElem? (i := 1793) (by rfl)) (by decide +kernel)
theorem lkX11_309 : LK "DatalogmillModel" 309 yX11_makePlan := Or.inl mw1793
set_option maxRecDepth 20000 in
theorem mw1796 : Cond.code yX11_makePlan cX11_makePlan 9 none ∈ GW := inGW (List.mem_of_getElem? (i := 1796) (by rfl)) (by decide +kernel)
theorem ml_Re_makePlan : ML yX11_makePlan cX11_makePlan 9 none 1 := ⟨mw1796, mw174, by decide +kernel, by decide +kernel, by decide +kernel⟩
set_option maxRecDepth 20000 in
theorem mw1795 : Cond.instanceMethod ({ cls := "DatalogmillModel", name := "makePlan", desc := "(I)V" } : MethodName) ∈ GW := inGW (List.mem_of_getElem? (i := 1795) (by rfl)) (by decide +kernel)
set_option maxRecDepth 20000 in
theorem mw159 : Cond.selects RX11 yX11_makePlan yX11_makePlan ∈ GW := inGW (List.mem_of_getElem? (i := 159) (by rfl)) (by decide +kernel)
theorem vl_Re_makePlan : VL yX11_makePlan := ⟨mw1795, mw159⟩
set_option maxRecDepth 20000 in
theorem mw1808 : Cond.methodLink "DatalogmillModel" (312 : Nat) ({ cls := "DatalogmillModel", name := "areKeyed", desc := "(II)Z" } : MethodName) ∈ GW := inGW (List.mem_of_getElem? (i := 1808) (by rfl)) (by decide +kernel)
theorem lkX11_312 : LK "DatalogmillModel" 312 yX11_areKeyed := Or.inl mw1808
set_option maxRecDepth 20000 in
theorem mw1811 : Cond.code yX11_areKeyed cX11_areKeyed 5 (some .boolean) ∈ GW := inGW (List.mem_of_getElem? (i := 1811) (by rfl)) (by decide +kernel)
theorem ml_Re_areKeyed : ML yX11_areKeyed cX11_areKeyed 5 (some .boolean) 2 := ⟨mw1811, mw174, by decide +kernel, by decide +kernel, by decide +kernel⟩
set_option maxRecDepth 20000 in
theorem mw1810 : Cond.instanceMethod ({ cls := "DatalogmillModel", name := "areKeyed", desc := "(II)Z" } : MethodName) ∈ GW := inGW (List.mem_of_getElem? (i := 1810) (by rfl)) (by decide +kernel)
set_option maxRecDepth 20000 in
theorem mw161 : Cond.selects RX11 yX11_areKeyed yX11_areKeyed ∈ GW := inGW (List.mem_of_getElem? (i := 161) (by rfl)) (by decide +kernel)
theorem vl_Re_areKeyed : VL yX11_areKeyed := ⟨mw1810, mw161⟩
set_option maxRecDepth 20000 in
theorem mw1816 : Cond.methodLink "DatalogmillModel" (315 : Nat) ({ cls := "DatalogmillModel", name := "served", desc := "(I)I" } : MethodName) ∈ GW := inGW (List.mem_of_getElem? (i := 1816) (by rfl)) (by decide +kernel)
theorem lkX11_315 : LK "DatalogmillModel" 315 yX11_served := Or.inl mw1816
set_option maxRecDepth 20000 in
theorem mw1818 : Cond.code yX11_served cX11_served 3 (some .int) ∈ GW := inGW (List.mem_of_getElem? (i := 1818) (by rfl)) (by decide +kernel)
theorem ml_Re_served : ML yX11_served cX11_served 3 (some .int) 1 := ⟨mw1818, mw174, by decide +kernel, by decide +kernel, by decide +kernel⟩
set_option maxRecDepth 20000 in
theorem mw1817 : Cond.static ({ cls := "DatalogmillModel", name := "served", desc := "(I)I" } : MethodName) ∈ GW := inGW (List.mem_of_getElem? (i := 1817) (by rfl)) (by decide +kernel)
theorem rl64 : R32 (64) := ⟨by decide, by decide⟩
theorem flX0_25 : FL RX0 25 TA 1 0 := ⟨RX0, TX0, 6, rfl, ⟨by decide, by decide, by decide⟩, inWX0, Or.inl mw258⟩
theorem flX0_9 : FL RX0 9 TA 1 1 := ⟨RX0, TX0, 6, rfl, ⟨by decide, by decide, by decide⟩, inWX0, Or.inl mw264⟩
set_option maxRecDepth 20000 in
theorem mw1023 : Cond.methodLink "Datalogmill$Body" (50 : Nat) ({ cls := "Datalogmill$Body", name := "subjectOf", desc := "(I)I" } : MethodName) ∈ GW := inGW (List.mem_of_getElem? (i := 1023) (by rfl)) (by decide +kernel)
theorem lkX0_50 : LK "Datalogmill$Body" 50 yX0_subjectOf := Or.inl mw1023
set_option maxRecDepth 20000 in
theorem mw1024 : Cond.methodLink "Datalogmill$Body" (57 : Nat) ({ cls := "Datalogmill$Body", name := "push", desc := "(IIIII)I" } : MethodName) ∈ GW := inGW (List.mem_of_getElem? (i := 1024) (by rfl)) (by decide +kernel)
theorem lkX0_57 : LK "Datalogmill$Body" 57 yX0_push := Or.inl mw1024
set_option maxRecDepth 20000 in
theorem mw973 : Cond.code yX0_push cX0_push 7 (some .int) ∈ GW := inGW (List.mem_of_getElem? (i := 973) (by rfl)) (by decide +kernel)
theorem ml_Bo_push : ML yX0_push cX0_push 7 (some .int) 5 := ⟨mw973, mw167, by decide +kernel, by decide +kernel, by decide +kernel⟩
set_option maxRecDepth 20000 in
theorem mw972 : Cond.instanceMethod ({ cls := "Datalogmill$Body", name := "push", desc := "(IIIII)I" } : MethodName) ∈ GW := inGW (List.mem_of_getElem? (i := 972) (by rfl)) (by decide +kernel)
set_option maxRecDepth 20000 in
theorem mw64 : Cond.selects RX0 yX0_push yX0_push ∈ GW := inGW (List.mem_of_getElem? (i := 64) (by rfl)) (by decide +kernel)
theorem vl_Bo_push : VL yX0_push := ⟨mw972, mw64⟩
set_option maxRecDepth 20000 in
theorem mw1022 : Cond.methodLink "Datalogmill$Body" (39 : Nat) ({ cls := "Datalogmill$Body", name := "empty", desc := "()V" } : MethodName) ∈ GW := inGW (List.mem_of_getElem? (i := 1022) (by rfl)) (by decide +kernel)
theorem lkX0_39 : LK "Datalogmill$Body" 39 yX0_empty := Or.inl mw1022
set_option maxRecDepth 20000 in
theorem mw270 : Cond.fieldLink "Datalogmill$Body" (42 : Nat) "Datalogmill$Body" "removed" "Z" ∈ GW := inGW (List.mem_of_getElem? (i := 270) (by rfl)) (by decide +kernel)
theorem fpX0_42 : FP RX0 42 TA 1 2 .boolean := ⟨RX0, TX0, 6, rfl, ⟨by decide, by decide, by decide⟩, inWX0, Or.inl mw270, ⟨tyX0, tyX0_ok, rfl⟩, nmX0, rfl⟩
set_option maxRecDepth 20000 in
theorem mt1010 : Cond.methodLinkNest "Datalogmill$Body" (61 : Nat) ({ cls := "Datalogmill", name := "variableBit", desc := "(I)I" } : MethodName) "Datalogmill" ∈ lw_tbl := List.mem_of_getElem? (i := 1010) (by rfl)
theorem lkX0_61 : LK "Datalogmill$Body" 61 yX10_variableBit := Or.inr ⟨_, mt1010⟩
set_option maxRecDepth 20000 in
theorem mw1005 : Cond.methodLink "Datalogmill$Body" (64 : Nat) ({ cls := "Datalogmill$Body", name := "variablesFrom", desc := "(II)I" } : MethodName) ∈ GW := inGW (List.mem_of_getElem? (i := 1005) (by rfl)) (by decide +kernel)
theorem lkX0_64 : LK "Datalogmill$Body" 64 yX0_variablesFrom := Or.inl mw1005
set_option maxRecDepth 20000 in
theorem mw1008 : Cond.code yX0_variablesFrom cX0_variablesFrom 5 (some .int) ∈ GW := inGW (List.mem_of_getElem? (i := 1008) (by rfl)) (by decide +kernel)
theorem ml_Bo_variablesFrom : ML yX0_variablesFrom cX0_variablesFrom 5 (some .int) 2 := ⟨mw1008, mw167, by decide +kernel, by decide +kernel, by decide +kernel⟩
set_option maxRecDepth 20000 in
theorem mw1007 : Cond.instanceMethod ({ cls := "Datalogmill$Body", name := "variablesFrom", desc := "(II)I" } : MethodName) ∈ GW := inGW (List.mem_of_getElem? (i := 1007) (by rfl)) (by decide +kernel)
set_option maxRecDepth 20000 in
theorem mw67 : Cond.selects RX0 yX0_variablesFrom yX0_variablesFrom ∈ GW := inGW (List.mem_of_getElem? (i := 67) (by rfl)) (by decide +kernel)
theorem vl_Bo_variablesFrom : VL yX0_variablesFrom := ⟨mw1007, mw67⟩
set_option maxRecDepth 20000 in
theorem mw1001 : Cond.methodLink "Datalogmill$Body" (67 : Nat) ({ cls := "Datalogmill$Body", name := "boundVariables", desc := "()I" } : MethodName) ∈ GW := inGW (List.mem_of_getElem? (i := 1001) (by rfl)) (by decide +kernel)
theorem lkX0_67 : LK "Datalogmill$Body" 67 yX0_boundVariables := Or.inl mw1001
set_option maxRecDepth 20000 in
theorem mw1004 : Cond.code yX0_boundVariables cX0_boundVariables 5 (some .int) ∈ GW := inGW (List.mem_of_getElem? (i := 1004) (by rfl)) (by decide +kernel)
theorem ml_Bo_boundVariables : ML yX0_boundVariables cX0_boundVariables 5 (some .int) 0 := ⟨mw1004, mw167, by decide +kernel, by decide +kernel, by decide +kernel⟩
set_option maxRecDepth 20000 in
theorem mw1003 : Cond.instanceMethod ({ cls := "Datalogmill$Body", name := "boundVariables", desc := "()I" } : MethodName) ∈ GW := inGW (List.mem_of_getElem? (i := 1003) (by rfl)) (by decide +kernel)
set_option maxRecDepth 20000 in
theorem mw66 : Cond.selects RX0 yX0_boundVariables yX0_boundVariables ∈ GW := inGW (List.mem_of_getElem? (i := 66) (by rfl)) (by decide +kernel)
theorem vl_Bo_boundVariables : VL yX0_boundVariables := ⟨mw1003, mw66⟩
theorem fpX2_31 : FP RX2 31 TA 3 0 .int := ⟨RX2, TX2, 8, rfl, ⟨by decide, by decide, by decide⟩, inWX2, Or.inl mw217, ⟨tyX2, tyX2_ok, rfl⟩, nmX2, rfl⟩
set_option maxRecDepth 20000 in
theorem mw220 : Cond.fieldLink "Datalogmill$Facts" (35 : Nat) "Datalogmill$Facts" "left" "I" ∈ GW := inGW (List.mem_of_getElem? (i := 220) (by rfl)) (by decide +kernel)
theorem flX2_35 : FL RX2 35 TA 3 1 := ⟨RX2, TX2, 8, rfl, ⟨by decide, by decide, by decide⟩, inWX2, Or.inl mw220⟩
theorem fpX2_35 : FP RX2 35 TA 3 1 .int := ⟨RX2, TX2, 8, rfl, ⟨by decide, by decide, by decide⟩, inWX2, Or.inl mw220, ⟨tyX2, tyX2_ok, rfl⟩, nmX2, rfl⟩
set_option maxRecDepth 20000 in
theorem mw1312 : Cond.constant "java/lang/Integer" (265 : Nat) (1431655765 : Int32) ∈ GW := inGW (List.mem_of_getElem? (i := 1312) (by rfl)) (by decide +kernel)
theorem kcJ6_265 : Cond.constant RJ6 265 (ii (1431655765)) ∈ GW := by
  rw [show ii (1431655765) = (1431655765 : Int32) by decide]
  exact mw1312
theorem rl1431655765 : R32 (1431655765) := ⟨by decide, by decide⟩
set_option maxRecDepth 20000 in
theorem mw1313 : Cond.constant "java/lang/Integer" (266 : Nat) (858993459 : Int32) ∈ GW := inGW (List.mem_of_getElem? (i := 1313) (by rfl)) (by decide +kernel)
theorem kcJ6_266 : Cond.constant RJ6 266 (ii (858993459)) ∈ GW := by
  rw [show ii (858993459) = (858993459 : Int32) by decide]
  exact mw1313
theorem rl858993459 : R32 (858993459) := ⟨by decide, by decide⟩
set_option maxRecDepth 20000 in
theorem mw1314 : Cond.constant "java/lang/Integer" (267 : Nat) (252645135 : Int32) ∈ GW := inGW (List.mem_of_getElem? (i := 1314) (by rfl)) (by decide +kernel)
theorem kcJ6_267 : Cond.constant RJ6 267 (ii (252645135)) ∈ GW := by
  rw [show ii (252645135) = (252645135 : Int32) by decide]
  exact mw1314
theorem rl252645135 : R32 (252645135) := ⟨by decide, by decide⟩
theorem rl16 : R32 (16) := ⟨by decide, by decide⟩
theorem rl63 : R32 (63) := ⟨by decide, by decide⟩
set_option maxRecDepth 20000 in
theorem mt1315 : Cond.methodLinkNest "Datalogmill$Plan" (43 : Nat) ({ cls := "Datalogmill$Body", name := "formOf", desc := "(I)I" } : MethodName) "Datalogmill" ∈ lw_tbl := List.mem_of_getElem? (i := 1315) (by rfl)
theorem lkX6_43 : LK "Datalogmill$Plan" 43 yX0_formOf := Or.inr ⟨_, mt1315⟩
set_option maxRecDepth 20000 in
theorem mt259 : Cond.fieldLinkNest "Datalogmill$Plan" (22 : Nat) "Datalogmill$Body" "count" "I" "Datalogmill" ∈ lw_tbl := List.mem_of_getElem? (i := 259) (by rfl)
theorem flX6_22 : FL RX6 22 TA 1 0 := ⟨RX0, TX0, 6, rfl, ⟨by decide, by decide, by decide⟩, inWX0, Or.inr ⟨_, mt259⟩⟩
theorem flX6_9 : FL RX6 9 TA 7 1 := ⟨RX6, TX6, 3, rfl, ⟨by decide, by decide, by decide⟩, inWX6, Or.inl mw444⟩
theorem flX6_15 : FL RX6 15 TA 7 2 := ⟨RX6, TX6, 3, rfl, ⟨by decide, by decide, by decide⟩, inWX6, Or.inl mw445⟩
set_option maxRecDepth 20000 in
theorem mw443 : Cond.fieldLink "Datalogmill$Plan" (18 : Nat) "Datalogmill$Plan" "count" "I" ∈ GW := inGW (List.mem_of_getElem? (i := 443) (by rfl)) (by decide +kernel)
theorem flX6_18 : FL RX6 18 TA 7 0 := ⟨RX6, TX6, 3, rfl, ⟨by decide, by decide, by decide⟩, inWX6, Or.inl mw443⟩
theorem fpX6_18 : FP RX6 18 TA 7 0 .int := ⟨RX6, TX6, 3, rfl, ⟨by decide, by decide, by decide⟩, inWX6, Or.inl mw443, ⟨tyX6, tyX6_ok, rfl⟩, nmX6, rfl⟩
set_option maxRecDepth 20000 in
theorem mt1316 : Cond.methodLinkNest "Datalogmill$Plan" (46 : Nat) ({ cls := "Datalogmill$Body", name := "variablesFrom", desc := "(II)I" } : MethodName) "Datalogmill" ∈ lw_tbl := List.mem_of_getElem? (i := 1316) (by rfl)
theorem lkX6_46 : LK "Datalogmill$Plan" 46 yX0_variablesFrom := Or.inr ⟨_, mt1316⟩
set_option maxRecDepth 20000 in
theorem mt1303 : Cond.methodLinkNest "Datalogmill$Plan" (25 : Nat) ({ cls := "Datalogmill$Body", name := "subjectOf", desc := "(I)I" } : MethodName) "Datalogmill" ∈ lw_tbl := List.mem_of_getElem? (i := 1303) (by rfl)
theorem lkX6_25 : LK "Datalogmill$Plan" 25 yX0_subjectOf := Or.inr ⟨_, mt1303⟩
set_option maxRecDepth 20000 in
theorem mt1304 : Cond.methodLinkNest "Datalogmill$Plan" (29 : Nat) ({ cls := "Datalogmill$Schema", name := "columnsOf", desc := "(I)I" } : MethodName) "Datalogmill" ∈ lw_tbl := List.mem_of_getElem? (i := 1304) (by rfl)
theorem lkX6_29 : LK "Datalogmill$Plan" 29 yX8_columnsOf := Or.inr ⟨_, mt1304⟩
set_option maxRecDepth 20000 in
theorem mt1305 : Cond.methodLinkNest "Datalogmill$Plan" (34 : Nat) ({ cls := "Datalogmill$Body", name := "knownColumns", desc := "(III)I" } : MethodName) "Datalogmill" ∈ lw_tbl := List.mem_of_getElem? (i := 1305) (by rfl)
theorem lkX6_34 : LK "Datalogmill$Plan" 34 yX0_knownColumns := Or.inr ⟨_, mt1305⟩
set_option maxRecDepth 20000 in
theorem mw1308 : Cond.code yX0_knownColumns cX0_knownColumns 7 (some .int) ∈ GW := inGW (List.mem_of_getElem? (i := 1308) (by rfl)) (by decide +kernel)
theorem ml_Bo_knownColumns : ML yX0_knownColumns cX0_knownColumns 7 (some .int) 3 := ⟨mw1308, mw167, by decide +kernel, by decide +kernel, by decide +kernel⟩
set_option maxRecDepth 20000 in
theorem mw1307 : Cond.instanceMethod ({ cls := "Datalogmill$Body", name := "knownColumns", desc := "(III)I" } : MethodName) ∈ GW := inGW (List.mem_of_getElem? (i := 1307) (by rfl)) (by decide +kernel)
set_option maxRecDepth 20000 in
theorem mw106 : Cond.selects RX0 yX0_knownColumns yX0_knownColumns ∈ GW := inGW (List.mem_of_getElem? (i := 106) (by rfl)) (by decide +kernel)
theorem vl_Bo_knownColumns : VL yX0_knownColumns := ⟨mw1307, mw106⟩
set_option maxRecDepth 20000 in
theorem mw1309 : Cond.methodLink "Datalogmill$Plan" (38 : Nat) ({ cls := "java/lang/Integer", name := "bitCount", desc := "(I)I" } : MethodName) ∈ GW := inGW (List.mem_of_getElem? (i := 1309) (by rfl)) (by decide +kernel)
theorem lkX6_38 : LK "Datalogmill$Plan" 38 yJ6_bitCount_0f7a4 := Or.inl mw1309
set_option maxRecDepth 20000 in
theorem mw1311 : Cond.code yJ6_bitCount_0f7a4 cJ6_bitCount_0f7a4 1 (some .int) ∈ GW := inGW (List.mem_of_getElem? (i := 1311) (by rfl)) (by decide +kernel)
set_option maxRecDepth 20000 in
theorem mw182 : Cond.initialized "java/lang/Integer" ∈ GW := inGW (List.mem_of_getElem? (i := 182) (by rfl)) (by decide +kernel)
theorem ml_In_bitCount : ML yJ6_bitCount_0f7a4 cJ6_bitCount_0f7a4 1 (some .int) 1 := ⟨mw1311, mw182, by decide +kernel, by decide +kernel, by decide +kernel⟩
set_option maxRecDepth 20000 in
theorem mw1310 : Cond.static ({ cls := "java/lang/Integer", name := "bitCount", desc := "(I)I" } : MethodName) ∈ GW := inGW (List.mem_of_getElem? (i := 1310) (by rfl)) (by decide +kernel)
theorem rlm2 : R32 (-2) := ⟨by decide, by decide⟩
set_option maxRecDepth 20000 in
theorem mw1350 : Cond.methodLink "Datalogmill$Plan" (50 : Nat) ({ cls := "Datalogmill$Plan", name := "placeAt", desc := "(I)I" } : MethodName) ∈ GW := inGW (List.mem_of_getElem? (i := 1350) (by rfl)) (by decide +kernel)
theorem lkX6_50 : LK "Datalogmill$Plan" 50 yX6_placeAt := Or.inl mw1350
set_option maxRecDepth 20000 in
theorem mw1320 : Cond.code yX6_placeAt cX6_placeAt 2 (some .int) ∈ GW := inGW (List.mem_of_getElem? (i := 1320) (by rfl)) (by decide +kernel)
theorem ml_Pl_placeAt : ML yX6_placeAt cX6_placeAt 2 (some .int) 1 := ⟨mw1320, mw173, by decide +kernel, by decide +kernel, by decide +kernel⟩
set_option maxRecDepth 20000 in
theorem mw1319 : Cond.instanceMethod ({ cls := "Datalogmill$Plan", name := "placeAt", desc := "(I)I" } : MethodName) ∈ GW := inGW (List.mem_of_getElem? (i := 1319) (by rfl)) (by decide +kernel)
set_option maxRecDepth 20000 in
theorem mw107 : Cond.selects RX6 yX6_placeAt yX6_placeAt ∈ GW := inGW (List.mem_of_getElem? (i := 107) (by rfl)) (by decide +kernel)
theorem vl_Pl_placeAt : VL yX6_placeAt := ⟨mw1319, mw107⟩
set_option maxRecDepth 20000 in
theorem mw293 : Cond.fieldLink "Datalogmill$Program" (33 : Nat) "Datalogmill$Program" "ruleCount" "I" ∈ GW := inGW (List.mem_of_getElem? (i := 293) (by rfl)) (by decide +kernel)
theorem flX7_33 : FL RX7 33 TA 8 4 := ⟨RX7, TX7, 8, rfl, ⟨by decide, by decide, by decide⟩, inWX7, Or.inl mw293⟩
set_option maxRecDepth 20000 in
theorem mw1017 : Cond.methodLink "Datalogmill$Program" (37 : Nat) ({ cls := "Datalogmill$Program", name := "rule", desc := "(I)LDatalogmill$Body;" } : MethodName) ∈ GW := inGW (List.mem_of_getElem? (i := 1017) (by rfl)) (by decide +kernel)
theorem lkX7_37 : LK "Datalogmill$Program" 37 yX7_rule := Or.inl mw1017
set_option maxRecDepth 20000 in
theorem mt269 : Cond.fieldLinkNest "Datalogmill$Program" (41 : Nat) "Datalogmill$Body" "removed" "Z" "Datalogmill" ∈ lw_tbl := List.mem_of_getElem? (i := 269) (by rfl)
theorem flX7_41 : FL RX7 41 TA 1 2 := ⟨RX0, TX0, 6, rfl, ⟨by decide, by decide, by decide⟩, inWX0, Or.inr ⟨_, mt269⟩⟩
set_option maxRecDepth 20000 in
theorem mt1018 : Cond.methodLinkNest "Datalogmill$Program" (45 : Nat) ({ cls := "Datalogmill$Body", name := "copy", desc := "(LDatalogmill$Body;)V" } : MethodName) "Datalogmill" ∈ lw_tbl := List.mem_of_getElem? (i := 1018) (by rfl)
theorem lkX7_45 : LK "Datalogmill$Program" 45 yX0_copy := Or.inr ⟨_, mt1018⟩
set_option maxRecDepth 20000 in
theorem mw1021 : Cond.code yX0_copy cX0_copy 3 none ∈ GW := inGW (List.mem_of_getElem? (i := 1021) (by rfl)) (by decide +kernel)
theorem ml_Bo_copy : ML yX0_copy cX0_copy 3 none 1 := ⟨mw1021, mw167, by decide +kernel, by decide +kernel, by decide +kernel⟩
set_option maxRecDepth 20000 in
theorem mw1020 : Cond.instanceMethod ({ cls := "Datalogmill$Body", name := "copy", desc := "(LDatalogmill$Body;)V" } : MethodName) ∈ GW := inGW (List.mem_of_getElem? (i := 1020) (by rfl)) (by decide +kernel)
set_option maxRecDepth 20000 in
theorem mw69 : Cond.selects RX0 yX0_copy yX0_copy ∈ GW := inGW (List.mem_of_getElem? (i := 69) (by rfl)) (by decide +kernel)
theorem vl_Bo_copy : VL yX0_copy := ⟨mw1020, mw69⟩
theorem fpX7_33 : FP RX7 33 TA 8 4 .int := ⟨RX7, TX7, 8, rfl, ⟨by decide, by decide, by decide⟩, inWX7, Or.inl mw293, ⟨tyX7, tyX7_ok, rfl⟩, nmX7, rfl⟩
set_option maxRecDepth 20000 in
theorem mt1051 : Cond.methodLinkNest "Datalogmill$Program" (110 : Nat) ({ cls := "Datalogmill$Body", name := "mentions", desc := "(I)I" } : MethodName) "Datalogmill" ∈ lw_tbl := List.mem_of_getElem? (i := 1051) (by rfl)
theorem lkX7_110 : LK "Datalogmill$Program" 110 yX0_mentions := Or.inr ⟨_, mt1051⟩
set_option maxRecDepth 20000 in
theorem mw1054 : Cond.code yX0_mentions cX0_mentions 5 (some .int) ∈ GW := inGW (List.mem_of_getElem? (i := 1054) (by rfl)) (by decide +kernel)
theorem ml_Bo_mentions : ML yX0_mentions cX0_mentions 5 (some .int) 1 := ⟨mw1054, mw167, by decide +kernel, by decide +kernel, by decide +kernel⟩
set_option maxRecDepth 20000 in
theorem mw1053 : Cond.instanceMethod ({ cls := "Datalogmill$Body", name := "mentions", desc := "(I)I" } : MethodName) ∈ GW := inGW (List.mem_of_getElem? (i := 1053) (by rfl)) (by decide +kernel)
set_option maxRecDepth 20000 in
theorem mw75 : Cond.selects RX0 yX0_mentions yX0_mentions ∈ GW := inGW (List.mem_of_getElem? (i := 75) (by rfl)) (by decide +kernel)
theorem vl_Bo_mentions : VL yX0_mentions := ⟨mw1053, mw75⟩
theorem flX7_29 : FL RX7 29 TA 8 0 := ⟨RX7, TX7, 8, rfl, ⟨by decide, by decide, by decide⟩, inWX7, Or.inl mw289⟩
set_option maxRecDepth 20000 in
theorem mt266 : Cond.fieldLinkNest "Datalogmill$Program" (66 : Nat) "Datalogmill$Body" "target" "I" "Datalogmill" ∈ lw_tbl := List.mem_of_getElem? (i := 266) (by rfl)
theorem flX7_66 : FL RX7 66 TA 1 1 := ⟨RX0, TX0, 6, rfl, ⟨by decide, by decide, by decide⟩, inWX0, Or.inr ⟨_, mt266⟩⟩
set_option maxRecDepth 20000 in
theorem mt1049 : Cond.methodLinkNest "Datalogmill$Program" (104 : Nat) ({ cls := "Datalogmill$Schema", name := "columnsOf", desc := "(I)I" } : MethodName) "Datalogmill" ∈ lw_tbl := List.mem_of_getElem? (i := 1049) (by rfl)
theorem lkX7_104 : LK "Datalogmill$Program" 104 yX8_columnsOf := Or.inr ⟨_, mt1049⟩
set_option maxRecDepth 20000 in
theorem mt1050 : Cond.methodLinkNest "Datalogmill$Program" (107 : Nat) ({ cls := "Datalogmill$Body", name := "termOf", desc := "(II)I" } : MethodName) "Datalogmill" ∈ lw_tbl := List.mem_of_getElem? (i := 1050) (by rfl)
theorem lkX7_107 : LK "Datalogmill$Program" 107 yX0_termOf := Or.inr ⟨_, mt1050⟩
set_option maxRecDepth 20000 in
theorem mt1055 : Cond.methodLinkNest "Datalogmill$Program" (113 : Nat) ({ cls := "Datalogmill$Body", name := "sumOver", desc := "(I)I" } : MethodName) "Datalogmill" ∈ lw_tbl := List.mem_of_getElem? (i := 1055) (by rfl)
theorem lkX7_113 : LK "Datalogmill$Program" 113 yX0_sumOver := Or.inr ⟨_, mt1055⟩
set_option maxRecDepth 20000 in
theorem mw1058 : Cond.code yX0_sumOver cX0_sumOver 4 (some .int) ∈ GW := inGW (List.mem_of_getElem? (i := 1058) (by rfl)) (by decide +kernel)
theorem ml_Bo_sumOver : ML yX0_sumOver cX0_sumOver 4 (some .int) 1 := ⟨mw1058, mw167, by decide +kernel, by decide +kernel, by decide +kernel⟩
set_option maxRecDepth 20000 in
theorem mw1057 : Cond.instanceMethod ({ cls := "Datalogmill$Body", name := "sumOver", desc := "(I)I" } : MethodName) ∈ GW := inGW (List.mem_of_getElem? (i := 1057) (by rfl)) (by decide +kernel)
set_option maxRecDepth 20000 in
theorem mw76 : Cond.selects RX0 yX0_sumOver yX0_sumOver ∈ GW := inGW (List.mem_of_getElem? (i := 76) (by rfl)) (by decide +kernel)
theorem vl_Bo_sumOver : VL yX0_sumOver := ⟨mw1057, mw76⟩
set_option maxRecDepth 20000 in
theorem mt1037 : Cond.methodLinkNest "Datalogmill$Program" (76 : Nat) ({ cls := "Datalogmill$Body", name := "subjectOf", desc := "(I)I" } : MethodName) "Datalogmill" ∈ lw_tbl := List.mem_of_getElem? (i := 1037) (by rfl)
theorem lkX7_76 : LK "Datalogmill$Program" 76 yX0_subjectOf := Or.inr ⟨_, mt1037⟩
set_option maxRecDepth 20000 in
theorem mt1044 : Cond.methodLinkNest "Datalogmill$Program" (96 : Nat) ({ cls := "Datalogmill$Schema", name := "kindOf", desc := "(I)I" } : MethodName) "Datalogmill" ∈ lw_tbl := List.mem_of_getElem? (i := 1044) (by rfl)
theorem lkX7_96 : LK "Datalogmill$Program" 96 yX8_kindOf := Or.inr ⟨_, mt1044⟩
set_option maxRecDepth 20000 in
theorem mt1043 : Cond.methodLinkNest "Datalogmill$Program" (93 : Nat) ({ cls := "Datalogmill$Body", name := "formOf", desc := "(I)I" } : MethodName) "Datalogmill" ∈ lw_tbl := List.mem_of_getElem? (i := 1043) (by rfl)
theorem lkX7_93 : LK "Datalogmill$Program" 93 yX0_formOf := Or.inr ⟨_, mt1043⟩
set_option maxRecDepth 20000 in
theorem mw1045 : Cond.methodLink "Datalogmill$Program" (101 : Nat) ({ cls := "Datalogmill$Program", name := "grows", desc := "(LDatalogmill$Body;I)Z" } : MethodName) ∈ GW := inGW (List.mem_of_getElem? (i := 1045) (by rfl)) (by decide +kernel)
theorem lkX7_101 : LK "Datalogmill$Program" 101 yX7_grows := Or.inl mw1045
set_option maxRecDepth 20000 in
theorem mw1048 : Cond.code yX7_grows cX7_grows 10 (some .boolean) ∈ GW := inGW (List.mem_of_getElem? (i := 1048) (by rfl)) (by decide +kernel)
theorem ml_Pr_grows : ML yX7_grows cX7_grows 10 (some .boolean) 2 := ⟨mw1048, mw166, by decide +kernel, by decide +kernel, by decide +kernel⟩
set_option maxRecDepth 20000 in
theorem mw1047 : Cond.instanceMethod ({ cls := "Datalogmill$Program", name := "grows", desc := "(LDatalogmill$Body;I)Z" } : MethodName) ∈ GW := inGW (List.mem_of_getElem? (i := 1047) (by rfl)) (by decide +kernel)
set_option maxRecDepth 20000 in
theorem mw74 : Cond.selects RX7 yX7_grows yX7_grows ∈ GW := inGW (List.mem_of_getElem? (i := 74) (by rfl)) (by decide +kernel)
theorem vl_Pr_grows : VL yX7_grows := ⟨mw1047, mw74⟩
set_option maxRecDepth 20000 in
theorem mw300 : Cond.fieldLink "Datalogmill$Program" (59 : Nat) "Datalogmill$Program" "top" "I" ∈ GW := inGW (List.mem_of_getElem? (i := 300) (by rfl)) (by decide +kernel)
theorem flX7_59 : FL RX7 59 TA 8 7 := ⟨RX7, TX7, 8, rfl, ⟨by decide, by decide, by decide⟩, inWX7, Or.inl mw300⟩
set_option maxRecDepth 20000 in
theorem mw1059 : Cond.methodLink "Datalogmill$Program" 87 Lib.Math.max.name ∈ GW := inGW (List.mem_of_getElem? (i := 1059) (by rfl)) (by decide +kernel)
theorem fpX7_59 : FP RX7 59 TA 8 7 .int := ⟨RX7, TX7, 8, rfl, ⟨by decide, by decide, by decide⟩, inWX7, Or.inl mw300, ⟨tyX7, tyX7_ok, rfl⟩, nmX7, rfl⟩
set_option maxRecDepth 20000 in
theorem mt262 : Cond.fieldLinkNest "Datalogmill$Program" (69 : Nat) "Datalogmill$Body" "count" "I" "Datalogmill" ∈ lw_tbl := List.mem_of_getElem? (i := 262) (by rfl)
theorem flX7_69 : FL RX7 69 TA 1 0 := ⟨RX0, TX0, 6, rfl, ⟨by decide, by decide, by decide⟩, inWX0, Or.inr ⟨_, mt262⟩⟩
set_option maxRecDepth 20000 in
theorem mt1033 : Cond.methodLinkNest "Datalogmill$Program" (72 : Nat) ({ cls := "Datalogmill$Body", name := "isAtom", desc := "(I)Z" } : MethodName) "Datalogmill" ∈ lw_tbl := List.mem_of_getElem? (i := 1033) (by rfl)
theorem lkX7_72 : LK "Datalogmill$Program" 72 yX0_isAtom := Or.inr ⟨_, mt1033⟩
set_option maxRecDepth 20000 in
theorem mw1038 : Cond.methodLink "Datalogmill$Program" (80 : Nat) ({ cls := "Datalogmill$Program", name := "levelOf", desc := "(I)I" } : MethodName) ∈ GW := inGW (List.mem_of_getElem? (i := 1038) (by rfl)) (by decide +kernel)
theorem lkX7_80 : LK "Datalogmill$Program" 80 yX7_levelOf := Or.inl mw1038
set_option maxRecDepth 20000 in
theorem mw1039 : Cond.methodLink "Datalogmill$Program" (83 : Nat) ({ cls := "Datalogmill$Program", name := "isAbove", desc := "(LDatalogmill$Body;I)Z" } : MethodName) ∈ GW := inGW (List.mem_of_getElem? (i := 1039) (by rfl)) (by decide +kernel)
theorem lkX7_83 : LK "Datalogmill$Program" 83 yX7_isAbove := Or.inl mw1039
set_option maxRecDepth 20000 in
theorem mw1042 : Cond.code yX7_isAbove cX7_isAbove 3 (some .boolean) ∈ GW := inGW (List.mem_of_getElem? (i := 1042) (by rfl)) (by decide +kernel)
theorem ml_Pr_isAbove : ML yX7_isAbove cX7_isAbove 3 (some .boolean) 2 := ⟨mw1042, mw166, by decide +kernel, by decide +kernel, by decide +kernel⟩
set_option maxRecDepth 20000 in
theorem mw1041 : Cond.instanceMethod ({ cls := "Datalogmill$Program", name := "isAbove", desc := "(LDatalogmill$Body;I)Z" } : MethodName) ∈ GW := inGW (List.mem_of_getElem? (i := 1041) (by rfl)) (by decide +kernel)
set_option maxRecDepth 20000 in
theorem mw73 : Cond.selects RX7 yX7_isAbove yX7_isAbove ∈ GW := inGW (List.mem_of_getElem? (i := 73) (by rfl)) (by decide +kernel)
theorem vl_Pr_isAbove : VL yX7_isAbove := ⟨mw1041, mw73⟩
set_option maxRecDepth 20000 in
theorem mw1029 : Cond.methodLink "Datalogmill$Program" (62 : Nat) ({ cls := "Datalogmill$Program", name := "raise", desc := "(LDatalogmill$Body;)Z" } : MethodName) ∈ GW := inGW (List.mem_of_getElem? (i := 1029) (by rfl)) (by decide +kernel)
theorem lkX7_62 : LK "Datalogmill$Program" 62 yX7_raise := Or.inl mw1029
set_option maxRecDepth 20000 in
theorem mw1032 : Cond.code yX7_raise cX7_raise 6 (some .boolean) ∈ GW := inGW (List.mem_of_getElem? (i := 1032) (by rfl)) (by decide +kernel)
theorem ml_Pr_raise : ML yX7_raise cX7_raise 6 (some .boolean) 1 := ⟨mw1032, mw166, by decide +kernel, by decide +kernel, by decide +kernel⟩
set_option maxRecDepth 20000 in
theorem mw1031 : Cond.instanceMethod ({ cls := "Datalogmill$Program", name := "raise", desc := "(LDatalogmill$Body;)Z" } : MethodName) ∈ GW := inGW (List.mem_of_getElem? (i := 1031) (by rfl)) (by decide +kernel)
set_option maxRecDepth 20000 in
theorem mw71 : Cond.selects RX7 yX7_raise yX7_raise ∈ GW := inGW (List.mem_of_getElem? (i := 71) (by rfl)) (by decide +kernel)
theorem vl_Pr_raise : VL yX7_raise := ⟨mw1031, mw71⟩
set_option maxRecDepth 20000 in
theorem mw1064 : Cond.methodLink "Datalogmill$Program" (49 : Nat) ({ cls := "Datalogmill$Program", name := "stratify", desc := "()Z" } : MethodName) ∈ GW := inGW (List.mem_of_getElem? (i := 1064) (by rfl)) (by decide +kernel)
theorem lkX7_49 : LK "Datalogmill$Program" 49 yX7_stratify := Or.inl mw1064
set_option maxRecDepth 20000 in
theorem mw1028 : Cond.code yX7_stratify cX7_stratify 4 (some .boolean) ∈ GW := inGW (List.mem_of_getElem? (i := 1028) (by rfl)) (by decide +kernel)
theorem ml_Pr_stratify : ML yX7_stratify cX7_stratify 4 (some .boolean) 0 := ⟨mw1028, mw166, by decide +kernel, by decide +kernel, by decide +kernel⟩
set_option maxRecDepth 20000 in
theorem mw1027 : Cond.instanceMethod ({ cls := "Datalogmill$Program", name := "stratify", desc := "()Z" } : MethodName) ∈ GW := inGW (List.mem_of_getElem? (i := 1027) (by rfl)) (by decide +kernel)
set_option maxRecDepth 20000 in
theorem mw70 : Cond.selects RX7 yX7_stratify yX7_stratify ∈ GW := inGW (List.mem_of_getElem? (i := 70) (by rfl)) (by decide +kernel)
theorem vl_Pr_stratify : VL yX7_stratify := ⟨mw1027, mw70⟩
set_option maxRecDepth 20000 in
theorem mw296 : Cond.fieldLink "Datalogmill$Program" (53 : Nat) "Datalogmill$Program" "denialCount" "I" ∈ GW := inGW (List.mem_of_getElem? (i := 296) (by rfl)) (by decide +kernel)
theorem flX7_53 : FL RX7 53 TA 8 5 := ⟨RX7, TX7, 8, rfl, ⟨by decide, by decide, by decide⟩, inWX7, Or.inl mw296⟩
set_option maxRecDepth 20000 in
theorem mw1080 : Cond.methodLink "Datalogmill$Program" (56 : Nat) ({ cls := "Datalogmill$Program", name := "denial", desc := "(I)LDatalogmill$Body;" } : MethodName) ∈ GW := inGW (List.mem_of_getElem? (i := 1080) (by rfl)) (by decide +kernel)
theorem lkX7_56 : LK "Datalogmill$Program" 56 yX7_denial := Or.inl mw1080
theorem fpX7_53 : FP RX7 53 TA 8 5 .int := ⟨RX7, TX7, 8, rfl, ⟨by decide, by decide, by decide⟩, inWX7, Or.inl mw296, ⟨tyX7, tyX7_ok, rfl⟩, nmX7, rfl⟩
set_option maxRecDepth 20000 in
theorem mw828 : Cond.methodLink "Datalogmill" (99 : Nat) ({ cls := "Datalogmill", name := "isKey", desc := "(III)Z" } : MethodName) ∈ GW := inGW (List.mem_of_getElem? (i := 828) (by rfl)) (by decide +kernel)
theorem lkX10_99 : LK "Datalogmill" 99 yX10_isKey := Or.inl mw828
set_option maxRecDepth 20000 in
theorem mw830 : Cond.code yX10_isKey cX10_isKey 3 (some .boolean) ∈ GW := inGW (List.mem_of_getElem? (i := 830) (by rfl)) (by decide +kernel)
theorem ml_Dm_isKey : ML yX10_isKey cX10_isKey 3 (some .boolean) 3 := ⟨mw830, mw163, by decide +kernel, by decide +kernel, by decide +kernel⟩
set_option maxRecDepth 20000 in
theorem mw829 : Cond.static ({ cls := "Datalogmill", name := "isKey", desc := "(III)Z" } : MethodName) ∈ GW := inGW (List.mem_of_getElem? (i := 829) (by rfl)) (by decide +kernel)
set_option maxRecDepth 20000 in
theorem mt847 : Cond.methodLinkNest "Datalogmill" (108 : Nat) ({ cls := "Datalogmill$Schema", name := "isDeclared", desc := "(I)Z" } : MethodName) "Datalogmill" ∈ lw_tbl := List.mem_of_getElem? (i := 847) (by rfl)
theorem lkX10_108 : LK "Datalogmill" 108 yX8_isDeclared := Or.inr ⟨_, mt847⟩
set_option maxRecDepth 20000 in
theorem mw850 : Cond.code yX8_isDeclared cX8_isDeclared 2 (some .boolean) ∈ GW := inGW (List.mem_of_getElem? (i := 850) (by rfl)) (by decide +kernel)
theorem ml_Sc_isDeclared : ML yX8_isDeclared cX8_isDeclared 2 (some .boolean) 1 := ⟨mw850, mw164, by decide +kernel, by decide +kernel, by decide +kernel⟩
set_option maxRecDepth 20000 in
theorem mw849 : Cond.instanceMethod ({ cls := "Datalogmill$Schema", name := "isDeclared", desc := "(I)Z" } : MethodName) ∈ GW := inGW (List.mem_of_getElem? (i := 849) (by rfl)) (by decide +kernel)
set_option maxRecDepth 20000 in
theorem mw52 : Cond.selects RX8 yX8_isDeclared yX8_isDeclared ∈ GW := inGW (List.mem_of_getElem? (i := 52) (by rfl)) (by decide +kernel)
theorem vl_Sc_isDeclared : VL yX8_isDeclared := ⟨mw849, mw52⟩
set_option maxRecDepth 20000 in
theorem mt867 : Cond.methodLinkNest "Datalogmill" (117 : Nat) ({ cls := "Datalogmill$Schema", name := "note", desc := "(IIII)V" } : MethodName) "Datalogmill" ∈ lw_tbl := List.mem_of_getElem? (i := 867) (by rfl)
theorem lkX10_117 : LK "Datalogmill" 117 yX8_note := Or.inr ⟨_, mt867⟩
set_option maxRecDepth 20000 in
theorem mw870 : Cond.code yX8_note cX8_note 5 none ∈ GW := inGW (List.mem_of_getElem? (i := 870) (by rfl)) (by decide +kernel)
theorem ml_Sc_note : ML yX8_note cX8_note 5 none 4 := ⟨mw870, mw164, by decide +kernel, by decide +kernel, by decide +kernel⟩
set_option maxRecDepth 20000 in
theorem mw869 : Cond.instanceMethod ({ cls := "Datalogmill$Schema", name := "note", desc := "(IIII)V" } : MethodName) ∈ GW := inGW (List.mem_of_getElem? (i := 869) (by rfl)) (by decide +kernel)
set_option maxRecDepth 20000 in
theorem mw53 : Cond.selects RX8 yX8_note yX8_note ∈ GW := inGW (List.mem_of_getElem? (i := 53) (by rfl)) (by decide +kernel)
theorem vl_Sc_note : VL yX8_note := ⟨mw869, mw53⟩
set_option maxRecDepth 20000 in
theorem mt897 : Cond.methodLinkNest "Datalogmill" (139 : Nat) ({ cls := "Datalogmill$Facts", name := "append", desc := "(IIIII)V" } : MethodName) "Datalogmill" ∈ lw_tbl := List.mem_of_getElem? (i := 897) (by rfl)
theorem lkX10_139 : LK "Datalogmill" 139 yX2_append := Or.inr ⟨_, mt897⟩
set_option maxRecDepth 20000 in
theorem mw900 : Cond.code yX2_append cX2_append 7 none ∈ GW := inGW (List.mem_of_getElem? (i := 900) (by rfl)) (by decide +kernel)
theorem ml_Fa_append : ML yX2_append cX2_append 7 none 5 := ⟨mw900, mw165, by decide +kernel, by decide +kernel, by decide +kernel⟩
set_option maxRecDepth 20000 in
theorem mw899 : Cond.instanceMethod ({ cls := "Datalogmill$Facts", name := "append", desc := "(IIIII)V" } : MethodName) ∈ GW := inGW (List.mem_of_getElem? (i := 899) (by rfl)) (by decide +kernel)
set_option maxRecDepth 20000 in
theorem mw55 : Cond.selects RX2 yX2_append yX2_append ∈ GW := inGW (List.mem_of_getElem? (i := 55) (by rfl)) (by decide +kernel)
theorem vl_Fa_append : VL yX2_append := ⟨mw899, mw55⟩
set_option maxRecDepth 20000 in
theorem mw901 : Cond.methodLink "Datalogmill" (143 : Nat) ({ cls := "Datalogmill", name := "renew", desc := "(II)Z" } : MethodName) ∈ GW := inGW (List.mem_of_getElem? (i := 901) (by rfl)) (by decide +kernel)
theorem lkX10_143 : LK "Datalogmill" 143 yX10_renew := Or.inl mw901
set_option maxRecDepth 20000 in
theorem mw904 : Cond.code yX10_renew cX10_renew 5 (some .boolean) ∈ GW := inGW (List.mem_of_getElem? (i := 904) (by rfl)) (by decide +kernel)
theorem ml_Dm_renew : ML yX10_renew cX10_renew 5 (some .boolean) 2 := ⟨mw904, mw163, by decide +kernel, by decide +kernel, by decide +kernel⟩
set_option maxRecDepth 20000 in
theorem mw903 : Cond.instanceMethod ({ cls := "Datalogmill", name := "renew", desc := "(II)Z" } : MethodName) ∈ GW := inGW (List.mem_of_getElem? (i := 903) (by rfl)) (by decide +kernel)
set_option maxRecDepth 20000 in
theorem mw56 : Cond.selects RX10 yX10_renew yX10_renew ∈ GW := inGW (List.mem_of_getElem? (i := 56) (by rfl)) (by decide +kernel)
theorem vl_Dm_renew : VL yX10_renew := ⟨mw903, mw56⟩
set_option maxRecDepth 20000 in
theorem mt910 : Cond.methodLinkNest "Datalogmill" (147 : Nat) ({ cls := "Datalogmill$Facts", name := "takeBack", desc := "()V" } : MethodName) "Datalogmill" ∈ lw_tbl := List.mem_of_getElem? (i := 910) (by rfl)
theorem lkX10_147 : LK "Datalogmill" 147 yX2_takeBack := Or.inr ⟨_, mt910⟩
set_option maxRecDepth 20000 in
theorem mw913 : Cond.code yX2_takeBack cX2_takeBack 1 none ∈ GW := inGW (List.mem_of_getElem? (i := 913) (by rfl)) (by decide +kernel)
theorem ml_Fa_takeBack : ML yX2_takeBack cX2_takeBack 1 none 0 := ⟨mw913, mw165, by decide +kernel, by decide +kernel, by decide +kernel⟩
set_option maxRecDepth 20000 in
theorem mw912 : Cond.instanceMethod ({ cls := "Datalogmill$Facts", name := "takeBack", desc := "()V" } : MethodName) ∈ GW := inGW (List.mem_of_getElem? (i := 912) (by rfl)) (by decide +kernel)
set_option maxRecDepth 20000 in
theorem mw58 : Cond.selects RX2 yX2_takeBack yX2_takeBack ∈ GW := inGW (List.mem_of_getElem? (i := 58) (by rfl)) (by decide +kernel)
theorem vl_Fa_takeBack : VL yX2_takeBack := ⟨mw912, mw58⟩
set_option maxRecDepth 20000 in
theorem mt923 : Cond.methodLinkNest "Datalogmill" (154 : Nat) ({ cls := "Datalogmill$Facts", name := "isDropped", desc := "(I)Z" } : MethodName) "Datalogmill" ∈ lw_tbl := List.mem_of_getElem? (i := 923) (by rfl)
theorem lkX10_154 : LK "Datalogmill" 154 yX2_isDropped := Or.inr ⟨_, mt923⟩
set_option maxRecDepth 20000 in
theorem mw926 : Cond.code yX2_isDropped cX2_isDropped 2 (some .boolean) ∈ GW := inGW (List.mem_of_getElem? (i := 926) (by rfl)) (by decide +kernel)
theorem ml_Fa_isDropped : ML yX2_isDropped cX2_isDropped 2 (some .boolean) 1 := ⟨mw926, mw165, by decide +kernel, by decide +kernel, by decide +kernel⟩
set_option maxRecDepth 20000 in
theorem mw925 : Cond.instanceMethod ({ cls := "Datalogmill$Facts", name := "isDropped", desc := "(I)Z" } : MethodName) ∈ GW := inGW (List.mem_of_getElem? (i := 925) (by rfl)) (by decide +kernel)
set_option maxRecDepth 20000 in
theorem mw59 : Cond.selects RX2 yX2_isDropped yX2_isDropped ∈ GW := inGW (List.mem_of_getElem? (i := 59) (by rfl)) (by decide +kernel)
theorem vl_Fa_isDropped : VL yX2_isDropped := ⟨mw925, mw59⟩
set_option maxRecDepth 20000 in
theorem mt928 : Cond.methodLinkNest "Datalogmill" (159 : Nat) ({ cls := "Datalogmill$Facts", name := "setDropped", desc := "(IZ)V" } : MethodName) "Datalogmill" ∈ lw_tbl := List.mem_of_getElem? (i := 928) (by rfl)
theorem lkX10_159 : LK "Datalogmill" 159 yX2_setDropped := Or.inr ⟨_, mt928⟩
set_option maxRecDepth 20000 in
theorem mw931 : Cond.code yX2_setDropped cX2_setDropped 3 none ∈ GW := inGW (List.mem_of_getElem? (i := 931) (by rfl)) (by decide +kernel)
theorem ml_Fa_setDropped : ML yX2_setDropped cX2_setDropped 3 none 2 := ⟨mw931, mw165, by decide +kernel, by decide +kernel, by decide +kernel⟩
set_option maxRecDepth 20000 in
theorem mw930 : Cond.instanceMethod ({ cls := "Datalogmill$Facts", name := "setDropped", desc := "(IZ)V" } : MethodName) ∈ GW := inGW (List.mem_of_getElem? (i := 930) (by rfl)) (by decide +kernel)
set_option maxRecDepth 20000 in
theorem mw60 : Cond.selects RX2 yX2_setDropped yX2_setDropped ∈ GW := inGW (List.mem_of_getElem? (i := 60) (by rfl)) (by decide +kernel)
theorem vl_Fa_setDropped : VL yX2_setDropped := ⟨mw930, mw60⟩
set_option maxRecDepth 20000 in
theorem mt932 : Cond.methodLinkNest "Datalogmill" (163 : Nat) ({ cls := "Datalogmill$Facts", name := "fromOf", desc := "(I)I" } : MethodName) "Datalogmill" ∈ lw_tbl := List.mem_of_getElem? (i := 932) (by rfl)
theorem lkX10_163 : LK "Datalogmill" 163 yX2_fromOf := Or.inr ⟨_, mt932⟩
set_option maxRecDepth 20000 in
theorem mw935 : Cond.code yX2_fromOf cX2_fromOf 2 (some .int) ∈ GW := inGW (List.mem_of_getElem? (i := 935) (by rfl)) (by decide +kernel)
theorem ml_Fa_fromOf : ML yX2_fromOf cX2_fromOf 2 (some .int) 1 := ⟨mw935, mw165, by decide +kernel, by decide +kernel, by decide +kernel⟩
set_option maxRecDepth 20000 in
theorem mw934 : Cond.instanceMethod ({ cls := "Datalogmill$Facts", name := "fromOf", desc := "(I)I" } : MethodName) ∈ GW := inGW (List.mem_of_getElem? (i := 934) (by rfl)) (by decide +kernel)
set_option maxRecDepth 20000 in
theorem mw61 : Cond.selects RX2 yX2_fromOf yX2_fromOf ∈ GW := inGW (List.mem_of_getElem? (i := 61) (by rfl)) (by decide +kernel)
theorem vl_Fa_fromOf : VL yX2_fromOf := ⟨mw934, mw61⟩
set_option maxRecDepth 20000 in
theorem mt936 : Cond.methodLinkNest "Datalogmill" (167 : Nat) ({ cls := "Datalogmill$Facts", name := "toOf", desc := "(I)I" } : MethodName) "Datalogmill" ∈ lw_tbl := List.mem_of_getElem? (i := 936) (by rfl)
theorem lkX10_167 : LK "Datalogmill" 167 yX2_toOf := Or.inr ⟨_, mt936⟩
set_option maxRecDepth 20000 in
theorem mw939 : Cond.code yX2_toOf cX2_toOf 2 (some .int) ∈ GW := inGW (List.mem_of_getElem? (i := 939) (by rfl)) (by decide +kernel)
theorem ml_Fa_toOf : ML yX2_toOf cX2_toOf 2 (some .int) 1 := ⟨mw939, mw165, by decide +kernel, by decide +kernel, by decide +kernel⟩
set_option maxRecDepth 20000 in
theorem mw938 : Cond.instanceMethod ({ cls := "Datalogmill$Facts", name := "toOf", desc := "(I)I" } : MethodName) ∈ GW := inGW (List.mem_of_getElem? (i := 938) (by rfl)) (by decide +kernel)
set_option maxRecDepth 20000 in
theorem mw62 : Cond.selects RX2 yX2_toOf yX2_toOf ∈ GW := inGW (List.mem_of_getElem? (i := 62) (by rfl)) (by decide +kernel)
theorem vl_Fa_toOf : VL yX2_toOf := ⟨mw938, mw62⟩
set_option maxRecDepth 20000 in
theorem mt221 : Cond.fieldLinkNest "Datalogmill" (170 : Nat) "Datalogmill$Facts" "left" "I" "Datalogmill" ∈ lw_tbl := List.mem_of_getElem? (i := 221) (by rfl)
theorem flX10_170 : FL RX10 170 TA 3 1 := ⟨RX2, TX2, 8, rfl, ⟨by decide, by decide, by decide⟩, inWX2, Or.inr ⟨_, mt221⟩⟩
theorem fpX10_173 : FP RX10 173 TA 11 12 .int := ⟨RX10, TX10, 13, rfl, ⟨by decide, by decide, by decide⟩, inWX10, Or.inl mw465, ⟨tyX10, tyX10_ok, rfl⟩, nmX10, rfl⟩
set_option maxRecDepth 20000 in
theorem mt956 : Cond.methodLinkNest "Datalogmill" (184 : Nat) ({ cls := "Datalogmill$Body", name := "setHead", desc := "(IIII)V" } : MethodName) "Datalogmill" ∈ lw_tbl := List.mem_of_getElem? (i := 956) (by rfl)
theorem lkX10_184 : LK "Datalogmill" 184 yX0_setHead := Or.inr ⟨_, mt956⟩
set_option maxRecDepth 20000 in
theorem mt970 : Cond.methodLinkNest "Datalogmill" (194 : Nat) ({ cls := "Datalogmill$Body", name := "push", desc := "(IIIII)I" } : MethodName) "Datalogmill" ∈ lw_tbl := List.mem_of_getElem? (i := 970) (by rfl)
theorem lkX10_194 : LK "Datalogmill" 194 yX0_push := Or.inr ⟨_, mt970⟩
set_option maxRecDepth 20000 in
theorem mt964 : Cond.methodLinkNest "Datalogmill" (188 : Nat) ({ cls := "Datalogmill$Body", name := "holdingAtoms", desc := "()I" } : MethodName) "Datalogmill" ∈ lw_tbl := List.mem_of_getElem? (i := 964) (by rfl)
theorem lkX10_188 : LK "Datalogmill" 188 yX0_holdingAtoms := Or.inr ⟨_, mt964⟩
set_option maxRecDepth 20000 in
theorem mw967 : Cond.code yX0_holdingAtoms cX0_holdingAtoms 3 (some .int) ∈ GW := inGW (List.mem_of_getElem? (i := 967) (by rfl)) (by decide +kernel)
theorem ml_Bo_holdingAtoms : ML yX0_holdingAtoms cX0_holdingAtoms 3 (some .int) 0 := ⟨mw967, mw167, by decide +kernel, by decide +kernel, by decide +kernel⟩
set_option maxRecDepth 20000 in
theorem mw966 : Cond.instanceMethod ({ cls := "Datalogmill$Body", name := "holdingAtoms", desc := "()I" } : MethodName) ∈ GW := inGW (List.mem_of_getElem? (i := 966) (by rfl)) (by decide +kernel)
set_option maxRecDepth 20000 in
theorem mw63 : Cond.selects RX0 yX0_holdingAtoms yX0_holdingAtoms ∈ GW := inGW (List.mem_of_getElem? (i := 63) (by rfl)) (by decide +kernel)
theorem vl_Bo_holdingAtoms : VL yX0_holdingAtoms := ⟨mw966, mw63⟩
set_option maxRecDepth 20000 in
theorem mt1060 : Cond.methodLinkNest "Datalogmill" (228 : Nat) ({ cls := "Datalogmill$Program", name := "takeBack", desc := "()V" } : MethodName) "Datalogmill" ∈ lw_tbl := List.mem_of_getElem? (i := 1060) (by rfl)
theorem lkX10_228 : LK "Datalogmill" 228 yX7_takeBack := Or.inr ⟨_, mt1060⟩
set_option maxRecDepth 20000 in
theorem mw1063 : Cond.code yX7_takeBack cX7_takeBack 1 none ∈ GW := inGW (List.mem_of_getElem? (i := 1063) (by rfl)) (by decide +kernel)
theorem ml_Pr_takeBack : ML yX7_takeBack cX7_takeBack 1 none 0 := ⟨mw1063, mw166, by decide +kernel, by decide +kernel, by decide +kernel⟩
set_option maxRecDepth 20000 in
theorem mw1062 : Cond.instanceMethod ({ cls := "Datalogmill$Program", name := "takeBack", desc := "()V" } : MethodName) ∈ GW := inGW (List.mem_of_getElem? (i := 1062) (by rfl)) (by decide +kernel)
set_option maxRecDepth 20000 in
theorem mw77 : Cond.selects RX7 yX7_takeBack yX7_takeBack ∈ GW := inGW (List.mem_of_getElem? (i := 77) (by rfl)) (by decide +kernel)
theorem vl_Pr_takeBack : VL yX7_takeBack := ⟨mw1062, mw77⟩
set_option maxRecDepth 20000 in
theorem mt997 : Cond.methodLinkNest "Datalogmill" (211 : Nat) ({ cls := "Datalogmill$Body", name := "isSafe", desc := "()Z" } : MethodName) "Datalogmill" ∈ lw_tbl := List.mem_of_getElem? (i := 997) (by rfl)
theorem lkX10_211 : LK "Datalogmill" 211 yX0_isSafe := Or.inr ⟨_, mt997⟩
set_option maxRecDepth 20000 in
theorem mw1000 : Cond.code yX0_isSafe cX0_isSafe 2 (some .boolean) ∈ GW := inGW (List.mem_of_getElem? (i := 1000) (by rfl)) (by decide +kernel)
theorem ml_Bo_isSafe : ML yX0_isSafe cX0_isSafe 2 (some .boolean) 0 := ⟨mw1000, mw167, by decide +kernel, by decide +kernel, by decide +kernel⟩
set_option maxRecDepth 20000 in
theorem mw999 : Cond.instanceMethod ({ cls := "Datalogmill$Body", name := "isSafe", desc := "()Z" } : MethodName) ∈ GW := inGW (List.mem_of_getElem? (i := 999) (by rfl)) (by decide +kernel)
set_option maxRecDepth 20000 in
theorem mw65 : Cond.selects RX0 yX0_isSafe yX0_isSafe ∈ GW := inGW (List.mem_of_getElem? (i := 65) (by rfl)) (by decide +kernel)
theorem vl_Bo_isSafe : VL yX0_isSafe := ⟨mw999, mw65⟩
set_option maxRecDepth 20000 in
theorem mt1013 : Cond.methodLinkNest "Datalogmill" (222 : Nat) ({ cls := "Datalogmill$Program", name := "append", desc := "(LDatalogmill$Body;)V" } : MethodName) "Datalogmill" ∈ lw_tbl := List.mem_of_getElem? (i := 1013) (by rfl)
theorem lkX10_222 : LK "Datalogmill" 222 yX7_append := Or.inr ⟨_, mt1013⟩
set_option maxRecDepth 20000 in
theorem mw1016 : Cond.code yX7_append cX7_append 2 none ∈ GW := inGW (List.mem_of_getElem? (i := 1016) (by rfl)) (by decide +kernel)
theorem ml_Pr_append : ML yX7_append cX7_append 2 none 1 := ⟨mw1016, mw166, by decide +kernel, by decide +kernel, by decide +kernel⟩
set_option maxRecDepth 20000 in
theorem mw1015 : Cond.instanceMethod ({ cls := "Datalogmill$Program", name := "append", desc := "(LDatalogmill$Body;)V" } : MethodName) ∈ GW := inGW (List.mem_of_getElem? (i := 1015) (by rfl)) (by decide +kernel)
set_option maxRecDepth 20000 in
theorem mw68 : Cond.selects RX7 yX7_append yX7_append ∈ GW := inGW (List.mem_of_getElem? (i := 68) (by rfl)) (by decide +kernel)
theorem vl_Pr_append : VL yX7_append := ⟨mw1015, mw68⟩
set_option maxRecDepth 20000 in
theorem mt1025 : Cond.methodLinkNest "Datalogmill" (225 : Nat) ({ cls := "Datalogmill$Program", name := "stratify", desc := "()Z" } : MethodName) "Datalogmill" ∈ lw_tbl := List.mem_of_getElem? (i := 1025) (by rfl)
theorem lkX10_225 : LK "Datalogmill" 225 yX7_stratify := Or.inr ⟨_, mt1025⟩
set_option maxRecDepth 20000 in
theorem mt1073 : Cond.methodLinkNest "Datalogmill" (231 : Nat) ({ cls := "Datalogmill$Body", name := "boundVariables", desc := "()I" } : MethodName) "Datalogmill" ∈ lw_tbl := List.mem_of_getElem? (i := 1073) (by rfl)
theorem lkX10_231 : LK "Datalogmill" 231 yX0_boundVariables := Or.inr ⟨_, mt1073⟩
set_option maxRecDepth 20000 in
theorem mt1076 : Cond.methodLinkNest "Datalogmill" (241 : Nat) ({ cls := "Datalogmill$Program", name := "appendDenial", desc := "(LDatalogmill$Body;)V" } : MethodName) "Datalogmill" ∈ lw_tbl := List.mem_of_getElem? (i := 1076) (by rfl)
theorem lkX10_241 : LK "Datalogmill" 241 yX7_appendDenial := Or.inr ⟨_, mt1076⟩
set_option maxRecDepth 20000 in
theorem mw1079 : Cond.code yX7_appendDenial cX7_appendDenial 2 none ∈ GW := inGW (List.mem_of_getElem? (i := 1079) (by rfl)) (by decide +kernel)
theorem ml_Pr_appendDenial : ML yX7_appendDenial cX7_appendDenial 2 none 1 := ⟨mw1079, mw166, by decide +kernel, by decide +kernel, by decide +kernel⟩
set_option maxRecDepth 20000 in
theorem mw1078 : Cond.instanceMethod ({ cls := "Datalogmill$Program", name := "appendDenial", desc := "(LDatalogmill$Body;)V" } : MethodName) ∈ GW := inGW (List.mem_of_getElem? (i := 1078) (by rfl)) (by decide +kernel)
set_option maxRecDepth 20000 in
theorem mw78 : Cond.selects RX7 yX7_appendDenial yX7_appendDenial ∈ GW := inGW (List.mem_of_getElem? (i := 78) (by rfl)) (by decide +kernel)
theorem vl_Pr_appendDenial : VL yX7_appendDenial := ⟨mw1078, mw78⟩
theorem fpX10_253 : FP RX10 253 TA 1 2 .boolean := ⟨RX0, TX0, 6, rfl, ⟨by decide, by decide, by decide⟩, inWX0, Or.inr ⟨_, mt271⟩, ⟨tyX0, tyX0_ok, rfl⟩, nmX0, rfl⟩
set_option maxRecDepth 20000 in
theorem mt1088 : Cond.methodLinkNest "Datalogmill" (244 : Nat) ({ cls := "Datalogmill$Program", name := "hasRule", desc := "(I)Z" } : MethodName) "Datalogmill" ∈ lw_tbl := List.mem_of_getElem? (i := 1088) (by rfl)
theorem lkX10_244 : LK "Datalogmill" 244 yX7_hasRule := Or.inr ⟨_, mt1088⟩
set_option maxRecDepth 20000 in
theorem mw1091 : Cond.code yX7_hasRule cX7_hasRule 2 (some .boolean) ∈ GW := inGW (List.mem_of_getElem? (i := 1091) (by rfl)) (by decide +kernel)
theorem ml_Pr_hasRule : ML yX7_hasRule cX7_hasRule 2 (some .boolean) 1 := ⟨mw1091, mw166, by decide +kernel, by decide +kernel, by decide +kernel⟩
set_option maxRecDepth 20000 in
theorem mw1090 : Cond.instanceMethod ({ cls := "Datalogmill$Program", name := "hasRule", desc := "(I)Z" } : MethodName) ∈ GW := inGW (List.mem_of_getElem? (i := 1090) (by rfl)) (by decide +kernel)
set_option maxRecDepth 20000 in
theorem mw79 : Cond.selects RX7 yX7_hasRule yX7_hasRule ∈ GW := inGW (List.mem_of_getElem? (i := 79) (by rfl)) (by decide +kernel)
theorem vl_Pr_hasRule : VL yX7_hasRule := ⟨mw1090, mw79⟩
set_option maxRecDepth 20000 in
theorem mt1095 : Cond.methodLinkNest "Datalogmill" (258 : Nat) ({ cls := "Datalogmill$Program", name := "rulesLeft", desc := "()I" } : MethodName) "Datalogmill" ∈ lw_tbl := List.mem_of_getElem? (i := 1095) (by rfl)
theorem lkX10_258 : LK "Datalogmill" 258 yX7_rulesLeft := Or.inr ⟨_, mt1095⟩
set_option maxRecDepth 20000 in
theorem mw1098 : Cond.code yX7_rulesLeft cX7_rulesLeft 3 (some .int) ∈ GW := inGW (List.mem_of_getElem? (i := 1098) (by rfl)) (by decide +kernel)
theorem ml_Pr_rulesLeft : ML yX7_rulesLeft cX7_rulesLeft 3 (some .int) 0 := ⟨mw1098, mw166, by decide +kernel, by decide +kernel, by decide +kernel⟩
set_option maxRecDepth 20000 in
theorem mw1097 : Cond.instanceMethod ({ cls := "Datalogmill$Program", name := "rulesLeft", desc := "()I" } : MethodName) ∈ GW := inGW (List.mem_of_getElem? (i := 1097) (by rfl)) (by decide +kernel)
set_option maxRecDepth 20000 in
theorem mw80 : Cond.selects RX7 yX7_rulesLeft yX7_rulesLeft ∈ GW := inGW (List.mem_of_getElem? (i := 80) (by rfl)) (by decide +kernel)
theorem vl_Pr_rulesLeft : VL yX7_rulesLeft := ⟨mw1097, mw80⟩
set_option maxRecDepth 20000 in
theorem mw1106 : Cond.methodLink "Datalogmill" (265 : Nat) ({ cls := "Datalogmill", name := "isIn", desc := "(LDatalogmill$Model;IIII)Z" } : MethodName) ∈ GW := inGW (List.mem_of_getElem? (i := 1106) (by rfl)) (by decide +kernel)
theorem lkX10_265 : LK "Datalogmill" 265 yX10_isIn := Or.inl mw1106
set_option maxRecDepth 20000 in
theorem mw1109 : Cond.code yX10_isIn cX10_isIn 6 (some .boolean) ∈ GW := inGW (List.mem_of_getElem? (i := 1109) (by rfl)) (by decide +kernel)
theorem ml_Dm_isIn : ML yX10_isIn cX10_isIn 6 (some .boolean) 5 := ⟨mw1109, mw163, by decide +kernel, by decide +kernel, by decide +kernel⟩
set_option maxRecDepth 20000 in
theorem mw1108 : Cond.instanceMethod ({ cls := "Datalogmill", name := "isIn", desc := "(LDatalogmill$Model;IIII)Z" } : MethodName) ∈ GW := inGW (List.mem_of_getElem? (i := 1108) (by rfl)) (by decide +kernel)
set_option maxRecDepth 20000 in
theorem mw81 : Cond.selects RX10 yX10_isIn yX10_isIn ∈ GW := inGW (List.mem_of_getElem? (i := 81) (by rfl)) (by decide +kernel)
theorem vl_Dm_isIn : VL yX10_isIn := ⟨mw1108, mw81⟩
set_option maxRecDepth 20000 in
theorem mt1136 : Cond.methodLinkNest "Datalogmill" (279 : Nat) ({ cls := "Datalogmill$Model", name := "tuplesOf", desc := "(I)I" } : MethodName) "Datalogmill" ∈ lw_tbl := List.mem_of_getElem? (i := 1136) (by rfl)
theorem lkX10_279 : LK "Datalogmill" 279 yX5_tuplesOf := Or.inr ⟨_, mt1136⟩
set_option maxRecDepth 20000 in
theorem mw1139 : Cond.code yX5_tuplesOf cX5_tuplesOf 5 (some .int) ∈ GW := inGW (List.mem_of_getElem? (i := 1139) (by rfl)) (by decide +kernel)
theorem ml_Mo_tuplesOf : ML yX5_tuplesOf cX5_tuplesOf 5 (some .int) 1 := ⟨mw1139, mw168, by decide +kernel, by decide +kernel, by decide +kernel⟩
set_option maxRecDepth 20000 in
theorem mw1138 : Cond.instanceMethod ({ cls := "Datalogmill$Model", name := "tuplesOf", desc := "(I)I" } : MethodName) ∈ GW := inGW (List.mem_of_getElem? (i := 1138) (by rfl)) (by decide +kernel)
set_option maxRecDepth 20000 in
theorem mw83 : Cond.selects RX5 yX5_tuplesOf yX5_tuplesOf ∈ GW := inGW (List.mem_of_getElem? (i := 83) (by rfl)) (by decide +kernel)
theorem vl_Mo_tuplesOf : VL yX5_tuplesOf := ⟨mw1138, mw83⟩
set_option maxRecDepth 20000 in
theorem mt1152 : Cond.methodLinkNest "Datalogmill" (288 : Nat) ({ cls := "Datalogmill$Model", name := "codeOf", desc := "(I)I" } : MethodName) "Datalogmill" ∈ lw_tbl := List.mem_of_getElem? (i := 1152) (by rfl)
theorem lkX10_288 : LK "Datalogmill" 288 yX5_codeOf := Or.inr ⟨_, mt1152⟩
set_option maxRecDepth 20000 in
theorem mt1147 : Cond.methodLinkNest "Datalogmill" (282 : Nat) ({ cls := "Datalogmill$Model", name := "slotAt", desc := "(II)I" } : MethodName) "Datalogmill" ∈ lw_tbl := List.mem_of_getElem? (i := 1147) (by rfl)
theorem lkX10_282 : LK "Datalogmill" 282 yX5_slotAt := Or.inr ⟨_, mt1147⟩
set_option maxRecDepth 20000 in
theorem mw1150 : Cond.code yX5_slotAt cX5_slotAt 5 (some .int) ∈ GW := inGW (List.mem_of_getElem? (i := 1150) (by rfl)) (by decide +kernel)
theorem ml_Mo_slotAt : ML yX5_slotAt cX5_slotAt 5 (some .int) 2 := ⟨mw1150, mw168, by decide +kernel, by decide +kernel, by decide +kernel⟩
set_option maxRecDepth 20000 in
theorem mw1149 : Cond.instanceMethod ({ cls := "Datalogmill$Model", name := "slotAt", desc := "(II)I" } : MethodName) ∈ GW := inGW (List.mem_of_getElem? (i := 1149) (by rfl)) (by decide +kernel)
set_option maxRecDepth 20000 in
theorem mw84 : Cond.selects RX5 yX5_slotAt yX5_slotAt ∈ GW := inGW (List.mem_of_getElem? (i := 84) (by rfl)) (by decide +kernel)
theorem vl_Mo_slotAt : VL yX5_slotAt := ⟨mw1149, mw84⟩
set_option maxRecDepth 20000 in
theorem mt1160 : Cond.methodLinkNest "Datalogmill" (291 : Nat) ({ cls := "Datalogmill$Program", name := "levelOf", desc := "(I)I" } : MethodName) "Datalogmill" ∈ lw_tbl := List.mem_of_getElem? (i := 1160) (by rfl)
theorem lkX10_291 : LK "Datalogmill" 291 yX7_levelOf := Or.inr ⟨_, mt1160⟩
set_option maxRecDepth 20000 in
theorem mw1168 : Cond.methodLink "Datalogmill" (294 : Nat) ({ cls := "Datalogmill", name := "waysByFacts", desc := "(II)I" } : MethodName) ∈ GW := inGW (List.mem_of_getElem? (i := 1168) (by rfl)) (by decide +kernel)
theorem lkX10_294 : LK "Datalogmill" 294 yX10_waysByFacts := Or.inl mw1168
set_option maxRecDepth 20000 in
theorem mw1171 : Cond.code yX10_waysByFacts cX10_waysByFacts 6 (some .int) ∈ GW := inGW (List.mem_of_getElem? (i := 1171) (by rfl)) (by decide +kernel)
theorem ml_Dm_waysByFacts : ML yX10_waysByFacts cX10_waysByFacts 6 (some .int) 2 := ⟨mw1171, mw163, by decide +kernel, by decide +kernel, by decide +kernel⟩
set_option maxRecDepth 20000 in
theorem mw1170 : Cond.instanceMethod ({ cls := "Datalogmill", name := "waysByFacts", desc := "(II)I" } : MethodName) ∈ GW := inGW (List.mem_of_getElem? (i := 1170) (by rfl)) (by decide +kernel)
set_option maxRecDepth 20000 in
theorem mw85 : Cond.selects RX10 yX10_waysByFacts yX10_waysByFacts ∈ GW := inGW (List.mem_of_getElem? (i := 85) (by rfl)) (by decide +kernel)
theorem vl_Dm_waysByFacts : VL yX10_waysByFacts := ⟨mw1170, mw85⟩
set_option maxRecDepth 20000 in
theorem mw1175 : Cond.methodLink "Datalogmill" (297 : Nat) ({ cls := "Datalogmill", name := "waysByRules", desc := "(II)I" } : MethodName) ∈ GW := inGW (List.mem_of_getElem? (i := 1175) (by rfl)) (by decide +kernel)
theorem lkX10_297 : LK "Datalogmill" 297 yX10_waysByRules := Or.inl mw1175
set_option maxRecDepth 20000 in
theorem mw1178 : Cond.code yX10_waysByRules cX10_waysByRules 7 (some .int) ∈ GW := inGW (List.mem_of_getElem? (i := 1178) (by rfl)) (by decide +kernel)
theorem ml_Dm_waysByRules : ML yX10_waysByRules cX10_waysByRules 7 (some .int) 2 := ⟨mw1178, mw163, by decide +kernel, by decide +kernel, by decide +kernel⟩
set_option maxRecDepth 20000 in
theorem mw1177 : Cond.instanceMethod ({ cls := "Datalogmill", name := "waysByRules", desc := "(II)I" } : MethodName) ∈ GW := inGW (List.mem_of_getElem? (i := 1177) (by rfl)) (by decide +kernel)
set_option maxRecDepth 20000 in
theorem mw86 : Cond.selects RX10 yX10_waysByRules yX10_waysByRules ∈ GW := inGW (List.mem_of_getElem? (i := 86) (by rfl)) (by decide +kernel)
theorem vl_Dm_waysByRules : VL yX10_waysByRules := ⟨mw1177, mw86⟩
set_option maxRecDepth 20000 in
theorem mw1203 : Cond.methodLink "Datalogmill" (300 : Nat) ({ cls := "Datalogmill", name := "findCosts", desc := "()V" } : MethodName) ∈ GW := inGW (List.mem_of_getElem? (i := 1203) (by rfl)) (by decide +kernel)
theorem lkX10_300 : LK "Datalogmill" 300 yX10_findCosts := Or.inl mw1203
set_option maxRecDepth 20000 in
theorem mw1206 : Cond.code yX10_findCosts cX10_findCosts 3 none ∈ GW := inGW (List.mem_of_getElem? (i := 1206) (by rfl)) (by decide +kernel)
theorem ml_Dm_findCosts : ML yX10_findCosts cX10_findCosts 3 none 0 := ⟨mw1206, mw163, by decide +kernel, by decide +kernel, by decide +kernel⟩
set_option maxRecDepth 20000 in
theorem mw1205 : Cond.instanceMethod ({ cls := "Datalogmill", name := "findCosts", desc := "()V" } : MethodName) ∈ GW := inGW (List.mem_of_getElem? (i := 1205) (by rfl)) (by decide +kernel)
set_option maxRecDepth 20000 in
theorem mw91 : Cond.selects RX10 yX10_findCosts yX10_findCosts ∈ GW := inGW (List.mem_of_getElem? (i := 91) (by rfl)) (by decide +kernel)
theorem vl_Dm_findCosts : VL yX10_findCosts := ⟨mw1205, mw91⟩
set_option maxRecDepth 20000 in
theorem mt1234 : Cond.methodLinkNest "Datalogmill" (306 : Nat) ({ cls := "Datalogmill$Costs", name := "costOf", desc := "(I)I" } : MethodName) "Datalogmill" ∈ lw_tbl := List.mem_of_getElem? (i := 1234) (by rfl)
theorem lkX10_306 : LK "Datalogmill" 306 yX1_costOf := Or.inr ⟨_, mt1234⟩
set_option maxRecDepth 20000 in
theorem mw1251 : Cond.methodLink "Datalogmill" (319 : Nat) ({ cls := "Datalogmill", name := "literalsHeld", desc := "(LDatalogmill$Body;II)I" } : MethodName) ∈ GW := inGW (List.mem_of_getElem? (i := 1251) (by rfl)) (by decide +kernel)
theorem lkX10_319 : LK "Datalogmill" 319 yX10_literalsHeld := Or.inl mw1251
set_option maxRecDepth 20000 in
theorem mw1254 : Cond.code yX10_literalsHeld cX10_literalsHeld 5 (some .int) ∈ GW := inGW (List.mem_of_getElem? (i := 1254) (by rfl)) (by decide +kernel)
theorem ml_Dm_literalsHeld : ML yX10_literalsHeld cX10_literalsHeld 5 (some .int) 3 := ⟨mw1254, mw163, by decide +kernel, by decide +kernel, by decide +kernel⟩
set_option maxRecDepth 20000 in
theorem mw1253 : Cond.instanceMethod ({ cls := "Datalogmill", name := "literalsHeld", desc := "(LDatalogmill$Body;II)I" } : MethodName) ∈ GW := inGW (List.mem_of_getElem? (i := 1253) (by rfl)) (by decide +kernel)
set_option maxRecDepth 20000 in
theorem mw98 : Cond.selects RX10 yX10_literalsHeld yX10_literalsHeld ∈ GW := inGW (List.mem_of_getElem? (i := 98) (by rfl)) (by decide +kernel)
theorem vl_Dm_literalsHeld : VL yX10_literalsHeld := ⟨mw1253, mw98⟩
set_option maxRecDepth 20000 in
theorem mt1279 : Cond.methodLinkNest "Datalogmill" (340 : Nat) ({ cls := "Datalogmill$Goals", name := "goalAt", desc := "(I)I" } : MethodName) "Datalogmill" ∈ lw_tbl := List.mem_of_getElem? (i := 1279) (by rfl)
theorem lkX10_340 : LK "Datalogmill" 340 yX3_goalAt := Or.inr ⟨_, mt1279⟩
set_option maxRecDepth 20000 in
theorem mw1280 : Cond.methodLink "Datalogmill" (343 : Nat) ({ cls := "Datalogmill", name := "askFor", desc := "(I)V" } : MethodName) ∈ GW := inGW (List.mem_of_getElem? (i := 1280) (by rfl)) (by decide +kernel)
theorem lkX10_343 : LK "Datalogmill" 343 yX10_askFor := Or.inl mw1280
set_option maxRecDepth 20000 in
theorem mw1283 : Cond.code yX10_askFor cX10_askFor 10 none ∈ GW := inGW (List.mem_of_getElem? (i := 1283) (by rfl)) (by decide +kernel)
theorem ml_Dm_askFor : ML yX10_askFor cX10_askFor 10 none 1 := ⟨mw1283, mw163, by decide +kernel, by decide +kernel, by decide +kernel⟩
set_option maxRecDepth 20000 in
theorem mw1282 : Cond.instanceMethod ({ cls := "Datalogmill", name := "askFor", desc := "(I)V" } : MethodName) ∈ GW := inGW (List.mem_of_getElem? (i := 1282) (by rfl)) (by decide +kernel)
set_option maxRecDepth 20000 in
theorem mw103 : Cond.selects RX10 yX10_askFor yX10_askFor ∈ GW := inGW (List.mem_of_getElem? (i := 103) (by rfl)) (by decide +kernel)
theorem vl_Dm_askFor : VL yX10_askFor := ⟨mw1282, mw103⟩
set_option maxRecDepth 20000 in
theorem mt1262 : Cond.methodLinkNest "Datalogmill" (330 : Nat) ({ cls := "Datalogmill$Goals", name := "empty", desc := "()V" } : MethodName) "Datalogmill" ∈ lw_tbl := List.mem_of_getElem? (i := 1262) (by rfl)
theorem lkX10_330 : LK "Datalogmill" 330 yX3_empty := Or.inr ⟨_, mt1262⟩
set_option maxRecDepth 20000 in
theorem mw1265 : Cond.code yX3_empty cX3_empty 2 none ∈ GW := inGW (List.mem_of_getElem? (i := 1265) (by rfl)) (by decide +kernel)
theorem ml_Go_empty : ML yX3_empty cX3_empty 2 none 0 := ⟨mw1265, mw172, by decide +kernel, by decide +kernel, by decide +kernel⟩
set_option maxRecDepth 20000 in
theorem mw1264 : Cond.instanceMethod ({ cls := "Datalogmill$Goals", name := "empty", desc := "()V" } : MethodName) ∈ GW := inGW (List.mem_of_getElem? (i := 1264) (by rfl)) (by decide +kernel)
set_option maxRecDepth 20000 in
theorem mw99 : Cond.selects RX3 yX3_empty yX3_empty ∈ GW := inGW (List.mem_of_getElem? (i := 99) (by rfl)) (by decide +kernel)
theorem vl_Go_empty : VL yX3_empty := ⟨mw1264, mw99⟩
set_option maxRecDepth 20000 in
theorem mt1266 : Cond.methodLinkNest "Datalogmill" (331 : Nat) ({ cls := "Datalogmill$Schema", name := "goalOf", desc := "(IIII)I" } : MethodName) "Datalogmill" ∈ lw_tbl := List.mem_of_getElem? (i := 1266) (by rfl)
theorem lkX10_331 : LK "Datalogmill" 331 yX8_goalOf := Or.inr ⟨_, mt1266⟩
theorem flX10_88 : FL RX10 88 TA 11 11 := ⟨RX10, TX10, 13, rfl, ⟨by decide, by decide, by decide⟩, inWX10, Or.inl mw464⟩
set_option maxRecDepth 20000 in
theorem mt1299 : Cond.methodLinkNest "Datalogmill" (348 : Nat) ({ cls := "Datalogmill$Plan", name := "make", desc := "(LDatalogmill$Body;LDatalogmill$Schema;)V" } : MethodName) "Datalogmill" ∈ lw_tbl := List.mem_of_getElem? (i := 1299) (by rfl)
theorem lkX10_348 : LK "Datalogmill" 348 yX6_make := Or.inr ⟨_, mt1299⟩
set_option maxRecDepth 20000 in
theorem mw1302 : Cond.code yX6_make cX6_make 12 none ∈ GW := inGW (List.mem_of_getElem? (i := 1302) (by rfl)) (by decide +kernel)
theorem ml_Pl_make : ML yX6_make cX6_make 12 none 2 := ⟨mw1302, mw173, by decide +kernel, by decide +kernel, by decide +kernel⟩
set_option maxRecDepth 20000 in
theorem mw1301 : Cond.instanceMethod ({ cls := "Datalogmill$Plan", name := "make", desc := "(LDatalogmill$Body;LDatalogmill$Schema;)V" } : MethodName) ∈ GW := inGW (List.mem_of_getElem? (i := 1301) (by rfl)) (by decide +kernel)
set_option maxRecDepth 20000 in
theorem mw105 : Cond.selects RX6 yX6_make yX6_make ∈ GW := inGW (List.mem_of_getElem? (i := 105) (by rfl)) (by decide +kernel)
theorem vl_Pl_make : VL yX6_make := ⟨mw1301, mw105⟩
set_option maxRecDepth 20000 in
theorem mt1317 : Cond.methodLinkNest "Datalogmill" (352 : Nat) ({ cls := "Datalogmill$Plan", name := "placeAt", desc := "(I)I" } : MethodName) "Datalogmill" ∈ lw_tbl := List.mem_of_getElem? (i := 1317) (by rfl)
theorem lkX10_352 : LK "Datalogmill" 352 yX6_placeAt := Or.inr ⟨_, mt1317⟩
set_option maxRecDepth 20000 in
theorem mw1329 : Cond.methodLink "Datalogmill" (358 : Nat) ({ cls := "Datalogmill", name := "isNeedless", desc := "(LDatalogmill$Body;I)Z" } : MethodName) ∈ GW := inGW (List.mem_of_getElem? (i := 1329) (by rfl)) (by decide +kernel)
theorem lkX10_358 : LK "Datalogmill" 358 yX10_isNeedless := Or.inl mw1329
set_option maxRecDepth 20000 in
theorem mw1332 : Cond.code yX10_isNeedless cX10_isNeedless 6 (some .boolean) ∈ GW := inGW (List.mem_of_getElem? (i := 1332) (by rfl)) (by decide +kernel)
theorem ml_Dm_isNeedless : ML yX10_isNeedless cX10_isNeedless 6 (some .boolean) 2 := ⟨mw1332, mw163, by decide +kernel, by decide +kernel, by decide +kernel⟩
set_option maxRecDepth 20000 in
theorem mw1331 : Cond.instanceMethod ({ cls := "Datalogmill", name := "isNeedless", desc := "(LDatalogmill$Body;I)Z" } : MethodName) ∈ GW := inGW (List.mem_of_getElem? (i := 1331) (by rfl)) (by decide +kernel)
set_option maxRecDepth 20000 in
theorem mw108 : Cond.selects RX10 yX10_isNeedless yX10_isNeedless ∈ GW := inGW (List.mem_of_getElem? (i := 108) (by rfl)) (by decide +kernel)
theorem vl_Dm_isNeedless : VL yX10_isNeedless := ⟨mw1331, mw108⟩
set_option maxRecDepth 20000 in
theorem mw1354 : Cond.fieldLink "Datalogmill" (447 : Nat) "Datalogmill" "SERVED" "[I" ∈ GW := inGW (List.mem_of_getElem? (i := 1354) (by rfl)) (by decide +kernel)
set_option maxRecDepth 20000 in
theorem mw1356 : Cond.methodLink "Datalogmill" (451 : Nat) ({ cls := "java/lang/Integer", name := "bitCount", desc := "(I)I" } : MethodName) ∈ GW := inGW (List.mem_of_getElem? (i := 1356) (by rfl)) (by decide +kernel)
theorem lkX10_451 : LK "Datalogmill" 451 yJ6_bitCount_0f7a4 := Or.inl mw1356
set_option maxRecDepth 20000 in
theorem mw1357 : Cond.methodLink "Datalogmill" 456 Lib.Math.min.name ∈ GW := inGW (List.mem_of_getElem? (i := 1357) (by rfl)) (by decide +kernel)
set_option maxRecDepth 20000 in
theorem mw1351 : Cond.methodLink "Datalogmill" (366 : Nat) ({ cls := "Datalogmill", name := "fewestOrders", desc := "(I)I" } : MethodName) ∈ GW := inGW (List.mem_of_getElem? (i := 1351) (by rfl)) (by decide +kernel)
theorem lkX10_366 : LK "Datalogmill" 366 yX10_fewestOrders := Or.inl mw1351
set_option maxRecDepth 20000 in
theorem mw1353 : Cond.code yX10_fewestOrders cX10_fewestOrders 5 (some .int) ∈ GW := inGW (List.mem_of_getElem? (i := 1353) (by rfl)) (by decide +kernel)
theorem ml_Dm_fewestOrders : ML yX10_fewestOrders cX10_fewestOrders 5 (some .int) 1 := ⟨mw1353, mw163, by decide +kernel, by decide +kernel, by decide +kernel⟩
set_option maxRecDepth 20000 in
theorem mw1352 : Cond.static ({ cls := "Datalogmill", name := "fewestOrders", desc := "(I)I" } : MethodName) ∈ GW := inGW (List.mem_of_getElem? (i := 1352) (by rfl)) (by decide +kernel)
set_option maxRecDepth 20000 in
theorem mt1346 : Cond.methodLinkNest "Datalogmill" (362 : Nat) ({ cls := "Datalogmill$Plan", name := "searchesOf", desc := "(LDatalogmill$Body;I)I" } : MethodName) "Datalogmill" ∈ lw_tbl := List.mem_of_getElem? (i := 1346) (by rfl)
theorem lkX10_362 : LK "Datalogmill" 362 yX6_searchesOf := Or.inr ⟨_, mt1346⟩
set_option maxRecDepth 20000 in
theorem mw1349 : Cond.code yX6_searchesOf cX6_searchesOf 5 (some .int) ∈ GW := inGW (List.mem_of_getElem? (i := 1349) (by rfl)) (by decide +kernel)
theorem ml_Pl_searchesOf : ML yX6_searchesOf cX6_searchesOf 5 (some .int) 2 := ⟨mw1349, mw173, by decide +kernel, by decide +kernel, by decide +kernel⟩
set_option maxRecDepth 20000 in
theorem mw1348 : Cond.instanceMethod ({ cls := "Datalogmill$Plan", name := "searchesOf", desc := "(LDatalogmill$Body;I)I" } : MethodName) ∈ GW := inGW (List.mem_of_getElem? (i := 1348) (by rfl)) (by decide +kernel)
set_option maxRecDepth 20000 in
theorem mw110 : Cond.selects RX6 yX6_searchesOf yX6_searchesOf ∈ GW := inGW (List.mem_of_getElem? (i := 110) (by rfl)) (by decide +kernel)
theorem vl_Pl_searchesOf : VL yX6_searchesOf := ⟨mw1348, mw110⟩
