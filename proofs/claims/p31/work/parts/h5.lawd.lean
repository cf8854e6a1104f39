/-! THE LAW'S BODY behind its constructors, as a function -/
set_option maxRecDepth 20000 in
theorem mw572 : Cond.methodLink "DatalogmillLaw" (195 : Nat) ({ cls := "DatalogmillLaw", name := "drawn", desc := "([II)I" } : MethodName) ∈ GW := inGW (List.mem_of_getElem? (i := 572) (by rfl)) (by decide +kernel)
set_option maxRecDepth 20000 in
theorem mw573 : Cond.static ({ cls := "DatalogmillLaw", name := "drawn", desc := "([II)I" } : MethodName) ∈ GW := inGW (List.mem_of_getElem? (i := 573) (by rfl)) (by decide +kernel)
set_option maxRecDepth 20000 in
theorem mw574 : Cond.code yL_drawn cL_drawn 2 (some .int) ∈ GW := inGW (List.mem_of_getElem? (i := 574) (by rfl)) (by decide +kernel)
theorem ml_L_drawn : ML yL_drawn cL_drawn 2 (some .int) 2 := ⟨mw574, mw111, by decide +kernel, by decide +kernel, by decide +kernel⟩
theorem rl31 : R32 (31) := ⟨by decide, by decide⟩
set_option maxRecDepth 20000 in
theorem mw1321 : Cond.methodLink "DatalogmillLaw" (215 : Nat) ({ cls := "DatalogmillLaw", name := "holdsAll", desc := "(LDatalogmill;[II)Z" } : MethodName) ∈ GW := inGW (List.mem_of_getElem? (i := 1321) (by rfl)) (by decide +kernel)
set_option maxRecDepth 20000 in
theorem mw1322 : Cond.static ({ cls := "DatalogmillLaw", name := "holdsAll", desc := "(LDatalogmill;[II)Z" } : MethodName) ∈ GW := inGW (List.mem_of_getElem? (i := 1322) (by rfl)) (by decide +kernel)
set_option maxRecDepth 20000 in
theorem mw1323 : Cond.code yL_holdsAll cL_holdsAll 13 (some .boolean) ∈ GW := inGW (List.mem_of_getElem? (i := 1323) (by rfl)) (by decide +kernel)
theorem ml_L_holdsAll : ML yL_holdsAll cL_holdsAll 13 (some .boolean) 3 := ⟨mw1323, mw111, by decide +kernel, by decide +kernel, by decide +kernel⟩
set_option maxRecDepth 20000 in
theorem mw1336 : Cond.methodLink "DatalogmillLaw" (218 : Nat) ({ cls := "DatalogmillLaw", name := "ends", desc := "(LDatalogmill;[I)Z" } : MethodName) ∈ GW := inGW (List.mem_of_getElem? (i := 1336) (by rfl)) (by decide +kernel)
set_option maxRecDepth 20000 in
theorem mw1337 : Cond.static ({ cls := "DatalogmillLaw", name := "ends", desc := "(LDatalogmill;[I)Z" } : MethodName) ∈ GW := inGW (List.mem_of_getElem? (i := 1337) (by rfl)) (by decide +kernel)
set_option maxRecDepth 20000 in
theorem mw1338 : Cond.code yL_ends cL_ends 7 (some .boolean) ∈ GW := inGW (List.mem_of_getElem? (i := 1338) (by rfl)) (by decide +kernel)
theorem ml_L_ends : ML yL_ends cL_ends 7 (some .boolean) 2 := ⟨mw1338, mw111, by decide +kernel, by decide +kernel, by decide +kernel⟩
set_option maxRecDepth 20000 in
theorem mw1303 : Cond.methodLink "DatalogmillLaw" (211 : Nat) ({ cls := "DatalogmillLaw", name := "alike", desc := "(LDatalogmill;LDatalogmill;[II)Z" } : MethodName) ∈ GW := inGW (List.mem_of_getElem? (i := 1303) (by rfl)) (by decide +kernel)
set_option maxRecDepth 20000 in
theorem mw1304 : Cond.static ({ cls := "DatalogmillLaw", name := "alike", desc := "(LDatalogmill;LDatalogmill;[II)Z" } : MethodName) ∈ GW := inGW (List.mem_of_getElem? (i := 1304) (by rfl)) (by decide +kernel)
set_option maxRecDepth 20000 in
theorem mw1305 : Cond.code yL_alike cL_alike 7 (some .boolean) ∈ GW := inGW (List.mem_of_getElem? (i := 1305) (by rfl)) (by decide +kernel)
theorem ml_L_alike : ML yL_alike cL_alike 7 (some .boolean) 4 := ⟨mw1305, mw111, by decide +kernel, by decide +kernel, by decide +kernel⟩
set_option maxRecDepth 20000 in
theorem mw1300 : Cond.methodLink "DatalogmillLaw" (207 : Nat) ({ cls := "DatalogmillLaw", name := "count", desc := "([III)V" } : MethodName) ∈ GW := inGW (List.mem_of_getElem? (i := 1300) (by rfl)) (by decide +kernel)
set_option maxRecDepth 20000 in
theorem mw1301 : Cond.static ({ cls := "DatalogmillLaw", name := "count", desc := "([III)V" } : MethodName) ∈ GW := inGW (List.mem_of_getElem? (i := 1301) (by rfl)) (by decide +kernel)
set_option maxRecDepth 20000 in
theorem mw1302 : Cond.code yL_count cL_count 8 none ∈ GW := inGW (List.mem_of_getElem? (i := 1302) (by rfl)) (by decide +kernel)
theorem ml_L_count : ML yL_count cL_count 8 none 3 := ⟨mw1302, mw111, by decide +kernel, by decide +kernel, by decide +kernel⟩
theorem rl499 : R32 (499) := ⟨by decide, by decide⟩
set_option maxRecDepth 20000 in
theorem mw577 : Cond.methodLink "DatalogmillLaw" (203 : Nat) ({ cls := "DatalogmillLaw", name := "refuses", desc := "(LDatalogmill;[II)Z" } : MethodName) ∈ GW := inGW (List.mem_of_getElem? (i := 577) (by rfl)) (by decide +kernel)
set_option maxRecDepth 20000 in
theorem mw578 : Cond.static ({ cls := "DatalogmillLaw", name := "refuses", desc := "(LDatalogmill;[II)Z" } : MethodName) ∈ GW := inGW (List.mem_of_getElem? (i := 578) (by rfl)) (by decide +kernel)
set_option maxRecDepth 20000 in
theorem mw579 : Cond.code yL_refuses cL_refuses 12 (some .boolean) ∈ GW := inGW (List.mem_of_getElem? (i := 579) (by rfl)) (by decide +kernel)
theorem ml_L_refuses : ML yL_refuses cL_refuses 12 (some .boolean) 3 := ⟨mw579, mw111, by decide +kernel, by decide +kernel, by decide +kernel⟩
set_option maxRecDepth 20000 in
theorem mw1266 : Cond.methodLink "DatalogmillLaw" (199 : Nat) ({ cls := "DatalogmillLaw", name := "act", desc := "(LDatalogmill;[II)I" } : MethodName) ∈ GW := inGW (List.mem_of_getElem? (i := 1266) (by rfl)) (by decide +kernel)
set_option maxRecDepth 20000 in
theorem mw1267 : Cond.static ({ cls := "DatalogmillLaw", name := "act", desc := "(LDatalogmill;[II)I" } : MethodName) ∈ GW := inGW (List.mem_of_getElem? (i := 1267) (by rfl)) (by decide +kernel)
set_option maxRecDepth 20000 in
theorem mw1268 : Cond.code yL_act cL_act 10 (some .int) ∈ GW := inGW (List.mem_of_getElem? (i := 1268) (by rfl)) (by decide +kernel)
theorem ml_L_act : ML yL_act cL_act 10 (some .int) 3 := ⟨mw1268, mw111, by decide +kernel, by decide +kernel, by decide +kernel⟩
theorem rl9973 : R32 (9973) := ⟨by decide, by decide⟩
theorem rl20 : R32 (20) := ⟨by decide, by decide⟩
theorem rl30 : R32 (30) := ⟨by decide, by decide⟩
def HW_L_law_27 (X : QX) (K : KT) (H0 : Heap)  : (ZQ × Nat × Int × Int) → Prop := fun y => R32 y.2.2.1 → R32 y.2.2.2 → ∀ o6 o7 o8 : Option Value, Jj (kAdd K y.2.1 (6 * y.2.1)) (WdQ X H0) y.1 27 [some (.ref X.b), some (rf (X.M false).ad 1), some (rf (X.M true).ad 1), some (.ref X.oa), some (.int (ii y.2.2.1)), some (.int (ii y.2.2.2)), o6, o7, o8] []
def HW_L_law_157 (X : QX) (K : KT) (H0 : Heap) (x5 : Int) : (ZQ × Nat × Int × Int) → Prop := fun y => R32 y.2.2.1 → R32 y.2.2.2 → ∀ o7 o8 : Option Value, Jj (kAdd K y.2.1 (6 * y.2.1)) (WdQ X H0) y.1 157 [some (.ref X.b), some (rf (X.M false).ad 1), some (rf (X.M true).ad 1), some (.ref X.oa), some (.int (ii y.2.2.1)), some (.int (ii x5)), some (.int (ii y.2.2.2)), o7, o8] []
noncomputable def f_L_law_351 (z : ZQ) (sn : Nat) (sx : Nat → Int) (t : Nat) (x4 : Int) : Option (ZQ × Int) :=
  gd (t + 3030 ≤ 300000) (if x4 = 0 then (some (z, 0)) else (bnd (f_L_drawn z sn sx 0) fun v3 => bnd (f_L_holdsAll v3.1 false (idiv v3.2 31)) fun v6 => if v6.2 = 0 then (some (v6.1, 0)) else (bnd (f_L_ends v6.1 false) fun v11 => if v11.2 = 0 then (some (v11.1, 0)) else (some (v11.1, 1)))))
set_option maxRecDepth 100000 in
theorem t_L_law_351 {X : QX} {K : KT} {H0 : Heap} (k : KofQ X K H0 cL_law "DatalogmillLaw" room_1 300000) {z : ZQ} {t : Nat} {x4 : Int} {o2 o5 o6 o7 o8 : Option Value} (r_x4 : R32 x4) {out : (ZQ × Int)} (hf : f_L_law_351 z X.n (scQ X) t x4 = some out) (hc : (fun out : (ZQ × Int) => RetQZ X K H0 cL_law 300000 out.1 out.2) out) : Jj (kAdd K t (6 * t)) (WdQ X H0) z 351 [some (.ref X.b), some (rf (X.M false).ad 1), o2, some (.ref X.oa), some (.int (ii x4)), o5, o6, o7, o8] [] := by
  unfold f_L_law_351 at hf
  have o : ∀ a b, Ok (kAdd K a b) cL_law "DatalogmillLaw" room_1 := fun _ _ => OkQ.add k.1
  have g : ∀ a b, GdQ X (kAdd K a b) H0 := fun _ _ => GdQ.add k.2.1
  obtain ⟨ht, hf⟩ := gd_some hf
  refine J_iload (o _ _) dL_law_351 rfl ?_
  refine J_if_eq 384 (o _ _) dL_law_353 (by decide) r_x4 (fun c1 => ?_) (fun c2 => ?_)
  · have hf := ite_t c1 hf
    refine J_iconst (o _ _) dL_law_384 ?_
    have hf := some_inj hf
    subst hf
    exact hc _ _ _ (by omega) (Or.inl rfl) dL_law_385
  · have hf := ite_f c2 hf
    refine J_aload_n (o _ _) dL_law_356 rfl ?_
    refine J_aldO_n (o _ _) dL_law_357 rfl ?_
    refine J_aldO_n (o _ _) dL_law_358 rfl ?_
    refine J_iconst (o _ _) dL_law_359 ?_
    obtain ⟨v3, e4, hf⟩ := bnd_some hf
    refine J_qS (np := 2) (c9 := 0) k.1 k.2.1 k.2.2.1 (by omega) dL_law_360 mw572 ml_L_drawn mw573 ⟨rfl, rfl, Nat.le_of_ble_eq_true rfl, Nat.le_of_ble_eq_true rfl⟩ (c_L_drawn k.2.2.2 k.2.1.2.1 rl0 e4) rfl rfl (c1s_a (c1s_r c1s_0 (Nat.le_of_ble_eq_true rfl)) (Nat.le_of_ble_eq_true rfl)) (fun q5 => ?_)
    refine J_tt (u := t) (by omega) ?_
    refine J_bipush (o _ _) dL_law_363 (by decide) ?_
    refine J_idiv (o _ _) dL_law_365 rl31 (by decide) ?_
    obtain ⟨v6, e7, hf⟩ := bnd_some hf
    refine J_qS (np := 3) (c9 := 3000) k.1 k.2.1 k.2.2.1 (by omega) dL_law_366 mw1321 ml_L_holdsAll mw1322 ⟨rfl, rfl, Nat.le_of_ble_eq_true rfl, Nat.le_of_ble_eq_true rfl⟩ (c_L_holdsAll k.2.2.2 k.2.1.2.1 (R_idiv _ _) e7) rfl rfl c1s_0 (fun q8 => ?_)
    refine J_tt (u := (t + 3000)) (by omega) ?_
    refine J_if_eq 384 (o _ _) dL_law_369 (by decide) q8 (fun c9 => ?_) (fun c10 => ?_)
    · have hf := ite_t c9 hf
      refine J_iconst (o _ _) dL_law_384 ?_
      have hf := some_inj hf
      subst hf
      exact hc _ _ _ (by omega) (Or.inl rfl) dL_law_385
    · have hf := ite_f c10 hf
      refine J_aload_n (o _ _) dL_law_372 rfl ?_
      refine J_aldO_n (o _ _) dL_law_373 rfl ?_
      obtain ⟨v11, e12, hf⟩ := bnd_some hf
      refine J_qS (np := 2) (c9 := 30) k.1 k.2.1 k.2.2.1 (by omega) dL_law_374 mw1336 ml_L_ends mw1337 ⟨rfl, rfl, Nat.le_of_ble_eq_true rfl, Nat.le_of_ble_eq_true rfl⟩ (c_L_ends k.2.2.2 k.2.1.2.1  e12) rfl rfl c1s_0 (fun q13 => ?_)
      refine J_tt (u := (t + 3030)) (by omega) ?_
      refine J_if_eq 384 (o _ _) dL_law_377 (by decide) q13 (fun c14 => ?_) (fun c15 => ?_)
      · have hf := ite_t c14 hf
        refine J_iconst (o _ _) dL_law_384 ?_
        have hf := some_inj hf
        subst hf
        exact hc _ _ _ (by omega) (Or.inl rfl) dL_law_385
      · have hf := ite_f c15 hf
        refine J_iconst (o _ _) dL_law_380 ?_
        refine J_goto 385 (o _ _) dL_law_381 (by decide) ?_
        have hf := some_inj hf
        subst hf
        exact hc _ _ _ (by omega) (Or.inr rfl) dL_law_385
noncomputable def f_L_law_343 (z : ZQ) (sn : Nat) (sx : Nat → Int) (t : Nat) (x5 : Int) (x6 : Int) (s0 : Int) : Option ((ZQ × Nat × Int × Int) ⊕ (ZQ × Int)) :=
  gd (t + 0 ≤ 300000) (bl (wr (x6 + 1)) fun n1 => some (Sum.inl (z, t, s0, n1)))
set_option maxRecDepth 100000 in
theorem t_L_law_343 {X : QX} {K : KT} {H0 : Heap} (k : KofQ X K H0 cL_law "DatalogmillLaw" room_1 300000) {z : ZQ} {t : Nat} {x5 : Int} {x6 : Int} {s0 : Int} {o4 o7 o8 : Option Value} (r_x5 : R32 x5) (r_x6 : R32 x6) (r_s0 : R32 s0) {out : ((ZQ × Nat × Int × Int) ⊕ (ZQ × Int))} (hf : f_L_law_343 z X.n (scQ X) t x5 x6 s0 = some out) (hc : (Sum.elim (HW_L_law_157 X K H0 x5) (fun out : (ZQ × Int) => RetQZ X K H0 cL_law 300000 out.1 out.2)) out) : Jj (kAdd K t (6 * t)) (WdQ X H0) z 343 [some (.ref X.b), some (rf (X.M false).ad 1), some (rf (X.M true).ad 1), some (.ref X.oa), o4, some (.int (ii x5)), some (.int (ii x6)), o7, o8] [.int (ii s0)] := by
  unfold f_L_law_343 at hf
  have o : ∀ a b, Ok (kAdd K a b) cL_law "DatalogmillLaw" room_1 := fun _ _ => OkQ.add k.1
  have g : ∀ a b, GdQ X (kAdd K a b) H0 := fun _ _ => GdQ.add k.2.1
  obtain ⟨ht, hf⟩ := gd_some hf
  refine J_istore (o _ _) dL_law_343 (Nat.le_of_ble_eq_true rfl) ?_
  have hf := bl_out hf
  refine J_iinc (o _ _) dL_law_345 rfl ?_
  refine J_goto 157 (o _ _) dL_law_348 (by decide) ?_
  have hf := some_inj hf
  subst hf
  exact hc r_s0 (R_wr _) _ _
noncomputable def f_L_law_342 (z : ZQ) (sn : Nat) (sx : Nat → Int) (t : Nat) (x5 : Int) (x6 : Int) : Option ((ZQ × Nat × Int × Int) ⊕ (ZQ × Int)) :=
  gd (t + 0 ≤ 300000) (f_L_law_343 z sn sx t x5 x6 0)
set_option maxRecDepth 100000 in
theorem t_L_law_342 {X : QX} {K : KT} {H0 : Heap} (k : KofQ X K H0 cL_law "DatalogmillLaw" room_1 300000) {z : ZQ} {t : Nat} {x5 : Int} {x6 : Int} {o4 o7 o8 : Option Value} (r_x5 : R32 x5) (r_x6 : R32 x6) {out : ((ZQ × Nat × Int × Int) ⊕ (ZQ × Int))} (hf : f_L_law_342 z X.n (scQ X) t x5 x6 = some out) (hc : (Sum.elim (HW_L_law_157 X K H0 x5) (fun out : (ZQ × Int) => RetQZ X K H0 cL_law 300000 out.1 out.2)) out) : Jj (kAdd K t (6 * t)) (WdQ X H0) z 342 [some (.ref X.b), some (rf (X.M false).ad 1), some (rf (X.M true).ad 1), some (.ref X.oa), o4, some (.int (ii x5)), some (.int (ii x6)), o7, o8] [] := by
  unfold f_L_law_342 at hf
  have o : ∀ a b, Ok (kAdd K a b) cL_law "DatalogmillLaw" room_1 := fun _ _ => OkQ.add k.1
  have g : ∀ a b, GdQ X (kAdd K a b) H0 := fun _ _ => GdQ.add k.2.1
  obtain ⟨ht, hf⟩ := gd_some hf
  refine J_iconst (o _ _) dL_law_342 ?_
  exact t_L_law_343 k r_x5 r_x6 rl0 hf hc
noncomputable def f_L_law_338 (z : ZQ) (sn : Nat) (sx : Nat → Int) (t : Nat) (x5 : Int) (x6 : Int) : Option ((ZQ × Nat × Int × Int) ⊕ (ZQ × Int)) :=
  gd (t + 0 ≤ 300000) (f_L_law_343 z sn sx t x5 x6 1)
set_option maxRecDepth 100000 in
theorem t_L_law_338 {X : QX} {K : KT} {H0 : Heap} (k : KofQ X K H0 cL_law "DatalogmillLaw" room_1 300000) {z : ZQ} {t : Nat} {x5 : Int} {x6 : Int} {o4 o7 o8 : Option Value} (r_x5 : R32 x5) (r_x6 : R32 x6) {out : ((ZQ × Nat × Int × Int) ⊕ (ZQ × Int))} (hf : f_L_law_338 z X.n (scQ X) t x5 x6 = some out) (hc : (Sum.elim (HW_L_law_157 X K H0 x5) (fun out : (ZQ × Int) => RetQZ X K H0 cL_law 300000 out.1 out.2)) out) : Jj (kAdd K t (6 * t)) (WdQ X H0) z 338 [some (.ref X.b), some (rf (X.M false).ad 1), some (rf (X.M true).ad 1), some (.ref X.oa), o4, some (.int (ii x5)), some (.int (ii x6)), o7, o8] [] := by
  unfold f_L_law_338 at hf
  have o : ∀ a b, Ok (kAdd K a b) cL_law "DatalogmillLaw" room_1 := fun _ _ => OkQ.add k.1
  have g : ∀ a b, GdQ X (kAdd K a b) H0 := fun _ _ => GdQ.add k.2.1
  obtain ⟨ht, hf⟩ := gd_some hf
  refine J_iconst (o _ _) dL_law_338 ?_
  refine J_goto 343 (o _ _) dL_law_339 (by decide) ?_
  exact t_L_law_343 k r_x5 r_x6 rl1 hf hc
noncomputable def f_L_law_304 (z : ZQ) (sn : Nat) (sx : Nat → Int) (t : Nat) (x5 : Int) (x6 : Int) (x7 : Int) : Option ((ZQ × Nat × Int × Int) ⊕ (ZQ × Int)) :=
  gd (t + 4000 ≤ 300000) (bnd (f_L_alike z false true (idiv x7 3)) fun v1 => if v1.2 = 0 then (f_L_law_342 v1.1 sn sx (t + 1000) x5 x6) else (if 0 < (irem x6 9) then (f_L_law_338 v1.1 sn sx (t + 1000) x5 x6) else (bnd (f_L_holdsAll v1.1 true (idiv x7 7)) fun v8 => if v8.2 = 0 then (f_L_law_342 v8.1 sn sx (t + 4000) x5 x6) else (f_L_law_338 v8.1 sn sx (t + 4000) x5 x6))))
set_option maxRecDepth 100000 in
theorem t_L_law_304 {X : QX} {K : KT} {H0 : Heap} (k : KofQ X K H0 cL_law "DatalogmillLaw" room_1 300000) {z : ZQ} {t : Nat} {x5 : Int} {x6 : Int} {x7 : Int} {o4 o8 : Option Value} (r_x5 : R32 x5) (r_x6 : R32 x6) (r_x7 : R32 x7) {out : ((ZQ × Nat × Int × Int) ⊕ (ZQ × Int))} (hf : f_L_law_304 z X.n (scQ X) t x5 x6 x7 = some out) (hc : (Sum.elim (HW_L_law_157 X K H0 x5) (fun out : (ZQ × Int) => RetQZ X K H0 cL_law 300000 out.1 out.2)) out) : Jj (kAdd K t (6 * t)) (WdQ X H0) z 304 [some (.ref X.b), some (rf (X.M false).ad 1), some (rf (X.M true).ad 1), some (.ref X.oa), o4, some (.int (ii x5)), some (.int (ii x6)), some (.int (ii x7)), o8] [] := by
  unfold f_L_law_304 at hf
  have o : ∀ a b, Ok (kAdd K a b) cL_law "DatalogmillLaw" room_1 := fun _ _ => OkQ.add k.1
  have g : ∀ a b, GdQ X (kAdd K a b) H0 := fun _ _ => GdQ.add k.2.1
  obtain ⟨ht, hf⟩ := gd_some hf
  refine J_aload_n (o _ _) dL_law_304 rfl ?_
  refine J_aload_n (o _ _) dL_law_305 rfl ?_
  refine J_aldO_n (o _ _) dL_law_306 rfl ?_
  refine J_iload (o _ _) dL_law_307 rfl ?_
  refine J_iconst (o _ _) dL_law_309 ?_
  refine J_idiv (o _ _) dL_law_310 rl3 (by decide) ?_
  obtain ⟨v1, e2, hf⟩ := bnd_some hf
  refine J_qS (np := 4) (c9 := 1000) k.1 k.2.1 k.2.2.1 (by omega) dL_law_311 mw1303 ml_L_alike mw1304 ⟨rfl, rfl, Nat.le_of_ble_eq_true rfl, Nat.le_of_ble_eq_true rfl⟩ (c_L_alike k.2.2.2 k.2.1.2.1 (R_idiv _ _) e2) rfl rfl c1s_0 (fun q3 => ?_)
  refine J_tt (u := (t + 1000)) (by omega) ?_
  refine J_if_eq 342 (o _ _) dL_law_314 (by decide) q3 (fun c4 => ?_) (fun c5 => ?_)
  · have hf := ite_t c4 hf
    exact t_L_law_342 k r_x5 r_x6 hf hc
  · have hf := ite_f c5 hf
    refine J_iload (o _ _) dL_law_317 rfl ?_
    refine J_bipush (o _ _) dL_law_319 (by decide) ?_
    refine J_irem (o _ _) dL_law_321 rl9 (by decide) ?_
    refine J_if_gt 338 (o _ _) dL_law_322 (by decide) (R_irem _ _) (fun c6 => ?_) (fun c7 => ?_)
    · have hf := ite_t c6 hf
      exact t_L_law_338 k r_x5 r_x6 hf hc
    · have hf := ite_f c7 hf
      refine J_aload_n (o _ _) dL_law_325 rfl ?_
      refine J_aldO_n (o _ _) dL_law_326 rfl ?_
      refine J_iload (o _ _) dL_law_327 rfl ?_
      refine J_bipush (o _ _) dL_law_329 (by decide) ?_
      refine J_idiv (o _ _) dL_law_331 rl7 (by decide) ?_
      obtain ⟨v8, e9, hf⟩ := bnd_some hf
      refine J_qS (np := 3) (c9 := 3000) k.1 k.2.1 k.2.2.1 (by omega) dL_law_332 mw1321 ml_L_holdsAll mw1322 ⟨rfl, rfl, Nat.le_of_ble_eq_true rfl, Nat.le_of_ble_eq_true rfl⟩ (c_L_holdsAll k.2.2.2 k.2.1.2.1 (R_idiv _ _) e9) rfl rfl c1s_0 (fun q10 => ?_)
      refine J_tt (u := (t + 4000)) (by omega) ?_
      refine J_if_eq 342 (o _ _) dL_law_335 (by decide) q10 (fun c11 => ?_) (fun c12 => ?_)
      · have hf := ite_t c11 hf
        exact t_L_law_342 k r_x5 r_x6 hf hc
      · have hf := ite_f c12 hf
        exact t_L_law_338 k r_x5 r_x6 hf hc
noncomputable def f_L_law_268 (z : ZQ) (sn : Nat) (sx : Nat → Int) (t : Nat) (x5 : Int) (x6 : Int) (x7 : Int) (x8 : Int) (s0 : Int) : Option ((ZQ × Nat × Int × Int) ⊕ (ZQ × Int)) :=
  gd (t + 62 ≤ 300000) (bnd (f_L_count z x7 x8) fun v1 => if s0 = 0 then (f_L_law_342 v1 sn sx t x5 x6) else (if 0 < (irem x6 3) then (f_L_law_304 v1 sn sx t x5 x6 x7) else (bnd (f_L_refuses v1 true (irem x7 499)) fun v8 => if v8.2 = 0 then (f_L_law_342 v8.1 sn sx (t + 62) x5 x6) else (f_L_law_304 v8.1 sn sx (t + 62) x5 x6 x7))))
set_option maxRecDepth 100000 in
theorem t_L_law_268 {X : QX} {K : KT} {H0 : Heap} (k : KofQ X K H0 cL_law "DatalogmillLaw" room_1 300000) {z : ZQ} {t : Nat} {x5 : Int} {x6 : Int} {x7 : Int} {x8 : Int} {s0 : Int} {o4 : Option Value} (r_x5 : R32 x5) (r_x6 : R32 x6) (r_x7 : R32 x7) (r_x8 : R32 x8) (r_s0 : R32 s0) {out : ((ZQ × Nat × Int × Int) ⊕ (ZQ × Int))} (hf : f_L_law_268 z X.n (scQ X) t x5 x6 x7 x8 s0 = some out) (hc : (Sum.elim (HW_L_law_157 X K H0 x5) (fun out : (ZQ × Int) => RetQZ X K H0 cL_law 300000 out.1 out.2)) out) : Jj (kAdd K t (6 * t)) (WdQ X H0) z 268 [some (.ref X.b), some (rf (X.M false).ad 1), some (rf (X.M true).ad 1), some (.ref X.oa), o4, some (.int (ii x5)), some (.int (ii x6)), some (.int (ii x7)), some (.int (ii x8))] [.int (ii s0)] := by
  unfold f_L_law_268 at hf
  have o : ∀ a b, Ok (kAdd K a b) cL_law "DatalogmillLaw" room_1 := fun _ _ => OkQ.add k.1
  have g : ∀ a b, GdQ X (kAdd K a b) H0 := fun _ _ => GdQ.add k.2.1
  obtain ⟨ht, hf⟩ := gd_some hf
  refine J_istore (o _ _) dL_law_268 (Nat.le_of_ble_eq_true rfl) ?_
  refine J_aldO_n (o _ _) dL_law_270 rfl ?_
  refine J_iload (o _ _) dL_law_271 rfl ?_
  refine J_iload (o _ _) dL_law_273 rfl ?_
  obtain ⟨v1, e2, hf⟩ := bnd_some hf
  refine J_qSV (np := 3) (c9 := 0) k.1 k.2.1 k.2.2.1 (by omega) dL_law_275 mw1300 ml_L_count mw1301 ⟨rfl, rfl, Nat.le_of_ble_eq_true rfl, Nat.le_of_ble_eq_true rfl⟩ (c_L_count k.2.2.2 k.2.1.2.1 r_x7 r_x8 e2) rfl rfl c1s_0 ?_
  refine J_tt (u := t) (by omega) ?_
  refine J_iload (o _ _) dL_law_278 rfl ?_
  refine J_if_eq 342 (o _ _) dL_law_280 (by decide) r_s0 (fun c4 => ?_) (fun c5 => ?_)
  · have hf := ite_t c4 hf
    exact t_L_law_342 k r_x5 r_x6 hf hc
  · have hf := ite_f c5 hf
    refine J_iload (o _ _) dL_law_283 rfl ?_
    refine J_iconst (o _ _) dL_law_285 ?_
    refine J_irem (o _ _) dL_law_286 rl3 (by decide) ?_
    refine J_if_gt 304 (o _ _) dL_law_287 (by decide) (R_irem _ _) (fun c6 => ?_) (fun c7 => ?_)
    · have hf := ite_t c6 hf
      exact t_L_law_304 k r_x5 r_x6 r_x7 hf hc
    · have hf := ite_f c7 hf
      refine J_aload_n (o _ _) dL_law_290 rfl ?_
      refine J_aldO_n (o _ _) dL_law_291 rfl ?_
      refine J_iload (o _ _) dL_law_292 rfl ?_
      refine J_sipush (o _ _) dL_law_294 (by decide) ?_
      refine J_irem (o _ _) dL_law_297 rl499 (by decide) ?_
      obtain ⟨v8, e9, hf⟩ := bnd_some hf
      refine J_qS (np := 3) (c9 := 62) k.1 k.2.1 k.2.2.1 (by omega) dL_law_298 mw577 ml_L_refuses mw578 ⟨rfl, rfl, Nat.le_of_ble_eq_true rfl, Nat.le_of_ble_eq_true rfl⟩ (c_L_refuses k.2.2.2 k.2.1.2.1 (R_irem _ _) e9) rfl rfl c1s_0 (fun q10 => ?_)
      refine J_tt (u := (t + 62)) (by omega) ?_
      refine J_if_eq 342 (o _ _) dL_law_301 (by decide) q10 (fun c11 => ?_) (fun c12 => ?_)
      · have hf := ite_t c11 hf
        exact t_L_law_342 k r_x5 r_x6 hf hc
      · have hf := ite_f c12 hf
        exact t_L_law_304 k r_x5 r_x6 r_x7 hf hc
noncomputable def f_L_law_267 (z : ZQ) (sn : Nat) (sx : Nat → Int) (t : Nat) (x5 : Int) (x6 : Int) (x7 : Int) (x8 : Int) : Option ((ZQ × Nat × Int × Int) ⊕ (ZQ × Int)) :=
  gd (t + 0 ≤ 300000) (f_L_law_268 z sn sx t x5 x6 x7 x8 0)
set_option maxRecDepth 100000 in
theorem t_L_law_267 {X : QX} {K : KT} {H0 : Heap} (k : KofQ X K H0 cL_law "DatalogmillLaw" room_1 300000) {z : ZQ} {t : Nat} {x5 : Int} {x6 : Int} {x7 : Int} {x8 : Int} {o4 : Option Value} (r_x5 : R32 x5) (r_x6 : R32 x6) (r_x7 : R32 x7) (r_x8 : R32 x8) {out : ((ZQ × Nat × Int × Int) ⊕ (ZQ × Int))} (hf : f_L_law_267 z X.n (scQ X) t x5 x6 x7 x8 = some out) (hc : (Sum.elim (HW_L_law_157 X K H0 x5) (fun out : (ZQ × Int) => RetQZ X K H0 cL_law 300000 out.1 out.2)) out) : Jj (kAdd K t (6 * t)) (WdQ X H0) z 267 [some (.ref X.b), some (rf (X.M false).ad 1), some (rf (X.M true).ad 1), some (.ref X.oa), o4, some (.int (ii x5)), some (.int (ii x6)), some (.int (ii x7)), some (.int (ii x8))] [] := by
  unfold f_L_law_267 at hf
  have o : ∀ a b, Ok (kAdd K a b) cL_law "DatalogmillLaw" room_1 := fun _ _ => OkQ.add k.1
  have g : ∀ a b, GdQ X (kAdd K a b) H0 := fun _ _ => GdQ.add k.2.1
  obtain ⟨ht, hf⟩ := gd_some hf
  refine J_iconst (o _ _) dL_law_267 ?_
  exact t_L_law_268 k r_x5 r_x6 r_x7 r_x8 rl0 hf hc
noncomputable def f_L_law_226 (z : ZQ) (sn : Nat) (sx : Nat → Int) (t : Nat) (x5 : Int) (x6 : Int) (s0 : Int) : Option ((ZQ × Nat × Int × Int) ⊕ (ZQ × Int)) :=
  gd (t + 64 ≤ 300000) (bnd (f_L_act z false s0) fun v1 => bnd (f_L_refuses v1.1 true (irem s0 9973)) fun v4 => if v4.2 = 0 then (f_L_law_267 v4.1 sn sx (t + 63) x5 x6 s0 v1.2) else (bnd (f_L_act v4.1 true s0) fun v9 => if v9.2 = v1.2 then (f_L_law_268 v9.1 sn sx (t + 64) x5 x6 s0 v1.2 1) else (f_L_law_267 v9.1 sn sx (t + 64) x5 x6 s0 v1.2)))
set_option maxRecDepth 100000 in
theorem t_L_law_226 {X : QX} {K : KT} {H0 : Heap} (k : KofQ X K H0 cL_law "DatalogmillLaw" room_1 300000) {z : ZQ} {t : Nat} {x5 : Int} {x6 : Int} {s0 : Int} {o4 o7 o8 : Option Value} (r_x5 : R32 x5) (r_x6 : R32 x6) (r_s0 : R32 s0) {out : ((ZQ × Nat × Int × Int) ⊕ (ZQ × Int))} (hf : f_L_law_226 z X.n (scQ X) t x5 x6 s0 = some out) (hc : (Sum.elim (HW_L_law_157 X K H0 x5) (fun out : (ZQ × Int) => RetQZ X K H0 cL_law 300000 out.1 out.2)) out) : Jj (kAdd K t (6 * t)) (WdQ X H0) z 226 [some (.ref X.b), some (rf (X.M false).ad 1), some (rf (X.M true).ad 1), some (.ref X.oa), o4, some (.int (ii x5)), some (.int (ii x6)), o7, o8] [.int (ii s0)] := by
  unfold f_L_law_226 at hf
  have o : ∀ a b, Ok (kAdd K a b) cL_law "DatalogmillLaw" room_1 := fun _ _ => OkQ.add k.1
  have g : ∀ a b, GdQ X (kAdd K a b) H0 := fun _ _ => GdQ.add k.2.1
  obtain ⟨ht, hf⟩ := gd_some hf
  refine J_istore (o _ _) dL_law_226 (Nat.le_of_ble_eq_true rfl) ?_
  refine J_aload_n (o _ _) dL_law_228 rfl ?_
  refine J_aldO_n (o _ _) dL_law_229 rfl ?_
  refine J_iload (o _ _) dL_law_230 rfl ?_
  obtain ⟨v1, e2, hf⟩ := bnd_some hf
  refine J_qS (np := 3) (c9 := 1) k.1 k.2.1 k.2.2.1 (by omega) dL_law_232 mw1266 ml_L_act mw1267 ⟨rfl, rfl, Nat.le_of_ble_eq_true rfl, Nat.le_of_ble_eq_true rfl⟩ (c_L_act k.2.2.2 k.2.1.2.1 r_s0 e2) rfl rfl c1s_0 (fun q3 => ?_)
  refine J_tt (u := (t + 1)) (by omega) ?_
  refine J_istore (o _ _) dL_law_235 (Nat.le_of_ble_eq_true rfl) ?_
  refine J_aload_n (o _ _) dL_law_237 rfl ?_
  refine J_aldO_n (o _ _) dL_law_238 rfl ?_
  refine J_iload (o _ _) dL_law_239 rfl ?_
  refine J_sipush (o _ _) dL_law_241 (by decide) ?_
  refine J_irem (o _ _) dL_law_244 rl9973 (by decide) ?_
  obtain ⟨v4, e5, hf⟩ := bnd_some hf
  refine J_qS (np := 3) (c9 := 62) k.1 k.2.1 k.2.2.1 (by omega) dL_law_245 mw577 ml_L_refuses mw578 ⟨rfl, rfl, Nat.le_of_ble_eq_true rfl, Nat.le_of_ble_eq_true rfl⟩ (c_L_refuses k.2.2.2 k.2.1.2.1 (R_irem _ _) e5) rfl rfl c1s_0 (fun q6 => ?_)
  refine J_tt (u := (t + 63)) (by omega) ?_
  refine J_if_eq 267 (o _ _) dL_law_248 (by decide) q6 (fun c7 => ?_) (fun c8 => ?_)
  · have hf := ite_t c7 hf
    exact t_L_law_267 k r_x5 r_x6 r_s0 q3 hf hc
  · have hf := ite_f c8 hf
    refine J_aload_n (o _ _) dL_law_251 rfl ?_
    refine J_aldO_n (o _ _) dL_law_252 rfl ?_
    refine J_iload (o _ _) dL_law_253 rfl ?_
    obtain ⟨v9, e10, hf⟩ := bnd_some hf
    refine J_qS (np := 3) (c9 := 1) k.1 k.2.1 k.2.2.1 (by omega) dL_law_255 mw1266 ml_L_act mw1267 ⟨rfl, rfl, Nat.le_of_ble_eq_true rfl, Nat.le_of_ble_eq_true rfl⟩ (c_L_act k.2.2.2 k.2.1.2.1 r_s0 e10) rfl rfl c1s_0 (fun q11 => ?_)
    refine J_tt (u := (t + 64)) (by omega) ?_
    refine J_iload (o _ _) dL_law_258 rfl ?_
    refine J_icmp_ne 267 (o _ _) dL_law_260 (by decide) q11 q3 (fun c12 => ?_) (fun c13 => ?_)
    · have hf := ite_f c12 hf
      exact t_L_law_267 k r_x5 r_x6 r_s0 q3 hf hc
    · have hf := ite_t c13 hf
      refine J_iconst (o _ _) dL_law_263 ?_
      refine J_goto 268 (o _ _) dL_law_264 (by decide) ?_
      exact t_L_law_268 k r_x5 r_x6 r_s0 q3 rl1 hf hc
noncomputable def f_L_law_224 (z : ZQ) (sn : Nat) (sx : Nat → Int) (t : Nat) (x5 : Int) (x6 : Int) (x7 : Int) : Option ((ZQ × Nat × Int × Int) ⊕ (ZQ × Int)) :=
  gd (t + 0 ≤ 300000) (f_L_law_226 z sn sx t x5 x6 x7)
set_option maxRecDepth 100000 in
theorem t_L_law_224 {X : QX} {K : KT} {H0 : Heap} (k : KofQ X K H0 cL_law "DatalogmillLaw" room_1 300000) {z : ZQ} {t : Nat} {x5 : Int} {x6 : Int} {x7 : Int} {o4 o8 : Option Value} (r_x5 : R32 x5) (r_x6 : R32 x6) (r_x7 : R32 x7) {out : ((ZQ × Nat × Int × Int) ⊕ (ZQ × Int))} (hf : f_L_law_224 z X.n (scQ X) t x5 x6 x7 = some out) (hc : (Sum.elim (HW_L_law_157 X K H0 x5) (fun out : (ZQ × Int) => RetQZ X K H0 cL_law 300000 out.1 out.2)) out) : Jj (kAdd K t (6 * t)) (WdQ X H0) z 224 [some (.ref X.b), some (rf (X.M false).ad 1), some (rf (X.M true).ad 1), some (.ref X.oa), o4, some (.int (ii x5)), some (.int (ii x6)), some (.int (ii x7)), o8] [] := by
  unfold f_L_law_224 at hf
  have o : ∀ a b, Ok (kAdd K a b) cL_law "DatalogmillLaw" room_1 := fun _ _ => OkQ.add k.1
  have g : ∀ a b, GdQ X (kAdd K a b) H0 := fun _ _ => GdQ.add k.2.1
  obtain ⟨ht, hf⟩ := gd_some hf
  refine J_iload (o _ _) dL_law_224 rfl ?_
  exact t_L_law_226 k r_x5 r_x6 r_x7 hf hc
noncomputable def f_L_law_157B (z : ZQ) (sn : Nat) (sx : Nat → Int) (t : Nat) (x4 : Int) (x5 : Int) (x6 : Int) : Option ((ZQ × Nat × Int × Int) ⊕ (ZQ × Int)) :=
  gd (t + 0 ≤ 300000) (if x5 ≤ x6 then (bnd (f_L_law_351 z sn sx t x4) fun y3 => some (Sum.inr y3)) else (if x4 = 0 then (bnd (f_L_law_351 z sn sx t x4) fun y6 => some (Sum.inr y6)) else (bnd (f_L_drawn z sn sx (wr (1 + x6))) fun v7 => if 5 ≤ x6 then (if x6 ≤ 20 then (f_L_law_224 v7.1 sn sx t x5 x6 v7.2) else (if (irem x6 4) = 0 then (f_L_law_226 v7.1 sn sx t x5 x6 (wr ((wr ((idiv v7.2 16) * 16)) + 11))) else (f_L_law_224 v7.1 sn sx t x5 x6 v7.2))) else (f_L_law_226 v7.1 sn sx t x5 x6 (wr ((idiv v7.2 16) * 16))))))
set_option maxRecDepth 100000 in
theorem t_L_law_157B {X : QX} {K : KT} {H0 : Heap} (k : KofQ X K H0 cL_law "DatalogmillLaw" room_1 300000) {z : ZQ} {t : Nat} {x4 : Int} {x5 : Int} {x6 : Int} {o7 o8 : Option Value} (r_x4 : R32 x4) (r_x5 : R32 x5) (r_x6 : R32 x6) {out : ((ZQ × Nat × Int × Int) ⊕ (ZQ × Int))} (hf : f_L_law_157B z X.n (scQ X) t x4 x5 x6 = some out) (hc : (Sum.elim (HW_L_law_157 X K H0 x5) (fun out : (ZQ × Int) => RetQZ X K H0 cL_law 300000 out.1 out.2)) out) : Jj (kAdd K t (6 * t)) (WdQ X H0) z 157 [some (.ref X.b), some (rf (X.M false).ad 1), some (rf (X.M true).ad 1), some (.ref X.oa), some (.int (ii x4)), some (.int (ii x5)), some (.int (ii x6)), o7, o8] [] := by
  unfold f_L_law_157B at hf
  have o : ∀ a b, Ok (kAdd K a b) cL_law "DatalogmillLaw" room_1 := fun _ _ => OkQ.add k.1
  have g : ∀ a b, GdQ X (kAdd K a b) H0 := fun _ _ => GdQ.add k.2.1
  obtain ⟨ht, hf⟩ := gd_some hf
  refine J_iload (o _ _) dL_law_157 rfl ?_
  refine J_iload (o _ _) dL_law_159 rfl ?_
  refine J_icmp_ge 351 (o _ _) dL_law_161 (by decide) r_x6 r_x5 (fun c1 => ?_) (fun c2 => ?_)
  · have hf := ite_t c1 hf
    obtain ⟨y3, hf1, hf⟩ := bnd_some hf
    have hf := some_inj hf
    subst hf
    exact t_L_law_351 k r_x4 hf1 hc
  · have hf := ite_f c2 hf
    refine J_iload (o _ _) dL_law_164 rfl ?_
    refine J_if_eq 351 (o _ _) dL_law_166 (by decide) r_x4 (fun c4 => ?_) (fun c5 => ?_)
    · have hf := ite_t c4 hf
      obtain ⟨y6, hf1, hf⟩ := bnd_some hf
      have hf := some_inj hf
      subst hf
      exact t_L_law_351 k r_x4 hf1 hc
    · have hf := ite_f c5 hf
      refine J_aldO_n (o _ _) dL_law_169 rfl ?_
      refine J_iconst (o _ _) dL_law_170 ?_
      refine J_iload (o _ _) dL_law_171 rfl ?_
      refine J_iadd (o _ _) dL_law_173 ?_
      obtain ⟨v7, e8, hf⟩ := bnd_some hf
      refine J_qS (np := 2) (c9 := 0) k.1 k.2.1 k.2.2.1 (by omega) dL_law_174 mw572 ml_L_drawn mw573 ⟨rfl, rfl, Nat.le_of_ble_eq_true rfl, Nat.le_of_ble_eq_true rfl⟩ (c_L_drawn k.2.2.2 k.2.1.2.1 (R_wr _) e8) rfl rfl c1s_0 (fun q9 => ?_)
      refine J_tt (u := t) (by omega) ?_
      refine J_istore (o _ _) dL_law_177 (Nat.le_of_ble_eq_true rfl) ?_
      refine J_iload (o _ _) dL_law_179 rfl ?_
      refine J_iconst (o _ _) dL_law_181 ?_
      refine J_icmp_ge 196 (o _ _) dL_law_182 (by decide) r_x6 rl5 (fun c10 => ?_) (fun c11 => ?_)
      · have hf := ite_t c10 hf
        refine J_iload (o _ _) dL_law_196 rfl ?_
        refine J_bipush (o _ _) dL_law_198 (by decide) ?_
        refine J_icmp_le 224 (o _ _) dL_law_200 (by decide) r_x6 rl20 (fun c12 => ?_) (fun c13 => ?_)
        · have hf := ite_t c12 hf
          exact t_L_law_224 k r_x5 r_x6 q9 hf hc
        · have hf := ite_f c13 hf
          refine J_iload (o _ _) dL_law_203 rfl ?_
          refine J_iconst (o _ _) dL_law_205 ?_
          refine J_irem (o _ _) dL_law_206 rl4 (by decide) ?_
          refine J_if_ne 224 (o _ _) dL_law_207 (by decide) (R_irem _ _) (fun c14 => ?_) (fun c15 => ?_)
          · have hf := ite_f c14 hf
            exact t_L_law_224 k r_x5 r_x6 q9 hf hc
          · have hf := ite_t c15 hf
            refine J_iload (o _ _) dL_law_210 rfl ?_
            refine J_bipush (o _ _) dL_law_212 (by decide) ?_
            refine J_idiv (o _ _) dL_law_214 rl16 (by decide) ?_
            refine J_bipush (o _ _) dL_law_215 (by decide) ?_
            refine J_imul (o _ _) dL_law_217 ?_
            refine J_bipush (o _ _) dL_law_218 (by decide) ?_
            refine J_iadd (o _ _) dL_law_220 ?_
            refine J_goto 226 (o _ _) dL_law_221 (by decide) ?_
            exact t_L_law_226 k r_x5 r_x6 (R_wr _) hf hc
      · have hf := ite_f c11 hf
        refine J_iload (o _ _) dL_law_185 rfl ?_
        refine J_bipush (o _ _) dL_law_187 (by decide) ?_
        refine J_idiv (o _ _) dL_law_189 rl16 (by decide) ?_
        refine J_bipush (o _ _) dL_law_190 (by decide) ?_
        refine J_imul (o _ _) dL_law_192 ?_
        refine J_goto 226 (o _ _) dL_law_193 (by decide) ?_
        exact t_L_law_226 k r_x5 r_x6 (R_wr _) hf hc
noncomputable def f_L_law_157 (z : ZQ) (sn : Nat) (sx : Nat → Int) (t : Nat) (x4 : Int) (x5 : Int) (x6 : Int) : Option (ZQ × Int) :=
  lp (fun y : (ZQ × Nat × Int × Int) => f_L_law_157B y.1 sn sx y.2.1 y.2.2.1 x5 y.2.2.2) (z, t, x4, x6)
theorem t_L_law_157 {X : QX} {K : KT} {H0 : Heap} (k : KofQ X K H0 cL_law "DatalogmillLaw" room_1 300000) {z : ZQ} {t : Nat} {x4 : Int} {x5 : Int} {x6 : Int} (r_x5 : R32 x5) {out : (ZQ × Int)} (hf : f_L_law_157 z X.n (scQ X) t x4 x5 x6 = some out) (hc : (fun out : (ZQ × Int) => RetQZ X K H0 cL_law 300000 out.1 out.2) out) : HW_L_law_157 X K H0 x5 (z, t, x4, x6) := by
  unfold f_L_law_157 at hf
  refine lp_ind (P := HW_L_law_157 X K H0 x5) hf ?_
  intro y o hs h1 h2
  intro r_x4 r_x6
  intro o7 o8
  refine t_L_law_157B k r_x4 r_x5 r_x6 hs ?_
  cases o with
  | inl z' => exact h1 z' rfl
  | inr r' => rw [h2 r' rfl]; exact hc
noncomputable def f_L_law_141 (z : ZQ) (sn : Nat) (sx : Nat → Int) (t : Nat) (x4 : Int) : Option (ZQ × Int) :=
  gd (t + 0 ≤ 300000) (bnd (f_L_drawn z sn sx 0) fun v1 => bl (wr (30 + (irem v1.2 31))) fun n4 => f_L_law_157 v1.1 sn sx t x4 n4 0)
set_option maxRecDepth 100000 in
theorem t_L_law_141 {X : QX} {K : KT} {H0 : Heap} (k : KofQ X K H0 cL_law "DatalogmillLaw" room_1 300000) {z : ZQ} {t : Nat} {x4 : Int} {o5 o6 o7 o8 : Option Value} (r_x4 : R32 x4) {out : (ZQ × Int)} (hf : f_L_law_141 z X.n (scQ X) t x4 = some out) (hc : (fun out : (ZQ × Int) => RetQZ X K H0 cL_law 300000 out.1 out.2) out) : Jj (kAdd K t (6 * t)) (WdQ X H0) z 141 [some (.ref X.b), some (rf (X.M false).ad 1), some (rf (X.M true).ad 1), some (.ref X.oa), some (.int (ii x4)), o5, o6, o7, o8] [] := by
  unfold f_L_law_141 at hf
  have o : ∀ a b, Ok (kAdd K a b) cL_law "DatalogmillLaw" room_1 := fun _ _ => OkQ.add k.1
  have g : ∀ a b, GdQ X (kAdd K a b) H0 := fun _ _ => GdQ.add k.2.1
  obtain ⟨ht, hf⟩ := gd_some hf
  refine J_bipush (o _ _) dL_law_141 (by decide) ?_
  refine J_aldO_n (o _ _) dL_law_143 rfl ?_
  refine J_iconst (o _ _) dL_law_144 ?_
  obtain ⟨v1, e2, hf⟩ := bnd_some hf
  refine J_qS (np := 2) (c9 := 0) k.1 k.2.1 k.2.2.1 (by omega) dL_law_145 mw572 ml_L_drawn mw573 ⟨rfl, rfl, Nat.le_of_ble_eq_true rfl, Nat.le_of_ble_eq_true rfl⟩ (c_L_drawn k.2.2.2 k.2.1.2.1 rl0 e2) rfl rfl (c1s_i c1s_0 (Nat.le_of_ble_eq_true rfl)) (fun q3 => ?_)
  refine J_tt (u := t) (by omega) ?_
  refine J_bipush (o _ _) dL_law_148 (by decide) ?_
  refine J_irem (o _ _) dL_law_150 rl31 (by decide) ?_
  refine J_iadd (o _ _) dL_law_151 ?_
  refine J_istore (o _ _) dL_law_152 (Nat.le_of_ble_eq_true rfl) ?_
  have hf := bl_out hf
  refine J_iconst (o _ _) dL_law_154 ?_
  refine J_istore (o _ _) dL_law_155 (Nat.le_of_ble_eq_true rfl) ?_
  exact (t_L_law_157 k (R_wr _) hf hc) r_x4 rl0 _ _
noncomputable def f_L_law_133 (z : ZQ) (sn : Nat) (sx : Nat → Int) (t : Nat) (x5 : Int) (s0 : Int) : Option ((ZQ × Nat × Int × Int) ⊕ (ZQ × Int)) :=
  gd (t + 0 ≤ 300000) (bl (wr (x5 + 1)) fun n1 => some (Sum.inl (z, t, s0, n1)))
set_option maxRecDepth 100000 in
theorem t_L_law_133 {X : QX} {K : KT} {H0 : Heap} (k : KofQ X K H0 cL_law "DatalogmillLaw" room_1 300000) {z : ZQ} {t : Nat} {x5 : Int} {s0 : Int} {o4 o6 o7 o8 : Option Value} (r_x5 : R32 x5) (r_s0 : R32 s0) {out : ((ZQ × Nat × Int × Int) ⊕ (ZQ × Int))} (hf : f_L_law_133 z X.n (scQ X) t x5 s0 = some out) (hc : (Sum.elim (HW_L_law_27 X K H0 ) (fun out : (ZQ × Int) => RetQZ X K H0 cL_law 300000 out.1 out.2)) out) : Jj (kAdd K t (6 * t)) (WdQ X H0) z 133 [some (.ref X.b), some (rf (X.M false).ad 1), some (rf (X.M true).ad 1), some (.ref X.oa), o4, some (.int (ii x5)), o6, o7, o8] [.int (ii s0)] := by
  unfold f_L_law_133 at hf
  have o : ∀ a b, Ok (kAdd K a b) cL_law "DatalogmillLaw" room_1 := fun _ _ => OkQ.add k.1
  have g : ∀ a b, GdQ X (kAdd K a b) H0 := fun _ _ => GdQ.add k.2.1
  obtain ⟨ht, hf⟩ := gd_some hf
  refine J_istore (o _ _) dL_law_133 (Nat.le_of_ble_eq_true rfl) ?_
  have hf := bl_out hf
  refine J_iinc (o _ _) dL_law_135 rfl ?_
  refine J_goto 27 (o _ _) dL_law_138 (by decide) ?_
  have hf := some_inj hf
  subst hf
  exact hc r_s0 (R_wr _) _ _ _
noncomputable def f_L_law_132 (z : ZQ) (sn : Nat) (sx : Nat → Int) (t : Nat) (x5 : Int) : Option ((ZQ × Nat × Int × Int) ⊕ (ZQ × Int)) :=
  gd (t + 0 ≤ 300000) (f_L_law_133 z sn sx t x5 0)
set_option maxRecDepth 100000 in
theorem t_L_law_132 {X : QX} {K : KT} {H0 : Heap} (k : KofQ X K H0 cL_law "DatalogmillLaw" room_1 300000) {z : ZQ} {t : Nat} {x5 : Int} {o4 o6 o7 o8 : Option Value} (r_x5 : R32 x5) {out : ((ZQ × Nat × Int × Int) ⊕ (ZQ × Int))} (hf : f_L_law_132 z X.n (scQ X) t x5 = some out) (hc : (Sum.elim (HW_L_law_27 X K H0 ) (fun out : (ZQ × Int) => RetQZ X K H0 cL_law 300000 out.1 out.2)) out) : Jj (kAdd K t (6 * t)) (WdQ X H0) z 132 [some (.ref X.b), some (rf (X.M false).ad 1), some (rf (X.M true).ad 1), some (.ref X.oa), o4, some (.int (ii x5)), o6, o7, o8] [] := by
  unfold f_L_law_132 at hf
  have o : ∀ a b, Ok (kAdd K a b) cL_law "DatalogmillLaw" room_1 := fun _ _ => OkQ.add k.1
  have g : ∀ a b, GdQ X (kAdd K a b) H0 := fun _ _ => GdQ.add k.2.1
  obtain ⟨ht, hf⟩ := gd_some hf
  refine J_iconst (o _ _) dL_law_132 ?_
  exact t_L_law_133 k r_x5 rl0 hf hc
noncomputable def f_L_law_48 (z : ZQ) (sn : Nat) (sx : Nat → Int) (t : Nat) (x5 : Int) (u0 : Bool) : Option ((ZQ × Nat × Int × Int) ⊕ (ZQ × Int)) :=
  gd (t + 6 ≤ 300000) (bnd (f_L_declares z u0 0 2 0 1) fun v1 => if v1.2 = 1 then (bnd (f_L_declares v1.1 u0 1 2 0 2) fun v6 => if v6.2 = 1 then (bnd (f_L_declares v6.1 u0 2 1 0 1) fun v11 => if v11.2 = 1 then (bnd (f_L_declares v11.1 u0 3 2 1 1) fun v16 => if v16.2 = 1 then (bnd (f_L_declares v16.1 u0 4 2 2 1) fun v21 => if v21.2 = 1 then (bnd (f_L_declares v21.1 u0 5 3 3 2) fun v26 => if v26.2 = 1 then (f_L_law_133 v26.1 sn sx (t + 6) x5 1) else (f_L_law_132 v26.1 sn sx (t + 6) x5)) else (f_L_law_132 v21.1 sn sx (t + 5) x5)) else (f_L_law_132 v16.1 sn sx (t + 4) x5)) else (f_L_law_132 v11.1 sn sx (t + 3) x5)) else (f_L_law_132 v6.1 sn sx (t + 2) x5)) else (f_L_law_132 v1.1 sn sx (t + 1) x5))
set_option maxRecDepth 100000 in
theorem t_L_law_48 {X : QX} {K : KT} {H0 : Heap} (k : KofQ X K H0 cL_law "DatalogmillLaw" room_1 300000) {z : ZQ} {t : Nat} {x5 : Int} {u0 : Bool} {o4 o6 o7 o8 : Option Value} (r_x5 : R32 x5) {out : ((ZQ × Nat × Int × Int) ⊕ (ZQ × Int))} (hf : f_L_law_48 z X.n (scQ X) t x5 u0 = some out) (hc : (Sum.elim (HW_L_law_27 X K H0 ) (fun out : (ZQ × Int) => RetQZ X K H0 cL_law 300000 out.1 out.2)) out) : Jj (kAdd K t (6 * t)) (WdQ X H0) z 48 [some (.ref X.b), some (rf (X.M false).ad 1), some (rf (X.M true).ad 1), some (.ref X.oa), o4, some (.int (ii x5)), o6, o7, o8] [rf (X.M u0).ad 1] := by
  unfold f_L_law_48 at hf
  have o : ∀ a b, Ok (kAdd K a b) cL_law "DatalogmillLaw" room_1 := fun _ _ => OkQ.add k.1
  have g : ∀ a b, GdQ X (kAdd K a b) H0 := fun _ _ => GdQ.add k.2.1
  obtain ⟨ht, hf⟩ := gd_some hf
  refine J_astore (o _ _) dL_law_48 (Nat.le_of_ble_eq_true rfl) ?_
  refine J_aload (o _ _) dL_law_50 rfl ?_
  refine J_iconst (o _ _) dL_law_52 ?_
  refine J_iconst (o _ _) dL_law_53 ?_
  refine J_iconst (o _ _) dL_law_54 ?_
  refine J_iconst (o _ _) dL_law_55 ?_
  obtain ⟨v1, e2, hf⟩ := bnd_some hf
  refine J_qW (np := 5) k.1 k.2.1 k.2.2.1 (by omega) dL_law_56 mw441 mw443 mw442 mw111 ⟨by decide +kernel, by decide +kernel, by decide +kernel⟩ ⟨rfl, rfl, Nat.le_of_ble_eq_true rfl, Nat.le_of_ble_eq_true rfl⟩ (c_L_declares k.2.2.2 k.2.1.2.1 rl0 rl2 rl0 rl1 e2) rfl rfl c1s_0 (fun q3 => ?_)
  refine J_tt (u := (t + 1)) (by omega) ?_
  refine J_iconst (o _ _) dL_law_59 ?_
  refine J_icmp_ne 132 (o _ _) dL_law_60 (by decide) q3 rl1 (fun c4 => ?_) (fun c5 => ?_)
  · have hf := ite_f c4 hf
    exact t_L_law_132 k r_x5 hf hc
  · have hf := ite_t c5 hf
    refine J_aload (o _ _) dL_law_63 rfl ?_
    refine J_iconst (o _ _) dL_law_65 ?_
    refine J_iconst (o _ _) dL_law_66 ?_
    refine J_iconst (o _ _) dL_law_67 ?_
    refine J_iconst (o _ _) dL_law_68 ?_
    obtain ⟨v6, e7, hf⟩ := bnd_some hf
    refine J_qW (np := 5) k.1 k.2.1 k.2.2.1 (by omega) dL_law_69 mw441 mw443 mw442 mw111 ⟨by decide +kernel, by decide +kernel, by decide +kernel⟩ ⟨rfl, rfl, Nat.le_of_ble_eq_true rfl, Nat.le_of_ble_eq_true rfl⟩ (c_L_declares k.2.2.2 k.2.1.2.1 rl1 rl2 rl0 rl2 e7) rfl rfl c1s_0 (fun q8 => ?_)
    refine J_tt (u := (t + 2)) (by omega) ?_
    refine J_iconst (o _ _) dL_law_72 ?_
    refine J_icmp_ne 132 (o _ _) dL_law_73 (by decide) q8 rl1 (fun c9 => ?_) (fun c10 => ?_)
    · have hf := ite_f c9 hf
      exact t_L_law_132 k r_x5 hf hc
    · have hf := ite_t c10 hf
      refine J_aload (o _ _) dL_law_76 rfl ?_
      refine J_iconst (o _ _) dL_law_78 ?_
      refine J_iconst (o _ _) dL_law_79 ?_
      refine J_iconst (o _ _) dL_law_80 ?_
      refine J_iconst (o _ _) dL_law_81 ?_
      obtain ⟨v11, e12, hf⟩ := bnd_some hf
      refine J_qW (np := 5) k.1 k.2.1 k.2.2.1 (by omega) dL_law_82 mw441 mw443 mw442 mw111 ⟨by decide +kernel, by decide +kernel, by decide +kernel⟩ ⟨rfl, rfl, Nat.le_of_ble_eq_true rfl, Nat.le_of_ble_eq_true rfl⟩ (c_L_declares k.2.2.2 k.2.1.2.1 rl2 rl1 rl0 rl1 e12) rfl rfl c1s_0 (fun q13 => ?_)
      refine J_tt (u := (t + 3)) (by omega) ?_
      refine J_iconst (o _ _) dL_law_85 ?_
      refine J_icmp_ne 132 (o _ _) dL_law_86 (by decide) q13 rl1 (fun c14 => ?_) (fun c15 => ?_)
      · have hf := ite_f c14 hf
        exact t_L_law_132 k r_x5 hf hc
      · have hf := ite_t c15 hf
        refine J_aload (o _ _) dL_law_89 rfl ?_
        refine J_iconst (o _ _) dL_law_91 ?_
        refine J_iconst (o _ _) dL_law_92 ?_
        refine J_iconst (o _ _) dL_law_93 ?_
        refine J_iconst (o _ _) dL_law_94 ?_
        obtain ⟨v16, e17, hf⟩ := bnd_some hf
        refine J_qW (np := 5) k.1 k.2.1 k.2.2.1 (by omega) dL_law_95 mw441 mw443 mw442 mw111 ⟨by decide +kernel, by decide +kernel, by decide +kernel⟩ ⟨rfl, rfl, Nat.le_of_ble_eq_true rfl, Nat.le_of_ble_eq_true rfl⟩ (c_L_declares k.2.2.2 k.2.1.2.1 rl3 rl2 rl1 rl1 e17) rfl rfl c1s_0 (fun q18 => ?_)
        refine J_tt (u := (t + 4)) (by omega) ?_
        refine J_iconst (o _ _) dL_law_98 ?_
        refine J_icmp_ne 132 (o _ _) dL_law_99 (by decide) q18 rl1 (fun c19 => ?_) (fun c20 => ?_)
        · have hf := ite_f c19 hf
          exact t_L_law_132 k r_x5 hf hc
        · have hf := ite_t c20 hf
          refine J_aload (o _ _) dL_law_102 rfl ?_
          refine J_iconst (o _ _) dL_law_104 ?_
          refine J_iconst (o _ _) dL_law_105 ?_
          refine J_iconst (o _ _) dL_law_106 ?_
          refine J_iconst (o _ _) dL_law_107 ?_
          obtain ⟨v21, e22, hf⟩ := bnd_some hf
          refine J_qW (np := 5) k.1 k.2.1 k.2.2.1 (by omega) dL_law_108 mw441 mw443 mw442 mw111 ⟨by decide +kernel, by decide +kernel, by decide +kernel⟩ ⟨rfl, rfl, Nat.le_of_ble_eq_true rfl, Nat.le_of_ble_eq_true rfl⟩ (c_L_declares k.2.2.2 k.2.1.2.1 rl4 rl2 rl2 rl1 e22) rfl rfl c1s_0 (fun q23 => ?_)
          refine J_tt (u := (t + 5)) (by omega) ?_
          refine J_iconst (o _ _) dL_law_111 ?_
          refine J_icmp_ne 132 (o _ _) dL_law_112 (by decide) q23 rl1 (fun c24 => ?_) (fun c25 => ?_)
          · have hf := ite_f c24 hf
            exact t_L_law_132 k r_x5 hf hc
          · have hf := ite_t c25 hf
            refine J_aload (o _ _) dL_law_115 rfl ?_
            refine J_iconst (o _ _) dL_law_117 ?_
            refine J_iconst (o _ _) dL_law_118 ?_
            refine J_iconst (o _ _) dL_law_119 ?_
            refine J_iconst (o _ _) dL_law_120 ?_
            obtain ⟨v26, e27, hf⟩ := bnd_some hf
            refine J_qW (np := 5) k.1 k.2.1 k.2.2.1 (by omega) dL_law_121 mw441 mw443 mw442 mw111 ⟨by decide +kernel, by decide +kernel, by decide +kernel⟩ ⟨rfl, rfl, Nat.le_of_ble_eq_true rfl, Nat.le_of_ble_eq_true rfl⟩ (c_L_declares k.2.2.2 k.2.1.2.1 rl5 rl3 rl3 rl2 e27) rfl rfl c1s_0 (fun q28 => ?_)
            refine J_tt (u := (t + 6)) (by omega) ?_
            refine J_iconst (o _ _) dL_law_124 ?_
            refine J_icmp_ne 132 (o _ _) dL_law_125 (by decide) q28 rl1 (fun c29 => ?_) (fun c30 => ?_)
            · have hf := ite_f c29 hf
              exact t_L_law_132 k r_x5 hf hc
            · have hf := ite_t c30 hf
              refine J_iconst (o _ _) dL_law_128 ?_
              refine J_goto 133 (o _ _) dL_law_129 (by decide) ?_
              exact t_L_law_133 k r_x5 rl1 hf hc
noncomputable def f_L_law_27B (z : ZQ) (sn : Nat) (sx : Nat → Int) (t : Nat) (x4 : Int) (x5 : Int) : Option ((ZQ × Nat × Int × Int) ⊕ (ZQ × Int)) :=
  gd (t + 0 ≤ 300000) (if 2 ≤ x5 then (bnd (f_L_law_141 z sn sx t x4) fun y3 => some (Sum.inr y3)) else (if x4 = 0 then (bnd (f_L_law_141 z sn sx t x4) fun y6 => some (Sum.inr y6)) else (if x5 = 0 then (f_L_law_48 z sn sx t x5 false) else (f_L_law_48 z sn sx t x5 true))))
set_option maxRecDepth 100000 in
theorem t_L_law_27B {X : QX} {K : KT} {H0 : Heap} (k : KofQ X K H0 cL_law "DatalogmillLaw" room_1 300000) {z : ZQ} {t : Nat} {x4 : Int} {x5 : Int} {o6 o7 o8 : Option Value} (r_x4 : R32 x4) (r_x5 : R32 x5) {out : ((ZQ × Nat × Int × Int) ⊕ (ZQ × Int))} (hf : f_L_law_27B z X.n (scQ X) t x4 x5 = some out) (hc : (Sum.elim (HW_L_law_27 X K H0 ) (fun out : (ZQ × Int) => RetQZ X K H0 cL_law 300000 out.1 out.2)) out) : Jj (kAdd K t (6 * t)) (WdQ X H0) z 27 [some (.ref X.b), some (rf (X.M false).ad 1), some (rf (X.M true).ad 1), some (.ref X.oa), some (.int (ii x4)), some (.int (ii x5)), o6, o7, o8] [] := by
  unfold f_L_law_27B at hf
  have o : ∀ a b, Ok (kAdd K a b) cL_law "DatalogmillLaw" room_1 := fun _ _ => OkQ.add k.1
  have g : ∀ a b, GdQ X (kAdd K a b) H0 := fun _ _ => GdQ.add k.2.1
  obtain ⟨ht, hf⟩ := gd_some hf
  refine J_iload (o _ _) dL_law_27 rfl ?_
  refine J_iconst (o _ _) dL_law_29 ?_
  refine J_icmp_ge 141 (o _ _) dL_law_30 (by decide) r_x5 rl2 (fun c1 => ?_) (fun c2 => ?_)
  · have hf := ite_t c1 hf
    obtain ⟨y3, hf1, hf⟩ := bnd_some hf
    have hf := some_inj hf
    subst hf
    exact t_L_law_141 k r_x4 hf1 hc
  · have hf := ite_f c2 hf
    refine J_iload (o _ _) dL_law_33 rfl ?_
    refine J_if_eq 141 (o _ _) dL_law_35 (by decide) r_x4 (fun c4 => ?_) (fun c5 => ?_)
    · have hf := ite_t c4 hf
      obtain ⟨y6, hf1, hf⟩ := bnd_some hf
      have hf := some_inj hf
      subst hf
      exact t_L_law_141 k r_x4 hf1 hc
    · have hf := ite_f c5 hf
      refine J_iload (o _ _) dL_law_38 rfl ?_
      refine J_if_ne 47 (o _ _) dL_law_40 (by decide) r_x5 (fun c7 => ?_) (fun c8 => ?_)
      · have hf := ite_f c7 hf
        refine J_aload_n (o _ _) dL_law_47 rfl ?_
        exact t_L_law_48 k r_x5 hf hc
      · have hf := ite_t c8 hf
        refine J_aload_n (o _ _) dL_law_43 rfl ?_
        refine J_goto 48 (o _ _) dL_law_44 (by decide) ?_
        exact t_L_law_48 k r_x5 hf hc
noncomputable def f_L_law_27 (z : ZQ) (sn : Nat) (sx : Nat → Int) (t : Nat) (x4 : Int) (x5 : Int) : Option (ZQ × Int) :=
  lp (fun y : (ZQ × Nat × Int × Int) => f_L_law_27B y.1 sn sx y.2.1 y.2.2.1 y.2.2.2) (z, t, x4, x5)
theorem t_L_law_27 {X : QX} {K : KT} {H0 : Heap} (k : KofQ X K H0 cL_law "DatalogmillLaw" room_1 300000) {z : ZQ} {t : Nat} {x4 : Int} {x5 : Int}  {out : (ZQ × Int)} (hf : f_L_law_27 z X.n (scQ X) t x4 x5 = some out) (hc : (fun out : (ZQ × Int) => RetQZ X K H0 cL_law 300000 out.1 out.2) out) : HW_L_law_27 X K H0  (z, t, x4, x5) := by
  unfold f_L_law_27 at hf
  refine lp_ind (P := HW_L_law_27 X K H0 ) hf ?_
  intro y o hs h1 h2
  intro r_x4 r_x5
  intro o6 o7 o8
  refine t_L_law_27B k r_x4 r_x5 hs ?_
  cases o with
  | inl z' => exact h1 z' rfl
  | inr r' => rw [h2 r' rfl]; exact hc
noncomputable def f_L_law (z : ZQ) (sn : Nat) (sx : Nat → Int) : Option (ZQ × Int) :=
  f_L_law_27 z sn sx 0 1 0
set_option maxRecDepth 100000 in
theorem t_L_law_21 {X : QX} {K : KT} {H0 : Heap} (k : KofQ X K H0 cL_law "DatalogmillLaw" room_1 300000) {z : ZQ} {o4 o5 o6 o7 o8 : Option Value}  {out : (ZQ × Int)} (hf : f_L_law z X.n (scQ X) = some out) (hc : (fun out : (ZQ × Int) => RetQZ X K H0 cL_law 300000 out.1 out.2) out) : Jj (kAdd K 0 (6 * 0)) (WdQ X H0) z 21 [some (.ref X.b), some (rf (X.M false).ad 1), some (rf (X.M true).ad 1), some (.ref X.oa), o4, o5, o6, o7, o8] [] := by
  unfold f_L_law at hf
  have o : ∀ a b, Ok (kAdd K a b) cL_law "DatalogmillLaw" room_1 := fun _ _ => OkQ.add k.1
  have g : ∀ a b, GdQ X (kAdd K a b) H0 := fun _ _ => GdQ.add k.2.1
  refine J_iconst (o _ _) dL_law_21 ?_
  refine J_istore (o _ _) dL_law_22 (Nat.le_of_ble_eq_true rfl) ?_
  refine J_iconst (o _ _) dL_law_24 ?_
  refine J_istore (o _ _) dL_law_25 (Nat.le_of_ble_eq_true rfl) ?_
  exact (t_L_law_27 k  hf hc) rl1 rl0 _ _ _
