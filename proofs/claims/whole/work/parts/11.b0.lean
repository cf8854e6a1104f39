abbrev rm_Re_thrown : Room := { frames := 1, cells := 0, slots := 0, locals := 24 }
noncomputable def f_Re_thrown (w : World) : Option Int :=
  some (w 1 0)
theorem t_Re_thrown_0 {E : EE} {K : KT} {l : Launch} {H0 : Heap} (k : Kof TB E K l cX11_thrown RX11 rm_Re_thrown) {w : World}  {out : Int} (hf : f_Re_thrown w = some out) (hc : (fun out : Int => RetI TB E K H0 cX11_thrown w out) out) : Jj K (WdT TB E H0) w 0 [some (rf E.ad 1)] [] := by
  unfold f_Re_thrown at hf
  have o := k.1
  have g := k.2.1
  have kr := k.2.2.1
  refine J_aload_n o dX11_thrown_0 rfl ?_
  refine J_getI o g dX11_thrown_1 flX11_98 kB_1 rfl (fun q1 => ?_)
  have hf := some_inj hf
  subst hf
  exact hc _ _ q1 dX11_thrown_4
theorem c_Re_thrown {E : EE} {l : Launch} (hI : Inj TB E) {w : World}  {out : Int} (hf : f_Re_thrown w = some out) : ConI TB E l yX11_thrown (WS yX11_thrown cX11_thrown 1 (some .int)) rm_Re_thrown [rf E.ad 1] w w out :=
  con_I (by decide +kernel) rfl (Nat.le_of_ble_eq_true rfl) (c1s_r c1s_0 (Nat.le_of_ble_eq_true rfl)).1 ⟨rfl, rfl⟩ hI TnB (fun K H0 k hret => t_Re_thrown_0 k  hf hret)
abbrev rm_Re_refused : Room := { frames := 1, cells := 0, slots := 0, locals := 24 }
noncomputable def f_Re_refused (w : World) (x1 : Int) : Option (World × Int) :=
  bl (up w 1 0 x1) fun w1 => if x1 = 0 then (some (w1, 0)) else (some (w1, 1))
theorem t_Re_refused_0 {E : EE} {K : KT} {l : Launch} {H0 : Heap} (k : Kof TB E K l cX11_refused RX11 rm_Re_refused) {w : World} {x1 : Int} (r_x1 : R32 x1) {out : (World × Int)} (hf : f_Re_refused w x1 = some out) (hc : (fun out : (World × Int) => RetZ TB E K H0 cX11_refused out.1 out.2) out) : Jj K (WdT TB E H0) w 0 [some (rf E.ad 1), some (.int (ii x1))] [] := by
  unfold f_Re_refused at hf
  have o := k.1
  have g := k.2.1
  have kr := k.2.2.1
  refine J_aload_n o dX11_refused_0 rfl ?_
  refine J_iload_n o dX11_refused_1 rfl ?_
  refine J_putI o g dX11_refused_2 fpX11_98 kB_1 rfl rfl r_x1 ?_
  have hf := bl_out hf
  refine J_iload_n o dX11_refused_5 rfl ?_
  refine J_if_eq 13 o dX11_refused_6 (by decide) r_x1 (fun c2 => ?_) (fun c3 => ?_)
  · have hf := ite_t c2 hf
    refine J_iconst o dX11_refused_13 ?_
    have hf := some_inj hf
    subst hf
    exact hc _ _ (Or.inl rfl) dX11_refused_14
  · have hf := ite_f c3 hf
    refine J_iconst o dX11_refused_9 ?_
    refine J_goto 14 o dX11_refused_10 (by decide) ?_
    have hf := some_inj hf
    subst hf
    exact hc _ _ (Or.inr rfl) dX11_refused_14
theorem c_Re_refused {E : EE} {l : Launch} (hI : Inj TB E) {w : World} {x1 : Int} (r_x1 : R32 x1) {out : (World × Int)} (hf : f_Re_refused w x1 = some out) : ConI TB E l yX11_refused (WS yX11_refused cX11_refused 2 (some .boolean)) rm_Re_refused [rf E.ad 1, .int (ii x1)] w out.1 out.2 :=
  con_Z (by decide +kernel) rfl (Nat.le_of_ble_eq_true rfl) (c1s_r (c1s_i c1s_0 (Nat.le_of_ble_eq_true rfl)) (Nat.le_of_ble_eq_true rfl)).1 ⟨rfl, rfl⟩ hI TnB (fun K H0 k hret => t_Re_refused_0 k r_x1 hf hret)
abbrev rm_Re_fine : Room := { frames := 1, cells := 0, slots := 0, locals := 24 }
noncomputable def f_Re_fine (w : World) (x1 : Int) : Option (World × Int) :=
  bl (up w 1 0 0) fun w1 => some (w1, x1)
theorem t_Re_fine_0 {E : EE} {K : KT} {l : Launch} {H0 : Heap} (k : Kof TB E K l cX11_fine RX11 rm_Re_fine) {w : World} {x1 : Int} (r_x1 : R32 x1) {out : (World × Int)} (hf : f_Re_fine w x1 = some out) (hc : (fun out : (World × Int) => RetI TB E K H0 cX11_fine out.1 out.2) out) : Jj K (WdT TB E H0) w 0 [some (rf E.ad 1), some (.int (ii x1))] [] := by
  unfold f_Re_fine at hf
  have o := k.1
  have g := k.2.1
  have kr := k.2.2.1
  refine J_aload_n o dX11_fine_0 rfl ?_
  refine J_iconst o dX11_fine_1 ?_
  refine J_putI o g dX11_fine_2 fpX11_98 kB_1 rfl rfl rl0 ?_
  have hf := bl_out hf
  refine J_iload_n o dX11_fine_5 rfl ?_
  have hf := some_inj hf
  subst hf
  exact hc _ _ r_x1 dX11_fine_6
theorem c_Re_fine {E : EE} {l : Launch} (hI : Inj TB E) {w : World} {x1 : Int} (r_x1 : R32 x1) {out : (World × Int)} (hf : f_Re_fine w x1 = some out) : ConI TB E l yX11_fine (WS yX11_fine cX11_fine 2 (some .int)) rm_Re_fine [rf E.ad 1, .int (ii x1)] w out.1 out.2 :=
  con_I (by decide +kernel) rfl (Nat.le_of_ble_eq_true rfl) (c1s_r (c1s_i c1s_0 (Nat.le_of_ble_eq_true rfl)) (Nat.le_of_ble_eq_true rfl)).1 ⟨rfl, rfl⟩ hI TnB (fun K H0 k hret => t_Re_fine_0 k r_x1 hf hret)
abbrev rm_Re_in : Room := { frames := 1, cells := 0, slots := 0, locals := 24 }
noncomputable def f_Re_in (x0 : Int) (x1 : Int) (x2 : Int) : Option Int :=
  if x0 < x1 then (some 0) else (if x2 < x0 then (some 0) else (some 1))
theorem t_Re_in_0 {E : EE} {K : KT} {l : Launch} {H0 : Heap} (k : Kof TB E K l cX11_in RX11 rm_Re_in) {w0 : World} {x0 : Int} {x1 : Int} {x2 : Int} (r_x0 : R32 x0) (r_x1 : R32 x1) (r_x2 : R32 x2) {out : Int} (hf : f_Re_in x0 x1 x2 = some out) (hc : (fun out : Int => RetZ TB E K H0 cX11_in w0 out) out) : Jj K (WdT TB E H0) w0 0 [some (.int (ii x0)), some (.int (ii x1)), some (.int (ii x2))] [] := by
  unfold f_Re_in at hf
  have o := k.1
  have g := k.2.1
  have kr := k.2.2.1
  refine J_iload_n o dX11_in_0 rfl ?_
  refine J_iload_n o dX11_in_1 rfl ?_
  refine J_icmp_lt 14 o dX11_in_2 (by decide) r_x0 r_x1 (fun c1 => ?_) (fun c2 => ?_)
  · have hf := ite_t c1 hf
    refine J_iconst o dX11_in_14 ?_
    have hf := some_inj hf
    subst hf
    exact hc _ _ (Or.inl rfl) dX11_in_15
  · have hf := ite_f c2 hf
    refine J_iload_n o dX11_in_5 rfl ?_
    refine J_iload_n o dX11_in_6 rfl ?_
    refine J_icmp_gt 14 o dX11_in_7 (by decide) r_x0 r_x2 (fun c3 => ?_) (fun c4 => ?_)
    · have hf := ite_t c3 hf
      refine J_iconst o dX11_in_14 ?_
      have hf := some_inj hf
      subst hf
      exact hc _ _ (Or.inl rfl) dX11_in_15
    · have hf := ite_f c4 hf
      refine J_iconst o dX11_in_10 ?_
      refine J_goto 15 o dX11_in_11 (by decide) ?_
      have hf := some_inj hf
      subst hf
      exact hc _ _ (Or.inr rfl) dX11_in_15
theorem c_Re_in {E : EE} {l : Launch} (hI : Inj TB E) {w0 : World} {x0 : Int} {x1 : Int} {x2 : Int} (r_x0 : R32 x0) (r_x1 : R32 x1) (r_x2 : R32 x2) {out : Int} (hf : f_Re_in x0 x1 x2 = some out) : ConI TB E l yX11_in (WS yX11_in cX11_in 3 (some .boolean)) rm_Re_in [.int (ii x0), .int (ii x1), .int (ii x2)] w0 w0 out :=
  con_Z (by decide +kernel) rfl (Nat.le_of_ble_eq_true rfl) (c1s_i (c1s_i (c1s_i c1s_0 (Nat.le_of_ble_eq_true rfl)) (Nat.le_of_ble_eq_true rfl)) (Nat.le_of_ble_eq_true rfl)).1 ⟨rfl, rfl⟩ hI TnB (fun K H0 k hret => t_Re_in_0 k r_x0 r_x1 r_x2 hf hret)
abbrev rm_Re_isRelation : Room := { frames := 2, cells := 0, slots := 0, locals := 46 }
noncomputable def f_Re_isRelation (w : World) (x1 : Int) : Option Int :=
  bnd (f_Re_in x1 0 9) fun v2 => if v2 = 0 then (some 0) else (gd (0 ≤ x1 ∧ x1 < 10) (if (w 2 x1.toNat) = 0 then (some 0) else (some 1)))
theorem t_Re_isRelation_0 {E : EE} {K : KT} {l : Launch} {H0 : Heap} (k : Kof TB E K l cX11_isRelation RX11 rm_Re_isRelation) {w : World} {x1 : Int} (r_x1 : R32 x1) {out : Int} (hf : f_Re_isRelation w x1 = some out) (hc : (fun out : Int => RetZ TB E K H0 cX11_isRelation w out) out) : Jj K (WdT TB E H0) w 0 [some (rf E.ad 1), some (.int (ii x1))] [] := by
  unfold f_Re_isRelation at hf
  have o := k.1
  have g := k.2.1
  have kr := k.2.2.1
  refine J_iload_n o dX11_isRelation_0 rfl ?_
  refine J_iconst o dX11_isRelation_1 ?_
  refine J_bipush o dX11_isRelation_2 (by decide) ?_
  obtain ⟨v2, e1, hf⟩ := bnd_some hf
  refine J_sI o g kr dX11_isRelation_4 lkX11_102 ml_Re_in mw1488 ⟨rfl, rfl, Nat.le_of_ble_eq_true rfl, Nat.le_of_ble_eq_true rfl⟩ (c_Re_in g.2.1 r_x1 rl0 rl9 e1) rfl rfl c1s_0 (fun q3 => ?_)
  refine J_if_eq 23 o dX11_isRelation_7 (by decide) q3 (fun c4 => ?_) (fun c5 => ?_)
  · have hf := ite_t c4 hf
    refine J_iconst o dX11_isRelation_23 ?_
    have hf := some_inj hf
    subst hf
    exact hc _ _ (Or.inl rfl) dX11_isRelation_24
  · have hf := ite_f c5 hf
    refine J_aload_n o dX11_isRelation_10 rfl ?_
    refine J_getF (true, 2) o g dX11_isRelation_11 flX11_7 kB_1 rfl rfl rfl ?_
    refine J_iload_n o dX11_isRelation_14 rfl ?_
    obtain ⟨g6, hf⟩ := gd_some hf
    refine J_zald o g dX11_isRelation_15 kB_2 r_x1 zB_2 g6 (fun q7 => ?_)
    refine J_if_eq 23 o dX11_isRelation_16 (by decide) q7 (fun c8 => ?_) (fun c9 => ?_)
    · have hf := ite_t c8 hf
      refine J_iconst o dX11_isRelation_23 ?_
      have hf := some_inj hf
      subst hf
      exact hc _ _ (Or.inl rfl) dX11_isRelation_24
    · have hf := ite_f c9 hf
      refine J_iconst o dX11_isRelation_19 ?_
      refine J_goto 24 o dX11_isRelation_20 (by decide) ?_
      have hf := some_inj hf
      subst hf
      exact hc _ _ (Or.inr rfl) dX11_isRelation_24
theorem c_Re_isRelation {E : EE} {l : Launch} (hI : Inj TB E) {w : World} {x1 : Int} (r_x1 : R32 x1) {out : Int} (hf : f_Re_isRelation w x1 = some out) : ConI TB E l yX11_isRelation (WS yX11_isRelation cX11_isRelation 2 (some .boolean)) rm_Re_isRelation [rf E.ad 1, .int (ii x1)] w w out :=
  con_Z (by decide +kernel) rfl (Nat.le_of_ble_eq_true rfl) (c1s_r (c1s_i c1s_0 (Nat.le_of_ble_eq_true rfl)) (Nat.le_of_ble_eq_true rfl)).1 ⟨rfl, rfl⟩ hI TnB (fun K H0 k hret => t_Re_isRelation_0 k r_x1 hf hret)
abbrev rm_Re_isTerm : Room := { frames := 2, cells := 0, slots := 0, locals := 46 }
noncomputable def f_Re_isTerm (w : World) (x1 : Int) (x2 : Int) (x3 : Int) : Option Int :=
  gd (0 ≤ x1 ∧ x1 < 10) (if (w 3 x1.toNat) ≤ x3 then (if x2 = 0 then (some 1) else (some 0)) else (bnd (f_Re_in x2 (-8) 127) fun v8 => gd (v8 = 0 ∨ v8 = 1) (some v8)))
theorem t_Re_isTerm_0 {E : EE} {K : KT} {l : Launch} {H0 : Heap} (k : Kof TB E K l cX11_isTerm RX11 rm_Re_isTerm) {w : World} {x1 : Int} {x2 : Int} {x3 : Int} (r_x1 : R32 x1) (r_x2 : R32 x2) (r_x3 : R32 x3) {out : Int} (hf : f_Re_isTerm w x1 x2 x3 = some out) (hc : (fun out : Int => RetZ TB E K H0 cX11_isTerm w out) out) : Jj K (WdT TB E H0) w 0 [some (rf E.ad 1), some (.int (ii x1)), some (.int (ii x2)), some (.int (ii x3))] [] := by
  unfold f_Re_isTerm at hf
  have o := k.1
  have g := k.2.1
  have kr := k.2.2.1
  refine J_iload_n o dX11_isTerm_0 rfl ?_
  refine J_aload_n o dX11_isTerm_1 rfl ?_
  refine J_getF (true, 3) o g dX11_isTerm_2 flX11_13 kB_1 rfl rfl rfl ?_
  refine J_iload_n o dX11_isTerm_5 rfl ?_
  obtain ⟨g1, hf⟩ := gd_some hf
  refine J_iald o g dX11_isTerm_6 kB_3 r_x1 zB_3 g1 (fun q2 => ?_)
  refine J_icmp_ge 21 o dX11_isTerm_7 (by decide) r_x3 q2 (fun c3 => ?_) (fun c4 => ?_)
  · have hf := ite_t c3 hf
    refine J_iload_n o dX11_isTerm_21 rfl ?_
    refine J_if_ne 29 o dX11_isTerm_22 (by decide) r_x2 (fun c5 => ?_) (fun c6 => ?_)
    · have hf := ite_f c5 hf
      refine J_iconst o dX11_isTerm_29 ?_
      have hf := some_inj hf
      subst hf
      exact hc _ _ (Or.inl rfl) dX11_isTerm_30
    · have hf := ite_t c6 hf
      refine J_iconst o dX11_isTerm_25 ?_
      refine J_goto 30 o dX11_isTerm_26 (by decide) ?_
      have hf := some_inj hf
      subst hf
      exact hc _ _ (Or.inr rfl) dX11_isTerm_30
  · have hf := ite_f c4 hf
    refine J_iload_n o dX11_isTerm_10 rfl ?_
    refine J_bipush o dX11_isTerm_11 (by decide) ?_
    refine J_bipush o dX11_isTerm_13 (by decide) ?_
    obtain ⟨v8, e7, hf⟩ := bnd_some hf
    refine J_sI o g kr dX11_isTerm_15 lkX11_102 ml_Re_in mw1488 ⟨rfl, rfl, Nat.le_of_ble_eq_true rfl, Nat.le_of_ble_eq_true rfl⟩ (c_Re_in g.2.1 r_x2 rlm8 rl127 e7) rfl rfl c1s_0 (fun q9 => ?_)
    refine J_goto 30 o dX11_isTerm_18 (by decide) ?_
    obtain ⟨g10, hf⟩ := gd_some hf
    have hf := some_inj hf
    subst hf
    exact hc _ _ g10 dX11_isTerm_30
theorem c_Re_isTerm {E : EE} {l : Launch} (hI : Inj TB E) {w : World} {x1 : Int} {x2 : Int} {x3 : Int} (r_x1 : R32 x1) (r_x2 : R32 x2) (r_x3 : R32 x3) {out : Int} (hf : f_Re_isTerm w x1 x2 x3 = some out) : ConI TB E l yX11_isTerm (WS yX11_isTerm cX11_isTerm 4 (some .boolean)) rm_Re_isTerm [rf E.ad 1, .int (ii x1), .int (ii x2), .int (ii x3)] w w out :=
  con_Z (by decide +kernel) rfl (Nat.le_of_ble_eq_true rfl) (c1s_r (c1s_i (c1s_i (c1s_i c1s_0 (Nat.le_of_ble_eq_true rfl)) (Nat.le_of_ble_eq_true rfl)) (Nat.le_of_ble_eq_true rfl)) (Nat.le_of_ble_eq_true rfl)).1 ⟨rfl, rfl⟩ hI TnB (fun K H0 k hret => t_Re_isTerm_0 k r_x1 r_x2 r_x3 hf hret)
abbrev rm_Re_areTerms : Room := { frames := 3, cells := 0, slots := 0, locals := 69 }
noncomputable def f_Re_areTerms (w : World) (x1 : Int) (x2 : Int) (x3 : Int) (x4 : Int) : Option Int :=
  bnd (f_Re_isTerm w x1 x2 0) fun v2 => if v2 = 0 then (some 0) else (bnd (f_Re_isTerm w x1 x3 1) fun v7 => if v7 = 0 then (some 0) else (bnd (f_Re_isTerm w x1 x4 2) fun v12 => if v12 = 0 then (some 0) else (some 1)))
theorem t_Re_areTerms_0 {E : EE} {K : KT} {l : Launch} {H0 : Heap} (k : Kof TB E K l cX11_areTerms RX11 rm_Re_areTerms) {w : World} {x1 : Int} {x2 : Int} {x3 : Int} {x4 : Int} (r_x1 : R32 x1) (r_x2 : R32 x2) (r_x3 : R32 x3) (r_x4 : R32 x4) {out : Int} (hf : f_Re_areTerms w x1 x2 x3 x4 = some out) (hc : (fun out : Int => RetZ TB E K H0 cX11_areTerms w out) out) : Jj K (WdT TB E H0) w 0 [some (rf E.ad 1), some (.int (ii x1)), some (.int (ii x2)), some (.int (ii x3)), some (.int (ii x4))] [] := by
  unfold f_Re_areTerms at hf
  have o := k.1
  have g := k.2.1
  have kr := k.2.2.1
  refine J_aload_n o dX11_areTerms_0 rfl ?_
  refine J_iload_n o dX11_areTerms_1 rfl ?_
  refine J_iload_n o dX11_areTerms_2 rfl ?_
  refine J_iconst o dX11_areTerms_3 ?_
  obtain ⟨v2, e1, hf⟩ := bnd_some hf
  refine J_vI o g kr dX11_areTerms_4 lkX11_106 ml_Re_isTerm vl_Re_isTerm ⟨rfl, rfl, Nat.le_of_ble_eq_true rfl, Nat.le_of_ble_eq_true rfl⟩ (c_Re_isTerm g.2.1 r_x1 r_x2 rl0 e1) kB_1 rfl ⟨by decide, by decide⟩ rfl rfl c1s_0 (fun q3 => ?_)
  refine J_if_eq 35 o dX11_areTerms_7 (by decide) q3 (fun c4 => ?_) (fun c5 => ?_)
  · have hf := ite_t c4 hf
    refine J_iconst o dX11_areTerms_35 ?_
    have hf := some_inj hf
    subst hf
    exact hc _ _ (Or.inl rfl) dX11_areTerms_36
  · have hf := ite_f c5 hf
    refine J_aload_n o dX11_areTerms_10 rfl ?_
    refine J_iload_n o dX11_areTerms_11 rfl ?_
    refine J_iload_n o dX11_areTerms_12 rfl ?_
    refine J_iconst o dX11_areTerms_13 ?_
    obtain ⟨v7, e6, hf⟩ := bnd_some hf
    refine J_vI o g kr dX11_areTerms_14 lkX11_106 ml_Re_isTerm vl_Re_isTerm ⟨rfl, rfl, Nat.le_of_ble_eq_true rfl, Nat.le_of_ble_eq_true rfl⟩ (c_Re_isTerm g.2.1 r_x1 r_x3 rl1 e6) kB_1 rfl ⟨by decide, by decide⟩ rfl rfl c1s_0 (fun q8 => ?_)
    refine J_if_eq 35 o dX11_areTerms_17 (by decide) q8 (fun c9 => ?_) (fun c10 => ?_)
    · have hf := ite_t c9 hf
      refine J_iconst o dX11_areTerms_35 ?_
      have hf := some_inj hf
      subst hf
      exact hc _ _ (Or.inl rfl) dX11_areTerms_36
    · have hf := ite_f c10 hf
      refine J_aload_n o dX11_areTerms_20 rfl ?_
      refine J_iload_n o dX11_areTerms_21 rfl ?_
      refine J_iload o dX11_areTerms_22 rfl ?_
      refine J_iconst o dX11_areTerms_24 ?_
      obtain ⟨v12, e11, hf⟩ := bnd_some hf
      refine J_vI o g kr dX11_areTerms_25 lkX11_106 ml_Re_isTerm vl_Re_isTerm ⟨rfl, rfl, Nat.le_of_ble_eq_true rfl, Nat.le_of_ble_eq_true rfl⟩ (c_Re_isTerm g.2.1 r_x1 r_x4 rl2 e11) kB_1 rfl ⟨by decide, by decide⟩ rfl rfl c1s_0 (fun q13 => ?_)
      refine J_if_eq 35 o dX11_areTerms_28 (by decide) q13 (fun c14 => ?_) (fun c15 => ?_)
      · have hf := ite_t c14 hf
        refine J_iconst o dX11_areTerms_35 ?_
        have hf := some_inj hf
        subst hf
        exact hc _ _ (Or.inl rfl) dX11_areTerms_36
      · have hf := ite_f c15 hf
        refine J_iconst o dX11_areTerms_31 ?_
        refine J_goto 36 o dX11_areTerms_32 (by decide) ?_
        have hf := some_inj hf
        subst hf
        exact hc _ _ (Or.inr rfl) dX11_areTerms_36
theorem c_Re_areTerms {E : EE} {l : Launch} (hI : Inj TB E) {w : World} {x1 : Int} {x2 : Int} {x3 : Int} {x4 : Int} (r_x1 : R32 x1) (r_x2 : R32 x2) (r_x3 : R32 x3) (r_x4 : R32 x4) {out : Int} (hf : f_Re_areTerms w x1 x2 x3 x4 = some out) : ConI TB E l yX11_areTerms (WS yX11_areTerms cX11_areTerms 5 (some .boolean)) rm_Re_areTerms [rf E.ad 1, .int (ii x1), .int (ii x2), .int (ii x3), .int (ii x4)] w w out :=
  con_Z (by decide +kernel) rfl (Nat.le_of_ble_eq_true rfl) (c1s_r (c1s_i (c1s_i (c1s_i (c1s_i c1s_0 (Nat.le_of_ble_eq_true rfl)) (Nat.le_of_ble_eq_true rfl)) (Nat.le_of_ble_eq_true rfl)) (Nat.le_of_ble_eq_true rfl)) (Nat.le_of_ble_eq_true rfl)).1 ⟨rfl, rfl⟩ hI TnB (fun K H0 k hret => t_Re_areTerms_0 k r_x1 r_x2 r_x3 r_x4 hf hret)
abbrev rm_Re_isValue : Room := { frames := 2, cells := 0, slots := 0, locals := 46 }
noncomputable def f_Re_isValue_31 (w : World) : Option Int :=
  some 1
theorem t_Re_isValue_31 {E : EE} {K : KT} {l : Launch} {H0 : Heap} (k : Kof TB E K l cX11_isValue RX11 rm_Re_isValue) {w : World} {o0 o1 o2 o3 o4 : Option Value}  {out : Int} (hf : f_Re_isValue_31 w = some out) (hc : (fun out : Int => RetZ TB E K H0 cX11_isValue w out) out) : Jj K (WdT TB E H0) w 31 [o0, o1, o2, o3, o4] [] := by
  unfold f_Re_isValue_31 at hf
  have o := k.1
  have g := k.2.1
  have kr := k.2.2.1
  refine J_iconst o dX11_isValue_31 ?_
  refine J_goto 48 o dX11_isValue_32 (by decide) ?_
  have hf := some_inj hf
  subst hf
  exact hc _ _ (Or.inr rfl) dX11_isValue_48
noncomputable def f_Re_isValue_35 (w : World) : Option Int :=
  some 0
theorem t_Re_isValue_35 {E : EE} {K : KT} {l : Launch} {H0 : Heap} (k : Kof TB E K l cX11_isValue RX11 rm_Re_isValue) {w : World} {o0 o1 o2 o3 o4 : Option Value}  {out : Int} (hf : f_Re_isValue_35 w = some out) (hc : (fun out : Int => RetZ TB E K H0 cX11_isValue w out) out) : Jj K (WdT TB E H0) w 35 [o0, o1, o2, o3, o4] [] := by
  unfold f_Re_isValue_35 at hf
  have o := k.1
  have g := k.2.1
  have kr := k.2.2.1
  refine J_iconst o dX11_isValue_35 ?_
  refine J_goto 48 o dX11_isValue_36 (by decide) ?_
  have hf := some_inj hf
  subst hf
  exact hc _ _ (Or.inl rfl) dX11_isValue_48
noncomputable def f_Re_isValue (w : World) (x1 : Int) (x2 : Int) (x3 : Int) (x4 : Int) : Option Int :=
  gd (0 ≤ x1 ∧ x1 < 10) (if (w 3 x1.toNat) ≤ x3 then (if x2 = 0 then (some 1) else (some 0)) else (bnd (f_Re_in x2 0 127) fun v8 => if v8 = 0 then (if x4 = 0 then (f_Re_isValue_35 w) else (if x2 = (-9) then (f_Re_isValue_31 w) else (f_Re_isValue_35 w))) else (f_Re_isValue_31 w)))
theorem t_Re_isValue_0 {E : EE} {K : KT} {l : Launch} {H0 : Heap} (k : Kof TB E K l cX11_isValue RX11 rm_Re_isValue) {w : World} {x1 : Int} {x2 : Int} {x3 : Int} {x4 : Int} (r_x1 : R32 x1) (r_x2 : R32 x2) (r_x3 : R32 x3) (r_x4 : R32 x4) {out : Int} (hf : f_Re_isValue w x1 x2 x3 x4 = some out) (hc : (fun out : Int => RetZ TB E K H0 cX11_isValue w out) out) : Jj K (WdT TB E H0) w 0 [some (rf E.ad 1), some (.int (ii x1)), some (.int (ii x2)), some (.int (ii x3)), some (.int (ii x4))] [] := by
  unfold f_Re_isValue at hf
  have o := k.1
  have g := k.2.1
  have kr := k.2.2.1
  refine J_iload_n o dX11_isValue_0 rfl ?_
  refine J_aload_n o dX11_isValue_1 rfl ?_
  refine J_getF (true, 3) o g dX11_isValue_2 flX11_13 kB_1 rfl rfl rfl ?_
  refine J_iload_n o dX11_isValue_5 rfl ?_
  obtain ⟨g1, hf⟩ := gd_some hf
  refine J_iald o g dX11_isValue_6 kB_3 r_x1 zB_3 g1 (fun q2 => ?_)
  refine J_icmp_ge 39 o dX11_isValue_7 (by decide) r_x3 q2 (fun c3 => ?_) (fun c4 => ?_)
  · have hf := ite_t c3 hf
    refine J_iload_n o dX11_isValue_39 rfl ?_
    refine J_if_ne 47 o dX11_isValue_40 (by decide) r_x2 (fun c5 => ?_) (fun c6 => ?_)
    · have hf := ite_f c5 hf
      refine J_iconst o dX11_isValue_47 ?_
      have hf := some_inj hf
      subst hf
      exact hc _ _ (Or.inl rfl) dX11_isValue_48
    · have hf := ite_t c6 hf
      refine J_iconst o dX11_isValue_43 ?_
      refine J_goto 48 o dX11_isValue_44 (by decide) ?_
      have hf := some_inj hf
      subst hf
      exact hc _ _ (Or.inr rfl) dX11_isValue_48
  · have hf := ite_f c4 hf
    refine J_iload_n o dX11_isValue_10 rfl ?_
    refine J_iconst o dX11_isValue_11 ?_
    refine J_bipush o dX11_isValue_12 (by decide) ?_
    obtain ⟨v8, e7, hf⟩ := bnd_some hf
    refine J_sI o g kr dX11_isValue_14 lkX11_102 ml_Re_in mw1488 ⟨rfl, rfl, Nat.le_of_ble_eq_true rfl, Nat.le_of_ble_eq_true rfl⟩ (c_Re_in g.2.1 r_x2 rl0 rl127 e7) rfl rfl c1s_0 (fun q9 => ?_)
    refine J_if_ne 31 o dX11_isValue_17 (by decide) q9 (fun c10 => ?_) (fun c11 => ?_)
    · have hf := ite_f c10 hf
      exact t_Re_isValue_31 k  hf hc
    · have hf := ite_t c11 hf
      refine J_iload o dX11_isValue_20 rfl ?_
      refine J_if_eq 35 o dX11_isValue_22 (by decide) r_x4 (fun c12 => ?_) (fun c13 => ?_)
      · have hf := ite_t c12 hf
        exact t_Re_isValue_35 k  hf hc
      · have hf := ite_f c13 hf
        refine J_iload_n o dX11_isValue_25 rfl ?_
        refine J_bipush o dX11_isValue_26 (by decide) ?_
        refine J_icmp_ne 35 o dX11_isValue_28 (by decide) r_x2 rlm9 (fun c14 => ?_) (fun c15 => ?_)
        · have hf := ite_f c14 hf
          exact t_Re_isValue_35 k  hf hc
        · have hf := ite_t c15 hf
          exact t_Re_isValue_31 k  hf hc
theorem c_Re_isValue {E : EE} {l : Launch} (hI : Inj TB E) {w : World} {x1 : Int} {x2 : Int} {x3 : Int} {x4 : Int} (r_x1 : R32 x1) (r_x2 : R32 x2) (r_x3 : R32 x3) (r_x4 : R32 x4) {out : Int} (hf : f_Re_isValue w x1 x2 x3 x4 = some out) : ConI TB E l yX11_isValue (WS yX11_isValue cX11_isValue 5 (some .boolean)) rm_Re_isValue [rf E.ad 1, .int (ii x1), .int (ii x2), .int (ii x3), .int (ii x4)] w w out :=
  con_Z (by decide +kernel) rfl (Nat.le_of_ble_eq_true rfl) (c1s_r (c1s_i (c1s_i (c1s_i (c1s_i c1s_0 (Nat.le_of_ble_eq_true rfl)) (Nat.le_of_ble_eq_true rfl)) (Nat.le_of_ble_eq_true rfl)) (Nat.le_of_ble_eq_true rfl)) (Nat.le_of_ble_eq_true rfl)).1 ⟨rfl, rfl⟩ hI TnB (fun K H0 k hret => t_Re_isValue_0 k r_x1 r_x2 r_x3 r_x4 hf hret)
abbrev rm_Re_areValues : Room := { frames := 3, cells := 0, slots := 0, locals := 70 }
noncomputable def f_Re_areValues (w : World) (x1 : Int) (x2 : Int) (x3 : Int) (x4 : Int) (x5 : Int) : Option Int :=
  bnd (f_Re_isValue w x1 x2 0 x5) fun v2 => if v2 = 0 then (some 0) else (bnd (f_Re_isValue w x1 x3 1 x5) fun v7 => if v7 = 0 then (some 0) else (bnd (f_Re_isValue w x1 x4 2 x5) fun v12 => if v12 = 0 then (some 0) else (some 1)))
theorem t_Re_areValues_0 {E : EE} {K : KT} {l : Launch} {H0 : Heap} (k : Kof TB E K l cX11_areValues RX11 rm_Re_areValues) {w : World} {x1 : Int} {x2 : Int} {x3 : Int} {x4 : Int} {x5 : Int} (r_x1 : R32 x1) (r_x2 : R32 x2) (r_x3 : R32 x3) (r_x4 : R32 x4) (r_x5 : R32 x5) {out : Int} (hf : f_Re_areValues w x1 x2 x3 x4 x5 = some out) (hc : (fun out : Int => RetZ TB E K H0 cX11_areValues w out) out) : Jj K (WdT TB E H0) w 0 [some (rf E.ad 1), some (.int (ii x1)), some (.int (ii x2)), some (.int (ii x3)), some (.int (ii x4)), some (.int (ii x5))] [] := by
  unfold f_Re_areValues at hf
  have o := k.1
  have g := k.2.1
  have kr := k.2.2.1
  refine J_aload_n o dX11_areValues_0 rfl ?_
  refine J_iload_n o dX11_areValues_1 rfl ?_
  refine J_iload_n o dX11_areValues_2 rfl ?_
  refine J_iconst o dX11_areValues_3 ?_
  refine J_iload o dX11_areValues_4 rfl ?_
  obtain ⟨v2, e1, hf⟩ := bnd_some hf
  refine J_vI o g kr dX11_areValues_6 lkX11_109 ml_Re_isValue vl_Re_isValue ⟨rfl, rfl, Nat.le_of_ble_eq_true rfl, Nat.le_of_ble_eq_true rfl⟩ (c_Re_isValue g.2.1 r_x1 r_x2 rl0 r_x5 e1) kB_1 rfl ⟨by decide, by decide⟩ rfl rfl c1s_0 (fun q3 => ?_)
  refine J_if_eq 41 o dX11_areValues_9 (by decide) q3 (fun c4 => ?_) (fun c5 => ?_)
  · have hf := ite_t c4 hf
    refine J_iconst o dX11_areValues_41 ?_
    have hf := some_inj hf
    subst hf
    exact hc _ _ (Or.inl rfl) dX11_areValues_42
  · have hf := ite_f c5 hf
    refine J_aload_n o dX11_areValues_12 rfl ?_
    refine J_iload_n o dX11_areValues_13 rfl ?_
    refine J_iload_n o dX11_areValues_14 rfl ?_
    refine J_iconst o dX11_areValues_15 ?_
    refine J_iload o dX11_areValues_16 rfl ?_
    obtain ⟨v7, e6, hf⟩ := bnd_some hf
    refine J_vI o g kr dX11_areValues_18 lkX11_109 ml_Re_isValue vl_Re_isValue ⟨rfl, rfl, Nat.le_of_ble_eq_true rfl, Nat.le_of_ble_eq_true rfl⟩ (c_Re_isValue g.2.1 r_x1 r_x3 rl1 r_x5 e6) kB_1 rfl ⟨by decide, by decide⟩ rfl rfl c1s_0 (fun q8 => ?_)
    refine J_if_eq 41 o dX11_areValues_21 (by decide) q8 (fun c9 => ?_) (fun c10 => ?_)
    · have hf := ite_t c9 hf
      refine J_iconst o dX11_areValues_41 ?_
      have hf := some_inj hf
      subst hf
      exact hc _ _ (Or.inl rfl) dX11_areValues_42
    · have hf := ite_f c10 hf
      refine J_aload_n o dX11_areValues_24 rfl ?_
      refine J_iload_n o dX11_areValues_25 rfl ?_
      refine J_iload o dX11_areValues_26 rfl ?_
      refine J_iconst o dX11_areValues_28 ?_
      refine J_iload o dX11_areValues_29 rfl ?_
      obtain ⟨v12, e11, hf⟩ := bnd_some hf
      refine J_vI o g kr dX11_areValues_31 lkX11_109 ml_Re_isValue vl_Re_isValue ⟨rfl, rfl, Nat.le_of_ble_eq_true rfl, Nat.le_of_ble_eq_true rfl⟩ (c_Re_isValue g.2.1 r_x1 r_x4 rl2 r_x5 e11) kB_1 rfl ⟨by decide, by decide⟩ rfl rfl c1s_0 (fun q13 => ?_)
      refine J_if_eq 41 o dX11_areValues_34 (by decide) q13 (fun c14 => ?_) (fun c15 => ?_)
      · have hf := ite_t c14 hf
        refine J_iconst o dX11_areValues_41 ?_
        have hf := some_inj hf
        subst hf
        exact hc _ _ (Or.inl rfl) dX11_areValues_42
      · have hf := ite_f c15 hf
        refine J_iconst o dX11_areValues_37 ?_
        refine J_goto 42 o dX11_areValues_38 (by decide) ?_
        have hf := some_inj hf
        subst hf
        exact hc _ _ (Or.inr rfl) dX11_areValues_42
theorem c_Re_areValues {E : EE} {l : Launch} (hI : Inj TB E) {w : World} {x1 : Int} {x2 : Int} {x3 : Int} {x4 : Int} {x5 : Int} (r_x1 : R32 x1) (r_x2 : R32 x2) (r_x3 : R32 x3) (r_x4 : R32 x4) (r_x5 : R32 x5) {out : Int} (hf : f_Re_areValues w x1 x2 x3 x4 x5 = some out) : ConI TB E l yX11_areValues (WS yX11_areValues cX11_areValues 6 (some .boolean)) rm_Re_areValues [rf E.ad 1, .int (ii x1), .int (ii x2), .int (ii x3), .int (ii x4), .int (ii x5)] w w out :=
  con_Z (by decide +kernel) rfl (Nat.le_of_ble_eq_true rfl) (c1s_r (c1s_i (c1s_i (c1s_i (c1s_i (c1s_i c1s_0 (Nat.le_of_ble_eq_true rfl)) (Nat.le_of_ble_eq_true rfl)) (Nat.le_of_ble_eq_true rfl)) (Nat.le_of_ble_eq_true rfl)) (Nat.le_of_ble_eq_true rfl)) (Nat.le_of_ble_eq_true rfl)).1 ⟨rfl, rfl⟩ hI TnB (fun K H0 k hret => t_Re_areValues_0 k r_x1 r_x2 r_x3 r_x4 r_x5 hf hret)
abbrev rm_Re_declare : Room := { frames := 2, cells := 0, slots := 0, locals := 46 }
noncomputable def f_Re_declare_100 (w : World) (x1 : Int) (x2 : Int) (x3 : Int) (x4 : Int) (s1 : Int) : Option World :=
  bnd (f_Re_refused w s1) fun v2 => if v2.2 = 0 then (gd (0 ≤ x1 ∧ x1 < 10) (bl (up v2.1 2 x1.toNat 1) fun w7 => gd (0 ≤ x1 ∧ x1 < 10) (bl (up w7 3 x1.toNat x2) fun w9 => gd (0 ≤ x1 ∧ x1 < 10) (bl (up w9 4 x1.toNat x3) fun w11 => gd (0 ≤ x1 ∧ x1 < 10) (bl (up w11 5 x1.toNat x4) fun w13 => some w13))))) else (some v2.1)
theorem t_Re_declare_100 {E : EE} {K : KT} {l : Launch} {H0 : Heap} (k : Kof TB E K l cX11_declare RX11 rm_Re_declare) {w : World} {x1 : Int} {x2 : Int} {x3 : Int} {x4 : Int} {s1 : Int} {o5 o6 : Option Value} (r_x1 : R32 x1) (r_x2 : R32 x2) (r_x3 : R32 x3) (r_x4 : R32 x4) (r_s1 : R32 s1) {out : World} (hf : f_Re_declare_100 w x1 x2 x3 x4 s1 = some out) (hc : (fun out : World => RetV TB E K H0 cX11_declare out) out) : Jj K (WdT TB E H0) w 100 [some (rf E.ad 1), some (.int (ii x1)), some (.int (ii x2)), some (.int (ii x3)), some (.int (ii x4)), o5, o6] [.int (ii s1), rf E.ad 1] := by
  unfold f_Re_declare_100 at hf
  have o := k.1
  have g := k.2.1
  have kr := k.2.2.1
  obtain ⟨v2, e1, hf⟩ := bnd_some hf
  refine J_vI o g kr dX11_declare_100 lkX11_113 ml_Re_refused vl_Re_refused ⟨rfl, rfl, Nat.le_of_ble_eq_true rfl, Nat.le_of_ble_eq_true rfl⟩ (c_Re_refused g.2.1 r_s1 e1) kB_1 rfl ⟨by decide, by decide⟩ rfl rfl c1s_0 (fun q3 => ?_)
  refine J_if_eq 107 o dX11_declare_103 (by decide) q3 (fun c4 => ?_) (fun c5 => ?_)
  · have hf := ite_t c4 hf
    refine J_aload_n o dX11_declare_107 rfl ?_
    refine J_getF (true, 2) o g dX11_declare_108 flX11_7 kB_1 rfl rfl rfl ?_
    refine J_iload_n o dX11_declare_111 rfl ?_
    refine J_iconst o dX11_declare_112 ?_
    obtain ⟨g6, hf⟩ := gd_some hf
    refine J_zast o g dX11_declare_113 kB_2 (fxB_41 _) r_x1 zB_2 g6 (Or.inr rfl) ?_
    have hf := bl_out hf
    refine J_aload_n o dX11_declare_114 rfl ?_
    refine J_getF (true, 3) o g dX11_declare_115 flX11_13 kB_1 rfl rfl rfl ?_
    refine J_iload_n o dX11_declare_118 rfl ?_
    refine J_iload_n o dX11_declare_119 rfl ?_
    obtain ⟨g8, hf⟩ := gd_some hf
    refine J_iast o g dX11_declare_120 kB_3 (fxB_40 _) r_x1 zB_3 g8 r_x2 ?_
    have hf := bl_out hf
    refine J_aload_n o dX11_declare_121 rfl ?_
    refine J_getF (true, 4) o g dX11_declare_122 flX11_17 kB_1 rfl rfl rfl ?_
    refine J_iload_n o dX11_declare_125 rfl ?_
    refine J_iload_n o dX11_declare_126 rfl ?_
    obtain ⟨g10, hf⟩ := gd_some hf
    refine J_iast o g dX11_declare_127 kB_4 (fxB_40 _) r_x1 zB_4 g10 r_x3 ?_
    have hf := bl_out hf
    refine J_aload_n o dX11_declare_128 rfl ?_
    refine J_getF (true, 5) o g dX11_declare_129 flX11_20 kB_1 rfl rfl rfl ?_
    refine J_iload_n o dX11_declare_132 rfl ?_
    refine J_iload o dX11_declare_133 rfl ?_
    obtain ⟨g12, hf⟩ := gd_some hf
    refine J_iast o g dX11_declare_135 kB_5 (fxB_40 _) r_x1 zB_5 g12 r_x4 ?_
    have hf := bl_out hf
    have hf := some_inj hf
    subst hf
    exact hc _ _  dX11_declare_136
  · have hf := ite_f c5 hf
    have hf := some_inj hf
    subst hf
    exact hc _ _  dX11_declare_106
noncomputable def f_Re_declare_65 (w : World) (x1 : Int) (x2 : Int) (x3 : Int) (x4 : Int) (x5 : Int) (s0 : Int) : Option World :=
  if x5 = 0 then (f_Re_declare_100 w x1 x2 x3 x4 1) else (if s0 = 0 then (f_Re_declare_100 w x1 x2 x3 x4 2) else (gd (0 ≤ x1 ∧ x1 < 10) (if (w 2 x1.toNat) = 0 then (f_Re_declare_100 w x1 x2 x3 x4 0) else (f_Re_declare_100 w x1 x2 x3 x4 3))))
theorem t_Re_declare_65 {E : EE} {K : KT} {l : Launch} {H0 : Heap} (k : Kof TB E K l cX11_declare RX11 rm_Re_declare) {w : World} {x1 : Int} {x2 : Int} {x3 : Int} {x4 : Int} {x5 : Int} {s0 : Int} {o6 : Option Value} (r_x1 : R32 x1) (r_x2 : R32 x2) (r_x3 : R32 x3) (r_x4 : R32 x4) (r_x5 : R32 x5) (r_s0 : R32 s0) {out : World} (hf : f_Re_declare_65 w x1 x2 x3 x4 x5 s0 = some out) (hc : (fun out : World => RetV TB E K H0 cX11_declare out) out) : Jj K (WdT TB E H0) w 65 [some (rf E.ad 1), some (.int (ii x1)), some (.int (ii x2)), some (.int (ii x3)), some (.int (ii x4)), some (.int (ii x5)), o6] [.int (ii s0)] := by
  unfold f_Re_declare_65 at hf
  have o := k.1
  have g := k.2.1
  have kr := k.2.2.1
  refine J_istore o dX11_declare_65 (Nat.le_of_ble_eq_true rfl) ?_
  refine J_aload_n o dX11_declare_67 rfl ?_
  refine J_iload o dX11_declare_68 rfl ?_
  refine J_if_ne 77 o dX11_declare_70 (by decide) r_x5 (fun c1 => ?_) (fun c2 => ?_)
  · have hf := ite_f c1 hf
    refine J_iload o dX11_declare_77 rfl ?_
    refine J_if_ne 86 o dX11_declare_79 (by decide) r_s0 (fun c3 => ?_) (fun c4 => ?_)
    · have hf := ite_f c3 hf
      refine J_aload_n o dX11_declare_86 rfl ?_
      refine J_getF (true, 2) o g dX11_declare_87 flX11_7 kB_1 rfl rfl rfl ?_
      refine J_iload_n o dX11_declare_90 rfl ?_
      obtain ⟨g5, hf⟩ := gd_some hf
      refine J_zald o g dX11_declare_91 kB_2 r_x1 zB_2 g5 (fun q6 => ?_)
      refine J_if_eq 99 o dX11_declare_92 (by decide) q6 (fun c7 => ?_) (fun c8 => ?_)
      · have hf := ite_t c7 hf
        refine J_iconst o dX11_declare_99 ?_
        exact t_Re_declare_100 k r_x1 r_x2 r_x3 r_x4 rl0 hf hc
      · have hf := ite_f c8 hf
        refine J_iconst o dX11_declare_95 ?_
        refine J_goto 100 o dX11_declare_96 (by decide) ?_
        exact t_Re_declare_100 k r_x1 r_x2 r_x3 r_x4 rl3 hf hc
    · have hf := ite_t c4 hf
      refine J_iconst o dX11_declare_82 ?_
      refine J_goto 100 o dX11_declare_83 (by decide) ?_
      exact t_Re_declare_100 k r_x1 r_x2 r_x3 r_x4 rl2 hf hc
  · have hf := ite_t c2 hf
    refine J_iconst o dX11_declare_73 ?_
    refine J_goto 100 o dX11_declare_74 (by decide) ?_
    exact t_Re_declare_100 k r_x1 r_x2 r_x3 r_x4 rl1 hf hc
noncomputable def f_Re_declare_64 (w : World) (x1 : Int) (x2 : Int) (x3 : Int) (x4 : Int) (x5 : Int) : Option World :=
  f_Re_declare_65 w x1 x2 x3 x4 x5 0
theorem t_Re_declare_64 {E : EE} {K : KT} {l : Launch} {H0 : Heap} (k : Kof TB E K l cX11_declare RX11 rm_Re_declare) {w : World} {x1 : Int} {x2 : Int} {x3 : Int} {x4 : Int} {x5 : Int} {o6 : Option Value} (r_x1 : R32 x1) (r_x2 : R32 x2) (r_x3 : R32 x3) (r_x4 : R32 x4) (r_x5 : R32 x5) {out : World} (hf : f_Re_declare_64 w x1 x2 x3 x4 x5 = some out) (hc : (fun out : World => RetV TB E K H0 cX11_declare out) out) : Jj K (WdT TB E H0) w 64 [some (rf E.ad 1), some (.int (ii x1)), some (.int (ii x2)), some (.int (ii x3)), some (.int (ii x4)), some (.int (ii x5)), o6] [] := by
  unfold f_Re_declare_64 at hf
  have o := k.1
  have g := k.2.1
  have kr := k.2.2.1
  refine J_iconst o dX11_declare_64 ?_
  exact t_Re_declare_65 k r_x1 r_x2 r_x3 r_x4 r_x5 rl0 hf hc
noncomputable def f_Re_declare_60 (w : World) (x1 : Int) (x2 : Int) (x3 : Int) (x4 : Int) (x5 : Int) : Option World :=
  f_Re_declare_65 w x1 x2 x3 x4 x5 1
theorem t_Re_declare_60 {E : EE} {K : KT} {l : Launch} {H0 : Heap} (k : Kof TB E K l cX11_declare RX11 rm_Re_declare) {w : World} {x1 : Int} {x2 : Int} {x3 : Int} {x4 : Int} {x5 : Int} {o6 : Option Value} (r_x1 : R32 x1) (r_x2 : R32 x2) (r_x3 : R32 x3) (r_x4 : R32 x4) (r_x5 : R32 x5) {out : World} (hf : f_Re_declare_60 w x1 x2 x3 x4 x5 = some out) (hc : (fun out : World => RetV TB E K H0 cX11_declare out) out) : Jj K (WdT TB E H0) w 60 [some (rf E.ad 1), some (.int (ii x1)), some (.int (ii x2)), some (.int (ii x3)), some (.int (ii x4)), some (.int (ii x5)), o6] [] := by
  unfold f_Re_declare_60 at hf
  have o := k.1
  have g := k.2.1
  have kr := k.2.2.1
  refine J_iconst o dX11_declare_60 ?_
  refine J_goto 65 o dX11_declare_61 (by decide) ?_
  exact t_Re_declare_65 k r_x1 r_x2 r_x3 r_x4 r_x5 rl1 hf hc
noncomputable def f_Re_declare_24 (w : World) (x1 : Int) (x2 : Int) (x3 : Int) (x4 : Int) (s0 : Int) : Option World :=
  bnd (f_Re_in x2 1 3) fun v2 => if v2 = 0 then (f_Re_declare_64 w x1 x2 x3 x4 s0) else (if x3 = 0 then (bnd (f_Re_in x4 1 x2) fun v11 => if v11 = 0 then (f_Re_declare_64 w x1 x2 x3 x4 s0) else (f_Re_declare_60 w x1 x2 x3 x4 s0)) else (if x4 = (wr (x2 - 1)) then (f_Re_declare_60 w x1 x2 x3 x4 s0) else (f_Re_declare_64 w x1 x2 x3 x4 s0)))
theorem t_Re_declare_24 {E : EE} {K : KT} {l : Launch} {H0 : Heap} (k : Kof TB E K l cX11_declare RX11 rm_Re_declare) {w : World} {x1 : Int} {x2 : Int} {x3 : Int} {x4 : Int} {s0 : Int} {o5 o6 : Option Value} (r_x1 : R32 x1) (r_x2 : R32 x2) (r_x3 : R32 x3) (r_x4 : R32 x4) (r_s0 : R32 s0) {out : World} (hf : f_Re_declare_24 w x1 x2 x3 x4 s0 = some out) (hc : (fun out : World => RetV TB E K H0 cX11_declare out) out) : Jj K (WdT TB E H0) w 24 [some (rf E.ad 1), some (.int (ii x1)), some (.int (ii x2)), some (.int (ii x3)), some (.int (ii x4)), o5, o6] [.int (ii s0)] := by
  unfold f_Re_declare_24 at hf
  have o := k.1
  have g := k.2.1
  have kr := k.2.2.1
  refine J_istore o dX11_declare_24 (Nat.le_of_ble_eq_true rfl) ?_
  refine J_iload_n o dX11_declare_26 rfl ?_
  refine J_iconst o dX11_declare_27 ?_
  refine J_iconst o dX11_declare_28 ?_
  obtain ⟨v2, e1, hf⟩ := bnd_some hf
  refine J_sI o g kr dX11_declare_29 lkX11_102 ml_Re_in mw1488 ⟨rfl, rfl, Nat.le_of_ble_eq_true rfl, Nat.le_of_ble_eq_true rfl⟩ (c_Re_in g.2.1 r_x2 rl1 rl3 e1) rfl rfl c1s_0 (fun q3 => ?_)
  refine J_if_eq 64 o dX11_declare_32 (by decide) q3 (fun c4 => ?_) (fun c5 => ?_)
  · have hf := ite_t c4 hf
    exact t_Re_declare_64 k r_x1 r_x2 r_x3 r_x4 r_s0 hf hc
  · have hf := ite_f c5 hf
    refine J_iload_n o dX11_declare_35 rfl ?_
    refine J_if_ne 52 o dX11_declare_36 (by decide) r_x3 (fun c6 => ?_) (fun c7 => ?_)
    · have hf := ite_f c6 hf
      refine J_iload o dX11_declare_52 rfl ?_
      refine J_iload_n o dX11_declare_54 rfl ?_
      refine J_iconst o dX11_declare_55 ?_
      refine J_isub o dX11_declare_56 ?_
      refine J_icmp_ne 64 o dX11_declare_57 (by decide) r_x4 (R_wr _) (fun c8 => ?_) (fun c9 => ?_)
      · have hf := ite_f c8 hf
        exact t_Re_declare_64 k r_x1 r_x2 r_x3 r_x4 r_s0 hf hc
      · have hf := ite_t c9 hf
        exact t_Re_declare_60 k r_x1 r_x2 r_x3 r_x4 r_s0 hf hc
    · have hf := ite_t c7 hf
      refine J_iload o dX11_declare_39 rfl ?_
      refine J_iconst o dX11_declare_41 ?_
      refine J_iload_n o dX11_declare_42 rfl ?_
      obtain ⟨v11, e10, hf⟩ := bnd_some hf
      refine J_sI o g kr dX11_declare_43 lkX11_102 ml_Re_in mw1488 ⟨rfl, rfl, Nat.le_of_ble_eq_true rfl, Nat.le_of_ble_eq_true rfl⟩ (c_Re_in g.2.1 r_x4 rl1 r_x2 e10) rfl rfl c1s_0 (fun q12 => ?_)
      refine J_if_eq 64 o dX11_declare_46 (by decide) q12 (fun c13 => ?_) (fun c14 => ?_)
      · have hf := ite_t c13 hf
        exact t_Re_declare_64 k r_x1 r_x2 r_x3 r_x4 r_s0 hf hc
      · have hf := ite_f c14 hf
        refine J_goto 60 o dX11_declare_49 (by decide) ?_
        exact t_Re_declare_60 k r_x1 r_x2 r_x3 r_x4 r_s0 hf hc
noncomputable def f_Re_declare_23 (w : World) (x1 : Int) (x2 : Int) (x3 : Int) (x4 : Int) : Option World :=
  f_Re_declare_24 w x1 x2 x3 x4 0
theorem t_Re_declare_23 {E : EE} {K : KT} {l : Launch} {H0 : Heap} (k : Kof TB E K l cX11_declare RX11 rm_Re_declare) {w : World} {x1 : Int} {x2 : Int} {x3 : Int} {x4 : Int} {o5 o6 : Option Value} (r_x1 : R32 x1) (r_x2 : R32 x2) (r_x3 : R32 x3) (r_x4 : R32 x4) {out : World} (hf : f_Re_declare_23 w x1 x2 x3 x4 = some out) (hc : (fun out : World => RetV TB E K H0 cX11_declare out) out) : Jj K (WdT TB E H0) w 23 [some (rf E.ad 1), some (.int (ii x1)), some (.int (ii x2)), some (.int (ii x3)), some (.int (ii x4)), o5, o6] [] := by
  unfold f_Re_declare_23 at hf
  have o := k.1
  have g := k.2.1
  have kr := k.2.2.1
  refine J_iconst o dX11_declare_23 ?_
  exact t_Re_declare_24 k r_x1 r_x2 r_x3 r_x4 rl0 hf hc
noncomputable def f_Re_declare (w : World) (x1 : Int) (x2 : Int) (x3 : Int) (x4 : Int) : Option World :=
  bnd (f_Re_in x1 0 9) fun v2 => if v2 = 0 then (f_Re_declare_23 w x1 x2 x3 x4) else (bnd (f_Re_in x3 0 3) fun v7 => if v7 = 0 then (f_Re_declare_23 w x1 x2 x3 x4) else (f_Re_declare_24 w x1 x2 x3 x4 1))
theorem t_Re_declare_0 {E : EE} {K : KT} {l : Launch} {H0 : Heap} (k : Kof TB E K l cX11_declare RX11 rm_Re_declare) {w : World} {x1 : Int} {x2 : Int} {x3 : Int} {x4 : Int} {o5 o6 : Option Value} (r_x1 : R32 x1) (r_x2 : R32 x2) (r_x3 : R32 x3) (r_x4 : R32 x4) {out : World} (hf : f_Re_declare w x1 x2 x3 x4 = some out) (hc : (fun out : World => RetV TB E K H0 cX11_declare out) out) : Jj K (WdT TB E H0) w 0 [some (rf E.ad 1), some (.int (ii x1)), some (.int (ii x2)), some (.int (ii x3)), some (.int (ii x4)), o5, o6] [] := by
  unfold f_Re_declare at hf
  have o := k.1
  have g := k.2.1
  have kr := k.2.2.1
  refine J_iload_n o dX11_declare_0 rfl ?_
  refine J_iconst o dX11_declare_1 ?_
  refine J_bipush o dX11_declare_2 (by decide) ?_
  obtain ⟨v2, e1, hf⟩ := bnd_some hf
  refine J_sI o g kr dX11_declare_4 lkX11_102 ml_Re_in mw1488 ⟨rfl, rfl, Nat.le_of_ble_eq_true rfl, Nat.le_of_ble_eq_true rfl⟩ (c_Re_in g.2.1 r_x1 rl0 rl9 e1) rfl rfl c1s_0 (fun q3 => ?_)
  refine J_if_eq 23 o dX11_declare_7 (by decide) q3 (fun c4 => ?_) (fun c5 => ?_)
  · have hf := ite_t c4 hf
    exact t_Re_declare_23 k r_x1 r_x2 r_x3 r_x4 hf hc
  · have hf := ite_f c5 hf
    refine J_iload_n o dX11_declare_10 rfl ?_
    refine J_iconst o dX11_declare_11 ?_
    refine J_iconst o dX11_declare_12 ?_
    obtain ⟨v7, e6, hf⟩ := bnd_some hf
    refine J_sI o g kr dX11_declare_13 lkX11_102 ml_Re_in mw1488 ⟨rfl, rfl, Nat.le_of_ble_eq_true rfl, Nat.le_of_ble_eq_true rfl⟩ (c_Re_in g.2.1 r_x3 rl0 rl3 e6) rfl rfl c1s_0 (fun q8 => ?_)
    refine J_if_eq 23 o dX11_declare_16 (by decide) q8 (fun c9 => ?_) (fun c10 => ?_)
    · have hf := ite_t c9 hf
      exact t_Re_declare_23 k r_x1 r_x2 r_x3 r_x4 hf hc
    · have hf := ite_f c10 hf
      refine J_iconst o dX11_declare_19 ?_
      refine J_goto 24 o dX11_declare_20 (by decide) ?_
      exact t_Re_declare_24 k r_x1 r_x2 r_x3 r_x4 rl1 hf hc
theorem c_Re_declare {E : EE} {l : Launch} (hI : Inj TB E) {w : World} {x1 : Int} {x2 : Int} {x3 : Int} {x4 : Int} (r_x1 : R32 x1) (r_x2 : R32 x2) (r_x3 : R32 x3) (r_x4 : R32 x4) {out : World} (hf : f_Re_declare w x1 x2 x3 x4 = some out) : ConV TB E l yX11_declare (WS yX11_declare cX11_declare 7 none) rm_Re_declare [rf E.ad 1, .int (ii x1), .int (ii x2), .int (ii x3), .int (ii x4)] w out :=
  con_V (by decide +kernel) rfl (Nat.le_of_ble_eq_true rfl) (c1s_r (c1s_i (c1s_i (c1s_i (c1s_i c1s_0 (Nat.le_of_ble_eq_true rfl)) (Nat.le_of_ble_eq_true rfl)) (Nat.le_of_ble_eq_true rfl)) (Nat.le_of_ble_eq_true rfl)) (Nat.le_of_ble_eq_true rfl)).1 ⟨rfl, rfl⟩ hI TnB (fun K H0 k hret => t_Re_declare_0 k r_x1 r_x2 r_x3 r_x4 hf hret)
abbrev rm_Re_holdsIn : Room := { frames := 2, cells := 0, slots := 0, locals := 46 }
noncomputable def f_Re_holdsIn (w : World) (x1 : Int) (x2 : Int) (x3 : Int) : Option Int :=
  gd (0 ≤ x1 ∧ x1 < 24) (if (w 12 x1.toNat) = 0 then (gd (0 ≤ x1 ∧ x1 < 24) (gd (0 ≤ x1 ∧ x1 < 24) (bnd (f_Re_in x2 (w 10 x1.toNat) (w 11 x1.toNat)) fun v10 => if v10 = 0 then (some 0) else (if (iand (ishr x3 x1) 1) = 0 then (some 1) else (some 0))))) else (some 0))
theorem t_Re_holdsIn_0 {E : EE} {K : KT} {l : Launch} {H0 : Heap} (k : Kof TB E K l cX11_holdsIn RX11 rm_Re_holdsIn) {w : World} {x1 : Int} {x2 : Int} {x3 : Int} (r_x1 : R32 x1) (r_x2 : R32 x2) (r_x3 : R32 x3) {out : Int} (hf : f_Re_holdsIn w x1 x2 x3 = some out) (hc : (fun out : Int => RetZ TB E K H0 cX11_holdsIn w out) out) : Jj K (WdT TB E H0) w 0 [some (rf E.ad 1), some (.int (ii x1)), some (.int (ii x2)), some (.int (ii x3))] [] := by
  unfold f_Re_holdsIn at hf
  have o := k.1
  have g := k.2.1
  have kr := k.2.2.1
  refine J_aload_n o dX11_holdsIn_0 rfl ?_
  refine J_getF (true, 12) o g dX11_holdsIn_1 flX11_41 kB_1 rfl rfl rfl ?_
  refine J_iload_n o dX11_holdsIn_4 rfl ?_
  obtain ⟨g1, hf⟩ := gd_some hf
  refine J_zald o g dX11_holdsIn_5 kB_12 r_x1 zB_12 g1 (fun q2 => ?_)
  refine J_if_ne 40 o dX11_holdsIn_6 (by decide) q2 (fun c3 => ?_) (fun c4 => ?_)
  · have hf := ite_f c3 hf
    refine J_iconst o dX11_holdsIn_40 ?_
    have hf := some_inj hf
    subst hf
    exact hc _ _ (Or.inl rfl) dX11_holdsIn_41
  · have hf := ite_t c4 hf
    refine J_iload_n o dX11_holdsIn_9 rfl ?_
    refine J_aload_n o dX11_holdsIn_10 rfl ?_
    refine J_getF (true, 10) o g dX11_holdsIn_11 flX11_35 kB_1 rfl rfl rfl ?_
    refine J_iload_n o dX11_holdsIn_14 rfl ?_
    obtain ⟨g5, hf⟩ := gd_some hf
    refine J_iald o g dX11_holdsIn_15 kB_10 r_x1 zB_10 g5 (fun q6 => ?_)
    refine J_aload_n o dX11_holdsIn_16 rfl ?_
    refine J_getF (true, 11) o g dX11_holdsIn_17 flX11_38 kB_1 rfl rfl rfl ?_
    refine J_iload_n o dX11_holdsIn_20 rfl ?_
    obtain ⟨g7, hf⟩ := gd_some hf
    refine J_iald o g dX11_holdsIn_21 kB_11 r_x1 zB_11 g7 (fun q8 => ?_)
    obtain ⟨v10, e9, hf⟩ := bnd_some hf
    refine J_sI o g kr dX11_holdsIn_22 lkX11_102 ml_Re_in mw1488 ⟨rfl, rfl, Nat.le_of_ble_eq_true rfl, Nat.le_of_ble_eq_true rfl⟩ (c_Re_in g.2.1 r_x2 q6 q8 e9) rfl rfl c1s_0 (fun q11 => ?_)
    refine J_if_eq 40 o dX11_holdsIn_25 (by decide) q11 (fun c12 => ?_) (fun c13 => ?_)
    · have hf := ite_t c12 hf
      refine J_iconst o dX11_holdsIn_40 ?_
      have hf := some_inj hf
      subst hf
      exact hc _ _ (Or.inl rfl) dX11_holdsIn_41
    · have hf := ite_f c13 hf
      refine J_iload_n o dX11_holdsIn_28 rfl ?_
      refine J_iload_n o dX11_holdsIn_29 rfl ?_
      refine J_ishr o dX11_holdsIn_30 ?_
      refine J_iconst o dX11_holdsIn_31 ?_
      refine J_iand o dX11_holdsIn_32 ?_
      refine J_if_ne 40 o dX11_holdsIn_33 (by decide) (R_iand _ _) (fun c14 => ?_) (fun c15 => ?_)
      · have hf := ite_f c14 hf
        refine J_iconst o dX11_holdsIn_40 ?_
        have hf := some_inj hf
        subst hf
        exact hc _ _ (Or.inl rfl) dX11_holdsIn_41
      · have hf := ite_t c15 hf
        refine J_iconst o dX11_holdsIn_36 ?_
        refine J_goto 41 o dX11_holdsIn_37 (by decide) ?_
        have hf := some_inj hf
        subst hf
        exact hc _ _ (Or.inr rfl) dX11_holdsIn_41
theorem c_Re_holdsIn {E : EE} {l : Launch} (hI : Inj TB E) {w : World} {x1 : Int} {x2 : Int} {x3 : Int} (r_x1 : R32 x1) (r_x2 : R32 x2) (r_x3 : R32 x3) {out : Int} (hf : f_Re_holdsIn w x1 x2 x3 = some out) : ConI TB E l yX11_holdsIn (WS yX11_holdsIn cX11_holdsIn 4 (some .boolean)) rm_Re_holdsIn [rf E.ad 1, .int (ii x1), .int (ii x2), .int (ii x3)] w w out :=
  con_Z (by decide +kernel) rfl (Nat.le_of_ble_eq_true rfl) (c1s_r (c1s_i (c1s_i (c1s_i c1s_0 (Nat.le_of_ble_eq_true rfl)) (Nat.le_of_ble_eq_true rfl)) (Nat.le_of_ble_eq_true rfl)) (Nat.le_of_ble_eq_true rfl)).1 ⟨rfl, rfl⟩ hI TnB (fun K H0 k hret => t_Re_holdsIn_0 k r_x1 r_x2 r_x3 hf hret)
abbrev rm_Re_place : Room := { frames := 1, cells := 0, slots := 0, locals := 24 }
def HW_Re_place_34 (E : EE) (K : KT) (H0 : Heap) (w : World) (x1 : Int) (x2 : Int) (x3 : Int) (x4 : Int) (x5 : Int) (x6 : Int) : (Int × Int) → Prop := fun z => R32 z.1 → R32 z.2 → ∀ o9 o10 : Option Value, Jj K (WdT TB E H0) w 34 [some (rf E.ad 1), some (.int (ii x1)), some (.int (ii x2)), some (.int (ii x3)), some (.int (ii x4)), some (.int (ii x5)), some (.int (ii x6)), some (.int (ii z.1)), some (.int (ii z.2)), o9, o10] []
noncomputable def f_Re_place_147 (w : World) (x1 : Int) (x2 : Int) (x3 : Int) (x4 : Int) (x5 : Int) (x6 : Int) (x8 : Int) (s0 : Int) : Option ((Int × Int) ⊕ Int) :=
  bl (wr (x8 + 1)) fun n1 => some (Sum.inl (s0, n1))
theorem t_Re_place_147 {E : EE} {K : KT} {l : Launch} {H0 : Heap} (k : Kof TB E K l cX11_place RX11 rm_Re_place) {w : World} {x1 : Int} {x2 : Int} {x3 : Int} {x4 : Int} {x5 : Int} {x6 : Int} {x8 : Int} {s0 : Int} {o7 o9 o10 : Option Value} (r_x1 : R32 x1) (r_x2 : R32 x2) (r_x3 : R32 x3) (r_x4 : R32 x4) (r_x5 : R32 x5) (r_x6 : R32 x6) (r_x8 : R32 x8) (r_s0 : R32 s0) {out : ((Int × Int) ⊕ Int)} (hf : f_Re_place_147 w x1 x2 x3 x4 x5 x6 x8 s0 = some out) (hc : (Sum.elim (HW_Re_place_34 E K H0 w x1 x2 x3 x4 x5 x6) (fun out : Int => RetI TB E K H0 cX11_place w out)) out) : Jj K (WdT TB E H0) w 147 [some (rf E.ad 1), some (.int (ii x1)), some (.int (ii x2)), some (.int (ii x3)), some (.int (ii x4)), some (.int (ii x5)), some (.int (ii x6)), o7, some (.int (ii x8)), o9, o10] [.int (ii s0)] := by
  unfold f_Re_place_147 at hf
  have o := k.1
  have g := k.2.1
  have kr := k.2.2.1
  refine J_istore o dX11_place_147 (Nat.le_of_ble_eq_true rfl) ?_
  have hf := bl_out hf
  refine J_iinc o dX11_place_149 rfl ?_
  refine J_goto 34 o dX11_place_152 (by decide) ?_
  have hf := some_inj hf
  subst hf
  exact hc r_s0 (R_wr _) _ _
noncomputable def f_Re_place_133 (w : World) (x1 : Int) (x2 : Int) (x3 : Int) (x4 : Int) (x5 : Int) (x6 : Int) (x7 : Int) (x8 : Int) (s0 : Int) : Option ((Int × Int) ⊕ Int) :=
  if s0 = 0 then (f_Re_place_147 w x1 x2 x3 x4 x5 x6 x8 x7) else (f_Re_place_147 w x1 x2 x3 x4 x5 x6 x8 x8)
theorem t_Re_place_133 {E : EE} {K : KT} {l : Launch} {H0 : Heap} (k : Kof TB E K l cX11_place RX11 rm_Re_place) {w : World} {x1 : Int} {x2 : Int} {x3 : Int} {x4 : Int} {x5 : Int} {x6 : Int} {x7 : Int} {x8 : Int} {s0 : Int} {o9 o10 : Option Value} (r_x1 : R32 x1) (r_x2 : R32 x2) (r_x3 : R32 x3) (r_x4 : R32 x4) (r_x5 : R32 x5) (r_x6 : R32 x6) (r_x7 : R32 x7) (r_x8 : R32 x8) (r_s0 : R32 s0) {out : ((Int × Int) ⊕ Int)} (hf : f_Re_place_133 w x1 x2 x3 x4 x5 x6 x7 x8 s0 = some out) (hc : (Sum.elim (HW_Re_place_34 E K H0 w x1 x2 x3 x4 x5 x6) (fun out : Int => RetI TB E K H0 cX11_place w out)) out) : Jj K (WdT TB E H0) w 133 [some (rf E.ad 1), some (.int (ii x1)), some (.int (ii x2)), some (.int (ii x3)), some (.int (ii x4)), some (.int (ii x5)), some (.int (ii x6)), some (.int (ii x7)), some (.int (ii x8)), o9, o10] [.int (ii s0)] := by
  unfold f_Re_place_133 at hf
  have o := k.1
  have g := k.2.1
  have kr := k.2.2.1
  refine J_istore o dX11_place_133 (Nat.le_of_ble_eq_true rfl) ?_
  refine J_iload o dX11_place_135 rfl ?_
  refine J_if_eq 145 o dX11_place_137 (by decide) r_s0 (fun c1 => ?_) (fun c2 => ?_)
  · have hf := ite_t c1 hf
    refine J_iload o dX11_place_145 rfl ?_
    exact t_Re_place_147 k r_x1 r_x2 r_x3 r_x4 r_x5 r_x6 r_x8 r_x7 hf hc
  · have hf := ite_f c2 hf
    refine J_iload o dX11_place_140 rfl ?_
    refine J_goto 147 o dX11_place_142 (by decide) ?_
    exact t_Re_place_147 k r_x1 r_x2 r_x3 r_x4 r_x5 r_x6 r_x8 r_x8 hf hc
noncomputable def f_Re_place_132 (w : World) (x1 : Int) (x2 : Int) (x3 : Int) (x4 : Int) (x5 : Int) (x6 : Int) (x7 : Int) (x8 : Int) : Option ((Int × Int) ⊕ Int) :=
  f_Re_place_133 w x1 x2 x3 x4 x5 x6 x7 x8 0
theorem t_Re_place_132 {E : EE} {K : KT} {l : Launch} {H0 : Heap} (k : Kof TB E K l cX11_place RX11 rm_Re_place) {w : World} {x1 : Int} {x2 : Int} {x3 : Int} {x4 : Int} {x5 : Int} {x6 : Int} {x7 : Int} {x8 : Int} {o9 o10 : Option Value} (r_x1 : R32 x1) (r_x2 : R32 x2) (r_x3 : R32 x3) (r_x4 : R32 x4) (r_x5 : R32 x5) (r_x6 : R32 x6) (r_x7 : R32 x7) (r_x8 : R32 x8) {out : ((Int × Int) ⊕ Int)} (hf : f_Re_place_132 w x1 x2 x3 x4 x5 x6 x7 x8 = some out) (hc : (Sum.elim (HW_Re_place_34 E K H0 w x1 x2 x3 x4 x5 x6) (fun out : Int => RetI TB E K H0 cX11_place w out)) out) : Jj K (WdT TB E H0) w 132 [some (rf E.ad 1), some (.int (ii x1)), some (.int (ii x2)), some (.int (ii x3)), some (.int (ii x4)), some (.int (ii x5)), some (.int (ii x6)), some (.int (ii x7)), some (.int (ii x8)), o9, o10] [] := by
  unfold f_Re_place_132 at hf
  have o := k.1
  have g := k.2.1
  have kr := k.2.2.1
  refine J_iconst o dX11_place_132 ?_
  exact t_Re_place_133 k r_x1 r_x2 r_x3 r_x4 r_x5 r_x6 r_x7 r_x8 rl0 hf hc
noncomputable def f_Re_place_128 (w : World) (x1 : Int) (x2 : Int) (x3 : Int) (x4 : Int) (x5 : Int) (x6 : Int) (x7 : Int) (x8 : Int) : Option ((Int × Int) ⊕ Int) :=
  f_Re_place_133 w x1 x2 x3 x4 x5 x6 x7 x8 1
theorem t_Re_place_128 {E : EE} {K : KT} {l : Launch} {H0 : Heap} (k : Kof TB E K l cX11_place RX11 rm_Re_place) {w : World} {x1 : Int} {x2 : Int} {x3 : Int} {x4 : Int} {x5 : Int} {x6 : Int} {x7 : Int} {x8 : Int} {o9 o10 : Option Value} (r_x1 : R32 x1) (r_x2 : R32 x2) (r_x3 : R32 x3) (r_x4 : R32 x4) (r_x5 : R32 x5) (r_x6 : R32 x6) (r_x7 : R32 x7) (r_x8 : R32 x8) {out : ((Int × Int) ⊕ Int)} (hf : f_Re_place_128 w x1 x2 x3 x4 x5 x6 x7 x8 = some out) (hc : (Sum.elim (HW_Re_place_34 E K H0 w x1 x2 x3 x4 x5 x6) (fun out : Int => RetI TB E K H0 cX11_place w out)) out) : Jj K (WdT TB E H0) w 128 [some (rf E.ad 1), some (.int (ii x1)), some (.int (ii x2)), some (.int (ii x3)), some (.int (ii x4)), some (.int (ii x5)), some (.int (ii x6)), some (.int (ii x7)), some (.int (ii x8)), o9, o10] [] := by
  unfold f_Re_place_128 at hf
  have o := k.1
  have g := k.2.1
  have kr := k.2.2.1
  refine J_iconst o dX11_place_128 ?_
  refine J_goto 133 o dX11_place_129 (by decide) ?_
  exact t_Re_place_133 k r_x1 r_x2 r_x3 r_x4 r_x5 r_x6 r_x7 r_x8 rl1 hf hc
noncomputable def f_Re_place_106 (w : World) (x1 : Int) (x2 : Int) (x3 : Int) (x4 : Int) (x5 : Int) (x6 : Int) (x7 : Int) (x8 : Int) (x9 : Int) : Option ((Int × Int) ⊕ Int) :=
  if x6 < 3 then (f_Re_place_128 w x1 x2 x3 x4 x5 x6 x7 x8) else (gd (0 ≤ wr ((wr (3 * x9)) + 2) ∧ wr ((wr (3 * x9)) + 2) < 750) (if (w 22 (wr ((wr (3 * x9)) + 2)).toNat) = x5 then (f_Re_place_128 w x1 x2 x3 x4 x5 x6 x7 x8) else (f_Re_place_132 w x1 x2 x3 x4 x5 x6 x7 x8)))
theorem t_Re_place_106 {E : EE} {K : KT} {l : Launch} {H0 : Heap} (k : Kof TB E K l cX11_place RX11 rm_Re_place) {w : World} {x1 : Int} {x2 : Int} {x3 : Int} {x4 : Int} {x5 : Int} {x6 : Int} {x7 : Int} {x8 : Int} {x9 : Int} {o10 : Option Value} (r_x1 : R32 x1) (r_x2 : R32 x2) (r_x3 : R32 x3) (r_x4 : R32 x4) (r_x5 : R32 x5) (r_x6 : R32 x6) (r_x7 : R32 x7) (r_x8 : R32 x8) (r_x9 : R32 x9) {out : ((Int × Int) ⊕ Int)} (hf : f_Re_place_106 w x1 x2 x3 x4 x5 x6 x7 x8 x9 = some out) (hc : (Sum.elim (HW_Re_place_34 E K H0 w x1 x2 x3 x4 x5 x6) (fun out : Int => RetI TB E K H0 cX11_place w out)) out) : Jj K (WdT TB E H0) w 106 [some (rf E.ad 1), some (.int (ii x1)), some (.int (ii x2)), some (.int (ii x3)), some (.int (ii x4)), some (.int (ii x5)), some (.int (ii x6)), some (.int (ii x7)), some (.int (ii x8)), some (.int (ii x9)), o10] [] := by
  unfold f_Re_place_106 at hf
  have o := k.1
  have g := k.2.1
  have kr := k.2.2.1
  refine J_iload o dX11_place_106 rfl ?_
  refine J_iconst o dX11_place_108 ?_
  refine J_icmp_lt 128 o dX11_place_109 (by decide) r_x6 rl3 (fun c1 => ?_) (fun c2 => ?_)
  · have hf := ite_t c1 hf
    exact t_Re_place_128 k r_x1 r_x2 r_x3 r_x4 r_x5 r_x6 r_x7 r_x8 hf hc
  · have hf := ite_f c2 hf
    refine J_aload_n o dX11_place_112 rfl ?_
    refine J_getF (true, 22) o g dX11_place_113 flX11_71 kB_1 rfl rfl rfl ?_
    refine J_iconst o dX11_place_116 ?_
    refine J_iload o dX11_place_117 rfl ?_
    refine J_imul o dX11_place_119 ?_
    refine J_iconst o dX11_place_120 ?_
    refine J_iadd o dX11_place_121 ?_
    obtain ⟨g3, hf⟩ := gd_some hf
    refine J_iald o g dX11_place_122 kB_22 (R_wr _) zB_22 g3 (fun q4 => ?_)
    refine J_iload o dX11_place_123 rfl ?_
    refine J_icmp_ne 132 o dX11_place_125 (by decide) q4 r_x5 (fun c5 => ?_) (fun c6 => ?_)
    · have hf := ite_f c5 hf
      exact t_Re_place_132 k r_x1 r_x2 r_x3 r_x4 r_x5 r_x6 r_x7 r_x8 hf hc
    · have hf := ite_t c6 hf
      exact t_Re_place_128 k r_x1 r_x2 r_x3 r_x4 r_x5 r_x6 r_x7 r_x8 hf hc
noncomputable def f_Re_place_84 (w : World) (x1 : Int) (x2 : Int) (x3 : Int) (x4 : Int) (x5 : Int) (x6 : Int) (x7 : Int) (x8 : Int) (x9 : Int) : Option ((Int × Int) ⊕ Int) :=
  if x6 < 2 then (f_Re_place_106 w x1 x2 x3 x4 x5 x6 x7 x8 x9) else (gd (0 ≤ wr ((wr (3 * x9)) + 1) ∧ wr ((wr (3 * x9)) + 1) < 750) (if (w 22 (wr ((wr (3 * x9)) + 1)).toNat) = x4 then (f_Re_place_106 w x1 x2 x3 x4 x5 x6 x7 x8 x9) else (f_Re_place_132 w x1 x2 x3 x4 x5 x6 x7 x8)))
theorem t_Re_place_84 {E : EE} {K : KT} {l : Launch} {H0 : Heap} (k : Kof TB E K l cX11_place RX11 rm_Re_place) {w : World} {x1 : Int} {x2 : Int} {x3 : Int} {x4 : Int} {x5 : Int} {x6 : Int} {x7 : Int} {x8 : Int} {x9 : Int} {o10 : Option Value} (r_x1 : R32 x1) (r_x2 : R32 x2) (r_x3 : R32 x3) (r_x4 : R32 x4) (r_x5 : R32 x5) (r_x6 : R32 x6) (r_x7 : R32 x7) (r_x8 : R32 x8) (r_x9 : R32 x9) {out : ((Int × Int) ⊕ Int)} (hf : f_Re_place_84 w x1 x2 x3 x4 x5 x6 x7 x8 x9 = some out) (hc : (Sum.elim (HW_Re_place_34 E K H0 w x1 x2 x3 x4 x5 x6) (fun out : Int => RetI TB E K H0 cX11_place w out)) out) : Jj K (WdT TB E H0) w 84 [some (rf E.ad 1), some (.int (ii x1)), some (.int (ii x2)), some (.int (ii x3)), some (.int (ii x4)), some (.int (ii x5)), some (.int (ii x6)), some (.int (ii x7)), some (.int (ii x8)), some (.int (ii x9)), o10] [] := by
  unfold f_Re_place_84 at hf
  have o := k.1
  have g := k.2.1
  have kr := k.2.2.1
  refine J_iload o dX11_place_84 rfl ?_
  refine J_iconst o dX11_place_86 ?_
  refine J_icmp_lt 106 o dX11_place_87 (by decide) r_x6 rl2 (fun c1 => ?_) (fun c2 => ?_)
  · have hf := ite_t c1 hf
    exact t_Re_place_106 k r_x1 r_x2 r_x3 r_x4 r_x5 r_x6 r_x7 r_x8 r_x9 hf hc
  · have hf := ite_f c2 hf
    refine J_aload_n o dX11_place_90 rfl ?_
    refine J_getF (true, 22) o g dX11_place_91 flX11_71 kB_1 rfl rfl rfl ?_
    refine J_iconst o dX11_place_94 ?_
    refine J_iload o dX11_place_95 rfl ?_
    refine J_imul o dX11_place_97 ?_
    refine J_iconst o dX11_place_98 ?_
    refine J_iadd o dX11_place_99 ?_
    obtain ⟨g3, hf⟩ := gd_some hf
    refine J_iald o g dX11_place_100 kB_22 (R_wr _) zB_22 g3 (fun q4 => ?_)
    refine J_iload o dX11_place_101 rfl ?_
    refine J_icmp_ne 132 o dX11_place_103 (by decide) q4 r_x4 (fun c5 => ?_) (fun c6 => ?_)
    · have hf := ite_f c5 hf
      exact t_Re_place_132 k r_x1 r_x2 r_x3 r_x4 r_x5 r_x6 r_x7 r_x8 hf hc
    · have hf := ite_t c6 hf
      exact t_Re_place_106 k r_x1 r_x2 r_x3 r_x4 r_x5 r_x6 r_x7 r_x8 r_x9 hf hc
noncomputable def f_Re_place_34B (w : World) (x1 : Int) (x2 : Int) (x3 : Int) (x4 : Int) (x5 : Int) (x6 : Int) (x7 : Int) (x8 : Int) : Option ((Int × Int) ⊕ Int) :=
  gd (0 ≤ x1 ∧ x1 < 5) (if (w 20 x1.toNat) ≤ x8 then (some (Sum.inr x7)) else (bl (wr ((wr (50 * x1)) + x8)) fun n5 => gd (0 ≤ n5 ∧ n5 < 250) (if (w 21 n5.toNat) = x2 then (if x6 < 1 then (f_Re_place_84 w x1 x2 x3 x4 x5 x6 x7 x8 n5) else (gd (0 ≤ wr (3 * n5) ∧ wr (3 * n5) < 750) (if (w 22 (wr (3 * n5)).toNat) = x3 then (f_Re_place_84 w x1 x2 x3 x4 x5 x6 x7 x8 n5) else (f_Re_place_132 w x1 x2 x3 x4 x5 x6 x7 x8)))) else (f_Re_place_132 w x1 x2 x3 x4 x5 x6 x7 x8))))
theorem t_Re_place_34B {E : EE} {K : KT} {l : Launch} {H0 : Heap} (k : Kof TB E K l cX11_place RX11 rm_Re_place) {w : World} {x1 : Int} {x2 : Int} {x3 : Int} {x4 : Int} {x5 : Int} {x6 : Int} {x7 : Int} {x8 : Int} {o9 o10 : Option Value} (r_x1 : R32 x1) (r_x2 : R32 x2) (r_x3 : R32 x3) (r_x4 : R32 x4) (r_x5 : R32 x5) (r_x6 : R32 x6) (r_x7 : R32 x7) (r_x8 : R32 x8) {out : ((Int × Int) ⊕ Int)} (hf : f_Re_place_34B w x1 x2 x3 x4 x5 x6 x7 x8 = some out) (hc : (Sum.elim (HW_Re_place_34 E K H0 w x1 x2 x3 x4 x5 x6) (fun out : Int => RetI TB E K H0 cX11_place w out)) out) : Jj K (WdT TB E H0) w 34 [some (rf E.ad 1), some (.int (ii x1)), some (.int (ii x2)), some (.int (ii x3)), some (.int (ii x4)), some (.int (ii x5)), some (.int (ii x6)), some (.int (ii x7)), some (.int (ii x8)), o9, o10] [] := by
  unfold f_Re_place_34B at hf
  have o := k.1
  have g := k.2.1
  have kr := k.2.2.1
  refine J_iload o dX11_place_34 rfl ?_
  refine J_aload_n o dX11_place_36 rfl ?_
  refine J_getF (true, 20) o g dX11_place_37 flX11_65 kB_1 rfl rfl rfl ?_
  refine J_iload_n o dX11_place_40 rfl ?_
  obtain ⟨g1, hf⟩ := gd_some hf
  refine J_iald o g dX11_place_41 kB_20 r_x1 zB_20 g1 (fun q2 => ?_)
  refine J_icmp_ge 155 o dX11_place_42 (by decide) r_x8 q2 (fun c3 => ?_) (fun c4 => ?_)
  · have hf := ite_t c3 hf
    refine J_iload o dX11_place_155 rfl ?_
    have hf := some_inj hf
    subst hf
    exact hc _ _ r_x7 dX11_place_157
  · have hf := ite_f c4 hf
    refine J_bipush o dX11_place_45 (by decide) ?_
    refine J_iload_n o dX11_place_47 rfl ?_
    refine J_imul o dX11_place_48 ?_
    refine J_iload o dX11_place_49 rfl ?_
    refine J_iadd o dX11_place_51 ?_
    refine J_istore o dX11_place_52 (Nat.le_of_ble_eq_true rfl) ?_
    have hf := bl_out hf
    refine J_aload_n o dX11_place_54 rfl ?_
    refine J_getF (true, 21) o g dX11_place_55 flX11_68 kB_1 rfl rfl rfl ?_
    refine J_iload o dX11_place_58 rfl ?_
    obtain ⟨g6, hf⟩ := gd_some hf
    refine J_iald o g dX11_place_60 kB_21 (R_wr _) zB_21 g6 (fun q7 => ?_)
    refine J_iload_n o dX11_place_61 rfl ?_
    refine J_icmp_ne 132 o dX11_place_62 (by decide) q7 r_x2 (fun c8 => ?_) (fun c9 => ?_)
    · have hf := ite_f c8 hf
      exact t_Re_place_132 k r_x1 r_x2 r_x3 r_x4 r_x5 r_x6 r_x7 r_x8 hf hc
    · have hf := ite_t c9 hf
      refine J_iload o dX11_place_65 rfl ?_
      refine J_iconst o dX11_place_67 ?_
      refine J_icmp_lt 84 o dX11_place_68 (by decide) r_x6 rl1 (fun c10 => ?_) (fun c11 => ?_)
      · have hf := ite_t c10 hf
        exact t_Re_place_84 k r_x1 r_x2 r_x3 r_x4 r_x5 r_x6 r_x7 r_x8 (R_wr _) hf hc
      · have hf := ite_f c11 hf
        refine J_aload_n o dX11_place_71 rfl ?_
        refine J_getF (true, 22) o g dX11_place_72 flX11_71 kB_1 rfl rfl rfl ?_
        refine J_iconst o dX11_place_75 ?_
        refine J_iload o dX11_place_76 rfl ?_
        refine J_imul o dX11_place_78 ?_
        obtain ⟨g12, hf⟩ := gd_some hf
        refine J_iald o g dX11_place_79 kB_22 (R_wr _) zB_22 g12 (fun q13 => ?_)
        refine J_iload_n o dX11_place_80 rfl ?_
        refine J_icmp_ne 132 o dX11_place_81 (by decide) q13 r_x3 (fun c14 => ?_) (fun c15 => ?_)
        · have hf := ite_f c14 hf
          exact t_Re_place_132 k r_x1 r_x2 r_x3 r_x4 r_x5 r_x6 r_x7 r_x8 hf hc
        · have hf := ite_t c15 hf
          exact t_Re_place_84 k r_x1 r_x2 r_x3 r_x4 r_x5 r_x6 r_x7 r_x8 (R_wr _) hf hc
noncomputable def f_Re_place_34 (w : World) (x1 : Int) (x2 : Int) (x3 : Int) (x4 : Int) (x5 : Int) (x6 : Int) (x7 : Int) (x8 : Int) : Option Int :=
  lp (fun z : (Int × Int) => f_Re_place_34B w x1 x2 x3 x4 x5 x6 z.1 z.2) (x7, x8)
theorem t_Re_place_34 {E : EE} {K : KT} {l : Launch} {H0 : Heap} (k : Kof TB E K l cX11_place RX11 rm_Re_place) {w : World} {x1 : Int} {x2 : Int} {x3 : Int} {x4 : Int} {x5 : Int} {x6 : Int} {x7 : Int} {x8 : Int} (r_x1 : R32 x1) (r_x2 : R32 x2) (r_x3 : R32 x3) (r_x4 : R32 x4) (r_x5 : R32 x5) (r_x6 : R32 x6) {out : Int} (hf : f_Re_place_34 w x1 x2 x3 x4 x5 x6 x7 x8 = some out) (hc : (fun out : Int => RetI TB E K H0 cX11_place w out) out) : HW_Re_place_34 E K H0 w x1 x2 x3 x4 x5 x6 (x7, x8) := by
  unfold f_Re_place_34 at hf
  refine lp_ind (P := HW_Re_place_34 E K H0 w x1 x2 x3 x4 x5 x6) hf ?_
  intro z o hs h1 h2
  intro r_x7 r_x8
  intro o9 o10
  refine t_Re_place_34B k r_x1 r_x2 r_x3 r_x4 r_x5 r_x6 r_x7 r_x8 hs ?_
  cases o with
  | inl z' => exact h1 z' rfl
  | inr r' => rw [h2 r' rfl]; exact hc
noncomputable def f_Re_place_26 (w : World) (x1 : Int) (x2 : Int) (x3 : Int) (x4 : Int) (x5 : Int) (s0 : Int) : Option Int :=
  f_Re_place_34 w x1 x2 x3 x4 x5 s0 (-1) 0
theorem t_Re_place_26 {E : EE} {K : KT} {l : Launch} {H0 : Heap} (k : Kof TB E K l cX11_place RX11 rm_Re_place) {w : World} {x1 : Int} {x2 : Int} {x3 : Int} {x4 : Int} {x5 : Int} {s0 : Int} {o6 o7 o8 o9 o10 : Option Value} (r_x1 : R32 x1) (r_x2 : R32 x2) (r_x3 : R32 x3) (r_x4 : R32 x4) (r_x5 : R32 x5) (r_s0 : R32 s0) {out : Int} (hf : f_Re_place_26 w x1 x2 x3 x4 x5 s0 = some out) (hc : (fun out : Int => RetI TB E K H0 cX11_place w out) out) : Jj K (WdT TB E H0) w 26 [some (rf E.ad 1), some (.int (ii x1)), some (.int (ii x2)), some (.int (ii x3)), some (.int (ii x4)), some (.int (ii x5)), o6, o7, o8, o9, o10] [.int (ii s0)] := by
  unfold f_Re_place_26 at hf
  have o := k.1
  have g := k.2.1
  have kr := k.2.2.1
  refine J_istore o dX11_place_26 (Nat.le_of_ble_eq_true rfl) ?_
  refine J_iconst o dX11_place_28 ?_
  refine J_istore o dX11_place_29 (Nat.le_of_ble_eq_true rfl) ?_
  refine J_iconst o dX11_place_31 ?_
  refine J_istore o dX11_place_32 (Nat.le_of_ble_eq_true rfl) ?_
  exact (t_Re_place_34 k r_x1 r_x2 r_x3 r_x4 r_x5 r_s0 hf hc) rlm1 rl0 _ _
noncomputable def f_Re_place (w : World) (x1 : Int) (x2 : Int) (x3 : Int) (x4 : Int) (x5 : Int) : Option Int :=
  gd (0 ≤ x2 ∧ x2 < 10) (if (w 4 x2.toNat) = 0 then (gd (0 ≤ x2 ∧ x2 < 10) (f_Re_place_26 w x1 x2 x3 x4 x5 (w 3 x2.toNat))) else (gd (0 ≤ x2 ∧ x2 < 10) (f_Re_place_26 w x1 x2 x3 x4 x5 (wr ((w 3 x2.toNat) - 1)))))
theorem t_Re_place_0 {E : EE} {K : KT} {l : Launch} {H0 : Heap} (k : Kof TB E K l cX11_place RX11 rm_Re_place) {w : World} {x1 : Int} {x2 : Int} {x3 : Int} {x4 : Int} {x5 : Int} {o6 o7 o8 o9 o10 : Option Value} (r_x1 : R32 x1) (r_x2 : R32 x2) (r_x3 : R32 x3) (r_x4 : R32 x4) (r_x5 : R32 x5) {out : Int} (hf : f_Re_place w x1 x2 x3 x4 x5 = some out) (hc : (fun out : Int => RetI TB E K H0 cX11_place w out) out) : Jj K (WdT TB E H0) w 0 [some (rf E.ad 1), some (.int (ii x1)), some (.int (ii x2)), some (.int (ii x3)), some (.int (ii x4)), some (.int (ii x5)), o6, o7, o8, o9, o10] [] := by
  unfold f_Re_place at hf
  have o := k.1
  have g := k.2.1
  have kr := k.2.2.1
  refine J_aload_n o dX11_place_0 rfl ?_
  refine J_getF (true, 4) o g dX11_place_1 flX11_17 kB_1 rfl rfl rfl ?_
  refine J_iload_n o dX11_place_4 rfl ?_
  obtain ⟨g1, hf⟩ := gd_some hf
  refine J_iald o g dX11_place_5 kB_4 r_x2 zB_4 g1 (fun q2 => ?_)
  refine J_if_ne 18 o dX11_place_6 (by decide) q2 (fun c3 => ?_) (fun c4 => ?_)
  · have hf := ite_f c3 hf
    refine J_aload_n o dX11_place_18 rfl ?_
    refine J_getF (true, 3) o g dX11_place_19 flX11_13 kB_1 rfl rfl rfl ?_
    refine J_iload_n o dX11_place_22 rfl ?_
    obtain ⟨g5, hf⟩ := gd_some hf
    refine J_iald o g dX11_place_23 kB_3 r_x2 zB_3 g5 (fun q6 => ?_)
    refine J_iconst o dX11_place_24 ?_
    refine J_isub o dX11_place_25 ?_
    exact t_Re_place_26 k r_x1 r_x2 r_x3 r_x4 r_x5 (R_wr _) hf hc
  · have hf := ite_t c4 hf
    refine J_aload_n o dX11_place_9 rfl ?_
    refine J_getF (true, 3) o g dX11_place_10 flX11_13 kB_1 rfl rfl rfl ?_
    refine J_iload_n o dX11_place_13 rfl ?_
    obtain ⟨g7, hf⟩ := gd_some hf
    refine J_iald o g dX11_place_14 kB_3 r_x2 zB_3 g7 (fun q8 => ?_)
    refine J_goto 26 o dX11_place_15 (by decide) ?_
    exact t_Re_place_26 k r_x1 r_x2 r_x3 r_x4 r_x5 q8 hf hc
theorem c_Re_place {E : EE} {l : Launch} (hI : Inj TB E) {w : World} {x1 : Int} {x2 : Int} {x3 : Int} {x4 : Int} {x5 : Int} (r_x1 : R32 x1) (r_x2 : R32 x2) (r_x3 : R32 x3) (r_x4 : R32 x4) (r_x5 : R32 x5) {out : Int} (hf : f_Re_place w x1 x2 x3 x4 x5 = some out) : ConI TB E l yX11_place (WS yX11_place cX11_place 11 (some .int)) rm_Re_place [rf E.ad 1, .int (ii x1), .int (ii x2), .int (ii x3), .int (ii x4), .int (ii x5)] w w out :=
  con_I (by decide +kernel) rfl (Nat.le_of_ble_eq_true rfl) (c1s_r (c1s_i (c1s_i (c1s_i (c1s_i (c1s_i c1s_0 (Nat.le_of_ble_eq_true rfl)) (Nat.le_of_ble_eq_true rfl)) (Nat.le_of_ble_eq_true rfl)) (Nat.le_of_ble_eq_true rfl)) (Nat.le_of_ble_eq_true rfl)) (Nat.le_of_ble_eq_true rfl)).1 ⟨rfl, rfl⟩ hI TnB (fun K H0 k hret => t_Re_place_0 k r_x1 r_x2 r_x3 r_x4 r_x5 hf hret)
abbrev rm_Re_merged : Room := { frames := 1, cells := 0, slots := 0, locals := 24 }
noncomputable def f_Re_merged (x0 : Int) (x1 : Int) (x2 : Int) : Option Int :=
  if x0 = 1 then (if x1 ≤ x2 then (some x1) else (some x2)) else (if x0 = 2 then (if x2 ≤ x1 then (some x1) else (some x2)) else (some (ior x1 x2)))
theorem t_Re_merged_0 {E : EE} {K : KT} {l : Launch} {H0 : Heap} (k : Kof TB E K l cX11_merged RX11 rm_Re_merged) {w0 : World} {x0 : Int} {x1 : Int} {x2 : Int} (r_x0 : R32 x0) (r_x1 : R32 x1) (r_x2 : R32 x2) {out : Int} (hf : f_Re_merged x0 x1 x2 = some out) (hc : (fun out : Int => RetI TB E K H0 cX11_merged w0 out) out) : Jj K (WdT TB E H0) w0 0 [some (.int (ii x0)), some (.int (ii x1)), some (.int (ii x2))] [] := by
  unfold f_Re_merged at hf
  have o := k.1
  have g := k.2.1
  have kr := k.2.2.1
  refine J_iload_n o dX11_merged_0 rfl ?_
  refine J_iconst o dX11_merged_1 ?_
  refine J_icmp_ne 18 o dX11_merged_2 (by decide) r_x0 rl1 (fun c1 => ?_) (fun c2 => ?_)
  · have hf := ite_f c1 hf
    refine J_iload_n o dX11_merged_18 rfl ?_
    refine J_iconst o dX11_merged_19 ?_
    refine J_icmp_ne 36 o dX11_merged_20 (by decide) r_x0 rl2 (fun c3 => ?_) (fun c4 => ?_)
    · have hf := ite_f c3 hf
      refine J_iload_n o dX11_merged_36 rfl ?_
      refine J_iload_n o dX11_merged_37 rfl ?_
      refine J_ior o dX11_merged_38 ?_
      have hf := some_inj hf
      subst hf
      exact hc _ _ (R_ior _ _) dX11_merged_39
    · have hf := ite_t c4 hf
      refine J_iload_n o dX11_merged_23 rfl ?_
      refine J_iload_n o dX11_merged_24 rfl ?_
      refine J_icmp_le 32 o dX11_merged_25 (by decide) r_x2 r_x1 (fun c5 => ?_) (fun c6 => ?_)
      · have hf := ite_t c5 hf
        refine J_iload_n o dX11_merged_32 rfl ?_
        refine J_goto 39 o dX11_merged_33 (by decide) ?_
        have hf := some_inj hf
        subst hf
        exact hc _ _ r_x1 dX11_merged_39
      · have hf := ite_f c6 hf
        refine J_iload_n o dX11_merged_28 rfl ?_
        refine J_goto 39 o dX11_merged_29 (by decide) ?_
        have hf := some_inj hf
        subst hf
        exact hc _ _ r_x2 dX11_merged_39
  · have hf := ite_t c2 hf
    refine J_iload_n o dX11_merged_5 rfl ?_
    refine J_iload_n o dX11_merged_6 rfl ?_
    refine J_icmp_ge 14 o dX11_merged_7 (by decide) r_x2 r_x1 (fun c7 => ?_) (fun c8 => ?_)
    · have hf := ite_t c7 hf
      refine J_iload_n o dX11_merged_14 rfl ?_
      refine J_goto 39 o dX11_merged_15 (by decide) ?_
      have hf := some_inj hf
      subst hf
      exact hc _ _ r_x1 dX11_merged_39
    · have hf := ite_f c8 hf
      refine J_iload_n o dX11_merged_10 rfl ?_
      refine J_goto 39 o dX11_merged_11 (by decide) ?_
      have hf := some_inj hf
      subst hf
      exact hc _ _ r_x2 dX11_merged_39
theorem c_Re_merged {E : EE} {l : Launch} (hI : Inj TB E) {w0 : World} {x0 : Int} {x1 : Int} {x2 : Int} (r_x0 : R32 x0) (r_x1 : R32 x1) (r_x2 : R32 x2) {out : Int} (hf : f_Re_merged x0 x1 x2 = some out) : ConI TB E l yX11_merged (WS yX11_merged cX11_merged 3 (some .int)) rm_Re_merged [.int (ii x0), .int (ii x1), .int (ii x2)] w0 w0 out :=
  con_I (by decide +kernel) rfl (Nat.le_of_ble_eq_true rfl) (c1s_i (c1s_i (c1s_i c1s_0 (Nat.le_of_ble_eq_true rfl)) (Nat.le_of_ble_eq_true rfl)) (Nat.le_of_ble_eq_true rfl)).1 ⟨rfl, rfl⟩ hI TnB (fun K H0 k hret => t_Re_merged_0 k r_x0 r_x1 r_x2 hf hret)
abbrev rm_Re_take : Room := { frames := 2, cells := 0, slots := 0, locals := 54 }
noncomputable def f_Re_take_123 (w : World) (x7 : Int) (x9 : Int) (s0 : Int) : Option (World × Int) :=
  gd (0 ≤ x7 ∧ x7 < 750) (bl (up w 22 x7.toNat x9) fun w2 => gd (s0 = 0 ∨ s0 = 1) (some (w2, s0)))
theorem t_Re_take_123 {E : EE} {K : KT} {l : Launch} {H0 : Heap} (k : Kof TB E K l cX11_take RX11 rm_Re_take) {w : World} {x7 : Int} {x9 : Int} {s0 : Int} {o1 o2 o3 o4 o5 o6 o8 o10 : Option Value} (r_x7 : R32 x7) (r_x9 : R32 x9) (r_s0 : R32 s0) {out : (World × Int)} (hf : f_Re_take_123 w x7 x9 s0 = some out) (hc : (fun out : (World × Int) => RetZ TB E K H0 cX11_take out.1 out.2) out) : Jj K (WdT TB E H0) w 123 [some (rf E.ad 1), o1, o2, o3, o4, o5, o6, some (.int (ii x7)), o8, some (.int (ii x9)), o10] [.int (ii s0)] := by
  unfold f_Re_take_123 at hf
  have o := k.1
  have g := k.2.1
  have kr := k.2.2.1
  refine J_istore o dX11_take_123 (Nat.le_of_ble_eq_true rfl) ?_
  refine J_aload_n o dX11_take_125 rfl ?_
  refine J_getF (true, 22) o g dX11_take_126 flX11_71 kB_1 rfl rfl rfl ?_
  refine J_iload o dX11_take_129 rfl ?_
  refine J_iload o dX11_take_131 rfl ?_
  obtain ⟨g1, hf⟩ := gd_some hf
  refine J_iast o g dX11_take_133 kB_22 (fxB_40 _) r_x7 zB_22 g1 r_x9 ?_
  have hf := bl_out hf
  refine J_iload o dX11_take_134 rfl ?_
  obtain ⟨g3, hf⟩ := gd_some hf
  have hf := some_inj hf
  subst hf
  exact hc _ _ g3 dX11_take_136
noncomputable def f_Re_take_104 (w : World) (x7 : Int) (s0 : Int) : Option (World × Int) :=
  gd (0 ≤ x7 ∧ x7 < 750) (if s0 = (w 22 x7.toNat) then (f_Re_take_123 w x7 s0 0) else (f_Re_take_123 w x7 s0 1))
theorem t_Re_take_104 {E : EE} {K : KT} {l : Launch} {H0 : Heap} (k : Kof TB E K l cX11_take RX11 rm_Re_take) {w : World} {x7 : Int} {s0 : Int} {o1 o2 o3 o4 o5 o6 o8 o9 o10 : Option Value} (r_x7 : R32 x7) (r_s0 : R32 s0) {out : (World × Int)} (hf : f_Re_take_104 w x7 s0 = some out) (hc : (fun out : (World × Int) => RetZ TB E K H0 cX11_take out.1 out.2) out) : Jj K (WdT TB E H0) w 104 [some (rf E.ad 1), o1, o2, o3, o4, o5, o6, some (.int (ii x7)), o8, o9, o10] [.int (ii s0)] := by
  unfold f_Re_take_104 at hf
  have o := k.1
  have g := k.2.1
  have kr := k.2.2.1
  refine J_istore o dX11_take_104 (Nat.le_of_ble_eq_true rfl) ?_
  refine J_iload o dX11_take_106 rfl ?_
  refine J_aload_n o dX11_take_108 rfl ?_
  refine J_getF (true, 22) o g dX11_take_109 flX11_71 kB_1 rfl rfl rfl ?_
  refine J_iload o dX11_take_112 rfl ?_
  obtain ⟨g1, hf⟩ := gd_some hf
  refine J_iald o g dX11_take_114 kB_22 r_x7 zB_22 g1 (fun q2 => ?_)
  refine J_icmp_eq 122 o dX11_take_115 (by decide) r_s0 q2 (fun c3 => ?_) (fun c4 => ?_)
  · have hf := ite_t c3 hf
    refine J_iconst o dX11_take_122 ?_
    exact t_Re_take_123 k r_x7 r_s0 rl0 hf hc
  · have hf := ite_f c4 hf
    refine J_iconst o dX11_take_118 ?_
    refine J_goto 123 o dX11_take_119 (by decide) ?_
    exact t_Re_take_123 k r_x7 r_s0 rl1 hf hc
noncomputable def f_Re_take_70 (w : World) (x2 : Int) (x7 : Int) (s0 : Int) : Option (World × Int) :=
  gd (0 ≤ x2 ∧ x2 < 10) (if (w 4 x2.toNat) = 0 then (f_Re_take_104 w x7 s0) else (gd (0 ≤ x2 ∧ x2 < 10) (gd (0 ≤ x7 ∧ x7 < 750) (bnd (f_Re_merged (w 4 x2.toNat) (w 22 x7.toNat) s0) fun v10 => f_Re_take_104 w x7 v10))))
theorem t_Re_take_70 {E : EE} {K : KT} {l : Launch} {H0 : Heap} (k : Kof TB E K l cX11_take RX11 rm_Re_take) {w : World} {x2 : Int} {x7 : Int} {s0 : Int} {o1 o3 o4 o5 o6 o8 o9 o10 : Option Value} (r_x2 : R32 x2) (r_x7 : R32 x7) (r_s0 : R32 s0) {out : (World × Int)} (hf : f_Re_take_70 w x2 x7 s0 = some out) (hc : (fun out : (World × Int) => RetZ TB E K H0 cX11_take out.1 out.2) out) : Jj K (WdT TB E H0) w 70 [some (rf E.ad 1), o1, some (.int (ii x2)), o3, o4, o5, o6, some (.int (ii x7)), o8, o9, o10] [.int (ii s0)] := by
  unfold f_Re_take_70 at hf
  have o := k.1
  have g := k.2.1
  have kr := k.2.2.1
  refine J_istore o dX11_take_70 (Nat.le_of_ble_eq_true rfl) ?_
  refine J_aload_n o dX11_take_72 rfl ?_
  refine J_getF (true, 4) o g dX11_take_73 flX11_17 kB_1 rfl rfl rfl ?_
  refine J_iload_n o dX11_take_76 rfl ?_
  obtain ⟨g1, hf⟩ := gd_some hf
  refine J_iald o g dX11_take_77 kB_4 r_x2 zB_4 g1 (fun q2 => ?_)
  refine J_if_ne 86 o dX11_take_78 (by decide) q2 (fun c3 => ?_) (fun c4 => ?_)
  · have hf := ite_f c3 hf
    refine J_aload_n o dX11_take_86 rfl ?_
    refine J_getF (true, 4) o g dX11_take_87 flX11_17 kB_1 rfl rfl rfl ?_
    refine J_iload_n o dX11_take_90 rfl ?_
    obtain ⟨g5, hf⟩ := gd_some hf
    refine J_iald o g dX11_take_91 kB_4 r_x2 zB_4 g5 (fun q6 => ?_)
    refine J_aload_n o dX11_take_92 rfl ?_
    refine J_getF (true, 22) o g dX11_take_93 flX11_71 kB_1 rfl rfl rfl ?_
    refine J_iload o dX11_take_96 rfl ?_
    obtain ⟨g7, hf⟩ := gd_some hf
    refine J_iald o g dX11_take_98 kB_22 r_x7 zB_22 g7 (fun q8 => ?_)
    refine J_iload o dX11_take_99 rfl ?_
    obtain ⟨v10, e9, hf⟩ := bnd_some hf
    refine J_sI o g kr dX11_take_101 lkX11_220 ml_Re_merged mw1531 ⟨rfl, rfl, Nat.le_of_ble_eq_true rfl, Nat.le_of_ble_eq_true rfl⟩ (c_Re_merged g.2.1 q6 q8 r_s0 e9) rfl rfl c1s_0 (fun q11 => ?_)
    exact t_Re_take_104 k r_x7 q11 hf hc
  · have hf := ite_t c4 hf
    refine J_iload o dX11_take_81 rfl ?_
    refine J_goto 104 o dX11_take_83 (by decide) ?_
    exact t_Re_take_104 k r_x7 r_s0 hf hc
noncomputable def f_Re_take (w : World) (x1 : Int) (x2 : Int) (x3 : Int) (x4 : Int) (x5 : Int) : Option (World × Int) :=
  bnd (f_Re_place w x1 x2 x3 x4 x5) fun v2 => if v2 = (-1) then (gd (0 ≤ x1 ∧ x1 < 5) (bl (wr ((wr (50 * x1)) + (w 20 x1.toNat))) fun n8 => gd (0 ≤ n8 ∧ n8 < 250) (bl (up w 21 n8.toNat x2) fun w10 => gd (0 ≤ wr (3 * n8) ∧ wr (3 * n8) < 750) (bl (up w10 22 (wr (3 * n8)).toNat x3) fun w12 => gd (0 ≤ wr ((wr (3 * n8)) + 1) ∧ wr ((wr (3 * n8)) + 1) < 750) (bl (up w12 22 (wr ((wr (3 * n8)) + 1)).toNat x4) fun w14 => gd (0 ≤ wr ((wr (3 * n8)) + 2) ∧ wr ((wr (3 * n8)) + 2) < 750) (bl (up w14 22 (wr ((wr (3 * n8)) + 2)).toNat x5) fun w16 => gd (0 ≤ x1 ∧ x1 < 5) (gd (0 ≤ x1 ∧ x1 < 5) (bl (up w16 20 x1.toNat (wr ((w16 20 x1.toNat) + 1))) fun w20 => some (w20, 1))))))))) else (gd (0 ≤ x2 ∧ x2 < 10) (bl (wr ((wr ((wr (3 * (wr ((wr (50 * x1)) + v2)))) + (w 3 x2.toNat))) - 1)) fun n23 => gd (0 ≤ x2 ∧ x2 < 10) (if (w 3 x2.toNat) = 1 then (f_Re_take_70 w x2 n23 x3) else (gd (0 ≤ x2 ∧ x2 < 10) (if (w 3 x2.toNat) = 2 then (f_Re_take_70 w x2 n23 x4) else (f_Re_take_70 w x2 n23 x5))))))
theorem t_Re_take_0 {E : EE} {K : KT} {l : Launch} {H0 : Heap} (k : Kof TB E K l cX11_take RX11 rm_Re_take) {w : World} {x1 : Int} {x2 : Int} {x3 : Int} {x4 : Int} {x5 : Int} {o6 o7 o8 o9 o10 : Option Value} (r_x1 : R32 x1) (r_x2 : R32 x2) (r_x3 : R32 x3) (r_x4 : R32 x4) (r_x5 : R32 x5) {out : (World × Int)} (hf : f_Re_take w x1 x2 x3 x4 x5 = some out) (hc : (fun out : (World × Int) => RetZ TB E K H0 cX11_take out.1 out.2) out) : Jj K (WdT TB E H0) w 0 [some (rf E.ad 1), some (.int (ii x1)), some (.int (ii x2)), some (.int (ii x3)), some (.int (ii x4)), some (.int (ii x5)), o6, o7, o8, o9, o10] [] := by
  unfold f_Re_take at hf
  have o := k.1
  have g := k.2.1
  have kr := k.2.2.1
  refine J_aload_n o dX11_take_0 rfl ?_
  refine J_iload_n o dX11_take_1 rfl ?_
  refine J_iload_n o dX11_take_2 rfl ?_
  refine J_iload_n o dX11_take_3 rfl ?_
  refine J_iload o dX11_take_4 rfl ?_
  refine J_iload o dX11_take_6 rfl ?_
  obtain ⟨v2, e1, hf⟩ := bnd_some hf
  refine J_vI o g kr dX11_take_8 lkX11_217 ml_Re_place vl_Re_place ⟨rfl, rfl, Nat.le_of_ble_eq_true rfl, Nat.le_of_ble_eq_true rfl⟩ (c_Re_place g.2.1 r_x1 r_x2 r_x3 r_x4 r_x5 e1) kB_1 rfl ⟨by decide, by decide⟩ rfl rfl c1s_0 (fun q3 => ?_)
  refine J_istore o dX11_take_11 (Nat.le_of_ble_eq_true rfl) ?_
  refine J_iload o dX11_take_13 rfl ?_
  refine J_iconst o dX11_take_15 ?_
  refine J_icmp_eq 137 o dX11_take_16 (by decide) q3 rlm1 (fun c4 => ?_) (fun c5 => ?_)
  · have hf := ite_t c4 hf
    refine J_bipush o dX11_take_137 (by decide) ?_
    refine J_iload_n o dX11_take_139 rfl ?_
    refine J_imul o dX11_take_140 ?_
    refine J_aload_n o dX11_take_141 rfl ?_
    refine J_getF (true, 20) o g dX11_take_142 flX11_65 kB_1 rfl rfl rfl ?_
    refine J_iload_n o dX11_take_145 rfl ?_
    obtain ⟨g6, hf⟩ := gd_some hf
    refine J_iald o g dX11_take_146 kB_20 r_x1 zB_20 g6 (fun q7 => ?_)
    refine J_iadd o dX11_take_147 ?_
    refine J_istore o dX11_take_148 (Nat.le_of_ble_eq_true rfl) ?_
    have hf := bl_out hf
    refine J_aload_n o dX11_take_150 rfl ?_
    refine J_getF (true, 21) o g dX11_take_151 flX11_68 kB_1 rfl rfl rfl ?_
    refine J_iload o dX11_take_154 rfl ?_
    refine J_iload_n o dX11_take_156 rfl ?_
    obtain ⟨g9, hf⟩ := gd_some hf
    refine J_iast o g dX11_take_157 kB_21 (fxB_40 _) (R_wr _) zB_21 g9 r_x2 ?_
    have hf := bl_out hf
    refine J_aload_n o dX11_take_158 rfl ?_
    refine J_getF (true, 22) o g dX11_take_159 flX11_71 kB_1 rfl rfl rfl ?_
    refine J_iconst o dX11_take_162 ?_
    refine J_iload o dX11_take_163 rfl ?_
    refine J_imul o dX11_take_165 ?_
    refine J_iload_n o dX11_take_166 rfl ?_
    obtain ⟨g11, hf⟩ := gd_some hf
    refine J_iast o g dX11_take_167 kB_22 (fxB_40 _) (R_wr _) zB_22 g11 r_x3 ?_
    have hf := bl_out hf
    refine J_aload_n o dX11_take_168 rfl ?_
    refine J_getF (true, 22) o g dX11_take_169 flX11_71 kB_1 rfl rfl rfl ?_
    refine J_iconst o dX11_take_172 ?_
    refine J_iload o dX11_take_173 rfl ?_
    refine J_imul o dX11_take_175 ?_
    refine J_iconst o dX11_take_176 ?_
    refine J_iadd o dX11_take_177 ?_
    refine J_iload o dX11_take_178 rfl ?_
    obtain ⟨g13, hf⟩ := gd_some hf
    refine J_iast o g dX11_take_180 kB_22 (fxB_40 _) (R_wr _) zB_22 g13 r_x4 ?_
    have hf := bl_out hf
    refine J_aload_n o dX11_take_181 rfl ?_
    refine J_getF (true, 22) o g dX11_take_182 flX11_71 kB_1 rfl rfl rfl ?_
    refine J_iconst o dX11_take_185 ?_
    refine J_iload o dX11_take_186 rfl ?_
    refine J_imul o dX11_take_188 ?_
    refine J_iconst o dX11_take_189 ?_
    refine J_iadd o dX11_take_190 ?_
    refine J_iload o dX11_take_191 rfl ?_
    obtain ⟨g15, hf⟩ := gd_some hf
    refine J_iast o g dX11_take_193 kB_22 (fxB_40 _) (R_wr _) zB_22 g15 r_x5 ?_
    have hf := bl_out hf
    refine J_aload_n o dX11_take_194 rfl ?_
    refine J_getF (true, 20) o g dX11_take_195 flX11_65 kB_1 rfl rfl rfl ?_
    refine J_iload_n o dX11_take_198 rfl ?_
    refine J_dup2 o dX11_take_199 rfl rf_cat ?_
    obtain ⟨g17, hf⟩ := gd_some hf
    refine J_iald o g dX11_take_200 kB_20 r_x1 zB_20 g17 (fun q18 => ?_)
    refine J_iconst o dX11_take_201 ?_
    refine J_iadd o dX11_take_202 ?_
    obtain ⟨g19, hf⟩ := gd_some hf
    refine J_iast o g dX11_take_203 kB_20 (fxB_40 _) r_x1 zB_20 g19 (R_wr _) ?_
    have hf := bl_out hf
    refine J_iconst o dX11_take_204 ?_
    have hf := some_inj hf
    subst hf
    exact hc _ _ (Or.inr rfl) dX11_take_205
  · have hf := ite_f c5 hf
    refine J_iconst o dX11_take_19 ?_
    refine J_bipush o dX11_take_20 (by decide) ?_
    refine J_iload_n o dX11_take_22 rfl ?_
    refine J_imul o dX11_take_23 ?_
    refine J_iload o dX11_take_24 rfl ?_
    refine J_iadd o dX11_take_26 ?_
    refine J_imul o dX11_take_27 ?_
    refine J_aload_n o dX11_take_28 rfl ?_
    refine J_getF (true, 3) o g dX11_take_29 flX11_13 kB_1 rfl rfl rfl ?_
    refine J_iload_n o dX11_take_32 rfl ?_
    obtain ⟨g21, hf⟩ := gd_some hf
    refine J_iald o g dX11_take_33 kB_3 r_x2 zB_3 g21 (fun q22 => ?_)
    refine J_iadd o dX11_take_34 ?_
    refine J_iconst o dX11_take_35 ?_
    refine J_isub o dX11_take_36 ?_
    refine J_istore o dX11_take_37 (Nat.le_of_ble_eq_true rfl) ?_
    have hf := bl_out hf
    refine J_aload_n o dX11_take_39 rfl ?_
    refine J_getF (true, 3) o g dX11_take_40 flX11_13 kB_1 rfl rfl rfl ?_
    refine J_iload_n o dX11_take_43 rfl ?_
    obtain ⟨g24, hf⟩ := gd_some hf
    refine J_iald o g dX11_take_44 kB_3 r_x2 zB_3 g24 (fun q25 => ?_)
    refine J_iconst o dX11_take_45 ?_
    refine J_icmp_ne 53 o dX11_take_46 (by decide) q25 rl1 (fun c26 => ?_) (fun c27 => ?_)
    · have hf := ite_f c26 hf
      refine J_aload_n o dX11_take_53 rfl ?_
      refine J_getF (true, 3) o g dX11_take_54 flX11_13 kB_1 rfl rfl rfl ?_
      refine J_iload_n o dX11_take_57 rfl ?_
      obtain ⟨g28, hf⟩ := gd_some hf
      refine J_iald o g dX11_take_58 kB_3 r_x2 zB_3 g28 (fun q29 => ?_)
      refine J_iconst o dX11_take_59 ?_
      refine J_icmp_ne 68 o dX11_take_60 (by decide) q29 rl2 (fun c30 => ?_) (fun c31 => ?_)
      · have hf := ite_f c30 hf
        refine J_iload o dX11_take_68 rfl ?_
        exact t_Re_take_70 k r_x2 (R_wr _) r_x5 hf hc
      · have hf := ite_t c31 hf
        refine J_iload o dX11_take_63 rfl ?_
        refine J_goto 70 o dX11_take_65 (by decide) ?_
        exact t_Re_take_70 k r_x2 (R_wr _) r_x4 hf hc
    · have hf := ite_t c27 hf
      refine J_iload_n o dX11_take_49 rfl ?_
      refine J_goto 70 o dX11_take_50 (by decide) ?_
      exact t_Re_take_70 k r_x2 (R_wr _) r_x3 hf hc
theorem c_Re_take {E : EE} {l : Launch} (hI : Inj TB E) {w : World} {x1 : Int} {x2 : Int} {x3 : Int} {x4 : Int} {x5 : Int} (r_x1 : R32 x1) (r_x2 : R32 x2) (r_x3 : R32 x3) (r_x4 : R32 x4) (r_x5 : R32 x5) {out : (World × Int)} (hf : f_Re_take w x1 x2 x3 x4 x5 = some out) : ConI TB E l yX11_take (WS yX11_take cX11_take 11 (some .boolean)) rm_Re_take [rf E.ad 1, .int (ii x1), .int (ii x2), .int (ii x3), .int (ii x4), .int (ii x5)] w out.1 out.2 :=
  con_Z (by decide +kernel) rfl (Nat.le_of_ble_eq_true rfl) (c1s_r (c1s_i (c1s_i (c1s_i (c1s_i (c1s_i c1s_0 (Nat.le_of_ble_eq_true rfl)) (Nat.le_of_ble_eq_true rfl)) (Nat.le_of_ble_eq_true rfl)) (Nat.le_of_ble_eq_true rfl)) (Nat.le_of_ble_eq_true rfl)) (Nat.le_of_ble_eq_true rfl)).1 ⟨rfl, rfl⟩ hI TnB (fun K H0 k hret => t_Re_take_0 k r_x1 r_x2 r_x3 r_x4 r_x5 hf hret)
abbrev rm_Re_begin : Room := { frames := 1, cells := 0, slots := 0, locals := 24 }
def HW_Re_begin_2 (E : EE) (K : KT) (H0 : Heap)  : (World × Int) → Prop := fun z => R32 z.2 → Jj K (WdT TB E H0) z.1 2 [some (rf E.ad 1), some (.int (ii z.2))] []
noncomputable def f_Re_begin_2B (w : World) (x1 : Int) : Option ((World × Int) ⊕ World) :=
  if 8 ≤ x1 then (bl (up w 1 30 0) fun w3 => some (Sum.inr w3)) else (gd (0 ≤ x1 ∧ x1 < 8) (bl (up w 24 x1.toNat (-9)) fun w5 => bl (wr (x1 + 1)) fun n6 => some (Sum.inl (w5, n6))))
theorem t_Re_begin_2B {E : EE} {K : KT} {l : Launch} {H0 : Heap} (k : Kof TB E K l cX11_begin RX11 rm_Re_begin) {w : World} {x1 : Int} (r_x1 : R32 x1) {out : ((World × Int) ⊕ World)} (hf : f_Re_begin_2B w x1 = some out) (hc : (Sum.elim (HW_Re_begin_2 E K H0 ) (fun out : World => RetV TB E K H0 cX11_begin out)) out) : Jj K (WdT TB E H0) w 2 [some (rf E.ad 1), some (.int (ii x1))] [] := by
  unfold f_Re_begin_2B at hf
  have o := k.1
  have g := k.2.1
  have kr := k.2.2.1
  refine J_iload_n o dX11_begin_2 rfl ?_
  refine J_bipush o dX11_begin_3 (by decide) ?_
  refine J_icmp_ge 22 o dX11_begin_5 (by decide) r_x1 rl8 (fun c1 => ?_) (fun c2 => ?_)
  · have hf := ite_t c1 hf
    refine J_aload_n o dX11_begin_22 rfl ?_
    refine J_iconst o dX11_begin_23 ?_
    refine J_putZ o g dX11_begin_24 fpX11_186 kB_1 rfl rfl (Or.inl rfl) ?_
    have hf := bl_out hf
    have hf := some_inj hf
    subst hf
    exact hc _ _  dX11_begin_27
  · have hf := ite_f c2 hf
    refine J_aload_n o dX11_begin_8 rfl ?_
    refine J_getF (true, 24) o g dX11_begin_9 flX11_77 kB_1 rfl rfl rfl ?_
    refine J_iload_n o dX11_begin_12 rfl ?_
    refine J_bipush o dX11_begin_13 (by decide) ?_
    obtain ⟨g4, hf⟩ := gd_some hf
    refine J_iast o g dX11_begin_15 kB_24 (fxB_40 _) r_x1 zB_24 g4 rlm9 ?_
    have hf := bl_out hf
    have hf := bl_out hf
    refine J_iinc o dX11_begin_16 rfl ?_
    refine J_goto 2 o dX11_begin_19 (by decide) ?_
    have hf := some_inj hf
    subst hf
    exact hc (R_wr _) 
noncomputable def f_Re_begin_2 (w : World) (x1 : Int) : Option World :=
  lp (fun z : (World × Int) => f_Re_begin_2B z.1 z.2) (w, x1)
theorem t_Re_begin_2 {E : EE} {K : KT} {l : Launch} {H0 : Heap} (k : Kof TB E K l cX11_begin RX11 rm_Re_begin) {w : World} {x1 : Int}  {out : World} (hf : f_Re_begin_2 w x1 = some out) (hc : (fun out : World => RetV TB E K H0 cX11_begin out) out) : HW_Re_begin_2 E K H0  (w, x1) := by
  unfold f_Re_begin_2 at hf
  refine lp_ind (P := HW_Re_begin_2 E K H0 ) hf ?_
  intro z o hs h1 h2
  intro r_x1
  refine t_Re_begin_2B k r_x1 hs ?_
  cases o with
  | inl z' => exact h1 z' rfl
  | inr r' => rw [h2 r' rfl]; exact hc
noncomputable def f_Re_begin (w : World) : Option World :=
  f_Re_begin_2 w 0
theorem t_Re_begin_0 {E : EE} {K : KT} {l : Launch} {H0 : Heap} (k : Kof TB E K l cX11_begin RX11 rm_Re_begin) {w : World} {o1 : Option Value}  {out : World} (hf : f_Re_begin w = some out) (hc : (fun out : World => RetV TB E K H0 cX11_begin out) out) : Jj K (WdT TB E H0) w 0 [some (rf E.ad 1), o1] [] := by
  unfold f_Re_begin at hf
  have o := k.1
  have g := k.2.1
  have kr := k.2.2.1
  refine J_iconst o dX11_begin_0 ?_
  refine J_istore_n o dX11_begin_1 (Nat.le_of_ble_eq_true rfl) ?_
  exact (t_Re_begin_2 k  hf hc) rl0 
theorem c_Re_begin {E : EE} {l : Launch} (hI : Inj TB E) {w : World}  {out : World} (hf : f_Re_begin w = some out) : ConV TB E l yX11_begin (WS yX11_begin cX11_begin 2 none) rm_Re_begin [rf E.ad 1] w out :=
  con_V (by decide +kernel) rfl (Nat.le_of_ble_eq_true rfl) (c1s_r c1s_0 (Nat.le_of_ble_eq_true rfl)).1 ⟨rfl, rfl⟩ hI TnB (fun K H0 k hret => t_Re_begin_0 k  hf hret)
abbrev rm_Re_unbind : Room := { frames := 1, cells := 0, slots := 0, locals := 24 }
def HW_Re_unbind_2 (E : EE) (K : KT) (H0 : Heap) (x1 : Int) : (World × Int) → Prop := fun z => R32 z.2 → Jj K (WdT TB E H0) z.1 2 [some (rf E.ad 1), some (.int (ii x1)), some (.int (ii z.2))] []
noncomputable def f_Re_unbind_34 (w : World) (x1 : Int) (x2 : Int) (s1 : Int) (s2 : Int) : Option ((World × Int) ⊕ World) :=
  gd (0 ≤ s1 ∧ s1 < 8) (bl (up w 24 s1.toNat s2) fun w2 => bl (wr (x2 + 1)) fun n3 => some (Sum.inl (w2, n3)))
theorem t_Re_unbind_34 {E : EE} {K : KT} {l : Launch} {H0 : Heap} (k : Kof TB E K l cX11_unbind RX11 rm_Re_unbind) {w : World} {x1 : Int} {x2 : Int} {s1 : Int} {s2 : Int} (r_x1 : R32 x1) (r_x2 : R32 x2) (r_s1 : R32 s1) (r_s2 : R32 s2) {out : ((World × Int) ⊕ World)} (hf : f_Re_unbind_34 w x1 x2 s1 s2 = some out) (hc : (Sum.elim (HW_Re_unbind_2 E K H0 x1) (fun out : World => RetV TB E K H0 cX11_unbind out)) out) : Jj K (WdT TB E H0) w 34 [some (rf E.ad 1), some (.int (ii x1)), some (.int (ii x2))] [.int (ii s2), .int (ii s1), rf E.ad 24] := by
  unfold f_Re_unbind_34 at hf
  have o := k.1
  have g := k.2.1
  have kr := k.2.2.1
  obtain ⟨g1, hf⟩ := gd_some hf
  refine J_iast o g dX11_unbind_34 kB_24 (fxB_40 _) r_s1 zB_24 g1 r_s2 ?_
  have hf := bl_out hf
  have hf := bl_out hf
  refine J_iinc o dX11_unbind_35 rfl ?_
  refine J_goto 2 o dX11_unbind_38 (by decide) ?_
  have hf := some_inj hf
  subst hf
  exact hc (R_wr _) 
noncomputable def f_Re_unbind_2B (w : World) (x1 : Int) (x2 : Int) : Option ((World × Int) ⊕ World) :=
  if 8 ≤ x2 then (some (Sum.inr w)) else (gd (0 ≤ x2 ∧ x2 < 8) (if (w 24 x2.toNat) = x1 then (f_Re_unbind_34 w x1 x2 x2 (-9)) else (gd (0 ≤ x2 ∧ x2 < 8) (f_Re_unbind_34 w x1 x2 x2 (w 24 x2.toNat)))))
theorem t_Re_unbind_2B {E : EE} {K : KT} {l : Launch} {H0 : Heap} (k : Kof TB E K l cX11_unbind RX11 rm_Re_unbind) {w : World} {x1 : Int} {x2 : Int} (r_x1 : R32 x1) (r_x2 : R32 x2) {out : ((World × Int) ⊕ World)} (hf : f_Re_unbind_2B w x1 x2 = some out) (hc : (Sum.elim (HW_Re_unbind_2 E K H0 x1) (fun out : World => RetV TB E K H0 cX11_unbind out)) out) : Jj K (WdT TB E H0) w 2 [some (rf E.ad 1), some (.int (ii x1)), some (.int (ii x2))] [] := by
  unfold f_Re_unbind_2B at hf
  have o := k.1
  have g := k.2.1
  have kr := k.2.2.1
  refine J_iload_n o dX11_unbind_2 rfl ?_
  refine J_bipush o dX11_unbind_3 (by decide) ?_
  refine J_icmp_ge 41 o dX11_unbind_5 (by decide) r_x2 rl8 (fun c1 => ?_) (fun c2 => ?_)
  · have hf := ite_t c1 hf
    have hf := some_inj hf
    subst hf
    exact hc _ _  dX11_unbind_41
  · have hf := ite_f c2 hf
    refine J_aload_n o dX11_unbind_8 rfl ?_
    refine J_getF (true, 24) o g dX11_unbind_9 flX11_77 kB_1 rfl rfl rfl ?_
    refine J_iload_n o dX11_unbind_12 rfl ?_
    refine J_aload_n o dX11_unbind_13 rfl ?_
    refine J_getF (true, 24) o g dX11_unbind_14 flX11_77 kB_1 rfl rfl rfl ?_
    refine J_iload_n o dX11_unbind_17 rfl ?_
    obtain ⟨g3, hf⟩ := gd_some hf
    refine J_iald o g dX11_unbind_18 kB_24 r_x2 zB_24 g3 (fun q4 => ?_)
    refine J_iload_n o dX11_unbind_19 rfl ?_
    refine J_icmp_ne 28 o dX11_unbind_20 (by decide) q4 r_x1 (fun c5 => ?_) (fun c6 => ?_)
    · have hf := ite_f c5 hf
      refine J_aload_n o dX11_unbind_28 rfl ?_
      refine J_getF (true, 24) o g dX11_unbind_29 flX11_77 kB_1 rfl rfl rfl ?_
      refine J_iload_n o dX11_unbind_32 rfl ?_
      obtain ⟨g7, hf⟩ := gd_some hf
      refine J_iald o g dX11_unbind_33 kB_24 r_x2 zB_24 g7 (fun q8 => ?_)
      exact t_Re_unbind_34 k r_x1 r_x2 r_x2 q8 hf hc
    · have hf := ite_t c6 hf
      refine J_bipush o dX11_unbind_23 (by decide) ?_
      refine J_goto 34 o dX11_unbind_25 (by decide) ?_
      exact t_Re_unbind_34 k r_x1 r_x2 r_x2 rlm9 hf hc
noncomputable def f_Re_unbind_2 (w : World) (x1 : Int) (x2 : Int) : Option World :=
  lp (fun z : (World × Int) => f_Re_unbind_2B z.1 x1 z.2) (w, x2)
theorem t_Re_unbind_2 {E : EE} {K : KT} {l : Launch} {H0 : Heap} (k : Kof TB E K l cX11_unbind RX11 rm_Re_unbind) {w : World} {x1 : Int} {x2 : Int} (r_x1 : R32 x1) {out : World} (hf : f_Re_unbind_2 w x1 x2 = some out) (hc : (fun out : World => RetV TB E K H0 cX11_unbind out) out) : HW_Re_unbind_2 E K H0 x1 (w, x2) := by
  unfold f_Re_unbind_2 at hf
  refine lp_ind (P := HW_Re_unbind_2 E K H0 x1) hf ?_
  intro z o hs h1 h2
  intro r_x2
  refine t_Re_unbind_2B k r_x1 r_x2 hs ?_
  cases o with
  | inl z' => exact h1 z' rfl
  | inr r' => rw [h2 r' rfl]; exact hc
noncomputable def f_Re_unbind (w : World) (x1 : Int) : Option World :=
  f_Re_unbind_2 w x1 0
theorem t_Re_unbind_0 {E : EE} {K : KT} {l : Launch} {H0 : Heap} (k : Kof TB E K l cX11_unbind RX11 rm_Re_unbind) {w : World} {x1 : Int} {o2 : Option Value} (r_x1 : R32 x1) {out : World} (hf : f_Re_unbind w x1 = some out) (hc : (fun out : World => RetV TB E K H0 cX11_unbind out) out) : Jj K (WdT TB E H0) w 0 [some (rf E.ad 1), some (.int (ii x1)), o2] [] := by
  unfold f_Re_unbind at hf
  have o := k.1
  have g := k.2.1
  have kr := k.2.2.1
  refine J_iconst o dX11_unbind_0 ?_
  refine J_istore_n o dX11_unbind_1 (Nat.le_of_ble_eq_true rfl) ?_
  exact (t_Re_unbind_2 k r_x1 hf hc) rl0 
theorem c_Re_unbind {E : EE} {l : Launch} (hI : Inj TB E) {w : World} {x1 : Int} (r_x1 : R32 x1) {out : World} (hf : f_Re_unbind w x1 = some out) : ConV TB E l yX11_unbind (WS yX11_unbind cX11_unbind 3 none) rm_Re_unbind [rf E.ad 1, .int (ii x1)] w out :=
  con_V (by decide +kernel) rfl (Nat.le_of_ble_eq_true rfl) (c1s_r (c1s_i c1s_0 (Nat.le_of_ble_eq_true rfl)) (Nat.le_of_ble_eq_true rfl)).1 ⟨rfl, rfl⟩ hI TnB (fun K H0 k hret => t_Re_unbind_0 k r_x1 hf hret)
abbrev rm_Re_isBound : Room := { frames := 1, cells := 0, slots := 0, locals := 24 }
noncomputable def f_Re_isBound_17 (w : World) : Option Int :=
  some 1
theorem t_Re_isBound_17 {E : EE} {K : KT} {l : Launch} {H0 : Heap} (k : Kof TB E K l cX11_isBound RX11 rm_Re_isBound) {w : World} {o0 o1 : Option Value}  {out : Int} (hf : f_Re_isBound_17 w = some out) (hc : (fun out : Int => RetZ TB E K H0 cX11_isBound w out) out) : Jj K (WdT TB E H0) w 17 [o0, o1] [] := by
  unfold f_Re_isBound_17 at hf
  have o := k.1
  have g := k.2.1
  have kr := k.2.2.1
  refine J_iconst o dX11_isBound_17 ?_
  refine J_goto 22 o dX11_isBound_18 (by decide) ?_
  have hf := some_inj hf
  subst hf
  exact hc _ _ (Or.inr rfl) dX11_isBound_22
noncomputable def f_Re_isBound (w : World) (x1 : Int) : Option Int :=
  if 0 ≤ x1 then (f_Re_isBound_17 w) else (gd (0 ≤ wr ((-1) - x1) ∧ wr ((-1) - x1) < 8) (if (w 24 (wr ((-1) - x1)).toNat) = (-9) then (some 0) else (f_Re_isBound_17 w)))
theorem t_Re_isBound_0 {E : EE} {K : KT} {l : Launch} {H0 : Heap} (k : Kof TB E K l cX11_isBound RX11 rm_Re_isBound) {w : World} {x1 : Int} (r_x1 : R32 x1) {out : Int} (hf : f_Re_isBound w x1 = some out) (hc : (fun out : Int => RetZ TB E K H0 cX11_isBound w out) out) : Jj K (WdT TB E H0) w 0 [some (rf E.ad 1), some (.int (ii x1))] [] := by
  unfold f_Re_isBound at hf
  have o := k.1
  have g := k.2.1
  have kr := k.2.2.1
  refine J_iload_n o dX11_isBound_0 rfl ?_
  refine J_if_ge 17 o dX11_isBound_1 (by decide) r_x1 (fun c1 => ?_) (fun c2 => ?_)
  · have hf := ite_t c1 hf
    exact t_Re_isBound_17 k  hf hc
  · have hf := ite_f c2 hf
    refine J_aload_n o dX11_isBound_4 rfl ?_
    refine J_getF (true, 24) o g dX11_isBound_5 flX11_77 kB_1 rfl rfl rfl ?_
    refine J_iconst o dX11_isBound_8 ?_
    refine J_iload_n o dX11_isBound_9 rfl ?_
    refine J_isub o dX11_isBound_10 ?_
    obtain ⟨g3, hf⟩ := gd_some hf
    refine J_iald o g dX11_isBound_11 kB_24 (R_wr _) zB_24 g3 (fun q4 => ?_)
    refine J_bipush o dX11_isBound_12 (by decide) ?_
    refine J_icmp_eq 21 o dX11_isBound_14 (by decide) q4 rlm9 (fun c5 => ?_) (fun c6 => ?_)
    · have hf := ite_t c5 hf
      refine J_iconst o dX11_isBound_21 ?_
      have hf := some_inj hf
      subst hf
      exact hc _ _ (Or.inl rfl) dX11_isBound_22
    · have hf := ite_f c6 hf
      exact t_Re_isBound_17 k  hf hc
theorem c_Re_isBound {E : EE} {l : Launch} (hI : Inj TB E) {w : World} {x1 : Int} (r_x1 : R32 x1) {out : Int} (hf : f_Re_isBound w x1 = some out) : ConI TB E l yX11_isBound (WS yX11_isBound cX11_isBound 2 (some .boolean)) rm_Re_isBound [rf E.ad 1, .int (ii x1)] w w out :=
  con_Z (by decide +kernel) rfl (Nat.le_of_ble_eq_true rfl) (c1s_r (c1s_i c1s_0 (Nat.le_of_ble_eq_true rfl)) (Nat.le_of_ble_eq_true rfl)).1 ⟨rfl, rfl⟩ hI TnB (fun K H0 k hret => t_Re_isBound_0 k r_x1 hf hret)
abbrev rm_Re_valueOf : Room := { frames := 1, cells := 0, slots := 0, locals := 24 }
noncomputable def f_Re_valueOf (w : World) (x1 : Int) : Option Int :=
  if x1 < 0 then (gd (0 ≤ wr ((-1) - x1) ∧ wr ((-1) - x1) < 8) (some (w 23 (wr ((-1) - x1)).toNat))) else (some x1)
theorem t_Re_valueOf_0 {E : EE} {K : KT} {l : Launch} {H0 : Heap} (k : Kof TB E K l cX11_valueOf RX11 rm_Re_valueOf) {w : World} {x1 : Int} (r_x1 : R32 x1) {out : Int} (hf : f_Re_valueOf w x1 = some out) (hc : (fun out : Int => RetI TB E K H0 cX11_valueOf w out) out) : Jj K (WdT TB E H0) w 0 [some (rf E.ad 1), some (.int (ii x1))] [] := by
  unfold f_Re_valueOf at hf
  have o := k.1
  have g := k.2.1
  have kr := k.2.2.1
  refine J_iload_n o dX11_valueOf_0 rfl ?_
  refine J_if_lt 8 o dX11_valueOf_1 (by decide) r_x1 (fun c1 => ?_) (fun c2 => ?_)
  · have hf := ite_t c1 hf
    refine J_aload_n o dX11_valueOf_8 rfl ?_
    refine J_getF (true, 23) o g dX11_valueOf_9 flX11_74 kB_1 rfl rfl rfl ?_
    refine J_iconst o dX11_valueOf_12 ?_
    refine J_iload_n o dX11_valueOf_13 rfl ?_
    refine J_isub o dX11_valueOf_14 ?_
    obtain ⟨g3, hf⟩ := gd_some hf
    refine J_iald o g dX11_valueOf_15 kB_23 (R_wr _) zB_23 g3 (fun q4 => ?_)
    have hf := some_inj hf
    subst hf
    exact hc _ _ q4 dX11_valueOf_16
  · have hf := ite_f c2 hf
    refine J_iload_n o dX11_valueOf_4 rfl ?_
    refine J_goto 16 o dX11_valueOf_5 (by decide) ?_
    have hf := some_inj hf
    subst hf
    exact hc _ _ r_x1 dX11_valueOf_16
theorem c_Re_valueOf {E : EE} {l : Launch} (hI : Inj TB E) {w : World} {x1 : Int} (r_x1 : R32 x1) {out : Int} (hf : f_Re_valueOf w x1 = some out) : ConI TB E l yX11_valueOf (WS yX11_valueOf cX11_valueOf 2 (some .int)) rm_Re_valueOf [rf E.ad 1, .int (ii x1)] w w out :=
  con_I (by decide +kernel) rfl (Nat.le_of_ble_eq_true rfl) (c1s_r (c1s_i c1s_0 (Nat.le_of_ble_eq_true rfl)) (Nat.le_of_ble_eq_true rfl)).1 ⟨rfl, rfl⟩ hI TnB (fun K H0 k hret => t_Re_valueOf_0 k r_x1 hf hret)
abbrev rm_Re_match : Room := { frames := 2, cells := 0, slots := 0, locals := 45 }
noncomputable def f_Re_match (w : World) (x1 : Int) (x2 : Int) (x3 : Int) : Option (World × Int) :=
  bnd (f_Re_isBound w x2) fun v2 => if v2 = 0 then (gd (0 ≤ wr ((-1) - x2) ∧ wr ((-1) - x2) < 8) (bl (up w 23 (wr ((-1) - x2)).toNat x3) fun w7 => gd (0 ≤ wr ((-1) - x2) ∧ wr ((-1) - x2) < 8) (bl (up w7 24 (wr ((-1) - x2)).toNat x1) fun w9 => some (w9, 1)))) else (bnd (f_Re_valueOf w x2) fun v11 => if v11 = x3 then (some (w, 1)) else (some (w, 0)))
theorem t_Re_match_0 {E : EE} {K : KT} {l : Launch} {H0 : Heap} (k : Kof TB E K l cX11_match RX11 rm_Re_match) {w : World} {x1 : Int} {x2 : Int} {x3 : Int} (r_x1 : R32 x1) (r_x2 : R32 x2) (r_x3 : R32 x3) {out : (World × Int)} (hf : f_Re_match w x1 x2 x3 = some out) (hc : (fun out : (World × Int) => RetZ TB E K H0 cX11_match out.1 out.2) out) : Jj K (WdT TB E H0) w 0 [some (rf E.ad 1), some (.int (ii x1)), some (.int (ii x2)), some (.int (ii x3))] [] := by
  unfold f_Re_match at hf
  have o := k.1
  have g := k.2.1
  have kr := k.2.2.1
  refine J_aload_n o dX11_match_0 rfl ?_
  refine J_iload_n o dX11_match_1 rfl ?_
  obtain ⟨v2, e1, hf⟩ := bnd_some hf
  refine J_vI o g kr dX11_match_2 lkX11_190 ml_Re_isBound vl_Re_isBound ⟨rfl, rfl, Nat.le_of_ble_eq_true rfl, Nat.le_of_ble_eq_true rfl⟩ (c_Re_isBound g.2.1 r_x2 e1) kB_1 rfl ⟨by decide, by decide⟩ rfl rfl c1s_0 (fun q3 => ?_)
  refine J_if_eq 23 o dX11_match_5 (by decide) q3 (fun c4 => ?_) (fun c5 => ?_)
  · have hf := ite_t c4 hf
    refine J_aload_n o dX11_match_23 rfl ?_
    refine J_getF (true, 23) o g dX11_match_24 flX11_74 kB_1 rfl rfl rfl ?_
    refine J_iconst o dX11_match_27 ?_
    refine J_iload_n o dX11_match_28 rfl ?_
    refine J_isub o dX11_match_29 ?_
    refine J_iload_n o dX11_match_30 rfl ?_
    obtain ⟨g6, hf⟩ := gd_some hf
    refine J_iast o g dX11_match_31 kB_23 (fxB_40 _) (R_wr _) zB_23 g6 r_x3 ?_
    have hf := bl_out hf
    refine J_aload_n o dX11_match_32 rfl ?_
    refine J_getF (true, 24) o g dX11_match_33 flX11_77 kB_1 rfl rfl rfl ?_
    refine J_iconst o dX11_match_36 ?_
    refine J_iload_n o dX11_match_37 rfl ?_
    refine J_isub o dX11_match_38 ?_
    refine J_iload_n o dX11_match_39 rfl ?_
    obtain ⟨g8, hf⟩ := gd_some hf
    refine J_iast o g dX11_match_40 kB_24 (fxB_40 _) (R_wr _) zB_24 g8 r_x1 ?_
    have hf := bl_out hf
    refine J_iconst o dX11_match_41 ?_
    have hf := some_inj hf
    subst hf
    exact hc _ _ (Or.inr rfl) dX11_match_42
  · have hf := ite_f c5 hf
    refine J_aload_n o dX11_match_8 rfl ?_
    refine J_iload_n o dX11_match_9 rfl ?_
    obtain ⟨v11, e10, hf⟩ := bnd_some hf
    refine J_vI o g kr dX11_match_10 lkX11_193 ml_Re_valueOf vl_Re_valueOf ⟨rfl, rfl, Nat.le_of_ble_eq_true rfl, Nat.le_of_ble_eq_true rfl⟩ (c_Re_valueOf g.2.1 r_x2 e10) kB_1 rfl ⟨by decide, by decide⟩ rfl rfl c1s_0 (fun q12 => ?_)
    refine J_iload_n o dX11_match_13 rfl ?_
    refine J_icmp_ne 21 o dX11_match_14 (by decide) q12 r_x3 (fun c13 => ?_) (fun c14 => ?_)
    · have hf := ite_f c13 hf
      refine J_iconst o dX11_match_21 ?_
      have hf := some_inj hf
      subst hf
      exact hc _ _ (Or.inl rfl) dX11_match_22
    · have hf := ite_t c14 hf
      refine J_iconst o dX11_match_17 ?_
      refine J_goto 22 o dX11_match_18 (by decide) ?_
      have hf := some_inj hf
      subst hf
      exact hc _ _ (Or.inr rfl) dX11_match_22
theorem c_Re_match {E : EE} {l : Launch} (hI : Inj TB E) {w : World} {x1 : Int} {x2 : Int} {x3 : Int} (r_x1 : R32 x1) (r_x2 : R32 x2) (r_x3 : R32 x3) {out : (World × Int)} (hf : f_Re_match w x1 x2 x3 = some out) : ConI TB E l yX11_match (WS yX11_match cX11_match 4 (some .boolean)) rm_Re_match [rf E.ad 1, .int (ii x1), .int (ii x2), .int (ii x3)] w out.1 out.2 :=
  con_Z (by decide +kernel) rfl (Nat.le_of_ble_eq_true rfl) (c1s_r (c1s_i (c1s_i (c1s_i c1s_0 (Nat.le_of_ble_eq_true rfl)) (Nat.le_of_ble_eq_true rfl)) (Nat.le_of_ble_eq_true rfl)) (Nat.le_of_ble_eq_true rfl)).1 ⟨rfl, rfl⟩ hI TnB (fun K H0 k hret => t_Re_match_0 k r_x1 r_x2 r_x3 hf hret)
abbrev rm_Re_fits : Room := { frames := 3, cells := 0, slots := 0, locals := 68 }
def HW_Re_fits_31 (E : EE) (K : KT) (H0 : Heap) (x1 : Int) (x2 : Int) (x3 : Int) (x4 : Int) : (World × Int × Int) → Prop := fun z => R32 z.2.1 → R32 z.2.2 → Jj K (WdT TB E H0) z.1 31 [some (rf E.ad 1), some (.int (ii x1)), some (.int (ii x2)), some (.int (ii x3)), some (.int (ii x4)), some (.int (ii z.2.1)), some (.int (ii z.2.2))] []
noncomputable def f_Re_fits_93 (w : World) (x1 : Int) (x5 : Int) : Option (World × Int) :=
  if x5 = 0 then (bnd (f_Re_unbind w x1) fun v5 => gd (x5 = 0 ∨ x5 = 1) (some (v5, x5))) else (gd (x5 = 0 ∨ x5 = 1) (some (w, x5)))
theorem t_Re_fits_93 {E : EE} {K : KT} {l : Launch} {H0 : Heap} (k : Kof TB E K l cX11_fits RX11 rm_Re_fits) {w : World} {x1 : Int} {x5 : Int} {o2 o3 o4 o6 : Option Value} (r_x1 : R32 x1) (r_x5 : R32 x5) {out : (World × Int)} (hf : f_Re_fits_93 w x1 x5 = some out) (hc : (fun out : (World × Int) => RetZ TB E K H0 cX11_fits out.1 out.2) out) : Jj K (WdT TB E H0) w 93 [some (rf E.ad 1), some (.int (ii x1)), o2, o3, o4, some (.int (ii x5)), o6] [] := by
  unfold f_Re_fits_93 at hf
  have o := k.1
  have g := k.2.1
  have kr := k.2.2.1
  refine J_iload o dX11_fits_93 rfl ?_
  refine J_if_ne 103 o dX11_fits_95 (by decide) r_x5 (fun c1 => ?_) (fun c2 => ?_)
  · have hf := ite_f c1 hf
    refine J_iload o dX11_fits_103 rfl ?_
    obtain ⟨g3, hf⟩ := gd_some hf
    have hf := some_inj hf
    subst hf
    exact hc _ _ g3 dX11_fits_105
  · have hf := ite_t c2 hf
    refine J_aload_n o dX11_fits_98 rfl ?_
    refine J_iload_n o dX11_fits_99 rfl ?_
    obtain ⟨v5, e4, hf⟩ := bnd_some hf
    refine J_vV o g kr dX11_fits_100 lkX11_199 ml_Re_unbind vl_Re_unbind ⟨rfl, rfl, Nat.le_of_ble_eq_true rfl, Nat.le_of_ble_eq_true rfl⟩ (c_Re_unbind g.2.1 r_x1 e4) kB_1 rfl ⟨by decide, by decide⟩ rfl rfl c1s_0 ?_
    refine J_iload o dX11_fits_103 rfl ?_
    obtain ⟨g7, hf⟩ := gd_some hf
    have hf := some_inj hf
    subst hf
    exact hc _ _ g7 dX11_fits_105
noncomputable def f_Re_fits_31B (w : World) (x1 : Int) (x2 : Int) (x3 : Int) (x4 : Int) (x5 : Int) (x6 : Int) : Option ((World × Int × Int) ⊕ (World × Int)) :=
  if x5 = 0 then (bnd (f_Re_fits_93 w x1 x5) fun y3 => some (Sum.inr y3)) else (gd (0 ≤ x2 ∧ x2 < 95) (gd (0 ≤ w 18 x2.toNat ∧ w 18 x2.toNat < 10) (if (w 3 (w 18 x2.toNat).toNat) ≤ x6 then (bnd (f_Re_fits_93 w x1 x5) fun y10 => some (Sum.inr y10)) else (gd (0 ≤ wr ((wr (3 * x2)) + x6) ∧ wr ((wr (3 * x2)) + x6) < 285) (gd (0 ≤ wr ((wr (3 * (wr ((wr (50 * x3)) + x4)))) + x6) ∧ wr ((wr (3 * (wr ((wr (50 * x3)) + x4)))) + x6) < 750) (bnd (f_Re_match w x1 (w 19 (wr ((wr (3 * x2)) + x6)).toNat) (w 22 (wr ((wr (3 * (wr ((wr (50 * x3)) + x4)))) + x6)).toNat)) fun v16 => bl (wr (x6 + 1)) fun n18 => some (Sum.inl (v16.1, v16.2, n18))))))))
theorem t_Re_fits_31B {E : EE} {K : KT} {l : Launch} {H0 : Heap} (k : Kof TB E K l cX11_fits RX11 rm_Re_fits) {w : World} {x1 : Int} {x2 : Int} {x3 : Int} {x4 : Int} {x5 : Int} {x6 : Int} (r_x1 : R32 x1) (r_x2 : R32 x2) (r_x3 : R32 x3) (r_x4 : R32 x4) (r_x5 : R32 x5) (r_x6 : R32 x6) {out : ((World × Int × Int) ⊕ (World × Int))} (hf : f_Re_fits_31B w x1 x2 x3 x4 x5 x6 = some out) (hc : (Sum.elim (HW_Re_fits_31 E K H0 x1 x2 x3 x4) (fun out : (World × Int) => RetZ TB E K H0 cX11_fits out.1 out.2)) out) : Jj K (WdT TB E H0) w 31 [some (rf E.ad 1), some (.int (ii x1)), some (.int (ii x2)), some (.int (ii x3)), some (.int (ii x4)), some (.int (ii x5)), some (.int (ii x6))] [] := by
  unfold f_Re_fits_31B at hf
  have o := k.1
  have g := k.2.1
  have kr := k.2.2.1
  refine J_iload o dX11_fits_31 rfl ?_
  refine J_if_eq 93 o dX11_fits_33 (by decide) r_x5 (fun c1 => ?_) (fun c2 => ?_)
  · have hf := ite_t c1 hf
    obtain ⟨y3, hf1, hf⟩ := bnd_some hf
    have hf := some_inj hf
    subst hf
    exact t_Re_fits_93 k r_x1 r_x5 hf1 hc
  · have hf := ite_f c2 hf
    refine J_iload o dX11_fits_36 rfl ?_
    refine J_aload_n o dX11_fits_38 rfl ?_
    refine J_getF (true, 3) o g dX11_fits_39 flX11_13 kB_1 rfl rfl rfl ?_
    refine J_aload_n o dX11_fits_42 rfl ?_
    refine J_getF (true, 18) o g dX11_fits_43 flX11_59 kB_1 rfl rfl rfl ?_
    refine J_iload_n o dX11_fits_46 rfl ?_
    obtain ⟨g4, hf⟩ := gd_some hf
    refine J_iald o g dX11_fits_47 kB_18 r_x2 zB_18 g4 (fun q5 => ?_)
    obtain ⟨g6, hf⟩ := gd_some hf
    refine J_iald o g dX11_fits_48 kB_3 q5 zB_3 g6 (fun q7 => ?_)
    refine J_icmp_ge 93 o dX11_fits_49 (by decide) r_x6 q7 (fun c8 => ?_) (fun c9 => ?_)
    · have hf := ite_t c8 hf
      obtain ⟨y10, hf1, hf⟩ := bnd_some hf
      have hf := some_inj hf
      subst hf
      exact t_Re_fits_93 k r_x1 r_x5 hf1 hc
    · have hf := ite_f c9 hf
      refine J_aload_n o dX11_fits_52 rfl ?_
      refine J_iload_n o dX11_fits_53 rfl ?_
      refine J_aload_n o dX11_fits_54 rfl ?_
      refine J_getF (true, 19) o g dX11_fits_55 flX11_62 kB_1 rfl rfl rfl ?_
      refine J_iconst o dX11_fits_58 ?_
      refine J_iload_n o dX11_fits_59 rfl ?_
      refine J_imul o dX11_fits_60 ?_
      refine J_iload o dX11_fits_61 rfl ?_
      refine J_iadd o dX11_fits_63 ?_
      obtain ⟨g11, hf⟩ := gd_some hf
      refine J_iald o g dX11_fits_64 kB_19 (R_wr _) zB_19 g11 (fun q12 => ?_)
      refine J_aload_n o dX11_fits_65 rfl ?_
      refine J_getF (true, 22) o g dX11_fits_66 flX11_71 kB_1 rfl rfl rfl ?_
      refine J_iconst o dX11_fits_69 ?_
      refine J_bipush o dX11_fits_70 (by decide) ?_
      refine J_iload_n o dX11_fits_72 rfl ?_
      refine J_imul o dX11_fits_73 ?_
      refine J_iload o dX11_fits_74 rfl ?_
      refine J_iadd o dX11_fits_76 ?_
      refine J_imul o dX11_fits_77 ?_
      refine J_iload o dX11_fits_78 rfl ?_
      refine J_iadd o dX11_fits_80 ?_
      obtain ⟨g13, hf⟩ := gd_some hf
      refine J_iald o g dX11_fits_81 kB_22 (R_wr _) zB_22 g13 (fun q14 => ?_)
      obtain ⟨v16, e15, hf⟩ := bnd_some hf
      refine J_vI o g kr dX11_fits_82 lkX11_196 ml_Re_match vl_Re_match ⟨rfl, rfl, Nat.le_of_ble_eq_true rfl, Nat.le_of_ble_eq_true rfl⟩ (c_Re_match g.2.1 r_x1 q12 q14 e15) kB_1 rfl ⟨by decide, by decide⟩ rfl rfl c1s_0 (fun q17 => ?_)
      refine J_istore o dX11_fits_85 (Nat.le_of_ble_eq_true rfl) ?_
      have hf := bl_out hf
      refine J_iinc o dX11_fits_87 rfl ?_
      refine J_goto 31 o dX11_fits_90 (by decide) ?_
      have hf := some_inj hf
      subst hf
      exact hc q17 (R_wr _) 
noncomputable def f_Re_fits_31 (w : World) (x1 : Int) (x2 : Int) (x3 : Int) (x4 : Int) (x5 : Int) (x6 : Int) : Option (World × Int) :=
  lp (fun z : (World × Int × Int) => f_Re_fits_31B z.1 x1 x2 x3 x4 z.2.1 z.2.2) (w, x5, x6)
theorem t_Re_fits_31 {E : EE} {K : KT} {l : Launch} {H0 : Heap} (k : Kof TB E K l cX11_fits RX11 rm_Re_fits) {w : World} {x1 : Int} {x2 : Int} {x3 : Int} {x4 : Int} {x5 : Int} {x6 : Int} (r_x1 : R32 x1) (r_x2 : R32 x2) (r_x3 : R32 x3) (r_x4 : R32 x4) {out : (World × Int)} (hf : f_Re_fits_31 w x1 x2 x3 x4 x5 x6 = some out) (hc : (fun out : (World × Int) => RetZ TB E K H0 cX11_fits out.1 out.2) out) : HW_Re_fits_31 E K H0 x1 x2 x3 x4 (w, x5, x6) := by
  unfold f_Re_fits_31 at hf
  refine lp_ind (P := HW_Re_fits_31 E K H0 x1 x2 x3 x4) hf ?_
  intro z o hs h1 h2
  intro r_x5 r_x6
  refine t_Re_fits_31B k r_x1 r_x2 r_x3 r_x4 r_x5 r_x6 hs ?_
  cases o with
  | inl z' => exact h1 z' rfl
  | inr r' => rw [h2 r' rfl]; exact hc
noncomputable def f_Re_fits_26 (w : World) (x1 : Int) (x2 : Int) (x3 : Int) (x4 : Int) (s0 : Int) : Option (World × Int) :=
  f_Re_fits_31 w x1 x2 x3 x4 s0 0
theorem t_Re_fits_26 {E : EE} {K : KT} {l : Launch} {H0 : Heap} (k : Kof TB E K l cX11_fits RX11 rm_Re_fits) {w : World} {x1 : Int} {x2 : Int} {x3 : Int} {x4 : Int} {s0 : Int} {o5 o6 : Option Value} (r_x1 : R32 x1) (r_x2 : R32 x2) (r_x3 : R32 x3) (r_x4 : R32 x4) (r_s0 : R32 s0) {out : (World × Int)} (hf : f_Re_fits_26 w x1 x2 x3 x4 s0 = some out) (hc : (fun out : (World × Int) => RetZ TB E K H0 cX11_fits out.1 out.2) out) : Jj K (WdT TB E H0) w 26 [some (rf E.ad 1), some (.int (ii x1)), some (.int (ii x2)), some (.int (ii x3)), some (.int (ii x4)), o5, o6] [.int (ii s0)] := by
  unfold f_Re_fits_26 at hf
  have o := k.1
  have g := k.2.1
  have kr := k.2.2.1
  refine J_istore o dX11_fits_26 (Nat.le_of_ble_eq_true rfl) ?_
  refine J_iconst o dX11_fits_28 ?_
  refine J_istore o dX11_fits_29 (Nat.le_of_ble_eq_true rfl) ?_
  exact (t_Re_fits_31 k r_x1 r_x2 r_x3 r_x4 hf hc) r_s0 rl0 
noncomputable def f_Re_fits (w : World) (x1 : Int) (x2 : Int) (x3 : Int) (x4 : Int) : Option (World × Int) :=
  gd (0 ≤ wr ((wr (50 * x3)) + x4) ∧ wr ((wr (50 * x3)) + x4) < 250) (gd (0 ≤ x2 ∧ x2 < 95) (if (w 21 (wr ((wr (50 * x3)) + x4)).toNat) = (w 18 x2.toNat) then (f_Re_fits_26 w x1 x2 x3 x4 1) else (f_Re_fits_26 w x1 x2 x3 x4 0)))
theorem t_Re_fits_0 {E : EE} {K : KT} {l : Launch} {H0 : Heap} (k : Kof TB E K l cX11_fits RX11 rm_Re_fits) {w : World} {x1 : Int} {x2 : Int} {x3 : Int} {x4 : Int} {o5 o6 : Option Value} (r_x1 : R32 x1) (r_x2 : R32 x2) (r_x3 : R32 x3) (r_x4 : R32 x4) {out : (World × Int)} (hf : f_Re_fits w x1 x2 x3 x4 = some out) (hc : (fun out : (World × Int) => RetZ TB E K H0 cX11_fits out.1 out.2) out) : Jj K (WdT TB E H0) w 0 [some (rf E.ad 1), some (.int (ii x1)), some (.int (ii x2)), some (.int (ii x3)), some (.int (ii x4)), o5, o6] [] := by
  unfold f_Re_fits at hf
  have o := k.1
  have g := k.2.1
  have kr := k.2.2.1
  refine J_aload_n o dX11_fits_0 rfl ?_
  refine J_getF (true, 21) o g dX11_fits_1 flX11_68 kB_1 rfl rfl rfl ?_
  refine J_bipush o dX11_fits_4 (by decide) ?_
  refine J_iload_n o dX11_fits_6 rfl ?_
  refine J_imul o dX11_fits_7 ?_
  refine J_iload o dX11_fits_8 rfl ?_
  refine J_iadd o dX11_fits_10 ?_
  obtain ⟨g1, hf⟩ := gd_some hf
  refine J_iald o g dX11_fits_11 kB_21 (R_wr _) zB_21 g1 (fun q2 => ?_)
  refine J_aload_n o dX11_fits_12 rfl ?_
  refine J_getF (true, 18) o g dX11_fits_13 flX11_59 kB_1 rfl rfl rfl ?_
  refine J_iload_n o dX11_fits_16 rfl ?_
  obtain ⟨g3, hf⟩ := gd_some hf
  refine J_iald o g dX11_fits_17 kB_18 r_x2 zB_18 g3 (fun q4 => ?_)
  refine J_icmp_ne 25 o dX11_fits_18 (by decide) q2 q4 (fun c5 => ?_) (fun c6 => ?_)
  · have hf := ite_f c5 hf
    refine J_iconst o dX11_fits_25 ?_
    exact t_Re_fits_26 k r_x1 r_x2 r_x3 r_x4 rl0 hf hc
  · have hf := ite_t c6 hf
    refine J_iconst o dX11_fits_21 ?_
    refine J_goto 26 o dX11_fits_22 (by decide) ?_
    exact t_Re_fits_26 k r_x1 r_x2 r_x3 r_x4 rl1 hf hc
theorem c_Re_fits {E : EE} {l : Launch} (hI : Inj TB E) {w : World} {x1 : Int} {x2 : Int} {x3 : Int} {x4 : Int} (r_x1 : R32 x1) (r_x2 : R32 x2) (r_x3 : R32 x3) (r_x4 : R32 x4) {out : (World × Int)} (hf : f_Re_fits w x1 x2 x3 x4 = some out) : ConI TB E l yX11_fits (WS yX11_fits cX11_fits 7 (some .boolean)) rm_Re_fits [rf E.ad 1, .int (ii x1), .int (ii x2), .int (ii x3), .int (ii x4)] w out.1 out.2 :=
  con_Z (by decide +kernel) rfl (Nat.le_of_ble_eq_true rfl) (c1s_r (c1s_i (c1s_i (c1s_i (c1s_i c1s_0 (Nat.le_of_ble_eq_true rfl)) (Nat.le_of_ble_eq_true rfl)) (Nat.le_of_ble_eq_true rfl)) (Nat.le_of_ble_eq_true rfl)) (Nat.le_of_ble_eq_true rfl)).1 ⟨rfl, rfl⟩ hI TnB (fun K H0 k hret => t_Re_fits_0 k r_x1 r_x2 r_x3 r_x4 hf hret)
abbrev rm_Re_has : Room := { frames := 2, cells := 0, slots := 0, locals := 45 }
def HW_Re_has_5 (E : EE) (K : KT) (H0 : Heap) (w : World) (x1 : Int) (x2 : Int) : (Int × Int) → Prop := fun z => R32 z.1 → R32 z.2 → ∀ o5 o6 : Option Value, Jj K (WdT TB E H0) w 5 [some (rf E.ad 1), some (.int (ii x1)), some (.int (ii x2)), some (.int (ii z.1)), some (.int (ii z.2)), o5, o6] []
def HW_Re_has_47 (E : EE) (K : KT) (H0 : Heap) (w : World) (x1 : Int) (x2 : Int) (x3 : Int) (x4 : Int) : (Int × Int) → Prop := fun z => R32 z.1 → R32 z.2 → Jj K (WdT TB E H0) w 47 [some (rf E.ad 1), some (.int (ii x1)), some (.int (ii x2)), some (.int (ii x3)), some (.int (ii x4)), some (.int (ii z.1)), some (.int (ii z.2))] []
noncomputable def f_Re_has_130 (w : World) (x1 : Int) (x2 : Int) (x4 : Int) (s0 : Int) : Option ((Int × Int) ⊕ Int) :=
  bl (wr (x4 + 1)) fun n1 => some (Sum.inl (s0, n1))
theorem t_Re_has_130 {E : EE} {K : KT} {l : Launch} {H0 : Heap} (k : Kof TB E K l cX11_has RX11 rm_Re_has) {w : World} {x1 : Int} {x2 : Int} {x4 : Int} {s0 : Int} {o3 o5 o6 : Option Value} (r_x1 : R32 x1) (r_x2 : R32 x2) (r_x4 : R32 x4) (r_s0 : R32 s0) {out : ((Int × Int) ⊕ Int)} (hf : f_Re_has_130 w x1 x2 x4 s0 = some out) (hc : (Sum.elim (HW_Re_has_5 E K H0 w x1 x2) (fun out : Int => RetZ TB E K H0 cX11_has w out)) out) : Jj K (WdT TB E H0) w 130 [some (rf E.ad 1), some (.int (ii x1)), some (.int (ii x2)), o3, some (.int (ii x4)), o5, o6] [.int (ii s0)] := by
  unfold f_Re_has_130 at hf
  have o := k.1
  have g := k.2.1
  have kr := k.2.2.1
  refine J_istore_n o dX11_has_130 (Nat.le_of_ble_eq_true rfl) ?_
  have hf := bl_out hf
  refine J_iinc o dX11_has_131 rfl ?_
  refine J_goto 5 o dX11_has_134 (by decide) ?_
  have hf := some_inj hf
  subst hf
  exact hc r_s0 (R_wr _) _ _
noncomputable def f_Re_has_125 (w : World) (x1 : Int) (x2 : Int) (x4 : Int) : Option ((Int × Int) ⊕ Int) :=
  f_Re_has_130 w x1 x2 x4 1
theorem t_Re_has_125 {E : EE} {K : KT} {l : Launch} {H0 : Heap} (k : Kof TB E K l cX11_has RX11 rm_Re_has) {w : World} {x1 : Int} {x2 : Int} {x4 : Int} {o3 o5 o6 : Option Value} (r_x1 : R32 x1) (r_x2 : R32 x2) (r_x4 : R32 x4) {out : ((Int × Int) ⊕ Int)} (hf : f_Re_has_125 w x1 x2 x4 = some out) (hc : (Sum.elim (HW_Re_has_5 E K H0 w x1 x2) (fun out : Int => RetZ TB E K H0 cX11_has w out)) out) : Jj K (WdT TB E H0) w 125 [some (rf E.ad 1), some (.int (ii x1)), some (.int (ii x2)), o3, some (.int (ii x4)), o5, o6] [] := by
  unfold f_Re_has_125 at hf
  have o := k.1
  have g := k.2.1
  have kr := k.2.2.1
  refine J_iconst o dX11_has_125 ?_
  refine J_goto 130 o dX11_has_126 (by decide) ?_
  exact t_Re_has_130 k r_x1 r_x2 r_x4 rl1 hf hc
noncomputable def f_Re_has_116 (w : World) (x1 : Int) (x2 : Int) (x3 : Int) (x4 : Int) (x5 : Int) : Option ((Int × Int) ⊕ Int) :=
  if x3 = 0 then (if x5 = 0 then (f_Re_has_130 w x1 x2 x4 0) else (f_Re_has_125 w x1 x2 x4)) else (f_Re_has_125 w x1 x2 x4)
theorem t_Re_has_116 {E : EE} {K : KT} {l : Launch} {H0 : Heap} (k : Kof TB E K l cX11_has RX11 rm_Re_has) {w : World} {x1 : Int} {x2 : Int} {x3 : Int} {x4 : Int} {x5 : Int} {o6 : Option Value} (r_x1 : R32 x1) (r_x2 : R32 x2) (r_x3 : R32 x3) (r_x4 : R32 x4) (r_x5 : R32 x5) {out : ((Int × Int) ⊕ Int)} (hf : f_Re_has_116 w x1 x2 x3 x4 x5 = some out) (hc : (Sum.elim (HW_Re_has_5 E K H0 w x1 x2) (fun out : Int => RetZ TB E K H0 cX11_has w out)) out) : Jj K (WdT TB E H0) w 116 [some (rf E.ad 1), some (.int (ii x1)), some (.int (ii x2)), some (.int (ii x3)), some (.int (ii x4)), some (.int (ii x5)), o6] [] := by
  unfold f_Re_has_116 at hf
  have o := k.1
  have g := k.2.1
  have kr := k.2.2.1
  refine J_iload_n o dX11_has_116 rfl ?_
  refine J_if_ne 125 o dX11_has_117 (by decide) r_x3 (fun c1 => ?_) (fun c2 => ?_)
  · have hf := ite_f c1 hf
    exact t_Re_has_125 k r_x1 r_x2 r_x4 hf hc
  · have hf := ite_t c2 hf
    refine J_iload o dX11_has_120 rfl ?_
    refine J_if_eq 129 o dX11_has_122 (by decide) r_x5 (fun c3 => ?_) (fun c4 => ?_)
    · have hf := ite_t c3 hf
      refine J_iconst o dX11_has_129 ?_
      exact t_Re_has_130 k r_x1 r_x2 r_x4 rl0 hf hc
    · have hf := ite_f c4 hf
      exact t_Re_has_125 k r_x1 r_x2 r_x4 hf hc
noncomputable def f_Re_has_108 (w : World) (x1 : Int) (x2 : Int) (x3 : Int) (x4 : Int) (x6 : Int) (s0 : Int) : Option ((Int × Int) ⊕ ((Int × Int) ⊕ Int)) :=
  bl (wr (x6 + 1)) fun n1 => some (Sum.inl (s0, n1))
theorem t_Re_has_108 {E : EE} {K : KT} {l : Launch} {H0 : Heap} (k : Kof TB E K l cX11_has RX11 rm_Re_has) {w : World} {x1 : Int} {x2 : Int} {x3 : Int} {x4 : Int} {x6 : Int} {s0 : Int} {o5 : Option Value} (r_x1 : R32 x1) (r_x2 : R32 x2) (r_x3 : R32 x3) (r_x4 : R32 x4) (r_x6 : R32 x6) (r_s0 : R32 s0) {out : ((Int × Int) ⊕ ((Int × Int) ⊕ Int))} (hf : f_Re_has_108 w x1 x2 x3 x4 x6 s0 = some out) (hc : (Sum.elim (HW_Re_has_47 E K H0 w x1 x2 x3 x4) (Sum.elim (HW_Re_has_5 E K H0 w x1 x2) (fun out : Int => RetZ TB E K H0 cX11_has w out))) out) : Jj K (WdT TB E H0) w 108 [some (rf E.ad 1), some (.int (ii x1)), some (.int (ii x2)), some (.int (ii x3)), some (.int (ii x4)), o5, some (.int (ii x6))] [.int (ii s0)] := by
  unfold f_Re_has_108 at hf
  have o := k.1
  have g := k.2.1
  have kr := k.2.2.1
  refine J_istore o dX11_has_108 (Nat.le_of_ble_eq_true rfl) ?_
  have hf := bl_out hf
  refine J_iinc o dX11_has_110 rfl ?_
  refine J_goto 47 o dX11_has_113 (by decide) ?_
  have hf := some_inj hf
  subst hf
  exact hc r_s0 (R_wr _) 
noncomputable def f_Re_has_47B (w : World) (x1 : Int) (x2 : Int) (x3 : Int) (x4 : Int) (x5 : Int) (x6 : Int) : Option ((Int × Int) ⊕ ((Int × Int) ⊕ Int)) :=
  if x5 = 0 then (bnd (f_Re_has_116 w x1 x2 x3 x4 x5) fun y3 => some (Sum.inr y3)) else (gd (0 ≤ x1 ∧ x1 < 95) (gd (0 ≤ w 18 x1.toNat ∧ w 18 x1.toNat < 10) (if (w 3 (w 18 x1.toNat).toNat) ≤ x6 then (bnd (f_Re_has_116 w x1 x2 x3 x4 x5) fun y10 => some (Sum.inr y10)) else (gd (0 ≤ wr ((wr (3 * (wr ((wr (50 * x2)) + x4)))) + x6) ∧ wr ((wr (3 * (wr ((wr (50 * x2)) + x4)))) + x6) < 750) (gd (0 ≤ wr ((wr (3 * x1)) + x6) ∧ wr ((wr (3 * x1)) + x6) < 285) (bnd (f_Re_valueOf w (w 19 (wr ((wr (3 * x1)) + x6)).toNat)) fun v16 => if (w 22 (wr ((wr (3 * (wr ((wr (50 * x2)) + x4)))) + x6)).toNat) = v16 then (f_Re_has_108 w x1 x2 x3 x4 x6 1) else (f_Re_has_108 w x1 x2 x3 x4 x6 0)))))))
theorem t_Re_has_47B {E : EE} {K : KT} {l : Launch} {H0 : Heap} (k : Kof TB E K l cX11_has RX11 rm_Re_has) {w : World} {x1 : Int} {x2 : Int} {x3 : Int} {x4 : Int} {x5 : Int} {x6 : Int} (r_x1 : R32 x1) (r_x2 : R32 x2) (r_x3 : R32 x3) (r_x4 : R32 x4) (r_x5 : R32 x5) (r_x6 : R32 x6) {out : ((Int × Int) ⊕ ((Int × Int) ⊕ Int))} (hf : f_Re_has_47B w x1 x2 x3 x4 x5 x6 = some out) (hc : (Sum.elim (HW_Re_has_47 E K H0 w x1 x2 x3 x4) (Sum.elim (HW_Re_has_5 E K H0 w x1 x2) (fun out : Int => RetZ TB E K H0 cX11_has w out))) out) : Jj K (WdT TB E H0) w 47 [some (rf E.ad 1), some (.int (ii x1)), some (.int (ii x2)), some (.int (ii x3)), some (.int (ii x4)), some (.int (ii x5)), some (.int (ii x6))] [] := by
  unfold f_Re_has_47B at hf
  have o := k.1
  have g := k.2.1
  have kr := k.2.2.1
  refine J_iload o dX11_has_47 rfl ?_
  refine J_if_eq 116 o dX11_has_49 (by decide) r_x5 (fun c1 => ?_) (fun c2 => ?_)
  · have hf := ite_t c1 hf
    obtain ⟨y3, hf1, hf⟩ := bnd_some hf
    have hf := some_inj hf
    subst hf
    exact t_Re_has_116 k r_x1 r_x2 r_x3 r_x4 r_x5 hf1 hc
  · have hf := ite_f c2 hf
    refine J_iload o dX11_has_52 rfl ?_
    refine J_aload_n o dX11_has_54 rfl ?_
    refine J_getF (true, 3) o g dX11_has_55 flX11_13 kB_1 rfl rfl rfl ?_
    refine J_aload_n o dX11_has_58 rfl ?_
    refine J_getF (true, 18) o g dX11_has_59 flX11_59 kB_1 rfl rfl rfl ?_
    refine J_iload_n o dX11_has_62 rfl ?_
    obtain ⟨g4, hf⟩ := gd_some hf
    refine J_iald o g dX11_has_63 kB_18 r_x1 zB_18 g4 (fun q5 => ?_)
    obtain ⟨g6, hf⟩ := gd_some hf
    refine J_iald o g dX11_has_64 kB_3 q5 zB_3 g6 (fun q7 => ?_)
    refine J_icmp_ge 116 o dX11_has_65 (by decide) r_x6 q7 (fun c8 => ?_) (fun c9 => ?_)
    · have hf := ite_t c8 hf
      obtain ⟨y10, hf1, hf⟩ := bnd_some hf
      have hf := some_inj hf
      subst hf
      exact t_Re_has_116 k r_x1 r_x2 r_x3 r_x4 r_x5 hf1 hc
    · have hf := ite_f c9 hf
      refine J_aload_n o dX11_has_68 rfl ?_
      refine J_getF (true, 22) o g dX11_has_69 flX11_71 kB_1 rfl rfl rfl ?_
      refine J_iconst o dX11_has_72 ?_
      refine J_bipush o dX11_has_73 (by decide) ?_
      refine J_iload_n o dX11_has_75 rfl ?_
      refine J_imul o dX11_has_76 ?_
      refine J_iload o dX11_has_77 rfl ?_
      refine J_iadd o dX11_has_79 ?_
      refine J_imul o dX11_has_80 ?_
      refine J_iload o dX11_has_81 rfl ?_
      refine J_iadd o dX11_has_83 ?_
      obtain ⟨g11, hf⟩ := gd_some hf
      refine J_iald o g dX11_has_84 kB_22 (R_wr _) zB_22 g11 (fun q12 => ?_)
      refine J_aload_n o dX11_has_85 rfl ?_
      refine J_aload_n o dX11_has_86 rfl ?_
      refine J_getF (true, 19) o g dX11_has_87 flX11_62 kB_1 rfl rfl rfl ?_
      refine J_iconst o dX11_has_90 ?_
      refine J_iload_n o dX11_has_91 rfl ?_
      refine J_imul o dX11_has_92 ?_
      refine J_iload o dX11_has_93 rfl ?_
      refine J_iadd o dX11_has_95 ?_
      obtain ⟨g13, hf⟩ := gd_some hf
      refine J_iald o g dX11_has_96 kB_19 (R_wr _) zB_19 g13 (fun q14 => ?_)
      obtain ⟨v16, e15, hf⟩ := bnd_some hf
      refine J_vI o g kr dX11_has_97 lkX11_193 ml_Re_valueOf vl_Re_valueOf ⟨rfl, rfl, Nat.le_of_ble_eq_true rfl, Nat.le_of_ble_eq_true rfl⟩ (c_Re_valueOf g.2.1 q14 e15) kB_1 rfl ⟨by decide, by decide⟩ rfl rfl (c1s_i c1s_0 (Nat.le_of_ble_eq_true rfl)) (fun q17 => ?_)
      refine J_icmp_ne 107 o dX11_has_100 (by decide) q12 q17 (fun c18 => ?_) (fun c19 => ?_)
      · have hf := ite_f c18 hf
        refine J_iconst o dX11_has_107 ?_
        exact t_Re_has_108 k r_x1 r_x2 r_x3 r_x4 r_x6 rl0 hf hc
      · have hf := ite_t c19 hf
        refine J_iconst o dX11_has_103 ?_
        refine J_goto 108 o dX11_has_104 (by decide) ?_
        exact t_Re_has_108 k r_x1 r_x2 r_x3 r_x4 r_x6 rl1 hf hc
noncomputable def f_Re_has_47 (w : World) (x1 : Int) (x2 : Int) (x3 : Int) (x4 : Int) (x5 : Int) (x6 : Int) : Option ((Int × Int) ⊕ Int) :=
  lp (fun z : (Int × Int) => f_Re_has_47B w x1 x2 x3 x4 z.1 z.2) (x5, x6)
theorem t_Re_has_47 {E : EE} {K : KT} {l : Launch} {H0 : Heap} (k : Kof TB E K l cX11_has RX11 rm_Re_has) {w : World} {x1 : Int} {x2 : Int} {x3 : Int} {x4 : Int} {x5 : Int} {x6 : Int} (r_x1 : R32 x1) (r_x2 : R32 x2) (r_x3 : R32 x3) (r_x4 : R32 x4) {out : ((Int × Int) ⊕ Int)} (hf : f_Re_has_47 w x1 x2 x3 x4 x5 x6 = some out) (hc : (Sum.elim (HW_Re_has_5 E K H0 w x1 x2) (fun out : Int => RetZ TB E K H0 cX11_has w out)) out) : HW_Re_has_47 E K H0 w x1 x2 x3 x4 (x5, x6) := by
  unfold f_Re_has_47 at hf
  refine lp_ind (P := HW_Re_has_47 E K H0 w x1 x2 x3 x4) hf ?_
  intro z o hs h1 h2
  intro r_x5 r_x6
  refine t_Re_has_47B k r_x1 r_x2 r_x3 r_x4 r_x5 r_x6 hs ?_
  cases o with
  | inl z' => exact h1 z' rfl
  | inr r' => rw [h2 r' rfl]; exact hc
noncomputable def f_Re_has_42 (w : World) (x1 : Int) (x2 : Int) (x3 : Int) (x4 : Int) (s0 : Int) : Option ((Int × Int) ⊕ Int) :=
  f_Re_has_47 w x1 x2 x3 x4 s0 0
theorem t_Re_has_42 {E : EE} {K : KT} {l : Launch} {H0 : Heap} (k : Kof TB E K l cX11_has RX11 rm_Re_has) {w : World} {x1 : Int} {x2 : Int} {x3 : Int} {x4 : Int} {s0 : Int} {o5 o6 : Option Value} (r_x1 : R32 x1) (r_x2 : R32 x2) (r_x3 : R32 x3) (r_x4 : R32 x4) (r_s0 : R32 s0) {out : ((Int × Int) ⊕ Int)} (hf : f_Re_has_42 w x1 x2 x3 x4 s0 = some out) (hc : (Sum.elim (HW_Re_has_5 E K H0 w x1 x2) (fun out : Int => RetZ TB E K H0 cX11_has w out)) out) : Jj K (WdT TB E H0) w 42 [some (rf E.ad 1), some (.int (ii x1)), some (.int (ii x2)), some (.int (ii x3)), some (.int (ii x4)), o5, o6] [.int (ii s0)] := by
  unfold f_Re_has_42 at hf
  have o := k.1
  have g := k.2.1
  have kr := k.2.2.1
  refine J_istore o dX11_has_42 (Nat.le_of_ble_eq_true rfl) ?_
  refine J_iconst o dX11_has_44 ?_
  refine J_istore o dX11_has_45 (Nat.le_of_ble_eq_true rfl) ?_
  exact (t_Re_has_47 k r_x1 r_x2 r_x3 r_x4 hf hc) r_s0 rl0 
noncomputable def f_Re_has_5B (w : World) (x1 : Int) (x2 : Int) (x3 : Int) (x4 : Int) : Option ((Int × Int) ⊕ Int) :=
  gd (0 ≤ x2 ∧ x2 < 5) (if (w 20 x2.toNat) ≤ x4 then (gd (x3 = 0 ∨ x3 = 1) (some (Sum.inr x3))) else (gd (0 ≤ wr ((wr (50 * x2)) + x4) ∧ wr ((wr (50 * x2)) + x4) < 250) (gd (0 ≤ x1 ∧ x1 < 95) (if (w 21 (wr ((wr (50 * x2)) + x4)).toNat) = (w 18 x1.toNat) then (f_Re_has_42 w x1 x2 x3 x4 1) else (f_Re_has_42 w x1 x2 x3 x4 0)))))
theorem t_Re_has_5B {E : EE} {K : KT} {l : Launch} {H0 : Heap} (k : Kof TB E K l cX11_has RX11 rm_Re_has) {w : World} {x1 : Int} {x2 : Int} {x3 : Int} {x4 : Int} {o5 o6 : Option Value} (r_x1 : R32 x1) (r_x2 : R32 x2) (r_x3 : R32 x3) (r_x4 : R32 x4) {out : ((Int × Int) ⊕ Int)} (hf : f_Re_has_5B w x1 x2 x3 x4 = some out) (hc : (Sum.elim (HW_Re_has_5 E K H0 w x1 x2) (fun out : Int => RetZ TB E K H0 cX11_has w out)) out) : Jj K (WdT TB E H0) w 5 [some (rf E.ad 1), some (.int (ii x1)), some (.int (ii x2)), some (.int (ii x3)), some (.int (ii x4)), o5, o6] [] := by
  unfold f_Re_has_5B at hf
  have o := k.1
  have g := k.2.1
  have kr := k.2.2.1
  refine J_iload o dX11_has_5 rfl ?_
  refine J_aload_n o dX11_has_7 rfl ?_
  refine J_getF (true, 20) o g dX11_has_8 flX11_65 kB_1 rfl rfl rfl ?_
  refine J_iload_n o dX11_has_11 rfl ?_
  obtain ⟨g1, hf⟩ := gd_some hf
  refine J_iald o g dX11_has_12 kB_20 r_x2 zB_20 g1 (fun q2 => ?_)
  refine J_icmp_ge 137 o dX11_has_13 (by decide) r_x4 q2 (fun c3 => ?_) (fun c4 => ?_)
  · have hf := ite_t c3 hf
    refine J_iload_n o dX11_has_137 rfl ?_
    obtain ⟨g5, hf⟩ := gd_some hf
    have hf := some_inj hf
    subst hf
    exact hc _ _ g5 dX11_has_138
  · have hf := ite_f c4 hf
    refine J_aload_n o dX11_has_16 rfl ?_
    refine J_getF (true, 21) o g dX11_has_17 flX11_68 kB_1 rfl rfl rfl ?_
    refine J_bipush o dX11_has_20 (by decide) ?_
    refine J_iload_n o dX11_has_22 rfl ?_
    refine J_imul o dX11_has_23 ?_
    refine J_iload o dX11_has_24 rfl ?_
    refine J_iadd o dX11_has_26 ?_
    obtain ⟨g6, hf⟩ := gd_some hf
    refine J_iald o g dX11_has_27 kB_21 (R_wr _) zB_21 g6 (fun q7 => ?_)
    refine J_aload_n o dX11_has_28 rfl ?_
    refine J_getF (true, 18) o g dX11_has_29 flX11_59 kB_1 rfl rfl rfl ?_
    refine J_iload_n o dX11_has_32 rfl ?_
    obtain ⟨g8, hf⟩ := gd_some hf
    refine J_iald o g dX11_has_33 kB_18 r_x1 zB_18 g8 (fun q9 => ?_)
    refine J_icmp_ne 41 o dX11_has_34 (by decide) q7 q9 (fun c10 => ?_) (fun c11 => ?_)
    · have hf := ite_f c10 hf
      refine J_iconst o dX11_has_41 ?_
      exact t_Re_has_42 k r_x1 r_x2 r_x3 r_x4 rl0 hf hc
    · have hf := ite_t c11 hf
      refine J_iconst o dX11_has_37 ?_
      refine J_goto 42 o dX11_has_38 (by decide) ?_
      exact t_Re_has_42 k r_x1 r_x2 r_x3 r_x4 rl1 hf hc
noncomputable def f_Re_has_5 (w : World) (x1 : Int) (x2 : Int) (x3 : Int) (x4 : Int) : Option Int :=
  lp (fun z : (Int × Int) => f_Re_has_5B w x1 x2 z.1 z.2) (x3, x4)
theorem t_Re_has_5 {E : EE} {K : KT} {l : Launch} {H0 : Heap} (k : Kof TB E K l cX11_has RX11 rm_Re_has) {w : World} {x1 : Int} {x2 : Int} {x3 : Int} {x4 : Int} (r_x1 : R32 x1) (r_x2 : R32 x2) {out : Int} (hf : f_Re_has_5 w x1 x2 x3 x4 = some out) (hc : (fun out : Int => RetZ TB E K H0 cX11_has w out) out) : HW_Re_has_5 E K H0 w x1 x2 (x3, x4) := by
  unfold f_Re_has_5 at hf
  refine lp_ind (P := HW_Re_has_5 E K H0 w x1 x2) hf ?_
  intro z o hs h1 h2
  intro r_x3 r_x4
  intro o5 o6
  refine t_Re_has_5B k r_x1 r_x2 r_x3 r_x4 hs ?_
  cases o with
  | inl z' => exact h1 z' rfl
  | inr r' => rw [h2 r' rfl]; exact hc
noncomputable def f_Re_has (w : World) (x1 : Int) (x2 : Int) : Option Int :=
  f_Re_has_5 w x1 x2 0 0
theorem t_Re_has_0 {E : EE} {K : KT} {l : Launch} {H0 : Heap} (k : Kof TB E K l cX11_has RX11 rm_Re_has) {w : World} {x1 : Int} {x2 : Int} {o3 o4 o5 o6 : Option Value} (r_x1 : R32 x1) (r_x2 : R32 x2) {out : Int} (hf : f_Re_has w x1 x2 = some out) (hc : (fun out : Int => RetZ TB E K H0 cX11_has w out) out) : Jj K (WdT TB E H0) w 0 [some (rf E.ad 1), some (.int (ii x1)), some (.int (ii x2)), o3, o4, o5, o6] [] := by
  unfold f_Re_has at hf
  have o := k.1
  have g := k.2.1
  have kr := k.2.2.1
  refine J_iconst o dX11_has_0 ?_
  refine J_istore_n o dX11_has_1 (Nat.le_of_ble_eq_true rfl) ?_
  refine J_iconst o dX11_has_2 ?_
  refine J_istore o dX11_has_3 (Nat.le_of_ble_eq_true rfl) ?_
  exact (t_Re_has_5 k r_x1 r_x2 hf hc) rl0 rl0 _ _
theorem c_Re_has {E : EE} {l : Launch} (hI : Inj TB E) {w : World} {x1 : Int} {x2 : Int} (r_x1 : R32 x1) (r_x2 : R32 x2) {out : Int} (hf : f_Re_has w x1 x2 = some out) : ConI TB E l yX11_has (WS yX11_has cX11_has 7 (some .boolean)) rm_Re_has [rf E.ad 1, .int (ii x1), .int (ii x2)] w w out :=
  con_Z (by decide +kernel) rfl (Nat.le_of_ble_eq_true rfl) (c1s_r (c1s_i (c1s_i c1s_0 (Nat.le_of_ble_eq_true rfl)) (Nat.le_of_ble_eq_true rfl)) (Nat.le_of_ble_eq_true rfl)).1 ⟨rfl, rfl⟩ hI TnB (fun K H0 k hret => t_Re_has_0 k r_x1 r_x2 hf hret)
abbrev rm_Re_compares : Room := { frames := 1, cells := 0, slots := 0, locals := 24 }
noncomputable def f_Re_compares (x0 : Int) (x1 : Int) (x2 : Int) : Option Int :=
  if x0 = 0 then (if x1 = x2 then (some 1) else (some 0)) else (if x0 = 1 then (if x1 = x2 then (some 0) else (some 1)) else (if x0 = 2 then (if x2 ≤ x1 then (some 0) else (some 1)) else (if x2 < x1 then (some 0) else (some 1))))
theorem t_Re_compares_0 {E : EE} {K : KT} {l : Launch} {H0 : Heap} (k : Kof TB E K l cX11_compares RX11 rm_Re_compares) {w0 : World} {x0 : Int} {x1 : Int} {x2 : Int} (r_x0 : R32 x0) (r_x1 : R32 x1) (r_x2 : R32 x2) {out : Int} (hf : f_Re_compares x0 x1 x2 = some out) (hc : (fun out : Int => RetZ TB E K H0 cX11_compares w0 out) out) : Jj K (WdT TB E H0) w0 0 [some (.int (ii x0)), some (.int (ii x1)), some (.int (ii x2))] [] := by
  unfold f_Re_compares at hf
  have o := k.1
  have g := k.2.1
  have kr := k.2.2.1
  refine J_iload_n o dX11_compares_0 rfl ?_
  refine J_if_ne 17 o dX11_compares_1 (by decide) r_x0 (fun c1 => ?_) (fun c2 => ?_)
  · have hf := ite_f c1 hf
    refine J_iload_n o dX11_compares_17 rfl ?_
    refine J_iconst o dX11_compares_18 ?_
    refine J_icmp_ne 35 o dX11_compares_19 (by decide) r_x0 rl1 (fun c3 => ?_) (fun c4 => ?_)
    · have hf := ite_f c3 hf
      refine J_iload_n o dX11_compares_35 rfl ?_
      refine J_iconst o dX11_compares_36 ?_
      refine J_icmp_ne 53 o dX11_compares_37 (by decide) r_x0 rl2 (fun c5 => ?_) (fun c6 => ?_)
      · have hf := ite_f c5 hf
        refine J_iload_n o dX11_compares_53 rfl ?_
        refine J_iload_n o dX11_compares_54 rfl ?_
        refine J_icmp_gt 62 o dX11_compares_55 (by decide) r_x1 r_x2 (fun c7 => ?_) (fun c8 => ?_)
        · have hf := ite_t c7 hf
          refine J_iconst o dX11_compares_62 ?_
          have hf := some_inj hf
          subst hf
          exact hc _ _ (Or.inl rfl) dX11_compares_63
        · have hf := ite_f c8 hf
          refine J_iconst o dX11_compares_58 ?_
          refine J_goto 63 o dX11_compares_59 (by decide) ?_
          have hf := some_inj hf
          subst hf
          exact hc _ _ (Or.inr rfl) dX11_compares_63
      · have hf := ite_t c6 hf
        refine J_iload_n o dX11_compares_40 rfl ?_
        refine J_iload_n o dX11_compares_41 rfl ?_
        refine J_icmp_ge 49 o dX11_compares_42 (by decide) r_x1 r_x2 (fun c9 => ?_) (fun c10 => ?_)
        · have hf := ite_t c9 hf
          refine J_iconst o dX11_compares_49 ?_
          refine J_goto 63 o dX11_compares_50 (by decide) ?_
          have hf := some_inj hf
          subst hf
          exact hc _ _ (Or.inl rfl) dX11_compares_63
        · have hf := ite_f c10 hf
          refine J_iconst o dX11_compares_45 ?_
          refine J_goto 63 o dX11_compares_46 (by decide) ?_
          have hf := some_inj hf
          subst hf
          exact hc _ _ (Or.inr rfl) dX11_compares_63
    · have hf := ite_t c4 hf
      refine J_iload_n o dX11_compares_22 rfl ?_
      refine J_iload_n o dX11_compares_23 rfl ?_
      refine J_icmp_eq 31 o dX11_compares_24 (by decide) r_x1 r_x2 (fun c11 => ?_) (fun c12 => ?_)
      · have hf := ite_t c11 hf
        refine J_iconst o dX11_compares_31 ?_
        refine J_goto 63 o dX11_compares_32 (by decide) ?_
        have hf := some_inj hf
        subst hf
        exact hc _ _ (Or.inl rfl) dX11_compares_63
      · have hf := ite_f c12 hf
        refine J_iconst o dX11_compares_27 ?_
        refine J_goto 63 o dX11_compares_28 (by decide) ?_
        have hf := some_inj hf
        subst hf
        exact hc _ _ (Or.inr rfl) dX11_compares_63
  · have hf := ite_t c2 hf
    refine J_iload_n o dX11_compares_4 rfl ?_
    refine J_iload_n o dX11_compares_5 rfl ?_
    refine J_icmp_ne 13 o dX11_compares_6 (by decide) r_x1 r_x2 (fun c13 => ?_) (fun c14 => ?_)
    · have hf := ite_f c13 hf
      refine J_iconst o dX11_compares_13 ?_
      refine J_goto 63 o dX11_compares_14 (by decide) ?_
      have hf := some_inj hf
      subst hf
      exact hc _ _ (Or.inl rfl) dX11_compares_63
    · have hf := ite_t c14 hf
      refine J_iconst o dX11_compares_9 ?_
      refine J_goto 63 o dX11_compares_10 (by decide) ?_
      have hf := some_inj hf
      subst hf
      exact hc _ _ (Or.inr rfl) dX11_compares_63
theorem c_Re_compares {E : EE} {l : Launch} (hI : Inj TB E) {w0 : World} {x0 : Int} {x1 : Int} {x2 : Int} (r_x0 : R32 x0) (r_x1 : R32 x1) (r_x2 : R32 x2) {out : Int} (hf : f_Re_compares x0 x1 x2 = some out) : ConI TB E l yX11_compares (WS yX11_compares cX11_compares 3 (some .boolean)) rm_Re_compares [.int (ii x0), .int (ii x1), .int (ii x2)] w0 w0 out :=
  con_Z (by decide +kernel) rfl (Nat.le_of_ble_eq_true rfl) (c1s_i (c1s_i (c1s_i c1s_0 (Nat.le_of_ble_eq_true rfl)) (Nat.le_of_ble_eq_true rfl)) (Nat.le_of_ble_eq_true rfl)).1 ⟨rfl, rfl⟩ hI TnB (fun K H0 k hret => t_Re_compares_0 k r_x0 r_x1 r_x2 hf hret)
abbrev rm_Re_tries : Room := { frames := 4, cells := 0, slots := 0, locals := 94 }
def HW_Re_tries_22 (E : EE) (K : KT) (H0 : Heap) (x2 : Int) (x3 : Int) (x4 : Int) : World → Prop := fun z => ∀ o1 o5 o6 o7 : Option Value, Jj K (WdT TB E H0) z 22 [some (rf E.ad 1), o1, some (.int (ii x2)), some (.int (ii x3)), some (.int (ii x4)), o5, o6, o7] []
noncomputable def f_Re_tries_215 (w : World) (s1 : Int) (s2 : Int) (s3 : Int) : Option (World × Int) :=
  bnd (f_Re_match w s1 s2 s3) fun v2 => gd (v2.2 = 0 ∨ v2.2 = 1) (some (v2.1, v2.2))
theorem t_Re_tries_215 {E : EE} {K : KT} {l : Launch} {H0 : Heap} (k : Kof TB E K l cX11_tries RX11 rm_Re_tries) {w : World} {s1 : Int} {s2 : Int} {s3 : Int} {o0 o1 o2 o3 o4 o5 o6 o7 : Option Value} (r_s1 : R32 s1) (r_s2 : R32 s2) (r_s3 : R32 s3) {out : (World × Int)} (hf : f_Re_tries_215 w s1 s2 s3 = some out) (hc : (fun out : (World × Int) => RetZ TB E K H0 cX11_tries out.1 out.2) out) : Jj K (WdT TB E H0) w 215 [o0, o1, o2, o3, o4, o5, o6, o7] [.int (ii s3), .int (ii s2), .int (ii s1), rf E.ad 1] := by
  unfold f_Re_tries_215 at hf
  have o := k.1
  have g := k.2.1
  have kr := k.2.2.1
  obtain ⟨v2, e1, hf⟩ := bnd_some hf
  refine J_vI o g kr dX11_tries_215 lkX11_196 ml_Re_match vl_Re_match ⟨rfl, rfl, Nat.le_of_ble_eq_true rfl, Nat.le_of_ble_eq_true rfl⟩ (c_Re_match g.2.1 r_s1 r_s2 r_s3 e1) kB_1 rfl ⟨by decide, by decide⟩ rfl rfl c1s_0 (fun q3 => ?_)
  obtain ⟨g4, hf⟩ := gd_some hf
  have hf := some_inj hf
  subst hf
  exact hc _ _ g4 dX11_tries_218
noncomputable def f_Re_tries_22B (w : World) (x2 : Int) (x3 : Int) (x4 : Int) : Option (World ⊕ (World × Int)) :=
  gd (0 ≤ x2 ∧ x2 < 5) (gd (0 ≤ x3 ∧ x3 < 5) (if (w 20 x3.toNat) ≤ (w 25 x2.toNat) then (some (Sum.inr (w, 0))) else (gd (0 ≤ x2 ∧ x2 < 5) (gd (0 ≤ x2 ∧ x2 < 5) (bl (up w 25 x2.toNat (wr ((w 25 x2.toNat) + 1))) fun w10 => gd (0 ≤ x2 ∧ x2 < 5) (bnd (f_Re_fits w10 x2 x4 x3 (wr ((w10 25 x2.toNat) - 1))) fun v14 => if v14.2 = 0 then (some (Sum.inl v14.1)) else (some (Sum.inr (v14.1, 1)))))))))
theorem t_Re_tries_22B {E : EE} {K : KT} {l : Launch} {H0 : Heap} (k : Kof TB E K l cX11_tries RX11 rm_Re_tries) {w : World} {x2 : Int} {x3 : Int} {x4 : Int} {o1 o5 o6 o7 : Option Value} (r_x2 : R32 x2) (r_x3 : R32 x3) (r_x4 : R32 x4) {out : (World ⊕ (World × Int))} (hf : f_Re_tries_22B w x2 x3 x4 = some out) (hc : (Sum.elim (HW_Re_tries_22 E K H0 x2 x3 x4) (fun out : (World × Int) => RetZ TB E K H0 cX11_tries out.1 out.2)) out) : Jj K (WdT TB E H0) w 22 [some (rf E.ad 1), o1, some (.int (ii x2)), some (.int (ii x3)), some (.int (ii x4)), o5, o6, o7] [] := by
  unfold f_Re_tries_22B at hf
  have o := k.1
  have g := k.2.1
  have kr := k.2.2.1
  refine J_aload_n o dX11_tries_22 rfl ?_
  refine J_getF (true, 25) o g dX11_tries_23 flX11_80 kB_1 rfl rfl rfl ?_
  refine J_iload_n o dX11_tries_26 rfl ?_
  obtain ⟨g1, hf⟩ := gd_some hf
  refine J_iald o g dX11_tries_27 kB_25 r_x2 zB_25 g1 (fun q2 => ?_)
  refine J_aload_n o dX11_tries_28 rfl ?_
  refine J_getF (true, 20) o g dX11_tries_29 flX11_65 kB_1 rfl rfl rfl ?_
  refine J_iload_n o dX11_tries_32 rfl ?_
  obtain ⟨g3, hf⟩ := gd_some hf
  refine J_iald o g dX11_tries_33 kB_20 r_x3 zB_20 g3 (fun q4 => ?_)
  refine J_icmp_ge 68 o dX11_tries_34 (by decide) q2 q4 (fun c5 => ?_) (fun c6 => ?_)
  · have hf := ite_t c5 hf
    refine J_iconst o dX11_tries_68 ?_
    have hf := some_inj hf
    subst hf
    exact hc _ _ (Or.inl rfl) dX11_tries_69
  · have hf := ite_f c6 hf
    refine J_aload_n o dX11_tries_37 rfl ?_
    refine J_getF (true, 25) o g dX11_tries_38 flX11_80 kB_1 rfl rfl rfl ?_
    refine J_iload_n o dX11_tries_41 rfl ?_
    refine J_dup2 o dX11_tries_42 rfl rf_cat ?_
    obtain ⟨g7, hf⟩ := gd_some hf
    refine J_iald o g dX11_tries_43 kB_25 r_x2 zB_25 g7 (fun q8 => ?_)
    refine J_iconst o dX11_tries_44 ?_
    refine J_iadd o dX11_tries_45 ?_
    obtain ⟨g9, hf⟩ := gd_some hf
    refine J_iast o g dX11_tries_46 kB_25 (fxB_40 _) r_x2 zB_25 g9 (R_wr _) ?_
    have hf := bl_out hf
    refine J_aload_n o dX11_tries_47 rfl ?_
    refine J_iload_n o dX11_tries_48 rfl ?_
    refine J_iload o dX11_tries_49 rfl ?_
    refine J_iload_n o dX11_tries_51 rfl ?_
    refine J_aload_n o dX11_tries_52 rfl ?_
    refine J_getF (true, 25) o g dX11_tries_53 flX11_80 kB_1 rfl rfl rfl ?_
    refine J_iload_n o dX11_tries_56 rfl ?_
    obtain ⟨g11, hf⟩ := gd_some hf
    refine J_iald o g dX11_tries_57 kB_25 r_x2 zB_25 g11 (fun q12 => ?_)
    refine J_iconst o dX11_tries_58 ?_
    refine J_isub o dX11_tries_59 ?_
    obtain ⟨v14, e13, hf⟩ := bnd_some hf
    refine J_vI o g kr dX11_tries_60 lkX11_202 ml_Re_fits vl_Re_fits ⟨rfl, rfl, Nat.le_of_ble_eq_true rfl, Nat.le_of_ble_eq_true rfl⟩ (c_Re_fits g.2.1 r_x2 r_x4 r_x3 (R_wr _) e13) kB_1 rfl ⟨by decide, by decide⟩ rfl rfl c1s_0 (fun q15 => ?_)
    refine J_if_eq 22 o dX11_tries_63 (by decide) q15 (fun c16 => ?_) (fun c17 => ?_)
    · have hf := ite_t c16 hf
      have hf := some_inj hf
      subst hf
      exact hc  _ _ _ _
    · have hf := ite_f c17 hf
      refine J_iconst o dX11_tries_66 ?_
      have hf := some_inj hf
      subst hf
      exact hc _ _ (Or.inr rfl) dX11_tries_67
noncomputable def f_Re_tries_22 (w : World) (x2 : Int) (x3 : Int) (x4 : Int) : Option (World × Int) :=
  lp (fun z : World => f_Re_tries_22B z x2 x3 x4) w
theorem t_Re_tries_22 {E : EE} {K : KT} {l : Launch} {H0 : Heap} (k : Kof TB E K l cX11_tries RX11 rm_Re_tries) {w : World} {x2 : Int} {x3 : Int} {x4 : Int} (r_x2 : R32 x2) (r_x3 : R32 x3) (r_x4 : R32 x4) {out : (World × Int)} (hf : f_Re_tries_22 w x2 x3 x4 = some out) (hc : (fun out : (World × Int) => RetZ TB E K H0 cX11_tries out.1 out.2) out) : HW_Re_tries_22 E K H0 x2 x3 x4 w := by
  unfold f_Re_tries_22 at hf
  refine lp_ind (P := HW_Re_tries_22 E K H0 x2 x3 x4) hf ?_
  intro z o hs h1 h2
  intro o1 o5 o6 o7
  refine t_Re_tries_22B k r_x2 r_x3 r_x4 hs ?_
  cases o with
  | inl z' => exact h1 z' rfl
  | inr r' => rw [h2 r' rfl]; exact hc
noncomputable def f_Re_tries (w : World) (x1 : Int) (x2 : Int) (x3 : Int) : Option (World × Int) :=
  bl (wr ((wr (5 * x1)) + x2)) fun n1 => bnd (f_Re_unbind w x2) fun v3 => gd (0 ≤ n1 ∧ n1 < 95) (if (v3 17 n1.toNat) = 0 then (f_Re_tries_22 v3 x2 x3 n1) else (gd (0 ≤ x2 ∧ x2 < 5) (if (v3 25 x2.toNat) ≤ 0 then (gd (0 ≤ x2 ∧ x2 < 5) (bl (up v3 25 x2.toNat 1) fun w14 => gd (0 ≤ wr (3 * n1) ∧ wr (3 * n1) < 285) (bl (w14 19 (wr (3 * n1)).toNat) fun n17 => gd (0 ≤ wr ((wr (3 * n1)) + 1) ∧ wr ((wr (3 * n1)) + 1) < 285) (bl (w14 19 (wr ((wr (3 * n1)) + 1)).toNat) fun n20 => gd (0 ≤ n1 ∧ n1 < 95) (if (w14 17 n1.toNat) = 1 then (bnd (f_Re_has w14 n1 x3) fun v53 => if v53 = 0 then (some (w14, 1)) else (some (w14, 0))) else (gd (0 ≤ n1 ∧ n1 < 95) (if (w14 17 n1.toNat) = 2 then (gd (0 ≤ n1 ∧ n1 < 95) (bnd (f_Re_valueOf w14 n17) fun v43 => bnd (f_Re_valueOf w14 n20) fun v46 => bnd (f_Re_compares (w14 18 n1.toNat) v43 v46) fun v49 => gd (v49 = 0 ∨ v49 = 1) (some (w14, v49)))) else (bnd (f_Re_valueOf w14 n20) fun v30 => gd (0 ≤ wr ((wr (3 * n1)) + 2) ∧ wr ((wr (3 * n1)) + 2) < 285) (bnd (f_Re_valueOf w14 (w14 19 (wr ((wr (3 * n1)) + 2)).toNat)) fun v35 => bl (wr (v30 + v35)) fun n37 => if n37 ≤ 127 then (f_Re_tries_215 w14 x2 n17 n37) else (f_Re_tries_215 w14 x2 n17 127)))))))))) else (some (v3, 0)))))
theorem t_Re_tries_0 {E : EE} {K : KT} {l : Launch} {H0 : Heap} (k : Kof TB E K l cX11_tries RX11 rm_Re_tries) {w : World} {x1 : Int} {x2 : Int} {x3 : Int} {o4 o5 o6 o7 : Option Value} (r_x1 : R32 x1) (r_x2 : R32 x2) (r_x3 : R32 x3) {out : (World × Int)} (hf : f_Re_tries w x1 x2 x3 = some out) (hc : (fun out : (World × Int) => RetZ TB E K H0 cX11_tries out.1 out.2) out) : Jj K (WdT TB E H0) w 0 [some (rf E.ad 1), some (.int (ii x1)), some (.int (ii x2)), some (.int (ii x3)), o4, o5, o6, o7] [] := by
  unfold f_Re_tries at hf
  have o := k.1
  have g := k.2.1
  have kr := k.2.2.1
  refine J_iconst o dX11_tries_0 ?_
  refine J_iload_n o dX11_tries_1 rfl ?_
  refine J_imul o dX11_tries_2 ?_
  refine J_iload_n o dX11_tries_3 rfl ?_
  refine J_iadd o dX11_tries_4 ?_
  refine J_istore o dX11_tries_5 (Nat.le_of_ble_eq_true rfl) ?_
  have hf := bl_out hf
  refine J_aload_n o dX11_tries_7 rfl ?_
  refine J_iload_n o dX11_tries_8 rfl ?_
  obtain ⟨v3, e2, hf⟩ := bnd_some hf
  refine J_vV o g kr dX11_tries_9 lkX11_199 ml_Re_unbind vl_Re_unbind ⟨rfl, rfl, Nat.le_of_ble_eq_true rfl, Nat.le_of_ble_eq_true rfl⟩ (c_Re_unbind g.2.1 r_x2 e2) kB_1 rfl ⟨by decide, by decide⟩ rfl rfl c1s_0 ?_
  refine J_aload_n o dX11_tries_12 rfl ?_
  refine J_getF (true, 17) o g dX11_tries_13 flX11_56 kB_1 rfl rfl rfl ?_
  refine J_iload o dX11_tries_16 rfl ?_
  obtain ⟨g5, hf⟩ := gd_some hf
  refine J_iald o g dX11_tries_18 kB_17 (R_wr _) zB_17 g5 (fun q6 => ?_)
  refine J_if_ne 70 o dX11_tries_19 (by decide) q6 (fun c7 => ?_) (fun c8 => ?_)
  · have hf := ite_f c7 hf
    refine J_aload_n o dX11_tries_70 rfl ?_
    refine J_getF (true, 25) o g dX11_tries_71 flX11_80 kB_1 rfl rfl rfl ?_
    refine J_iload_n o dX11_tries_74 rfl ?_
    obtain ⟨g9, hf⟩ := gd_some hf
    refine J_iald o g dX11_tries_75 kB_25 r_x2 zB_25 g9 (fun q10 => ?_)
    refine J_if_le 81 o dX11_tries_76 (by decide) q10 (fun c11 => ?_) (fun c12 => ?_)
    · have hf := ite_t c11 hf
      refine J_aload_n o dX11_tries_81 rfl ?_
      refine J_getF (true, 25) o g dX11_tries_82 flX11_80 kB_1 rfl rfl rfl ?_
      refine J_iload_n o dX11_tries_85 rfl ?_
      refine J_iconst o dX11_tries_86 ?_
      obtain ⟨g13, hf⟩ := gd_some hf
      refine J_iast o g dX11_tries_87 kB_25 (fxB_40 _) r_x2 zB_25 g13 rl1 ?_
      have hf := bl_out hf
      refine J_aload_n o dX11_tries_88 rfl ?_
      refine J_getF (true, 19) o g dX11_tries_89 flX11_62 kB_1 rfl rfl rfl ?_
      refine J_iconst o dX11_tries_92 ?_
      refine J_iload o dX11_tries_93 rfl ?_
      refine J_imul o dX11_tries_95 ?_
      obtain ⟨g15, hf⟩ := gd_some hf
      refine J_iald o g dX11_tries_96 kB_19 (R_wr _) zB_19 g15 (fun q16 => ?_)
      refine J_istore o dX11_tries_97 (Nat.le_of_ble_eq_true rfl) ?_
      have hf := bl_out hf
      refine J_aload_n o dX11_tries_99 rfl ?_
      refine J_getF (true, 19) o g dX11_tries_100 flX11_62 kB_1 rfl rfl rfl ?_
      refine J_iconst o dX11_tries_103 ?_
      refine J_iload o dX11_tries_104 rfl ?_
      refine J_imul o dX11_tries_106 ?_
      refine J_iconst o dX11_tries_107 ?_
      refine J_iadd o dX11_tries_108 ?_
      obtain ⟨g18, hf⟩ := gd_some hf
      refine J_iald o g dX11_tries_109 kB_19 (R_wr _) zB_19 g18 (fun q19 => ?_)
      refine J_istore o dX11_tries_110 (Nat.le_of_ble_eq_true rfl) ?_
      have hf := bl_out hf
      refine J_aload_n o dX11_tries_112 rfl ?_
      refine J_getF (true, 17) o g dX11_tries_113 flX11_56 kB_1 rfl rfl rfl ?_
      refine J_iload o dX11_tries_116 rfl ?_
      obtain ⟨g21, hf⟩ := gd_some hf
      refine J_iald o g dX11_tries_118 kB_17 (R_wr _) zB_17 g21 (fun q22 => ?_)
      refine J_iconst o dX11_tries_119 ?_
      refine J_icmp_ne 139 o dX11_tries_120 (by decide) q22 rl1 (fun c23 => ?_) (fun c24 => ?_)
      · have hf := ite_f c23 hf
        refine J_aload_n o dX11_tries_139 rfl ?_
        refine J_getF (true, 17) o g dX11_tries_140 flX11_56 kB_1 rfl rfl rfl ?_
        refine J_iload o dX11_tries_143 rfl ?_
        obtain ⟨g25, hf⟩ := gd_some hf
        refine J_iald o g dX11_tries_145 kB_17 (R_wr _) zB_17 g25 (fun q26 => ?_)
        refine J_iconst o dX11_tries_146 ?_
        refine J_icmp_ne 173 o dX11_tries_147 (by decide) q26 rl2 (fun c27 => ?_) (fun c28 => ?_)
        · have hf := ite_f c27 hf
          refine J_aload_n o dX11_tries_173 rfl ?_
          refine J_iload o dX11_tries_174 rfl ?_
          obtain ⟨v30, e29, hf⟩ := bnd_some hf
          refine J_vI o g kr dX11_tries_176 lkX11_193 ml_Re_valueOf vl_Re_valueOf ⟨rfl, rfl, Nat.le_of_ble_eq_true rfl, Nat.le_of_ble_eq_true rfl⟩ (c_Re_valueOf g.2.1 q19 e29) kB_1 rfl ⟨by decide, by decide⟩ rfl rfl c1s_0 (fun q31 => ?_)
          refine J_aload_n o dX11_tries_179 rfl ?_
          refine J_aload_n o dX11_tries_180 rfl ?_
          refine J_getF (true, 19) o g dX11_tries_181 flX11_62 kB_1 rfl rfl rfl ?_
          refine J_iconst o dX11_tries_184 ?_
          refine J_iload o dX11_tries_185 rfl ?_
          refine J_imul o dX11_tries_187 ?_
          refine J_iconst o dX11_tries_188 ?_
          refine J_iadd o dX11_tries_189 ?_
          obtain ⟨g32, hf⟩ := gd_some hf
          refine J_iald o g dX11_tries_190 kB_19 (R_wr _) zB_19 g32 (fun q33 => ?_)
          obtain ⟨v35, e34, hf⟩ := bnd_some hf
          refine J_vI o g kr dX11_tries_191 lkX11_193 ml_Re_valueOf vl_Re_valueOf ⟨rfl, rfl, Nat.le_of_ble_eq_true rfl, Nat.le_of_ble_eq_true rfl⟩ (c_Re_valueOf g.2.1 q33 e34) kB_1 rfl ⟨by decide, by decide⟩ rfl rfl (c1s_i c1s_0 (Nat.le_of_ble_eq_true rfl)) (fun q36 => ?_)
          refine J_iadd o dX11_tries_194 ?_
          refine J_istore o dX11_tries_195 (Nat.le_of_ble_eq_true rfl) ?_
          have hf := bl_out hf
          refine J_aload_n o dX11_tries_197 rfl ?_
          refine J_iload_n o dX11_tries_198 rfl ?_
          refine J_iload o dX11_tries_199 rfl ?_
          refine J_iload o dX11_tries_201 rfl ?_
          refine J_bipush o dX11_tries_203 (by decide) ?_
          refine J_icmp_le 213 o dX11_tries_205 (by decide) (R_wr _) rl127 (fun c38 => ?_) (fun c39 => ?_)
          · have hf := ite_t c38 hf
            refine J_iload o dX11_tries_213 rfl ?_
            exact t_Re_tries_215 k r_x2 q16 (R_wr _) hf hc
          · have hf := ite_f c39 hf
            refine J_bipush o dX11_tries_208 (by decide) ?_
            refine J_goto 215 o dX11_tries_210 (by decide) ?_
            exact t_Re_tries_215 k r_x2 q16 rl127 hf hc
        · have hf := ite_t c28 hf
          refine J_aload_n o dX11_tries_150 rfl ?_
          refine J_getF (true, 18) o g dX11_tries_151 flX11_59 kB_1 rfl rfl rfl ?_
          refine J_iload o dX11_tries_154 rfl ?_
          obtain ⟨g40, hf⟩ := gd_some hf
          refine J_iald o g dX11_tries_156 kB_18 (R_wr _) zB_18 g40 (fun q41 => ?_)
          refine J_aload_n o dX11_tries_157 rfl ?_
          refine J_iload o dX11_tries_158 rfl ?_
          obtain ⟨v43, e42, hf⟩ := bnd_some hf
          refine J_vI o g kr dX11_tries_160 lkX11_193 ml_Re_valueOf vl_Re_valueOf ⟨rfl, rfl, Nat.le_of_ble_eq_true rfl, Nat.le_of_ble_eq_true rfl⟩ (c_Re_valueOf g.2.1 q16 e42) kB_1 rfl ⟨by decide, by decide⟩ rfl rfl (c1s_i c1s_0 (Nat.le_of_ble_eq_true rfl)) (fun q44 => ?_)
          refine J_aload_n o dX11_tries_163 rfl ?_
          refine J_iload o dX11_tries_164 rfl ?_
          obtain ⟨v46, e45, hf⟩ := bnd_some hf
          refine J_vI o g kr dX11_tries_166 lkX11_193 ml_Re_valueOf vl_Re_valueOf ⟨rfl, rfl, Nat.le_of_ble_eq_true rfl, Nat.le_of_ble_eq_true rfl⟩ (c_Re_valueOf g.2.1 q19 e45) kB_1 rfl ⟨by decide, by decide⟩ rfl rfl (c1s_i (c1s_i c1s_0 (Nat.le_of_ble_eq_true rfl)) (Nat.le_of_ble_eq_true rfl)) (fun q47 => ?_)
          obtain ⟨v49, e48, hf⟩ := bnd_some hf
          refine J_sI o g kr dX11_tries_169 lkX11_208 ml_Re_compares mw1574 ⟨rfl, rfl, Nat.le_of_ble_eq_true rfl, Nat.le_of_ble_eq_true rfl⟩ (c_Re_compares g.2.1 q41 q44 q47 e48) rfl rfl c1s_0 (fun q50 => ?_)
          obtain ⟨g51, hf⟩ := gd_some hf
          have hf := some_inj hf
          subst hf
          exact hc _ _ g51 dX11_tries_172
      · have hf := ite_t c24 hf
        refine J_aload_n o dX11_tries_123 rfl ?_
        refine J_iload o dX11_tries_124 rfl ?_
        refine J_iload_n o dX11_tries_126 rfl ?_
        obtain ⟨v53, e52, hf⟩ := bnd_some hf
        refine J_vI o g kr dX11_tries_127 lkX11_205 ml_Re_has vl_Re_has ⟨rfl, rfl, Nat.le_of_ble_eq_true rfl, Nat.le_of_ble_eq_true rfl⟩ (c_Re_has g.2.1 (R_wr _) r_x3 e52) kB_1 rfl ⟨by decide, by decide⟩ rfl rfl c1s_0 (fun q54 => ?_)
        refine J_if_ne 137 o dX11_tries_130 (by decide) q54 (fun c55 => ?_) (fun c56 => ?_)
        · have hf := ite_f c55 hf
          refine J_iconst o dX11_tries_137 ?_
          have hf := some_inj hf
          subst hf
          exact hc _ _ (Or.inl rfl) dX11_tries_138
        · have hf := ite_t c56 hf
          refine J_iconst o dX11_tries_133 ?_
          refine J_goto 138 o dX11_tries_134 (by decide) ?_
          have hf := some_inj hf
          subst hf
          exact hc _ _ (Or.inr rfl) dX11_tries_138
    · have hf := ite_f c12 hf
      refine J_iconst o dX11_tries_79 ?_
      have hf := some_inj hf
      subst hf
      exact hc _ _ (Or.inl rfl) dX11_tries_80
  · have hf := ite_t c8 hf
    exact (t_Re_tries_22 k r_x2 r_x3 (R_wr _) hf hc)  _ _ _ _
theorem c_Re_tries {E : EE} {l : Launch} (hI : Inj TB E) {w : World} {x1 : Int} {x2 : Int} {x3 : Int} (r_x1 : R32 x1) (r_x2 : R32 x2) (r_x3 : R32 x3) {out : (World × Int)} (hf : f_Re_tries w x1 x2 x3 = some out) : ConI TB E l yX11_tries (WS yX11_tries cX11_tries 8 (some .boolean)) rm_Re_tries [rf E.ad 1, .int (ii x1), .int (ii x2), .int (ii x3)] w out.1 out.2 :=
  con_Z (by decide +kernel) rfl (Nat.le_of_ble_eq_true rfl) (c1s_r (c1s_i (c1s_i (c1s_i c1s_0 (Nat.le_of_ble_eq_true rfl)) (Nat.le_of_ble_eq_true rfl)) (Nat.le_of_ble_eq_true rfl)) (Nat.le_of_ble_eq_true rfl)).1 ⟨rfl, rfl⟩ hI TnB (fun K H0 k hret => t_Re_tries_0 k r_x1 r_x2 r_x3 hf hret)
abbrev rm_Re_next : Room := { frames := 5, cells := 0, slots := 0, locals := 121 }
def HW_Re_next_34 (E : EE) (K : KT) (H0 : Heap) (x1 : Int) (x2 : Int) (x3 : Int) : World → Prop := fun z => Jj K (WdT TB E H0) z 34 [some (rf E.ad 1), some (.int (ii x1)), some (.int (ii x2)), some (.int (ii x3))] []
noncomputable def f_Re_next_106 (w : World) : Option (World × Int) :=
  if (w 1 29) < 0 then (some (w, 0)) else (some (w, 1))
theorem t_Re_next_106 {E : EE} {K : KT} {l : Launch} {H0 : Heap} (k : Kof TB E K l cX11_next RX11 rm_Re_next) {w : World} {o1 o2 o3 : Option Value}  {out : (World × Int)} (hf : f_Re_next_106 w = some out) (hc : (fun out : (World × Int) => RetZ TB E K H0 cX11_next out.1 out.2) out) : Jj K (WdT TB E H0) w 106 [some (rf E.ad 1), o1, o2, o3] [] := by
  unfold f_Re_next_106 at hf
  have o := k.1
  have g := k.2.1
  have kr := k.2.2.1
  refine J_aload_n o dX11_next_106 rfl ?_
  refine J_getI o g dX11_next_107 flX11_211 kB_1 rfl (fun q1 => ?_)
  refine J_if_lt 117 o dX11_next_110 (by decide) q1 (fun c2 => ?_) (fun c3 => ?_)
  · have hf := ite_t c2 hf
    refine J_iconst o dX11_next_117 ?_
    have hf := some_inj hf
    subst hf
    exact hc _ _ (Or.inl rfl) dX11_next_118
  · have hf := ite_f c3 hf
    refine J_iconst o dX11_next_113 ?_
    refine J_goto 118 o dX11_next_114 (by decide) ?_
    have hf := some_inj hf
    subst hf
    exact hc _ _ (Or.inr rfl) dX11_next_118
noncomputable def f_Re_next_34B (w : World) (x1 : Int) (x2 : Int) (x3 : Int) : Option (World ⊕ (World × Int)) :=
  if (w 1 29) < 0 then (bnd (f_Re_next_106 w) fun y4 => some (Sum.inr y4)) else (if x2 ≤ (w 1 29) then (bnd (f_Re_next_106 w) fun y8 => some (Sum.inr y8)) else (bnd (f_Re_tries w x1 (w 1 29) x3) fun v11 => if v11.2 = 0 then (bl (up v11.1 1 29 (wr ((v11.1 1 29) - 1))) fun w16 => some (Sum.inl w16)) else (bl (up v11.1 1 29 (wr ((v11.1 1 29) + 1))) fun w18 => if x2 ≤ (w18 1 29) then (some (Sum.inl w18)) else (gd (0 ≤ w18 1 29 ∧ w18 1 29 < 5) (bl (up w18 25 (w18 1 29).toNat 0) fun w24 => some (Sum.inl w24))))))
theorem t_Re_next_34B {E : EE} {K : KT} {l : Launch} {H0 : Heap} (k : Kof TB E K l cX11_next RX11 rm_Re_next) {w : World} {x1 : Int} {x2 : Int} {x3 : Int} (r_x1 : R32 x1) (r_x2 : R32 x2) (r_x3 : R32 x3) {out : (World ⊕ (World × Int))} (hf : f_Re_next_34B w x1 x2 x3 = some out) (hc : (Sum.elim (HW_Re_next_34 E K H0 x1 x2 x3) (fun out : (World × Int) => RetZ TB E K H0 cX11_next out.1 out.2)) out) : Jj K (WdT TB E H0) w 34 [some (rf E.ad 1), some (.int (ii x1)), some (.int (ii x2)), some (.int (ii x3))] [] := by
  unfold f_Re_next_34B at hf
  have o := k.1
  have g := k.2.1
  have kr := k.2.2.1
  refine J_aload_n o dX11_next_34 rfl ?_
  refine J_getI o g dX11_next_35 flX11_211 kB_1 rfl (fun q1 => ?_)
  refine J_if_lt 106 o dX11_next_38 (by decide) q1 (fun c2 => ?_) (fun c3 => ?_)
  · have hf := ite_t c2 hf
    obtain ⟨y4, hf1, hf⟩ := bnd_some hf
    have hf := some_inj hf
    subst hf
    exact t_Re_next_106 k  hf1 hc
  · have hf := ite_f c3 hf
    refine J_aload_n o dX11_next_41 rfl ?_
    refine J_getI o g dX11_next_42 flX11_211 kB_1 rfl (fun q5 => ?_)
    refine J_iload_n o dX11_next_45 rfl ?_
    refine J_icmp_ge 106 o dX11_next_46 (by decide) q5 r_x2 (fun c6 => ?_) (fun c7 => ?_)
    · have hf := ite_t c6 hf
      obtain ⟨y8, hf1, hf⟩ := bnd_some hf
      have hf := some_inj hf
      subst hf
      exact t_Re_next_106 k  hf1 hc
    · have hf := ite_f c7 hf
      refine J_aload_n o dX11_next_49 rfl ?_
      refine J_iload_n o dX11_next_50 rfl ?_
      refine J_aload_n o dX11_next_51 rfl ?_
      refine J_getI o g dX11_next_52 flX11_211 kB_1 rfl (fun q9 => ?_)
      refine J_iload_n o dX11_next_55 rfl ?_
      obtain ⟨v11, e10, hf⟩ := bnd_some hf
      refine J_vI o g kr dX11_next_56 lkX11_214 ml_Re_tries vl_Re_tries ⟨rfl, rfl, Nat.le_of_ble_eq_true rfl, Nat.le_of_ble_eq_true rfl⟩ (c_Re_tries g.2.1 r_x1 q9 r_x3 e10) kB_1 rfl ⟨by decide, by decide⟩ rfl rfl c1s_0 (fun q12 => ?_)
      refine J_if_eq 93 o dX11_next_59 (by decide) q12 (fun c13 => ?_) (fun c14 => ?_)
      · have hf := ite_t c13 hf
        refine J_aload_n o dX11_next_93 rfl ?_
        refine J_dup o dX11_next_94 rf_cat ?_
        refine J_getI o g dX11_next_95 flX11_211 kB_1 rfl (fun q15 => ?_)
        refine J_iconst o dX11_next_98 ?_
        refine J_isub o dX11_next_99 ?_
        refine J_putI o g dX11_next_100 fpX11_211 kB_1 rfl rfl (R_wr _) ?_
        have hf := bl_out hf
        refine J_goto 34 o dX11_next_103 (by decide) ?_
        have hf := some_inj hf
        subst hf
        exact hc  
      · have hf := ite_f c14 hf
        refine J_aload_n o dX11_next_62 rfl ?_
        refine J_dup o dX11_next_63 rf_cat ?_
        refine J_getI o g dX11_next_64 flX11_211 kB_1 rfl (fun q17 => ?_)
        refine J_iconst o dX11_next_67 ?_
        refine J_iadd o dX11_next_68 ?_
        refine J_putI o g dX11_next_69 fpX11_211 kB_1 rfl rfl (R_wr _) ?_
        have hf := bl_out hf
        refine J_aload_n o dX11_next_72 rfl ?_
        refine J_getI o g dX11_next_73 flX11_211 kB_1 rfl (fun q19 => ?_)
        refine J_iload_n o dX11_next_76 rfl ?_
        refine J_icmp_ge 34 o dX11_next_77 (by decide) q19 r_x2 (fun c20 => ?_) (fun c21 => ?_)
        · have hf := ite_t c20 hf
          have hf := some_inj hf
          subst hf
          exact hc  
        · have hf := ite_f c21 hf
          refine J_aload_n o dX11_next_80 rfl ?_
          refine J_getF (true, 25) o g dX11_next_81 flX11_80 kB_1 rfl rfl rfl ?_
          refine J_aload_n o dX11_next_84 rfl ?_
          refine J_getI o g dX11_next_85 flX11_211 kB_1 rfl (fun q22 => ?_)
          refine J_iconst o dX11_next_88 ?_
          obtain ⟨g23, hf⟩ := gd_some hf
          refine J_iast o g dX11_next_89 kB_25 (fxB_40 _) q22 zB_25 g23 rl0 ?_
          have hf := bl_out hf
          refine J_goto 34 o dX11_next_90 (by decide) ?_
          have hf := some_inj hf
          subst hf
          exact hc  
noncomputable def f_Re_next_34 (w : World) (x1 : Int) (x2 : Int) (x3 : Int) : Option (World × Int) :=
  lp (fun z : World => f_Re_next_34B z x1 x2 x3) w
theorem t_Re_next_34 {E : EE} {K : KT} {l : Launch} {H0 : Heap} (k : Kof TB E K l cX11_next RX11 rm_Re_next) {w : World} {x1 : Int} {x2 : Int} {x3 : Int} (r_x1 : R32 x1) (r_x2 : R32 x2) (r_x3 : R32 x3) {out : (World × Int)} (hf : f_Re_next_34 w x1 x2 x3 = some out) (hc : (fun out : (World × Int) => RetZ TB E K H0 cX11_next out.1 out.2) out) : HW_Re_next_34 E K H0 x1 x2 x3 w := by
  unfold f_Re_next_34 at hf
  refine lp_ind (P := HW_Re_next_34 E K H0 x1 x2 x3) hf ?_
  intro z o hs h1 h2
  refine t_Re_next_34B k r_x1 r_x2 r_x3 hs ?_
  cases o with
  | inl z' => exact h1 z' rfl
  | inr r' => rw [h2 r' rfl]; exact hc
noncomputable def f_Re_next (w : World) (x1 : Int) (x2 : Int) (x3 : Int) : Option (World × Int) :=
  if (w 1 30) = 0 then (bl (up w 1 30 1) fun w4 => bl (up w4 1 29 0) fun w5 => bl (up w5 25 0 0) fun w6 => f_Re_next_34 w6 x1 x2 x3) else (bl (up w 1 29 (wr (x2 - 1))) fun w7 => f_Re_next_34 w7 x1 x2 x3)
theorem t_Re_next_0 {E : EE} {K : KT} {l : Launch} {H0 : Heap} (k : Kof TB E K l cX11_next RX11 rm_Re_next) {w : World} {x1 : Int} {x2 : Int} {x3 : Int} (r_x1 : R32 x1) (r_x2 : R32 x2) (r_x3 : R32 x3) {out : (World × Int)} (hf : f_Re_next w x1 x2 x3 = some out) (hc : (fun out : (World × Int) => RetZ TB E K H0 cX11_next out.1 out.2) out) : Jj K (WdT TB E H0) w 0 [some (rf E.ad 1), some (.int (ii x1)), some (.int (ii x2)), some (.int (ii x3))] [] := by
  unfold f_Re_next at hf
  have o := k.1
  have g := k.2.1
  have kr := k.2.2.1
  refine J_aload_n o dX11_next_0 rfl ?_
  refine J_getI o g dX11_next_1 flX11_186 kB_1 rfl (fun q1 => ?_)
  refine J_if_eq 17 o dX11_next_4 (by decide) q1 (fun c2 => ?_) (fun c3 => ?_)
  · have hf := ite_t c2 hf
    refine J_aload_n o dX11_next_17 rfl ?_
    refine J_iconst o dX11_next_18 ?_
    refine J_putZ o g dX11_next_19 fpX11_186 kB_1 rfl rfl (Or.inr rfl) ?_
    have hf := bl_out hf
    refine J_aload_n o dX11_next_22 rfl ?_
    refine J_iconst o dX11_next_23 ?_
    refine J_putI o g dX11_next_24 fpX11_211 kB_1 rfl rfl rl0 ?_
    have hf := bl_out hf
    refine J_aload_n o dX11_next_27 rfl ?_
    refine J_getF (true, 25) o g dX11_next_28 flX11_80 kB_1 rfl rfl rfl ?_
    refine J_iconst o dX11_next_31 ?_
    refine J_iconst o dX11_next_32 ?_
    refine J_iast o g dX11_next_33 kB_25 (fxB_40 _) rl0 zB_25 ⟨by decide, by decide⟩ rl0 ?_
    have hf := bl_out hf
    exact (t_Re_next_34 k r_x1 r_x2 r_x3 hf hc)  
  · have hf := ite_f c3 hf
    refine J_aload_n o dX11_next_7 rfl ?_
    refine J_iload_n o dX11_next_8 rfl ?_
    refine J_iconst o dX11_next_9 ?_
    refine J_isub o dX11_next_10 ?_
    refine J_putI o g dX11_next_11 fpX11_211 kB_1 rfl rfl (R_wr _) ?_
    have hf := bl_out hf
    refine J_goto 34 o dX11_next_14 (by decide) ?_
    exact (t_Re_next_34 k r_x1 r_x2 r_x3 hf hc)  
theorem c_Re_next {E : EE} {l : Launch} (hI : Inj TB E) {w : World} {x1 : Int} {x2 : Int} {x3 : Int} (r_x1 : R32 x1) (r_x2 : R32 x2) (r_x3 : R32 x3) {out : (World × Int)} (hf : f_Re_next w x1 x2 x3 = some out) : ConI TB E l yX11_next (WS yX11_next cX11_next 4 (some .boolean)) rm_Re_next [rf E.ad 1, .int (ii x1), .int (ii x2), .int (ii x3)] w out.1 out.2 :=
  con_Z (by decide +kernel) rfl (Nat.le_of_ble_eq_true rfl) (c1s_r (c1s_i (c1s_i (c1s_i c1s_0 (Nat.le_of_ble_eq_true rfl)) (Nat.le_of_ble_eq_true rfl)) (Nat.le_of_ble_eq_true rfl)) (Nat.le_of_ble_eq_true rfl)).1 ⟨rfl, rfl⟩ hI TnB (fun K H0 k hret => t_Re_next_0 k r_x1 r_x2 r_x3 hf hret)
