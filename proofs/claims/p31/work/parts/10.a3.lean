abbrev rm_Bo_holdingAtoms : Room := { frames := 2, cells := 0, slots := 0, locals := 45 }
def HW_Bo_holdingAtoms_4 (E : EE) (K : KT) (H0 : Heap) (w : World) (t0 : Nat) : (Int × Int) → Prop := fun z => R32 z.1 → R32 z.2 → Jj K (WdT TA E H0) w 4 [some (rf E.ad t0), some (.int (ii z.1)), some (.int (ii z.2))] []
noncomputable def f_Bo_holdingAtoms_26 (w : World) (t0 : Nat) (x2 : Int) (s0 : Int) (s1 : Int) : Option ((Int × Int) ⊕ Int) :=
  bl (wr (s0 + s1)) fun n1 => bl (wr (x2 + 1)) fun n2 => some (Sum.inl (n1, n2))
theorem t_Bo_holdingAtoms_26 {E : EE} {K : KT} {l : Launch} {H0 : Heap} (k : Kof TA E K l cX0_holdingAtoms RX0 rm_Bo_holdingAtoms) {w : World} {t0 : Nat} {x2 : Int} {s0 : Int} {s1 : Int} {o1 : Option Value} (k_t0 : TA.kd t0 = 1) (r_x2 : R32 x2) (r_s0 : R32 s0) (r_s1 : R32 s1) {out : ((Int × Int) ⊕ Int)} (hf : f_Bo_holdingAtoms_26 w t0 x2 s0 s1 = some out) (hc : (Sum.elim (HW_Bo_holdingAtoms_4 E K H0 w t0) (fun out : Int => RetI TA E K H0 cX0_holdingAtoms w out)) out) : Jj K (WdT TA E H0) w 26 [some (rf E.ad t0), o1, some (.int (ii x2))] [.int (ii s1), .int (ii s0)] := by
  unfold f_Bo_holdingAtoms_26 at hf
  have o := k.1
  have g := k.2.1
  have kr := k.2.2.1
  refine J_iadd o dX0_holdingAtoms_26 ?_
  refine J_istore_n o dX0_holdingAtoms_27 (Nat.le_of_ble_eq_true rfl) ?_
  have hf := bl_out hf
  have hf := bl_out hf
  refine J_iinc o dX0_holdingAtoms_28 rfl ?_
  refine J_goto 4 o dX0_holdingAtoms_31 (by decide) ?_
  have hf := some_inj hf
  subst hf
  exact hc (R_wr _) (R_wr _) 
noncomputable def f_Bo_holdingAtoms_4B (w : World) (t0 : Nat) (x1 : Int) (x2 : Int) : Option ((Int × Int) ⊕ Int) :=
  if (w t0 0) ≤ x2 then (some (Sum.inr x1)) else (bnd (f_Bo_formOf w t0 x2) fun v5 => if v5 = 0 then (f_Bo_holdingAtoms_26 w t0 x2 x1 1) else (f_Bo_holdingAtoms_26 w t0 x2 x1 0))
theorem t_Bo_holdingAtoms_4B {E : EE} {K : KT} {l : Launch} {H0 : Heap} (k : Kof TA E K l cX0_holdingAtoms RX0 rm_Bo_holdingAtoms) {w : World} {t0 : Nat} {x1 : Int} {x2 : Int} (k_t0 : TA.kd t0 = 1) (r_x1 : R32 x1) (r_x2 : R32 x2) {out : ((Int × Int) ⊕ Int)} (hf : f_Bo_holdingAtoms_4B w t0 x1 x2 = some out) (hc : (Sum.elim (HW_Bo_holdingAtoms_4 E K H0 w t0) (fun out : Int => RetI TA E K H0 cX0_holdingAtoms w out)) out) : Jj K (WdT TA E H0) w 4 [some (rf E.ad t0), some (.int (ii x1)), some (.int (ii x2))] [] := by
  unfold f_Bo_holdingAtoms_4B at hf
  have o := k.1
  have g := k.2.1
  have kr := k.2.2.1
  refine J_iload_n o dX0_holdingAtoms_4 rfl ?_
  refine J_aload_n o dX0_holdingAtoms_5 rfl ?_
  refine J_getI o g dX0_holdingAtoms_6 flX0_25 k_t0 rfl (fun q1 => ?_)
  refine J_icmp_ge 34 o dX0_holdingAtoms_9 (by decide) r_x2 q1 (fun c2 => ?_) (fun c3 => ?_)
  · have hf := ite_t c2 hf
    refine J_iload_n o dX0_holdingAtoms_34 rfl ?_
    have hf := some_inj hf
    subst hf
    exact hc _ _ r_x1 dX0_holdingAtoms_35
  · have hf := ite_f c3 hf
    refine J_iload_n o dX0_holdingAtoms_12 rfl ?_
    refine J_aload_n o dX0_holdingAtoms_13 rfl ?_
    refine J_iload_n o dX0_holdingAtoms_14 rfl ?_
    obtain ⟨v5, e4, hf⟩ := bnd_some hf
    refine J_vI o g kr dX0_holdingAtoms_15 lkX0_46 ml_Bo_formOf vl_Bo_formOf ⟨rfl, rfl, Nat.le_of_ble_eq_true rfl, Nat.le_of_ble_eq_true rfl⟩ (c_Bo_formOf g.2.1 k_t0 r_x2 e4) k_t0 rfl ⟨by decide, by decide⟩ rfl rfl (c1s_i c1s_0 (Nat.le_of_ble_eq_true rfl)) (fun q6 => ?_)
    refine J_if_ne 25 o dX0_holdingAtoms_18 (by decide) q6 (fun c7 => ?_) (fun c8 => ?_)
    · have hf := ite_f c7 hf
      refine J_iconst o dX0_holdingAtoms_25 ?_
      exact t_Bo_holdingAtoms_26 k k_t0 r_x2 r_x1 rl0 hf hc
    · have hf := ite_t c8 hf
      refine J_iconst o dX0_holdingAtoms_21 ?_
      refine J_goto 26 o dX0_holdingAtoms_22 (by decide) ?_
      exact t_Bo_holdingAtoms_26 k k_t0 r_x2 r_x1 rl1 hf hc
noncomputable def f_Bo_holdingAtoms_4 (w : World) (t0 : Nat) (x1 : Int) (x2 : Int) : Option Int :=
  lp (fun z : (Int × Int) => f_Bo_holdingAtoms_4B w t0 z.1 z.2) (x1, x2)
theorem t_Bo_holdingAtoms_4 {E : EE} {K : KT} {l : Launch} {H0 : Heap} (k : Kof TA E K l cX0_holdingAtoms RX0 rm_Bo_holdingAtoms) {w : World} {t0 : Nat} {x1 : Int} {x2 : Int} (k_t0 : TA.kd t0 = 1) {out : Int} (hf : f_Bo_holdingAtoms_4 w t0 x1 x2 = some out) (hc : (fun out : Int => RetI TA E K H0 cX0_holdingAtoms w out) out) : HW_Bo_holdingAtoms_4 E K H0 w t0 (x1, x2) := by
  unfold f_Bo_holdingAtoms_4 at hf
  refine lp_ind (P := HW_Bo_holdingAtoms_4 E K H0 w t0) hf ?_
  intro z o hs h1 h2
  intro r_x1 r_x2
  refine t_Bo_holdingAtoms_4B k k_t0 r_x1 r_x2 hs ?_
  cases o with
  | inl z' => exact h1 z' rfl
  | inr r' => rw [h2 r' rfl]; exact hc
noncomputable def f_Bo_holdingAtoms (w : World) (t0 : Nat) : Option Int :=
  f_Bo_holdingAtoms_4 w t0 0 0
theorem t_Bo_holdingAtoms_0 {E : EE} {K : KT} {l : Launch} {H0 : Heap} (k : Kof TA E K l cX0_holdingAtoms RX0 rm_Bo_holdingAtoms) {w : World} {t0 : Nat} {o1 o2 : Option Value} (k_t0 : TA.kd t0 = 1) {out : Int} (hf : f_Bo_holdingAtoms w t0 = some out) (hc : (fun out : Int => RetI TA E K H0 cX0_holdingAtoms w out) out) : Jj K (WdT TA E H0) w 0 [some (rf E.ad t0), o1, o2] [] := by
  unfold f_Bo_holdingAtoms at hf
  have o := k.1
  have g := k.2.1
  have kr := k.2.2.1
  refine J_iconst o dX0_holdingAtoms_0 ?_
  refine J_istore_n o dX0_holdingAtoms_1 (Nat.le_of_ble_eq_true rfl) ?_
  refine J_iconst o dX0_holdingAtoms_2 ?_
  refine J_istore_n o dX0_holdingAtoms_3 (Nat.le_of_ble_eq_true rfl) ?_
  exact (t_Bo_holdingAtoms_4 k k_t0 hf hc) rl0 rl0 
theorem c_Bo_holdingAtoms {E : EE} {l : Launch} (hI : Inj TA E) {w : World} {t0 : Nat} (k_t0 : TA.kd t0 = 1) {out : Int} (hf : f_Bo_holdingAtoms w t0 = some out) : ConI TA E l yX0_holdingAtoms (WS yX0_holdingAtoms cX0_holdingAtoms 3 (some .int)) rm_Bo_holdingAtoms [rf E.ad t0] w w out :=
  con_I (by decide +kernel) rfl (Nat.le_of_ble_eq_true rfl) (c1s_r c1s_0 (Nat.le_of_ble_eq_true rfl)).1 ⟨rfl, rfl⟩ hI TnA (fun K H0 k hret => t_Bo_holdingAtoms_0 k k_t0 hf hret)
abbrev rm_Bo_variablesFrom : Room := { frames := 2, cells := 0, slots := 0, locals := 47 }
def HW_Bo_variablesFrom_5 (E : EE) (K : KT) (H0 : Heap) (w : World) (t0 : Nat) (x1 : Int) : (Int × Int) → Prop := fun z => R32 z.1 → R32 z.2 → ∀ o2 : Option Value, Jj K (WdT TA E H0) w 5 [some (rf E.ad t0), some (.int (ii x1)), o2, some (.int (ii z.1)), some (.int (ii z.2))] []
noncomputable def f_Bo_variablesFrom_5B (w : World) (t0 : Nat) (x1 : Int) (x3 : Int) (x4 : Int) : Option ((Int × Int) ⊕ Int) :=
  if 3 ≤ x4 then (some (Sum.inr x3)) else (bnd (f_Bo_termOf w t0 x1 x4) fun v4 => bnd (f_Dm_variableBit v4) fun v7 => bl (ior x3 v7) fun n9 => bl (wr (x4 + 1)) fun n10 => some (Sum.inl (n9, n10)))
theorem t_Bo_variablesFrom_5B {E : EE} {K : KT} {l : Launch} {H0 : Heap} (k : Kof TA E K l cX0_variablesFrom RX0 rm_Bo_variablesFrom) {w : World} {t0 : Nat} {x1 : Int} {x3 : Int} {x4 : Int} {o2 : Option Value} (k_t0 : TA.kd t0 = 1) (r_x1 : R32 x1) (r_x3 : R32 x3) (r_x4 : R32 x4) {out : ((Int × Int) ⊕ Int)} (hf : f_Bo_variablesFrom_5B w t0 x1 x3 x4 = some out) (hc : (Sum.elim (HW_Bo_variablesFrom_5 E K H0 w t0 x1) (fun out : Int => RetI TA E K H0 cX0_variablesFrom w out)) out) : Jj K (WdT TA E H0) w 5 [some (rf E.ad t0), some (.int (ii x1)), o2, some (.int (ii x3)), some (.int (ii x4))] [] := by
  unfold f_Bo_variablesFrom_5B at hf
  have o := k.1
  have g := k.2.1
  have kr := k.2.2.1
  refine J_iload o dX0_variablesFrom_5 rfl ?_
  refine J_iconst o dX0_variablesFrom_7 ?_
  refine J_icmp_ge 30 o dX0_variablesFrom_8 (by decide) r_x4 rl3 (fun c1 => ?_) (fun c2 => ?_)
  · have hf := ite_t c1 hf
    refine J_iload_n o dX0_variablesFrom_30 rfl ?_
    have hf := some_inj hf
    subst hf
    exact hc _ _ r_x3 dX0_variablesFrom_31
  · have hf := ite_f c2 hf
    refine J_iload_n o dX0_variablesFrom_11 rfl ?_
    refine J_aload_n o dX0_variablesFrom_12 rfl ?_
    refine J_iload_n o dX0_variablesFrom_13 rfl ?_
    refine J_iload o dX0_variablesFrom_14 rfl ?_
    obtain ⟨v4, e3, hf⟩ := bnd_some hf
    refine J_vI o g kr dX0_variablesFrom_16 lkX0_53 ml_Bo_termOf vl_Bo_termOf ⟨rfl, rfl, Nat.le_of_ble_eq_true rfl, Nat.le_of_ble_eq_true rfl⟩ (c_Bo_termOf g.2.1 k_t0 r_x1 r_x4 e3) k_t0 rfl ⟨by decide, by decide⟩ rfl rfl (c1s_i c1s_0 (Nat.le_of_ble_eq_true rfl)) (fun q5 => ?_)
    obtain ⟨v7, e6, hf⟩ := bnd_some hf
    refine J_sI o g kr dX0_variablesFrom_19 lkX0_61 ml_Dm_variableBit mw778 ⟨rfl, rfl, Nat.le_of_ble_eq_true rfl, Nat.le_of_ble_eq_true rfl⟩ (c_Dm_variableBit g.2.1 q5 e6) rfl rfl (c1s_i c1s_0 (Nat.le_of_ble_eq_true rfl)) (fun q8 => ?_)
    refine J_ior o dX0_variablesFrom_22 ?_
    refine J_istore_n o dX0_variablesFrom_23 (Nat.le_of_ble_eq_true rfl) ?_
    have hf := bl_out hf
    have hf := bl_out hf
    refine J_iinc o dX0_variablesFrom_24 rfl ?_
    refine J_goto 5 o dX0_variablesFrom_27 (by decide) ?_
    have hf := some_inj hf
    subst hf
    exact hc (R_ior _ _) (R_wr _) _
noncomputable def f_Bo_variablesFrom_5 (w : World) (t0 : Nat) (x1 : Int) (x3 : Int) (x4 : Int) : Option Int :=
  lp (fun z : (Int × Int) => f_Bo_variablesFrom_5B w t0 x1 z.1 z.2) (x3, x4)
theorem t_Bo_variablesFrom_5 {E : EE} {K : KT} {l : Launch} {H0 : Heap} (k : Kof TA E K l cX0_variablesFrom RX0 rm_Bo_variablesFrom) {w : World} {t0 : Nat} {x1 : Int} {x3 : Int} {x4 : Int} (k_t0 : TA.kd t0 = 1) (r_x1 : R32 x1) {out : Int} (hf : f_Bo_variablesFrom_5 w t0 x1 x3 x4 = some out) (hc : (fun out : Int => RetI TA E K H0 cX0_variablesFrom w out) out) : HW_Bo_variablesFrom_5 E K H0 w t0 x1 (x3, x4) := by
  unfold f_Bo_variablesFrom_5 at hf
  refine lp_ind (P := HW_Bo_variablesFrom_5 E K H0 w t0 x1) hf ?_
  intro z o hs h1 h2
  intro r_x3 r_x4
  intro o2
  refine t_Bo_variablesFrom_5B k k_t0 r_x1 r_x3 r_x4 hs ?_
  cases o with
  | inl z' => exact h1 z' rfl
  | inr r' => rw [h2 r' rfl]; exact hc
noncomputable def f_Bo_variablesFrom (w : World) (t0 : Nat) (x1 : Int) (x2 : Int) : Option Int :=
  f_Bo_variablesFrom_5 w t0 x1 0 x2
theorem t_Bo_variablesFrom_0 {E : EE} {K : KT} {l : Launch} {H0 : Heap} (k : Kof TA E K l cX0_variablesFrom RX0 rm_Bo_variablesFrom) {w : World} {t0 : Nat} {x1 : Int} {x2 : Int} {o3 o4 : Option Value} (k_t0 : TA.kd t0 = 1) (r_x1 : R32 x1) (r_x2 : R32 x2) {out : Int} (hf : f_Bo_variablesFrom w t0 x1 x2 = some out) (hc : (fun out : Int => RetI TA E K H0 cX0_variablesFrom w out) out) : Jj K (WdT TA E H0) w 0 [some (rf E.ad t0), some (.int (ii x1)), some (.int (ii x2)), o3, o4] [] := by
  unfold f_Bo_variablesFrom at hf
  have o := k.1
  have g := k.2.1
  have kr := k.2.2.1
  refine J_iconst o dX0_variablesFrom_0 ?_
  refine J_istore_n o dX0_variablesFrom_1 (Nat.le_of_ble_eq_true rfl) ?_
  refine J_iload_n o dX0_variablesFrom_2 rfl ?_
  refine J_istore o dX0_variablesFrom_3 (Nat.le_of_ble_eq_true rfl) ?_
  exact (t_Bo_variablesFrom_5 k k_t0 r_x1 hf hc) rl0 r_x2 _
theorem c_Bo_variablesFrom {E : EE} {l : Launch} (hI : Inj TA E) {w : World} {t0 : Nat} {x1 : Int} {x2 : Int} (k_t0 : TA.kd t0 = 1) (r_x1 : R32 x1) (r_x2 : R32 x2) {out : Int} (hf : f_Bo_variablesFrom w t0 x1 x2 = some out) : ConI TA E l yX0_variablesFrom (WS yX0_variablesFrom cX0_variablesFrom 5 (some .int)) rm_Bo_variablesFrom [rf E.ad t0, .int (ii x1), .int (ii x2)] w w out :=
  con_I (by decide +kernel) rfl (Nat.le_of_ble_eq_true rfl) (c1s_r (c1s_i (c1s_i c1s_0 (Nat.le_of_ble_eq_true rfl)) (Nat.le_of_ble_eq_true rfl)) (Nat.le_of_ble_eq_true rfl)).1 ⟨rfl, rfl⟩ hI TnA (fun K H0 k hret => t_Bo_variablesFrom_0 k k_t0 r_x1 r_x2 hf hret)
abbrev rm_Bo_boundVariables : Room := { frames := 3, cells := 0, slots := 0, locals := 71 }
def HW_Bo_boundVariables_4 (E : EE) (K : KT) (H0 : Heap) (w : World) (t0 : Nat) : (Int × Int) → Prop := fun z => R32 z.1 → R32 z.2 → ∀ o3 o4 : Option Value, Jj K (WdT TA E H0) w 4 [some (rf E.ad t0), some (.int (ii z.1)), some (.int (ii z.2)), o3, o4] []
noncomputable def f_Bo_boundVariables_41 (w : World) (t0 : Nat) (x1 : Int) (x2 : Int) (s0 : Int) : Option ((Int × Int) ⊕ Int) :=
  if (iand s0 (ixor x1 (-1))) = 0 then (bnd (f_Bo_variablesFrom w t0 x2 0) fun v4 => bl (ior x1 v4) fun n6 => bl (wr (x2 + 1)) fun n7 => some (Sum.inl (n6, n7))) else (some (Sum.inr (-1)))
theorem t_Bo_boundVariables_41 {E : EE} {K : KT} {l : Launch} {H0 : Heap} (k : Kof TA E K l cX0_boundVariables RX0 rm_Bo_boundVariables) {w : World} {t0 : Nat} {x1 : Int} {x2 : Int} {s0 : Int} {o3 o4 : Option Value} (k_t0 : TA.kd t0 = 1) (r_x1 : R32 x1) (r_x2 : R32 x2) (r_s0 : R32 s0) {out : ((Int × Int) ⊕ Int)} (hf : f_Bo_boundVariables_41 w t0 x1 x2 s0 = some out) (hc : (Sum.elim (HW_Bo_boundVariables_4 E K H0 w t0) (fun out : Int => RetI TA E K H0 cX0_boundVariables w out)) out) : Jj K (WdT TA E H0) w 41 [some (rf E.ad t0), some (.int (ii x1)), some (.int (ii x2)), o3, o4] [.int (ii s0)] := by
  unfold f_Bo_boundVariables_41 at hf
  have o := k.1
  have g := k.2.1
  have kr := k.2.2.1
  refine J_istore o dX0_boundVariables_41 (Nat.le_of_ble_eq_true rfl) ?_
  refine J_iload o dX0_boundVariables_43 rfl ?_
  refine J_iload_n o dX0_boundVariables_45 rfl ?_
  refine J_iconst o dX0_boundVariables_46 ?_
  refine J_ixor o dX0_boundVariables_47 ?_
  refine J_iand o dX0_boundVariables_48 ?_
  refine J_if_eq 54 o dX0_boundVariables_49 (by decide) (R_iand _ _) (fun c1 => ?_) (fun c2 => ?_)
  · have hf := ite_t c1 hf
    refine J_iload_n o dX0_boundVariables_54 rfl ?_
    refine J_aload_n o dX0_boundVariables_55 rfl ?_
    refine J_iload_n o dX0_boundVariables_56 rfl ?_
    refine J_iconst o dX0_boundVariables_57 ?_
    obtain ⟨v4, e3, hf⟩ := bnd_some hf
    refine J_vI o g kr dX0_boundVariables_58 lkX0_64 ml_Bo_variablesFrom vl_Bo_variablesFrom ⟨rfl, rfl, Nat.le_of_ble_eq_true rfl, Nat.le_of_ble_eq_true rfl⟩ (c_Bo_variablesFrom g.2.1 k_t0 r_x2 rl0 e3) k_t0 rfl ⟨by decide, by decide⟩ rfl rfl (c1s_i c1s_0 (Nat.le_of_ble_eq_true rfl)) (fun q5 => ?_)
    refine J_ior o dX0_boundVariables_61 ?_
    refine J_istore_n o dX0_boundVariables_62 (Nat.le_of_ble_eq_true rfl) ?_
    have hf := bl_out hf
    have hf := bl_out hf
    refine J_iinc o dX0_boundVariables_63 rfl ?_
    refine J_goto 4 o dX0_boundVariables_66 (by decide) ?_
    have hf := some_inj hf
    subst hf
    exact hc (R_ior _ _) (R_wr _) _ _
  · have hf := ite_f c2 hf
    refine J_iconst o dX0_boundVariables_52 ?_
    have hf := some_inj hf
    subst hf
    exact hc _ _ rlm1 dX0_boundVariables_53
noncomputable def f_Bo_boundVariables_38 (w : World) (t0 : Nat) (x1 : Int) (x2 : Int) (u0 : Nat) (s1 : Int) (s2 : Int) : Option ((Int × Int) ⊕ Int) :=
  bnd (f_Bo_variablesFrom w u0 s1 s2) fun v2 => f_Bo_boundVariables_41 w t0 x1 x2 v2
theorem t_Bo_boundVariables_38 {E : EE} {K : KT} {l : Launch} {H0 : Heap} (k : Kof TA E K l cX0_boundVariables RX0 rm_Bo_boundVariables) {w : World} {t0 : Nat} {x1 : Int} {x2 : Int} {u0 : Nat} {s1 : Int} {s2 : Int} {o3 o4 : Option Value} (k_t0 : TA.kd t0 = 1) (r_x1 : R32 x1) (r_x2 : R32 x2) (k_u0 : TA.kd u0 = 1) (r_s1 : R32 s1) (r_s2 : R32 s2) {out : ((Int × Int) ⊕ Int)} (hf : f_Bo_boundVariables_38 w t0 x1 x2 u0 s1 s2 = some out) (hc : (Sum.elim (HW_Bo_boundVariables_4 E K H0 w t0) (fun out : Int => RetI TA E K H0 cX0_boundVariables w out)) out) : Jj K (WdT TA E H0) w 38 [some (rf E.ad t0), some (.int (ii x1)), some (.int (ii x2)), o3, o4] [.int (ii s2), .int (ii s1), rf E.ad u0] := by
  unfold f_Bo_boundVariables_38 at hf
  have o := k.1
  have g := k.2.1
  have kr := k.2.2.1
  obtain ⟨v2, e1, hf⟩ := bnd_some hf
  refine J_vI o g kr dX0_boundVariables_38 lkX0_64 ml_Bo_variablesFrom vl_Bo_variablesFrom ⟨rfl, rfl, Nat.le_of_ble_eq_true rfl, Nat.le_of_ble_eq_true rfl⟩ (c_Bo_variablesFrom g.2.1 k_u0 r_s1 r_s2 e1) k_u0 rfl ⟨by decide, by decide⟩ rfl rfl c1s_0 (fun q3 => ?_)
  exact t_Bo_boundVariables_41 k k_t0 r_x1 r_x2 q3 hf hc
noncomputable def f_Bo_boundVariables_4B (w : World) (t0 : Nat) (x1 : Int) (x2 : Int) : Option ((Int × Int) ⊕ Int) :=
  if (w t0 0) ≤ x2 then (some (Sum.inr x1)) else (bnd (f_Bo_formOf w t0 x2) fun v5 => if v5 = 0 then (f_Bo_boundVariables_41 w t0 x1 x2 0) else (if v5 = 3 then (f_Bo_boundVariables_38 w t0 x1 x2 t0 x2 1) else (f_Bo_boundVariables_38 w t0 x1 x2 t0 x2 0)))
theorem t_Bo_boundVariables_4B {E : EE} {K : KT} {l : Launch} {H0 : Heap} (k : Kof TA E K l cX0_boundVariables RX0 rm_Bo_boundVariables) {w : World} {t0 : Nat} {x1 : Int} {x2 : Int} {o3 o4 : Option Value} (k_t0 : TA.kd t0 = 1) (r_x1 : R32 x1) (r_x2 : R32 x2) {out : ((Int × Int) ⊕ Int)} (hf : f_Bo_boundVariables_4B w t0 x1 x2 = some out) (hc : (Sum.elim (HW_Bo_boundVariables_4 E K H0 w t0) (fun out : Int => RetI TA E K H0 cX0_boundVariables w out)) out) : Jj K (WdT TA E H0) w 4 [some (rf E.ad t0), some (.int (ii x1)), some (.int (ii x2)), o3, o4] [] := by
  unfold f_Bo_boundVariables_4B at hf
  have o := k.1
  have g := k.2.1
  have kr := k.2.2.1
  refine J_iload_n o dX0_boundVariables_4 rfl ?_
  refine J_aload_n o dX0_boundVariables_5 rfl ?_
  refine J_getI o g dX0_boundVariables_6 flX0_25 k_t0 rfl (fun q1 => ?_)
  refine J_icmp_ge 69 o dX0_boundVariables_9 (by decide) r_x2 q1 (fun c2 => ?_) (fun c3 => ?_)
  · have hf := ite_t c2 hf
    refine J_iload_n o dX0_boundVariables_69 rfl ?_
    have hf := some_inj hf
    subst hf
    exact hc _ _ r_x1 dX0_boundVariables_70
  · have hf := ite_f c3 hf
    refine J_aload_n o dX0_boundVariables_12 rfl ?_
    refine J_iload_n o dX0_boundVariables_13 rfl ?_
    obtain ⟨v5, e4, hf⟩ := bnd_some hf
    refine J_vI o g kr dX0_boundVariables_14 lkX0_46 ml_Bo_formOf vl_Bo_formOf ⟨rfl, rfl, Nat.le_of_ble_eq_true rfl, Nat.le_of_ble_eq_true rfl⟩ (c_Bo_formOf g.2.1 k_t0 r_x2 e4) k_t0 rfl ⟨by decide, by decide⟩ rfl rfl c1s_0 (fun q6 => ?_)
    refine J_istore_n o dX0_boundVariables_17 (Nat.le_of_ble_eq_true rfl) ?_
    refine J_iload_n o dX0_boundVariables_18 rfl ?_
    refine J_if_ne 26 o dX0_boundVariables_19 (by decide) q6 (fun c7 => ?_) (fun c8 => ?_)
    · have hf := ite_f c7 hf
      refine J_aload_n o dX0_boundVariables_26 rfl ?_
      refine J_iload_n o dX0_boundVariables_27 rfl ?_
      refine J_iload_n o dX0_boundVariables_28 rfl ?_
      refine J_iconst o dX0_boundVariables_29 ?_
      refine J_icmp_ne 37 o dX0_boundVariables_30 (by decide) q6 rl3 (fun c9 => ?_) (fun c10 => ?_)
      · have hf := ite_f c9 hf
        refine J_iconst o dX0_boundVariables_37 ?_
        exact t_Bo_boundVariables_38 k k_t0 r_x1 r_x2 k_t0 r_x2 rl0 hf hc
      · have hf := ite_t c10 hf
        refine J_iconst o dX0_boundVariables_33 ?_
        refine J_goto 38 o dX0_boundVariables_34 (by decide) ?_
        exact t_Bo_boundVariables_38 k k_t0 r_x1 r_x2 k_t0 r_x2 rl1 hf hc
    · have hf := ite_t c8 hf
      refine J_iconst o dX0_boundVariables_22 ?_
      refine J_goto 41 o dX0_boundVariables_23 (by decide) ?_
      exact t_Bo_boundVariables_41 k k_t0 r_x1 r_x2 rl0 hf hc
noncomputable def f_Bo_boundVariables_4 (w : World) (t0 : Nat) (x1 : Int) (x2 : Int) : Option Int :=
  lp (fun z : (Int × Int) => f_Bo_boundVariables_4B w t0 z.1 z.2) (x1, x2)
theorem t_Bo_boundVariables_4 {E : EE} {K : KT} {l : Launch} {H0 : Heap} (k : Kof TA E K l cX0_boundVariables RX0 rm_Bo_boundVariables) {w : World} {t0 : Nat} {x1 : Int} {x2 : Int} (k_t0 : TA.kd t0 = 1) {out : Int} (hf : f_Bo_boundVariables_4 w t0 x1 x2 = some out) (hc : (fun out : Int => RetI TA E K H0 cX0_boundVariables w out) out) : HW_Bo_boundVariables_4 E K H0 w t0 (x1, x2) := by
  unfold f_Bo_boundVariables_4 at hf
  refine lp_ind (P := HW_Bo_boundVariables_4 E K H0 w t0) hf ?_
  intro z o hs h1 h2
  intro r_x1 r_x2
  intro o3 o4
  refine t_Bo_boundVariables_4B k k_t0 r_x1 r_x2 hs ?_
  cases o with
  | inl z' => exact h1 z' rfl
  | inr r' => rw [h2 r' rfl]; exact hc
noncomputable def f_Bo_boundVariables (w : World) (t0 : Nat) : Option Int :=
  f_Bo_boundVariables_4 w t0 0 0
theorem t_Bo_boundVariables_0 {E : EE} {K : KT} {l : Launch} {H0 : Heap} (k : Kof TA E K l cX0_boundVariables RX0 rm_Bo_boundVariables) {w : World} {t0 : Nat} {o1 o2 o3 o4 : Option Value} (k_t0 : TA.kd t0 = 1) {out : Int} (hf : f_Bo_boundVariables w t0 = some out) (hc : (fun out : Int => RetI TA E K H0 cX0_boundVariables w out) out) : Jj K (WdT TA E H0) w 0 [some (rf E.ad t0), o1, o2, o3, o4] [] := by
  unfold f_Bo_boundVariables at hf
  have o := k.1
  have g := k.2.1
  have kr := k.2.2.1
  refine J_iconst o dX0_boundVariables_0 ?_
  refine J_istore_n o dX0_boundVariables_1 (Nat.le_of_ble_eq_true rfl) ?_
  refine J_iconst o dX0_boundVariables_2 ?_
  refine J_istore_n o dX0_boundVariables_3 (Nat.le_of_ble_eq_true rfl) ?_
  exact (t_Bo_boundVariables_4 k k_t0 hf hc) rl0 rl0 _ _
theorem c_Bo_boundVariables {E : EE} {l : Launch} (hI : Inj TA E) {w : World} {t0 : Nat} (k_t0 : TA.kd t0 = 1) {out : Int} (hf : f_Bo_boundVariables w t0 = some out) : ConI TA E l yX0_boundVariables (WS yX0_boundVariables cX0_boundVariables 5 (some .int)) rm_Bo_boundVariables [rf E.ad t0] w w out :=
  con_I (by decide +kernel) rfl (Nat.le_of_ble_eq_true rfl) (c1s_r c1s_0 (Nat.le_of_ble_eq_true rfl)).1 ⟨rfl, rfl⟩ hI TnA (fun K H0 k hret => t_Bo_boundVariables_0 k k_t0 hf hret)
abbrev rm_Bo_isSafe : Room := { frames := 4, cells := 0, slots := 0, locals := 95 }
noncomputable def f_Bo_isSafe (w : World) (t0 : Nat) : Option Int :=
  bnd (f_Bo_boundVariables w t0) fun v2 => if v2 = (-1) then (some 0) else (bnd (f_Bo_variablesFrom w t0 5 0) fun v7 => if (iand v7 (ixor v2 (-1))) = 0 then (some 1) else (some 0))
theorem t_Bo_isSafe_0 {E : EE} {K : KT} {l : Launch} {H0 : Heap} (k : Kof TA E K l cX0_isSafe RX0 rm_Bo_isSafe) {w : World} {t0 : Nat} {o1 : Option Value} (k_t0 : TA.kd t0 = 1) {out : Int} (hf : f_Bo_isSafe w t0 = some out) (hc : (fun out : Int => RetZ TA E K H0 cX0_isSafe w out) out) : Jj K (WdT TA E H0) w 0 [some (rf E.ad t0), o1] [] := by
  unfold f_Bo_isSafe at hf
  have o := k.1
  have g := k.2.1
  have kr := k.2.2.1
  refine J_aload_n o dX0_isSafe_0 rfl ?_
  obtain ⟨v2, e1, hf⟩ := bnd_some hf
  refine J_vI o g kr dX0_isSafe_1 lkX0_67 ml_Bo_boundVariables vl_Bo_boundVariables ⟨rfl, rfl, Nat.le_of_ble_eq_true rfl, Nat.le_of_ble_eq_true rfl⟩ (c_Bo_boundVariables g.2.1 k_t0 e1) k_t0 rfl ⟨by decide, by decide⟩ rfl rfl c1s_0 (fun q3 => ?_)
  refine J_istore_n o dX0_isSafe_4 (Nat.le_of_ble_eq_true rfl) ?_
  refine J_iload_n o dX0_isSafe_5 rfl ?_
  refine J_iconst o dX0_isSafe_6 ?_
  refine J_icmp_eq 27 o dX0_isSafe_7 (by decide) q3 rlm1 (fun c4 => ?_) (fun c5 => ?_)
  · have hf := ite_t c4 hf
    refine J_iconst o dX0_isSafe_27 ?_
    have hf := some_inj hf
    subst hf
    exact hc _ _ (Or.inl rfl) dX0_isSafe_28
  · have hf := ite_f c5 hf
    refine J_aload_n o dX0_isSafe_10 rfl ?_
    refine J_iconst o dX0_isSafe_11 ?_
    refine J_iconst o dX0_isSafe_12 ?_
    obtain ⟨v7, e6, hf⟩ := bnd_some hf
    refine J_vI o g kr dX0_isSafe_13 lkX0_64 ml_Bo_variablesFrom vl_Bo_variablesFrom ⟨rfl, rfl, Nat.le_of_ble_eq_true rfl, Nat.le_of_ble_eq_true rfl⟩ (c_Bo_variablesFrom g.2.1 k_t0 rl5 rl0 e6) k_t0 rfl ⟨by decide, by decide⟩ rfl rfl c1s_0 (fun q8 => ?_)
    refine J_iload_n o dX0_isSafe_16 rfl ?_
    refine J_iconst o dX0_isSafe_17 ?_
    refine J_ixor o dX0_isSafe_18 ?_
    refine J_iand o dX0_isSafe_19 ?_
    refine J_if_ne 27 o dX0_isSafe_20 (by decide) (R_iand _ _) (fun c9 => ?_) (fun c10 => ?_)
    · have hf := ite_f c9 hf
      refine J_iconst o dX0_isSafe_27 ?_
      have hf := some_inj hf
      subst hf
      exact hc _ _ (Or.inl rfl) dX0_isSafe_28
    · have hf := ite_t c10 hf
      refine J_iconst o dX0_isSafe_23 ?_
      refine J_goto 28 o dX0_isSafe_24 (by decide) ?_
      have hf := some_inj hf
      subst hf
      exact hc _ _ (Or.inr rfl) dX0_isSafe_28
theorem c_Bo_isSafe {E : EE} {l : Launch} (hI : Inj TA E) {w : World} {t0 : Nat} (k_t0 : TA.kd t0 = 1) {out : Int} (hf : f_Bo_isSafe w t0 = some out) : ConI TA E l yX0_isSafe (WS yX0_isSafe cX0_isSafe 2 (some .boolean)) rm_Bo_isSafe [rf E.ad t0] w w out :=
  con_Z (by decide +kernel) rfl (Nat.le_of_ble_eq_true rfl) (c1s_r c1s_0 (Nat.le_of_ble_eq_true rfl)).1 ⟨rfl, rfl⟩ hI TnA (fun K H0 k hret => t_Bo_isSafe_0 k k_t0 hf hret)
abbrev rm_Bo_mentions : Room := { frames := 2, cells := 0, slots := 0, locals := 47 }
def HW_Bo_mentions_4 (E : EE) (K : KT) (H0 : Heap) (w : World) (t0 : Nat) (x1 : Int) : (Int × Int) → Prop := fun z => R32 z.1 → R32 z.2 → ∀ o4 : Option Value, Jj K (WdT TA E H0) w 4 [some (rf E.ad t0), some (.int (ii x1)), some (.int (ii z.1)), some (.int (ii z.2)), o4] []
def HW_Bo_mentions_30 (E : EE) (K : KT) (H0 : Heap) (w : World) (t0 : Nat) (x1 : Int) (x3 : Int) : (Int × Int) → Prop := fun z => R32 z.1 → R32 z.2 → Jj K (WdT TA E H0) w 30 [some (rf E.ad t0), some (.int (ii x1)), some (.int (ii z.1)), some (.int (ii x3)), some (.int (ii z.2))] []
noncomputable def f_Bo_mentions_56 (w : World) (t0 : Nat) (x1 : Int) (x3 : Int) (x4 : Int) (s0 : Int) (s1 : Int) : Option ((Int × Int) ⊕ ((Int × Int) ⊕ Int)) :=
  bl (wr (s0 + s1)) fun n1 => bl (wr (x4 + 1)) fun n2 => some (Sum.inl (n1, n2))
theorem t_Bo_mentions_56 {E : EE} {K : KT} {l : Launch} {H0 : Heap} (k : Kof TA E K l cX0_mentions RX0 rm_Bo_mentions) {w : World} {t0 : Nat} {x1 : Int} {x3 : Int} {x4 : Int} {s0 : Int} {s1 : Int} {o2 : Option Value} (k_t0 : TA.kd t0 = 1) (r_x1 : R32 x1) (r_x3 : R32 x3) (r_x4 : R32 x4) (r_s0 : R32 s0) (r_s1 : R32 s1) {out : ((Int × Int) ⊕ ((Int × Int) ⊕ Int))} (hf : f_Bo_mentions_56 w t0 x1 x3 x4 s0 s1 = some out) (hc : (Sum.elim (HW_Bo_mentions_30 E K H0 w t0 x1 x3) (Sum.elim (HW_Bo_mentions_4 E K H0 w t0 x1) (fun out : Int => RetI TA E K H0 cX0_mentions w out))) out) : Jj K (WdT TA E H0) w 56 [some (rf E.ad t0), some (.int (ii x1)), o2, some (.int (ii x3)), some (.int (ii x4))] [.int (ii s1), .int (ii s0)] := by
  unfold f_Bo_mentions_56 at hf
  have o := k.1
  have g := k.2.1
  have kr := k.2.2.1
  refine J_iadd o dX0_mentions_56 ?_
  refine J_istore_n o dX0_mentions_57 (Nat.le_of_ble_eq_true rfl) ?_
  have hf := bl_out hf
  have hf := bl_out hf
  refine J_iinc o dX0_mentions_58 rfl ?_
  refine J_goto 30 o dX0_mentions_61 (by decide) ?_
  have hf := some_inj hf
  subst hf
  exact hc (R_wr _) (R_wr _) 
noncomputable def f_Bo_mentions_30B (w : World) (t0 : Nat) (x1 : Int) (x2 : Int) (x3 : Int) (x4 : Int) : Option ((Int × Int) ⊕ ((Int × Int) ⊕ Int)) :=
  if (w t0 0) ≤ x4 then (bl (wr (x3 + 1)) fun n4 => some (Sum.inr (Sum.inl (x2, n4)))) else (bnd (f_Bo_termOf w t0 x4 x3) fun v6 => if v6 = x1 then (f_Bo_mentions_56 w t0 x1 x3 x4 x2 1) else (f_Bo_mentions_56 w t0 x1 x3 x4 x2 0))
theorem t_Bo_mentions_30B {E : EE} {K : KT} {l : Launch} {H0 : Heap} (k : Kof TA E K l cX0_mentions RX0 rm_Bo_mentions) {w : World} {t0 : Nat} {x1 : Int} {x2 : Int} {x3 : Int} {x4 : Int} (k_t0 : TA.kd t0 = 1) (r_x1 : R32 x1) (r_x2 : R32 x2) (r_x3 : R32 x3) (r_x4 : R32 x4) {out : ((Int × Int) ⊕ ((Int × Int) ⊕ Int))} (hf : f_Bo_mentions_30B w t0 x1 x2 x3 x4 = some out) (hc : (Sum.elim (HW_Bo_mentions_30 E K H0 w t0 x1 x3) (Sum.elim (HW_Bo_mentions_4 E K H0 w t0 x1) (fun out : Int => RetI TA E K H0 cX0_mentions w out))) out) : Jj K (WdT TA E H0) w 30 [some (rf E.ad t0), some (.int (ii x1)), some (.int (ii x2)), some (.int (ii x3)), some (.int (ii x4))] [] := by
  unfold f_Bo_mentions_30B at hf
  have o := k.1
  have g := k.2.1
  have kr := k.2.2.1
  refine J_iload o dX0_mentions_30 rfl ?_
  refine J_aload_n o dX0_mentions_32 rfl ?_
  refine J_getI o g dX0_mentions_33 flX0_25 k_t0 rfl (fun q1 => ?_)
  refine J_icmp_ge 64 o dX0_mentions_36 (by decide) r_x4 q1 (fun c2 => ?_) (fun c3 => ?_)
  · have hf := ite_t c2 hf
    have hf := bl_out hf
    refine J_iinc o dX0_mentions_64 rfl ?_
    refine J_goto 4 o dX0_mentions_67 (by decide) ?_
    have hf := some_inj hf
    subst hf
    exact hc r_x2 (R_wr _) _
  · have hf := ite_f c3 hf
    refine J_iload_n o dX0_mentions_39 rfl ?_
    refine J_aload_n o dX0_mentions_40 rfl ?_
    refine J_iload o dX0_mentions_41 rfl ?_
    refine J_iload_n o dX0_mentions_43 rfl ?_
    obtain ⟨v6, e5, hf⟩ := bnd_some hf
    refine J_vI o g kr dX0_mentions_44 lkX0_53 ml_Bo_termOf vl_Bo_termOf ⟨rfl, rfl, Nat.le_of_ble_eq_true rfl, Nat.le_of_ble_eq_true rfl⟩ (c_Bo_termOf g.2.1 k_t0 r_x4 r_x3 e5) k_t0 rfl ⟨by decide, by decide⟩ rfl rfl (c1s_i c1s_0 (Nat.le_of_ble_eq_true rfl)) (fun q7 => ?_)
    refine J_iload_n o dX0_mentions_47 rfl ?_
    refine J_icmp_ne 55 o dX0_mentions_48 (by decide) q7 r_x1 (fun c8 => ?_) (fun c9 => ?_)
    · have hf := ite_f c8 hf
      refine J_iconst o dX0_mentions_55 ?_
      exact t_Bo_mentions_56 k k_t0 r_x1 r_x3 r_x4 r_x2 rl0 hf hc
    · have hf := ite_t c9 hf
      refine J_iconst o dX0_mentions_51 ?_
      refine J_goto 56 o dX0_mentions_52 (by decide) ?_
      exact t_Bo_mentions_56 k k_t0 r_x1 r_x3 r_x4 r_x2 rl1 hf hc
noncomputable def f_Bo_mentions_30 (w : World) (t0 : Nat) (x1 : Int) (x2 : Int) (x3 : Int) (x4 : Int) : Option ((Int × Int) ⊕ Int) :=
  lp (fun z : (Int × Int) => f_Bo_mentions_30B w t0 x1 z.1 x3 z.2) (x2, x4)
theorem t_Bo_mentions_30 {E : EE} {K : KT} {l : Launch} {H0 : Heap} (k : Kof TA E K l cX0_mentions RX0 rm_Bo_mentions) {w : World} {t0 : Nat} {x1 : Int} {x2 : Int} {x3 : Int} {x4 : Int} (k_t0 : TA.kd t0 = 1) (r_x1 : R32 x1) (r_x3 : R32 x3) {out : ((Int × Int) ⊕ Int)} (hf : f_Bo_mentions_30 w t0 x1 x2 x3 x4 = some out) (hc : (Sum.elim (HW_Bo_mentions_4 E K H0 w t0 x1) (fun out : Int => RetI TA E K H0 cX0_mentions w out)) out) : HW_Bo_mentions_30 E K H0 w t0 x1 x3 (x2, x4) := by
  unfold f_Bo_mentions_30 at hf
  refine lp_ind (P := HW_Bo_mentions_30 E K H0 w t0 x1 x3) hf ?_
  intro z o hs h1 h2
  intro r_x2 r_x4
  refine t_Bo_mentions_30B k k_t0 r_x1 r_x2 r_x3 r_x4 hs ?_
  cases o with
  | inl z' => exact h1 z' rfl
  | inr r' => rw [h2 r' rfl]; exact hc
noncomputable def f_Bo_mentions_25 (w : World) (t0 : Nat) (x1 : Int) (x3 : Int) (s0 : Int) (s1 : Int) : Option ((Int × Int) ⊕ Int) :=
  bl (wr (s0 + s1)) fun n1 => f_Bo_mentions_30 w t0 x1 n1 x3 0
theorem t_Bo_mentions_25 {E : EE} {K : KT} {l : Launch} {H0 : Heap} (k : Kof TA E K l cX0_mentions RX0 rm_Bo_mentions) {w : World} {t0 : Nat} {x1 : Int} {x3 : Int} {s0 : Int} {s1 : Int} {o2 o4 : Option Value} (k_t0 : TA.kd t0 = 1) (r_x1 : R32 x1) (r_x3 : R32 x3) (r_s0 : R32 s0) (r_s1 : R32 s1) {out : ((Int × Int) ⊕ Int)} (hf : f_Bo_mentions_25 w t0 x1 x3 s0 s1 = some out) (hc : (Sum.elim (HW_Bo_mentions_4 E K H0 w t0 x1) (fun out : Int => RetI TA E K H0 cX0_mentions w out)) out) : Jj K (WdT TA E H0) w 25 [some (rf E.ad t0), some (.int (ii x1)), o2, some (.int (ii x3)), o4] [.int (ii s1), .int (ii s0)] := by
  unfold f_Bo_mentions_25 at hf
  have o := k.1
  have g := k.2.1
  have kr := k.2.2.1
  refine J_iadd o dX0_mentions_25 ?_
  refine J_istore_n o dX0_mentions_26 (Nat.le_of_ble_eq_true rfl) ?_
  have hf := bl_out hf
  refine J_iconst o dX0_mentions_27 ?_
  refine J_istore o dX0_mentions_28 (Nat.le_of_ble_eq_true rfl) ?_
  exact (t_Bo_mentions_30 k k_t0 r_x1 r_x3 hf hc) (R_wr _) rl0 
noncomputable def f_Bo_mentions_4B (w : World) (t0 : Nat) (x1 : Int) (x2 : Int) (x3 : Int) : Option ((Int × Int) ⊕ Int) :=
  if 3 ≤ x3 then (some (Sum.inr x2)) else (bnd (f_Bo_termOf w t0 5 x3) fun v4 => if v4 = x1 then (f_Bo_mentions_25 w t0 x1 x3 x2 1) else (f_Bo_mentions_25 w t0 x1 x3 x2 0))
theorem t_Bo_mentions_4B {E : EE} {K : KT} {l : Launch} {H0 : Heap} (k : Kof TA E K l cX0_mentions RX0 rm_Bo_mentions) {w : World} {t0 : Nat} {x1 : Int} {x2 : Int} {x3 : Int} {o4 : Option Value} (k_t0 : TA.kd t0 = 1) (r_x1 : R32 x1) (r_x2 : R32 x2) (r_x3 : R32 x3) {out : ((Int × Int) ⊕ Int)} (hf : f_Bo_mentions_4B w t0 x1 x2 x3 = some out) (hc : (Sum.elim (HW_Bo_mentions_4 E K H0 w t0 x1) (fun out : Int => RetI TA E K H0 cX0_mentions w out)) out) : Jj K (WdT TA E H0) w 4 [some (rf E.ad t0), some (.int (ii x1)), some (.int (ii x2)), some (.int (ii x3)), o4] [] := by
  unfold f_Bo_mentions_4B at hf
  have o := k.1
  have g := k.2.1
  have kr := k.2.2.1
  refine J_iload_n o dX0_mentions_4 rfl ?_
  refine J_iconst o dX0_mentions_5 ?_
  refine J_icmp_ge 70 o dX0_mentions_6 (by decide) r_x3 rl3 (fun c1 => ?_) (fun c2 => ?_)
  · have hf := ite_t c1 hf
    refine J_iload_n o dX0_mentions_70 rfl ?_
    have hf := some_inj hf
    subst hf
    exact hc _ _ r_x2 dX0_mentions_71
  · have hf := ite_f c2 hf
    refine J_iload_n o dX0_mentions_9 rfl ?_
    refine J_aload_n o dX0_mentions_10 rfl ?_
    refine J_iconst o dX0_mentions_11 ?_
    refine J_iload_n o dX0_mentions_12 rfl ?_
    obtain ⟨v4, e3, hf⟩ := bnd_some hf
    refine J_vI o g kr dX0_mentions_13 lkX0_53 ml_Bo_termOf vl_Bo_termOf ⟨rfl, rfl, Nat.le_of_ble_eq_true rfl, Nat.le_of_ble_eq_true rfl⟩ (c_Bo_termOf g.2.1 k_t0 rl5 r_x3 e3) k_t0 rfl ⟨by decide, by decide⟩ rfl rfl (c1s_i c1s_0 (Nat.le_of_ble_eq_true rfl)) (fun q5 => ?_)
    refine J_iload_n o dX0_mentions_16 rfl ?_
    refine J_icmp_ne 24 o dX0_mentions_17 (by decide) q5 r_x1 (fun c6 => ?_) (fun c7 => ?_)
    · have hf := ite_f c6 hf
      refine J_iconst o dX0_mentions_24 ?_
      exact t_Bo_mentions_25 k k_t0 r_x1 r_x3 r_x2 rl0 hf hc
    · have hf := ite_t c7 hf
      refine J_iconst o dX0_mentions_20 ?_
      refine J_goto 25 o dX0_mentions_21 (by decide) ?_
      exact t_Bo_mentions_25 k k_t0 r_x1 r_x3 r_x2 rl1 hf hc
noncomputable def f_Bo_mentions_4 (w : World) (t0 : Nat) (x1 : Int) (x2 : Int) (x3 : Int) : Option Int :=
  lp (fun z : (Int × Int) => f_Bo_mentions_4B w t0 x1 z.1 z.2) (x2, x3)
theorem t_Bo_mentions_4 {E : EE} {K : KT} {l : Launch} {H0 : Heap} (k : Kof TA E K l cX0_mentions RX0 rm_Bo_mentions) {w : World} {t0 : Nat} {x1 : Int} {x2 : Int} {x3 : Int} (k_t0 : TA.kd t0 = 1) (r_x1 : R32 x1) {out : Int} (hf : f_Bo_mentions_4 w t0 x1 x2 x3 = some out) (hc : (fun out : Int => RetI TA E K H0 cX0_mentions w out) out) : HW_Bo_mentions_4 E K H0 w t0 x1 (x2, x3) := by
  unfold f_Bo_mentions_4 at hf
  refine lp_ind (P := HW_Bo_mentions_4 E K H0 w t0 x1) hf ?_
  intro z o hs h1 h2
  intro r_x2 r_x3
  intro o4
  refine t_Bo_mentions_4B k k_t0 r_x1 r_x2 r_x3 hs ?_
  cases o with
  | inl z' => exact h1 z' rfl
  | inr r' => rw [h2 r' rfl]; exact hc
noncomputable def f_Bo_mentions (w : World) (t0 : Nat) (x1 : Int) : Option Int :=
  f_Bo_mentions_4 w t0 x1 0 0
theorem t_Bo_mentions_0 {E : EE} {K : KT} {l : Launch} {H0 : Heap} (k : Kof TA E K l cX0_mentions RX0 rm_Bo_mentions) {w : World} {t0 : Nat} {x1 : Int} {o2 o3 o4 : Option Value} (k_t0 : TA.kd t0 = 1) (r_x1 : R32 x1) {out : Int} (hf : f_Bo_mentions w t0 x1 = some out) (hc : (fun out : Int => RetI TA E K H0 cX0_mentions w out) out) : Jj K (WdT TA E H0) w 0 [some (rf E.ad t0), some (.int (ii x1)), o2, o3, o4] [] := by
  unfold f_Bo_mentions at hf
  have o := k.1
  have g := k.2.1
  have kr := k.2.2.1
  refine J_iconst o dX0_mentions_0 ?_
  refine J_istore_n o dX0_mentions_1 (Nat.le_of_ble_eq_true rfl) ?_
  refine J_iconst o dX0_mentions_2 ?_
  refine J_istore_n o dX0_mentions_3 (Nat.le_of_ble_eq_true rfl) ?_
  exact (t_Bo_mentions_4 k k_t0 r_x1 hf hc) rl0 rl0 _
theorem c_Bo_mentions {E : EE} {l : Launch} (hI : Inj TA E) {w : World} {t0 : Nat} {x1 : Int} (k_t0 : TA.kd t0 = 1) (r_x1 : R32 x1) {out : Int} (hf : f_Bo_mentions w t0 x1 = some out) : ConI TA E l yX0_mentions (WS yX0_mentions cX0_mentions 5 (some .int)) rm_Bo_mentions [rf E.ad t0, .int (ii x1)] w w out :=
  con_I (by decide +kernel) rfl (Nat.le_of_ble_eq_true rfl) (c1s_r (c1s_i c1s_0 (Nat.le_of_ble_eq_true rfl)) (Nat.le_of_ble_eq_true rfl)).1 ⟨rfl, rfl⟩ hI TnA (fun K H0 k hret => t_Bo_mentions_0 k k_t0 r_x1 hf hret)
abbrev rm_Bo_sumOver : Room := { frames := 2, cells := 0, slots := 0, locals := 47 }
def HW_Bo_sumOver_4 (E : EE) (K : KT) (H0 : Heap) (w : World) (t0 : Nat) (x1 : Int) : (Int × Int) → Prop := fun z => R32 z.1 → R32 z.2 → Jj K (WdT TA E H0) w 4 [some (rf E.ad t0), some (.int (ii x1)), some (.int (ii z.1)), some (.int (ii z.2))] []
noncomputable def f_Bo_sumOver_48 (w : World) (t0 : Nat) (x1 : Int) (x2 : Int) (x3 : Int) : Option ((Int × Int) ⊕ Int) :=
  bl (wr (x3 + 1)) fun n1 => some (Sum.inl (x2, n1))
theorem t_Bo_sumOver_48 {E : EE} {K : KT} {l : Launch} {H0 : Heap} (k : Kof TA E K l cX0_sumOver RX0 rm_Bo_sumOver) {w : World} {t0 : Nat} {x1 : Int} {x2 : Int} {x3 : Int} (k_t0 : TA.kd t0 = 1) (r_x1 : R32 x1) (r_x2 : R32 x2) (r_x3 : R32 x3) {out : ((Int × Int) ⊕ Int)} (hf : f_Bo_sumOver_48 w t0 x1 x2 x3 = some out) (hc : (Sum.elim (HW_Bo_sumOver_4 E K H0 w t0 x1) (fun out : Int => RetI TA E K H0 cX0_sumOver w out)) out) : Jj K (WdT TA E H0) w 48 [some (rf E.ad t0), some (.int (ii x1)), some (.int (ii x2)), some (.int (ii x3))] [] := by
  unfold f_Bo_sumOver_48 at hf
  have o := k.1
  have g := k.2.1
  have kr := k.2.2.1
  have hf := bl_out hf
  refine J_iinc o dX0_sumOver_48 rfl ?_
  refine J_goto 4 o dX0_sumOver_51 (by decide) ?_
  have hf := some_inj hf
  subst hf
  exact hc r_x2 (R_wr _) 
noncomputable def f_Bo_sumOver_41 (w : World) (t0 : Nat) (x1 : Int) (x3 : Int) : Option ((Int × Int) ⊕ Int) :=
  bnd (f_Bo_termOf w t0 x3 0) fun v2 => f_Bo_sumOver_48 w t0 x1 v2 x3
theorem t_Bo_sumOver_41 {E : EE} {K : KT} {l : Launch} {H0 : Heap} (k : Kof TA E K l cX0_sumOver RX0 rm_Bo_sumOver) {w : World} {t0 : Nat} {x1 : Int} {x3 : Int} {o2 : Option Value} (k_t0 : TA.kd t0 = 1) (r_x1 : R32 x1) (r_x3 : R32 x3) {out : ((Int × Int) ⊕ Int)} (hf : f_Bo_sumOver_41 w t0 x1 x3 = some out) (hc : (Sum.elim (HW_Bo_sumOver_4 E K H0 w t0 x1) (fun out : Int => RetI TA E K H0 cX0_sumOver w out)) out) : Jj K (WdT TA E H0) w 41 [some (rf E.ad t0), some (.int (ii x1)), o2, some (.int (ii x3))] [] := by
  unfold f_Bo_sumOver_41 at hf
  have o := k.1
  have g := k.2.1
  have kr := k.2.2.1
  refine J_aload_n o dX0_sumOver_41 rfl ?_
  refine J_iload_n o dX0_sumOver_42 rfl ?_
  refine J_iconst o dX0_sumOver_43 ?_
  obtain ⟨v2, e1, hf⟩ := bnd_some hf
  refine J_vI o g kr dX0_sumOver_44 lkX0_53 ml_Bo_termOf vl_Bo_termOf ⟨rfl, rfl, Nat.le_of_ble_eq_true rfl, Nat.le_of_ble_eq_true rfl⟩ (c_Bo_termOf g.2.1 k_t0 r_x3 rl0 e1) k_t0 rfl ⟨by decide, by decide⟩ rfl rfl c1s_0 (fun q3 => ?_)
  refine J_istore_n o dX0_sumOver_47 (Nat.le_of_ble_eq_true rfl) ?_
  exact t_Bo_sumOver_48 k k_t0 r_x1 q3 r_x3 hf hc
noncomputable def f_Bo_sumOver_4B (w : World) (t0 : Nat) (x1 : Int) (x2 : Int) (x3 : Int) : Option ((Int × Int) ⊕ Int) :=
  if (w t0 0) ≤ x3 then (some (Sum.inr x2)) else (bnd (f_Bo_formOf w t0 x3) fun v5 => if v5 = 3 then (bnd (f_Bo_termOf w t0 x3 1) fun v10 => if v10 = x1 then (f_Bo_sumOver_41 w t0 x1 x3) else (bnd (f_Bo_termOf w t0 x3 2) fun v15 => if v15 = x1 then (f_Bo_sumOver_41 w t0 x1 x3) else (f_Bo_sumOver_48 w t0 x1 x2 x3))) else (f_Bo_sumOver_48 w t0 x1 x2 x3))
theorem t_Bo_sumOver_4B {E : EE} {K : KT} {l : Launch} {H0 : Heap} (k : Kof TA E K l cX0_sumOver RX0 rm_Bo_sumOver) {w : World} {t0 : Nat} {x1 : Int} {x2 : Int} {x3 : Int} (k_t0 : TA.kd t0 = 1) (r_x1 : R32 x1) (r_x2 : R32 x2) (r_x3 : R32 x3) {out : ((Int × Int) ⊕ Int)} (hf : f_Bo_sumOver_4B w t0 x1 x2 x3 = some out) (hc : (Sum.elim (HW_Bo_sumOver_4 E K H0 w t0 x1) (fun out : Int => RetI TA E K H0 cX0_sumOver w out)) out) : Jj K (WdT TA E H0) w 4 [some (rf E.ad t0), some (.int (ii x1)), some (.int (ii x2)), some (.int (ii x3))] [] := by
  unfold f_Bo_sumOver_4B at hf
  have o := k.1
  have g := k.2.1
  have kr := k.2.2.1
  refine J_iload_n o dX0_sumOver_4 rfl ?_
  refine J_aload_n o dX0_sumOver_5 rfl ?_
  refine J_getI o g dX0_sumOver_6 flX0_25 k_t0 rfl (fun q1 => ?_)
  refine J_icmp_ge 54 o dX0_sumOver_9 (by decide) r_x3 q1 (fun c2 => ?_) (fun c3 => ?_)
  · have hf := ite_t c2 hf
    refine J_iload_n o dX0_sumOver_54 rfl ?_
    have hf := some_inj hf
    subst hf
    exact hc _ _ r_x2 dX0_sumOver_55
  · have hf := ite_f c3 hf
    refine J_aload_n o dX0_sumOver_12 rfl ?_
    refine J_iload_n o dX0_sumOver_13 rfl ?_
    obtain ⟨v5, e4, hf⟩ := bnd_some hf
    refine J_vI o g kr dX0_sumOver_14 lkX0_46 ml_Bo_formOf vl_Bo_formOf ⟨rfl, rfl, Nat.le_of_ble_eq_true rfl, Nat.le_of_ble_eq_true rfl⟩ (c_Bo_formOf g.2.1 k_t0 r_x3 e4) k_t0 rfl ⟨by decide, by decide⟩ rfl rfl c1s_0 (fun q6 => ?_)
    refine J_iconst o dX0_sumOver_17 ?_
    refine J_icmp_ne 48 o dX0_sumOver_18 (by decide) q6 rl3 (fun c7 => ?_) (fun c8 => ?_)
    · have hf := ite_f c7 hf
      exact t_Bo_sumOver_48 k k_t0 r_x1 r_x2 r_x3 hf hc
    · have hf := ite_t c8 hf
      refine J_aload_n o dX0_sumOver_21 rfl ?_
      refine J_iload_n o dX0_sumOver_22 rfl ?_
      refine J_iconst o dX0_sumOver_23 ?_
      obtain ⟨v10, e9, hf⟩ := bnd_some hf
      refine J_vI o g kr dX0_sumOver_24 lkX0_53 ml_Bo_termOf vl_Bo_termOf ⟨rfl, rfl, Nat.le_of_ble_eq_true rfl, Nat.le_of_ble_eq_true rfl⟩ (c_Bo_termOf g.2.1 k_t0 r_x3 rl1 e9) k_t0 rfl ⟨by decide, by decide⟩ rfl rfl c1s_0 (fun q11 => ?_)
      refine J_iload_n o dX0_sumOver_27 rfl ?_
      refine J_icmp_eq 41 o dX0_sumOver_28 (by decide) q11 r_x1 (fun c12 => ?_) (fun c13 => ?_)
      · have hf := ite_t c12 hf
        exact t_Bo_sumOver_41 k k_t0 r_x1 r_x3 hf hc
      · have hf := ite_f c13 hf
        refine J_aload_n o dX0_sumOver_31 rfl ?_
        refine J_iload_n o dX0_sumOver_32 rfl ?_
        refine J_iconst o dX0_sumOver_33 ?_
        obtain ⟨v15, e14, hf⟩ := bnd_some hf
        refine J_vI o g kr dX0_sumOver_34 lkX0_53 ml_Bo_termOf vl_Bo_termOf ⟨rfl, rfl, Nat.le_of_ble_eq_true rfl, Nat.le_of_ble_eq_true rfl⟩ (c_Bo_termOf g.2.1 k_t0 r_x3 rl2 e14) k_t0 rfl ⟨by decide, by decide⟩ rfl rfl c1s_0 (fun q16 => ?_)
        refine J_iload_n o dX0_sumOver_37 rfl ?_
        refine J_icmp_ne 48 o dX0_sumOver_38 (by decide) q16 r_x1 (fun c17 => ?_) (fun c18 => ?_)
        · have hf := ite_f c17 hf
          exact t_Bo_sumOver_48 k k_t0 r_x1 r_x2 r_x3 hf hc
        · have hf := ite_t c18 hf
          exact t_Bo_sumOver_41 k k_t0 r_x1 r_x3 hf hc
noncomputable def f_Bo_sumOver_4 (w : World) (t0 : Nat) (x1 : Int) (x2 : Int) (x3 : Int) : Option Int :=
  lp (fun z : (Int × Int) => f_Bo_sumOver_4B w t0 x1 z.1 z.2) (x2, x3)
theorem t_Bo_sumOver_4 {E : EE} {K : KT} {l : Launch} {H0 : Heap} (k : Kof TA E K l cX0_sumOver RX0 rm_Bo_sumOver) {w : World} {t0 : Nat} {x1 : Int} {x2 : Int} {x3 : Int} (k_t0 : TA.kd t0 = 1) (r_x1 : R32 x1) {out : Int} (hf : f_Bo_sumOver_4 w t0 x1 x2 x3 = some out) (hc : (fun out : Int => RetI TA E K H0 cX0_sumOver w out) out) : HW_Bo_sumOver_4 E K H0 w t0 x1 (x2, x3) := by
  unfold f_Bo_sumOver_4 at hf
  refine lp_ind (P := HW_Bo_sumOver_4 E K H0 w t0 x1) hf ?_
  intro z o hs h1 h2
  intro r_x2 r_x3
  refine t_Bo_sumOver_4B k k_t0 r_x1 r_x2 r_x3 hs ?_
  cases o with
  | inl z' => exact h1 z' rfl
  | inr r' => rw [h2 r' rfl]; exact hc
noncomputable def f_Bo_sumOver (w : World) (t0 : Nat) (x1 : Int) : Option Int :=
  f_Bo_sumOver_4 w t0 x1 0 0
theorem t_Bo_sumOver_0 {E : EE} {K : KT} {l : Launch} {H0 : Heap} (k : Kof TA E K l cX0_sumOver RX0 rm_Bo_sumOver) {w : World} {t0 : Nat} {x1 : Int} {o2 o3 : Option Value} (k_t0 : TA.kd t0 = 1) (r_x1 : R32 x1) {out : Int} (hf : f_Bo_sumOver w t0 x1 = some out) (hc : (fun out : Int => RetI TA E K H0 cX0_sumOver w out) out) : Jj K (WdT TA E H0) w 0 [some (rf E.ad t0), some (.int (ii x1)), o2, o3] [] := by
  unfold f_Bo_sumOver at hf
  have o := k.1
  have g := k.2.1
  have kr := k.2.2.1
  refine J_iconst o dX0_sumOver_0 ?_
  refine J_istore_n o dX0_sumOver_1 (Nat.le_of_ble_eq_true rfl) ?_
  refine J_iconst o dX0_sumOver_2 ?_
  refine J_istore_n o dX0_sumOver_3 (Nat.le_of_ble_eq_true rfl) ?_
  exact (t_Bo_sumOver_4 k k_t0 r_x1 hf hc) rl0 rl0 
theorem c_Bo_sumOver {E : EE} {l : Launch} (hI : Inj TA E) {w : World} {t0 : Nat} {x1 : Int} (k_t0 : TA.kd t0 = 1) (r_x1 : R32 x1) {out : Int} (hf : f_Bo_sumOver w t0 x1 = some out) : ConI TA E l yX0_sumOver (WS yX0_sumOver cX0_sumOver 4 (some .int)) rm_Bo_sumOver [rf E.ad t0, .int (ii x1)] w w out :=
  con_I (by decide +kernel) rfl (Nat.le_of_ble_eq_true rfl) (c1s_r (c1s_i c1s_0 (Nat.le_of_ble_eq_true rfl)) (Nat.le_of_ble_eq_true rfl)).1 ⟨rfl, rfl⟩ hI TnA (fun K H0 k hret => t_Bo_sumOver_0 k k_t0 r_x1 hf hret)
abbrev rm_Bo_knownColumns : Room := { frames := 2, cells := 0, slots := 0, locals := 47 }
def HW_Bo_knownColumns_6 (E : EE) (K : KT) (H0 : Heap) (w : World) (t0 : Nat) (x1 : Int) (x2 : Int) (x3 : Int) : (Int × Int) → Prop := fun z => R32 z.1 → R32 z.2 → ∀ o6 : Option Value, Jj K (WdT TA E H0) w 6 [some (rf E.ad t0), some (.int (ii x1)), some (.int (ii x2)), some (.int (ii x3)), some (.int (ii z.1)), some (.int (ii z.2)), o6] []
noncomputable def f_Bo_knownColumns_46 (w : World) (t0 : Nat) (x1 : Int) (x2 : Int) (x3 : Int) (x5 : Int) (s0 : Int) (s1 : Int) : Option ((Int × Int) ⊕ Int) :=
  bl (ior s0 s1) fun n1 => bl (wr (x5 + 1)) fun n2 => some (Sum.inl (n1, n2))
theorem t_Bo_knownColumns_46 {E : EE} {K : KT} {l : Launch} {H0 : Heap} (k : Kof TA E K l cX0_knownColumns RX0 rm_Bo_knownColumns) {w : World} {t0 : Nat} {x1 : Int} {x2 : Int} {x3 : Int} {x5 : Int} {s0 : Int} {s1 : Int} {o4 o6 : Option Value} (k_t0 : TA.kd t0 = 1) (r_x1 : R32 x1) (r_x2 : R32 x2) (r_x3 : R32 x3) (r_x5 : R32 x5) (r_s0 : R32 s0) (r_s1 : R32 s1) {out : ((Int × Int) ⊕ Int)} (hf : f_Bo_knownColumns_46 w t0 x1 x2 x3 x5 s0 s1 = some out) (hc : (Sum.elim (HW_Bo_knownColumns_6 E K H0 w t0 x1 x2 x3) (fun out : Int => RetI TA E K H0 cX0_knownColumns w out)) out) : Jj K (WdT TA E H0) w 46 [some (rf E.ad t0), some (.int (ii x1)), some (.int (ii x2)), some (.int (ii x3)), o4, some (.int (ii x5)), o6] [.int (ii s1), .int (ii s0)] := by
  unfold f_Bo_knownColumns_46 at hf
  have o := k.1
  have g := k.2.1
  have kr := k.2.2.1
  refine J_ior o dX0_knownColumns_46 ?_
  refine J_istore o dX0_knownColumns_47 (Nat.le_of_ble_eq_true rfl) ?_
  have hf := bl_out hf
  have hf := bl_out hf
  refine J_iinc o dX0_knownColumns_49 rfl ?_
  refine J_goto 6 o dX0_knownColumns_52 (by decide) ?_
  have hf := some_inj hf
  subst hf
  exact hc (R_ior _ _) (R_wr _) _
noncomputable def f_Bo_knownColumns_38 (w : World) (t0 : Nat) (x1 : Int) (x2 : Int) (x3 : Int) (x5 : Int) (s0 : Int) : Option ((Int × Int) ⊕ Int) :=
  f_Bo_knownColumns_46 w t0 x1 x2 x3 x5 s0 (ishl 1 x5)
theorem t_Bo_knownColumns_38 {E : EE} {K : KT} {l : Launch} {H0 : Heap} (k : Kof TA E K l cX0_knownColumns RX0 rm_Bo_knownColumns) {w : World} {t0 : Nat} {x1 : Int} {x2 : Int} {x3 : Int} {x5 : Int} {s0 : Int} {o4 o6 : Option Value} (k_t0 : TA.kd t0 = 1) (r_x1 : R32 x1) (r_x2 : R32 x2) (r_x3 : R32 x3) (r_x5 : R32 x5) (r_s0 : R32 s0) {out : ((Int × Int) ⊕ Int)} (hf : f_Bo_knownColumns_38 w t0 x1 x2 x3 x5 s0 = some out) (hc : (Sum.elim (HW_Bo_knownColumns_6 E K H0 w t0 x1 x2 x3) (fun out : Int => RetI TA E K H0 cX0_knownColumns w out)) out) : Jj K (WdT TA E H0) w 38 [some (rf E.ad t0), some (.int (ii x1)), some (.int (ii x2)), some (.int (ii x3)), o4, some (.int (ii x5)), o6] [.int (ii s0)] := by
  unfold f_Bo_knownColumns_38 at hf
  have o := k.1
  have g := k.2.1
  have kr := k.2.2.1
  refine J_iconst o dX0_knownColumns_38 ?_
  refine J_iload o dX0_knownColumns_39 rfl ?_
  refine J_ishl o dX0_knownColumns_41 ?_
  refine J_goto 46 o dX0_knownColumns_42 (by decide) ?_
  exact t_Bo_knownColumns_46 k k_t0 r_x1 r_x2 r_x3 r_x5 r_s0 (R_ishl _ _) hf hc
noncomputable def f_Bo_knownColumns_6B (w : World) (t0 : Nat) (x1 : Int) (x2 : Int) (x3 : Int) (x4 : Int) (x5 : Int) : Option ((Int × Int) ⊕ Int) :=
  if x2 ≤ x5 then (some (Sum.inr x4)) else (bnd (f_Bo_termOf w t0 x1 x5) fun v4 => if 0 ≤ v4 then (f_Bo_knownColumns_38 w t0 x1 x2 x3 x5 x4) else (bnd (f_Dm_variableBit v4) fun v9 => if (iand v9 x3) = 0 then (f_Bo_knownColumns_46 w t0 x1 x2 x3 x5 x4 0) else (f_Bo_knownColumns_38 w t0 x1 x2 x3 x5 x4)))
theorem t_Bo_knownColumns_6B {E : EE} {K : KT} {l : Launch} {H0 : Heap} (k : Kof TA E K l cX0_knownColumns RX0 rm_Bo_knownColumns) {w : World} {t0 : Nat} {x1 : Int} {x2 : Int} {x3 : Int} {x4 : Int} {x5 : Int} {o6 : Option Value} (k_t0 : TA.kd t0 = 1) (r_x1 : R32 x1) (r_x2 : R32 x2) (r_x3 : R32 x3) (r_x4 : R32 x4) (r_x5 : R32 x5) {out : ((Int × Int) ⊕ Int)} (hf : f_Bo_knownColumns_6B w t0 x1 x2 x3 x4 x5 = some out) (hc : (Sum.elim (HW_Bo_knownColumns_6 E K H0 w t0 x1 x2 x3) (fun out : Int => RetI TA E K H0 cX0_knownColumns w out)) out) : Jj K (WdT TA E H0) w 6 [some (rf E.ad t0), some (.int (ii x1)), some (.int (ii x2)), some (.int (ii x3)), some (.int (ii x4)), some (.int (ii x5)), o6] [] := by
  unfold f_Bo_knownColumns_6B at hf
  have o := k.1
  have g := k.2.1
  have kr := k.2.2.1
  refine J_iload o dX0_knownColumns_6 rfl ?_
  refine J_iload_n o dX0_knownColumns_8 rfl ?_
  refine J_icmp_ge 55 o dX0_knownColumns_9 (by decide) r_x5 r_x2 (fun c1 => ?_) (fun c2 => ?_)
  · have hf := ite_t c1 hf
    refine J_iload o dX0_knownColumns_55 rfl ?_
    have hf := some_inj hf
    subst hf
    exact hc _ _ r_x4 dX0_knownColumns_57
  · have hf := ite_f c2 hf
    refine J_aload_n o dX0_knownColumns_12 rfl ?_
    refine J_iload_n o dX0_knownColumns_13 rfl ?_
    refine J_iload o dX0_knownColumns_14 rfl ?_
    obtain ⟨v4, e3, hf⟩ := bnd_some hf
    refine J_vI o g kr dX0_knownColumns_16 lkX0_53 ml_Bo_termOf vl_Bo_termOf ⟨rfl, rfl, Nat.le_of_ble_eq_true rfl, Nat.le_of_ble_eq_true rfl⟩ (c_Bo_termOf g.2.1 k_t0 r_x1 r_x5 e3) k_t0 rfl ⟨by decide, by decide⟩ rfl rfl c1s_0 (fun q5 => ?_)
    refine J_istore o dX0_knownColumns_19 (Nat.le_of_ble_eq_true rfl) ?_
    refine J_iload o dX0_knownColumns_21 rfl ?_
    refine J_iload o dX0_knownColumns_23 rfl ?_
    refine J_if_ge 38 o dX0_knownColumns_25 (by decide) q5 (fun c6 => ?_) (fun c7 => ?_)
    · have hf := ite_t c6 hf
      exact t_Bo_knownColumns_38 k k_t0 r_x1 r_x2 r_x3 r_x5 r_x4 hf hc
    · have hf := ite_f c7 hf
      refine J_iload o dX0_knownColumns_28 rfl ?_
      obtain ⟨v9, e8, hf⟩ := bnd_some hf
      refine J_sI o g kr dX0_knownColumns_30 lkX0_61 ml_Dm_variableBit mw778 ⟨rfl, rfl, Nat.le_of_ble_eq_true rfl, Nat.le_of_ble_eq_true rfl⟩ (c_Dm_variableBit g.2.1 q5 e8) rfl rfl (c1s_i c1s_0 (Nat.le_of_ble_eq_true rfl)) (fun q10 => ?_)
      refine J_iload_n o dX0_knownColumns_33 rfl ?_
      refine J_iand o dX0_knownColumns_34 ?_
      refine J_if_eq 45 o dX0_knownColumns_35 (by decide) (R_iand _ _) (fun c11 => ?_) (fun c12 => ?_)
      · have hf := ite_t c11 hf
        refine J_iconst o dX0_knownColumns_45 ?_
        exact t_Bo_knownColumns_46 k k_t0 r_x1 r_x2 r_x3 r_x5 r_x4 rl0 hf hc
      · have hf := ite_f c12 hf
        exact t_Bo_knownColumns_38 k k_t0 r_x1 r_x2 r_x3 r_x5 r_x4 hf hc
noncomputable def f_Bo_knownColumns_6 (w : World) (t0 : Nat) (x1 : Int) (x2 : Int) (x3 : Int) (x4 : Int) (x5 : Int) : Option Int :=
  lp (fun z : (Int × Int) => f_Bo_knownColumns_6B w t0 x1 x2 x3 z.1 z.2) (x4, x5)
theorem t_Bo_knownColumns_6 {E : EE} {K : KT} {l : Launch} {H0 : Heap} (k : Kof TA E K l cX0_knownColumns RX0 rm_Bo_knownColumns) {w : World} {t0 : Nat} {x1 : Int} {x2 : Int} {x3 : Int} {x4 : Int} {x5 : Int} (k_t0 : TA.kd t0 = 1) (r_x1 : R32 x1) (r_x2 : R32 x2) (r_x3 : R32 x3) {out : Int} (hf : f_Bo_knownColumns_6 w t0 x1 x2 x3 x4 x5 = some out) (hc : (fun out : Int => RetI TA E K H0 cX0_knownColumns w out) out) : HW_Bo_knownColumns_6 E K H0 w t0 x1 x2 x3 (x4, x5) := by
  unfold f_Bo_knownColumns_6 at hf
  refine lp_ind (P := HW_Bo_knownColumns_6 E K H0 w t0 x1 x2 x3) hf ?_
  intro z o hs h1 h2
  intro r_x4 r_x5
  intro o6
  refine t_Bo_knownColumns_6B k k_t0 r_x1 r_x2 r_x3 r_x4 r_x5 hs ?_
  cases o with
  | inl z' => exact h1 z' rfl
  | inr r' => rw [h2 r' rfl]; exact hc
noncomputable def f_Bo_knownColumns (w : World) (t0 : Nat) (x1 : Int) (x2 : Int) (x3 : Int) : Option Int :=
  f_Bo_knownColumns_6 w t0 x1 x2 x3 0 0
theorem t_Bo_knownColumns_0 {E : EE} {K : KT} {l : Launch} {H0 : Heap} (k : Kof TA E K l cX0_knownColumns RX0 rm_Bo_knownColumns) {w : World} {t0 : Nat} {x1 : Int} {x2 : Int} {x3 : Int} {o4 o5 o6 : Option Value} (k_t0 : TA.kd t0 = 1) (r_x1 : R32 x1) (r_x2 : R32 x2) (r_x3 : R32 x3) {out : Int} (hf : f_Bo_knownColumns w t0 x1 x2 x3 = some out) (hc : (fun out : Int => RetI TA E K H0 cX0_knownColumns w out) out) : Jj K (WdT TA E H0) w 0 [some (rf E.ad t0), some (.int (ii x1)), some (.int (ii x2)), some (.int (ii x3)), o4, o5, o6] [] := by
  unfold f_Bo_knownColumns at hf
  have o := k.1
  have g := k.2.1
  have kr := k.2.2.1
  refine J_iconst o dX0_knownColumns_0 ?_
  refine J_istore o dX0_knownColumns_1 (Nat.le_of_ble_eq_true rfl) ?_
  refine J_iconst o dX0_knownColumns_3 ?_
  refine J_istore o dX0_knownColumns_4 (Nat.le_of_ble_eq_true rfl) ?_
  exact (t_Bo_knownColumns_6 k k_t0 r_x1 r_x2 r_x3 hf hc) rl0 rl0 _
theorem c_Bo_knownColumns {E : EE} {l : Launch} (hI : Inj TA E) {w : World} {t0 : Nat} {x1 : Int} {x2 : Int} {x3 : Int} (k_t0 : TA.kd t0 = 1) (r_x1 : R32 x1) (r_x2 : R32 x2) (r_x3 : R32 x3) {out : Int} (hf : f_Bo_knownColumns w t0 x1 x2 x3 = some out) : ConI TA E l yX0_knownColumns (WS yX0_knownColumns cX0_knownColumns 7 (some .int)) rm_Bo_knownColumns [rf E.ad t0, .int (ii x1), .int (ii x2), .int (ii x3)] w w out :=
  con_I (by decide +kernel) rfl (Nat.le_of_ble_eq_true rfl) (c1s_r (c1s_i (c1s_i (c1s_i c1s_0 (Nat.le_of_ble_eq_true rfl)) (Nat.le_of_ble_eq_true rfl)) (Nat.le_of_ble_eq_true rfl)) (Nat.le_of_ble_eq_true rfl)).1 ⟨rfl, rfl⟩ hI TnA (fun K H0 k hret => t_Bo_knownColumns_0 k k_t0 r_x1 r_x2 r_x3 hf hret)
abbrev rm_Fa_append : Room := { frames := 1, cells := 0, slots := 0, locals := 24 }
noncomputable def f_Fa_append (w : World) (x1 : Int) (x2 : Int) (x3 : Int) (x4 : Int) (x5 : Int) : Option World :=
  bl (w 7 0) fun n2 => if n2 < 0 then (some w) else (if 24 ≤ n2 then (some w) else (gd (0 ≤ n2 ∧ n2 < 24) (bl (up w 8 n2.toNat x1) fun w8 => gd (0 ≤ n2 ∧ n2 < 24) (bl (up w8 9 n2.toNat x2) fun w10 => gd (0 ≤ n2 ∧ n2 < 24) (bl (up w10 10 n2.toNat x3) fun w12 => gd (0 ≤ n2 ∧ n2 < 24) (bl (up w12 11 n2.toNat x4) fun w14 => gd (0 ≤ n2 ∧ n2 < 24) (bl (up w14 12 n2.toNat x5) fun w16 => gd (0 ≤ n2 ∧ n2 < 24) (bl (up w16 13 n2.toNat 0) fun w18 => bl (up w18 7 0 (wr ((w18 7 0) + 1))) fun w20 => bl (up w20 7 1 (wr ((w20 7 1) + 1))) fun w22 => some w22))))))))
theorem t_Fa_append_0 {E : EE} {K : KT} {l : Launch} {H0 : Heap} (k : Kof TA E K l cX2_append RX2 rm_Fa_append) {w : World} {x1 : Int} {x2 : Int} {x3 : Int} {x4 : Int} {x5 : Int} {o6 : Option Value} (r_x1 : R32 x1) (r_x2 : R32 x2) (r_x3 : R32 x3) (r_x4 : R32 x4) (r_x5 : R32 x5) {out : World} (hf : f_Fa_append w x1 x2 x3 x4 x5 = some out) (hc : (fun out : World => RetV TA E K H0 cX2_append out) out) : Jj K (WdT TA E H0) w 0 [some (rf E.ad 7), some (.int (ii x1)), some (.int (ii x2)), some (.int (ii x3)), some (.int (ii x4)), some (.int (ii x5)), o6] [] := by
  unfold f_Fa_append at hf
  have o := k.1
  have g := k.2.1
  have kr := k.2.2.1
  refine J_aload_n o dX2_append_0 rfl ?_
  refine J_getI o g dX2_append_1 flX2_31 kA_7 rfl (fun q1 => ?_)
  refine J_istore o dX2_append_4 (Nat.le_of_ble_eq_true rfl) ?_
  have hf := bl_out hf
  refine J_iload o dX2_append_6 rfl ?_
  refine J_if_lt 88 o dX2_append_8 (by decide) q1 (fun c3 => ?_) (fun c4 => ?_)
  · have hf := ite_t c3 hf
    have hf := some_inj hf
    subst hf
    exact hc _ _  dX2_append_88
  · have hf := ite_f c4 hf
    refine J_iload o dX2_append_11 rfl ?_
    refine J_bipush o dX2_append_13 (by decide) ?_
    refine J_icmp_ge 88 o dX2_append_15 (by decide) q1 rl24 (fun c5 => ?_) (fun c6 => ?_)
    · have hf := ite_t c5 hf
      have hf := some_inj hf
      subst hf
      exact hc _ _  dX2_append_88
    · have hf := ite_f c6 hf
      refine J_aload_n o dX2_append_18 rfl ?_
      refine J_getF (true, 8) o g dX2_append_19 flX2_9 kA_7 rfl rfl rfl ?_
      refine J_iload o dX2_append_22 rfl ?_
      refine J_iload_n o dX2_append_24 rfl ?_
      obtain ⟨g7, hf⟩ := gd_some hf
      refine J_iast o g dX2_append_25 kA_8 (fxA_40 _) q1 zA_8 g7 r_x1 ?_
      have hf := bl_out hf
      refine J_aload_n o dX2_append_26 rfl ?_
      refine J_getF (true, 9) o g dX2_append_27 flX2_15 kA_7 rfl rfl rfl ?_
      refine J_iload o dX2_append_30 rfl ?_
      refine J_iload_n o dX2_append_32 rfl ?_
      obtain ⟨g9, hf⟩ := gd_some hf
      refine J_iast o g dX2_append_33 kA_9 (fxA_40 _) q1 zA_9 g9 r_x2 ?_
      have hf := bl_out hf
      refine J_aload_n o dX2_append_34 rfl ?_
      refine J_getF (true, 10) o g dX2_append_35 flX2_18 kA_7 rfl rfl rfl ?_
      refine J_iload o dX2_append_38 rfl ?_
      refine J_iload_n o dX2_append_40 rfl ?_
      obtain ⟨g11, hf⟩ := gd_some hf
      refine J_iast o g dX2_append_41 kA_10 (fxA_40 _) q1 zA_10 g11 r_x3 ?_
      have hf := bl_out hf
      refine J_aload_n o dX2_append_42 rfl ?_
      refine J_getF (true, 11) o g dX2_append_43 flX2_21 kA_7 rfl rfl rfl ?_
      refine J_iload o dX2_append_46 rfl ?_
      refine J_iload o dX2_append_48 rfl ?_
      obtain ⟨g13, hf⟩ := gd_some hf
      refine J_iast o g dX2_append_50 kA_11 (fxA_40 _) q1 zA_11 g13 r_x4 ?_
      have hf := bl_out hf
      refine J_aload_n o dX2_append_51 rfl ?_
      refine J_getF (true, 12) o g dX2_append_52 flX2_24 kA_7 rfl rfl rfl ?_
      refine J_iload o dX2_append_55 rfl ?_
      refine J_iload o dX2_append_57 rfl ?_
      obtain ⟨g15, hf⟩ := gd_some hf
      refine J_iast o g dX2_append_59 kA_12 (fxA_40 _) q1 zA_12 g15 r_x5 ?_
      have hf := bl_out hf
      refine J_aload_n o dX2_append_60 rfl ?_
      refine J_getF (true, 13) o g dX2_append_61 flX2_27 kA_7 rfl rfl rfl ?_
      refine J_iload o dX2_append_64 rfl ?_
      refine J_iconst o dX2_append_66 ?_
      obtain ⟨g17, hf⟩ := gd_some hf
      refine J_zast o g dX2_append_67 kA_13 (fxA_41 _) q1 zA_13 g17 (Or.inl rfl) ?_
      have hf := bl_out hf
      refine J_aload_n o dX2_append_68 rfl ?_
      refine J_dup o dX2_append_69 rf_cat ?_
      refine J_getI o g dX2_append_70 flX2_31 kA_7 rfl (fun q19 => ?_)
      refine J_iconst o dX2_append_73 ?_
      refine J_iadd o dX2_append_74 ?_
      refine J_putI o g dX2_append_75 fpX2_31 kA_7 rfl rfl (R_wr _) ?_
      have hf := bl_out hf
      refine J_aload_n o dX2_append_78 rfl ?_
      refine J_dup o dX2_append_79 rf_cat ?_
      refine J_getI o g dX2_append_80 flX2_35 kA_7 rfl (fun q21 => ?_)
      refine J_iconst o dX2_append_83 ?_
      refine J_iadd o dX2_append_84 ?_
      refine J_putI o g dX2_append_85 fpX2_35 kA_7 rfl rfl (R_wr _) ?_
      have hf := bl_out hf
      have hf := some_inj hf
      subst hf
      exact hc _ _  dX2_append_88
theorem c_Fa_append {E : EE} {l : Launch} (hI : Inj TA E) {w : World} {x1 : Int} {x2 : Int} {x3 : Int} {x4 : Int} {x5 : Int} (r_x1 : R32 x1) (r_x2 : R32 x2) (r_x3 : R32 x3) (r_x4 : R32 x4) (r_x5 : R32 x5) {out : World} (hf : f_Fa_append w x1 x2 x3 x4 x5 = some out) : ConV TA E l yX2_append (WS yX2_append cX2_append 7 none) rm_Fa_append [rf E.ad 7, .int (ii x1), .int (ii x2), .int (ii x3), .int (ii x4), .int (ii x5)] w out :=
  con_V (by decide +kernel) rfl (Nat.le_of_ble_eq_true rfl) (c1s_r (c1s_i (c1s_i (c1s_i (c1s_i (c1s_i c1s_0 (Nat.le_of_ble_eq_true rfl)) (Nat.le_of_ble_eq_true rfl)) (Nat.le_of_ble_eq_true rfl)) (Nat.le_of_ble_eq_true rfl)) (Nat.le_of_ble_eq_true rfl)) (Nat.le_of_ble_eq_true rfl)).1 ⟨rfl, rfl⟩ hI TnA (fun K H0 k hret => t_Fa_append_0 k r_x1 r_x2 r_x3 r_x4 r_x5 hf hret)
abbrev rm_Fa_takeBack : Room := { frames := 1, cells := 0, slots := 0, locals := 24 }
noncomputable def f_Fa_takeBack (w : World) : Option World :=
  bl (up w 7 0 (wr ((w 7 0) - 1))) fun w2 => bl (up w2 7 1 (wr ((w2 7 1) - 1))) fun w4 => some w4
theorem t_Fa_takeBack_0 {E : EE} {K : KT} {l : Launch} {H0 : Heap} (k : Kof TA E K l cX2_takeBack RX2 rm_Fa_takeBack) {w : World}  {out : World} (hf : f_Fa_takeBack w = some out) (hc : (fun out : World => RetV TA E K H0 cX2_takeBack out) out) : Jj K (WdT TA E H0) w 0 [some (rf E.ad 7)] [] := by
  unfold f_Fa_takeBack at hf
  have o := k.1
  have g := k.2.1
  have kr := k.2.2.1
  refine J_aload_n o dX2_takeBack_0 rfl ?_
  refine J_dup o dX2_takeBack_1 rf_cat ?_
  refine J_getI o g dX2_takeBack_2 flX2_31 kA_7 rfl (fun q1 => ?_)
  refine J_iconst o dX2_takeBack_5 ?_
  refine J_isub o dX2_takeBack_6 ?_
  refine J_putI o g dX2_takeBack_7 fpX2_31 kA_7 rfl rfl (R_wr _) ?_
  have hf := bl_out hf
  refine J_aload_n o dX2_takeBack_10 rfl ?_
  refine J_dup o dX2_takeBack_11 rf_cat ?_
  refine J_getI o g dX2_takeBack_12 flX2_35 kA_7 rfl (fun q3 => ?_)
  refine J_iconst o dX2_takeBack_15 ?_
  refine J_isub o dX2_takeBack_16 ?_
  refine J_putI o g dX2_takeBack_17 fpX2_35 kA_7 rfl rfl (R_wr _) ?_
  have hf := bl_out hf
  have hf := some_inj hf
  subst hf
  exact hc _ _  dX2_takeBack_20
theorem c_Fa_takeBack {E : EE} {l : Launch} (hI : Inj TA E) {w : World}  {out : World} (hf : f_Fa_takeBack w = some out) : ConV TA E l yX2_takeBack (WS yX2_takeBack cX2_takeBack 1 none) rm_Fa_takeBack [rf E.ad 7] w out :=
  con_V (by decide +kernel) rfl (Nat.le_of_ble_eq_true rfl) (c1s_r c1s_0 (Nat.le_of_ble_eq_true rfl)).1 ⟨rfl, rfl⟩ hI TnA (fun K H0 k hret => t_Fa_takeBack_0 k  hf hret)
abbrev rm_Fa_setDropped : Room := { frames := 2, cells := 0, slots := 0, locals := 45 }
noncomputable def f_Fa_setDropped_39 (w : World) (s1 : Int) (s2 : Int) : Option World :=
  bl (up w 7 1 (wr (s1 + s2))) fun w1 => some w1
theorem t_Fa_setDropped_39 {E : EE} {K : KT} {l : Launch} {H0 : Heap} (k : Kof TA E K l cX2_setDropped RX2 rm_Fa_setDropped) {w : World} {s1 : Int} {s2 : Int} {o0 o1 o2 : Option Value} (r_s1 : R32 s1) (r_s2 : R32 s2) {out : World} (hf : f_Fa_setDropped_39 w s1 s2 = some out) (hc : (fun out : World => RetV TA E K H0 cX2_setDropped out) out) : Jj K (WdT TA E H0) w 39 [o0, o1, o2] [.int (ii s2), .int (ii s1), rf E.ad 7] := by
  unfold f_Fa_setDropped_39 at hf
  have o := k.1
  have g := k.2.1
  have kr := k.2.2.1
  refine J_iadd o dX2_setDropped_39 ?_
  refine J_putI o g dX2_setDropped_40 fpX2_35 kA_7 rfl rfl (R_wr _) ?_
  have hf := bl_out hf
  have hf := some_inj hf
  subst hf
  exact hc _ _  dX2_setDropped_43
noncomputable def f_Fa_setDropped (w : World) (x1 : Int) (x2 : Int) : Option World :=
  bnd (f_Fa_isFact w x1) fun v2 => if v2 = 0 then (some w) else (gd (0 ≤ x1 ∧ x1 < 24) (if (w 13 x1.toNat) = x2 then (some w) else (gd (0 ≤ x1 ∧ x1 < 24) (gd (x2 = 0 ∨ x2 = 1) (bl (up w 13 x1.toNat x2) fun w12 => if x2 = 0 then (f_Fa_setDropped_39 w12 (w12 7 1) 1) else (f_Fa_setDropped_39 w12 (w12 7 1) (-1)))))))
theorem t_Fa_setDropped_0 {E : EE} {K : KT} {l : Launch} {H0 : Heap} (k : Kof TA E K l cX2_setDropped RX2 rm_Fa_setDropped) {w : World} {x1 : Int} {x2 : Int} (r_x1 : R32 x1) (r_x2 : R32 x2) {out : World} (hf : f_Fa_setDropped w x1 x2 = some out) (hc : (fun out : World => RetV TA E K H0 cX2_setDropped out) out) : Jj K (WdT TA E H0) w 0 [some (rf E.ad 7), some (.int (ii x1)), some (.int (ii x2))] [] := by
  unfold f_Fa_setDropped at hf
  have o := k.1
  have g := k.2.1
  have kr := k.2.2.1
  refine J_aload_n o dX2_setDropped_0 rfl ?_
  refine J_iload_n o dX2_setDropped_1 rfl ?_
  obtain ⟨v2, e1, hf⟩ := bnd_some hf
  refine J_vI o g kr dX2_setDropped_2 lkX2_38 ml_Fa_isFact vl_Fa_isFact ⟨rfl, rfl, Nat.le_of_ble_eq_true rfl, Nat.le_of_ble_eq_true rfl⟩ (c_Fa_isFact g.2.1 r_x1 e1) kA_7 rfl ⟨by decide, by decide⟩ rfl rfl c1s_0 (fun q3 => ?_)
  refine J_if_eq 43 o dX2_setDropped_5 (by decide) q3 (fun c4 => ?_) (fun c5 => ?_)
  · have hf := ite_t c4 hf
    have hf := some_inj hf
    subst hf
    exact hc _ _  dX2_setDropped_43
  · have hf := ite_f c5 hf
    refine J_aload_n o dX2_setDropped_8 rfl ?_
    refine J_getF (true, 13) o g dX2_setDropped_9 flX2_27 kA_7 rfl rfl rfl ?_
    refine J_iload_n o dX2_setDropped_12 rfl ?_
    obtain ⟨g6, hf⟩ := gd_some hf
    refine J_zald o g dX2_setDropped_13 kA_13 r_x1 zA_13 g6 (fun q7 => ?_)
    refine J_iload_n o dX2_setDropped_14 rfl ?_
    refine J_icmp_eq 43 o dX2_setDropped_15 (by decide) q7 r_x2 (fun c8 => ?_) (fun c9 => ?_)
    · have hf := ite_t c8 hf
      have hf := some_inj hf
      subst hf
      exact hc _ _  dX2_setDropped_43
    · have hf := ite_f c9 hf
      refine J_aload_n o dX2_setDropped_18 rfl ?_
      refine J_getF (true, 13) o g dX2_setDropped_19 flX2_27 kA_7 rfl rfl rfl ?_
      refine J_iload_n o dX2_setDropped_22 rfl ?_
      refine J_iload_n o dX2_setDropped_23 rfl ?_
      obtain ⟨g10, hf⟩ := gd_some hf
      obtain ⟨g11, hf⟩ := gd_some hf
      refine J_zast o g dX2_setDropped_24 kA_13 (fxA_41 _) r_x1 zA_13 g10 g11 ?_
      have hf := bl_out hf
      refine J_aload_n o dX2_setDropped_25 rfl ?_
      refine J_dup o dX2_setDropped_26 rf_cat ?_
      refine J_getI o g dX2_setDropped_27 flX2_35 kA_7 rfl (fun q13 => ?_)
      refine J_iload_n o dX2_setDropped_30 rfl ?_
      refine J_if_eq 38 o dX2_setDropped_31 (by decide) r_x2 (fun c14 => ?_) (fun c15 => ?_)
      · have hf := ite_t c14 hf
        refine J_iconst o dX2_setDropped_38 ?_
        exact t_Fa_setDropped_39 k q13 rl1 hf hc
      · have hf := ite_f c15 hf
        refine J_iconst o dX2_setDropped_34 ?_
        refine J_goto 39 o dX2_setDropped_35 (by decide) ?_
        exact t_Fa_setDropped_39 k q13 rlm1 hf hc
theorem c_Fa_setDropped {E : EE} {l : Launch} (hI : Inj TA E) {w : World} {x1 : Int} {x2 : Int} (r_x1 : R32 x1) (r_x2 : R32 x2) {out : World} (hf : f_Fa_setDropped w x1 x2 = some out) : ConV TA E l yX2_setDropped (WS yX2_setDropped cX2_setDropped 3 none) rm_Fa_setDropped [rf E.ad 7, .int (ii x1), .int (ii x2)] w out :=
  con_V (by decide +kernel) rfl (Nat.le_of_ble_eq_true rfl) (c1s_r (c1s_i (c1s_i c1s_0 (Nat.le_of_ble_eq_true rfl)) (Nat.le_of_ble_eq_true rfl)) (Nat.le_of_ble_eq_true rfl)).1 ⟨rfl, rfl⟩ hI TnA (fun K H0 k hret => t_Fa_setDropped_0 k r_x1 r_x2 hf hret)
abbrev rm_Fa_isDropped : Room := { frames := 2, cells := 0, slots := 0, locals := 45 }
noncomputable def f_Fa_isDropped (w : World) (x1 : Int) : Option Int :=
  bnd (f_Fa_isFact w x1) fun v2 => if v2 = 0 then (some 0) else (gd (0 ≤ x1 ∧ x1 < 24) (if (w 13 x1.toNat) = 0 then (some 0) else (some 1)))
theorem t_Fa_isDropped_0 {E : EE} {K : KT} {l : Launch} {H0 : Heap} (k : Kof TA E K l cX2_isDropped RX2 rm_Fa_isDropped) {w : World} {x1 : Int} (r_x1 : R32 x1) {out : Int} (hf : f_Fa_isDropped w x1 = some out) (hc : (fun out : Int => RetZ TA E K H0 cX2_isDropped w out) out) : Jj K (WdT TA E H0) w 0 [some (rf E.ad 7), some (.int (ii x1))] [] := by
  unfold f_Fa_isDropped at hf
  have o := k.1
  have g := k.2.1
  have kr := k.2.2.1
  refine J_aload_n o dX2_isDropped_0 rfl ?_
  refine J_iload_n o dX2_isDropped_1 rfl ?_
  obtain ⟨v2, e1, hf⟩ := bnd_some hf
  refine J_vI o g kr dX2_isDropped_2 lkX2_38 ml_Fa_isFact vl_Fa_isFact ⟨rfl, rfl, Nat.le_of_ble_eq_true rfl, Nat.le_of_ble_eq_true rfl⟩ (c_Fa_isFact g.2.1 r_x1 e1) kA_7 rfl ⟨by decide, by decide⟩ rfl rfl c1s_0 (fun q3 => ?_)
  refine J_if_eq 21 o dX2_isDropped_5 (by decide) q3 (fun c4 => ?_) (fun c5 => ?_)
  · have hf := ite_t c4 hf
    refine J_iconst o dX2_isDropped_21 ?_
    have hf := some_inj hf
    subst hf
    exact hc _ _ (Or.inl rfl) dX2_isDropped_22
  · have hf := ite_f c5 hf
    refine J_aload_n o dX2_isDropped_8 rfl ?_
    refine J_getF (true, 13) o g dX2_isDropped_9 flX2_27 kA_7 rfl rfl rfl ?_
    refine J_iload_n o dX2_isDropped_12 rfl ?_
    obtain ⟨g6, hf⟩ := gd_some hf
    refine J_zald o g dX2_isDropped_13 kA_13 r_x1 zA_13 g6 (fun q7 => ?_)
    refine J_if_eq 21 o dX2_isDropped_14 (by decide) q7 (fun c8 => ?_) (fun c9 => ?_)
    · have hf := ite_t c8 hf
      refine J_iconst o dX2_isDropped_21 ?_
      have hf := some_inj hf
      subst hf
      exact hc _ _ (Or.inl rfl) dX2_isDropped_22
    · have hf := ite_f c9 hf
      refine J_iconst o dX2_isDropped_17 ?_
      refine J_goto 22 o dX2_isDropped_18 (by decide) ?_
      have hf := some_inj hf
      subst hf
      exact hc _ _ (Or.inr rfl) dX2_isDropped_22
theorem c_Fa_isDropped {E : EE} {l : Launch} (hI : Inj TA E) {w : World} {x1 : Int} (r_x1 : R32 x1) {out : Int} (hf : f_Fa_isDropped w x1 = some out) : ConI TA E l yX2_isDropped (WS yX2_isDropped cX2_isDropped 2 (some .boolean)) rm_Fa_isDropped [rf E.ad 7, .int (ii x1)] w w out :=
  con_Z (by decide +kernel) rfl (Nat.le_of_ble_eq_true rfl) (c1s_r (c1s_i c1s_0 (Nat.le_of_ble_eq_true rfl)) (Nat.le_of_ble_eq_true rfl)).1 ⟨rfl, rfl⟩ hI TnA (fun K H0 k hret => t_Fa_isDropped_0 k r_x1 hf hret)
abbrev rm_Fa_fromOf : Room := { frames := 2, cells := 0, slots := 0, locals := 45 }
noncomputable def f_Fa_fromOf (w : World) (x1 : Int) : Option Int :=
  bnd (f_Fa_isFact w x1) fun v2 => if v2 = 0 then (some 0) else (gd (0 ≤ x1 ∧ x1 < 24) (some (w 11 x1.toNat)))
theorem t_Fa_fromOf_0 {E : EE} {K : KT} {l : Launch} {H0 : Heap} (k : Kof TA E K l cX2_fromOf RX2 rm_Fa_fromOf) {w : World} {x1 : Int} (r_x1 : R32 x1) {out : Int} (hf : f_Fa_fromOf w x1 = some out) (hc : (fun out : Int => RetI TA E K H0 cX2_fromOf w out) out) : Jj K (WdT TA E H0) w 0 [some (rf E.ad 7), some (.int (ii x1))] [] := by
  unfold f_Fa_fromOf at hf
  have o := k.1
  have g := k.2.1
  have kr := k.2.2.1
  refine J_aload_n o dX2_fromOf_0 rfl ?_
  refine J_iload_n o dX2_fromOf_1 rfl ?_
  obtain ⟨v2, e1, hf⟩ := bnd_some hf
  refine J_vI o g kr dX2_fromOf_2 lkX2_38 ml_Fa_isFact vl_Fa_isFact ⟨rfl, rfl, Nat.le_of_ble_eq_true rfl, Nat.le_of_ble_eq_true rfl⟩ (c_Fa_isFact g.2.1 r_x1 e1) kA_7 rfl ⟨by decide, by decide⟩ rfl rfl c1s_0 (fun q3 => ?_)
  refine J_if_eq 17 o dX2_fromOf_5 (by decide) q3 (fun c4 => ?_) (fun c5 => ?_)
  · have hf := ite_t c4 hf
    refine J_iconst o dX2_fromOf_17 ?_
    have hf := some_inj hf
    subst hf
    exact hc _ _ rl0 dX2_fromOf_18
  · have hf := ite_f c5 hf
    refine J_aload_n o dX2_fromOf_8 rfl ?_
    refine J_getF (true, 11) o g dX2_fromOf_9 flX2_21 kA_7 rfl rfl rfl ?_
    refine J_iload_n o dX2_fromOf_12 rfl ?_
    obtain ⟨g6, hf⟩ := gd_some hf
    refine J_iald o g dX2_fromOf_13 kA_11 r_x1 zA_11 g6 (fun q7 => ?_)
    refine J_goto 18 o dX2_fromOf_14 (by decide) ?_
    have hf := some_inj hf
    subst hf
    exact hc _ _ q7 dX2_fromOf_18
theorem c_Fa_fromOf {E : EE} {l : Launch} (hI : Inj TA E) {w : World} {x1 : Int} (r_x1 : R32 x1) {out : Int} (hf : f_Fa_fromOf w x1 = some out) : ConI TA E l yX2_fromOf (WS yX2_fromOf cX2_fromOf 2 (some .int)) rm_Fa_fromOf [rf E.ad 7, .int (ii x1)] w w out :=
  con_I (by decide +kernel) rfl (Nat.le_of_ble_eq_true rfl) (c1s_r (c1s_i c1s_0 (Nat.le_of_ble_eq_true rfl)) (Nat.le_of_ble_eq_true rfl)).1 ⟨rfl, rfl⟩ hI TnA (fun K H0 k hret => t_Fa_fromOf_0 k r_x1 hf hret)
abbrev rm_Fa_toOf : Room := { frames := 2, cells := 0, slots := 0, locals := 45 }
noncomputable def f_Fa_toOf (w : World) (x1 : Int) : Option Int :=
  bnd (f_Fa_isFact w x1) fun v2 => if v2 = 0 then (some (-1)) else (gd (0 ≤ x1 ∧ x1 < 24) (some (w 12 x1.toNat)))
theorem t_Fa_toOf_0 {E : EE} {K : KT} {l : Launch} {H0 : Heap} (k : Kof TA E K l cX2_toOf RX2 rm_Fa_toOf) {w : World} {x1 : Int} (r_x1 : R32 x1) {out : Int} (hf : f_Fa_toOf w x1 = some out) (hc : (fun out : Int => RetI TA E K H0 cX2_toOf w out) out) : Jj K (WdT TA E H0) w 0 [some (rf E.ad 7), some (.int (ii x1))] [] := by
  unfold f_Fa_toOf at hf
  have o := k.1
  have g := k.2.1
  have kr := k.2.2.1
  refine J_aload_n o dX2_toOf_0 rfl ?_
  refine J_iload_n o dX2_toOf_1 rfl ?_
  obtain ⟨v2, e1, hf⟩ := bnd_some hf
  refine J_vI o g kr dX2_toOf_2 lkX2_38 ml_Fa_isFact vl_Fa_isFact ⟨rfl, rfl, Nat.le_of_ble_eq_true rfl, Nat.le_of_ble_eq_true rfl⟩ (c_Fa_isFact g.2.1 r_x1 e1) kA_7 rfl ⟨by decide, by decide⟩ rfl rfl c1s_0 (fun q3 => ?_)
  refine J_if_eq 17 o dX2_toOf_5 (by decide) q3 (fun c4 => ?_) (fun c5 => ?_)
  · have hf := ite_t c4 hf
    refine J_iconst o dX2_toOf_17 ?_
    have hf := some_inj hf
    subst hf
    exact hc _ _ rlm1 dX2_toOf_18
  · have hf := ite_f c5 hf
    refine J_aload_n o dX2_toOf_8 rfl ?_
    refine J_getF (true, 12) o g dX2_toOf_9 flX2_24 kA_7 rfl rfl rfl ?_
    refine J_iload_n o dX2_toOf_12 rfl ?_
    obtain ⟨g6, hf⟩ := gd_some hf
    refine J_iald o g dX2_toOf_13 kA_12 r_x1 zA_12 g6 (fun q7 => ?_)
    refine J_goto 18 o dX2_toOf_14 (by decide) ?_
    have hf := some_inj hf
    subst hf
    exact hc _ _ q7 dX2_toOf_18
theorem c_Fa_toOf {E : EE} {l : Launch} (hI : Inj TA E) {w : World} {x1 : Int} (r_x1 : R32 x1) {out : Int} (hf : f_Fa_toOf w x1 = some out) : ConI TA E l yX2_toOf (WS yX2_toOf cX2_toOf 2 (some .int)) rm_Fa_toOf [rf E.ad 7, .int (ii x1)] w w out :=
  con_I (by decide +kernel) rfl (Nat.le_of_ble_eq_true rfl) (c1s_r (c1s_i c1s_0 (Nat.le_of_ble_eq_true rfl)) (Nat.le_of_ble_eq_true rfl)).1 ⟨rfl, rfl⟩ hI TnA (fun K H0 k hret => t_Fa_toOf_0 k r_x1 hf hret)
abbrev rm_Go_empty : Room := { frames := 1, cells := 0, slots := 0, locals := 24 }
def HW_Go_empty_7 (E : EE) (K : KT) (H0 : Heap)  : (World × Int) → Prop := fun z => R32 z.2 → Jj K (WdT TA E H0) z.1 7 [some (rf E.ad 152), some (.int (ii z.2))] []
noncomputable def f_Go_empty_7B (w : World) (x1 : Int) : Option ((World × Int) ⊕ World) :=
  if 1024 ≤ x1 then (some (Sum.inr w)) else (gd (0 ≤ x1 ∧ x1 < 1024) (bl (up w 154 x1.toNat 0) fun w4 => bl (wr (x1 + 1)) fun n5 => some (Sum.inl (w4, n5))))
theorem t_Go_empty_7B {E : EE} {K : KT} {l : Launch} {H0 : Heap} (k : Kof TA E K l cX3_empty RX3 rm_Go_empty) {w : World} {x1 : Int} (r_x1 : R32 x1) {out : ((World × Int) ⊕ World)} (hf : f_Go_empty_7B w x1 = some out) (hc : (Sum.elim (HW_Go_empty_7 E K H0 ) (fun out : World => RetV TA E K H0 cX3_empty out)) out) : Jj K (WdT TA E H0) w 7 [some (rf E.ad 152), some (.int (ii x1))] [] := by
  unfold f_Go_empty_7B at hf
  have o := k.1
  have g := k.2.1
  have kr := k.2.2.1
  refine J_iload_n o dX3_empty_7 rfl ?_
  refine J_aload_n o dX3_empty_8 rfl ?_
  refine J_getF (true, 154) o g dX3_empty_9 flX3_15 kA_152 rfl rfl rfl ?_
  refine J_alen o g dX3_empty_12 kA_154 ⟨by decide, by decide⟩ zA_154 ?_
  refine J_icmp_ge 29 o dX3_empty_13 (by decide) r_x1 rl1024 (fun c1 => ?_) (fun c2 => ?_)
  · have hf := ite_t c1 hf
    have hf := some_inj hf
    subst hf
    exact hc _ _  dX3_empty_29
  · have hf := ite_f c2 hf
    refine J_aload_n o dX3_empty_16 rfl ?_
    refine J_getF (true, 154) o g dX3_empty_17 flX3_15 kA_152 rfl rfl rfl ?_
    refine J_iload_n o dX3_empty_20 rfl ?_
    refine J_iconst o dX3_empty_21 ?_
    obtain ⟨g3, hf⟩ := gd_some hf
    refine J_iast o g dX3_empty_22 kA_154 (fxA_40 _) r_x1 zA_154 g3 rl0 ?_
    have hf := bl_out hf
    have hf := bl_out hf
    refine J_iinc o dX3_empty_23 rfl ?_
    refine J_goto 7 o dX3_empty_26 (by decide) ?_
    have hf := some_inj hf
    subst hf
    exact hc (R_wr _) 
noncomputable def f_Go_empty_7 (w : World) (x1 : Int) : Option World :=
  lp (fun z : (World × Int) => f_Go_empty_7B z.1 z.2) (w, x1)
theorem t_Go_empty_7 {E : EE} {K : KT} {l : Launch} {H0 : Heap} (k : Kof TA E K l cX3_empty RX3 rm_Go_empty) {w : World} {x1 : Int}  {out : World} (hf : f_Go_empty_7 w x1 = some out) (hc : (fun out : World => RetV TA E K H0 cX3_empty out) out) : HW_Go_empty_7 E K H0  (w, x1) := by
  unfold f_Go_empty_7 at hf
  refine lp_ind (P := HW_Go_empty_7 E K H0 ) hf ?_
  intro z o hs h1 h2
  intro r_x1
  refine t_Go_empty_7B k r_x1 hs ?_
  cases o with
  | inl z' => exact h1 z' rfl
  | inr r' => rw [h2 r' rfl]; exact hc
noncomputable def f_Go_empty (w : World) : Option World :=
  bl (up w 152 0 0) fun w1 => f_Go_empty_7 w1 0
theorem t_Go_empty_0 {E : EE} {K : KT} {l : Launch} {H0 : Heap} (k : Kof TA E K l cX3_empty RX3 rm_Go_empty) {w : World} {o1 : Option Value}  {out : World} (hf : f_Go_empty w = some out) (hc : (fun out : World => RetV TA E K H0 cX3_empty out) out) : Jj K (WdT TA E H0) w 0 [some (rf E.ad 152), o1] [] := by
  unfold f_Go_empty at hf
  have o := k.1
  have g := k.2.1
  have kr := k.2.2.1
  refine J_aload_n o dX3_empty_0 rfl ?_
  refine J_iconst o dX3_empty_1 ?_
  refine J_putI o g dX3_empty_2 fpX3_18 kA_152 rfl rfl rl0 ?_
  have hf := bl_out hf
  refine J_iconst o dX3_empty_5 ?_
  refine J_istore_n o dX3_empty_6 (Nat.le_of_ble_eq_true rfl) ?_
  exact (t_Go_empty_7 k  hf hc) rl0 
theorem c_Go_empty {E : EE} {l : Launch} (hI : Inj TA E) {w : World}  {out : World} (hf : f_Go_empty w = some out) : ConV TA E l yX3_empty (WS yX3_empty cX3_empty 2 none) rm_Go_empty [rf E.ad 152] w out :=
  con_V (by decide +kernel) rfl (Nat.le_of_ble_eq_true rfl) (c1s_r c1s_0 (Nat.le_of_ble_eq_true rfl)).1 ⟨rfl, rfl⟩ hI TnA (fun K H0 k hret => t_Go_empty_0 k  hf hret)
abbrev rm_Mo_tuplesOf : Room := { frames := 2, cells := 0, slots := 0, locals := 45 }
def HW_Mo_tuplesOf_11 (E : EE) (K : KT) (H0 : Heap) (w : World) (t0 : Nat) : (Int × Int × Int) → Prop := fun z => R32 z.1 → R32 z.2.1 → R32 z.2.2 → ∀ o1 : Option Value, Jj K (WdT TA E H0) w 11 [some (rf E.ad t0), o1, some (.int (ii z.1)), some (.int (ii z.2.1)), some (.int (ii z.2.2))] []
noncomputable def f_Mo_tuplesOf_11B (w : World) (t0 : Nat) (x2 : Int) (x3 : Int) (x4 : Int) : Option ((Int × Int × Int) ⊕ Int) :=
  if 48 ≤ x4 then (some (Sum.inr x3)) else (if x2 = (-1) then (some (Sum.inr x3)) else (bl (wr (x3 + 1)) fun n5 => bnd (f_Mo_nextOf w t0 x2) fun v7 => bl (wr (x4 + 1)) fun n9 => some (Sum.inl (v7, n5, n9))))
theorem t_Mo_tuplesOf_11B {E : EE} {K : KT} {l : Launch} {H0 : Heap} (k : Kof TA E K l cX5_tuplesOf RX5 rm_Mo_tuplesOf) {w : World} {t0 : Nat} {x2 : Int} {x3 : Int} {x4 : Int} {o1 : Option Value} (k_t0 : TA.kd t0 = 6) (r_x2 : R32 x2) (r_x3 : R32 x3) (r_x4 : R32 x4) {out : ((Int × Int × Int) ⊕ Int)} (hf : f_Mo_tuplesOf_11B w t0 x2 x3 x4 = some out) (hc : (Sum.elim (HW_Mo_tuplesOf_11 E K H0 w t0) (fun out : Int => RetI TA E K H0 cX5_tuplesOf w out)) out) : Jj K (WdT TA E H0) w 11 [some (rf E.ad t0), o1, some (.int (ii x2)), some (.int (ii x3)), some (.int (ii x4))] [] := by
  unfold f_Mo_tuplesOf_11B at hf
  have o := k.1
  have g := k.2.1
  have kr := k.2.2.1
  refine J_iload o dX5_tuplesOf_11 rfl ?_
  refine J_bipush o dX5_tuplesOf_13 (by decide) ?_
  refine J_icmp_ge 38 o dX5_tuplesOf_15 (by decide) r_x4 rl48 (fun c1 => ?_) (fun c2 => ?_)
  · have hf := ite_t c1 hf
    refine J_iload_n o dX5_tuplesOf_38 rfl ?_
    have hf := some_inj hf
    subst hf
    exact hc _ _ r_x3 dX5_tuplesOf_39
  · have hf := ite_f c2 hf
    refine J_iload_n o dX5_tuplesOf_18 rfl ?_
    refine J_iconst o dX5_tuplesOf_19 ?_
    refine J_icmp_eq 38 o dX5_tuplesOf_20 (by decide) r_x2 rlm1 (fun c3 => ?_) (fun c4 => ?_)
    · have hf := ite_t c3 hf
      refine J_iload_n o dX5_tuplesOf_38 rfl ?_
      have hf := some_inj hf
      subst hf
      exact hc _ _ r_x3 dX5_tuplesOf_39
    · have hf := ite_f c4 hf
      have hf := bl_out hf
      refine J_iinc o dX5_tuplesOf_23 rfl ?_
      refine J_aload_n o dX5_tuplesOf_26 rfl ?_
      refine J_iload_n o dX5_tuplesOf_27 rfl ?_
      obtain ⟨v7, e6, hf⟩ := bnd_some hf
      refine J_vI o g kr dX5_tuplesOf_28 lkX5_40 ml_Mo_nextOf vl_Mo_nextOf ⟨rfl, rfl, Nat.le_of_ble_eq_true rfl, Nat.le_of_ble_eq_true rfl⟩ (c_Mo_nextOf g.2.1 k_t0 r_x2 e6) k_t0 rfl ⟨by decide, by decide⟩ rfl rfl c1s_0 (fun q8 => ?_)
      refine J_istore_n o dX5_tuplesOf_31 (Nat.le_of_ble_eq_true rfl) ?_
      have hf := bl_out hf
      refine J_iinc o dX5_tuplesOf_32 rfl ?_
      refine J_goto 11 o dX5_tuplesOf_35 (by decide) ?_
      have hf := some_inj hf
      subst hf
      exact hc q8 (R_wr _) (R_wr _) _
noncomputable def f_Mo_tuplesOf_11 (w : World) (t0 : Nat) (x2 : Int) (x3 : Int) (x4 : Int) : Option Int :=
  lp (fun z : (Int × Int × Int) => f_Mo_tuplesOf_11B w t0 z.1 z.2.1 z.2.2) (x2, x3, x4)
theorem t_Mo_tuplesOf_11 {E : EE} {K : KT} {l : Launch} {H0 : Heap} (k : Kof TA E K l cX5_tuplesOf RX5 rm_Mo_tuplesOf) {w : World} {t0 : Nat} {x2 : Int} {x3 : Int} {x4 : Int} (k_t0 : TA.kd t0 = 6) {out : Int} (hf : f_Mo_tuplesOf_11 w t0 x2 x3 x4 = some out) (hc : (fun out : Int => RetI TA E K H0 cX5_tuplesOf w out) out) : HW_Mo_tuplesOf_11 E K H0 w t0 (x2, x3, x4) := by
  unfold f_Mo_tuplesOf_11 at hf
  refine lp_ind (P := HW_Mo_tuplesOf_11 E K H0 w t0) hf ?_
  intro z o hs h1 h2
  intro r_x2 r_x3 r_x4
  intro o1
  refine t_Mo_tuplesOf_11B k k_t0 r_x2 r_x3 r_x4 hs ?_
  cases o with
  | inl z' => exact h1 z' rfl
  | inr r' => rw [h2 r' rfl]; exact hc
noncomputable def f_Mo_tuplesOf (w : World) (t0 : Nat) (x1 : Int) : Option Int :=
  bnd (f_Mo_firstOf w t0 x1) fun v2 => f_Mo_tuplesOf_11 w t0 v2 0 0
theorem t_Mo_tuplesOf_0 {E : EE} {K : KT} {l : Launch} {H0 : Heap} (k : Kof TA E K l cX5_tuplesOf RX5 rm_Mo_tuplesOf) {w : World} {t0 : Nat} {x1 : Int} {o2 o3 o4 : Option Value} (k_t0 : TA.kd t0 = 6) (r_x1 : R32 x1) {out : Int} (hf : f_Mo_tuplesOf w t0 x1 = some out) (hc : (fun out : Int => RetI TA E K H0 cX5_tuplesOf w out) out) : Jj K (WdT TA E H0) w 0 [some (rf E.ad t0), some (.int (ii x1)), o2, o3, o4] [] := by
  unfold f_Mo_tuplesOf at hf
  have o := k.1
  have g := k.2.1
  have kr := k.2.2.1
  refine J_aload_n o dX5_tuplesOf_0 rfl ?_
  refine J_iload_n o dX5_tuplesOf_1 rfl ?_
  obtain ⟨v2, e1, hf⟩ := bnd_some hf
  refine J_vI o g kr dX5_tuplesOf_2 lkX5_36 ml_Mo_firstOf vl_Mo_firstOf ⟨rfl, rfl, Nat.le_of_ble_eq_true rfl, Nat.le_of_ble_eq_true rfl⟩ (c_Mo_firstOf g.2.1 k_t0 r_x1 e1) k_t0 rfl ⟨by decide, by decide⟩ rfl rfl c1s_0 (fun q3 => ?_)
  refine J_istore_n o dX5_tuplesOf_5 (Nat.le_of_ble_eq_true rfl) ?_
  refine J_iconst o dX5_tuplesOf_6 ?_
  refine J_istore_n o dX5_tuplesOf_7 (Nat.le_of_ble_eq_true rfl) ?_
  refine J_iconst o dX5_tuplesOf_8 ?_
  refine J_istore o dX5_tuplesOf_9 (Nat.le_of_ble_eq_true rfl) ?_
  exact (t_Mo_tuplesOf_11 k k_t0 hf hc) q3 rl0 rl0 _
theorem c_Mo_tuplesOf {E : EE} {l : Launch} (hI : Inj TA E) {w : World} {t0 : Nat} {x1 : Int} (k_t0 : TA.kd t0 = 6) (r_x1 : R32 x1) {out : Int} (hf : f_Mo_tuplesOf w t0 x1 = some out) : ConI TA E l yX5_tuplesOf (WS yX5_tuplesOf cX5_tuplesOf 5 (some .int)) rm_Mo_tuplesOf [rf E.ad t0, .int (ii x1)] w w out :=
  con_I (by decide +kernel) rfl (Nat.le_of_ble_eq_true rfl) (c1s_r (c1s_i c1s_0 (Nat.le_of_ble_eq_true rfl)) (Nat.le_of_ble_eq_true rfl)).1 ⟨rfl, rfl⟩ hI TnA (fun K H0 k hret => t_Mo_tuplesOf_0 k k_t0 r_x1 hf hret)
abbrev rm_Mo_slotAt : Room := { frames := 2, cells := 0, slots := 0, locals := 45 }
def HW_Mo_slotAt_23 (E : EE) (K : KT) (H0 : Heap) (w : World) (t0 : Nat) (x2 : Int) : (Int × Int) → Prop := fun z => R32 z.1 → R32 z.2 → ∀ o1 : Option Value, Jj K (WdT TA E H0) w 23 [some (rf E.ad t0), o1, some (.int (ii x2)), some (.int (ii z.1)), some (.int (ii z.2))] []
noncomputable def f_Mo_slotAt_23B (w : World) (t0 : Nat) (x2 : Int) (x3 : Int) (x4 : Int) : Option ((Int × Int) ⊕ Int) :=
  if x2 ≤ x4 then (some (Sum.inr x3)) else (if 48 ≤ x4 then (some (Sum.inr x3)) else (if x3 = (-1) then (some (Sum.inr x3)) else (bnd (f_Mo_nextOf w t0 x3) fun v8 => bl (wr (x4 + 1)) fun n10 => some (Sum.inl (v8, n10)))))
theorem t_Mo_slotAt_23B {E : EE} {K : KT} {l : Launch} {H0 : Heap} (k : Kof TA E K l cX5_slotAt RX5 rm_Mo_slotAt) {w : World} {t0 : Nat} {x2 : Int} {x3 : Int} {x4 : Int} {o1 : Option Value} (k_t0 : TA.kd t0 = 6) (r_x2 : R32 x2) (r_x3 : R32 x3) (r_x4 : R32 x4) {out : ((Int × Int) ⊕ Int)} (hf : f_Mo_slotAt_23B w t0 x2 x3 x4 = some out) (hc : (Sum.elim (HW_Mo_slotAt_23 E K H0 w t0 x2) (fun out : Int => RetI TA E K H0 cX5_slotAt w out)) out) : Jj K (WdT TA E H0) w 23 [some (rf E.ad t0), o1, some (.int (ii x2)), some (.int (ii x3)), some (.int (ii x4))] [] := by
  unfold f_Mo_slotAt_23B at hf
  have o := k.1
  have g := k.2.1
  have kr := k.2.2.1
  refine J_iload o dX5_slotAt_23 rfl ?_
  refine J_iload_n o dX5_slotAt_25 rfl ?_
  refine J_icmp_ge 53 o dX5_slotAt_26 (by decide) r_x4 r_x2 (fun c1 => ?_) (fun c2 => ?_)
  · have hf := ite_t c1 hf
    refine J_iload_n o dX5_slotAt_53 rfl ?_
    have hf := some_inj hf
    subst hf
    exact hc _ _ r_x3 dX5_slotAt_54
  · have hf := ite_f c2 hf
    refine J_iload o dX5_slotAt_29 rfl ?_
    refine J_bipush o dX5_slotAt_31 (by decide) ?_
    refine J_icmp_ge 53 o dX5_slotAt_33 (by decide) r_x4 rl48 (fun c3 => ?_) (fun c4 => ?_)
    · have hf := ite_t c3 hf
      refine J_iload_n o dX5_slotAt_53 rfl ?_
      have hf := some_inj hf
      subst hf
      exact hc _ _ r_x3 dX5_slotAt_54
    · have hf := ite_f c4 hf
      refine J_iload_n o dX5_slotAt_36 rfl ?_
      refine J_iconst o dX5_slotAt_37 ?_
      refine J_icmp_eq 53 o dX5_slotAt_38 (by decide) r_x3 rlm1 (fun c5 => ?_) (fun c6 => ?_)
      · have hf := ite_t c5 hf
        refine J_iload_n o dX5_slotAt_53 rfl ?_
        have hf := some_inj hf
        subst hf
        exact hc _ _ r_x3 dX5_slotAt_54
      · have hf := ite_f c6 hf
        refine J_aload_n o dX5_slotAt_41 rfl ?_
        refine J_iload_n o dX5_slotAt_42 rfl ?_
        obtain ⟨v8, e7, hf⟩ := bnd_some hf
        refine J_vI o g kr dX5_slotAt_43 lkX5_40 ml_Mo_nextOf vl_Mo_nextOf ⟨rfl, rfl, Nat.le_of_ble_eq_true rfl, Nat.le_of_ble_eq_true rfl⟩ (c_Mo_nextOf g.2.1 k_t0 r_x3 e7) k_t0 rfl ⟨by decide, by decide⟩ rfl rfl c1s_0 (fun q9 => ?_)
        refine J_istore_n o dX5_slotAt_46 (Nat.le_of_ble_eq_true rfl) ?_
        have hf := bl_out hf
        refine J_iinc o dX5_slotAt_47 rfl ?_
        refine J_goto 23 o dX5_slotAt_50 (by decide) ?_
        have hf := some_inj hf
        subst hf
        exact hc q9 (R_wr _) _
noncomputable def f_Mo_slotAt_23 (w : World) (t0 : Nat) (x2 : Int) (x3 : Int) (x4 : Int) : Option Int :=
  lp (fun z : (Int × Int) => f_Mo_slotAt_23B w t0 x2 z.1 z.2) (x3, x4)
theorem t_Mo_slotAt_23 {E : EE} {K : KT} {l : Launch} {H0 : Heap} (k : Kof TA E K l cX5_slotAt RX5 rm_Mo_slotAt) {w : World} {t0 : Nat} {x2 : Int} {x3 : Int} {x4 : Int} (k_t0 : TA.kd t0 = 6) (r_x2 : R32 x2) {out : Int} (hf : f_Mo_slotAt_23 w t0 x2 x3 x4 = some out) (hc : (fun out : Int => RetI TA E K H0 cX5_slotAt w out) out) : HW_Mo_slotAt_23 E K H0 w t0 x2 (x3, x4) := by
  unfold f_Mo_slotAt_23 at hf
  refine lp_ind (P := HW_Mo_slotAt_23 E K H0 w t0 x2) hf ?_
  intro z o hs h1 h2
  intro r_x3 r_x4
  intro o1
  refine t_Mo_slotAt_23B k k_t0 r_x2 r_x3 r_x4 hs ?_
  cases o with
  | inl z' => exact h1 z' rfl
  | inr r' => rw [h2 r' rfl]; exact hc
noncomputable def f_Mo_slotAt_19 (w : World) (t0 : Nat) (x2 : Int) (s0 : Int) : Option Int :=
  f_Mo_slotAt_23 w t0 x2 s0 0
theorem t_Mo_slotAt_19 {E : EE} {K : KT} {l : Launch} {H0 : Heap} (k : Kof TA E K l cX5_slotAt RX5 rm_Mo_slotAt) {w : World} {t0 : Nat} {x2 : Int} {s0 : Int} {o1 o3 o4 : Option Value} (k_t0 : TA.kd t0 = 6) (r_x2 : R32 x2) (r_s0 : R32 s0) {out : Int} (hf : f_Mo_slotAt_19 w t0 x2 s0 = some out) (hc : (fun out : Int => RetI TA E K H0 cX5_slotAt w out) out) : Jj K (WdT TA E H0) w 19 [some (rf E.ad t0), o1, some (.int (ii x2)), o3, o4] [.int (ii s0)] := by
  unfold f_Mo_slotAt_19 at hf
  have o := k.1
  have g := k.2.1
  have kr := k.2.2.1
  refine J_istore_n o dX5_slotAt_19 (Nat.le_of_ble_eq_true rfl) ?_
  refine J_iconst o dX5_slotAt_20 ?_
  refine J_istore o dX5_slotAt_21 (Nat.le_of_ble_eq_true rfl) ?_
  exact (t_Mo_slotAt_23 k k_t0 r_x2 hf hc) r_s0 rl0 _
noncomputable def f_Mo_slotAt_10 (w : World) (t0 : Nat) (x2 : Int) : Option Int :=
  f_Mo_slotAt_19 w t0 x2 (-1)
theorem t_Mo_slotAt_10 {E : EE} {K : KT} {l : Launch} {H0 : Heap} (k : Kof TA E K l cX5_slotAt RX5 rm_Mo_slotAt) {w : World} {t0 : Nat} {x2 : Int} {o1 o3 o4 : Option Value} (k_t0 : TA.kd t0 = 6) (r_x2 : R32 x2) {out : Int} (hf : f_Mo_slotAt_10 w t0 x2 = some out) (hc : (fun out : Int => RetI TA E K H0 cX5_slotAt w out) out) : Jj K (WdT TA E H0) w 10 [some (rf E.ad t0), o1, some (.int (ii x2)), o3, o4] [] := by
  unfold f_Mo_slotAt_10 at hf
  have o := k.1
  have g := k.2.1
  have kr := k.2.2.1
  refine J_iconst o dX5_slotAt_10 ?_
  refine J_goto 19 o dX5_slotAt_11 (by decide) ?_
  exact t_Mo_slotAt_19 k k_t0 r_x2 rlm1 hf hc
noncomputable def f_Mo_slotAt (w : World) (t0 : Nat) (x1 : Int) (x2 : Int) : Option Int :=
  if x2 < 0 then (f_Mo_slotAt_10 w t0 x2) else (if x2 < 48 then (bnd (f_Mo_firstOf w t0 x1) fun v6 => f_Mo_slotAt_19 w t0 x2 v6) else (f_Mo_slotAt_10 w t0 x2))
theorem t_Mo_slotAt_0 {E : EE} {K : KT} {l : Launch} {H0 : Heap} (k : Kof TA E K l cX5_slotAt RX5 rm_Mo_slotAt) {w : World} {t0 : Nat} {x1 : Int} {x2 : Int} {o3 o4 : Option Value} (k_t0 : TA.kd t0 = 6) (r_x1 : R32 x1) (r_x2 : R32 x2) {out : Int} (hf : f_Mo_slotAt w t0 x1 x2 = some out) (hc : (fun out : Int => RetI TA E K H0 cX5_slotAt w out) out) : Jj K (WdT TA E H0) w 0 [some (rf E.ad t0), some (.int (ii x1)), some (.int (ii x2)), o3, o4] [] := by
  unfold f_Mo_slotAt at hf
  have o := k.1
  have g := k.2.1
  have kr := k.2.2.1
  refine J_iload_n o dX5_slotAt_0 rfl ?_
  refine J_if_lt 10 o dX5_slotAt_1 (by decide) r_x2 (fun c1 => ?_) (fun c2 => ?_)
  · have hf := ite_t c1 hf
    exact t_Mo_slotAt_10 k k_t0 r_x2 hf hc
  · have hf := ite_f c2 hf
    refine J_iload_n o dX5_slotAt_4 rfl ?_
    refine J_bipush o dX5_slotAt_5 (by decide) ?_
    refine J_icmp_lt 14 o dX5_slotAt_7 (by decide) r_x2 rl48 (fun c3 => ?_) (fun c4 => ?_)
    · have hf := ite_t c3 hf
      refine J_aload_n o dX5_slotAt_14 rfl ?_
      refine J_iload_n o dX5_slotAt_15 rfl ?_
      obtain ⟨v6, e5, hf⟩ := bnd_some hf
      refine J_vI o g kr dX5_slotAt_16 lkX5_36 ml_Mo_firstOf vl_Mo_firstOf ⟨rfl, rfl, Nat.le_of_ble_eq_true rfl, Nat.le_of_ble_eq_true rfl⟩ (c_Mo_firstOf g.2.1 k_t0 r_x1 e5) k_t0 rfl ⟨by decide, by decide⟩ rfl rfl c1s_0 (fun q7 => ?_)
      exact t_Mo_slotAt_19 k k_t0 r_x2 q7 hf hc
    · have hf := ite_f c4 hf
      exact t_Mo_slotAt_10 k k_t0 r_x2 hf hc
theorem c_Mo_slotAt {E : EE} {l : Launch} (hI : Inj TA E) {w : World} {t0 : Nat} {x1 : Int} {x2 : Int} (k_t0 : TA.kd t0 = 6) (r_x1 : R32 x1) (r_x2 : R32 x2) {out : Int} (hf : f_Mo_slotAt w t0 x1 x2 = some out) : ConI TA E l yX5_slotAt (WS yX5_slotAt cX5_slotAt 5 (some .int)) rm_Mo_slotAt [rf E.ad t0, .int (ii x1), .int (ii x2)] w w out :=
  con_I (by decide +kernel) rfl (Nat.le_of_ble_eq_true rfl) (c1s_r (c1s_i (c1s_i c1s_0 (Nat.le_of_ble_eq_true rfl)) (Nat.le_of_ble_eq_true rfl)) (Nat.le_of_ble_eq_true rfl)).1 ⟨rfl, rfl⟩ hI TnA (fun K H0 k hret => t_Mo_slotAt_0 k k_t0 r_x1 r_x2 hf hret)
abbrev rm_In_bitCount : Room := { frames := 1, cells := 0, slots := 0, locals := 24 }
noncomputable def f_In_bitCount (x0 : Int) : Option Int :=
  bl (wr (x0 - (iand (iushr x0 1) 1431655765))) fun n1 => bl (wr ((iand n1 858993459) + (iand (iushr n1 2) 858993459))) fun n2 => bl (iand (wr (n2 + (iushr n2 4))) 252645135) fun n3 => bl (wr (n3 + (iushr n3 8))) fun n4 => bl (wr (n4 + (iushr n4 16))) fun n5 => some (iand n5 63)
theorem t_In_bitCount_0 {E : EE} {K : KT} {l : Launch} {H0 : Heap} (k : Kof TA E K l cJ6_bitCount_0f7a4 RJ6 rm_In_bitCount) {w0 : World} {x0 : Int} (r_x0 : R32 x0) {out : Int} (hf : f_In_bitCount x0 = some out) (hc : (fun out : Int => RetI TA E K H0 cJ6_bitCount_0f7a4 w0 out) out) : Jj K (WdT TA E H0) w0 0 [some (.int (ii x0))] [] := by
  unfold f_In_bitCount at hf
  have o := k.1
  have g := k.2.1
  have kr := k.2.2.1
  refine J_iload_n o dJ6_bitCount_0f7a4_0 rfl ?_
  refine J_iload_n o dJ6_bitCount_0f7a4_1 rfl ?_
  refine J_iconst o dJ6_bitCount_0f7a4_2 ?_
  refine J_iushr o dJ6_bitCount_0f7a4_3 ?_
  refine J_ldcw o dJ6_bitCount_0f7a4_4 kcJ6_265 ?_
  refine J_iand o dJ6_bitCount_0f7a4_7 ?_
  refine J_isub o dJ6_bitCount_0f7a4_8 ?_
  refine J_istore_n o dJ6_bitCount_0f7a4_9 (Nat.le_of_ble_eq_true rfl) ?_
  have hf := bl_out hf
  refine J_iload_n o dJ6_bitCount_0f7a4_10 rfl ?_
  refine J_ldcw o dJ6_bitCount_0f7a4_11 kcJ6_266 ?_
  refine J_iand o dJ6_bitCount_0f7a4_14 ?_
  refine J_iload_n o dJ6_bitCount_0f7a4_15 rfl ?_
  refine J_iconst o dJ6_bitCount_0f7a4_16 ?_
  refine J_iushr o dJ6_bitCount_0f7a4_17 ?_
  refine J_ldcw o dJ6_bitCount_0f7a4_18 kcJ6_266 ?_
  refine J_iand o dJ6_bitCount_0f7a4_21 ?_
  refine J_iadd o dJ6_bitCount_0f7a4_22 ?_
  refine J_istore_n o dJ6_bitCount_0f7a4_23 (Nat.le_of_ble_eq_true rfl) ?_
  have hf := bl_out hf
  refine J_iload_n o dJ6_bitCount_0f7a4_24 rfl ?_
  refine J_iload_n o dJ6_bitCount_0f7a4_25 rfl ?_
  refine J_iconst o dJ6_bitCount_0f7a4_26 ?_
  refine J_iushr o dJ6_bitCount_0f7a4_27 ?_
  refine J_iadd o dJ6_bitCount_0f7a4_28 ?_
  refine J_ldcw o dJ6_bitCount_0f7a4_29 kcJ6_267 ?_
  refine J_iand o dJ6_bitCount_0f7a4_32 ?_
  refine J_istore_n o dJ6_bitCount_0f7a4_33 (Nat.le_of_ble_eq_true rfl) ?_
  have hf := bl_out hf
  refine J_iload_n o dJ6_bitCount_0f7a4_34 rfl ?_
  refine J_iload_n o dJ6_bitCount_0f7a4_35 rfl ?_
  refine J_bipush o dJ6_bitCount_0f7a4_36 (by decide) ?_
  refine J_iushr o dJ6_bitCount_0f7a4_38 ?_
  refine J_iadd o dJ6_bitCount_0f7a4_39 ?_
  refine J_istore_n o dJ6_bitCount_0f7a4_40 (Nat.le_of_ble_eq_true rfl) ?_
  have hf := bl_out hf
  refine J_iload_n o dJ6_bitCount_0f7a4_41 rfl ?_
  refine J_iload_n o dJ6_bitCount_0f7a4_42 rfl ?_
  refine J_bipush o dJ6_bitCount_0f7a4_43 (by decide) ?_
  refine J_iushr o dJ6_bitCount_0f7a4_45 ?_
  refine J_iadd o dJ6_bitCount_0f7a4_46 ?_
  refine J_istore_n o dJ6_bitCount_0f7a4_47 (Nat.le_of_ble_eq_true rfl) ?_
  have hf := bl_out hf
  refine J_iload_n o dJ6_bitCount_0f7a4_48 rfl ?_
  refine J_bipush o dJ6_bitCount_0f7a4_49 (by decide) ?_
  refine J_iand o dJ6_bitCount_0f7a4_51 ?_
  have hf := some_inj hf
  subst hf
  exact hc _ _ (R_iand _ _) dJ6_bitCount_0f7a4_52
theorem c_In_bitCount {E : EE} {l : Launch} (hI : Inj TA E) {w0 : World} {x0 : Int} (r_x0 : R32 x0) {out : Int} (hf : f_In_bitCount x0 = some out) : ConI TA E l yJ6_bitCount_0f7a4 (WS yJ6_bitCount_0f7a4 cJ6_bitCount_0f7a4 1 (some .int)) rm_In_bitCount [.int (ii x0)] w0 w0 out :=
  con_I (by decide +kernel) rfl (Nat.le_of_ble_eq_true rfl) (c1s_i c1s_0 (Nat.le_of_ble_eq_true rfl)).1 ⟨rfl, rfl⟩ hI TnA (fun K H0 k hret => t_In_bitCount_0 k r_x0 hf hret)
abbrev rm_Pl_make : Room := { frames := 3, cells := 0, slots := 0, locals := 73 }
def HW_Pl_make_13 (E : EE) (K : KT) (H0 : Heap) (t1 : Nat) : (World × Int × Int × Int) → Prop := fun z => R32 z.2.1 → R32 z.2.2.1 → R32 z.2.2.2 → ∀ o6 o7 o8 o9 o10 o11 : Option Value, Jj K (WdT TA E H0) z.1 13 [some (rf E.ad 155), some (rf E.ad t1), some (rf E.ad 2), some (.int (ii z.2.1)), some (.int (ii z.2.2.1)), some (.int (ii z.2.2.2)), o6, o7, o8, o9, o10, o11] []
def HW_Pl_make_28 (E : EE) (K : KT) (H0 : Heap) (w : World) (t1 : Nat) (x3 : Int) (x4 : Int) (x5 : Int) : (Int × Int × Int) → Prop := fun z => R32 z.1 → R32 z.2.1 → R32 z.2.2 → ∀ o9 o10 o11 : Option Value, Jj K (WdT TA E H0) w 28 [some (rf E.ad 155), some (rf E.ad t1), some (rf E.ad 2), some (.int (ii x3)), some (.int (ii x4)), some (.int (ii x5)), some (.int (ii z.1)), some (.int (ii z.2.1)), some (.int (ii z.2.2)), o9, o10, o11] []
noncomputable def f_Pl_make_177 (w : World) (t1 : Nat) (x3 : Int) (x4 : Int) (x5 : Int) : Option ((World × Int × Int × Int) ⊕ World) :=
  bl (wr (x5 + 1)) fun n1 => some (Sum.inl (w, x3, x4, n1))
theorem t_Pl_make_177 {E : EE} {K : KT} {l : Launch} {H0 : Heap} (k : Kof TA E K l cX6_make RX6 rm_Pl_make) {w : World} {t1 : Nat} {x3 : Int} {x4 : Int} {x5 : Int} {o6 o7 o8 o9 o10 o11 : Option Value} (k_t1 : TA.kd t1 = 1) (r_x3 : R32 x3) (r_x4 : R32 x4) (r_x5 : R32 x5) {out : ((World × Int × Int × Int) ⊕ World)} (hf : f_Pl_make_177 w t1 x3 x4 x5 = some out) (hc : (Sum.elim (HW_Pl_make_13 E K H0 t1) (fun out : World => RetV TA E K H0 cX6_make out)) out) : Jj K (WdT TA E H0) w 177 [some (rf E.ad 155), some (rf E.ad t1), some (rf E.ad 2), some (.int (ii x3)), some (.int (ii x4)), some (.int (ii x5)), o6, o7, o8, o9, o10, o11] [] := by
  unfold f_Pl_make_177 at hf
  have o := k.1
  have g := k.2.1
  have kr := k.2.2.1
  have hf := bl_out hf
  refine J_iinc o dX6_make_177 rfl ?_
  refine J_goto 13 o dX6_make_180 (by decide) ?_
  have hf := some_inj hf
  subst hf
  exact hc r_x3 r_x4 (R_wr _) _ _ _ _ _ _
noncomputable def f_Pl_make_118 (w : World) (t1 : Nat) (x3 : Int) (x4 : Int) (x5 : Int) (x6 : Int) (x7 : Int) (x8 : Int) : Option ((Int × Int × Int) ⊕ ((World × Int × Int × Int) ⊕ World)) :=
  bl (wr (x8 + 1)) fun n1 => some (Sum.inl (x6, x7, n1))
theorem t_Pl_make_118 {E : EE} {K : KT} {l : Launch} {H0 : Heap} (k : Kof TA E K l cX6_make RX6 rm_Pl_make) {w : World} {t1 : Nat} {x3 : Int} {x4 : Int} {x5 : Int} {x6 : Int} {x7 : Int} {x8 : Int} {o9 o10 o11 : Option Value} (k_t1 : TA.kd t1 = 1) (r_x3 : R32 x3) (r_x4 : R32 x4) (r_x5 : R32 x5) (r_x6 : R32 x6) (r_x7 : R32 x7) (r_x8 : R32 x8) {out : ((Int × Int × Int) ⊕ ((World × Int × Int × Int) ⊕ World))} (hf : f_Pl_make_118 w t1 x3 x4 x5 x6 x7 x8 = some out) (hc : (Sum.elim (HW_Pl_make_28 E K H0 w t1 x3 x4 x5) (Sum.elim (HW_Pl_make_13 E K H0 t1) (fun out : World => RetV TA E K H0 cX6_make out))) out) : Jj K (WdT TA E H0) w 118 [some (rf E.ad 155), some (rf E.ad t1), some (rf E.ad 2), some (.int (ii x3)), some (.int (ii x4)), some (.int (ii x5)), some (.int (ii x6)), some (.int (ii x7)), some (.int (ii x8)), o9, o10, o11] [] := by
  unfold f_Pl_make_118 at hf
  have o := k.1
  have g := k.2.1
  have kr := k.2.2.1
  have hf := bl_out hf
  refine J_iinc o dX6_make_118 rfl ?_
  refine J_goto 28 o dX6_make_121 (by decide) ?_
  have hf := some_inj hf
  subst hf
  exact hc r_x6 r_x7 (R_wr _) _ _ _
noncomputable def f_Pl_make_84 (w : World) (t1 : Nat) (x3 : Int) (x4 : Int) (x5 : Int) (x6 : Int) (x7 : Int) (x8 : Int) (x10 : Int) (s0 : Int) : Option ((Int × Int × Int) ⊕ ((World × Int × Int × Int) ⊕ World)) :=
  bnd (f_Bo_formOf w t1 x8) fun v2 => if v2 = 0 then (if (iand (ishr x4 x8) 1) = 0 then (if s0 = 0 then (f_Pl_make_118 w t1 x3 x4 x5 x6 x7 x8) else (f_Pl_make_118 w t1 x3 x4 x5 x8 x10 x8)) else (f_Pl_make_118 w t1 x3 x4 x5 x6 x7 x8)) else (f_Pl_make_118 w t1 x3 x4 x5 x6 x7 x8)
theorem t_Pl_make_84 {E : EE} {K : KT} {l : Launch} {H0 : Heap} (k : Kof TA E K l cX6_make RX6 rm_Pl_make) {w : World} {t1 : Nat} {x3 : Int} {x4 : Int} {x5 : Int} {x6 : Int} {x7 : Int} {x8 : Int} {x10 : Int} {s0 : Int} {o9 o11 : Option Value} (k_t1 : TA.kd t1 = 1) (r_x3 : R32 x3) (r_x4 : R32 x4) (r_x5 : R32 x5) (r_x6 : R32 x6) (r_x7 : R32 x7) (r_x8 : R32 x8) (r_x10 : R32 x10) (r_s0 : R32 s0) {out : ((Int × Int × Int) ⊕ ((World × Int × Int × Int) ⊕ World))} (hf : f_Pl_make_84 w t1 x3 x4 x5 x6 x7 x8 x10 s0 = some out) (hc : (Sum.elim (HW_Pl_make_28 E K H0 w t1 x3 x4 x5) (Sum.elim (HW_Pl_make_13 E K H0 t1) (fun out : World => RetV TA E K H0 cX6_make out))) out) : Jj K (WdT TA E H0) w 84 [some (rf E.ad 155), some (rf E.ad t1), some (rf E.ad 2), some (.int (ii x3)), some (.int (ii x4)), some (.int (ii x5)), some (.int (ii x6)), some (.int (ii x7)), some (.int (ii x8)), o9, some (.int (ii x10)), o11] [.int (ii s0)] := by
  unfold f_Pl_make_84 at hf
  have o := k.1
  have g := k.2.1
  have kr := k.2.2.1
  refine J_istore o dX6_make_84 (Nat.le_of_ble_eq_true rfl) ?_
  refine J_aload_n o dX6_make_86 rfl ?_
  refine J_iload o dX6_make_87 rfl ?_
  obtain ⟨v2, e1, hf⟩ := bnd_some hf
  refine J_vI o g kr dX6_make_89 lkX6_43 ml_Bo_formOf vl_Bo_formOf ⟨rfl, rfl, Nat.le_of_ble_eq_true rfl, Nat.le_of_ble_eq_true rfl⟩ (c_Bo_formOf g.2.1 k_t1 r_x8 e1) k_t1 rfl ⟨by decide, by decide⟩ rfl rfl c1s_0 (fun q3 => ?_)
  refine J_if_ne 118 o dX6_make_92 (by decide) q3 (fun c4 => ?_) (fun c5 => ?_)
  · have hf := ite_f c4 hf
    exact t_Pl_make_118 k k_t1 r_x3 r_x4 r_x5 r_x6 r_x7 r_x8 hf hc
  · have hf := ite_t c5 hf
    refine J_iload o dX6_make_95 rfl ?_
    refine J_iload o dX6_make_97 rfl ?_
    refine J_ishr o dX6_make_99 ?_
    refine J_iconst o dX6_make_100 ?_
    refine J_iand o dX6_make_101 ?_
    refine J_if_ne 118 o dX6_make_102 (by decide) (R_iand _ _) (fun c6 => ?_) (fun c7 => ?_)
    · have hf := ite_f c6 hf
      exact t_Pl_make_118 k k_t1 r_x3 r_x4 r_x5 r_x6 r_x7 r_x8 hf hc
    · have hf := ite_t c7 hf
      refine J_iload o dX6_make_105 rfl ?_
      refine J_if_eq 118 o dX6_make_107 (by decide) r_s0 (fun c8 => ?_) (fun c9 => ?_)
      · have hf := ite_t c8 hf
        exact t_Pl_make_118 k k_t1 r_x3 r_x4 r_x5 r_x6 r_x7 r_x8 hf hc
      · have hf := ite_f c9 hf
        refine J_iload o dX6_make_110 rfl ?_
        refine J_istore o dX6_make_112 (Nat.le_of_ble_eq_true rfl) ?_
        refine J_iload o dX6_make_114 rfl ?_
        refine J_istore o dX6_make_116 (Nat.le_of_ble_eq_true rfl) ?_
        exact t_Pl_make_118 k k_t1 r_x3 r_x4 r_x5 r_x8 r_x10 r_x8 hf hc
noncomputable def f_Pl_make_79 (w : World) (t1 : Nat) (x3 : Int) (x4 : Int) (x5 : Int) (x6 : Int) (x7 : Int) (x8 : Int) (x10 : Int) : Option ((Int × Int × Int) ⊕ ((World × Int × Int × Int) ⊕ World)) :=
  f_Pl_make_84 w t1 x3 x4 x5 x6 x7 x8 x10 1
theorem t_Pl_make_79 {E : EE} {K : KT} {l : Launch} {H0 : Heap} (k : Kof TA E K l cX6_make RX6 rm_Pl_make) {w : World} {t1 : Nat} {x3 : Int} {x4 : Int} {x5 : Int} {x6 : Int} {x7 : Int} {x8 : Int} {x10 : Int} {o9 o11 : Option Value} (k_t1 : TA.kd t1 = 1) (r_x3 : R32 x3) (r_x4 : R32 x4) (r_x5 : R32 x5) (r_x6 : R32 x6) (r_x7 : R32 x7) (r_x8 : R32 x8) (r_x10 : R32 x10) {out : ((Int × Int × Int) ⊕ ((World × Int × Int × Int) ⊕ World))} (hf : f_Pl_make_79 w t1 x3 x4 x5 x6 x7 x8 x10 = some out) (hc : (Sum.elim (HW_Pl_make_28 E K H0 w t1 x3 x4 x5) (Sum.elim (HW_Pl_make_13 E K H0 t1) (fun out : World => RetV TA E K H0 cX6_make out))) out) : Jj K (WdT TA E H0) w 79 [some (rf E.ad 155), some (rf E.ad t1), some (rf E.ad 2), some (.int (ii x3)), some (.int (ii x4)), some (.int (ii x5)), some (.int (ii x6)), some (.int (ii x7)), some (.int (ii x8)), o9, some (.int (ii x10)), o11] [] := by
  unfold f_Pl_make_79 at hf
  have o := k.1
  have g := k.2.1
  have kr := k.2.2.1
  refine J_iconst o dX6_make_79 ?_
  refine J_goto 84 o dX6_make_80 (by decide) ?_
  exact t_Pl_make_84 k k_t1 r_x3 r_x4 r_x5 r_x6 r_x7 r_x8 r_x10 rl1 hf hc
noncomputable def f_Pl_make_28B (w : World) (t1 : Nat) (x3 : Int) (x4 : Int) (x5 : Int) (x6 : Int) (x7 : Int) (x8 : Int) : Option ((Int × Int × Int) ⊕ ((World × Int × Int × Int) ⊕ World)) :=
  if (w t1 0) ≤ x8 then (if x6 = (-1) then (bnd (f_Pl_make_177 w t1 x3 x4 x5) fun y6 => some (Sum.inr y6)) else (gd (0 ≤ x5 ∧ x5 < 3) (bl (up w 156 x5.toNat x6) fun w8 => gd (0 ≤ x5 ∧ x5 < 3) (bl (up w8 157 x5.toNat x7) fun w10 => bl (up w10 155 0 (wr ((w10 155 0) + 1))) fun w12 => bl (ior x4 (ishl 1 x6)) fun n13 => bnd (f_Bo_variablesFrom w12 t1 x6 0) fun v15 => bl (ior x3 v15) fun n17 => bnd (f_Pl_make_177 w12 t1 n17 n13 x5) fun y18 => some (Sum.inr y18))))) else (bnd (f_Bo_subjectOf w t1 x8) fun v20 => bnd (f_Sc_columnsOf w v20) fun v23 => bnd (f_Bo_knownColumns w t1 x8 v23 x3) fun v26 => if x6 = (-1) then (f_Pl_make_79 w t1 x3 x4 x5 x6 x7 x8 v26) else (bnd (f_In_bitCount v26) fun v31 => bnd (f_In_bitCount x7) fun v34 => if v31 ≤ v34 then (f_Pl_make_84 w t1 x3 x4 x5 x6 x7 x8 v26 0) else (f_Pl_make_79 w t1 x3 x4 x5 x6 x7 x8 v26)))
theorem t_Pl_make_28B {E : EE} {K : KT} {l : Launch} {H0 : Heap} (k : Kof TA E K l cX6_make RX6 rm_Pl_make) {w : World} {t1 : Nat} {x3 : Int} {x4 : Int} {x5 : Int} {x6 : Int} {x7 : Int} {x8 : Int} {o9 o10 o11 : Option Value} (k_t1 : TA.kd t1 = 1) (r_x3 : R32 x3) (r_x4 : R32 x4) (r_x5 : R32 x5) (r_x6 : R32 x6) (r_x7 : R32 x7) (r_x8 : R32 x8) {out : ((Int × Int × Int) ⊕ ((World × Int × Int × Int) ⊕ World))} (hf : f_Pl_make_28B w t1 x3 x4 x5 x6 x7 x8 = some out) (hc : (Sum.elim (HW_Pl_make_28 E K H0 w t1 x3 x4 x5) (Sum.elim (HW_Pl_make_13 E K H0 t1) (fun out : World => RetV TA E K H0 cX6_make out))) out) : Jj K (WdT TA E H0) w 28 [some (rf E.ad 155), some (rf E.ad t1), some (rf E.ad 2), some (.int (ii x3)), some (.int (ii x4)), some (.int (ii x5)), some (.int (ii x6)), some (.int (ii x7)), some (.int (ii x8)), o9, o10, o11] [] := by
  unfold f_Pl_make_28B at hf
  have o := k.1
  have g := k.2.1
  have kr := k.2.2.1
  refine J_iload o dX6_make_28 rfl ?_
  refine J_aload_n o dX6_make_30 rfl ?_
  refine J_getI o g dX6_make_31 flX6_22 k_t1 rfl (fun q1 => ?_)
  refine J_icmp_ge 124 o dX6_make_34 (by decide) r_x8 q1 (fun c2 => ?_) (fun c3 => ?_)
  · have hf := ite_t c2 hf
    refine J_iload o dX6_make_124 rfl ?_
    refine J_iconst o dX6_make_126 ?_
    refine J_icmp_eq 177 o dX6_make_127 (by decide) r_x6 rlm1 (fun c4 => ?_) (fun c5 => ?_)
    · have hf := ite_t c4 hf
      obtain ⟨y6, hf1, hf⟩ := bnd_some hf
      have hf := some_inj hf
      subst hf
      exact t_Pl_make_177 k k_t1 r_x3 r_x4 r_x5 hf1 hc
    · have hf := ite_f c5 hf
      refine J_aload_n o dX6_make_130 rfl ?_
      refine J_getF (true, 156) o g dX6_make_131 flX6_9 kA_155 rfl rfl rfl ?_
      refine J_iload o dX6_make_134 rfl ?_
      refine J_iload o dX6_make_136 rfl ?_
      obtain ⟨g7, hf⟩ := gd_some hf
      refine J_iast o g dX6_make_138 kA_156 (fxA_40 _) r_x5 zA_156 g7 r_x6 ?_
      have hf := bl_out hf
      refine J_aload_n o dX6_make_139 rfl ?_
      refine J_getF (true, 157) o g dX6_make_140 flX6_15 kA_155 rfl rfl rfl ?_
      refine J_iload o dX6_make_143 rfl ?_
      refine J_iload o dX6_make_145 rfl ?_
      obtain ⟨g9, hf⟩ := gd_some hf
      refine J_iast o g dX6_make_147 kA_157 (fxA_40 _) r_x5 zA_157 g9 r_x7 ?_
      have hf := bl_out hf
      refine J_aload_n o dX6_make_148 rfl ?_
      refine J_dup o dX6_make_149 rf_cat ?_
      refine J_getI o g dX6_make_150 flX6_18 kA_155 rfl (fun q11 => ?_)
      refine J_iconst o dX6_make_153 ?_
      refine J_iadd o dX6_make_154 ?_
      refine J_putI o g dX6_make_155 fpX6_18 kA_155 rfl rfl (R_wr _) ?_
      have hf := bl_out hf
      refine J_iload o dX6_make_158 rfl ?_
      refine J_iconst o dX6_make_160 ?_
      refine J_iload o dX6_make_161 rfl ?_
      refine J_ishl o dX6_make_163 ?_
      refine J_ior o dX6_make_164 ?_
      refine J_istore o dX6_make_165 (Nat.le_of_ble_eq_true rfl) ?_
      have hf := bl_out hf
      refine J_iload_n o dX6_make_167 rfl ?_
      refine J_aload_n o dX6_make_168 rfl ?_
      refine J_iload o dX6_make_169 rfl ?_
      refine J_iconst o dX6_make_171 ?_
      obtain ⟨v15, e14, hf⟩ := bnd_some hf
      refine J_vI o g kr dX6_make_172 lkX6_46 ml_Bo_variablesFrom vl_Bo_variablesFrom ⟨rfl, rfl, Nat.le_of_ble_eq_true rfl, Nat.le_of_ble_eq_true rfl⟩ (c_Bo_variablesFrom g.2.1 k_t1 r_x6 rl0 e14) k_t1 rfl ⟨by decide, by decide⟩ rfl rfl (c1s_i c1s_0 (Nat.le_of_ble_eq_true rfl)) (fun q16 => ?_)
      refine J_ior o dX6_make_175 ?_
      refine J_istore_n o dX6_make_176 (Nat.le_of_ble_eq_true rfl) ?_
      have hf := bl_out hf
      obtain ⟨y18, hf1, hf⟩ := bnd_some hf
      have hf := some_inj hf
      subst hf
      exact t_Pl_make_177 k k_t1 (R_ior _ _) (R_ior _ _) r_x5 hf1 hc
  · have hf := ite_f c3 hf
    refine J_aload_n o dX6_make_37 rfl ?_
    refine J_aload_n o dX6_make_38 rfl ?_
    refine J_iload o dX6_make_39 rfl ?_
    obtain ⟨v20, e19, hf⟩ := bnd_some hf
    refine J_vI o g kr dX6_make_41 lkX6_25 ml_Bo_subjectOf vl_Bo_subjectOf ⟨rfl, rfl, Nat.le_of_ble_eq_true rfl, Nat.le_of_ble_eq_true rfl⟩ (c_Bo_subjectOf g.2.1 k_t1 r_x8 e19) k_t1 rfl ⟨by decide, by decide⟩ rfl rfl (c1s_r c1s_0 (Nat.le_of_ble_eq_true rfl)) (fun q21 => ?_)
    obtain ⟨v23, e22, hf⟩ := bnd_some hf
    refine J_vI o g kr dX6_make_44 lkX6_29 ml_Sc_columnsOf vl_Sc_columnsOf ⟨rfl, rfl, Nat.le_of_ble_eq_true rfl, Nat.le_of_ble_eq_true rfl⟩ (c_Sc_columnsOf g.2.1 q21 e22) kA_2 rfl ⟨by decide, by decide⟩ rfl rfl c1s_0 (fun q24 => ?_)
    refine J_istore o dX6_make_47 (Nat.le_of_ble_eq_true rfl) ?_
    refine J_aload_n o dX6_make_49 rfl ?_
    refine J_iload o dX6_make_50 rfl ?_
    refine J_iload o dX6_make_52 rfl ?_
    refine J_iload_n o dX6_make_54 rfl ?_
    obtain ⟨v26, e25, hf⟩ := bnd_some hf
    refine J_vI o g kr dX6_make_55 lkX6_34 ml_Bo_knownColumns vl_Bo_knownColumns ⟨rfl, rfl, Nat.le_of_ble_eq_true rfl, Nat.le_of_ble_eq_true rfl⟩ (c_Bo_knownColumns g.2.1 k_t1 r_x8 q24 r_x3 e25) k_t1 rfl ⟨by decide, by decide⟩ rfl rfl c1s_0 (fun q27 => ?_)
    refine J_istore o dX6_make_58 (Nat.le_of_ble_eq_true rfl) ?_
    refine J_iload o dX6_make_60 rfl ?_
    refine J_iconst o dX6_make_62 ?_
    refine J_icmp_eq 79 o dX6_make_63 (by decide) r_x6 rlm1 (fun c28 => ?_) (fun c29 => ?_)
    · have hf := ite_t c28 hf
      exact t_Pl_make_79 k k_t1 r_x3 r_x4 r_x5 r_x6 r_x7 r_x8 q27 hf hc
    · have hf := ite_f c29 hf
      refine J_iload o dX6_make_66 rfl ?_
      obtain ⟨v31, e30, hf⟩ := bnd_some hf
      refine J_sI o g kr dX6_make_68 lkX6_38 ml_In_bitCount mw1214 ⟨rfl, rfl, Nat.le_of_ble_eq_true rfl, Nat.le_of_ble_eq_true rfl⟩ (c_In_bitCount g.2.1 q27 e30) rfl rfl c1s_0 (fun q32 => ?_)
      refine J_iload o dX6_make_71 rfl ?_
      obtain ⟨v34, e33, hf⟩ := bnd_some hf
      refine J_sI o g kr dX6_make_73 lkX6_38 ml_In_bitCount mw1214 ⟨rfl, rfl, Nat.le_of_ble_eq_true rfl, Nat.le_of_ble_eq_true rfl⟩ (c_In_bitCount g.2.1 r_x7 e33) rfl rfl (c1s_i c1s_0 (Nat.le_of_ble_eq_true rfl)) (fun q35 => ?_)
      refine J_icmp_le 83 o dX6_make_76 (by decide) q32 q35 (fun c36 => ?_) (fun c37 => ?_)
      · have hf := ite_t c36 hf
        refine J_iconst o dX6_make_83 ?_
        exact t_Pl_make_84 k k_t1 r_x3 r_x4 r_x5 r_x6 r_x7 r_x8 q27 rl0 hf hc
      · have hf := ite_f c37 hf
        exact t_Pl_make_79 k k_t1 r_x3 r_x4 r_x5 r_x6 r_x7 r_x8 q27 hf hc
noncomputable def f_Pl_make_28 (w : World) (t1 : Nat) (x3 : Int) (x4 : Int) (x5 : Int) (x6 : Int) (x7 : Int) (x8 : Int) : Option ((World × Int × Int × Int) ⊕ World) :=
  lp (fun z : (Int × Int × Int) => f_Pl_make_28B w t1 x3 x4 x5 z.1 z.2.1 z.2.2) (x6, x7, x8)
theorem t_Pl_make_28 {E : EE} {K : KT} {l : Launch} {H0 : Heap} (k : Kof TA E K l cX6_make RX6 rm_Pl_make) {w : World} {t1 : Nat} {x3 : Int} {x4 : Int} {x5 : Int} {x6 : Int} {x7 : Int} {x8 : Int} (k_t1 : TA.kd t1 = 1) (r_x3 : R32 x3) (r_x4 : R32 x4) (r_x5 : R32 x5) {out : ((World × Int × Int × Int) ⊕ World)} (hf : f_Pl_make_28 w t1 x3 x4 x5 x6 x7 x8 = some out) (hc : (Sum.elim (HW_Pl_make_13 E K H0 t1) (fun out : World => RetV TA E K H0 cX6_make out)) out) : HW_Pl_make_28 E K H0 w t1 x3 x4 x5 (x6, x7, x8) := by
  unfold f_Pl_make_28 at hf
  refine lp_ind (P := HW_Pl_make_28 E K H0 w t1 x3 x4 x5) hf ?_
  intro z o hs h1 h2
  intro r_x6 r_x7 r_x8
  intro o9 o10 o11
  refine t_Pl_make_28B k k_t1 r_x3 r_x4 r_x5 r_x6 r_x7 r_x8 hs ?_
  cases o with
  | inl z' => exact h1 z' rfl
  | inr r' => rw [h2 r' rfl]; exact hc
noncomputable def f_Pl_make_13B (w : World) (t1 : Nat) (x3 : Int) (x4 : Int) (x5 : Int) : Option ((World × Int × Int × Int) ⊕ World) :=
  if 3 ≤ x5 then (some (Sum.inr w)) else (f_Pl_make_28 w t1 x3 x4 x5 (-1) 0 0)
theorem t_Pl_make_13B {E : EE} {K : KT} {l : Launch} {H0 : Heap} (k : Kof TA E K l cX6_make RX6 rm_Pl_make) {w : World} {t1 : Nat} {x3 : Int} {x4 : Int} {x5 : Int} {o6 o7 o8 o9 o10 o11 : Option Value} (k_t1 : TA.kd t1 = 1) (r_x3 : R32 x3) (r_x4 : R32 x4) (r_x5 : R32 x5) {out : ((World × Int × Int × Int) ⊕ World)} (hf : f_Pl_make_13B w t1 x3 x4 x5 = some out) (hc : (Sum.elim (HW_Pl_make_13 E K H0 t1) (fun out : World => RetV TA E K H0 cX6_make out)) out) : Jj K (WdT TA E H0) w 13 [some (rf E.ad 155), some (rf E.ad t1), some (rf E.ad 2), some (.int (ii x3)), some (.int (ii x4)), some (.int (ii x5)), o6, o7, o8, o9, o10, o11] [] := by
  unfold f_Pl_make_13B at hf
  have o := k.1
  have g := k.2.1
  have kr := k.2.2.1
  refine J_iload o dX6_make_13 rfl ?_
  refine J_iconst o dX6_make_15 ?_
  refine J_icmp_ge 183 o dX6_make_16 (by decide) r_x5 rl3 (fun c1 => ?_) (fun c2 => ?_)
  · have hf := ite_t c1 hf
    have hf := some_inj hf
    subst hf
    exact hc _ _  dX6_make_183
  · have hf := ite_f c2 hf
    refine J_iconst o dX6_make_19 ?_
    refine J_istore o dX6_make_20 (Nat.le_of_ble_eq_true rfl) ?_
    refine J_iconst o dX6_make_22 ?_
    refine J_istore o dX6_make_23 (Nat.le_of_ble_eq_true rfl) ?_
    refine J_iconst o dX6_make_25 ?_
    refine J_istore o dX6_make_26 (Nat.le_of_ble_eq_true rfl) ?_
    exact (t_Pl_make_28 k k_t1 r_x3 r_x4 r_x5 hf hc) rlm1 rl0 rl0 _ _ _
noncomputable def f_Pl_make_13 (w : World) (t1 : Nat) (x3 : Int) (x4 : Int) (x5 : Int) : Option World :=
  lp (fun z : (World × Int × Int × Int) => f_Pl_make_13B z.1 t1 z.2.1 z.2.2.1 z.2.2.2) (w, x3, x4, x5)
theorem t_Pl_make_13 {E : EE} {K : KT} {l : Launch} {H0 : Heap} (k : Kof TA E K l cX6_make RX6 rm_Pl_make) {w : World} {t1 : Nat} {x3 : Int} {x4 : Int} {x5 : Int} (k_t1 : TA.kd t1 = 1) {out : World} (hf : f_Pl_make_13 w t1 x3 x4 x5 = some out) (hc : (fun out : World => RetV TA E K H0 cX6_make out) out) : HW_Pl_make_13 E K H0 t1 (w, x3, x4, x5) := by
  unfold f_Pl_make_13 at hf
  refine lp_ind (P := HW_Pl_make_13 E K H0 t1) hf ?_
  intro z o hs h1 h2
  intro r_x3 r_x4 r_x5
  intro o6 o7 o8 o9 o10 o11
  refine t_Pl_make_13B k k_t1 r_x3 r_x4 r_x5 hs ?_
  cases o with
  | inl z' => exact h1 z' rfl
  | inr r' => rw [h2 r' rfl]; exact hc
noncomputable def f_Pl_make (w : World) (t1 : Nat) : Option World :=
  bl (up w 155 0 0) fun w1 => f_Pl_make_13 w1 t1 0 0 0
theorem t_Pl_make_0 {E : EE} {K : KT} {l : Launch} {H0 : Heap} (k : Kof TA E K l cX6_make RX6 rm_Pl_make) {w : World} {t1 : Nat} {o3 o4 o5 o6 o7 o8 o9 o10 o11 : Option Value} (k_t1 : TA.kd t1 = 1) {out : World} (hf : f_Pl_make w t1 = some out) (hc : (fun out : World => RetV TA E K H0 cX6_make out) out) : Jj K (WdT TA E H0) w 0 [some (rf E.ad 155), some (rf E.ad t1), some (rf E.ad 2), o3, o4, o5, o6, o7, o8, o9, o10, o11] [] := by
  unfold f_Pl_make at hf
  have o := k.1
  have g := k.2.1
  have kr := k.2.2.1
  refine J_aload_n o dX6_make_0 rfl ?_
  refine J_iconst o dX6_make_1 ?_
  refine J_putI o g dX6_make_2 fpX6_18 kA_155 rfl rfl rl0 ?_
  have hf := bl_out hf
  refine J_iconst o dX6_make_5 ?_
  refine J_istore_n o dX6_make_6 (Nat.le_of_ble_eq_true rfl) ?_
  refine J_iconst o dX6_make_7 ?_
  refine J_istore o dX6_make_8 (Nat.le_of_ble_eq_true rfl) ?_
  refine J_iconst o dX6_make_10 ?_
  refine J_istore o dX6_make_11 (Nat.le_of_ble_eq_true rfl) ?_
  exact (t_Pl_make_13 k k_t1 hf hc) rl0 rl0 rl0 _ _ _ _ _ _
theorem c_Pl_make {E : EE} {l : Launch} (hI : Inj TA E) {w : World} {t1 : Nat} (k_t1 : TA.kd t1 = 1) {out : World} (hf : f_Pl_make w t1 = some out) : ConV TA E l yX6_make (WS yX6_make cX6_make 12 none) rm_Pl_make [rf E.ad 155, rf E.ad t1, rf E.ad 2] w out :=
  con_V (by decide +kernel) rfl (Nat.le_of_ble_eq_true rfl) (c1s_r (c1s_r (c1s_r c1s_0 (Nat.le_of_ble_eq_true rfl)) (Nat.le_of_ble_eq_true rfl)) (Nat.le_of_ble_eq_true rfl)).1 ⟨rfl, rfl⟩ hI TnA (fun K H0 k hret => t_Pl_make_0 k k_t1 hf hret)
abbrev rm_Pl_placeAt : Room := { frames := 1, cells := 0, slots := 0, locals := 24 }
noncomputable def f_Pl_placeAt (w : World) (x1 : Int) : Option Int :=
  if x1 < 0 then (some (-1)) else (if (w 155 0) ≤ x1 then (some (-1)) else (if 3 ≤ x1 then (some (-1)) else (gd (0 ≤ x1 ∧ x1 < 3) (some (w 156 x1.toNat)))))
theorem t_Pl_placeAt_0 {E : EE} {K : KT} {l : Launch} {H0 : Heap} (k : Kof TA E K l cX6_placeAt RX6 rm_Pl_placeAt) {w : World} {x1 : Int} (r_x1 : R32 x1) {out : Int} (hf : f_Pl_placeAt w x1 = some out) (hc : (fun out : Int => RetI TA E K H0 cX6_placeAt w out) out) : Jj K (WdT TA E H0) w 0 [some (rf E.ad 155), some (.int (ii x1))] [] := by
  unfold f_Pl_placeAt at hf
  have o := k.1
  have g := k.2.1
  have kr := k.2.2.1
  refine J_iload_n o dX6_placeAt_0 rfl ?_
  refine J_if_lt 30 o dX6_placeAt_1 (by decide) r_x1 (fun c1 => ?_) (fun c2 => ?_)
  · have hf := ite_t c1 hf
    refine J_iconst o dX6_placeAt_30 ?_
    have hf := some_inj hf
    subst hf
    exact hc _ _ rlm1 dX6_placeAt_31
  · have hf := ite_f c2 hf
    refine J_iload_n o dX6_placeAt_4 rfl ?_
    refine J_aload_n o dX6_placeAt_5 rfl ?_
    refine J_getI o g dX6_placeAt_6 flX6_18 kA_155 rfl (fun q3 => ?_)
    refine J_icmp_ge 30 o dX6_placeAt_9 (by decide) r_x1 q3 (fun c4 => ?_) (fun c5 => ?_)
    · have hf := ite_t c4 hf
      refine J_iconst o dX6_placeAt_30 ?_
      have hf := some_inj hf
      subst hf
      exact hc _ _ rlm1 dX6_placeAt_31
    · have hf := ite_f c5 hf
      refine J_iload_n o dX6_placeAt_12 rfl ?_
      refine J_aload_n o dX6_placeAt_13 rfl ?_
      refine J_getF (true, 156) o g dX6_placeAt_14 flX6_9 kA_155 rfl rfl rfl ?_
      refine J_alen o g dX6_placeAt_17 kA_156 ⟨by decide, by decide⟩ zA_156 ?_
      refine J_icmp_ge 30 o dX6_placeAt_18 (by decide) r_x1 rl3 (fun c6 => ?_) (fun c7 => ?_)
      · have hf := ite_t c6 hf
        refine J_iconst o dX6_placeAt_30 ?_
        have hf := some_inj hf
        subst hf
        exact hc _ _ rlm1 dX6_placeAt_31
      · have hf := ite_f c7 hf
        refine J_aload_n o dX6_placeAt_21 rfl ?_
        refine J_getF (true, 156) o g dX6_placeAt_22 flX6_9 kA_155 rfl rfl rfl ?_
        refine J_iload_n o dX6_placeAt_25 rfl ?_
        obtain ⟨g8, hf⟩ := gd_some hf
        refine J_iald o g dX6_placeAt_26 kA_156 r_x1 zA_156 g8 (fun q9 => ?_)
        refine J_goto 31 o dX6_placeAt_27 (by decide) ?_
        have hf := some_inj hf
        subst hf
        exact hc _ _ q9 dX6_placeAt_31
theorem c_Pl_placeAt {E : EE} {l : Launch} (hI : Inj TA E) {w : World} {x1 : Int} (r_x1 : R32 x1) {out : Int} (hf : f_Pl_placeAt w x1 = some out) : ConI TA E l yX6_placeAt (WS yX6_placeAt cX6_placeAt 2 (some .int)) rm_Pl_placeAt [rf E.ad 155, .int (ii x1)] w w out :=
  con_I (by decide +kernel) rfl (Nat.le_of_ble_eq_true rfl) (c1s_r (c1s_i c1s_0 (Nat.le_of_ble_eq_true rfl)) (Nat.le_of_ble_eq_true rfl)).1 ⟨rfl, rfl⟩ hI TnA (fun K H0 k hret => t_Pl_placeAt_0 k r_x1 hf hret)
abbrev rm_Pl_searchesOf : Room := { frames := 2, cells := 0, slots := 0, locals := 45 }
def HW_Pl_searchesOf_5 (E : EE) (K : KT) (H0 : Heap) (w : World) (t1 : Nat) (x2 : Int) : (Int × Int) → Prop := fun z => R32 z.1 → R32 z.2 → Jj K (WdT TA E H0) w 5 [some (rf E.ad 155), some (rf E.ad t1), some (.int (ii x2)), some (.int (ii z.1)), some (.int (ii z.2))] []
noncomputable def f_Pl_searchesOf_56 (w : World) (x3 : Int) : Option Int :=
  some (iand x3 (-2))
theorem t_Pl_searchesOf_56 {E : EE} {K : KT} {l : Launch} {H0 : Heap} (k : Kof TA E K l cX6_searchesOf RX6 rm_Pl_searchesOf) {w : World} {x3 : Int} {o0 o1 o2 o4 : Option Value} (r_x3 : R32 x3) {out : Int} (hf : f_Pl_searchesOf_56 w x3 = some out) (hc : (fun out : Int => RetI TA E K H0 cX6_searchesOf w out) out) : Jj K (WdT TA E H0) w 56 [o0, o1, o2, some (.int (ii x3)), o4] [] := by
  unfold f_Pl_searchesOf_56 at hf
  have o := k.1
  have g := k.2.1
  have kr := k.2.2.1
  refine J_iload_n o dX6_searchesOf_56 rfl ?_
  refine J_bipush o dX6_searchesOf_57 (by decide) ?_
  refine J_iand o dX6_searchesOf_59 ?_
  have hf := some_inj hf
  subst hf
  exact hc _ _ (R_iand _ _) dX6_searchesOf_60
noncomputable def f_Pl_searchesOf_50 (w : World) (t1 : Nat) (x2 : Int) (x3 : Int) (x4 : Int) : Option ((Int × Int) ⊕ Int) :=
  bl (wr (x4 + 1)) fun n1 => some (Sum.inl (x3, n1))
theorem t_Pl_searchesOf_50 {E : EE} {K : KT} {l : Launch} {H0 : Heap} (k : Kof TA E K l cX6_searchesOf RX6 rm_Pl_searchesOf) {w : World} {t1 : Nat} {x2 : Int} {x3 : Int} {x4 : Int} (k_t1 : TA.kd t1 = 1) (r_x2 : R32 x2) (r_x3 : R32 x3) (r_x4 : R32 x4) {out : ((Int × Int) ⊕ Int)} (hf : f_Pl_searchesOf_50 w t1 x2 x3 x4 = some out) (hc : (Sum.elim (HW_Pl_searchesOf_5 E K H0 w t1 x2) (fun out : Int => RetI TA E K H0 cX6_searchesOf w out)) out) : Jj K (WdT TA E H0) w 50 [some (rf E.ad 155), some (rf E.ad t1), some (.int (ii x2)), some (.int (ii x3)), some (.int (ii x4))] [] := by
  unfold f_Pl_searchesOf_50 at hf
  have o := k.1
  have g := k.2.1
  have kr := k.2.2.1
  have hf := bl_out hf
  refine J_iinc o dX6_searchesOf_50 rfl ?_
  refine J_goto 5 o dX6_searchesOf_53 (by decide) ?_
  have hf := some_inj hf
  subst hf
  exact hc r_x3 (R_wr _) 
noncomputable def f_Pl_searchesOf_5B (w : World) (t1 : Nat) (x2 : Int) (x3 : Int) (x4 : Int) : Option ((Int × Int) ⊕ Int) :=
  if (w 155 0) ≤ x4 then (bnd (f_Pl_searchesOf_56 w x3) fun y4 => some (Sum.inr y4)) else (if 3 ≤ x4 then (bnd (f_Pl_searchesOf_56 w x3) fun y7 => some (Sum.inr y7)) else (bnd (f_Pl_placeAt w x4) fun v9 => bnd (f_Bo_subjectOf w t1 v9) fun v12 => if v12 = x2 then (gd (0 ≤ x4 ∧ x4 < 3) (bl (ior x3 (ishl 1 (w 157 x4.toNat))) fun n18 => f_Pl_searchesOf_50 w t1 x2 n18 x4)) else (f_Pl_searchesOf_50 w t1 x2 x3 x4)))
theorem t_Pl_searchesOf_5B {E : EE} {K : KT} {l : Launch} {H0 : Heap} (k : Kof TA E K l cX6_searchesOf RX6 rm_Pl_searchesOf) {w : World} {t1 : Nat} {x2 : Int} {x3 : Int} {x4 : Int} (k_t1 : TA.kd t1 = 1) (r_x2 : R32 x2) (r_x3 : R32 x3) (r_x4 : R32 x4) {out : ((Int × Int) ⊕ Int)} (hf : f_Pl_searchesOf_5B w t1 x2 x3 x4 = some out) (hc : (Sum.elim (HW_Pl_searchesOf_5 E K H0 w t1 x2) (fun out : Int => RetI TA E K H0 cX6_searchesOf w out)) out) : Jj K (WdT TA E H0) w 5 [some (rf E.ad 155), some (rf E.ad t1), some (.int (ii x2)), some (.int (ii x3)), some (.int (ii x4))] [] := by
  unfold f_Pl_searchesOf_5B at hf
  have o := k.1
  have g := k.2.1
  have kr := k.2.2.1
  refine J_iload o dX6_searchesOf_5 rfl ?_
  refine J_aload_n o dX6_searchesOf_7 rfl ?_
  refine J_getI o g dX6_searchesOf_8 flX6_18 kA_155 rfl (fun q1 => ?_)
  refine J_icmp_ge 56 o dX6_searchesOf_11 (by decide) r_x4 q1 (fun c2 => ?_) (fun c3 => ?_)
  · have hf := ite_t c2 hf
    obtain ⟨y4, hf1, hf⟩ := bnd_some hf
    have hf := some_inj hf
    subst hf
    exact t_Pl_searchesOf_56 k r_x3 hf1 hc
  · have hf := ite_f c3 hf
    refine J_iload o dX6_searchesOf_14 rfl ?_
    refine J_aload_n o dX6_searchesOf_16 rfl ?_
    refine J_getF (true, 157) o g dX6_searchesOf_17 flX6_15 kA_155 rfl rfl rfl ?_
    refine J_alen o g dX6_searchesOf_20 kA_157 ⟨by decide, by decide⟩ zA_157 ?_
    refine J_icmp_ge 56 o dX6_searchesOf_21 (by decide) r_x4 rl3 (fun c5 => ?_) (fun c6 => ?_)
    · have hf := ite_t c5 hf
      obtain ⟨y7, hf1, hf⟩ := bnd_some hf
      have hf := some_inj hf
      subst hf
      exact t_Pl_searchesOf_56 k r_x3 hf1 hc
    · have hf := ite_f c6 hf
      refine J_aload_n o dX6_searchesOf_24 rfl ?_
      refine J_aload_n o dX6_searchesOf_25 rfl ?_
      refine J_iload o dX6_searchesOf_26 rfl ?_
      obtain ⟨v9, e8, hf⟩ := bnd_some hf
      refine J_vI o g kr dX6_searchesOf_28 lkX6_50 ml_Pl_placeAt vl_Pl_placeAt ⟨rfl, rfl, Nat.le_of_ble_eq_true rfl, Nat.le_of_ble_eq_true rfl⟩ (c_Pl_placeAt g.2.1 r_x4 e8) kA_155 rfl ⟨by decide, by decide⟩ rfl rfl (c1s_r c1s_0 (Nat.le_of_ble_eq_true rfl)) (fun q10 => ?_)
      obtain ⟨v12, e11, hf⟩ := bnd_some hf
      refine J_vI o g kr dX6_searchesOf_31 lkX6_25 ml_Bo_subjectOf vl_Bo_subjectOf ⟨rfl, rfl, Nat.le_of_ble_eq_true rfl, Nat.le_of_ble_eq_true rfl⟩ (c_Bo_subjectOf g.2.1 k_t1 q10 e11) k_t1 rfl ⟨by decide, by decide⟩ rfl rfl c1s_0 (fun q13 => ?_)
      refine J_iload_n o dX6_searchesOf_34 rfl ?_
      refine J_icmp_ne 50 o dX6_searchesOf_35 (by decide) q13 r_x2 (fun c14 => ?_) (fun c15 => ?_)
      · have hf := ite_f c14 hf
        exact t_Pl_searchesOf_50 k k_t1 r_x2 r_x3 r_x4 hf hc
      · have hf := ite_t c15 hf
        refine J_iload_n o dX6_searchesOf_38 rfl ?_
        refine J_iconst o dX6_searchesOf_39 ?_
        refine J_aload_n o dX6_searchesOf_40 rfl ?_
        refine J_getF (true, 157) o g dX6_searchesOf_41 flX6_15 kA_155 rfl rfl rfl ?_
        refine J_iload o dX6_searchesOf_44 rfl ?_
        obtain ⟨g16, hf⟩ := gd_some hf
        refine J_iald o g dX6_searchesOf_46 kA_157 r_x4 zA_157 g16 (fun q17 => ?_)
        refine J_ishl o dX6_searchesOf_47 ?_
        refine J_ior o dX6_searchesOf_48 ?_
        refine J_istore_n o dX6_searchesOf_49 (Nat.le_of_ble_eq_true rfl) ?_
        have hf := bl_out hf
        exact t_Pl_searchesOf_50 k k_t1 r_x2 (R_ior _ _) r_x4 hf hc
noncomputable def f_Pl_searchesOf_5 (w : World) (t1 : Nat) (x2 : Int) (x3 : Int) (x4 : Int) : Option Int :=
  lp (fun z : (Int × Int) => f_Pl_searchesOf_5B w t1 x2 z.1 z.2) (x3, x4)
theorem t_Pl_searchesOf_5 {E : EE} {K : KT} {l : Launch} {H0 : Heap} (k : Kof TA E K l cX6_searchesOf RX6 rm_Pl_searchesOf) {w : World} {t1 : Nat} {x2 : Int} {x3 : Int} {x4 : Int} (k_t1 : TA.kd t1 = 1) (r_x2 : R32 x2) {out : Int} (hf : f_Pl_searchesOf_5 w t1 x2 x3 x4 = some out) (hc : (fun out : Int => RetI TA E K H0 cX6_searchesOf w out) out) : HW_Pl_searchesOf_5 E K H0 w t1 x2 (x3, x4) := by
  unfold f_Pl_searchesOf_5 at hf
  refine lp_ind (P := HW_Pl_searchesOf_5 E K H0 w t1 x2) hf ?_
  intro z o hs h1 h2
  intro r_x3 r_x4
  refine t_Pl_searchesOf_5B k k_t1 r_x2 r_x3 r_x4 hs ?_
  cases o with
  | inl z' => exact h1 z' rfl
  | inr r' => rw [h2 r' rfl]; exact hc
noncomputable def f_Pl_searchesOf (w : World) (t1 : Nat) (x2 : Int) : Option Int :=
  f_Pl_searchesOf_5 w t1 x2 0 0
theorem t_Pl_searchesOf_0 {E : EE} {K : KT} {l : Launch} {H0 : Heap} (k : Kof TA E K l cX6_searchesOf RX6 rm_Pl_searchesOf) {w : World} {t1 : Nat} {x2 : Int} {o3 o4 : Option Value} (k_t1 : TA.kd t1 = 1) (r_x2 : R32 x2) {out : Int} (hf : f_Pl_searchesOf w t1 x2 = some out) (hc : (fun out : Int => RetI TA E K H0 cX6_searchesOf w out) out) : Jj K (WdT TA E H0) w 0 [some (rf E.ad 155), some (rf E.ad t1), some (.int (ii x2)), o3, o4] [] := by
  unfold f_Pl_searchesOf at hf
  have o := k.1
  have g := k.2.1
  have kr := k.2.2.1
  refine J_iconst o dX6_searchesOf_0 ?_
  refine J_istore_n o dX6_searchesOf_1 (Nat.le_of_ble_eq_true rfl) ?_
  refine J_iconst o dX6_searchesOf_2 ?_
  refine J_istore o dX6_searchesOf_3 (Nat.le_of_ble_eq_true rfl) ?_
  exact (t_Pl_searchesOf_5 k k_t1 r_x2 hf hc) rl0 rl0 
theorem c_Pl_searchesOf {E : EE} {l : Launch} (hI : Inj TA E) {w : World} {t1 : Nat} {x2 : Int} (k_t1 : TA.kd t1 = 1) (r_x2 : R32 x2) {out : Int} (hf : f_Pl_searchesOf w t1 x2 = some out) : ConI TA E l yX6_searchesOf (WS yX6_searchesOf cX6_searchesOf 5 (some .int)) rm_Pl_searchesOf [rf E.ad 155, rf E.ad t1, .int (ii x2)] w w out :=
  con_I (by decide +kernel) rfl (Nat.le_of_ble_eq_true rfl) (c1s_r (c1s_r (c1s_i c1s_0 (Nat.le_of_ble_eq_true rfl)) (Nat.le_of_ble_eq_true rfl)) (Nat.le_of_ble_eq_true rfl)).1 ⟨rfl, rfl⟩ hI TnA (fun K H0 k hret => t_Pl_searchesOf_0 k k_t1 r_x2 hf hret)
abbrev rm_Pr_hasRule : Room := { frames := 1, cells := 0, slots := 0, locals := 24 }
noncomputable def f_Pr_hasRule (w : World) (x1 : Int) : Option Int :=
  if x1 < 0 then (some 0) else (if (w 14 4) ≤ x1 then (some 0) else (some 1))
theorem t_Pr_hasRule_0 {E : EE} {K : KT} {l : Launch} {H0 : Heap} (k : Kof TA E K l cX7_hasRule RX7 rm_Pr_hasRule) {w : World} {x1 : Int} (r_x1 : R32 x1) {out : Int} (hf : f_Pr_hasRule w x1 = some out) (hc : (fun out : Int => RetZ TA E K H0 cX7_hasRule w out) out) : Jj K (WdT TA E H0) w 0 [some (rf E.ad 14), some (.int (ii x1))] [] := by
  unfold f_Pr_hasRule at hf
  have o := k.1
  have g := k.2.1
  have kr := k.2.2.1
  refine J_iload_n o dX7_hasRule_0 rfl ?_
  refine J_if_lt 16 o dX7_hasRule_1 (by decide) r_x1 (fun c1 => ?_) (fun c2 => ?_)
  · have hf := ite_t c1 hf
    refine J_iconst o dX7_hasRule_16 ?_
    have hf := some_inj hf
    subst hf
    exact hc _ _ (Or.inl rfl) dX7_hasRule_17
  · have hf := ite_f c2 hf
    refine J_iload_n o dX7_hasRule_4 rfl ?_
    refine J_aload_n o dX7_hasRule_5 rfl ?_
    refine J_getI o g dX7_hasRule_6 flX7_33 kA_14 rfl (fun q3 => ?_)
    refine J_icmp_ge 16 o dX7_hasRule_9 (by decide) r_x1 q3 (fun c4 => ?_) (fun c5 => ?_)
    · have hf := ite_t c4 hf
      refine J_iconst o dX7_hasRule_16 ?_
      have hf := some_inj hf
      subst hf
      exact hc _ _ (Or.inl rfl) dX7_hasRule_17
    · have hf := ite_f c5 hf
      refine J_iconst o dX7_hasRule_12 ?_
      refine J_goto 17 o dX7_hasRule_13 (by decide) ?_
      have hf := some_inj hf
      subst hf
      exact hc _ _ (Or.inr rfl) dX7_hasRule_17
theorem c_Pr_hasRule {E : EE} {l : Launch} (hI : Inj TA E) {w : World} {x1 : Int} (r_x1 : R32 x1) {out : Int} (hf : f_Pr_hasRule w x1 = some out) : ConI TA E l yX7_hasRule (WS yX7_hasRule cX7_hasRule 2 (some .boolean)) rm_Pr_hasRule [rf E.ad 14, .int (ii x1)] w w out :=
  con_Z (by decide +kernel) rfl (Nat.le_of_ble_eq_true rfl) (c1s_r (c1s_i c1s_0 (Nat.le_of_ble_eq_true rfl)) (Nat.le_of_ble_eq_true rfl)).1 ⟨rfl, rfl⟩ hI TnA (fun K H0 k hret => t_Pr_hasRule_0 k r_x1 hf hret)
abbrev rm_Pr_rulesLeft : Room := { frames := 2, cells := 0, slots := 0, locals := 46 }
def HW_Pr_rulesLeft_4 (E : EE) (K : KT) (H0 : Heap) (w : World) : (Int × Int) → Prop := fun z => R32 z.1 → R32 z.2 → Jj K (WdT TA E H0) w 4 [some (rf E.ad 14), some (.int (ii z.1)), some (.int (ii z.2))] []
noncomputable def f_Pr_rulesLeft_29 (w : World) (x2 : Int) (s0 : Int) (s1 : Int) : Option ((Int × Int) ⊕ Int) :=
  bl (wr (s0 + s1)) fun n1 => bl (wr (x2 + 1)) fun n2 => some (Sum.inl (n1, n2))
theorem t_Pr_rulesLeft_29 {E : EE} {K : KT} {l : Launch} {H0 : Heap} (k : Kof TA E K l cX7_rulesLeft RX7 rm_Pr_rulesLeft) {w : World} {x2 : Int} {s0 : Int} {s1 : Int} {o1 : Option Value} (r_x2 : R32 x2) (r_s0 : R32 s0) (r_s1 : R32 s1) {out : ((Int × Int) ⊕ Int)} (hf : f_Pr_rulesLeft_29 w x2 s0 s1 = some out) (hc : (Sum.elim (HW_Pr_rulesLeft_4 E K H0 w) (fun out : Int => RetI TA E K H0 cX7_rulesLeft w out)) out) : Jj K (WdT TA E H0) w 29 [some (rf E.ad 14), o1, some (.int (ii x2))] [.int (ii s1), .int (ii s0)] := by
  unfold f_Pr_rulesLeft_29 at hf
  have o := k.1
  have g := k.2.1
  have kr := k.2.2.1
  refine J_iadd o dX7_rulesLeft_29 ?_
  refine J_istore_n o dX7_rulesLeft_30 (Nat.le_of_ble_eq_true rfl) ?_
  have hf := bl_out hf
  have hf := bl_out hf
  refine J_iinc o dX7_rulesLeft_31 rfl ?_
  refine J_goto 4 o dX7_rulesLeft_34 (by decide) ?_
  have hf := some_inj hf
  subst hf
  exact hc (R_wr _) (R_wr _) 
noncomputable def f_Pr_rulesLeft_4B (w : World) (x1 : Int) (x2 : Int) : Option ((Int × Int) ⊕ Int) :=
  if (w 14 4) ≤ x2 then (some (Sum.inr x1)) else (bnd (f_Pr_rule w x2) fun v5 => gd (kdA v5 = 1) (if (w v5 2) = 0 then (f_Pr_rulesLeft_29 w x2 x1 1) else (f_Pr_rulesLeft_29 w x2 x1 0)))
theorem t_Pr_rulesLeft_4B {E : EE} {K : KT} {l : Launch} {H0 : Heap} (k : Kof TA E K l cX7_rulesLeft RX7 rm_Pr_rulesLeft) {w : World} {x1 : Int} {x2 : Int} (r_x1 : R32 x1) (r_x2 : R32 x2) {out : ((Int × Int) ⊕ Int)} (hf : f_Pr_rulesLeft_4B w x1 x2 = some out) (hc : (Sum.elim (HW_Pr_rulesLeft_4 E K H0 w) (fun out : Int => RetI TA E K H0 cX7_rulesLeft w out)) out) : Jj K (WdT TA E H0) w 4 [some (rf E.ad 14), some (.int (ii x1)), some (.int (ii x2))] [] := by
  unfold f_Pr_rulesLeft_4B at hf
  have o := k.1
  have g := k.2.1
  have kr := k.2.2.1
  refine J_iload_n o dX7_rulesLeft_4 rfl ?_
  refine J_aload_n o dX7_rulesLeft_5 rfl ?_
  refine J_getI o g dX7_rulesLeft_6 flX7_33 kA_14 rfl (fun q1 => ?_)
  refine J_icmp_ge 37 o dX7_rulesLeft_9 (by decide) r_x2 q1 (fun c2 => ?_) (fun c3 => ?_)
  · have hf := ite_t c2 hf
    refine J_iload_n o dX7_rulesLeft_37 rfl ?_
    have hf := some_inj hf
    subst hf
    exact hc _ _ r_x1 dX7_rulesLeft_38
  · have hf := ite_f c3 hf
    refine J_iload_n o dX7_rulesLeft_12 rfl ?_
    refine J_aload_n o dX7_rulesLeft_13 rfl ?_
    refine J_iload_n o dX7_rulesLeft_14 rfl ?_
    obtain ⟨v5, e4, hf⟩ := bnd_some hf
    refine J_vR o g kr dX7_rulesLeft_15 lkX7_37 ml_Pr_rule vl_Pr_rule ⟨rfl, rfl, Nat.le_of_ble_eq_true rfl, Nat.le_of_ble_eq_true rfl⟩ (c_Pr_rule g.2.1 r_x2 e4) kA_14 rfl ⟨by decide, by decide⟩ rfl rfl (c1s_i c1s_0 (Nat.le_of_ble_eq_true rfl)) ?_
    obtain ⟨g7, hf⟩ := gd_some hf
    refine J_getI o g dX7_rulesLeft_18 flX7_41 g7 rfl (fun q8 => ?_)
    refine J_if_eq 28 o dX7_rulesLeft_21 (by decide) q8 (fun c9 => ?_) (fun c10 => ?_)
    · have hf := ite_t c9 hf
      refine J_iconst o dX7_rulesLeft_28 ?_
      exact t_Pr_rulesLeft_29 k r_x2 r_x1 rl1 hf hc
    · have hf := ite_f c10 hf
      refine J_iconst o dX7_rulesLeft_24 ?_
      refine J_goto 29 o dX7_rulesLeft_25 (by decide) ?_
      exact t_Pr_rulesLeft_29 k r_x2 r_x1 rl0 hf hc
noncomputable def f_Pr_rulesLeft_4 (w : World) (x1 : Int) (x2 : Int) : Option Int :=
  lp (fun z : (Int × Int) => f_Pr_rulesLeft_4B w z.1 z.2) (x1, x2)
theorem t_Pr_rulesLeft_4 {E : EE} {K : KT} {l : Launch} {H0 : Heap} (k : Kof TA E K l cX7_rulesLeft RX7 rm_Pr_rulesLeft) {w : World} {x1 : Int} {x2 : Int}  {out : Int} (hf : f_Pr_rulesLeft_4 w x1 x2 = some out) (hc : (fun out : Int => RetI TA E K H0 cX7_rulesLeft w out) out) : HW_Pr_rulesLeft_4 E K H0 w (x1, x2) := by
  unfold f_Pr_rulesLeft_4 at hf
  refine lp_ind (P := HW_Pr_rulesLeft_4 E K H0 w) hf ?_
  intro z o hs h1 h2
  intro r_x1 r_x2
  refine t_Pr_rulesLeft_4B k r_x1 r_x2 hs ?_
  cases o with
  | inl z' => exact h1 z' rfl
  | inr r' => rw [h2 r' rfl]; exact hc
noncomputable def f_Pr_rulesLeft (w : World) : Option Int :=
  f_Pr_rulesLeft_4 w 0 0
theorem t_Pr_rulesLeft_0 {E : EE} {K : KT} {l : Launch} {H0 : Heap} (k : Kof TA E K l cX7_rulesLeft RX7 rm_Pr_rulesLeft) {w : World} {o1 o2 : Option Value}  {out : Int} (hf : f_Pr_rulesLeft w = some out) (hc : (fun out : Int => RetI TA E K H0 cX7_rulesLeft w out) out) : Jj K (WdT TA E H0) w 0 [some (rf E.ad 14), o1, o2] [] := by
  unfold f_Pr_rulesLeft at hf
  have o := k.1
  have g := k.2.1
  have kr := k.2.2.1
  refine J_iconst o dX7_rulesLeft_0 ?_
  refine J_istore_n o dX7_rulesLeft_1 (Nat.le_of_ble_eq_true rfl) ?_
  refine J_iconst o dX7_rulesLeft_2 ?_
  refine J_istore_n o dX7_rulesLeft_3 (Nat.le_of_ble_eq_true rfl) ?_
  exact (t_Pr_rulesLeft_4 k  hf hc) rl0 rl0 
theorem c_Pr_rulesLeft {E : EE} {l : Launch} (hI : Inj TA E) {w : World}  {out : Int} (hf : f_Pr_rulesLeft w = some out) : ConI TA E l yX7_rulesLeft (WS yX7_rulesLeft cX7_rulesLeft 3 (some .int)) rm_Pr_rulesLeft [rf E.ad 14] w w out :=
  con_I (by decide +kernel) rfl (Nat.le_of_ble_eq_true rfl) (c1s_r c1s_0 (Nat.le_of_ble_eq_true rfl)).1 ⟨rfl, rfl⟩ hI TnA (fun K H0 k hret => t_Pr_rulesLeft_0 k  hf hret)
abbrev rm_Pr_append : Room := { frames := 6, cells := 0, slots := 0, locals := 139 }
noncomputable def f_Pr_append (w : World) (t1 : Nat) : Option World :=
  bnd (f_Pr_rule w (w 14 4)) fun v3 => gd (kdA v3 = 1) (bnd (f_Bo_copy w v3 t1) fun v7 => bl (up v7 14 4 (wr ((v7 14 4) + 1))) fun w10 => some w10)
theorem t_Pr_append_0 {E : EE} {K : KT} {l : Launch} {H0 : Heap} (k : Kof TA E K l cX7_append RX7 rm_Pr_append) {w : World} {t1 : Nat} (k_t1 : TA.kd t1 = 1) {out : World} (hf : f_Pr_append w t1 = some out) (hc : (fun out : World => RetV TA E K H0 cX7_append out) out) : Jj K (WdT TA E H0) w 0 [some (rf E.ad 14), some (rf E.ad t1)] [] := by
  unfold f_Pr_append at hf
  have o := k.1
  have g := k.2.1
  have kr := k.2.2.1
  refine J_aload_n o dX7_append_0 rfl ?_
  refine J_aload_n o dX7_append_1 rfl ?_
  refine J_getI o g dX7_append_2 flX7_33 kA_14 rfl (fun q1 => ?_)
  obtain ⟨v3, e2, hf⟩ := bnd_some hf
  refine J_vR o g kr dX7_append_5 lkX7_37 ml_Pr_rule vl_Pr_rule ⟨rfl, rfl, Nat.le_of_ble_eq_true rfl, Nat.le_of_ble_eq_true rfl⟩ (c_Pr_rule g.2.1 q1 e2) kA_14 rfl ⟨by decide, by decide⟩ rfl rfl c1s_0 ?_
  refine J_aload_n o dX7_append_8 rfl ?_
  obtain ⟨g5, hf⟩ := gd_some hf
  obtain ⟨v7, e6, hf⟩ := bnd_some hf
  refine J_vV o g kr dX7_append_9 lkX7_45 ml_Bo_copy vl_Bo_copy ⟨rfl, rfl, Nat.le_of_ble_eq_true rfl, Nat.le_of_ble_eq_true rfl⟩ (c_Bo_copy g.2.1 g5 k_t1 e6) g5 rfl ⟨by decide, by decide⟩ rfl rfl c1s_0 ?_
  refine J_aload_n o dX7_append_12 rfl ?_
  refine J_dup o dX7_append_13 rf_cat ?_
  refine J_getI o g dX7_append_14 flX7_33 kA_14 rfl (fun q9 => ?_)
  refine J_iconst o dX7_append_17 ?_
  refine J_iadd o dX7_append_18 ?_
  refine J_putI o g dX7_append_19 fpX7_33 kA_14 rfl rfl (R_wr _) ?_
  have hf := bl_out hf
  have hf := some_inj hf
  subst hf
  exact hc _ _  dX7_append_22
theorem c_Pr_append {E : EE} {l : Launch} (hI : Inj TA E) {w : World} {t1 : Nat} (k_t1 : TA.kd t1 = 1) {out : World} (hf : f_Pr_append w t1 = some out) : ConV TA E l yX7_append (WS yX7_append cX7_append 2 none) rm_Pr_append [rf E.ad 14, rf E.ad t1] w out :=
  con_V (by decide +kernel) rfl (Nat.le_of_ble_eq_true rfl) (c1s_r (c1s_r c1s_0 (Nat.le_of_ble_eq_true rfl)) (Nat.le_of_ble_eq_true rfl)).1 ⟨rfl, rfl⟩ hI TnA (fun K H0 k hret => t_Pr_append_0 k k_t1 hf hret)
abbrev rm_Pr_grows : Room := { frames := 3, cells := 0, slots := 0, locals := 71 }
noncomputable def f_Pr_grows_160 (w : World) : Option Int :=
  some 1
theorem t_Pr_grows_160 {E : EE} {K : KT} {l : Launch} {H0 : Heap} (k : Kof TA E K l cX7_grows RX7 rm_Pr_grows) {w : World} {o0 o1 o2 o3 o4 o5 o6 o7 o8 o9 : Option Value}  {out : Int} (hf : f_Pr_grows_160 w = some out) (hc : (fun out : Int => RetZ TA E K H0 cX7_grows w out) out) : Jj K (WdT TA E H0) w 160 [o0, o1, o2, o3, o4, o5, o6, o7, o8, o9] [] := by
  unfold f_Pr_grows_160 at hf
  have o := k.1
  have g := k.2.1
  have kr := k.2.2.1
  refine J_iconst o dX7_grows_160 ?_
  refine J_goto 165 o dX7_grows_161 (by decide) ?_
  have hf := some_inj hf
  subst hf
  exact hc _ _ (Or.inr rfl) dX7_grows_165
noncomputable def f_Pr_grows_133 (w : World) (t1 : Nat) (x7 : Int) (x8 : Int) (x9 : Int) : Option Int :=
  if x7 = 0 then (some 0) else (if 0 ≤ x9 then (some 0) else (if x8 = x9 then (bnd (f_Bo_mentions w t1 x9) fun v8 => if v8 = 2 then (f_Pr_grows_160 w) else (some 0)) else (some 0)))
theorem t_Pr_grows_133 {E : EE} {K : KT} {l : Launch} {H0 : Heap} (k : Kof TA E K l cX7_grows RX7 rm_Pr_grows) {w : World} {t1 : Nat} {x7 : Int} {x8 : Int} {x9 : Int} {o0 o2 o3 o4 o5 o6 : Option Value} (k_t1 : TA.kd t1 = 1) (r_x7 : R32 x7) (r_x8 : R32 x8) (r_x9 : R32 x9) {out : Int} (hf : f_Pr_grows_133 w t1 x7 x8 x9 = some out) (hc : (fun out : Int => RetZ TA E K H0 cX7_grows w out) out) : Jj K (WdT TA E H0) w 133 [o0, some (rf E.ad t1), o2, o3, o4, o5, o6, some (.int (ii x7)), some (.int (ii x8)), some (.int (ii x9))] [] := by
  unfold f_Pr_grows_133 at hf
  have o := k.1
  have g := k.2.1
  have kr := k.2.2.1
  refine J_iload o dX7_grows_133 rfl ?_
  refine J_if_eq 164 o dX7_grows_135 (by decide) r_x7 (fun c1 => ?_) (fun c2 => ?_)
  · have hf := ite_t c1 hf
    refine J_iconst o dX7_grows_164 ?_
    have hf := some_inj hf
    subst hf
    exact hc _ _ (Or.inl rfl) dX7_grows_165
  · have hf := ite_f c2 hf
    refine J_iload o dX7_grows_138 rfl ?_
    refine J_if_ge 164 o dX7_grows_140 (by decide) r_x9 (fun c3 => ?_) (fun c4 => ?_)
    · have hf := ite_t c3 hf
      refine J_iconst o dX7_grows_164 ?_
      have hf := some_inj hf
      subst hf
      exact hc _ _ (Or.inl rfl) dX7_grows_165
    · have hf := ite_f c4 hf
      refine J_iload o dX7_grows_143 rfl ?_
      refine J_iload o dX7_grows_145 rfl ?_
      refine J_icmp_ne 164 o dX7_grows_147 (by decide) r_x8 r_x9 (fun c5 => ?_) (fun c6 => ?_)
      · have hf := ite_f c5 hf
        refine J_iconst o dX7_grows_164 ?_
        have hf := some_inj hf
        subst hf
        exact hc _ _ (Or.inl rfl) dX7_grows_165
      · have hf := ite_t c6 hf
        refine J_aload_n o dX7_grows_150 rfl ?_
        refine J_iload o dX7_grows_151 rfl ?_
        obtain ⟨v8, e7, hf⟩ := bnd_some hf
        refine J_vI o g kr dX7_grows_153 lkX7_110 ml_Bo_mentions vl_Bo_mentions ⟨rfl, rfl, Nat.le_of_ble_eq_true rfl, Nat.le_of_ble_eq_true rfl⟩ (c_Bo_mentions g.2.1 k_t1 r_x9 e7) k_t1 rfl ⟨by decide, by decide⟩ rfl rfl c1s_0 (fun q9 => ?_)
        refine J_iconst o dX7_grows_156 ?_
        refine J_icmp_ne 164 o dX7_grows_157 (by decide) q9 rl2 (fun c10 => ?_) (fun c11 => ?_)
        · have hf := ite_f c10 hf
          refine J_iconst o dX7_grows_164 ?_
          have hf := some_inj hf
          subst hf
          exact hc _ _ (Or.inl rfl) dX7_grows_165
        · have hf := ite_t c11 hf
          exact t_Pr_grows_160 k  hf hc
noncomputable def f_Pr_grows_113 (w : World) (t1 : Nat) (x5 : Int) (x6 : Int) (x7 : Int) (x8 : Int) (s0 : Int) : Option Int :=
  if x6 = 1 then (f_Pr_grows_160 w) else (if x7 = 0 then (f_Pr_grows_133 w t1 x7 x8 s0) else (if x8 = x5 then (f_Pr_grows_160 w) else (f_Pr_grows_133 w t1 x7 x8 s0)))
theorem t_Pr_grows_113 {E : EE} {K : KT} {l : Launch} {H0 : Heap} (k : Kof TA E K l cX7_grows RX7 rm_Pr_grows) {w : World} {t1 : Nat} {x5 : Int} {x6 : Int} {x7 : Int} {x8 : Int} {s0 : Int} {o0 o2 o3 o4 o9 : Option Value} (k_t1 : TA.kd t1 = 1) (r_x5 : R32 x5) (r_x6 : R32 x6) (r_x7 : R32 x7) (r_x8 : R32 x8) (r_s0 : R32 s0) {out : Int} (hf : f_Pr_grows_113 w t1 x5 x6 x7 x8 s0 = some out) (hc : (fun out : Int => RetZ TA E K H0 cX7_grows w out) out) : Jj K (WdT TA E H0) w 113 [o0, some (rf E.ad t1), o2, o3, o4, some (.int (ii x5)), some (.int (ii x6)), some (.int (ii x7)), some (.int (ii x8)), o9] [.int (ii s0)] := by
  unfold f_Pr_grows_113 at hf
  have o := k.1
  have g := k.2.1
  have kr := k.2.2.1
  refine J_istore o dX7_grows_113 (Nat.le_of_ble_eq_true rfl) ?_
  refine J_iload o dX7_grows_115 rfl ?_
  refine J_iconst o dX7_grows_117 ?_
  refine J_icmp_eq 160 o dX7_grows_118 (by decide) r_x6 rl1 (fun c1 => ?_) (fun c2 => ?_)
  · have hf := ite_t c1 hf
    exact t_Pr_grows_160 k  hf hc
  · have hf := ite_f c2 hf
    refine J_iload o dX7_grows_121 rfl ?_
    refine J_if_eq 133 o dX7_grows_123 (by decide) r_x7 (fun c3 => ?_) (fun c4 => ?_)
    · have hf := ite_t c3 hf
      exact t_Pr_grows_133 k k_t1 r_x7 r_x8 r_s0 hf hc
    · have hf := ite_f c4 hf
      refine J_iload o dX7_grows_126 rfl ?_
      refine J_iload o dX7_grows_128 rfl ?_
      refine J_icmp_eq 160 o dX7_grows_130 (by decide) r_x8 r_x5 (fun c5 => ?_) (fun c6 => ?_)
      · have hf := ite_t c5 hf
        exact t_Pr_grows_160 k  hf hc
      · have hf := ite_f c6 hf
        exact t_Pr_grows_133 k k_t1 r_x7 r_x8 r_s0 hf hc
noncomputable def f_Pr_grows_75 (w : World) (t1 : Nat) (x4 : Int) (x5 : Int) (x6 : Int) (s0 : Int) : Option Int :=
  bnd (f_Sc_columnsOf w (w t1 1)) fun v3 => bnd (f_Bo_termOf w t1 5 (wr (v3 - 1))) fun v6 => if x4 = 3 then (f_Pr_grows_113 w t1 x5 x6 s0 v6 0) else (bnd (f_Bo_sumOver w t1 x5) fun v11 => f_Pr_grows_113 w t1 x5 x6 s0 v6 v11)
theorem t_Pr_grows_75 {E : EE} {K : KT} {l : Launch} {H0 : Heap} (k : Kof TA E K l cX7_grows RX7 rm_Pr_grows) {w : World} {t1 : Nat} {x4 : Int} {x5 : Int} {x6 : Int} {s0 : Int} {o2 o3 o7 o8 o9 : Option Value} (k_t1 : TA.kd t1 = 1) (r_x4 : R32 x4) (r_x5 : R32 x5) (r_x6 : R32 x6) (r_s0 : R32 s0) {out : Int} (hf : f_Pr_grows_75 w t1 x4 x5 x6 s0 = some out) (hc : (fun out : Int => RetZ TA E K H0 cX7_grows w out) out) : Jj K (WdT TA E H0) w 75 [some (rf E.ad 14), some (rf E.ad t1), o2, o3, some (.int (ii x4)), some (.int (ii x5)), some (.int (ii x6)), o7, o8, o9] [.int (ii s0)] := by
  unfold f_Pr_grows_75 at hf
  have o := k.1
  have g := k.2.1
  have kr := k.2.2.1
  refine J_istore o dX7_grows_75 (Nat.le_of_ble_eq_true rfl) ?_
  refine J_aload_n o dX7_grows_77 rfl ?_
  refine J_iconst o dX7_grows_78 ?_
  refine J_aload_n o dX7_grows_79 rfl ?_
  refine J_getF (true, 2) o g dX7_grows_80 flX7_29 kA_14 rfl rfl rfl ?_
  refine J_aload_n o dX7_grows_83 rfl ?_
  refine J_getI o g dX7_grows_84 flX7_66 k_t1 rfl (fun q1 => ?_)
  obtain ⟨v3, e2, hf⟩ := bnd_some hf
  refine J_vI o g kr dX7_grows_87 lkX7_104 ml_Sc_columnsOf vl_Sc_columnsOf ⟨rfl, rfl, Nat.le_of_ble_eq_true rfl, Nat.le_of_ble_eq_true rfl⟩ (c_Sc_columnsOf g.2.1 q1 e2) kA_2 rfl ⟨by decide, by decide⟩ rfl rfl (c1s_i (c1s_r c1s_0 (Nat.le_of_ble_eq_true rfl)) (Nat.le_of_ble_eq_true rfl)) (fun q4 => ?_)
  refine J_iconst o dX7_grows_90 ?_
  refine J_isub o dX7_grows_91 ?_
  obtain ⟨v6, e5, hf⟩ := bnd_some hf
  refine J_vI o g kr dX7_grows_92 lkX7_107 ml_Bo_termOf vl_Bo_termOf ⟨rfl, rfl, Nat.le_of_ble_eq_true rfl, Nat.le_of_ble_eq_true rfl⟩ (c_Bo_termOf g.2.1 k_t1 rl5 (R_wr _) e5) k_t1 rfl ⟨by decide, by decide⟩ rfl rfl c1s_0 (fun q7 => ?_)
  refine J_istore o dX7_grows_95 (Nat.le_of_ble_eq_true rfl) ?_
  refine J_iload o dX7_grows_97 rfl ?_
  refine J_iconst o dX7_grows_99 ?_
  refine J_icmp_ne 107 o dX7_grows_100 (by decide) r_x4 rl3 (fun c8 => ?_) (fun c9 => ?_)
  · have hf := ite_f c8 hf
    refine J_aload_n o dX7_grows_107 rfl ?_
    refine J_iload o dX7_grows_108 rfl ?_
    obtain ⟨v11, e10, hf⟩ := bnd_some hf
    refine J_vI o g kr dX7_grows_110 lkX7_113 ml_Bo_sumOver vl_Bo_sumOver ⟨rfl, rfl, Nat.le_of_ble_eq_true rfl, Nat.le_of_ble_eq_true rfl⟩ (c_Bo_sumOver g.2.1 k_t1 r_x5 e10) k_t1 rfl ⟨by decide, by decide⟩ rfl rfl c1s_0 (fun q12 => ?_)
    exact t_Pr_grows_113 k k_t1 r_x5 r_x6 r_s0 q7 q12 hf hc
  · have hf := ite_t c9 hf
    refine J_iconst o dX7_grows_103 ?_
    refine J_goto 113 o dX7_grows_104 (by decide) ?_
    exact t_Pr_grows_113 k k_t1 r_x5 r_x6 r_s0 q7 rl0 hf hc
noncomputable def f_Pr_grows (w : World) (t1 : Nat) (x2 : Int) : Option Int :=
  bnd (f_Bo_subjectOf w t1 x2) fun v2 => bnd (f_Sc_kindOf w v2) fun v5 => bnd (f_Sc_columnsOf w v2) fun v8 => bnd (f_Bo_termOf w t1 x2 (wr (v8 - 1))) fun v11 => bnd (f_Bo_mentions w t1 v11) fun v14 => if 0 ≤ v11 then (some 0) else (if v14 ≤ 2 then (bnd (f_Sc_kindOf w (w t1 1)) fun v22 => if v22 = v5 then (f_Pr_grows_75 w t1 v5 v11 v14 1) else (f_Pr_grows_75 w t1 v5 v11 v14 0)) else (some 0))
theorem t_Pr_grows_0 {E : EE} {K : KT} {l : Launch} {H0 : Heap} (k : Kof TA E K l cX7_grows RX7 rm_Pr_grows) {w : World} {t1 : Nat} {x2 : Int} {o3 o4 o5 o6 o7 o8 o9 : Option Value} (k_t1 : TA.kd t1 = 1) (r_x2 : R32 x2) {out : Int} (hf : f_Pr_grows w t1 x2 = some out) (hc : (fun out : Int => RetZ TA E K H0 cX7_grows w out) out) : Jj K (WdT TA E H0) w 0 [some (rf E.ad 14), some (rf E.ad t1), some (.int (ii x2)), o3, o4, o5, o6, o7, o8, o9] [] := by
  unfold f_Pr_grows at hf
  have o := k.1
  have g := k.2.1
  have kr := k.2.2.1
  refine J_aload_n o dX7_grows_0 rfl ?_
  refine J_iload_n o dX7_grows_1 rfl ?_
  obtain ⟨v2, e1, hf⟩ := bnd_some hf
  refine J_vI o g kr dX7_grows_2 lkX7_76 ml_Bo_subjectOf vl_Bo_subjectOf ⟨rfl, rfl, Nat.le_of_ble_eq_true rfl, Nat.le_of_ble_eq_true rfl⟩ (c_Bo_subjectOf g.2.1 k_t1 r_x2 e1) k_t1 rfl ⟨by decide, by decide⟩ rfl rfl c1s_0 (fun q3 => ?_)
  refine J_istore_n o dX7_grows_5 (Nat.le_of_ble_eq_true rfl) ?_
  refine J_aload_n o dX7_grows_6 rfl ?_
  refine J_getF (true, 2) o g dX7_grows_7 flX7_29 kA_14 rfl rfl rfl ?_
  refine J_iload_n o dX7_grows_10 rfl ?_
  obtain ⟨v5, e4, hf⟩ := bnd_some hf
  refine J_vI o g kr dX7_grows_11 lkX7_96 ml_Sc_kindOf vl_Sc_kindOf ⟨rfl, rfl, Nat.le_of_ble_eq_true rfl, Nat.le_of_ble_eq_true rfl⟩ (c_Sc_kindOf g.2.1 q3 e4) kA_2 rfl ⟨by decide, by decide⟩ rfl rfl c1s_0 (fun q6 => ?_)
  refine J_istore o dX7_grows_14 (Nat.le_of_ble_eq_true rfl) ?_
  refine J_aload_n o dX7_grows_16 rfl ?_
  refine J_iload_n o dX7_grows_17 rfl ?_
  refine J_aload_n o dX7_grows_18 rfl ?_
  refine J_getF (true, 2) o g dX7_grows_19 flX7_29 kA_14 rfl rfl rfl ?_
  refine J_iload_n o dX7_grows_22 rfl ?_
  obtain ⟨v8, e7, hf⟩ := bnd_some hf
  refine J_vI o g kr dX7_grows_23 lkX7_104 ml_Sc_columnsOf vl_Sc_columnsOf ⟨rfl, rfl, Nat.le_of_ble_eq_true rfl, Nat.le_of_ble_eq_true rfl⟩ (c_Sc_columnsOf g.2.1 q3 e7) kA_2 rfl ⟨by decide, by decide⟩ rfl rfl (c1s_i (c1s_r c1s_0 (Nat.le_of_ble_eq_true rfl)) (Nat.le_of_ble_eq_true rfl)) (fun q9 => ?_)
  refine J_iconst o dX7_grows_26 ?_
  refine J_isub o dX7_grows_27 ?_
  obtain ⟨v11, e10, hf⟩ := bnd_some hf
  refine J_vI o g kr dX7_grows_28 lkX7_107 ml_Bo_termOf vl_Bo_termOf ⟨rfl, rfl, Nat.le_of_ble_eq_true rfl, Nat.le_of_ble_eq_true rfl⟩ (c_Bo_termOf g.2.1 k_t1 r_x2 (R_wr _) e10) k_t1 rfl ⟨by decide, by decide⟩ rfl rfl c1s_0 (fun q12 => ?_)
  refine J_istore o dX7_grows_31 (Nat.le_of_ble_eq_true rfl) ?_
  refine J_aload_n o dX7_grows_33 rfl ?_
  refine J_iload o dX7_grows_34 rfl ?_
  obtain ⟨v14, e13, hf⟩ := bnd_some hf
  refine J_vI o g kr dX7_grows_36 lkX7_110 ml_Bo_mentions vl_Bo_mentions ⟨rfl, rfl, Nat.le_of_ble_eq_true rfl, Nat.le_of_ble_eq_true rfl⟩ (c_Bo_mentions g.2.1 k_t1 q12 e13) k_t1 rfl ⟨by decide, by decide⟩ rfl rfl c1s_0 (fun q15 => ?_)
  refine J_istore o dX7_grows_39 (Nat.le_of_ble_eq_true rfl) ?_
  refine J_iload o dX7_grows_41 rfl ?_
  refine J_if_ge 52 o dX7_grows_43 (by decide) q12 (fun c16 => ?_) (fun c17 => ?_)
  · have hf := ite_t c16 hf
    refine J_iconst o dX7_grows_52 ?_
    have hf := some_inj hf
    subst hf
    exact hc _ _ (Or.inl rfl) dX7_grows_53
  · have hf := ite_f c17 hf
    refine J_iload o dX7_grows_46 rfl ?_
    refine J_iconst o dX7_grows_48 ?_
    refine J_icmp_le 54 o dX7_grows_49 (by decide) q15 rl2 (fun c18 => ?_) (fun c19 => ?_)
    · have hf := ite_t c18 hf
      refine J_aload_n o dX7_grows_54 rfl ?_
      refine J_getF (true, 2) o g dX7_grows_55 flX7_29 kA_14 rfl rfl rfl ?_
      refine J_aload_n o dX7_grows_58 rfl ?_
      refine J_getI o g dX7_grows_59 flX7_66 k_t1 rfl (fun q20 => ?_)
      obtain ⟨v22, e21, hf⟩ := bnd_some hf
      refine J_vI o g kr dX7_grows_62 lkX7_96 ml_Sc_kindOf vl_Sc_kindOf ⟨rfl, rfl, Nat.le_of_ble_eq_true rfl, Nat.le_of_ble_eq_true rfl⟩ (c_Sc_kindOf g.2.1 q20 e21) kA_2 rfl ⟨by decide, by decide⟩ rfl rfl c1s_0 (fun q23 => ?_)
      refine J_iload o dX7_grows_65 rfl ?_
      refine J_icmp_ne 74 o dX7_grows_67 (by decide) q23 q6 (fun c24 => ?_) (fun c25 => ?_)
      · have hf := ite_f c24 hf
        refine J_iconst o dX7_grows_74 ?_
        exact t_Pr_grows_75 k k_t1 q6 q12 q15 rl0 hf hc
      · have hf := ite_t c25 hf
        refine J_iconst o dX7_grows_70 ?_
        refine J_goto 75 o dX7_grows_71 (by decide) ?_
        exact t_Pr_grows_75 k k_t1 q6 q12 q15 rl1 hf hc
    · have hf := ite_f c19 hf
      refine J_iconst o dX7_grows_52 ?_
      have hf := some_inj hf
      subst hf
      exact hc _ _ (Or.inl rfl) dX7_grows_53
theorem c_Pr_grows {E : EE} {l : Launch} (hI : Inj TA E) {w : World} {t1 : Nat} {x2 : Int} (k_t1 : TA.kd t1 = 1) (r_x2 : R32 x2) {out : Int} (hf : f_Pr_grows w t1 x2 = some out) : ConI TA E l yX7_grows (WS yX7_grows cX7_grows 10 (some .boolean)) rm_Pr_grows [rf E.ad 14, rf E.ad t1, .int (ii x2)] w w out :=
  con_Z (by decide +kernel) rfl (Nat.le_of_ble_eq_true rfl) (c1s_r (c1s_r (c1s_i c1s_0 (Nat.le_of_ble_eq_true rfl)) (Nat.le_of_ble_eq_true rfl)) (Nat.le_of_ble_eq_true rfl)).1 ⟨rfl, rfl⟩ hI TnA (fun K H0 k hret => t_Pr_grows_0 k k_t1 r_x2 hf hret)
abbrev rm_Pr_isAbove : Room := { frames := 4, cells := 0, slots := 0, locals := 100 }
noncomputable def f_Pr_isAbove_33 (w : World) : Option Int :=
  some 1
theorem t_Pr_isAbove_33 {E : EE} {K : KT} {l : Launch} {H0 : Heap} (k : Kof TA E K l cX7_isAbove RX7 rm_Pr_isAbove) {w : World} {o0 o1 o2 : Option Value}  {out : Int} (hf : f_Pr_isAbove_33 w = some out) (hc : (fun out : Int => RetZ TA E K H0 cX7_isAbove w out) out) : Jj K (WdT TA E H0) w 33 [o0, o1, o2] [] := by
  unfold f_Pr_isAbove_33 at hf
  have o := k.1
  have g := k.2.1
  have kr := k.2.2.1
  refine J_iconst o dX7_isAbove_33 ?_
  refine J_goto 38 o dX7_isAbove_34 (by decide) ?_
  have hf := some_inj hf
  subst hf
  exact hc _ _ (Or.inr rfl) dX7_isAbove_38
noncomputable def f_Pr_isAbove (w : World) (t1 : Nat) (x2 : Int) : Option Int :=
  bnd (f_Bo_formOf w t1 x2) fun v2 => if v2 = 1 then (f_Pr_isAbove_33 w) else (bnd (f_Bo_subjectOf w t1 x2) fun v7 => bnd (f_Sc_kindOf w v7) fun v10 => if v10 = 0 then (some 0) else (bnd (f_Pr_grows w t1 x2) fun v15 => if v15 = 0 then (f_Pr_isAbove_33 w) else (some 0)))
theorem t_Pr_isAbove_0 {E : EE} {K : KT} {l : Launch} {H0 : Heap} (k : Kof TA E K l cX7_isAbove RX7 rm_Pr_isAbove) {w : World} {t1 : Nat} {x2 : Int} (k_t1 : TA.kd t1 = 1) (r_x2 : R32 x2) {out : Int} (hf : f_Pr_isAbove w t1 x2 = some out) (hc : (fun out : Int => RetZ TA E K H0 cX7_isAbove w out) out) : Jj K (WdT TA E H0) w 0 [some (rf E.ad 14), some (rf E.ad t1), some (.int (ii x2))] [] := by
  unfold f_Pr_isAbove at hf
  have o := k.1
  have g := k.2.1
  have kr := k.2.2.1
  refine J_aload_n o dX7_isAbove_0 rfl ?_
  refine J_iload_n o dX7_isAbove_1 rfl ?_
  obtain ⟨v2, e1, hf⟩ := bnd_some hf
  refine J_vI o g kr dX7_isAbove_2 lkX7_93 ml_Bo_formOf vl_Bo_formOf ⟨rfl, rfl, Nat.le_of_ble_eq_true rfl, Nat.le_of_ble_eq_true rfl⟩ (c_Bo_formOf g.2.1 k_t1 r_x2 e1) k_t1 rfl ⟨by decide, by decide⟩ rfl rfl c1s_0 (fun q3 => ?_)
  refine J_iconst o dX7_isAbove_5 ?_
  refine J_icmp_eq 33 o dX7_isAbove_6 (by decide) q3 rl1 (fun c4 => ?_) (fun c5 => ?_)
  · have hf := ite_t c4 hf
    exact t_Pr_isAbove_33 k  hf hc
  · have hf := ite_f c5 hf
    refine J_aload_n o dX7_isAbove_9 rfl ?_
    refine J_getF (true, 2) o g dX7_isAbove_10 flX7_29 kA_14 rfl rfl rfl ?_
    refine J_aload_n o dX7_isAbove_13 rfl ?_
    refine J_iload_n o dX7_isAbove_14 rfl ?_
    obtain ⟨v7, e6, hf⟩ := bnd_some hf
    refine J_vI o g kr dX7_isAbove_15 lkX7_76 ml_Bo_subjectOf vl_Bo_subjectOf ⟨rfl, rfl, Nat.le_of_ble_eq_true rfl, Nat.le_of_ble_eq_true rfl⟩ (c_Bo_subjectOf g.2.1 k_t1 r_x2 e6) k_t1 rfl ⟨by decide, by decide⟩ rfl rfl (c1s_r c1s_0 (Nat.le_of_ble_eq_true rfl)) (fun q8 => ?_)
    obtain ⟨v10, e9, hf⟩ := bnd_some hf
    refine J_vI o g kr dX7_isAbove_18 lkX7_96 ml_Sc_kindOf vl_Sc_kindOf ⟨rfl, rfl, Nat.le_of_ble_eq_true rfl, Nat.le_of_ble_eq_true rfl⟩ (c_Sc_kindOf g.2.1 q8 e9) kA_2 rfl ⟨by decide, by decide⟩ rfl rfl c1s_0 (fun q11 => ?_)
    refine J_if_eq 37 o dX7_isAbove_21 (by decide) q11 (fun c12 => ?_) (fun c13 => ?_)
    · have hf := ite_t c12 hf
      refine J_iconst o dX7_isAbove_37 ?_
      have hf := some_inj hf
      subst hf
      exact hc _ _ (Or.inl rfl) dX7_isAbove_38
    · have hf := ite_f c13 hf
      refine J_aload_n o dX7_isAbove_24 rfl ?_
      refine J_aload_n o dX7_isAbove_25 rfl ?_
      refine J_iload_n o dX7_isAbove_26 rfl ?_
      obtain ⟨v15, e14, hf⟩ := bnd_some hf
      refine J_vI o g kr dX7_isAbove_27 lkX7_101 ml_Pr_grows vl_Pr_grows ⟨rfl, rfl, Nat.le_of_ble_eq_true rfl, Nat.le_of_ble_eq_true rfl⟩ (c_Pr_grows g.2.1 k_t1 r_x2 e14) kA_14 rfl ⟨by decide, by decide⟩ rfl rfl c1s_0 (fun q16 => ?_)
      refine J_if_ne 37 o dX7_isAbove_30 (by decide) q16 (fun c17 => ?_) (fun c18 => ?_)
      · have hf := ite_f c17 hf
        refine J_iconst o dX7_isAbove_37 ?_
        have hf := some_inj hf
        subst hf
        exact hc _ _ (Or.inl rfl) dX7_isAbove_38
      · have hf := ite_t c18 hf
        exact t_Pr_isAbove_33 k  hf hc
theorem c_Pr_isAbove {E : EE} {l : Launch} (hI : Inj TA E) {w : World} {t1 : Nat} {x2 : Int} (k_t1 : TA.kd t1 = 1) (r_x2 : R32 x2) {out : Int} (hf : f_Pr_isAbove w t1 x2 = some out) : ConI TA E l yX7_isAbove (WS yX7_isAbove cX7_isAbove 3 (some .boolean)) rm_Pr_isAbove [rf E.ad 14, rf E.ad t1, .int (ii x2)] w w out :=
  con_Z (by decide +kernel) rfl (Nat.le_of_ble_eq_true rfl) (c1s_r (c1s_r (c1s_i c1s_0 (Nat.le_of_ble_eq_true rfl)) (Nat.le_of_ble_eq_true rfl)) (Nat.le_of_ble_eq_true rfl)).1 ⟨rfl, rfl⟩ hI TnA (fun K H0 k hret => t_Pr_isAbove_0 k k_t1 r_x2 hf hret)
abbrev rm_Pr_raise : Room := { frames := 5, cells := 0, slots := 0, locals := 122 }
def HW_Pr_raise_10 (E : EE) (K : KT) (H0 : Heap) (t1 : Nat) (x2 : Int) : (World × Int × Int) → Prop := fun z => R32 z.2.1 → R32 z.2.2 → ∀ o5 : Option Value, Jj K (WdT TA E H0) z.1 10 [some (rf E.ad 14), some (rf E.ad t1), some (.int (ii x2)), some (.int (ii z.2.1)), some (.int (ii z.2.2)), o5] []
noncomputable def f_Pr_raise_110 (w : World) (t1 : Nat) (x2 : Int) (x3 : Int) (x4 : Int) : Option ((World × Int × Int) ⊕ (World × Int)) :=
  bl (wr (x4 + 1)) fun n1 => some (Sum.inl (w, x3, n1))
theorem t_Pr_raise_110 {E : EE} {K : KT} {l : Launch} {H0 : Heap} (k : Kof TA E K l cX7_raise RX7 rm_Pr_raise) {w : World} {t1 : Nat} {x2 : Int} {x3 : Int} {x4 : Int} {o5 : Option Value} (k_t1 : TA.kd t1 = 1) (r_x2 : R32 x2) (r_x3 : R32 x3) (r_x4 : R32 x4) {out : ((World × Int × Int) ⊕ (World × Int))} (hf : f_Pr_raise_110 w t1 x2 x3 x4 = some out) (hc : (Sum.elim (HW_Pr_raise_10 E K H0 t1 x2) (fun out : (World × Int) => RetZ TA E K H0 cX7_raise out.1 out.2)) out) : Jj K (WdT TA E H0) w 110 [some (rf E.ad 14), some (rf E.ad t1), some (.int (ii x2)), some (.int (ii x3)), some (.int (ii x4)), o5] [] := by
  unfold f_Pr_raise_110 at hf
  have o := k.1
  have g := k.2.1
  have kr := k.2.2.1
  have hf := bl_out hf
  refine J_iinc o dX7_raise_110 rfl ?_
  refine J_goto 10 o dX7_raise_113 (by decide) ?_
  have hf := some_inj hf
  subst hf
  exact hc r_x3 (R_wr _) _
noncomputable def f_Pr_raise_73 (w : World) (t1 : Nat) (x2 : Int) (x3 : Int) (x4 : Int) (s0 : Int) (s1 : Int) : Option ((World × Int × Int) ⊕ (World × Int)) :=
  bl (wr (s0 + s1)) fun n1 => gd (0 ≤ x2 ∧ x2 < 10) (if n1 ≤ (w 21 x2.toNat) then (f_Pr_raise_110 w t1 x2 x3 x4) else (gd (0 ≤ x2 ∧ x2 < 10) (bl (up w 21 x2.toNat n1) fun w7 => bl (up w7 14 7 (imax (w7 14 7) n1)) fun w9 => f_Pr_raise_110 w9 t1 x2 1 x4)))
theorem t_Pr_raise_73 {E : EE} {K : KT} {l : Launch} {H0 : Heap} (k : Kof TA E K l cX7_raise RX7 rm_Pr_raise) {w : World} {t1 : Nat} {x2 : Int} {x3 : Int} {x4 : Int} {s0 : Int} {s1 : Int} {o5 : Option Value} (k_t1 : TA.kd t1 = 1) (r_x2 : R32 x2) (r_x3 : R32 x3) (r_x4 : R32 x4) (r_s0 : R32 s0) (r_s1 : R32 s1) {out : ((World × Int × Int) ⊕ (World × Int))} (hf : f_Pr_raise_73 w t1 x2 x3 x4 s0 s1 = some out) (hc : (Sum.elim (HW_Pr_raise_10 E K H0 t1 x2) (fun out : (World × Int) => RetZ TA E K H0 cX7_raise out.1 out.2)) out) : Jj K (WdT TA E H0) w 73 [some (rf E.ad 14), some (rf E.ad t1), some (.int (ii x2)), some (.int (ii x3)), some (.int (ii x4)), o5] [.int (ii s1), .int (ii s0)] := by
  unfold f_Pr_raise_73 at hf
  have o := k.1
  have g := k.2.1
  have kr := k.2.2.1
  refine J_iadd o dX7_raise_73 ?_
  refine J_istore o dX7_raise_74 (Nat.le_of_ble_eq_true rfl) ?_
  have hf := bl_out hf
  refine J_aload_n o dX7_raise_76 rfl ?_
  refine J_getF (true, 21) o g dX7_raise_77 flX7_25 kA_14 rfl rfl rfl ?_
  refine J_iload_n o dX7_raise_80 rfl ?_
  obtain ⟨g2, hf⟩ := gd_some hf
  refine J_iald o g dX7_raise_81 kA_21 r_x2 zA_21 g2 (fun q3 => ?_)
  refine J_iload o dX7_raise_82 rfl ?_
  refine J_icmp_ge 110 o dX7_raise_84 (by decide) q3 (R_wr _) (fun c4 => ?_) (fun c5 => ?_)
  · have hf := ite_t c4 hf
    exact t_Pr_raise_110 k k_t1 r_x2 r_x3 r_x4 hf hc
  · have hf := ite_f c5 hf
    refine J_aload_n o dX7_raise_87 rfl ?_
    refine J_getF (true, 21) o g dX7_raise_88 flX7_25 kA_14 rfl rfl rfl ?_
    refine J_iload_n o dX7_raise_91 rfl ?_
    refine J_iload o dX7_raise_92 rfl ?_
    obtain ⟨g6, hf⟩ := gd_some hf
    refine J_iast o g dX7_raise_94 kA_21 (fxA_40 _) r_x2 zA_21 g6 (R_wr _) ?_
    have hf := bl_out hf
    refine J_aload_n o dX7_raise_95 rfl ?_
    refine J_aload_n o dX7_raise_96 rfl ?_
    refine J_getI o g dX7_raise_97 flX7_59 kA_14 rfl (fun q8 => ?_)
    refine J_iload o dX7_raise_100 rfl ?_
    refine J_mmax o kr dX7_raise_102 mw939 mw693 mw129 mw694 ⟨by decide, by decide⟩ q8 (R_wr _) (c1s_r c1s_0 (Nat.le_of_ble_eq_true rfl)) ?_
    refine J_putI o g dX7_raise_105 fpX7_59 kA_14 rfl rfl (R_imax q8 (R_wr _)) ?_
    have hf := bl_out hf
    refine J_iconst o dX7_raise_108 ?_
    refine J_istore_n o dX7_raise_109 (Nat.le_of_ble_eq_true rfl) ?_
    exact t_Pr_raise_110 k k_t1 r_x2 rl1 r_x4 hf hc
noncomputable def f_Pr_raise_10B (w : World) (t1 : Nat) (x2 : Int) (x3 : Int) (x4 : Int) : Option ((World × Int × Int) ⊕ (World × Int)) :=
  if (w t1 0) ≤ x4 then (gd (x3 = 0 ∨ x3 = 1) (some (Sum.inr (w, x3)))) else (if (w t1 2) = 0 then (bnd (f_Bo_isAtom w t1 x4) fun v10 => if v10 = 0 then (f_Pr_raise_110 w t1 x2 x3 x4) else (if x2 < 0 then (f_Pr_raise_110 w t1 x2 x3 x4) else (if 10 ≤ x2 then (f_Pr_raise_110 w t1 x2 x3 x4) else (bnd (f_Bo_subjectOf w t1 x4) fun v19 => bnd (f_Pr_levelOf w v19) fun v22 => bnd (f_Pr_isAbove w t1 x4) fun v25 => if v25 = 0 then (f_Pr_raise_73 w t1 x2 x3 x4 v22 0) else (f_Pr_raise_73 w t1 x2 x3 x4 v22 1))))) else (gd (x3 = 0 ∨ x3 = 1) (some (Sum.inr (w, x3)))))
theorem t_Pr_raise_10B {E : EE} {K : KT} {l : Launch} {H0 : Heap} (k : Kof TA E K l cX7_raise RX7 rm_Pr_raise) {w : World} {t1 : Nat} {x2 : Int} {x3 : Int} {x4 : Int} {o5 : Option Value} (k_t1 : TA.kd t1 = 1) (r_x2 : R32 x2) (r_x3 : R32 x3) (r_x4 : R32 x4) {out : ((World × Int × Int) ⊕ (World × Int))} (hf : f_Pr_raise_10B w t1 x2 x3 x4 = some out) (hc : (Sum.elim (HW_Pr_raise_10 E K H0 t1 x2) (fun out : (World × Int) => RetZ TA E K H0 cX7_raise out.1 out.2)) out) : Jj K (WdT TA E H0) w 10 [some (rf E.ad 14), some (rf E.ad t1), some (.int (ii x2)), some (.int (ii x3)), some (.int (ii x4)), o5] [] := by
  unfold f_Pr_raise_10B at hf
  have o := k.1
  have g := k.2.1
  have kr := k.2.2.1
  refine J_iload o dX7_raise_10 rfl ?_
  refine J_aload_n o dX7_raise_12 rfl ?_
  refine J_getI o g dX7_raise_13 flX7_69 k_t1 rfl (fun q1 => ?_)
  refine J_icmp_ge 116 o dX7_raise_16 (by decide) r_x4 q1 (fun c2 => ?_) (fun c3 => ?_)
  · have hf := ite_t c2 hf
    refine J_iload_n o dX7_raise_116 rfl ?_
    obtain ⟨g4, hf⟩ := gd_some hf
    have hf := some_inj hf
    subst hf
    exact hc _ _ g4 dX7_raise_117
  · have hf := ite_f c3 hf
    refine J_aload_n o dX7_raise_19 rfl ?_
    refine J_getI o g dX7_raise_20 flX7_41 k_t1 rfl (fun q5 => ?_)
    refine J_if_ne 116 o dX7_raise_23 (by decide) q5 (fun c6 => ?_) (fun c7 => ?_)
    · have hf := ite_f c6 hf
      refine J_iload_n o dX7_raise_116 rfl ?_
      obtain ⟨g8, hf⟩ := gd_some hf
      have hf := some_inj hf
      subst hf
      exact hc _ _ g8 dX7_raise_117
    · have hf := ite_t c7 hf
      refine J_aload_n o dX7_raise_26 rfl ?_
      refine J_iload o dX7_raise_27 rfl ?_
      obtain ⟨v10, e9, hf⟩ := bnd_some hf
      refine J_vI o g kr dX7_raise_29 lkX7_72 ml_Bo_isAtom vl_Bo_isAtom ⟨rfl, rfl, Nat.le_of_ble_eq_true rfl, Nat.le_of_ble_eq_true rfl⟩ (c_Bo_isAtom g.2.1 k_t1 r_x4 e9) k_t1 rfl ⟨by decide, by decide⟩ rfl rfl c1s_0 (fun q11 => ?_)
      refine J_if_eq 110 o dX7_raise_32 (by decide) q11 (fun c12 => ?_) (fun c13 => ?_)
      · have hf := ite_t c12 hf
        exact t_Pr_raise_110 k k_t1 r_x2 r_x3 r_x4 hf hc
      · have hf := ite_f c13 hf
        refine J_iload_n o dX7_raise_35 rfl ?_
        refine J_if_lt 110 o dX7_raise_36 (by decide) r_x2 (fun c14 => ?_) (fun c15 => ?_)
        · have hf := ite_t c14 hf
          exact t_Pr_raise_110 k k_t1 r_x2 r_x3 r_x4 hf hc
        · have hf := ite_f c15 hf
          refine J_iload_n o dX7_raise_39 rfl ?_
          refine J_aload_n o dX7_raise_40 rfl ?_
          refine J_getF (true, 21) o g dX7_raise_41 flX7_25 kA_14 rfl rfl rfl ?_
          refine J_alen o g dX7_raise_44 kA_21 ⟨by decide, by decide⟩ zA_21 ?_
          refine J_icmp_ge 110 o dX7_raise_45 (by decide) r_x2 rl10 (fun c16 => ?_) (fun c17 => ?_)
          · have hf := ite_t c16 hf
            exact t_Pr_raise_110 k k_t1 r_x2 r_x3 r_x4 hf hc
          · have hf := ite_f c17 hf
            refine J_aload_n o dX7_raise_48 rfl ?_
            refine J_aload_n o dX7_raise_49 rfl ?_
            refine J_iload o dX7_raise_50 rfl ?_
            obtain ⟨v19, e18, hf⟩ := bnd_some hf
            refine J_vI o g kr dX7_raise_52 lkX7_76 ml_Bo_subjectOf vl_Bo_subjectOf ⟨rfl, rfl, Nat.le_of_ble_eq_true rfl, Nat.le_of_ble_eq_true rfl⟩ (c_Bo_subjectOf g.2.1 k_t1 r_x4 e18) k_t1 rfl ⟨by decide, by decide⟩ rfl rfl (c1s_r c1s_0 (Nat.le_of_ble_eq_true rfl)) (fun q20 => ?_)
            obtain ⟨v22, e21, hf⟩ := bnd_some hf
            refine J_vI o g kr dX7_raise_55 lkX7_80 ml_Pr_levelOf vl_Pr_levelOf ⟨rfl, rfl, Nat.le_of_ble_eq_true rfl, Nat.le_of_ble_eq_true rfl⟩ (c_Pr_levelOf g.2.1 q20 e21) kA_14 rfl ⟨by decide, by decide⟩ rfl rfl c1s_0 (fun q23 => ?_)
            refine J_aload_n o dX7_raise_58 rfl ?_
            refine J_aload_n o dX7_raise_59 rfl ?_
            refine J_iload o dX7_raise_60 rfl ?_
            obtain ⟨v25, e24, hf⟩ := bnd_some hf
            refine J_vI o g kr dX7_raise_62 lkX7_83 ml_Pr_isAbove vl_Pr_isAbove ⟨rfl, rfl, Nat.le_of_ble_eq_true rfl, Nat.le_of_ble_eq_true rfl⟩ (c_Pr_isAbove g.2.1 k_t1 r_x4 e24) kA_14 rfl ⟨by decide, by decide⟩ rfl rfl (c1s_i c1s_0 (Nat.le_of_ble_eq_true rfl)) (fun q26 => ?_)
            refine J_if_eq 72 o dX7_raise_65 (by decide) q26 (fun c27 => ?_) (fun c28 => ?_)
            · have hf := ite_t c27 hf
              refine J_iconst o dX7_raise_72 ?_
              exact t_Pr_raise_73 k k_t1 r_x2 r_x3 r_x4 q23 rl0 hf hc
            · have hf := ite_f c28 hf
              refine J_iconst o dX7_raise_68 ?_
              refine J_goto 73 o dX7_raise_69 (by decide) ?_
              exact t_Pr_raise_73 k k_t1 r_x2 r_x3 r_x4 q23 rl1 hf hc
noncomputable def f_Pr_raise_10 (w : World) (t1 : Nat) (x2 : Int) (x3 : Int) (x4 : Int) : Option (World × Int) :=
  lp (fun z : (World × Int × Int) => f_Pr_raise_10B z.1 t1 x2 z.2.1 z.2.2) (w, x3, x4)
theorem t_Pr_raise_10 {E : EE} {K : KT} {l : Launch} {H0 : Heap} (k : Kof TA E K l cX7_raise RX7 rm_Pr_raise) {w : World} {t1 : Nat} {x2 : Int} {x3 : Int} {x4 : Int} (k_t1 : TA.kd t1 = 1) (r_x2 : R32 x2) {out : (World × Int)} (hf : f_Pr_raise_10 w t1 x2 x3 x4 = some out) (hc : (fun out : (World × Int) => RetZ TA E K H0 cX7_raise out.1 out.2) out) : HW_Pr_raise_10 E K H0 t1 x2 (w, x3, x4) := by
  unfold f_Pr_raise_10 at hf
  refine lp_ind (P := HW_Pr_raise_10 E K H0 t1 x2) hf ?_
  intro z o hs h1 h2
  intro r_x3 r_x4
  intro o5
  refine t_Pr_raise_10B k k_t1 r_x2 r_x3 r_x4 hs ?_
  cases o with
  | inl z' => exact h1 z' rfl
  | inr r' => rw [h2 r' rfl]; exact hc
noncomputable def f_Pr_raise (w : World) (t1 : Nat) : Option (World × Int) :=
  bl (w t1 1) fun n2 => f_Pr_raise_10 w t1 n2 0 0
theorem t_Pr_raise_0 {E : EE} {K : KT} {l : Launch} {H0 : Heap} (k : Kof TA E K l cX7_raise RX7 rm_Pr_raise) {w : World} {t1 : Nat} {o2 o3 o4 o5 : Option Value} (k_t1 : TA.kd t1 = 1) {out : (World × Int)} (hf : f_Pr_raise w t1 = some out) (hc : (fun out : (World × Int) => RetZ TA E K H0 cX7_raise out.1 out.2) out) : Jj K (WdT TA E H0) w 0 [some (rf E.ad 14), some (rf E.ad t1), o2, o3, o4, o5] [] := by
  unfold f_Pr_raise at hf
  have o := k.1
  have g := k.2.1
  have kr := k.2.2.1
  refine J_aload_n o dX7_raise_0 rfl ?_
  refine J_getI o g dX7_raise_1 flX7_66 k_t1 rfl (fun q1 => ?_)
  refine J_istore_n o dX7_raise_4 (Nat.le_of_ble_eq_true rfl) ?_
  have hf := bl_out hf
  refine J_iconst o dX7_raise_5 ?_
  refine J_istore_n o dX7_raise_6 (Nat.le_of_ble_eq_true rfl) ?_
  refine J_iconst o dX7_raise_7 ?_
  refine J_istore o dX7_raise_8 (Nat.le_of_ble_eq_true rfl) ?_
  exact (t_Pr_raise_10 k k_t1 q1 hf hc) rl0 rl0 _
theorem c_Pr_raise {E : EE} {l : Launch} (hI : Inj TA E) {w : World} {t1 : Nat} (k_t1 : TA.kd t1 = 1) {out : (World × Int)} (hf : f_Pr_raise w t1 = some out) : ConI TA E l yX7_raise (WS yX7_raise cX7_raise 6 (some .boolean)) rm_Pr_raise [rf E.ad 14, rf E.ad t1] w out.1 out.2 :=
  con_Z (by decide +kernel) rfl (Nat.le_of_ble_eq_true rfl) (c1s_r (c1s_r c1s_0 (Nat.le_of_ble_eq_true rfl)) (Nat.le_of_ble_eq_true rfl)).1 ⟨rfl, rfl⟩ hI TnA (fun K H0 k hret => t_Pr_raise_0 k k_t1 hf hret)
abbrev rm_Pr_stratify : Room := { frames := 6, cells := 0, slots := 0, locals := 147 }
def HW_Pr_stratify_2 (E : EE) (K : KT) (H0 : Heap)  : (World × Int) → Prop := fun z => R32 z.2 → ∀ o2 o3 : Option Value, Jj K (WdT TA E H0) z.1 2 [some (rf E.ad 14), some (.int (ii z.2)), o2, o3] []
def HW_Pr_stratify_33 (E : EE) (K : KT) (H0 : Heap)  : (World × Int × Int) → Prop := fun z => R32 z.2.1 → R32 z.2.2 → ∀ o3 : Option Value, Jj K (WdT TA E H0) z.1 33 [some (rf E.ad 14), some (.int (ii z.2.1)), some (.int (ii z.2.2)), o3] []
def HW_Pr_stratify_57 (E : EE) (K : KT) (H0 : Heap) (x2 : Int) : (World × Int × Int) → Prop := fun z => R32 z.2.1 → R32 z.2.2 → Jj K (WdT TA E H0) z.1 57 [some (rf E.ad 14), some (.int (ii z.2.1)), some (.int (ii x2)), some (.int (ii z.2.2))] []
noncomputable def f_Pr_stratify_99 (w : World) : Option (World × Int) :=
  if 10 ≤ (w 14 7) then (some (w, 0)) else (some (w, 1))
theorem t_Pr_stratify_99 {E : EE} {K : KT} {l : Launch} {H0 : Heap} (k : Kof TA E K l cX7_stratify RX7 rm_Pr_stratify) {w : World} {o1 o2 o3 : Option Value}  {out : (World × Int)} (hf : f_Pr_stratify_99 w = some out) (hc : (fun out : (World × Int) => RetZ TA E K H0 cX7_stratify out.1 out.2) out) : Jj K (WdT TA E H0) w 99 [some (rf E.ad 14), o1, o2, o3] [] := by
  unfold f_Pr_stratify_99 at hf
  have o := k.1
  have g := k.2.1
  have kr := k.2.2.1
  refine J_aload_n o dX7_stratify_99 rfl ?_
  refine J_getI o g dX7_stratify_100 flX7_59 kA_14 rfl (fun q1 => ?_)
  refine J_bipush o dX7_stratify_103 (by decide) ?_
  refine J_icmp_ge 112 o dX7_stratify_105 (by decide) q1 rl10 (fun c2 => ?_) (fun c3 => ?_)
  · have hf := ite_t c2 hf
    refine J_iconst o dX7_stratify_112 ?_
    have hf := some_inj hf
    subst hf
    exact hc _ _ (Or.inl rfl) dX7_stratify_113
  · have hf := ite_f c3 hf
    refine J_iconst o dX7_stratify_108 ?_
    refine J_goto 113 o dX7_stratify_109 (by decide) ?_
    have hf := some_inj hf
    subst hf
    exact hc _ _ (Or.inr rfl) dX7_stratify_113
noncomputable def f_Pr_stratify_86 (w : World) (x2 : Int) (x3 : Int) (s0 : Int) : Option ((World × Int × Int) ⊕ ((World × Int × Int) ⊕ (World × Int))) :=
  bl (wr (x3 + 1)) fun n1 => some (Sum.inl (w, s0, n1))
theorem t_Pr_stratify_86 {E : EE} {K : KT} {l : Launch} {H0 : Heap} (k : Kof TA E K l cX7_stratify RX7 rm_Pr_stratify) {w : World} {x2 : Int} {x3 : Int} {s0 : Int} {o1 : Option Value} (r_x2 : R32 x2) (r_x3 : R32 x3) (r_s0 : R32 s0) {out : ((World × Int × Int) ⊕ ((World × Int × Int) ⊕ (World × Int)))} (hf : f_Pr_stratify_86 w x2 x3 s0 = some out) (hc : (Sum.elim (HW_Pr_stratify_57 E K H0 x2) (Sum.elim (HW_Pr_stratify_33 E K H0 ) (fun out : (World × Int) => RetZ TA E K H0 cX7_stratify out.1 out.2))) out) : Jj K (WdT TA E H0) w 86 [some (rf E.ad 14), o1, some (.int (ii x2)), some (.int (ii x3))] [.int (ii s0)] := by
  unfold f_Pr_stratify_86 at hf
  have o := k.1
  have g := k.2.1
  have kr := k.2.2.1
  refine J_istore_n o dX7_stratify_86 (Nat.le_of_ble_eq_true rfl) ?_
  have hf := bl_out hf
  refine J_iinc o dX7_stratify_87 rfl ?_
  refine J_goto 57 o dX7_stratify_90 (by decide) ?_
  have hf := some_inj hf
  subst hf
  exact hc r_s0 (R_wr _) 
noncomputable def f_Pr_stratify_81 (w : World) (x2 : Int) (x3 : Int) : Option ((World × Int × Int) ⊕ ((World × Int × Int) ⊕ (World × Int))) :=
  f_Pr_stratify_86 w x2 x3 1
theorem t_Pr_stratify_81 {E : EE} {K : KT} {l : Launch} {H0 : Heap} (k : Kof TA E K l cX7_stratify RX7 rm_Pr_stratify) {w : World} {x2 : Int} {x3 : Int} {o1 : Option Value} (r_x2 : R32 x2) (r_x3 : R32 x3) {out : ((World × Int × Int) ⊕ ((World × Int × Int) ⊕ (World × Int)))} (hf : f_Pr_stratify_81 w x2 x3 = some out) (hc : (Sum.elim (HW_Pr_stratify_57 E K H0 x2) (Sum.elim (HW_Pr_stratify_33 E K H0 ) (fun out : (World × Int) => RetZ TA E K H0 cX7_stratify out.1 out.2))) out) : Jj K (WdT TA E H0) w 81 [some (rf E.ad 14), o1, some (.int (ii x2)), some (.int (ii x3))] [] := by
  unfold f_Pr_stratify_81 at hf
  have o := k.1
  have g := k.2.1
  have kr := k.2.2.1
  refine J_iconst o dX7_stratify_81 ?_
  refine J_goto 86 o dX7_stratify_82 (by decide) ?_
  exact t_Pr_stratify_86 k r_x2 r_x3 rl1 hf hc
noncomputable def f_Pr_stratify_57B (w : World) (x1 : Int) (x2 : Int) (x3 : Int) : Option ((World × Int × Int) ⊕ ((World × Int × Int) ⊕ (World × Int))) :=
  if (w 14 4) ≤ x3 then (bl (wr (x2 + 1)) fun n4 => some (Sum.inr (Sum.inl (w, x1, n4)))) else (bnd (f_Pr_rule w x3) fun v6 => gd (kdA v6 = 1) (bnd (f_Pr_raise w v6) fun v10 => if v10.2 = 0 then (if x1 = 0 then (f_Pr_stratify_86 v10.1 x2 x3 0) else (f_Pr_stratify_81 v10.1 x2 x3)) else (f_Pr_stratify_81 v10.1 x2 x3)))
theorem t_Pr_stratify_57B {E : EE} {K : KT} {l : Launch} {H0 : Heap} (k : Kof TA E K l cX7_stratify RX7 rm_Pr_stratify) {w : World} {x1 : Int} {x2 : Int} {x3 : Int} (r_x1 : R32 x1) (r_x2 : R32 x2) (r_x3 : R32 x3) {out : ((World × Int × Int) ⊕ ((World × Int × Int) ⊕ (World × Int)))} (hf : f_Pr_stratify_57B w x1 x2 x3 = some out) (hc : (Sum.elim (HW_Pr_stratify_57 E K H0 x2) (Sum.elim (HW_Pr_stratify_33 E K H0 ) (fun out : (World × Int) => RetZ TA E K H0 cX7_stratify out.1 out.2))) out) : Jj K (WdT TA E H0) w 57 [some (rf E.ad 14), some (.int (ii x1)), some (.int (ii x2)), some (.int (ii x3))] [] := by
  unfold f_Pr_stratify_57B at hf
  have o := k.1
  have g := k.2.1
  have kr := k.2.2.1
  refine J_iload_n o dX7_stratify_57 rfl ?_
  refine J_aload_n o dX7_stratify_58 rfl ?_
  refine J_getI o g dX7_stratify_59 flX7_33 kA_14 rfl (fun q1 => ?_)
  refine J_icmp_ge 93 o dX7_stratify_62 (by decide) r_x3 q1 (fun c2 => ?_) (fun c3 => ?_)
  · have hf := ite_t c2 hf
    have hf := bl_out hf
    refine J_iinc o dX7_stratify_93 rfl ?_
    refine J_goto 33 o dX7_stratify_96 (by decide) ?_
    have hf := some_inj hf
    subst hf
    exact hc r_x1 (R_wr _) _
  · have hf := ite_f c3 hf
    refine J_aload_n o dX7_stratify_65 rfl ?_
    refine J_aload_n o dX7_stratify_66 rfl ?_
    refine J_iload_n o dX7_stratify_67 rfl ?_
    obtain ⟨v6, e5, hf⟩ := bnd_some hf
    refine J_vR o g kr dX7_stratify_68 lkX7_37 ml_Pr_rule vl_Pr_rule ⟨rfl, rfl, Nat.le_of_ble_eq_true rfl, Nat.le_of_ble_eq_true rfl⟩ (c_Pr_rule g.2.1 r_x3 e5) kA_14 rfl ⟨by decide, by decide⟩ rfl rfl (c1s_r c1s_0 (Nat.le_of_ble_eq_true rfl)) ?_
    obtain ⟨g8, hf⟩ := gd_some hf
    obtain ⟨v10, e9, hf⟩ := bnd_some hf
    refine J_vI o g kr dX7_stratify_71 lkX7_62 ml_Pr_raise vl_Pr_raise ⟨rfl, rfl, Nat.le_of_ble_eq_true rfl, Nat.le_of_ble_eq_true rfl⟩ (c_Pr_raise g.2.1 g8 e9) kA_14 rfl ⟨by decide, by decide⟩ rfl rfl c1s_0 (fun q11 => ?_)
    refine J_if_ne 81 o dX7_stratify_74 (by decide) q11 (fun c12 => ?_) (fun c13 => ?_)
    · have hf := ite_f c12 hf
      exact t_Pr_stratify_81 k r_x2 r_x3 hf hc
    · have hf := ite_t c13 hf
      refine J_iload_n o dX7_stratify_77 rfl ?_
      refine J_if_eq 85 o dX7_stratify_78 (by decide) r_x1 (fun c14 => ?_) (fun c15 => ?_)
      · have hf := ite_t c14 hf
        refine J_iconst o dX7_stratify_85 ?_
        exact t_Pr_stratify_86 k r_x2 r_x3 rl0 hf hc
      · have hf := ite_f c15 hf
        exact t_Pr_stratify_81 k r_x2 r_x3 hf hc
noncomputable def f_Pr_stratify_57 (w : World) (x1 : Int) (x2 : Int) (x3 : Int) : Option ((World × Int × Int) ⊕ (World × Int)) :=
  lp (fun z : (World × Int × Int) => f_Pr_stratify_57B z.1 z.2.1 x2 z.2.2) (w, x1, x3)
theorem t_Pr_stratify_57 {E : EE} {K : KT} {l : Launch} {H0 : Heap} (k : Kof TA E K l cX7_stratify RX7 rm_Pr_stratify) {w : World} {x1 : Int} {x2 : Int} {x3 : Int} (r_x2 : R32 x2) {out : ((World × Int × Int) ⊕ (World × Int))} (hf : f_Pr_stratify_57 w x1 x2 x3 = some out) (hc : (Sum.elim (HW_Pr_stratify_33 E K H0 ) (fun out : (World × Int) => RetZ TA E K H0 cX7_stratify out.1 out.2)) out) : HW_Pr_stratify_57 E K H0 x2 (w, x1, x3) := by
  unfold f_Pr_stratify_57 at hf
  refine lp_ind (P := HW_Pr_stratify_57 E K H0 x2) hf ?_
  intro z o hs h1 h2
  intro r_x1 r_x3
  refine t_Pr_stratify_57B k r_x1 r_x2 r_x3 hs ?_
  cases o with
  | inl z' => exact h1 z' rfl
  | inr r' => rw [h2 r' rfl]; exact hc
noncomputable def f_Pr_stratify_33B (w : World) (x1 : Int) (x2 : Int) : Option ((World × Int × Int) ⊕ (World × Int)) :=
  if 10000 ≤ x2 then (bnd (f_Pr_stratify_99 w) fun y3 => some (Sum.inr y3)) else (if x1 = 0 then (bnd (f_Pr_stratify_99 w) fun y6 => some (Sum.inr y6)) else (if 10 ≤ (w 14 7) then (bnd (f_Pr_stratify_99 w) fun y10 => some (Sum.inr y10)) else (f_Pr_stratify_57 w 0 x2 0)))
theorem t_Pr_stratify_33B {E : EE} {K : KT} {l : Launch} {H0 : Heap} (k : Kof TA E K l cX7_stratify RX7 rm_Pr_stratify) {w : World} {x1 : Int} {x2 : Int} {o3 : Option Value} (r_x1 : R32 x1) (r_x2 : R32 x2) {out : ((World × Int × Int) ⊕ (World × Int))} (hf : f_Pr_stratify_33B w x1 x2 = some out) (hc : (Sum.elim (HW_Pr_stratify_33 E K H0 ) (fun out : (World × Int) => RetZ TA E K H0 cX7_stratify out.1 out.2)) out) : Jj K (WdT TA E H0) w 33 [some (rf E.ad 14), some (.int (ii x1)), some (.int (ii x2)), o3] [] := by
  unfold f_Pr_stratify_33B at hf
  have o := k.1
  have g := k.2.1
  have kr := k.2.2.1
  refine J_iload_n o dX7_stratify_33 rfl ?_
  refine J_sipush o dX7_stratify_34 (by decide) ?_
  refine J_icmp_ge 99 o dX7_stratify_37 (by decide) r_x2 rl10000 (fun c1 => ?_) (fun c2 => ?_)
  · have hf := ite_t c1 hf
    obtain ⟨y3, hf1, hf⟩ := bnd_some hf
    have hf := some_inj hf
    subst hf
    exact t_Pr_stratify_99 k  hf1 hc
  · have hf := ite_f c2 hf
    refine J_iload_n o dX7_stratify_40 rfl ?_
    refine J_if_eq 99 o dX7_stratify_41 (by decide) r_x1 (fun c4 => ?_) (fun c5 => ?_)
    · have hf := ite_t c4 hf
      obtain ⟨y6, hf1, hf⟩ := bnd_some hf
      have hf := some_inj hf
      subst hf
      exact t_Pr_stratify_99 k  hf1 hc
    · have hf := ite_f c5 hf
      refine J_aload_n o dX7_stratify_44 rfl ?_
      refine J_getI o g dX7_stratify_45 flX7_59 kA_14 rfl (fun q7 => ?_)
      refine J_bipush o dX7_stratify_48 (by decide) ?_
      refine J_icmp_ge 99 o dX7_stratify_50 (by decide) q7 rl10 (fun c8 => ?_) (fun c9 => ?_)
      · have hf := ite_t c8 hf
        obtain ⟨y10, hf1, hf⟩ := bnd_some hf
        have hf := some_inj hf
        subst hf
        exact t_Pr_stratify_99 k  hf1 hc
      · have hf := ite_f c9 hf
        refine J_iconst o dX7_stratify_53 ?_
        refine J_istore_n o dX7_stratify_54 (Nat.le_of_ble_eq_true rfl) ?_
        refine J_iconst o dX7_stratify_55 ?_
        refine J_istore_n o dX7_stratify_56 (Nat.le_of_ble_eq_true rfl) ?_
        exact (t_Pr_stratify_57 k r_x2 hf hc) rl0 rl0 
noncomputable def f_Pr_stratify_33 (w : World) (x1 : Int) (x2 : Int) : Option (World × Int) :=
  lp (fun z : (World × Int × Int) => f_Pr_stratify_33B z.1 z.2.1 z.2.2) (w, x1, x2)
theorem t_Pr_stratify_33 {E : EE} {K : KT} {l : Launch} {H0 : Heap} (k : Kof TA E K l cX7_stratify RX7 rm_Pr_stratify) {w : World} {x1 : Int} {x2 : Int}  {out : (World × Int)} (hf : f_Pr_stratify_33 w x1 x2 = some out) (hc : (fun out : (World × Int) => RetZ TA E K H0 cX7_stratify out.1 out.2) out) : HW_Pr_stratify_33 E K H0  (w, x1, x2) := by
  unfold f_Pr_stratify_33 at hf
  refine lp_ind (P := HW_Pr_stratify_33 E K H0 ) hf ?_
  intro z o hs h1 h2
  intro r_x1 r_x2
  intro o3
  refine t_Pr_stratify_33B k r_x1 r_x2 hs ?_
  cases o with
  | inl z' => exact h1 z' rfl
  | inr r' => rw [h2 r' rfl]; exact hc
noncomputable def f_Pr_stratify_2B (w : World) (x1 : Int) : Option ((World × Int) ⊕ (World × Int)) :=
  if 10 ≤ x1 then (bl (up w 14 7 0) fun w3 => bnd (f_Pr_stratify_33 w3 1 0) fun y4 => some (Sum.inr y4)) else (gd (0 ≤ x1 ∧ x1 < 10) (bl (up w 21 x1.toNat 0) fun w6 => bl (wr (x1 + 1)) fun n7 => some (Sum.inl (w6, n7))))
theorem t_Pr_stratify_2B {E : EE} {K : KT} {l : Launch} {H0 : Heap} (k : Kof TA E K l cX7_stratify RX7 rm_Pr_stratify) {w : World} {x1 : Int} {o2 o3 : Option Value} (r_x1 : R32 x1) {out : ((World × Int) ⊕ (World × Int))} (hf : f_Pr_stratify_2B w x1 = some out) (hc : (Sum.elim (HW_Pr_stratify_2 E K H0 ) (fun out : (World × Int) => RetZ TA E K H0 cX7_stratify out.1 out.2)) out) : Jj K (WdT TA E H0) w 2 [some (rf E.ad 14), some (.int (ii x1)), o2, o3] [] := by
  unfold f_Pr_stratify_2B at hf
  have o := k.1
  have g := k.2.1
  have kr := k.2.2.1
  refine J_iload_n o dX7_stratify_2 rfl ?_
  refine J_aload_n o dX7_stratify_3 rfl ?_
  refine J_getF (true, 21) o g dX7_stratify_4 flX7_25 kA_14 rfl rfl rfl ?_
  refine J_alen o g dX7_stratify_7 kA_21 ⟨by decide, by decide⟩ zA_21 ?_
  refine J_icmp_ge 24 o dX7_stratify_8 (by decide) r_x1 rl10 (fun c1 => ?_) (fun c2 => ?_)
  · have hf := ite_t c1 hf
    refine J_aload_n o dX7_stratify_24 rfl ?_
    refine J_iconst o dX7_stratify_25 ?_
    refine J_putI o g dX7_stratify_26 fpX7_59 kA_14 rfl rfl rl0 ?_
    have hf := bl_out hf
    refine J_iconst o dX7_stratify_29 ?_
    refine J_istore_n o dX7_stratify_30 (Nat.le_of_ble_eq_true rfl) ?_
    refine J_iconst o dX7_stratify_31 ?_
    refine J_istore_n o dX7_stratify_32 (Nat.le_of_ble_eq_true rfl) ?_
    obtain ⟨y4, hf1, hf⟩ := bnd_some hf
    have hf := some_inj hf
    subst hf
    exact (t_Pr_stratify_33 k  hf1 hc) rl1 rl0 _
  · have hf := ite_f c2 hf
    refine J_aload_n o dX7_stratify_11 rfl ?_
    refine J_getF (true, 21) o g dX7_stratify_12 flX7_25 kA_14 rfl rfl rfl ?_
    refine J_iload_n o dX7_stratify_15 rfl ?_
    refine J_iconst o dX7_stratify_16 ?_
    obtain ⟨g5, hf⟩ := gd_some hf
    refine J_iast o g dX7_stratify_17 kA_21 (fxA_40 _) r_x1 zA_21 g5 rl0 ?_
    have hf := bl_out hf
    have hf := bl_out hf
    refine J_iinc o dX7_stratify_18 rfl ?_
    refine J_goto 2 o dX7_stratify_21 (by decide) ?_
    have hf := some_inj hf
    subst hf
    exact hc (R_wr _) _ _
noncomputable def f_Pr_stratify_2 (w : World) (x1 : Int) : Option (World × Int) :=
  lp (fun z : (World × Int) => f_Pr_stratify_2B z.1 z.2) (w, x1)
theorem t_Pr_stratify_2 {E : EE} {K : KT} {l : Launch} {H0 : Heap} (k : Kof TA E K l cX7_stratify RX7 rm_Pr_stratify) {w : World} {x1 : Int}  {out : (World × Int)} (hf : f_Pr_stratify_2 w x1 = some out) (hc : (fun out : (World × Int) => RetZ TA E K H0 cX7_stratify out.1 out.2) out) : HW_Pr_stratify_2 E K H0  (w, x1) := by
  unfold f_Pr_stratify_2 at hf
  refine lp_ind (P := HW_Pr_stratify_2 E K H0 ) hf ?_
  intro z o hs h1 h2
  intro r_x1
  intro o2 o3
  refine t_Pr_stratify_2B k r_x1 hs ?_
  cases o with
  | inl z' => exact h1 z' rfl
  | inr r' => rw [h2 r' rfl]; exact hc
noncomputable def f_Pr_stratify (w : World) : Option (World × Int) :=
  f_Pr_stratify_2 w 0
theorem t_Pr_stratify_0 {E : EE} {K : KT} {l : Launch} {H0 : Heap} (k : Kof TA E K l cX7_stratify RX7 rm_Pr_stratify) {w : World} {o1 o2 o3 : Option Value}  {out : (World × Int)} (hf : f_Pr_stratify w = some out) (hc : (fun out : (World × Int) => RetZ TA E K H0 cX7_stratify out.1 out.2) out) : Jj K (WdT TA E H0) w 0 [some (rf E.ad 14), o1, o2, o3] [] := by
  unfold f_Pr_stratify at hf
  have o := k.1
  have g := k.2.1
  have kr := k.2.2.1
  refine J_iconst o dX7_stratify_0 ?_
  refine J_istore_n o dX7_stratify_1 (Nat.le_of_ble_eq_true rfl) ?_
  exact (t_Pr_stratify_2 k  hf hc) rl0 _ _
theorem c_Pr_stratify {E : EE} {l : Launch} (hI : Inj TA E) {w : World}  {out : (World × Int)} (hf : f_Pr_stratify w = some out) : ConI TA E l yX7_stratify (WS yX7_stratify cX7_stratify 4 (some .boolean)) rm_Pr_stratify [rf E.ad 14] w out.1 out.2 :=
  con_Z (by decide +kernel) rfl (Nat.le_of_ble_eq_true rfl) (c1s_r c1s_0 (Nat.le_of_ble_eq_true rfl)).1 ⟨rfl, rfl⟩ hI TnA (fun K H0 k hret => t_Pr_stratify_0 k  hf hret)
abbrev rm_Pr_takeBack : Room := { frames := 7, cells := 0, slots := 0, locals := 170 }
noncomputable def f_Pr_takeBack (w : World) : Option World :=
  bl (up w 14 4 (wr ((w 14 4) - 1))) fun w2 => bnd (f_Pr_stratify w2 ) fun v4 => some v4.1
theorem t_Pr_takeBack_0 {E : EE} {K : KT} {l : Launch} {H0 : Heap} (k : Kof TA E K l cX7_takeBack RX7 rm_Pr_takeBack) {w : World}  {out : World} (hf : f_Pr_takeBack w = some out) (hc : (fun out : World => RetV TA E K H0 cX7_takeBack out) out) : Jj K (WdT TA E H0) w 0 [some (rf E.ad 14)] [] := by
  unfold f_Pr_takeBack at hf
  have o := k.1
  have g := k.2.1
  have kr := k.2.2.1
  refine J_aload_n o dX7_takeBack_0 rfl ?_
  refine J_dup o dX7_takeBack_1 rf_cat ?_
  refine J_getI o g dX7_takeBack_2 flX7_33 kA_14 rfl (fun q1 => ?_)
  refine J_iconst o dX7_takeBack_5 ?_
  refine J_isub o dX7_takeBack_6 ?_
  refine J_putI o g dX7_takeBack_7 fpX7_33 kA_14 rfl rfl (R_wr _) ?_
  have hf := bl_out hf
  refine J_aload_n o dX7_takeBack_10 rfl ?_
  obtain ⟨v4, e3, hf⟩ := bnd_some hf
  refine J_vI o g kr dX7_takeBack_11 lkX7_49 ml_Pr_stratify vl_Pr_stratify ⟨rfl, rfl, Nat.le_of_ble_eq_true rfl, Nat.le_of_ble_eq_true rfl⟩ (c_Pr_stratify g.2.1  e3) kA_14 rfl ⟨by decide, by decide⟩ rfl rfl c1s_0 (fun q5 => ?_)
  refine J_pop o dX7_takeBack_14 rfl ?_
  have hf := some_inj hf
  subst hf
  exact hc _ _  dX7_takeBack_15
theorem c_Pr_takeBack {E : EE} {l : Launch} (hI : Inj TA E) {w : World}  {out : World} (hf : f_Pr_takeBack w = some out) : ConV TA E l yX7_takeBack (WS yX7_takeBack cX7_takeBack 1 none) rm_Pr_takeBack [rf E.ad 14] w out :=
  con_V (by decide +kernel) rfl (Nat.le_of_ble_eq_true rfl) (c1s_r c1s_0 (Nat.le_of_ble_eq_true rfl)).1 ⟨rfl, rfl⟩ hI TnA (fun K H0 k hret => t_Pr_takeBack_0 k  hf hret)
abbrev rm_Pr_appendDenial : Room := { frames := 6, cells := 0, slots := 0, locals := 139 }
noncomputable def f_Pr_appendDenial (w : World) (t1 : Nat) : Option World :=
  bnd (f_Pr_denial w (w 14 5)) fun v3 => gd (kdA v3 = 1) (bnd (f_Bo_copy w v3 t1) fun v7 => bl (up v7 14 5 (wr ((v7 14 5) + 1))) fun w10 => some w10)
theorem t_Pr_appendDenial_0 {E : EE} {K : KT} {l : Launch} {H0 : Heap} (k : Kof TA E K l cX7_appendDenial RX7 rm_Pr_appendDenial) {w : World} {t1 : Nat} (k_t1 : TA.kd t1 = 1) {out : World} (hf : f_Pr_appendDenial w t1 = some out) (hc : (fun out : World => RetV TA E K H0 cX7_appendDenial out) out) : Jj K (WdT TA E H0) w 0 [some (rf E.ad 14), some (rf E.ad t1)] [] := by
  unfold f_Pr_appendDenial at hf
  have o := k.1
  have g := k.2.1
  have kr := k.2.2.1
  refine J_aload_n o dX7_appendDenial_0 rfl ?_
  refine J_aload_n o dX7_appendDenial_1 rfl ?_
  refine J_getI o g dX7_appendDenial_2 flX7_53 kA_14 rfl (fun q1 => ?_)
  obtain ⟨v3, e2, hf⟩ := bnd_some hf
  refine J_vR o g kr dX7_appendDenial_5 lkX7_56 ml_Pr_denial vl_Pr_denial ⟨rfl, rfl, Nat.le_of_ble_eq_true rfl, Nat.le_of_ble_eq_true rfl⟩ (c_Pr_denial g.2.1 q1 e2) kA_14 rfl ⟨by decide, by decide⟩ rfl rfl c1s_0 ?_
  refine J_aload_n o dX7_appendDenial_8 rfl ?_
  obtain ⟨g5, hf⟩ := gd_some hf
  obtain ⟨v7, e6, hf⟩ := bnd_some hf
  refine J_vV o g kr dX7_appendDenial_9 lkX7_45 ml_Bo_copy vl_Bo_copy ⟨rfl, rfl, Nat.le_of_ble_eq_true rfl, Nat.le_of_ble_eq_true rfl⟩ (c_Bo_copy g.2.1 g5 k_t1 e6) g5 rfl ⟨by decide, by decide⟩ rfl rfl c1s_0 ?_
  refine J_aload_n o dX7_appendDenial_12 rfl ?_
  refine J_dup o dX7_appendDenial_13 rf_cat ?_
  refine J_getI o g dX7_appendDenial_14 flX7_53 kA_14 rfl (fun q9 => ?_)
  refine J_iconst o dX7_appendDenial_17 ?_
  refine J_iadd o dX7_appendDenial_18 ?_
  refine J_putI o g dX7_appendDenial_19 fpX7_53 kA_14 rfl rfl (R_wr _) ?_
  have hf := bl_out hf
  have hf := some_inj hf
  subst hf
  exact hc _ _  dX7_appendDenial_22
theorem c_Pr_appendDenial {E : EE} {l : Launch} (hI : Inj TA E) {w : World} {t1 : Nat} (k_t1 : TA.kd t1 = 1) {out : World} (hf : f_Pr_appendDenial w t1 = some out) : ConV TA E l yX7_appendDenial (WS yX7_appendDenial cX7_appendDenial 2 none) rm_Pr_appendDenial [rf E.ad 14, rf E.ad t1] w out :=
  con_V (by decide +kernel) rfl (Nat.le_of_ble_eq_true rfl) (c1s_r (c1s_r c1s_0 (Nat.le_of_ble_eq_true rfl)) (Nat.le_of_ble_eq_true rfl)).1 ⟨rfl, rfl⟩ hI TnA (fun K H0 k hret => t_Pr_appendDenial_0 k k_t1 hf hret)
