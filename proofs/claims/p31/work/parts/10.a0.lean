abbrev rm_Dm_picked : Room := { frames := 1, cells := 0, slots := 0, locals := 24 }
noncomputable def f_Dm_picked (x0 : Int) (x1 : Int) (x2 : Int) (x3 : Int) : Option Int :=
  if x0 = 0 then (some x1) else (if x0 = 1 then (some x2) else (some x3))
theorem t_Dm_picked_0 {E : EE} {K : KT} {l : Launch} {H0 : Heap} (k : Kof TA E K l cX10_picked RX10 rm_Dm_picked) {w0 : World} {x0 : Int} {x1 : Int} {x2 : Int} {x3 : Int} (r_x0 : R32 x0) (r_x1 : R32 x1) (r_x2 : R32 x2) (r_x3 : R32 x3) {out : Int} (hf : f_Dm_picked x0 x1 x2 x3 = some out) (hc : (fun out : Int => RetI TA E K H0 cX10_picked w0 out) out) : Jj K (WdT TA E H0) w0 0 [some (.int (ii x0)), some (.int (ii x1)), some (.int (ii x2)), some (.int (ii x3))] [] := by
  unfold f_Dm_picked at hf
  have o := k.1
  have g := k.2.1
  have kr := k.2.2.1
  refine J_iload_n o dX10_picked_0 rfl ?_
  refine J_if_ne 8 o dX10_picked_1 (by decide) r_x0 (fun c1 => ?_) (fun c2 => ?_)
  · have hf := ite_f c1 hf
    refine J_iload_n o dX10_picked_8 rfl ?_
    refine J_iconst o dX10_picked_9 ?_
    refine J_icmp_ne 17 o dX10_picked_10 (by decide) r_x0 rl1 (fun c3 => ?_) (fun c4 => ?_)
    · have hf := ite_f c3 hf
      refine J_iload_n o dX10_picked_17 rfl ?_
      have hf := some_inj hf
      subst hf
      exact hc _ _ r_x3 dX10_picked_18
    · have hf := ite_t c4 hf
      refine J_iload_n o dX10_picked_13 rfl ?_
      refine J_goto 18 o dX10_picked_14 (by decide) ?_
      have hf := some_inj hf
      subst hf
      exact hc _ _ r_x2 dX10_picked_18
  · have hf := ite_t c2 hf
    refine J_iload_n o dX10_picked_4 rfl ?_
    refine J_goto 18 o dX10_picked_5 (by decide) ?_
    have hf := some_inj hf
    subst hf
    exact hc _ _ r_x1 dX10_picked_18
theorem c_Dm_picked {E : EE} {l : Launch} (hI : Inj TA E) {w0 : World} {x0 : Int} {x1 : Int} {x2 : Int} {x3 : Int} (r_x0 : R32 x0) (r_x1 : R32 x1) (r_x2 : R32 x2) (r_x3 : R32 x3) {out : Int} (hf : f_Dm_picked x0 x1 x2 x3 = some out) : ConI TA E l yX10_picked (WS yX10_picked cX10_picked 4 (some .int)) rm_Dm_picked [.int (ii x0), .int (ii x1), .int (ii x2), .int (ii x3)] w0 w0 out :=
  con_I (by decide +kernel) rfl (Nat.le_of_ble_eq_true rfl) (c1s_i (c1s_i (c1s_i (c1s_i c1s_0 (Nat.le_of_ble_eq_true rfl)) (Nat.le_of_ble_eq_true rfl)) (Nat.le_of_ble_eq_true rfl)) (Nat.le_of_ble_eq_true rfl)).1 ⟨rfl, rfl⟩ hI TnA (fun K H0 k hret => t_Dm_picked_0 k r_x0 r_x1 r_x2 r_x3 hf hret)
abbrev rm_Bo_setTerms : Room := { frames := 2, cells := 0, slots := 0, locals := 47 }
def HW_Bo_setTerms_3 (E : EE) (K : KT) (H0 : Heap) (t0 : Nat) (x1 : Int) (x2 : Int) (x3 : Int) (x4 : Int) : (World × Int) → Prop := fun z => R32 z.2 → ∀ o6 : Option Value, Jj K (WdT TA E H0) z.1 3 [some (rf E.ad t0), some (.int (ii x1)), some (.int (ii x2)), some (.int (ii x3)), some (.int (ii x4)), some (.int (ii z.2)), o6] []
noncomputable def f_Bo_setTerms_48 (w : World) (t0 : Nat) (x1 : Int) (x2 : Int) (x3 : Int) (x4 : Int) (x5 : Int) : Option ((World × Int) ⊕ World) :=
  bl (wr (x5 + 1)) fun n1 => some (Sum.inl (w, n1))
theorem t_Bo_setTerms_48 {E : EE} {K : KT} {l : Launch} {H0 : Heap} (k : Kof TA E K l cX0_setTerms RX0 rm_Bo_setTerms) {w : World} {t0 : Nat} {x1 : Int} {x2 : Int} {x3 : Int} {x4 : Int} {x5 : Int} {o6 : Option Value} (k_t0 : TA.kd t0 = 1) (r_x1 : R32 x1) (r_x2 : R32 x2) (r_x3 : R32 x3) (r_x4 : R32 x4) (r_x5 : R32 x5) {out : ((World × Int) ⊕ World)} (hf : f_Bo_setTerms_48 w t0 x1 x2 x3 x4 x5 = some out) (hc : (Sum.elim (HW_Bo_setTerms_3 E K H0 t0 x1 x2 x3 x4) (fun out : World => RetV TA E K H0 cX0_setTerms out)) out) : Jj K (WdT TA E H0) w 48 [some (rf E.ad t0), some (.int (ii x1)), some (.int (ii x2)), some (.int (ii x3)), some (.int (ii x4)), some (.int (ii x5)), o6] [] := by
  unfold f_Bo_setTerms_48 at hf
  have o := k.1
  have g := k.2.1
  have kr := k.2.2.1
  have hf := bl_out hf
  refine J_iinc o dX0_setTerms_48 rfl ?_
  refine J_goto 3 o dX0_setTerms_51 (by decide) ?_
  have hf := some_inj hf
  subst hf
  exact hc (R_wr _) _
noncomputable def f_Bo_setTerms_3B (w : World) (t0 : Nat) (x1 : Int) (x2 : Int) (x3 : Int) (x4 : Int) (x5 : Int) : Option ((World × Int) ⊕ World) :=
  if 3 ≤ x5 then (some (Sum.inr w)) else (bl (wr ((wr (x1 * 3)) + x5)) fun n3 => if n3 < 0 then (f_Bo_setTerms_48 w t0 x1 x2 x3 x4 x5) else (if 18 ≤ n3 then (f_Bo_setTerms_48 w t0 x1 x2 x3 x4 x5) else (bnd (f_Dm_picked x5 x2 x3 x4) fun v9 => gd (0 ≤ n3 ∧ n3 < 18) (bl (up w (t0 + 3) n3.toNat v9) fun w12 => f_Bo_setTerms_48 w12 t0 x1 x2 x3 x4 x5))))
theorem t_Bo_setTerms_3B {E : EE} {K : KT} {l : Launch} {H0 : Heap} (k : Kof TA E K l cX0_setTerms RX0 rm_Bo_setTerms) {w : World} {t0 : Nat} {x1 : Int} {x2 : Int} {x3 : Int} {x4 : Int} {x5 : Int} {o6 : Option Value} (k_t0 : TA.kd t0 = 1) (r_x1 : R32 x1) (r_x2 : R32 x2) (r_x3 : R32 x3) (r_x4 : R32 x4) (r_x5 : R32 x5) {out : ((World × Int) ⊕ World)} (hf : f_Bo_setTerms_3B w t0 x1 x2 x3 x4 x5 = some out) (hc : (Sum.elim (HW_Bo_setTerms_3 E K H0 t0 x1 x2 x3 x4) (fun out : World => RetV TA E K H0 cX0_setTerms out)) out) : Jj K (WdT TA E H0) w 3 [some (rf E.ad t0), some (.int (ii x1)), some (.int (ii x2)), some (.int (ii x3)), some (.int (ii x4)), some (.int (ii x5)), o6] [] := by
  unfold f_Bo_setTerms_3B at hf
  have o := k.1
  have g := k.2.1
  have kr := k.2.2.1
  refine J_iload o dX0_setTerms_3 rfl ?_
  refine J_iconst o dX0_setTerms_5 ?_
  refine J_icmp_ge 54 o dX0_setTerms_6 (by decide) r_x5 rl3 (fun c1 => ?_) (fun c2 => ?_)
  · have hf := ite_t c1 hf
    have hf := some_inj hf
    subst hf
    exact hc _ _  dX0_setTerms_54
  · have hf := ite_f c2 hf
    refine J_iload_n o dX0_setTerms_9 rfl ?_
    refine J_iconst o dX0_setTerms_10 ?_
    refine J_imul o dX0_setTerms_11 ?_
    refine J_iload o dX0_setTerms_12 rfl ?_
    refine J_iadd o dX0_setTerms_14 ?_
    refine J_istore o dX0_setTerms_15 (Nat.le_of_ble_eq_true rfl) ?_
    have hf := bl_out hf
    refine J_iload o dX0_setTerms_17 rfl ?_
    refine J_if_lt 48 o dX0_setTerms_19 (by decide) (R_wr _) (fun c4 => ?_) (fun c5 => ?_)
    · have hf := ite_t c4 hf
      exact t_Bo_setTerms_48 k k_t0 r_x1 r_x2 r_x3 r_x4 r_x5 hf hc
    · have hf := ite_f c5 hf
      refine J_iload o dX0_setTerms_22 rfl ?_
      refine J_aload_n o dX0_setTerms_24 rfl ?_
      refine J_getF (false, 3) o g dX0_setTerms_25 flX0_22 k_t0 rfl rfl rfl ?_
      refine J_alen o g dX0_setTerms_28 (krA_1_3 k_t0) ⟨by decide, by decide⟩ (zrA_1_3 k_t0) ?_
      refine J_icmp_ge 48 o dX0_setTerms_29 (by decide) (R_wr _) rl18 (fun c6 => ?_) (fun c7 => ?_)
      · have hf := ite_t c6 hf
        exact t_Bo_setTerms_48 k k_t0 r_x1 r_x2 r_x3 r_x4 r_x5 hf hc
      · have hf := ite_f c7 hf
        refine J_aload_n o dX0_setTerms_32 rfl ?_
        refine J_getF (false, 3) o g dX0_setTerms_33 flX0_22 k_t0 rfl rfl rfl ?_
        refine J_iload o dX0_setTerms_36 rfl ?_
        refine J_iload o dX0_setTerms_38 rfl ?_
        refine J_iload_n o dX0_setTerms_40 rfl ?_
        refine J_iload_n o dX0_setTerms_41 rfl ?_
        refine J_iload o dX0_setTerms_42 rfl ?_
        obtain ⟨v9, e8, hf⟩ := bnd_some hf
        refine J_sI o g kr dX0_setTerms_44 lkX0_35 ml_Dm_picked mw593 ⟨rfl, rfl, Nat.le_of_ble_eq_true rfl, Nat.le_of_ble_eq_true rfl⟩ (c_Dm_picked g.2.1 r_x5 r_x2 r_x3 r_x4 e8) rfl rfl (c1s_i (c1s_r c1s_0 (Nat.le_of_ble_eq_true rfl)) (Nat.le_of_ble_eq_true rfl)) (fun q10 => ?_)
        obtain ⟨g11, hf⟩ := gd_some hf
        refine J_iast o g dX0_setTerms_47 (krA_1_3 k_t0) (fxA_40 _) (R_wr _) (zrA_1_3 k_t0) g11 q10 ?_
        have hf := bl_out hf
        exact t_Bo_setTerms_48 k k_t0 r_x1 r_x2 r_x3 r_x4 r_x5 hf hc
noncomputable def f_Bo_setTerms_3 (w : World) (t0 : Nat) (x1 : Int) (x2 : Int) (x3 : Int) (x4 : Int) (x5 : Int) : Option World :=
  lp (fun z : (World × Int) => f_Bo_setTerms_3B z.1 t0 x1 x2 x3 x4 z.2) (w, x5)
theorem t_Bo_setTerms_3 {E : EE} {K : KT} {l : Launch} {H0 : Heap} (k : Kof TA E K l cX0_setTerms RX0 rm_Bo_setTerms) {w : World} {t0 : Nat} {x1 : Int} {x2 : Int} {x3 : Int} {x4 : Int} {x5 : Int} (k_t0 : TA.kd t0 = 1) (r_x1 : R32 x1) (r_x2 : R32 x2) (r_x3 : R32 x3) (r_x4 : R32 x4) {out : World} (hf : f_Bo_setTerms_3 w t0 x1 x2 x3 x4 x5 = some out) (hc : (fun out : World => RetV TA E K H0 cX0_setTerms out) out) : HW_Bo_setTerms_3 E K H0 t0 x1 x2 x3 x4 (w, x5) := by
  unfold f_Bo_setTerms_3 at hf
  refine lp_ind (P := HW_Bo_setTerms_3 E K H0 t0 x1 x2 x3 x4) hf ?_
  intro z o hs h1 h2
  intro r_x5
  intro o6
  refine t_Bo_setTerms_3B k k_t0 r_x1 r_x2 r_x3 r_x4 r_x5 hs ?_
  cases o with
  | inl z' => exact h1 z' rfl
  | inr r' => rw [h2 r' rfl]; exact hc
noncomputable def f_Bo_setTerms (w : World) (t0 : Nat) (x1 : Int) (x2 : Int) (x3 : Int) (x4 : Int) : Option World :=
  f_Bo_setTerms_3 w t0 x1 x2 x3 x4 0
theorem t_Bo_setTerms_0 {E : EE} {K : KT} {l : Launch} {H0 : Heap} (k : Kof TA E K l cX0_setTerms RX0 rm_Bo_setTerms) {w : World} {t0 : Nat} {x1 : Int} {x2 : Int} {x3 : Int} {x4 : Int} {o5 o6 : Option Value} (k_t0 : TA.kd t0 = 1) (r_x1 : R32 x1) (r_x2 : R32 x2) (r_x3 : R32 x3) (r_x4 : R32 x4) {out : World} (hf : f_Bo_setTerms w t0 x1 x2 x3 x4 = some out) (hc : (fun out : World => RetV TA E K H0 cX0_setTerms out) out) : Jj K (WdT TA E H0) w 0 [some (rf E.ad t0), some (.int (ii x1)), some (.int (ii x2)), some (.int (ii x3)), some (.int (ii x4)), o5, o6] [] := by
  unfold f_Bo_setTerms at hf
  have o := k.1
  have g := k.2.1
  have kr := k.2.2.1
  refine J_iconst o dX0_setTerms_0 ?_
  refine J_istore o dX0_setTerms_1 (Nat.le_of_ble_eq_true rfl) ?_
  exact (t_Bo_setTerms_3 k k_t0 r_x1 r_x2 r_x3 r_x4 hf hc) rl0 _
theorem c_Bo_setTerms {E : EE} {l : Launch} (hI : Inj TA E) {w : World} {t0 : Nat} {x1 : Int} {x2 : Int} {x3 : Int} {x4 : Int} (k_t0 : TA.kd t0 = 1) (r_x1 : R32 x1) (r_x2 : R32 x2) (r_x3 : R32 x3) (r_x4 : R32 x4) {out : World} (hf : f_Bo_setTerms w t0 x1 x2 x3 x4 = some out) : ConV TA E l yX0_setTerms (WS yX0_setTerms cX0_setTerms 7 none) rm_Bo_setTerms [rf E.ad t0, .int (ii x1), .int (ii x2), .int (ii x3), .int (ii x4)] w out :=
  con_V (by decide +kernel) rfl (Nat.le_of_ble_eq_true rfl) (c1s_r (c1s_i (c1s_i (c1s_i (c1s_i c1s_0 (Nat.le_of_ble_eq_true rfl)) (Nat.le_of_ble_eq_true rfl)) (Nat.le_of_ble_eq_true rfl)) (Nat.le_of_ble_eq_true rfl)) (Nat.le_of_ble_eq_true rfl)).1 ⟨rfl, rfl⟩ hI TnA (fun K H0 k hret => t_Bo_setTerms_0 k k_t0 r_x1 r_x2 r_x3 r_x4 hf hret)
abbrev rm_Bo_setHead : Room := { frames := 3, cells := 0, slots := 0, locals := 73 }
noncomputable def f_Bo_setHead (w : World) (t0 : Nat) (x1 : Int) (x2 : Int) (x3 : Int) (x4 : Int) : Option World :=
  bl (up w t0 1 x1) fun w1 => bnd (f_Bo_setTerms w1 t0 5 x2 x3 x4) fun v3 => some v3
theorem t_Bo_setHead_0 {E : EE} {K : KT} {l : Launch} {H0 : Heap} (k : Kof TA E K l cX0_setHead RX0 rm_Bo_setHead) {w : World} {t0 : Nat} {x1 : Int} {x2 : Int} {x3 : Int} {x4 : Int} (k_t0 : TA.kd t0 = 1) (r_x1 : R32 x1) (r_x2 : R32 x2) (r_x3 : R32 x3) (r_x4 : R32 x4) {out : World} (hf : f_Bo_setHead w t0 x1 x2 x3 x4 = some out) (hc : (fun out : World => RetV TA E K H0 cX0_setHead out) out) : Jj K (WdT TA E H0) w 0 [some (rf E.ad t0), some (.int (ii x1)), some (.int (ii x2)), some (.int (ii x3)), some (.int (ii x4))] [] := by
  unfold f_Bo_setHead at hf
  have o := k.1
  have g := k.2.1
  have kr := k.2.2.1
  refine J_aload_n o dX0_setHead_0 rfl ?_
  refine J_iload_n o dX0_setHead_1 rfl ?_
  refine J_putI o g dX0_setHead_2 fpX0_9 k_t0 rfl rfl r_x1 ?_
  have hf := bl_out hf
  refine J_aload_n o dX0_setHead_5 rfl ?_
  refine J_iconst o dX0_setHead_6 ?_
  refine J_iload_n o dX0_setHead_7 rfl ?_
  refine J_iload_n o dX0_setHead_8 rfl ?_
  refine J_iload o dX0_setHead_9 rfl ?_
  obtain ⟨v3, e2, hf⟩ := bnd_some hf
  refine J_vV o g kr dX0_setHead_11 lkX0_32 ml_Bo_setTerms vl_Bo_setTerms ⟨rfl, rfl, Nat.le_of_ble_eq_true rfl, Nat.le_of_ble_eq_true rfl⟩ (c_Bo_setTerms g.2.1 k_t0 rl5 r_x2 r_x3 r_x4 e2) k_t0 rfl ⟨by decide, by decide⟩ rfl rfl c1s_0 ?_
  have hf := some_inj hf
  subst hf
  exact hc _ _  dX0_setHead_14
theorem c_Bo_setHead {E : EE} {l : Launch} (hI : Inj TA E) {w : World} {t0 : Nat} {x1 : Int} {x2 : Int} {x3 : Int} {x4 : Int} (k_t0 : TA.kd t0 = 1) (r_x1 : R32 x1) (r_x2 : R32 x2) (r_x3 : R32 x3) (r_x4 : R32 x4) {out : World} (hf : f_Bo_setHead w t0 x1 x2 x3 x4 = some out) : ConV TA E l yX0_setHead (WS yX0_setHead cX0_setHead 5 none) rm_Bo_setHead [rf E.ad t0, .int (ii x1), .int (ii x2), .int (ii x3), .int (ii x4)] w out :=
  con_V (by decide +kernel) rfl (Nat.le_of_ble_eq_true rfl) (c1s_r (c1s_i (c1s_i (c1s_i (c1s_i c1s_0 (Nat.le_of_ble_eq_true rfl)) (Nat.le_of_ble_eq_true rfl)) (Nat.le_of_ble_eq_true rfl)) (Nat.le_of_ble_eq_true rfl)) (Nat.le_of_ble_eq_true rfl)).1 ⟨rfl, rfl⟩ hI TnA (fun K H0 k hret => t_Bo_setHead_0 k k_t0 r_x1 r_x2 r_x3 r_x4 hf hret)
abbrev rm_Bo_empty : Room := { frames := 4, cells := 0, slots := 0, locals := 97 }
noncomputable def f_Bo_empty (w : World) (t0 : Nat) : Option World :=
  bl (up w t0 0 0) fun w1 => bnd (f_Bo_setHead w1 t0 (-1) 0 0 0) fun v3 => some v3
theorem t_Bo_empty_0 {E : EE} {K : KT} {l : Launch} {H0 : Heap} (k : Kof TA E K l cX0_empty RX0 rm_Bo_empty) {w : World} {t0 : Nat} (k_t0 : TA.kd t0 = 1) {out : World} (hf : f_Bo_empty w t0 = some out) (hc : (fun out : World => RetV TA E K H0 cX0_empty out) out) : Jj K (WdT TA E H0) w 0 [some (rf E.ad t0)] [] := by
  unfold f_Bo_empty at hf
  have o := k.1
  have g := k.2.1
  have kr := k.2.2.1
  refine J_aload_n o dX0_empty_0 rfl ?_
  refine J_iconst o dX0_empty_1 ?_
  refine J_putI o g dX0_empty_2 fpX0_25 k_t0 rfl rfl rl0 ?_
  have hf := bl_out hf
  refine J_aload_n o dX0_empty_5 rfl ?_
  refine J_iconst o dX0_empty_6 ?_
  refine J_iconst o dX0_empty_7 ?_
  refine J_iconst o dX0_empty_8 ?_
  refine J_iconst o dX0_empty_9 ?_
  obtain ⟨v3, e2, hf⟩ := bnd_some hf
  refine J_vV o g kr dX0_empty_10 lkX0_28 ml_Bo_setHead vl_Bo_setHead ⟨rfl, rfl, Nat.le_of_ble_eq_true rfl, Nat.le_of_ble_eq_true rfl⟩ (c_Bo_setHead g.2.1 k_t0 rlm1 rl0 rl0 rl0 e2) k_t0 rfl ⟨by decide, by decide⟩ rfl rfl c1s_0 ?_
  have hf := some_inj hf
  subst hf
  exact hc _ _  dX0_empty_13
theorem c_Bo_empty {E : EE} {l : Launch} (hI : Inj TA E) {w : World} {t0 : Nat} (k_t0 : TA.kd t0 = 1) {out : World} (hf : f_Bo_empty w t0 = some out) : ConV TA E l yX0_empty (WS yX0_empty cX0_empty 1 none) rm_Bo_empty [rf E.ad t0] w out :=
  con_V (by decide +kernel) rfl (Nat.le_of_ble_eq_true rfl) (c1s_r c1s_0 (Nat.le_of_ble_eq_true rfl)).1 ⟨rfl, rfl⟩ hI TnA (fun K H0 k hret => t_Bo_empty_0 k k_t0 hf hret)
abbrev rm_Dm_clear : Room := { frames := 5, cells := 0, slots := 0, locals := 117 }
noncomputable def f_Dm_clear (w : World) : Option (World × Int) :=
  bl (w 94 0) fun n2 => bnd (f_Bo_empty w 94) fun v4 => some (v4, n2)
theorem t_Dm_clear_0 {E : EE} {K : KT} {l : Launch} {H0 : Heap} (k : Kof TA E K l cX10_clear RX10 rm_Dm_clear) {w : World} {o1 : Option Value}  {out : (World × Int)} (hf : f_Dm_clear w = some out) (hc : (fun out : (World × Int) => RetI TA E K H0 cX10_clear out.1 out.2) out) : Jj K (WdT TA E H0) w 0 [some (rf E.ad 1), o1] [] := by
  unfold f_Dm_clear at hf
  have o := k.1
  have g := k.2.1
  have kr := k.2.2.1
  refine J_aload_n o dX10_clear_0 rfl ?_
  refine J_getF (true, 94) o g dX10_clear_1 flX10_43 kA_1 rfl rfl rfl ?_
  refine J_getI o g dX10_clear_4 flX10_187 kA_94 rfl (fun q1 => ?_)
  refine J_istore_n o dX10_clear_7 (Nat.le_of_ble_eq_true rfl) ?_
  have hf := bl_out hf
  refine J_aload_n o dX10_clear_8 rfl ?_
  refine J_getF (true, 94) o g dX10_clear_9 flX10_43 kA_1 rfl rfl rfl ?_
  obtain ⟨v4, e3, hf⟩ := bnd_some hf
  refine J_vV o g kr dX10_clear_12 lkX10_205 ml_Bo_empty vl_Bo_empty ⟨rfl, rfl, Nat.le_of_ble_eq_true rfl, Nat.le_of_ble_eq_true rfl⟩ (c_Bo_empty g.2.1 kA_94 e3) kA_94 rfl ⟨by decide, by decide⟩ rfl rfl c1s_0 ?_
  refine J_iload_n o dX10_clear_15 rfl ?_
  have hf := some_inj hf
  subst hf
  exact hc _ _ q1 dX10_clear_16
theorem c_Dm_clear {E : EE} {l : Launch} (hI : Inj TA E) {w : World}  {out : (World × Int)} (hf : f_Dm_clear w = some out) : ConI TA E l yX10_clear (WS yX10_clear cX10_clear 2 (some .int)) rm_Dm_clear [rf E.ad 1] w out.1 out.2 :=
  con_I (by decide +kernel) rfl (Nat.le_of_ble_eq_true rfl) (c1s_r c1s_0 (Nat.le_of_ble_eq_true rfl)).1 ⟨rfl, rfl⟩ hI TnA (fun K H0 k hret => t_Dm_clear_0 k  hf hret)
abbrev rm_Dm_modelOf : Room := { frames := 1, cells := 0, slots := 0, locals := 24 }
noncomputable def f_Dm_modelOf_26 (w : World) (u0 : Nat) : Option Nat :=
  if u0 = 0 then (some 98) else (some u0)
theorem t_Dm_modelOf_26 {E : EE} {K : KT} {l : Launch} {H0 : Heap} (k : Kof TA E K l cX10_modelOf RX10 rm_Dm_modelOf) {w : World} {u0 : Nat} {o1 o2 : Option Value}  {out : Nat} (hf : f_Dm_modelOf_26 w u0 = some out) (hc : (fun out : Nat => RetR TA E K H0 cX10_modelOf w out) out) : Jj K (WdT TA E H0) w 26 [some (rf E.ad 1), o1, o2] [rf E.ad u0] := by
  unfold f_Dm_modelOf_26 at hf
  have o := k.1
  have g := k.2.1
  have kr := k.2.2.1
  refine J_astore_n o dX10_modelOf_26 (Nat.le_of_ble_eq_true rfl) ?_
  refine J_aload_n o dX10_modelOf_27 rfl ?_
  refine J_ifnonnull 38 o dX10_modelOf_28 (by decide) (fun c1 => ?_) (fun c2 => ?_)
  · have hf := ite_f c1 hf
    refine J_aload_n o dX10_modelOf_38 rfl ?_
    have hf := some_inj hf
    subst hf
    exact hc _ _  dX10_modelOf_39
  · have hf := ite_t c2 hf
    refine J_aload_n o dX10_modelOf_31 rfl ?_
    refine J_getF (true, 98) o g dX10_modelOf_32 flX10_47 kA_1 rfl rfl rfl ?_
    refine J_goto 39 o dX10_modelOf_35 (by decide) ?_
    have hf := some_inj hf
    subst hf
    exact hc _ _  dX10_modelOf_39
noncomputable def f_Dm_modelOf_22 (w : World) : Option Nat :=
  f_Dm_modelOf_26 w 98
theorem t_Dm_modelOf_22 {E : EE} {K : KT} {l : Launch} {H0 : Heap} (k : Kof TA E K l cX10_modelOf RX10 rm_Dm_modelOf) {w : World} {o1 o2 : Option Value}  {out : Nat} (hf : f_Dm_modelOf_22 w = some out) (hc : (fun out : Nat => RetR TA E K H0 cX10_modelOf w out) out) : Jj K (WdT TA E H0) w 22 [some (rf E.ad 1), o1, o2] [] := by
  unfold f_Dm_modelOf_22 at hf
  have o := k.1
  have g := k.2.1
  have kr := k.2.2.1
  refine J_aload_n o dX10_modelOf_22 rfl ?_
  refine J_getF (true, 98) o g dX10_modelOf_23 flX10_47 kA_1 rfl rfl rfl ?_
  exact t_Dm_modelOf_26 k  hf hc
noncomputable def f_Dm_modelOf (w : World) (x1 : Int) : Option Nat :=
  if x1 < 0 then (f_Dm_modelOf_22 w) else (if 4 ≤ x1 then (f_Dm_modelOf_22 w) else (gd (0 ≤ x1 ∧ x1 < 4) (f_Dm_modelOf_26 w ((w 108 x1.toNat).toNat))))
theorem t_Dm_modelOf_0 {E : EE} {K : KT} {l : Launch} {H0 : Heap} (k : Kof TA E K l cX10_modelOf RX10 rm_Dm_modelOf) {w : World} {x1 : Int} {o2 : Option Value} (r_x1 : R32 x1) {out : Nat} (hf : f_Dm_modelOf w x1 = some out) (hc : (fun out : Nat => RetR TA E K H0 cX10_modelOf w out) out) : Jj K (WdT TA E H0) w 0 [some (rf E.ad 1), some (.int (ii x1)), o2] [] := by
  unfold f_Dm_modelOf at hf
  have o := k.1
  have g := k.2.1
  have kr := k.2.2.1
  refine J_iload_n o dX10_modelOf_0 rfl ?_
  refine J_if_lt 22 o dX10_modelOf_1 (by decide) r_x1 (fun c1 => ?_) (fun c2 => ?_)
  · have hf := ite_t c1 hf
    exact t_Dm_modelOf_22 k  hf hc
  · have hf := ite_f c2 hf
    refine J_iload_n o dX10_modelOf_4 rfl ?_
    refine J_aload_n o dX10_modelOf_5 rfl ?_
    refine J_getF (true, 108) o g dX10_modelOf_6 flX10_64 kA_1 rfl rfl rfl ?_
    refine J_alen o g dX10_modelOf_9 kA_108 ⟨by decide, by decide⟩ zA_108 ?_
    refine J_icmp_ge 22 o dX10_modelOf_10 (by decide) r_x1 rl4 (fun c3 => ?_) (fun c4 => ?_)
    · have hf := ite_t c3 hf
      exact t_Dm_modelOf_22 k  hf hc
    · have hf := ite_f c4 hf
      refine J_aload_n o dX10_modelOf_13 rfl ?_
      refine J_getF (true, 108) o g dX10_modelOf_14 flX10_64 kA_1 rfl rfl rfl ?_
      refine J_iload_n o dX10_modelOf_17 rfl ?_
      obtain ⟨g5, hf⟩ := gd_some hf
      refine J_aald o g dX10_modelOf_18 (Or.inr kA_108) r_x1 zA_108 g5 ?_
      refine J_goto 26 o dX10_modelOf_19 (by decide) ?_
      exact t_Dm_modelOf_26 k  hf hc
theorem c_Dm_modelOf {E : EE} {l : Launch} (hI : Inj TA E) {w : World} {x1 : Int} (r_x1 : R32 x1) {out : Nat} (hf : f_Dm_modelOf w x1 = some out) : ConR TA E l yX10_modelOf (WS yX10_modelOf cX10_modelOf 3 (some (.object "Datalogmill$Model"))) rm_Dm_modelOf [rf E.ad 1, .int (ii x1)] w w out :=
  con_R (by decide +kernel) rfl (Nat.le_of_ble_eq_true rfl) (c1s_r (c1s_i c1s_0 (Nat.le_of_ble_eq_true rfl)) (Nat.le_of_ble_eq_true rfl)).1 ⟨rfl, rfl⟩ hI TnA (fun K H0 k hret => t_Dm_modelOf_0 k r_x1 hf hret)
abbrev rm_Dm_present : Room := { frames := 2, cells := 0, slots := 0, locals := 46 }
noncomputable def f_Dm_present (w : World) : Option Nat :=
  bnd (f_Dm_modelOf w (w 1 12)) fun v3 => some v3
theorem t_Dm_present_0 {E : EE} {K : KT} {l : Launch} {H0 : Heap} (k : Kof TA E K l cX10_present RX10 rm_Dm_present) {w : World}  {out : Nat} (hf : f_Dm_present w = some out) (hc : (fun out : Nat => RetR TA E K H0 cX10_present w out) out) : Jj K (WdT TA E H0) w 0 [some (rf E.ad 1)] [] := by
  unfold f_Dm_present at hf
  have o := k.1
  have g := k.2.1
  have kr := k.2.2.1
  refine J_aload_n o dX10_present_0 rfl ?_
  refine J_aload_n o dX10_present_1 rfl ?_
  refine J_getI o g dX10_present_2 flX10_173 kA_1 rfl (fun q1 => ?_)
  obtain ⟨v3, e2, hf⟩ := bnd_some hf
  refine J_vR o g kr dX10_present_5 lkX10_271 ml_Dm_modelOf vl_Dm_modelOf ⟨rfl, rfl, Nat.le_of_ble_eq_true rfl, Nat.le_of_ble_eq_true rfl⟩ (c_Dm_modelOf g.2.1 q1 e2) kA_1 rfl ⟨by decide, by decide⟩ rfl rfl c1s_0 ?_
  have hf := some_inj hf
  subst hf
  exact hc _ _  dX10_present_8
theorem c_Dm_present {E : EE} {l : Launch} (hI : Inj TA E) {w : World}  {out : Nat} (hf : f_Dm_present w = some out) : ConR TA E l yX10_present (WS yX10_present cX10_present 1 (some (.object "Datalogmill$Model"))) rm_Dm_present [rf E.ad 1] w w out :=
  con_R (by decide +kernel) rfl (Nat.le_of_ble_eq_true rfl) (c1s_r c1s_0 (Nat.le_of_ble_eq_true rfl)).1 ⟨rfl, rfl⟩ hI TnA (fun K H0 k hret => t_Dm_present_0 k  hf hret)
abbrev rm_Pr_denial : Room := { frames := 1, cells := 0, slots := 0, locals := 24 }
noncomputable def f_Pr_denial_26 (w : World) (u0 : Nat) : Option Nat :=
  if u0 = 0 then (some 15) else (some u0)
theorem t_Pr_denial_26 {E : EE} {K : KT} {l : Launch} {H0 : Heap} (k : Kof TA E K l cX7_denial RX7 rm_Pr_denial) {w : World} {u0 : Nat} {o1 o2 : Option Value}  {out : Nat} (hf : f_Pr_denial_26 w u0 = some out) (hc : (fun out : Nat => RetR TA E K H0 cX7_denial w out) out) : Jj K (WdT TA E H0) w 26 [some (rf E.ad 14), o1, o2] [rf E.ad u0] := by
  unfold f_Pr_denial_26 at hf
  have o := k.1
  have g := k.2.1
  have kr := k.2.2.1
  refine J_astore_n o dX7_denial_26 (Nat.le_of_ble_eq_true rfl) ?_
  refine J_aload_n o dX7_denial_27 rfl ?_
  refine J_ifnonnull 38 o dX7_denial_28 (by decide) (fun c1 => ?_) (fun c2 => ?_)
  · have hf := ite_f c1 hf
    refine J_aload_n o dX7_denial_38 rfl ?_
    have hf := some_inj hf
    subst hf
    exact hc _ _  dX7_denial_39
  · have hf := ite_t c2 hf
    refine J_aload_n o dX7_denial_31 rfl ?_
    refine J_getF (true, 15) o g dX7_denial_32 flX7_12 kA_14 rfl rfl rfl ?_
    refine J_goto 39 o dX7_denial_35 (by decide) ?_
    have hf := some_inj hf
    subst hf
    exact hc _ _  dX7_denial_39
noncomputable def f_Pr_denial_22 (w : World) : Option Nat :=
  f_Pr_denial_26 w 15
theorem t_Pr_denial_22 {E : EE} {K : KT} {l : Launch} {H0 : Heap} (k : Kof TA E K l cX7_denial RX7 rm_Pr_denial) {w : World} {o1 o2 : Option Value}  {out : Nat} (hf : f_Pr_denial_22 w = some out) (hc : (fun out : Nat => RetR TA E K H0 cX7_denial w out) out) : Jj K (WdT TA E H0) w 22 [some (rf E.ad 14), o1, o2] [] := by
  unfold f_Pr_denial_22 at hf
  have o := k.1
  have g := k.2.1
  have kr := k.2.2.1
  refine J_aload_n o dX7_denial_22 rfl ?_
  refine J_getF (true, 15) o g dX7_denial_23 flX7_12 kA_14 rfl rfl rfl ?_
  exact t_Pr_denial_26 k  hf hc
noncomputable def f_Pr_denial (w : World) (x1 : Int) : Option Nat :=
  if x1 < 0 then (f_Pr_denial_22 w) else (if 6 ≤ x1 then (f_Pr_denial_22 w) else (gd (0 ≤ x1 ∧ x1 < 6) (f_Pr_denial_26 w ((w 20 x1.toNat).toNat))))
theorem t_Pr_denial_0 {E : EE} {K : KT} {l : Launch} {H0 : Heap} (k : Kof TA E K l cX7_denial RX7 rm_Pr_denial) {w : World} {x1 : Int} {o2 : Option Value} (r_x1 : R32 x1) {out : Nat} (hf : f_Pr_denial w x1 = some out) (hc : (fun out : Nat => RetR TA E K H0 cX7_denial w out) out) : Jj K (WdT TA E H0) w 0 [some (rf E.ad 14), some (.int (ii x1)), o2] [] := by
  unfold f_Pr_denial at hf
  have o := k.1
  have g := k.2.1
  have kr := k.2.2.1
  refine J_iload_n o dX7_denial_0 rfl ?_
  refine J_if_lt 22 o dX7_denial_1 (by decide) r_x1 (fun c1 => ?_) (fun c2 => ?_)
  · have hf := ite_t c1 hf
    exact t_Pr_denial_22 k  hf hc
  · have hf := ite_f c2 hf
    refine J_iload_n o dX7_denial_4 rfl ?_
    refine J_aload_n o dX7_denial_5 rfl ?_
    refine J_getF (true, 20) o g dX7_denial_6 flX7_22 kA_14 rfl rfl rfl ?_
    refine J_alen o g dX7_denial_9 kA_20 ⟨by decide, by decide⟩ zA_20 ?_
    refine J_icmp_ge 22 o dX7_denial_10 (by decide) r_x1 rl6 (fun c3 => ?_) (fun c4 => ?_)
    · have hf := ite_t c3 hf
      exact t_Pr_denial_22 k  hf hc
    · have hf := ite_f c4 hf
      refine J_aload_n o dX7_denial_13 rfl ?_
      refine J_getF (true, 20) o g dX7_denial_14 flX7_22 kA_14 rfl rfl rfl ?_
      refine J_iload_n o dX7_denial_17 rfl ?_
      obtain ⟨g5, hf⟩ := gd_some hf
      refine J_aald o g dX7_denial_18 (Or.inl kA_20) r_x1 zA_20 g5 ?_
      refine J_goto 26 o dX7_denial_19 (by decide) ?_
      exact t_Pr_denial_26 k  hf hc
theorem c_Pr_denial {E : EE} {l : Launch} (hI : Inj TA E) {w : World} {x1 : Int} (r_x1 : R32 x1) {out : Nat} (hf : f_Pr_denial w x1 = some out) : ConR TA E l yX7_denial (WS yX7_denial cX7_denial 3 (some (.object "Datalogmill$Body"))) rm_Pr_denial [rf E.ad 14, .int (ii x1)] w w out :=
  con_R (by decide +kernel) rfl (Nat.le_of_ble_eq_true rfl) (c1s_r (c1s_i c1s_0 (Nat.le_of_ble_eq_true rfl)) (Nat.le_of_ble_eq_true rfl)).1 ⟨rfl, rfl⟩ hI TnA (fun K H0 k hret => t_Pr_denial_0 k r_x1 hf hret)
abbrev rm_Wa_unbind : Room := { frames := 1, cells := 0, slots := 0, locals := 24 }
def HW_Wa_unbind_2 (E : EE) (K : KT) (H0 : Heap) (x1 : Int) : (World × Int) → Prop := fun z => R32 z.2 → Jj K (WdT TA E H0) z.1 2 [some (rf E.ad 103), some (.int (ii x1)), some (.int (ii z.2))] []
noncomputable def f_Wa_unbind_30 (w : World) (x1 : Int) (x2 : Int) : Option ((World × Int) ⊕ World) :=
  bl (wr (x2 + 1)) fun n1 => some (Sum.inl (w, n1))
theorem t_Wa_unbind_30 {E : EE} {K : KT} {l : Launch} {H0 : Heap} (k : Kof TA E K l cX9_unbind RX9 rm_Wa_unbind) {w : World} {x1 : Int} {x2 : Int} (r_x1 : R32 x1) (r_x2 : R32 x2) {out : ((World × Int) ⊕ World)} (hf : f_Wa_unbind_30 w x1 x2 = some out) (hc : (Sum.elim (HW_Wa_unbind_2 E K H0 x1) (fun out : World => RetV TA E K H0 cX9_unbind out)) out) : Jj K (WdT TA E H0) w 30 [some (rf E.ad 103), some (.int (ii x1)), some (.int (ii x2))] [] := by
  unfold f_Wa_unbind_30 at hf
  have o := k.1
  have g := k.2.1
  have kr := k.2.2.1
  have hf := bl_out hf
  refine J_iinc o dX9_unbind_30 rfl ?_
  refine J_goto 2 o dX9_unbind_33 (by decide) ?_
  have hf := some_inj hf
  subst hf
  exact hc (R_wr _) 
noncomputable def f_Wa_unbind_2B (w : World) (x1 : Int) (x2 : Int) : Option ((World × Int) ⊕ World) :=
  if 8 ≤ x2 then (some (Sum.inr w)) else (if x1 = 0 then (some (Sum.inr w)) else (if (iand (ishr x1 x2) 1) = 0 then (f_Wa_unbind_30 w x1 x2) else (gd (0 ≤ x2 ∧ x2 < 8) (bl (up w 104 x2.toNat (-1)) fun w8 => f_Wa_unbind_30 w8 x1 x2))))
theorem t_Wa_unbind_2B {E : EE} {K : KT} {l : Launch} {H0 : Heap} (k : Kof TA E K l cX9_unbind RX9 rm_Wa_unbind) {w : World} {x1 : Int} {x2 : Int} (r_x1 : R32 x1) (r_x2 : R32 x2) {out : ((World × Int) ⊕ World)} (hf : f_Wa_unbind_2B w x1 x2 = some out) (hc : (Sum.elim (HW_Wa_unbind_2 E K H0 x1) (fun out : World => RetV TA E K H0 cX9_unbind out)) out) : Jj K (WdT TA E H0) w 2 [some (rf E.ad 103), some (.int (ii x1)), some (.int (ii x2))] [] := by
  unfold f_Wa_unbind_2B at hf
  have o := k.1
  have g := k.2.1
  have kr := k.2.2.1
  refine J_iload_n o dX9_unbind_2 rfl ?_
  refine J_aload_n o dX9_unbind_3 rfl ?_
  refine J_getF (true, 104) o g dX9_unbind_4 flX9_9 kA_103 rfl rfl rfl ?_
  refine J_alen o g dX9_unbind_7 kA_104 ⟨by decide, by decide⟩ zA_104 ?_
  refine J_icmp_ge 36 o dX9_unbind_8 (by decide) r_x2 rl8 (fun c1 => ?_) (fun c2 => ?_)
  · have hf := ite_t c1 hf
    have hf := some_inj hf
    subst hf
    exact hc _ _  dX9_unbind_36
  · have hf := ite_f c2 hf
    refine J_iload_n o dX9_unbind_11 rfl ?_
    refine J_if_eq 36 o dX9_unbind_12 (by decide) r_x1 (fun c3 => ?_) (fun c4 => ?_)
    · have hf := ite_t c3 hf
      have hf := some_inj hf
      subst hf
      exact hc _ _  dX9_unbind_36
    · have hf := ite_f c4 hf
      refine J_iload_n o dX9_unbind_15 rfl ?_
      refine J_iload_n o dX9_unbind_16 rfl ?_
      refine J_ishr o dX9_unbind_17 ?_
      refine J_iconst o dX9_unbind_18 ?_
      refine J_iand o dX9_unbind_19 ?_
      refine J_if_eq 30 o dX9_unbind_20 (by decide) (R_iand _ _) (fun c5 => ?_) (fun c6 => ?_)
      · have hf := ite_t c5 hf
        exact t_Wa_unbind_30 k r_x1 r_x2 hf hc
      · have hf := ite_f c6 hf
        refine J_aload_n o dX9_unbind_23 rfl ?_
        refine J_getF (true, 104) o g dX9_unbind_24 flX9_9 kA_103 rfl rfl rfl ?_
        refine J_iload_n o dX9_unbind_27 rfl ?_
        refine J_iconst o dX9_unbind_28 ?_
        obtain ⟨g7, hf⟩ := gd_some hf
        refine J_iast o g dX9_unbind_29 kA_104 (fxA_40 _) r_x2 zA_104 g7 rlm1 ?_
        have hf := bl_out hf
        exact t_Wa_unbind_30 k r_x1 r_x2 hf hc
noncomputable def f_Wa_unbind_2 (w : World) (x1 : Int) (x2 : Int) : Option World :=
  lp (fun z : (World × Int) => f_Wa_unbind_2B z.1 x1 z.2) (w, x2)
theorem t_Wa_unbind_2 {E : EE} {K : KT} {l : Launch} {H0 : Heap} (k : Kof TA E K l cX9_unbind RX9 rm_Wa_unbind) {w : World} {x1 : Int} {x2 : Int} (r_x1 : R32 x1) {out : World} (hf : f_Wa_unbind_2 w x1 x2 = some out) (hc : (fun out : World => RetV TA E K H0 cX9_unbind out) out) : HW_Wa_unbind_2 E K H0 x1 (w, x2) := by
  unfold f_Wa_unbind_2 at hf
  refine lp_ind (P := HW_Wa_unbind_2 E K H0 x1) hf ?_
  intro z o hs h1 h2
  intro r_x2
  refine t_Wa_unbind_2B k r_x1 r_x2 hs ?_
  cases o with
  | inl z' => exact h1 z' rfl
  | inr r' => rw [h2 r' rfl]; exact hc
noncomputable def f_Wa_unbind (w : World) (x1 : Int) : Option World :=
  f_Wa_unbind_2 w x1 0
theorem t_Wa_unbind_0 {E : EE} {K : KT} {l : Launch} {H0 : Heap} (k : Kof TA E K l cX9_unbind RX9 rm_Wa_unbind) {w : World} {x1 : Int} {o2 : Option Value} (r_x1 : R32 x1) {out : World} (hf : f_Wa_unbind w x1 = some out) (hc : (fun out : World => RetV TA E K H0 cX9_unbind out) out) : Jj K (WdT TA E H0) w 0 [some (rf E.ad 103), some (.int (ii x1)), o2] [] := by
  unfold f_Wa_unbind at hf
  have o := k.1
  have g := k.2.1
  have kr := k.2.2.1
  refine J_iconst o dX9_unbind_0 ?_
  refine J_istore_n o dX9_unbind_1 (Nat.le_of_ble_eq_true rfl) ?_
  exact (t_Wa_unbind_2 k r_x1 hf hc) rl0 
theorem c_Wa_unbind {E : EE} {l : Launch} (hI : Inj TA E) {w : World} {x1 : Int} (r_x1 : R32 x1) {out : World} (hf : f_Wa_unbind w x1 = some out) : ConV TA E l yX9_unbind (WS yX9_unbind cX9_unbind 3 none) rm_Wa_unbind [rf E.ad 103, .int (ii x1)] w out :=
  con_V (by decide +kernel) rfl (Nat.le_of_ble_eq_true rfl) (c1s_r (c1s_i c1s_0 (Nat.le_of_ble_eq_true rfl)) (Nat.le_of_ble_eq_true rfl)).1 ⟨rfl, rfl⟩ hI TnA (fun K H0 k hret => t_Wa_unbind_0 k r_x1 hf hret)
abbrev rm_Wa_begin : Room := { frames := 2, cells := 0, slots := 0, locals := 46 }
noncomputable def f_Wa_begin (w : World) (t1 : Nat) (t2 : Nat) (x3 : Int) : Option World :=
  bl (up w 103 1 (t1 : Nat)) fun w1 => bl (up w1 103 2 (t2 : Nat)) fun w2 => bl (up w2 103 3 x3) fun w3 => bl (up w3 103 4 0) fun w4 => bl (up w4 103 5 1) fun w5 => bl (up w5 103 6 (-1)) fun w6 => bnd (f_Wa_unbind w6 (-1)) fun v8 => some v8
theorem t_Wa_begin_0 {E : EE} {K : KT} {l : Launch} {H0 : Heap} (k : Kof TA E K l cX9_begin RX9 rm_Wa_begin) {w : World} {t1 : Nat} {t2 : Nat} {x3 : Int} (k_t1 : TA.kd t1 = 1) (k_t2 : TA.kd t2 = 6) (r_x3 : R32 x3) {out : World} (hf : f_Wa_begin w t1 t2 x3 = some out) (hc : (fun out : World => RetV TA E K H0 cX9_begin out) out) : Jj K (WdT TA E H0) w 0 [some (rf E.ad 103), some (rf E.ad t1), some (rf E.ad t2), some (.int (ii x3))] [] := by
  unfold f_Wa_begin at hf
  have o := k.1
  have g := k.2.1
  have kr := k.2.2.1
  refine J_aload_n o dX9_begin_0 rfl ?_
  refine J_aload_n o dX9_begin_1 rfl ?_
  refine J_putR o g dX9_begin_2 fpX9_25 kA_103 rfl rfl (lt_A k_t1 (by decide)) ?_
  have hf := bl_out hf
  refine J_aload_n o dX9_begin_5 rfl ?_
  refine J_aload_n o dX9_begin_6 rfl ?_
  refine J_putR o g dX9_begin_7 fpX9_29 kA_103 rfl rfl (lt_A k_t2 (by decide)) ?_
  have hf := bl_out hf
  refine J_aload_n o dX9_begin_10 rfl ?_
  refine J_iload_n o dX9_begin_11 rfl ?_
  refine J_putI o g dX9_begin_12 fpX9_40 kA_103 rfl rfl r_x3 ?_
  have hf := bl_out hf
  refine J_aload_n o dX9_begin_15 rfl ?_
  refine J_iconst o dX9_begin_16 ?_
  refine J_putI o g dX9_begin_17 fpX9_37 kA_103 rfl rfl rl0 ?_
  have hf := bl_out hf
  refine J_aload_n o dX9_begin_20 rfl ?_
  refine J_iconst o dX9_begin_21 ?_
  refine J_putZ o g dX9_begin_22 fpX9_43 kA_103 rfl rfl (Or.inr rfl) ?_
  have hf := bl_out hf
  refine J_aload_n o dX9_begin_25 rfl ?_
  refine J_iconst o dX9_begin_26 ?_
  refine J_putI o g dX9_begin_27 fpX9_33 kA_103 rfl rfl rlm1 ?_
  have hf := bl_out hf
  refine J_aload_n o dX9_begin_30 rfl ?_
  refine J_iconst o dX9_begin_31 ?_
  obtain ⟨v8, e7, hf⟩ := bnd_some hf
  refine J_vV o g kr dX9_begin_32 lkX9_47 ml_Wa_unbind vl_Wa_unbind ⟨rfl, rfl, Nat.le_of_ble_eq_true rfl, Nat.le_of_ble_eq_true rfl⟩ (c_Wa_unbind g.2.1 rlm1 e7) kA_103 rfl ⟨by decide, by decide⟩ rfl rfl c1s_0 ?_
  have hf := some_inj hf
  subst hf
  exact hc _ _  dX9_begin_35
theorem c_Wa_begin {E : EE} {l : Launch} (hI : Inj TA E) {w : World} {t1 : Nat} {t2 : Nat} {x3 : Int} (k_t1 : TA.kd t1 = 1) (k_t2 : TA.kd t2 = 6) (r_x3 : R32 x3) {out : World} (hf : f_Wa_begin w t1 t2 x3 = some out) : ConV TA E l yX9_begin (WS yX9_begin cX9_begin 4 none) rm_Wa_begin [rf E.ad 103, rf E.ad t1, rf E.ad t2, .int (ii x3)] w out :=
  con_V (by decide +kernel) rfl (Nat.le_of_ble_eq_true rfl) (c1s_r (c1s_r (c1s_r (c1s_i c1s_0 (Nat.le_of_ble_eq_true rfl)) (Nat.le_of_ble_eq_true rfl)) (Nat.le_of_ble_eq_true rfl)) (Nat.le_of_ble_eq_true rfl)).1 ⟨rfl, rfl⟩ hI TnA (fun K H0 k hret => t_Wa_begin_0 k k_t1 k_t2 r_x3 hf hret)
abbrev rm_Wa_placeAt : Room := { frames := 1, cells := 0, slots := 0, locals := 24 }
noncomputable def f_Wa_placeAt (w : World) (x1 : Int) : Option Int :=
  if (w 103 6) = (-1) then (some x1) else (if x1 ≤ (w 103 6) then (if x1 = 0 then (some (w 103 6)) else (some (wr (x1 - 1)))) else (some x1))
theorem t_Wa_placeAt_0 {E : EE} {K : KT} {l : Launch} {H0 : Heap} (k : Kof TA E K l cX9_placeAt RX9 rm_Wa_placeAt) {w : World} {x1 : Int} (r_x1 : R32 x1) {out : Int} (hf : f_Wa_placeAt w x1 = some out) (hc : (fun out : Int => RetI TA E K H0 cX9_placeAt w out) out) : Jj K (WdT TA E H0) w 0 [some (rf E.ad 103), some (.int (ii x1))] [] := by
  unfold f_Wa_placeAt at hf
  have o := k.1
  have g := k.2.1
  have kr := k.2.2.1
  refine J_aload_n o dX9_placeAt_0 rfl ?_
  refine J_getI o g dX9_placeAt_1 flX9_33 kA_103 rfl (fun q1 => ?_)
  refine J_iconst o dX9_placeAt_4 ?_
  refine J_icmp_eq 16 o dX9_placeAt_5 (by decide) q1 rlm1 (fun c2 => ?_) (fun c3 => ?_)
  · have hf := ite_t c2 hf
    refine J_iload_n o dX9_placeAt_16 rfl ?_
    have hf := some_inj hf
    subst hf
    exact hc _ _ r_x1 dX9_placeAt_17
  · have hf := ite_f c3 hf
    refine J_iload_n o dX9_placeAt_8 rfl ?_
    refine J_aload_n o dX9_placeAt_9 rfl ?_
    refine J_getI o g dX9_placeAt_10 flX9_33 kA_103 rfl (fun q4 => ?_)
    refine J_icmp_le 18 o dX9_placeAt_13 (by decide) r_x1 q4 (fun c5 => ?_) (fun c6 => ?_)
    · have hf := ite_t c5 hf
      refine J_iload_n o dX9_placeAt_18 rfl ?_
      refine J_if_ne 29 o dX9_placeAt_19 (by decide) r_x1 (fun c7 => ?_) (fun c8 => ?_)
      · have hf := ite_f c7 hf
        refine J_iload_n o dX9_placeAt_29 rfl ?_
        refine J_iconst o dX9_placeAt_30 ?_
        refine J_isub o dX9_placeAt_31 ?_
        have hf := some_inj hf
        subst hf
        exact hc _ _ (R_wr _) dX9_placeAt_32
      · have hf := ite_t c8 hf
        refine J_aload_n o dX9_placeAt_22 rfl ?_
        refine J_getI o g dX9_placeAt_23 flX9_33 kA_103 rfl (fun q9 => ?_)
        refine J_goto 32 o dX9_placeAt_26 (by decide) ?_
        have hf := some_inj hf
        subst hf
        exact hc _ _ q9 dX9_placeAt_32
    · have hf := ite_f c6 hf
      refine J_iload_n o dX9_placeAt_16 rfl ?_
      have hf := some_inj hf
      subst hf
      exact hc _ _ r_x1 dX9_placeAt_17
theorem c_Wa_placeAt {E : EE} {l : Launch} (hI : Inj TA E) {w : World} {x1 : Int} (r_x1 : R32 x1) {out : Int} (hf : f_Wa_placeAt w x1 = some out) : ConI TA E l yX9_placeAt (WS yX9_placeAt cX9_placeAt 2 (some .int)) rm_Wa_placeAt [rf E.ad 103, .int (ii x1)] w w out :=
  con_I (by decide +kernel) rfl (Nat.le_of_ble_eq_true rfl) (c1s_r (c1s_i c1s_0 (Nat.le_of_ble_eq_true rfl)) (Nat.le_of_ble_eq_true rfl)).1 ⟨rfl, rfl⟩ hI TnA (fun K H0 k hret => t_Wa_placeAt_0 k r_x1 hf hret)
abbrev rm_Bo_formOf : Room := { frames := 1, cells := 0, slots := 0, locals := 24 }
noncomputable def f_Bo_formOf (w : World) (t0 : Nat) (x1 : Int) : Option Int :=
  if x1 < 0 then (some (-1)) else (if 5 ≤ x1 then (some (-1)) else (gd (0 ≤ x1 ∧ x1 < 5) (some (w (t0 + 1) x1.toNat))))
theorem t_Bo_formOf_0 {E : EE} {K : KT} {l : Launch} {H0 : Heap} (k : Kof TA E K l cX0_formOf RX0 rm_Bo_formOf) {w : World} {t0 : Nat} {x1 : Int} (k_t0 : TA.kd t0 = 1) (r_x1 : R32 x1) {out : Int} (hf : f_Bo_formOf w t0 x1 = some out) (hc : (fun out : Int => RetI TA E K H0 cX0_formOf w out) out) : Jj K (WdT TA E H0) w 0 [some (rf E.ad t0), some (.int (ii x1))] [] := by
  unfold f_Bo_formOf at hf
  have o := k.1
  have g := k.2.1
  have kr := k.2.2.1
  refine J_iload_n o dX0_formOf_0 rfl ?_
  refine J_if_lt 18 o dX0_formOf_1 (by decide) r_x1 (fun c1 => ?_) (fun c2 => ?_)
  · have hf := ite_t c1 hf
    refine J_iconst o dX0_formOf_18 ?_
    have hf := some_inj hf
    subst hf
    exact hc _ _ rlm1 dX0_formOf_19
  · have hf := ite_f c2 hf
    refine J_iload_n o dX0_formOf_4 rfl ?_
    refine J_iconst o dX0_formOf_5 ?_
    refine J_icmp_ge 18 o dX0_formOf_6 (by decide) r_x1 rl5 (fun c3 => ?_) (fun c4 => ?_)
    · have hf := ite_t c3 hf
      refine J_iconst o dX0_formOf_18 ?_
      have hf := some_inj hf
      subst hf
      exact hc _ _ rlm1 dX0_formOf_19
    · have hf := ite_f c4 hf
      refine J_aload_n o dX0_formOf_9 rfl ?_
      refine J_getF (false, 1) o g dX0_formOf_10 flX0_15 k_t0 rfl rfl rfl ?_
      refine J_iload_n o dX0_formOf_13 rfl ?_
      obtain ⟨g5, hf⟩ := gd_some hf
      refine J_iald o g dX0_formOf_14 (krA_1_1 k_t0) r_x1 (zrA_1_1 k_t0) g5 (fun q6 => ?_)
      refine J_goto 19 o dX0_formOf_15 (by decide) ?_
      have hf := some_inj hf
      subst hf
      exact hc _ _ q6 dX0_formOf_19
theorem c_Bo_formOf {E : EE} {l : Launch} (hI : Inj TA E) {w : World} {t0 : Nat} {x1 : Int} (k_t0 : TA.kd t0 = 1) (r_x1 : R32 x1) {out : Int} (hf : f_Bo_formOf w t0 x1 = some out) : ConI TA E l yX0_formOf (WS yX0_formOf cX0_formOf 2 (some .int)) rm_Bo_formOf [rf E.ad t0, .int (ii x1)] w w out :=
  con_I (by decide +kernel) rfl (Nat.le_of_ble_eq_true rfl) (c1s_r (c1s_i c1s_0 (Nat.le_of_ble_eq_true rfl)) (Nat.le_of_ble_eq_true rfl)).1 ⟨rfl, rfl⟩ hI TnA (fun K H0 k hret => t_Bo_formOf_0 k k_t0 r_x1 hf hret)
abbrev rm_Bo_subjectOf : Room := { frames := 1, cells := 0, slots := 0, locals := 24 }
noncomputable def f_Bo_subjectOf (w : World) (t0 : Nat) (x1 : Int) : Option Int :=
  if x1 < 0 then (some (-1)) else (if 5 ≤ x1 then (some (-1)) else (gd (0 ≤ x1 ∧ x1 < 5) (some (w (t0 + 2) x1.toNat))))
theorem t_Bo_subjectOf_0 {E : EE} {K : KT} {l : Launch} {H0 : Heap} (k : Kof TA E K l cX0_subjectOf RX0 rm_Bo_subjectOf) {w : World} {t0 : Nat} {x1 : Int} (k_t0 : TA.kd t0 = 1) (r_x1 : R32 x1) {out : Int} (hf : f_Bo_subjectOf w t0 x1 = some out) (hc : (fun out : Int => RetI TA E K H0 cX0_subjectOf w out) out) : Jj K (WdT TA E H0) w 0 [some (rf E.ad t0), some (.int (ii x1))] [] := by
  unfold f_Bo_subjectOf at hf
  have o := k.1
  have g := k.2.1
  have kr := k.2.2.1
  refine J_iload_n o dX0_subjectOf_0 rfl ?_
  refine J_if_lt 18 o dX0_subjectOf_1 (by decide) r_x1 (fun c1 => ?_) (fun c2 => ?_)
  · have hf := ite_t c1 hf
    refine J_iconst o dX0_subjectOf_18 ?_
    have hf := some_inj hf
    subst hf
    exact hc _ _ rlm1 dX0_subjectOf_19
  · have hf := ite_f c2 hf
    refine J_iload_n o dX0_subjectOf_4 rfl ?_
    refine J_iconst o dX0_subjectOf_5 ?_
    refine J_icmp_ge 18 o dX0_subjectOf_6 (by decide) r_x1 rl5 (fun c3 => ?_) (fun c4 => ?_)
    · have hf := ite_t c3 hf
      refine J_iconst o dX0_subjectOf_18 ?_
      have hf := some_inj hf
      subst hf
      exact hc _ _ rlm1 dX0_subjectOf_19
    · have hf := ite_f c4 hf
      refine J_aload_n o dX0_subjectOf_9 rfl ?_
      refine J_getF (false, 2) o g dX0_subjectOf_10 flX0_19 k_t0 rfl rfl rfl ?_
      refine J_iload_n o dX0_subjectOf_13 rfl ?_
      obtain ⟨g5, hf⟩ := gd_some hf
      refine J_iald o g dX0_subjectOf_14 (krA_1_2 k_t0) r_x1 (zrA_1_2 k_t0) g5 (fun q6 => ?_)
      refine J_goto 19 o dX0_subjectOf_15 (by decide) ?_
      have hf := some_inj hf
      subst hf
      exact hc _ _ q6 dX0_subjectOf_19
theorem c_Bo_subjectOf {E : EE} {l : Launch} (hI : Inj TA E) {w : World} {t0 : Nat} {x1 : Int} (k_t0 : TA.kd t0 = 1) (r_x1 : R32 x1) {out : Int} (hf : f_Bo_subjectOf w t0 x1 = some out) : ConI TA E l yX0_subjectOf (WS yX0_subjectOf cX0_subjectOf 2 (some .int)) rm_Bo_subjectOf [rf E.ad t0, .int (ii x1)] w w out :=
  con_I (by decide +kernel) rfl (Nat.le_of_ble_eq_true rfl) (c1s_r (c1s_i c1s_0 (Nat.le_of_ble_eq_true rfl)) (Nat.le_of_ble_eq_true rfl)).1 ⟨rfl, rfl⟩ hI TnA (fun K H0 k hret => t_Bo_subjectOf_0 k k_t0 r_x1 hf hret)
abbrev rm_Mo_firstOf : Room := { frames := 1, cells := 0, slots := 0, locals := 24 }
noncomputable def f_Mo_firstOf (w : World) (t0 : Nat) (x1 : Int) : Option Int :=
  if x1 < 0 then (some (-1)) else (if 10 ≤ x1 then (some (-1)) else (gd (0 ≤ x1 ∧ x1 < 10) (some (w (t0 + 1) x1.toNat))))
theorem t_Mo_firstOf_0 {E : EE} {K : KT} {l : Launch} {H0 : Heap} (k : Kof TA E K l cX5_firstOf RX5 rm_Mo_firstOf) {w : World} {t0 : Nat} {x1 : Int} (k_t0 : TA.kd t0 = 6) (r_x1 : R32 x1) {out : Int} (hf : f_Mo_firstOf w t0 x1 = some out) (hc : (fun out : Int => RetI TA E K H0 cX5_firstOf w out) out) : Jj K (WdT TA E H0) w 0 [some (rf E.ad t0), some (.int (ii x1))] [] := by
  unfold f_Mo_firstOf at hf
  have o := k.1
  have g := k.2.1
  have kr := k.2.2.1
  refine J_iload_n o dX5_firstOf_0 rfl ?_
  refine J_if_lt 19 o dX5_firstOf_1 (by decide) r_x1 (fun c1 => ?_) (fun c2 => ?_)
  · have hf := ite_t c1 hf
    refine J_iconst o dX5_firstOf_19 ?_
    have hf := some_inj hf
    subst hf
    exact hc _ _ rlm1 dX5_firstOf_20
  · have hf := ite_f c2 hf
    refine J_iload_n o dX5_firstOf_4 rfl ?_
    refine J_bipush o dX5_firstOf_5 (by decide) ?_
    refine J_icmp_ge 19 o dX5_firstOf_7 (by decide) r_x1 rl10 (fun c3 => ?_) (fun c4 => ?_)
    · have hf := ite_t c3 hf
      refine J_iconst o dX5_firstOf_19 ?_
      have hf := some_inj hf
      subst hf
      exact hc _ _ rlm1 dX5_firstOf_20
    · have hf := ite_f c4 hf
      refine J_aload_n o dX5_firstOf_10 rfl ?_
      refine J_getF (false, 1) o g dX5_firstOf_11 flX5_9 k_t0 rfl rfl rfl ?_
      refine J_iload_n o dX5_firstOf_14 rfl ?_
      obtain ⟨g5, hf⟩ := gd_some hf
      refine J_iald o g dX5_firstOf_15 (krA_6_1 k_t0) r_x1 (zrA_6_1 k_t0) g5 (fun q6 => ?_)
      refine J_goto 20 o dX5_firstOf_16 (by decide) ?_
      have hf := some_inj hf
      subst hf
      exact hc _ _ q6 dX5_firstOf_20
theorem c_Mo_firstOf {E : EE} {l : Launch} (hI : Inj TA E) {w : World} {t0 : Nat} {x1 : Int} (k_t0 : TA.kd t0 = 6) (r_x1 : R32 x1) {out : Int} (hf : f_Mo_firstOf w t0 x1 = some out) : ConI TA E l yX5_firstOf (WS yX5_firstOf cX5_firstOf 2 (some .int)) rm_Mo_firstOf [rf E.ad t0, .int (ii x1)] w w out :=
  con_I (by decide +kernel) rfl (Nat.le_of_ble_eq_true rfl) (c1s_r (c1s_i c1s_0 (Nat.le_of_ble_eq_true rfl)) (Nat.le_of_ble_eq_true rfl)).1 ⟨rfl, rfl⟩ hI TnA (fun K H0 k hret => t_Mo_firstOf_0 k k_t0 r_x1 hf hret)
abbrev rm_Mo_nextOf : Room := { frames := 1, cells := 0, slots := 0, locals := 24 }
noncomputable def f_Mo_nextOf (w : World) (t0 : Nat) (x1 : Int) : Option Int :=
  if x1 < 0 then (some (-1)) else (if 48 ≤ x1 then (some (-1)) else (gd (0 ≤ x1 ∧ x1 < 48) (some (w (t0 + 2) x1.toNat))))
theorem t_Mo_nextOf_0 {E : EE} {K : KT} {l : Launch} {H0 : Heap} (k : Kof TA E K l cX5_nextOf RX5 rm_Mo_nextOf) {w : World} {t0 : Nat} {x1 : Int} (k_t0 : TA.kd t0 = 6) (r_x1 : R32 x1) {out : Int} (hf : f_Mo_nextOf w t0 x1 = some out) (hc : (fun out : Int => RetI TA E K H0 cX5_nextOf w out) out) : Jj K (WdT TA E H0) w 0 [some (rf E.ad t0), some (.int (ii x1))] [] := by
  unfold f_Mo_nextOf at hf
  have o := k.1
  have g := k.2.1
  have kr := k.2.2.1
  refine J_iload_n o dX5_nextOf_0 rfl ?_
  refine J_if_lt 19 o dX5_nextOf_1 (by decide) r_x1 (fun c1 => ?_) (fun c2 => ?_)
  · have hf := ite_t c1 hf
    refine J_iconst o dX5_nextOf_19 ?_
    have hf := some_inj hf
    subst hf
    exact hc _ _ rlm1 dX5_nextOf_20
  · have hf := ite_f c2 hf
    refine J_iload_n o dX5_nextOf_4 rfl ?_
    refine J_bipush o dX5_nextOf_5 (by decide) ?_
    refine J_icmp_ge 19 o dX5_nextOf_7 (by decide) r_x1 rl48 (fun c3 => ?_) (fun c4 => ?_)
    · have hf := ite_t c3 hf
      refine J_iconst o dX5_nextOf_19 ?_
      have hf := some_inj hf
      subst hf
      exact hc _ _ rlm1 dX5_nextOf_20
    · have hf := ite_f c4 hf
      refine J_aload_n o dX5_nextOf_10 rfl ?_
      refine J_getF (false, 2) o g dX5_nextOf_11 flX5_15 k_t0 rfl rfl rfl ?_
      refine J_iload_n o dX5_nextOf_14 rfl ?_
      obtain ⟨g5, hf⟩ := gd_some hf
      refine J_iald o g dX5_nextOf_15 (krA_6_2 k_t0) r_x1 (zrA_6_2 k_t0) g5 (fun q6 => ?_)
      refine J_goto 20 o dX5_nextOf_16 (by decide) ?_
      have hf := some_inj hf
      subst hf
      exact hc _ _ q6 dX5_nextOf_20
theorem c_Mo_nextOf {E : EE} {l : Launch} (hI : Inj TA E) {w : World} {t0 : Nat} {x1 : Int} (k_t0 : TA.kd t0 = 6) (r_x1 : R32 x1) {out : Int} (hf : f_Mo_nextOf w t0 x1 = some out) : ConI TA E l yX5_nextOf (WS yX5_nextOf cX5_nextOf 2 (some .int)) rm_Mo_nextOf [rf E.ad t0, .int (ii x1)] w w out :=
  con_I (by decide +kernel) rfl (Nat.le_of_ble_eq_true rfl) (c1s_r (c1s_i c1s_0 (Nat.le_of_ble_eq_true rfl)) (Nat.le_of_ble_eq_true rfl)).1 ⟨rfl, rfl⟩ hI TnA (fun K H0 k hret => t_Mo_nextOf_0 k k_t0 r_x1 hf hret)
abbrev rm_Sc_columnsOf : Room := { frames := 1, cells := 0, slots := 0, locals := 24 }
noncomputable def f_Sc_columnsOf (w : World) (x1 : Int) : Option Int :=
  if x1 < 0 then (some 0) else (if 10 ≤ x1 then (some 0) else (gd (0 ≤ x1 ∧ x1 < 10) (some (w 3 x1.toNat))))
theorem t_Sc_columnsOf_0 {E : EE} {K : KT} {l : Launch} {H0 : Heap} (k : Kof TA E K l cX8_columnsOf RX8 rm_Sc_columnsOf) {w : World} {x1 : Int} (r_x1 : R32 x1) {out : Int} (hf : f_Sc_columnsOf w x1 = some out) (hc : (fun out : Int => RetI TA E K H0 cX8_columnsOf w out) out) : Jj K (WdT TA E H0) w 0 [some (rf E.ad 2), some (.int (ii x1))] [] := by
  unfold f_Sc_columnsOf at hf
  have o := k.1
  have g := k.2.1
  have kr := k.2.2.1
  refine J_iload_n o dX8_columnsOf_0 rfl ?_
  refine J_if_lt 19 o dX8_columnsOf_1 (by decide) r_x1 (fun c1 => ?_) (fun c2 => ?_)
  · have hf := ite_t c1 hf
    refine J_iconst o dX8_columnsOf_19 ?_
    have hf := some_inj hf
    subst hf
    exact hc _ _ rl0 dX8_columnsOf_20
  · have hf := ite_f c2 hf
    refine J_iload_n o dX8_columnsOf_4 rfl ?_
    refine J_bipush o dX8_columnsOf_5 (by decide) ?_
    refine J_icmp_ge 19 o dX8_columnsOf_7 (by decide) r_x1 rl10 (fun c3 => ?_) (fun c4 => ?_)
    · have hf := ite_t c3 hf
      refine J_iconst o dX8_columnsOf_19 ?_
      have hf := some_inj hf
      subst hf
      exact hc _ _ rl0 dX8_columnsOf_20
    · have hf := ite_f c4 hf
      refine J_aload_n o dX8_columnsOf_10 rfl ?_
      refine J_getF (true, 3) o g dX8_columnsOf_11 flX8_9 kA_2 rfl rfl rfl ?_
      refine J_iload_n o dX8_columnsOf_14 rfl ?_
      obtain ⟨g5, hf⟩ := gd_some hf
      refine J_iald o g dX8_columnsOf_15 kA_3 r_x1 zA_3 g5 (fun q6 => ?_)
      refine J_goto 20 o dX8_columnsOf_16 (by decide) ?_
      have hf := some_inj hf
      subst hf
      exact hc _ _ q6 dX8_columnsOf_20
theorem c_Sc_columnsOf {E : EE} {l : Launch} (hI : Inj TA E) {w : World} {x1 : Int} (r_x1 : R32 x1) {out : Int} (hf : f_Sc_columnsOf w x1 = some out) : ConI TA E l yX8_columnsOf (WS yX8_columnsOf cX8_columnsOf 2 (some .int)) rm_Sc_columnsOf [rf E.ad 2, .int (ii x1)] w w out :=
  con_I (by decide +kernel) rfl (Nat.le_of_ble_eq_true rfl) (c1s_r (c1s_i c1s_0 (Nat.le_of_ble_eq_true rfl)) (Nat.le_of_ble_eq_true rfl)).1 ⟨rfl, rfl⟩ hI TnA (fun K H0 k hret => t_Sc_columnsOf_0 k r_x1 hf hret)
abbrev rm_Mo_roundOf : Room := { frames := 1, cells := 0, slots := 0, locals := 24 }
noncomputable def f_Mo_roundOf (w : World) (t0 : Nat) (x1 : Int) : Option Int :=
  if x1 < 0 then (some (-1)) else (if 48 ≤ x1 then (some (-1)) else (gd (0 ≤ x1 ∧ x1 < 48) (some (w (t0 + 4) x1.toNat))))
theorem t_Mo_roundOf_0 {E : EE} {K : KT} {l : Launch} {H0 : Heap} (k : Kof TA E K l cX5_roundOf RX5 rm_Mo_roundOf) {w : World} {t0 : Nat} {x1 : Int} (k_t0 : TA.kd t0 = 6) (r_x1 : R32 x1) {out : Int} (hf : f_Mo_roundOf w t0 x1 = some out) (hc : (fun out : Int => RetI TA E K H0 cX5_roundOf w out) out) : Jj K (WdT TA E H0) w 0 [some (rf E.ad t0), some (.int (ii x1))] [] := by
  unfold f_Mo_roundOf at hf
  have o := k.1
  have g := k.2.1
  have kr := k.2.2.1
  refine J_iload_n o dX5_roundOf_0 rfl ?_
  refine J_if_lt 19 o dX5_roundOf_1 (by decide) r_x1 (fun c1 => ?_) (fun c2 => ?_)
  · have hf := ite_t c1 hf
    refine J_iconst o dX5_roundOf_19 ?_
    have hf := some_inj hf
    subst hf
    exact hc _ _ rlm1 dX5_roundOf_20
  · have hf := ite_f c2 hf
    refine J_iload_n o dX5_roundOf_4 rfl ?_
    refine J_bipush o dX5_roundOf_5 (by decide) ?_
    refine J_icmp_ge 19 o dX5_roundOf_7 (by decide) r_x1 rl48 (fun c3 => ?_) (fun c4 => ?_)
    · have hf := ite_t c3 hf
      refine J_iconst o dX5_roundOf_19 ?_
      have hf := some_inj hf
      subst hf
      exact hc _ _ rlm1 dX5_roundOf_20
    · have hf := ite_f c4 hf
      refine J_aload_n o dX5_roundOf_10 rfl ?_
      refine J_getF (false, 4) o g dX5_roundOf_11 flX5_21 k_t0 rfl rfl rfl ?_
      refine J_iload_n o dX5_roundOf_14 rfl ?_
      obtain ⟨g5, hf⟩ := gd_some hf
      refine J_iald o g dX5_roundOf_15 (krA_6_4 k_t0) r_x1 (zrA_6_4 k_t0) g5 (fun q6 => ?_)
      refine J_goto 20 o dX5_roundOf_16 (by decide) ?_
      have hf := some_inj hf
      subst hf
      exact hc _ _ q6 dX5_roundOf_20
theorem c_Mo_roundOf {E : EE} {l : Launch} (hI : Inj TA E) {w : World} {t0 : Nat} {x1 : Int} (k_t0 : TA.kd t0 = 6) (r_x1 : R32 x1) {out : Int} (hf : f_Mo_roundOf w t0 x1 = some out) : ConI TA E l yX5_roundOf (WS yX5_roundOf cX5_roundOf 2 (some .int)) rm_Mo_roundOf [rf E.ad t0, .int (ii x1)] w w out :=
  con_I (by decide +kernel) rfl (Nat.le_of_ble_eq_true rfl) (c1s_r (c1s_i c1s_0 (Nat.le_of_ble_eq_true rfl)) (Nat.le_of_ble_eq_true rfl)).1 ⟨rfl, rfl⟩ hI TnA (fun K H0 k hret => t_Mo_roundOf_0 k k_t0 r_x1 hf hret)
abbrev rm_Wa_isTimely : Room := { frames := 2, cells := 0, slots := 0, locals := 45 }
noncomputable def f_Wa_isTimely (w : World) (x1 : Int) (x2 : Int) : Option Int :=
  if (w 103 6) = (-1) then (some 1) else (if x1 ≤ (w 103 6) then (gd (kdA ((w 103 2).toNat) = 6) (bnd (f_Mo_roundOf w ((w 103 2).toNat) x2) fun v9 => if x1 = (w 103 6) then (if v9 = (w 103 7) then (some 1) else (some 0)) else (if (w 103 7) ≤ v9 then (some 0) else (some 1)))) else (some 1))
theorem t_Wa_isTimely_0 {E : EE} {K : KT} {l : Launch} {H0 : Heap} (k : Kof TA E K l cX9_isTimely RX9 rm_Wa_isTimely) {w : World} {x1 : Int} {x2 : Int} {o3 : Option Value} (r_x1 : R32 x1) (r_x2 : R32 x2) {out : Int} (hf : f_Wa_isTimely w x1 x2 = some out) (hc : (fun out : Int => RetZ TA E K H0 cX9_isTimely w out) out) : Jj K (WdT TA E H0) w 0 [some (rf E.ad 103), some (.int (ii x1)), some (.int (ii x2)), o3] [] := by
  unfold f_Wa_isTimely at hf
  have o := k.1
  have g := k.2.1
  have kr := k.2.2.1
  refine J_aload_n o dX9_isTimely_0 rfl ?_
  refine J_getI o g dX9_isTimely_1 flX9_33 kA_103 rfl (fun q1 => ?_)
  refine J_iconst o dX9_isTimely_4 ?_
  refine J_icmp_eq 16 o dX9_isTimely_5 (by decide) q1 rlm1 (fun c2 => ?_) (fun c3 => ?_)
  · have hf := ite_t c2 hf
    refine J_iconst o dX9_isTimely_16 ?_
    have hf := some_inj hf
    subst hf
    exact hc _ _ (Or.inr rfl) dX9_isTimely_17
  · have hf := ite_f c3 hf
    refine J_iload_n o dX9_isTimely_8 rfl ?_
    refine J_aload_n o dX9_isTimely_9 rfl ?_
    refine J_getI o g dX9_isTimely_10 flX9_33 kA_103 rfl (fun q4 => ?_)
    refine J_icmp_le 18 o dX9_isTimely_13 (by decide) r_x1 q4 (fun c5 => ?_) (fun c6 => ?_)
    · have hf := ite_t c5 hf
      refine J_aload_n o dX9_isTimely_18 rfl ?_
      refine J_getR o g dX9_isTimely_19 flX9_29 kA_103 rfl ?_
      refine J_iload_n o dX9_isTimely_22 rfl ?_
      obtain ⟨g7, hf⟩ := gd_some hf
      obtain ⟨v9, e8, hf⟩ := bnd_some hf
      refine J_vI o g kr dX9_isTimely_23 lkX9_112 ml_Mo_roundOf vl_Mo_roundOf ⟨rfl, rfl, Nat.le_of_ble_eq_true rfl, Nat.le_of_ble_eq_true rfl⟩ (c_Mo_roundOf g.2.1 g7 r_x2 e8) g7 rfl ⟨by decide, by decide⟩ rfl rfl c1s_0 (fun q10 => ?_)
      refine J_istore_n o dX9_isTimely_26 (Nat.le_of_ble_eq_true rfl) ?_
      refine J_iload_n o dX9_isTimely_27 rfl ?_
      refine J_aload_n o dX9_isTimely_28 rfl ?_
      refine J_getI o g dX9_isTimely_29 flX9_33 kA_103 rfl (fun q11 => ?_)
      refine J_icmp_ne 51 o dX9_isTimely_32 (by decide) r_x1 q11 (fun c12 => ?_) (fun c13 => ?_)
      · have hf := ite_f c12 hf
        refine J_iload_n o dX9_isTimely_51 rfl ?_
        refine J_aload_n o dX9_isTimely_52 rfl ?_
        refine J_getI o g dX9_isTimely_53 flX9_51 kA_103 rfl (fun q14 => ?_)
        refine J_icmp_ge 63 o dX9_isTimely_56 (by decide) q10 q14 (fun c15 => ?_) (fun c16 => ?_)
        · have hf := ite_t c15 hf
          refine J_iconst o dX9_isTimely_63 ?_
          have hf := some_inj hf
          subst hf
          exact hc _ _ (Or.inl rfl) dX9_isTimely_64
        · have hf := ite_f c16 hf
          refine J_iconst o dX9_isTimely_59 ?_
          refine J_goto 64 o dX9_isTimely_60 (by decide) ?_
          have hf := some_inj hf
          subst hf
          exact hc _ _ (Or.inr rfl) dX9_isTimely_64
      · have hf := ite_t c13 hf
        refine J_iload_n o dX9_isTimely_35 rfl ?_
        refine J_aload_n o dX9_isTimely_36 rfl ?_
        refine J_getI o g dX9_isTimely_37 flX9_51 kA_103 rfl (fun q17 => ?_)
        refine J_icmp_ne 47 o dX9_isTimely_40 (by decide) q10 q17 (fun c18 => ?_) (fun c19 => ?_)
        · have hf := ite_f c18 hf
          refine J_iconst o dX9_isTimely_47 ?_
          refine J_goto 64 o dX9_isTimely_48 (by decide) ?_
          have hf := some_inj hf
          subst hf
          exact hc _ _ (Or.inl rfl) dX9_isTimely_64
        · have hf := ite_t c19 hf
          refine J_iconst o dX9_isTimely_43 ?_
          refine J_goto 64 o dX9_isTimely_44 (by decide) ?_
          have hf := some_inj hf
          subst hf
          exact hc _ _ (Or.inr rfl) dX9_isTimely_64
    · have hf := ite_f c6 hf
      refine J_iconst o dX9_isTimely_16 ?_
      have hf := some_inj hf
      subst hf
      exact hc _ _ (Or.inr rfl) dX9_isTimely_17
theorem c_Wa_isTimely {E : EE} {l : Launch} (hI : Inj TA E) {w : World} {x1 : Int} {x2 : Int} (r_x1 : R32 x1) (r_x2 : R32 x2) {out : Int} (hf : f_Wa_isTimely w x1 x2 = some out) : ConI TA E l yX9_isTimely (WS yX9_isTimely cX9_isTimely 4 (some .boolean)) rm_Wa_isTimely [rf E.ad 103, .int (ii x1), .int (ii x2)] w w out :=
  con_Z (by decide +kernel) rfl (Nat.le_of_ble_eq_true rfl) (c1s_r (c1s_i (c1s_i c1s_0 (Nat.le_of_ble_eq_true rfl)) (Nat.le_of_ble_eq_true rfl)) (Nat.le_of_ble_eq_true rfl)).1 ⟨rfl, rfl⟩ hI TnA (fun K H0 k hret => t_Wa_isTimely_0 k r_x1 r_x2 hf hret)
abbrev rm_Mo_codeOf : Room := { frames := 1, cells := 0, slots := 0, locals := 24 }
noncomputable def f_Mo_codeOf (w : World) (t0 : Nat) (x1 : Int) : Option Int :=
  if x1 < 0 then (some (-1)) else (if 48 ≤ x1 then (some (-1)) else (gd (0 ≤ x1 ∧ x1 < 48) (some (w (t0 + 3) x1.toNat))))
theorem t_Mo_codeOf_0 {E : EE} {K : KT} {l : Launch} {H0 : Heap} (k : Kof TA E K l cX5_codeOf RX5 rm_Mo_codeOf) {w : World} {t0 : Nat} {x1 : Int} (k_t0 : TA.kd t0 = 6) (r_x1 : R32 x1) {out : Int} (hf : f_Mo_codeOf w t0 x1 = some out) (hc : (fun out : Int => RetI TA E K H0 cX5_codeOf w out) out) : Jj K (WdT TA E H0) w 0 [some (rf E.ad t0), some (.int (ii x1))] [] := by
  unfold f_Mo_codeOf at hf
  have o := k.1
  have g := k.2.1
  have kr := k.2.2.1
  refine J_iload_n o dX5_codeOf_0 rfl ?_
  refine J_if_lt 19 o dX5_codeOf_1 (by decide) r_x1 (fun c1 => ?_) (fun c2 => ?_)
  · have hf := ite_t c1 hf
    refine J_iconst o dX5_codeOf_19 ?_
    have hf := some_inj hf
    subst hf
    exact hc _ _ rlm1 dX5_codeOf_20
  · have hf := ite_f c2 hf
    refine J_iload_n o dX5_codeOf_4 rfl ?_
    refine J_bipush o dX5_codeOf_5 (by decide) ?_
    refine J_icmp_ge 19 o dX5_codeOf_7 (by decide) r_x1 rl48 (fun c3 => ?_) (fun c4 => ?_)
    · have hf := ite_t c3 hf
      refine J_iconst o dX5_codeOf_19 ?_
      have hf := some_inj hf
      subst hf
      exact hc _ _ rlm1 dX5_codeOf_20
    · have hf := ite_f c4 hf
      refine J_aload_n o dX5_codeOf_10 rfl ?_
      refine J_getF (false, 3) o g dX5_codeOf_11 flX5_18 k_t0 rfl rfl rfl ?_
      refine J_iload_n o dX5_codeOf_14 rfl ?_
      obtain ⟨g5, hf⟩ := gd_some hf
      refine J_iald o g dX5_codeOf_15 (krA_6_3 k_t0) r_x1 (zrA_6_3 k_t0) g5 (fun q6 => ?_)
      refine J_goto 20 o dX5_codeOf_16 (by decide) ?_
      have hf := some_inj hf
      subst hf
      exact hc _ _ q6 dX5_codeOf_20
theorem c_Mo_codeOf {E : EE} {l : Launch} (hI : Inj TA E) {w : World} {t0 : Nat} {x1 : Int} (k_t0 : TA.kd t0 = 6) (r_x1 : R32 x1) {out : Int} (hf : f_Mo_codeOf w t0 x1 = some out) : ConI TA E l yX5_codeOf (WS yX5_codeOf cX5_codeOf 2 (some .int)) rm_Mo_codeOf [rf E.ad t0, .int (ii x1)] w w out :=
  con_I (by decide +kernel) rfl (Nat.le_of_ble_eq_true rfl) (c1s_r (c1s_i c1s_0 (Nat.le_of_ble_eq_true rfl)) (Nat.le_of_ble_eq_true rfl)).1 ⟨rfl, rfl⟩ hI TnA (fun K H0 k hret => t_Mo_codeOf_0 k k_t0 r_x1 hf hret)
abbrev rm_Bo_termOf : Room := { frames := 1, cells := 0, slots := 0, locals := 24 }
noncomputable def f_Bo_termOf (w : World) (t0 : Nat) (x1 : Int) (x2 : Int) : Option Int :=
  bl (wr ((wr (x1 * 3)) + x2)) fun n1 => if n1 < 0 then (some 0) else (if 18 ≤ n1 then (some 0) else (gd (0 ≤ n1 ∧ n1 < 18) (some (w (t0 + 3) n1.toNat))))
theorem t_Bo_termOf_0 {E : EE} {K : KT} {l : Launch} {H0 : Heap} (k : Kof TA E K l cX0_termOf RX0 rm_Bo_termOf) {w : World} {t0 : Nat} {x1 : Int} {x2 : Int} {o3 : Option Value} (k_t0 : TA.kd t0 = 1) (r_x1 : R32 x1) (r_x2 : R32 x2) {out : Int} (hf : f_Bo_termOf w t0 x1 x2 = some out) (hc : (fun out : Int => RetI TA E K H0 cX0_termOf w out) out) : Jj K (WdT TA E H0) w 0 [some (rf E.ad t0), some (.int (ii x1)), some (.int (ii x2)), o3] [] := by
  unfold f_Bo_termOf at hf
  have o := k.1
  have g := k.2.1
  have kr := k.2.2.1
  refine J_iload_n o dX0_termOf_0 rfl ?_
  refine J_iconst o dX0_termOf_1 ?_
  refine J_imul o dX0_termOf_2 ?_
  refine J_iload_n o dX0_termOf_3 rfl ?_
  refine J_iadd o dX0_termOf_4 ?_
  refine J_istore_n o dX0_termOf_5 (Nat.le_of_ble_eq_true rfl) ?_
  have hf := bl_out hf
  refine J_iload_n o dX0_termOf_6 rfl ?_
  refine J_if_lt 28 o dX0_termOf_7 (by decide) (R_wr _) (fun c2 => ?_) (fun c3 => ?_)
  · have hf := ite_t c2 hf
    refine J_iconst o dX0_termOf_28 ?_
    have hf := some_inj hf
    subst hf
    exact hc _ _ rl0 dX0_termOf_29
  · have hf := ite_f c3 hf
    refine J_iload_n o dX0_termOf_10 rfl ?_
    refine J_aload_n o dX0_termOf_11 rfl ?_
    refine J_getF (false, 3) o g dX0_termOf_12 flX0_22 k_t0 rfl rfl rfl ?_
    refine J_alen o g dX0_termOf_15 (krA_1_3 k_t0) ⟨by decide, by decide⟩ (zrA_1_3 k_t0) ?_
    refine J_icmp_ge 28 o dX0_termOf_16 (by decide) (R_wr _) rl18 (fun c4 => ?_) (fun c5 => ?_)
    · have hf := ite_t c4 hf
      refine J_iconst o dX0_termOf_28 ?_
      have hf := some_inj hf
      subst hf
      exact hc _ _ rl0 dX0_termOf_29
    · have hf := ite_f c5 hf
      refine J_aload_n o dX0_termOf_19 rfl ?_
      refine J_getF (false, 3) o g dX0_termOf_20 flX0_22 k_t0 rfl rfl rfl ?_
      refine J_iload_n o dX0_termOf_23 rfl ?_
      obtain ⟨g6, hf⟩ := gd_some hf
      refine J_iald o g dX0_termOf_24 (krA_1_3 k_t0) (R_wr _) (zrA_1_3 k_t0) g6 (fun q7 => ?_)
      refine J_goto 29 o dX0_termOf_25 (by decide) ?_
      have hf := some_inj hf
      subst hf
      exact hc _ _ q7 dX0_termOf_29
theorem c_Bo_termOf {E : EE} {l : Launch} (hI : Inj TA E) {w : World} {t0 : Nat} {x1 : Int} {x2 : Int} (k_t0 : TA.kd t0 = 1) (r_x1 : R32 x1) (r_x2 : R32 x2) {out : Int} (hf : f_Bo_termOf w t0 x1 x2 = some out) : ConI TA E l yX0_termOf (WS yX0_termOf cX0_termOf 4 (some .int)) rm_Bo_termOf [rf E.ad t0, .int (ii x1), .int (ii x2)] w w out :=
  con_I (by decide +kernel) rfl (Nat.le_of_ble_eq_true rfl) (c1s_r (c1s_i (c1s_i c1s_0 (Nat.le_of_ble_eq_true rfl)) (Nat.le_of_ble_eq_true rfl)) (Nat.le_of_ble_eq_true rfl)).1 ⟨rfl, rfl⟩ hI TnA (fun K H0 k hret => t_Bo_termOf_0 k k_t0 r_x1 r_x2 hf hret)
abbrev rm_Dm_columnOf : Room := { frames := 1, cells := 0, slots := 0, locals := 24 }
noncomputable def f_Dm_columnOf (x0 : Int) (x1 : Int) : Option Int :=
  some (iand (ishr x0 (wr ((wr (2 - x1)) * 7))) 127)
theorem t_Dm_columnOf_0 {E : EE} {K : KT} {l : Launch} {H0 : Heap} (k : Kof TA E K l cX10_columnOf RX10 rm_Dm_columnOf) {w0 : World} {x0 : Int} {x1 : Int} (r_x0 : R32 x0) (r_x1 : R32 x1) {out : Int} (hf : f_Dm_columnOf x0 x1 = some out) (hc : (fun out : Int => RetI TA E K H0 cX10_columnOf w0 out) out) : Jj K (WdT TA E H0) w0 0 [some (.int (ii x0)), some (.int (ii x1))] [] := by
  unfold f_Dm_columnOf at hf
  have o := k.1
  have g := k.2.1
  have kr := k.2.2.1
  refine J_iload_n o dX10_columnOf_0 rfl ?_
  refine J_iconst o dX10_columnOf_1 ?_
  refine J_iload_n o dX10_columnOf_2 rfl ?_
  refine J_isub o dX10_columnOf_3 ?_
  refine J_bipush o dX10_columnOf_4 (by decide) ?_
  refine J_imul o dX10_columnOf_6 ?_
  refine J_ishr o dX10_columnOf_7 ?_
  refine J_bipush o dX10_columnOf_8 (by decide) ?_
  refine J_iand o dX10_columnOf_10 ?_
  have hf := some_inj hf
  subst hf
  exact hc _ _ (R_iand _ _) dX10_columnOf_11
theorem c_Dm_columnOf {E : EE} {l : Launch} (hI : Inj TA E) {w0 : World} {x0 : Int} {x1 : Int} (r_x0 : R32 x0) (r_x1 : R32 x1) {out : Int} (hf : f_Dm_columnOf x0 x1 = some out) : ConI TA E l yX10_columnOf (WS yX10_columnOf cX10_columnOf 2 (some .int)) rm_Dm_columnOf [.int (ii x0), .int (ii x1)] w0 w0 out :=
  con_I (by decide +kernel) rfl (Nat.le_of_ble_eq_true rfl) (c1s_i (c1s_i c1s_0 (Nat.le_of_ble_eq_true rfl)) (Nat.le_of_ble_eq_true rfl)).1 ⟨rfl, rfl⟩ hI TnA (fun K H0 k hret => t_Dm_columnOf_0 k r_x0 r_x1 hf hret)
abbrev rm_Wa_valueOf : Room := { frames := 1, cells := 0, slots := 0, locals := 24 }
noncomputable def f_Wa_valueOf (w : World) (x1 : Int) : Option Int :=
  bl (wr ((-1) - x1)) fun n1 => if n1 < 0 then (some x1) else (if 8 ≤ n1 then (some x1) else (gd (0 ≤ n1 ∧ n1 < 8) (some (w 104 n1.toNat))))
theorem t_Wa_valueOf_0 {E : EE} {K : KT} {l : Launch} {H0 : Heap} (k : Kof TA E K l cX9_valueOf RX9 rm_Wa_valueOf) {w : World} {x1 : Int} {o2 : Option Value} (r_x1 : R32 x1) {out : Int} (hf : f_Wa_valueOf w x1 = some out) (hc : (fun out : Int => RetI TA E K H0 cX9_valueOf w out) out) : Jj K (WdT TA E H0) w 0 [some (rf E.ad 103), some (.int (ii x1)), o2] [] := by
  unfold f_Wa_valueOf at hf
  have o := k.1
  have g := k.2.1
  have kr := k.2.2.1
  refine J_iconst o dX9_valueOf_0 ?_
  refine J_iload_n o dX9_valueOf_1 rfl ?_
  refine J_isub o dX9_valueOf_2 ?_
  refine J_istore_n o dX9_valueOf_3 (Nat.le_of_ble_eq_true rfl) ?_
  have hf := bl_out hf
  refine J_iload_n o dX9_valueOf_4 rfl ?_
  refine J_if_lt 26 o dX9_valueOf_5 (by decide) (R_wr _) (fun c2 => ?_) (fun c3 => ?_)
  · have hf := ite_t c2 hf
    refine J_iload_n o dX9_valueOf_26 rfl ?_
    have hf := some_inj hf
    subst hf
    exact hc _ _ r_x1 dX9_valueOf_27
  · have hf := ite_f c3 hf
    refine J_iload_n o dX9_valueOf_8 rfl ?_
    refine J_aload_n o dX9_valueOf_9 rfl ?_
    refine J_getF (true, 104) o g dX9_valueOf_10 flX9_9 kA_103 rfl rfl rfl ?_
    refine J_alen o g dX9_valueOf_13 kA_104 ⟨by decide, by decide⟩ zA_104 ?_
    refine J_icmp_ge 26 o dX9_valueOf_14 (by decide) (R_wr _) rl8 (fun c4 => ?_) (fun c5 => ?_)
    · have hf := ite_t c4 hf
      refine J_iload_n o dX9_valueOf_26 rfl ?_
      have hf := some_inj hf
      subst hf
      exact hc _ _ r_x1 dX9_valueOf_27
    · have hf := ite_f c5 hf
      refine J_aload_n o dX9_valueOf_17 rfl ?_
      refine J_getF (true, 104) o g dX9_valueOf_18 flX9_9 kA_103 rfl rfl rfl ?_
      refine J_iload_n o dX9_valueOf_21 rfl ?_
      obtain ⟨g6, hf⟩ := gd_some hf
      refine J_iald o g dX9_valueOf_22 kA_104 (R_wr _) zA_104 g6 (fun q7 => ?_)
      refine J_goto 27 o dX9_valueOf_23 (by decide) ?_
      have hf := some_inj hf
      subst hf
      exact hc _ _ q7 dX9_valueOf_27
theorem c_Wa_valueOf {E : EE} {l : Launch} (hI : Inj TA E) {w : World} {x1 : Int} (r_x1 : R32 x1) {out : Int} (hf : f_Wa_valueOf w x1 = some out) : ConI TA E l yX9_valueOf (WS yX9_valueOf cX9_valueOf 3 (some .int)) rm_Wa_valueOf [rf E.ad 103, .int (ii x1)] w w out :=
  con_I (by decide +kernel) rfl (Nat.le_of_ble_eq_true rfl) (c1s_r (c1s_i c1s_0 (Nat.le_of_ble_eq_true rfl)) (Nat.le_of_ble_eq_true rfl)).1 ⟨rfl, rfl⟩ hI TnA (fun K H0 k hret => t_Wa_valueOf_0 k r_x1 hf hret)
abbrev rm_Wa_bindIfFree : Room := { frames := 1, cells := 0, slots := 0, locals := 24 }
noncomputable def f_Wa_bindIfFree (w : World) (x1 : Int) (x2 : Int) : Option World :=
  bl (wr ((-1) - x1)) fun n1 => if n1 < 0 then (some w) else (if 8 ≤ n1 then (some w) else (gd (0 ≤ n1 ∧ n1 < 8) (if (w 104 n1.toNat) = (-1) then (gd (0 ≤ n1 ∧ n1 < 8) (bl (up w 104 n1.toNat x2) fun w11 => some w11)) else (some w))))
theorem t_Wa_bindIfFree_0 {E : EE} {K : KT} {l : Launch} {H0 : Heap} (k : Kof TA E K l cX9_bindIfFree RX9 rm_Wa_bindIfFree) {w : World} {x1 : Int} {x2 : Int} {o3 : Option Value} (r_x1 : R32 x1) (r_x2 : R32 x2) {out : World} (hf : f_Wa_bindIfFree w x1 x2 = some out) (hc : (fun out : World => RetV TA E K H0 cX9_bindIfFree out) out) : Jj K (WdT TA E H0) w 0 [some (rf E.ad 103), some (.int (ii x1)), some (.int (ii x2)), o3] [] := by
  unfold f_Wa_bindIfFree at hf
  have o := k.1
  have g := k.2.1
  have kr := k.2.2.1
  refine J_iconst o dX9_bindIfFree_0 ?_
  refine J_iload_n o dX9_bindIfFree_1 rfl ?_
  refine J_isub o dX9_bindIfFree_2 ?_
  refine J_istore_n o dX9_bindIfFree_3 (Nat.le_of_ble_eq_true rfl) ?_
  have hf := bl_out hf
  refine J_iload_n o dX9_bindIfFree_4 rfl ?_
  refine J_if_lt 34 o dX9_bindIfFree_5 (by decide) (R_wr _) (fun c2 => ?_) (fun c3 => ?_)
  · have hf := ite_t c2 hf
    have hf := some_inj hf
    subst hf
    exact hc _ _  dX9_bindIfFree_34
  · have hf := ite_f c3 hf
    refine J_iload_n o dX9_bindIfFree_8 rfl ?_
    refine J_aload_n o dX9_bindIfFree_9 rfl ?_
    refine J_getF (true, 104) o g dX9_bindIfFree_10 flX9_9 kA_103 rfl rfl rfl ?_
    refine J_alen o g dX9_bindIfFree_13 kA_104 ⟨by decide, by decide⟩ zA_104 ?_
    refine J_icmp_ge 34 o dX9_bindIfFree_14 (by decide) (R_wr _) rl8 (fun c4 => ?_) (fun c5 => ?_)
    · have hf := ite_t c4 hf
      have hf := some_inj hf
      subst hf
      exact hc _ _  dX9_bindIfFree_34
    · have hf := ite_f c5 hf
      refine J_aload_n o dX9_bindIfFree_17 rfl ?_
      refine J_getF (true, 104) o g dX9_bindIfFree_18 flX9_9 kA_103 rfl rfl rfl ?_
      refine J_iload_n o dX9_bindIfFree_21 rfl ?_
      obtain ⟨g6, hf⟩ := gd_some hf
      refine J_iald o g dX9_bindIfFree_22 kA_104 (R_wr _) zA_104 g6 (fun q7 => ?_)
      refine J_iconst o dX9_bindIfFree_23 ?_
      refine J_icmp_ne 34 o dX9_bindIfFree_24 (by decide) q7 rlm1 (fun c8 => ?_) (fun c9 => ?_)
      · have hf := ite_f c8 hf
        have hf := some_inj hf
        subst hf
        exact hc _ _  dX9_bindIfFree_34
      · have hf := ite_t c9 hf
        refine J_aload_n o dX9_bindIfFree_27 rfl ?_
        refine J_getF (true, 104) o g dX9_bindIfFree_28 flX9_9 kA_103 rfl rfl rfl ?_
        refine J_iload_n o dX9_bindIfFree_31 rfl ?_
        refine J_iload_n o dX9_bindIfFree_32 rfl ?_
        obtain ⟨g10, hf⟩ := gd_some hf
        refine J_iast o g dX9_bindIfFree_33 kA_104 (fxA_40 _) (R_wr _) zA_104 g10 r_x2 ?_
        have hf := bl_out hf
        have hf := some_inj hf
        subst hf
        exact hc _ _  dX9_bindIfFree_34
theorem c_Wa_bindIfFree {E : EE} {l : Launch} (hI : Inj TA E) {w : World} {x1 : Int} {x2 : Int} (r_x1 : R32 x1) (r_x2 : R32 x2) {out : World} (hf : f_Wa_bindIfFree w x1 x2 = some out) : ConV TA E l yX9_bindIfFree (WS yX9_bindIfFree cX9_bindIfFree 4 none) rm_Wa_bindIfFree [rf E.ad 103, .int (ii x1), .int (ii x2)] w out :=
  con_V (by decide +kernel) rfl (Nat.le_of_ble_eq_true rfl) (c1s_r (c1s_i (c1s_i c1s_0 (Nat.le_of_ble_eq_true rfl)) (Nat.le_of_ble_eq_true rfl)) (Nat.le_of_ble_eq_true rfl)).1 ⟨rfl, rfl⟩ hI TnA (fun K H0 k hret => t_Wa_bindIfFree_0 k r_x1 r_x2 hf hret)
abbrev rm_Dm_variableBit : Room := { frames := 1, cells := 0, slots := 0, locals := 24 }
noncomputable def f_Dm_variableBit (x0 : Int) : Option Int :=
  if 0 ≤ x0 then (some 0) else (if x0 < (-8) then (some 0) else (some (ishl 1 (wr ((-1) - x0)))))
theorem t_Dm_variableBit_0 {E : EE} {K : KT} {l : Launch} {H0 : Heap} (k : Kof TA E K l cX10_variableBit RX10 rm_Dm_variableBit) {w0 : World} {x0 : Int} (r_x0 : R32 x0) {out : Int} (hf : f_Dm_variableBit x0 = some out) (hc : (fun out : Int => RetI TA E K H0 cX10_variableBit w0 out) out) : Jj K (WdT TA E H0) w0 0 [some (.int (ii x0))] [] := by
  unfold f_Dm_variableBit at hf
  have o := k.1
  have g := k.2.1
  have kr := k.2.2.1
  refine J_iload_n o dX10_variableBit_0 rfl ?_
  refine J_if_ge 18 o dX10_variableBit_1 (by decide) r_x0 (fun c1 => ?_) (fun c2 => ?_)
  · have hf := ite_t c1 hf
    refine J_iconst o dX10_variableBit_18 ?_
    have hf := some_inj hf
    subst hf
    exact hc _ _ rl0 dX10_variableBit_19
  · have hf := ite_f c2 hf
    refine J_iload_n o dX10_variableBit_4 rfl ?_
    refine J_bipush o dX10_variableBit_5 (by decide) ?_
    refine J_icmp_lt 18 o dX10_variableBit_7 (by decide) r_x0 rlm8 (fun c3 => ?_) (fun c4 => ?_)
    · have hf := ite_t c3 hf
      refine J_iconst o dX10_variableBit_18 ?_
      have hf := some_inj hf
      subst hf
      exact hc _ _ rl0 dX10_variableBit_19
    · have hf := ite_f c4 hf
      refine J_iconst o dX10_variableBit_10 ?_
      refine J_iconst o dX10_variableBit_11 ?_
      refine J_iload_n o dX10_variableBit_12 rfl ?_
      refine J_isub o dX10_variableBit_13 ?_
      refine J_ishl o dX10_variableBit_14 ?_
      refine J_goto 19 o dX10_variableBit_15 (by decide) ?_
      have hf := some_inj hf
      subst hf
      exact hc _ _ (R_ishl _ _) dX10_variableBit_19
theorem c_Dm_variableBit {E : EE} {l : Launch} (hI : Inj TA E) {w0 : World} {x0 : Int} (r_x0 : R32 x0) {out : Int} (hf : f_Dm_variableBit x0 = some out) : ConI TA E l yX10_variableBit (WS yX10_variableBit cX10_variableBit 1 (some .int)) rm_Dm_variableBit [.int (ii x0)] w0 w0 out :=
  con_I (by decide +kernel) rfl (Nat.le_of_ble_eq_true rfl) (c1s_i c1s_0 (Nat.le_of_ble_eq_true rfl)).1 ⟨rfl, rfl⟩ hI TnA (fun K H0 k hret => t_Dm_variableBit_0 k r_x0 hf hret)
abbrev rm_Wa_noteBound : Room := { frames := 1, cells := 0, slots := 0, locals := 24 }
noncomputable def f_Wa_noteBound (w : World) (x1 : Int) (x2 : Int) : Option World :=
  if x1 < 0 then (some w) else (if 5 ≤ x1 then (some w) else (gd (0 ≤ x1 ∧ x1 < 5) (bl (up w 106 x1.toNat x2) fun w6 => some w6)))
theorem t_Wa_noteBound_0 {E : EE} {K : KT} {l : Launch} {H0 : Heap} (k : Kof TA E K l cX9_noteBound RX9 rm_Wa_noteBound) {w : World} {x1 : Int} {x2 : Int} (r_x1 : R32 x1) (r_x2 : R32 x2) {out : World} (hf : f_Wa_noteBound w x1 x2 = some out) (hc : (fun out : World => RetV TA E K H0 cX9_noteBound out) out) : Jj K (WdT TA E H0) w 0 [some (rf E.ad 103), some (.int (ii x1)), some (.int (ii x2))] [] := by
  unfold f_Wa_noteBound at hf
  have o := k.1
  have g := k.2.1
  have kr := k.2.2.1
  refine J_iload_n o dX9_noteBound_0 rfl ?_
  refine J_if_lt 20 o dX9_noteBound_1 (by decide) r_x1 (fun c1 => ?_) (fun c2 => ?_)
  · have hf := ite_t c1 hf
    have hf := some_inj hf
    subst hf
    exact hc _ _  dX9_noteBound_20
  · have hf := ite_f c2 hf
    refine J_iload_n o dX9_noteBound_4 rfl ?_
    refine J_aload_n o dX9_noteBound_5 rfl ?_
    refine J_getF (true, 106) o g dX9_noteBound_6 flX9_18 kA_103 rfl rfl rfl ?_
    refine J_alen o g dX9_noteBound_9 kA_106 ⟨by decide, by decide⟩ zA_106 ?_
    refine J_icmp_ge 20 o dX9_noteBound_10 (by decide) r_x1 rl5 (fun c3 => ?_) (fun c4 => ?_)
    · have hf := ite_t c3 hf
      have hf := some_inj hf
      subst hf
      exact hc _ _  dX9_noteBound_20
    · have hf := ite_f c4 hf
      refine J_aload_n o dX9_noteBound_13 rfl ?_
      refine J_getF (true, 106) o g dX9_noteBound_14 flX9_18 kA_103 rfl rfl rfl ?_
      refine J_iload_n o dX9_noteBound_17 rfl ?_
      refine J_iload_n o dX9_noteBound_18 rfl ?_
      obtain ⟨g5, hf⟩ := gd_some hf
      refine J_iast o g dX9_noteBound_19 kA_106 (fxA_40 _) r_x1 zA_106 g5 r_x2 ?_
      have hf := bl_out hf
      have hf := some_inj hf
      subst hf
      exact hc _ _  dX9_noteBound_20
theorem c_Wa_noteBound {E : EE} {l : Launch} (hI : Inj TA E) {w : World} {x1 : Int} {x2 : Int} (r_x1 : R32 x1) (r_x2 : R32 x2) {out : World} (hf : f_Wa_noteBound w x1 x2 = some out) : ConV TA E l yX9_noteBound (WS yX9_noteBound cX9_noteBound 3 none) rm_Wa_noteBound [rf E.ad 103, .int (ii x1), .int (ii x2)] w out :=
  con_V (by decide +kernel) rfl (Nat.le_of_ble_eq_true rfl) (c1s_r (c1s_i (c1s_i c1s_0 (Nat.le_of_ble_eq_true rfl)) (Nat.le_of_ble_eq_true rfl)) (Nat.le_of_ble_eq_true rfl)).1 ⟨rfl, rfl⟩ hI TnA (fun K H0 k hret => t_Wa_noteBound_0 k r_x1 r_x2 hf hret)
abbrev rm_Wa_fits : Room := { frames := 2, cells := 0, slots := 0, locals := 47 }
def HW_Wa_fits_6 (E : EE) (K : KT) (H0 : Heap) (x1 : Int) (x2 : Int) (x3 : Int) : (World × Int × Int) → Prop := fun z => R32 z.2.1 → R32 z.2.2 → ∀ o6 o7 o8 : Option Value, Jj K (WdT TA E H0) z.1 6 [some (rf E.ad 103), some (.int (ii x1)), some (.int (ii x2)), some (.int (ii x3)), some (.int (ii z.2.1)), some (.int (ii z.2.2)), o6, o7, o8] []
noncomputable def f_Wa_fits_82 (w : World) (x1 : Int) (x2 : Int) (x3 : Int) (x4 : Int) (x5 : Int) : Option ((World × Int × Int) ⊕ (World × Int)) :=
  bl (wr (x5 + 1)) fun n1 => some (Sum.inl (w, x4, n1))
theorem t_Wa_fits_82 {E : EE} {K : KT} {l : Launch} {H0 : Heap} (k : Kof TA E K l cX9_fits RX9 rm_Wa_fits) {w : World} {x1 : Int} {x2 : Int} {x3 : Int} {x4 : Int} {x5 : Int} {o6 o7 o8 : Option Value} (r_x1 : R32 x1) (r_x2 : R32 x2) (r_x3 : R32 x3) (r_x4 : R32 x4) (r_x5 : R32 x5) {out : ((World × Int × Int) ⊕ (World × Int))} (hf : f_Wa_fits_82 w x1 x2 x3 x4 x5 = some out) (hc : (Sum.elim (HW_Wa_fits_6 E K H0 x1 x2 x3) (fun out : (World × Int) => RetZ TA E K H0 cX9_fits out.1 out.2)) out) : Jj K (WdT TA E H0) w 82 [some (rf E.ad 103), some (.int (ii x1)), some (.int (ii x2)), some (.int (ii x3)), some (.int (ii x4)), some (.int (ii x5)), o6, o7, o8] [] := by
  unfold f_Wa_fits_82 at hf
  have o := k.1
  have g := k.2.1
  have kr := k.2.2.1
  have hf := bl_out hf
  refine J_iinc o dX9_fits_82 rfl ?_
  refine J_goto 6 o dX9_fits_85 (by decide) ?_
  have hf := some_inj hf
  subst hf
  exact hc r_x4 (R_wr _) _ _ _
noncomputable def f_Wa_fits_6B (w : World) (x1 : Int) (x2 : Int) (x3 : Int) (x4 : Int) (x5 : Int) : Option ((World × Int × Int) ⊕ (World × Int)) :=
  if x2 ≤ x5 then (bnd (f_Wa_noteBound w x1 x4) fun v4 => some (Sum.inr (v4, 1))) else (gd (kdA ((w 103 1).toNat) = 1) (bnd (f_Bo_termOf w ((w 103 1).toNat) x1 x5) fun v8 => bnd (f_Dm_columnOf x3 x5) fun v11 => bnd (f_Wa_valueOf w v8) fun v14 => if v14 = (-1) then (bnd (f_Wa_bindIfFree w v8 v11) fun v24 => bnd (f_Dm_variableBit v8) fun v27 => bl (ior x4 v27) fun n29 => f_Wa_fits_82 v24 x1 x2 x3 n29 x5) else (if v14 = v11 then (f_Wa_fits_82 w x1 x2 x3 x4 x5) else (bnd (f_Wa_unbind w x4) fun v21 => some (Sum.inr (v21, 0))))))
theorem t_Wa_fits_6B {E : EE} {K : KT} {l : Launch} {H0 : Heap} (k : Kof TA E K l cX9_fits RX9 rm_Wa_fits) {w : World} {x1 : Int} {x2 : Int} {x3 : Int} {x4 : Int} {x5 : Int} {o6 o7 o8 : Option Value} (r_x1 : R32 x1) (r_x2 : R32 x2) (r_x3 : R32 x3) (r_x4 : R32 x4) (r_x5 : R32 x5) {out : ((World × Int × Int) ⊕ (World × Int))} (hf : f_Wa_fits_6B w x1 x2 x3 x4 x5 = some out) (hc : (Sum.elim (HW_Wa_fits_6 E K H0 x1 x2 x3) (fun out : (World × Int) => RetZ TA E K H0 cX9_fits out.1 out.2)) out) : Jj K (WdT TA E H0) w 6 [some (rf E.ad 103), some (.int (ii x1)), some (.int (ii x2)), some (.int (ii x3)), some (.int (ii x4)), some (.int (ii x5)), o6, o7, o8] [] := by
  unfold f_Wa_fits_6B at hf
  have o := k.1
  have g := k.2.1
  have kr := k.2.2.1
  refine J_iload o dX9_fits_6 rfl ?_
  refine J_iload_n o dX9_fits_8 rfl ?_
  refine J_icmp_ge 88 o dX9_fits_9 (by decide) r_x5 r_x2 (fun c1 => ?_) (fun c2 => ?_)
  · have hf := ite_t c1 hf
    refine J_aload_n o dX9_fits_88 rfl ?_
    refine J_iload_n o dX9_fits_89 rfl ?_
    refine J_iload o dX9_fits_90 rfl ?_
    obtain ⟨v4, e3, hf⟩ := bnd_some hf
    refine J_vV o g kr dX9_fits_92 lkX9_118 ml_Wa_noteBound vl_Wa_noteBound ⟨rfl, rfl, Nat.le_of_ble_eq_true rfl, Nat.le_of_ble_eq_true rfl⟩ (c_Wa_noteBound g.2.1 r_x1 r_x4 e3) kA_103 rfl ⟨by decide, by decide⟩ rfl rfl c1s_0 ?_
    refine J_iconst o dX9_fits_95 ?_
    have hf := some_inj hf
    subst hf
    exact hc _ _ (Or.inr rfl) dX9_fits_96
  · have hf := ite_f c2 hf
    refine J_aload_n o dX9_fits_12 rfl ?_
    refine J_getR o g dX9_fits_13 flX9_25 kA_103 rfl ?_
    refine J_iload_n o dX9_fits_16 rfl ?_
    refine J_iload o dX9_fits_17 rfl ?_
    obtain ⟨g6, hf⟩ := gd_some hf
    obtain ⟨v8, e7, hf⟩ := bnd_some hf
    refine J_vI o g kr dX9_fits_19 lkX9_54 ml_Bo_termOf vl_Bo_termOf ⟨rfl, rfl, Nat.le_of_ble_eq_true rfl, Nat.le_of_ble_eq_true rfl⟩ (c_Bo_termOf g.2.1 g6 r_x1 r_x5 e7) g6 rfl ⟨by decide, by decide⟩ rfl rfl c1s_0 (fun q9 => ?_)
    refine J_istore o dX9_fits_22 (Nat.le_of_ble_eq_true rfl) ?_
    refine J_iload_n o dX9_fits_24 rfl ?_
    refine J_iload o dX9_fits_25 rfl ?_
    obtain ⟨v11, e10, hf⟩ := bnd_some hf
    refine J_sI o g kr dX9_fits_27 lkX9_60 ml_Dm_columnOf mw767 ⟨rfl, rfl, Nat.le_of_ble_eq_true rfl, Nat.le_of_ble_eq_true rfl⟩ (c_Dm_columnOf g.2.1 r_x3 r_x5 e10) rfl rfl c1s_0 (fun q12 => ?_)
    refine J_istore o dX9_fits_30 (Nat.le_of_ble_eq_true rfl) ?_
    refine J_aload_n o dX9_fits_32 rfl ?_
    refine J_iload o dX9_fits_33 rfl ?_
    obtain ⟨v14, e13, hf⟩ := bnd_some hf
    refine J_vI o g kr dX9_fits_35 lkX9_67 ml_Wa_valueOf vl_Wa_valueOf ⟨rfl, rfl, Nat.le_of_ble_eq_true rfl, Nat.le_of_ble_eq_true rfl⟩ (c_Wa_valueOf g.2.1 q9 e13) kA_103 rfl ⟨by decide, by decide⟩ rfl rfl c1s_0 (fun q15 => ?_)
    refine J_istore o dX9_fits_38 (Nat.le_of_ble_eq_true rfl) ?_
    refine J_iload o dX9_fits_40 rfl ?_
    refine J_iconst o dX9_fits_42 ?_
    refine J_icmp_ne 67 o dX9_fits_43 (by decide) q15 rlm1 (fun c16 => ?_) (fun c17 => ?_)
    · have hf := ite_f c16 hf
      refine J_iload o dX9_fits_67 rfl ?_
      refine J_iload o dX9_fits_69 rfl ?_
      refine J_icmp_eq 82 o dX9_fits_71 (by decide) q15 q12 (fun c18 => ?_) (fun c19 => ?_)
      · have hf := ite_t c18 hf
        exact t_Wa_fits_82 k r_x1 r_x2 r_x3 r_x4 r_x5 hf hc
      · have hf := ite_f c19 hf
        refine J_aload_n o dX9_fits_74 rfl ?_
        refine J_iload o dX9_fits_75 rfl ?_
        obtain ⟨v21, e20, hf⟩ := bnd_some hf
        refine J_vV o g kr dX9_fits_77 lkX9_47 ml_Wa_unbind vl_Wa_unbind ⟨rfl, rfl, Nat.le_of_ble_eq_true rfl, Nat.le_of_ble_eq_true rfl⟩ (c_Wa_unbind g.2.1 r_x4 e20) kA_103 rfl ⟨by decide, by decide⟩ rfl rfl c1s_0 ?_
        refine J_iconst o dX9_fits_80 ?_
        have hf := some_inj hf
        subst hf
        exact hc _ _ (Or.inl rfl) dX9_fits_81
    · have hf := ite_t c17 hf
      refine J_aload_n o dX9_fits_46 rfl ?_
      refine J_iload o dX9_fits_47 rfl ?_
      refine J_iload o dX9_fits_49 rfl ?_
      obtain ⟨v24, e23, hf⟩ := bnd_some hf
      refine J_vV o g kr dX9_fits_51 lkX9_63 ml_Wa_bindIfFree vl_Wa_bindIfFree ⟨rfl, rfl, Nat.le_of_ble_eq_true rfl, Nat.le_of_ble_eq_true rfl⟩ (c_Wa_bindIfFree g.2.1 q9 q12 e23) kA_103 rfl ⟨by decide, by decide⟩ rfl rfl c1s_0 ?_
      refine J_iload o dX9_fits_54 rfl ?_
      refine J_iload o dX9_fits_56 rfl ?_
      obtain ⟨v27, e26, hf⟩ := bnd_some hf
      refine J_sI o g kr dX9_fits_58 lkX9_115 ml_Dm_variableBit mw778 ⟨rfl, rfl, Nat.le_of_ble_eq_true rfl, Nat.le_of_ble_eq_true rfl⟩ (c_Dm_variableBit g.2.1 q9 e26) rfl rfl (c1s_i c1s_0 (Nat.le_of_ble_eq_true rfl)) (fun q28 => ?_)
      refine J_ior o dX9_fits_61 ?_
      refine J_istore o dX9_fits_62 (Nat.le_of_ble_eq_true rfl) ?_
      have hf := bl_out hf
      refine J_goto 82 o dX9_fits_64 (by decide) ?_
      exact t_Wa_fits_82 k r_x1 r_x2 r_x3 (R_ior _ _) r_x5 hf hc
noncomputable def f_Wa_fits_6 (w : World) (x1 : Int) (x2 : Int) (x3 : Int) (x4 : Int) (x5 : Int) : Option (World × Int) :=
  lp (fun z : (World × Int × Int) => f_Wa_fits_6B z.1 x1 x2 x3 z.2.1 z.2.2) (w, x4, x5)
theorem t_Wa_fits_6 {E : EE} {K : KT} {l : Launch} {H0 : Heap} (k : Kof TA E K l cX9_fits RX9 rm_Wa_fits) {w : World} {x1 : Int} {x2 : Int} {x3 : Int} {x4 : Int} {x5 : Int} (r_x1 : R32 x1) (r_x2 : R32 x2) (r_x3 : R32 x3) {out : (World × Int)} (hf : f_Wa_fits_6 w x1 x2 x3 x4 x5 = some out) (hc : (fun out : (World × Int) => RetZ TA E K H0 cX9_fits out.1 out.2) out) : HW_Wa_fits_6 E K H0 x1 x2 x3 (w, x4, x5) := by
  unfold f_Wa_fits_6 at hf
  refine lp_ind (P := HW_Wa_fits_6 E K H0 x1 x2 x3) hf ?_
  intro z o hs h1 h2
  intro r_x4 r_x5
  intro o6 o7 o8
  refine t_Wa_fits_6B k r_x1 r_x2 r_x3 r_x4 r_x5 hs ?_
  cases o with
  | inl z' => exact h1 z' rfl
  | inr r' => rw [h2 r' rfl]; exact hc
noncomputable def f_Wa_fits (w : World) (x1 : Int) (x2 : Int) (x3 : Int) : Option (World × Int) :=
  f_Wa_fits_6 w x1 x2 x3 0 0
theorem t_Wa_fits_0 {E : EE} {K : KT} {l : Launch} {H0 : Heap} (k : Kof TA E K l cX9_fits RX9 rm_Wa_fits) {w : World} {x1 : Int} {x2 : Int} {x3 : Int} {o4 o5 o6 o7 o8 : Option Value} (r_x1 : R32 x1) (r_x2 : R32 x2) (r_x3 : R32 x3) {out : (World × Int)} (hf : f_Wa_fits w x1 x2 x3 = some out) (hc : (fun out : (World × Int) => RetZ TA E K H0 cX9_fits out.1 out.2) out) : Jj K (WdT TA E H0) w 0 [some (rf E.ad 103), some (.int (ii x1)), some (.int (ii x2)), some (.int (ii x3)), o4, o5, o6, o7, o8] [] := by
  unfold f_Wa_fits at hf
  have o := k.1
  have g := k.2.1
  have kr := k.2.2.1
  refine J_iconst o dX9_fits_0 ?_
  refine J_istore o dX9_fits_1 (Nat.le_of_ble_eq_true rfl) ?_
  refine J_iconst o dX9_fits_3 ?_
  refine J_istore o dX9_fits_4 (Nat.le_of_ble_eq_true rfl) ?_
  exact (t_Wa_fits_6 k r_x1 r_x2 r_x3 hf hc) rl0 rl0 _ _ _
theorem c_Wa_fits {E : EE} {l : Launch} (hI : Inj TA E) {w : World} {x1 : Int} {x2 : Int} {x3 : Int} (r_x1 : R32 x1) (r_x2 : R32 x2) (r_x3 : R32 x3) {out : (World × Int)} (hf : f_Wa_fits w x1 x2 x3 = some out) : ConI TA E l yX9_fits (WS yX9_fits cX9_fits 9 (some .boolean)) rm_Wa_fits [rf E.ad 103, .int (ii x1), .int (ii x2), .int (ii x3)] w out.1 out.2 :=
  con_Z (by decide +kernel) rfl (Nat.le_of_ble_eq_true rfl) (c1s_r (c1s_i (c1s_i (c1s_i c1s_0 (Nat.le_of_ble_eq_true rfl)) (Nat.le_of_ble_eq_true rfl)) (Nat.le_of_ble_eq_true rfl)) (Nat.le_of_ble_eq_true rfl)).1 ⟨rfl, rfl⟩ hI TnA (fun K H0 k hret => t_Wa_fits_0 k r_x1 r_x2 r_x3 hf hret)
abbrev rm_Wa_takesTuple : Room := { frames := 3, cells := 0, slots := 0, locals := 75 }
def HW_Wa_takesTuple_82 (E : EE) (K : KT) (H0 : Heap) (x1 : Int) (x4 : Int) : (World × Int × Int) → Prop := fun z => R32 z.2.1 → R32 z.2.2 → ∀ o2 : Option Value, Jj K (WdT TA E H0) z.1 82 [some (rf E.ad 103), some (.int (ii x1)), o2, some (.int (ii z.2.1)), some (.int (ii x4)), some (.int (ii z.2.2))] []
noncomputable def f_Wa_takesTuple_130 (w : World) (x1 : Int) (x3 : Int) (x4 : Int) (x5 : Int) : Option ((World × Int × Int) ⊕ (World × Int)) :=
  gd (kdA ((w 103 2).toNat) = 6) (bnd (f_Mo_nextOf w ((w 103 2).toNat) x3) fun v3 => bl (wr (x5 + 1)) fun n5 => some (Sum.inl (w, v3, n5)))
theorem t_Wa_takesTuple_130 {E : EE} {K : KT} {l : Launch} {H0 : Heap} (k : Kof TA E K l cX9_takesTuple RX9 rm_Wa_takesTuple) {w : World} {x1 : Int} {x3 : Int} {x4 : Int} {x5 : Int} {o2 : Option Value} (r_x1 : R32 x1) (r_x3 : R32 x3) (r_x4 : R32 x4) (r_x5 : R32 x5) {out : ((World × Int × Int) ⊕ (World × Int))} (hf : f_Wa_takesTuple_130 w x1 x3 x4 x5 = some out) (hc : (Sum.elim (HW_Wa_takesTuple_82 E K H0 x1 x4) (fun out : (World × Int) => RetZ TA E K H0 cX9_takesTuple out.1 out.2)) out) : Jj K (WdT TA E H0) w 130 [some (rf E.ad 103), some (.int (ii x1)), o2, some (.int (ii x3)), some (.int (ii x4)), some (.int (ii x5))] [] := by
  unfold f_Wa_takesTuple_130 at hf
  have o := k.1
  have g := k.2.1
  have kr := k.2.2.1
  refine J_aload_n o dX9_takesTuple_130 rfl ?_
  refine J_getR o g dX9_takesTuple_131 flX9_29 kA_103 rfl ?_
  refine J_iload_n o dX9_takesTuple_134 rfl ?_
  obtain ⟨g1, hf⟩ := gd_some hf
  obtain ⟨v3, e2, hf⟩ := bnd_some hf
  refine J_vI o g kr dX9_takesTuple_135 lkX9_93 ml_Mo_nextOf vl_Mo_nextOf ⟨rfl, rfl, Nat.le_of_ble_eq_true rfl, Nat.le_of_ble_eq_true rfl⟩ (c_Mo_nextOf g.2.1 g1 r_x3 e2) g1 rfl ⟨by decide, by decide⟩ rfl rfl c1s_0 (fun q4 => ?_)
  refine J_istore_n o dX9_takesTuple_138 (Nat.le_of_ble_eq_true rfl) ?_
  have hf := bl_out hf
  refine J_iinc o dX9_takesTuple_139 rfl ?_
  refine J_goto 82 o dX9_takesTuple_142 (by decide) ?_
  have hf := some_inj hf
  subst hf
  exact hc q4 (R_wr _) _
noncomputable def f_Wa_takesTuple_82B (w : World) (x1 : Int) (x3 : Int) (x4 : Int) (x5 : Int) : Option ((World × Int × Int) ⊕ (World × Int)) :=
  if 48 ≤ x5 then (some (Sum.inr (w, 0))) else (if x3 = (-1) then (some (Sum.inr (w, 0))) else (bnd (f_Wa_isTimely w x1 x3) fun v6 => if v6 = 0 then (f_Wa_takesTuple_130 w x1 x3 x4 x5) else (gd (kdA ((w 103 2).toNat) = 6) (bnd (f_Mo_codeOf w ((w 103 2).toNat) x3) fun v12 => bnd (f_Wa_fits w x1 x4 v12) fun v15 => if v15.2 = 0 then (f_Wa_takesTuple_130 v15.1 x1 x3 x4 x5) else (gd (0 ≤ x1 ∧ x1 < 5) (bl (up v15.1 105 x1.toNat x3) fun w20 => some (Sum.inr (w20, 1))))))))
theorem t_Wa_takesTuple_82B {E : EE} {K : KT} {l : Launch} {H0 : Heap} (k : Kof TA E K l cX9_takesTuple RX9 rm_Wa_takesTuple) {w : World} {x1 : Int} {x3 : Int} {x4 : Int} {x5 : Int} {o2 : Option Value} (r_x1 : R32 x1) (r_x3 : R32 x3) (r_x4 : R32 x4) (r_x5 : R32 x5) {out : ((World × Int × Int) ⊕ (World × Int))} (hf : f_Wa_takesTuple_82B w x1 x3 x4 x5 = some out) (hc : (Sum.elim (HW_Wa_takesTuple_82 E K H0 x1 x4) (fun out : (World × Int) => RetZ TA E K H0 cX9_takesTuple out.1 out.2)) out) : Jj K (WdT TA E H0) w 82 [some (rf E.ad 103), some (.int (ii x1)), o2, some (.int (ii x3)), some (.int (ii x4)), some (.int (ii x5))] [] := by
  unfold f_Wa_takesTuple_82B at hf
  have o := k.1
  have g := k.2.1
  have kr := k.2.2.1
  refine J_iload o dX9_takesTuple_82 rfl ?_
  refine J_bipush o dX9_takesTuple_84 (by decide) ?_
  refine J_icmp_ge 145 o dX9_takesTuple_86 (by decide) r_x5 rl48 (fun c1 => ?_) (fun c2 => ?_)
  · have hf := ite_t c1 hf
    refine J_iconst o dX9_takesTuple_145 ?_
    have hf := some_inj hf
    subst hf
    exact hc _ _ (Or.inl rfl) dX9_takesTuple_146
  · have hf := ite_f c2 hf
    refine J_iload_n o dX9_takesTuple_89 rfl ?_
    refine J_iconst o dX9_takesTuple_90 ?_
    refine J_icmp_eq 145 o dX9_takesTuple_91 (by decide) r_x3 rlm1 (fun c3 => ?_) (fun c4 => ?_)
    · have hf := ite_t c3 hf
      refine J_iconst o dX9_takesTuple_145 ?_
      have hf := some_inj hf
      subst hf
      exact hc _ _ (Or.inl rfl) dX9_takesTuple_146
    · have hf := ite_f c4 hf
      refine J_aload_n o dX9_takesTuple_94 rfl ?_
      refine J_iload_n o dX9_takesTuple_95 rfl ?_
      refine J_iload_n o dX9_takesTuple_96 rfl ?_
      obtain ⟨v6, e5, hf⟩ := bnd_some hf
      refine J_vI o g kr dX9_takesTuple_97 lkX9_101 ml_Wa_isTimely vl_Wa_isTimely ⟨rfl, rfl, Nat.le_of_ble_eq_true rfl, Nat.le_of_ble_eq_true rfl⟩ (c_Wa_isTimely g.2.1 r_x1 r_x3 e5) kA_103 rfl ⟨by decide, by decide⟩ rfl rfl c1s_0 (fun q7 => ?_)
      refine J_if_eq 130 o dX9_takesTuple_100 (by decide) q7 (fun c8 => ?_) (fun c9 => ?_)
      · have hf := ite_t c8 hf
        exact t_Wa_takesTuple_130 k r_x1 r_x3 r_x4 r_x5 hf hc
      · have hf := ite_f c9 hf
        refine J_aload_n o dX9_takesTuple_103 rfl ?_
        refine J_iload_n o dX9_takesTuple_104 rfl ?_
        refine J_iload o dX9_takesTuple_105 rfl ?_
        refine J_aload_n o dX9_takesTuple_107 rfl ?_
        refine J_getR o g dX9_takesTuple_108 flX9_29 kA_103 rfl ?_
        refine J_iload_n o dX9_takesTuple_111 rfl ?_
        obtain ⟨g10, hf⟩ := gd_some hf
        obtain ⟨v12, e11, hf⟩ := bnd_some hf
        refine J_vI o g kr dX9_takesTuple_112 lkX9_105 ml_Mo_codeOf vl_Mo_codeOf ⟨rfl, rfl, Nat.le_of_ble_eq_true rfl, Nat.le_of_ble_eq_true rfl⟩ (c_Mo_codeOf g.2.1 g10 r_x3 e11) g10 rfl ⟨by decide, by decide⟩ rfl rfl (c1s_i (c1s_i (c1s_r c1s_0 (Nat.le_of_ble_eq_true rfl)) (Nat.le_of_ble_eq_true rfl)) (Nat.le_of_ble_eq_true rfl)) (fun q13 => ?_)
        obtain ⟨v15, e14, hf⟩ := bnd_some hf
        refine J_vI o g kr dX9_takesTuple_115 lkX9_108 ml_Wa_fits vl_Wa_fits ⟨rfl, rfl, Nat.le_of_ble_eq_true rfl, Nat.le_of_ble_eq_true rfl⟩ (c_Wa_fits g.2.1 r_x1 r_x4 q13 e14) kA_103 rfl ⟨by decide, by decide⟩ rfl rfl c1s_0 (fun q16 => ?_)
        refine J_if_eq 130 o dX9_takesTuple_118 (by decide) q16 (fun c17 => ?_) (fun c18 => ?_)
        · have hf := ite_t c17 hf
          exact t_Wa_takesTuple_130 k r_x1 r_x3 r_x4 r_x5 hf hc
        · have hf := ite_f c18 hf
          refine J_aload_n o dX9_takesTuple_121 rfl ?_
          refine J_getF (true, 105) o g dX9_takesTuple_122 flX9_15 kA_103 rfl rfl rfl ?_
          refine J_iload_n o dX9_takesTuple_125 rfl ?_
          refine J_iload_n o dX9_takesTuple_126 rfl ?_
          obtain ⟨g19, hf⟩ := gd_some hf
          refine J_iast o g dX9_takesTuple_127 kA_105 (fxA_40 _) r_x1 zA_105 g19 r_x3 ?_
          have hf := bl_out hf
          refine J_iconst o dX9_takesTuple_128 ?_
          have hf := some_inj hf
          subst hf
          exact hc _ _ (Or.inr rfl) dX9_takesTuple_129
noncomputable def f_Wa_takesTuple_82 (w : World) (x1 : Int) (x3 : Int) (x4 : Int) (x5 : Int) : Option (World × Int) :=
  lp (fun z : (World × Int × Int) => f_Wa_takesTuple_82B z.1 x1 z.2.1 x4 z.2.2) (w, x3, x5)
theorem t_Wa_takesTuple_82 {E : EE} {K : KT} {l : Launch} {H0 : Heap} (k : Kof TA E K l cX9_takesTuple RX9 rm_Wa_takesTuple) {w : World} {x1 : Int} {x3 : Int} {x4 : Int} {x5 : Int} (r_x1 : R32 x1) (r_x4 : R32 x4) {out : (World × Int)} (hf : f_Wa_takesTuple_82 w x1 x3 x4 x5 = some out) (hc : (fun out : (World × Int) => RetZ TA E K H0 cX9_takesTuple out.1 out.2) out) : HW_Wa_takesTuple_82 E K H0 x1 x4 (w, x3, x5) := by
  unfold f_Wa_takesTuple_82 at hf
  refine lp_ind (P := HW_Wa_takesTuple_82 E K H0 x1 x4) hf ?_
  intro z o hs h1 h2
  intro r_x3 r_x5
  intro o2
  refine t_Wa_takesTuple_82B k r_x1 r_x3 r_x4 r_x5 hs ?_
  cases o with
  | inl z' => exact h1 z' rfl
  | inr r' => rw [h2 r' rfl]; exact hc
noncomputable def f_Wa_takesTuple_69 (w : World) (x1 : Int) (x2 : Int) (x3 : Int) : Option (World × Int) :=
  bnd (f_Sc_columnsOf w x2) fun v2 => f_Wa_takesTuple_82 w x1 x3 v2 0
theorem t_Wa_takesTuple_69 {E : EE} {K : KT} {l : Launch} {H0 : Heap} (k : Kof TA E K l cX9_takesTuple RX9 rm_Wa_takesTuple) {w : World} {x1 : Int} {x2 : Int} {x3 : Int} {o4 o5 : Option Value} (r_x1 : R32 x1) (r_x2 : R32 x2) (r_x3 : R32 x3) {out : (World × Int)} (hf : f_Wa_takesTuple_69 w x1 x2 x3 = some out) (hc : (fun out : (World × Int) => RetZ TA E K H0 cX9_takesTuple out.1 out.2) out) : Jj K (WdT TA E H0) w 69 [some (rf E.ad 103), some (.int (ii x1)), some (.int (ii x2)), some (.int (ii x3)), o4, o5] [] := by
  unfold f_Wa_takesTuple_69 at hf
  have o := k.1
  have g := k.2.1
  have kr := k.2.2.1
  refine J_aload_n o dX9_takesTuple_69 rfl ?_
  refine J_getF (true, 2) o g dX9_takesTuple_70 flX9_21 kA_103 rfl rfl rfl ?_
  refine J_iload_n o dX9_takesTuple_73 rfl ?_
  obtain ⟨v2, e1, hf⟩ := bnd_some hf
  refine J_vI o g kr dX9_takesTuple_74 lkX9_96 ml_Sc_columnsOf vl_Sc_columnsOf ⟨rfl, rfl, Nat.le_of_ble_eq_true rfl, Nat.le_of_ble_eq_true rfl⟩ (c_Sc_columnsOf g.2.1 r_x2 e1) kA_2 rfl ⟨by decide, by decide⟩ rfl rfl c1s_0 (fun q3 => ?_)
  refine J_istore o dX9_takesTuple_77 (Nat.le_of_ble_eq_true rfl) ?_
  refine J_iconst o dX9_takesTuple_79 ?_
  refine J_istore o dX9_takesTuple_80 (Nat.le_of_ble_eq_true rfl) ?_
  exact (t_Wa_takesTuple_82 k r_x1 q3 hf hc) r_x3 rl0 _
noncomputable def f_Wa_takesTuple_51 (w : World) (x1 : Int) (x2 : Int) (s0 : Int) : Option (World × Int) :=
  if (w 103 5) = 0 then (gd (0 ≤ x1 ∧ x1 < 5) (bnd (f_Wa_unbind w (w 106 x1.toNat)) fun v7 => f_Wa_takesTuple_69 v7 x1 x2 s0)) else (f_Wa_takesTuple_69 w x1 x2 s0)
theorem t_Wa_takesTuple_51 {E : EE} {K : KT} {l : Launch} {H0 : Heap} (k : Kof TA E K l cX9_takesTuple RX9 rm_Wa_takesTuple) {w : World} {x1 : Int} {x2 : Int} {s0 : Int} {o3 o4 o5 : Option Value} (r_x1 : R32 x1) (r_x2 : R32 x2) (r_s0 : R32 s0) {out : (World × Int)} (hf : f_Wa_takesTuple_51 w x1 x2 s0 = some out) (hc : (fun out : (World × Int) => RetZ TA E K H0 cX9_takesTuple out.1 out.2) out) : Jj K (WdT TA E H0) w 51 [some (rf E.ad 103), some (.int (ii x1)), some (.int (ii x2)), o3, o4, o5] [.int (ii s0)] := by
  unfold f_Wa_takesTuple_51 at hf
  have o := k.1
  have g := k.2.1
  have kr := k.2.2.1
  refine J_istore_n o dX9_takesTuple_51 (Nat.le_of_ble_eq_true rfl) ?_
  refine J_aload_n o dX9_takesTuple_52 rfl ?_
  refine J_getI o g dX9_takesTuple_53 flX9_43 kA_103 rfl (fun q1 => ?_)
  refine J_if_ne 69 o dX9_takesTuple_56 (by decide) q1 (fun c2 => ?_) (fun c3 => ?_)
  · have hf := ite_f c2 hf
    exact t_Wa_takesTuple_69 k r_x1 r_x2 r_s0 hf hc
  · have hf := ite_t c3 hf
    refine J_aload_n o dX9_takesTuple_59 rfl ?_
    refine J_aload_n o dX9_takesTuple_60 rfl ?_
    refine J_getF (true, 106) o g dX9_takesTuple_61 flX9_18 kA_103 rfl rfl rfl ?_
    refine J_iload_n o dX9_takesTuple_64 rfl ?_
    obtain ⟨g4, hf⟩ := gd_some hf
    refine J_iald o g dX9_takesTuple_65 kA_106 r_x1 zA_106 g4 (fun q5 => ?_)
    obtain ⟨v7, e6, hf⟩ := bnd_some hf
    refine J_vV o g kr dX9_takesTuple_66 lkX9_47 ml_Wa_unbind vl_Wa_unbind ⟨rfl, rfl, Nat.le_of_ble_eq_true rfl, Nat.le_of_ble_eq_true rfl⟩ (c_Wa_unbind g.2.1 q5 e6) kA_103 rfl ⟨by decide, by decide⟩ rfl rfl c1s_0 ?_
    exact t_Wa_takesTuple_69 k r_x1 r_x2 r_s0 hf hc
noncomputable def f_Wa_takesTuple (w : World) (x1 : Int) : Option (World × Int) :=
  gd (kdA ((w 103 1).toNat) = 1) (bnd (f_Bo_subjectOf w ((w 103 1).toNat) x1) fun v3 => if x1 < 0 then (some (w, 0)) else (if x1 < 5 then (if (w 103 5) = 0 then (gd (0 ≤ x1 ∧ x1 < 5) (gd (kdA ((w 103 2).toNat) = 6) (bnd (f_Mo_nextOf w ((w 103 2).toNat) (w 105 x1.toNat)) fun v16 => f_Wa_takesTuple_51 w x1 v3 v16))) else (gd (kdA ((w 103 2).toNat) = 6) (bnd (f_Mo_firstOf w ((w 103 2).toNat) v3) fun v20 => f_Wa_takesTuple_51 w x1 v3 v20))) else (some (w, 0))))
theorem t_Wa_takesTuple_0 {E : EE} {K : KT} {l : Launch} {H0 : Heap} (k : Kof TA E K l cX9_takesTuple RX9 rm_Wa_takesTuple) {w : World} {x1 : Int} {o2 o3 o4 o5 : Option Value} (r_x1 : R32 x1) {out : (World × Int)} (hf : f_Wa_takesTuple w x1 = some out) (hc : (fun out : (World × Int) => RetZ TA E K H0 cX9_takesTuple out.1 out.2) out) : Jj K (WdT TA E H0) w 0 [some (rf E.ad 103), some (.int (ii x1)), o2, o3, o4, o5] [] := by
  unfold f_Wa_takesTuple at hf
  have o := k.1
  have g := k.2.1
  have kr := k.2.2.1
  refine J_aload_n o dX9_takesTuple_0 rfl ?_
  refine J_getR o g dX9_takesTuple_1 flX9_25 kA_103 rfl ?_
  refine J_iload_n o dX9_takesTuple_4 rfl ?_
  obtain ⟨g1, hf⟩ := gd_some hf
  obtain ⟨v3, e2, hf⟩ := bnd_some hf
  refine J_vI o g kr dX9_takesTuple_5 lkX9_85 ml_Bo_subjectOf vl_Bo_subjectOf ⟨rfl, rfl, Nat.le_of_ble_eq_true rfl, Nat.le_of_ble_eq_true rfl⟩ (c_Bo_subjectOf g.2.1 g1 r_x1 e2) g1 rfl ⟨by decide, by decide⟩ rfl rfl c1s_0 (fun q4 => ?_)
  refine J_istore_n o dX9_takesTuple_8 (Nat.le_of_ble_eq_true rfl) ?_
  refine J_iload_n o dX9_takesTuple_9 rfl ?_
  refine J_if_lt 18 o dX9_takesTuple_10 (by decide) r_x1 (fun c5 => ?_) (fun c6 => ?_)
  · have hf := ite_t c5 hf
    refine J_iconst o dX9_takesTuple_18 ?_
    have hf := some_inj hf
    subst hf
    exact hc _ _ (Or.inl rfl) dX9_takesTuple_19
  · have hf := ite_f c6 hf
    refine J_iload_n o dX9_takesTuple_13 rfl ?_
    refine J_iconst o dX9_takesTuple_14 ?_
    refine J_icmp_lt 20 o dX9_takesTuple_15 (by decide) r_x1 rl5 (fun c7 => ?_) (fun c8 => ?_)
    · have hf := ite_t c7 hf
      refine J_aload_n o dX9_takesTuple_20 rfl ?_
      refine J_getI o g dX9_takesTuple_21 flX9_43 kA_103 rfl (fun q9 => ?_)
      refine J_if_eq 38 o dX9_takesTuple_24 (by decide) q9 (fun c10 => ?_) (fun c11 => ?_)
      · have hf := ite_t c10 hf
        refine J_aload_n o dX9_takesTuple_38 rfl ?_
        refine J_getR o g dX9_takesTuple_39 flX9_29 kA_103 rfl ?_
        refine J_aload_n o dX9_takesTuple_42 rfl ?_
        refine J_getF (true, 105) o g dX9_takesTuple_43 flX9_15 kA_103 rfl rfl rfl ?_
        refine J_iload_n o dX9_takesTuple_46 rfl ?_
        obtain ⟨g12, hf⟩ := gd_some hf
        refine J_iald o g dX9_takesTuple_47 kA_105 r_x1 zA_105 g12 (fun q13 => ?_)
        obtain ⟨g14, hf⟩ := gd_some hf
        obtain ⟨v16, e15, hf⟩ := bnd_some hf
        refine J_vI o g kr dX9_takesTuple_48 lkX9_93 ml_Mo_nextOf vl_Mo_nextOf ⟨rfl, rfl, Nat.le_of_ble_eq_true rfl, Nat.le_of_ble_eq_true rfl⟩ (c_Mo_nextOf g.2.1 g14 q13 e15) g14 rfl ⟨by decide, by decide⟩ rfl rfl c1s_0 (fun q17 => ?_)
        exact t_Wa_takesTuple_51 k r_x1 q4 q17 hf hc
      · have hf := ite_f c11 hf
        refine J_aload_n o dX9_takesTuple_27 rfl ?_
        refine J_getR o g dX9_takesTuple_28 flX9_29 kA_103 rfl ?_
        refine J_iload_n o dX9_takesTuple_31 rfl ?_
        obtain ⟨g18, hf⟩ := gd_some hf
        obtain ⟨v20, e19, hf⟩ := bnd_some hf
        refine J_vI o g kr dX9_takesTuple_32 lkX9_88 ml_Mo_firstOf vl_Mo_firstOf ⟨rfl, rfl, Nat.le_of_ble_eq_true rfl, Nat.le_of_ble_eq_true rfl⟩ (c_Mo_firstOf g.2.1 g18 q4 e19) g18 rfl ⟨by decide, by decide⟩ rfl rfl c1s_0 (fun q21 => ?_)
        refine J_goto 51 o dX9_takesTuple_35 (by decide) ?_
        exact t_Wa_takesTuple_51 k r_x1 q4 q21 hf hc
    · have hf := ite_f c8 hf
      refine J_iconst o dX9_takesTuple_18 ?_
      have hf := some_inj hf
      subst hf
      exact hc _ _ (Or.inl rfl) dX9_takesTuple_19
theorem c_Wa_takesTuple {E : EE} {l : Launch} (hI : Inj TA E) {w : World} {x1 : Int} (r_x1 : R32 x1) {out : (World × Int)} (hf : f_Wa_takesTuple w x1 = some out) : ConI TA E l yX9_takesTuple (WS yX9_takesTuple cX9_takesTuple 6 (some .boolean)) rm_Wa_takesTuple [rf E.ad 103, .int (ii x1)] w out.1 out.2 :=
  con_Z (by decide +kernel) rfl (Nat.le_of_ble_eq_true rfl) (c1s_r (c1s_i c1s_0 (Nat.le_of_ble_eq_true rfl)) (Nat.le_of_ble_eq_true rfl)).1 ⟨rfl, rfl⟩ hI TnA (fun K H0 k hret => t_Wa_takesTuple_0 k r_x1 hf hret)
abbrev rm_Wa_boundAt : Room := { frames := 1, cells := 0, slots := 0, locals := 24 }
noncomputable def f_Wa_boundAt (w : World) (x1 : Int) : Option Int :=
  if x1 < 0 then (some 0) else (if 5 ≤ x1 then (some 0) else (gd (0 ≤ x1 ∧ x1 < 5) (some (w 106 x1.toNat))))
theorem t_Wa_boundAt_0 {E : EE} {K : KT} {l : Launch} {H0 : Heap} (k : Kof TA E K l cX9_boundAt RX9 rm_Wa_boundAt) {w : World} {x1 : Int} (r_x1 : R32 x1) {out : Int} (hf : f_Wa_boundAt w x1 = some out) (hc : (fun out : Int => RetI TA E K H0 cX9_boundAt w out) out) : Jj K (WdT TA E H0) w 0 [some (rf E.ad 103), some (.int (ii x1))] [] := by
  unfold f_Wa_boundAt at hf
  have o := k.1
  have g := k.2.1
  have kr := k.2.2.1
  refine J_iload_n o dX9_boundAt_0 rfl ?_
  refine J_if_lt 22 o dX9_boundAt_1 (by decide) r_x1 (fun c1 => ?_) (fun c2 => ?_)
  · have hf := ite_t c1 hf
    refine J_iconst o dX9_boundAt_22 ?_
    have hf := some_inj hf
    subst hf
    exact hc _ _ rl0 dX9_boundAt_23
  · have hf := ite_f c2 hf
    refine J_iload_n o dX9_boundAt_4 rfl ?_
    refine J_aload_n o dX9_boundAt_5 rfl ?_
    refine J_getF (true, 106) o g dX9_boundAt_6 flX9_18 kA_103 rfl rfl rfl ?_
    refine J_alen o g dX9_boundAt_9 kA_106 ⟨by decide, by decide⟩ zA_106 ?_
    refine J_icmp_ge 22 o dX9_boundAt_10 (by decide) r_x1 rl5 (fun c3 => ?_) (fun c4 => ?_)
    · have hf := ite_t c3 hf
      refine J_iconst o dX9_boundAt_22 ?_
      have hf := some_inj hf
      subst hf
      exact hc _ _ rl0 dX9_boundAt_23
    · have hf := ite_f c4 hf
      refine J_aload_n o dX9_boundAt_13 rfl ?_
      refine J_getF (true, 106) o g dX9_boundAt_14 flX9_18 kA_103 rfl rfl rfl ?_
      refine J_iload_n o dX9_boundAt_17 rfl ?_
      obtain ⟨g5, hf⟩ := gd_some hf
      refine J_iald o g dX9_boundAt_18 kA_106 r_x1 zA_106 g5 (fun q6 => ?_)
      refine J_goto 23 o dX9_boundAt_19 (by decide) ?_
      have hf := some_inj hf
      subst hf
      exact hc _ _ q6 dX9_boundAt_23
theorem c_Wa_boundAt {E : EE} {l : Launch} (hI : Inj TA E) {w : World} {x1 : Int} (r_x1 : R32 x1) {out : Int} (hf : f_Wa_boundAt w x1 = some out) : ConI TA E l yX9_boundAt (WS yX9_boundAt cX9_boundAt 2 (some .int)) rm_Wa_boundAt [rf E.ad 103, .int (ii x1)] w w out :=
  con_I (by decide +kernel) rfl (Nat.le_of_ble_eq_true rfl) (c1s_r (c1s_i c1s_0 (Nat.le_of_ble_eq_true rfl)) (Nat.le_of_ble_eq_true rfl)).1 ⟨rfl, rfl⟩ hI TnA (fun K H0 k hret => t_Wa_boundAt_0 k r_x1 hf hret)
abbrev rm_Dm_packed : Room := { frames := 1, cells := 0, slots := 0, locals := 24 }
noncomputable def f_Dm_packed (x0 : Int) (x1 : Int) (x2 : Int) : Option Int :=
  some (ior (ior (ishl x0 14) (ishl x1 7)) x2)
theorem t_Dm_packed_0 {E : EE} {K : KT} {l : Launch} {H0 : Heap} (k : Kof TA E K l cX10_packed RX10 rm_Dm_packed) {w0 : World} {x0 : Int} {x1 : Int} {x2 : Int} (r_x0 : R32 x0) (r_x1 : R32 x1) (r_x2 : R32 x2) {out : Int} (hf : f_Dm_packed x0 x1 x2 = some out) (hc : (fun out : Int => RetI TA E K H0 cX10_packed w0 out) out) : Jj K (WdT TA E H0) w0 0 [some (.int (ii x0)), some (.int (ii x1)), some (.int (ii x2))] [] := by
  unfold f_Dm_packed at hf
  have o := k.1
  have g := k.2.1
  have kr := k.2.2.1
  refine J_iload_n o dX10_packed_0 rfl ?_
  refine J_bipush o dX10_packed_1 (by decide) ?_
  refine J_ishl o dX10_packed_3 ?_
  refine J_iload_n o dX10_packed_4 rfl ?_
  refine J_bipush o dX10_packed_5 (by decide) ?_
  refine J_ishl o dX10_packed_7 ?_
  refine J_ior o dX10_packed_8 ?_
  refine J_iload_n o dX10_packed_9 rfl ?_
  refine J_ior o dX10_packed_10 ?_
  have hf := some_inj hf
  subst hf
  exact hc _ _ (R_ior _ _) dX10_packed_11
theorem c_Dm_packed {E : EE} {l : Launch} (hI : Inj TA E) {w0 : World} {x0 : Int} {x1 : Int} {x2 : Int} (r_x0 : R32 x0) (r_x1 : R32 x1) (r_x2 : R32 x2) {out : Int} (hf : f_Dm_packed x0 x1 x2 = some out) : ConI TA E l yX10_packed (WS yX10_packed cX10_packed 3 (some .int)) rm_Dm_packed [.int (ii x0), .int (ii x1), .int (ii x2)] w0 w0 out :=
  con_I (by decide +kernel) rfl (Nat.le_of_ble_eq_true rfl) (c1s_i (c1s_i (c1s_i c1s_0 (Nat.le_of_ble_eq_true rfl)) (Nat.le_of_ble_eq_true rfl)) (Nat.le_of_ble_eq_true rfl)).1 ⟨rfl, rfl⟩ hI TnA (fun K H0 k hret => t_Dm_packed_0 k r_x0 r_x1 r_x2 hf hret)
abbrev rm_Wa_tuple : Room := { frames := 2, cells := 0, slots := 0, locals := 47 }
noncomputable def f_Wa_tuple (w : World) (x1 : Int) : Option Int :=
  gd (kdA ((w 103 1).toNat) = 1) (bnd (f_Bo_termOf w ((w 103 1).toNat) x1 0) fun v3 => bnd (f_Wa_valueOf w v3) fun v6 => gd (kdA ((w 103 1).toNat) = 1) (bnd (f_Bo_termOf w ((w 103 1).toNat) x1 1) fun v10 => bnd (f_Wa_valueOf w v10) fun v13 => gd (kdA ((w 103 1).toNat) = 1) (bnd (f_Bo_termOf w ((w 103 1).toNat) x1 2) fun v17 => bnd (f_Wa_valueOf w v17) fun v20 => bnd (f_Dm_packed (imax 0 v6) (imax 0 v13) (imax 0 v20)) fun v23 => some v23)))
theorem t_Wa_tuple_0 {E : EE} {K : KT} {l : Launch} {H0 : Heap} (k : Kof TA E K l cX9_tuple RX9 rm_Wa_tuple) {w : World} {x1 : Int} (r_x1 : R32 x1) {out : Int} (hf : f_Wa_tuple w x1 = some out) (hc : (fun out : Int => RetI TA E K H0 cX9_tuple w out) out) : Jj K (WdT TA E H0) w 0 [some (rf E.ad 103), some (.int (ii x1))] [] := by
  unfold f_Wa_tuple at hf
  have o := k.1
  have g := k.2.1
  have kr := k.2.2.1
  refine J_iconst o dX9_tuple_0 ?_
  refine J_aload_n o dX9_tuple_1 rfl ?_
  refine J_aload_n o dX9_tuple_2 rfl ?_
  refine J_getR o g dX9_tuple_3 flX9_25 kA_103 rfl ?_
  refine J_iload_n o dX9_tuple_6 rfl ?_
  refine J_iconst o dX9_tuple_7 ?_
  obtain ⟨g1, hf⟩ := gd_some hf
  obtain ⟨v3, e2, hf⟩ := bnd_some hf
  refine J_vI o g kr dX9_tuple_8 lkX9_54 ml_Bo_termOf vl_Bo_termOf ⟨rfl, rfl, Nat.le_of_ble_eq_true rfl, Nat.le_of_ble_eq_true rfl⟩ (c_Bo_termOf g.2.1 g1 r_x1 rl0 e2) g1 rfl ⟨by decide, by decide⟩ rfl rfl (c1s_r (c1s_i c1s_0 (Nat.le_of_ble_eq_true rfl)) (Nat.le_of_ble_eq_true rfl)) (fun q4 => ?_)
  obtain ⟨v6, e5, hf⟩ := bnd_some hf
  refine J_vI o g kr dX9_tuple_11 lkX9_67 ml_Wa_valueOf vl_Wa_valueOf ⟨rfl, rfl, Nat.le_of_ble_eq_true rfl, Nat.le_of_ble_eq_true rfl⟩ (c_Wa_valueOf g.2.1 q4 e5) kA_103 rfl ⟨by decide, by decide⟩ rfl rfl (c1s_i c1s_0 (Nat.le_of_ble_eq_true rfl)) (fun q7 => ?_)
  refine J_mmax o kr dX9_tuple_14 mw796 mw693 mw129 mw694 ⟨by decide, by decide⟩ rl0 q7 c1s_0 ?_
  refine J_iconst o dX9_tuple_17 ?_
  refine J_aload_n o dX9_tuple_18 rfl ?_
  refine J_aload_n o dX9_tuple_19 rfl ?_
  refine J_getR o g dX9_tuple_20 flX9_25 kA_103 rfl ?_
  refine J_iload_n o dX9_tuple_23 rfl ?_
  refine J_iconst o dX9_tuple_24 ?_
  obtain ⟨g8, hf⟩ := gd_some hf
  obtain ⟨v10, e9, hf⟩ := bnd_some hf
  refine J_vI o g kr dX9_tuple_25 lkX9_54 ml_Bo_termOf vl_Bo_termOf ⟨rfl, rfl, Nat.le_of_ble_eq_true rfl, Nat.le_of_ble_eq_true rfl⟩ (c_Bo_termOf g.2.1 g8 r_x1 rl1 e9) g8 rfl ⟨by decide, by decide⟩ rfl rfl (c1s_r (c1s_i (c1s_i c1s_0 (Nat.le_of_ble_eq_true rfl)) (Nat.le_of_ble_eq_true rfl)) (Nat.le_of_ble_eq_true rfl)) (fun q11 => ?_)
  obtain ⟨v13, e12, hf⟩ := bnd_some hf
  refine J_vI o g kr dX9_tuple_28 lkX9_67 ml_Wa_valueOf vl_Wa_valueOf ⟨rfl, rfl, Nat.le_of_ble_eq_true rfl, Nat.le_of_ble_eq_true rfl⟩ (c_Wa_valueOf g.2.1 q11 e12) kA_103 rfl ⟨by decide, by decide⟩ rfl rfl (c1s_i (c1s_i c1s_0 (Nat.le_of_ble_eq_true rfl)) (Nat.le_of_ble_eq_true rfl)) (fun q14 => ?_)
  refine J_mmax o kr dX9_tuple_31 mw796 mw693 mw129 mw694 ⟨by decide, by decide⟩ rl0 q14 (c1s_i c1s_0 (Nat.le_of_ble_eq_true rfl)) ?_
  refine J_iconst o dX9_tuple_34 ?_
  refine J_aload_n o dX9_tuple_35 rfl ?_
  refine J_aload_n o dX9_tuple_36 rfl ?_
  refine J_getR o g dX9_tuple_37 flX9_25 kA_103 rfl ?_
  refine J_iload_n o dX9_tuple_40 rfl ?_
  refine J_iconst o dX9_tuple_41 ?_
  obtain ⟨g15, hf⟩ := gd_some hf
  obtain ⟨v17, e16, hf⟩ := bnd_some hf
  refine J_vI o g kr dX9_tuple_42 lkX9_54 ml_Bo_termOf vl_Bo_termOf ⟨rfl, rfl, Nat.le_of_ble_eq_true rfl, Nat.le_of_ble_eq_true rfl⟩ (c_Bo_termOf g.2.1 g15 r_x1 rl2 e16) g15 rfl ⟨by decide, by decide⟩ rfl rfl (c1s_r (c1s_i (c1s_i (c1s_i c1s_0 (Nat.le_of_ble_eq_true rfl)) (Nat.le_of_ble_eq_true rfl)) (Nat.le_of_ble_eq_true rfl)) (Nat.le_of_ble_eq_true rfl)) (fun q18 => ?_)
  obtain ⟨v20, e19, hf⟩ := bnd_some hf
  refine J_vI o g kr dX9_tuple_45 lkX9_67 ml_Wa_valueOf vl_Wa_valueOf ⟨rfl, rfl, Nat.le_of_ble_eq_true rfl, Nat.le_of_ble_eq_true rfl⟩ (c_Wa_valueOf g.2.1 q18 e19) kA_103 rfl ⟨by decide, by decide⟩ rfl rfl (c1s_i (c1s_i (c1s_i c1s_0 (Nat.le_of_ble_eq_true rfl)) (Nat.le_of_ble_eq_true rfl)) (Nat.le_of_ble_eq_true rfl)) (fun q21 => ?_)
  refine J_mmax o kr dX9_tuple_48 mw796 mw693 mw129 mw694 ⟨by decide, by decide⟩ rl0 q21 (c1s_i (c1s_i c1s_0 (Nat.le_of_ble_eq_true rfl)) (Nat.le_of_ble_eq_true rfl)) ?_
  obtain ⟨v23, e22, hf⟩ := bnd_some hf
  refine J_sI o g kr dX9_tuple_51 lkX9_141 ml_Dm_packed mw607 ⟨rfl, rfl, Nat.le_of_ble_eq_true rfl, Nat.le_of_ble_eq_true rfl⟩ (c_Dm_packed g.2.1 (R_imax rl0 q7) (R_imax rl0 q14) (R_imax rl0 q21) e22) rfl rfl c1s_0 (fun q24 => ?_)
  have hf := some_inj hf
  subst hf
  exact hc _ _ q24 dX9_tuple_54
theorem c_Wa_tuple {E : EE} {l : Launch} (hI : Inj TA E) {w : World} {x1 : Int} (r_x1 : R32 x1) {out : Int} (hf : f_Wa_tuple w x1 = some out) : ConI TA E l yX9_tuple (WS yX9_tuple cX9_tuple 2 (some .int)) rm_Wa_tuple [rf E.ad 103, .int (ii x1)] w w out :=
  con_I (by decide +kernel) rfl (Nat.le_of_ble_eq_true rfl) (c1s_r (c1s_i c1s_0 (Nat.le_of_ble_eq_true rfl)) (Nat.le_of_ble_eq_true rfl)).1 ⟨rfl, rfl⟩ hI TnA (fun K H0 k hret => t_Wa_tuple_0 k r_x1 hf hret)
abbrev rm_Sc_tellingBits : Room := { frames := 1, cells := 0, slots := 0, locals := 24 }
noncomputable def f_Sc_tellingBits (w : World) (x1 : Int) : Option Int :=
  if x1 < 0 then (some (-1)) else (if 10 ≤ x1 then (some (-1)) else (gd (0 ≤ x1 ∧ x1 < 10) (some (w 6 x1.toNat))))
theorem t_Sc_tellingBits_0 {E : EE} {K : KT} {l : Launch} {H0 : Heap} (k : Kof TA E K l cX8_tellingBits RX8 rm_Sc_tellingBits) {w : World} {x1 : Int} (r_x1 : R32 x1) {out : Int} (hf : f_Sc_tellingBits w x1 = some out) (hc : (fun out : Int => RetI TA E K H0 cX8_tellingBits w out) out) : Jj K (WdT TA E H0) w 0 [some (rf E.ad 2), some (.int (ii x1))] [] := by
  unfold f_Sc_tellingBits at hf
  have o := k.1
  have g := k.2.1
  have kr := k.2.2.1
  refine J_iload_n o dX8_tellingBits_0 rfl ?_
  refine J_if_lt 19 o dX8_tellingBits_1 (by decide) r_x1 (fun c1 => ?_) (fun c2 => ?_)
  · have hf := ite_t c1 hf
    refine J_iconst o dX8_tellingBits_19 ?_
    have hf := some_inj hf
    subst hf
    exact hc _ _ rlm1 dX8_tellingBits_20
  · have hf := ite_f c2 hf
    refine J_iload_n o dX8_tellingBits_4 rfl ?_
    refine J_bipush o dX8_tellingBits_5 (by decide) ?_
    refine J_icmp_ge 19 o dX8_tellingBits_7 (by decide) r_x1 rl10 (fun c3 => ?_) (fun c4 => ?_)
    · have hf := ite_t c3 hf
      refine J_iconst o dX8_tellingBits_19 ?_
      have hf := some_inj hf
      subst hf
      exact hc _ _ rlm1 dX8_tellingBits_20
    · have hf := ite_f c4 hf
      refine J_aload_n o dX8_tellingBits_10 rfl ?_
      refine J_getF (true, 6) o g dX8_tellingBits_11 flX8_21 kA_2 rfl rfl rfl ?_
      refine J_iload_n o dX8_tellingBits_14 rfl ?_
      obtain ⟨g5, hf⟩ := gd_some hf
      refine J_iald o g dX8_tellingBits_15 kA_6 r_x1 zA_6 g5 (fun q6 => ?_)
      refine J_goto 20 o dX8_tellingBits_16 (by decide) ?_
      have hf := some_inj hf
      subst hf
      exact hc _ _ q6 dX8_tellingBits_20
theorem c_Sc_tellingBits {E : EE} {l : Launch} (hI : Inj TA E) {w : World} {x1 : Int} (r_x1 : R32 x1) {out : Int} (hf : f_Sc_tellingBits w x1 = some out) : ConI TA E l yX8_tellingBits (WS yX8_tellingBits cX8_tellingBits 2 (some .int)) rm_Sc_tellingBits [rf E.ad 2, .int (ii x1)] w w out :=
  con_I (by decide +kernel) rfl (Nat.le_of_ble_eq_true rfl) (c1s_r (c1s_i c1s_0 (Nat.le_of_ble_eq_true rfl)) (Nat.le_of_ble_eq_true rfl)).1 ⟨rfl, rfl⟩ hI TnA (fun K H0 k hret => t_Sc_tellingBits_0 k r_x1 hf hret)
abbrev rm_Mo_slotLike : Room := { frames := 2, cells := 0, slots := 0, locals := 45 }
def HW_Mo_slotLike_19 (E : EE) (K : KT) (H0 : Heap) (w : World) (t0 : Nat) (x2 : Int) (x3 : Int) : (Int × Int) → Prop := fun z => R32 z.1 → R32 z.2 → ∀ o1 o6 : Option Value, Jj K (WdT TA E H0) w 19 [some (rf E.ad t0), o1, some (.int (ii x2)), some (.int (ii x3)), some (.int (ii z.1)), some (.int (ii z.2)), o6] []
noncomputable def f_Mo_slotLike_19B (w : World) (t0 : Nat) (x2 : Int) (x3 : Int) (x4 : Int) (x5 : Int) : Option ((Int × Int) ⊕ Int) :=
  if 48 ≤ x5 then (some (Sum.inr (-1))) else (if x4 < 0 then (some (Sum.inr (-1))) else (if 48 ≤ x4 then (some (Sum.inr (-1))) else (gd (0 ≤ x4 ∧ x4 < 48) (bl (wr ((iand (w (t0 + 3) x4.toNat) x3) - (iand x2 x3))) fun n9 => if n9 < 0 then (gd (0 ≤ x4 ∧ x4 < 48) (bl (w (t0 + 2) x4.toNat) fun n14 => bl (wr (x5 + 1)) fun n15 => some (Sum.inl (n14, n15)))) else (if n9 = 0 then (some (Sum.inr x4)) else (some (Sum.inr (-1))))))))
theorem t_Mo_slotLike_19B {E : EE} {K : KT} {l : Launch} {H0 : Heap} (k : Kof TA E K l cX5_slotLike RX5 rm_Mo_slotLike) {w : World} {t0 : Nat} {x2 : Int} {x3 : Int} {x4 : Int} {x5 : Int} {o1 o6 : Option Value} (k_t0 : TA.kd t0 = 6) (r_x2 : R32 x2) (r_x3 : R32 x3) (r_x4 : R32 x4) (r_x5 : R32 x5) {out : ((Int × Int) ⊕ Int)} (hf : f_Mo_slotLike_19B w t0 x2 x3 x4 x5 = some out) (hc : (Sum.elim (HW_Mo_slotLike_19 E K H0 w t0 x2 x3) (fun out : Int => RetI TA E K H0 cX5_slotLike w out)) out) : Jj K (WdT TA E H0) w 19 [some (rf E.ad t0), o1, some (.int (ii x2)), some (.int (ii x3)), some (.int (ii x4)), some (.int (ii x5)), o6] [] := by
  unfold f_Mo_slotLike_19B at hf
  have o := k.1
  have g := k.2.1
  have kr := k.2.2.1
  refine J_iload o dX5_slotLike_19 rfl ?_
  refine J_bipush o dX5_slotLike_21 (by decide) ?_
  refine J_icmp_ge 85 o dX5_slotLike_23 (by decide) r_x5 rl48 (fun c1 => ?_) (fun c2 => ?_)
  · have hf := ite_t c1 hf
    refine J_iconst o dX5_slotLike_85 ?_
    have hf := some_inj hf
    subst hf
    exact hc _ _ rlm1 dX5_slotLike_86
  · have hf := ite_f c2 hf
    refine J_iload o dX5_slotLike_26 rfl ?_
    refine J_if_lt 85 o dX5_slotLike_28 (by decide) r_x4 (fun c3 => ?_) (fun c4 => ?_)
    · have hf := ite_t c3 hf
      refine J_iconst o dX5_slotLike_85 ?_
      have hf := some_inj hf
      subst hf
      exact hc _ _ rlm1 dX5_slotLike_86
    · have hf := ite_f c4 hf
      refine J_iload o dX5_slotLike_31 rfl ?_
      refine J_bipush o dX5_slotLike_33 (by decide) ?_
      refine J_icmp_ge 85 o dX5_slotLike_35 (by decide) r_x4 rl48 (fun c5 => ?_) (fun c6 => ?_)
      · have hf := ite_t c5 hf
        refine J_iconst o dX5_slotLike_85 ?_
        have hf := some_inj hf
        subst hf
        exact hc _ _ rlm1 dX5_slotLike_86
      · have hf := ite_f c6 hf
        refine J_aload_n o dX5_slotLike_38 rfl ?_
        refine J_getF (false, 3) o g dX5_slotLike_39 flX5_18 k_t0 rfl rfl rfl ?_
        refine J_iload o dX5_slotLike_42 rfl ?_
        obtain ⟨g7, hf⟩ := gd_some hf
        refine J_iald o g dX5_slotLike_44 (krA_6_3 k_t0) r_x4 (zrA_6_3 k_t0) g7 (fun q8 => ?_)
        refine J_iload_n o dX5_slotLike_45 rfl ?_
        refine J_iand o dX5_slotLike_46 ?_
        refine J_iload_n o dX5_slotLike_47 rfl ?_
        refine J_iload_n o dX5_slotLike_48 rfl ?_
        refine J_iand o dX5_slotLike_49 ?_
        refine J_isub o dX5_slotLike_50 ?_
        refine J_istore o dX5_slotLike_51 (Nat.le_of_ble_eq_true rfl) ?_
        have hf := bl_out hf
        refine J_iload o dX5_slotLike_53 rfl ?_
        refine J_if_lt 70 o dX5_slotLike_55 (by decide) (R_wr _) (fun c10 => ?_) (fun c11 => ?_)
        · have hf := ite_t c10 hf
          refine J_aload_n o dX5_slotLike_70 rfl ?_
          refine J_getF (false, 2) o g dX5_slotLike_71 flX5_15 k_t0 rfl rfl rfl ?_
          refine J_iload o dX5_slotLike_74 rfl ?_
          obtain ⟨g12, hf⟩ := gd_some hf
          refine J_iald o g dX5_slotLike_76 (krA_6_2 k_t0) r_x4 (zrA_6_2 k_t0) g12 (fun q13 => ?_)
          refine J_istore o dX5_slotLike_77 (Nat.le_of_ble_eq_true rfl) ?_
          have hf := bl_out hf
          have hf := bl_out hf
          refine J_iinc o dX5_slotLike_79 rfl ?_
          refine J_goto 19 o dX5_slotLike_82 (by decide) ?_
          have hf := some_inj hf
          subst hf
          exact hc q13 (R_wr _) _ _
        · have hf := ite_f c11 hf
          refine J_iload o dX5_slotLike_58 rfl ?_
          refine J_if_ne 68 o dX5_slotLike_60 (by decide) (R_wr _) (fun c16 => ?_) (fun c17 => ?_)
          · have hf := ite_f c16 hf
            refine J_iconst o dX5_slotLike_68 ?_
            have hf := some_inj hf
            subst hf
            exact hc _ _ rlm1 dX5_slotLike_69
          · have hf := ite_t c17 hf
            refine J_iload o dX5_slotLike_63 rfl ?_
            refine J_goto 69 o dX5_slotLike_65 (by decide) ?_
            have hf := some_inj hf
            subst hf
            exact hc _ _ r_x4 dX5_slotLike_69
noncomputable def f_Mo_slotLike_19 (w : World) (t0 : Nat) (x2 : Int) (x3 : Int) (x4 : Int) (x5 : Int) : Option Int :=
  lp (fun z : (Int × Int) => f_Mo_slotLike_19B w t0 x2 x3 z.1 z.2) (x4, x5)
theorem t_Mo_slotLike_19 {E : EE} {K : KT} {l : Launch} {H0 : Heap} (k : Kof TA E K l cX5_slotLike RX5 rm_Mo_slotLike) {w : World} {t0 : Nat} {x2 : Int} {x3 : Int} {x4 : Int} {x5 : Int} (k_t0 : TA.kd t0 = 6) (r_x2 : R32 x2) (r_x3 : R32 x3) {out : Int} (hf : f_Mo_slotLike_19 w t0 x2 x3 x4 x5 = some out) (hc : (fun out : Int => RetI TA E K H0 cX5_slotLike w out) out) : HW_Mo_slotLike_19 E K H0 w t0 x2 x3 (x4, x5) := by
  unfold f_Mo_slotLike_19 at hf
  refine lp_ind (P := HW_Mo_slotLike_19 E K H0 w t0 x2 x3) hf ?_
  intro z o hs h1 h2
  intro r_x4 r_x5
  intro o1 o6
  refine t_Mo_slotLike_19B k k_t0 r_x2 r_x3 r_x4 r_x5 hs ?_
  cases o with
  | inl z' => exact h1 z' rfl
  | inr r' => rw [h2 r' rfl]; exact hc
noncomputable def f_Mo_slotLike (w : World) (t0 : Nat) (x1 : Int) (x2 : Int) : Option Int :=
  bnd (f_Sc_tellingBits w x1) fun v2 => bnd (f_Mo_firstOf w t0 x1) fun v5 => f_Mo_slotLike_19 w t0 x2 v2 v5 0
theorem t_Mo_slotLike_0 {E : EE} {K : KT} {l : Launch} {H0 : Heap} (k : Kof TA E K l cX5_slotLike RX5 rm_Mo_slotLike) {w : World} {t0 : Nat} {x1 : Int} {x2 : Int} {o3 o4 o5 o6 : Option Value} (k_t0 : TA.kd t0 = 6) (r_x1 : R32 x1) (r_x2 : R32 x2) {out : Int} (hf : f_Mo_slotLike w t0 x1 x2 = some out) (hc : (fun out : Int => RetI TA E K H0 cX5_slotLike w out) out) : Jj K (WdT TA E H0) w 0 [some (rf E.ad t0), some (.int (ii x1)), some (.int (ii x2)), o3, o4, o5, o6] [] := by
  unfold f_Mo_slotLike at hf
  have o := k.1
  have g := k.2.1
  have kr := k.2.2.1
  refine J_aload_n o dX5_slotLike_0 rfl ?_
  refine J_getF (true, 2) o g dX5_slotLike_1 flX5_24 k_t0 rfl rfl rfl ?_
  refine J_iload_n o dX5_slotLike_4 rfl ?_
  obtain ⟨v2, e1, hf⟩ := bnd_some hf
  refine J_vI o g kr dX5_slotLike_5 lkX5_43 ml_Sc_tellingBits vl_Sc_tellingBits ⟨rfl, rfl, Nat.le_of_ble_eq_true rfl, Nat.le_of_ble_eq_true rfl⟩ (c_Sc_tellingBits g.2.1 r_x1 e1) kA_2 rfl ⟨by decide, by decide⟩ rfl rfl c1s_0 (fun q3 => ?_)
  refine J_istore_n o dX5_slotLike_8 (Nat.le_of_ble_eq_true rfl) ?_
  refine J_aload_n o dX5_slotLike_9 rfl ?_
  refine J_iload_n o dX5_slotLike_10 rfl ?_
  obtain ⟨v5, e4, hf⟩ := bnd_some hf
  refine J_vI o g kr dX5_slotLike_11 lkX5_36 ml_Mo_firstOf vl_Mo_firstOf ⟨rfl, rfl, Nat.le_of_ble_eq_true rfl, Nat.le_of_ble_eq_true rfl⟩ (c_Mo_firstOf g.2.1 k_t0 r_x1 e4) k_t0 rfl ⟨by decide, by decide⟩ rfl rfl c1s_0 (fun q6 => ?_)
  refine J_istore o dX5_slotLike_14 (Nat.le_of_ble_eq_true rfl) ?_
  refine J_iconst o dX5_slotLike_16 ?_
  refine J_istore o dX5_slotLike_17 (Nat.le_of_ble_eq_true rfl) ?_
  exact (t_Mo_slotLike_19 k k_t0 r_x2 q3 hf hc) q6 rl0 _ _
theorem c_Mo_slotLike {E : EE} {l : Launch} (hI : Inj TA E) {w : World} {t0 : Nat} {x1 : Int} {x2 : Int} (k_t0 : TA.kd t0 = 6) (r_x1 : R32 x1) (r_x2 : R32 x2) {out : Int} (hf : f_Mo_slotLike w t0 x1 x2 = some out) : ConI TA E l yX5_slotLike (WS yX5_slotLike cX5_slotLike 7 (some .int)) rm_Mo_slotLike [rf E.ad t0, .int (ii x1), .int (ii x2)] w w out :=
  con_I (by decide +kernel) rfl (Nat.le_of_ble_eq_true rfl) (c1s_r (c1s_i (c1s_i c1s_0 (Nat.le_of_ble_eq_true rfl)) (Nat.le_of_ble_eq_true rfl)) (Nat.le_of_ble_eq_true rfl)).1 ⟨rfl, rfl⟩ hI TnA (fun K H0 k hret => t_Mo_slotLike_0 k k_t0 r_x1 r_x2 hf hret)
abbrev rm_Wa_isSo : Room := { frames := 1, cells := 0, slots := 0, locals := 24 }
noncomputable def f_Wa_isSo_28 (s0 : Int) (s1 : Int) : Option Int :=
  if s0 = s1 then (some 1) else (some 0)
theorem t_Wa_isSo_28 {E : EE} {K : KT} {l : Launch} {H0 : Heap} (k : Kof TA E K l cX9_isSo RX9 rm_Wa_isSo) {w0 : World} {s0 : Int} {s1 : Int} {o0 o1 o2 : Option Value} (r_s0 : R32 s0) (r_s1 : R32 s1) {out : Int} (hf : f_Wa_isSo_28 s0 s1 = some out) (hc : (fun out : Int => RetZ TA E K H0 cX9_isSo w0 out) out) : Jj K (WdT TA E H0) w0 28 [o0, o1, o2] [.int (ii s1), .int (ii s0)] := by
  unfold f_Wa_isSo_28 at hf
  have o := k.1
  have g := k.2.1
  have kr := k.2.2.1
  refine J_icmp_ne 35 o dX9_isSo_28 (by decide) r_s0 r_s1 (fun c1 => ?_) (fun c2 => ?_)
  · have hf := ite_f c1 hf
    refine J_iconst o dX9_isSo_35 ?_
    have hf := some_inj hf
    subst hf
    exact hc _ _ (Or.inl rfl) dX9_isSo_36
  · have hf := ite_t c2 hf
    refine J_iconst o dX9_isSo_31 ?_
    refine J_goto 36 o dX9_isSo_32 (by decide) ?_
    have hf := some_inj hf
    subst hf
    exact hc _ _ (Or.inr rfl) dX9_isSo_36
noncomputable def f_Wa_isSo_19 (x0 : Int) (s0 : Int) : Option Int :=
  if x0 = 0 then (f_Wa_isSo_28 s0 1) else (f_Wa_isSo_28 s0 0)
theorem t_Wa_isSo_19 {E : EE} {K : KT} {l : Launch} {H0 : Heap} (k : Kof TA E K l cX9_isSo RX9 rm_Wa_isSo) {w0 : World} {x0 : Int} {s0 : Int} {o1 o2 : Option Value} (r_x0 : R32 x0) (r_s0 : R32 s0) {out : Int} (hf : f_Wa_isSo_19 x0 s0 = some out) (hc : (fun out : Int => RetZ TA E K H0 cX9_isSo w0 out) out) : Jj K (WdT TA E H0) w0 19 [some (.int (ii x0)), o1, o2] [.int (ii s0)] := by
  unfold f_Wa_isSo_19 at hf
  have o := k.1
  have g := k.2.1
  have kr := k.2.2.1
  refine J_iload_n o dX9_isSo_19 rfl ?_
  refine J_if_ne 27 o dX9_isSo_20 (by decide) r_x0 (fun c1 => ?_) (fun c2 => ?_)
  · have hf := ite_f c1 hf
    refine J_iconst o dX9_isSo_27 ?_
    exact t_Wa_isSo_28 k r_s0 rl0 hf hc
  · have hf := ite_t c2 hf
    refine J_iconst o dX9_isSo_23 ?_
    refine J_goto 28 o dX9_isSo_24 (by decide) ?_
    exact t_Wa_isSo_28 k r_s0 rl1 hf hc
noncomputable def f_Wa_isSo_9 (x0 : Int) (x1 : Int) (x2 : Int) : Option Int :=
  if x1 = x2 then (f_Wa_isSo_19 x0 1) else (f_Wa_isSo_19 x0 0)
theorem t_Wa_isSo_9 {E : EE} {K : KT} {l : Launch} {H0 : Heap} (k : Kof TA E K l cX9_isSo RX9 rm_Wa_isSo) {w0 : World} {x0 : Int} {x1 : Int} {x2 : Int} (r_x0 : R32 x0) (r_x1 : R32 x1) (r_x2 : R32 x2) {out : Int} (hf : f_Wa_isSo_9 x0 x1 x2 = some out) (hc : (fun out : Int => RetZ TA E K H0 cX9_isSo w0 out) out) : Jj K (WdT TA E H0) w0 9 [some (.int (ii x0)), some (.int (ii x1)), some (.int (ii x2))] [] := by
  unfold f_Wa_isSo_9 at hf
  have o := k.1
  have g := k.2.1
  have kr := k.2.2.1
  refine J_iload_n o dX9_isSo_9 rfl ?_
  refine J_iload_n o dX9_isSo_10 rfl ?_
  refine J_icmp_ne 18 o dX9_isSo_11 (by decide) r_x1 r_x2 (fun c1 => ?_) (fun c2 => ?_)
  · have hf := ite_f c1 hf
    refine J_iconst o dX9_isSo_18 ?_
    exact t_Wa_isSo_19 k r_x0 rl0 hf hc
  · have hf := ite_t c2 hf
    refine J_iconst o dX9_isSo_14 ?_
    refine J_goto 19 o dX9_isSo_15 (by decide) ?_
    exact t_Wa_isSo_19 k r_x0 rl1 hf hc
noncomputable def f_Wa_isSo (x0 : Int) (x1 : Int) (x2 : Int) : Option Int :=
  if x0 = 0 then (f_Wa_isSo_9 x0 x1 x2) else (if x0 = 1 then (f_Wa_isSo_9 x0 x1 x2) else (if x0 = 2 then (if x2 ≤ x1 then (some 0) else (some 1)) else (if x2 < x1 then (some 0) else (some 1))))
theorem t_Wa_isSo_0 {E : EE} {K : KT} {l : Launch} {H0 : Heap} (k : Kof TA E K l cX9_isSo RX9 rm_Wa_isSo) {w0 : World} {x0 : Int} {x1 : Int} {x2 : Int} (r_x0 : R32 x0) (r_x1 : R32 x1) (r_x2 : R32 x2) {out : Int} (hf : f_Wa_isSo x0 x1 x2 = some out) (hc : (fun out : Int => RetZ TA E K H0 cX9_isSo w0 out) out) : Jj K (WdT TA E H0) w0 0 [some (.int (ii x0)), some (.int (ii x1)), some (.int (ii x2))] [] := by
  unfold f_Wa_isSo at hf
  have o := k.1
  have g := k.2.1
  have kr := k.2.2.1
  refine J_iload_n o dX9_isSo_0 rfl ?_
  refine J_if_eq 9 o dX9_isSo_1 (by decide) r_x0 (fun c1 => ?_) (fun c2 => ?_)
  · have hf := ite_t c1 hf
    exact t_Wa_isSo_9 k r_x0 r_x1 r_x2 hf hc
  · have hf := ite_f c2 hf
    refine J_iload_n o dX9_isSo_4 rfl ?_
    refine J_iconst o dX9_isSo_5 ?_
    refine J_icmp_ne 37 o dX9_isSo_6 (by decide) r_x0 rl1 (fun c3 => ?_) (fun c4 => ?_)
    · have hf := ite_f c3 hf
      refine J_iload_n o dX9_isSo_37 rfl ?_
      refine J_iconst o dX9_isSo_38 ?_
      refine J_icmp_ne 55 o dX9_isSo_39 (by decide) r_x0 rl2 (fun c5 => ?_) (fun c6 => ?_)
      · have hf := ite_f c5 hf
        refine J_iload_n o dX9_isSo_55 rfl ?_
        refine J_iload_n o dX9_isSo_56 rfl ?_
        refine J_icmp_gt 64 o dX9_isSo_57 (by decide) r_x1 r_x2 (fun c7 => ?_) (fun c8 => ?_)
        · have hf := ite_t c7 hf
          refine J_iconst o dX9_isSo_64 ?_
          have hf := some_inj hf
          subst hf
          exact hc _ _ (Or.inl rfl) dX9_isSo_65
        · have hf := ite_f c8 hf
          refine J_iconst o dX9_isSo_60 ?_
          refine J_goto 65 o dX9_isSo_61 (by decide) ?_
          have hf := some_inj hf
          subst hf
          exact hc _ _ (Or.inr rfl) dX9_isSo_65
      · have hf := ite_t c6 hf
        refine J_iload_n o dX9_isSo_42 rfl ?_
        refine J_iload_n o dX9_isSo_43 rfl ?_
        refine J_icmp_ge 51 o dX9_isSo_44 (by decide) r_x1 r_x2 (fun c9 => ?_) (fun c10 => ?_)
        · have hf := ite_t c9 hf
          refine J_iconst o dX9_isSo_51 ?_
          refine J_goto 65 o dX9_isSo_52 (by decide) ?_
          have hf := some_inj hf
          subst hf
          exact hc _ _ (Or.inl rfl) dX9_isSo_65
        · have hf := ite_f c10 hf
          refine J_iconst o dX9_isSo_47 ?_
          refine J_goto 65 o dX9_isSo_48 (by decide) ?_
          have hf := some_inj hf
          subst hf
          exact hc _ _ (Or.inr rfl) dX9_isSo_65
    · have hf := ite_t c4 hf
      exact t_Wa_isSo_9 k r_x0 r_x1 r_x2 hf hc
theorem c_Wa_isSo {E : EE} {l : Launch} (hI : Inj TA E) {w0 : World} {x0 : Int} {x1 : Int} {x2 : Int} (r_x0 : R32 x0) (r_x1 : R32 x1) (r_x2 : R32 x2) {out : Int} (hf : f_Wa_isSo x0 x1 x2 = some out) : ConI TA E l yX9_isSo (WS yX9_isSo cX9_isSo 3 (some .boolean)) rm_Wa_isSo [.int (ii x0), .int (ii x1), .int (ii x2)] w0 w0 out :=
  con_Z (by decide +kernel) rfl (Nat.le_of_ble_eq_true rfl) (c1s_i (c1s_i (c1s_i c1s_0 (Nat.le_of_ble_eq_true rfl)) (Nat.le_of_ble_eq_true rfl)) (Nat.le_of_ble_eq_true rfl)).1 ⟨rfl, rfl⟩ hI TnA (fun K H0 k hret => t_Wa_isSo_0 k r_x0 r_x1 r_x2 hf hret)
abbrev rm_Wa_passes : Room := { frames := 3, cells := 0, slots := 0, locals := 71 }
noncomputable def f_Wa_passes_197 (w : World) : Option (World × Int) :=
  some (w, 1)
theorem t_Wa_passes_197 {E : EE} {K : KT} {l : Launch} {H0 : Heap} (k : Kof TA E K l cX9_passes RX9 rm_Wa_passes) {w : World} {o0 o1 o2 o3 o4 o5 o6 : Option Value}  {out : (World × Int)} (hf : f_Wa_passes_197 w = some out) (hc : (fun out : (World × Int) => RetZ TA E K H0 cX9_passes out.1 out.2) out) : Jj K (WdT TA E H0) w 197 [o0, o1, o2, o3, o4, o5, o6] [] := by
  unfold f_Wa_passes_197 at hf
  have o := k.1
  have g := k.2.1
  have kr := k.2.2.1
  refine J_iconst o dX9_passes_197 ?_
  refine J_goto 202 o dX9_passes_198 (by decide) ?_
  have hf := some_inj hf
  subst hf
  exact hc _ _ (Or.inr rfl) dX9_passes_202
noncomputable def f_Wa_passes_184 (w : World) (x4 : Int) (x6 : Int) : Option (World × Int) :=
  if x4 = (-1) then (f_Wa_passes_197 w) else (if x4 = x6 then (f_Wa_passes_197 w) else (some (w, 0)))
theorem t_Wa_passes_184 {E : EE} {K : KT} {l : Launch} {H0 : Heap} (k : Kof TA E K l cX9_passes RX9 rm_Wa_passes) {w : World} {x4 : Int} {x6 : Int} {o0 o1 o2 o3 o5 : Option Value} (r_x4 : R32 x4) (r_x6 : R32 x6) {out : (World × Int)} (hf : f_Wa_passes_184 w x4 x6 = some out) (hc : (fun out : (World × Int) => RetZ TA E K H0 cX9_passes out.1 out.2) out) : Jj K (WdT TA E H0) w 184 [o0, o1, o2, o3, some (.int (ii x4)), o5, some (.int (ii x6))] [] := by
  unfold f_Wa_passes_184 at hf
  have o := k.1
  have g := k.2.1
  have kr := k.2.2.1
  refine J_iload o dX9_passes_184 rfl ?_
  refine J_iconst o dX9_passes_186 ?_
  refine J_icmp_eq 197 o dX9_passes_187 (by decide) r_x4 rlm1 (fun c1 => ?_) (fun c2 => ?_)
  · have hf := ite_t c1 hf
    exact t_Wa_passes_197 k  hf hc
  · have hf := ite_f c2 hf
    refine J_iload o dX9_passes_190 rfl ?_
    refine J_iload o dX9_passes_192 rfl ?_
    refine J_icmp_ne 201 o dX9_passes_194 (by decide) r_x4 r_x6 (fun c3 => ?_) (fun c4 => ?_)
    · have hf := ite_f c3 hf
      refine J_iconst o dX9_passes_201 ?_
      have hf := some_inj hf
      subst hf
      exact hc _ _ (Or.inl rfl) dX9_passes_202
    · have hf := ite_t c4 hf
      exact t_Wa_passes_197 k  hf hc
noncomputable def f_Wa_passes_80 (w : World) : Option (World × Int) :=
  some (w, 1)
theorem t_Wa_passes_80 {E : EE} {K : KT} {l : Launch} {H0 : Heap} (k : Kof TA E K l cX9_passes RX9 rm_Wa_passes) {w : World} {o0 o1 o2 o3 o4 o5 o6 : Option Value}  {out : (World × Int)} (hf : f_Wa_passes_80 w = some out) (hc : (fun out : (World × Int) => RetZ TA E K H0 cX9_passes out.1 out.2) out) : Jj K (WdT TA E H0) w 80 [o0, o1, o2, o3, o4, o5, o6] [] := by
  unfold f_Wa_passes_80 at hf
  have o := k.1
  have g := k.2.1
  have kr := k.2.2.1
  refine J_iconst o dX9_passes_80 ?_
  refine J_goto 85 o dX9_passes_81 (by decide) ?_
  have hf := some_inj hf
  subst hf
  exact hc _ _ (Or.inr rfl) dX9_passes_85
noncomputable def f_Wa_passes (w : World) (x1 : Int) : Option (World × Int) :=
  if (w 103 5) = 0 then (bnd (f_Wa_boundAt w x1) fun v79 => bnd (f_Wa_unbind w v79) fun v82 => some (v82, 0)) else (bnd (f_Wa_noteBound w x1 0) fun v5 => gd (kdA ((v5 103 1).toNat) = 1) (bnd (f_Bo_formOf v5 ((v5 103 1).toNat) x1) fun v9 => if v9 = 1 then (gd (kdA ((v5 103 1).toNat) = 1) (bnd (f_Bo_subjectOf v5 ((v5 103 1).toNat) x1) fun v58 => bnd (f_Wa_tuple v5 x1) fun v61 => gd (kdA ((v5 103 2).toNat) = 6) (bnd (f_Mo_slotLike v5 ((v5 103 2).toNat) v58 v61) fun v65 => if v65 = (-1) then (f_Wa_passes_80 v5) else (gd (kdA ((v5 103 2).toNat) = 6) (bnd (f_Mo_codeOf v5 ((v5 103 2).toNat) v65) fun v71 => bnd (f_Wa_tuple v5 x1) fun v74 => if v71 = v74 then (some (v5, 0)) else (f_Wa_passes_80 v5)))))) else (gd (kdA ((v5 103 1).toNat) = 1) (bnd (f_Bo_termOf v5 ((v5 103 1).toNat) x1 0) fun v15 => bnd (f_Wa_valueOf v5 v15) fun v18 => gd (kdA ((v5 103 1).toNat) = 1) (bnd (f_Bo_termOf v5 ((v5 103 1).toNat) x1 1) fun v22 => bnd (f_Wa_valueOf v5 v22) fun v25 => if v9 = 2 then (gd (kdA ((v5 103 1).toNat) = 1) (bnd (f_Bo_subjectOf v5 ((v5 103 1).toNat) x1) fun v50 => bnd (f_Wa_isSo v50 v18 v25) fun v53 => gd (v53 = 0 ∨ v53 = 1) (some (v5, v53)))) else (gd (kdA ((v5 103 1).toNat) = 1) (bnd (f_Bo_termOf v5 ((v5 103 1).toNat) x1 2) fun v31 => bnd (f_Wa_valueOf v5 v31) fun v34 => bl (imin 127 (wr (v25 + v34))) fun n36 => if v18 = (-1) then (bnd (f_Wa_bindIfFree v5 v15 n36) fun v40 => bnd (f_Dm_variableBit v15) fun v43 => bnd (f_Wa_noteBound v40 x1 v43) fun v46 => f_Wa_passes_184 v46 v18 n36) else (f_Wa_passes_184 v5 v18 n36))))))))
theorem t_Wa_passes_0 {E : EE} {K : KT} {l : Launch} {H0 : Heap} (k : Kof TA E K l cX9_passes RX9 rm_Wa_passes) {w : World} {x1 : Int} {o2 o3 o4 o5 o6 : Option Value} (r_x1 : R32 x1) {out : (World × Int)} (hf : f_Wa_passes w x1 = some out) (hc : (fun out : (World × Int) => RetZ TA E K H0 cX9_passes out.1 out.2) out) : Jj K (WdT TA E H0) w 0 [some (rf E.ad 103), some (.int (ii x1)), o2, o3, o4, o5, o6] [] := by
  unfold f_Wa_passes at hf
  have o := k.1
  have g := k.2.1
  have kr := k.2.2.1
  refine J_aload_n o dX9_passes_0 rfl ?_
  refine J_getI o g dX9_passes_1 flX9_43 kA_103 rfl (fun q1 => ?_)
  refine J_if_ne 18 o dX9_passes_4 (by decide) q1 (fun c2 => ?_) (fun c3 => ?_)
  · have hf := ite_f c2 hf
    refine J_aload_n o dX9_passes_18 rfl ?_
    refine J_iload_n o dX9_passes_19 rfl ?_
    refine J_iconst o dX9_passes_20 ?_
    obtain ⟨v5, e4, hf⟩ := bnd_some hf
    refine J_vV o g kr dX9_passes_21 lkX9_118 ml_Wa_noteBound vl_Wa_noteBound ⟨rfl, rfl, Nat.le_of_ble_eq_true rfl, Nat.le_of_ble_eq_true rfl⟩ (c_Wa_noteBound g.2.1 r_x1 rl0 e4) kA_103 rfl ⟨by decide, by decide⟩ rfl rfl c1s_0 ?_
    refine J_aload_n o dX9_passes_24 rfl ?_
    refine J_getR o g dX9_passes_25 flX9_25 kA_103 rfl ?_
    refine J_iload_n o dX9_passes_28 rfl ?_
    obtain ⟨g7, hf⟩ := gd_some hf
    obtain ⟨v9, e8, hf⟩ := bnd_some hf
    refine J_vI o g kr dX9_passes_29 lkX9_75 ml_Bo_formOf vl_Bo_formOf ⟨rfl, rfl, Nat.le_of_ble_eq_true rfl, Nat.le_of_ble_eq_true rfl⟩ (c_Bo_formOf g.2.1 g7 r_x1 e8) g7 rfl ⟨by decide, by decide⟩ rfl rfl c1s_0 (fun q10 => ?_)
    refine J_istore_n o dX9_passes_32 (Nat.le_of_ble_eq_true rfl) ?_
    refine J_iload_n o dX9_passes_33 rfl ?_
    refine J_iconst o dX9_passes_34 ?_
    refine J_icmp_ne 86 o dX9_passes_35 (by decide) q10 rl1 (fun c11 => ?_) (fun c12 => ?_)
    · have hf := ite_f c11 hf
      refine J_aload_n o dX9_passes_86 rfl ?_
      refine J_getR o g dX9_passes_87 flX9_25 kA_103 rfl ?_
      refine J_iload_n o dX9_passes_90 rfl ?_
      refine J_iconst o dX9_passes_91 ?_
      obtain ⟨g13, hf⟩ := gd_some hf
      obtain ⟨v15, e14, hf⟩ := bnd_some hf
      refine J_vI o g kr dX9_passes_92 lkX9_54 ml_Bo_termOf vl_Bo_termOf ⟨rfl, rfl, Nat.le_of_ble_eq_true rfl, Nat.le_of_ble_eq_true rfl⟩ (c_Bo_termOf g.2.1 g13 r_x1 rl0 e14) g13 rfl ⟨by decide, by decide⟩ rfl rfl c1s_0 (fun q16 => ?_)
      refine J_istore_n o dX9_passes_95 (Nat.le_of_ble_eq_true rfl) ?_
      refine J_aload_n o dX9_passes_96 rfl ?_
      refine J_iload_n o dX9_passes_97 rfl ?_
      obtain ⟨v18, e17, hf⟩ := bnd_some hf
      refine J_vI o g kr dX9_passes_98 lkX9_67 ml_Wa_valueOf vl_Wa_valueOf ⟨rfl, rfl, Nat.le_of_ble_eq_true rfl, Nat.le_of_ble_eq_true rfl⟩ (c_Wa_valueOf g.2.1 q16 e17) kA_103 rfl ⟨by decide, by decide⟩ rfl rfl c1s_0 (fun q19 => ?_)
      refine J_istore o dX9_passes_101 (Nat.le_of_ble_eq_true rfl) ?_
      refine J_aload_n o dX9_passes_103 rfl ?_
      refine J_aload_n o dX9_passes_104 rfl ?_
      refine J_getR o g dX9_passes_105 flX9_25 kA_103 rfl ?_
      refine J_iload_n o dX9_passes_108 rfl ?_
      refine J_iconst o dX9_passes_109 ?_
      obtain ⟨g20, hf⟩ := gd_some hf
      obtain ⟨v22, e21, hf⟩ := bnd_some hf
      refine J_vI o g kr dX9_passes_110 lkX9_54 ml_Bo_termOf vl_Bo_termOf ⟨rfl, rfl, Nat.le_of_ble_eq_true rfl, Nat.le_of_ble_eq_true rfl⟩ (c_Bo_termOf g.2.1 g20 r_x1 rl1 e21) g20 rfl ⟨by decide, by decide⟩ rfl rfl (c1s_r c1s_0 (Nat.le_of_ble_eq_true rfl)) (fun q23 => ?_)
      obtain ⟨v25, e24, hf⟩ := bnd_some hf
      refine J_vI o g kr dX9_passes_113 lkX9_67 ml_Wa_valueOf vl_Wa_valueOf ⟨rfl, rfl, Nat.le_of_ble_eq_true rfl, Nat.le_of_ble_eq_true rfl⟩ (c_Wa_valueOf g.2.1 q23 e24) kA_103 rfl ⟨by decide, by decide⟩ rfl rfl c1s_0 (fun q26 => ?_)
      refine J_istore o dX9_passes_116 (Nat.le_of_ble_eq_true rfl) ?_
      refine J_iload_n o dX9_passes_118 rfl ?_
      refine J_iconst o dX9_passes_119 ?_
      refine J_icmp_ne 139 o dX9_passes_120 (by decide) q10 rl2 (fun c27 => ?_) (fun c28 => ?_)
      · have hf := ite_f c27 hf
        refine J_bipush o dX9_passes_139 (by decide) ?_
        refine J_iload o dX9_passes_141 rfl ?_
        refine J_aload_n o dX9_passes_143 rfl ?_
        refine J_aload_n o dX9_passes_144 rfl ?_
        refine J_getR o g dX9_passes_145 flX9_25 kA_103 rfl ?_
        refine J_iload_n o dX9_passes_148 rfl ?_
        refine J_iconst o dX9_passes_149 ?_
        obtain ⟨g29, hf⟩ := gd_some hf
        obtain ⟨v31, e30, hf⟩ := bnd_some hf
        refine J_vI o g kr dX9_passes_150 lkX9_54 ml_Bo_termOf vl_Bo_termOf ⟨rfl, rfl, Nat.le_of_ble_eq_true rfl, Nat.le_of_ble_eq_true rfl⟩ (c_Bo_termOf g.2.1 g29 r_x1 rl2 e30) g29 rfl ⟨by decide, by decide⟩ rfl rfl (c1s_r (c1s_i (c1s_i c1s_0 (Nat.le_of_ble_eq_true rfl)) (Nat.le_of_ble_eq_true rfl)) (Nat.le_of_ble_eq_true rfl)) (fun q32 => ?_)
        obtain ⟨v34, e33, hf⟩ := bnd_some hf
        refine J_vI o g kr dX9_passes_153 lkX9_67 ml_Wa_valueOf vl_Wa_valueOf ⟨rfl, rfl, Nat.le_of_ble_eq_true rfl, Nat.le_of_ble_eq_true rfl⟩ (c_Wa_valueOf g.2.1 q32 e33) kA_103 rfl ⟨by decide, by decide⟩ rfl rfl (c1s_i (c1s_i c1s_0 (Nat.le_of_ble_eq_true rfl)) (Nat.le_of_ble_eq_true rfl)) (fun q35 => ?_)
        refine J_iadd o dX9_passes_156 ?_
        refine J_mmin o kr dX9_passes_157 mw802 mw690 mw129 mw691 ⟨by decide, by decide⟩ rl127 (R_wr _) c1s_0 ?_
        refine J_istore o dX9_passes_160 (Nat.le_of_ble_eq_true rfl) ?_
        have hf := bl_out hf
        refine J_iload o dX9_passes_162 rfl ?_
        refine J_iconst o dX9_passes_164 ?_
        refine J_icmp_ne 184 o dX9_passes_165 (by decide) q19 rlm1 (fun c37 => ?_) (fun c38 => ?_)
        · have hf := ite_f c37 hf
          exact t_Wa_passes_184 k q19 (R_imin rl127 (R_wr _)) hf hc
        · have hf := ite_t c38 hf
          refine J_aload_n o dX9_passes_168 rfl ?_
          refine J_iload_n o dX9_passes_169 rfl ?_
          refine J_iload o dX9_passes_170 rfl ?_
          obtain ⟨v40, e39, hf⟩ := bnd_some hf
          refine J_vV o g kr dX9_passes_172 lkX9_63 ml_Wa_bindIfFree vl_Wa_bindIfFree ⟨rfl, rfl, Nat.le_of_ble_eq_true rfl, Nat.le_of_ble_eq_true rfl⟩ (c_Wa_bindIfFree g.2.1 q16 (R_imin rl127 (R_wr _)) e39) kA_103 rfl ⟨by decide, by decide⟩ rfl rfl c1s_0 ?_
          refine J_aload_n o dX9_passes_175 rfl ?_
          refine J_iload_n o dX9_passes_176 rfl ?_
          refine J_iload_n o dX9_passes_177 rfl ?_
          obtain ⟨v43, e42, hf⟩ := bnd_some hf
          refine J_sI o g kr dX9_passes_178 lkX9_115 ml_Dm_variableBit mw778 ⟨rfl, rfl, Nat.le_of_ble_eq_true rfl, Nat.le_of_ble_eq_true rfl⟩ (c_Dm_variableBit g.2.1 q16 e42) rfl rfl (c1s_i (c1s_r c1s_0 (Nat.le_of_ble_eq_true rfl)) (Nat.le_of_ble_eq_true rfl)) (fun q44 => ?_)
          obtain ⟨v46, e45, hf⟩ := bnd_some hf
          refine J_vV o g kr dX9_passes_181 lkX9_118 ml_Wa_noteBound vl_Wa_noteBound ⟨rfl, rfl, Nat.le_of_ble_eq_true rfl, Nat.le_of_ble_eq_true rfl⟩ (c_Wa_noteBound g.2.1 r_x1 q44 e45) kA_103 rfl ⟨by decide, by decide⟩ rfl rfl c1s_0 ?_
          exact t_Wa_passes_184 k q19 (R_imin rl127 (R_wr _)) hf hc
      · have hf := ite_t c28 hf
        refine J_aload_n o dX9_passes_123 rfl ?_
        refine J_getR o g dX9_passes_124 flX9_25 kA_103 rfl ?_
        refine J_iload_n o dX9_passes_127 rfl ?_
        obtain ⟨g48, hf⟩ := gd_some hf
        obtain ⟨v50, e49, hf⟩ := bnd_some hf
        refine J_vI o g kr dX9_passes_128 lkX9_85 ml_Bo_subjectOf vl_Bo_subjectOf ⟨rfl, rfl, Nat.le_of_ble_eq_true rfl, Nat.le_of_ble_eq_true rfl⟩ (c_Bo_subjectOf g.2.1 g48 r_x1 e49) g48 rfl ⟨by decide, by decide⟩ rfl rfl c1s_0 (fun q51 => ?_)
        refine J_iload o dX9_passes_131 rfl ?_
        refine J_iload o dX9_passes_133 rfl ?_
        obtain ⟨v53, e52, hf⟩ := bnd_some hf
        refine J_sI o g kr dX9_passes_135 lkX9_130 ml_Wa_isSo mw800 ⟨rfl, rfl, Nat.le_of_ble_eq_true rfl, Nat.le_of_ble_eq_true rfl⟩ (c_Wa_isSo g.2.1 q51 q19 q26 e52) rfl rfl c1s_0 (fun q54 => ?_)
        obtain ⟨g55, hf⟩ := gd_some hf
        have hf := some_inj hf
        subst hf
        exact hc _ _ g55 dX9_passes_138
    · have hf := ite_t c12 hf
      refine J_aload_n o dX9_passes_38 rfl ?_
      refine J_getR o g dX9_passes_39 flX9_29 kA_103 rfl ?_
      refine J_aload_n o dX9_passes_42 rfl ?_
      refine J_getR o g dX9_passes_43 flX9_25 kA_103 rfl ?_
      refine J_iload_n o dX9_passes_46 rfl ?_
      obtain ⟨g56, hf⟩ := gd_some hf
      obtain ⟨v58, e57, hf⟩ := bnd_some hf
      refine J_vI o g kr dX9_passes_47 lkX9_85 ml_Bo_subjectOf vl_Bo_subjectOf ⟨rfl, rfl, Nat.le_of_ble_eq_true rfl, Nat.le_of_ble_eq_true rfl⟩ (c_Bo_subjectOf g.2.1 g56 r_x1 e57) g56 rfl ⟨by decide, by decide⟩ rfl rfl (c1s_r c1s_0 (Nat.le_of_ble_eq_true rfl)) (fun q59 => ?_)
      refine J_aload_n o dX9_passes_50 rfl ?_
      refine J_iload_n o dX9_passes_51 rfl ?_
      obtain ⟨v61, e60, hf⟩ := bnd_some hf
      refine J_vI o g kr dX9_passes_52 lkX9_124 ml_Wa_tuple vl_Wa_tuple ⟨rfl, rfl, Nat.le_of_ble_eq_true rfl, Nat.le_of_ble_eq_true rfl⟩ (c_Wa_tuple g.2.1 r_x1 e60) kA_103 rfl ⟨by decide, by decide⟩ rfl rfl (c1s_i (c1s_r c1s_0 (Nat.le_of_ble_eq_true rfl)) (Nat.le_of_ble_eq_true rfl)) (fun q62 => ?_)
      obtain ⟨g63, hf⟩ := gd_some hf
      obtain ⟨v65, e64, hf⟩ := bnd_some hf
      refine J_vI o g kr dX9_passes_55 lkX9_127 ml_Mo_slotLike vl_Mo_slotLike ⟨rfl, rfl, Nat.le_of_ble_eq_true rfl, Nat.le_of_ble_eq_true rfl⟩ (c_Mo_slotLike g.2.1 g63 q59 q62 e64) g63 rfl ⟨by decide, by decide⟩ rfl rfl c1s_0 (fun q66 => ?_)
      refine J_istore_n o dX9_passes_58 (Nat.le_of_ble_eq_true rfl) ?_
      refine J_iload_n o dX9_passes_59 rfl ?_
      refine J_iconst o dX9_passes_60 ?_
      refine J_icmp_eq 80 o dX9_passes_61 (by decide) q66 rlm1 (fun c67 => ?_) (fun c68 => ?_)
      · have hf := ite_t c67 hf
        exact t_Wa_passes_80 k  hf hc
      · have hf := ite_f c68 hf
        refine J_aload_n o dX9_passes_64 rfl ?_
        refine J_getR o g dX9_passes_65 flX9_29 kA_103 rfl ?_
        refine J_iload_n o dX9_passes_68 rfl ?_
        obtain ⟨g69, hf⟩ := gd_some hf
        obtain ⟨v71, e70, hf⟩ := bnd_some hf
        refine J_vI o g kr dX9_passes_69 lkX9_105 ml_Mo_codeOf vl_Mo_codeOf ⟨rfl, rfl, Nat.le_of_ble_eq_true rfl, Nat.le_of_ble_eq_true rfl⟩ (c_Mo_codeOf g.2.1 g69 q66 e70) g69 rfl ⟨by decide, by decide⟩ rfl rfl c1s_0 (fun q72 => ?_)
        refine J_aload_n o dX9_passes_72 rfl ?_
        refine J_iload_n o dX9_passes_73 rfl ?_
        obtain ⟨v74, e73, hf⟩ := bnd_some hf
        refine J_vI o g kr dX9_passes_74 lkX9_124 ml_Wa_tuple vl_Wa_tuple ⟨rfl, rfl, Nat.le_of_ble_eq_true rfl, Nat.le_of_ble_eq_true rfl⟩ (c_Wa_tuple g.2.1 r_x1 e73) kA_103 rfl ⟨by decide, by decide⟩ rfl rfl (c1s_i c1s_0 (Nat.le_of_ble_eq_true rfl)) (fun q75 => ?_)
        refine J_icmp_eq 84 o dX9_passes_77 (by decide) q72 q75 (fun c76 => ?_) (fun c77 => ?_)
        · have hf := ite_t c76 hf
          refine J_iconst o dX9_passes_84 ?_
          have hf := some_inj hf
          subst hf
          exact hc _ _ (Or.inl rfl) dX9_passes_85
        · have hf := ite_f c77 hf
          exact t_Wa_passes_80 k  hf hc
  · have hf := ite_t c3 hf
    refine J_aload_n o dX9_passes_7 rfl ?_
    refine J_aload_n o dX9_passes_8 rfl ?_
    refine J_iload_n o dX9_passes_9 rfl ?_
    obtain ⟨v79, e78, hf⟩ := bnd_some hf
    refine J_vI o g kr dX9_passes_10 lkX9_121 ml_Wa_boundAt vl_Wa_boundAt ⟨rfl, rfl, Nat.le_of_ble_eq_true rfl, Nat.le_of_ble_eq_true rfl⟩ (c_Wa_boundAt g.2.1 r_x1 e78) kA_103 rfl ⟨by decide, by decide⟩ rfl rfl (c1s_r c1s_0 (Nat.le_of_ble_eq_true rfl)) (fun q80 => ?_)
    obtain ⟨v82, e81, hf⟩ := bnd_some hf
    refine J_vV o g kr dX9_passes_13 lkX9_47 ml_Wa_unbind vl_Wa_unbind ⟨rfl, rfl, Nat.le_of_ble_eq_true rfl, Nat.le_of_ble_eq_true rfl⟩ (c_Wa_unbind g.2.1 q80 e81) kA_103 rfl ⟨by decide, by decide⟩ rfl rfl c1s_0 ?_
    refine J_iconst o dX9_passes_16 ?_
    have hf := some_inj hf
    subst hf
    exact hc _ _ (Or.inl rfl) dX9_passes_17
theorem c_Wa_passes {E : EE} {l : Launch} (hI : Inj TA E) {w : World} {x1 : Int} (r_x1 : R32 x1) {out : (World × Int)} (hf : f_Wa_passes w x1 = some out) : ConI TA E l yX9_passes (WS yX9_passes cX9_passes 7 (some .boolean)) rm_Wa_passes [rf E.ad 103, .int (ii x1)] w out.1 out.2 :=
  con_Z (by decide +kernel) rfl (Nat.le_of_ble_eq_true rfl) (c1s_r (c1s_i c1s_0 (Nat.le_of_ble_eq_true rfl)) (Nat.le_of_ble_eq_true rfl)).1 ⟨rfl, rfl⟩ hI TnA (fun K H0 k hret => t_Wa_passes_0 k r_x1 hf hret)
abbrev rm_Wa_next : Room := { frames := 4, cells := 0, slots := 0, locals := 100 }
def HW_Wa_next_30 (E : EE) (K : KT) (H0 : Heap)  : (World × Int) → Prop := fun z => R32 z.2 → ∀ o2 o3 : Option Value, Jj K (WdT TA E H0) z.1 30 [some (rf E.ad 103), some (.int (ii z.2)), o2, o3] []
noncomputable def f_Wa_next_139 (w : World) (x1 : Int) : Option ((World × Int) ⊕ (World × Int)) :=
  bl (wr (x1 + 1)) fun n1 => some (Sum.inl (w, n1))
theorem t_Wa_next_139 {E : EE} {K : KT} {l : Launch} {H0 : Heap} (k : Kof TA E K l cX9_next RX9 rm_Wa_next) {w : World} {x1 : Int} {o2 o3 : Option Value} (r_x1 : R32 x1) {out : ((World × Int) ⊕ (World × Int))} (hf : f_Wa_next_139 w x1 = some out) (hc : (Sum.elim (HW_Wa_next_30 E K H0 ) (fun out : (World × Int) => RetZ TA E K H0 cX9_next out.1 out.2)) out) : Jj K (WdT TA E H0) w 139 [some (rf E.ad 103), some (.int (ii x1)), o2, o3] [] := by
  unfold f_Wa_next_139 at hf
  have o := k.1
  have g := k.2.1
  have kr := k.2.2.1
  have hf := bl_out hf
  refine J_iinc o dX9_next_139 rfl ?_
  refine J_goto 30 o dX9_next_142 (by decide) ?_
  have hf := some_inj hf
  subst hf
  exact hc (R_wr _) _ _
noncomputable def f_Wa_next_113 (w : World) (x1 : Int) (x3 : Int) (s1 : Int) (s2 : Int) : Option ((World × Int) ⊕ (World × Int)) :=
  bl (up w 103 4 (wr (s1 + s2))) fun w1 => gd (x3 = 0 ∨ x3 = 1) (bl (up w1 103 5 x3) fun w3 => if x3 = 0 then (f_Wa_next_139 w3 x1) else (if (w3 103 4) = (w3 103 3) then (some (Sum.inr (w3, 1))) else (f_Wa_next_139 w3 x1)))
theorem t_Wa_next_113 {E : EE} {K : KT} {l : Launch} {H0 : Heap} (k : Kof TA E K l cX9_next RX9 rm_Wa_next) {w : World} {x1 : Int} {x3 : Int} {s1 : Int} {s2 : Int} {o2 : Option Value} (r_x1 : R32 x1) (r_x3 : R32 x3) (r_s1 : R32 s1) (r_s2 : R32 s2) {out : ((World × Int) ⊕ (World × Int))} (hf : f_Wa_next_113 w x1 x3 s1 s2 = some out) (hc : (Sum.elim (HW_Wa_next_30 E K H0 ) (fun out : (World × Int) => RetZ TA E K H0 cX9_next out.1 out.2)) out) : Jj K (WdT TA E H0) w 113 [some (rf E.ad 103), some (.int (ii x1)), o2, some (.int (ii x3))] [.int (ii s2), .int (ii s1), rf E.ad 103] := by
  unfold f_Wa_next_113 at hf
  have o := k.1
  have g := k.2.1
  have kr := k.2.2.1
  refine J_iadd o dX9_next_113 ?_
  refine J_putI o g dX9_next_114 fpX9_37 kA_103 rfl rfl (R_wr _) ?_
  have hf := bl_out hf
  refine J_aload_n o dX9_next_117 rfl ?_
  refine J_iload_n o dX9_next_118 rfl ?_
  obtain ⟨g2, hf⟩ := gd_some hf
  refine J_putZ o g dX9_next_119 fpX9_43 kA_103 rfl rfl g2 ?_
  have hf := bl_out hf
  refine J_iload_n o dX9_next_122 rfl ?_
  refine J_if_eq 139 o dX9_next_123 (by decide) r_x3 (fun c4 => ?_) (fun c5 => ?_)
  · have hf := ite_t c4 hf
    exact t_Wa_next_139 k r_x1 hf hc
  · have hf := ite_f c5 hf
    refine J_aload_n o dX9_next_126 rfl ?_
    refine J_getI o g dX9_next_127 flX9_37 kA_103 rfl (fun q6 => ?_)
    refine J_aload_n o dX9_next_130 rfl ?_
    refine J_getI o g dX9_next_131 flX9_40 kA_103 rfl (fun q7 => ?_)
    refine J_icmp_ne 139 o dX9_next_134 (by decide) q6 q7 (fun c8 => ?_) (fun c9 => ?_)
    · have hf := ite_f c8 hf
      exact t_Wa_next_139 k r_x1 hf hc
    · have hf := ite_t c9 hf
      refine J_iconst o dX9_next_137 ?_
      have hf := some_inj hf
      subst hf
      exact hc _ _ (Or.inr rfl) dX9_next_138
noncomputable def f_Wa_next_98 (w : World) (x1 : Int) (s0 : Int) : Option ((World × Int) ⊕ (World × Int)) :=
  if s0 = 0 then (f_Wa_next_113 w x1 s0 (w 103 4) (-1)) else (f_Wa_next_113 w x1 s0 (w 103 4) 1)
theorem t_Wa_next_98 {E : EE} {K : KT} {l : Launch} {H0 : Heap} (k : Kof TA E K l cX9_next RX9 rm_Wa_next) {w : World} {x1 : Int} {s0 : Int} {o2 o3 : Option Value} (r_x1 : R32 x1) (r_s0 : R32 s0) {out : ((World × Int) ⊕ (World × Int))} (hf : f_Wa_next_98 w x1 s0 = some out) (hc : (Sum.elim (HW_Wa_next_30 E K H0 ) (fun out : (World × Int) => RetZ TA E K H0 cX9_next out.1 out.2)) out) : Jj K (WdT TA E H0) w 98 [some (rf E.ad 103), some (.int (ii x1)), o2, o3] [.int (ii s0)] := by
  unfold f_Wa_next_98 at hf
  have o := k.1
  have g := k.2.1
  have kr := k.2.2.1
  refine J_istore_n o dX9_next_98 (Nat.le_of_ble_eq_true rfl) ?_
  refine J_aload_n o dX9_next_99 rfl ?_
  refine J_dup o dX9_next_100 rf_cat ?_
  refine J_getI o g dX9_next_101 flX9_37 kA_103 rfl (fun q1 => ?_)
  refine J_iload_n o dX9_next_104 rfl ?_
  refine J_if_eq 112 o dX9_next_105 (by decide) r_s0 (fun c2 => ?_) (fun c3 => ?_)
  · have hf := ite_t c2 hf
    refine J_iconst o dX9_next_112 ?_
    exact t_Wa_next_113 k r_x1 r_s0 q1 rlm1 hf hc
  · have hf := ite_f c3 hf
    refine J_iconst o dX9_next_108 ?_
    refine J_goto 113 o dX9_next_109 (by decide) ?_
    exact t_Wa_next_113 k r_x1 r_s0 q1 rl1 hf hc
noncomputable def f_Wa_next_97 (w : World) (x1 : Int) : Option ((World × Int) ⊕ (World × Int)) :=
  f_Wa_next_98 w x1 0
theorem t_Wa_next_97 {E : EE} {K : KT} {l : Launch} {H0 : Heap} (k : Kof TA E K l cX9_next RX9 rm_Wa_next) {w : World} {x1 : Int} {o2 o3 : Option Value} (r_x1 : R32 x1) {out : ((World × Int) ⊕ (World × Int))} (hf : f_Wa_next_97 w x1 = some out) (hc : (Sum.elim (HW_Wa_next_30 E K H0 ) (fun out : (World × Int) => RetZ TA E K H0 cX9_next out.1 out.2)) out) : Jj K (WdT TA E H0) w 97 [some (rf E.ad 103), some (.int (ii x1)), o2, o3] [] := by
  unfold f_Wa_next_97 at hf
  have o := k.1
  have g := k.2.1
  have kr := k.2.2.1
  refine J_iconst o dX9_next_97 ?_
  exact t_Wa_next_98 k r_x1 rl0 hf hc
noncomputable def f_Wa_next_93 (w : World) (x1 : Int) : Option ((World × Int) ⊕ (World × Int)) :=
  f_Wa_next_98 w x1 1
theorem t_Wa_next_93 {E : EE} {K : KT} {l : Launch} {H0 : Heap} (k : Kof TA E K l cX9_next RX9 rm_Wa_next) {w : World} {x1 : Int} {o2 o3 : Option Value} (r_x1 : R32 x1) {out : ((World × Int) ⊕ (World × Int))} (hf : f_Wa_next_93 w x1 = some out) (hc : (Sum.elim (HW_Wa_next_30 E K H0 ) (fun out : (World × Int) => RetZ TA E K H0 cX9_next out.1 out.2)) out) : Jj K (WdT TA E H0) w 93 [some (rf E.ad 103), some (.int (ii x1)), o2, o3] [] := by
  unfold f_Wa_next_93 at hf
  have o := k.1
  have g := k.2.1
  have kr := k.2.2.1
  refine J_iconst o dX9_next_93 ?_
  refine J_goto 98 o dX9_next_94 (by decide) ?_
  exact t_Wa_next_98 k r_x1 rl1 hf hc
noncomputable def f_Wa_next_30B (w : World) (x1 : Int) : Option ((World × Int) ⊕ (World × Int)) :=
  if 10000000 ≤ x1 then (some (Sum.inr (w, 0))) else (if (w 103 4) < 0 then (some (Sum.inr (w, 0))) else (bnd (f_Wa_placeAt w (w 103 4)) fun v8 => if (w 103 3) ≤ (w 103 4) then (f_Wa_next_97 w x1) else (gd (kdA ((w 103 1).toNat) = 1) (bnd (f_Bo_formOf w ((w 103 1).toNat) v8) fun v16 => if v16 = 0 then (bnd (f_Wa_takesTuple w v8) fun v26 => if v26.2 = 0 then (f_Wa_next_97 v26.1 x1) else (f_Wa_next_93 v26.1 x1)) else (bnd (f_Wa_passes w v8) fun v21 => if v21.2 = 0 then (f_Wa_next_97 v21.1 x1) else (f_Wa_next_93 v21.1 x1))))))
theorem t_Wa_next_30B {E : EE} {K : KT} {l : Launch} {H0 : Heap} (k : Kof TA E K l cX9_next RX9 rm_Wa_next) {w : World} {x1 : Int} {o2 o3 : Option Value} (r_x1 : R32 x1) {out : ((World × Int) ⊕ (World × Int))} (hf : f_Wa_next_30B w x1 = some out) (hc : (Sum.elim (HW_Wa_next_30 E K H0 ) (fun out : (World × Int) => RetZ TA E K H0 cX9_next out.1 out.2)) out) : Jj K (WdT TA E H0) w 30 [some (rf E.ad 103), some (.int (ii x1)), o2, o3] [] := by
  unfold f_Wa_next_30B at hf
  have o := k.1
  have g := k.2.1
  have kr := k.2.2.1
  refine J_iload_n o dX9_next_30 rfl ?_
  refine J_ldc o dX9_next_31 kcX9_71 ?_
  refine J_icmp_ge 145 o dX9_next_33 (by decide) r_x1 rl10000000 (fun c1 => ?_) (fun c2 => ?_)
  · have hf := ite_t c1 hf
    refine J_iconst o dX9_next_145 ?_
    have hf := some_inj hf
    subst hf
    exact hc _ _ (Or.inl rfl) dX9_next_146
  · have hf := ite_f c2 hf
    refine J_aload_n o dX9_next_36 rfl ?_
    refine J_getI o g dX9_next_37 flX9_37 kA_103 rfl (fun q3 => ?_)
    refine J_if_lt 145 o dX9_next_40 (by decide) q3 (fun c4 => ?_) (fun c5 => ?_)
    · have hf := ite_t c4 hf
      refine J_iconst o dX9_next_145 ?_
      have hf := some_inj hf
      subst hf
      exact hc _ _ (Or.inl rfl) dX9_next_146
    · have hf := ite_f c5 hf
      refine J_aload_n o dX9_next_43 rfl ?_
      refine J_aload_n o dX9_next_44 rfl ?_
      refine J_getI o g dX9_next_45 flX9_37 kA_103 rfl (fun q6 => ?_)
      obtain ⟨v8, e7, hf⟩ := bnd_some hf
      refine J_vI o g kr dX9_next_48 lkX9_72 ml_Wa_placeAt vl_Wa_placeAt ⟨rfl, rfl, Nat.le_of_ble_eq_true rfl, Nat.le_of_ble_eq_true rfl⟩ (c_Wa_placeAt g.2.1 q6 e7) kA_103 rfl ⟨by decide, by decide⟩ rfl rfl c1s_0 (fun q9 => ?_)
      refine J_istore_n o dX9_next_51 (Nat.le_of_ble_eq_true rfl) ?_
      refine J_aload_n o dX9_next_52 rfl ?_
      refine J_getI o g dX9_next_53 flX9_37 kA_103 rfl (fun q10 => ?_)
      refine J_aload_n o dX9_next_56 rfl ?_
      refine J_getI o g dX9_next_57 flX9_40 kA_103 rfl (fun q11 => ?_)
      refine J_icmp_ge 97 o dX9_next_60 (by decide) q10 q11 (fun c12 => ?_) (fun c13 => ?_)
      · have hf := ite_t c12 hf
        exact t_Wa_next_97 k r_x1 hf hc
      · have hf := ite_f c13 hf
        refine J_aload_n o dX9_next_63 rfl ?_
        refine J_getR o g dX9_next_64 flX9_25 kA_103 rfl ?_
        refine J_iload_n o dX9_next_67 rfl ?_
        obtain ⟨g14, hf⟩ := gd_some hf
        obtain ⟨v16, e15, hf⟩ := bnd_some hf
        refine J_vI o g kr dX9_next_68 lkX9_75 ml_Bo_formOf vl_Bo_formOf ⟨rfl, rfl, Nat.le_of_ble_eq_true rfl, Nat.le_of_ble_eq_true rfl⟩ (c_Bo_formOf g.2.1 g14 q9 e15) g14 rfl ⟨by decide, by decide⟩ rfl rfl c1s_0 (fun q17 => ?_)
        refine J_if_ne 85 o dX9_next_71 (by decide) q17 (fun c18 => ?_) (fun c19 => ?_)
        · have hf := ite_f c18 hf
          refine J_aload_n o dX9_next_85 rfl ?_
          refine J_iload_n o dX9_next_86 rfl ?_
          obtain ⟨v21, e20, hf⟩ := bnd_some hf
          refine J_vI o g kr dX9_next_87 lkX9_82 ml_Wa_passes vl_Wa_passes ⟨rfl, rfl, Nat.le_of_ble_eq_true rfl, Nat.le_of_ble_eq_true rfl⟩ (c_Wa_passes g.2.1 q9 e20) kA_103 rfl ⟨by decide, by decide⟩ rfl rfl c1s_0 (fun q22 => ?_)
          refine J_if_eq 97 o dX9_next_90 (by decide) q22 (fun c23 => ?_) (fun c24 => ?_)
          · have hf := ite_t c23 hf
            exact t_Wa_next_97 k r_x1 hf hc
          · have hf := ite_f c24 hf
            exact t_Wa_next_93 k r_x1 hf hc
        · have hf := ite_t c19 hf
          refine J_aload_n o dX9_next_74 rfl ?_
          refine J_iload_n o dX9_next_75 rfl ?_
          obtain ⟨v26, e25, hf⟩ := bnd_some hf
          refine J_vI o g kr dX9_next_76 lkX9_78 ml_Wa_takesTuple vl_Wa_takesTuple ⟨rfl, rfl, Nat.le_of_ble_eq_true rfl, Nat.le_of_ble_eq_true rfl⟩ (c_Wa_takesTuple g.2.1 q9 e25) kA_103 rfl ⟨by decide, by decide⟩ rfl rfl c1s_0 (fun q27 => ?_)
          refine J_if_eq 97 o dX9_next_79 (by decide) q27 (fun c28 => ?_) (fun c29 => ?_)
          · have hf := ite_t c28 hf
            exact t_Wa_next_97 k r_x1 hf hc
          · have hf := ite_f c29 hf
            refine J_goto 93 o dX9_next_82 (by decide) ?_
            exact t_Wa_next_93 k r_x1 hf hc
noncomputable def f_Wa_next_30 (w : World) (x1 : Int) : Option (World × Int) :=
  lp (fun z : (World × Int) => f_Wa_next_30B z.1 z.2) (w, x1)
theorem t_Wa_next_30 {E : EE} {K : KT} {l : Launch} {H0 : Heap} (k : Kof TA E K l cX9_next RX9 rm_Wa_next) {w : World} {x1 : Int}  {out : (World × Int)} (hf : f_Wa_next_30 w x1 = some out) (hc : (fun out : (World × Int) => RetZ TA E K H0 cX9_next out.1 out.2) out) : HW_Wa_next_30 E K H0  (w, x1) := by
  unfold f_Wa_next_30 at hf
  refine lp_ind (P := HW_Wa_next_30 E K H0 ) hf ?_
  intro z o hs h1 h2
  intro r_x1
  intro o2 o3
  refine t_Wa_next_30B k r_x1 hs ?_
  cases o with
  | inl z' => exact h1 z' rfl
  | inr r' => rw [h2 r' rfl]; exact hc
noncomputable def f_Wa_next_28 (w : World) : Option (World × Int) :=
  f_Wa_next_30 w 0
theorem t_Wa_next_28 {E : EE} {K : KT} {l : Launch} {H0 : Heap} (k : Kof TA E K l cX9_next RX9 rm_Wa_next) {w : World} {o1 o2 o3 : Option Value}  {out : (World × Int)} (hf : f_Wa_next_28 w = some out) (hc : (fun out : (World × Int) => RetZ TA E K H0 cX9_next out.1 out.2) out) : Jj K (WdT TA E H0) w 28 [some (rf E.ad 103), o1, o2, o3] [] := by
  unfold f_Wa_next_28 at hf
  have o := k.1
  have g := k.2.1
  have kr := k.2.2.1
  refine J_iconst o dX9_next_28 ?_
  refine J_istore_n o dX9_next_29 (Nat.le_of_ble_eq_true rfl) ?_
  exact (t_Wa_next_30 k  hf hc) rl0 _ _
noncomputable def f_Wa_next (w : World) : Option (World × Int) :=
  if (w 103 3) = 0 then (if (w 103 4) = 0 then (if (w 103 5) = 0 then (f_Wa_next_28 w) else (bl (up w 103 5 0) fun w10 => some (w10, 1))) else (f_Wa_next_28 w)) else (f_Wa_next_28 w)
theorem t_Wa_next_0 {E : EE} {K : KT} {l : Launch} {H0 : Heap} (k : Kof TA E K l cX9_next RX9 rm_Wa_next) {w : World} {o1 o2 o3 : Option Value}  {out : (World × Int)} (hf : f_Wa_next w = some out) (hc : (fun out : (World × Int) => RetZ TA E K H0 cX9_next out.1 out.2) out) : Jj K (WdT TA E H0) w 0 [some (rf E.ad 103), o1, o2, o3] [] := by
  unfold f_Wa_next at hf
  have o := k.1
  have g := k.2.1
  have kr := k.2.2.1
  refine J_aload_n o dX9_next_0 rfl ?_
  refine J_getI o g dX9_next_1 flX9_40 kA_103 rfl (fun q1 => ?_)
  refine J_if_ne 28 o dX9_next_4 (by decide) q1 (fun c2 => ?_) (fun c3 => ?_)
  · have hf := ite_f c2 hf
    exact t_Wa_next_28 k  hf hc
  · have hf := ite_t c3 hf
    refine J_aload_n o dX9_next_7 rfl ?_
    refine J_getI o g dX9_next_8 flX9_37 kA_103 rfl (fun q4 => ?_)
    refine J_if_ne 28 o dX9_next_11 (by decide) q4 (fun c5 => ?_) (fun c6 => ?_)
    · have hf := ite_f c5 hf
      exact t_Wa_next_28 k  hf hc
    · have hf := ite_t c6 hf
      refine J_aload_n o dX9_next_14 rfl ?_
      refine J_getI o g dX9_next_15 flX9_43 kA_103 rfl (fun q7 => ?_)
      refine J_if_eq 28 o dX9_next_18 (by decide) q7 (fun c8 => ?_) (fun c9 => ?_)
      · have hf := ite_t c8 hf
        exact t_Wa_next_28 k  hf hc
      · have hf := ite_f c9 hf
        refine J_aload_n o dX9_next_21 rfl ?_
        refine J_iconst o dX9_next_22 ?_
        refine J_putZ o g dX9_next_23 fpX9_43 kA_103 rfl rfl (Or.inl rfl) ?_
        have hf := bl_out hf
        refine J_iconst o dX9_next_26 ?_
        have hf := some_inj hf
        subst hf
        exact hc _ _ (Or.inr rfl) dX9_next_27
theorem c_Wa_next {E : EE} {l : Launch} (hI : Inj TA E) {w : World}  {out : (World × Int)} (hf : f_Wa_next w = some out) : ConI TA E l yX9_next (WS yX9_next cX9_next 4 (some .boolean)) rm_Wa_next [rf E.ad 103] w out.1 out.2 :=
  con_Z (by decide +kernel) rfl (Nat.le_of_ble_eq_true rfl) (c1s_r c1s_0 (Nat.le_of_ble_eq_true rfl)).1 ⟨rfl, rfl⟩ hI TnA (fun K H0 k hret => t_Wa_next_0 k  hf hret)
abbrev rm_Sc_kindOf : Room := { frames := 1, cells := 0, slots := 0, locals := 24 }
noncomputable def f_Sc_kindOf (w : World) (x1 : Int) : Option Int :=
  if x1 < 0 then (some 0) else (if 10 ≤ x1 then (some 0) else (gd (0 ≤ x1 ∧ x1 < 10) (some (w 4 x1.toNat))))
theorem t_Sc_kindOf_0 {E : EE} {K : KT} {l : Launch} {H0 : Heap} (k : Kof TA E K l cX8_kindOf RX8 rm_Sc_kindOf) {w : World} {x1 : Int} (r_x1 : R32 x1) {out : Int} (hf : f_Sc_kindOf w x1 = some out) (hc : (fun out : Int => RetI TA E K H0 cX8_kindOf w out) out) : Jj K (WdT TA E H0) w 0 [some (rf E.ad 2), some (.int (ii x1))] [] := by
  unfold f_Sc_kindOf at hf
  have o := k.1
  have g := k.2.1
  have kr := k.2.2.1
  refine J_iload_n o dX8_kindOf_0 rfl ?_
  refine J_if_lt 19 o dX8_kindOf_1 (by decide) r_x1 (fun c1 => ?_) (fun c2 => ?_)
  · have hf := ite_t c1 hf
    refine J_iconst o dX8_kindOf_19 ?_
    have hf := some_inj hf
    subst hf
    exact hc _ _ rl0 dX8_kindOf_20
  · have hf := ite_f c2 hf
    refine J_iload_n o dX8_kindOf_4 rfl ?_
    refine J_bipush o dX8_kindOf_5 (by decide) ?_
    refine J_icmp_ge 19 o dX8_kindOf_7 (by decide) r_x1 rl10 (fun c3 => ?_) (fun c4 => ?_)
    · have hf := ite_t c3 hf
      refine J_iconst o dX8_kindOf_19 ?_
      have hf := some_inj hf
      subst hf
      exact hc _ _ rl0 dX8_kindOf_20
    · have hf := ite_f c4 hf
      refine J_aload_n o dX8_kindOf_10 rfl ?_
      refine J_getF (true, 4) o g dX8_kindOf_11 flX8_15 kA_2 rfl rfl rfl ?_
      refine J_iload_n o dX8_kindOf_14 rfl ?_
      obtain ⟨g5, hf⟩ := gd_some hf
      refine J_iald o g dX8_kindOf_15 kA_4 r_x1 zA_4 g5 (fun q6 => ?_)
      refine J_goto 20 o dX8_kindOf_16 (by decide) ?_
      have hf := some_inj hf
      subst hf
      exact hc _ _ q6 dX8_kindOf_20
theorem c_Sc_kindOf {E : EE} {l : Launch} (hI : Inj TA E) {w : World} {x1 : Int} (r_x1 : R32 x1) {out : Int} (hf : f_Sc_kindOf w x1 = some out) : ConI TA E l yX8_kindOf (WS yX8_kindOf cX8_kindOf 2 (some .int)) rm_Sc_kindOf [rf E.ad 2, .int (ii x1)] w w out :=
  con_I (by decide +kernel) rfl (Nat.le_of_ble_eq_true rfl) (c1s_r (c1s_i c1s_0 (Nat.le_of_ble_eq_true rfl)) (Nat.le_of_ble_eq_true rfl)).1 ⟨rfl, rfl⟩ hI TnA (fun K H0 k hret => t_Sc_kindOf_0 k r_x1 hf hret)
abbrev rm_Sc_keyOf : Room := { frames := 1, cells := 0, slots := 0, locals := 24 }
noncomputable def f_Sc_keyOf (w : World) (x1 : Int) : Option Int :=
  if x1 < 0 then (some 0) else (if 10 ≤ x1 then (some 0) else (gd (0 ≤ x1 ∧ x1 < 10) (some (w 5 x1.toNat))))
theorem t_Sc_keyOf_0 {E : EE} {K : KT} {l : Launch} {H0 : Heap} (k : Kof TA E K l cX8_keyOf RX8 rm_Sc_keyOf) {w : World} {x1 : Int} (r_x1 : R32 x1) {out : Int} (hf : f_Sc_keyOf w x1 = some out) (hc : (fun out : Int => RetI TA E K H0 cX8_keyOf w out) out) : Jj K (WdT TA E H0) w 0 [some (rf E.ad 2), some (.int (ii x1))] [] := by
  unfold f_Sc_keyOf at hf
  have o := k.1
  have g := k.2.1
  have kr := k.2.2.1
  refine J_iload_n o dX8_keyOf_0 rfl ?_
  refine J_if_lt 19 o dX8_keyOf_1 (by decide) r_x1 (fun c1 => ?_) (fun c2 => ?_)
  · have hf := ite_t c1 hf
    refine J_iconst o dX8_keyOf_19 ?_
    have hf := some_inj hf
    subst hf
    exact hc _ _ rl0 dX8_keyOf_20
  · have hf := ite_f c2 hf
    refine J_iload_n o dX8_keyOf_4 rfl ?_
    refine J_bipush o dX8_keyOf_5 (by decide) ?_
    refine J_icmp_ge 19 o dX8_keyOf_7 (by decide) r_x1 rl10 (fun c3 => ?_) (fun c4 => ?_)
    · have hf := ite_t c3 hf
      refine J_iconst o dX8_keyOf_19 ?_
      have hf := some_inj hf
      subst hf
      exact hc _ _ rl0 dX8_keyOf_20
    · have hf := ite_f c4 hf
      refine J_aload_n o dX8_keyOf_10 rfl ?_
      refine J_getF (true, 5) o g dX8_keyOf_11 flX8_18 kA_2 rfl rfl rfl ?_
      refine J_iload_n o dX8_keyOf_14 rfl ?_
      obtain ⟨g5, hf⟩ := gd_some hf
      refine J_iald o g dX8_keyOf_15 kA_5 r_x1 zA_5 g5 (fun q6 => ?_)
      refine J_goto 20 o dX8_keyOf_16 (by decide) ?_
      have hf := some_inj hf
      subst hf
      exact hc _ _ q6 dX8_keyOf_20
theorem c_Sc_keyOf {E : EE} {l : Launch} (hI : Inj TA E) {w : World} {x1 : Int} (r_x1 : R32 x1) {out : Int} (hf : f_Sc_keyOf w x1 = some out) : ConI TA E l yX8_keyOf (WS yX8_keyOf cX8_keyOf 2 (some .int)) rm_Sc_keyOf [rf E.ad 2, .int (ii x1)] w w out :=
  con_I (by decide +kernel) rfl (Nat.le_of_ble_eq_true rfl) (c1s_r (c1s_i c1s_0 (Nat.le_of_ble_eq_true rfl)) (Nat.le_of_ble_eq_true rfl)).1 ⟨rfl, rfl⟩ hI TnA (fun K H0 k hret => t_Sc_keyOf_0 k r_x1 hf hret)
abbrev rm_Sc_hasOpenKey : Room := { frames := 2, cells := 0, slots := 0, locals := 45 }
noncomputable def f_Sc_hasOpenKey (w : World) (x1 : Int) : Option Int :=
  bnd (f_Sc_kindOf w x1) fun v2 => if v2 = 0 then (bnd (f_Sc_keyOf w x1) fun v7 => bnd (f_Sc_columnsOf w x1) fun v10 => if v10 ≤ v7 then (some 0) else (some 1)) else (some 0)
theorem t_Sc_hasOpenKey_0 {E : EE} {K : KT} {l : Launch} {H0 : Heap} (k : Kof TA E K l cX8_hasOpenKey RX8 rm_Sc_hasOpenKey) {w : World} {x1 : Int} (r_x1 : R32 x1) {out : Int} (hf : f_Sc_hasOpenKey w x1 = some out) (hc : (fun out : Int => RetZ TA E K H0 cX8_hasOpenKey w out) out) : Jj K (WdT TA E H0) w 0 [some (rf E.ad 2), some (.int (ii x1))] [] := by
  unfold f_Sc_hasOpenKey at hf
  have o := k.1
  have g := k.2.1
  have kr := k.2.2.1
  refine J_aload_n o dX8_hasOpenKey_0 rfl ?_
  refine J_iload_n o dX8_hasOpenKey_1 rfl ?_
  obtain ⟨v2, e1, hf⟩ := bnd_some hf
  refine J_vI o g kr dX8_hasOpenKey_2 lkX8_31 ml_Sc_kindOf vl_Sc_kindOf ⟨rfl, rfl, Nat.le_of_ble_eq_true rfl, Nat.le_of_ble_eq_true rfl⟩ (c_Sc_kindOf g.2.1 r_x1 e1) kA_2 rfl ⟨by decide, by decide⟩ rfl rfl c1s_0 (fun q3 => ?_)
  refine J_if_ne 25 o dX8_hasOpenKey_5 (by decide) q3 (fun c4 => ?_) (fun c5 => ?_)
  · have hf := ite_f c4 hf
    refine J_iconst o dX8_hasOpenKey_25 ?_
    have hf := some_inj hf
    subst hf
    exact hc _ _ (Or.inl rfl) dX8_hasOpenKey_26
  · have hf := ite_t c5 hf
    refine J_aload_n o dX8_hasOpenKey_8 rfl ?_
    refine J_iload_n o dX8_hasOpenKey_9 rfl ?_
    obtain ⟨v7, e6, hf⟩ := bnd_some hf
    refine J_vI o g kr dX8_hasOpenKey_10 lkX8_34 ml_Sc_keyOf vl_Sc_keyOf ⟨rfl, rfl, Nat.le_of_ble_eq_true rfl, Nat.le_of_ble_eq_true rfl⟩ (c_Sc_keyOf g.2.1 r_x1 e6) kA_2 rfl ⟨by decide, by decide⟩ rfl rfl c1s_0 (fun q8 => ?_)
    refine J_aload_n o dX8_hasOpenKey_13 rfl ?_
    refine J_iload_n o dX8_hasOpenKey_14 rfl ?_
    obtain ⟨v10, e9, hf⟩ := bnd_some hf
    refine J_vI o g kr dX8_hasOpenKey_15 lkX8_28 ml_Sc_columnsOf vl_Sc_columnsOf ⟨rfl, rfl, Nat.le_of_ble_eq_true rfl, Nat.le_of_ble_eq_true rfl⟩ (c_Sc_columnsOf g.2.1 r_x1 e9) kA_2 rfl ⟨by decide, by decide⟩ rfl rfl (c1s_i c1s_0 (Nat.le_of_ble_eq_true rfl)) (fun q11 => ?_)
    refine J_icmp_ge 25 o dX8_hasOpenKey_18 (by decide) q8 q11 (fun c12 => ?_) (fun c13 => ?_)
    · have hf := ite_t c12 hf
      refine J_iconst o dX8_hasOpenKey_25 ?_
      have hf := some_inj hf
      subst hf
      exact hc _ _ (Or.inl rfl) dX8_hasOpenKey_26
    · have hf := ite_f c13 hf
      refine J_iconst o dX8_hasOpenKey_21 ?_
      refine J_goto 26 o dX8_hasOpenKey_22 (by decide) ?_
      have hf := some_inj hf
      subst hf
      exact hc _ _ (Or.inr rfl) dX8_hasOpenKey_26
theorem c_Sc_hasOpenKey {E : EE} {l : Launch} (hI : Inj TA E) {w : World} {x1 : Int} (r_x1 : R32 x1) {out : Int} (hf : f_Sc_hasOpenKey w x1 = some out) : ConI TA E l yX8_hasOpenKey (WS yX8_hasOpenKey cX8_hasOpenKey 2 (some .boolean)) rm_Sc_hasOpenKey [rf E.ad 2, .int (ii x1)] w w out :=
  con_Z (by decide +kernel) rfl (Nat.le_of_ble_eq_true rfl) (c1s_r (c1s_i c1s_0 (Nat.le_of_ble_eq_true rfl)) (Nat.le_of_ble_eq_true rfl)).1 ⟨rfl, rfl⟩ hI TnA (fun K H0 k hret => t_Sc_hasOpenKey_0 k r_x1 hf hret)
