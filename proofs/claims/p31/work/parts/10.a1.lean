abbrev rm_Dm_shiftOf : Room := { frames := 1, cells := 0, slots := 0, locals := 24 }
noncomputable def f_Dm_shiftOf (x0 : Int) : Option Int :=
  some (wr ((wr (2 - x0)) * 7))
theorem t_Dm_shiftOf_0 {E : EE} {K : KT} {l : Launch} {H0 : Heap} (k : Kof TA E K l cX10_shiftOf RX10 rm_Dm_shiftOf) {w0 : World} {x0 : Int} (r_x0 : R32 x0) {out : Int} (hf : f_Dm_shiftOf x0 = some out) (hc : (fun out : Int => RetI TA E K H0 cX10_shiftOf w0 out) out) : Jj K (WdT TA E H0) w0 0 [some (.int (ii x0))] [] := by
  unfold f_Dm_shiftOf at hf
  have o := k.1
  have g := k.2.1
  have kr := k.2.2.1
  refine J_iconst o dX10_shiftOf_0 ?_
  refine J_iload_n o dX10_shiftOf_1 rfl ?_
  refine J_isub o dX10_shiftOf_2 ?_
  refine J_bipush o dX10_shiftOf_3 (by decide) ?_
  refine J_imul o dX10_shiftOf_5 ?_
  have hf := some_inj hf
  subst hf
  exact hc _ _ (R_wr _) dX10_shiftOf_6
theorem c_Dm_shiftOf {E : EE} {l : Launch} (hI : Inj TA E) {w0 : World} {x0 : Int} (r_x0 : R32 x0) {out : Int} (hf : f_Dm_shiftOf x0 = some out) : ConI TA E l yX10_shiftOf (WS yX10_shiftOf cX10_shiftOf 1 (some .int)) rm_Dm_shiftOf [.int (ii x0)] w0 w0 out :=
  con_I (by decide +kernel) rfl (Nat.le_of_ble_eq_true rfl) (c1s_i c1s_0 (Nat.le_of_ble_eq_true rfl)).1 ⟨rfl, rfl⟩ hI TnA (fun K H0 k hret => t_Dm_shiftOf_0 k r_x0 hf hret)
abbrev rm_Mo_breaksKey : Room := { frames := 2, cells := 0, slots := 0, locals := 45 }
def HW_Mo_breaksKey_26 (E : EE) (K : KT) (H0 : Heap) (w : World) (t0 : Nat) (x2 : Int) : (Int × Int × Int) → Prop := fun z => R32 z.1 → R32 z.2.1 → R32 z.2.2 → ∀ o1 o6 : Option Value, Jj K (WdT TA E H0) w 26 [some (rf E.ad t0), o1, some (.int (ii x2)), some (.int (ii z.1)), some (.int (ii z.2.1)), some (.int (ii z.2.2)), o6] []
noncomputable def f_Mo_breaksKey_79 (w : World) (t0 : Nat) (x2 : Int) (x5 : Int) (x6 : Int) (s0 : Int) : Option ((Int × Int × Int) ⊕ Int) :=
  bl (wr (x5 + 1)) fun n1 => some (Sum.inl (x6, s0, n1))
theorem t_Mo_breaksKey_79 {E : EE} {K : KT} {l : Launch} {H0 : Heap} (k : Kof TA E K l cX5_breaksKey RX5 rm_Mo_breaksKey) {w : World} {t0 : Nat} {x2 : Int} {x5 : Int} {x6 : Int} {s0 : Int} {o1 o3 o4 : Option Value} (k_t0 : TA.kd t0 = 6) (r_x2 : R32 x2) (r_x5 : R32 x5) (r_x6 : R32 x6) (r_s0 : R32 s0) {out : ((Int × Int × Int) ⊕ Int)} (hf : f_Mo_breaksKey_79 w t0 x2 x5 x6 s0 = some out) (hc : (Sum.elim (HW_Mo_breaksKey_26 E K H0 w t0 x2) (fun out : Int => RetZ TA E K H0 cX5_breaksKey w out)) out) : Jj K (WdT TA E H0) w 79 [some (rf E.ad t0), o1, some (.int (ii x2)), o3, o4, some (.int (ii x5)), some (.int (ii x6))] [.int (ii s0)] := by
  unfold f_Mo_breaksKey_79 at hf
  have o := k.1
  have g := k.2.1
  have kr := k.2.2.1
  refine J_istore o dX5_breaksKey_79 (Nat.le_of_ble_eq_true rfl) ?_
  refine J_iload o dX5_breaksKey_81 rfl ?_
  refine J_istore_n o dX5_breaksKey_83 (Nat.le_of_ble_eq_true rfl) ?_
  have hf := bl_out hf
  refine J_iinc o dX5_breaksKey_84 rfl ?_
  refine J_goto 26 o dX5_breaksKey_87 (by decide) ?_
  have hf := some_inj hf
  subst hf
  exact hc r_x6 r_s0 (R_wr _) _ _
noncomputable def f_Mo_breaksKey_78 (w : World) (t0 : Nat) (x2 : Int) (x5 : Int) (x6 : Int) : Option ((Int × Int × Int) ⊕ Int) :=
  f_Mo_breaksKey_79 w t0 x2 x5 x6 0
theorem t_Mo_breaksKey_78 {E : EE} {K : KT} {l : Launch} {H0 : Heap} (k : Kof TA E K l cX5_breaksKey RX5 rm_Mo_breaksKey) {w : World} {t0 : Nat} {x2 : Int} {x5 : Int} {x6 : Int} {o1 o3 o4 : Option Value} (k_t0 : TA.kd t0 = 6) (r_x2 : R32 x2) (r_x5 : R32 x5) (r_x6 : R32 x6) {out : ((Int × Int × Int) ⊕ Int)} (hf : f_Mo_breaksKey_78 w t0 x2 x5 x6 = some out) (hc : (Sum.elim (HW_Mo_breaksKey_26 E K H0 w t0 x2) (fun out : Int => RetZ TA E K H0 cX5_breaksKey w out)) out) : Jj K (WdT TA E H0) w 78 [some (rf E.ad t0), o1, some (.int (ii x2)), o3, o4, some (.int (ii x5)), some (.int (ii x6))] [] := by
  unfold f_Mo_breaksKey_78 at hf
  have o := k.1
  have g := k.2.1
  have kr := k.2.2.1
  refine J_iconst o dX5_breaksKey_78 ?_
  exact t_Mo_breaksKey_79 k k_t0 r_x2 r_x5 r_x6 rl0 hf hc
noncomputable def f_Mo_breaksKey_26B (w : World) (t0 : Nat) (x2 : Int) (x3 : Int) (x4 : Int) (x5 : Int) : Option ((Int × Int × Int) ⊕ Int) :=
  if 48 ≤ x5 then (gd (x4 = 0 ∨ x4 = 1) (some (Sum.inr x4))) else (if x3 = (-1) then (gd (x4 = 0 ∨ x4 = 1) (some (Sum.inr x4))) else (if x4 = 0 then (bnd (f_Mo_nextOf w t0 x3) fun v11 => if v11 = (-1) then (f_Mo_breaksKey_78 w t0 x2 x5 v11) else (bnd (f_Mo_codeOf w t0 v11) fun v16 => bnd (f_Mo_codeOf w t0 x3) fun v19 => if (ishr v16 x2) = (ishr v19 x2) then (f_Mo_breaksKey_79 w t0 x2 x5 v11 1) else (f_Mo_breaksKey_78 w t0 x2 x5 v11))) else (gd (x4 = 0 ∨ x4 = 1) (some (Sum.inr x4)))))
theorem t_Mo_breaksKey_26B {E : EE} {K : KT} {l : Launch} {H0 : Heap} (k : Kof TA E K l cX5_breaksKey RX5 rm_Mo_breaksKey) {w : World} {t0 : Nat} {x2 : Int} {x3 : Int} {x4 : Int} {x5 : Int} {o1 o6 : Option Value} (k_t0 : TA.kd t0 = 6) (r_x2 : R32 x2) (r_x3 : R32 x3) (r_x4 : R32 x4) (r_x5 : R32 x5) {out : ((Int × Int × Int) ⊕ Int)} (hf : f_Mo_breaksKey_26B w t0 x2 x3 x4 x5 = some out) (hc : (Sum.elim (HW_Mo_breaksKey_26 E K H0 w t0 x2) (fun out : Int => RetZ TA E K H0 cX5_breaksKey w out)) out) : Jj K (WdT TA E H0) w 26 [some (rf E.ad t0), o1, some (.int (ii x2)), some (.int (ii x3)), some (.int (ii x4)), some (.int (ii x5)), o6] [] := by
  unfold f_Mo_breaksKey_26B at hf
  have o := k.1
  have g := k.2.1
  have kr := k.2.2.1
  refine J_iload o dX5_breaksKey_26 rfl ?_
  refine J_bipush o dX5_breaksKey_28 (by decide) ?_
  refine J_icmp_ge 90 o dX5_breaksKey_30 (by decide) r_x5 rl48 (fun c1 => ?_) (fun c2 => ?_)
  · have hf := ite_t c1 hf
    refine J_iload o dX5_breaksKey_90 rfl ?_
    obtain ⟨g3, hf⟩ := gd_some hf
    have hf := some_inj hf
    subst hf
    exact hc _ _ g3 dX5_breaksKey_92
  · have hf := ite_f c2 hf
    refine J_iload_n o dX5_breaksKey_33 rfl ?_
    refine J_iconst o dX5_breaksKey_34 ?_
    refine J_icmp_eq 90 o dX5_breaksKey_35 (by decide) r_x3 rlm1 (fun c4 => ?_) (fun c5 => ?_)
    · have hf := ite_t c4 hf
      refine J_iload o dX5_breaksKey_90 rfl ?_
      obtain ⟨g6, hf⟩ := gd_some hf
      have hf := some_inj hf
      subst hf
      exact hc _ _ g6 dX5_breaksKey_92
    · have hf := ite_f c5 hf
      refine J_iload o dX5_breaksKey_38 rfl ?_
      refine J_if_ne 90 o dX5_breaksKey_40 (by decide) r_x4 (fun c7 => ?_) (fun c8 => ?_)
      · have hf := ite_f c7 hf
        refine J_iload o dX5_breaksKey_90 rfl ?_
        obtain ⟨g9, hf⟩ := gd_some hf
        have hf := some_inj hf
        subst hf
        exact hc _ _ g9 dX5_breaksKey_92
      · have hf := ite_t c8 hf
        refine J_aload_n o dX5_breaksKey_43 rfl ?_
        refine J_iload_n o dX5_breaksKey_44 rfl ?_
        obtain ⟨v11, e10, hf⟩ := bnd_some hf
        refine J_vI o g kr dX5_breaksKey_45 lkX5_40 ml_Mo_nextOf vl_Mo_nextOf ⟨rfl, rfl, Nat.le_of_ble_eq_true rfl, Nat.le_of_ble_eq_true rfl⟩ (c_Mo_nextOf g.2.1 k_t0 r_x3 e10) k_t0 rfl ⟨by decide, by decide⟩ rfl rfl c1s_0 (fun q12 => ?_)
        refine J_istore o dX5_breaksKey_48 (Nat.le_of_ble_eq_true rfl) ?_
        refine J_iload o dX5_breaksKey_50 rfl ?_
        refine J_iconst o dX5_breaksKey_52 ?_
        refine J_icmp_eq 78 o dX5_breaksKey_53 (by decide) q12 rlm1 (fun c13 => ?_) (fun c14 => ?_)
        · have hf := ite_t c13 hf
          exact t_Mo_breaksKey_78 k k_t0 r_x2 r_x5 q12 hf hc
        · have hf := ite_f c14 hf
          refine J_aload_n o dX5_breaksKey_56 rfl ?_
          refine J_iload o dX5_breaksKey_57 rfl ?_
          obtain ⟨v16, e15, hf⟩ := bnd_some hf
          refine J_vI o g kr dX5_breaksKey_59 lkX5_52 ml_Mo_codeOf vl_Mo_codeOf ⟨rfl, rfl, Nat.le_of_ble_eq_true rfl, Nat.le_of_ble_eq_true rfl⟩ (c_Mo_codeOf g.2.1 k_t0 q12 e15) k_t0 rfl ⟨by decide, by decide⟩ rfl rfl c1s_0 (fun q17 => ?_)
          refine J_iload_n o dX5_breaksKey_62 rfl ?_
          refine J_ishr o dX5_breaksKey_63 ?_
          refine J_aload_n o dX5_breaksKey_64 rfl ?_
          refine J_iload_n o dX5_breaksKey_65 rfl ?_
          obtain ⟨v19, e18, hf⟩ := bnd_some hf
          refine J_vI o g kr dX5_breaksKey_66 lkX5_52 ml_Mo_codeOf vl_Mo_codeOf ⟨rfl, rfl, Nat.le_of_ble_eq_true rfl, Nat.le_of_ble_eq_true rfl⟩ (c_Mo_codeOf g.2.1 k_t0 r_x3 e18) k_t0 rfl ⟨by decide, by decide⟩ rfl rfl (c1s_i c1s_0 (Nat.le_of_ble_eq_true rfl)) (fun q20 => ?_)
          refine J_iload_n o dX5_breaksKey_69 rfl ?_
          refine J_ishr o dX5_breaksKey_70 ?_
          refine J_icmp_ne 78 o dX5_breaksKey_71 (by decide) (R_ishr _ _) (R_ishr _ _) (fun c21 => ?_) (fun c22 => ?_)
          · have hf := ite_f c21 hf
            exact t_Mo_breaksKey_78 k k_t0 r_x2 r_x5 q12 hf hc
          · have hf := ite_t c22 hf
            refine J_iconst o dX5_breaksKey_74 ?_
            refine J_goto 79 o dX5_breaksKey_75 (by decide) ?_
            exact t_Mo_breaksKey_79 k k_t0 r_x2 r_x5 q12 rl1 hf hc
noncomputable def f_Mo_breaksKey_26 (w : World) (t0 : Nat) (x2 : Int) (x3 : Int) (x4 : Int) (x5 : Int) : Option Int :=
  lp (fun z : (Int × Int × Int) => f_Mo_breaksKey_26B w t0 x2 z.1 z.2.1 z.2.2) (x3, x4, x5)
theorem t_Mo_breaksKey_26 {E : EE} {K : KT} {l : Launch} {H0 : Heap} (k : Kof TA E K l cX5_breaksKey RX5 rm_Mo_breaksKey) {w : World} {t0 : Nat} {x2 : Int} {x3 : Int} {x4 : Int} {x5 : Int} (k_t0 : TA.kd t0 = 6) (r_x2 : R32 x2) {out : Int} (hf : f_Mo_breaksKey_26 w t0 x2 x3 x4 x5 = some out) (hc : (fun out : Int => RetZ TA E K H0 cX5_breaksKey w out) out) : HW_Mo_breaksKey_26 E K H0 w t0 x2 (x3, x4, x5) := by
  unfold f_Mo_breaksKey_26 at hf
  refine lp_ind (P := HW_Mo_breaksKey_26 E K H0 w t0 x2) hf ?_
  intro z o hs h1 h2
  intro r_x3 r_x4 r_x5
  intro o1 o6
  refine t_Mo_breaksKey_26B k k_t0 r_x2 r_x3 r_x4 r_x5 hs ?_
  cases o with
  | inl z' => exact h1 z' rfl
  | inr r' => rw [h2 r' rfl]; exact hc
noncomputable def f_Mo_breaksKey (w : World) (t0 : Nat) (x1 : Int) : Option Int :=
  bnd (f_Sc_keyOf w x1) fun v2 => bnd (f_Dm_shiftOf (wr (v2 - 1))) fun v5 => bnd (f_Mo_firstOf w t0 x1) fun v8 => f_Mo_breaksKey_26 w t0 v5 v8 0 0
theorem t_Mo_breaksKey_0 {E : EE} {K : KT} {l : Launch} {H0 : Heap} (k : Kof TA E K l cX5_breaksKey RX5 rm_Mo_breaksKey) {w : World} {t0 : Nat} {x1 : Int} {o2 o3 o4 o5 o6 : Option Value} (k_t0 : TA.kd t0 = 6) (r_x1 : R32 x1) {out : Int} (hf : f_Mo_breaksKey w t0 x1 = some out) (hc : (fun out : Int => RetZ TA E K H0 cX5_breaksKey w out) out) : Jj K (WdT TA E H0) w 0 [some (rf E.ad t0), some (.int (ii x1)), o2, o3, o4, o5, o6] [] := by
  unfold f_Mo_breaksKey at hf
  have o := k.1
  have g := k.2.1
  have kr := k.2.2.1
  refine J_aload_n o dX5_breaksKey_0 rfl ?_
  refine J_getF (true, 2) o g dX5_breaksKey_1 flX5_24 k_t0 rfl rfl rfl ?_
  refine J_iload_n o dX5_breaksKey_4 rfl ?_
  obtain ⟨v2, e1, hf⟩ := bnd_some hf
  refine J_vI o g kr dX5_breaksKey_5 lkX5_77 ml_Sc_keyOf vl_Sc_keyOf ⟨rfl, rfl, Nat.le_of_ble_eq_true rfl, Nat.le_of_ble_eq_true rfl⟩ (c_Sc_keyOf g.2.1 r_x1 e1) kA_2 rfl ⟨by decide, by decide⟩ rfl rfl c1s_0 (fun q3 => ?_)
  refine J_iconst o dX5_breaksKey_8 ?_
  refine J_isub o dX5_breaksKey_9 ?_
  obtain ⟨v5, e4, hf⟩ := bnd_some hf
  refine J_sI o g kr dX5_breaksKey_10 lkX5_80 ml_Dm_shiftOf mw567 ⟨rfl, rfl, Nat.le_of_ble_eq_true rfl, Nat.le_of_ble_eq_true rfl⟩ (c_Dm_shiftOf g.2.1 (R_wr _) e4) rfl rfl c1s_0 (fun q6 => ?_)
  refine J_istore_n o dX5_breaksKey_13 (Nat.le_of_ble_eq_true rfl) ?_
  refine J_aload_n o dX5_breaksKey_14 rfl ?_
  refine J_iload_n o dX5_breaksKey_15 rfl ?_
  obtain ⟨v8, e7, hf⟩ := bnd_some hf
  refine J_vI o g kr dX5_breaksKey_16 lkX5_36 ml_Mo_firstOf vl_Mo_firstOf ⟨rfl, rfl, Nat.le_of_ble_eq_true rfl, Nat.le_of_ble_eq_true rfl⟩ (c_Mo_firstOf g.2.1 k_t0 r_x1 e7) k_t0 rfl ⟨by decide, by decide⟩ rfl rfl c1s_0 (fun q9 => ?_)
  refine J_istore_n o dX5_breaksKey_19 (Nat.le_of_ble_eq_true rfl) ?_
  refine J_iconst o dX5_breaksKey_20 ?_
  refine J_istore o dX5_breaksKey_21 (Nat.le_of_ble_eq_true rfl) ?_
  refine J_iconst o dX5_breaksKey_23 ?_
  refine J_istore o dX5_breaksKey_24 (Nat.le_of_ble_eq_true rfl) ?_
  exact (t_Mo_breaksKey_26 k k_t0 q6 hf hc) q9 rl0 rl0 _ _
theorem c_Mo_breaksKey {E : EE} {l : Launch} (hI : Inj TA E) {w : World} {t0 : Nat} {x1 : Int} (k_t0 : TA.kd t0 = 6) (r_x1 : R32 x1) {out : Int} (hf : f_Mo_breaksKey w t0 x1 = some out) : ConI TA E l yX5_breaksKey (WS yX5_breaksKey cX5_breaksKey 7 (some .boolean)) rm_Mo_breaksKey [rf E.ad t0, .int (ii x1)] w w out :=
  con_Z (by decide +kernel) rfl (Nat.le_of_ble_eq_true rfl) (c1s_r (c1s_i c1s_0 (Nat.le_of_ble_eq_true rfl)) (Nat.le_of_ble_eq_true rfl)).1 ⟨rfl, rfl⟩ hI TnA (fun K H0 k hret => t_Mo_breaksKey_0 k k_t0 r_x1 hf hret)
abbrev rm_Dm_brokenIn : Room := { frames := 5, cells := 0, slots := 0, locals := 123 }
def HW_Dm_brokenIn_4 (E : EE) (K : KT) (H0 : Heap) (t1 : Nat) : (World × Int × Int) → Prop := fun z => R32 z.2.1 → R32 z.2.2 → ∀ o4 : Option Value, Jj K (WdT TA E H0) z.1 4 [some (rf E.ad 1), some (rf E.ad t1), some (.int (ii z.2.1)), some (.int (ii z.2.2)), o4] []
def HW_Dm_brokenIn_61 (E : EE) (K : KT) (H0 : Heap) (w : World) (t1 : Nat) : (Int × Int) → Prop := fun z => R32 z.1 → R32 z.2 → ∀ o4 : Option Value, Jj K (WdT TA E H0) w 61 [some (rf E.ad 1), some (rf E.ad t1), some (.int (ii z.1)), some (.int (ii z.2)), o4] []
noncomputable def f_Dm_brokenIn_89 (w : World) (t1 : Nat) (x2 : Int) (x3 : Int) : Option ((Int × Int) ⊕ (World × Int)) :=
  bl (wr (x3 + 1)) fun n1 => some (Sum.inl (x2, n1))
theorem t_Dm_brokenIn_89 {E : EE} {K : KT} {l : Launch} {H0 : Heap} (k : Kof TA E K l cX10_brokenIn RX10 rm_Dm_brokenIn) {w : World} {t1 : Nat} {x2 : Int} {x3 : Int} {o4 : Option Value} (k_t1 : TA.kd t1 = 6) (r_x2 : R32 x2) (r_x3 : R32 x3) {out : ((Int × Int) ⊕ (World × Int))} (hf : f_Dm_brokenIn_89 w t1 x2 x3 = some out) (hc : (Sum.elim (HW_Dm_brokenIn_61 E K H0 w t1) (fun out : (World × Int) => RetI TA E K H0 cX10_brokenIn out.1 out.2)) out) : Jj K (WdT TA E H0) w 89 [some (rf E.ad 1), some (rf E.ad t1), some (.int (ii x2)), some (.int (ii x3)), o4] [] := by
  unfold f_Dm_brokenIn_89 at hf
  have o := k.1
  have g := k.2.1
  have kr := k.2.2.1
  have hf := bl_out hf
  refine J_iinc o dX10_brokenIn_89 rfl ?_
  refine J_goto 61 o dX10_brokenIn_92 (by decide) ?_
  have hf := some_inj hf
  subst hf
  exact hc r_x2 (R_wr _) _
noncomputable def f_Dm_brokenIn_61B (w : World) (t1 : Nat) (x2 : Int) (x3 : Int) : Option ((Int × Int) ⊕ (World × Int)) :=
  if 10 ≤ x3 then (some (Sum.inr (w, x2))) else (bnd (f_Sc_hasOpenKey w x3) fun v4 => if v4 = 0 then (f_Dm_brokenIn_89 w t1 x2 x3) else (bnd (f_Mo_breaksKey w t1 x3) fun v9 => if v9 = 0 then (f_Dm_brokenIn_89 w t1 x2 x3) else (bl (wr (x2 + 1)) fun n13 => f_Dm_brokenIn_89 w t1 n13 x3)))
theorem t_Dm_brokenIn_61B {E : EE} {K : KT} {l : Launch} {H0 : Heap} (k : Kof TA E K l cX10_brokenIn RX10 rm_Dm_brokenIn) {w : World} {t1 : Nat} {x2 : Int} {x3 : Int} {o4 : Option Value} (k_t1 : TA.kd t1 = 6) (r_x2 : R32 x2) (r_x3 : R32 x3) {out : ((Int × Int) ⊕ (World × Int))} (hf : f_Dm_brokenIn_61B w t1 x2 x3 = some out) (hc : (Sum.elim (HW_Dm_brokenIn_61 E K H0 w t1) (fun out : (World × Int) => RetI TA E K H0 cX10_brokenIn out.1 out.2)) out) : Jj K (WdT TA E H0) w 61 [some (rf E.ad 1), some (rf E.ad t1), some (.int (ii x2)), some (.int (ii x3)), o4] [] := by
  unfold f_Dm_brokenIn_61B at hf
  have o := k.1
  have g := k.2.1
  have kr := k.2.2.1
  refine J_iload_n o dX10_brokenIn_61 rfl ?_
  refine J_bipush o dX10_brokenIn_62 (by decide) ?_
  refine J_icmp_ge 95 o dX10_brokenIn_64 (by decide) r_x3 rl10 (fun c1 => ?_) (fun c2 => ?_)
  · have hf := ite_t c1 hf
    refine J_iload_n o dX10_brokenIn_95 rfl ?_
    have hf := some_inj hf
    subst hf
    exact hc _ _ r_x2 dX10_brokenIn_96
  · have hf := ite_f c2 hf
    refine J_aload_n o dX10_brokenIn_67 rfl ?_
    refine J_getF (true, 2) o g dX10_brokenIn_68 flX10_31 kA_1 rfl rfl rfl ?_
    refine J_iload_n o dX10_brokenIn_71 rfl ?_
    obtain ⟨v4, e3, hf⟩ := bnd_some hf
    refine J_vI o g kr dX10_brokenIn_72 lkX10_425 ml_Sc_hasOpenKey vl_Sc_hasOpenKey ⟨rfl, rfl, Nat.le_of_ble_eq_true rfl, Nat.le_of_ble_eq_true rfl⟩ (c_Sc_hasOpenKey g.2.1 r_x3 e3) kA_2 rfl ⟨by decide, by decide⟩ rfl rfl c1s_0 (fun q5 => ?_)
    refine J_if_eq 89 o dX10_brokenIn_75 (by decide) q5 (fun c6 => ?_) (fun c7 => ?_)
    · have hf := ite_t c6 hf
      exact t_Dm_brokenIn_89 k k_t1 r_x2 r_x3 hf hc
    · have hf := ite_f c7 hf
      refine J_aload_n o dX10_brokenIn_78 rfl ?_
      refine J_iload_n o dX10_brokenIn_79 rfl ?_
      obtain ⟨v9, e8, hf⟩ := bnd_some hf
      refine J_vI o g kr dX10_brokenIn_80 lkX10_428 ml_Mo_breaksKey vl_Mo_breaksKey ⟨rfl, rfl, Nat.le_of_ble_eq_true rfl, Nat.le_of_ble_eq_true rfl⟩ (c_Mo_breaksKey g.2.1 k_t1 r_x3 e8) k_t1 rfl ⟨by decide, by decide⟩ rfl rfl c1s_0 (fun q10 => ?_)
      refine J_if_eq 89 o dX10_brokenIn_83 (by decide) q10 (fun c11 => ?_) (fun c12 => ?_)
      · have hf := ite_t c11 hf
        exact t_Dm_brokenIn_89 k k_t1 r_x2 r_x3 hf hc
      · have hf := ite_f c12 hf
        have hf := bl_out hf
        refine J_iinc o dX10_brokenIn_86 rfl ?_
        exact t_Dm_brokenIn_89 k k_t1 (R_wr _) r_x3 hf hc
noncomputable def f_Dm_brokenIn_61 (w : World) (t1 : Nat) (x2 : Int) (x3 : Int) : Option (World × Int) :=
  lp (fun z : (Int × Int) => f_Dm_brokenIn_61B w t1 z.1 z.2) (x2, x3)
theorem t_Dm_brokenIn_61 {E : EE} {K : KT} {l : Launch} {H0 : Heap} (k : Kof TA E K l cX10_brokenIn RX10 rm_Dm_brokenIn) {w : World} {t1 : Nat} {x2 : Int} {x3 : Int} (k_t1 : TA.kd t1 = 6) {out : (World × Int)} (hf : f_Dm_brokenIn_61 w t1 x2 x3 = some out) (hc : (fun out : (World × Int) => RetI TA E K H0 cX10_brokenIn out.1 out.2) out) : HW_Dm_brokenIn_61 E K H0 w t1 (x2, x3) := by
  unfold f_Dm_brokenIn_61 at hf
  refine lp_ind (P := HW_Dm_brokenIn_61 E K H0 w t1) hf ?_
  intro z o hs h1 h2
  intro r_x2 r_x3
  intro o4
  refine t_Dm_brokenIn_61B k k_t1 r_x2 r_x3 hs ?_
  cases o with
  | inl z' => exact h1 z' rfl
  | inr r' => rw [h2 r' rfl]; exact hc
noncomputable def f_Dm_brokenIn_53 (w : World) (t1 : Nat) (x2 : Int) (x3 : Int) : Option ((World × Int × Int) ⊕ (World × Int)) :=
  bl (wr (x3 + 1)) fun n1 => some (Sum.inl (w, x2, n1))
theorem t_Dm_brokenIn_53 {E : EE} {K : KT} {l : Launch} {H0 : Heap} (k : Kof TA E K l cX10_brokenIn RX10 rm_Dm_brokenIn) {w : World} {t1 : Nat} {x2 : Int} {x3 : Int} {o4 : Option Value} (k_t1 : TA.kd t1 = 6) (r_x2 : R32 x2) (r_x3 : R32 x3) {out : ((World × Int × Int) ⊕ (World × Int))} (hf : f_Dm_brokenIn_53 w t1 x2 x3 = some out) (hc : (Sum.elim (HW_Dm_brokenIn_4 E K H0 t1) (fun out : (World × Int) => RetI TA E K H0 cX10_brokenIn out.1 out.2)) out) : Jj K (WdT TA E H0) w 53 [some (rf E.ad 1), some (rf E.ad t1), some (.int (ii x2)), some (.int (ii x3)), o4] [] := by
  unfold f_Dm_brokenIn_53 at hf
  have o := k.1
  have g := k.2.1
  have kr := k.2.2.1
  have hf := bl_out hf
  refine J_iinc o dX10_brokenIn_53 rfl ?_
  refine J_goto 4 o dX10_brokenIn_56 (by decide) ?_
  have hf := some_inj hf
  subst hf
  exact hc r_x2 (R_wr _) _
noncomputable def f_Dm_brokenIn_4B (w : World) (t1 : Nat) (x2 : Int) (x3 : Int) : Option ((World × Int × Int) ⊕ (World × Int)) :=
  if (w 14 5) ≤ x3 then (bnd (f_Dm_brokenIn_61 w t1 x2 0) fun y4 => some (Sum.inr y4)) else (bnd (f_Pr_denial w x3) fun v6 => gd (kdA v6 = 1) (bnd (f_Wa_begin w v6 t1 (w v6 0)) fun v11 => bnd (f_Wa_next v11 ) fun v14 => if v14.2 = 0 then (f_Dm_brokenIn_53 v14.1 t1 x2 x3) else (bl (wr (x2 + 1)) fun n18 => f_Dm_brokenIn_53 v14.1 t1 n18 x3)))
theorem t_Dm_brokenIn_4B {E : EE} {K : KT} {l : Launch} {H0 : Heap} (k : Kof TA E K l cX10_brokenIn RX10 rm_Dm_brokenIn) {w : World} {t1 : Nat} {x2 : Int} {x3 : Int} {o4 : Option Value} (k_t1 : TA.kd t1 = 6) (r_x2 : R32 x2) (r_x3 : R32 x3) {out : ((World × Int × Int) ⊕ (World × Int))} (hf : f_Dm_brokenIn_4B w t1 x2 x3 = some out) (hc : (Sum.elim (HW_Dm_brokenIn_4 E K H0 t1) (fun out : (World × Int) => RetI TA E K H0 cX10_brokenIn out.1 out.2)) out) : Jj K (WdT TA E H0) w 4 [some (rf E.ad 1), some (rf E.ad t1), some (.int (ii x2)), some (.int (ii x3)), o4] [] := by
  unfold f_Dm_brokenIn_4B at hf
  have o := k.1
  have g := k.2.1
  have kr := k.2.2.1
  refine J_iload_n o dX10_brokenIn_4 rfl ?_
  refine J_aload_n o dX10_brokenIn_5 rfl ?_
  refine J_getF (true, 14) o g dX10_brokenIn_6 flX10_39 kA_1 rfl rfl rfl ?_
  refine J_getI o g dX10_brokenIn_9 flX10_236 kA_14 rfl (fun q1 => ?_)
  refine J_icmp_ge 59 o dX10_brokenIn_12 (by decide) r_x3 q1 (fun c2 => ?_) (fun c3 => ?_)
  · have hf := ite_t c2 hf
    refine J_iconst o dX10_brokenIn_59 ?_
    refine J_istore_n o dX10_brokenIn_60 (Nat.le_of_ble_eq_true rfl) ?_
    obtain ⟨y4, hf1, hf⟩ := bnd_some hf
    have hf := some_inj hf
    subst hf
    exact (t_Dm_brokenIn_61 k k_t1 hf1 hc) r_x2 rl0 _
  · have hf := ite_f c3 hf
    refine J_aload_n o dX10_brokenIn_15 rfl ?_
    refine J_getF (true, 14) o g dX10_brokenIn_16 flX10_39 kA_1 rfl rfl rfl ?_
    refine J_iload_n o dX10_brokenIn_19 rfl ?_
    obtain ⟨v6, e5, hf⟩ := bnd_some hf
    refine J_vR o g kr dX10_brokenIn_20 lkX10_422 ml_Pr_denial vl_Pr_denial ⟨rfl, rfl, Nat.le_of_ble_eq_true rfl, Nat.le_of_ble_eq_true rfl⟩ (c_Pr_denial g.2.1 r_x3 e5) kA_14 rfl ⟨by decide, by decide⟩ rfl rfl c1s_0 ?_
    refine J_astore o dX10_brokenIn_23 (Nat.le_of_ble_eq_true rfl) ?_
    refine J_aload_n o dX10_brokenIn_25 rfl ?_
    refine J_getF (true, 103) o g dX10_brokenIn_26 flX10_51 kA_1 rfl rfl rfl ?_
    refine J_aload o dX10_brokenIn_29 rfl ?_
    refine J_aload_n o dX10_brokenIn_31 rfl ?_
    refine J_aload o dX10_brokenIn_32 rfl ?_
    obtain ⟨g8, hf⟩ := gd_some hf
    refine J_getI o g dX10_brokenIn_34 flX10_187 g8 rfl (fun q9 => ?_)
    obtain ⟨v11, e10, hf⟩ := bnd_some hf
    refine J_vV o g kr dX10_brokenIn_37 lkX10_395 ml_Wa_begin vl_Wa_begin ⟨rfl, rfl, Nat.le_of_ble_eq_true rfl, Nat.le_of_ble_eq_true rfl⟩ (c_Wa_begin g.2.1 g8 k_t1 q9 e10) kA_103 rfl ⟨by decide, by decide⟩ rfl rfl c1s_0 ?_
    refine J_aload_n o dX10_brokenIn_40 rfl ?_
    refine J_getF (true, 103) o g dX10_brokenIn_41 flX10_51 kA_1 rfl rfl rfl ?_
    obtain ⟨v14, e13, hf⟩ := bnd_some hf
    refine J_vI o g kr dX10_brokenIn_44 lkX10_392 ml_Wa_next vl_Wa_next ⟨rfl, rfl, Nat.le_of_ble_eq_true rfl, Nat.le_of_ble_eq_true rfl⟩ (c_Wa_next g.2.1  e13) kA_103 rfl ⟨by decide, by decide⟩ rfl rfl c1s_0 (fun q15 => ?_)
    refine J_if_eq 53 o dX10_brokenIn_47 (by decide) q15 (fun c16 => ?_) (fun c17 => ?_)
    · have hf := ite_t c16 hf
      exact t_Dm_brokenIn_53 k k_t1 r_x2 r_x3 hf hc
    · have hf := ite_f c17 hf
      have hf := bl_out hf
      refine J_iinc o dX10_brokenIn_50 rfl ?_
      exact t_Dm_brokenIn_53 k k_t1 (R_wr _) r_x3 hf hc
noncomputable def f_Dm_brokenIn_4 (w : World) (t1 : Nat) (x2 : Int) (x3 : Int) : Option (World × Int) :=
  lp (fun z : (World × Int × Int) => f_Dm_brokenIn_4B z.1 t1 z.2.1 z.2.2) (w, x2, x3)
theorem t_Dm_brokenIn_4 {E : EE} {K : KT} {l : Launch} {H0 : Heap} (k : Kof TA E K l cX10_brokenIn RX10 rm_Dm_brokenIn) {w : World} {t1 : Nat} {x2 : Int} {x3 : Int} (k_t1 : TA.kd t1 = 6) {out : (World × Int)} (hf : f_Dm_brokenIn_4 w t1 x2 x3 = some out) (hc : (fun out : (World × Int) => RetI TA E K H0 cX10_brokenIn out.1 out.2) out) : HW_Dm_brokenIn_4 E K H0 t1 (w, x2, x3) := by
  unfold f_Dm_brokenIn_4 at hf
  refine lp_ind (P := HW_Dm_brokenIn_4 E K H0 t1) hf ?_
  intro z o hs h1 h2
  intro r_x2 r_x3
  intro o4
  refine t_Dm_brokenIn_4B k k_t1 r_x2 r_x3 hs ?_
  cases o with
  | inl z' => exact h1 z' rfl
  | inr r' => rw [h2 r' rfl]; exact hc
noncomputable def f_Dm_brokenIn (w : World) (t1 : Nat) : Option (World × Int) :=
  f_Dm_brokenIn_4 w t1 0 0
theorem t_Dm_brokenIn_0 {E : EE} {K : KT} {l : Launch} {H0 : Heap} (k : Kof TA E K l cX10_brokenIn RX10 rm_Dm_brokenIn) {w : World} {t1 : Nat} {o2 o3 o4 : Option Value} (k_t1 : TA.kd t1 = 6) {out : (World × Int)} (hf : f_Dm_brokenIn w t1 = some out) (hc : (fun out : (World × Int) => RetI TA E K H0 cX10_brokenIn out.1 out.2) out) : Jj K (WdT TA E H0) w 0 [some (rf E.ad 1), some (rf E.ad t1), o2, o3, o4] [] := by
  unfold f_Dm_brokenIn at hf
  have o := k.1
  have g := k.2.1
  have kr := k.2.2.1
  refine J_iconst o dX10_brokenIn_0 ?_
  refine J_istore_n o dX10_brokenIn_1 (Nat.le_of_ble_eq_true rfl) ?_
  refine J_iconst o dX10_brokenIn_2 ?_
  refine J_istore_n o dX10_brokenIn_3 (Nat.le_of_ble_eq_true rfl) ?_
  exact (t_Dm_brokenIn_4 k k_t1 hf hc) rl0 rl0 _
theorem c_Dm_brokenIn {E : EE} {l : Launch} (hI : Inj TA E) {w : World} {t1 : Nat} (k_t1 : TA.kd t1 = 6) {out : (World × Int)} (hf : f_Dm_brokenIn w t1 = some out) : ConI TA E l yX10_brokenIn (WS yX10_brokenIn cX10_brokenIn 5 (some .int)) rm_Dm_brokenIn [rf E.ad 1, rf E.ad t1] w out.1 out.2 :=
  con_I (by decide +kernel) rfl (Nat.le_of_ble_eq_true rfl) (c1s_r (c1s_r c1s_0 (Nat.le_of_ble_eq_true rfl)) (Nat.le_of_ble_eq_true rfl)).1 ⟨rfl, rfl⟩ hI TnA (fun K H0 k hret => t_Dm_brokenIn_0 k k_t1 hf hret)
abbrev rm_Dm_broken : Room := { frames := 6, cells := 0, slots := 0, locals := 147 }
noncomputable def f_Dm_broken (w : World) : Option (World × Int) :=
  bnd (f_Dm_present w ) fun v2 => gd (kdA v2 = 6) (bnd (f_Dm_brokenIn w v2) fun v6 => some (v6.1, v6.2))
theorem t_Dm_broken_0 {E : EE} {K : KT} {l : Launch} {H0 : Heap} (k : Kof TA E K l cX10_broken RX10 rm_Dm_broken) {w : World}  {out : (World × Int)} (hf : f_Dm_broken w = some out) (hc : (fun out : (World × Int) => RetI TA E K H0 cX10_broken out.1 out.2) out) : Jj K (WdT TA E H0) w 0 [some (rf E.ad 1)] [] := by
  unfold f_Dm_broken at hf
  have o := k.1
  have g := k.2.1
  have kr := k.2.2.1
  refine J_aload_n o dX10_broken_0 rfl ?_
  refine J_aload_n o dX10_broken_1 rfl ?_
  obtain ⟨v2, e1, hf⟩ := bnd_some hf
  refine J_vR o g kr dX10_broken_2 lkX10_261 ml_Dm_present vl_Dm_present ⟨rfl, rfl, Nat.le_of_ble_eq_true rfl, Nat.le_of_ble_eq_true rfl⟩ (c_Dm_present g.2.1  e1) kA_1 rfl ⟨by decide, by decide⟩ rfl rfl (c1s_r c1s_0 (Nat.le_of_ble_eq_true rfl)) ?_
  obtain ⟨g4, hf⟩ := gd_some hf
  obtain ⟨v6, e5, hf⟩ := bnd_some hf
  refine J_vI o g kr dX10_broken_5 lkX10_323 ml_Dm_brokenIn vl_Dm_brokenIn ⟨rfl, rfl, Nat.le_of_ble_eq_true rfl, Nat.le_of_ble_eq_true rfl⟩ (c_Dm_brokenIn g.2.1 g4 e5) kA_1 rfl ⟨by decide, by decide⟩ rfl rfl c1s_0 (fun q7 => ?_)
  have hf := some_inj hf
  subst hf
  exact hc _ _ q7 dX10_broken_8
theorem c_Dm_broken {E : EE} {l : Launch} (hI : Inj TA E) {w : World}  {out : (World × Int)} (hf : f_Dm_broken w = some out) : ConI TA E l yX10_broken (WS yX10_broken cX10_broken 1 (some .int)) rm_Dm_broken [rf E.ad 1] w out.1 out.2 :=
  con_I (by decide +kernel) rfl (Nat.le_of_ble_eq_true rfl) (c1s_r c1s_0 (Nat.le_of_ble_eq_true rfl)).1 ⟨rfl, rfl⟩ hI TnA (fun K H0 k hret => t_Dm_broken_0 k  hf hret)
abbrev rm_Fa_isFact : Room := { frames := 1, cells := 0, slots := 0, locals := 24 }
noncomputable def f_Fa_isFact (w : World) (x1 : Int) : Option Int :=
  if x1 < 0 then (some 0) else (if (w 7 0) ≤ x1 then (some 0) else (if 24 ≤ x1 then (some 0) else (some 1)))
theorem t_Fa_isFact_0 {E : EE} {K : KT} {l : Launch} {H0 : Heap} (k : Kof TA E K l cX2_isFact RX2 rm_Fa_isFact) {w : World} {x1 : Int} (r_x1 : R32 x1) {out : Int} (hf : f_Fa_isFact w x1 = some out) (hc : (fun out : Int => RetZ TA E K H0 cX2_isFact w out) out) : Jj K (WdT TA E H0) w 0 [some (rf E.ad 7), some (.int (ii x1))] [] := by
  unfold f_Fa_isFact at hf
  have o := k.1
  have g := k.2.1
  have kr := k.2.2.1
  refine J_iload_n o dX2_isFact_0 rfl ?_
  refine J_if_lt 22 o dX2_isFact_1 (by decide) r_x1 (fun c1 => ?_) (fun c2 => ?_)
  · have hf := ite_t c1 hf
    refine J_iconst o dX2_isFact_22 ?_
    have hf := some_inj hf
    subst hf
    exact hc _ _ (Or.inl rfl) dX2_isFact_23
  · have hf := ite_f c2 hf
    refine J_iload_n o dX2_isFact_4 rfl ?_
    refine J_aload_n o dX2_isFact_5 rfl ?_
    refine J_getI o g dX2_isFact_6 flX2_31 kA_7 rfl (fun q3 => ?_)
    refine J_icmp_ge 22 o dX2_isFact_9 (by decide) r_x1 q3 (fun c4 => ?_) (fun c5 => ?_)
    · have hf := ite_t c4 hf
      refine J_iconst o dX2_isFact_22 ?_
      have hf := some_inj hf
      subst hf
      exact hc _ _ (Or.inl rfl) dX2_isFact_23
    · have hf := ite_f c5 hf
      refine J_iload_n o dX2_isFact_12 rfl ?_
      refine J_bipush o dX2_isFact_13 (by decide) ?_
      refine J_icmp_ge 22 o dX2_isFact_15 (by decide) r_x1 rl24 (fun c6 => ?_) (fun c7 => ?_)
      · have hf := ite_t c6 hf
        refine J_iconst o dX2_isFact_22 ?_
        have hf := some_inj hf
        subst hf
        exact hc _ _ (Or.inl rfl) dX2_isFact_23
      · have hf := ite_f c7 hf
        refine J_iconst o dX2_isFact_18 ?_
        refine J_goto 23 o dX2_isFact_19 (by decide) ?_
        have hf := some_inj hf
        subst hf
        exact hc _ _ (Or.inr rfl) dX2_isFact_23
theorem c_Fa_isFact {E : EE} {l : Launch} (hI : Inj TA E) {w : World} {x1 : Int} (r_x1 : R32 x1) {out : Int} (hf : f_Fa_isFact w x1 = some out) : ConI TA E l yX2_isFact (WS yX2_isFact cX2_isFact 2 (some .boolean)) rm_Fa_isFact [rf E.ad 7, .int (ii x1)] w w out :=
  con_Z (by decide +kernel) rfl (Nat.le_of_ble_eq_true rfl) (c1s_r (c1s_i c1s_0 (Nat.le_of_ble_eq_true rfl)) (Nat.le_of_ble_eq_true rfl)).1 ⟨rfl, rfl⟩ hI TnA (fun K H0 k hret => t_Fa_isFact_0 k r_x1 hf hret)
abbrev rm_Fa_holdsIn : Room := { frames := 2, cells := 0, slots := 0, locals := 45 }
noncomputable def f_Fa_holdsIn (w : World) (x1 : Int) (x2 : Int) : Option Int :=
  bnd (f_Fa_isFact w x1) fun v2 => if v2 = 0 then (some 0) else (gd (0 ≤ x1 ∧ x1 < 24) (if (w 13 x1.toNat) = 0 then (gd (0 ≤ x1 ∧ x1 < 24) (if x2 < (w 11 x1.toNat) then (some 0) else (gd (0 ≤ x1 ∧ x1 < 24) (if (w 12 x1.toNat) < x2 then (some 0) else (some 1))))) else (some 0)))
theorem t_Fa_holdsIn_0 {E : EE} {K : KT} {l : Launch} {H0 : Heap} (k : Kof TA E K l cX2_holdsIn RX2 rm_Fa_holdsIn) {w : World} {x1 : Int} {x2 : Int} (r_x1 : R32 x1) (r_x2 : R32 x2) {out : Int} (hf : f_Fa_holdsIn w x1 x2 = some out) (hc : (fun out : Int => RetZ TA E K H0 cX2_holdsIn w out) out) : Jj K (WdT TA E H0) w 0 [some (rf E.ad 7), some (.int (ii x1)), some (.int (ii x2))] [] := by
  unfold f_Fa_holdsIn at hf
  have o := k.1
  have g := k.2.1
  have kr := k.2.2.1
  refine J_aload_n o dX2_holdsIn_0 rfl ?_
  refine J_iload_n o dX2_holdsIn_1 rfl ?_
  obtain ⟨v2, e1, hf⟩ := bnd_some hf
  refine J_vI o g kr dX2_holdsIn_2 lkX2_38 ml_Fa_isFact vl_Fa_isFact ⟨rfl, rfl, Nat.le_of_ble_eq_true rfl, Nat.le_of_ble_eq_true rfl⟩ (c_Fa_isFact g.2.1 r_x1 e1) kA_7 rfl ⟨by decide, by decide⟩ rfl rfl c1s_0 (fun q3 => ?_)
  refine J_if_eq 41 o dX2_holdsIn_5 (by decide) q3 (fun c4 => ?_) (fun c5 => ?_)
  · have hf := ite_t c4 hf
    refine J_iconst o dX2_holdsIn_41 ?_
    have hf := some_inj hf
    subst hf
    exact hc _ _ (Or.inl rfl) dX2_holdsIn_42
  · have hf := ite_f c5 hf
    refine J_aload_n o dX2_holdsIn_8 rfl ?_
    refine J_getF (true, 13) o g dX2_holdsIn_9 flX2_27 kA_7 rfl rfl rfl ?_
    refine J_iload_n o dX2_holdsIn_12 rfl ?_
    obtain ⟨g6, hf⟩ := gd_some hf
    refine J_zald o g dX2_holdsIn_13 kA_13 r_x1 zA_13 g6 (fun q7 => ?_)
    refine J_if_ne 41 o dX2_holdsIn_14 (by decide) q7 (fun c8 => ?_) (fun c9 => ?_)
    · have hf := ite_f c8 hf
      refine J_iconst o dX2_holdsIn_41 ?_
      have hf := some_inj hf
      subst hf
      exact hc _ _ (Or.inl rfl) dX2_holdsIn_42
    · have hf := ite_t c9 hf
      refine J_aload_n o dX2_holdsIn_17 rfl ?_
      refine J_getF (true, 11) o g dX2_holdsIn_18 flX2_21 kA_7 rfl rfl rfl ?_
      refine J_iload_n o dX2_holdsIn_21 rfl ?_
      obtain ⟨g10, hf⟩ := gd_some hf
      refine J_iald o g dX2_holdsIn_22 kA_11 r_x1 zA_11 g10 (fun q11 => ?_)
      refine J_iload_n o dX2_holdsIn_23 rfl ?_
      refine J_icmp_gt 41 o dX2_holdsIn_24 (by decide) q11 r_x2 (fun c12 => ?_) (fun c13 => ?_)
      · have hf := ite_t c12 hf
        refine J_iconst o dX2_holdsIn_41 ?_
        have hf := some_inj hf
        subst hf
        exact hc _ _ (Or.inl rfl) dX2_holdsIn_42
      · have hf := ite_f c13 hf
        refine J_iload_n o dX2_holdsIn_27 rfl ?_
        refine J_aload_n o dX2_holdsIn_28 rfl ?_
        refine J_getF (true, 12) o g dX2_holdsIn_29 flX2_24 kA_7 rfl rfl rfl ?_
        refine J_iload_n o dX2_holdsIn_32 rfl ?_
        obtain ⟨g14, hf⟩ := gd_some hf
        refine J_iald o g dX2_holdsIn_33 kA_12 r_x1 zA_12 g14 (fun q15 => ?_)
        refine J_icmp_gt 41 o dX2_holdsIn_34 (by decide) r_x2 q15 (fun c16 => ?_) (fun c17 => ?_)
        · have hf := ite_t c16 hf
          refine J_iconst o dX2_holdsIn_41 ?_
          have hf := some_inj hf
          subst hf
          exact hc _ _ (Or.inl rfl) dX2_holdsIn_42
        · have hf := ite_f c17 hf
          refine J_iconst o dX2_holdsIn_37 ?_
          refine J_goto 42 o dX2_holdsIn_38 (by decide) ?_
          have hf := some_inj hf
          subst hf
          exact hc _ _ (Or.inr rfl) dX2_holdsIn_42
theorem c_Fa_holdsIn {E : EE} {l : Launch} (hI : Inj TA E) {w : World} {x1 : Int} {x2 : Int} (r_x1 : R32 x1) (r_x2 : R32 x2) {out : Int} (hf : f_Fa_holdsIn w x1 x2 = some out) : ConI TA E l yX2_holdsIn (WS yX2_holdsIn cX2_holdsIn 3 (some .boolean)) rm_Fa_holdsIn [rf E.ad 7, .int (ii x1), .int (ii x2)] w w out :=
  con_Z (by decide +kernel) rfl (Nat.le_of_ble_eq_true rfl) (c1s_r (c1s_i (c1s_i c1s_0 (Nat.le_of_ble_eq_true rfl)) (Nat.le_of_ble_eq_true rfl)) (Nat.le_of_ble_eq_true rfl)).1 ⟨rfl, rfl⟩ hI TnA (fun K H0 k hret => t_Fa_holdsIn_0 k r_x1 r_x2 hf hret)
abbrev rm_Mo_reset : Room := { frames := 1, cells := 0, slots := 0, locals := 24 }
def HW_Mo_reset_12 (E : EE) (K : KT) (H0 : Heap) (t0 : Nat) : (World × Int) → Prop := fun z => R32 z.2 → Jj K (WdT TA E H0) z.1 12 [some (rf E.ad t0), some (.int (ii z.2))] []
noncomputable def f_Mo_reset_12B (w : World) (t0 : Nat) (x1 : Int) : Option ((World × Int) ⊕ World) :=
  if 10 ≤ x1 then (some (Sum.inr w)) else (gd (0 ≤ x1 ∧ x1 < 10) (bl (up w (t0 + 1) x1.toNat (-1)) fun w4 => bl (wr (x1 + 1)) fun n5 => some (Sum.inl (w4, n5))))
theorem t_Mo_reset_12B {E : EE} {K : KT} {l : Launch} {H0 : Heap} (k : Kof TA E K l cX5_reset RX5 rm_Mo_reset) {w : World} {t0 : Nat} {x1 : Int} (k_t0 : TA.kd t0 = 6) (r_x1 : R32 x1) {out : ((World × Int) ⊕ World)} (hf : f_Mo_reset_12B w t0 x1 = some out) (hc : (Sum.elim (HW_Mo_reset_12 E K H0 t0) (fun out : World => RetV TA E K H0 cX5_reset out)) out) : Jj K (WdT TA E H0) w 12 [some (rf E.ad t0), some (.int (ii x1))] [] := by
  unfold f_Mo_reset_12B at hf
  have o := k.1
  have g := k.2.1
  have kr := k.2.2.1
  refine J_iload_n o dX5_reset_12 rfl ?_
  refine J_bipush o dX5_reset_13 (by decide) ?_
  refine J_icmp_ge 31 o dX5_reset_15 (by decide) r_x1 rl10 (fun c1 => ?_) (fun c2 => ?_)
  · have hf := ite_t c1 hf
    have hf := some_inj hf
    subst hf
    exact hc _ _  dX5_reset_31
  · have hf := ite_f c2 hf
    refine J_aload_n o dX5_reset_18 rfl ?_
    refine J_getF (false, 1) o g dX5_reset_19 flX5_9 k_t0 rfl rfl rfl ?_
    refine J_iload_n o dX5_reset_22 rfl ?_
    refine J_iconst o dX5_reset_23 ?_
    obtain ⟨g3, hf⟩ := gd_some hf
    refine J_iast o g dX5_reset_24 (krA_6_1 k_t0) (fxA_40 _) r_x1 (zrA_6_1 k_t0) g3 rlm1 ?_
    have hf := bl_out hf
    have hf := bl_out hf
    refine J_iinc o dX5_reset_25 rfl ?_
    refine J_goto 12 o dX5_reset_28 (by decide) ?_
    have hf := some_inj hf
    subst hf
    exact hc (R_wr _) 
noncomputable def f_Mo_reset_12 (w : World) (t0 : Nat) (x1 : Int) : Option World :=
  lp (fun z : (World × Int) => f_Mo_reset_12B z.1 t0 z.2) (w, x1)
theorem t_Mo_reset_12 {E : EE} {K : KT} {l : Launch} {H0 : Heap} (k : Kof TA E K l cX5_reset RX5 rm_Mo_reset) {w : World} {t0 : Nat} {x1 : Int} (k_t0 : TA.kd t0 = 6) {out : World} (hf : f_Mo_reset_12 w t0 x1 = some out) (hc : (fun out : World => RetV TA E K H0 cX5_reset out) out) : HW_Mo_reset_12 E K H0 t0 (w, x1) := by
  unfold f_Mo_reset_12 at hf
  refine lp_ind (P := HW_Mo_reset_12 E K H0 t0) hf ?_
  intro z o hs h1 h2
  intro r_x1
  refine t_Mo_reset_12B k k_t0 r_x1 hs ?_
  cases o with
  | inl z' => exact h1 z' rfl
  | inr r' => rw [h2 r' rfl]; exact hc
noncomputable def f_Mo_reset (w : World) (t0 : Nat) : Option World :=
  bl (up w t0 1 0) fun w1 => bl (up w1 t0 2 0) fun w2 => f_Mo_reset_12 w2 t0 0
theorem t_Mo_reset_0 {E : EE} {K : KT} {l : Launch} {H0 : Heap} (k : Kof TA E K l cX5_reset RX5 rm_Mo_reset) {w : World} {t0 : Nat} {o1 : Option Value} (k_t0 : TA.kd t0 = 6) {out : World} (hf : f_Mo_reset w t0 = some out) (hc : (fun out : World => RetV TA E K H0 cX5_reset out) out) : Jj K (WdT TA E H0) w 0 [some (rf E.ad t0), o1] [] := by
  unfold f_Mo_reset at hf
  have o := k.1
  have g := k.2.1
  have kr := k.2.2.1
  refine J_aload_n o dX5_reset_0 rfl ?_
  refine J_iconst o dX5_reset_1 ?_
  refine J_putI o g dX5_reset_2 fpX5_28 k_t0 rfl rfl rl0 ?_
  have hf := bl_out hf
  refine J_aload_n o dX5_reset_5 rfl ?_
  refine J_iconst o dX5_reset_6 ?_
  refine J_putZ o g dX5_reset_7 fpX5_32 k_t0 rfl rfl (Or.inl rfl) ?_
  have hf := bl_out hf
  refine J_iconst o dX5_reset_10 ?_
  refine J_istore_n o dX5_reset_11 (Nat.le_of_ble_eq_true rfl) ?_
  exact (t_Mo_reset_12 k k_t0 hf hc) rl0 
theorem c_Mo_reset {E : EE} {l : Launch} (hI : Inj TA E) {w : World} {t0 : Nat} (k_t0 : TA.kd t0 = 6) {out : World} (hf : f_Mo_reset w t0 = some out) : ConV TA E l yX5_reset (WS yX5_reset cX5_reset 2 none) rm_Mo_reset [rf E.ad t0] w out :=
  con_V (by decide +kernel) rfl (Nat.le_of_ble_eq_true rfl) (c1s_r c1s_0 (Nat.le_of_ble_eq_true rfl)).1 ⟨rfl, rfl⟩ hI TnA (fun K H0 k hret => t_Mo_reset_0 k k_t0 hf hret)
abbrev rm_Fa_relationOf : Room := { frames := 2, cells := 0, slots := 0, locals := 45 }
noncomputable def f_Fa_relationOf (w : World) (x1 : Int) : Option Int :=
  bnd (f_Fa_isFact w x1) fun v2 => if v2 = 0 then (some (-1)) else (gd (0 ≤ x1 ∧ x1 < 24) (some (w 8 x1.toNat)))
theorem t_Fa_relationOf_0 {E : EE} {K : KT} {l : Launch} {H0 : Heap} (k : Kof TA E K l cX2_relationOf RX2 rm_Fa_relationOf) {w : World} {x1 : Int} (r_x1 : R32 x1) {out : Int} (hf : f_Fa_relationOf w x1 = some out) (hc : (fun out : Int => RetI TA E K H0 cX2_relationOf w out) out) : Jj K (WdT TA E H0) w 0 [some (rf E.ad 7), some (.int (ii x1))] [] := by
  unfold f_Fa_relationOf at hf
  have o := k.1
  have g := k.2.1
  have kr := k.2.2.1
  refine J_aload_n o dX2_relationOf_0 rfl ?_
  refine J_iload_n o dX2_relationOf_1 rfl ?_
  obtain ⟨v2, e1, hf⟩ := bnd_some hf
  refine J_vI o g kr dX2_relationOf_2 lkX2_38 ml_Fa_isFact vl_Fa_isFact ⟨rfl, rfl, Nat.le_of_ble_eq_true rfl, Nat.le_of_ble_eq_true rfl⟩ (c_Fa_isFact g.2.1 r_x1 e1) kA_7 rfl ⟨by decide, by decide⟩ rfl rfl c1s_0 (fun q3 => ?_)
  refine J_if_eq 17 o dX2_relationOf_5 (by decide) q3 (fun c4 => ?_) (fun c5 => ?_)
  · have hf := ite_t c4 hf
    refine J_iconst o dX2_relationOf_17 ?_
    have hf := some_inj hf
    subst hf
    exact hc _ _ rlm1 dX2_relationOf_18
  · have hf := ite_f c5 hf
    refine J_aload_n o dX2_relationOf_8 rfl ?_
    refine J_getF (true, 8) o g dX2_relationOf_9 flX2_9 kA_7 rfl rfl rfl ?_
    refine J_iload_n o dX2_relationOf_12 rfl ?_
    obtain ⟨g6, hf⟩ := gd_some hf
    refine J_iald o g dX2_relationOf_13 kA_8 r_x1 zA_8 g6 (fun q7 => ?_)
    refine J_goto 18 o dX2_relationOf_14 (by decide) ?_
    have hf := some_inj hf
    subst hf
    exact hc _ _ q7 dX2_relationOf_18
theorem c_Fa_relationOf {E : EE} {l : Launch} (hI : Inj TA E) {w : World} {x1 : Int} (r_x1 : R32 x1) {out : Int} (hf : f_Fa_relationOf w x1 = some out) : ConI TA E l yX2_relationOf (WS yX2_relationOf cX2_relationOf 2 (some .int)) rm_Fa_relationOf [rf E.ad 7, .int (ii x1)] w w out :=
  con_I (by decide +kernel) rfl (Nat.le_of_ble_eq_true rfl) (c1s_r (c1s_i c1s_0 (Nat.le_of_ble_eq_true rfl)) (Nat.le_of_ble_eq_true rfl)).1 ⟨rfl, rfl⟩ hI TnA (fun K H0 k hret => t_Fa_relationOf_0 k r_x1 hf hret)
abbrev rm_Pr_levelOf : Room := { frames := 1, cells := 0, slots := 0, locals := 24 }
noncomputable def f_Pr_levelOf (w : World) (x1 : Int) : Option Int :=
  if x1 < 0 then (some (-1)) else (if 10 ≤ x1 then (some (-1)) else (gd (0 ≤ x1 ∧ x1 < 10) (some (w 21 x1.toNat))))
theorem t_Pr_levelOf_0 {E : EE} {K : KT} {l : Launch} {H0 : Heap} (k : Kof TA E K l cX7_levelOf RX7 rm_Pr_levelOf) {w : World} {x1 : Int} (r_x1 : R32 x1) {out : Int} (hf : f_Pr_levelOf w x1 = some out) (hc : (fun out : Int => RetI TA E K H0 cX7_levelOf w out) out) : Jj K (WdT TA E H0) w 0 [some (rf E.ad 14), some (.int (ii x1))] [] := by
  unfold f_Pr_levelOf at hf
  have o := k.1
  have g := k.2.1
  have kr := k.2.2.1
  refine J_iload_n o dX7_levelOf_0 rfl ?_
  refine J_if_lt 22 o dX7_levelOf_1 (by decide) r_x1 (fun c1 => ?_) (fun c2 => ?_)
  · have hf := ite_t c1 hf
    refine J_iconst o dX7_levelOf_22 ?_
    have hf := some_inj hf
    subst hf
    exact hc _ _ rlm1 dX7_levelOf_23
  · have hf := ite_f c2 hf
    refine J_iload_n o dX7_levelOf_4 rfl ?_
    refine J_aload_n o dX7_levelOf_5 rfl ?_
    refine J_getF (true, 21) o g dX7_levelOf_6 flX7_25 kA_14 rfl rfl rfl ?_
    refine J_alen o g dX7_levelOf_9 kA_21 ⟨by decide, by decide⟩ zA_21 ?_
    refine J_icmp_ge 22 o dX7_levelOf_10 (by decide) r_x1 rl10 (fun c3 => ?_) (fun c4 => ?_)
    · have hf := ite_t c3 hf
      refine J_iconst o dX7_levelOf_22 ?_
      have hf := some_inj hf
      subst hf
      exact hc _ _ rlm1 dX7_levelOf_23
    · have hf := ite_f c4 hf
      refine J_aload_n o dX7_levelOf_13 rfl ?_
      refine J_getF (true, 21) o g dX7_levelOf_14 flX7_25 kA_14 rfl rfl rfl ?_
      refine J_iload_n o dX7_levelOf_17 rfl ?_
      obtain ⟨g5, hf⟩ := gd_some hf
      refine J_iald o g dX7_levelOf_18 kA_21 r_x1 zA_21 g5 (fun q6 => ?_)
      refine J_goto 23 o dX7_levelOf_19 (by decide) ?_
      have hf := some_inj hf
      subst hf
      exact hc _ _ q6 dX7_levelOf_23
theorem c_Pr_levelOf {E : EE} {l : Launch} (hI : Inj TA E) {w : World} {x1 : Int} (r_x1 : R32 x1) {out : Int} (hf : f_Pr_levelOf w x1 = some out) : ConI TA E l yX7_levelOf (WS yX7_levelOf cX7_levelOf 2 (some .int)) rm_Pr_levelOf [rf E.ad 14, .int (ii x1)] w w out :=
  con_I (by decide +kernel) rfl (Nat.le_of_ble_eq_true rfl) (c1s_r (c1s_i c1s_0 (Nat.le_of_ble_eq_true rfl)) (Nat.le_of_ble_eq_true rfl)).1 ⟨rfl, rfl⟩ hI TnA (fun K H0 k hret => t_Pr_levelOf_0 k r_x1 hf hret)
abbrev rm_Fa_codeOf : Room := { frames := 2, cells := 0, slots := 0, locals := 45 }
noncomputable def f_Fa_codeOf (w : World) (x1 : Int) : Option Int :=
  bnd (f_Fa_isFact w x1) fun v2 => if v2 = 0 then (some 0) else (gd (0 ≤ x1 ∧ x1 < 24) (some (w 9 x1.toNat)))
theorem t_Fa_codeOf_0 {E : EE} {K : KT} {l : Launch} {H0 : Heap} (k : Kof TA E K l cX2_codeOf RX2 rm_Fa_codeOf) {w : World} {x1 : Int} (r_x1 : R32 x1) {out : Int} (hf : f_Fa_codeOf w x1 = some out) (hc : (fun out : Int => RetI TA E K H0 cX2_codeOf w out) out) : Jj K (WdT TA E H0) w 0 [some (rf E.ad 7), some (.int (ii x1))] [] := by
  unfold f_Fa_codeOf at hf
  have o := k.1
  have g := k.2.1
  have kr := k.2.2.1
  refine J_aload_n o dX2_codeOf_0 rfl ?_
  refine J_iload_n o dX2_codeOf_1 rfl ?_
  obtain ⟨v2, e1, hf⟩ := bnd_some hf
  refine J_vI o g kr dX2_codeOf_2 lkX2_38 ml_Fa_isFact vl_Fa_isFact ⟨rfl, rfl, Nat.le_of_ble_eq_true rfl, Nat.le_of_ble_eq_true rfl⟩ (c_Fa_isFact g.2.1 r_x1 e1) kA_7 rfl ⟨by decide, by decide⟩ rfl rfl c1s_0 (fun q3 => ?_)
  refine J_if_eq 17 o dX2_codeOf_5 (by decide) q3 (fun c4 => ?_) (fun c5 => ?_)
  · have hf := ite_t c4 hf
    refine J_iconst o dX2_codeOf_17 ?_
    have hf := some_inj hf
    subst hf
    exact hc _ _ rl0 dX2_codeOf_18
  · have hf := ite_f c5 hf
    refine J_aload_n o dX2_codeOf_8 rfl ?_
    refine J_getF (true, 9) o g dX2_codeOf_9 flX2_15 kA_7 rfl rfl rfl ?_
    refine J_iload_n o dX2_codeOf_12 rfl ?_
    obtain ⟨g6, hf⟩ := gd_some hf
    refine J_iald o g dX2_codeOf_13 kA_9 r_x1 zA_9 g6 (fun q7 => ?_)
    refine J_goto 18 o dX2_codeOf_14 (by decide) ?_
    have hf := some_inj hf
    subst hf
    exact hc _ _ q7 dX2_codeOf_18
theorem c_Fa_codeOf {E : EE} {l : Launch} (hI : Inj TA E) {w : World} {x1 : Int} (r_x1 : R32 x1) {out : Int} (hf : f_Fa_codeOf w x1 = some out) : ConI TA E l yX2_codeOf (WS yX2_codeOf cX2_codeOf 2 (some .int)) rm_Fa_codeOf [rf E.ad 7, .int (ii x1)] w w out :=
  con_I (by decide +kernel) rfl (Nat.le_of_ble_eq_true rfl) (c1s_r (c1s_i c1s_0 (Nat.le_of_ble_eq_true rfl)) (Nat.le_of_ble_eq_true rfl)).1 ⟨rfl, rfl⟩ hI TnA (fun K H0 k hret => t_Fa_codeOf_0 k r_x1 hf hret)
abbrev rm_Mo_slotBelow : Room := { frames := 2, cells := 0, slots := 0, locals := 45 }
def HW_Mo_slotBelow_22 (E : EE) (K : KT) (H0 : Heap) (w : World) (t0 : Nat) (x2 : Int) (x3 : Int) : (Int × Int × Int) → Prop := fun z => R32 z.1 → R32 z.2.1 → R32 z.2.2 → ∀ o1 o7 : Option Value, Jj K (WdT TA E H0) w 22 [some (rf E.ad t0), o1, some (.int (ii x2)), some (.int (ii x3)), some (.int (ii z.1)), some (.int (ii z.2.1)), some (.int (ii z.2.2)), o7] []
noncomputable def f_Mo_slotBelow_93 (w : World) (t0 : Nat) (x2 : Int) (x3 : Int) (x4 : Int) (x6 : Int) (s0 : Int) : Option ((Int × Int × Int) ⊕ Int) :=
  bl (wr (x6 + 1)) fun n1 => some (Sum.inl (x4, s0, n1))
theorem t_Mo_slotBelow_93 {E : EE} {K : KT} {l : Launch} {H0 : Heap} (k : Kof TA E K l cX5_slotBelow RX5 rm_Mo_slotBelow) {w : World} {t0 : Nat} {x2 : Int} {x3 : Int} {x4 : Int} {x6 : Int} {s0 : Int} {o1 o5 o7 : Option Value} (k_t0 : TA.kd t0 = 6) (r_x2 : R32 x2) (r_x3 : R32 x3) (r_x4 : R32 x4) (r_x6 : R32 x6) (r_s0 : R32 s0) {out : ((Int × Int × Int) ⊕ Int)} (hf : f_Mo_slotBelow_93 w t0 x2 x3 x4 x6 s0 = some out) (hc : (Sum.elim (HW_Mo_slotBelow_22 E K H0 w t0 x2 x3) (fun out : Int => RetI TA E K H0 cX5_slotBelow w out)) out) : Jj K (WdT TA E H0) w 93 [some (rf E.ad t0), o1, some (.int (ii x2)), some (.int (ii x3)), some (.int (ii x4)), o5, some (.int (ii x6)), o7] [.int (ii s0)] := by
  unfold f_Mo_slotBelow_93 at hf
  have o := k.1
  have g := k.2.1
  have kr := k.2.2.1
  refine J_istore o dX5_slotBelow_93 (Nat.le_of_ble_eq_true rfl) ?_
  have hf := bl_out hf
  refine J_iinc o dX5_slotBelow_95 rfl ?_
  refine J_goto 22 o dX5_slotBelow_98 (by decide) ?_
  have hf := some_inj hf
  subst hf
  exact hc r_x4 r_s0 (R_wr _) _ _
noncomputable def f_Mo_slotBelow_75 (w : World) (t0 : Nat) (x2 : Int) (x3 : Int) (x5 : Int) (x6 : Int) (x7 : Int) (s0 : Int) : Option ((Int × Int × Int) ⊕ Int) :=
  if x7 = 0 then (f_Mo_slotBelow_93 w t0 x2 x3 s0 x6 (-1)) else (gd (0 ≤ x5 ∧ x5 < 48) (f_Mo_slotBelow_93 w t0 x2 x3 s0 x6 (w (t0 + 2) x5.toNat)))
theorem t_Mo_slotBelow_75 {E : EE} {K : KT} {l : Launch} {H0 : Heap} (k : Kof TA E K l cX5_slotBelow RX5 rm_Mo_slotBelow) {w : World} {t0 : Nat} {x2 : Int} {x3 : Int} {x5 : Int} {x6 : Int} {x7 : Int} {s0 : Int} {o1 o4 : Option Value} (k_t0 : TA.kd t0 = 6) (r_x2 : R32 x2) (r_x3 : R32 x3) (r_x5 : R32 x5) (r_x6 : R32 x6) (r_x7 : R32 x7) (r_s0 : R32 s0) {out : ((Int × Int × Int) ⊕ Int)} (hf : f_Mo_slotBelow_75 w t0 x2 x3 x5 x6 x7 s0 = some out) (hc : (Sum.elim (HW_Mo_slotBelow_22 E K H0 w t0 x2 x3) (fun out : Int => RetI TA E K H0 cX5_slotBelow w out)) out) : Jj K (WdT TA E H0) w 75 [some (rf E.ad t0), o1, some (.int (ii x2)), some (.int (ii x3)), o4, some (.int (ii x5)), some (.int (ii x6)), some (.int (ii x7))] [.int (ii s0)] := by
  unfold f_Mo_slotBelow_75 at hf
  have o := k.1
  have g := k.2.1
  have kr := k.2.2.1
  refine J_istore o dX5_slotBelow_75 (Nat.le_of_ble_eq_true rfl) ?_
  refine J_iload o dX5_slotBelow_77 rfl ?_
  refine J_if_eq 92 o dX5_slotBelow_79 (by decide) r_x7 (fun c1 => ?_) (fun c2 => ?_)
  · have hf := ite_t c1 hf
    refine J_iconst o dX5_slotBelow_92 ?_
    exact t_Mo_slotBelow_93 k k_t0 r_x2 r_x3 r_s0 r_x6 rlm1 hf hc
  · have hf := ite_f c2 hf
    refine J_aload_n o dX5_slotBelow_82 rfl ?_
    refine J_getF (false, 2) o g dX5_slotBelow_83 flX5_15 k_t0 rfl rfl rfl ?_
    refine J_iload o dX5_slotBelow_86 rfl ?_
    obtain ⟨g3, hf⟩ := gd_some hf
    refine J_iald o g dX5_slotBelow_88 (krA_6_2 k_t0) r_x5 (zrA_6_2 k_t0) g3 (fun q4 => ?_)
    refine J_goto 93 o dX5_slotBelow_89 (by decide) ?_
    exact t_Mo_slotBelow_93 k k_t0 r_x2 r_x3 r_s0 r_x6 q4 hf hc
noncomputable def f_Mo_slotBelow_61 (w : World) (t0 : Nat) (x2 : Int) (x3 : Int) (x4 : Int) (x5 : Int) (x6 : Int) (s0 : Int) : Option ((Int × Int × Int) ⊕ Int) :=
  if s0 = 0 then (f_Mo_slotBelow_75 w t0 x2 x3 x5 x6 s0 x4) else (f_Mo_slotBelow_75 w t0 x2 x3 x5 x6 s0 x5)
theorem t_Mo_slotBelow_61 {E : EE} {K : KT} {l : Launch} {H0 : Heap} (k : Kof TA E K l cX5_slotBelow RX5 rm_Mo_slotBelow) {w : World} {t0 : Nat} {x2 : Int} {x3 : Int} {x4 : Int} {x5 : Int} {x6 : Int} {s0 : Int} {o1 o7 : Option Value} (k_t0 : TA.kd t0 = 6) (r_x2 : R32 x2) (r_x3 : R32 x3) (r_x4 : R32 x4) (r_x5 : R32 x5) (r_x6 : R32 x6) (r_s0 : R32 s0) {out : ((Int × Int × Int) ⊕ Int)} (hf : f_Mo_slotBelow_61 w t0 x2 x3 x4 x5 x6 s0 = some out) (hc : (Sum.elim (HW_Mo_slotBelow_22 E K H0 w t0 x2 x3) (fun out : Int => RetI TA E K H0 cX5_slotBelow w out)) out) : Jj K (WdT TA E H0) w 61 [some (rf E.ad t0), o1, some (.int (ii x2)), some (.int (ii x3)), some (.int (ii x4)), some (.int (ii x5)), some (.int (ii x6)), o7] [.int (ii s0)] := by
  unfold f_Mo_slotBelow_61 at hf
  have o := k.1
  have g := k.2.1
  have kr := k.2.2.1
  refine J_istore o dX5_slotBelow_61 (Nat.le_of_ble_eq_true rfl) ?_
  refine J_iload o dX5_slotBelow_63 rfl ?_
  refine J_if_eq 73 o dX5_slotBelow_65 (by decide) r_s0 (fun c1 => ?_) (fun c2 => ?_)
  · have hf := ite_t c1 hf
    refine J_iload o dX5_slotBelow_73 rfl ?_
    exact t_Mo_slotBelow_75 k k_t0 r_x2 r_x3 r_x5 r_x6 r_s0 r_x4 hf hc
  · have hf := ite_f c2 hf
    refine J_iload o dX5_slotBelow_68 rfl ?_
    refine J_goto 75 o dX5_slotBelow_70 (by decide) ?_
    exact t_Mo_slotBelow_75 k k_t0 r_x2 r_x3 r_x5 r_x6 r_s0 r_x5 hf hc
noncomputable def f_Mo_slotBelow_22B (w : World) (t0 : Nat) (x2 : Int) (x3 : Int) (x4 : Int) (x5 : Int) (x6 : Int) : Option ((Int × Int × Int) ⊕ Int) :=
  if 48 ≤ x6 then (some (Sum.inr x4)) else (if x5 < 0 then (some (Sum.inr x4)) else (if 48 ≤ x5 then (some (Sum.inr x4)) else (gd (0 ≤ x5 ∧ x5 < 48) (if (iand x2 x3) ≤ (iand (w (t0 + 3) x5.toNat) x3) then (f_Mo_slotBelow_61 w t0 x2 x3 x4 x5 x6 0) else (f_Mo_slotBelow_61 w t0 x2 x3 x4 x5 x6 1)))))
theorem t_Mo_slotBelow_22B {E : EE} {K : KT} {l : Launch} {H0 : Heap} (k : Kof TA E K l cX5_slotBelow RX5 rm_Mo_slotBelow) {w : World} {t0 : Nat} {x2 : Int} {x3 : Int} {x4 : Int} {x5 : Int} {x6 : Int} {o1 o7 : Option Value} (k_t0 : TA.kd t0 = 6) (r_x2 : R32 x2) (r_x3 : R32 x3) (r_x4 : R32 x4) (r_x5 : R32 x5) (r_x6 : R32 x6) {out : ((Int × Int × Int) ⊕ Int)} (hf : f_Mo_slotBelow_22B w t0 x2 x3 x4 x5 x6 = some out) (hc : (Sum.elim (HW_Mo_slotBelow_22 E K H0 w t0 x2 x3) (fun out : Int => RetI TA E K H0 cX5_slotBelow w out)) out) : Jj K (WdT TA E H0) w 22 [some (rf E.ad t0), o1, some (.int (ii x2)), some (.int (ii x3)), some (.int (ii x4)), some (.int (ii x5)), some (.int (ii x6)), o7] [] := by
  unfold f_Mo_slotBelow_22B at hf
  have o := k.1
  have g := k.2.1
  have kr := k.2.2.1
  refine J_iload o dX5_slotBelow_22 rfl ?_
  refine J_bipush o dX5_slotBelow_24 (by decide) ?_
  refine J_icmp_ge 101 o dX5_slotBelow_26 (by decide) r_x6 rl48 (fun c1 => ?_) (fun c2 => ?_)
  · have hf := ite_t c1 hf
    refine J_iload o dX5_slotBelow_101 rfl ?_
    have hf := some_inj hf
    subst hf
    exact hc _ _ r_x4 dX5_slotBelow_103
  · have hf := ite_f c2 hf
    refine J_iload o dX5_slotBelow_29 rfl ?_
    refine J_if_lt 101 o dX5_slotBelow_31 (by decide) r_x5 (fun c3 => ?_) (fun c4 => ?_)
    · have hf := ite_t c3 hf
      refine J_iload o dX5_slotBelow_101 rfl ?_
      have hf := some_inj hf
      subst hf
      exact hc _ _ r_x4 dX5_slotBelow_103
    · have hf := ite_f c4 hf
      refine J_iload o dX5_slotBelow_34 rfl ?_
      refine J_bipush o dX5_slotBelow_36 (by decide) ?_
      refine J_icmp_ge 101 o dX5_slotBelow_38 (by decide) r_x5 rl48 (fun c5 => ?_) (fun c6 => ?_)
      · have hf := ite_t c5 hf
        refine J_iload o dX5_slotBelow_101 rfl ?_
        have hf := some_inj hf
        subst hf
        exact hc _ _ r_x4 dX5_slotBelow_103
      · have hf := ite_f c6 hf
        refine J_aload_n o dX5_slotBelow_41 rfl ?_
        refine J_getF (false, 3) o g dX5_slotBelow_42 flX5_18 k_t0 rfl rfl rfl ?_
        refine J_iload o dX5_slotBelow_45 rfl ?_
        obtain ⟨g7, hf⟩ := gd_some hf
        refine J_iald o g dX5_slotBelow_47 (krA_6_3 k_t0) r_x5 (zrA_6_3 k_t0) g7 (fun q8 => ?_)
        refine J_iload_n o dX5_slotBelow_48 rfl ?_
        refine J_iand o dX5_slotBelow_49 ?_
        refine J_iload_n o dX5_slotBelow_50 rfl ?_
        refine J_iload_n o dX5_slotBelow_51 rfl ?_
        refine J_iand o dX5_slotBelow_52 ?_
        refine J_icmp_ge 60 o dX5_slotBelow_53 (by decide) (R_iand _ _) (R_iand _ _) (fun c9 => ?_) (fun c10 => ?_)
        · have hf := ite_t c9 hf
          refine J_iconst o dX5_slotBelow_60 ?_
          exact t_Mo_slotBelow_61 k k_t0 r_x2 r_x3 r_x4 r_x5 r_x6 rl0 hf hc
        · have hf := ite_f c10 hf
          refine J_iconst o dX5_slotBelow_56 ?_
          refine J_goto 61 o dX5_slotBelow_57 (by decide) ?_
          exact t_Mo_slotBelow_61 k k_t0 r_x2 r_x3 r_x4 r_x5 r_x6 rl1 hf hc
noncomputable def f_Mo_slotBelow_22 (w : World) (t0 : Nat) (x2 : Int) (x3 : Int) (x4 : Int) (x5 : Int) (x6 : Int) : Option Int :=
  lp (fun z : (Int × Int × Int) => f_Mo_slotBelow_22B w t0 x2 x3 z.1 z.2.1 z.2.2) (x4, x5, x6)
theorem t_Mo_slotBelow_22 {E : EE} {K : KT} {l : Launch} {H0 : Heap} (k : Kof TA E K l cX5_slotBelow RX5 rm_Mo_slotBelow) {w : World} {t0 : Nat} {x2 : Int} {x3 : Int} {x4 : Int} {x5 : Int} {x6 : Int} (k_t0 : TA.kd t0 = 6) (r_x2 : R32 x2) (r_x3 : R32 x3) {out : Int} (hf : f_Mo_slotBelow_22 w t0 x2 x3 x4 x5 x6 = some out) (hc : (fun out : Int => RetI TA E K H0 cX5_slotBelow w out) out) : HW_Mo_slotBelow_22 E K H0 w t0 x2 x3 (x4, x5, x6) := by
  unfold f_Mo_slotBelow_22 at hf
  refine lp_ind (P := HW_Mo_slotBelow_22 E K H0 w t0 x2 x3) hf ?_
  intro z o hs h1 h2
  intro r_x4 r_x5 r_x6
  intro o1 o7
  refine t_Mo_slotBelow_22B k k_t0 r_x2 r_x3 r_x4 r_x5 r_x6 hs ?_
  cases o with
  | inl z' => exact h1 z' rfl
  | inr r' => rw [h2 r' rfl]; exact hc
noncomputable def f_Mo_slotBelow (w : World) (t0 : Nat) (x1 : Int) (x2 : Int) : Option Int :=
  bnd (f_Sc_tellingBits w x1) fun v2 => bnd (f_Mo_firstOf w t0 x1) fun v5 => f_Mo_slotBelow_22 w t0 x2 v2 (-1) v5 0
theorem t_Mo_slotBelow_0 {E : EE} {K : KT} {l : Launch} {H0 : Heap} (k : Kof TA E K l cX5_slotBelow RX5 rm_Mo_slotBelow) {w : World} {t0 : Nat} {x1 : Int} {x2 : Int} {o3 o4 o5 o6 o7 : Option Value} (k_t0 : TA.kd t0 = 6) (r_x1 : R32 x1) (r_x2 : R32 x2) {out : Int} (hf : f_Mo_slotBelow w t0 x1 x2 = some out) (hc : (fun out : Int => RetI TA E K H0 cX5_slotBelow w out) out) : Jj K (WdT TA E H0) w 0 [some (rf E.ad t0), some (.int (ii x1)), some (.int (ii x2)), o3, o4, o5, o6, o7] [] := by
  unfold f_Mo_slotBelow at hf
  have o := k.1
  have g := k.2.1
  have kr := k.2.2.1
  refine J_aload_n o dX5_slotBelow_0 rfl ?_
  refine J_getF (true, 2) o g dX5_slotBelow_1 flX5_24 k_t0 rfl rfl rfl ?_
  refine J_iload_n o dX5_slotBelow_4 rfl ?_
  obtain ⟨v2, e1, hf⟩ := bnd_some hf
  refine J_vI o g kr dX5_slotBelow_5 lkX5_43 ml_Sc_tellingBits vl_Sc_tellingBits ⟨rfl, rfl, Nat.le_of_ble_eq_true rfl, Nat.le_of_ble_eq_true rfl⟩ (c_Sc_tellingBits g.2.1 r_x1 e1) kA_2 rfl ⟨by decide, by decide⟩ rfl rfl c1s_0 (fun q3 => ?_)
  refine J_istore_n o dX5_slotBelow_8 (Nat.le_of_ble_eq_true rfl) ?_
  refine J_iconst o dX5_slotBelow_9 ?_
  refine J_istore o dX5_slotBelow_10 (Nat.le_of_ble_eq_true rfl) ?_
  refine J_aload_n o dX5_slotBelow_12 rfl ?_
  refine J_iload_n o dX5_slotBelow_13 rfl ?_
  obtain ⟨v5, e4, hf⟩ := bnd_some hf
  refine J_vI o g kr dX5_slotBelow_14 lkX5_36 ml_Mo_firstOf vl_Mo_firstOf ⟨rfl, rfl, Nat.le_of_ble_eq_true rfl, Nat.le_of_ble_eq_true rfl⟩ (c_Mo_firstOf g.2.1 k_t0 r_x1 e4) k_t0 rfl ⟨by decide, by decide⟩ rfl rfl c1s_0 (fun q6 => ?_)
  refine J_istore o dX5_slotBelow_17 (Nat.le_of_ble_eq_true rfl) ?_
  refine J_iconst o dX5_slotBelow_19 ?_
  refine J_istore o dX5_slotBelow_20 (Nat.le_of_ble_eq_true rfl) ?_
  exact (t_Mo_slotBelow_22 k k_t0 r_x2 q3 hf hc) rlm1 q6 rl0 _ _
theorem c_Mo_slotBelow {E : EE} {l : Launch} (hI : Inj TA E) {w : World} {t0 : Nat} {x1 : Int} {x2 : Int} (k_t0 : TA.kd t0 = 6) (r_x1 : R32 x1) (r_x2 : R32 x2) {out : Int} (hf : f_Mo_slotBelow w t0 x1 x2 = some out) : ConI TA E l yX5_slotBelow (WS yX5_slotBelow cX5_slotBelow 8 (some .int)) rm_Mo_slotBelow [rf E.ad t0, .int (ii x1), .int (ii x2)] w w out :=
  con_I (by decide +kernel) rfl (Nat.le_of_ble_eq_true rfl) (c1s_r (c1s_i (c1s_i c1s_0 (Nat.le_of_ble_eq_true rfl)) (Nat.le_of_ble_eq_true rfl)) (Nat.le_of_ble_eq_true rfl)).1 ⟨rfl, rfl⟩ hI TnA (fun K H0 k hret => t_Mo_slotBelow_0 k k_t0 r_x1 r_x2 hf hret)
abbrev rm_Mo_insert : Room := { frames := 3, cells := 0, slots := 0, locals := 72 }
noncomputable def f_Mo_insert_28 (w : World) (t0 : Nat) : Option (World × Int) :=
  bl (up w t0 2 1) fun w1 => some (w1, 0)
theorem t_Mo_insert_28 {E : EE} {K : KT} {l : Launch} {H0 : Heap} (k : Kof TA E K l cX5_insert RX5 rm_Mo_insert) {w : World} {t0 : Nat} {o1 o2 o3 o4 o5 : Option Value} (k_t0 : TA.kd t0 = 6) {out : (World × Int)} (hf : f_Mo_insert_28 w t0 = some out) (hc : (fun out : (World × Int) => RetZ TA E K H0 cX5_insert out.1 out.2) out) : Jj K (WdT TA E H0) w 28 [some (rf E.ad t0), o1, o2, o3, o4, o5] [] := by
  unfold f_Mo_insert_28 at hf
  have o := k.1
  have g := k.2.1
  have kr := k.2.2.1
  refine J_aload_n o dX5_insert_28 rfl ?_
  refine J_iconst o dX5_insert_29 ?_
  refine J_putZ o g dX5_insert_30 fpX5_32 k_t0 rfl rfl (Or.inr rfl) ?_
  have hf := bl_out hf
  refine J_iconst o dX5_insert_33 ?_
  have hf := some_inj hf
  subst hf
  exact hc _ _ (Or.inl rfl) dX5_insert_34
noncomputable def f_Mo_insert_118 (w : World) (t0 : Nat) : Option (World × Int) :=
  bl (up w t0 1 (wr ((w t0 1) + 1))) fun w2 => some (w2, 1)
theorem t_Mo_insert_118 {E : EE} {K : KT} {l : Launch} {H0 : Heap} (k : Kof TA E K l cX5_insert RX5 rm_Mo_insert) {w : World} {t0 : Nat} {o1 o2 o3 o4 o5 : Option Value} (k_t0 : TA.kd t0 = 6) {out : (World × Int)} (hf : f_Mo_insert_118 w t0 = some out) (hc : (fun out : (World × Int) => RetZ TA E K H0 cX5_insert out.1 out.2) out) : Jj K (WdT TA E H0) w 118 [some (rf E.ad t0), o1, o2, o3, o4, o5] [] := by
  unfold f_Mo_insert_118 at hf
  have o := k.1
  have g := k.2.1
  have kr := k.2.2.1
  refine J_aload_n o dX5_insert_118 rfl ?_
  refine J_dup o dX5_insert_119 rf_cat ?_
  refine J_getI o g dX5_insert_120 flX5_28 k_t0 rfl (fun q1 => ?_)
  refine J_iconst o dX5_insert_123 ?_
  refine J_iadd o dX5_insert_124 ?_
  refine J_putI o g dX5_insert_125 fpX5_28 k_t0 rfl rfl (R_wr _) ?_
  have hf := bl_out hf
  refine J_iconst o dX5_insert_128 ?_
  have hf := some_inj hf
  subst hf
  exact hc _ _ (Or.inr rfl) dX5_insert_129
noncomputable def f_Mo_insert_97 (w : World) (t0 : Nat) (x1 : Int) (x4 : Int) : Option (World × Int) :=
  gd (0 ≤ x1 ∧ x1 < 10) (gd (0 ≤ x4 ∧ x4 < 48) (bl (up w (t0 + 2) x4.toNat (w (t0 + 1) x1.toNat)) fun w4 => gd (0 ≤ x1 ∧ x1 < 10) (bl (up w4 (t0 + 1) x1.toNat x4) fun w6 => f_Mo_insert_118 w6 t0)))
theorem t_Mo_insert_97 {E : EE} {K : KT} {l : Launch} {H0 : Heap} (k : Kof TA E K l cX5_insert RX5 rm_Mo_insert) {w : World} {t0 : Nat} {x1 : Int} {x4 : Int} {o2 o3 o5 : Option Value} (k_t0 : TA.kd t0 = 6) (r_x1 : R32 x1) (r_x4 : R32 x4) {out : (World × Int)} (hf : f_Mo_insert_97 w t0 x1 x4 = some out) (hc : (fun out : (World × Int) => RetZ TA E K H0 cX5_insert out.1 out.2) out) : Jj K (WdT TA E H0) w 97 [some (rf E.ad t0), some (.int (ii x1)), o2, o3, some (.int (ii x4)), o5] [] := by
  unfold f_Mo_insert_97 at hf
  have o := k.1
  have g := k.2.1
  have kr := k.2.2.1
  refine J_aload_n o dX5_insert_97 rfl ?_
  refine J_getF (false, 2) o g dX5_insert_98 flX5_15 k_t0 rfl rfl rfl ?_
  refine J_iload o dX5_insert_101 rfl ?_
  refine J_aload_n o dX5_insert_103 rfl ?_
  refine J_getF (false, 1) o g dX5_insert_104 flX5_9 k_t0 rfl rfl rfl ?_
  refine J_iload_n o dX5_insert_107 rfl ?_
  obtain ⟨g1, hf⟩ := gd_some hf
  refine J_iald o g dX5_insert_108 (krA_6_1 k_t0) r_x1 (zrA_6_1 k_t0) g1 (fun q2 => ?_)
  obtain ⟨g3, hf⟩ := gd_some hf
  refine J_iast o g dX5_insert_109 (krA_6_2 k_t0) (fxA_40 _) r_x4 (zrA_6_2 k_t0) g3 q2 ?_
  have hf := bl_out hf
  refine J_aload_n o dX5_insert_110 rfl ?_
  refine J_getF (false, 1) o g dX5_insert_111 flX5_9 k_t0 rfl rfl rfl ?_
  refine J_iload_n o dX5_insert_114 rfl ?_
  refine J_iload o dX5_insert_115 rfl ?_
  obtain ⟨g5, hf⟩ := gd_some hf
  refine J_iast o g dX5_insert_117 (krA_6_1 k_t0) (fxA_40 _) r_x1 (zrA_6_1 k_t0) g5 r_x4 ?_
  have hf := bl_out hf
  exact t_Mo_insert_118 k k_t0 hf hc
noncomputable def f_Mo_insert (w : World) (t0 : Nat) (x1 : Int) (x2 : Int) (x3 : Int) : Option (World × Int) :=
  bl (w t0 1) fun n2 => if n2 < 0 then (f_Mo_insert_28 w t0) else (if 48 ≤ n2 then (f_Mo_insert_28 w t0) else (if x1 < 0 then (f_Mo_insert_28 w t0) else (if x1 < 10 then (bnd (f_Mo_slotBelow w t0 x1 x2) fun v12 => gd (0 ≤ n2 ∧ n2 < 48) (bl (up w (t0 + 3) n2.toNat x2) fun w15 => gd (0 ≤ n2 ∧ n2 < 48) (bl (up w15 (t0 + 4) n2.toNat x3) fun w17 => if v12 < 0 then (f_Mo_insert_97 w17 t0 x1 n2) else (if 48 ≤ v12 then (f_Mo_insert_97 w17 t0 x1 n2) else (gd (0 ≤ v12 ∧ v12 < 48) (gd (0 ≤ n2 ∧ n2 < 48) (bl (up w17 (t0 + 2) n2.toNat (w17 (t0 + 2) v12.toNat)) fun w25 => gd (0 ≤ v12 ∧ v12 < 48) (bl (up w25 (t0 + 2) v12.toNat n2) fun w27 => f_Mo_insert_118 w27 t0)))))))) else (f_Mo_insert_28 w t0))))
theorem t_Mo_insert_0 {E : EE} {K : KT} {l : Launch} {H0 : Heap} (k : Kof TA E K l cX5_insert RX5 rm_Mo_insert) {w : World} {t0 : Nat} {x1 : Int} {x2 : Int} {x3 : Int} {o4 o5 : Option Value} (k_t0 : TA.kd t0 = 6) (r_x1 : R32 x1) (r_x2 : R32 x2) (r_x3 : R32 x3) {out : (World × Int)} (hf : f_Mo_insert w t0 x1 x2 x3 = some out) (hc : (fun out : (World × Int) => RetZ TA E K H0 cX5_insert out.1 out.2) out) : Jj K (WdT TA E H0) w 0 [some (rf E.ad t0), some (.int (ii x1)), some (.int (ii x2)), some (.int (ii x3)), o4, o5] [] := by
  unfold f_Mo_insert at hf
  have o := k.1
  have g := k.2.1
  have kr := k.2.2.1
  refine J_aload_n o dX5_insert_0 rfl ?_
  refine J_getI o g dX5_insert_1 flX5_28 k_t0 rfl (fun q1 => ?_)
  refine J_istore o dX5_insert_4 (Nat.le_of_ble_eq_true rfl) ?_
  have hf := bl_out hf
  refine J_iload o dX5_insert_6 rfl ?_
  refine J_if_lt 28 o dX5_insert_8 (by decide) q1 (fun c3 => ?_) (fun c4 => ?_)
  · have hf := ite_t c3 hf
    exact t_Mo_insert_28 k k_t0 hf hc
  · have hf := ite_f c4 hf
    refine J_iload o dX5_insert_11 rfl ?_
    refine J_bipush o dX5_insert_13 (by decide) ?_
    refine J_icmp_ge 28 o dX5_insert_15 (by decide) q1 rl48 (fun c5 => ?_) (fun c6 => ?_)
    · have hf := ite_t c5 hf
      exact t_Mo_insert_28 k k_t0 hf hc
    · have hf := ite_f c6 hf
      refine J_iload_n o dX5_insert_18 rfl ?_
      refine J_if_lt 28 o dX5_insert_19 (by decide) r_x1 (fun c7 => ?_) (fun c8 => ?_)
      · have hf := ite_t c7 hf
        exact t_Mo_insert_28 k k_t0 hf hc
      · have hf := ite_f c8 hf
        refine J_iload_n o dX5_insert_22 rfl ?_
        refine J_bipush o dX5_insert_23 (by decide) ?_
        refine J_icmp_lt 35 o dX5_insert_25 (by decide) r_x1 rl10 (fun c9 => ?_) (fun c10 => ?_)
        · have hf := ite_t c9 hf
          refine J_aload_n o dX5_insert_35 rfl ?_
          refine J_iload_n o dX5_insert_36 rfl ?_
          refine J_iload_n o dX5_insert_37 rfl ?_
          obtain ⟨v12, e11, hf⟩ := bnd_some hf
          refine J_vI o g kr dX5_insert_38 lkX5_63 ml_Mo_slotBelow vl_Mo_slotBelow ⟨rfl, rfl, Nat.le_of_ble_eq_true rfl, Nat.le_of_ble_eq_true rfl⟩ (c_Mo_slotBelow g.2.1 k_t0 r_x1 r_x2 e11) k_t0 rfl ⟨by decide, by decide⟩ rfl rfl c1s_0 (fun q13 => ?_)
          refine J_istore o dX5_insert_41 (Nat.le_of_ble_eq_true rfl) ?_
          refine J_aload_n o dX5_insert_43 rfl ?_
          refine J_getF (false, 3) o g dX5_insert_44 flX5_18 k_t0 rfl rfl rfl ?_
          refine J_iload o dX5_insert_47 rfl ?_
          refine J_iload_n o dX5_insert_49 rfl ?_
          obtain ⟨g14, hf⟩ := gd_some hf
          refine J_iast o g dX5_insert_50 (krA_6_3 k_t0) (fxA_40 _) q1 (zrA_6_3 k_t0) g14 r_x2 ?_
          have hf := bl_out hf
          refine J_aload_n o dX5_insert_51 rfl ?_
          refine J_getF (false, 4) o g dX5_insert_52 flX5_21 k_t0 rfl rfl rfl ?_
          refine J_iload o dX5_insert_55 rfl ?_
          refine J_iload_n o dX5_insert_57 rfl ?_
          obtain ⟨g16, hf⟩ := gd_some hf
          refine J_iast o g dX5_insert_58 (krA_6_4 k_t0) (fxA_40 _) q1 (zrA_6_4 k_t0) g16 r_x3 ?_
          have hf := bl_out hf
          refine J_iload o dX5_insert_59 rfl ?_
          refine J_if_lt 97 o dX5_insert_61 (by decide) q13 (fun c18 => ?_) (fun c19 => ?_)
          · have hf := ite_t c18 hf
            exact t_Mo_insert_97 k k_t0 r_x1 q1 hf hc
          · have hf := ite_f c19 hf
            refine J_iload o dX5_insert_64 rfl ?_
            refine J_bipush o dX5_insert_66 (by decide) ?_
            refine J_icmp_ge 97 o dX5_insert_68 (by decide) q13 rl48 (fun c20 => ?_) (fun c21 => ?_)
            · have hf := ite_t c20 hf
              exact t_Mo_insert_97 k k_t0 r_x1 q1 hf hc
            · have hf := ite_f c21 hf
              refine J_aload_n o dX5_insert_71 rfl ?_
              refine J_getF (false, 2) o g dX5_insert_72 flX5_15 k_t0 rfl rfl rfl ?_
              refine J_iload o dX5_insert_75 rfl ?_
              refine J_aload_n o dX5_insert_77 rfl ?_
              refine J_getF (false, 2) o g dX5_insert_78 flX5_15 k_t0 rfl rfl rfl ?_
              refine J_iload o dX5_insert_81 rfl ?_
              obtain ⟨g22, hf⟩ := gd_some hf
              refine J_iald o g dX5_insert_83 (krA_6_2 k_t0) q13 (zrA_6_2 k_t0) g22 (fun q23 => ?_)
              obtain ⟨g24, hf⟩ := gd_some hf
              refine J_iast o g dX5_insert_84 (krA_6_2 k_t0) (fxA_40 _) q1 (zrA_6_2 k_t0) g24 q23 ?_
              have hf := bl_out hf
              refine J_aload_n o dX5_insert_85 rfl ?_
              refine J_getF (false, 2) o g dX5_insert_86 flX5_15 k_t0 rfl rfl rfl ?_
              refine J_iload o dX5_insert_89 rfl ?_
              refine J_iload o dX5_insert_91 rfl ?_
              obtain ⟨g26, hf⟩ := gd_some hf
              refine J_iast o g dX5_insert_93 (krA_6_2 k_t0) (fxA_40 _) q13 (zrA_6_2 k_t0) g26 q1 ?_
              have hf := bl_out hf
              refine J_goto 118 o dX5_insert_94 (by decide) ?_
              exact t_Mo_insert_118 k k_t0 hf hc
        · have hf := ite_f c10 hf
          exact t_Mo_insert_28 k k_t0 hf hc
theorem c_Mo_insert {E : EE} {l : Launch} (hI : Inj TA E) {w : World} {t0 : Nat} {x1 : Int} {x2 : Int} {x3 : Int} (k_t0 : TA.kd t0 = 6) (r_x1 : R32 x1) (r_x2 : R32 x2) (r_x3 : R32 x3) {out : (World × Int)} (hf : f_Mo_insert w t0 x1 x2 x3 = some out) : ConI TA E l yX5_insert (WS yX5_insert cX5_insert 6 (some .boolean)) rm_Mo_insert [rf E.ad t0, .int (ii x1), .int (ii x2), .int (ii x3)] w out.1 out.2 :=
  con_Z (by decide +kernel) rfl (Nat.le_of_ble_eq_true rfl) (c1s_r (c1s_i (c1s_i (c1s_i c1s_0 (Nat.le_of_ble_eq_true rfl)) (Nat.le_of_ble_eq_true rfl)) (Nat.le_of_ble_eq_true rfl)) (Nat.le_of_ble_eq_true rfl)).1 ⟨rfl, rfl⟩ hI TnA (fun K H0 k hret => t_Mo_insert_0 k k_t0 r_x1 r_x2 r_x3 hf hret)
abbrev rm_Mo_merged : Room := { frames := 2, cells := 0, slots := 0, locals := 45 }
noncomputable def f_Mo_merged (w : World) (t0 : Nat) (x1 : Int) (x2 : Int) (x3 : Int) : Option Int :=
  bnd (f_Sc_kindOf w x1) fun v2 => if v2 = 1 then (some (imin x2 x3)) else (if v2 = 2 then (some (imax x2 x3)) else (some (ior x2 x3)))
theorem t_Mo_merged_0 {E : EE} {K : KT} {l : Launch} {H0 : Heap} (k : Kof TA E K l cX5_merged RX5 rm_Mo_merged) {w : World} {t0 : Nat} {x1 : Int} {x2 : Int} {x3 : Int} {o4 : Option Value} (k_t0 : TA.kd t0 = 6) (r_x1 : R32 x1) (r_x2 : R32 x2) (r_x3 : R32 x3) {out : Int} (hf : f_Mo_merged w t0 x1 x2 x3 = some out) (hc : (fun out : Int => RetI TA E K H0 cX5_merged w out) out) : Jj K (WdT TA E H0) w 0 [some (rf E.ad t0), some (.int (ii x1)), some (.int (ii x2)), some (.int (ii x3)), o4] [] := by
  unfold f_Mo_merged at hf
  have o := k.1
  have g := k.2.1
  have kr := k.2.2.1
  refine J_aload_n o dX5_merged_0 rfl ?_
  refine J_getF (true, 2) o g dX5_merged_1 flX5_24 k_t0 rfl rfl rfl ?_
  refine J_iload_n o dX5_merged_4 rfl ?_
  obtain ⟨v2, e1, hf⟩ := bnd_some hf
  refine J_vI o g kr dX5_merged_5 lkX5_66 ml_Sc_kindOf vl_Sc_kindOf ⟨rfl, rfl, Nat.le_of_ble_eq_true rfl, Nat.le_of_ble_eq_true rfl⟩ (c_Sc_kindOf g.2.1 r_x1 e1) kA_2 rfl ⟨by decide, by decide⟩ rfl rfl c1s_0 (fun q3 => ?_)
  refine J_istore o dX5_merged_8 (Nat.le_of_ble_eq_true rfl) ?_
  refine J_iload o dX5_merged_10 rfl ?_
  refine J_iconst o dX5_merged_12 ?_
  refine J_icmp_ne 22 o dX5_merged_13 (by decide) q3 rl1 (fun c4 => ?_) (fun c5 => ?_)
  · have hf := ite_f c4 hf
    refine J_iload o dX5_merged_22 rfl ?_
    refine J_iconst o dX5_merged_24 ?_
    refine J_icmp_ne 36 o dX5_merged_25 (by decide) q3 rl2 (fun c6 => ?_) (fun c7 => ?_)
    · have hf := ite_f c6 hf
      refine J_iload_n o dX5_merged_36 rfl ?_
      refine J_iload_n o dX5_merged_37 rfl ?_
      refine J_ior o dX5_merged_38 ?_
      have hf := some_inj hf
      subst hf
      exact hc _ _ (R_ior _ _) dX5_merged_39
    · have hf := ite_t c7 hf
      refine J_iload_n o dX5_merged_28 rfl ?_
      refine J_iload_n o dX5_merged_29 rfl ?_
      refine J_mmax o kr dX5_merged_30 mw692 mw693 mw129 mw694 ⟨by decide, by decide⟩ r_x2 r_x3 c1s_0 ?_
      refine J_goto 39 o dX5_merged_33 (by decide) ?_
      have hf := some_inj hf
      subst hf
      exact hc _ _ (R_imax r_x2 r_x3) dX5_merged_39
  · have hf := ite_t c5 hf
    refine J_iload_n o dX5_merged_16 rfl ?_
    refine J_iload_n o dX5_merged_17 rfl ?_
    refine J_mmin o kr dX5_merged_18 mw689 mw690 mw129 mw691 ⟨by decide, by decide⟩ r_x2 r_x3 c1s_0 ?_
    have hf := some_inj hf
    subst hf
    exact hc _ _ (R_imin r_x2 r_x3) dX5_merged_21
theorem c_Mo_merged {E : EE} {l : Launch} (hI : Inj TA E) {w : World} {t0 : Nat} {x1 : Int} {x2 : Int} {x3 : Int} (k_t0 : TA.kd t0 = 6) (r_x1 : R32 x1) (r_x2 : R32 x2) (r_x3 : R32 x3) {out : Int} (hf : f_Mo_merged w t0 x1 x2 x3 = some out) : ConI TA E l yX5_merged (WS yX5_merged cX5_merged 5 (some .int)) rm_Mo_merged [rf E.ad t0, .int (ii x1), .int (ii x2), .int (ii x3)] w w out :=
  con_I (by decide +kernel) rfl (Nat.le_of_ble_eq_true rfl) (c1s_r (c1s_i (c1s_i (c1s_i c1s_0 (Nat.le_of_ble_eq_true rfl)) (Nat.le_of_ble_eq_true rfl)) (Nat.le_of_ble_eq_true rfl)) (Nat.le_of_ble_eq_true rfl)).1 ⟨rfl, rfl⟩ hI TnA (fun K H0 k hret => t_Mo_merged_0 k k_t0 r_x1 r_x2 r_x3 hf hret)
abbrev rm_Mo_take : Room := { frames := 4, cells := 0, slots := 0, locals := 97 }
noncomputable def f_Mo_take (w : World) (t0 : Nat) (x1 : Int) (x2 : Int) (x3 : Int) : Option (World × Int) :=
  bnd (f_Mo_slotLike w t0 x1 x2) fun v2 => if v2 = (-1) then (bnd (f_Mo_insert w t0 x1 x2 x3) fun v26 => gd (v26.2 = 0 ∨ v26.2 = 1) (some (v26.1, v26.2))) else (bnd (f_Mo_codeOf w t0 v2) fun v7 => bnd (f_Mo_merged w t0 x1 v7 x2) fun v10 => bnd (f_Mo_codeOf w t0 v2) fun v13 => if v10 = v13 then (some (w, 0)) else (if v2 < 0 then (some (w, 0)) else (if v2 < 48 then (gd (0 ≤ v2 ∧ v2 < 48) (bl (up w (t0 + 3) v2.toNat v10) fun w22 => gd (0 ≤ v2 ∧ v2 < 48) (bl (up w22 (t0 + 4) v2.toNat x3) fun w24 => some (w24, 1)))) else (some (w, 0)))))
theorem t_Mo_take_0 {E : EE} {K : KT} {l : Launch} {H0 : Heap} (k : Kof TA E K l cX5_take RX5 rm_Mo_take) {w : World} {t0 : Nat} {x1 : Int} {x2 : Int} {x3 : Int} {o4 o5 : Option Value} (k_t0 : TA.kd t0 = 6) (r_x1 : R32 x1) (r_x2 : R32 x2) (r_x3 : R32 x3) {out : (World × Int)} (hf : f_Mo_take w t0 x1 x2 x3 = some out) (hc : (fun out : (World × Int) => RetZ TA E K H0 cX5_take out.1 out.2) out) : Jj K (WdT TA E H0) w 0 [some (rf E.ad t0), some (.int (ii x1)), some (.int (ii x2)), some (.int (ii x3)), o4, o5] [] := by
  unfold f_Mo_take at hf
  have o := k.1
  have g := k.2.1
  have kr := k.2.2.1
  refine J_aload_n o dX5_take_0 rfl ?_
  refine J_iload_n o dX5_take_1 rfl ?_
  refine J_iload_n o dX5_take_2 rfl ?_
  obtain ⟨v2, e1, hf⟩ := bnd_some hf
  refine J_vI o g kr dX5_take_3 lkX5_48 ml_Mo_slotLike vl_Mo_slotLike ⟨rfl, rfl, Nat.le_of_ble_eq_true rfl, Nat.le_of_ble_eq_true rfl⟩ (c_Mo_slotLike g.2.1 k_t0 r_x1 r_x2 e1) k_t0 rfl ⟨by decide, by decide⟩ rfl rfl c1s_0 (fun q3 => ?_)
  refine J_istore o dX5_take_6 (Nat.le_of_ble_eq_true rfl) ?_
  refine J_iload o dX5_take_8 rfl ?_
  refine J_iconst o dX5_take_10 ?_
  refine J_icmp_ne 22 o dX5_take_11 (by decide) q3 rlm1 (fun c4 => ?_) (fun c5 => ?_)
  · have hf := ite_f c4 hf
    refine J_aload_n o dX5_take_22 rfl ?_
    refine J_iload_n o dX5_take_23 rfl ?_
    refine J_aload_n o dX5_take_24 rfl ?_
    refine J_iload o dX5_take_25 rfl ?_
    obtain ⟨v7, e6, hf⟩ := bnd_some hf
    refine J_vI o g kr dX5_take_27 lkX5_52 ml_Mo_codeOf vl_Mo_codeOf ⟨rfl, rfl, Nat.le_of_ble_eq_true rfl, Nat.le_of_ble_eq_true rfl⟩ (c_Mo_codeOf g.2.1 k_t0 q3 e6) k_t0 rfl ⟨by decide, by decide⟩ rfl rfl (c1s_i (c1s_r c1s_0 (Nat.le_of_ble_eq_true rfl)) (Nat.le_of_ble_eq_true rfl)) (fun q8 => ?_)
    refine J_iload_n o dX5_take_30 rfl ?_
    obtain ⟨v10, e9, hf⟩ := bnd_some hf
    refine J_vI o g kr dX5_take_31 lkX5_59 ml_Mo_merged vl_Mo_merged ⟨rfl, rfl, Nat.le_of_ble_eq_true rfl, Nat.le_of_ble_eq_true rfl⟩ (c_Mo_merged g.2.1 k_t0 r_x1 q8 r_x2 e9) k_t0 rfl ⟨by decide, by decide⟩ rfl rfl c1s_0 (fun q11 => ?_)
    refine J_istore o dX5_take_34 (Nat.le_of_ble_eq_true rfl) ?_
    refine J_iload o dX5_take_36 rfl ?_
    refine J_aload_n o dX5_take_38 rfl ?_
    refine J_iload o dX5_take_39 rfl ?_
    obtain ⟨v13, e12, hf⟩ := bnd_some hf
    refine J_vI o g kr dX5_take_41 lkX5_52 ml_Mo_codeOf vl_Mo_codeOf ⟨rfl, rfl, Nat.le_of_ble_eq_true rfl, Nat.le_of_ble_eq_true rfl⟩ (c_Mo_codeOf g.2.1 k_t0 q3 e12) k_t0 rfl ⟨by decide, by decide⟩ rfl rfl (c1s_i c1s_0 (Nat.le_of_ble_eq_true rfl)) (fun q14 => ?_)
    refine J_icmp_eq 59 o dX5_take_44 (by decide) q11 q14 (fun c15 => ?_) (fun c16 => ?_)
    · have hf := ite_t c15 hf
      refine J_iconst o dX5_take_59 ?_
      have hf := some_inj hf
      subst hf
      exact hc _ _ (Or.inl rfl) dX5_take_60
    · have hf := ite_f c16 hf
      refine J_iload o dX5_take_47 rfl ?_
      refine J_if_lt 59 o dX5_take_49 (by decide) q3 (fun c17 => ?_) (fun c18 => ?_)
      · have hf := ite_t c17 hf
        refine J_iconst o dX5_take_59 ?_
        have hf := some_inj hf
        subst hf
        exact hc _ _ (Or.inl rfl) dX5_take_60
      · have hf := ite_f c18 hf
        refine J_iload o dX5_take_52 rfl ?_
        refine J_bipush o dX5_take_54 (by decide) ?_
        refine J_icmp_lt 61 o dX5_take_56 (by decide) q3 rl48 (fun c19 => ?_) (fun c20 => ?_)
        · have hf := ite_t c19 hf
          refine J_aload_n o dX5_take_61 rfl ?_
          refine J_getF (false, 3) o g dX5_take_62 flX5_18 k_t0 rfl rfl rfl ?_
          refine J_iload o dX5_take_65 rfl ?_
          refine J_iload o dX5_take_67 rfl ?_
          obtain ⟨g21, hf⟩ := gd_some hf
          refine J_iast o g dX5_take_69 (krA_6_3 k_t0) (fxA_40 _) q3 (zrA_6_3 k_t0) g21 q11 ?_
          have hf := bl_out hf
          refine J_aload_n o dX5_take_70 rfl ?_
          refine J_getF (false, 4) o g dX5_take_71 flX5_21 k_t0 rfl rfl rfl ?_
          refine J_iload o dX5_take_74 rfl ?_
          refine J_iload_n o dX5_take_76 rfl ?_
          obtain ⟨g23, hf⟩ := gd_some hf
          refine J_iast o g dX5_take_77 (krA_6_4 k_t0) (fxA_40 _) q3 (zrA_6_4 k_t0) g23 r_x3 ?_
          have hf := bl_out hf
          refine J_iconst o dX5_take_78 ?_
          have hf := some_inj hf
          subst hf
          exact hc _ _ (Or.inr rfl) dX5_take_79
        · have hf := ite_f c20 hf
          refine J_iconst o dX5_take_59 ?_
          have hf := some_inj hf
          subst hf
          exact hc _ _ (Or.inl rfl) dX5_take_60
  · have hf := ite_t c5 hf
    refine J_aload_n o dX5_take_14 rfl ?_
    refine J_iload_n o dX5_take_15 rfl ?_
    refine J_iload_n o dX5_take_16 rfl ?_
    refine J_iload_n o dX5_take_17 rfl ?_
    obtain ⟨v26, e25, hf⟩ := bnd_some hf
    refine J_vI o g kr dX5_take_18 lkX5_55 ml_Mo_insert vl_Mo_insert ⟨rfl, rfl, Nat.le_of_ble_eq_true rfl, Nat.le_of_ble_eq_true rfl⟩ (c_Mo_insert g.2.1 k_t0 r_x1 r_x2 r_x3 e25) k_t0 rfl ⟨by decide, by decide⟩ rfl rfl c1s_0 (fun q27 => ?_)
    obtain ⟨g28, hf⟩ := gd_some hf
    have hf := some_inj hf
    subst hf
    exact hc _ _ g28 dX5_take_21
theorem c_Mo_take {E : EE} {l : Launch} (hI : Inj TA E) {w : World} {t0 : Nat} {x1 : Int} {x2 : Int} {x3 : Int} (k_t0 : TA.kd t0 = 6) (r_x1 : R32 x1) (r_x2 : R32 x2) (r_x3 : R32 x3) {out : (World × Int)} (hf : f_Mo_take w t0 x1 x2 x3 = some out) : ConI TA E l yX5_take (WS yX5_take cX5_take 6 (some .boolean)) rm_Mo_take [rf E.ad t0, .int (ii x1), .int (ii x2), .int (ii x3)] w out.1 out.2 :=
  con_Z (by decide +kernel) rfl (Nat.le_of_ble_eq_true rfl) (c1s_r (c1s_i (c1s_i (c1s_i c1s_0 (Nat.le_of_ble_eq_true rfl)) (Nat.le_of_ble_eq_true rfl)) (Nat.le_of_ble_eq_true rfl)) (Nat.le_of_ble_eq_true rfl)).1 ⟨rfl, rfl⟩ hI TnA (fun K H0 k hret => t_Mo_take_0 k k_t0 r_x1 r_x2 r_x3 hf hret)
abbrev rm_Mi_load : Room := { frames := 5, cells := 0, slots := 0, locals := 122 }
def HW_Mi_load_3 (E : EE) (K : KT) (H0 : Heap) (t1 : Nat) (x2 : Int) (x3 : Int) (x4 : Int) : (World × Int) → Prop := fun z => R32 z.2 → ∀ o6 : Option Value, Jj K (WdT TA E H0) z.1 3 [some (rf E.ad 107), some (rf E.ad t1), some (.int (ii x2)), some (.int (ii x3)), some (.int (ii x4)), some (.int (ii z.2)), o6] []
noncomputable def f_Mi_load_79 (w : World) (t1 : Nat) (x2 : Int) (x3 : Int) (x4 : Int) (x5 : Int) : Option ((World × Int) ⊕ World) :=
  bl (wr (x5 + 1)) fun n1 => some (Sum.inl (w, n1))
theorem t_Mi_load_79 {E : EE} {K : KT} {l : Launch} {H0 : Heap} (k : Kof TA E K l cX4_load RX4 rm_Mi_load) {w : World} {t1 : Nat} {x2 : Int} {x3 : Int} {x4 : Int} {x5 : Int} {o6 : Option Value} (k_t1 : TA.kd t1 = 6) (r_x2 : R32 x2) (r_x3 : R32 x3) (r_x4 : R32 x4) (r_x5 : R32 x5) {out : ((World × Int) ⊕ World)} (hf : f_Mi_load_79 w t1 x2 x3 x4 x5 = some out) (hc : (Sum.elim (HW_Mi_load_3 E K H0 t1 x2 x3 x4) (fun out : World => RetV TA E K H0 cX4_load out)) out) : Jj K (WdT TA E H0) w 79 [some (rf E.ad 107), some (rf E.ad t1), some (.int (ii x2)), some (.int (ii x3)), some (.int (ii x4)), some (.int (ii x5)), o6] [] := by
  unfold f_Mi_load_79 at hf
  have o := k.1
  have g := k.2.1
  have kr := k.2.2.1
  have hf := bl_out hf
  refine J_iinc o dX4_load_79 rfl ?_
  refine J_goto 3 o dX4_load_82 (by decide) ?_
  have hf := some_inj hf
  subst hf
  exact hc (R_wr _) _
noncomputable def f_Mi_load_3B (w : World) (t1 : Nat) (x2 : Int) (x3 : Int) (x4 : Int) (x5 : Int) : Option ((World × Int) ⊕ World) :=
  if (w 7 0) ≤ x5 then (some (Sum.inr w)) else (bnd (f_Fa_relationOf w x5) fun v5 => bnd (f_Fa_holdsIn w x5 x3) fun v8 => if v8 = 0 then (f_Mi_load_79 w t1 x2 x3 x4 x5) else (if (iand (ishr x4 x5) 1) = 0 then (bnd (f_Pr_levelOf w v5) fun v15 => if v15 = x2 then (bnd (f_Fa_codeOf w x5) fun v20 => bnd (f_Mo_take w t1 v5 v20 0) fun v23 => f_Mi_load_79 v23.1 t1 x2 x3 x4 x5) else (f_Mi_load_79 w t1 x2 x3 x4 x5)) else (f_Mi_load_79 w t1 x2 x3 x4 x5)))
theorem t_Mi_load_3B {E : EE} {K : KT} {l : Launch} {H0 : Heap} (k : Kof TA E K l cX4_load RX4 rm_Mi_load) {w : World} {t1 : Nat} {x2 : Int} {x3 : Int} {x4 : Int} {x5 : Int} {o6 : Option Value} (k_t1 : TA.kd t1 = 6) (r_x2 : R32 x2) (r_x3 : R32 x3) (r_x4 : R32 x4) (r_x5 : R32 x5) {out : ((World × Int) ⊕ World)} (hf : f_Mi_load_3B w t1 x2 x3 x4 x5 = some out) (hc : (Sum.elim (HW_Mi_load_3 E K H0 t1 x2 x3 x4) (fun out : World => RetV TA E K H0 cX4_load out)) out) : Jj K (WdT TA E H0) w 3 [some (rf E.ad 107), some (rf E.ad t1), some (.int (ii x2)), some (.int (ii x3)), some (.int (ii x4)), some (.int (ii x5)), o6] [] := by
  unfold f_Mi_load_3B at hf
  have o := k.1
  have g := k.2.1
  have kr := k.2.2.1
  refine J_iload o dX4_load_3 rfl ?_
  refine J_aload_n o dX4_load_5 rfl ?_
  refine J_getF (true, 7) o g dX4_load_6 flX4_9 kA_107 rfl rfl rfl ?_
  refine J_getI o g dX4_load_9 flX4_46 kA_7 rfl (fun q1 => ?_)
  refine J_icmp_ge 85 o dX4_load_12 (by decide) r_x5 q1 (fun c2 => ?_) (fun c3 => ?_)
  · have hf := ite_t c2 hf
    have hf := some_inj hf
    subst hf
    exact hc _ _  dX4_load_85
  · have hf := ite_f c3 hf
    refine J_aload_n o dX4_load_15 rfl ?_
    refine J_getF (true, 7) o g dX4_load_16 flX4_9 kA_107 rfl rfl rfl ?_
    refine J_iload o dX4_load_19 rfl ?_
    obtain ⟨v5, e4, hf⟩ := bnd_some hf
    refine J_vI o g kr dX4_load_21 lkX4_51 ml_Fa_relationOf vl_Fa_relationOf ⟨rfl, rfl, Nat.le_of_ble_eq_true rfl, Nat.le_of_ble_eq_true rfl⟩ (c_Fa_relationOf g.2.1 r_x5 e4) kA_7 rfl ⟨by decide, by decide⟩ rfl rfl c1s_0 (fun q6 => ?_)
    refine J_istore o dX4_load_24 (Nat.le_of_ble_eq_true rfl) ?_
    refine J_aload_n o dX4_load_26 rfl ?_
    refine J_getF (true, 7) o g dX4_load_27 flX4_9 kA_107 rfl rfl rfl ?_
    refine J_iload o dX4_load_30 rfl ?_
    refine J_iload_n o dX4_load_32 rfl ?_
    obtain ⟨v8, e7, hf⟩ := bnd_some hf
    refine J_vI o g kr dX4_load_33 lkX4_55 ml_Fa_holdsIn vl_Fa_holdsIn ⟨rfl, rfl, Nat.le_of_ble_eq_true rfl, Nat.le_of_ble_eq_true rfl⟩ (c_Fa_holdsIn g.2.1 r_x5 r_x3 e7) kA_7 rfl ⟨by decide, by decide⟩ rfl rfl c1s_0 (fun q9 => ?_)
    refine J_if_eq 79 o dX4_load_36 (by decide) q9 (fun c10 => ?_) (fun c11 => ?_)
    · have hf := ite_t c10 hf
      exact t_Mi_load_79 k k_t1 r_x2 r_x3 r_x4 r_x5 hf hc
    · have hf := ite_f c11 hf
      refine J_iload o dX4_load_39 rfl ?_
      refine J_iload o dX4_load_41 rfl ?_
      refine J_ishr o dX4_load_43 ?_
      refine J_iconst o dX4_load_44 ?_
      refine J_iand o dX4_load_45 ?_
      refine J_if_ne 79 o dX4_load_46 (by decide) (R_iand _ _) (fun c12 => ?_) (fun c13 => ?_)
      · have hf := ite_f c12 hf
        exact t_Mi_load_79 k k_t1 r_x2 r_x3 r_x4 r_x5 hf hc
      · have hf := ite_t c13 hf
        refine J_aload_n o dX4_load_49 rfl ?_
        refine J_getF (true, 14) o g dX4_load_50 flX4_15 kA_107 rfl rfl rfl ?_
        refine J_iload o dX4_load_53 rfl ?_
        obtain ⟨v15, e14, hf⟩ := bnd_some hf
        refine J_vI o g kr dX4_load_55 lkX4_59 ml_Pr_levelOf vl_Pr_levelOf ⟨rfl, rfl, Nat.le_of_ble_eq_true rfl, Nat.le_of_ble_eq_true rfl⟩ (c_Pr_levelOf g.2.1 q6 e14) kA_14 rfl ⟨by decide, by decide⟩ rfl rfl c1s_0 (fun q16 => ?_)
        refine J_iload_n o dX4_load_58 rfl ?_
        refine J_icmp_ne 79 o dX4_load_59 (by decide) q16 r_x2 (fun c17 => ?_) (fun c18 => ?_)
        · have hf := ite_f c17 hf
          exact t_Mi_load_79 k k_t1 r_x2 r_x3 r_x4 r_x5 hf hc
        · have hf := ite_t c18 hf
          refine J_aload_n o dX4_load_62 rfl ?_
          refine J_iload o dX4_load_63 rfl ?_
          refine J_aload_n o dX4_load_65 rfl ?_
          refine J_getF (true, 7) o g dX4_load_66 flX4_9 kA_107 rfl rfl rfl ?_
          refine J_iload o dX4_load_69 rfl ?_
          obtain ⟨v20, e19, hf⟩ := bnd_some hf
          refine J_vI o g kr dX4_load_71 lkX4_62 ml_Fa_codeOf vl_Fa_codeOf ⟨rfl, rfl, Nat.le_of_ble_eq_true rfl, Nat.le_of_ble_eq_true rfl⟩ (c_Fa_codeOf g.2.1 r_x5 e19) kA_7 rfl ⟨by decide, by decide⟩ rfl rfl (c1s_i (c1s_r c1s_0 (Nat.le_of_ble_eq_true rfl)) (Nat.le_of_ble_eq_true rfl)) (fun q21 => ?_)
          refine J_iconst o dX4_load_74 ?_
          obtain ⟨v23, e22, hf⟩ := bnd_some hf
          refine J_vI o g kr dX4_load_75 lkX4_65 ml_Mo_take vl_Mo_take ⟨rfl, rfl, Nat.le_of_ble_eq_true rfl, Nat.le_of_ble_eq_true rfl⟩ (c_Mo_take g.2.1 k_t1 q6 q21 rl0 e22) k_t1 rfl ⟨by decide, by decide⟩ rfl rfl c1s_0 (fun q24 => ?_)
          refine J_pop o dX4_load_78 rfl ?_
          exact t_Mi_load_79 k k_t1 r_x2 r_x3 r_x4 r_x5 hf hc
noncomputable def f_Mi_load_3 (w : World) (t1 : Nat) (x2 : Int) (x3 : Int) (x4 : Int) (x5 : Int) : Option World :=
  lp (fun z : (World × Int) => f_Mi_load_3B z.1 t1 x2 x3 x4 z.2) (w, x5)
theorem t_Mi_load_3 {E : EE} {K : KT} {l : Launch} {H0 : Heap} (k : Kof TA E K l cX4_load RX4 rm_Mi_load) {w : World} {t1 : Nat} {x2 : Int} {x3 : Int} {x4 : Int} {x5 : Int} (k_t1 : TA.kd t1 = 6) (r_x2 : R32 x2) (r_x3 : R32 x3) (r_x4 : R32 x4) {out : World} (hf : f_Mi_load_3 w t1 x2 x3 x4 x5 = some out) (hc : (fun out : World => RetV TA E K H0 cX4_load out) out) : HW_Mi_load_3 E K H0 t1 x2 x3 x4 (w, x5) := by
  unfold f_Mi_load_3 at hf
  refine lp_ind (P := HW_Mi_load_3 E K H0 t1 x2 x3 x4) hf ?_
  intro z o hs h1 h2
  intro r_x5
  intro o6
  refine t_Mi_load_3B k k_t1 r_x2 r_x3 r_x4 r_x5 hs ?_
  cases o with
  | inl z' => exact h1 z' rfl
  | inr r' => rw [h2 r' rfl]; exact hc
noncomputable def f_Mi_load (w : World) (t1 : Nat) (x2 : Int) (x3 : Int) (x4 : Int) : Option World :=
  f_Mi_load_3 w t1 x2 x3 x4 0
theorem t_Mi_load_0 {E : EE} {K : KT} {l : Launch} {H0 : Heap} (k : Kof TA E K l cX4_load RX4 rm_Mi_load) {w : World} {t1 : Nat} {x2 : Int} {x3 : Int} {x4 : Int} {o5 o6 : Option Value} (k_t1 : TA.kd t1 = 6) (r_x2 : R32 x2) (r_x3 : R32 x3) (r_x4 : R32 x4) {out : World} (hf : f_Mi_load w t1 x2 x3 x4 = some out) (hc : (fun out : World => RetV TA E K H0 cX4_load out) out) : Jj K (WdT TA E H0) w 0 [some (rf E.ad 107), some (rf E.ad t1), some (.int (ii x2)), some (.int (ii x3)), some (.int (ii x4)), o5, o6] [] := by
  unfold f_Mi_load at hf
  have o := k.1
  have g := k.2.1
  have kr := k.2.2.1
  refine J_iconst o dX4_load_0 ?_
  refine J_istore o dX4_load_1 (Nat.le_of_ble_eq_true rfl) ?_
  exact (t_Mi_load_3 k k_t1 r_x2 r_x3 r_x4 hf hc) rl0 _
theorem c_Mi_load {E : EE} {l : Launch} (hI : Inj TA E) {w : World} {t1 : Nat} {x2 : Int} {x3 : Int} {x4 : Int} (k_t1 : TA.kd t1 = 6) (r_x2 : R32 x2) (r_x3 : R32 x3) (r_x4 : R32 x4) {out : World} (hf : f_Mi_load w t1 x2 x3 x4 = some out) : ConV TA E l yX4_load (WS yX4_load cX4_load 7 none) rm_Mi_load [rf E.ad 107, rf E.ad t1, .int (ii x2), .int (ii x3), .int (ii x4)] w out :=
  con_V (by decide +kernel) rfl (Nat.le_of_ble_eq_true rfl) (c1s_r (c1s_r (c1s_i (c1s_i (c1s_i c1s_0 (Nat.le_of_ble_eq_true rfl)) (Nat.le_of_ble_eq_true rfl)) (Nat.le_of_ble_eq_true rfl)) (Nat.le_of_ble_eq_true rfl)) (Nat.le_of_ble_eq_true rfl)).1 ⟨rfl, rfl⟩ hI TnA (fun K H0 k hret => t_Mi_load_0 k k_t1 r_x2 r_x3 r_x4 hf hret)
abbrev rm_Pr_rule : Room := { frames := 1, cells := 0, slots := 0, locals := 24 }
noncomputable def f_Pr_rule_26 (w : World) (u0 : Nat) : Option Nat :=
  if u0 = 0 then (some 15) else (some u0)
theorem t_Pr_rule_26 {E : EE} {K : KT} {l : Launch} {H0 : Heap} (k : Kof TA E K l cX7_rule RX7 rm_Pr_rule) {w : World} {u0 : Nat} {o1 o2 : Option Value}  {out : Nat} (hf : f_Pr_rule_26 w u0 = some out) (hc : (fun out : Nat => RetR TA E K H0 cX7_rule w out) out) : Jj K (WdT TA E H0) w 26 [some (rf E.ad 14), o1, o2] [rf E.ad u0] := by
  unfold f_Pr_rule_26 at hf
  have o := k.1
  have g := k.2.1
  have kr := k.2.2.1
  refine J_astore_n o dX7_rule_26 (Nat.le_of_ble_eq_true rfl) ?_
  refine J_aload_n o dX7_rule_27 rfl ?_
  refine J_ifnonnull 38 o dX7_rule_28 (by decide) (fun c1 => ?_) (fun c2 => ?_)
  · have hf := ite_f c1 hf
    refine J_aload_n o dX7_rule_38 rfl ?_
    have hf := some_inj hf
    subst hf
    exact hc _ _  dX7_rule_39
  · have hf := ite_t c2 hf
    refine J_aload_n o dX7_rule_31 rfl ?_
    refine J_getF (true, 15) o g dX7_rule_32 flX7_12 kA_14 rfl rfl rfl ?_
    refine J_goto 39 o dX7_rule_35 (by decide) ?_
    have hf := some_inj hf
    subst hf
    exact hc _ _  dX7_rule_39
noncomputable def f_Pr_rule_22 (w : World) : Option Nat :=
  f_Pr_rule_26 w 15
theorem t_Pr_rule_22 {E : EE} {K : KT} {l : Launch} {H0 : Heap} (k : Kof TA E K l cX7_rule RX7 rm_Pr_rule) {w : World} {o1 o2 : Option Value}  {out : Nat} (hf : f_Pr_rule_22 w = some out) (hc : (fun out : Nat => RetR TA E K H0 cX7_rule w out) out) : Jj K (WdT TA E H0) w 22 [some (rf E.ad 14), o1, o2] [] := by
  unfold f_Pr_rule_22 at hf
  have o := k.1
  have g := k.2.1
  have kr := k.2.2.1
  refine J_aload_n o dX7_rule_22 rfl ?_
  refine J_getF (true, 15) o g dX7_rule_23 flX7_12 kA_14 rfl rfl rfl ?_
  exact t_Pr_rule_26 k  hf hc
noncomputable def f_Pr_rule (w : World) (x1 : Int) : Option Nat :=
  if x1 < 0 then (f_Pr_rule_22 w) else (if 12 ≤ x1 then (f_Pr_rule_22 w) else (gd (0 ≤ x1 ∧ x1 < 12) (f_Pr_rule_26 w ((w 19 x1.toNat).toNat))))
theorem t_Pr_rule_0 {E : EE} {K : KT} {l : Launch} {H0 : Heap} (k : Kof TA E K l cX7_rule RX7 rm_Pr_rule) {w : World} {x1 : Int} {o2 : Option Value} (r_x1 : R32 x1) {out : Nat} (hf : f_Pr_rule w x1 = some out) (hc : (fun out : Nat => RetR TA E K H0 cX7_rule w out) out) : Jj K (WdT TA E H0) w 0 [some (rf E.ad 14), some (.int (ii x1)), o2] [] := by
  unfold f_Pr_rule at hf
  have o := k.1
  have g := k.2.1
  have kr := k.2.2.1
  refine J_iload_n o dX7_rule_0 rfl ?_
  refine J_if_lt 22 o dX7_rule_1 (by decide) r_x1 (fun c1 => ?_) (fun c2 => ?_)
  · have hf := ite_t c1 hf
    exact t_Pr_rule_22 k  hf hc
  · have hf := ite_f c2 hf
    refine J_iload_n o dX7_rule_4 rfl ?_
    refine J_aload_n o dX7_rule_5 rfl ?_
    refine J_getF (true, 19) o g dX7_rule_6 flX7_18 kA_14 rfl rfl rfl ?_
    refine J_alen o g dX7_rule_9 kA_19 ⟨by decide, by decide⟩ zA_19 ?_
    refine J_icmp_ge 22 o dX7_rule_10 (by decide) r_x1 rl12 (fun c3 => ?_) (fun c4 => ?_)
    · have hf := ite_t c3 hf
      exact t_Pr_rule_22 k  hf hc
    · have hf := ite_f c4 hf
      refine J_aload_n o dX7_rule_13 rfl ?_
      refine J_getF (true, 19) o g dX7_rule_14 flX7_18 kA_14 rfl rfl rfl ?_
      refine J_iload_n o dX7_rule_17 rfl ?_
      obtain ⟨g5, hf⟩ := gd_some hf
      refine J_aald o g dX7_rule_18 (Or.inl kA_19) r_x1 zA_19 g5 ?_
      refine J_goto 26 o dX7_rule_19 (by decide) ?_
      exact t_Pr_rule_26 k  hf hc
theorem c_Pr_rule {E : EE} {l : Launch} (hI : Inj TA E) {w : World} {x1 : Int} (r_x1 : R32 x1) {out : Nat} (hf : f_Pr_rule w x1 = some out) : ConR TA E l yX7_rule (WS yX7_rule cX7_rule 3 (some (.object "Datalogmill$Body"))) rm_Pr_rule [rf E.ad 14, .int (ii x1)] w w out :=
  con_R (by decide +kernel) rfl (Nat.le_of_ble_eq_true rfl) (c1s_r (c1s_i c1s_0 (Nat.le_of_ble_eq_true rfl)) (Nat.le_of_ble_eq_true rfl)).1 ⟨rfl, rfl⟩ hI TnA (fun K H0 k hret => t_Pr_rule_0 k r_x1 hf hret)
abbrev rm_Mi_isLead : Room := { frames := 2, cells := 0, slots := 0, locals := 45 }
noncomputable def f_Mi_isLead (w : World) (t1 : Nat) (x2 : Int) (x3 : Int) : Option Int :=
  bnd (f_Bo_formOf w t1 x2) fun v2 => if v2 = 0 then (bnd (f_Bo_subjectOf w t1 x2) fun v7 => bnd (f_Pr_levelOf w v7) fun v10 => if v10 = x3 then (some 1) else (some 0)) else (some 0)
theorem t_Mi_isLead_0 {E : EE} {K : KT} {l : Launch} {H0 : Heap} (k : Kof TA E K l cX4_isLead RX4 rm_Mi_isLead) {w : World} {t1 : Nat} {x2 : Int} {x3 : Int} (k_t1 : TA.kd t1 = 1) (r_x2 : R32 x2) (r_x3 : R32 x3) {out : Int} (hf : f_Mi_isLead w t1 x2 x3 = some out) (hc : (fun out : Int => RetZ TA E K H0 cX4_isLead w out) out) : Jj K (WdT TA E H0) w 0 [some (rf E.ad 107), some (rf E.ad t1), some (.int (ii x2)), some (.int (ii x3))] [] := by
  unfold f_Mi_isLead at hf
  have o := k.1
  have g := k.2.1
  have kr := k.2.2.1
  refine J_aload_n o dX4_isLead_0 rfl ?_
  refine J_iload_n o dX4_isLead_1 rfl ?_
  obtain ⟨v2, e1, hf⟩ := bnd_some hf
  refine J_vI o g kr dX4_isLead_2 lkX4_107 ml_Bo_formOf vl_Bo_formOf ⟨rfl, rfl, Nat.le_of_ble_eq_true rfl, Nat.le_of_ble_eq_true rfl⟩ (c_Bo_formOf g.2.1 k_t1 r_x2 e1) k_t1 rfl ⟨by decide, by decide⟩ rfl rfl c1s_0 (fun q3 => ?_)
  refine J_if_ne 28 o dX4_isLead_5 (by decide) q3 (fun c4 => ?_) (fun c5 => ?_)
  · have hf := ite_f c4 hf
    refine J_iconst o dX4_isLead_28 ?_
    have hf := some_inj hf
    subst hf
    exact hc _ _ (Or.inl rfl) dX4_isLead_29
  · have hf := ite_t c5 hf
    refine J_aload_n o dX4_isLead_8 rfl ?_
    refine J_getF (true, 14) o g dX4_isLead_9 flX4_15 kA_107 rfl rfl rfl ?_
    refine J_aload_n o dX4_isLead_12 rfl ?_
    refine J_iload_n o dX4_isLead_13 rfl ?_
    obtain ⟨v7, e6, hf⟩ := bnd_some hf
    refine J_vI o g kr dX4_isLead_14 lkX4_110 ml_Bo_subjectOf vl_Bo_subjectOf ⟨rfl, rfl, Nat.le_of_ble_eq_true rfl, Nat.le_of_ble_eq_true rfl⟩ (c_Bo_subjectOf g.2.1 k_t1 r_x2 e6) k_t1 rfl ⟨by decide, by decide⟩ rfl rfl (c1s_r c1s_0 (Nat.le_of_ble_eq_true rfl)) (fun q8 => ?_)
    obtain ⟨v10, e9, hf⟩ := bnd_some hf
    refine J_vI o g kr dX4_isLead_17 lkX4_59 ml_Pr_levelOf vl_Pr_levelOf ⟨rfl, rfl, Nat.le_of_ble_eq_true rfl, Nat.le_of_ble_eq_true rfl⟩ (c_Pr_levelOf g.2.1 q8 e9) kA_14 rfl ⟨by decide, by decide⟩ rfl rfl c1s_0 (fun q11 => ?_)
    refine J_iload_n o dX4_isLead_20 rfl ?_
    refine J_icmp_ne 28 o dX4_isLead_21 (by decide) q11 r_x3 (fun c12 => ?_) (fun c13 => ?_)
    · have hf := ite_f c12 hf
      refine J_iconst o dX4_isLead_28 ?_
      have hf := some_inj hf
      subst hf
      exact hc _ _ (Or.inl rfl) dX4_isLead_29
    · have hf := ite_t c13 hf
      refine J_iconst o dX4_isLead_24 ?_
      refine J_goto 29 o dX4_isLead_25 (by decide) ?_
      have hf := some_inj hf
      subst hf
      exact hc _ _ (Or.inr rfl) dX4_isLead_29
theorem c_Mi_isLead {E : EE} {l : Launch} (hI : Inj TA E) {w : World} {t1 : Nat} {x2 : Int} {x3 : Int} (k_t1 : TA.kd t1 = 1) (r_x2 : R32 x2) (r_x3 : R32 x3) {out : Int} (hf : f_Mi_isLead w t1 x2 x3 = some out) : ConI TA E l yX4_isLead (WS yX4_isLead cX4_isLead 4 (some .boolean)) rm_Mi_isLead [rf E.ad 107, rf E.ad t1, .int (ii x2), .int (ii x3)] w w out :=
  con_Z (by decide +kernel) rfl (Nat.le_of_ble_eq_true rfl) (c1s_r (c1s_r (c1s_i (c1s_i c1s_0 (Nat.le_of_ble_eq_true rfl)) (Nat.le_of_ble_eq_true rfl)) (Nat.le_of_ble_eq_true rfl)) (Nat.le_of_ble_eq_true rfl)).1 ⟨rfl, rfl⟩ hI TnA (fun K H0 k hret => t_Mi_isLead_0 k k_t1 r_x2 r_x3 hf hret)
abbrev rm_Wa_leadBy : Room := { frames := 1, cells := 0, slots := 0, locals := 24 }
noncomputable def f_Wa_leadBy (w : World) (x1 : Int) (x2 : Int) : Option World :=
  bl (up w 103 6 x1) fun w1 => bl (up w1 103 7 x2) fun w2 => some w2
theorem t_Wa_leadBy_0 {E : EE} {K : KT} {l : Launch} {H0 : Heap} (k : Kof TA E K l cX9_leadBy RX9 rm_Wa_leadBy) {w : World} {x1 : Int} {x2 : Int} (r_x1 : R32 x1) (r_x2 : R32 x2) {out : World} (hf : f_Wa_leadBy w x1 x2 = some out) (hc : (fun out : World => RetV TA E K H0 cX9_leadBy out) out) : Jj K (WdT TA E H0) w 0 [some (rf E.ad 103), some (.int (ii x1)), some (.int (ii x2))] [] := by
  unfold f_Wa_leadBy at hf
  have o := k.1
  have g := k.2.1
  have kr := k.2.2.1
  refine J_aload_n o dX9_leadBy_0 rfl ?_
  refine J_iload_n o dX9_leadBy_1 rfl ?_
  refine J_putI o g dX9_leadBy_2 fpX9_33 kA_103 rfl rfl r_x1 ?_
  have hf := bl_out hf
  refine J_aload_n o dX9_leadBy_5 rfl ?_
  refine J_iload_n o dX9_leadBy_6 rfl ?_
  refine J_putI o g dX9_leadBy_7 fpX9_51 kA_103 rfl rfl r_x2 ?_
  have hf := bl_out hf
  have hf := some_inj hf
  subst hf
  exact hc _ _  dX9_leadBy_10
theorem c_Wa_leadBy {E : EE} {l : Launch} (hI : Inj TA E) {w : World} {x1 : Int} {x2 : Int} (r_x1 : R32 x1) (r_x2 : R32 x2) {out : World} (hf : f_Wa_leadBy w x1 x2 = some out) : ConV TA E l yX9_leadBy (WS yX9_leadBy cX9_leadBy 3 none) rm_Wa_leadBy [rf E.ad 103, .int (ii x1), .int (ii x2)] w out :=
  con_V (by decide +kernel) rfl (Nat.le_of_ble_eq_true rfl) (c1s_r (c1s_i (c1s_i c1s_0 (Nat.le_of_ble_eq_true rfl)) (Nat.le_of_ble_eq_true rfl)) (Nat.le_of_ble_eq_true rfl)).1 ⟨rfl, rfl⟩ hI TnA (fun K H0 k hret => t_Wa_leadBy_0 k r_x1 r_x2 hf hret)
abbrev rm_Mi_sweep : Room := { frames := 5, cells := 0, slots := 0, locals := 123 }
def HW_Mi_sweep_6 (E : EE) (K : KT) (H0 : Heap) (t1 : Nat) (x2 : Int) (x3 : Int) (x4 : Int) : (World × Int × Int) → Prop := fun z => R32 z.2.1 → R32 z.2.2 → ∀ o7 o8 o9 o10 o11 : Option Value, Jj K (WdT TA E H0) z.1 6 [some (rf E.ad 107), some (rf E.ad t1), some (.int (ii x2)), some (.int (ii x3)), some (.int (ii x4)), some (.int (ii z.2.1)), some (.int (ii z.2.2)), o7, o8, o9, o10, o11] []
def HW_Mi_sweep_79 (E : EE) (K : KT) (H0 : Heap) (t1 : Nat) (x2 : Int) (x3 : Int) (x4 : Int) (x6 : Int) (t7 : Nat) (x8 : Int) (x9 : Int) : (World × Int × Int) → Prop := fun z => R32 z.2.1 → R32 z.2.2 → ∀ o11 : Option Value, Jj K (WdT TA E H0) z.1 79 [some (rf E.ad 107), some (rf E.ad t1), some (.int (ii x2)), some (.int (ii x3)), some (.int (ii x4)), some (.int (ii z.2.1)), some (.int (ii x6)), some (rf E.ad t7), some (.int (ii x8)), some (.int (ii x9)), some (.int (ii z.2.2)), o11] []
def HW_Mi_sweep_154 (E : EE) (K : KT) (H0 : Heap) (t1 : Nat) (x2 : Int) (x3 : Int) (x4 : Int) (x6 : Int) (t7 : Nat) (x8 : Int) (x9 : Int) (x10 : Int) : (World × Int × Int) → Prop := fun z => R32 z.2.1 → R32 z.2.2 → Jj K (WdT TA E H0) z.1 154 [some (rf E.ad 107), some (rf E.ad t1), some (.int (ii x2)), some (.int (ii x3)), some (.int (ii x4)), some (.int (ii z.2.1)), some (.int (ii x6)), some (rf E.ad t7), some (.int (ii x8)), some (.int (ii x9)), some (.int (ii x10)), some (.int (ii z.2.2))] []
noncomputable def f_Mi_sweep_223 (w : World) (t1 : Nat) (x2 : Int) (x3 : Int) (x4 : Int) (x5 : Int) (x6 : Int) : Option ((World × Int × Int) ⊕ (World × Int)) :=
  bl (wr (x6 + 1)) fun n1 => some (Sum.inl (w, x5, n1))
theorem t_Mi_sweep_223 {E : EE} {K : KT} {l : Launch} {H0 : Heap} (k : Kof TA E K l cX4_sweep RX4 rm_Mi_sweep) {w : World} {t1 : Nat} {x2 : Int} {x3 : Int} {x4 : Int} {x5 : Int} {x6 : Int} {o7 o8 o9 o10 o11 : Option Value} (k_t1 : TA.kd t1 = 6) (r_x2 : R32 x2) (r_x3 : R32 x3) (r_x4 : R32 x4) (r_x5 : R32 x5) (r_x6 : R32 x6) {out : ((World × Int × Int) ⊕ (World × Int))} (hf : f_Mi_sweep_223 w t1 x2 x3 x4 x5 x6 = some out) (hc : (Sum.elim (HW_Mi_sweep_6 E K H0 t1 x2 x3 x4) (fun out : (World × Int) => RetZ TA E K H0 cX4_sweep out.1 out.2)) out) : Jj K (WdT TA E H0) w 223 [some (rf E.ad 107), some (rf E.ad t1), some (.int (ii x2)), some (.int (ii x3)), some (.int (ii x4)), some (.int (ii x5)), some (.int (ii x6)), o7, o8, o9, o10, o11] [] := by
  unfold f_Mi_sweep_223 at hf
  have o := k.1
  have g := k.2.1
  have kr := k.2.2.1
  have hf := bl_out hf
  refine J_iinc o dX4_sweep_223 rfl ?_
  refine J_goto 6 o dX4_sweep_226 (by decide) ?_
  have hf := some_inj hf
  subst hf
  exact hc r_x5 (R_wr _) _ _ _ _ _
noncomputable def f_Mi_sweep_217 (w : World) (t1 : Nat) (x2 : Int) (x3 : Int) (x4 : Int) (x5 : Int) (x6 : Int) (t7 : Nat) (x8 : Int) (x9 : Int) (x10 : Int) : Option ((World × Int × Int) ⊕ ((World × Int × Int) ⊕ (World × Int))) :=
  bl (wr (x10 + 1)) fun n1 => some (Sum.inl (w, x5, n1))
theorem t_Mi_sweep_217 {E : EE} {K : KT} {l : Launch} {H0 : Heap} (k : Kof TA E K l cX4_sweep RX4 rm_Mi_sweep) {w : World} {t1 : Nat} {x2 : Int} {x3 : Int} {x4 : Int} {x5 : Int} {x6 : Int} {t7 : Nat} {x8 : Int} {x9 : Int} {x10 : Int} {o11 : Option Value} (k_t1 : TA.kd t1 = 6) (r_x2 : R32 x2) (r_x3 : R32 x3) (r_x4 : R32 x4) (r_x5 : R32 x5) (r_x6 : R32 x6) (k_t7 : TA.kd t7 = 1) (r_x8 : R32 x8) (r_x9 : R32 x9) (r_x10 : R32 x10) {out : ((World × Int × Int) ⊕ ((World × Int × Int) ⊕ (World × Int)))} (hf : f_Mi_sweep_217 w t1 x2 x3 x4 x5 x6 t7 x8 x9 x10 = some out) (hc : (Sum.elim (HW_Mi_sweep_79 E K H0 t1 x2 x3 x4 x6 t7 x8 x9) (Sum.elim (HW_Mi_sweep_6 E K H0 t1 x2 x3 x4) (fun out : (World × Int) => RetZ TA E K H0 cX4_sweep out.1 out.2))) out) : Jj K (WdT TA E H0) w 217 [some (rf E.ad 107), some (rf E.ad t1), some (.int (ii x2)), some (.int (ii x3)), some (.int (ii x4)), some (.int (ii x5)), some (.int (ii x6)), some (rf E.ad t7), some (.int (ii x8)), some (.int (ii x9)), some (.int (ii x10)), o11] [] := by
  unfold f_Mi_sweep_217 at hf
  have o := k.1
  have g := k.2.1
  have kr := k.2.2.1
  have hf := bl_out hf
  refine J_iinc o dX4_sweep_217 rfl ?_
  refine J_goto 79 o dX4_sweep_220 (by decide) ?_
  have hf := some_inj hf
  subst hf
  exact hc r_x5 (R_wr _) _
noncomputable def f_Mi_sweep_209 (w : World) (t1 : Nat) (x2 : Int) (x3 : Int) (x4 : Int) (x6 : Int) (t7 : Nat) (x8 : Int) (x9 : Int) (x10 : Int) (x11 : Int) (s0 : Int) : Option ((World × Int × Int) ⊕ ((World × Int × Int) ⊕ ((World × Int × Int) ⊕ (World × Int)))) :=
  bl (wr (x11 + 1)) fun n1 => some (Sum.inl (w, s0, n1))
theorem t_Mi_sweep_209 {E : EE} {K : KT} {l : Launch} {H0 : Heap} (k : Kof TA E K l cX4_sweep RX4 rm_Mi_sweep) {w : World} {t1 : Nat} {x2 : Int} {x3 : Int} {x4 : Int} {x6 : Int} {t7 : Nat} {x8 : Int} {x9 : Int} {x10 : Int} {x11 : Int} {s0 : Int} {o5 : Option Value} (k_t1 : TA.kd t1 = 6) (r_x2 : R32 x2) (r_x3 : R32 x3) (r_x4 : R32 x4) (r_x6 : R32 x6) (k_t7 : TA.kd t7 = 1) (r_x8 : R32 x8) (r_x9 : R32 x9) (r_x10 : R32 x10) (r_x11 : R32 x11) (r_s0 : R32 s0) {out : ((World × Int × Int) ⊕ ((World × Int × Int) ⊕ ((World × Int × Int) ⊕ (World × Int))))} (hf : f_Mi_sweep_209 w t1 x2 x3 x4 x6 t7 x8 x9 x10 x11 s0 = some out) (hc : (Sum.elim (HW_Mi_sweep_154 E K H0 t1 x2 x3 x4 x6 t7 x8 x9 x10) (Sum.elim (HW_Mi_sweep_79 E K H0 t1 x2 x3 x4 x6 t7 x8 x9) (Sum.elim (HW_Mi_sweep_6 E K H0 t1 x2 x3 x4) (fun out : (World × Int) => RetZ TA E K H0 cX4_sweep out.1 out.2)))) out) : Jj K (WdT TA E H0) w 209 [some (rf E.ad 107), some (rf E.ad t1), some (.int (ii x2)), some (.int (ii x3)), some (.int (ii x4)), o5, some (.int (ii x6)), some (rf E.ad t7), some (.int (ii x8)), some (.int (ii x9)), some (.int (ii x10)), some (.int (ii x11))] [.int (ii s0)] := by
  unfold f_Mi_sweep_209 at hf
  have o := k.1
  have g := k.2.1
  have kr := k.2.2.1
  refine J_istore o dX4_sweep_209 (Nat.le_of_ble_eq_true rfl) ?_
  have hf := bl_out hf
  refine J_iinc o dX4_sweep_211 rfl ?_
  refine J_goto 154 o dX4_sweep_214 (by decide) ?_
  have hf := some_inj hf
  subst hf
  exact hc r_s0 (R_wr _) 
noncomputable def f_Mi_sweep_204 (w : World) (t1 : Nat) (x2 : Int) (x3 : Int) (x4 : Int) (x6 : Int) (t7 : Nat) (x8 : Int) (x9 : Int) (x10 : Int) (x11 : Int) : Option ((World × Int × Int) ⊕ ((World × Int × Int) ⊕ ((World × Int × Int) ⊕ (World × Int)))) :=
  f_Mi_sweep_209 w t1 x2 x3 x4 x6 t7 x8 x9 x10 x11 1
theorem t_Mi_sweep_204 {E : EE} {K : KT} {l : Launch} {H0 : Heap} (k : Kof TA E K l cX4_sweep RX4 rm_Mi_sweep) {w : World} {t1 : Nat} {x2 : Int} {x3 : Int} {x4 : Int} {x6 : Int} {t7 : Nat} {x8 : Int} {x9 : Int} {x10 : Int} {x11 : Int} {o5 : Option Value} (k_t1 : TA.kd t1 = 6) (r_x2 : R32 x2) (r_x3 : R32 x3) (r_x4 : R32 x4) (r_x6 : R32 x6) (k_t7 : TA.kd t7 = 1) (r_x8 : R32 x8) (r_x9 : R32 x9) (r_x10 : R32 x10) (r_x11 : R32 x11) {out : ((World × Int × Int) ⊕ ((World × Int × Int) ⊕ ((World × Int × Int) ⊕ (World × Int))))} (hf : f_Mi_sweep_204 w t1 x2 x3 x4 x6 t7 x8 x9 x10 x11 = some out) (hc : (Sum.elim (HW_Mi_sweep_154 E K H0 t1 x2 x3 x4 x6 t7 x8 x9 x10) (Sum.elim (HW_Mi_sweep_79 E K H0 t1 x2 x3 x4 x6 t7 x8 x9) (Sum.elim (HW_Mi_sweep_6 E K H0 t1 x2 x3 x4) (fun out : (World × Int) => RetZ TA E K H0 cX4_sweep out.1 out.2)))) out) : Jj K (WdT TA E H0) w 204 [some (rf E.ad 107), some (rf E.ad t1), some (.int (ii x2)), some (.int (ii x3)), some (.int (ii x4)), o5, some (.int (ii x6)), some (rf E.ad t7), some (.int (ii x8)), some (.int (ii x9)), some (.int (ii x10)), some (.int (ii x11))] [] := by
  unfold f_Mi_sweep_204 at hf
  have o := k.1
  have g := k.2.1
  have kr := k.2.2.1
  refine J_iconst o dX4_sweep_204 ?_
  refine J_goto 209 o dX4_sweep_205 (by decide) ?_
  exact t_Mi_sweep_209 k k_t1 r_x2 r_x3 r_x4 r_x6 k_t7 r_x8 r_x9 r_x10 r_x11 rl1 hf hc
noncomputable def f_Mi_sweep_154B (w : World) (t1 : Nat) (x2 : Int) (x3 : Int) (x4 : Int) (x5 : Int) (x6 : Int) (t7 : Nat) (x8 : Int) (x9 : Int) (x10 : Int) (x11 : Int) : Option ((World × Int × Int) ⊕ ((World × Int × Int) ⊕ ((World × Int × Int) ⊕ (World × Int)))) :=
  if 10000000 ≤ x11 then (bnd (f_Mi_sweep_217 w t1 x2 x3 x4 x5 x6 t7 x8 x9 x10) fun y3 => some (Sum.inr y3)) else (if (w t1 2) = 0 then (bnd (f_Wa_next w ) fun v9 => if v9.2 = 0 then (bnd (f_Mi_sweep_217 v9.1 t1 x2 x3 x4 x5 x6 t7 x8 x9 x10) fun y13 => some (Sum.inr y13)) else (bnd (f_Wa_tuple v9.1 5) fun v16 => bnd (f_Mo_take v9.1 t1 (v9.1 t7 1) v16 x3) fun v19 => if v19.2 = 0 then (if x5 = 0 then (f_Mi_sweep_209 v19.1 t1 x2 x3 x4 x6 t7 x8 x9 x10 x11 0) else (f_Mi_sweep_204 v19.1 t1 x2 x3 x4 x6 t7 x8 x9 x10 x11)) else (f_Mi_sweep_204 v19.1 t1 x2 x3 x4 x6 t7 x8 x9 x10 x11))) else (bnd (f_Mi_sweep_217 w t1 x2 x3 x4 x5 x6 t7 x8 x9 x10) fun y7 => some (Sum.inr y7)))
theorem t_Mi_sweep_154B {E : EE} {K : KT} {l : Launch} {H0 : Heap} (k : Kof TA E K l cX4_sweep RX4 rm_Mi_sweep) {w : World} {t1 : Nat} {x2 : Int} {x3 : Int} {x4 : Int} {x5 : Int} {x6 : Int} {t7 : Nat} {x8 : Int} {x9 : Int} {x10 : Int} {x11 : Int} (k_t1 : TA.kd t1 = 6) (r_x2 : R32 x2) (r_x3 : R32 x3) (r_x4 : R32 x4) (r_x5 : R32 x5) (r_x6 : R32 x6) (k_t7 : TA.kd t7 = 1) (r_x8 : R32 x8) (r_x9 : R32 x9) (r_x10 : R32 x10) (r_x11 : R32 x11) {out : ((World × Int × Int) ⊕ ((World × Int × Int) ⊕ ((World × Int × Int) ⊕ (World × Int))))} (hf : f_Mi_sweep_154B w t1 x2 x3 x4 x5 x6 t7 x8 x9 x10 x11 = some out) (hc : (Sum.elim (HW_Mi_sweep_154 E K H0 t1 x2 x3 x4 x6 t7 x8 x9 x10) (Sum.elim (HW_Mi_sweep_79 E K H0 t1 x2 x3 x4 x6 t7 x8 x9) (Sum.elim (HW_Mi_sweep_6 E K H0 t1 x2 x3 x4) (fun out : (World × Int) => RetZ TA E K H0 cX4_sweep out.1 out.2)))) out) : Jj K (WdT TA E H0) w 154 [some (rf E.ad 107), some (rf E.ad t1), some (.int (ii x2)), some (.int (ii x3)), some (.int (ii x4)), some (.int (ii x5)), some (.int (ii x6)), some (rf E.ad t7), some (.int (ii x8)), some (.int (ii x9)), some (.int (ii x10)), some (.int (ii x11))] [] := by
  unfold f_Mi_sweep_154B at hf
  have o := k.1
  have g := k.2.1
  have kr := k.2.2.1
  refine J_iload o dX4_sweep_154 rfl ?_
  refine J_ldc o dX4_sweep_156 kcX4_99 ?_
  refine J_icmp_ge 217 o dX4_sweep_158 (by decide) r_x11 rl10000000 (fun c1 => ?_) (fun c2 => ?_)
  · have hf := ite_t c1 hf
    obtain ⟨y3, hf1, hf⟩ := bnd_some hf
    have hf := some_inj hf
    subst hf
    exact t_Mi_sweep_217 k k_t1 r_x2 r_x3 r_x4 r_x5 r_x6 k_t7 r_x8 r_x9 r_x10 hf1 hc
  · have hf := ite_f c2 hf
    refine J_aload_n o dX4_sweep_161 rfl ?_
    refine J_getI o g dX4_sweep_162 flX4_42 k_t1 rfl (fun q4 => ?_)
    refine J_if_ne 217 o dX4_sweep_165 (by decide) q4 (fun c5 => ?_) (fun c6 => ?_)
    · have hf := ite_f c5 hf
      obtain ⟨y7, hf1, hf⟩ := bnd_some hf
      have hf := some_inj hf
      subst hf
      exact t_Mi_sweep_217 k k_t1 r_x2 r_x3 r_x4 r_x5 r_x6 k_t7 r_x8 r_x9 r_x10 hf1 hc
    · have hf := ite_t c6 hf
      refine J_aload_n o dX4_sweep_168 rfl ?_
      refine J_getF (true, 103) o g dX4_sweep_169 flX4_19 kA_107 rfl rfl rfl ?_
      obtain ⟨v9, e8, hf⟩ := bnd_some hf
      refine J_vI o g kr dX4_sweep_172 lkX4_100 ml_Wa_next vl_Wa_next ⟨rfl, rfl, Nat.le_of_ble_eq_true rfl, Nat.le_of_ble_eq_true rfl⟩ (c_Wa_next g.2.1  e8) kA_103 rfl ⟨by decide, by decide⟩ rfl rfl c1s_0 (fun q10 => ?_)
      refine J_if_eq 217 o dX4_sweep_175 (by decide) q10 (fun c11 => ?_) (fun c12 => ?_)
      · have hf := ite_t c11 hf
        obtain ⟨y13, hf1, hf⟩ := bnd_some hf
        have hf := some_inj hf
        subst hf
        exact t_Mi_sweep_217 k k_t1 r_x2 r_x3 r_x4 r_x5 r_x6 k_t7 r_x8 r_x9 r_x10 hf1 hc
      · have hf := ite_f c12 hf
        refine J_aload_n o dX4_sweep_178 rfl ?_
        refine J_aload o dX4_sweep_179 rfl ?_
        refine J_getI o g dX4_sweep_181 flX4_81 k_t7 rfl (fun q14 => ?_)
        refine J_aload_n o dX4_sweep_184 rfl ?_
        refine J_getF (true, 103) o g dX4_sweep_185 flX4_19 kA_107 rfl rfl rfl ?_
        refine J_iconst o dX4_sweep_188 ?_
        obtain ⟨v16, e15, hf⟩ := bnd_some hf
        refine J_vI o g kr dX4_sweep_189 lkX4_104 ml_Wa_tuple vl_Wa_tuple ⟨rfl, rfl, Nat.le_of_ble_eq_true rfl, Nat.le_of_ble_eq_true rfl⟩ (c_Wa_tuple g.2.1 rl5 e15) kA_103 rfl ⟨by decide, by decide⟩ rfl rfl (c1s_i (c1s_r c1s_0 (Nat.le_of_ble_eq_true rfl)) (Nat.le_of_ble_eq_true rfl)) (fun q17 => ?_)
        refine J_iload_n o dX4_sweep_192 rfl ?_
        obtain ⟨v19, e18, hf⟩ := bnd_some hf
        refine J_vI o g kr dX4_sweep_193 lkX4_65 ml_Mo_take vl_Mo_take ⟨rfl, rfl, Nat.le_of_ble_eq_true rfl, Nat.le_of_ble_eq_true rfl⟩ (c_Mo_take g.2.1 k_t1 q14 q17 r_x3 e18) k_t1 rfl ⟨by decide, by decide⟩ rfl rfl c1s_0 (fun q20 => ?_)
        refine J_if_ne 204 o dX4_sweep_196 (by decide) q20 (fun c21 => ?_) (fun c22 => ?_)
        · have hf := ite_f c21 hf
          exact t_Mi_sweep_204 k k_t1 r_x2 r_x3 r_x4 r_x6 k_t7 r_x8 r_x9 r_x10 r_x11 hf hc
        · have hf := ite_t c22 hf
          refine J_iload o dX4_sweep_199 rfl ?_
          refine J_if_eq 208 o dX4_sweep_201 (by decide) r_x5 (fun c23 => ?_) (fun c24 => ?_)
          · have hf := ite_t c23 hf
            refine J_iconst o dX4_sweep_208 ?_
            exact t_Mi_sweep_209 k k_t1 r_x2 r_x3 r_x4 r_x6 k_t7 r_x8 r_x9 r_x10 r_x11 rl0 hf hc
          · have hf := ite_f c24 hf
            exact t_Mi_sweep_204 k k_t1 r_x2 r_x3 r_x4 r_x6 k_t7 r_x8 r_x9 r_x10 r_x11 hf hc
noncomputable def f_Mi_sweep_154 (w : World) (t1 : Nat) (x2 : Int) (x3 : Int) (x4 : Int) (x5 : Int) (x6 : Int) (t7 : Nat) (x8 : Int) (x9 : Int) (x10 : Int) (x11 : Int) : Option ((World × Int × Int) ⊕ ((World × Int × Int) ⊕ (World × Int))) :=
  lp (fun z : (World × Int × Int) => f_Mi_sweep_154B z.1 t1 x2 x3 x4 z.2.1 x6 t7 x8 x9 x10 z.2.2) (w, x5, x11)
theorem t_Mi_sweep_154 {E : EE} {K : KT} {l : Launch} {H0 : Heap} (k : Kof TA E K l cX4_sweep RX4 rm_Mi_sweep) {w : World} {t1 : Nat} {x2 : Int} {x3 : Int} {x4 : Int} {x5 : Int} {x6 : Int} {t7 : Nat} {x8 : Int} {x9 : Int} {x10 : Int} {x11 : Int} (k_t1 : TA.kd t1 = 6) (r_x2 : R32 x2) (r_x3 : R32 x3) (r_x4 : R32 x4) (r_x6 : R32 x6) (k_t7 : TA.kd t7 = 1) (r_x8 : R32 x8) (r_x9 : R32 x9) (r_x10 : R32 x10) {out : ((World × Int × Int) ⊕ ((World × Int × Int) ⊕ (World × Int)))} (hf : f_Mi_sweep_154 w t1 x2 x3 x4 x5 x6 t7 x8 x9 x10 x11 = some out) (hc : (Sum.elim (HW_Mi_sweep_79 E K H0 t1 x2 x3 x4 x6 t7 x8 x9) (Sum.elim (HW_Mi_sweep_6 E K H0 t1 x2 x3 x4) (fun out : (World × Int) => RetZ TA E K H0 cX4_sweep out.1 out.2))) out) : HW_Mi_sweep_154 E K H0 t1 x2 x3 x4 x6 t7 x8 x9 x10 (w, x5, x11) := by
  unfold f_Mi_sweep_154 at hf
  refine lp_ind (P := HW_Mi_sweep_154 E K H0 t1 x2 x3 x4 x6 t7 x8 x9 x10) hf ?_
  intro z o hs h1 h2
  intro r_x5 r_x11
  refine t_Mi_sweep_154B k k_t1 r_x2 r_x3 r_x4 r_x5 r_x6 k_t7 r_x8 r_x9 r_x10 r_x11 hs ?_
  cases o with
  | inl z' => exact h1 z' rfl
  | inr r' => rw [h2 r' rfl]; exact hc
noncomputable def f_Mi_sweep_145 (w : World) (t1 : Nat) (x2 : Int) (x3 : Int) (x4 : Int) (x5 : Int) (x6 : Int) (t7 : Nat) (x8 : Int) (x9 : Int) (x10 : Int) (s1 : Int) : Option ((World × Int × Int) ⊕ ((World × Int × Int) ⊕ (World × Int))) :=
  bnd (f_Wa_leadBy w s1 (wr (x3 - 1))) fun v2 => f_Mi_sweep_154 v2 t1 x2 x3 x4 x5 x6 t7 x8 x9 x10 0
theorem t_Mi_sweep_145 {E : EE} {K : KT} {l : Launch} {H0 : Heap} (k : Kof TA E K l cX4_sweep RX4 rm_Mi_sweep) {w : World} {t1 : Nat} {x2 : Int} {x3 : Int} {x4 : Int} {x5 : Int} {x6 : Int} {t7 : Nat} {x8 : Int} {x9 : Int} {x10 : Int} {s1 : Int} {o11 : Option Value} (k_t1 : TA.kd t1 = 6) (r_x2 : R32 x2) (r_x3 : R32 x3) (r_x4 : R32 x4) (r_x5 : R32 x5) (r_x6 : R32 x6) (k_t7 : TA.kd t7 = 1) (r_x8 : R32 x8) (r_x9 : R32 x9) (r_x10 : R32 x10) (r_s1 : R32 s1) {out : ((World × Int × Int) ⊕ ((World × Int × Int) ⊕ (World × Int)))} (hf : f_Mi_sweep_145 w t1 x2 x3 x4 x5 x6 t7 x8 x9 x10 s1 = some out) (hc : (Sum.elim (HW_Mi_sweep_79 E K H0 t1 x2 x3 x4 x6 t7 x8 x9) (Sum.elim (HW_Mi_sweep_6 E K H0 t1 x2 x3 x4) (fun out : (World × Int) => RetZ TA E K H0 cX4_sweep out.1 out.2))) out) : Jj K (WdT TA E H0) w 145 [some (rf E.ad 107), some (rf E.ad t1), some (.int (ii x2)), some (.int (ii x3)), some (.int (ii x4)), some (.int (ii x5)), some (.int (ii x6)), some (rf E.ad t7), some (.int (ii x8)), some (.int (ii x9)), some (.int (ii x10)), o11] [.int (ii s1), rf E.ad 103] := by
  unfold f_Mi_sweep_145 at hf
  have o := k.1
  have g := k.2.1
  have kr := k.2.2.1
  refine J_iload_n o dX4_sweep_145 rfl ?_
  refine J_iconst o dX4_sweep_146 ?_
  refine J_isub o dX4_sweep_147 ?_
  obtain ⟨v2, e1, hf⟩ := bnd_some hf
  refine J_vV o g kr dX4_sweep_148 lkX4_95 ml_Wa_leadBy vl_Wa_leadBy ⟨rfl, rfl, Nat.le_of_ble_eq_true rfl, Nat.le_of_ble_eq_true rfl⟩ (c_Wa_leadBy g.2.1 r_s1 (R_wr _) e1) kA_103 rfl ⟨by decide, by decide⟩ rfl rfl c1s_0 ?_
  refine J_iconst o dX4_sweep_151 ?_
  refine J_istore o dX4_sweep_152 (Nat.le_of_ble_eq_true rfl) ?_
  exact (t_Mi_sweep_154 k k_t1 r_x2 r_x3 r_x4 r_x6 k_t7 r_x8 r_x9 r_x10 hf hc) r_x5 rl0 
noncomputable def f_Mi_sweep_115 (w : World) (t1 : Nat) (x2 : Int) (x3 : Int) (x4 : Int) (x5 : Int) (x6 : Int) (t7 : Nat) (x8 : Int) (x9 : Int) (x10 : Int) : Option ((World × Int × Int) ⊕ ((World × Int × Int) ⊕ (World × Int))) :=
  bnd (f_Wa_begin w t7 t1 (w t7 0)) fun v3 => if x4 = 0 then (f_Mi_sweep_145 v3 t1 x2 x3 x4 x5 x6 t7 x8 x9 x10 x10) else (f_Mi_sweep_145 v3 t1 x2 x3 x4 x5 x6 t7 x8 x9 x10 (-1))
theorem t_Mi_sweep_115 {E : EE} {K : KT} {l : Launch} {H0 : Heap} (k : Kof TA E K l cX4_sweep RX4 rm_Mi_sweep) {w : World} {t1 : Nat} {x2 : Int} {x3 : Int} {x4 : Int} {x5 : Int} {x6 : Int} {t7 : Nat} {x8 : Int} {x9 : Int} {x10 : Int} {o11 : Option Value} (k_t1 : TA.kd t1 = 6) (r_x2 : R32 x2) (r_x3 : R32 x3) (r_x4 : R32 x4) (r_x5 : R32 x5) (r_x6 : R32 x6) (k_t7 : TA.kd t7 = 1) (r_x8 : R32 x8) (r_x9 : R32 x9) (r_x10 : R32 x10) {out : ((World × Int × Int) ⊕ ((World × Int × Int) ⊕ (World × Int)))} (hf : f_Mi_sweep_115 w t1 x2 x3 x4 x5 x6 t7 x8 x9 x10 = some out) (hc : (Sum.elim (HW_Mi_sweep_79 E K H0 t1 x2 x3 x4 x6 t7 x8 x9) (Sum.elim (HW_Mi_sweep_6 E K H0 t1 x2 x3 x4) (fun out : (World × Int) => RetZ TA E K H0 cX4_sweep out.1 out.2))) out) : Jj K (WdT TA E H0) w 115 [some (rf E.ad 107), some (rf E.ad t1), some (.int (ii x2)), some (.int (ii x3)), some (.int (ii x4)), some (.int (ii x5)), some (.int (ii x6)), some (rf E.ad t7), some (.int (ii x8)), some (.int (ii x9)), some (.int (ii x10)), o11] [] := by
  unfold f_Mi_sweep_115 at hf
  have o := k.1
  have g := k.2.1
  have kr := k.2.2.1
  refine J_aload_n o dX4_sweep_115 rfl ?_
  refine J_getF (true, 103) o g dX4_sweep_116 flX4_19 kA_107 rfl rfl rfl ?_
  refine J_aload o dX4_sweep_119 rfl ?_
  refine J_aload_n o dX4_sweep_121 rfl ?_
  refine J_aload o dX4_sweep_122 rfl ?_
  refine J_getI o g dX4_sweep_124 flX4_84 k_t7 rfl (fun q1 => ?_)
  obtain ⟨v3, e2, hf⟩ := bnd_some hf
  refine J_vV o g kr dX4_sweep_127 lkX4_89 ml_Wa_begin vl_Wa_begin ⟨rfl, rfl, Nat.le_of_ble_eq_true rfl, Nat.le_of_ble_eq_true rfl⟩ (c_Wa_begin g.2.1 k_t7 k_t1 q1 e2) kA_103 rfl ⟨by decide, by decide⟩ rfl rfl c1s_0 ?_
  refine J_aload_n o dX4_sweep_130 rfl ?_
  refine J_getF (true, 103) o g dX4_sweep_131 flX4_19 kA_107 rfl rfl rfl ?_
  refine J_iload o dX4_sweep_134 rfl ?_
  refine J_if_eq 143 o dX4_sweep_136 (by decide) r_x4 (fun c5 => ?_) (fun c6 => ?_)
  · have hf := ite_t c5 hf
    refine J_iload o dX4_sweep_143 rfl ?_
    exact t_Mi_sweep_145 k k_t1 r_x2 r_x3 r_x4 r_x5 r_x6 k_t7 r_x8 r_x9 r_x10 r_x10 hf hc
  · have hf := ite_f c6 hf
    refine J_iconst o dX4_sweep_139 ?_
    refine J_goto 145 o dX4_sweep_140 (by decide) ?_
    exact t_Mi_sweep_145 k k_t1 r_x2 r_x3 r_x4 r_x5 r_x6 k_t7 r_x8 r_x9 r_x10 rlm1 hf hc
noncomputable def f_Mi_sweep_79B (w : World) (t1 : Nat) (x2 : Int) (x3 : Int) (x4 : Int) (x5 : Int) (x6 : Int) (t7 : Nat) (x8 : Int) (x9 : Int) (x10 : Int) : Option ((World × Int × Int) ⊕ ((World × Int × Int) ⊕ (World × Int))) :=
  if x9 ≤ x10 then (bnd (f_Mi_sweep_223 w t1 x2 x3 x4 x5 x6) fun y3 => some (Sum.inr y3)) else (if x8 = 0 then (bnd (f_Mi_sweep_223 w t1 x2 x3 x4 x5 x6) fun y6 => some (Sum.inr y6)) else (if (w t1 2) = 0 then (if x4 = 0 then (bnd (f_Mi_isLead w t7 x10 x2) fun v14 => if v14 = 0 then (f_Mi_sweep_217 w t1 x2 x3 x4 x5 x6 t7 x8 x9 x10) else (f_Mi_sweep_115 w t1 x2 x3 x4 x5 x6 t7 x8 x9 x10)) else (f_Mi_sweep_115 w t1 x2 x3 x4 x5 x6 t7 x8 x9 x10)) else (bnd (f_Mi_sweep_223 w t1 x2 x3 x4 x5 x6) fun y10 => some (Sum.inr y10))))
theorem t_Mi_sweep_79B {E : EE} {K : KT} {l : Launch} {H0 : Heap} (k : Kof TA E K l cX4_sweep RX4 rm_Mi_sweep) {w : World} {t1 : Nat} {x2 : Int} {x3 : Int} {x4 : Int} {x5 : Int} {x6 : Int} {t7 : Nat} {x8 : Int} {x9 : Int} {x10 : Int} {o11 : Option Value} (k_t1 : TA.kd t1 = 6) (r_x2 : R32 x2) (r_x3 : R32 x3) (r_x4 : R32 x4) (r_x5 : R32 x5) (r_x6 : R32 x6) (k_t7 : TA.kd t7 = 1) (r_x8 : R32 x8) (r_x9 : R32 x9) (r_x10 : R32 x10) {out : ((World × Int × Int) ⊕ ((World × Int × Int) ⊕ (World × Int)))} (hf : f_Mi_sweep_79B w t1 x2 x3 x4 x5 x6 t7 x8 x9 x10 = some out) (hc : (Sum.elim (HW_Mi_sweep_79 E K H0 t1 x2 x3 x4 x6 t7 x8 x9) (Sum.elim (HW_Mi_sweep_6 E K H0 t1 x2 x3 x4) (fun out : (World × Int) => RetZ TA E K H0 cX4_sweep out.1 out.2))) out) : Jj K (WdT TA E H0) w 79 [some (rf E.ad 107), some (rf E.ad t1), some (.int (ii x2)), some (.int (ii x3)), some (.int (ii x4)), some (.int (ii x5)), some (.int (ii x6)), some (rf E.ad t7), some (.int (ii x8)), some (.int (ii x9)), some (.int (ii x10)), o11] [] := by
  unfold f_Mi_sweep_79B at hf
  have o := k.1
  have g := k.2.1
  have kr := k.2.2.1
  refine J_iload o dX4_sweep_79 rfl ?_
  refine J_iload o dX4_sweep_81 rfl ?_
  refine J_icmp_ge 223 o dX4_sweep_83 (by decide) r_x10 r_x9 (fun c1 => ?_) (fun c2 => ?_)
  · have hf := ite_t c1 hf
    obtain ⟨y3, hf1, hf⟩ := bnd_some hf
    have hf := some_inj hf
    subst hf
    exact t_Mi_sweep_223 k k_t1 r_x2 r_x3 r_x4 r_x5 r_x6 hf1 hc
  · have hf := ite_f c2 hf
    refine J_iload o dX4_sweep_86 rfl ?_
    refine J_if_eq 223 o dX4_sweep_88 (by decide) r_x8 (fun c4 => ?_) (fun c5 => ?_)
    · have hf := ite_t c4 hf
      obtain ⟨y6, hf1, hf⟩ := bnd_some hf
      have hf := some_inj hf
      subst hf
      exact t_Mi_sweep_223 k k_t1 r_x2 r_x3 r_x4 r_x5 r_x6 hf1 hc
    · have hf := ite_f c5 hf
      refine J_aload_n o dX4_sweep_91 rfl ?_
      refine J_getI o g dX4_sweep_92 flX4_42 k_t1 rfl (fun q7 => ?_)
      refine J_if_ne 223 o dX4_sweep_95 (by decide) q7 (fun c8 => ?_) (fun c9 => ?_)
      · have hf := ite_f c8 hf
        obtain ⟨y10, hf1, hf⟩ := bnd_some hf
        have hf := some_inj hf
        subst hf
        exact t_Mi_sweep_223 k k_t1 r_x2 r_x3 r_x4 r_x5 r_x6 hf1 hc
      · have hf := ite_t c9 hf
        refine J_iload o dX4_sweep_98 rfl ?_
        refine J_if_ne 115 o dX4_sweep_100 (by decide) r_x4 (fun c11 => ?_) (fun c12 => ?_)
        · have hf := ite_f c11 hf
          exact t_Mi_sweep_115 k k_t1 r_x2 r_x3 r_x4 r_x5 r_x6 k_t7 r_x8 r_x9 r_x10 hf hc
        · have hf := ite_t c12 hf
          refine J_aload_n o dX4_sweep_103 rfl ?_
          refine J_aload o dX4_sweep_104 rfl ?_
          refine J_iload o dX4_sweep_106 rfl ?_
          refine J_iload_n o dX4_sweep_108 rfl ?_
          obtain ⟨v14, e13, hf⟩ := bnd_some hf
          refine J_vI o g kr dX4_sweep_109 lkX4_85 ml_Mi_isLead vl_Mi_isLead ⟨rfl, rfl, Nat.le_of_ble_eq_true rfl, Nat.le_of_ble_eq_true rfl⟩ (c_Mi_isLead g.2.1 k_t7 r_x10 r_x2 e13) kA_107 rfl ⟨by decide, by decide⟩ rfl rfl c1s_0 (fun q15 => ?_)
          refine J_if_eq 217 o dX4_sweep_112 (by decide) q15 (fun c16 => ?_) (fun c17 => ?_)
          · have hf := ite_t c16 hf
            exact t_Mi_sweep_217 k k_t1 r_x2 r_x3 r_x4 r_x5 r_x6 k_t7 r_x8 r_x9 r_x10 hf hc
          · have hf := ite_f c17 hf
            exact t_Mi_sweep_115 k k_t1 r_x2 r_x3 r_x4 r_x5 r_x6 k_t7 r_x8 r_x9 r_x10 hf hc
noncomputable def f_Mi_sweep_79 (w : World) (t1 : Nat) (x2 : Int) (x3 : Int) (x4 : Int) (x5 : Int) (x6 : Int) (t7 : Nat) (x8 : Int) (x9 : Int) (x10 : Int) : Option ((World × Int × Int) ⊕ (World × Int)) :=
  lp (fun z : (World × Int × Int) => f_Mi_sweep_79B z.1 t1 x2 x3 x4 z.2.1 x6 t7 x8 x9 z.2.2) (w, x5, x10)
theorem t_Mi_sweep_79 {E : EE} {K : KT} {l : Launch} {H0 : Heap} (k : Kof TA E K l cX4_sweep RX4 rm_Mi_sweep) {w : World} {t1 : Nat} {x2 : Int} {x3 : Int} {x4 : Int} {x5 : Int} {x6 : Int} {t7 : Nat} {x8 : Int} {x9 : Int} {x10 : Int} (k_t1 : TA.kd t1 = 6) (r_x2 : R32 x2) (r_x3 : R32 x3) (r_x4 : R32 x4) (r_x6 : R32 x6) (k_t7 : TA.kd t7 = 1) (r_x8 : R32 x8) (r_x9 : R32 x9) {out : ((World × Int × Int) ⊕ (World × Int))} (hf : f_Mi_sweep_79 w t1 x2 x3 x4 x5 x6 t7 x8 x9 x10 = some out) (hc : (Sum.elim (HW_Mi_sweep_6 E K H0 t1 x2 x3 x4) (fun out : (World × Int) => RetZ TA E K H0 cX4_sweep out.1 out.2)) out) : HW_Mi_sweep_79 E K H0 t1 x2 x3 x4 x6 t7 x8 x9 (w, x5, x10) := by
  unfold f_Mi_sweep_79 at hf
  refine lp_ind (P := HW_Mi_sweep_79 E K H0 t1 x2 x3 x4 x6 t7 x8 x9) hf ?_
  intro z o hs h1 h2
  intro r_x5 r_x10
  intro o11
  refine t_Mi_sweep_79B k k_t1 r_x2 r_x3 r_x4 r_x5 r_x6 k_t7 r_x8 r_x9 r_x10 hs ?_
  cases o with
  | inl z' => exact h1 z' rfl
  | inr r' => rw [h2 r' rfl]; exact hc
noncomputable def f_Mi_sweep_74 (w : World) (t1 : Nat) (x2 : Int) (x3 : Int) (x4 : Int) (x5 : Int) (x6 : Int) (t7 : Nat) (x8 : Int) (s0 : Int) : Option ((World × Int × Int) ⊕ (World × Int)) :=
  f_Mi_sweep_79 w t1 x2 x3 x4 x5 x6 t7 x8 s0 0
theorem t_Mi_sweep_74 {E : EE} {K : KT} {l : Launch} {H0 : Heap} (k : Kof TA E K l cX4_sweep RX4 rm_Mi_sweep) {w : World} {t1 : Nat} {x2 : Int} {x3 : Int} {x4 : Int} {x5 : Int} {x6 : Int} {t7 : Nat} {x8 : Int} {s0 : Int} {o9 o10 o11 : Option Value} (k_t1 : TA.kd t1 = 6) (r_x2 : R32 x2) (r_x3 : R32 x3) (r_x4 : R32 x4) (r_x5 : R32 x5) (r_x6 : R32 x6) (k_t7 : TA.kd t7 = 1) (r_x8 : R32 x8) (r_s0 : R32 s0) {out : ((World × Int × Int) ⊕ (World × Int))} (hf : f_Mi_sweep_74 w t1 x2 x3 x4 x5 x6 t7 x8 s0 = some out) (hc : (Sum.elim (HW_Mi_sweep_6 E K H0 t1 x2 x3 x4) (fun out : (World × Int) => RetZ TA E K H0 cX4_sweep out.1 out.2)) out) : Jj K (WdT TA E H0) w 74 [some (rf E.ad 107), some (rf E.ad t1), some (.int (ii x2)), some (.int (ii x3)), some (.int (ii x4)), some (.int (ii x5)), some (.int (ii x6)), some (rf E.ad t7), some (.int (ii x8)), o9, o10, o11] [.int (ii s0)] := by
  unfold f_Mi_sweep_74 at hf
  have o := k.1
  have g := k.2.1
  have kr := k.2.2.1
  refine J_istore o dX4_sweep_74 (Nat.le_of_ble_eq_true rfl) ?_
  refine J_iconst o dX4_sweep_76 ?_
  refine J_istore o dX4_sweep_77 (Nat.le_of_ble_eq_true rfl) ?_
  exact (t_Mi_sweep_79 k k_t1 r_x2 r_x3 r_x4 r_x6 k_t7 r_x8 r_s0 hf hc) r_x5 rl0 _
noncomputable def f_Mi_sweep_58 (w : World) (t1 : Nat) (x2 : Int) (x3 : Int) (x4 : Int) (x5 : Int) (x6 : Int) (t7 : Nat) (s0 : Int) : Option ((World × Int × Int) ⊕ (World × Int)) :=
  if x4 = 0 then (f_Mi_sweep_74 w t1 x2 x3 x4 x5 x6 t7 s0 (w t7 0)) else (f_Mi_sweep_74 w t1 x2 x3 x4 x5 x6 t7 s0 1)
theorem t_Mi_sweep_58 {E : EE} {K : KT} {l : Launch} {H0 : Heap} (k : Kof TA E K l cX4_sweep RX4 rm_Mi_sweep) {w : World} {t1 : Nat} {x2 : Int} {x3 : Int} {x4 : Int} {x5 : Int} {x6 : Int} {t7 : Nat} {s0 : Int} {o8 o9 o10 o11 : Option Value} (k_t1 : TA.kd t1 = 6) (r_x2 : R32 x2) (r_x3 : R32 x3) (r_x4 : R32 x4) (r_x5 : R32 x5) (r_x6 : R32 x6) (k_t7 : TA.kd t7 = 1) (r_s0 : R32 s0) {out : ((World × Int × Int) ⊕ (World × Int))} (hf : f_Mi_sweep_58 w t1 x2 x3 x4 x5 x6 t7 s0 = some out) (hc : (Sum.elim (HW_Mi_sweep_6 E K H0 t1 x2 x3 x4) (fun out : (World × Int) => RetZ TA E K H0 cX4_sweep out.1 out.2)) out) : Jj K (WdT TA E H0) w 58 [some (rf E.ad 107), some (rf E.ad t1), some (.int (ii x2)), some (.int (ii x3)), some (.int (ii x4)), some (.int (ii x5)), some (.int (ii x6)), some (rf E.ad t7), o8, o9, o10, o11] [.int (ii s0)] := by
  unfold f_Mi_sweep_58 at hf
  have o := k.1
  have g := k.2.1
  have kr := k.2.2.1
  refine J_istore o dX4_sweep_58 (Nat.le_of_ble_eq_true rfl) ?_
  refine J_iload o dX4_sweep_60 rfl ?_
  refine J_if_eq 69 o dX4_sweep_62 (by decide) r_x4 (fun c1 => ?_) (fun c2 => ?_)
  · have hf := ite_t c1 hf
    refine J_aload o dX4_sweep_69 rfl ?_
    refine J_getI o g dX4_sweep_71 flX4_84 k_t7 rfl (fun q3 => ?_)
    exact t_Mi_sweep_74 k k_t1 r_x2 r_x3 r_x4 r_x5 r_x6 k_t7 r_s0 q3 hf hc
  · have hf := ite_f c2 hf
    refine J_iconst o dX4_sweep_65 ?_
    refine J_goto 74 o dX4_sweep_66 (by decide) ?_
    exact t_Mi_sweep_74 k k_t1 r_x2 r_x3 r_x4 r_x5 r_x6 k_t7 r_s0 rl1 hf hc
noncomputable def f_Mi_sweep_57 (w : World) (t1 : Nat) (x2 : Int) (x3 : Int) (x4 : Int) (x5 : Int) (x6 : Int) (t7 : Nat) : Option ((World × Int × Int) ⊕ (World × Int)) :=
  f_Mi_sweep_58 w t1 x2 x3 x4 x5 x6 t7 0
theorem t_Mi_sweep_57 {E : EE} {K : KT} {l : Launch} {H0 : Heap} (k : Kof TA E K l cX4_sweep RX4 rm_Mi_sweep) {w : World} {t1 : Nat} {x2 : Int} {x3 : Int} {x4 : Int} {x5 : Int} {x6 : Int} {t7 : Nat} {o8 o9 o10 o11 : Option Value} (k_t1 : TA.kd t1 = 6) (r_x2 : R32 x2) (r_x3 : R32 x3) (r_x4 : R32 x4) (r_x5 : R32 x5) (r_x6 : R32 x6) (k_t7 : TA.kd t7 = 1) {out : ((World × Int × Int) ⊕ (World × Int))} (hf : f_Mi_sweep_57 w t1 x2 x3 x4 x5 x6 t7 = some out) (hc : (Sum.elim (HW_Mi_sweep_6 E K H0 t1 x2 x3 x4) (fun out : (World × Int) => RetZ TA E K H0 cX4_sweep out.1 out.2)) out) : Jj K (WdT TA E H0) w 57 [some (rf E.ad 107), some (rf E.ad t1), some (.int (ii x2)), some (.int (ii x3)), some (.int (ii x4)), some (.int (ii x5)), some (.int (ii x6)), some (rf E.ad t7), o8, o9, o10, o11] [] := by
  unfold f_Mi_sweep_57 at hf
  have o := k.1
  have g := k.2.1
  have kr := k.2.2.1
  refine J_iconst o dX4_sweep_57 ?_
  exact t_Mi_sweep_58 k k_t1 r_x2 r_x3 r_x4 r_x5 r_x6 k_t7 rl0 hf hc
noncomputable def f_Mi_sweep_6B (w : World) (t1 : Nat) (x2 : Int) (x3 : Int) (x4 : Int) (x5 : Int) (x6 : Int) : Option ((World × Int × Int) ⊕ (World × Int)) :=
  if (w 14 4) ≤ x6 then (gd (x5 = 0 ∨ x5 = 1) (some (Sum.inr (w, x5)))) else (bnd (f_Pr_rule w x6) fun v6 => gd (kdA v6 = 1) (if (w v6 2) = 0 then (bnd (f_Pr_levelOf w (w v6 1)) fun v14 => if v14 = x2 then (f_Mi_sweep_58 w t1 x2 x3 x4 x5 x6 v6 1) else (f_Mi_sweep_57 w t1 x2 x3 x4 x5 x6 v6)) else (f_Mi_sweep_57 w t1 x2 x3 x4 x5 x6 v6)))
theorem t_Mi_sweep_6B {E : EE} {K : KT} {l : Launch} {H0 : Heap} (k : Kof TA E K l cX4_sweep RX4 rm_Mi_sweep) {w : World} {t1 : Nat} {x2 : Int} {x3 : Int} {x4 : Int} {x5 : Int} {x6 : Int} {o7 o8 o9 o10 o11 : Option Value} (k_t1 : TA.kd t1 = 6) (r_x2 : R32 x2) (r_x3 : R32 x3) (r_x4 : R32 x4) (r_x5 : R32 x5) (r_x6 : R32 x6) {out : ((World × Int × Int) ⊕ (World × Int))} (hf : f_Mi_sweep_6B w t1 x2 x3 x4 x5 x6 = some out) (hc : (Sum.elim (HW_Mi_sweep_6 E K H0 t1 x2 x3 x4) (fun out : (World × Int) => RetZ TA E K H0 cX4_sweep out.1 out.2)) out) : Jj K (WdT TA E H0) w 6 [some (rf E.ad 107), some (rf E.ad t1), some (.int (ii x2)), some (.int (ii x3)), some (.int (ii x4)), some (.int (ii x5)), some (.int (ii x6)), o7, o8, o9, o10, o11] [] := by
  unfold f_Mi_sweep_6B at hf
  have o := k.1
  have g := k.2.1
  have kr := k.2.2.1
  refine J_iload o dX4_sweep_6 rfl ?_
  refine J_aload_n o dX4_sweep_8 rfl ?_
  refine J_getF (true, 14) o g dX4_sweep_9 flX4_15 kA_107 rfl rfl rfl ?_
  refine J_getI o g dX4_sweep_12 flX4_69 kA_14 rfl (fun q1 => ?_)
  refine J_icmp_ge 229 o dX4_sweep_15 (by decide) r_x6 q1 (fun c2 => ?_) (fun c3 => ?_)
  · have hf := ite_t c2 hf
    refine J_iload o dX4_sweep_229 rfl ?_
    obtain ⟨g4, hf⟩ := gd_some hf
    have hf := some_inj hf
    subst hf
    exact hc _ _ g4 dX4_sweep_231
  · have hf := ite_f c3 hf
    refine J_aload_n o dX4_sweep_18 rfl ?_
    refine J_getF (true, 14) o g dX4_sweep_19 flX4_15 kA_107 rfl rfl rfl ?_
    refine J_iload o dX4_sweep_22 rfl ?_
    obtain ⟨v6, e5, hf⟩ := bnd_some hf
    refine J_vR o g kr dX4_sweep_24 lkX4_72 ml_Pr_rule vl_Pr_rule ⟨rfl, rfl, Nat.le_of_ble_eq_true rfl, Nat.le_of_ble_eq_true rfl⟩ (c_Pr_rule g.2.1 r_x6 e5) kA_14 rfl ⟨by decide, by decide⟩ rfl rfl c1s_0 ?_
    refine J_astore o dX4_sweep_27 (Nat.le_of_ble_eq_true rfl) ?_
    refine J_aload o dX4_sweep_29 rfl ?_
    obtain ⟨g8, hf⟩ := gd_some hf
    refine J_getI o g dX4_sweep_31 flX4_76 g8 rfl (fun q9 => ?_)
    refine J_if_ne 57 o dX4_sweep_34 (by decide) q9 (fun c10 => ?_) (fun c11 => ?_)
    · have hf := ite_f c10 hf
      exact t_Mi_sweep_57 k k_t1 r_x2 r_x3 r_x4 r_x5 r_x6 g8 hf hc
    · have hf := ite_t c11 hf
      refine J_aload_n o dX4_sweep_37 rfl ?_
      refine J_getF (true, 14) o g dX4_sweep_38 flX4_15 kA_107 rfl rfl rfl ?_
      refine J_aload o dX4_sweep_41 rfl ?_
      refine J_getI o g dX4_sweep_43 flX4_81 g8 rfl (fun q12 => ?_)
      obtain ⟨v14, e13, hf⟩ := bnd_some hf
      refine J_vI o g kr dX4_sweep_46 lkX4_59 ml_Pr_levelOf vl_Pr_levelOf ⟨rfl, rfl, Nat.le_of_ble_eq_true rfl, Nat.le_of_ble_eq_true rfl⟩ (c_Pr_levelOf g.2.1 q12 e13) kA_14 rfl ⟨by decide, by decide⟩ rfl rfl c1s_0 (fun q15 => ?_)
      refine J_iload_n o dX4_sweep_49 rfl ?_
      refine J_icmp_ne 57 o dX4_sweep_50 (by decide) q15 r_x2 (fun c16 => ?_) (fun c17 => ?_)
      · have hf := ite_f c16 hf
        exact t_Mi_sweep_57 k k_t1 r_x2 r_x3 r_x4 r_x5 r_x6 g8 hf hc
      · have hf := ite_t c17 hf
        refine J_iconst o dX4_sweep_53 ?_
        refine J_goto 58 o dX4_sweep_54 (by decide) ?_
        exact t_Mi_sweep_58 k k_t1 r_x2 r_x3 r_x4 r_x5 r_x6 g8 rl1 hf hc
noncomputable def f_Mi_sweep_6 (w : World) (t1 : Nat) (x2 : Int) (x3 : Int) (x4 : Int) (x5 : Int) (x6 : Int) : Option (World × Int) :=
  lp (fun z : (World × Int × Int) => f_Mi_sweep_6B z.1 t1 x2 x3 x4 z.2.1 z.2.2) (w, x5, x6)
theorem t_Mi_sweep_6 {E : EE} {K : KT} {l : Launch} {H0 : Heap} (k : Kof TA E K l cX4_sweep RX4 rm_Mi_sweep) {w : World} {t1 : Nat} {x2 : Int} {x3 : Int} {x4 : Int} {x5 : Int} {x6 : Int} (k_t1 : TA.kd t1 = 6) (r_x2 : R32 x2) (r_x3 : R32 x3) (r_x4 : R32 x4) {out : (World × Int)} (hf : f_Mi_sweep_6 w t1 x2 x3 x4 x5 x6 = some out) (hc : (fun out : (World × Int) => RetZ TA E K H0 cX4_sweep out.1 out.2) out) : HW_Mi_sweep_6 E K H0 t1 x2 x3 x4 (w, x5, x6) := by
  unfold f_Mi_sweep_6 at hf
  refine lp_ind (P := HW_Mi_sweep_6 E K H0 t1 x2 x3 x4) hf ?_
  intro z o hs h1 h2
  intro r_x5 r_x6
  intro o7 o8 o9 o10 o11
  refine t_Mi_sweep_6B k k_t1 r_x2 r_x3 r_x4 r_x5 r_x6 hs ?_
  cases o with
  | inl z' => exact h1 z' rfl
  | inr r' => rw [h2 r' rfl]; exact hc
noncomputable def f_Mi_sweep (w : World) (t1 : Nat) (x2 : Int) (x3 : Int) (x4 : Int) : Option (World × Int) :=
  f_Mi_sweep_6 w t1 x2 x3 x4 0 0
theorem t_Mi_sweep_0 {E : EE} {K : KT} {l : Launch} {H0 : Heap} (k : Kof TA E K l cX4_sweep RX4 rm_Mi_sweep) {w : World} {t1 : Nat} {x2 : Int} {x3 : Int} {x4 : Int} {o5 o6 o7 o8 o9 o10 o11 : Option Value} (k_t1 : TA.kd t1 = 6) (r_x2 : R32 x2) (r_x3 : R32 x3) (r_x4 : R32 x4) {out : (World × Int)} (hf : f_Mi_sweep w t1 x2 x3 x4 = some out) (hc : (fun out : (World × Int) => RetZ TA E K H0 cX4_sweep out.1 out.2) out) : Jj K (WdT TA E H0) w 0 [some (rf E.ad 107), some (rf E.ad t1), some (.int (ii x2)), some (.int (ii x3)), some (.int (ii x4)), o5, o6, o7, o8, o9, o10, o11] [] := by
  unfold f_Mi_sweep at hf
  have o := k.1
  have g := k.2.1
  have kr := k.2.2.1
  refine J_iconst o dX4_sweep_0 ?_
  refine J_istore o dX4_sweep_1 (Nat.le_of_ble_eq_true rfl) ?_
  refine J_iconst o dX4_sweep_3 ?_
  refine J_istore o dX4_sweep_4 (Nat.le_of_ble_eq_true rfl) ?_
  exact (t_Mi_sweep_6 k k_t1 r_x2 r_x3 r_x4 hf hc) rl0 rl0 _ _ _ _ _
theorem c_Mi_sweep {E : EE} {l : Launch} (hI : Inj TA E) {w : World} {t1 : Nat} {x2 : Int} {x3 : Int} {x4 : Int} (k_t1 : TA.kd t1 = 6) (r_x2 : R32 x2) (r_x3 : R32 x3) (r_x4 : R32 x4) {out : (World × Int)} (hf : f_Mi_sweep w t1 x2 x3 x4 = some out) : ConI TA E l yX4_sweep (WS yX4_sweep cX4_sweep 12 (some .boolean)) rm_Mi_sweep [rf E.ad 107, rf E.ad t1, .int (ii x2), .int (ii x3), .int (ii x4)] w out.1 out.2 :=
  con_Z (by decide +kernel) rfl (Nat.le_of_ble_eq_true rfl) (c1s_r (c1s_r (c1s_i (c1s_i (c1s_i c1s_0 (Nat.le_of_ble_eq_true rfl)) (Nat.le_of_ble_eq_true rfl)) (Nat.le_of_ble_eq_true rfl)) (Nat.le_of_ble_eq_true rfl)) (Nat.le_of_ble_eq_true rfl)).1 ⟨rfl, rfl⟩ hI TnA (fun K H0 k hret => t_Mi_sweep_0 k k_t1 r_x2 r_x3 r_x4 hf hret)
abbrev rm_Mi_build : Room := { frames := 6, cells := 0, slots := 0, locals := 154 }
def HW_Mi_build_10 (E : EE) (K : KT) (H0 : Heap) (t1 : Nat) (x2 : Int) (x3 : Int) (x4 : Int) : (World × Int × Int) → Prop := fun z => R32 z.2.1 → R32 z.2.2 → ∀ o7 o8 : Option Value, Jj K (WdT TA E H0) z.1 10 [some (rf E.ad 107), some (rf E.ad t1), some (.int (ii x2)), some (.int (ii x3)), some (.int (ii x4)), some (.int (ii z.2.1)), some (.int (ii z.2.2)), o7, o8] []
def HW_Mi_build_56 (E : EE) (K : KT) (H0 : Heap) (t1 : Nat) (x2 : Int) (x3 : Int) (x4 : Int) (x6 : Int) : (World × Int × Int × Int) → Prop := fun z => R32 z.2.1 → R32 z.2.2.1 → R32 z.2.2.2 → Jj K (WdT TA E H0) z.1 56 [some (rf E.ad 107), some (rf E.ad t1), some (.int (ii x2)), some (.int (ii x3)), some (.int (ii x4)), some (.int (ii z.2.1)), some (.int (ii x6)), some (.int (ii z.2.2.1)), some (.int (ii z.2.2.2))] []
noncomputable def f_Mi_build_98 (w : World) (t1 : Nat) (x2 : Int) (x3 : Int) (x4 : Int) (x5 : Int) (x6 : Int) : Option ((World × Int × Int) ⊕ World) :=
  bl (wr (x6 + 1)) fun n1 => some (Sum.inl (w, x5, n1))
theorem t_Mi_build_98 {E : EE} {K : KT} {l : Launch} {H0 : Heap} (k : Kof TA E K l cX4_build RX4 rm_Mi_build) {w : World} {t1 : Nat} {x2 : Int} {x3 : Int} {x4 : Int} {x5 : Int} {x6 : Int} {o7 o8 : Option Value} (k_t1 : TA.kd t1 = 6) (r_x2 : R32 x2) (r_x3 : R32 x3) (r_x4 : R32 x4) (r_x5 : R32 x5) (r_x6 : R32 x6) {out : ((World × Int × Int) ⊕ World)} (hf : f_Mi_build_98 w t1 x2 x3 x4 x5 x6 = some out) (hc : (Sum.elim (HW_Mi_build_10 E K H0 t1 x2 x3 x4) (fun out : World => RetV TA E K H0 cX4_build out)) out) : Jj K (WdT TA E H0) w 98 [some (rf E.ad 107), some (rf E.ad t1), some (.int (ii x2)), some (.int (ii x3)), some (.int (ii x4)), some (.int (ii x5)), some (.int (ii x6)), o7, o8] [] := by
  unfold f_Mi_build_98 at hf
  have o := k.1
  have g := k.2.1
  have kr := k.2.2.1
  have hf := bl_out hf
  refine J_iinc o dX4_build_98 rfl ?_
  refine J_goto 10 o dX4_build_101 (by decide) ?_
  have hf := some_inj hf
  subst hf
  exact hc r_x5 (R_wr _) _ _
noncomputable def f_Mi_build_56B (w : World) (t1 : Nat) (x2 : Int) (x3 : Int) (x4 : Int) (x5 : Int) (x6 : Int) (x7 : Int) (x8 : Int) : Option ((World × Int × Int × Int) ⊕ ((World × Int × Int) ⊕ World)) :=
  if 10000 ≤ x8 then (bnd (f_Mi_build_98 w t1 x2 x3 x4 x5 x6) fun y3 => some (Sum.inr y3)) else (if x7 = 0 then (bnd (f_Mi_build_98 w t1 x2 x3 x4 x5 x6) fun y6 => some (Sum.inr y6)) else (if (w t1 2) = 0 then (bl (wr (x5 + 1)) fun n11 => bnd (f_Mi_sweep w t1 x6 n11 x4) fun v13 => bl (wr (x8 + 1)) fun n15 => some (Sum.inl (v13.1, n11, v13.2, n15))) else (bnd (f_Mi_build_98 w t1 x2 x3 x4 x5 x6) fun y10 => some (Sum.inr y10))))
theorem t_Mi_build_56B {E : EE} {K : KT} {l : Launch} {H0 : Heap} (k : Kof TA E K l cX4_build RX4 rm_Mi_build) {w : World} {t1 : Nat} {x2 : Int} {x3 : Int} {x4 : Int} {x5 : Int} {x6 : Int} {x7 : Int} {x8 : Int} (k_t1 : TA.kd t1 = 6) (r_x2 : R32 x2) (r_x3 : R32 x3) (r_x4 : R32 x4) (r_x5 : R32 x5) (r_x6 : R32 x6) (r_x7 : R32 x7) (r_x8 : R32 x8) {out : ((World × Int × Int × Int) ⊕ ((World × Int × Int) ⊕ World))} (hf : f_Mi_build_56B w t1 x2 x3 x4 x5 x6 x7 x8 = some out) (hc : (Sum.elim (HW_Mi_build_56 E K H0 t1 x2 x3 x4 x6) (Sum.elim (HW_Mi_build_10 E K H0 t1 x2 x3 x4) (fun out : World => RetV TA E K H0 cX4_build out))) out) : Jj K (WdT TA E H0) w 56 [some (rf E.ad 107), some (rf E.ad t1), some (.int (ii x2)), some (.int (ii x3)), some (.int (ii x4)), some (.int (ii x5)), some (.int (ii x6)), some (.int (ii x7)), some (.int (ii x8))] [] := by
  unfold f_Mi_build_56B at hf
  have o := k.1
  have g := k.2.1
  have kr := k.2.2.1
  refine J_iload o dX4_build_56 rfl ?_
  refine J_sipush o dX4_build_58 (by decide) ?_
  refine J_icmp_ge 98 o dX4_build_61 (by decide) r_x8 rl10000 (fun c1 => ?_) (fun c2 => ?_)
  · have hf := ite_t c1 hf
    obtain ⟨y3, hf1, hf⟩ := bnd_some hf
    have hf := some_inj hf
    subst hf
    exact t_Mi_build_98 k k_t1 r_x2 r_x3 r_x4 r_x5 r_x6 hf1 hc
  · have hf := ite_f c2 hf
    refine J_iload o dX4_build_64 rfl ?_
    refine J_if_eq 98 o dX4_build_66 (by decide) r_x7 (fun c4 => ?_) (fun c5 => ?_)
    · have hf := ite_t c4 hf
      obtain ⟨y6, hf1, hf⟩ := bnd_some hf
      have hf := some_inj hf
      subst hf
      exact t_Mi_build_98 k k_t1 r_x2 r_x3 r_x4 r_x5 r_x6 hf1 hc
    · have hf := ite_f c5 hf
      refine J_aload_n o dX4_build_69 rfl ?_
      refine J_getI o g dX4_build_70 flX4_42 k_t1 rfl (fun q7 => ?_)
      refine J_if_ne 98 o dX4_build_73 (by decide) q7 (fun c8 => ?_) (fun c9 => ?_)
      · have hf := ite_f c8 hf
        obtain ⟨y10, hf1, hf⟩ := bnd_some hf
        have hf := some_inj hf
        subst hf
        exact t_Mi_build_98 k k_t1 r_x2 r_x3 r_x4 r_x5 r_x6 hf1 hc
      · have hf := ite_t c9 hf
        have hf := bl_out hf
        refine J_iinc o dX4_build_76 rfl ?_
        refine J_aload_n o dX4_build_79 rfl ?_
        refine J_aload_n o dX4_build_80 rfl ?_
        refine J_iload o dX4_build_81 rfl ?_
        refine J_iload o dX4_build_83 rfl ?_
        refine J_iload o dX4_build_85 rfl ?_
        obtain ⟨v13, e12, hf⟩ := bnd_some hf
        refine J_vI o g kr dX4_build_87 lkX4_38 ml_Mi_sweep vl_Mi_sweep ⟨rfl, rfl, Nat.le_of_ble_eq_true rfl, Nat.le_of_ble_eq_true rfl⟩ (c_Mi_sweep g.2.1 k_t1 r_x6 (R_wr _) r_x4 e12) kA_107 rfl ⟨by decide, by decide⟩ rfl rfl c1s_0 (fun q14 => ?_)
        refine J_istore o dX4_build_90 (Nat.le_of_ble_eq_true rfl) ?_
        have hf := bl_out hf
        refine J_iinc o dX4_build_92 rfl ?_
        refine J_goto 56 o dX4_build_95 (by decide) ?_
        have hf := some_inj hf
        subst hf
        exact hc (R_wr _) q14 (R_wr _) 
noncomputable def f_Mi_build_56 (w : World) (t1 : Nat) (x2 : Int) (x3 : Int) (x4 : Int) (x5 : Int) (x6 : Int) (x7 : Int) (x8 : Int) : Option ((World × Int × Int) ⊕ World) :=
  lp (fun z : (World × Int × Int × Int) => f_Mi_build_56B z.1 t1 x2 x3 x4 z.2.1 x6 z.2.2.1 z.2.2.2) (w, x5, x7, x8)
theorem t_Mi_build_56 {E : EE} {K : KT} {l : Launch} {H0 : Heap} (k : Kof TA E K l cX4_build RX4 rm_Mi_build) {w : World} {t1 : Nat} {x2 : Int} {x3 : Int} {x4 : Int} {x5 : Int} {x6 : Int} {x7 : Int} {x8 : Int} (k_t1 : TA.kd t1 = 6) (r_x2 : R32 x2) (r_x3 : R32 x3) (r_x4 : R32 x4) (r_x6 : R32 x6) {out : ((World × Int × Int) ⊕ World)} (hf : f_Mi_build_56 w t1 x2 x3 x4 x5 x6 x7 x8 = some out) (hc : (Sum.elim (HW_Mi_build_10 E K H0 t1 x2 x3 x4) (fun out : World => RetV TA E K H0 cX4_build out)) out) : HW_Mi_build_56 E K H0 t1 x2 x3 x4 x6 (w, x5, x7, x8) := by
  unfold f_Mi_build_56 at hf
  refine lp_ind (P := HW_Mi_build_56 E K H0 t1 x2 x3 x4 x6) hf ?_
  intro z o hs h1 h2
  intro r_x5 r_x7 r_x8
  refine t_Mi_build_56B k k_t1 r_x2 r_x3 r_x4 r_x5 r_x6 r_x7 r_x8 hs ?_
  cases o with
  | inl z' => exact h1 z' rfl
  | inr r' => rw [h2 r' rfl]; exact hc
noncomputable def f_Mi_build_10B (w : World) (t1 : Nat) (x2 : Int) (x3 : Int) (x4 : Int) (x5 : Int) (x6 : Int) : Option ((World × Int × Int) ⊕ World) :=
  if (w 14 7) < x6 then (some (Sum.inr w)) else (if 10 ≤ x6 then (some (Sum.inr w)) else (bnd (f_Mi_load w t1 x6 x2 x3) fun v7 => bl (wr (x5 + 1)) fun n9 => bnd (f_Mi_sweep v7 t1 x6 n9 1) fun v11 => f_Mi_build_56 v11.1 t1 x2 x3 x4 n9 x6 v11.2 0))
theorem t_Mi_build_10B {E : EE} {K : KT} {l : Launch} {H0 : Heap} (k : Kof TA E K l cX4_build RX4 rm_Mi_build) {w : World} {t1 : Nat} {x2 : Int} {x3 : Int} {x4 : Int} {x5 : Int} {x6 : Int} {o7 o8 : Option Value} (k_t1 : TA.kd t1 = 6) (r_x2 : R32 x2) (r_x3 : R32 x3) (r_x4 : R32 x4) (r_x5 : R32 x5) (r_x6 : R32 x6) {out : ((World × Int × Int) ⊕ World)} (hf : f_Mi_build_10B w t1 x2 x3 x4 x5 x6 = some out) (hc : (Sum.elim (HW_Mi_build_10 E K H0 t1 x2 x3 x4) (fun out : World => RetV TA E K H0 cX4_build out)) out) : Jj K (WdT TA E H0) w 10 [some (rf E.ad 107), some (rf E.ad t1), some (.int (ii x2)), some (.int (ii x3)), some (.int (ii x4)), some (.int (ii x5)), some (.int (ii x6)), o7, o8] [] := by
  unfold f_Mi_build_10B at hf
  have o := k.1
  have g := k.2.1
  have kr := k.2.2.1
  refine J_iload o dX4_build_10 rfl ?_
  refine J_aload_n o dX4_build_12 rfl ?_
  refine J_getF (true, 14) o g dX4_build_13 flX4_15 kA_107 rfl rfl rfl ?_
  refine J_getI o g dX4_build_16 flX4_28 kA_14 rfl (fun q1 => ?_)
  refine J_icmp_gt 104 o dX4_build_19 (by decide) r_x6 q1 (fun c2 => ?_) (fun c3 => ?_)
  · have hf := ite_t c2 hf
    have hf := some_inj hf
    subst hf
    exact hc _ _  dX4_build_104
  · have hf := ite_f c3 hf
    refine J_iload o dX4_build_22 rfl ?_
    refine J_bipush o dX4_build_24 (by decide) ?_
    refine J_icmp_ge 104 o dX4_build_26 (by decide) r_x6 rl10 (fun c4 => ?_) (fun c5 => ?_)
    · have hf := ite_t c4 hf
      have hf := some_inj hf
      subst hf
      exact hc _ _  dX4_build_104
    · have hf := ite_f c5 hf
      refine J_aload_n o dX4_build_29 rfl ?_
      refine J_aload_n o dX4_build_30 rfl ?_
      refine J_iload o dX4_build_31 rfl ?_
      refine J_iload_n o dX4_build_33 rfl ?_
      refine J_iload_n o dX4_build_34 rfl ?_
      obtain ⟨v7, e6, hf⟩ := bnd_some hf
      refine J_vV o g kr dX4_build_35 lkX4_34 ml_Mi_load vl_Mi_load ⟨rfl, rfl, Nat.le_of_ble_eq_true rfl, Nat.le_of_ble_eq_true rfl⟩ (c_Mi_load g.2.1 k_t1 r_x6 r_x2 r_x3 e6) kA_107 rfl ⟨by decide, by decide⟩ rfl rfl c1s_0 ?_
      have hf := bl_out hf
      refine J_iinc o dX4_build_38 rfl ?_
      refine J_aload_n o dX4_build_41 rfl ?_
      refine J_aload_n o dX4_build_42 rfl ?_
      refine J_iload o dX4_build_43 rfl ?_
      refine J_iload o dX4_build_45 rfl ?_
      refine J_iconst o dX4_build_47 ?_
      obtain ⟨v11, e10, hf⟩ := bnd_some hf
      refine J_vI o g kr dX4_build_48 lkX4_38 ml_Mi_sweep vl_Mi_sweep ⟨rfl, rfl, Nat.le_of_ble_eq_true rfl, Nat.le_of_ble_eq_true rfl⟩ (c_Mi_sweep g.2.1 k_t1 r_x6 (R_wr _) rl1 e10) kA_107 rfl ⟨by decide, by decide⟩ rfl rfl c1s_0 (fun q12 => ?_)
      refine J_istore o dX4_build_51 (Nat.le_of_ble_eq_true rfl) ?_
      refine J_iconst o dX4_build_53 ?_
      refine J_istore o dX4_build_54 (Nat.le_of_ble_eq_true rfl) ?_
      exact (t_Mi_build_56 k k_t1 r_x2 r_x3 r_x4 r_x6 hf hc) (R_wr _) q12 rl0 
noncomputable def f_Mi_build_10 (w : World) (t1 : Nat) (x2 : Int) (x3 : Int) (x4 : Int) (x5 : Int) (x6 : Int) : Option World :=
  lp (fun z : (World × Int × Int) => f_Mi_build_10B z.1 t1 x2 x3 x4 z.2.1 z.2.2) (w, x5, x6)
theorem t_Mi_build_10 {E : EE} {K : KT} {l : Launch} {H0 : Heap} (k : Kof TA E K l cX4_build RX4 rm_Mi_build) {w : World} {t1 : Nat} {x2 : Int} {x3 : Int} {x4 : Int} {x5 : Int} {x6 : Int} (k_t1 : TA.kd t1 = 6) (r_x2 : R32 x2) (r_x3 : R32 x3) (r_x4 : R32 x4) {out : World} (hf : f_Mi_build_10 w t1 x2 x3 x4 x5 x6 = some out) (hc : (fun out : World => RetV TA E K H0 cX4_build out) out) : HW_Mi_build_10 E K H0 t1 x2 x3 x4 (w, x5, x6) := by
  unfold f_Mi_build_10 at hf
  refine lp_ind (P := HW_Mi_build_10 E K H0 t1 x2 x3 x4) hf ?_
  intro z o hs h1 h2
  intro r_x5 r_x6
  intro o7 o8
  refine t_Mi_build_10B k k_t1 r_x2 r_x3 r_x4 r_x5 r_x6 hs ?_
  cases o with
  | inl z' => exact h1 z' rfl
  | inr r' => rw [h2 r' rfl]; exact hc
noncomputable def f_Mi_build (w : World) (t1 : Nat) (x2 : Int) (x3 : Int) (x4 : Int) : Option World :=
  bnd (f_Mo_reset w t1) fun v2 => f_Mi_build_10 v2 t1 x2 x3 x4 0 0
theorem t_Mi_build_0 {E : EE} {K : KT} {l : Launch} {H0 : Heap} (k : Kof TA E K l cX4_build RX4 rm_Mi_build) {w : World} {t1 : Nat} {x2 : Int} {x3 : Int} {x4 : Int} {o5 o6 o7 o8 : Option Value} (k_t1 : TA.kd t1 = 6) (r_x2 : R32 x2) (r_x3 : R32 x3) (r_x4 : R32 x4) {out : World} (hf : f_Mi_build w t1 x2 x3 x4 = some out) (hc : (fun out : World => RetV TA E K H0 cX4_build out) out) : Jj K (WdT TA E H0) w 0 [some (rf E.ad 107), some (rf E.ad t1), some (.int (ii x2)), some (.int (ii x3)), some (.int (ii x4)), o5, o6, o7, o8] [] := by
  unfold f_Mi_build at hf
  have o := k.1
  have g := k.2.1
  have kr := k.2.2.1
  refine J_aload_n o dX4_build_0 rfl ?_
  obtain ⟨v2, e1, hf⟩ := bnd_some hf
  refine J_vV o g kr dX4_build_1 lkX4_23 ml_Mo_reset vl_Mo_reset ⟨rfl, rfl, Nat.le_of_ble_eq_true rfl, Nat.le_of_ble_eq_true rfl⟩ (c_Mo_reset g.2.1 k_t1 e1) k_t1 rfl ⟨by decide, by decide⟩ rfl rfl c1s_0 ?_
  refine J_iconst o dX4_build_4 ?_
  refine J_istore o dX4_build_5 (Nat.le_of_ble_eq_true rfl) ?_
  refine J_iconst o dX4_build_7 ?_
  refine J_istore o dX4_build_8 (Nat.le_of_ble_eq_true rfl) ?_
  exact (t_Mi_build_10 k k_t1 r_x2 r_x3 r_x4 hf hc) rl0 rl0 _ _
theorem c_Mi_build {E : EE} {l : Launch} (hI : Inj TA E) {w : World} {t1 : Nat} {x2 : Int} {x3 : Int} {x4 : Int} (k_t1 : TA.kd t1 = 6) (r_x2 : R32 x2) (r_x3 : R32 x3) (r_x4 : R32 x4) {out : World} (hf : f_Mi_build w t1 x2 x3 x4 = some out) : ConV TA E l yX4_build (WS yX4_build cX4_build 9 none) rm_Mi_build [rf E.ad 107, rf E.ad t1, .int (ii x2), .int (ii x3), .int (ii x4)] w out :=
  con_V (by decide +kernel) rfl (Nat.le_of_ble_eq_true rfl) (c1s_r (c1s_r (c1s_i (c1s_i (c1s_i c1s_0 (Nat.le_of_ble_eq_true rfl)) (Nat.le_of_ble_eq_true rfl)) (Nat.le_of_ble_eq_true rfl)) (Nat.le_of_ble_eq_true rfl)) (Nat.le_of_ble_eq_true rfl)).1 ⟨rfl, rfl⟩ hI TnA (fun K H0 k hret => t_Mi_build_0 k k_t1 r_x2 r_x3 r_x4 hf hret)
abbrev rm_Dm_mends : Room := { frames := 7, cells := 0, slots := 0, locals := 182 }
noncomputable def f_Dm_mends (w : World) (x1 : Int) : Option (World × Int) :=
  bnd (f_Mi_build w 98 (w 1 12) x1 0) fun v3 => if (v3 98 2) = 0 then (bnd (f_Dm_brokenIn v3 98) fun v9 => if v9.2 = 0 then (some (v9.1, 1)) else (some (v9.1, 0))) else (some (v3, 0))
theorem t_Dm_mends_0 {E : EE} {K : KT} {l : Launch} {H0 : Heap} (k : Kof TA E K l cX10_mends RX10 rm_Dm_mends) {w : World} {x1 : Int} (r_x1 : R32 x1) {out : (World × Int)} (hf : f_Dm_mends w x1 = some out) (hc : (fun out : (World × Int) => RetZ TA E K H0 cX10_mends out.1 out.2) out) : Jj K (WdT TA E H0) w 0 [some (rf E.ad 1), some (.int (ii x1))] [] := by
  unfold f_Dm_mends at hf
  have o := k.1
  have g := k.2.1
  have kr := k.2.2.1
  refine J_aload_n o dX10_mends_0 rfl ?_
  refine J_getF (true, 107) o g dX10_mends_1 flX10_60 kA_1 rfl rfl rfl ?_
  refine J_aload_n o dX10_mends_4 rfl ?_
  refine J_getF (true, 98) o g dX10_mends_5 flX10_47 kA_1 rfl rfl rfl ?_
  refine J_aload_n o dX10_mends_8 rfl ?_
  refine J_getI o g dX10_mends_9 flX10_173 kA_1 rfl (fun q1 => ?_)
  refine J_iload_n o dX10_mends_12 rfl ?_
  refine J_iconst o dX10_mends_13 ?_
  obtain ⟨v3, e2, hf⟩ := bnd_some hf
  refine J_vV o g kr dX10_mends_14 lkX10_275 ml_Mi_build vl_Mi_build ⟨rfl, rfl, Nat.le_of_ble_eq_true rfl, Nat.le_of_ble_eq_true rfl⟩ (c_Mi_build g.2.1 kA_98 q1 r_x1 rl0 e2) kA_107 rfl ⟨by decide, by decide⟩ rfl rfl c1s_0 ?_
  refine J_aload_n o dX10_mends_17 rfl ?_
  refine J_getF (true, 98) o g dX10_mends_18 flX10_47 kA_1 rfl rfl rfl ?_
  refine J_getI o g dX10_mends_21 flX10_312 kA_98 rfl (fun q5 => ?_)
  refine J_if_ne 42 o dX10_mends_24 (by decide) q5 (fun c6 => ?_) (fun c7 => ?_)
  · have hf := ite_f c6 hf
    refine J_iconst o dX10_mends_42 ?_
    have hf := some_inj hf
    subst hf
    exact hc _ _ (Or.inl rfl) dX10_mends_43
  · have hf := ite_t c7 hf
    refine J_aload_n o dX10_mends_27 rfl ?_
    refine J_aload_n o dX10_mends_28 rfl ?_
    refine J_getF (true, 98) o g dX10_mends_29 flX10_47 kA_1 rfl rfl rfl ?_
    obtain ⟨v9, e8, hf⟩ := bnd_some hf
    refine J_vI o g kr dX10_mends_32 lkX10_323 ml_Dm_brokenIn vl_Dm_brokenIn ⟨rfl, rfl, Nat.le_of_ble_eq_true rfl, Nat.le_of_ble_eq_true rfl⟩ (c_Dm_brokenIn g.2.1 kA_98 e8) kA_1 rfl ⟨by decide, by decide⟩ rfl rfl c1s_0 (fun q10 => ?_)
    refine J_if_ne 42 o dX10_mends_35 (by decide) q10 (fun c11 => ?_) (fun c12 => ?_)
    · have hf := ite_f c11 hf
      refine J_iconst o dX10_mends_42 ?_
      have hf := some_inj hf
      subst hf
      exact hc _ _ (Or.inl rfl) dX10_mends_43
    · have hf := ite_t c12 hf
      refine J_iconst o dX10_mends_38 ?_
      refine J_goto 43 o dX10_mends_39 (by decide) ?_
      have hf := some_inj hf
      subst hf
      exact hc _ _ (Or.inr rfl) dX10_mends_43
theorem c_Dm_mends {E : EE} {l : Launch} (hI : Inj TA E) {w : World} {x1 : Int} (r_x1 : R32 x1) {out : (World × Int)} (hf : f_Dm_mends w x1 = some out) : ConI TA E l yX10_mends (WS yX10_mends cX10_mends 2 (some .boolean)) rm_Dm_mends [rf E.ad 1, .int (ii x1)] w out.1 out.2 :=
  con_Z (by decide +kernel) rfl (Nat.le_of_ble_eq_true rfl) (c1s_r (c1s_i c1s_0 (Nat.le_of_ble_eq_true rfl)) (Nat.le_of_ble_eq_true rfl)).1 ⟨rfl, rfl⟩ hI TnA (fun K H0 k hret => t_Dm_mends_0 k r_x1 hf hret)
abbrev rm_Dm_repair : Room := { frames := 8, cells := 0, slots := 0, locals := 203 }
def HW_Dm_repair_15 (E : EE) (K : KT) (H0 : Heap)  : (World × Int) → Prop := fun z => R32 z.2 → ∀ o2 : Option Value, Jj K (WdT TA E H0) z.1 15 [some (rf E.ad 1), some (.int (ii z.2)), o2] []
def HW_Dm_repair_63 (E : EE) (K : KT) (H0 : Heap)  : (World × Int) → Prop := fun z => R32 z.2 → ∀ o2 : Option Value, Jj K (WdT TA E H0) z.1 63 [some (rf E.ad 1), some (.int (ii z.2)), o2] []
def HW_Dm_repair_76 (E : EE) (K : KT) (H0 : Heap) (x1 : Int) : (World × Int) → Prop := fun z => R32 z.2 → Jj K (WdT TA E H0) z.1 76 [some (rf E.ad 1), some (.int (ii x1)), some (.int (ii z.2))] []
noncomputable def f_Dm_repair_139 (w : World) (x1 : Int) : Option ((World × Int) ⊕ (World × Int)) :=
  bl (wr (x1 + 1)) fun n1 => some (Sum.inl (w, n1))
theorem t_Dm_repair_139 {E : EE} {K : KT} {l : Launch} {H0 : Heap} (k : Kof TA E K l cX10_repair RX10 rm_Dm_repair) {w : World} {x1 : Int} {o2 : Option Value} (r_x1 : R32 x1) {out : ((World × Int) ⊕ (World × Int))} (hf : f_Dm_repair_139 w x1 = some out) (hc : (Sum.elim (HW_Dm_repair_63 E K H0 ) (fun out : (World × Int) => RetI TA E K H0 cX10_repair out.1 out.2)) out) : Jj K (WdT TA E H0) w 139 [some (rf E.ad 1), some (.int (ii x1)), o2] [] := by
  unfold f_Dm_repair_139 at hf
  have o := k.1
  have g := k.2.1
  have kr := k.2.2.1
  have hf := bl_out hf
  refine J_iinc o dX10_repair_139 rfl ?_
  refine J_goto 63 o dX10_repair_142 (by decide) ?_
  have hf := some_inj hf
  subst hf
  exact hc (R_wr _) _
noncomputable def f_Dm_repair_133 (w : World) (x1 : Int) (x2 : Int) : Option ((World × Int) ⊕ ((World × Int) ⊕ (World × Int))) :=
  bl (wr (x2 + 1)) fun n1 => some (Sum.inl (w, n1))
theorem t_Dm_repair_133 {E : EE} {K : KT} {l : Launch} {H0 : Heap} (k : Kof TA E K l cX10_repair RX10 rm_Dm_repair) {w : World} {x1 : Int} {x2 : Int} (r_x1 : R32 x1) (r_x2 : R32 x2) {out : ((World × Int) ⊕ ((World × Int) ⊕ (World × Int)))} (hf : f_Dm_repair_133 w x1 x2 = some out) (hc : (Sum.elim (HW_Dm_repair_76 E K H0 x1) (Sum.elim (HW_Dm_repair_63 E K H0 ) (fun out : (World × Int) => RetI TA E K H0 cX10_repair out.1 out.2))) out) : Jj K (WdT TA E H0) w 133 [some (rf E.ad 1), some (.int (ii x1)), some (.int (ii x2))] [] := by
  unfold f_Dm_repair_133 at hf
  have o := k.1
  have g := k.2.1
  have kr := k.2.2.1
  have hf := bl_out hf
  refine J_iinc o dX10_repair_133 rfl ?_
  refine J_goto 76 o dX10_repair_136 (by decide) ?_
  have hf := some_inj hf
  subst hf
  exact hc (R_wr _) 
noncomputable def f_Dm_repair_76B (w : World) (x1 : Int) (x2 : Int) : Option ((World × Int) ⊕ ((World × Int) ⊕ (World × Int))) :=
  if x1 ≤ x2 then (bnd (f_Dm_repair_139 w x1) fun y3 => some (Sum.inr y3)) else (bnd (f_Fa_holdsIn w x1 (w 1 12)) fun v6 => if v6 = 0 then (bnd (f_Dm_repair_139 w x1) fun y10 => some (Sum.inr y10)) else (bnd (f_Fa_holdsIn w x2 (w 1 12)) fun v13 => if v13 = 0 then (f_Dm_repair_133 w x1 x2) else (bnd (f_Dm_mends w (ior (ishl 1 x1) (ishl 1 x2))) fun v18 => if v18.2 = 0 then (f_Dm_repair_133 v18.1 x1 x2) else (some (Sum.inr (Sum.inr (v18.1, ior (ishl 1 x1) (ishl 1 x2))))))))
theorem t_Dm_repair_76B {E : EE} {K : KT} {l : Launch} {H0 : Heap} (k : Kof TA E K l cX10_repair RX10 rm_Dm_repair) {w : World} {x1 : Int} {x2 : Int} (r_x1 : R32 x1) (r_x2 : R32 x2) {out : ((World × Int) ⊕ ((World × Int) ⊕ (World × Int)))} (hf : f_Dm_repair_76B w x1 x2 = some out) (hc : (Sum.elim (HW_Dm_repair_76 E K H0 x1) (Sum.elim (HW_Dm_repair_63 E K H0 ) (fun out : (World × Int) => RetI TA E K H0 cX10_repair out.1 out.2))) out) : Jj K (WdT TA E H0) w 76 [some (rf E.ad 1), some (.int (ii x1)), some (.int (ii x2))] [] := by
  unfold f_Dm_repair_76B at hf
  have o := k.1
  have g := k.2.1
  have kr := k.2.2.1
  refine J_iload_n o dX10_repair_76 rfl ?_
  refine J_iload_n o dX10_repair_77 rfl ?_
  refine J_icmp_ge 139 o dX10_repair_78 (by decide) r_x2 r_x1 (fun c1 => ?_) (fun c2 => ?_)
  · have hf := ite_t c1 hf
    obtain ⟨y3, hf1, hf⟩ := bnd_some hf
    have hf := some_inj hf
    subst hf
    exact t_Dm_repair_139 k r_x1 hf1 hc
  · have hf := ite_f c2 hf
    refine J_aload_n o dX10_repair_81 rfl ?_
    refine J_getF (true, 7) o g dX10_repair_82 flX10_35 kA_1 rfl rfl rfl ?_
    refine J_iload_n o dX10_repair_85 rfl ?_
    refine J_aload_n o dX10_repair_86 rfl ?_
    refine J_getI o g dX10_repair_87 flX10_173 kA_1 rfl (fun q4 => ?_)
    obtain ⟨v6, e5, hf⟩ := bnd_some hf
    refine J_vI o g kr dX10_repair_90 lkX10_309 ml_Fa_holdsIn vl_Fa_holdsIn ⟨rfl, rfl, Nat.le_of_ble_eq_true rfl, Nat.le_of_ble_eq_true rfl⟩ (c_Fa_holdsIn g.2.1 r_x1 q4 e5) kA_7 rfl ⟨by decide, by decide⟩ rfl rfl c1s_0 (fun q7 => ?_)
    refine J_if_eq 139 o dX10_repair_93 (by decide) q7 (fun c8 => ?_) (fun c9 => ?_)
    · have hf := ite_t c8 hf
      obtain ⟨y10, hf1, hf⟩ := bnd_some hf
      have hf := some_inj hf
      subst hf
      exact t_Dm_repair_139 k r_x1 hf1 hc
    · have hf := ite_f c9 hf
      refine J_aload_n o dX10_repair_96 rfl ?_
      refine J_getF (true, 7) o g dX10_repair_97 flX10_35 kA_1 rfl rfl rfl ?_
      refine J_iload_n o dX10_repair_100 rfl ?_
      refine J_aload_n o dX10_repair_101 rfl ?_
      refine J_getI o g dX10_repair_102 flX10_173 kA_1 rfl (fun q11 => ?_)
      obtain ⟨v13, e12, hf⟩ := bnd_some hf
      refine J_vI o g kr dX10_repair_105 lkX10_309 ml_Fa_holdsIn vl_Fa_holdsIn ⟨rfl, rfl, Nat.le_of_ble_eq_true rfl, Nat.le_of_ble_eq_true rfl⟩ (c_Fa_holdsIn g.2.1 r_x2 q11 e12) kA_7 rfl ⟨by decide, by decide⟩ rfl rfl c1s_0 (fun q14 => ?_)
      refine J_if_eq 133 o dX10_repair_108 (by decide) q14 (fun c15 => ?_) (fun c16 => ?_)
      · have hf := ite_t c15 hf
        exact t_Dm_repair_133 k r_x1 r_x2 hf hc
      · have hf := ite_f c16 hf
        refine J_aload_n o dX10_repair_111 rfl ?_
        refine J_iconst o dX10_repair_112 ?_
        refine J_iload_n o dX10_repair_113 rfl ?_
        refine J_ishl o dX10_repair_114 ?_
        refine J_iconst o dX10_repair_115 ?_
        refine J_iload_n o dX10_repair_116 rfl ?_
        refine J_ishl o dX10_repair_117 ?_
        refine J_ior o dX10_repair_118 ?_
        obtain ⟨v18, e17, hf⟩ := bnd_some hf
        refine J_vI o g kr dX10_repair_119 lkX10_327 ml_Dm_mends vl_Dm_mends ⟨rfl, rfl, Nat.le_of_ble_eq_true rfl, Nat.le_of_ble_eq_true rfl⟩ (c_Dm_mends g.2.1 (R_ior _ _) e17) kA_1 rfl ⟨by decide, by decide⟩ rfl rfl c1s_0 (fun q19 => ?_)
        refine J_if_eq 133 o dX10_repair_122 (by decide) q19 (fun c20 => ?_) (fun c21 => ?_)
        · have hf := ite_t c20 hf
          exact t_Dm_repair_133 k r_x1 r_x2 hf hc
        · have hf := ite_f c21 hf
          refine J_iconst o dX10_repair_125 ?_
          refine J_iload_n o dX10_repair_126 rfl ?_
          refine J_ishl o dX10_repair_127 ?_
          refine J_iconst o dX10_repair_128 ?_
          refine J_iload_n o dX10_repair_129 rfl ?_
          refine J_ishl o dX10_repair_130 ?_
          refine J_ior o dX10_repair_131 ?_
          have hf := some_inj hf
          subst hf
          exact hc _ _ (R_ior _ _) dX10_repair_132
noncomputable def f_Dm_repair_76 (w : World) (x1 : Int) (x2 : Int) : Option ((World × Int) ⊕ (World × Int)) :=
  lp (fun z : (World × Int) => f_Dm_repair_76B z.1 x1 z.2) (w, x2)
theorem t_Dm_repair_76 {E : EE} {K : KT} {l : Launch} {H0 : Heap} (k : Kof TA E K l cX10_repair RX10 rm_Dm_repair) {w : World} {x1 : Int} {x2 : Int} (r_x1 : R32 x1) {out : ((World × Int) ⊕ (World × Int))} (hf : f_Dm_repair_76 w x1 x2 = some out) (hc : (Sum.elim (HW_Dm_repair_63 E K H0 ) (fun out : (World × Int) => RetI TA E K H0 cX10_repair out.1 out.2)) out) : HW_Dm_repair_76 E K H0 x1 (w, x2) := by
  unfold f_Dm_repair_76 at hf
  refine lp_ind (P := HW_Dm_repair_76 E K H0 x1) hf ?_
  intro z o hs h1 h2
  intro r_x2
  refine t_Dm_repair_76B k r_x1 r_x2 hs ?_
  cases o with
  | inl z' => exact h1 z' rfl
  | inr r' => rw [h2 r' rfl]; exact hc
noncomputable def f_Dm_repair_63B (w : World) (x1 : Int) : Option ((World × Int) ⊕ (World × Int)) :=
  if (w 7 0) ≤ x1 then (some (Sum.inr (w, (-1)))) else (f_Dm_repair_76 w x1 0)
theorem t_Dm_repair_63B {E : EE} {K : KT} {l : Launch} {H0 : Heap} (k : Kof TA E K l cX10_repair RX10 rm_Dm_repair) {w : World} {x1 : Int} {o2 : Option Value} (r_x1 : R32 x1) {out : ((World × Int) ⊕ (World × Int))} (hf : f_Dm_repair_63B w x1 = some out) (hc : (Sum.elim (HW_Dm_repair_63 E K H0 ) (fun out : (World × Int) => RetI TA E K H0 cX10_repair out.1 out.2)) out) : Jj K (WdT TA E H0) w 63 [some (rf E.ad 1), some (.int (ii x1)), o2] [] := by
  unfold f_Dm_repair_63B at hf
  have o := k.1
  have g := k.2.1
  have kr := k.2.2.1
  refine J_iload_n o dX10_repair_63 rfl ?_
  refine J_aload_n o dX10_repair_64 rfl ?_
  refine J_getF (true, 7) o g dX10_repair_65 flX10_35 kA_1 rfl rfl rfl ?_
  refine J_getI o g dX10_repair_68 flX10_129 kA_7 rfl (fun q1 => ?_)
  refine J_icmp_ge 145 o dX10_repair_71 (by decide) r_x1 q1 (fun c2 => ?_) (fun c3 => ?_)
  · have hf := ite_t c2 hf
    refine J_iconst o dX10_repair_145 ?_
    have hf := some_inj hf
    subst hf
    exact hc _ _ rlm1 dX10_repair_146
  · have hf := ite_f c3 hf
    refine J_iconst o dX10_repair_74 ?_
    refine J_istore_n o dX10_repair_75 (Nat.le_of_ble_eq_true rfl) ?_
    exact (t_Dm_repair_76 k r_x1 hf hc) rl0 
noncomputable def f_Dm_repair_63 (w : World) (x1 : Int) : Option (World × Int) :=
  lp (fun z : (World × Int) => f_Dm_repair_63B z.1 z.2) (w, x1)
theorem t_Dm_repair_63 {E : EE} {K : KT} {l : Launch} {H0 : Heap} (k : Kof TA E K l cX10_repair RX10 rm_Dm_repair) {w : World} {x1 : Int}  {out : (World × Int)} (hf : f_Dm_repair_63 w x1 = some out) (hc : (fun out : (World × Int) => RetI TA E K H0 cX10_repair out.1 out.2) out) : HW_Dm_repair_63 E K H0  (w, x1) := by
  unfold f_Dm_repair_63 at hf
  refine lp_ind (P := HW_Dm_repair_63 E K H0 ) hf ?_
  intro z o hs h1 h2
  intro r_x1
  intro o2
  refine t_Dm_repair_63B k r_x1 hs ?_
  cases o with
  | inl z' => exact h1 z' rfl
  | inr r' => rw [h2 r' rfl]; exact hc
noncomputable def f_Dm_repair_55 (w : World) (x1 : Int) : Option ((World × Int) ⊕ (World × Int)) :=
  bl (wr (x1 + 1)) fun n1 => some (Sum.inl (w, n1))
theorem t_Dm_repair_55 {E : EE} {K : KT} {l : Launch} {H0 : Heap} (k : Kof TA E K l cX10_repair RX10 rm_Dm_repair) {w : World} {x1 : Int} {o2 : Option Value} (r_x1 : R32 x1) {out : ((World × Int) ⊕ (World × Int))} (hf : f_Dm_repair_55 w x1 = some out) (hc : (Sum.elim (HW_Dm_repair_15 E K H0 ) (fun out : (World × Int) => RetI TA E K H0 cX10_repair out.1 out.2)) out) : Jj K (WdT TA E H0) w 55 [some (rf E.ad 1), some (.int (ii x1)), o2] [] := by
  unfold f_Dm_repair_55 at hf
  have o := k.1
  have g := k.2.1
  have kr := k.2.2.1
  have hf := bl_out hf
  refine J_iinc o dX10_repair_55 rfl ?_
  refine J_goto 15 o dX10_repair_58 (by decide) ?_
  have hf := some_inj hf
  subst hf
  exact hc (R_wr _) _
noncomputable def f_Dm_repair_15B (w : World) (x1 : Int) : Option ((World × Int) ⊕ (World × Int)) :=
  if (w 7 0) ≤ x1 then (bnd (f_Dm_repair_63 w 1) fun y4 => some (Sum.inr y4)) else (bnd (f_Fa_holdsIn w x1 (w 1 12)) fun v7 => if v7 = 0 then (f_Dm_repair_55 w x1) else (bnd (f_Dm_mends w (ishl 1 x1)) fun v12 => if v12.2 = 0 then (f_Dm_repair_55 v12.1 x1) else (some (Sum.inr (v12.1, ishl 1 x1)))))
theorem t_Dm_repair_15B {E : EE} {K : KT} {l : Launch} {H0 : Heap} (k : Kof TA E K l cX10_repair RX10 rm_Dm_repair) {w : World} {x1 : Int} {o2 : Option Value} (r_x1 : R32 x1) {out : ((World × Int) ⊕ (World × Int))} (hf : f_Dm_repair_15B w x1 = some out) (hc : (Sum.elim (HW_Dm_repair_15 E K H0 ) (fun out : (World × Int) => RetI TA E K H0 cX10_repair out.1 out.2)) out) : Jj K (WdT TA E H0) w 15 [some (rf E.ad 1), some (.int (ii x1)), o2] [] := by
  unfold f_Dm_repair_15B at hf
  have o := k.1
  have g := k.2.1
  have kr := k.2.2.1
  refine J_iload_n o dX10_repair_15 rfl ?_
  refine J_aload_n o dX10_repair_16 rfl ?_
  refine J_getF (true, 7) o g dX10_repair_17 flX10_35 kA_1 rfl rfl rfl ?_
  refine J_getI o g dX10_repair_20 flX10_129 kA_7 rfl (fun q1 => ?_)
  refine J_icmp_ge 61 o dX10_repair_23 (by decide) r_x1 q1 (fun c2 => ?_) (fun c3 => ?_)
  · have hf := ite_t c2 hf
    refine J_iconst o dX10_repair_61 ?_
    refine J_istore_n o dX10_repair_62 (Nat.le_of_ble_eq_true rfl) ?_
    obtain ⟨y4, hf1, hf⟩ := bnd_some hf
    have hf := some_inj hf
    subst hf
    exact (t_Dm_repair_63 k  hf1 hc) rl1 _
  · have hf := ite_f c3 hf
    refine J_aload_n o dX10_repair_26 rfl ?_
    refine J_getF (true, 7) o g dX10_repair_27 flX10_35 kA_1 rfl rfl rfl ?_
    refine J_iload_n o dX10_repair_30 rfl ?_
    refine J_aload_n o dX10_repair_31 rfl ?_
    refine J_getI o g dX10_repair_32 flX10_173 kA_1 rfl (fun q5 => ?_)
    obtain ⟨v7, e6, hf⟩ := bnd_some hf
    refine J_vI o g kr dX10_repair_35 lkX10_309 ml_Fa_holdsIn vl_Fa_holdsIn ⟨rfl, rfl, Nat.le_of_ble_eq_true rfl, Nat.le_of_ble_eq_true rfl⟩ (c_Fa_holdsIn g.2.1 r_x1 q5 e6) kA_7 rfl ⟨by decide, by decide⟩ rfl rfl c1s_0 (fun q8 => ?_)
    refine J_if_eq 55 o dX10_repair_38 (by decide) q8 (fun c9 => ?_) (fun c10 => ?_)
    · have hf := ite_t c9 hf
      exact t_Dm_repair_55 k r_x1 hf hc
    · have hf := ite_f c10 hf
      refine J_aload_n o dX10_repair_41 rfl ?_
      refine J_iconst o dX10_repair_42 ?_
      refine J_iload_n o dX10_repair_43 rfl ?_
      refine J_ishl o dX10_repair_44 ?_
      obtain ⟨v12, e11, hf⟩ := bnd_some hf
      refine J_vI o g kr dX10_repair_45 lkX10_327 ml_Dm_mends vl_Dm_mends ⟨rfl, rfl, Nat.le_of_ble_eq_true rfl, Nat.le_of_ble_eq_true rfl⟩ (c_Dm_mends g.2.1 (R_ishl _ _) e11) kA_1 rfl ⟨by decide, by decide⟩ rfl rfl c1s_0 (fun q13 => ?_)
      refine J_if_eq 55 o dX10_repair_48 (by decide) q13 (fun c14 => ?_) (fun c15 => ?_)
      · have hf := ite_t c14 hf
        exact t_Dm_repair_55 k r_x1 hf hc
      · have hf := ite_f c15 hf
        refine J_iconst o dX10_repair_51 ?_
        refine J_iload_n o dX10_repair_52 rfl ?_
        refine J_ishl o dX10_repair_53 ?_
        have hf := some_inj hf
        subst hf
        exact hc _ _ (R_ishl _ _) dX10_repair_54
noncomputable def f_Dm_repair_15 (w : World) (x1 : Int) : Option (World × Int) :=
  lp (fun z : (World × Int) => f_Dm_repair_15B z.1 z.2) (w, x1)
theorem t_Dm_repair_15 {E : EE} {K : KT} {l : Launch} {H0 : Heap} (k : Kof TA E K l cX10_repair RX10 rm_Dm_repair) {w : World} {x1 : Int}  {out : (World × Int)} (hf : f_Dm_repair_15 w x1 = some out) (hc : (fun out : (World × Int) => RetI TA E K H0 cX10_repair out.1 out.2) out) : HW_Dm_repair_15 E K H0  (w, x1) := by
  unfold f_Dm_repair_15 at hf
  refine lp_ind (P := HW_Dm_repair_15 E K H0 ) hf ?_
  intro z o hs h1 h2
  intro r_x1
  intro o2
  refine t_Dm_repair_15B k r_x1 hs ?_
  cases o with
  | inl z' => exact h1 z' rfl
  | inr r' => rw [h2 r' rfl]; exact hc
noncomputable def f_Dm_repair (w : World) : Option (World × Int) :=
  bnd (f_Dm_present w ) fun v2 => gd (kdA v2 = 6) (bnd (f_Dm_brokenIn w v2) fun v6 => if v6.2 = 0 then (some (v6.1, 0)) else (f_Dm_repair_15 v6.1 0))
theorem t_Dm_repair_0 {E : EE} {K : KT} {l : Launch} {H0 : Heap} (k : Kof TA E K l cX10_repair RX10 rm_Dm_repair) {w : World} {o1 o2 : Option Value}  {out : (World × Int)} (hf : f_Dm_repair w = some out) (hc : (fun out : (World × Int) => RetI TA E K H0 cX10_repair out.1 out.2) out) : Jj K (WdT TA E H0) w 0 [some (rf E.ad 1), o1, o2] [] := by
  unfold f_Dm_repair at hf
  have o := k.1
  have g := k.2.1
  have kr := k.2.2.1
  refine J_aload_n o dX10_repair_0 rfl ?_
  refine J_aload_n o dX10_repair_1 rfl ?_
  obtain ⟨v2, e1, hf⟩ := bnd_some hf
  refine J_vR o g kr dX10_repair_2 lkX10_261 ml_Dm_present vl_Dm_present ⟨rfl, rfl, Nat.le_of_ble_eq_true rfl, Nat.le_of_ble_eq_true rfl⟩ (c_Dm_present g.2.1  e1) kA_1 rfl ⟨by decide, by decide⟩ rfl rfl (c1s_r c1s_0 (Nat.le_of_ble_eq_true rfl)) ?_
  obtain ⟨g4, hf⟩ := gd_some hf
  obtain ⟨v6, e5, hf⟩ := bnd_some hf
  refine J_vI o g kr dX10_repair_5 lkX10_323 ml_Dm_brokenIn vl_Dm_brokenIn ⟨rfl, rfl, Nat.le_of_ble_eq_true rfl, Nat.le_of_ble_eq_true rfl⟩ (c_Dm_brokenIn g.2.1 g4 e5) kA_1 rfl ⟨by decide, by decide⟩ rfl rfl c1s_0 (fun q7 => ?_)
  refine J_if_ne 13 o dX10_repair_8 (by decide) q7 (fun c8 => ?_) (fun c9 => ?_)
  · have hf := ite_f c8 hf
    refine J_iconst o dX10_repair_13 ?_
    refine J_istore_n o dX10_repair_14 (Nat.le_of_ble_eq_true rfl) ?_
    exact (t_Dm_repair_15 k  hf hc) rl0 _
  · have hf := ite_t c9 hf
    refine J_iconst o dX10_repair_11 ?_
    have hf := some_inj hf
    subst hf
    exact hc _ _ rl0 dX10_repair_12
theorem c_Dm_repair {E : EE} {l : Launch} (hI : Inj TA E) {w : World}  {out : (World × Int)} (hf : f_Dm_repair w = some out) : ConI TA E l yX10_repair (WS yX10_repair cX10_repair 3 (some .int)) rm_Dm_repair [rf E.ad 1] w out.1 out.2 :=
  con_I (by decide +kernel) rfl (Nat.le_of_ble_eq_true rfl) (c1s_r c1s_0 (Nat.le_of_ble_eq_true rfl)).1 ⟨rfl, rfl⟩ hI TnA (fun K H0 k hret => t_Dm_repair_0 k  hf hret)
abbrev rm_Dm_isKey : Room := { frames := 1, cells := 0, slots := 0, locals := 24 }
noncomputable def f_Dm_isKey_18  : Option Int :=
  some 0
theorem t_Dm_isKey_18 {E : EE} {K : KT} {l : Launch} {H0 : Heap} (k : Kof TA E K l cX10_isKey RX10 rm_Dm_isKey) {w0 : World}  {o0 o1 o2 : Option Value}  {out : Int} (hf : f_Dm_isKey_18  = some out) (hc : (fun out : Int => RetZ TA E K H0 cX10_isKey w0 out) out) : Jj K (WdT TA E H0) w0 18 [o0, o1, o2] [] := by
  unfold f_Dm_isKey_18 at hf
  have o := k.1
  have g := k.2.1
  have kr := k.2.2.1
  refine J_iconst o dX10_isKey_18 ?_
  refine J_goto 34 o dX10_isKey_19 (by decide) ?_
  have hf := some_inj hf
  subst hf
  exact hc _ _ (Or.inl rfl) dX10_isKey_34
noncomputable def f_Dm_isKey (x0 : Int) (x1 : Int) (x2 : Int) : Option Int :=
  if x1 = 0 then (if x2 < 1 then (f_Dm_isKey_18 ) else (if x0 < x2 then (f_Dm_isKey_18 ) else (some 1))) else (if x2 = (wr (x0 - 1)) then (some 1) else (some 0))
theorem t_Dm_isKey_0 {E : EE} {K : KT} {l : Launch} {H0 : Heap} (k : Kof TA E K l cX10_isKey RX10 rm_Dm_isKey) {w0 : World} {x0 : Int} {x1 : Int} {x2 : Int} (r_x0 : R32 x0) (r_x1 : R32 x1) (r_x2 : R32 x2) {out : Int} (hf : f_Dm_isKey x0 x1 x2 = some out) (hc : (fun out : Int => RetZ TA E K H0 cX10_isKey w0 out) out) : Jj K (WdT TA E H0) w0 0 [some (.int (ii x0)), some (.int (ii x1)), some (.int (ii x2))] [] := by
  unfold f_Dm_isKey at hf
  have o := k.1
  have g := k.2.1
  have kr := k.2.2.1
  refine J_iload_n o dX10_isKey_0 rfl ?_
  refine J_if_ne 22 o dX10_isKey_1 (by decide) r_x1 (fun c1 => ?_) (fun c2 => ?_)
  · have hf := ite_f c1 hf
    refine J_iload_n o dX10_isKey_22 rfl ?_
    refine J_iload_n o dX10_isKey_23 rfl ?_
    refine J_iconst o dX10_isKey_24 ?_
    refine J_isub o dX10_isKey_25 ?_
    refine J_icmp_ne 33 o dX10_isKey_26 (by decide) r_x2 (R_wr _) (fun c3 => ?_) (fun c4 => ?_)
    · have hf := ite_f c3 hf
      refine J_iconst o dX10_isKey_33 ?_
      have hf := some_inj hf
      subst hf
      exact hc _ _ (Or.inl rfl) dX10_isKey_34
    · have hf := ite_t c4 hf
      refine J_iconst o dX10_isKey_29 ?_
      refine J_goto 34 o dX10_isKey_30 (by decide) ?_
      have hf := some_inj hf
      subst hf
      exact hc _ _ (Or.inr rfl) dX10_isKey_34
  · have hf := ite_t c2 hf
    refine J_iload_n o dX10_isKey_4 rfl ?_
    refine J_iconst o dX10_isKey_5 ?_
    refine J_icmp_lt 18 o dX10_isKey_6 (by decide) r_x2 rl1 (fun c5 => ?_) (fun c6 => ?_)
    · have hf := ite_t c5 hf
      exact t_Dm_isKey_18 k  hf hc
    · have hf := ite_f c6 hf
      refine J_iload_n o dX10_isKey_9 rfl ?_
      refine J_iload_n o dX10_isKey_10 rfl ?_
      refine J_icmp_gt 18 o dX10_isKey_11 (by decide) r_x2 r_x0 (fun c7 => ?_) (fun c8 => ?_)
      · have hf := ite_t c7 hf
        exact t_Dm_isKey_18 k  hf hc
      · have hf := ite_f c8 hf
        refine J_iconst o dX10_isKey_14 ?_
        refine J_goto 34 o dX10_isKey_15 (by decide) ?_
        have hf := some_inj hf
        subst hf
        exact hc _ _ (Or.inr rfl) dX10_isKey_34
theorem c_Dm_isKey {E : EE} {l : Launch} (hI : Inj TA E) {w0 : World} {x0 : Int} {x1 : Int} {x2 : Int} (r_x0 : R32 x0) (r_x1 : R32 x1) (r_x2 : R32 x2) {out : Int} (hf : f_Dm_isKey x0 x1 x2 = some out) : ConI TA E l yX10_isKey (WS yX10_isKey cX10_isKey 3 (some .boolean)) rm_Dm_isKey [.int (ii x0), .int (ii x1), .int (ii x2)] w0 w0 out :=
  con_Z (by decide +kernel) rfl (Nat.le_of_ble_eq_true rfl) (c1s_i (c1s_i (c1s_i c1s_0 (Nat.le_of_ble_eq_true rfl)) (Nat.le_of_ble_eq_true rfl)) (Nat.le_of_ble_eq_true rfl)).1 ⟨rfl, rfl⟩ hI TnA (fun K H0 k hret => t_Dm_isKey_0 k r_x0 r_x1 r_x2 hf hret)
abbrev rm_Dm_isValue : Room := { frames := 1, cells := 0, slots := 0, locals := 24 }
noncomputable def f_Dm_isValue (x0 : Int) : Option Int :=
  if x0 < 0 then (some 0) else (if 127 < x0 then (some 0) else (some 1))
theorem t_Dm_isValue_0 {E : EE} {K : KT} {l : Launch} {H0 : Heap} (k : Kof TA E K l cX10_isValue RX10 rm_Dm_isValue) {w0 : World} {x0 : Int} (r_x0 : R32 x0) {out : Int} (hf : f_Dm_isValue x0 = some out) (hc : (fun out : Int => RetZ TA E K H0 cX10_isValue w0 out) out) : Jj K (WdT TA E H0) w0 0 [some (.int (ii x0))] [] := by
  unfold f_Dm_isValue at hf
  have o := k.1
  have g := k.2.1
  have kr := k.2.2.1
  refine J_iload_n o dX10_isValue_0 rfl ?_
  refine J_if_lt 14 o dX10_isValue_1 (by decide) r_x0 (fun c1 => ?_) (fun c2 => ?_)
  · have hf := ite_t c1 hf
    refine J_iconst o dX10_isValue_14 ?_
    have hf := some_inj hf
    subst hf
    exact hc _ _ (Or.inl rfl) dX10_isValue_15
  · have hf := ite_f c2 hf
    refine J_iload_n o dX10_isValue_4 rfl ?_
    refine J_bipush o dX10_isValue_5 (by decide) ?_
    refine J_icmp_gt 14 o dX10_isValue_7 (by decide) r_x0 rl127 (fun c3 => ?_) (fun c4 => ?_)
    · have hf := ite_t c3 hf
      refine J_iconst o dX10_isValue_14 ?_
      have hf := some_inj hf
      subst hf
      exact hc _ _ (Or.inl rfl) dX10_isValue_15
    · have hf := ite_f c4 hf
      refine J_iconst o dX10_isValue_10 ?_
      refine J_goto 15 o dX10_isValue_11 (by decide) ?_
      have hf := some_inj hf
      subst hf
      exact hc _ _ (Or.inr rfl) dX10_isValue_15
theorem c_Dm_isValue {E : EE} {l : Launch} (hI : Inj TA E) {w0 : World} {x0 : Int} (r_x0 : R32 x0) {out : Int} (hf : f_Dm_isValue x0 = some out) : ConI TA E l yX10_isValue (WS yX10_isValue cX10_isValue 1 (some .boolean)) rm_Dm_isValue [.int (ii x0)] w0 w0 out :=
  con_Z (by decide +kernel) rfl (Nat.le_of_ble_eq_true rfl) (c1s_i c1s_0 (Nat.le_of_ble_eq_true rfl)).1 ⟨rfl, rfl⟩ hI TnA (fun K H0 k hret => t_Dm_isValue_0 k r_x0 hf hret)
abbrev rm_Dm_isTerm : Room := { frames := 1, cells := 0, slots := 0, locals := 24 }
noncomputable def f_Dm_isTerm (x0 : Int) : Option Int :=
  if x0 < (-8) then (some 0) else (if 127 < x0 then (some 0) else (some 1))
theorem t_Dm_isTerm_0 {E : EE} {K : KT} {l : Launch} {H0 : Heap} (k : Kof TA E K l cX10_isTerm RX10 rm_Dm_isTerm) {w0 : World} {x0 : Int} (r_x0 : R32 x0) {out : Int} (hf : f_Dm_isTerm x0 = some out) (hc : (fun out : Int => RetZ TA E K H0 cX10_isTerm w0 out) out) : Jj K (WdT TA E H0) w0 0 [some (.int (ii x0))] [] := by
  unfold f_Dm_isTerm at hf
  have o := k.1
  have g := k.2.1
  have kr := k.2.2.1
  refine J_iload_n o dX10_isTerm_0 rfl ?_
  refine J_bipush o dX10_isTerm_1 (by decide) ?_
  refine J_icmp_lt 16 o dX10_isTerm_3 (by decide) r_x0 rlm8 (fun c1 => ?_) (fun c2 => ?_)
  · have hf := ite_t c1 hf
    refine J_iconst o dX10_isTerm_16 ?_
    have hf := some_inj hf
    subst hf
    exact hc _ _ (Or.inl rfl) dX10_isTerm_17
  · have hf := ite_f c2 hf
    refine J_iload_n o dX10_isTerm_6 rfl ?_
    refine J_bipush o dX10_isTerm_7 (by decide) ?_
    refine J_icmp_gt 16 o dX10_isTerm_9 (by decide) r_x0 rl127 (fun c3 => ?_) (fun c4 => ?_)
    · have hf := ite_t c3 hf
      refine J_iconst o dX10_isTerm_16 ?_
      have hf := some_inj hf
      subst hf
      exact hc _ _ (Or.inl rfl) dX10_isTerm_17
    · have hf := ite_f c4 hf
      refine J_iconst o dX10_isTerm_12 ?_
      refine J_goto 17 o dX10_isTerm_13 (by decide) ?_
      have hf := some_inj hf
      subst hf
      exact hc _ _ (Or.inr rfl) dX10_isTerm_17
theorem c_Dm_isTerm {E : EE} {l : Launch} (hI : Inj TA E) {w0 : World} {x0 : Int} (r_x0 : R32 x0) {out : Int} (hf : f_Dm_isTerm x0 = some out) : ConI TA E l yX10_isTerm (WS yX10_isTerm cX10_isTerm 1 (some .boolean)) rm_Dm_isTerm [.int (ii x0)] w0 w0 out :=
  con_Z (by decide +kernel) rfl (Nat.le_of_ble_eq_true rfl) (c1s_i c1s_0 (Nat.le_of_ble_eq_true rfl)).1 ⟨rfl, rfl⟩ hI TnA (fun K H0 k hret => t_Dm_isTerm_0 k r_x0 hf hret)
abbrev rm_Dm_isPermitted : Room := { frames := 2, cells := 0, slots := 0, locals := 44 }
noncomputable def f_Dm_isPermitted_30  : Option Int :=
  some 1
theorem t_Dm_isPermitted_30 {E : EE} {K : KT} {l : Launch} {H0 : Heap} (k : Kof TA E K l cX10_isPermitted RX10 rm_Dm_isPermitted) {w0 : World}  {o0 o1 : Option Value}  {out : Int} (hf : f_Dm_isPermitted_30  = some out) (hc : (fun out : Int => RetZ TA E K H0 cX10_isPermitted w0 out) out) : Jj K (WdT TA E H0) w0 30 [o0, o1] [] := by
  unfold f_Dm_isPermitted_30 at hf
  have o := k.1
  have g := k.2.1
  have kr := k.2.2.1
  refine J_iconst o dX10_isPermitted_30 ?_
  refine J_goto 35 o dX10_isPermitted_31 (by decide) ?_
  have hf := some_inj hf
  subst hf
  exact hc _ _ (Or.inr rfl) dX10_isPermitted_35
noncomputable def f_Dm_isPermitted_19 (x0 : Int) (x1 : Int) : Option Int :=
  if x0 = 2 then (if x1 = (-9) then (f_Dm_isPermitted_30 ) else (some 0)) else (some 0)
theorem t_Dm_isPermitted_19 {E : EE} {K : KT} {l : Launch} {H0 : Heap} (k : Kof TA E K l cX10_isPermitted RX10 rm_Dm_isPermitted) {w0 : World} {x0 : Int} {x1 : Int} (r_x0 : R32 x0) (r_x1 : R32 x1) {out : Int} (hf : f_Dm_isPermitted_19 x0 x1 = some out) (hc : (fun out : Int => RetZ TA E K H0 cX10_isPermitted w0 out) out) : Jj K (WdT TA E H0) w0 19 [some (.int (ii x0)), some (.int (ii x1))] [] := by
  unfold f_Dm_isPermitted_19 at hf
  have o := k.1
  have g := k.2.1
  have kr := k.2.2.1
  refine J_iload_n o dX10_isPermitted_19 rfl ?_
  refine J_iconst o dX10_isPermitted_20 ?_
  refine J_icmp_ne 34 o dX10_isPermitted_21 (by decide) r_x0 rl2 (fun c1 => ?_) (fun c2 => ?_)
  · have hf := ite_f c1 hf
    refine J_iconst o dX10_isPermitted_34 ?_
    have hf := some_inj hf
    subst hf
    exact hc _ _ (Or.inl rfl) dX10_isPermitted_35
  · have hf := ite_t c2 hf
    refine J_iload_n o dX10_isPermitted_24 rfl ?_
    refine J_bipush o dX10_isPermitted_25 (by decide) ?_
    refine J_icmp_ne 34 o dX10_isPermitted_27 (by decide) r_x1 rlm9 (fun c3 => ?_) (fun c4 => ?_)
    · have hf := ite_f c3 hf
      refine J_iconst o dX10_isPermitted_34 ?_
      have hf := some_inj hf
      subst hf
      exact hc _ _ (Or.inl rfl) dX10_isPermitted_35
    · have hf := ite_t c4 hf
      exact t_Dm_isPermitted_30 k  hf hc
noncomputable def f_Dm_isPermitted (x0 : Int) (x1 : Int) : Option Int :=
  bnd (f_Dm_isValue x1) fun v2 => if v2 = 0 then (if x0 = 1 then (bnd (f_Dm_isTerm x1) fun v9 => if v9 = 0 then (f_Dm_isPermitted_19 x0 x1) else (f_Dm_isPermitted_30 )) else (f_Dm_isPermitted_19 x0 x1)) else (f_Dm_isPermitted_30 )
theorem t_Dm_isPermitted_0 {E : EE} {K : KT} {l : Launch} {H0 : Heap} (k : Kof TA E K l cX10_isPermitted RX10 rm_Dm_isPermitted) {w0 : World} {x0 : Int} {x1 : Int} (r_x0 : R32 x0) (r_x1 : R32 x1) {out : Int} (hf : f_Dm_isPermitted x0 x1 = some out) (hc : (fun out : Int => RetZ TA E K H0 cX10_isPermitted w0 out) out) : Jj K (WdT TA E H0) w0 0 [some (.int (ii x0)), some (.int (ii x1))] [] := by
  unfold f_Dm_isPermitted at hf
  have o := k.1
  have g := k.2.1
  have kr := k.2.2.1
  refine J_iload_n o dX10_isPermitted_0 rfl ?_
  obtain ⟨v2, e1, hf⟩ := bnd_some hf
  refine J_sI o g kr dX10_isPermitted_1 lkX10_369 ml_Dm_isValue mw599 ⟨rfl, rfl, Nat.le_of_ble_eq_true rfl, Nat.le_of_ble_eq_true rfl⟩ (c_Dm_isValue g.2.1 r_x1 e1) rfl rfl c1s_0 (fun q3 => ?_)
  refine J_if_ne 30 o dX10_isPermitted_4 (by decide) q3 (fun c4 => ?_) (fun c5 => ?_)
  · have hf := ite_f c4 hf
    exact t_Dm_isPermitted_30 k  hf hc
  · have hf := ite_t c5 hf
    refine J_iload_n o dX10_isPermitted_7 rfl ?_
    refine J_iconst o dX10_isPermitted_8 ?_
    refine J_icmp_ne 19 o dX10_isPermitted_9 (by decide) r_x0 rl1 (fun c6 => ?_) (fun c7 => ?_)
    · have hf := ite_f c6 hf
      exact t_Dm_isPermitted_19 k r_x0 r_x1 hf hc
    · have hf := ite_t c7 hf
      refine J_iload_n o dX10_isPermitted_12 rfl ?_
      obtain ⟨v9, e8, hf⟩ := bnd_some hf
      refine J_sI o g kr dX10_isPermitted_13 lkX10_200 ml_Dm_isTerm mw602 ⟨rfl, rfl, Nat.le_of_ble_eq_true rfl, Nat.le_of_ble_eq_true rfl⟩ (c_Dm_isTerm g.2.1 r_x1 e8) rfl rfl c1s_0 (fun q10 => ?_)
      refine J_if_ne 30 o dX10_isPermitted_16 (by decide) q10 (fun c11 => ?_) (fun c12 => ?_)
      · have hf := ite_f c11 hf
        exact t_Dm_isPermitted_30 k  hf hc
      · have hf := ite_t c12 hf
        exact t_Dm_isPermitted_19 k r_x0 r_x1 hf hc
theorem c_Dm_isPermitted {E : EE} {l : Launch} (hI : Inj TA E) {w0 : World} {x0 : Int} {x1 : Int} (r_x0 : R32 x0) (r_x1 : R32 x1) {out : Int} (hf : f_Dm_isPermitted x0 x1 = some out) : ConI TA E l yX10_isPermitted (WS yX10_isPermitted cX10_isPermitted 2 (some .boolean)) rm_Dm_isPermitted [.int (ii x0), .int (ii x1)] w0 w0 out :=
  con_Z (by decide +kernel) rfl (Nat.le_of_ble_eq_true rfl) (c1s_i (c1s_i c1s_0 (Nat.le_of_ble_eq_true rfl)) (Nat.le_of_ble_eq_true rfl)).1 ⟨rfl, rfl⟩ hI TnA (fun K H0 k hret => t_Dm_isPermitted_0 k r_x0 r_x1 hf hret)
abbrev rm_Dm_spareOf : Room := { frames := 1, cells := 0, slots := 0, locals := 24 }
noncomputable def f_Dm_spareOf_26 (w : World) (u0 : Nat) : Option Nat :=
  if u0 = 0 then (some 98) else (some u0)
theorem t_Dm_spareOf_26 {E : EE} {K : KT} {l : Launch} {H0 : Heap} (k : Kof TA E K l cX10_spareOf RX10 rm_Dm_spareOf) {w : World} {u0 : Nat} {o1 o2 : Option Value}  {out : Nat} (hf : f_Dm_spareOf_26 w u0 = some out) (hc : (fun out : Nat => RetR TA E K H0 cX10_spareOf w out) out) : Jj K (WdT TA E H0) w 26 [some (rf E.ad 1), o1, o2] [rf E.ad u0] := by
  unfold f_Dm_spareOf_26 at hf
  have o := k.1
  have g := k.2.1
  have kr := k.2.2.1
  refine J_astore_n o dX10_spareOf_26 (Nat.le_of_ble_eq_true rfl) ?_
  refine J_aload_n o dX10_spareOf_27 rfl ?_
  refine J_ifnonnull 38 o dX10_spareOf_28 (by decide) (fun c1 => ?_) (fun c2 => ?_)
  · have hf := ite_f c1 hf
    refine J_aload_n o dX10_spareOf_38 rfl ?_
    have hf := some_inj hf
    subst hf
    exact hc _ _  dX10_spareOf_39
  · have hf := ite_t c2 hf
    refine J_aload_n o dX10_spareOf_31 rfl ?_
    refine J_getF (true, 98) o g dX10_spareOf_32 flX10_47 kA_1 rfl rfl rfl ?_
    refine J_goto 39 o dX10_spareOf_35 (by decide) ?_
    have hf := some_inj hf
    subst hf
    exact hc _ _  dX10_spareOf_39
noncomputable def f_Dm_spareOf_22 (w : World) : Option Nat :=
  f_Dm_spareOf_26 w 98
theorem t_Dm_spareOf_22 {E : EE} {K : KT} {l : Launch} {H0 : Heap} (k : Kof TA E K l cX10_spareOf RX10 rm_Dm_spareOf) {w : World} {o1 o2 : Option Value}  {out : Nat} (hf : f_Dm_spareOf_22 w = some out) (hc : (fun out : Nat => RetR TA E K H0 cX10_spareOf w out) out) : Jj K (WdT TA E H0) w 22 [some (rf E.ad 1), o1, o2] [] := by
  unfold f_Dm_spareOf_22 at hf
  have o := k.1
  have g := k.2.1
  have kr := k.2.2.1
  refine J_aload_n o dX10_spareOf_22 rfl ?_
  refine J_getF (true, 98) o g dX10_spareOf_23 flX10_47 kA_1 rfl rfl rfl ?_
  exact t_Dm_spareOf_26 k  hf hc
noncomputable def f_Dm_spareOf (w : World) (x1 : Int) : Option Nat :=
  if x1 < 0 then (f_Dm_spareOf_22 w) else (if 4 ≤ x1 then (f_Dm_spareOf_22 w) else (gd (0 ≤ x1 ∧ x1 < 4) (f_Dm_spareOf_26 w ((w 109 x1.toNat).toNat))))
theorem t_Dm_spareOf_0 {E : EE} {K : KT} {l : Launch} {H0 : Heap} (k : Kof TA E K l cX10_spareOf RX10 rm_Dm_spareOf) {w : World} {x1 : Int} {o2 : Option Value} (r_x1 : R32 x1) {out : Nat} (hf : f_Dm_spareOf w x1 = some out) (hc : (fun out : Nat => RetR TA E K H0 cX10_spareOf w out) out) : Jj K (WdT TA E H0) w 0 [some (rf E.ad 1), some (.int (ii x1)), o2] [] := by
  unfold f_Dm_spareOf at hf
  have o := k.1
  have g := k.2.1
  have kr := k.2.2.1
  refine J_iload_n o dX10_spareOf_0 rfl ?_
  refine J_if_lt 22 o dX10_spareOf_1 (by decide) r_x1 (fun c1 => ?_) (fun c2 => ?_)
  · have hf := ite_t c1 hf
    exact t_Dm_spareOf_22 k  hf hc
  · have hf := ite_f c2 hf
    refine J_iload_n o dX10_spareOf_4 rfl ?_
    refine J_aload_n o dX10_spareOf_5 rfl ?_
    refine J_getF (true, 109) o g dX10_spareOf_6 flX10_68 kA_1 rfl rfl rfl ?_
    refine J_alen o g dX10_spareOf_9 kA_109 ⟨by decide, by decide⟩ zA_109 ?_
    refine J_icmp_ge 22 o dX10_spareOf_10 (by decide) r_x1 rl4 (fun c3 => ?_) (fun c4 => ?_)
    · have hf := ite_t c3 hf
      exact t_Dm_spareOf_22 k  hf hc
    · have hf := ite_f c4 hf
      refine J_aload_n o dX10_spareOf_13 rfl ?_
      refine J_getF (true, 109) o g dX10_spareOf_14 flX10_68 kA_1 rfl rfl rfl ?_
      refine J_iload_n o dX10_spareOf_17 rfl ?_
      obtain ⟨g5, hf⟩ := gd_some hf
      refine J_aald o g dX10_spareOf_18 (Or.inr kA_109) r_x1 zA_109 g5 ?_
      refine J_goto 26 o dX10_spareOf_19 (by decide) ?_
      exact t_Dm_spareOf_26 k  hf hc
theorem c_Dm_spareOf {E : EE} {l : Launch} (hI : Inj TA E) {w : World} {x1 : Int} (r_x1 : R32 x1) {out : Nat} (hf : f_Dm_spareOf w x1 = some out) : ConR TA E l yX10_spareOf (WS yX10_spareOf cX10_spareOf 3 (some (.object "Datalogmill$Model"))) rm_Dm_spareOf [rf E.ad 1, .int (ii x1)] w w out :=
  con_R (by decide +kernel) rfl (Nat.le_of_ble_eq_true rfl) (c1s_r (c1s_i c1s_0 (Nat.le_of_ble_eq_true rfl)) (Nat.le_of_ble_eq_true rfl)).1 ⟨rfl, rfl⟩ hI TnA (fun K H0 k hret => t_Dm_spareOf_0 k r_x1 hf hret)
abbrev rm_Sc_permits : Room := { frames := 3, cells := 0, slots := 0, locals := 65 }
def HW_Sc_permits_6 (E : EE) (K : KT) (H0 : Heap) (w : World) (x1 : Int) (x2 : Int) (x3 : Int) (x4 : Int) (x5 : Int) : (Int × Int) → Prop := fun z => R32 z.1 → R32 z.2 → ∀ o8 : Option Value, Jj K (WdT TA E H0) w 6 [some (rf E.ad 2), some (.int (ii x1)), some (.int (ii x2)), some (.int (ii x3)), some (.int (ii x4)), some (.int (ii x5)), some (.int (ii z.1)), some (.int (ii z.2)), o8] []
noncomputable def f_Sc_permits_61 (w : World) (x1 : Int) (x2 : Int) (x3 : Int) (x4 : Int) (x5 : Int) (x7 : Int) (s0 : Int) : Option ((Int × Int) ⊕ Int) :=
  bl (wr (x7 + 1)) fun n1 => some (Sum.inl (s0, n1))
theorem t_Sc_permits_61 {E : EE} {K : KT} {l : Launch} {H0 : Heap} (k : Kof TA E K l cX8_permits RX8 rm_Sc_permits) {w : World} {x1 : Int} {x2 : Int} {x3 : Int} {x4 : Int} {x5 : Int} {x7 : Int} {s0 : Int} {o6 o8 : Option Value} (r_x1 : R32 x1) (r_x2 : R32 x2) (r_x3 : R32 x3) (r_x4 : R32 x4) (r_x5 : R32 x5) (r_x7 : R32 x7) (r_s0 : R32 s0) {out : ((Int × Int) ⊕ Int)} (hf : f_Sc_permits_61 w x1 x2 x3 x4 x5 x7 s0 = some out) (hc : (Sum.elim (HW_Sc_permits_6 E K H0 w x1 x2 x3 x4 x5) (fun out : Int => RetZ TA E K H0 cX8_permits w out)) out) : Jj K (WdT TA E H0) w 61 [some (rf E.ad 2), some (.int (ii x1)), some (.int (ii x2)), some (.int (ii x3)), some (.int (ii x4)), some (.int (ii x5)), o6, some (.int (ii x7)), o8] [.int (ii s0)] := by
  unfold f_Sc_permits_61 at hf
  have o := k.1
  have g := k.2.1
  have kr := k.2.2.1
  refine J_istore o dX8_permits_61 (Nat.le_of_ble_eq_true rfl) ?_
  have hf := bl_out hf
  refine J_iinc o dX8_permits_63 rfl ?_
  refine J_goto 6 o dX8_permits_66 (by decide) ?_
  have hf := some_inj hf
  subst hf
  exact hc r_s0 (R_wr _) _
noncomputable def f_Sc_permits_60 (w : World) (x1 : Int) (x2 : Int) (x3 : Int) (x4 : Int) (x5 : Int) (x7 : Int) : Option ((Int × Int) ⊕ Int) :=
  f_Sc_permits_61 w x1 x2 x3 x4 x5 x7 0
theorem t_Sc_permits_60 {E : EE} {K : KT} {l : Launch} {H0 : Heap} (k : Kof TA E K l cX8_permits RX8 rm_Sc_permits) {w : World} {x1 : Int} {x2 : Int} {x3 : Int} {x4 : Int} {x5 : Int} {x7 : Int} {o6 o8 : Option Value} (r_x1 : R32 x1) (r_x2 : R32 x2) (r_x3 : R32 x3) (r_x4 : R32 x4) (r_x5 : R32 x5) (r_x7 : R32 x7) {out : ((Int × Int) ⊕ Int)} (hf : f_Sc_permits_60 w x1 x2 x3 x4 x5 x7 = some out) (hc : (Sum.elim (HW_Sc_permits_6 E K H0 w x1 x2 x3 x4 x5) (fun out : Int => RetZ TA E K H0 cX8_permits w out)) out) : Jj K (WdT TA E H0) w 60 [some (rf E.ad 2), some (.int (ii x1)), some (.int (ii x2)), some (.int (ii x3)), some (.int (ii x4)), some (.int (ii x5)), o6, some (.int (ii x7)), o8] [] := by
  unfold f_Sc_permits_60 at hf
  have o := k.1
  have g := k.2.1
  have kr := k.2.2.1
  refine J_iconst o dX8_permits_60 ?_
  exact t_Sc_permits_61 k r_x1 r_x2 r_x3 r_x4 r_x5 r_x7 rl0 hf hc
noncomputable def f_Sc_permits_56 (w : World) (x1 : Int) (x2 : Int) (x3 : Int) (x4 : Int) (x5 : Int) (x7 : Int) : Option ((Int × Int) ⊕ Int) :=
  f_Sc_permits_61 w x1 x2 x3 x4 x5 x7 1
theorem t_Sc_permits_56 {E : EE} {K : KT} {l : Launch} {H0 : Heap} (k : Kof TA E K l cX8_permits RX8 rm_Sc_permits) {w : World} {x1 : Int} {x2 : Int} {x3 : Int} {x4 : Int} {x5 : Int} {x7 : Int} {o6 o8 : Option Value} (r_x1 : R32 x1) (r_x2 : R32 x2) (r_x3 : R32 x3) (r_x4 : R32 x4) (r_x5 : R32 x5) (r_x7 : R32 x7) {out : ((Int × Int) ⊕ Int)} (hf : f_Sc_permits_56 w x1 x2 x3 x4 x5 x7 = some out) (hc : (Sum.elim (HW_Sc_permits_6 E K H0 w x1 x2 x3 x4 x5) (fun out : Int => RetZ TA E K H0 cX8_permits w out)) out) : Jj K (WdT TA E H0) w 56 [some (rf E.ad 2), some (.int (ii x1)), some (.int (ii x2)), some (.int (ii x3)), some (.int (ii x4)), some (.int (ii x5)), o6, some (.int (ii x7)), o8] [] := by
  unfold f_Sc_permits_56 at hf
  have o := k.1
  have g := k.2.1
  have kr := k.2.2.1
  refine J_iconst o dX8_permits_56 ?_
  refine J_goto 61 o dX8_permits_57 (by decide) ?_
  exact t_Sc_permits_61 k r_x1 r_x2 r_x3 r_x4 r_x5 r_x7 rl1 hf hc
noncomputable def f_Sc_permits_6B (w : World) (x1 : Int) (x2 : Int) (x3 : Int) (x4 : Int) (x5 : Int) (x6 : Int) (x7 : Int) : Option ((Int × Int) ⊕ Int) :=
  if 3 ≤ x7 then (gd (x6 = 0 ∨ x6 = 1) (some (Sum.inr x6))) else (bnd (f_Dm_picked x7 x3 x4 x5) fun v5 => if x6 = 0 then (f_Sc_permits_60 w x1 x2 x3 x4 x5 x7) else (bnd (f_Sc_columnsOf w x1) fun v10 => if v10 ≤ x7 then (if v5 = 0 then (f_Sc_permits_56 w x1 x2 x3 x4 x5 x7) else (f_Sc_permits_60 w x1 x2 x3 x4 x5 x7)) else (bnd (f_Dm_isPermitted x2 v5) fun v17 => if v17 = 0 then (f_Sc_permits_60 w x1 x2 x3 x4 x5 x7) else (f_Sc_permits_56 w x1 x2 x3 x4 x5 x7))))
theorem t_Sc_permits_6B {E : EE} {K : KT} {l : Launch} {H0 : Heap} (k : Kof TA E K l cX8_permits RX8 rm_Sc_permits) {w : World} {x1 : Int} {x2 : Int} {x3 : Int} {x4 : Int} {x5 : Int} {x6 : Int} {x7 : Int} {o8 : Option Value} (r_x1 : R32 x1) (r_x2 : R32 x2) (r_x3 : R32 x3) (r_x4 : R32 x4) (r_x5 : R32 x5) (r_x6 : R32 x6) (r_x7 : R32 x7) {out : ((Int × Int) ⊕ Int)} (hf : f_Sc_permits_6B w x1 x2 x3 x4 x5 x6 x7 = some out) (hc : (Sum.elim (HW_Sc_permits_6 E K H0 w x1 x2 x3 x4 x5) (fun out : Int => RetZ TA E K H0 cX8_permits w out)) out) : Jj K (WdT TA E H0) w 6 [some (rf E.ad 2), some (.int (ii x1)), some (.int (ii x2)), some (.int (ii x3)), some (.int (ii x4)), some (.int (ii x5)), some (.int (ii x6)), some (.int (ii x7)), o8] [] := by
  unfold f_Sc_permits_6B at hf
  have o := k.1
  have g := k.2.1
  have kr := k.2.2.1
  refine J_iload o dX8_permits_6 rfl ?_
  refine J_iconst o dX8_permits_8 ?_
  refine J_icmp_ge 69 o dX8_permits_9 (by decide) r_x7 rl3 (fun c1 => ?_) (fun c2 => ?_)
  · have hf := ite_t c1 hf
    refine J_iload o dX8_permits_69 rfl ?_
    obtain ⟨g3, hf⟩ := gd_some hf
    have hf := some_inj hf
    subst hf
    exact hc _ _ g3 dX8_permits_71
  · have hf := ite_f c2 hf
    refine J_iload o dX8_permits_12 rfl ?_
    refine J_iload_n o dX8_permits_14 rfl ?_
    refine J_iload o dX8_permits_15 rfl ?_
    refine J_iload o dX8_permits_17 rfl ?_
    obtain ⟨v5, e4, hf⟩ := bnd_some hf
    refine J_sI o g kr dX8_permits_19 lkX8_40 ml_Dm_picked mw593 ⟨rfl, rfl, Nat.le_of_ble_eq_true rfl, Nat.le_of_ble_eq_true rfl⟩ (c_Dm_picked g.2.1 r_x7 r_x3 r_x4 r_x5 e4) rfl rfl c1s_0 (fun q6 => ?_)
    refine J_istore o dX8_permits_22 (Nat.le_of_ble_eq_true rfl) ?_
    refine J_iload o dX8_permits_24 rfl ?_
    refine J_if_eq 60 o dX8_permits_26 (by decide) r_x6 (fun c7 => ?_) (fun c8 => ?_)
    · have hf := ite_t c7 hf
      exact t_Sc_permits_60 k r_x1 r_x2 r_x3 r_x4 r_x5 r_x7 hf hc
    · have hf := ite_f c8 hf
      refine J_iload o dX8_permits_29 rfl ?_
      refine J_aload_n o dX8_permits_31 rfl ?_
      refine J_iload_n o dX8_permits_32 rfl ?_
      obtain ⟨v10, e9, hf⟩ := bnd_some hf
      refine J_vI o g kr dX8_permits_33 lkX8_28 ml_Sc_columnsOf vl_Sc_columnsOf ⟨rfl, rfl, Nat.le_of_ble_eq_true rfl, Nat.le_of_ble_eq_true rfl⟩ (c_Sc_columnsOf g.2.1 r_x1 e9) kA_2 rfl ⟨by decide, by decide⟩ rfl rfl (c1s_i c1s_0 (Nat.le_of_ble_eq_true rfl)) (fun q11 => ?_)
      refine J_icmp_ge 51 o dX8_permits_36 (by decide) r_x7 q11 (fun c12 => ?_) (fun c13 => ?_)
      · have hf := ite_t c12 hf
        refine J_iload o dX8_permits_51 rfl ?_
        refine J_if_ne 60 o dX8_permits_53 (by decide) q6 (fun c14 => ?_) (fun c15 => ?_)
        · have hf := ite_f c14 hf
          exact t_Sc_permits_60 k r_x1 r_x2 r_x3 r_x4 r_x5 r_x7 hf hc
        · have hf := ite_t c15 hf
          exact t_Sc_permits_56 k r_x1 r_x2 r_x3 r_x4 r_x5 r_x7 hf hc
      · have hf := ite_f c13 hf
        refine J_iload_n o dX8_permits_39 rfl ?_
        refine J_iload o dX8_permits_40 rfl ?_
        obtain ⟨v17, e16, hf⟩ := bnd_some hf
        refine J_sI o g kr dX8_permits_42 lkX8_44 ml_Dm_isPermitted mw596 ⟨rfl, rfl, Nat.le_of_ble_eq_true rfl, Nat.le_of_ble_eq_true rfl⟩ (c_Dm_isPermitted g.2.1 r_x2 q6 e16) rfl rfl c1s_0 (fun q18 => ?_)
        refine J_if_eq 60 o dX8_permits_45 (by decide) q18 (fun c19 => ?_) (fun c20 => ?_)
        · have hf := ite_t c19 hf
          exact t_Sc_permits_60 k r_x1 r_x2 r_x3 r_x4 r_x5 r_x7 hf hc
        · have hf := ite_f c20 hf
          refine J_goto 56 o dX8_permits_48 (by decide) ?_
          exact t_Sc_permits_56 k r_x1 r_x2 r_x3 r_x4 r_x5 r_x7 hf hc
noncomputable def f_Sc_permits_6 (w : World) (x1 : Int) (x2 : Int) (x3 : Int) (x4 : Int) (x5 : Int) (x6 : Int) (x7 : Int) : Option Int :=
  lp (fun z : (Int × Int) => f_Sc_permits_6B w x1 x2 x3 x4 x5 z.1 z.2) (x6, x7)
theorem t_Sc_permits_6 {E : EE} {K : KT} {l : Launch} {H0 : Heap} (k : Kof TA E K l cX8_permits RX8 rm_Sc_permits) {w : World} {x1 : Int} {x2 : Int} {x3 : Int} {x4 : Int} {x5 : Int} {x6 : Int} {x7 : Int} (r_x1 : R32 x1) (r_x2 : R32 x2) (r_x3 : R32 x3) (r_x4 : R32 x4) (r_x5 : R32 x5) {out : Int} (hf : f_Sc_permits_6 w x1 x2 x3 x4 x5 x6 x7 = some out) (hc : (fun out : Int => RetZ TA E K H0 cX8_permits w out) out) : HW_Sc_permits_6 E K H0 w x1 x2 x3 x4 x5 (x6, x7) := by
  unfold f_Sc_permits_6 at hf
  refine lp_ind (P := HW_Sc_permits_6 E K H0 w x1 x2 x3 x4 x5) hf ?_
  intro z o hs h1 h2
  intro r_x6 r_x7
  intro o8
  refine t_Sc_permits_6B k r_x1 r_x2 r_x3 r_x4 r_x5 r_x6 r_x7 hs ?_
  cases o with
  | inl z' => exact h1 z' rfl
  | inr r' => rw [h2 r' rfl]; exact hc
noncomputable def f_Sc_permits (w : World) (x1 : Int) (x2 : Int) (x3 : Int) (x4 : Int) (x5 : Int) : Option Int :=
  f_Sc_permits_6 w x1 x2 x3 x4 x5 1 0
theorem t_Sc_permits_0 {E : EE} {K : KT} {l : Launch} {H0 : Heap} (k : Kof TA E K l cX8_permits RX8 rm_Sc_permits) {w : World} {x1 : Int} {x2 : Int} {x3 : Int} {x4 : Int} {x5 : Int} {o6 o7 o8 : Option Value} (r_x1 : R32 x1) (r_x2 : R32 x2) (r_x3 : R32 x3) (r_x4 : R32 x4) (r_x5 : R32 x5) {out : Int} (hf : f_Sc_permits w x1 x2 x3 x4 x5 = some out) (hc : (fun out : Int => RetZ TA E K H0 cX8_permits w out) out) : Jj K (WdT TA E H0) w 0 [some (rf E.ad 2), some (.int (ii x1)), some (.int (ii x2)), some (.int (ii x3)), some (.int (ii x4)), some (.int (ii x5)), o6, o7, o8] [] := by
  unfold f_Sc_permits at hf
  have o := k.1
  have g := k.2.1
  have kr := k.2.2.1
  refine J_iconst o dX8_permits_0 ?_
  refine J_istore o dX8_permits_1 (Nat.le_of_ble_eq_true rfl) ?_
  refine J_iconst o dX8_permits_3 ?_
  refine J_istore o dX8_permits_4 (Nat.le_of_ble_eq_true rfl) ?_
  exact (t_Sc_permits_6 k r_x1 r_x2 r_x3 r_x4 r_x5 hf hc) rl1 rl0 _
theorem c_Sc_permits {E : EE} {l : Launch} (hI : Inj TA E) {w : World} {x1 : Int} {x2 : Int} {x3 : Int} {x4 : Int} {x5 : Int} (r_x1 : R32 x1) (r_x2 : R32 x2) (r_x3 : R32 x3) (r_x4 : R32 x4) (r_x5 : R32 x5) {out : Int} (hf : f_Sc_permits w x1 x2 x3 x4 x5 = some out) : ConI TA E l yX8_permits (WS yX8_permits cX8_permits 9 (some .boolean)) rm_Sc_permits [rf E.ad 2, .int (ii x1), .int (ii x2), .int (ii x3), .int (ii x4), .int (ii x5)] w w out :=
  con_Z (by decide +kernel) rfl (Nat.le_of_ble_eq_true rfl) (c1s_r (c1s_i (c1s_i (c1s_i (c1s_i (c1s_i c1s_0 (Nat.le_of_ble_eq_true rfl)) (Nat.le_of_ble_eq_true rfl)) (Nat.le_of_ble_eq_true rfl)) (Nat.le_of_ble_eq_true rfl)) (Nat.le_of_ble_eq_true rfl)) (Nat.le_of_ble_eq_true rfl)).1 ⟨rfl, rfl⟩ hI TnA (fun K H0 k hret => t_Sc_permits_0 k r_x1 r_x2 r_x3 r_x4 r_x5 hf hret)
abbrev rm_Mo_has : Room := { frames := 3, cells := 0, slots := 0, locals := 71 }
noncomputable def f_Mo_has (w : World) (t0 : Nat) (x1 : Int) (x2 : Int) : Option Int :=
  bnd (f_Mo_slotLike w t0 x1 x2) fun v2 => if v2 = (-1) then (some 0) else (bnd (f_Mo_codeOf w t0 v2) fun v7 => if v7 = x2 then (some 1) else (some 0))
theorem t_Mo_has_0 {E : EE} {K : KT} {l : Launch} {H0 : Heap} (k : Kof TA E K l cX5_has RX5 rm_Mo_has) {w : World} {t0 : Nat} {x1 : Int} {x2 : Int} {o3 : Option Value} (k_t0 : TA.kd t0 = 6) (r_x1 : R32 x1) (r_x2 : R32 x2) {out : Int} (hf : f_Mo_has w t0 x1 x2 = some out) (hc : (fun out : Int => RetZ TA E K H0 cX5_has w out) out) : Jj K (WdT TA E H0) w 0 [some (rf E.ad t0), some (.int (ii x1)), some (.int (ii x2)), o3] [] := by
  unfold f_Mo_has at hf
  have o := k.1
  have g := k.2.1
  have kr := k.2.2.1
  refine J_aload_n o dX5_has_0 rfl ?_
  refine J_iload_n o dX5_has_1 rfl ?_
  refine J_iload_n o dX5_has_2 rfl ?_
  obtain ⟨v2, e1, hf⟩ := bnd_some hf
  refine J_vI o g kr dX5_has_3 lkX5_48 ml_Mo_slotLike vl_Mo_slotLike ⟨rfl, rfl, Nat.le_of_ble_eq_true rfl, Nat.le_of_ble_eq_true rfl⟩ (c_Mo_slotLike g.2.1 k_t0 r_x1 r_x2 e1) k_t0 rfl ⟨by decide, by decide⟩ rfl rfl c1s_0 (fun q3 => ?_)
  refine J_istore_n o dX5_has_6 (Nat.le_of_ble_eq_true rfl) ?_
  refine J_iload_n o dX5_has_7 rfl ?_
  refine J_iconst o dX5_has_8 ?_
  refine J_icmp_eq 25 o dX5_has_9 (by decide) q3 rlm1 (fun c4 => ?_) (fun c5 => ?_)
  · have hf := ite_t c4 hf
    refine J_iconst o dX5_has_25 ?_
    have hf := some_inj hf
    subst hf
    exact hc _ _ (Or.inl rfl) dX5_has_26
  · have hf := ite_f c5 hf
    refine J_aload_n o dX5_has_12 rfl ?_
    refine J_iload_n o dX5_has_13 rfl ?_
    obtain ⟨v7, e6, hf⟩ := bnd_some hf
    refine J_vI o g kr dX5_has_14 lkX5_52 ml_Mo_codeOf vl_Mo_codeOf ⟨rfl, rfl, Nat.le_of_ble_eq_true rfl, Nat.le_of_ble_eq_true rfl⟩ (c_Mo_codeOf g.2.1 k_t0 q3 e6) k_t0 rfl ⟨by decide, by decide⟩ rfl rfl c1s_0 (fun q8 => ?_)
    refine J_iload_n o dX5_has_17 rfl ?_
    refine J_icmp_ne 25 o dX5_has_18 (by decide) q8 r_x2 (fun c9 => ?_) (fun c10 => ?_)
    · have hf := ite_f c9 hf
      refine J_iconst o dX5_has_25 ?_
      have hf := some_inj hf
      subst hf
      exact hc _ _ (Or.inl rfl) dX5_has_26
    · have hf := ite_t c10 hf
      refine J_iconst o dX5_has_21 ?_
      refine J_goto 26 o dX5_has_22 (by decide) ?_
      have hf := some_inj hf
      subst hf
      exact hc _ _ (Or.inr rfl) dX5_has_26
theorem c_Mo_has {E : EE} {l : Launch} (hI : Inj TA E) {w : World} {t0 : Nat} {x1 : Int} {x2 : Int} (k_t0 : TA.kd t0 = 6) (r_x1 : R32 x1) (r_x2 : R32 x2) {out : Int} (hf : f_Mo_has w t0 x1 x2 = some out) : ConI TA E l yX5_has (WS yX5_has cX5_has 4 (some .boolean)) rm_Mo_has [rf E.ad t0, .int (ii x1), .int (ii x2)] w w out :=
  con_Z (by decide +kernel) rfl (Nat.le_of_ble_eq_true rfl) (c1s_r (c1s_i (c1s_i c1s_0 (Nat.le_of_ble_eq_true rfl)) (Nat.le_of_ble_eq_true rfl)) (Nat.le_of_ble_eq_true rfl)).1 ⟨rfl, rfl⟩ hI TnA (fun K H0 k hret => t_Mo_has_0 k k_t0 r_x1 r_x2 hf hret)
abbrev rm_Dm_isIn : Room := { frames := 4, cells := 0, slots := 0, locals := 94 }
noncomputable def f_Dm_isIn (w : World) (t1 : Nat) (x2 : Int) (x3 : Int) (x4 : Int) (x5 : Int) : Option Int :=
  bnd (f_Sc_permits w x2 0 x3 x4 x5) fun v2 => if v2 = 0 then (some 0) else (bnd (f_Dm_packed x3 x4 x5) fun v7 => bnd (f_Mo_has w t1 x2 v7) fun v10 => if v10 = 0 then (some 0) else (some 1))
theorem t_Dm_isIn_0 {E : EE} {K : KT} {l : Launch} {H0 : Heap} (k : Kof TA E K l cX10_isIn RX10 rm_Dm_isIn) {w : World} {t1 : Nat} {x2 : Int} {x3 : Int} {x4 : Int} {x5 : Int} (k_t1 : TA.kd t1 = 6) (r_x2 : R32 x2) (r_x3 : R32 x3) (r_x4 : R32 x4) (r_x5 : R32 x5) {out : Int} (hf : f_Dm_isIn w t1 x2 x3 x4 x5 = some out) (hc : (fun out : Int => RetZ TA E K H0 cX10_isIn w out) out) : Jj K (WdT TA E H0) w 0 [some (rf E.ad 1), some (rf E.ad t1), some (.int (ii x2)), some (.int (ii x3)), some (.int (ii x4)), some (.int (ii x5))] [] := by
  unfold f_Dm_isIn at hf
  have o := k.1
  have g := k.2.1
  have kr := k.2.2.1
  refine J_aload_n o dX10_isIn_0 rfl ?_
  refine J_getF (true, 2) o g dX10_isIn_1 flX10_31 kA_1 rfl rfl rfl ?_
  refine J_iload_n o dX10_isIn_4 rfl ?_
  refine J_iconst o dX10_isIn_5 ?_
  refine J_iload_n o dX10_isIn_6 rfl ?_
  refine J_iload o dX10_isIn_7 rfl ?_
  refine J_iload o dX10_isIn_9 rfl ?_
  obtain ⟨v2, e1, hf⟩ := bnd_some hf
  refine J_vI o g kr dX10_isIn_11 lkX10_123 ml_Sc_permits vl_Sc_permits ⟨rfl, rfl, Nat.le_of_ble_eq_true rfl, Nat.le_of_ble_eq_true rfl⟩ (c_Sc_permits g.2.1 r_x2 rl0 r_x3 r_x4 r_x5 e1) kA_2 rfl ⟨by decide, by decide⟩ rfl rfl c1s_0 (fun q3 => ?_)
  refine J_if_eq 37 o dX10_isIn_14 (by decide) q3 (fun c4 => ?_) (fun c5 => ?_)
  · have hf := ite_t c4 hf
    refine J_iconst o dX10_isIn_37 ?_
    have hf := some_inj hf
    subst hf
    exact hc _ _ (Or.inl rfl) dX10_isIn_38
  · have hf := ite_f c5 hf
    refine J_aload_n o dX10_isIn_17 rfl ?_
    refine J_iload_n o dX10_isIn_18 rfl ?_
    refine J_iload_n o dX10_isIn_19 rfl ?_
    refine J_iload o dX10_isIn_20 rfl ?_
    refine J_iload o dX10_isIn_22 rfl ?_
    obtain ⟨v7, e6, hf⟩ := bnd_some hf
    refine J_sI o g kr dX10_isIn_24 lkX10_135 ml_Dm_packed mw607 ⟨rfl, rfl, Nat.le_of_ble_eq_true rfl, Nat.le_of_ble_eq_true rfl⟩ (c_Dm_packed g.2.1 r_x3 r_x4 r_x5 e6) rfl rfl (c1s_i (c1s_r c1s_0 (Nat.le_of_ble_eq_true rfl)) (Nat.le_of_ble_eq_true rfl)) (fun q8 => ?_)
    obtain ⟨v10, e9, hf⟩ := bnd_some hf
    refine J_vI o g kr dX10_isIn_27 lkX10_372 ml_Mo_has vl_Mo_has ⟨rfl, rfl, Nat.le_of_ble_eq_true rfl, Nat.le_of_ble_eq_true rfl⟩ (c_Mo_has g.2.1 k_t1 r_x2 q8 e9) k_t1 rfl ⟨by decide, by decide⟩ rfl rfl c1s_0 (fun q11 => ?_)
    refine J_if_eq 37 o dX10_isIn_30 (by decide) q11 (fun c12 => ?_) (fun c13 => ?_)
    · have hf := ite_t c12 hf
      refine J_iconst o dX10_isIn_37 ?_
      have hf := some_inj hf
      subst hf
      exact hc _ _ (Or.inl rfl) dX10_isIn_38
    · have hf := ite_f c13 hf
      refine J_iconst o dX10_isIn_33 ?_
      refine J_goto 38 o dX10_isIn_34 (by decide) ?_
      have hf := some_inj hf
      subst hf
      exact hc _ _ (Or.inr rfl) dX10_isIn_38
theorem c_Dm_isIn {E : EE} {l : Launch} (hI : Inj TA E) {w : World} {t1 : Nat} {x2 : Int} {x3 : Int} {x4 : Int} {x5 : Int} (k_t1 : TA.kd t1 = 6) (r_x2 : R32 x2) (r_x3 : R32 x3) (r_x4 : R32 x4) (r_x5 : R32 x5) {out : Int} (hf : f_Dm_isIn w t1 x2 x3 x4 x5 = some out) : ConI TA E l yX10_isIn (WS yX10_isIn cX10_isIn 6 (some .boolean)) rm_Dm_isIn [rf E.ad 1, rf E.ad t1, .int (ii x2), .int (ii x3), .int (ii x4), .int (ii x5)] w w out :=
  con_Z (by decide +kernel) rfl (Nat.le_of_ble_eq_true rfl) (c1s_r (c1s_r (c1s_i (c1s_i (c1s_i (c1s_i c1s_0 (Nat.le_of_ble_eq_true rfl)) (Nat.le_of_ble_eq_true rfl)) (Nat.le_of_ble_eq_true rfl)) (Nat.le_of_ble_eq_true rfl)) (Nat.le_of_ble_eq_true rfl)) (Nat.le_of_ble_eq_true rfl)).1 ⟨rfl, rfl⟩ hI TnA (fun K H0 k hret => t_Dm_isIn_0 k k_t1 r_x2 r_x3 r_x4 r_x5 hf hret)
