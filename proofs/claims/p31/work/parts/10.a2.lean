abbrev rm_Dm_renew : Room := { frames := 7, cells := 0, slots := 0, locals := 182 }
def HW_Dm_renew_2 (E : EE) (K : KT) (H0 : Heap) (x1 : Int) (x2 : Int) : (World × Int) → Prop := fun z => R32 z.2 → ∀ o4 : Option Value, Jj K (WdT TA E H0) z.1 2 [some (rf E.ad 1), some (.int (ii x1)), some (.int (ii x2)), some (.int (ii z.2)), o4] []
def HW_Dm_renew_53 (E : EE) (K : KT) (H0 : Heap) (x2 : Int) : (World × Int) → Prop := fun z => R32 z.2 → ∀ o1 o4 : Option Value, Jj K (WdT TA E H0) z.1 53 [some (rf E.ad 1), o1, some (.int (ii x2)), some (.int (ii z.2)), o4] []
noncomputable def f_Dm_renew_95 (w : World) : Option (World × Int) :=
  bl (up w 150 0 0) fun w1 => some (w1, 1)
theorem t_Dm_renew_95 {E : EE} {K : KT} {l : Launch} {H0 : Heap} (k : Kof TA E K l cX10_renew RX10 rm_Dm_renew) {w : World} {o1 o2 o3 o4 : Option Value}  {out : (World × Int)} (hf : f_Dm_renew_95 w = some out) (hc : (fun out : (World × Int) => RetZ TA E K H0 cX10_renew out.1 out.2) out) : Jj K (WdT TA E H0) w 95 [some (rf E.ad 1), o1, o2, o3, o4] [] := by
  unfold f_Dm_renew_95 at hf
  have o := k.1
  have g := k.2.1
  have kr := k.2.2.1
  refine J_aload_n o dX10_renew_95 rfl ?_
  refine J_getF (true, 150) o g dX10_renew_96 flX10_74 kA_1 rfl rfl rfl ?_
  refine J_iconst o dX10_renew_99 ?_
  refine J_putZ o g dX10_renew_100 fpX10_178 kA_150 rfl rfl (Or.inl rfl) ?_
  have hf := bl_out hf
  refine J_iconst o dX10_renew_103 ?_
  have hf := some_inj hf
  subst hf
  exact hc _ _ (Or.inr rfl) dX10_renew_104
noncomputable def f_Dm_renew_53B (w : World) (x2 : Int) (x3 : Int) : Option ((World × Int) ⊕ (World × Int)) :=
  if x2 < x3 then (bnd (f_Dm_renew_95 w) fun y3 => some (Sum.inr y3)) else (if 4 ≤ x3 then (bnd (f_Dm_renew_95 w) fun y6 => some (Sum.inr y6)) else (bnd (f_Dm_modelOf w x3) fun v8 => bnd (f_Dm_spareOf w x3) fun v11 => gd (0 ≤ x3 ∧ x3 < 4) (gd (kdA v11 = 6) (bl (up w 108 x3.toNat (v11 : Nat)) fun w15 => gd (0 ≤ x3 ∧ x3 < 4) (gd (kdA v8 = 6) (bl (up w15 109 x3.toNat (v8 : Nat)) fun w18 => bl (wr (x3 + 1)) fun n19 => some (Sum.inl (w18, n19))))))))
theorem t_Dm_renew_53B {E : EE} {K : KT} {l : Launch} {H0 : Heap} (k : Kof TA E K l cX10_renew RX10 rm_Dm_renew) {w : World} {x2 : Int} {x3 : Int} {o1 o4 : Option Value} (r_x2 : R32 x2) (r_x3 : R32 x3) {out : ((World × Int) ⊕ (World × Int))} (hf : f_Dm_renew_53B w x2 x3 = some out) (hc : (Sum.elim (HW_Dm_renew_53 E K H0 x2) (fun out : (World × Int) => RetZ TA E K H0 cX10_renew out.1 out.2)) out) : Jj K (WdT TA E H0) w 53 [some (rf E.ad 1), o1, some (.int (ii x2)), some (.int (ii x3)), o4] [] := by
  unfold f_Dm_renew_53B at hf
  have o := k.1
  have g := k.2.1
  have kr := k.2.2.1
  refine J_iload_n o dX10_renew_53 rfl ?_
  refine J_iload_n o dX10_renew_54 rfl ?_
  refine J_icmp_gt 95 o dX10_renew_55 (by decide) r_x3 r_x2 (fun c1 => ?_) (fun c2 => ?_)
  · have hf := ite_t c1 hf
    obtain ⟨y3, hf1, hf⟩ := bnd_some hf
    have hf := some_inj hf
    subst hf
    exact t_Dm_renew_95 k  hf1 hc
  · have hf := ite_f c2 hf
    refine J_iload_n o dX10_renew_58 rfl ?_
    refine J_iconst o dX10_renew_59 ?_
    refine J_icmp_ge 95 o dX10_renew_60 (by decide) r_x3 rl4 (fun c4 => ?_) (fun c5 => ?_)
    · have hf := ite_t c4 hf
      obtain ⟨y6, hf1, hf⟩ := bnd_some hf
      have hf := some_inj hf
      subst hf
      exact t_Dm_renew_95 k  hf1 hc
    · have hf := ite_f c5 hf
      refine J_aload_n o dX10_renew_63 rfl ?_
      refine J_iload_n o dX10_renew_64 rfl ?_
      obtain ⟨v8, e7, hf⟩ := bnd_some hf
      refine J_vR o g kr dX10_renew_65 lkX10_271 ml_Dm_modelOf vl_Dm_modelOf ⟨rfl, rfl, Nat.le_of_ble_eq_true rfl, Nat.le_of_ble_eq_true rfl⟩ (c_Dm_modelOf g.2.1 r_x3 e7) kA_1 rfl ⟨by decide, by decide⟩ rfl rfl c1s_0 ?_
      refine J_astore o dX10_renew_68 (Nat.le_of_ble_eq_true rfl) ?_
      refine J_aload_n o dX10_renew_70 rfl ?_
      refine J_getF (true, 108) o g dX10_renew_71 flX10_64 kA_1 rfl rfl rfl ?_
      refine J_iload_n o dX10_renew_74 rfl ?_
      refine J_aload_n o dX10_renew_75 rfl ?_
      refine J_iload_n o dX10_renew_76 rfl ?_
      obtain ⟨v11, e10, hf⟩ := bnd_some hf
      refine J_vR o g kr dX10_renew_77 lkX10_375 ml_Dm_spareOf vl_Dm_spareOf ⟨rfl, rfl, Nat.le_of_ble_eq_true rfl, Nat.le_of_ble_eq_true rfl⟩ (c_Dm_spareOf g.2.1 r_x3 e10) kA_1 rfl ⟨by decide, by decide⟩ rfl rfl (c1s_i (c1s_r c1s_0 (Nat.le_of_ble_eq_true rfl)) (Nat.le_of_ble_eq_true rfl)) ?_
      obtain ⟨g13, hf⟩ := gd_some hf
      obtain ⟨g14, hf⟩ := gd_some hf
      refine J_aast1 o g dX10_renew_80 kA_108 (fxA_43 _) r_x3 zA_108 g13 g14 rfl ⟨by decide, by decide⟩ (lt_A g14 (by decide)) ?_
      have hf := bl_out hf
      refine J_aload_n o dX10_renew_81 rfl ?_
      refine J_getF (true, 109) o g dX10_renew_82 flX10_68 kA_1 rfl rfl rfl ?_
      refine J_iload_n o dX10_renew_85 rfl ?_
      refine J_aload o dX10_renew_86 rfl ?_
      obtain ⟨g16, hf⟩ := gd_some hf
      obtain ⟨g17, hf⟩ := gd_some hf
      refine J_aast1 o g dX10_renew_88 kA_109 (fxA_43 _) r_x3 zA_109 g16 g17 rfl ⟨by decide, by decide⟩ (lt_A g17 (by decide)) ?_
      have hf := bl_out hf
      have hf := bl_out hf
      refine J_iinc o dX10_renew_89 rfl ?_
      refine J_goto 53 o dX10_renew_92 (by decide) ?_
      have hf := some_inj hf
      subst hf
      exact hc (R_wr _) _ _
noncomputable def f_Dm_renew_53 (w : World) (x2 : Int) (x3 : Int) : Option (World × Int) :=
  lp (fun z : (World × Int) => f_Dm_renew_53B z.1 x2 z.2) (w, x3)
theorem t_Dm_renew_53 {E : EE} {K : KT} {l : Launch} {H0 : Heap} (k : Kof TA E K l cX10_renew RX10 rm_Dm_renew) {w : World} {x2 : Int} {x3 : Int} (r_x2 : R32 x2) {out : (World × Int)} (hf : f_Dm_renew_53 w x2 x3 = some out) (hc : (fun out : (World × Int) => RetZ TA E K H0 cX10_renew out.1 out.2) out) : HW_Dm_renew_53 E K H0 x2 (w, x3) := by
  unfold f_Dm_renew_53 at hf
  refine lp_ind (P := HW_Dm_renew_53 E K H0 x2) hf ?_
  intro z o hs h1 h2
  intro r_x3
  intro o1 o4
  refine t_Dm_renew_53B k r_x2 r_x3 hs ?_
  cases o with
  | inl z' => exact h1 z' rfl
  | inr r' => rw [h2 r' rfl]; exact hc
noncomputable def f_Dm_renew_47 (w : World) (x1 : Int) (x2 : Int) : Option (World × Int) :=
  bl (imax x1 0) fun n1 => f_Dm_renew_53 w x2 n1
theorem t_Dm_renew_47 {E : EE} {K : KT} {l : Launch} {H0 : Heap} (k : Kof TA E K l cX10_renew RX10 rm_Dm_renew) {w : World} {x1 : Int} {x2 : Int} {o3 o4 : Option Value} (r_x1 : R32 x1) (r_x2 : R32 x2) {out : (World × Int)} (hf : f_Dm_renew_47 w x1 x2 = some out) (hc : (fun out : (World × Int) => RetZ TA E K H0 cX10_renew out.1 out.2) out) : Jj K (WdT TA E H0) w 47 [some (rf E.ad 1), some (.int (ii x1)), some (.int (ii x2)), o3, o4] [] := by
  unfold f_Dm_renew_47 at hf
  have o := k.1
  have g := k.2.1
  have kr := k.2.2.1
  refine J_iload_n o dX10_renew_47 rfl ?_
  refine J_iconst o dX10_renew_48 ?_
  refine J_mmax o kr dX10_renew_49 mw804 mw693 mw129 mw694 ⟨by decide, by decide⟩ r_x1 rl0 c1s_0 ?_
  refine J_istore_n o dX10_renew_52 (Nat.le_of_ble_eq_true rfl) ?_
  have hf := bl_out hf
  exact (t_Dm_renew_53 k r_x2 hf hc) (R_imax r_x1 rl0) _ _
noncomputable def f_Dm_renew_2B (w : World) (x1 : Int) (x2 : Int) (x3 : Int) : Option ((World × Int) ⊕ (World × Int)) :=
  if x2 < x3 then (bnd (f_Dm_renew_47 w x1 x2) fun y3 => some (Sum.inr y3)) else (if 4 ≤ x3 then (bnd (f_Dm_renew_47 w x1 x2) fun y6 => some (Sum.inr y6)) else (bnd (f_Dm_spareOf w x3) fun v8 => gd (kdA v8 = 6) (bnd (f_Mi_build w v8 x3 0 0) fun v12 => if (v12 v8 2) = 0 then (bl (wr (x3 + 1)) fun n17 => some (Sum.inl (v12, n17))) else (some (Sum.inr (v12, 0))))))
theorem t_Dm_renew_2B {E : EE} {K : KT} {l : Launch} {H0 : Heap} (k : Kof TA E K l cX10_renew RX10 rm_Dm_renew) {w : World} {x1 : Int} {x2 : Int} {x3 : Int} {o4 : Option Value} (r_x1 : R32 x1) (r_x2 : R32 x2) (r_x3 : R32 x3) {out : ((World × Int) ⊕ (World × Int))} (hf : f_Dm_renew_2B w x1 x2 x3 = some out) (hc : (Sum.elim (HW_Dm_renew_2 E K H0 x1 x2) (fun out : (World × Int) => RetZ TA E K H0 cX10_renew out.1 out.2)) out) : Jj K (WdT TA E H0) w 2 [some (rf E.ad 1), some (.int (ii x1)), some (.int (ii x2)), some (.int (ii x3)), o4] [] := by
  unfold f_Dm_renew_2B at hf
  have o := k.1
  have g := k.2.1
  have kr := k.2.2.1
  refine J_iload_n o dX10_renew_2 rfl ?_
  refine J_iload_n o dX10_renew_3 rfl ?_
  refine J_icmp_gt 47 o dX10_renew_4 (by decide) r_x3 r_x2 (fun c1 => ?_) (fun c2 => ?_)
  · have hf := ite_t c1 hf
    obtain ⟨y3, hf1, hf⟩ := bnd_some hf
    have hf := some_inj hf
    subst hf
    exact t_Dm_renew_47 k r_x1 r_x2 hf1 hc
  · have hf := ite_f c2 hf
    refine J_iload_n o dX10_renew_7 rfl ?_
    refine J_iconst o dX10_renew_8 ?_
    refine J_icmp_ge 47 o dX10_renew_9 (by decide) r_x3 rl4 (fun c4 => ?_) (fun c5 => ?_)
    · have hf := ite_t c4 hf
      obtain ⟨y6, hf1, hf⟩ := bnd_some hf
      have hf := some_inj hf
      subst hf
      exact t_Dm_renew_47 k r_x1 r_x2 hf1 hc
    · have hf := ite_f c5 hf
      refine J_aload_n o dX10_renew_12 rfl ?_
      refine J_iload_n o dX10_renew_13 rfl ?_
      obtain ⟨v8, e7, hf⟩ := bnd_some hf
      refine J_vR o g kr dX10_renew_14 lkX10_375 ml_Dm_spareOf vl_Dm_spareOf ⟨rfl, rfl, Nat.le_of_ble_eq_true rfl, Nat.le_of_ble_eq_true rfl⟩ (c_Dm_spareOf g.2.1 r_x3 e7) kA_1 rfl ⟨by decide, by decide⟩ rfl rfl c1s_0 ?_
      refine J_astore o dX10_renew_17 (Nat.le_of_ble_eq_true rfl) ?_
      refine J_aload_n o dX10_renew_19 rfl ?_
      refine J_getF (true, 107) o g dX10_renew_20 flX10_60 kA_1 rfl rfl rfl ?_
      refine J_aload o dX10_renew_23 rfl ?_
      refine J_iload_n o dX10_renew_25 rfl ?_
      refine J_iconst o dX10_renew_26 ?_
      refine J_iconst o dX10_renew_27 ?_
      obtain ⟨g10, hf⟩ := gd_some hf
      obtain ⟨v12, e11, hf⟩ := bnd_some hf
      refine J_vV o g kr dX10_renew_28 lkX10_275 ml_Mi_build vl_Mi_build ⟨rfl, rfl, Nat.le_of_ble_eq_true rfl, Nat.le_of_ble_eq_true rfl⟩ (c_Mi_build g.2.1 g10 r_x3 rl0 rl0 e11) kA_107 rfl ⟨by decide, by decide⟩ rfl rfl c1s_0 ?_
      refine J_aload o dX10_renew_31 rfl ?_
      refine J_getI o g dX10_renew_33 flX10_312 g10 rfl (fun q14 => ?_)
      refine J_if_eq 41 o dX10_renew_36 (by decide) q14 (fun c15 => ?_) (fun c16 => ?_)
      · have hf := ite_t c15 hf
        have hf := bl_out hf
        refine J_iinc o dX10_renew_41 rfl ?_
        refine J_goto 2 o dX10_renew_44 (by decide) ?_
        have hf := some_inj hf
        subst hf
        exact hc (R_wr _) _
      · have hf := ite_f c16 hf
        refine J_iconst o dX10_renew_39 ?_
        have hf := some_inj hf
        subst hf
        exact hc _ _ (Or.inl rfl) dX10_renew_40
noncomputable def f_Dm_renew_2 (w : World) (x1 : Int) (x2 : Int) (x3 : Int) : Option (World × Int) :=
  lp (fun z : (World × Int) => f_Dm_renew_2B z.1 x1 x2 z.2) (w, x3)
theorem t_Dm_renew_2 {E : EE} {K : KT} {l : Launch} {H0 : Heap} (k : Kof TA E K l cX10_renew RX10 rm_Dm_renew) {w : World} {x1 : Int} {x2 : Int} {x3 : Int} (r_x1 : R32 x1) (r_x2 : R32 x2) {out : (World × Int)} (hf : f_Dm_renew_2 w x1 x2 x3 = some out) (hc : (fun out : (World × Int) => RetZ TA E K H0 cX10_renew out.1 out.2) out) : HW_Dm_renew_2 E K H0 x1 x2 (w, x3) := by
  unfold f_Dm_renew_2 at hf
  refine lp_ind (P := HW_Dm_renew_2 E K H0 x1 x2) hf ?_
  intro z o hs h1 h2
  intro r_x3
  intro o4
  refine t_Dm_renew_2B k r_x1 r_x2 r_x3 hs ?_
  cases o with
  | inl z' => exact h1 z' rfl
  | inr r' => rw [h2 r' rfl]; exact hc
noncomputable def f_Dm_renew (w : World) (x1 : Int) (x2 : Int) : Option (World × Int) :=
  f_Dm_renew_2 w x1 x2 x1
theorem t_Dm_renew_0 {E : EE} {K : KT} {l : Launch} {H0 : Heap} (k : Kof TA E K l cX10_renew RX10 rm_Dm_renew) {w : World} {x1 : Int} {x2 : Int} {o3 o4 : Option Value} (r_x1 : R32 x1) (r_x2 : R32 x2) {out : (World × Int)} (hf : f_Dm_renew w x1 x2 = some out) (hc : (fun out : (World × Int) => RetZ TA E K H0 cX10_renew out.1 out.2) out) : Jj K (WdT TA E H0) w 0 [some (rf E.ad 1), some (.int (ii x1)), some (.int (ii x2)), o3, o4] [] := by
  unfold f_Dm_renew at hf
  have o := k.1
  have g := k.2.1
  have kr := k.2.2.1
  refine J_iload_n o dX10_renew_0 rfl ?_
  refine J_istore_n o dX10_renew_1 (Nat.le_of_ble_eq_true rfl) ?_
  exact (t_Dm_renew_2 k r_x1 r_x2 hf hc) r_x1 _
theorem c_Dm_renew {E : EE} {l : Launch} (hI : Inj TA E) {w : World} {x1 : Int} {x2 : Int} (r_x1 : R32 x1) (r_x2 : R32 x2) {out : (World × Int)} (hf : f_Dm_renew w x1 x2 = some out) : ConI TA E l yX10_renew (WS yX10_renew cX10_renew 5 (some .boolean)) rm_Dm_renew [rf E.ad 1, .int (ii x1), .int (ii x2)] w out.1 out.2 :=
  con_Z (by decide +kernel) rfl (Nat.le_of_ble_eq_true rfl) (c1s_r (c1s_i (c1s_i c1s_0 (Nat.le_of_ble_eq_true rfl)) (Nat.le_of_ble_eq_true rfl)) (Nat.le_of_ble_eq_true rfl)).1 ⟨rfl, rfl⟩ hI TnA (fun K H0 k hret => t_Dm_renew_0 k r_x1 r_x2 hf hret)
abbrev rm_Dm_waysByFacts : Room := { frames := 3, cells := 0, slots := 0, locals := 71 }
def HW_Dm_waysByFacts_16 (E : EE) (K : KT) (H0 : Heap) (w : World) (x1 : Int) (x3 : Int) : (Int × Int) → Prop := fun z => R32 z.1 → R32 z.2 → ∀ o2 : Option Value, Jj K (WdT TA E H0) w 16 [some (rf E.ad 1), some (.int (ii x1)), o2, some (.int (ii x3)), some (.int (ii z.1)), some (.int (ii z.2))] []
noncomputable def f_Dm_waysByFacts_81 (w : World) (x1 : Int) (x3 : Int) (x4 : Int) (x5 : Int) : Option ((Int × Int) ⊕ Int) :=
  bl (wr (x5 + 1)) fun n1 => some (Sum.inl (x4, n1))
theorem t_Dm_waysByFacts_81 {E : EE} {K : KT} {l : Launch} {H0 : Heap} (k : Kof TA E K l cX10_waysByFacts RX10 rm_Dm_waysByFacts) {w : World} {x1 : Int} {x3 : Int} {x4 : Int} {x5 : Int} {o2 : Option Value} (r_x1 : R32 x1) (r_x3 : R32 x3) (r_x4 : R32 x4) (r_x5 : R32 x5) {out : ((Int × Int) ⊕ Int)} (hf : f_Dm_waysByFacts_81 w x1 x3 x4 x5 = some out) (hc : (Sum.elim (HW_Dm_waysByFacts_16 E K H0 w x1 x3) (fun out : Int => RetI TA E K H0 cX10_waysByFacts w out)) out) : Jj K (WdT TA E H0) w 81 [some (rf E.ad 1), some (.int (ii x1)), o2, some (.int (ii x3)), some (.int (ii x4)), some (.int (ii x5))] [] := by
  unfold f_Dm_waysByFacts_81 at hf
  have o := k.1
  have g := k.2.1
  have kr := k.2.2.1
  have hf := bl_out hf
  refine J_iinc o dX10_waysByFacts_81 rfl ?_
  refine J_goto 16 o dX10_waysByFacts_84 (by decide) ?_
  have hf := some_inj hf
  subst hf
  exact hc r_x4 (R_wr _) _
noncomputable def f_Dm_waysByFacts_16B (w : World) (x1 : Int) (x3 : Int) (x4 : Int) (x5 : Int) : Option ((Int × Int) ⊕ Int) :=
  if (w 7 0) ≤ x5 then (some (Sum.inr x4)) else (bnd (f_Fa_holdsIn w x5 (w 1 12)) fun v6 => if v6 = 0 then (f_Dm_waysByFacts_81 w x1 x3 x4 x5) else (bnd (f_Fa_relationOf w x5) fun v11 => if v11 = x1 then (bnd (f_Dm_present w ) fun v16 => bnd (f_Fa_codeOf w x5) fun v19 => gd (kdA v16 = 6) (bnd (f_Mo_slotLike w v16 x1 v19) fun v23 => if v23 = x3 then (bl (wr (x4 + 1)) fun n27 => f_Dm_waysByFacts_81 w x1 x3 n27 x5) else (f_Dm_waysByFacts_81 w x1 x3 x4 x5))) else (f_Dm_waysByFacts_81 w x1 x3 x4 x5)))
theorem t_Dm_waysByFacts_16B {E : EE} {K : KT} {l : Launch} {H0 : Heap} (k : Kof TA E K l cX10_waysByFacts RX10 rm_Dm_waysByFacts) {w : World} {x1 : Int} {x3 : Int} {x4 : Int} {x5 : Int} {o2 : Option Value} (r_x1 : R32 x1) (r_x3 : R32 x3) (r_x4 : R32 x4) (r_x5 : R32 x5) {out : ((Int × Int) ⊕ Int)} (hf : f_Dm_waysByFacts_16B w x1 x3 x4 x5 = some out) (hc : (Sum.elim (HW_Dm_waysByFacts_16 E K H0 w x1 x3) (fun out : Int => RetI TA E K H0 cX10_waysByFacts w out)) out) : Jj K (WdT TA E H0) w 16 [some (rf E.ad 1), some (.int (ii x1)), o2, some (.int (ii x3)), some (.int (ii x4)), some (.int (ii x5))] [] := by
  unfold f_Dm_waysByFacts_16B at hf
  have o := k.1
  have g := k.2.1
  have kr := k.2.2.1
  refine J_iload o dX10_waysByFacts_16 rfl ?_
  refine J_aload_n o dX10_waysByFacts_18 rfl ?_
  refine J_getF (true, 7) o g dX10_waysByFacts_19 flX10_35 kA_1 rfl rfl rfl ?_
  refine J_getI o g dX10_waysByFacts_22 flX10_129 kA_7 rfl (fun q1 => ?_)
  refine J_icmp_ge 87 o dX10_waysByFacts_25 (by decide) r_x5 q1 (fun c2 => ?_) (fun c3 => ?_)
  · have hf := ite_t c2 hf
    refine J_iload o dX10_waysByFacts_87 rfl ?_
    have hf := some_inj hf
    subst hf
    exact hc _ _ r_x4 dX10_waysByFacts_89
  · have hf := ite_f c3 hf
    refine J_aload_n o dX10_waysByFacts_28 rfl ?_
    refine J_getF (true, 7) o g dX10_waysByFacts_29 flX10_35 kA_1 rfl rfl rfl ?_
    refine J_iload o dX10_waysByFacts_32 rfl ?_
    refine J_aload_n o dX10_waysByFacts_34 rfl ?_
    refine J_getI o g dX10_waysByFacts_35 flX10_173 kA_1 rfl (fun q4 => ?_)
    obtain ⟨v6, e5, hf⟩ := bnd_some hf
    refine J_vI o g kr dX10_waysByFacts_38 lkX10_309 ml_Fa_holdsIn vl_Fa_holdsIn ⟨rfl, rfl, Nat.le_of_ble_eq_true rfl, Nat.le_of_ble_eq_true rfl⟩ (c_Fa_holdsIn g.2.1 r_x5 q4 e5) kA_7 rfl ⟨by decide, by decide⟩ rfl rfl c1s_0 (fun q7 => ?_)
    refine J_if_eq 81 o dX10_waysByFacts_41 (by decide) q7 (fun c8 => ?_) (fun c9 => ?_)
    · have hf := ite_t c8 hf
      exact t_Dm_waysByFacts_81 k r_x1 r_x3 r_x4 r_x5 hf hc
    · have hf := ite_f c9 hf
      refine J_aload_n o dX10_waysByFacts_44 rfl ?_
      refine J_getF (true, 7) o g dX10_waysByFacts_45 flX10_35 kA_1 rfl rfl rfl ?_
      refine J_iload o dX10_waysByFacts_48 rfl ?_
      obtain ⟨v11, e10, hf⟩ := bnd_some hf
      refine J_vI o g kr dX10_waysByFacts_50 lkX10_383 ml_Fa_relationOf vl_Fa_relationOf ⟨rfl, rfl, Nat.le_of_ble_eq_true rfl, Nat.le_of_ble_eq_true rfl⟩ (c_Fa_relationOf g.2.1 r_x5 e10) kA_7 rfl ⟨by decide, by decide⟩ rfl rfl c1s_0 (fun q12 => ?_)
      refine J_iload_n o dX10_waysByFacts_53 rfl ?_
      refine J_icmp_ne 81 o dX10_waysByFacts_54 (by decide) q12 r_x1 (fun c13 => ?_) (fun c14 => ?_)
      · have hf := ite_f c13 hf
        exact t_Dm_waysByFacts_81 k r_x1 r_x3 r_x4 r_x5 hf hc
      · have hf := ite_t c14 hf
        refine J_aload_n o dX10_waysByFacts_57 rfl ?_
        obtain ⟨v16, e15, hf⟩ := bnd_some hf
        refine J_vR o g kr dX10_waysByFacts_58 lkX10_261 ml_Dm_present vl_Dm_present ⟨rfl, rfl, Nat.le_of_ble_eq_true rfl, Nat.le_of_ble_eq_true rfl⟩ (c_Dm_present g.2.1  e15) kA_1 rfl ⟨by decide, by decide⟩ rfl rfl c1s_0 ?_
        refine J_iload_n o dX10_waysByFacts_61 rfl ?_
        refine J_aload_n o dX10_waysByFacts_62 rfl ?_
        refine J_getF (true, 7) o g dX10_waysByFacts_63 flX10_35 kA_1 rfl rfl rfl ?_
        refine J_iload o dX10_waysByFacts_66 rfl ?_
        obtain ⟨v19, e18, hf⟩ := bnd_some hf
        refine J_vI o g kr dX10_waysByFacts_68 lkX10_386 ml_Fa_codeOf vl_Fa_codeOf ⟨rfl, rfl, Nat.le_of_ble_eq_true rfl, Nat.le_of_ble_eq_true rfl⟩ (c_Fa_codeOf g.2.1 r_x5 e18) kA_7 rfl ⟨by decide, by decide⟩ rfl rfl (c1s_i (c1s_r c1s_0 (Nat.le_of_ble_eq_true rfl)) (Nat.le_of_ble_eq_true rfl)) (fun q20 => ?_)
        obtain ⟨g21, hf⟩ := gd_some hf
        obtain ⟨v23, e22, hf⟩ := bnd_some hf
        refine J_vI o g kr dX10_waysByFacts_71 lkX10_303 ml_Mo_slotLike vl_Mo_slotLike ⟨rfl, rfl, Nat.le_of_ble_eq_true rfl, Nat.le_of_ble_eq_true rfl⟩ (c_Mo_slotLike g.2.1 g21 r_x1 q20 e22) g21 rfl ⟨by decide, by decide⟩ rfl rfl c1s_0 (fun q24 => ?_)
        refine J_iload_n o dX10_waysByFacts_74 rfl ?_
        refine J_icmp_ne 81 o dX10_waysByFacts_75 (by decide) q24 r_x3 (fun c25 => ?_) (fun c26 => ?_)
        · have hf := ite_f c25 hf
          exact t_Dm_waysByFacts_81 k r_x1 r_x3 r_x4 r_x5 hf hc
        · have hf := ite_t c26 hf
          have hf := bl_out hf
          refine J_iinc o dX10_waysByFacts_78 rfl ?_
          exact t_Dm_waysByFacts_81 k r_x1 r_x3 (R_wr _) r_x5 hf hc
noncomputable def f_Dm_waysByFacts_16 (w : World) (x1 : Int) (x3 : Int) (x4 : Int) (x5 : Int) : Option Int :=
  lp (fun z : (Int × Int) => f_Dm_waysByFacts_16B w x1 x3 z.1 z.2) (x4, x5)
theorem t_Dm_waysByFacts_16 {E : EE} {K : KT} {l : Launch} {H0 : Heap} (k : Kof TA E K l cX10_waysByFacts RX10 rm_Dm_waysByFacts) {w : World} {x1 : Int} {x3 : Int} {x4 : Int} {x5 : Int} (r_x1 : R32 x1) (r_x3 : R32 x3) {out : Int} (hf : f_Dm_waysByFacts_16 w x1 x3 x4 x5 = some out) (hc : (fun out : Int => RetI TA E K H0 cX10_waysByFacts w out) out) : HW_Dm_waysByFacts_16 E K H0 w x1 x3 (x4, x5) := by
  unfold f_Dm_waysByFacts_16 at hf
  refine lp_ind (P := HW_Dm_waysByFacts_16 E K H0 w x1 x3) hf ?_
  intro z o hs h1 h2
  intro r_x4 r_x5
  intro o2
  refine t_Dm_waysByFacts_16B k r_x1 r_x3 r_x4 r_x5 hs ?_
  cases o with
  | inl z' => exact h1 z' rfl
  | inr r' => rw [h2 r' rfl]; exact hc
noncomputable def f_Dm_waysByFacts (w : World) (x1 : Int) (x2 : Int) : Option Int :=
  bnd (f_Dm_present w ) fun v2 => gd (kdA v2 = 6) (bnd (f_Mo_slotLike w v2 x1 x2) fun v6 => f_Dm_waysByFacts_16 w x1 v6 0 0)
theorem t_Dm_waysByFacts_0 {E : EE} {K : KT} {l : Launch} {H0 : Heap} (k : Kof TA E K l cX10_waysByFacts RX10 rm_Dm_waysByFacts) {w : World} {x1 : Int} {x2 : Int} {o3 o4 o5 : Option Value} (r_x1 : R32 x1) (r_x2 : R32 x2) {out : Int} (hf : f_Dm_waysByFacts w x1 x2 = some out) (hc : (fun out : Int => RetI TA E K H0 cX10_waysByFacts w out) out) : Jj K (WdT TA E H0) w 0 [some (rf E.ad 1), some (.int (ii x1)), some (.int (ii x2)), o3, o4, o5] [] := by
  unfold f_Dm_waysByFacts at hf
  have o := k.1
  have g := k.2.1
  have kr := k.2.2.1
  refine J_aload_n o dX10_waysByFacts_0 rfl ?_
  obtain ⟨v2, e1, hf⟩ := bnd_some hf
  refine J_vR o g kr dX10_waysByFacts_1 lkX10_261 ml_Dm_present vl_Dm_present ⟨rfl, rfl, Nat.le_of_ble_eq_true rfl, Nat.le_of_ble_eq_true rfl⟩ (c_Dm_present g.2.1  e1) kA_1 rfl ⟨by decide, by decide⟩ rfl rfl c1s_0 ?_
  refine J_iload_n o dX10_waysByFacts_4 rfl ?_
  refine J_iload_n o dX10_waysByFacts_5 rfl ?_
  obtain ⟨g4, hf⟩ := gd_some hf
  obtain ⟨v6, e5, hf⟩ := bnd_some hf
  refine J_vI o g kr dX10_waysByFacts_6 lkX10_303 ml_Mo_slotLike vl_Mo_slotLike ⟨rfl, rfl, Nat.le_of_ble_eq_true rfl, Nat.le_of_ble_eq_true rfl⟩ (c_Mo_slotLike g.2.1 g4 r_x1 r_x2 e5) g4 rfl ⟨by decide, by decide⟩ rfl rfl c1s_0 (fun q7 => ?_)
  refine J_istore_n o dX10_waysByFacts_9 (Nat.le_of_ble_eq_true rfl) ?_
  refine J_iconst o dX10_waysByFacts_10 ?_
  refine J_istore o dX10_waysByFacts_11 (Nat.le_of_ble_eq_true rfl) ?_
  refine J_iconst o dX10_waysByFacts_13 ?_
  refine J_istore o dX10_waysByFacts_14 (Nat.le_of_ble_eq_true rfl) ?_
  exact (t_Dm_waysByFacts_16 k r_x1 q7 hf hc) rl0 rl0 _
theorem c_Dm_waysByFacts {E : EE} {l : Launch} (hI : Inj TA E) {w : World} {x1 : Int} {x2 : Int} (r_x1 : R32 x1) (r_x2 : R32 x2) {out : Int} (hf : f_Dm_waysByFacts w x1 x2 = some out) : ConI TA E l yX10_waysByFacts (WS yX10_waysByFacts cX10_waysByFacts 6 (some .int)) rm_Dm_waysByFacts [rf E.ad 1, .int (ii x1), .int (ii x2)] w w out :=
  con_I (by decide +kernel) rfl (Nat.le_of_ble_eq_true rfl) (c1s_r (c1s_i (c1s_i c1s_0 (Nat.le_of_ble_eq_true rfl)) (Nat.le_of_ble_eq_true rfl)) (Nat.le_of_ble_eq_true rfl)).1 ⟨rfl, rfl⟩ hI TnA (fun K H0 k hret => t_Dm_waysByFacts_0 k r_x1 r_x2 hf hret)
abbrev rm_Sc_tellingColumns : Room := { frames := 2, cells := 0, slots := 0, locals := 45 }
noncomputable def f_Sc_tellingColumns (w : World) (x1 : Int) : Option Int :=
  bnd (f_Sc_kindOf w x1) fun v2 => if v2 = 0 then (bnd (f_Sc_columnsOf w x1) fun v10 => some v10) else (bnd (f_Sc_keyOf w x1) fun v7 => some v7)
theorem t_Sc_tellingColumns_0 {E : EE} {K : KT} {l : Launch} {H0 : Heap} (k : Kof TA E K l cX8_tellingColumns RX8 rm_Sc_tellingColumns) {w : World} {x1 : Int} (r_x1 : R32 x1) {out : Int} (hf : f_Sc_tellingColumns w x1 = some out) (hc : (fun out : Int => RetI TA E K H0 cX8_tellingColumns w out) out) : Jj K (WdT TA E H0) w 0 [some (rf E.ad 2), some (.int (ii x1))] [] := by
  unfold f_Sc_tellingColumns at hf
  have o := k.1
  have g := k.2.1
  have kr := k.2.2.1
  refine J_aload_n o dX8_tellingColumns_0 rfl ?_
  refine J_iload_n o dX8_tellingColumns_1 rfl ?_
  obtain ⟨v2, e1, hf⟩ := bnd_some hf
  refine J_vI o g kr dX8_tellingColumns_2 lkX8_31 ml_Sc_kindOf vl_Sc_kindOf ⟨rfl, rfl, Nat.le_of_ble_eq_true rfl, Nat.le_of_ble_eq_true rfl⟩ (c_Sc_kindOf g.2.1 r_x1 e1) kA_2 rfl ⟨by decide, by decide⟩ rfl rfl c1s_0 (fun q3 => ?_)
  refine J_if_ne 16 o dX8_tellingColumns_5 (by decide) q3 (fun c4 => ?_) (fun c5 => ?_)
  · have hf := ite_f c4 hf
    refine J_aload_n o dX8_tellingColumns_16 rfl ?_
    refine J_iload_n o dX8_tellingColumns_17 rfl ?_
    obtain ⟨v7, e6, hf⟩ := bnd_some hf
    refine J_vI o g kr dX8_tellingColumns_18 lkX8_34 ml_Sc_keyOf vl_Sc_keyOf ⟨rfl, rfl, Nat.le_of_ble_eq_true rfl, Nat.le_of_ble_eq_true rfl⟩ (c_Sc_keyOf g.2.1 r_x1 e6) kA_2 rfl ⟨by decide, by decide⟩ rfl rfl c1s_0 (fun q8 => ?_)
    have hf := some_inj hf
    subst hf
    exact hc _ _ q8 dX8_tellingColumns_21
  · have hf := ite_t c5 hf
    refine J_aload_n o dX8_tellingColumns_8 rfl ?_
    refine J_iload_n o dX8_tellingColumns_9 rfl ?_
    obtain ⟨v10, e9, hf⟩ := bnd_some hf
    refine J_vI o g kr dX8_tellingColumns_10 lkX8_28 ml_Sc_columnsOf vl_Sc_columnsOf ⟨rfl, rfl, Nat.le_of_ble_eq_true rfl, Nat.le_of_ble_eq_true rfl⟩ (c_Sc_columnsOf g.2.1 r_x1 e9) kA_2 rfl ⟨by decide, by decide⟩ rfl rfl c1s_0 (fun q11 => ?_)
    refine J_goto 21 o dX8_tellingColumns_13 (by decide) ?_
    have hf := some_inj hf
    subst hf
    exact hc _ _ q11 dX8_tellingColumns_21
theorem c_Sc_tellingColumns {E : EE} {l : Launch} (hI : Inj TA E) {w : World} {x1 : Int} (r_x1 : R32 x1) {out : Int} (hf : f_Sc_tellingColumns w x1 = some out) : ConI TA E l yX8_tellingColumns (WS yX8_tellingColumns cX8_tellingColumns 2 (some .int)) rm_Sc_tellingColumns [rf E.ad 2, .int (ii x1)] w w out :=
  con_I (by decide +kernel) rfl (Nat.le_of_ble_eq_true rfl) (c1s_r (c1s_i c1s_0 (Nat.le_of_ble_eq_true rfl)) (Nat.le_of_ble_eq_true rfl)).1 ⟨rfl, rfl⟩ hI TnA (fun K H0 k hret => t_Sc_tellingColumns_0 k r_x1 hf hret)
abbrev rm_Sc_tellingSet : Room := { frames := 3, cells := 0, slots := 0, locals := 66 }
noncomputable def f_Sc_tellingSet (w : World) (x1 : Int) : Option Int :=
  bnd (f_Sc_tellingColumns w x1) fun v2 => some (wr ((ishl 1 v2) - 1))
theorem t_Sc_tellingSet_0 {E : EE} {K : KT} {l : Launch} {H0 : Heap} (k : Kof TA E K l cX8_tellingSet RX8 rm_Sc_tellingSet) {w : World} {x1 : Int} (r_x1 : R32 x1) {out : Int} (hf : f_Sc_tellingSet w x1 = some out) (hc : (fun out : Int => RetI TA E K H0 cX8_tellingSet w out) out) : Jj K (WdT TA E H0) w 0 [some (rf E.ad 2), some (.int (ii x1))] [] := by
  unfold f_Sc_tellingSet at hf
  have o := k.1
  have g := k.2.1
  have kr := k.2.2.1
  refine J_iconst o dX8_tellingSet_0 ?_
  refine J_aload_n o dX8_tellingSet_1 rfl ?_
  refine J_iload_n o dX8_tellingSet_2 rfl ?_
  obtain ⟨v2, e1, hf⟩ := bnd_some hf
  refine J_vI o g kr dX8_tellingSet_3 lkX8_37 ml_Sc_tellingColumns vl_Sc_tellingColumns ⟨rfl, rfl, Nat.le_of_ble_eq_true rfl, Nat.le_of_ble_eq_true rfl⟩ (c_Sc_tellingColumns g.2.1 r_x1 e1) kA_2 rfl ⟨by decide, by decide⟩ rfl rfl (c1s_i c1s_0 (Nat.le_of_ble_eq_true rfl)) (fun q3 => ?_)
  refine J_ishl o dX8_tellingSet_6 ?_
  refine J_iconst o dX8_tellingSet_7 ?_
  refine J_isub o dX8_tellingSet_8 ?_
  have hf := some_inj hf
  subst hf
  exact hc _ _ (R_wr _) dX8_tellingSet_9
theorem c_Sc_tellingSet {E : EE} {l : Launch} (hI : Inj TA E) {w : World} {x1 : Int} (r_x1 : R32 x1) {out : Int} (hf : f_Sc_tellingSet w x1 = some out) : ConI TA E l yX8_tellingSet (WS yX8_tellingSet cX8_tellingSet 2 (some .int)) rm_Sc_tellingSet [rf E.ad 2, .int (ii x1)] w w out :=
  con_I (by decide +kernel) rfl (Nat.le_of_ble_eq_true rfl) (c1s_r (c1s_i c1s_0 (Nat.le_of_ble_eq_true rfl)) (Nat.le_of_ble_eq_true rfl)).1 ⟨rfl, rfl⟩ hI TnA (fun K H0 k hret => t_Sc_tellingSet_0 k r_x1 hf hret)
abbrev rm_Wa_pose : Room := { frames := 2, cells := 0, slots := 0, locals := 47 }
def HW_Wa_pose_5 (E : EE) (K : KT) (H0 : Heap) (x1 : Int) (x2 : Int) : (World × Int × Int) → Prop := fun z => R32 z.2.1 → R32 z.2.2 → ∀ o5 : Option Value, Jj K (WdT TA E H0) z.1 5 [some (rf E.ad 103), some (.int (ii x1)), some (.int (ii x2)), some (.int (ii z.2.1)), some (.int (ii z.2.2)), o5] []
noncomputable def f_Wa_pose_69 (w : World) (x1 : Int) (x2 : Int) (x3 : Int) (x4 : Int) : Option ((World × Int × Int) ⊕ (World × Int)) :=
  bl (wr (x4 + 1)) fun n1 => some (Sum.inl (w, x3, n1))
theorem t_Wa_pose_69 {E : EE} {K : KT} {l : Launch} {H0 : Heap} (k : Kof TA E K l cX9_pose RX9 rm_Wa_pose) {w : World} {x1 : Int} {x2 : Int} {x3 : Int} {x4 : Int} {o5 : Option Value} (r_x1 : R32 x1) (r_x2 : R32 x2) (r_x3 : R32 x3) (r_x4 : R32 x4) {out : ((World × Int × Int) ⊕ (World × Int))} (hf : f_Wa_pose_69 w x1 x2 x3 x4 = some out) (hc : (Sum.elim (HW_Wa_pose_5 E K H0 x1 x2) (fun out : (World × Int) => RetZ TA E K H0 cX9_pose out.1 out.2)) out) : Jj K (WdT TA E H0) w 69 [some (rf E.ad 103), some (.int (ii x1)), some (.int (ii x2)), some (.int (ii x3)), some (.int (ii x4)), o5] [] := by
  unfold f_Wa_pose_69 at hf
  have o := k.1
  have g := k.2.1
  have kr := k.2.2.1
  have hf := bl_out hf
  refine J_iinc o dX9_pose_69 rfl ?_
  refine J_goto 5 o dX9_pose_72 (by decide) ?_
  have hf := some_inj hf
  subst hf
  exact hc r_x3 (R_wr _) _
noncomputable def f_Wa_pose_68 (w : World) (x1 : Int) (x2 : Int) (x4 : Int) (s0 : Int) : Option ((World × Int × Int) ⊕ (World × Int)) :=
  f_Wa_pose_69 w x1 x2 s0 x4
theorem t_Wa_pose_68 {E : EE} {K : KT} {l : Launch} {H0 : Heap} (k : Kof TA E K l cX9_pose RX9 rm_Wa_pose) {w : World} {x1 : Int} {x2 : Int} {x4 : Int} {s0 : Int} {o3 o5 : Option Value} (r_x1 : R32 x1) (r_x2 : R32 x2) (r_x4 : R32 x4) (r_s0 : R32 s0) {out : ((World × Int × Int) ⊕ (World × Int))} (hf : f_Wa_pose_68 w x1 x2 x4 s0 = some out) (hc : (Sum.elim (HW_Wa_pose_5 E K H0 x1 x2) (fun out : (World × Int) => RetZ TA E K H0 cX9_pose out.1 out.2)) out) : Jj K (WdT TA E H0) w 68 [some (rf E.ad 103), some (.int (ii x1)), some (.int (ii x2)), o3, some (.int (ii x4)), o5] [.int (ii s0)] := by
  unfold f_Wa_pose_68 at hf
  have o := k.1
  have g := k.2.1
  have kr := k.2.2.1
  refine J_istore_n o dX9_pose_68 (Nat.le_of_ble_eq_true rfl) ?_
  exact t_Wa_pose_69 k r_x1 r_x2 r_s0 r_x4 hf hc
noncomputable def f_Wa_pose_67 (w : World) (x1 : Int) (x2 : Int) (x4 : Int) : Option ((World × Int × Int) ⊕ (World × Int)) :=
  f_Wa_pose_68 w x1 x2 x4 0
theorem t_Wa_pose_67 {E : EE} {K : KT} {l : Launch} {H0 : Heap} (k : Kof TA E K l cX9_pose RX9 rm_Wa_pose) {w : World} {x1 : Int} {x2 : Int} {x4 : Int} {o3 o5 : Option Value} (r_x1 : R32 x1) (r_x2 : R32 x2) (r_x4 : R32 x4) {out : ((World × Int × Int) ⊕ (World × Int))} (hf : f_Wa_pose_67 w x1 x2 x4 = some out) (hc : (Sum.elim (HW_Wa_pose_5 E K H0 x1 x2) (fun out : (World × Int) => RetZ TA E K H0 cX9_pose out.1 out.2)) out) : Jj K (WdT TA E H0) w 67 [some (rf E.ad 103), some (.int (ii x1)), some (.int (ii x2)), o3, some (.int (ii x4)), o5] [] := by
  unfold f_Wa_pose_67 at hf
  have o := k.1
  have g := k.2.1
  have kr := k.2.2.1
  refine J_iconst o dX9_pose_67 ?_
  exact t_Wa_pose_68 k r_x1 r_x2 r_x4 rl0 hf hc
noncomputable def f_Wa_pose_5B (w : World) (x1 : Int) (x2 : Int) (x3 : Int) (x4 : Int) : Option ((World × Int × Int) ⊕ (World × Int)) :=
  if 3 ≤ x4 then (gd (x3 = 0 ∨ x3 = 1) (some (Sum.inr (w, x3)))) else (if (iand (ishr x2 x4) 1) = 0 then (f_Wa_pose_69 w x1 x2 x3 x4) else (gd (kdA ((w 103 1).toNat) = 1) (bnd (f_Bo_termOf w ((w 103 1).toNat) 5 x4) fun v8 => bnd (f_Dm_columnOf x1 x4) fun v11 => bnd (f_Wa_bindIfFree w v8 v11) fun v14 => if x3 = 0 then (f_Wa_pose_67 v14 x1 x2 x4) else (bnd (f_Wa_valueOf v14 v8) fun v19 => bnd (f_Dm_columnOf x1 x4) fun v22 => if v19 = v22 then (f_Wa_pose_68 v14 x1 x2 x4 1) else (f_Wa_pose_67 v14 x1 x2 x4)))))
theorem t_Wa_pose_5B {E : EE} {K : KT} {l : Launch} {H0 : Heap} (k : Kof TA E K l cX9_pose RX9 rm_Wa_pose) {w : World} {x1 : Int} {x2 : Int} {x3 : Int} {x4 : Int} {o5 : Option Value} (r_x1 : R32 x1) (r_x2 : R32 x2) (r_x3 : R32 x3) (r_x4 : R32 x4) {out : ((World × Int × Int) ⊕ (World × Int))} (hf : f_Wa_pose_5B w x1 x2 x3 x4 = some out) (hc : (Sum.elim (HW_Wa_pose_5 E K H0 x1 x2) (fun out : (World × Int) => RetZ TA E K H0 cX9_pose out.1 out.2)) out) : Jj K (WdT TA E H0) w 5 [some (rf E.ad 103), some (.int (ii x1)), some (.int (ii x2)), some (.int (ii x3)), some (.int (ii x4)), o5] [] := by
  unfold f_Wa_pose_5B at hf
  have o := k.1
  have g := k.2.1
  have kr := k.2.2.1
  refine J_iload o dX9_pose_5 rfl ?_
  refine J_iconst o dX9_pose_7 ?_
  refine J_icmp_ge 75 o dX9_pose_8 (by decide) r_x4 rl3 (fun c1 => ?_) (fun c2 => ?_)
  · have hf := ite_t c1 hf
    refine J_iload_n o dX9_pose_75 rfl ?_
    obtain ⟨g3, hf⟩ := gd_some hf
    have hf := some_inj hf
    subst hf
    exact hc _ _ g3 dX9_pose_76
  · have hf := ite_f c2 hf
    refine J_iload_n o dX9_pose_11 rfl ?_
    refine J_iload o dX9_pose_12 rfl ?_
    refine J_ishr o dX9_pose_14 ?_
    refine J_iconst o dX9_pose_15 ?_
    refine J_iand o dX9_pose_16 ?_
    refine J_if_eq 69 o dX9_pose_17 (by decide) (R_iand _ _) (fun c4 => ?_) (fun c5 => ?_)
    · have hf := ite_t c4 hf
      exact t_Wa_pose_69 k r_x1 r_x2 r_x3 r_x4 hf hc
    · have hf := ite_f c5 hf
      refine J_aload_n o dX9_pose_20 rfl ?_
      refine J_getR o g dX9_pose_21 flX9_25 kA_103 rfl ?_
      refine J_iconst o dX9_pose_24 ?_
      refine J_iload o dX9_pose_25 rfl ?_
      obtain ⟨g6, hf⟩ := gd_some hf
      obtain ⟨v8, e7, hf⟩ := bnd_some hf
      refine J_vI o g kr dX9_pose_27 lkX9_54 ml_Bo_termOf vl_Bo_termOf ⟨rfl, rfl, Nat.le_of_ble_eq_true rfl, Nat.le_of_ble_eq_true rfl⟩ (c_Bo_termOf g.2.1 g6 rl5 r_x4 e7) g6 rfl ⟨by decide, by decide⟩ rfl rfl c1s_0 (fun q9 => ?_)
      refine J_istore o dX9_pose_30 (Nat.le_of_ble_eq_true rfl) ?_
      refine J_aload_n o dX9_pose_32 rfl ?_
      refine J_iload o dX9_pose_33 rfl ?_
      refine J_iload_n o dX9_pose_35 rfl ?_
      refine J_iload o dX9_pose_36 rfl ?_
      obtain ⟨v11, e10, hf⟩ := bnd_some hf
      refine J_sI o g kr dX9_pose_38 lkX9_60 ml_Dm_columnOf mw767 ⟨rfl, rfl, Nat.le_of_ble_eq_true rfl, Nat.le_of_ble_eq_true rfl⟩ (c_Dm_columnOf g.2.1 r_x1 r_x4 e10) rfl rfl (c1s_i (c1s_r c1s_0 (Nat.le_of_ble_eq_true rfl)) (Nat.le_of_ble_eq_true rfl)) (fun q12 => ?_)
      obtain ⟨v14, e13, hf⟩ := bnd_some hf
      refine J_vV o g kr dX9_pose_41 lkX9_63 ml_Wa_bindIfFree vl_Wa_bindIfFree ⟨rfl, rfl, Nat.le_of_ble_eq_true rfl, Nat.le_of_ble_eq_true rfl⟩ (c_Wa_bindIfFree g.2.1 q9 q12 e13) kA_103 rfl ⟨by decide, by decide⟩ rfl rfl c1s_0 ?_
      refine J_iload_n o dX9_pose_44 rfl ?_
      refine J_if_eq 67 o dX9_pose_45 (by decide) r_x3 (fun c16 => ?_) (fun c17 => ?_)
      · have hf := ite_t c16 hf
        exact t_Wa_pose_67 k r_x1 r_x2 r_x4 hf hc
      · have hf := ite_f c17 hf
        refine J_aload_n o dX9_pose_48 rfl ?_
        refine J_iload o dX9_pose_49 rfl ?_
        obtain ⟨v19, e18, hf⟩ := bnd_some hf
        refine J_vI o g kr dX9_pose_51 lkX9_67 ml_Wa_valueOf vl_Wa_valueOf ⟨rfl, rfl, Nat.le_of_ble_eq_true rfl, Nat.le_of_ble_eq_true rfl⟩ (c_Wa_valueOf g.2.1 q9 e18) kA_103 rfl ⟨by decide, by decide⟩ rfl rfl c1s_0 (fun q20 => ?_)
        refine J_iload_n o dX9_pose_54 rfl ?_
        refine J_iload o dX9_pose_55 rfl ?_
        obtain ⟨v22, e21, hf⟩ := bnd_some hf
        refine J_sI o g kr dX9_pose_57 lkX9_60 ml_Dm_columnOf mw767 ⟨rfl, rfl, Nat.le_of_ble_eq_true rfl, Nat.le_of_ble_eq_true rfl⟩ (c_Dm_columnOf g.2.1 r_x1 r_x4 e21) rfl rfl (c1s_i c1s_0 (Nat.le_of_ble_eq_true rfl)) (fun q23 => ?_)
        refine J_icmp_ne 67 o dX9_pose_60 (by decide) q20 q23 (fun c24 => ?_) (fun c25 => ?_)
        · have hf := ite_f c24 hf
          exact t_Wa_pose_67 k r_x1 r_x2 r_x4 hf hc
        · have hf := ite_t c25 hf
          refine J_iconst o dX9_pose_63 ?_
          refine J_goto 68 o dX9_pose_64 (by decide) ?_
          exact t_Wa_pose_68 k r_x1 r_x2 r_x4 rl1 hf hc
noncomputable def f_Wa_pose_5 (w : World) (x1 : Int) (x2 : Int) (x3 : Int) (x4 : Int) : Option (World × Int) :=
  lp (fun z : (World × Int × Int) => f_Wa_pose_5B z.1 x1 x2 z.2.1 z.2.2) (w, x3, x4)
theorem t_Wa_pose_5 {E : EE} {K : KT} {l : Launch} {H0 : Heap} (k : Kof TA E K l cX9_pose RX9 rm_Wa_pose) {w : World} {x1 : Int} {x2 : Int} {x3 : Int} {x4 : Int} (r_x1 : R32 x1) (r_x2 : R32 x2) {out : (World × Int)} (hf : f_Wa_pose_5 w x1 x2 x3 x4 = some out) (hc : (fun out : (World × Int) => RetZ TA E K H0 cX9_pose out.1 out.2) out) : HW_Wa_pose_5 E K H0 x1 x2 (w, x3, x4) := by
  unfold f_Wa_pose_5 at hf
  refine lp_ind (P := HW_Wa_pose_5 E K H0 x1 x2) hf ?_
  intro z o hs h1 h2
  intro r_x3 r_x4
  intro o5
  refine t_Wa_pose_5B k r_x1 r_x2 r_x3 r_x4 hs ?_
  cases o with
  | inl z' => exact h1 z' rfl
  | inr r' => rw [h2 r' rfl]; exact hc
noncomputable def f_Wa_pose (w : World) (x1 : Int) (x2 : Int) : Option (World × Int) :=
  f_Wa_pose_5 w x1 x2 1 0
theorem t_Wa_pose_0 {E : EE} {K : KT} {l : Launch} {H0 : Heap} (k : Kof TA E K l cX9_pose RX9 rm_Wa_pose) {w : World} {x1 : Int} {x2 : Int} {o3 o4 o5 : Option Value} (r_x1 : R32 x1) (r_x2 : R32 x2) {out : (World × Int)} (hf : f_Wa_pose w x1 x2 = some out) (hc : (fun out : (World × Int) => RetZ TA E K H0 cX9_pose out.1 out.2) out) : Jj K (WdT TA E H0) w 0 [some (rf E.ad 103), some (.int (ii x1)), some (.int (ii x2)), o3, o4, o5] [] := by
  unfold f_Wa_pose at hf
  have o := k.1
  have g := k.2.1
  have kr := k.2.2.1
  refine J_iconst o dX9_pose_0 ?_
  refine J_istore_n o dX9_pose_1 (Nat.le_of_ble_eq_true rfl) ?_
  refine J_iconst o dX9_pose_2 ?_
  refine J_istore o dX9_pose_3 (Nat.le_of_ble_eq_true rfl) ?_
  exact (t_Wa_pose_5 k r_x1 r_x2 hf hc) rl1 rl0 _
theorem c_Wa_pose {E : EE} {l : Launch} (hI : Inj TA E) {w : World} {x1 : Int} {x2 : Int} (r_x1 : R32 x1) (r_x2 : R32 x2) {out : (World × Int)} (hf : f_Wa_pose w x1 x2 = some out) : ConI TA E l yX9_pose (WS yX9_pose cX9_pose 6 (some .boolean)) rm_Wa_pose [rf E.ad 103, .int (ii x1), .int (ii x2)] w out.1 out.2 :=
  con_Z (by decide +kernel) rfl (Nat.le_of_ble_eq_true rfl) (c1s_r (c1s_i (c1s_i c1s_0 (Nat.le_of_ble_eq_true rfl)) (Nat.le_of_ble_eq_true rfl)) (Nat.le_of_ble_eq_true rfl)).1 ⟨rfl, rfl⟩ hI TnA (fun K H0 k hret => t_Wa_pose_0 k r_x1 r_x2 hf hret)
abbrev rm_Dm_canGive : Room := { frames := 4, cells := 0, slots := 0, locals := 87 }
noncomputable def f_Dm_canGive (w : World) (t1 : Nat) (x2 : Int) (x3 : Int) (x4 : Int) : Option (World × Int) :=
  if (w t1 2) = 0 then (if (w t1 1) = x2 then (bnd (f_Dm_present w ) fun v8 => gd (kdA v8 = 6) (bnd (f_Wa_begin w t1 v8 x4) fun v12 => bnd (f_Sc_tellingSet v12 x2) fun v15 => bnd (f_Wa_pose v12 x3 v15) fun v18 => gd (v18.2 = 0 ∨ v18.2 = 1) (some (v18.1, v18.2)))) else (some (w, 0))) else (some (w, 0))
theorem t_Dm_canGive_0 {E : EE} {K : KT} {l : Launch} {H0 : Heap} (k : Kof TA E K l cX10_canGive RX10 rm_Dm_canGive) {w : World} {t1 : Nat} {x2 : Int} {x3 : Int} {x4 : Int} (k_t1 : TA.kd t1 = 1) (r_x2 : R32 x2) (r_x3 : R32 x3) (r_x4 : R32 x4) {out : (World × Int)} (hf : f_Dm_canGive w t1 x2 x3 x4 = some out) (hc : (fun out : (World × Int) => RetZ TA E K H0 cX10_canGive out.1 out.2) out) : Jj K (WdT TA E H0) w 0 [some (rf E.ad 1), some (rf E.ad t1), some (.int (ii x2)), some (.int (ii x3)), some (.int (ii x4))] [] := by
  unfold f_Dm_canGive at hf
  have o := k.1
  have g := k.2.1
  have kr := k.2.2.1
  refine J_aload_n o dX10_canGive_0 rfl ?_
  refine J_getI o g dX10_canGive_1 flX10_253 k_t1 rfl (fun q1 => ?_)
  refine J_if_ne 15 o dX10_canGive_4 (by decide) q1 (fun c2 => ?_) (fun c3 => ?_)
  · have hf := ite_f c2 hf
    refine J_iconst o dX10_canGive_15 ?_
    have hf := some_inj hf
    subst hf
    exact hc _ _ (Or.inl rfl) dX10_canGive_16
  · have hf := ite_t c3 hf
    refine J_aload_n o dX10_canGive_7 rfl ?_
    refine J_getI o g dX10_canGive_8 flX10_208 k_t1 rfl (fun q4 => ?_)
    refine J_iload_n o dX10_canGive_11 rfl ?_
    refine J_icmp_eq 17 o dX10_canGive_12 (by decide) q4 r_x2 (fun c5 => ?_) (fun c6 => ?_)
    · have hf := ite_t c5 hf
      refine J_aload_n o dX10_canGive_17 rfl ?_
      refine J_getF (true, 103) o g dX10_canGive_18 flX10_51 kA_1 rfl rfl rfl ?_
      refine J_aload_n o dX10_canGive_21 rfl ?_
      refine J_aload_n o dX10_canGive_22 rfl ?_
      obtain ⟨v8, e7, hf⟩ := bnd_some hf
      refine J_vR o g kr dX10_canGive_23 lkX10_261 ml_Dm_present vl_Dm_present ⟨rfl, rfl, Nat.le_of_ble_eq_true rfl, Nat.le_of_ble_eq_true rfl⟩ (c_Dm_present g.2.1  e7) kA_1 rfl ⟨by decide, by decide⟩ rfl rfl (c1s_r (c1s_r c1s_0 (Nat.le_of_ble_eq_true rfl)) (Nat.le_of_ble_eq_true rfl)) ?_
      refine J_iload o dX10_canGive_26 rfl ?_
      obtain ⟨g10, hf⟩ := gd_some hf
      obtain ⟨v12, e11, hf⟩ := bnd_some hf
      refine J_vV o g kr dX10_canGive_28 lkX10_395 ml_Wa_begin vl_Wa_begin ⟨rfl, rfl, Nat.le_of_ble_eq_true rfl, Nat.le_of_ble_eq_true rfl⟩ (c_Wa_begin g.2.1 k_t1 g10 r_x4 e11) kA_103 rfl ⟨by decide, by decide⟩ rfl rfl c1s_0 ?_
      refine J_aload_n o dX10_canGive_31 rfl ?_
      refine J_getF (true, 103) o g dX10_canGive_32 flX10_51 kA_1 rfl rfl rfl ?_
      refine J_iload_n o dX10_canGive_35 rfl ?_
      refine J_aload_n o dX10_canGive_36 rfl ?_
      refine J_getF (true, 2) o g dX10_canGive_37 flX10_31 kA_1 rfl rfl rfl ?_
      refine J_iload_n o dX10_canGive_40 rfl ?_
      obtain ⟨v15, e14, hf⟩ := bnd_some hf
      refine J_vI o g kr dX10_canGive_41 lkX10_399 ml_Sc_tellingSet vl_Sc_tellingSet ⟨rfl, rfl, Nat.le_of_ble_eq_true rfl, Nat.le_of_ble_eq_true rfl⟩ (c_Sc_tellingSet g.2.1 r_x2 e14) kA_2 rfl ⟨by decide, by decide⟩ rfl rfl (c1s_i (c1s_r c1s_0 (Nat.le_of_ble_eq_true rfl)) (Nat.le_of_ble_eq_true rfl)) (fun q16 => ?_)
      obtain ⟨v18, e17, hf⟩ := bnd_some hf
      refine J_vI o g kr dX10_canGive_44 lkX10_402 ml_Wa_pose vl_Wa_pose ⟨rfl, rfl, Nat.le_of_ble_eq_true rfl, Nat.le_of_ble_eq_true rfl⟩ (c_Wa_pose g.2.1 r_x3 q16 e17) kA_103 rfl ⟨by decide, by decide⟩ rfl rfl c1s_0 (fun q19 => ?_)
      obtain ⟨g20, hf⟩ := gd_some hf
      have hf := some_inj hf
      subst hf
      exact hc _ _ g20 dX10_canGive_47
    · have hf := ite_f c6 hf
      refine J_iconst o dX10_canGive_15 ?_
      have hf := some_inj hf
      subst hf
      exact hc _ _ (Or.inl rfl) dX10_canGive_16
theorem c_Dm_canGive {E : EE} {l : Launch} (hI : Inj TA E) {w : World} {t1 : Nat} {x2 : Int} {x3 : Int} {x4 : Int} (k_t1 : TA.kd t1 = 1) (r_x2 : R32 x2) (r_x3 : R32 x3) (r_x4 : R32 x4) {out : (World × Int)} (hf : f_Dm_canGive w t1 x2 x3 x4 = some out) : ConI TA E l yX10_canGive (WS yX10_canGive cX10_canGive 5 (some .boolean)) rm_Dm_canGive [rf E.ad 1, rf E.ad t1, .int (ii x2), .int (ii x3), .int (ii x4)] w out.1 out.2 :=
  con_Z (by decide +kernel) rfl (Nat.le_of_ble_eq_true rfl) (c1s_r (c1s_r (c1s_i (c1s_i (c1s_i c1s_0 (Nat.le_of_ble_eq_true rfl)) (Nat.le_of_ble_eq_true rfl)) (Nat.le_of_ble_eq_true rfl)) (Nat.le_of_ble_eq_true rfl)) (Nat.le_of_ble_eq_true rfl)).1 ⟨rfl, rfl⟩ hI TnA (fun K H0 k hret => t_Dm_canGive_0 k k_t1 r_x2 r_x3 r_x4 hf hret)
abbrev rm_Dm_waysByRules : Room := { frames := 5, cells := 0, slots := 0, locals := 123 }
def HW_Dm_waysByRules_5 (E : EE) (K : KT) (H0 : Heap) (x1 : Int) (x2 : Int) : (World × Int × Int) → Prop := fun z => R32 z.2.1 → R32 z.2.2 → ∀ o5 o6 : Option Value, Jj K (WdT TA E H0) z.1 5 [some (rf E.ad 1), some (.int (ii x1)), some (.int (ii x2)), some (.int (ii z.2.1)), some (.int (ii z.2.2)), o5, o6] []
def HW_Dm_waysByRules_47 (E : EE) (K : KT) (H0 : Heap) (x1 : Int) (x2 : Int) (x4 : Int) : (World × Int × Int) → Prop := fun z => R32 z.2.1 → R32 z.2.2 → ∀ o5 : Option Value, Jj K (WdT TA E H0) z.1 47 [some (rf E.ad 1), some (.int (ii x1)), some (.int (ii x2)), some (.int (ii z.2.1)), some (.int (ii x4)), o5, some (.int (ii z.2.2))] []
noncomputable def f_Dm_waysByRules_74 (w : World) (x1 : Int) (x2 : Int) (x3 : Int) (x4 : Int) : Option ((World × Int × Int) ⊕ (World × Int)) :=
  bl (wr (x4 + 1)) fun n1 => some (Sum.inl (w, x3, n1))
theorem t_Dm_waysByRules_74 {E : EE} {K : KT} {l : Launch} {H0 : Heap} (k : Kof TA E K l cX10_waysByRules RX10 rm_Dm_waysByRules) {w : World} {x1 : Int} {x2 : Int} {x3 : Int} {x4 : Int} {o5 o6 : Option Value} (r_x1 : R32 x1) (r_x2 : R32 x2) (r_x3 : R32 x3) (r_x4 : R32 x4) {out : ((World × Int × Int) ⊕ (World × Int))} (hf : f_Dm_waysByRules_74 w x1 x2 x3 x4 = some out) (hc : (Sum.elim (HW_Dm_waysByRules_5 E K H0 x1 x2) (fun out : (World × Int) => RetI TA E K H0 cX10_waysByRules out.1 out.2)) out) : Jj K (WdT TA E H0) w 74 [some (rf E.ad 1), some (.int (ii x1)), some (.int (ii x2)), some (.int (ii x3)), some (.int (ii x4)), o5, o6] [] := by
  unfold f_Dm_waysByRules_74 at hf
  have o := k.1
  have g := k.2.1
  have kr := k.2.2.1
  have hf := bl_out hf
  refine J_iinc o dX10_waysByRules_74 rfl ?_
  refine J_goto 5 o dX10_waysByRules_77 (by decide) ?_
  have hf := some_inj hf
  subst hf
  exact hc r_x3 (R_wr _) _ _
noncomputable def f_Dm_waysByRules_47B (w : World) (x1 : Int) (x2 : Int) (x3 : Int) (x4 : Int) (x6 : Int) : Option ((World × Int × Int) ⊕ ((World × Int × Int) ⊕ (World × Int))) :=
  if 10000000 ≤ x6 then (bnd (f_Dm_waysByRules_74 w x1 x2 x3 x4) fun y3 => some (Sum.inr y3)) else (bnd (f_Wa_next w ) fun v5 => if v5.2 = 0 then (bnd (f_Dm_waysByRules_74 v5.1 x1 x2 x3 x4) fun y9 => some (Sum.inr y9)) else (bl (wr (x3 + 1)) fun n10 => bl (wr (x6 + 1)) fun n11 => some (Sum.inl (v5.1, n10, n11))))
theorem t_Dm_waysByRules_47B {E : EE} {K : KT} {l : Launch} {H0 : Heap} (k : Kof TA E K l cX10_waysByRules RX10 rm_Dm_waysByRules) {w : World} {x1 : Int} {x2 : Int} {x3 : Int} {x4 : Int} {x6 : Int} {o5 : Option Value} (r_x1 : R32 x1) (r_x2 : R32 x2) (r_x3 : R32 x3) (r_x4 : R32 x4) (r_x6 : R32 x6) {out : ((World × Int × Int) ⊕ ((World × Int × Int) ⊕ (World × Int)))} (hf : f_Dm_waysByRules_47B w x1 x2 x3 x4 x6 = some out) (hc : (Sum.elim (HW_Dm_waysByRules_47 E K H0 x1 x2 x4) (Sum.elim (HW_Dm_waysByRules_5 E K H0 x1 x2) (fun out : (World × Int) => RetI TA E K H0 cX10_waysByRules out.1 out.2))) out) : Jj K (WdT TA E H0) w 47 [some (rf E.ad 1), some (.int (ii x1)), some (.int (ii x2)), some (.int (ii x3)), some (.int (ii x4)), o5, some (.int (ii x6))] [] := by
  unfold f_Dm_waysByRules_47B at hf
  have o := k.1
  have g := k.2.1
  have kr := k.2.2.1
  refine J_iload o dX10_waysByRules_47 rfl ?_
  refine J_ldcw o dX10_waysByRules_49 kcX10_391 ?_
  refine J_icmp_ge 74 o dX10_waysByRules_52 (by decide) r_x6 rl10000000 (fun c1 => ?_) (fun c2 => ?_)
  · have hf := ite_t c1 hf
    obtain ⟨y3, hf1, hf⟩ := bnd_some hf
    have hf := some_inj hf
    subst hf
    exact t_Dm_waysByRules_74 k r_x1 r_x2 r_x3 r_x4 hf1 hc
  · have hf := ite_f c2 hf
    refine J_aload_n o dX10_waysByRules_55 rfl ?_
    refine J_getF (true, 103) o g dX10_waysByRules_56 flX10_51 kA_1 rfl rfl rfl ?_
    obtain ⟨v5, e4, hf⟩ := bnd_some hf
    refine J_vI o g kr dX10_waysByRules_59 lkX10_392 ml_Wa_next vl_Wa_next ⟨rfl, rfl, Nat.le_of_ble_eq_true rfl, Nat.le_of_ble_eq_true rfl⟩ (c_Wa_next g.2.1  e4) kA_103 rfl ⟨by decide, by decide⟩ rfl rfl c1s_0 (fun q6 => ?_)
    refine J_if_eq 74 o dX10_waysByRules_62 (by decide) q6 (fun c7 => ?_) (fun c8 => ?_)
    · have hf := ite_t c7 hf
      obtain ⟨y9, hf1, hf⟩ := bnd_some hf
      have hf := some_inj hf
      subst hf
      exact t_Dm_waysByRules_74 k r_x1 r_x2 r_x3 r_x4 hf1 hc
    · have hf := ite_f c8 hf
      have hf := bl_out hf
      refine J_iinc o dX10_waysByRules_65 rfl ?_
      have hf := bl_out hf
      refine J_iinc o dX10_waysByRules_68 rfl ?_
      refine J_goto 47 o dX10_waysByRules_71 (by decide) ?_
      have hf := some_inj hf
      subst hf
      exact hc (R_wr _) (R_wr _) _
noncomputable def f_Dm_waysByRules_47 (w : World) (x1 : Int) (x2 : Int) (x3 : Int) (x4 : Int) (x6 : Int) : Option ((World × Int × Int) ⊕ (World × Int)) :=
  lp (fun z : (World × Int × Int) => f_Dm_waysByRules_47B z.1 x1 x2 z.2.1 x4 z.2.2) (w, x3, x6)
theorem t_Dm_waysByRules_47 {E : EE} {K : KT} {l : Launch} {H0 : Heap} (k : Kof TA E K l cX10_waysByRules RX10 rm_Dm_waysByRules) {w : World} {x1 : Int} {x2 : Int} {x3 : Int} {x4 : Int} {x6 : Int} (r_x1 : R32 x1) (r_x2 : R32 x2) (r_x4 : R32 x4) {out : ((World × Int × Int) ⊕ (World × Int))} (hf : f_Dm_waysByRules_47 w x1 x2 x3 x4 x6 = some out) (hc : (Sum.elim (HW_Dm_waysByRules_5 E K H0 x1 x2) (fun out : (World × Int) => RetI TA E K H0 cX10_waysByRules out.1 out.2)) out) : HW_Dm_waysByRules_47 E K H0 x1 x2 x4 (w, x3, x6) := by
  unfold f_Dm_waysByRules_47 at hf
  refine lp_ind (P := HW_Dm_waysByRules_47 E K H0 x1 x2 x4) hf ?_
  intro z o hs h1 h2
  intro r_x3 r_x6
  intro o5
  refine t_Dm_waysByRules_47B k r_x1 r_x2 r_x3 r_x4 r_x6 hs ?_
  cases o with
  | inl z' => exact h1 z' rfl
  | inr r' => rw [h2 r' rfl]; exact hc
noncomputable def f_Dm_waysByRules_5B (w : World) (x1 : Int) (x2 : Int) (x3 : Int) (x4 : Int) : Option ((World × Int × Int) ⊕ (World × Int)) :=
  if (w 14 4) ≤ x4 then (some (Sum.inr (w, x3))) else (bnd (f_Pr_rule w x4) fun v5 => gd (kdA v5 = 1) (bnd (f_Dm_canGive w v5 x1 x2 (w v5 0)) fun v10 => if v10.2 = 0 then (f_Dm_waysByRules_74 v10.1 x1 x2 x3 x4) else (f_Dm_waysByRules_47 v10.1 x1 x2 x3 x4 0)))
theorem t_Dm_waysByRules_5B {E : EE} {K : KT} {l : Launch} {H0 : Heap} (k : Kof TA E K l cX10_waysByRules RX10 rm_Dm_waysByRules) {w : World} {x1 : Int} {x2 : Int} {x3 : Int} {x4 : Int} {o5 o6 : Option Value} (r_x1 : R32 x1) (r_x2 : R32 x2) (r_x3 : R32 x3) (r_x4 : R32 x4) {out : ((World × Int × Int) ⊕ (World × Int))} (hf : f_Dm_waysByRules_5B w x1 x2 x3 x4 = some out) (hc : (Sum.elim (HW_Dm_waysByRules_5 E K H0 x1 x2) (fun out : (World × Int) => RetI TA E K H0 cX10_waysByRules out.1 out.2)) out) : Jj K (WdT TA E H0) w 5 [some (rf E.ad 1), some (.int (ii x1)), some (.int (ii x2)), some (.int (ii x3)), some (.int (ii x4)), o5, o6] [] := by
  unfold f_Dm_waysByRules_5B at hf
  have o := k.1
  have g := k.2.1
  have kr := k.2.2.1
  refine J_iload o dX10_waysByRules_5 rfl ?_
  refine J_aload_n o dX10_waysByRules_7 rfl ?_
  refine J_getF (true, 14) o g dX10_waysByRules_8 flX10_39 kA_1 rfl rfl rfl ?_
  refine J_getI o g dX10_waysByRules_11 flX10_217 kA_14 rfl (fun q1 => ?_)
  refine J_icmp_ge 80 o dX10_waysByRules_14 (by decide) r_x4 q1 (fun c2 => ?_) (fun c3 => ?_)
  · have hf := ite_t c2 hf
    refine J_iload_n o dX10_waysByRules_80 rfl ?_
    have hf := some_inj hf
    subst hf
    exact hc _ _ r_x3 dX10_waysByRules_81
  · have hf := ite_f c3 hf
    refine J_aload_n o dX10_waysByRules_17 rfl ?_
    refine J_getF (true, 14) o g dX10_waysByRules_18 flX10_39 kA_1 rfl rfl rfl ?_
    refine J_iload o dX10_waysByRules_21 rfl ?_
    obtain ⟨v5, e4, hf⟩ := bnd_some hf
    refine J_vR o g kr dX10_waysByRules_23 lkX10_249 ml_Pr_rule vl_Pr_rule ⟨rfl, rfl, Nat.le_of_ble_eq_true rfl, Nat.le_of_ble_eq_true rfl⟩ (c_Pr_rule g.2.1 r_x4 e4) kA_14 rfl ⟨by decide, by decide⟩ rfl rfl c1s_0 ?_
    refine J_astore o dX10_waysByRules_26 (Nat.le_of_ble_eq_true rfl) ?_
    refine J_aload_n o dX10_waysByRules_28 rfl ?_
    refine J_aload o dX10_waysByRules_29 rfl ?_
    refine J_iload_n o dX10_waysByRules_31 rfl ?_
    refine J_iload_n o dX10_waysByRules_32 rfl ?_
    refine J_aload o dX10_waysByRules_33 rfl ?_
    obtain ⟨g7, hf⟩ := gd_some hf
    refine J_getI o g dX10_waysByRules_35 flX10_187 g7 rfl (fun q8 => ?_)
    obtain ⟨v10, e9, hf⟩ := bnd_some hf
    refine J_vI o g kr dX10_waysByRules_38 lkX10_387 ml_Dm_canGive vl_Dm_canGive ⟨rfl, rfl, Nat.le_of_ble_eq_true rfl, Nat.le_of_ble_eq_true rfl⟩ (c_Dm_canGive g.2.1 g7 r_x1 r_x2 q8 e9) kA_1 rfl ⟨by decide, by decide⟩ rfl rfl c1s_0 (fun q11 => ?_)
    refine J_if_eq 74 o dX10_waysByRules_41 (by decide) q11 (fun c12 => ?_) (fun c13 => ?_)
    · have hf := ite_t c12 hf
      exact t_Dm_waysByRules_74 k r_x1 r_x2 r_x3 r_x4 hf hc
    · have hf := ite_f c13 hf
      refine J_iconst o dX10_waysByRules_44 ?_
      refine J_istore o dX10_waysByRules_45 (Nat.le_of_ble_eq_true rfl) ?_
      exact (t_Dm_waysByRules_47 k r_x1 r_x2 r_x4 hf hc) r_x3 rl0 _
noncomputable def f_Dm_waysByRules_5 (w : World) (x1 : Int) (x2 : Int) (x3 : Int) (x4 : Int) : Option (World × Int) :=
  lp (fun z : (World × Int × Int) => f_Dm_waysByRules_5B z.1 x1 x2 z.2.1 z.2.2) (w, x3, x4)
theorem t_Dm_waysByRules_5 {E : EE} {K : KT} {l : Launch} {H0 : Heap} (k : Kof TA E K l cX10_waysByRules RX10 rm_Dm_waysByRules) {w : World} {x1 : Int} {x2 : Int} {x3 : Int} {x4 : Int} (r_x1 : R32 x1) (r_x2 : R32 x2) {out : (World × Int)} (hf : f_Dm_waysByRules_5 w x1 x2 x3 x4 = some out) (hc : (fun out : (World × Int) => RetI TA E K H0 cX10_waysByRules out.1 out.2) out) : HW_Dm_waysByRules_5 E K H0 x1 x2 (w, x3, x4) := by
  unfold f_Dm_waysByRules_5 at hf
  refine lp_ind (P := HW_Dm_waysByRules_5 E K H0 x1 x2) hf ?_
  intro z o hs h1 h2
  intro r_x3 r_x4
  intro o5 o6
  refine t_Dm_waysByRules_5B k r_x1 r_x2 r_x3 r_x4 hs ?_
  cases o with
  | inl z' => exact h1 z' rfl
  | inr r' => rw [h2 r' rfl]; exact hc
noncomputable def f_Dm_waysByRules (w : World) (x1 : Int) (x2 : Int) : Option (World × Int) :=
  f_Dm_waysByRules_5 w x1 x2 0 0
theorem t_Dm_waysByRules_0 {E : EE} {K : KT} {l : Launch} {H0 : Heap} (k : Kof TA E K l cX10_waysByRules RX10 rm_Dm_waysByRules) {w : World} {x1 : Int} {x2 : Int} {o3 o4 o5 o6 : Option Value} (r_x1 : R32 x1) (r_x2 : R32 x2) {out : (World × Int)} (hf : f_Dm_waysByRules w x1 x2 = some out) (hc : (fun out : (World × Int) => RetI TA E K H0 cX10_waysByRules out.1 out.2) out) : Jj K (WdT TA E H0) w 0 [some (rf E.ad 1), some (.int (ii x1)), some (.int (ii x2)), o3, o4, o5, o6] [] := by
  unfold f_Dm_waysByRules at hf
  have o := k.1
  have g := k.2.1
  have kr := k.2.2.1
  refine J_iconst o dX10_waysByRules_0 ?_
  refine J_istore_n o dX10_waysByRules_1 (Nat.le_of_ble_eq_true rfl) ?_
  refine J_iconst o dX10_waysByRules_2 ?_
  refine J_istore o dX10_waysByRules_3 (Nat.le_of_ble_eq_true rfl) ?_
  exact (t_Dm_waysByRules_5 k r_x1 r_x2 hf hc) rl0 rl0 _ _
theorem c_Dm_waysByRules {E : EE} {l : Launch} (hI : Inj TA E) {w : World} {x1 : Int} {x2 : Int} (r_x1 : R32 x1) (r_x2 : R32 x2) {out : (World × Int)} (hf : f_Dm_waysByRules w x1 x2 = some out) : ConI TA E l yX10_waysByRules (WS yX10_waysByRules cX10_waysByRules 7 (some .int)) rm_Dm_waysByRules [rf E.ad 1, .int (ii x1), .int (ii x2)] w out.1 out.2 :=
  con_I (by decide +kernel) rfl (Nat.le_of_ble_eq_true rfl) (c1s_r (c1s_i (c1s_i c1s_0 (Nat.le_of_ble_eq_true rfl)) (Nat.le_of_ble_eq_true rfl)) (Nat.le_of_ble_eq_true rfl)).1 ⟨rfl, rfl⟩ hI TnA (fun K H0 k hret => t_Dm_waysByRules_0 k r_x1 r_x2 hf hret)
abbrev rm_Dm_literalsHeld : Room := { frames := 5, cells := 0, slots := 0, locals := 123 }
def HW_Dm_literalsHeld_6 (E : EE) (K : KT) (H0 : Heap) (t1 : Nat) (x2 : Int) (x3 : Int) : (World × Int) → Prop := fun z => R32 z.2 → Jj K (WdT TA E H0) z.1 6 [some (rf E.ad 1), some (rf E.ad t1), some (.int (ii x2)), some (.int (ii x3)), some (.int (ii z.2))] []
noncomputable def f_Dm_literalsHeld_36 (w : World) (t1 : Nat) (x2 : Int) (x3 : Int) (x4 : Int) : Option ((World × Int) ⊕ (World × Int)) :=
  bl (wr (x4 + (-1))) fun n1 => some (Sum.inl (w, n1))
theorem t_Dm_literalsHeld_36 {E : EE} {K : KT} {l : Launch} {H0 : Heap} (k : Kof TA E K l cX10_literalsHeld RX10 rm_Dm_literalsHeld) {w : World} {t1 : Nat} {x2 : Int} {x3 : Int} {x4 : Int} (k_t1 : TA.kd t1 = 1) (r_x2 : R32 x2) (r_x3 : R32 x3) (r_x4 : R32 x4) {out : ((World × Int) ⊕ (World × Int))} (hf : f_Dm_literalsHeld_36 w t1 x2 x3 x4 = some out) (hc : (Sum.elim (HW_Dm_literalsHeld_6 E K H0 t1 x2 x3) (fun out : (World × Int) => RetI TA E K H0 cX10_literalsHeld out.1 out.2)) out) : Jj K (WdT TA E H0) w 36 [some (rf E.ad 1), some (rf E.ad t1), some (.int (ii x2)), some (.int (ii x3)), some (.int (ii x4))] [] := by
  unfold f_Dm_literalsHeld_36 at hf
  have o := k.1
  have g := k.2.1
  have kr := k.2.2.1
  have hf := bl_out hf
  refine J_iinc o dX10_literalsHeld_36 rfl ?_
  refine J_goto 6 o dX10_literalsHeld_39 (by decide) ?_
  have hf := some_inj hf
  subst hf
  exact hc (R_wr _) 
noncomputable def f_Dm_literalsHeld_6B (w : World) (t1 : Nat) (x2 : Int) (x3 : Int) (x4 : Int) : Option ((World × Int) ⊕ (World × Int)) :=
  if x4 < 0 then (some (Sum.inr (w, (-1)))) else (bnd (f_Dm_canGive w t1 x2 x3 x4) fun v4 => if v4.2 = 0 then (f_Dm_literalsHeld_36 v4.1 t1 x2 x3 x4) else (bnd (f_Wa_next v4.1 ) fun v9 => if v9.2 = 0 then (f_Dm_literalsHeld_36 v9.1 t1 x2 x3 x4) else (some (Sum.inr (v9.1, x4)))))
theorem t_Dm_literalsHeld_6B {E : EE} {K : KT} {l : Launch} {H0 : Heap} (k : Kof TA E K l cX10_literalsHeld RX10 rm_Dm_literalsHeld) {w : World} {t1 : Nat} {x2 : Int} {x3 : Int} {x4 : Int} (k_t1 : TA.kd t1 = 1) (r_x2 : R32 x2) (r_x3 : R32 x3) (r_x4 : R32 x4) {out : ((World × Int) ⊕ (World × Int))} (hf : f_Dm_literalsHeld_6B w t1 x2 x3 x4 = some out) (hc : (Sum.elim (HW_Dm_literalsHeld_6 E K H0 t1 x2 x3) (fun out : (World × Int) => RetI TA E K H0 cX10_literalsHeld out.1 out.2)) out) : Jj K (WdT TA E H0) w 6 [some (rf E.ad 1), some (rf E.ad t1), some (.int (ii x2)), some (.int (ii x3)), some (.int (ii x4))] [] := by
  unfold f_Dm_literalsHeld_6B at hf
  have o := k.1
  have g := k.2.1
  have kr := k.2.2.1
  refine J_iload o dX10_literalsHeld_6 rfl ?_
  refine J_if_lt 42 o dX10_literalsHeld_8 (by decide) r_x4 (fun c1 => ?_) (fun c2 => ?_)
  · have hf := ite_t c1 hf
    refine J_iconst o dX10_literalsHeld_42 ?_
    have hf := some_inj hf
    subst hf
    exact hc _ _ rlm1 dX10_literalsHeld_43
  · have hf := ite_f c2 hf
    refine J_aload_n o dX10_literalsHeld_11 rfl ?_
    refine J_aload_n o dX10_literalsHeld_12 rfl ?_
    refine J_iload_n o dX10_literalsHeld_13 rfl ?_
    refine J_iload_n o dX10_literalsHeld_14 rfl ?_
    refine J_iload o dX10_literalsHeld_15 rfl ?_
    obtain ⟨v4, e3, hf⟩ := bnd_some hf
    refine J_vI o g kr dX10_literalsHeld_17 lkX10_387 ml_Dm_canGive vl_Dm_canGive ⟨rfl, rfl, Nat.le_of_ble_eq_true rfl, Nat.le_of_ble_eq_true rfl⟩ (c_Dm_canGive g.2.1 k_t1 r_x2 r_x3 r_x4 e3) kA_1 rfl ⟨by decide, by decide⟩ rfl rfl c1s_0 (fun q5 => ?_)
    refine J_if_eq 36 o dX10_literalsHeld_20 (by decide) q5 (fun c6 => ?_) (fun c7 => ?_)
    · have hf := ite_t c6 hf
      exact t_Dm_literalsHeld_36 k k_t1 r_x2 r_x3 r_x4 hf hc
    · have hf := ite_f c7 hf
      refine J_aload_n o dX10_literalsHeld_23 rfl ?_
      refine J_getF (true, 103) o g dX10_literalsHeld_24 flX10_51 kA_1 rfl rfl rfl ?_
      obtain ⟨v9, e8, hf⟩ := bnd_some hf
      refine J_vI o g kr dX10_literalsHeld_27 lkX10_392 ml_Wa_next vl_Wa_next ⟨rfl, rfl, Nat.le_of_ble_eq_true rfl, Nat.le_of_ble_eq_true rfl⟩ (c_Wa_next g.2.1  e8) kA_103 rfl ⟨by decide, by decide⟩ rfl rfl c1s_0 (fun q10 => ?_)
      refine J_if_eq 36 o dX10_literalsHeld_30 (by decide) q10 (fun c11 => ?_) (fun c12 => ?_)
      · have hf := ite_t c11 hf
        exact t_Dm_literalsHeld_36 k k_t1 r_x2 r_x3 r_x4 hf hc
      · have hf := ite_f c12 hf
        refine J_iload o dX10_literalsHeld_33 rfl ?_
        have hf := some_inj hf
        subst hf
        exact hc _ _ r_x4 dX10_literalsHeld_35
noncomputable def f_Dm_literalsHeld_6 (w : World) (t1 : Nat) (x2 : Int) (x3 : Int) (x4 : Int) : Option (World × Int) :=
  lp (fun z : (World × Int) => f_Dm_literalsHeld_6B z.1 t1 x2 x3 z.2) (w, x4)
theorem t_Dm_literalsHeld_6 {E : EE} {K : KT} {l : Launch} {H0 : Heap} (k : Kof TA E K l cX10_literalsHeld RX10 rm_Dm_literalsHeld) {w : World} {t1 : Nat} {x2 : Int} {x3 : Int} {x4 : Int} (k_t1 : TA.kd t1 = 1) (r_x2 : R32 x2) (r_x3 : R32 x3) {out : (World × Int)} (hf : f_Dm_literalsHeld_6 w t1 x2 x3 x4 = some out) (hc : (fun out : (World × Int) => RetI TA E K H0 cX10_literalsHeld out.1 out.2) out) : HW_Dm_literalsHeld_6 E K H0 t1 x2 x3 (w, x4) := by
  unfold f_Dm_literalsHeld_6 at hf
  refine lp_ind (P := HW_Dm_literalsHeld_6 E K H0 t1 x2 x3) hf ?_
  intro z o hs h1 h2
  intro r_x4
  refine t_Dm_literalsHeld_6B k k_t1 r_x2 r_x3 r_x4 hs ?_
  cases o with
  | inl z' => exact h1 z' rfl
  | inr r' => rw [h2 r' rfl]; exact hc
noncomputable def f_Dm_literalsHeld (w : World) (t1 : Nat) (x2 : Int) (x3 : Int) : Option (World × Int) :=
  bl (w t1 0) fun n2 => f_Dm_literalsHeld_6 w t1 x2 x3 n2
theorem t_Dm_literalsHeld_0 {E : EE} {K : KT} {l : Launch} {H0 : Heap} (k : Kof TA E K l cX10_literalsHeld RX10 rm_Dm_literalsHeld) {w : World} {t1 : Nat} {x2 : Int} {x3 : Int} {o4 : Option Value} (k_t1 : TA.kd t1 = 1) (r_x2 : R32 x2) (r_x3 : R32 x3) {out : (World × Int)} (hf : f_Dm_literalsHeld w t1 x2 x3 = some out) (hc : (fun out : (World × Int) => RetI TA E K H0 cX10_literalsHeld out.1 out.2) out) : Jj K (WdT TA E H0) w 0 [some (rf E.ad 1), some (rf E.ad t1), some (.int (ii x2)), some (.int (ii x3)), o4] [] := by
  unfold f_Dm_literalsHeld at hf
  have o := k.1
  have g := k.2.1
  have kr := k.2.2.1
  refine J_aload_n o dX10_literalsHeld_0 rfl ?_
  refine J_getI o g dX10_literalsHeld_1 flX10_187 k_t1 rfl (fun q1 => ?_)
  refine J_istore o dX10_literalsHeld_4 (Nat.le_of_ble_eq_true rfl) ?_
  have hf := bl_out hf
  exact (t_Dm_literalsHeld_6 k k_t1 r_x2 r_x3 hf hc) q1 
theorem c_Dm_literalsHeld {E : EE} {l : Launch} (hI : Inj TA E) {w : World} {t1 : Nat} {x2 : Int} {x3 : Int} (k_t1 : TA.kd t1 = 1) (r_x2 : R32 x2) (r_x3 : R32 x3) {out : (World × Int)} (hf : f_Dm_literalsHeld w t1 x2 x3 = some out) : ConI TA E l yX10_literalsHeld (WS yX10_literalsHeld cX10_literalsHeld 5 (some .int)) rm_Dm_literalsHeld [rf E.ad 1, rf E.ad t1, .int (ii x2), .int (ii x3)] w out.1 out.2 :=
  con_I (by decide +kernel) rfl (Nat.le_of_ble_eq_true rfl) (c1s_r (c1s_r (c1s_i (c1s_i c1s_0 (Nat.le_of_ble_eq_true rfl)) (Nat.le_of_ble_eq_true rfl)) (Nat.le_of_ble_eq_true rfl)) (Nat.le_of_ble_eq_true rfl)).1 ⟨rfl, rfl⟩ hI TnA (fun K H0 k hret => t_Dm_literalsHeld_0 k k_t1 r_x2 r_x3 hf hret)
abbrev rm_Co_reset : Room := { frames := 1, cells := 0, slots := 0, locals := 24 }
def HW_Co_reset_2 (E : EE) (K : KT) (H0 : Heap)  : (World × Int) → Prop := fun z => R32 z.2 → Jj K (WdT TA E H0) z.1 2 [some (rf E.ad 150), some (.int (ii z.2))] []
noncomputable def f_Co_reset_2B (w : World) (x1 : Int) : Option ((World × Int) ⊕ World) :=
  if 48 ≤ x1 then (some (Sum.inr w)) else (gd (0 ≤ x1 ∧ x1 < 48) (bl (up w 151 x1.toNat 1000000) fun w4 => bl (wr (x1 + 1)) fun n5 => some (Sum.inl (w4, n5))))
theorem t_Co_reset_2B {E : EE} {K : KT} {l : Launch} {H0 : Heap} (k : Kof TA E K l cX1_reset RX1 rm_Co_reset) {w : World} {x1 : Int} (r_x1 : R32 x1) {out : ((World × Int) ⊕ World)} (hf : f_Co_reset_2B w x1 = some out) (hc : (Sum.elim (HW_Co_reset_2 E K H0 ) (fun out : World => RetV TA E K H0 cX1_reset out)) out) : Jj K (WdT TA E H0) w 2 [some (rf E.ad 150), some (.int (ii x1))] [] := by
  unfold f_Co_reset_2B at hf
  have o := k.1
  have g := k.2.1
  have kr := k.2.2.1
  refine J_iload_n o dX1_reset_2 rfl ?_
  refine J_aload_n o dX1_reset_3 rfl ?_
  refine J_getF (true, 151) o g dX1_reset_4 flX1_9 kA_150 rfl rfl rfl ?_
  refine J_alen o g dX1_reset_7 kA_151 ⟨by decide, by decide⟩ zA_151 ?_
  refine J_icmp_ge 25 o dX1_reset_8 (by decide) r_x1 rl48 (fun c1 => ?_) (fun c2 => ?_)
  · have hf := ite_t c1 hf
    have hf := some_inj hf
    subst hf
    exact hc _ _  dX1_reset_25
  · have hf := ite_f c2 hf
    refine J_aload_n o dX1_reset_11 rfl ?_
    refine J_getF (true, 151) o g dX1_reset_12 flX1_9 kA_150 rfl rfl rfl ?_
    refine J_iload_n o dX1_reset_15 rfl ?_
    refine J_ldc o dX1_reset_16 kcX1_15 ?_
    obtain ⟨g3, hf⟩ := gd_some hf
    refine J_iast o g dX1_reset_18 kA_151 (fxA_40 _) r_x1 zA_151 g3 rl1000000 ?_
    have hf := bl_out hf
    have hf := bl_out hf
    refine J_iinc o dX1_reset_19 rfl ?_
    refine J_goto 2 o dX1_reset_22 (by decide) ?_
    have hf := some_inj hf
    subst hf
    exact hc (R_wr _) 
noncomputable def f_Co_reset_2 (w : World) (x1 : Int) : Option World :=
  lp (fun z : (World × Int) => f_Co_reset_2B z.1 z.2) (w, x1)
theorem t_Co_reset_2 {E : EE} {K : KT} {l : Launch} {H0 : Heap} (k : Kof TA E K l cX1_reset RX1 rm_Co_reset) {w : World} {x1 : Int}  {out : World} (hf : f_Co_reset_2 w x1 = some out) (hc : (fun out : World => RetV TA E K H0 cX1_reset out) out) : HW_Co_reset_2 E K H0  (w, x1) := by
  unfold f_Co_reset_2 at hf
  refine lp_ind (P := HW_Co_reset_2 E K H0 ) hf ?_
  intro z o hs h1 h2
  intro r_x1
  refine t_Co_reset_2B k r_x1 hs ?_
  cases o with
  | inl z' => exact h1 z' rfl
  | inr r' => rw [h2 r' rfl]; exact hc
noncomputable def f_Co_reset (w : World) : Option World :=
  f_Co_reset_2 w 0
theorem t_Co_reset_0 {E : EE} {K : KT} {l : Launch} {H0 : Heap} (k : Kof TA E K l cX1_reset RX1 rm_Co_reset) {w : World} {o1 : Option Value}  {out : World} (hf : f_Co_reset w = some out) (hc : (fun out : World => RetV TA E K H0 cX1_reset out) out) : Jj K (WdT TA E H0) w 0 [some (rf E.ad 150), o1] [] := by
  unfold f_Co_reset at hf
  have o := k.1
  have g := k.2.1
  have kr := k.2.2.1
  refine J_iconst o dX1_reset_0 ?_
  refine J_istore_n o dX1_reset_1 (Nat.le_of_ble_eq_true rfl) ?_
  exact (t_Co_reset_2 k  hf hc) rl0 
theorem c_Co_reset {E : EE} {l : Launch} (hI : Inj TA E) {w : World}  {out : World} (hf : f_Co_reset w = some out) : ConV TA E l yX1_reset (WS yX1_reset cX1_reset 2 none) rm_Co_reset [rf E.ad 150] w out :=
  con_V (by decide +kernel) rfl (Nat.le_of_ble_eq_true rfl) (c1s_r c1s_0 (Nat.le_of_ble_eq_true rfl)).1 ⟨rfl, rfl⟩ hI TnA (fun K H0 k hret => t_Co_reset_0 k  hf hret)
abbrev rm_Fa_costOf : Room := { frames := 2, cells := 0, slots := 0, locals := 45 }
noncomputable def f_Fa_costOf (w : World) (x1 : Int) : Option Int :=
  bnd (f_Fa_isFact w x1) fun v2 => if v2 = 0 then (some 1000000) else (gd (0 ≤ x1 ∧ x1 < 24) (some (w 10 x1.toNat)))
theorem t_Fa_costOf_0 {E : EE} {K : KT} {l : Launch} {H0 : Heap} (k : Kof TA E K l cX2_costOf RX2 rm_Fa_costOf) {w : World} {x1 : Int} (r_x1 : R32 x1) {out : Int} (hf : f_Fa_costOf w x1 = some out) (hc : (fun out : Int => RetI TA E K H0 cX2_costOf w out) out) : Jj K (WdT TA E H0) w 0 [some (rf E.ad 7), some (.int (ii x1))] [] := by
  unfold f_Fa_costOf at hf
  have o := k.1
  have g := k.2.1
  have kr := k.2.2.1
  refine J_aload_n o dX2_costOf_0 rfl ?_
  refine J_iload_n o dX2_costOf_1 rfl ?_
  obtain ⟨v2, e1, hf⟩ := bnd_some hf
  refine J_vI o g kr dX2_costOf_2 lkX2_38 ml_Fa_isFact vl_Fa_isFact ⟨rfl, rfl, Nat.le_of_ble_eq_true rfl, Nat.le_of_ble_eq_true rfl⟩ (c_Fa_isFact g.2.1 r_x1 e1) kA_7 rfl ⟨by decide, by decide⟩ rfl rfl c1s_0 (fun q3 => ?_)
  refine J_if_eq 17 o dX2_costOf_5 (by decide) q3 (fun c4 => ?_) (fun c5 => ?_)
  · have hf := ite_t c4 hf
    refine J_ldc o dX2_costOf_17 kcX2_42 ?_
    have hf := some_inj hf
    subst hf
    exact hc _ _ rl1000000 dX2_costOf_19
  · have hf := ite_f c5 hf
    refine J_aload_n o dX2_costOf_8 rfl ?_
    refine J_getF (true, 10) o g dX2_costOf_9 flX2_18 kA_7 rfl rfl rfl ?_
    refine J_iload_n o dX2_costOf_12 rfl ?_
    obtain ⟨g6, hf⟩ := gd_some hf
    refine J_iald o g dX2_costOf_13 kA_10 r_x1 zA_10 g6 (fun q7 => ?_)
    refine J_goto 19 o dX2_costOf_14 (by decide) ?_
    have hf := some_inj hf
    subst hf
    exact hc _ _ q7 dX2_costOf_19
theorem c_Fa_costOf {E : EE} {l : Launch} (hI : Inj TA E) {w : World} {x1 : Int} (r_x1 : R32 x1) {out : Int} (hf : f_Fa_costOf w x1 = some out) : ConI TA E l yX2_costOf (WS yX2_costOf cX2_costOf 2 (some .int)) rm_Fa_costOf [rf E.ad 7, .int (ii x1)] w w out :=
  con_I (by decide +kernel) rfl (Nat.le_of_ble_eq_true rfl) (c1s_r (c1s_i c1s_0 (Nat.le_of_ble_eq_true rfl)) (Nat.le_of_ble_eq_true rfl)).1 ⟨rfl, rfl⟩ hI TnA (fun K H0 k hret => t_Fa_costOf_0 k r_x1 hf hret)
abbrev rm_Co_lower : Room := { frames := 1, cells := 0, slots := 0, locals := 24 }
noncomputable def f_Co_lower (w : World) (x1 : Int) (x2 : Int) : Option (World × Int) :=
  if x1 < 0 then (some (w, 0)) else (if 48 ≤ x1 then (some (w, 0)) else (gd (0 ≤ x1 ∧ x1 < 48) (if x2 < (w 151 x1.toNat) then (gd (0 ≤ x1 ∧ x1 < 48) (bl (up w 151 x1.toNat x2) fun w10 => some (w10, 1))) else (some (w, 0)))))
theorem t_Co_lower_0 {E : EE} {K : KT} {l : Launch} {H0 : Heap} (k : Kof TA E K l cX1_lower RX1 rm_Co_lower) {w : World} {x1 : Int} {x2 : Int} (r_x1 : R32 x1) (r_x2 : R32 x2) {out : (World × Int)} (hf : f_Co_lower w x1 x2 = some out) (hc : (fun out : (World × Int) => RetZ TA E K H0 cX1_lower out.1 out.2) out) : Jj K (WdT TA E H0) w 0 [some (rf E.ad 150), some (.int (ii x1)), some (.int (ii x2))] [] := by
  unfold f_Co_lower at hf
  have o := k.1
  have g := k.2.1
  have kr := k.2.2.1
  refine J_iload_n o dX1_lower_0 rfl ?_
  refine J_if_lt 23 o dX1_lower_1 (by decide) r_x1 (fun c1 => ?_) (fun c2 => ?_)
  · have hf := ite_t c1 hf
    refine J_iconst o dX1_lower_23 ?_
    have hf := some_inj hf
    subst hf
    exact hc _ _ (Or.inl rfl) dX1_lower_24
  · have hf := ite_f c2 hf
    refine J_iload_n o dX1_lower_4 rfl ?_
    refine J_aload_n o dX1_lower_5 rfl ?_
    refine J_getF (true, 151) o g dX1_lower_6 flX1_9 kA_150 rfl rfl rfl ?_
    refine J_alen o g dX1_lower_9 kA_151 ⟨by decide, by decide⟩ zA_151 ?_
    refine J_icmp_ge 23 o dX1_lower_10 (by decide) r_x1 rl48 (fun c3 => ?_) (fun c4 => ?_)
    · have hf := ite_t c3 hf
      refine J_iconst o dX1_lower_23 ?_
      have hf := some_inj hf
      subst hf
      exact hc _ _ (Or.inl rfl) dX1_lower_24
    · have hf := ite_f c4 hf
      refine J_aload_n o dX1_lower_13 rfl ?_
      refine J_getF (true, 151) o g dX1_lower_14 flX1_9 kA_150 rfl rfl rfl ?_
      refine J_iload_n o dX1_lower_17 rfl ?_
      obtain ⟨g5, hf⟩ := gd_some hf
      refine J_iald o g dX1_lower_18 kA_151 r_x1 zA_151 g5 (fun q6 => ?_)
      refine J_iload_n o dX1_lower_19 rfl ?_
      refine J_icmp_gt 25 o dX1_lower_20 (by decide) q6 r_x2 (fun c7 => ?_) (fun c8 => ?_)
      · have hf := ite_t c7 hf
        refine J_aload_n o dX1_lower_25 rfl ?_
        refine J_getF (true, 151) o g dX1_lower_26 flX1_9 kA_150 rfl rfl rfl ?_
        refine J_iload_n o dX1_lower_29 rfl ?_
        refine J_iload_n o dX1_lower_30 rfl ?_
        obtain ⟨g9, hf⟩ := gd_some hf
        refine J_iast o g dX1_lower_31 kA_151 (fxA_40 _) r_x1 zA_151 g9 r_x2 ?_
        have hf := bl_out hf
        refine J_iconst o dX1_lower_32 ?_
        have hf := some_inj hf
        subst hf
        exact hc _ _ (Or.inr rfl) dX1_lower_33
      · have hf := ite_f c8 hf
        refine J_iconst o dX1_lower_23 ?_
        have hf := some_inj hf
        subst hf
        exact hc _ _ (Or.inl rfl) dX1_lower_24
theorem c_Co_lower {E : EE} {l : Launch} (hI : Inj TA E) {w : World} {x1 : Int} {x2 : Int} (r_x1 : R32 x1) (r_x2 : R32 x2) {out : (World × Int)} (hf : f_Co_lower w x1 x2 = some out) : ConI TA E l yX1_lower (WS yX1_lower cX1_lower 3 (some .boolean)) rm_Co_lower [rf E.ad 150, .int (ii x1), .int (ii x2)] w out.1 out.2 :=
  con_Z (by decide +kernel) rfl (Nat.le_of_ble_eq_true rfl) (c1s_r (c1s_i (c1s_i c1s_0 (Nat.le_of_ble_eq_true rfl)) (Nat.le_of_ble_eq_true rfl)) (Nat.le_of_ble_eq_true rfl)).1 ⟨rfl, rfl⟩ hI TnA (fun K H0 k hret => t_Co_lower_0 k r_x1 r_x2 hf hret)
abbrev rm_Co_costOf : Room := { frames := 1, cells := 0, slots := 0, locals := 24 }
noncomputable def f_Co_costOf (w : World) (x1 : Int) : Option Int :=
  if x1 < 0 then (some 1000000) else (if 48 ≤ x1 then (some 1000000) else (gd (0 ≤ x1 ∧ x1 < 48) (some (w 151 x1.toNat))))
theorem t_Co_costOf_0 {E : EE} {K : KT} {l : Launch} {H0 : Heap} (k : Kof TA E K l cX1_costOf RX1 rm_Co_costOf) {w : World} {x1 : Int} (r_x1 : R32 x1) {out : Int} (hf : f_Co_costOf w x1 = some out) (hc : (fun out : Int => RetI TA E K H0 cX1_costOf w out) out) : Jj K (WdT TA E H0) w 0 [some (rf E.ad 150), some (.int (ii x1))] [] := by
  unfold f_Co_costOf at hf
  have o := k.1
  have g := k.2.1
  have kr := k.2.2.1
  refine J_iload_n o dX1_costOf_0 rfl ?_
  refine J_if_lt 22 o dX1_costOf_1 (by decide) r_x1 (fun c1 => ?_) (fun c2 => ?_)
  · have hf := ite_t c1 hf
    refine J_ldc o dX1_costOf_22 kcX1_15 ?_
    have hf := some_inj hf
    subst hf
    exact hc _ _ rl1000000 dX1_costOf_24
  · have hf := ite_f c2 hf
    refine J_iload_n o dX1_costOf_4 rfl ?_
    refine J_aload_n o dX1_costOf_5 rfl ?_
    refine J_getF (true, 151) o g dX1_costOf_6 flX1_9 kA_150 rfl rfl rfl ?_
    refine J_alen o g dX1_costOf_9 kA_151 ⟨by decide, by decide⟩ zA_151 ?_
    refine J_icmp_ge 22 o dX1_costOf_10 (by decide) r_x1 rl48 (fun c3 => ?_) (fun c4 => ?_)
    · have hf := ite_t c3 hf
      refine J_ldc o dX1_costOf_22 kcX1_15 ?_
      have hf := some_inj hf
      subst hf
      exact hc _ _ rl1000000 dX1_costOf_24
    · have hf := ite_f c4 hf
      refine J_aload_n o dX1_costOf_13 rfl ?_
      refine J_getF (true, 151) o g dX1_costOf_14 flX1_9 kA_150 rfl rfl rfl ?_
      refine J_iload_n o dX1_costOf_17 rfl ?_
      obtain ⟨g5, hf⟩ := gd_some hf
      refine J_iald o g dX1_costOf_18 kA_151 r_x1 zA_151 g5 (fun q6 => ?_)
      refine J_goto 24 o dX1_costOf_19 (by decide) ?_
      have hf := some_inj hf
      subst hf
      exact hc _ _ q6 dX1_costOf_24
theorem c_Co_costOf {E : EE} {l : Launch} (hI : Inj TA E) {w : World} {x1 : Int} (r_x1 : R32 x1) {out : Int} (hf : f_Co_costOf w x1 = some out) : ConI TA E l yX1_costOf (WS yX1_costOf cX1_costOf 2 (some .int)) rm_Co_costOf [rf E.ad 150, .int (ii x1)] w w out :=
  con_I (by decide +kernel) rfl (Nat.le_of_ble_eq_true rfl) (c1s_r (c1s_i c1s_0 (Nat.le_of_ble_eq_true rfl)) (Nat.le_of_ble_eq_true rfl)).1 ⟨rfl, rfl⟩ hI TnA (fun K H0 k hret => t_Co_costOf_0 k r_x1 hf hret)
abbrev rm_Wa_cost : Room := { frames := 2, cells := 0, slots := 0, locals := 45 }
def HW_Wa_cost_4 (E : EE) (K : KT) (H0 : Heap) (w : World) : (Int × Int) → Prop := fun z => R32 z.1 → R32 z.2 → Jj K (WdT TA E H0) w 4 [some (rf E.ad 103), some (rf E.ad 150), some (.int (ii z.1)), some (.int (ii z.2))] []
noncomputable def f_Wa_cost_50 (w : World) (x3 : Int) (s0 : Int) (s1 : Int) : Option ((Int × Int) ⊕ Int) :=
  bl (wr (s0 + s1)) fun n1 => bl (wr (x3 + 1)) fun n2 => some (Sum.inl (n1, n2))
theorem t_Wa_cost_50 {E : EE} {K : KT} {l : Launch} {H0 : Heap} (k : Kof TA E K l cX9_cost RX9 rm_Wa_cost) {w : World} {x3 : Int} {s0 : Int} {s1 : Int} {o2 : Option Value} (r_x3 : R32 x3) (r_s0 : R32 s0) (r_s1 : R32 s1) {out : ((Int × Int) ⊕ Int)} (hf : f_Wa_cost_50 w x3 s0 s1 = some out) (hc : (Sum.elim (HW_Wa_cost_4 E K H0 w) (fun out : Int => RetI TA E K H0 cX9_cost w out)) out) : Jj K (WdT TA E H0) w 50 [some (rf E.ad 103), some (rf E.ad 150), o2, some (.int (ii x3))] [.int (ii s1), .int (ii s0)] := by
  unfold f_Wa_cost_50 at hf
  have o := k.1
  have g := k.2.1
  have kr := k.2.2.1
  refine J_iadd o dX9_cost_50 ?_
  refine J_istore_n o dX9_cost_51 (Nat.le_of_ble_eq_true rfl) ?_
  have hf := bl_out hf
  have hf := bl_out hf
  refine J_iinc o dX9_cost_52 rfl ?_
  refine J_goto 4 o dX9_cost_55 (by decide) ?_
  have hf := some_inj hf
  subst hf
  exact hc (R_wr _) (R_wr _) 
noncomputable def f_Wa_cost_4B (w : World) (x2 : Int) (x3 : Int) : Option ((Int × Int) ⊕ Int) :=
  gd (kdA ((w 103 1).toNat) = 1) (if (w ((w 103 1).toNat) 0) ≤ x3 then (some (Sum.inr x2)) else (if 5 ≤ x3 then (some (Sum.inr x2)) else (gd (kdA ((w 103 1).toNat) = 1) (bnd (f_Bo_formOf w ((w 103 1).toNat) x3) fun v9 => if v9 = 0 then (gd (0 ≤ x3 ∧ x3 < 5) (bnd (f_Co_costOf w (w 105 x3.toNat)) fun v16 => f_Wa_cost_50 w x3 x2 v16)) else (f_Wa_cost_50 w x3 x2 0)))))
theorem t_Wa_cost_4B {E : EE} {K : KT} {l : Launch} {H0 : Heap} (k : Kof TA E K l cX9_cost RX9 rm_Wa_cost) {w : World} {x2 : Int} {x3 : Int} (r_x2 : R32 x2) (r_x3 : R32 x3) {out : ((Int × Int) ⊕ Int)} (hf : f_Wa_cost_4B w x2 x3 = some out) (hc : (Sum.elim (HW_Wa_cost_4 E K H0 w) (fun out : Int => RetI TA E K H0 cX9_cost w out)) out) : Jj K (WdT TA E H0) w 4 [some (rf E.ad 103), some (rf E.ad 150), some (.int (ii x2)), some (.int (ii x3))] [] := by
  unfold f_Wa_cost_4B at hf
  have o := k.1
  have g := k.2.1
  have kr := k.2.2.1
  refine J_iload_n o dX9_cost_4 rfl ?_
  refine J_aload_n o dX9_cost_5 rfl ?_
  refine J_getR o g dX9_cost_6 flX9_25 kA_103 rfl ?_
  obtain ⟨g1, hf⟩ := gd_some hf
  refine J_getI o g dX9_cost_9 flX9_149 g1 rfl (fun q2 => ?_)
  refine J_icmp_ge 58 o dX9_cost_12 (by decide) r_x3 q2 (fun c3 => ?_) (fun c4 => ?_)
  · have hf := ite_t c3 hf
    refine J_iload_n o dX9_cost_58 rfl ?_
    have hf := some_inj hf
    subst hf
    exact hc _ _ r_x2 dX9_cost_59
  · have hf := ite_f c4 hf
    refine J_iload_n o dX9_cost_15 rfl ?_
    refine J_aload_n o dX9_cost_16 rfl ?_
    refine J_getF (true, 105) o g dX9_cost_17 flX9_15 kA_103 rfl rfl rfl ?_
    refine J_alen o g dX9_cost_20 kA_105 ⟨by decide, by decide⟩ zA_105 ?_
    refine J_icmp_ge 58 o dX9_cost_21 (by decide) r_x3 rl5 (fun c5 => ?_) (fun c6 => ?_)
    · have hf := ite_t c5 hf
      refine J_iload_n o dX9_cost_58 rfl ?_
      have hf := some_inj hf
      subst hf
      exact hc _ _ r_x2 dX9_cost_59
    · have hf := ite_f c6 hf
      refine J_iload_n o dX9_cost_24 rfl ?_
      refine J_aload_n o dX9_cost_25 rfl ?_
      refine J_getR o g dX9_cost_26 flX9_25 kA_103 rfl ?_
      refine J_iload_n o dX9_cost_29 rfl ?_
      obtain ⟨g7, hf⟩ := gd_some hf
      obtain ⟨v9, e8, hf⟩ := bnd_some hf
      refine J_vI o g kr dX9_cost_30 lkX9_75 ml_Bo_formOf vl_Bo_formOf ⟨rfl, rfl, Nat.le_of_ble_eq_true rfl, Nat.le_of_ble_eq_true rfl⟩ (c_Bo_formOf g.2.1 g7 r_x3 e8) g7 rfl ⟨by decide, by decide⟩ rfl rfl (c1s_i c1s_0 (Nat.le_of_ble_eq_true rfl)) (fun q10 => ?_)
      refine J_if_ne 49 o dX9_cost_33 (by decide) q10 (fun c11 => ?_) (fun c12 => ?_)
      · have hf := ite_f c11 hf
        refine J_iconst o dX9_cost_49 ?_
        exact t_Wa_cost_50 k r_x3 r_x2 rl0 hf hc
      · have hf := ite_t c12 hf
        refine J_aload_n o dX9_cost_36 rfl ?_
        refine J_aload_n o dX9_cost_37 rfl ?_
        refine J_getF (true, 105) o g dX9_cost_38 flX9_15 kA_103 rfl rfl rfl ?_
        refine J_iload_n o dX9_cost_41 rfl ?_
        obtain ⟨g13, hf⟩ := gd_some hf
        refine J_iald o g dX9_cost_42 kA_105 r_x3 zA_105 g13 (fun q14 => ?_)
        obtain ⟨v16, e15, hf⟩ := bnd_some hf
        refine J_vI o g kr dX9_cost_43 lkX9_152 ml_Co_costOf vl_Co_costOf ⟨rfl, rfl, Nat.le_of_ble_eq_true rfl, Nat.le_of_ble_eq_true rfl⟩ (c_Co_costOf g.2.1 q14 e15) kA_150 rfl ⟨by decide, by decide⟩ rfl rfl (c1s_i c1s_0 (Nat.le_of_ble_eq_true rfl)) (fun q17 => ?_)
        refine J_goto 50 o dX9_cost_46 (by decide) ?_
        exact t_Wa_cost_50 k r_x3 r_x2 q17 hf hc
noncomputable def f_Wa_cost_4 (w : World) (x2 : Int) (x3 : Int) : Option Int :=
  lp (fun z : (Int × Int) => f_Wa_cost_4B w z.1 z.2) (x2, x3)
theorem t_Wa_cost_4 {E : EE} {K : KT} {l : Launch} {H0 : Heap} (k : Kof TA E K l cX9_cost RX9 rm_Wa_cost) {w : World} {x2 : Int} {x3 : Int}  {out : Int} (hf : f_Wa_cost_4 w x2 x3 = some out) (hc : (fun out : Int => RetI TA E K H0 cX9_cost w out) out) : HW_Wa_cost_4 E K H0 w (x2, x3) := by
  unfold f_Wa_cost_4 at hf
  refine lp_ind (P := HW_Wa_cost_4 E K H0 w) hf ?_
  intro z o hs h1 h2
  intro r_x2 r_x3
  refine t_Wa_cost_4B k r_x2 r_x3 hs ?_
  cases o with
  | inl z' => exact h1 z' rfl
  | inr r' => rw [h2 r' rfl]; exact hc
noncomputable def f_Wa_cost (w : World) : Option Int :=
  f_Wa_cost_4 w 1 0
theorem t_Wa_cost_0 {E : EE} {K : KT} {l : Launch} {H0 : Heap} (k : Kof TA E K l cX9_cost RX9 rm_Wa_cost) {w : World} {o2 o3 : Option Value}  {out : Int} (hf : f_Wa_cost w = some out) (hc : (fun out : Int => RetI TA E K H0 cX9_cost w out) out) : Jj K (WdT TA E H0) w 0 [some (rf E.ad 103), some (rf E.ad 150), o2, o3] [] := by
  unfold f_Wa_cost at hf
  have o := k.1
  have g := k.2.1
  have kr := k.2.2.1
  refine J_iconst o dX9_cost_0 ?_
  refine J_istore_n o dX9_cost_1 (Nat.le_of_ble_eq_true rfl) ?_
  refine J_iconst o dX9_cost_2 ?_
  refine J_istore_n o dX9_cost_3 (Nat.le_of_ble_eq_true rfl) ?_
  exact (t_Wa_cost_4 k  hf hc) rl1 rl0 
theorem c_Wa_cost {E : EE} {l : Launch} (hI : Inj TA E) {w : World}  {out : Int} (hf : f_Wa_cost w = some out) : ConI TA E l yX9_cost (WS yX9_cost cX9_cost 4 (some .int)) rm_Wa_cost [rf E.ad 103, rf E.ad 150] w w out :=
  con_I (by decide +kernel) rfl (Nat.le_of_ble_eq_true rfl) (c1s_r (c1s_r c1s_0 (Nat.le_of_ble_eq_true rfl)) (Nat.le_of_ble_eq_true rfl)).1 ⟨rfl, rfl⟩ hI TnA (fun K H0 k hret => t_Wa_cost_0 k  hf hret)
abbrev rm_Dm_lowerByRules : Room := { frames := 5, cells := 0, slots := 0, locals := 123 }
def HW_Dm_lowerByRules_4 (E : EE) (K : KT) (H0 : Heap)  : (World × Int × Int) → Prop := fun z => R32 z.2.1 → R32 z.2.2 → ∀ o3 o4 o5 : Option Value, Jj K (WdT TA E H0) z.1 4 [some (rf E.ad 1), some (.int (ii z.2.1)), some (.int (ii z.2.2)), o3, o4, o5] []
def HW_Dm_lowerByRules_43 (E : EE) (K : KT) (H0 : Heap) (x2 : Int) (t3 : Nat) : (World × Int × Int) → Prop := fun z => R32 z.2.1 → R32 z.2.2 → ∀ o5 : Option Value, Jj K (WdT TA E H0) z.1 43 [some (rf E.ad 1), some (.int (ii z.2.1)), some (.int (ii x2)), some (rf E.ad t3), some (.int (ii z.2.2)), o5] []
noncomputable def f_Dm_lowerByRules_128 (w : World) (x1 : Int) (x2 : Int) : Option ((World × Int × Int) ⊕ (World × Int)) :=
  bl (wr (x2 + 1)) fun n1 => some (Sum.inl (w, x1, n1))
theorem t_Dm_lowerByRules_128 {E : EE} {K : KT} {l : Launch} {H0 : Heap} (k : Kof TA E K l cX10_lowerByRules RX10 rm_Dm_lowerByRules) {w : World} {x1 : Int} {x2 : Int} {o3 o4 o5 : Option Value} (r_x1 : R32 x1) (r_x2 : R32 x2) {out : ((World × Int × Int) ⊕ (World × Int))} (hf : f_Dm_lowerByRules_128 w x1 x2 = some out) (hc : (Sum.elim (HW_Dm_lowerByRules_4 E K H0 ) (fun out : (World × Int) => RetZ TA E K H0 cX10_lowerByRules out.1 out.2)) out) : Jj K (WdT TA E H0) w 128 [some (rf E.ad 1), some (.int (ii x1)), some (.int (ii x2)), o3, o4, o5] [] := by
  unfold f_Dm_lowerByRules_128 at hf
  have o := k.1
  have g := k.2.1
  have kr := k.2.2.1
  have hf := bl_out hf
  refine J_iinc o dX10_lowerByRules_128 rfl ?_
  refine J_goto 4 o dX10_lowerByRules_131 (by decide) ?_
  have hf := some_inj hf
  subst hf
  exact hc r_x1 (R_wr _) _ _ _
noncomputable def f_Dm_lowerByRules_121 (w : World) (x2 : Int) (t3 : Nat) (x4 : Int) (s0 : Int) : Option ((World × Int × Int) ⊕ ((World × Int × Int) ⊕ (World × Int))) :=
  bl (wr (x4 + 1)) fun n1 => some (Sum.inl (w, s0, n1))
theorem t_Dm_lowerByRules_121 {E : EE} {K : KT} {l : Launch} {H0 : Heap} (k : Kof TA E K l cX10_lowerByRules RX10 rm_Dm_lowerByRules) {w : World} {x2 : Int} {t3 : Nat} {x4 : Int} {s0 : Int} {o1 o5 : Option Value} (r_x2 : R32 x2) (k_t3 : TA.kd t3 = 1) (r_x4 : R32 x4) (r_s0 : R32 s0) {out : ((World × Int × Int) ⊕ ((World × Int × Int) ⊕ (World × Int)))} (hf : f_Dm_lowerByRules_121 w x2 t3 x4 s0 = some out) (hc : (Sum.elim (HW_Dm_lowerByRules_43 E K H0 x2 t3) (Sum.elim (HW_Dm_lowerByRules_4 E K H0 ) (fun out : (World × Int) => RetZ TA E K H0 cX10_lowerByRules out.1 out.2))) out) : Jj K (WdT TA E H0) w 121 [some (rf E.ad 1), o1, some (.int (ii x2)), some (rf E.ad t3), some (.int (ii x4)), o5] [.int (ii s0)] := by
  unfold f_Dm_lowerByRules_121 at hf
  have o := k.1
  have g := k.2.1
  have kr := k.2.2.1
  refine J_istore_n o dX10_lowerByRules_121 (Nat.le_of_ble_eq_true rfl) ?_
  have hf := bl_out hf
  refine J_iinc o dX10_lowerByRules_122 rfl ?_
  refine J_goto 43 o dX10_lowerByRules_125 (by decide) ?_
  have hf := some_inj hf
  subst hf
  exact hc r_s0 (R_wr _) _
noncomputable def f_Dm_lowerByRules_116 (w : World) (x2 : Int) (t3 : Nat) (x4 : Int) : Option ((World × Int × Int) ⊕ ((World × Int × Int) ⊕ (World × Int))) :=
  f_Dm_lowerByRules_121 w x2 t3 x4 1
theorem t_Dm_lowerByRules_116 {E : EE} {K : KT} {l : Launch} {H0 : Heap} (k : Kof TA E K l cX10_lowerByRules RX10 rm_Dm_lowerByRules) {w : World} {x2 : Int} {t3 : Nat} {x4 : Int} {o1 o5 : Option Value} (r_x2 : R32 x2) (k_t3 : TA.kd t3 = 1) (r_x4 : R32 x4) {out : ((World × Int × Int) ⊕ ((World × Int × Int) ⊕ (World × Int)))} (hf : f_Dm_lowerByRules_116 w x2 t3 x4 = some out) (hc : (Sum.elim (HW_Dm_lowerByRules_43 E K H0 x2 t3) (Sum.elim (HW_Dm_lowerByRules_4 E K H0 ) (fun out : (World × Int) => RetZ TA E K H0 cX10_lowerByRules out.1 out.2))) out) : Jj K (WdT TA E H0) w 116 [some (rf E.ad 1), o1, some (.int (ii x2)), some (rf E.ad t3), some (.int (ii x4)), o5] [] := by
  unfold f_Dm_lowerByRules_116 at hf
  have o := k.1
  have g := k.2.1
  have kr := k.2.2.1
  refine J_iconst o dX10_lowerByRules_116 ?_
  refine J_goto 121 o dX10_lowerByRules_117 (by decide) ?_
  exact t_Dm_lowerByRules_121 k r_x2 k_t3 r_x4 rl1 hf hc
noncomputable def f_Dm_lowerByRules_43B (w : World) (x1 : Int) (x2 : Int) (t3 : Nat) (x4 : Int) : Option ((World × Int × Int) ⊕ ((World × Int × Int) ⊕ (World × Int))) :=
  if 10000000 ≤ x4 then (bnd (f_Dm_lowerByRules_128 w x1 x2) fun y3 => some (Sum.inr y3)) else (if (w t3 2) = 0 then (bnd (f_Wa_next w ) fun v9 => if v9.2 = 0 then (bnd (f_Dm_lowerByRules_128 v9.1 x1 x2) fun y13 => some (Sum.inr y13)) else (bnd (f_Dm_present v9.1 ) fun v15 => bnd (f_Wa_tuple v9.1 5) fun v19 => gd (kdA v15 = 6) (bnd (f_Mo_slotLike v9.1 v15 (v9.1 t3 1) v19) fun v23 => bnd (f_Wa_cost v9.1 ) fun v26 => bnd (f_Co_lower v9.1 v23 v26) fun v29 => if v29.2 = 0 then (if x1 = 0 then (f_Dm_lowerByRules_121 v29.1 x2 t3 x4 0) else (f_Dm_lowerByRules_116 v29.1 x2 t3 x4)) else (f_Dm_lowerByRules_116 v29.1 x2 t3 x4)))) else (bnd (f_Dm_lowerByRules_128 w x1 x2) fun y7 => some (Sum.inr y7)))
theorem t_Dm_lowerByRules_43B {E : EE} {K : KT} {l : Launch} {H0 : Heap} (k : Kof TA E K l cX10_lowerByRules RX10 rm_Dm_lowerByRules) {w : World} {x1 : Int} {x2 : Int} {t3 : Nat} {x4 : Int} {o5 : Option Value} (r_x1 : R32 x1) (r_x2 : R32 x2) (k_t3 : TA.kd t3 = 1) (r_x4 : R32 x4) {out : ((World × Int × Int) ⊕ ((World × Int × Int) ⊕ (World × Int)))} (hf : f_Dm_lowerByRules_43B w x1 x2 t3 x4 = some out) (hc : (Sum.elim (HW_Dm_lowerByRules_43 E K H0 x2 t3) (Sum.elim (HW_Dm_lowerByRules_4 E K H0 ) (fun out : (World × Int) => RetZ TA E K H0 cX10_lowerByRules out.1 out.2))) out) : Jj K (WdT TA E H0) w 43 [some (rf E.ad 1), some (.int (ii x1)), some (.int (ii x2)), some (rf E.ad t3), some (.int (ii x4)), o5] [] := by
  unfold f_Dm_lowerByRules_43B at hf
  have o := k.1
  have g := k.2.1
  have kr := k.2.2.1
  refine J_iload o dX10_lowerByRules_43 rfl ?_
  refine J_ldcw o dX10_lowerByRules_45 kcX10_391 ?_
  refine J_icmp_ge 128 o dX10_lowerByRules_48 (by decide) r_x4 rl10000000 (fun c1 => ?_) (fun c2 => ?_)
  · have hf := ite_t c1 hf
    obtain ⟨y3, hf1, hf⟩ := bnd_some hf
    have hf := some_inj hf
    subst hf
    exact t_Dm_lowerByRules_128 k r_x1 r_x2 hf1 hc
  · have hf := ite_f c2 hf
    refine J_aload_n o dX10_lowerByRules_51 rfl ?_
    refine J_getI o g dX10_lowerByRules_52 flX10_253 k_t3 rfl (fun q4 => ?_)
    refine J_if_ne 128 o dX10_lowerByRules_55 (by decide) q4 (fun c5 => ?_) (fun c6 => ?_)
    · have hf := ite_f c5 hf
      obtain ⟨y7, hf1, hf⟩ := bnd_some hf
      have hf := some_inj hf
      subst hf
      exact t_Dm_lowerByRules_128 k r_x1 r_x2 hf1 hc
    · have hf := ite_t c6 hf
      refine J_aload_n o dX10_lowerByRules_58 rfl ?_
      refine J_getF (true, 103) o g dX10_lowerByRules_59 flX10_51 kA_1 rfl rfl rfl ?_
      obtain ⟨v9, e8, hf⟩ := bnd_some hf
      refine J_vI o g kr dX10_lowerByRules_62 lkX10_392 ml_Wa_next vl_Wa_next ⟨rfl, rfl, Nat.le_of_ble_eq_true rfl, Nat.le_of_ble_eq_true rfl⟩ (c_Wa_next g.2.1  e8) kA_103 rfl ⟨by decide, by decide⟩ rfl rfl c1s_0 (fun q10 => ?_)
      refine J_if_eq 128 o dX10_lowerByRules_65 (by decide) q10 (fun c11 => ?_) (fun c12 => ?_)
      · have hf := ite_t c11 hf
        obtain ⟨y13, hf1, hf⟩ := bnd_some hf
        have hf := some_inj hf
        subst hf
        exact t_Dm_lowerByRules_128 k r_x1 r_x2 hf1 hc
      · have hf := ite_f c12 hf
        refine J_aload_n o dX10_lowerByRules_68 rfl ?_
        obtain ⟨v15, e14, hf⟩ := bnd_some hf
        refine J_vR o g kr dX10_lowerByRules_69 lkX10_261 ml_Dm_present vl_Dm_present ⟨rfl, rfl, Nat.le_of_ble_eq_true rfl, Nat.le_of_ble_eq_true rfl⟩ (c_Dm_present g.2.1  e14) kA_1 rfl ⟨by decide, by decide⟩ rfl rfl c1s_0 ?_
        refine J_aload_n o dX10_lowerByRules_72 rfl ?_
        refine J_getI o g dX10_lowerByRules_73 flX10_208 k_t3 rfl (fun q17 => ?_)
        refine J_aload_n o dX10_lowerByRules_76 rfl ?_
        refine J_getF (true, 103) o g dX10_lowerByRules_77 flX10_51 kA_1 rfl rfl rfl ?_
        refine J_iconst o dX10_lowerByRules_80 ?_
        obtain ⟨v19, e18, hf⟩ := bnd_some hf
        refine J_vI o g kr dX10_lowerByRules_81 lkX10_415 ml_Wa_tuple vl_Wa_tuple ⟨rfl, rfl, Nat.le_of_ble_eq_true rfl, Nat.le_of_ble_eq_true rfl⟩ (c_Wa_tuple g.2.1 rl5 e18) kA_103 rfl ⟨by decide, by decide⟩ rfl rfl (c1s_i (c1s_r c1s_0 (Nat.le_of_ble_eq_true rfl)) (Nat.le_of_ble_eq_true rfl)) (fun q20 => ?_)
        obtain ⟨g21, hf⟩ := gd_some hf
        obtain ⟨v23, e22, hf⟩ := bnd_some hf
        refine J_vI o g kr dX10_lowerByRules_84 lkX10_303 ml_Mo_slotLike vl_Mo_slotLike ⟨rfl, rfl, Nat.le_of_ble_eq_true rfl, Nat.le_of_ble_eq_true rfl⟩ (c_Mo_slotLike g.2.1 g21 q17 q20 e22) g21 rfl ⟨by decide, by decide⟩ rfl rfl c1s_0 (fun q24 => ?_)
        refine J_istore o dX10_lowerByRules_87 (Nat.le_of_ble_eq_true rfl) ?_
        refine J_aload_n o dX10_lowerByRules_89 rfl ?_
        refine J_getF (true, 150) o g dX10_lowerByRules_90 flX10_74 kA_1 rfl rfl rfl ?_
        refine J_iload o dX10_lowerByRules_93 rfl ?_
        refine J_aload_n o dX10_lowerByRules_95 rfl ?_
        refine J_getF (true, 103) o g dX10_lowerByRules_96 flX10_51 kA_1 rfl rfl rfl ?_
        refine J_aload_n o dX10_lowerByRules_99 rfl ?_
        refine J_getF (true, 150) o g dX10_lowerByRules_100 flX10_74 kA_1 rfl rfl rfl ?_
        obtain ⟨v26, e25, hf⟩ := bnd_some hf
        refine J_vI o g kr dX10_lowerByRules_103 lkX10_418 ml_Wa_cost vl_Wa_cost ⟨rfl, rfl, Nat.le_of_ble_eq_true rfl, Nat.le_of_ble_eq_true rfl⟩ (c_Wa_cost g.2.1  e25) kA_103 rfl ⟨by decide, by decide⟩ rfl rfl (c1s_i (c1s_r c1s_0 (Nat.le_of_ble_eq_true rfl)) (Nat.le_of_ble_eq_true rfl)) (fun q27 => ?_)
        obtain ⟨v29, e28, hf⟩ := bnd_some hf
        refine J_vI o g kr dX10_lowerByRules_106 lkX10_409 ml_Co_lower vl_Co_lower ⟨rfl, rfl, Nat.le_of_ble_eq_true rfl, Nat.le_of_ble_eq_true rfl⟩ (c_Co_lower g.2.1 q24 q27 e28) kA_150 rfl ⟨by decide, by decide⟩ rfl rfl c1s_0 (fun q30 => ?_)
        refine J_if_ne 116 o dX10_lowerByRules_109 (by decide) q30 (fun c31 => ?_) (fun c32 => ?_)
        · have hf := ite_f c31 hf
          exact t_Dm_lowerByRules_116 k r_x2 k_t3 r_x4 hf hc
        · have hf := ite_t c32 hf
          refine J_iload_n o dX10_lowerByRules_112 rfl ?_
          refine J_if_eq 120 o dX10_lowerByRules_113 (by decide) r_x1 (fun c33 => ?_) (fun c34 => ?_)
          · have hf := ite_t c33 hf
            refine J_iconst o dX10_lowerByRules_120 ?_
            exact t_Dm_lowerByRules_121 k r_x2 k_t3 r_x4 rl0 hf hc
          · have hf := ite_f c34 hf
            exact t_Dm_lowerByRules_116 k r_x2 k_t3 r_x4 hf hc
noncomputable def f_Dm_lowerByRules_43 (w : World) (x1 : Int) (x2 : Int) (t3 : Nat) (x4 : Int) : Option ((World × Int × Int) ⊕ (World × Int)) :=
  lp (fun z : (World × Int × Int) => f_Dm_lowerByRules_43B z.1 z.2.1 x2 t3 z.2.2) (w, x1, x4)
theorem t_Dm_lowerByRules_43 {E : EE} {K : KT} {l : Launch} {H0 : Heap} (k : Kof TA E K l cX10_lowerByRules RX10 rm_Dm_lowerByRules) {w : World} {x1 : Int} {x2 : Int} {t3 : Nat} {x4 : Int} (r_x2 : R32 x2) (k_t3 : TA.kd t3 = 1) {out : ((World × Int × Int) ⊕ (World × Int))} (hf : f_Dm_lowerByRules_43 w x1 x2 t3 x4 = some out) (hc : (Sum.elim (HW_Dm_lowerByRules_4 E K H0 ) (fun out : (World × Int) => RetZ TA E K H0 cX10_lowerByRules out.1 out.2)) out) : HW_Dm_lowerByRules_43 E K H0 x2 t3 (w, x1, x4) := by
  unfold f_Dm_lowerByRules_43 at hf
  refine lp_ind (P := HW_Dm_lowerByRules_43 E K H0 x2 t3) hf ?_
  intro z o hs h1 h2
  intro r_x1 r_x4
  intro o5
  refine t_Dm_lowerByRules_43B k r_x1 r_x2 k_t3 r_x4 hs ?_
  cases o with
  | inl z' => exact h1 z' rfl
  | inr r' => rw [h2 r' rfl]; exact hc
noncomputable def f_Dm_lowerByRules_4B (w : World) (x1 : Int) (x2 : Int) : Option ((World × Int × Int) ⊕ (World × Int)) :=
  if (w 14 4) ≤ x2 then (gd (x1 = 0 ∨ x1 = 1) (some (Sum.inr (w, x1)))) else (bnd (f_Pr_rule w x2) fun v6 => bnd (f_Dm_present w ) fun v9 => gd (kdA v6 = 1) (gd (kdA v9 = 6) (bnd (f_Wa_begin w v6 v9 (w v6 0)) fun v15 => f_Dm_lowerByRules_43 v15 x1 x2 v6 0)))
theorem t_Dm_lowerByRules_4B {E : EE} {K : KT} {l : Launch} {H0 : Heap} (k : Kof TA E K l cX10_lowerByRules RX10 rm_Dm_lowerByRules) {w : World} {x1 : Int} {x2 : Int} {o3 o4 o5 : Option Value} (r_x1 : R32 x1) (r_x2 : R32 x2) {out : ((World × Int × Int) ⊕ (World × Int))} (hf : f_Dm_lowerByRules_4B w x1 x2 = some out) (hc : (Sum.elim (HW_Dm_lowerByRules_4 E K H0 ) (fun out : (World × Int) => RetZ TA E K H0 cX10_lowerByRules out.1 out.2)) out) : Jj K (WdT TA E H0) w 4 [some (rf E.ad 1), some (.int (ii x1)), some (.int (ii x2)), o3, o4, o5] [] := by
  unfold f_Dm_lowerByRules_4B at hf
  have o := k.1
  have g := k.2.1
  have kr := k.2.2.1
  refine J_iload_n o dX10_lowerByRules_4 rfl ?_
  refine J_aload_n o dX10_lowerByRules_5 rfl ?_
  refine J_getF (true, 14) o g dX10_lowerByRules_6 flX10_39 kA_1 rfl rfl rfl ?_
  refine J_getI o g dX10_lowerByRules_9 flX10_217 kA_14 rfl (fun q1 => ?_)
  refine J_icmp_ge 134 o dX10_lowerByRules_12 (by decide) r_x2 q1 (fun c2 => ?_) (fun c3 => ?_)
  · have hf := ite_t c2 hf
    refine J_iload_n o dX10_lowerByRules_134 rfl ?_
    obtain ⟨g4, hf⟩ := gd_some hf
    have hf := some_inj hf
    subst hf
    exact hc _ _ g4 dX10_lowerByRules_135
  · have hf := ite_f c3 hf
    refine J_aload_n o dX10_lowerByRules_15 rfl ?_
    refine J_getF (true, 14) o g dX10_lowerByRules_16 flX10_39 kA_1 rfl rfl rfl ?_
    refine J_iload_n o dX10_lowerByRules_19 rfl ?_
    obtain ⟨v6, e5, hf⟩ := bnd_some hf
    refine J_vR o g kr dX10_lowerByRules_20 lkX10_249 ml_Pr_rule vl_Pr_rule ⟨rfl, rfl, Nat.le_of_ble_eq_true rfl, Nat.le_of_ble_eq_true rfl⟩ (c_Pr_rule g.2.1 r_x2 e5) kA_14 rfl ⟨by decide, by decide⟩ rfl rfl c1s_0 ?_
    refine J_astore_n o dX10_lowerByRules_23 (Nat.le_of_ble_eq_true rfl) ?_
    refine J_aload_n o dX10_lowerByRules_24 rfl ?_
    refine J_getF (true, 103) o g dX10_lowerByRules_25 flX10_51 kA_1 rfl rfl rfl ?_
    refine J_aload_n o dX10_lowerByRules_28 rfl ?_
    refine J_aload_n o dX10_lowerByRules_29 rfl ?_
    obtain ⟨v9, e8, hf⟩ := bnd_some hf
    refine J_vR o g kr dX10_lowerByRules_30 lkX10_261 ml_Dm_present vl_Dm_present ⟨rfl, rfl, Nat.le_of_ble_eq_true rfl, Nat.le_of_ble_eq_true rfl⟩ (c_Dm_present g.2.1  e8) kA_1 rfl ⟨by decide, by decide⟩ rfl rfl (c1s_r (c1s_r c1s_0 (Nat.le_of_ble_eq_true rfl)) (Nat.le_of_ble_eq_true rfl)) ?_
    refine J_aload_n o dX10_lowerByRules_33 rfl ?_
    obtain ⟨g11, hf⟩ := gd_some hf
    refine J_getI o g dX10_lowerByRules_34 flX10_187 g11 rfl (fun q12 => ?_)
    obtain ⟨g13, hf⟩ := gd_some hf
    obtain ⟨v15, e14, hf⟩ := bnd_some hf
    refine J_vV o g kr dX10_lowerByRules_37 lkX10_395 ml_Wa_begin vl_Wa_begin ⟨rfl, rfl, Nat.le_of_ble_eq_true rfl, Nat.le_of_ble_eq_true rfl⟩ (c_Wa_begin g.2.1 g11 g13 q12 e14) kA_103 rfl ⟨by decide, by decide⟩ rfl rfl c1s_0 ?_
    refine J_iconst o dX10_lowerByRules_40 ?_
    refine J_istore o dX10_lowerByRules_41 (Nat.le_of_ble_eq_true rfl) ?_
    exact (t_Dm_lowerByRules_43 k r_x2 g11 hf hc) r_x1 rl0 _
noncomputable def f_Dm_lowerByRules_4 (w : World) (x1 : Int) (x2 : Int) : Option (World × Int) :=
  lp (fun z : (World × Int × Int) => f_Dm_lowerByRules_4B z.1 z.2.1 z.2.2) (w, x1, x2)
theorem t_Dm_lowerByRules_4 {E : EE} {K : KT} {l : Launch} {H0 : Heap} (k : Kof TA E K l cX10_lowerByRules RX10 rm_Dm_lowerByRules) {w : World} {x1 : Int} {x2 : Int}  {out : (World × Int)} (hf : f_Dm_lowerByRules_4 w x1 x2 = some out) (hc : (fun out : (World × Int) => RetZ TA E K H0 cX10_lowerByRules out.1 out.2) out) : HW_Dm_lowerByRules_4 E K H0  (w, x1, x2) := by
  unfold f_Dm_lowerByRules_4 at hf
  refine lp_ind (P := HW_Dm_lowerByRules_4 E K H0 ) hf ?_
  intro z o hs h1 h2
  intro r_x1 r_x2
  intro o3 o4 o5
  refine t_Dm_lowerByRules_4B k r_x1 r_x2 hs ?_
  cases o with
  | inl z' => exact h1 z' rfl
  | inr r' => rw [h2 r' rfl]; exact hc
noncomputable def f_Dm_lowerByRules (w : World) : Option (World × Int) :=
  f_Dm_lowerByRules_4 w 0 0
theorem t_Dm_lowerByRules_0 {E : EE} {K : KT} {l : Launch} {H0 : Heap} (k : Kof TA E K l cX10_lowerByRules RX10 rm_Dm_lowerByRules) {w : World} {o1 o2 o3 o4 o5 : Option Value}  {out : (World × Int)} (hf : f_Dm_lowerByRules w = some out) (hc : (fun out : (World × Int) => RetZ TA E K H0 cX10_lowerByRules out.1 out.2) out) : Jj K (WdT TA E H0) w 0 [some (rf E.ad 1), o1, o2, o3, o4, o5] [] := by
  unfold f_Dm_lowerByRules at hf
  have o := k.1
  have g := k.2.1
  have kr := k.2.2.1
  refine J_iconst o dX10_lowerByRules_0 ?_
  refine J_istore_n o dX10_lowerByRules_1 (Nat.le_of_ble_eq_true rfl) ?_
  refine J_iconst o dX10_lowerByRules_2 ?_
  refine J_istore_n o dX10_lowerByRules_3 (Nat.le_of_ble_eq_true rfl) ?_
  exact (t_Dm_lowerByRules_4 k  hf hc) rl0 rl0 _ _ _
theorem c_Dm_lowerByRules {E : EE} {l : Launch} (hI : Inj TA E) {w : World}  {out : (World × Int)} (hf : f_Dm_lowerByRules w = some out) : ConI TA E l yX10_lowerByRules (WS yX10_lowerByRules cX10_lowerByRules 6 (some .boolean)) rm_Dm_lowerByRules [rf E.ad 1] w out.1 out.2 :=
  con_Z (by decide +kernel) rfl (Nat.le_of_ble_eq_true rfl) (c1s_r c1s_0 (Nat.le_of_ble_eq_true rfl)).1 ⟨rfl, rfl⟩ hI TnA (fun K H0 k hret => t_Dm_lowerByRules_0 k  hf hret)
abbrev rm_Dm_findCosts : Room := { frames := 6, cells := 0, slots := 0, locals := 148 }
def HW_Dm_findCosts_20 (E : EE) (K : KT) (H0 : Heap)  : (World × Int) → Prop := fun z => R32 z.2 → ∀ o2 : Option Value, Jj K (WdT TA E H0) z.1 20 [some (rf E.ad 1), some (.int (ii z.2)), o2] []
def HW_Dm_findCosts_97 (E : EE) (K : KT) (H0 : Heap)  : (World × Int × Int) → Prop := fun z => R32 z.2.1 → R32 z.2.2 → Jj K (WdT TA E H0) z.1 97 [some (rf E.ad 1), some (.int (ii z.2.1)), some (.int (ii z.2.2))] []
noncomputable def f_Dm_findCosts_119 (w : World) : Option World :=
  bl (up w 150 0 1) fun w1 => some w1
theorem t_Dm_findCosts_119 {E : EE} {K : KT} {l : Launch} {H0 : Heap} (k : Kof TA E K l cX10_findCosts RX10 rm_Dm_findCosts) {w : World} {o1 o2 : Option Value}  {out : World} (hf : f_Dm_findCosts_119 w = some out) (hc : (fun out : World => RetV TA E K H0 cX10_findCosts out) out) : Jj K (WdT TA E H0) w 119 [some (rf E.ad 1), o1, o2] [] := by
  unfold f_Dm_findCosts_119 at hf
  have o := k.1
  have g := k.2.1
  have kr := k.2.2.1
  refine J_aload_n o dX10_findCosts_119 rfl ?_
  refine J_getF (true, 150) o g dX10_findCosts_120 flX10_74 kA_1 rfl rfl rfl ?_
  refine J_iconst o dX10_findCosts_123 ?_
  refine J_putZ o g dX10_findCosts_124 fpX10_178 kA_150 rfl rfl (Or.inr rfl) ?_
  have hf := bl_out hf
  have hf := some_inj hf
  subst hf
  exact hc _ _  dX10_findCosts_127
noncomputable def f_Dm_findCosts_97B (w : World) (x1 : Int) (x2 : Int) : Option ((World × Int × Int) ⊕ World) :=
  if 10000 ≤ x2 then (bnd (f_Dm_findCosts_119 w) fun y3 => some (Sum.inr y3)) else (if x1 = 0 then (bnd (f_Dm_findCosts_119 w) fun y6 => some (Sum.inr y6)) else (bnd (f_Dm_lowerByRules w ) fun v8 => bl (wr (x2 + 1)) fun n10 => some (Sum.inl (v8.1, v8.2, n10))))
theorem t_Dm_findCosts_97B {E : EE} {K : KT} {l : Launch} {H0 : Heap} (k : Kof TA E K l cX10_findCosts RX10 rm_Dm_findCosts) {w : World} {x1 : Int} {x2 : Int} (r_x1 : R32 x1) (r_x2 : R32 x2) {out : ((World × Int × Int) ⊕ World)} (hf : f_Dm_findCosts_97B w x1 x2 = some out) (hc : (Sum.elim (HW_Dm_findCosts_97 E K H0 ) (fun out : World => RetV TA E K H0 cX10_findCosts out)) out) : Jj K (WdT TA E H0) w 97 [some (rf E.ad 1), some (.int (ii x1)), some (.int (ii x2))] [] := by
  unfold f_Dm_findCosts_97B at hf
  have o := k.1
  have g := k.2.1
  have kr := k.2.2.1
  refine J_iload_n o dX10_findCosts_97 rfl ?_
  refine J_sipush o dX10_findCosts_98 (by decide) ?_
  refine J_icmp_ge 119 o dX10_findCosts_101 (by decide) r_x2 rl10000 (fun c1 => ?_) (fun c2 => ?_)
  · have hf := ite_t c1 hf
    obtain ⟨y3, hf1, hf⟩ := bnd_some hf
    have hf := some_inj hf
    subst hf
    exact t_Dm_findCosts_119 k  hf1 hc
  · have hf := ite_f c2 hf
    refine J_iload_n o dX10_findCosts_104 rfl ?_
    refine J_if_eq 119 o dX10_findCosts_105 (by decide) r_x1 (fun c4 => ?_) (fun c5 => ?_)
    · have hf := ite_t c4 hf
      obtain ⟨y6, hf1, hf⟩ := bnd_some hf
      have hf := some_inj hf
      subst hf
      exact t_Dm_findCosts_119 k  hf1 hc
    · have hf := ite_f c5 hf
      refine J_aload_n o dX10_findCosts_108 rfl ?_
      obtain ⟨v8, e7, hf⟩ := bnd_some hf
      refine J_vI o g kr dX10_findCosts_109 lkX10_412 ml_Dm_lowerByRules vl_Dm_lowerByRules ⟨rfl, rfl, Nat.le_of_ble_eq_true rfl, Nat.le_of_ble_eq_true rfl⟩ (c_Dm_lowerByRules g.2.1  e7) kA_1 rfl ⟨by decide, by decide⟩ rfl rfl c1s_0 (fun q9 => ?_)
      refine J_istore_n o dX10_findCosts_112 (Nat.le_of_ble_eq_true rfl) ?_
      have hf := bl_out hf
      refine J_iinc o dX10_findCosts_113 rfl ?_
      refine J_goto 97 o dX10_findCosts_116 (by decide) ?_
      have hf := some_inj hf
      subst hf
      exact hc q9 (R_wr _) 
noncomputable def f_Dm_findCosts_97 (w : World) (x1 : Int) (x2 : Int) : Option World :=
  lp (fun z : (World × Int × Int) => f_Dm_findCosts_97B z.1 z.2.1 z.2.2) (w, x1, x2)
theorem t_Dm_findCosts_97 {E : EE} {K : KT} {l : Launch} {H0 : Heap} (k : Kof TA E K l cX10_findCosts RX10 rm_Dm_findCosts) {w : World} {x1 : Int} {x2 : Int}  {out : World} (hf : f_Dm_findCosts_97 w x1 x2 = some out) (hc : (fun out : World => RetV TA E K H0 cX10_findCosts out) out) : HW_Dm_findCosts_97 E K H0  (w, x1, x2) := by
  unfold f_Dm_findCosts_97 at hf
  refine lp_ind (P := HW_Dm_findCosts_97 E K H0 ) hf ?_
  intro z o hs h1 h2
  intro r_x1 r_x2
  refine t_Dm_findCosts_97B k r_x1 r_x2 hs ?_
  cases o with
  | inl z' => exact h1 z' rfl
  | inr r' => rw [h2 r' rfl]; exact hc
noncomputable def f_Dm_findCosts_87 (w : World) (x1 : Int) : Option ((World × Int) ⊕ World) :=
  bl (wr (x1 + 1)) fun n1 => some (Sum.inl (w, n1))
theorem t_Dm_findCosts_87 {E : EE} {K : KT} {l : Launch} {H0 : Heap} (k : Kof TA E K l cX10_findCosts RX10 rm_Dm_findCosts) {w : World} {x1 : Int} {o2 : Option Value} (r_x1 : R32 x1) {out : ((World × Int) ⊕ World)} (hf : f_Dm_findCosts_87 w x1 = some out) (hc : (Sum.elim (HW_Dm_findCosts_20 E K H0 ) (fun out : World => RetV TA E K H0 cX10_findCosts out)) out) : Jj K (WdT TA E H0) w 87 [some (rf E.ad 1), some (.int (ii x1)), o2] [] := by
  unfold f_Dm_findCosts_87 at hf
  have o := k.1
  have g := k.2.1
  have kr := k.2.2.1
  have hf := bl_out hf
  refine J_iinc o dX10_findCosts_87 rfl ?_
  refine J_goto 20 o dX10_findCosts_90 (by decide) ?_
  have hf := some_inj hf
  subst hf
  exact hc (R_wr _) _
noncomputable def f_Dm_findCosts_20B (w : World) (x1 : Int) : Option ((World × Int) ⊕ World) :=
  if (w 7 0) ≤ x1 then (bnd (f_Dm_findCosts_97 w 1 0) fun y4 => some (Sum.inr y4)) else (bnd (f_Fa_holdsIn w x1 (w 1 12)) fun v7 => if v7 = 0 then (f_Dm_findCosts_87 w x1) else (bnd (f_Dm_present w ) fun v12 => bnd (f_Fa_relationOf w x1) fun v15 => bnd (f_Fa_codeOf w x1) fun v18 => gd (kdA v12 = 6) (bnd (f_Mo_slotLike w v12 v15 v18) fun v22 => bnd (f_Fa_costOf w x1) fun v25 => bnd (f_Co_lower w v22 v25) fun v28 => f_Dm_findCosts_87 v28.1 x1)))
theorem t_Dm_findCosts_20B {E : EE} {K : KT} {l : Launch} {H0 : Heap} (k : Kof TA E K l cX10_findCosts RX10 rm_Dm_findCosts) {w : World} {x1 : Int} {o2 : Option Value} (r_x1 : R32 x1) {out : ((World × Int) ⊕ World)} (hf : f_Dm_findCosts_20B w x1 = some out) (hc : (Sum.elim (HW_Dm_findCosts_20 E K H0 ) (fun out : World => RetV TA E K H0 cX10_findCosts out)) out) : Jj K (WdT TA E H0) w 20 [some (rf E.ad 1), some (.int (ii x1)), o2] [] := by
  unfold f_Dm_findCosts_20B at hf
  have o := k.1
  have g := k.2.1
  have kr := k.2.2.1
  refine J_iload_n o dX10_findCosts_20 rfl ?_
  refine J_aload_n o dX10_findCosts_21 rfl ?_
  refine J_getF (true, 7) o g dX10_findCosts_22 flX10_35 kA_1 rfl rfl rfl ?_
  refine J_getI o g dX10_findCosts_25 flX10_129 kA_7 rfl (fun q1 => ?_)
  refine J_icmp_ge 93 o dX10_findCosts_28 (by decide) r_x1 q1 (fun c2 => ?_) (fun c3 => ?_)
  · have hf := ite_t c2 hf
    refine J_iconst o dX10_findCosts_93 ?_
    refine J_istore_n o dX10_findCosts_94 (Nat.le_of_ble_eq_true rfl) ?_
    refine J_iconst o dX10_findCosts_95 ?_
    refine J_istore_n o dX10_findCosts_96 (Nat.le_of_ble_eq_true rfl) ?_
    obtain ⟨y4, hf1, hf⟩ := bnd_some hf
    have hf := some_inj hf
    subst hf
    exact (t_Dm_findCosts_97 k  hf1 hc) rl1 rl0 
  · have hf := ite_f c3 hf
    refine J_aload_n o dX10_findCosts_31 rfl ?_
    refine J_getF (true, 7) o g dX10_findCosts_32 flX10_35 kA_1 rfl rfl rfl ?_
    refine J_iload_n o dX10_findCosts_35 rfl ?_
    refine J_aload_n o dX10_findCosts_36 rfl ?_
    refine J_getI o g dX10_findCosts_37 flX10_173 kA_1 rfl (fun q5 => ?_)
    obtain ⟨v7, e6, hf⟩ := bnd_some hf
    refine J_vI o g kr dX10_findCosts_40 lkX10_309 ml_Fa_holdsIn vl_Fa_holdsIn ⟨rfl, rfl, Nat.le_of_ble_eq_true rfl, Nat.le_of_ble_eq_true rfl⟩ (c_Fa_holdsIn g.2.1 r_x1 q5 e6) kA_7 rfl ⟨by decide, by decide⟩ rfl rfl c1s_0 (fun q8 => ?_)
    refine J_if_eq 87 o dX10_findCosts_43 (by decide) q8 (fun c9 => ?_) (fun c10 => ?_)
    · have hf := ite_t c9 hf
      exact t_Dm_findCosts_87 k r_x1 hf hc
    · have hf := ite_f c10 hf
      refine J_aload_n o dX10_findCosts_46 rfl ?_
      obtain ⟨v12, e11, hf⟩ := bnd_some hf
      refine J_vR o g kr dX10_findCosts_47 lkX10_261 ml_Dm_present vl_Dm_present ⟨rfl, rfl, Nat.le_of_ble_eq_true rfl, Nat.le_of_ble_eq_true rfl⟩ (c_Dm_present g.2.1  e11) kA_1 rfl ⟨by decide, by decide⟩ rfl rfl c1s_0 ?_
      refine J_aload_n o dX10_findCosts_50 rfl ?_
      refine J_getF (true, 7) o g dX10_findCosts_51 flX10_35 kA_1 rfl rfl rfl ?_
      refine J_iload_n o dX10_findCosts_54 rfl ?_
      obtain ⟨v15, e14, hf⟩ := bnd_some hf
      refine J_vI o g kr dX10_findCosts_55 lkX10_383 ml_Fa_relationOf vl_Fa_relationOf ⟨rfl, rfl, Nat.le_of_ble_eq_true rfl, Nat.le_of_ble_eq_true rfl⟩ (c_Fa_relationOf g.2.1 r_x1 e14) kA_7 rfl ⟨by decide, by decide⟩ rfl rfl (c1s_r c1s_0 (Nat.le_of_ble_eq_true rfl)) (fun q16 => ?_)
      refine J_aload_n o dX10_findCosts_58 rfl ?_
      refine J_getF (true, 7) o g dX10_findCosts_59 flX10_35 kA_1 rfl rfl rfl ?_
      refine J_iload_n o dX10_findCosts_62 rfl ?_
      obtain ⟨v18, e17, hf⟩ := bnd_some hf
      refine J_vI o g kr dX10_findCosts_63 lkX10_386 ml_Fa_codeOf vl_Fa_codeOf ⟨rfl, rfl, Nat.le_of_ble_eq_true rfl, Nat.le_of_ble_eq_true rfl⟩ (c_Fa_codeOf g.2.1 r_x1 e17) kA_7 rfl ⟨by decide, by decide⟩ rfl rfl (c1s_i (c1s_r c1s_0 (Nat.le_of_ble_eq_true rfl)) (Nat.le_of_ble_eq_true rfl)) (fun q19 => ?_)
      obtain ⟨g20, hf⟩ := gd_some hf
      obtain ⟨v22, e21, hf⟩ := bnd_some hf
      refine J_vI o g kr dX10_findCosts_66 lkX10_303 ml_Mo_slotLike vl_Mo_slotLike ⟨rfl, rfl, Nat.le_of_ble_eq_true rfl, Nat.le_of_ble_eq_true rfl⟩ (c_Mo_slotLike g.2.1 g20 q16 q19 e21) g20 rfl ⟨by decide, by decide⟩ rfl rfl c1s_0 (fun q23 => ?_)
      refine J_istore_n o dX10_findCosts_69 (Nat.le_of_ble_eq_true rfl) ?_
      refine J_aload_n o dX10_findCosts_70 rfl ?_
      refine J_getF (true, 150) o g dX10_findCosts_71 flX10_74 kA_1 rfl rfl rfl ?_
      refine J_iload_n o dX10_findCosts_74 rfl ?_
      refine J_aload_n o dX10_findCosts_75 rfl ?_
      refine J_getF (true, 7) o g dX10_findCosts_76 flX10_35 kA_1 rfl rfl rfl ?_
      refine J_iload_n o dX10_findCosts_79 rfl ?_
      obtain ⟨v25, e24, hf⟩ := bnd_some hf
      refine J_vI o g kr dX10_findCosts_80 lkX10_408 ml_Fa_costOf vl_Fa_costOf ⟨rfl, rfl, Nat.le_of_ble_eq_true rfl, Nat.le_of_ble_eq_true rfl⟩ (c_Fa_costOf g.2.1 r_x1 e24) kA_7 rfl ⟨by decide, by decide⟩ rfl rfl (c1s_i (c1s_r c1s_0 (Nat.le_of_ble_eq_true rfl)) (Nat.le_of_ble_eq_true rfl)) (fun q26 => ?_)
      obtain ⟨v28, e27, hf⟩ := bnd_some hf
      refine J_vI o g kr dX10_findCosts_83 lkX10_409 ml_Co_lower vl_Co_lower ⟨rfl, rfl, Nat.le_of_ble_eq_true rfl, Nat.le_of_ble_eq_true rfl⟩ (c_Co_lower g.2.1 q23 q26 e27) kA_150 rfl ⟨by decide, by decide⟩ rfl rfl c1s_0 (fun q29 => ?_)
      refine J_pop o dX10_findCosts_86 rfl ?_
      exact t_Dm_findCosts_87 k r_x1 hf hc
noncomputable def f_Dm_findCosts_20 (w : World) (x1 : Int) : Option World :=
  lp (fun z : (World × Int) => f_Dm_findCosts_20B z.1 z.2) (w, x1)
theorem t_Dm_findCosts_20 {E : EE} {K : KT} {l : Launch} {H0 : Heap} (k : Kof TA E K l cX10_findCosts RX10 rm_Dm_findCosts) {w : World} {x1 : Int}  {out : World} (hf : f_Dm_findCosts_20 w x1 = some out) (hc : (fun out : World => RetV TA E K H0 cX10_findCosts out) out) : HW_Dm_findCosts_20 E K H0  (w, x1) := by
  unfold f_Dm_findCosts_20 at hf
  refine lp_ind (P := HW_Dm_findCosts_20 E K H0 ) hf ?_
  intro z o hs h1 h2
  intro r_x1
  intro o2
  refine t_Dm_findCosts_20B k r_x1 hs ?_
  cases o with
  | inl z' => exact h1 z' rfl
  | inr r' => rw [h2 r' rfl]; exact hc
noncomputable def f_Dm_findCosts (w : World) : Option World :=
  if (w 150 0) = 0 then (bnd (f_Co_reset w ) fun v5 => f_Dm_findCosts_20 v5 0) else (some w)
theorem t_Dm_findCosts_0 {E : EE} {K : KT} {l : Launch} {H0 : Heap} (k : Kof TA E K l cX10_findCosts RX10 rm_Dm_findCosts) {w : World} {o1 o2 : Option Value}  {out : World} (hf : f_Dm_findCosts w = some out) (hc : (fun out : World => RetV TA E K H0 cX10_findCosts out) out) : Jj K (WdT TA E H0) w 0 [some (rf E.ad 1), o1, o2] [] := by
  unfold f_Dm_findCosts at hf
  have o := k.1
  have g := k.2.1
  have kr := k.2.2.1
  refine J_aload_n o dX10_findCosts_0 rfl ?_
  refine J_getF (true, 150) o g dX10_findCosts_1 flX10_74 kA_1 rfl rfl rfl ?_
  refine J_getI o g dX10_findCosts_4 flX10_178 kA_150 rfl (fun q1 => ?_)
  refine J_if_eq 11 o dX10_findCosts_7 (by decide) q1 (fun c2 => ?_) (fun c3 => ?_)
  · have hf := ite_t c2 hf
    refine J_aload_n o dX10_findCosts_11 rfl ?_
    refine J_getF (true, 150) o g dX10_findCosts_12 flX10_74 kA_1 rfl rfl rfl ?_
    obtain ⟨v5, e4, hf⟩ := bnd_some hf
    refine J_vV o g kr dX10_findCosts_15 lkX10_405 ml_Co_reset vl_Co_reset ⟨rfl, rfl, Nat.le_of_ble_eq_true rfl, Nat.le_of_ble_eq_true rfl⟩ (c_Co_reset g.2.1  e4) kA_150 rfl ⟨by decide, by decide⟩ rfl rfl c1s_0 ?_
    refine J_iconst o dX10_findCosts_18 ?_
    refine J_istore_n o dX10_findCosts_19 (Nat.le_of_ble_eq_true rfl) ?_
    exact (t_Dm_findCosts_20 k  hf hc) rl0 _
  · have hf := ite_f c3 hf
    have hf := some_inj hf
    subst hf
    exact hc _ _  dX10_findCosts_10
theorem c_Dm_findCosts {E : EE} {l : Launch} (hI : Inj TA E) {w : World}  {out : World} (hf : f_Dm_findCosts w = some out) : ConV TA E l yX10_findCosts (WS yX10_findCosts cX10_findCosts 3 none) rm_Dm_findCosts [rf E.ad 1] w out :=
  con_V (by decide +kernel) rfl (Nat.le_of_ble_eq_true rfl) (c1s_r c1s_0 (Nat.le_of_ble_eq_true rfl)).1 ⟨rfl, rfl⟩ hI TnA (fun K H0 k hret => t_Dm_findCosts_0 k  hf hret)
abbrev rm_Bo_isAtom : Room := { frames := 2, cells := 0, slots := 0, locals := 45 }
noncomputable def f_Bo_isAtom_17 (w : World) : Option Int :=
  some 1
theorem t_Bo_isAtom_17 {E : EE} {K : KT} {l : Launch} {H0 : Heap} (k : Kof TA E K l cX0_isAtom RX0 rm_Bo_isAtom) {w : World} {o0 o1 : Option Value}  {out : Int} (hf : f_Bo_isAtom_17 w = some out) (hc : (fun out : Int => RetZ TA E K H0 cX0_isAtom w out) out) : Jj K (WdT TA E H0) w 17 [o0, o1] [] := by
  unfold f_Bo_isAtom_17 at hf
  have o := k.1
  have g := k.2.1
  have kr := k.2.2.1
  refine J_iconst o dX0_isAtom_17 ?_
  refine J_goto 22 o dX0_isAtom_18 (by decide) ?_
  have hf := some_inj hf
  subst hf
  exact hc _ _ (Or.inr rfl) dX0_isAtom_22
noncomputable def f_Bo_isAtom (w : World) (t0 : Nat) (x1 : Int) : Option Int :=
  bnd (f_Bo_formOf w t0 x1) fun v2 => if v2 = 0 then (f_Bo_isAtom_17 w) else (bnd (f_Bo_formOf w t0 x1) fun v7 => if v7 = 1 then (f_Bo_isAtom_17 w) else (some 0))
theorem t_Bo_isAtom_0 {E : EE} {K : KT} {l : Launch} {H0 : Heap} (k : Kof TA E K l cX0_isAtom RX0 rm_Bo_isAtom) {w : World} {t0 : Nat} {x1 : Int} (k_t0 : TA.kd t0 = 1) (r_x1 : R32 x1) {out : Int} (hf : f_Bo_isAtom w t0 x1 = some out) (hc : (fun out : Int => RetZ TA E K H0 cX0_isAtom w out) out) : Jj K (WdT TA E H0) w 0 [some (rf E.ad t0), some (.int (ii x1))] [] := by
  unfold f_Bo_isAtom at hf
  have o := k.1
  have g := k.2.1
  have kr := k.2.2.1
  refine J_aload_n o dX0_isAtom_0 rfl ?_
  refine J_iload_n o dX0_isAtom_1 rfl ?_
  obtain ⟨v2, e1, hf⟩ := bnd_some hf
  refine J_vI o g kr dX0_isAtom_2 lkX0_46 ml_Bo_formOf vl_Bo_formOf ⟨rfl, rfl, Nat.le_of_ble_eq_true rfl, Nat.le_of_ble_eq_true rfl⟩ (c_Bo_formOf g.2.1 k_t0 r_x1 e1) k_t0 rfl ⟨by decide, by decide⟩ rfl rfl c1s_0 (fun q3 => ?_)
  refine J_if_eq 17 o dX0_isAtom_5 (by decide) q3 (fun c4 => ?_) (fun c5 => ?_)
  · have hf := ite_t c4 hf
    exact t_Bo_isAtom_17 k  hf hc
  · have hf := ite_f c5 hf
    refine J_aload_n o dX0_isAtom_8 rfl ?_
    refine J_iload_n o dX0_isAtom_9 rfl ?_
    obtain ⟨v7, e6, hf⟩ := bnd_some hf
    refine J_vI o g kr dX0_isAtom_10 lkX0_46 ml_Bo_formOf vl_Bo_formOf ⟨rfl, rfl, Nat.le_of_ble_eq_true rfl, Nat.le_of_ble_eq_true rfl⟩ (c_Bo_formOf g.2.1 k_t0 r_x1 e6) k_t0 rfl ⟨by decide, by decide⟩ rfl rfl c1s_0 (fun q8 => ?_)
    refine J_iconst o dX0_isAtom_13 ?_
    refine J_icmp_ne 21 o dX0_isAtom_14 (by decide) q8 rl1 (fun c9 => ?_) (fun c10 => ?_)
    · have hf := ite_f c9 hf
      refine J_iconst o dX0_isAtom_21 ?_
      have hf := some_inj hf
      subst hf
      exact hc _ _ (Or.inl rfl) dX0_isAtom_22
    · have hf := ite_t c10 hf
      exact t_Bo_isAtom_17 k  hf hc
theorem c_Bo_isAtom {E : EE} {l : Launch} (hI : Inj TA E) {w : World} {t0 : Nat} {x1 : Int} (k_t0 : TA.kd t0 = 1) (r_x1 : R32 x1) {out : Int} (hf : f_Bo_isAtom w t0 x1 = some out) : ConI TA E l yX0_isAtom (WS yX0_isAtom cX0_isAtom 2 (some .boolean)) rm_Bo_isAtom [rf E.ad t0, .int (ii x1)] w w out :=
  con_Z (by decide +kernel) rfl (Nat.le_of_ble_eq_true rfl) (c1s_r (c1s_i c1s_0 (Nat.le_of_ble_eq_true rfl)) (Nat.le_of_ble_eq_true rfl)).1 ⟨rfl, rfl⟩ hI TnA (fun K H0 k hret => t_Bo_isAtom_0 k k_t0 r_x1 hf hret)
abbrev rm_Sc_goalOf : Room := { frames := 3, cells := 0, slots := 0, locals := 66 }
def HW_Sc_goalOf_9 (E : EE) (K : KT) (H0 : Heap) (w : World) (x1 : Int) (x2 : Int) (x3 : Int) (x4 : Int) : (Int × Int × Int) → Prop := fun z => R32 z.1 → R32 z.2.1 → R32 z.2.2 → ∀ o8 : Option Value, Jj K (WdT TA E H0) w 9 [some (rf E.ad 2), some (.int (ii x1)), some (.int (ii x2)), some (.int (ii x3)), some (.int (ii x4)), some (.int (ii z.1)), some (.int (ii z.2.1)), some (.int (ii z.2.2)), o8] []
noncomputable def f_Sc_goalOf_57 (w : World) (x1 : Int) (x2 : Int) (x3 : Int) (x4 : Int) (x5 : Int) (x6 : Int) (x7 : Int) : Option ((Int × Int × Int) ⊕ Int) :=
  bl (wr (x7 + 1)) fun n1 => some (Sum.inl (x5, x6, n1))
theorem t_Sc_goalOf_57 {E : EE} {K : KT} {l : Launch} {H0 : Heap} (k : Kof TA E K l cX8_goalOf RX8 rm_Sc_goalOf) {w : World} {x1 : Int} {x2 : Int} {x3 : Int} {x4 : Int} {x5 : Int} {x6 : Int} {x7 : Int} {o8 : Option Value} (r_x1 : R32 x1) (r_x2 : R32 x2) (r_x3 : R32 x3) (r_x4 : R32 x4) (r_x5 : R32 x5) (r_x6 : R32 x6) (r_x7 : R32 x7) {out : ((Int × Int × Int) ⊕ Int)} (hf : f_Sc_goalOf_57 w x1 x2 x3 x4 x5 x6 x7 = some out) (hc : (Sum.elim (HW_Sc_goalOf_9 E K H0 w x1 x2 x3 x4) (fun out : Int => RetI TA E K H0 cX8_goalOf w out)) out) : Jj K (WdT TA E H0) w 57 [some (rf E.ad 2), some (.int (ii x1)), some (.int (ii x2)), some (.int (ii x3)), some (.int (ii x4)), some (.int (ii x5)), some (.int (ii x6)), some (.int (ii x7)), o8] [] := by
  unfold f_Sc_goalOf_57 at hf
  have o := k.1
  have g := k.2.1
  have kr := k.2.2.1
  have hf := bl_out hf
  refine J_iinc o dX8_goalOf_57 rfl ?_
  refine J_goto 9 o dX8_goalOf_60 (by decide) ?_
  have hf := some_inj hf
  subst hf
  exact hc r_x5 r_x6 (R_wr _) _
noncomputable def f_Sc_goalOf_9B (w : World) (x1 : Int) (x2 : Int) (x3 : Int) (x4 : Int) (x5 : Int) (x6 : Int) (x7 : Int) : Option ((Int × Int × Int) ⊕ Int) :=
  bnd (f_Sc_tellingColumns w x1) fun v2 => if v2 ≤ x7 then (some (Sum.inr (ior (ishl (ior (ishl x1 3) x5) 21) x6))) else (bnd (f_Dm_picked x7 x2 x3 x4) fun v7 => if v7 < 0 then (f_Sc_goalOf_57 w x1 x2 x3 x4 x5 x6 x7) else (bl (ior x5 (ishl 1 x7)) fun n11 => bnd (f_Dm_shiftOf x7) fun v13 => bl (ior x6 (ishl v7 v13)) fun n15 => f_Sc_goalOf_57 w x1 x2 x3 x4 n11 n15 x7))
theorem t_Sc_goalOf_9B {E : EE} {K : KT} {l : Launch} {H0 : Heap} (k : Kof TA E K l cX8_goalOf RX8 rm_Sc_goalOf) {w : World} {x1 : Int} {x2 : Int} {x3 : Int} {x4 : Int} {x5 : Int} {x6 : Int} {x7 : Int} {o8 : Option Value} (r_x1 : R32 x1) (r_x2 : R32 x2) (r_x3 : R32 x3) (r_x4 : R32 x4) (r_x5 : R32 x5) (r_x6 : R32 x6) (r_x7 : R32 x7) {out : ((Int × Int × Int) ⊕ Int)} (hf : f_Sc_goalOf_9B w x1 x2 x3 x4 x5 x6 x7 = some out) (hc : (Sum.elim (HW_Sc_goalOf_9 E K H0 w x1 x2 x3 x4) (fun out : Int => RetI TA E K H0 cX8_goalOf w out)) out) : Jj K (WdT TA E H0) w 9 [some (rf E.ad 2), some (.int (ii x1)), some (.int (ii x2)), some (.int (ii x3)), some (.int (ii x4)), some (.int (ii x5)), some (.int (ii x6)), some (.int (ii x7)), o8] [] := by
  unfold f_Sc_goalOf_9B at hf
  have o := k.1
  have g := k.2.1
  have kr := k.2.2.1
  refine J_iload o dX8_goalOf_9 rfl ?_
  refine J_aload_n o dX8_goalOf_11 rfl ?_
  refine J_iload_n o dX8_goalOf_12 rfl ?_
  obtain ⟨v2, e1, hf⟩ := bnd_some hf
  refine J_vI o g kr dX8_goalOf_13 lkX8_37 ml_Sc_tellingColumns vl_Sc_tellingColumns ⟨rfl, rfl, Nat.le_of_ble_eq_true rfl, Nat.le_of_ble_eq_true rfl⟩ (c_Sc_tellingColumns g.2.1 r_x1 e1) kA_2 rfl ⟨by decide, by decide⟩ rfl rfl (c1s_i c1s_0 (Nat.le_of_ble_eq_true rfl)) (fun q3 => ?_)
  refine J_icmp_ge 63 o dX8_goalOf_16 (by decide) r_x7 q3 (fun c4 => ?_) (fun c5 => ?_)
  · have hf := ite_t c4 hf
    refine J_iload_n o dX8_goalOf_63 rfl ?_
    refine J_iconst o dX8_goalOf_64 ?_
    refine J_ishl o dX8_goalOf_65 ?_
    refine J_iload o dX8_goalOf_66 rfl ?_
    refine J_ior o dX8_goalOf_68 ?_
    refine J_bipush o dX8_goalOf_69 (by decide) ?_
    refine J_ishl o dX8_goalOf_71 ?_
    refine J_iload o dX8_goalOf_72 rfl ?_
    refine J_ior o dX8_goalOf_74 ?_
    have hf := some_inj hf
    subst hf
    exact hc _ _ (R_ior _ _) dX8_goalOf_75
  · have hf := ite_f c5 hf
    refine J_iload o dX8_goalOf_19 rfl ?_
    refine J_iload_n o dX8_goalOf_21 rfl ?_
    refine J_iload_n o dX8_goalOf_22 rfl ?_
    refine J_iload o dX8_goalOf_23 rfl ?_
    obtain ⟨v7, e6, hf⟩ := bnd_some hf
    refine J_sI o g kr dX8_goalOf_25 lkX8_40 ml_Dm_picked mw593 ⟨rfl, rfl, Nat.le_of_ble_eq_true rfl, Nat.le_of_ble_eq_true rfl⟩ (c_Dm_picked g.2.1 r_x7 r_x2 r_x3 r_x4 e6) rfl rfl c1s_0 (fun q8 => ?_)
    refine J_istore o dX8_goalOf_28 (Nat.le_of_ble_eq_true rfl) ?_
    refine J_iload o dX8_goalOf_30 rfl ?_
    refine J_if_lt 57 o dX8_goalOf_32 (by decide) q8 (fun c9 => ?_) (fun c10 => ?_)
    · have hf := ite_t c9 hf
      exact t_Sc_goalOf_57 k r_x1 r_x2 r_x3 r_x4 r_x5 r_x6 r_x7 hf hc
    · have hf := ite_f c10 hf
      refine J_iload o dX8_goalOf_35 rfl ?_
      refine J_iconst o dX8_goalOf_37 ?_
      refine J_iload o dX8_goalOf_38 rfl ?_
      refine J_ishl o dX8_goalOf_40 ?_
      refine J_ior o dX8_goalOf_41 ?_
      refine J_istore o dX8_goalOf_42 (Nat.le_of_ble_eq_true rfl) ?_
      have hf := bl_out hf
      refine J_iload o dX8_goalOf_44 rfl ?_
      refine J_iload o dX8_goalOf_46 rfl ?_
      refine J_iload o dX8_goalOf_48 rfl ?_
      obtain ⟨v13, e12, hf⟩ := bnd_some hf
      refine J_sI o g kr dX8_goalOf_50 lkX8_24 ml_Dm_shiftOf mw567 ⟨rfl, rfl, Nat.le_of_ble_eq_true rfl, Nat.le_of_ble_eq_true rfl⟩ (c_Dm_shiftOf g.2.1 r_x7 e12) rfl rfl (c1s_i (c1s_i c1s_0 (Nat.le_of_ble_eq_true rfl)) (Nat.le_of_ble_eq_true rfl)) (fun q14 => ?_)
      refine J_ishl o dX8_goalOf_53 ?_
      refine J_ior o dX8_goalOf_54 ?_
      refine J_istore o dX8_goalOf_55 (Nat.le_of_ble_eq_true rfl) ?_
      have hf := bl_out hf
      exact t_Sc_goalOf_57 k r_x1 r_x2 r_x3 r_x4 (R_ior _ _) (R_ior _ _) r_x7 hf hc
noncomputable def f_Sc_goalOf_9 (w : World) (x1 : Int) (x2 : Int) (x3 : Int) (x4 : Int) (x5 : Int) (x6 : Int) (x7 : Int) : Option Int :=
  lp (fun z : (Int × Int × Int) => f_Sc_goalOf_9B w x1 x2 x3 x4 z.1 z.2.1 z.2.2) (x5, x6, x7)
theorem t_Sc_goalOf_9 {E : EE} {K : KT} {l : Launch} {H0 : Heap} (k : Kof TA E K l cX8_goalOf RX8 rm_Sc_goalOf) {w : World} {x1 : Int} {x2 : Int} {x3 : Int} {x4 : Int} {x5 : Int} {x6 : Int} {x7 : Int} (r_x1 : R32 x1) (r_x2 : R32 x2) (r_x3 : R32 x3) (r_x4 : R32 x4) {out : Int} (hf : f_Sc_goalOf_9 w x1 x2 x3 x4 x5 x6 x7 = some out) (hc : (fun out : Int => RetI TA E K H0 cX8_goalOf w out) out) : HW_Sc_goalOf_9 E K H0 w x1 x2 x3 x4 (x5, x6, x7) := by
  unfold f_Sc_goalOf_9 at hf
  refine lp_ind (P := HW_Sc_goalOf_9 E K H0 w x1 x2 x3 x4) hf ?_
  intro z o hs h1 h2
  intro r_x5 r_x6 r_x7
  intro o8
  refine t_Sc_goalOf_9B k r_x1 r_x2 r_x3 r_x4 r_x5 r_x6 r_x7 hs ?_
  cases o with
  | inl z' => exact h1 z' rfl
  | inr r' => rw [h2 r' rfl]; exact hc
noncomputable def f_Sc_goalOf (w : World) (x1 : Int) (x2 : Int) (x3 : Int) (x4 : Int) : Option Int :=
  f_Sc_goalOf_9 w x1 x2 x3 x4 0 0 0
theorem t_Sc_goalOf_0 {E : EE} {K : KT} {l : Launch} {H0 : Heap} (k : Kof TA E K l cX8_goalOf RX8 rm_Sc_goalOf) {w : World} {x1 : Int} {x2 : Int} {x3 : Int} {x4 : Int} {o5 o6 o7 o8 : Option Value} (r_x1 : R32 x1) (r_x2 : R32 x2) (r_x3 : R32 x3) (r_x4 : R32 x4) {out : Int} (hf : f_Sc_goalOf w x1 x2 x3 x4 = some out) (hc : (fun out : Int => RetI TA E K H0 cX8_goalOf w out) out) : Jj K (WdT TA E H0) w 0 [some (rf E.ad 2), some (.int (ii x1)), some (.int (ii x2)), some (.int (ii x3)), some (.int (ii x4)), o5, o6, o7, o8] [] := by
  unfold f_Sc_goalOf at hf
  have o := k.1
  have g := k.2.1
  have kr := k.2.2.1
  refine J_iconst o dX8_goalOf_0 ?_
  refine J_istore o dX8_goalOf_1 (Nat.le_of_ble_eq_true rfl) ?_
  refine J_iconst o dX8_goalOf_3 ?_
  refine J_istore o dX8_goalOf_4 (Nat.le_of_ble_eq_true rfl) ?_
  refine J_iconst o dX8_goalOf_6 ?_
  refine J_istore o dX8_goalOf_7 (Nat.le_of_ble_eq_true rfl) ?_
  exact (t_Sc_goalOf_9 k r_x1 r_x2 r_x3 r_x4 hf hc) rl0 rl0 rl0 _
theorem c_Sc_goalOf {E : EE} {l : Launch} (hI : Inj TA E) {w : World} {x1 : Int} {x2 : Int} {x3 : Int} {x4 : Int} (r_x1 : R32 x1) (r_x2 : R32 x2) (r_x3 : R32 x3) (r_x4 : R32 x4) {out : Int} (hf : f_Sc_goalOf w x1 x2 x3 x4 = some out) : ConI TA E l yX8_goalOf (WS yX8_goalOf cX8_goalOf 9 (some .int)) rm_Sc_goalOf [rf E.ad 2, .int (ii x1), .int (ii x2), .int (ii x3), .int (ii x4)] w w out :=
  con_I (by decide +kernel) rfl (Nat.le_of_ble_eq_true rfl) (c1s_r (c1s_i (c1s_i (c1s_i (c1s_i c1s_0 (Nat.le_of_ble_eq_true rfl)) (Nat.le_of_ble_eq_true rfl)) (Nat.le_of_ble_eq_true rfl)) (Nat.le_of_ble_eq_true rfl)) (Nat.le_of_ble_eq_true rfl)).1 ⟨rfl, rfl⟩ hI TnA (fun K H0 k hret => t_Sc_goalOf_0 k r_x1 r_x2 r_x3 r_x4 hf hret)
abbrev rm_Wa_goal : Room := { frames := 4, cells := 0, slots := 0, locals := 94 }
noncomputable def f_Wa_goal (w : World) (x1 : Int) : Option Int :=
  gd (kdA ((w 103 1).toNat) = 1) (bnd (f_Bo_subjectOf w ((w 103 1).toNat) x1) fun v3 => gd (kdA ((w 103 1).toNat) = 1) (bnd (f_Bo_termOf w ((w 103 1).toNat) x1 0) fun v7 => bnd (f_Wa_valueOf w v7) fun v10 => gd (kdA ((w 103 1).toNat) = 1) (bnd (f_Bo_termOf w ((w 103 1).toNat) x1 1) fun v14 => bnd (f_Wa_valueOf w v14) fun v17 => gd (kdA ((w 103 1).toNat) = 1) (bnd (f_Bo_termOf w ((w 103 1).toNat) x1 2) fun v21 => bnd (f_Wa_valueOf w v21) fun v24 => bnd (f_Sc_goalOf w v3 v10 v17 v24) fun v27 => some v27))))
theorem t_Wa_goal_0 {E : EE} {K : KT} {l : Launch} {H0 : Heap} (k : Kof TA E K l cX9_goal RX9 rm_Wa_goal) {w : World} {x1 : Int} (r_x1 : R32 x1) {out : Int} (hf : f_Wa_goal w x1 = some out) (hc : (fun out : Int => RetI TA E K H0 cX9_goal w out) out) : Jj K (WdT TA E H0) w 0 [some (rf E.ad 103), some (.int (ii x1))] [] := by
  unfold f_Wa_goal at hf
  have o := k.1
  have g := k.2.1
  have kr := k.2.2.1
  refine J_aload_n o dX9_goal_0 rfl ?_
  refine J_getF (true, 2) o g dX9_goal_1 flX9_21 kA_103 rfl rfl rfl ?_
  refine J_aload_n o dX9_goal_4 rfl ?_
  refine J_getR o g dX9_goal_5 flX9_25 kA_103 rfl ?_
  refine J_iload_n o dX9_goal_8 rfl ?_
  obtain ⟨g1, hf⟩ := gd_some hf
  obtain ⟨v3, e2, hf⟩ := bnd_some hf
  refine J_vI o g kr dX9_goal_9 lkX9_85 ml_Bo_subjectOf vl_Bo_subjectOf ⟨rfl, rfl, Nat.le_of_ble_eq_true rfl, Nat.le_of_ble_eq_true rfl⟩ (c_Bo_subjectOf g.2.1 g1 r_x1 e2) g1 rfl ⟨by decide, by decide⟩ rfl rfl (c1s_r c1s_0 (Nat.le_of_ble_eq_true rfl)) (fun q4 => ?_)
  refine J_aload_n o dX9_goal_12 rfl ?_
  refine J_aload_n o dX9_goal_13 rfl ?_
  refine J_getR o g dX9_goal_14 flX9_25 kA_103 rfl ?_
  refine J_iload_n o dX9_goal_17 rfl ?_
  refine J_iconst o dX9_goal_18 ?_
  obtain ⟨g5, hf⟩ := gd_some hf
  obtain ⟨v7, e6, hf⟩ := bnd_some hf
  refine J_vI o g kr dX9_goal_19 lkX9_54 ml_Bo_termOf vl_Bo_termOf ⟨rfl, rfl, Nat.le_of_ble_eq_true rfl, Nat.le_of_ble_eq_true rfl⟩ (c_Bo_termOf g.2.1 g5 r_x1 rl0 e6) g5 rfl ⟨by decide, by decide⟩ rfl rfl (c1s_r (c1s_i (c1s_r c1s_0 (Nat.le_of_ble_eq_true rfl)) (Nat.le_of_ble_eq_true rfl)) (Nat.le_of_ble_eq_true rfl)) (fun q8 => ?_)
  obtain ⟨v10, e9, hf⟩ := bnd_some hf
  refine J_vI o g kr dX9_goal_22 lkX9_67 ml_Wa_valueOf vl_Wa_valueOf ⟨rfl, rfl, Nat.le_of_ble_eq_true rfl, Nat.le_of_ble_eq_true rfl⟩ (c_Wa_valueOf g.2.1 q8 e9) kA_103 rfl ⟨by decide, by decide⟩ rfl rfl (c1s_i (c1s_r c1s_0 (Nat.le_of_ble_eq_true rfl)) (Nat.le_of_ble_eq_true rfl)) (fun q11 => ?_)
  refine J_aload_n o dX9_goal_25 rfl ?_
  refine J_aload_n o dX9_goal_26 rfl ?_
  refine J_getR o g dX9_goal_27 flX9_25 kA_103 rfl ?_
  refine J_iload_n o dX9_goal_30 rfl ?_
  refine J_iconst o dX9_goal_31 ?_
  obtain ⟨g12, hf⟩ := gd_some hf
  obtain ⟨v14, e13, hf⟩ := bnd_some hf
  refine J_vI o g kr dX9_goal_32 lkX9_54 ml_Bo_termOf vl_Bo_termOf ⟨rfl, rfl, Nat.le_of_ble_eq_true rfl, Nat.le_of_ble_eq_true rfl⟩ (c_Bo_termOf g.2.1 g12 r_x1 rl1 e13) g12 rfl ⟨by decide, by decide⟩ rfl rfl (c1s_r (c1s_i (c1s_i (c1s_r c1s_0 (Nat.le_of_ble_eq_true rfl)) (Nat.le_of_ble_eq_true rfl)) (Nat.le_of_ble_eq_true rfl)) (Nat.le_of_ble_eq_true rfl)) (fun q15 => ?_)
  obtain ⟨v17, e16, hf⟩ := bnd_some hf
  refine J_vI o g kr dX9_goal_35 lkX9_67 ml_Wa_valueOf vl_Wa_valueOf ⟨rfl, rfl, Nat.le_of_ble_eq_true rfl, Nat.le_of_ble_eq_true rfl⟩ (c_Wa_valueOf g.2.1 q15 e16) kA_103 rfl ⟨by decide, by decide⟩ rfl rfl (c1s_i (c1s_i (c1s_r c1s_0 (Nat.le_of_ble_eq_true rfl)) (Nat.le_of_ble_eq_true rfl)) (Nat.le_of_ble_eq_true rfl)) (fun q18 => ?_)
  refine J_aload_n o dX9_goal_38 rfl ?_
  refine J_aload_n o dX9_goal_39 rfl ?_
  refine J_getR o g dX9_goal_40 flX9_25 kA_103 rfl ?_
  refine J_iload_n o dX9_goal_43 rfl ?_
  refine J_iconst o dX9_goal_44 ?_
  obtain ⟨g19, hf⟩ := gd_some hf
  obtain ⟨v21, e20, hf⟩ := bnd_some hf
  refine J_vI o g kr dX9_goal_45 lkX9_54 ml_Bo_termOf vl_Bo_termOf ⟨rfl, rfl, Nat.le_of_ble_eq_true rfl, Nat.le_of_ble_eq_true rfl⟩ (c_Bo_termOf g.2.1 g19 r_x1 rl2 e20) g19 rfl ⟨by decide, by decide⟩ rfl rfl (c1s_r (c1s_i (c1s_i (c1s_i (c1s_r c1s_0 (Nat.le_of_ble_eq_true rfl)) (Nat.le_of_ble_eq_true rfl)) (Nat.le_of_ble_eq_true rfl)) (Nat.le_of_ble_eq_true rfl)) (Nat.le_of_ble_eq_true rfl)) (fun q22 => ?_)
  obtain ⟨v24, e23, hf⟩ := bnd_some hf
  refine J_vI o g kr dX9_goal_48 lkX9_67 ml_Wa_valueOf vl_Wa_valueOf ⟨rfl, rfl, Nat.le_of_ble_eq_true rfl, Nat.le_of_ble_eq_true rfl⟩ (c_Wa_valueOf g.2.1 q22 e23) kA_103 rfl ⟨by decide, by decide⟩ rfl rfl (c1s_i (c1s_i (c1s_i (c1s_r c1s_0 (Nat.le_of_ble_eq_true rfl)) (Nat.le_of_ble_eq_true rfl)) (Nat.le_of_ble_eq_true rfl)) (Nat.le_of_ble_eq_true rfl)) (fun q25 => ?_)
  obtain ⟨v27, e26, hf⟩ := bnd_some hf
  refine J_vI o g kr dX9_goal_51 lkX9_145 ml_Sc_goalOf vl_Sc_goalOf ⟨rfl, rfl, Nat.le_of_ble_eq_true rfl, Nat.le_of_ble_eq_true rfl⟩ (c_Sc_goalOf g.2.1 q4 q11 q18 q25 e26) kA_2 rfl ⟨by decide, by decide⟩ rfl rfl c1s_0 (fun q28 => ?_)
  have hf := some_inj hf
  subst hf
  exact hc _ _ q28 dX9_goal_54
theorem c_Wa_goal {E : EE} {l : Launch} (hI : Inj TA E) {w : World} {x1 : Int} (r_x1 : R32 x1) {out : Int} (hf : f_Wa_goal w x1 = some out) : ConI TA E l yX9_goal (WS yX9_goal cX9_goal 2 (some .int)) rm_Wa_goal [rf E.ad 103, .int (ii x1)] w w out :=
  con_I (by decide +kernel) rfl (Nat.le_of_ble_eq_true rfl) (c1s_r (c1s_i c1s_0 (Nat.le_of_ble_eq_true rfl)) (Nat.le_of_ble_eq_true rfl)).1 ⟨rfl, rfl⟩ hI TnA (fun K H0 k hret => t_Wa_goal_0 k r_x1 hf hret)
abbrev rm_Go_goalAt : Room := { frames := 1, cells := 0, slots := 0, locals := 24 }
noncomputable def f_Go_goalAt (w : World) (x1 : Int) : Option Int :=
  if x1 < 0 then (some 0) else (if 400 ≤ x1 then (some 0) else (gd (0 ≤ x1 ∧ x1 < 400) (some (w 153 x1.toNat))))
theorem t_Go_goalAt_0 {E : EE} {K : KT} {l : Launch} {H0 : Heap} (k : Kof TA E K l cX3_goalAt RX3 rm_Go_goalAt) {w : World} {x1 : Int} (r_x1 : R32 x1) {out : Int} (hf : f_Go_goalAt w x1 = some out) (hc : (fun out : Int => RetI TA E K H0 cX3_goalAt w out) out) : Jj K (WdT TA E H0) w 0 [some (rf E.ad 152), some (.int (ii x1))] [] := by
  unfold f_Go_goalAt at hf
  have o := k.1
  have g := k.2.1
  have kr := k.2.2.1
  refine J_iload_n o dX3_goalAt_0 rfl ?_
  refine J_if_lt 22 o dX3_goalAt_1 (by decide) r_x1 (fun c1 => ?_) (fun c2 => ?_)
  · have hf := ite_t c1 hf
    refine J_iconst o dX3_goalAt_22 ?_
    have hf := some_inj hf
    subst hf
    exact hc _ _ rl0 dX3_goalAt_23
  · have hf := ite_f c2 hf
    refine J_iload_n o dX3_goalAt_4 rfl ?_
    refine J_aload_n o dX3_goalAt_5 rfl ?_
    refine J_getF (true, 153) o g dX3_goalAt_6 flX3_9 kA_152 rfl rfl rfl ?_
    refine J_alen o g dX3_goalAt_9 kA_153 ⟨by decide, by decide⟩ zA_153 ?_
    refine J_icmp_ge 22 o dX3_goalAt_10 (by decide) r_x1 rl400 (fun c3 => ?_) (fun c4 => ?_)
    · have hf := ite_t c3 hf
      refine J_iconst o dX3_goalAt_22 ?_
      have hf := some_inj hf
      subst hf
      exact hc _ _ rl0 dX3_goalAt_23
    · have hf := ite_f c4 hf
      refine J_aload_n o dX3_goalAt_13 rfl ?_
      refine J_getF (true, 153) o g dX3_goalAt_14 flX3_9 kA_152 rfl rfl rfl ?_
      refine J_iload_n o dX3_goalAt_17 rfl ?_
      obtain ⟨g5, hf⟩ := gd_some hf
      refine J_iald o g dX3_goalAt_18 kA_153 r_x1 zA_153 g5 (fun q6 => ?_)
      refine J_goto 23 o dX3_goalAt_19 (by decide) ?_
      have hf := some_inj hf
      subst hf
      exact hc _ _ q6 dX3_goalAt_23
theorem c_Go_goalAt {E : EE} {l : Launch} (hI : Inj TA E) {w : World} {x1 : Int} (r_x1 : R32 x1) {out : Int} (hf : f_Go_goalAt w x1 = some out) : ConI TA E l yX3_goalAt (WS yX3_goalAt cX3_goalAt 2 (some .int)) rm_Go_goalAt [rf E.ad 152, .int (ii x1)] w w out :=
  con_I (by decide +kernel) rfl (Nat.le_of_ble_eq_true rfl) (c1s_r (c1s_i c1s_0 (Nat.le_of_ble_eq_true rfl)) (Nat.le_of_ble_eq_true rfl)).1 ⟨rfl, rfl⟩ hI TnA (fun K H0 k hret => t_Go_goalAt_0 k r_x1 hf hret)
abbrev rm_Go_ask : Room := { frames := 2, cells := 0, slots := 0, locals := 45 }
def HW_Go_ask_10 (E : EE) (K : KT) (H0 : Heap) (w : World) (x1 : Int) (x2 : Int) : Int → Prop := fun z => R32 z → ∀ o4 : Option Value, Jj K (WdT TA E H0) w 10 [some (rf E.ad 152), some (.int (ii x1)), some (.int (ii x2)), some (.int (ii z)), o4] []
noncomputable def f_Go_ask_134 (w : World) (x1 : Int) (x2 : Int) (x3 : Int) : Option (Int ⊕ World) :=
  bl (wr (x3 + 1)) fun n1 => some (Sum.inl n1)
theorem t_Go_ask_134 {E : EE} {K : KT} {l : Launch} {H0 : Heap} (k : Kof TA E K l cX3_ask RX3 rm_Go_ask) {w : World} {x1 : Int} {x2 : Int} {x3 : Int} {o4 : Option Value} (r_x1 : R32 x1) (r_x2 : R32 x2) (r_x3 : R32 x3) {out : (Int ⊕ World)} (hf : f_Go_ask_134 w x1 x2 x3 = some out) (hc : (Sum.elim (HW_Go_ask_10 E K H0 w x1 x2) (fun out : World => RetV TA E K H0 cX3_ask out)) out) : Jj K (WdT TA E H0) w 134 [some (rf E.ad 152), some (.int (ii x1)), some (.int (ii x2)), some (.int (ii x3)), o4] [] := by
  unfold f_Go_ask_134 at hf
  have o := k.1
  have g := k.2.1
  have kr := k.2.2.1
  have hf := bl_out hf
  refine J_iinc o dX3_ask_134 rfl ?_
  refine J_goto 10 o dX3_ask_137 (by decide) ?_
  have hf := some_inj hf
  subst hf
  exact hc (R_wr _) _
noncomputable def f_Go_ask_101 (w : World) (x1 : Int) (x2 : Int) (x3 : Int) (x4 : Int) : Option (Int ⊕ World) :=
  if x4 < 0 then (f_Go_ask_134 w x1 x2 x3) else (if 1024 ≤ x4 then (f_Go_ask_134 w x1 x2 x3) else (gd (0 ≤ x4 ∧ x4 < 1024) (bnd (f_Go_goalAt w (wr ((w 154 x4.toNat) - 1))) fun v8 => if v8 = x1 then (some (Sum.inr w)) else (f_Go_ask_134 w x1 x2 x3))))
theorem t_Go_ask_101 {E : EE} {K : KT} {l : Launch} {H0 : Heap} (k : Kof TA E K l cX3_ask RX3 rm_Go_ask) {w : World} {x1 : Int} {x2 : Int} {x3 : Int} {x4 : Int} (r_x1 : R32 x1) (r_x2 : R32 x2) (r_x3 : R32 x3) (r_x4 : R32 x4) {out : (Int ⊕ World)} (hf : f_Go_ask_101 w x1 x2 x3 x4 = some out) (hc : (Sum.elim (HW_Go_ask_10 E K H0 w x1 x2) (fun out : World => RetV TA E K H0 cX3_ask out)) out) : Jj K (WdT TA E H0) w 101 [some (rf E.ad 152), some (.int (ii x1)), some (.int (ii x2)), some (.int (ii x3)), some (.int (ii x4))] [] := by
  unfold f_Go_ask_101 at hf
  have o := k.1
  have g := k.2.1
  have kr := k.2.2.1
  refine J_iload o dX3_ask_101 rfl ?_
  refine J_if_lt 134 o dX3_ask_103 (by decide) r_x4 (fun c1 => ?_) (fun c2 => ?_)
  · have hf := ite_t c1 hf
    exact t_Go_ask_134 k r_x1 r_x2 r_x3 hf hc
  · have hf := ite_f c2 hf
    refine J_iload o dX3_ask_106 rfl ?_
    refine J_aload_n o dX3_ask_108 rfl ?_
    refine J_getF (true, 154) o g dX3_ask_109 flX3_15 kA_152 rfl rfl rfl ?_
    refine J_alen o g dX3_ask_112 kA_154 ⟨by decide, by decide⟩ zA_154 ?_
    refine J_icmp_ge 134 o dX3_ask_113 (by decide) r_x4 rl1024 (fun c3 => ?_) (fun c4 => ?_)
    · have hf := ite_t c3 hf
      exact t_Go_ask_134 k r_x1 r_x2 r_x3 hf hc
    · have hf := ite_f c4 hf
      refine J_aload_n o dX3_ask_116 rfl ?_
      refine J_aload_n o dX3_ask_117 rfl ?_
      refine J_getF (true, 154) o g dX3_ask_118 flX3_15 kA_152 rfl rfl rfl ?_
      refine J_iload o dX3_ask_121 rfl ?_
      obtain ⟨g5, hf⟩ := gd_some hf
      refine J_iald o g dX3_ask_123 kA_154 r_x4 zA_154 g5 (fun q6 => ?_)
      refine J_iconst o dX3_ask_124 ?_
      refine J_isub o dX3_ask_125 ?_
      obtain ⟨v8, e7, hf⟩ := bnd_some hf
      refine J_vI o g kr dX3_ask_126 lkX3_23 ml_Go_goalAt vl_Go_goalAt ⟨rfl, rfl, Nat.le_of_ble_eq_true rfl, Nat.le_of_ble_eq_true rfl⟩ (c_Go_goalAt g.2.1 (R_wr _) e7) kA_152 rfl ⟨by decide, by decide⟩ rfl rfl c1s_0 (fun q9 => ?_)
      refine J_iload_n o dX3_ask_129 rfl ?_
      refine J_icmp_ne 134 o dX3_ask_130 (by decide) q9 r_x1 (fun c10 => ?_) (fun c11 => ?_)
      · have hf := ite_f c10 hf
        exact t_Go_ask_134 k r_x1 r_x2 r_x3 hf hc
      · have hf := ite_t c11 hf
        have hf := some_inj hf
        subst hf
        exact hc _ _  dX3_ask_133
noncomputable def f_Go_ask_10B (w : World) (x1 : Int) (x2 : Int) (x3 : Int) : Option (Int ⊕ World) :=
  if 1024 ≤ x3 then (some (Sum.inr w)) else (if 400 ≤ (w 152 0) then (some (Sum.inr w)) else (bl (iand (wr (x2 + x3)) (wr (1024 - 1))) fun n6 => if n6 < 0 then (f_Go_ask_101 w x1 x2 x3 n6) else (if 1024 ≤ n6 then (f_Go_ask_101 w x1 x2 x3 n6) else (gd (0 ≤ n6 ∧ n6 < 1024) (if (w 154 n6.toNat) = 0 then (gd (0 ≤ w 152 0 ∧ w 152 0 < 400) (bl (up w 153 (w 152 0).toNat x1) fun w17 => bl (up w17 152 0 (wr ((w17 152 0) + 1))) fun w19 => gd (0 ≤ n6 ∧ n6 < 1024) (bl (up w19 154 n6.toNat (w19 152 0)) fun w22 => some (Sum.inr w22)))) else (f_Go_ask_101 w x1 x2 x3 n6))))))
theorem t_Go_ask_10B {E : EE} {K : KT} {l : Launch} {H0 : Heap} (k : Kof TA E K l cX3_ask RX3 rm_Go_ask) {w : World} {x1 : Int} {x2 : Int} {x3 : Int} {o4 : Option Value} (r_x1 : R32 x1) (r_x2 : R32 x2) (r_x3 : R32 x3) {out : (Int ⊕ World)} (hf : f_Go_ask_10B w x1 x2 x3 = some out) (hc : (Sum.elim (HW_Go_ask_10 E K H0 w x1 x2) (fun out : World => RetV TA E K H0 cX3_ask out)) out) : Jj K (WdT TA E H0) w 10 [some (rf E.ad 152), some (.int (ii x1)), some (.int (ii x2)), some (.int (ii x3)), o4] [] := by
  unfold f_Go_ask_10B at hf
  have o := k.1
  have g := k.2.1
  have kr := k.2.2.1
  refine J_iload_n o dX3_ask_10 rfl ?_
  refine J_aload_n o dX3_ask_11 rfl ?_
  refine J_getF (true, 154) o g dX3_ask_12 flX3_15 kA_152 rfl rfl rfl ?_
  refine J_alen o g dX3_ask_15 kA_154 ⟨by decide, by decide⟩ zA_154 ?_
  refine J_icmp_ge 140 o dX3_ask_16 (by decide) r_x3 rl1024 (fun c1 => ?_) (fun c2 => ?_)
  · have hf := ite_t c1 hf
    have hf := some_inj hf
    subst hf
    exact hc _ _  dX3_ask_140
  · have hf := ite_f c2 hf
    refine J_aload_n o dX3_ask_19 rfl ?_
    refine J_getI o g dX3_ask_20 flX3_18 kA_152 rfl (fun q3 => ?_)
    refine J_aload_n o dX3_ask_23 rfl ?_
    refine J_getF (true, 153) o g dX3_ask_24 flX3_9 kA_152 rfl rfl rfl ?_
    refine J_alen o g dX3_ask_27 kA_153 ⟨by decide, by decide⟩ zA_153 ?_
    refine J_icmp_ge 140 o dX3_ask_28 (by decide) q3 rl400 (fun c4 => ?_) (fun c5 => ?_)
    · have hf := ite_t c4 hf
      have hf := some_inj hf
      subst hf
      exact hc _ _  dX3_ask_140
    · have hf := ite_f c5 hf
      refine J_iload_n o dX3_ask_31 rfl ?_
      refine J_iload_n o dX3_ask_32 rfl ?_
      refine J_iadd o dX3_ask_33 ?_
      refine J_aload_n o dX3_ask_34 rfl ?_
      refine J_getF (true, 154) o g dX3_ask_35 flX3_15 kA_152 rfl rfl rfl ?_
      refine J_alen o g dX3_ask_38 kA_154 ⟨by decide, by decide⟩ zA_154 ?_
      refine J_iconst o dX3_ask_39 ?_
      refine J_isub o dX3_ask_40 ?_
      refine J_iand o dX3_ask_41 ?_
      refine J_istore o dX3_ask_42 (Nat.le_of_ble_eq_true rfl) ?_
      have hf := bl_out hf
      refine J_iload o dX3_ask_44 rfl ?_
      refine J_if_lt 101 o dX3_ask_46 (by decide) (R_iand _ _) (fun c7 => ?_) (fun c8 => ?_)
      · have hf := ite_t c7 hf
        exact t_Go_ask_101 k r_x1 r_x2 r_x3 (R_iand _ _) hf hc
      · have hf := ite_f c8 hf
        refine J_iload o dX3_ask_49 rfl ?_
        refine J_aload_n o dX3_ask_51 rfl ?_
        refine J_getF (true, 154) o g dX3_ask_52 flX3_15 kA_152 rfl rfl rfl ?_
        refine J_alen o g dX3_ask_55 kA_154 ⟨by decide, by decide⟩ zA_154 ?_
        refine J_icmp_ge 101 o dX3_ask_56 (by decide) (R_iand _ _) rl1024 (fun c9 => ?_) (fun c10 => ?_)
        · have hf := ite_t c9 hf
          exact t_Go_ask_101 k r_x1 r_x2 r_x3 (R_iand _ _) hf hc
        · have hf := ite_f c10 hf
          refine J_aload_n o dX3_ask_59 rfl ?_
          refine J_getF (true, 154) o g dX3_ask_60 flX3_15 kA_152 rfl rfl rfl ?_
          refine J_iload o dX3_ask_63 rfl ?_
          obtain ⟨g11, hf⟩ := gd_some hf
          refine J_iald o g dX3_ask_65 kA_154 (R_iand _ _) zA_154 g11 (fun q12 => ?_)
          refine J_if_ne 101 o dX3_ask_66 (by decide) q12 (fun c13 => ?_) (fun c14 => ?_)
          · have hf := ite_f c13 hf
            exact t_Go_ask_101 k r_x1 r_x2 r_x3 (R_iand _ _) hf hc
          · have hf := ite_t c14 hf
            refine J_aload_n o dX3_ask_69 rfl ?_
            refine J_getF (true, 153) o g dX3_ask_70 flX3_9 kA_152 rfl rfl rfl ?_
            refine J_aload_n o dX3_ask_73 rfl ?_
            refine J_getI o g dX3_ask_74 flX3_18 kA_152 rfl (fun q15 => ?_)
            refine J_iload_n o dX3_ask_77 rfl ?_
            obtain ⟨g16, hf⟩ := gd_some hf
            refine J_iast o g dX3_ask_78 kA_153 (fxA_40 _) q15 zA_153 g16 r_x1 ?_
            have hf := bl_out hf
            refine J_aload_n o dX3_ask_79 rfl ?_
            refine J_dup o dX3_ask_80 rf_cat ?_
            refine J_getI o g dX3_ask_81 flX3_18 kA_152 rfl (fun q18 => ?_)
            refine J_iconst o dX3_ask_84 ?_
            refine J_iadd o dX3_ask_85 ?_
            refine J_putI o g dX3_ask_86 fpX3_18 kA_152 rfl rfl (R_wr _) ?_
            have hf := bl_out hf
            refine J_aload_n o dX3_ask_89 rfl ?_
            refine J_getF (true, 154) o g dX3_ask_90 flX3_15 kA_152 rfl rfl rfl ?_
            refine J_iload o dX3_ask_93 rfl ?_
            refine J_aload_n o dX3_ask_95 rfl ?_
            refine J_getI o g dX3_ask_96 flX3_18 kA_152 rfl (fun q20 => ?_)
            obtain ⟨g21, hf⟩ := gd_some hf
            refine J_iast o g dX3_ask_99 kA_154 (fxA_40 _) (R_iand _ _) zA_154 g21 q20 ?_
            have hf := bl_out hf
            have hf := some_inj hf
            subst hf
            exact hc _ _  dX3_ask_100
noncomputable def f_Go_ask_10 (w : World) (x1 : Int) (x2 : Int) (x3 : Int) : Option World :=
  lp (fun z : Int => f_Go_ask_10B w x1 x2 z) x3
theorem t_Go_ask_10 {E : EE} {K : KT} {l : Launch} {H0 : Heap} (k : Kof TA E K l cX3_ask RX3 rm_Go_ask) {w : World} {x1 : Int} {x2 : Int} {x3 : Int} (r_x1 : R32 x1) (r_x2 : R32 x2) {out : World} (hf : f_Go_ask_10 w x1 x2 x3 = some out) (hc : (fun out : World => RetV TA E K H0 cX3_ask out) out) : HW_Go_ask_10 E K H0 w x1 x2 x3 := by
  unfold f_Go_ask_10 at hf
  refine lp_ind (P := HW_Go_ask_10 E K H0 w x1 x2) hf ?_
  intro z o hs h1 h2
  intro r_x3
  intro o4
  refine t_Go_ask_10B k r_x1 r_x2 r_x3 hs ?_
  cases o with
  | inl z' => exact h1 z' rfl
  | inr r' => rw [h2 r' rfl]; exact hc
noncomputable def f_Go_ask (w : World) (x1 : Int) : Option World :=
  bl (iushr (wr (x1 * (-1640531535))) 22) fun n1 => f_Go_ask_10 w x1 n1 0
theorem t_Go_ask_0 {E : EE} {K : KT} {l : Launch} {H0 : Heap} (k : Kof TA E K l cX3_ask RX3 rm_Go_ask) {w : World} {x1 : Int} {o2 o3 o4 : Option Value} (r_x1 : R32 x1) {out : World} (hf : f_Go_ask w x1 = some out) (hc : (fun out : World => RetV TA E K H0 cX3_ask out) out) : Jj K (WdT TA E H0) w 0 [some (rf E.ad 152), some (.int (ii x1)), o2, o3, o4] [] := by
  unfold f_Go_ask at hf
  have o := k.1
  have g := k.2.1
  have kr := k.2.2.1
  refine J_iload_n o dX3_ask_0 rfl ?_
  refine J_ldc o dX3_ask_1 kcX3_22 ?_
  refine J_imul o dX3_ask_3 ?_
  refine J_bipush o dX3_ask_4 (by decide) ?_
  refine J_iushr o dX3_ask_6 ?_
  refine J_istore_n o dX3_ask_7 (Nat.le_of_ble_eq_true rfl) ?_
  have hf := bl_out hf
  refine J_iconst o dX3_ask_8 ?_
  refine J_istore_n o dX3_ask_9 (Nat.le_of_ble_eq_true rfl) ?_
  exact (t_Go_ask_10 k r_x1 (R_iushr _ _) hf hc) rl0 _
theorem c_Go_ask {E : EE} {l : Launch} (hI : Inj TA E) {w : World} {x1 : Int} (r_x1 : R32 x1) {out : World} (hf : f_Go_ask w x1 = some out) : ConV TA E l yX3_ask (WS yX3_ask cX3_ask 5 none) rm_Go_ask [rf E.ad 152, .int (ii x1)] w out :=
  con_V (by decide +kernel) rfl (Nat.le_of_ble_eq_true rfl) (c1s_r (c1s_i c1s_0 (Nat.le_of_ble_eq_true rfl)) (Nat.le_of_ble_eq_true rfl)).1 ⟨rfl, rfl⟩ hI TnA (fun K H0 k hret => t_Go_ask_0 k r_x1 hf hret)
abbrev rm_Dm_askFor : Room := { frames := 5, cells := 0, slots := 0, locals := 123 }
def HW_Dm_askFor_23 (E : EE) (K : KT) (H0 : Heap) (x2 : Int) (x3 : Int) (x4 : Int) : (World × Int) → Prop := fun z => R32 z.2 → ∀ o1 o6 o7 o8 o9 : Option Value, Jj K (WdT TA E H0) z.1 23 [some (rf E.ad 1), o1, some (.int (ii x2)), some (.int (ii x3)), some (.int (ii x4)), some (.int (ii z.2)), o6, o7, o8, o9] []
def HW_Dm_askFor_73 (E : EE) (K : KT) (H0 : Heap) (x2 : Int) (x3 : Int) (x4 : Int) (x5 : Int) (t6 : Nat) : (World × Int × Int) → Prop := fun z => R32 z.2.1 → R32 z.2.2 → ∀ o1 o9 : Option Value, Jj K (WdT TA E H0) z.1 73 [some (rf E.ad 1), o1, some (.int (ii x2)), some (.int (ii x3)), some (.int (ii x4)), some (.int (ii x5)), some (rf E.ad t6), some (.int (ii z.2.1)), some (.int (ii z.2.2)), o9] []
def HW_Dm_askFor_128 (E : EE) (K : KT) (H0 : Heap) (x2 : Int) (x3 : Int) (x4 : Int) (x5 : Int) (t6 : Nat) (x7 : Int) (x8 : Int) : (World × Int) → Prop := fun z => R32 z.2 → ∀ o1 : Option Value, Jj K (WdT TA E H0) z.1 128 [some (rf E.ad 1), o1, some (.int (ii x2)), some (.int (ii x3)), some (.int (ii x4)), some (.int (ii x5)), some (rf E.ad t6), some (.int (ii x7)), some (.int (ii x8)), some (.int (ii z.2))] []
noncomputable def f_Dm_askFor_192 (w : World) (x2 : Int) (x3 : Int) (x4 : Int) (x5 : Int) : Option ((World × Int) ⊕ World) :=
  bl (wr (x5 + 1)) fun n1 => some (Sum.inl (w, n1))
theorem t_Dm_askFor_192 {E : EE} {K : KT} {l : Launch} {H0 : Heap} (k : Kof TA E K l cX10_askFor RX10 rm_Dm_askFor) {w : World} {x2 : Int} {x3 : Int} {x4 : Int} {x5 : Int} {o1 o6 o7 o8 o9 : Option Value} (r_x2 : R32 x2) (r_x3 : R32 x3) (r_x4 : R32 x4) (r_x5 : R32 x5) {out : ((World × Int) ⊕ World)} (hf : f_Dm_askFor_192 w x2 x3 x4 x5 = some out) (hc : (Sum.elim (HW_Dm_askFor_23 E K H0 x2 x3 x4) (fun out : World => RetV TA E K H0 cX10_askFor out)) out) : Jj K (WdT TA E H0) w 192 [some (rf E.ad 1), o1, some (.int (ii x2)), some (.int (ii x3)), some (.int (ii x4)), some (.int (ii x5)), o6, o7, o8, o9] [] := by
  unfold f_Dm_askFor_192 at hf
  have o := k.1
  have g := k.2.1
  have kr := k.2.2.1
  have hf := bl_out hf
  refine J_iinc o dX10_askFor_192 rfl ?_
  refine J_goto 23 o dX10_askFor_195 (by decide) ?_
  have hf := some_inj hf
  subst hf
  exact hc (R_wr _) _ _ _ _ _
noncomputable def f_Dm_askFor_186 (w : World) (x2 : Int) (x3 : Int) (x4 : Int) (x5 : Int) (t6 : Nat) (x7 : Int) (x8 : Int) : Option ((World × Int × Int) ⊕ ((World × Int) ⊕ World)) :=
  bl (wr (x8 + 1)) fun n1 => some (Sum.inl (w, x7, n1))
theorem t_Dm_askFor_186 {E : EE} {K : KT} {l : Launch} {H0 : Heap} (k : Kof TA E K l cX10_askFor RX10 rm_Dm_askFor) {w : World} {x2 : Int} {x3 : Int} {x4 : Int} {x5 : Int} {t6 : Nat} {x7 : Int} {x8 : Int} {o1 o9 : Option Value} (r_x2 : R32 x2) (r_x3 : R32 x3) (r_x4 : R32 x4) (r_x5 : R32 x5) (k_t6 : TA.kd t6 = 1) (r_x7 : R32 x7) (r_x8 : R32 x8) {out : ((World × Int × Int) ⊕ ((World × Int) ⊕ World))} (hf : f_Dm_askFor_186 w x2 x3 x4 x5 t6 x7 x8 = some out) (hc : (Sum.elim (HW_Dm_askFor_73 E K H0 x2 x3 x4 x5 t6) (Sum.elim (HW_Dm_askFor_23 E K H0 x2 x3 x4) (fun out : World => RetV TA E K H0 cX10_askFor out))) out) : Jj K (WdT TA E H0) w 186 [some (rf E.ad 1), o1, some (.int (ii x2)), some (.int (ii x3)), some (.int (ii x4)), some (.int (ii x5)), some (rf E.ad t6), some (.int (ii x7)), some (.int (ii x8)), o9] [] := by
  unfold f_Dm_askFor_186 at hf
  have o := k.1
  have g := k.2.1
  have kr := k.2.2.1
  have hf := bl_out hf
  refine J_iinc o dX10_askFor_186 rfl ?_
  refine J_goto 73 o dX10_askFor_189 (by decide) ?_
  have hf := some_inj hf
  subst hf
  exact hc r_x7 (R_wr _) _ _
noncomputable def f_Dm_askFor_128B (w : World) (x2 : Int) (x3 : Int) (x4 : Int) (x5 : Int) (t6 : Nat) (x7 : Int) (x8 : Int) (x9 : Int) : Option ((World × Int) ⊕ ((World × Int × Int) ⊕ ((World × Int) ⊕ World))) :=
  if 10000000 ≤ x9 then (bnd (f_Dm_askFor_186 w x2 x3 x4 x5 t6 x7 x8) fun y3 => some (Sum.inr y3)) else (if x7 = 0 then (bnd (f_Dm_askFor_186 w x2 x3 x4 x5 t6 x7 x8) fun y6 => some (Sum.inr y6)) else (if 400 ≤ (w 152 0) then (bnd (f_Dm_askFor_186 w x2 x3 x4 x5 t6 x7 x8) fun y10 => some (Sum.inr y10)) else (bnd (f_Wa_next w ) fun v12 => if v12.2 = 0 then (bnd (f_Dm_askFor_186 v12.1 x2 x3 x4 x5 t6 x7 x8) fun y16 => some (Sum.inr y16)) else (bnd (f_Wa_goal v12.1 x8) fun v18 => bnd (f_Go_ask v12.1 v18) fun v21 => bl (wr (x9 + 1)) fun n23 => some (Sum.inl (v21, n23))))))
theorem t_Dm_askFor_128B {E : EE} {K : KT} {l : Launch} {H0 : Heap} (k : Kof TA E K l cX10_askFor RX10 rm_Dm_askFor) {w : World} {x2 : Int} {x3 : Int} {x4 : Int} {x5 : Int} {t6 : Nat} {x7 : Int} {x8 : Int} {x9 : Int} {o1 : Option Value} (r_x2 : R32 x2) (r_x3 : R32 x3) (r_x4 : R32 x4) (r_x5 : R32 x5) (k_t6 : TA.kd t6 = 1) (r_x7 : R32 x7) (r_x8 : R32 x8) (r_x9 : R32 x9) {out : ((World × Int) ⊕ ((World × Int × Int) ⊕ ((World × Int) ⊕ World)))} (hf : f_Dm_askFor_128B w x2 x3 x4 x5 t6 x7 x8 x9 = some out) (hc : (Sum.elim (HW_Dm_askFor_128 E K H0 x2 x3 x4 x5 t6 x7 x8) (Sum.elim (HW_Dm_askFor_73 E K H0 x2 x3 x4 x5 t6) (Sum.elim (HW_Dm_askFor_23 E K H0 x2 x3 x4) (fun out : World => RetV TA E K H0 cX10_askFor out)))) out) : Jj K (WdT TA E H0) w 128 [some (rf E.ad 1), o1, some (.int (ii x2)), some (.int (ii x3)), some (.int (ii x4)), some (.int (ii x5)), some (rf E.ad t6), some (.int (ii x7)), some (.int (ii x8)), some (.int (ii x9))] [] := by
  unfold f_Dm_askFor_128B at hf
  have o := k.1
  have g := k.2.1
  have kr := k.2.2.1
  refine J_iload o dX10_askFor_128 rfl ?_
  refine J_ldcw o dX10_askFor_130 kcX10_391 ?_
  refine J_icmp_ge 186 o dX10_askFor_133 (by decide) r_x9 rl10000000 (fun c1 => ?_) (fun c2 => ?_)
  · have hf := ite_t c1 hf
    obtain ⟨y3, hf1, hf⟩ := bnd_some hf
    have hf := some_inj hf
    subst hf
    exact t_Dm_askFor_186 k r_x2 r_x3 r_x4 r_x5 k_t6 r_x7 r_x8 hf1 hc
  · have hf := ite_f c2 hf
    refine J_iload o dX10_askFor_136 rfl ?_
    refine J_if_eq 186 o dX10_askFor_138 (by decide) r_x7 (fun c4 => ?_) (fun c5 => ?_)
    · have hf := ite_t c4 hf
      obtain ⟨y6, hf1, hf⟩ := bnd_some hf
      have hf := some_inj hf
      subst hf
      exact t_Dm_askFor_186 k r_x2 r_x3 r_x4 r_x5 k_t6 r_x7 r_x8 hf1 hc
    · have hf := ite_f c5 hf
      refine J_aload_n o dX10_askFor_141 rfl ?_
      refine J_getF (true, 152) o g dX10_askFor_142 flX10_81 kA_1 rfl rfl rfl ?_
      refine J_getI o g dX10_askFor_145 flX10_339 kA_152 rfl (fun q7 => ?_)
      refine J_sipush o dX10_askFor_148 (by decide) ?_
      refine J_icmp_ge 186 o dX10_askFor_151 (by decide) q7 rl400 (fun c8 => ?_) (fun c9 => ?_)
      · have hf := ite_t c8 hf
        obtain ⟨y10, hf1, hf⟩ := bnd_some hf
        have hf := some_inj hf
        subst hf
        exact t_Dm_askFor_186 k r_x2 r_x3 r_x4 r_x5 k_t6 r_x7 r_x8 hf1 hc
      · have hf := ite_f c9 hf
        refine J_aload_n o dX10_askFor_154 rfl ?_
        refine J_getF (true, 103) o g dX10_askFor_155 flX10_51 kA_1 rfl rfl rfl ?_
        obtain ⟨v12, e11, hf⟩ := bnd_some hf
        refine J_vI o g kr dX10_askFor_158 lkX10_392 ml_Wa_next vl_Wa_next ⟨rfl, rfl, Nat.le_of_ble_eq_true rfl, Nat.le_of_ble_eq_true rfl⟩ (c_Wa_next g.2.1  e11) kA_103 rfl ⟨by decide, by decide⟩ rfl rfl c1s_0 (fun q13 => ?_)
        refine J_if_eq 186 o dX10_askFor_161 (by decide) q13 (fun c14 => ?_) (fun c15 => ?_)
        · have hf := ite_t c14 hf
          obtain ⟨y16, hf1, hf⟩ := bnd_some hf
          have hf := some_inj hf
          subst hf
          exact t_Dm_askFor_186 k r_x2 r_x3 r_x4 r_x5 k_t6 r_x7 r_x8 hf1 hc
        · have hf := ite_f c15 hf
          refine J_aload_n o dX10_askFor_164 rfl ?_
          refine J_getF (true, 152) o g dX10_askFor_165 flX10_81 kA_1 rfl rfl rfl ?_
          refine J_aload_n o dX10_askFor_168 rfl ?_
          refine J_getF (true, 103) o g dX10_askFor_169 flX10_51 kA_1 rfl rfl rfl ?_
          refine J_iload o dX10_askFor_172 rfl ?_
          obtain ⟨v18, e17, hf⟩ := bnd_some hf
          refine J_vI o g kr dX10_askFor_174 lkX10_435 ml_Wa_goal vl_Wa_goal ⟨rfl, rfl, Nat.le_of_ble_eq_true rfl, Nat.le_of_ble_eq_true rfl⟩ (c_Wa_goal g.2.1 r_x8 e17) kA_103 rfl ⟨by decide, by decide⟩ rfl rfl (c1s_r c1s_0 (Nat.le_of_ble_eq_true rfl)) (fun q19 => ?_)
          obtain ⟨v21, e20, hf⟩ := bnd_some hf
          refine J_vV o g kr dX10_askFor_177 lkX10_335 ml_Go_ask vl_Go_ask ⟨rfl, rfl, Nat.le_of_ble_eq_true rfl, Nat.le_of_ble_eq_true rfl⟩ (c_Go_ask g.2.1 q19 e20) kA_152 rfl ⟨by decide, by decide⟩ rfl rfl c1s_0 ?_
          have hf := bl_out hf
          refine J_iinc o dX10_askFor_180 rfl ?_
          refine J_goto 128 o dX10_askFor_183 (by decide) ?_
          have hf := some_inj hf
          subst hf
          exact hc (R_wr _) _
noncomputable def f_Dm_askFor_128 (w : World) (x2 : Int) (x3 : Int) (x4 : Int) (x5 : Int) (t6 : Nat) (x7 : Int) (x8 : Int) (x9 : Int) : Option ((World × Int × Int) ⊕ ((World × Int) ⊕ World)) :=
  lp (fun z : (World × Int) => f_Dm_askFor_128B z.1 x2 x3 x4 x5 t6 x7 x8 z.2) (w, x9)
theorem t_Dm_askFor_128 {E : EE} {K : KT} {l : Launch} {H0 : Heap} (k : Kof TA E K l cX10_askFor RX10 rm_Dm_askFor) {w : World} {x2 : Int} {x3 : Int} {x4 : Int} {x5 : Int} {t6 : Nat} {x7 : Int} {x8 : Int} {x9 : Int} (r_x2 : R32 x2) (r_x3 : R32 x3) (r_x4 : R32 x4) (r_x5 : R32 x5) (k_t6 : TA.kd t6 = 1) (r_x7 : R32 x7) (r_x8 : R32 x8) {out : ((World × Int × Int) ⊕ ((World × Int) ⊕ World))} (hf : f_Dm_askFor_128 w x2 x3 x4 x5 t6 x7 x8 x9 = some out) (hc : (Sum.elim (HW_Dm_askFor_73 E K H0 x2 x3 x4 x5 t6) (Sum.elim (HW_Dm_askFor_23 E K H0 x2 x3 x4) (fun out : World => RetV TA E K H0 cX10_askFor out))) out) : HW_Dm_askFor_128 E K H0 x2 x3 x4 x5 t6 x7 x8 (w, x9) := by
  unfold f_Dm_askFor_128 at hf
  refine lp_ind (P := HW_Dm_askFor_128 E K H0 x2 x3 x4 x5 t6 x7 x8) hf ?_
  intro z o hs h1 h2
  intro r_x9
  intro o1
  refine t_Dm_askFor_128B k r_x2 r_x3 r_x4 r_x5 k_t6 r_x7 r_x8 r_x9 hs ?_
  cases o with
  | inl z' => exact h1 z' rfl
  | inr r' => rw [h2 r' rfl]; exact hc
noncomputable def f_Dm_askFor_73B (w : World) (x2 : Int) (x3 : Int) (x4 : Int) (x5 : Int) (t6 : Nat) (x7 : Int) (x8 : Int) : Option ((World × Int × Int) ⊕ ((World × Int) ⊕ World)) :=
  if x7 = 0 then (bnd (f_Dm_askFor_192 w x2 x3 x4 x5) fun y3 => some (Sum.inr y3)) else (if (w t6 0) ≤ x8 then (bnd (f_Dm_askFor_192 w x2 x3 x4 x5) fun y7 => some (Sum.inr y7)) else (bnd (f_Bo_isAtom w t6 x8) fun v9 => if v9 = 0 then (f_Dm_askFor_186 w x2 x3 x4 x5 t6 x7 x8) else (bnd (f_Dm_present w ) fun v14 => gd (kdA v14 = 6) (bnd (f_Wa_begin w t6 v14 x8) fun v18 => bnd (f_Wa_pose v18 x4 x3) fun v21 => f_Dm_askFor_128 v21.1 x2 x3 x4 x5 t6 v21.2 x8 0))))
theorem t_Dm_askFor_73B {E : EE} {K : KT} {l : Launch} {H0 : Heap} (k : Kof TA E K l cX10_askFor RX10 rm_Dm_askFor) {w : World} {x2 : Int} {x3 : Int} {x4 : Int} {x5 : Int} {t6 : Nat} {x7 : Int} {x8 : Int} {o1 o9 : Option Value} (r_x2 : R32 x2) (r_x3 : R32 x3) (r_x4 : R32 x4) (r_x5 : R32 x5) (k_t6 : TA.kd t6 = 1) (r_x7 : R32 x7) (r_x8 : R32 x8) {out : ((World × Int × Int) ⊕ ((World × Int) ⊕ World))} (hf : f_Dm_askFor_73B w x2 x3 x4 x5 t6 x7 x8 = some out) (hc : (Sum.elim (HW_Dm_askFor_73 E K H0 x2 x3 x4 x5 t6) (Sum.elim (HW_Dm_askFor_23 E K H0 x2 x3 x4) (fun out : World => RetV TA E K H0 cX10_askFor out))) out) : Jj K (WdT TA E H0) w 73 [some (rf E.ad 1), o1, some (.int (ii x2)), some (.int (ii x3)), some (.int (ii x4)), some (.int (ii x5)), some (rf E.ad t6), some (.int (ii x7)), some (.int (ii x8)), o9] [] := by
  unfold f_Dm_askFor_73B at hf
  have o := k.1
  have g := k.2.1
  have kr := k.2.2.1
  refine J_iload o dX10_askFor_73 rfl ?_
  refine J_if_eq 192 o dX10_askFor_75 (by decide) r_x7 (fun c1 => ?_) (fun c2 => ?_)
  · have hf := ite_t c1 hf
    obtain ⟨y3, hf1, hf⟩ := bnd_some hf
    have hf := some_inj hf
    subst hf
    exact t_Dm_askFor_192 k r_x2 r_x3 r_x4 r_x5 hf1 hc
  · have hf := ite_f c2 hf
    refine J_iload o dX10_askFor_78 rfl ?_
    refine J_aload o dX10_askFor_80 rfl ?_
    refine J_getI o g dX10_askFor_82 flX10_187 k_t6 rfl (fun q4 => ?_)
    refine J_icmp_ge 192 o dX10_askFor_85 (by decide) r_x8 q4 (fun c5 => ?_) (fun c6 => ?_)
    · have hf := ite_t c5 hf
      obtain ⟨y7, hf1, hf⟩ := bnd_some hf
      have hf := some_inj hf
      subst hf
      exact t_Dm_askFor_192 k r_x2 r_x3 r_x4 r_x5 hf1 hc
    · have hf := ite_f c6 hf
      refine J_aload o dX10_askFor_88 rfl ?_
      refine J_iload o dX10_askFor_90 rfl ?_
      obtain ⟨v9, e8, hf⟩ := bnd_some hf
      refine J_vI o g kr dX10_askFor_92 lkX10_432 ml_Bo_isAtom vl_Bo_isAtom ⟨rfl, rfl, Nat.le_of_ble_eq_true rfl, Nat.le_of_ble_eq_true rfl⟩ (c_Bo_isAtom g.2.1 k_t6 r_x8 e8) k_t6 rfl ⟨by decide, by decide⟩ rfl rfl c1s_0 (fun q10 => ?_)
      refine J_if_eq 186 o dX10_askFor_95 (by decide) q10 (fun c11 => ?_) (fun c12 => ?_)
      · have hf := ite_t c11 hf
        exact t_Dm_askFor_186 k r_x2 r_x3 r_x4 r_x5 k_t6 r_x7 r_x8 hf hc
      · have hf := ite_f c12 hf
        refine J_aload_n o dX10_askFor_98 rfl ?_
        refine J_getF (true, 103) o g dX10_askFor_99 flX10_51 kA_1 rfl rfl rfl ?_
        refine J_aload o dX10_askFor_102 rfl ?_
        refine J_aload_n o dX10_askFor_104 rfl ?_
        obtain ⟨v14, e13, hf⟩ := bnd_some hf
        refine J_vR o g kr dX10_askFor_105 lkX10_261 ml_Dm_present vl_Dm_present ⟨rfl, rfl, Nat.le_of_ble_eq_true rfl, Nat.le_of_ble_eq_true rfl⟩ (c_Dm_present g.2.1  e13) kA_1 rfl ⟨by decide, by decide⟩ rfl rfl (c1s_r (c1s_r c1s_0 (Nat.le_of_ble_eq_true rfl)) (Nat.le_of_ble_eq_true rfl)) ?_
        refine J_iload o dX10_askFor_108 rfl ?_
        obtain ⟨g16, hf⟩ := gd_some hf
        obtain ⟨v18, e17, hf⟩ := bnd_some hf
        refine J_vV o g kr dX10_askFor_110 lkX10_395 ml_Wa_begin vl_Wa_begin ⟨rfl, rfl, Nat.le_of_ble_eq_true rfl, Nat.le_of_ble_eq_true rfl⟩ (c_Wa_begin g.2.1 k_t6 g16 r_x8 e17) kA_103 rfl ⟨by decide, by decide⟩ rfl rfl c1s_0 ?_
        refine J_aload_n o dX10_askFor_113 rfl ?_
        refine J_getF (true, 103) o g dX10_askFor_114 flX10_51 kA_1 rfl rfl rfl ?_
        refine J_iload o dX10_askFor_117 rfl ?_
        refine J_iload_n o dX10_askFor_119 rfl ?_
        obtain ⟨v21, e20, hf⟩ := bnd_some hf
        refine J_vI o g kr dX10_askFor_120 lkX10_402 ml_Wa_pose vl_Wa_pose ⟨rfl, rfl, Nat.le_of_ble_eq_true rfl, Nat.le_of_ble_eq_true rfl⟩ (c_Wa_pose g.2.1 r_x4 r_x3 e20) kA_103 rfl ⟨by decide, by decide⟩ rfl rfl c1s_0 (fun q22 => ?_)
        refine J_istore o dX10_askFor_123 (Nat.le_of_ble_eq_true rfl) ?_
        refine J_iconst o dX10_askFor_125 ?_
        refine J_istore o dX10_askFor_126 (Nat.le_of_ble_eq_true rfl) ?_
        exact (t_Dm_askFor_128 k r_x2 r_x3 r_x4 r_x5 k_t6 q22 r_x8 hf hc) rl0 _
noncomputable def f_Dm_askFor_73 (w : World) (x2 : Int) (x3 : Int) (x4 : Int) (x5 : Int) (t6 : Nat) (x7 : Int) (x8 : Int) : Option ((World × Int) ⊕ World) :=
  lp (fun z : (World × Int × Int) => f_Dm_askFor_73B z.1 x2 x3 x4 x5 t6 z.2.1 z.2.2) (w, x7, x8)
theorem t_Dm_askFor_73 {E : EE} {K : KT} {l : Launch} {H0 : Heap} (k : Kof TA E K l cX10_askFor RX10 rm_Dm_askFor) {w : World} {x2 : Int} {x3 : Int} {x4 : Int} {x5 : Int} {t6 : Nat} {x7 : Int} {x8 : Int} (r_x2 : R32 x2) (r_x3 : R32 x3) (r_x4 : R32 x4) (r_x5 : R32 x5) (k_t6 : TA.kd t6 = 1) {out : ((World × Int) ⊕ World)} (hf : f_Dm_askFor_73 w x2 x3 x4 x5 t6 x7 x8 = some out) (hc : (Sum.elim (HW_Dm_askFor_23 E K H0 x2 x3 x4) (fun out : World => RetV TA E K H0 cX10_askFor out)) out) : HW_Dm_askFor_73 E K H0 x2 x3 x4 x5 t6 (w, x7, x8) := by
  unfold f_Dm_askFor_73 at hf
  refine lp_ind (P := HW_Dm_askFor_73 E K H0 x2 x3 x4 x5 t6) hf ?_
  intro z o hs h1 h2
  intro r_x7 r_x8
  intro o1 o9
  refine t_Dm_askFor_73B k r_x2 r_x3 r_x4 r_x5 k_t6 r_x7 r_x8 hs ?_
  cases o with
  | inl z' => exact h1 z' rfl
  | inr r' => rw [h2 r' rfl]; exact hc
noncomputable def f_Dm_askFor_68 (w : World) (x2 : Int) (x3 : Int) (x4 : Int) (x5 : Int) (t6 : Nat) (s0 : Int) : Option ((World × Int) ⊕ World) :=
  f_Dm_askFor_73 w x2 x3 x4 x5 t6 s0 0
theorem t_Dm_askFor_68 {E : EE} {K : KT} {l : Launch} {H0 : Heap} (k : Kof TA E K l cX10_askFor RX10 rm_Dm_askFor) {w : World} {x2 : Int} {x3 : Int} {x4 : Int} {x5 : Int} {t6 : Nat} {s0 : Int} {o1 o7 o8 o9 : Option Value} (r_x2 : R32 x2) (r_x3 : R32 x3) (r_x4 : R32 x4) (r_x5 : R32 x5) (k_t6 : TA.kd t6 = 1) (r_s0 : R32 s0) {out : ((World × Int) ⊕ World)} (hf : f_Dm_askFor_68 w x2 x3 x4 x5 t6 s0 = some out) (hc : (Sum.elim (HW_Dm_askFor_23 E K H0 x2 x3 x4) (fun out : World => RetV TA E K H0 cX10_askFor out)) out) : Jj K (WdT TA E H0) w 68 [some (rf E.ad 1), o1, some (.int (ii x2)), some (.int (ii x3)), some (.int (ii x4)), some (.int (ii x5)), some (rf E.ad t6), o7, o8, o9] [.int (ii s0)] := by
  unfold f_Dm_askFor_68 at hf
  have o := k.1
  have g := k.2.1
  have kr := k.2.2.1
  refine J_istore o dX10_askFor_68 (Nat.le_of_ble_eq_true rfl) ?_
  refine J_iconst o dX10_askFor_70 ?_
  refine J_istore o dX10_askFor_71 (Nat.le_of_ble_eq_true rfl) ?_
  exact (t_Dm_askFor_73 k r_x2 r_x3 r_x4 r_x5 k_t6 hf hc) r_s0 rl0 _ _
noncomputable def f_Dm_askFor_67 (w : World) (x2 : Int) (x3 : Int) (x4 : Int) (x5 : Int) (t6 : Nat) : Option ((World × Int) ⊕ World) :=
  f_Dm_askFor_68 w x2 x3 x4 x5 t6 0
theorem t_Dm_askFor_67 {E : EE} {K : KT} {l : Launch} {H0 : Heap} (k : Kof TA E K l cX10_askFor RX10 rm_Dm_askFor) {w : World} {x2 : Int} {x3 : Int} {x4 : Int} {x5 : Int} {t6 : Nat} {o1 o7 o8 o9 : Option Value} (r_x2 : R32 x2) (r_x3 : R32 x3) (r_x4 : R32 x4) (r_x5 : R32 x5) (k_t6 : TA.kd t6 = 1) {out : ((World × Int) ⊕ World)} (hf : f_Dm_askFor_67 w x2 x3 x4 x5 t6 = some out) (hc : (Sum.elim (HW_Dm_askFor_23 E K H0 x2 x3 x4) (fun out : World => RetV TA E K H0 cX10_askFor out)) out) : Jj K (WdT TA E H0) w 67 [some (rf E.ad 1), o1, some (.int (ii x2)), some (.int (ii x3)), some (.int (ii x4)), some (.int (ii x5)), some (rf E.ad t6), o7, o8, o9] [] := by
  unfold f_Dm_askFor_67 at hf
  have o := k.1
  have g := k.2.1
  have kr := k.2.2.1
  refine J_iconst o dX10_askFor_67 ?_
  exact t_Dm_askFor_68 k r_x2 r_x3 r_x4 r_x5 k_t6 rl0 hf hc
noncomputable def f_Dm_askFor_23B (w : World) (x2 : Int) (x3 : Int) (x4 : Int) (x5 : Int) : Option ((World × Int) ⊕ World) :=
  if (w 14 4) ≤ x5 then (some (Sum.inr w)) else (bnd (f_Pr_rule w x5) fun v5 => gd (kdA v5 = 1) (if (w v5 2) = 0 then (if (w v5 1) = x2 then (f_Dm_askFor_68 w x2 x3 x4 x5 v5 1) else (f_Dm_askFor_67 w x2 x3 x4 x5 v5)) else (f_Dm_askFor_67 w x2 x3 x4 x5 v5)))
theorem t_Dm_askFor_23B {E : EE} {K : KT} {l : Launch} {H0 : Heap} (k : Kof TA E K l cX10_askFor RX10 rm_Dm_askFor) {w : World} {x2 : Int} {x3 : Int} {x4 : Int} {x5 : Int} {o1 o6 o7 o8 o9 : Option Value} (r_x2 : R32 x2) (r_x3 : R32 x3) (r_x4 : R32 x4) (r_x5 : R32 x5) {out : ((World × Int) ⊕ World)} (hf : f_Dm_askFor_23B w x2 x3 x4 x5 = some out) (hc : (Sum.elim (HW_Dm_askFor_23 E K H0 x2 x3 x4) (fun out : World => RetV TA E K H0 cX10_askFor out)) out) : Jj K (WdT TA E H0) w 23 [some (rf E.ad 1), o1, some (.int (ii x2)), some (.int (ii x3)), some (.int (ii x4)), some (.int (ii x5)), o6, o7, o8, o9] [] := by
  unfold f_Dm_askFor_23B at hf
  have o := k.1
  have g := k.2.1
  have kr := k.2.2.1
  refine J_iload o dX10_askFor_23 rfl ?_
  refine J_aload_n o dX10_askFor_25 rfl ?_
  refine J_getF (true, 14) o g dX10_askFor_26 flX10_39 kA_1 rfl rfl rfl ?_
  refine J_getI o g dX10_askFor_29 flX10_217 kA_14 rfl (fun q1 => ?_)
  refine J_icmp_ge 198 o dX10_askFor_32 (by decide) r_x5 q1 (fun c2 => ?_) (fun c3 => ?_)
  · have hf := ite_t c2 hf
    have hf := some_inj hf
    subst hf
    exact hc _ _  dX10_askFor_198
  · have hf := ite_f c3 hf
    refine J_aload_n o dX10_askFor_35 rfl ?_
    refine J_getF (true, 14) o g dX10_askFor_36 flX10_39 kA_1 rfl rfl rfl ?_
    refine J_iload o dX10_askFor_39 rfl ?_
    obtain ⟨v5, e4, hf⟩ := bnd_some hf
    refine J_vR o g kr dX10_askFor_41 lkX10_249 ml_Pr_rule vl_Pr_rule ⟨rfl, rfl, Nat.le_of_ble_eq_true rfl, Nat.le_of_ble_eq_true rfl⟩ (c_Pr_rule g.2.1 r_x5 e4) kA_14 rfl ⟨by decide, by decide⟩ rfl rfl c1s_0 ?_
    refine J_astore o dX10_askFor_44 (Nat.le_of_ble_eq_true rfl) ?_
    refine J_aload o dX10_askFor_46 rfl ?_
    obtain ⟨g7, hf⟩ := gd_some hf
    refine J_getI o g dX10_askFor_48 flX10_253 g7 rfl (fun q8 => ?_)
    refine J_if_ne 67 o dX10_askFor_51 (by decide) q8 (fun c9 => ?_) (fun c10 => ?_)
    · have hf := ite_f c9 hf
      exact t_Dm_askFor_67 k r_x2 r_x3 r_x4 r_x5 g7 hf hc
    · have hf := ite_t c10 hf
      refine J_aload o dX10_askFor_54 rfl ?_
      refine J_getI o g dX10_askFor_56 flX10_208 g7 rfl (fun q11 => ?_)
      refine J_iload_n o dX10_askFor_59 rfl ?_
      refine J_icmp_ne 67 o dX10_askFor_60 (by decide) q11 r_x2 (fun c12 => ?_) (fun c13 => ?_)
      · have hf := ite_f c12 hf
        exact t_Dm_askFor_67 k r_x2 r_x3 r_x4 r_x5 g7 hf hc
      · have hf := ite_t c13 hf
        refine J_iconst o dX10_askFor_63 ?_
        refine J_goto 68 o dX10_askFor_64 (by decide) ?_
        exact t_Dm_askFor_68 k r_x2 r_x3 r_x4 r_x5 g7 rl1 hf hc
noncomputable def f_Dm_askFor_23 (w : World) (x2 : Int) (x3 : Int) (x4 : Int) (x5 : Int) : Option World :=
  lp (fun z : (World × Int) => f_Dm_askFor_23B z.1 x2 x3 x4 z.2) (w, x5)
theorem t_Dm_askFor_23 {E : EE} {K : KT} {l : Launch} {H0 : Heap} (k : Kof TA E K l cX10_askFor RX10 rm_Dm_askFor) {w : World} {x2 : Int} {x3 : Int} {x4 : Int} {x5 : Int} (r_x2 : R32 x2) (r_x3 : R32 x3) (r_x4 : R32 x4) {out : World} (hf : f_Dm_askFor_23 w x2 x3 x4 x5 = some out) (hc : (fun out : World => RetV TA E K H0 cX10_askFor out) out) : HW_Dm_askFor_23 E K H0 x2 x3 x4 (w, x5) := by
  unfold f_Dm_askFor_23 at hf
  refine lp_ind (P := HW_Dm_askFor_23 E K H0 x2 x3 x4) hf ?_
  intro z o hs h1 h2
  intro r_x5
  intro o1 o6 o7 o8 o9
  refine t_Dm_askFor_23B k r_x2 r_x3 r_x4 r_x5 hs ?_
  cases o with
  | inl z' => exact h1 z' rfl
  | inr r' => rw [h2 r' rfl]; exact hc
noncomputable def f_Dm_askFor (w : World) (x1 : Int) : Option World :=
  bl (ishr x1 24) fun n1 => bl (iand (ishr x1 21) 7) fun n2 => bl (iand x1 2097151) fun n3 => f_Dm_askFor_23 w n1 n2 n3 0
theorem t_Dm_askFor_0 {E : EE} {K : KT} {l : Launch} {H0 : Heap} (k : Kof TA E K l cX10_askFor RX10 rm_Dm_askFor) {w : World} {x1 : Int} {o2 o3 o4 o5 o6 o7 o8 o9 : Option Value} (r_x1 : R32 x1) {out : World} (hf : f_Dm_askFor w x1 = some out) (hc : (fun out : World => RetV TA E K H0 cX10_askFor out) out) : Jj K (WdT TA E H0) w 0 [some (rf E.ad 1), some (.int (ii x1)), o2, o3, o4, o5, o6, o7, o8, o9] [] := by
  unfold f_Dm_askFor at hf
  have o := k.1
  have g := k.2.1
  have kr := k.2.2.1
  refine J_iload_n o dX10_askFor_0 rfl ?_
  refine J_bipush o dX10_askFor_1 (by decide) ?_
  refine J_ishr o dX10_askFor_3 ?_
  refine J_istore_n o dX10_askFor_4 (Nat.le_of_ble_eq_true rfl) ?_
  have hf := bl_out hf
  refine J_iload_n o dX10_askFor_5 rfl ?_
  refine J_bipush o dX10_askFor_6 (by decide) ?_
  refine J_ishr o dX10_askFor_8 ?_
  refine J_bipush o dX10_askFor_9 (by decide) ?_
  refine J_iand o dX10_askFor_11 ?_
  refine J_istore_n o dX10_askFor_12 (Nat.le_of_ble_eq_true rfl) ?_
  have hf := bl_out hf
  refine J_iload_n o dX10_askFor_13 rfl ?_
  refine J_ldcw o dX10_askFor_14 kcX10_431 ?_
  refine J_iand o dX10_askFor_17 ?_
  refine J_istore o dX10_askFor_18 (Nat.le_of_ble_eq_true rfl) ?_
  have hf := bl_out hf
  refine J_iconst o dX10_askFor_20 ?_
  refine J_istore o dX10_askFor_21 (Nat.le_of_ble_eq_true rfl) ?_
  exact (t_Dm_askFor_23 k (R_ishr _ _) (R_iand _ _) (R_iand _ _) hf hc) rl0 _ _ _ _ _
theorem c_Dm_askFor {E : EE} {l : Launch} (hI : Inj TA E) {w : World} {x1 : Int} (r_x1 : R32 x1) {out : World} (hf : f_Dm_askFor w x1 = some out) : ConV TA E l yX10_askFor (WS yX10_askFor cX10_askFor 10 none) rm_Dm_askFor [rf E.ad 1, .int (ii x1)] w out :=
  con_V (by decide +kernel) rfl (Nat.le_of_ble_eq_true rfl) (c1s_r (c1s_i c1s_0 (Nat.le_of_ble_eq_true rfl)) (Nat.le_of_ble_eq_true rfl)).1 ⟨rfl, rfl⟩ hI TnA (fun K H0 k hret => t_Dm_askFor_0 k r_x1 hf hret)
abbrev rm_Bo_areAlike : Room := { frames := 2, cells := 0, slots := 0, locals := 47 }
def HW_Bo_areAlike_6 (E : EE) (K : KT) (H0 : Heap) (w : World) (t0 : Nat) (x1 : Int) (x2 : Int) (x3 : Int) : (Int × Int) → Prop := fun z => R32 z.1 → R32 z.2 → Jj K (WdT TA E H0) w 6 [some (rf E.ad t0), some (.int (ii x1)), some (.int (ii x2)), some (.int (ii x3)), some (.int (ii z.1)), some (.int (ii z.2))] []
noncomputable def f_Bo_areAlike_39 (w : World) (t0 : Nat) (x1 : Int) (x2 : Int) (x3 : Int) (x5 : Int) (s0 : Int) : Option ((Int × Int) ⊕ Int) :=
  bl (wr (x5 + 1)) fun n1 => some (Sum.inl (s0, n1))
theorem t_Bo_areAlike_39 {E : EE} {K : KT} {l : Launch} {H0 : Heap} (k : Kof TA E K l cX0_areAlike RX0 rm_Bo_areAlike) {w : World} {t0 : Nat} {x1 : Int} {x2 : Int} {x3 : Int} {x5 : Int} {s0 : Int} {o4 : Option Value} (k_t0 : TA.kd t0 = 1) (r_x1 : R32 x1) (r_x2 : R32 x2) (r_x3 : R32 x3) (r_x5 : R32 x5) (r_s0 : R32 s0) {out : ((Int × Int) ⊕ Int)} (hf : f_Bo_areAlike_39 w t0 x1 x2 x3 x5 s0 = some out) (hc : (Sum.elim (HW_Bo_areAlike_6 E K H0 w t0 x1 x2 x3) (fun out : Int => RetZ TA E K H0 cX0_areAlike w out)) out) : Jj K (WdT TA E H0) w 39 [some (rf E.ad t0), some (.int (ii x1)), some (.int (ii x2)), some (.int (ii x3)), o4, some (.int (ii x5))] [.int (ii s0)] := by
  unfold f_Bo_areAlike_39 at hf
  have o := k.1
  have g := k.2.1
  have kr := k.2.2.1
  refine J_istore o dX0_areAlike_39 (Nat.le_of_ble_eq_true rfl) ?_
  have hf := bl_out hf
  refine J_iinc o dX0_areAlike_41 rfl ?_
  refine J_goto 6 o dX0_areAlike_44 (by decide) ?_
  have hf := some_inj hf
  subst hf
  exact hc r_s0 (R_wr _) 
noncomputable def f_Bo_areAlike_38 (w : World) (t0 : Nat) (x1 : Int) (x2 : Int) (x3 : Int) (x5 : Int) : Option ((Int × Int) ⊕ Int) :=
  f_Bo_areAlike_39 w t0 x1 x2 x3 x5 0
theorem t_Bo_areAlike_38 {E : EE} {K : KT} {l : Launch} {H0 : Heap} (k : Kof TA E K l cX0_areAlike RX0 rm_Bo_areAlike) {w : World} {t0 : Nat} {x1 : Int} {x2 : Int} {x3 : Int} {x5 : Int} {o4 : Option Value} (k_t0 : TA.kd t0 = 1) (r_x1 : R32 x1) (r_x2 : R32 x2) (r_x3 : R32 x3) (r_x5 : R32 x5) {out : ((Int × Int) ⊕ Int)} (hf : f_Bo_areAlike_38 w t0 x1 x2 x3 x5 = some out) (hc : (Sum.elim (HW_Bo_areAlike_6 E K H0 w t0 x1 x2 x3) (fun out : Int => RetZ TA E K H0 cX0_areAlike w out)) out) : Jj K (WdT TA E H0) w 38 [some (rf E.ad t0), some (.int (ii x1)), some (.int (ii x2)), some (.int (ii x3)), o4, some (.int (ii x5))] [] := by
  unfold f_Bo_areAlike_38 at hf
  have o := k.1
  have g := k.2.1
  have kr := k.2.2.1
  refine J_iconst o dX0_areAlike_38 ?_
  exact t_Bo_areAlike_39 k k_t0 r_x1 r_x2 r_x3 r_x5 rl0 hf hc
noncomputable def f_Bo_areAlike_6B (w : World) (t0 : Nat) (x1 : Int) (x2 : Int) (x3 : Int) (x4 : Int) (x5 : Int) : Option ((Int × Int) ⊕ Int) :=
  if x3 ≤ x5 then (gd (x4 = 0 ∨ x4 = 1) (some (Sum.inr x4))) else (if x4 = 0 then (f_Bo_areAlike_38 w t0 x1 x2 x3 x5) else (bnd (f_Bo_termOf w t0 x1 x5) fun v7 => bnd (f_Bo_termOf w t0 x2 x5) fun v10 => if v7 = v10 then (f_Bo_areAlike_39 w t0 x1 x2 x3 x5 1) else (f_Bo_areAlike_38 w t0 x1 x2 x3 x5)))
theorem t_Bo_areAlike_6B {E : EE} {K : KT} {l : Launch} {H0 : Heap} (k : Kof TA E K l cX0_areAlike RX0 rm_Bo_areAlike) {w : World} {t0 : Nat} {x1 : Int} {x2 : Int} {x3 : Int} {x4 : Int} {x5 : Int} (k_t0 : TA.kd t0 = 1) (r_x1 : R32 x1) (r_x2 : R32 x2) (r_x3 : R32 x3) (r_x4 : R32 x4) (r_x5 : R32 x5) {out : ((Int × Int) ⊕ Int)} (hf : f_Bo_areAlike_6B w t0 x1 x2 x3 x4 x5 = some out) (hc : (Sum.elim (HW_Bo_areAlike_6 E K H0 w t0 x1 x2 x3) (fun out : Int => RetZ TA E K H0 cX0_areAlike w out)) out) : Jj K (WdT TA E H0) w 6 [some (rf E.ad t0), some (.int (ii x1)), some (.int (ii x2)), some (.int (ii x3)), some (.int (ii x4)), some (.int (ii x5))] [] := by
  unfold f_Bo_areAlike_6B at hf
  have o := k.1
  have g := k.2.1
  have kr := k.2.2.1
  refine J_iload o dX0_areAlike_6 rfl ?_
  refine J_iload_n o dX0_areAlike_8 rfl ?_
  refine J_icmp_ge 47 o dX0_areAlike_9 (by decide) r_x5 r_x3 (fun c1 => ?_) (fun c2 => ?_)
  · have hf := ite_t c1 hf
    refine J_iload o dX0_areAlike_47 rfl ?_
    obtain ⟨g3, hf⟩ := gd_some hf
    have hf := some_inj hf
    subst hf
    exact hc _ _ g3 dX0_areAlike_49
  · have hf := ite_f c2 hf
    refine J_iload o dX0_areAlike_12 rfl ?_
    refine J_if_eq 38 o dX0_areAlike_14 (by decide) r_x4 (fun c4 => ?_) (fun c5 => ?_)
    · have hf := ite_t c4 hf
      exact t_Bo_areAlike_38 k k_t0 r_x1 r_x2 r_x3 r_x5 hf hc
    · have hf := ite_f c5 hf
      refine J_aload_n o dX0_areAlike_17 rfl ?_
      refine J_iload_n o dX0_areAlike_18 rfl ?_
      refine J_iload o dX0_areAlike_19 rfl ?_
      obtain ⟨v7, e6, hf⟩ := bnd_some hf
      refine J_vI o g kr dX0_areAlike_21 lkX0_53 ml_Bo_termOf vl_Bo_termOf ⟨rfl, rfl, Nat.le_of_ble_eq_true rfl, Nat.le_of_ble_eq_true rfl⟩ (c_Bo_termOf g.2.1 k_t0 r_x1 r_x5 e6) k_t0 rfl ⟨by decide, by decide⟩ rfl rfl c1s_0 (fun q8 => ?_)
      refine J_aload_n o dX0_areAlike_24 rfl ?_
      refine J_iload_n o dX0_areAlike_25 rfl ?_
      refine J_iload o dX0_areAlike_26 rfl ?_
      obtain ⟨v10, e9, hf⟩ := bnd_some hf
      refine J_vI o g kr dX0_areAlike_28 lkX0_53 ml_Bo_termOf vl_Bo_termOf ⟨rfl, rfl, Nat.le_of_ble_eq_true rfl, Nat.le_of_ble_eq_true rfl⟩ (c_Bo_termOf g.2.1 k_t0 r_x2 r_x5 e9) k_t0 rfl ⟨by decide, by decide⟩ rfl rfl (c1s_i c1s_0 (Nat.le_of_ble_eq_true rfl)) (fun q11 => ?_)
      refine J_icmp_ne 38 o dX0_areAlike_31 (by decide) q8 q11 (fun c12 => ?_) (fun c13 => ?_)
      · have hf := ite_f c12 hf
        exact t_Bo_areAlike_38 k k_t0 r_x1 r_x2 r_x3 r_x5 hf hc
      · have hf := ite_t c13 hf
        refine J_iconst o dX0_areAlike_34 ?_
        refine J_goto 39 o dX0_areAlike_35 (by decide) ?_
        exact t_Bo_areAlike_39 k k_t0 r_x1 r_x2 r_x3 r_x5 rl1 hf hc
noncomputable def f_Bo_areAlike_6 (w : World) (t0 : Nat) (x1 : Int) (x2 : Int) (x3 : Int) (x4 : Int) (x5 : Int) : Option Int :=
  lp (fun z : (Int × Int) => f_Bo_areAlike_6B w t0 x1 x2 x3 z.1 z.2) (x4, x5)
theorem t_Bo_areAlike_6 {E : EE} {K : KT} {l : Launch} {H0 : Heap} (k : Kof TA E K l cX0_areAlike RX0 rm_Bo_areAlike) {w : World} {t0 : Nat} {x1 : Int} {x2 : Int} {x3 : Int} {x4 : Int} {x5 : Int} (k_t0 : TA.kd t0 = 1) (r_x1 : R32 x1) (r_x2 : R32 x2) (r_x3 : R32 x3) {out : Int} (hf : f_Bo_areAlike_6 w t0 x1 x2 x3 x4 x5 = some out) (hc : (fun out : Int => RetZ TA E K H0 cX0_areAlike w out) out) : HW_Bo_areAlike_6 E K H0 w t0 x1 x2 x3 (x4, x5) := by
  unfold f_Bo_areAlike_6 at hf
  refine lp_ind (P := HW_Bo_areAlike_6 E K H0 w t0 x1 x2 x3) hf ?_
  intro z o hs h1 h2
  intro r_x4 r_x5
  refine t_Bo_areAlike_6B k k_t0 r_x1 r_x2 r_x3 r_x4 r_x5 hs ?_
  cases o with
  | inl z' => exact h1 z' rfl
  | inr r' => rw [h2 r' rfl]; exact hc
noncomputable def f_Bo_areAlike (w : World) (t0 : Nat) (x1 : Int) (x2 : Int) (x3 : Int) : Option Int :=
  f_Bo_areAlike_6 w t0 x1 x2 x3 1 0
theorem t_Bo_areAlike_0 {E : EE} {K : KT} {l : Launch} {H0 : Heap} (k : Kof TA E K l cX0_areAlike RX0 rm_Bo_areAlike) {w : World} {t0 : Nat} {x1 : Int} {x2 : Int} {x3 : Int} {o4 o5 : Option Value} (k_t0 : TA.kd t0 = 1) (r_x1 : R32 x1) (r_x2 : R32 x2) (r_x3 : R32 x3) {out : Int} (hf : f_Bo_areAlike w t0 x1 x2 x3 = some out) (hc : (fun out : Int => RetZ TA E K H0 cX0_areAlike w out) out) : Jj K (WdT TA E H0) w 0 [some (rf E.ad t0), some (.int (ii x1)), some (.int (ii x2)), some (.int (ii x3)), o4, o5] [] := by
  unfold f_Bo_areAlike at hf
  have o := k.1
  have g := k.2.1
  have kr := k.2.2.1
  refine J_iconst o dX0_areAlike_0 ?_
  refine J_istore o dX0_areAlike_1 (Nat.le_of_ble_eq_true rfl) ?_
  refine J_iconst o dX0_areAlike_3 ?_
  refine J_istore o dX0_areAlike_4 (Nat.le_of_ble_eq_true rfl) ?_
  exact (t_Bo_areAlike_6 k k_t0 r_x1 r_x2 r_x3 hf hc) rl1 rl0 
theorem c_Bo_areAlike {E : EE} {l : Launch} (hI : Inj TA E) {w : World} {t0 : Nat} {x1 : Int} {x2 : Int} {x3 : Int} (k_t0 : TA.kd t0 = 1) (r_x1 : R32 x1) (r_x2 : R32 x2) (r_x3 : R32 x3) {out : Int} (hf : f_Bo_areAlike w t0 x1 x2 x3 = some out) : ConI TA E l yX0_areAlike (WS yX0_areAlike cX0_areAlike 6 (some .boolean)) rm_Bo_areAlike [rf E.ad t0, .int (ii x1), .int (ii x2), .int (ii x3)] w w out :=
  con_Z (by decide +kernel) rfl (Nat.le_of_ble_eq_true rfl) (c1s_r (c1s_i (c1s_i (c1s_i c1s_0 (Nat.le_of_ble_eq_true rfl)) (Nat.le_of_ble_eq_true rfl)) (Nat.le_of_ble_eq_true rfl)) (Nat.le_of_ble_eq_true rfl)).1 ⟨rfl, rfl⟩ hI TnA (fun K H0 k hret => t_Bo_areAlike_0 k k_t0 r_x1 r_x2 r_x3 hf hret)
abbrev rm_Dm_isNeedless : Room := { frames := 3, cells := 0, slots := 0, locals := 72 }
def HW_Dm_isNeedless_12 (E : EE) (K : KT) (H0 : Heap) (w : World) (t1 : Nat) (x2 : Int) (x3 : Int) : (Int × Int) → Prop := fun z => R32 z.1 → R32 z.2 → Jj K (WdT TA E H0) w 12 [some (rf E.ad 1), some (rf E.ad t1), some (.int (ii x2)), some (.int (ii x3)), some (.int (ii z.1)), some (.int (ii z.2))] []
noncomputable def f_Dm_isNeedless_76 (w : World) (t1 : Nat) (x2 : Int) (x3 : Int) (x5 : Int) (s0 : Int) : Option ((Int × Int) ⊕ Int) :=
  bl (wr (x5 + 1)) fun n1 => some (Sum.inl (s0, n1))
theorem t_Dm_isNeedless_76 {E : EE} {K : KT} {l : Launch} {H0 : Heap} (k : Kof TA E K l cX10_isNeedless RX10 rm_Dm_isNeedless) {w : World} {t1 : Nat} {x2 : Int} {x3 : Int} {x5 : Int} {s0 : Int} {o4 : Option Value} (k_t1 : TA.kd t1 = 1) (r_x2 : R32 x2) (r_x3 : R32 x3) (r_x5 : R32 x5) (r_s0 : R32 s0) {out : ((Int × Int) ⊕ Int)} (hf : f_Dm_isNeedless_76 w t1 x2 x3 x5 s0 = some out) (hc : (Sum.elim (HW_Dm_isNeedless_12 E K H0 w t1 x2 x3) (fun out : Int => RetZ TA E K H0 cX10_isNeedless w out)) out) : Jj K (WdT TA E H0) w 76 [some (rf E.ad 1), some (rf E.ad t1), some (.int (ii x2)), some (.int (ii x3)), o4, some (.int (ii x5))] [.int (ii s0)] := by
  unfold f_Dm_isNeedless_76 at hf
  have o := k.1
  have g := k.2.1
  have kr := k.2.2.1
  refine J_istore o dX10_isNeedless_76 (Nat.le_of_ble_eq_true rfl) ?_
  have hf := bl_out hf
  refine J_iinc o dX10_isNeedless_78 rfl ?_
  refine J_goto 12 o dX10_isNeedless_81 (by decide) ?_
  have hf := some_inj hf
  subst hf
  exact hc r_s0 (R_wr _) 
noncomputable def f_Dm_isNeedless_71 (w : World) (t1 : Nat) (x2 : Int) (x3 : Int) (x5 : Int) : Option ((Int × Int) ⊕ Int) :=
  f_Dm_isNeedless_76 w t1 x2 x3 x5 1
theorem t_Dm_isNeedless_71 {E : EE} {K : KT} {l : Launch} {H0 : Heap} (k : Kof TA E K l cX10_isNeedless RX10 rm_Dm_isNeedless) {w : World} {t1 : Nat} {x2 : Int} {x3 : Int} {x5 : Int} {o4 : Option Value} (k_t1 : TA.kd t1 = 1) (r_x2 : R32 x2) (r_x3 : R32 x3) (r_x5 : R32 x5) {out : ((Int × Int) ⊕ Int)} (hf : f_Dm_isNeedless_71 w t1 x2 x3 x5 = some out) (hc : (Sum.elim (HW_Dm_isNeedless_12 E K H0 w t1 x2 x3) (fun out : Int => RetZ TA E K H0 cX10_isNeedless w out)) out) : Jj K (WdT TA E H0) w 71 [some (rf E.ad 1), some (rf E.ad t1), some (.int (ii x2)), some (.int (ii x3)), o4, some (.int (ii x5))] [] := by
  unfold f_Dm_isNeedless_71 at hf
  have o := k.1
  have g := k.2.1
  have kr := k.2.2.1
  refine J_iconst o dX10_isNeedless_71 ?_
  refine J_goto 76 o dX10_isNeedless_72 (by decide) ?_
  exact t_Dm_isNeedless_76 k k_t1 r_x2 r_x3 r_x5 rl1 hf hc
noncomputable def f_Dm_isNeedless_75 (w : World) (t1 : Nat) (x2 : Int) (x3 : Int) (x5 : Int) : Option ((Int × Int) ⊕ Int) :=
  f_Dm_isNeedless_76 w t1 x2 x3 x5 0
theorem t_Dm_isNeedless_75 {E : EE} {K : KT} {l : Launch} {H0 : Heap} (k : Kof TA E K l cX10_isNeedless RX10 rm_Dm_isNeedless) {w : World} {t1 : Nat} {x2 : Int} {x3 : Int} {x5 : Int} {o4 : Option Value} (k_t1 : TA.kd t1 = 1) (r_x2 : R32 x2) (r_x3 : R32 x3) (r_x5 : R32 x5) {out : ((Int × Int) ⊕ Int)} (hf : f_Dm_isNeedless_75 w t1 x2 x3 x5 = some out) (hc : (Sum.elim (HW_Dm_isNeedless_12 E K H0 w t1 x2 x3) (fun out : Int => RetZ TA E K H0 cX10_isNeedless w out)) out) : Jj K (WdT TA E H0) w 75 [some (rf E.ad 1), some (rf E.ad t1), some (.int (ii x2)), some (.int (ii x3)), o4, some (.int (ii x5))] [] := by
  unfold f_Dm_isNeedless_75 at hf
  have o := k.1
  have g := k.2.1
  have kr := k.2.2.1
  refine J_iconst o dX10_isNeedless_75 ?_
  exact t_Dm_isNeedless_76 k k_t1 r_x2 r_x3 r_x5 rl0 hf hc
noncomputable def f_Dm_isNeedless_12B (w : World) (t1 : Nat) (x2 : Int) (x3 : Int) (x4 : Int) (x5 : Int) : Option ((Int × Int) ⊕ Int) :=
  if x2 ≤ x5 then (gd (x4 = 0 ∨ x4 = 1) (some (Sum.inr x4))) else (bnd (f_Sc_hasOpenKey w x3) fun v5 => if v5 = 0 then (gd (x4 = 0 ∨ x4 = 1) (some (Sum.inr x4))) else (if x4 = 0 then (bnd (f_Bo_formOf w t1 x5) fun v13 => if v13 = 0 then (bnd (f_Bo_subjectOf w t1 x5) fun v18 => if v18 = x3 then (bnd (f_Sc_keyOf w x3) fun v23 => bnd (f_Bo_areAlike w t1 x5 x2 v23) fun v26 => if v26 = 0 then (f_Dm_isNeedless_75 w t1 x2 x3 x5) else (f_Dm_isNeedless_71 w t1 x2 x3 x5)) else (f_Dm_isNeedless_75 w t1 x2 x3 x5)) else (f_Dm_isNeedless_75 w t1 x2 x3 x5)) else (f_Dm_isNeedless_71 w t1 x2 x3 x5)))
theorem t_Dm_isNeedless_12B {E : EE} {K : KT} {l : Launch} {H0 : Heap} (k : Kof TA E K l cX10_isNeedless RX10 rm_Dm_isNeedless) {w : World} {t1 : Nat} {x2 : Int} {x3 : Int} {x4 : Int} {x5 : Int} (k_t1 : TA.kd t1 = 1) (r_x2 : R32 x2) (r_x3 : R32 x3) (r_x4 : R32 x4) (r_x5 : R32 x5) {out : ((Int × Int) ⊕ Int)} (hf : f_Dm_isNeedless_12B w t1 x2 x3 x4 x5 = some out) (hc : (Sum.elim (HW_Dm_isNeedless_12 E K H0 w t1 x2 x3) (fun out : Int => RetZ TA E K H0 cX10_isNeedless w out)) out) : Jj K (WdT TA E H0) w 12 [some (rf E.ad 1), some (rf E.ad t1), some (.int (ii x2)), some (.int (ii x3)), some (.int (ii x4)), some (.int (ii x5))] [] := by
  unfold f_Dm_isNeedless_12B at hf
  have o := k.1
  have g := k.2.1
  have kr := k.2.2.1
  refine J_iload o dX10_isNeedless_12 rfl ?_
  refine J_iload_n o dX10_isNeedless_14 rfl ?_
  refine J_icmp_ge 84 o dX10_isNeedless_15 (by decide) r_x5 r_x2 (fun c1 => ?_) (fun c2 => ?_)
  · have hf := ite_t c1 hf
    refine J_iload o dX10_isNeedless_84 rfl ?_
    obtain ⟨g3, hf⟩ := gd_some hf
    have hf := some_inj hf
    subst hf
    exact hc _ _ g3 dX10_isNeedless_86
  · have hf := ite_f c2 hf
    refine J_aload_n o dX10_isNeedless_18 rfl ?_
    refine J_getF (true, 2) o g dX10_isNeedless_19 flX10_31 kA_1 rfl rfl rfl ?_
    refine J_iload_n o dX10_isNeedless_22 rfl ?_
    obtain ⟨v5, e4, hf⟩ := bnd_some hf
    refine J_vI o g kr dX10_isNeedless_23 lkX10_425 ml_Sc_hasOpenKey vl_Sc_hasOpenKey ⟨rfl, rfl, Nat.le_of_ble_eq_true rfl, Nat.le_of_ble_eq_true rfl⟩ (c_Sc_hasOpenKey g.2.1 r_x3 e4) kA_2 rfl ⟨by decide, by decide⟩ rfl rfl c1s_0 (fun q6 => ?_)
    refine J_if_eq 84 o dX10_isNeedless_26 (by decide) q6 (fun c7 => ?_) (fun c8 => ?_)
    · have hf := ite_t c7 hf
      refine J_iload o dX10_isNeedless_84 rfl ?_
      obtain ⟨g9, hf⟩ := gd_some hf
      have hf := some_inj hf
      subst hf
      exact hc _ _ g9 dX10_isNeedless_86
    · have hf := ite_f c8 hf
      refine J_iload o dX10_isNeedless_29 rfl ?_
      refine J_if_ne 71 o dX10_isNeedless_31 (by decide) r_x4 (fun c10 => ?_) (fun c11 => ?_)
      · have hf := ite_f c10 hf
        exact t_Dm_isNeedless_71 k k_t1 r_x2 r_x3 r_x5 hf hc
      · have hf := ite_t c11 hf
        refine J_aload_n o dX10_isNeedless_34 rfl ?_
        refine J_iload o dX10_isNeedless_35 rfl ?_
        obtain ⟨v13, e12, hf⟩ := bnd_some hf
        refine J_vI o g kr dX10_isNeedless_37 lkX10_355 ml_Bo_formOf vl_Bo_formOf ⟨rfl, rfl, Nat.le_of_ble_eq_true rfl, Nat.le_of_ble_eq_true rfl⟩ (c_Bo_formOf g.2.1 k_t1 r_x5 e12) k_t1 rfl ⟨by decide, by decide⟩ rfl rfl c1s_0 (fun q14 => ?_)
        refine J_if_ne 75 o dX10_isNeedless_40 (by decide) q14 (fun c15 => ?_) (fun c16 => ?_)
        · have hf := ite_f c15 hf
          exact t_Dm_isNeedless_75 k k_t1 r_x2 r_x3 r_x5 hf hc
        · have hf := ite_t c16 hf
          refine J_aload_n o dX10_isNeedless_43 rfl ?_
          refine J_iload o dX10_isNeedless_44 rfl ?_
          obtain ⟨v18, e17, hf⟩ := bnd_some hf
          refine J_vI o g kr dX10_isNeedless_46 lkX10_438 ml_Bo_subjectOf vl_Bo_subjectOf ⟨rfl, rfl, Nat.le_of_ble_eq_true rfl, Nat.le_of_ble_eq_true rfl⟩ (c_Bo_subjectOf g.2.1 k_t1 r_x5 e17) k_t1 rfl ⟨by decide, by decide⟩ rfl rfl c1s_0 (fun q19 => ?_)
          refine J_iload_n o dX10_isNeedless_49 rfl ?_
          refine J_icmp_ne 75 o dX10_isNeedless_50 (by decide) q19 r_x3 (fun c20 => ?_) (fun c21 => ?_)
          · have hf := ite_f c20 hf
            exact t_Dm_isNeedless_75 k k_t1 r_x2 r_x3 r_x5 hf hc
          · have hf := ite_t c21 hf
            refine J_aload_n o dX10_isNeedless_53 rfl ?_
            refine J_iload o dX10_isNeedless_54 rfl ?_
            refine J_iload_n o dX10_isNeedless_56 rfl ?_
            refine J_aload_n o dX10_isNeedless_57 rfl ?_
            refine J_getF (true, 2) o g dX10_isNeedless_58 flX10_31 kA_1 rfl rfl rfl ?_
            refine J_iload_n o dX10_isNeedless_61 rfl ?_
            obtain ⟨v23, e22, hf⟩ := bnd_some hf
            refine J_vI o g kr dX10_isNeedless_62 lkX10_441 ml_Sc_keyOf vl_Sc_keyOf ⟨rfl, rfl, Nat.le_of_ble_eq_true rfl, Nat.le_of_ble_eq_true rfl⟩ (c_Sc_keyOf g.2.1 r_x3 e22) kA_2 rfl ⟨by decide, by decide⟩ rfl rfl (c1s_i (c1s_i (c1s_r c1s_0 (Nat.le_of_ble_eq_true rfl)) (Nat.le_of_ble_eq_true rfl)) (Nat.le_of_ble_eq_true rfl)) (fun q24 => ?_)
            obtain ⟨v26, e25, hf⟩ := bnd_some hf
            refine J_vI o g kr dX10_isNeedless_65 lkX10_444 ml_Bo_areAlike vl_Bo_areAlike ⟨rfl, rfl, Nat.le_of_ble_eq_true rfl, Nat.le_of_ble_eq_true rfl⟩ (c_Bo_areAlike g.2.1 k_t1 r_x5 r_x2 q24 e25) k_t1 rfl ⟨by decide, by decide⟩ rfl rfl c1s_0 (fun q27 => ?_)
            refine J_if_eq 75 o dX10_isNeedless_68 (by decide) q27 (fun c28 => ?_) (fun c29 => ?_)
            · have hf := ite_t c28 hf
              exact t_Dm_isNeedless_75 k k_t1 r_x2 r_x3 r_x5 hf hc
            · have hf := ite_f c29 hf
              exact t_Dm_isNeedless_71 k k_t1 r_x2 r_x3 r_x5 hf hc
noncomputable def f_Dm_isNeedless_12 (w : World) (t1 : Nat) (x2 : Int) (x3 : Int) (x4 : Int) (x5 : Int) : Option Int :=
  lp (fun z : (Int × Int) => f_Dm_isNeedless_12B w t1 x2 x3 z.1 z.2) (x4, x5)
theorem t_Dm_isNeedless_12 {E : EE} {K : KT} {l : Launch} {H0 : Heap} (k : Kof TA E K l cX10_isNeedless RX10 rm_Dm_isNeedless) {w : World} {t1 : Nat} {x2 : Int} {x3 : Int} {x4 : Int} {x5 : Int} (k_t1 : TA.kd t1 = 1) (r_x2 : R32 x2) (r_x3 : R32 x3) {out : Int} (hf : f_Dm_isNeedless_12 w t1 x2 x3 x4 x5 = some out) (hc : (fun out : Int => RetZ TA E K H0 cX10_isNeedless w out) out) : HW_Dm_isNeedless_12 E K H0 w t1 x2 x3 (x4, x5) := by
  unfold f_Dm_isNeedless_12 at hf
  refine lp_ind (P := HW_Dm_isNeedless_12 E K H0 w t1 x2 x3) hf ?_
  intro z o hs h1 h2
  intro r_x4 r_x5
  refine t_Dm_isNeedless_12B k k_t1 r_x2 r_x3 r_x4 r_x5 hs ?_
  cases o with
  | inl z' => exact h1 z' rfl
  | inr r' => rw [h2 r' rfl]; exact hc
noncomputable def f_Dm_isNeedless (w : World) (t1 : Nat) (x2 : Int) : Option Int :=
  bnd (f_Bo_subjectOf w t1 x2) fun v2 => f_Dm_isNeedless_12 w t1 x2 v2 0 0
theorem t_Dm_isNeedless_0 {E : EE} {K : KT} {l : Launch} {H0 : Heap} (k : Kof TA E K l cX10_isNeedless RX10 rm_Dm_isNeedless) {w : World} {t1 : Nat} {x2 : Int} {o3 o4 o5 : Option Value} (k_t1 : TA.kd t1 = 1) (r_x2 : R32 x2) {out : Int} (hf : f_Dm_isNeedless w t1 x2 = some out) (hc : (fun out : Int => RetZ TA E K H0 cX10_isNeedless w out) out) : Jj K (WdT TA E H0) w 0 [some (rf E.ad 1), some (rf E.ad t1), some (.int (ii x2)), o3, o4, o5] [] := by
  unfold f_Dm_isNeedless at hf
  have o := k.1
  have g := k.2.1
  have kr := k.2.2.1
  refine J_aload_n o dX10_isNeedless_0 rfl ?_
  refine J_iload_n o dX10_isNeedless_1 rfl ?_
  obtain ⟨v2, e1, hf⟩ := bnd_some hf
  refine J_vI o g kr dX10_isNeedless_2 lkX10_438 ml_Bo_subjectOf vl_Bo_subjectOf ⟨rfl, rfl, Nat.le_of_ble_eq_true rfl, Nat.le_of_ble_eq_true rfl⟩ (c_Bo_subjectOf g.2.1 k_t1 r_x2 e1) k_t1 rfl ⟨by decide, by decide⟩ rfl rfl c1s_0 (fun q3 => ?_)
  refine J_istore_n o dX10_isNeedless_5 (Nat.le_of_ble_eq_true rfl) ?_
  refine J_iconst o dX10_isNeedless_6 ?_
  refine J_istore o dX10_isNeedless_7 (Nat.le_of_ble_eq_true rfl) ?_
  refine J_iconst o dX10_isNeedless_9 ?_
  refine J_istore o dX10_isNeedless_10 (Nat.le_of_ble_eq_true rfl) ?_
  exact (t_Dm_isNeedless_12 k k_t1 r_x2 q3 hf hc) rl0 rl0 
theorem c_Dm_isNeedless {E : EE} {l : Launch} (hI : Inj TA E) {w : World} {t1 : Nat} {x2 : Int} (k_t1 : TA.kd t1 = 1) (r_x2 : R32 x2) {out : Int} (hf : f_Dm_isNeedless w t1 x2 = some out) : ConI TA E l yX10_isNeedless (WS yX10_isNeedless cX10_isNeedless 6 (some .boolean)) rm_Dm_isNeedless [rf E.ad 1, rf E.ad t1, .int (ii x2)] w w out :=
  con_Z (by decide +kernel) rfl (Nat.le_of_ble_eq_true rfl) (c1s_r (c1s_r (c1s_i c1s_0 (Nat.le_of_ble_eq_true rfl)) (Nat.le_of_ble_eq_true rfl)) (Nat.le_of_ble_eq_true rfl)).1 ⟨rfl, rfl⟩ hI TnA (fun K H0 k hret => t_Dm_isNeedless_0 k k_t1 r_x2 hf hret)
abbrev rm_Bo_push : Room := { frames := 3, cells := 0, slots := 0, locals := 73 }
noncomputable def f_Bo_push_54 (w : World) (t0 : Nat) : Option (World × Int) :=
  some (w, w t0 0)
theorem t_Bo_push_54 {E : EE} {K : KT} {l : Launch} {H0 : Heap} (k : Kof TA E K l cX0_push RX0 rm_Bo_push) {w : World} {t0 : Nat} {o1 o2 o3 o4 o5 o6 : Option Value} (k_t0 : TA.kd t0 = 1) {out : (World × Int)} (hf : f_Bo_push_54 w t0 = some out) (hc : (fun out : (World × Int) => RetI TA E K H0 cX0_push out.1 out.2) out) : Jj K (WdT TA E H0) w 54 [some (rf E.ad t0), o1, o2, o3, o4, o5, o6] [] := by
  unfold f_Bo_push_54 at hf
  have o := k.1
  have g := k.2.1
  have kr := k.2.2.1
  refine J_aload_n o dX0_push_54 rfl ?_
  refine J_getI o g dX0_push_55 flX0_25 k_t0 rfl (fun q1 => ?_)
  have hf := some_inj hf
  subst hf
  exact hc _ _ q1 dX0_push_58
noncomputable def f_Bo_push (w : World) (t0 : Nat) (x1 : Int) (x2 : Int) (x3 : Int) (x4 : Int) (x5 : Int) : Option (World × Int) :=
  bl (w t0 0) fun n2 => if n2 < 0 then (f_Bo_push_54 w t0) else (if 5 ≤ n2 then (f_Bo_push_54 w t0) else (gd (0 ≤ n2 ∧ n2 < 5) (bl (up w (t0 + 1) n2.toNat x1) fun w8 => gd (0 ≤ n2 ∧ n2 < 5) (bl (up w8 (t0 + 2) n2.toNat x2) fun w10 => bnd (f_Bo_setTerms w10 t0 n2 x3 x4 x5) fun v12 => bl (up v12 t0 0 (wr ((v12 t0 0) + 1))) fun w15 => f_Bo_push_54 w15 t0))))
theorem t_Bo_push_0 {E : EE} {K : KT} {l : Launch} {H0 : Heap} (k : Kof TA E K l cX0_push RX0 rm_Bo_push) {w : World} {t0 : Nat} {x1 : Int} {x2 : Int} {x3 : Int} {x4 : Int} {x5 : Int} {o6 : Option Value} (k_t0 : TA.kd t0 = 1) (r_x1 : R32 x1) (r_x2 : R32 x2) (r_x3 : R32 x3) (r_x4 : R32 x4) (r_x5 : R32 x5) {out : (World × Int)} (hf : f_Bo_push w t0 x1 x2 x3 x4 x5 = some out) (hc : (fun out : (World × Int) => RetI TA E K H0 cX0_push out.1 out.2) out) : Jj K (WdT TA E H0) w 0 [some (rf E.ad t0), some (.int (ii x1)), some (.int (ii x2)), some (.int (ii x3)), some (.int (ii x4)), some (.int (ii x5)), o6] [] := by
  unfold f_Bo_push at hf
  have o := k.1
  have g := k.2.1
  have kr := k.2.2.1
  refine J_aload_n o dX0_push_0 rfl ?_
  refine J_getI o g dX0_push_1 flX0_25 k_t0 rfl (fun q1 => ?_)
  refine J_istore o dX0_push_4 (Nat.le_of_ble_eq_true rfl) ?_
  have hf := bl_out hf
  refine J_iload o dX0_push_6 rfl ?_
  refine J_if_lt 54 o dX0_push_8 (by decide) q1 (fun c3 => ?_) (fun c4 => ?_)
  · have hf := ite_t c3 hf
    exact t_Bo_push_54 k k_t0 hf hc
  · have hf := ite_f c4 hf
    refine J_iload o dX0_push_11 rfl ?_
    refine J_iconst o dX0_push_13 ?_
    refine J_icmp_ge 54 o dX0_push_14 (by decide) q1 rl5 (fun c5 => ?_) (fun c6 => ?_)
    · have hf := ite_t c5 hf
      exact t_Bo_push_54 k k_t0 hf hc
    · have hf := ite_f c6 hf
      refine J_aload_n o dX0_push_17 rfl ?_
      refine J_getF (false, 1) o g dX0_push_18 flX0_15 k_t0 rfl rfl rfl ?_
      refine J_iload o dX0_push_21 rfl ?_
      refine J_iload_n o dX0_push_23 rfl ?_
      obtain ⟨g7, hf⟩ := gd_some hf
      refine J_iast o g dX0_push_24 (krA_1_1 k_t0) (fxA_40 _) q1 (zrA_1_1 k_t0) g7 r_x1 ?_
      have hf := bl_out hf
      refine J_aload_n o dX0_push_25 rfl ?_
      refine J_getF (false, 2) o g dX0_push_26 flX0_19 k_t0 rfl rfl rfl ?_
      refine J_iload o dX0_push_29 rfl ?_
      refine J_iload_n o dX0_push_31 rfl ?_
      obtain ⟨g9, hf⟩ := gd_some hf
      refine J_iast o g dX0_push_32 (krA_1_2 k_t0) (fxA_40 _) q1 (zrA_1_2 k_t0) g9 r_x2 ?_
      have hf := bl_out hf
      refine J_aload_n o dX0_push_33 rfl ?_
      refine J_iload o dX0_push_34 rfl ?_
      refine J_iload_n o dX0_push_36 rfl ?_
      refine J_iload o dX0_push_37 rfl ?_
      refine J_iload o dX0_push_39 rfl ?_
      obtain ⟨v12, e11, hf⟩ := bnd_some hf
      refine J_vV o g kr dX0_push_41 lkX0_32 ml_Bo_setTerms vl_Bo_setTerms ⟨rfl, rfl, Nat.le_of_ble_eq_true rfl, Nat.le_of_ble_eq_true rfl⟩ (c_Bo_setTerms g.2.1 k_t0 q1 r_x3 r_x4 r_x5 e11) k_t0 rfl ⟨by decide, by decide⟩ rfl rfl c1s_0 ?_
      refine J_aload_n o dX0_push_44 rfl ?_
      refine J_dup o dX0_push_45 rf_cat ?_
      refine J_getI o g dX0_push_46 flX0_25 k_t0 rfl (fun q14 => ?_)
      refine J_iconst o dX0_push_49 ?_
      refine J_iadd o dX0_push_50 ?_
      refine J_putI o g dX0_push_51 fpX0_25 k_t0 rfl rfl (R_wr _) ?_
      have hf := bl_out hf
      exact t_Bo_push_54 k k_t0 hf hc
theorem c_Bo_push {E : EE} {l : Launch} (hI : Inj TA E) {w : World} {t0 : Nat} {x1 : Int} {x2 : Int} {x3 : Int} {x4 : Int} {x5 : Int} (k_t0 : TA.kd t0 = 1) (r_x1 : R32 x1) (r_x2 : R32 x2) (r_x3 : R32 x3) (r_x4 : R32 x4) (r_x5 : R32 x5) {out : (World × Int)} (hf : f_Bo_push w t0 x1 x2 x3 x4 x5 = some out) : ConI TA E l yX0_push (WS yX0_push cX0_push 7 (some .int)) rm_Bo_push [rf E.ad t0, .int (ii x1), .int (ii x2), .int (ii x3), .int (ii x4), .int (ii x5)] w out.1 out.2 :=
  con_I (by decide +kernel) rfl (Nat.le_of_ble_eq_true rfl) (c1s_r (c1s_i (c1s_i (c1s_i (c1s_i (c1s_i c1s_0 (Nat.le_of_ble_eq_true rfl)) (Nat.le_of_ble_eq_true rfl)) (Nat.le_of_ble_eq_true rfl)) (Nat.le_of_ble_eq_true rfl)) (Nat.le_of_ble_eq_true rfl)) (Nat.le_of_ble_eq_true rfl)).1 ⟨rfl, rfl⟩ hI TnA (fun K H0 k hret => t_Bo_push_0 k k_t0 r_x1 r_x2 r_x3 r_x4 r_x5 hf hret)
abbrev rm_Bo_copy : Room := { frames := 5, cells := 0, slots := 0, locals := 117 }
def HW_Bo_copy_11 (E : EE) (K : KT) (H0 : Heap) (t0 : Nat) (t1 : Nat) : (World × Int) → Prop := fun z => R32 z.2 → Jj K (WdT TA E H0) z.1 11 [some (rf E.ad t0), some (rf E.ad t1), some (.int (ii z.2))] []
noncomputable def f_Bo_copy_11B (w : World) (t0 : Nat) (t1 : Nat) (x2 : Int) : Option ((World × Int) ⊕ World) :=
  if (w t1 0) ≤ x2 then (bnd (f_Bo_termOf w t1 5 0) fun v6 => bnd (f_Bo_termOf w t1 5 1) fun v9 => bnd (f_Bo_termOf w t1 5 2) fun v12 => bnd (f_Bo_setHead w t0 (w t1 1) v6 v9 v12) fun v15 => some (Sum.inr v15)) else (bnd (f_Bo_formOf w t1 x2) fun v18 => bnd (f_Bo_subjectOf w t1 x2) fun v21 => bnd (f_Bo_termOf w t1 x2 0) fun v24 => bnd (f_Bo_termOf w t1 x2 1) fun v27 => bnd (f_Bo_termOf w t1 x2 2) fun v30 => bnd (f_Bo_push w t0 v18 v21 v24 v27 v30) fun v33 => bl (wr (x2 + 1)) fun n35 => some (Sum.inl (v33.1, n35)))
theorem t_Bo_copy_11B {E : EE} {K : KT} {l : Launch} {H0 : Heap} (k : Kof TA E K l cX0_copy RX0 rm_Bo_copy) {w : World} {t0 : Nat} {t1 : Nat} {x2 : Int} (k_t0 : TA.kd t0 = 1) (k_t1 : TA.kd t1 = 1) (r_x2 : R32 x2) {out : ((World × Int) ⊕ World)} (hf : f_Bo_copy_11B w t0 t1 x2 = some out) (hc : (Sum.elim (HW_Bo_copy_11 E K H0 t0 t1) (fun out : World => RetV TA E K H0 cX0_copy out)) out) : Jj K (WdT TA E H0) w 11 [some (rf E.ad t0), some (rf E.ad t1), some (.int (ii x2))] [] := by
  unfold f_Bo_copy_11B at hf
  have o := k.1
  have g := k.2.1
  have kr := k.2.2.1
  refine J_iload_n o dX0_copy_11 rfl ?_
  refine J_aload_n o dX0_copy_12 rfl ?_
  refine J_getI o g dX0_copy_13 flX0_25 k_t1 rfl (fun q1 => ?_)
  refine J_icmp_ge 58 o dX0_copy_16 (by decide) r_x2 q1 (fun c2 => ?_) (fun c3 => ?_)
  · have hf := ite_t c2 hf
    refine J_aload_n o dX0_copy_58 rfl ?_
    refine J_aload_n o dX0_copy_59 rfl ?_
    refine J_getI o g dX0_copy_60 flX0_9 k_t1 rfl (fun q4 => ?_)
    refine J_aload_n o dX0_copy_63 rfl ?_
    refine J_iconst o dX0_copy_64 ?_
    refine J_iconst o dX0_copy_65 ?_
    obtain ⟨v6, e5, hf⟩ := bnd_some hf
    refine J_vI o g kr dX0_copy_66 lkX0_53 ml_Bo_termOf vl_Bo_termOf ⟨rfl, rfl, Nat.le_of_ble_eq_true rfl, Nat.le_of_ble_eq_true rfl⟩ (c_Bo_termOf g.2.1 k_t1 rl5 rl0 e5) k_t1 rfl ⟨by decide, by decide⟩ rfl rfl (c1s_i (c1s_r c1s_0 (Nat.le_of_ble_eq_true rfl)) (Nat.le_of_ble_eq_true rfl)) (fun q7 => ?_)
    refine J_aload_n o dX0_copy_69 rfl ?_
    refine J_iconst o dX0_copy_70 ?_
    refine J_iconst o dX0_copy_71 ?_
    obtain ⟨v9, e8, hf⟩ := bnd_some hf
    refine J_vI o g kr dX0_copy_72 lkX0_53 ml_Bo_termOf vl_Bo_termOf ⟨rfl, rfl, Nat.le_of_ble_eq_true rfl, Nat.le_of_ble_eq_true rfl⟩ (c_Bo_termOf g.2.1 k_t1 rl5 rl1 e8) k_t1 rfl ⟨by decide, by decide⟩ rfl rfl (c1s_i (c1s_i (c1s_r c1s_0 (Nat.le_of_ble_eq_true rfl)) (Nat.le_of_ble_eq_true rfl)) (Nat.le_of_ble_eq_true rfl)) (fun q10 => ?_)
    refine J_aload_n o dX0_copy_75 rfl ?_
    refine J_iconst o dX0_copy_76 ?_
    refine J_iconst o dX0_copy_77 ?_
    obtain ⟨v12, e11, hf⟩ := bnd_some hf
    refine J_vI o g kr dX0_copy_78 lkX0_53 ml_Bo_termOf vl_Bo_termOf ⟨rfl, rfl, Nat.le_of_ble_eq_true rfl, Nat.le_of_ble_eq_true rfl⟩ (c_Bo_termOf g.2.1 k_t1 rl5 rl2 e11) k_t1 rfl ⟨by decide, by decide⟩ rfl rfl (c1s_i (c1s_i (c1s_i (c1s_r c1s_0 (Nat.le_of_ble_eq_true rfl)) (Nat.le_of_ble_eq_true rfl)) (Nat.le_of_ble_eq_true rfl)) (Nat.le_of_ble_eq_true rfl)) (fun q13 => ?_)
    obtain ⟨v15, e14, hf⟩ := bnd_some hf
    refine J_vV o g kr dX0_copy_81 lkX0_28 ml_Bo_setHead vl_Bo_setHead ⟨rfl, rfl, Nat.le_of_ble_eq_true rfl, Nat.le_of_ble_eq_true rfl⟩ (c_Bo_setHead g.2.1 k_t0 q4 q7 q10 q13 e14) k_t0 rfl ⟨by decide, by decide⟩ rfl rfl c1s_0 ?_
    have hf := some_inj hf
    subst hf
    exact hc _ _  dX0_copy_84
  · have hf := ite_f c3 hf
    refine J_aload_n o dX0_copy_19 rfl ?_
    refine J_aload_n o dX0_copy_20 rfl ?_
    refine J_iload_n o dX0_copy_21 rfl ?_
    obtain ⟨v18, e17, hf⟩ := bnd_some hf
    refine J_vI o g kr dX0_copy_22 lkX0_46 ml_Bo_formOf vl_Bo_formOf ⟨rfl, rfl, Nat.le_of_ble_eq_true rfl, Nat.le_of_ble_eq_true rfl⟩ (c_Bo_formOf g.2.1 k_t1 r_x2 e17) k_t1 rfl ⟨by decide, by decide⟩ rfl rfl (c1s_r c1s_0 (Nat.le_of_ble_eq_true rfl)) (fun q19 => ?_)
    refine J_aload_n o dX0_copy_25 rfl ?_
    refine J_iload_n o dX0_copy_26 rfl ?_
    obtain ⟨v21, e20, hf⟩ := bnd_some hf
    refine J_vI o g kr dX0_copy_27 lkX0_50 ml_Bo_subjectOf vl_Bo_subjectOf ⟨rfl, rfl, Nat.le_of_ble_eq_true rfl, Nat.le_of_ble_eq_true rfl⟩ (c_Bo_subjectOf g.2.1 k_t1 r_x2 e20) k_t1 rfl ⟨by decide, by decide⟩ rfl rfl (c1s_i (c1s_r c1s_0 (Nat.le_of_ble_eq_true rfl)) (Nat.le_of_ble_eq_true rfl)) (fun q22 => ?_)
    refine J_aload_n o dX0_copy_30 rfl ?_
    refine J_iload_n o dX0_copy_31 rfl ?_
    refine J_iconst o dX0_copy_32 ?_
    obtain ⟨v24, e23, hf⟩ := bnd_some hf
    refine J_vI o g kr dX0_copy_33 lkX0_53 ml_Bo_termOf vl_Bo_termOf ⟨rfl, rfl, Nat.le_of_ble_eq_true rfl, Nat.le_of_ble_eq_true rfl⟩ (c_Bo_termOf g.2.1 k_t1 r_x2 rl0 e23) k_t1 rfl ⟨by decide, by decide⟩ rfl rfl (c1s_i (c1s_i (c1s_r c1s_0 (Nat.le_of_ble_eq_true rfl)) (Nat.le_of_ble_eq_true rfl)) (Nat.le_of_ble_eq_true rfl)) (fun q25 => ?_)
    refine J_aload_n o dX0_copy_36 rfl ?_
    refine J_iload_n o dX0_copy_37 rfl ?_
    refine J_iconst o dX0_copy_38 ?_
    obtain ⟨v27, e26, hf⟩ := bnd_some hf
    refine J_vI o g kr dX0_copy_39 lkX0_53 ml_Bo_termOf vl_Bo_termOf ⟨rfl, rfl, Nat.le_of_ble_eq_true rfl, Nat.le_of_ble_eq_true rfl⟩ (c_Bo_termOf g.2.1 k_t1 r_x2 rl1 e26) k_t1 rfl ⟨by decide, by decide⟩ rfl rfl (c1s_i (c1s_i (c1s_i (c1s_r c1s_0 (Nat.le_of_ble_eq_true rfl)) (Nat.le_of_ble_eq_true rfl)) (Nat.le_of_ble_eq_true rfl)) (Nat.le_of_ble_eq_true rfl)) (fun q28 => ?_)
    refine J_aload_n o dX0_copy_42 rfl ?_
    refine J_iload_n o dX0_copy_43 rfl ?_
    refine J_iconst o dX0_copy_44 ?_
    obtain ⟨v30, e29, hf⟩ := bnd_some hf
    refine J_vI o g kr dX0_copy_45 lkX0_53 ml_Bo_termOf vl_Bo_termOf ⟨rfl, rfl, Nat.le_of_ble_eq_true rfl, Nat.le_of_ble_eq_true rfl⟩ (c_Bo_termOf g.2.1 k_t1 r_x2 rl2 e29) k_t1 rfl ⟨by decide, by decide⟩ rfl rfl (c1s_i (c1s_i (c1s_i (c1s_i (c1s_r c1s_0 (Nat.le_of_ble_eq_true rfl)) (Nat.le_of_ble_eq_true rfl)) (Nat.le_of_ble_eq_true rfl)) (Nat.le_of_ble_eq_true rfl)) (Nat.le_of_ble_eq_true rfl)) (fun q31 => ?_)
    obtain ⟨v33, e32, hf⟩ := bnd_some hf
    refine J_vI o g kr dX0_copy_48 lkX0_57 ml_Bo_push vl_Bo_push ⟨rfl, rfl, Nat.le_of_ble_eq_true rfl, Nat.le_of_ble_eq_true rfl⟩ (c_Bo_push g.2.1 k_t0 q19 q22 q25 q28 q31 e32) k_t0 rfl ⟨by decide, by decide⟩ rfl rfl c1s_0 (fun q34 => ?_)
    refine J_pop o dX0_copy_51 rfl ?_
    have hf := bl_out hf
    refine J_iinc o dX0_copy_52 rfl ?_
    refine J_goto 11 o dX0_copy_55 (by decide) ?_
    have hf := some_inj hf
    subst hf
    exact hc (R_wr _) 
noncomputable def f_Bo_copy_11 (w : World) (t0 : Nat) (t1 : Nat) (x2 : Int) : Option World :=
  lp (fun z : (World × Int) => f_Bo_copy_11B z.1 t0 t1 z.2) (w, x2)
theorem t_Bo_copy_11 {E : EE} {K : KT} {l : Launch} {H0 : Heap} (k : Kof TA E K l cX0_copy RX0 rm_Bo_copy) {w : World} {t0 : Nat} {t1 : Nat} {x2 : Int} (k_t0 : TA.kd t0 = 1) (k_t1 : TA.kd t1 = 1) {out : World} (hf : f_Bo_copy_11 w t0 t1 x2 = some out) (hc : (fun out : World => RetV TA E K H0 cX0_copy out) out) : HW_Bo_copy_11 E K H0 t0 t1 (w, x2) := by
  unfold f_Bo_copy_11 at hf
  refine lp_ind (P := HW_Bo_copy_11 E K H0 t0 t1) hf ?_
  intro z o hs h1 h2
  intro r_x2
  refine t_Bo_copy_11B k k_t0 k_t1 r_x2 hs ?_
  cases o with
  | inl z' => exact h1 z' rfl
  | inr r' => rw [h2 r' rfl]; exact hc
noncomputable def f_Bo_copy (w : World) (t0 : Nat) (t1 : Nat) : Option World :=
  bnd (f_Bo_empty w t0) fun v2 => bl (up v2 t0 2 0) fun w4 => f_Bo_copy_11 w4 t0 t1 0
theorem t_Bo_copy_0 {E : EE} {K : KT} {l : Launch} {H0 : Heap} (k : Kof TA E K l cX0_copy RX0 rm_Bo_copy) {w : World} {t0 : Nat} {t1 : Nat} {o2 : Option Value} (k_t0 : TA.kd t0 = 1) (k_t1 : TA.kd t1 = 1) {out : World} (hf : f_Bo_copy w t0 t1 = some out) (hc : (fun out : World => RetV TA E K H0 cX0_copy out) out) : Jj K (WdT TA E H0) w 0 [some (rf E.ad t0), some (rf E.ad t1), o2] [] := by
  unfold f_Bo_copy at hf
  have o := k.1
  have g := k.2.1
  have kr := k.2.2.1
  refine J_aload_n o dX0_copy_0 rfl ?_
  obtain ⟨v2, e1, hf⟩ := bnd_some hf
  refine J_vV o g kr dX0_copy_1 lkX0_39 ml_Bo_empty vl_Bo_empty ⟨rfl, rfl, Nat.le_of_ble_eq_true rfl, Nat.le_of_ble_eq_true rfl⟩ (c_Bo_empty g.2.1 k_t0 e1) k_t0 rfl ⟨by decide, by decide⟩ rfl rfl c1s_0 ?_
  refine J_aload_n o dX0_copy_4 rfl ?_
  refine J_iconst o dX0_copy_5 ?_
  refine J_putZ o g dX0_copy_6 fpX0_42 k_t0 rfl rfl (Or.inl rfl) ?_
  have hf := bl_out hf
  refine J_iconst o dX0_copy_9 ?_
  refine J_istore_n o dX0_copy_10 (Nat.le_of_ble_eq_true rfl) ?_
  exact (t_Bo_copy_11 k k_t0 k_t1 hf hc) rl0 
theorem c_Bo_copy {E : EE} {l : Launch} (hI : Inj TA E) {w : World} {t0 : Nat} {t1 : Nat} (k_t0 : TA.kd t0 = 1) (k_t1 : TA.kd t1 = 1) {out : World} (hf : f_Bo_copy w t0 t1 = some out) : ConV TA E l yX0_copy (WS yX0_copy cX0_copy 3 none) rm_Bo_copy [rf E.ad t0, rf E.ad t1] w out :=
  con_V (by decide +kernel) rfl (Nat.le_of_ble_eq_true rfl) (c1s_r (c1s_r c1s_0 (Nat.le_of_ble_eq_true rfl)) (Nat.le_of_ble_eq_true rfl)).1 ⟨rfl, rfl⟩ hI TnA (fun K H0 k hret => t_Bo_copy_0 k k_t0 k_t1 hf hret)
