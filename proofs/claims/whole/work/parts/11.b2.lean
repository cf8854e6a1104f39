abbrev rm_Re_copyDraft : Room := { frames := 1, cells := 0, slots := 0, locals := 24 }
def HW_Re_copyDraft_28 (E : EE) (K : KT) (H0 : Heap) (x1 : Int) : (World × Int) → Prop := fun z => R32 z.2 → ∀ o3 : Option Value, Jj K (WdT TB E H0) z.1 28 [some (rf E.ad 1), some (.int (ii x1)), some (.int (ii z.2)), o3] []
def HW_Re_copyDraft_60 (E : EE) (K : KT) (H0 : Heap) (x1 : Int) : (World × Int) → Prop := fun z => R32 z.2 → ∀ o3 : Option Value, Jj K (WdT TB E H0) z.1 60 [some (rf E.ad 1), some (.int (ii x1)), some (.int (ii z.2)), o3] []
def HW_Re_copyDraft_105 (E : EE) (K : KT) (H0 : Heap) (x1 : Int) (x2 : Int) : (World × Int) → Prop := fun z => R32 z.2 → Jj K (WdT TB E H0) z.1 105 [some (rf E.ad 1), some (.int (ii x1)), some (.int (ii x2)), some (.int (ii z.2))] []
noncomputable def f_Re_copyDraft_105B (w : World) (x1 : Int) (x2 : Int) (x3 : Int) : Option ((World × Int) ⊕ ((World × Int) ⊕ World)) :=
  if 3 ≤ x3 then (bl (wr (x2 + 1)) fun n3 => some (Sum.inr (Sum.inl (w, n3)))) else (gd (0 ≤ wr ((wr (3 * (wr (90 + x2)))) + x3) ∧ wr ((wr (3 * (wr (90 + x2)))) + x3) < 285) (gd (0 ≤ wr ((wr (3 * (wr ((wr (5 * x1)) + x2)))) + x3) ∧ wr ((wr (3 * (wr ((wr (5 * x1)) + x2)))) + x3) < 285) (bl (up w 19 (wr ((wr (3 * (wr ((wr (5 * x1)) + x2)))) + x3)).toNat (w 19 (wr ((wr (3 * (wr (90 + x2)))) + x3)).toNat)) fun w7 => bl (wr (x3 + 1)) fun n8 => some (Sum.inl (w7, n8)))))
theorem t_Re_copyDraft_105B {E : EE} {K : KT} {l : Launch} {H0 : Heap} (k : Kof TB E K l cX11_copyDraft RX11 rm_Re_copyDraft) {w : World} {x1 : Int} {x2 : Int} {x3 : Int} (r_x1 : R32 x1) (r_x2 : R32 x2) (r_x3 : R32 x3) {out : ((World × Int) ⊕ ((World × Int) ⊕ World))} (hf : f_Re_copyDraft_105B w x1 x2 x3 = some out) (hc : (Sum.elim (HW_Re_copyDraft_105 E K H0 x1 x2) (Sum.elim (HW_Re_copyDraft_60 E K H0 x1) (fun out : World => RetV TB E K H0 cX11_copyDraft out))) out) : Jj K (WdT TB E H0) w 105 [some (rf E.ad 1), some (.int (ii x1)), some (.int (ii x2)), some (.int (ii x3))] [] := by
  unfold f_Re_copyDraft_105B at hf
  have o := k.1
  have g := k.2.1
  have kr := k.2.2.1
  refine J_iload_n o dX11_copyDraft_105 rfl ?_
  refine J_iconst o dX11_copyDraft_106 ?_
  refine J_icmp_ge 143 o dX11_copyDraft_107 (by decide) r_x3 rl3 (fun c1 => ?_) (fun c2 => ?_)
  · have hf := ite_t c1 hf
    have hf := bl_out hf
    refine J_iinc o dX11_copyDraft_143 rfl ?_
    refine J_goto 60 o dX11_copyDraft_146 (by decide) ?_
    have hf := some_inj hf
    subst hf
    exact hc (R_wr _) _
  · have hf := ite_f c2 hf
    refine J_aload_n o dX11_copyDraft_110 rfl ?_
    refine J_getF (true, 19) o g dX11_copyDraft_111 flX11_62 kB_1 rfl rfl rfl ?_
    refine J_iconst o dX11_copyDraft_114 ?_
    refine J_iconst o dX11_copyDraft_115 ?_
    refine J_iload_n o dX11_copyDraft_116 rfl ?_
    refine J_imul o dX11_copyDraft_117 ?_
    refine J_iload_n o dX11_copyDraft_118 rfl ?_
    refine J_iadd o dX11_copyDraft_119 ?_
    refine J_imul o dX11_copyDraft_120 ?_
    refine J_iload_n o dX11_copyDraft_121 rfl ?_
    refine J_iadd o dX11_copyDraft_122 ?_
    refine J_aload_n o dX11_copyDraft_123 rfl ?_
    refine J_getF (true, 19) o g dX11_copyDraft_124 flX11_62 kB_1 rfl rfl rfl ?_
    refine J_iconst o dX11_copyDraft_127 ?_
    refine J_bipush o dX11_copyDraft_128 (by decide) ?_
    refine J_iload_n o dX11_copyDraft_130 rfl ?_
    refine J_iadd o dX11_copyDraft_131 ?_
    refine J_imul o dX11_copyDraft_132 ?_
    refine J_iload_n o dX11_copyDraft_133 rfl ?_
    refine J_iadd o dX11_copyDraft_134 ?_
    obtain ⟨g4, hf⟩ := gd_some hf
    refine J_iald o g dX11_copyDraft_135 kB_19 (R_wr _) zB_19 g4 (fun q5 => ?_)
    obtain ⟨g6, hf⟩ := gd_some hf
    refine J_iast o g dX11_copyDraft_136 kB_19 (fxB_40 _) (R_wr _) zB_19 g6 q5 ?_
    have hf := bl_out hf
    have hf := bl_out hf
    refine J_iinc o dX11_copyDraft_137 rfl ?_
    refine J_goto 105 o dX11_copyDraft_140 (by decide) ?_
    have hf := some_inj hf
    subst hf
    exact hc (R_wr _) 
noncomputable def f_Re_copyDraft_105 (w : World) (x1 : Int) (x2 : Int) (x3 : Int) : Option ((World × Int) ⊕ World) :=
  lp (fun z : (World × Int) => f_Re_copyDraft_105B z.1 x1 x2 z.2) (w, x3)
theorem t_Re_copyDraft_105 {E : EE} {K : KT} {l : Launch} {H0 : Heap} (k : Kof TB E K l cX11_copyDraft RX11 rm_Re_copyDraft) {w : World} {x1 : Int} {x2 : Int} {x3 : Int} (r_x1 : R32 x1) (r_x2 : R32 x2) {out : ((World × Int) ⊕ World)} (hf : f_Re_copyDraft_105 w x1 x2 x3 = some out) (hc : (Sum.elim (HW_Re_copyDraft_60 E K H0 x1) (fun out : World => RetV TB E K H0 cX11_copyDraft out)) out) : HW_Re_copyDraft_105 E K H0 x1 x2 (w, x3) := by
  unfold f_Re_copyDraft_105 at hf
  refine lp_ind (P := HW_Re_copyDraft_105 E K H0 x1 x2) hf ?_
  intro z o hs h1 h2
  intro r_x3
  refine t_Re_copyDraft_105B k r_x1 r_x2 r_x3 hs ?_
  cases o with
  | inl z' => exact h1 z' rfl
  | inr r' => rw [h2 r' rfl]; exact hc
noncomputable def f_Re_copyDraft_60B (w : World) (x1 : Int) (x2 : Int) : Option ((World × Int) ⊕ World) :=
  if 5 ≤ x2 then (some (Sum.inr w)) else (gd (0 ≤ wr (90 + x2) ∧ wr (90 + x2) < 95) (gd (0 ≤ wr ((wr (5 * x1)) + x2) ∧ wr ((wr (5 * x1)) + x2) < 95) (bl (up w 17 (wr ((wr (5 * x1)) + x2)).toNat (w 17 (wr (90 + x2)).toNat)) fun w6 => gd (0 ≤ wr (90 + x2) ∧ wr (90 + x2) < 95) (gd (0 ≤ wr ((wr (5 * x1)) + x2) ∧ wr ((wr (5 * x1)) + x2) < 95) (bl (up w6 18 (wr ((wr (5 * x1)) + x2)).toNat (w6 18 (wr (90 + x2)).toNat)) fun w10 => f_Re_copyDraft_105 w10 x1 x2 0)))))
theorem t_Re_copyDraft_60B {E : EE} {K : KT} {l : Launch} {H0 : Heap} (k : Kof TB E K l cX11_copyDraft RX11 rm_Re_copyDraft) {w : World} {x1 : Int} {x2 : Int} {o3 : Option Value} (r_x1 : R32 x1) (r_x2 : R32 x2) {out : ((World × Int) ⊕ World)} (hf : f_Re_copyDraft_60B w x1 x2 = some out) (hc : (Sum.elim (HW_Re_copyDraft_60 E K H0 x1) (fun out : World => RetV TB E K H0 cX11_copyDraft out)) out) : Jj K (WdT TB E H0) w 60 [some (rf E.ad 1), some (.int (ii x1)), some (.int (ii x2)), o3] [] := by
  unfold f_Re_copyDraft_60B at hf
  have o := k.1
  have g := k.2.1
  have kr := k.2.2.1
  refine J_iload_n o dX11_copyDraft_60 rfl ?_
  refine J_iconst o dX11_copyDraft_61 ?_
  refine J_icmp_ge 149 o dX11_copyDraft_62 (by decide) r_x2 rl5 (fun c1 => ?_) (fun c2 => ?_)
  · have hf := ite_t c1 hf
    have hf := some_inj hf
    subst hf
    exact hc _ _  dX11_copyDraft_149
  · have hf := ite_f c2 hf
    refine J_aload_n o dX11_copyDraft_65 rfl ?_
    refine J_getF (true, 17) o g dX11_copyDraft_66 flX11_56 kB_1 rfl rfl rfl ?_
    refine J_iconst o dX11_copyDraft_69 ?_
    refine J_iload_n o dX11_copyDraft_70 rfl ?_
    refine J_imul o dX11_copyDraft_71 ?_
    refine J_iload_n o dX11_copyDraft_72 rfl ?_
    refine J_iadd o dX11_copyDraft_73 ?_
    refine J_aload_n o dX11_copyDraft_74 rfl ?_
    refine J_getF (true, 17) o g dX11_copyDraft_75 flX11_56 kB_1 rfl rfl rfl ?_
    refine J_bipush o dX11_copyDraft_78 (by decide) ?_
    refine J_iload_n o dX11_copyDraft_80 rfl ?_
    refine J_iadd o dX11_copyDraft_81 ?_
    obtain ⟨g3, hf⟩ := gd_some hf
    refine J_iald o g dX11_copyDraft_82 kB_17 (R_wr _) zB_17 g3 (fun q4 => ?_)
    obtain ⟨g5, hf⟩ := gd_some hf
    refine J_iast o g dX11_copyDraft_83 kB_17 (fxB_40 _) (R_wr _) zB_17 g5 q4 ?_
    have hf := bl_out hf
    refine J_aload_n o dX11_copyDraft_84 rfl ?_
    refine J_getF (true, 18) o g dX11_copyDraft_85 flX11_59 kB_1 rfl rfl rfl ?_
    refine J_iconst o dX11_copyDraft_88 ?_
    refine J_iload_n o dX11_copyDraft_89 rfl ?_
    refine J_imul o dX11_copyDraft_90 ?_
    refine J_iload_n o dX11_copyDraft_91 rfl ?_
    refine J_iadd o dX11_copyDraft_92 ?_
    refine J_aload_n o dX11_copyDraft_93 rfl ?_
    refine J_getF (true, 18) o g dX11_copyDraft_94 flX11_59 kB_1 rfl rfl rfl ?_
    refine J_bipush o dX11_copyDraft_97 (by decide) ?_
    refine J_iload_n o dX11_copyDraft_99 rfl ?_
    refine J_iadd o dX11_copyDraft_100 ?_
    obtain ⟨g7, hf⟩ := gd_some hf
    refine J_iald o g dX11_copyDraft_101 kB_18 (R_wr _) zB_18 g7 (fun q8 => ?_)
    obtain ⟨g9, hf⟩ := gd_some hf
    refine J_iast o g dX11_copyDraft_102 kB_18 (fxB_40 _) (R_wr _) zB_18 g9 q8 ?_
    have hf := bl_out hf
    refine J_iconst o dX11_copyDraft_103 ?_
    refine J_istore_n o dX11_copyDraft_104 (Nat.le_of_ble_eq_true rfl) ?_
    exact (t_Re_copyDraft_105 k r_x1 r_x2 hf hc) rl0 
noncomputable def f_Re_copyDraft_60 (w : World) (x1 : Int) (x2 : Int) : Option World :=
  lp (fun z : (World × Int) => f_Re_copyDraft_60B z.1 x1 z.2) (w, x2)
theorem t_Re_copyDraft_60 {E : EE} {K : KT} {l : Launch} {H0 : Heap} (k : Kof TB E K l cX11_copyDraft RX11 rm_Re_copyDraft) {w : World} {x1 : Int} {x2 : Int} (r_x1 : R32 x1) {out : World} (hf : f_Re_copyDraft_60 w x1 x2 = some out) (hc : (fun out : World => RetV TB E K H0 cX11_copyDraft out) out) : HW_Re_copyDraft_60 E K H0 x1 (w, x2) := by
  unfold f_Re_copyDraft_60 at hf
  refine lp_ind (P := HW_Re_copyDraft_60 E K H0 x1) hf ?_
  intro z o hs h1 h2
  intro r_x2
  intro o3
  refine t_Re_copyDraft_60B k r_x1 r_x2 hs ?_
  cases o with
  | inl z' => exact h1 z' rfl
  | inr r' => rw [h2 r' rfl]; exact hc
noncomputable def f_Re_copyDraft_28B (w : World) (x1 : Int) (x2 : Int) : Option ((World × Int) ⊕ World) :=
  if 3 ≤ x2 then (bnd (f_Re_copyDraft_60 w x1 0) fun y3 => some (Sum.inr y3)) else (gd (0 ≤ wr (54 + x2) ∧ wr (54 + x2) < 57) (gd (0 ≤ wr ((wr (3 * x1)) + x2) ∧ wr ((wr (3 * x1)) + x2) < 57) (bl (up w 15 (wr ((wr (3 * x1)) + x2)).toNat (w 15 (wr (54 + x2)).toNat)) fun w7 => bl (wr (x2 + 1)) fun n8 => some (Sum.inl (w7, n8)))))
theorem t_Re_copyDraft_28B {E : EE} {K : KT} {l : Launch} {H0 : Heap} (k : Kof TB E K l cX11_copyDraft RX11 rm_Re_copyDraft) {w : World} {x1 : Int} {x2 : Int} {o3 : Option Value} (r_x1 : R32 x1) (r_x2 : R32 x2) {out : ((World × Int) ⊕ World)} (hf : f_Re_copyDraft_28B w x1 x2 = some out) (hc : (Sum.elim (HW_Re_copyDraft_28 E K H0 x1) (fun out : World => RetV TB E K H0 cX11_copyDraft out)) out) : Jj K (WdT TB E H0) w 28 [some (rf E.ad 1), some (.int (ii x1)), some (.int (ii x2)), o3] [] := by
  unfold f_Re_copyDraft_28B at hf
  have o := k.1
  have g := k.2.1
  have kr := k.2.2.1
  refine J_iload_n o dX11_copyDraft_28 rfl ?_
  refine J_iconst o dX11_copyDraft_29 ?_
  refine J_icmp_ge 58 o dX11_copyDraft_30 (by decide) r_x2 rl3 (fun c1 => ?_) (fun c2 => ?_)
  · have hf := ite_t c1 hf
    refine J_iconst o dX11_copyDraft_58 ?_
    refine J_istore_n o dX11_copyDraft_59 (Nat.le_of_ble_eq_true rfl) ?_
    obtain ⟨y3, hf1, hf⟩ := bnd_some hf
    have hf := some_inj hf
    subst hf
    exact (t_Re_copyDraft_60 k r_x1 hf1 hc) rl0 _
  · have hf := ite_f c2 hf
    refine J_aload_n o dX11_copyDraft_33 rfl ?_
    refine J_getF (true, 15) o g dX11_copyDraft_34 flX11_50 kB_1 rfl rfl rfl ?_
    refine J_iconst o dX11_copyDraft_37 ?_
    refine J_iload_n o dX11_copyDraft_38 rfl ?_
    refine J_imul o dX11_copyDraft_39 ?_
    refine J_iload_n o dX11_copyDraft_40 rfl ?_
    refine J_iadd o dX11_copyDraft_41 ?_
    refine J_aload_n o dX11_copyDraft_42 rfl ?_
    refine J_getF (true, 15) o g dX11_copyDraft_43 flX11_50 kB_1 rfl rfl rfl ?_
    refine J_bipush o dX11_copyDraft_46 (by decide) ?_
    refine J_iload_n o dX11_copyDraft_48 rfl ?_
    refine J_iadd o dX11_copyDraft_49 ?_
    obtain ⟨g4, hf⟩ := gd_some hf
    refine J_iald o g dX11_copyDraft_50 kB_15 (R_wr _) zB_15 g4 (fun q5 => ?_)
    obtain ⟨g6, hf⟩ := gd_some hf
    refine J_iast o g dX11_copyDraft_51 kB_15 (fxB_40 _) (R_wr _) zB_15 g6 q5 ?_
    have hf := bl_out hf
    have hf := bl_out hf
    refine J_iinc o dX11_copyDraft_52 rfl ?_
    refine J_goto 28 o dX11_copyDraft_55 (by decide) ?_
    have hf := some_inj hf
    subst hf
    exact hc (R_wr _) _
noncomputable def f_Re_copyDraft_28 (w : World) (x1 : Int) (x2 : Int) : Option World :=
  lp (fun z : (World × Int) => f_Re_copyDraft_28B z.1 x1 z.2) (w, x2)
theorem t_Re_copyDraft_28 {E : EE} {K : KT} {l : Launch} {H0 : Heap} (k : Kof TB E K l cX11_copyDraft RX11 rm_Re_copyDraft) {w : World} {x1 : Int} {x2 : Int} (r_x1 : R32 x1) {out : World} (hf : f_Re_copyDraft_28 w x1 x2 = some out) (hc : (fun out : World => RetV TB E K H0 cX11_copyDraft out) out) : HW_Re_copyDraft_28 E K H0 x1 (w, x2) := by
  unfold f_Re_copyDraft_28 at hf
  refine lp_ind (P := HW_Re_copyDraft_28 E K H0 x1) hf ?_
  intro z o hs h1 h2
  intro r_x2
  intro o3
  refine t_Re_copyDraft_28B k r_x1 r_x2 hs ?_
  cases o with
  | inl z' => exact h1 z' rfl
  | inr r' => rw [h2 r' rfl]; exact hc
noncomputable def f_Re_copyDraft (w : World) (x1 : Int) : Option World :=
  gd (0 ≤ x1 ∧ x1 < 19) (bl (up w 14 x1.toNat (w 14 18)) fun w3 => gd (0 ≤ x1 ∧ x1 < 19) (bl (up w3 16 x1.toNat (w3 16 18)) fun w6 => f_Re_copyDraft_28 w6 x1 0))
theorem t_Re_copyDraft_0 {E : EE} {K : KT} {l : Launch} {H0 : Heap} (k : Kof TB E K l cX11_copyDraft RX11 rm_Re_copyDraft) {w : World} {x1 : Int} {o2 o3 : Option Value} (r_x1 : R32 x1) {out : World} (hf : f_Re_copyDraft w x1 = some out) (hc : (fun out : World => RetV TB E K H0 cX11_copyDraft out) out) : Jj K (WdT TB E H0) w 0 [some (rf E.ad 1), some (.int (ii x1)), o2, o3] [] := by
  unfold f_Re_copyDraft at hf
  have o := k.1
  have g := k.2.1
  have kr := k.2.2.1
  refine J_aload_n o dX11_copyDraft_0 rfl ?_
  refine J_getF (true, 14) o g dX11_copyDraft_1 flX11_47 kB_1 rfl rfl rfl ?_
  refine J_iload_n o dX11_copyDraft_4 rfl ?_
  refine J_aload_n o dX11_copyDraft_5 rfl ?_
  refine J_getF (true, 14) o g dX11_copyDraft_6 flX11_47 kB_1 rfl rfl rfl ?_
  refine J_bipush o dX11_copyDraft_9 (by decide) ?_
  refine J_iald o g dX11_copyDraft_11 kB_14 rl18 zB_14 ⟨by decide, by decide⟩ (fun q1 => ?_)
  obtain ⟨g2, hf⟩ := gd_some hf
  refine J_iast o g dX11_copyDraft_12 kB_14 (fxB_40 _) r_x1 zB_14 g2 q1 ?_
  have hf := bl_out hf
  refine J_aload_n o dX11_copyDraft_13 rfl ?_
  refine J_getF (true, 16) o g dX11_copyDraft_14 flX11_53 kB_1 rfl rfl rfl ?_
  refine J_iload_n o dX11_copyDraft_17 rfl ?_
  refine J_aload_n o dX11_copyDraft_18 rfl ?_
  refine J_getF (true, 16) o g dX11_copyDraft_19 flX11_53 kB_1 rfl rfl rfl ?_
  refine J_bipush o dX11_copyDraft_22 (by decide) ?_
  refine J_iald o g dX11_copyDraft_24 kB_16 rl18 zB_16 ⟨by decide, by decide⟩ (fun q4 => ?_)
  obtain ⟨g5, hf⟩ := gd_some hf
  refine J_iast o g dX11_copyDraft_25 kB_16 (fxB_40 _) r_x1 zB_16 g5 q4 ?_
  have hf := bl_out hf
  refine J_iconst o dX11_copyDraft_26 ?_
  refine J_istore_n o dX11_copyDraft_27 (Nat.le_of_ble_eq_true rfl) ?_
  exact (t_Re_copyDraft_28 k r_x1 hf hc) rl0 _
theorem c_Re_copyDraft {E : EE} {l : Launch} (hI : Inj TB E) {w : World} {x1 : Int} (r_x1 : R32 x1) {out : World} (hf : f_Re_copyDraft w x1 = some out) : ConV TB E l yX11_copyDraft (WS yX11_copyDraft cX11_copyDraft 4 none) rm_Re_copyDraft [rf E.ad 1, .int (ii x1)] w out :=
  con_V (by decide +kernel) rfl (Nat.le_of_ble_eq_true rfl) (c1s_r (c1s_i c1s_0 (Nat.le_of_ble_eq_true rfl)) (Nat.le_of_ble_eq_true rfl)).1 ⟨rfl, rfl⟩ hI TnB (fun K H0 k hret => t_Re_copyDraft_0 k r_x1 hf hret)
abbrev rm_Re_emptyDraft : Room := { frames := 1, cells := 0, slots := 0, locals := 24 }
noncomputable def f_Re_emptyDraft (w : World) : Option World :=
  bl (up w 16 18 0) fun w1 => bl (up w1 14 18 (-1)) fun w2 => some w2
theorem t_Re_emptyDraft_0 {E : EE} {K : KT} {l : Launch} {H0 : Heap} (k : Kof TB E K l cX11_emptyDraft RX11 rm_Re_emptyDraft) {w : World}  {out : World} (hf : f_Re_emptyDraft w = some out) (hc : (fun out : World => RetV TB E K H0 cX11_emptyDraft out) out) : Jj K (WdT TB E H0) w 0 [some (rf E.ad 1)] [] := by
  unfold f_Re_emptyDraft at hf
  have o := k.1
  have g := k.2.1
  have kr := k.2.2.1
  refine J_aload_n o dX11_emptyDraft_0 rfl ?_
  refine J_getF (true, 16) o g dX11_emptyDraft_1 flX11_53 kB_1 rfl rfl rfl ?_
  refine J_bipush o dX11_emptyDraft_4 (by decide) ?_
  refine J_iconst o dX11_emptyDraft_6 ?_
  refine J_iast o g dX11_emptyDraft_7 kB_16 (fxB_40 _) rl18 zB_16 ⟨by decide, by decide⟩ rl0 ?_
  have hf := bl_out hf
  refine J_aload_n o dX11_emptyDraft_8 rfl ?_
  refine J_getF (true, 14) o g dX11_emptyDraft_9 flX11_47 kB_1 rfl rfl rfl ?_
  refine J_bipush o dX11_emptyDraft_12 (by decide) ?_
  refine J_iconst o dX11_emptyDraft_14 ?_
  refine J_iast o g dX11_emptyDraft_15 kB_14 (fxB_40 _) rl18 zB_14 ⟨by decide, by decide⟩ rlm1 ?_
  have hf := bl_out hf
  have hf := some_inj hf
  subst hf
  exact hc _ _  dX11_emptyDraft_16
theorem c_Re_emptyDraft {E : EE} {l : Launch} (hI : Inj TB E) {w : World}  {out : World} (hf : f_Re_emptyDraft w = some out) : ConV TB E l yX11_emptyDraft (WS yX11_emptyDraft cX11_emptyDraft 1 none) rm_Re_emptyDraft [rf E.ad 1] w out :=
  con_V (by decide +kernel) rfl (Nat.le_of_ble_eq_true rfl) (c1s_r c1s_0 (Nat.le_of_ble_eq_true rfl)).1 ⟨rfl, rfl⟩ hI TnB (fun K H0 k hret => t_Re_emptyDraft_0 k  hf hret)
abbrev rm_Re_times : Room := { frames := 2, cells := 0, slots := 0, locals := 45 }
def HW_Re_times_5 (E : EE) (K : KT) (H0 : Heap) (w : World) (x1 : Int) (x2 : Int) : (Int × Int) → Prop := fun z => R32 z.1 → R32 z.2 → ∀ o5 : Option Value, Jj K (WdT TB E H0) w 5 [some (rf E.ad 1), some (.int (ii x1)), some (.int (ii x2)), some (.int (ii z.1)), some (.int (ii z.2)), o5] []
def HW_Re_times_55 (E : EE) (K : KT) (H0 : Heap) (w : World) (x1 : Int) (x2 : Int) : (Int × Int) → Prop := fun z => R32 z.1 → R32 z.2 → ∀ o5 : Option Value, Jj K (WdT TB E H0) w 55 [some (rf E.ad 1), some (.int (ii x1)), some (.int (ii x2)), some (.int (ii z.1)), some (.int (ii z.2)), o5] []
def HW_Re_times_73 (E : EE) (K : KT) (H0 : Heap) (w : World) (x1 : Int) (x2 : Int) (x4 : Int) : (Int × Int) → Prop := fun z => R32 z.1 → R32 z.2 → Jj K (WdT TB E H0) w 73 [some (rf E.ad 1), some (.int (ii x1)), some (.int (ii x2)), some (.int (ii z.1)), some (.int (ii x4)), some (.int (ii z.2))] []
noncomputable def f_Re_times_106 (w : World) (x1 : Int) (x2 : Int) (x4 : Int) (x5 : Int) (s0 : Int) (s1 : Int) : Option ((Int × Int) ⊕ ((Int × Int) ⊕ Int)) :=
  bl (wr (s0 + s1)) fun n1 => bl (wr (x5 + 1)) fun n2 => some (Sum.inl (n1, n2))
theorem t_Re_times_106 {E : EE} {K : KT} {l : Launch} {H0 : Heap} (k : Kof TB E K l cX11_times RX11 rm_Re_times) {w : World} {x1 : Int} {x2 : Int} {x4 : Int} {x5 : Int} {s0 : Int} {s1 : Int} {o3 : Option Value} (r_x1 : R32 x1) (r_x2 : R32 x2) (r_x4 : R32 x4) (r_x5 : R32 x5) (r_s0 : R32 s0) (r_s1 : R32 s1) {out : ((Int × Int) ⊕ ((Int × Int) ⊕ Int))} (hf : f_Re_times_106 w x1 x2 x4 x5 s0 s1 = some out) (hc : (Sum.elim (HW_Re_times_73 E K H0 w x1 x2 x4) (Sum.elim (HW_Re_times_55 E K H0 w x1 x2) (fun out : Int => RetI TB E K H0 cX11_times w out))) out) : Jj K (WdT TB E H0) w 106 [some (rf E.ad 1), some (.int (ii x1)), some (.int (ii x2)), o3, some (.int (ii x4)), some (.int (ii x5))] [.int (ii s1), .int (ii s0)] := by
  unfold f_Re_times_106 at hf
  have o := k.1
  have g := k.2.1
  have kr := k.2.2.1
  refine J_iadd o dX11_times_106 ?_
  refine J_istore_n o dX11_times_107 (Nat.le_of_ble_eq_true rfl) ?_
  have hf := bl_out hf
  have hf := bl_out hf
  refine J_iinc o dX11_times_108 rfl ?_
  refine J_goto 73 o dX11_times_111 (by decide) ?_
  have hf := some_inj hf
  subst hf
  exact hc (R_wr _) (R_wr _) 
noncomputable def f_Re_times_73B (w : World) (x1 : Int) (x2 : Int) (x3 : Int) (x4 : Int) (x5 : Int) : Option ((Int × Int) ⊕ ((Int × Int) ⊕ Int)) :=
  bnd (f_Re_width w x4) fun v2 => if v2 ≤ x5 then (bl (wr (x4 + 1)) fun n6 => some (Sum.inr (Sum.inl (x3, n6)))) else (gd (0 ≤ wr ((wr (3 * x4)) + x5) ∧ wr ((wr (3 * x4)) + x5) < 285) (if (w 19 (wr ((wr (3 * x4)) + x5)).toNat) = x2 then (f_Re_times_106 w x1 x2 x4 x5 x3 1) else (f_Re_times_106 w x1 x2 x4 x5 x3 0)))
theorem t_Re_times_73B {E : EE} {K : KT} {l : Launch} {H0 : Heap} (k : Kof TB E K l cX11_times RX11 rm_Re_times) {w : World} {x1 : Int} {x2 : Int} {x3 : Int} {x4 : Int} {x5 : Int} (r_x1 : R32 x1) (r_x2 : R32 x2) (r_x3 : R32 x3) (r_x4 : R32 x4) (r_x5 : R32 x5) {out : ((Int × Int) ⊕ ((Int × Int) ⊕ Int))} (hf : f_Re_times_73B w x1 x2 x3 x4 x5 = some out) (hc : (Sum.elim (HW_Re_times_73 E K H0 w x1 x2 x4) (Sum.elim (HW_Re_times_55 E K H0 w x1 x2) (fun out : Int => RetI TB E K H0 cX11_times w out))) out) : Jj K (WdT TB E H0) w 73 [some (rf E.ad 1), some (.int (ii x1)), some (.int (ii x2)), some (.int (ii x3)), some (.int (ii x4)), some (.int (ii x5))] [] := by
  unfold f_Re_times_73B at hf
  have o := k.1
  have g := k.2.1
  have kr := k.2.2.1
  refine J_iload o dX11_times_73 rfl ?_
  refine J_aload_n o dX11_times_75 rfl ?_
  refine J_iload o dX11_times_76 rfl ?_
  obtain ⟨v2, e1, hf⟩ := bnd_some hf
  refine J_vI o g kr dX11_times_78 lkX11_152 ml_Re_width vl_Re_width ⟨rfl, rfl, Nat.le_of_ble_eq_true rfl, Nat.le_of_ble_eq_true rfl⟩ (c_Re_width g.2.1 r_x4 e1) kB_1 rfl ⟨by decide, by decide⟩ rfl rfl (c1s_i c1s_0 (Nat.le_of_ble_eq_true rfl)) (fun q3 => ?_)
  refine J_icmp_ge 114 o dX11_times_81 (by decide) r_x5 q3 (fun c4 => ?_) (fun c5 => ?_)
  · have hf := ite_t c4 hf
    have hf := bl_out hf
    refine J_iinc o dX11_times_114 rfl ?_
    refine J_goto 55 o dX11_times_117 (by decide) ?_
    have hf := some_inj hf
    subst hf
    exact hc r_x3 (R_wr _) _
  · have hf := ite_f c5 hf
    refine J_iload_n o dX11_times_84 rfl ?_
    refine J_aload_n o dX11_times_85 rfl ?_
    refine J_getF (true, 19) o g dX11_times_86 flX11_62 kB_1 rfl rfl rfl ?_
    refine J_iconst o dX11_times_89 ?_
    refine J_iload o dX11_times_90 rfl ?_
    refine J_imul o dX11_times_92 ?_
    refine J_iload o dX11_times_93 rfl ?_
    refine J_iadd o dX11_times_95 ?_
    obtain ⟨g7, hf⟩ := gd_some hf
    refine J_iald o g dX11_times_96 kB_19 (R_wr _) zB_19 g7 (fun q8 => ?_)
    refine J_iload_n o dX11_times_97 rfl ?_
    refine J_icmp_ne 105 o dX11_times_98 (by decide) q8 r_x2 (fun c9 => ?_) (fun c10 => ?_)
    · have hf := ite_f c9 hf
      refine J_iconst o dX11_times_105 ?_
      exact t_Re_times_106 k r_x1 r_x2 r_x4 r_x5 r_x3 rl0 hf hc
    · have hf := ite_t c10 hf
      refine J_iconst o dX11_times_101 ?_
      refine J_goto 106 o dX11_times_102 (by decide) ?_
      exact t_Re_times_106 k r_x1 r_x2 r_x4 r_x5 r_x3 rl1 hf hc
noncomputable def f_Re_times_73 (w : World) (x1 : Int) (x2 : Int) (x3 : Int) (x4 : Int) (x5 : Int) : Option ((Int × Int) ⊕ Int) :=
  lp (fun z : (Int × Int) => f_Re_times_73B w x1 x2 z.1 x4 z.2) (x3, x5)
theorem t_Re_times_73 {E : EE} {K : KT} {l : Launch} {H0 : Heap} (k : Kof TB E K l cX11_times RX11 rm_Re_times) {w : World} {x1 : Int} {x2 : Int} {x3 : Int} {x4 : Int} {x5 : Int} (r_x1 : R32 x1) (r_x2 : R32 x2) (r_x4 : R32 x4) {out : ((Int × Int) ⊕ Int)} (hf : f_Re_times_73 w x1 x2 x3 x4 x5 = some out) (hc : (Sum.elim (HW_Re_times_55 E K H0 w x1 x2) (fun out : Int => RetI TB E K H0 cX11_times w out)) out) : HW_Re_times_73 E K H0 w x1 x2 x4 (x3, x5) := by
  unfold f_Re_times_73 at hf
  refine lp_ind (P := HW_Re_times_73 E K H0 w x1 x2 x4) hf ?_
  intro z o hs h1 h2
  intro r_x3 r_x5
  refine t_Re_times_73B k r_x1 r_x2 r_x3 r_x4 r_x5 hs ?_
  cases o with
  | inl z' => exact h1 z' rfl
  | inr r' => rw [h2 r' rfl]; exact hc
noncomputable def f_Re_times_55B (w : World) (x1 : Int) (x2 : Int) (x3 : Int) (x4 : Int) : Option ((Int × Int) ⊕ Int) :=
  gd (0 ≤ x1 ∧ x1 < 19) (if (wr ((wr (5 * x1)) + (w 16 x1.toNat))) ≤ x4 then (some (Sum.inr x3)) else (f_Re_times_73 w x1 x2 x3 x4 0))
theorem t_Re_times_55B {E : EE} {K : KT} {l : Launch} {H0 : Heap} (k : Kof TB E K l cX11_times RX11 rm_Re_times) {w : World} {x1 : Int} {x2 : Int} {x3 : Int} {x4 : Int} {o5 : Option Value} (r_x1 : R32 x1) (r_x2 : R32 x2) (r_x3 : R32 x3) (r_x4 : R32 x4) {out : ((Int × Int) ⊕ Int)} (hf : f_Re_times_55B w x1 x2 x3 x4 = some out) (hc : (Sum.elim (HW_Re_times_55 E K H0 w x1 x2) (fun out : Int => RetI TB E K H0 cX11_times w out)) out) : Jj K (WdT TB E H0) w 55 [some (rf E.ad 1), some (.int (ii x1)), some (.int (ii x2)), some (.int (ii x3)), some (.int (ii x4)), o5] [] := by
  unfold f_Re_times_55B at hf
  have o := k.1
  have g := k.2.1
  have kr := k.2.2.1
  refine J_iload o dX11_times_55 rfl ?_
  refine J_iconst o dX11_times_57 ?_
  refine J_iload_n o dX11_times_58 rfl ?_
  refine J_imul o dX11_times_59 ?_
  refine J_aload_n o dX11_times_60 rfl ?_
  refine J_getF (true, 16) o g dX11_times_61 flX11_53 kB_1 rfl rfl rfl ?_
  refine J_iload_n o dX11_times_64 rfl ?_
  obtain ⟨g1, hf⟩ := gd_some hf
  refine J_iald o g dX11_times_65 kB_16 r_x1 zB_16 g1 (fun q2 => ?_)
  refine J_iadd o dX11_times_66 ?_
  refine J_icmp_ge 120 o dX11_times_67 (by decide) r_x4 (R_wr _) (fun c3 => ?_) (fun c4 => ?_)
  · have hf := ite_t c3 hf
    refine J_iload_n o dX11_times_120 rfl ?_
    have hf := some_inj hf
    subst hf
    exact hc _ _ r_x3 dX11_times_121
  · have hf := ite_f c4 hf
    refine J_iconst o dX11_times_70 ?_
    refine J_istore o dX11_times_71 (Nat.le_of_ble_eq_true rfl) ?_
    exact (t_Re_times_73 k r_x1 r_x2 r_x4 hf hc) r_x3 rl0 
noncomputable def f_Re_times_55 (w : World) (x1 : Int) (x2 : Int) (x3 : Int) (x4 : Int) : Option Int :=
  lp (fun z : (Int × Int) => f_Re_times_55B w x1 x2 z.1 z.2) (x3, x4)
theorem t_Re_times_55 {E : EE} {K : KT} {l : Launch} {H0 : Heap} (k : Kof TB E K l cX11_times RX11 rm_Re_times) {w : World} {x1 : Int} {x2 : Int} {x3 : Int} {x4 : Int} (r_x1 : R32 x1) (r_x2 : R32 x2) {out : Int} (hf : f_Re_times_55 w x1 x2 x3 x4 = some out) (hc : (fun out : Int => RetI TB E K H0 cX11_times w out) out) : HW_Re_times_55 E K H0 w x1 x2 (x3, x4) := by
  unfold f_Re_times_55 at hf
  refine lp_ind (P := HW_Re_times_55 E K H0 w x1 x2) hf ?_
  intro z o hs h1 h2
  intro r_x3 r_x4
  intro o5
  refine t_Re_times_55B k r_x1 r_x2 r_x3 r_x4 hs ?_
  cases o with
  | inl z' => exact h1 z' rfl
  | inr r' => rw [h2 r' rfl]; exact hc
noncomputable def f_Re_times_42 (w : World) (x1 : Int) (x2 : Int) (x4 : Int) (s0 : Int) (s1 : Int) : Option ((Int × Int) ⊕ Int) :=
  bl (wr (s0 + s1)) fun n1 => bl (wr (x4 + 1)) fun n2 => some (Sum.inl (n1, n2))
theorem t_Re_times_42 {E : EE} {K : KT} {l : Launch} {H0 : Heap} (k : Kof TB E K l cX11_times RX11 rm_Re_times) {w : World} {x1 : Int} {x2 : Int} {x4 : Int} {s0 : Int} {s1 : Int} {o3 o5 : Option Value} (r_x1 : R32 x1) (r_x2 : R32 x2) (r_x4 : R32 x4) (r_s0 : R32 s0) (r_s1 : R32 s1) {out : ((Int × Int) ⊕ Int)} (hf : f_Re_times_42 w x1 x2 x4 s0 s1 = some out) (hc : (Sum.elim (HW_Re_times_5 E K H0 w x1 x2) (fun out : Int => RetI TB E K H0 cX11_times w out)) out) : Jj K (WdT TB E H0) w 42 [some (rf E.ad 1), some (.int (ii x1)), some (.int (ii x2)), o3, some (.int (ii x4)), o5] [.int (ii s1), .int (ii s0)] := by
  unfold f_Re_times_42 at hf
  have o := k.1
  have g := k.2.1
  have kr := k.2.2.1
  refine J_iadd o dX11_times_42 ?_
  refine J_istore_n o dX11_times_43 (Nat.le_of_ble_eq_true rfl) ?_
  have hf := bl_out hf
  have hf := bl_out hf
  refine J_iinc o dX11_times_44 rfl ?_
  refine J_goto 5 o dX11_times_47 (by decide) ?_
  have hf := some_inj hf
  subst hf
  exact hc (R_wr _) (R_wr _) _
noncomputable def f_Re_times_5B (w : World) (x1 : Int) (x2 : Int) (x3 : Int) (x4 : Int) : Option ((Int × Int) ⊕ Int) :=
  gd (0 ≤ x1 ∧ x1 < 19) (gd (0 ≤ w 14 x1.toNat ∧ w 14 x1.toNat < 10) (if (w 3 (w 14 x1.toNat).toNat) ≤ x4 then (bl (wr (5 * x1)) fun n7 => bnd (f_Re_times_55 w x1 x2 x3 n7) fun y8 => some (Sum.inr y8)) else (gd (0 ≤ wr ((wr (3 * x1)) + x4) ∧ wr ((wr (3 * x1)) + x4) < 57) (if (w 15 (wr ((wr (3 * x1)) + x4)).toNat) = x2 then (f_Re_times_42 w x1 x2 x4 x3 1) else (f_Re_times_42 w x1 x2 x4 x3 0)))))
theorem t_Re_times_5B {E : EE} {K : KT} {l : Launch} {H0 : Heap} (k : Kof TB E K l cX11_times RX11 rm_Re_times) {w : World} {x1 : Int} {x2 : Int} {x3 : Int} {x4 : Int} {o5 : Option Value} (r_x1 : R32 x1) (r_x2 : R32 x2) (r_x3 : R32 x3) (r_x4 : R32 x4) {out : ((Int × Int) ⊕ Int)} (hf : f_Re_times_5B w x1 x2 x3 x4 = some out) (hc : (Sum.elim (HW_Re_times_5 E K H0 w x1 x2) (fun out : Int => RetI TB E K H0 cX11_times w out)) out) : Jj K (WdT TB E H0) w 5 [some (rf E.ad 1), some (.int (ii x1)), some (.int (ii x2)), some (.int (ii x3)), some (.int (ii x4)), o5] [] := by
  unfold f_Re_times_5B at hf
  have o := k.1
  have g := k.2.1
  have kr := k.2.2.1
  refine J_iload o dX11_times_5 rfl ?_
  refine J_aload_n o dX11_times_7 rfl ?_
  refine J_getF (true, 3) o g dX11_times_8 flX11_13 kB_1 rfl rfl rfl ?_
  refine J_aload_n o dX11_times_11 rfl ?_
  refine J_getF (true, 14) o g dX11_times_12 flX11_47 kB_1 rfl rfl rfl ?_
  refine J_iload_n o dX11_times_15 rfl ?_
  obtain ⟨g1, hf⟩ := gd_some hf
  refine J_iald o g dX11_times_16 kB_14 r_x1 zB_14 g1 (fun q2 => ?_)
  obtain ⟨g3, hf⟩ := gd_some hf
  refine J_iald o g dX11_times_17 kB_3 q2 zB_3 g3 (fun q4 => ?_)
  refine J_icmp_ge 50 o dX11_times_18 (by decide) r_x4 q4 (fun c5 => ?_) (fun c6 => ?_)
  · have hf := ite_t c5 hf
    refine J_iconst o dX11_times_50 ?_
    refine J_iload_n o dX11_times_51 rfl ?_
    refine J_imul o dX11_times_52 ?_
    refine J_istore o dX11_times_53 (Nat.le_of_ble_eq_true rfl) ?_
    have hf := bl_out hf
    obtain ⟨y8, hf1, hf⟩ := bnd_some hf
    have hf := some_inj hf
    subst hf
    exact (t_Re_times_55 k r_x1 r_x2 hf1 hc) r_x3 (R_wr _) _
  · have hf := ite_f c6 hf
    refine J_iload_n o dX11_times_21 rfl ?_
    refine J_aload_n o dX11_times_22 rfl ?_
    refine J_getF (true, 15) o g dX11_times_23 flX11_50 kB_1 rfl rfl rfl ?_
    refine J_iconst o dX11_times_26 ?_
    refine J_iload_n o dX11_times_27 rfl ?_
    refine J_imul o dX11_times_28 ?_
    refine J_iload o dX11_times_29 rfl ?_
    refine J_iadd o dX11_times_31 ?_
    obtain ⟨g9, hf⟩ := gd_some hf
    refine J_iald o g dX11_times_32 kB_15 (R_wr _) zB_15 g9 (fun q10 => ?_)
    refine J_iload_n o dX11_times_33 rfl ?_
    refine J_icmp_ne 41 o dX11_times_34 (by decide) q10 r_x2 (fun c11 => ?_) (fun c12 => ?_)
    · have hf := ite_f c11 hf
      refine J_iconst o dX11_times_41 ?_
      exact t_Re_times_42 k r_x1 r_x2 r_x4 r_x3 rl0 hf hc
    · have hf := ite_t c12 hf
      refine J_iconst o dX11_times_37 ?_
      refine J_goto 42 o dX11_times_38 (by decide) ?_
      exact t_Re_times_42 k r_x1 r_x2 r_x4 r_x3 rl1 hf hc
noncomputable def f_Re_times_5 (w : World) (x1 : Int) (x2 : Int) (x3 : Int) (x4 : Int) : Option Int :=
  lp (fun z : (Int × Int) => f_Re_times_5B w x1 x2 z.1 z.2) (x3, x4)
theorem t_Re_times_5 {E : EE} {K : KT} {l : Launch} {H0 : Heap} (k : Kof TB E K l cX11_times RX11 rm_Re_times) {w : World} {x1 : Int} {x2 : Int} {x3 : Int} {x4 : Int} (r_x1 : R32 x1) (r_x2 : R32 x2) {out : Int} (hf : f_Re_times_5 w x1 x2 x3 x4 = some out) (hc : (fun out : Int => RetI TB E K H0 cX11_times w out) out) : HW_Re_times_5 E K H0 w x1 x2 (x3, x4) := by
  unfold f_Re_times_5 at hf
  refine lp_ind (P := HW_Re_times_5 E K H0 w x1 x2) hf ?_
  intro z o hs h1 h2
  intro r_x3 r_x4
  intro o5
  refine t_Re_times_5B k r_x1 r_x2 r_x3 r_x4 hs ?_
  cases o with
  | inl z' => exact h1 z' rfl
  | inr r' => rw [h2 r' rfl]; exact hc
noncomputable def f_Re_times (w : World) (x1 : Int) (x2 : Int) : Option Int :=
  f_Re_times_5 w x1 x2 0 0
theorem t_Re_times_0 {E : EE} {K : KT} {l : Launch} {H0 : Heap} (k : Kof TB E K l cX11_times RX11 rm_Re_times) {w : World} {x1 : Int} {x2 : Int} {o3 o4 o5 : Option Value} (r_x1 : R32 x1) (r_x2 : R32 x2) {out : Int} (hf : f_Re_times w x1 x2 = some out) (hc : (fun out : Int => RetI TB E K H0 cX11_times w out) out) : Jj K (WdT TB E H0) w 0 [some (rf E.ad 1), some (.int (ii x1)), some (.int (ii x2)), o3, o4, o5] [] := by
  unfold f_Re_times at hf
  have o := k.1
  have g := k.2.1
  have kr := k.2.2.1
  refine J_iconst o dX11_times_0 ?_
  refine J_istore_n o dX11_times_1 (Nat.le_of_ble_eq_true rfl) ?_
  refine J_iconst o dX11_times_2 ?_
  refine J_istore o dX11_times_3 (Nat.le_of_ble_eq_true rfl) ?_
  exact (t_Re_times_5 k r_x1 r_x2 hf hc) rl0 rl0 _
theorem c_Re_times {E : EE} {l : Launch} (hI : Inj TB E) {w : World} {x1 : Int} {x2 : Int} (r_x1 : R32 x1) (r_x2 : R32 x2) {out : Int} (hf : f_Re_times w x1 x2 = some out) : ConI TB E l yX11_times (WS yX11_times cX11_times 6 (some .int)) rm_Re_times [rf E.ad 1, .int (ii x1), .int (ii x2)] w w out :=
  con_I (by decide +kernel) rfl (Nat.le_of_ble_eq_true rfl) (c1s_r (c1s_i (c1s_i c1s_0 (Nat.le_of_ble_eq_true rfl)) (Nat.le_of_ble_eq_true rfl)) (Nat.le_of_ble_eq_true rfl)).1 ⟨rfl, rfl⟩ hI TnB (fun K H0 k hret => t_Re_times_0 k r_x1 r_x2 hf hret)
abbrev rm_Re_lastOfHead : Room := { frames := 1, cells := 0, slots := 0, locals := 24 }
noncomputable def f_Re_lastOfHead (w : World) (x1 : Int) : Option Int :=
  gd (0 ≤ x1 ∧ x1 < 19) (gd (0 ≤ w 14 x1.toNat ∧ w 14 x1.toNat < 10) (gd (0 ≤ wr ((wr ((wr (3 * x1)) + (w 3 (w 14 x1.toNat).toNat))) - 1) ∧ wr ((wr ((wr (3 * x1)) + (w 3 (w 14 x1.toNat).toNat))) - 1) < 57) (some (w 15 (wr ((wr ((wr (3 * x1)) + (w 3 (w 14 x1.toNat).toNat))) - 1)).toNat))))
theorem t_Re_lastOfHead_0 {E : EE} {K : KT} {l : Launch} {H0 : Heap} (k : Kof TB E K l cX11_lastOfHead RX11 rm_Re_lastOfHead) {w : World} {x1 : Int} (r_x1 : R32 x1) {out : Int} (hf : f_Re_lastOfHead w x1 = some out) (hc : (fun out : Int => RetI TB E K H0 cX11_lastOfHead w out) out) : Jj K (WdT TB E H0) w 0 [some (rf E.ad 1), some (.int (ii x1))] [] := by
  unfold f_Re_lastOfHead at hf
  have o := k.1
  have g := k.2.1
  have kr := k.2.2.1
  refine J_aload_n o dX11_lastOfHead_0 rfl ?_
  refine J_getF (true, 15) o g dX11_lastOfHead_1 flX11_50 kB_1 rfl rfl rfl ?_
  refine J_iconst o dX11_lastOfHead_4 ?_
  refine J_iload_n o dX11_lastOfHead_5 rfl ?_
  refine J_imul o dX11_lastOfHead_6 ?_
  refine J_aload_n o dX11_lastOfHead_7 rfl ?_
  refine J_getF (true, 3) o g dX11_lastOfHead_8 flX11_13 kB_1 rfl rfl rfl ?_
  refine J_aload_n o dX11_lastOfHead_11 rfl ?_
  refine J_getF (true, 14) o g dX11_lastOfHead_12 flX11_47 kB_1 rfl rfl rfl ?_
  refine J_iload_n o dX11_lastOfHead_15 rfl ?_
  obtain ⟨g1, hf⟩ := gd_some hf
  refine J_iald o g dX11_lastOfHead_16 kB_14 r_x1 zB_14 g1 (fun q2 => ?_)
  obtain ⟨g3, hf⟩ := gd_some hf
  refine J_iald o g dX11_lastOfHead_17 kB_3 q2 zB_3 g3 (fun q4 => ?_)
  refine J_iadd o dX11_lastOfHead_18 ?_
  refine J_iconst o dX11_lastOfHead_19 ?_
  refine J_isub o dX11_lastOfHead_20 ?_
  obtain ⟨g5, hf⟩ := gd_some hf
  refine J_iald o g dX11_lastOfHead_21 kB_15 (R_wr _) zB_15 g5 (fun q6 => ?_)
  have hf := some_inj hf
  subst hf
  exact hc _ _ q6 dX11_lastOfHead_22
theorem c_Re_lastOfHead {E : EE} {l : Launch} (hI : Inj TB E) {w : World} {x1 : Int} (r_x1 : R32 x1) {out : Int} (hf : f_Re_lastOfHead w x1 = some out) : ConI TB E l yX11_lastOfHead (WS yX11_lastOfHead cX11_lastOfHead 2 (some .int)) rm_Re_lastOfHead [rf E.ad 1, .int (ii x1)] w w out :=
  con_I (by decide +kernel) rfl (Nat.le_of_ble_eq_true rfl) (c1s_r (c1s_i c1s_0 (Nat.le_of_ble_eq_true rfl)) (Nat.le_of_ble_eq_true rfl)).1 ⟨rfl, rfl⟩ hI TnB (fun K H0 k hret => t_Re_lastOfHead_0 k r_x1 hf hret)
abbrev rm_Re_grows : Room := { frames := 3, cells := 0, slots := 0, locals := 70 }
def HW_Re_grows_113 (E : EE) (K : KT) (H0 : Heap) (w : World) (x1 : Int) (x3 : Int) (x4 : Int) (x5 : Int) (x6 : Int) : (Int × Int) → Prop := fun z => R32 z.1 → R32 z.2 → ∀ o2 o9 o10 : Option Value, Jj K (WdT TB E H0) w 113 [some (rf E.ad 1), some (.int (ii x1)), o2, some (.int (ii x3)), some (.int (ii x4)), some (.int (ii x5)), some (.int (ii x6)), some (.int (ii z.1)), some (.int (ii z.2)), o9, o10] []
noncomputable def f_Re_grows_246 (w : World) (x1 : Int) (x3 : Int) (x4 : Int) (x5 : Int) (x6 : Int) (x8 : Int) (s0 : Int) : Option ((Int × Int) ⊕ Int) :=
  bl (wr (x8 + 1)) fun n1 => some (Sum.inl (s0, n1))
theorem t_Re_grows_246 {E : EE} {K : KT} {l : Launch} {H0 : Heap} (k : Kof TB E K l cX11_grows RX11 rm_Re_grows) {w : World} {x1 : Int} {x3 : Int} {x4 : Int} {x5 : Int} {x6 : Int} {x8 : Int} {s0 : Int} {o2 o7 o9 o10 : Option Value} (r_x1 : R32 x1) (r_x3 : R32 x3) (r_x4 : R32 x4) (r_x5 : R32 x5) (r_x6 : R32 x6) (r_x8 : R32 x8) (r_s0 : R32 s0) {out : ((Int × Int) ⊕ Int)} (hf : f_Re_grows_246 w x1 x3 x4 x5 x6 x8 s0 = some out) (hc : (Sum.elim (HW_Re_grows_113 E K H0 w x1 x3 x4 x5 x6) (fun out : Int => RetZ TB E K H0 cX11_grows w out)) out) : Jj K (WdT TB E H0) w 246 [some (rf E.ad 1), some (.int (ii x1)), o2, some (.int (ii x3)), some (.int (ii x4)), some (.int (ii x5)), some (.int (ii x6)), o7, some (.int (ii x8)), o9, o10] [.int (ii s0)] := by
  unfold f_Re_grows_246 at hf
  have o := k.1
  have g := k.2.1
  have kr := k.2.2.1
  refine J_istore o dX11_grows_246 (Nat.le_of_ble_eq_true rfl) ?_
  have hf := bl_out hf
  refine J_iinc o dX11_grows_248 rfl ?_
  refine J_goto 113 o dX11_grows_251 (by decide) ?_
  have hf := some_inj hf
  subst hf
  exact hc r_s0 (R_wr _) _ _ _
noncomputable def f_Re_grows_241 (w : World) (x1 : Int) (x3 : Int) (x4 : Int) (x5 : Int) (x6 : Int) (x8 : Int) : Option ((Int × Int) ⊕ Int) :=
  f_Re_grows_246 w x1 x3 x4 x5 x6 x8 1
theorem t_Re_grows_241 {E : EE} {K : KT} {l : Launch} {H0 : Heap} (k : Kof TB E K l cX11_grows RX11 rm_Re_grows) {w : World} {x1 : Int} {x3 : Int} {x4 : Int} {x5 : Int} {x6 : Int} {x8 : Int} {o2 o7 o9 o10 : Option Value} (r_x1 : R32 x1) (r_x3 : R32 x3) (r_x4 : R32 x4) (r_x5 : R32 x5) (r_x6 : R32 x6) (r_x8 : R32 x8) {out : ((Int × Int) ⊕ Int)} (hf : f_Re_grows_241 w x1 x3 x4 x5 x6 x8 = some out) (hc : (Sum.elim (HW_Re_grows_113 E K H0 w x1 x3 x4 x5 x6) (fun out : Int => RetZ TB E K H0 cX11_grows w out)) out) : Jj K (WdT TB E H0) w 241 [some (rf E.ad 1), some (.int (ii x1)), o2, some (.int (ii x3)), some (.int (ii x4)), some (.int (ii x5)), some (.int (ii x6)), o7, some (.int (ii x8)), o9, o10] [] := by
  unfold f_Re_grows_241 at hf
  have o := k.1
  have g := k.2.1
  have kr := k.2.2.1
  refine J_iconst o dX11_grows_241 ?_
  refine J_goto 246 o dX11_grows_242 (by decide) ?_
  exact t_Re_grows_246 k r_x1 r_x3 r_x4 r_x5 r_x6 r_x8 rl1 hf hc
noncomputable def f_Re_grows_245 (w : World) (x1 : Int) (x3 : Int) (x4 : Int) (x5 : Int) (x6 : Int) (x8 : Int) : Option ((Int × Int) ⊕ Int) :=
  f_Re_grows_246 w x1 x3 x4 x5 x6 x8 0
theorem t_Re_grows_245 {E : EE} {K : KT} {l : Launch} {H0 : Heap} (k : Kof TB E K l cX11_grows RX11 rm_Re_grows) {w : World} {x1 : Int} {x3 : Int} {x4 : Int} {x5 : Int} {x6 : Int} {x8 : Int} {o2 o7 o9 o10 : Option Value} (r_x1 : R32 x1) (r_x3 : R32 x3) (r_x4 : R32 x4) (r_x5 : R32 x5) (r_x6 : R32 x6) (r_x8 : R32 x8) {out : ((Int × Int) ⊕ Int)} (hf : f_Re_grows_245 w x1 x3 x4 x5 x6 x8 = some out) (hc : (Sum.elim (HW_Re_grows_113 E K H0 w x1 x3 x4 x5 x6) (fun out : Int => RetZ TB E K H0 cX11_grows w out)) out) : Jj K (WdT TB E H0) w 245 [some (rf E.ad 1), some (.int (ii x1)), o2, some (.int (ii x3)), some (.int (ii x4)), some (.int (ii x5)), some (.int (ii x6)), o7, some (.int (ii x8)), o9, o10] [] := by
  unfold f_Re_grows_245 at hf
  have o := k.1
  have g := k.2.1
  have kr := k.2.2.1
  refine J_iconst o dX11_grows_245 ?_
  exact t_Re_grows_246 k r_x1 r_x3 r_x4 r_x5 r_x6 r_x8 rl0 hf hc
noncomputable def f_Re_grows_187 (w : World) (x1 : Int) (x3 : Int) (x4 : Int) (x5 : Int) (x6 : Int) (x7 : Int) (x8 : Int) (x9 : Int) (s0 : Int) : Option ((Int × Int) ⊕ Int) :=
  if x7 = 0 then (if x5 = 2 then (if s0 = 0 then (f_Re_grows_245 w x1 x3 x4 x5 x6 x8) else (if x3 = 3 then (f_Re_grows_245 w x1 x3 x4 x5 x6 x8) else (if 0 ≤ x9 then (f_Re_grows_245 w x1 x3 x4 x5 x6 x8) else (if x6 = 0 then (f_Re_grows_245 w x1 x3 x4 x5 x6 x8) else (bnd (f_Re_lastOfHead w x1) fun v14 => if v14 = x9 then (bnd (f_Re_times w x1 x9) fun v19 => if v19 = 2 then (f_Re_grows_241 w x1 x3 x4 x5 x6 x8) else (f_Re_grows_245 w x1 x3 x4 x5 x6 x8)) else (f_Re_grows_245 w x1 x3 x4 x5 x6 x8)))))) else (f_Re_grows_245 w x1 x3 x4 x5 x6 x8)) else (f_Re_grows_241 w x1 x3 x4 x5 x6 x8)
theorem t_Re_grows_187 {E : EE} {K : KT} {l : Launch} {H0 : Heap} (k : Kof TB E K l cX11_grows RX11 rm_Re_grows) {w : World} {x1 : Int} {x3 : Int} {x4 : Int} {x5 : Int} {x6 : Int} {x7 : Int} {x8 : Int} {x9 : Int} {s0 : Int} {o2 o10 : Option Value} (r_x1 : R32 x1) (r_x3 : R32 x3) (r_x4 : R32 x4) (r_x5 : R32 x5) (r_x6 : R32 x6) (r_x7 : R32 x7) (r_x8 : R32 x8) (r_x9 : R32 x9) (r_s0 : R32 s0) {out : ((Int × Int) ⊕ Int)} (hf : f_Re_grows_187 w x1 x3 x4 x5 x6 x7 x8 x9 s0 = some out) (hc : (Sum.elim (HW_Re_grows_113 E K H0 w x1 x3 x4 x5 x6) (fun out : Int => RetZ TB E K H0 cX11_grows w out)) out) : Jj K (WdT TB E H0) w 187 [some (rf E.ad 1), some (.int (ii x1)), o2, some (.int (ii x3)), some (.int (ii x4)), some (.int (ii x5)), some (.int (ii x6)), some (.int (ii x7)), some (.int (ii x8)), some (.int (ii x9)), o10] [.int (ii s0)] := by
  unfold f_Re_grows_187 at hf
  have o := k.1
  have g := k.2.1
  have kr := k.2.2.1
  refine J_istore o dX11_grows_187 (Nat.le_of_ble_eq_true rfl) ?_
  refine J_iload o dX11_grows_189 rfl ?_
  refine J_if_ne 241 o dX11_grows_191 (by decide) r_x7 (fun c1 => ?_) (fun c2 => ?_)
  · have hf := ite_f c1 hf
    exact t_Re_grows_241 k r_x1 r_x3 r_x4 r_x5 r_x6 r_x8 hf hc
  · have hf := ite_t c2 hf
    refine J_iload o dX11_grows_194 rfl ?_
    refine J_iconst o dX11_grows_196 ?_
    refine J_icmp_ne 245 o dX11_grows_197 (by decide) r_x5 rl2 (fun c3 => ?_) (fun c4 => ?_)
    · have hf := ite_f c3 hf
      exact t_Re_grows_245 k r_x1 r_x3 r_x4 r_x5 r_x6 r_x8 hf hc
    · have hf := ite_t c4 hf
      refine J_iload o dX11_grows_200 rfl ?_
      refine J_if_eq 245 o dX11_grows_202 (by decide) r_s0 (fun c5 => ?_) (fun c6 => ?_)
      · have hf := ite_t c5 hf
        exact t_Re_grows_245 k r_x1 r_x3 r_x4 r_x5 r_x6 r_x8 hf hc
      · have hf := ite_f c6 hf
        refine J_iload_n o dX11_grows_205 rfl ?_
        refine J_iconst o dX11_grows_206 ?_
        refine J_icmp_eq 245 o dX11_grows_207 (by decide) r_x3 rl3 (fun c7 => ?_) (fun c8 => ?_)
        · have hf := ite_t c7 hf
          exact t_Re_grows_245 k r_x1 r_x3 r_x4 r_x5 r_x6 r_x8 hf hc
        · have hf := ite_f c8 hf
          refine J_iload o dX11_grows_210 rfl ?_
          refine J_if_ge 245 o dX11_grows_212 (by decide) r_x9 (fun c9 => ?_) (fun c10 => ?_)
          · have hf := ite_t c9 hf
            exact t_Re_grows_245 k r_x1 r_x3 r_x4 r_x5 r_x6 r_x8 hf hc
          · have hf := ite_f c10 hf
            refine J_iload o dX11_grows_215 rfl ?_
            refine J_if_eq 245 o dX11_grows_217 (by decide) r_x6 (fun c11 => ?_) (fun c12 => ?_)
            · have hf := ite_t c11 hf
              exact t_Re_grows_245 k r_x1 r_x3 r_x4 r_x5 r_x6 r_x8 hf hc
            · have hf := ite_f c12 hf
              refine J_aload_n o dX11_grows_220 rfl ?_
              refine J_iload_n o dX11_grows_221 rfl ?_
              obtain ⟨v14, e13, hf⟩ := bnd_some hf
              refine J_vI o g kr dX11_grows_222 lkX11_179 ml_Re_lastOfHead vl_Re_lastOfHead ⟨rfl, rfl, Nat.le_of_ble_eq_true rfl, Nat.le_of_ble_eq_true rfl⟩ (c_Re_lastOfHead g.2.1 r_x1 e13) kB_1 rfl ⟨by decide, by decide⟩ rfl rfl c1s_0 (fun q15 => ?_)
              refine J_iload o dX11_grows_225 rfl ?_
              refine J_icmp_ne 245 o dX11_grows_227 (by decide) q15 r_x9 (fun c16 => ?_) (fun c17 => ?_)
              · have hf := ite_f c16 hf
                exact t_Re_grows_245 k r_x1 r_x3 r_x4 r_x5 r_x6 r_x8 hf hc
              · have hf := ite_t c17 hf
                refine J_aload_n o dX11_grows_230 rfl ?_
                refine J_iload_n o dX11_grows_231 rfl ?_
                refine J_iload o dX11_grows_232 rfl ?_
                obtain ⟨v19, e18, hf⟩ := bnd_some hf
                refine J_vI o g kr dX11_grows_234 lkX11_175 ml_Re_times vl_Re_times ⟨rfl, rfl, Nat.le_of_ble_eq_true rfl, Nat.le_of_ble_eq_true rfl⟩ (c_Re_times g.2.1 r_x1 r_x9 e18) kB_1 rfl ⟨by decide, by decide⟩ rfl rfl c1s_0 (fun q20 => ?_)
                refine J_iconst o dX11_grows_237 ?_
                refine J_icmp_ne 245 o dX11_grows_238 (by decide) q20 rl2 (fun c21 => ?_) (fun c22 => ?_)
                · have hf := ite_f c21 hf
                  exact t_Re_grows_245 k r_x1 r_x3 r_x4 r_x5 r_x6 r_x8 hf hc
                · have hf := ite_t c22 hf
                  exact t_Re_grows_241 k r_x1 r_x3 r_x4 r_x5 r_x6 r_x8 hf hc
noncomputable def f_Re_grows_186 (w : World) (x1 : Int) (x3 : Int) (x4 : Int) (x5 : Int) (x6 : Int) (x7 : Int) (x8 : Int) (x9 : Int) : Option ((Int × Int) ⊕ Int) :=
  f_Re_grows_187 w x1 x3 x4 x5 x6 x7 x8 x9 0
theorem t_Re_grows_186 {E : EE} {K : KT} {l : Launch} {H0 : Heap} (k : Kof TB E K l cX11_grows RX11 rm_Re_grows) {w : World} {x1 : Int} {x3 : Int} {x4 : Int} {x5 : Int} {x6 : Int} {x7 : Int} {x8 : Int} {x9 : Int} {o2 o10 : Option Value} (r_x1 : R32 x1) (r_x3 : R32 x3) (r_x4 : R32 x4) (r_x5 : R32 x5) (r_x6 : R32 x6) (r_x7 : R32 x7) (r_x8 : R32 x8) (r_x9 : R32 x9) {out : ((Int × Int) ⊕ Int)} (hf : f_Re_grows_186 w x1 x3 x4 x5 x6 x7 x8 x9 = some out) (hc : (Sum.elim (HW_Re_grows_113 E K H0 w x1 x3 x4 x5 x6) (fun out : Int => RetZ TB E K H0 cX11_grows w out)) out) : Jj K (WdT TB E H0) w 186 [some (rf E.ad 1), some (.int (ii x1)), o2, some (.int (ii x3)), some (.int (ii x4)), some (.int (ii x5)), some (.int (ii x6)), some (.int (ii x7)), some (.int (ii x8)), some (.int (ii x9)), o10] [] := by
  unfold f_Re_grows_186 at hf
  have o := k.1
  have g := k.2.1
  have kr := k.2.2.1
  refine J_iconst o dX11_grows_186 ?_
  exact t_Re_grows_187 k r_x1 r_x3 r_x4 r_x5 r_x6 r_x7 r_x8 r_x9 rl0 hf hc
noncomputable def f_Re_grows_182 (w : World) (x1 : Int) (x3 : Int) (x4 : Int) (x5 : Int) (x6 : Int) (x7 : Int) (x8 : Int) (x9 : Int) : Option ((Int × Int) ⊕ Int) :=
  f_Re_grows_187 w x1 x3 x4 x5 x6 x7 x8 x9 1
theorem t_Re_grows_182 {E : EE} {K : KT} {l : Launch} {H0 : Heap} (k : Kof TB E K l cX11_grows RX11 rm_Re_grows) {w : World} {x1 : Int} {x3 : Int} {x4 : Int} {x5 : Int} {x6 : Int} {x7 : Int} {x8 : Int} {x9 : Int} {o2 o10 : Option Value} (r_x1 : R32 x1) (r_x3 : R32 x3) (r_x4 : R32 x4) (r_x5 : R32 x5) (r_x6 : R32 x6) (r_x7 : R32 x7) (r_x8 : R32 x8) (r_x9 : R32 x9) {out : ((Int × Int) ⊕ Int)} (hf : f_Re_grows_182 w x1 x3 x4 x5 x6 x7 x8 x9 = some out) (hc : (Sum.elim (HW_Re_grows_113 E K H0 w x1 x3 x4 x5 x6) (fun out : Int => RetZ TB E K H0 cX11_grows w out)) out) : Jj K (WdT TB E H0) w 182 [some (rf E.ad 1), some (.int (ii x1)), o2, some (.int (ii x3)), some (.int (ii x4)), some (.int (ii x5)), some (.int (ii x6)), some (.int (ii x7)), some (.int (ii x8)), some (.int (ii x9)), o10] [] := by
  unfold f_Re_grows_182 at hf
  have o := k.1
  have g := k.2.1
  have kr := k.2.2.1
  refine J_iconst o dX11_grows_182 ?_
  refine J_goto 187 o dX11_grows_183 (by decide) ?_
  exact t_Re_grows_187 k r_x1 r_x3 r_x4 r_x5 r_x6 r_x7 r_x8 r_x9 rl1 hf hc
noncomputable def f_Re_grows_113B (w : World) (x1 : Int) (x3 : Int) (x4 : Int) (x5 : Int) (x6 : Int) (x7 : Int) (x8 : Int) : Option ((Int × Int) ⊕ Int) :=
  gd (0 ≤ x1 ∧ x1 < 19) (if (wr ((wr (5 * x1)) + (w 16 x1.toNat))) ≤ x8 then (gd (x7 = 0 ∨ x7 = 1) (some (Sum.inr x7))) else (gd (0 ≤ wr (3 * x8) ∧ wr (3 * x8) < 285) (bl (w 19 (wr (3 * x8)).toNat) fun n8 => gd (0 ≤ x8 ∧ x8 < 95) (if (w 17 x8.toNat) = 3 then (gd (0 ≤ wr ((wr (3 * x8)) + 1) ∧ wr ((wr (3 * x8)) + 1) < 285) (if (w 19 (wr ((wr (3 * x8)) + 1)).toNat) = x4 then (f_Re_grows_182 w x1 x3 x4 x5 x6 x7 x8 n8) else (gd (0 ≤ wr ((wr (3 * x8)) + 2) ∧ wr ((wr (3 * x8)) + 2) < 285) (if (w 19 (wr ((wr (3 * x8)) + 2)).toNat) = x4 then (f_Re_grows_182 w x1 x3 x4 x5 x6 x7 x8 n8) else (f_Re_grows_186 w x1 x3 x4 x5 x6 x7 x8 n8))))) else (f_Re_grows_186 w x1 x3 x4 x5 x6 x7 x8 n8)))))
theorem t_Re_grows_113B {E : EE} {K : KT} {l : Launch} {H0 : Heap} (k : Kof TB E K l cX11_grows RX11 rm_Re_grows) {w : World} {x1 : Int} {x3 : Int} {x4 : Int} {x5 : Int} {x6 : Int} {x7 : Int} {x8 : Int} {o2 o9 o10 : Option Value} (r_x1 : R32 x1) (r_x3 : R32 x3) (r_x4 : R32 x4) (r_x5 : R32 x5) (r_x6 : R32 x6) (r_x7 : R32 x7) (r_x8 : R32 x8) {out : ((Int × Int) ⊕ Int)} (hf : f_Re_grows_113B w x1 x3 x4 x5 x6 x7 x8 = some out) (hc : (Sum.elim (HW_Re_grows_113 E K H0 w x1 x3 x4 x5 x6) (fun out : Int => RetZ TB E K H0 cX11_grows w out)) out) : Jj K (WdT TB E H0) w 113 [some (rf E.ad 1), some (.int (ii x1)), o2, some (.int (ii x3)), some (.int (ii x4)), some (.int (ii x5)), some (.int (ii x6)), some (.int (ii x7)), some (.int (ii x8)), o9, o10] [] := by
  unfold f_Re_grows_113B at hf
  have o := k.1
  have g := k.2.1
  have kr := k.2.2.1
  refine J_iload o dX11_grows_113 rfl ?_
  refine J_iconst o dX11_grows_115 ?_
  refine J_iload_n o dX11_grows_116 rfl ?_
  refine J_imul o dX11_grows_117 ?_
  refine J_aload_n o dX11_grows_118 rfl ?_
  refine J_getF (true, 16) o g dX11_grows_119 flX11_53 kB_1 rfl rfl rfl ?_
  refine J_iload_n o dX11_grows_122 rfl ?_
  obtain ⟨g1, hf⟩ := gd_some hf
  refine J_iald o g dX11_grows_123 kB_16 r_x1 zB_16 g1 (fun q2 => ?_)
  refine J_iadd o dX11_grows_124 ?_
  refine J_icmp_ge 254 o dX11_grows_125 (by decide) r_x8 (R_wr _) (fun c3 => ?_) (fun c4 => ?_)
  · have hf := ite_t c3 hf
    refine J_iload o dX11_grows_254 rfl ?_
    obtain ⟨g5, hf⟩ := gd_some hf
    have hf := some_inj hf
    subst hf
    exact hc _ _ g5 dX11_grows_256
  · have hf := ite_f c4 hf
    refine J_aload_n o dX11_grows_128 rfl ?_
    refine J_getF (true, 19) o g dX11_grows_129 flX11_62 kB_1 rfl rfl rfl ?_
    refine J_iconst o dX11_grows_132 ?_
    refine J_iload o dX11_grows_133 rfl ?_
    refine J_imul o dX11_grows_135 ?_
    obtain ⟨g6, hf⟩ := gd_some hf
    refine J_iald o g dX11_grows_136 kB_19 (R_wr _) zB_19 g6 (fun q7 => ?_)
    refine J_istore o dX11_grows_137 (Nat.le_of_ble_eq_true rfl) ?_
    have hf := bl_out hf
    refine J_aload_n o dX11_grows_139 rfl ?_
    refine J_getF (true, 17) o g dX11_grows_140 flX11_56 kB_1 rfl rfl rfl ?_
    refine J_iload o dX11_grows_143 rfl ?_
    obtain ⟨g9, hf⟩ := gd_some hf
    refine J_iald o g dX11_grows_145 kB_17 r_x8 zB_17 g9 (fun q10 => ?_)
    refine J_iconst o dX11_grows_146 ?_
    refine J_icmp_ne 186 o dX11_grows_147 (by decide) q10 rl3 (fun c11 => ?_) (fun c12 => ?_)
    · have hf := ite_f c11 hf
      exact t_Re_grows_186 k r_x1 r_x3 r_x4 r_x5 r_x6 r_x7 r_x8 q7 hf hc
    · have hf := ite_t c12 hf
      refine J_aload_n o dX11_grows_150 rfl ?_
      refine J_getF (true, 19) o g dX11_grows_151 flX11_62 kB_1 rfl rfl rfl ?_
      refine J_iconst o dX11_grows_154 ?_
      refine J_iload o dX11_grows_155 rfl ?_
      refine J_imul o dX11_grows_157 ?_
      refine J_iconst o dX11_grows_158 ?_
      refine J_iadd o dX11_grows_159 ?_
      obtain ⟨g13, hf⟩ := gd_some hf
      refine J_iald o g dX11_grows_160 kB_19 (R_wr _) zB_19 g13 (fun q14 => ?_)
      refine J_iload o dX11_grows_161 rfl ?_
      refine J_icmp_eq 182 o dX11_grows_163 (by decide) q14 r_x4 (fun c15 => ?_) (fun c16 => ?_)
      · have hf := ite_t c15 hf
        exact t_Re_grows_182 k r_x1 r_x3 r_x4 r_x5 r_x6 r_x7 r_x8 q7 hf hc
      · have hf := ite_f c16 hf
        refine J_aload_n o dX11_grows_166 rfl ?_
        refine J_getF (true, 19) o g dX11_grows_167 flX11_62 kB_1 rfl rfl rfl ?_
        refine J_iconst o dX11_grows_170 ?_
        refine J_iload o dX11_grows_171 rfl ?_
        refine J_imul o dX11_grows_173 ?_
        refine J_iconst o dX11_grows_174 ?_
        refine J_iadd o dX11_grows_175 ?_
        obtain ⟨g17, hf⟩ := gd_some hf
        refine J_iald o g dX11_grows_176 kB_19 (R_wr _) zB_19 g17 (fun q18 => ?_)
        refine J_iload o dX11_grows_177 rfl ?_
        refine J_icmp_ne 186 o dX11_grows_179 (by decide) q18 r_x4 (fun c19 => ?_) (fun c20 => ?_)
        · have hf := ite_f c19 hf
          exact t_Re_grows_186 k r_x1 r_x3 r_x4 r_x5 r_x6 r_x7 r_x8 q7 hf hc
        · have hf := ite_t c20 hf
          exact t_Re_grows_182 k r_x1 r_x3 r_x4 r_x5 r_x6 r_x7 r_x8 q7 hf hc
noncomputable def f_Re_grows_113 (w : World) (x1 : Int) (x3 : Int) (x4 : Int) (x5 : Int) (x6 : Int) (x7 : Int) (x8 : Int) : Option Int :=
  lp (fun z : (Int × Int) => f_Re_grows_113B w x1 x3 x4 x5 x6 z.1 z.2) (x7, x8)
theorem t_Re_grows_113 {E : EE} {K : KT} {l : Launch} {H0 : Heap} (k : Kof TB E K l cX11_grows RX11 rm_Re_grows) {w : World} {x1 : Int} {x3 : Int} {x4 : Int} {x5 : Int} {x6 : Int} {x7 : Int} {x8 : Int} (r_x1 : R32 x1) (r_x3 : R32 x3) (r_x4 : R32 x4) (r_x5 : R32 x5) (r_x6 : R32 x6) {out : Int} (hf : f_Re_grows_113 w x1 x3 x4 x5 x6 x7 x8 = some out) (hc : (fun out : Int => RetZ TB E K H0 cX11_grows w out) out) : HW_Re_grows_113 E K H0 w x1 x3 x4 x5 x6 (x7, x8) := by
  unfold f_Re_grows_113 at hf
  refine lp_ind (P := HW_Re_grows_113 E K H0 w x1 x3 x4 x5 x6) hf ?_
  intro z o hs h1 h2
  intro r_x7 r_x8
  intro o2 o9 o10
  refine t_Re_grows_113B k r_x1 r_x3 r_x4 r_x5 r_x6 r_x7 r_x8 hs ?_
  cases o with
  | inl z' => exact h1 z' rfl
  | inr r' => rw [h2 r' rfl]; exact hc
noncomputable def f_Re_grows_106 (w : World) (x1 : Int) (x3 : Int) (x4 : Int) (x5 : Int) (x6 : Int) (s0 : Int) : Option Int :=
  bl (wr (5 * x1)) fun n1 => f_Re_grows_113 w x1 x3 x4 x5 x6 s0 n1
theorem t_Re_grows_106 {E : EE} {K : KT} {l : Launch} {H0 : Heap} (k : Kof TB E K l cX11_grows RX11 rm_Re_grows) {w : World} {x1 : Int} {x3 : Int} {x4 : Int} {x5 : Int} {x6 : Int} {s0 : Int} {o2 o7 o8 o9 o10 : Option Value} (r_x1 : R32 x1) (r_x3 : R32 x3) (r_x4 : R32 x4) (r_x5 : R32 x5) (r_x6 : R32 x6) (r_s0 : R32 s0) {out : Int} (hf : f_Re_grows_106 w x1 x3 x4 x5 x6 s0 = some out) (hc : (fun out : Int => RetZ TB E K H0 cX11_grows w out) out) : Jj K (WdT TB E H0) w 106 [some (rf E.ad 1), some (.int (ii x1)), o2, some (.int (ii x3)), some (.int (ii x4)), some (.int (ii x5)), some (.int (ii x6)), o7, o8, o9, o10] [.int (ii s0)] := by
  unfold f_Re_grows_106 at hf
  have o := k.1
  have g := k.2.1
  have kr := k.2.2.1
  refine J_istore o dX11_grows_106 (Nat.le_of_ble_eq_true rfl) ?_
  refine J_iconst o dX11_grows_108 ?_
  refine J_iload_n o dX11_grows_109 rfl ?_
  refine J_imul o dX11_grows_110 ?_
  refine J_istore o dX11_grows_111 (Nat.le_of_ble_eq_true rfl) ?_
  have hf := bl_out hf
  exact (t_Re_grows_113 k r_x1 r_x3 r_x4 r_x5 r_x6 hf hc) r_s0 (R_wr _) _ _ _
noncomputable def f_Re_grows_101 (w : World) (x1 : Int) (x3 : Int) (x4 : Int) (x5 : Int) (x6 : Int) : Option Int :=
  f_Re_grows_106 w x1 x3 x4 x5 x6 1
theorem t_Re_grows_101 {E : EE} {K : KT} {l : Launch} {H0 : Heap} (k : Kof TB E K l cX11_grows RX11 rm_Re_grows) {w : World} {x1 : Int} {x3 : Int} {x4 : Int} {x5 : Int} {x6 : Int} {o2 o7 o8 o9 o10 : Option Value} (r_x1 : R32 x1) (r_x3 : R32 x3) (r_x4 : R32 x4) (r_x5 : R32 x5) (r_x6 : R32 x6) {out : Int} (hf : f_Re_grows_101 w x1 x3 x4 x5 x6 = some out) (hc : (fun out : Int => RetZ TB E K H0 cX11_grows w out) out) : Jj K (WdT TB E H0) w 101 [some (rf E.ad 1), some (.int (ii x1)), o2, some (.int (ii x3)), some (.int (ii x4)), some (.int (ii x5)), some (.int (ii x6)), o7, o8, o9, o10] [] := by
  unfold f_Re_grows_101 at hf
  have o := k.1
  have g := k.2.1
  have kr := k.2.2.1
  refine J_iconst o dX11_grows_101 ?_
  refine J_goto 106 o dX11_grows_102 (by decide) ?_
  exact t_Re_grows_106 k r_x1 r_x3 r_x4 r_x5 r_x6 rl1 hf hc
noncomputable def f_Re_grows_105 (w : World) (x1 : Int) (x3 : Int) (x4 : Int) (x5 : Int) (x6 : Int) : Option Int :=
  f_Re_grows_106 w x1 x3 x4 x5 x6 0
theorem t_Re_grows_105 {E : EE} {K : KT} {l : Launch} {H0 : Heap} (k : Kof TB E K l cX11_grows RX11 rm_Re_grows) {w : World} {x1 : Int} {x3 : Int} {x4 : Int} {x5 : Int} {x6 : Int} {o2 o7 o8 o9 o10 : Option Value} (r_x1 : R32 x1) (r_x3 : R32 x3) (r_x4 : R32 x4) (r_x5 : R32 x5) (r_x6 : R32 x6) {out : Int} (hf : f_Re_grows_105 w x1 x3 x4 x5 x6 = some out) (hc : (fun out : Int => RetZ TB E K H0 cX11_grows w out) out) : Jj K (WdT TB E H0) w 105 [some (rf E.ad 1), some (.int (ii x1)), o2, some (.int (ii x3)), some (.int (ii x4)), some (.int (ii x5)), some (.int (ii x6)), o7, o8, o9, o10] [] := by
  unfold f_Re_grows_105 at hf
  have o := k.1
  have g := k.2.1
  have kr := k.2.2.1
  refine J_iconst o dX11_grows_105 ?_
  exact t_Re_grows_106 k r_x1 r_x3 r_x4 r_x5 r_x6 rl0 hf hc
noncomputable def f_Re_grows_72 (w : World) (x1 : Int) (x3 : Int) (x4 : Int) (x5 : Int) (s0 : Int) : Option Int :=
  if x5 = 1 then (f_Re_grows_101 w x1 x3 x4 x5 s0) else (if x5 = 2 then (if s0 = 0 then (f_Re_grows_105 w x1 x3 x4 x5 s0) else (bnd (f_Re_lastOfHead w x1) fun v8 => if v8 = x4 then (f_Re_grows_101 w x1 x3 x4 x5 s0) else (f_Re_grows_105 w x1 x3 x4 x5 s0))) else (f_Re_grows_105 w x1 x3 x4 x5 s0))
theorem t_Re_grows_72 {E : EE} {K : KT} {l : Launch} {H0 : Heap} (k : Kof TB E K l cX11_grows RX11 rm_Re_grows) {w : World} {x1 : Int} {x3 : Int} {x4 : Int} {x5 : Int} {s0 : Int} {o2 o6 o7 o8 o9 o10 : Option Value} (r_x1 : R32 x1) (r_x3 : R32 x3) (r_x4 : R32 x4) (r_x5 : R32 x5) (r_s0 : R32 s0) {out : Int} (hf : f_Re_grows_72 w x1 x3 x4 x5 s0 = some out) (hc : (fun out : Int => RetZ TB E K H0 cX11_grows w out) out) : Jj K (WdT TB E H0) w 72 [some (rf E.ad 1), some (.int (ii x1)), o2, some (.int (ii x3)), some (.int (ii x4)), some (.int (ii x5)), o6, o7, o8, o9, o10] [.int (ii s0)] := by
  unfold f_Re_grows_72 at hf
  have o := k.1
  have g := k.2.1
  have kr := k.2.2.1
  refine J_istore o dX11_grows_72 (Nat.le_of_ble_eq_true rfl) ?_
  refine J_iload o dX11_grows_74 rfl ?_
  refine J_iconst o dX11_grows_76 ?_
  refine J_icmp_eq 101 o dX11_grows_77 (by decide) r_x5 rl1 (fun c1 => ?_) (fun c2 => ?_)
  · have hf := ite_t c1 hf
    exact t_Re_grows_101 k r_x1 r_x3 r_x4 r_x5 r_s0 hf hc
  · have hf := ite_f c2 hf
    refine J_iload o dX11_grows_80 rfl ?_
    refine J_iconst o dX11_grows_82 ?_
    refine J_icmp_ne 105 o dX11_grows_83 (by decide) r_x5 rl2 (fun c3 => ?_) (fun c4 => ?_)
    · have hf := ite_f c3 hf
      exact t_Re_grows_105 k r_x1 r_x3 r_x4 r_x5 r_s0 hf hc
    · have hf := ite_t c4 hf
      refine J_iload o dX11_grows_86 rfl ?_
      refine J_if_eq 105 o dX11_grows_88 (by decide) r_s0 (fun c5 => ?_) (fun c6 => ?_)
      · have hf := ite_t c5 hf
        exact t_Re_grows_105 k r_x1 r_x3 r_x4 r_x5 r_s0 hf hc
      · have hf := ite_f c6 hf
        refine J_aload_n o dX11_grows_91 rfl ?_
        refine J_iload_n o dX11_grows_92 rfl ?_
        obtain ⟨v8, e7, hf⟩ := bnd_some hf
        refine J_vI o g kr dX11_grows_93 lkX11_179 ml_Re_lastOfHead vl_Re_lastOfHead ⟨rfl, rfl, Nat.le_of_ble_eq_true rfl, Nat.le_of_ble_eq_true rfl⟩ (c_Re_lastOfHead g.2.1 r_x1 e7) kB_1 rfl ⟨by decide, by decide⟩ rfl rfl c1s_0 (fun q9 => ?_)
        refine J_iload o dX11_grows_96 rfl ?_
        refine J_icmp_ne 105 o dX11_grows_98 (by decide) q9 r_x4 (fun c10 => ?_) (fun c11 => ?_)
        · have hf := ite_f c10 hf
          exact t_Re_grows_105 k r_x1 r_x3 r_x4 r_x5 r_s0 hf hc
        · have hf := ite_t c11 hf
          exact t_Re_grows_101 k r_x1 r_x3 r_x4 r_x5 r_s0 hf hc
noncomputable def f_Re_grows (w : World) (x1 : Int) (x2 : Int) : Option Int :=
  gd (0 ≤ x2 ∧ x2 < 95) (gd (0 ≤ w 18 x2.toNat ∧ w 18 x2.toNat < 10) (bl (w 4 (w 18 x2.toNat).toNat) fun n5 => gd (0 ≤ x2 ∧ x2 < 95) (gd (0 ≤ w 18 x2.toNat ∧ w 18 x2.toNat < 10) (gd (0 ≤ wr ((wr ((wr (3 * x2)) + (w 3 (w 18 x2.toNat).toNat))) - 1) ∧ wr ((wr ((wr (3 * x2)) + (w 3 (w 18 x2.toNat).toNat))) - 1) < 285) (bl (w 19 (wr ((wr ((wr (3 * x2)) + (w 3 (w 18 x2.toNat).toNat))) - 1)).toNat) fun n12 => if n12 < 0 then (bnd (f_Re_times w x1 n12) fun v16 => gd (0 ≤ x1 ∧ x1 < 19) (gd (0 ≤ w 14 x1.toNat ∧ w 14 x1.toNat < 10) (if (w 4 (w 14 x1.toNat).toNat) = n5 then (f_Re_grows_72 w x1 n5 n12 v16 1) else (f_Re_grows_72 w x1 n5 n12 v16 0)))) else (some 0))))))
theorem t_Re_grows_0 {E : EE} {K : KT} {l : Launch} {H0 : Heap} (k : Kof TB E K l cX11_grows RX11 rm_Re_grows) {w : World} {x1 : Int} {x2 : Int} {o3 o4 o5 o6 o7 o8 o9 o10 : Option Value} (r_x1 : R32 x1) (r_x2 : R32 x2) {out : Int} (hf : f_Re_grows w x1 x2 = some out) (hc : (fun out : Int => RetZ TB E K H0 cX11_grows w out) out) : Jj K (WdT TB E H0) w 0 [some (rf E.ad 1), some (.int (ii x1)), some (.int (ii x2)), o3, o4, o5, o6, o7, o8, o9, o10] [] := by
  unfold f_Re_grows at hf
  have o := k.1
  have g := k.2.1
  have kr := k.2.2.1
  refine J_aload_n o dX11_grows_0 rfl ?_
  refine J_getF (true, 4) o g dX11_grows_1 flX11_17 kB_1 rfl rfl rfl ?_
  refine J_aload_n o dX11_grows_4 rfl ?_
  refine J_getF (true, 18) o g dX11_grows_5 flX11_59 kB_1 rfl rfl rfl ?_
  refine J_iload_n o dX11_grows_8 rfl ?_
  obtain ⟨g1, hf⟩ := gd_some hf
  refine J_iald o g dX11_grows_9 kB_18 r_x2 zB_18 g1 (fun q2 => ?_)
  obtain ⟨g3, hf⟩ := gd_some hf
  refine J_iald o g dX11_grows_10 kB_4 q2 zB_4 g3 (fun q4 => ?_)
  refine J_istore_n o dX11_grows_11 (Nat.le_of_ble_eq_true rfl) ?_
  have hf := bl_out hf
  refine J_aload_n o dX11_grows_12 rfl ?_
  refine J_getF (true, 19) o g dX11_grows_13 flX11_62 kB_1 rfl rfl rfl ?_
  refine J_iconst o dX11_grows_16 ?_
  refine J_iload_n o dX11_grows_17 rfl ?_
  refine J_imul o dX11_grows_18 ?_
  refine J_aload_n o dX11_grows_19 rfl ?_
  refine J_getF (true, 3) o g dX11_grows_20 flX11_13 kB_1 rfl rfl rfl ?_
  refine J_aload_n o dX11_grows_23 rfl ?_
  refine J_getF (true, 18) o g dX11_grows_24 flX11_59 kB_1 rfl rfl rfl ?_
  refine J_iload_n o dX11_grows_27 rfl ?_
  obtain ⟨g6, hf⟩ := gd_some hf
  refine J_iald o g dX11_grows_28 kB_18 r_x2 zB_18 g6 (fun q7 => ?_)
  obtain ⟨g8, hf⟩ := gd_some hf
  refine J_iald o g dX11_grows_29 kB_3 q7 zB_3 g8 (fun q9 => ?_)
  refine J_iadd o dX11_grows_30 ?_
  refine J_iconst o dX11_grows_31 ?_
  refine J_isub o dX11_grows_32 ?_
  obtain ⟨g10, hf⟩ := gd_some hf
  refine J_iald o g dX11_grows_33 kB_19 (R_wr _) zB_19 g10 (fun q11 => ?_)
  refine J_istore o dX11_grows_34 (Nat.le_of_ble_eq_true rfl) ?_
  have hf := bl_out hf
  refine J_iload o dX11_grows_36 rfl ?_
  refine J_if_lt 43 o dX11_grows_38 (by decide) q11 (fun c13 => ?_) (fun c14 => ?_)
  · have hf := ite_t c13 hf
    refine J_aload_n o dX11_grows_43 rfl ?_
    refine J_iload_n o dX11_grows_44 rfl ?_
    refine J_iload o dX11_grows_45 rfl ?_
    obtain ⟨v16, e15, hf⟩ := bnd_some hf
    refine J_vI o g kr dX11_grows_47 lkX11_175 ml_Re_times vl_Re_times ⟨rfl, rfl, Nat.le_of_ble_eq_true rfl, Nat.le_of_ble_eq_true rfl⟩ (c_Re_times g.2.1 r_x1 q11 e15) kB_1 rfl ⟨by decide, by decide⟩ rfl rfl c1s_0 (fun q17 => ?_)
    refine J_istore o dX11_grows_50 (Nat.le_of_ble_eq_true rfl) ?_
    refine J_aload_n o dX11_grows_52 rfl ?_
    refine J_getF (true, 4) o g dX11_grows_53 flX11_17 kB_1 rfl rfl rfl ?_
    refine J_aload_n o dX11_grows_56 rfl ?_
    refine J_getF (true, 14) o g dX11_grows_57 flX11_47 kB_1 rfl rfl rfl ?_
    refine J_iload_n o dX11_grows_60 rfl ?_
    obtain ⟨g18, hf⟩ := gd_some hf
    refine J_iald o g dX11_grows_61 kB_14 r_x1 zB_14 g18 (fun q19 => ?_)
    obtain ⟨g20, hf⟩ := gd_some hf
    refine J_iald o g dX11_grows_62 kB_4 q19 zB_4 g20 (fun q21 => ?_)
    refine J_iload_n o dX11_grows_63 rfl ?_
    refine J_icmp_ne 71 o dX11_grows_64 (by decide) q21 q4 (fun c22 => ?_) (fun c23 => ?_)
    · have hf := ite_f c22 hf
      refine J_iconst o dX11_grows_71 ?_
      exact t_Re_grows_72 k r_x1 q4 q11 q17 rl0 hf hc
    · have hf := ite_t c23 hf
      refine J_iconst o dX11_grows_67 ?_
      refine J_goto 72 o dX11_grows_68 (by decide) ?_
      exact t_Re_grows_72 k r_x1 q4 q11 q17 rl1 hf hc
  · have hf := ite_f c14 hf
    refine J_iconst o dX11_grows_41 ?_
    have hf := some_inj hf
    subst hf
    exact hc _ _ (Or.inl rfl) dX11_grows_42
theorem c_Re_grows {E : EE} {l : Launch} (hI : Inj TB E) {w : World} {x1 : Int} {x2 : Int} (r_x1 : R32 x1) (r_x2 : R32 x2) {out : Int} (hf : f_Re_grows w x1 x2 = some out) : ConI TB E l yX11_grows (WS yX11_grows cX11_grows 11 (some .boolean)) rm_Re_grows [rf E.ad 1, .int (ii x1), .int (ii x2)] w w out :=
  con_Z (by decide +kernel) rfl (Nat.le_of_ble_eq_true rfl) (c1s_r (c1s_i (c1s_i c1s_0 (Nat.le_of_ble_eq_true rfl)) (Nat.le_of_ble_eq_true rfl)) (Nat.le_of_ble_eq_true rfl)).1 ⟨rfl, rfl⟩ hI TnB (fun K H0 k hret => t_Re_grows_0 k r_x1 r_x2 hf hret)
abbrev rm_Re_layer : Room := { frames := 4, cells := 0, slots := 0, locals := 100 }
def HW_Re_layer_2 (E : EE) (K : KT) (H0 : Heap)  : (World × Int) → Prop := fun z => R32 z.2 → ∀ o2 o3 o4 o5 o6 o7 : Option Value, Jj K (WdT TB E H0) z.1 2 [some (rf E.ad 1), some (.int (ii z.2)), o2, o3, o4, o5, o6, o7] []
def HW_Re_layer_25 (E : EE) (K : KT) (H0 : Heap)  : (World × Int × Int) → Prop := fun z => R32 z.2.1 → R32 z.2.2 → ∀ o3 o4 o5 o6 o7 : Option Value, Jj K (WdT TB E H0) z.1 25 [some (rf E.ad 1), some (.int (ii z.2.1)), some (.int (ii z.2.2)), o3, o4, o5, o6, o7] []
def HW_Re_layer_37 (E : EE) (K : KT) (H0 : Heap)  : (World × Int × Int × Int) → Prop := fun z => R32 z.2.1 → R32 z.2.2.1 → R32 z.2.2.2 → ∀ o4 o5 o6 o7 : Option Value, Jj K (WdT TB E H0) z.1 37 [some (rf E.ad 1), some (.int (ii z.2.1)), some (.int (ii z.2.2.1)), some (.int (ii z.2.2.2)), o4, o5, o6, o7] []
def HW_Re_layer_50 (E : EE) (K : KT) (H0 : Heap) (x3 : Int) : (World × Int × Int × Int) → Prop := fun z => R32 z.2.1 → R32 z.2.2.1 → R32 z.2.2.2 → ∀ o5 o6 o7 : Option Value, Jj K (WdT TB E H0) z.1 50 [some (rf E.ad 1), some (.int (ii z.2.1)), some (.int (ii z.2.2.1)), some (.int (ii x3)), some (.int (ii z.2.2.2)), o5, o6, o7] []
noncomputable def f_Re_layer_224 (w : World) (x1 : Int) (x2 : Int) (x3 : Int) : Option ((World × Int × Int × Int) ⊕ ((World × Int × Int) ⊕ (World × Int))) :=
  bl (wr (x3 + 1)) fun n1 => some (Sum.inl (w, x1, x2, n1))
theorem t_Re_layer_224 {E : EE} {K : KT} {l : Launch} {H0 : Heap} (k : Kof TB E K l cX11_layer RX11 rm_Re_layer) {w : World} {x1 : Int} {x2 : Int} {x3 : Int} {o4 o5 o6 o7 : Option Value} (r_x1 : R32 x1) (r_x2 : R32 x2) (r_x3 : R32 x3) {out : ((World × Int × Int × Int) ⊕ ((World × Int × Int) ⊕ (World × Int)))} (hf : f_Re_layer_224 w x1 x2 x3 = some out) (hc : (Sum.elim (HW_Re_layer_37 E K H0 ) (Sum.elim (HW_Re_layer_25 E K H0 ) (fun out : (World × Int) => RetZ TB E K H0 cX11_layer out.1 out.2))) out) : Jj K (WdT TB E H0) w 224 [some (rf E.ad 1), some (.int (ii x1)), some (.int (ii x2)), some (.int (ii x3)), o4, o5, o6, o7] [] := by
  unfold f_Re_layer_224 at hf
  have o := k.1
  have g := k.2.1
  have kr := k.2.2.1
  have hf := bl_out hf
  refine J_iinc o dX11_layer_224 rfl ?_
  refine J_goto 37 o dX11_layer_227 (by decide) ?_
  have hf := some_inj hf
  subst hf
  exact hc r_x1 r_x2 (R_wr _) _ _ _ _
noncomputable def f_Re_layer_218 (w : World) (x1 : Int) (x2 : Int) (x3 : Int) (x4 : Int) : Option ((World × Int × Int × Int) ⊕ ((World × Int × Int × Int) ⊕ ((World × Int × Int) ⊕ (World × Int)))) :=
  bl (wr (x4 + 1)) fun n1 => some (Sum.inl (w, x1, x2, n1))
theorem t_Re_layer_218 {E : EE} {K : KT} {l : Launch} {H0 : Heap} (k : Kof TB E K l cX11_layer RX11 rm_Re_layer) {w : World} {x1 : Int} {x2 : Int} {x3 : Int} {x4 : Int} {o5 o6 o7 : Option Value} (r_x1 : R32 x1) (r_x2 : R32 x2) (r_x3 : R32 x3) (r_x4 : R32 x4) {out : ((World × Int × Int × Int) ⊕ ((World × Int × Int × Int) ⊕ ((World × Int × Int) ⊕ (World × Int))))} (hf : f_Re_layer_218 w x1 x2 x3 x4 = some out) (hc : (Sum.elim (HW_Re_layer_50 E K H0 x3) (Sum.elim (HW_Re_layer_37 E K H0 ) (Sum.elim (HW_Re_layer_25 E K H0 ) (fun out : (World × Int) => RetZ TB E K H0 cX11_layer out.1 out.2)))) out) : Jj K (WdT TB E H0) w 218 [some (rf E.ad 1), some (.int (ii x1)), some (.int (ii x2)), some (.int (ii x3)), some (.int (ii x4)), o5, o6, o7] [] := by
  unfold f_Re_layer_218 at hf
  have o := k.1
  have g := k.2.1
  have kr := k.2.2.1
  have hf := bl_out hf
  refine J_iinc o dX11_layer_218 rfl ?_
  refine J_goto 50 o dX11_layer_221 (by decide) ?_
  have hf := some_inj hf
  subst hf
  exact hc r_x1 r_x2 (R_wr _) _ _ _
noncomputable def f_Re_layer_217 (w : World) (x1 : Int) (x3 : Int) (x4 : Int) (s0 : Int) : Option ((World × Int × Int × Int) ⊕ ((World × Int × Int × Int) ⊕ ((World × Int × Int) ⊕ (World × Int)))) :=
  f_Re_layer_218 w x1 s0 x3 x4
theorem t_Re_layer_217 {E : EE} {K : KT} {l : Launch} {H0 : Heap} (k : Kof TB E K l cX11_layer RX11 rm_Re_layer) {w : World} {x1 : Int} {x3 : Int} {x4 : Int} {s0 : Int} {o2 o5 o6 o7 : Option Value} (r_x1 : R32 x1) (r_x3 : R32 x3) (r_x4 : R32 x4) (r_s0 : R32 s0) {out : ((World × Int × Int × Int) ⊕ ((World × Int × Int × Int) ⊕ ((World × Int × Int) ⊕ (World × Int))))} (hf : f_Re_layer_217 w x1 x3 x4 s0 = some out) (hc : (Sum.elim (HW_Re_layer_50 E K H0 x3) (Sum.elim (HW_Re_layer_37 E K H0 ) (Sum.elim (HW_Re_layer_25 E K H0 ) (fun out : (World × Int) => RetZ TB E K H0 cX11_layer out.1 out.2)))) out) : Jj K (WdT TB E H0) w 217 [some (rf E.ad 1), some (.int (ii x1)), o2, some (.int (ii x3)), some (.int (ii x4)), o5, o6, o7] [.int (ii s0)] := by
  unfold f_Re_layer_217 at hf
  have o := k.1
  have g := k.2.1
  have kr := k.2.2.1
  refine J_istore_n o dX11_layer_217 (Nat.le_of_ble_eq_true rfl) ?_
  exact t_Re_layer_218 k r_x1 r_s0 r_x3 r_x4 hf hc
noncomputable def f_Re_layer_172 (w : World) (x1 : Int) (x2 : Int) (x3 : Int) (x4 : Int) (s0 : Int) : Option ((World × Int × Int × Int) ⊕ ((World × Int × Int × Int) ⊕ ((World × Int × Int) ⊕ (World × Int)))) :=
  gd (0 ≤ x3 ∧ x3 < 19) (gd (0 ≤ w 14 x3.toNat ∧ w 14 x3.toNat < 10) (if s0 ≤ (w 6 (w 14 x3.toNat).toNat) then (f_Re_layer_218 w x1 x2 x3 x4) else (gd (0 ≤ x3 ∧ x3 < 19) (gd (0 ≤ w 14 x3.toNat ∧ w 14 x3.toNat < 10) (bl (up w 6 (w 14 x3.toNat).toNat s0) fun w10 => if 10 ≤ s0 then (f_Re_layer_217 w10 1 x3 x4 0) else (f_Re_layer_217 w10 1 x3 x4 1))))))
theorem t_Re_layer_172 {E : EE} {K : KT} {l : Launch} {H0 : Heap} (k : Kof TB E K l cX11_layer RX11 rm_Re_layer) {w : World} {x1 : Int} {x2 : Int} {x3 : Int} {x4 : Int} {s0 : Int} {o5 o6 o7 : Option Value} (r_x1 : R32 x1) (r_x2 : R32 x2) (r_x3 : R32 x3) (r_x4 : R32 x4) (r_s0 : R32 s0) {out : ((World × Int × Int × Int) ⊕ ((World × Int × Int × Int) ⊕ ((World × Int × Int) ⊕ (World × Int))))} (hf : f_Re_layer_172 w x1 x2 x3 x4 s0 = some out) (hc : (Sum.elim (HW_Re_layer_50 E K H0 x3) (Sum.elim (HW_Re_layer_37 E K H0 ) (Sum.elim (HW_Re_layer_25 E K H0 ) (fun out : (World × Int) => RetZ TB E K H0 cX11_layer out.1 out.2)))) out) : Jj K (WdT TB E H0) w 172 [some (rf E.ad 1), some (.int (ii x1)), some (.int (ii x2)), some (.int (ii x3)), some (.int (ii x4)), o5, o6, o7] [.int (ii s0)] := by
  unfold f_Re_layer_172 at hf
  have o := k.1
  have g := k.2.1
  have kr := k.2.2.1
  refine J_istore o dX11_layer_172 (Nat.le_of_ble_eq_true rfl) ?_
  refine J_aload_n o dX11_layer_174 rfl ?_
  refine J_getF (true, 6) o g dX11_layer_175 flX11_23 kB_1 rfl rfl rfl ?_
  refine J_aload_n o dX11_layer_178 rfl ?_
  refine J_getF (true, 14) o g dX11_layer_179 flX11_47 kB_1 rfl rfl rfl ?_
  refine J_iload_n o dX11_layer_182 rfl ?_
  obtain ⟨g1, hf⟩ := gd_some hf
  refine J_iald o g dX11_layer_183 kB_14 r_x3 zB_14 g1 (fun q2 => ?_)
  obtain ⟨g3, hf⟩ := gd_some hf
  refine J_iald o g dX11_layer_184 kB_6 q2 zB_6 g3 (fun q4 => ?_)
  refine J_iload o dX11_layer_185 rfl ?_
  refine J_icmp_ge 218 o dX11_layer_187 (by decide) q4 r_s0 (fun c5 => ?_) (fun c6 => ?_)
  · have hf := ite_t c5 hf
    exact t_Re_layer_218 k r_x1 r_x2 r_x3 r_x4 hf hc
  · have hf := ite_f c6 hf
    refine J_aload_n o dX11_layer_190 rfl ?_
    refine J_getF (true, 6) o g dX11_layer_191 flX11_23 kB_1 rfl rfl rfl ?_
    refine J_aload_n o dX11_layer_194 rfl ?_
    refine J_getF (true, 14) o g dX11_layer_195 flX11_47 kB_1 rfl rfl rfl ?_
    refine J_iload_n o dX11_layer_198 rfl ?_
    obtain ⟨g7, hf⟩ := gd_some hf
    refine J_iald o g dX11_layer_199 kB_14 r_x3 zB_14 g7 (fun q8 => ?_)
    refine J_iload o dX11_layer_200 rfl ?_
    obtain ⟨g9, hf⟩ := gd_some hf
    refine J_iast o g dX11_layer_202 kB_6 (fxB_40 _) q8 zB_6 g9 r_s0 ?_
    have hf := bl_out hf
    refine J_iconst o dX11_layer_203 ?_
    refine J_istore_n o dX11_layer_204 (Nat.le_of_ble_eq_true rfl) ?_
    refine J_iload o dX11_layer_205 rfl ?_
    refine J_bipush o dX11_layer_207 (by decide) ?_
    refine J_icmp_ge 216 o dX11_layer_209 (by decide) r_s0 rl10 (fun c11 => ?_) (fun c12 => ?_)
    · have hf := ite_t c11 hf
      refine J_iconst o dX11_layer_216 ?_
      exact t_Re_layer_217 k rl1 r_x3 r_x4 rl0 hf hc
    · have hf := ite_f c12 hf
      refine J_iconst o dX11_layer_212 ?_
      refine J_goto 217 o dX11_layer_213 (by decide) ?_
      exact t_Re_layer_217 k rl1 r_x3 r_x4 rl1 hf hc
noncomputable def f_Re_layer_167 (w : World) (x1 : Int) (x2 : Int) (x3 : Int) (x4 : Int) (s0 : Int) (s1 : Int) : Option ((World × Int × Int × Int) ⊕ ((World × Int × Int × Int) ⊕ ((World × Int × Int) ⊕ (World × Int)))) :=
  f_Re_layer_172 w x1 x2 x3 x4 (wr (s0 + s1))
theorem t_Re_layer_167 {E : EE} {K : KT} {l : Launch} {H0 : Heap} (k : Kof TB E K l cX11_layer RX11 rm_Re_layer) {w : World} {x1 : Int} {x2 : Int} {x3 : Int} {x4 : Int} {s0 : Int} {s1 : Int} {o5 o6 o7 : Option Value} (r_x1 : R32 x1) (r_x2 : R32 x2) (r_x3 : R32 x3) (r_x4 : R32 x4) (r_s0 : R32 s0) (r_s1 : R32 s1) {out : ((World × Int × Int × Int) ⊕ ((World × Int × Int × Int) ⊕ ((World × Int × Int) ⊕ (World × Int))))} (hf : f_Re_layer_167 w x1 x2 x3 x4 s0 s1 = some out) (hc : (Sum.elim (HW_Re_layer_50 E K H0 x3) (Sum.elim (HW_Re_layer_37 E K H0 ) (Sum.elim (HW_Re_layer_25 E K H0 ) (fun out : (World × Int) => RetZ TB E K H0 cX11_layer out.1 out.2)))) out) : Jj K (WdT TB E H0) w 167 [some (rf E.ad 1), some (.int (ii x1)), some (.int (ii x2)), some (.int (ii x3)), some (.int (ii x4)), o5, o6, o7] [.int (ii s1), .int (ii s0)] := by
  unfold f_Re_layer_167 at hf
  have o := k.1
  have g := k.2.1
  have kr := k.2.2.1
  refine J_iadd o dX11_layer_167 ?_
  refine J_goto 172 o dX11_layer_168 (by decide) ?_
  exact t_Re_layer_172 k r_x1 r_x2 r_x3 r_x4 (R_wr _) hf hc
noncomputable def f_Re_layer_138 (w : World) (x1 : Int) (x2 : Int) (x3 : Int) (x4 : Int) (x5 : Int) (s0 : Int) : Option ((World × Int × Int × Int) ⊕ ((World × Int × Int × Int) ⊕ ((World × Int × Int) ⊕ (World × Int)))) :=
  if x5 = 0 then (f_Re_layer_172 w x1 x2 x3 x4 0) else (gd (0 ≤ x4 ∧ x4 < 95) (gd (0 ≤ w 18 x4.toNat ∧ w 18 x4.toNat < 10) (if s0 = 0 then (f_Re_layer_167 w x1 x2 x3 x4 (w 6 (w 18 x4.toNat).toNat) 0) else (f_Re_layer_167 w x1 x2 x3 x4 (w 6 (w 18 x4.toNat).toNat) 1))))
theorem t_Re_layer_138 {E : EE} {K : KT} {l : Launch} {H0 : Heap} (k : Kof TB E K l cX11_layer RX11 rm_Re_layer) {w : World} {x1 : Int} {x2 : Int} {x3 : Int} {x4 : Int} {x5 : Int} {s0 : Int} {o6 o7 : Option Value} (r_x1 : R32 x1) (r_x2 : R32 x2) (r_x3 : R32 x3) (r_x4 : R32 x4) (r_x5 : R32 x5) (r_s0 : R32 s0) {out : ((World × Int × Int × Int) ⊕ ((World × Int × Int × Int) ⊕ ((World × Int × Int) ⊕ (World × Int))))} (hf : f_Re_layer_138 w x1 x2 x3 x4 x5 s0 = some out) (hc : (Sum.elim (HW_Re_layer_50 E K H0 x3) (Sum.elim (HW_Re_layer_37 E K H0 ) (Sum.elim (HW_Re_layer_25 E K H0 ) (fun out : (World × Int) => RetZ TB E K H0 cX11_layer out.1 out.2)))) out) : Jj K (WdT TB E H0) w 138 [some (rf E.ad 1), some (.int (ii x1)), some (.int (ii x2)), some (.int (ii x3)), some (.int (ii x4)), some (.int (ii x5)), o6, o7] [.int (ii s0)] := by
  unfold f_Re_layer_138 at hf
  have o := k.1
  have g := k.2.1
  have kr := k.2.2.1
  refine J_istore o dX11_layer_138 (Nat.le_of_ble_eq_true rfl) ?_
  refine J_iload o dX11_layer_140 rfl ?_
  refine J_if_eq 171 o dX11_layer_142 (by decide) r_x5 (fun c1 => ?_) (fun c2 => ?_)
  · have hf := ite_t c1 hf
    refine J_iconst o dX11_layer_171 ?_
    exact t_Re_layer_172 k r_x1 r_x2 r_x3 r_x4 rl0 hf hc
  · have hf := ite_f c2 hf
    refine J_aload_n o dX11_layer_145 rfl ?_
    refine J_getF (true, 6) o g dX11_layer_146 flX11_23 kB_1 rfl rfl rfl ?_
    refine J_aload_n o dX11_layer_149 rfl ?_
    refine J_getF (true, 18) o g dX11_layer_150 flX11_59 kB_1 rfl rfl rfl ?_
    refine J_iload o dX11_layer_153 rfl ?_
    obtain ⟨g3, hf⟩ := gd_some hf
    refine J_iald o g dX11_layer_155 kB_18 r_x4 zB_18 g3 (fun q4 => ?_)
    obtain ⟨g5, hf⟩ := gd_some hf
    refine J_iald o g dX11_layer_156 kB_6 q4 zB_6 g5 (fun q6 => ?_)
    refine J_iload o dX11_layer_157 rfl ?_
    refine J_if_eq 166 o dX11_layer_159 (by decide) r_s0 (fun c7 => ?_) (fun c8 => ?_)
    · have hf := ite_t c7 hf
      refine J_iconst o dX11_layer_166 ?_
      exact t_Re_layer_167 k r_x1 r_x2 r_x3 r_x4 q6 rl0 hf hc
    · have hf := ite_f c8 hf
      refine J_iconst o dX11_layer_162 ?_
      refine J_goto 167 o dX11_layer_163 (by decide) ?_
      exact t_Re_layer_167 k r_x1 r_x2 r_x3 r_x4 q6 rl1 hf hc
noncomputable def f_Re_layer_137 (w : World) (x1 : Int) (x2 : Int) (x3 : Int) (x4 : Int) (x5 : Int) : Option ((World × Int × Int × Int) ⊕ ((World × Int × Int × Int) ⊕ ((World × Int × Int) ⊕ (World × Int)))) :=
  f_Re_layer_138 w x1 x2 x3 x4 x5 0
theorem t_Re_layer_137 {E : EE} {K : KT} {l : Launch} {H0 : Heap} (k : Kof TB E K l cX11_layer RX11 rm_Re_layer) {w : World} {x1 : Int} {x2 : Int} {x3 : Int} {x4 : Int} {x5 : Int} {o6 o7 : Option Value} (r_x1 : R32 x1) (r_x2 : R32 x2) (r_x3 : R32 x3) (r_x4 : R32 x4) (r_x5 : R32 x5) {out : ((World × Int × Int × Int) ⊕ ((World × Int × Int × Int) ⊕ ((World × Int × Int) ⊕ (World × Int))))} (hf : f_Re_layer_137 w x1 x2 x3 x4 x5 = some out) (hc : (Sum.elim (HW_Re_layer_50 E K H0 x3) (Sum.elim (HW_Re_layer_37 E K H0 ) (Sum.elim (HW_Re_layer_25 E K H0 ) (fun out : (World × Int) => RetZ TB E K H0 cX11_layer out.1 out.2)))) out) : Jj K (WdT TB E H0) w 137 [some (rf E.ad 1), some (.int (ii x1)), some (.int (ii x2)), some (.int (ii x3)), some (.int (ii x4)), some (.int (ii x5)), o6, o7] [] := by
  unfold f_Re_layer_137 at hf
  have o := k.1
  have g := k.2.1
  have kr := k.2.2.1
  refine J_iconst o dX11_layer_137 ?_
  exact t_Re_layer_138 k r_x1 r_x2 r_x3 r_x4 r_x5 rl0 hf hc
noncomputable def f_Re_layer_133 (w : World) (x1 : Int) (x2 : Int) (x3 : Int) (x4 : Int) (x5 : Int) : Option ((World × Int × Int × Int) ⊕ ((World × Int × Int × Int) ⊕ ((World × Int × Int) ⊕ (World × Int)))) :=
  f_Re_layer_138 w x1 x2 x3 x4 x5 1
theorem t_Re_layer_133 {E : EE} {K : KT} {l : Launch} {H0 : Heap} (k : Kof TB E K l cX11_layer RX11 rm_Re_layer) {w : World} {x1 : Int} {x2 : Int} {x3 : Int} {x4 : Int} {x5 : Int} {o6 o7 : Option Value} (r_x1 : R32 x1) (r_x2 : R32 x2) (r_x3 : R32 x3) (r_x4 : R32 x4) (r_x5 : R32 x5) {out : ((World × Int × Int × Int) ⊕ ((World × Int × Int × Int) ⊕ ((World × Int × Int) ⊕ (World × Int))))} (hf : f_Re_layer_133 w x1 x2 x3 x4 x5 = some out) (hc : (Sum.elim (HW_Re_layer_50 E K H0 x3) (Sum.elim (HW_Re_layer_37 E K H0 ) (Sum.elim (HW_Re_layer_25 E K H0 ) (fun out : (World × Int) => RetZ TB E K H0 cX11_layer out.1 out.2)))) out) : Jj K (WdT TB E H0) w 133 [some (rf E.ad 1), some (.int (ii x1)), some (.int (ii x2)), some (.int (ii x3)), some (.int (ii x4)), some (.int (ii x5)), o6, o7] [] := by
  unfold f_Re_layer_133 at hf
  have o := k.1
  have g := k.2.1
  have kr := k.2.2.1
  refine J_iconst o dX11_layer_133 ?_
  refine J_goto 138 o dX11_layer_134 (by decide) ?_
  exact t_Re_layer_138 k r_x1 r_x2 r_x3 r_x4 r_x5 rl1 hf hc
noncomputable def f_Re_layer_90 (w : World) (x1 : Int) (x2 : Int) (x3 : Int) (x4 : Int) (s0 : Int) : Option ((World × Int × Int × Int) ⊕ ((World × Int × Int × Int) ⊕ ((World × Int × Int) ⊕ (World × Int)))) :=
  if s0 = 0 then (f_Re_layer_137 w x1 x2 x3 x4 s0) else (gd (0 ≤ x4 ∧ x4 < 95) (if (w 17 x4.toNat) = 1 then (f_Re_layer_133 w x1 x2 x3 x4 s0) else (gd (0 ≤ x4 ∧ x4 < 95) (gd (0 ≤ w 18 x4.toNat ∧ w 18 x4.toNat < 10) (if (w 4 (w 18 x4.toNat).toNat) = 0 then (f_Re_layer_137 w x1 x2 x3 x4 s0) else (bnd (f_Re_grows w x3 x4) fun v14 => if v14 = 0 then (f_Re_layer_133 w x1 x2 x3 x4 s0) else (f_Re_layer_137 w x1 x2 x3 x4 s0)))))))
theorem t_Re_layer_90 {E : EE} {K : KT} {l : Launch} {H0 : Heap} (k : Kof TB E K l cX11_layer RX11 rm_Re_layer) {w : World} {x1 : Int} {x2 : Int} {x3 : Int} {x4 : Int} {s0 : Int} {o5 o6 o7 : Option Value} (r_x1 : R32 x1) (r_x2 : R32 x2) (r_x3 : R32 x3) (r_x4 : R32 x4) (r_s0 : R32 s0) {out : ((World × Int × Int × Int) ⊕ ((World × Int × Int × Int) ⊕ ((World × Int × Int) ⊕ (World × Int))))} (hf : f_Re_layer_90 w x1 x2 x3 x4 s0 = some out) (hc : (Sum.elim (HW_Re_layer_50 E K H0 x3) (Sum.elim (HW_Re_layer_37 E K H0 ) (Sum.elim (HW_Re_layer_25 E K H0 ) (fun out : (World × Int) => RetZ TB E K H0 cX11_layer out.1 out.2)))) out) : Jj K (WdT TB E H0) w 90 [some (rf E.ad 1), some (.int (ii x1)), some (.int (ii x2)), some (.int (ii x3)), some (.int (ii x4)), o5, o6, o7] [.int (ii s0)] := by
  unfold f_Re_layer_90 at hf
  have o := k.1
  have g := k.2.1
  have kr := k.2.2.1
  refine J_istore o dX11_layer_90 (Nat.le_of_ble_eq_true rfl) ?_
  refine J_iload o dX11_layer_92 rfl ?_
  refine J_if_eq 137 o dX11_layer_94 (by decide) r_s0 (fun c1 => ?_) (fun c2 => ?_)
  · have hf := ite_t c1 hf
    exact t_Re_layer_137 k r_x1 r_x2 r_x3 r_x4 r_s0 hf hc
  · have hf := ite_f c2 hf
    refine J_aload_n o dX11_layer_97 rfl ?_
    refine J_getF (true, 17) o g dX11_layer_98 flX11_56 kB_1 rfl rfl rfl ?_
    refine J_iload o dX11_layer_101 rfl ?_
    obtain ⟨g3, hf⟩ := gd_some hf
    refine J_iald o g dX11_layer_103 kB_17 r_x4 zB_17 g3 (fun q4 => ?_)
    refine J_iconst o dX11_layer_104 ?_
    refine J_icmp_eq 133 o dX11_layer_105 (by decide) q4 rl1 (fun c5 => ?_) (fun c6 => ?_)
    · have hf := ite_t c5 hf
      exact t_Re_layer_133 k r_x1 r_x2 r_x3 r_x4 r_s0 hf hc
    · have hf := ite_f c6 hf
      refine J_aload_n o dX11_layer_108 rfl ?_
      refine J_getF (true, 4) o g dX11_layer_109 flX11_17 kB_1 rfl rfl rfl ?_
      refine J_aload_n o dX11_layer_112 rfl ?_
      refine J_getF (true, 18) o g dX11_layer_113 flX11_59 kB_1 rfl rfl rfl ?_
      refine J_iload o dX11_layer_116 rfl ?_
      obtain ⟨g7, hf⟩ := gd_some hf
      refine J_iald o g dX11_layer_118 kB_18 r_x4 zB_18 g7 (fun q8 => ?_)
      obtain ⟨g9, hf⟩ := gd_some hf
      refine J_iald o g dX11_layer_119 kB_4 q8 zB_4 g9 (fun q10 => ?_)
      refine J_if_eq 137 o dX11_layer_120 (by decide) q10 (fun c11 => ?_) (fun c12 => ?_)
      · have hf := ite_t c11 hf
        exact t_Re_layer_137 k r_x1 r_x2 r_x3 r_x4 r_s0 hf hc
      · have hf := ite_f c12 hf
        refine J_aload_n o dX11_layer_123 rfl ?_
        refine J_iload_n o dX11_layer_124 rfl ?_
        refine J_iload o dX11_layer_125 rfl ?_
        obtain ⟨v14, e13, hf⟩ := bnd_some hf
        refine J_vI o g kr dX11_layer_127 lkX11_182 ml_Re_grows vl_Re_grows ⟨rfl, rfl, Nat.le_of_ble_eq_true rfl, Nat.le_of_ble_eq_true rfl⟩ (c_Re_grows g.2.1 r_x3 r_x4 e13) kB_1 rfl ⟨by decide, by decide⟩ rfl rfl c1s_0 (fun q15 => ?_)
        refine J_if_ne 137 o dX11_layer_130 (by decide) q15 (fun c16 => ?_) (fun c17 => ?_)
        · have hf := ite_f c16 hf
          exact t_Re_layer_137 k r_x1 r_x2 r_x3 r_x4 r_s0 hf hc
        · have hf := ite_t c17 hf
          exact t_Re_layer_133 k r_x1 r_x2 r_x3 r_x4 r_s0 hf hc
noncomputable def f_Re_layer_50B (w : World) (x1 : Int) (x2 : Int) (x3 : Int) (x4 : Int) : Option ((World × Int × Int × Int) ⊕ ((World × Int × Int × Int) ⊕ ((World × Int × Int) ⊕ (World × Int)))) :=
  gd (0 ≤ x3 ∧ x3 < 12) (if (w 13 x3.toNat) = 0 then (gd (0 ≤ x3 ∧ x3 < 19) (if (wr ((wr (5 * x3)) + (w 16 x3.toNat))) ≤ x4 then (bnd (f_Re_layer_224 w x1 x2 x3) fun y10 => some (Sum.inr y10)) else (gd (0 ≤ x4 ∧ x4 < 95) (if 1 < (w 17 x4.toNat) then (f_Re_layer_90 w x1 x2 x3 x4 0) else (f_Re_layer_90 w x1 x2 x3 x4 1))))) else (bnd (f_Re_layer_224 w x1 x2 x3) fun y5 => some (Sum.inr y5)))
theorem t_Re_layer_50B {E : EE} {K : KT} {l : Launch} {H0 : Heap} (k : Kof TB E K l cX11_layer RX11 rm_Re_layer) {w : World} {x1 : Int} {x2 : Int} {x3 : Int} {x4 : Int} {o5 o6 o7 : Option Value} (r_x1 : R32 x1) (r_x2 : R32 x2) (r_x3 : R32 x3) (r_x4 : R32 x4) {out : ((World × Int × Int × Int) ⊕ ((World × Int × Int × Int) ⊕ ((World × Int × Int) ⊕ (World × Int))))} (hf : f_Re_layer_50B w x1 x2 x3 x4 = some out) (hc : (Sum.elim (HW_Re_layer_50 E K H0 x3) (Sum.elim (HW_Re_layer_37 E K H0 ) (Sum.elim (HW_Re_layer_25 E K H0 ) (fun out : (World × Int) => RetZ TB E K H0 cX11_layer out.1 out.2)))) out) : Jj K (WdT TB E H0) w 50 [some (rf E.ad 1), some (.int (ii x1)), some (.int (ii x2)), some (.int (ii x3)), some (.int (ii x4)), o5, o6, o7] [] := by
  unfold f_Re_layer_50B at hf
  have o := k.1
  have g := k.2.1
  have kr := k.2.2.1
  refine J_aload_n o dX11_layer_50 rfl ?_
  refine J_getF (true, 13) o g dX11_layer_51 flX11_44 kB_1 rfl rfl rfl ?_
  refine J_iload_n o dX11_layer_54 rfl ?_
  obtain ⟨g1, hf⟩ := gd_some hf
  refine J_zald o g dX11_layer_55 kB_13 r_x3 zB_13 g1 (fun q2 => ?_)
  refine J_if_ne 224 o dX11_layer_56 (by decide) q2 (fun c3 => ?_) (fun c4 => ?_)
  · have hf := ite_f c3 hf
    obtain ⟨y5, hf1, hf⟩ := bnd_some hf
    have hf := some_inj hf
    subst hf
    exact t_Re_layer_224 k r_x1 r_x2 r_x3 hf1 hc
  · have hf := ite_t c4 hf
    refine J_iload o dX11_layer_59 rfl ?_
    refine J_iconst o dX11_layer_61 ?_
    refine J_iload_n o dX11_layer_62 rfl ?_
    refine J_imul o dX11_layer_63 ?_
    refine J_aload_n o dX11_layer_64 rfl ?_
    refine J_getF (true, 16) o g dX11_layer_65 flX11_53 kB_1 rfl rfl rfl ?_
    refine J_iload_n o dX11_layer_68 rfl ?_
    obtain ⟨g6, hf⟩ := gd_some hf
    refine J_iald o g dX11_layer_69 kB_16 r_x3 zB_16 g6 (fun q7 => ?_)
    refine J_iadd o dX11_layer_70 ?_
    refine J_icmp_ge 224 o dX11_layer_71 (by decide) r_x4 (R_wr _) (fun c8 => ?_) (fun c9 => ?_)
    · have hf := ite_t c8 hf
      obtain ⟨y10, hf1, hf⟩ := bnd_some hf
      have hf := some_inj hf
      subst hf
      exact t_Re_layer_224 k r_x1 r_x2 r_x3 hf1 hc
    · have hf := ite_f c9 hf
      refine J_aload_n o dX11_layer_74 rfl ?_
      refine J_getF (true, 17) o g dX11_layer_75 flX11_56 kB_1 rfl rfl rfl ?_
      refine J_iload o dX11_layer_78 rfl ?_
      obtain ⟨g11, hf⟩ := gd_some hf
      refine J_iald o g dX11_layer_80 kB_17 r_x4 zB_17 g11 (fun q12 => ?_)
      refine J_iconst o dX11_layer_81 ?_
      refine J_icmp_gt 89 o dX11_layer_82 (by decide) q12 rl1 (fun c13 => ?_) (fun c14 => ?_)
      · have hf := ite_t c13 hf
        refine J_iconst o dX11_layer_89 ?_
        exact t_Re_layer_90 k r_x1 r_x2 r_x3 r_x4 rl0 hf hc
      · have hf := ite_f c14 hf
        refine J_iconst o dX11_layer_85 ?_
        refine J_goto 90 o dX11_layer_86 (by decide) ?_
        exact t_Re_layer_90 k r_x1 r_x2 r_x3 r_x4 rl1 hf hc
noncomputable def f_Re_layer_50 (w : World) (x1 : Int) (x2 : Int) (x3 : Int) (x4 : Int) : Option ((World × Int × Int × Int) ⊕ ((World × Int × Int) ⊕ (World × Int))) :=
  lp (fun z : (World × Int × Int × Int) => f_Re_layer_50B z.1 z.2.1 z.2.2.1 x3 z.2.2.2) (w, x1, x2, x4)
theorem t_Re_layer_50 {E : EE} {K : KT} {l : Launch} {H0 : Heap} (k : Kof TB E K l cX11_layer RX11 rm_Re_layer) {w : World} {x1 : Int} {x2 : Int} {x3 : Int} {x4 : Int} (r_x3 : R32 x3) {out : ((World × Int × Int × Int) ⊕ ((World × Int × Int) ⊕ (World × Int)))} (hf : f_Re_layer_50 w x1 x2 x3 x4 = some out) (hc : (Sum.elim (HW_Re_layer_37 E K H0 ) (Sum.elim (HW_Re_layer_25 E K H0 ) (fun out : (World × Int) => RetZ TB E K H0 cX11_layer out.1 out.2))) out) : HW_Re_layer_50 E K H0 x3 (w, x1, x2, x4) := by
  unfold f_Re_layer_50 at hf
  refine lp_ind (P := HW_Re_layer_50 E K H0 x3) hf ?_
  intro z o hs h1 h2
  intro r_x1 r_x2 r_x4
  intro o5 o6 o7
  refine t_Re_layer_50B k r_x1 r_x2 r_x3 r_x4 hs ?_
  cases o with
  | inl z' => exact h1 z' rfl
  | inr r' => rw [h2 r' rfl]; exact hc
noncomputable def f_Re_layer_37B (w : World) (x1 : Int) (x2 : Int) (x3 : Int) : Option ((World × Int × Int × Int) ⊕ ((World × Int × Int) ⊕ (World × Int))) :=
  if (w 1 14) ≤ x3 then (some (Sum.inr (Sum.inl (w, x1, x2)))) else (bl (wr (5 * x3)) fun n4 => f_Re_layer_50 w x1 x2 x3 n4)
theorem t_Re_layer_37B {E : EE} {K : KT} {l : Launch} {H0 : Heap} (k : Kof TB E K l cX11_layer RX11 rm_Re_layer) {w : World} {x1 : Int} {x2 : Int} {x3 : Int} {o4 o5 o6 o7 : Option Value} (r_x1 : R32 x1) (r_x2 : R32 x2) (r_x3 : R32 x3) {out : ((World × Int × Int × Int) ⊕ ((World × Int × Int) ⊕ (World × Int)))} (hf : f_Re_layer_37B w x1 x2 x3 = some out) (hc : (Sum.elim (HW_Re_layer_37 E K H0 ) (Sum.elim (HW_Re_layer_25 E K H0 ) (fun out : (World × Int) => RetZ TB E K H0 cX11_layer out.1 out.2))) out) : Jj K (WdT TB E H0) w 37 [some (rf E.ad 1), some (.int (ii x1)), some (.int (ii x2)), some (.int (ii x3)), o4, o5, o6, o7] [] := by
  unfold f_Re_layer_37B at hf
  have o := k.1
  have g := k.2.1
  have kr := k.2.2.1
  refine J_iload_n o dX11_layer_37 rfl ?_
  refine J_aload_n o dX11_layer_38 rfl ?_
  refine J_getI o g dX11_layer_39 flX11_159 kB_1 rfl (fun q1 => ?_)
  refine J_icmp_ge 230 o dX11_layer_42 (by decide) r_x3 q1 (fun c2 => ?_) (fun c3 => ?_)
  · have hf := ite_t c2 hf
    refine J_goto 25 o dX11_layer_230 (by decide) ?_
    have hf := some_inj hf
    subst hf
    exact hc r_x1 r_x2 _ _ _ _ _
  · have hf := ite_f c3 hf
    refine J_iconst o dX11_layer_45 ?_
    refine J_iload_n o dX11_layer_46 rfl ?_
    refine J_imul o dX11_layer_47 ?_
    refine J_istore o dX11_layer_48 (Nat.le_of_ble_eq_true rfl) ?_
    have hf := bl_out hf
    exact (t_Re_layer_50 k r_x3 hf hc) r_x1 r_x2 (R_wr _) _ _ _
noncomputable def f_Re_layer_37 (w : World) (x1 : Int) (x2 : Int) (x3 : Int) : Option ((World × Int × Int) ⊕ (World × Int)) :=
  lp (fun z : (World × Int × Int × Int) => f_Re_layer_37B z.1 z.2.1 z.2.2.1 z.2.2.2) (w, x1, x2, x3)
theorem t_Re_layer_37 {E : EE} {K : KT} {l : Launch} {H0 : Heap} (k : Kof TB E K l cX11_layer RX11 rm_Re_layer) {w : World} {x1 : Int} {x2 : Int} {x3 : Int}  {out : ((World × Int × Int) ⊕ (World × Int))} (hf : f_Re_layer_37 w x1 x2 x3 = some out) (hc : (Sum.elim (HW_Re_layer_25 E K H0 ) (fun out : (World × Int) => RetZ TB E K H0 cX11_layer out.1 out.2)) out) : HW_Re_layer_37 E K H0  (w, x1, x2, x3) := by
  unfold f_Re_layer_37 at hf
  refine lp_ind (P := HW_Re_layer_37 E K H0 ) hf ?_
  intro z o hs h1 h2
  intro r_x1 r_x2 r_x3
  intro o4 o5 o6 o7
  refine t_Re_layer_37B k r_x1 r_x2 r_x3 hs ?_
  cases o with
  | inl z' => exact h1 z' rfl
  | inr r' => rw [h2 r' rfl]; exact hc
noncomputable def f_Re_layer_25B (w : World) (x1 : Int) (x2 : Int) : Option ((World × Int × Int) ⊕ (World × Int)) :=
  if x1 = 0 then (gd (x2 = 0 ∨ x2 = 1) (some (Sum.inr (w, x2)))) else (if x2 = 0 then (gd (x2 = 0 ∨ x2 = 1) (some (Sum.inr (w, x2)))) else (f_Re_layer_37 w 0 x2 0))
theorem t_Re_layer_25B {E : EE} {K : KT} {l : Launch} {H0 : Heap} (k : Kof TB E K l cX11_layer RX11 rm_Re_layer) {w : World} {x1 : Int} {x2 : Int} {o3 o4 o5 o6 o7 : Option Value} (r_x1 : R32 x1) (r_x2 : R32 x2) {out : ((World × Int × Int) ⊕ (World × Int))} (hf : f_Re_layer_25B w x1 x2 = some out) (hc : (Sum.elim (HW_Re_layer_25 E K H0 ) (fun out : (World × Int) => RetZ TB E K H0 cX11_layer out.1 out.2)) out) : Jj K (WdT TB E H0) w 25 [some (rf E.ad 1), some (.int (ii x1)), some (.int (ii x2)), o3, o4, o5, o6, o7] [] := by
  unfold f_Re_layer_25B at hf
  have o := k.1
  have g := k.2.1
  have kr := k.2.2.1
  refine J_iload_n o dX11_layer_25 rfl ?_
  refine J_if_eq 233 o dX11_layer_26 (by decide) r_x1 (fun c1 => ?_) (fun c2 => ?_)
  · have hf := ite_t c1 hf
    refine J_iload_n o dX11_layer_233 rfl ?_
    obtain ⟨g3, hf⟩ := gd_some hf
    have hf := some_inj hf
    subst hf
    exact hc _ _ g3 dX11_layer_234
  · have hf := ite_f c2 hf
    refine J_iload_n o dX11_layer_29 rfl ?_
    refine J_if_eq 233 o dX11_layer_30 (by decide) r_x2 (fun c4 => ?_) (fun c5 => ?_)
    · have hf := ite_t c4 hf
      refine J_iload_n o dX11_layer_233 rfl ?_
      obtain ⟨g6, hf⟩ := gd_some hf
      have hf := some_inj hf
      subst hf
      exact hc _ _ g6 dX11_layer_234
    · have hf := ite_f c5 hf
      refine J_iconst o dX11_layer_33 ?_
      refine J_istore_n o dX11_layer_34 (Nat.le_of_ble_eq_true rfl) ?_
      refine J_iconst o dX11_layer_35 ?_
      refine J_istore_n o dX11_layer_36 (Nat.le_of_ble_eq_true rfl) ?_
      exact (t_Re_layer_37 k  hf hc) rl0 r_x2 rl0 _ _ _ _
noncomputable def f_Re_layer_25 (w : World) (x1 : Int) (x2 : Int) : Option (World × Int) :=
  lp (fun z : (World × Int × Int) => f_Re_layer_25B z.1 z.2.1 z.2.2) (w, x1, x2)
theorem t_Re_layer_25 {E : EE} {K : KT} {l : Launch} {H0 : Heap} (k : Kof TB E K l cX11_layer RX11 rm_Re_layer) {w : World} {x1 : Int} {x2 : Int}  {out : (World × Int)} (hf : f_Re_layer_25 w x1 x2 = some out) (hc : (fun out : (World × Int) => RetZ TB E K H0 cX11_layer out.1 out.2) out) : HW_Re_layer_25 E K H0  (w, x1, x2) := by
  unfold f_Re_layer_25 at hf
  refine lp_ind (P := HW_Re_layer_25 E K H0 ) hf ?_
  intro z o hs h1 h2
  intro r_x1 r_x2
  intro o3 o4 o5 o6 o7
  refine t_Re_layer_25B k r_x1 r_x2 hs ?_
  cases o with
  | inl z' => exact h1 z' rfl
  | inr r' => rw [h2 r' rfl]; exact hc
noncomputable def f_Re_layer_2B (w : World) (x1 : Int) : Option ((World × Int) ⊕ (World × Int)) :=
  if 10 ≤ x1 then (bnd (f_Re_layer_25 w 1 1) fun y3 => some (Sum.inr y3)) else (gd (0 ≤ x1 ∧ x1 < 10) (bl (up w 6 x1.toNat 0) fun w5 => bl (wr (x1 + 1)) fun n6 => some (Sum.inl (w5, n6))))
theorem t_Re_layer_2B {E : EE} {K : KT} {l : Launch} {H0 : Heap} (k : Kof TB E K l cX11_layer RX11 rm_Re_layer) {w : World} {x1 : Int} {o2 o3 o4 o5 o6 o7 : Option Value} (r_x1 : R32 x1) {out : ((World × Int) ⊕ (World × Int))} (hf : f_Re_layer_2B w x1 = some out) (hc : (Sum.elim (HW_Re_layer_2 E K H0 ) (fun out : (World × Int) => RetZ TB E K H0 cX11_layer out.1 out.2)) out) : Jj K (WdT TB E H0) w 2 [some (rf E.ad 1), some (.int (ii x1)), o2, o3, o4, o5, o6, o7] [] := by
  unfold f_Re_layer_2B at hf
  have o := k.1
  have g := k.2.1
  have kr := k.2.2.1
  refine J_iload_n o dX11_layer_2 rfl ?_
  refine J_bipush o dX11_layer_3 (by decide) ?_
  refine J_icmp_ge 21 o dX11_layer_5 (by decide) r_x1 rl10 (fun c1 => ?_) (fun c2 => ?_)
  · have hf := ite_t c1 hf
    refine J_iconst o dX11_layer_21 ?_
    refine J_istore_n o dX11_layer_22 (Nat.le_of_ble_eq_true rfl) ?_
    refine J_iconst o dX11_layer_23 ?_
    refine J_istore_n o dX11_layer_24 (Nat.le_of_ble_eq_true rfl) ?_
    obtain ⟨y3, hf1, hf⟩ := bnd_some hf
    have hf := some_inj hf
    subst hf
    exact (t_Re_layer_25 k  hf1 hc) rl1 rl1 _ _ _ _ _
  · have hf := ite_f c2 hf
    refine J_aload_n o dX11_layer_8 rfl ?_
    refine J_getF (true, 6) o g dX11_layer_9 flX11_23 kB_1 rfl rfl rfl ?_
    refine J_iload_n o dX11_layer_12 rfl ?_
    refine J_iconst o dX11_layer_13 ?_
    obtain ⟨g4, hf⟩ := gd_some hf
    refine J_iast o g dX11_layer_14 kB_6 (fxB_40 _) r_x1 zB_6 g4 rl0 ?_
    have hf := bl_out hf
    have hf := bl_out hf
    refine J_iinc o dX11_layer_15 rfl ?_
    refine J_goto 2 o dX11_layer_18 (by decide) ?_
    have hf := some_inj hf
    subst hf
    exact hc (R_wr _) _ _ _ _ _ _
noncomputable def f_Re_layer_2 (w : World) (x1 : Int) : Option (World × Int) :=
  lp (fun z : (World × Int) => f_Re_layer_2B z.1 z.2) (w, x1)
theorem t_Re_layer_2 {E : EE} {K : KT} {l : Launch} {H0 : Heap} (k : Kof TB E K l cX11_layer RX11 rm_Re_layer) {w : World} {x1 : Int}  {out : (World × Int)} (hf : f_Re_layer_2 w x1 = some out) (hc : (fun out : (World × Int) => RetZ TB E K H0 cX11_layer out.1 out.2) out) : HW_Re_layer_2 E K H0  (w, x1) := by
  unfold f_Re_layer_2 at hf
  refine lp_ind (P := HW_Re_layer_2 E K H0 ) hf ?_
  intro z o hs h1 h2
  intro r_x1
  intro o2 o3 o4 o5 o6 o7
  refine t_Re_layer_2B k r_x1 hs ?_
  cases o with
  | inl z' => exact h1 z' rfl
  | inr r' => rw [h2 r' rfl]; exact hc
noncomputable def f_Re_layer (w : World) : Option (World × Int) :=
  f_Re_layer_2 w 0
theorem t_Re_layer_0 {E : EE} {K : KT} {l : Launch} {H0 : Heap} (k : Kof TB E K l cX11_layer RX11 rm_Re_layer) {w : World} {o1 o2 o3 o4 o5 o6 o7 : Option Value}  {out : (World × Int)} (hf : f_Re_layer w = some out) (hc : (fun out : (World × Int) => RetZ TB E K H0 cX11_layer out.1 out.2) out) : Jj K (WdT TB E H0) w 0 [some (rf E.ad 1), o1, o2, o3, o4, o5, o6, o7] [] := by
  unfold f_Re_layer at hf
  have o := k.1
  have g := k.2.1
  have kr := k.2.2.1
  refine J_iconst o dX11_layer_0 ?_
  refine J_istore_n o dX11_layer_1 (Nat.le_of_ble_eq_true rfl) ?_
  exact (t_Re_layer_2 k  hf hc) rl0 _ _ _ _ _ _
theorem c_Re_layer {E : EE} {l : Launch} (hI : Inj TB E) {w : World}  {out : (World × Int)} (hf : f_Re_layer w = some out) : ConI TB E l yX11_layer (WS yX11_layer cX11_layer 8 (some .boolean)) rm_Re_layer [rf E.ad 1] w out.1 out.2 :=
  con_Z (by decide +kernel) rfl (Nat.le_of_ble_eq_true rfl) (c1s_r c1s_0 (Nat.le_of_ble_eq_true rfl)).1 ⟨rfl, rfl⟩ hI TnB (fun K H0 k hret => t_Re_layer_0 k  hf hret)
abbrev rm_Re_enter : Room := { frames := 9, cells := 0, slots := 0, locals := 218 }
noncomputable def f_Re_enter_100 (w : World) : Option (World × Int) :=
  bl (up w 1 14 (wr ((w 1 14) - 1))) fun w2 => bnd (f_Re_layer w2 ) fun v4 => bnd (f_Re_buildAll v4.1 ) fun v7 => bnd (f_Re_refused v7.1 2) fun v10 => some (v10.1, 0)
theorem t_Re_enter_100 {E : EE} {K : KT} {l : Launch} {H0 : Heap} (k : Kof TB E K l cX11_enter RX11 rm_Re_enter) {w : World} {o1 : Option Value}  {out : (World × Int)} (hf : f_Re_enter_100 w = some out) (hc : (fun out : (World × Int) => RetI TB E K H0 cX11_enter out.1 out.2) out) : Jj K (WdT TB E H0) w 100 [some (rf E.ad 1), o1] [] := by
  unfold f_Re_enter_100 at hf
  have o := k.1
  have g := k.2.1
  have kr := k.2.2.1
  refine J_aload_n o dX11_enter_100 rfl ?_
  refine J_dup o dX11_enter_101 rf_cat ?_
  refine J_getI o g dX11_enter_102 flX11_159 kB_1 rfl (fun q1 => ?_)
  refine J_iconst o dX11_enter_105 ?_
  refine J_isub o dX11_enter_106 ?_
  refine J_putI o g dX11_enter_107 fpX11_159 kB_1 rfl rfl (R_wr _) ?_
  have hf := bl_out hf
  refine J_aload_n o dX11_enter_110 rfl ?_
  obtain ⟨v4, e3, hf⟩ := bnd_some hf
  refine J_vI o g kr dX11_enter_111 lkX11_166 ml_Re_layer vl_Re_layer ⟨rfl, rfl, Nat.le_of_ble_eq_true rfl, Nat.le_of_ble_eq_true rfl⟩ (c_Re_layer g.2.1  e3) kB_1 rfl ⟨by decide, by decide⟩ rfl rfl c1s_0 (fun q5 => ?_)
  refine J_pop o dX11_enter_114 rfl ?_
  refine J_aload_n o dX11_enter_115 rfl ?_
  obtain ⟨v7, e6, hf⟩ := bnd_some hf
  refine J_vI o g kr dX11_enter_116 lkX11_127 ml_Re_buildAll vl_Re_buildAll ⟨rfl, rfl, Nat.le_of_ble_eq_true rfl, Nat.le_of_ble_eq_true rfl⟩ (c_Re_buildAll g.2.1  e6) kB_1 rfl ⟨by decide, by decide⟩ rfl rfl c1s_0 (fun q8 => ?_)
  refine J_pop o dX11_enter_119 rfl ?_
  refine J_aload_n o dX11_enter_120 rfl ?_
  refine J_iconst o dX11_enter_121 ?_
  obtain ⟨v10, e9, hf⟩ := bnd_some hf
  refine J_vI o g kr dX11_enter_122 lkX11_113 ml_Re_refused vl_Re_refused ⟨rfl, rfl, Nat.le_of_ble_eq_true rfl, Nat.le_of_ble_eq_true rfl⟩ (c_Re_refused g.2.1 rl2 e9) kB_1 rfl ⟨by decide, by decide⟩ rfl rfl c1s_0 (fun q11 => ?_)
  refine J_pop o dX11_enter_125 rfl ?_
  refine J_iconst o dX11_enter_126 ?_
  have hf := some_inj hf
  subst hf
  exact hc _ _ rl0 dX11_enter_127
noncomputable def f_Re_enter_50 (w : World) (s1 : Int) : Option (World × Int) :=
  bnd (f_Re_refused w s1) fun v2 => if v2.2 = 0 then (bnd (f_Re_copyDraft v2.1 (v2.1 1 14)) fun v8 => gd (0 ≤ v8 1 14 ∧ v8 1 14 < 12) (bl (up v8 13 (v8 1 14).toNat 0) fun w12 => bl (up w12 1 14 (wr ((w12 1 14) + 1))) fun w14 => bnd (f_Re_layer w14 ) fun v16 => if v16.2 = 0 then (f_Re_enter_100 v16.1) else (bnd (f_Re_buildAll v16.1 ) fun v21 => if v21.2 = 0 then (f_Re_enter_100 v21.1) else (bnd (f_Re_emptyDraft v21.1 ) fun v26 => some (v26, wr ((v26 1 14) - 1)))))) else (some (v2.1, 0))
theorem t_Re_enter_50 {E : EE} {K : KT} {l : Launch} {H0 : Heap} (k : Kof TB E K l cX11_enter RX11 rm_Re_enter) {w : World} {s1 : Int} {o1 : Option Value} (r_s1 : R32 s1) {out : (World × Int)} (hf : f_Re_enter_50 w s1 = some out) (hc : (fun out : (World × Int) => RetI TB E K H0 cX11_enter out.1 out.2) out) : Jj K (WdT TB E H0) w 50 [some (rf E.ad 1), o1] [.int (ii s1), rf E.ad 1] := by
  unfold f_Re_enter_50 at hf
  have o := k.1
  have g := k.2.1
  have kr := k.2.2.1
  obtain ⟨v2, e1, hf⟩ := bnd_some hf
  refine J_vI o g kr dX11_enter_50 lkX11_113 ml_Re_refused vl_Re_refused ⟨rfl, rfl, Nat.le_of_ble_eq_true rfl, Nat.le_of_ble_eq_true rfl⟩ (c_Re_refused g.2.1 r_s1 e1) kB_1 rfl ⟨by decide, by decide⟩ rfl rfl c1s_0 (fun q3 => ?_)
  refine J_if_eq 58 o dX11_enter_53 (by decide) q3 (fun c4 => ?_) (fun c5 => ?_)
  · have hf := ite_t c4 hf
    refine J_aload_n o dX11_enter_58 rfl ?_
    refine J_aload_n o dX11_enter_59 rfl ?_
    refine J_getI o g dX11_enter_60 flX11_159 kB_1 rfl (fun q6 => ?_)
    obtain ⟨v8, e7, hf⟩ := bnd_some hf
    refine J_vV o g kr dX11_enter_63 lkX11_162 ml_Re_copyDraft vl_Re_copyDraft ⟨rfl, rfl, Nat.le_of_ble_eq_true rfl, Nat.le_of_ble_eq_true rfl⟩ (c_Re_copyDraft g.2.1 q6 e7) kB_1 rfl ⟨by decide, by decide⟩ rfl rfl c1s_0 ?_
    refine J_aload_n o dX11_enter_66 rfl ?_
    refine J_getF (true, 13) o g dX11_enter_67 flX11_44 kB_1 rfl rfl rfl ?_
    refine J_aload_n o dX11_enter_70 rfl ?_
    refine J_getI o g dX11_enter_71 flX11_159 kB_1 rfl (fun q10 => ?_)
    refine J_iconst o dX11_enter_74 ?_
    obtain ⟨g11, hf⟩ := gd_some hf
    refine J_zast o g dX11_enter_75 kB_13 (fxB_41 _) q10 zB_13 g11 (Or.inl rfl) ?_
    have hf := bl_out hf
    refine J_aload_n o dX11_enter_76 rfl ?_
    refine J_dup o dX11_enter_77 rf_cat ?_
    refine J_getI o g dX11_enter_78 flX11_159 kB_1 rfl (fun q13 => ?_)
    refine J_iconst o dX11_enter_81 ?_
    refine J_iadd o dX11_enter_82 ?_
    refine J_putI o g dX11_enter_83 fpX11_159 kB_1 rfl rfl (R_wr _) ?_
    have hf := bl_out hf
    refine J_aload_n o dX11_enter_86 rfl ?_
    obtain ⟨v16, e15, hf⟩ := bnd_some hf
    refine J_vI o g kr dX11_enter_87 lkX11_166 ml_Re_layer vl_Re_layer ⟨rfl, rfl, Nat.le_of_ble_eq_true rfl, Nat.le_of_ble_eq_true rfl⟩ (c_Re_layer g.2.1  e15) kB_1 rfl ⟨by decide, by decide⟩ rfl rfl c1s_0 (fun q17 => ?_)
    refine J_if_eq 100 o dX11_enter_90 (by decide) q17 (fun c18 => ?_) (fun c19 => ?_)
    · have hf := ite_t c18 hf
      exact t_Re_enter_100 k  hf hc
    · have hf := ite_f c19 hf
      refine J_aload_n o dX11_enter_93 rfl ?_
      obtain ⟨v21, e20, hf⟩ := bnd_some hf
      refine J_vI o g kr dX11_enter_94 lkX11_127 ml_Re_buildAll vl_Re_buildAll ⟨rfl, rfl, Nat.le_of_ble_eq_true rfl, Nat.le_of_ble_eq_true rfl⟩ (c_Re_buildAll g.2.1  e20) kB_1 rfl ⟨by decide, by decide⟩ rfl rfl c1s_0 (fun q22 => ?_)
      refine J_if_ne 128 o dX11_enter_97 (by decide) q22 (fun c23 => ?_) (fun c24 => ?_)
      · have hf := ite_f c23 hf
        refine J_aload_n o dX11_enter_128 rfl ?_
        obtain ⟨v26, e25, hf⟩ := bnd_some hf
        refine J_vV o g kr dX11_enter_129 lkX11_169 ml_Re_emptyDraft vl_Re_emptyDraft ⟨rfl, rfl, Nat.le_of_ble_eq_true rfl, Nat.le_of_ble_eq_true rfl⟩ (c_Re_emptyDraft g.2.1  e25) kB_1 rfl ⟨by decide, by decide⟩ rfl rfl c1s_0 ?_
        refine J_aload_n o dX11_enter_132 rfl ?_
        refine J_getI o g dX11_enter_133 flX11_159 kB_1 rfl (fun q28 => ?_)
        refine J_iconst o dX11_enter_136 ?_
        refine J_isub o dX11_enter_137 ?_
        have hf := some_inj hf
        subst hf
        exact hc _ _ (R_wr _) dX11_enter_138
      · have hf := ite_t c24 hf
        exact t_Re_enter_100 k  hf hc
  · have hf := ite_f c5 hf
    refine J_iconst o dX11_enter_56 ?_
    have hf := some_inj hf
    subst hf
    exact hc _ _ rl0 dX11_enter_57
noncomputable def f_Re_enter_26 (w : World) (s0 : Int) : Option (World × Int) :=
  if s0 = 0 then (f_Re_enter_50 w 1) else (if (w 1 14) = 12 then (f_Re_enter_50 w 2) else (f_Re_enter_50 w 0))
theorem t_Re_enter_26 {E : EE} {K : KT} {l : Launch} {H0 : Heap} (k : Kof TB E K l cX11_enter RX11 rm_Re_enter) {w : World} {s0 : Int} {o1 : Option Value} (r_s0 : R32 s0) {out : (World × Int)} (hf : f_Re_enter_26 w s0 = some out) (hc : (fun out : (World × Int) => RetI TB E K H0 cX11_enter out.1 out.2) out) : Jj K (WdT TB E H0) w 26 [some (rf E.ad 1), o1] [.int (ii s0)] := by
  unfold f_Re_enter_26 at hf
  have o := k.1
  have g := k.2.1
  have kr := k.2.2.1
  refine J_istore_n o dX11_enter_26 (Nat.le_of_ble_eq_true rfl) ?_
  refine J_aload_n o dX11_enter_27 rfl ?_
  refine J_iload_n o dX11_enter_28 rfl ?_
  refine J_if_ne 36 o dX11_enter_29 (by decide) r_s0 (fun c1 => ?_) (fun c2 => ?_)
  · have hf := ite_f c1 hf
    refine J_aload_n o dX11_enter_36 rfl ?_
    refine J_getI o g dX11_enter_37 flX11_159 kB_1 rfl (fun q3 => ?_)
    refine J_bipush o dX11_enter_40 (by decide) ?_
    refine J_icmp_ne 49 o dX11_enter_42 (by decide) q3 rl12 (fun c4 => ?_) (fun c5 => ?_)
    · have hf := ite_f c4 hf
      refine J_iconst o dX11_enter_49 ?_
      exact t_Re_enter_50 k rl0 hf hc
    · have hf := ite_t c5 hf
      refine J_iconst o dX11_enter_45 ?_
      refine J_goto 50 o dX11_enter_46 (by decide) ?_
      exact t_Re_enter_50 k rl2 hf hc
  · have hf := ite_t c2 hf
    refine J_iconst o dX11_enter_32 ?_
    refine J_goto 50 o dX11_enter_33 (by decide) ?_
    exact t_Re_enter_50 k rl1 hf hc
noncomputable def f_Re_enter_25 (w : World) : Option (World × Int) :=
  f_Re_enter_26 w 0
theorem t_Re_enter_25 {E : EE} {K : KT} {l : Launch} {H0 : Heap} (k : Kof TB E K l cX11_enter RX11 rm_Re_enter) {w : World} {o1 : Option Value}  {out : (World × Int)} (hf : f_Re_enter_25 w = some out) (hc : (fun out : (World × Int) => RetI TB E K H0 cX11_enter out.1 out.2) out) : Jj K (WdT TB E H0) w 25 [some (rf E.ad 1), o1] [] := by
  unfold f_Re_enter_25 at hf
  have o := k.1
  have g := k.2.1
  have kr := k.2.2.1
  refine J_iconst o dX11_enter_25 ?_
  exact t_Re_enter_26 k rl0 hf hc
noncomputable def f_Re_enter (w : World) : Option (World × Int) :=
  if (w 14 18) = (-1) then (f_Re_enter_25 w) else (bnd (f_Re_isSafe w 18 1) fun v5 => if v5 = 0 then (f_Re_enter_25 w) else (f_Re_enter_26 w 1))
theorem t_Re_enter_0 {E : EE} {K : KT} {l : Launch} {H0 : Heap} (k : Kof TB E K l cX11_enter RX11 rm_Re_enter) {w : World} {o1 : Option Value}  {out : (World × Int)} (hf : f_Re_enter w = some out) (hc : (fun out : (World × Int) => RetI TB E K H0 cX11_enter out.1 out.2) out) : Jj K (WdT TB E H0) w 0 [some (rf E.ad 1), o1] [] := by
  unfold f_Re_enter at hf
  have o := k.1
  have g := k.2.1
  have kr := k.2.2.1
  refine J_aload_n o dX11_enter_0 rfl ?_
  refine J_getF (true, 14) o g dX11_enter_1 flX11_47 kB_1 rfl rfl rfl ?_
  refine J_bipush o dX11_enter_4 (by decide) ?_
  refine J_iald o g dX11_enter_6 kB_14 rl18 zB_14 ⟨by decide, by decide⟩ (fun q1 => ?_)
  refine J_iconst o dX11_enter_7 ?_
  refine J_icmp_eq 25 o dX11_enter_8 (by decide) q1 rlm1 (fun c2 => ?_) (fun c3 => ?_)
  · have hf := ite_t c2 hf
    exact t_Re_enter_25 k  hf hc
  · have hf := ite_f c3 hf
    refine J_aload_n o dX11_enter_11 rfl ?_
    refine J_bipush o dX11_enter_12 (by decide) ?_
    refine J_iconst o dX11_enter_14 ?_
    obtain ⟨v5, e4, hf⟩ := bnd_some hf
    refine J_vI o g kr dX11_enter_15 lkX11_155 ml_Re_isSafe vl_Re_isSafe ⟨rfl, rfl, Nat.le_of_ble_eq_true rfl, Nat.le_of_ble_eq_true rfl⟩ (c_Re_isSafe g.2.1 rl18 rl1 e4) kB_1 rfl ⟨by decide, by decide⟩ rfl rfl c1s_0 (fun q6 => ?_)
    refine J_if_eq 25 o dX11_enter_18 (by decide) q6 (fun c7 => ?_) (fun c8 => ?_)
    · have hf := ite_t c7 hf
      exact t_Re_enter_25 k  hf hc
    · have hf := ite_f c8 hf
      refine J_iconst o dX11_enter_21 ?_
      refine J_goto 26 o dX11_enter_22 (by decide) ?_
      exact t_Re_enter_26 k rl1 hf hc
theorem c_Re_enter {E : EE} {l : Launch} (hI : Inj TB E) {w : World}  {out : (World × Int)} (hf : f_Re_enter w = some out) : ConI TB E l yX11_enter (WS yX11_enter cX11_enter 2 (some .int)) rm_Re_enter [rf E.ad 1] w out.1 out.2 :=
  con_I (by decide +kernel) rfl (Nat.le_of_ble_eq_true rfl) (c1s_r c1s_0 (Nat.le_of_ble_eq_true rfl)).1 ⟨rfl, rfl⟩ hI TnB (fun K H0 k hret => t_Re_enter_0 k  hf hret)
abbrev rm_Re_deny : Room := { frames := 3, cells := 0, slots := 0, locals := 74 }
noncomputable def f_Re_deny_49 (w : World) (s1 : Int) : Option (World × Int) :=
  bnd (f_Re_refused w s1) fun v2 => if v2.2 = 0 then (bnd (f_Re_copyDraft v2.1 (wr (12 + (v2.1 1 15)))) fun v8 => gd (0 ≤ wr (12 + (v8 1 15)) ∧ wr (12 + (v8 1 15)) < 19) (bl (up v8 14 (wr (12 + (v8 1 15))).toNat (-1)) fun w12 => bl (up w12 1 15 (wr ((w12 1 15) + 1))) fun w14 => bnd (f_Re_emptyDraft w14 ) fun v16 => some (v16, wr ((v16 1 15) - 1)))) else (some (v2.1, 0))
theorem t_Re_deny_49 {E : EE} {K : KT} {l : Launch} {H0 : Heap} (k : Kof TB E K l cX11_deny RX11 rm_Re_deny) {w : World} {s1 : Int} {o1 : Option Value} (r_s1 : R32 s1) {out : (World × Int)} (hf : f_Re_deny_49 w s1 = some out) (hc : (fun out : (World × Int) => RetI TB E K H0 cX11_deny out.1 out.2) out) : Jj K (WdT TB E H0) w 49 [some (rf E.ad 1), o1] [.int (ii s1), rf E.ad 1] := by
  unfold f_Re_deny_49 at hf
  have o := k.1
  have g := k.2.1
  have kr := k.2.2.1
  obtain ⟨v2, e1, hf⟩ := bnd_some hf
  refine J_vI o g kr dX11_deny_49 lkX11_113 ml_Re_refused vl_Re_refused ⟨rfl, rfl, Nat.le_of_ble_eq_true rfl, Nat.le_of_ble_eq_true rfl⟩ (c_Re_refused g.2.1 r_s1 e1) kB_1 rfl ⟨by decide, by decide⟩ rfl rfl c1s_0 (fun q3 => ?_)
  refine J_if_eq 57 o dX11_deny_52 (by decide) q3 (fun c4 => ?_) (fun c5 => ?_)
  · have hf := ite_t c4 hf
    refine J_aload_n o dX11_deny_57 rfl ?_
    refine J_bipush o dX11_deny_58 (by decide) ?_
    refine J_aload_n o dX11_deny_60 rfl ?_
    refine J_getI o g dX11_deny_61 flX11_172 kB_1 rfl (fun q6 => ?_)
    refine J_iadd o dX11_deny_64 ?_
    obtain ⟨v8, e7, hf⟩ := bnd_some hf
    refine J_vV o g kr dX11_deny_65 lkX11_162 ml_Re_copyDraft vl_Re_copyDraft ⟨rfl, rfl, Nat.le_of_ble_eq_true rfl, Nat.le_of_ble_eq_true rfl⟩ (c_Re_copyDraft g.2.1 (R_wr _) e7) kB_1 rfl ⟨by decide, by decide⟩ rfl rfl c1s_0 ?_
    refine J_aload_n o dX11_deny_68 rfl ?_
    refine J_getF (true, 14) o g dX11_deny_69 flX11_47 kB_1 rfl rfl rfl ?_
    refine J_bipush o dX11_deny_72 (by decide) ?_
    refine J_aload_n o dX11_deny_74 rfl ?_
    refine J_getI o g dX11_deny_75 flX11_172 kB_1 rfl (fun q10 => ?_)
    refine J_iadd o dX11_deny_78 ?_
    refine J_iconst o dX11_deny_79 ?_
    obtain ⟨g11, hf⟩ := gd_some hf
    refine J_iast o g dX11_deny_80 kB_14 (fxB_40 _) (R_wr _) zB_14 g11 rlm1 ?_
    have hf := bl_out hf
    refine J_aload_n o dX11_deny_81 rfl ?_
    refine J_dup o dX11_deny_82 rf_cat ?_
    refine J_getI o g dX11_deny_83 flX11_172 kB_1 rfl (fun q13 => ?_)
    refine J_iconst o dX11_deny_86 ?_
    refine J_iadd o dX11_deny_87 ?_
    refine J_putI o g dX11_deny_88 fpX11_172 kB_1 rfl rfl (R_wr _) ?_
    have hf := bl_out hf
    refine J_aload_n o dX11_deny_91 rfl ?_
    obtain ⟨v16, e15, hf⟩ := bnd_some hf
    refine J_vV o g kr dX11_deny_92 lkX11_169 ml_Re_emptyDraft vl_Re_emptyDraft ⟨rfl, rfl, Nat.le_of_ble_eq_true rfl, Nat.le_of_ble_eq_true rfl⟩ (c_Re_emptyDraft g.2.1  e15) kB_1 rfl ⟨by decide, by decide⟩ rfl rfl c1s_0 ?_
    refine J_aload_n o dX11_deny_95 rfl ?_
    refine J_getI o g dX11_deny_96 flX11_172 kB_1 rfl (fun q18 => ?_)
    refine J_iconst o dX11_deny_99 ?_
    refine J_isub o dX11_deny_100 ?_
    have hf := some_inj hf
    subst hf
    exact hc _ _ (R_wr _) dX11_deny_101
  · have hf := ite_f c5 hf
    refine J_iconst o dX11_deny_55 ?_
    have hf := some_inj hf
    subst hf
    exact hc _ _ rl0 dX11_deny_56
noncomputable def f_Re_deny_25 (w : World) (s0 : Int) : Option (World × Int) :=
  if s0 = 0 then (f_Re_deny_49 w 1) else (if (w 1 15) = 6 then (f_Re_deny_49 w 2) else (f_Re_deny_49 w 0))
theorem t_Re_deny_25 {E : EE} {K : KT} {l : Launch} {H0 : Heap} (k : Kof TB E K l cX11_deny RX11 rm_Re_deny) {w : World} {s0 : Int} {o1 : Option Value} (r_s0 : R32 s0) {out : (World × Int)} (hf : f_Re_deny_25 w s0 = some out) (hc : (fun out : (World × Int) => RetI TB E K H0 cX11_deny out.1 out.2) out) : Jj K (WdT TB E H0) w 25 [some (rf E.ad 1), o1] [.int (ii s0)] := by
  unfold f_Re_deny_25 at hf
  have o := k.1
  have g := k.2.1
  have kr := k.2.2.1
  refine J_istore_n o dX11_deny_25 (Nat.le_of_ble_eq_true rfl) ?_
  refine J_aload_n o dX11_deny_26 rfl ?_
  refine J_iload_n o dX11_deny_27 rfl ?_
  refine J_if_ne 35 o dX11_deny_28 (by decide) r_s0 (fun c1 => ?_) (fun c2 => ?_)
  · have hf := ite_f c1 hf
    refine J_aload_n o dX11_deny_35 rfl ?_
    refine J_getI o g dX11_deny_36 flX11_172 kB_1 rfl (fun q3 => ?_)
    refine J_bipush o dX11_deny_39 (by decide) ?_
    refine J_icmp_ne 48 o dX11_deny_41 (by decide) q3 rl6 (fun c4 => ?_) (fun c5 => ?_)
    · have hf := ite_f c4 hf
      refine J_iconst o dX11_deny_48 ?_
      exact t_Re_deny_49 k rl0 hf hc
    · have hf := ite_t c5 hf
      refine J_iconst o dX11_deny_44 ?_
      refine J_goto 49 o dX11_deny_45 (by decide) ?_
      exact t_Re_deny_49 k rl2 hf hc
  · have hf := ite_t c2 hf
    refine J_iconst o dX11_deny_31 ?_
    refine J_goto 49 o dX11_deny_32 (by decide) ?_
    exact t_Re_deny_49 k rl1 hf hc
noncomputable def f_Re_deny_24 (w : World) : Option (World × Int) :=
  f_Re_deny_25 w 0
theorem t_Re_deny_24 {E : EE} {K : KT} {l : Launch} {H0 : Heap} (k : Kof TB E K l cX11_deny RX11 rm_Re_deny) {w : World} {o1 : Option Value}  {out : (World × Int)} (hf : f_Re_deny_24 w = some out) (hc : (fun out : (World × Int) => RetI TB E K H0 cX11_deny out.1 out.2) out) : Jj K (WdT TB E H0) w 24 [some (rf E.ad 1), o1] [] := by
  unfold f_Re_deny_24 at hf
  have o := k.1
  have g := k.2.1
  have kr := k.2.2.1
  refine J_iconst o dX11_deny_24 ?_
  exact t_Re_deny_25 k rl0 hf hc
noncomputable def f_Re_deny (w : World) : Option (World × Int) :=
  if (w 16 18) ≤ 0 then (f_Re_deny_24 w) else (bnd (f_Re_isSafe w 18 0) fun v5 => if v5 = 0 then (f_Re_deny_24 w) else (f_Re_deny_25 w 1))
theorem t_Re_deny_0 {E : EE} {K : KT} {l : Launch} {H0 : Heap} (k : Kof TB E K l cX11_deny RX11 rm_Re_deny) {w : World} {o1 : Option Value}  {out : (World × Int)} (hf : f_Re_deny w = some out) (hc : (fun out : (World × Int) => RetI TB E K H0 cX11_deny out.1 out.2) out) : Jj K (WdT TB E H0) w 0 [some (rf E.ad 1), o1] [] := by
  unfold f_Re_deny at hf
  have o := k.1
  have g := k.2.1
  have kr := k.2.2.1
  refine J_aload_n o dX11_deny_0 rfl ?_
  refine J_getF (true, 16) o g dX11_deny_1 flX11_53 kB_1 rfl rfl rfl ?_
  refine J_bipush o dX11_deny_4 (by decide) ?_
  refine J_iald o g dX11_deny_6 kB_16 rl18 zB_16 ⟨by decide, by decide⟩ (fun q1 => ?_)
  refine J_if_le 24 o dX11_deny_7 (by decide) q1 (fun c2 => ?_) (fun c3 => ?_)
  · have hf := ite_t c2 hf
    exact t_Re_deny_24 k  hf hc
  · have hf := ite_f c3 hf
    refine J_aload_n o dX11_deny_10 rfl ?_
    refine J_bipush o dX11_deny_11 (by decide) ?_
    refine J_iconst o dX11_deny_13 ?_
    obtain ⟨v5, e4, hf⟩ := bnd_some hf
    refine J_vI o g kr dX11_deny_14 lkX11_155 ml_Re_isSafe vl_Re_isSafe ⟨rfl, rfl, Nat.le_of_ble_eq_true rfl, Nat.le_of_ble_eq_true rfl⟩ (c_Re_isSafe g.2.1 rl18 rl0 e4) kB_1 rfl ⟨by decide, by decide⟩ rfl rfl c1s_0 (fun q6 => ?_)
    refine J_if_eq 24 o dX11_deny_17 (by decide) q6 (fun c7 => ?_) (fun c8 => ?_)
    · have hf := ite_t c7 hf
      exact t_Re_deny_24 k  hf hc
    · have hf := ite_f c8 hf
      refine J_iconst o dX11_deny_20 ?_
      refine J_goto 25 o dX11_deny_21 (by decide) ?_
      exact t_Re_deny_25 k rl1 hf hc
theorem c_Re_deny {E : EE} {l : Launch} (hI : Inj TB E) {w : World}  {out : (World × Int)} (hf : f_Re_deny w = some out) : ConI TB E l yX11_deny (WS yX11_deny cX11_deny 2 (some .int)) rm_Re_deny [rf E.ad 1] w out.1 out.2 :=
  con_I (by decide +kernel) rfl (Nat.le_of_ble_eq_true rfl) (c1s_r c1s_0 (Nat.le_of_ble_eq_true rfl)).1 ⟨rfl, rfl⟩ hI TnB (fun K H0 k hret => t_Re_deny_0 k  hf hret)
abbrev rm_Re_remove : Room := { frames := 9, cells := 0, slots := 0, locals := 218 }
def HW_Re_remove_92 (E : EE) (K : KT) (H0 : Heap) (w : World) : (Int × Int) → Prop := fun z => R32 z.1 → R32 z.2 → ∀ o1 o2 : Option Value, Jj K (WdT TB E H0) w 92 [some (rf E.ad 1), o1, o2, some (.int (ii z.1)), some (.int (ii z.2))] []
noncomputable def f_Re_remove_117 (w : World) (x4 : Int) (s0 : Int) (s1 : Int) : Option ((Int × Int) ⊕ (World × Int)) :=
  bl (wr (s0 + s1)) fun n1 => bl (wr (x4 + 1)) fun n2 => some (Sum.inl (n1, n2))
theorem t_Re_remove_117 {E : EE} {K : KT} {l : Launch} {H0 : Heap} (k : Kof TB E K l cX11_remove RX11 rm_Re_remove) {w : World} {x4 : Int} {s0 : Int} {s1 : Int} {o1 o2 o3 : Option Value} (r_x4 : R32 x4) (r_s0 : R32 s0) (r_s1 : R32 s1) {out : ((Int × Int) ⊕ (World × Int))} (hf : f_Re_remove_117 w x4 s0 s1 = some out) (hc : (Sum.elim (HW_Re_remove_92 E K H0 w) (fun out : (World × Int) => RetI TB E K H0 cX11_remove out.1 out.2)) out) : Jj K (WdT TB E H0) w 117 [some (rf E.ad 1), o1, o2, o3, some (.int (ii x4))] [.int (ii s1), .int (ii s0)] := by
  unfold f_Re_remove_117 at hf
  have o := k.1
  have g := k.2.1
  have kr := k.2.2.1
  refine J_iadd o dX11_remove_117 ?_
  refine J_istore_n o dX11_remove_118 (Nat.le_of_ble_eq_true rfl) ?_
  have hf := bl_out hf
  have hf := bl_out hf
  refine J_iinc o dX11_remove_119 rfl ?_
  refine J_goto 92 o dX11_remove_122 (by decide) ?_
  have hf := some_inj hf
  subst hf
  exact hc (R_wr _) (R_wr _) _ _
noncomputable def f_Re_remove_92B (w : World) (x3 : Int) (x4 : Int) : Option ((Int × Int) ⊕ (World × Int)) :=
  if (w 1 14) ≤ x4 then (some (Sum.inr (w, x3))) else (gd (0 ≤ x4 ∧ x4 < 12) (if (w 13 x4.toNat) = 0 then (f_Re_remove_117 w x4 x3 1) else (f_Re_remove_117 w x4 x3 0)))
theorem t_Re_remove_92B {E : EE} {K : KT} {l : Launch} {H0 : Heap} (k : Kof TB E K l cX11_remove RX11 rm_Re_remove) {w : World} {x3 : Int} {x4 : Int} {o1 o2 : Option Value} (r_x3 : R32 x3) (r_x4 : R32 x4) {out : ((Int × Int) ⊕ (World × Int))} (hf : f_Re_remove_92B w x3 x4 = some out) (hc : (Sum.elim (HW_Re_remove_92 E K H0 w) (fun out : (World × Int) => RetI TB E K H0 cX11_remove out.1 out.2)) out) : Jj K (WdT TB E H0) w 92 [some (rf E.ad 1), o1, o2, some (.int (ii x3)), some (.int (ii x4))] [] := by
  unfold f_Re_remove_92B at hf
  have o := k.1
  have g := k.2.1
  have kr := k.2.2.1
  refine J_iload o dX11_remove_92 rfl ?_
  refine J_aload_n o dX11_remove_94 rfl ?_
  refine J_getI o g dX11_remove_95 flX11_159 kB_1 rfl (fun q1 => ?_)
  refine J_icmp_ge 125 o dX11_remove_98 (by decide) r_x4 q1 (fun c2 => ?_) (fun c3 => ?_)
  · have hf := ite_t c2 hf
    refine J_iload_n o dX11_remove_125 rfl ?_
    have hf := some_inj hf
    subst hf
    exact hc _ _ r_x3 dX11_remove_126
  · have hf := ite_f c3 hf
    refine J_iload_n o dX11_remove_101 rfl ?_
    refine J_aload_n o dX11_remove_102 rfl ?_
    refine J_getF (true, 13) o g dX11_remove_103 flX11_44 kB_1 rfl rfl rfl ?_
    refine J_iload o dX11_remove_106 rfl ?_
    obtain ⟨g4, hf⟩ := gd_some hf
    refine J_zald o g dX11_remove_108 kB_13 r_x4 zB_13 g4 (fun q5 => ?_)
    refine J_if_eq 116 o dX11_remove_109 (by decide) q5 (fun c6 => ?_) (fun c7 => ?_)
    · have hf := ite_t c6 hf
      refine J_iconst o dX11_remove_116 ?_
      exact t_Re_remove_117 k r_x4 r_x3 rl1 hf hc
    · have hf := ite_f c7 hf
      refine J_iconst o dX11_remove_112 ?_
      refine J_goto 117 o dX11_remove_113 (by decide) ?_
      exact t_Re_remove_117 k r_x4 r_x3 rl0 hf hc
noncomputable def f_Re_remove_92 (w : World) (x3 : Int) (x4 : Int) : Option (World × Int) :=
  lp (fun z : (Int × Int) => f_Re_remove_92B w z.1 z.2) (x3, x4)
theorem t_Re_remove_92 {E : EE} {K : KT} {l : Launch} {H0 : Heap} (k : Kof TB E K l cX11_remove RX11 rm_Re_remove) {w : World} {x3 : Int} {x4 : Int}  {out : (World × Int)} (hf : f_Re_remove_92 w x3 x4 = some out) (hc : (fun out : (World × Int) => RetI TB E K H0 cX11_remove out.1 out.2) out) : HW_Re_remove_92 E K H0 w (x3, x4) := by
  unfold f_Re_remove_92 at hf
  refine lp_ind (P := HW_Re_remove_92 E K H0 w) hf ?_
  intro z o hs h1 h2
  intro r_x3 r_x4
  intro o1 o2
  refine t_Re_remove_92B k r_x3 r_x4 hs ?_
  cases o with
  | inl z' => exact h1 z' rfl
  | inr r' => rw [h2 r' rfl]; exact hc
noncomputable def f_Re_remove_35 (w : World) (x1 : Int) (s1 : Int) : Option (World × Int) :=
  bnd (f_Re_refused w s1) fun v2 => if v2.2 = 0 then (gd (0 ≤ x1 ∧ x1 < 12) (bl (up v2.1 13 x1.toNat 1) fun w7 => bnd (f_Re_layer w7 ) fun v9 => bnd (f_Re_buildAll v9.1 ) fun v12 => if v12.2 = 0 then (gd (0 ≤ x1 ∧ x1 < 12) (bl (up v12.1 13 x1.toNat 0) fun w17 => bnd (f_Re_layer w17 ) fun v19 => bnd (f_Re_buildAll v19.1 ) fun v22 => bnd (f_Re_refused v22.1 2) fun v25 => some (v25.1, 0))) else (f_Re_remove_92 v12.1 0 0))) else (some (v2.1, 0))
theorem t_Re_remove_35 {E : EE} {K : KT} {l : Launch} {H0 : Heap} (k : Kof TB E K l cX11_remove RX11 rm_Re_remove) {w : World} {x1 : Int} {s1 : Int} {o2 o3 o4 : Option Value} (r_x1 : R32 x1) (r_s1 : R32 s1) {out : (World × Int)} (hf : f_Re_remove_35 w x1 s1 = some out) (hc : (fun out : (World × Int) => RetI TB E K H0 cX11_remove out.1 out.2) out) : Jj K (WdT TB E H0) w 35 [some (rf E.ad 1), some (.int (ii x1)), o2, o3, o4] [.int (ii s1), rf E.ad 1] := by
  unfold f_Re_remove_35 at hf
  have o := k.1
  have g := k.2.1
  have kr := k.2.2.1
  obtain ⟨v2, e1, hf⟩ := bnd_some hf
  refine J_vI o g kr dX11_remove_35 lkX11_113 ml_Re_refused vl_Re_refused ⟨rfl, rfl, Nat.le_of_ble_eq_true rfl, Nat.le_of_ble_eq_true rfl⟩ (c_Re_refused g.2.1 r_s1 e1) kB_1 rfl ⟨by decide, by decide⟩ rfl rfl c1s_0 (fun q3 => ?_)
  refine J_if_eq 43 o dX11_remove_38 (by decide) q3 (fun c4 => ?_) (fun c5 => ?_)
  · have hf := ite_t c4 hf
    refine J_aload_n o dX11_remove_43 rfl ?_
    refine J_getF (true, 13) o g dX11_remove_44 flX11_44 kB_1 rfl rfl rfl ?_
    refine J_iload_n o dX11_remove_47 rfl ?_
    refine J_iconst o dX11_remove_48 ?_
    obtain ⟨g6, hf⟩ := gd_some hf
    refine J_zast o g dX11_remove_49 kB_13 (fxB_41 _) r_x1 zB_13 g6 (Or.inr rfl) ?_
    have hf := bl_out hf
    refine J_aload_n o dX11_remove_50 rfl ?_
    obtain ⟨v9, e8, hf⟩ := bnd_some hf
    refine J_vI o g kr dX11_remove_51 lkX11_166 ml_Re_layer vl_Re_layer ⟨rfl, rfl, Nat.le_of_ble_eq_true rfl, Nat.le_of_ble_eq_true rfl⟩ (c_Re_layer g.2.1  e8) kB_1 rfl ⟨by decide, by decide⟩ rfl rfl c1s_0 (fun q10 => ?_)
    refine J_pop o dX11_remove_54 rfl ?_
    refine J_aload_n o dX11_remove_55 rfl ?_
    obtain ⟨v12, e11, hf⟩ := bnd_some hf
    refine J_vI o g kr dX11_remove_56 lkX11_127 ml_Re_buildAll vl_Re_buildAll ⟨rfl, rfl, Nat.le_of_ble_eq_true rfl, Nat.le_of_ble_eq_true rfl⟩ (c_Re_buildAll g.2.1  e11) kB_1 rfl ⟨by decide, by decide⟩ rfl rfl c1s_0 (fun q13 => ?_)
    refine J_if_ne 87 o dX11_remove_59 (by decide) q13 (fun c14 => ?_) (fun c15 => ?_)
    · have hf := ite_f c14 hf
      refine J_iconst o dX11_remove_87 ?_
      refine J_istore_n o dX11_remove_88 (Nat.le_of_ble_eq_true rfl) ?_
      refine J_iconst o dX11_remove_89 ?_
      refine J_istore o dX11_remove_90 (Nat.le_of_ble_eq_true rfl) ?_
      exact (t_Re_remove_92 k  hf hc) rl0 rl0 _ _
    · have hf := ite_t c15 hf
      refine J_aload_n o dX11_remove_62 rfl ?_
      refine J_getF (true, 13) o g dX11_remove_63 flX11_44 kB_1 rfl rfl rfl ?_
      refine J_iload_n o dX11_remove_66 rfl ?_
      refine J_iconst o dX11_remove_67 ?_
      obtain ⟨g16, hf⟩ := gd_some hf
      refine J_zast o g dX11_remove_68 kB_13 (fxB_41 _) r_x1 zB_13 g16 (Or.inl rfl) ?_
      have hf := bl_out hf
      refine J_aload_n o dX11_remove_69 rfl ?_
      obtain ⟨v19, e18, hf⟩ := bnd_some hf
      refine J_vI o g kr dX11_remove_70 lkX11_166 ml_Re_layer vl_Re_layer ⟨rfl, rfl, Nat.le_of_ble_eq_true rfl, Nat.le_of_ble_eq_true rfl⟩ (c_Re_layer g.2.1  e18) kB_1 rfl ⟨by decide, by decide⟩ rfl rfl c1s_0 (fun q20 => ?_)
      refine J_pop o dX11_remove_73 rfl ?_
      refine J_aload_n o dX11_remove_74 rfl ?_
      obtain ⟨v22, e21, hf⟩ := bnd_some hf
      refine J_vI o g kr dX11_remove_75 lkX11_127 ml_Re_buildAll vl_Re_buildAll ⟨rfl, rfl, Nat.le_of_ble_eq_true rfl, Nat.le_of_ble_eq_true rfl⟩ (c_Re_buildAll g.2.1  e21) kB_1 rfl ⟨by decide, by decide⟩ rfl rfl c1s_0 (fun q23 => ?_)
      refine J_pop o dX11_remove_78 rfl ?_
      refine J_aload_n o dX11_remove_79 rfl ?_
      refine J_iconst o dX11_remove_80 ?_
      obtain ⟨v25, e24, hf⟩ := bnd_some hf
      refine J_vI o g kr dX11_remove_81 lkX11_113 ml_Re_refused vl_Re_refused ⟨rfl, rfl, Nat.le_of_ble_eq_true rfl, Nat.le_of_ble_eq_true rfl⟩ (c_Re_refused g.2.1 rl2 e24) kB_1 rfl ⟨by decide, by decide⟩ rfl rfl c1s_0 (fun q26 => ?_)
      refine J_pop o dX11_remove_84 rfl ?_
      refine J_iconst o dX11_remove_85 ?_
      have hf := some_inj hf
      subst hf
      exact hc _ _ rl0 dX11_remove_86
  · have hf := ite_f c5 hf
    refine J_iconst o dX11_remove_41 ?_
    have hf := some_inj hf
    subst hf
    exact hc _ _ rl0 dX11_remove_42
noncomputable def f_Re_remove (w : World) (x1 : Int) : Option (World × Int) :=
  bnd (f_Re_in x1 0 (wr ((w 1 14) - 1))) fun v3 => if v3 = 0 then (f_Re_remove_35 w x1 1) else (gd (0 ≤ x1 ∧ x1 < 12) (if (w 13 x1.toNat) = 0 then (f_Re_remove_35 w x1 0) else (f_Re_remove_35 w x1 2)))
theorem t_Re_remove_0 {E : EE} {K : KT} {l : Launch} {H0 : Heap} (k : Kof TB E K l cX11_remove RX11 rm_Re_remove) {w : World} {x1 : Int} {o2 o3 o4 : Option Value} (r_x1 : R32 x1) {out : (World × Int)} (hf : f_Re_remove w x1 = some out) (hc : (fun out : (World × Int) => RetI TB E K H0 cX11_remove out.1 out.2) out) : Jj K (WdT TB E H0) w 0 [some (rf E.ad 1), some (.int (ii x1)), o2, o3, o4] [] := by
  unfold f_Re_remove at hf
  have o := k.1
  have g := k.2.1
  have kr := k.2.2.1
  refine J_iload_n o dX11_remove_0 rfl ?_
  refine J_iconst o dX11_remove_1 ?_
  refine J_aload_n o dX11_remove_2 rfl ?_
  refine J_getI o g dX11_remove_3 flX11_159 kB_1 rfl (fun q1 => ?_)
  refine J_iconst o dX11_remove_6 ?_
  refine J_isub o dX11_remove_7 ?_
  obtain ⟨v3, e2, hf⟩ := bnd_some hf
  refine J_sI o g kr dX11_remove_8 lkX11_102 ml_Re_in mw1488 ⟨rfl, rfl, Nat.le_of_ble_eq_true rfl, Nat.le_of_ble_eq_true rfl⟩ (c_Re_in g.2.1 r_x1 rl0 (R_wr _) e2) rfl rfl c1s_0 (fun q4 => ?_)
  refine J_istore_n o dX11_remove_11 (Nat.le_of_ble_eq_true rfl) ?_
  refine J_aload_n o dX11_remove_12 rfl ?_
  refine J_iload_n o dX11_remove_13 rfl ?_
  refine J_if_ne 21 o dX11_remove_14 (by decide) q4 (fun c5 => ?_) (fun c6 => ?_)
  · have hf := ite_f c5 hf
    refine J_aload_n o dX11_remove_21 rfl ?_
    refine J_getF (true, 13) o g dX11_remove_22 flX11_44 kB_1 rfl rfl rfl ?_
    refine J_iload_n o dX11_remove_25 rfl ?_
    obtain ⟨g7, hf⟩ := gd_some hf
    refine J_zald o g dX11_remove_26 kB_13 r_x1 zB_13 g7 (fun q8 => ?_)
    refine J_if_eq 34 o dX11_remove_27 (by decide) q8 (fun c9 => ?_) (fun c10 => ?_)
    · have hf := ite_t c9 hf
      refine J_iconst o dX11_remove_34 ?_
      exact t_Re_remove_35 k r_x1 rl0 hf hc
    · have hf := ite_f c10 hf
      refine J_iconst o dX11_remove_30 ?_
      refine J_goto 35 o dX11_remove_31 (by decide) ?_
      exact t_Re_remove_35 k r_x1 rl2 hf hc
  · have hf := ite_t c6 hf
    refine J_iconst o dX11_remove_17 ?_
    refine J_goto 35 o dX11_remove_18 (by decide) ?_
    exact t_Re_remove_35 k r_x1 rl1 hf hc
theorem c_Re_remove {E : EE} {l : Launch} (hI : Inj TB E) {w : World} {x1 : Int} (r_x1 : R32 x1) {out : (World × Int)} (hf : f_Re_remove w x1 = some out) : ConI TB E l yX11_remove (WS yX11_remove cX11_remove 5 (some .int)) rm_Re_remove [rf E.ad 1, .int (ii x1)] w out.1 out.2 :=
  con_I (by decide +kernel) rfl (Nat.le_of_ble_eq_true rfl) (c1s_r (c1s_i c1s_0 (Nat.le_of_ble_eq_true rfl)) (Nat.le_of_ble_eq_true rfl)).1 ⟨rfl, rfl⟩ hI TnB (fun K H0 k hret => t_Re_remove_0 k r_x1 hf hret)
abbrev rm_Re_give : Room := { frames := 2, cells := 0, slots := 0, locals := 45 }
noncomputable def f_Re_give (w : World) (x1 : Int) (x2 : Int) : Option (World × Int) :=
  bnd (f_Re_isBound w x1) fun v2 => if v2 = 0 then (gd (0 ≤ wr ((-1) - x1) ∧ wr ((-1) - x1) < 8) (bl (up w 23 (wr ((-1) - x1)).toNat x2) fun w7 => gd (0 ≤ wr ((-1) - x1) ∧ wr ((-1) - x1) < 8) (bl (up w7 24 (wr ((-1) - x1)).toNat (-1)) fun w9 => some (w9, 1)))) else (bnd (f_Re_valueOf w x1) fun v11 => if v11 = x2 then (some (w, 1)) else (some (w, 0)))
theorem t_Re_give_0 {E : EE} {K : KT} {l : Launch} {H0 : Heap} (k : Kof TB E K l cX11_give RX11 rm_Re_give) {w : World} {x1 : Int} {x2 : Int} (r_x1 : R32 x1) (r_x2 : R32 x2) {out : (World × Int)} (hf : f_Re_give w x1 x2 = some out) (hc : (fun out : (World × Int) => RetZ TB E K H0 cX11_give out.1 out.2) out) : Jj K (WdT TB E H0) w 0 [some (rf E.ad 1), some (.int (ii x1)), some (.int (ii x2))] [] := by
  unfold f_Re_give at hf
  have o := k.1
  have g := k.2.1
  have kr := k.2.2.1
  refine J_aload_n o dX11_give_0 rfl ?_
  refine J_iload_n o dX11_give_1 rfl ?_
  obtain ⟨v2, e1, hf⟩ := bnd_some hf
  refine J_vI o g kr dX11_give_2 lkX11_190 ml_Re_isBound vl_Re_isBound ⟨rfl, rfl, Nat.le_of_ble_eq_true rfl, Nat.le_of_ble_eq_true rfl⟩ (c_Re_isBound g.2.1 r_x1 e1) kB_1 rfl ⟨by decide, by decide⟩ rfl rfl c1s_0 (fun q3 => ?_)
  refine J_if_eq 23 o dX11_give_5 (by decide) q3 (fun c4 => ?_) (fun c5 => ?_)
  · have hf := ite_t c4 hf
    refine J_aload_n o dX11_give_23 rfl ?_
    refine J_getF (true, 23) o g dX11_give_24 flX11_74 kB_1 rfl rfl rfl ?_
    refine J_iconst o dX11_give_27 ?_
    refine J_iload_n o dX11_give_28 rfl ?_
    refine J_isub o dX11_give_29 ?_
    refine J_iload_n o dX11_give_30 rfl ?_
    obtain ⟨g6, hf⟩ := gd_some hf
    refine J_iast o g dX11_give_31 kB_23 (fxB_40 _) (R_wr _) zB_23 g6 r_x2 ?_
    have hf := bl_out hf
    refine J_aload_n o dX11_give_32 rfl ?_
    refine J_getF (true, 24) o g dX11_give_33 flX11_77 kB_1 rfl rfl rfl ?_
    refine J_iconst o dX11_give_36 ?_
    refine J_iload_n o dX11_give_37 rfl ?_
    refine J_isub o dX11_give_38 ?_
    refine J_iconst o dX11_give_39 ?_
    obtain ⟨g8, hf⟩ := gd_some hf
    refine J_iast o g dX11_give_40 kB_24 (fxB_40 _) (R_wr _) zB_24 g8 rlm1 ?_
    have hf := bl_out hf
    refine J_iconst o dX11_give_41 ?_
    have hf := some_inj hf
    subst hf
    exact hc _ _ (Or.inr rfl) dX11_give_42
  · have hf := ite_f c5 hf
    refine J_aload_n o dX11_give_8 rfl ?_
    refine J_iload_n o dX11_give_9 rfl ?_
    obtain ⟨v11, e10, hf⟩ := bnd_some hf
    refine J_vI o g kr dX11_give_10 lkX11_193 ml_Re_valueOf vl_Re_valueOf ⟨rfl, rfl, Nat.le_of_ble_eq_true rfl, Nat.le_of_ble_eq_true rfl⟩ (c_Re_valueOf g.2.1 r_x1 e10) kB_1 rfl ⟨by decide, by decide⟩ rfl rfl c1s_0 (fun q12 => ?_)
    refine J_iload_n o dX11_give_13 rfl ?_
    refine J_icmp_ne 21 o dX11_give_14 (by decide) q12 r_x2 (fun c13 => ?_) (fun c14 => ?_)
    · have hf := ite_f c13 hf
      refine J_iconst o dX11_give_21 ?_
      have hf := some_inj hf
      subst hf
      exact hc _ _ (Or.inl rfl) dX11_give_22
    · have hf := ite_t c14 hf
      refine J_iconst o dX11_give_17 ?_
      refine J_goto 22 o dX11_give_18 (by decide) ?_
      have hf := some_inj hf
      subst hf
      exact hc _ _ (Or.inr rfl) dX11_give_22
theorem c_Re_give {E : EE} {l : Launch} (hI : Inj TB E) {w : World} {x1 : Int} {x2 : Int} (r_x1 : R32 x1) (r_x2 : R32 x2) {out : (World × Int)} (hf : f_Re_give w x1 x2 = some out) : ConI TB E l yX11_give (WS yX11_give cX11_give 3 (some .boolean)) rm_Re_give [rf E.ad 1, .int (ii x1), .int (ii x2)] w out.1 out.2 :=
  con_Z (by decide +kernel) rfl (Nat.le_of_ble_eq_true rfl) (c1s_r (c1s_i (c1s_i c1s_0 (Nat.le_of_ble_eq_true rfl)) (Nat.le_of_ble_eq_true rfl)) (Nat.le_of_ble_eq_true rfl)).1 ⟨rfl, rfl⟩ hI TnB (fun K H0 k hret => t_Re_give_0 k r_x1 r_x2 hf hret)
abbrev rm_Re_hasTuple : Room := { frames := 2, cells := 0, slots := 0, locals := 54 }
noncomputable def f_Re_hasTuple (w : World) (x1 : Int) (x2 : Int) (x3 : Int) (x4 : Int) (x5 : Int) : Option Int :=
  bnd (f_Re_place w x1 x2 x3 x4 x5) fun v2 => bl (wr (3 * (wr ((wr (50 * x1)) + v2)))) fun n4 => if v2 = (-1) then (some 0) else (gd (0 ≤ n4 ∧ n4 < 750) (if (w 22 n4.toNat) = x3 then (gd (0 ≤ wr (n4 + 1) ∧ wr (n4 + 1) < 750) (if (w 22 (wr (n4 + 1)).toNat) = x4 then (gd (0 ≤ wr (n4 + 2) ∧ wr (n4 + 2) < 750) (if (w 22 (wr (n4 + 2)).toNat) = x5 then (some 1) else (some 0))) else (some 0))) else (some 0)))
theorem t_Re_hasTuple_0 {E : EE} {K : KT} {l : Launch} {H0 : Heap} (k : Kof TB E K l cX11_hasTuple RX11 rm_Re_hasTuple) {w : World} {x1 : Int} {x2 : Int} {x3 : Int} {x4 : Int} {x5 : Int} {o6 o7 : Option Value} (r_x1 : R32 x1) (r_x2 : R32 x2) (r_x3 : R32 x3) (r_x4 : R32 x4) (r_x5 : R32 x5) {out : Int} (hf : f_Re_hasTuple w x1 x2 x3 x4 x5 = some out) (hc : (fun out : Int => RetZ TB E K H0 cX11_hasTuple w out) out) : Jj K (WdT TB E H0) w 0 [some (rf E.ad 1), some (.int (ii x1)), some (.int (ii x2)), some (.int (ii x3)), some (.int (ii x4)), some (.int (ii x5)), o6, o7] [] := by
  unfold f_Re_hasTuple at hf
  have o := k.1
  have g := k.2.1
  have kr := k.2.2.1
  refine J_aload_n o dX11_hasTuple_0 rfl ?_
  refine J_iload_n o dX11_hasTuple_1 rfl ?_
  refine J_iload_n o dX11_hasTuple_2 rfl ?_
  refine J_iload_n o dX11_hasTuple_3 rfl ?_
  refine J_iload o dX11_hasTuple_4 rfl ?_
  refine J_iload o dX11_hasTuple_6 rfl ?_
  obtain ⟨v2, e1, hf⟩ := bnd_some hf
  refine J_vI o g kr dX11_hasTuple_8 lkX11_217 ml_Re_place vl_Re_place ⟨rfl, rfl, Nat.le_of_ble_eq_true rfl, Nat.le_of_ble_eq_true rfl⟩ (c_Re_place g.2.1 r_x1 r_x2 r_x3 r_x4 r_x5 e1) kB_1 rfl ⟨by decide, by decide⟩ rfl rfl c1s_0 (fun q3 => ?_)
  refine J_istore o dX11_hasTuple_11 (Nat.le_of_ble_eq_true rfl) ?_
  refine J_iconst o dX11_hasTuple_13 ?_
  refine J_bipush o dX11_hasTuple_14 (by decide) ?_
  refine J_iload_n o dX11_hasTuple_16 rfl ?_
  refine J_imul o dX11_hasTuple_17 ?_
  refine J_iload o dX11_hasTuple_18 rfl ?_
  refine J_iadd o dX11_hasTuple_20 ?_
  refine J_imul o dX11_hasTuple_21 ?_
  refine J_istore o dX11_hasTuple_22 (Nat.le_of_ble_eq_true rfl) ?_
  have hf := bl_out hf
  refine J_iload o dX11_hasTuple_24 rfl ?_
  refine J_iconst o dX11_hasTuple_26 ?_
  refine J_icmp_eq 73 o dX11_hasTuple_27 (by decide) q3 rlm1 (fun c5 => ?_) (fun c6 => ?_)
  · have hf := ite_t c5 hf
    refine J_iconst o dX11_hasTuple_73 ?_
    have hf := some_inj hf
    subst hf
    exact hc _ _ (Or.inl rfl) dX11_hasTuple_74
  · have hf := ite_f c6 hf
    refine J_aload_n o dX11_hasTuple_30 rfl ?_
    refine J_getF (true, 22) o g dX11_hasTuple_31 flX11_71 kB_1 rfl rfl rfl ?_
    refine J_iload o dX11_hasTuple_34 rfl ?_
    obtain ⟨g7, hf⟩ := gd_some hf
    refine J_iald o g dX11_hasTuple_36 kB_22 (R_wr _) zB_22 g7 (fun q8 => ?_)
    refine J_iload_n o dX11_hasTuple_37 rfl ?_
    refine J_icmp_ne 73 o dX11_hasTuple_38 (by decide) q8 r_x3 (fun c9 => ?_) (fun c10 => ?_)
    · have hf := ite_f c9 hf
      refine J_iconst o dX11_hasTuple_73 ?_
      have hf := some_inj hf
      subst hf
      exact hc _ _ (Or.inl rfl) dX11_hasTuple_74
    · have hf := ite_t c10 hf
      refine J_aload_n o dX11_hasTuple_41 rfl ?_
      refine J_getF (true, 22) o g dX11_hasTuple_42 flX11_71 kB_1 rfl rfl rfl ?_
      refine J_iload o dX11_hasTuple_45 rfl ?_
      refine J_iconst o dX11_hasTuple_47 ?_
      refine J_iadd o dX11_hasTuple_48 ?_
      obtain ⟨g11, hf⟩ := gd_some hf
      refine J_iald o g dX11_hasTuple_49 kB_22 (R_wr _) zB_22 g11 (fun q12 => ?_)
      refine J_iload o dX11_hasTuple_50 rfl ?_
      refine J_icmp_ne 73 o dX11_hasTuple_52 (by decide) q12 r_x4 (fun c13 => ?_) (fun c14 => ?_)
      · have hf := ite_f c13 hf
        refine J_iconst o dX11_hasTuple_73 ?_
        have hf := some_inj hf
        subst hf
        exact hc _ _ (Or.inl rfl) dX11_hasTuple_74
      · have hf := ite_t c14 hf
        refine J_aload_n o dX11_hasTuple_55 rfl ?_
        refine J_getF (true, 22) o g dX11_hasTuple_56 flX11_71 kB_1 rfl rfl rfl ?_
        refine J_iload o dX11_hasTuple_59 rfl ?_
        refine J_iconst o dX11_hasTuple_61 ?_
        refine J_iadd o dX11_hasTuple_62 ?_
        obtain ⟨g15, hf⟩ := gd_some hf
        refine J_iald o g dX11_hasTuple_63 kB_22 (R_wr _) zB_22 g15 (fun q16 => ?_)
        refine J_iload o dX11_hasTuple_64 rfl ?_
        refine J_icmp_ne 73 o dX11_hasTuple_66 (by decide) q16 r_x5 (fun c17 => ?_) (fun c18 => ?_)
        · have hf := ite_f c17 hf
          refine J_iconst o dX11_hasTuple_73 ?_
          have hf := some_inj hf
          subst hf
          exact hc _ _ (Or.inl rfl) dX11_hasTuple_74
        · have hf := ite_t c18 hf
          refine J_iconst o dX11_hasTuple_69 ?_
          refine J_goto 74 o dX11_hasTuple_70 (by decide) ?_
          have hf := some_inj hf
          subst hf
          exact hc _ _ (Or.inr rfl) dX11_hasTuple_74
theorem c_Re_hasTuple {E : EE} {l : Launch} (hI : Inj TB E) {w : World} {x1 : Int} {x2 : Int} {x3 : Int} {x4 : Int} {x5 : Int} (r_x1 : R32 x1) (r_x2 : R32 x2) (r_x3 : R32 x3) (r_x4 : R32 x4) (r_x5 : R32 x5) {out : Int} (hf : f_Re_hasTuple w x1 x2 x3 x4 x5 = some out) : ConI TB E l yX11_hasTuple (WS yX11_hasTuple cX11_hasTuple 8 (some .boolean)) rm_Re_hasTuple [rf E.ad 1, .int (ii x1), .int (ii x2), .int (ii x3), .int (ii x4), .int (ii x5)] w w out :=
  con_Z (by decide +kernel) rfl (Nat.le_of_ble_eq_true rfl) (c1s_r (c1s_i (c1s_i (c1s_i (c1s_i (c1s_i c1s_0 (Nat.le_of_ble_eq_true rfl)) (Nat.le_of_ble_eq_true rfl)) (Nat.le_of_ble_eq_true rfl)) (Nat.le_of_ble_eq_true rfl)) (Nat.le_of_ble_eq_true rfl)) (Nat.le_of_ble_eq_true rfl)).1 ⟨rfl, rfl⟩ hI TnB (fun K H0 k hret => t_Re_hasTuple_0 k r_x1 r_x2 r_x3 r_x4 r_x5 hf hret)
abbrev rm_Re_noRelation : Room := { frames := 3, cells := 0, slots := 0, locals := 67 }
noncomputable def f_Re_noRelation_14 (w : World) (s1 : Int) : Option (World × Int) :=
  bnd (f_Re_refused w s1) fun v2 => gd (v2.2 = 0 ∨ v2.2 = 1) (some (v2.1, v2.2))
theorem t_Re_noRelation_14 {E : EE} {K : KT} {l : Launch} {H0 : Heap} (k : Kof TB E K l cX11_noRelation RX11 rm_Re_noRelation) {w : World} {s1 : Int} {o0 o1 : Option Value} (r_s1 : R32 s1) {out : (World × Int)} (hf : f_Re_noRelation_14 w s1 = some out) (hc : (fun out : (World × Int) => RetZ TB E K H0 cX11_noRelation out.1 out.2) out) : Jj K (WdT TB E H0) w 14 [o0, o1] [.int (ii s1), rf E.ad 1] := by
  unfold f_Re_noRelation_14 at hf
  have o := k.1
  have g := k.2.1
  have kr := k.2.2.1
  obtain ⟨v2, e1, hf⟩ := bnd_some hf
  refine J_vI o g kr dX11_noRelation_14 lkX11_113 ml_Re_refused vl_Re_refused ⟨rfl, rfl, Nat.le_of_ble_eq_true rfl, Nat.le_of_ble_eq_true rfl⟩ (c_Re_refused g.2.1 r_s1 e1) kB_1 rfl ⟨by decide, by decide⟩ rfl rfl c1s_0 (fun q3 => ?_)
  obtain ⟨g4, hf⟩ := gd_some hf
  have hf := some_inj hf
  subst hf
  exact hc _ _ g4 dX11_noRelation_17
noncomputable def f_Re_noRelation (w : World) (x1 : Int) : Option (World × Int) :=
  bnd (f_Re_isRelation w x1) fun v2 => if v2 = 0 then (f_Re_noRelation_14 w 1) else (f_Re_noRelation_14 w 0)
theorem t_Re_noRelation_0 {E : EE} {K : KT} {l : Launch} {H0 : Heap} (k : Kof TB E K l cX11_noRelation RX11 rm_Re_noRelation) {w : World} {x1 : Int} (r_x1 : R32 x1) {out : (World × Int)} (hf : f_Re_noRelation w x1 = some out) (hc : (fun out : (World × Int) => RetZ TB E K H0 cX11_noRelation out.1 out.2) out) : Jj K (WdT TB E H0) w 0 [some (rf E.ad 1), some (.int (ii x1))] [] := by
  unfold f_Re_noRelation at hf
  have o := k.1
  have g := k.2.1
  have kr := k.2.2.1
  refine J_aload_n o dX11_noRelation_0 rfl ?_
  refine J_aload_n o dX11_noRelation_1 rfl ?_
  refine J_iload_n o dX11_noRelation_2 rfl ?_
  obtain ⟨v2, e1, hf⟩ := bnd_some hf
  refine J_vI o g kr dX11_noRelation_3 lkX11_117 ml_Re_isRelation vl_Re_isRelation ⟨rfl, rfl, Nat.le_of_ble_eq_true rfl, Nat.le_of_ble_eq_true rfl⟩ (c_Re_isRelation g.2.1 r_x1 e1) kB_1 rfl ⟨by decide, by decide⟩ rfl rfl (c1s_r c1s_0 (Nat.le_of_ble_eq_true rfl)) (fun q3 => ?_)
  refine J_if_eq 13 o dX11_noRelation_6 (by decide) q3 (fun c4 => ?_) (fun c5 => ?_)
  · have hf := ite_t c4 hf
    refine J_iconst o dX11_noRelation_13 ?_
    exact t_Re_noRelation_14 k rl1 hf hc
  · have hf := ite_f c5 hf
    refine J_iconst o dX11_noRelation_9 ?_
    refine J_goto 14 o dX11_noRelation_10 (by decide) ?_
    exact t_Re_noRelation_14 k rl0 hf hc
theorem c_Re_noRelation {E : EE} {l : Launch} (hI : Inj TB E) {w : World} {x1 : Int} (r_x1 : R32 x1) {out : (World × Int)} (hf : f_Re_noRelation w x1 = some out) : ConI TB E l yX11_noRelation (WS yX11_noRelation cX11_noRelation 2 (some .boolean)) rm_Re_noRelation [rf E.ad 1, .int (ii x1)] w out.1 out.2 :=
  con_Z (by decide +kernel) rfl (Nat.le_of_ble_eq_true rfl) (c1s_r (c1s_i c1s_0 (Nat.le_of_ble_eq_true rfl)) (Nat.le_of_ble_eq_true rfl)).1 ⟨rfl, rfl⟩ hI TnB (fun K H0 k hret => t_Re_noRelation_0 k r_x1 hf hret)
abbrev rm_Re_holds : Room := { frames := 4, cells := 0, slots := 0, locals := 88 }
noncomputable def f_Re_holds (w : World) (x1 : Int) (x2 : Int) (x3 : Int) (x4 : Int) : Option (World × Int) :=
  bnd (f_Re_noRelation w x1) fun v2 => if v2.2 = 0 then (bnd (f_Re_hasTuple v2.1 (v2.1 1 1) x1 x2 x3 x4) fun v8 => if v8 = 0 then (some (v2.1, 0)) else (some (v2.1, 1))) else (some (v2.1, 0))
theorem t_Re_holds_0 {E : EE} {K : KT} {l : Launch} {H0 : Heap} (k : Kof TB E K l cX11_holds RX11 rm_Re_holds) {w : World} {x1 : Int} {x2 : Int} {x3 : Int} {x4 : Int} (r_x1 : R32 x1) (r_x2 : R32 x2) (r_x3 : R32 x3) (r_x4 : R32 x4) {out : (World × Int)} (hf : f_Re_holds w x1 x2 x3 x4 = some out) (hc : (fun out : (World × Int) => RetZ TB E K H0 cX11_holds out.1 out.2) out) : Jj K (WdT TB E H0) w 0 [some (rf E.ad 1), some (.int (ii x1)), some (.int (ii x2)), some (.int (ii x3)), some (.int (ii x4))] [] := by
  unfold f_Re_holds at hf
  have o := k.1
  have g := k.2.1
  have kr := k.2.2.1
  refine J_aload_n o dX11_holds_0 rfl ?_
  refine J_iload_n o dX11_holds_1 rfl ?_
  obtain ⟨v2, e1, hf⟩ := bnd_some hf
  refine J_vI o g kr dX11_holds_2 lkX11_246 ml_Re_noRelation vl_Re_noRelation ⟨rfl, rfl, Nat.le_of_ble_eq_true rfl, Nat.le_of_ble_eq_true rfl⟩ (c_Re_noRelation g.2.1 r_x1 e1) kB_1 rfl ⟨by decide, by decide⟩ rfl rfl c1s_0 (fun q3 => ?_)
  refine J_if_ne 28 o dX11_holds_5 (by decide) q3 (fun c4 => ?_) (fun c5 => ?_)
  · have hf := ite_f c4 hf
    refine J_iconst o dX11_holds_28 ?_
    have hf := some_inj hf
    subst hf
    exact hc _ _ (Or.inl rfl) dX11_holds_29
  · have hf := ite_t c5 hf
    refine J_aload_n o dX11_holds_8 rfl ?_
    refine J_aload_n o dX11_holds_9 rfl ?_
    refine J_getI o g dX11_holds_10 flX11_131 kB_1 rfl (fun q6 => ?_)
    refine J_iload_n o dX11_holds_13 rfl ?_
    refine J_iload_n o dX11_holds_14 rfl ?_
    refine J_iload_n o dX11_holds_15 rfl ?_
    refine J_iload o dX11_holds_16 rfl ?_
    obtain ⟨v8, e7, hf⟩ := bnd_some hf
    refine J_vI o g kr dX11_holds_18 lkX11_249 ml_Re_hasTuple vl_Re_hasTuple ⟨rfl, rfl, Nat.le_of_ble_eq_true rfl, Nat.le_of_ble_eq_true rfl⟩ (c_Re_hasTuple g.2.1 q6 r_x1 r_x2 r_x3 r_x4 e7) kB_1 rfl ⟨by decide, by decide⟩ rfl rfl c1s_0 (fun q9 => ?_)
    refine J_if_eq 28 o dX11_holds_21 (by decide) q9 (fun c10 => ?_) (fun c11 => ?_)
    · have hf := ite_t c10 hf
      refine J_iconst o dX11_holds_28 ?_
      have hf := some_inj hf
      subst hf
      exact hc _ _ (Or.inl rfl) dX11_holds_29
    · have hf := ite_f c11 hf
      refine J_iconst o dX11_holds_24 ?_
      refine J_goto 29 o dX11_holds_25 (by decide) ?_
      have hf := some_inj hf
      subst hf
      exact hc _ _ (Or.inr rfl) dX11_holds_29
theorem c_Re_holds {E : EE} {l : Launch} (hI : Inj TB E) {w : World} {x1 : Int} {x2 : Int} {x3 : Int} {x4 : Int} (r_x1 : R32 x1) (r_x2 : R32 x2) (r_x3 : R32 x3) (r_x4 : R32 x4) {out : (World × Int)} (hf : f_Re_holds w x1 x2 x3 x4 = some out) : ConI TB E l yX11_holds (WS yX11_holds cX11_holds 5 (some .boolean)) rm_Re_holds [rf E.ad 1, .int (ii x1), .int (ii x2), .int (ii x3), .int (ii x4)] w out.1 out.2 :=
  con_Z (by decide +kernel) rfl (Nat.le_of_ble_eq_true rfl) (c1s_r (c1s_i (c1s_i (c1s_i (c1s_i c1s_0 (Nat.le_of_ble_eq_true rfl)) (Nat.le_of_ble_eq_true rfl)) (Nat.le_of_ble_eq_true rfl)) (Nat.le_of_ble_eq_true rfl)) (Nat.le_of_ble_eq_true rfl)).1 ⟨rfl, rfl⟩ hI TnB (fun K H0 k hret => t_Re_holds_0 k r_x1 r_x2 r_x3 r_x4 hf hret)
abbrev rm_Re_holdsAt : Room := { frames := 3, cells := 0, slots := 0, locals := 81 }
noncomputable def f_Re_holdsAt_28 (w : World) (x1 : Int) (x2 : Int) (x3 : Int) (x4 : Int) (x5 : Int) (s1 : Int) : Option (World × Int) :=
  bnd (f_Re_refused w s1) fun v2 => if v2.2 = 0 then (bnd (f_Re_hasTuple v2.1 x5 x1 x2 x3 x4) fun v7 => if v7 = 0 then (some (v2.1, 0)) else (some (v2.1, 1))) else (some (v2.1, 0))
theorem t_Re_holdsAt_28 {E : EE} {K : KT} {l : Launch} {H0 : Heap} (k : Kof TB E K l cX11_holdsAt RX11 rm_Re_holdsAt) {w : World} {x1 : Int} {x2 : Int} {x3 : Int} {x4 : Int} {x5 : Int} {s1 : Int} (r_x1 : R32 x1) (r_x2 : R32 x2) (r_x3 : R32 x3) (r_x4 : R32 x4) (r_x5 : R32 x5) (r_s1 : R32 s1) {out : (World × Int)} (hf : f_Re_holdsAt_28 w x1 x2 x3 x4 x5 s1 = some out) (hc : (fun out : (World × Int) => RetZ TB E K H0 cX11_holdsAt out.1 out.2) out) : Jj K (WdT TB E H0) w 28 [some (rf E.ad 1), some (.int (ii x1)), some (.int (ii x2)), some (.int (ii x3)), some (.int (ii x4)), some (.int (ii x5))] [.int (ii s1), rf E.ad 1] := by
  unfold f_Re_holdsAt_28 at hf
  have o := k.1
  have g := k.2.1
  have kr := k.2.2.1
  obtain ⟨v2, e1, hf⟩ := bnd_some hf
  refine J_vI o g kr dX11_holdsAt_28 lkX11_113 ml_Re_refused vl_Re_refused ⟨rfl, rfl, Nat.le_of_ble_eq_true rfl, Nat.le_of_ble_eq_true rfl⟩ (c_Re_refused g.2.1 r_s1 e1) kB_1 rfl ⟨by decide, by decide⟩ rfl rfl c1s_0 (fun q3 => ?_)
  refine J_if_ne 52 o dX11_holdsAt_31 (by decide) q3 (fun c4 => ?_) (fun c5 => ?_)
  · have hf := ite_f c4 hf
    refine J_iconst o dX11_holdsAt_52 ?_
    have hf := some_inj hf
    subst hf
    exact hc _ _ (Or.inl rfl) dX11_holdsAt_53
  · have hf := ite_t c5 hf
    refine J_aload_n o dX11_holdsAt_34 rfl ?_
    refine J_iload o dX11_holdsAt_35 rfl ?_
    refine J_iload_n o dX11_holdsAt_37 rfl ?_
    refine J_iload_n o dX11_holdsAt_38 rfl ?_
    refine J_iload_n o dX11_holdsAt_39 rfl ?_
    refine J_iload o dX11_holdsAt_40 rfl ?_
    obtain ⟨v7, e6, hf⟩ := bnd_some hf
    refine J_vI o g kr dX11_holdsAt_42 lkX11_249 ml_Re_hasTuple vl_Re_hasTuple ⟨rfl, rfl, Nat.le_of_ble_eq_true rfl, Nat.le_of_ble_eq_true rfl⟩ (c_Re_hasTuple g.2.1 r_x5 r_x1 r_x2 r_x3 r_x4 e6) kB_1 rfl ⟨by decide, by decide⟩ rfl rfl c1s_0 (fun q8 => ?_)
    refine J_if_eq 52 o dX11_holdsAt_45 (by decide) q8 (fun c9 => ?_) (fun c10 => ?_)
    · have hf := ite_t c9 hf
      refine J_iconst o dX11_holdsAt_52 ?_
      have hf := some_inj hf
      subst hf
      exact hc _ _ (Or.inl rfl) dX11_holdsAt_53
    · have hf := ite_f c10 hf
      refine J_iconst o dX11_holdsAt_48 ?_
      refine J_goto 53 o dX11_holdsAt_49 (by decide) ?_
      have hf := some_inj hf
      subst hf
      exact hc _ _ (Or.inr rfl) dX11_holdsAt_53
noncomputable def f_Re_holdsAt (w : World) (x1 : Int) (x2 : Int) (x3 : Int) (x4 : Int) (x5 : Int) : Option (World × Int) :=
  bnd (f_Re_isRelation w x1) fun v2 => if v2 = 0 then (f_Re_holdsAt_28 w x1 x2 x3 x4 x5 1) else (bnd (f_Re_in x5 0 3) fun v7 => if v7 = 0 then (f_Re_holdsAt_28 w x1 x2 x3 x4 x5 2) else (f_Re_holdsAt_28 w x1 x2 x3 x4 x5 0))
theorem t_Re_holdsAt_0 {E : EE} {K : KT} {l : Launch} {H0 : Heap} (k : Kof TB E K l cX11_holdsAt RX11 rm_Re_holdsAt) {w : World} {x1 : Int} {x2 : Int} {x3 : Int} {x4 : Int} {x5 : Int} (r_x1 : R32 x1) (r_x2 : R32 x2) (r_x3 : R32 x3) (r_x4 : R32 x4) (r_x5 : R32 x5) {out : (World × Int)} (hf : f_Re_holdsAt w x1 x2 x3 x4 x5 = some out) (hc : (fun out : (World × Int) => RetZ TB E K H0 cX11_holdsAt out.1 out.2) out) : Jj K (WdT TB E H0) w 0 [some (rf E.ad 1), some (.int (ii x1)), some (.int (ii x2)), some (.int (ii x3)), some (.int (ii x4)), some (.int (ii x5))] [] := by
  unfold f_Re_holdsAt at hf
  have o := k.1
  have g := k.2.1
  have kr := k.2.2.1
  refine J_aload_n o dX11_holdsAt_0 rfl ?_
  refine J_aload_n o dX11_holdsAt_1 rfl ?_
  refine J_iload_n o dX11_holdsAt_2 rfl ?_
  obtain ⟨v2, e1, hf⟩ := bnd_some hf
  refine J_vI o g kr dX11_holdsAt_3 lkX11_117 ml_Re_isRelation vl_Re_isRelation ⟨rfl, rfl, Nat.le_of_ble_eq_true rfl, Nat.le_of_ble_eq_true rfl⟩ (c_Re_isRelation g.2.1 r_x1 e1) kB_1 rfl ⟨by decide, by decide⟩ rfl rfl (c1s_r c1s_0 (Nat.le_of_ble_eq_true rfl)) (fun q3 => ?_)
  refine J_if_ne 13 o dX11_holdsAt_6 (by decide) q3 (fun c4 => ?_) (fun c5 => ?_)
  · have hf := ite_f c4 hf
    refine J_iload o dX11_holdsAt_13 rfl ?_
    refine J_iconst o dX11_holdsAt_15 ?_
    refine J_iconst o dX11_holdsAt_16 ?_
    obtain ⟨v7, e6, hf⟩ := bnd_some hf
    refine J_sI o g kr dX11_holdsAt_17 lkX11_102 ml_Re_in mw1488 ⟨rfl, rfl, Nat.le_of_ble_eq_true rfl, Nat.le_of_ble_eq_true rfl⟩ (c_Re_in g.2.1 r_x5 rl0 rl3 e6) rfl rfl (c1s_r c1s_0 (Nat.le_of_ble_eq_true rfl)) (fun q8 => ?_)
    refine J_if_eq 27 o dX11_holdsAt_20 (by decide) q8 (fun c9 => ?_) (fun c10 => ?_)
    · have hf := ite_t c9 hf
      refine J_iconst o dX11_holdsAt_27 ?_
      exact t_Re_holdsAt_28 k r_x1 r_x2 r_x3 r_x4 r_x5 rl2 hf hc
    · have hf := ite_f c10 hf
      refine J_iconst o dX11_holdsAt_23 ?_
      refine J_goto 28 o dX11_holdsAt_24 (by decide) ?_
      exact t_Re_holdsAt_28 k r_x1 r_x2 r_x3 r_x4 r_x5 rl0 hf hc
  · have hf := ite_t c5 hf
    refine J_iconst o dX11_holdsAt_9 ?_
    refine J_goto 28 o dX11_holdsAt_10 (by decide) ?_
    exact t_Re_holdsAt_28 k r_x1 r_x2 r_x3 r_x4 r_x5 rl1 hf hc
theorem c_Re_holdsAt {E : EE} {l : Launch} (hI : Inj TB E) {w : World} {x1 : Int} {x2 : Int} {x3 : Int} {x4 : Int} {x5 : Int} (r_x1 : R32 x1) (r_x2 : R32 x2) (r_x3 : R32 x3) (r_x4 : R32 x4) (r_x5 : R32 x5) {out : (World × Int)} (hf : f_Re_holdsAt w x1 x2 x3 x4 x5 = some out) : ConI TB E l yX11_holdsAt (WS yX11_holdsAt cX11_holdsAt 6 (some .boolean)) rm_Re_holdsAt [rf E.ad 1, .int (ii x1), .int (ii x2), .int (ii x3), .int (ii x4), .int (ii x5)] w out.1 out.2 :=
  con_Z (by decide +kernel) rfl (Nat.le_of_ble_eq_true rfl) (c1s_r (c1s_i (c1s_i (c1s_i (c1s_i (c1s_i c1s_0 (Nat.le_of_ble_eq_true rfl)) (Nat.le_of_ble_eq_true rfl)) (Nat.le_of_ble_eq_true rfl)) (Nat.le_of_ble_eq_true rfl)) (Nat.le_of_ble_eq_true rfl)) (Nat.le_of_ble_eq_true rfl)).1 ⟨rfl, rfl⟩ hI TnB (fun K H0 k hret => t_Re_holdsAt_0 k r_x1 r_x2 r_x3 r_x4 r_x5 hf hret)
abbrev rm_Re_holdsAnew : Room := { frames := 4, cells := 0, slots := 0, locals := 106 }
noncomputable def f_Re_holdsAnew (w : World) (x1 : Int) (x2 : Int) (x3 : Int) (x4 : Int) (x5 : Int) : Option (World × Int) :=
  bnd (f_Re_holdsAt w x1 x2 x3 x4 x5) fun v2 => gd (v2.2 = 0 ∨ v2.2 = 1) (some (v2.1, v2.2))
theorem t_Re_holdsAnew_0 {E : EE} {K : KT} {l : Launch} {H0 : Heap} (k : Kof TB E K l cX11_holdsAnew RX11 rm_Re_holdsAnew) {w : World} {x1 : Int} {x2 : Int} {x3 : Int} {x4 : Int} {x5 : Int} (r_x1 : R32 x1) (r_x2 : R32 x2) (r_x3 : R32 x3) (r_x4 : R32 x4) (r_x5 : R32 x5) {out : (World × Int)} (hf : f_Re_holdsAnew w x1 x2 x3 x4 x5 = some out) (hc : (fun out : (World × Int) => RetZ TB E K H0 cX11_holdsAnew out.1 out.2) out) : Jj K (WdT TB E H0) w 0 [some (rf E.ad 1), some (.int (ii x1)), some (.int (ii x2)), some (.int (ii x3)), some (.int (ii x4)), some (.int (ii x5))] [] := by
  unfold f_Re_holdsAnew at hf
  have o := k.1
  have g := k.2.1
  have kr := k.2.2.1
  refine J_aload_n o dX11_holdsAnew_0 rfl ?_
  refine J_iload_n o dX11_holdsAnew_1 rfl ?_
  refine J_iload_n o dX11_holdsAnew_2 rfl ?_
  refine J_iload_n o dX11_holdsAnew_3 rfl ?_
  refine J_iload o dX11_holdsAnew_4 rfl ?_
  refine J_iload o dX11_holdsAnew_6 rfl ?_
  obtain ⟨v2, e1, hf⟩ := bnd_some hf
  refine J_vI o g kr dX11_holdsAnew_8 lkX11_252 ml_Re_holdsAt vl_Re_holdsAt ⟨rfl, rfl, Nat.le_of_ble_eq_true rfl, Nat.le_of_ble_eq_true rfl⟩ (c_Re_holdsAt g.2.1 r_x1 r_x2 r_x3 r_x4 r_x5 e1) kB_1 rfl ⟨by decide, by decide⟩ rfl rfl c1s_0 (fun q3 => ?_)
  obtain ⟨g4, hf⟩ := gd_some hf
  have hf := some_inj hf
  subst hf
  exact hc _ _ g4 dX11_holdsAnew_11
theorem c_Re_holdsAnew {E : EE} {l : Launch} (hI : Inj TB E) {w : World} {x1 : Int} {x2 : Int} {x3 : Int} {x4 : Int} {x5 : Int} (r_x1 : R32 x1) (r_x2 : R32 x2) (r_x3 : R32 x3) (r_x4 : R32 x4) (r_x5 : R32 x5) {out : (World × Int)} (hf : f_Re_holdsAnew w x1 x2 x3 x4 x5 = some out) : ConI TB E l yX11_holdsAnew (WS yX11_holdsAnew cX11_holdsAnew 6 (some .boolean)) rm_Re_holdsAnew [rf E.ad 1, .int (ii x1), .int (ii x2), .int (ii x3), .int (ii x4), .int (ii x5)] w out.1 out.2 :=
  con_Z (by decide +kernel) rfl (Nat.le_of_ble_eq_true rfl) (c1s_r (c1s_i (c1s_i (c1s_i (c1s_i (c1s_i c1s_0 (Nat.le_of_ble_eq_true rfl)) (Nat.le_of_ble_eq_true rfl)) (Nat.le_of_ble_eq_true rfl)) (Nat.le_of_ble_eq_true rfl)) (Nat.le_of_ble_eq_true rfl)) (Nat.le_of_ble_eq_true rfl)).1 ⟨rfl, rfl⟩ hI TnB (fun K H0 k hret => t_Re_holdsAnew_0 k r_x1 r_x2 r_x3 r_x4 r_x5 hf hret)
abbrev rm_Re_sizeOf : Room := { frames := 1, cells := 0, slots := 0, locals := 24 }
def HW_Re_sizeOf_4 (E : EE) (K : KT) (H0 : Heap) (w : World) (x1 : Int) : (Int × Int) → Prop := fun z => R32 z.1 → R32 z.2 → Jj K (WdT TB E H0) w 4 [some (rf E.ad 1), some (.int (ii x1)), some (.int (ii z.1)), some (.int (ii z.2))] []
noncomputable def f_Re_sizeOf_41 (w : World) (x1 : Int) (x3 : Int) (s0 : Int) (s1 : Int) : Option ((Int × Int) ⊕ Int) :=
  bl (wr (s0 + s1)) fun n1 => bl (wr (x3 + 1)) fun n2 => some (Sum.inl (n1, n2))
theorem t_Re_sizeOf_41 {E : EE} {K : KT} {l : Launch} {H0 : Heap} (k : Kof TB E K l cX11_sizeOf RX11 rm_Re_sizeOf) {w : World} {x1 : Int} {x3 : Int} {s0 : Int} {s1 : Int} {o2 : Option Value} (r_x1 : R32 x1) (r_x3 : R32 x3) (r_s0 : R32 s0) (r_s1 : R32 s1) {out : ((Int × Int) ⊕ Int)} (hf : f_Re_sizeOf_41 w x1 x3 s0 s1 = some out) (hc : (Sum.elim (HW_Re_sizeOf_4 E K H0 w x1) (fun out : Int => RetI TB E K H0 cX11_sizeOf w out)) out) : Jj K (WdT TB E H0) w 41 [some (rf E.ad 1), some (.int (ii x1)), o2, some (.int (ii x3))] [.int (ii s1), .int (ii s0)] := by
  unfold f_Re_sizeOf_41 at hf
  have o := k.1
  have g := k.2.1
  have kr := k.2.2.1
  refine J_iadd o dX11_sizeOf_41 ?_
  refine J_istore_n o dX11_sizeOf_42 (Nat.le_of_ble_eq_true rfl) ?_
  have hf := bl_out hf
  have hf := bl_out hf
  refine J_iinc o dX11_sizeOf_43 rfl ?_
  refine J_goto 4 o dX11_sizeOf_46 (by decide) ?_
  have hf := some_inj hf
  subst hf
  exact hc (R_wr _) (R_wr _) 
noncomputable def f_Re_sizeOf_4B (w : World) (x1 : Int) (x2 : Int) (x3 : Int) : Option ((Int × Int) ⊕ Int) :=
  gd (0 ≤ w 1 1 ∧ w 1 1 < 5) (if (w 20 (w 1 1).toNat) ≤ x3 then (some (Sum.inr x2)) else (gd (0 ≤ wr ((wr (50 * (w 1 1))) + x3) ∧ wr ((wr (50 * (w 1 1))) + x3) < 250) (if (w 21 (wr ((wr (50 * (w 1 1))) + x3)).toNat) = x1 then (f_Re_sizeOf_41 w x1 x3 x2 1) else (f_Re_sizeOf_41 w x1 x3 x2 0))))
theorem t_Re_sizeOf_4B {E : EE} {K : KT} {l : Launch} {H0 : Heap} (k : Kof TB E K l cX11_sizeOf RX11 rm_Re_sizeOf) {w : World} {x1 : Int} {x2 : Int} {x3 : Int} (r_x1 : R32 x1) (r_x2 : R32 x2) (r_x3 : R32 x3) {out : ((Int × Int) ⊕ Int)} (hf : f_Re_sizeOf_4B w x1 x2 x3 = some out) (hc : (Sum.elim (HW_Re_sizeOf_4 E K H0 w x1) (fun out : Int => RetI TB E K H0 cX11_sizeOf w out)) out) : Jj K (WdT TB E H0) w 4 [some (rf E.ad 1), some (.int (ii x1)), some (.int (ii x2)), some (.int (ii x3))] [] := by
  unfold f_Re_sizeOf_4B at hf
  have o := k.1
  have g := k.2.1
  have kr := k.2.2.1
  refine J_iload_n o dX11_sizeOf_4 rfl ?_
  refine J_aload_n o dX11_sizeOf_5 rfl ?_
  refine J_getF (true, 20) o g dX11_sizeOf_6 flX11_65 kB_1 rfl rfl rfl ?_
  refine J_aload_n o dX11_sizeOf_9 rfl ?_
  refine J_getI o g dX11_sizeOf_10 flX11_131 kB_1 rfl (fun q1 => ?_)
  obtain ⟨g2, hf⟩ := gd_some hf
  refine J_iald o g dX11_sizeOf_13 kB_20 q1 zB_20 g2 (fun q3 => ?_)
  refine J_icmp_ge 49 o dX11_sizeOf_14 (by decide) r_x3 q3 (fun c4 => ?_) (fun c5 => ?_)
  · have hf := ite_t c4 hf
    refine J_iload_n o dX11_sizeOf_49 rfl ?_
    have hf := some_inj hf
    subst hf
    exact hc _ _ r_x2 dX11_sizeOf_50
  · have hf := ite_f c5 hf
    refine J_iload_n o dX11_sizeOf_17 rfl ?_
    refine J_aload_n o dX11_sizeOf_18 rfl ?_
    refine J_getF (true, 21) o g dX11_sizeOf_19 flX11_68 kB_1 rfl rfl rfl ?_
    refine J_bipush o dX11_sizeOf_22 (by decide) ?_
    refine J_aload_n o dX11_sizeOf_24 rfl ?_
    refine J_getI o g dX11_sizeOf_25 flX11_131 kB_1 rfl (fun q6 => ?_)
    refine J_imul o dX11_sizeOf_28 ?_
    refine J_iload_n o dX11_sizeOf_29 rfl ?_
    refine J_iadd o dX11_sizeOf_30 ?_
    obtain ⟨g7, hf⟩ := gd_some hf
    refine J_iald o g dX11_sizeOf_31 kB_21 (R_wr _) zB_21 g7 (fun q8 => ?_)
    refine J_iload_n o dX11_sizeOf_32 rfl ?_
    refine J_icmp_ne 40 o dX11_sizeOf_33 (by decide) q8 r_x1 (fun c9 => ?_) (fun c10 => ?_)
    · have hf := ite_f c9 hf
      refine J_iconst o dX11_sizeOf_40 ?_
      exact t_Re_sizeOf_41 k r_x1 r_x3 r_x2 rl0 hf hc
    · have hf := ite_t c10 hf
      refine J_iconst o dX11_sizeOf_36 ?_
      refine J_goto 41 o dX11_sizeOf_37 (by decide) ?_
      exact t_Re_sizeOf_41 k r_x1 r_x3 r_x2 rl1 hf hc
noncomputable def f_Re_sizeOf_4 (w : World) (x1 : Int) (x2 : Int) (x3 : Int) : Option Int :=
  lp (fun z : (Int × Int) => f_Re_sizeOf_4B w x1 z.1 z.2) (x2, x3)
theorem t_Re_sizeOf_4 {E : EE} {K : KT} {l : Launch} {H0 : Heap} (k : Kof TB E K l cX11_sizeOf RX11 rm_Re_sizeOf) {w : World} {x1 : Int} {x2 : Int} {x3 : Int} (r_x1 : R32 x1) {out : Int} (hf : f_Re_sizeOf_4 w x1 x2 x3 = some out) (hc : (fun out : Int => RetI TB E K H0 cX11_sizeOf w out) out) : HW_Re_sizeOf_4 E K H0 w x1 (x2, x3) := by
  unfold f_Re_sizeOf_4 at hf
  refine lp_ind (P := HW_Re_sizeOf_4 E K H0 w x1) hf ?_
  intro z o hs h1 h2
  intro r_x2 r_x3
  refine t_Re_sizeOf_4B k r_x1 r_x2 r_x3 hs ?_
  cases o with
  | inl z' => exact h1 z' rfl
  | inr r' => rw [h2 r' rfl]; exact hc
noncomputable def f_Re_sizeOf (w : World) (x1 : Int) : Option Int :=
  f_Re_sizeOf_4 w x1 0 0
theorem t_Re_sizeOf_0 {E : EE} {K : KT} {l : Launch} {H0 : Heap} (k : Kof TB E K l cX11_sizeOf RX11 rm_Re_sizeOf) {w : World} {x1 : Int} {o2 o3 : Option Value} (r_x1 : R32 x1) {out : Int} (hf : f_Re_sizeOf w x1 = some out) (hc : (fun out : Int => RetI TB E K H0 cX11_sizeOf w out) out) : Jj K (WdT TB E H0) w 0 [some (rf E.ad 1), some (.int (ii x1)), o2, o3] [] := by
  unfold f_Re_sizeOf at hf
  have o := k.1
  have g := k.2.1
  have kr := k.2.2.1
  refine J_iconst o dX11_sizeOf_0 ?_
  refine J_istore_n o dX11_sizeOf_1 (Nat.le_of_ble_eq_true rfl) ?_
  refine J_iconst o dX11_sizeOf_2 ?_
  refine J_istore_n o dX11_sizeOf_3 (Nat.le_of_ble_eq_true rfl) ?_
  exact (t_Re_sizeOf_4 k r_x1 hf hc) rl0 rl0 
theorem c_Re_sizeOf {E : EE} {l : Launch} (hI : Inj TB E) {w : World} {x1 : Int} (r_x1 : R32 x1) {out : Int} (hf : f_Re_sizeOf w x1 = some out) : ConI TB E l yX11_sizeOf (WS yX11_sizeOf cX11_sizeOf 4 (some .int)) rm_Re_sizeOf [rf E.ad 1, .int (ii x1)] w w out :=
  con_I (by decide +kernel) rfl (Nat.le_of_ble_eq_true rfl) (c1s_r (c1s_i c1s_0 (Nat.le_of_ble_eq_true rfl)) (Nat.le_of_ble_eq_true rfl)).1 ⟨rfl, rfl⟩ hI TnB (fun K H0 k hret => t_Re_sizeOf_0 k r_x1 hf hret)
abbrev rm_Re_size : Room := { frames := 4, cells := 0, slots := 0, locals := 88 }
noncomputable def f_Re_size (w : World) (x1 : Int) : Option (World × Int) :=
  bnd (f_Re_noRelation w x1) fun v2 => if v2.2 = 0 then (bnd (f_Re_sizeOf v2.1 x1) fun v7 => some (v2.1, v7)) else (some (v2.1, 0))
theorem t_Re_size_0 {E : EE} {K : KT} {l : Launch} {H0 : Heap} (k : Kof TB E K l cX11_size RX11 rm_Re_size) {w : World} {x1 : Int} (r_x1 : R32 x1) {out : (World × Int)} (hf : f_Re_size w x1 = some out) (hc : (fun out : (World × Int) => RetI TB E K H0 cX11_size out.1 out.2) out) : Jj K (WdT TB E H0) w 0 [some (rf E.ad 1), some (.int (ii x1))] [] := by
  unfold f_Re_size at hf
  have o := k.1
  have g := k.2.1
  have kr := k.2.2.1
  refine J_aload_n o dX11_size_0 rfl ?_
  refine J_iload_n o dX11_size_1 rfl ?_
  obtain ⟨v2, e1, hf⟩ := bnd_some hf
  refine J_vI o g kr dX11_size_2 lkX11_246 ml_Re_noRelation vl_Re_noRelation ⟨rfl, rfl, Nat.le_of_ble_eq_true rfl, Nat.le_of_ble_eq_true rfl⟩ (c_Re_noRelation g.2.1 r_x1 e1) kB_1 rfl ⟨by decide, by decide⟩ rfl rfl c1s_0 (fun q3 => ?_)
  refine J_if_eq 12 o dX11_size_5 (by decide) q3 (fun c4 => ?_) (fun c5 => ?_)
  · have hf := ite_t c4 hf
    refine J_aload_n o dX11_size_12 rfl ?_
    refine J_iload_n o dX11_size_13 rfl ?_
    obtain ⟨v7, e6, hf⟩ := bnd_some hf
    refine J_vI o g kr dX11_size_14 lkX11_255 ml_Re_sizeOf vl_Re_sizeOf ⟨rfl, rfl, Nat.le_of_ble_eq_true rfl, Nat.le_of_ble_eq_true rfl⟩ (c_Re_sizeOf g.2.1 r_x1 e6) kB_1 rfl ⟨by decide, by decide⟩ rfl rfl c1s_0 (fun q8 => ?_)
    have hf := some_inj hf
    subst hf
    exact hc _ _ q8 dX11_size_17
  · have hf := ite_f c5 hf
    refine J_iconst o dX11_size_8 ?_
    refine J_goto 17 o dX11_size_9 (by decide) ?_
    have hf := some_inj hf
    subst hf
    exact hc _ _ rl0 dX11_size_17
theorem c_Re_size {E : EE} {l : Launch} (hI : Inj TB E) {w : World} {x1 : Int} (r_x1 : R32 x1) {out : (World × Int)} (hf : f_Re_size w x1 = some out) : ConI TB E l yX11_size (WS yX11_size cX11_size 2 (some .int)) rm_Re_size [rf E.ad 1, .int (ii x1)] w out.1 out.2 :=
  con_I (by decide +kernel) rfl (Nat.le_of_ble_eq_true rfl) (c1s_r (c1s_i c1s_0 (Nat.le_of_ble_eq_true rfl)) (Nat.le_of_ble_eq_true rfl)).1 ⟨rfl, rfl⟩ hI TnB (fun K H0 k hret => t_Re_size_0 k r_x1 hf hret)
abbrev rm_Re_told : Room := { frames := 1, cells := 0, slots := 0, locals := 24 }
noncomputable def f_Re_told (w : World) (x1 : Int) : Option Int :=
  bl (wr (3 * (wr ((wr (50 * (w 1 1))) + x1)))) fun n2 => gd (0 ≤ n2 ∧ n2 < 750) (gd (0 ≤ wr (n2 + 1) ∧ wr (n2 + 1) < 750) (gd (0 ≤ wr (n2 + 2) ∧ wr (n2 + 2) < 750) (some (wr ((wr ((wr (16384 * (w 22 n2.toNat))) + (wr (128 * (w 22 (wr (n2 + 1)).toNat))))) + (w 22 (wr (n2 + 2)).toNat))))))
theorem t_Re_told_0 {E : EE} {K : KT} {l : Launch} {H0 : Heap} (k : Kof TB E K l cX11_told RX11 rm_Re_told) {w : World} {x1 : Int} {o2 : Option Value} (r_x1 : R32 x1) {out : Int} (hf : f_Re_told w x1 = some out) (hc : (fun out : Int => RetI TB E K H0 cX11_told w out) out) : Jj K (WdT TB E H0) w 0 [some (rf E.ad 1), some (.int (ii x1)), o2] [] := by
  unfold f_Re_told at hf
  have o := k.1
  have g := k.2.1
  have kr := k.2.2.1
  refine J_iconst o dX11_told_0 ?_
  refine J_bipush o dX11_told_1 (by decide) ?_
  refine J_aload_n o dX11_told_3 rfl ?_
  refine J_getI o g dX11_told_4 flX11_131 kB_1 rfl (fun q1 => ?_)
  refine J_imul o dX11_told_7 ?_
  refine J_iload_n o dX11_told_8 rfl ?_
  refine J_iadd o dX11_told_9 ?_
  refine J_imul o dX11_told_10 ?_
  refine J_istore_n o dX11_told_11 (Nat.le_of_ble_eq_true rfl) ?_
  have hf := bl_out hf
  refine J_sipush o dX11_told_12 (by decide) ?_
  refine J_aload_n o dX11_told_15 rfl ?_
  refine J_getF (true, 22) o g dX11_told_16 flX11_71 kB_1 rfl rfl rfl ?_
  refine J_iload_n o dX11_told_19 rfl ?_
  obtain ⟨g3, hf⟩ := gd_some hf
  refine J_iald o g dX11_told_20 kB_22 (R_wr _) zB_22 g3 (fun q4 => ?_)
  refine J_imul o dX11_told_21 ?_
  refine J_sipush o dX11_told_22 (by decide) ?_
  refine J_aload_n o dX11_told_25 rfl ?_
  refine J_getF (true, 22) o g dX11_told_26 flX11_71 kB_1 rfl rfl rfl ?_
  refine J_iload_n o dX11_told_29 rfl ?_
  refine J_iconst o dX11_told_30 ?_
  refine J_iadd o dX11_told_31 ?_
  obtain ⟨g5, hf⟩ := gd_some hf
  refine J_iald o g dX11_told_32 kB_22 (R_wr _) zB_22 g5 (fun q6 => ?_)
  refine J_imul o dX11_told_33 ?_
  refine J_iadd o dX11_told_34 ?_
  refine J_aload_n o dX11_told_35 rfl ?_
  refine J_getF (true, 22) o g dX11_told_36 flX11_71 kB_1 rfl rfl rfl ?_
  refine J_iload_n o dX11_told_39 rfl ?_
  refine J_iconst o dX11_told_40 ?_
  refine J_iadd o dX11_told_41 ?_
  obtain ⟨g7, hf⟩ := gd_some hf
  refine J_iald o g dX11_told_42 kB_22 (R_wr _) zB_22 g7 (fun q8 => ?_)
  refine J_iadd o dX11_told_43 ?_
  have hf := some_inj hf
  subst hf
  exact hc _ _ (R_wr _) dX11_told_44
theorem c_Re_told {E : EE} {l : Launch} (hI : Inj TB E) {w : World} {x1 : Int} (r_x1 : R32 x1) {out : Int} (hf : f_Re_told w x1 = some out) : ConI TB E l yX11_told (WS yX11_told cX11_told 3 (some .int)) rm_Re_told [rf E.ad 1, .int (ii x1)] w w out :=
  con_I (by decide +kernel) rfl (Nat.le_of_ble_eq_true rfl) (c1s_r (c1s_i c1s_0 (Nat.le_of_ble_eq_true rfl)) (Nat.le_of_ble_eq_true rfl)).1 ⟨rfl, rfl⟩ hI TnB (fun K H0 k hret => t_Re_told_0 k r_x1 hf hret)
