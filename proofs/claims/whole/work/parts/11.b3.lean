abbrev rm_Re_at : Room := { frames := 3, cells := 0, slots := 0, locals := 67 }
def HW_Re_at_53 (E : EE) (K : KT) (H0 : Heap) (w : World) (x1 : Int) (x2 : Int) : (Int × Int) → Prop := fun z => R32 z.1 → R32 z.2 → ∀ o3 o6 o7 : Option Value, Jj K (WdT TB E H0) w 53 [some (rf E.ad 1), some (.int (ii x1)), some (.int (ii x2)), o3, some (.int (ii z.1)), some (.int (ii z.2)), o6, o7] []
def HW_Re_at_73 (E : EE) (K : KT) (H0 : Heap) (w : World) (x1 : Int) (x2 : Int) (x4 : Int) (x5 : Int) : (Int × Int) → Prop := fun z => R32 z.1 → R32 z.2 → ∀ o3 : Option Value, Jj K (WdT TB E H0) w 73 [some (rf E.ad 1), some (.int (ii x1)), some (.int (ii x2)), o3, some (.int (ii x4)), some (.int (ii x5)), some (.int (ii z.1)), some (.int (ii z.2))] []
noncomputable def f_Re_at_173 (w : World) (x1 : Int) (x2 : Int) (x5 : Int) (s0 : Int) : Option ((Int × Int) ⊕ (World × Int)) :=
  bl (wr (x5 + 1)) fun n1 => some (Sum.inl (s0, n1))
theorem t_Re_at_173 {E : EE} {K : KT} {l : Launch} {H0 : Heap} (k : Kof TB E K l cX11_at RX11 rm_Re_at) {w : World} {x1 : Int} {x2 : Int} {x5 : Int} {s0 : Int} {o3 o4 o6 o7 : Option Value} (r_x1 : R32 x1) (r_x2 : R32 x2) (r_x5 : R32 x5) (r_s0 : R32 s0) {out : ((Int × Int) ⊕ (World × Int))} (hf : f_Re_at_173 w x1 x2 x5 s0 = some out) (hc : (Sum.elim (HW_Re_at_53 E K H0 w x1 x2) (fun out : (World × Int) => RetI TB E K H0 cX11_at out.1 out.2)) out) : Jj K (WdT TB E H0) w 173 [some (rf E.ad 1), some (.int (ii x1)), some (.int (ii x2)), o3, o4, some (.int (ii x5)), o6, o7] [.int (ii s0)] := by
  unfold f_Re_at_173 at hf
  have o := k.1
  have g := k.2.1
  have kr := k.2.2.1
  refine J_istore o dX11_at_173 (Nat.le_of_ble_eq_true rfl) ?_
  have hf := bl_out hf
  refine J_iinc o dX11_at_175 rfl ?_
  refine J_goto 53 o dX11_at_178 (by decide) ?_
  have hf := some_inj hf
  subst hf
  exact hc r_s0 (R_wr _) _ _ _
noncomputable def f_Re_at_171 (w : World) (x1 : Int) (x2 : Int) (x4 : Int) (x5 : Int) : Option ((Int × Int) ⊕ (World × Int)) :=
  f_Re_at_173 w x1 x2 x5 x4
theorem t_Re_at_171 {E : EE} {K : KT} {l : Launch} {H0 : Heap} (k : Kof TB E K l cX11_at RX11 rm_Re_at) {w : World} {x1 : Int} {x2 : Int} {x4 : Int} {x5 : Int} {o3 o6 o7 : Option Value} (r_x1 : R32 x1) (r_x2 : R32 x2) (r_x4 : R32 x4) (r_x5 : R32 x5) {out : ((Int × Int) ⊕ (World × Int))} (hf : f_Re_at_171 w x1 x2 x4 x5 = some out) (hc : (Sum.elim (HW_Re_at_53 E K H0 w x1 x2) (fun out : (World × Int) => RetI TB E K H0 cX11_at out.1 out.2)) out) : Jj K (WdT TB E H0) w 171 [some (rf E.ad 1), some (.int (ii x1)), some (.int (ii x2)), o3, some (.int (ii x4)), some (.int (ii x5)), o6, o7] [] := by
  unfold f_Re_at_171 at hf
  have o := k.1
  have g := k.2.1
  have kr := k.2.2.1
  refine J_iload o dX11_at_171 rfl ?_
  exact t_Re_at_173 k r_x1 r_x2 r_x5 r_x4 hf hc
noncomputable def f_Re_at_128 (w : World) (x1 : Int) (x2 : Int) (x4 : Int) (x5 : Int) (x7 : Int) (s0 : Int) (s1 : Int) : Option ((Int × Int) ⊕ ((Int × Int) ⊕ (World × Int))) :=
  bl (wr (s0 + s1)) fun n1 => bl (wr (x7 + 1)) fun n2 => some (Sum.inl (n1, n2))
theorem t_Re_at_128 {E : EE} {K : KT} {l : Launch} {H0 : Heap} (k : Kof TB E K l cX11_at RX11 rm_Re_at) {w : World} {x1 : Int} {x2 : Int} {x4 : Int} {x5 : Int} {x7 : Int} {s0 : Int} {s1 : Int} {o3 o6 : Option Value} (r_x1 : R32 x1) (r_x2 : R32 x2) (r_x4 : R32 x4) (r_x5 : R32 x5) (r_x7 : R32 x7) (r_s0 : R32 s0) (r_s1 : R32 s1) {out : ((Int × Int) ⊕ ((Int × Int) ⊕ (World × Int)))} (hf : f_Re_at_128 w x1 x2 x4 x5 x7 s0 s1 = some out) (hc : (Sum.elim (HW_Re_at_73 E K H0 w x1 x2 x4 x5) (Sum.elim (HW_Re_at_53 E K H0 w x1 x2) (fun out : (World × Int) => RetI TB E K H0 cX11_at out.1 out.2))) out) : Jj K (WdT TB E H0) w 128 [some (rf E.ad 1), some (.int (ii x1)), some (.int (ii x2)), o3, some (.int (ii x4)), some (.int (ii x5)), o6, some (.int (ii x7))] [.int (ii s1), .int (ii s0)] := by
  unfold f_Re_at_128 at hf
  have o := k.1
  have g := k.2.1
  have kr := k.2.2.1
  refine J_iadd o dX11_at_128 ?_
  refine J_istore o dX11_at_129 (Nat.le_of_ble_eq_true rfl) ?_
  have hf := bl_out hf
  have hf := bl_out hf
  refine J_iinc o dX11_at_131 rfl ?_
  refine J_goto 73 o dX11_at_134 (by decide) ?_
  have hf := some_inj hf
  subst hf
  exact hc (R_wr _) (R_wr _) _
noncomputable def f_Re_at_127 (w : World) (x1 : Int) (x2 : Int) (x4 : Int) (x5 : Int) (x7 : Int) (s0 : Int) : Option ((Int × Int) ⊕ ((Int × Int) ⊕ (World × Int))) :=
  f_Re_at_128 w x1 x2 x4 x5 x7 s0 0
theorem t_Re_at_127 {E : EE} {K : KT} {l : Launch} {H0 : Heap} (k : Kof TB E K l cX11_at RX11 rm_Re_at) {w : World} {x1 : Int} {x2 : Int} {x4 : Int} {x5 : Int} {x7 : Int} {s0 : Int} {o3 o6 : Option Value} (r_x1 : R32 x1) (r_x2 : R32 x2) (r_x4 : R32 x4) (r_x5 : R32 x5) (r_x7 : R32 x7) (r_s0 : R32 s0) {out : ((Int × Int) ⊕ ((Int × Int) ⊕ (World × Int)))} (hf : f_Re_at_127 w x1 x2 x4 x5 x7 s0 = some out) (hc : (Sum.elim (HW_Re_at_73 E K H0 w x1 x2 x4 x5) (Sum.elim (HW_Re_at_53 E K H0 w x1 x2) (fun out : (World × Int) => RetI TB E K H0 cX11_at out.1 out.2))) out) : Jj K (WdT TB E H0) w 127 [some (rf E.ad 1), some (.int (ii x1)), some (.int (ii x2)), o3, some (.int (ii x4)), some (.int (ii x5)), o6, some (.int (ii x7))] [.int (ii s0)] := by
  unfold f_Re_at_127 at hf
  have o := k.1
  have g := k.2.1
  have kr := k.2.2.1
  refine J_iconst o dX11_at_127 ?_
  exact t_Re_at_128 k r_x1 r_x2 r_x4 r_x5 r_x7 r_s0 rl0 hf hc
noncomputable def f_Re_at_73B (w : World) (x1 : Int) (x2 : Int) (x4 : Int) (x5 : Int) (x6 : Int) (x7 : Int) : Option ((Int × Int) ⊕ ((Int × Int) ⊕ (World × Int))) :=
  gd (0 ≤ w 1 1 ∧ w 1 1 < 5) (if (w 20 (w 1 1).toNat) ≤ x7 then (gd (0 ≤ wr ((wr (50 * (w 1 1))) + x5) ∧ wr ((wr (50 * (w 1 1))) + x5) < 250) (if (w 21 (wr ((wr (50 * (w 1 1))) + x5)).toNat) = x1 then (if x6 = x2 then (bnd (f_Re_told w x5) fun v16 => bnd (f_Re_at_173 w x1 x2 x5 v16) fun y18 => some (Sum.inr y18)) else (bnd (f_Re_at_171 w x1 x2 x4 x5) fun y14 => some (Sum.inr y14))) else (bnd (f_Re_at_171 w x1 x2 x4 x5) fun y11 => some (Sum.inr y11)))) else (gd (0 ≤ wr ((wr (50 * (w 1 1))) + x7) ∧ wr ((wr (50 * (w 1 1))) + x7) < 250) (if (w 21 (wr ((wr (50 * (w 1 1))) + x7)).toNat) = x1 then (bnd (f_Re_told w x7) fun v25 => bnd (f_Re_told w x5) fun v28 => if v28 ≤ v25 then (f_Re_at_127 w x1 x2 x4 x5 x7 x6) else (f_Re_at_128 w x1 x2 x4 x5 x7 x6 1)) else (f_Re_at_127 w x1 x2 x4 x5 x7 x6))))
theorem t_Re_at_73B {E : EE} {K : KT} {l : Launch} {H0 : Heap} (k : Kof TB E K l cX11_at RX11 rm_Re_at) {w : World} {x1 : Int} {x2 : Int} {x4 : Int} {x5 : Int} {x6 : Int} {x7 : Int} {o3 : Option Value} (r_x1 : R32 x1) (r_x2 : R32 x2) (r_x4 : R32 x4) (r_x5 : R32 x5) (r_x6 : R32 x6) (r_x7 : R32 x7) {out : ((Int × Int) ⊕ ((Int × Int) ⊕ (World × Int)))} (hf : f_Re_at_73B w x1 x2 x4 x5 x6 x7 = some out) (hc : (Sum.elim (HW_Re_at_73 E K H0 w x1 x2 x4 x5) (Sum.elim (HW_Re_at_53 E K H0 w x1 x2) (fun out : (World × Int) => RetI TB E K H0 cX11_at out.1 out.2))) out) : Jj K (WdT TB E H0) w 73 [some (rf E.ad 1), some (.int (ii x1)), some (.int (ii x2)), o3, some (.int (ii x4)), some (.int (ii x5)), some (.int (ii x6)), some (.int (ii x7))] [] := by
  unfold f_Re_at_73B at hf
  have o := k.1
  have g := k.2.1
  have kr := k.2.2.1
  refine J_iload o dX11_at_73 rfl ?_
  refine J_aload_n o dX11_at_75 rfl ?_
  refine J_getF (true, 20) o g dX11_at_76 flX11_65 kB_1 rfl rfl rfl ?_
  refine J_aload_n o dX11_at_79 rfl ?_
  refine J_getI o g dX11_at_80 flX11_131 kB_1 rfl (fun q1 => ?_)
  obtain ⟨g2, hf⟩ := gd_some hf
  refine J_iald o g dX11_at_83 kB_20 q1 zB_20 g2 (fun q3 => ?_)
  refine J_icmp_ge 137 o dX11_at_84 (by decide) r_x7 q3 (fun c4 => ?_) (fun c5 => ?_)
  · have hf := ite_t c4 hf
    refine J_aload_n o dX11_at_137 rfl ?_
    refine J_getF (true, 21) o g dX11_at_138 flX11_68 kB_1 rfl rfl rfl ?_
    refine J_bipush o dX11_at_141 (by decide) ?_
    refine J_aload_n o dX11_at_143 rfl ?_
    refine J_getI o g dX11_at_144 flX11_131 kB_1 rfl (fun q6 => ?_)
    refine J_imul o dX11_at_147 ?_
    refine J_iload o dX11_at_148 rfl ?_
    refine J_iadd o dX11_at_150 ?_
    obtain ⟨g7, hf⟩ := gd_some hf
    refine J_iald o g dX11_at_151 kB_21 (R_wr _) zB_21 g7 (fun q8 => ?_)
    refine J_iload_n o dX11_at_152 rfl ?_
    refine J_icmp_ne 171 o dX11_at_153 (by decide) q8 r_x1 (fun c9 => ?_) (fun c10 => ?_)
    · have hf := ite_f c9 hf
      obtain ⟨y11, hf1, hf⟩ := bnd_some hf
      have hf := some_inj hf
      subst hf
      exact t_Re_at_171 k r_x1 r_x2 r_x4 r_x5 hf1 hc
    · have hf := ite_t c10 hf
      refine J_iload o dX11_at_156 rfl ?_
      refine J_iload_n o dX11_at_158 rfl ?_
      refine J_icmp_ne 171 o dX11_at_159 (by decide) r_x6 r_x2 (fun c12 => ?_) (fun c13 => ?_)
      · have hf := ite_f c12 hf
        obtain ⟨y14, hf1, hf⟩ := bnd_some hf
        have hf := some_inj hf
        subst hf
        exact t_Re_at_171 k r_x1 r_x2 r_x4 r_x5 hf1 hc
      · have hf := ite_t c13 hf
        refine J_aload_n o dX11_at_162 rfl ?_
        refine J_iload o dX11_at_163 rfl ?_
        obtain ⟨v16, e15, hf⟩ := bnd_some hf
        refine J_vI o g kr dX11_at_165 lkX11_258 ml_Re_told vl_Re_told ⟨rfl, rfl, Nat.le_of_ble_eq_true rfl, Nat.le_of_ble_eq_true rfl⟩ (c_Re_told g.2.1 r_x5 e15) kB_1 rfl ⟨by decide, by decide⟩ rfl rfl c1s_0 (fun q17 => ?_)
        refine J_goto 173 o dX11_at_168 (by decide) ?_
        obtain ⟨y18, hf1, hf⟩ := bnd_some hf
        have hf := some_inj hf
        subst hf
        exact t_Re_at_173 k r_x1 r_x2 r_x5 q17 hf1 hc
  · have hf := ite_f c5 hf
    refine J_iload o dX11_at_87 rfl ?_
    refine J_aload_n o dX11_at_89 rfl ?_
    refine J_getF (true, 21) o g dX11_at_90 flX11_68 kB_1 rfl rfl rfl ?_
    refine J_bipush o dX11_at_93 (by decide) ?_
    refine J_aload_n o dX11_at_95 rfl ?_
    refine J_getI o g dX11_at_96 flX11_131 kB_1 rfl (fun q19 => ?_)
    refine J_imul o dX11_at_99 ?_
    refine J_iload o dX11_at_100 rfl ?_
    refine J_iadd o dX11_at_102 ?_
    obtain ⟨g20, hf⟩ := gd_some hf
    refine J_iald o g dX11_at_103 kB_21 (R_wr _) zB_21 g20 (fun q21 => ?_)
    refine J_iload_n o dX11_at_104 rfl ?_
    refine J_icmp_ne 127 o dX11_at_105 (by decide) q21 r_x1 (fun c22 => ?_) (fun c23 => ?_)
    · have hf := ite_f c22 hf
      exact t_Re_at_127 k r_x1 r_x2 r_x4 r_x5 r_x7 r_x6 hf hc
    · have hf := ite_t c23 hf
      refine J_aload_n o dX11_at_108 rfl ?_
      refine J_iload o dX11_at_109 rfl ?_
      obtain ⟨v25, e24, hf⟩ := bnd_some hf
      refine J_vI o g kr dX11_at_111 lkX11_258 ml_Re_told vl_Re_told ⟨rfl, rfl, Nat.le_of_ble_eq_true rfl, Nat.le_of_ble_eq_true rfl⟩ (c_Re_told g.2.1 r_x7 e24) kB_1 rfl ⟨by decide, by decide⟩ rfl rfl (c1s_i c1s_0 (Nat.le_of_ble_eq_true rfl)) (fun q26 => ?_)
      refine J_aload_n o dX11_at_114 rfl ?_
      refine J_iload o dX11_at_115 rfl ?_
      obtain ⟨v28, e27, hf⟩ := bnd_some hf
      refine J_vI o g kr dX11_at_117 lkX11_258 ml_Re_told vl_Re_told ⟨rfl, rfl, Nat.le_of_ble_eq_true rfl, Nat.le_of_ble_eq_true rfl⟩ (c_Re_told g.2.1 r_x5 e27) kB_1 rfl ⟨by decide, by decide⟩ rfl rfl (c1s_i (c1s_i c1s_0 (Nat.le_of_ble_eq_true rfl)) (Nat.le_of_ble_eq_true rfl)) (fun q29 => ?_)
      refine J_icmp_ge 127 o dX11_at_120 (by decide) q26 q29 (fun c30 => ?_) (fun c31 => ?_)
      · have hf := ite_t c30 hf
        exact t_Re_at_127 k r_x1 r_x2 r_x4 r_x5 r_x7 r_x6 hf hc
      · have hf := ite_f c31 hf
        refine J_iconst o dX11_at_123 ?_
        refine J_goto 128 o dX11_at_124 (by decide) ?_
        exact t_Re_at_128 k r_x1 r_x2 r_x4 r_x5 r_x7 r_x6 rl1 hf hc
noncomputable def f_Re_at_73 (w : World) (x1 : Int) (x2 : Int) (x4 : Int) (x5 : Int) (x6 : Int) (x7 : Int) : Option ((Int × Int) ⊕ (World × Int)) :=
  lp (fun z : (Int × Int) => f_Re_at_73B w x1 x2 x4 x5 z.1 z.2) (x6, x7)
theorem t_Re_at_73 {E : EE} {K : KT} {l : Launch} {H0 : Heap} (k : Kof TB E K l cX11_at RX11 rm_Re_at) {w : World} {x1 : Int} {x2 : Int} {x4 : Int} {x5 : Int} {x6 : Int} {x7 : Int} (r_x1 : R32 x1) (r_x2 : R32 x2) (r_x4 : R32 x4) (r_x5 : R32 x5) {out : ((Int × Int) ⊕ (World × Int))} (hf : f_Re_at_73 w x1 x2 x4 x5 x6 x7 = some out) (hc : (Sum.elim (HW_Re_at_53 E K H0 w x1 x2) (fun out : (World × Int) => RetI TB E K H0 cX11_at out.1 out.2)) out) : HW_Re_at_73 E K H0 w x1 x2 x4 x5 (x6, x7) := by
  unfold f_Re_at_73 at hf
  refine lp_ind (P := HW_Re_at_73 E K H0 w x1 x2 x4 x5) hf ?_
  intro z o hs h1 h2
  intro r_x6 r_x7
  intro o3
  refine t_Re_at_73B k r_x1 r_x2 r_x4 r_x5 r_x6 r_x7 hs ?_
  cases o with
  | inl z' => exact h1 z' rfl
  | inr r' => rw [h2 r' rfl]; exact hc
noncomputable def f_Re_at_53B (w : World) (x1 : Int) (x2 : Int) (x4 : Int) (x5 : Int) : Option ((Int × Int) ⊕ (World × Int)) :=
  gd (0 ≤ w 1 1 ∧ w 1 1 < 5) (if (w 20 (w 1 1).toNat) ≤ x5 then (some (Sum.inr (w, x4))) else (f_Re_at_73 w x1 x2 x4 x5 0 0))
theorem t_Re_at_53B {E : EE} {K : KT} {l : Launch} {H0 : Heap} (k : Kof TB E K l cX11_at RX11 rm_Re_at) {w : World} {x1 : Int} {x2 : Int} {x4 : Int} {x5 : Int} {o3 o6 o7 : Option Value} (r_x1 : R32 x1) (r_x2 : R32 x2) (r_x4 : R32 x4) (r_x5 : R32 x5) {out : ((Int × Int) ⊕ (World × Int))} (hf : f_Re_at_53B w x1 x2 x4 x5 = some out) (hc : (Sum.elim (HW_Re_at_53 E K H0 w x1 x2) (fun out : (World × Int) => RetI TB E K H0 cX11_at out.1 out.2)) out) : Jj K (WdT TB E H0) w 53 [some (rf E.ad 1), some (.int (ii x1)), some (.int (ii x2)), o3, some (.int (ii x4)), some (.int (ii x5)), o6, o7] [] := by
  unfold f_Re_at_53B at hf
  have o := k.1
  have g := k.2.1
  have kr := k.2.2.1
  refine J_iload o dX11_at_53 rfl ?_
  refine J_aload_n o dX11_at_55 rfl ?_
  refine J_getF (true, 20) o g dX11_at_56 flX11_65 kB_1 rfl rfl rfl ?_
  refine J_aload_n o dX11_at_59 rfl ?_
  refine J_getI o g dX11_at_60 flX11_131 kB_1 rfl (fun q1 => ?_)
  obtain ⟨g2, hf⟩ := gd_some hf
  refine J_iald o g dX11_at_63 kB_20 q1 zB_20 g2 (fun q3 => ?_)
  refine J_icmp_ge 181 o dX11_at_64 (by decide) r_x5 q3 (fun c4 => ?_) (fun c5 => ?_)
  · have hf := ite_t c4 hf
    refine J_iload o dX11_at_181 rfl ?_
    have hf := some_inj hf
    subst hf
    exact hc _ _ r_x4 dX11_at_183
  · have hf := ite_f c5 hf
    refine J_iconst o dX11_at_67 ?_
    refine J_istore o dX11_at_68 (Nat.le_of_ble_eq_true rfl) ?_
    refine J_iconst o dX11_at_70 ?_
    refine J_istore o dX11_at_71 (Nat.le_of_ble_eq_true rfl) ?_
    exact (t_Re_at_73 k r_x1 r_x2 r_x4 r_x5 hf hc) rl0 rl0 _
noncomputable def f_Re_at_53 (w : World) (x1 : Int) (x2 : Int) (x4 : Int) (x5 : Int) : Option (World × Int) :=
  lp (fun z : (Int × Int) => f_Re_at_53B w x1 x2 z.1 z.2) (x4, x5)
theorem t_Re_at_53 {E : EE} {K : KT} {l : Launch} {H0 : Heap} (k : Kof TB E K l cX11_at RX11 rm_Re_at) {w : World} {x1 : Int} {x2 : Int} {x4 : Int} {x5 : Int} (r_x1 : R32 x1) (r_x2 : R32 x2) {out : (World × Int)} (hf : f_Re_at_53 w x1 x2 x4 x5 = some out) (hc : (fun out : (World × Int) => RetI TB E K H0 cX11_at out.1 out.2) out) : HW_Re_at_53 E K H0 w x1 x2 (x4, x5) := by
  unfold f_Re_at_53 at hf
  refine lp_ind (P := HW_Re_at_53 E K H0 w x1 x2) hf ?_
  intro z o hs h1 h2
  intro r_x4 r_x5
  intro o3 o6 o7
  refine t_Re_at_53B k r_x1 r_x2 r_x4 r_x5 hs ?_
  cases o with
  | inl z' => exact h1 z' rfl
  | inr r' => rw [h2 r' rfl]; exact hc
noncomputable def f_Re_at_39 (w : World) (x1 : Int) (x2 : Int) (s1 : Int) : Option (World × Int) :=
  bnd (f_Re_refused w s1) fun v2 => if v2.2 = 0 then (f_Re_at_53 v2.1 x1 x2 0 0) else (some (v2.1, 0))
theorem t_Re_at_39 {E : EE} {K : KT} {l : Launch} {H0 : Heap} (k : Kof TB E K l cX11_at RX11 rm_Re_at) {w : World} {x1 : Int} {x2 : Int} {s1 : Int} {o3 o4 o5 o6 o7 : Option Value} (r_x1 : R32 x1) (r_x2 : R32 x2) (r_s1 : R32 s1) {out : (World × Int)} (hf : f_Re_at_39 w x1 x2 s1 = some out) (hc : (fun out : (World × Int) => RetI TB E K H0 cX11_at out.1 out.2) out) : Jj K (WdT TB E H0) w 39 [some (rf E.ad 1), some (.int (ii x1)), some (.int (ii x2)), o3, o4, o5, o6, o7] [.int (ii s1), rf E.ad 1] := by
  unfold f_Re_at_39 at hf
  have o := k.1
  have g := k.2.1
  have kr := k.2.2.1
  obtain ⟨v2, e1, hf⟩ := bnd_some hf
  refine J_vI o g kr dX11_at_39 lkX11_113 ml_Re_refused vl_Re_refused ⟨rfl, rfl, Nat.le_of_ble_eq_true rfl, Nat.le_of_ble_eq_true rfl⟩ (c_Re_refused g.2.1 r_s1 e1) kB_1 rfl ⟨by decide, by decide⟩ rfl rfl c1s_0 (fun q3 => ?_)
  refine J_if_eq 47 o dX11_at_42 (by decide) q3 (fun c4 => ?_) (fun c5 => ?_)
  · have hf := ite_t c4 hf
    refine J_iconst o dX11_at_47 ?_
    refine J_istore o dX11_at_48 (Nat.le_of_ble_eq_true rfl) ?_
    refine J_iconst o dX11_at_50 ?_
    refine J_istore o dX11_at_51 (Nat.le_of_ble_eq_true rfl) ?_
    exact (t_Re_at_53 k r_x1 r_x2 hf hc) rl0 rl0 _ _ _
  · have hf := ite_f c5 hf
    refine J_iconst o dX11_at_45 ?_
    have hf := some_inj hf
    subst hf
    exact hc _ _ rl0 dX11_at_46
noncomputable def f_Re_at_28 (w : World) (x1 : Int) (x2 : Int) (s0 : Int) : Option (World × Int) :=
  if s0 = 0 then (f_Re_at_39 w x1 x2 1) else (f_Re_at_39 w x1 x2 0)
theorem t_Re_at_28 {E : EE} {K : KT} {l : Launch} {H0 : Heap} (k : Kof TB E K l cX11_at RX11 rm_Re_at) {w : World} {x1 : Int} {x2 : Int} {s0 : Int} {o3 o4 o5 o6 o7 : Option Value} (r_x1 : R32 x1) (r_x2 : R32 x2) (r_s0 : R32 s0) {out : (World × Int)} (hf : f_Re_at_28 w x1 x2 s0 = some out) (hc : (fun out : (World × Int) => RetI TB E K H0 cX11_at out.1 out.2) out) : Jj K (WdT TB E H0) w 28 [some (rf E.ad 1), some (.int (ii x1)), some (.int (ii x2)), o3, o4, o5, o6, o7] [.int (ii s0)] := by
  unfold f_Re_at_28 at hf
  have o := k.1
  have g := k.2.1
  have kr := k.2.2.1
  refine J_istore_n o dX11_at_28 (Nat.le_of_ble_eq_true rfl) ?_
  refine J_aload_n o dX11_at_29 rfl ?_
  refine J_iload_n o dX11_at_30 rfl ?_
  refine J_if_eq 38 o dX11_at_31 (by decide) r_s0 (fun c1 => ?_) (fun c2 => ?_)
  · have hf := ite_t c1 hf
    refine J_iconst o dX11_at_38 ?_
    exact t_Re_at_39 k r_x1 r_x2 rl1 hf hc
  · have hf := ite_f c2 hf
    refine J_iconst o dX11_at_34 ?_
    refine J_goto 39 o dX11_at_35 (by decide) ?_
    exact t_Re_at_39 k r_x1 r_x2 rl0 hf hc
noncomputable def f_Re_at_27 (w : World) (x1 : Int) (x2 : Int) : Option (World × Int) :=
  f_Re_at_28 w x1 x2 0
theorem t_Re_at_27 {E : EE} {K : KT} {l : Launch} {H0 : Heap} (k : Kof TB E K l cX11_at RX11 rm_Re_at) {w : World} {x1 : Int} {x2 : Int} {o3 o4 o5 o6 o7 : Option Value} (r_x1 : R32 x1) (r_x2 : R32 x2) {out : (World × Int)} (hf : f_Re_at_27 w x1 x2 = some out) (hc : (fun out : (World × Int) => RetI TB E K H0 cX11_at out.1 out.2) out) : Jj K (WdT TB E H0) w 27 [some (rf E.ad 1), some (.int (ii x1)), some (.int (ii x2)), o3, o4, o5, o6, o7] [] := by
  unfold f_Re_at_27 at hf
  have o := k.1
  have g := k.2.1
  have kr := k.2.2.1
  refine J_iconst o dX11_at_27 ?_
  exact t_Re_at_28 k r_x1 r_x2 rl0 hf hc
noncomputable def f_Re_at (w : World) (x1 : Int) (x2 : Int) : Option (World × Int) :=
  bnd (f_Re_isRelation w x1) fun v2 => if v2 = 0 then (f_Re_at_27 w x1 x2) else (bnd (f_Re_sizeOf w x1) fun v7 => bnd (f_Re_in x2 0 (wr (v7 - 1))) fun v10 => if v10 = 0 then (f_Re_at_27 w x1 x2) else (f_Re_at_28 w x1 x2 1))
theorem t_Re_at_0 {E : EE} {K : KT} {l : Launch} {H0 : Heap} (k : Kof TB E K l cX11_at RX11 rm_Re_at) {w : World} {x1 : Int} {x2 : Int} {o3 o4 o5 o6 o7 : Option Value} (r_x1 : R32 x1) (r_x2 : R32 x2) {out : (World × Int)} (hf : f_Re_at w x1 x2 = some out) (hc : (fun out : (World × Int) => RetI TB E K H0 cX11_at out.1 out.2) out) : Jj K (WdT TB E H0) w 0 [some (rf E.ad 1), some (.int (ii x1)), some (.int (ii x2)), o3, o4, o5, o6, o7] [] := by
  unfold f_Re_at at hf
  have o := k.1
  have g := k.2.1
  have kr := k.2.2.1
  refine J_aload_n o dX11_at_0 rfl ?_
  refine J_iload_n o dX11_at_1 rfl ?_
  obtain ⟨v2, e1, hf⟩ := bnd_some hf
  refine J_vI o g kr dX11_at_2 lkX11_117 ml_Re_isRelation vl_Re_isRelation ⟨rfl, rfl, Nat.le_of_ble_eq_true rfl, Nat.le_of_ble_eq_true rfl⟩ (c_Re_isRelation g.2.1 r_x1 e1) kB_1 rfl ⟨by decide, by decide⟩ rfl rfl c1s_0 (fun q3 => ?_)
  refine J_if_eq 27 o dX11_at_5 (by decide) q3 (fun c4 => ?_) (fun c5 => ?_)
  · have hf := ite_t c4 hf
    exact t_Re_at_27 k r_x1 r_x2 hf hc
  · have hf := ite_f c5 hf
    refine J_iload_n o dX11_at_8 rfl ?_
    refine J_iconst o dX11_at_9 ?_
    refine J_aload_n o dX11_at_10 rfl ?_
    refine J_iload_n o dX11_at_11 rfl ?_
    obtain ⟨v7, e6, hf⟩ := bnd_some hf
    refine J_vI o g kr dX11_at_12 lkX11_255 ml_Re_sizeOf vl_Re_sizeOf ⟨rfl, rfl, Nat.le_of_ble_eq_true rfl, Nat.le_of_ble_eq_true rfl⟩ (c_Re_sizeOf g.2.1 r_x1 e6) kB_1 rfl ⟨by decide, by decide⟩ rfl rfl (c1s_i (c1s_i c1s_0 (Nat.le_of_ble_eq_true rfl)) (Nat.le_of_ble_eq_true rfl)) (fun q8 => ?_)
    refine J_iconst o dX11_at_15 ?_
    refine J_isub o dX11_at_16 ?_
    obtain ⟨v10, e9, hf⟩ := bnd_some hf
    refine J_sI o g kr dX11_at_17 lkX11_102 ml_Re_in mw1488 ⟨rfl, rfl, Nat.le_of_ble_eq_true rfl, Nat.le_of_ble_eq_true rfl⟩ (c_Re_in g.2.1 r_x2 rl0 (R_wr _) e9) rfl rfl c1s_0 (fun q11 => ?_)
    refine J_if_eq 27 o dX11_at_20 (by decide) q11 (fun c12 => ?_) (fun c13 => ?_)
    · have hf := ite_t c12 hf
      exact t_Re_at_27 k r_x1 r_x2 hf hc
    · have hf := ite_f c13 hf
      refine J_iconst o dX11_at_23 ?_
      refine J_goto 28 o dX11_at_24 (by decide) ?_
      exact t_Re_at_28 k r_x1 r_x2 rl1 hf hc
theorem c_Re_at {E : EE} {l : Launch} (hI : Inj TB E) {w : World} {x1 : Int} {x2 : Int} (r_x1 : R32 x1) (r_x2 : R32 x2) {out : (World × Int)} (hf : f_Re_at w x1 x2 = some out) : ConI TB E l yX11_at (WS yX11_at cX11_at 8 (some .int)) rm_Re_at [rf E.ad 1, .int (ii x1), .int (ii x2)] w out.1 out.2 :=
  con_I (by decide +kernel) rfl (Nat.le_of_ble_eq_true rfl) (c1s_r (c1s_i (c1s_i c1s_0 (Nat.le_of_ble_eq_true rfl)) (Nat.le_of_ble_eq_true rfl)) (Nat.le_of_ble_eq_true rfl)).1 ⟨rfl, rfl⟩ hI TnB (fun K H0 k hret => t_Re_at_0 k r_x1 r_x2 hf hret)
abbrev rm_Re_stratum : Room := { frames := 4, cells := 0, slots := 0, locals := 88 }
noncomputable def f_Re_stratum (w : World) (x1 : Int) : Option (World × Int) :=
  bnd (f_Re_noRelation w x1) fun v2 => if v2.2 = 0 then (gd (0 ≤ x1 ∧ x1 < 10) (some (v2.1, v2.1 6 x1.toNat))) else (some (v2.1, 0))
theorem t_Re_stratum_0 {E : EE} {K : KT} {l : Launch} {H0 : Heap} (k : Kof TB E K l cX11_stratum RX11 rm_Re_stratum) {w : World} {x1 : Int} (r_x1 : R32 x1) {out : (World × Int)} (hf : f_Re_stratum w x1 = some out) (hc : (fun out : (World × Int) => RetI TB E K H0 cX11_stratum out.1 out.2) out) : Jj K (WdT TB E H0) w 0 [some (rf E.ad 1), some (.int (ii x1))] [] := by
  unfold f_Re_stratum at hf
  have o := k.1
  have g := k.2.1
  have kr := k.2.2.1
  refine J_aload_n o dX11_stratum_0 rfl ?_
  refine J_iload_n o dX11_stratum_1 rfl ?_
  obtain ⟨v2, e1, hf⟩ := bnd_some hf
  refine J_vI o g kr dX11_stratum_2 lkX11_246 ml_Re_noRelation vl_Re_noRelation ⟨rfl, rfl, Nat.le_of_ble_eq_true rfl, Nat.le_of_ble_eq_true rfl⟩ (c_Re_noRelation g.2.1 r_x1 e1) kB_1 rfl ⟨by decide, by decide⟩ rfl rfl c1s_0 (fun q3 => ?_)
  refine J_if_eq 12 o dX11_stratum_5 (by decide) q3 (fun c4 => ?_) (fun c5 => ?_)
  · have hf := ite_t c4 hf
    refine J_aload_n o dX11_stratum_12 rfl ?_
    refine J_getF (true, 6) o g dX11_stratum_13 flX11_23 kB_1 rfl rfl rfl ?_
    refine J_iload_n o dX11_stratum_16 rfl ?_
    obtain ⟨g6, hf⟩ := gd_some hf
    refine J_iald o g dX11_stratum_17 kB_6 r_x1 zB_6 g6 (fun q7 => ?_)
    have hf := some_inj hf
    subst hf
    exact hc _ _ q7 dX11_stratum_18
  · have hf := ite_f c5 hf
    refine J_iconst o dX11_stratum_8 ?_
    refine J_goto 18 o dX11_stratum_9 (by decide) ?_
    have hf := some_inj hf
    subst hf
    exact hc _ _ rl0 dX11_stratum_18
theorem c_Re_stratum {E : EE} {l : Launch} (hI : Inj TB E) {w : World} {x1 : Int} (r_x1 : R32 x1) {out : (World × Int)} (hf : f_Re_stratum w x1 = some out) : ConI TB E l yX11_stratum (WS yX11_stratum cX11_stratum 2 (some .int)) rm_Re_stratum [rf E.ad 1, .int (ii x1)] w out.1 out.2 :=
  con_I (by decide +kernel) rfl (Nat.le_of_ble_eq_true rfl) (c1s_r (c1s_i c1s_0 (Nat.le_of_ble_eq_true rfl)) (Nat.le_of_ble_eq_true rfl)).1 ⟨rfl, rfl⟩ hI TnB (fun K H0 k hret => t_Re_stratum_0 k r_x1 hf hret)
abbrev rm_Re_ways : Room := { frames := 6, cells := 0, slots := 0, locals := 144 }
def HW_Re_ways_47 (E : EE) (K : KT) (H0 : Heap) (w : World) (x1 : Int) (x5 : Int) : (Int × Int) → Prop := fun z => R32 z.1 → R32 z.2 → ∀ o2 o3 o4 : Option Value, Jj K (WdT TB E H0) w 47 [some (rf E.ad 1), some (.int (ii x1)), o2, o3, o4, some (.int (ii x5)), some (.int (ii z.1)), some (.int (ii z.2))] []
def HW_Re_ways_145 (E : EE) (K : KT) (H0 : Heap) (x1 : Int) (x5 : Int) : (World × Int × Int) → Prop := fun z => R32 z.2.1 → R32 z.2.2 → ∀ o2 o3 o4 : Option Value, Jj K (WdT TB E H0) z.1 145 [some (rf E.ad 1), some (.int (ii x1)), o2, o3, o4, some (.int (ii x5)), some (.int (ii z.2.1)), some (.int (ii z.2.2))] []
def HW_Re_ways_158 (E : EE) (K : KT) (H0 : Heap) (x1 : Int) (x5 : Int) (x7 : Int) : (World × Int) → Prop := fun z => R32 z.2 → ∀ o2 o3 o4 : Option Value, Jj K (WdT TB E H0) z.1 158 [some (rf E.ad 1), some (.int (ii x1)), o2, o3, o4, some (.int (ii x5)), some (.int (ii z.2)), some (.int (ii x7))] []
noncomputable def f_Re_ways_247 (w : World) (x1 : Int) (x5 : Int) (x6 : Int) (x7 : Int) : Option ((World × Int × Int) ⊕ (World × Int)) :=
  bl (wr (x7 + 1)) fun n1 => some (Sum.inl (w, x6, n1))
theorem t_Re_ways_247 {E : EE} {K : KT} {l : Launch} {H0 : Heap} (k : Kof TB E K l cX11_ways RX11 rm_Re_ways) {w : World} {x1 : Int} {x5 : Int} {x6 : Int} {x7 : Int} {o2 o3 o4 : Option Value} (r_x1 : R32 x1) (r_x5 : R32 x5) (r_x6 : R32 x6) (r_x7 : R32 x7) {out : ((World × Int × Int) ⊕ (World × Int))} (hf : f_Re_ways_247 w x1 x5 x6 x7 = some out) (hc : (Sum.elim (HW_Re_ways_145 E K H0 x1 x5) (fun out : (World × Int) => RetI TB E K H0 cX11_ways out.1 out.2)) out) : Jj K (WdT TB E H0) w 247 [some (rf E.ad 1), some (.int (ii x1)), o2, o3, o4, some (.int (ii x5)), some (.int (ii x6)), some (.int (ii x7))] [] := by
  unfold f_Re_ways_247 at hf
  have o := k.1
  have g := k.2.1
  have kr := k.2.2.1
  have hf := bl_out hf
  refine J_iinc o dX11_ways_247 rfl ?_
  refine J_goto 145 o dX11_ways_250 (by decide) ?_
  have hf := some_inj hf
  subst hf
  exact hc r_x6 (R_wr _) _ _ _
noncomputable def f_Re_ways_241 (w : World) (x1 : Int) (x5 : Int) (x7 : Int) (s0 : Int) (s1 : Int) : Option ((World × Int) ⊕ ((World × Int × Int) ⊕ (World × Int))) :=
  bl (wr (s0 + s1)) fun n1 => some (Sum.inl (w, n1))
theorem t_Re_ways_241 {E : EE} {K : KT} {l : Launch} {H0 : Heap} (k : Kof TB E K l cX11_ways RX11 rm_Re_ways) {w : World} {x1 : Int} {x5 : Int} {x7 : Int} {s0 : Int} {s1 : Int} {o2 o3 o4 o6 : Option Value} (r_x1 : R32 x1) (r_x5 : R32 x5) (r_x7 : R32 x7) (r_s0 : R32 s0) (r_s1 : R32 s1) {out : ((World × Int) ⊕ ((World × Int × Int) ⊕ (World × Int)))} (hf : f_Re_ways_241 w x1 x5 x7 s0 s1 = some out) (hc : (Sum.elim (HW_Re_ways_158 E K H0 x1 x5 x7) (Sum.elim (HW_Re_ways_145 E K H0 x1 x5) (fun out : (World × Int) => RetI TB E K H0 cX11_ways out.1 out.2))) out) : Jj K (WdT TB E H0) w 241 [some (rf E.ad 1), some (.int (ii x1)), o2, o3, o4, some (.int (ii x5)), o6, some (.int (ii x7))] [.int (ii s1), .int (ii s0)] := by
  unfold f_Re_ways_241 at hf
  have o := k.1
  have g := k.2.1
  have kr := k.2.2.1
  refine J_iadd o dX11_ways_241 ?_
  refine J_istore o dX11_ways_242 (Nat.le_of_ble_eq_true rfl) ?_
  have hf := bl_out hf
  refine J_goto 158 o dX11_ways_244 (by decide) ?_
  have hf := some_inj hf
  subst hf
  exact hc (R_wr _) _ _ _
noncomputable def f_Re_ways_158B (w : World) (x1 : Int) (x5 : Int) (x6 : Int) (x7 : Int) : Option ((World × Int) ⊕ ((World × Int × Int) ⊕ (World × Int))) :=
  gd (0 ≤ x7 ∧ x7 < 12) (if (w 13 x7.toNat) = 0 then (gd (0 ≤ x7 ∧ x7 < 19) (if (w 14 x7.toNat) = x1 then (gd (0 ≤ x7 ∧ x7 < 19) (bnd (f_Re_next w x7 (w 16 x7.toNat) (w 1 1)) fun v15 => if v15.2 = 0 then (bnd (f_Re_ways_247 v15.1 x1 x5 x6 x7) fun y19 => some (Sum.inr y19)) else (bnd (f_Re_headValue v15.1 x7 0) fun v22 => bnd (f_Re_headValue v15.1 x7 1) fun v25 => bnd (f_Re_headValue v15.1 x7 2) fun v28 => bnd (f_Re_place v15.1 (v15.1 1 1) x1 v22 v25 v28) fun v31 => if v31 = x5 then (f_Re_ways_241 v15.1 x1 x5 x7 x6 1) else (f_Re_ways_241 v15.1 x1 x5 x7 x6 0)))) else (bnd (f_Re_ways_247 w x1 x5 x6 x7) fun y10 => some (Sum.inr y10)))) else (bnd (f_Re_ways_247 w x1 x5 x6 x7) fun y5 => some (Sum.inr y5)))
theorem t_Re_ways_158B {E : EE} {K : KT} {l : Launch} {H0 : Heap} (k : Kof TB E K l cX11_ways RX11 rm_Re_ways) {w : World} {x1 : Int} {x5 : Int} {x6 : Int} {x7 : Int} {o2 o3 o4 : Option Value} (r_x1 : R32 x1) (r_x5 : R32 x5) (r_x6 : R32 x6) (r_x7 : R32 x7) {out : ((World × Int) ⊕ ((World × Int × Int) ⊕ (World × Int)))} (hf : f_Re_ways_158B w x1 x5 x6 x7 = some out) (hc : (Sum.elim (HW_Re_ways_158 E K H0 x1 x5 x7) (Sum.elim (HW_Re_ways_145 E K H0 x1 x5) (fun out : (World × Int) => RetI TB E K H0 cX11_ways out.1 out.2))) out) : Jj K (WdT TB E H0) w 158 [some (rf E.ad 1), some (.int (ii x1)), o2, o3, o4, some (.int (ii x5)), some (.int (ii x6)), some (.int (ii x7))] [] := by
  unfold f_Re_ways_158B at hf
  have o := k.1
  have g := k.2.1
  have kr := k.2.2.1
  refine J_aload_n o dX11_ways_158 rfl ?_
  refine J_getF (true, 13) o g dX11_ways_159 flX11_44 kB_1 rfl rfl rfl ?_
  refine J_iload o dX11_ways_162 rfl ?_
  obtain ⟨g1, hf⟩ := gd_some hf
  refine J_zald o g dX11_ways_164 kB_13 r_x7 zB_13 g1 (fun q2 => ?_)
  refine J_if_ne 247 o dX11_ways_165 (by decide) q2 (fun c3 => ?_) (fun c4 => ?_)
  · have hf := ite_f c3 hf
    obtain ⟨y5, hf1, hf⟩ := bnd_some hf
    have hf := some_inj hf
    subst hf
    exact t_Re_ways_247 k r_x1 r_x5 r_x6 r_x7 hf1 hc
  · have hf := ite_t c4 hf
    refine J_aload_n o dX11_ways_168 rfl ?_
    refine J_getF (true, 14) o g dX11_ways_169 flX11_47 kB_1 rfl rfl rfl ?_
    refine J_iload o dX11_ways_172 rfl ?_
    obtain ⟨g6, hf⟩ := gd_some hf
    refine J_iald o g dX11_ways_174 kB_14 r_x7 zB_14 g6 (fun q7 => ?_)
    refine J_iload_n o dX11_ways_175 rfl ?_
    refine J_icmp_ne 247 o dX11_ways_176 (by decide) q7 r_x1 (fun c8 => ?_) (fun c9 => ?_)
    · have hf := ite_f c8 hf
      obtain ⟨y10, hf1, hf⟩ := bnd_some hf
      have hf := some_inj hf
      subst hf
      exact t_Re_ways_247 k r_x1 r_x5 r_x6 r_x7 hf1 hc
    · have hf := ite_t c9 hf
      refine J_aload_n o dX11_ways_179 rfl ?_
      refine J_iload o dX11_ways_180 rfl ?_
      refine J_aload_n o dX11_ways_182 rfl ?_
      refine J_getF (true, 16) o g dX11_ways_183 flX11_53 kB_1 rfl rfl rfl ?_
      refine J_iload o dX11_ways_186 rfl ?_
      obtain ⟨g11, hf⟩ := gd_some hf
      refine J_iald o g dX11_ways_188 kB_16 r_x7 zB_16 g11 (fun q12 => ?_)
      refine J_aload_n o dX11_ways_189 rfl ?_
      refine J_getI o g dX11_ways_190 flX11_131 kB_1 rfl (fun q13 => ?_)
      obtain ⟨v15, e14, hf⟩ := bnd_some hf
      refine J_vI o g kr dX11_ways_193 lkX11_237 ml_Re_next vl_Re_next ⟨rfl, rfl, Nat.le_of_ble_eq_true rfl, Nat.le_of_ble_eq_true rfl⟩ (c_Re_next g.2.1 r_x7 q12 q13 e14) kB_1 rfl ⟨by decide, by decide⟩ rfl rfl c1s_0 (fun q16 => ?_)
      refine J_if_eq 247 o dX11_ways_196 (by decide) q16 (fun c17 => ?_) (fun c18 => ?_)
      · have hf := ite_t c17 hf
        obtain ⟨y19, hf1, hf⟩ := bnd_some hf
        have hf := some_inj hf
        subst hf
        exact t_Re_ways_247 k r_x1 r_x5 r_x6 r_x7 hf1 hc
      · have hf := ite_f c18 hf
        refine J_iload o dX11_ways_199 rfl ?_
        refine J_aload_n o dX11_ways_201 rfl ?_
        refine J_aload_n o dX11_ways_202 rfl ?_
        refine J_getI o g dX11_ways_203 flX11_131 kB_1 rfl (fun q20 => ?_)
        refine J_iload_n o dX11_ways_206 rfl ?_
        refine J_aload_n o dX11_ways_207 rfl ?_
        refine J_iload o dX11_ways_208 rfl ?_
        refine J_iconst o dX11_ways_210 ?_
        obtain ⟨v22, e21, hf⟩ := bnd_some hf
        refine J_vI o g kr dX11_ways_211 lkX11_240 ml_Re_headValue vl_Re_headValue ⟨rfl, rfl, Nat.le_of_ble_eq_true rfl, Nat.le_of_ble_eq_true rfl⟩ (c_Re_headValue g.2.1 r_x7 rl0 e21) kB_1 rfl ⟨by decide, by decide⟩ rfl rfl (c1s_i (c1s_i (c1s_r (c1s_i c1s_0 (Nat.le_of_ble_eq_true rfl)) (Nat.le_of_ble_eq_true rfl)) (Nat.le_of_ble_eq_true rfl)) (Nat.le_of_ble_eq_true rfl)) (fun q23 => ?_)
        refine J_aload_n o dX11_ways_214 rfl ?_
        refine J_iload o dX11_ways_215 rfl ?_
        refine J_iconst o dX11_ways_217 ?_
        obtain ⟨v25, e24, hf⟩ := bnd_some hf
        refine J_vI o g kr dX11_ways_218 lkX11_240 ml_Re_headValue vl_Re_headValue ⟨rfl, rfl, Nat.le_of_ble_eq_true rfl, Nat.le_of_ble_eq_true rfl⟩ (c_Re_headValue g.2.1 r_x7 rl1 e24) kB_1 rfl ⟨by decide, by decide⟩ rfl rfl (c1s_i (c1s_i (c1s_i (c1s_r (c1s_i c1s_0 (Nat.le_of_ble_eq_true rfl)) (Nat.le_of_ble_eq_true rfl)) (Nat.le_of_ble_eq_true rfl)) (Nat.le_of_ble_eq_true rfl)) (Nat.le_of_ble_eq_true rfl)) (fun q26 => ?_)
        refine J_aload_n o dX11_ways_221 rfl ?_
        refine J_iload o dX11_ways_222 rfl ?_
        refine J_iconst o dX11_ways_224 ?_
        obtain ⟨v28, e27, hf⟩ := bnd_some hf
        refine J_vI o g kr dX11_ways_225 lkX11_240 ml_Re_headValue vl_Re_headValue ⟨rfl, rfl, Nat.le_of_ble_eq_true rfl, Nat.le_of_ble_eq_true rfl⟩ (c_Re_headValue g.2.1 r_x7 rl2 e27) kB_1 rfl ⟨by decide, by decide⟩ rfl rfl (c1s_i (c1s_i (c1s_i (c1s_i (c1s_r (c1s_i c1s_0 (Nat.le_of_ble_eq_true rfl)) (Nat.le_of_ble_eq_true rfl)) (Nat.le_of_ble_eq_true rfl)) (Nat.le_of_ble_eq_true rfl)) (Nat.le_of_ble_eq_true rfl)) (Nat.le_of_ble_eq_true rfl)) (fun q29 => ?_)
        obtain ⟨v31, e30, hf⟩ := bnd_some hf
        refine J_vI o g kr dX11_ways_228 lkX11_217 ml_Re_place vl_Re_place ⟨rfl, rfl, Nat.le_of_ble_eq_true rfl, Nat.le_of_ble_eq_true rfl⟩ (c_Re_place g.2.1 q20 r_x1 q23 q26 q29 e30) kB_1 rfl ⟨by decide, by decide⟩ rfl rfl (c1s_i c1s_0 (Nat.le_of_ble_eq_true rfl)) (fun q32 => ?_)
        refine J_iload o dX11_ways_231 rfl ?_
        refine J_icmp_ne 240 o dX11_ways_233 (by decide) q32 r_x5 (fun c33 => ?_) (fun c34 => ?_)
        · have hf := ite_f c33 hf
          refine J_iconst o dX11_ways_240 ?_
          exact t_Re_ways_241 k r_x1 r_x5 r_x7 r_x6 rl0 hf hc
        · have hf := ite_t c34 hf
          refine J_iconst o dX11_ways_236 ?_
          refine J_goto 241 o dX11_ways_237 (by decide) ?_
          exact t_Re_ways_241 k r_x1 r_x5 r_x7 r_x6 rl1 hf hc
noncomputable def f_Re_ways_158 (w : World) (x1 : Int) (x5 : Int) (x6 : Int) (x7 : Int) : Option ((World × Int × Int) ⊕ (World × Int)) :=
  lp (fun z : (World × Int) => f_Re_ways_158B z.1 x1 x5 z.2 x7) (w, x6)
theorem t_Re_ways_158 {E : EE} {K : KT} {l : Launch} {H0 : Heap} (k : Kof TB E K l cX11_ways RX11 rm_Re_ways) {w : World} {x1 : Int} {x5 : Int} {x6 : Int} {x7 : Int} (r_x1 : R32 x1) (r_x5 : R32 x5) (r_x7 : R32 x7) {out : ((World × Int × Int) ⊕ (World × Int))} (hf : f_Re_ways_158 w x1 x5 x6 x7 = some out) (hc : (Sum.elim (HW_Re_ways_145 E K H0 x1 x5) (fun out : (World × Int) => RetI TB E K H0 cX11_ways out.1 out.2)) out) : HW_Re_ways_158 E K H0 x1 x5 x7 (w, x6) := by
  unfold f_Re_ways_158 at hf
  refine lp_ind (P := HW_Re_ways_158 E K H0 x1 x5 x7) hf ?_
  intro z o hs h1 h2
  intro r_x6
  intro o2 o3 o4
  refine t_Re_ways_158B k r_x1 r_x5 r_x6 r_x7 hs ?_
  cases o with
  | inl z' => exact h1 z' rfl
  | inr r' => rw [h2 r' rfl]; exact hc
noncomputable def f_Re_ways_145B (w : World) (x1 : Int) (x5 : Int) (x6 : Int) (x7 : Int) : Option ((World × Int × Int) ⊕ (World × Int)) :=
  if (w 1 14) ≤ x7 then (some (Sum.inr (w, x6))) else (bnd (f_Re_begin w ) fun v5 => f_Re_ways_158 v5 x1 x5 x6 x7)
theorem t_Re_ways_145B {E : EE} {K : KT} {l : Launch} {H0 : Heap} (k : Kof TB E K l cX11_ways RX11 rm_Re_ways) {w : World} {x1 : Int} {x5 : Int} {x6 : Int} {x7 : Int} {o2 o3 o4 : Option Value} (r_x1 : R32 x1) (r_x5 : R32 x5) (r_x6 : R32 x6) (r_x7 : R32 x7) {out : ((World × Int × Int) ⊕ (World × Int))} (hf : f_Re_ways_145B w x1 x5 x6 x7 = some out) (hc : (Sum.elim (HW_Re_ways_145 E K H0 x1 x5) (fun out : (World × Int) => RetI TB E K H0 cX11_ways out.1 out.2)) out) : Jj K (WdT TB E H0) w 145 [some (rf E.ad 1), some (.int (ii x1)), o2, o3, o4, some (.int (ii x5)), some (.int (ii x6)), some (.int (ii x7))] [] := by
  unfold f_Re_ways_145B at hf
  have o := k.1
  have g := k.2.1
  have kr := k.2.2.1
  refine J_iload o dX11_ways_145 rfl ?_
  refine J_aload_n o dX11_ways_147 rfl ?_
  refine J_getI o g dX11_ways_148 flX11_159 kB_1 rfl (fun q1 => ?_)
  refine J_icmp_ge 253 o dX11_ways_151 (by decide) r_x7 q1 (fun c2 => ?_) (fun c3 => ?_)
  · have hf := ite_t c2 hf
    refine J_iload o dX11_ways_253 rfl ?_
    have hf := some_inj hf
    subst hf
    exact hc _ _ r_x6 dX11_ways_255
  · have hf := ite_f c3 hf
    refine J_aload_n o dX11_ways_154 rfl ?_
    obtain ⟨v5, e4, hf⟩ := bnd_some hf
    refine J_vV o g kr dX11_ways_155 lkX11_234 ml_Re_begin vl_Re_begin ⟨rfl, rfl, Nat.le_of_ble_eq_true rfl, Nat.le_of_ble_eq_true rfl⟩ (c_Re_begin g.2.1  e4) kB_1 rfl ⟨by decide, by decide⟩ rfl rfl c1s_0 ?_
    exact (t_Re_ways_158 k r_x1 r_x5 r_x7 hf hc) r_x6 _ _ _
noncomputable def f_Re_ways_145 (w : World) (x1 : Int) (x5 : Int) (x6 : Int) (x7 : Int) : Option (World × Int) :=
  lp (fun z : (World × Int × Int) => f_Re_ways_145B z.1 x1 x5 z.2.1 z.2.2) (w, x6, x7)
theorem t_Re_ways_145 {E : EE} {K : KT} {l : Launch} {H0 : Heap} (k : Kof TB E K l cX11_ways RX11 rm_Re_ways) {w : World} {x1 : Int} {x5 : Int} {x6 : Int} {x7 : Int} (r_x1 : R32 x1) (r_x5 : R32 x5) {out : (World × Int)} (hf : f_Re_ways_145 w x1 x5 x6 x7 = some out) (hc : (fun out : (World × Int) => RetI TB E K H0 cX11_ways out.1 out.2) out) : HW_Re_ways_145 E K H0 x1 x5 (w, x6, x7) := by
  unfold f_Re_ways_145 at hf
  refine lp_ind (P := HW_Re_ways_145 E K H0 x1 x5) hf ?_
  intro z o hs h1 h2
  intro r_x6 r_x7
  intro o2 o3 o4
  refine t_Re_ways_145B k r_x1 r_x5 r_x6 r_x7 hs ?_
  cases o with
  | inl z' => exact h1 z' rfl
  | inr r' => rw [h2 r' rfl]; exact hc
noncomputable def f_Re_ways_133 (w : World) (x1 : Int) (x5 : Int) (x7 : Int) (s0 : Int) (s1 : Int) : Option ((Int × Int) ⊕ (World × Int)) :=
  bl (wr (s0 + s1)) fun n1 => bl (wr (x7 + 1)) fun n2 => some (Sum.inl (n1, n2))
theorem t_Re_ways_133 {E : EE} {K : KT} {l : Launch} {H0 : Heap} (k : Kof TB E K l cX11_ways RX11 rm_Re_ways) {w : World} {x1 : Int} {x5 : Int} {x7 : Int} {s0 : Int} {s1 : Int} {o2 o3 o4 o6 : Option Value} (r_x1 : R32 x1) (r_x5 : R32 x5) (r_x7 : R32 x7) (r_s0 : R32 s0) (r_s1 : R32 s1) {out : ((Int × Int) ⊕ (World × Int))} (hf : f_Re_ways_133 w x1 x5 x7 s0 s1 = some out) (hc : (Sum.elim (HW_Re_ways_47 E K H0 w x1 x5) (fun out : (World × Int) => RetI TB E K H0 cX11_ways out.1 out.2)) out) : Jj K (WdT TB E H0) w 133 [some (rf E.ad 1), some (.int (ii x1)), o2, o3, o4, some (.int (ii x5)), o6, some (.int (ii x7))] [.int (ii s1), .int (ii s0)] := by
  unfold f_Re_ways_133 at hf
  have o := k.1
  have g := k.2.1
  have kr := k.2.2.1
  refine J_iadd o dX11_ways_133 ?_
  refine J_istore o dX11_ways_134 (Nat.le_of_ble_eq_true rfl) ?_
  have hf := bl_out hf
  have hf := bl_out hf
  refine J_iinc o dX11_ways_136 rfl ?_
  refine J_goto 47 o dX11_ways_139 (by decide) ?_
  have hf := some_inj hf
  subst hf
  exact hc (R_wr _) (R_wr _) _ _ _
noncomputable def f_Re_ways_132 (w : World) (x1 : Int) (x5 : Int) (x7 : Int) (s0 : Int) : Option ((Int × Int) ⊕ (World × Int)) :=
  f_Re_ways_133 w x1 x5 x7 s0 0
theorem t_Re_ways_132 {E : EE} {K : KT} {l : Launch} {H0 : Heap} (k : Kof TB E K l cX11_ways RX11 rm_Re_ways) {w : World} {x1 : Int} {x5 : Int} {x7 : Int} {s0 : Int} {o2 o3 o4 o6 : Option Value} (r_x1 : R32 x1) (r_x5 : R32 x5) (r_x7 : R32 x7) (r_s0 : R32 s0) {out : ((Int × Int) ⊕ (World × Int))} (hf : f_Re_ways_132 w x1 x5 x7 s0 = some out) (hc : (Sum.elim (HW_Re_ways_47 E K H0 w x1 x5) (fun out : (World × Int) => RetI TB E K H0 cX11_ways out.1 out.2)) out) : Jj K (WdT TB E H0) w 132 [some (rf E.ad 1), some (.int (ii x1)), o2, o3, o4, some (.int (ii x5)), o6, some (.int (ii x7))] [.int (ii s0)] := by
  unfold f_Re_ways_132 at hf
  have o := k.1
  have g := k.2.1
  have kr := k.2.2.1
  refine J_iconst o dX11_ways_132 ?_
  exact t_Re_ways_133 k r_x1 r_x5 r_x7 r_s0 rl0 hf hc
noncomputable def f_Re_ways_47B (w : World) (x1 : Int) (x5 : Int) (x6 : Int) (x7 : Int) : Option ((Int × Int) ⊕ (World × Int)) :=
  if (w 1 7) ≤ x7 then (bnd (f_Re_ways_145 w x1 x5 x6 0) fun y4 => some (Sum.inr y4)) else (gd (0 ≤ x7 ∧ x7 < 24) (if (w 7 x7.toNat) = x1 then (bnd (f_Re_holdsIn w x7 (w 1 1) 0) fun v11 => if v11 = 0 then (f_Re_ways_132 w x1 x5 x7 x6) else (gd (0 ≤ wr (3 * x7) ∧ wr (3 * x7) < 72) (gd (0 ≤ wr ((wr (3 * x7)) + 1) ∧ wr ((wr (3 * x7)) + 1) < 72) (gd (0 ≤ wr ((wr (3 * x7)) + 2) ∧ wr ((wr (3 * x7)) + 2) < 72) (bnd (f_Re_place w (w 1 1) x1 (w 8 (wr (3 * x7)).toNat) (w 8 (wr ((wr (3 * x7)) + 1)).toNat) (w 8 (wr ((wr (3 * x7)) + 2)).toNat)) fun v23 => if v23 = x5 then (f_Re_ways_133 w x1 x5 x7 x6 1) else (f_Re_ways_132 w x1 x5 x7 x6)))))) else (f_Re_ways_132 w x1 x5 x7 x6)))
theorem t_Re_ways_47B {E : EE} {K : KT} {l : Launch} {H0 : Heap} (k : Kof TB E K l cX11_ways RX11 rm_Re_ways) {w : World} {x1 : Int} {x5 : Int} {x6 : Int} {x7 : Int} {o2 o3 o4 : Option Value} (r_x1 : R32 x1) (r_x5 : R32 x5) (r_x6 : R32 x6) (r_x7 : R32 x7) {out : ((Int × Int) ⊕ (World × Int))} (hf : f_Re_ways_47B w x1 x5 x6 x7 = some out) (hc : (Sum.elim (HW_Re_ways_47 E K H0 w x1 x5) (fun out : (World × Int) => RetI TB E K H0 cX11_ways out.1 out.2)) out) : Jj K (WdT TB E H0) w 47 [some (rf E.ad 1), some (.int (ii x1)), o2, o3, o4, some (.int (ii x5)), some (.int (ii x6)), some (.int (ii x7))] [] := by
  unfold f_Re_ways_47B at hf
  have o := k.1
  have g := k.2.1
  have kr := k.2.2.1
  refine J_iload o dX11_ways_47 rfl ?_
  refine J_aload_n o dX11_ways_49 rfl ?_
  refine J_getI o g dX11_ways_50 flX11_124 kB_1 rfl (fun q1 => ?_)
  refine J_icmp_ge 142 o dX11_ways_53 (by decide) r_x7 q1 (fun c2 => ?_) (fun c3 => ?_)
  · have hf := ite_t c2 hf
    refine J_iconst o dX11_ways_142 ?_
    refine J_istore o dX11_ways_143 (Nat.le_of_ble_eq_true rfl) ?_
    obtain ⟨y4, hf1, hf⟩ := bnd_some hf
    have hf := some_inj hf
    subst hf
    exact (t_Re_ways_145 k r_x1 r_x5 hf1 hc) r_x6 rl0 _ _ _
  · have hf := ite_f c3 hf
    refine J_iload o dX11_ways_56 rfl ?_
    refine J_aload_n o dX11_ways_58 rfl ?_
    refine J_getF (true, 7) o g dX11_ways_59 flX11_26 kB_1 rfl rfl rfl ?_
    refine J_iload o dX11_ways_62 rfl ?_
    obtain ⟨g5, hf⟩ := gd_some hf
    refine J_iald o g dX11_ways_64 kB_7 r_x7 zB_7 g5 (fun q6 => ?_)
    refine J_iload_n o dX11_ways_65 rfl ?_
    refine J_icmp_ne 132 o dX11_ways_66 (by decide) q6 r_x1 (fun c7 => ?_) (fun c8 => ?_)
    · have hf := ite_f c7 hf
      exact t_Re_ways_132 k r_x1 r_x5 r_x7 r_x6 hf hc
    · have hf := ite_t c8 hf
      refine J_aload_n o dX11_ways_69 rfl ?_
      refine J_iload o dX11_ways_70 rfl ?_
      refine J_aload_n o dX11_ways_72 rfl ?_
      refine J_getI o g dX11_ways_73 flX11_131 kB_1 rfl (fun q9 => ?_)
      refine J_iconst o dX11_ways_76 ?_
      obtain ⟨v11, e10, hf⟩ := bnd_some hf
      refine J_vI o g kr dX11_ways_77 lkX11_224 ml_Re_holdsIn vl_Re_holdsIn ⟨rfl, rfl, Nat.le_of_ble_eq_true rfl, Nat.le_of_ble_eq_true rfl⟩ (c_Re_holdsIn g.2.1 r_x7 q9 rl0 e10) kB_1 rfl ⟨by decide, by decide⟩ rfl rfl (c1s_i c1s_0 (Nat.le_of_ble_eq_true rfl)) (fun q12 => ?_)
      refine J_if_eq 132 o dX11_ways_80 (by decide) q12 (fun c13 => ?_) (fun c14 => ?_)
      · have hf := ite_t c13 hf
        exact t_Re_ways_132 k r_x1 r_x5 r_x7 r_x6 hf hc
      · have hf := ite_f c14 hf
        refine J_aload_n o dX11_ways_83 rfl ?_
        refine J_aload_n o dX11_ways_84 rfl ?_
        refine J_getI o g dX11_ways_85 flX11_131 kB_1 rfl (fun q15 => ?_)
        refine J_iload_n o dX11_ways_88 rfl ?_
        refine J_aload_n o dX11_ways_89 rfl ?_
        refine J_getF (true, 8) o g dX11_ways_90 flX11_29 kB_1 rfl rfl rfl ?_
        refine J_iconst o dX11_ways_93 ?_
        refine J_iload o dX11_ways_94 rfl ?_
        refine J_imul o dX11_ways_96 ?_
        obtain ⟨g16, hf⟩ := gd_some hf
        refine J_iald o g dX11_ways_97 kB_8 (R_wr _) zB_8 g16 (fun q17 => ?_)
        refine J_aload_n o dX11_ways_98 rfl ?_
        refine J_getF (true, 8) o g dX11_ways_99 flX11_29 kB_1 rfl rfl rfl ?_
        refine J_iconst o dX11_ways_102 ?_
        refine J_iload o dX11_ways_103 rfl ?_
        refine J_imul o dX11_ways_105 ?_
        refine J_iconst o dX11_ways_106 ?_
        refine J_iadd o dX11_ways_107 ?_
        obtain ⟨g18, hf⟩ := gd_some hf
        refine J_iald o g dX11_ways_108 kB_8 (R_wr _) zB_8 g18 (fun q19 => ?_)
        refine J_aload_n o dX11_ways_109 rfl ?_
        refine J_getF (true, 8) o g dX11_ways_110 flX11_29 kB_1 rfl rfl rfl ?_
        refine J_iconst o dX11_ways_113 ?_
        refine J_iload o dX11_ways_114 rfl ?_
        refine J_imul o dX11_ways_116 ?_
        refine J_iconst o dX11_ways_117 ?_
        refine J_iadd o dX11_ways_118 ?_
        obtain ⟨g20, hf⟩ := gd_some hf
        refine J_iald o g dX11_ways_119 kB_8 (R_wr _) zB_8 g20 (fun q21 => ?_)
        obtain ⟨v23, e22, hf⟩ := bnd_some hf
        refine J_vI o g kr dX11_ways_120 lkX11_217 ml_Re_place vl_Re_place ⟨rfl, rfl, Nat.le_of_ble_eq_true rfl, Nat.le_of_ble_eq_true rfl⟩ (c_Re_place g.2.1 q15 r_x1 q17 q19 q21 e22) kB_1 rfl ⟨by decide, by decide⟩ rfl rfl (c1s_i c1s_0 (Nat.le_of_ble_eq_true rfl)) (fun q24 => ?_)
        refine J_iload o dX11_ways_123 rfl ?_
        refine J_icmp_ne 132 o dX11_ways_125 (by decide) q24 r_x5 (fun c25 => ?_) (fun c26 => ?_)
        · have hf := ite_f c25 hf
          exact t_Re_ways_132 k r_x1 r_x5 r_x7 r_x6 hf hc
        · have hf := ite_t c26 hf
          refine J_iconst o dX11_ways_128 ?_
          refine J_goto 133 o dX11_ways_129 (by decide) ?_
          exact t_Re_ways_133 k r_x1 r_x5 r_x7 r_x6 rl1 hf hc
noncomputable def f_Re_ways_47 (w : World) (x1 : Int) (x5 : Int) (x6 : Int) (x7 : Int) : Option (World × Int) :=
  lp (fun z : (Int × Int) => f_Re_ways_47B w x1 x5 z.1 z.2) (x6, x7)
theorem t_Re_ways_47 {E : EE} {K : KT} {l : Launch} {H0 : Heap} (k : Kof TB E K l cX11_ways RX11 rm_Re_ways) {w : World} {x1 : Int} {x5 : Int} {x6 : Int} {x7 : Int} (r_x1 : R32 x1) (r_x5 : R32 x5) {out : (World × Int)} (hf : f_Re_ways_47 w x1 x5 x6 x7 = some out) (hc : (fun out : (World × Int) => RetI TB E K H0 cX11_ways out.1 out.2) out) : HW_Re_ways_47 E K H0 w x1 x5 (x6, x7) := by
  unfold f_Re_ways_47 at hf
  refine lp_ind (P := HW_Re_ways_47 E K H0 w x1 x5) hf ?_
  intro z o hs h1 h2
  intro r_x6 r_x7
  intro o2 o3 o4
  refine t_Re_ways_47B k r_x1 r_x5 r_x6 r_x7 hs ?_
  cases o with
  | inl z' => exact h1 z' rfl
  | inr r' => rw [h2 r' rfl]; exact hc
noncomputable def f_Re_ways (w : World) (x1 : Int) (x2 : Int) (x3 : Int) (x4 : Int) : Option (World × Int) :=
  bnd (f_Re_noRelation w x1) fun v2 => if v2.2 = 0 then (bnd (f_Re_hasTuple v2.1 (v2.1 1 1) x1 x2 x3 x4) fun v8 => if v8 = 0 then (some (v2.1, 0)) else (bnd (f_Re_place v2.1 (v2.1 1 1) x1 x2 x3 x4) fun v14 => f_Re_ways_47 v2.1 x1 v14 0 0)) else (some (v2.1, 0))
theorem t_Re_ways_0 {E : EE} {K : KT} {l : Launch} {H0 : Heap} (k : Kof TB E K l cX11_ways RX11 rm_Re_ways) {w : World} {x1 : Int} {x2 : Int} {x3 : Int} {x4 : Int} {o5 o6 o7 : Option Value} (r_x1 : R32 x1) (r_x2 : R32 x2) (r_x3 : R32 x3) (r_x4 : R32 x4) {out : (World × Int)} (hf : f_Re_ways w x1 x2 x3 x4 = some out) (hc : (fun out : (World × Int) => RetI TB E K H0 cX11_ways out.1 out.2) out) : Jj K (WdT TB E H0) w 0 [some (rf E.ad 1), some (.int (ii x1)), some (.int (ii x2)), some (.int (ii x3)), some (.int (ii x4)), o5, o6, o7] [] := by
  unfold f_Re_ways at hf
  have o := k.1
  have g := k.2.1
  have kr := k.2.2.1
  refine J_aload_n o dX11_ways_0 rfl ?_
  refine J_iload_n o dX11_ways_1 rfl ?_
  obtain ⟨v2, e1, hf⟩ := bnd_some hf
  refine J_vI o g kr dX11_ways_2 lkX11_246 ml_Re_noRelation vl_Re_noRelation ⟨rfl, rfl, Nat.le_of_ble_eq_true rfl, Nat.le_of_ble_eq_true rfl⟩ (c_Re_noRelation g.2.1 r_x1 e1) kB_1 rfl ⟨by decide, by decide⟩ rfl rfl c1s_0 (fun q3 => ?_)
  refine J_if_ne 24 o dX11_ways_5 (by decide) q3 (fun c4 => ?_) (fun c5 => ?_)
  · have hf := ite_f c4 hf
    refine J_iconst o dX11_ways_24 ?_
    have hf := some_inj hf
    subst hf
    exact hc _ _ rl0 dX11_ways_25
  · have hf := ite_t c5 hf
    refine J_aload_n o dX11_ways_8 rfl ?_
    refine J_aload_n o dX11_ways_9 rfl ?_
    refine J_getI o g dX11_ways_10 flX11_131 kB_1 rfl (fun q6 => ?_)
    refine J_iload_n o dX11_ways_13 rfl ?_
    refine J_iload_n o dX11_ways_14 rfl ?_
    refine J_iload_n o dX11_ways_15 rfl ?_
    refine J_iload o dX11_ways_16 rfl ?_
    obtain ⟨v8, e7, hf⟩ := bnd_some hf
    refine J_vI o g kr dX11_ways_18 lkX11_249 ml_Re_hasTuple vl_Re_hasTuple ⟨rfl, rfl, Nat.le_of_ble_eq_true rfl, Nat.le_of_ble_eq_true rfl⟩ (c_Re_hasTuple g.2.1 q6 r_x1 r_x2 r_x3 r_x4 e7) kB_1 rfl ⟨by decide, by decide⟩ rfl rfl c1s_0 (fun q9 => ?_)
    refine J_if_ne 26 o dX11_ways_21 (by decide) q9 (fun c10 => ?_) (fun c11 => ?_)
    · have hf := ite_f c10 hf
      refine J_aload_n o dX11_ways_26 rfl ?_
      refine J_aload_n o dX11_ways_27 rfl ?_
      refine J_getI o g dX11_ways_28 flX11_131 kB_1 rfl (fun q12 => ?_)
      refine J_iload_n o dX11_ways_31 rfl ?_
      refine J_iload_n o dX11_ways_32 rfl ?_
      refine J_iload_n o dX11_ways_33 rfl ?_
      refine J_iload o dX11_ways_34 rfl ?_
      obtain ⟨v14, e13, hf⟩ := bnd_some hf
      refine J_vI o g kr dX11_ways_36 lkX11_217 ml_Re_place vl_Re_place ⟨rfl, rfl, Nat.le_of_ble_eq_true rfl, Nat.le_of_ble_eq_true rfl⟩ (c_Re_place g.2.1 q12 r_x1 r_x2 r_x3 r_x4 e13) kB_1 rfl ⟨by decide, by decide⟩ rfl rfl c1s_0 (fun q15 => ?_)
      refine J_istore o dX11_ways_39 (Nat.le_of_ble_eq_true rfl) ?_
      refine J_iconst o dX11_ways_41 ?_
      refine J_istore o dX11_ways_42 (Nat.le_of_ble_eq_true rfl) ?_
      refine J_iconst o dX11_ways_44 ?_
      refine J_istore o dX11_ways_45 (Nat.le_of_ble_eq_true rfl) ?_
      exact (t_Re_ways_47 k r_x1 q15 hf hc) rl0 rl0 _ _ _
    · have hf := ite_t c11 hf
      refine J_iconst o dX11_ways_24 ?_
      have hf := some_inj hf
      subst hf
      exact hc _ _ rl0 dX11_ways_25
theorem c_Re_ways {E : EE} {l : Launch} (hI : Inj TB E) {w : World} {x1 : Int} {x2 : Int} {x3 : Int} {x4 : Int} (r_x1 : R32 x1) (r_x2 : R32 x2) (r_x3 : R32 x3) (r_x4 : R32 x4) {out : (World × Int)} (hf : f_Re_ways w x1 x2 x3 x4 = some out) : ConI TB E l yX11_ways (WS yX11_ways cX11_ways 8 (some .int)) rm_Re_ways [rf E.ad 1, .int (ii x1), .int (ii x2), .int (ii x3), .int (ii x4)] w out.1 out.2 :=
  con_I (by decide +kernel) rfl (Nat.le_of_ble_eq_true rfl) (c1s_r (c1s_i (c1s_i (c1s_i (c1s_i c1s_0 (Nat.le_of_ble_eq_true rfl)) (Nat.le_of_ble_eq_true rfl)) (Nat.le_of_ble_eq_true rfl)) (Nat.le_of_ble_eq_true rfl)) (Nat.le_of_ble_eq_true rfl)).1 ⟨rfl, rfl⟩ hI TnB (fun K H0 k hret => t_Re_ways_0 k r_x1 r_x2 r_x3 r_x4 hf hret)
abbrev rm_Re_costOf : Room := { frames := 2, cells := 0, slots := 0, locals := 54 }
def HW_Re_costOf_6 (E : EE) (K : KT) (H0 : Heap) (w : World) (x1 : Int) : (Int × Int) → Prop := fun z => R32 z.1 → R32 z.2 → ∀ o4 o5 o6 : Option Value, Jj K (WdT TB E H0) w 6 [some (rf E.ad 1), some (.int (ii x1)), some (.int (ii z.1)), some (.int (ii z.2)), o4, o5, o6] []
noncomputable def f_Re_costOf_141 (w : World) (x1 : Int) (x2 : Int) (x3 : Int) : Option ((Int × Int) ⊕ Int) :=
  bl (wr (x3 + 1)) fun n1 => some (Sum.inl (x2, n1))
theorem t_Re_costOf_141 {E : EE} {K : KT} {l : Launch} {H0 : Heap} (k : Kof TB E K l cX11_costOf RX11 rm_Re_costOf) {w : World} {x1 : Int} {x2 : Int} {x3 : Int} {o4 o5 o6 : Option Value} (r_x1 : R32 x1) (r_x2 : R32 x2) (r_x3 : R32 x3) {out : ((Int × Int) ⊕ Int)} (hf : f_Re_costOf_141 w x1 x2 x3 = some out) (hc : (Sum.elim (HW_Re_costOf_6 E K H0 w x1) (fun out : Int => RetI TB E K H0 cX11_costOf w out)) out) : Jj K (WdT TB E H0) w 141 [some (rf E.ad 1), some (.int (ii x1)), some (.int (ii x2)), some (.int (ii x3)), o4, o5, o6] [] := by
  unfold f_Re_costOf_141 at hf
  have o := k.1
  have g := k.2.1
  have kr := k.2.2.1
  have hf := bl_out hf
  refine J_iinc o dX11_costOf_141 rfl ?_
  refine J_goto 6 o dX11_costOf_144 (by decide) ?_
  have hf := some_inj hf
  subst hf
  exact hc r_x2 (R_wr _) _ _ _
noncomputable def f_Re_costOf_111 (w : World) (x1 : Int) (x2 : Int) (x3 : Int) (x4 : Int) (x5 : Int) (s0 : Int) : Option ((Int × Int) ⊕ Int) :=
  gd (0 ≤ x3 ∧ x3 < 95) (bnd (f_Re_place w (w 1 1) (w 18 x3.toNat) x4 x5 s0) fun v5 => gd (0 ≤ v5 ∧ v5 < 50) (bl (wr (x2 + (w 26 v5.toNat))) fun n9 => f_Re_costOf_141 w x1 n9 x3))
theorem t_Re_costOf_111 {E : EE} {K : KT} {l : Launch} {H0 : Heap} (k : Kof TB E K l cX11_costOf RX11 rm_Re_costOf) {w : World} {x1 : Int} {x2 : Int} {x3 : Int} {x4 : Int} {x5 : Int} {s0 : Int} {o6 : Option Value} (r_x1 : R32 x1) (r_x2 : R32 x2) (r_x3 : R32 x3) (r_x4 : R32 x4) (r_x5 : R32 x5) (r_s0 : R32 s0) {out : ((Int × Int) ⊕ Int)} (hf : f_Re_costOf_111 w x1 x2 x3 x4 x5 s0 = some out) (hc : (Sum.elim (HW_Re_costOf_6 E K H0 w x1) (fun out : Int => RetI TB E K H0 cX11_costOf w out)) out) : Jj K (WdT TB E H0) w 111 [some (rf E.ad 1), some (.int (ii x1)), some (.int (ii x2)), some (.int (ii x3)), some (.int (ii x4)), some (.int (ii x5)), o6] [.int (ii s0)] := by
  unfold f_Re_costOf_111 at hf
  have o := k.1
  have g := k.2.1
  have kr := k.2.2.1
  refine J_istore o dX11_costOf_111 (Nat.le_of_ble_eq_true rfl) ?_
  refine J_iload_n o dX11_costOf_113 rfl ?_
  refine J_aload_n o dX11_costOf_114 rfl ?_
  refine J_getF (true, 26) o g dX11_costOf_115 flX11_83 kB_1 rfl rfl rfl ?_
  refine J_aload_n o dX11_costOf_118 rfl ?_
  refine J_aload_n o dX11_costOf_119 rfl ?_
  refine J_getI o g dX11_costOf_120 flX11_131 kB_1 rfl (fun q1 => ?_)
  refine J_aload_n o dX11_costOf_123 rfl ?_
  refine J_getF (true, 18) o g dX11_costOf_124 flX11_59 kB_1 rfl rfl rfl ?_
  refine J_iload_n o dX11_costOf_127 rfl ?_
  obtain ⟨g2, hf⟩ := gd_some hf
  refine J_iald o g dX11_costOf_128 kB_18 r_x3 zB_18 g2 (fun q3 => ?_)
  refine J_iload o dX11_costOf_129 rfl ?_
  refine J_iload o dX11_costOf_131 rfl ?_
  refine J_iload o dX11_costOf_133 rfl ?_
  obtain ⟨v5, e4, hf⟩ := bnd_some hf
  refine J_vI o g kr dX11_costOf_135 lkX11_217 ml_Re_place vl_Re_place ⟨rfl, rfl, Nat.le_of_ble_eq_true rfl, Nat.le_of_ble_eq_true rfl⟩ (c_Re_place g.2.1 q1 q3 r_x4 r_x5 r_s0 e4) kB_1 rfl ⟨by decide, by decide⟩ rfl rfl (c1s_r (c1s_i c1s_0 (Nat.le_of_ble_eq_true rfl)) (Nat.le_of_ble_eq_true rfl)) (fun q6 => ?_)
  obtain ⟨g7, hf⟩ := gd_some hf
  refine J_iald o g dX11_costOf_138 kB_26 q6 zB_26 g7 (fun q8 => ?_)
  refine J_iadd o dX11_costOf_139 ?_
  refine J_istore_n o dX11_costOf_140 (Nat.le_of_ble_eq_true rfl) ?_
  have hf := bl_out hf
  exact t_Re_costOf_141 k r_x1 (R_wr _) r_x3 hf hc
noncomputable def f_Re_costOf_76 (w : World) (x1 : Int) (x2 : Int) (x3 : Int) (x4 : Int) (s0 : Int) : Option ((Int × Int) ⊕ Int) :=
  gd (0 ≤ x3 ∧ x3 < 95) (gd (0 ≤ w 18 x3.toNat ∧ w 18 x3.toNat < 10) (if (w 3 (w 18 x3.toNat).toNat) ≤ 2 then (f_Re_costOf_111 w x1 x2 x3 x4 s0 0) else (gd (0 ≤ wr ((wr (3 * x3)) + 2) ∧ wr ((wr (3 * x3)) + 2) < 285) (bnd (f_Re_valueOf w (w 19 (wr ((wr (3 * x3)) + 2)).toNat)) fun v10 => f_Re_costOf_111 w x1 x2 x3 x4 s0 v10))))
theorem t_Re_costOf_76 {E : EE} {K : KT} {l : Launch} {H0 : Heap} (k : Kof TB E K l cX11_costOf RX11 rm_Re_costOf) {w : World} {x1 : Int} {x2 : Int} {x3 : Int} {x4 : Int} {s0 : Int} {o5 o6 : Option Value} (r_x1 : R32 x1) (r_x2 : R32 x2) (r_x3 : R32 x3) (r_x4 : R32 x4) (r_s0 : R32 s0) {out : ((Int × Int) ⊕ Int)} (hf : f_Re_costOf_76 w x1 x2 x3 x4 s0 = some out) (hc : (Sum.elim (HW_Re_costOf_6 E K H0 w x1) (fun out : Int => RetI TB E K H0 cX11_costOf w out)) out) : Jj K (WdT TB E H0) w 76 [some (rf E.ad 1), some (.int (ii x1)), some (.int (ii x2)), some (.int (ii x3)), some (.int (ii x4)), o5, o6] [.int (ii s0)] := by
  unfold f_Re_costOf_76 at hf
  have o := k.1
  have g := k.2.1
  have kr := k.2.2.1
  refine J_istore o dX11_costOf_76 (Nat.le_of_ble_eq_true rfl) ?_
  refine J_aload_n o dX11_costOf_78 rfl ?_
  refine J_getF (true, 3) o g dX11_costOf_79 flX11_13 kB_1 rfl rfl rfl ?_
  refine J_aload_n o dX11_costOf_82 rfl ?_
  refine J_getF (true, 18) o g dX11_costOf_83 flX11_59 kB_1 rfl rfl rfl ?_
  refine J_iload_n o dX11_costOf_86 rfl ?_
  obtain ⟨g1, hf⟩ := gd_some hf
  refine J_iald o g dX11_costOf_87 kB_18 r_x3 zB_18 g1 (fun q2 => ?_)
  obtain ⟨g3, hf⟩ := gd_some hf
  refine J_iald o g dX11_costOf_88 kB_3 q2 zB_3 g3 (fun q4 => ?_)
  refine J_iconst o dX11_costOf_89 ?_
  refine J_icmp_le 110 o dX11_costOf_90 (by decide) q4 rl2 (fun c5 => ?_) (fun c6 => ?_)
  · have hf := ite_t c5 hf
    refine J_iconst o dX11_costOf_110 ?_
    exact t_Re_costOf_111 k r_x1 r_x2 r_x3 r_x4 r_s0 rl0 hf hc
  · have hf := ite_f c6 hf
    refine J_aload_n o dX11_costOf_93 rfl ?_
    refine J_aload_n o dX11_costOf_94 rfl ?_
    refine J_getF (true, 19) o g dX11_costOf_95 flX11_62 kB_1 rfl rfl rfl ?_
    refine J_iconst o dX11_costOf_98 ?_
    refine J_iload_n o dX11_costOf_99 rfl ?_
    refine J_imul o dX11_costOf_100 ?_
    refine J_iconst o dX11_costOf_101 ?_
    refine J_iadd o dX11_costOf_102 ?_
    obtain ⟨g7, hf⟩ := gd_some hf
    refine J_iald o g dX11_costOf_103 kB_19 (R_wr _) zB_19 g7 (fun q8 => ?_)
    obtain ⟨v10, e9, hf⟩ := bnd_some hf
    refine J_vI o g kr dX11_costOf_104 lkX11_193 ml_Re_valueOf vl_Re_valueOf ⟨rfl, rfl, Nat.le_of_ble_eq_true rfl, Nat.le_of_ble_eq_true rfl⟩ (c_Re_valueOf g.2.1 q8 e9) kB_1 rfl ⟨by decide, by decide⟩ rfl rfl c1s_0 (fun q11 => ?_)
    refine J_goto 111 o dX11_costOf_107 (by decide) ?_
    exact t_Re_costOf_111 k r_x1 r_x2 r_x3 r_x4 r_s0 q11 hf hc
noncomputable def f_Re_costOf_6B (w : World) (x1 : Int) (x2 : Int) (x3 : Int) : Option ((Int × Int) ⊕ Int) :=
  gd (0 ≤ x1 ∧ x1 < 19) (if (wr ((wr (5 * x1)) + (w 16 x1.toNat))) ≤ x3 then (some (Sum.inr x2)) else (gd (0 ≤ x3 ∧ x3 < 95) (if (w 17 x3.toNat) = 0 then (gd (0 ≤ wr (3 * x3) ∧ wr (3 * x3) < 285) (bnd (f_Re_valueOf w (w 19 (wr (3 * x3)).toNat)) fun v12 => gd (0 ≤ x3 ∧ x3 < 95) (gd (0 ≤ w 18 x3.toNat ∧ w 18 x3.toNat < 10) (if (w 3 (w 18 x3.toNat).toNat) ≤ 1 then (f_Re_costOf_76 w x1 x2 x3 v12 0) else (gd (0 ≤ wr ((wr (3 * x3)) + 1) ∧ wr ((wr (3 * x3)) + 1) < 285) (bnd (f_Re_valueOf w (w 19 (wr ((wr (3 * x3)) + 1)).toNat)) fun v23 => f_Re_costOf_76 w x1 x2 x3 v12 v23)))))) else (f_Re_costOf_141 w x1 x2 x3))))
theorem t_Re_costOf_6B {E : EE} {K : KT} {l : Launch} {H0 : Heap} (k : Kof TB E K l cX11_costOf RX11 rm_Re_costOf) {w : World} {x1 : Int} {x2 : Int} {x3 : Int} {o4 o5 o6 : Option Value} (r_x1 : R32 x1) (r_x2 : R32 x2) (r_x3 : R32 x3) {out : ((Int × Int) ⊕ Int)} (hf : f_Re_costOf_6B w x1 x2 x3 = some out) (hc : (Sum.elim (HW_Re_costOf_6 E K H0 w x1) (fun out : Int => RetI TB E K H0 cX11_costOf w out)) out) : Jj K (WdT TB E H0) w 6 [some (rf E.ad 1), some (.int (ii x1)), some (.int (ii x2)), some (.int (ii x3)), o4, o5, o6] [] := by
  unfold f_Re_costOf_6B at hf
  have o := k.1
  have g := k.2.1
  have kr := k.2.2.1
  refine J_iload_n o dX11_costOf_6 rfl ?_
  refine J_iconst o dX11_costOf_7 ?_
  refine J_iload_n o dX11_costOf_8 rfl ?_
  refine J_imul o dX11_costOf_9 ?_
  refine J_aload_n o dX11_costOf_10 rfl ?_
  refine J_getF (true, 16) o g dX11_costOf_11 flX11_53 kB_1 rfl rfl rfl ?_
  refine J_iload_n o dX11_costOf_14 rfl ?_
  obtain ⟨g1, hf⟩ := gd_some hf
  refine J_iald o g dX11_costOf_15 kB_16 r_x1 zB_16 g1 (fun q2 => ?_)
  refine J_iadd o dX11_costOf_16 ?_
  refine J_icmp_ge 147 o dX11_costOf_17 (by decide) r_x3 (R_wr _) (fun c3 => ?_) (fun c4 => ?_)
  · have hf := ite_t c3 hf
    refine J_iload_n o dX11_costOf_147 rfl ?_
    have hf := some_inj hf
    subst hf
    exact hc _ _ r_x2 dX11_costOf_148
  · have hf := ite_f c4 hf
    refine J_aload_n o dX11_costOf_20 rfl ?_
    refine J_getF (true, 17) o g dX11_costOf_21 flX11_56 kB_1 rfl rfl rfl ?_
    refine J_iload_n o dX11_costOf_24 rfl ?_
    obtain ⟨g5, hf⟩ := gd_some hf
    refine J_iald o g dX11_costOf_25 kB_17 r_x3 zB_17 g5 (fun q6 => ?_)
    refine J_if_ne 141 o dX11_costOf_26 (by decide) q6 (fun c7 => ?_) (fun c8 => ?_)
    · have hf := ite_f c7 hf
      exact t_Re_costOf_141 k r_x1 r_x2 r_x3 hf hc
    · have hf := ite_t c8 hf
      refine J_aload_n o dX11_costOf_29 rfl ?_
      refine J_aload_n o dX11_costOf_30 rfl ?_
      refine J_getF (true, 19) o g dX11_costOf_31 flX11_62 kB_1 rfl rfl rfl ?_
      refine J_iconst o dX11_costOf_34 ?_
      refine J_iload_n o dX11_costOf_35 rfl ?_
      refine J_imul o dX11_costOf_36 ?_
      obtain ⟨g9, hf⟩ := gd_some hf
      refine J_iald o g dX11_costOf_37 kB_19 (R_wr _) zB_19 g9 (fun q10 => ?_)
      obtain ⟨v12, e11, hf⟩ := bnd_some hf
      refine J_vI o g kr dX11_costOf_38 lkX11_193 ml_Re_valueOf vl_Re_valueOf ⟨rfl, rfl, Nat.le_of_ble_eq_true rfl, Nat.le_of_ble_eq_true rfl⟩ (c_Re_valueOf g.2.1 q10 e11) kB_1 rfl ⟨by decide, by decide⟩ rfl rfl c1s_0 (fun q13 => ?_)
      refine J_istore o dX11_costOf_41 (Nat.le_of_ble_eq_true rfl) ?_
      refine J_aload_n o dX11_costOf_43 rfl ?_
      refine J_getF (true, 3) o g dX11_costOf_44 flX11_13 kB_1 rfl rfl rfl ?_
      refine J_aload_n o dX11_costOf_47 rfl ?_
      refine J_getF (true, 18) o g dX11_costOf_48 flX11_59 kB_1 rfl rfl rfl ?_
      refine J_iload_n o dX11_costOf_51 rfl ?_
      obtain ⟨g14, hf⟩ := gd_some hf
      refine J_iald o g dX11_costOf_52 kB_18 r_x3 zB_18 g14 (fun q15 => ?_)
      obtain ⟨g16, hf⟩ := gd_some hf
      refine J_iald o g dX11_costOf_53 kB_3 q15 zB_3 g16 (fun q17 => ?_)
      refine J_iconst o dX11_costOf_54 ?_
      refine J_icmp_le 75 o dX11_costOf_55 (by decide) q17 rl1 (fun c18 => ?_) (fun c19 => ?_)
      · have hf := ite_t c18 hf
        refine J_iconst o dX11_costOf_75 ?_
        exact t_Re_costOf_76 k r_x1 r_x2 r_x3 q13 rl0 hf hc
      · have hf := ite_f c19 hf
        refine J_aload_n o dX11_costOf_58 rfl ?_
        refine J_aload_n o dX11_costOf_59 rfl ?_
        refine J_getF (true, 19) o g dX11_costOf_60 flX11_62 kB_1 rfl rfl rfl ?_
        refine J_iconst o dX11_costOf_63 ?_
        refine J_iload_n o dX11_costOf_64 rfl ?_
        refine J_imul o dX11_costOf_65 ?_
        refine J_iconst o dX11_costOf_66 ?_
        refine J_iadd o dX11_costOf_67 ?_
        obtain ⟨g20, hf⟩ := gd_some hf
        refine J_iald o g dX11_costOf_68 kB_19 (R_wr _) zB_19 g20 (fun q21 => ?_)
        obtain ⟨v23, e22, hf⟩ := bnd_some hf
        refine J_vI o g kr dX11_costOf_69 lkX11_193 ml_Re_valueOf vl_Re_valueOf ⟨rfl, rfl, Nat.le_of_ble_eq_true rfl, Nat.le_of_ble_eq_true rfl⟩ (c_Re_valueOf g.2.1 q21 e22) kB_1 rfl ⟨by decide, by decide⟩ rfl rfl c1s_0 (fun q24 => ?_)
        refine J_goto 76 o dX11_costOf_72 (by decide) ?_
        exact t_Re_costOf_76 k r_x1 r_x2 r_x3 q13 q24 hf hc
noncomputable def f_Re_costOf_6 (w : World) (x1 : Int) (x2 : Int) (x3 : Int) : Option Int :=
  lp (fun z : (Int × Int) => f_Re_costOf_6B w x1 z.1 z.2) (x2, x3)
theorem t_Re_costOf_6 {E : EE} {K : KT} {l : Launch} {H0 : Heap} (k : Kof TB E K l cX11_costOf RX11 rm_Re_costOf) {w : World} {x1 : Int} {x2 : Int} {x3 : Int} (r_x1 : R32 x1) {out : Int} (hf : f_Re_costOf_6 w x1 x2 x3 = some out) (hc : (fun out : Int => RetI TB E K H0 cX11_costOf w out) out) : HW_Re_costOf_6 E K H0 w x1 (x2, x3) := by
  unfold f_Re_costOf_6 at hf
  refine lp_ind (P := HW_Re_costOf_6 E K H0 w x1) hf ?_
  intro z o hs h1 h2
  intro r_x2 r_x3
  intro o4 o5 o6
  refine t_Re_costOf_6B k r_x1 r_x2 r_x3 hs ?_
  cases o with
  | inl z' => exact h1 z' rfl
  | inr r' => rw [h2 r' rfl]; exact hc
noncomputable def f_Re_costOf (w : World) (x1 : Int) : Option Int :=
  bl (wr (5 * x1)) fun n1 => f_Re_costOf_6 w x1 1 n1
theorem t_Re_costOf_0 {E : EE} {K : KT} {l : Launch} {H0 : Heap} (k : Kof TB E K l cX11_costOf RX11 rm_Re_costOf) {w : World} {x1 : Int} {o2 o3 o4 o5 o6 : Option Value} (r_x1 : R32 x1) {out : Int} (hf : f_Re_costOf w x1 = some out) (hc : (fun out : Int => RetI TB E K H0 cX11_costOf w out) out) : Jj K (WdT TB E H0) w 0 [some (rf E.ad 1), some (.int (ii x1)), o2, o3, o4, o5, o6] [] := by
  unfold f_Re_costOf at hf
  have o := k.1
  have g := k.2.1
  have kr := k.2.2.1
  refine J_iconst o dX11_costOf_0 ?_
  refine J_istore_n o dX11_costOf_1 (Nat.le_of_ble_eq_true rfl) ?_
  refine J_iconst o dX11_costOf_2 ?_
  refine J_iload_n o dX11_costOf_3 rfl ?_
  refine J_imul o dX11_costOf_4 ?_
  refine J_istore_n o dX11_costOf_5 (Nat.le_of_ble_eq_true rfl) ?_
  have hf := bl_out hf
  exact (t_Re_costOf_6 k r_x1 hf hc) rl1 (R_wr _) _ _ _
theorem c_Re_costOf {E : EE} {l : Launch} (hI : Inj TB E) {w : World} {x1 : Int} (r_x1 : R32 x1) {out : Int} (hf : f_Re_costOf w x1 = some out) : ConI TB E l yX11_costOf (WS yX11_costOf cX11_costOf 7 (some .int)) rm_Re_costOf [rf E.ad 1, .int (ii x1)] w w out :=
  con_I (by decide +kernel) rfl (Nat.le_of_ble_eq_true rfl) (c1s_r (c1s_i c1s_0 (Nat.le_of_ble_eq_true rfl)) (Nat.le_of_ble_eq_true rfl)).1 ⟨rfl, rfl⟩ hI TnB (fun K H0 k hret => t_Re_costOf_0 k r_x1 hf hret)
abbrev rm_Re_lower : Room := { frames := 1, cells := 0, slots := 0, locals := 24 }
noncomputable def f_Re_lower_35 (w : World) (x3 : Int) (s1 : Int) (s2 : Int) : Option (World × Int) :=
  gd (0 ≤ s1 ∧ s1 < 50) (bl (up w 26 s1.toNat s2) fun w2 => gd (x3 = 0 ∨ x3 = 1) (some (w2, x3)))
theorem t_Re_lower_35 {E : EE} {K : KT} {l : Launch} {H0 : Heap} (k : Kof TB E K l cX11_lower RX11 rm_Re_lower) {w : World} {x3 : Int} {s1 : Int} {s2 : Int} {o0 o1 o2 : Option Value} (r_x3 : R32 x3) (r_s1 : R32 s1) (r_s2 : R32 s2) {out : (World × Int)} (hf : f_Re_lower_35 w x3 s1 s2 = some out) (hc : (fun out : (World × Int) => RetZ TB E K H0 cX11_lower out.1 out.2) out) : Jj K (WdT TB E H0) w 35 [o0, o1, o2, some (.int (ii x3))] [.int (ii s2), .int (ii s1), rf E.ad 26] := by
  unfold f_Re_lower_35 at hf
  have o := k.1
  have g := k.2.1
  have kr := k.2.2.1
  obtain ⟨g1, hf⟩ := gd_some hf
  refine J_iast o g dX11_lower_35 kB_26 (fxB_40 _) r_s1 zB_26 g1 r_s2 ?_
  have hf := bl_out hf
  refine J_iload_n o dX11_lower_36 rfl ?_
  obtain ⟨g3, hf⟩ := gd_some hf
  have hf := some_inj hf
  subst hf
  exact hc _ _ g3 dX11_lower_37
noncomputable def f_Re_lower_15 (w : World) (x1 : Int) (x2 : Int) (s0 : Int) : Option (World × Int) :=
  if s0 = 0 then (gd (0 ≤ x1 ∧ x1 < 50) (f_Re_lower_35 w s0 x1 (w 26 x1.toNat))) else (f_Re_lower_35 w s0 x1 x2)
theorem t_Re_lower_15 {E : EE} {K : KT} {l : Launch} {H0 : Heap} (k : Kof TB E K l cX11_lower RX11 rm_Re_lower) {w : World} {x1 : Int} {x2 : Int} {s0 : Int} {o3 : Option Value} (r_x1 : R32 x1) (r_x2 : R32 x2) (r_s0 : R32 s0) {out : (World × Int)} (hf : f_Re_lower_15 w x1 x2 s0 = some out) (hc : (fun out : (World × Int) => RetZ TB E K H0 cX11_lower out.1 out.2) out) : Jj K (WdT TB E H0) w 15 [some (rf E.ad 1), some (.int (ii x1)), some (.int (ii x2)), o3] [.int (ii s0)] := by
  unfold f_Re_lower_15 at hf
  have o := k.1
  have g := k.2.1
  have kr := k.2.2.1
  refine J_istore_n o dX11_lower_15 (Nat.le_of_ble_eq_true rfl) ?_
  refine J_aload_n o dX11_lower_16 rfl ?_
  refine J_getF (true, 26) o g dX11_lower_17 flX11_83 kB_1 rfl rfl rfl ?_
  refine J_iload_n o dX11_lower_20 rfl ?_
  refine J_iload_n o dX11_lower_21 rfl ?_
  refine J_if_eq 29 o dX11_lower_22 (by decide) r_s0 (fun c1 => ?_) (fun c2 => ?_)
  · have hf := ite_t c1 hf
    refine J_aload_n o dX11_lower_29 rfl ?_
    refine J_getF (true, 26) o g dX11_lower_30 flX11_83 kB_1 rfl rfl rfl ?_
    refine J_iload_n o dX11_lower_33 rfl ?_
    obtain ⟨g3, hf⟩ := gd_some hf
    refine J_iald o g dX11_lower_34 kB_26 r_x1 zB_26 g3 (fun q4 => ?_)
    exact t_Re_lower_35 k r_s0 r_x1 q4 hf hc
  · have hf := ite_f c2 hf
    refine J_iload_n o dX11_lower_25 rfl ?_
    refine J_goto 35 o dX11_lower_26 (by decide) ?_
    exact t_Re_lower_35 k r_s0 r_x1 r_x2 hf hc
noncomputable def f_Re_lower (w : World) (x1 : Int) (x2 : Int) : Option (World × Int) :=
  gd (0 ≤ x1 ∧ x1 < 50) (if (w 26 x1.toNat) ≤ x2 then (f_Re_lower_15 w x1 x2 0) else (f_Re_lower_15 w x1 x2 1))
theorem t_Re_lower_0 {E : EE} {K : KT} {l : Launch} {H0 : Heap} (k : Kof TB E K l cX11_lower RX11 rm_Re_lower) {w : World} {x1 : Int} {x2 : Int} {o3 : Option Value} (r_x1 : R32 x1) (r_x2 : R32 x2) {out : (World × Int)} (hf : f_Re_lower w x1 x2 = some out) (hc : (fun out : (World × Int) => RetZ TB E K H0 cX11_lower out.1 out.2) out) : Jj K (WdT TB E H0) w 0 [some (rf E.ad 1), some (.int (ii x1)), some (.int (ii x2)), o3] [] := by
  unfold f_Re_lower at hf
  have o := k.1
  have g := k.2.1
  have kr := k.2.2.1
  refine J_iload_n o dX11_lower_0 rfl ?_
  refine J_aload_n o dX11_lower_1 rfl ?_
  refine J_getF (true, 26) o g dX11_lower_2 flX11_83 kB_1 rfl rfl rfl ?_
  refine J_iload_n o dX11_lower_5 rfl ?_
  obtain ⟨g1, hf⟩ := gd_some hf
  refine J_iald o g dX11_lower_6 kB_26 r_x1 zB_26 g1 (fun q2 => ?_)
  refine J_icmp_ge 14 o dX11_lower_7 (by decide) r_x2 q2 (fun c3 => ?_) (fun c4 => ?_)
  · have hf := ite_t c3 hf
    refine J_iconst o dX11_lower_14 ?_
    exact t_Re_lower_15 k r_x1 r_x2 rl0 hf hc
  · have hf := ite_f c4 hf
    refine J_iconst o dX11_lower_10 ?_
    refine J_goto 15 o dX11_lower_11 (by decide) ?_
    exact t_Re_lower_15 k r_x1 r_x2 rl1 hf hc
theorem c_Re_lower {E : EE} {l : Launch} (hI : Inj TB E) {w : World} {x1 : Int} {x2 : Int} (r_x1 : R32 x1) (r_x2 : R32 x2) {out : (World × Int)} (hf : f_Re_lower w x1 x2 = some out) : ConI TB E l yX11_lower (WS yX11_lower cX11_lower 4 (some .boolean)) rm_Re_lower [rf E.ad 1, .int (ii x1), .int (ii x2)] w out.1 out.2 :=
  con_Z (by decide +kernel) rfl (Nat.le_of_ble_eq_true rfl) (c1s_r (c1s_i (c1s_i c1s_0 (Nat.le_of_ble_eq_true rfl)) (Nat.le_of_ble_eq_true rfl)) (Nat.le_of_ble_eq_true rfl)).1 ⟨rfl, rfl⟩ hI TnB (fun K H0 k hret => t_Re_lower_0 k r_x1 r_x2 hf hret)
abbrev rm_Re_findCosts : Room := { frames := 6, cells := 0, slots := 0, locals := 144 }
def HW_Re_findCosts_2 (E : EE) (K : KT) (H0 : Heap)  : (World × Int) → Prop := fun z => R32 z.2 → ∀ o2 o3 o4 : Option Value, Jj K (WdT TB E H0) z.1 2 [some (rf E.ad 1), some (.int (ii z.2)), o2, o3, o4] []
def HW_Re_findCosts_32 (E : EE) (K : KT) (H0 : Heap)  : (World × Int) → Prop := fun z => R32 z.2 → ∀ o2 o3 o4 : Option Value, Jj K (WdT TB E H0) z.1 32 [some (rf E.ad 1), some (.int (ii z.2)), o2, o3, o4] []
def HW_Re_findCosts_114 (E : EE) (K : KT) (H0 : Heap)  : (World × Int) → Prop := fun z => R32 z.2 → ∀ o2 o3 o4 : Option Value, Jj K (WdT TB E H0) z.1 114 [some (rf E.ad 1), some (.int (ii z.2)), o2, o3, o4] []
def HW_Re_findCosts_122 (E : EE) (K : KT) (H0 : Heap)  : (World × Int × Int) → Prop := fun z => R32 z.2.1 → R32 z.2.2 → ∀ o3 o4 : Option Value, Jj K (WdT TB E H0) z.1 122 [some (rf E.ad 1), some (.int (ii z.2.1)), some (.int (ii z.2.2)), o3, o4] []
def HW_Re_findCosts_134 (E : EE) (K : KT) (H0 : Heap) (x2 : Int) : (World × Int) → Prop := fun z => R32 z.2 → ∀ o3 o4 : Option Value, Jj K (WdT TB E H0) z.1 134 [some (rf E.ad 1), some (.int (ii z.2)), some (.int (ii x2)), o3, o4] []
noncomputable def f_Re_findCosts_224 (w : World) (x1 : Int) (x2 : Int) : Option ((World × Int × Int) ⊕ ((World × Int) ⊕ World)) :=
  bl (wr (x2 + 1)) fun n1 => some (Sum.inl (w, x1, n1))
theorem t_Re_findCosts_224 {E : EE} {K : KT} {l : Launch} {H0 : Heap} (k : Kof TB E K l cX11_findCosts RX11 rm_Re_findCosts) {w : World} {x1 : Int} {x2 : Int} {o3 o4 : Option Value} (r_x1 : R32 x1) (r_x2 : R32 x2) {out : ((World × Int × Int) ⊕ ((World × Int) ⊕ World))} (hf : f_Re_findCosts_224 w x1 x2 = some out) (hc : (Sum.elim (HW_Re_findCosts_122 E K H0 ) (Sum.elim (HW_Re_findCosts_114 E K H0 ) (fun out : World => RetV TB E K H0 cX11_findCosts out))) out) : Jj K (WdT TB E H0) w 224 [some (rf E.ad 1), some (.int (ii x1)), some (.int (ii x2)), o3, o4] [] := by
  unfold f_Re_findCosts_224 at hf
  have o := k.1
  have g := k.2.1
  have kr := k.2.2.1
  have hf := bl_out hf
  refine J_iinc o dX11_findCosts_224 rfl ?_
  refine J_goto 122 o dX11_findCosts_227 (by decide) ?_
  have hf := some_inj hf
  subst hf
  exact hc r_x1 (R_wr _) _ _
noncomputable def f_Re_findCosts_220 (w : World) (x2 : Int) (s0 : Int) : Option ((World × Int) ⊕ ((World × Int × Int) ⊕ ((World × Int) ⊕ World))) :=
  some (Sum.inl (w, s0))
theorem t_Re_findCosts_220 {E : EE} {K : KT} {l : Launch} {H0 : Heap} (k : Kof TB E K l cX11_findCosts RX11 rm_Re_findCosts) {w : World} {x2 : Int} {s0 : Int} {o1 o3 o4 : Option Value} (r_x2 : R32 x2) (r_s0 : R32 s0) {out : ((World × Int) ⊕ ((World × Int × Int) ⊕ ((World × Int) ⊕ World)))} (hf : f_Re_findCosts_220 w x2 s0 = some out) (hc : (Sum.elim (HW_Re_findCosts_134 E K H0 x2) (Sum.elim (HW_Re_findCosts_122 E K H0 ) (Sum.elim (HW_Re_findCosts_114 E K H0 ) (fun out : World => RetV TB E K H0 cX11_findCosts out)))) out) : Jj K (WdT TB E H0) w 220 [some (rf E.ad 1), o1, some (.int (ii x2)), o3, o4] [.int (ii s0)] := by
  unfold f_Re_findCosts_220 at hf
  have o := k.1
  have g := k.2.1
  have kr := k.2.2.1
  refine J_istore_n o dX11_findCosts_220 (Nat.le_of_ble_eq_true rfl) ?_
  refine J_goto 134 o dX11_findCosts_221 (by decide) ?_
  have hf := some_inj hf
  subst hf
  exact hc r_s0 _ _
noncomputable def f_Re_findCosts_215 (w : World) (x2 : Int) : Option ((World × Int) ⊕ ((World × Int × Int) ⊕ ((World × Int) ⊕ World))) :=
  f_Re_findCosts_220 w x2 1
theorem t_Re_findCosts_215 {E : EE} {K : KT} {l : Launch} {H0 : Heap} (k : Kof TB E K l cX11_findCosts RX11 rm_Re_findCosts) {w : World} {x2 : Int} {o1 o3 o4 : Option Value} (r_x2 : R32 x2) {out : ((World × Int) ⊕ ((World × Int × Int) ⊕ ((World × Int) ⊕ World)))} (hf : f_Re_findCosts_215 w x2 = some out) (hc : (Sum.elim (HW_Re_findCosts_134 E K H0 x2) (Sum.elim (HW_Re_findCosts_122 E K H0 ) (Sum.elim (HW_Re_findCosts_114 E K H0 ) (fun out : World => RetV TB E K H0 cX11_findCosts out)))) out) : Jj K (WdT TB E H0) w 215 [some (rf E.ad 1), o1, some (.int (ii x2)), o3, o4] [] := by
  unfold f_Re_findCosts_215 at hf
  have o := k.1
  have g := k.2.1
  have kr := k.2.2.1
  refine J_iconst o dX11_findCosts_215 ?_
  refine J_goto 220 o dX11_findCosts_216 (by decide) ?_
  exact t_Re_findCosts_220 k r_x2 rl1 hf hc
noncomputable def f_Re_findCosts_134B (w : World) (x1 : Int) (x2 : Int) : Option ((World × Int) ⊕ ((World × Int × Int) ⊕ ((World × Int) ⊕ World))) :=
  gd (0 ≤ x2 ∧ x2 < 12) (if (w 13 x2.toNat) = 0 then (gd (0 ≤ x2 ∧ x2 < 19) (bnd (f_Re_next w x2 (w 16 x2.toNat) (w 1 1)) fun v10 => if v10.2 = 0 then (bnd (f_Re_findCosts_224 v10.1 x1 x2) fun y14 => some (Sum.inr y14)) else (gd (0 ≤ x2 ∧ x2 < 19) (bnd (f_Re_headValue v10.1 x2 0) fun v19 => bnd (f_Re_headValue v10.1 x2 1) fun v22 => bnd (f_Re_headValue v10.1 x2 2) fun v25 => bnd (f_Re_place v10.1 (v10.1 1 1) (v10.1 14 x2.toNat) v19 v22 v25) fun v28 => bnd (f_Re_costOf v10.1 x2) fun v31 => bnd (f_Re_lower v10.1 v28 v31) fun v34 => if x1 = 0 then (if v34.2 = 0 then (f_Re_findCosts_220 v34.1 x2 0) else (f_Re_findCosts_215 v34.1 x2)) else (f_Re_findCosts_215 v34.1 x2))))) else (bnd (f_Re_findCosts_224 w x1 x2) fun y5 => some (Sum.inr y5)))
theorem t_Re_findCosts_134B {E : EE} {K : KT} {l : Launch} {H0 : Heap} (k : Kof TB E K l cX11_findCosts RX11 rm_Re_findCosts) {w : World} {x1 : Int} {x2 : Int} {o3 o4 : Option Value} (r_x1 : R32 x1) (r_x2 : R32 x2) {out : ((World × Int) ⊕ ((World × Int × Int) ⊕ ((World × Int) ⊕ World)))} (hf : f_Re_findCosts_134B w x1 x2 = some out) (hc : (Sum.elim (HW_Re_findCosts_134 E K H0 x2) (Sum.elim (HW_Re_findCosts_122 E K H0 ) (Sum.elim (HW_Re_findCosts_114 E K H0 ) (fun out : World => RetV TB E K H0 cX11_findCosts out)))) out) : Jj K (WdT TB E H0) w 134 [some (rf E.ad 1), some (.int (ii x1)), some (.int (ii x2)), o3, o4] [] := by
  unfold f_Re_findCosts_134B at hf
  have o := k.1
  have g := k.2.1
  have kr := k.2.2.1
  refine J_aload_n o dX11_findCosts_134 rfl ?_
  refine J_getF (true, 13) o g dX11_findCosts_135 flX11_44 kB_1 rfl rfl rfl ?_
  refine J_iload_n o dX11_findCosts_138 rfl ?_
  obtain ⟨g1, hf⟩ := gd_some hf
  refine J_zald o g dX11_findCosts_139 kB_13 r_x2 zB_13 g1 (fun q2 => ?_)
  refine J_if_ne 224 o dX11_findCosts_140 (by decide) q2 (fun c3 => ?_) (fun c4 => ?_)
  · have hf := ite_f c3 hf
    obtain ⟨y5, hf1, hf⟩ := bnd_some hf
    have hf := some_inj hf
    subst hf
    exact t_Re_findCosts_224 k r_x1 r_x2 hf1 hc
  · have hf := ite_t c4 hf
    refine J_aload_n o dX11_findCosts_143 rfl ?_
    refine J_iload_n o dX11_findCosts_144 rfl ?_
    refine J_aload_n o dX11_findCosts_145 rfl ?_
    refine J_getF (true, 16) o g dX11_findCosts_146 flX11_53 kB_1 rfl rfl rfl ?_
    refine J_iload_n o dX11_findCosts_149 rfl ?_
    obtain ⟨g6, hf⟩ := gd_some hf
    refine J_iald o g dX11_findCosts_150 kB_16 r_x2 zB_16 g6 (fun q7 => ?_)
    refine J_aload_n o dX11_findCosts_151 rfl ?_
    refine J_getI o g dX11_findCosts_152 flX11_131 kB_1 rfl (fun q8 => ?_)
    obtain ⟨v10, e9, hf⟩ := bnd_some hf
    refine J_vI o g kr dX11_findCosts_155 lkX11_237 ml_Re_next vl_Re_next ⟨rfl, rfl, Nat.le_of_ble_eq_true rfl, Nat.le_of_ble_eq_true rfl⟩ (c_Re_next g.2.1 r_x2 q7 q8 e9) kB_1 rfl ⟨by decide, by decide⟩ rfl rfl c1s_0 (fun q11 => ?_)
    refine J_if_eq 224 o dX11_findCosts_158 (by decide) q11 (fun c12 => ?_) (fun c13 => ?_)
    · have hf := ite_t c12 hf
      obtain ⟨y14, hf1, hf⟩ := bnd_some hf
      have hf := some_inj hf
      subst hf
      exact t_Re_findCosts_224 k r_x1 r_x2 hf1 hc
    · have hf := ite_f c13 hf
      refine J_aload_n o dX11_findCosts_161 rfl ?_
      refine J_aload_n o dX11_findCosts_162 rfl ?_
      refine J_getI o g dX11_findCosts_163 flX11_131 kB_1 rfl (fun q15 => ?_)
      refine J_aload_n o dX11_findCosts_166 rfl ?_
      refine J_getF (true, 14) o g dX11_findCosts_167 flX11_47 kB_1 rfl rfl rfl ?_
      refine J_iload_n o dX11_findCosts_170 rfl ?_
      obtain ⟨g16, hf⟩ := gd_some hf
      refine J_iald o g dX11_findCosts_171 kB_14 r_x2 zB_14 g16 (fun q17 => ?_)
      refine J_aload_n o dX11_findCosts_172 rfl ?_
      refine J_iload_n o dX11_findCosts_173 rfl ?_
      refine J_iconst o dX11_findCosts_174 ?_
      obtain ⟨v19, e18, hf⟩ := bnd_some hf
      refine J_vI o g kr dX11_findCosts_175 lkX11_240 ml_Re_headValue vl_Re_headValue ⟨rfl, rfl, Nat.le_of_ble_eq_true rfl, Nat.le_of_ble_eq_true rfl⟩ (c_Re_headValue g.2.1 r_x2 rl0 e18) kB_1 rfl ⟨by decide, by decide⟩ rfl rfl (c1s_i (c1s_i (c1s_r c1s_0 (Nat.le_of_ble_eq_true rfl)) (Nat.le_of_ble_eq_true rfl)) (Nat.le_of_ble_eq_true rfl)) (fun q20 => ?_)
      refine J_aload_n o dX11_findCosts_178 rfl ?_
      refine J_iload_n o dX11_findCosts_179 rfl ?_
      refine J_iconst o dX11_findCosts_180 ?_
      obtain ⟨v22, e21, hf⟩ := bnd_some hf
      refine J_vI o g kr dX11_findCosts_181 lkX11_240 ml_Re_headValue vl_Re_headValue ⟨rfl, rfl, Nat.le_of_ble_eq_true rfl, Nat.le_of_ble_eq_true rfl⟩ (c_Re_headValue g.2.1 r_x2 rl1 e21) kB_1 rfl ⟨by decide, by decide⟩ rfl rfl (c1s_i (c1s_i (c1s_i (c1s_r c1s_0 (Nat.le_of_ble_eq_true rfl)) (Nat.le_of_ble_eq_true rfl)) (Nat.le_of_ble_eq_true rfl)) (Nat.le_of_ble_eq_true rfl)) (fun q23 => ?_)
      refine J_aload_n o dX11_findCosts_184 rfl ?_
      refine J_iload_n o dX11_findCosts_185 rfl ?_
      refine J_iconst o dX11_findCosts_186 ?_
      obtain ⟨v25, e24, hf⟩ := bnd_some hf
      refine J_vI o g kr dX11_findCosts_187 lkX11_240 ml_Re_headValue vl_Re_headValue ⟨rfl, rfl, Nat.le_of_ble_eq_true rfl, Nat.le_of_ble_eq_true rfl⟩ (c_Re_headValue g.2.1 r_x2 rl2 e24) kB_1 rfl ⟨by decide, by decide⟩ rfl rfl (c1s_i (c1s_i (c1s_i (c1s_i (c1s_r c1s_0 (Nat.le_of_ble_eq_true rfl)) (Nat.le_of_ble_eq_true rfl)) (Nat.le_of_ble_eq_true rfl)) (Nat.le_of_ble_eq_true rfl)) (Nat.le_of_ble_eq_true rfl)) (fun q26 => ?_)
      obtain ⟨v28, e27, hf⟩ := bnd_some hf
      refine J_vI o g kr dX11_findCosts_190 lkX11_217 ml_Re_place vl_Re_place ⟨rfl, rfl, Nat.le_of_ble_eq_true rfl, Nat.le_of_ble_eq_true rfl⟩ (c_Re_place g.2.1 q15 q17 q20 q23 q26 e27) kB_1 rfl ⟨by decide, by decide⟩ rfl rfl c1s_0 (fun q29 => ?_)
      refine J_istore_n o dX11_findCosts_193 (Nat.le_of_ble_eq_true rfl) ?_
      refine J_aload_n o dX11_findCosts_194 rfl ?_
      refine J_iload_n o dX11_findCosts_195 rfl ?_
      refine J_aload_n o dX11_findCosts_196 rfl ?_
      refine J_iload_n o dX11_findCosts_197 rfl ?_
      obtain ⟨v31, e30, hf⟩ := bnd_some hf
      refine J_vI o g kr dX11_findCosts_198 lkX11_265 ml_Re_costOf vl_Re_costOf ⟨rfl, rfl, Nat.le_of_ble_eq_true rfl, Nat.le_of_ble_eq_true rfl⟩ (c_Re_costOf g.2.1 r_x2 e30) kB_1 rfl ⟨by decide, by decide⟩ rfl rfl (c1s_i (c1s_r c1s_0 (Nat.le_of_ble_eq_true rfl)) (Nat.le_of_ble_eq_true rfl)) (fun q32 => ?_)
      obtain ⟨v34, e33, hf⟩ := bnd_some hf
      refine J_vI o g kr dX11_findCosts_201 lkX11_262 ml_Re_lower vl_Re_lower ⟨rfl, rfl, Nat.le_of_ble_eq_true rfl, Nat.le_of_ble_eq_true rfl⟩ (c_Re_lower g.2.1 q29 q32 e33) kB_1 rfl ⟨by decide, by decide⟩ rfl rfl c1s_0 (fun q35 => ?_)
      refine J_istore o dX11_findCosts_204 (Nat.le_of_ble_eq_true rfl) ?_
      refine J_iload_n o dX11_findCosts_206 rfl ?_
      refine J_if_ne 215 o dX11_findCosts_207 (by decide) r_x1 (fun c36 => ?_) (fun c37 => ?_)
      · have hf := ite_f c36 hf
        exact t_Re_findCosts_215 k r_x2 hf hc
      · have hf := ite_t c37 hf
        refine J_iload o dX11_findCosts_210 rfl ?_
        refine J_if_eq 219 o dX11_findCosts_212 (by decide) q35 (fun c38 => ?_) (fun c39 => ?_)
        · have hf := ite_t c38 hf
          refine J_iconst o dX11_findCosts_219 ?_
          exact t_Re_findCosts_220 k r_x2 rl0 hf hc
        · have hf := ite_f c39 hf
          exact t_Re_findCosts_215 k r_x2 hf hc
noncomputable def f_Re_findCosts_134 (w : World) (x1 : Int) (x2 : Int) : Option ((World × Int × Int) ⊕ ((World × Int) ⊕ World)) :=
  lp (fun z : (World × Int) => f_Re_findCosts_134B z.1 z.2 x2) (w, x1)
theorem t_Re_findCosts_134 {E : EE} {K : KT} {l : Launch} {H0 : Heap} (k : Kof TB E K l cX11_findCosts RX11 rm_Re_findCosts) {w : World} {x1 : Int} {x2 : Int} (r_x2 : R32 x2) {out : ((World × Int × Int) ⊕ ((World × Int) ⊕ World))} (hf : f_Re_findCosts_134 w x1 x2 = some out) (hc : (Sum.elim (HW_Re_findCosts_122 E K H0 ) (Sum.elim (HW_Re_findCosts_114 E K H0 ) (fun out : World => RetV TB E K H0 cX11_findCosts out))) out) : HW_Re_findCosts_134 E K H0 x2 (w, x1) := by
  unfold f_Re_findCosts_134 at hf
  refine lp_ind (P := HW_Re_findCosts_134 E K H0 x2) hf ?_
  intro z o hs h1 h2
  intro r_x1
  intro o3 o4
  refine t_Re_findCosts_134B k r_x1 r_x2 hs ?_
  cases o with
  | inl z' => exact h1 z' rfl
  | inr r' => rw [h2 r' rfl]; exact hc
noncomputable def f_Re_findCosts_122B (w : World) (x1 : Int) (x2 : Int) : Option ((World × Int × Int) ⊕ ((World × Int) ⊕ World)) :=
  if (w 1 14) ≤ x2 then (some (Sum.inr (Sum.inl (w, x1)))) else (bnd (f_Re_begin w ) fun v5 => f_Re_findCosts_134 v5 x1 x2)
theorem t_Re_findCosts_122B {E : EE} {K : KT} {l : Launch} {H0 : Heap} (k : Kof TB E K l cX11_findCosts RX11 rm_Re_findCosts) {w : World} {x1 : Int} {x2 : Int} {o3 o4 : Option Value} (r_x1 : R32 x1) (r_x2 : R32 x2) {out : ((World × Int × Int) ⊕ ((World × Int) ⊕ World))} (hf : f_Re_findCosts_122B w x1 x2 = some out) (hc : (Sum.elim (HW_Re_findCosts_122 E K H0 ) (Sum.elim (HW_Re_findCosts_114 E K H0 ) (fun out : World => RetV TB E K H0 cX11_findCosts out))) out) : Jj K (WdT TB E H0) w 122 [some (rf E.ad 1), some (.int (ii x1)), some (.int (ii x2)), o3, o4] [] := by
  unfold f_Re_findCosts_122B at hf
  have o := k.1
  have g := k.2.1
  have kr := k.2.2.1
  refine J_iload_n o dX11_findCosts_122 rfl ?_
  refine J_aload_n o dX11_findCosts_123 rfl ?_
  refine J_getI o g dX11_findCosts_124 flX11_159 kB_1 rfl (fun q1 => ?_)
  refine J_icmp_ge 230 o dX11_findCosts_127 (by decide) r_x2 q1 (fun c2 => ?_) (fun c3 => ?_)
  · have hf := ite_t c2 hf
    refine J_goto 114 o dX11_findCosts_230 (by decide) ?_
    have hf := some_inj hf
    subst hf
    exact hc r_x1 _ _ _
  · have hf := ite_f c3 hf
    refine J_aload_n o dX11_findCosts_130 rfl ?_
    obtain ⟨v5, e4, hf⟩ := bnd_some hf
    refine J_vV o g kr dX11_findCosts_131 lkX11_234 ml_Re_begin vl_Re_begin ⟨rfl, rfl, Nat.le_of_ble_eq_true rfl, Nat.le_of_ble_eq_true rfl⟩ (c_Re_begin g.2.1  e4) kB_1 rfl ⟨by decide, by decide⟩ rfl rfl c1s_0 ?_
    exact (t_Re_findCosts_134 k r_x2 hf hc) r_x1 _ _
noncomputable def f_Re_findCosts_122 (w : World) (x1 : Int) (x2 : Int) : Option ((World × Int) ⊕ World) :=
  lp (fun z : (World × Int × Int) => f_Re_findCosts_122B z.1 z.2.1 z.2.2) (w, x1, x2)
theorem t_Re_findCosts_122 {E : EE} {K : KT} {l : Launch} {H0 : Heap} (k : Kof TB E K l cX11_findCosts RX11 rm_Re_findCosts) {w : World} {x1 : Int} {x2 : Int}  {out : ((World × Int) ⊕ World)} (hf : f_Re_findCosts_122 w x1 x2 = some out) (hc : (Sum.elim (HW_Re_findCosts_114 E K H0 ) (fun out : World => RetV TB E K H0 cX11_findCosts out)) out) : HW_Re_findCosts_122 E K H0  (w, x1, x2) := by
  unfold f_Re_findCosts_122 at hf
  refine lp_ind (P := HW_Re_findCosts_122 E K H0 ) hf ?_
  intro z o hs h1 h2
  intro r_x1 r_x2
  intro o3 o4
  refine t_Re_findCosts_122B k r_x1 r_x2 hs ?_
  cases o with
  | inl z' => exact h1 z' rfl
  | inr r' => rw [h2 r' rfl]; exact hc
noncomputable def f_Re_findCosts_114B (w : World) (x1 : Int) : Option ((World × Int) ⊕ World) :=
  if x1 = 0 then (some (Sum.inr w)) else (f_Re_findCosts_122 w 0 0)
theorem t_Re_findCosts_114B {E : EE} {K : KT} {l : Launch} {H0 : Heap} (k : Kof TB E K l cX11_findCosts RX11 rm_Re_findCosts) {w : World} {x1 : Int} {o2 o3 o4 : Option Value} (r_x1 : R32 x1) {out : ((World × Int) ⊕ World)} (hf : f_Re_findCosts_114B w x1 = some out) (hc : (Sum.elim (HW_Re_findCosts_114 E K H0 ) (fun out : World => RetV TB E K H0 cX11_findCosts out)) out) : Jj K (WdT TB E H0) w 114 [some (rf E.ad 1), some (.int (ii x1)), o2, o3, o4] [] := by
  unfold f_Re_findCosts_114B at hf
  have o := k.1
  have g := k.2.1
  have kr := k.2.2.1
  refine J_iload_n o dX11_findCosts_114 rfl ?_
  refine J_if_eq 233 o dX11_findCosts_115 (by decide) r_x1 (fun c1 => ?_) (fun c2 => ?_)
  · have hf := ite_t c1 hf
    have hf := some_inj hf
    subst hf
    exact hc _ _  dX11_findCosts_233
  · have hf := ite_f c2 hf
    refine J_iconst o dX11_findCosts_118 ?_
    refine J_istore_n o dX11_findCosts_119 (Nat.le_of_ble_eq_true rfl) ?_
    refine J_iconst o dX11_findCosts_120 ?_
    refine J_istore_n o dX11_findCosts_121 (Nat.le_of_ble_eq_true rfl) ?_
    exact (t_Re_findCosts_122 k  hf hc) rl0 rl0 _ _
noncomputable def f_Re_findCosts_114 (w : World) (x1 : Int) : Option World :=
  lp (fun z : (World × Int) => f_Re_findCosts_114B z.1 z.2) (w, x1)
theorem t_Re_findCosts_114 {E : EE} {K : KT} {l : Launch} {H0 : Heap} (k : Kof TB E K l cX11_findCosts RX11 rm_Re_findCosts) {w : World} {x1 : Int}  {out : World} (hf : f_Re_findCosts_114 w x1 = some out) (hc : (fun out : World => RetV TB E K H0 cX11_findCosts out) out) : HW_Re_findCosts_114 E K H0  (w, x1) := by
  unfold f_Re_findCosts_114 at hf
  refine lp_ind (P := HW_Re_findCosts_114 E K H0 ) hf ?_
  intro z o hs h1 h2
  intro r_x1
  intro o2 o3 o4
  refine t_Re_findCosts_114B k r_x1 hs ?_
  cases o with
  | inl z' => exact h1 z' rfl
  | inr r' => rw [h2 r' rfl]; exact hc
noncomputable def f_Re_findCosts_106 (w : World) (x1 : Int) : Option ((World × Int) ⊕ World) :=
  bl (wr (x1 + 1)) fun n1 => some (Sum.inl (w, n1))
theorem t_Re_findCosts_106 {E : EE} {K : KT} {l : Launch} {H0 : Heap} (k : Kof TB E K l cX11_findCosts RX11 rm_Re_findCosts) {w : World} {x1 : Int} {o2 o3 o4 : Option Value} (r_x1 : R32 x1) {out : ((World × Int) ⊕ World)} (hf : f_Re_findCosts_106 w x1 = some out) (hc : (Sum.elim (HW_Re_findCosts_32 E K H0 ) (fun out : World => RetV TB E K H0 cX11_findCosts out)) out) : Jj K (WdT TB E H0) w 106 [some (rf E.ad 1), some (.int (ii x1)), o2, o3, o4] [] := by
  unfold f_Re_findCosts_106 at hf
  have o := k.1
  have g := k.2.1
  have kr := k.2.2.1
  have hf := bl_out hf
  refine J_iinc o dX11_findCosts_106 rfl ?_
  refine J_goto 32 o dX11_findCosts_109 (by decide) ?_
  have hf := some_inj hf
  subst hf
  exact hc (R_wr _) _ _ _
noncomputable def f_Re_findCosts_32B (w : World) (x1 : Int) : Option ((World × Int) ⊕ World) :=
  if (w 1 7) ≤ x1 then (bnd (f_Re_findCosts_114 w 1) fun y4 => some (Sum.inr y4)) else (bnd (f_Re_holdsIn w x1 (w 1 1) 0) fun v7 => if v7 = 0 then (f_Re_findCosts_106 w x1) else (gd (0 ≤ x1 ∧ x1 < 24) (gd (0 ≤ wr (3 * x1) ∧ wr (3 * x1) < 72) (gd (0 ≤ wr ((wr (3 * x1)) + 1) ∧ wr ((wr (3 * x1)) + 1) < 72) (gd (0 ≤ wr ((wr (3 * x1)) + 2) ∧ wr ((wr (3 * x1)) + 2) < 72) (bnd (f_Re_place w (w 1 1) (w 7 x1.toNat) (w 8 (wr (3 * x1)).toNat) (w 8 (wr ((wr (3 * x1)) + 1)).toNat) (w 8 (wr ((wr (3 * x1)) + 2)).toNat)) fun v21 => gd (0 ≤ x1 ∧ x1 < 24) (bnd (f_Re_lower w v21 (w 9 x1.toNat)) fun v26 => f_Re_findCosts_106 v26.1 x1)))))))
theorem t_Re_findCosts_32B {E : EE} {K : KT} {l : Launch} {H0 : Heap} (k : Kof TB E K l cX11_findCosts RX11 rm_Re_findCosts) {w : World} {x1 : Int} {o2 o3 o4 : Option Value} (r_x1 : R32 x1) {out : ((World × Int) ⊕ World)} (hf : f_Re_findCosts_32B w x1 = some out) (hc : (Sum.elim (HW_Re_findCosts_32 E K H0 ) (fun out : World => RetV TB E K H0 cX11_findCosts out)) out) : Jj K (WdT TB E H0) w 32 [some (rf E.ad 1), some (.int (ii x1)), o2, o3, o4] [] := by
  unfold f_Re_findCosts_32B at hf
  have o := k.1
  have g := k.2.1
  have kr := k.2.2.1
  refine J_iload_n o dX11_findCosts_32 rfl ?_
  refine J_aload_n o dX11_findCosts_33 rfl ?_
  refine J_getI o g dX11_findCosts_34 flX11_124 kB_1 rfl (fun q1 => ?_)
  refine J_icmp_ge 112 o dX11_findCosts_37 (by decide) r_x1 q1 (fun c2 => ?_) (fun c3 => ?_)
  · have hf := ite_t c2 hf
    refine J_iconst o dX11_findCosts_112 ?_
    refine J_istore_n o dX11_findCosts_113 (Nat.le_of_ble_eq_true rfl) ?_
    obtain ⟨y4, hf1, hf⟩ := bnd_some hf
    have hf := some_inj hf
    subst hf
    exact (t_Re_findCosts_114 k  hf1 hc) rl1 _ _ _
  · have hf := ite_f c3 hf
    refine J_aload_n o dX11_findCosts_40 rfl ?_
    refine J_iload_n o dX11_findCosts_41 rfl ?_
    refine J_aload_n o dX11_findCosts_42 rfl ?_
    refine J_getI o g dX11_findCosts_43 flX11_131 kB_1 rfl (fun q5 => ?_)
    refine J_iconst o dX11_findCosts_46 ?_
    obtain ⟨v7, e6, hf⟩ := bnd_some hf
    refine J_vI o g kr dX11_findCosts_47 lkX11_224 ml_Re_holdsIn vl_Re_holdsIn ⟨rfl, rfl, Nat.le_of_ble_eq_true rfl, Nat.le_of_ble_eq_true rfl⟩ (c_Re_holdsIn g.2.1 r_x1 q5 rl0 e6) kB_1 rfl ⟨by decide, by decide⟩ rfl rfl c1s_0 (fun q8 => ?_)
    refine J_if_eq 106 o dX11_findCosts_50 (by decide) q8 (fun c9 => ?_) (fun c10 => ?_)
    · have hf := ite_t c9 hf
      exact t_Re_findCosts_106 k r_x1 hf hc
    · have hf := ite_f c10 hf
      refine J_aload_n o dX11_findCosts_53 rfl ?_
      refine J_aload_n o dX11_findCosts_54 rfl ?_
      refine J_aload_n o dX11_findCosts_55 rfl ?_
      refine J_getI o g dX11_findCosts_56 flX11_131 kB_1 rfl (fun q11 => ?_)
      refine J_aload_n o dX11_findCosts_59 rfl ?_
      refine J_getF (true, 7) o g dX11_findCosts_60 flX11_26 kB_1 rfl rfl rfl ?_
      refine J_iload_n o dX11_findCosts_63 rfl ?_
      obtain ⟨g12, hf⟩ := gd_some hf
      refine J_iald o g dX11_findCosts_64 kB_7 r_x1 zB_7 g12 (fun q13 => ?_)
      refine J_aload_n o dX11_findCosts_65 rfl ?_
      refine J_getF (true, 8) o g dX11_findCosts_66 flX11_29 kB_1 rfl rfl rfl ?_
      refine J_iconst o dX11_findCosts_69 ?_
      refine J_iload_n o dX11_findCosts_70 rfl ?_
      refine J_imul o dX11_findCosts_71 ?_
      obtain ⟨g14, hf⟩ := gd_some hf
      refine J_iald o g dX11_findCosts_72 kB_8 (R_wr _) zB_8 g14 (fun q15 => ?_)
      refine J_aload_n o dX11_findCosts_73 rfl ?_
      refine J_getF (true, 8) o g dX11_findCosts_74 flX11_29 kB_1 rfl rfl rfl ?_
      refine J_iconst o dX11_findCosts_77 ?_
      refine J_iload_n o dX11_findCosts_78 rfl ?_
      refine J_imul o dX11_findCosts_79 ?_
      refine J_iconst o dX11_findCosts_80 ?_
      refine J_iadd o dX11_findCosts_81 ?_
      obtain ⟨g16, hf⟩ := gd_some hf
      refine J_iald o g dX11_findCosts_82 kB_8 (R_wr _) zB_8 g16 (fun q17 => ?_)
      refine J_aload_n o dX11_findCosts_83 rfl ?_
      refine J_getF (true, 8) o g dX11_findCosts_84 flX11_29 kB_1 rfl rfl rfl ?_
      refine J_iconst o dX11_findCosts_87 ?_
      refine J_iload_n o dX11_findCosts_88 rfl ?_
      refine J_imul o dX11_findCosts_89 ?_
      refine J_iconst o dX11_findCosts_90 ?_
      refine J_iadd o dX11_findCosts_91 ?_
      obtain ⟨g18, hf⟩ := gd_some hf
      refine J_iald o g dX11_findCosts_92 kB_8 (R_wr _) zB_8 g18 (fun q19 => ?_)
      obtain ⟨v21, e20, hf⟩ := bnd_some hf
      refine J_vI o g kr dX11_findCosts_93 lkX11_217 ml_Re_place vl_Re_place ⟨rfl, rfl, Nat.le_of_ble_eq_true rfl, Nat.le_of_ble_eq_true rfl⟩ (c_Re_place g.2.1 q11 q13 q15 q17 q19 e20) kB_1 rfl ⟨by decide, by decide⟩ rfl rfl (c1s_r c1s_0 (Nat.le_of_ble_eq_true rfl)) (fun q22 => ?_)
      refine J_aload_n o dX11_findCosts_96 rfl ?_
      refine J_getF (true, 9) o g dX11_findCosts_97 flX11_32 kB_1 rfl rfl rfl ?_
      refine J_iload_n o dX11_findCosts_100 rfl ?_
      obtain ⟨g23, hf⟩ := gd_some hf
      refine J_iald o g dX11_findCosts_101 kB_9 r_x1 zB_9 g23 (fun q24 => ?_)
      obtain ⟨v26, e25, hf⟩ := bnd_some hf
      refine J_vI o g kr dX11_findCosts_102 lkX11_262 ml_Re_lower vl_Re_lower ⟨rfl, rfl, Nat.le_of_ble_eq_true rfl, Nat.le_of_ble_eq_true rfl⟩ (c_Re_lower g.2.1 q22 q24 e25) kB_1 rfl ⟨by decide, by decide⟩ rfl rfl c1s_0 (fun q27 => ?_)
      refine J_pop o dX11_findCosts_105 rfl ?_
      exact t_Re_findCosts_106 k r_x1 hf hc
noncomputable def f_Re_findCosts_32 (w : World) (x1 : Int) : Option World :=
  lp (fun z : (World × Int) => f_Re_findCosts_32B z.1 z.2) (w, x1)
theorem t_Re_findCosts_32 {E : EE} {K : KT} {l : Launch} {H0 : Heap} (k : Kof TB E K l cX11_findCosts RX11 rm_Re_findCosts) {w : World} {x1 : Int}  {out : World} (hf : f_Re_findCosts_32 w x1 = some out) (hc : (fun out : World => RetV TB E K H0 cX11_findCosts out) out) : HW_Re_findCosts_32 E K H0  (w, x1) := by
  unfold f_Re_findCosts_32 at hf
  refine lp_ind (P := HW_Re_findCosts_32 E K H0 ) hf ?_
  intro z o hs h1 h2
  intro r_x1
  intro o2 o3 o4
  refine t_Re_findCosts_32B k r_x1 hs ?_
  cases o with
  | inl z' => exact h1 z' rfl
  | inr r' => rw [h2 r' rfl]; exact hc
noncomputable def f_Re_findCosts_2B (w : World) (x1 : Int) : Option ((World × Int) ⊕ World) :=
  gd (0 ≤ w 1 1 ∧ w 1 1 < 5) (if (w 20 (w 1 1).toNat) ≤ x1 then (bnd (f_Re_findCosts_32 w 0) fun y6 => some (Sum.inr y6)) else (gd (0 ≤ x1 ∧ x1 < 50) (bl (up w 26 x1.toNat 1000000) fun w8 => bl (wr (x1 + 1)) fun n9 => some (Sum.inl (w8, n9)))))
theorem t_Re_findCosts_2B {E : EE} {K : KT} {l : Launch} {H0 : Heap} (k : Kof TB E K l cX11_findCosts RX11 rm_Re_findCosts) {w : World} {x1 : Int} {o2 o3 o4 : Option Value} (r_x1 : R32 x1) {out : ((World × Int) ⊕ World)} (hf : f_Re_findCosts_2B w x1 = some out) (hc : (Sum.elim (HW_Re_findCosts_2 E K H0 ) (fun out : World => RetV TB E K H0 cX11_findCosts out)) out) : Jj K (WdT TB E H0) w 2 [some (rf E.ad 1), some (.int (ii x1)), o2, o3, o4] [] := by
  unfold f_Re_findCosts_2B at hf
  have o := k.1
  have g := k.2.1
  have kr := k.2.2.1
  refine J_iload_n o dX11_findCosts_2 rfl ?_
  refine J_aload_n o dX11_findCosts_3 rfl ?_
  refine J_getF (true, 20) o g dX11_findCosts_4 flX11_65 kB_1 rfl rfl rfl ?_
  refine J_aload_n o dX11_findCosts_7 rfl ?_
  refine J_getI o g dX11_findCosts_8 flX11_131 kB_1 rfl (fun q1 => ?_)
  obtain ⟨g2, hf⟩ := gd_some hf
  refine J_iald o g dX11_findCosts_11 kB_20 q1 zB_20 g2 (fun q3 => ?_)
  refine J_icmp_ge 30 o dX11_findCosts_12 (by decide) r_x1 q3 (fun c4 => ?_) (fun c5 => ?_)
  · have hf := ite_t c4 hf
    refine J_iconst o dX11_findCosts_30 ?_
    refine J_istore_n o dX11_findCosts_31 (Nat.le_of_ble_eq_true rfl) ?_
    obtain ⟨y6, hf1, hf⟩ := bnd_some hf
    have hf := some_inj hf
    subst hf
    exact (t_Re_findCosts_32 k  hf1 hc) rl0 _ _ _
  · have hf := ite_f c5 hf
    refine J_aload_n o dX11_findCosts_15 rfl ?_
    refine J_getF (true, 26) o g dX11_findCosts_16 flX11_83 kB_1 rfl rfl rfl ?_
    refine J_iload_n o dX11_findCosts_19 rfl ?_
    refine J_ldcw o dX11_findCosts_20 kcX11_261 ?_
    obtain ⟨g7, hf⟩ := gd_some hf
    refine J_iast o g dX11_findCosts_23 kB_26 (fxB_40 _) r_x1 zB_26 g7 rl1000000 ?_
    have hf := bl_out hf
    have hf := bl_out hf
    refine J_iinc o dX11_findCosts_24 rfl ?_
    refine J_goto 2 o dX11_findCosts_27 (by decide) ?_
    have hf := some_inj hf
    subst hf
    exact hc (R_wr _) _ _ _
noncomputable def f_Re_findCosts_2 (w : World) (x1 : Int) : Option World :=
  lp (fun z : (World × Int) => f_Re_findCosts_2B z.1 z.2) (w, x1)
theorem t_Re_findCosts_2 {E : EE} {K : KT} {l : Launch} {H0 : Heap} (k : Kof TB E K l cX11_findCosts RX11 rm_Re_findCosts) {w : World} {x1 : Int}  {out : World} (hf : f_Re_findCosts_2 w x1 = some out) (hc : (fun out : World => RetV TB E K H0 cX11_findCosts out) out) : HW_Re_findCosts_2 E K H0  (w, x1) := by
  unfold f_Re_findCosts_2 at hf
  refine lp_ind (P := HW_Re_findCosts_2 E K H0 ) hf ?_
  intro z o hs h1 h2
  intro r_x1
  intro o2 o3 o4
  refine t_Re_findCosts_2B k r_x1 hs ?_
  cases o with
  | inl z' => exact h1 z' rfl
  | inr r' => rw [h2 r' rfl]; exact hc
noncomputable def f_Re_findCosts (w : World) : Option World :=
  f_Re_findCosts_2 w 0
theorem t_Re_findCosts_0 {E : EE} {K : KT} {l : Launch} {H0 : Heap} (k : Kof TB E K l cX11_findCosts RX11 rm_Re_findCosts) {w : World} {o1 o2 o3 o4 : Option Value}  {out : World} (hf : f_Re_findCosts w = some out) (hc : (fun out : World => RetV TB E K H0 cX11_findCosts out) out) : Jj K (WdT TB E H0) w 0 [some (rf E.ad 1), o1, o2, o3, o4] [] := by
  unfold f_Re_findCosts at hf
  have o := k.1
  have g := k.2.1
  have kr := k.2.2.1
  refine J_iconst o dX11_findCosts_0 ?_
  refine J_istore_n o dX11_findCosts_1 (Nat.le_of_ble_eq_true rfl) ?_
  exact (t_Re_findCosts_2 k  hf hc) rl0 _ _ _
theorem c_Re_findCosts {E : EE} {l : Launch} (hI : Inj TB E) {w : World}  {out : World} (hf : f_Re_findCosts w = some out) : ConV TB E l yX11_findCosts (WS yX11_findCosts cX11_findCosts 5 none) rm_Re_findCosts [rf E.ad 1] w out :=
  con_V (by decide +kernel) rfl (Nat.le_of_ble_eq_true rfl) (c1s_r c1s_0 (Nat.le_of_ble_eq_true rfl)).1 ⟨rfl, rfl⟩ hI TnB (fun K H0 k hret => t_Re_findCosts_0 k  hf hret)
abbrev rm_Re_cheapest : Room := { frames := 7, cells := 0, slots := 0, locals := 168 }
noncomputable def f_Re_cheapest (w : World) (x1 : Int) (x2 : Int) (x3 : Int) (x4 : Int) : Option (World × Int) :=
  bnd (f_Re_noRelation w x1) fun v2 => if v2.2 = 0 then (bnd (f_Re_hasTuple v2.1 (v2.1 1 1) x1 x2 x3 x4) fun v8 => if v8 = 0 then (some (v2.1, (-1))) else (bnd (f_Re_findCosts v2.1 ) fun v13 => bnd (f_Re_place v13 (v13 1 1) x1 x2 x3 x4) fun v17 => gd (0 ≤ v17 ∧ v17 < 50) (some (v13, v13 26 v17.toNat)))) else (some (v2.1, 0))
theorem t_Re_cheapest_0 {E : EE} {K : KT} {l : Launch} {H0 : Heap} (k : Kof TB E K l cX11_cheapest RX11 rm_Re_cheapest) {w : World} {x1 : Int} {x2 : Int} {x3 : Int} {x4 : Int} (r_x1 : R32 x1) (r_x2 : R32 x2) (r_x3 : R32 x3) (r_x4 : R32 x4) {out : (World × Int)} (hf : f_Re_cheapest w x1 x2 x3 x4 = some out) (hc : (fun out : (World × Int) => RetI TB E K H0 cX11_cheapest out.1 out.2) out) : Jj K (WdT TB E H0) w 0 [some (rf E.ad 1), some (.int (ii x1)), some (.int (ii x2)), some (.int (ii x3)), some (.int (ii x4))] [] := by
  unfold f_Re_cheapest at hf
  have o := k.1
  have g := k.2.1
  have kr := k.2.2.1
  refine J_aload_n o dX11_cheapest_0 rfl ?_
  refine J_iload_n o dX11_cheapest_1 rfl ?_
  obtain ⟨v2, e1, hf⟩ := bnd_some hf
  refine J_vI o g kr dX11_cheapest_2 lkX11_246 ml_Re_noRelation vl_Re_noRelation ⟨rfl, rfl, Nat.le_of_ble_eq_true rfl, Nat.le_of_ble_eq_true rfl⟩ (c_Re_noRelation g.2.1 r_x1 e1) kB_1 rfl ⟨by decide, by decide⟩ rfl rfl c1s_0 (fun q3 => ?_)
  refine J_if_eq 10 o dX11_cheapest_5 (by decide) q3 (fun c4 => ?_) (fun c5 => ?_)
  · have hf := ite_t c4 hf
    refine J_aload_n o dX11_cheapest_10 rfl ?_
    refine J_aload_n o dX11_cheapest_11 rfl ?_
    refine J_getI o g dX11_cheapest_12 flX11_131 kB_1 rfl (fun q6 => ?_)
    refine J_iload_n o dX11_cheapest_15 rfl ?_
    refine J_iload_n o dX11_cheapest_16 rfl ?_
    refine J_iload_n o dX11_cheapest_17 rfl ?_
    refine J_iload o dX11_cheapest_18 rfl ?_
    obtain ⟨v8, e7, hf⟩ := bnd_some hf
    refine J_vI o g kr dX11_cheapest_20 lkX11_249 ml_Re_hasTuple vl_Re_hasTuple ⟨rfl, rfl, Nat.le_of_ble_eq_true rfl, Nat.le_of_ble_eq_true rfl⟩ (c_Re_hasTuple g.2.1 q6 r_x1 r_x2 r_x3 r_x4 e7) kB_1 rfl ⟨by decide, by decide⟩ rfl rfl c1s_0 (fun q9 => ?_)
    refine J_if_ne 28 o dX11_cheapest_23 (by decide) q9 (fun c10 => ?_) (fun c11 => ?_)
    · have hf := ite_f c10 hf
      refine J_aload_n o dX11_cheapest_28 rfl ?_
      obtain ⟨v13, e12, hf⟩ := bnd_some hf
      refine J_vV o g kr dX11_cheapest_29 lkX11_268 ml_Re_findCosts vl_Re_findCosts ⟨rfl, rfl, Nat.le_of_ble_eq_true rfl, Nat.le_of_ble_eq_true rfl⟩ (c_Re_findCosts g.2.1  e12) kB_1 rfl ⟨by decide, by decide⟩ rfl rfl c1s_0 ?_
      refine J_aload_n o dX11_cheapest_32 rfl ?_
      refine J_getF (true, 26) o g dX11_cheapest_33 flX11_83 kB_1 rfl rfl rfl ?_
      refine J_aload_n o dX11_cheapest_36 rfl ?_
      refine J_aload_n o dX11_cheapest_37 rfl ?_
      refine J_getI o g dX11_cheapest_38 flX11_131 kB_1 rfl (fun q15 => ?_)
      refine J_iload_n o dX11_cheapest_41 rfl ?_
      refine J_iload_n o dX11_cheapest_42 rfl ?_
      refine J_iload_n o dX11_cheapest_43 rfl ?_
      refine J_iload o dX11_cheapest_44 rfl ?_
      obtain ⟨v17, e16, hf⟩ := bnd_some hf
      refine J_vI o g kr dX11_cheapest_46 lkX11_217 ml_Re_place vl_Re_place ⟨rfl, rfl, Nat.le_of_ble_eq_true rfl, Nat.le_of_ble_eq_true rfl⟩ (c_Re_place g.2.1 q15 r_x1 r_x2 r_x3 r_x4 e16) kB_1 rfl ⟨by decide, by decide⟩ rfl rfl (c1s_r c1s_0 (Nat.le_of_ble_eq_true rfl)) (fun q18 => ?_)
      obtain ⟨g19, hf⟩ := gd_some hf
      refine J_iald o g dX11_cheapest_49 kB_26 q18 zB_26 g19 (fun q20 => ?_)
      have hf := some_inj hf
      subst hf
      exact hc _ _ q20 dX11_cheapest_50
    · have hf := ite_t c11 hf
      refine J_iconst o dX11_cheapest_26 ?_
      have hf := some_inj hf
      subst hf
      exact hc _ _ rlm1 dX11_cheapest_27
  · have hf := ite_f c5 hf
    refine J_iconst o dX11_cheapest_8 ?_
    have hf := some_inj hf
    subst hf
    exact hc _ _ rl0 dX11_cheapest_9
theorem c_Re_cheapest {E : EE} {l : Launch} (hI : Inj TB E) {w : World} {x1 : Int} {x2 : Int} {x3 : Int} {x4 : Int} (r_x1 : R32 x1) (r_x2 : R32 x2) (r_x3 : R32 x3) (r_x4 : R32 x4) {out : (World × Int)} (hf : f_Re_cheapest w x1 x2 x3 x4 = some out) : ConI TB E l yX11_cheapest (WS yX11_cheapest cX11_cheapest 5 (some .int)) rm_Re_cheapest [rf E.ad 1, .int (ii x1), .int (ii x2), .int (ii x3), .int (ii x4)] w out.1 out.2 :=
  con_I (by decide +kernel) rfl (Nat.le_of_ble_eq_true rfl) (c1s_r (c1s_i (c1s_i (c1s_i (c1s_i c1s_0 (Nat.le_of_ble_eq_true rfl)) (Nat.le_of_ble_eq_true rfl)) (Nat.le_of_ble_eq_true rfl)) (Nat.le_of_ble_eq_true rfl)) (Nat.le_of_ble_eq_true rfl)).1 ⟨rfl, rfl⟩ hI TnB (fun K H0 k hret => t_Re_cheapest_0 k r_x1 r_x2 r_x3 r_x4 hf hret)
abbrev rm_Re_needed : Room := { frames := 8, cells := 0, slots := 0, locals := 195 }
def HW_Re_needed_32 (E : EE) (K : KT) (H0 : Heap) (x1 : Int) (x2 : Int) (x3 : Int) (x4 : Int) : (World × Int × Int) → Prop := fun z => R32 z.2.1 → R32 z.2.2 → Jj K (WdT TB E H0) z.1 32 [some (rf E.ad 1), some (.int (ii x1)), some (.int (ii x2)), some (.int (ii x3)), some (.int (ii x4)), some (.int (ii z.2.1)), some (.int (ii z.2.2))] []
noncomputable def f_Re_needed_93 (w : World) (x1 : Int) (x2 : Int) (x3 : Int) (x4 : Int) (x5 : Int) (x6 : Int) : Option ((World × Int × Int) ⊕ (World × Int)) :=
  bl (wr (x6 + 1)) fun n1 => some (Sum.inl (w, x5, n1))
theorem t_Re_needed_93 {E : EE} {K : KT} {l : Launch} {H0 : Heap} (k : Kof TB E K l cX11_needed RX11 rm_Re_needed) {w : World} {x1 : Int} {x2 : Int} {x3 : Int} {x4 : Int} {x5 : Int} {x6 : Int} (r_x1 : R32 x1) (r_x2 : R32 x2) (r_x3 : R32 x3) (r_x4 : R32 x4) (r_x5 : R32 x5) (r_x6 : R32 x6) {out : ((World × Int × Int) ⊕ (World × Int))} (hf : f_Re_needed_93 w x1 x2 x3 x4 x5 x6 = some out) (hc : (Sum.elim (HW_Re_needed_32 E K H0 x1 x2 x3 x4) (fun out : (World × Int) => RetI TB E K H0 cX11_needed out.1 out.2)) out) : Jj K (WdT TB E H0) w 93 [some (rf E.ad 1), some (.int (ii x1)), some (.int (ii x2)), some (.int (ii x3)), some (.int (ii x4)), some (.int (ii x5)), some (.int (ii x6))] [] := by
  unfold f_Re_needed_93 at hf
  have o := k.1
  have g := k.2.1
  have kr := k.2.2.1
  have hf := bl_out hf
  refine J_iinc o dX11_needed_93 rfl ?_
  refine J_goto 32 o dX11_needed_96 (by decide) ?_
  have hf := some_inj hf
  subst hf
  exact hc r_x5 (R_wr _) 
noncomputable def f_Re_needed_32B (w : World) (x1 : Int) (x2 : Int) (x3 : Int) (x4 : Int) (x5 : Int) (x6 : Int) : Option ((World × Int × Int) ⊕ (World × Int)) :=
  if (w 1 7) ≤ x6 then (some (Sum.inr (w, x5))) else (bnd (f_Re_holdsIn w x6 (w 1 1) 0) fun v6 => if v6 = 0 then (f_Re_needed_93 w x1 x2 x3 x4 x5 x6) else (bnd (f_Re_build w 4 (w 1 1) (ishl 1 x6)) fun v12 => if v12.2 = 0 then (f_Re_needed_93 v12.1 x1 x2 x3 x4 x5 x6) else (bnd (f_Re_hasTuple v12.1 4 x1 x2 x3 x4) fun v17 => if v17 = 0 then (bl (ior x5 (ishl 1 x6)) fun n21 => f_Re_needed_93 v12.1 x1 x2 x3 x4 n21 x6) else (f_Re_needed_93 v12.1 x1 x2 x3 x4 x5 x6))))
theorem t_Re_needed_32B {E : EE} {K : KT} {l : Launch} {H0 : Heap} (k : Kof TB E K l cX11_needed RX11 rm_Re_needed) {w : World} {x1 : Int} {x2 : Int} {x3 : Int} {x4 : Int} {x5 : Int} {x6 : Int} (r_x1 : R32 x1) (r_x2 : R32 x2) (r_x3 : R32 x3) (r_x4 : R32 x4) (r_x5 : R32 x5) (r_x6 : R32 x6) {out : ((World × Int × Int) ⊕ (World × Int))} (hf : f_Re_needed_32B w x1 x2 x3 x4 x5 x6 = some out) (hc : (Sum.elim (HW_Re_needed_32 E K H0 x1 x2 x3 x4) (fun out : (World × Int) => RetI TB E K H0 cX11_needed out.1 out.2)) out) : Jj K (WdT TB E H0) w 32 [some (rf E.ad 1), some (.int (ii x1)), some (.int (ii x2)), some (.int (ii x3)), some (.int (ii x4)), some (.int (ii x5)), some (.int (ii x6))] [] := by
  unfold f_Re_needed_32B at hf
  have o := k.1
  have g := k.2.1
  have kr := k.2.2.1
  refine J_iload o dX11_needed_32 rfl ?_
  refine J_aload_n o dX11_needed_34 rfl ?_
  refine J_getI o g dX11_needed_35 flX11_124 kB_1 rfl (fun q1 => ?_)
  refine J_icmp_ge 99 o dX11_needed_38 (by decide) r_x6 q1 (fun c2 => ?_) (fun c3 => ?_)
  · have hf := ite_t c2 hf
    refine J_iload o dX11_needed_99 rfl ?_
    have hf := some_inj hf
    subst hf
    exact hc _ _ r_x5 dX11_needed_101
  · have hf := ite_f c3 hf
    refine J_aload_n o dX11_needed_41 rfl ?_
    refine J_iload o dX11_needed_42 rfl ?_
    refine J_aload_n o dX11_needed_44 rfl ?_
    refine J_getI o g dX11_needed_45 flX11_131 kB_1 rfl (fun q4 => ?_)
    refine J_iconst o dX11_needed_48 ?_
    obtain ⟨v6, e5, hf⟩ := bnd_some hf
    refine J_vI o g kr dX11_needed_49 lkX11_224 ml_Re_holdsIn vl_Re_holdsIn ⟨rfl, rfl, Nat.le_of_ble_eq_true rfl, Nat.le_of_ble_eq_true rfl⟩ (c_Re_holdsIn g.2.1 r_x6 q4 rl0 e5) kB_1 rfl ⟨by decide, by decide⟩ rfl rfl c1s_0 (fun q7 => ?_)
    refine J_if_eq 93 o dX11_needed_52 (by decide) q7 (fun c8 => ?_) (fun c9 => ?_)
    · have hf := ite_t c8 hf
      exact t_Re_needed_93 k r_x1 r_x2 r_x3 r_x4 r_x5 r_x6 hf hc
    · have hf := ite_f c9 hf
      refine J_aload_n o dX11_needed_55 rfl ?_
      refine J_iconst o dX11_needed_56 ?_
      refine J_aload_n o dX11_needed_57 rfl ?_
      refine J_getI o g dX11_needed_58 flX11_131 kB_1 rfl (fun q10 => ?_)
      refine J_iconst o dX11_needed_61 ?_
      refine J_iload o dX11_needed_62 rfl ?_
      refine J_ishl o dX11_needed_64 ?_
      obtain ⟨v12, e11, hf⟩ := bnd_some hf
      refine J_vI o g kr dX11_needed_65 lkX11_243 ml_Re_build vl_Re_build ⟨rfl, rfl, Nat.le_of_ble_eq_true rfl, Nat.le_of_ble_eq_true rfl⟩ (c_Re_build g.2.1 rl4 q10 (R_ishl _ _) e11) kB_1 rfl ⟨by decide, by decide⟩ rfl rfl c1s_0 (fun q13 => ?_)
      refine J_if_eq 93 o dX11_needed_68 (by decide) q13 (fun c14 => ?_) (fun c15 => ?_)
      · have hf := ite_t c14 hf
        exact t_Re_needed_93 k r_x1 r_x2 r_x3 r_x4 r_x5 r_x6 hf hc
      · have hf := ite_f c15 hf
        refine J_aload_n o dX11_needed_71 rfl ?_
        refine J_iconst o dX11_needed_72 ?_
        refine J_iload_n o dX11_needed_73 rfl ?_
        refine J_iload_n o dX11_needed_74 rfl ?_
        refine J_iload_n o dX11_needed_75 rfl ?_
        refine J_iload o dX11_needed_76 rfl ?_
        obtain ⟨v17, e16, hf⟩ := bnd_some hf
        refine J_vI o g kr dX11_needed_78 lkX11_249 ml_Re_hasTuple vl_Re_hasTuple ⟨rfl, rfl, Nat.le_of_ble_eq_true rfl, Nat.le_of_ble_eq_true rfl⟩ (c_Re_hasTuple g.2.1 rl4 r_x1 r_x2 r_x3 r_x4 e16) kB_1 rfl ⟨by decide, by decide⟩ rfl rfl c1s_0 (fun q18 => ?_)
        refine J_if_ne 93 o dX11_needed_81 (by decide) q18 (fun c19 => ?_) (fun c20 => ?_)
        · have hf := ite_f c19 hf
          exact t_Re_needed_93 k r_x1 r_x2 r_x3 r_x4 r_x5 r_x6 hf hc
        · have hf := ite_t c20 hf
          refine J_iload o dX11_needed_84 rfl ?_
          refine J_iconst o dX11_needed_86 ?_
          refine J_iload o dX11_needed_87 rfl ?_
          refine J_ishl o dX11_needed_89 ?_
          refine J_ior o dX11_needed_90 ?_
          refine J_istore o dX11_needed_91 (Nat.le_of_ble_eq_true rfl) ?_
          have hf := bl_out hf
          exact t_Re_needed_93 k r_x1 r_x2 r_x3 r_x4 (R_ior _ _) r_x6 hf hc
noncomputable def f_Re_needed_32 (w : World) (x1 : Int) (x2 : Int) (x3 : Int) (x4 : Int) (x5 : Int) (x6 : Int) : Option (World × Int) :=
  lp (fun z : (World × Int × Int) => f_Re_needed_32B z.1 x1 x2 x3 x4 z.2.1 z.2.2) (w, x5, x6)
theorem t_Re_needed_32 {E : EE} {K : KT} {l : Launch} {H0 : Heap} (k : Kof TB E K l cX11_needed RX11 rm_Re_needed) {w : World} {x1 : Int} {x2 : Int} {x3 : Int} {x4 : Int} {x5 : Int} {x6 : Int} (r_x1 : R32 x1) (r_x2 : R32 x2) (r_x3 : R32 x3) (r_x4 : R32 x4) {out : (World × Int)} (hf : f_Re_needed_32 w x1 x2 x3 x4 x5 x6 = some out) (hc : (fun out : (World × Int) => RetI TB E K H0 cX11_needed out.1 out.2) out) : HW_Re_needed_32 E K H0 x1 x2 x3 x4 (w, x5, x6) := by
  unfold f_Re_needed_32 at hf
  refine lp_ind (P := HW_Re_needed_32 E K H0 x1 x2 x3 x4) hf ?_
  intro z o hs h1 h2
  intro r_x5 r_x6
  refine t_Re_needed_32B k r_x1 r_x2 r_x3 r_x4 r_x5 r_x6 hs ?_
  cases o with
  | inl z' => exact h1 z' rfl
  | inr r' => rw [h2 r' rfl]; exact hc
noncomputable def f_Re_needed (w : World) (x1 : Int) (x2 : Int) (x3 : Int) (x4 : Int) : Option (World × Int) :=
  bnd (f_Re_noRelation w x1) fun v2 => if v2.2 = 0 then (bnd (f_Re_hasTuple v2.1 (v2.1 1 1) x1 x2 x3 x4) fun v8 => if v8 = 0 then (some (v2.1, 0)) else (f_Re_needed_32 v2.1 x1 x2 x3 x4 0 0)) else (some (v2.1, 0))
theorem t_Re_needed_0 {E : EE} {K : KT} {l : Launch} {H0 : Heap} (k : Kof TB E K l cX11_needed RX11 rm_Re_needed) {w : World} {x1 : Int} {x2 : Int} {x3 : Int} {x4 : Int} {o5 o6 : Option Value} (r_x1 : R32 x1) (r_x2 : R32 x2) (r_x3 : R32 x3) (r_x4 : R32 x4) {out : (World × Int)} (hf : f_Re_needed w x1 x2 x3 x4 = some out) (hc : (fun out : (World × Int) => RetI TB E K H0 cX11_needed out.1 out.2) out) : Jj K (WdT TB E H0) w 0 [some (rf E.ad 1), some (.int (ii x1)), some (.int (ii x2)), some (.int (ii x3)), some (.int (ii x4)), o5, o6] [] := by
  unfold f_Re_needed at hf
  have o := k.1
  have g := k.2.1
  have kr := k.2.2.1
  refine J_aload_n o dX11_needed_0 rfl ?_
  refine J_iload_n o dX11_needed_1 rfl ?_
  obtain ⟨v2, e1, hf⟩ := bnd_some hf
  refine J_vI o g kr dX11_needed_2 lkX11_246 ml_Re_noRelation vl_Re_noRelation ⟨rfl, rfl, Nat.le_of_ble_eq_true rfl, Nat.le_of_ble_eq_true rfl⟩ (c_Re_noRelation g.2.1 r_x1 e1) kB_1 rfl ⟨by decide, by decide⟩ rfl rfl c1s_0 (fun q3 => ?_)
  refine J_if_ne 24 o dX11_needed_5 (by decide) q3 (fun c4 => ?_) (fun c5 => ?_)
  · have hf := ite_f c4 hf
    refine J_iconst o dX11_needed_24 ?_
    have hf := some_inj hf
    subst hf
    exact hc _ _ rl0 dX11_needed_25
  · have hf := ite_t c5 hf
    refine J_aload_n o dX11_needed_8 rfl ?_
    refine J_aload_n o dX11_needed_9 rfl ?_
    refine J_getI o g dX11_needed_10 flX11_131 kB_1 rfl (fun q6 => ?_)
    refine J_iload_n o dX11_needed_13 rfl ?_
    refine J_iload_n o dX11_needed_14 rfl ?_
    refine J_iload_n o dX11_needed_15 rfl ?_
    refine J_iload o dX11_needed_16 rfl ?_
    obtain ⟨v8, e7, hf⟩ := bnd_some hf
    refine J_vI o g kr dX11_needed_18 lkX11_249 ml_Re_hasTuple vl_Re_hasTuple ⟨rfl, rfl, Nat.le_of_ble_eq_true rfl, Nat.le_of_ble_eq_true rfl⟩ (c_Re_hasTuple g.2.1 q6 r_x1 r_x2 r_x3 r_x4 e7) kB_1 rfl ⟨by decide, by decide⟩ rfl rfl c1s_0 (fun q9 => ?_)
    refine J_if_ne 26 o dX11_needed_21 (by decide) q9 (fun c10 => ?_) (fun c11 => ?_)
    · have hf := ite_f c10 hf
      refine J_iconst o dX11_needed_26 ?_
      refine J_istore o dX11_needed_27 (Nat.le_of_ble_eq_true rfl) ?_
      refine J_iconst o dX11_needed_29 ?_
      refine J_istore o dX11_needed_30 (Nat.le_of_ble_eq_true rfl) ?_
      exact (t_Re_needed_32 k r_x1 r_x2 r_x3 r_x4 hf hc) rl0 rl0 
    · have hf := ite_t c11 hf
      refine J_iconst o dX11_needed_24 ?_
      have hf := some_inj hf
      subst hf
      exact hc _ _ rl0 dX11_needed_25
theorem c_Re_needed {E : EE} {l : Launch} (hI : Inj TB E) {w : World} {x1 : Int} {x2 : Int} {x3 : Int} {x4 : Int} (r_x1 : R32 x1) (r_x2 : R32 x2) (r_x3 : R32 x3) (r_x4 : R32 x4) {out : (World × Int)} (hf : f_Re_needed w x1 x2 x3 x4 = some out) : ConI TB E l yX11_needed (WS yX11_needed cX11_needed 7 (some .int)) rm_Re_needed [rf E.ad 1, .int (ii x1), .int (ii x2), .int (ii x3), .int (ii x4)] w out.1 out.2 :=
  con_I (by decide +kernel) rfl (Nat.le_of_ble_eq_true rfl) (c1s_r (c1s_i (c1s_i (c1s_i (c1s_i c1s_0 (Nat.le_of_ble_eq_true rfl)) (Nat.le_of_ble_eq_true rfl)) (Nat.le_of_ble_eq_true rfl)) (Nat.le_of_ble_eq_true rfl)) (Nat.le_of_ble_eq_true rfl)).1 ⟨rfl, rfl⟩ hI TnB (fun K H0 k hret => t_Re_needed_0 k r_x1 r_x2 r_x3 r_x4 hf hret)
abbrev rm_Re_giveHead : Room := { frames := 3, cells := 0, slots := 0, locals := 67 }
def HW_Re_giveHead_49 (E : EE) (K : KT) (H0 : Heap) (x1 : Int) (x2 : Int) (x3 : Int) (x4 : Int) (x6 : Int) : (World × Int × Int) → Prop := fun z => R32 z.2.1 → R32 z.2.2 → ∀ o5 o9 : Option Value, Jj K (WdT TB E H0) z.1 49 [some (rf E.ad 1), some (.int (ii x1)), some (.int (ii x2)), some (.int (ii x3)), some (.int (ii x4)), o5, some (.int (ii x6)), some (.int (ii z.2.1)), some (.int (ii z.2.2)), o9] []
noncomputable def f_Re_giveHead_116 (w : World) (x1 : Int) (x2 : Int) (x3 : Int) (x4 : Int) (x6 : Int) (x8 : Int) (s0 : Int) : Option ((World × Int × Int) ⊕ (World × Int)) :=
  bl (wr (x8 + 1)) fun n1 => some (Sum.inl (w, s0, n1))
theorem t_Re_giveHead_116 {E : EE} {K : KT} {l : Launch} {H0 : Heap} (k : Kof TB E K l cX11_giveHead RX11 rm_Re_giveHead) {w : World} {x1 : Int} {x2 : Int} {x3 : Int} {x4 : Int} {x6 : Int} {x8 : Int} {s0 : Int} {o5 o7 o9 : Option Value} (r_x1 : R32 x1) (r_x2 : R32 x2) (r_x3 : R32 x3) (r_x4 : R32 x4) (r_x6 : R32 x6) (r_x8 : R32 x8) (r_s0 : R32 s0) {out : ((World × Int × Int) ⊕ (World × Int))} (hf : f_Re_giveHead_116 w x1 x2 x3 x4 x6 x8 s0 = some out) (hc : (Sum.elim (HW_Re_giveHead_49 E K H0 x1 x2 x3 x4 x6) (fun out : (World × Int) => RetZ TB E K H0 cX11_giveHead out.1 out.2)) out) : Jj K (WdT TB E H0) w 116 [some (rf E.ad 1), some (.int (ii x1)), some (.int (ii x2)), some (.int (ii x3)), some (.int (ii x4)), o5, some (.int (ii x6)), o7, some (.int (ii x8)), o9] [.int (ii s0)] := by
  unfold f_Re_giveHead_116 at hf
  have o := k.1
  have g := k.2.1
  have kr := k.2.2.1
  refine J_istore o dX11_giveHead_116 (Nat.le_of_ble_eq_true rfl) ?_
  have hf := bl_out hf
  refine J_iinc o dX11_giveHead_118 rfl ?_
  refine J_goto 49 o dX11_giveHead_121 (by decide) ?_
  have hf := some_inj hf
  subst hf
  exact hc r_s0 (R_wr _) _ _
noncomputable def f_Re_giveHead_115 (w : World) (x1 : Int) (x2 : Int) (x3 : Int) (x4 : Int) (x6 : Int) (x8 : Int) : Option ((World × Int × Int) ⊕ (World × Int)) :=
  f_Re_giveHead_116 w x1 x2 x3 x4 x6 x8 0
theorem t_Re_giveHead_115 {E : EE} {K : KT} {l : Launch} {H0 : Heap} (k : Kof TB E K l cX11_giveHead RX11 rm_Re_giveHead) {w : World} {x1 : Int} {x2 : Int} {x3 : Int} {x4 : Int} {x6 : Int} {x8 : Int} {o5 o7 o9 : Option Value} (r_x1 : R32 x1) (r_x2 : R32 x2) (r_x3 : R32 x3) (r_x4 : R32 x4) (r_x6 : R32 x6) (r_x8 : R32 x8) {out : ((World × Int × Int) ⊕ (World × Int))} (hf : f_Re_giveHead_115 w x1 x2 x3 x4 x6 x8 = some out) (hc : (Sum.elim (HW_Re_giveHead_49 E K H0 x1 x2 x3 x4 x6) (fun out : (World × Int) => RetZ TB E K H0 cX11_giveHead out.1 out.2)) out) : Jj K (WdT TB E H0) w 115 [some (rf E.ad 1), some (.int (ii x1)), some (.int (ii x2)), some (.int (ii x3)), some (.int (ii x4)), o5, some (.int (ii x6)), o7, some (.int (ii x8)), o9] [] := by
  unfold f_Re_giveHead_115 at hf
  have o := k.1
  have g := k.2.1
  have kr := k.2.2.1
  refine J_iconst o dX11_giveHead_115 ?_
  exact t_Re_giveHead_116 k r_x1 r_x2 r_x3 r_x4 r_x6 r_x8 rl0 hf hc
noncomputable def f_Re_giveHead_111 (w : World) (x1 : Int) (x2 : Int) (x3 : Int) (x4 : Int) (x6 : Int) (x8 : Int) : Option ((World × Int × Int) ⊕ (World × Int)) :=
  f_Re_giveHead_116 w x1 x2 x3 x4 x6 x8 1
theorem t_Re_giveHead_111 {E : EE} {K : KT} {l : Launch} {H0 : Heap} (k : Kof TB E K l cX11_giveHead RX11 rm_Re_giveHead) {w : World} {x1 : Int} {x2 : Int} {x3 : Int} {x4 : Int} {x6 : Int} {x8 : Int} {o5 o7 o9 : Option Value} (r_x1 : R32 x1) (r_x2 : R32 x2) (r_x3 : R32 x3) (r_x4 : R32 x4) (r_x6 : R32 x6) (r_x8 : R32 x8) {out : ((World × Int × Int) ⊕ (World × Int))} (hf : f_Re_giveHead_111 w x1 x2 x3 x4 x6 x8 = some out) (hc : (Sum.elim (HW_Re_giveHead_49 E K H0 x1 x2 x3 x4 x6) (fun out : (World × Int) => RetZ TB E K H0 cX11_giveHead out.1 out.2)) out) : Jj K (WdT TB E H0) w 111 [some (rf E.ad 1), some (.int (ii x1)), some (.int (ii x2)), some (.int (ii x3)), some (.int (ii x4)), o5, some (.int (ii x6)), o7, some (.int (ii x8)), o9] [] := by
  unfold f_Re_giveHead_111 at hf
  have o := k.1
  have g := k.2.1
  have kr := k.2.2.1
  refine J_iconst o dX11_giveHead_111 ?_
  refine J_goto 116 o dX11_giveHead_112 (by decide) ?_
  exact t_Re_giveHead_116 k r_x1 r_x2 r_x3 r_x4 r_x6 r_x8 rl1 hf hc
noncomputable def f_Re_giveHead_77 (w : World) (x1 : Int) (x2 : Int) (x3 : Int) (x4 : Int) (x6 : Int) (x7 : Int) (x8 : Int) (s0 : Int) : Option ((World × Int × Int) ⊕ (World × Int)) :=
  if x7 = 0 then (f_Re_giveHead_115 w x1 x2 x3 x4 x6 x8) else (if s0 = (-9) then (f_Re_giveHead_111 w x1 x2 x3 x4 x6 x8) else (gd (0 ≤ wr ((wr (3 * x1)) + x8) ∧ wr ((wr (3 * x1)) + x8) < 57) (bnd (f_Re_give w (w 15 (wr ((wr (3 * x1)) + x8)).toNat) s0) fun v8 => if v8.2 = 0 then (f_Re_giveHead_115 v8.1 x1 x2 x3 x4 x6 x8) else (f_Re_giveHead_111 v8.1 x1 x2 x3 x4 x6 x8))))
theorem t_Re_giveHead_77 {E : EE} {K : KT} {l : Launch} {H0 : Heap} (k : Kof TB E K l cX11_giveHead RX11 rm_Re_giveHead) {w : World} {x1 : Int} {x2 : Int} {x3 : Int} {x4 : Int} {x6 : Int} {x7 : Int} {x8 : Int} {s0 : Int} {o5 o9 : Option Value} (r_x1 : R32 x1) (r_x2 : R32 x2) (r_x3 : R32 x3) (r_x4 : R32 x4) (r_x6 : R32 x6) (r_x7 : R32 x7) (r_x8 : R32 x8) (r_s0 : R32 s0) {out : ((World × Int × Int) ⊕ (World × Int))} (hf : f_Re_giveHead_77 w x1 x2 x3 x4 x6 x7 x8 s0 = some out) (hc : (Sum.elim (HW_Re_giveHead_49 E K H0 x1 x2 x3 x4 x6) (fun out : (World × Int) => RetZ TB E K H0 cX11_giveHead out.1 out.2)) out) : Jj K (WdT TB E H0) w 77 [some (rf E.ad 1), some (.int (ii x1)), some (.int (ii x2)), some (.int (ii x3)), some (.int (ii x4)), o5, some (.int (ii x6)), some (.int (ii x7)), some (.int (ii x8)), o9] [.int (ii s0)] := by
  unfold f_Re_giveHead_77 at hf
  have o := k.1
  have g := k.2.1
  have kr := k.2.2.1
  refine J_istore o dX11_giveHead_77 (Nat.le_of_ble_eq_true rfl) ?_
  refine J_iload o dX11_giveHead_79 rfl ?_
  refine J_if_eq 115 o dX11_giveHead_81 (by decide) r_x7 (fun c1 => ?_) (fun c2 => ?_)
  · have hf := ite_t c1 hf
    exact t_Re_giveHead_115 k r_x1 r_x2 r_x3 r_x4 r_x6 r_x8 hf hc
  · have hf := ite_f c2 hf
    refine J_iload o dX11_giveHead_84 rfl ?_
    refine J_bipush o dX11_giveHead_86 (by decide) ?_
    refine J_icmp_eq 111 o dX11_giveHead_88 (by decide) r_s0 rlm9 (fun c3 => ?_) (fun c4 => ?_)
    · have hf := ite_t c3 hf
      exact t_Re_giveHead_111 k r_x1 r_x2 r_x3 r_x4 r_x6 r_x8 hf hc
    · have hf := ite_f c4 hf
      refine J_aload_n o dX11_giveHead_91 rfl ?_
      refine J_aload_n o dX11_giveHead_92 rfl ?_
      refine J_getF (true, 15) o g dX11_giveHead_93 flX11_50 kB_1 rfl rfl rfl ?_
      refine J_iconst o dX11_giveHead_96 ?_
      refine J_iload_n o dX11_giveHead_97 rfl ?_
      refine J_imul o dX11_giveHead_98 ?_
      refine J_iload o dX11_giveHead_99 rfl ?_
      refine J_iadd o dX11_giveHead_101 ?_
      obtain ⟨g5, hf⟩ := gd_some hf
      refine J_iald o g dX11_giveHead_102 kB_15 (R_wr _) zB_15 g5 (fun q6 => ?_)
      refine J_iload o dX11_giveHead_103 rfl ?_
      obtain ⟨v8, e7, hf⟩ := bnd_some hf
      refine J_vI o g kr dX11_giveHead_105 lkX11_271 ml_Re_give vl_Re_give ⟨rfl, rfl, Nat.le_of_ble_eq_true rfl, Nat.le_of_ble_eq_true rfl⟩ (c_Re_give g.2.1 q6 r_s0 e7) kB_1 rfl ⟨by decide, by decide⟩ rfl rfl c1s_0 (fun q9 => ?_)
      refine J_if_eq 115 o dX11_giveHead_108 (by decide) q9 (fun c10 => ?_) (fun c11 => ?_)
      · have hf := ite_t c10 hf
        exact t_Re_giveHead_115 k r_x1 r_x2 r_x3 r_x4 r_x6 r_x8 hf hc
      · have hf := ite_f c11 hf
        exact t_Re_giveHead_111 k r_x1 r_x2 r_x3 r_x4 r_x6 r_x8 hf hc
noncomputable def f_Re_giveHead_49B (w : World) (x1 : Int) (x2 : Int) (x3 : Int) (x4 : Int) (x6 : Int) (x7 : Int) (x8 : Int) : Option ((World × Int × Int) ⊕ (World × Int)) :=
  if x6 ≤ x8 then (gd (x7 = 0 ∨ x7 = 1) (some (Sum.inr (w, x7)))) else (if x8 = 0 then (f_Re_giveHead_77 w x1 x2 x3 x4 x6 x7 x8 x2) else (if x8 = 1 then (f_Re_giveHead_77 w x1 x2 x3 x4 x6 x7 x8 x3) else (f_Re_giveHead_77 w x1 x2 x3 x4 x6 x7 x8 x4)))
theorem t_Re_giveHead_49B {E : EE} {K : KT} {l : Launch} {H0 : Heap} (k : Kof TB E K l cX11_giveHead RX11 rm_Re_giveHead) {w : World} {x1 : Int} {x2 : Int} {x3 : Int} {x4 : Int} {x6 : Int} {x7 : Int} {x8 : Int} {o5 o9 : Option Value} (r_x1 : R32 x1) (r_x2 : R32 x2) (r_x3 : R32 x3) (r_x4 : R32 x4) (r_x6 : R32 x6) (r_x7 : R32 x7) (r_x8 : R32 x8) {out : ((World × Int × Int) ⊕ (World × Int))} (hf : f_Re_giveHead_49B w x1 x2 x3 x4 x6 x7 x8 = some out) (hc : (Sum.elim (HW_Re_giveHead_49 E K H0 x1 x2 x3 x4 x6) (fun out : (World × Int) => RetZ TB E K H0 cX11_giveHead out.1 out.2)) out) : Jj K (WdT TB E H0) w 49 [some (rf E.ad 1), some (.int (ii x1)), some (.int (ii x2)), some (.int (ii x3)), some (.int (ii x4)), o5, some (.int (ii x6)), some (.int (ii x7)), some (.int (ii x8)), o9] [] := by
  unfold f_Re_giveHead_49B at hf
  have o := k.1
  have g := k.2.1
  have kr := k.2.2.1
  refine J_iload o dX11_giveHead_49 rfl ?_
  refine J_iload o dX11_giveHead_51 rfl ?_
  refine J_icmp_ge 124 o dX11_giveHead_53 (by decide) r_x8 r_x6 (fun c1 => ?_) (fun c2 => ?_)
  · have hf := ite_t c1 hf
    refine J_iload o dX11_giveHead_124 rfl ?_
    obtain ⟨g3, hf⟩ := gd_some hf
    have hf := some_inj hf
    subst hf
    exact hc _ _ g3 dX11_giveHead_126
  · have hf := ite_f c2 hf
    refine J_iload o dX11_giveHead_56 rfl ?_
    refine J_if_ne 65 o dX11_giveHead_58 (by decide) r_x8 (fun c4 => ?_) (fun c5 => ?_)
    · have hf := ite_f c4 hf
      refine J_iload o dX11_giveHead_65 rfl ?_
      refine J_iconst o dX11_giveHead_67 ?_
      refine J_icmp_ne 75 o dX11_giveHead_68 (by decide) r_x8 rl1 (fun c6 => ?_) (fun c7 => ?_)
      · have hf := ite_f c6 hf
        refine J_iload o dX11_giveHead_75 rfl ?_
        exact t_Re_giveHead_77 k r_x1 r_x2 r_x3 r_x4 r_x6 r_x7 r_x8 r_x4 hf hc
      · have hf := ite_t c7 hf
        refine J_iload_n o dX11_giveHead_71 rfl ?_
        refine J_goto 77 o dX11_giveHead_72 (by decide) ?_
        exact t_Re_giveHead_77 k r_x1 r_x2 r_x3 r_x4 r_x6 r_x7 r_x8 r_x3 hf hc
    · have hf := ite_t c5 hf
      refine J_iload_n o dX11_giveHead_61 rfl ?_
      refine J_goto 77 o dX11_giveHead_62 (by decide) ?_
      exact t_Re_giveHead_77 k r_x1 r_x2 r_x3 r_x4 r_x6 r_x7 r_x8 r_x2 hf hc
noncomputable def f_Re_giveHead_49 (w : World) (x1 : Int) (x2 : Int) (x3 : Int) (x4 : Int) (x6 : Int) (x7 : Int) (x8 : Int) : Option (World × Int) :=
  lp (fun z : (World × Int × Int) => f_Re_giveHead_49B z.1 x1 x2 x3 x4 x6 z.2.1 z.2.2) (w, x7, x8)
theorem t_Re_giveHead_49 {E : EE} {K : KT} {l : Launch} {H0 : Heap} (k : Kof TB E K l cX11_giveHead RX11 rm_Re_giveHead) {w : World} {x1 : Int} {x2 : Int} {x3 : Int} {x4 : Int} {x6 : Int} {x7 : Int} {x8 : Int} (r_x1 : R32 x1) (r_x2 : R32 x2) (r_x3 : R32 x3) (r_x4 : R32 x4) (r_x6 : R32 x6) {out : (World × Int)} (hf : f_Re_giveHead_49 w x1 x2 x3 x4 x6 x7 x8 = some out) (hc : (fun out : (World × Int) => RetZ TB E K H0 cX11_giveHead out.1 out.2) out) : HW_Re_giveHead_49 E K H0 x1 x2 x3 x4 x6 (w, x7, x8) := by
  unfold f_Re_giveHead_49 at hf
  refine lp_ind (P := HW_Re_giveHead_49 E K H0 x1 x2 x3 x4 x6) hf ?_
  intro z o hs h1 h2
  intro r_x7 r_x8
  intro o5 o9
  refine t_Re_giveHead_49B k r_x1 r_x2 r_x3 r_x4 r_x6 r_x7 r_x8 hs ?_
  cases o with
  | inl z' => exact h1 z' rfl
  | inr r' => rw [h2 r' rfl]; exact hc
noncomputable def f_Re_giveHead_37 (w : World) (x1 : Int) (x2 : Int) (x3 : Int) (x4 : Int) (s0 : Int) : Option (World × Int) :=
  bnd (f_Re_begin w ) fun v2 => f_Re_giveHead_49 v2 x1 x2 x3 x4 s0 1 0
theorem t_Re_giveHead_37 {E : EE} {K : KT} {l : Launch} {H0 : Heap} (k : Kof TB E K l cX11_giveHead RX11 rm_Re_giveHead) {w : World} {x1 : Int} {x2 : Int} {x3 : Int} {x4 : Int} {s0 : Int} {o5 o6 o7 o8 o9 : Option Value} (r_x1 : R32 x1) (r_x2 : R32 x2) (r_x3 : R32 x3) (r_x4 : R32 x4) (r_s0 : R32 s0) {out : (World × Int)} (hf : f_Re_giveHead_37 w x1 x2 x3 x4 s0 = some out) (hc : (fun out : (World × Int) => RetZ TB E K H0 cX11_giveHead out.1 out.2) out) : Jj K (WdT TB E H0) w 37 [some (rf E.ad 1), some (.int (ii x1)), some (.int (ii x2)), some (.int (ii x3)), some (.int (ii x4)), o5, o6, o7, o8, o9] [.int (ii s0)] := by
  unfold f_Re_giveHead_37 at hf
  have o := k.1
  have g := k.2.1
  have kr := k.2.2.1
  refine J_istore o dX11_giveHead_37 (Nat.le_of_ble_eq_true rfl) ?_
  refine J_iconst o dX11_giveHead_39 ?_
  refine J_istore o dX11_giveHead_40 (Nat.le_of_ble_eq_true rfl) ?_
  refine J_aload_n o dX11_giveHead_42 rfl ?_
  obtain ⟨v2, e1, hf⟩ := bnd_some hf
  refine J_vV o g kr dX11_giveHead_43 lkX11_234 ml_Re_begin vl_Re_begin ⟨rfl, rfl, Nat.le_of_ble_eq_true rfl, Nat.le_of_ble_eq_true rfl⟩ (c_Re_begin g.2.1  e1) kB_1 rfl ⟨by decide, by decide⟩ rfl rfl c1s_0 ?_
  refine J_iconst o dX11_giveHead_46 ?_
  refine J_istore o dX11_giveHead_47 (Nat.le_of_ble_eq_true rfl) ?_
  exact (t_Re_giveHead_49 k r_x1 r_x2 r_x3 r_x4 r_s0 hf hc) rl1 rl0 _ _
noncomputable def f_Re_giveHead (w : World) (x1 : Int) (x2 : Int) (x3 : Int) (x4 : Int) : Option (World × Int) :=
  gd (0 ≤ x1 ∧ x1 < 19) (bl (w 14 x1.toNat) fun n3 => gd (0 ≤ n3 ∧ n3 < 10) (if (w 4 n3.toNat) = 0 then (gd (0 ≤ n3 ∧ n3 < 10) (f_Re_giveHead_37 w x1 x2 x3 x4 (w 3 n3.toNat))) else (gd (0 ≤ n3 ∧ n3 < 10) (f_Re_giveHead_37 w x1 x2 x3 x4 (wr ((w 3 n3.toNat) - 1))))))
theorem t_Re_giveHead_0 {E : EE} {K : KT} {l : Launch} {H0 : Heap} (k : Kof TB E K l cX11_giveHead RX11 rm_Re_giveHead) {w : World} {x1 : Int} {x2 : Int} {x3 : Int} {x4 : Int} {o5 o6 o7 o8 o9 : Option Value} (r_x1 : R32 x1) (r_x2 : R32 x2) (r_x3 : R32 x3) (r_x4 : R32 x4) {out : (World × Int)} (hf : f_Re_giveHead w x1 x2 x3 x4 = some out) (hc : (fun out : (World × Int) => RetZ TB E K H0 cX11_giveHead out.1 out.2) out) : Jj K (WdT TB E H0) w 0 [some (rf E.ad 1), some (.int (ii x1)), some (.int (ii x2)), some (.int (ii x3)), some (.int (ii x4)), o5, o6, o7, o8, o9] [] := by
  unfold f_Re_giveHead at hf
  have o := k.1
  have g := k.2.1
  have kr := k.2.2.1
  refine J_aload_n o dX11_giveHead_0 rfl ?_
  refine J_getF (true, 14) o g dX11_giveHead_1 flX11_47 kB_1 rfl rfl rfl ?_
  refine J_iload_n o dX11_giveHead_4 rfl ?_
  obtain ⟨g1, hf⟩ := gd_some hf
  refine J_iald o g dX11_giveHead_5 kB_14 r_x1 zB_14 g1 (fun q2 => ?_)
  refine J_istore o dX11_giveHead_6 (Nat.le_of_ble_eq_true rfl) ?_
  have hf := bl_out hf
  refine J_aload_n o dX11_giveHead_8 rfl ?_
  refine J_getF (true, 4) o g dX11_giveHead_9 flX11_17 kB_1 rfl rfl rfl ?_
  refine J_iload o dX11_giveHead_12 rfl ?_
  obtain ⟨g4, hf⟩ := gd_some hf
  refine J_iald o g dX11_giveHead_14 kB_4 q2 zB_4 g4 (fun q5 => ?_)
  refine J_if_ne 28 o dX11_giveHead_15 (by decide) q5 (fun c6 => ?_) (fun c7 => ?_)
  · have hf := ite_f c6 hf
    refine J_aload_n o dX11_giveHead_28 rfl ?_
    refine J_getF (true, 3) o g dX11_giveHead_29 flX11_13 kB_1 rfl rfl rfl ?_
    refine J_iload o dX11_giveHead_32 rfl ?_
    obtain ⟨g8, hf⟩ := gd_some hf
    refine J_iald o g dX11_giveHead_34 kB_3 q2 zB_3 g8 (fun q9 => ?_)
    refine J_iconst o dX11_giveHead_35 ?_
    refine J_isub o dX11_giveHead_36 ?_
    exact t_Re_giveHead_37 k r_x1 r_x2 r_x3 r_x4 (R_wr _) hf hc
  · have hf := ite_t c7 hf
    refine J_aload_n o dX11_giveHead_18 rfl ?_
    refine J_getF (true, 3) o g dX11_giveHead_19 flX11_13 kB_1 rfl rfl rfl ?_
    refine J_iload o dX11_giveHead_22 rfl ?_
    obtain ⟨g10, hf⟩ := gd_some hf
    refine J_iald o g dX11_giveHead_24 kB_3 q2 zB_3 g10 (fun q11 => ?_)
    refine J_goto 37 o dX11_giveHead_25 (by decide) ?_
    exact t_Re_giveHead_37 k r_x1 r_x2 r_x3 r_x4 q11 hf hc
theorem c_Re_giveHead {E : EE} {l : Launch} (hI : Inj TB E) {w : World} {x1 : Int} {x2 : Int} {x3 : Int} {x4 : Int} (r_x1 : R32 x1) (r_x2 : R32 x2) (r_x3 : R32 x3) (r_x4 : R32 x4) {out : (World × Int)} (hf : f_Re_giveHead w x1 x2 x3 x4 = some out) : ConI TB E l yX11_giveHead (WS yX11_giveHead cX11_giveHead 10 (some .boolean)) rm_Re_giveHead [rf E.ad 1, .int (ii x1), .int (ii x2), .int (ii x3), .int (ii x4)] w out.1 out.2 :=
  con_Z (by decide +kernel) rfl (Nat.le_of_ble_eq_true rfl) (c1s_r (c1s_i (c1s_i (c1s_i (c1s_i c1s_0 (Nat.le_of_ble_eq_true rfl)) (Nat.le_of_ble_eq_true rfl)) (Nat.le_of_ble_eq_true rfl)) (Nat.le_of_ble_eq_true rfl)) (Nat.le_of_ble_eq_true rfl)).1 ⟨rfl, rfl⟩ hI TnB (fun K H0 k hret => t_Re_giveHead_0 k r_x1 r_x2 r_x3 r_x4 hf hret)
abbrev rm_Re_whyNot : Room := { frames := 6, cells := 0, slots := 0, locals := 144 }
def HW_Re_whyNot_88 (E : EE) (K : KT) (H0 : Heap) (x1 : Int) (x2 : Int) (x3 : Int) (x4 : Int) : (World × Int × Int × Int) → Prop := fun z => R32 z.2.1 → R32 z.2.2.1 → R32 z.2.2.2 → ∀ o5 o9 : Option Value, Jj K (WdT TB E H0) z.1 88 [some (rf E.ad 1), some (.int (ii x1)), some (.int (ii x2)), some (.int (ii x3)), some (.int (ii x4)), o5, some (.int (ii z.2.1)), some (.int (ii z.2.2.1)), some (.int (ii z.2.2.2)), o9] []
def HW_Re_whyNot_134 (E : EE) (K : KT) (H0 : Heap) (x1 : Int) (x2 : Int) (x3 : Int) (x4 : Int) (x6 : Int) (x7 : Int) (x8 : Int) : (World × Int) → Prop := fun z => R32 z.2 → ∀ o5 : Option Value, Jj K (WdT TB E H0) z.1 134 [some (rf E.ad 1), some (.int (ii x1)), some (.int (ii x2)), some (.int (ii x3)), some (.int (ii x4)), o5, some (.int (ii x6)), some (.int (ii x7)), some (.int (ii x8)), some (.int (ii z.2))] []
noncomputable def f_Re_whyNot_214 (w : World) (x1 : Int) (x2 : Int) (x3 : Int) (x4 : Int) (x6 : Int) (x7 : Int) (x8 : Int) : Option ((World × Int × Int × Int) ⊕ (World × Int)) :=
  bl (wr (x8 + 1)) fun n1 => some (Sum.inl (w, x6, x7, n1))
theorem t_Re_whyNot_214 {E : EE} {K : KT} {l : Launch} {H0 : Heap} (k : Kof TB E K l cX11_whyNot RX11 rm_Re_whyNot) {w : World} {x1 : Int} {x2 : Int} {x3 : Int} {x4 : Int} {x6 : Int} {x7 : Int} {x8 : Int} {o5 o9 : Option Value} (r_x1 : R32 x1) (r_x2 : R32 x2) (r_x3 : R32 x3) (r_x4 : R32 x4) (r_x6 : R32 x6) (r_x7 : R32 x7) (r_x8 : R32 x8) {out : ((World × Int × Int × Int) ⊕ (World × Int))} (hf : f_Re_whyNot_214 w x1 x2 x3 x4 x6 x7 x8 = some out) (hc : (Sum.elim (HW_Re_whyNot_88 E K H0 x1 x2 x3 x4) (fun out : (World × Int) => RetI TB E K H0 cX11_whyNot out.1 out.2)) out) : Jj K (WdT TB E H0) w 214 [some (rf E.ad 1), some (.int (ii x1)), some (.int (ii x2)), some (.int (ii x3)), some (.int (ii x4)), o5, some (.int (ii x6)), some (.int (ii x7)), some (.int (ii x8)), o9] [] := by
  unfold f_Re_whyNot_214 at hf
  have o := k.1
  have g := k.2.1
  have kr := k.2.2.1
  have hf := bl_out hf
  refine J_iinc o dX11_whyNot_214 rfl ?_
  refine J_goto 88 o dX11_whyNot_217 (by decide) ?_
  have hf := some_inj hf
  subst hf
  exact hc r_x6 r_x7 (R_wr _) _ _
noncomputable def f_Re_whyNot_212 (w : World) (x1 : Int) (x2 : Int) (x3 : Int) (x4 : Int) (x6 : Int) (x8 : Int) (s0 : Int) : Option ((World × Int × Int × Int) ⊕ (World × Int)) :=
  f_Re_whyNot_214 w x1 x2 x3 x4 x6 s0 x8
theorem t_Re_whyNot_212 {E : EE} {K : KT} {l : Launch} {H0 : Heap} (k : Kof TB E K l cX11_whyNot RX11 rm_Re_whyNot) {w : World} {x1 : Int} {x2 : Int} {x3 : Int} {x4 : Int} {x6 : Int} {x8 : Int} {s0 : Int} {o5 o7 o9 : Option Value} (r_x1 : R32 x1) (r_x2 : R32 x2) (r_x3 : R32 x3) (r_x4 : R32 x4) (r_x6 : R32 x6) (r_x8 : R32 x8) (r_s0 : R32 s0) {out : ((World × Int × Int × Int) ⊕ (World × Int))} (hf : f_Re_whyNot_212 w x1 x2 x3 x4 x6 x8 s0 = some out) (hc : (Sum.elim (HW_Re_whyNot_88 E K H0 x1 x2 x3 x4) (fun out : (World × Int) => RetI TB E K H0 cX11_whyNot out.1 out.2)) out) : Jj K (WdT TB E H0) w 212 [some (rf E.ad 1), some (.int (ii x1)), some (.int (ii x2)), some (.int (ii x3)), some (.int (ii x4)), o5, some (.int (ii x6)), o7, some (.int (ii x8)), o9] [.int (ii s0)] := by
  unfold f_Re_whyNot_212 at hf
  have o := k.1
  have g := k.2.1
  have kr := k.2.2.1
  refine J_istore o dX11_whyNot_212 (Nat.le_of_ble_eq_true rfl) ?_
  exact t_Re_whyNot_214 k r_x1 r_x2 r_x3 r_x4 r_x6 r_s0 r_x8 hf hc
noncomputable def f_Re_whyNot_196 (w : World) (x1 : Int) (x2 : Int) (x3 : Int) (x4 : Int) (x7 : Int) (x8 : Int) (x9 : Int) (s0 : Int) : Option ((World × Int × Int × Int) ⊕ (World × Int)) :=
  if x9 ≤ x7 then (f_Re_whyNot_212 w x1 x2 x3 x4 s0 x8 x7) else (f_Re_whyNot_212 w x1 x2 x3 x4 s0 x8 x9)
theorem t_Re_whyNot_196 {E : EE} {K : KT} {l : Launch} {H0 : Heap} (k : Kof TB E K l cX11_whyNot RX11 rm_Re_whyNot) {w : World} {x1 : Int} {x2 : Int} {x3 : Int} {x4 : Int} {x7 : Int} {x8 : Int} {x9 : Int} {s0 : Int} {o5 o6 : Option Value} (r_x1 : R32 x1) (r_x2 : R32 x2) (r_x3 : R32 x3) (r_x4 : R32 x4) (r_x7 : R32 x7) (r_x8 : R32 x8) (r_x9 : R32 x9) (r_s0 : R32 s0) {out : ((World × Int × Int × Int) ⊕ (World × Int))} (hf : f_Re_whyNot_196 w x1 x2 x3 x4 x7 x8 x9 s0 = some out) (hc : (Sum.elim (HW_Re_whyNot_88 E K H0 x1 x2 x3 x4) (fun out : (World × Int) => RetI TB E K H0 cX11_whyNot out.1 out.2)) out) : Jj K (WdT TB E H0) w 196 [some (rf E.ad 1), some (.int (ii x1)), some (.int (ii x2)), some (.int (ii x3)), some (.int (ii x4)), o5, o6, some (.int (ii x7)), some (.int (ii x8)), some (.int (ii x9))] [.int (ii s0)] := by
  unfold f_Re_whyNot_196 at hf
  have o := k.1
  have g := k.2.1
  have kr := k.2.2.1
  refine J_istore o dX11_whyNot_196 (Nat.le_of_ble_eq_true rfl) ?_
  refine J_iload o dX11_whyNot_198 rfl ?_
  refine J_iload o dX11_whyNot_200 rfl ?_
  refine J_icmp_le 210 o dX11_whyNot_202 (by decide) r_x9 r_x7 (fun c1 => ?_) (fun c2 => ?_)
  · have hf := ite_t c1 hf
    refine J_iload o dX11_whyNot_210 rfl ?_
    exact t_Re_whyNot_212 k r_x1 r_x2 r_x3 r_x4 r_s0 r_x8 r_x7 hf hc
  · have hf := ite_f c2 hf
    refine J_iload o dX11_whyNot_205 rfl ?_
    refine J_goto 212 o dX11_whyNot_207 (by decide) ?_
    exact t_Re_whyNot_212 k r_x1 r_x2 r_x3 r_x4 r_s0 r_x8 r_x9 hf hc
noncomputable def f_Re_whyNot_182 (w : World) (x1 : Int) (x2 : Int) (x3 : Int) (x4 : Int) (x6 : Int) (x7 : Int) (x8 : Int) (x9 : Int) : Option ((World × Int × Int × Int) ⊕ (World × Int)) :=
  if x9 ≤ x7 then (f_Re_whyNot_196 w x1 x2 x3 x4 x7 x8 x9 x6) else (f_Re_whyNot_196 w x1 x2 x3 x4 x7 x8 x9 x8)
theorem t_Re_whyNot_182 {E : EE} {K : KT} {l : Launch} {H0 : Heap} (k : Kof TB E K l cX11_whyNot RX11 rm_Re_whyNot) {w : World} {x1 : Int} {x2 : Int} {x3 : Int} {x4 : Int} {x6 : Int} {x7 : Int} {x8 : Int} {x9 : Int} {o5 : Option Value} (r_x1 : R32 x1) (r_x2 : R32 x2) (r_x3 : R32 x3) (r_x4 : R32 x4) (r_x6 : R32 x6) (r_x7 : R32 x7) (r_x8 : R32 x8) (r_x9 : R32 x9) {out : ((World × Int × Int × Int) ⊕ (World × Int))} (hf : f_Re_whyNot_182 w x1 x2 x3 x4 x6 x7 x8 x9 = some out) (hc : (Sum.elim (HW_Re_whyNot_88 E K H0 x1 x2 x3 x4) (fun out : (World × Int) => RetI TB E K H0 cX11_whyNot out.1 out.2)) out) : Jj K (WdT TB E H0) w 182 [some (rf E.ad 1), some (.int (ii x1)), some (.int (ii x2)), some (.int (ii x3)), some (.int (ii x4)), o5, some (.int (ii x6)), some (.int (ii x7)), some (.int (ii x8)), some (.int (ii x9))] [] := by
  unfold f_Re_whyNot_182 at hf
  have o := k.1
  have g := k.2.1
  have kr := k.2.2.1
  refine J_iload o dX11_whyNot_182 rfl ?_
  refine J_iload o dX11_whyNot_184 rfl ?_
  refine J_icmp_le 194 o dX11_whyNot_186 (by decide) r_x9 r_x7 (fun c1 => ?_) (fun c2 => ?_)
  · have hf := ite_t c1 hf
    refine J_iload o dX11_whyNot_194 rfl ?_
    exact t_Re_whyNot_196 k r_x1 r_x2 r_x3 r_x4 r_x7 r_x8 r_x9 r_x6 hf hc
  · have hf := ite_f c2 hf
    refine J_iload o dX11_whyNot_189 rfl ?_
    refine J_goto 196 o dX11_whyNot_191 (by decide) ?_
    exact t_Re_whyNot_196 k r_x1 r_x2 r_x3 r_x4 r_x7 r_x8 r_x9 r_x8 hf hc
noncomputable def f_Re_whyNot_134B (w : World) (x1 : Int) (x2 : Int) (x3 : Int) (x4 : Int) (x6 : Int) (x7 : Int) (x8 : Int) (x9 : Int) : Option ((World × Int) ⊕ ((World × Int × Int × Int) ⊕ (World × Int))) :=
  gd (0 ≤ x8 ∧ x8 < 19) (if (w 16 x8.toNat) ≤ x9 then (bnd (f_Re_whyNot_182 w x1 x2 x3 x4 x6 x7 x8 x9) fun y5 => some (Sum.inr y5)) else (bnd (f_Re_giveHead w x8 x2 x3 x4) fun v7 => if v7.2 = 0 then (bnd (f_Re_whyNot_182 v7.1 x1 x2 x3 x4 x6 x7 x8 x9) fun y11 => some (Sum.inr y11)) else (bnd (f_Re_next v7.1 x8 (wr (x9 + 1)) (v7.1 1 1)) fun v14 => if v14.2 = 0 then (bnd (f_Re_whyNot_182 v14.1 x1 x2 x3 x4 x6 x7 x8 x9) fun y18 => some (Sum.inr y18)) else (bl (wr (x9 + 1)) fun n19 => some (Sum.inl (v14.1, n19))))))
theorem t_Re_whyNot_134B {E : EE} {K : KT} {l : Launch} {H0 : Heap} (k : Kof TB E K l cX11_whyNot RX11 rm_Re_whyNot) {w : World} {x1 : Int} {x2 : Int} {x3 : Int} {x4 : Int} {x6 : Int} {x7 : Int} {x8 : Int} {x9 : Int} {o5 : Option Value} (r_x1 : R32 x1) (r_x2 : R32 x2) (r_x3 : R32 x3) (r_x4 : R32 x4) (r_x6 : R32 x6) (r_x7 : R32 x7) (r_x8 : R32 x8) (r_x9 : R32 x9) {out : ((World × Int) ⊕ ((World × Int × Int × Int) ⊕ (World × Int)))} (hf : f_Re_whyNot_134B w x1 x2 x3 x4 x6 x7 x8 x9 = some out) (hc : (Sum.elim (HW_Re_whyNot_134 E K H0 x1 x2 x3 x4 x6 x7 x8) (Sum.elim (HW_Re_whyNot_88 E K H0 x1 x2 x3 x4) (fun out : (World × Int) => RetI TB E K H0 cX11_whyNot out.1 out.2))) out) : Jj K (WdT TB E H0) w 134 [some (rf E.ad 1), some (.int (ii x1)), some (.int (ii x2)), some (.int (ii x3)), some (.int (ii x4)), o5, some (.int (ii x6)), some (.int (ii x7)), some (.int (ii x8)), some (.int (ii x9))] [] := by
  unfold f_Re_whyNot_134B at hf
  have o := k.1
  have g := k.2.1
  have kr := k.2.2.1
  refine J_iload o dX11_whyNot_134 rfl ?_
  refine J_aload_n o dX11_whyNot_136 rfl ?_
  refine J_getF (true, 16) o g dX11_whyNot_137 flX11_53 kB_1 rfl rfl rfl ?_
  refine J_iload o dX11_whyNot_140 rfl ?_
  obtain ⟨g1, hf⟩ := gd_some hf
  refine J_iald o g dX11_whyNot_142 kB_16 r_x8 zB_16 g1 (fun q2 => ?_)
  refine J_icmp_ge 182 o dX11_whyNot_143 (by decide) r_x9 q2 (fun c3 => ?_) (fun c4 => ?_)
  · have hf := ite_t c3 hf
    obtain ⟨y5, hf1, hf⟩ := bnd_some hf
    have hf := some_inj hf
    subst hf
    exact t_Re_whyNot_182 k r_x1 r_x2 r_x3 r_x4 r_x6 r_x7 r_x8 r_x9 hf1 hc
  · have hf := ite_f c4 hf
    refine J_aload_n o dX11_whyNot_146 rfl ?_
    refine J_iload o dX11_whyNot_147 rfl ?_
    refine J_iload_n o dX11_whyNot_149 rfl ?_
    refine J_iload_n o dX11_whyNot_150 rfl ?_
    refine J_iload o dX11_whyNot_151 rfl ?_
    obtain ⟨v7, e6, hf⟩ := bnd_some hf
    refine J_vI o g kr dX11_whyNot_153 lkX11_274 ml_Re_giveHead vl_Re_giveHead ⟨rfl, rfl, Nat.le_of_ble_eq_true rfl, Nat.le_of_ble_eq_true rfl⟩ (c_Re_giveHead g.2.1 r_x8 r_x2 r_x3 r_x4 e6) kB_1 rfl ⟨by decide, by decide⟩ rfl rfl c1s_0 (fun q8 => ?_)
    refine J_if_eq 182 o dX11_whyNot_156 (by decide) q8 (fun c9 => ?_) (fun c10 => ?_)
    · have hf := ite_t c9 hf
      obtain ⟨y11, hf1, hf⟩ := bnd_some hf
      have hf := some_inj hf
      subst hf
      exact t_Re_whyNot_182 k r_x1 r_x2 r_x3 r_x4 r_x6 r_x7 r_x8 r_x9 hf1 hc
    · have hf := ite_f c10 hf
      refine J_aload_n o dX11_whyNot_159 rfl ?_
      refine J_iload o dX11_whyNot_160 rfl ?_
      refine J_iload o dX11_whyNot_162 rfl ?_
      refine J_iconst o dX11_whyNot_164 ?_
      refine J_iadd o dX11_whyNot_165 ?_
      refine J_aload_n o dX11_whyNot_166 rfl ?_
      refine J_getI o g dX11_whyNot_167 flX11_131 kB_1 rfl (fun q12 => ?_)
      obtain ⟨v14, e13, hf⟩ := bnd_some hf
      refine J_vI o g kr dX11_whyNot_170 lkX11_237 ml_Re_next vl_Re_next ⟨rfl, rfl, Nat.le_of_ble_eq_true rfl, Nat.le_of_ble_eq_true rfl⟩ (c_Re_next g.2.1 r_x8 (R_wr _) q12 e13) kB_1 rfl ⟨by decide, by decide⟩ rfl rfl c1s_0 (fun q15 => ?_)
      refine J_if_eq 182 o dX11_whyNot_173 (by decide) q15 (fun c16 => ?_) (fun c17 => ?_)
      · have hf := ite_t c16 hf
        obtain ⟨y18, hf1, hf⟩ := bnd_some hf
        have hf := some_inj hf
        subst hf
        exact t_Re_whyNot_182 k r_x1 r_x2 r_x3 r_x4 r_x6 r_x7 r_x8 r_x9 hf1 hc
      · have hf := ite_f c17 hf
        have hf := bl_out hf
        refine J_iinc o dX11_whyNot_176 rfl ?_
        refine J_goto 134 o dX11_whyNot_179 (by decide) ?_
        have hf := some_inj hf
        subst hf
        exact hc (R_wr _) _
noncomputable def f_Re_whyNot_134 (w : World) (x1 : Int) (x2 : Int) (x3 : Int) (x4 : Int) (x6 : Int) (x7 : Int) (x8 : Int) (x9 : Int) : Option ((World × Int × Int × Int) ⊕ (World × Int)) :=
  lp (fun z : (World × Int) => f_Re_whyNot_134B z.1 x1 x2 x3 x4 x6 x7 x8 z.2) (w, x9)
theorem t_Re_whyNot_134 {E : EE} {K : KT} {l : Launch} {H0 : Heap} (k : Kof TB E K l cX11_whyNot RX11 rm_Re_whyNot) {w : World} {x1 : Int} {x2 : Int} {x3 : Int} {x4 : Int} {x6 : Int} {x7 : Int} {x8 : Int} {x9 : Int} (r_x1 : R32 x1) (r_x2 : R32 x2) (r_x3 : R32 x3) (r_x4 : R32 x4) (r_x6 : R32 x6) (r_x7 : R32 x7) (r_x8 : R32 x8) {out : ((World × Int × Int × Int) ⊕ (World × Int))} (hf : f_Re_whyNot_134 w x1 x2 x3 x4 x6 x7 x8 x9 = some out) (hc : (Sum.elim (HW_Re_whyNot_88 E K H0 x1 x2 x3 x4) (fun out : (World × Int) => RetI TB E K H0 cX11_whyNot out.1 out.2)) out) : HW_Re_whyNot_134 E K H0 x1 x2 x3 x4 x6 x7 x8 (w, x9) := by
  unfold f_Re_whyNot_134 at hf
  refine lp_ind (P := HW_Re_whyNot_134 E K H0 x1 x2 x3 x4 x6 x7 x8) hf ?_
  intro z o hs h1 h2
  intro r_x9
  intro o5
  refine t_Re_whyNot_134B k r_x1 r_x2 r_x3 r_x4 r_x6 r_x7 r_x8 r_x9 hs ?_
  cases o with
  | inl z' => exact h1 z' rfl
  | inr r' => rw [h2 r' rfl]; exact hc
noncomputable def f_Re_whyNot_88B (w : World) (x1 : Int) (x2 : Int) (x3 : Int) (x4 : Int) (x6 : Int) (x7 : Int) (x8 : Int) : Option ((World × Int × Int × Int) ⊕ (World × Int)) :=
  if (w 1 14) ≤ x8 then (if x6 = (-1) then (some (Sum.inr (w, (-1)))) else (some (Sum.inr (w, wr ((wr (10 * x6)) + x7))))) else (gd (0 ≤ x8 ∧ x8 < 12) (if (w 13 x8.toNat) = 0 then (gd (0 ≤ x8 ∧ x8 < 19) (if (w 14 x8.toNat) = x1 then (bnd (f_Re_giveHead w x8 x2 x3 x4) fun v15 => if v15.2 = 0 then (f_Re_whyNot_214 v15.1 x1 x2 x3 x4 x6 x7 x8) else (f_Re_whyNot_134 v15.1 x1 x2 x3 x4 x6 x7 x8 0)) else (f_Re_whyNot_214 w x1 x2 x3 x4 x6 x7 x8))) else (f_Re_whyNot_214 w x1 x2 x3 x4 x6 x7 x8)))
theorem t_Re_whyNot_88B {E : EE} {K : KT} {l : Launch} {H0 : Heap} (k : Kof TB E K l cX11_whyNot RX11 rm_Re_whyNot) {w : World} {x1 : Int} {x2 : Int} {x3 : Int} {x4 : Int} {x6 : Int} {x7 : Int} {x8 : Int} {o5 o9 : Option Value} (r_x1 : R32 x1) (r_x2 : R32 x2) (r_x3 : R32 x3) (r_x4 : R32 x4) (r_x6 : R32 x6) (r_x7 : R32 x7) (r_x8 : R32 x8) {out : ((World × Int × Int × Int) ⊕ (World × Int))} (hf : f_Re_whyNot_88B w x1 x2 x3 x4 x6 x7 x8 = some out) (hc : (Sum.elim (HW_Re_whyNot_88 E K H0 x1 x2 x3 x4) (fun out : (World × Int) => RetI TB E K H0 cX11_whyNot out.1 out.2)) out) : Jj K (WdT TB E H0) w 88 [some (rf E.ad 1), some (.int (ii x1)), some (.int (ii x2)), some (.int (ii x3)), some (.int (ii x4)), o5, some (.int (ii x6)), some (.int (ii x7)), some (.int (ii x8)), o9] [] := by
  unfold f_Re_whyNot_88B at hf
  have o := k.1
  have g := k.2.1
  have kr := k.2.2.1
  refine J_iload o dX11_whyNot_88 rfl ?_
  refine J_aload_n o dX11_whyNot_90 rfl ?_
  refine J_getI o g dX11_whyNot_91 flX11_159 kB_1 rfl (fun q1 => ?_)
  refine J_icmp_ge 220 o dX11_whyNot_94 (by decide) r_x8 q1 (fun c2 => ?_) (fun c3 => ?_)
  · have hf := ite_t c2 hf
    refine J_iload o dX11_whyNot_220 rfl ?_
    refine J_iconst o dX11_whyNot_222 ?_
    refine J_icmp_ne 230 o dX11_whyNot_223 (by decide) r_x6 rlm1 (fun c4 => ?_) (fun c5 => ?_)
    · have hf := ite_f c4 hf
      refine J_bipush o dX11_whyNot_230 (by decide) ?_
      refine J_iload o dX11_whyNot_232 rfl ?_
      refine J_imul o dX11_whyNot_234 ?_
      refine J_iload o dX11_whyNot_235 rfl ?_
      refine J_iadd o dX11_whyNot_237 ?_
      have hf := some_inj hf
      subst hf
      exact hc _ _ (R_wr _) dX11_whyNot_238
    · have hf := ite_t c5 hf
      refine J_iconst o dX11_whyNot_226 ?_
      refine J_goto 238 o dX11_whyNot_227 (by decide) ?_
      have hf := some_inj hf
      subst hf
      exact hc _ _ rlm1 dX11_whyNot_238
  · have hf := ite_f c3 hf
    refine J_aload_n o dX11_whyNot_97 rfl ?_
    refine J_getF (true, 13) o g dX11_whyNot_98 flX11_44 kB_1 rfl rfl rfl ?_
    refine J_iload o dX11_whyNot_101 rfl ?_
    obtain ⟨g6, hf⟩ := gd_some hf
    refine J_zald o g dX11_whyNot_103 kB_13 r_x8 zB_13 g6 (fun q7 => ?_)
    refine J_if_ne 214 o dX11_whyNot_104 (by decide) q7 (fun c8 => ?_) (fun c9 => ?_)
    · have hf := ite_f c8 hf
      exact t_Re_whyNot_214 k r_x1 r_x2 r_x3 r_x4 r_x6 r_x7 r_x8 hf hc
    · have hf := ite_t c9 hf
      refine J_aload_n o dX11_whyNot_107 rfl ?_
      refine J_getF (true, 14) o g dX11_whyNot_108 flX11_47 kB_1 rfl rfl rfl ?_
      refine J_iload o dX11_whyNot_111 rfl ?_
      obtain ⟨g10, hf⟩ := gd_some hf
      refine J_iald o g dX11_whyNot_113 kB_14 r_x8 zB_14 g10 (fun q11 => ?_)
      refine J_iload_n o dX11_whyNot_114 rfl ?_
      refine J_icmp_ne 214 o dX11_whyNot_115 (by decide) q11 r_x1 (fun c12 => ?_) (fun c13 => ?_)
      · have hf := ite_f c12 hf
        exact t_Re_whyNot_214 k r_x1 r_x2 r_x3 r_x4 r_x6 r_x7 r_x8 hf hc
      · have hf := ite_t c13 hf
        refine J_aload_n o dX11_whyNot_118 rfl ?_
        refine J_iload o dX11_whyNot_119 rfl ?_
        refine J_iload_n o dX11_whyNot_121 rfl ?_
        refine J_iload_n o dX11_whyNot_122 rfl ?_
        refine J_iload o dX11_whyNot_123 rfl ?_
        obtain ⟨v15, e14, hf⟩ := bnd_some hf
        refine J_vI o g kr dX11_whyNot_125 lkX11_274 ml_Re_giveHead vl_Re_giveHead ⟨rfl, rfl, Nat.le_of_ble_eq_true rfl, Nat.le_of_ble_eq_true rfl⟩ (c_Re_giveHead g.2.1 r_x8 r_x2 r_x3 r_x4 e14) kB_1 rfl ⟨by decide, by decide⟩ rfl rfl c1s_0 (fun q16 => ?_)
        refine J_if_eq 214 o dX11_whyNot_128 (by decide) q16 (fun c17 => ?_) (fun c18 => ?_)
        · have hf := ite_t c17 hf
          exact t_Re_whyNot_214 k r_x1 r_x2 r_x3 r_x4 r_x6 r_x7 r_x8 hf hc
        · have hf := ite_f c18 hf
          refine J_iconst o dX11_whyNot_131 ?_
          refine J_istore o dX11_whyNot_132 (Nat.le_of_ble_eq_true rfl) ?_
          exact (t_Re_whyNot_134 k r_x1 r_x2 r_x3 r_x4 r_x6 r_x7 r_x8 hf hc) rl0 _
noncomputable def f_Re_whyNot_88 (w : World) (x1 : Int) (x2 : Int) (x3 : Int) (x4 : Int) (x6 : Int) (x7 : Int) (x8 : Int) : Option (World × Int) :=
  lp (fun z : (World × Int × Int × Int) => f_Re_whyNot_88B z.1 x1 x2 x3 x4 z.2.1 z.2.2.1 z.2.2.2) (w, x6, x7, x8)
theorem t_Re_whyNot_88 {E : EE} {K : KT} {l : Launch} {H0 : Heap} (k : Kof TB E K l cX11_whyNot RX11 rm_Re_whyNot) {w : World} {x1 : Int} {x2 : Int} {x3 : Int} {x4 : Int} {x6 : Int} {x7 : Int} {x8 : Int} (r_x1 : R32 x1) (r_x2 : R32 x2) (r_x3 : R32 x3) (r_x4 : R32 x4) {out : (World × Int)} (hf : f_Re_whyNot_88 w x1 x2 x3 x4 x6 x7 x8 = some out) (hc : (fun out : (World × Int) => RetI TB E K H0 cX11_whyNot out.1 out.2) out) : HW_Re_whyNot_88 E K H0 x1 x2 x3 x4 (w, x6, x7, x8) := by
  unfold f_Re_whyNot_88 at hf
  refine lp_ind (P := HW_Re_whyNot_88 E K H0 x1 x2 x3 x4) hf ?_
  intro z o hs h1 h2
  intro r_x6 r_x7 r_x8
  intro o5 o9
  refine t_Re_whyNot_88B k r_x1 r_x2 r_x3 r_x4 r_x6 r_x7 r_x8 hs ?_
  cases o with
  | inl z' => exact h1 z' rfl
  | inr r' => rw [h2 r' rfl]; exact hc
noncomputable def f_Re_whyNot_71 (w : World) (x1 : Int) (x2 : Int) (x3 : Int) (x4 : Int) (s1 : Int) : Option (World × Int) :=
  bnd (f_Re_refused w s1) fun v2 => if v2.2 = 0 then (f_Re_whyNot_88 v2.1 x1 x2 x3 x4 (-1) (-1) 0) else (some (v2.1, 0))
theorem t_Re_whyNot_71 {E : EE} {K : KT} {l : Launch} {H0 : Heap} (k : Kof TB E K l cX11_whyNot RX11 rm_Re_whyNot) {w : World} {x1 : Int} {x2 : Int} {x3 : Int} {x4 : Int} {s1 : Int} {o5 o6 o7 o8 o9 : Option Value} (r_x1 : R32 x1) (r_x2 : R32 x2) (r_x3 : R32 x3) (r_x4 : R32 x4) (r_s1 : R32 s1) {out : (World × Int)} (hf : f_Re_whyNot_71 w x1 x2 x3 x4 s1 = some out) (hc : (fun out : (World × Int) => RetI TB E K H0 cX11_whyNot out.1 out.2) out) : Jj K (WdT TB E H0) w 71 [some (rf E.ad 1), some (.int (ii x1)), some (.int (ii x2)), some (.int (ii x3)), some (.int (ii x4)), o5, o6, o7, o8, o9] [.int (ii s1), rf E.ad 1] := by
  unfold f_Re_whyNot_71 at hf
  have o := k.1
  have g := k.2.1
  have kr := k.2.2.1
  obtain ⟨v2, e1, hf⟩ := bnd_some hf
  refine J_vI o g kr dX11_whyNot_71 lkX11_113 ml_Re_refused vl_Re_refused ⟨rfl, rfl, Nat.le_of_ble_eq_true rfl, Nat.le_of_ble_eq_true rfl⟩ (c_Re_refused g.2.1 r_s1 e1) kB_1 rfl ⟨by decide, by decide⟩ rfl rfl c1s_0 (fun q3 => ?_)
  refine J_if_eq 79 o dX11_whyNot_74 (by decide) q3 (fun c4 => ?_) (fun c5 => ?_)
  · have hf := ite_t c4 hf
    refine J_iconst o dX11_whyNot_79 ?_
    refine J_istore o dX11_whyNot_80 (Nat.le_of_ble_eq_true rfl) ?_
    refine J_iconst o dX11_whyNot_82 ?_
    refine J_istore o dX11_whyNot_83 (Nat.le_of_ble_eq_true rfl) ?_
    refine J_iconst o dX11_whyNot_85 ?_
    refine J_istore o dX11_whyNot_86 (Nat.le_of_ble_eq_true rfl) ?_
    exact (t_Re_whyNot_88 k r_x1 r_x2 r_x3 r_x4 hf hc) rlm1 rlm1 rl0 _ _
  · have hf := ite_f c5 hf
    refine J_iconst o dX11_whyNot_77 ?_
    have hf := some_inj hf
    subst hf
    exact hc _ _ rl0 dX11_whyNot_78
noncomputable def f_Re_whyNot_26 (w : World) (x1 : Int) (x2 : Int) (x3 : Int) (x4 : Int) (s0 : Int) : Option (World × Int) :=
  bnd (f_Re_isRelation w x1) fun v2 => if v2 = 0 then (f_Re_whyNot_71 w x1 x2 x3 x4 1) else (if s0 = 0 then (f_Re_whyNot_71 w x1 x2 x3 x4 2) else (bnd (f_Re_hasTuple w (w 1 1) x1 x2 x3 x4) fun v10 => if v10 = 0 then (f_Re_whyNot_71 w x1 x2 x3 x4 0) else (f_Re_whyNot_71 w x1 x2 x3 x4 3)))
theorem t_Re_whyNot_26 {E : EE} {K : KT} {l : Launch} {H0 : Heap} (k : Kof TB E K l cX11_whyNot RX11 rm_Re_whyNot) {w : World} {x1 : Int} {x2 : Int} {x3 : Int} {x4 : Int} {s0 : Int} {o5 o6 o7 o8 o9 : Option Value} (r_x1 : R32 x1) (r_x2 : R32 x2) (r_x3 : R32 x3) (r_x4 : R32 x4) (r_s0 : R32 s0) {out : (World × Int)} (hf : f_Re_whyNot_26 w x1 x2 x3 x4 s0 = some out) (hc : (fun out : (World × Int) => RetI TB E K H0 cX11_whyNot out.1 out.2) out) : Jj K (WdT TB E H0) w 26 [some (rf E.ad 1), some (.int (ii x1)), some (.int (ii x2)), some (.int (ii x3)), some (.int (ii x4)), o5, o6, o7, o8, o9] [.int (ii s0)] := by
  unfold f_Re_whyNot_26 at hf
  have o := k.1
  have g := k.2.1
  have kr := k.2.2.1
  refine J_istore o dX11_whyNot_26 (Nat.le_of_ble_eq_true rfl) ?_
  refine J_aload_n o dX11_whyNot_28 rfl ?_
  refine J_aload_n o dX11_whyNot_29 rfl ?_
  refine J_iload_n o dX11_whyNot_30 rfl ?_
  obtain ⟨v2, e1, hf⟩ := bnd_some hf
  refine J_vI o g kr dX11_whyNot_31 lkX11_117 ml_Re_isRelation vl_Re_isRelation ⟨rfl, rfl, Nat.le_of_ble_eq_true rfl, Nat.le_of_ble_eq_true rfl⟩ (c_Re_isRelation g.2.1 r_x1 e1) kB_1 rfl ⟨by decide, by decide⟩ rfl rfl (c1s_r c1s_0 (Nat.le_of_ble_eq_true rfl)) (fun q3 => ?_)
  refine J_if_ne 41 o dX11_whyNot_34 (by decide) q3 (fun c4 => ?_) (fun c5 => ?_)
  · have hf := ite_f c4 hf
    refine J_iload o dX11_whyNot_41 rfl ?_
    refine J_if_ne 50 o dX11_whyNot_43 (by decide) r_s0 (fun c6 => ?_) (fun c7 => ?_)
    · have hf := ite_f c6 hf
      refine J_aload_n o dX11_whyNot_50 rfl ?_
      refine J_aload_n o dX11_whyNot_51 rfl ?_
      refine J_getI o g dX11_whyNot_52 flX11_131 kB_1 rfl (fun q8 => ?_)
      refine J_iload_n o dX11_whyNot_55 rfl ?_
      refine J_iload_n o dX11_whyNot_56 rfl ?_
      refine J_iload_n o dX11_whyNot_57 rfl ?_
      refine J_iload o dX11_whyNot_58 rfl ?_
      obtain ⟨v10, e9, hf⟩ := bnd_some hf
      refine J_vI o g kr dX11_whyNot_60 lkX11_249 ml_Re_hasTuple vl_Re_hasTuple ⟨rfl, rfl, Nat.le_of_ble_eq_true rfl, Nat.le_of_ble_eq_true rfl⟩ (c_Re_hasTuple g.2.1 q8 r_x1 r_x2 r_x3 r_x4 e9) kB_1 rfl ⟨by decide, by decide⟩ rfl rfl (c1s_r c1s_0 (Nat.le_of_ble_eq_true rfl)) (fun q11 => ?_)
      refine J_if_eq 70 o dX11_whyNot_63 (by decide) q11 (fun c12 => ?_) (fun c13 => ?_)
      · have hf := ite_t c12 hf
        refine J_iconst o dX11_whyNot_70 ?_
        exact t_Re_whyNot_71 k r_x1 r_x2 r_x3 r_x4 rl0 hf hc
      · have hf := ite_f c13 hf
        refine J_iconst o dX11_whyNot_66 ?_
        refine J_goto 71 o dX11_whyNot_67 (by decide) ?_
        exact t_Re_whyNot_71 k r_x1 r_x2 r_x3 r_x4 rl3 hf hc
    · have hf := ite_t c7 hf
      refine J_iconst o dX11_whyNot_46 ?_
      refine J_goto 71 o dX11_whyNot_47 (by decide) ?_
      exact t_Re_whyNot_71 k r_x1 r_x2 r_x3 r_x4 rl2 hf hc
  · have hf := ite_t c5 hf
    refine J_iconst o dX11_whyNot_37 ?_
    refine J_goto 71 o dX11_whyNot_38 (by decide) ?_
    exact t_Re_whyNot_71 k r_x1 r_x2 r_x3 r_x4 rl1 hf hc
noncomputable def f_Re_whyNot_25 (w : World) (x1 : Int) (x2 : Int) (x3 : Int) (x4 : Int) : Option (World × Int) :=
  f_Re_whyNot_26 w x1 x2 x3 x4 0
theorem t_Re_whyNot_25 {E : EE} {K : KT} {l : Launch} {H0 : Heap} (k : Kof TB E K l cX11_whyNot RX11 rm_Re_whyNot) {w : World} {x1 : Int} {x2 : Int} {x3 : Int} {x4 : Int} {o5 o6 o7 o8 o9 : Option Value} (r_x1 : R32 x1) (r_x2 : R32 x2) (r_x3 : R32 x3) (r_x4 : R32 x4) {out : (World × Int)} (hf : f_Re_whyNot_25 w x1 x2 x3 x4 = some out) (hc : (fun out : (World × Int) => RetI TB E K H0 cX11_whyNot out.1 out.2) out) : Jj K (WdT TB E H0) w 25 [some (rf E.ad 1), some (.int (ii x1)), some (.int (ii x2)), some (.int (ii x3)), some (.int (ii x4)), o5, o6, o7, o8, o9] [] := by
  unfold f_Re_whyNot_25 at hf
  have o := k.1
  have g := k.2.1
  have kr := k.2.2.1
  refine J_iconst o dX11_whyNot_25 ?_
  exact t_Re_whyNot_26 k r_x1 r_x2 r_x3 r_x4 rl0 hf hc
noncomputable def f_Re_whyNot (w : World) (x1 : Int) (x2 : Int) (x3 : Int) (x4 : Int) : Option (World × Int) :=
  bnd (f_Re_isRelation w x1) fun v2 => if v2 = 0 then (f_Re_whyNot_25 w x1 x2 x3 x4) else (bnd (f_Re_areValues w x1 x2 x3 x4 0) fun v7 => if v7 = 0 then (f_Re_whyNot_25 w x1 x2 x3 x4) else (f_Re_whyNot_26 w x1 x2 x3 x4 1))
theorem t_Re_whyNot_0 {E : EE} {K : KT} {l : Launch} {H0 : Heap} (k : Kof TB E K l cX11_whyNot RX11 rm_Re_whyNot) {w : World} {x1 : Int} {x2 : Int} {x3 : Int} {x4 : Int} {o5 o6 o7 o8 o9 : Option Value} (r_x1 : R32 x1) (r_x2 : R32 x2) (r_x3 : R32 x3) (r_x4 : R32 x4) {out : (World × Int)} (hf : f_Re_whyNot w x1 x2 x3 x4 = some out) (hc : (fun out : (World × Int) => RetI TB E K H0 cX11_whyNot out.1 out.2) out) : Jj K (WdT TB E H0) w 0 [some (rf E.ad 1), some (.int (ii x1)), some (.int (ii x2)), some (.int (ii x3)), some (.int (ii x4)), o5, o6, o7, o8, o9] [] := by
  unfold f_Re_whyNot at hf
  have o := k.1
  have g := k.2.1
  have kr := k.2.2.1
  refine J_aload_n o dX11_whyNot_0 rfl ?_
  refine J_iload_n o dX11_whyNot_1 rfl ?_
  obtain ⟨v2, e1, hf⟩ := bnd_some hf
  refine J_vI o g kr dX11_whyNot_2 lkX11_117 ml_Re_isRelation vl_Re_isRelation ⟨rfl, rfl, Nat.le_of_ble_eq_true rfl, Nat.le_of_ble_eq_true rfl⟩ (c_Re_isRelation g.2.1 r_x1 e1) kB_1 rfl ⟨by decide, by decide⟩ rfl rfl c1s_0 (fun q3 => ?_)
  refine J_if_eq 25 o dX11_whyNot_5 (by decide) q3 (fun c4 => ?_) (fun c5 => ?_)
  · have hf := ite_t c4 hf
    exact t_Re_whyNot_25 k r_x1 r_x2 r_x3 r_x4 hf hc
  · have hf := ite_f c5 hf
    refine J_aload_n o dX11_whyNot_8 rfl ?_
    refine J_iload_n o dX11_whyNot_9 rfl ?_
    refine J_iload_n o dX11_whyNot_10 rfl ?_
    refine J_iload_n o dX11_whyNot_11 rfl ?_
    refine J_iload o dX11_whyNot_12 rfl ?_
    refine J_iconst o dX11_whyNot_14 ?_
    obtain ⟨v7, e6, hf⟩ := bnd_some hf
    refine J_vI o g kr dX11_whyNot_15 lkX11_120 ml_Re_areValues vl_Re_areValues ⟨rfl, rfl, Nat.le_of_ble_eq_true rfl, Nat.le_of_ble_eq_true rfl⟩ (c_Re_areValues g.2.1 r_x1 r_x2 r_x3 r_x4 rl0 e6) kB_1 rfl ⟨by decide, by decide⟩ rfl rfl c1s_0 (fun q8 => ?_)
    refine J_if_eq 25 o dX11_whyNot_18 (by decide) q8 (fun c9 => ?_) (fun c10 => ?_)
    · have hf := ite_t c9 hf
      exact t_Re_whyNot_25 k r_x1 r_x2 r_x3 r_x4 hf hc
    · have hf := ite_f c10 hf
      refine J_iconst o dX11_whyNot_21 ?_
      refine J_goto 26 o dX11_whyNot_22 (by decide) ?_
      exact t_Re_whyNot_26 k r_x1 r_x2 r_x3 r_x4 rl1 hf hc
theorem c_Re_whyNot {E : EE} {l : Launch} (hI : Inj TB E) {w : World} {x1 : Int} {x2 : Int} {x3 : Int} {x4 : Int} (r_x1 : R32 x1) (r_x2 : R32 x2) (r_x3 : R32 x3) (r_x4 : R32 x4) {out : (World × Int)} (hf : f_Re_whyNot w x1 x2 x3 x4 = some out) : ConI TB E l yX11_whyNot (WS yX11_whyNot cX11_whyNot 10 (some .int)) rm_Re_whyNot [rf E.ad 1, .int (ii x1), .int (ii x2), .int (ii x3), .int (ii x4)] w out.1 out.2 :=
  con_I (by decide +kernel) rfl (Nat.le_of_ble_eq_true rfl) (c1s_r (c1s_i (c1s_i (c1s_i (c1s_i c1s_0 (Nat.le_of_ble_eq_true rfl)) (Nat.le_of_ble_eq_true rfl)) (Nat.le_of_ble_eq_true rfl)) (Nat.le_of_ble_eq_true rfl)) (Nat.le_of_ble_eq_true rfl)).1 ⟨rfl, rfl⟩ hI TnB (fun K H0 k hret => t_Re_whyNot_0 k r_x1 r_x2 r_x3 r_x4 hf hret)
abbrev rm_Re_isKeyBroken : Room := { frames := 1, cells := 0, slots := 0, locals := 24 }
def HW_Re_isKeyBroken_5 (E : EE) (K : KT) (H0 : Heap) (w : World) (x1 : Int) (x2 : Int) : (Int × Int) → Prop := fun z => R32 z.1 → R32 z.2 → ∀ o5 o6 o7 o8 o9 : Option Value, Jj K (WdT TB E H0) w 5 [some (rf E.ad 1), some (.int (ii x1)), some (.int (ii x2)), some (.int (ii z.1)), some (.int (ii z.2)), o5, o6, o7, o8, o9] []
def HW_Re_isKeyBroken_19 (E : EE) (K : KT) (H0 : Heap) (w : World) (x1 : Int) (x2 : Int) (x4 : Int) : (Int × Int) → Prop := fun z => R32 z.1 → R32 z.2 → ∀ o6 o7 o8 o9 : Option Value, Jj K (WdT TB E H0) w 19 [some (rf E.ad 1), some (.int (ii x1)), some (.int (ii x2)), some (.int (ii z.1)), some (.int (ii x4)), some (.int (ii z.2)), o6, o7, o8, o9] []
def HW_Re_isKeyBroken_76 (E : EE) (K : KT) (H0 : Heap) (w : World) (x1 : Int) (x2 : Int) (x3 : Int) (x4 : Int) (x5 : Int) (x6 : Int) (x7 : Int) : (Int × Int) → Prop := fun z => R32 z.1 → R32 z.2 → Jj K (WdT TB E H0) w 76 [some (rf E.ad 1), some (.int (ii x1)), some (.int (ii x2)), some (.int (ii x3)), some (.int (ii x4)), some (.int (ii x5)), some (.int (ii x6)), some (.int (ii x7)), some (.int (ii z.1)), some (.int (ii z.2))] []
noncomputable def f_Re_isKeyBroken_146 (w : World) (x1 : Int) (x2 : Int) (x4 : Int) (x5 : Int) (s0 : Int) : Option ((Int × Int) ⊕ ((Int × Int) ⊕ Int)) :=
  bl (wr (x5 + 1)) fun n1 => some (Sum.inl (s0, n1))
theorem t_Re_isKeyBroken_146 {E : EE} {K : KT} {l : Launch} {H0 : Heap} (k : Kof TB E K l cX11_isKeyBroken RX11 rm_Re_isKeyBroken) {w : World} {x1 : Int} {x2 : Int} {x4 : Int} {x5 : Int} {s0 : Int} {o3 o6 o7 o8 o9 : Option Value} (r_x1 : R32 x1) (r_x2 : R32 x2) (r_x4 : R32 x4) (r_x5 : R32 x5) (r_s0 : R32 s0) {out : ((Int × Int) ⊕ ((Int × Int) ⊕ Int))} (hf : f_Re_isKeyBroken_146 w x1 x2 x4 x5 s0 = some out) (hc : (Sum.elim (HW_Re_isKeyBroken_19 E K H0 w x1 x2 x4) (Sum.elim (HW_Re_isKeyBroken_5 E K H0 w x1 x2) (fun out : Int => RetZ TB E K H0 cX11_isKeyBroken w out))) out) : Jj K (WdT TB E H0) w 146 [some (rf E.ad 1), some (.int (ii x1)), some (.int (ii x2)), o3, some (.int (ii x4)), some (.int (ii x5)), o6, o7, o8, o9] [.int (ii s0)] := by
  unfold f_Re_isKeyBroken_146 at hf
  have o := k.1
  have g := k.2.1
  have kr := k.2.2.1
  refine J_istore_n o dX11_isKeyBroken_146 (Nat.le_of_ble_eq_true rfl) ?_
  have hf := bl_out hf
  refine J_iinc o dX11_isKeyBroken_147 rfl ?_
  refine J_goto 19 o dX11_isKeyBroken_150 (by decide) ?_
  have hf := some_inj hf
  subst hf
  exact hc r_s0 (R_wr _) _ _ _ _
noncomputable def f_Re_isKeyBroken_141 (w : World) (x1 : Int) (x2 : Int) (x4 : Int) (x5 : Int) : Option ((Int × Int) ⊕ ((Int × Int) ⊕ Int)) :=
  f_Re_isKeyBroken_146 w x1 x2 x4 x5 1
theorem t_Re_isKeyBroken_141 {E : EE} {K : KT} {l : Launch} {H0 : Heap} (k : Kof TB E K l cX11_isKeyBroken RX11 rm_Re_isKeyBroken) {w : World} {x1 : Int} {x2 : Int} {x4 : Int} {x5 : Int} {o3 o6 o7 o8 o9 : Option Value} (r_x1 : R32 x1) (r_x2 : R32 x2) (r_x4 : R32 x4) (r_x5 : R32 x5) {out : ((Int × Int) ⊕ ((Int × Int) ⊕ Int))} (hf : f_Re_isKeyBroken_141 w x1 x2 x4 x5 = some out) (hc : (Sum.elim (HW_Re_isKeyBroken_19 E K H0 w x1 x2 x4) (Sum.elim (HW_Re_isKeyBroken_5 E K H0 w x1 x2) (fun out : Int => RetZ TB E K H0 cX11_isKeyBroken w out))) out) : Jj K (WdT TB E H0) w 141 [some (rf E.ad 1), some (.int (ii x1)), some (.int (ii x2)), o3, some (.int (ii x4)), some (.int (ii x5)), o6, o7, o8, o9] [] := by
  unfold f_Re_isKeyBroken_141 at hf
  have o := k.1
  have g := k.2.1
  have kr := k.2.2.1
  refine J_iconst o dX11_isKeyBroken_141 ?_
  refine J_goto 146 o dX11_isKeyBroken_142 (by decide) ?_
  exact t_Re_isKeyBroken_146 k r_x1 r_x2 r_x4 r_x5 rl1 hf hc
noncomputable def f_Re_isKeyBroken_124 (w : World) (x1 : Int) (x2 : Int) (x3 : Int) (x4 : Int) (x5 : Int) (x6 : Int) (x7 : Int) (x9 : Int) (s0 : Int) : Option ((Int × Int) ⊕ ((Int × Int) ⊕ ((Int × Int) ⊕ Int))) :=
  bl (wr (x9 + 1)) fun n1 => some (Sum.inl (s0, n1))
theorem t_Re_isKeyBroken_124 {E : EE} {K : KT} {l : Launch} {H0 : Heap} (k : Kof TB E K l cX11_isKeyBroken RX11 rm_Re_isKeyBroken) {w : World} {x1 : Int} {x2 : Int} {x3 : Int} {x4 : Int} {x5 : Int} {x6 : Int} {x7 : Int} {x9 : Int} {s0 : Int} {o8 : Option Value} (r_x1 : R32 x1) (r_x2 : R32 x2) (r_x3 : R32 x3) (r_x4 : R32 x4) (r_x5 : R32 x5) (r_x6 : R32 x6) (r_x7 : R32 x7) (r_x9 : R32 x9) (r_s0 : R32 s0) {out : ((Int × Int) ⊕ ((Int × Int) ⊕ ((Int × Int) ⊕ Int)))} (hf : f_Re_isKeyBroken_124 w x1 x2 x3 x4 x5 x6 x7 x9 s0 = some out) (hc : (Sum.elim (HW_Re_isKeyBroken_76 E K H0 w x1 x2 x3 x4 x5 x6 x7) (Sum.elim (HW_Re_isKeyBroken_19 E K H0 w x1 x2 x4) (Sum.elim (HW_Re_isKeyBroken_5 E K H0 w x1 x2) (fun out : Int => RetZ TB E K H0 cX11_isKeyBroken w out)))) out) : Jj K (WdT TB E H0) w 124 [some (rf E.ad 1), some (.int (ii x1)), some (.int (ii x2)), some (.int (ii x3)), some (.int (ii x4)), some (.int (ii x5)), some (.int (ii x6)), some (.int (ii x7)), o8, some (.int (ii x9))] [.int (ii s0)] := by
  unfold f_Re_isKeyBroken_124 at hf
  have o := k.1
  have g := k.2.1
  have kr := k.2.2.1
  refine J_istore o dX11_isKeyBroken_124 (Nat.le_of_ble_eq_true rfl) ?_
  have hf := bl_out hf
  refine J_iinc o dX11_isKeyBroken_126 rfl ?_
  refine J_goto 76 o dX11_isKeyBroken_129 (by decide) ?_
  have hf := some_inj hf
  subst hf
  exact hc r_s0 (R_wr _) 
noncomputable def f_Re_isKeyBroken_123 (w : World) (x1 : Int) (x2 : Int) (x3 : Int) (x4 : Int) (x5 : Int) (x6 : Int) (x7 : Int) (x9 : Int) : Option ((Int × Int) ⊕ ((Int × Int) ⊕ ((Int × Int) ⊕ Int))) :=
  f_Re_isKeyBroken_124 w x1 x2 x3 x4 x5 x6 x7 x9 0
theorem t_Re_isKeyBroken_123 {E : EE} {K : KT} {l : Launch} {H0 : Heap} (k : Kof TB E K l cX11_isKeyBroken RX11 rm_Re_isKeyBroken) {w : World} {x1 : Int} {x2 : Int} {x3 : Int} {x4 : Int} {x5 : Int} {x6 : Int} {x7 : Int} {x9 : Int} {o8 : Option Value} (r_x1 : R32 x1) (r_x2 : R32 x2) (r_x3 : R32 x3) (r_x4 : R32 x4) (r_x5 : R32 x5) (r_x6 : R32 x6) (r_x7 : R32 x7) (r_x9 : R32 x9) {out : ((Int × Int) ⊕ ((Int × Int) ⊕ ((Int × Int) ⊕ Int)))} (hf : f_Re_isKeyBroken_123 w x1 x2 x3 x4 x5 x6 x7 x9 = some out) (hc : (Sum.elim (HW_Re_isKeyBroken_76 E K H0 w x1 x2 x3 x4 x5 x6 x7) (Sum.elim (HW_Re_isKeyBroken_19 E K H0 w x1 x2 x4) (Sum.elim (HW_Re_isKeyBroken_5 E K H0 w x1 x2) (fun out : Int => RetZ TB E K H0 cX11_isKeyBroken w out)))) out) : Jj K (WdT TB E H0) w 123 [some (rf E.ad 1), some (.int (ii x1)), some (.int (ii x2)), some (.int (ii x3)), some (.int (ii x4)), some (.int (ii x5)), some (.int (ii x6)), some (.int (ii x7)), o8, some (.int (ii x9))] [] := by
  unfold f_Re_isKeyBroken_123 at hf
  have o := k.1
  have g := k.2.1
  have kr := k.2.2.1
  refine J_iconst o dX11_isKeyBroken_123 ?_
  exact t_Re_isKeyBroken_124 k r_x1 r_x2 r_x3 r_x4 r_x5 r_x6 r_x7 r_x9 rl0 hf hc
noncomputable def f_Re_isKeyBroken_76B (w : World) (x1 : Int) (x2 : Int) (x3 : Int) (x4 : Int) (x5 : Int) (x6 : Int) (x7 : Int) (x8 : Int) (x9 : Int) : Option ((Int × Int) ⊕ ((Int × Int) ⊕ ((Int × Int) ⊕ Int))) :=
  gd (0 ≤ x2 ∧ x2 < 10) (if (w 5 x2.toNat) ≤ x9 then (if x3 = 0 then (if x8 = 0 then (bnd (f_Re_isKeyBroken_146 w x1 x2 x4 x5 0) fun y10 => some (Sum.inr y10)) else (bnd (f_Re_isKeyBroken_141 w x1 x2 x4 x5) fun y11 => some (Sum.inr y11))) else (bnd (f_Re_isKeyBroken_141 w x1 x2 x4 x5) fun y7 => some (Sum.inr y7))) else (if x8 = 0 then (f_Re_isKeyBroken_123 w x1 x2 x3 x4 x5 x6 x7 x9) else (gd (0 ≤ wr ((wr (3 * x6)) + x9) ∧ wr ((wr (3 * x6)) + x9) < 750) (gd (0 ≤ wr ((wr (3 * x7)) + x9) ∧ wr ((wr (3 * x7)) + x9) < 750) (if (w 22 (wr ((wr (3 * x6)) + x9)).toNat) = (w 22 (wr ((wr (3 * x7)) + x9)).toNat) then (f_Re_isKeyBroken_124 w x1 x2 x3 x4 x5 x6 x7 x9 1) else (f_Re_isKeyBroken_123 w x1 x2 x3 x4 x5 x6 x7 x9))))))
theorem t_Re_isKeyBroken_76B {E : EE} {K : KT} {l : Launch} {H0 : Heap} (k : Kof TB E K l cX11_isKeyBroken RX11 rm_Re_isKeyBroken) {w : World} {x1 : Int} {x2 : Int} {x3 : Int} {x4 : Int} {x5 : Int} {x6 : Int} {x7 : Int} {x8 : Int} {x9 : Int} (r_x1 : R32 x1) (r_x2 : R32 x2) (r_x3 : R32 x3) (r_x4 : R32 x4) (r_x5 : R32 x5) (r_x6 : R32 x6) (r_x7 : R32 x7) (r_x8 : R32 x8) (r_x9 : R32 x9) {out : ((Int × Int) ⊕ ((Int × Int) ⊕ ((Int × Int) ⊕ Int)))} (hf : f_Re_isKeyBroken_76B w x1 x2 x3 x4 x5 x6 x7 x8 x9 = some out) (hc : (Sum.elim (HW_Re_isKeyBroken_76 E K H0 w x1 x2 x3 x4 x5 x6 x7) (Sum.elim (HW_Re_isKeyBroken_19 E K H0 w x1 x2 x4) (Sum.elim (HW_Re_isKeyBroken_5 E K H0 w x1 x2) (fun out : Int => RetZ TB E K H0 cX11_isKeyBroken w out)))) out) : Jj K (WdT TB E H0) w 76 [some (rf E.ad 1), some (.int (ii x1)), some (.int (ii x2)), some (.int (ii x3)), some (.int (ii x4)), some (.int (ii x5)), some (.int (ii x6)), some (.int (ii x7)), some (.int (ii x8)), some (.int (ii x9))] [] := by
  unfold f_Re_isKeyBroken_76B at hf
  have o := k.1
  have g := k.2.1
  have kr := k.2.2.1
  refine J_iload o dX11_isKeyBroken_76 rfl ?_
  refine J_aload_n o dX11_isKeyBroken_78 rfl ?_
  refine J_getF (true, 5) o g dX11_isKeyBroken_79 flX11_20 kB_1 rfl rfl rfl ?_
  refine J_iload_n o dX11_isKeyBroken_82 rfl ?_
  obtain ⟨g1, hf⟩ := gd_some hf
  refine J_iald o g dX11_isKeyBroken_83 kB_5 r_x2 zB_5 g1 (fun q2 => ?_)
  refine J_icmp_ge 132 o dX11_isKeyBroken_84 (by decide) r_x9 q2 (fun c3 => ?_) (fun c4 => ?_)
  · have hf := ite_t c3 hf
    refine J_iload_n o dX11_isKeyBroken_132 rfl ?_
    refine J_if_ne 141 o dX11_isKeyBroken_133 (by decide) r_x3 (fun c5 => ?_) (fun c6 => ?_)
    · have hf := ite_f c5 hf
      obtain ⟨y7, hf1, hf⟩ := bnd_some hf
      have hf := some_inj hf
      subst hf
      exact t_Re_isKeyBroken_141 k r_x1 r_x2 r_x4 r_x5 hf1 hc
    · have hf := ite_t c6 hf
      refine J_iload o dX11_isKeyBroken_136 rfl ?_
      refine J_if_eq 145 o dX11_isKeyBroken_138 (by decide) r_x8 (fun c8 => ?_) (fun c9 => ?_)
      · have hf := ite_t c8 hf
        refine J_iconst o dX11_isKeyBroken_145 ?_
        obtain ⟨y10, hf1, hf⟩ := bnd_some hf
        have hf := some_inj hf
        subst hf
        exact t_Re_isKeyBroken_146 k r_x1 r_x2 r_x4 r_x5 rl0 hf1 hc
      · have hf := ite_f c9 hf
        obtain ⟨y11, hf1, hf⟩ := bnd_some hf
        have hf := some_inj hf
        subst hf
        exact t_Re_isKeyBroken_141 k r_x1 r_x2 r_x4 r_x5 hf1 hc
  · have hf := ite_f c4 hf
    refine J_iload o dX11_isKeyBroken_87 rfl ?_
    refine J_if_eq 123 o dX11_isKeyBroken_89 (by decide) r_x8 (fun c12 => ?_) (fun c13 => ?_)
    · have hf := ite_t c12 hf
      exact t_Re_isKeyBroken_123 k r_x1 r_x2 r_x3 r_x4 r_x5 r_x6 r_x7 r_x9 hf hc
    · have hf := ite_f c13 hf
      refine J_aload_n o dX11_isKeyBroken_92 rfl ?_
      refine J_getF (true, 22) o g dX11_isKeyBroken_93 flX11_71 kB_1 rfl rfl rfl ?_
      refine J_iconst o dX11_isKeyBroken_96 ?_
      refine J_iload o dX11_isKeyBroken_97 rfl ?_
      refine J_imul o dX11_isKeyBroken_99 ?_
      refine J_iload o dX11_isKeyBroken_100 rfl ?_
      refine J_iadd o dX11_isKeyBroken_102 ?_
      obtain ⟨g14, hf⟩ := gd_some hf
      refine J_iald o g dX11_isKeyBroken_103 kB_22 (R_wr _) zB_22 g14 (fun q15 => ?_)
      refine J_aload_n o dX11_isKeyBroken_104 rfl ?_
      refine J_getF (true, 22) o g dX11_isKeyBroken_105 flX11_71 kB_1 rfl rfl rfl ?_
      refine J_iconst o dX11_isKeyBroken_108 ?_
      refine J_iload o dX11_isKeyBroken_109 rfl ?_
      refine J_imul o dX11_isKeyBroken_111 ?_
      refine J_iload o dX11_isKeyBroken_112 rfl ?_
      refine J_iadd o dX11_isKeyBroken_114 ?_
      obtain ⟨g16, hf⟩ := gd_some hf
      refine J_iald o g dX11_isKeyBroken_115 kB_22 (R_wr _) zB_22 g16 (fun q17 => ?_)
      refine J_icmp_ne 123 o dX11_isKeyBroken_116 (by decide) q15 q17 (fun c18 => ?_) (fun c19 => ?_)
      · have hf := ite_f c18 hf
        exact t_Re_isKeyBroken_123 k r_x1 r_x2 r_x3 r_x4 r_x5 r_x6 r_x7 r_x9 hf hc
      · have hf := ite_t c19 hf
        refine J_iconst o dX11_isKeyBroken_119 ?_
        refine J_goto 124 o dX11_isKeyBroken_120 (by decide) ?_
        exact t_Re_isKeyBroken_124 k r_x1 r_x2 r_x3 r_x4 r_x5 r_x6 r_x7 r_x9 rl1 hf hc
noncomputable def f_Re_isKeyBroken_76 (w : World) (x1 : Int) (x2 : Int) (x3 : Int) (x4 : Int) (x5 : Int) (x6 : Int) (x7 : Int) (x8 : Int) (x9 : Int) : Option ((Int × Int) ⊕ ((Int × Int) ⊕ Int)) :=
  lp (fun z : (Int × Int) => f_Re_isKeyBroken_76B w x1 x2 x3 x4 x5 x6 x7 z.1 z.2) (x8, x9)
theorem t_Re_isKeyBroken_76 {E : EE} {K : KT} {l : Launch} {H0 : Heap} (k : Kof TB E K l cX11_isKeyBroken RX11 rm_Re_isKeyBroken) {w : World} {x1 : Int} {x2 : Int} {x3 : Int} {x4 : Int} {x5 : Int} {x6 : Int} {x7 : Int} {x8 : Int} {x9 : Int} (r_x1 : R32 x1) (r_x2 : R32 x2) (r_x3 : R32 x3) (r_x4 : R32 x4) (r_x5 : R32 x5) (r_x6 : R32 x6) (r_x7 : R32 x7) {out : ((Int × Int) ⊕ ((Int × Int) ⊕ Int))} (hf : f_Re_isKeyBroken_76 w x1 x2 x3 x4 x5 x6 x7 x8 x9 = some out) (hc : (Sum.elim (HW_Re_isKeyBroken_19 E K H0 w x1 x2 x4) (Sum.elim (HW_Re_isKeyBroken_5 E K H0 w x1 x2) (fun out : Int => RetZ TB E K H0 cX11_isKeyBroken w out))) out) : HW_Re_isKeyBroken_76 E K H0 w x1 x2 x3 x4 x5 x6 x7 (x8, x9) := by
  unfold f_Re_isKeyBroken_76 at hf
  refine lp_ind (P := HW_Re_isKeyBroken_76 E K H0 w x1 x2 x3 x4 x5 x6 x7) hf ?_
  intro z o hs h1 h2
  intro r_x8 r_x9
  refine t_Re_isKeyBroken_76B k r_x1 r_x2 r_x3 r_x4 r_x5 r_x6 r_x7 r_x8 r_x9 hs ?_
  cases o with
  | inl z' => exact h1 z' rfl
  | inr r' => rw [h2 r' rfl]; exact hc
noncomputable def f_Re_isKeyBroken_71 (w : World) (x1 : Int) (x2 : Int) (x3 : Int) (x4 : Int) (x5 : Int) (x6 : Int) (x7 : Int) (s0 : Int) : Option ((Int × Int) ⊕ ((Int × Int) ⊕ Int)) :=
  f_Re_isKeyBroken_76 w x1 x2 x3 x4 x5 x6 x7 s0 0
theorem t_Re_isKeyBroken_71 {E : EE} {K : KT} {l : Launch} {H0 : Heap} (k : Kof TB E K l cX11_isKeyBroken RX11 rm_Re_isKeyBroken) {w : World} {x1 : Int} {x2 : Int} {x3 : Int} {x4 : Int} {x5 : Int} {x6 : Int} {x7 : Int} {s0 : Int} {o8 o9 : Option Value} (r_x1 : R32 x1) (r_x2 : R32 x2) (r_x3 : R32 x3) (r_x4 : R32 x4) (r_x5 : R32 x5) (r_x6 : R32 x6) (r_x7 : R32 x7) (r_s0 : R32 s0) {out : ((Int × Int) ⊕ ((Int × Int) ⊕ Int))} (hf : f_Re_isKeyBroken_71 w x1 x2 x3 x4 x5 x6 x7 s0 = some out) (hc : (Sum.elim (HW_Re_isKeyBroken_19 E K H0 w x1 x2 x4) (Sum.elim (HW_Re_isKeyBroken_5 E K H0 w x1 x2) (fun out : Int => RetZ TB E K H0 cX11_isKeyBroken w out))) out) : Jj K (WdT TB E H0) w 71 [some (rf E.ad 1), some (.int (ii x1)), some (.int (ii x2)), some (.int (ii x3)), some (.int (ii x4)), some (.int (ii x5)), some (.int (ii x6)), some (.int (ii x7)), o8, o9] [.int (ii s0)] := by
  unfold f_Re_isKeyBroken_71 at hf
  have o := k.1
  have g := k.2.1
  have kr := k.2.2.1
  refine J_istore o dX11_isKeyBroken_71 (Nat.le_of_ble_eq_true rfl) ?_
  refine J_iconst o dX11_isKeyBroken_73 ?_
  refine J_istore o dX11_isKeyBroken_74 (Nat.le_of_ble_eq_true rfl) ?_
  exact (t_Re_isKeyBroken_76 k r_x1 r_x2 r_x3 r_x4 r_x5 r_x6 r_x7 hf hc) r_s0 rl0 
noncomputable def f_Re_isKeyBroken_70 (w : World) (x1 : Int) (x2 : Int) (x3 : Int) (x4 : Int) (x5 : Int) (x6 : Int) (x7 : Int) : Option ((Int × Int) ⊕ ((Int × Int) ⊕ Int)) :=
  f_Re_isKeyBroken_71 w x1 x2 x3 x4 x5 x6 x7 0
theorem t_Re_isKeyBroken_70 {E : EE} {K : KT} {l : Launch} {H0 : Heap} (k : Kof TB E K l cX11_isKeyBroken RX11 rm_Re_isKeyBroken) {w : World} {x1 : Int} {x2 : Int} {x3 : Int} {x4 : Int} {x5 : Int} {x6 : Int} {x7 : Int} {o8 o9 : Option Value} (r_x1 : R32 x1) (r_x2 : R32 x2) (r_x3 : R32 x3) (r_x4 : R32 x4) (r_x5 : R32 x5) (r_x6 : R32 x6) (r_x7 : R32 x7) {out : ((Int × Int) ⊕ ((Int × Int) ⊕ Int))} (hf : f_Re_isKeyBroken_70 w x1 x2 x3 x4 x5 x6 x7 = some out) (hc : (Sum.elim (HW_Re_isKeyBroken_19 E K H0 w x1 x2 x4) (Sum.elim (HW_Re_isKeyBroken_5 E K H0 w x1 x2) (fun out : Int => RetZ TB E K H0 cX11_isKeyBroken w out))) out) : Jj K (WdT TB E H0) w 70 [some (rf E.ad 1), some (.int (ii x1)), some (.int (ii x2)), some (.int (ii x3)), some (.int (ii x4)), some (.int (ii x5)), some (.int (ii x6)), some (.int (ii x7)), o8, o9] [] := by
  unfold f_Re_isKeyBroken_70 at hf
  have o := k.1
  have g := k.2.1
  have kr := k.2.2.1
  refine J_iconst o dX11_isKeyBroken_70 ?_
  exact t_Re_isKeyBroken_71 k r_x1 r_x2 r_x3 r_x4 r_x5 r_x6 r_x7 rl0 hf hc
noncomputable def f_Re_isKeyBroken_19B (w : World) (x1 : Int) (x2 : Int) (x3 : Int) (x4 : Int) (x5 : Int) : Option ((Int × Int) ⊕ ((Int × Int) ⊕ Int)) :=
  if x4 ≤ x5 then (bl (wr (x4 + 1)) fun n3 => some (Sum.inr (Sum.inl (x3, n3)))) else (bl (wr ((wr (50 * x1)) + x4)) fun n4 => bl (wr ((wr (50 * x1)) + x5)) fun n5 => gd (0 ≤ n4 ∧ n4 < 250) (if (w 21 n4.toNat) = x2 then (gd (0 ≤ n5 ∧ n5 < 250) (if (w 21 n5.toNat) = x2 then (f_Re_isKeyBroken_71 w x1 x2 x3 x4 x5 n4 n5 1) else (f_Re_isKeyBroken_70 w x1 x2 x3 x4 x5 n4 n5))) else (f_Re_isKeyBroken_70 w x1 x2 x3 x4 x5 n4 n5)))
theorem t_Re_isKeyBroken_19B {E : EE} {K : KT} {l : Launch} {H0 : Heap} (k : Kof TB E K l cX11_isKeyBroken RX11 rm_Re_isKeyBroken) {w : World} {x1 : Int} {x2 : Int} {x3 : Int} {x4 : Int} {x5 : Int} {o6 o7 o8 o9 : Option Value} (r_x1 : R32 x1) (r_x2 : R32 x2) (r_x3 : R32 x3) (r_x4 : R32 x4) (r_x5 : R32 x5) {out : ((Int × Int) ⊕ ((Int × Int) ⊕ Int))} (hf : f_Re_isKeyBroken_19B w x1 x2 x3 x4 x5 = some out) (hc : (Sum.elim (HW_Re_isKeyBroken_19 E K H0 w x1 x2 x4) (Sum.elim (HW_Re_isKeyBroken_5 E K H0 w x1 x2) (fun out : Int => RetZ TB E K H0 cX11_isKeyBroken w out))) out) : Jj K (WdT TB E H0) w 19 [some (rf E.ad 1), some (.int (ii x1)), some (.int (ii x2)), some (.int (ii x3)), some (.int (ii x4)), some (.int (ii x5)), o6, o7, o8, o9] [] := by
  unfold f_Re_isKeyBroken_19B at hf
  have o := k.1
  have g := k.2.1
  have kr := k.2.2.1
  refine J_iload o dX11_isKeyBroken_19 rfl ?_
  refine J_iload o dX11_isKeyBroken_21 rfl ?_
  refine J_icmp_ge 153 o dX11_isKeyBroken_23 (by decide) r_x5 r_x4 (fun c1 => ?_) (fun c2 => ?_)
  · have hf := ite_t c1 hf
    have hf := bl_out hf
    refine J_iinc o dX11_isKeyBroken_153 rfl ?_
    refine J_goto 5 o dX11_isKeyBroken_156 (by decide) ?_
    have hf := some_inj hf
    subst hf
    exact hc r_x3 (R_wr _) _ _ _ _ _
  · have hf := ite_f c2 hf
    refine J_bipush o dX11_isKeyBroken_26 (by decide) ?_
    refine J_iload_n o dX11_isKeyBroken_28 rfl ?_
    refine J_imul o dX11_isKeyBroken_29 ?_
    refine J_iload o dX11_isKeyBroken_30 rfl ?_
    refine J_iadd o dX11_isKeyBroken_32 ?_
    refine J_istore o dX11_isKeyBroken_33 (Nat.le_of_ble_eq_true rfl) ?_
    have hf := bl_out hf
    refine J_bipush o dX11_isKeyBroken_35 (by decide) ?_
    refine J_iload_n o dX11_isKeyBroken_37 rfl ?_
    refine J_imul o dX11_isKeyBroken_38 ?_
    refine J_iload o dX11_isKeyBroken_39 rfl ?_
    refine J_iadd o dX11_isKeyBroken_41 ?_
    refine J_istore o dX11_isKeyBroken_42 (Nat.le_of_ble_eq_true rfl) ?_
    have hf := bl_out hf
    refine J_aload_n o dX11_isKeyBroken_44 rfl ?_
    refine J_getF (true, 21) o g dX11_isKeyBroken_45 flX11_68 kB_1 rfl rfl rfl ?_
    refine J_iload o dX11_isKeyBroken_48 rfl ?_
    obtain ⟨g6, hf⟩ := gd_some hf
    refine J_iald o g dX11_isKeyBroken_50 kB_21 (R_wr _) zB_21 g6 (fun q7 => ?_)
    refine J_iload_n o dX11_isKeyBroken_51 rfl ?_
    refine J_icmp_ne 70 o dX11_isKeyBroken_52 (by decide) q7 r_x2 (fun c8 => ?_) (fun c9 => ?_)
    · have hf := ite_f c8 hf
      exact t_Re_isKeyBroken_70 k r_x1 r_x2 r_x3 r_x4 r_x5 (R_wr _) (R_wr _) hf hc
    · have hf := ite_t c9 hf
      refine J_aload_n o dX11_isKeyBroken_55 rfl ?_
      refine J_getF (true, 21) o g dX11_isKeyBroken_56 flX11_68 kB_1 rfl rfl rfl ?_
      refine J_iload o dX11_isKeyBroken_59 rfl ?_
      obtain ⟨g10, hf⟩ := gd_some hf
      refine J_iald o g dX11_isKeyBroken_61 kB_21 (R_wr _) zB_21 g10 (fun q11 => ?_)
      refine J_iload_n o dX11_isKeyBroken_62 rfl ?_
      refine J_icmp_ne 70 o dX11_isKeyBroken_63 (by decide) q11 r_x2 (fun c12 => ?_) (fun c13 => ?_)
      · have hf := ite_f c12 hf
        exact t_Re_isKeyBroken_70 k r_x1 r_x2 r_x3 r_x4 r_x5 (R_wr _) (R_wr _) hf hc
      · have hf := ite_t c13 hf
        refine J_iconst o dX11_isKeyBroken_66 ?_
        refine J_goto 71 o dX11_isKeyBroken_67 (by decide) ?_
        exact t_Re_isKeyBroken_71 k r_x1 r_x2 r_x3 r_x4 r_x5 (R_wr _) (R_wr _) rl1 hf hc
noncomputable def f_Re_isKeyBroken_19 (w : World) (x1 : Int) (x2 : Int) (x3 : Int) (x4 : Int) (x5 : Int) : Option ((Int × Int) ⊕ Int) :=
  lp (fun z : (Int × Int) => f_Re_isKeyBroken_19B w x1 x2 z.1 x4 z.2) (x3, x5)
theorem t_Re_isKeyBroken_19 {E : EE} {K : KT} {l : Launch} {H0 : Heap} (k : Kof TB E K l cX11_isKeyBroken RX11 rm_Re_isKeyBroken) {w : World} {x1 : Int} {x2 : Int} {x3 : Int} {x4 : Int} {x5 : Int} (r_x1 : R32 x1) (r_x2 : R32 x2) (r_x4 : R32 x4) {out : ((Int × Int) ⊕ Int)} (hf : f_Re_isKeyBroken_19 w x1 x2 x3 x4 x5 = some out) (hc : (Sum.elim (HW_Re_isKeyBroken_5 E K H0 w x1 x2) (fun out : Int => RetZ TB E K H0 cX11_isKeyBroken w out)) out) : HW_Re_isKeyBroken_19 E K H0 w x1 x2 x4 (x3, x5) := by
  unfold f_Re_isKeyBroken_19 at hf
  refine lp_ind (P := HW_Re_isKeyBroken_19 E K H0 w x1 x2 x4) hf ?_
  intro z o hs h1 h2
  intro r_x3 r_x5
  intro o6 o7 o8 o9
  refine t_Re_isKeyBroken_19B k r_x1 r_x2 r_x3 r_x4 r_x5 hs ?_
  cases o with
  | inl z' => exact h1 z' rfl
  | inr r' => rw [h2 r' rfl]; exact hc
noncomputable def f_Re_isKeyBroken_5B (w : World) (x1 : Int) (x2 : Int) (x3 : Int) (x4 : Int) : Option ((Int × Int) ⊕ Int) :=
  gd (0 ≤ x1 ∧ x1 < 5) (if (w 20 x1.toNat) ≤ x4 then (gd (x3 = 0 ∨ x3 = 1) (some (Sum.inr x3))) else (f_Re_isKeyBroken_19 w x1 x2 x3 x4 0))
theorem t_Re_isKeyBroken_5B {E : EE} {K : KT} {l : Launch} {H0 : Heap} (k : Kof TB E K l cX11_isKeyBroken RX11 rm_Re_isKeyBroken) {w : World} {x1 : Int} {x2 : Int} {x3 : Int} {x4 : Int} {o5 o6 o7 o8 o9 : Option Value} (r_x1 : R32 x1) (r_x2 : R32 x2) (r_x3 : R32 x3) (r_x4 : R32 x4) {out : ((Int × Int) ⊕ Int)} (hf : f_Re_isKeyBroken_5B w x1 x2 x3 x4 = some out) (hc : (Sum.elim (HW_Re_isKeyBroken_5 E K H0 w x1 x2) (fun out : Int => RetZ TB E K H0 cX11_isKeyBroken w out)) out) : Jj K (WdT TB E H0) w 5 [some (rf E.ad 1), some (.int (ii x1)), some (.int (ii x2)), some (.int (ii x3)), some (.int (ii x4)), o5, o6, o7, o8, o9] [] := by
  unfold f_Re_isKeyBroken_5B at hf
  have o := k.1
  have g := k.2.1
  have kr := k.2.2.1
  refine J_iload o dX11_isKeyBroken_5 rfl ?_
  refine J_aload_n o dX11_isKeyBroken_7 rfl ?_
  refine J_getF (true, 20) o g dX11_isKeyBroken_8 flX11_65 kB_1 rfl rfl rfl ?_
  refine J_iload_n o dX11_isKeyBroken_11 rfl ?_
  obtain ⟨g1, hf⟩ := gd_some hf
  refine J_iald o g dX11_isKeyBroken_12 kB_20 r_x1 zB_20 g1 (fun q2 => ?_)
  refine J_icmp_ge 159 o dX11_isKeyBroken_13 (by decide) r_x4 q2 (fun c3 => ?_) (fun c4 => ?_)
  · have hf := ite_t c3 hf
    refine J_iload_n o dX11_isKeyBroken_159 rfl ?_
    obtain ⟨g5, hf⟩ := gd_some hf
    have hf := some_inj hf
    subst hf
    exact hc _ _ g5 dX11_isKeyBroken_160
  · have hf := ite_f c4 hf
    refine J_iconst o dX11_isKeyBroken_16 ?_
    refine J_istore o dX11_isKeyBroken_17 (Nat.le_of_ble_eq_true rfl) ?_
    exact (t_Re_isKeyBroken_19 k r_x1 r_x2 r_x4 hf hc) r_x3 rl0 _ _ _ _
noncomputable def f_Re_isKeyBroken_5 (w : World) (x1 : Int) (x2 : Int) (x3 : Int) (x4 : Int) : Option Int :=
  lp (fun z : (Int × Int) => f_Re_isKeyBroken_5B w x1 x2 z.1 z.2) (x3, x4)
theorem t_Re_isKeyBroken_5 {E : EE} {K : KT} {l : Launch} {H0 : Heap} (k : Kof TB E K l cX11_isKeyBroken RX11 rm_Re_isKeyBroken) {w : World} {x1 : Int} {x2 : Int} {x3 : Int} {x4 : Int} (r_x1 : R32 x1) (r_x2 : R32 x2) {out : Int} (hf : f_Re_isKeyBroken_5 w x1 x2 x3 x4 = some out) (hc : (fun out : Int => RetZ TB E K H0 cX11_isKeyBroken w out) out) : HW_Re_isKeyBroken_5 E K H0 w x1 x2 (x3, x4) := by
  unfold f_Re_isKeyBroken_5 at hf
  refine lp_ind (P := HW_Re_isKeyBroken_5 E K H0 w x1 x2) hf ?_
  intro z o hs h1 h2
  intro r_x3 r_x4
  intro o5 o6 o7 o8 o9
  refine t_Re_isKeyBroken_5B k r_x1 r_x2 r_x3 r_x4 hs ?_
  cases o with
  | inl z' => exact h1 z' rfl
  | inr r' => rw [h2 r' rfl]; exact hc
noncomputable def f_Re_isKeyBroken (w : World) (x1 : Int) (x2 : Int) : Option Int :=
  f_Re_isKeyBroken_5 w x1 x2 0 0
theorem t_Re_isKeyBroken_0 {E : EE} {K : KT} {l : Launch} {H0 : Heap} (k : Kof TB E K l cX11_isKeyBroken RX11 rm_Re_isKeyBroken) {w : World} {x1 : Int} {x2 : Int} {o3 o4 o5 o6 o7 o8 o9 : Option Value} (r_x1 : R32 x1) (r_x2 : R32 x2) {out : Int} (hf : f_Re_isKeyBroken w x1 x2 = some out) (hc : (fun out : Int => RetZ TB E K H0 cX11_isKeyBroken w out) out) : Jj K (WdT TB E H0) w 0 [some (rf E.ad 1), some (.int (ii x1)), some (.int (ii x2)), o3, o4, o5, o6, o7, o8, o9] [] := by
  unfold f_Re_isKeyBroken at hf
  have o := k.1
  have g := k.2.1
  have kr := k.2.2.1
  refine J_iconst o dX11_isKeyBroken_0 ?_
  refine J_istore_n o dX11_isKeyBroken_1 (Nat.le_of_ble_eq_true rfl) ?_
  refine J_iconst o dX11_isKeyBroken_2 ?_
  refine J_istore o dX11_isKeyBroken_3 (Nat.le_of_ble_eq_true rfl) ?_
  exact (t_Re_isKeyBroken_5 k r_x1 r_x2 hf hc) rl0 rl0 _ _ _ _ _
theorem c_Re_isKeyBroken {E : EE} {l : Launch} (hI : Inj TB E) {w : World} {x1 : Int} {x2 : Int} (r_x1 : R32 x1) (r_x2 : R32 x2) {out : Int} (hf : f_Re_isKeyBroken w x1 x2 = some out) : ConI TB E l yX11_isKeyBroken (WS yX11_isKeyBroken cX11_isKeyBroken 10 (some .boolean)) rm_Re_isKeyBroken [rf E.ad 1, .int (ii x1), .int (ii x2)] w w out :=
  con_Z (by decide +kernel) rfl (Nat.le_of_ble_eq_true rfl) (c1s_r (c1s_i (c1s_i c1s_0 (Nat.le_of_ble_eq_true rfl)) (Nat.le_of_ble_eq_true rfl)) (Nat.le_of_ble_eq_true rfl)).1 ⟨rfl, rfl⟩ hI TnB (fun K H0 k hret => t_Re_isKeyBroken_0 k r_x1 r_x2 hf hret)
abbrev rm_Re_brokenIn : Room := { frames := 6, cells := 0, slots := 0, locals := 144 }
def HW_Re_brokenIn_5 (E : EE) (K : KT) (H0 : Heap) (x1 : Int) : (World × Int × Int) → Prop := fun z => R32 z.2.1 → R32 z.2.2 → Jj K (WdT TB E H0) z.1 5 [some (rf E.ad 1), some (.int (ii x1)), some (.int (ii z.2.1)), some (.int (ii z.2.2))] []
def HW_Re_brokenIn_51 (E : EE) (K : KT) (H0 : Heap) (w : World) (x1 : Int) : (Int × Int) → Prop := fun z => R32 z.1 → R32 z.2 → Jj K (WdT TB E H0) w 51 [some (rf E.ad 1), some (.int (ii x1)), some (.int (ii z.1)), some (.int (ii z.2))] []
noncomputable def f_Re_brokenIn_90 (w : World) (x1 : Int) (x3 : Int) (s0 : Int) (s1 : Int) : Option ((Int × Int) ⊕ (World × Int)) :=
  bl (wr (s0 + s1)) fun n1 => bl (wr (x3 + 1)) fun n2 => some (Sum.inl (n1, n2))
theorem t_Re_brokenIn_90 {E : EE} {K : KT} {l : Launch} {H0 : Heap} (k : Kof TB E K l cX11_brokenIn RX11 rm_Re_brokenIn) {w : World} {x1 : Int} {x3 : Int} {s0 : Int} {s1 : Int} {o2 : Option Value} (r_x1 : R32 x1) (r_x3 : R32 x3) (r_s0 : R32 s0) (r_s1 : R32 s1) {out : ((Int × Int) ⊕ (World × Int))} (hf : f_Re_brokenIn_90 w x1 x3 s0 s1 = some out) (hc : (Sum.elim (HW_Re_brokenIn_51 E K H0 w x1) (fun out : (World × Int) => RetI TB E K H0 cX11_brokenIn out.1 out.2)) out) : Jj K (WdT TB E H0) w 90 [some (rf E.ad 1), some (.int (ii x1)), o2, some (.int (ii x3))] [.int (ii s1), .int (ii s0)] := by
  unfold f_Re_brokenIn_90 at hf
  have o := k.1
  have g := k.2.1
  have kr := k.2.2.1
  refine J_iadd o dX11_brokenIn_90 ?_
  refine J_istore_n o dX11_brokenIn_91 (Nat.le_of_ble_eq_true rfl) ?_
  have hf := bl_out hf
  have hf := bl_out hf
  refine J_iinc o dX11_brokenIn_92 rfl ?_
  refine J_goto 51 o dX11_brokenIn_95 (by decide) ?_
  have hf := some_inj hf
  subst hf
  exact hc (R_wr _) (R_wr _) 
noncomputable def f_Re_brokenIn_89 (w : World) (x1 : Int) (x3 : Int) (s0 : Int) : Option ((Int × Int) ⊕ (World × Int)) :=
  f_Re_brokenIn_90 w x1 x3 s0 0
theorem t_Re_brokenIn_89 {E : EE} {K : KT} {l : Launch} {H0 : Heap} (k : Kof TB E K l cX11_brokenIn RX11 rm_Re_brokenIn) {w : World} {x1 : Int} {x3 : Int} {s0 : Int} {o2 : Option Value} (r_x1 : R32 x1) (r_x3 : R32 x3) (r_s0 : R32 s0) {out : ((Int × Int) ⊕ (World × Int))} (hf : f_Re_brokenIn_89 w x1 x3 s0 = some out) (hc : (Sum.elim (HW_Re_brokenIn_51 E K H0 w x1) (fun out : (World × Int) => RetI TB E K H0 cX11_brokenIn out.1 out.2)) out) : Jj K (WdT TB E H0) w 89 [some (rf E.ad 1), some (.int (ii x1)), o2, some (.int (ii x3))] [.int (ii s0)] := by
  unfold f_Re_brokenIn_89 at hf
  have o := k.1
  have g := k.2.1
  have kr := k.2.2.1
  refine J_iconst o dX11_brokenIn_89 ?_
  exact t_Re_brokenIn_90 k r_x1 r_x3 r_s0 rl0 hf hc
noncomputable def f_Re_brokenIn_51B (w : World) (x1 : Int) (x2 : Int) (x3 : Int) : Option ((Int × Int) ⊕ (World × Int)) :=
  if 10 ≤ x3 then (some (Sum.inr (w, x2))) else (gd (0 ≤ x3 ∧ x3 < 10) (if (w 2 x3.toNat) = 0 then (f_Re_brokenIn_89 w x1 x3 x2) else (gd (0 ≤ x3 ∧ x3 < 10) (if (w 4 x3.toNat) = 0 then (bnd (f_Re_isKeyBroken w x1 x3) fun v12 => if v12 = 0 then (f_Re_brokenIn_89 w x1 x3 x2) else (f_Re_brokenIn_90 w x1 x3 x2 1)) else (f_Re_brokenIn_89 w x1 x3 x2)))))
theorem t_Re_brokenIn_51B {E : EE} {K : KT} {l : Launch} {H0 : Heap} (k : Kof TB E K l cX11_brokenIn RX11 rm_Re_brokenIn) {w : World} {x1 : Int} {x2 : Int} {x3 : Int} (r_x1 : R32 x1) (r_x2 : R32 x2) (r_x3 : R32 x3) {out : ((Int × Int) ⊕ (World × Int))} (hf : f_Re_brokenIn_51B w x1 x2 x3 = some out) (hc : (Sum.elim (HW_Re_brokenIn_51 E K H0 w x1) (fun out : (World × Int) => RetI TB E K H0 cX11_brokenIn out.1 out.2)) out) : Jj K (WdT TB E H0) w 51 [some (rf E.ad 1), some (.int (ii x1)), some (.int (ii x2)), some (.int (ii x3))] [] := by
  unfold f_Re_brokenIn_51B at hf
  have o := k.1
  have g := k.2.1
  have kr := k.2.2.1
  refine J_iload_n o dX11_brokenIn_51 rfl ?_
  refine J_bipush o dX11_brokenIn_52 (by decide) ?_
  refine J_icmp_ge 98 o dX11_brokenIn_54 (by decide) r_x3 rl10 (fun c1 => ?_) (fun c2 => ?_)
  · have hf := ite_t c1 hf
    refine J_iload_n o dX11_brokenIn_98 rfl ?_
    have hf := some_inj hf
    subst hf
    exact hc _ _ r_x2 dX11_brokenIn_99
  · have hf := ite_f c2 hf
    refine J_iload_n o dX11_brokenIn_57 rfl ?_
    refine J_aload_n o dX11_brokenIn_58 rfl ?_
    refine J_getF (true, 2) o g dX11_brokenIn_59 flX11_7 kB_1 rfl rfl rfl ?_
    refine J_iload_n o dX11_brokenIn_62 rfl ?_
    obtain ⟨g3, hf⟩ := gd_some hf
    refine J_zald o g dX11_brokenIn_63 kB_2 r_x3 zB_2 g3 (fun q4 => ?_)
    refine J_if_eq 89 o dX11_brokenIn_64 (by decide) q4 (fun c5 => ?_) (fun c6 => ?_)
    · have hf := ite_t c5 hf
      exact t_Re_brokenIn_89 k r_x1 r_x3 r_x2 hf hc
    · have hf := ite_f c6 hf
      refine J_aload_n o dX11_brokenIn_67 rfl ?_
      refine J_getF (true, 4) o g dX11_brokenIn_68 flX11_17 kB_1 rfl rfl rfl ?_
      refine J_iload_n o dX11_brokenIn_71 rfl ?_
      obtain ⟨g7, hf⟩ := gd_some hf
      refine J_iald o g dX11_brokenIn_72 kB_4 r_x3 zB_4 g7 (fun q8 => ?_)
      refine J_if_ne 89 o dX11_brokenIn_73 (by decide) q8 (fun c9 => ?_) (fun c10 => ?_)
      · have hf := ite_f c9 hf
        exact t_Re_brokenIn_89 k r_x1 r_x3 r_x2 hf hc
      · have hf := ite_t c10 hf
        refine J_aload_n o dX11_brokenIn_76 rfl ?_
        refine J_iload_n o dX11_brokenIn_77 rfl ?_
        refine J_iload_n o dX11_brokenIn_78 rfl ?_
        obtain ⟨v12, e11, hf⟩ := bnd_some hf
        refine J_vI o g kr dX11_brokenIn_79 lkX11_277 ml_Re_isKeyBroken vl_Re_isKeyBroken ⟨rfl, rfl, Nat.le_of_ble_eq_true rfl, Nat.le_of_ble_eq_true rfl⟩ (c_Re_isKeyBroken g.2.1 r_x1 r_x3 e11) kB_1 rfl ⟨by decide, by decide⟩ rfl rfl (c1s_i c1s_0 (Nat.le_of_ble_eq_true rfl)) (fun q13 => ?_)
        refine J_if_eq 89 o dX11_brokenIn_82 (by decide) q13 (fun c14 => ?_) (fun c15 => ?_)
        · have hf := ite_t c14 hf
          exact t_Re_brokenIn_89 k r_x1 r_x3 r_x2 hf hc
        · have hf := ite_f c15 hf
          refine J_iconst o dX11_brokenIn_85 ?_
          refine J_goto 90 o dX11_brokenIn_86 (by decide) ?_
          exact t_Re_brokenIn_90 k r_x1 r_x3 r_x2 rl1 hf hc
noncomputable def f_Re_brokenIn_51 (w : World) (x1 : Int) (x2 : Int) (x3 : Int) : Option (World × Int) :=
  lp (fun z : (Int × Int) => f_Re_brokenIn_51B w x1 z.1 z.2) (x2, x3)
theorem t_Re_brokenIn_51 {E : EE} {K : KT} {l : Launch} {H0 : Heap} (k : Kof TB E K l cX11_brokenIn RX11 rm_Re_brokenIn) {w : World} {x1 : Int} {x2 : Int} {x3 : Int} (r_x1 : R32 x1) {out : (World × Int)} (hf : f_Re_brokenIn_51 w x1 x2 x3 = some out) (hc : (fun out : (World × Int) => RetI TB E K H0 cX11_brokenIn out.1 out.2) out) : HW_Re_brokenIn_51 E K H0 w x1 (x2, x3) := by
  unfold f_Re_brokenIn_51 at hf
  refine lp_ind (P := HW_Re_brokenIn_51 E K H0 w x1) hf ?_
  intro z o hs h1 h2
  intro r_x2 r_x3
  refine t_Re_brokenIn_51B k r_x1 r_x2 r_x3 hs ?_
  cases o with
  | inl z' => exact h1 z' rfl
  | inr r' => rw [h2 r' rfl]; exact hc
noncomputable def f_Re_brokenIn_41 (w : World) (x1 : Int) (x3 : Int) (s0 : Int) (s1 : Int) : Option ((World × Int × Int) ⊕ (World × Int)) :=
  bl (wr (s0 + s1)) fun n1 => bl (wr (x3 + 1)) fun n2 => some (Sum.inl (w, n1, n2))
theorem t_Re_brokenIn_41 {E : EE} {K : KT} {l : Launch} {H0 : Heap} (k : Kof TB E K l cX11_brokenIn RX11 rm_Re_brokenIn) {w : World} {x1 : Int} {x3 : Int} {s0 : Int} {s1 : Int} {o2 : Option Value} (r_x1 : R32 x1) (r_x3 : R32 x3) (r_s0 : R32 s0) (r_s1 : R32 s1) {out : ((World × Int × Int) ⊕ (World × Int))} (hf : f_Re_brokenIn_41 w x1 x3 s0 s1 = some out) (hc : (Sum.elim (HW_Re_brokenIn_5 E K H0 x1) (fun out : (World × Int) => RetI TB E K H0 cX11_brokenIn out.1 out.2)) out) : Jj K (WdT TB E H0) w 41 [some (rf E.ad 1), some (.int (ii x1)), o2, some (.int (ii x3))] [.int (ii s1), .int (ii s0)] := by
  unfold f_Re_brokenIn_41 at hf
  have o := k.1
  have g := k.2.1
  have kr := k.2.2.1
  refine J_iadd o dX11_brokenIn_41 ?_
  refine J_istore_n o dX11_brokenIn_42 (Nat.le_of_ble_eq_true rfl) ?_
  have hf := bl_out hf
  have hf := bl_out hf
  refine J_iinc o dX11_brokenIn_43 rfl ?_
  refine J_goto 5 o dX11_brokenIn_46 (by decide) ?_
  have hf := some_inj hf
  subst hf
  exact hc (R_wr _) (R_wr _) 
noncomputable def f_Re_brokenIn_5B (w : World) (x1 : Int) (x2 : Int) (x3 : Int) : Option ((World × Int × Int) ⊕ (World × Int)) :=
  if (wr (12 + (w 1 15))) ≤ x3 then (bnd (f_Re_brokenIn_51 w x1 x2 0) fun y4 => some (Sum.inr y4)) else (bnd (f_Re_begin w ) fun v6 => gd (0 ≤ x3 ∧ x3 < 19) (bnd (f_Re_next v6 x3 (v6 16 x3.toNat) x1) fun v11 => if v11.2 = 0 then (f_Re_brokenIn_41 v11.1 x1 x3 x2 0) else (f_Re_brokenIn_41 v11.1 x1 x3 x2 1)))
theorem t_Re_brokenIn_5B {E : EE} {K : KT} {l : Launch} {H0 : Heap} (k : Kof TB E K l cX11_brokenIn RX11 rm_Re_brokenIn) {w : World} {x1 : Int} {x2 : Int} {x3 : Int} (r_x1 : R32 x1) (r_x2 : R32 x2) (r_x3 : R32 x3) {out : ((World × Int × Int) ⊕ (World × Int))} (hf : f_Re_brokenIn_5B w x1 x2 x3 = some out) (hc : (Sum.elim (HW_Re_brokenIn_5 E K H0 x1) (fun out : (World × Int) => RetI TB E K H0 cX11_brokenIn out.1 out.2)) out) : Jj K (WdT TB E H0) w 5 [some (rf E.ad 1), some (.int (ii x1)), some (.int (ii x2)), some (.int (ii x3))] [] := by
  unfold f_Re_brokenIn_5B at hf
  have o := k.1
  have g := k.2.1
  have kr := k.2.2.1
  refine J_iload_n o dX11_brokenIn_5 rfl ?_
  refine J_bipush o dX11_brokenIn_6 (by decide) ?_
  refine J_aload_n o dX11_brokenIn_8 rfl ?_
  refine J_getI o g dX11_brokenIn_9 flX11_172 kB_1 rfl (fun q1 => ?_)
  refine J_iadd o dX11_brokenIn_12 ?_
  refine J_icmp_ge 49 o dX11_brokenIn_13 (by decide) r_x3 (R_wr _) (fun c2 => ?_) (fun c3 => ?_)
  · have hf := ite_t c2 hf
    refine J_iconst o dX11_brokenIn_49 ?_
    refine J_istore_n o dX11_brokenIn_50 (Nat.le_of_ble_eq_true rfl) ?_
    obtain ⟨y4, hf1, hf⟩ := bnd_some hf
    have hf := some_inj hf
    subst hf
    exact (t_Re_brokenIn_51 k r_x1 hf1 hc) r_x2 rl0 
  · have hf := ite_f c3 hf
    refine J_aload_n o dX11_brokenIn_16 rfl ?_
    obtain ⟨v6, e5, hf⟩ := bnd_some hf
    refine J_vV o g kr dX11_brokenIn_17 lkX11_234 ml_Re_begin vl_Re_begin ⟨rfl, rfl, Nat.le_of_ble_eq_true rfl, Nat.le_of_ble_eq_true rfl⟩ (c_Re_begin g.2.1  e5) kB_1 rfl ⟨by decide, by decide⟩ rfl rfl c1s_0 ?_
    refine J_iload_n o dX11_brokenIn_20 rfl ?_
    refine J_aload_n o dX11_brokenIn_21 rfl ?_
    refine J_iload_n o dX11_brokenIn_22 rfl ?_
    refine J_aload_n o dX11_brokenIn_23 rfl ?_
    refine J_getF (true, 16) o g dX11_brokenIn_24 flX11_53 kB_1 rfl rfl rfl ?_
    refine J_iload_n o dX11_brokenIn_27 rfl ?_
    obtain ⟨g8, hf⟩ := gd_some hf
    refine J_iald o g dX11_brokenIn_28 kB_16 r_x3 zB_16 g8 (fun q9 => ?_)
    refine J_iload_n o dX11_brokenIn_29 rfl ?_
    obtain ⟨v11, e10, hf⟩ := bnd_some hf
    refine J_vI o g kr dX11_brokenIn_30 lkX11_237 ml_Re_next vl_Re_next ⟨rfl, rfl, Nat.le_of_ble_eq_true rfl, Nat.le_of_ble_eq_true rfl⟩ (c_Re_next g.2.1 r_x3 q9 r_x1 e10) kB_1 rfl ⟨by decide, by decide⟩ rfl rfl (c1s_i c1s_0 (Nat.le_of_ble_eq_true rfl)) (fun q12 => ?_)
    refine J_if_eq 40 o dX11_brokenIn_33 (by decide) q12 (fun c13 => ?_) (fun c14 => ?_)
    · have hf := ite_t c13 hf
      refine J_iconst o dX11_brokenIn_40 ?_
      exact t_Re_brokenIn_41 k r_x1 r_x3 r_x2 rl0 hf hc
    · have hf := ite_f c14 hf
      refine J_iconst o dX11_brokenIn_36 ?_
      refine J_goto 41 o dX11_brokenIn_37 (by decide) ?_
      exact t_Re_brokenIn_41 k r_x1 r_x3 r_x2 rl1 hf hc
noncomputable def f_Re_brokenIn_5 (w : World) (x1 : Int) (x2 : Int) (x3 : Int) : Option (World × Int) :=
  lp (fun z : (World × Int × Int) => f_Re_brokenIn_5B z.1 x1 z.2.1 z.2.2) (w, x2, x3)
theorem t_Re_brokenIn_5 {E : EE} {K : KT} {l : Launch} {H0 : Heap} (k : Kof TB E K l cX11_brokenIn RX11 rm_Re_brokenIn) {w : World} {x1 : Int} {x2 : Int} {x3 : Int} (r_x1 : R32 x1) {out : (World × Int)} (hf : f_Re_brokenIn_5 w x1 x2 x3 = some out) (hc : (fun out : (World × Int) => RetI TB E K H0 cX11_brokenIn out.1 out.2) out) : HW_Re_brokenIn_5 E K H0 x1 (w, x2, x3) := by
  unfold f_Re_brokenIn_5 at hf
  refine lp_ind (P := HW_Re_brokenIn_5 E K H0 x1) hf ?_
  intro z o hs h1 h2
  intro r_x2 r_x3
  refine t_Re_brokenIn_5B k r_x1 r_x2 r_x3 hs ?_
  cases o with
  | inl z' => exact h1 z' rfl
  | inr r' => rw [h2 r' rfl]; exact hc
noncomputable def f_Re_brokenIn (w : World) (x1 : Int) : Option (World × Int) :=
  f_Re_brokenIn_5 w x1 0 12
theorem t_Re_brokenIn_0 {E : EE} {K : KT} {l : Launch} {H0 : Heap} (k : Kof TB E K l cX11_brokenIn RX11 rm_Re_brokenIn) {w : World} {x1 : Int} {o2 o3 : Option Value} (r_x1 : R32 x1) {out : (World × Int)} (hf : f_Re_brokenIn w x1 = some out) (hc : (fun out : (World × Int) => RetI TB E K H0 cX11_brokenIn out.1 out.2) out) : Jj K (WdT TB E H0) w 0 [some (rf E.ad 1), some (.int (ii x1)), o2, o3] [] := by
  unfold f_Re_brokenIn at hf
  have o := k.1
  have g := k.2.1
  have kr := k.2.2.1
  refine J_iconst o dX11_brokenIn_0 ?_
  refine J_istore_n o dX11_brokenIn_1 (Nat.le_of_ble_eq_true rfl) ?_
  refine J_bipush o dX11_brokenIn_2 (by decide) ?_
  refine J_istore_n o dX11_brokenIn_4 (Nat.le_of_ble_eq_true rfl) ?_
  exact (t_Re_brokenIn_5 k r_x1 hf hc) rl0 rl12 
theorem c_Re_brokenIn {E : EE} {l : Launch} (hI : Inj TB E) {w : World} {x1 : Int} (r_x1 : R32 x1) {out : (World × Int)} (hf : f_Re_brokenIn w x1 = some out) : ConI TB E l yX11_brokenIn (WS yX11_brokenIn cX11_brokenIn 4 (some .int)) rm_Re_brokenIn [rf E.ad 1, .int (ii x1)] w out.1 out.2 :=
  con_I (by decide +kernel) rfl (Nat.le_of_ble_eq_true rfl) (c1s_r (c1s_i c1s_0 (Nat.le_of_ble_eq_true rfl)) (Nat.le_of_ble_eq_true rfl)).1 ⟨rfl, rfl⟩ hI TnB (fun K H0 k hret => t_Re_brokenIn_0 k r_x1 hf hret)
