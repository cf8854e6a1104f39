abbrev rm_Re_headValue : Room := { frames := 2, cells := 0, slots := 0, locals := 45 }
noncomputable def f_Re_headValue (w : World) (x1 : Int) (x2 : Int) : Option Int :=
  gd (0 ≤ x1 ∧ x1 < 19) (gd (0 ≤ w 14 x1.toNat ∧ w 14 x1.toNat < 10) (if (w 3 (w 14 x1.toNat).toNat) ≤ x2 then (some 0) else (gd (0 ≤ wr ((wr (3 * x1)) + x2) ∧ wr ((wr (3 * x1)) + x2) < 57) (bnd (f_Re_valueOf w (w 15 (wr ((wr (3 * x1)) + x2)).toNat)) fun v10 => some v10))))
theorem t_Re_headValue_0 {E : EE} {K : KT} {l : Launch} {H0 : Heap} (k : Kof TB E K l cX11_headValue RX11 rm_Re_headValue) {w : World} {x1 : Int} {x2 : Int} (r_x1 : R32 x1) (r_x2 : R32 x2) {out : Int} (hf : f_Re_headValue w x1 x2 = some out) (hc : (fun out : Int => RetI TB E K H0 cX11_headValue w out) out) : Jj K (WdT TB E H0) w 0 [some (rf E.ad 1), some (.int (ii x1)), some (.int (ii x2))] [] := by
  unfold f_Re_headValue at hf
  have o := k.1
  have g := k.2.1
  have kr := k.2.2.1
  refine J_iload_n o dX11_headValue_0 rfl ?_
  refine J_aload_n o dX11_headValue_1 rfl ?_
  refine J_getF (true, 3) o g dX11_headValue_2 flX11_13 kB_1 rfl rfl rfl ?_
  refine J_aload_n o dX11_headValue_5 rfl ?_
  refine J_getF (true, 14) o g dX11_headValue_6 flX11_47 kB_1 rfl rfl rfl ?_
  refine J_iload_n o dX11_headValue_9 rfl ?_
  obtain ⟨g1, hf⟩ := gd_some hf
  refine J_iald o g dX11_headValue_10 kB_14 r_x1 zB_14 g1 (fun q2 => ?_)
  obtain ⟨g3, hf⟩ := gd_some hf
  refine J_iald o g dX11_headValue_11 kB_3 q2 zB_3 g3 (fun q4 => ?_)
  refine J_icmp_ge 32 o dX11_headValue_12 (by decide) r_x2 q4 (fun c5 => ?_) (fun c6 => ?_)
  · have hf := ite_t c5 hf
    refine J_iconst o dX11_headValue_32 ?_
    have hf := some_inj hf
    subst hf
    exact hc _ _ rl0 dX11_headValue_33
  · have hf := ite_f c6 hf
    refine J_aload_n o dX11_headValue_15 rfl ?_
    refine J_aload_n o dX11_headValue_16 rfl ?_
    refine J_getF (true, 15) o g dX11_headValue_17 flX11_50 kB_1 rfl rfl rfl ?_
    refine J_iconst o dX11_headValue_20 ?_
    refine J_iload_n o dX11_headValue_21 rfl ?_
    refine J_imul o dX11_headValue_22 ?_
    refine J_iload_n o dX11_headValue_23 rfl ?_
    refine J_iadd o dX11_headValue_24 ?_
    obtain ⟨g7, hf⟩ := gd_some hf
    refine J_iald o g dX11_headValue_25 kB_15 (R_wr _) zB_15 g7 (fun q8 => ?_)
    obtain ⟨v10, e9, hf⟩ := bnd_some hf
    refine J_vI o g kr dX11_headValue_26 lkX11_193 ml_Re_valueOf vl_Re_valueOf ⟨rfl, rfl, Nat.le_of_ble_eq_true rfl, Nat.le_of_ble_eq_true rfl⟩ (c_Re_valueOf g.2.1 q8 e9) kB_1 rfl ⟨by decide, by decide⟩ rfl rfl c1s_0 (fun q11 => ?_)
    refine J_goto 33 o dX11_headValue_29 (by decide) ?_
    have hf := some_inj hf
    subst hf
    exact hc _ _ q11 dX11_headValue_33
theorem c_Re_headValue {E : EE} {l : Launch} (hI : Inj TB E) {w : World} {x1 : Int} {x2 : Int} (r_x1 : R32 x1) (r_x2 : R32 x2) {out : Int} (hf : f_Re_headValue w x1 x2 = some out) : ConI TB E l yX11_headValue (WS yX11_headValue cX11_headValue 3 (some .int)) rm_Re_headValue [rf E.ad 1, .int (ii x1), .int (ii x2)] w w out :=
  con_I (by decide +kernel) rfl (Nat.le_of_ble_eq_true rfl) (c1s_r (c1s_i (c1s_i c1s_0 (Nat.le_of_ble_eq_true rfl)) (Nat.le_of_ble_eq_true rfl)) (Nat.le_of_ble_eq_true rfl)).1 ⟨rfl, rfl⟩ hI TnB (fun K H0 k hret => t_Re_headValue_0 k r_x1 r_x2 hf hret)
abbrev rm_Re_round : Room := { frames := 6, cells := 0, slots := 0, locals := 144 }
def HW_Re_round_5 (E : EE) (K : KT) (H0 : Heap) (x1 : Int) (x2 : Int) : (World × Int × Int) → Prop := fun z => R32 z.2.1 → R32 z.2.2 → ∀ o5 : Option Value, Jj K (WdT TB E H0) z.1 5 [some (rf E.ad 1), some (.int (ii x1)), some (.int (ii x2)), some (.int (ii z.2.1)), some (.int (ii z.2.2)), o5] []
def HW_Re_round_44 (E : EE) (K : KT) (H0 : Heap) (x1 : Int) (x2 : Int) (x4 : Int) : (World × Int) → Prop := fun z => R32 z.2 → ∀ o5 : Option Value, Jj K (WdT TB E H0) z.1 44 [some (rf E.ad 1), some (.int (ii x1)), some (.int (ii x2)), some (.int (ii z.2)), some (.int (ii x4)), o5] []
noncomputable def f_Re_round_125 (w : World) (x1 : Int) (x2 : Int) (x3 : Int) (x4 : Int) : Option ((World × Int × Int) ⊕ (World × Int)) :=
  bl (wr (x4 + 1)) fun n1 => some (Sum.inl (w, x3, n1))
theorem t_Re_round_125 {E : EE} {K : KT} {l : Launch} {H0 : Heap} (k : Kof TB E K l cX11_round RX11 rm_Re_round) {w : World} {x1 : Int} {x2 : Int} {x3 : Int} {x4 : Int} {o5 : Option Value} (r_x1 : R32 x1) (r_x2 : R32 x2) (r_x3 : R32 x3) (r_x4 : R32 x4) {out : ((World × Int × Int) ⊕ (World × Int))} (hf : f_Re_round_125 w x1 x2 x3 x4 = some out) (hc : (Sum.elim (HW_Re_round_5 E K H0 x1 x2) (fun out : (World × Int) => RetZ TB E K H0 cX11_round out.1 out.2)) out) : Jj K (WdT TB E H0) w 125 [some (rf E.ad 1), some (.int (ii x1)), some (.int (ii x2)), some (.int (ii x3)), some (.int (ii x4)), o5] [] := by
  unfold f_Re_round_125 at hf
  have o := k.1
  have g := k.2.1
  have kr := k.2.2.1
  have hf := bl_out hf
  refine J_iinc o dX11_round_125 rfl ?_
  refine J_goto 5 o dX11_round_128 (by decide) ?_
  have hf := some_inj hf
  subst hf
  exact hc r_x3 (R_wr _) _
noncomputable def f_Re_round_121 (w : World) (x1 : Int) (x2 : Int) (x4 : Int) (s0 : Int) : Option ((World × Int) ⊕ ((World × Int × Int) ⊕ (World × Int))) :=
  some (Sum.inl (w, s0))
theorem t_Re_round_121 {E : EE} {K : KT} {l : Launch} {H0 : Heap} (k : Kof TB E K l cX11_round RX11 rm_Re_round) {w : World} {x1 : Int} {x2 : Int} {x4 : Int} {s0 : Int} {o3 o5 : Option Value} (r_x1 : R32 x1) (r_x2 : R32 x2) (r_x4 : R32 x4) (r_s0 : R32 s0) {out : ((World × Int) ⊕ ((World × Int × Int) ⊕ (World × Int)))} (hf : f_Re_round_121 w x1 x2 x4 s0 = some out) (hc : (Sum.elim (HW_Re_round_44 E K H0 x1 x2 x4) (Sum.elim (HW_Re_round_5 E K H0 x1 x2) (fun out : (World × Int) => RetZ TB E K H0 cX11_round out.1 out.2))) out) : Jj K (WdT TB E H0) w 121 [some (rf E.ad 1), some (.int (ii x1)), some (.int (ii x2)), o3, some (.int (ii x4)), o5] [.int (ii s0)] := by
  unfold f_Re_round_121 at hf
  have o := k.1
  have g := k.2.1
  have kr := k.2.2.1
  refine J_istore_n o dX11_round_121 (Nat.le_of_ble_eq_true rfl) ?_
  refine J_goto 44 o dX11_round_122 (by decide) ?_
  have hf := some_inj hf
  subst hf
  exact hc r_s0 _
noncomputable def f_Re_round_116 (w : World) (x1 : Int) (x2 : Int) (x4 : Int) : Option ((World × Int) ⊕ ((World × Int × Int) ⊕ (World × Int))) :=
  f_Re_round_121 w x1 x2 x4 1
theorem t_Re_round_116 {E : EE} {K : KT} {l : Launch} {H0 : Heap} (k : Kof TB E K l cX11_round RX11 rm_Re_round) {w : World} {x1 : Int} {x2 : Int} {x4 : Int} {o3 o5 : Option Value} (r_x1 : R32 x1) (r_x2 : R32 x2) (r_x4 : R32 x4) {out : ((World × Int) ⊕ ((World × Int × Int) ⊕ (World × Int)))} (hf : f_Re_round_116 w x1 x2 x4 = some out) (hc : (Sum.elim (HW_Re_round_44 E K H0 x1 x2 x4) (Sum.elim (HW_Re_round_5 E K H0 x1 x2) (fun out : (World × Int) => RetZ TB E K H0 cX11_round out.1 out.2))) out) : Jj K (WdT TB E H0) w 116 [some (rf E.ad 1), some (.int (ii x1)), some (.int (ii x2)), o3, some (.int (ii x4)), o5] [] := by
  unfold f_Re_round_116 at hf
  have o := k.1
  have g := k.2.1
  have kr := k.2.2.1
  refine J_iconst o dX11_round_116 ?_
  refine J_goto 121 o dX11_round_117 (by decide) ?_
  exact t_Re_round_121 k r_x1 r_x2 r_x4 rl1 hf hc
noncomputable def f_Re_round_44B (w : World) (x1 : Int) (x2 : Int) (x3 : Int) (x4 : Int) : Option ((World × Int) ⊕ ((World × Int × Int) ⊕ (World × Int))) :=
  gd (0 ≤ x1 ∧ x1 < 5) (if 48 < (w 20 x1.toNat) then (bnd (f_Re_round_125 w x1 x2 x3 x4) fun y5 => some (Sum.inr y5)) else (gd (0 ≤ x4 ∧ x4 < 19) (bnd (f_Re_next w x4 (w 16 x4.toNat) x1) fun v9 => if v9.2 = 0 then (bnd (f_Re_round_125 v9.1 x1 x2 x3 x4) fun y13 => some (Sum.inr y13)) else (gd (0 ≤ x4 ∧ x4 < 19) (bnd (f_Re_headValue v9.1 x4 0) fun v17 => bnd (f_Re_headValue v9.1 x4 1) fun v20 => bnd (f_Re_headValue v9.1 x4 2) fun v23 => bnd (f_Re_take v9.1 x1 (v9.1 14 x4.toNat) v17 v20 v23) fun v26 => if x3 = 0 then (if v26.2 = 0 then (f_Re_round_121 v26.1 x1 x2 x4 0) else (f_Re_round_116 v26.1 x1 x2 x4)) else (f_Re_round_116 v26.1 x1 x2 x4))))))
theorem t_Re_round_44B {E : EE} {K : KT} {l : Launch} {H0 : Heap} (k : Kof TB E K l cX11_round RX11 rm_Re_round) {w : World} {x1 : Int} {x2 : Int} {x3 : Int} {x4 : Int} {o5 : Option Value} (r_x1 : R32 x1) (r_x2 : R32 x2) (r_x3 : R32 x3) (r_x4 : R32 x4) {out : ((World × Int) ⊕ ((World × Int × Int) ⊕ (World × Int)))} (hf : f_Re_round_44B w x1 x2 x3 x4 = some out) (hc : (Sum.elim (HW_Re_round_44 E K H0 x1 x2 x4) (Sum.elim (HW_Re_round_5 E K H0 x1 x2) (fun out : (World × Int) => RetZ TB E K H0 cX11_round out.1 out.2))) out) : Jj K (WdT TB E H0) w 44 [some (rf E.ad 1), some (.int (ii x1)), some (.int (ii x2)), some (.int (ii x3)), some (.int (ii x4)), o5] [] := by
  unfold f_Re_round_44B at hf
  have o := k.1
  have g := k.2.1
  have kr := k.2.2.1
  refine J_aload_n o dX11_round_44 rfl ?_
  refine J_getF (true, 20) o g dX11_round_45 flX11_65 kB_1 rfl rfl rfl ?_
  refine J_iload_n o dX11_round_48 rfl ?_
  obtain ⟨g1, hf⟩ := gd_some hf
  refine J_iald o g dX11_round_49 kB_20 r_x1 zB_20 g1 (fun q2 => ?_)
  refine J_bipush o dX11_round_50 (by decide) ?_
  refine J_icmp_gt 125 o dX11_round_52 (by decide) q2 rl48 (fun c3 => ?_) (fun c4 => ?_)
  · have hf := ite_t c3 hf
    obtain ⟨y5, hf1, hf⟩ := bnd_some hf
    have hf := some_inj hf
    subst hf
    exact t_Re_round_125 k r_x1 r_x2 r_x3 r_x4 hf1 hc
  · have hf := ite_f c4 hf
    refine J_aload_n o dX11_round_55 rfl ?_
    refine J_iload o dX11_round_56 rfl ?_
    refine J_aload_n o dX11_round_58 rfl ?_
    refine J_getF (true, 16) o g dX11_round_59 flX11_53 kB_1 rfl rfl rfl ?_
    refine J_iload o dX11_round_62 rfl ?_
    obtain ⟨g6, hf⟩ := gd_some hf
    refine J_iald o g dX11_round_64 kB_16 r_x4 zB_16 g6 (fun q7 => ?_)
    refine J_iload_n o dX11_round_65 rfl ?_
    obtain ⟨v9, e8, hf⟩ := bnd_some hf
    refine J_vI o g kr dX11_round_66 lkX11_237 ml_Re_next vl_Re_next ⟨rfl, rfl, Nat.le_of_ble_eq_true rfl, Nat.le_of_ble_eq_true rfl⟩ (c_Re_next g.2.1 r_x4 q7 r_x1 e8) kB_1 rfl ⟨by decide, by decide⟩ rfl rfl c1s_0 (fun q10 => ?_)
    refine J_if_eq 125 o dX11_round_69 (by decide) q10 (fun c11 => ?_) (fun c12 => ?_)
    · have hf := ite_t c11 hf
      obtain ⟨y13, hf1, hf⟩ := bnd_some hf
      have hf := some_inj hf
      subst hf
      exact t_Re_round_125 k r_x1 r_x2 r_x3 r_x4 hf1 hc
    · have hf := ite_f c12 hf
      refine J_aload_n o dX11_round_72 rfl ?_
      refine J_iload_n o dX11_round_73 rfl ?_
      refine J_aload_n o dX11_round_74 rfl ?_
      refine J_getF (true, 14) o g dX11_round_75 flX11_47 kB_1 rfl rfl rfl ?_
      refine J_iload o dX11_round_78 rfl ?_
      obtain ⟨g14, hf⟩ := gd_some hf
      refine J_iald o g dX11_round_80 kB_14 r_x4 zB_14 g14 (fun q15 => ?_)
      refine J_aload_n o dX11_round_81 rfl ?_
      refine J_iload o dX11_round_82 rfl ?_
      refine J_iconst o dX11_round_84 ?_
      obtain ⟨v17, e16, hf⟩ := bnd_some hf
      refine J_vI o g kr dX11_round_85 lkX11_240 ml_Re_headValue vl_Re_headValue ⟨rfl, rfl, Nat.le_of_ble_eq_true rfl, Nat.le_of_ble_eq_true rfl⟩ (c_Re_headValue g.2.1 r_x4 rl0 e16) kB_1 rfl ⟨by decide, by decide⟩ rfl rfl (c1s_i (c1s_i (c1s_r c1s_0 (Nat.le_of_ble_eq_true rfl)) (Nat.le_of_ble_eq_true rfl)) (Nat.le_of_ble_eq_true rfl)) (fun q18 => ?_)
      refine J_aload_n o dX11_round_88 rfl ?_
      refine J_iload o dX11_round_89 rfl ?_
      refine J_iconst o dX11_round_91 ?_
      obtain ⟨v20, e19, hf⟩ := bnd_some hf
      refine J_vI o g kr dX11_round_92 lkX11_240 ml_Re_headValue vl_Re_headValue ⟨rfl, rfl, Nat.le_of_ble_eq_true rfl, Nat.le_of_ble_eq_true rfl⟩ (c_Re_headValue g.2.1 r_x4 rl1 e19) kB_1 rfl ⟨by decide, by decide⟩ rfl rfl (c1s_i (c1s_i (c1s_i (c1s_r c1s_0 (Nat.le_of_ble_eq_true rfl)) (Nat.le_of_ble_eq_true rfl)) (Nat.le_of_ble_eq_true rfl)) (Nat.le_of_ble_eq_true rfl)) (fun q21 => ?_)
      refine J_aload_n o dX11_round_95 rfl ?_
      refine J_iload o dX11_round_96 rfl ?_
      refine J_iconst o dX11_round_98 ?_
      obtain ⟨v23, e22, hf⟩ := bnd_some hf
      refine J_vI o g kr dX11_round_99 lkX11_240 ml_Re_headValue vl_Re_headValue ⟨rfl, rfl, Nat.le_of_ble_eq_true rfl, Nat.le_of_ble_eq_true rfl⟩ (c_Re_headValue g.2.1 r_x4 rl2 e22) kB_1 rfl ⟨by decide, by decide⟩ rfl rfl (c1s_i (c1s_i (c1s_i (c1s_i (c1s_r c1s_0 (Nat.le_of_ble_eq_true rfl)) (Nat.le_of_ble_eq_true rfl)) (Nat.le_of_ble_eq_true rfl)) (Nat.le_of_ble_eq_true rfl)) (Nat.le_of_ble_eq_true rfl)) (fun q24 => ?_)
      obtain ⟨v26, e25, hf⟩ := bnd_some hf
      refine J_vI o g kr dX11_round_102 lkX11_227 ml_Re_take vl_Re_take ⟨rfl, rfl, Nat.le_of_ble_eq_true rfl, Nat.le_of_ble_eq_true rfl⟩ (c_Re_take g.2.1 r_x1 q15 q18 q21 q24 e25) kB_1 rfl ⟨by decide, by decide⟩ rfl rfl c1s_0 (fun q27 => ?_)
      refine J_istore o dX11_round_105 (Nat.le_of_ble_eq_true rfl) ?_
      refine J_iload_n o dX11_round_107 rfl ?_
      refine J_if_ne 116 o dX11_round_108 (by decide) r_x3 (fun c28 => ?_) (fun c29 => ?_)
      · have hf := ite_f c28 hf
        exact t_Re_round_116 k r_x1 r_x2 r_x4 hf hc
      · have hf := ite_t c29 hf
        refine J_iload o dX11_round_111 rfl ?_
        refine J_if_eq 120 o dX11_round_113 (by decide) q27 (fun c30 => ?_) (fun c31 => ?_)
        · have hf := ite_t c30 hf
          refine J_iconst o dX11_round_120 ?_
          exact t_Re_round_121 k r_x1 r_x2 r_x4 rl0 hf hc
        · have hf := ite_f c31 hf
          exact t_Re_round_116 k r_x1 r_x2 r_x4 hf hc
noncomputable def f_Re_round_44 (w : World) (x1 : Int) (x2 : Int) (x3 : Int) (x4 : Int) : Option ((World × Int × Int) ⊕ (World × Int)) :=
  lp (fun z : (World × Int) => f_Re_round_44B z.1 x1 x2 z.2 x4) (w, x3)
theorem t_Re_round_44 {E : EE} {K : KT} {l : Launch} {H0 : Heap} (k : Kof TB E K l cX11_round RX11 rm_Re_round) {w : World} {x1 : Int} {x2 : Int} {x3 : Int} {x4 : Int} (r_x1 : R32 x1) (r_x2 : R32 x2) (r_x4 : R32 x4) {out : ((World × Int × Int) ⊕ (World × Int))} (hf : f_Re_round_44 w x1 x2 x3 x4 = some out) (hc : (Sum.elim (HW_Re_round_5 E K H0 x1 x2) (fun out : (World × Int) => RetZ TB E K H0 cX11_round out.1 out.2)) out) : HW_Re_round_44 E K H0 x1 x2 x4 (w, x3) := by
  unfold f_Re_round_44 at hf
  refine lp_ind (P := HW_Re_round_44 E K H0 x1 x2 x4) hf ?_
  intro z o hs h1 h2
  intro r_x3
  intro o5
  refine t_Re_round_44B k r_x1 r_x2 r_x3 r_x4 hs ?_
  cases o with
  | inl z' => exact h1 z' rfl
  | inr r' => rw [h2 r' rfl]; exact hc
noncomputable def f_Re_round_5B (w : World) (x1 : Int) (x2 : Int) (x3 : Int) (x4 : Int) : Option ((World × Int × Int) ⊕ (World × Int)) :=
  if (w 1 14) ≤ x4 then (gd (x3 = 0 ∨ x3 = 1) (some (Sum.inr (w, x3)))) else (gd (0 ≤ x4 ∧ x4 < 12) (if (w 13 x4.toNat) = 0 then (gd (0 ≤ x4 ∧ x4 < 19) (gd (0 ≤ w 14 x4.toNat ∧ w 14 x4.toNat < 10) (if (w 6 (w 14 x4.toNat).toNat) = x2 then (bnd (f_Re_begin w ) fun v16 => f_Re_round_44 v16 x1 x2 x3 x4) else (f_Re_round_125 w x1 x2 x3 x4)))) else (f_Re_round_125 w x1 x2 x3 x4)))
theorem t_Re_round_5B {E : EE} {K : KT} {l : Launch} {H0 : Heap} (k : Kof TB E K l cX11_round RX11 rm_Re_round) {w : World} {x1 : Int} {x2 : Int} {x3 : Int} {x4 : Int} {o5 : Option Value} (r_x1 : R32 x1) (r_x2 : R32 x2) (r_x3 : R32 x3) (r_x4 : R32 x4) {out : ((World × Int × Int) ⊕ (World × Int))} (hf : f_Re_round_5B w x1 x2 x3 x4 = some out) (hc : (Sum.elim (HW_Re_round_5 E K H0 x1 x2) (fun out : (World × Int) => RetZ TB E K H0 cX11_round out.1 out.2)) out) : Jj K (WdT TB E H0) w 5 [some (rf E.ad 1), some (.int (ii x1)), some (.int (ii x2)), some (.int (ii x3)), some (.int (ii x4)), o5] [] := by
  unfold f_Re_round_5B at hf
  have o := k.1
  have g := k.2.1
  have kr := k.2.2.1
  refine J_iload o dX11_round_5 rfl ?_
  refine J_aload_n o dX11_round_7 rfl ?_
  refine J_getI o g dX11_round_8 flX11_159 kB_1 rfl (fun q1 => ?_)
  refine J_icmp_ge 131 o dX11_round_11 (by decide) r_x4 q1 (fun c2 => ?_) (fun c3 => ?_)
  · have hf := ite_t c2 hf
    refine J_iload_n o dX11_round_131 rfl ?_
    obtain ⟨g4, hf⟩ := gd_some hf
    have hf := some_inj hf
    subst hf
    exact hc _ _ g4 dX11_round_132
  · have hf := ite_f c3 hf
    refine J_aload_n o dX11_round_14 rfl ?_
    refine J_getF (true, 13) o g dX11_round_15 flX11_44 kB_1 rfl rfl rfl ?_
    refine J_iload o dX11_round_18 rfl ?_
    obtain ⟨g5, hf⟩ := gd_some hf
    refine J_zald o g dX11_round_20 kB_13 r_x4 zB_13 g5 (fun q6 => ?_)
    refine J_if_ne 125 o dX11_round_21 (by decide) q6 (fun c7 => ?_) (fun c8 => ?_)
    · have hf := ite_f c7 hf
      exact t_Re_round_125 k r_x1 r_x2 r_x3 r_x4 hf hc
    · have hf := ite_t c8 hf
      refine J_aload_n o dX11_round_24 rfl ?_
      refine J_getF (true, 6) o g dX11_round_25 flX11_23 kB_1 rfl rfl rfl ?_
      refine J_aload_n o dX11_round_28 rfl ?_
      refine J_getF (true, 14) o g dX11_round_29 flX11_47 kB_1 rfl rfl rfl ?_
      refine J_iload o dX11_round_32 rfl ?_
      obtain ⟨g9, hf⟩ := gd_some hf
      refine J_iald o g dX11_round_34 kB_14 r_x4 zB_14 g9 (fun q10 => ?_)
      obtain ⟨g11, hf⟩ := gd_some hf
      refine J_iald o g dX11_round_35 kB_6 q10 zB_6 g11 (fun q12 => ?_)
      refine J_iload_n o dX11_round_36 rfl ?_
      refine J_icmp_ne 125 o dX11_round_37 (by decide) q12 r_x2 (fun c13 => ?_) (fun c14 => ?_)
      · have hf := ite_f c13 hf
        exact t_Re_round_125 k r_x1 r_x2 r_x3 r_x4 hf hc
      · have hf := ite_t c14 hf
        refine J_aload_n o dX11_round_40 rfl ?_
        obtain ⟨v16, e15, hf⟩ := bnd_some hf
        refine J_vV o g kr dX11_round_41 lkX11_234 ml_Re_begin vl_Re_begin ⟨rfl, rfl, Nat.le_of_ble_eq_true rfl, Nat.le_of_ble_eq_true rfl⟩ (c_Re_begin g.2.1  e15) kB_1 rfl ⟨by decide, by decide⟩ rfl rfl c1s_0 ?_
        exact (t_Re_round_44 k r_x1 r_x2 r_x4 hf hc) r_x3 _
noncomputable def f_Re_round_5 (w : World) (x1 : Int) (x2 : Int) (x3 : Int) (x4 : Int) : Option (World × Int) :=
  lp (fun z : (World × Int × Int) => f_Re_round_5B z.1 x1 x2 z.2.1 z.2.2) (w, x3, x4)
theorem t_Re_round_5 {E : EE} {K : KT} {l : Launch} {H0 : Heap} (k : Kof TB E K l cX11_round RX11 rm_Re_round) {w : World} {x1 : Int} {x2 : Int} {x3 : Int} {x4 : Int} (r_x1 : R32 x1) (r_x2 : R32 x2) {out : (World × Int)} (hf : f_Re_round_5 w x1 x2 x3 x4 = some out) (hc : (fun out : (World × Int) => RetZ TB E K H0 cX11_round out.1 out.2) out) : HW_Re_round_5 E K H0 x1 x2 (w, x3, x4) := by
  unfold f_Re_round_5 at hf
  refine lp_ind (P := HW_Re_round_5 E K H0 x1 x2) hf ?_
  intro z o hs h1 h2
  intro r_x3 r_x4
  intro o5
  refine t_Re_round_5B k r_x1 r_x2 r_x3 r_x4 hs ?_
  cases o with
  | inl z' => exact h1 z' rfl
  | inr r' => rw [h2 r' rfl]; exact hc
noncomputable def f_Re_round (w : World) (x1 : Int) (x2 : Int) : Option (World × Int) :=
  f_Re_round_5 w x1 x2 0 0
theorem t_Re_round_0 {E : EE} {K : KT} {l : Launch} {H0 : Heap} (k : Kof TB E K l cX11_round RX11 rm_Re_round) {w : World} {x1 : Int} {x2 : Int} {o3 o4 o5 : Option Value} (r_x1 : R32 x1) (r_x2 : R32 x2) {out : (World × Int)} (hf : f_Re_round w x1 x2 = some out) (hc : (fun out : (World × Int) => RetZ TB E K H0 cX11_round out.1 out.2) out) : Jj K (WdT TB E H0) w 0 [some (rf E.ad 1), some (.int (ii x1)), some (.int (ii x2)), o3, o4, o5] [] := by
  unfold f_Re_round at hf
  have o := k.1
  have g := k.2.1
  have kr := k.2.2.1
  refine J_iconst o dX11_round_0 ?_
  refine J_istore_n o dX11_round_1 (Nat.le_of_ble_eq_true rfl) ?_
  refine J_iconst o dX11_round_2 ?_
  refine J_istore o dX11_round_3 (Nat.le_of_ble_eq_true rfl) ?_
  exact (t_Re_round_5 k r_x1 r_x2 hf hc) rl0 rl0 _
theorem c_Re_round {E : EE} {l : Launch} (hI : Inj TB E) {w : World} {x1 : Int} {x2 : Int} (r_x1 : R32 x1) (r_x2 : R32 x2) {out : (World × Int)} (hf : f_Re_round w x1 x2 = some out) : ConI TB E l yX11_round (WS yX11_round cX11_round 6 (some .boolean)) rm_Re_round [rf E.ad 1, .int (ii x1), .int (ii x2)] w out.1 out.2 :=
  con_Z (by decide +kernel) rfl (Nat.le_of_ble_eq_true rfl) (c1s_r (c1s_i (c1s_i c1s_0 (Nat.le_of_ble_eq_true rfl)) (Nat.le_of_ble_eq_true rfl)) (Nat.le_of_ble_eq_true rfl)).1 ⟨rfl, rfl⟩ hI TnB (fun K H0 k hret => t_Re_round_0 k r_x1 r_x2 hf hret)
abbrev rm_Re_build : Room := { frames := 7, cells := 0, slots := 0, locals := 169 }
def HW_Re_build_13 (E : EE) (K : KT) (H0 : Heap) (x1 : Int) (x2 : Int) (x3 : Int) : (World × Int × Int) → Prop := fun z => R32 z.2.1 → R32 z.2.2 → ∀ o6 : Option Value, Jj K (WdT TB E H0) z.1 13 [some (rf E.ad 1), some (.int (ii x1)), some (.int (ii x2)), some (.int (ii x3)), some (.int (ii z.2.1)), some (.int (ii z.2.2)), o6] []
def HW_Re_build_28 (E : EE) (K : KT) (H0 : Heap) (x1 : Int) (x2 : Int) (x3 : Int) (x5 : Int) : (World × Int × Int) → Prop := fun z => R32 z.2.1 → R32 z.2.2 → Jj K (WdT TB E H0) z.1 28 [some (rf E.ad 1), some (.int (ii x1)), some (.int (ii x2)), some (.int (ii x3)), some (.int (ii z.2.1)), some (.int (ii x5)), some (.int (ii z.2.2))] []
def HW_Re_build_142 (E : EE) (K : KT) (H0 : Heap) (x1 : Int) (x2 : Int) (x3 : Int) (x5 : Int) : (World × Int × Int) → Prop := fun z => R32 z.2.1 → R32 z.2.2 → Jj K (WdT TB E H0) z.1 142 [some (rf E.ad 1), some (.int (ii x1)), some (.int (ii x2)), some (.int (ii x3)), some (.int (ii z.2.1)), some (.int (ii x5)), some (.int (ii z.2.2))] []
noncomputable def f_Re_build_189 (w : World) (x1 : Int) (x2 : Int) (x3 : Int) (x4 : Int) (x5 : Int) (s0 : Int) : Option ((World × Int × Int) ⊕ ((World × Int × Int) ⊕ (World × Int))) :=
  some (Sum.inl (w, x4, s0))
theorem t_Re_build_189 {E : EE} {K : KT} {l : Launch} {H0 : Heap} (k : Kof TB E K l cX11_build RX11 rm_Re_build) {w : World} {x1 : Int} {x2 : Int} {x3 : Int} {x4 : Int} {x5 : Int} {s0 : Int} {o6 : Option Value} (r_x1 : R32 x1) (r_x2 : R32 x2) (r_x3 : R32 x3) (r_x4 : R32 x4) (r_x5 : R32 x5) (r_s0 : R32 s0) {out : ((World × Int × Int) ⊕ ((World × Int × Int) ⊕ (World × Int)))} (hf : f_Re_build_189 w x1 x2 x3 x4 x5 s0 = some out) (hc : (Sum.elim (HW_Re_build_142 E K H0 x1 x2 x3 x5) (Sum.elim (HW_Re_build_13 E K H0 x1 x2 x3) (fun out : (World × Int) => RetZ TB E K H0 cX11_build out.1 out.2))) out) : Jj K (WdT TB E H0) w 189 [some (rf E.ad 1), some (.int (ii x1)), some (.int (ii x2)), some (.int (ii x3)), some (.int (ii x4)), some (.int (ii x5)), o6] [.int (ii s0)] := by
  unfold f_Re_build_189 at hf
  have o := k.1
  have g := k.2.1
  have kr := k.2.2.1
  refine J_istore o dX11_build_189 (Nat.le_of_ble_eq_true rfl) ?_
  refine J_goto 142 o dX11_build_191 (by decide) ?_
  have hf := some_inj hf
  subst hf
  exact hc r_x4 r_s0 
noncomputable def f_Re_build_188 (w : World) (x1 : Int) (x2 : Int) (x3 : Int) (x4 : Int) (x5 : Int) : Option ((World × Int × Int) ⊕ ((World × Int × Int) ⊕ (World × Int))) :=
  f_Re_build_189 w x1 x2 x3 x4 x5 0
theorem t_Re_build_188 {E : EE} {K : KT} {l : Launch} {H0 : Heap} (k : Kof TB E K l cX11_build RX11 rm_Re_build) {w : World} {x1 : Int} {x2 : Int} {x3 : Int} {x4 : Int} {x5 : Int} {o6 : Option Value} (r_x1 : R32 x1) (r_x2 : R32 x2) (r_x3 : R32 x3) (r_x4 : R32 x4) (r_x5 : R32 x5) {out : ((World × Int × Int) ⊕ ((World × Int × Int) ⊕ (World × Int)))} (hf : f_Re_build_188 w x1 x2 x3 x4 x5 = some out) (hc : (Sum.elim (HW_Re_build_142 E K H0 x1 x2 x3 x5) (Sum.elim (HW_Re_build_13 E K H0 x1 x2 x3) (fun out : (World × Int) => RetZ TB E K H0 cX11_build out.1 out.2))) out) : Jj K (WdT TB E H0) w 188 [some (rf E.ad 1), some (.int (ii x1)), some (.int (ii x2)), some (.int (ii x3)), some (.int (ii x4)), some (.int (ii x5)), o6] [] := by
  unfold f_Re_build_188 at hf
  have o := k.1
  have g := k.2.1
  have kr := k.2.2.1
  refine J_iconst o dX11_build_188 ?_
  exact t_Re_build_189 k r_x1 r_x2 r_x3 r_x4 r_x5 rl0 hf hc
noncomputable def f_Re_build_172 (w : World) (x1 : Int) (x2 : Int) (x3 : Int) (x5 : Int) (x6 : Int) (s0 : Int) : Option ((World × Int × Int) ⊕ ((World × Int × Int) ⊕ (World × Int))) :=
  if x6 = 0 then (f_Re_build_188 w x1 x2 x3 s0 x5) else (if s0 = 0 then (f_Re_build_188 w x1 x2 x3 s0 x5) else (f_Re_build_189 w x1 x2 x3 s0 x5 1))
theorem t_Re_build_172 {E : EE} {K : KT} {l : Launch} {H0 : Heap} (k : Kof TB E K l cX11_build RX11 rm_Re_build) {w : World} {x1 : Int} {x2 : Int} {x3 : Int} {x5 : Int} {x6 : Int} {s0 : Int} {o4 : Option Value} (r_x1 : R32 x1) (r_x2 : R32 x2) (r_x3 : R32 x3) (r_x5 : R32 x5) (r_x6 : R32 x6) (r_s0 : R32 s0) {out : ((World × Int × Int) ⊕ ((World × Int × Int) ⊕ (World × Int)))} (hf : f_Re_build_172 w x1 x2 x3 x5 x6 s0 = some out) (hc : (Sum.elim (HW_Re_build_142 E K H0 x1 x2 x3 x5) (Sum.elim (HW_Re_build_13 E K H0 x1 x2 x3) (fun out : (World × Int) => RetZ TB E K H0 cX11_build out.1 out.2))) out) : Jj K (WdT TB E H0) w 172 [some (rf E.ad 1), some (.int (ii x1)), some (.int (ii x2)), some (.int (ii x3)), o4, some (.int (ii x5)), some (.int (ii x6))] [.int (ii s0)] := by
  unfold f_Re_build_172 at hf
  have o := k.1
  have g := k.2.1
  have kr := k.2.2.1
  refine J_istore o dX11_build_172 (Nat.le_of_ble_eq_true rfl) ?_
  refine J_iload o dX11_build_174 rfl ?_
  refine J_if_eq 188 o dX11_build_176 (by decide) r_x6 (fun c1 => ?_) (fun c2 => ?_)
  · have hf := ite_t c1 hf
    exact t_Re_build_188 k r_x1 r_x2 r_x3 r_s0 r_x5 hf hc
  · have hf := ite_f c2 hf
    refine J_iload o dX11_build_179 rfl ?_
    refine J_if_eq 188 o dX11_build_181 (by decide) r_s0 (fun c3 => ?_) (fun c4 => ?_)
    · have hf := ite_t c3 hf
      exact t_Re_build_188 k r_x1 r_x2 r_x3 r_s0 r_x5 hf hc
    · have hf := ite_f c4 hf
      refine J_iconst o dX11_build_184 ?_
      refine J_goto 189 o dX11_build_185 (by decide) ?_
      exact t_Re_build_189 k r_x1 r_x2 r_x3 r_s0 r_x5 rl1 hf hc
noncomputable def f_Re_build_142B (w : World) (x1 : Int) (x2 : Int) (x3 : Int) (x4 : Int) (x5 : Int) (x6 : Int) : Option ((World × Int × Int) ⊕ ((World × Int × Int) ⊕ (World × Int))) :=
  if x6 = 0 then (bl (wr (x5 + 1)) fun n3 => some (Sum.inr (Sum.inl (w, x4, n3)))) else (bnd (f_Re_round w x1 x5) fun v5 => gd (0 ≤ x1 ∧ x1 < 5) (if 48 < (v5.1 20 x1.toNat) then (f_Re_build_172 v5.1 x1 x2 x3 x5 v5.2 0) else (f_Re_build_172 v5.1 x1 x2 x3 x5 v5.2 1)))
theorem t_Re_build_142B {E : EE} {K : KT} {l : Launch} {H0 : Heap} (k : Kof TB E K l cX11_build RX11 rm_Re_build) {w : World} {x1 : Int} {x2 : Int} {x3 : Int} {x4 : Int} {x5 : Int} {x6 : Int} (r_x1 : R32 x1) (r_x2 : R32 x2) (r_x3 : R32 x3) (r_x4 : R32 x4) (r_x5 : R32 x5) (r_x6 : R32 x6) {out : ((World × Int × Int) ⊕ ((World × Int × Int) ⊕ (World × Int)))} (hf : f_Re_build_142B w x1 x2 x3 x4 x5 x6 = some out) (hc : (Sum.elim (HW_Re_build_142 E K H0 x1 x2 x3 x5) (Sum.elim (HW_Re_build_13 E K H0 x1 x2 x3) (fun out : (World × Int) => RetZ TB E K H0 cX11_build out.1 out.2))) out) : Jj K (WdT TB E H0) w 142 [some (rf E.ad 1), some (.int (ii x1)), some (.int (ii x2)), some (.int (ii x3)), some (.int (ii x4)), some (.int (ii x5)), some (.int (ii x6))] [] := by
  unfold f_Re_build_142B at hf
  have o := k.1
  have g := k.2.1
  have kr := k.2.2.1
  refine J_iload o dX11_build_142 rfl ?_
  refine J_if_eq 194 o dX11_build_144 (by decide) r_x6 (fun c1 => ?_) (fun c2 => ?_)
  · have hf := ite_t c1 hf
    have hf := bl_out hf
    refine J_iinc o dX11_build_194 rfl ?_
    refine J_goto 13 o dX11_build_197 (by decide) ?_
    have hf := some_inj hf
    subst hf
    exact hc r_x4 (R_wr _) _
  · have hf := ite_f c2 hf
    refine J_aload_n o dX11_build_147 rfl ?_
    refine J_iload_n o dX11_build_148 rfl ?_
    refine J_iload o dX11_build_149 rfl ?_
    obtain ⟨v5, e4, hf⟩ := bnd_some hf
    refine J_vI o g kr dX11_build_151 lkX11_231 ml_Re_round vl_Re_round ⟨rfl, rfl, Nat.le_of_ble_eq_true rfl, Nat.le_of_ble_eq_true rfl⟩ (c_Re_round g.2.1 r_x1 r_x5 e4) kB_1 rfl ⟨by decide, by decide⟩ rfl rfl c1s_0 (fun q6 => ?_)
    refine J_istore o dX11_build_154 (Nat.le_of_ble_eq_true rfl) ?_
    refine J_aload_n o dX11_build_156 rfl ?_
    refine J_getF (true, 20) o g dX11_build_157 flX11_65 kB_1 rfl rfl rfl ?_
    refine J_iload_n o dX11_build_160 rfl ?_
    obtain ⟨g7, hf⟩ := gd_some hf
    refine J_iald o g dX11_build_161 kB_20 r_x1 zB_20 g7 (fun q8 => ?_)
    refine J_bipush o dX11_build_162 (by decide) ?_
    refine J_icmp_gt 171 o dX11_build_164 (by decide) q8 rl48 (fun c9 => ?_) (fun c10 => ?_)
    · have hf := ite_t c9 hf
      refine J_iconst o dX11_build_171 ?_
      exact t_Re_build_172 k r_x1 r_x2 r_x3 r_x5 q6 rl0 hf hc
    · have hf := ite_f c10 hf
      refine J_iconst o dX11_build_167 ?_
      refine J_goto 172 o dX11_build_168 (by decide) ?_
      exact t_Re_build_172 k r_x1 r_x2 r_x3 r_x5 q6 rl1 hf hc
noncomputable def f_Re_build_142 (w : World) (x1 : Int) (x2 : Int) (x3 : Int) (x4 : Int) (x5 : Int) (x6 : Int) : Option ((World × Int × Int) ⊕ (World × Int)) :=
  lp (fun z : (World × Int × Int) => f_Re_build_142B z.1 x1 x2 x3 z.2.1 x5 z.2.2) (w, x4, x6)
theorem t_Re_build_142 {E : EE} {K : KT} {l : Launch} {H0 : Heap} (k : Kof TB E K l cX11_build RX11 rm_Re_build) {w : World} {x1 : Int} {x2 : Int} {x3 : Int} {x4 : Int} {x5 : Int} {x6 : Int} (r_x1 : R32 x1) (r_x2 : R32 x2) (r_x3 : R32 x3) (r_x5 : R32 x5) {out : ((World × Int × Int) ⊕ (World × Int))} (hf : f_Re_build_142 w x1 x2 x3 x4 x5 x6 = some out) (hc : (Sum.elim (HW_Re_build_13 E K H0 x1 x2 x3) (fun out : (World × Int) => RetZ TB E K H0 cX11_build out.1 out.2)) out) : HW_Re_build_142 E K H0 x1 x2 x3 x5 (w, x4, x6) := by
  unfold f_Re_build_142 at hf
  refine lp_ind (P := HW_Re_build_142 E K H0 x1 x2 x3 x5) hf ?_
  intro z o hs h1 h2
  intro r_x4 r_x6
  refine t_Re_build_142B k r_x1 r_x2 r_x3 r_x4 r_x5 r_x6 hs ?_
  cases o with
  | inl z' => exact h1 z' rfl
  | inr r' => rw [h2 r' rfl]; exact hc
noncomputable def f_Re_build_138 (w : World) (x1 : Int) (x2 : Int) (x3 : Int) (x4 : Int) (x5 : Int) : Option ((World × Int × Int) ⊕ (World × Int)) :=
  f_Re_build_142 w x1 x2 x3 x4 x5 x4
theorem t_Re_build_138 {E : EE} {K : KT} {l : Launch} {H0 : Heap} (k : Kof TB E K l cX11_build RX11 rm_Re_build) {w : World} {x1 : Int} {x2 : Int} {x3 : Int} {x4 : Int} {x5 : Int} {o6 : Option Value} (r_x1 : R32 x1) (r_x2 : R32 x2) (r_x3 : R32 x3) (r_x4 : R32 x4) (r_x5 : R32 x5) {out : ((World × Int × Int) ⊕ (World × Int))} (hf : f_Re_build_138 w x1 x2 x3 x4 x5 = some out) (hc : (Sum.elim (HW_Re_build_13 E K H0 x1 x2 x3) (fun out : (World × Int) => RetZ TB E K H0 cX11_build out.1 out.2)) out) : Jj K (WdT TB E H0) w 138 [some (rf E.ad 1), some (.int (ii x1)), some (.int (ii x2)), some (.int (ii x3)), some (.int (ii x4)), some (.int (ii x5)), o6] [] := by
  unfold f_Re_build_138 at hf
  have o := k.1
  have g := k.2.1
  have kr := k.2.2.1
  refine J_iload o dX11_build_138 rfl ?_
  refine J_istore o dX11_build_140 (Nat.le_of_ble_eq_true rfl) ?_
  exact (t_Re_build_142 k r_x1 r_x2 r_x3 r_x5 hf hc) r_x4 r_x4 
noncomputable def f_Re_build_132 (w : World) (x1 : Int) (x2 : Int) (x3 : Int) (x4 : Int) (x5 : Int) (x6 : Int) : Option ((World × Int × Int) ⊕ ((World × Int × Int) ⊕ (World × Int))) :=
  bl (wr (x6 + 1)) fun n1 => some (Sum.inl (w, x4, n1))
theorem t_Re_build_132 {E : EE} {K : KT} {l : Launch} {H0 : Heap} (k : Kof TB E K l cX11_build RX11 rm_Re_build) {w : World} {x1 : Int} {x2 : Int} {x3 : Int} {x4 : Int} {x5 : Int} {x6 : Int} (r_x1 : R32 x1) (r_x2 : R32 x2) (r_x3 : R32 x3) (r_x4 : R32 x4) (r_x5 : R32 x5) (r_x6 : R32 x6) {out : ((World × Int × Int) ⊕ ((World × Int × Int) ⊕ (World × Int)))} (hf : f_Re_build_132 w x1 x2 x3 x4 x5 x6 = some out) (hc : (Sum.elim (HW_Re_build_28 E K H0 x1 x2 x3 x5) (Sum.elim (HW_Re_build_13 E K H0 x1 x2 x3) (fun out : (World × Int) => RetZ TB E K H0 cX11_build out.1 out.2))) out) : Jj K (WdT TB E H0) w 132 [some (rf E.ad 1), some (.int (ii x1)), some (.int (ii x2)), some (.int (ii x3)), some (.int (ii x4)), some (.int (ii x5)), some (.int (ii x6))] [] := by
  unfold f_Re_build_132 at hf
  have o := k.1
  have g := k.2.1
  have kr := k.2.2.1
  have hf := bl_out hf
  refine J_iinc o dX11_build_132 rfl ?_
  refine J_goto 28 o dX11_build_135 (by decide) ?_
  have hf := some_inj hf
  subst hf
  exact hc r_x4 (R_wr _) 
noncomputable def f_Re_build_130 (w : World) (x1 : Int) (x2 : Int) (x3 : Int) (x5 : Int) (x6 : Int) (s0 : Int) : Option ((World × Int × Int) ⊕ ((World × Int × Int) ⊕ (World × Int))) :=
  f_Re_build_132 w x1 x2 x3 s0 x5 x6
theorem t_Re_build_130 {E : EE} {K : KT} {l : Launch} {H0 : Heap} (k : Kof TB E K l cX11_build RX11 rm_Re_build) {w : World} {x1 : Int} {x2 : Int} {x3 : Int} {x5 : Int} {x6 : Int} {s0 : Int} {o4 : Option Value} (r_x1 : R32 x1) (r_x2 : R32 x2) (r_x3 : R32 x3) (r_x5 : R32 x5) (r_x6 : R32 x6) (r_s0 : R32 s0) {out : ((World × Int × Int) ⊕ ((World × Int × Int) ⊕ (World × Int)))} (hf : f_Re_build_130 w x1 x2 x3 x5 x6 s0 = some out) (hc : (Sum.elim (HW_Re_build_28 E K H0 x1 x2 x3 x5) (Sum.elim (HW_Re_build_13 E K H0 x1 x2 x3) (fun out : (World × Int) => RetZ TB E K H0 cX11_build out.1 out.2))) out) : Jj K (WdT TB E H0) w 130 [some (rf E.ad 1), some (.int (ii x1)), some (.int (ii x2)), some (.int (ii x3)), o4, some (.int (ii x5)), some (.int (ii x6))] [.int (ii s0)] := by
  unfold f_Re_build_130 at hf
  have o := k.1
  have g := k.2.1
  have kr := k.2.2.1
  refine J_istore o dX11_build_130 (Nat.le_of_ble_eq_true rfl) ?_
  exact t_Re_build_132 k r_x1 r_x2 r_x3 r_s0 r_x5 r_x6 hf hc
noncomputable def f_Re_build_28B (w : World) (x1 : Int) (x2 : Int) (x3 : Int) (x4 : Int) (x5 : Int) (x6 : Int) : Option ((World × Int × Int) ⊕ ((World × Int × Int) ⊕ (World × Int))) :=
  if (w 1 7) ≤ x6 then (bnd (f_Re_build_138 w x1 x2 x3 x4 x5) fun y4 => some (Sum.inr y4)) else (if x4 = 0 then (bnd (f_Re_build_138 w x1 x2 x3 x4 x5) fun y7 => some (Sum.inr y7)) else (gd (0 ≤ x6 ∧ x6 < 24) (gd (0 ≤ w 7 x6.toNat ∧ w 7 x6.toNat < 10) (if (w 6 (w 7 x6.toNat).toNat) = x5 then (bnd (f_Re_holdsIn w x6 x2 x3) fun v15 => if v15 = 0 then (f_Re_build_132 w x1 x2 x3 x4 x5 x6) else (gd (0 ≤ x6 ∧ x6 < 24) (gd (0 ≤ wr (3 * x6) ∧ wr (3 * x6) < 72) (gd (0 ≤ wr ((wr (3 * x6)) + 1) ∧ wr ((wr (3 * x6)) + 1) < 72) (gd (0 ≤ wr ((wr (3 * x6)) + 2) ∧ wr ((wr (3 * x6)) + 2) < 72) (bnd (f_Re_take w x1 (w 7 x6.toNat) (w 8 (wr (3 * x6)).toNat) (w 8 (wr ((wr (3 * x6)) + 1)).toNat) (w 8 (wr ((wr (3 * x6)) + 2)).toNat)) fun v28 => gd (0 ≤ x1 ∧ x1 < 5) (if 48 < (v28.1 20 x1.toNat) then (f_Re_build_130 v28.1 x1 x2 x3 x5 x6 0) else (f_Re_build_130 v28.1 x1 x2 x3 x5 x6 1)))))))) else (f_Re_build_132 w x1 x2 x3 x4 x5 x6)))))
theorem t_Re_build_28B {E : EE} {K : KT} {l : Launch} {H0 : Heap} (k : Kof TB E K l cX11_build RX11 rm_Re_build) {w : World} {x1 : Int} {x2 : Int} {x3 : Int} {x4 : Int} {x5 : Int} {x6 : Int} (r_x1 : R32 x1) (r_x2 : R32 x2) (r_x3 : R32 x3) (r_x4 : R32 x4) (r_x5 : R32 x5) (r_x6 : R32 x6) {out : ((World × Int × Int) ⊕ ((World × Int × Int) ⊕ (World × Int)))} (hf : f_Re_build_28B w x1 x2 x3 x4 x5 x6 = some out) (hc : (Sum.elim (HW_Re_build_28 E K H0 x1 x2 x3 x5) (Sum.elim (HW_Re_build_13 E K H0 x1 x2 x3) (fun out : (World × Int) => RetZ TB E K H0 cX11_build out.1 out.2))) out) : Jj K (WdT TB E H0) w 28 [some (rf E.ad 1), some (.int (ii x1)), some (.int (ii x2)), some (.int (ii x3)), some (.int (ii x4)), some (.int (ii x5)), some (.int (ii x6))] [] := by
  unfold f_Re_build_28B at hf
  have o := k.1
  have g := k.2.1
  have kr := k.2.2.1
  refine J_iload o dX11_build_28 rfl ?_
  refine J_aload_n o dX11_build_30 rfl ?_
  refine J_getI o g dX11_build_31 flX11_124 kB_1 rfl (fun q1 => ?_)
  refine J_icmp_ge 138 o dX11_build_34 (by decide) r_x6 q1 (fun c2 => ?_) (fun c3 => ?_)
  · have hf := ite_t c2 hf
    obtain ⟨y4, hf1, hf⟩ := bnd_some hf
    have hf := some_inj hf
    subst hf
    exact t_Re_build_138 k r_x1 r_x2 r_x3 r_x4 r_x5 hf1 hc
  · have hf := ite_f c3 hf
    refine J_iload o dX11_build_37 rfl ?_
    refine J_if_eq 138 o dX11_build_39 (by decide) r_x4 (fun c5 => ?_) (fun c6 => ?_)
    · have hf := ite_t c5 hf
      obtain ⟨y7, hf1, hf⟩ := bnd_some hf
      have hf := some_inj hf
      subst hf
      exact t_Re_build_138 k r_x1 r_x2 r_x3 r_x4 r_x5 hf1 hc
    · have hf := ite_f c6 hf
      refine J_aload_n o dX11_build_42 rfl ?_
      refine J_getF (true, 6) o g dX11_build_43 flX11_23 kB_1 rfl rfl rfl ?_
      refine J_aload_n o dX11_build_46 rfl ?_
      refine J_getF (true, 7) o g dX11_build_47 flX11_26 kB_1 rfl rfl rfl ?_
      refine J_iload o dX11_build_50 rfl ?_
      obtain ⟨g8, hf⟩ := gd_some hf
      refine J_iald o g dX11_build_52 kB_7 r_x6 zB_7 g8 (fun q9 => ?_)
      obtain ⟨g10, hf⟩ := gd_some hf
      refine J_iald o g dX11_build_53 kB_6 q9 zB_6 g10 (fun q11 => ?_)
      refine J_iload o dX11_build_54 rfl ?_
      refine J_icmp_ne 132 o dX11_build_56 (by decide) q11 r_x5 (fun c12 => ?_) (fun c13 => ?_)
      · have hf := ite_f c12 hf
        exact t_Re_build_132 k r_x1 r_x2 r_x3 r_x4 r_x5 r_x6 hf hc
      · have hf := ite_t c13 hf
        refine J_aload_n o dX11_build_59 rfl ?_
        refine J_iload o dX11_build_60 rfl ?_
        refine J_iload_n o dX11_build_62 rfl ?_
        refine J_iload_n o dX11_build_63 rfl ?_
        obtain ⟨v15, e14, hf⟩ := bnd_some hf
        refine J_vI o g kr dX11_build_64 lkX11_224 ml_Re_holdsIn vl_Re_holdsIn ⟨rfl, rfl, Nat.le_of_ble_eq_true rfl, Nat.le_of_ble_eq_true rfl⟩ (c_Re_holdsIn g.2.1 r_x6 r_x2 r_x3 e14) kB_1 rfl ⟨by decide, by decide⟩ rfl rfl c1s_0 (fun q16 => ?_)
        refine J_if_eq 132 o dX11_build_67 (by decide) q16 (fun c17 => ?_) (fun c18 => ?_)
        · have hf := ite_t c17 hf
          exact t_Re_build_132 k r_x1 r_x2 r_x3 r_x4 r_x5 r_x6 hf hc
        · have hf := ite_f c18 hf
          refine J_aload_n o dX11_build_70 rfl ?_
          refine J_iload_n o dX11_build_71 rfl ?_
          refine J_aload_n o dX11_build_72 rfl ?_
          refine J_getF (true, 7) o g dX11_build_73 flX11_26 kB_1 rfl rfl rfl ?_
          refine J_iload o dX11_build_76 rfl ?_
          obtain ⟨g19, hf⟩ := gd_some hf
          refine J_iald o g dX11_build_78 kB_7 r_x6 zB_7 g19 (fun q20 => ?_)
          refine J_aload_n o dX11_build_79 rfl ?_
          refine J_getF (true, 8) o g dX11_build_80 flX11_29 kB_1 rfl rfl rfl ?_
          refine J_iconst o dX11_build_83 ?_
          refine J_iload o dX11_build_84 rfl ?_
          refine J_imul o dX11_build_86 ?_
          obtain ⟨g21, hf⟩ := gd_some hf
          refine J_iald o g dX11_build_87 kB_8 (R_wr _) zB_8 g21 (fun q22 => ?_)
          refine J_aload_n o dX11_build_88 rfl ?_
          refine J_getF (true, 8) o g dX11_build_89 flX11_29 kB_1 rfl rfl rfl ?_
          refine J_iconst o dX11_build_92 ?_
          refine J_iload o dX11_build_93 rfl ?_
          refine J_imul o dX11_build_95 ?_
          refine J_iconst o dX11_build_96 ?_
          refine J_iadd o dX11_build_97 ?_
          obtain ⟨g23, hf⟩ := gd_some hf
          refine J_iald o g dX11_build_98 kB_8 (R_wr _) zB_8 g23 (fun q24 => ?_)
          refine J_aload_n o dX11_build_99 rfl ?_
          refine J_getF (true, 8) o g dX11_build_100 flX11_29 kB_1 rfl rfl rfl ?_
          refine J_iconst o dX11_build_103 ?_
          refine J_iload o dX11_build_104 rfl ?_
          refine J_imul o dX11_build_106 ?_
          refine J_iconst o dX11_build_107 ?_
          refine J_iadd o dX11_build_108 ?_
          obtain ⟨g25, hf⟩ := gd_some hf
          refine J_iald o g dX11_build_109 kB_8 (R_wr _) zB_8 g25 (fun q26 => ?_)
          obtain ⟨v28, e27, hf⟩ := bnd_some hf
          refine J_vI o g kr dX11_build_110 lkX11_227 ml_Re_take vl_Re_take ⟨rfl, rfl, Nat.le_of_ble_eq_true rfl, Nat.le_of_ble_eq_true rfl⟩ (c_Re_take g.2.1 r_x1 q20 q22 q24 q26 e27) kB_1 rfl ⟨by decide, by decide⟩ rfl rfl c1s_0 (fun q29 => ?_)
          refine J_pop o dX11_build_113 rfl ?_
          refine J_aload_n o dX11_build_114 rfl ?_
          refine J_getF (true, 20) o g dX11_build_115 flX11_65 kB_1 rfl rfl rfl ?_
          refine J_iload_n o dX11_build_118 rfl ?_
          obtain ⟨g30, hf⟩ := gd_some hf
          refine J_iald o g dX11_build_119 kB_20 r_x1 zB_20 g30 (fun q31 => ?_)
          refine J_bipush o dX11_build_120 (by decide) ?_
          refine J_icmp_gt 129 o dX11_build_122 (by decide) q31 rl48 (fun c32 => ?_) (fun c33 => ?_)
          · have hf := ite_t c32 hf
            refine J_iconst o dX11_build_129 ?_
            exact t_Re_build_130 k r_x1 r_x2 r_x3 r_x5 r_x6 rl0 hf hc
          · have hf := ite_f c33 hf
            refine J_iconst o dX11_build_125 ?_
            refine J_goto 130 o dX11_build_126 (by decide) ?_
            exact t_Re_build_130 k r_x1 r_x2 r_x3 r_x5 r_x6 rl1 hf hc
noncomputable def f_Re_build_28 (w : World) (x1 : Int) (x2 : Int) (x3 : Int) (x4 : Int) (x5 : Int) (x6 : Int) : Option ((World × Int × Int) ⊕ (World × Int)) :=
  lp (fun z : (World × Int × Int) => f_Re_build_28B z.1 x1 x2 x3 z.2.1 x5 z.2.2) (w, x4, x6)
theorem t_Re_build_28 {E : EE} {K : KT} {l : Launch} {H0 : Heap} (k : Kof TB E K l cX11_build RX11 rm_Re_build) {w : World} {x1 : Int} {x2 : Int} {x3 : Int} {x4 : Int} {x5 : Int} {x6 : Int} (r_x1 : R32 x1) (r_x2 : R32 x2) (r_x3 : R32 x3) (r_x5 : R32 x5) {out : ((World × Int × Int) ⊕ (World × Int))} (hf : f_Re_build_28 w x1 x2 x3 x4 x5 x6 = some out) (hc : (Sum.elim (HW_Re_build_13 E K H0 x1 x2 x3) (fun out : (World × Int) => RetZ TB E K H0 cX11_build out.1 out.2)) out) : HW_Re_build_28 E K H0 x1 x2 x3 x5 (w, x4, x6) := by
  unfold f_Re_build_28 at hf
  refine lp_ind (P := HW_Re_build_28 E K H0 x1 x2 x3 x5) hf ?_
  intro z o hs h1 h2
  intro r_x4 r_x6
  refine t_Re_build_28B k r_x1 r_x2 r_x3 r_x4 r_x5 r_x6 hs ?_
  cases o with
  | inl z' => exact h1 z' rfl
  | inr r' => rw [h2 r' rfl]; exact hc
noncomputable def f_Re_build_13B (w : World) (x1 : Int) (x2 : Int) (x3 : Int) (x4 : Int) (x5 : Int) : Option ((World × Int × Int) ⊕ (World × Int)) :=
  if 10 ≤ x5 then (gd (x4 = 0 ∨ x4 = 1) (some (Sum.inr (w, x4)))) else (if x4 = 0 then (gd (x4 = 0 ∨ x4 = 1) (some (Sum.inr (w, x4)))) else (f_Re_build_28 w x1 x2 x3 x4 x5 0))
theorem t_Re_build_13B {E : EE} {K : KT} {l : Launch} {H0 : Heap} (k : Kof TB E K l cX11_build RX11 rm_Re_build) {w : World} {x1 : Int} {x2 : Int} {x3 : Int} {x4 : Int} {x5 : Int} {o6 : Option Value} (r_x1 : R32 x1) (r_x2 : R32 x2) (r_x3 : R32 x3) (r_x4 : R32 x4) (r_x5 : R32 x5) {out : ((World × Int × Int) ⊕ (World × Int))} (hf : f_Re_build_13B w x1 x2 x3 x4 x5 = some out) (hc : (Sum.elim (HW_Re_build_13 E K H0 x1 x2 x3) (fun out : (World × Int) => RetZ TB E K H0 cX11_build out.1 out.2)) out) : Jj K (WdT TB E H0) w 13 [some (rf E.ad 1), some (.int (ii x1)), some (.int (ii x2)), some (.int (ii x3)), some (.int (ii x4)), some (.int (ii x5)), o6] [] := by
  unfold f_Re_build_13B at hf
  have o := k.1
  have g := k.2.1
  have kr := k.2.2.1
  refine J_iload o dX11_build_13 rfl ?_
  refine J_bipush o dX11_build_15 (by decide) ?_
  refine J_icmp_ge 200 o dX11_build_17 (by decide) r_x5 rl10 (fun c1 => ?_) (fun c2 => ?_)
  · have hf := ite_t c1 hf
    refine J_iload o dX11_build_200 rfl ?_
    obtain ⟨g3, hf⟩ := gd_some hf
    have hf := some_inj hf
    subst hf
    exact hc _ _ g3 dX11_build_202
  · have hf := ite_f c2 hf
    refine J_iload o dX11_build_20 rfl ?_
    refine J_if_eq 200 o dX11_build_22 (by decide) r_x4 (fun c4 => ?_) (fun c5 => ?_)
    · have hf := ite_t c4 hf
      refine J_iload o dX11_build_200 rfl ?_
      obtain ⟨g6, hf⟩ := gd_some hf
      have hf := some_inj hf
      subst hf
      exact hc _ _ g6 dX11_build_202
    · have hf := ite_f c5 hf
      refine J_iconst o dX11_build_25 ?_
      refine J_istore o dX11_build_26 (Nat.le_of_ble_eq_true rfl) ?_
      exact (t_Re_build_28 k r_x1 r_x2 r_x3 r_x5 hf hc) r_x4 rl0 
noncomputable def f_Re_build_13 (w : World) (x1 : Int) (x2 : Int) (x3 : Int) (x4 : Int) (x5 : Int) : Option (World × Int) :=
  lp (fun z : (World × Int × Int) => f_Re_build_13B z.1 x1 x2 x3 z.2.1 z.2.2) (w, x4, x5)
theorem t_Re_build_13 {E : EE} {K : KT} {l : Launch} {H0 : Heap} (k : Kof TB E K l cX11_build RX11 rm_Re_build) {w : World} {x1 : Int} {x2 : Int} {x3 : Int} {x4 : Int} {x5 : Int} (r_x1 : R32 x1) (r_x2 : R32 x2) (r_x3 : R32 x3) {out : (World × Int)} (hf : f_Re_build_13 w x1 x2 x3 x4 x5 = some out) (hc : (fun out : (World × Int) => RetZ TB E K H0 cX11_build out.1 out.2) out) : HW_Re_build_13 E K H0 x1 x2 x3 (w, x4, x5) := by
  unfold f_Re_build_13 at hf
  refine lp_ind (P := HW_Re_build_13 E K H0 x1 x2 x3) hf ?_
  intro z o hs h1 h2
  intro r_x4 r_x5
  intro o6
  refine t_Re_build_13B k r_x1 r_x2 r_x3 r_x4 r_x5 hs ?_
  cases o with
  | inl z' => exact h1 z' rfl
  | inr r' => rw [h2 r' rfl]; exact hc
noncomputable def f_Re_build (w : World) (x1 : Int) (x2 : Int) (x3 : Int) : Option (World × Int) :=
  gd (0 ≤ x1 ∧ x1 < 5) (bl (up w 20 x1.toNat 0) fun w2 => f_Re_build_13 w2 x1 x2 x3 1 0)
theorem t_Re_build_0 {E : EE} {K : KT} {l : Launch} {H0 : Heap} (k : Kof TB E K l cX11_build RX11 rm_Re_build) {w : World} {x1 : Int} {x2 : Int} {x3 : Int} {o4 o5 o6 : Option Value} (r_x1 : R32 x1) (r_x2 : R32 x2) (r_x3 : R32 x3) {out : (World × Int)} (hf : f_Re_build w x1 x2 x3 = some out) (hc : (fun out : (World × Int) => RetZ TB E K H0 cX11_build out.1 out.2) out) : Jj K (WdT TB E H0) w 0 [some (rf E.ad 1), some (.int (ii x1)), some (.int (ii x2)), some (.int (ii x3)), o4, o5, o6] [] := by
  unfold f_Re_build at hf
  have o := k.1
  have g := k.2.1
  have kr := k.2.2.1
  refine J_aload_n o dX11_build_0 rfl ?_
  refine J_getF (true, 20) o g dX11_build_1 flX11_65 kB_1 rfl rfl rfl ?_
  refine J_iload_n o dX11_build_4 rfl ?_
  refine J_iconst o dX11_build_5 ?_
  obtain ⟨g1, hf⟩ := gd_some hf
  refine J_iast o g dX11_build_6 kB_20 (fxB_40 _) r_x1 zB_20 g1 rl0 ?_
  have hf := bl_out hf
  refine J_iconst o dX11_build_7 ?_
  refine J_istore o dX11_build_8 (Nat.le_of_ble_eq_true rfl) ?_
  refine J_iconst o dX11_build_10 ?_
  refine J_istore o dX11_build_11 (Nat.le_of_ble_eq_true rfl) ?_
  exact (t_Re_build_13 k r_x1 r_x2 r_x3 hf hc) rl1 rl0 _
theorem c_Re_build {E : EE} {l : Launch} (hI : Inj TB E) {w : World} {x1 : Int} {x2 : Int} {x3 : Int} (r_x1 : R32 x1) (r_x2 : R32 x2) (r_x3 : R32 x3) {out : (World × Int)} (hf : f_Re_build w x1 x2 x3 = some out) : ConI TB E l yX11_build (WS yX11_build cX11_build 7 (some .boolean)) rm_Re_build [rf E.ad 1, .int (ii x1), .int (ii x2), .int (ii x3)] w out.1 out.2 :=
  con_Z (by decide +kernel) rfl (Nat.le_of_ble_eq_true rfl) (c1s_r (c1s_i (c1s_i (c1s_i c1s_0 (Nat.le_of_ble_eq_true rfl)) (Nat.le_of_ble_eq_true rfl)) (Nat.le_of_ble_eq_true rfl)) (Nat.le_of_ble_eq_true rfl)).1 ⟨rfl, rfl⟩ hI TnB (fun K H0 k hret => t_Re_build_0 k r_x1 r_x2 r_x3 hf hret)
abbrev rm_Re_buildAll : Room := { frames := 8, cells := 0, slots := 0, locals := 195 }
def HW_Re_buildAll_4 (E : EE) (K : KT) (H0 : Heap)  : (World × Int × Int) → Prop := fun z => R32 z.2.1 → R32 z.2.2 → ∀ o3 : Option Value, Jj K (WdT TB E H0) z.1 4 [some (rf E.ad 1), some (.int (ii z.2.1)), some (.int (ii z.2.2)), o3] []
noncomputable def f_Re_buildAll_30 (w : World) (x2 : Int) (s0 : Int) : Option ((World × Int × Int) ⊕ (World × Int)) :=
  bl (wr (x2 + 1)) fun n1 => some (Sum.inl (w, s0, n1))
theorem t_Re_buildAll_30 {E : EE} {K : KT} {l : Launch} {H0 : Heap} (k : Kof TB E K l cX11_buildAll RX11 rm_Re_buildAll) {w : World} {x2 : Int} {s0 : Int} {o1 o3 : Option Value} (r_x2 : R32 x2) (r_s0 : R32 s0) {out : ((World × Int × Int) ⊕ (World × Int))} (hf : f_Re_buildAll_30 w x2 s0 = some out) (hc : (Sum.elim (HW_Re_buildAll_4 E K H0 ) (fun out : (World × Int) => RetZ TB E K H0 cX11_buildAll out.1 out.2)) out) : Jj K (WdT TB E H0) w 30 [some (rf E.ad 1), o1, some (.int (ii x2)), o3] [.int (ii s0)] := by
  unfold f_Re_buildAll_30 at hf
  have o := k.1
  have g := k.2.1
  have kr := k.2.2.1
  refine J_istore_n o dX11_buildAll_30 (Nat.le_of_ble_eq_true rfl) ?_
  have hf := bl_out hf
  refine J_iinc o dX11_buildAll_31 rfl ?_
  refine J_goto 4 o dX11_buildAll_34 (by decide) ?_
  have hf := some_inj hf
  subst hf
  exact hc r_s0 (R_wr _) _
noncomputable def f_Re_buildAll_29 (w : World) (x2 : Int) : Option ((World × Int × Int) ⊕ (World × Int)) :=
  f_Re_buildAll_30 w x2 0
theorem t_Re_buildAll_29 {E : EE} {K : KT} {l : Launch} {H0 : Heap} (k : Kof TB E K l cX11_buildAll RX11 rm_Re_buildAll) {w : World} {x2 : Int} {o1 o3 : Option Value} (r_x2 : R32 x2) {out : ((World × Int × Int) ⊕ (World × Int))} (hf : f_Re_buildAll_29 w x2 = some out) (hc : (Sum.elim (HW_Re_buildAll_4 E K H0 ) (fun out : (World × Int) => RetZ TB E K H0 cX11_buildAll out.1 out.2)) out) : Jj K (WdT TB E H0) w 29 [some (rf E.ad 1), o1, some (.int (ii x2)), o3] [] := by
  unfold f_Re_buildAll_29 at hf
  have o := k.1
  have g := k.2.1
  have kr := k.2.2.1
  refine J_iconst o dX11_buildAll_29 ?_
  exact t_Re_buildAll_30 k r_x2 rl0 hf hc
noncomputable def f_Re_buildAll_4B (w : World) (x1 : Int) (x2 : Int) : Option ((World × Int × Int) ⊕ (World × Int)) :=
  if 4 ≤ x2 then (gd (x1 = 0 ∨ x1 = 1) (some (Sum.inr (w, x1)))) else (bnd (f_Re_build w x2 x2 0) fun v5 => if x1 = 0 then (f_Re_buildAll_29 v5.1 x2) else (if v5.2 = 0 then (f_Re_buildAll_29 v5.1 x2) else (f_Re_buildAll_30 v5.1 x2 1)))
theorem t_Re_buildAll_4B {E : EE} {K : KT} {l : Launch} {H0 : Heap} (k : Kof TB E K l cX11_buildAll RX11 rm_Re_buildAll) {w : World} {x1 : Int} {x2 : Int} {o3 : Option Value} (r_x1 : R32 x1) (r_x2 : R32 x2) {out : ((World × Int × Int) ⊕ (World × Int))} (hf : f_Re_buildAll_4B w x1 x2 = some out) (hc : (Sum.elim (HW_Re_buildAll_4 E K H0 ) (fun out : (World × Int) => RetZ TB E K H0 cX11_buildAll out.1 out.2)) out) : Jj K (WdT TB E H0) w 4 [some (rf E.ad 1), some (.int (ii x1)), some (.int (ii x2)), o3] [] := by
  unfold f_Re_buildAll_4B at hf
  have o := k.1
  have g := k.2.1
  have kr := k.2.2.1
  refine J_iload_n o dX11_buildAll_4 rfl ?_
  refine J_iconst o dX11_buildAll_5 ?_
  refine J_icmp_ge 37 o dX11_buildAll_6 (by decide) r_x2 rl4 (fun c1 => ?_) (fun c2 => ?_)
  · have hf := ite_t c1 hf
    refine J_iload_n o dX11_buildAll_37 rfl ?_
    obtain ⟨g3, hf⟩ := gd_some hf
    have hf := some_inj hf
    subst hf
    exact hc _ _ g3 dX11_buildAll_38
  · have hf := ite_f c2 hf
    refine J_aload_n o dX11_buildAll_9 rfl ?_
    refine J_iload_n o dX11_buildAll_10 rfl ?_
    refine J_iload_n o dX11_buildAll_11 rfl ?_
    refine J_iconst o dX11_buildAll_12 ?_
    obtain ⟨v5, e4, hf⟩ := bnd_some hf
    refine J_vI o g kr dX11_buildAll_13 lkX11_243 ml_Re_build vl_Re_build ⟨rfl, rfl, Nat.le_of_ble_eq_true rfl, Nat.le_of_ble_eq_true rfl⟩ (c_Re_build g.2.1 r_x2 r_x2 rl0 e4) kB_1 rfl ⟨by decide, by decide⟩ rfl rfl c1s_0 (fun q6 => ?_)
    refine J_istore_n o dX11_buildAll_16 (Nat.le_of_ble_eq_true rfl) ?_
    refine J_iload_n o dX11_buildAll_17 rfl ?_
    refine J_if_eq 29 o dX11_buildAll_18 (by decide) r_x1 (fun c7 => ?_) (fun c8 => ?_)
    · have hf := ite_t c7 hf
      exact t_Re_buildAll_29 k r_x2 hf hc
    · have hf := ite_f c8 hf
      refine J_iload_n o dX11_buildAll_21 rfl ?_
      refine J_if_eq 29 o dX11_buildAll_22 (by decide) q6 (fun c9 => ?_) (fun c10 => ?_)
      · have hf := ite_t c9 hf
        exact t_Re_buildAll_29 k r_x2 hf hc
      · have hf := ite_f c10 hf
        refine J_iconst o dX11_buildAll_25 ?_
        refine J_goto 30 o dX11_buildAll_26 (by decide) ?_
        exact t_Re_buildAll_30 k r_x2 rl1 hf hc
noncomputable def f_Re_buildAll_4 (w : World) (x1 : Int) (x2 : Int) : Option (World × Int) :=
  lp (fun z : (World × Int × Int) => f_Re_buildAll_4B z.1 z.2.1 z.2.2) (w, x1, x2)
theorem t_Re_buildAll_4 {E : EE} {K : KT} {l : Launch} {H0 : Heap} (k : Kof TB E K l cX11_buildAll RX11 rm_Re_buildAll) {w : World} {x1 : Int} {x2 : Int}  {out : (World × Int)} (hf : f_Re_buildAll_4 w x1 x2 = some out) (hc : (fun out : (World × Int) => RetZ TB E K H0 cX11_buildAll out.1 out.2) out) : HW_Re_buildAll_4 E K H0  (w, x1, x2) := by
  unfold f_Re_buildAll_4 at hf
  refine lp_ind (P := HW_Re_buildAll_4 E K H0 ) hf ?_
  intro z o hs h1 h2
  intro r_x1 r_x2
  intro o3
  refine t_Re_buildAll_4B k r_x1 r_x2 hs ?_
  cases o with
  | inl z' => exact h1 z' rfl
  | inr r' => rw [h2 r' rfl]; exact hc
noncomputable def f_Re_buildAll (w : World) : Option (World × Int) :=
  f_Re_buildAll_4 w 1 0
theorem t_Re_buildAll_0 {E : EE} {K : KT} {l : Launch} {H0 : Heap} (k : Kof TB E K l cX11_buildAll RX11 rm_Re_buildAll) {w : World} {o1 o2 o3 : Option Value}  {out : (World × Int)} (hf : f_Re_buildAll w = some out) (hc : (fun out : (World × Int) => RetZ TB E K H0 cX11_buildAll out.1 out.2) out) : Jj K (WdT TB E H0) w 0 [some (rf E.ad 1), o1, o2, o3] [] := by
  unfold f_Re_buildAll at hf
  have o := k.1
  have g := k.2.1
  have kr := k.2.2.1
  refine J_iconst o dX11_buildAll_0 ?_
  refine J_istore_n o dX11_buildAll_1 (Nat.le_of_ble_eq_true rfl) ?_
  refine J_iconst o dX11_buildAll_2 ?_
  refine J_istore_n o dX11_buildAll_3 (Nat.le_of_ble_eq_true rfl) ?_
  exact (t_Re_buildAll_4 k  hf hc) rl1 rl0 _
theorem c_Re_buildAll {E : EE} {l : Launch} (hI : Inj TB E) {w : World}  {out : (World × Int)} (hf : f_Re_buildAll w = some out) : ConI TB E l yX11_buildAll (WS yX11_buildAll cX11_buildAll 4 (some .boolean)) rm_Re_buildAll [rf E.ad 1] w out.1 out.2 :=
  con_Z (by decide +kernel) rfl (Nat.le_of_ble_eq_true rfl) (c1s_r c1s_0 (Nat.le_of_ble_eq_true rfl)).1 ⟨rfl, rfl⟩ hI TnB (fun K H0 k hret => t_Re_buildAll_0 k  hf hret)
abbrev rm_Re_fact : Room := { frames := 9, cells := 0, slots := 0, locals := 218 }
noncomputable def f_Re_fact_96 (w : World) (x1 : Int) (x2 : Int) (x3 : Int) (x4 : Int) (x5 : Int) (x6 : Int) (x7 : Int) (s1 : Int) : Option (World × Int) :=
  bnd (f_Re_refused w s1) fun v2 => if v2.2 = 0 then (gd (0 ≤ v2.1 1 7 ∧ v2.1 1 7 < 24) (bl (up v2.1 7 (v2.1 1 7).toNat x1) fun w8 => gd (0 ≤ wr (3 * (w8 1 7)) ∧ wr (3 * (w8 1 7)) < 72) (bl (up w8 8 (wr (3 * (w8 1 7))).toNat x2) fun w11 => gd (0 ≤ wr ((wr (3 * (w11 1 7))) + 1) ∧ wr ((wr (3 * (w11 1 7))) + 1) < 72) (bl (up w11 8 (wr ((wr (3 * (w11 1 7))) + 1)).toNat x3) fun w14 => gd (0 ≤ wr ((wr (3 * (w14 1 7))) + 2) ∧ wr ((wr (3 * (w14 1 7))) + 2) < 72) (bl (up w14 8 (wr ((wr (3 * (w14 1 7))) + 2)).toNat x4) fun w17 => gd (0 ≤ w17 1 7 ∧ w17 1 7 < 24) (bl (up w17 9 (w17 1 7).toNat x5) fun w20 => gd (0 ≤ w20 1 7 ∧ w20 1 7 < 24) (bl (up w20 10 (w20 1 7).toNat x6) fun w23 => gd (0 ≤ w23 1 7 ∧ w23 1 7 < 24) (bl (up w23 11 (w23 1 7).toNat x7) fun w26 => gd (0 ≤ w26 1 7 ∧ w26 1 7 < 24) (bl (up w26 12 (w26 1 7).toNat 0) fun w29 => bl (up w29 1 7 (wr ((w29 1 7) + 1))) fun w31 => bnd (f_Re_buildAll w31 ) fun v33 => if v33.2 = 0 then (bl (up v33.1 1 7 (wr ((v33.1 1 7) - 1))) fun w39 => bnd (f_Re_buildAll w39 ) fun v41 => bnd (f_Re_refused v41.1 3) fun v44 => some (v44.1, 0)) else (some (v33.1, wr ((v33.1 1 7) - 1)))))))))))) else (some (v2.1, 0))
theorem t_Re_fact_96 {E : EE} {K : KT} {l : Launch} {H0 : Heap} (k : Kof TB E K l cX11_fact RX11 rm_Re_fact) {w : World} {x1 : Int} {x2 : Int} {x3 : Int} {x4 : Int} {x5 : Int} {x6 : Int} {x7 : Int} {s1 : Int} {o8 : Option Value} (r_x1 : R32 x1) (r_x2 : R32 x2) (r_x3 : R32 x3) (r_x4 : R32 x4) (r_x5 : R32 x5) (r_x6 : R32 x6) (r_x7 : R32 x7) (r_s1 : R32 s1) {out : (World × Int)} (hf : f_Re_fact_96 w x1 x2 x3 x4 x5 x6 x7 s1 = some out) (hc : (fun out : (World × Int) => RetI TB E K H0 cX11_fact out.1 out.2) out) : Jj K (WdT TB E H0) w 96 [some (rf E.ad 1), some (.int (ii x1)), some (.int (ii x2)), some (.int (ii x3)), some (.int (ii x4)), some (.int (ii x5)), some (.int (ii x6)), some (.int (ii x7)), o8] [.int (ii s1), rf E.ad 1] := by
  unfold f_Re_fact_96 at hf
  have o := k.1
  have g := k.2.1
  have kr := k.2.2.1
  obtain ⟨v2, e1, hf⟩ := bnd_some hf
  refine J_vI o g kr dX11_fact_96 lkX11_113 ml_Re_refused vl_Re_refused ⟨rfl, rfl, Nat.le_of_ble_eq_true rfl, Nat.le_of_ble_eq_true rfl⟩ (c_Re_refused g.2.1 r_s1 e1) kB_1 rfl ⟨by decide, by decide⟩ rfl rfl c1s_0 (fun q3 => ?_)
  refine J_if_eq 104 o dX11_fact_99 (by decide) q3 (fun c4 => ?_) (fun c5 => ?_)
  · have hf := ite_t c4 hf
    refine J_aload_n o dX11_fact_104 rfl ?_
    refine J_getF (true, 7) o g dX11_fact_105 flX11_26 kB_1 rfl rfl rfl ?_
    refine J_aload_n o dX11_fact_108 rfl ?_
    refine J_getI o g dX11_fact_109 flX11_124 kB_1 rfl (fun q6 => ?_)
    refine J_iload_n o dX11_fact_112 rfl ?_
    obtain ⟨g7, hf⟩ := gd_some hf
    refine J_iast o g dX11_fact_113 kB_7 (fxB_40 _) q6 zB_7 g7 r_x1 ?_
    have hf := bl_out hf
    refine J_aload_n o dX11_fact_114 rfl ?_
    refine J_getF (true, 8) o g dX11_fact_115 flX11_29 kB_1 rfl rfl rfl ?_
    refine J_iconst o dX11_fact_118 ?_
    refine J_aload_n o dX11_fact_119 rfl ?_
    refine J_getI o g dX11_fact_120 flX11_124 kB_1 rfl (fun q9 => ?_)
    refine J_imul o dX11_fact_123 ?_
    refine J_iload_n o dX11_fact_124 rfl ?_
    obtain ⟨g10, hf⟩ := gd_some hf
    refine J_iast o g dX11_fact_125 kB_8 (fxB_40 _) (R_wr _) zB_8 g10 r_x2 ?_
    have hf := bl_out hf
    refine J_aload_n o dX11_fact_126 rfl ?_
    refine J_getF (true, 8) o g dX11_fact_127 flX11_29 kB_1 rfl rfl rfl ?_
    refine J_iconst o dX11_fact_130 ?_
    refine J_aload_n o dX11_fact_131 rfl ?_
    refine J_getI o g dX11_fact_132 flX11_124 kB_1 rfl (fun q12 => ?_)
    refine J_imul o dX11_fact_135 ?_
    refine J_iconst o dX11_fact_136 ?_
    refine J_iadd o dX11_fact_137 ?_
    refine J_iload_n o dX11_fact_138 rfl ?_
    obtain ⟨g13, hf⟩ := gd_some hf
    refine J_iast o g dX11_fact_139 kB_8 (fxB_40 _) (R_wr _) zB_8 g13 r_x3 ?_
    have hf := bl_out hf
    refine J_aload_n o dX11_fact_140 rfl ?_
    refine J_getF (true, 8) o g dX11_fact_141 flX11_29 kB_1 rfl rfl rfl ?_
    refine J_iconst o dX11_fact_144 ?_
    refine J_aload_n o dX11_fact_145 rfl ?_
    refine J_getI o g dX11_fact_146 flX11_124 kB_1 rfl (fun q15 => ?_)
    refine J_imul o dX11_fact_149 ?_
    refine J_iconst o dX11_fact_150 ?_
    refine J_iadd o dX11_fact_151 ?_
    refine J_iload o dX11_fact_152 rfl ?_
    obtain ⟨g16, hf⟩ := gd_some hf
    refine J_iast o g dX11_fact_154 kB_8 (fxB_40 _) (R_wr _) zB_8 g16 r_x4 ?_
    have hf := bl_out hf
    refine J_aload_n o dX11_fact_155 rfl ?_
    refine J_getF (true, 9) o g dX11_fact_156 flX11_32 kB_1 rfl rfl rfl ?_
    refine J_aload_n o dX11_fact_159 rfl ?_
    refine J_getI o g dX11_fact_160 flX11_124 kB_1 rfl (fun q18 => ?_)
    refine J_iload o dX11_fact_163 rfl ?_
    obtain ⟨g19, hf⟩ := gd_some hf
    refine J_iast o g dX11_fact_165 kB_9 (fxB_40 _) q18 zB_9 g19 r_x5 ?_
    have hf := bl_out hf
    refine J_aload_n o dX11_fact_166 rfl ?_
    refine J_getF (true, 10) o g dX11_fact_167 flX11_35 kB_1 rfl rfl rfl ?_
    refine J_aload_n o dX11_fact_170 rfl ?_
    refine J_getI o g dX11_fact_171 flX11_124 kB_1 rfl (fun q21 => ?_)
    refine J_iload o dX11_fact_174 rfl ?_
    obtain ⟨g22, hf⟩ := gd_some hf
    refine J_iast o g dX11_fact_176 kB_10 (fxB_40 _) q21 zB_10 g22 r_x6 ?_
    have hf := bl_out hf
    refine J_aload_n o dX11_fact_177 rfl ?_
    refine J_getF (true, 11) o g dX11_fact_178 flX11_38 kB_1 rfl rfl rfl ?_
    refine J_aload_n o dX11_fact_181 rfl ?_
    refine J_getI o g dX11_fact_182 flX11_124 kB_1 rfl (fun q24 => ?_)
    refine J_iload o dX11_fact_185 rfl ?_
    obtain ⟨g25, hf⟩ := gd_some hf
    refine J_iast o g dX11_fact_187 kB_11 (fxB_40 _) q24 zB_11 g25 r_x7 ?_
    have hf := bl_out hf
    refine J_aload_n o dX11_fact_188 rfl ?_
    refine J_getF (true, 12) o g dX11_fact_189 flX11_41 kB_1 rfl rfl rfl ?_
    refine J_aload_n o dX11_fact_192 rfl ?_
    refine J_getI o g dX11_fact_193 flX11_124 kB_1 rfl (fun q27 => ?_)
    refine J_iconst o dX11_fact_196 ?_
    obtain ⟨g28, hf⟩ := gd_some hf
    refine J_zast o g dX11_fact_197 kB_12 (fxB_41 _) q27 zB_12 g28 (Or.inl rfl) ?_
    have hf := bl_out hf
    refine J_aload_n o dX11_fact_198 rfl ?_
    refine J_dup o dX11_fact_199 rf_cat ?_
    refine J_getI o g dX11_fact_200 flX11_124 kB_1 rfl (fun q30 => ?_)
    refine J_iconst o dX11_fact_203 ?_
    refine J_iadd o dX11_fact_204 ?_
    refine J_putI o g dX11_fact_205 fpX11_124 kB_1 rfl rfl (R_wr _) ?_
    have hf := bl_out hf
    refine J_aload_n o dX11_fact_208 rfl ?_
    obtain ⟨v33, e32, hf⟩ := bnd_some hf
    refine J_vI o g kr dX11_fact_209 lkX11_127 ml_Re_buildAll vl_Re_buildAll ⟨rfl, rfl, Nat.le_of_ble_eq_true rfl, Nat.le_of_ble_eq_true rfl⟩ (c_Re_buildAll g.2.1  e32) kB_1 rfl ⟨by decide, by decide⟩ rfl rfl c1s_0 (fun q34 => ?_)
    refine J_if_ne 238 o dX11_fact_212 (by decide) q34 (fun c35 => ?_) (fun c36 => ?_)
    · have hf := ite_f c35 hf
      refine J_aload_n o dX11_fact_238 rfl ?_
      refine J_getI o g dX11_fact_239 flX11_124 kB_1 rfl (fun q37 => ?_)
      refine J_iconst o dX11_fact_242 ?_
      refine J_isub o dX11_fact_243 ?_
      have hf := some_inj hf
      subst hf
      exact hc _ _ (R_wr _) dX11_fact_244
    · have hf := ite_t c36 hf
      refine J_aload_n o dX11_fact_215 rfl ?_
      refine J_dup o dX11_fact_216 rf_cat ?_
      refine J_getI o g dX11_fact_217 flX11_124 kB_1 rfl (fun q38 => ?_)
      refine J_iconst o dX11_fact_220 ?_
      refine J_isub o dX11_fact_221 ?_
      refine J_putI o g dX11_fact_222 fpX11_124 kB_1 rfl rfl (R_wr _) ?_
      have hf := bl_out hf
      refine J_aload_n o dX11_fact_225 rfl ?_
      obtain ⟨v41, e40, hf⟩ := bnd_some hf
      refine J_vI o g kr dX11_fact_226 lkX11_127 ml_Re_buildAll vl_Re_buildAll ⟨rfl, rfl, Nat.le_of_ble_eq_true rfl, Nat.le_of_ble_eq_true rfl⟩ (c_Re_buildAll g.2.1  e40) kB_1 rfl ⟨by decide, by decide⟩ rfl rfl c1s_0 (fun q42 => ?_)
      refine J_pop o dX11_fact_229 rfl ?_
      refine J_aload_n o dX11_fact_230 rfl ?_
      refine J_iconst o dX11_fact_231 ?_
      obtain ⟨v44, e43, hf⟩ := bnd_some hf
      refine J_vI o g kr dX11_fact_232 lkX11_113 ml_Re_refused vl_Re_refused ⟨rfl, rfl, Nat.le_of_ble_eq_true rfl, Nat.le_of_ble_eq_true rfl⟩ (c_Re_refused g.2.1 rl3 e43) kB_1 rfl ⟨by decide, by decide⟩ rfl rfl c1s_0 (fun q45 => ?_)
      refine J_pop o dX11_fact_235 rfl ?_
      refine J_iconst o dX11_fact_236 ?_
      have hf := some_inj hf
      subst hf
      exact hc _ _ rl0 dX11_fact_237
  · have hf := ite_f c5 hf
    refine J_iconst o dX11_fact_102 ?_
    have hf := some_inj hf
    subst hf
    exact hc _ _ rl0 dX11_fact_103
noncomputable def f_Re_fact_58 (w : World) (x1 : Int) (x2 : Int) (x3 : Int) (x4 : Int) (x5 : Int) (x6 : Int) (x7 : Int) (s0 : Int) : Option (World × Int) :=
  bnd (f_Re_isRelation w x1) fun v2 => if v2 = 0 then (f_Re_fact_96 w x1 x2 x3 x4 x5 x6 x7 1) else (if s0 = 0 then (f_Re_fact_96 w x1 x2 x3 x4 x5 x6 x7 2) else (if (w 1 7) = 24 then (f_Re_fact_96 w x1 x2 x3 x4 x5 x6 x7 3) else (f_Re_fact_96 w x1 x2 x3 x4 x5 x6 x7 0)))
theorem t_Re_fact_58 {E : EE} {K : KT} {l : Launch} {H0 : Heap} (k : Kof TB E K l cX11_fact RX11 rm_Re_fact) {w : World} {x1 : Int} {x2 : Int} {x3 : Int} {x4 : Int} {x5 : Int} {x6 : Int} {x7 : Int} {s0 : Int} {o8 : Option Value} (r_x1 : R32 x1) (r_x2 : R32 x2) (r_x3 : R32 x3) (r_x4 : R32 x4) (r_x5 : R32 x5) (r_x6 : R32 x6) (r_x7 : R32 x7) (r_s0 : R32 s0) {out : (World × Int)} (hf : f_Re_fact_58 w x1 x2 x3 x4 x5 x6 x7 s0 = some out) (hc : (fun out : (World × Int) => RetI TB E K H0 cX11_fact out.1 out.2) out) : Jj K (WdT TB E H0) w 58 [some (rf E.ad 1), some (.int (ii x1)), some (.int (ii x2)), some (.int (ii x3)), some (.int (ii x4)), some (.int (ii x5)), some (.int (ii x6)), some (.int (ii x7)), o8] [.int (ii s0)] := by
  unfold f_Re_fact_58 at hf
  have o := k.1
  have g := k.2.1
  have kr := k.2.2.1
  refine J_istore o dX11_fact_58 (Nat.le_of_ble_eq_true rfl) ?_
  refine J_aload_n o dX11_fact_60 rfl ?_
  refine J_aload_n o dX11_fact_61 rfl ?_
  refine J_iload_n o dX11_fact_62 rfl ?_
  obtain ⟨v2, e1, hf⟩ := bnd_some hf
  refine J_vI o g kr dX11_fact_63 lkX11_117 ml_Re_isRelation vl_Re_isRelation ⟨rfl, rfl, Nat.le_of_ble_eq_true rfl, Nat.le_of_ble_eq_true rfl⟩ (c_Re_isRelation g.2.1 r_x1 e1) kB_1 rfl ⟨by decide, by decide⟩ rfl rfl (c1s_r c1s_0 (Nat.le_of_ble_eq_true rfl)) (fun q3 => ?_)
  refine J_if_ne 73 o dX11_fact_66 (by decide) q3 (fun c4 => ?_) (fun c5 => ?_)
  · have hf := ite_f c4 hf
    refine J_iload o dX11_fact_73 rfl ?_
    refine J_if_ne 82 o dX11_fact_75 (by decide) r_s0 (fun c6 => ?_) (fun c7 => ?_)
    · have hf := ite_f c6 hf
      refine J_aload_n o dX11_fact_82 rfl ?_
      refine J_getI o g dX11_fact_83 flX11_124 kB_1 rfl (fun q8 => ?_)
      refine J_bipush o dX11_fact_86 (by decide) ?_
      refine J_icmp_ne 95 o dX11_fact_88 (by decide) q8 rl24 (fun c9 => ?_) (fun c10 => ?_)
      · have hf := ite_f c9 hf
        refine J_iconst o dX11_fact_95 ?_
        exact t_Re_fact_96 k r_x1 r_x2 r_x3 r_x4 r_x5 r_x6 r_x7 rl0 hf hc
      · have hf := ite_t c10 hf
        refine J_iconst o dX11_fact_91 ?_
        refine J_goto 96 o dX11_fact_92 (by decide) ?_
        exact t_Re_fact_96 k r_x1 r_x2 r_x3 r_x4 r_x5 r_x6 r_x7 rl3 hf hc
    · have hf := ite_t c7 hf
      refine J_iconst o dX11_fact_78 ?_
      refine J_goto 96 o dX11_fact_79 (by decide) ?_
      exact t_Re_fact_96 k r_x1 r_x2 r_x3 r_x4 r_x5 r_x6 r_x7 rl2 hf hc
  · have hf := ite_t c5 hf
    refine J_iconst o dX11_fact_69 ?_
    refine J_goto 96 o dX11_fact_70 (by decide) ?_
    exact t_Re_fact_96 k r_x1 r_x2 r_x3 r_x4 r_x5 r_x6 r_x7 rl1 hf hc
noncomputable def f_Re_fact_57 (w : World) (x1 : Int) (x2 : Int) (x3 : Int) (x4 : Int) (x5 : Int) (x6 : Int) (x7 : Int) : Option (World × Int) :=
  f_Re_fact_58 w x1 x2 x3 x4 x5 x6 x7 0
theorem t_Re_fact_57 {E : EE} {K : KT} {l : Launch} {H0 : Heap} (k : Kof TB E K l cX11_fact RX11 rm_Re_fact) {w : World} {x1 : Int} {x2 : Int} {x3 : Int} {x4 : Int} {x5 : Int} {x6 : Int} {x7 : Int} {o8 : Option Value} (r_x1 : R32 x1) (r_x2 : R32 x2) (r_x3 : R32 x3) (r_x4 : R32 x4) (r_x5 : R32 x5) (r_x6 : R32 x6) (r_x7 : R32 x7) {out : (World × Int)} (hf : f_Re_fact_57 w x1 x2 x3 x4 x5 x6 x7 = some out) (hc : (fun out : (World × Int) => RetI TB E K H0 cX11_fact out.1 out.2) out) : Jj K (WdT TB E H0) w 57 [some (rf E.ad 1), some (.int (ii x1)), some (.int (ii x2)), some (.int (ii x3)), some (.int (ii x4)), some (.int (ii x5)), some (.int (ii x6)), some (.int (ii x7)), o8] [] := by
  unfold f_Re_fact_57 at hf
  have o := k.1
  have g := k.2.1
  have kr := k.2.2.1
  refine J_iconst o dX11_fact_57 ?_
  exact t_Re_fact_58 k r_x1 r_x2 r_x3 r_x4 r_x5 r_x6 r_x7 rl0 hf hc
noncomputable def f_Re_fact (w : World) (x1 : Int) (x2 : Int) (x3 : Int) (x4 : Int) (x5 : Int) (x6 : Int) (x7 : Int) : Option (World × Int) :=
  bnd (f_Re_isRelation w x1) fun v2 => if v2 = 0 then (f_Re_fact_57 w x1 x2 x3 x4 x5 x6 x7) else (bnd (f_Re_areValues w x1 x2 x3 x4 0) fun v7 => if v7 = 0 then (f_Re_fact_57 w x1 x2 x3 x4 x5 x6 x7) else (bnd (f_Re_in x5 1 100) fun v12 => if v12 = 0 then (f_Re_fact_57 w x1 x2 x3 x4 x5 x6 x7) else (bnd (f_Re_in x6 0 3) fun v17 => if v17 = 0 then (f_Re_fact_57 w x1 x2 x3 x4 x5 x6 x7) else (bnd (f_Re_in x7 x6 3) fun v22 => if v22 = 0 then (f_Re_fact_57 w x1 x2 x3 x4 x5 x6 x7) else (f_Re_fact_58 w x1 x2 x3 x4 x5 x6 x7 1)))))
theorem t_Re_fact_0 {E : EE} {K : KT} {l : Launch} {H0 : Heap} (k : Kof TB E K l cX11_fact RX11 rm_Re_fact) {w : World} {x1 : Int} {x2 : Int} {x3 : Int} {x4 : Int} {x5 : Int} {x6 : Int} {x7 : Int} {o8 : Option Value} (r_x1 : R32 x1) (r_x2 : R32 x2) (r_x3 : R32 x3) (r_x4 : R32 x4) (r_x5 : R32 x5) (r_x6 : R32 x6) (r_x7 : R32 x7) {out : (World × Int)} (hf : f_Re_fact w x1 x2 x3 x4 x5 x6 x7 = some out) (hc : (fun out : (World × Int) => RetI TB E K H0 cX11_fact out.1 out.2) out) : Jj K (WdT TB E H0) w 0 [some (rf E.ad 1), some (.int (ii x1)), some (.int (ii x2)), some (.int (ii x3)), some (.int (ii x4)), some (.int (ii x5)), some (.int (ii x6)), some (.int (ii x7)), o8] [] := by
  unfold f_Re_fact at hf
  have o := k.1
  have g := k.2.1
  have kr := k.2.2.1
  refine J_aload_n o dX11_fact_0 rfl ?_
  refine J_iload_n o dX11_fact_1 rfl ?_
  obtain ⟨v2, e1, hf⟩ := bnd_some hf
  refine J_vI o g kr dX11_fact_2 lkX11_117 ml_Re_isRelation vl_Re_isRelation ⟨rfl, rfl, Nat.le_of_ble_eq_true rfl, Nat.le_of_ble_eq_true rfl⟩ (c_Re_isRelation g.2.1 r_x1 e1) kB_1 rfl ⟨by decide, by decide⟩ rfl rfl c1s_0 (fun q3 => ?_)
  refine J_if_eq 57 o dX11_fact_5 (by decide) q3 (fun c4 => ?_) (fun c5 => ?_)
  · have hf := ite_t c4 hf
    exact t_Re_fact_57 k r_x1 r_x2 r_x3 r_x4 r_x5 r_x6 r_x7 hf hc
  · have hf := ite_f c5 hf
    refine J_aload_n o dX11_fact_8 rfl ?_
    refine J_iload_n o dX11_fact_9 rfl ?_
    refine J_iload_n o dX11_fact_10 rfl ?_
    refine J_iload_n o dX11_fact_11 rfl ?_
    refine J_iload o dX11_fact_12 rfl ?_
    refine J_iconst o dX11_fact_14 ?_
    obtain ⟨v7, e6, hf⟩ := bnd_some hf
    refine J_vI o g kr dX11_fact_15 lkX11_120 ml_Re_areValues vl_Re_areValues ⟨rfl, rfl, Nat.le_of_ble_eq_true rfl, Nat.le_of_ble_eq_true rfl⟩ (c_Re_areValues g.2.1 r_x1 r_x2 r_x3 r_x4 rl0 e6) kB_1 rfl ⟨by decide, by decide⟩ rfl rfl c1s_0 (fun q8 => ?_)
    refine J_if_eq 57 o dX11_fact_18 (by decide) q8 (fun c9 => ?_) (fun c10 => ?_)
    · have hf := ite_t c9 hf
      exact t_Re_fact_57 k r_x1 r_x2 r_x3 r_x4 r_x5 r_x6 r_x7 hf hc
    · have hf := ite_f c10 hf
      refine J_iload o dX11_fact_21 rfl ?_
      refine J_iconst o dX11_fact_23 ?_
      refine J_bipush o dX11_fact_24 (by decide) ?_
      obtain ⟨v12, e11, hf⟩ := bnd_some hf
      refine J_sI o g kr dX11_fact_26 lkX11_102 ml_Re_in mw1488 ⟨rfl, rfl, Nat.le_of_ble_eq_true rfl, Nat.le_of_ble_eq_true rfl⟩ (c_Re_in g.2.1 r_x5 rl1 rl100 e11) rfl rfl c1s_0 (fun q13 => ?_)
      refine J_if_eq 57 o dX11_fact_29 (by decide) q13 (fun c14 => ?_) (fun c15 => ?_)
      · have hf := ite_t c14 hf
        exact t_Re_fact_57 k r_x1 r_x2 r_x3 r_x4 r_x5 r_x6 r_x7 hf hc
      · have hf := ite_f c15 hf
        refine J_iload o dX11_fact_32 rfl ?_
        refine J_iconst o dX11_fact_34 ?_
        refine J_iconst o dX11_fact_35 ?_
        obtain ⟨v17, e16, hf⟩ := bnd_some hf
        refine J_sI o g kr dX11_fact_36 lkX11_102 ml_Re_in mw1488 ⟨rfl, rfl, Nat.le_of_ble_eq_true rfl, Nat.le_of_ble_eq_true rfl⟩ (c_Re_in g.2.1 r_x6 rl0 rl3 e16) rfl rfl c1s_0 (fun q18 => ?_)
        refine J_if_eq 57 o dX11_fact_39 (by decide) q18 (fun c19 => ?_) (fun c20 => ?_)
        · have hf := ite_t c19 hf
          exact t_Re_fact_57 k r_x1 r_x2 r_x3 r_x4 r_x5 r_x6 r_x7 hf hc
        · have hf := ite_f c20 hf
          refine J_iload o dX11_fact_42 rfl ?_
          refine J_iload o dX11_fact_44 rfl ?_
          refine J_iconst o dX11_fact_46 ?_
          obtain ⟨v22, e21, hf⟩ := bnd_some hf
          refine J_sI o g kr dX11_fact_47 lkX11_102 ml_Re_in mw1488 ⟨rfl, rfl, Nat.le_of_ble_eq_true rfl, Nat.le_of_ble_eq_true rfl⟩ (c_Re_in g.2.1 r_x7 r_x6 rl3 e21) rfl rfl c1s_0 (fun q23 => ?_)
          refine J_if_eq 57 o dX11_fact_50 (by decide) q23 (fun c24 => ?_) (fun c25 => ?_)
          · have hf := ite_t c24 hf
            exact t_Re_fact_57 k r_x1 r_x2 r_x3 r_x4 r_x5 r_x6 r_x7 hf hc
          · have hf := ite_f c25 hf
            refine J_iconst o dX11_fact_53 ?_
            refine J_goto 58 o dX11_fact_54 (by decide) ?_
            exact t_Re_fact_58 k r_x1 r_x2 r_x3 r_x4 r_x5 r_x6 r_x7 rl1 hf hc
theorem c_Re_fact {E : EE} {l : Launch} (hI : Inj TB E) {w : World} {x1 : Int} {x2 : Int} {x3 : Int} {x4 : Int} {x5 : Int} {x6 : Int} {x7 : Int} (r_x1 : R32 x1) (r_x2 : R32 x2) (r_x3 : R32 x3) (r_x4 : R32 x4) (r_x5 : R32 x5) (r_x6 : R32 x6) (r_x7 : R32 x7) {out : (World × Int)} (hf : f_Re_fact w x1 x2 x3 x4 x5 x6 x7 = some out) : ConI TB E l yX11_fact (WS yX11_fact cX11_fact 9 (some .int)) rm_Re_fact [rf E.ad 1, .int (ii x1), .int (ii x2), .int (ii x3), .int (ii x4), .int (ii x5), .int (ii x6), .int (ii x7)] w out.1 out.2 :=
  con_I (by decide +kernel) rfl (Nat.le_of_ble_eq_true rfl) (c1s_r (c1s_i (c1s_i (c1s_i (c1s_i (c1s_i (c1s_i (c1s_i c1s_0 (Nat.le_of_ble_eq_true rfl)) (Nat.le_of_ble_eq_true rfl)) (Nat.le_of_ble_eq_true rfl)) (Nat.le_of_ble_eq_true rfl)) (Nat.le_of_ble_eq_true rfl)) (Nat.le_of_ble_eq_true rfl)) (Nat.le_of_ble_eq_true rfl)) (Nat.le_of_ble_eq_true rfl)).1 ⟨rfl, rfl⟩ hI TnB (fun K H0 k hret => t_Re_fact_0 k r_x1 r_x2 r_x3 r_x4 r_x5 r_x6 r_x7 hf hret)
abbrev rm_Re_drop : Room := { frames := 9, cells := 0, slots := 0, locals := 218 }
def HW_Re_drop_82 (E : EE) (K : KT) (H0 : Heap) (w : World) : (Int × Int) → Prop := fun z => R32 z.1 → R32 z.2 → ∀ o1 o2 : Option Value, Jj K (WdT TB E H0) w 82 [some (rf E.ad 1), o1, o2, some (.int (ii z.1)), some (.int (ii z.2))] []
noncomputable def f_Re_drop_107 (w : World) (x4 : Int) (s0 : Int) (s1 : Int) : Option ((Int × Int) ⊕ (World × Int)) :=
  bl (wr (s0 + s1)) fun n1 => bl (wr (x4 + 1)) fun n2 => some (Sum.inl (n1, n2))
theorem t_Re_drop_107 {E : EE} {K : KT} {l : Launch} {H0 : Heap} (k : Kof TB E K l cX11_drop RX11 rm_Re_drop) {w : World} {x4 : Int} {s0 : Int} {s1 : Int} {o1 o2 o3 : Option Value} (r_x4 : R32 x4) (r_s0 : R32 s0) (r_s1 : R32 s1) {out : ((Int × Int) ⊕ (World × Int))} (hf : f_Re_drop_107 w x4 s0 s1 = some out) (hc : (Sum.elim (HW_Re_drop_82 E K H0 w) (fun out : (World × Int) => RetI TB E K H0 cX11_drop out.1 out.2)) out) : Jj K (WdT TB E H0) w 107 [some (rf E.ad 1), o1, o2, o3, some (.int (ii x4))] [.int (ii s1), .int (ii s0)] := by
  unfold f_Re_drop_107 at hf
  have o := k.1
  have g := k.2.1
  have kr := k.2.2.1
  refine J_iadd o dX11_drop_107 ?_
  refine J_istore_n o dX11_drop_108 (Nat.le_of_ble_eq_true rfl) ?_
  have hf := bl_out hf
  have hf := bl_out hf
  refine J_iinc o dX11_drop_109 rfl ?_
  refine J_goto 82 o dX11_drop_112 (by decide) ?_
  have hf := some_inj hf
  subst hf
  exact hc (R_wr _) (R_wr _) _ _
noncomputable def f_Re_drop_82B (w : World) (x3 : Int) (x4 : Int) : Option ((Int × Int) ⊕ (World × Int)) :=
  if (w 1 7) ≤ x4 then (some (Sum.inr (w, x3))) else (gd (0 ≤ x4 ∧ x4 < 24) (if (w 12 x4.toNat) = 0 then (f_Re_drop_107 w x4 x3 1) else (f_Re_drop_107 w x4 x3 0)))
theorem t_Re_drop_82B {E : EE} {K : KT} {l : Launch} {H0 : Heap} (k : Kof TB E K l cX11_drop RX11 rm_Re_drop) {w : World} {x3 : Int} {x4 : Int} {o1 o2 : Option Value} (r_x3 : R32 x3) (r_x4 : R32 x4) {out : ((Int × Int) ⊕ (World × Int))} (hf : f_Re_drop_82B w x3 x4 = some out) (hc : (Sum.elim (HW_Re_drop_82 E K H0 w) (fun out : (World × Int) => RetI TB E K H0 cX11_drop out.1 out.2)) out) : Jj K (WdT TB E H0) w 82 [some (rf E.ad 1), o1, o2, some (.int (ii x3)), some (.int (ii x4))] [] := by
  unfold f_Re_drop_82B at hf
  have o := k.1
  have g := k.2.1
  have kr := k.2.2.1
  refine J_iload o dX11_drop_82 rfl ?_
  refine J_aload_n o dX11_drop_84 rfl ?_
  refine J_getI o g dX11_drop_85 flX11_124 kB_1 rfl (fun q1 => ?_)
  refine J_icmp_ge 115 o dX11_drop_88 (by decide) r_x4 q1 (fun c2 => ?_) (fun c3 => ?_)
  · have hf := ite_t c2 hf
    refine J_iload_n o dX11_drop_115 rfl ?_
    have hf := some_inj hf
    subst hf
    exact hc _ _ r_x3 dX11_drop_116
  · have hf := ite_f c3 hf
    refine J_iload_n o dX11_drop_91 rfl ?_
    refine J_aload_n o dX11_drop_92 rfl ?_
    refine J_getF (true, 12) o g dX11_drop_93 flX11_41 kB_1 rfl rfl rfl ?_
    refine J_iload o dX11_drop_96 rfl ?_
    obtain ⟨g4, hf⟩ := gd_some hf
    refine J_zald o g dX11_drop_98 kB_12 r_x4 zB_12 g4 (fun q5 => ?_)
    refine J_if_eq 106 o dX11_drop_99 (by decide) q5 (fun c6 => ?_) (fun c7 => ?_)
    · have hf := ite_t c6 hf
      refine J_iconst o dX11_drop_106 ?_
      exact t_Re_drop_107 k r_x4 r_x3 rl1 hf hc
    · have hf := ite_f c7 hf
      refine J_iconst o dX11_drop_102 ?_
      refine J_goto 107 o dX11_drop_103 (by decide) ?_
      exact t_Re_drop_107 k r_x4 r_x3 rl0 hf hc
noncomputable def f_Re_drop_82 (w : World) (x3 : Int) (x4 : Int) : Option (World × Int) :=
  lp (fun z : (Int × Int) => f_Re_drop_82B w z.1 z.2) (x3, x4)
theorem t_Re_drop_82 {E : EE} {K : KT} {l : Launch} {H0 : Heap} (k : Kof TB E K l cX11_drop RX11 rm_Re_drop) {w : World} {x3 : Int} {x4 : Int}  {out : (World × Int)} (hf : f_Re_drop_82 w x3 x4 = some out) (hc : (fun out : (World × Int) => RetI TB E K H0 cX11_drop out.1 out.2) out) : HW_Re_drop_82 E K H0 w (x3, x4) := by
  unfold f_Re_drop_82 at hf
  refine lp_ind (P := HW_Re_drop_82 E K H0 w) hf ?_
  intro z o hs h1 h2
  intro r_x3 r_x4
  intro o1 o2
  refine t_Re_drop_82B k r_x3 r_x4 hs ?_
  cases o with
  | inl z' => exact h1 z' rfl
  | inr r' => rw [h2 r' rfl]; exact hc
noncomputable def f_Re_drop_35 (w : World) (x1 : Int) (s1 : Int) : Option (World × Int) :=
  bnd (f_Re_refused w s1) fun v2 => if v2.2 = 0 then (gd (0 ≤ x1 ∧ x1 < 24) (bl (up v2.1 12 x1.toNat 1) fun w7 => bnd (f_Re_buildAll w7 ) fun v9 => if v9.2 = 0 then (gd (0 ≤ x1 ∧ x1 < 24) (bl (up v9.1 12 x1.toNat 0) fun w14 => bnd (f_Re_buildAll w14 ) fun v16 => bnd (f_Re_refused v16.1 2) fun v19 => some (v19.1, 0))) else (f_Re_drop_82 v9.1 0 0))) else (some (v2.1, 0))
theorem t_Re_drop_35 {E : EE} {K : KT} {l : Launch} {H0 : Heap} (k : Kof TB E K l cX11_drop RX11 rm_Re_drop) {w : World} {x1 : Int} {s1 : Int} {o2 o3 o4 : Option Value} (r_x1 : R32 x1) (r_s1 : R32 s1) {out : (World × Int)} (hf : f_Re_drop_35 w x1 s1 = some out) (hc : (fun out : (World × Int) => RetI TB E K H0 cX11_drop out.1 out.2) out) : Jj K (WdT TB E H0) w 35 [some (rf E.ad 1), some (.int (ii x1)), o2, o3, o4] [.int (ii s1), rf E.ad 1] := by
  unfold f_Re_drop_35 at hf
  have o := k.1
  have g := k.2.1
  have kr := k.2.2.1
  obtain ⟨v2, e1, hf⟩ := bnd_some hf
  refine J_vI o g kr dX11_drop_35 lkX11_113 ml_Re_refused vl_Re_refused ⟨rfl, rfl, Nat.le_of_ble_eq_true rfl, Nat.le_of_ble_eq_true rfl⟩ (c_Re_refused g.2.1 r_s1 e1) kB_1 rfl ⟨by decide, by decide⟩ rfl rfl c1s_0 (fun q3 => ?_)
  refine J_if_eq 43 o dX11_drop_38 (by decide) q3 (fun c4 => ?_) (fun c5 => ?_)
  · have hf := ite_t c4 hf
    refine J_aload_n o dX11_drop_43 rfl ?_
    refine J_getF (true, 12) o g dX11_drop_44 flX11_41 kB_1 rfl rfl rfl ?_
    refine J_iload_n o dX11_drop_47 rfl ?_
    refine J_iconst o dX11_drop_48 ?_
    obtain ⟨g6, hf⟩ := gd_some hf
    refine J_zast o g dX11_drop_49 kB_12 (fxB_41 _) r_x1 zB_12 g6 (Or.inr rfl) ?_
    have hf := bl_out hf
    refine J_aload_n o dX11_drop_50 rfl ?_
    obtain ⟨v9, e8, hf⟩ := bnd_some hf
    refine J_vI o g kr dX11_drop_51 lkX11_127 ml_Re_buildAll vl_Re_buildAll ⟨rfl, rfl, Nat.le_of_ble_eq_true rfl, Nat.le_of_ble_eq_true rfl⟩ (c_Re_buildAll g.2.1  e8) kB_1 rfl ⟨by decide, by decide⟩ rfl rfl c1s_0 (fun q10 => ?_)
    refine J_if_ne 77 o dX11_drop_54 (by decide) q10 (fun c11 => ?_) (fun c12 => ?_)
    · have hf := ite_f c11 hf
      refine J_iconst o dX11_drop_77 ?_
      refine J_istore_n o dX11_drop_78 (Nat.le_of_ble_eq_true rfl) ?_
      refine J_iconst o dX11_drop_79 ?_
      refine J_istore o dX11_drop_80 (Nat.le_of_ble_eq_true rfl) ?_
      exact (t_Re_drop_82 k  hf hc) rl0 rl0 _ _
    · have hf := ite_t c12 hf
      refine J_aload_n o dX11_drop_57 rfl ?_
      refine J_getF (true, 12) o g dX11_drop_58 flX11_41 kB_1 rfl rfl rfl ?_
      refine J_iload_n o dX11_drop_61 rfl ?_
      refine J_iconst o dX11_drop_62 ?_
      obtain ⟨g13, hf⟩ := gd_some hf
      refine J_zast o g dX11_drop_63 kB_12 (fxB_41 _) r_x1 zB_12 g13 (Or.inl rfl) ?_
      have hf := bl_out hf
      refine J_aload_n o dX11_drop_64 rfl ?_
      obtain ⟨v16, e15, hf⟩ := bnd_some hf
      refine J_vI o g kr dX11_drop_65 lkX11_127 ml_Re_buildAll vl_Re_buildAll ⟨rfl, rfl, Nat.le_of_ble_eq_true rfl, Nat.le_of_ble_eq_true rfl⟩ (c_Re_buildAll g.2.1  e15) kB_1 rfl ⟨by decide, by decide⟩ rfl rfl c1s_0 (fun q17 => ?_)
      refine J_pop o dX11_drop_68 rfl ?_
      refine J_aload_n o dX11_drop_69 rfl ?_
      refine J_iconst o dX11_drop_70 ?_
      obtain ⟨v19, e18, hf⟩ := bnd_some hf
      refine J_vI o g kr dX11_drop_71 lkX11_113 ml_Re_refused vl_Re_refused ⟨rfl, rfl, Nat.le_of_ble_eq_true rfl, Nat.le_of_ble_eq_true rfl⟩ (c_Re_refused g.2.1 rl2 e18) kB_1 rfl ⟨by decide, by decide⟩ rfl rfl c1s_0 (fun q20 => ?_)
      refine J_pop o dX11_drop_74 rfl ?_
      refine J_iconst o dX11_drop_75 ?_
      have hf := some_inj hf
      subst hf
      exact hc _ _ rl0 dX11_drop_76
  · have hf := ite_f c5 hf
    refine J_iconst o dX11_drop_41 ?_
    have hf := some_inj hf
    subst hf
    exact hc _ _ rl0 dX11_drop_42
noncomputable def f_Re_drop (w : World) (x1 : Int) : Option (World × Int) :=
  bnd (f_Re_in x1 0 (wr ((w 1 7) - 1))) fun v3 => if v3 = 0 then (f_Re_drop_35 w x1 1) else (gd (0 ≤ x1 ∧ x1 < 24) (if (w 12 x1.toNat) = 0 then (f_Re_drop_35 w x1 0) else (f_Re_drop_35 w x1 2)))
theorem t_Re_drop_0 {E : EE} {K : KT} {l : Launch} {H0 : Heap} (k : Kof TB E K l cX11_drop RX11 rm_Re_drop) {w : World} {x1 : Int} {o2 o3 o4 : Option Value} (r_x1 : R32 x1) {out : (World × Int)} (hf : f_Re_drop w x1 = some out) (hc : (fun out : (World × Int) => RetI TB E K H0 cX11_drop out.1 out.2) out) : Jj K (WdT TB E H0) w 0 [some (rf E.ad 1), some (.int (ii x1)), o2, o3, o4] [] := by
  unfold f_Re_drop at hf
  have o := k.1
  have g := k.2.1
  have kr := k.2.2.1
  refine J_iload_n o dX11_drop_0 rfl ?_
  refine J_iconst o dX11_drop_1 ?_
  refine J_aload_n o dX11_drop_2 rfl ?_
  refine J_getI o g dX11_drop_3 flX11_124 kB_1 rfl (fun q1 => ?_)
  refine J_iconst o dX11_drop_6 ?_
  refine J_isub o dX11_drop_7 ?_
  obtain ⟨v3, e2, hf⟩ := bnd_some hf
  refine J_sI o g kr dX11_drop_8 lkX11_102 ml_Re_in mw1488 ⟨rfl, rfl, Nat.le_of_ble_eq_true rfl, Nat.le_of_ble_eq_true rfl⟩ (c_Re_in g.2.1 r_x1 rl0 (R_wr _) e2) rfl rfl c1s_0 (fun q4 => ?_)
  refine J_istore_n o dX11_drop_11 (Nat.le_of_ble_eq_true rfl) ?_
  refine J_aload_n o dX11_drop_12 rfl ?_
  refine J_iload_n o dX11_drop_13 rfl ?_
  refine J_if_ne 21 o dX11_drop_14 (by decide) q4 (fun c5 => ?_) (fun c6 => ?_)
  · have hf := ite_f c5 hf
    refine J_aload_n o dX11_drop_21 rfl ?_
    refine J_getF (true, 12) o g dX11_drop_22 flX11_41 kB_1 rfl rfl rfl ?_
    refine J_iload_n o dX11_drop_25 rfl ?_
    obtain ⟨g7, hf⟩ := gd_some hf
    refine J_zald o g dX11_drop_26 kB_12 r_x1 zB_12 g7 (fun q8 => ?_)
    refine J_if_eq 34 o dX11_drop_27 (by decide) q8 (fun c9 => ?_) (fun c10 => ?_)
    · have hf := ite_t c9 hf
      refine J_iconst o dX11_drop_34 ?_
      exact t_Re_drop_35 k r_x1 rl0 hf hc
    · have hf := ite_f c10 hf
      refine J_iconst o dX11_drop_30 ?_
      refine J_goto 35 o dX11_drop_31 (by decide) ?_
      exact t_Re_drop_35 k r_x1 rl2 hf hc
  · have hf := ite_t c6 hf
    refine J_iconst o dX11_drop_17 ?_
    refine J_goto 35 o dX11_drop_18 (by decide) ?_
    exact t_Re_drop_35 k r_x1 rl1 hf hc
theorem c_Re_drop {E : EE} {l : Launch} (hI : Inj TB E) {w : World} {x1 : Int} (r_x1 : R32 x1) {out : (World × Int)} (hf : f_Re_drop w x1 = some out) : ConI TB E l yX11_drop (WS yX11_drop cX11_drop 5 (some .int)) rm_Re_drop [rf E.ad 1, .int (ii x1)] w out.1 out.2 :=
  con_I (by decide +kernel) rfl (Nat.le_of_ble_eq_true rfl) (c1s_r (c1s_i c1s_0 (Nat.le_of_ble_eq_true rfl)) (Nat.le_of_ble_eq_true rfl)).1 ⟨rfl, rfl⟩ hI TnB (fun K H0 k hret => t_Re_drop_0 k r_x1 hf hret)
abbrev rm_Re_pass : Room := { frames := 2, cells := 0, slots := 0, locals := 45 }
noncomputable def f_Re_pass_14 (w : World) (s1 : Int) : Option (World × Int) :=
  bnd (f_Re_refused w s1) fun v2 => if v2.2 = 0 then (bl (up v2.1 1 1 (wr ((v2.1 1 1) + 1))) fun w7 => some (w7, w7 1 1)) else (some (v2.1, 0))
theorem t_Re_pass_14 {E : EE} {K : KT} {l : Launch} {H0 : Heap} (k : Kof TB E K l cX11_pass RX11 rm_Re_pass) {w : World} {s1 : Int} (r_s1 : R32 s1) {out : (World × Int)} (hf : f_Re_pass_14 w s1 = some out) (hc : (fun out : (World × Int) => RetI TB E K H0 cX11_pass out.1 out.2) out) : Jj K (WdT TB E H0) w 14 [some (rf E.ad 1)] [.int (ii s1), rf E.ad 1] := by
  unfold f_Re_pass_14 at hf
  have o := k.1
  have g := k.2.1
  have kr := k.2.2.1
  obtain ⟨v2, e1, hf⟩ := bnd_some hf
  refine J_vI o g kr dX11_pass_14 lkX11_113 ml_Re_refused vl_Re_refused ⟨rfl, rfl, Nat.le_of_ble_eq_true rfl, Nat.le_of_ble_eq_true rfl⟩ (c_Re_refused g.2.1 r_s1 e1) kB_1 rfl ⟨by decide, by decide⟩ rfl rfl c1s_0 (fun q3 => ?_)
  refine J_if_eq 22 o dX11_pass_17 (by decide) q3 (fun c4 => ?_) (fun c5 => ?_)
  · have hf := ite_t c4 hf
    refine J_aload_n o dX11_pass_22 rfl ?_
    refine J_dup o dX11_pass_23 rf_cat ?_
    refine J_getI o g dX11_pass_24 flX11_131 kB_1 rfl (fun q6 => ?_)
    refine J_iconst o dX11_pass_27 ?_
    refine J_iadd o dX11_pass_28 ?_
    refine J_putI o g dX11_pass_29 fpX11_131 kB_1 rfl rfl (R_wr _) ?_
    have hf := bl_out hf
    refine J_aload_n o dX11_pass_32 rfl ?_
    refine J_getI o g dX11_pass_33 flX11_131 kB_1 rfl (fun q8 => ?_)
    have hf := some_inj hf
    subst hf
    exact hc _ _ q8 dX11_pass_36
  · have hf := ite_f c5 hf
    refine J_iconst o dX11_pass_20 ?_
    have hf := some_inj hf
    subst hf
    exact hc _ _ rl0 dX11_pass_21
noncomputable def f_Re_pass (w : World) : Option (World × Int) :=
  if (w 1 1) = 3 then (f_Re_pass_14 w 1) else (f_Re_pass_14 w 0)
theorem t_Re_pass_0 {E : EE} {K : KT} {l : Launch} {H0 : Heap} (k : Kof TB E K l cX11_pass RX11 rm_Re_pass) {w : World}  {out : (World × Int)} (hf : f_Re_pass w = some out) (hc : (fun out : (World × Int) => RetI TB E K H0 cX11_pass out.1 out.2) out) : Jj K (WdT TB E H0) w 0 [some (rf E.ad 1)] [] := by
  unfold f_Re_pass at hf
  have o := k.1
  have g := k.2.1
  have kr := k.2.2.1
  refine J_aload_n o dX11_pass_0 rfl ?_
  refine J_aload_n o dX11_pass_1 rfl ?_
  refine J_getI o g dX11_pass_2 flX11_131 kB_1 rfl (fun q1 => ?_)
  refine J_iconst o dX11_pass_5 ?_
  refine J_icmp_ne 13 o dX11_pass_6 (by decide) q1 rl3 (fun c2 => ?_) (fun c3 => ?_)
  · have hf := ite_f c2 hf
    refine J_iconst o dX11_pass_13 ?_
    exact t_Re_pass_14 k rl0 hf hc
  · have hf := ite_t c3 hf
    refine J_iconst o dX11_pass_9 ?_
    refine J_goto 14 o dX11_pass_10 (by decide) ?_
    exact t_Re_pass_14 k rl1 hf hc
theorem c_Re_pass {E : EE} {l : Launch} (hI : Inj TB E) {w : World}  {out : (World × Int)} (hf : f_Re_pass w = some out) : ConI TB E l yX11_pass (WS yX11_pass cX11_pass 1 (some .int)) rm_Re_pass [rf E.ad 1] w out.1 out.2 :=
  con_I (by decide +kernel) rfl (Nat.le_of_ble_eq_true rfl) (c1s_r c1s_0 (Nat.le_of_ble_eq_true rfl)).1 ⟨rfl, rfl⟩ hI TnB (fun K H0 k hret => t_Re_pass_0 k  hf hret)
abbrev rm_Re_head : Room := { frames := 4, cells := 0, slots := 0, locals := 93 }
noncomputable def f_Re_head_30 (w : World) (x1 : Int) (x2 : Int) (x3 : Int) (x4 : Int) (s1 : Int) : Option World :=
  bnd (f_Re_refused w s1) fun v2 => if v2.2 = 0 then (bl (up v2.1 14 18 x1) fun w6 => bl (up w6 15 54 x2) fun w7 => bl (up w7 15 55 x3) fun w8 => bl (up w8 15 56 x4) fun w9 => some w9) else (some v2.1)
theorem t_Re_head_30 {E : EE} {K : KT} {l : Launch} {H0 : Heap} (k : Kof TB E K l cX11_head RX11 rm_Re_head) {w : World} {x1 : Int} {x2 : Int} {x3 : Int} {x4 : Int} {s1 : Int} (r_x1 : R32 x1) (r_x2 : R32 x2) (r_x3 : R32 x3) (r_x4 : R32 x4) (r_s1 : R32 s1) {out : World} (hf : f_Re_head_30 w x1 x2 x3 x4 s1 = some out) (hc : (fun out : World => RetV TB E K H0 cX11_head out) out) : Jj K (WdT TB E H0) w 30 [some (rf E.ad 1), some (.int (ii x1)), some (.int (ii x2)), some (.int (ii x3)), some (.int (ii x4))] [.int (ii s1), rf E.ad 1] := by
  unfold f_Re_head_30 at hf
  have o := k.1
  have g := k.2.1
  have kr := k.2.2.1
  obtain ⟨v2, e1, hf⟩ := bnd_some hf
  refine J_vI o g kr dX11_head_30 lkX11_113 ml_Re_refused vl_Re_refused ⟨rfl, rfl, Nat.le_of_ble_eq_true rfl, Nat.le_of_ble_eq_true rfl⟩ (c_Re_refused g.2.1 r_s1 e1) kB_1 rfl ⟨by decide, by decide⟩ rfl rfl c1s_0 (fun q3 => ?_)
  refine J_if_eq 37 o dX11_head_33 (by decide) q3 (fun c4 => ?_) (fun c5 => ?_)
  · have hf := ite_t c4 hf
    refine J_aload_n o dX11_head_37 rfl ?_
    refine J_getF (true, 14) o g dX11_head_38 flX11_47 kB_1 rfl rfl rfl ?_
    refine J_bipush o dX11_head_41 (by decide) ?_
    refine J_iload_n o dX11_head_43 rfl ?_
    refine J_iast o g dX11_head_44 kB_14 (fxB_40 _) rl18 zB_14 ⟨by decide, by decide⟩ r_x1 ?_
    have hf := bl_out hf
    refine J_aload_n o dX11_head_45 rfl ?_
    refine J_getF (true, 15) o g dX11_head_46 flX11_50 kB_1 rfl rfl rfl ?_
    refine J_bipush o dX11_head_49 (by decide) ?_
    refine J_iload_n o dX11_head_51 rfl ?_
    refine J_iast o g dX11_head_52 kB_15 (fxB_40 _) rl54 zB_15 ⟨by decide, by decide⟩ r_x2 ?_
    have hf := bl_out hf
    refine J_aload_n o dX11_head_53 rfl ?_
    refine J_getF (true, 15) o g dX11_head_54 flX11_50 kB_1 rfl rfl rfl ?_
    refine J_bipush o dX11_head_57 (by decide) ?_
    refine J_iload_n o dX11_head_59 rfl ?_
    refine J_iast o g dX11_head_60 kB_15 (fxB_40 _) rl55 zB_15 ⟨by decide, by decide⟩ r_x3 ?_
    have hf := bl_out hf
    refine J_aload_n o dX11_head_61 rfl ?_
    refine J_getF (true, 15) o g dX11_head_62 flX11_50 kB_1 rfl rfl rfl ?_
    refine J_bipush o dX11_head_65 (by decide) ?_
    refine J_iload o dX11_head_67 rfl ?_
    refine J_iast o g dX11_head_69 kB_15 (fxB_40 _) rl56 zB_15 ⟨by decide, by decide⟩ r_x4 ?_
    have hf := bl_out hf
    have hf := some_inj hf
    subst hf
    exact hc _ _  dX11_head_70
  · have hf := ite_f c5 hf
    have hf := some_inj hf
    subst hf
    exact hc _ _  dX11_head_36
noncomputable def f_Re_head (w : World) (x1 : Int) (x2 : Int) (x3 : Int) (x4 : Int) : Option World :=
  bnd (f_Re_isRelation w x1) fun v2 => if v2 = 0 then (f_Re_head_30 w x1 x2 x3 x4 1) else (bnd (f_Re_areTerms w x1 x2 x3 x4) fun v7 => if v7 = 0 then (f_Re_head_30 w x1 x2 x3 x4 2) else (f_Re_head_30 w x1 x2 x3 x4 0))
theorem t_Re_head_0 {E : EE} {K : KT} {l : Launch} {H0 : Heap} (k : Kof TB E K l cX11_head RX11 rm_Re_head) {w : World} {x1 : Int} {x2 : Int} {x3 : Int} {x4 : Int} (r_x1 : R32 x1) (r_x2 : R32 x2) (r_x3 : R32 x3) (r_x4 : R32 x4) {out : World} (hf : f_Re_head w x1 x2 x3 x4 = some out) (hc : (fun out : World => RetV TB E K H0 cX11_head out) out) : Jj K (WdT TB E H0) w 0 [some (rf E.ad 1), some (.int (ii x1)), some (.int (ii x2)), some (.int (ii x3)), some (.int (ii x4))] [] := by
  unfold f_Re_head at hf
  have o := k.1
  have g := k.2.1
  have kr := k.2.2.1
  refine J_aload_n o dX11_head_0 rfl ?_
  refine J_aload_n o dX11_head_1 rfl ?_
  refine J_iload_n o dX11_head_2 rfl ?_
  obtain ⟨v2, e1, hf⟩ := bnd_some hf
  refine J_vI o g kr dX11_head_3 lkX11_117 ml_Re_isRelation vl_Re_isRelation ⟨rfl, rfl, Nat.le_of_ble_eq_true rfl, Nat.le_of_ble_eq_true rfl⟩ (c_Re_isRelation g.2.1 r_x1 e1) kB_1 rfl ⟨by decide, by decide⟩ rfl rfl (c1s_r c1s_0 (Nat.le_of_ble_eq_true rfl)) (fun q3 => ?_)
  refine J_if_ne 13 o dX11_head_6 (by decide) q3 (fun c4 => ?_) (fun c5 => ?_)
  · have hf := ite_f c4 hf
    refine J_aload_n o dX11_head_13 rfl ?_
    refine J_iload_n o dX11_head_14 rfl ?_
    refine J_iload_n o dX11_head_15 rfl ?_
    refine J_iload_n o dX11_head_16 rfl ?_
    refine J_iload o dX11_head_17 rfl ?_
    obtain ⟨v7, e6, hf⟩ := bnd_some hf
    refine J_vI o g kr dX11_head_19 lkX11_134 ml_Re_areTerms vl_Re_areTerms ⟨rfl, rfl, Nat.le_of_ble_eq_true rfl, Nat.le_of_ble_eq_true rfl⟩ (c_Re_areTerms g.2.1 r_x1 r_x2 r_x3 r_x4 e6) kB_1 rfl ⟨by decide, by decide⟩ rfl rfl (c1s_r c1s_0 (Nat.le_of_ble_eq_true rfl)) (fun q8 => ?_)
    refine J_if_eq 29 o dX11_head_22 (by decide) q8 (fun c9 => ?_) (fun c10 => ?_)
    · have hf := ite_t c9 hf
      refine J_iconst o dX11_head_29 ?_
      exact t_Re_head_30 k r_x1 r_x2 r_x3 r_x4 rl2 hf hc
    · have hf := ite_f c10 hf
      refine J_iconst o dX11_head_25 ?_
      refine J_goto 30 o dX11_head_26 (by decide) ?_
      exact t_Re_head_30 k r_x1 r_x2 r_x3 r_x4 rl0 hf hc
  · have hf := ite_t c5 hf
    refine J_iconst o dX11_head_9 ?_
    refine J_goto 30 o dX11_head_10 (by decide) ?_
    exact t_Re_head_30 k r_x1 r_x2 r_x3 r_x4 rl1 hf hc
theorem c_Re_head {E : EE} {l : Launch} (hI : Inj TB E) {w : World} {x1 : Int} {x2 : Int} {x3 : Int} {x4 : Int} (r_x1 : R32 x1) (r_x2 : R32 x2) (r_x3 : R32 x3) (r_x4 : R32 x4) {out : World} (hf : f_Re_head w x1 x2 x3 x4 = some out) : ConV TB E l yX11_head (WS yX11_head cX11_head 5 none) rm_Re_head [rf E.ad 1, .int (ii x1), .int (ii x2), .int (ii x3), .int (ii x4)] w out :=
  con_V (by decide +kernel) rfl (Nat.le_of_ble_eq_true rfl) (c1s_r (c1s_i (c1s_i (c1s_i (c1s_i c1s_0 (Nat.le_of_ble_eq_true rfl)) (Nat.le_of_ble_eq_true rfl)) (Nat.le_of_ble_eq_true rfl)) (Nat.le_of_ble_eq_true rfl)) (Nat.le_of_ble_eq_true rfl)).1 ⟨rfl, rfl⟩ hI TnB (fun K H0 k hret => t_Re_head_0 k r_x1 r_x2 r_x3 r_x4 hf hret)
abbrev rm_Re_put : Room := { frames := 1, cells := 0, slots := 0, locals := 24 }
noncomputable def f_Re_put (w : World) (x1 : Int) (x2 : Int) (x3 : Int) (x4 : Int) (x5 : Int) : Option (World × Int) :=
  bl (wr (90 + (w 16 18))) fun n2 => gd (0 ≤ n2 ∧ n2 < 95) (bl (up w 17 n2.toNat x1) fun w4 => gd (0 ≤ n2 ∧ n2 < 95) (bl (up w4 18 n2.toNat x2) fun w6 => gd (0 ≤ wr (3 * n2) ∧ wr (3 * n2) < 285) (bl (up w6 19 (wr (3 * n2)).toNat x3) fun w8 => gd (0 ≤ wr ((wr (3 * n2)) + 1) ∧ wr ((wr (3 * n2)) + 1) < 285) (bl (up w8 19 (wr ((wr (3 * n2)) + 1)).toNat x4) fun w10 => gd (0 ≤ wr ((wr (3 * n2)) + 2) ∧ wr ((wr (3 * n2)) + 2) < 285) (bl (up w10 19 (wr ((wr (3 * n2)) + 2)).toNat x5) fun w12 => bl (up w12 16 18 (wr ((w12 16 18) + 1))) fun w14 => some (w14, w14 16 18))))))
theorem t_Re_put_0 {E : EE} {K : KT} {l : Launch} {H0 : Heap} (k : Kof TB E K l cX11_put RX11 rm_Re_put) {w : World} {x1 : Int} {x2 : Int} {x3 : Int} {x4 : Int} {x5 : Int} {o6 : Option Value} (r_x1 : R32 x1) (r_x2 : R32 x2) (r_x3 : R32 x3) (r_x4 : R32 x4) (r_x5 : R32 x5) {out : (World × Int)} (hf : f_Re_put w x1 x2 x3 x4 x5 = some out) (hc : (fun out : (World × Int) => RetI TB E K H0 cX11_put out.1 out.2) out) : Jj K (WdT TB E H0) w 0 [some (rf E.ad 1), some (.int (ii x1)), some (.int (ii x2)), some (.int (ii x3)), some (.int (ii x4)), some (.int (ii x5)), o6] [] := by
  unfold f_Re_put at hf
  have o := k.1
  have g := k.2.1
  have kr := k.2.2.1
  refine J_bipush o dX11_put_0 (by decide) ?_
  refine J_aload_n o dX11_put_2 rfl ?_
  refine J_getF (true, 16) o g dX11_put_3 flX11_53 kB_1 rfl rfl rfl ?_
  refine J_bipush o dX11_put_6 (by decide) ?_
  refine J_iald o g dX11_put_8 kB_16 rl18 zB_16 ⟨by decide, by decide⟩ (fun q1 => ?_)
  refine J_iadd o dX11_put_9 ?_
  refine J_istore o dX11_put_10 (Nat.le_of_ble_eq_true rfl) ?_
  have hf := bl_out hf
  refine J_aload_n o dX11_put_12 rfl ?_
  refine J_getF (true, 17) o g dX11_put_13 flX11_56 kB_1 rfl rfl rfl ?_
  refine J_iload o dX11_put_16 rfl ?_
  refine J_iload_n o dX11_put_18 rfl ?_
  obtain ⟨g3, hf⟩ := gd_some hf
  refine J_iast o g dX11_put_19 kB_17 (fxB_40 _) (R_wr _) zB_17 g3 r_x1 ?_
  have hf := bl_out hf
  refine J_aload_n o dX11_put_20 rfl ?_
  refine J_getF (true, 18) o g dX11_put_21 flX11_59 kB_1 rfl rfl rfl ?_
  refine J_iload o dX11_put_24 rfl ?_
  refine J_iload_n o dX11_put_26 rfl ?_
  obtain ⟨g5, hf⟩ := gd_some hf
  refine J_iast o g dX11_put_27 kB_18 (fxB_40 _) (R_wr _) zB_18 g5 r_x2 ?_
  have hf := bl_out hf
  refine J_aload_n o dX11_put_28 rfl ?_
  refine J_getF (true, 19) o g dX11_put_29 flX11_62 kB_1 rfl rfl rfl ?_
  refine J_iconst o dX11_put_32 ?_
  refine J_iload o dX11_put_33 rfl ?_
  refine J_imul o dX11_put_35 ?_
  refine J_iload_n o dX11_put_36 rfl ?_
  obtain ⟨g7, hf⟩ := gd_some hf
  refine J_iast o g dX11_put_37 kB_19 (fxB_40 _) (R_wr _) zB_19 g7 r_x3 ?_
  have hf := bl_out hf
  refine J_aload_n o dX11_put_38 rfl ?_
  refine J_getF (true, 19) o g dX11_put_39 flX11_62 kB_1 rfl rfl rfl ?_
  refine J_iconst o dX11_put_42 ?_
  refine J_iload o dX11_put_43 rfl ?_
  refine J_imul o dX11_put_45 ?_
  refine J_iconst o dX11_put_46 ?_
  refine J_iadd o dX11_put_47 ?_
  refine J_iload o dX11_put_48 rfl ?_
  obtain ⟨g9, hf⟩ := gd_some hf
  refine J_iast o g dX11_put_50 kB_19 (fxB_40 _) (R_wr _) zB_19 g9 r_x4 ?_
  have hf := bl_out hf
  refine J_aload_n o dX11_put_51 rfl ?_
  refine J_getF (true, 19) o g dX11_put_52 flX11_62 kB_1 rfl rfl rfl ?_
  refine J_iconst o dX11_put_55 ?_
  refine J_iload o dX11_put_56 rfl ?_
  refine J_imul o dX11_put_58 ?_
  refine J_iconst o dX11_put_59 ?_
  refine J_iadd o dX11_put_60 ?_
  refine J_iload o dX11_put_61 rfl ?_
  obtain ⟨g11, hf⟩ := gd_some hf
  refine J_iast o g dX11_put_63 kB_19 (fxB_40 _) (R_wr _) zB_19 g11 r_x5 ?_
  have hf := bl_out hf
  refine J_aload_n o dX11_put_64 rfl ?_
  refine J_getF (true, 16) o g dX11_put_65 flX11_53 kB_1 rfl rfl rfl ?_
  refine J_bipush o dX11_put_68 (by decide) ?_
  refine J_dup2 o dX11_put_70 rfl rf_cat ?_
  refine J_iald o g dX11_put_71 kB_16 rl18 zB_16 ⟨by decide, by decide⟩ (fun q13 => ?_)
  refine J_iconst o dX11_put_72 ?_
  refine J_iadd o dX11_put_73 ?_
  refine J_iast o g dX11_put_74 kB_16 (fxB_40 _) rl18 zB_16 ⟨by decide, by decide⟩ (R_wr _) ?_
  have hf := bl_out hf
  refine J_aload_n o dX11_put_75 rfl ?_
  refine J_getF (true, 16) o g dX11_put_76 flX11_53 kB_1 rfl rfl rfl ?_
  refine J_bipush o dX11_put_79 (by decide) ?_
  refine J_iald o g dX11_put_81 kB_16 rl18 zB_16 ⟨by decide, by decide⟩ (fun q15 => ?_)
  have hf := some_inj hf
  subst hf
  exact hc _ _ q15 dX11_put_82
theorem c_Re_put {E : EE} {l : Launch} (hI : Inj TB E) {w : World} {x1 : Int} {x2 : Int} {x3 : Int} {x4 : Int} {x5 : Int} (r_x1 : R32 x1) (r_x2 : R32 x2) (r_x3 : R32 x3) (r_x4 : R32 x4) (r_x5 : R32 x5) {out : (World × Int)} (hf : f_Re_put w x1 x2 x3 x4 x5 = some out) : ConI TB E l yX11_put (WS yX11_put cX11_put 7 (some .int)) rm_Re_put [rf E.ad 1, .int (ii x1), .int (ii x2), .int (ii x3), .int (ii x4), .int (ii x5)] w out.1 out.2 :=
  con_I (by decide +kernel) rfl (Nat.le_of_ble_eq_true rfl) (c1s_r (c1s_i (c1s_i (c1s_i (c1s_i (c1s_i c1s_0 (Nat.le_of_ble_eq_true rfl)) (Nat.le_of_ble_eq_true rfl)) (Nat.le_of_ble_eq_true rfl)) (Nat.le_of_ble_eq_true rfl)) (Nat.le_of_ble_eq_true rfl)) (Nat.le_of_ble_eq_true rfl)).1 ⟨rfl, rfl⟩ hI TnB (fun K H0 k hret => t_Re_put_0 k r_x1 r_x2 r_x3 r_x4 r_x5 hf hret)
abbrev rm_Re_atomsOf : Room := { frames := 1, cells := 0, slots := 0, locals := 24 }
def HW_Re_atomsOf_6 (E : EE) (K : KT) (H0 : Heap) (w : World) (x1 : Int) : (Int × Int) → Prop := fun z => R32 z.1 → R32 z.2 → Jj K (WdT TB E H0) w 6 [some (rf E.ad 1), some (.int (ii x1)), some (.int (ii z.1)), some (.int (ii z.2))] []
noncomputable def f_Re_atomsOf_35 (w : World) (x1 : Int) (x3 : Int) (s0 : Int) (s1 : Int) : Option ((Int × Int) ⊕ Int) :=
  bl (wr (s0 + s1)) fun n1 => bl (wr (x3 + 1)) fun n2 => some (Sum.inl (n1, n2))
theorem t_Re_atomsOf_35 {E : EE} {K : KT} {l : Launch} {H0 : Heap} (k : Kof TB E K l cX11_atomsOf RX11 rm_Re_atomsOf) {w : World} {x1 : Int} {x3 : Int} {s0 : Int} {s1 : Int} {o2 : Option Value} (r_x1 : R32 x1) (r_x3 : R32 x3) (r_s0 : R32 s0) (r_s1 : R32 s1) {out : ((Int × Int) ⊕ Int)} (hf : f_Re_atomsOf_35 w x1 x3 s0 s1 = some out) (hc : (Sum.elim (HW_Re_atomsOf_6 E K H0 w x1) (fun out : Int => RetI TB E K H0 cX11_atomsOf w out)) out) : Jj K (WdT TB E H0) w 35 [some (rf E.ad 1), some (.int (ii x1)), o2, some (.int (ii x3))] [.int (ii s1), .int (ii s0)] := by
  unfold f_Re_atomsOf_35 at hf
  have o := k.1
  have g := k.2.1
  have kr := k.2.2.1
  refine J_iadd o dX11_atomsOf_35 ?_
  refine J_istore_n o dX11_atomsOf_36 (Nat.le_of_ble_eq_true rfl) ?_
  have hf := bl_out hf
  have hf := bl_out hf
  refine J_iinc o dX11_atomsOf_37 rfl ?_
  refine J_goto 6 o dX11_atomsOf_40 (by decide) ?_
  have hf := some_inj hf
  subst hf
  exact hc (R_wr _) (R_wr _) 
noncomputable def f_Re_atomsOf_6B (w : World) (x1 : Int) (x2 : Int) (x3 : Int) : Option ((Int × Int) ⊕ Int) :=
  gd (0 ≤ x1 ∧ x1 < 19) (if (wr ((wr (5 * x1)) + (w 16 x1.toNat))) ≤ x3 then (some (Sum.inr x2)) else (gd (0 ≤ x3 ∧ x3 < 95) (if (w 17 x3.toNat) = 0 then (f_Re_atomsOf_35 w x1 x3 x2 1) else (f_Re_atomsOf_35 w x1 x3 x2 0))))
theorem t_Re_atomsOf_6B {E : EE} {K : KT} {l : Launch} {H0 : Heap} (k : Kof TB E K l cX11_atomsOf RX11 rm_Re_atomsOf) {w : World} {x1 : Int} {x2 : Int} {x3 : Int} (r_x1 : R32 x1) (r_x2 : R32 x2) (r_x3 : R32 x3) {out : ((Int × Int) ⊕ Int)} (hf : f_Re_atomsOf_6B w x1 x2 x3 = some out) (hc : (Sum.elim (HW_Re_atomsOf_6 E K H0 w x1) (fun out : Int => RetI TB E K H0 cX11_atomsOf w out)) out) : Jj K (WdT TB E H0) w 6 [some (rf E.ad 1), some (.int (ii x1)), some (.int (ii x2)), some (.int (ii x3))] [] := by
  unfold f_Re_atomsOf_6B at hf
  have o := k.1
  have g := k.2.1
  have kr := k.2.2.1
  refine J_iload_n o dX11_atomsOf_6 rfl ?_
  refine J_iconst o dX11_atomsOf_7 ?_
  refine J_iload_n o dX11_atomsOf_8 rfl ?_
  refine J_imul o dX11_atomsOf_9 ?_
  refine J_aload_n o dX11_atomsOf_10 rfl ?_
  refine J_getF (true, 16) o g dX11_atomsOf_11 flX11_53 kB_1 rfl rfl rfl ?_
  refine J_iload_n o dX11_atomsOf_14 rfl ?_
  obtain ⟨g1, hf⟩ := gd_some hf
  refine J_iald o g dX11_atomsOf_15 kB_16 r_x1 zB_16 g1 (fun q2 => ?_)
  refine J_iadd o dX11_atomsOf_16 ?_
  refine J_icmp_ge 43 o dX11_atomsOf_17 (by decide) r_x3 (R_wr _) (fun c3 => ?_) (fun c4 => ?_)
  · have hf := ite_t c3 hf
    refine J_iload_n o dX11_atomsOf_43 rfl ?_
    have hf := some_inj hf
    subst hf
    exact hc _ _ r_x2 dX11_atomsOf_44
  · have hf := ite_f c4 hf
    refine J_iload_n o dX11_atomsOf_20 rfl ?_
    refine J_aload_n o dX11_atomsOf_21 rfl ?_
    refine J_getF (true, 17) o g dX11_atomsOf_22 flX11_56 kB_1 rfl rfl rfl ?_
    refine J_iload_n o dX11_atomsOf_25 rfl ?_
    obtain ⟨g5, hf⟩ := gd_some hf
    refine J_iald o g dX11_atomsOf_26 kB_17 r_x3 zB_17 g5 (fun q6 => ?_)
    refine J_if_ne 34 o dX11_atomsOf_27 (by decide) q6 (fun c7 => ?_) (fun c8 => ?_)
    · have hf := ite_f c7 hf
      refine J_iconst o dX11_atomsOf_34 ?_
      exact t_Re_atomsOf_35 k r_x1 r_x3 r_x2 rl0 hf hc
    · have hf := ite_t c8 hf
      refine J_iconst o dX11_atomsOf_30 ?_
      refine J_goto 35 o dX11_atomsOf_31 (by decide) ?_
      exact t_Re_atomsOf_35 k r_x1 r_x3 r_x2 rl1 hf hc
noncomputable def f_Re_atomsOf_6 (w : World) (x1 : Int) (x2 : Int) (x3 : Int) : Option Int :=
  lp (fun z : (Int × Int) => f_Re_atomsOf_6B w x1 z.1 z.2) (x2, x3)
theorem t_Re_atomsOf_6 {E : EE} {K : KT} {l : Launch} {H0 : Heap} (k : Kof TB E K l cX11_atomsOf RX11 rm_Re_atomsOf) {w : World} {x1 : Int} {x2 : Int} {x3 : Int} (r_x1 : R32 x1) {out : Int} (hf : f_Re_atomsOf_6 w x1 x2 x3 = some out) (hc : (fun out : Int => RetI TB E K H0 cX11_atomsOf w out) out) : HW_Re_atomsOf_6 E K H0 w x1 (x2, x3) := by
  unfold f_Re_atomsOf_6 at hf
  refine lp_ind (P := HW_Re_atomsOf_6 E K H0 w x1) hf ?_
  intro z o hs h1 h2
  intro r_x2 r_x3
  refine t_Re_atomsOf_6B k r_x1 r_x2 r_x3 hs ?_
  cases o with
  | inl z' => exact h1 z' rfl
  | inr r' => rw [h2 r' rfl]; exact hc
noncomputable def f_Re_atomsOf (w : World) (x1 : Int) : Option Int :=
  bl (wr (5 * x1)) fun n1 => f_Re_atomsOf_6 w x1 0 n1
theorem t_Re_atomsOf_0 {E : EE} {K : KT} {l : Launch} {H0 : Heap} (k : Kof TB E K l cX11_atomsOf RX11 rm_Re_atomsOf) {w : World} {x1 : Int} {o2 o3 : Option Value} (r_x1 : R32 x1) {out : Int} (hf : f_Re_atomsOf w x1 = some out) (hc : (fun out : Int => RetI TB E K H0 cX11_atomsOf w out) out) : Jj K (WdT TB E H0) w 0 [some (rf E.ad 1), some (.int (ii x1)), o2, o3] [] := by
  unfold f_Re_atomsOf at hf
  have o := k.1
  have g := k.2.1
  have kr := k.2.2.1
  refine J_iconst o dX11_atomsOf_0 ?_
  refine J_istore_n o dX11_atomsOf_1 (Nat.le_of_ble_eq_true rfl) ?_
  refine J_iconst o dX11_atomsOf_2 ?_
  refine J_iload_n o dX11_atomsOf_3 rfl ?_
  refine J_imul o dX11_atomsOf_4 ?_
  refine J_istore_n o dX11_atomsOf_5 (Nat.le_of_ble_eq_true rfl) ?_
  have hf := bl_out hf
  exact (t_Re_atomsOf_6 k r_x1 hf hc) rl0 (R_wr _) 
theorem c_Re_atomsOf {E : EE} {l : Launch} (hI : Inj TB E) {w : World} {x1 : Int} (r_x1 : R32 x1) {out : Int} (hf : f_Re_atomsOf w x1 = some out) : ConI TB E l yX11_atomsOf (WS yX11_atomsOf cX11_atomsOf 4 (some .int)) rm_Re_atomsOf [rf E.ad 1, .int (ii x1)] w w out :=
  con_I (by decide +kernel) rfl (Nat.le_of_ble_eq_true rfl) (c1s_r (c1s_i c1s_0 (Nat.le_of_ble_eq_true rfl)) (Nat.le_of_ble_eq_true rfl)).1 ⟨rfl, rfl⟩ hI TnB (fun K H0 k hret => t_Re_atomsOf_0 k r_x1 hf hret)
abbrev rm_Re_atom : Room := { frames := 4, cells := 0, slots := 0, locals := 93 }
noncomputable def f_Re_atom_110 (w : World) (x1 : Int) (x3 : Int) (x4 : Int) (x5 : Int) (s1 : Int) : Option (World × Int) :=
  bnd (f_Re_put w s1 x1 x3 x4 x5) fun v2 => some (v2.1, v2.2)
theorem t_Re_atom_110 {E : EE} {K : KT} {l : Launch} {H0 : Heap} (k : Kof TB E K l cX11_atom RX11 rm_Re_atom) {w : World} {x1 : Int} {x3 : Int} {x4 : Int} {x5 : Int} {s1 : Int} {o0 o2 o6 o7 : Option Value} (r_x1 : R32 x1) (r_x3 : R32 x3) (r_x4 : R32 x4) (r_x5 : R32 x5) (r_s1 : R32 s1) {out : (World × Int)} (hf : f_Re_atom_110 w x1 x3 x4 x5 s1 = some out) (hc : (fun out : (World × Int) => RetI TB E K H0 cX11_atom out.1 out.2) out) : Jj K (WdT TB E H0) w 110 [o0, some (.int (ii x1)), o2, some (.int (ii x3)), some (.int (ii x4)), some (.int (ii x5)), o6, o7] [.int (ii s1), rf E.ad 1] := by
  unfold f_Re_atom_110 at hf
  have o := k.1
  have g := k.2.1
  have kr := k.2.2.1
  refine J_iload_n o dX11_atom_110 rfl ?_
  refine J_iload_n o dX11_atom_111 rfl ?_
  refine J_iload o dX11_atom_112 rfl ?_
  refine J_iload o dX11_atom_114 rfl ?_
  obtain ⟨v2, e1, hf⟩ := bnd_some hf
  refine J_vI o g kr dX11_atom_116 lkX11_142 ml_Re_put vl_Re_put ⟨rfl, rfl, Nat.le_of_ble_eq_true rfl, Nat.le_of_ble_eq_true rfl⟩ (c_Re_put g.2.1 r_s1 r_x1 r_x3 r_x4 r_x5 e1) kB_1 rfl ⟨by decide, by decide⟩ rfl rfl c1s_0 (fun q3 => ?_)
  have hf := some_inj hf
  subst hf
  exact hc _ _ q3 dX11_atom_119
noncomputable def f_Re_atom_92 (w : World) (x1 : Int) (x2 : Int) (x3 : Int) (x4 : Int) (x5 : Int) (s1 : Int) : Option (World × Int) :=
  bnd (f_Re_refused w s1) fun v2 => if v2.2 = 0 then (if x2 = 0 then (f_Re_atom_110 v2.1 x1 x3 x4 x5 1) else (f_Re_atom_110 v2.1 x1 x3 x4 x5 0)) else (some (v2.1, 0))
theorem t_Re_atom_92 {E : EE} {K : KT} {l : Launch} {H0 : Heap} (k : Kof TB E K l cX11_atom RX11 rm_Re_atom) {w : World} {x1 : Int} {x2 : Int} {x3 : Int} {x4 : Int} {x5 : Int} {s1 : Int} {o6 o7 : Option Value} (r_x1 : R32 x1) (r_x2 : R32 x2) (r_x3 : R32 x3) (r_x4 : R32 x4) (r_x5 : R32 x5) (r_s1 : R32 s1) {out : (World × Int)} (hf : f_Re_atom_92 w x1 x2 x3 x4 x5 s1 = some out) (hc : (fun out : (World × Int) => RetI TB E K H0 cX11_atom out.1 out.2) out) : Jj K (WdT TB E H0) w 92 [some (rf E.ad 1), some (.int (ii x1)), some (.int (ii x2)), some (.int (ii x3)), some (.int (ii x4)), some (.int (ii x5)), o6, o7] [.int (ii s1), rf E.ad 1] := by
  unfold f_Re_atom_92 at hf
  have o := k.1
  have g := k.2.1
  have kr := k.2.2.1
  obtain ⟨v2, e1, hf⟩ := bnd_some hf
  refine J_vI o g kr dX11_atom_92 lkX11_113 ml_Re_refused vl_Re_refused ⟨rfl, rfl, Nat.le_of_ble_eq_true rfl, Nat.le_of_ble_eq_true rfl⟩ (c_Re_refused g.2.1 r_s1 e1) kB_1 rfl ⟨by decide, by decide⟩ rfl rfl c1s_0 (fun q3 => ?_)
  refine J_if_eq 100 o dX11_atom_95 (by decide) q3 (fun c4 => ?_) (fun c5 => ?_)
  · have hf := ite_t c4 hf
    refine J_aload_n o dX11_atom_100 rfl ?_
    refine J_iload_n o dX11_atom_101 rfl ?_
    refine J_if_eq 109 o dX11_atom_102 (by decide) r_x2 (fun c6 => ?_) (fun c7 => ?_)
    · have hf := ite_t c6 hf
      refine J_iconst o dX11_atom_109 ?_
      exact t_Re_atom_110 k r_x1 r_x3 r_x4 r_x5 rl1 hf hc
    · have hf := ite_f c7 hf
      refine J_iconst o dX11_atom_105 ?_
      refine J_goto 110 o dX11_atom_106 (by decide) ?_
      exact t_Re_atom_110 k r_x1 r_x3 r_x4 r_x5 rl0 hf hc
  · have hf := ite_f c5 hf
    refine J_iconst o dX11_atom_98 ?_
    have hf := some_inj hf
    subst hf
    exact hc _ _ rl0 dX11_atom_99
noncomputable def f_Re_atom_58 (w : World) (x1 : Int) (x2 : Int) (x3 : Int) (x4 : Int) (x5 : Int) (x6 : Int) (s0 : Int) : Option (World × Int) :=
  bnd (f_Re_isRelation w x1) fun v2 => if v2 = 0 then (f_Re_atom_92 w x1 x2 x3 x4 x5 1) else (if x6 = 0 then (f_Re_atom_92 w x1 x2 x3 x4 x5 2) else (if s0 = 0 then (f_Re_atom_92 w x1 x2 x3 x4 x5 0) else (f_Re_atom_92 w x1 x2 x3 x4 x5 3)))
theorem t_Re_atom_58 {E : EE} {K : KT} {l : Launch} {H0 : Heap} (k : Kof TB E K l cX11_atom RX11 rm_Re_atom) {w : World} {x1 : Int} {x2 : Int} {x3 : Int} {x4 : Int} {x5 : Int} {x6 : Int} {s0 : Int} {o7 : Option Value} (r_x1 : R32 x1) (r_x2 : R32 x2) (r_x3 : R32 x3) (r_x4 : R32 x4) (r_x5 : R32 x5) (r_x6 : R32 x6) (r_s0 : R32 s0) {out : (World × Int)} (hf : f_Re_atom_58 w x1 x2 x3 x4 x5 x6 s0 = some out) (hc : (fun out : (World × Int) => RetI TB E K H0 cX11_atom out.1 out.2) out) : Jj K (WdT TB E H0) w 58 [some (rf E.ad 1), some (.int (ii x1)), some (.int (ii x2)), some (.int (ii x3)), some (.int (ii x4)), some (.int (ii x5)), some (.int (ii x6)), o7] [.int (ii s0)] := by
  unfold f_Re_atom_58 at hf
  have o := k.1
  have g := k.2.1
  have kr := k.2.2.1
  refine J_istore o dX11_atom_58 (Nat.le_of_ble_eq_true rfl) ?_
  refine J_aload_n o dX11_atom_60 rfl ?_
  refine J_aload_n o dX11_atom_61 rfl ?_
  refine J_iload_n o dX11_atom_62 rfl ?_
  obtain ⟨v2, e1, hf⟩ := bnd_some hf
  refine J_vI o g kr dX11_atom_63 lkX11_117 ml_Re_isRelation vl_Re_isRelation ⟨rfl, rfl, Nat.le_of_ble_eq_true rfl, Nat.le_of_ble_eq_true rfl⟩ (c_Re_isRelation g.2.1 r_x1 e1) kB_1 rfl ⟨by decide, by decide⟩ rfl rfl (c1s_r c1s_0 (Nat.le_of_ble_eq_true rfl)) (fun q3 => ?_)
  refine J_if_ne 73 o dX11_atom_66 (by decide) q3 (fun c4 => ?_) (fun c5 => ?_)
  · have hf := ite_f c4 hf
    refine J_iload o dX11_atom_73 rfl ?_
    refine J_if_ne 82 o dX11_atom_75 (by decide) r_x6 (fun c6 => ?_) (fun c7 => ?_)
    · have hf := ite_f c6 hf
      refine J_iload o dX11_atom_82 rfl ?_
      refine J_if_eq 91 o dX11_atom_84 (by decide) r_s0 (fun c8 => ?_) (fun c9 => ?_)
      · have hf := ite_t c8 hf
        refine J_iconst o dX11_atom_91 ?_
        exact t_Re_atom_92 k r_x1 r_x2 r_x3 r_x4 r_x5 rl0 hf hc
      · have hf := ite_f c9 hf
        refine J_iconst o dX11_atom_87 ?_
        refine J_goto 92 o dX11_atom_88 (by decide) ?_
        exact t_Re_atom_92 k r_x1 r_x2 r_x3 r_x4 r_x5 rl3 hf hc
    · have hf := ite_t c7 hf
      refine J_iconst o dX11_atom_78 ?_
      refine J_goto 92 o dX11_atom_79 (by decide) ?_
      exact t_Re_atom_92 k r_x1 r_x2 r_x3 r_x4 r_x5 rl2 hf hc
  · have hf := ite_t c5 hf
    refine J_iconst o dX11_atom_69 ?_
    refine J_goto 92 o dX11_atom_70 (by decide) ?_
    exact t_Re_atom_92 k r_x1 r_x2 r_x3 r_x4 r_x5 rl1 hf hc
noncomputable def f_Re_atom_53 (w : World) (x1 : Int) (x2 : Int) (x3 : Int) (x4 : Int) (x5 : Int) (x6 : Int) : Option (World × Int) :=
  f_Re_atom_58 w x1 x2 x3 x4 x5 x6 1
theorem t_Re_atom_53 {E : EE} {K : KT} {l : Launch} {H0 : Heap} (k : Kof TB E K l cX11_atom RX11 rm_Re_atom) {w : World} {x1 : Int} {x2 : Int} {x3 : Int} {x4 : Int} {x5 : Int} {x6 : Int} {o7 : Option Value} (r_x1 : R32 x1) (r_x2 : R32 x2) (r_x3 : R32 x3) (r_x4 : R32 x4) (r_x5 : R32 x5) (r_x6 : R32 x6) {out : (World × Int)} (hf : f_Re_atom_53 w x1 x2 x3 x4 x5 x6 = some out) (hc : (fun out : (World × Int) => RetI TB E K H0 cX11_atom out.1 out.2) out) : Jj K (WdT TB E H0) w 53 [some (rf E.ad 1), some (.int (ii x1)), some (.int (ii x2)), some (.int (ii x3)), some (.int (ii x4)), some (.int (ii x5)), some (.int (ii x6)), o7] [] := by
  unfold f_Re_atom_53 at hf
  have o := k.1
  have g := k.2.1
  have kr := k.2.2.1
  refine J_iconst o dX11_atom_53 ?_
  refine J_goto 58 o dX11_atom_54 (by decide) ?_
  exact t_Re_atom_58 k r_x1 r_x2 r_x3 r_x4 r_x5 r_x6 rl1 hf hc
noncomputable def f_Re_atom_57 (w : World) (x1 : Int) (x2 : Int) (x3 : Int) (x4 : Int) (x5 : Int) (x6 : Int) : Option (World × Int) :=
  f_Re_atom_58 w x1 x2 x3 x4 x5 x6 0
theorem t_Re_atom_57 {E : EE} {K : KT} {l : Launch} {H0 : Heap} (k : Kof TB E K l cX11_atom RX11 rm_Re_atom) {w : World} {x1 : Int} {x2 : Int} {x3 : Int} {x4 : Int} {x5 : Int} {x6 : Int} {o7 : Option Value} (r_x1 : R32 x1) (r_x2 : R32 x2) (r_x3 : R32 x3) (r_x4 : R32 x4) (r_x5 : R32 x5) (r_x6 : R32 x6) {out : (World × Int)} (hf : f_Re_atom_57 w x1 x2 x3 x4 x5 x6 = some out) (hc : (fun out : (World × Int) => RetI TB E K H0 cX11_atom out.1 out.2) out) : Jj K (WdT TB E H0) w 57 [some (rf E.ad 1), some (.int (ii x1)), some (.int (ii x2)), some (.int (ii x3)), some (.int (ii x4)), some (.int (ii x5)), some (.int (ii x6)), o7] [] := by
  unfold f_Re_atom_57 at hf
  have o := k.1
  have g := k.2.1
  have kr := k.2.2.1
  refine J_iconst o dX11_atom_57 ?_
  exact t_Re_atom_58 k r_x1 r_x2 r_x3 r_x4 r_x5 r_x6 rl0 hf hc
noncomputable def f_Re_atom_26 (w : World) (x1 : Int) (x2 : Int) (x3 : Int) (x4 : Int) (x5 : Int) (s0 : Int) : Option (World × Int) :=
  if (w 16 18) = 5 then (f_Re_atom_53 w x1 x2 x3 x4 x5 s0) else (if x2 = 0 then (f_Re_atom_57 w x1 x2 x3 x4 x5 s0) else (bnd (f_Re_atomsOf w 18) fun v7 => if v7 = 3 then (f_Re_atom_53 w x1 x2 x3 x4 x5 s0) else (f_Re_atom_57 w x1 x2 x3 x4 x5 s0)))
theorem t_Re_atom_26 {E : EE} {K : KT} {l : Launch} {H0 : Heap} (k : Kof TB E K l cX11_atom RX11 rm_Re_atom) {w : World} {x1 : Int} {x2 : Int} {x3 : Int} {x4 : Int} {x5 : Int} {s0 : Int} {o6 o7 : Option Value} (r_x1 : R32 x1) (r_x2 : R32 x2) (r_x3 : R32 x3) (r_x4 : R32 x4) (r_x5 : R32 x5) (r_s0 : R32 s0) {out : (World × Int)} (hf : f_Re_atom_26 w x1 x2 x3 x4 x5 s0 = some out) (hc : (fun out : (World × Int) => RetI TB E K H0 cX11_atom out.1 out.2) out) : Jj K (WdT TB E H0) w 26 [some (rf E.ad 1), some (.int (ii x1)), some (.int (ii x2)), some (.int (ii x3)), some (.int (ii x4)), some (.int (ii x5)), o6, o7] [.int (ii s0)] := by
  unfold f_Re_atom_26 at hf
  have o := k.1
  have g := k.2.1
  have kr := k.2.2.1
  refine J_istore o dX11_atom_26 (Nat.le_of_ble_eq_true rfl) ?_
  refine J_aload_n o dX11_atom_28 rfl ?_
  refine J_getF (true, 16) o g dX11_atom_29 flX11_53 kB_1 rfl rfl rfl ?_
  refine J_bipush o dX11_atom_32 (by decide) ?_
  refine J_iald o g dX11_atom_34 kB_16 rl18 zB_16 ⟨by decide, by decide⟩ (fun q1 => ?_)
  refine J_iconst o dX11_atom_35 ?_
  refine J_icmp_eq 53 o dX11_atom_36 (by decide) q1 rl5 (fun c2 => ?_) (fun c3 => ?_)
  · have hf := ite_t c2 hf
    exact t_Re_atom_53 k r_x1 r_x2 r_x3 r_x4 r_x5 r_s0 hf hc
  · have hf := ite_f c3 hf
    refine J_iload_n o dX11_atom_39 rfl ?_
    refine J_if_eq 57 o dX11_atom_40 (by decide) r_x2 (fun c4 => ?_) (fun c5 => ?_)
    · have hf := ite_t c4 hf
      exact t_Re_atom_57 k r_x1 r_x2 r_x3 r_x4 r_x5 r_s0 hf hc
    · have hf := ite_f c5 hf
      refine J_aload_n o dX11_atom_43 rfl ?_
      refine J_bipush o dX11_atom_44 (by decide) ?_
      obtain ⟨v7, e6, hf⟩ := bnd_some hf
      refine J_vI o g kr dX11_atom_46 lkX11_138 ml_Re_atomsOf vl_Re_atomsOf ⟨rfl, rfl, Nat.le_of_ble_eq_true rfl, Nat.le_of_ble_eq_true rfl⟩ (c_Re_atomsOf g.2.1 rl18 e6) kB_1 rfl ⟨by decide, by decide⟩ rfl rfl c1s_0 (fun q8 => ?_)
      refine J_iconst o dX11_atom_49 ?_
      refine J_icmp_ne 57 o dX11_atom_50 (by decide) q8 rl3 (fun c9 => ?_) (fun c10 => ?_)
      · have hf := ite_f c9 hf
        exact t_Re_atom_57 k r_x1 r_x2 r_x3 r_x4 r_x5 r_s0 hf hc
      · have hf := ite_t c10 hf
        exact t_Re_atom_53 k r_x1 r_x2 r_x3 r_x4 r_x5 r_s0 hf hc
noncomputable def f_Re_atom_25 (w : World) (x1 : Int) (x2 : Int) (x3 : Int) (x4 : Int) (x5 : Int) : Option (World × Int) :=
  f_Re_atom_26 w x1 x2 x3 x4 x5 0
theorem t_Re_atom_25 {E : EE} {K : KT} {l : Launch} {H0 : Heap} (k : Kof TB E K l cX11_atom RX11 rm_Re_atom) {w : World} {x1 : Int} {x2 : Int} {x3 : Int} {x4 : Int} {x5 : Int} {o6 o7 : Option Value} (r_x1 : R32 x1) (r_x2 : R32 x2) (r_x3 : R32 x3) (r_x4 : R32 x4) (r_x5 : R32 x5) {out : (World × Int)} (hf : f_Re_atom_25 w x1 x2 x3 x4 x5 = some out) (hc : (fun out : (World × Int) => RetI TB E K H0 cX11_atom out.1 out.2) out) : Jj K (WdT TB E H0) w 25 [some (rf E.ad 1), some (.int (ii x1)), some (.int (ii x2)), some (.int (ii x3)), some (.int (ii x4)), some (.int (ii x5)), o6, o7] [] := by
  unfold f_Re_atom_25 at hf
  have o := k.1
  have g := k.2.1
  have kr := k.2.2.1
  refine J_iconst o dX11_atom_25 ?_
  exact t_Re_atom_26 k r_x1 r_x2 r_x3 r_x4 r_x5 rl0 hf hc
noncomputable def f_Re_atom (w : World) (x1 : Int) (x2 : Int) (x3 : Int) (x4 : Int) (x5 : Int) : Option (World × Int) :=
  bnd (f_Re_isRelation w x1) fun v2 => if v2 = 0 then (f_Re_atom_25 w x1 x2 x3 x4 x5) else (bnd (f_Re_areTerms w x1 x3 x4 x5) fun v7 => if v7 = 0 then (f_Re_atom_25 w x1 x2 x3 x4 x5) else (f_Re_atom_26 w x1 x2 x3 x4 x5 1))
theorem t_Re_atom_0 {E : EE} {K : KT} {l : Launch} {H0 : Heap} (k : Kof TB E K l cX11_atom RX11 rm_Re_atom) {w : World} {x1 : Int} {x2 : Int} {x3 : Int} {x4 : Int} {x5 : Int} {o6 o7 : Option Value} (r_x1 : R32 x1) (r_x2 : R32 x2) (r_x3 : R32 x3) (r_x4 : R32 x4) (r_x5 : R32 x5) {out : (World × Int)} (hf : f_Re_atom w x1 x2 x3 x4 x5 = some out) (hc : (fun out : (World × Int) => RetI TB E K H0 cX11_atom out.1 out.2) out) : Jj K (WdT TB E H0) w 0 [some (rf E.ad 1), some (.int (ii x1)), some (.int (ii x2)), some (.int (ii x3)), some (.int (ii x4)), some (.int (ii x5)), o6, o7] [] := by
  unfold f_Re_atom at hf
  have o := k.1
  have g := k.2.1
  have kr := k.2.2.1
  refine J_aload_n o dX11_atom_0 rfl ?_
  refine J_iload_n o dX11_atom_1 rfl ?_
  obtain ⟨v2, e1, hf⟩ := bnd_some hf
  refine J_vI o g kr dX11_atom_2 lkX11_117 ml_Re_isRelation vl_Re_isRelation ⟨rfl, rfl, Nat.le_of_ble_eq_true rfl, Nat.le_of_ble_eq_true rfl⟩ (c_Re_isRelation g.2.1 r_x1 e1) kB_1 rfl ⟨by decide, by decide⟩ rfl rfl c1s_0 (fun q3 => ?_)
  refine J_if_eq 25 o dX11_atom_5 (by decide) q3 (fun c4 => ?_) (fun c5 => ?_)
  · have hf := ite_t c4 hf
    exact t_Re_atom_25 k r_x1 r_x2 r_x3 r_x4 r_x5 hf hc
  · have hf := ite_f c5 hf
    refine J_aload_n o dX11_atom_8 rfl ?_
    refine J_iload_n o dX11_atom_9 rfl ?_
    refine J_iload_n o dX11_atom_10 rfl ?_
    refine J_iload o dX11_atom_11 rfl ?_
    refine J_iload o dX11_atom_13 rfl ?_
    obtain ⟨v7, e6, hf⟩ := bnd_some hf
    refine J_vI o g kr dX11_atom_15 lkX11_134 ml_Re_areTerms vl_Re_areTerms ⟨rfl, rfl, Nat.le_of_ble_eq_true rfl, Nat.le_of_ble_eq_true rfl⟩ (c_Re_areTerms g.2.1 r_x1 r_x3 r_x4 r_x5 e6) kB_1 rfl ⟨by decide, by decide⟩ rfl rfl c1s_0 (fun q8 => ?_)
    refine J_if_eq 25 o dX11_atom_18 (by decide) q8 (fun c9 => ?_) (fun c10 => ?_)
    · have hf := ite_t c9 hf
      exact t_Re_atom_25 k r_x1 r_x2 r_x3 r_x4 r_x5 hf hc
    · have hf := ite_f c10 hf
      refine J_iconst o dX11_atom_21 ?_
      refine J_goto 26 o dX11_atom_22 (by decide) ?_
      exact t_Re_atom_26 k r_x1 r_x2 r_x3 r_x4 r_x5 rl1 hf hc
theorem c_Re_atom {E : EE} {l : Launch} (hI : Inj TB E) {w : World} {x1 : Int} {x2 : Int} {x3 : Int} {x4 : Int} {x5 : Int} (r_x1 : R32 x1) (r_x2 : R32 x2) (r_x3 : R32 x3) (r_x4 : R32 x4) (r_x5 : R32 x5) {out : (World × Int)} (hf : f_Re_atom w x1 x2 x3 x4 x5 = some out) : ConI TB E l yX11_atom (WS yX11_atom cX11_atom 8 (some .int)) rm_Re_atom [rf E.ad 1, .int (ii x1), .int (ii x2), .int (ii x3), .int (ii x4), .int (ii x5)] w out.1 out.2 :=
  con_I (by decide +kernel) rfl (Nat.le_of_ble_eq_true rfl) (c1s_r (c1s_i (c1s_i (c1s_i (c1s_i (c1s_i c1s_0 (Nat.le_of_ble_eq_true rfl)) (Nat.le_of_ble_eq_true rfl)) (Nat.le_of_ble_eq_true rfl)) (Nat.le_of_ble_eq_true rfl)) (Nat.le_of_ble_eq_true rfl)) (Nat.le_of_ble_eq_true rfl)).1 ⟨rfl, rfl⟩ hI TnB (fun K H0 k hret => t_Re_atom_0 k r_x1 r_x2 r_x3 r_x4 r_x5 hf hret)
abbrev rm_Re_isAnyTerm : Room := { frames := 2, cells := 0, slots := 0, locals := 46 }
noncomputable def f_Re_isAnyTerm (x0 : Int) : Option Int :=
  bnd (f_Re_in x0 (-8) 127) fun v2 => gd (v2 = 0 ∨ v2 = 1) (some v2)
theorem t_Re_isAnyTerm_0 {E : EE} {K : KT} {l : Launch} {H0 : Heap} (k : Kof TB E K l cX11_isAnyTerm RX11 rm_Re_isAnyTerm) {w0 : World} {x0 : Int} (r_x0 : R32 x0) {out : Int} (hf : f_Re_isAnyTerm x0 = some out) (hc : (fun out : Int => RetZ TB E K H0 cX11_isAnyTerm w0 out) out) : Jj K (WdT TB E H0) w0 0 [some (.int (ii x0))] [] := by
  unfold f_Re_isAnyTerm at hf
  have o := k.1
  have g := k.2.1
  have kr := k.2.2.1
  refine J_iload_n o dX11_isAnyTerm_0 rfl ?_
  refine J_bipush o dX11_isAnyTerm_1 (by decide) ?_
  refine J_bipush o dX11_isAnyTerm_3 (by decide) ?_
  obtain ⟨v2, e1, hf⟩ := bnd_some hf
  refine J_sI o g kr dX11_isAnyTerm_5 lkX11_102 ml_Re_in mw1488 ⟨rfl, rfl, Nat.le_of_ble_eq_true rfl, Nat.le_of_ble_eq_true rfl⟩ (c_Re_in g.2.1 r_x0 rlm8 rl127 e1) rfl rfl c1s_0 (fun q3 => ?_)
  obtain ⟨g4, hf⟩ := gd_some hf
  have hf := some_inj hf
  subst hf
  exact hc _ _ g4 dX11_isAnyTerm_8
theorem c_Re_isAnyTerm {E : EE} {l : Launch} (hI : Inj TB E) {w0 : World} {x0 : Int} (r_x0 : R32 x0) {out : Int} (hf : f_Re_isAnyTerm x0 = some out) : ConI TB E l yX11_isAnyTerm (WS yX11_isAnyTerm cX11_isAnyTerm 1 (some .boolean)) rm_Re_isAnyTerm [.int (ii x0)] w0 w0 out :=
  con_Z (by decide +kernel) rfl (Nat.le_of_ble_eq_true rfl) (c1s_i c1s_0 (Nat.le_of_ble_eq_true rfl)).1 ⟨rfl, rfl⟩ hI TnB (fun K H0 k hret => t_Re_isAnyTerm_0 k r_x0 hf hret)
abbrev rm_Re_compare : Room := { frames := 3, cells := 0, slots := 0, locals := 66 }
noncomputable def f_Re_compare_60 (w : World) (x1 : Int) (x2 : Int) (x3 : Int) (s1 : Int) : Option (World × Int) :=
  bnd (f_Re_refused w s1) fun v2 => if v2.2 = 0 then (bnd (f_Re_put v2.1 2 x1 x2 x3 0) fun v7 => some (v7.1, v7.2)) else (some (v2.1, 0))
theorem t_Re_compare_60 {E : EE} {K : KT} {l : Launch} {H0 : Heap} (k : Kof TB E K l cX11_compare RX11 rm_Re_compare) {w : World} {x1 : Int} {x2 : Int} {x3 : Int} {s1 : Int} {o4 : Option Value} (r_x1 : R32 x1) (r_x2 : R32 x2) (r_x3 : R32 x3) (r_s1 : R32 s1) {out : (World × Int)} (hf : f_Re_compare_60 w x1 x2 x3 s1 = some out) (hc : (fun out : (World × Int) => RetI TB E K H0 cX11_compare out.1 out.2) out) : Jj K (WdT TB E H0) w 60 [some (rf E.ad 1), some (.int (ii x1)), some (.int (ii x2)), some (.int (ii x3)), o4] [.int (ii s1), rf E.ad 1] := by
  unfold f_Re_compare_60 at hf
  have o := k.1
  have g := k.2.1
  have kr := k.2.2.1
  obtain ⟨v2, e1, hf⟩ := bnd_some hf
  refine J_vI o g kr dX11_compare_60 lkX11_113 ml_Re_refused vl_Re_refused ⟨rfl, rfl, Nat.le_of_ble_eq_true rfl, Nat.le_of_ble_eq_true rfl⟩ (c_Re_refused g.2.1 r_s1 e1) kB_1 rfl ⟨by decide, by decide⟩ rfl rfl c1s_0 (fun q3 => ?_)
  refine J_if_eq 68 o dX11_compare_63 (by decide) q3 (fun c4 => ?_) (fun c5 => ?_)
  · have hf := ite_t c4 hf
    refine J_aload_n o dX11_compare_68 rfl ?_
    refine J_iconst o dX11_compare_69 ?_
    refine J_iload_n o dX11_compare_70 rfl ?_
    refine J_iload_n o dX11_compare_71 rfl ?_
    refine J_iload_n o dX11_compare_72 rfl ?_
    refine J_iconst o dX11_compare_73 ?_
    obtain ⟨v7, e6, hf⟩ := bnd_some hf
    refine J_vI o g kr dX11_compare_74 lkX11_142 ml_Re_put vl_Re_put ⟨rfl, rfl, Nat.le_of_ble_eq_true rfl, Nat.le_of_ble_eq_true rfl⟩ (c_Re_put g.2.1 rl2 r_x1 r_x2 r_x3 rl0 e6) kB_1 rfl ⟨by decide, by decide⟩ rfl rfl c1s_0 (fun q8 => ?_)
    have hf := some_inj hf
    subst hf
    exact hc _ _ q8 dX11_compare_77
  · have hf := ite_f c5 hf
    refine J_iconst o dX11_compare_66 ?_
    have hf := some_inj hf
    subst hf
    exact hc _ _ rl0 dX11_compare_67
noncomputable def f_Re_compare_19 (w : World) (x1 : Int) (x2 : Int) (x3 : Int) (s0 : Int) : Option (World × Int) :=
  bnd (f_Re_in x1 0 3) fun v2 => if v2 = 0 then (f_Re_compare_60 w x1 x2 x3 1) else (if s0 = 0 then (f_Re_compare_60 w x1 x2 x3 2) else (if (w 16 18) = 5 then (f_Re_compare_60 w x1 x2 x3 3) else (f_Re_compare_60 w x1 x2 x3 0)))
theorem t_Re_compare_19 {E : EE} {K : KT} {l : Launch} {H0 : Heap} (k : Kof TB E K l cX11_compare RX11 rm_Re_compare) {w : World} {x1 : Int} {x2 : Int} {x3 : Int} {s0 : Int} {o4 : Option Value} (r_x1 : R32 x1) (r_x2 : R32 x2) (r_x3 : R32 x3) (r_s0 : R32 s0) {out : (World × Int)} (hf : f_Re_compare_19 w x1 x2 x3 s0 = some out) (hc : (fun out : (World × Int) => RetI TB E K H0 cX11_compare out.1 out.2) out) : Jj K (WdT TB E H0) w 19 [some (rf E.ad 1), some (.int (ii x1)), some (.int (ii x2)), some (.int (ii x3)), o4] [.int (ii s0)] := by
  unfold f_Re_compare_19 at hf
  have o := k.1
  have g := k.2.1
  have kr := k.2.2.1
  refine J_istore o dX11_compare_19 (Nat.le_of_ble_eq_true rfl) ?_
  refine J_aload_n o dX11_compare_21 rfl ?_
  refine J_iload_n o dX11_compare_22 rfl ?_
  refine J_iconst o dX11_compare_23 ?_
  refine J_iconst o dX11_compare_24 ?_
  obtain ⟨v2, e1, hf⟩ := bnd_some hf
  refine J_sI o g kr dX11_compare_25 lkX11_102 ml_Re_in mw1488 ⟨rfl, rfl, Nat.le_of_ble_eq_true rfl, Nat.le_of_ble_eq_true rfl⟩ (c_Re_in g.2.1 r_x1 rl0 rl3 e1) rfl rfl (c1s_r c1s_0 (Nat.le_of_ble_eq_true rfl)) (fun q3 => ?_)
  refine J_if_ne 35 o dX11_compare_28 (by decide) q3 (fun c4 => ?_) (fun c5 => ?_)
  · have hf := ite_f c4 hf
    refine J_iload o dX11_compare_35 rfl ?_
    refine J_if_ne 44 o dX11_compare_37 (by decide) r_s0 (fun c6 => ?_) (fun c7 => ?_)
    · have hf := ite_f c6 hf
      refine J_aload_n o dX11_compare_44 rfl ?_
      refine J_getF (true, 16) o g dX11_compare_45 flX11_53 kB_1 rfl rfl rfl ?_
      refine J_bipush o dX11_compare_48 (by decide) ?_
      refine J_iald o g dX11_compare_50 kB_16 rl18 zB_16 ⟨by decide, by decide⟩ (fun q8 => ?_)
      refine J_iconst o dX11_compare_51 ?_
      refine J_icmp_ne 59 o dX11_compare_52 (by decide) q8 rl5 (fun c9 => ?_) (fun c10 => ?_)
      · have hf := ite_f c9 hf
        refine J_iconst o dX11_compare_59 ?_
        exact t_Re_compare_60 k r_x1 r_x2 r_x3 rl0 hf hc
      · have hf := ite_t c10 hf
        refine J_iconst o dX11_compare_55 ?_
        refine J_goto 60 o dX11_compare_56 (by decide) ?_
        exact t_Re_compare_60 k r_x1 r_x2 r_x3 rl3 hf hc
    · have hf := ite_t c7 hf
      refine J_iconst o dX11_compare_40 ?_
      refine J_goto 60 o dX11_compare_41 (by decide) ?_
      exact t_Re_compare_60 k r_x1 r_x2 r_x3 rl2 hf hc
  · have hf := ite_t c5 hf
    refine J_iconst o dX11_compare_31 ?_
    refine J_goto 60 o dX11_compare_32 (by decide) ?_
    exact t_Re_compare_60 k r_x1 r_x2 r_x3 rl1 hf hc
noncomputable def f_Re_compare_18 (w : World) (x1 : Int) (x2 : Int) (x3 : Int) : Option (World × Int) :=
  f_Re_compare_19 w x1 x2 x3 0
theorem t_Re_compare_18 {E : EE} {K : KT} {l : Launch} {H0 : Heap} (k : Kof TB E K l cX11_compare RX11 rm_Re_compare) {w : World} {x1 : Int} {x2 : Int} {x3 : Int} {o4 : Option Value} (r_x1 : R32 x1) (r_x2 : R32 x2) (r_x3 : R32 x3) {out : (World × Int)} (hf : f_Re_compare_18 w x1 x2 x3 = some out) (hc : (fun out : (World × Int) => RetI TB E K H0 cX11_compare out.1 out.2) out) : Jj K (WdT TB E H0) w 18 [some (rf E.ad 1), some (.int (ii x1)), some (.int (ii x2)), some (.int (ii x3)), o4] [] := by
  unfold f_Re_compare_18 at hf
  have o := k.1
  have g := k.2.1
  have kr := k.2.2.1
  refine J_iconst o dX11_compare_18 ?_
  exact t_Re_compare_19 k r_x1 r_x2 r_x3 rl0 hf hc
noncomputable def f_Re_compare (w : World) (x1 : Int) (x2 : Int) (x3 : Int) : Option (World × Int) :=
  bnd (f_Re_isAnyTerm x2) fun v2 => if v2 = 0 then (f_Re_compare_18 w x1 x2 x3) else (bnd (f_Re_isAnyTerm x3) fun v7 => if v7 = 0 then (f_Re_compare_18 w x1 x2 x3) else (f_Re_compare_19 w x1 x2 x3 1))
theorem t_Re_compare_0 {E : EE} {K : KT} {l : Launch} {H0 : Heap} (k : Kof TB E K l cX11_compare RX11 rm_Re_compare) {w : World} {x1 : Int} {x2 : Int} {x3 : Int} {o4 : Option Value} (r_x1 : R32 x1) (r_x2 : R32 x2) (r_x3 : R32 x3) {out : (World × Int)} (hf : f_Re_compare w x1 x2 x3 = some out) (hc : (fun out : (World × Int) => RetI TB E K H0 cX11_compare out.1 out.2) out) : Jj K (WdT TB E H0) w 0 [some (rf E.ad 1), some (.int (ii x1)), some (.int (ii x2)), some (.int (ii x3)), o4] [] := by
  unfold f_Re_compare at hf
  have o := k.1
  have g := k.2.1
  have kr := k.2.2.1
  refine J_iload_n o dX11_compare_0 rfl ?_
  obtain ⟨v2, e1, hf⟩ := bnd_some hf
  refine J_sI o g kr dX11_compare_1 lkX11_146 ml_Re_isAnyTerm mw1617 ⟨rfl, rfl, Nat.le_of_ble_eq_true rfl, Nat.le_of_ble_eq_true rfl⟩ (c_Re_isAnyTerm g.2.1 r_x2 e1) rfl rfl c1s_0 (fun q3 => ?_)
  refine J_if_eq 18 o dX11_compare_4 (by decide) q3 (fun c4 => ?_) (fun c5 => ?_)
  · have hf := ite_t c4 hf
    exact t_Re_compare_18 k r_x1 r_x2 r_x3 hf hc
  · have hf := ite_f c5 hf
    refine J_iload_n o dX11_compare_7 rfl ?_
    obtain ⟨v7, e6, hf⟩ := bnd_some hf
    refine J_sI o g kr dX11_compare_8 lkX11_146 ml_Re_isAnyTerm mw1617 ⟨rfl, rfl, Nat.le_of_ble_eq_true rfl, Nat.le_of_ble_eq_true rfl⟩ (c_Re_isAnyTerm g.2.1 r_x3 e6) rfl rfl c1s_0 (fun q8 => ?_)
    refine J_if_eq 18 o dX11_compare_11 (by decide) q8 (fun c9 => ?_) (fun c10 => ?_)
    · have hf := ite_t c9 hf
      exact t_Re_compare_18 k r_x1 r_x2 r_x3 hf hc
    · have hf := ite_f c10 hf
      refine J_iconst o dX11_compare_14 ?_
      refine J_goto 19 o dX11_compare_15 (by decide) ?_
      exact t_Re_compare_19 k r_x1 r_x2 r_x3 rl1 hf hc
theorem c_Re_compare {E : EE} {l : Launch} (hI : Inj TB E) {w : World} {x1 : Int} {x2 : Int} {x3 : Int} (r_x1 : R32 x1) (r_x2 : R32 x2) (r_x3 : R32 x3) {out : (World × Int)} (hf : f_Re_compare w x1 x2 x3 = some out) : ConI TB E l yX11_compare (WS yX11_compare cX11_compare 5 (some .int)) rm_Re_compare [rf E.ad 1, .int (ii x1), .int (ii x2), .int (ii x3)] w out.1 out.2 :=
  con_I (by decide +kernel) rfl (Nat.le_of_ble_eq_true rfl) (c1s_r (c1s_i (c1s_i (c1s_i c1s_0 (Nat.le_of_ble_eq_true rfl)) (Nat.le_of_ble_eq_true rfl)) (Nat.le_of_ble_eq_true rfl)) (Nat.le_of_ble_eq_true rfl)).1 ⟨rfl, rfl⟩ hI TnB (fun K H0 k hret => t_Re_compare_0 k r_x1 r_x2 r_x3 hf hret)
abbrev rm_Re_add : Room := { frames := 3, cells := 0, slots := 0, locals := 66 }
noncomputable def f_Re_add_54 (w : World) (x1 : Int) (x2 : Int) (x3 : Int) (s1 : Int) : Option (World × Int) :=
  bnd (f_Re_refused w s1) fun v2 => if v2.2 = 0 then (bnd (f_Re_put v2.1 3 0 x1 x2 x3) fun v7 => some (v7.1, v7.2)) else (some (v2.1, 0))
theorem t_Re_add_54 {E : EE} {K : KT} {l : Launch} {H0 : Heap} (k : Kof TB E K l cX11_add RX11 rm_Re_add) {w : World} {x1 : Int} {x2 : Int} {x3 : Int} {s1 : Int} {o4 : Option Value} (r_x1 : R32 x1) (r_x2 : R32 x2) (r_x3 : R32 x3) (r_s1 : R32 s1) {out : (World × Int)} (hf : f_Re_add_54 w x1 x2 x3 s1 = some out) (hc : (fun out : (World × Int) => RetI TB E K H0 cX11_add out.1 out.2) out) : Jj K (WdT TB E H0) w 54 [some (rf E.ad 1), some (.int (ii x1)), some (.int (ii x2)), some (.int (ii x3)), o4] [.int (ii s1), rf E.ad 1] := by
  unfold f_Re_add_54 at hf
  have o := k.1
  have g := k.2.1
  have kr := k.2.2.1
  obtain ⟨v2, e1, hf⟩ := bnd_some hf
  refine J_vI o g kr dX11_add_54 lkX11_113 ml_Re_refused vl_Re_refused ⟨rfl, rfl, Nat.le_of_ble_eq_true rfl, Nat.le_of_ble_eq_true rfl⟩ (c_Re_refused g.2.1 r_s1 e1) kB_1 rfl ⟨by decide, by decide⟩ rfl rfl c1s_0 (fun q3 => ?_)
  refine J_if_eq 62 o dX11_add_57 (by decide) q3 (fun c4 => ?_) (fun c5 => ?_)
  · have hf := ite_t c4 hf
    refine J_aload_n o dX11_add_62 rfl ?_
    refine J_iconst o dX11_add_63 ?_
    refine J_iconst o dX11_add_64 ?_
    refine J_iload_n o dX11_add_65 rfl ?_
    refine J_iload_n o dX11_add_66 rfl ?_
    refine J_iload_n o dX11_add_67 rfl ?_
    obtain ⟨v7, e6, hf⟩ := bnd_some hf
    refine J_vI o g kr dX11_add_68 lkX11_142 ml_Re_put vl_Re_put ⟨rfl, rfl, Nat.le_of_ble_eq_true rfl, Nat.le_of_ble_eq_true rfl⟩ (c_Re_put g.2.1 rl3 rl0 r_x1 r_x2 r_x3 e6) kB_1 rfl ⟨by decide, by decide⟩ rfl rfl c1s_0 (fun q8 => ?_)
    have hf := some_inj hf
    subst hf
    exact hc _ _ q8 dX11_add_71
  · have hf := ite_f c5 hf
    refine J_iconst o dX11_add_60 ?_
    have hf := some_inj hf
    subst hf
    exact hc _ _ rl0 dX11_add_61
noncomputable def f_Re_add_26 (w : World) (x1 : Int) (x2 : Int) (x3 : Int) (s0 : Int) : Option (World × Int) :=
  if s0 = 0 then (f_Re_add_54 w x1 x2 x3 1) else (if (w 16 18) = 5 then (f_Re_add_54 w x1 x2 x3 2) else (f_Re_add_54 w x1 x2 x3 0))
theorem t_Re_add_26 {E : EE} {K : KT} {l : Launch} {H0 : Heap} (k : Kof TB E K l cX11_add RX11 rm_Re_add) {w : World} {x1 : Int} {x2 : Int} {x3 : Int} {s0 : Int} {o4 : Option Value} (r_x1 : R32 x1) (r_x2 : R32 x2) (r_x3 : R32 x3) (r_s0 : R32 s0) {out : (World × Int)} (hf : f_Re_add_26 w x1 x2 x3 s0 = some out) (hc : (fun out : (World × Int) => RetI TB E K H0 cX11_add out.1 out.2) out) : Jj K (WdT TB E H0) w 26 [some (rf E.ad 1), some (.int (ii x1)), some (.int (ii x2)), some (.int (ii x3)), o4] [.int (ii s0)] := by
  unfold f_Re_add_26 at hf
  have o := k.1
  have g := k.2.1
  have kr := k.2.2.1
  refine J_istore o dX11_add_26 (Nat.le_of_ble_eq_true rfl) ?_
  refine J_aload_n o dX11_add_28 rfl ?_
  refine J_iload o dX11_add_29 rfl ?_
  refine J_if_ne 38 o dX11_add_31 (by decide) r_s0 (fun c1 => ?_) (fun c2 => ?_)
  · have hf := ite_f c1 hf
    refine J_aload_n o dX11_add_38 rfl ?_
    refine J_getF (true, 16) o g dX11_add_39 flX11_53 kB_1 rfl rfl rfl ?_
    refine J_bipush o dX11_add_42 (by decide) ?_
    refine J_iald o g dX11_add_44 kB_16 rl18 zB_16 ⟨by decide, by decide⟩ (fun q3 => ?_)
    refine J_iconst o dX11_add_45 ?_
    refine J_icmp_ne 53 o dX11_add_46 (by decide) q3 rl5 (fun c4 => ?_) (fun c5 => ?_)
    · have hf := ite_f c4 hf
      refine J_iconst o dX11_add_53 ?_
      exact t_Re_add_54 k r_x1 r_x2 r_x3 rl0 hf hc
    · have hf := ite_t c5 hf
      refine J_iconst o dX11_add_49 ?_
      refine J_goto 54 o dX11_add_50 (by decide) ?_
      exact t_Re_add_54 k r_x1 r_x2 r_x3 rl2 hf hc
  · have hf := ite_t c2 hf
    refine J_iconst o dX11_add_34 ?_
    refine J_goto 54 o dX11_add_35 (by decide) ?_
    exact t_Re_add_54 k r_x1 r_x2 r_x3 rl1 hf hc
noncomputable def f_Re_add_25 (w : World) (x1 : Int) (x2 : Int) (x3 : Int) : Option (World × Int) :=
  f_Re_add_26 w x1 x2 x3 0
theorem t_Re_add_25 {E : EE} {K : KT} {l : Launch} {H0 : Heap} (k : Kof TB E K l cX11_add RX11 rm_Re_add) {w : World} {x1 : Int} {x2 : Int} {x3 : Int} {o4 : Option Value} (r_x1 : R32 x1) (r_x2 : R32 x2) (r_x3 : R32 x3) {out : (World × Int)} (hf : f_Re_add_25 w x1 x2 x3 = some out) (hc : (fun out : (World × Int) => RetI TB E K H0 cX11_add out.1 out.2) out) : Jj K (WdT TB E H0) w 25 [some (rf E.ad 1), some (.int (ii x1)), some (.int (ii x2)), some (.int (ii x3)), o4] [] := by
  unfold f_Re_add_25 at hf
  have o := k.1
  have g := k.2.1
  have kr := k.2.2.1
  refine J_iconst o dX11_add_25 ?_
  exact t_Re_add_26 k r_x1 r_x2 r_x3 rl0 hf hc
noncomputable def f_Re_add (w : World) (x1 : Int) (x2 : Int) (x3 : Int) : Option (World × Int) :=
  bnd (f_Re_isAnyTerm x1) fun v2 => if v2 = 0 then (f_Re_add_25 w x1 x2 x3) else (bnd (f_Re_isAnyTerm x2) fun v7 => if v7 = 0 then (f_Re_add_25 w x1 x2 x3) else (bnd (f_Re_isAnyTerm x3) fun v12 => if v12 = 0 then (f_Re_add_25 w x1 x2 x3) else (f_Re_add_26 w x1 x2 x3 1)))
theorem t_Re_add_0 {E : EE} {K : KT} {l : Launch} {H0 : Heap} (k : Kof TB E K l cX11_add RX11 rm_Re_add) {w : World} {x1 : Int} {x2 : Int} {x3 : Int} {o4 : Option Value} (r_x1 : R32 x1) (r_x2 : R32 x2) (r_x3 : R32 x3) {out : (World × Int)} (hf : f_Re_add w x1 x2 x3 = some out) (hc : (fun out : (World × Int) => RetI TB E K H0 cX11_add out.1 out.2) out) : Jj K (WdT TB E H0) w 0 [some (rf E.ad 1), some (.int (ii x1)), some (.int (ii x2)), some (.int (ii x3)), o4] [] := by
  unfold f_Re_add at hf
  have o := k.1
  have g := k.2.1
  have kr := k.2.2.1
  refine J_iload_n o dX11_add_0 rfl ?_
  obtain ⟨v2, e1, hf⟩ := bnd_some hf
  refine J_sI o g kr dX11_add_1 lkX11_146 ml_Re_isAnyTerm mw1617 ⟨rfl, rfl, Nat.le_of_ble_eq_true rfl, Nat.le_of_ble_eq_true rfl⟩ (c_Re_isAnyTerm g.2.1 r_x1 e1) rfl rfl c1s_0 (fun q3 => ?_)
  refine J_if_eq 25 o dX11_add_4 (by decide) q3 (fun c4 => ?_) (fun c5 => ?_)
  · have hf := ite_t c4 hf
    exact t_Re_add_25 k r_x1 r_x2 r_x3 hf hc
  · have hf := ite_f c5 hf
    refine J_iload_n o dX11_add_7 rfl ?_
    obtain ⟨v7, e6, hf⟩ := bnd_some hf
    refine J_sI o g kr dX11_add_8 lkX11_146 ml_Re_isAnyTerm mw1617 ⟨rfl, rfl, Nat.le_of_ble_eq_true rfl, Nat.le_of_ble_eq_true rfl⟩ (c_Re_isAnyTerm g.2.1 r_x2 e6) rfl rfl c1s_0 (fun q8 => ?_)
    refine J_if_eq 25 o dX11_add_11 (by decide) q8 (fun c9 => ?_) (fun c10 => ?_)
    · have hf := ite_t c9 hf
      exact t_Re_add_25 k r_x1 r_x2 r_x3 hf hc
    · have hf := ite_f c10 hf
      refine J_iload_n o dX11_add_14 rfl ?_
      obtain ⟨v12, e11, hf⟩ := bnd_some hf
      refine J_sI o g kr dX11_add_15 lkX11_146 ml_Re_isAnyTerm mw1617 ⟨rfl, rfl, Nat.le_of_ble_eq_true rfl, Nat.le_of_ble_eq_true rfl⟩ (c_Re_isAnyTerm g.2.1 r_x3 e11) rfl rfl c1s_0 (fun q13 => ?_)
      refine J_if_eq 25 o dX11_add_18 (by decide) q13 (fun c14 => ?_) (fun c15 => ?_)
      · have hf := ite_t c14 hf
        exact t_Re_add_25 k r_x1 r_x2 r_x3 hf hc
      · have hf := ite_f c15 hf
        refine J_iconst o dX11_add_21 ?_
        refine J_goto 26 o dX11_add_22 (by decide) ?_
        exact t_Re_add_26 k r_x1 r_x2 r_x3 rl1 hf hc
theorem c_Re_add {E : EE} {l : Launch} (hI : Inj TB E) {w : World} {x1 : Int} {x2 : Int} {x3 : Int} (r_x1 : R32 x1) (r_x2 : R32 x2) (r_x3 : R32 x3) {out : (World × Int)} (hf : f_Re_add w x1 x2 x3 = some out) : ConI TB E l yX11_add (WS yX11_add cX11_add 5 (some .int)) rm_Re_add [rf E.ad 1, .int (ii x1), .int (ii x2), .int (ii x3)] w out.1 out.2 :=
  con_I (by decide +kernel) rfl (Nat.le_of_ble_eq_true rfl) (c1s_r (c1s_i (c1s_i (c1s_i c1s_0 (Nat.le_of_ble_eq_true rfl)) (Nat.le_of_ble_eq_true rfl)) (Nat.le_of_ble_eq_true rfl)) (Nat.le_of_ble_eq_true rfl)).1 ⟨rfl, rfl⟩ hI TnB (fun K H0 k hret => t_Re_add_0 k r_x1 r_x2 r_x3 hf hret)
abbrev rm_Re_clear : Room := { frames := 2, cells := 0, slots := 0, locals := 45 }
noncomputable def f_Re_clear (w : World) : Option (World × Int) :=
  bl (w 16 18) fun n2 => bl (up w 16 18 0) fun w3 => bl (up w3 14 18 (-1)) fun w4 => bnd (f_Re_fine w4 n2) fun v6 => some (v6.1, v6.2)
theorem t_Re_clear_0 {E : EE} {K : KT} {l : Launch} {H0 : Heap} (k : Kof TB E K l cX11_clear RX11 rm_Re_clear) {w : World} {o1 : Option Value}  {out : (World × Int)} (hf : f_Re_clear w = some out) (hc : (fun out : (World × Int) => RetI TB E K H0 cX11_clear out.1 out.2) out) : Jj K (WdT TB E H0) w 0 [some (rf E.ad 1), o1] [] := by
  unfold f_Re_clear at hf
  have o := k.1
  have g := k.2.1
  have kr := k.2.2.1
  refine J_aload_n o dX11_clear_0 rfl ?_
  refine J_getF (true, 16) o g dX11_clear_1 flX11_53 kB_1 rfl rfl rfl ?_
  refine J_bipush o dX11_clear_4 (by decide) ?_
  refine J_iald o g dX11_clear_6 kB_16 rl18 zB_16 ⟨by decide, by decide⟩ (fun q1 => ?_)
  refine J_istore_n o dX11_clear_7 (Nat.le_of_ble_eq_true rfl) ?_
  have hf := bl_out hf
  refine J_aload_n o dX11_clear_8 rfl ?_
  refine J_getF (true, 16) o g dX11_clear_9 flX11_53 kB_1 rfl rfl rfl ?_
  refine J_bipush o dX11_clear_12 (by decide) ?_
  refine J_iconst o dX11_clear_14 ?_
  refine J_iast o g dX11_clear_15 kB_16 (fxB_40 _) rl18 zB_16 ⟨by decide, by decide⟩ rl0 ?_
  have hf := bl_out hf
  refine J_aload_n o dX11_clear_16 rfl ?_
  refine J_getF (true, 14) o g dX11_clear_17 flX11_47 kB_1 rfl rfl rfl ?_
  refine J_bipush o dX11_clear_20 (by decide) ?_
  refine J_iconst o dX11_clear_22 ?_
  refine J_iast o g dX11_clear_23 kB_14 (fxB_40 _) rl18 zB_14 ⟨by decide, by decide⟩ rlm1 ?_
  have hf := bl_out hf
  refine J_aload_n o dX11_clear_24 rfl ?_
  refine J_iload_n o dX11_clear_25 rfl ?_
  obtain ⟨v6, e5, hf⟩ := bnd_some hf
  refine J_vI o g kr dX11_clear_26 lkX11_149 ml_Re_fine vl_Re_fine ⟨rfl, rfl, Nat.le_of_ble_eq_true rfl, Nat.le_of_ble_eq_true rfl⟩ (c_Re_fine g.2.1 q1 e5) kB_1 rfl ⟨by decide, by decide⟩ rfl rfl c1s_0 (fun q7 => ?_)
  have hf := some_inj hf
  subst hf
  exact hc _ _ q7 dX11_clear_29
theorem c_Re_clear {E : EE} {l : Launch} (hI : Inj TB E) {w : World}  {out : (World × Int)} (hf : f_Re_clear w = some out) : ConI TB E l yX11_clear (WS yX11_clear cX11_clear 2 (some .int)) rm_Re_clear [rf E.ad 1] w out.1 out.2 :=
  con_I (by decide +kernel) rfl (Nat.le_of_ble_eq_true rfl) (c1s_r c1s_0 (Nat.le_of_ble_eq_true rfl)).1 ⟨rfl, rfl⟩ hI TnB (fun K H0 k hret => t_Re_clear_0 k  hf hret)
abbrev rm_Re_width : Room := { frames := 1, cells := 0, slots := 0, locals := 24 }
noncomputable def f_Re_width (w : World) (x1 : Int) : Option Int :=
  gd (0 ≤ x1 ∧ x1 < 95) (if (w 17 x1.toNat) = 2 then (some 2) else (gd (0 ≤ x1 ∧ x1 < 95) (if (w 17 x1.toNat) = 3 then (some 3) else (gd (0 ≤ x1 ∧ x1 < 95) (gd (0 ≤ w 18 x1.toNat ∧ w 18 x1.toNat < 10) (some (w 3 (w 18 x1.toNat).toNat)))))))
theorem t_Re_width_0 {E : EE} {K : KT} {l : Launch} {H0 : Heap} (k : Kof TB E K l cX11_width RX11 rm_Re_width) {w : World} {x1 : Int} (r_x1 : R32 x1) {out : Int} (hf : f_Re_width w x1 = some out) (hc : (fun out : Int => RetI TB E K H0 cX11_width w out) out) : Jj K (WdT TB E H0) w 0 [some (rf E.ad 1), some (.int (ii x1))] [] := by
  unfold f_Re_width at hf
  have o := k.1
  have g := k.2.1
  have kr := k.2.2.1
  refine J_aload_n o dX11_width_0 rfl ?_
  refine J_getF (true, 17) o g dX11_width_1 flX11_56 kB_1 rfl rfl rfl ?_
  refine J_iload_n o dX11_width_4 rfl ?_
  obtain ⟨g1, hf⟩ := gd_some hf
  refine J_iald o g dX11_width_5 kB_17 r_x1 zB_17 g1 (fun q2 => ?_)
  refine J_iconst o dX11_width_6 ?_
  refine J_icmp_ne 14 o dX11_width_7 (by decide) q2 rl2 (fun c3 => ?_) (fun c4 => ?_)
  · have hf := ite_f c3 hf
    refine J_aload_n o dX11_width_14 rfl ?_
    refine J_getF (true, 17) o g dX11_width_15 flX11_56 kB_1 rfl rfl rfl ?_
    refine J_iload_n o dX11_width_18 rfl ?_
    obtain ⟨g5, hf⟩ := gd_some hf
    refine J_iald o g dX11_width_19 kB_17 r_x1 zB_17 g5 (fun q6 => ?_)
    refine J_iconst o dX11_width_20 ?_
    refine J_icmp_ne 28 o dX11_width_21 (by decide) q6 rl3 (fun c7 => ?_) (fun c8 => ?_)
    · have hf := ite_f c7 hf
      refine J_aload_n o dX11_width_28 rfl ?_
      refine J_getF (true, 3) o g dX11_width_29 flX11_13 kB_1 rfl rfl rfl ?_
      refine J_aload_n o dX11_width_32 rfl ?_
      refine J_getF (true, 18) o g dX11_width_33 flX11_59 kB_1 rfl rfl rfl ?_
      refine J_iload_n o dX11_width_36 rfl ?_
      obtain ⟨g9, hf⟩ := gd_some hf
      refine J_iald o g dX11_width_37 kB_18 r_x1 zB_18 g9 (fun q10 => ?_)
      obtain ⟨g11, hf⟩ := gd_some hf
      refine J_iald o g dX11_width_38 kB_3 q10 zB_3 g11 (fun q12 => ?_)
      have hf := some_inj hf
      subst hf
      exact hc _ _ q12 dX11_width_39
    · have hf := ite_t c8 hf
      refine J_iconst o dX11_width_24 ?_
      refine J_goto 39 o dX11_width_25 (by decide) ?_
      have hf := some_inj hf
      subst hf
      exact hc _ _ rl3 dX11_width_39
  · have hf := ite_t c4 hf
    refine J_iconst o dX11_width_10 ?_
    refine J_goto 39 o dX11_width_11 (by decide) ?_
    have hf := some_inj hf
    subst hf
    exact hc _ _ rl2 dX11_width_39
theorem c_Re_width {E : EE} {l : Launch} (hI : Inj TB E) {w : World} {x1 : Int} (r_x1 : R32 x1) {out : Int} (hf : f_Re_width w x1 = some out) : ConI TB E l yX11_width (WS yX11_width cX11_width 2 (some .int)) rm_Re_width [rf E.ad 1, .int (ii x1)] w w out :=
  con_I (by decide +kernel) rfl (Nat.le_of_ble_eq_true rfl) (c1s_r (c1s_i c1s_0 (Nat.le_of_ble_eq_true rfl)) (Nat.le_of_ble_eq_true rfl)).1 ⟨rfl, rfl⟩ hI TnB (fun K H0 k hret => t_Re_width_0 k r_x1 hf hret)
abbrev rm_Re_isSafe : Room := { frames := 2, cells := 0, slots := 0, locals := 45 }
def HW_Re_isSafe_10 (E : EE) (K : KT) (H0 : Heap) (w : World) (x1 : Int) (x2 : Int) : (Int × Int × Int) → Prop := fun z => R32 z.1 → R32 z.2.1 → R32 z.2.2 → ∀ o6 o7 o8 o9 : Option Value, Jj K (WdT TB E H0) w 10 [some (rf E.ad 1), some (.int (ii x1)), some (.int (ii x2)), some (.int (ii z.1)), some (.int (ii z.2.1)), some (.int (ii z.2.2)), o6, o7, o8, o9] []
def HW_Re_isSafe_31 (E : EE) (K : KT) (H0 : Heap) (w : World) (x1 : Int) (x2 : Int) (x3 : Int) (x5 : Int) : (Int × Int × Int) → Prop := fun z => R32 z.1 → R32 z.2.1 → R32 z.2.2 → ∀ o8 o9 : Option Value, Jj K (WdT TB E H0) w 31 [some (rf E.ad 1), some (.int (ii x1)), some (.int (ii x2)), some (.int (ii x3)), some (.int (ii z.1)), some (.int (ii x5)), some (.int (ii z.2.1)), some (.int (ii z.2.2)), o8, o9] []
def HW_Re_isSafe_168 (E : EE) (K : KT) (H0 : Heap) (w : World) (x1 : Int) (x2 : Int) (x3 : Int) : (Int × Int) → Prop := fun z => R32 z.1 → R32 z.2 → ∀ o6 o7 o8 o9 : Option Value, Jj K (WdT TB E H0) w 168 [some (rf E.ad 1), some (.int (ii x1)), some (.int (ii x2)), some (.int (ii x3)), some (.int (ii z.1)), some (.int (ii z.2)), o6, o7, o8, o9] []
noncomputable def f_Re_isSafe_228 (w : World) (x1 : Int) (x2 : Int) (x3 : Int) (x5 : Int) (s0 : Int) : Option ((Int × Int) ⊕ Int) :=
  bl (wr (x5 + 1)) fun n1 => some (Sum.inl (s0, n1))
theorem t_Re_isSafe_228 {E : EE} {K : KT} {l : Launch} {H0 : Heap} (k : Kof TB E K l cX11_isSafe RX11 rm_Re_isSafe) {w : World} {x1 : Int} {x2 : Int} {x3 : Int} {x5 : Int} {s0 : Int} {o4 o6 o7 o8 o9 : Option Value} (r_x1 : R32 x1) (r_x2 : R32 x2) (r_x3 : R32 x3) (r_x5 : R32 x5) (r_s0 : R32 s0) {out : ((Int × Int) ⊕ Int)} (hf : f_Re_isSafe_228 w x1 x2 x3 x5 s0 = some out) (hc : (Sum.elim (HW_Re_isSafe_168 E K H0 w x1 x2 x3) (fun out : Int => RetZ TB E K H0 cX11_isSafe w out)) out) : Jj K (WdT TB E H0) w 228 [some (rf E.ad 1), some (.int (ii x1)), some (.int (ii x2)), some (.int (ii x3)), o4, some (.int (ii x5)), o6, o7, o8, o9] [.int (ii s0)] := by
  unfold f_Re_isSafe_228 at hf
  have o := k.1
  have g := k.2.1
  have kr := k.2.2.1
  refine J_istore o dX11_isSafe_228 (Nat.le_of_ble_eq_true rfl) ?_
  have hf := bl_out hf
  refine J_iinc o dX11_isSafe_230 rfl ?_
  refine J_goto 168 o dX11_isSafe_233 (by decide) ?_
  have hf := some_inj hf
  subst hf
  exact hc r_s0 (R_wr _) _ _ _ _
noncomputable def f_Re_isSafe_227 (w : World) (x1 : Int) (x2 : Int) (x3 : Int) (x5 : Int) : Option ((Int × Int) ⊕ Int) :=
  f_Re_isSafe_228 w x1 x2 x3 x5 0
theorem t_Re_isSafe_227 {E : EE} {K : KT} {l : Launch} {H0 : Heap} (k : Kof TB E K l cX11_isSafe RX11 rm_Re_isSafe) {w : World} {x1 : Int} {x2 : Int} {x3 : Int} {x5 : Int} {o4 o6 o7 o8 o9 : Option Value} (r_x1 : R32 x1) (r_x2 : R32 x2) (r_x3 : R32 x3) (r_x5 : R32 x5) {out : ((Int × Int) ⊕ Int)} (hf : f_Re_isSafe_227 w x1 x2 x3 x5 = some out) (hc : (Sum.elim (HW_Re_isSafe_168 E K H0 w x1 x2 x3) (fun out : Int => RetZ TB E K H0 cX11_isSafe w out)) out) : Jj K (WdT TB E H0) w 227 [some (rf E.ad 1), some (.int (ii x1)), some (.int (ii x2)), some (.int (ii x3)), o4, some (.int (ii x5)), o6, o7, o8, o9] [] := by
  unfold f_Re_isSafe_227 at hf
  have o := k.1
  have g := k.2.1
  have kr := k.2.2.1
  refine J_iconst o dX11_isSafe_227 ?_
  exact t_Re_isSafe_228 k r_x1 r_x2 r_x3 r_x5 rl0 hf hc
noncomputable def f_Re_isSafe_223 (w : World) (x1 : Int) (x2 : Int) (x3 : Int) (x5 : Int) : Option ((Int × Int) ⊕ Int) :=
  f_Re_isSafe_228 w x1 x2 x3 x5 1
theorem t_Re_isSafe_223 {E : EE} {K : KT} {l : Launch} {H0 : Heap} (k : Kof TB E K l cX11_isSafe RX11 rm_Re_isSafe) {w : World} {x1 : Int} {x2 : Int} {x3 : Int} {x5 : Int} {o4 o6 o7 o8 o9 : Option Value} (r_x1 : R32 x1) (r_x2 : R32 x2) (r_x3 : R32 x3) (r_x5 : R32 x5) {out : ((Int × Int) ⊕ Int)} (hf : f_Re_isSafe_223 w x1 x2 x3 x5 = some out) (hc : (Sum.elim (HW_Re_isSafe_168 E K H0 w x1 x2 x3) (fun out : Int => RetZ TB E K H0 cX11_isSafe w out)) out) : Jj K (WdT TB E H0) w 223 [some (rf E.ad 1), some (.int (ii x1)), some (.int (ii x2)), some (.int (ii x3)), o4, some (.int (ii x5)), o6, o7, o8, o9] [] := by
  unfold f_Re_isSafe_223 at hf
  have o := k.1
  have g := k.2.1
  have kr := k.2.2.1
  refine J_iconst o dX11_isSafe_223 ?_
  refine J_goto 228 o dX11_isSafe_224 (by decide) ?_
  exact t_Re_isSafe_228 k r_x1 r_x2 r_x3 r_x5 rl1 hf hc
noncomputable def f_Re_isSafe_168B (w : World) (x1 : Int) (x2 : Int) (x3 : Int) (x4 : Int) (x5 : Int) : Option ((Int × Int) ⊕ Int) :=
  if x2 = 0 then (gd (x4 = 0 ∨ x4 = 1) (some (Sum.inr x4))) else (gd (0 ≤ x1 ∧ x1 < 19) (gd (0 ≤ w 14 x1.toNat ∧ w 14 x1.toNat < 10) (if (w 3 (w 14 x1.toNat).toNat) ≤ x5 then (gd (x4 = 0 ∨ x4 = 1) (some (Sum.inr x4))) else (gd (0 ≤ wr ((wr (3 * x1)) + x5) ∧ wr ((wr (3 * x1)) + x5) < 57) (bl (w 15 (wr ((wr (3 * x1)) + x5)).toNat) fun n13 => if x4 = 0 then (f_Re_isSafe_227 w x1 x2 x3 x5) else (if 0 ≤ n13 then (f_Re_isSafe_223 w x1 x2 x3 x5) else (if (iand (ishr x3 (wr ((-1) - n13))) 1) = 1 then (f_Re_isSafe_223 w x1 x2 x3 x5) else (f_Re_isSafe_227 w x1 x2 x3 x5))))))))
theorem t_Re_isSafe_168B {E : EE} {K : KT} {l : Launch} {H0 : Heap} (k : Kof TB E K l cX11_isSafe RX11 rm_Re_isSafe) {w : World} {x1 : Int} {x2 : Int} {x3 : Int} {x4 : Int} {x5 : Int} {o6 o7 o8 o9 : Option Value} (r_x1 : R32 x1) (r_x2 : R32 x2) (r_x3 : R32 x3) (r_x4 : R32 x4) (r_x5 : R32 x5) {out : ((Int × Int) ⊕ Int)} (hf : f_Re_isSafe_168B w x1 x2 x3 x4 x5 = some out) (hc : (Sum.elim (HW_Re_isSafe_168 E K H0 w x1 x2 x3) (fun out : Int => RetZ TB E K H0 cX11_isSafe w out)) out) : Jj K (WdT TB E H0) w 168 [some (rf E.ad 1), some (.int (ii x1)), some (.int (ii x2)), some (.int (ii x3)), some (.int (ii x4)), some (.int (ii x5)), o6, o7, o8, o9] [] := by
  unfold f_Re_isSafe_168B at hf
  have o := k.1
  have g := k.2.1
  have kr := k.2.2.1
  refine J_iload_n o dX11_isSafe_168 rfl ?_
  refine J_if_eq 236 o dX11_isSafe_169 (by decide) r_x2 (fun c1 => ?_) (fun c2 => ?_)
  · have hf := ite_t c1 hf
    refine J_iload o dX11_isSafe_236 rfl ?_
    obtain ⟨g3, hf⟩ := gd_some hf
    have hf := some_inj hf
    subst hf
    exact hc _ _ g3 dX11_isSafe_238
  · have hf := ite_f c2 hf
    refine J_iload o dX11_isSafe_172 rfl ?_
    refine J_aload_n o dX11_isSafe_174 rfl ?_
    refine J_getF (true, 3) o g dX11_isSafe_175 flX11_13 kB_1 rfl rfl rfl ?_
    refine J_aload_n o dX11_isSafe_178 rfl ?_
    refine J_getF (true, 14) o g dX11_isSafe_179 flX11_47 kB_1 rfl rfl rfl ?_
    refine J_iload_n o dX11_isSafe_182 rfl ?_
    obtain ⟨g4, hf⟩ := gd_some hf
    refine J_iald o g dX11_isSafe_183 kB_14 r_x1 zB_14 g4 (fun q5 => ?_)
    obtain ⟨g6, hf⟩ := gd_some hf
    refine J_iald o g dX11_isSafe_184 kB_3 q5 zB_3 g6 (fun q7 => ?_)
    refine J_icmp_ge 236 o dX11_isSafe_185 (by decide) r_x5 q7 (fun c8 => ?_) (fun c9 => ?_)
    · have hf := ite_t c8 hf
      refine J_iload o dX11_isSafe_236 rfl ?_
      obtain ⟨g10, hf⟩ := gd_some hf
      have hf := some_inj hf
      subst hf
      exact hc _ _ g10 dX11_isSafe_238
    · have hf := ite_f c9 hf
      refine J_aload_n o dX11_isSafe_188 rfl ?_
      refine J_getF (true, 15) o g dX11_isSafe_189 flX11_50 kB_1 rfl rfl rfl ?_
      refine J_iconst o dX11_isSafe_192 ?_
      refine J_iload_n o dX11_isSafe_193 rfl ?_
      refine J_imul o dX11_isSafe_194 ?_
      refine J_iload o dX11_isSafe_195 rfl ?_
      refine J_iadd o dX11_isSafe_197 ?_
      obtain ⟨g11, hf⟩ := gd_some hf
      refine J_iald o g dX11_isSafe_198 kB_15 (R_wr _) zB_15 g11 (fun q12 => ?_)
      refine J_istore o dX11_isSafe_199 (Nat.le_of_ble_eq_true rfl) ?_
      have hf := bl_out hf
      refine J_iload o dX11_isSafe_201 rfl ?_
      refine J_if_eq 227 o dX11_isSafe_203 (by decide) r_x4 (fun c14 => ?_) (fun c15 => ?_)
      · have hf := ite_t c14 hf
        exact t_Re_isSafe_227 k r_x1 r_x2 r_x3 r_x5 hf hc
      · have hf := ite_f c15 hf
        refine J_iload o dX11_isSafe_206 rfl ?_
        refine J_if_ge 223 o dX11_isSafe_208 (by decide) q12 (fun c16 => ?_) (fun c17 => ?_)
        · have hf := ite_t c16 hf
          exact t_Re_isSafe_223 k r_x1 r_x2 r_x3 r_x5 hf hc
        · have hf := ite_f c17 hf
          refine J_iload_n o dX11_isSafe_211 rfl ?_
          refine J_iconst o dX11_isSafe_212 ?_
          refine J_iload o dX11_isSafe_213 rfl ?_
          refine J_isub o dX11_isSafe_215 ?_
          refine J_ishr o dX11_isSafe_216 ?_
          refine J_iconst o dX11_isSafe_217 ?_
          refine J_iand o dX11_isSafe_218 ?_
          refine J_iconst o dX11_isSafe_219 ?_
          refine J_icmp_ne 227 o dX11_isSafe_220 (by decide) (R_iand _ _) rl1 (fun c18 => ?_) (fun c19 => ?_)
          · have hf := ite_f c18 hf
            exact t_Re_isSafe_227 k r_x1 r_x2 r_x3 r_x5 hf hc
          · have hf := ite_t c19 hf
            exact t_Re_isSafe_223 k r_x1 r_x2 r_x3 r_x5 hf hc
noncomputable def f_Re_isSafe_168 (w : World) (x1 : Int) (x2 : Int) (x3 : Int) (x4 : Int) (x5 : Int) : Option Int :=
  lp (fun z : (Int × Int) => f_Re_isSafe_168B w x1 x2 x3 z.1 z.2) (x4, x5)
theorem t_Re_isSafe_168 {E : EE} {K : KT} {l : Launch} {H0 : Heap} (k : Kof TB E K l cX11_isSafe RX11 rm_Re_isSafe) {w : World} {x1 : Int} {x2 : Int} {x3 : Int} {x4 : Int} {x5 : Int} (r_x1 : R32 x1) (r_x2 : R32 x2) (r_x3 : R32 x3) {out : Int} (hf : f_Re_isSafe_168 w x1 x2 x3 x4 x5 = some out) (hc : (fun out : Int => RetZ TB E K H0 cX11_isSafe w out) out) : HW_Re_isSafe_168 E K H0 w x1 x2 x3 (x4, x5) := by
  unfold f_Re_isSafe_168 at hf
  refine lp_ind (P := HW_Re_isSafe_168 E K H0 w x1 x2 x3) hf ?_
  intro z o hs h1 h2
  intro r_x4 r_x5
  intro o6 o7 o8 o9
  refine t_Re_isSafe_168B k r_x1 r_x2 r_x3 r_x4 r_x5 hs ?_
  cases o with
  | inl z' => exact h1 z' rfl
  | inr r' => rw [h2 r' rfl]; exact hc
noncomputable def f_Re_isSafe_145 (w : World) (x1 : Int) (x2 : Int) (x3 : Int) (x4 : Int) (x5 : Int) (x7 : Int) (s0 : Int) (s1 : Int) : Option ((Int × Int × Int) ⊕ ((Int × Int × Int) ⊕ Int)) :=
  bl (ior s0 s1) fun n1 => bl (wr (x7 + 1)) fun n2 => some (Sum.inl (x4, n1, n2))
theorem t_Re_isSafe_145 {E : EE} {K : KT} {l : Launch} {H0 : Heap} (k : Kof TB E K l cX11_isSafe RX11 rm_Re_isSafe) {w : World} {x1 : Int} {x2 : Int} {x3 : Int} {x4 : Int} {x5 : Int} {x7 : Int} {s0 : Int} {s1 : Int} {o6 o8 o9 : Option Value} (r_x1 : R32 x1) (r_x2 : R32 x2) (r_x3 : R32 x3) (r_x4 : R32 x4) (r_x5 : R32 x5) (r_x7 : R32 x7) (r_s0 : R32 s0) (r_s1 : R32 s1) {out : ((Int × Int × Int) ⊕ ((Int × Int × Int) ⊕ Int))} (hf : f_Re_isSafe_145 w x1 x2 x3 x4 x5 x7 s0 s1 = some out) (hc : (Sum.elim (HW_Re_isSafe_31 E K H0 w x1 x2 x3 x5) (Sum.elim (HW_Re_isSafe_10 E K H0 w x1 x2) (fun out : Int => RetZ TB E K H0 cX11_isSafe w out))) out) : Jj K (WdT TB E H0) w 145 [some (rf E.ad 1), some (.int (ii x1)), some (.int (ii x2)), some (.int (ii x3)), some (.int (ii x4)), some (.int (ii x5)), o6, some (.int (ii x7)), o8, o9] [.int (ii s1), .int (ii s0)] := by
  unfold f_Re_isSafe_145 at hf
  have o := k.1
  have g := k.2.1
  have kr := k.2.2.1
  refine J_ior o dX11_isSafe_145 ?_
  refine J_istore o dX11_isSafe_146 (Nat.le_of_ble_eq_true rfl) ?_
  have hf := bl_out hf
  have hf := bl_out hf
  refine J_iinc o dX11_isSafe_148 rfl ?_
  refine J_goto 31 o dX11_isSafe_151 (by decide) ?_
  have hf := some_inj hf
  subst hf
  exact hc r_x4 (R_ior _ _) (R_wr _) _ _
noncomputable def f_Re_isSafe_144 (w : World) (x1 : Int) (x2 : Int) (x3 : Int) (x4 : Int) (x5 : Int) (x7 : Int) (s0 : Int) : Option ((Int × Int × Int) ⊕ ((Int × Int × Int) ⊕ Int)) :=
  f_Re_isSafe_145 w x1 x2 x3 x4 x5 x7 s0 0
theorem t_Re_isSafe_144 {E : EE} {K : KT} {l : Launch} {H0 : Heap} (k : Kof TB E K l cX11_isSafe RX11 rm_Re_isSafe) {w : World} {x1 : Int} {x2 : Int} {x3 : Int} {x4 : Int} {x5 : Int} {x7 : Int} {s0 : Int} {o6 o8 o9 : Option Value} (r_x1 : R32 x1) (r_x2 : R32 x2) (r_x3 : R32 x3) (r_x4 : R32 x4) (r_x5 : R32 x5) (r_x7 : R32 x7) (r_s0 : R32 s0) {out : ((Int × Int × Int) ⊕ ((Int × Int × Int) ⊕ Int))} (hf : f_Re_isSafe_144 w x1 x2 x3 x4 x5 x7 s0 = some out) (hc : (Sum.elim (HW_Re_isSafe_31 E K H0 w x1 x2 x3 x5) (Sum.elim (HW_Re_isSafe_10 E K H0 w x1 x2) (fun out : Int => RetZ TB E K H0 cX11_isSafe w out))) out) : Jj K (WdT TB E H0) w 144 [some (rf E.ad 1), some (.int (ii x1)), some (.int (ii x2)), some (.int (ii x3)), some (.int (ii x4)), some (.int (ii x5)), o6, some (.int (ii x7)), o8, o9] [.int (ii s0)] := by
  unfold f_Re_isSafe_144 at hf
  have o := k.1
  have g := k.2.1
  have kr := k.2.2.1
  refine J_iconst o dX11_isSafe_144 ?_
  exact t_Re_isSafe_145 k r_x1 r_x2 r_x3 r_x4 r_x5 r_x7 r_s0 rl0 hf hc
noncomputable def f_Re_isSafe_121 (w : World) (x1 : Int) (x2 : Int) (x3 : Int) (x5 : Int) (x6 : Int) (x7 : Int) (x8 : Int) (x9 : Int) (s0 : Int) : Option ((Int × Int × Int) ⊕ ((Int × Int × Int) ⊕ Int)) :=
  if 0 ≤ x8 then (f_Re_isSafe_144 w x1 x2 x3 s0 x5 x7 x6) else (if x9 = 0 then (f_Re_isSafe_144 w x1 x2 x3 s0 x5 x7 x6) else (f_Re_isSafe_145 w x1 x2 x3 s0 x5 x7 x6 (ishl 1 (wr ((-1) - x8)))))
theorem t_Re_isSafe_121 {E : EE} {K : KT} {l : Launch} {H0 : Heap} (k : Kof TB E K l cX11_isSafe RX11 rm_Re_isSafe) {w : World} {x1 : Int} {x2 : Int} {x3 : Int} {x5 : Int} {x6 : Int} {x7 : Int} {x8 : Int} {x9 : Int} {s0 : Int} {o4 : Option Value} (r_x1 : R32 x1) (r_x2 : R32 x2) (r_x3 : R32 x3) (r_x5 : R32 x5) (r_x6 : R32 x6) (r_x7 : R32 x7) (r_x8 : R32 x8) (r_x9 : R32 x9) (r_s0 : R32 s0) {out : ((Int × Int × Int) ⊕ ((Int × Int × Int) ⊕ Int))} (hf : f_Re_isSafe_121 w x1 x2 x3 x5 x6 x7 x8 x9 s0 = some out) (hc : (Sum.elim (HW_Re_isSafe_31 E K H0 w x1 x2 x3 x5) (Sum.elim (HW_Re_isSafe_10 E K H0 w x1 x2) (fun out : Int => RetZ TB E K H0 cX11_isSafe w out))) out) : Jj K (WdT TB E H0) w 121 [some (rf E.ad 1), some (.int (ii x1)), some (.int (ii x2)), some (.int (ii x3)), o4, some (.int (ii x5)), some (.int (ii x6)), some (.int (ii x7)), some (.int (ii x8)), some (.int (ii x9))] [.int (ii s0)] := by
  unfold f_Re_isSafe_121 at hf
  have o := k.1
  have g := k.2.1
  have kr := k.2.2.1
  refine J_istore o dX11_isSafe_121 (Nat.le_of_ble_eq_true rfl) ?_
  refine J_iload o dX11_isSafe_123 rfl ?_
  refine J_iload o dX11_isSafe_125 rfl ?_
  refine J_if_ge 144 o dX11_isSafe_127 (by decide) r_x8 (fun c1 => ?_) (fun c2 => ?_)
  · have hf := ite_t c1 hf
    exact t_Re_isSafe_144 k r_x1 r_x2 r_x3 r_s0 r_x5 r_x7 r_x6 hf hc
  · have hf := ite_f c2 hf
    refine J_iload o dX11_isSafe_130 rfl ?_
    refine J_if_eq 144 o dX11_isSafe_132 (by decide) r_x9 (fun c3 => ?_) (fun c4 => ?_)
    · have hf := ite_t c3 hf
      exact t_Re_isSafe_144 k r_x1 r_x2 r_x3 r_s0 r_x5 r_x7 r_x6 hf hc
    · have hf := ite_f c4 hf
      refine J_iconst o dX11_isSafe_135 ?_
      refine J_iconst o dX11_isSafe_136 ?_
      refine J_iload o dX11_isSafe_137 rfl ?_
      refine J_isub o dX11_isSafe_139 ?_
      refine J_ishl o dX11_isSafe_140 ?_
      refine J_goto 145 o dX11_isSafe_141 (by decide) ?_
      exact t_Re_isSafe_145 k r_x1 r_x2 r_x3 r_s0 r_x5 r_x7 r_x6 (R_ishl _ _) hf hc
noncomputable def f_Re_isSafe_120 (w : World) (x1 : Int) (x2 : Int) (x3 : Int) (x5 : Int) (x6 : Int) (x7 : Int) (x8 : Int) (x9 : Int) : Option ((Int × Int × Int) ⊕ ((Int × Int × Int) ⊕ Int)) :=
  f_Re_isSafe_121 w x1 x2 x3 x5 x6 x7 x8 x9 0
theorem t_Re_isSafe_120 {E : EE} {K : KT} {l : Launch} {H0 : Heap} (k : Kof TB E K l cX11_isSafe RX11 rm_Re_isSafe) {w : World} {x1 : Int} {x2 : Int} {x3 : Int} {x5 : Int} {x6 : Int} {x7 : Int} {x8 : Int} {x9 : Int} {o4 : Option Value} (r_x1 : R32 x1) (r_x2 : R32 x2) (r_x3 : R32 x3) (r_x5 : R32 x5) (r_x6 : R32 x6) (r_x7 : R32 x7) (r_x8 : R32 x8) (r_x9 : R32 x9) {out : ((Int × Int × Int) ⊕ ((Int × Int × Int) ⊕ Int))} (hf : f_Re_isSafe_120 w x1 x2 x3 x5 x6 x7 x8 x9 = some out) (hc : (Sum.elim (HW_Re_isSafe_31 E K H0 w x1 x2 x3 x5) (Sum.elim (HW_Re_isSafe_10 E K H0 w x1 x2) (fun out : Int => RetZ TB E K H0 cX11_isSafe w out))) out) : Jj K (WdT TB E H0) w 120 [some (rf E.ad 1), some (.int (ii x1)), some (.int (ii x2)), some (.int (ii x3)), o4, some (.int (ii x5)), some (.int (ii x6)), some (.int (ii x7)), some (.int (ii x8)), some (.int (ii x9))] [] := by
  unfold f_Re_isSafe_120 at hf
  have o := k.1
  have g := k.2.1
  have kr := k.2.2.1
  refine J_iconst o dX11_isSafe_120 ?_
  exact t_Re_isSafe_121 k r_x1 r_x2 r_x3 r_x5 r_x6 r_x7 r_x8 r_x9 rl0 hf hc
noncomputable def f_Re_isSafe_116 (w : World) (x1 : Int) (x2 : Int) (x3 : Int) (x5 : Int) (x6 : Int) (x7 : Int) (x8 : Int) (x9 : Int) : Option ((Int × Int × Int) ⊕ ((Int × Int × Int) ⊕ Int)) :=
  f_Re_isSafe_121 w x1 x2 x3 x5 x6 x7 x8 x9 1
theorem t_Re_isSafe_116 {E : EE} {K : KT} {l : Launch} {H0 : Heap} (k : Kof TB E K l cX11_isSafe RX11 rm_Re_isSafe) {w : World} {x1 : Int} {x2 : Int} {x3 : Int} {x5 : Int} {x6 : Int} {x7 : Int} {x8 : Int} {x9 : Int} {o4 : Option Value} (r_x1 : R32 x1) (r_x2 : R32 x2) (r_x3 : R32 x3) (r_x5 : R32 x5) (r_x6 : R32 x6) (r_x7 : R32 x7) (r_x8 : R32 x8) (r_x9 : R32 x9) {out : ((Int × Int × Int) ⊕ ((Int × Int × Int) ⊕ Int))} (hf : f_Re_isSafe_116 w x1 x2 x3 x5 x6 x7 x8 x9 = some out) (hc : (Sum.elim (HW_Re_isSafe_31 E K H0 w x1 x2 x3 x5) (Sum.elim (HW_Re_isSafe_10 E K H0 w x1 x2) (fun out : Int => RetZ TB E K H0 cX11_isSafe w out))) out) : Jj K (WdT TB E H0) w 116 [some (rf E.ad 1), some (.int (ii x1)), some (.int (ii x2)), some (.int (ii x3)), o4, some (.int (ii x5)), some (.int (ii x6)), some (.int (ii x7)), some (.int (ii x8)), some (.int (ii x9))] [] := by
  unfold f_Re_isSafe_116 at hf
  have o := k.1
  have g := k.2.1
  have kr := k.2.2.1
  refine J_iconst o dX11_isSafe_116 ?_
  refine J_goto 121 o dX11_isSafe_117 (by decide) ?_
  exact t_Re_isSafe_121 k r_x1 r_x2 r_x3 r_x5 r_x6 r_x7 r_x8 r_x9 rl1 hf hc
noncomputable def f_Re_isSafe_87 (w : World) (x1 : Int) (x2 : Int) (x3 : Int) (x4 : Int) (x5 : Int) (x6 : Int) (x7 : Int) (x8 : Int) (s0 : Int) : Option ((Int × Int × Int) ⊕ ((Int × Int × Int) ⊕ Int)) :=
  if x4 = 0 then (f_Re_isSafe_120 w x1 x2 x3 x5 x6 x7 x8 s0) else (if 0 ≤ x8 then (f_Re_isSafe_116 w x1 x2 x3 x5 x6 x7 x8 s0) else (if s0 = 0 then (if (iand (ishr x3 (wr ((-1) - x8))) 1) = 1 then (f_Re_isSafe_116 w x1 x2 x3 x5 x6 x7 x8 s0) else (f_Re_isSafe_120 w x1 x2 x3 x5 x6 x7 x8 s0)) else (f_Re_isSafe_116 w x1 x2 x3 x5 x6 x7 x8 s0)))
theorem t_Re_isSafe_87 {E : EE} {K : KT} {l : Launch} {H0 : Heap} (k : Kof TB E K l cX11_isSafe RX11 rm_Re_isSafe) {w : World} {x1 : Int} {x2 : Int} {x3 : Int} {x4 : Int} {x5 : Int} {x6 : Int} {x7 : Int} {x8 : Int} {s0 : Int} {o9 : Option Value} (r_x1 : R32 x1) (r_x2 : R32 x2) (r_x3 : R32 x3) (r_x4 : R32 x4) (r_x5 : R32 x5) (r_x6 : R32 x6) (r_x7 : R32 x7) (r_x8 : R32 x8) (r_s0 : R32 s0) {out : ((Int × Int × Int) ⊕ ((Int × Int × Int) ⊕ Int))} (hf : f_Re_isSafe_87 w x1 x2 x3 x4 x5 x6 x7 x8 s0 = some out) (hc : (Sum.elim (HW_Re_isSafe_31 E K H0 w x1 x2 x3 x5) (Sum.elim (HW_Re_isSafe_10 E K H0 w x1 x2) (fun out : Int => RetZ TB E K H0 cX11_isSafe w out))) out) : Jj K (WdT TB E H0) w 87 [some (rf E.ad 1), some (.int (ii x1)), some (.int (ii x2)), some (.int (ii x3)), some (.int (ii x4)), some (.int (ii x5)), some (.int (ii x6)), some (.int (ii x7)), some (.int (ii x8)), o9] [.int (ii s0)] := by
  unfold f_Re_isSafe_87 at hf
  have o := k.1
  have g := k.2.1
  have kr := k.2.2.1
  refine J_istore o dX11_isSafe_87 (Nat.le_of_ble_eq_true rfl) ?_
  refine J_iload o dX11_isSafe_89 rfl ?_
  refine J_if_eq 120 o dX11_isSafe_91 (by decide) r_x4 (fun c1 => ?_) (fun c2 => ?_)
  · have hf := ite_t c1 hf
    exact t_Re_isSafe_120 k r_x1 r_x2 r_x3 r_x5 r_x6 r_x7 r_x8 r_s0 hf hc
  · have hf := ite_f c2 hf
    refine J_iload o dX11_isSafe_94 rfl ?_
    refine J_if_ge 116 o dX11_isSafe_96 (by decide) r_x8 (fun c3 => ?_) (fun c4 => ?_)
    · have hf := ite_t c3 hf
      exact t_Re_isSafe_116 k r_x1 r_x2 r_x3 r_x5 r_x6 r_x7 r_x8 r_s0 hf hc
    · have hf := ite_f c4 hf
      refine J_iload o dX11_isSafe_99 rfl ?_
      refine J_if_ne 116 o dX11_isSafe_101 (by decide) r_s0 (fun c5 => ?_) (fun c6 => ?_)
      · have hf := ite_f c5 hf
        exact t_Re_isSafe_116 k r_x1 r_x2 r_x3 r_x5 r_x6 r_x7 r_x8 r_s0 hf hc
      · have hf := ite_t c6 hf
        refine J_iload_n o dX11_isSafe_104 rfl ?_
        refine J_iconst o dX11_isSafe_105 ?_
        refine J_iload o dX11_isSafe_106 rfl ?_
        refine J_isub o dX11_isSafe_108 ?_
        refine J_ishr o dX11_isSafe_109 ?_
        refine J_iconst o dX11_isSafe_110 ?_
        refine J_iand o dX11_isSafe_111 ?_
        refine J_iconst o dX11_isSafe_112 ?_
        refine J_icmp_ne 120 o dX11_isSafe_113 (by decide) (R_iand _ _) rl1 (fun c7 => ?_) (fun c8 => ?_)
        · have hf := ite_f c7 hf
          exact t_Re_isSafe_120 k r_x1 r_x2 r_x3 r_x5 r_x6 r_x7 r_x8 r_s0 hf hc
        · have hf := ite_t c8 hf
          exact t_Re_isSafe_116 k r_x1 r_x2 r_x3 r_x5 r_x6 r_x7 r_x8 r_s0 hf hc
noncomputable def f_Re_isSafe_82 (w : World) (x1 : Int) (x2 : Int) (x3 : Int) (x4 : Int) (x5 : Int) (x6 : Int) (x7 : Int) (x8 : Int) : Option ((Int × Int × Int) ⊕ ((Int × Int × Int) ⊕ Int)) :=
  f_Re_isSafe_87 w x1 x2 x3 x4 x5 x6 x7 x8 1
theorem t_Re_isSafe_82 {E : EE} {K : KT} {l : Launch} {H0 : Heap} (k : Kof TB E K l cX11_isSafe RX11 rm_Re_isSafe) {w : World} {x1 : Int} {x2 : Int} {x3 : Int} {x4 : Int} {x5 : Int} {x6 : Int} {x7 : Int} {x8 : Int} {o9 : Option Value} (r_x1 : R32 x1) (r_x2 : R32 x2) (r_x3 : R32 x3) (r_x4 : R32 x4) (r_x5 : R32 x5) (r_x6 : R32 x6) (r_x7 : R32 x7) (r_x8 : R32 x8) {out : ((Int × Int × Int) ⊕ ((Int × Int × Int) ⊕ Int))} (hf : f_Re_isSafe_82 w x1 x2 x3 x4 x5 x6 x7 x8 = some out) (hc : (Sum.elim (HW_Re_isSafe_31 E K H0 w x1 x2 x3 x5) (Sum.elim (HW_Re_isSafe_10 E K H0 w x1 x2) (fun out : Int => RetZ TB E K H0 cX11_isSafe w out))) out) : Jj K (WdT TB E H0) w 82 [some (rf E.ad 1), some (.int (ii x1)), some (.int (ii x2)), some (.int (ii x3)), some (.int (ii x4)), some (.int (ii x5)), some (.int (ii x6)), some (.int (ii x7)), some (.int (ii x8)), o9] [] := by
  unfold f_Re_isSafe_82 at hf
  have o := k.1
  have g := k.2.1
  have kr := k.2.2.1
  refine J_iconst o dX11_isSafe_82 ?_
  refine J_goto 87 o dX11_isSafe_83 (by decide) ?_
  exact t_Re_isSafe_87 k r_x1 r_x2 r_x3 r_x4 r_x5 r_x6 r_x7 r_x8 rl1 hf hc
noncomputable def f_Re_isSafe_86 (w : World) (x1 : Int) (x2 : Int) (x3 : Int) (x4 : Int) (x5 : Int) (x6 : Int) (x7 : Int) (x8 : Int) : Option ((Int × Int × Int) ⊕ ((Int × Int × Int) ⊕ Int)) :=
  f_Re_isSafe_87 w x1 x2 x3 x4 x5 x6 x7 x8 0
theorem t_Re_isSafe_86 {E : EE} {K : KT} {l : Launch} {H0 : Heap} (k : Kof TB E K l cX11_isSafe RX11 rm_Re_isSafe) {w : World} {x1 : Int} {x2 : Int} {x3 : Int} {x4 : Int} {x5 : Int} {x6 : Int} {x7 : Int} {x8 : Int} {o9 : Option Value} (r_x1 : R32 x1) (r_x2 : R32 x2) (r_x3 : R32 x3) (r_x4 : R32 x4) (r_x5 : R32 x5) (r_x6 : R32 x6) (r_x7 : R32 x7) (r_x8 : R32 x8) {out : ((Int × Int × Int) ⊕ ((Int × Int × Int) ⊕ Int))} (hf : f_Re_isSafe_86 w x1 x2 x3 x4 x5 x6 x7 x8 = some out) (hc : (Sum.elim (HW_Re_isSafe_31 E K H0 w x1 x2 x3 x5) (Sum.elim (HW_Re_isSafe_10 E K H0 w x1 x2) (fun out : Int => RetZ TB E K H0 cX11_isSafe w out))) out) : Jj K (WdT TB E H0) w 86 [some (rf E.ad 1), some (.int (ii x1)), some (.int (ii x2)), some (.int (ii x3)), some (.int (ii x4)), some (.int (ii x5)), some (.int (ii x6)), some (.int (ii x7)), some (.int (ii x8)), o9] [] := by
  unfold f_Re_isSafe_86 at hf
  have o := k.1
  have g := k.2.1
  have kr := k.2.2.1
  refine J_iconst o dX11_isSafe_86 ?_
  exact t_Re_isSafe_87 k r_x1 r_x2 r_x3 r_x4 r_x5 r_x6 r_x7 r_x8 rl0 hf hc
noncomputable def f_Re_isSafe_31B (w : World) (x1 : Int) (x2 : Int) (x3 : Int) (x4 : Int) (x5 : Int) (x6 : Int) (x7 : Int) : Option ((Int × Int × Int) ⊕ ((Int × Int × Int) ⊕ Int)) :=
  bnd (f_Re_width w x5) fun v2 => if v2 ≤ x7 then (bl (ior x3 x6) fun n6 => bl (wr (x5 + 1)) fun n7 => some (Sum.inr (Sum.inl (n6, x4, n7)))) else (gd (0 ≤ wr ((wr (3 * x5)) + x7) ∧ wr ((wr (3 * x5)) + x7) < 285) (bl (w 19 (wr ((wr (3 * x5)) + x7)).toNat) fun n10 => gd (0 ≤ x5 ∧ x5 < 95) (if (w 17 x5.toNat) = 0 then (f_Re_isSafe_82 w x1 x2 x3 x4 x5 x6 x7 n10) else (gd (0 ≤ x5 ∧ x5 < 95) (if (w 17 x5.toNat) = 3 then (if x7 = 0 then (f_Re_isSafe_82 w x1 x2 x3 x4 x5 x6 x7 n10) else (f_Re_isSafe_86 w x1 x2 x3 x4 x5 x6 x7 n10)) else (f_Re_isSafe_86 w x1 x2 x3 x4 x5 x6 x7 n10))))))
theorem t_Re_isSafe_31B {E : EE} {K : KT} {l : Launch} {H0 : Heap} (k : Kof TB E K l cX11_isSafe RX11 rm_Re_isSafe) {w : World} {x1 : Int} {x2 : Int} {x3 : Int} {x4 : Int} {x5 : Int} {x6 : Int} {x7 : Int} {o8 o9 : Option Value} (r_x1 : R32 x1) (r_x2 : R32 x2) (r_x3 : R32 x3) (r_x4 : R32 x4) (r_x5 : R32 x5) (r_x6 : R32 x6) (r_x7 : R32 x7) {out : ((Int × Int × Int) ⊕ ((Int × Int × Int) ⊕ Int))} (hf : f_Re_isSafe_31B w x1 x2 x3 x4 x5 x6 x7 = some out) (hc : (Sum.elim (HW_Re_isSafe_31 E K H0 w x1 x2 x3 x5) (Sum.elim (HW_Re_isSafe_10 E K H0 w x1 x2) (fun out : Int => RetZ TB E K H0 cX11_isSafe w out))) out) : Jj K (WdT TB E H0) w 31 [some (rf E.ad 1), some (.int (ii x1)), some (.int (ii x2)), some (.int (ii x3)), some (.int (ii x4)), some (.int (ii x5)), some (.int (ii x6)), some (.int (ii x7)), o8, o9] [] := by
  unfold f_Re_isSafe_31B at hf
  have o := k.1
  have g := k.2.1
  have kr := k.2.2.1
  refine J_iload o dX11_isSafe_31 rfl ?_
  refine J_aload_n o dX11_isSafe_33 rfl ?_
  refine J_iload o dX11_isSafe_34 rfl ?_
  obtain ⟨v2, e1, hf⟩ := bnd_some hf
  refine J_vI o g kr dX11_isSafe_36 lkX11_152 ml_Re_width vl_Re_width ⟨rfl, rfl, Nat.le_of_ble_eq_true rfl, Nat.le_of_ble_eq_true rfl⟩ (c_Re_width g.2.1 r_x5 e1) kB_1 rfl ⟨by decide, by decide⟩ rfl rfl (c1s_i c1s_0 (Nat.le_of_ble_eq_true rfl)) (fun q3 => ?_)
  refine J_icmp_ge 154 o dX11_isSafe_39 (by decide) r_x7 q3 (fun c4 => ?_) (fun c5 => ?_)
  · have hf := ite_t c4 hf
    refine J_iload_n o dX11_isSafe_154 rfl ?_
    refine J_iload o dX11_isSafe_155 rfl ?_
    refine J_ior o dX11_isSafe_157 ?_
    refine J_istore_n o dX11_isSafe_158 (Nat.le_of_ble_eq_true rfl) ?_
    have hf := bl_out hf
    have hf := bl_out hf
    refine J_iinc o dX11_isSafe_159 rfl ?_
    refine J_goto 10 o dX11_isSafe_162 (by decide) ?_
    have hf := some_inj hf
    subst hf
    exact hc (R_ior _ _) r_x4 (R_wr _) _ _ _ _
  · have hf := ite_f c5 hf
    refine J_aload_n o dX11_isSafe_42 rfl ?_
    refine J_getF (true, 19) o g dX11_isSafe_43 flX11_62 kB_1 rfl rfl rfl ?_
    refine J_iconst o dX11_isSafe_46 ?_
    refine J_iload o dX11_isSafe_47 rfl ?_
    refine J_imul o dX11_isSafe_49 ?_
    refine J_iload o dX11_isSafe_50 rfl ?_
    refine J_iadd o dX11_isSafe_52 ?_
    obtain ⟨g8, hf⟩ := gd_some hf
    refine J_iald o g dX11_isSafe_53 kB_19 (R_wr _) zB_19 g8 (fun q9 => ?_)
    refine J_istore o dX11_isSafe_54 (Nat.le_of_ble_eq_true rfl) ?_
    have hf := bl_out hf
    refine J_aload_n o dX11_isSafe_56 rfl ?_
    refine J_getF (true, 17) o g dX11_isSafe_57 flX11_56 kB_1 rfl rfl rfl ?_
    refine J_iload o dX11_isSafe_60 rfl ?_
    obtain ⟨g11, hf⟩ := gd_some hf
    refine J_iald o g dX11_isSafe_62 kB_17 r_x5 zB_17 g11 (fun q12 => ?_)
    refine J_if_eq 82 o dX11_isSafe_63 (by decide) q12 (fun c13 => ?_) (fun c14 => ?_)
    · have hf := ite_t c13 hf
      exact t_Re_isSafe_82 k r_x1 r_x2 r_x3 r_x4 r_x5 r_x6 r_x7 q9 hf hc
    · have hf := ite_f c14 hf
      refine J_aload_n o dX11_isSafe_66 rfl ?_
      refine J_getF (true, 17) o g dX11_isSafe_67 flX11_56 kB_1 rfl rfl rfl ?_
      refine J_iload o dX11_isSafe_70 rfl ?_
      obtain ⟨g15, hf⟩ := gd_some hf
      refine J_iald o g dX11_isSafe_72 kB_17 r_x5 zB_17 g15 (fun q16 => ?_)
      refine J_iconst o dX11_isSafe_73 ?_
      refine J_icmp_ne 86 o dX11_isSafe_74 (by decide) q16 rl3 (fun c17 => ?_) (fun c18 => ?_)
      · have hf := ite_f c17 hf
        exact t_Re_isSafe_86 k r_x1 r_x2 r_x3 r_x4 r_x5 r_x6 r_x7 q9 hf hc
      · have hf := ite_t c18 hf
        refine J_iload o dX11_isSafe_77 rfl ?_
        refine J_if_ne 86 o dX11_isSafe_79 (by decide) r_x7 (fun c19 => ?_) (fun c20 => ?_)
        · have hf := ite_f c19 hf
          exact t_Re_isSafe_86 k r_x1 r_x2 r_x3 r_x4 r_x5 r_x6 r_x7 q9 hf hc
        · have hf := ite_t c20 hf
          exact t_Re_isSafe_82 k r_x1 r_x2 r_x3 r_x4 r_x5 r_x6 r_x7 q9 hf hc
noncomputable def f_Re_isSafe_31 (w : World) (x1 : Int) (x2 : Int) (x3 : Int) (x4 : Int) (x5 : Int) (x6 : Int) (x7 : Int) : Option ((Int × Int × Int) ⊕ Int) :=
  lp (fun z : (Int × Int × Int) => f_Re_isSafe_31B w x1 x2 x3 z.1 x5 z.2.1 z.2.2) (x4, x6, x7)
theorem t_Re_isSafe_31 {E : EE} {K : KT} {l : Launch} {H0 : Heap} (k : Kof TB E K l cX11_isSafe RX11 rm_Re_isSafe) {w : World} {x1 : Int} {x2 : Int} {x3 : Int} {x4 : Int} {x5 : Int} {x6 : Int} {x7 : Int} (r_x1 : R32 x1) (r_x2 : R32 x2) (r_x3 : R32 x3) (r_x5 : R32 x5) {out : ((Int × Int × Int) ⊕ Int)} (hf : f_Re_isSafe_31 w x1 x2 x3 x4 x5 x6 x7 = some out) (hc : (Sum.elim (HW_Re_isSafe_10 E K H0 w x1 x2) (fun out : Int => RetZ TB E K H0 cX11_isSafe w out)) out) : HW_Re_isSafe_31 E K H0 w x1 x2 x3 x5 (x4, x6, x7) := by
  unfold f_Re_isSafe_31 at hf
  refine lp_ind (P := HW_Re_isSafe_31 E K H0 w x1 x2 x3 x5) hf ?_
  intro z o hs h1 h2
  intro r_x4 r_x6 r_x7
  intro o8 o9
  refine t_Re_isSafe_31B k r_x1 r_x2 r_x3 r_x4 r_x5 r_x6 r_x7 hs ?_
  cases o with
  | inl z' => exact h1 z' rfl
  | inr r' => rw [h2 r' rfl]; exact hc
noncomputable def f_Re_isSafe_10B (w : World) (x1 : Int) (x2 : Int) (x3 : Int) (x4 : Int) (x5 : Int) : Option ((Int × Int × Int) ⊕ Int) :=
  gd (0 ≤ x1 ∧ x1 < 19) (if (wr ((wr (5 * x1)) + (w 16 x1.toNat))) ≤ x5 then (bnd (f_Re_isSafe_168 w x1 x2 x3 x4 0) fun y5 => some (Sum.inr y5)) else (f_Re_isSafe_31 w x1 x2 x3 x4 x5 0 0))
theorem t_Re_isSafe_10B {E : EE} {K : KT} {l : Launch} {H0 : Heap} (k : Kof TB E K l cX11_isSafe RX11 rm_Re_isSafe) {w : World} {x1 : Int} {x2 : Int} {x3 : Int} {x4 : Int} {x5 : Int} {o6 o7 o8 o9 : Option Value} (r_x1 : R32 x1) (r_x2 : R32 x2) (r_x3 : R32 x3) (r_x4 : R32 x4) (r_x5 : R32 x5) {out : ((Int × Int × Int) ⊕ Int)} (hf : f_Re_isSafe_10B w x1 x2 x3 x4 x5 = some out) (hc : (Sum.elim (HW_Re_isSafe_10 E K H0 w x1 x2) (fun out : Int => RetZ TB E K H0 cX11_isSafe w out)) out) : Jj K (WdT TB E H0) w 10 [some (rf E.ad 1), some (.int (ii x1)), some (.int (ii x2)), some (.int (ii x3)), some (.int (ii x4)), some (.int (ii x5)), o6, o7, o8, o9] [] := by
  unfold f_Re_isSafe_10B at hf
  have o := k.1
  have g := k.2.1
  have kr := k.2.2.1
  refine J_iload o dX11_isSafe_10 rfl ?_
  refine J_iconst o dX11_isSafe_12 ?_
  refine J_iload_n o dX11_isSafe_13 rfl ?_
  refine J_imul o dX11_isSafe_14 ?_
  refine J_aload_n o dX11_isSafe_15 rfl ?_
  refine J_getF (true, 16) o g dX11_isSafe_16 flX11_53 kB_1 rfl rfl rfl ?_
  refine J_iload_n o dX11_isSafe_19 rfl ?_
  obtain ⟨g1, hf⟩ := gd_some hf
  refine J_iald o g dX11_isSafe_20 kB_16 r_x1 zB_16 g1 (fun q2 => ?_)
  refine J_iadd o dX11_isSafe_21 ?_
  refine J_icmp_ge 165 o dX11_isSafe_22 (by decide) r_x5 (R_wr _) (fun c3 => ?_) (fun c4 => ?_)
  · have hf := ite_t c3 hf
    refine J_iconst o dX11_isSafe_165 ?_
    refine J_istore o dX11_isSafe_166 (Nat.le_of_ble_eq_true rfl) ?_
    obtain ⟨y5, hf1, hf⟩ := bnd_some hf
    have hf := some_inj hf
    subst hf
    exact (t_Re_isSafe_168 k r_x1 r_x2 r_x3 hf1 hc) r_x4 rl0 _ _ _ _
  · have hf := ite_f c4 hf
    refine J_iconst o dX11_isSafe_25 ?_
    refine J_istore o dX11_isSafe_26 (Nat.le_of_ble_eq_true rfl) ?_
    refine J_iconst o dX11_isSafe_28 ?_
    refine J_istore o dX11_isSafe_29 (Nat.le_of_ble_eq_true rfl) ?_
    exact (t_Re_isSafe_31 k r_x1 r_x2 r_x3 r_x5 hf hc) r_x4 rl0 rl0 _ _
noncomputable def f_Re_isSafe_10 (w : World) (x1 : Int) (x2 : Int) (x3 : Int) (x4 : Int) (x5 : Int) : Option Int :=
  lp (fun z : (Int × Int × Int) => f_Re_isSafe_10B w x1 x2 z.1 z.2.1 z.2.2) (x3, x4, x5)
theorem t_Re_isSafe_10 {E : EE} {K : KT} {l : Launch} {H0 : Heap} (k : Kof TB E K l cX11_isSafe RX11 rm_Re_isSafe) {w : World} {x1 : Int} {x2 : Int} {x3 : Int} {x4 : Int} {x5 : Int} (r_x1 : R32 x1) (r_x2 : R32 x2) {out : Int} (hf : f_Re_isSafe_10 w x1 x2 x3 x4 x5 = some out) (hc : (fun out : Int => RetZ TB E K H0 cX11_isSafe w out) out) : HW_Re_isSafe_10 E K H0 w x1 x2 (x3, x4, x5) := by
  unfold f_Re_isSafe_10 at hf
  refine lp_ind (P := HW_Re_isSafe_10 E K H0 w x1 x2) hf ?_
  intro z o hs h1 h2
  intro r_x3 r_x4 r_x5
  intro o6 o7 o8 o9
  refine t_Re_isSafe_10B k r_x1 r_x2 r_x3 r_x4 r_x5 hs ?_
  cases o with
  | inl z' => exact h1 z' rfl
  | inr r' => rw [h2 r' rfl]; exact hc
noncomputable def f_Re_isSafe (w : World) (x1 : Int) (x2 : Int) : Option Int :=
  bl (wr (5 * x1)) fun n1 => f_Re_isSafe_10 w x1 x2 0 1 n1
theorem t_Re_isSafe_0 {E : EE} {K : KT} {l : Launch} {H0 : Heap} (k : Kof TB E K l cX11_isSafe RX11 rm_Re_isSafe) {w : World} {x1 : Int} {x2 : Int} {o3 o4 o5 o6 o7 o8 o9 : Option Value} (r_x1 : R32 x1) (r_x2 : R32 x2) {out : Int} (hf : f_Re_isSafe w x1 x2 = some out) (hc : (fun out : Int => RetZ TB E K H0 cX11_isSafe w out) out) : Jj K (WdT TB E H0) w 0 [some (rf E.ad 1), some (.int (ii x1)), some (.int (ii x2)), o3, o4, o5, o6, o7, o8, o9] [] := by
  unfold f_Re_isSafe at hf
  have o := k.1
  have g := k.2.1
  have kr := k.2.2.1
  refine J_iconst o dX11_isSafe_0 ?_
  refine J_istore_n o dX11_isSafe_1 (Nat.le_of_ble_eq_true rfl) ?_
  refine J_iconst o dX11_isSafe_2 ?_
  refine J_istore o dX11_isSafe_3 (Nat.le_of_ble_eq_true rfl) ?_
  refine J_iconst o dX11_isSafe_5 ?_
  refine J_iload_n o dX11_isSafe_6 rfl ?_
  refine J_imul o dX11_isSafe_7 ?_
  refine J_istore o dX11_isSafe_8 (Nat.le_of_ble_eq_true rfl) ?_
  have hf := bl_out hf
  exact (t_Re_isSafe_10 k r_x1 r_x2 hf hc) rl0 rl1 (R_wr _) _ _ _ _
theorem c_Re_isSafe {E : EE} {l : Launch} (hI : Inj TB E) {w : World} {x1 : Int} {x2 : Int} (r_x1 : R32 x1) (r_x2 : R32 x2) {out : Int} (hf : f_Re_isSafe w x1 x2 = some out) : ConI TB E l yX11_isSafe (WS yX11_isSafe cX11_isSafe 10 (some .boolean)) rm_Re_isSafe [rf E.ad 1, .int (ii x1), .int (ii x2)] w w out :=
  con_Z (by decide +kernel) rfl (Nat.le_of_ble_eq_true rfl) (c1s_r (c1s_i (c1s_i c1s_0 (Nat.le_of_ble_eq_true rfl)) (Nat.le_of_ble_eq_true rfl)) (Nat.le_of_ble_eq_true rfl)).1 ⟨rfl, rfl⟩ hI TnB (fun K H0 k hret => t_Re_isSafe_0 k r_x1 r_x2 hf hret)
