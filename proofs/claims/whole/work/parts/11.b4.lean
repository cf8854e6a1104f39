abbrev rm_Re_broken : Room := { frames := 7, cells := 0, slots := 0, locals := 167 }
noncomputable def f_Re_broken (w : World) : Option (World × Int) :=
  bnd (f_Re_brokenIn w (w 1 1)) fun v3 => bnd (f_Re_fine v3.1 v3.2) fun v6 => some (v6.1, v6.2)
theorem t_Re_broken_0 {E : EE} {K : KT} {l : Launch} {H0 : Heap} (k : Kof TB E K l cX11_broken RX11 rm_Re_broken) {w : World}  {out : (World × Int)} (hf : f_Re_broken w = some out) (hc : (fun out : (World × Int) => RetI TB E K H0 cX11_broken out.1 out.2) out) : Jj K (WdT TB E H0) w 0 [some (rf E.ad 1)] [] := by
  unfold f_Re_broken at hf
  have o := k.1
  have g := k.2.1
  have kr := k.2.2.1
  refine J_aload_n o dX11_broken_0 rfl ?_
  refine J_aload_n o dX11_broken_1 rfl ?_
  refine J_aload_n o dX11_broken_2 rfl ?_
  refine J_getI o g dX11_broken_3 flX11_131 kB_1 rfl (fun q1 => ?_)
  obtain ⟨v3, e2, hf⟩ := bnd_some hf
  refine J_vI o g kr dX11_broken_6 lkX11_280 ml_Re_brokenIn vl_Re_brokenIn ⟨rfl, rfl, Nat.le_of_ble_eq_true rfl, Nat.le_of_ble_eq_true rfl⟩ (c_Re_brokenIn g.2.1 q1 e2) kB_1 rfl ⟨by decide, by decide⟩ rfl rfl (c1s_r c1s_0 (Nat.le_of_ble_eq_true rfl)) (fun q4 => ?_)
  obtain ⟨v6, e5, hf⟩ := bnd_some hf
  refine J_vI o g kr dX11_broken_9 lkX11_149 ml_Re_fine vl_Re_fine ⟨rfl, rfl, Nat.le_of_ble_eq_true rfl, Nat.le_of_ble_eq_true rfl⟩ (c_Re_fine g.2.1 q4 e5) kB_1 rfl ⟨by decide, by decide⟩ rfl rfl c1s_0 (fun q7 => ?_)
  have hf := some_inj hf
  subst hf
  exact hc _ _ q7 dX11_broken_12
theorem c_Re_broken {E : EE} {l : Launch} (hI : Inj TB E) {w : World}  {out : (World × Int)} (hf : f_Re_broken w = some out) : ConI TB E l yX11_broken (WS yX11_broken cX11_broken 1 (some .int)) rm_Re_broken [rf E.ad 1] w out.1 out.2 :=
  con_I (by decide +kernel) rfl (Nat.le_of_ble_eq_true rfl) (c1s_r c1s_0 (Nat.le_of_ble_eq_true rfl)).1 ⟨rfl, rfl⟩ hI TnB (fun K H0 k hret => t_Re_broken_0 k  hf hret)
abbrev rm_Re_repairs : Room := { frames := 8, cells := 0, slots := 0, locals := 195 }
noncomputable def f_Re_repairs (w : World) (x1 : Int) : Option (World × Int) :=
  bnd (f_Re_build w 4 (w 1 1) x1) fun v3 => if v3.2 = 0 then (some (v3.1, 0)) else (bnd (f_Re_brokenIn v3.1 4) fun v8 => if v8.2 = 0 then (some (v8.1, 1)) else (some (v8.1, 0)))
theorem t_Re_repairs_0 {E : EE} {K : KT} {l : Launch} {H0 : Heap} (k : Kof TB E K l cX11_repairs RX11 rm_Re_repairs) {w : World} {x1 : Int} (r_x1 : R32 x1) {out : (World × Int)} (hf : f_Re_repairs w x1 = some out) (hc : (fun out : (World × Int) => RetZ TB E K H0 cX11_repairs out.1 out.2) out) : Jj K (WdT TB E H0) w 0 [some (rf E.ad 1), some (.int (ii x1))] [] := by
  unfold f_Re_repairs at hf
  have o := k.1
  have g := k.2.1
  have kr := k.2.2.1
  refine J_aload_n o dX11_repairs_0 rfl ?_
  refine J_iconst o dX11_repairs_1 ?_
  refine J_aload_n o dX11_repairs_2 rfl ?_
  refine J_getI o g dX11_repairs_3 flX11_131 kB_1 rfl (fun q1 => ?_)
  refine J_iload_n o dX11_repairs_6 rfl ?_
  obtain ⟨v3, e2, hf⟩ := bnd_some hf
  refine J_vI o g kr dX11_repairs_7 lkX11_243 ml_Re_build vl_Re_build ⟨rfl, rfl, Nat.le_of_ble_eq_true rfl, Nat.le_of_ble_eq_true rfl⟩ (c_Re_build g.2.1 rl4 q1 r_x1 e2) kB_1 rfl ⟨by decide, by decide⟩ rfl rfl c1s_0 (fun q4 => ?_)
  refine J_if_eq 25 o dX11_repairs_10 (by decide) q4 (fun c5 => ?_) (fun c6 => ?_)
  · have hf := ite_t c5 hf
    refine J_iconst o dX11_repairs_25 ?_
    have hf := some_inj hf
    subst hf
    exact hc _ _ (Or.inl rfl) dX11_repairs_26
  · have hf := ite_f c6 hf
    refine J_aload_n o dX11_repairs_13 rfl ?_
    refine J_iconst o dX11_repairs_14 ?_
    obtain ⟨v8, e7, hf⟩ := bnd_some hf
    refine J_vI o g kr dX11_repairs_15 lkX11_280 ml_Re_brokenIn vl_Re_brokenIn ⟨rfl, rfl, Nat.le_of_ble_eq_true rfl, Nat.le_of_ble_eq_true rfl⟩ (c_Re_brokenIn g.2.1 rl4 e7) kB_1 rfl ⟨by decide, by decide⟩ rfl rfl c1s_0 (fun q9 => ?_)
    refine J_if_ne 25 o dX11_repairs_18 (by decide) q9 (fun c10 => ?_) (fun c11 => ?_)
    · have hf := ite_f c10 hf
      refine J_iconst o dX11_repairs_25 ?_
      have hf := some_inj hf
      subst hf
      exact hc _ _ (Or.inl rfl) dX11_repairs_26
    · have hf := ite_t c11 hf
      refine J_iconst o dX11_repairs_21 ?_
      refine J_goto 26 o dX11_repairs_22 (by decide) ?_
      have hf := some_inj hf
      subst hf
      exact hc _ _ (Or.inr rfl) dX11_repairs_26
theorem c_Re_repairs {E : EE} {l : Launch} (hI : Inj TB E) {w : World} {x1 : Int} (r_x1 : R32 x1) {out : (World × Int)} (hf : f_Re_repairs w x1 = some out) : ConI TB E l yX11_repairs (WS yX11_repairs cX11_repairs 2 (some .boolean)) rm_Re_repairs [rf E.ad 1, .int (ii x1)] w out.1 out.2 :=
  con_Z (by decide +kernel) rfl (Nat.le_of_ble_eq_true rfl) (c1s_r (c1s_i c1s_0 (Nat.le_of_ble_eq_true rfl)) (Nat.le_of_ble_eq_true rfl)).1 ⟨rfl, rfl⟩ hI TnB (fun K H0 k hret => t_Re_repairs_0 k r_x1 hf hret)
abbrev rm_Re_repair : Room := { frames := 9, cells := 0, slots := 0, locals := 216 }
def HW_Re_repair_20 (E : EE) (K : KT) (H0 : Heap)  : (World × Int) → Prop := fun z => R32 z.2 → ∀ o2 : Option Value, Jj K (WdT TB E H0) z.1 20 [some (rf E.ad 1), some (.int (ii z.2)), o2] []
def HW_Re_repair_63 (E : EE) (K : KT) (H0 : Heap)  : (World × Int) → Prop := fun z => R32 z.2 → ∀ o2 : Option Value, Jj K (WdT TB E H0) z.1 63 [some (rf E.ad 1), some (.int (ii z.2)), o2] []
def HW_Re_repair_73 (E : EE) (K : KT) (H0 : Heap) (x1 : Int) : (World × Int) → Prop := fun z => R32 z.2 → Jj K (WdT TB E H0) z.1 73 [some (rf E.ad 1), some (.int (ii x1)), some (.int (ii z.2))] []
noncomputable def f_Re_repair_126 (w : World) (x1 : Int) (x2 : Int) : Option ((World × Int) ⊕ ((World × Int) ⊕ (World × Int))) :=
  bl (wr (x2 + 1)) fun n1 => some (Sum.inl (w, n1))
theorem t_Re_repair_126 {E : EE} {K : KT} {l : Launch} {H0 : Heap} (k : Kof TB E K l cX11_repair RX11 rm_Re_repair) {w : World} {x1 : Int} {x2 : Int} (r_x1 : R32 x1) (r_x2 : R32 x2) {out : ((World × Int) ⊕ ((World × Int) ⊕ (World × Int)))} (hf : f_Re_repair_126 w x1 x2 = some out) (hc : (Sum.elim (HW_Re_repair_73 E K H0 x1) (Sum.elim (HW_Re_repair_63 E K H0 ) (fun out : (World × Int) => RetI TB E K H0 cX11_repair out.1 out.2))) out) : Jj K (WdT TB E H0) w 126 [some (rf E.ad 1), some (.int (ii x1)), some (.int (ii x2))] [] := by
  unfold f_Re_repair_126 at hf
  have o := k.1
  have g := k.2.1
  have kr := k.2.2.1
  have hf := bl_out hf
  refine J_iinc o dX11_repair_126 rfl ?_
  refine J_goto 73 o dX11_repair_129 (by decide) ?_
  have hf := some_inj hf
  subst hf
  exact hc (R_wr _) 
noncomputable def f_Re_repair_73B (w : World) (x1 : Int) (x2 : Int) : Option ((World × Int) ⊕ ((World × Int) ⊕ (World × Int))) :=
  if x1 ≤ x2 then (bl (wr (x1 + 1)) fun n3 => some (Sum.inr (Sum.inl (w, n3)))) else (bnd (f_Re_holdsIn w x1 (w 1 1) 0) fun v6 => if v6 = 0 then (f_Re_repair_126 w x1 x2) else (bnd (f_Re_holdsIn w x2 (w 1 1) 0) fun v12 => if v12 = 0 then (f_Re_repair_126 w x1 x2) else (bnd (f_Re_repairs w (ior (ishl 1 x1) (ishl 1 x2))) fun v17 => if v17.2 = 0 then (f_Re_repair_126 v17.1 x1 x2) else (some (Sum.inr (Sum.inr (v17.1, ior (ishl 1 x1) (ishl 1 x2))))))))
theorem t_Re_repair_73B {E : EE} {K : KT} {l : Launch} {H0 : Heap} (k : Kof TB E K l cX11_repair RX11 rm_Re_repair) {w : World} {x1 : Int} {x2 : Int} (r_x1 : R32 x1) (r_x2 : R32 x2) {out : ((World × Int) ⊕ ((World × Int) ⊕ (World × Int)))} (hf : f_Re_repair_73B w x1 x2 = some out) (hc : (Sum.elim (HW_Re_repair_73 E K H0 x1) (Sum.elim (HW_Re_repair_63 E K H0 ) (fun out : (World × Int) => RetI TB E K H0 cX11_repair out.1 out.2))) out) : Jj K (WdT TB E H0) w 73 [some (rf E.ad 1), some (.int (ii x1)), some (.int (ii x2))] [] := by
  unfold f_Re_repair_73B at hf
  have o := k.1
  have g := k.2.1
  have kr := k.2.2.1
  refine J_iload_n o dX11_repair_73 rfl ?_
  refine J_iload_n o dX11_repair_74 rfl ?_
  refine J_icmp_ge 132 o dX11_repair_75 (by decide) r_x2 r_x1 (fun c1 => ?_) (fun c2 => ?_)
  · have hf := ite_t c1 hf
    have hf := bl_out hf
    refine J_iinc o dX11_repair_132 rfl ?_
    refine J_goto 63 o dX11_repair_135 (by decide) ?_
    have hf := some_inj hf
    subst hf
    exact hc (R_wr _) _
  · have hf := ite_f c2 hf
    refine J_aload_n o dX11_repair_78 rfl ?_
    refine J_iload_n o dX11_repair_79 rfl ?_
    refine J_aload_n o dX11_repair_80 rfl ?_
    refine J_getI o g dX11_repair_81 flX11_131 kB_1 rfl (fun q4 => ?_)
    refine J_iconst o dX11_repair_84 ?_
    obtain ⟨v6, e5, hf⟩ := bnd_some hf
    refine J_vI o g kr dX11_repair_85 lkX11_224 ml_Re_holdsIn vl_Re_holdsIn ⟨rfl, rfl, Nat.le_of_ble_eq_true rfl, Nat.le_of_ble_eq_true rfl⟩ (c_Re_holdsIn g.2.1 r_x1 q4 rl0 e5) kB_1 rfl ⟨by decide, by decide⟩ rfl rfl c1s_0 (fun q7 => ?_)
    refine J_if_eq 126 o dX11_repair_88 (by decide) q7 (fun c8 => ?_) (fun c9 => ?_)
    · have hf := ite_t c8 hf
      exact t_Re_repair_126 k r_x1 r_x2 hf hc
    · have hf := ite_f c9 hf
      refine J_aload_n o dX11_repair_91 rfl ?_
      refine J_iload_n o dX11_repair_92 rfl ?_
      refine J_aload_n o dX11_repair_93 rfl ?_
      refine J_getI o g dX11_repair_94 flX11_131 kB_1 rfl (fun q10 => ?_)
      refine J_iconst o dX11_repair_97 ?_
      obtain ⟨v12, e11, hf⟩ := bnd_some hf
      refine J_vI o g kr dX11_repair_98 lkX11_224 ml_Re_holdsIn vl_Re_holdsIn ⟨rfl, rfl, Nat.le_of_ble_eq_true rfl, Nat.le_of_ble_eq_true rfl⟩ (c_Re_holdsIn g.2.1 r_x2 q10 rl0 e11) kB_1 rfl ⟨by decide, by decide⟩ rfl rfl c1s_0 (fun q13 => ?_)
      refine J_if_eq 126 o dX11_repair_101 (by decide) q13 (fun c14 => ?_) (fun c15 => ?_)
      · have hf := ite_t c14 hf
        exact t_Re_repair_126 k r_x1 r_x2 hf hc
      · have hf := ite_f c15 hf
        refine J_aload_n o dX11_repair_104 rfl ?_
        refine J_iconst o dX11_repair_105 ?_
        refine J_iload_n o dX11_repair_106 rfl ?_
        refine J_ishl o dX11_repair_107 ?_
        refine J_iconst o dX11_repair_108 ?_
        refine J_iload_n o dX11_repair_109 rfl ?_
        refine J_ishl o dX11_repair_110 ?_
        refine J_ior o dX11_repair_111 ?_
        obtain ⟨v17, e16, hf⟩ := bnd_some hf
        refine J_vI o g kr dX11_repair_112 lkX11_283 ml_Re_repairs vl_Re_repairs ⟨rfl, rfl, Nat.le_of_ble_eq_true rfl, Nat.le_of_ble_eq_true rfl⟩ (c_Re_repairs g.2.1 (R_ior _ _) e16) kB_1 rfl ⟨by decide, by decide⟩ rfl rfl c1s_0 (fun q18 => ?_)
        refine J_if_eq 126 o dX11_repair_115 (by decide) q18 (fun c19 => ?_) (fun c20 => ?_)
        · have hf := ite_t c19 hf
          exact t_Re_repair_126 k r_x1 r_x2 hf hc
        · have hf := ite_f c20 hf
          refine J_iconst o dX11_repair_118 ?_
          refine J_iload_n o dX11_repair_119 rfl ?_
          refine J_ishl o dX11_repair_120 ?_
          refine J_iconst o dX11_repair_121 ?_
          refine J_iload_n o dX11_repair_122 rfl ?_
          refine J_ishl o dX11_repair_123 ?_
          refine J_ior o dX11_repair_124 ?_
          have hf := some_inj hf
          subst hf
          exact hc _ _ (R_ior _ _) dX11_repair_125
noncomputable def f_Re_repair_73 (w : World) (x1 : Int) (x2 : Int) : Option ((World × Int) ⊕ (World × Int)) :=
  lp (fun z : (World × Int) => f_Re_repair_73B z.1 x1 z.2) (w, x2)
theorem t_Re_repair_73 {E : EE} {K : KT} {l : Launch} {H0 : Heap} (k : Kof TB E K l cX11_repair RX11 rm_Re_repair) {w : World} {x1 : Int} {x2 : Int} (r_x1 : R32 x1) {out : ((World × Int) ⊕ (World × Int))} (hf : f_Re_repair_73 w x1 x2 = some out) (hc : (Sum.elim (HW_Re_repair_63 E K H0 ) (fun out : (World × Int) => RetI TB E K H0 cX11_repair out.1 out.2)) out) : HW_Re_repair_73 E K H0 x1 (w, x2) := by
  unfold f_Re_repair_73 at hf
  refine lp_ind (P := HW_Re_repair_73 E K H0 x1) hf ?_
  intro z o hs h1 h2
  intro r_x2
  refine t_Re_repair_73B k r_x1 r_x2 hs ?_
  cases o with
  | inl z' => exact h1 z' rfl
  | inr r' => rw [h2 r' rfl]; exact hc
noncomputable def f_Re_repair_63B (w : World) (x1 : Int) : Option ((World × Int) ⊕ (World × Int)) :=
  if (w 1 7) ≤ x1 then (some (Sum.inr (w, (-1)))) else (f_Re_repair_73 w x1 0)
theorem t_Re_repair_63B {E : EE} {K : KT} {l : Launch} {H0 : Heap} (k : Kof TB E K l cX11_repair RX11 rm_Re_repair) {w : World} {x1 : Int} {o2 : Option Value} (r_x1 : R32 x1) {out : ((World × Int) ⊕ (World × Int))} (hf : f_Re_repair_63B w x1 = some out) (hc : (Sum.elim (HW_Re_repair_63 E K H0 ) (fun out : (World × Int) => RetI TB E K H0 cX11_repair out.1 out.2)) out) : Jj K (WdT TB E H0) w 63 [some (rf E.ad 1), some (.int (ii x1)), o2] [] := by
  unfold f_Re_repair_63B at hf
  have o := k.1
  have g := k.2.1
  have kr := k.2.2.1
  refine J_iload_n o dX11_repair_63 rfl ?_
  refine J_aload_n o dX11_repair_64 rfl ?_
  refine J_getI o g dX11_repair_65 flX11_124 kB_1 rfl (fun q1 => ?_)
  refine J_icmp_ge 138 o dX11_repair_68 (by decide) r_x1 q1 (fun c2 => ?_) (fun c3 => ?_)
  · have hf := ite_t c2 hf
    refine J_iconst o dX11_repair_138 ?_
    have hf := some_inj hf
    subst hf
    exact hc _ _ rlm1 dX11_repair_139
  · have hf := ite_f c3 hf
    refine J_iconst o dX11_repair_71 ?_
    refine J_istore_n o dX11_repair_72 (Nat.le_of_ble_eq_true rfl) ?_
    exact (t_Re_repair_73 k r_x1 hf hc) rl0 
noncomputable def f_Re_repair_63 (w : World) (x1 : Int) : Option (World × Int) :=
  lp (fun z : (World × Int) => f_Re_repair_63B z.1 z.2) (w, x1)
theorem t_Re_repair_63 {E : EE} {K : KT} {l : Launch} {H0 : Heap} (k : Kof TB E K l cX11_repair RX11 rm_Re_repair) {w : World} {x1 : Int}  {out : (World × Int)} (hf : f_Re_repair_63 w x1 = some out) (hc : (fun out : (World × Int) => RetI TB E K H0 cX11_repair out.1 out.2) out) : HW_Re_repair_63 E K H0  (w, x1) := by
  unfold f_Re_repair_63 at hf
  refine lp_ind (P := HW_Re_repair_63 E K H0 ) hf ?_
  intro z o hs h1 h2
  intro r_x1
  intro o2
  refine t_Re_repair_63B k r_x1 hs ?_
  cases o with
  | inl z' => exact h1 z' rfl
  | inr r' => rw [h2 r' rfl]; exact hc
noncomputable def f_Re_repair_55 (w : World) (x1 : Int) : Option ((World × Int) ⊕ (World × Int)) :=
  bl (wr (x1 + 1)) fun n1 => some (Sum.inl (w, n1))
theorem t_Re_repair_55 {E : EE} {K : KT} {l : Launch} {H0 : Heap} (k : Kof TB E K l cX11_repair RX11 rm_Re_repair) {w : World} {x1 : Int} {o2 : Option Value} (r_x1 : R32 x1) {out : ((World × Int) ⊕ (World × Int))} (hf : f_Re_repair_55 w x1 = some out) (hc : (Sum.elim (HW_Re_repair_20 E K H0 ) (fun out : (World × Int) => RetI TB E K H0 cX11_repair out.1 out.2)) out) : Jj K (WdT TB E H0) w 55 [some (rf E.ad 1), some (.int (ii x1)), o2] [] := by
  unfold f_Re_repair_55 at hf
  have o := k.1
  have g := k.2.1
  have kr := k.2.2.1
  have hf := bl_out hf
  refine J_iinc o dX11_repair_55 rfl ?_
  refine J_goto 20 o dX11_repair_58 (by decide) ?_
  have hf := some_inj hf
  subst hf
  exact hc (R_wr _) _
noncomputable def f_Re_repair_20B (w : World) (x1 : Int) : Option ((World × Int) ⊕ (World × Int)) :=
  if (w 1 7) ≤ x1 then (bnd (f_Re_repair_63 w 0) fun y4 => some (Sum.inr y4)) else (bnd (f_Re_holdsIn w x1 (w 1 1) 0) fun v7 => if v7 = 0 then (f_Re_repair_55 w x1) else (bnd (f_Re_repairs w (ishl 1 x1)) fun v12 => if v12.2 = 0 then (f_Re_repair_55 v12.1 x1) else (some (Sum.inr (v12.1, ishl 1 x1)))))
theorem t_Re_repair_20B {E : EE} {K : KT} {l : Launch} {H0 : Heap} (k : Kof TB E K l cX11_repair RX11 rm_Re_repair) {w : World} {x1 : Int} {o2 : Option Value} (r_x1 : R32 x1) {out : ((World × Int) ⊕ (World × Int))} (hf : f_Re_repair_20B w x1 = some out) (hc : (Sum.elim (HW_Re_repair_20 E K H0 ) (fun out : (World × Int) => RetI TB E K H0 cX11_repair out.1 out.2)) out) : Jj K (WdT TB E H0) w 20 [some (rf E.ad 1), some (.int (ii x1)), o2] [] := by
  unfold f_Re_repair_20B at hf
  have o := k.1
  have g := k.2.1
  have kr := k.2.2.1
  refine J_iload_n o dX11_repair_20 rfl ?_
  refine J_aload_n o dX11_repair_21 rfl ?_
  refine J_getI o g dX11_repair_22 flX11_124 kB_1 rfl (fun q1 => ?_)
  refine J_icmp_ge 61 o dX11_repair_25 (by decide) r_x1 q1 (fun c2 => ?_) (fun c3 => ?_)
  · have hf := ite_t c2 hf
    refine J_iconst o dX11_repair_61 ?_
    refine J_istore_n o dX11_repair_62 (Nat.le_of_ble_eq_true rfl) ?_
    obtain ⟨y4, hf1, hf⟩ := bnd_some hf
    have hf := some_inj hf
    subst hf
    exact (t_Re_repair_63 k  hf1 hc) rl0 _
  · have hf := ite_f c3 hf
    refine J_aload_n o dX11_repair_28 rfl ?_
    refine J_iload_n o dX11_repair_29 rfl ?_
    refine J_aload_n o dX11_repair_30 rfl ?_
    refine J_getI o g dX11_repair_31 flX11_131 kB_1 rfl (fun q5 => ?_)
    refine J_iconst o dX11_repair_34 ?_
    obtain ⟨v7, e6, hf⟩ := bnd_some hf
    refine J_vI o g kr dX11_repair_35 lkX11_224 ml_Re_holdsIn vl_Re_holdsIn ⟨rfl, rfl, Nat.le_of_ble_eq_true rfl, Nat.le_of_ble_eq_true rfl⟩ (c_Re_holdsIn g.2.1 r_x1 q5 rl0 e6) kB_1 rfl ⟨by decide, by decide⟩ rfl rfl c1s_0 (fun q8 => ?_)
    refine J_if_eq 55 o dX11_repair_38 (by decide) q8 (fun c9 => ?_) (fun c10 => ?_)
    · have hf := ite_t c9 hf
      exact t_Re_repair_55 k r_x1 hf hc
    · have hf := ite_f c10 hf
      refine J_aload_n o dX11_repair_41 rfl ?_
      refine J_iconst o dX11_repair_42 ?_
      refine J_iload_n o dX11_repair_43 rfl ?_
      refine J_ishl o dX11_repair_44 ?_
      obtain ⟨v12, e11, hf⟩ := bnd_some hf
      refine J_vI o g kr dX11_repair_45 lkX11_283 ml_Re_repairs vl_Re_repairs ⟨rfl, rfl, Nat.le_of_ble_eq_true rfl, Nat.le_of_ble_eq_true rfl⟩ (c_Re_repairs g.2.1 (R_ishl _ _) e11) kB_1 rfl ⟨by decide, by decide⟩ rfl rfl c1s_0 (fun q13 => ?_)
      refine J_if_eq 55 o dX11_repair_48 (by decide) q13 (fun c14 => ?_) (fun c15 => ?_)
      · have hf := ite_t c14 hf
        exact t_Re_repair_55 k r_x1 hf hc
      · have hf := ite_f c15 hf
        refine J_iconst o dX11_repair_51 ?_
        refine J_iload_n o dX11_repair_52 rfl ?_
        refine J_ishl o dX11_repair_53 ?_
        have hf := some_inj hf
        subst hf
        exact hc _ _ (R_ishl _ _) dX11_repair_54
noncomputable def f_Re_repair_20 (w : World) (x1 : Int) : Option (World × Int) :=
  lp (fun z : (World × Int) => f_Re_repair_20B z.1 z.2) (w, x1)
theorem t_Re_repair_20 {E : EE} {K : KT} {l : Launch} {H0 : Heap} (k : Kof TB E K l cX11_repair RX11 rm_Re_repair) {w : World} {x1 : Int}  {out : (World × Int)} (hf : f_Re_repair_20 w x1 = some out) (hc : (fun out : (World × Int) => RetI TB E K H0 cX11_repair out.1 out.2) out) : HW_Re_repair_20 E K H0  (w, x1) := by
  unfold f_Re_repair_20 at hf
  refine lp_ind (P := HW_Re_repair_20 E K H0 ) hf ?_
  intro z o hs h1 h2
  intro r_x1
  intro o2
  refine t_Re_repair_20B k r_x1 hs ?_
  cases o with
  | inl z' => exact h1 z' rfl
  | inr r' => rw [h2 r' rfl]; exact hc
noncomputable def f_Re_repair (w : World) : Option (World × Int) :=
  bl (up w 1 0 0) fun w1 => bnd (f_Re_brokenIn w1 (w1 1 1)) fun v4 => if v4.2 = 0 then (some (v4.1, 0)) else (f_Re_repair_20 v4.1 0)
theorem t_Re_repair_0 {E : EE} {K : KT} {l : Launch} {H0 : Heap} (k : Kof TB E K l cX11_repair RX11 rm_Re_repair) {w : World} {o1 o2 : Option Value}  {out : (World × Int)} (hf : f_Re_repair w = some out) (hc : (fun out : (World × Int) => RetI TB E K H0 cX11_repair out.1 out.2) out) : Jj K (WdT TB E H0) w 0 [some (rf E.ad 1), o1, o2] [] := by
  unfold f_Re_repair at hf
  have o := k.1
  have g := k.2.1
  have kr := k.2.2.1
  refine J_aload_n o dX11_repair_0 rfl ?_
  refine J_iconst o dX11_repair_1 ?_
  refine J_putI o g dX11_repair_2 fpX11_98 kB_1 rfl rfl rl0 ?_
  have hf := bl_out hf
  refine J_aload_n o dX11_repair_5 rfl ?_
  refine J_aload_n o dX11_repair_6 rfl ?_
  refine J_getI o g dX11_repair_7 flX11_131 kB_1 rfl (fun q2 => ?_)
  obtain ⟨v4, e3, hf⟩ := bnd_some hf
  refine J_vI o g kr dX11_repair_10 lkX11_280 ml_Re_brokenIn vl_Re_brokenIn ⟨rfl, rfl, Nat.le_of_ble_eq_true rfl, Nat.le_of_ble_eq_true rfl⟩ (c_Re_brokenIn g.2.1 q2 e3) kB_1 rfl ⟨by decide, by decide⟩ rfl rfl c1s_0 (fun q5 => ?_)
  refine J_if_ne 18 o dX11_repair_13 (by decide) q5 (fun c6 => ?_) (fun c7 => ?_)
  · have hf := ite_f c6 hf
    refine J_iconst o dX11_repair_18 ?_
    refine J_istore_n o dX11_repair_19 (Nat.le_of_ble_eq_true rfl) ?_
    exact (t_Re_repair_20 k  hf hc) rl0 _
  · have hf := ite_t c7 hf
    refine J_iconst o dX11_repair_16 ?_
    have hf := some_inj hf
    subst hf
    exact hc _ _ rl0 dX11_repair_17
theorem c_Re_repair {E : EE} {l : Launch} (hI : Inj TB E) {w : World}  {out : (World × Int)} (hf : f_Re_repair w = some out) : ConI TB E l yX11_repair (WS yX11_repair cX11_repair 3 (some .int)) rm_Re_repair [rf E.ad 1] w out.1 out.2 :=
  con_I (by decide +kernel) rfl (Nat.le_of_ble_eq_true rfl) (c1s_r c1s_0 (Nat.le_of_ble_eq_true rfl)).1 ⟨rfl, rfl⟩ hI TnB (fun K H0 k hret => t_Re_repair_0 k  hf hret)
abbrev rm_Re_ask : Room := { frames := 1, cells := 0, slots := 0, locals := 24 }
def HW_Re_ask_92 (E : EE) (K : KT) (H0 : Heap) (w : World) (x1 : Int) (x6 : Int) (x7 : Int) (x8 : Int) : (Int × Int) → Prop := fun z => R32 z.1 → R32 z.2 → ∀ o2 o3 o4 o5 : Option Value, Jj K (WdT TB E H0) w 92 [some (rf E.ad 1), some (.int (ii x1)), o2, o3, o4, o5, some (.int (ii x6)), some (.int (ii x7)), some (.int (ii x8)), some (.int (ii z.1)), some (.int (ii z.2))] []
noncomputable def f_Re_ask_168 (w : World) (x1 : Int) (x6 : Int) (x7 : Int) (x8 : Int) (x10 : Int) (s0 : Int) : Option ((Int × Int) ⊕ World) :=
  bl (wr (x10 + 1)) fun n1 => some (Sum.inl (s0, n1))
theorem t_Re_ask_168 {E : EE} {K : KT} {l : Launch} {H0 : Heap} (k : Kof TB E K l cX11_ask RX11 rm_Re_ask) {w : World} {x1 : Int} {x6 : Int} {x7 : Int} {x8 : Int} {x10 : Int} {s0 : Int} {o2 o3 o4 o5 o9 : Option Value} (r_x1 : R32 x1) (r_x6 : R32 x6) (r_x7 : R32 x7) (r_x8 : R32 x8) (r_x10 : R32 x10) (r_s0 : R32 s0) {out : ((Int × Int) ⊕ World)} (hf : f_Re_ask_168 w x1 x6 x7 x8 x10 s0 = some out) (hc : (Sum.elim (HW_Re_ask_92 E K H0 w x1 x6 x7 x8) (fun out : World => RetV TB E K H0 cX11_ask out)) out) : Jj K (WdT TB E H0) w 168 [some (rf E.ad 1), some (.int (ii x1)), o2, o3, o4, o5, some (.int (ii x6)), some (.int (ii x7)), some (.int (ii x8)), o9, some (.int (ii x10))] [.int (ii s0)] := by
  unfold f_Re_ask_168 at hf
  have o := k.1
  have g := k.2.1
  have kr := k.2.2.1
  refine J_istore o dX11_ask_168 (Nat.le_of_ble_eq_true rfl) ?_
  have hf := bl_out hf
  refine J_iinc o dX11_ask_170 rfl ?_
  refine J_goto 92 o dX11_ask_173 (by decide) ?_
  have hf := some_inj hf
  subst hf
  exact hc r_s0 (R_wr _) _ _ _ _
noncomputable def f_Re_ask_163 (w : World) (x1 : Int) (x6 : Int) (x7 : Int) (x8 : Int) (x10 : Int) : Option ((Int × Int) ⊕ World) :=
  f_Re_ask_168 w x1 x6 x7 x8 x10 1
theorem t_Re_ask_163 {E : EE} {K : KT} {l : Launch} {H0 : Heap} (k : Kof TB E K l cX11_ask RX11 rm_Re_ask) {w : World} {x1 : Int} {x6 : Int} {x7 : Int} {x8 : Int} {x10 : Int} {o2 o3 o4 o5 o9 : Option Value} (r_x1 : R32 x1) (r_x6 : R32 x6) (r_x7 : R32 x7) (r_x8 : R32 x8) (r_x10 : R32 x10) {out : ((Int × Int) ⊕ World)} (hf : f_Re_ask_163 w x1 x6 x7 x8 x10 = some out) (hc : (Sum.elim (HW_Re_ask_92 E K H0 w x1 x6 x7 x8) (fun out : World => RetV TB E K H0 cX11_ask out)) out) : Jj K (WdT TB E H0) w 163 [some (rf E.ad 1), some (.int (ii x1)), o2, o3, o4, o5, some (.int (ii x6)), some (.int (ii x7)), some (.int (ii x8)), o9, some (.int (ii x10))] [] := by
  unfold f_Re_ask_163 at hf
  have o := k.1
  have g := k.2.1
  have kr := k.2.2.1
  refine J_iconst o dX11_ask_163 ?_
  refine J_goto 168 o dX11_ask_164 (by decide) ?_
  exact t_Re_ask_168 k r_x1 r_x6 r_x7 r_x8 r_x10 rl1 hf hc
noncomputable def f_Re_ask_167 (w : World) (x1 : Int) (x6 : Int) (x7 : Int) (x8 : Int) (x10 : Int) : Option ((Int × Int) ⊕ World) :=
  f_Re_ask_168 w x1 x6 x7 x8 x10 0
theorem t_Re_ask_167 {E : EE} {K : KT} {l : Launch} {H0 : Heap} (k : Kof TB E K l cX11_ask RX11 rm_Re_ask) {w : World} {x1 : Int} {x6 : Int} {x7 : Int} {x8 : Int} {x10 : Int} {o2 o3 o4 o5 o9 : Option Value} (r_x1 : R32 x1) (r_x6 : R32 x6) (r_x7 : R32 x7) (r_x8 : R32 x8) (r_x10 : R32 x10) {out : ((Int × Int) ⊕ World)} (hf : f_Re_ask_167 w x1 x6 x7 x8 x10 = some out) (hc : (Sum.elim (HW_Re_ask_92 E K H0 w x1 x6 x7 x8) (fun out : World => RetV TB E K H0 cX11_ask out)) out) : Jj K (WdT TB E H0) w 167 [some (rf E.ad 1), some (.int (ii x1)), o2, o3, o4, o5, some (.int (ii x6)), some (.int (ii x7)), some (.int (ii x8)), o9, some (.int (ii x10))] [] := by
  unfold f_Re_ask_167 at hf
  have o := k.1
  have g := k.2.1
  have kr := k.2.2.1
  refine J_iconst o dX11_ask_167 ?_
  exact t_Re_ask_168 k r_x1 r_x6 r_x7 r_x8 r_x10 rl0 hf hc
noncomputable def f_Re_ask_92B (w : World) (x1 : Int) (x6 : Int) (x7 : Int) (x8 : Int) (x9 : Int) (x10 : Int) : Option ((Int × Int) ⊕ World) :=
  if (w 1 32) ≤ x10 then (if x9 = 0 then (if 400 ≤ (w 1 32) then (some (Sum.inr w)) else (gd (0 ≤ w 1 32 ∧ w 1 32 < 400) (bl (up w 27 (w 1 32).toNat x1) fun w11 => gd (0 ≤ wr (3 * (w11 1 32)) ∧ wr (3 * (w11 1 32)) < 1200) (bl (up w11 28 (wr (3 * (w11 1 32))).toNat x6) fun w14 => gd (0 ≤ wr ((wr (3 * (w14 1 32))) + 1) ∧ wr ((wr (3 * (w14 1 32))) + 1) < 1200) (bl (up w14 28 (wr ((wr (3 * (w14 1 32))) + 1)).toNat x7) fun w17 => gd (0 ≤ wr ((wr (3 * (w17 1 32))) + 2) ∧ wr ((wr (3 * (w17 1 32))) + 2) < 1200) (bl (up w17 28 (wr ((wr (3 * (w17 1 32))) + 2)).toNat x8) fun w20 => bl (up w20 1 32 (wr ((w20 1 32) + 1))) fun w22 => some (Sum.inr w22))))))) else (some (Sum.inr w))) else (if x9 = 0 then (gd (0 ≤ x10 ∧ x10 < 400) (if (w 27 x10.toNat) = x1 then (gd (0 ≤ wr (3 * x10) ∧ wr (3 * x10) < 1200) (if (w 28 (wr (3 * x10)).toNat) = x6 then (gd (0 ≤ wr ((wr (3 * x10)) + 1) ∧ wr ((wr (3 * x10)) + 1) < 1200) (if (w 28 (wr ((wr (3 * x10)) + 1)).toNat) = x7 then (gd (0 ≤ wr ((wr (3 * x10)) + 2) ∧ wr ((wr (3 * x10)) + 2) < 1200) (if (w 28 (wr ((wr (3 * x10)) + 2)).toNat) = x8 then (f_Re_ask_163 w x1 x6 x7 x8 x10) else (f_Re_ask_167 w x1 x6 x7 x8 x10))) else (f_Re_ask_167 w x1 x6 x7 x8 x10))) else (f_Re_ask_167 w x1 x6 x7 x8 x10))) else (f_Re_ask_167 w x1 x6 x7 x8 x10))) else (f_Re_ask_163 w x1 x6 x7 x8 x10))
theorem t_Re_ask_92B {E : EE} {K : KT} {l : Launch} {H0 : Heap} (k : Kof TB E K l cX11_ask RX11 rm_Re_ask) {w : World} {x1 : Int} {x6 : Int} {x7 : Int} {x8 : Int} {x9 : Int} {x10 : Int} {o2 o3 o4 o5 : Option Value} (r_x1 : R32 x1) (r_x6 : R32 x6) (r_x7 : R32 x7) (r_x8 : R32 x8) (r_x9 : R32 x9) (r_x10 : R32 x10) {out : ((Int × Int) ⊕ World)} (hf : f_Re_ask_92B w x1 x6 x7 x8 x9 x10 = some out) (hc : (Sum.elim (HW_Re_ask_92 E K H0 w x1 x6 x7 x8) (fun out : World => RetV TB E K H0 cX11_ask out)) out) : Jj K (WdT TB E H0) w 92 [some (rf E.ad 1), some (.int (ii x1)), o2, o3, o4, o5, some (.int (ii x6)), some (.int (ii x7)), some (.int (ii x8)), some (.int (ii x9)), some (.int (ii x10))] [] := by
  unfold f_Re_ask_92B at hf
  have o := k.1
  have g := k.2.1
  have kr := k.2.2.1
  refine J_iload o dX11_ask_92 rfl ?_
  refine J_aload_n o dX11_ask_94 rfl ?_
  refine J_getI o g dX11_ask_95 flX11_286 kB_1 rfl (fun q1 => ?_)
  refine J_icmp_ge 176 o dX11_ask_98 (by decide) r_x10 q1 (fun c2 => ?_) (fun c3 => ?_)
  · have hf := ite_t c2 hf
    refine J_iload o dX11_ask_176 rfl ?_
    refine J_if_ne 254 o dX11_ask_178 (by decide) r_x9 (fun c4 => ?_) (fun c5 => ?_)
    · have hf := ite_f c4 hf
      have hf := some_inj hf
      subst hf
      exact hc _ _  dX11_ask_254
    · have hf := ite_t c5 hf
      refine J_aload_n o dX11_ask_181 rfl ?_
      refine J_getI o g dX11_ask_182 flX11_286 kB_1 rfl (fun q6 => ?_)
      refine J_sipush o dX11_ask_185 (by decide) ?_
      refine J_icmp_ge 254 o dX11_ask_188 (by decide) q6 rl400 (fun c7 => ?_) (fun c8 => ?_)
      · have hf := ite_t c7 hf
        have hf := some_inj hf
        subst hf
        exact hc _ _  dX11_ask_254
      · have hf := ite_f c8 hf
        refine J_aload_n o dX11_ask_191 rfl ?_
        refine J_getF (true, 27) o g dX11_ask_192 flX11_86 kB_1 rfl rfl rfl ?_
        refine J_aload_n o dX11_ask_195 rfl ?_
        refine J_getI o g dX11_ask_196 flX11_286 kB_1 rfl (fun q9 => ?_)
        refine J_iload_n o dX11_ask_199 rfl ?_
        obtain ⟨g10, hf⟩ := gd_some hf
        refine J_iast o g dX11_ask_200 kB_27 (fxB_40 _) q9 zB_27 g10 r_x1 ?_
        have hf := bl_out hf
        refine J_aload_n o dX11_ask_201 rfl ?_
        refine J_getF (true, 28) o g dX11_ask_202 flX11_89 kB_1 rfl rfl rfl ?_
        refine J_iconst o dX11_ask_205 ?_
        refine J_aload_n o dX11_ask_206 rfl ?_
        refine J_getI o g dX11_ask_207 flX11_286 kB_1 rfl (fun q12 => ?_)
        refine J_imul o dX11_ask_210 ?_
        refine J_iload o dX11_ask_211 rfl ?_
        obtain ⟨g13, hf⟩ := gd_some hf
        refine J_iast o g dX11_ask_213 kB_28 (fxB_40 _) (R_wr _) zB_28 g13 r_x6 ?_
        have hf := bl_out hf
        refine J_aload_n o dX11_ask_214 rfl ?_
        refine J_getF (true, 28) o g dX11_ask_215 flX11_89 kB_1 rfl rfl rfl ?_
        refine J_iconst o dX11_ask_218 ?_
        refine J_aload_n o dX11_ask_219 rfl ?_
        refine J_getI o g dX11_ask_220 flX11_286 kB_1 rfl (fun q15 => ?_)
        refine J_imul o dX11_ask_223 ?_
        refine J_iconst o dX11_ask_224 ?_
        refine J_iadd o dX11_ask_225 ?_
        refine J_iload o dX11_ask_226 rfl ?_
        obtain ⟨g16, hf⟩ := gd_some hf
        refine J_iast o g dX11_ask_228 kB_28 (fxB_40 _) (R_wr _) zB_28 g16 r_x7 ?_
        have hf := bl_out hf
        refine J_aload_n o dX11_ask_229 rfl ?_
        refine J_getF (true, 28) o g dX11_ask_230 flX11_89 kB_1 rfl rfl rfl ?_
        refine J_iconst o dX11_ask_233 ?_
        refine J_aload_n o dX11_ask_234 rfl ?_
        refine J_getI o g dX11_ask_235 flX11_286 kB_1 rfl (fun q18 => ?_)
        refine J_imul o dX11_ask_238 ?_
        refine J_iconst o dX11_ask_239 ?_
        refine J_iadd o dX11_ask_240 ?_
        refine J_iload o dX11_ask_241 rfl ?_
        obtain ⟨g19, hf⟩ := gd_some hf
        refine J_iast o g dX11_ask_243 kB_28 (fxB_40 _) (R_wr _) zB_28 g19 r_x8 ?_
        have hf := bl_out hf
        refine J_aload_n o dX11_ask_244 rfl ?_
        refine J_dup o dX11_ask_245 rf_cat ?_
        refine J_getI o g dX11_ask_246 flX11_286 kB_1 rfl (fun q21 => ?_)
        refine J_iconst o dX11_ask_249 ?_
        refine J_iadd o dX11_ask_250 ?_
        refine J_putI o g dX11_ask_251 fpX11_286 kB_1 rfl rfl (R_wr _) ?_
        have hf := bl_out hf
        have hf := some_inj hf
        subst hf
        exact hc _ _  dX11_ask_254
  · have hf := ite_f c3 hf
    refine J_iload o dX11_ask_101 rfl ?_
    refine J_if_ne 163 o dX11_ask_103 (by decide) r_x9 (fun c23 => ?_) (fun c24 => ?_)
    · have hf := ite_f c23 hf
      exact t_Re_ask_163 k r_x1 r_x6 r_x7 r_x8 r_x10 hf hc
    · have hf := ite_t c24 hf
      refine J_aload_n o dX11_ask_106 rfl ?_
      refine J_getF (true, 27) o g dX11_ask_107 flX11_86 kB_1 rfl rfl rfl ?_
      refine J_iload o dX11_ask_110 rfl ?_
      obtain ⟨g25, hf⟩ := gd_some hf
      refine J_iald o g dX11_ask_112 kB_27 r_x10 zB_27 g25 (fun q26 => ?_)
      refine J_iload_n o dX11_ask_113 rfl ?_
      refine J_icmp_ne 167 o dX11_ask_114 (by decide) q26 r_x1 (fun c27 => ?_) (fun c28 => ?_)
      · have hf := ite_f c27 hf
        exact t_Re_ask_167 k r_x1 r_x6 r_x7 r_x8 r_x10 hf hc
      · have hf := ite_t c28 hf
        refine J_aload_n o dX11_ask_117 rfl ?_
        refine J_getF (true, 28) o g dX11_ask_118 flX11_89 kB_1 rfl rfl rfl ?_
        refine J_iconst o dX11_ask_121 ?_
        refine J_iload o dX11_ask_122 rfl ?_
        refine J_imul o dX11_ask_124 ?_
        obtain ⟨g29, hf⟩ := gd_some hf
        refine J_iald o g dX11_ask_125 kB_28 (R_wr _) zB_28 g29 (fun q30 => ?_)
        refine J_iload o dX11_ask_126 rfl ?_
        refine J_icmp_ne 167 o dX11_ask_128 (by decide) q30 r_x6 (fun c31 => ?_) (fun c32 => ?_)
        · have hf := ite_f c31 hf
          exact t_Re_ask_167 k r_x1 r_x6 r_x7 r_x8 r_x10 hf hc
        · have hf := ite_t c32 hf
          refine J_aload_n o dX11_ask_131 rfl ?_
          refine J_getF (true, 28) o g dX11_ask_132 flX11_89 kB_1 rfl rfl rfl ?_
          refine J_iconst o dX11_ask_135 ?_
          refine J_iload o dX11_ask_136 rfl ?_
          refine J_imul o dX11_ask_138 ?_
          refine J_iconst o dX11_ask_139 ?_
          refine J_iadd o dX11_ask_140 ?_
          obtain ⟨g33, hf⟩ := gd_some hf
          refine J_iald o g dX11_ask_141 kB_28 (R_wr _) zB_28 g33 (fun q34 => ?_)
          refine J_iload o dX11_ask_142 rfl ?_
          refine J_icmp_ne 167 o dX11_ask_144 (by decide) q34 r_x7 (fun c35 => ?_) (fun c36 => ?_)
          · have hf := ite_f c35 hf
            exact t_Re_ask_167 k r_x1 r_x6 r_x7 r_x8 r_x10 hf hc
          · have hf := ite_t c36 hf
            refine J_aload_n o dX11_ask_147 rfl ?_
            refine J_getF (true, 28) o g dX11_ask_148 flX11_89 kB_1 rfl rfl rfl ?_
            refine J_iconst o dX11_ask_151 ?_
            refine J_iload o dX11_ask_152 rfl ?_
            refine J_imul o dX11_ask_154 ?_
            refine J_iconst o dX11_ask_155 ?_
            refine J_iadd o dX11_ask_156 ?_
            obtain ⟨g37, hf⟩ := gd_some hf
            refine J_iald o g dX11_ask_157 kB_28 (R_wr _) zB_28 g37 (fun q38 => ?_)
            refine J_iload o dX11_ask_158 rfl ?_
            refine J_icmp_ne 167 o dX11_ask_160 (by decide) q38 r_x8 (fun c39 => ?_) (fun c40 => ?_)
            · have hf := ite_f c39 hf
              exact t_Re_ask_167 k r_x1 r_x6 r_x7 r_x8 r_x10 hf hc
            · have hf := ite_t c40 hf
              exact t_Re_ask_163 k r_x1 r_x6 r_x7 r_x8 r_x10 hf hc
noncomputable def f_Re_ask_92 (w : World) (x1 : Int) (x6 : Int) (x7 : Int) (x8 : Int) (x9 : Int) (x10 : Int) : Option World :=
  lp (fun z : (Int × Int) => f_Re_ask_92B w x1 x6 x7 x8 z.1 z.2) (x9, x10)
theorem t_Re_ask_92 {E : EE} {K : KT} {l : Launch} {H0 : Heap} (k : Kof TB E K l cX11_ask RX11 rm_Re_ask) {w : World} {x1 : Int} {x6 : Int} {x7 : Int} {x8 : Int} {x9 : Int} {x10 : Int} (r_x1 : R32 x1) (r_x6 : R32 x6) (r_x7 : R32 x7) (r_x8 : R32 x8) {out : World} (hf : f_Re_ask_92 w x1 x6 x7 x8 x9 x10 = some out) (hc : (fun out : World => RetV TB E K H0 cX11_ask out) out) : HW_Re_ask_92 E K H0 w x1 x6 x7 x8 (x9, x10) := by
  unfold f_Re_ask_92 at hf
  refine lp_ind (P := HW_Re_ask_92 E K H0 w x1 x6 x7 x8) hf ?_
  intro z o hs h1 h2
  intro r_x9 r_x10
  intro o2 o3 o4 o5
  refine t_Re_ask_92B k r_x1 r_x6 r_x7 r_x8 r_x9 r_x10 hs ?_
  cases o with
  | inl z' => exact h1 z' rfl
  | inr r' => rw [h2 r' rfl]; exact hc
noncomputable def f_Re_ask_84 (w : World) (x1 : Int) (x6 : Int) (x7 : Int) (s0 : Int) : Option World :=
  f_Re_ask_92 w x1 x6 x7 s0 0 0
theorem t_Re_ask_84 {E : EE} {K : KT} {l : Launch} {H0 : Heap} (k : Kof TB E K l cX11_ask RX11 rm_Re_ask) {w : World} {x1 : Int} {x6 : Int} {x7 : Int} {s0 : Int} {o2 o3 o4 o5 o8 o9 o10 : Option Value} (r_x1 : R32 x1) (r_x6 : R32 x6) (r_x7 : R32 x7) (r_s0 : R32 s0) {out : World} (hf : f_Re_ask_84 w x1 x6 x7 s0 = some out) (hc : (fun out : World => RetV TB E K H0 cX11_ask out) out) : Jj K (WdT TB E H0) w 84 [some (rf E.ad 1), some (.int (ii x1)), o2, o3, o4, o5, some (.int (ii x6)), some (.int (ii x7)), o8, o9, o10] [.int (ii s0)] := by
  unfold f_Re_ask_84 at hf
  have o := k.1
  have g := k.2.1
  have kr := k.2.2.1
  refine J_istore o dX11_ask_84 (Nat.le_of_ble_eq_true rfl) ?_
  refine J_iconst o dX11_ask_86 ?_
  refine J_istore o dX11_ask_87 (Nat.le_of_ble_eq_true rfl) ?_
  refine J_iconst o dX11_ask_89 ?_
  refine J_istore o dX11_ask_90 (Nat.le_of_ble_eq_true rfl) ?_
  exact (t_Re_ask_92 k r_x1 r_x6 r_x7 r_s0 hf hc) rl0 rl0 _ _ _ _
noncomputable def f_Re_ask_82 (w : World) (x1 : Int) (x4 : Int) (x6 : Int) (x7 : Int) : Option World :=
  f_Re_ask_84 w x1 x6 x7 x4
theorem t_Re_ask_82 {E : EE} {K : KT} {l : Launch} {H0 : Heap} (k : Kof TB E K l cX11_ask RX11 rm_Re_ask) {w : World} {x1 : Int} {x4 : Int} {x6 : Int} {x7 : Int} {o2 o3 o5 o8 o9 o10 : Option Value} (r_x1 : R32 x1) (r_x4 : R32 x4) (r_x6 : R32 x6) (r_x7 : R32 x7) {out : World} (hf : f_Re_ask_82 w x1 x4 x6 x7 = some out) (hc : (fun out : World => RetV TB E K H0 cX11_ask out) out) : Jj K (WdT TB E H0) w 82 [some (rf E.ad 1), some (.int (ii x1)), o2, o3, some (.int (ii x4)), o5, some (.int (ii x6)), some (.int (ii x7)), o8, o9, o10] [] := by
  unfold f_Re_ask_82 at hf
  have o := k.1
  have g := k.2.1
  have kr := k.2.2.1
  refine J_iload o dX11_ask_82 rfl ?_
  exact t_Re_ask_84 k r_x1 r_x6 r_x7 r_x4 hf hc
noncomputable def f_Re_ask_60 (w : World) (x1 : Int) (x4 : Int) (x5 : Int) (x6 : Int) (s0 : Int) : Option World :=
  if x5 = 0 then (f_Re_ask_82 w x1 x4 x6 s0) else (gd (0 ≤ x1 ∧ x1 < 10) (if (w 3 x1.toNat) = 3 then (f_Re_ask_84 w x1 x6 s0 (-9)) else (f_Re_ask_82 w x1 x4 x6 s0)))
theorem t_Re_ask_60 {E : EE} {K : KT} {l : Launch} {H0 : Heap} (k : Kof TB E K l cX11_ask RX11 rm_Re_ask) {w : World} {x1 : Int} {x4 : Int} {x5 : Int} {x6 : Int} {s0 : Int} {o2 o3 o7 o8 o9 o10 : Option Value} (r_x1 : R32 x1) (r_x4 : R32 x4) (r_x5 : R32 x5) (r_x6 : R32 x6) (r_s0 : R32 s0) {out : World} (hf : f_Re_ask_60 w x1 x4 x5 x6 s0 = some out) (hc : (fun out : World => RetV TB E K H0 cX11_ask out) out) : Jj K (WdT TB E H0) w 60 [some (rf E.ad 1), some (.int (ii x1)), o2, o3, some (.int (ii x4)), some (.int (ii x5)), some (.int (ii x6)), o7, o8, o9, o10] [.int (ii s0)] := by
  unfold f_Re_ask_60 at hf
  have o := k.1
  have g := k.2.1
  have kr := k.2.2.1
  refine J_istore o dX11_ask_60 (Nat.le_of_ble_eq_true rfl) ?_
  refine J_iload o dX11_ask_62 rfl ?_
  refine J_if_eq 82 o dX11_ask_64 (by decide) r_x5 (fun c1 => ?_) (fun c2 => ?_)
  · have hf := ite_t c1 hf
    exact t_Re_ask_82 k r_x1 r_x4 r_x6 r_s0 hf hc
  · have hf := ite_f c2 hf
    refine J_aload_n o dX11_ask_67 rfl ?_
    refine J_getF (true, 3) o g dX11_ask_68 flX11_13 kB_1 rfl rfl rfl ?_
    refine J_iload_n o dX11_ask_71 rfl ?_
    obtain ⟨g3, hf⟩ := gd_some hf
    refine J_iald o g dX11_ask_72 kB_3 r_x1 zB_3 g3 (fun q4 => ?_)
    refine J_iconst o dX11_ask_73 ?_
    refine J_icmp_ne 82 o dX11_ask_74 (by decide) q4 rl3 (fun c5 => ?_) (fun c6 => ?_)
    · have hf := ite_f c5 hf
      exact t_Re_ask_82 k r_x1 r_x4 r_x6 r_s0 hf hc
    · have hf := ite_t c6 hf
      refine J_bipush o dX11_ask_77 (by decide) ?_
      refine J_goto 84 o dX11_ask_79 (by decide) ?_
      exact t_Re_ask_84 k r_x1 r_x6 r_s0 rlm9 hf hc
noncomputable def f_Re_ask_59 (w : World) (x1 : Int) (x3 : Int) (x4 : Int) (x5 : Int) (x6 : Int) : Option World :=
  f_Re_ask_60 w x1 x4 x5 x6 x3
theorem t_Re_ask_59 {E : EE} {K : KT} {l : Launch} {H0 : Heap} (k : Kof TB E K l cX11_ask RX11 rm_Re_ask) {w : World} {x1 : Int} {x3 : Int} {x4 : Int} {x5 : Int} {x6 : Int} {o2 o7 o8 o9 o10 : Option Value} (r_x1 : R32 x1) (r_x3 : R32 x3) (r_x4 : R32 x4) (r_x5 : R32 x5) (r_x6 : R32 x6) {out : World} (hf : f_Re_ask_59 w x1 x3 x4 x5 x6 = some out) (hc : (fun out : World => RetV TB E K H0 cX11_ask out) out) : Jj K (WdT TB E H0) w 59 [some (rf E.ad 1), some (.int (ii x1)), o2, some (.int (ii x3)), some (.int (ii x4)), some (.int (ii x5)), some (.int (ii x6)), o7, o8, o9, o10] [] := by
  unfold f_Re_ask_59 at hf
  have o := k.1
  have g := k.2.1
  have kr := k.2.2.1
  refine J_iload_n o dX11_ask_59 rfl ?_
  exact t_Re_ask_60 k r_x1 r_x4 r_x5 r_x6 r_x3 hf hc
noncomputable def f_Re_ask_37 (w : World) (x1 : Int) (x3 : Int) (x4 : Int) (x5 : Int) (s0 : Int) : Option World :=
  if x5 = 0 then (f_Re_ask_59 w x1 x3 x4 x5 s0) else (gd (0 ≤ x1 ∧ x1 < 10) (if (w 3 x1.toNat) = 2 then (f_Re_ask_60 w x1 x4 x5 s0 (-9)) else (f_Re_ask_59 w x1 x3 x4 x5 s0)))
theorem t_Re_ask_37 {E : EE} {K : KT} {l : Launch} {H0 : Heap} (k : Kof TB E K l cX11_ask RX11 rm_Re_ask) {w : World} {x1 : Int} {x3 : Int} {x4 : Int} {x5 : Int} {s0 : Int} {o2 o6 o7 o8 o9 o10 : Option Value} (r_x1 : R32 x1) (r_x3 : R32 x3) (r_x4 : R32 x4) (r_x5 : R32 x5) (r_s0 : R32 s0) {out : World} (hf : f_Re_ask_37 w x1 x3 x4 x5 s0 = some out) (hc : (fun out : World => RetV TB E K H0 cX11_ask out) out) : Jj K (WdT TB E H0) w 37 [some (rf E.ad 1), some (.int (ii x1)), o2, some (.int (ii x3)), some (.int (ii x4)), some (.int (ii x5)), o6, o7, o8, o9, o10] [.int (ii s0)] := by
  unfold f_Re_ask_37 at hf
  have o := k.1
  have g := k.2.1
  have kr := k.2.2.1
  refine J_istore o dX11_ask_37 (Nat.le_of_ble_eq_true rfl) ?_
  refine J_iload o dX11_ask_39 rfl ?_
  refine J_if_eq 59 o dX11_ask_41 (by decide) r_x5 (fun c1 => ?_) (fun c2 => ?_)
  · have hf := ite_t c1 hf
    exact t_Re_ask_59 k r_x1 r_x3 r_x4 r_x5 r_s0 hf hc
  · have hf := ite_f c2 hf
    refine J_aload_n o dX11_ask_44 rfl ?_
    refine J_getF (true, 3) o g dX11_ask_45 flX11_13 kB_1 rfl rfl rfl ?_
    refine J_iload_n o dX11_ask_48 rfl ?_
    obtain ⟨g3, hf⟩ := gd_some hf
    refine J_iald o g dX11_ask_49 kB_3 r_x1 zB_3 g3 (fun q4 => ?_)
    refine J_iconst o dX11_ask_50 ?_
    refine J_icmp_ne 59 o dX11_ask_51 (by decide) q4 rl2 (fun c5 => ?_) (fun c6 => ?_)
    · have hf := ite_f c5 hf
      exact t_Re_ask_59 k r_x1 r_x3 r_x4 r_x5 r_s0 hf hc
    · have hf := ite_t c6 hf
      refine J_bipush o dX11_ask_54 (by decide) ?_
      refine J_goto 60 o dX11_ask_56 (by decide) ?_
      exact t_Re_ask_60 k r_x1 r_x4 r_x5 r_s0 rlm9 hf hc
noncomputable def f_Re_ask_36 (w : World) (x1 : Int) (x2 : Int) (x3 : Int) (x4 : Int) (x5 : Int) : Option World :=
  f_Re_ask_37 w x1 x3 x4 x5 x2
theorem t_Re_ask_36 {E : EE} {K : KT} {l : Launch} {H0 : Heap} (k : Kof TB E K l cX11_ask RX11 rm_Re_ask) {w : World} {x1 : Int} {x2 : Int} {x3 : Int} {x4 : Int} {x5 : Int} {o6 o7 o8 o9 o10 : Option Value} (r_x1 : R32 x1) (r_x2 : R32 x2) (r_x3 : R32 x3) (r_x4 : R32 x4) (r_x5 : R32 x5) {out : World} (hf : f_Re_ask_36 w x1 x2 x3 x4 x5 = some out) (hc : (fun out : World => RetV TB E K H0 cX11_ask out) out) : Jj K (WdT TB E H0) w 36 [some (rf E.ad 1), some (.int (ii x1)), some (.int (ii x2)), some (.int (ii x3)), some (.int (ii x4)), some (.int (ii x5)), o6, o7, o8, o9, o10] [] := by
  unfold f_Re_ask_36 at hf
  have o := k.1
  have g := k.2.1
  have kr := k.2.2.1
  refine J_iload_n o dX11_ask_36 rfl ?_
  exact t_Re_ask_37 k r_x1 r_x3 r_x4 r_x5 r_x2 hf hc
noncomputable def f_Re_ask_14 (w : World) (x1 : Int) (x2 : Int) (x3 : Int) (x4 : Int) (s0 : Int) : Option World :=
  if s0 = 0 then (f_Re_ask_36 w x1 x2 x3 x4 s0) else (gd (0 ≤ x1 ∧ x1 < 10) (if (w 3 x1.toNat) = 1 then (f_Re_ask_37 w x1 x3 x4 s0 (-9)) else (f_Re_ask_36 w x1 x2 x3 x4 s0)))
theorem t_Re_ask_14 {E : EE} {K : KT} {l : Launch} {H0 : Heap} (k : Kof TB E K l cX11_ask RX11 rm_Re_ask) {w : World} {x1 : Int} {x2 : Int} {x3 : Int} {x4 : Int} {s0 : Int} {o5 o6 o7 o8 o9 o10 : Option Value} (r_x1 : R32 x1) (r_x2 : R32 x2) (r_x3 : R32 x3) (r_x4 : R32 x4) (r_s0 : R32 s0) {out : World} (hf : f_Re_ask_14 w x1 x2 x3 x4 s0 = some out) (hc : (fun out : World => RetV TB E K H0 cX11_ask out) out) : Jj K (WdT TB E H0) w 14 [some (rf E.ad 1), some (.int (ii x1)), some (.int (ii x2)), some (.int (ii x3)), some (.int (ii x4)), o5, o6, o7, o8, o9, o10] [.int (ii s0)] := by
  unfold f_Re_ask_14 at hf
  have o := k.1
  have g := k.2.1
  have kr := k.2.2.1
  refine J_istore o dX11_ask_14 (Nat.le_of_ble_eq_true rfl) ?_
  refine J_iload o dX11_ask_16 rfl ?_
  refine J_if_eq 36 o dX11_ask_18 (by decide) r_s0 (fun c1 => ?_) (fun c2 => ?_)
  · have hf := ite_t c1 hf
    exact t_Re_ask_36 k r_x1 r_x2 r_x3 r_x4 r_s0 hf hc
  · have hf := ite_f c2 hf
    refine J_aload_n o dX11_ask_21 rfl ?_
    refine J_getF (true, 3) o g dX11_ask_22 flX11_13 kB_1 rfl rfl rfl ?_
    refine J_iload_n o dX11_ask_25 rfl ?_
    obtain ⟨g3, hf⟩ := gd_some hf
    refine J_iald o g dX11_ask_26 kB_3 r_x1 zB_3 g3 (fun q4 => ?_)
    refine J_iconst o dX11_ask_27 ?_
    refine J_icmp_ne 36 o dX11_ask_28 (by decide) q4 rl1 (fun c5 => ?_) (fun c6 => ?_)
    · have hf := ite_f c5 hf
      exact t_Re_ask_36 k r_x1 r_x2 r_x3 r_x4 r_s0 hf hc
    · have hf := ite_t c6 hf
      refine J_bipush o dX11_ask_31 (by decide) ?_
      refine J_goto 37 o dX11_ask_33 (by decide) ?_
      exact t_Re_ask_37 k r_x1 r_x3 r_x4 r_s0 rlm9 hf hc
noncomputable def f_Re_ask (w : World) (x1 : Int) (x2 : Int) (x3 : Int) (x4 : Int) : Option World :=
  gd (0 ≤ x1 ∧ x1 < 10) (if (w 4 x1.toNat) = 0 then (f_Re_ask_14 w x1 x2 x3 x4 0) else (f_Re_ask_14 w x1 x2 x3 x4 1))
theorem t_Re_ask_0 {E : EE} {K : KT} {l : Launch} {H0 : Heap} (k : Kof TB E K l cX11_ask RX11 rm_Re_ask) {w : World} {x1 : Int} {x2 : Int} {x3 : Int} {x4 : Int} {o5 o6 o7 o8 o9 o10 : Option Value} (r_x1 : R32 x1) (r_x2 : R32 x2) (r_x3 : R32 x3) (r_x4 : R32 x4) {out : World} (hf : f_Re_ask w x1 x2 x3 x4 = some out) (hc : (fun out : World => RetV TB E K H0 cX11_ask out) out) : Jj K (WdT TB E H0) w 0 [some (rf E.ad 1), some (.int (ii x1)), some (.int (ii x2)), some (.int (ii x3)), some (.int (ii x4)), o5, o6, o7, o8, o9, o10] [] := by
  unfold f_Re_ask at hf
  have o := k.1
  have g := k.2.1
  have kr := k.2.2.1
  refine J_aload_n o dX11_ask_0 rfl ?_
  refine J_getF (true, 4) o g dX11_ask_1 flX11_17 kB_1 rfl rfl rfl ?_
  refine J_iload_n o dX11_ask_4 rfl ?_
  obtain ⟨g1, hf⟩ := gd_some hf
  refine J_iald o g dX11_ask_5 kB_4 r_x1 zB_4 g1 (fun q2 => ?_)
  refine J_if_eq 13 o dX11_ask_6 (by decide) q2 (fun c3 => ?_) (fun c4 => ?_)
  · have hf := ite_t c3 hf
    refine J_iconst o dX11_ask_13 ?_
    exact t_Re_ask_14 k r_x1 r_x2 r_x3 r_x4 rl0 hf hc
  · have hf := ite_f c4 hf
    refine J_iconst o dX11_ask_9 ?_
    refine J_goto 14 o dX11_ask_10 (by decide) ?_
    exact t_Re_ask_14 k r_x1 r_x2 r_x3 r_x4 rl1 hf hc
theorem c_Re_ask {E : EE} {l : Launch} (hI : Inj TB E) {w : World} {x1 : Int} {x2 : Int} {x3 : Int} {x4 : Int} (r_x1 : R32 x1) (r_x2 : R32 x2) (r_x3 : R32 x3) (r_x4 : R32 x4) {out : World} (hf : f_Re_ask w x1 x2 x3 x4 = some out) : ConV TB E l yX11_ask (WS yX11_ask cX11_ask 11 none) rm_Re_ask [rf E.ad 1, .int (ii x1), .int (ii x2), .int (ii x3), .int (ii x4)] w out :=
  con_V (by decide +kernel) rfl (Nat.le_of_ble_eq_true rfl) (c1s_r (c1s_i (c1s_i (c1s_i (c1s_i c1s_0 (Nat.le_of_ble_eq_true rfl)) (Nat.le_of_ble_eq_true rfl)) (Nat.le_of_ble_eq_true rfl)) (Nat.le_of_ble_eq_true rfl)) (Nat.le_of_ble_eq_true rfl)).1 ⟨rfl, rfl⟩ hI TnB (fun K H0 k hret => t_Re_ask_0 k r_x1 r_x2 r_x3 r_x4 hf hret)
abbrev rm_Re_asked : Room := { frames := 2, cells := 0, slots := 0, locals := 45 }
noncomputable def f_Re_asked (w : World) (x1 : Int) (x2 : Int) : Option Int :=
  gd (0 ≤ wr ((wr (3 * x1)) + x2) ∧ wr ((wr (3 * x1)) + x2) < 285) (bl (w 19 (wr ((wr (3 * x1)) + x2)).toNat) fun n3 => gd (0 ≤ x1 ∧ x1 < 95) (gd (0 ≤ w 18 x1.toNat ∧ w 18 x1.toNat < 10) (if x2 < (w 3 (w 18 x1.toNat).toNat) then (bnd (f_Re_isBound w n3) fun v11 => if v11 = 0 then (some (-9)) else (bnd (f_Re_valueOf w n3) fun v16 => some v16)) else (some 0))))
theorem t_Re_asked_0 {E : EE} {K : KT} {l : Launch} {H0 : Heap} (k : Kof TB E K l cX11_asked RX11 rm_Re_asked) {w : World} {x1 : Int} {x2 : Int} {o3 : Option Value} (r_x1 : R32 x1) (r_x2 : R32 x2) {out : Int} (hf : f_Re_asked w x1 x2 = some out) (hc : (fun out : Int => RetI TB E K H0 cX11_asked w out) out) : Jj K (WdT TB E H0) w 0 [some (rf E.ad 1), some (.int (ii x1)), some (.int (ii x2)), o3] [] := by
  unfold f_Re_asked at hf
  have o := k.1
  have g := k.2.1
  have kr := k.2.2.1
  refine J_aload_n o dX11_asked_0 rfl ?_
  refine J_getF (true, 19) o g dX11_asked_1 flX11_62 kB_1 rfl rfl rfl ?_
  refine J_iconst o dX11_asked_4 ?_
  refine J_iload_n o dX11_asked_5 rfl ?_
  refine J_imul o dX11_asked_6 ?_
  refine J_iload_n o dX11_asked_7 rfl ?_
  refine J_iadd o dX11_asked_8 ?_
  obtain ⟨g1, hf⟩ := gd_some hf
  refine J_iald o g dX11_asked_9 kB_19 (R_wr _) zB_19 g1 (fun q2 => ?_)
  refine J_istore_n o dX11_asked_10 (Nat.le_of_ble_eq_true rfl) ?_
  have hf := bl_out hf
  refine J_iload_n o dX11_asked_11 rfl ?_
  refine J_aload_n o dX11_asked_12 rfl ?_
  refine J_getF (true, 3) o g dX11_asked_13 flX11_13 kB_1 rfl rfl rfl ?_
  refine J_aload_n o dX11_asked_16 rfl ?_
  refine J_getF (true, 18) o g dX11_asked_17 flX11_59 kB_1 rfl rfl rfl ?_
  refine J_iload_n o dX11_asked_20 rfl ?_
  obtain ⟨g4, hf⟩ := gd_some hf
  refine J_iald o g dX11_asked_21 kB_18 r_x1 zB_18 g4 (fun q5 => ?_)
  obtain ⟨g6, hf⟩ := gd_some hf
  refine J_iald o g dX11_asked_22 kB_3 q5 zB_3 g6 (fun q7 => ?_)
  refine J_icmp_lt 30 o dX11_asked_23 (by decide) r_x2 q7 (fun c8 => ?_) (fun c9 => ?_)
  · have hf := ite_t c8 hf
    refine J_aload_n o dX11_asked_30 rfl ?_
    refine J_iload_n o dX11_asked_31 rfl ?_
    obtain ⟨v11, e10, hf⟩ := bnd_some hf
    refine J_vI o g kr dX11_asked_32 lkX11_190 ml_Re_isBound vl_Re_isBound ⟨rfl, rfl, Nat.le_of_ble_eq_true rfl, Nat.le_of_ble_eq_true rfl⟩ (c_Re_isBound g.2.1 q2 e10) kB_1 rfl ⟨by decide, by decide⟩ rfl rfl c1s_0 (fun q12 => ?_)
    refine J_if_eq 46 o dX11_asked_35 (by decide) q12 (fun c13 => ?_) (fun c14 => ?_)
    · have hf := ite_t c13 hf
      refine J_bipush o dX11_asked_46 (by decide) ?_
      have hf := some_inj hf
      subst hf
      exact hc _ _ rlm9 dX11_asked_48
    · have hf := ite_f c14 hf
      refine J_aload_n o dX11_asked_38 rfl ?_
      refine J_iload_n o dX11_asked_39 rfl ?_
      obtain ⟨v16, e15, hf⟩ := bnd_some hf
      refine J_vI o g kr dX11_asked_40 lkX11_193 ml_Re_valueOf vl_Re_valueOf ⟨rfl, rfl, Nat.le_of_ble_eq_true rfl, Nat.le_of_ble_eq_true rfl⟩ (c_Re_valueOf g.2.1 q2 e15) kB_1 rfl ⟨by decide, by decide⟩ rfl rfl c1s_0 (fun q17 => ?_)
      refine J_goto 48 o dX11_asked_43 (by decide) ?_
      have hf := some_inj hf
      subst hf
      exact hc _ _ q17 dX11_asked_48
  · have hf := ite_f c9 hf
    refine J_iconst o dX11_asked_26 ?_
    refine J_goto 48 o dX11_asked_27 (by decide) ?_
    have hf := some_inj hf
    subst hf
    exact hc _ _ rl0 dX11_asked_48
theorem c_Re_asked {E : EE} {l : Launch} (hI : Inj TB E) {w : World} {x1 : Int} {x2 : Int} (r_x1 : R32 x1) (r_x2 : R32 x2) {out : Int} (hf : f_Re_asked w x1 x2 = some out) : ConI TB E l yX11_asked (WS yX11_asked cX11_asked 4 (some .int)) rm_Re_asked [rf E.ad 1, .int (ii x1), .int (ii x2)] w w out :=
  con_I (by decide +kernel) rfl (Nat.le_of_ble_eq_true rfl) (c1s_r (c1s_i (c1s_i c1s_0 (Nat.le_of_ble_eq_true rfl)) (Nat.le_of_ble_eq_true rfl)) (Nat.le_of_ble_eq_true rfl)).1 ⟨rfl, rfl⟩ hI TnB (fun K H0 k hret => t_Re_asked_0 k r_x1 r_x2 hf hret)
abbrev rm_Re_askBy : Room := { frames := 6, cells := 0, slots := 0, locals := 144 }
def HW_Re_askBy_2 (E : EE) (K : KT) (H0 : Heap) (x1 : Int) (x2 : Int) : (World × Int) → Prop := fun z => R32 z.2 → ∀ o4 o5 : Option Value, Jj K (WdT TB E H0) z.1 2 [some (rf E.ad 1), some (.int (ii x1)), some (.int (ii x2)), some (.int (ii z.2)), o4, o5] []
def HW_Re_askBy_73 (E : EE) (K : KT) (H0 : Heap) (x1 : Int) (x2 : Int) (x3 : Int) (x4 : Int) : (World × Int) → Prop := fun z => R32 z.2 → Jj K (WdT TB E H0) z.1 73 [some (rf E.ad 1), some (.int (ii x1)), some (.int (ii x2)), some (.int (ii x3)), some (.int (ii x4)), some (.int (ii z.2))] []
noncomputable def f_Re_askBy_147 (w : World) (x1 : Int) (x2 : Int) (x3 : Int) : Option ((World × Int) ⊕ World) :=
  bl (wr (x3 + 1)) fun n1 => some (Sum.inl (w, n1))
theorem t_Re_askBy_147 {E : EE} {K : KT} {l : Launch} {H0 : Heap} (k : Kof TB E K l cX11_askBy RX11 rm_Re_askBy) {w : World} {x1 : Int} {x2 : Int} {x3 : Int} {o4 o5 : Option Value} (r_x1 : R32 x1) (r_x2 : R32 x2) (r_x3 : R32 x3) {out : ((World × Int) ⊕ World)} (hf : f_Re_askBy_147 w x1 x2 x3 = some out) (hc : (Sum.elim (HW_Re_askBy_2 E K H0 x1 x2) (fun out : World => RetV TB E K H0 cX11_askBy out)) out) : Jj K (WdT TB E H0) w 147 [some (rf E.ad 1), some (.int (ii x1)), some (.int (ii x2)), some (.int (ii x3)), o4, o5] [] := by
  unfold f_Re_askBy_147 at hf
  have o := k.1
  have g := k.2.1
  have kr := k.2.2.1
  have hf := bl_out hf
  refine J_iinc o dX11_askBy_147 rfl ?_
  refine J_goto 2 o dX11_askBy_150 (by decide) ?_
  have hf := some_inj hf
  subst hf
  exact hc (R_wr _) _ _
noncomputable def f_Re_askBy_142 (w : World) (x1 : Int) (x2 : Int) (x3 : Int) (x4 : Int) (s0 : Int) : Option ((World × Int) ⊕ ((World × Int) ⊕ World)) :=
  some (Sum.inl (w, s0))
theorem t_Re_askBy_142 {E : EE} {K : KT} {l : Launch} {H0 : Heap} (k : Kof TB E K l cX11_askBy RX11 rm_Re_askBy) {w : World} {x1 : Int} {x2 : Int} {x3 : Int} {x4 : Int} {s0 : Int} {o5 : Option Value} (r_x1 : R32 x1) (r_x2 : R32 x2) (r_x3 : R32 x3) (r_x4 : R32 x4) (r_s0 : R32 s0) {out : ((World × Int) ⊕ ((World × Int) ⊕ World))} (hf : f_Re_askBy_142 w x1 x2 x3 x4 s0 = some out) (hc : (Sum.elim (HW_Re_askBy_73 E K H0 x1 x2 x3 x4) (Sum.elim (HW_Re_askBy_2 E K H0 x1 x2) (fun out : World => RetV TB E K H0 cX11_askBy out))) out) : Jj K (WdT TB E H0) w 142 [some (rf E.ad 1), some (.int (ii x1)), some (.int (ii x2)), some (.int (ii x3)), some (.int (ii x4)), o5] [.int (ii s0)] := by
  unfold f_Re_askBy_142 at hf
  have o := k.1
  have g := k.2.1
  have kr := k.2.2.1
  refine J_istore o dX11_askBy_142 (Nat.le_of_ble_eq_true rfl) ?_
  refine J_goto 73 o dX11_askBy_144 (by decide) ?_
  have hf := some_inj hf
  subst hf
  exact hc r_s0 
noncomputable def f_Re_askBy_73B (w : World) (x1 : Int) (x2 : Int) (x3 : Int) (x4 : Int) (x5 : Int) : Option ((World × Int) ⊕ ((World × Int) ⊕ World)) :=
  if x5 = 0 then (bnd (f_Re_askBy_147 w x1 x2 x3) fun y3 => some (Sum.inr y3)) else (if 400 ≤ (w 1 32) then (bnd (f_Re_askBy_147 w x1 x2 x3) fun y7 => some (Sum.inr y7)) else (bnd (f_Re_next w x1 x3 (w 1 1)) fun v10 => if v10.2 = 0 then (bnd (f_Re_askBy_147 v10.1 x1 x2 x3) fun y14 => some (Sum.inr y14)) else (gd (0 ≤ x4 ∧ x4 < 95) (bnd (f_Re_asked v10.1 x4 0) fun v18 => bnd (f_Re_asked v10.1 x4 1) fun v21 => bnd (f_Re_asked v10.1 x4 2) fun v24 => bnd (f_Re_ask v10.1 (v10.1 18 x4.toNat) v18 v21 v24) fun v27 => if x3 ≤ 0 then (f_Re_askBy_142 v27 x1 x2 x3 x4 0) else (f_Re_askBy_142 v27 x1 x2 x3 x4 1)))))
theorem t_Re_askBy_73B {E : EE} {K : KT} {l : Launch} {H0 : Heap} (k : Kof TB E K l cX11_askBy RX11 rm_Re_askBy) {w : World} {x1 : Int} {x2 : Int} {x3 : Int} {x4 : Int} {x5 : Int} (r_x1 : R32 x1) (r_x2 : R32 x2) (r_x3 : R32 x3) (r_x4 : R32 x4) (r_x5 : R32 x5) {out : ((World × Int) ⊕ ((World × Int) ⊕ World))} (hf : f_Re_askBy_73B w x1 x2 x3 x4 x5 = some out) (hc : (Sum.elim (HW_Re_askBy_73 E K H0 x1 x2 x3 x4) (Sum.elim (HW_Re_askBy_2 E K H0 x1 x2) (fun out : World => RetV TB E K H0 cX11_askBy out))) out) : Jj K (WdT TB E H0) w 73 [some (rf E.ad 1), some (.int (ii x1)), some (.int (ii x2)), some (.int (ii x3)), some (.int (ii x4)), some (.int (ii x5))] [] := by
  unfold f_Re_askBy_73B at hf
  have o := k.1
  have g := k.2.1
  have kr := k.2.2.1
  refine J_iload o dX11_askBy_73 rfl ?_
  refine J_if_eq 147 o dX11_askBy_75 (by decide) r_x5 (fun c1 => ?_) (fun c2 => ?_)
  · have hf := ite_t c1 hf
    obtain ⟨y3, hf1, hf⟩ := bnd_some hf
    have hf := some_inj hf
    subst hf
    exact t_Re_askBy_147 k r_x1 r_x2 r_x3 hf1 hc
  · have hf := ite_f c2 hf
    refine J_aload_n o dX11_askBy_78 rfl ?_
    refine J_getI o g dX11_askBy_79 flX11_286 kB_1 rfl (fun q4 => ?_)
    refine J_sipush o dX11_askBy_82 (by decide) ?_
    refine J_icmp_ge 147 o dX11_askBy_85 (by decide) q4 rl400 (fun c5 => ?_) (fun c6 => ?_)
    · have hf := ite_t c5 hf
      obtain ⟨y7, hf1, hf⟩ := bnd_some hf
      have hf := some_inj hf
      subst hf
      exact t_Re_askBy_147 k r_x1 r_x2 r_x3 hf1 hc
    · have hf := ite_f c6 hf
      refine J_aload_n o dX11_askBy_88 rfl ?_
      refine J_iload_n o dX11_askBy_89 rfl ?_
      refine J_iload_n o dX11_askBy_90 rfl ?_
      refine J_aload_n o dX11_askBy_91 rfl ?_
      refine J_getI o g dX11_askBy_92 flX11_131 kB_1 rfl (fun q8 => ?_)
      obtain ⟨v10, e9, hf⟩ := bnd_some hf
      refine J_vI o g kr dX11_askBy_95 lkX11_237 ml_Re_next vl_Re_next ⟨rfl, rfl, Nat.le_of_ble_eq_true rfl, Nat.le_of_ble_eq_true rfl⟩ (c_Re_next g.2.1 r_x1 r_x3 q8 e9) kB_1 rfl ⟨by decide, by decide⟩ rfl rfl c1s_0 (fun q11 => ?_)
      refine J_if_eq 147 o dX11_askBy_98 (by decide) q11 (fun c12 => ?_) (fun c13 => ?_)
      · have hf := ite_t c12 hf
        obtain ⟨y14, hf1, hf⟩ := bnd_some hf
        have hf := some_inj hf
        subst hf
        exact t_Re_askBy_147 k r_x1 r_x2 r_x3 hf1 hc
      · have hf := ite_f c13 hf
        refine J_aload_n o dX11_askBy_101 rfl ?_
        refine J_aload_n o dX11_askBy_102 rfl ?_
        refine J_getF (true, 18) o g dX11_askBy_103 flX11_59 kB_1 rfl rfl rfl ?_
        refine J_iload o dX11_askBy_106 rfl ?_
        obtain ⟨g15, hf⟩ := gd_some hf
        refine J_iald o g dX11_askBy_108 kB_18 r_x4 zB_18 g15 (fun q16 => ?_)
        refine J_aload_n o dX11_askBy_109 rfl ?_
        refine J_iload o dX11_askBy_110 rfl ?_
        refine J_iconst o dX11_askBy_112 ?_
        obtain ⟨v18, e17, hf⟩ := bnd_some hf
        refine J_vI o g kr dX11_askBy_113 lkX11_289 ml_Re_asked vl_Re_asked ⟨rfl, rfl, Nat.le_of_ble_eq_true rfl, Nat.le_of_ble_eq_true rfl⟩ (c_Re_asked g.2.1 r_x4 rl0 e17) kB_1 rfl ⟨by decide, by decide⟩ rfl rfl (c1s_i (c1s_r c1s_0 (Nat.le_of_ble_eq_true rfl)) (Nat.le_of_ble_eq_true rfl)) (fun q19 => ?_)
        refine J_aload_n o dX11_askBy_116 rfl ?_
        refine J_iload o dX11_askBy_117 rfl ?_
        refine J_iconst o dX11_askBy_119 ?_
        obtain ⟨v21, e20, hf⟩ := bnd_some hf
        refine J_vI o g kr dX11_askBy_120 lkX11_289 ml_Re_asked vl_Re_asked ⟨rfl, rfl, Nat.le_of_ble_eq_true rfl, Nat.le_of_ble_eq_true rfl⟩ (c_Re_asked g.2.1 r_x4 rl1 e20) kB_1 rfl ⟨by decide, by decide⟩ rfl rfl (c1s_i (c1s_i (c1s_r c1s_0 (Nat.le_of_ble_eq_true rfl)) (Nat.le_of_ble_eq_true rfl)) (Nat.le_of_ble_eq_true rfl)) (fun q22 => ?_)
        refine J_aload_n o dX11_askBy_123 rfl ?_
        refine J_iload o dX11_askBy_124 rfl ?_
        refine J_iconst o dX11_askBy_126 ?_
        obtain ⟨v24, e23, hf⟩ := bnd_some hf
        refine J_vI o g kr dX11_askBy_127 lkX11_289 ml_Re_asked vl_Re_asked ⟨rfl, rfl, Nat.le_of_ble_eq_true rfl, Nat.le_of_ble_eq_true rfl⟩ (c_Re_asked g.2.1 r_x4 rl2 e23) kB_1 rfl ⟨by decide, by decide⟩ rfl rfl (c1s_i (c1s_i (c1s_i (c1s_r c1s_0 (Nat.le_of_ble_eq_true rfl)) (Nat.le_of_ble_eq_true rfl)) (Nat.le_of_ble_eq_true rfl)) (Nat.le_of_ble_eq_true rfl)) (fun q25 => ?_)
        obtain ⟨v27, e26, hf⟩ := bnd_some hf
        refine J_vV o g kr dX11_askBy_130 lkX11_292 ml_Re_ask vl_Re_ask ⟨rfl, rfl, Nat.le_of_ble_eq_true rfl, Nat.le_of_ble_eq_true rfl⟩ (c_Re_ask g.2.1 q16 q19 q22 q25 e26) kB_1 rfl ⟨by decide, by decide⟩ rfl rfl c1s_0 ?_
        refine J_iload_n o dX11_askBy_133 rfl ?_
        refine J_if_le 141 o dX11_askBy_134 (by decide) r_x3 (fun c29 => ?_) (fun c30 => ?_)
        · have hf := ite_t c29 hf
          refine J_iconst o dX11_askBy_141 ?_
          exact t_Re_askBy_142 k r_x1 r_x2 r_x3 r_x4 rl0 hf hc
        · have hf := ite_f c30 hf
          refine J_iconst o dX11_askBy_137 ?_
          refine J_goto 142 o dX11_askBy_138 (by decide) ?_
          exact t_Re_askBy_142 k r_x1 r_x2 r_x3 r_x4 rl1 hf hc
noncomputable def f_Re_askBy_73 (w : World) (x1 : Int) (x2 : Int) (x3 : Int) (x4 : Int) (x5 : Int) : Option ((World × Int) ⊕ World) :=
  lp (fun z : (World × Int) => f_Re_askBy_73B z.1 x1 x2 x3 x4 z.2) (w, x5)
theorem t_Re_askBy_73 {E : EE} {K : KT} {l : Launch} {H0 : Heap} (k : Kof TB E K l cX11_askBy RX11 rm_Re_askBy) {w : World} {x1 : Int} {x2 : Int} {x3 : Int} {x4 : Int} {x5 : Int} (r_x1 : R32 x1) (r_x2 : R32 x2) (r_x3 : R32 x3) (r_x4 : R32 x4) {out : ((World × Int) ⊕ World)} (hf : f_Re_askBy_73 w x1 x2 x3 x4 x5 = some out) (hc : (Sum.elim (HW_Re_askBy_2 E K H0 x1 x2) (fun out : World => RetV TB E K H0 cX11_askBy out)) out) : HW_Re_askBy_73 E K H0 x1 x2 x3 x4 (w, x5) := by
  unfold f_Re_askBy_73 at hf
  refine lp_ind (P := HW_Re_askBy_73 E K H0 x1 x2 x3 x4) hf ?_
  intro z o hs h1 h2
  intro r_x5
  refine t_Re_askBy_73B k r_x1 r_x2 r_x3 r_x4 r_x5 hs ?_
  cases o with
  | inl z' => exact h1 z' rfl
  | inr r' => rw [h2 r' rfl]; exact hc
noncomputable def f_Re_askBy_71 (w : World) (x1 : Int) (x2 : Int) (x3 : Int) (x4 : Int) (s0 : Int) : Option ((World × Int) ⊕ World) :=
  f_Re_askBy_73 w x1 x2 x3 x4 s0
theorem t_Re_askBy_71 {E : EE} {K : KT} {l : Launch} {H0 : Heap} (k : Kof TB E K l cX11_askBy RX11 rm_Re_askBy) {w : World} {x1 : Int} {x2 : Int} {x3 : Int} {x4 : Int} {s0 : Int} {o5 : Option Value} (r_x1 : R32 x1) (r_x2 : R32 x2) (r_x3 : R32 x3) (r_x4 : R32 x4) (r_s0 : R32 s0) {out : ((World × Int) ⊕ World)} (hf : f_Re_askBy_71 w x1 x2 x3 x4 s0 = some out) (hc : (Sum.elim (HW_Re_askBy_2 E K H0 x1 x2) (fun out : World => RetV TB E K H0 cX11_askBy out)) out) : Jj K (WdT TB E H0) w 71 [some (rf E.ad 1), some (.int (ii x1)), some (.int (ii x2)), some (.int (ii x3)), some (.int (ii x4)), o5] [.int (ii s0)] := by
  unfold f_Re_askBy_71 at hf
  have o := k.1
  have g := k.2.1
  have kr := k.2.2.1
  refine J_istore o dX11_askBy_71 (Nat.le_of_ble_eq_true rfl) ?_
  exact (t_Re_askBy_73 k r_x1 r_x2 r_x3 r_x4 hf hc) r_s0 
noncomputable def f_Re_askBy_70 (w : World) (x1 : Int) (x2 : Int) (x3 : Int) (x4 : Int) : Option ((World × Int) ⊕ World) :=
  f_Re_askBy_71 w x1 x2 x3 x4 0
theorem t_Re_askBy_70 {E : EE} {K : KT} {l : Launch} {H0 : Heap} (k : Kof TB E K l cX11_askBy RX11 rm_Re_askBy) {w : World} {x1 : Int} {x2 : Int} {x3 : Int} {x4 : Int} {o5 : Option Value} (r_x1 : R32 x1) (r_x2 : R32 x2) (r_x3 : R32 x3) (r_x4 : R32 x4) {out : ((World × Int) ⊕ World)} (hf : f_Re_askBy_70 w x1 x2 x3 x4 = some out) (hc : (Sum.elim (HW_Re_askBy_2 E K H0 x1 x2) (fun out : World => RetV TB E K H0 cX11_askBy out)) out) : Jj K (WdT TB E H0) w 70 [some (rf E.ad 1), some (.int (ii x1)), some (.int (ii x2)), some (.int (ii x3)), some (.int (ii x4)), o5] [] := by
  unfold f_Re_askBy_70 at hf
  have o := k.1
  have g := k.2.1
  have kr := k.2.2.1
  refine J_iconst o dX11_askBy_70 ?_
  exact t_Re_askBy_71 k r_x1 r_x2 r_x3 r_x4 rl0 hf hc
noncomputable def f_Re_askBy_2B (w : World) (x1 : Int) (x2 : Int) (x3 : Int) : Option ((World × Int) ⊕ World) :=
  gd (0 ≤ x1 ∧ x1 < 19) (if (w 16 x1.toNat) ≤ x3 then (some (Sum.inr w)) else (bl (wr ((wr (5 * x1)) + x3)) fun n5 => gd (0 ≤ n5 ∧ n5 < 95) (if 1 < (w 17 n5.toNat) then (f_Re_askBy_70 w x1 x2 x3 n5) else (gd (0 ≤ wr (3 * x2) ∧ wr (3 * x2) < 1200) (gd (0 ≤ wr ((wr (3 * x2)) + 1) ∧ wr ((wr (3 * x2)) + 1) < 1200) (gd (0 ≤ wr ((wr (3 * x2)) + 2) ∧ wr ((wr (3 * x2)) + 2) < 1200) (bnd (f_Re_giveHead w x1 (w 28 (wr (3 * x2)).toNat) (w 28 (wr ((wr (3 * x2)) + 1)).toNat) (w 28 (wr ((wr (3 * x2)) + 2)).toNat)) fun v17 => if v17.2 = 0 then (f_Re_askBy_70 v17.1 x1 x2 x3 n5) else (f_Re_askBy_71 v17.1 x1 x2 x3 n5 1))))))))
theorem t_Re_askBy_2B {E : EE} {K : KT} {l : Launch} {H0 : Heap} (k : Kof TB E K l cX11_askBy RX11 rm_Re_askBy) {w : World} {x1 : Int} {x2 : Int} {x3 : Int} {o4 o5 : Option Value} (r_x1 : R32 x1) (r_x2 : R32 x2) (r_x3 : R32 x3) {out : ((World × Int) ⊕ World)} (hf : f_Re_askBy_2B w x1 x2 x3 = some out) (hc : (Sum.elim (HW_Re_askBy_2 E K H0 x1 x2) (fun out : World => RetV TB E K H0 cX11_askBy out)) out) : Jj K (WdT TB E H0) w 2 [some (rf E.ad 1), some (.int (ii x1)), some (.int (ii x2)), some (.int (ii x3)), o4, o5] [] := by
  unfold f_Re_askBy_2B at hf
  have o := k.1
  have g := k.2.1
  have kr := k.2.2.1
  refine J_iload_n o dX11_askBy_2 rfl ?_
  refine J_aload_n o dX11_askBy_3 rfl ?_
  refine J_getF (true, 16) o g dX11_askBy_4 flX11_53 kB_1 rfl rfl rfl ?_
  refine J_iload_n o dX11_askBy_7 rfl ?_
  obtain ⟨g1, hf⟩ := gd_some hf
  refine J_iald o g dX11_askBy_8 kB_16 r_x1 zB_16 g1 (fun q2 => ?_)
  refine J_icmp_ge 153 o dX11_askBy_9 (by decide) r_x3 q2 (fun c3 => ?_) (fun c4 => ?_)
  · have hf := ite_t c3 hf
    have hf := some_inj hf
    subst hf
    exact hc _ _  dX11_askBy_153
  · have hf := ite_f c4 hf
    refine J_iconst o dX11_askBy_12 ?_
    refine J_iload_n o dX11_askBy_13 rfl ?_
    refine J_imul o dX11_askBy_14 ?_
    refine J_iload_n o dX11_askBy_15 rfl ?_
    refine J_iadd o dX11_askBy_16 ?_
    refine J_istore o dX11_askBy_17 (Nat.le_of_ble_eq_true rfl) ?_
    have hf := bl_out hf
    refine J_aload_n o dX11_askBy_19 rfl ?_
    refine J_getF (true, 17) o g dX11_askBy_20 flX11_56 kB_1 rfl rfl rfl ?_
    refine J_iload o dX11_askBy_23 rfl ?_
    obtain ⟨g6, hf⟩ := gd_some hf
    refine J_iald o g dX11_askBy_25 kB_17 (R_wr _) zB_17 g6 (fun q7 => ?_)
    refine J_iconst o dX11_askBy_26 ?_
    refine J_icmp_gt 70 o dX11_askBy_27 (by decide) q7 rl1 (fun c8 => ?_) (fun c9 => ?_)
    · have hf := ite_t c8 hf
      exact t_Re_askBy_70 k r_x1 r_x2 r_x3 (R_wr _) hf hc
    · have hf := ite_f c9 hf
      refine J_aload_n o dX11_askBy_30 rfl ?_
      refine J_iload_n o dX11_askBy_31 rfl ?_
      refine J_aload_n o dX11_askBy_32 rfl ?_
      refine J_getF (true, 28) o g dX11_askBy_33 flX11_89 kB_1 rfl rfl rfl ?_
      refine J_iconst o dX11_askBy_36 ?_
      refine J_iload_n o dX11_askBy_37 rfl ?_
      refine J_imul o dX11_askBy_38 ?_
      obtain ⟨g10, hf⟩ := gd_some hf
      refine J_iald o g dX11_askBy_39 kB_28 (R_wr _) zB_28 g10 (fun q11 => ?_)
      refine J_aload_n o dX11_askBy_40 rfl ?_
      refine J_getF (true, 28) o g dX11_askBy_41 flX11_89 kB_1 rfl rfl rfl ?_
      refine J_iconst o dX11_askBy_44 ?_
      refine J_iload_n o dX11_askBy_45 rfl ?_
      refine J_imul o dX11_askBy_46 ?_
      refine J_iconst o dX11_askBy_47 ?_
      refine J_iadd o dX11_askBy_48 ?_
      obtain ⟨g12, hf⟩ := gd_some hf
      refine J_iald o g dX11_askBy_49 kB_28 (R_wr _) zB_28 g12 (fun q13 => ?_)
      refine J_aload_n o dX11_askBy_50 rfl ?_
      refine J_getF (true, 28) o g dX11_askBy_51 flX11_89 kB_1 rfl rfl rfl ?_
      refine J_iconst o dX11_askBy_54 ?_
      refine J_iload_n o dX11_askBy_55 rfl ?_
      refine J_imul o dX11_askBy_56 ?_
      refine J_iconst o dX11_askBy_57 ?_
      refine J_iadd o dX11_askBy_58 ?_
      obtain ⟨g14, hf⟩ := gd_some hf
      refine J_iald o g dX11_askBy_59 kB_28 (R_wr _) zB_28 g14 (fun q15 => ?_)
      obtain ⟨v17, e16, hf⟩ := bnd_some hf
      refine J_vI o g kr dX11_askBy_60 lkX11_274 ml_Re_giveHead vl_Re_giveHead ⟨rfl, rfl, Nat.le_of_ble_eq_true rfl, Nat.le_of_ble_eq_true rfl⟩ (c_Re_giveHead g.2.1 r_x1 q11 q13 q15 e16) kB_1 rfl ⟨by decide, by decide⟩ rfl rfl c1s_0 (fun q18 => ?_)
      refine J_if_eq 70 o dX11_askBy_63 (by decide) q18 (fun c19 => ?_) (fun c20 => ?_)
      · have hf := ite_t c19 hf
        exact t_Re_askBy_70 k r_x1 r_x2 r_x3 (R_wr _) hf hc
      · have hf := ite_f c20 hf
        refine J_iconst o dX11_askBy_66 ?_
        refine J_goto 71 o dX11_askBy_67 (by decide) ?_
        exact t_Re_askBy_71 k r_x1 r_x2 r_x3 (R_wr _) rl1 hf hc
noncomputable def f_Re_askBy_2 (w : World) (x1 : Int) (x2 : Int) (x3 : Int) : Option World :=
  lp (fun z : (World × Int) => f_Re_askBy_2B z.1 x1 x2 z.2) (w, x3)
theorem t_Re_askBy_2 {E : EE} {K : KT} {l : Launch} {H0 : Heap} (k : Kof TB E K l cX11_askBy RX11 rm_Re_askBy) {w : World} {x1 : Int} {x2 : Int} {x3 : Int} (r_x1 : R32 x1) (r_x2 : R32 x2) {out : World} (hf : f_Re_askBy_2 w x1 x2 x3 = some out) (hc : (fun out : World => RetV TB E K H0 cX11_askBy out) out) : HW_Re_askBy_2 E K H0 x1 x2 (w, x3) := by
  unfold f_Re_askBy_2 at hf
  refine lp_ind (P := HW_Re_askBy_2 E K H0 x1 x2) hf ?_
  intro z o hs h1 h2
  intro r_x3
  intro o4 o5
  refine t_Re_askBy_2B k r_x1 r_x2 r_x3 hs ?_
  cases o with
  | inl z' => exact h1 z' rfl
  | inr r' => rw [h2 r' rfl]; exact hc
noncomputable def f_Re_askBy (w : World) (x1 : Int) (x2 : Int) : Option World :=
  f_Re_askBy_2 w x1 x2 0
theorem t_Re_askBy_0 {E : EE} {K : KT} {l : Launch} {H0 : Heap} (k : Kof TB E K l cX11_askBy RX11 rm_Re_askBy) {w : World} {x1 : Int} {x2 : Int} {o3 o4 o5 : Option Value} (r_x1 : R32 x1) (r_x2 : R32 x2) {out : World} (hf : f_Re_askBy w x1 x2 = some out) (hc : (fun out : World => RetV TB E K H0 cX11_askBy out) out) : Jj K (WdT TB E H0) w 0 [some (rf E.ad 1), some (.int (ii x1)), some (.int (ii x2)), o3, o4, o5] [] := by
  unfold f_Re_askBy at hf
  have o := k.1
  have g := k.2.1
  have kr := k.2.2.1
  refine J_iconst o dX11_askBy_0 ?_
  refine J_istore_n o dX11_askBy_1 (Nat.le_of_ble_eq_true rfl) ?_
  exact (t_Re_askBy_2 k r_x1 r_x2 hf hc) rl0 _ _
theorem c_Re_askBy {E : EE} {l : Launch} (hI : Inj TB E) {w : World} {x1 : Int} {x2 : Int} (r_x1 : R32 x1) (r_x2 : R32 x2) {out : World} (hf : f_Re_askBy w x1 x2 = some out) : ConV TB E l yX11_askBy (WS yX11_askBy cX11_askBy 6 none) rm_Re_askBy [rf E.ad 1, .int (ii x1), .int (ii x2)] w out :=
  con_V (by decide +kernel) rfl (Nat.le_of_ble_eq_true rfl) (c1s_r (c1s_i (c1s_i c1s_0 (Nat.le_of_ble_eq_true rfl)) (Nat.le_of_ble_eq_true rfl)) (Nat.le_of_ble_eq_true rfl)).1 ⟨rfl, rfl⟩ hI TnB (fun K H0 k hret => t_Re_askBy_0 k r_x1 r_x2 hf hret)
abbrev rm_Re_goals : Room := { frames := 7, cells := 0, slots := 0, locals := 169 }
def HW_Re_goals_76 (E : EE) (K : KT) (H0 : Heap)  : (World × Int) → Prop := fun z => R32 z.2 → ∀ o1 o2 o3 o4 o5 o7 : Option Value, Jj K (WdT TB E H0) z.1 76 [some (rf E.ad 1), o1, o2, o3, o4, o5, some (.int (ii z.2)), o7] []
def HW_Re_goals_98 (E : EE) (K : KT) (H0 : Heap) (x6 : Int) : (World × Int) → Prop := fun z => R32 z.2 → ∀ o1 o2 o3 o4 o5 : Option Value, Jj K (WdT TB E H0) z.1 98 [some (rf E.ad 1), o1, o2, o3, o4, o5, some (.int (ii x6)), some (.int (ii z.2))] []
noncomputable def f_Re_goals_154 (w : World) : Option (World × Int) :=
  some (w, w 1 32)
theorem t_Re_goals_154 {E : EE} {K : KT} {l : Launch} {H0 : Heap} (k : Kof TB E K l cX11_goals RX11 rm_Re_goals) {w : World} {o1 o2 o3 o4 o5 o6 o7 : Option Value}  {out : (World × Int)} (hf : f_Re_goals_154 w = some out) (hc : (fun out : (World × Int) => RetI TB E K H0 cX11_goals out.1 out.2) out) : Jj K (WdT TB E H0) w 154 [some (rf E.ad 1), o1, o2, o3, o4, o5, o6, o7] [] := by
  unfold f_Re_goals_154 at hf
  have o := k.1
  have g := k.2.1
  have kr := k.2.2.1
  refine J_aload_n o dX11_goals_154 rfl ?_
  refine J_getI o g dX11_goals_155 flX11_286 kB_1 rfl (fun q1 => ?_)
  have hf := some_inj hf
  subst hf
  exact hc _ _ q1 dX11_goals_158
noncomputable def f_Re_goals_142 (w : World) (x6 : Int) (x7 : Int) : Option ((World × Int) ⊕ ((World × Int) ⊕ (World × Int))) :=
  bl (wr (x7 + 1)) fun n1 => some (Sum.inl (w, n1))
theorem t_Re_goals_142 {E : EE} {K : KT} {l : Launch} {H0 : Heap} (k : Kof TB E K l cX11_goals RX11 rm_Re_goals) {w : World} {x6 : Int} {x7 : Int} {o1 o2 o3 o4 o5 : Option Value} (r_x6 : R32 x6) (r_x7 : R32 x7) {out : ((World × Int) ⊕ ((World × Int) ⊕ (World × Int)))} (hf : f_Re_goals_142 w x6 x7 = some out) (hc : (Sum.elim (HW_Re_goals_98 E K H0 x6) (Sum.elim (HW_Re_goals_76 E K H0 ) (fun out : (World × Int) => RetI TB E K H0 cX11_goals out.1 out.2))) out) : Jj K (WdT TB E H0) w 142 [some (rf E.ad 1), o1, o2, o3, o4, o5, some (.int (ii x6)), some (.int (ii x7))] [] := by
  unfold f_Re_goals_142 at hf
  have o := k.1
  have g := k.2.1
  have kr := k.2.2.1
  have hf := bl_out hf
  refine J_iinc o dX11_goals_142 rfl ?_
  refine J_goto 98 o dX11_goals_145 (by decide) ?_
  have hf := some_inj hf
  subst hf
  exact hc (R_wr _) _ _ _ _ _
noncomputable def f_Re_goals_98B (w : World) (x6 : Int) (x7 : Int) : Option ((World × Int) ⊕ ((World × Int) ⊕ (World × Int))) :=
  if (w 1 14) ≤ x7 then (bl (wr (x6 + 1)) fun n4 => some (Sum.inr (Sum.inl (w, n4)))) else (gd (0 ≤ x7 ∧ x7 < 12) (if (w 13 x7.toNat) = 0 then (gd (0 ≤ x7 ∧ x7 < 19) (gd (0 ≤ x6 ∧ x6 < 400) (if (w 14 x7.toNat) = (w 27 x6.toNat) then (bnd (f_Re_askBy w x7 x6) fun v16 => f_Re_goals_142 v16 x6 x7) else (f_Re_goals_142 w x6 x7)))) else (f_Re_goals_142 w x6 x7)))
theorem t_Re_goals_98B {E : EE} {K : KT} {l : Launch} {H0 : Heap} (k : Kof TB E K l cX11_goals RX11 rm_Re_goals) {w : World} {x6 : Int} {x7 : Int} {o1 o2 o3 o4 o5 : Option Value} (r_x6 : R32 x6) (r_x7 : R32 x7) {out : ((World × Int) ⊕ ((World × Int) ⊕ (World × Int)))} (hf : f_Re_goals_98B w x6 x7 = some out) (hc : (Sum.elim (HW_Re_goals_98 E K H0 x6) (Sum.elim (HW_Re_goals_76 E K H0 ) (fun out : (World × Int) => RetI TB E K H0 cX11_goals out.1 out.2))) out) : Jj K (WdT TB E H0) w 98 [some (rf E.ad 1), o1, o2, o3, o4, o5, some (.int (ii x6)), some (.int (ii x7))] [] := by
  unfold f_Re_goals_98B at hf
  have o := k.1
  have g := k.2.1
  have kr := k.2.2.1
  refine J_iload o dX11_goals_98 rfl ?_
  refine J_aload_n o dX11_goals_100 rfl ?_
  refine J_getI o g dX11_goals_101 flX11_159 kB_1 rfl (fun q1 => ?_)
  refine J_icmp_ge 148 o dX11_goals_104 (by decide) r_x7 q1 (fun c2 => ?_) (fun c3 => ?_)
  · have hf := ite_t c2 hf
    have hf := bl_out hf
    refine J_iinc o dX11_goals_148 rfl ?_
    refine J_goto 76 o dX11_goals_151 (by decide) ?_
    have hf := some_inj hf
    subst hf
    exact hc (R_wr _) _ _ _ _ _ _
  · have hf := ite_f c3 hf
    refine J_aload_n o dX11_goals_107 rfl ?_
    refine J_getF (true, 13) o g dX11_goals_108 flX11_44 kB_1 rfl rfl rfl ?_
    refine J_iload o dX11_goals_111 rfl ?_
    obtain ⟨g5, hf⟩ := gd_some hf
    refine J_zald o g dX11_goals_113 kB_13 r_x7 zB_13 g5 (fun q6 => ?_)
    refine J_if_ne 142 o dX11_goals_114 (by decide) q6 (fun c7 => ?_) (fun c8 => ?_)
    · have hf := ite_f c7 hf
      exact t_Re_goals_142 k r_x6 r_x7 hf hc
    · have hf := ite_t c8 hf
      refine J_aload_n o dX11_goals_117 rfl ?_
      refine J_getF (true, 14) o g dX11_goals_118 flX11_47 kB_1 rfl rfl rfl ?_
      refine J_iload o dX11_goals_121 rfl ?_
      obtain ⟨g9, hf⟩ := gd_some hf
      refine J_iald o g dX11_goals_123 kB_14 r_x7 zB_14 g9 (fun q10 => ?_)
      refine J_aload_n o dX11_goals_124 rfl ?_
      refine J_getF (true, 27) o g dX11_goals_125 flX11_86 kB_1 rfl rfl rfl ?_
      refine J_iload o dX11_goals_128 rfl ?_
      obtain ⟨g11, hf⟩ := gd_some hf
      refine J_iald o g dX11_goals_130 kB_27 r_x6 zB_27 g11 (fun q12 => ?_)
      refine J_icmp_ne 142 o dX11_goals_131 (by decide) q10 q12 (fun c13 => ?_) (fun c14 => ?_)
      · have hf := ite_f c13 hf
        exact t_Re_goals_142 k r_x6 r_x7 hf hc
      · have hf := ite_t c14 hf
        refine J_aload_n o dX11_goals_134 rfl ?_
        refine J_iload o dX11_goals_135 rfl ?_
        refine J_iload o dX11_goals_137 rfl ?_
        obtain ⟨v16, e15, hf⟩ := bnd_some hf
        refine J_vV o g kr dX11_goals_139 lkX11_296 ml_Re_askBy vl_Re_askBy ⟨rfl, rfl, Nat.le_of_ble_eq_true rfl, Nat.le_of_ble_eq_true rfl⟩ (c_Re_askBy g.2.1 r_x7 r_x6 e15) kB_1 rfl ⟨by decide, by decide⟩ rfl rfl c1s_0 ?_
        exact t_Re_goals_142 k r_x6 r_x7 hf hc
noncomputable def f_Re_goals_98 (w : World) (x6 : Int) (x7 : Int) : Option ((World × Int) ⊕ (World × Int)) :=
  lp (fun z : (World × Int) => f_Re_goals_98B z.1 x6 z.2) (w, x7)
theorem t_Re_goals_98 {E : EE} {K : KT} {l : Launch} {H0 : Heap} (k : Kof TB E K l cX11_goals RX11 rm_Re_goals) {w : World} {x6 : Int} {x7 : Int} (r_x6 : R32 x6) {out : ((World × Int) ⊕ (World × Int))} (hf : f_Re_goals_98 w x6 x7 = some out) (hc : (Sum.elim (HW_Re_goals_76 E K H0 ) (fun out : (World × Int) => RetI TB E K H0 cX11_goals out.1 out.2)) out) : HW_Re_goals_98 E K H0 x6 (w, x7) := by
  unfold f_Re_goals_98 at hf
  refine lp_ind (P := HW_Re_goals_98 E K H0 x6) hf ?_
  intro z o hs h1 h2
  intro r_x7
  intro o1 o2 o3 o4 o5
  refine t_Re_goals_98B k r_x6 r_x7 hs ?_
  cases o with
  | inl z' => exact h1 z' rfl
  | inr r' => rw [h2 r' rfl]; exact hc
noncomputable def f_Re_goals_76B (w : World) (x6 : Int) : Option ((World × Int) ⊕ (World × Int)) :=
  if (w 1 32) ≤ x6 then (bnd (f_Re_goals_154 w) fun y4 => some (Sum.inr y4)) else (if 400 ≤ (w 1 32) then (bnd (f_Re_goals_154 w) fun y8 => some (Sum.inr y8)) else (f_Re_goals_98 w x6 0))
theorem t_Re_goals_76B {E : EE} {K : KT} {l : Launch} {H0 : Heap} (k : Kof TB E K l cX11_goals RX11 rm_Re_goals) {w : World} {x6 : Int} {o1 o2 o3 o4 o5 o7 : Option Value} (r_x6 : R32 x6) {out : ((World × Int) ⊕ (World × Int))} (hf : f_Re_goals_76B w x6 = some out) (hc : (Sum.elim (HW_Re_goals_76 E K H0 ) (fun out : (World × Int) => RetI TB E K H0 cX11_goals out.1 out.2)) out) : Jj K (WdT TB E H0) w 76 [some (rf E.ad 1), o1, o2, o3, o4, o5, some (.int (ii x6)), o7] [] := by
  unfold f_Re_goals_76B at hf
  have o := k.1
  have g := k.2.1
  have kr := k.2.2.1
  refine J_iload o dX11_goals_76 rfl ?_
  refine J_aload_n o dX11_goals_78 rfl ?_
  refine J_getI o g dX11_goals_79 flX11_286 kB_1 rfl (fun q1 => ?_)
  refine J_icmp_ge 154 o dX11_goals_82 (by decide) r_x6 q1 (fun c2 => ?_) (fun c3 => ?_)
  · have hf := ite_t c2 hf
    obtain ⟨y4, hf1, hf⟩ := bnd_some hf
    have hf := some_inj hf
    subst hf
    exact t_Re_goals_154 k  hf1 hc
  · have hf := ite_f c3 hf
    refine J_aload_n o dX11_goals_85 rfl ?_
    refine J_getI o g dX11_goals_86 flX11_286 kB_1 rfl (fun q5 => ?_)
    refine J_sipush o dX11_goals_89 (by decide) ?_
    refine J_icmp_ge 154 o dX11_goals_92 (by decide) q5 rl400 (fun c6 => ?_) (fun c7 => ?_)
    · have hf := ite_t c6 hf
      obtain ⟨y8, hf1, hf⟩ := bnd_some hf
      have hf := some_inj hf
      subst hf
      exact t_Re_goals_154 k  hf1 hc
    · have hf := ite_f c7 hf
      refine J_iconst o dX11_goals_95 ?_
      refine J_istore o dX11_goals_96 (Nat.le_of_ble_eq_true rfl) ?_
      exact (t_Re_goals_98 k r_x6 hf hc) rl0 _ _ _ _ _
noncomputable def f_Re_goals_76 (w : World) (x6 : Int) : Option (World × Int) :=
  lp (fun z : (World × Int) => f_Re_goals_76B z.1 z.2) (w, x6)
theorem t_Re_goals_76 {E : EE} {K : KT} {l : Launch} {H0 : Heap} (k : Kof TB E K l cX11_goals RX11 rm_Re_goals) {w : World} {x6 : Int}  {out : (World × Int)} (hf : f_Re_goals_76 w x6 = some out) (hc : (fun out : (World × Int) => RetI TB E K H0 cX11_goals out.1 out.2) out) : HW_Re_goals_76 E K H0  (w, x6) := by
  unfold f_Re_goals_76 at hf
  refine lp_ind (P := HW_Re_goals_76 E K H0 ) hf ?_
  intro z o hs h1 h2
  intro r_x6
  intro o1 o2 o3 o4 o5 o7
  refine t_Re_goals_76B k r_x6 hs ?_
  cases o with
  | inl z' => exact h1 z' rfl
  | inr r' => rw [h2 r' rfl]; exact hc
noncomputable def f_Re_goals_51 (w : World) (x1 : Int) (x2 : Int) (x3 : Int) (x4 : Int) (s1 : Int) : Option (World × Int) :=
  bnd (f_Re_refused w s1) fun v2 => if v2.2 = 0 then (bl (up v2.1 1 32 0) fun w6 => bnd (f_Re_ask w6 x1 x2 x3 x4) fun v8 => f_Re_goals_76 v8 0) else (some (v2.1, 0))
theorem t_Re_goals_51 {E : EE} {K : KT} {l : Launch} {H0 : Heap} (k : Kof TB E K l cX11_goals RX11 rm_Re_goals) {w : World} {x1 : Int} {x2 : Int} {x3 : Int} {x4 : Int} {s1 : Int} {o5 o6 o7 : Option Value} (r_x1 : R32 x1) (r_x2 : R32 x2) (r_x3 : R32 x3) (r_x4 : R32 x4) (r_s1 : R32 s1) {out : (World × Int)} (hf : f_Re_goals_51 w x1 x2 x3 x4 s1 = some out) (hc : (fun out : (World × Int) => RetI TB E K H0 cX11_goals out.1 out.2) out) : Jj K (WdT TB E H0) w 51 [some (rf E.ad 1), some (.int (ii x1)), some (.int (ii x2)), some (.int (ii x3)), some (.int (ii x4)), o5, o6, o7] [.int (ii s1), rf E.ad 1] := by
  unfold f_Re_goals_51 at hf
  have o := k.1
  have g := k.2.1
  have kr := k.2.2.1
  obtain ⟨v2, e1, hf⟩ := bnd_some hf
  refine J_vI o g kr dX11_goals_51 lkX11_113 ml_Re_refused vl_Re_refused ⟨rfl, rfl, Nat.le_of_ble_eq_true rfl, Nat.le_of_ble_eq_true rfl⟩ (c_Re_refused g.2.1 r_s1 e1) kB_1 rfl ⟨by decide, by decide⟩ rfl rfl c1s_0 (fun q3 => ?_)
  refine J_if_eq 59 o dX11_goals_54 (by decide) q3 (fun c4 => ?_) (fun c5 => ?_)
  · have hf := ite_t c4 hf
    refine J_aload_n o dX11_goals_59 rfl ?_
    refine J_iconst o dX11_goals_60 ?_
    refine J_putI o g dX11_goals_61 fpX11_286 kB_1 rfl rfl rl0 ?_
    have hf := bl_out hf
    refine J_aload_n o dX11_goals_64 rfl ?_
    refine J_iload_n o dX11_goals_65 rfl ?_
    refine J_iload_n o dX11_goals_66 rfl ?_
    refine J_iload_n o dX11_goals_67 rfl ?_
    refine J_iload o dX11_goals_68 rfl ?_
    obtain ⟨v8, e7, hf⟩ := bnd_some hf
    refine J_vV o g kr dX11_goals_70 lkX11_292 ml_Re_ask vl_Re_ask ⟨rfl, rfl, Nat.le_of_ble_eq_true rfl, Nat.le_of_ble_eq_true rfl⟩ (c_Re_ask g.2.1 r_x1 r_x2 r_x3 r_x4 e7) kB_1 rfl ⟨by decide, by decide⟩ rfl rfl c1s_0 ?_
    refine J_iconst o dX11_goals_73 ?_
    refine J_istore o dX11_goals_74 (Nat.le_of_ble_eq_true rfl) ?_
    exact (t_Re_goals_76 k  hf hc) rl0 _ _ _ _ _ _
  · have hf := ite_f c5 hf
    refine J_iconst o dX11_goals_57 ?_
    have hf := some_inj hf
    subst hf
    exact hc _ _ rl0 dX11_goals_58
noncomputable def f_Re_goals_26 (w : World) (x1 : Int) (x2 : Int) (x3 : Int) (x4 : Int) (s0 : Int) : Option (World × Int) :=
  bnd (f_Re_isRelation w x1) fun v2 => if v2 = 0 then (f_Re_goals_51 w x1 x2 x3 x4 1) else (if s0 = 0 then (f_Re_goals_51 w x1 x2 x3 x4 2) else (f_Re_goals_51 w x1 x2 x3 x4 0))
theorem t_Re_goals_26 {E : EE} {K : KT} {l : Launch} {H0 : Heap} (k : Kof TB E K l cX11_goals RX11 rm_Re_goals) {w : World} {x1 : Int} {x2 : Int} {x3 : Int} {x4 : Int} {s0 : Int} {o5 o6 o7 : Option Value} (r_x1 : R32 x1) (r_x2 : R32 x2) (r_x3 : R32 x3) (r_x4 : R32 x4) (r_s0 : R32 s0) {out : (World × Int)} (hf : f_Re_goals_26 w x1 x2 x3 x4 s0 = some out) (hc : (fun out : (World × Int) => RetI TB E K H0 cX11_goals out.1 out.2) out) : Jj K (WdT TB E H0) w 26 [some (rf E.ad 1), some (.int (ii x1)), some (.int (ii x2)), some (.int (ii x3)), some (.int (ii x4)), o5, o6, o7] [.int (ii s0)] := by
  unfold f_Re_goals_26 at hf
  have o := k.1
  have g := k.2.1
  have kr := k.2.2.1
  refine J_istore o dX11_goals_26 (Nat.le_of_ble_eq_true rfl) ?_
  refine J_aload_n o dX11_goals_28 rfl ?_
  refine J_aload_n o dX11_goals_29 rfl ?_
  refine J_iload_n o dX11_goals_30 rfl ?_
  obtain ⟨v2, e1, hf⟩ := bnd_some hf
  refine J_vI o g kr dX11_goals_31 lkX11_117 ml_Re_isRelation vl_Re_isRelation ⟨rfl, rfl, Nat.le_of_ble_eq_true rfl, Nat.le_of_ble_eq_true rfl⟩ (c_Re_isRelation g.2.1 r_x1 e1) kB_1 rfl ⟨by decide, by decide⟩ rfl rfl (c1s_r c1s_0 (Nat.le_of_ble_eq_true rfl)) (fun q3 => ?_)
  refine J_if_ne 41 o dX11_goals_34 (by decide) q3 (fun c4 => ?_) (fun c5 => ?_)
  · have hf := ite_f c4 hf
    refine J_iload o dX11_goals_41 rfl ?_
    refine J_if_eq 50 o dX11_goals_43 (by decide) r_s0 (fun c6 => ?_) (fun c7 => ?_)
    · have hf := ite_t c6 hf
      refine J_iconst o dX11_goals_50 ?_
      exact t_Re_goals_51 k r_x1 r_x2 r_x3 r_x4 rl2 hf hc
    · have hf := ite_f c7 hf
      refine J_iconst o dX11_goals_46 ?_
      refine J_goto 51 o dX11_goals_47 (by decide) ?_
      exact t_Re_goals_51 k r_x1 r_x2 r_x3 r_x4 rl0 hf hc
  · have hf := ite_t c5 hf
    refine J_iconst o dX11_goals_37 ?_
    refine J_goto 51 o dX11_goals_38 (by decide) ?_
    exact t_Re_goals_51 k r_x1 r_x2 r_x3 r_x4 rl1 hf hc
noncomputable def f_Re_goals_25 (w : World) (x1 : Int) (x2 : Int) (x3 : Int) (x4 : Int) : Option (World × Int) :=
  f_Re_goals_26 w x1 x2 x3 x4 0
theorem t_Re_goals_25 {E : EE} {K : KT} {l : Launch} {H0 : Heap} (k : Kof TB E K l cX11_goals RX11 rm_Re_goals) {w : World} {x1 : Int} {x2 : Int} {x3 : Int} {x4 : Int} {o5 o6 o7 : Option Value} (r_x1 : R32 x1) (r_x2 : R32 x2) (r_x3 : R32 x3) (r_x4 : R32 x4) {out : (World × Int)} (hf : f_Re_goals_25 w x1 x2 x3 x4 = some out) (hc : (fun out : (World × Int) => RetI TB E K H0 cX11_goals out.1 out.2) out) : Jj K (WdT TB E H0) w 25 [some (rf E.ad 1), some (.int (ii x1)), some (.int (ii x2)), some (.int (ii x3)), some (.int (ii x4)), o5, o6, o7] [] := by
  unfold f_Re_goals_25 at hf
  have o := k.1
  have g := k.2.1
  have kr := k.2.2.1
  refine J_iconst o dX11_goals_25 ?_
  exact t_Re_goals_26 k r_x1 r_x2 r_x3 r_x4 rl0 hf hc
noncomputable def f_Re_goals (w : World) (x1 : Int) (x2 : Int) (x3 : Int) (x4 : Int) : Option (World × Int) :=
  bnd (f_Re_isRelation w x1) fun v2 => if v2 = 0 then (f_Re_goals_25 w x1 x2 x3 x4) else (bnd (f_Re_areValues w x1 x2 x3 x4 1) fun v7 => if v7 = 0 then (f_Re_goals_25 w x1 x2 x3 x4) else (f_Re_goals_26 w x1 x2 x3 x4 1))
theorem t_Re_goals_0 {E : EE} {K : KT} {l : Launch} {H0 : Heap} (k : Kof TB E K l cX11_goals RX11 rm_Re_goals) {w : World} {x1 : Int} {x2 : Int} {x3 : Int} {x4 : Int} {o5 o6 o7 : Option Value} (r_x1 : R32 x1) (r_x2 : R32 x2) (r_x3 : R32 x3) (r_x4 : R32 x4) {out : (World × Int)} (hf : f_Re_goals w x1 x2 x3 x4 = some out) (hc : (fun out : (World × Int) => RetI TB E K H0 cX11_goals out.1 out.2) out) : Jj K (WdT TB E H0) w 0 [some (rf E.ad 1), some (.int (ii x1)), some (.int (ii x2)), some (.int (ii x3)), some (.int (ii x4)), o5, o6, o7] [] := by
  unfold f_Re_goals at hf
  have o := k.1
  have g := k.2.1
  have kr := k.2.2.1
  refine J_aload_n o dX11_goals_0 rfl ?_
  refine J_iload_n o dX11_goals_1 rfl ?_
  obtain ⟨v2, e1, hf⟩ := bnd_some hf
  refine J_vI o g kr dX11_goals_2 lkX11_117 ml_Re_isRelation vl_Re_isRelation ⟨rfl, rfl, Nat.le_of_ble_eq_true rfl, Nat.le_of_ble_eq_true rfl⟩ (c_Re_isRelation g.2.1 r_x1 e1) kB_1 rfl ⟨by decide, by decide⟩ rfl rfl c1s_0 (fun q3 => ?_)
  refine J_if_eq 25 o dX11_goals_5 (by decide) q3 (fun c4 => ?_) (fun c5 => ?_)
  · have hf := ite_t c4 hf
    exact t_Re_goals_25 k r_x1 r_x2 r_x3 r_x4 hf hc
  · have hf := ite_f c5 hf
    refine J_aload_n o dX11_goals_8 rfl ?_
    refine J_iload_n o dX11_goals_9 rfl ?_
    refine J_iload_n o dX11_goals_10 rfl ?_
    refine J_iload_n o dX11_goals_11 rfl ?_
    refine J_iload o dX11_goals_12 rfl ?_
    refine J_iconst o dX11_goals_14 ?_
    obtain ⟨v7, e6, hf⟩ := bnd_some hf
    refine J_vI o g kr dX11_goals_15 lkX11_120 ml_Re_areValues vl_Re_areValues ⟨rfl, rfl, Nat.le_of_ble_eq_true rfl, Nat.le_of_ble_eq_true rfl⟩ (c_Re_areValues g.2.1 r_x1 r_x2 r_x3 r_x4 rl1 e6) kB_1 rfl ⟨by decide, by decide⟩ rfl rfl c1s_0 (fun q8 => ?_)
    refine J_if_eq 25 o dX11_goals_18 (by decide) q8 (fun c9 => ?_) (fun c10 => ?_)
    · have hf := ite_t c9 hf
      exact t_Re_goals_25 k r_x1 r_x2 r_x3 r_x4 hf hc
    · have hf := ite_f c10 hf
      refine J_iconst o dX11_goals_21 ?_
      refine J_goto 26 o dX11_goals_22 (by decide) ?_
      exact t_Re_goals_26 k r_x1 r_x2 r_x3 r_x4 rl1 hf hc
theorem c_Re_goals {E : EE} {l : Launch} (hI : Inj TB E) {w : World} {x1 : Int} {x2 : Int} {x3 : Int} {x4 : Int} (r_x1 : R32 x1) (r_x2 : R32 x2) (r_x3 : R32 x3) (r_x4 : R32 x4) {out : (World × Int)} (hf : f_Re_goals w x1 x2 x3 x4 = some out) : ConI TB E l yX11_goals (WS yX11_goals cX11_goals 8 (some .int)) rm_Re_goals [rf E.ad 1, .int (ii x1), .int (ii x2), .int (ii x3), .int (ii x4)] w out.1 out.2 :=
  con_I (by decide +kernel) rfl (Nat.le_of_ble_eq_true rfl) (c1s_r (c1s_i (c1s_i (c1s_i (c1s_i c1s_0 (Nat.le_of_ble_eq_true rfl)) (Nat.le_of_ble_eq_true rfl)) (Nat.le_of_ble_eq_true rfl)) (Nat.le_of_ble_eq_true rfl)) (Nat.le_of_ble_eq_true rfl)).1 ⟨rfl, rfl⟩ hI TnB (fun K H0 k hret => t_Re_goals_0 k r_x1 r_x2 r_x3 r_x4 hf hret)
abbrev rm_Re_searched : Room := { frames := 1, cells := 0, slots := 0, locals := 24 }
def HW_Re_searched_5 (E : EE) (K : KT) (H0 : Heap) (w : World) (x1 : Int) (x2 : Int) : (Int × Int) → Prop := fun z => R32 z.1 → R32 z.2 → ∀ o5 : Option Value, Jj K (WdT TB E H0) w 5 [some (rf E.ad 1), some (.int (ii x1)), some (.int (ii x2)), some (.int (ii z.1)), some (.int (ii z.2)), o5] []
noncomputable def f_Re_searched_60 (w : World) (x1 : Int) (x2 : Int) (x4 : Int) (s0 : Int) (s1 : Int) : Option ((Int × Int) ⊕ Int) :=
  bl (ior s0 s1) fun n1 => bl (wr (x4 + 1)) fun n2 => some (Sum.inl (n1, n2))
theorem t_Re_searched_60 {E : EE} {K : KT} {l : Launch} {H0 : Heap} (k : Kof TB E K l cX11_searched RX11 rm_Re_searched) {w : World} {x1 : Int} {x2 : Int} {x4 : Int} {s0 : Int} {s1 : Int} {o3 o5 : Option Value} (r_x1 : R32 x1) (r_x2 : R32 x2) (r_x4 : R32 x4) (r_s0 : R32 s0) (r_s1 : R32 s1) {out : ((Int × Int) ⊕ Int)} (hf : f_Re_searched_60 w x1 x2 x4 s0 s1 = some out) (hc : (Sum.elim (HW_Re_searched_5 E K H0 w x1 x2) (fun out : Int => RetI TB E K H0 cX11_searched w out)) out) : Jj K (WdT TB E H0) w 60 [some (rf E.ad 1), some (.int (ii x1)), some (.int (ii x2)), o3, some (.int (ii x4)), o5] [.int (ii s1), .int (ii s0)] := by
  unfold f_Re_searched_60 at hf
  have o := k.1
  have g := k.2.1
  have kr := k.2.2.1
  refine J_ior o dX11_searched_60 ?_
  refine J_istore_n o dX11_searched_61 (Nat.le_of_ble_eq_true rfl) ?_
  have hf := bl_out hf
  have hf := bl_out hf
  refine J_iinc o dX11_searched_62 rfl ?_
  refine J_goto 5 o dX11_searched_65 (by decide) ?_
  have hf := some_inj hf
  subst hf
  exact hc (R_ior _ _) (R_wr _) _
noncomputable def f_Re_searched_52 (w : World) (x1 : Int) (x2 : Int) (x4 : Int) (s0 : Int) : Option ((Int × Int) ⊕ Int) :=
  f_Re_searched_60 w x1 x2 x4 s0 (ishl 1 x4)
theorem t_Re_searched_52 {E : EE} {K : KT} {l : Launch} {H0 : Heap} (k : Kof TB E K l cX11_searched RX11 rm_Re_searched) {w : World} {x1 : Int} {x2 : Int} {x4 : Int} {s0 : Int} {o3 o5 : Option Value} (r_x1 : R32 x1) (r_x2 : R32 x2) (r_x4 : R32 x4) (r_s0 : R32 s0) {out : ((Int × Int) ⊕ Int)} (hf : f_Re_searched_52 w x1 x2 x4 s0 = some out) (hc : (Sum.elim (HW_Re_searched_5 E K H0 w x1 x2) (fun out : Int => RetI TB E K H0 cX11_searched w out)) out) : Jj K (WdT TB E H0) w 52 [some (rf E.ad 1), some (.int (ii x1)), some (.int (ii x2)), o3, some (.int (ii x4)), o5] [.int (ii s0)] := by
  unfold f_Re_searched_52 at hf
  have o := k.1
  have g := k.2.1
  have kr := k.2.2.1
  refine J_iconst o dX11_searched_52 ?_
  refine J_iload o dX11_searched_53 rfl ?_
  refine J_ishl o dX11_searched_55 ?_
  refine J_goto 60 o dX11_searched_56 (by decide) ?_
  exact t_Re_searched_60 k r_x1 r_x2 r_x4 r_s0 (R_ishl _ _) hf hc
noncomputable def f_Re_searched_5B (w : World) (x1 : Int) (x2 : Int) (x3 : Int) (x4 : Int) : Option ((Int × Int) ⊕ Int) :=
  gd (0 ≤ x1 ∧ x1 < 95) (gd (0 ≤ w 18 x1.toNat ∧ w 18 x1.toNat < 10) (if (w 3 (w 18 x1.toNat).toNat) ≤ x4 then (some (Sum.inr x3)) else (gd (0 ≤ wr ((wr (3 * x1)) + x4) ∧ wr ((wr (3 * x1)) + x4) < 285) (bl (w 19 (wr ((wr (3 * x1)) + x4)).toNat) fun n9 => if 0 ≤ n9 then (f_Re_searched_52 w x1 x2 x4 x3) else (if (iand (ishr x2 (wr ((-1) - n9))) 1) = 1 then (f_Re_searched_52 w x1 x2 x4 x3) else (f_Re_searched_60 w x1 x2 x4 x3 0))))))
theorem t_Re_searched_5B {E : EE} {K : KT} {l : Launch} {H0 : Heap} (k : Kof TB E K l cX11_searched RX11 rm_Re_searched) {w : World} {x1 : Int} {x2 : Int} {x3 : Int} {x4 : Int} {o5 : Option Value} (r_x1 : R32 x1) (r_x2 : R32 x2) (r_x3 : R32 x3) (r_x4 : R32 x4) {out : ((Int × Int) ⊕ Int)} (hf : f_Re_searched_5B w x1 x2 x3 x4 = some out) (hc : (Sum.elim (HW_Re_searched_5 E K H0 w x1 x2) (fun out : Int => RetI TB E K H0 cX11_searched w out)) out) : Jj K (WdT TB E H0) w 5 [some (rf E.ad 1), some (.int (ii x1)), some (.int (ii x2)), some (.int (ii x3)), some (.int (ii x4)), o5] [] := by
  unfold f_Re_searched_5B at hf
  have o := k.1
  have g := k.2.1
  have kr := k.2.2.1
  refine J_iload o dX11_searched_5 rfl ?_
  refine J_aload_n o dX11_searched_7 rfl ?_
  refine J_getF (true, 3) o g dX11_searched_8 flX11_13 kB_1 rfl rfl rfl ?_
  refine J_aload_n o dX11_searched_11 rfl ?_
  refine J_getF (true, 18) o g dX11_searched_12 flX11_59 kB_1 rfl rfl rfl ?_
  refine J_iload_n o dX11_searched_15 rfl ?_
  obtain ⟨g1, hf⟩ := gd_some hf
  refine J_iald o g dX11_searched_16 kB_18 r_x1 zB_18 g1 (fun q2 => ?_)
  obtain ⟨g3, hf⟩ := gd_some hf
  refine J_iald o g dX11_searched_17 kB_3 q2 zB_3 g3 (fun q4 => ?_)
  refine J_icmp_ge 68 o dX11_searched_18 (by decide) r_x4 q4 (fun c5 => ?_) (fun c6 => ?_)
  · have hf := ite_t c5 hf
    refine J_iload_n o dX11_searched_68 rfl ?_
    have hf := some_inj hf
    subst hf
    exact hc _ _ r_x3 dX11_searched_69
  · have hf := ite_f c6 hf
    refine J_aload_n o dX11_searched_21 rfl ?_
    refine J_getF (true, 19) o g dX11_searched_22 flX11_62 kB_1 rfl rfl rfl ?_
    refine J_iconst o dX11_searched_25 ?_
    refine J_iload_n o dX11_searched_26 rfl ?_
    refine J_imul o dX11_searched_27 ?_
    refine J_iload o dX11_searched_28 rfl ?_
    refine J_iadd o dX11_searched_30 ?_
    obtain ⟨g7, hf⟩ := gd_some hf
    refine J_iald o g dX11_searched_31 kB_19 (R_wr _) zB_19 g7 (fun q8 => ?_)
    refine J_istore o dX11_searched_32 (Nat.le_of_ble_eq_true rfl) ?_
    have hf := bl_out hf
    refine J_iload_n o dX11_searched_34 rfl ?_
    refine J_iload o dX11_searched_35 rfl ?_
    refine J_if_ge 52 o dX11_searched_37 (by decide) q8 (fun c10 => ?_) (fun c11 => ?_)
    · have hf := ite_t c10 hf
      exact t_Re_searched_52 k r_x1 r_x2 r_x4 r_x3 hf hc
    · have hf := ite_f c11 hf
      refine J_iload_n o dX11_searched_40 rfl ?_
      refine J_iconst o dX11_searched_41 ?_
      refine J_iload o dX11_searched_42 rfl ?_
      refine J_isub o dX11_searched_44 ?_
      refine J_ishr o dX11_searched_45 ?_
      refine J_iconst o dX11_searched_46 ?_
      refine J_iand o dX11_searched_47 ?_
      refine J_iconst o dX11_searched_48 ?_
      refine J_icmp_ne 59 o dX11_searched_49 (by decide) (R_iand _ _) rl1 (fun c12 => ?_) (fun c13 => ?_)
      · have hf := ite_f c12 hf
        refine J_iconst o dX11_searched_59 ?_
        exact t_Re_searched_60 k r_x1 r_x2 r_x4 r_x3 rl0 hf hc
      · have hf := ite_t c13 hf
        exact t_Re_searched_52 k r_x1 r_x2 r_x4 r_x3 hf hc
noncomputable def f_Re_searched_5 (w : World) (x1 : Int) (x2 : Int) (x3 : Int) (x4 : Int) : Option Int :=
  lp (fun z : (Int × Int) => f_Re_searched_5B w x1 x2 z.1 z.2) (x3, x4)
theorem t_Re_searched_5 {E : EE} {K : KT} {l : Launch} {H0 : Heap} (k : Kof TB E K l cX11_searched RX11 rm_Re_searched) {w : World} {x1 : Int} {x2 : Int} {x3 : Int} {x4 : Int} (r_x1 : R32 x1) (r_x2 : R32 x2) {out : Int} (hf : f_Re_searched_5 w x1 x2 x3 x4 = some out) (hc : (fun out : Int => RetI TB E K H0 cX11_searched w out) out) : HW_Re_searched_5 E K H0 w x1 x2 (x3, x4) := by
  unfold f_Re_searched_5 at hf
  refine lp_ind (P := HW_Re_searched_5 E K H0 w x1 x2) hf ?_
  intro z o hs h1 h2
  intro r_x3 r_x4
  intro o5
  refine t_Re_searched_5B k r_x1 r_x2 r_x3 r_x4 hs ?_
  cases o with
  | inl z' => exact h1 z' rfl
  | inr r' => rw [h2 r' rfl]; exact hc
noncomputable def f_Re_searched (w : World) (x1 : Int) (x2 : Int) : Option Int :=
  f_Re_searched_5 w x1 x2 0 0
theorem t_Re_searched_0 {E : EE} {K : KT} {l : Launch} {H0 : Heap} (k : Kof TB E K l cX11_searched RX11 rm_Re_searched) {w : World} {x1 : Int} {x2 : Int} {o3 o4 o5 : Option Value} (r_x1 : R32 x1) (r_x2 : R32 x2) {out : Int} (hf : f_Re_searched w x1 x2 = some out) (hc : (fun out : Int => RetI TB E K H0 cX11_searched w out) out) : Jj K (WdT TB E H0) w 0 [some (rf E.ad 1), some (.int (ii x1)), some (.int (ii x2)), o3, o4, o5] [] := by
  unfold f_Re_searched at hf
  have o := k.1
  have g := k.2.1
  have kr := k.2.2.1
  refine J_iconst o dX11_searched_0 ?_
  refine J_istore_n o dX11_searched_1 (Nat.le_of_ble_eq_true rfl) ?_
  refine J_iconst o dX11_searched_2 ?_
  refine J_istore o dX11_searched_3 (Nat.le_of_ble_eq_true rfl) ?_
  exact (t_Re_searched_5 k r_x1 r_x2 hf hc) rl0 rl0 _
theorem c_Re_searched {E : EE} {l : Launch} (hI : Inj TB E) {w : World} {x1 : Int} {x2 : Int} (r_x1 : R32 x1) (r_x2 : R32 x2) {out : Int} (hf : f_Re_searched w x1 x2 = some out) : ConI TB E l yX11_searched (WS yX11_searched cX11_searched 6 (some .int)) rm_Re_searched [rf E.ad 1, .int (ii x1), .int (ii x2)] w w out :=
  con_I (by decide +kernel) rfl (Nat.le_of_ble_eq_true rfl) (c1s_r (c1s_i (c1s_i c1s_0 (Nat.le_of_ble_eq_true rfl)) (Nat.le_of_ble_eq_true rfl)) (Nat.le_of_ble_eq_true rfl)).1 ⟨rfl, rfl⟩ hI TnB (fun K H0 k hret => t_Re_searched_0 k r_x1 r_x2 hf hret)
abbrev rm_Re_bits : Room := { frames := 1, cells := 0, slots := 0, locals := 24 }
noncomputable def f_Re_bits (x0 : Int) : Option Int :=
  some (wr ((wr ((iand x0 1) + (iand (ishr x0 1) 1))) + (iand (ishr x0 2) 1)))
theorem t_Re_bits_0 {E : EE} {K : KT} {l : Launch} {H0 : Heap} (k : Kof TB E K l cX11_bits RX11 rm_Re_bits) {w0 : World} {x0 : Int} (r_x0 : R32 x0) {out : Int} (hf : f_Re_bits x0 = some out) (hc : (fun out : Int => RetI TB E K H0 cX11_bits w0 out) out) : Jj K (WdT TB E H0) w0 0 [some (.int (ii x0))] [] := by
  unfold f_Re_bits at hf
  have o := k.1
  have g := k.2.1
  have kr := k.2.2.1
  refine J_iload_n o dX11_bits_0 rfl ?_
  refine J_iconst o dX11_bits_1 ?_
  refine J_iand o dX11_bits_2 ?_
  refine J_iload_n o dX11_bits_3 rfl ?_
  refine J_iconst o dX11_bits_4 ?_
  refine J_ishr o dX11_bits_5 ?_
  refine J_iconst o dX11_bits_6 ?_
  refine J_iand o dX11_bits_7 ?_
  refine J_iadd o dX11_bits_8 ?_
  refine J_iload_n o dX11_bits_9 rfl ?_
  refine J_iconst o dX11_bits_10 ?_
  refine J_ishr o dX11_bits_11 ?_
  refine J_iconst o dX11_bits_12 ?_
  refine J_iand o dX11_bits_13 ?_
  refine J_iadd o dX11_bits_14 ?_
  have hf := some_inj hf
  subst hf
  exact hc _ _ (R_wr _) dX11_bits_15
theorem c_Re_bits {E : EE} {l : Launch} (hI : Inj TB E) {w0 : World} {x0 : Int} (r_x0 : R32 x0) {out : Int} (hf : f_Re_bits x0 = some out) : ConI TB E l yX11_bits (WS yX11_bits cX11_bits 1 (some .int)) rm_Re_bits [.int (ii x0)] w0 w0 out :=
  con_I (by decide +kernel) rfl (Nat.le_of_ble_eq_true rfl) (c1s_i c1s_0 (Nat.le_of_ble_eq_true rfl)).1 ⟨rfl, rfl⟩ hI TnB (fun K H0 k hret => t_Re_bits_0 k r_x0 hf hret)
abbrev rm_Re_makePlan : Room := { frames := 2, cells := 0, slots := 0, locals := 49 }
def HW_Re_makePlan_9 (E : EE) (K : KT) (H0 : Heap) (x1 : Int) : (World × Int × Int) → Prop := fun z => R32 z.2.1 → R32 z.2.2 → ∀ o4 o5 o6 o7 o8 : Option Value, Jj K (WdT TB E H0) z.1 9 [some (rf E.ad 1), some (.int (ii x1)), some (.int (ii z.2.1)), some (.int (ii z.2.2)), o4, o5, o6, o7, o8] []
def HW_Re_makePlan_30 (E : EE) (K : KT) (H0 : Heap) (w : World) (x1 : Int) (x2 : Int) (x3 : Int) : (Int × Int × Int) → Prop := fun z => R32 z.1 → R32 z.2.1 → R32 z.2.2 → ∀ o7 o8 : Option Value, Jj K (WdT TB E H0) w 30 [some (rf E.ad 1), some (.int (ii x1)), some (.int (ii x2)), some (.int (ii x3)), some (.int (ii z.1)), some (.int (ii z.2.1)), some (.int (ii z.2.2)), o7, o8] []
def HW_Re_makePlan_174 (E : EE) (K : KT) (H0 : Heap) (w : World) (x1 : Int) (x2 : Int) (x6 : Int) : (Int × Int) → Prop := fun z => R32 z.1 → R32 z.2 → ∀ o4 o5 o8 : Option Value, Jj K (WdT TB E H0) w 174 [some (rf E.ad 1), some (.int (ii x1)), some (.int (ii x2)), some (.int (ii z.1)), o4, o5, some (.int (ii x6)), some (.int (ii z.2)), o8] []
noncomputable def f_Re_makePlan_227 (w : World) (x1 : Int) (x2 : Int) (x6 : Int) (x7 : Int) (s0 : Int) (s1 : Int) : Option ((Int × Int) ⊕ ((World × Int × Int) ⊕ World)) :=
  bl (ior s0 s1) fun n1 => bl (wr (x7 + 1)) fun n2 => some (Sum.inl (n1, n2))
theorem t_Re_makePlan_227 {E : EE} {K : KT} {l : Launch} {H0 : Heap} (k : Kof TB E K l cX11_makePlan RX11 rm_Re_makePlan) {w : World} {x1 : Int} {x2 : Int} {x6 : Int} {x7 : Int} {s0 : Int} {s1 : Int} {o3 o4 o5 o8 : Option Value} (r_x1 : R32 x1) (r_x2 : R32 x2) (r_x6 : R32 x6) (r_x7 : R32 x7) (r_s0 : R32 s0) (r_s1 : R32 s1) {out : ((Int × Int) ⊕ ((World × Int × Int) ⊕ World))} (hf : f_Re_makePlan_227 w x1 x2 x6 x7 s0 s1 = some out) (hc : (Sum.elim (HW_Re_makePlan_174 E K H0 w x1 x2 x6) (Sum.elim (HW_Re_makePlan_9 E K H0 x1) (fun out : World => RetV TB E K H0 cX11_makePlan out))) out) : Jj K (WdT TB E H0) w 227 [some (rf E.ad 1), some (.int (ii x1)), some (.int (ii x2)), o3, o4, o5, some (.int (ii x6)), some (.int (ii x7)), o8] [.int (ii s1), .int (ii s0)] := by
  unfold f_Re_makePlan_227 at hf
  have o := k.1
  have g := k.2.1
  have kr := k.2.2.1
  refine J_ior o dX11_makePlan_227 ?_
  refine J_istore_n o dX11_makePlan_228 (Nat.le_of_ble_eq_true rfl) ?_
  have hf := bl_out hf
  have hf := bl_out hf
  refine J_iinc o dX11_makePlan_229 rfl ?_
  refine J_goto 174 o dX11_makePlan_232 (by decide) ?_
  have hf := some_inj hf
  subst hf
  exact hc (R_ior _ _) (R_wr _) _ _ _
noncomputable def f_Re_makePlan_174B (w : World) (x1 : Int) (x2 : Int) (x3 : Int) (x6 : Int) (x7 : Int) : Option ((Int × Int) ⊕ ((World × Int × Int) ⊕ World)) :=
  gd (0 ≤ x6 ∧ x6 < 95) (gd (0 ≤ w 18 x6.toNat ∧ w 18 x6.toNat < 10) (if (w 3 (w 18 x6.toNat).toNat) ≤ x7 then (some (Sum.inr (Sum.inl (w, x2, x3)))) else (gd (0 ≤ wr ((wr (3 * x6)) + x7) ∧ wr ((wr (3 * x6)) + x7) < 285) (if 0 ≤ (w 19 (wr ((wr (3 * x6)) + x7)).toNat) then (f_Re_makePlan_227 w x1 x2 x6 x7 x3 0) else (gd (0 ≤ wr ((wr (3 * x6)) + x7) ∧ wr ((wr (3 * x6)) + x7) < 285) (f_Re_makePlan_227 w x1 x2 x6 x7 x3 (ishl 1 (wr ((-1) - (w 19 (wr ((wr (3 * x6)) + x7)).toNat))))))))))
theorem t_Re_makePlan_174B {E : EE} {K : KT} {l : Launch} {H0 : Heap} (k : Kof TB E K l cX11_makePlan RX11 rm_Re_makePlan) {w : World} {x1 : Int} {x2 : Int} {x3 : Int} {x6 : Int} {x7 : Int} {o4 o5 o8 : Option Value} (r_x1 : R32 x1) (r_x2 : R32 x2) (r_x3 : R32 x3) (r_x6 : R32 x6) (r_x7 : R32 x7) {out : ((Int × Int) ⊕ ((World × Int × Int) ⊕ World))} (hf : f_Re_makePlan_174B w x1 x2 x3 x6 x7 = some out) (hc : (Sum.elim (HW_Re_makePlan_174 E K H0 w x1 x2 x6) (Sum.elim (HW_Re_makePlan_9 E K H0 x1) (fun out : World => RetV TB E K H0 cX11_makePlan out))) out) : Jj K (WdT TB E H0) w 174 [some (rf E.ad 1), some (.int (ii x1)), some (.int (ii x2)), some (.int (ii x3)), o4, o5, some (.int (ii x6)), some (.int (ii x7)), o8] [] := by
  unfold f_Re_makePlan_174B at hf
  have o := k.1
  have g := k.2.1
  have kr := k.2.2.1
  refine J_iload o dX11_makePlan_174 rfl ?_
  refine J_aload_n o dX11_makePlan_176 rfl ?_
  refine J_getF (true, 3) o g dX11_makePlan_177 flX11_13 kB_1 rfl rfl rfl ?_
  refine J_aload_n o dX11_makePlan_180 rfl ?_
  refine J_getF (true, 18) o g dX11_makePlan_181 flX11_59 kB_1 rfl rfl rfl ?_
  refine J_iload o dX11_makePlan_184 rfl ?_
  obtain ⟨g1, hf⟩ := gd_some hf
  refine J_iald o g dX11_makePlan_186 kB_18 r_x6 zB_18 g1 (fun q2 => ?_)
  obtain ⟨g3, hf⟩ := gd_some hf
  refine J_iald o g dX11_makePlan_187 kB_3 q2 zB_3 g3 (fun q4 => ?_)
  refine J_icmp_ge 235 o dX11_makePlan_188 (by decide) r_x7 q4 (fun c5 => ?_) (fun c6 => ?_)
  · have hf := ite_t c5 hf
    refine J_goto 9 o dX11_makePlan_235 (by decide) ?_
    have hf := some_inj hf
    subst hf
    exact hc r_x2 r_x3 _ _ _ _ _
  · have hf := ite_f c6 hf
    refine J_iload_n o dX11_makePlan_191 rfl ?_
    refine J_aload_n o dX11_makePlan_192 rfl ?_
    refine J_getF (true, 19) o g dX11_makePlan_193 flX11_62 kB_1 rfl rfl rfl ?_
    refine J_iconst o dX11_makePlan_196 ?_
    refine J_iload o dX11_makePlan_197 rfl ?_
    refine J_imul o dX11_makePlan_199 ?_
    refine J_iload o dX11_makePlan_200 rfl ?_
    refine J_iadd o dX11_makePlan_202 ?_
    obtain ⟨g7, hf⟩ := gd_some hf
    refine J_iald o g dX11_makePlan_203 kB_19 (R_wr _) zB_19 g7 (fun q8 => ?_)
    refine J_if_ge 226 o dX11_makePlan_204 (by decide) q8 (fun c9 => ?_) (fun c10 => ?_)
    · have hf := ite_t c9 hf
      refine J_iconst o dX11_makePlan_226 ?_
      exact t_Re_makePlan_227 k r_x1 r_x2 r_x6 r_x7 r_x3 rl0 hf hc
    · have hf := ite_f c10 hf
      refine J_iconst o dX11_makePlan_207 ?_
      refine J_iconst o dX11_makePlan_208 ?_
      refine J_aload_n o dX11_makePlan_209 rfl ?_
      refine J_getF (true, 19) o g dX11_makePlan_210 flX11_62 kB_1 rfl rfl rfl ?_
      refine J_iconst o dX11_makePlan_213 ?_
      refine J_iload o dX11_makePlan_214 rfl ?_
      refine J_imul o dX11_makePlan_216 ?_
      refine J_iload o dX11_makePlan_217 rfl ?_
      refine J_iadd o dX11_makePlan_219 ?_
      obtain ⟨g11, hf⟩ := gd_some hf
      refine J_iald o g dX11_makePlan_220 kB_19 (R_wr _) zB_19 g11 (fun q12 => ?_)
      refine J_isub o dX11_makePlan_221 ?_
      refine J_ishl o dX11_makePlan_222 ?_
      refine J_goto 227 o dX11_makePlan_223 (by decide) ?_
      exact t_Re_makePlan_227 k r_x1 r_x2 r_x6 r_x7 r_x3 (R_ishl _ _) hf hc
noncomputable def f_Re_makePlan_174 (w : World) (x1 : Int) (x2 : Int) (x3 : Int) (x6 : Int) (x7 : Int) : Option ((World × Int × Int) ⊕ World) :=
  lp (fun z : (Int × Int) => f_Re_makePlan_174B w x1 x2 z.1 x6 z.2) (x3, x7)
theorem t_Re_makePlan_174 {E : EE} {K : KT} {l : Launch} {H0 : Heap} (k : Kof TB E K l cX11_makePlan RX11 rm_Re_makePlan) {w : World} {x1 : Int} {x2 : Int} {x3 : Int} {x6 : Int} {x7 : Int} (r_x1 : R32 x1) (r_x2 : R32 x2) (r_x6 : R32 x6) {out : ((World × Int × Int) ⊕ World)} (hf : f_Re_makePlan_174 w x1 x2 x3 x6 x7 = some out) (hc : (Sum.elim (HW_Re_makePlan_9 E K H0 x1) (fun out : World => RetV TB E K H0 cX11_makePlan out)) out) : HW_Re_makePlan_174 E K H0 w x1 x2 x6 (x3, x7) := by
  unfold f_Re_makePlan_174 at hf
  refine lp_ind (P := HW_Re_makePlan_174 E K H0 w x1 x2 x6) hf ?_
  intro z o hs h1 h2
  intro r_x3 r_x7
  intro o4 o5 o8
  refine t_Re_makePlan_174B k r_x1 r_x2 r_x3 r_x6 r_x7 hs ?_
  cases o with
  | inl z' => exact h1 z' rfl
  | inr r' => rw [h2 r' rfl]; exact hc
noncomputable def f_Re_makePlan_118 (w : World) (x1 : Int) (x2 : Int) (x3 : Int) (x4 : Int) (x5 : Int) (x6 : Int) : Option ((Int × Int × Int) ⊕ ((World × Int × Int) ⊕ World)) :=
  bl (wr (x6 + 1)) fun n1 => some (Sum.inl (x4, x5, n1))
theorem t_Re_makePlan_118 {E : EE} {K : KT} {l : Launch} {H0 : Heap} (k : Kof TB E K l cX11_makePlan RX11 rm_Re_makePlan) {w : World} {x1 : Int} {x2 : Int} {x3 : Int} {x4 : Int} {x5 : Int} {x6 : Int} {o7 o8 : Option Value} (r_x1 : R32 x1) (r_x2 : R32 x2) (r_x3 : R32 x3) (r_x4 : R32 x4) (r_x5 : R32 x5) (r_x6 : R32 x6) {out : ((Int × Int × Int) ⊕ ((World × Int × Int) ⊕ World))} (hf : f_Re_makePlan_118 w x1 x2 x3 x4 x5 x6 = some out) (hc : (Sum.elim (HW_Re_makePlan_30 E K H0 w x1 x2 x3) (Sum.elim (HW_Re_makePlan_9 E K H0 x1) (fun out : World => RetV TB E K H0 cX11_makePlan out))) out) : Jj K (WdT TB E H0) w 118 [some (rf E.ad 1), some (.int (ii x1)), some (.int (ii x2)), some (.int (ii x3)), some (.int (ii x4)), some (.int (ii x5)), some (.int (ii x6)), o7, o8] [] := by
  unfold f_Re_makePlan_118 at hf
  have o := k.1
  have g := k.2.1
  have kr := k.2.2.1
  have hf := bl_out hf
  refine J_iinc o dX11_makePlan_118 rfl ?_
  refine J_goto 30 o dX11_makePlan_121 (by decide) ?_
  have hf := some_inj hf
  subst hf
  exact hc r_x4 r_x5 (R_wr _) _ _
noncomputable def f_Re_makePlan_110 (w : World) (x1 : Int) (x2 : Int) (x3 : Int) (x6 : Int) (x8 : Int) : Option ((Int × Int × Int) ⊕ ((World × Int × Int) ⊕ World)) :=
  f_Re_makePlan_118 w x1 x2 x3 x6 x8 x6
theorem t_Re_makePlan_110 {E : EE} {K : KT} {l : Launch} {H0 : Heap} (k : Kof TB E K l cX11_makePlan RX11 rm_Re_makePlan) {w : World} {x1 : Int} {x2 : Int} {x3 : Int} {x6 : Int} {x8 : Int} {o4 o5 o7 : Option Value} (r_x1 : R32 x1) (r_x2 : R32 x2) (r_x3 : R32 x3) (r_x6 : R32 x6) (r_x8 : R32 x8) {out : ((Int × Int × Int) ⊕ ((World × Int × Int) ⊕ World))} (hf : f_Re_makePlan_110 w x1 x2 x3 x6 x8 = some out) (hc : (Sum.elim (HW_Re_makePlan_30 E K H0 w x1 x2 x3) (Sum.elim (HW_Re_makePlan_9 E K H0 x1) (fun out : World => RetV TB E K H0 cX11_makePlan out))) out) : Jj K (WdT TB E H0) w 110 [some (rf E.ad 1), some (.int (ii x1)), some (.int (ii x2)), some (.int (ii x3)), o4, o5, some (.int (ii x6)), o7, some (.int (ii x8))] [] := by
  unfold f_Re_makePlan_110 at hf
  have o := k.1
  have g := k.2.1
  have kr := k.2.2.1
  refine J_iload o dX11_makePlan_110 rfl ?_
  refine J_istore o dX11_makePlan_112 (Nat.le_of_ble_eq_true rfl) ?_
  refine J_iload o dX11_makePlan_114 rfl ?_
  refine J_istore o dX11_makePlan_116 (Nat.le_of_ble_eq_true rfl) ?_
  exact t_Re_makePlan_118 k r_x1 r_x2 r_x3 r_x6 r_x8 r_x6 hf hc
noncomputable def f_Re_makePlan_70 (w : World) (x1 : Int) (x2 : Int) (x3 : Int) (x4 : Int) (x5 : Int) (x6 : Int) (x7 : Int) (s0 : Int) : Option ((Int × Int × Int) ⊕ ((World × Int × Int) ⊕ World)) :=
  gd (0 ≤ x7 ∧ x7 < 95) (if (w 17 x7.toNat) = 0 then (if (iand (ishr x2 x6) 1) = 0 then (if x4 = (-1) then (f_Re_makePlan_110 w x1 x2 x3 x6 s0) else (bnd (f_Re_bits s0) fun v10 => bnd (f_Re_bits x5) fun v13 => if v10 ≤ v13 then (f_Re_makePlan_118 w x1 x2 x3 x4 x5 x6) else (f_Re_makePlan_110 w x1 x2 x3 x6 s0))) else (f_Re_makePlan_118 w x1 x2 x3 x4 x5 x6)) else (f_Re_makePlan_118 w x1 x2 x3 x4 x5 x6))
theorem t_Re_makePlan_70 {E : EE} {K : KT} {l : Launch} {H0 : Heap} (k : Kof TB E K l cX11_makePlan RX11 rm_Re_makePlan) {w : World} {x1 : Int} {x2 : Int} {x3 : Int} {x4 : Int} {x5 : Int} {x6 : Int} {x7 : Int} {s0 : Int} {o8 : Option Value} (r_x1 : R32 x1) (r_x2 : R32 x2) (r_x3 : R32 x3) (r_x4 : R32 x4) (r_x5 : R32 x5) (r_x6 : R32 x6) (r_x7 : R32 x7) (r_s0 : R32 s0) {out : ((Int × Int × Int) ⊕ ((World × Int × Int) ⊕ World))} (hf : f_Re_makePlan_70 w x1 x2 x3 x4 x5 x6 x7 s0 = some out) (hc : (Sum.elim (HW_Re_makePlan_30 E K H0 w x1 x2 x3) (Sum.elim (HW_Re_makePlan_9 E K H0 x1) (fun out : World => RetV TB E K H0 cX11_makePlan out))) out) : Jj K (WdT TB E H0) w 70 [some (rf E.ad 1), some (.int (ii x1)), some (.int (ii x2)), some (.int (ii x3)), some (.int (ii x4)), some (.int (ii x5)), some (.int (ii x6)), some (.int (ii x7)), o8] [.int (ii s0)] := by
  unfold f_Re_makePlan_70 at hf
  have o := k.1
  have g := k.2.1
  have kr := k.2.2.1
  refine J_istore o dX11_makePlan_70 (Nat.le_of_ble_eq_true rfl) ?_
  refine J_aload_n o dX11_makePlan_72 rfl ?_
  refine J_getF (true, 17) o g dX11_makePlan_73 flX11_56 kB_1 rfl rfl rfl ?_
  refine J_iload o dX11_makePlan_76 rfl ?_
  obtain ⟨g1, hf⟩ := gd_some hf
  refine J_iald o g dX11_makePlan_78 kB_17 r_x7 zB_17 g1 (fun q2 => ?_)
  refine J_if_ne 118 o dX11_makePlan_79 (by decide) q2 (fun c3 => ?_) (fun c4 => ?_)
  · have hf := ite_f c3 hf
    exact t_Re_makePlan_118 k r_x1 r_x2 r_x3 r_x4 r_x5 r_x6 hf hc
  · have hf := ite_t c4 hf
    refine J_iload_n o dX11_makePlan_82 rfl ?_
    refine J_iload o dX11_makePlan_83 rfl ?_
    refine J_ishr o dX11_makePlan_85 ?_
    refine J_iconst o dX11_makePlan_86 ?_
    refine J_iand o dX11_makePlan_87 ?_
    refine J_if_ne 118 o dX11_makePlan_88 (by decide) (R_iand _ _) (fun c5 => ?_) (fun c6 => ?_)
    · have hf := ite_f c5 hf
      exact t_Re_makePlan_118 k r_x1 r_x2 r_x3 r_x4 r_x5 r_x6 hf hc
    · have hf := ite_t c6 hf
      refine J_iload o dX11_makePlan_91 rfl ?_
      refine J_iconst o dX11_makePlan_93 ?_
      refine J_icmp_eq 110 o dX11_makePlan_94 (by decide) r_x4 rlm1 (fun c7 => ?_) (fun c8 => ?_)
      · have hf := ite_t c7 hf
        exact t_Re_makePlan_110 k r_x1 r_x2 r_x3 r_x6 r_s0 hf hc
      · have hf := ite_f c8 hf
        refine J_iload o dX11_makePlan_97 rfl ?_
        obtain ⟨v10, e9, hf⟩ := bnd_some hf
        refine J_sI o g kr dX11_makePlan_99 lkX11_306 ml_Re_bits mw1802 ⟨rfl, rfl, Nat.le_of_ble_eq_true rfl, Nat.le_of_ble_eq_true rfl⟩ (c_Re_bits g.2.1 r_s0 e9) rfl rfl c1s_0 (fun q11 => ?_)
        refine J_iload o dX11_makePlan_102 rfl ?_
        obtain ⟨v13, e12, hf⟩ := bnd_some hf
        refine J_sI o g kr dX11_makePlan_104 lkX11_306 ml_Re_bits mw1802 ⟨rfl, rfl, Nat.le_of_ble_eq_true rfl, Nat.le_of_ble_eq_true rfl⟩ (c_Re_bits g.2.1 r_x5 e12) rfl rfl (c1s_i c1s_0 (Nat.le_of_ble_eq_true rfl)) (fun q14 => ?_)
        refine J_icmp_le 118 o dX11_makePlan_107 (by decide) q11 q14 (fun c15 => ?_) (fun c16 => ?_)
        · have hf := ite_t c15 hf
          exact t_Re_makePlan_118 k r_x1 r_x2 r_x3 r_x4 r_x5 r_x6 hf hc
        · have hf := ite_f c16 hf
          exact t_Re_makePlan_110 k r_x1 r_x2 r_x3 r_x6 r_s0 hf hc
noncomputable def f_Re_makePlan_30B (w : World) (x1 : Int) (x2 : Int) (x3 : Int) (x4 : Int) (x5 : Int) (x6 : Int) : Option ((Int × Int × Int) ⊕ ((World × Int × Int) ⊕ World)) :=
  gd (0 ≤ x1 ∧ x1 < 19) (if (w 16 x1.toNat) ≤ x6 then (gd (0 ≤ w 1 35 ∧ w 1 35 < 5) (bl (up w 29 (w 1 35).toNat x4) fun w7 => gd (0 ≤ w7 1 35 ∧ w7 1 35 < 5) (bl (up w7 30 (w7 1 35).toNat x5) fun w10 => bl (up w10 1 35 (wr ((w10 1 35) + 1))) fun w12 => bl (ior x2 (ishl 1 x4)) fun n13 => bl (wr ((wr (5 * x1)) + x4)) fun n14 => bnd (f_Re_makePlan_174 w12 x1 n13 x3 n14 0) fun y15 => some (Sum.inr y15)))) else (bl (wr ((wr (5 * x1)) + x6)) fun n16 => gd (0 ≤ n16 ∧ n16 < 95) (if (w 17 n16.toNat) = 0 then (bnd (f_Re_searched w n16 x3) fun v22 => f_Re_makePlan_70 w x1 x2 x3 x4 x5 x6 n16 v22) else (f_Re_makePlan_70 w x1 x2 x3 x4 x5 x6 n16 0))))
theorem t_Re_makePlan_30B {E : EE} {K : KT} {l : Launch} {H0 : Heap} (k : Kof TB E K l cX11_makePlan RX11 rm_Re_makePlan) {w : World} {x1 : Int} {x2 : Int} {x3 : Int} {x4 : Int} {x5 : Int} {x6 : Int} {o7 o8 : Option Value} (r_x1 : R32 x1) (r_x2 : R32 x2) (r_x3 : R32 x3) (r_x4 : R32 x4) (r_x5 : R32 x5) (r_x6 : R32 x6) {out : ((Int × Int × Int) ⊕ ((World × Int × Int) ⊕ World))} (hf : f_Re_makePlan_30B w x1 x2 x3 x4 x5 x6 = some out) (hc : (Sum.elim (HW_Re_makePlan_30 E K H0 w x1 x2 x3) (Sum.elim (HW_Re_makePlan_9 E K H0 x1) (fun out : World => RetV TB E K H0 cX11_makePlan out))) out) : Jj K (WdT TB E H0) w 30 [some (rf E.ad 1), some (.int (ii x1)), some (.int (ii x2)), some (.int (ii x3)), some (.int (ii x4)), some (.int (ii x5)), some (.int (ii x6)), o7, o8] [] := by
  unfold f_Re_makePlan_30B at hf
  have o := k.1
  have g := k.2.1
  have kr := k.2.2.1
  refine J_iload o dX11_makePlan_30 rfl ?_
  refine J_aload_n o dX11_makePlan_32 rfl ?_
  refine J_getF (true, 16) o g dX11_makePlan_33 flX11_53 kB_1 rfl rfl rfl ?_
  refine J_iload_n o dX11_makePlan_36 rfl ?_
  obtain ⟨g1, hf⟩ := gd_some hf
  refine J_iald o g dX11_makePlan_37 kB_16 r_x1 zB_16 g1 (fun q2 => ?_)
  refine J_icmp_ge 124 o dX11_makePlan_38 (by decide) r_x6 q2 (fun c3 => ?_) (fun c4 => ?_)
  · have hf := ite_t c3 hf
    refine J_aload_n o dX11_makePlan_124 rfl ?_
    refine J_getF (true, 29) o g dX11_makePlan_125 flX11_92 kB_1 rfl rfl rfl ?_
    refine J_aload_n o dX11_makePlan_128 rfl ?_
    refine J_getI o g dX11_makePlan_129 flX11_300 kB_1 rfl (fun q5 => ?_)
    refine J_iload o dX11_makePlan_132 rfl ?_
    obtain ⟨g6, hf⟩ := gd_some hf
    refine J_iast o g dX11_makePlan_134 kB_29 (fxB_40 _) q5 zB_29 g6 r_x4 ?_
    have hf := bl_out hf
    refine J_aload_n o dX11_makePlan_135 rfl ?_
    refine J_getF (true, 30) o g dX11_makePlan_136 flX11_95 kB_1 rfl rfl rfl ?_
    refine J_aload_n o dX11_makePlan_139 rfl ?_
    refine J_getI o g dX11_makePlan_140 flX11_300 kB_1 rfl (fun q8 => ?_)
    refine J_iload o dX11_makePlan_143 rfl ?_
    obtain ⟨g9, hf⟩ := gd_some hf
    refine J_iast o g dX11_makePlan_145 kB_30 (fxB_40 _) q8 zB_30 g9 r_x5 ?_
    have hf := bl_out hf
    refine J_aload_n o dX11_makePlan_146 rfl ?_
    refine J_dup o dX11_makePlan_147 rf_cat ?_
    refine J_getI o g dX11_makePlan_148 flX11_300 kB_1 rfl (fun q11 => ?_)
    refine J_iconst o dX11_makePlan_151 ?_
    refine J_iadd o dX11_makePlan_152 ?_
    refine J_putI o g dX11_makePlan_153 fpX11_300 kB_1 rfl rfl (R_wr _) ?_
    have hf := bl_out hf
    refine J_iload_n o dX11_makePlan_156 rfl ?_
    refine J_iconst o dX11_makePlan_157 ?_
    refine J_iload o dX11_makePlan_158 rfl ?_
    refine J_ishl o dX11_makePlan_160 ?_
    refine J_ior o dX11_makePlan_161 ?_
    refine J_istore_n o dX11_makePlan_162 (Nat.le_of_ble_eq_true rfl) ?_
    have hf := bl_out hf
    refine J_iconst o dX11_makePlan_163 ?_
    refine J_iload_n o dX11_makePlan_164 rfl ?_
    refine J_imul o dX11_makePlan_165 ?_
    refine J_iload o dX11_makePlan_166 rfl ?_
    refine J_iadd o dX11_makePlan_168 ?_
    refine J_istore o dX11_makePlan_169 (Nat.le_of_ble_eq_true rfl) ?_
    have hf := bl_out hf
    refine J_iconst o dX11_makePlan_171 ?_
    refine J_istore o dX11_makePlan_172 (Nat.le_of_ble_eq_true rfl) ?_
    obtain ⟨y15, hf1, hf⟩ := bnd_some hf
    have hf := some_inj hf
    subst hf
    exact (t_Re_makePlan_174 k r_x1 (R_ior _ _) (R_wr _) hf1 hc) r_x3 rl0 _ _ _
  · have hf := ite_f c4 hf
    refine J_iconst o dX11_makePlan_41 ?_
    refine J_iload_n o dX11_makePlan_42 rfl ?_
    refine J_imul o dX11_makePlan_43 ?_
    refine J_iload o dX11_makePlan_44 rfl ?_
    refine J_iadd o dX11_makePlan_46 ?_
    refine J_istore o dX11_makePlan_47 (Nat.le_of_ble_eq_true rfl) ?_
    have hf := bl_out hf
    refine J_aload_n o dX11_makePlan_49 rfl ?_
    refine J_getF (true, 17) o g dX11_makePlan_50 flX11_56 kB_1 rfl rfl rfl ?_
    refine J_iload o dX11_makePlan_53 rfl ?_
    obtain ⟨g17, hf⟩ := gd_some hf
    refine J_iald o g dX11_makePlan_55 kB_17 (R_wr _) zB_17 g17 (fun q18 => ?_)
    refine J_if_ne 69 o dX11_makePlan_56 (by decide) q18 (fun c19 => ?_) (fun c20 => ?_)
    · have hf := ite_f c19 hf
      refine J_iconst o dX11_makePlan_69 ?_
      exact t_Re_makePlan_70 k r_x1 r_x2 r_x3 r_x4 r_x5 r_x6 (R_wr _) rl0 hf hc
    · have hf := ite_t c20 hf
      refine J_aload_n o dX11_makePlan_59 rfl ?_
      refine J_iload o dX11_makePlan_60 rfl ?_
      refine J_iload_n o dX11_makePlan_62 rfl ?_
      obtain ⟨v22, e21, hf⟩ := bnd_some hf
      refine J_vI o g kr dX11_makePlan_63 lkX11_303 ml_Re_searched vl_Re_searched ⟨rfl, rfl, Nat.le_of_ble_eq_true rfl, Nat.le_of_ble_eq_true rfl⟩ (c_Re_searched g.2.1 (R_wr _) r_x3 e21) kB_1 rfl ⟨by decide, by decide⟩ rfl rfl c1s_0 (fun q23 => ?_)
      refine J_goto 70 o dX11_makePlan_66 (by decide) ?_
      exact t_Re_makePlan_70 k r_x1 r_x2 r_x3 r_x4 r_x5 r_x6 (R_wr _) q23 hf hc
noncomputable def f_Re_makePlan_30 (w : World) (x1 : Int) (x2 : Int) (x3 : Int) (x4 : Int) (x5 : Int) (x6 : Int) : Option ((World × Int × Int) ⊕ World) :=
  lp (fun z : (Int × Int × Int) => f_Re_makePlan_30B w x1 x2 x3 z.1 z.2.1 z.2.2) (x4, x5, x6)
theorem t_Re_makePlan_30 {E : EE} {K : KT} {l : Launch} {H0 : Heap} (k : Kof TB E K l cX11_makePlan RX11 rm_Re_makePlan) {w : World} {x1 : Int} {x2 : Int} {x3 : Int} {x4 : Int} {x5 : Int} {x6 : Int} (r_x1 : R32 x1) (r_x2 : R32 x2) (r_x3 : R32 x3) {out : ((World × Int × Int) ⊕ World)} (hf : f_Re_makePlan_30 w x1 x2 x3 x4 x5 x6 = some out) (hc : (Sum.elim (HW_Re_makePlan_9 E K H0 x1) (fun out : World => RetV TB E K H0 cX11_makePlan out)) out) : HW_Re_makePlan_30 E K H0 w x1 x2 x3 (x4, x5, x6) := by
  unfold f_Re_makePlan_30 at hf
  refine lp_ind (P := HW_Re_makePlan_30 E K H0 w x1 x2 x3) hf ?_
  intro z o hs h1 h2
  intro r_x4 r_x5 r_x6
  intro o7 o8
  refine t_Re_makePlan_30B k r_x1 r_x2 r_x3 r_x4 r_x5 r_x6 hs ?_
  cases o with
  | inl z' => exact h1 z' rfl
  | inr r' => rw [h2 r' rfl]; exact hc
noncomputable def f_Re_makePlan_9B (w : World) (x1 : Int) (x2 : Int) (x3 : Int) : Option ((World × Int × Int) ⊕ World) :=
  bnd (f_Re_atomsOf w x1) fun v3 => if v3 ≤ (w 1 35) then (some (Sum.inr w)) else (f_Re_makePlan_30 w x1 x2 x3 (-1) 0 0)
theorem t_Re_makePlan_9B {E : EE} {K : KT} {l : Launch} {H0 : Heap} (k : Kof TB E K l cX11_makePlan RX11 rm_Re_makePlan) {w : World} {x1 : Int} {x2 : Int} {x3 : Int} {o4 o5 o6 o7 o8 : Option Value} (r_x1 : R32 x1) (r_x2 : R32 x2) (r_x3 : R32 x3) {out : ((World × Int × Int) ⊕ World)} (hf : f_Re_makePlan_9B w x1 x2 x3 = some out) (hc : (Sum.elim (HW_Re_makePlan_9 E K H0 x1) (fun out : World => RetV TB E K H0 cX11_makePlan out)) out) : Jj K (WdT TB E H0) w 9 [some (rf E.ad 1), some (.int (ii x1)), some (.int (ii x2)), some (.int (ii x3)), o4, o5, o6, o7, o8] [] := by
  unfold f_Re_makePlan_9B at hf
  have o := k.1
  have g := k.2.1
  have kr := k.2.2.1
  refine J_aload_n o dX11_makePlan_9 rfl ?_
  refine J_getI o g dX11_makePlan_10 flX11_300 kB_1 rfl (fun q1 => ?_)
  refine J_aload_n o dX11_makePlan_13 rfl ?_
  refine J_iload_n o dX11_makePlan_14 rfl ?_
  obtain ⟨v3, e2, hf⟩ := bnd_some hf
  refine J_vI o g kr dX11_makePlan_15 lkX11_138 ml_Re_atomsOf vl_Re_atomsOf ⟨rfl, rfl, Nat.le_of_ble_eq_true rfl, Nat.le_of_ble_eq_true rfl⟩ (c_Re_atomsOf g.2.1 r_x1 e2) kB_1 rfl ⟨by decide, by decide⟩ rfl rfl (c1s_i c1s_0 (Nat.le_of_ble_eq_true rfl)) (fun q4 => ?_)
  refine J_icmp_ge 238 o dX11_makePlan_18 (by decide) q1 q4 (fun c5 => ?_) (fun c6 => ?_)
  · have hf := ite_t c5 hf
    have hf := some_inj hf
    subst hf
    exact hc _ _  dX11_makePlan_238
  · have hf := ite_f c6 hf
    refine J_iconst o dX11_makePlan_21 ?_
    refine J_istore o dX11_makePlan_22 (Nat.le_of_ble_eq_true rfl) ?_
    refine J_iconst o dX11_makePlan_24 ?_
    refine J_istore o dX11_makePlan_25 (Nat.le_of_ble_eq_true rfl) ?_
    refine J_iconst o dX11_makePlan_27 ?_
    refine J_istore o dX11_makePlan_28 (Nat.le_of_ble_eq_true rfl) ?_
    exact (t_Re_makePlan_30 k r_x1 r_x2 r_x3 hf hc) rlm1 rl0 rl0 _ _
noncomputable def f_Re_makePlan_9 (w : World) (x1 : Int) (x2 : Int) (x3 : Int) : Option World :=
  lp (fun z : (World × Int × Int) => f_Re_makePlan_9B z.1 x1 z.2.1 z.2.2) (w, x2, x3)
theorem t_Re_makePlan_9 {E : EE} {K : KT} {l : Launch} {H0 : Heap} (k : Kof TB E K l cX11_makePlan RX11 rm_Re_makePlan) {w : World} {x1 : Int} {x2 : Int} {x3 : Int} (r_x1 : R32 x1) {out : World} (hf : f_Re_makePlan_9 w x1 x2 x3 = some out) (hc : (fun out : World => RetV TB E K H0 cX11_makePlan out) out) : HW_Re_makePlan_9 E K H0 x1 (w, x2, x3) := by
  unfold f_Re_makePlan_9 at hf
  refine lp_ind (P := HW_Re_makePlan_9 E K H0 x1) hf ?_
  intro z o hs h1 h2
  intro r_x2 r_x3
  intro o4 o5 o6 o7 o8
  refine t_Re_makePlan_9B k r_x1 r_x2 r_x3 hs ?_
  cases o with
  | inl z' => exact h1 z' rfl
  | inr r' => rw [h2 r' rfl]; exact hc
noncomputable def f_Re_makePlan (w : World) (x1 : Int) : Option World :=
  bl (up w 1 35 0) fun w1 => f_Re_makePlan_9 w1 x1 0 0
theorem t_Re_makePlan_0 {E : EE} {K : KT} {l : Launch} {H0 : Heap} (k : Kof TB E K l cX11_makePlan RX11 rm_Re_makePlan) {w : World} {x1 : Int} {o2 o3 o4 o5 o6 o7 o8 : Option Value} (r_x1 : R32 x1) {out : World} (hf : f_Re_makePlan w x1 = some out) (hc : (fun out : World => RetV TB E K H0 cX11_makePlan out) out) : Jj K (WdT TB E H0) w 0 [some (rf E.ad 1), some (.int (ii x1)), o2, o3, o4, o5, o6, o7, o8] [] := by
  unfold f_Re_makePlan at hf
  have o := k.1
  have g := k.2.1
  have kr := k.2.2.1
  refine J_aload_n o dX11_makePlan_0 rfl ?_
  refine J_iconst o dX11_makePlan_1 ?_
  refine J_putI o g dX11_makePlan_2 fpX11_300 kB_1 rfl rfl rl0 ?_
  have hf := bl_out hf
  refine J_iconst o dX11_makePlan_5 ?_
  refine J_istore_n o dX11_makePlan_6 (Nat.le_of_ble_eq_true rfl) ?_
  refine J_iconst o dX11_makePlan_7 ?_
  refine J_istore_n o dX11_makePlan_8 (Nat.le_of_ble_eq_true rfl) ?_
  exact (t_Re_makePlan_9 k r_x1 hf hc) rl0 rl0 _ _ _ _ _
theorem c_Re_makePlan {E : EE} {l : Launch} (hI : Inj TB E) {w : World} {x1 : Int} (r_x1 : R32 x1) {out : World} (hf : f_Re_makePlan w x1 = some out) : ConV TB E l yX11_makePlan (WS yX11_makePlan cX11_makePlan 9 none) rm_Re_makePlan [rf E.ad 1, .int (ii x1)] w out :=
  con_V (by decide +kernel) rfl (Nat.le_of_ble_eq_true rfl) (c1s_r (c1s_i c1s_0 (Nat.le_of_ble_eq_true rfl)) (Nat.le_of_ble_eq_true rfl)).1 ⟨rfl, rfl⟩ hI TnB (fun K H0 k hret => t_Re_makePlan_0 k r_x1 hf hret)
abbrev rm_Re_order : Room := { frames := 3, cells := 0, slots := 0, locals := 77 }
noncomputable def f_Re_order_34 (w : World) (x1 : Int) (x2 : Int) (s1 : Int) : Option (World × Int) :=
  bnd (f_Re_refused w s1) fun v2 => if v2.2 = 0 then (bnd (f_Re_makePlan v2.1 x1) fun v7 => if (v7 1 35) ≤ x2 then (some (v7, (-1))) else (gd (0 ≤ x2 ∧ x2 < 5) (some (v7, v7 29 x2.toNat)))) else (some (v2.1, 0))
theorem t_Re_order_34 {E : EE} {K : KT} {l : Launch} {H0 : Heap} (k : Kof TB E K l cX11_order RX11 rm_Re_order) {w : World} {x1 : Int} {x2 : Int} {s1 : Int} {o3 : Option Value} (r_x1 : R32 x1) (r_x2 : R32 x2) (r_s1 : R32 s1) {out : (World × Int)} (hf : f_Re_order_34 w x1 x2 s1 = some out) (hc : (fun out : (World × Int) => RetI TB E K H0 cX11_order out.1 out.2) out) : Jj K (WdT TB E H0) w 34 [some (rf E.ad 1), some (.int (ii x1)), some (.int (ii x2)), o3] [.int (ii s1), rf E.ad 1] := by
  unfold f_Re_order_34 at hf
  have o := k.1
  have g := k.2.1
  have kr := k.2.2.1
  obtain ⟨v2, e1, hf⟩ := bnd_some hf
  refine J_vI o g kr dX11_order_34 lkX11_113 ml_Re_refused vl_Re_refused ⟨rfl, rfl, Nat.le_of_ble_eq_true rfl, Nat.le_of_ble_eq_true rfl⟩ (c_Re_refused g.2.1 r_s1 e1) kB_1 rfl ⟨by decide, by decide⟩ rfl rfl c1s_0 (fun q3 => ?_)
  refine J_if_eq 42 o dX11_order_37 (by decide) q3 (fun c4 => ?_) (fun c5 => ?_)
  · have hf := ite_t c4 hf
    refine J_aload_n o dX11_order_42 rfl ?_
    refine J_iload_n o dX11_order_43 rfl ?_
    obtain ⟨v7, e6, hf⟩ := bnd_some hf
    refine J_vV o g kr dX11_order_44 lkX11_309 ml_Re_makePlan vl_Re_makePlan ⟨rfl, rfl, Nat.le_of_ble_eq_true rfl, Nat.le_of_ble_eq_true rfl⟩ (c_Re_makePlan g.2.1 r_x1 e6) kB_1 rfl ⟨by decide, by decide⟩ rfl rfl c1s_0 ?_
    refine J_iload_n o dX11_order_47 rfl ?_
    refine J_aload_n o dX11_order_48 rfl ?_
    refine J_getI o g dX11_order_49 flX11_300 kB_1 rfl (fun q9 => ?_)
    refine J_icmp_ge 64 o dX11_order_52 (by decide) r_x2 q9 (fun c10 => ?_) (fun c11 => ?_)
    · have hf := ite_t c10 hf
      refine J_iconst o dX11_order_64 ?_
      have hf := some_inj hf
      subst hf
      exact hc _ _ rlm1 dX11_order_65
    · have hf := ite_f c11 hf
      refine J_aload_n o dX11_order_55 rfl ?_
      refine J_getF (true, 29) o g dX11_order_56 flX11_92 kB_1 rfl rfl rfl ?_
      refine J_iload_n o dX11_order_59 rfl ?_
      obtain ⟨g12, hf⟩ := gd_some hf
      refine J_iald o g dX11_order_60 kB_29 r_x2 zB_29 g12 (fun q13 => ?_)
      refine J_goto 65 o dX11_order_61 (by decide) ?_
      have hf := some_inj hf
      subst hf
      exact hc _ _ q13 dX11_order_65
  · have hf := ite_f c5 hf
    refine J_iconst o dX11_order_40 ?_
    have hf := some_inj hf
    subst hf
    exact hc _ _ rl0 dX11_order_41
noncomputable def f_Re_order_23 (w : World) (x1 : Int) (x2 : Int) (s0 : Int) : Option (World × Int) :=
  if s0 = 0 then (f_Re_order_34 w x1 x2 1) else (f_Re_order_34 w x1 x2 0)
theorem t_Re_order_23 {E : EE} {K : KT} {l : Launch} {H0 : Heap} (k : Kof TB E K l cX11_order RX11 rm_Re_order) {w : World} {x1 : Int} {x2 : Int} {s0 : Int} {o3 : Option Value} (r_x1 : R32 x1) (r_x2 : R32 x2) (r_s0 : R32 s0) {out : (World × Int)} (hf : f_Re_order_23 w x1 x2 s0 = some out) (hc : (fun out : (World × Int) => RetI TB E K H0 cX11_order out.1 out.2) out) : Jj K (WdT TB E H0) w 23 [some (rf E.ad 1), some (.int (ii x1)), some (.int (ii x2)), o3] [.int (ii s0)] := by
  unfold f_Re_order_23 at hf
  have o := k.1
  have g := k.2.1
  have kr := k.2.2.1
  refine J_istore_n o dX11_order_23 (Nat.le_of_ble_eq_true rfl) ?_
  refine J_aload_n o dX11_order_24 rfl ?_
  refine J_iload_n o dX11_order_25 rfl ?_
  refine J_if_eq 33 o dX11_order_26 (by decide) r_s0 (fun c1 => ?_) (fun c2 => ?_)
  · have hf := ite_t c1 hf
    refine J_iconst o dX11_order_33 ?_
    exact t_Re_order_34 k r_x1 r_x2 rl1 hf hc
  · have hf := ite_f c2 hf
    refine J_iconst o dX11_order_29 ?_
    refine J_goto 34 o dX11_order_30 (by decide) ?_
    exact t_Re_order_34 k r_x1 r_x2 rl0 hf hc
noncomputable def f_Re_order_22 (w : World) (x1 : Int) (x2 : Int) : Option (World × Int) :=
  f_Re_order_23 w x1 x2 0
theorem t_Re_order_22 {E : EE} {K : KT} {l : Launch} {H0 : Heap} (k : Kof TB E K l cX11_order RX11 rm_Re_order) {w : World} {x1 : Int} {x2 : Int} {o3 : Option Value} (r_x1 : R32 x1) (r_x2 : R32 x2) {out : (World × Int)} (hf : f_Re_order_22 w x1 x2 = some out) (hc : (fun out : (World × Int) => RetI TB E K H0 cX11_order out.1 out.2) out) : Jj K (WdT TB E H0) w 22 [some (rf E.ad 1), some (.int (ii x1)), some (.int (ii x2)), o3] [] := by
  unfold f_Re_order_22 at hf
  have o := k.1
  have g := k.2.1
  have kr := k.2.2.1
  refine J_iconst o dX11_order_22 ?_
  exact t_Re_order_23 k r_x1 r_x2 rl0 hf hc
noncomputable def f_Re_order (w : World) (x1 : Int) (x2 : Int) : Option (World × Int) :=
  bnd (f_Re_in x1 0 (wr ((w 1 14) - 1))) fun v3 => if v3 = 0 then (f_Re_order_22 w x1 x2) else (if x2 < 0 then (f_Re_order_22 w x1 x2) else (f_Re_order_23 w x1 x2 1))
theorem t_Re_order_0 {E : EE} {K : KT} {l : Launch} {H0 : Heap} (k : Kof TB E K l cX11_order RX11 rm_Re_order) {w : World} {x1 : Int} {x2 : Int} {o3 : Option Value} (r_x1 : R32 x1) (r_x2 : R32 x2) {out : (World × Int)} (hf : f_Re_order w x1 x2 = some out) (hc : (fun out : (World × Int) => RetI TB E K H0 cX11_order out.1 out.2) out) : Jj K (WdT TB E H0) w 0 [some (rf E.ad 1), some (.int (ii x1)), some (.int (ii x2)), o3] [] := by
  unfold f_Re_order at hf
  have o := k.1
  have g := k.2.1
  have kr := k.2.2.1
  refine J_iload_n o dX11_order_0 rfl ?_
  refine J_iconst o dX11_order_1 ?_
  refine J_aload_n o dX11_order_2 rfl ?_
  refine J_getI o g dX11_order_3 flX11_159 kB_1 rfl (fun q1 => ?_)
  refine J_iconst o dX11_order_6 ?_
  refine J_isub o dX11_order_7 ?_
  obtain ⟨v3, e2, hf⟩ := bnd_some hf
  refine J_sI o g kr dX11_order_8 lkX11_102 ml_Re_in mw1488 ⟨rfl, rfl, Nat.le_of_ble_eq_true rfl, Nat.le_of_ble_eq_true rfl⟩ (c_Re_in g.2.1 r_x1 rl0 (R_wr _) e2) rfl rfl c1s_0 (fun q4 => ?_)
  refine J_if_eq 22 o dX11_order_11 (by decide) q4 (fun c5 => ?_) (fun c6 => ?_)
  · have hf := ite_t c5 hf
    exact t_Re_order_22 k r_x1 r_x2 hf hc
  · have hf := ite_f c6 hf
    refine J_iload_n o dX11_order_14 rfl ?_
    refine J_if_lt 22 o dX11_order_15 (by decide) r_x2 (fun c7 => ?_) (fun c8 => ?_)
    · have hf := ite_t c7 hf
      exact t_Re_order_22 k r_x1 r_x2 hf hc
    · have hf := ite_f c8 hf
      refine J_iconst o dX11_order_18 ?_
      refine J_goto 23 o dX11_order_19 (by decide) ?_
      exact t_Re_order_23 k r_x1 r_x2 rl1 hf hc
theorem c_Re_order {E : EE} {l : Launch} (hI : Inj TB E) {w : World} {x1 : Int} {x2 : Int} (r_x1 : R32 x1) (r_x2 : R32 x2) {out : (World × Int)} (hf : f_Re_order w x1 x2 = some out) : ConI TB E l yX11_order (WS yX11_order cX11_order 4 (some .int)) rm_Re_order [rf E.ad 1, .int (ii x1), .int (ii x2)] w out.1 out.2 :=
  con_I (by decide +kernel) rfl (Nat.le_of_ble_eq_true rfl) (c1s_r (c1s_i (c1s_i c1s_0 (Nat.le_of_ble_eq_true rfl)) (Nat.le_of_ble_eq_true rfl)) (Nat.le_of_ble_eq_true rfl)).1 ⟨rfl, rfl⟩ hI TnB (fun K H0 k hret => t_Re_order_0 k r_x1 r_x2 hf hret)
abbrev rm_Re_areKeyed : Room := { frames := 1, cells := 0, slots := 0, locals := 24 }
def HW_Re_areKeyed_81 (E : EE) (K : KT) (H0 : Heap) (w : World) (x1 : Int) (x2 : Int) : (Int × Int) → Prop := fun z => R32 z.1 → R32 z.2 → Jj K (WdT TB E H0) w 81 [some (rf E.ad 1), some (.int (ii x1)), some (.int (ii x2)), some (.int (ii z.1)), some (.int (ii z.2))] []
noncomputable def f_Re_areKeyed_131 (w : World) (x1 : Int) (x2 : Int) (x4 : Int) (s0 : Int) : Option ((Int × Int) ⊕ Int) :=
  bl (wr (x4 + 1)) fun n1 => some (Sum.inl (s0, n1))
theorem t_Re_areKeyed_131 {E : EE} {K : KT} {l : Launch} {H0 : Heap} (k : Kof TB E K l cX11_areKeyed RX11 rm_Re_areKeyed) {w : World} {x1 : Int} {x2 : Int} {x4 : Int} {s0 : Int} {o3 : Option Value} (r_x1 : R32 x1) (r_x2 : R32 x2) (r_x4 : R32 x4) (r_s0 : R32 s0) {out : ((Int × Int) ⊕ Int)} (hf : f_Re_areKeyed_131 w x1 x2 x4 s0 = some out) (hc : (Sum.elim (HW_Re_areKeyed_81 E K H0 w x1 x2) (fun out : Int => RetZ TB E K H0 cX11_areKeyed w out)) out) : Jj K (WdT TB E H0) w 131 [some (rf E.ad 1), some (.int (ii x1)), some (.int (ii x2)), o3, some (.int (ii x4))] [.int (ii s0)] := by
  unfold f_Re_areKeyed_131 at hf
  have o := k.1
  have g := k.2.1
  have kr := k.2.2.1
  refine J_istore_n o dX11_areKeyed_131 (Nat.le_of_ble_eq_true rfl) ?_
  have hf := bl_out hf
  refine J_iinc o dX11_areKeyed_132 rfl ?_
  refine J_goto 81 o dX11_areKeyed_135 (by decide) ?_
  have hf := some_inj hf
  subst hf
  exact hc r_s0 (R_wr _) 
noncomputable def f_Re_areKeyed_81B (w : World) (x1 : Int) (x2 : Int) (x3 : Int) (x4 : Int) : Option ((Int × Int) ⊕ Int) :=
  if x3 = 0 then (gd (x3 = 0 ∨ x3 = 1) (some (Sum.inr x3))) else (gd (0 ≤ x1 ∧ x1 < 95) (gd (0 ≤ w 18 x1.toNat ∧ w 18 x1.toNat < 10) (if (w 5 (w 18 x1.toNat).toNat) ≤ x4 then (gd (x3 = 0 ∨ x3 = 1) (some (Sum.inr x3))) else (gd (0 ≤ wr ((wr (3 * x1)) + x4) ∧ wr ((wr (3 * x1)) + x4) < 285) (gd (0 ≤ wr ((wr (3 * x2)) + x4) ∧ wr ((wr (3 * x2)) + x4) < 285) (if (w 19 (wr ((wr (3 * x1)) + x4)).toNat) = (w 19 (wr ((wr (3 * x2)) + x4)).toNat) then (f_Re_areKeyed_131 w x1 x2 x4 1) else (f_Re_areKeyed_131 w x1 x2 x4 0)))))))
theorem t_Re_areKeyed_81B {E : EE} {K : KT} {l : Launch} {H0 : Heap} (k : Kof TB E K l cX11_areKeyed RX11 rm_Re_areKeyed) {w : World} {x1 : Int} {x2 : Int} {x3 : Int} {x4 : Int} (r_x1 : R32 x1) (r_x2 : R32 x2) (r_x3 : R32 x3) (r_x4 : R32 x4) {out : ((Int × Int) ⊕ Int)} (hf : f_Re_areKeyed_81B w x1 x2 x3 x4 = some out) (hc : (Sum.elim (HW_Re_areKeyed_81 E K H0 w x1 x2) (fun out : Int => RetZ TB E K H0 cX11_areKeyed w out)) out) : Jj K (WdT TB E H0) w 81 [some (rf E.ad 1), some (.int (ii x1)), some (.int (ii x2)), some (.int (ii x3)), some (.int (ii x4))] [] := by
  unfold f_Re_areKeyed_81B at hf
  have o := k.1
  have g := k.2.1
  have kr := k.2.2.1
  refine J_iload_n o dX11_areKeyed_81 rfl ?_
  refine J_if_eq 138 o dX11_areKeyed_82 (by decide) r_x3 (fun c1 => ?_) (fun c2 => ?_)
  · have hf := ite_t c1 hf
    refine J_iload_n o dX11_areKeyed_138 rfl ?_
    obtain ⟨g3, hf⟩ := gd_some hf
    have hf := some_inj hf
    subst hf
    exact hc _ _ g3 dX11_areKeyed_139
  · have hf := ite_f c2 hf
    refine J_iload o dX11_areKeyed_85 rfl ?_
    refine J_aload_n o dX11_areKeyed_87 rfl ?_
    refine J_getF (true, 5) o g dX11_areKeyed_88 flX11_20 kB_1 rfl rfl rfl ?_
    refine J_aload_n o dX11_areKeyed_91 rfl ?_
    refine J_getF (true, 18) o g dX11_areKeyed_92 flX11_59 kB_1 rfl rfl rfl ?_
    refine J_iload_n o dX11_areKeyed_95 rfl ?_
    obtain ⟨g4, hf⟩ := gd_some hf
    refine J_iald o g dX11_areKeyed_96 kB_18 r_x1 zB_18 g4 (fun q5 => ?_)
    obtain ⟨g6, hf⟩ := gd_some hf
    refine J_iald o g dX11_areKeyed_97 kB_5 q5 zB_5 g6 (fun q7 => ?_)
    refine J_icmp_ge 138 o dX11_areKeyed_98 (by decide) r_x4 q7 (fun c8 => ?_) (fun c9 => ?_)
    · have hf := ite_t c8 hf
      refine J_iload_n o dX11_areKeyed_138 rfl ?_
      obtain ⟨g10, hf⟩ := gd_some hf
      have hf := some_inj hf
      subst hf
      exact hc _ _ g10 dX11_areKeyed_139
    · have hf := ite_f c9 hf
      refine J_aload_n o dX11_areKeyed_101 rfl ?_
      refine J_getF (true, 19) o g dX11_areKeyed_102 flX11_62 kB_1 rfl rfl rfl ?_
      refine J_iconst o dX11_areKeyed_105 ?_
      refine J_iload_n o dX11_areKeyed_106 rfl ?_
      refine J_imul o dX11_areKeyed_107 ?_
      refine J_iload o dX11_areKeyed_108 rfl ?_
      refine J_iadd o dX11_areKeyed_110 ?_
      obtain ⟨g11, hf⟩ := gd_some hf
      refine J_iald o g dX11_areKeyed_111 kB_19 (R_wr _) zB_19 g11 (fun q12 => ?_)
      refine J_aload_n o dX11_areKeyed_112 rfl ?_
      refine J_getF (true, 19) o g dX11_areKeyed_113 flX11_62 kB_1 rfl rfl rfl ?_
      refine J_iconst o dX11_areKeyed_116 ?_
      refine J_iload_n o dX11_areKeyed_117 rfl ?_
      refine J_imul o dX11_areKeyed_118 ?_
      refine J_iload o dX11_areKeyed_119 rfl ?_
      refine J_iadd o dX11_areKeyed_121 ?_
      obtain ⟨g13, hf⟩ := gd_some hf
      refine J_iald o g dX11_areKeyed_122 kB_19 (R_wr _) zB_19 g13 (fun q14 => ?_)
      refine J_icmp_ne 130 o dX11_areKeyed_123 (by decide) q12 q14 (fun c15 => ?_) (fun c16 => ?_)
      · have hf := ite_f c15 hf
        refine J_iconst o dX11_areKeyed_130 ?_
        exact t_Re_areKeyed_131 k r_x1 r_x2 r_x4 rl0 hf hc
      · have hf := ite_t c16 hf
        refine J_iconst o dX11_areKeyed_126 ?_
        refine J_goto 131 o dX11_areKeyed_127 (by decide) ?_
        exact t_Re_areKeyed_131 k r_x1 r_x2 r_x4 rl1 hf hc
noncomputable def f_Re_areKeyed_81 (w : World) (x1 : Int) (x2 : Int) (x3 : Int) (x4 : Int) : Option Int :=
  lp (fun z : (Int × Int) => f_Re_areKeyed_81B w x1 x2 z.1 z.2) (x3, x4)
theorem t_Re_areKeyed_81 {E : EE} {K : KT} {l : Launch} {H0 : Heap} (k : Kof TB E K l cX11_areKeyed RX11 rm_Re_areKeyed) {w : World} {x1 : Int} {x2 : Int} {x3 : Int} {x4 : Int} (r_x1 : R32 x1) (r_x2 : R32 x2) {out : Int} (hf : f_Re_areKeyed_81 w x1 x2 x3 x4 = some out) (hc : (fun out : Int => RetZ TB E K H0 cX11_areKeyed w out) out) : HW_Re_areKeyed_81 E K H0 w x1 x2 (x3, x4) := by
  unfold f_Re_areKeyed_81 at hf
  refine lp_ind (P := HW_Re_areKeyed_81 E K H0 w x1 x2) hf ?_
  intro z o hs h1 h2
  intro r_x3 r_x4
  refine t_Re_areKeyed_81B k r_x1 r_x2 r_x3 r_x4 hs ?_
  cases o with
  | inl z' => exact h1 z' rfl
  | inr r' => rw [h2 r' rfl]; exact hc
noncomputable def f_Re_areKeyed_77 (w : World) (x1 : Int) (x2 : Int) (s0 : Int) : Option Int :=
  f_Re_areKeyed_81 w x1 x2 s0 0
theorem t_Re_areKeyed_77 {E : EE} {K : KT} {l : Launch} {H0 : Heap} (k : Kof TB E K l cX11_areKeyed RX11 rm_Re_areKeyed) {w : World} {x1 : Int} {x2 : Int} {s0 : Int} {o3 o4 : Option Value} (r_x1 : R32 x1) (r_x2 : R32 x2) (r_s0 : R32 s0) {out : Int} (hf : f_Re_areKeyed_77 w x1 x2 s0 = some out) (hc : (fun out : Int => RetZ TB E K H0 cX11_areKeyed w out) out) : Jj K (WdT TB E H0) w 77 [some (rf E.ad 1), some (.int (ii x1)), some (.int (ii x2)), o3, o4] [.int (ii s0)] := by
  unfold f_Re_areKeyed_77 at hf
  have o := k.1
  have g := k.2.1
  have kr := k.2.2.1
  refine J_istore_n o dX11_areKeyed_77 (Nat.le_of_ble_eq_true rfl) ?_
  refine J_iconst o dX11_areKeyed_78 ?_
  refine J_istore o dX11_areKeyed_79 (Nat.le_of_ble_eq_true rfl) ?_
  exact (t_Re_areKeyed_81 k r_x1 r_x2 hf hc) r_s0 rl0 
noncomputable def f_Re_areKeyed_76 (w : World) (x1 : Int) (x2 : Int) : Option Int :=
  f_Re_areKeyed_77 w x1 x2 0
theorem t_Re_areKeyed_76 {E : EE} {K : KT} {l : Launch} {H0 : Heap} (k : Kof TB E K l cX11_areKeyed RX11 rm_Re_areKeyed) {w : World} {x1 : Int} {x2 : Int} {o3 o4 : Option Value} (r_x1 : R32 x1) (r_x2 : R32 x2) {out : Int} (hf : f_Re_areKeyed_76 w x1 x2 = some out) (hc : (fun out : Int => RetZ TB E K H0 cX11_areKeyed w out) out) : Jj K (WdT TB E H0) w 76 [some (rf E.ad 1), some (.int (ii x1)), some (.int (ii x2)), o3, o4] [] := by
  unfold f_Re_areKeyed_76 at hf
  have o := k.1
  have g := k.2.1
  have kr := k.2.2.1
  refine J_iconst o dX11_areKeyed_76 ?_
  exact t_Re_areKeyed_77 k r_x1 r_x2 rl0 hf hc
noncomputable def f_Re_areKeyed (w : World) (x1 : Int) (x2 : Int) : Option Int :=
  gd (0 ≤ x1 ∧ x1 < 95) (if (w 17 x1.toNat) = 0 then (gd (0 ≤ x2 ∧ x2 < 95) (if (w 17 x2.toNat) = 0 then (gd (0 ≤ x1 ∧ x1 < 95) (gd (0 ≤ x2 ∧ x2 < 95) (if (w 18 x1.toNat) = (w 18 x2.toNat) then (gd (0 ≤ x1 ∧ x1 < 95) (gd (0 ≤ w 18 x1.toNat ∧ w 18 x1.toNat < 10) (if (w 4 (w 18 x1.toNat).toNat) = 0 then (gd (0 ≤ x1 ∧ x1 < 95) (gd (0 ≤ w 18 x1.toNat ∧ w 18 x1.toNat < 10) (gd (0 ≤ x1 ∧ x1 < 95) (gd (0 ≤ w 18 x1.toNat ∧ w 18 x1.toNat < 10) (if (w 3 (w 18 x1.toNat).toNat) ≤ (w 5 (w 18 x1.toNat).toNat) then (f_Re_areKeyed_76 w x1 x2) else (f_Re_areKeyed_77 w x1 x2 1)))))) else (f_Re_areKeyed_76 w x1 x2)))) else (f_Re_areKeyed_76 w x1 x2)))) else (f_Re_areKeyed_76 w x1 x2))) else (f_Re_areKeyed_76 w x1 x2))
theorem t_Re_areKeyed_0 {E : EE} {K : KT} {l : Launch} {H0 : Heap} (k : Kof TB E K l cX11_areKeyed RX11 rm_Re_areKeyed) {w : World} {x1 : Int} {x2 : Int} {o3 o4 : Option Value} (r_x1 : R32 x1) (r_x2 : R32 x2) {out : Int} (hf : f_Re_areKeyed w x1 x2 = some out) (hc : (fun out : Int => RetZ TB E K H0 cX11_areKeyed w out) out) : Jj K (WdT TB E H0) w 0 [some (rf E.ad 1), some (.int (ii x1)), some (.int (ii x2)), o3, o4] [] := by
  unfold f_Re_areKeyed at hf
  have o := k.1
  have g := k.2.1
  have kr := k.2.2.1
  refine J_aload_n o dX11_areKeyed_0 rfl ?_
  refine J_getF (true, 17) o g dX11_areKeyed_1 flX11_56 kB_1 rfl rfl rfl ?_
  refine J_iload_n o dX11_areKeyed_4 rfl ?_
  obtain ⟨g1, hf⟩ := gd_some hf
  refine J_iald o g dX11_areKeyed_5 kB_17 r_x1 zB_17 g1 (fun q2 => ?_)
  refine J_if_ne 76 o dX11_areKeyed_6 (by decide) q2 (fun c3 => ?_) (fun c4 => ?_)
  · have hf := ite_f c3 hf
    exact t_Re_areKeyed_76 k r_x1 r_x2 hf hc
  · have hf := ite_t c4 hf
    refine J_aload_n o dX11_areKeyed_9 rfl ?_
    refine J_getF (true, 17) o g dX11_areKeyed_10 flX11_56 kB_1 rfl rfl rfl ?_
    refine J_iload_n o dX11_areKeyed_13 rfl ?_
    obtain ⟨g5, hf⟩ := gd_some hf
    refine J_iald o g dX11_areKeyed_14 kB_17 r_x2 zB_17 g5 (fun q6 => ?_)
    refine J_if_ne 76 o dX11_areKeyed_15 (by decide) q6 (fun c7 => ?_) (fun c8 => ?_)
    · have hf := ite_f c7 hf
      exact t_Re_areKeyed_76 k r_x1 r_x2 hf hc
    · have hf := ite_t c8 hf
      refine J_aload_n o dX11_areKeyed_18 rfl ?_
      refine J_getF (true, 18) o g dX11_areKeyed_19 flX11_59 kB_1 rfl rfl rfl ?_
      refine J_iload_n o dX11_areKeyed_22 rfl ?_
      obtain ⟨g9, hf⟩ := gd_some hf
      refine J_iald o g dX11_areKeyed_23 kB_18 r_x1 zB_18 g9 (fun q10 => ?_)
      refine J_aload_n o dX11_areKeyed_24 rfl ?_
      refine J_getF (true, 18) o g dX11_areKeyed_25 flX11_59 kB_1 rfl rfl rfl ?_
      refine J_iload_n o dX11_areKeyed_28 rfl ?_
      obtain ⟨g11, hf⟩ := gd_some hf
      refine J_iald o g dX11_areKeyed_29 kB_18 r_x2 zB_18 g11 (fun q12 => ?_)
      refine J_icmp_ne 76 o dX11_areKeyed_30 (by decide) q10 q12 (fun c13 => ?_) (fun c14 => ?_)
      · have hf := ite_f c13 hf
        exact t_Re_areKeyed_76 k r_x1 r_x2 hf hc
      · have hf := ite_t c14 hf
        refine J_aload_n o dX11_areKeyed_33 rfl ?_
        refine J_getF (true, 4) o g dX11_areKeyed_34 flX11_17 kB_1 rfl rfl rfl ?_
        refine J_aload_n o dX11_areKeyed_37 rfl ?_
        refine J_getF (true, 18) o g dX11_areKeyed_38 flX11_59 kB_1 rfl rfl rfl ?_
        refine J_iload_n o dX11_areKeyed_41 rfl ?_
        obtain ⟨g15, hf⟩ := gd_some hf
        refine J_iald o g dX11_areKeyed_42 kB_18 r_x1 zB_18 g15 (fun q16 => ?_)
        obtain ⟨g17, hf⟩ := gd_some hf
        refine J_iald o g dX11_areKeyed_43 kB_4 q16 zB_4 g17 (fun q18 => ?_)
        refine J_if_ne 76 o dX11_areKeyed_44 (by decide) q18 (fun c19 => ?_) (fun c20 => ?_)
        · have hf := ite_f c19 hf
          exact t_Re_areKeyed_76 k r_x1 r_x2 hf hc
        · have hf := ite_t c20 hf
          refine J_aload_n o dX11_areKeyed_47 rfl ?_
          refine J_getF (true, 5) o g dX11_areKeyed_48 flX11_20 kB_1 rfl rfl rfl ?_
          refine J_aload_n o dX11_areKeyed_51 rfl ?_
          refine J_getF (true, 18) o g dX11_areKeyed_52 flX11_59 kB_1 rfl rfl rfl ?_
          refine J_iload_n o dX11_areKeyed_55 rfl ?_
          obtain ⟨g21, hf⟩ := gd_some hf
          refine J_iald o g dX11_areKeyed_56 kB_18 r_x1 zB_18 g21 (fun q22 => ?_)
          obtain ⟨g23, hf⟩ := gd_some hf
          refine J_iald o g dX11_areKeyed_57 kB_5 q22 zB_5 g23 (fun q24 => ?_)
          refine J_aload_n o dX11_areKeyed_58 rfl ?_
          refine J_getF (true, 3) o g dX11_areKeyed_59 flX11_13 kB_1 rfl rfl rfl ?_
          refine J_aload_n o dX11_areKeyed_62 rfl ?_
          refine J_getF (true, 18) o g dX11_areKeyed_63 flX11_59 kB_1 rfl rfl rfl ?_
          refine J_iload_n o dX11_areKeyed_66 rfl ?_
          obtain ⟨g25, hf⟩ := gd_some hf
          refine J_iald o g dX11_areKeyed_67 kB_18 r_x1 zB_18 g25 (fun q26 => ?_)
          obtain ⟨g27, hf⟩ := gd_some hf
          refine J_iald o g dX11_areKeyed_68 kB_3 q26 zB_3 g27 (fun q28 => ?_)
          refine J_icmp_ge 76 o dX11_areKeyed_69 (by decide) q24 q28 (fun c29 => ?_) (fun c30 => ?_)
          · have hf := ite_t c29 hf
            exact t_Re_areKeyed_76 k r_x1 r_x2 hf hc
          · have hf := ite_f c30 hf
            refine J_iconst o dX11_areKeyed_72 ?_
            refine J_goto 77 o dX11_areKeyed_73 (by decide) ?_
            exact t_Re_areKeyed_77 k r_x1 r_x2 rl1 hf hc
theorem c_Re_areKeyed {E : EE} {l : Launch} (hI : Inj TB E) {w : World} {x1 : Int} {x2 : Int} (r_x1 : R32 x1) (r_x2 : R32 x2) {out : Int} (hf : f_Re_areKeyed w x1 x2 = some out) : ConI TB E l yX11_areKeyed (WS yX11_areKeyed cX11_areKeyed 5 (some .boolean)) rm_Re_areKeyed [rf E.ad 1, .int (ii x1), .int (ii x2)] w w out :=
  con_Z (by decide +kernel) rfl (Nat.le_of_ble_eq_true rfl) (c1s_r (c1s_i (c1s_i c1s_0 (Nat.le_of_ble_eq_true rfl)) (Nat.le_of_ble_eq_true rfl)) (Nat.le_of_ble_eq_true rfl)).1 ⟨rfl, rfl⟩ hI TnB (fun K H0 k hret => t_Re_areKeyed_0 k r_x1 r_x2 hf hret)
abbrev rm_Re_joins : Room := { frames := 2, cells := 0, slots := 0, locals := 48 }
def HW_Re_joins_34 (E : EE) (K : KT) (H0 : Heap) (w : World) (x1 : Int) : (Int × Int) → Prop := fun z => R32 z.1 → R32 z.2 → ∀ o4 o5 : Option Value, Jj K (WdT TB E H0) w 34 [some (rf E.ad 1), some (.int (ii x1)), some (.int (ii z.1)), some (.int (ii z.2)), o4, o5] []
def HW_Re_joins_56 (E : EE) (K : KT) (H0 : Heap) (w : World) (x1 : Int) (x2 : Int) (x3 : Int) : (Int × Int) → Prop := fun z => R32 z.1 → R32 z.2 → Jj K (WdT TB E H0) w 56 [some (rf E.ad 1), some (.int (ii x1)), some (.int (ii x2)), some (.int (ii x3)), some (.int (ii z.1)), some (.int (ii z.2))] []
noncomputable def f_Re_joins_110 (w : World) (x1 : Int) (x3 : Int) (s0 : Int) (s1 : Int) : Option ((Int × Int) ⊕ (World × Int)) :=
  bl (wr (s0 + s1)) fun n1 => bl (wr (x3 + 1)) fun n2 => some (Sum.inl (n1, n2))
theorem t_Re_joins_110 {E : EE} {K : KT} {l : Launch} {H0 : Heap} (k : Kof TB E K l cX11_joins RX11 rm_Re_joins) {w : World} {x1 : Int} {x3 : Int} {s0 : Int} {s1 : Int} {o2 o4 o5 : Option Value} (r_x1 : R32 x1) (r_x3 : R32 x3) (r_s0 : R32 s0) (r_s1 : R32 s1) {out : ((Int × Int) ⊕ (World × Int))} (hf : f_Re_joins_110 w x1 x3 s0 s1 = some out) (hc : (Sum.elim (HW_Re_joins_34 E K H0 w x1) (fun out : (World × Int) => RetI TB E K H0 cX11_joins out.1 out.2)) out) : Jj K (WdT TB E H0) w 110 [some (rf E.ad 1), some (.int (ii x1)), o2, some (.int (ii x3)), o4, o5] [.int (ii s1), .int (ii s0)] := by
  unfold f_Re_joins_110 at hf
  have o := k.1
  have g := k.2.1
  have kr := k.2.2.1
  refine J_iadd o dX11_joins_110 ?_
  refine J_istore_n o dX11_joins_111 (Nat.le_of_ble_eq_true rfl) ?_
  have hf := bl_out hf
  have hf := bl_out hf
  refine J_iinc o dX11_joins_112 rfl ?_
  refine J_goto 34 o dX11_joins_115 (by decide) ?_
  have hf := some_inj hf
  subst hf
  exact hc (R_wr _) (R_wr _) _ _
noncomputable def f_Re_joins_109 (w : World) (x1 : Int) (x3 : Int) (s0 : Int) : Option ((Int × Int) ⊕ (World × Int)) :=
  f_Re_joins_110 w x1 x3 s0 0
theorem t_Re_joins_109 {E : EE} {K : KT} {l : Launch} {H0 : Heap} (k : Kof TB E K l cX11_joins RX11 rm_Re_joins) {w : World} {x1 : Int} {x3 : Int} {s0 : Int} {o2 o4 o5 : Option Value} (r_x1 : R32 x1) (r_x3 : R32 x3) (r_s0 : R32 s0) {out : ((Int × Int) ⊕ (World × Int))} (hf : f_Re_joins_109 w x1 x3 s0 = some out) (hc : (Sum.elim (HW_Re_joins_34 E K H0 w x1) (fun out : (World × Int) => RetI TB E K H0 cX11_joins out.1 out.2)) out) : Jj K (WdT TB E H0) w 109 [some (rf E.ad 1), some (.int (ii x1)), o2, some (.int (ii x3)), o4, o5] [.int (ii s0)] := by
  unfold f_Re_joins_109 at hf
  have o := k.1
  have g := k.2.1
  have kr := k.2.2.1
  refine J_iconst o dX11_joins_109 ?_
  exact t_Re_joins_110 k r_x1 r_x3 r_s0 rl0 hf hc
noncomputable def f_Re_joins_82 (w : World) (x1 : Int) (x2 : Int) (x3 : Int) (x5 : Int) (s0 : Int) : Option ((Int × Int) ⊕ ((Int × Int) ⊕ (World × Int))) :=
  bl (wr (x5 + 1)) fun n1 => some (Sum.inl (s0, n1))
theorem t_Re_joins_82 {E : EE} {K : KT} {l : Launch} {H0 : Heap} (k : Kof TB E K l cX11_joins RX11 rm_Re_joins) {w : World} {x1 : Int} {x2 : Int} {x3 : Int} {x5 : Int} {s0 : Int} {o4 : Option Value} (r_x1 : R32 x1) (r_x2 : R32 x2) (r_x3 : R32 x3) (r_x5 : R32 x5) (r_s0 : R32 s0) {out : ((Int × Int) ⊕ ((Int × Int) ⊕ (World × Int)))} (hf : f_Re_joins_82 w x1 x2 x3 x5 s0 = some out) (hc : (Sum.elim (HW_Re_joins_56 E K H0 w x1 x2 x3) (Sum.elim (HW_Re_joins_34 E K H0 w x1) (fun out : (World × Int) => RetI TB E K H0 cX11_joins out.1 out.2))) out) : Jj K (WdT TB E H0) w 82 [some (rf E.ad 1), some (.int (ii x1)), some (.int (ii x2)), some (.int (ii x3)), o4, some (.int (ii x5))] [.int (ii s0)] := by
  unfold f_Re_joins_82 at hf
  have o := k.1
  have g := k.2.1
  have kr := k.2.2.1
  refine J_istore o dX11_joins_82 (Nat.le_of_ble_eq_true rfl) ?_
  have hf := bl_out hf
  refine J_iinc o dX11_joins_84 rfl ?_
  refine J_goto 56 o dX11_joins_87 (by decide) ?_
  have hf := some_inj hf
  subst hf
  exact hc r_s0 (R_wr _) 
noncomputable def f_Re_joins_77 (w : World) (x1 : Int) (x2 : Int) (x3 : Int) (x5 : Int) : Option ((Int × Int) ⊕ ((Int × Int) ⊕ (World × Int))) :=
  f_Re_joins_82 w x1 x2 x3 x5 1
theorem t_Re_joins_77 {E : EE} {K : KT} {l : Launch} {H0 : Heap} (k : Kof TB E K l cX11_joins RX11 rm_Re_joins) {w : World} {x1 : Int} {x2 : Int} {x3 : Int} {x5 : Int} {o4 : Option Value} (r_x1 : R32 x1) (r_x2 : R32 x2) (r_x3 : R32 x3) (r_x5 : R32 x5) {out : ((Int × Int) ⊕ ((Int × Int) ⊕ (World × Int)))} (hf : f_Re_joins_77 w x1 x2 x3 x5 = some out) (hc : (Sum.elim (HW_Re_joins_56 E K H0 w x1 x2 x3) (Sum.elim (HW_Re_joins_34 E K H0 w x1) (fun out : (World × Int) => RetI TB E K H0 cX11_joins out.1 out.2))) out) : Jj K (WdT TB E H0) w 77 [some (rf E.ad 1), some (.int (ii x1)), some (.int (ii x2)), some (.int (ii x3)), o4, some (.int (ii x5))] [] := by
  unfold f_Re_joins_77 at hf
  have o := k.1
  have g := k.2.1
  have kr := k.2.2.1
  refine J_iconst o dX11_joins_77 ?_
  refine J_goto 82 o dX11_joins_78 (by decide) ?_
  exact t_Re_joins_82 k r_x1 r_x2 r_x3 r_x5 rl1 hf hc
noncomputable def f_Re_joins_56B (w : World) (x1 : Int) (x2 : Int) (x3 : Int) (x4 : Int) (x5 : Int) : Option ((Int × Int) ⊕ ((Int × Int) ⊕ (World × Int))) :=
  if x3 ≤ x5 then (gd (0 ≤ x3 ∧ x3 < 95) (if (w 17 x3.toNat) = 0 then (if x4 = 0 then (bnd (f_Re_joins_110 w x1 x3 x2 1) fun y11 => some (Sum.inr y11)) else (bnd (f_Re_joins_109 w x1 x3 x2) fun y10 => some (Sum.inr y10))) else (bnd (f_Re_joins_109 w x1 x3 x2) fun y7 => some (Sum.inr y7)))) else (if x4 = 0 then (bnd (f_Re_areKeyed w x5 x3) fun v15 => if v15 = 0 then (f_Re_joins_82 w x1 x2 x3 x5 0) else (f_Re_joins_77 w x1 x2 x3 x5)) else (f_Re_joins_77 w x1 x2 x3 x5))
theorem t_Re_joins_56B {E : EE} {K : KT} {l : Launch} {H0 : Heap} (k : Kof TB E K l cX11_joins RX11 rm_Re_joins) {w : World} {x1 : Int} {x2 : Int} {x3 : Int} {x4 : Int} {x5 : Int} (r_x1 : R32 x1) (r_x2 : R32 x2) (r_x3 : R32 x3) (r_x4 : R32 x4) (r_x5 : R32 x5) {out : ((Int × Int) ⊕ ((Int × Int) ⊕ (World × Int)))} (hf : f_Re_joins_56B w x1 x2 x3 x4 x5 = some out) (hc : (Sum.elim (HW_Re_joins_56 E K H0 w x1 x2 x3) (Sum.elim (HW_Re_joins_34 E K H0 w x1) (fun out : (World × Int) => RetI TB E K H0 cX11_joins out.1 out.2))) out) : Jj K (WdT TB E H0) w 56 [some (rf E.ad 1), some (.int (ii x1)), some (.int (ii x2)), some (.int (ii x3)), some (.int (ii x4)), some (.int (ii x5))] [] := by
  unfold f_Re_joins_56B at hf
  have o := k.1
  have g := k.2.1
  have kr := k.2.2.1
  refine J_iload o dX11_joins_56 rfl ?_
  refine J_iload_n o dX11_joins_58 rfl ?_
  refine J_icmp_ge 90 o dX11_joins_59 (by decide) r_x5 r_x3 (fun c1 => ?_) (fun c2 => ?_)
  · have hf := ite_t c1 hf
    refine J_iload_n o dX11_joins_90 rfl ?_
    refine J_aload_n o dX11_joins_91 rfl ?_
    refine J_getF (true, 17) o g dX11_joins_92 flX11_56 kB_1 rfl rfl rfl ?_
    refine J_iload_n o dX11_joins_95 rfl ?_
    obtain ⟨g3, hf⟩ := gd_some hf
    refine J_iald o g dX11_joins_96 kB_17 r_x3 zB_17 g3 (fun q4 => ?_)
    refine J_if_ne 109 o dX11_joins_97 (by decide) q4 (fun c5 => ?_) (fun c6 => ?_)
    · have hf := ite_f c5 hf
      obtain ⟨y7, hf1, hf⟩ := bnd_some hf
      have hf := some_inj hf
      subst hf
      exact t_Re_joins_109 k r_x1 r_x3 r_x2 hf1 hc
    · have hf := ite_t c6 hf
      refine J_iload o dX11_joins_100 rfl ?_
      refine J_if_ne 109 o dX11_joins_102 (by decide) r_x4 (fun c8 => ?_) (fun c9 => ?_)
      · have hf := ite_f c8 hf
        obtain ⟨y10, hf1, hf⟩ := bnd_some hf
        have hf := some_inj hf
        subst hf
        exact t_Re_joins_109 k r_x1 r_x3 r_x2 hf1 hc
      · have hf := ite_t c9 hf
        refine J_iconst o dX11_joins_105 ?_
        refine J_goto 110 o dX11_joins_106 (by decide) ?_
        obtain ⟨y11, hf1, hf⟩ := bnd_some hf
        have hf := some_inj hf
        subst hf
        exact t_Re_joins_110 k r_x1 r_x3 r_x2 rl1 hf1 hc
  · have hf := ite_f c2 hf
    refine J_iload o dX11_joins_62 rfl ?_
    refine J_if_ne 77 o dX11_joins_64 (by decide) r_x4 (fun c12 => ?_) (fun c13 => ?_)
    · have hf := ite_f c12 hf
      exact t_Re_joins_77 k r_x1 r_x2 r_x3 r_x5 hf hc
    · have hf := ite_t c13 hf
      refine J_aload_n o dX11_joins_67 rfl ?_
      refine J_iload o dX11_joins_68 rfl ?_
      refine J_iload_n o dX11_joins_70 rfl ?_
      obtain ⟨v15, e14, hf⟩ := bnd_some hf
      refine J_vI o g kr dX11_joins_71 lkX11_312 ml_Re_areKeyed vl_Re_areKeyed ⟨rfl, rfl, Nat.le_of_ble_eq_true rfl, Nat.le_of_ble_eq_true rfl⟩ (c_Re_areKeyed g.2.1 r_x5 r_x3 e14) kB_1 rfl ⟨by decide, by decide⟩ rfl rfl c1s_0 (fun q16 => ?_)
      refine J_if_eq 81 o dX11_joins_74 (by decide) q16 (fun c17 => ?_) (fun c18 => ?_)
      · have hf := ite_t c17 hf
        refine J_iconst o dX11_joins_81 ?_
        exact t_Re_joins_82 k r_x1 r_x2 r_x3 r_x5 rl0 hf hc
      · have hf := ite_f c18 hf
        exact t_Re_joins_77 k r_x1 r_x2 r_x3 r_x5 hf hc
noncomputable def f_Re_joins_56 (w : World) (x1 : Int) (x2 : Int) (x3 : Int) (x4 : Int) (x5 : Int) : Option ((Int × Int) ⊕ (World × Int)) :=
  lp (fun z : (Int × Int) => f_Re_joins_56B w x1 x2 x3 z.1 z.2) (x4, x5)
theorem t_Re_joins_56 {E : EE} {K : KT} {l : Launch} {H0 : Heap} (k : Kof TB E K l cX11_joins RX11 rm_Re_joins) {w : World} {x1 : Int} {x2 : Int} {x3 : Int} {x4 : Int} {x5 : Int} (r_x1 : R32 x1) (r_x2 : R32 x2) (r_x3 : R32 x3) {out : ((Int × Int) ⊕ (World × Int))} (hf : f_Re_joins_56 w x1 x2 x3 x4 x5 = some out) (hc : (Sum.elim (HW_Re_joins_34 E K H0 w x1) (fun out : (World × Int) => RetI TB E K H0 cX11_joins out.1 out.2)) out) : HW_Re_joins_56 E K H0 w x1 x2 x3 (x4, x5) := by
  unfold f_Re_joins_56 at hf
  refine lp_ind (P := HW_Re_joins_56 E K H0 w x1 x2 x3) hf ?_
  intro z o hs h1 h2
  intro r_x4 r_x5
  refine t_Re_joins_56B k r_x1 r_x2 r_x3 r_x4 r_x5 hs ?_
  cases o with
  | inl z' => exact h1 z' rfl
  | inr r' => rw [h2 r' rfl]; exact hc
noncomputable def f_Re_joins_34B (w : World) (x1 : Int) (x2 : Int) (x3 : Int) : Option ((Int × Int) ⊕ (World × Int)) :=
  gd (0 ≤ x1 ∧ x1 < 19) (if (wr ((wr (5 * x1)) + (w 16 x1.toNat))) ≤ x3 then (some (Sum.inr (w, x2))) else (bl (wr (5 * x1)) fun n5 => f_Re_joins_56 w x1 x2 x3 0 n5))
theorem t_Re_joins_34B {E : EE} {K : KT} {l : Launch} {H0 : Heap} (k : Kof TB E K l cX11_joins RX11 rm_Re_joins) {w : World} {x1 : Int} {x2 : Int} {x3 : Int} {o4 o5 : Option Value} (r_x1 : R32 x1) (r_x2 : R32 x2) (r_x3 : R32 x3) {out : ((Int × Int) ⊕ (World × Int))} (hf : f_Re_joins_34B w x1 x2 x3 = some out) (hc : (Sum.elim (HW_Re_joins_34 E K H0 w x1) (fun out : (World × Int) => RetI TB E K H0 cX11_joins out.1 out.2)) out) : Jj K (WdT TB E H0) w 34 [some (rf E.ad 1), some (.int (ii x1)), some (.int (ii x2)), some (.int (ii x3)), o4, o5] [] := by
  unfold f_Re_joins_34B at hf
  have o := k.1
  have g := k.2.1
  have kr := k.2.2.1
  refine J_iload_n o dX11_joins_34 rfl ?_
  refine J_iconst o dX11_joins_35 ?_
  refine J_iload_n o dX11_joins_36 rfl ?_
  refine J_imul o dX11_joins_37 ?_
  refine J_aload_n o dX11_joins_38 rfl ?_
  refine J_getF (true, 16) o g dX11_joins_39 flX11_53 kB_1 rfl rfl rfl ?_
  refine J_iload_n o dX11_joins_42 rfl ?_
  obtain ⟨g1, hf⟩ := gd_some hf
  refine J_iald o g dX11_joins_43 kB_16 r_x1 zB_16 g1 (fun q2 => ?_)
  refine J_iadd o dX11_joins_44 ?_
  refine J_icmp_ge 118 o dX11_joins_45 (by decide) r_x3 (R_wr _) (fun c3 => ?_) (fun c4 => ?_)
  · have hf := ite_t c3 hf
    refine J_iload_n o dX11_joins_118 rfl ?_
    have hf := some_inj hf
    subst hf
    exact hc _ _ r_x2 dX11_joins_119
  · have hf := ite_f c4 hf
    refine J_iconst o dX11_joins_48 ?_
    refine J_istore o dX11_joins_49 (Nat.le_of_ble_eq_true rfl) ?_
    refine J_iconst o dX11_joins_51 ?_
    refine J_iload_n o dX11_joins_52 rfl ?_
    refine J_imul o dX11_joins_53 ?_
    refine J_istore o dX11_joins_54 (Nat.le_of_ble_eq_true rfl) ?_
    have hf := bl_out hf
    exact (t_Re_joins_56 k r_x1 r_x2 r_x3 hf hc) rl0 (R_wr _) 
noncomputable def f_Re_joins_34 (w : World) (x1 : Int) (x2 : Int) (x3 : Int) : Option (World × Int) :=
  lp (fun z : (Int × Int) => f_Re_joins_34B w x1 z.1 z.2) (x2, x3)
theorem t_Re_joins_34 {E : EE} {K : KT} {l : Launch} {H0 : Heap} (k : Kof TB E K l cX11_joins RX11 rm_Re_joins) {w : World} {x1 : Int} {x2 : Int} {x3 : Int} (r_x1 : R32 x1) {out : (World × Int)} (hf : f_Re_joins_34 w x1 x2 x3 = some out) (hc : (fun out : (World × Int) => RetI TB E K H0 cX11_joins out.1 out.2) out) : HW_Re_joins_34 E K H0 w x1 (x2, x3) := by
  unfold f_Re_joins_34 at hf
  refine lp_ind (P := HW_Re_joins_34 E K H0 w x1) hf ?_
  intro z o hs h1 h2
  intro r_x2 r_x3
  intro o4 o5
  refine t_Re_joins_34B k r_x1 r_x2 r_x3 hs ?_
  cases o with
  | inl z' => exact h1 z' rfl
  | inr r' => rw [h2 r' rfl]; exact hc
noncomputable def f_Re_joins_20 (w : World) (x1 : Int) (s1 : Int) : Option (World × Int) :=
  bnd (f_Re_refused w s1) fun v2 => if v2.2 = 0 then (bl (wr (5 * x1)) fun n6 => f_Re_joins_34 v2.1 x1 0 n6) else (some (v2.1, 0))
theorem t_Re_joins_20 {E : EE} {K : KT} {l : Launch} {H0 : Heap} (k : Kof TB E K l cX11_joins RX11 rm_Re_joins) {w : World} {x1 : Int} {s1 : Int} {o2 o3 o4 o5 : Option Value} (r_x1 : R32 x1) (r_s1 : R32 s1) {out : (World × Int)} (hf : f_Re_joins_20 w x1 s1 = some out) (hc : (fun out : (World × Int) => RetI TB E K H0 cX11_joins out.1 out.2) out) : Jj K (WdT TB E H0) w 20 [some (rf E.ad 1), some (.int (ii x1)), o2, o3, o4, o5] [.int (ii s1), rf E.ad 1] := by
  unfold f_Re_joins_20 at hf
  have o := k.1
  have g := k.2.1
  have kr := k.2.2.1
  obtain ⟨v2, e1, hf⟩ := bnd_some hf
  refine J_vI o g kr dX11_joins_20 lkX11_113 ml_Re_refused vl_Re_refused ⟨rfl, rfl, Nat.le_of_ble_eq_true rfl, Nat.le_of_ble_eq_true rfl⟩ (c_Re_refused g.2.1 r_s1 e1) kB_1 rfl ⟨by decide, by decide⟩ rfl rfl c1s_0 (fun q3 => ?_)
  refine J_if_eq 28 o dX11_joins_23 (by decide) q3 (fun c4 => ?_) (fun c5 => ?_)
  · have hf := ite_t c4 hf
    refine J_iconst o dX11_joins_28 ?_
    refine J_istore_n o dX11_joins_29 (Nat.le_of_ble_eq_true rfl) ?_
    refine J_iconst o dX11_joins_30 ?_
    refine J_iload_n o dX11_joins_31 rfl ?_
    refine J_imul o dX11_joins_32 ?_
    refine J_istore_n o dX11_joins_33 (Nat.le_of_ble_eq_true rfl) ?_
    have hf := bl_out hf
    exact (t_Re_joins_34 k r_x1 hf hc) rl0 (R_wr _) _ _
  · have hf := ite_f c5 hf
    refine J_iconst o dX11_joins_26 ?_
    have hf := some_inj hf
    subst hf
    exact hc _ _ rl0 dX11_joins_27
noncomputable def f_Re_joins (w : World) (x1 : Int) : Option (World × Int) :=
  bnd (f_Re_in x1 0 (wr ((w 1 14) - 1))) fun v3 => if v3 = 0 then (f_Re_joins_20 w x1 1) else (f_Re_joins_20 w x1 0)
theorem t_Re_joins_0 {E : EE} {K : KT} {l : Launch} {H0 : Heap} (k : Kof TB E K l cX11_joins RX11 rm_Re_joins) {w : World} {x1 : Int} {o2 o3 o4 o5 : Option Value} (r_x1 : R32 x1) {out : (World × Int)} (hf : f_Re_joins w x1 = some out) (hc : (fun out : (World × Int) => RetI TB E K H0 cX11_joins out.1 out.2) out) : Jj K (WdT TB E H0) w 0 [some (rf E.ad 1), some (.int (ii x1)), o2, o3, o4, o5] [] := by
  unfold f_Re_joins at hf
  have o := k.1
  have g := k.2.1
  have kr := k.2.2.1
  refine J_aload_n o dX11_joins_0 rfl ?_
  refine J_iload_n o dX11_joins_1 rfl ?_
  refine J_iconst o dX11_joins_2 ?_
  refine J_aload_n o dX11_joins_3 rfl ?_
  refine J_getI o g dX11_joins_4 flX11_159 kB_1 rfl (fun q1 => ?_)
  refine J_iconst o dX11_joins_7 ?_
  refine J_isub o dX11_joins_8 ?_
  obtain ⟨v3, e2, hf⟩ := bnd_some hf
  refine J_sI o g kr dX11_joins_9 lkX11_102 ml_Re_in mw1488 ⟨rfl, rfl, Nat.le_of_ble_eq_true rfl, Nat.le_of_ble_eq_true rfl⟩ (c_Re_in g.2.1 r_x1 rl0 (R_wr _) e2) rfl rfl (c1s_r c1s_0 (Nat.le_of_ble_eq_true rfl)) (fun q4 => ?_)
  refine J_if_eq 19 o dX11_joins_12 (by decide) q4 (fun c5 => ?_) (fun c6 => ?_)
  · have hf := ite_t c5 hf
    refine J_iconst o dX11_joins_19 ?_
    exact t_Re_joins_20 k r_x1 rl1 hf hc
  · have hf := ite_f c6 hf
    refine J_iconst o dX11_joins_15 ?_
    refine J_goto 20 o dX11_joins_16 (by decide) ?_
    exact t_Re_joins_20 k r_x1 rl0 hf hc
theorem c_Re_joins {E : EE} {l : Launch} (hI : Inj TB E) {w : World} {x1 : Int} (r_x1 : R32 x1) {out : (World × Int)} (hf : f_Re_joins w x1 = some out) : ConI TB E l yX11_joins (WS yX11_joins cX11_joins 6 (some .int)) rm_Re_joins [rf E.ad 1, .int (ii x1)] w out.1 out.2 :=
  con_I (by decide +kernel) rfl (Nat.le_of_ble_eq_true rfl) (c1s_r (c1s_i c1s_0 (Nat.le_of_ble_eq_true rfl)) (Nat.le_of_ble_eq_true rfl)).1 ⟨rfl, rfl⟩ hI TnB (fun K H0 k hret => t_Re_joins_0 k r_x1 hf hret)
abbrev rm_Re_served : Room := { frames := 1, cells := 0, slots := 0, locals := 24 }
noncomputable def f_Re_served_32 (x1 : Int) (s0 : Int) : Option Int :=
  some (ior (ior (ishl 1 (ishl 1 x1)) (ishl 1 (ior (ishl 1 x1) (ishl 1 s0)))) 128)
theorem t_Re_served_32 {E : EE} {K : KT} {l : Launch} {H0 : Heap} (k : Kof TB E K l cX11_served RX11 rm_Re_served) {w0 : World} {x1 : Int} {s0 : Int} {o0 o2 : Option Value} (r_x1 : R32 x1) (r_s0 : R32 s0) {out : Int} (hf : f_Re_served_32 x1 s0 = some out) (hc : (fun out : Int => RetI TB E K H0 cX11_served w0 out) out) : Jj K (WdT TB E H0) w0 32 [o0, some (.int (ii x1)), o2] [.int (ii s0)] := by
  unfold f_Re_served_32 at hf
  have o := k.1
  have g := k.2.1
  have kr := k.2.2.1
  refine J_istore_n o dX11_served_32 (Nat.le_of_ble_eq_true rfl) ?_
  refine J_iconst o dX11_served_33 ?_
  refine J_iconst o dX11_served_34 ?_
  refine J_iload_n o dX11_served_35 rfl ?_
  refine J_ishl o dX11_served_36 ?_
  refine J_ishl o dX11_served_37 ?_
  refine J_iconst o dX11_served_38 ?_
  refine J_iconst o dX11_served_39 ?_
  refine J_iload_n o dX11_served_40 rfl ?_
  refine J_ishl o dX11_served_41 ?_
  refine J_iconst o dX11_served_42 ?_
  refine J_iload_n o dX11_served_43 rfl ?_
  refine J_ishl o dX11_served_44 ?_
  refine J_ior o dX11_served_45 ?_
  refine J_ishl o dX11_served_46 ?_
  refine J_ior o dX11_served_47 ?_
  refine J_sipush o dX11_served_48 (by decide) ?_
  refine J_ior o dX11_served_51 ?_
  have hf := some_inj hf
  subst hf
  exact hc _ _ (R_ior _ _) dX11_served_52
noncomputable def f_Re_served (x0 : Int) : Option Int :=
  bl (idiv x0 2) fun n1 => if (irem x0 2) = 0 then (if n1 = 0 then (f_Re_served_32 n1 1) else (f_Re_served_32 n1 0)) else (if n1 = 2 then (f_Re_served_32 n1 1) else (f_Re_served_32 n1 2))
theorem t_Re_served_0 {E : EE} {K : KT} {l : Launch} {H0 : Heap} (k : Kof TB E K l cX11_served RX11 rm_Re_served) {w0 : World} {x0 : Int} {o1 o2 : Option Value} (r_x0 : R32 x0) {out : Int} (hf : f_Re_served x0 = some out) (hc : (fun out : Int => RetI TB E K H0 cX11_served w0 out) out) : Jj K (WdT TB E H0) w0 0 [some (.int (ii x0)), o1, o2] [] := by
  unfold f_Re_served at hf
  have o := k.1
  have g := k.2.1
  have kr := k.2.2.1
  refine J_iload_n o dX11_served_0 rfl ?_
  refine J_iconst o dX11_served_1 ?_
  refine J_idiv o dX11_served_2 rl2 (by decide) ?_
  refine J_istore_n o dX11_served_3 (Nat.le_of_ble_eq_true rfl) ?_
  have hf := bl_out hf
  refine J_iload_n o dX11_served_4 rfl ?_
  refine J_iconst o dX11_served_5 ?_
  refine J_irem o dX11_served_6 rl2 (by decide) ?_
  refine J_if_ne 22 o dX11_served_7 (by decide) (R_irem _ _) (fun c2 => ?_) (fun c3 => ?_)
  · have hf := ite_f c2 hf
    refine J_iload_n o dX11_served_22 rfl ?_
    refine J_iconst o dX11_served_23 ?_
    refine J_icmp_ne 31 o dX11_served_24 (by decide) (R_idiv _ _) rl2 (fun c4 => ?_) (fun c5 => ?_)
    · have hf := ite_f c4 hf
      refine J_iconst o dX11_served_31 ?_
      exact t_Re_served_32 k (R_idiv _ _) rl2 hf hc
    · have hf := ite_t c5 hf
      refine J_iconst o dX11_served_27 ?_
      refine J_goto 32 o dX11_served_28 (by decide) ?_
      exact t_Re_served_32 k (R_idiv _ _) rl1 hf hc
  · have hf := ite_t c3 hf
    refine J_iload_n o dX11_served_10 rfl ?_
    refine J_if_ne 18 o dX11_served_11 (by decide) (R_idiv _ _) (fun c6 => ?_) (fun c7 => ?_)
    · have hf := ite_f c6 hf
      refine J_iconst o dX11_served_18 ?_
      refine J_goto 32 o dX11_served_19 (by decide) ?_
      exact t_Re_served_32 k (R_idiv _ _) rl0 hf hc
    · have hf := ite_t c7 hf
      refine J_iconst o dX11_served_14 ?_
      refine J_goto 32 o dX11_served_15 (by decide) ?_
      exact t_Re_served_32 k (R_idiv _ _) rl1 hf hc
theorem c_Re_served {E : EE} {l : Launch} (hI : Inj TB E) {w0 : World} {x0 : Int} (r_x0 : R32 x0) {out : Int} (hf : f_Re_served x0 = some out) : ConI TB E l yX11_served (WS yX11_served cX11_served 3 (some .int)) rm_Re_served [.int (ii x0)] w0 w0 out :=
  con_I (by decide +kernel) rfl (Nat.le_of_ble_eq_true rfl) (c1s_i c1s_0 (Nat.le_of_ble_eq_true rfl)).1 ⟨rfl, rfl⟩ hI TnB (fun K H0 k hret => t_Re_served_0 k r_x0 hf hret)
abbrev rm_Re_indexes : Room := { frames := 4, cells := 0, slots := 0, locals := 88 }
def HW_Re_indexes_14 (E : EE) (K : KT) (H0 : Heap) (x1 : Int) : (World × Int × Int) → Prop := fun z => R32 z.2.1 → R32 z.2.2 → ∀ o4 o5 o6 o7 o8 : Option Value, Jj K (WdT TB E H0) z.1 14 [some (rf E.ad 1), some (.int (ii x1)), some (.int (ii z.2.1)), some (.int (ii z.2.2)), o4, o5, o6, o7, o8] []
def HW_Re_indexes_39 (E : EE) (K : KT) (H0 : Heap) (w : World) (x1 : Int) (x3 : Int) : (Int × Int) → Prop := fun z => R32 z.1 → R32 z.2 → ∀ o5 o6 o7 o8 : Option Value, Jj K (WdT TB E H0) w 39 [some (rf E.ad 1), some (.int (ii x1)), some (.int (ii z.1)), some (.int (ii x3)), some (.int (ii z.2)), o5, o6, o7, o8] []
def HW_Re_indexes_112 (E : EE) (K : KT) (H0 : Heap) (w : World) (x2 : Int) : (Int × Int) → Prop := fun z => R32 z.1 → R32 z.2 → ∀ o0 o1 o5 o6 o7 o8 : Option Value, Jj K (WdT TB E H0) w 112 [o0, o1, some (.int (ii x2)), some (.int (ii z.1)), some (.int (ii z.2)), o5, o6, o7, o8] []
def HW_Re_indexes_128 (E : EE) (K : KT) (H0 : Heap) (w : World) (x2 : Int) (x3 : Int) (x4 : Int) : (Int × Int × Int) → Prop := fun z => R32 z.1 → R32 z.2.1 → R32 z.2.2 → ∀ o0 o1 o8 : Option Value, Jj K (WdT TB E H0) w 128 [o0, o1, some (.int (ii x2)), some (.int (ii x3)), some (.int (ii x4)), some (.int (ii z.1)), some (.int (ii z.2.1)), some (.int (ii z.2.2)), o8] []
noncomputable def f_Re_indexes_214 (w : World) (x2 : Int) (x4 : Int) (s0 : Int) : Option ((Int × Int) ⊕ (World × Int)) :=
  bl (wr (x4 + 1)) fun n1 => some (Sum.inl (s0, n1))
theorem t_Re_indexes_214 {E : EE} {K : KT} {l : Launch} {H0 : Heap} (k : Kof TB E K l cX11_indexes RX11 rm_Re_indexes) {w : World} {x2 : Int} {x4 : Int} {s0 : Int} {o0 o1 o3 o5 o6 o7 o8 : Option Value} (r_x2 : R32 x2) (r_x4 : R32 x4) (r_s0 : R32 s0) {out : ((Int × Int) ⊕ (World × Int))} (hf : f_Re_indexes_214 w x2 x4 s0 = some out) (hc : (Sum.elim (HW_Re_indexes_112 E K H0 w x2) (fun out : (World × Int) => RetI TB E K H0 cX11_indexes out.1 out.2)) out) : Jj K (WdT TB E H0) w 214 [o0, o1, some (.int (ii x2)), o3, some (.int (ii x4)), o5, o6, o7, o8] [.int (ii s0)] := by
  unfold f_Re_indexes_214 at hf
  have o := k.1
  have g := k.2.1
  have kr := k.2.2.1
  refine J_istore_n o dX11_indexes_214 (Nat.le_of_ble_eq_true rfl) ?_
  have hf := bl_out hf
  refine J_iinc o dX11_indexes_215 rfl ?_
  refine J_goto 112 o dX11_indexes_218 (by decide) ?_
  have hf := some_inj hf
  subst hf
  exact hc r_s0 (R_wr _) _ _ _ _ _ _
noncomputable def f_Re_indexes_213 (w : World) (x2 : Int) (x3 : Int) (x4 : Int) : Option ((Int × Int) ⊕ (World × Int)) :=
  f_Re_indexes_214 w x2 x4 x3
theorem t_Re_indexes_213 {E : EE} {K : KT} {l : Launch} {H0 : Heap} (k : Kof TB E K l cX11_indexes RX11 rm_Re_indexes) {w : World} {x2 : Int} {x3 : Int} {x4 : Int} {o0 o1 o5 o6 o7 o8 : Option Value} (r_x2 : R32 x2) (r_x3 : R32 x3) (r_x4 : R32 x4) {out : ((Int × Int) ⊕ (World × Int))} (hf : f_Re_indexes_213 w x2 x3 x4 = some out) (hc : (Sum.elim (HW_Re_indexes_112 E K H0 w x2) (fun out : (World × Int) => RetI TB E K H0 cX11_indexes out.1 out.2)) out) : Jj K (WdT TB E H0) w 213 [o0, o1, some (.int (ii x2)), some (.int (ii x3)), some (.int (ii x4)), o5, o6, o7, o8] [] := by
  unfold f_Re_indexes_213 at hf
  have o := k.1
  have g := k.2.1
  have kr := k.2.2.1
  refine J_iload_n o dX11_indexes_213 rfl ?_
  exact t_Re_indexes_214 k r_x2 r_x4 r_x3 hf hc
noncomputable def f_Re_indexes_184 (w : World) (x2 : Int) (x3 : Int) (x4 : Int) (x5 : Int) (x7 : Int) (s0 : Int) (s1 : Int) : Option ((Int × Int × Int) ⊕ ((Int × Int) ⊕ (World × Int))) :=
  bl (wr (s0 + s1)) fun n1 => bl (wr (x7 + 1)) fun n2 => some (Sum.inl (x5, n1, n2))
theorem t_Re_indexes_184 {E : EE} {K : KT} {l : Launch} {H0 : Heap} (k : Kof TB E K l cX11_indexes RX11 rm_Re_indexes) {w : World} {x2 : Int} {x3 : Int} {x4 : Int} {x5 : Int} {x7 : Int} {s0 : Int} {s1 : Int} {o0 o1 o6 o8 : Option Value} (r_x2 : R32 x2) (r_x3 : R32 x3) (r_x4 : R32 x4) (r_x5 : R32 x5) (r_x7 : R32 x7) (r_s0 : R32 s0) (r_s1 : R32 s1) {out : ((Int × Int × Int) ⊕ ((Int × Int) ⊕ (World × Int)))} (hf : f_Re_indexes_184 w x2 x3 x4 x5 x7 s0 s1 = some out) (hc : (Sum.elim (HW_Re_indexes_128 E K H0 w x2 x3 x4) (Sum.elim (HW_Re_indexes_112 E K H0 w x2) (fun out : (World × Int) => RetI TB E K H0 cX11_indexes out.1 out.2))) out) : Jj K (WdT TB E H0) w 184 [o0, o1, some (.int (ii x2)), some (.int (ii x3)), some (.int (ii x4)), some (.int (ii x5)), o6, some (.int (ii x7)), o8] [.int (ii s1), .int (ii s0)] := by
  unfold f_Re_indexes_184 at hf
  have o := k.1
  have g := k.2.1
  have kr := k.2.2.1
  refine J_iadd o dX11_indexes_184 ?_
  refine J_istore o dX11_indexes_185 (Nat.le_of_ble_eq_true rfl) ?_
  have hf := bl_out hf
  have hf := bl_out hf
  refine J_iinc o dX11_indexes_187 rfl ?_
  refine J_goto 128 o dX11_indexes_190 (by decide) ?_
  have hf := some_inj hf
  subst hf
  exact hc r_x5 (R_wr _) (R_wr _) _ _ _
noncomputable def f_Re_indexes_169 (w : World) (x2 : Int) (x3 : Int) (x4 : Int) (x6 : Int) (x7 : Int) (x8 : Int) (s0 : Int) (s1 : Int) : Option ((Int × Int × Int) ⊕ ((Int × Int) ⊕ (World × Int))) :=
  bl (ior s0 s1) fun n1 => if x8 = 0 then (f_Re_indexes_184 w x2 x3 x4 n1 x7 x6 0) else (f_Re_indexes_184 w x2 x3 x4 n1 x7 x6 1)
theorem t_Re_indexes_169 {E : EE} {K : KT} {l : Launch} {H0 : Heap} (k : Kof TB E K l cX11_indexes RX11 rm_Re_indexes) {w : World} {x2 : Int} {x3 : Int} {x4 : Int} {x6 : Int} {x7 : Int} {x8 : Int} {s0 : Int} {s1 : Int} {o0 o1 o5 : Option Value} (r_x2 : R32 x2) (r_x3 : R32 x3) (r_x4 : R32 x4) (r_x6 : R32 x6) (r_x7 : R32 x7) (r_x8 : R32 x8) (r_s0 : R32 s0) (r_s1 : R32 s1) {out : ((Int × Int × Int) ⊕ ((Int × Int) ⊕ (World × Int)))} (hf : f_Re_indexes_169 w x2 x3 x4 x6 x7 x8 s0 s1 = some out) (hc : (Sum.elim (HW_Re_indexes_128 E K H0 w x2 x3 x4) (Sum.elim (HW_Re_indexes_112 E K H0 w x2) (fun out : (World × Int) => RetI TB E K H0 cX11_indexes out.1 out.2))) out) : Jj K (WdT TB E H0) w 169 [o0, o1, some (.int (ii x2)), some (.int (ii x3)), some (.int (ii x4)), o5, some (.int (ii x6)), some (.int (ii x7)), some (.int (ii x8))] [.int (ii s1), .int (ii s0)] := by
  unfold f_Re_indexes_169 at hf
  have o := k.1
  have g := k.2.1
  have kr := k.2.2.1
  refine J_ior o dX11_indexes_169 ?_
  refine J_istore o dX11_indexes_170 (Nat.le_of_ble_eq_true rfl) ?_
  have hf := bl_out hf
  refine J_iload o dX11_indexes_172 rfl ?_
  refine J_iload o dX11_indexes_174 rfl ?_
  refine J_if_eq 183 o dX11_indexes_176 (by decide) r_x8 (fun c2 => ?_) (fun c3 => ?_)
  · have hf := ite_t c2 hf
    refine J_iconst o dX11_indexes_183 ?_
    exact t_Re_indexes_184 k r_x2 r_x3 r_x4 (R_ior _ _) r_x7 r_x6 rl0 hf hc
  · have hf := ite_f c3 hf
    refine J_iconst o dX11_indexes_179 ?_
    refine J_goto 184 o dX11_indexes_180 (by decide) ?_
    exact t_Re_indexes_184 k r_x2 r_x3 r_x4 (R_ior _ _) r_x7 r_x6 rl1 hf hc
noncomputable def f_Re_indexes_151 (w : World) (x2 : Int) (x3 : Int) (x4 : Int) (x5 : Int) (x6 : Int) (x7 : Int) (s0 : Int) : Option ((Int × Int × Int) ⊕ ((Int × Int) ⊕ (World × Int))) :=
  if s0 = 0 then (f_Re_indexes_169 w x2 x3 x4 x6 x7 s0 x5 0) else (bnd (f_Re_served x7) fun v4 => f_Re_indexes_169 w x2 x3 x4 x6 x7 s0 x5 v4)
theorem t_Re_indexes_151 {E : EE} {K : KT} {l : Launch} {H0 : Heap} (k : Kof TB E K l cX11_indexes RX11 rm_Re_indexes) {w : World} {x2 : Int} {x3 : Int} {x4 : Int} {x5 : Int} {x6 : Int} {x7 : Int} {s0 : Int} {o0 o1 o8 : Option Value} (r_x2 : R32 x2) (r_x3 : R32 x3) (r_x4 : R32 x4) (r_x5 : R32 x5) (r_x6 : R32 x6) (r_x7 : R32 x7) (r_s0 : R32 s0) {out : ((Int × Int × Int) ⊕ ((Int × Int) ⊕ (World × Int)))} (hf : f_Re_indexes_151 w x2 x3 x4 x5 x6 x7 s0 = some out) (hc : (Sum.elim (HW_Re_indexes_128 E K H0 w x2 x3 x4) (Sum.elim (HW_Re_indexes_112 E K H0 w x2) (fun out : (World × Int) => RetI TB E K H0 cX11_indexes out.1 out.2))) out) : Jj K (WdT TB E H0) w 151 [o0, o1, some (.int (ii x2)), some (.int (ii x3)), some (.int (ii x4)), some (.int (ii x5)), some (.int (ii x6)), some (.int (ii x7)), o8] [.int (ii s0)] := by
  unfold f_Re_indexes_151 at hf
  have o := k.1
  have g := k.2.1
  have kr := k.2.2.1
  refine J_istore o dX11_indexes_151 (Nat.le_of_ble_eq_true rfl) ?_
  refine J_iload o dX11_indexes_153 rfl ?_
  refine J_iload o dX11_indexes_155 rfl ?_
  refine J_if_eq 168 o dX11_indexes_157 (by decide) r_s0 (fun c1 => ?_) (fun c2 => ?_)
  · have hf := ite_t c1 hf
    refine J_iconst o dX11_indexes_168 ?_
    exact t_Re_indexes_169 k r_x2 r_x3 r_x4 r_x6 r_x7 r_s0 r_x5 rl0 hf hc
  · have hf := ite_f c2 hf
    refine J_iload o dX11_indexes_160 rfl ?_
    obtain ⟨v4, e3, hf⟩ := bnd_some hf
    refine J_sI o g kr dX11_indexes_162 lkX11_315 ml_Re_served mw1817 ⟨rfl, rfl, Nat.le_of_ble_eq_true rfl, Nat.le_of_ble_eq_true rfl⟩ (c_Re_served g.2.1 r_x7 e3) rfl rfl (c1s_i c1s_0 (Nat.le_of_ble_eq_true rfl)) (fun q5 => ?_)
    refine J_goto 169 o dX11_indexes_165 (by decide) ?_
    exact t_Re_indexes_169 k r_x2 r_x3 r_x4 r_x6 r_x7 r_s0 r_x5 q5 hf hc
noncomputable def f_Re_indexes_128B (w : World) (x2 : Int) (x3 : Int) (x4 : Int) (x5 : Int) (x6 : Int) (x7 : Int) : Option ((Int × Int × Int) ⊕ ((Int × Int) ⊕ (World × Int))) :=
  if 6 ≤ x7 then (if (iand x2 (ixor x5 (-1))) = 0 then (if x3 ≤ x6 then (bnd (f_Re_indexes_213 w x2 x3 x4) fun y8 => some (Sum.inr y8)) else (bnd (f_Re_indexes_214 w x2 x4 x6) fun y9 => some (Sum.inr y9))) else (bnd (f_Re_indexes_213 w x2 x3 x4) fun y5 => some (Sum.inr y5))) else (if (iand (ishr x4 x7) 1) = 1 then (f_Re_indexes_151 w x2 x3 x4 x5 x6 x7 1) else (f_Re_indexes_151 w x2 x3 x4 x5 x6 x7 0))
theorem t_Re_indexes_128B {E : EE} {K : KT} {l : Launch} {H0 : Heap} (k : Kof TB E K l cX11_indexes RX11 rm_Re_indexes) {w : World} {x2 : Int} {x3 : Int} {x4 : Int} {x5 : Int} {x6 : Int} {x7 : Int} {o0 o1 o8 : Option Value} (r_x2 : R32 x2) (r_x3 : R32 x3) (r_x4 : R32 x4) (r_x5 : R32 x5) (r_x6 : R32 x6) (r_x7 : R32 x7) {out : ((Int × Int × Int) ⊕ ((Int × Int) ⊕ (World × Int)))} (hf : f_Re_indexes_128B w x2 x3 x4 x5 x6 x7 = some out) (hc : (Sum.elim (HW_Re_indexes_128 E K H0 w x2 x3 x4) (Sum.elim (HW_Re_indexes_112 E K H0 w x2) (fun out : (World × Int) => RetI TB E K H0 cX11_indexes out.1 out.2))) out) : Jj K (WdT TB E H0) w 128 [o0, o1, some (.int (ii x2)), some (.int (ii x3)), some (.int (ii x4)), some (.int (ii x5)), some (.int (ii x6)), some (.int (ii x7)), o8] [] := by
  unfold f_Re_indexes_128B at hf
  have o := k.1
  have g := k.2.1
  have kr := k.2.2.1
  refine J_iload o dX11_indexes_128 rfl ?_
  refine J_bipush o dX11_indexes_130 (by decide) ?_
  refine J_icmp_ge 193 o dX11_indexes_132 (by decide) r_x7 rl6 (fun c1 => ?_) (fun c2 => ?_)
  · have hf := ite_t c1 hf
    refine J_iload_n o dX11_indexes_193 rfl ?_
    refine J_iload o dX11_indexes_194 rfl ?_
    refine J_iconst o dX11_indexes_196 ?_
    refine J_ixor o dX11_indexes_197 ?_
    refine J_iand o dX11_indexes_198 ?_
    refine J_if_ne 213 o dX11_indexes_199 (by decide) (R_iand _ _) (fun c3 => ?_) (fun c4 => ?_)
    · have hf := ite_f c3 hf
      obtain ⟨y5, hf1, hf⟩ := bnd_some hf
      have hf := some_inj hf
      subst hf
      exact t_Re_indexes_213 k r_x2 r_x3 r_x4 hf1 hc
    · have hf := ite_t c4 hf
      refine J_iload o dX11_indexes_202 rfl ?_
      refine J_iload_n o dX11_indexes_204 rfl ?_
      refine J_icmp_ge 213 o dX11_indexes_205 (by decide) r_x6 r_x3 (fun c6 => ?_) (fun c7 => ?_)
      · have hf := ite_t c6 hf
        obtain ⟨y8, hf1, hf⟩ := bnd_some hf
        have hf := some_inj hf
        subst hf
        exact t_Re_indexes_213 k r_x2 r_x3 r_x4 hf1 hc
      · have hf := ite_f c7 hf
        refine J_iload o dX11_indexes_208 rfl ?_
        refine J_goto 214 o dX11_indexes_210 (by decide) ?_
        obtain ⟨y9, hf1, hf⟩ := bnd_some hf
        have hf := some_inj hf
        subst hf
        exact t_Re_indexes_214 k r_x2 r_x4 r_x6 hf1 hc
  · have hf := ite_f c2 hf
    refine J_iload o dX11_indexes_135 rfl ?_
    refine J_iload o dX11_indexes_137 rfl ?_
    refine J_ishr o dX11_indexes_139 ?_
    refine J_iconst o dX11_indexes_140 ?_
    refine J_iand o dX11_indexes_141 ?_
    refine J_iconst o dX11_indexes_142 ?_
    refine J_icmp_ne 150 o dX11_indexes_143 (by decide) (R_iand _ _) rl1 (fun c10 => ?_) (fun c11 => ?_)
    · have hf := ite_f c10 hf
      refine J_iconst o dX11_indexes_150 ?_
      exact t_Re_indexes_151 k r_x2 r_x3 r_x4 r_x5 r_x6 r_x7 rl0 hf hc
    · have hf := ite_t c11 hf
      refine J_iconst o dX11_indexes_146 ?_
      refine J_goto 151 o dX11_indexes_147 (by decide) ?_
      exact t_Re_indexes_151 k r_x2 r_x3 r_x4 r_x5 r_x6 r_x7 rl1 hf hc
noncomputable def f_Re_indexes_128 (w : World) (x2 : Int) (x3 : Int) (x4 : Int) (x5 : Int) (x6 : Int) (x7 : Int) : Option ((Int × Int) ⊕ (World × Int)) :=
  lp (fun z : (Int × Int × Int) => f_Re_indexes_128B w x2 x3 x4 z.1 z.2.1 z.2.2) (x5, x6, x7)
theorem t_Re_indexes_128 {E : EE} {K : KT} {l : Launch} {H0 : Heap} (k : Kof TB E K l cX11_indexes RX11 rm_Re_indexes) {w : World} {x2 : Int} {x3 : Int} {x4 : Int} {x5 : Int} {x6 : Int} {x7 : Int} (r_x2 : R32 x2) (r_x3 : R32 x3) (r_x4 : R32 x4) {out : ((Int × Int) ⊕ (World × Int))} (hf : f_Re_indexes_128 w x2 x3 x4 x5 x6 x7 = some out) (hc : (Sum.elim (HW_Re_indexes_112 E K H0 w x2) (fun out : (World × Int) => RetI TB E K H0 cX11_indexes out.1 out.2)) out) : HW_Re_indexes_128 E K H0 w x2 x3 x4 (x5, x6, x7) := by
  unfold f_Re_indexes_128 at hf
  refine lp_ind (P := HW_Re_indexes_128 E K H0 w x2 x3 x4) hf ?_
  intro z o hs h1 h2
  intro r_x5 r_x6 r_x7
  intro o0 o1 o8
  refine t_Re_indexes_128B k r_x2 r_x3 r_x4 r_x5 r_x6 r_x7 hs ?_
  cases o with
  | inl z' => exact h1 z' rfl
  | inr r' => rw [h2 r' rfl]; exact hc
noncomputable def f_Re_indexes_112B (w : World) (x2 : Int) (x3 : Int) (x4 : Int) : Option ((Int × Int) ⊕ (World × Int)) :=
  if 64 ≤ x4 then (some (Sum.inr (w, x3))) else (f_Re_indexes_128 w x2 x3 x4 0 0 0)
theorem t_Re_indexes_112B {E : EE} {K : KT} {l : Launch} {H0 : Heap} (k : Kof TB E K l cX11_indexes RX11 rm_Re_indexes) {w : World} {x2 : Int} {x3 : Int} {x4 : Int} {o0 o1 o5 o6 o7 o8 : Option Value} (r_x2 : R32 x2) (r_x3 : R32 x3) (r_x4 : R32 x4) {out : ((Int × Int) ⊕ (World × Int))} (hf : f_Re_indexes_112B w x2 x3 x4 = some out) (hc : (Sum.elim (HW_Re_indexes_112 E K H0 w x2) (fun out : (World × Int) => RetI TB E K H0 cX11_indexes out.1 out.2)) out) : Jj K (WdT TB E H0) w 112 [o0, o1, some (.int (ii x2)), some (.int (ii x3)), some (.int (ii x4)), o5, o6, o7, o8] [] := by
  unfold f_Re_indexes_112B at hf
  have o := k.1
  have g := k.2.1
  have kr := k.2.2.1
  refine J_iload o dX11_indexes_112 rfl ?_
  refine J_bipush o dX11_indexes_114 (by decide) ?_
  refine J_icmp_ge 221 o dX11_indexes_116 (by decide) r_x4 rl64 (fun c1 => ?_) (fun c2 => ?_)
  · have hf := ite_t c1 hf
    refine J_iload_n o dX11_indexes_221 rfl ?_
    have hf := some_inj hf
    subst hf
    exact hc _ _ r_x3 dX11_indexes_222
  · have hf := ite_f c2 hf
    refine J_iconst o dX11_indexes_119 ?_
    refine J_istore o dX11_indexes_120 (Nat.le_of_ble_eq_true rfl) ?_
    refine J_iconst o dX11_indexes_122 ?_
    refine J_istore o dX11_indexes_123 (Nat.le_of_ble_eq_true rfl) ?_
    refine J_iconst o dX11_indexes_125 ?_
    refine J_istore o dX11_indexes_126 (Nat.le_of_ble_eq_true rfl) ?_
    exact (t_Re_indexes_128 k r_x2 r_x3 r_x4 hf hc) rl0 rl0 rl0 _ _ _
noncomputable def f_Re_indexes_112 (w : World) (x2 : Int) (x3 : Int) (x4 : Int) : Option (World × Int) :=
  lp (fun z : (Int × Int) => f_Re_indexes_112B w x2 z.1 z.2) (x3, x4)
theorem t_Re_indexes_112 {E : EE} {K : KT} {l : Launch} {H0 : Heap} (k : Kof TB E K l cX11_indexes RX11 rm_Re_indexes) {w : World} {x2 : Int} {x3 : Int} {x4 : Int} (r_x2 : R32 x2) {out : (World × Int)} (hf : f_Re_indexes_112 w x2 x3 x4 = some out) (hc : (fun out : (World × Int) => RetI TB E K H0 cX11_indexes out.1 out.2) out) : HW_Re_indexes_112 E K H0 w x2 (x3, x4) := by
  unfold f_Re_indexes_112 at hf
  refine lp_ind (P := HW_Re_indexes_112 E K H0 w x2) hf ?_
  intro z o hs h1 h2
  intro r_x3 r_x4
  intro o0 o1 o5 o6 o7 o8
  refine t_Re_indexes_112B k r_x2 r_x3 r_x4 hs ?_
  cases o with
  | inl z' => exact h1 z' rfl
  | inr r' => rw [h2 r' rfl]; exact hc
noncomputable def f_Re_indexes_100 (w : World) (x1 : Int) (x2 : Int) (x3 : Int) : Option ((World × Int × Int) ⊕ (World × Int)) :=
  bl (wr (x3 + 1)) fun n1 => some (Sum.inl (w, x2, n1))
theorem t_Re_indexes_100 {E : EE} {K : KT} {l : Launch} {H0 : Heap} (k : Kof TB E K l cX11_indexes RX11 rm_Re_indexes) {w : World} {x1 : Int} {x2 : Int} {x3 : Int} {o4 o5 o6 o7 o8 : Option Value} (r_x1 : R32 x1) (r_x2 : R32 x2) (r_x3 : R32 x3) {out : ((World × Int × Int) ⊕ (World × Int))} (hf : f_Re_indexes_100 w x1 x2 x3 = some out) (hc : (Sum.elim (HW_Re_indexes_14 E K H0 x1) (fun out : (World × Int) => RetI TB E K H0 cX11_indexes out.1 out.2)) out) : Jj K (WdT TB E H0) w 100 [some (rf E.ad 1), some (.int (ii x1)), some (.int (ii x2)), some (.int (ii x3)), o4, o5, o6, o7, o8] [] := by
  unfold f_Re_indexes_100 at hf
  have o := k.1
  have g := k.2.1
  have kr := k.2.2.1
  have hf := bl_out hf
  refine J_iinc o dX11_indexes_100 rfl ?_
  refine J_goto 14 o dX11_indexes_103 (by decide) ?_
  have hf := some_inj hf
  subst hf
  exact hc r_x2 (R_wr _) _ _ _ _ _
noncomputable def f_Re_indexes_92 (w : World) (x1 : Int) (x3 : Int) (x4 : Int) (s0 : Int) (s1 : Int) : Option ((Int × Int) ⊕ ((World × Int × Int) ⊕ (World × Int))) :=
  bl (ior s0 s1) fun n1 => bl (wr (x4 + 1)) fun n2 => some (Sum.inl (n1, n2))
theorem t_Re_indexes_92 {E : EE} {K : KT} {l : Launch} {H0 : Heap} (k : Kof TB E K l cX11_indexes RX11 rm_Re_indexes) {w : World} {x1 : Int} {x3 : Int} {x4 : Int} {s0 : Int} {s1 : Int} {o2 o5 o6 o7 o8 : Option Value} (r_x1 : R32 x1) (r_x3 : R32 x3) (r_x4 : R32 x4) (r_s0 : R32 s0) (r_s1 : R32 s1) {out : ((Int × Int) ⊕ ((World × Int × Int) ⊕ (World × Int)))} (hf : f_Re_indexes_92 w x1 x3 x4 s0 s1 = some out) (hc : (Sum.elim (HW_Re_indexes_39 E K H0 w x1 x3) (Sum.elim (HW_Re_indexes_14 E K H0 x1) (fun out : (World × Int) => RetI TB E K H0 cX11_indexes out.1 out.2))) out) : Jj K (WdT TB E H0) w 92 [some (rf E.ad 1), some (.int (ii x1)), o2, some (.int (ii x3)), some (.int (ii x4)), o5, o6, o7, o8] [.int (ii s1), .int (ii s0)] := by
  unfold f_Re_indexes_92 at hf
  have o := k.1
  have g := k.2.1
  have kr := k.2.2.1
  refine J_ior o dX11_indexes_92 ?_
  refine J_istore_n o dX11_indexes_93 (Nat.le_of_ble_eq_true rfl) ?_
  have hf := bl_out hf
  have hf := bl_out hf
  refine J_iinc o dX11_indexes_94 rfl ?_
  refine J_goto 39 o dX11_indexes_97 (by decide) ?_
  have hf := some_inj hf
  subst hf
  exact hc (R_ior _ _) (R_wr _) _ _ _ _
noncomputable def f_Re_indexes_91 (w : World) (x1 : Int) (x3 : Int) (x4 : Int) (s0 : Int) : Option ((Int × Int) ⊕ ((World × Int × Int) ⊕ (World × Int))) :=
  f_Re_indexes_92 w x1 x3 x4 s0 0
theorem t_Re_indexes_91 {E : EE} {K : KT} {l : Launch} {H0 : Heap} (k : Kof TB E K l cX11_indexes RX11 rm_Re_indexes) {w : World} {x1 : Int} {x3 : Int} {x4 : Int} {s0 : Int} {o2 o5 o6 o7 o8 : Option Value} (r_x1 : R32 x1) (r_x3 : R32 x3) (r_x4 : R32 x4) (r_s0 : R32 s0) {out : ((Int × Int) ⊕ ((World × Int × Int) ⊕ (World × Int)))} (hf : f_Re_indexes_91 w x1 x3 x4 s0 = some out) (hc : (Sum.elim (HW_Re_indexes_39 E K H0 w x1 x3) (Sum.elim (HW_Re_indexes_14 E K H0 x1) (fun out : (World × Int) => RetI TB E K H0 cX11_indexes out.1 out.2))) out) : Jj K (WdT TB E H0) w 91 [some (rf E.ad 1), some (.int (ii x1)), o2, some (.int (ii x3)), some (.int (ii x4)), o5, o6, o7, o8] [.int (ii s0)] := by
  unfold f_Re_indexes_91 at hf
  have o := k.1
  have g := k.2.1
  have kr := k.2.2.1
  refine J_iconst o dX11_indexes_91 ?_
  exact t_Re_indexes_92 k r_x1 r_x3 r_x4 r_s0 rl0 hf hc
noncomputable def f_Re_indexes_39B (w : World) (x1 : Int) (x2 : Int) (x3 : Int) (x4 : Int) : Option ((Int × Int) ⊕ ((World × Int × Int) ⊕ (World × Int))) :=
  if (w 1 35) ≤ x4 then (bnd (f_Re_indexes_100 w x1 x2 x3) fun y4 => some (Sum.inr y4)) else (gd (0 ≤ x4 ∧ x4 < 5) (gd (0 ≤ wr ((wr (5 * x3)) + (w 29 x4.toNat)) ∧ wr ((wr (5 * x3)) + (w 29 x4.toNat)) < 95) (if (w 18 (wr ((wr (5 * x3)) + (w 29 x4.toNat))).toNat) = x1 then (gd (0 ≤ x4 ∧ x4 < 5) (if (w 30 x4.toNat) = 0 then (f_Re_indexes_91 w x1 x3 x4 x2) else (gd (0 ≤ x4 ∧ x4 < 5) (f_Re_indexes_92 w x1 x3 x4 x2 (ishl 1 (w 30 x4.toNat)))))) else (f_Re_indexes_91 w x1 x3 x4 x2))))
theorem t_Re_indexes_39B {E : EE} {K : KT} {l : Launch} {H0 : Heap} (k : Kof TB E K l cX11_indexes RX11 rm_Re_indexes) {w : World} {x1 : Int} {x2 : Int} {x3 : Int} {x4 : Int} {o5 o6 o7 o8 : Option Value} (r_x1 : R32 x1) (r_x2 : R32 x2) (r_x3 : R32 x3) (r_x4 : R32 x4) {out : ((Int × Int) ⊕ ((World × Int × Int) ⊕ (World × Int)))} (hf : f_Re_indexes_39B w x1 x2 x3 x4 = some out) (hc : (Sum.elim (HW_Re_indexes_39 E K H0 w x1 x3) (Sum.elim (HW_Re_indexes_14 E K H0 x1) (fun out : (World × Int) => RetI TB E K H0 cX11_indexes out.1 out.2))) out) : Jj K (WdT TB E H0) w 39 [some (rf E.ad 1), some (.int (ii x1)), some (.int (ii x2)), some (.int (ii x3)), some (.int (ii x4)), o5, o6, o7, o8] [] := by
  unfold f_Re_indexes_39B at hf
  have o := k.1
  have g := k.2.1
  have kr := k.2.2.1
  refine J_iload o dX11_indexes_39 rfl ?_
  refine J_aload_n o dX11_indexes_41 rfl ?_
  refine J_getI o g dX11_indexes_42 flX11_300 kB_1 rfl (fun q1 => ?_)
  refine J_icmp_ge 100 o dX11_indexes_45 (by decide) r_x4 q1 (fun c2 => ?_) (fun c3 => ?_)
  · have hf := ite_t c2 hf
    obtain ⟨y4, hf1, hf⟩ := bnd_some hf
    have hf := some_inj hf
    subst hf
    exact t_Re_indexes_100 k r_x1 r_x2 r_x3 hf1 hc
  · have hf := ite_f c3 hf
    refine J_iload_n o dX11_indexes_48 rfl ?_
    refine J_aload_n o dX11_indexes_49 rfl ?_
    refine J_getF (true, 18) o g dX11_indexes_50 flX11_59 kB_1 rfl rfl rfl ?_
    refine J_iconst o dX11_indexes_53 ?_
    refine J_iload_n o dX11_indexes_54 rfl ?_
    refine J_imul o dX11_indexes_55 ?_
    refine J_aload_n o dX11_indexes_56 rfl ?_
    refine J_getF (true, 29) o g dX11_indexes_57 flX11_92 kB_1 rfl rfl rfl ?_
    refine J_iload o dX11_indexes_60 rfl ?_
    obtain ⟨g5, hf⟩ := gd_some hf
    refine J_iald o g dX11_indexes_62 kB_29 r_x4 zB_29 g5 (fun q6 => ?_)
    refine J_iadd o dX11_indexes_63 ?_
    obtain ⟨g7, hf⟩ := gd_some hf
    refine J_iald o g dX11_indexes_64 kB_18 (R_wr _) zB_18 g7 (fun q8 => ?_)
    refine J_iload_n o dX11_indexes_65 rfl ?_
    refine J_icmp_ne 91 o dX11_indexes_66 (by decide) q8 r_x1 (fun c9 => ?_) (fun c10 => ?_)
    · have hf := ite_f c9 hf
      exact t_Re_indexes_91 k r_x1 r_x3 r_x4 r_x2 hf hc
    · have hf := ite_t c10 hf
      refine J_aload_n o dX11_indexes_69 rfl ?_
      refine J_getF (true, 30) o g dX11_indexes_70 flX11_95 kB_1 rfl rfl rfl ?_
      refine J_iload o dX11_indexes_73 rfl ?_
      obtain ⟨g11, hf⟩ := gd_some hf
      refine J_iald o g dX11_indexes_75 kB_30 r_x4 zB_30 g11 (fun q12 => ?_)
      refine J_if_eq 91 o dX11_indexes_76 (by decide) q12 (fun c13 => ?_) (fun c14 => ?_)
      · have hf := ite_t c13 hf
        exact t_Re_indexes_91 k r_x1 r_x3 r_x4 r_x2 hf hc
      · have hf := ite_f c14 hf
        refine J_iconst o dX11_indexes_79 ?_
        refine J_aload_n o dX11_indexes_80 rfl ?_
        refine J_getF (true, 30) o g dX11_indexes_81 flX11_95 kB_1 rfl rfl rfl ?_
        refine J_iload o dX11_indexes_84 rfl ?_
        obtain ⟨g15, hf⟩ := gd_some hf
        refine J_iald o g dX11_indexes_86 kB_30 r_x4 zB_30 g15 (fun q16 => ?_)
        refine J_ishl o dX11_indexes_87 ?_
        refine J_goto 92 o dX11_indexes_88 (by decide) ?_
        exact t_Re_indexes_92 k r_x1 r_x3 r_x4 r_x2 (R_ishl _ _) hf hc
noncomputable def f_Re_indexes_39 (w : World) (x1 : Int) (x2 : Int) (x3 : Int) (x4 : Int) : Option ((World × Int × Int) ⊕ (World × Int)) :=
  lp (fun z : (Int × Int) => f_Re_indexes_39B w x1 z.1 x3 z.2) (x2, x4)
theorem t_Re_indexes_39 {E : EE} {K : KT} {l : Launch} {H0 : Heap} (k : Kof TB E K l cX11_indexes RX11 rm_Re_indexes) {w : World} {x1 : Int} {x2 : Int} {x3 : Int} {x4 : Int} (r_x1 : R32 x1) (r_x3 : R32 x3) {out : ((World × Int × Int) ⊕ (World × Int))} (hf : f_Re_indexes_39 w x1 x2 x3 x4 = some out) (hc : (Sum.elim (HW_Re_indexes_14 E K H0 x1) (fun out : (World × Int) => RetI TB E K H0 cX11_indexes out.1 out.2)) out) : HW_Re_indexes_39 E K H0 w x1 x3 (x2, x4) := by
  unfold f_Re_indexes_39 at hf
  refine lp_ind (P := HW_Re_indexes_39 E K H0 w x1 x3) hf ?_
  intro z o hs h1 h2
  intro r_x2 r_x4
  intro o5 o6 o7 o8
  refine t_Re_indexes_39B k r_x1 r_x2 r_x3 r_x4 hs ?_
  cases o with
  | inl z' => exact h1 z' rfl
  | inr r' => rw [h2 r' rfl]; exact hc
noncomputable def f_Re_indexes_14B (w : World) (x1 : Int) (x2 : Int) (x3 : Int) : Option ((World × Int × Int) ⊕ (World × Int)) :=
  if (w 1 14) ≤ x3 then (bnd (f_Re_indexes_112 w x2 6 0) fun y4 => some (Sum.inr y4)) else (gd (0 ≤ x3 ∧ x3 < 12) (if (w 13 x3.toNat) = 0 then (bnd (f_Re_makePlan w x3) fun v10 => f_Re_indexes_39 v10 x1 x2 x3 0) else (f_Re_indexes_100 w x1 x2 x3)))
theorem t_Re_indexes_14B {E : EE} {K : KT} {l : Launch} {H0 : Heap} (k : Kof TB E K l cX11_indexes RX11 rm_Re_indexes) {w : World} {x1 : Int} {x2 : Int} {x3 : Int} {o4 o5 o6 o7 o8 : Option Value} (r_x1 : R32 x1) (r_x2 : R32 x2) (r_x3 : R32 x3) {out : ((World × Int × Int) ⊕ (World × Int))} (hf : f_Re_indexes_14B w x1 x2 x3 = some out) (hc : (Sum.elim (HW_Re_indexes_14 E K H0 x1) (fun out : (World × Int) => RetI TB E K H0 cX11_indexes out.1 out.2)) out) : Jj K (WdT TB E H0) w 14 [some (rf E.ad 1), some (.int (ii x1)), some (.int (ii x2)), some (.int (ii x3)), o4, o5, o6, o7, o8] [] := by
  unfold f_Re_indexes_14B at hf
  have o := k.1
  have g := k.2.1
  have kr := k.2.2.1
  refine J_iload_n o dX11_indexes_14 rfl ?_
  refine J_aload_n o dX11_indexes_15 rfl ?_
  refine J_getI o g dX11_indexes_16 flX11_159 kB_1 rfl (fun q1 => ?_)
  refine J_icmp_ge 106 o dX11_indexes_19 (by decide) r_x3 q1 (fun c2 => ?_) (fun c3 => ?_)
  · have hf := ite_t c2 hf
    refine J_bipush o dX11_indexes_106 (by decide) ?_
    refine J_istore_n o dX11_indexes_108 (Nat.le_of_ble_eq_true rfl) ?_
    refine J_iconst o dX11_indexes_109 ?_
    refine J_istore o dX11_indexes_110 (Nat.le_of_ble_eq_true rfl) ?_
    obtain ⟨y4, hf1, hf⟩ := bnd_some hf
    have hf := some_inj hf
    subst hf
    exact (t_Re_indexes_112 k r_x2 hf1 hc) rl6 rl0 _ _ _ _ _ _
  · have hf := ite_f c3 hf
    refine J_aload_n o dX11_indexes_22 rfl ?_
    refine J_getF (true, 13) o g dX11_indexes_23 flX11_44 kB_1 rfl rfl rfl ?_
    refine J_iload_n o dX11_indexes_26 rfl ?_
    obtain ⟨g5, hf⟩ := gd_some hf
    refine J_zald o g dX11_indexes_27 kB_13 r_x3 zB_13 g5 (fun q6 => ?_)
    refine J_if_ne 100 o dX11_indexes_28 (by decide) q6 (fun c7 => ?_) (fun c8 => ?_)
    · have hf := ite_f c7 hf
      exact t_Re_indexes_100 k r_x1 r_x2 r_x3 hf hc
    · have hf := ite_t c8 hf
      refine J_aload_n o dX11_indexes_31 rfl ?_
      refine J_iload_n o dX11_indexes_32 rfl ?_
      obtain ⟨v10, e9, hf⟩ := bnd_some hf
      refine J_vV o g kr dX11_indexes_33 lkX11_309 ml_Re_makePlan vl_Re_makePlan ⟨rfl, rfl, Nat.le_of_ble_eq_true rfl, Nat.le_of_ble_eq_true rfl⟩ (c_Re_makePlan g.2.1 r_x3 e9) kB_1 rfl ⟨by decide, by decide⟩ rfl rfl c1s_0 ?_
      refine J_iconst o dX11_indexes_36 ?_
      refine J_istore o dX11_indexes_37 (Nat.le_of_ble_eq_true rfl) ?_
      exact (t_Re_indexes_39 k r_x1 r_x3 hf hc) r_x2 rl0 _ _ _ _
noncomputable def f_Re_indexes_14 (w : World) (x1 : Int) (x2 : Int) (x3 : Int) : Option (World × Int) :=
  lp (fun z : (World × Int × Int) => f_Re_indexes_14B z.1 x1 z.2.1 z.2.2) (w, x2, x3)
theorem t_Re_indexes_14 {E : EE} {K : KT} {l : Launch} {H0 : Heap} (k : Kof TB E K l cX11_indexes RX11 rm_Re_indexes) {w : World} {x1 : Int} {x2 : Int} {x3 : Int} (r_x1 : R32 x1) {out : (World × Int)} (hf : f_Re_indexes_14 w x1 x2 x3 = some out) (hc : (fun out : (World × Int) => RetI TB E K H0 cX11_indexes out.1 out.2) out) : HW_Re_indexes_14 E K H0 x1 (w, x2, x3) := by
  unfold f_Re_indexes_14 at hf
  refine lp_ind (P := HW_Re_indexes_14 E K H0 x1) hf ?_
  intro z o hs h1 h2
  intro r_x2 r_x3
  intro o4 o5 o6 o7 o8
  refine t_Re_indexes_14B k r_x1 r_x2 r_x3 hs ?_
  cases o with
  | inl z' => exact h1 z' rfl
  | inr r' => rw [h2 r' rfl]; exact hc
noncomputable def f_Re_indexes (w : World) (x1 : Int) : Option (World × Int) :=
  bnd (f_Re_noRelation w x1) fun v2 => if v2.2 = 0 then (f_Re_indexes_14 v2.1 x1 0 0) else (some (v2.1, 0))
theorem t_Re_indexes_0 {E : EE} {K : KT} {l : Launch} {H0 : Heap} (k : Kof TB E K l cX11_indexes RX11 rm_Re_indexes) {w : World} {x1 : Int} {o2 o3 o4 o5 o6 o7 o8 : Option Value} (r_x1 : R32 x1) {out : (World × Int)} (hf : f_Re_indexes w x1 = some out) (hc : (fun out : (World × Int) => RetI TB E K H0 cX11_indexes out.1 out.2) out) : Jj K (WdT TB E H0) w 0 [some (rf E.ad 1), some (.int (ii x1)), o2, o3, o4, o5, o6, o7, o8] [] := by
  unfold f_Re_indexes at hf
  have o := k.1
  have g := k.2.1
  have kr := k.2.2.1
  refine J_aload_n o dX11_indexes_0 rfl ?_
  refine J_iload_n o dX11_indexes_1 rfl ?_
  obtain ⟨v2, e1, hf⟩ := bnd_some hf
  refine J_vI o g kr dX11_indexes_2 lkX11_246 ml_Re_noRelation vl_Re_noRelation ⟨rfl, rfl, Nat.le_of_ble_eq_true rfl, Nat.le_of_ble_eq_true rfl⟩ (c_Re_noRelation g.2.1 r_x1 e1) kB_1 rfl ⟨by decide, by decide⟩ rfl rfl c1s_0 (fun q3 => ?_)
  refine J_if_eq 10 o dX11_indexes_5 (by decide) q3 (fun c4 => ?_) (fun c5 => ?_)
  · have hf := ite_t c4 hf
    refine J_iconst o dX11_indexes_10 ?_
    refine J_istore_n o dX11_indexes_11 (Nat.le_of_ble_eq_true rfl) ?_
    refine J_iconst o dX11_indexes_12 ?_
    refine J_istore_n o dX11_indexes_13 (Nat.le_of_ble_eq_true rfl) ?_
    exact (t_Re_indexes_14 k r_x1 hf hc) rl0 rl0 _ _ _ _ _
  · have hf := ite_f c5 hf
    refine J_iconst o dX11_indexes_8 ?_
    have hf := some_inj hf
    subst hf
    exact hc _ _ rl0 dX11_indexes_9
theorem c_Re_indexes {E : EE} {l : Launch} (hI : Inj TB E) {w : World} {x1 : Int} (r_x1 : R32 x1) {out : (World × Int)} (hf : f_Re_indexes w x1 = some out) : ConI TB E l yX11_indexes (WS yX11_indexes cX11_indexes 9 (some .int)) rm_Re_indexes [rf E.ad 1, .int (ii x1)] w out.1 out.2 :=
  con_I (by decide +kernel) rfl (Nat.le_of_ble_eq_true rfl) (c1s_r (c1s_i c1s_0 (Nat.le_of_ble_eq_true rfl)) (Nat.le_of_ble_eq_true rfl)).1 ⟨rfl, rfl⟩ hI TnB (fun K H0 k hret => t_Re_indexes_0 k r_x1 hf hret)
