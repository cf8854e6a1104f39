abbrev rm_Sc_note : Room := { frames := 2, cells := 0, slots := 0, locals := 44 }
noncomputable def f_Sc_note_56 (w : World) (s1 : Int) (s2 : Int) : Option World :=
  gd (0 ≤ s1 ∧ s1 < 10) (bl (up w 6 s1.toNat s2) fun w2 => some w2)
theorem t_Sc_note_56 {E : EE} {K : KT} {l : Launch} {H0 : Heap} (k : Kof TA E K l cX8_note RX8 rm_Sc_note) {w : World} {s1 : Int} {s2 : Int} {o0 o1 o2 o3 o4 : Option Value} (r_s1 : R32 s1) (r_s2 : R32 s2) {out : World} (hf : f_Sc_note_56 w s1 s2 = some out) (hc : (fun out : World => RetV TA E K H0 cX8_note out) out) : Jj K (WdT TA E H0) w 56 [o0, o1, o2, o3, o4] [.int (ii s2), .int (ii s1), rf E.ad 6] := by
  unfold f_Sc_note_56 at hf
  have o := k.1
  have g := k.2.1
  have kr := k.2.2.1
  obtain ⟨g1, hf⟩ := gd_some hf
  refine J_iast o g dX8_note_56 kA_6 (fxA_40 _) r_s1 zA_6 g1 r_s2 ?_
  have hf := bl_out hf
  have hf := some_inj hf
  subst hf
  exact hc _ _  dX8_note_57
noncomputable def f_Sc_note (w : World) (x1 : Int) (x2 : Int) (x3 : Int) (x4 : Int) : Option World :=
  if x1 < 0 then (some w) else (if 10 ≤ x1 then (some w) else (gd (0 ≤ x1 ∧ x1 < 10) (bl (up w 3 x1.toNat x2) fun w6 => gd (0 ≤ x1 ∧ x1 < 10) (bl (up w6 4 x1.toNat x3) fun w8 => gd (0 ≤ x1 ∧ x1 < 10) (bl (up w8 5 x1.toNat x4) fun w10 => if x3 = 0 then (f_Sc_note_56 w10 x1 (-1)) else (bnd (f_Dm_shiftOf (wr (x2 - 1))) fun v14 => f_Sc_note_56 w10 x1 (ixor (ishl 127 v14) (-1))))))))
theorem t_Sc_note_0 {E : EE} {K : KT} {l : Launch} {H0 : Heap} (k : Kof TA E K l cX8_note RX8 rm_Sc_note) {w : World} {x1 : Int} {x2 : Int} {x3 : Int} {x4 : Int} (r_x1 : R32 x1) (r_x2 : R32 x2) (r_x3 : R32 x3) (r_x4 : R32 x4) {out : World} (hf : f_Sc_note w x1 x2 x3 x4 = some out) (hc : (fun out : World => RetV TA E K H0 cX8_note out) out) : Jj K (WdT TA E H0) w 0 [some (rf E.ad 2), some (.int (ii x1)), some (.int (ii x2)), some (.int (ii x3)), some (.int (ii x4))] [] := by
  unfold f_Sc_note at hf
  have o := k.1
  have g := k.2.1
  have kr := k.2.2.1
  refine J_iload_n o dX8_note_0 rfl ?_
  refine J_if_lt 57 o dX8_note_1 (by decide) r_x1 (fun c1 => ?_) (fun c2 => ?_)
  · have hf := ite_t c1 hf
    have hf := some_inj hf
    subst hf
    exact hc _ _  dX8_note_57
  · have hf := ite_f c2 hf
    refine J_iload_n o dX8_note_4 rfl ?_
    refine J_bipush o dX8_note_5 (by decide) ?_
    refine J_icmp_ge 57 o dX8_note_7 (by decide) r_x1 rl10 (fun c3 => ?_) (fun c4 => ?_)
    · have hf := ite_t c3 hf
      have hf := some_inj hf
      subst hf
      exact hc _ _  dX8_note_57
    · have hf := ite_f c4 hf
      refine J_aload_n o dX8_note_10 rfl ?_
      refine J_getF (true, 3) o g dX8_note_11 flX8_9 kA_2 rfl rfl rfl ?_
      refine J_iload_n o dX8_note_14 rfl ?_
      refine J_iload_n o dX8_note_15 rfl ?_
      obtain ⟨g5, hf⟩ := gd_some hf
      refine J_iast o g dX8_note_16 kA_3 (fxA_40 _) r_x1 zA_3 g5 r_x2 ?_
      have hf := bl_out hf
      refine J_aload_n o dX8_note_17 rfl ?_
      refine J_getF (true, 4) o g dX8_note_18 flX8_15 kA_2 rfl rfl rfl ?_
      refine J_iload_n o dX8_note_21 rfl ?_
      refine J_iload_n o dX8_note_22 rfl ?_
      obtain ⟨g7, hf⟩ := gd_some hf
      refine J_iast o g dX8_note_23 kA_4 (fxA_40 _) r_x1 zA_4 g7 r_x3 ?_
      have hf := bl_out hf
      refine J_aload_n o dX8_note_24 rfl ?_
      refine J_getF (true, 5) o g dX8_note_25 flX8_18 kA_2 rfl rfl rfl ?_
      refine J_iload_n o dX8_note_28 rfl ?_
      refine J_iload o dX8_note_29 rfl ?_
      obtain ⟨g9, hf⟩ := gd_some hf
      refine J_iast o g dX8_note_31 kA_5 (fxA_40 _) r_x1 zA_5 g9 r_x4 ?_
      have hf := bl_out hf
      refine J_aload_n o dX8_note_32 rfl ?_
      refine J_getF (true, 6) o g dX8_note_33 flX8_21 kA_2 rfl rfl rfl ?_
      refine J_iload_n o dX8_note_36 rfl ?_
      refine J_iload_n o dX8_note_37 rfl ?_
      refine J_if_ne 45 o dX8_note_38 (by decide) r_x3 (fun c11 => ?_) (fun c12 => ?_)
      · have hf := ite_f c11 hf
        refine J_bipush o dX8_note_45 (by decide) ?_
        refine J_iload_n o dX8_note_47 rfl ?_
        refine J_iconst o dX8_note_48 ?_
        refine J_isub o dX8_note_49 ?_
        obtain ⟨v14, e13, hf⟩ := bnd_some hf
        refine J_sI o g kr dX8_note_50 lkX8_24 ml_Dm_shiftOf mw567 ⟨rfl, rfl, Nat.le_of_ble_eq_true rfl, Nat.le_of_ble_eq_true rfl⟩ (c_Dm_shiftOf g.2.1 (R_wr _) e13) rfl rfl (c1s_i (c1s_i (c1s_r c1s_0 (Nat.le_of_ble_eq_true rfl)) (Nat.le_of_ble_eq_true rfl)) (Nat.le_of_ble_eq_true rfl)) (fun q15 => ?_)
        refine J_ishl o dX8_note_53 ?_
        refine J_iconst o dX8_note_54 ?_
        refine J_ixor o dX8_note_55 ?_
        exact t_Sc_note_56 k r_x1 (R_ixor _ _) hf hc
      · have hf := ite_t c12 hf
        refine J_iconst o dX8_note_41 ?_
        refine J_goto 56 o dX8_note_42 (by decide) ?_
        exact t_Sc_note_56 k r_x1 rlm1 hf hc
theorem c_Sc_note {E : EE} {l : Launch} (hI : Inj TA E) {w : World} {x1 : Int} {x2 : Int} {x3 : Int} {x4 : Int} (r_x1 : R32 x1) (r_x2 : R32 x2) (r_x3 : R32 x3) (r_x4 : R32 x4) {out : World} (hf : f_Sc_note w x1 x2 x3 x4 = some out) : ConV TA E l yX8_note (WS yX8_note cX8_note 5 none) rm_Sc_note [rf E.ad 2, .int (ii x1), .int (ii x2), .int (ii x3), .int (ii x4)] w out :=
  con_V (by decide +kernel) rfl (Nat.le_of_ble_eq_true rfl) (c1s_r (c1s_i (c1s_i (c1s_i (c1s_i c1s_0 (Nat.le_of_ble_eq_true rfl)) (Nat.le_of_ble_eq_true rfl)) (Nat.le_of_ble_eq_true rfl)) (Nat.le_of_ble_eq_true rfl)) (Nat.le_of_ble_eq_true rfl)).1 ⟨rfl, rfl⟩ hI TnA (fun K H0 k hret => t_Sc_note_0 k r_x1 r_x2 r_x3 r_x4 hf hret)
abbrev rm_Sc_isDeclared : Room := { frames := 2, cells := 0, slots := 0, locals := 45 }
noncomputable def f_Sc_isDeclared (w : World) (x1 : Int) : Option Int :=
  bnd (f_Sc_columnsOf w x1) fun v2 => if v2 ≤ 0 then (some 0) else (some 1)
theorem t_Sc_isDeclared_0 {E : EE} {K : KT} {l : Launch} {H0 : Heap} (k : Kof TA E K l cX8_isDeclared RX8 rm_Sc_isDeclared) {w : World} {x1 : Int} (r_x1 : R32 x1) {out : Int} (hf : f_Sc_isDeclared w x1 = some out) (hc : (fun out : Int => RetZ TA E K H0 cX8_isDeclared w out) out) : Jj K (WdT TA E H0) w 0 [some (rf E.ad 2), some (.int (ii x1))] [] := by
  unfold f_Sc_isDeclared at hf
  have o := k.1
  have g := k.2.1
  have kr := k.2.2.1
  refine J_aload_n o dX8_isDeclared_0 rfl ?_
  refine J_iload_n o dX8_isDeclared_1 rfl ?_
  obtain ⟨v2, e1, hf⟩ := bnd_some hf
  refine J_vI o g kr dX8_isDeclared_2 lkX8_28 ml_Sc_columnsOf vl_Sc_columnsOf ⟨rfl, rfl, Nat.le_of_ble_eq_true rfl, Nat.le_of_ble_eq_true rfl⟩ (c_Sc_columnsOf g.2.1 r_x1 e1) kA_2 rfl ⟨by decide, by decide⟩ rfl rfl c1s_0 (fun q3 => ?_)
  refine J_if_le 12 o dX8_isDeclared_5 (by decide) q3 (fun c4 => ?_) (fun c5 => ?_)
  · have hf := ite_t c4 hf
    refine J_iconst o dX8_isDeclared_12 ?_
    have hf := some_inj hf
    subst hf
    exact hc _ _ (Or.inl rfl) dX8_isDeclared_13
  · have hf := ite_f c5 hf
    refine J_iconst o dX8_isDeclared_8 ?_
    refine J_goto 13 o dX8_isDeclared_9 (by decide) ?_
    have hf := some_inj hf
    subst hf
    exact hc _ _ (Or.inr rfl) dX8_isDeclared_13
theorem c_Sc_isDeclared {E : EE} {l : Launch} (hI : Inj TA E) {w : World} {x1 : Int} (r_x1 : R32 x1) {out : Int} (hf : f_Sc_isDeclared w x1 = some out) : ConI TA E l yX8_isDeclared (WS yX8_isDeclared cX8_isDeclared 2 (some .boolean)) rm_Sc_isDeclared [rf E.ad 2, .int (ii x1)] w w out :=
  con_Z (by decide +kernel) rfl (Nat.le_of_ble_eq_true rfl) (c1s_r (c1s_i c1s_0 (Nat.le_of_ble_eq_true rfl)) (Nat.le_of_ble_eq_true rfl)).1 ⟨rfl, rfl⟩ hI TnA (fun K H0 k hret => t_Sc_isDeclared_0 k r_x1 hf hret)
