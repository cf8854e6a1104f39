theorem xs_94 : (94, "no such relation or kind") ∈ xStr := List.mem_of_getElem? (i := 0) rfl
theorem xs_105 : (105, "columns or key out of range") ∈ xStr := List.mem_of_getElem? (i := 1) rfl
theorem xs_114 : (114, "declared already") ∈ xStr := List.mem_of_getElem? (i := 2) rfl
theorem xs_121 : (121, "no such relation") ∈ xStr := List.mem_of_getElem? (i := 3) rfl
theorem xs_127 : (127, "value, cost, from or to out of range") ∈ xStr := List.mem_of_getElem? (i := 4) rfl
theorem xs_133 : (133, "no more facts") ∈ xStr := List.mem_of_getElem? (i := 5) rfl
theorem xs_150 : (150, "too many tuples") ∈ xStr := List.mem_of_getElem? (i := 6) rfl
theorem xs_152 : (152, "no such fact") ∈ xStr := List.mem_of_getElem? (i := 7) rfl
theorem xs_157 : (157, "dropped already") ∈ xStr := List.mem_of_getElem? (i := 8) rfl
theorem xs_176 : (176, "no hour is to come") ∈ xStr := List.mem_of_getElem? (i := 9) rfl
theorem xs_182 : (182, "term out of range") ∈ xStr := List.mem_of_getElem? (i := 10) rfl
theorem xs_192 : (192, "no more such literals") ∈ xStr := List.mem_of_getElem? (i := 11) rfl
theorem xs_198 : (198, "no such comparison") ∈ xStr := List.mem_of_getElem? (i := 12) rfl
theorem xs_203 : (203, "no more literals") ∈ xStr := List.mem_of_getElem? (i := 13) rfl
theorem xs_215 : (215, "no head, or not safe") ∈ xStr := List.mem_of_getElem? (i := 14) rfl
theorem xs_220 : (220, "no more rules") ∈ xStr := List.mem_of_getElem? (i := 15) rfl
theorem xs_229 : (229, "no strata, or too many tuples") ∈ xStr := List.mem_of_getElem? (i := 16) rfl
theorem xs_234 : (234, "no literals, or not safe") ∈ xStr := List.mem_of_getElem? (i := 17) rfl
theorem xs_239 : (239, "no more denials") ∈ xStr := List.mem_of_getElem? (i := 18) rfl
theorem xs_247 : (247, "no such rule") ∈ xStr := List.mem_of_getElem? (i := 19) rfl
theorem xs_256 : (256, "removed already") ∈ xStr := List.mem_of_getElem? (i := 20) rfl
theorem xs_269 : (269, "no such hour") ∈ xStr := List.mem_of_getElem? (i := 21) rfl
theorem xs_286 : (286, "no such relation or tuple") ∈ xStr := List.mem_of_getElem? (i := 22) rfl
theorem xs_315 : (315, "value out of range") ∈ xStr := List.mem_of_getElem? (i := 23) rfl
theorem xs_317 : (317, "it is in the model") ∈ xStr := List.mem_of_getElem? (i := 24) rfl
theorem xs_346 : (346, "no such rule, or no such place") ∈ xStr := List.mem_of_getElem? (i := 25) rfl
abbrev rm_Dm_declare : Room := { frames := 6, cells := 1, slots := 6, locals := 100 }
noncomputable def f_Dm_declare (w : World) (x1 : Int) (x2 : Int) (x3 : Int) (x4 : Int) : Option (World × Nat × Int) :=
  if x1 < 0 then (some (w, 1, 0)) else (if 10 ≤ x1 then (some (w, 1, 0)) else (if x3 < 0 then (some (w, 1, 0)) else (if x3 ≤ 3 then (if x2 < 1 then (some (w, 2, 0)) else (if 3 < x2 then (some (w, 2, 0)) else (bnd (f_Dm_isKey x2 x3 x4) fun v14 => if v14 = 0 then (some (w, 2, 0)) else (bnd (f_Sc_isDeclared w x1) fun v19 => if v19 = 0 then (bnd (f_Sc_note w x1 x2 x3 x4) fun v24 => some (v24, 0, 0)) else (some (w, 3, 0)))))) else (some (w, 1, 0)))))
theorem t_Dm_declare_0 {E : EE} {K : KT} {l : Launch} {H0 : Heap} (k : KofX TA E K H0 l cX10_declare RX10 rm_Dm_declare) {w : World} {x1 : Int} {x2 : Int} {x3 : Int} {x4 : Int} (r_x1 : R32 x1) (r_x2 : R32 x2) (r_x3 : R32 x3) (r_x4 : R32 x4) {out : (World × Nat × Int)} (hf : f_Dm_declare w x1 x2 x3 x4 = some out) (hc : (fun out : (World × Nat × Int) => RetXV TA E K H0 cX10_declare out) out) : Jj K (WdT TA E H0) w 0 [some (rf E.ad 1), some (.int (ii x1)), some (.int (ii x2)), some (.int (ii x3)), some (.int (ii x4))] [] := by
  unfold f_Dm_declare at hf
  have o := k.1
  have g := k.2.1
  have kr := k.2.2.1
  have gx := k.2.2.2.2
  refine J_iload_n o dX10_declare_0 rfl ?_
  refine J_if_lt 19 o dX10_declare_1 (by decide) r_x1 (fun c1 => ?_) (fun c2 => ?_)
  · have hf := ite_t c1 hf
    have hf := some_inj hf
    subst hf
    exact (show RetXV TA E K H0 cX10_declare _ from hc).2 (show (1 : Nat) ≠ 0 by decide) _ _ _ c1s_0 ⟨Or.inl rfl, dX10_declare_19, dX10_declare_22, 94, "no such relation or kind", xs_94, Or.inl ⟨dX10_declare_23, dX10_declare_25, dX10_declare_28⟩⟩
  · have hf := ite_f c2 hf
    refine J_iload_n o dX10_declare_4 rfl ?_
    refine J_bipush o dX10_declare_5 (by decide) ?_
    refine J_icmp_ge 19 o dX10_declare_7 (by decide) r_x1 rl10 (fun c3 => ?_) (fun c4 => ?_)
    · have hf := ite_t c3 hf
      have hf := some_inj hf
      subst hf
      exact (show RetXV TA E K H0 cX10_declare _ from hc).2 (show (1 : Nat) ≠ 0 by decide) _ _ _ c1s_0 ⟨Or.inl rfl, dX10_declare_19, dX10_declare_22, 94, "no such relation or kind", xs_94, Or.inl ⟨dX10_declare_23, dX10_declare_25, dX10_declare_28⟩⟩
    · have hf := ite_f c4 hf
      refine J_iload_n o dX10_declare_10 rfl ?_
      refine J_if_lt 19 o dX10_declare_11 (by decide) r_x3 (fun c5 => ?_) (fun c6 => ?_)
      · have hf := ite_t c5 hf
        have hf := some_inj hf
        subst hf
        exact (show RetXV TA E K H0 cX10_declare _ from hc).2 (show (1 : Nat) ≠ 0 by decide) _ _ _ c1s_0 ⟨Or.inl rfl, dX10_declare_19, dX10_declare_22, 94, "no such relation or kind", xs_94, Or.inl ⟨dX10_declare_23, dX10_declare_25, dX10_declare_28⟩⟩
      · have hf := ite_f c6 hf
        refine J_iload_n o dX10_declare_14 rfl ?_
        refine J_iconst o dX10_declare_15 ?_
        refine J_icmp_le 29 o dX10_declare_16 (by decide) r_x3 rl3 (fun c7 => ?_) (fun c8 => ?_)
        · have hf := ite_t c7 hf
          refine J_iload_n o dX10_declare_29 rfl ?_
          refine J_iconst o dX10_declare_30 ?_
          refine J_icmp_lt 49 o dX10_declare_31 (by decide) r_x2 rl1 (fun c9 => ?_) (fun c10 => ?_)
          · have hf := ite_t c9 hf
            have hf := some_inj hf
            subst hf
            exact (show RetXV TA E K H0 cX10_declare _ from hc).2 (show (2 : Nat) ≠ 0 by decide) _ _ _ c1s_0 ⟨Or.inr (Or.inl rfl), dX10_declare_49, dX10_declare_52, 105, "columns or key out of range", xs_105, Or.inl ⟨dX10_declare_53, dX10_declare_55, dX10_declare_58⟩⟩
          · have hf := ite_f c10 hf
            refine J_iload_n o dX10_declare_34 rfl ?_
            refine J_iconst o dX10_declare_35 ?_
            refine J_icmp_gt 49 o dX10_declare_36 (by decide) r_x2 rl3 (fun c11 => ?_) (fun c12 => ?_)
            · have hf := ite_t c11 hf
              have hf := some_inj hf
              subst hf
              exact (show RetXV TA E K H0 cX10_declare _ from hc).2 (show (2 : Nat) ≠ 0 by decide) _ _ _ c1s_0 ⟨Or.inr (Or.inl rfl), dX10_declare_49, dX10_declare_52, 105, "columns or key out of range", xs_105, Or.inl ⟨dX10_declare_53, dX10_declare_55, dX10_declare_58⟩⟩
            · have hf := ite_f c12 hf
              refine J_iload_n o dX10_declare_39 rfl ?_
              refine J_iload_n o dX10_declare_40 rfl ?_
              refine J_iload o dX10_declare_41 rfl ?_
              obtain ⟨v14, e13, hf⟩ := bnd_some hf
              refine J_sI o g kr dX10_declare_43 lkX10_99 ml_Dm_isKey mw520 ⟨rfl, rfl, Nat.le_of_ble_eq_true rfl, Nat.le_of_ble_eq_true rfl⟩ (c_Dm_isKey g.2.1 r_x2 r_x3 r_x4 e13) rfl rfl c1s_0 (fun q15 => ?_)
              refine J_if_ne 59 o dX10_declare_46 (by decide) q15 (fun c16 => ?_) (fun c17 => ?_)
              · have hf := ite_f c16 hf
                refine J_aload_n o dX10_declare_59 rfl ?_
                refine J_getF (true, 2) o g dX10_declare_60 flX10_31 kA_1 rfl rfl rfl ?_
                refine J_iload_n o dX10_declare_63 rfl ?_
                obtain ⟨v19, e18, hf⟩ := bnd_some hf
                refine J_vI o g kr dX10_declare_64 lkX10_108 ml_Sc_isDeclared vl_Sc_isDeclared ⟨rfl, rfl, Nat.le_of_ble_eq_true rfl, Nat.le_of_ble_eq_true rfl⟩ (c_Sc_isDeclared g.2.1 r_x1 e18) kA_2 rfl ⟨by decide, by decide⟩ rfl rfl c1s_0 (fun q20 => ?_)
                refine J_if_eq 80 o dX10_declare_67 (by decide) q20 (fun c21 => ?_) (fun c22 => ?_)
                · have hf := ite_t c21 hf
                  refine J_aload_n o dX10_declare_80 rfl ?_
                  refine J_getF (true, 2) o g dX10_declare_81 flX10_31 kA_1 rfl rfl rfl ?_
                  refine J_iload_n o dX10_declare_84 rfl ?_
                  refine J_iload_n o dX10_declare_85 rfl ?_
                  refine J_iload_n o dX10_declare_86 rfl ?_
                  refine J_iload o dX10_declare_87 rfl ?_
                  obtain ⟨v24, e23, hf⟩ := bnd_some hf
                  refine J_vV o g kr dX10_declare_89 lkX10_117 ml_Sc_note vl_Sc_note ⟨rfl, rfl, Nat.le_of_ble_eq_true rfl, Nat.le_of_ble_eq_true rfl⟩ (c_Sc_note g.2.1 r_x1 r_x2 r_x3 r_x4 e23) kA_2 rfl ⟨by decide, by decide⟩ rfl rfl c1s_0 ?_
                  have hf := some_inj hf
                  subst hf
                  exact (show RetXV TA E K H0 cX10_declare _ from hc).1 rfl _ _  dX10_declare_92
                · have hf := ite_f c22 hf
                  have hf := some_inj hf
                  subst hf
                  exact (show RetXV TA E K H0 cX10_declare _ from hc).2 (show (3 : Nat) ≠ 0 by decide) _ _ _ c1s_0 ⟨Or.inr (Or.inr rfl), dX10_declare_70, dX10_declare_73, 114, "declared already", xs_114, Or.inl ⟨dX10_declare_74, dX10_declare_76, dX10_declare_79⟩⟩
              · have hf := ite_t c17 hf
                have hf := some_inj hf
                subst hf
                exact (show RetXV TA E K H0 cX10_declare _ from hc).2 (show (2 : Nat) ≠ 0 by decide) _ _ _ c1s_0 ⟨Or.inr (Or.inl rfl), dX10_declare_49, dX10_declare_52, 105, "columns or key out of range", xs_105, Or.inl ⟨dX10_declare_53, dX10_declare_55, dX10_declare_58⟩⟩
        · have hf := ite_f c8 hf
          have hf := some_inj hf
          subst hf
          exact (show RetXV TA E K H0 cX10_declare _ from hc).2 (show (1 : Nat) ≠ 0 by decide) _ _ _ c1s_0 ⟨Or.inl rfl, dX10_declare_19, dX10_declare_22, 94, "no such relation or kind", xs_94, Or.inl ⟨dX10_declare_23, dX10_declare_25, dX10_declare_28⟩⟩
theorem c_Dm_declare {E : EE} {l : Launch} (hst : l.stackTraces = false) (hI : Inj TA E) {w : World} {x1 : Int} {x2 : Int} {x3 : Int} {x4 : Int} (r_x1 : R32 x1) (r_x2 : R32 x2) (r_x3 : R32 x3) (r_x4 : R32 x4) {out : (World × Nat × Int)} (hf : f_Dm_declare w x1 x2 x3 x4 = some out) : ConXV TA E l yX10_declare (WS yX10_declare cX10_declare 5 none) rm_Dm_declare [rf E.ad 1, .int (ii x1), .int (ii x2), .int (ii x3), .int (ii x4)] w out :=
  con_XV (by decide +kernel) rfl rfl (Nat.le_of_ble_eq_true rfl) (c1s_r (c1s_i (c1s_i (c1s_i (c1s_i c1s_0 (Nat.le_of_ble_eq_true rfl)) (Nat.le_of_ble_eq_true rfl)) (Nat.le_of_ble_eq_true rfl)) (Nat.le_of_ble_eq_true rfl)) (Nat.le_of_ble_eq_true rfl)).1 ⟨rfl, rfl, Nat.le_of_ble_eq_true rfl, Nat.le_of_ble_eq_true rfl⟩ hI TnA hst (fun K H0 k hret => t_Dm_declare_0 k r_x1 r_x2 r_x3 r_x4 hf hret)
abbrev rm_Dm_fact : Room := { frames := 8, cells := 1, slots := 6, locals := 206 }
noncomputable def f_Dm_fact (w : World) (x1 : Int) (x2 : Int) (x3 : Int) (x4 : Int) (x5 : Int) (x6 : Int) (x7 : Int) : Option (World × Nat × Int) :=
  bnd (f_Sc_isDeclared w x1) fun v2 => if v2 = 0 then (some (w, 1, 0)) else (bnd (f_Sc_permits w x1 0 x2 x3 x4) fun v7 => if v7 = 0 then (some (w, 2, 0)) else (if x5 < 1 then (some (w, 2, 0)) else (if 100 < x5 then (some (w, 2, 0)) else (if x6 < 0 then (some (w, 2, 0)) else (if 4 ≤ x6 then (some (w, 2, 0)) else (if x7 < x6 then (some (w, 2, 0)) else (if x7 < 4 then (if (w 7 0) < 24 then (bnd (f_Dm_packed x2 x3 x4) fun v27 => bnd (f_Fa_append w x1 v27 x5 x6 x7) fun v30 => bnd (f_Dm_renew v30 x6 x7) fun v33 => if v33.2 = 0 then (bnd (f_Fa_takeBack v33.1 ) fun v39 => some (v39, 3, 0)) else (some (v33.1, 0, wr ((v33.1 7 0) - 1)))) else (some (w, 3, 0))) else (some (w, 2, 0)))))))))
theorem t_Dm_fact_0 {E : EE} {K : KT} {l : Launch} {H0 : Heap} (k : KofX TA E K H0 l cX10_fact RX10 rm_Dm_fact) {w : World} {x1 : Int} {x2 : Int} {x3 : Int} {x4 : Int} {x5 : Int} {x6 : Int} {x7 : Int} (r_x1 : R32 x1) (r_x2 : R32 x2) (r_x3 : R32 x3) (r_x4 : R32 x4) (r_x5 : R32 x5) (r_x6 : R32 x6) (r_x7 : R32 x7) {out : (World × Nat × Int)} (hf : f_Dm_fact w x1 x2 x3 x4 x5 x6 x7 = some out) (hc : (fun out : (World × Nat × Int) => RetXI TA E K H0 cX10_fact out) out) : Jj K (WdT TA E H0) w 0 [some (rf E.ad 1), some (.int (ii x1)), some (.int (ii x2)), some (.int (ii x3)), some (.int (ii x4)), some (.int (ii x5)), some (.int (ii x6)), some (.int (ii x7))] [] := by
  unfold f_Dm_fact at hf
  have o := k.1
  have g := k.2.1
  have kr := k.2.2.1
  have gx := k.2.2.2.2
  refine J_aload_n o dX10_fact_0 rfl ?_
  refine J_getF (true, 2) o g dX10_fact_1 flX10_31 kA_1 rfl rfl rfl ?_
  refine J_iload_n o dX10_fact_4 rfl ?_
  obtain ⟨v2, e1, hf⟩ := bnd_some hf
  refine J_vI o g kr dX10_fact_5 lkX10_108 ml_Sc_isDeclared vl_Sc_isDeclared ⟨rfl, rfl, Nat.le_of_ble_eq_true rfl, Nat.le_of_ble_eq_true rfl⟩ (c_Sc_isDeclared g.2.1 r_x1 e1) kA_2 rfl ⟨by decide, by decide⟩ rfl rfl c1s_0 (fun q3 => ?_)
  refine J_if_ne 21 o dX10_fact_8 (by decide) q3 (fun c4 => ?_) (fun c5 => ?_)
  · have hf := ite_f c4 hf
    refine J_aload_n o dX10_fact_21 rfl ?_
    refine J_getF (true, 2) o g dX10_fact_22 flX10_31 kA_1 rfl rfl rfl ?_
    refine J_iload_n o dX10_fact_25 rfl ?_
    refine J_iconst o dX10_fact_26 ?_
    refine J_iload_n o dX10_fact_27 rfl ?_
    refine J_iload_n o dX10_fact_28 rfl ?_
    refine J_iload o dX10_fact_29 rfl ?_
    obtain ⟨v7, e6, hf⟩ := bnd_some hf
    refine J_vI o g kr dX10_fact_31 lkX10_123 ml_Sc_permits vl_Sc_permits ⟨rfl, rfl, Nat.le_of_ble_eq_true rfl, Nat.le_of_ble_eq_true rfl⟩ (c_Sc_permits g.2.1 r_x1 rl0 r_x2 r_x3 r_x4 e6) kA_2 rfl ⟨by decide, by decide⟩ rfl rfl c1s_0 (fun q8 => ?_)
    refine J_if_eq 74 o dX10_fact_34 (by decide) q8 (fun c9 => ?_) (fun c10 => ?_)
    · have hf := ite_t c9 hf
      have hf := some_inj hf
      subst hf
      exact (show RetXI TA E K H0 cX10_fact _ from hc).2 (show (2 : Nat) ≠ 0 by decide) _ _ _ c1s_0 ⟨Or.inr (Or.inl rfl), dX10_fact_74, dX10_fact_77, 127, "value, cost, from or to out of range", xs_127, Or.inl ⟨dX10_fact_78, dX10_fact_80, dX10_fact_83⟩⟩
    · have hf := ite_f c10 hf
      refine J_iload o dX10_fact_37 rfl ?_
      refine J_iconst o dX10_fact_39 ?_
      refine J_icmp_lt 74 o dX10_fact_40 (by decide) r_x5 rl1 (fun c11 => ?_) (fun c12 => ?_)
      · have hf := ite_t c11 hf
        have hf := some_inj hf
        subst hf
        exact (show RetXI TA E K H0 cX10_fact _ from hc).2 (show (2 : Nat) ≠ 0 by decide) _ _ _ c1s_0 ⟨Or.inr (Or.inl rfl), dX10_fact_74, dX10_fact_77, 127, "value, cost, from or to out of range", xs_127, Or.inl ⟨dX10_fact_78, dX10_fact_80, dX10_fact_83⟩⟩
      · have hf := ite_f c12 hf
        refine J_iload o dX10_fact_43 rfl ?_
        refine J_bipush o dX10_fact_45 (by decide) ?_
        refine J_icmp_gt 74 o dX10_fact_47 (by decide) r_x5 rl100 (fun c13 => ?_) (fun c14 => ?_)
        · have hf := ite_t c13 hf
          have hf := some_inj hf
          subst hf
          exact (show RetXI TA E K H0 cX10_fact _ from hc).2 (show (2 : Nat) ≠ 0 by decide) _ _ _ c1s_0 ⟨Or.inr (Or.inl rfl), dX10_fact_74, dX10_fact_77, 127, "value, cost, from or to out of range", xs_127, Or.inl ⟨dX10_fact_78, dX10_fact_80, dX10_fact_83⟩⟩
        · have hf := ite_f c14 hf
          refine J_iload o dX10_fact_50 rfl ?_
          refine J_if_lt 74 o dX10_fact_52 (by decide) r_x6 (fun c15 => ?_) (fun c16 => ?_)
          · have hf := ite_t c15 hf
            have hf := some_inj hf
            subst hf
            exact (show RetXI TA E K H0 cX10_fact _ from hc).2 (show (2 : Nat) ≠ 0 by decide) _ _ _ c1s_0 ⟨Or.inr (Or.inl rfl), dX10_fact_74, dX10_fact_77, 127, "value, cost, from or to out of range", xs_127, Or.inl ⟨dX10_fact_78, dX10_fact_80, dX10_fact_83⟩⟩
          · have hf := ite_f c16 hf
            refine J_iload o dX10_fact_55 rfl ?_
            refine J_iconst o dX10_fact_57 ?_
            refine J_icmp_ge 74 o dX10_fact_58 (by decide) r_x6 rl4 (fun c17 => ?_) (fun c18 => ?_)
            · have hf := ite_t c17 hf
              have hf := some_inj hf
              subst hf
              exact (show RetXI TA E K H0 cX10_fact _ from hc).2 (show (2 : Nat) ≠ 0 by decide) _ _ _ c1s_0 ⟨Or.inr (Or.inl rfl), dX10_fact_74, dX10_fact_77, 127, "value, cost, from or to out of range", xs_127, Or.inl ⟨dX10_fact_78, dX10_fact_80, dX10_fact_83⟩⟩
            · have hf := ite_f c18 hf
              refine J_iload o dX10_fact_61 rfl ?_
              refine J_iload o dX10_fact_63 rfl ?_
              refine J_icmp_lt 74 o dX10_fact_65 (by decide) r_x7 r_x6 (fun c19 => ?_) (fun c20 => ?_)
              · have hf := ite_t c19 hf
                have hf := some_inj hf
                subst hf
                exact (show RetXI TA E K H0 cX10_fact _ from hc).2 (show (2 : Nat) ≠ 0 by decide) _ _ _ c1s_0 ⟨Or.inr (Or.inl rfl), dX10_fact_74, dX10_fact_77, 127, "value, cost, from or to out of range", xs_127, Or.inl ⟨dX10_fact_78, dX10_fact_80, dX10_fact_83⟩⟩
              · have hf := ite_f c20 hf
                refine J_iload o dX10_fact_68 rfl ?_
                refine J_iconst o dX10_fact_70 ?_
                refine J_icmp_lt 84 o dX10_fact_71 (by decide) r_x7 rl4 (fun c21 => ?_) (fun c22 => ?_)
                · have hf := ite_t c21 hf
                  refine J_aload_n o dX10_fact_84 rfl ?_
                  refine J_getF (true, 7) o g dX10_fact_85 flX10_35 kA_1 rfl rfl rfl ?_
                  refine J_getI o g dX10_fact_88 flX10_129 kA_7 rfl (fun q23 => ?_)
                  refine J_bipush o dX10_fact_91 (by decide) ?_
                  refine J_icmp_lt 106 o dX10_fact_93 (by decide) q23 rl24 (fun c24 => ?_) (fun c25 => ?_)
                  · have hf := ite_t c24 hf
                    refine J_aload_n o dX10_fact_106 rfl ?_
                    refine J_getF (true, 7) o g dX10_fact_107 flX10_35 kA_1 rfl rfl rfl ?_
                    refine J_iload_n o dX10_fact_110 rfl ?_
                    refine J_iload_n o dX10_fact_111 rfl ?_
                    refine J_iload_n o dX10_fact_112 rfl ?_
                    refine J_iload o dX10_fact_113 rfl ?_
                    obtain ⟨v27, e26, hf⟩ := bnd_some hf
                    refine J_sI o g kr dX10_fact_115 lkX10_135 ml_Dm_packed mw607 ⟨rfl, rfl, Nat.le_of_ble_eq_true rfl, Nat.le_of_ble_eq_true rfl⟩ (c_Dm_packed g.2.1 r_x2 r_x3 r_x4 e26) rfl rfl (c1s_i (c1s_r c1s_0 (Nat.le_of_ble_eq_true rfl)) (Nat.le_of_ble_eq_true rfl)) (fun q28 => ?_)
                    refine J_iload o dX10_fact_118 rfl ?_
                    refine J_iload o dX10_fact_120 rfl ?_
                    refine J_iload o dX10_fact_122 rfl ?_
                    obtain ⟨v30, e29, hf⟩ := bnd_some hf
                    refine J_vV o g kr dX10_fact_124 lkX10_139 ml_Fa_append vl_Fa_append ⟨rfl, rfl, Nat.le_of_ble_eq_true rfl, Nat.le_of_ble_eq_true rfl⟩ (c_Fa_append g.2.1 r_x1 q28 r_x5 r_x6 r_x7 e29) kA_7 rfl ⟨by decide, by decide⟩ rfl rfl c1s_0 ?_
                    refine J_aload_n o dX10_fact_127 rfl ?_
                    refine J_iload o dX10_fact_128 rfl ?_
                    refine J_iload o dX10_fact_130 rfl ?_
                    obtain ⟨v33, e32, hf⟩ := bnd_some hf
                    refine J_vI o g kr dX10_fact_132 lkX10_143 ml_Dm_renew vl_Dm_renew ⟨rfl, rfl, Nat.le_of_ble_eq_true rfl, Nat.le_of_ble_eq_true rfl⟩ (c_Dm_renew g.2.1 r_x6 r_x7 e32) kA_1 rfl ⟨by decide, by decide⟩ rfl rfl c1s_0 (fun q34 => ?_)
                    refine J_if_ne 155 o dX10_fact_135 (by decide) q34 (fun c35 => ?_) (fun c36 => ?_)
                    · have hf := ite_f c35 hf
                      refine J_aload_n o dX10_fact_155 rfl ?_
                      refine J_getF (true, 7) o g dX10_fact_156 flX10_35 kA_1 rfl rfl rfl ?_
                      refine J_getI o g dX10_fact_159 flX10_129 kA_7 rfl (fun q37 => ?_)
                      refine J_iconst o dX10_fact_162 ?_
                      refine J_isub o dX10_fact_163 ?_
                      have hf := some_inj hf
                      subst hf
                      exact (show RetXI TA E K H0 cX10_fact _ from hc).1 rfl _ _ (R_wr _) dX10_fact_164
                    · have hf := ite_t c36 hf
                      refine J_aload_n o dX10_fact_138 rfl ?_
                      refine J_getF (true, 7) o g dX10_fact_139 flX10_35 kA_1 rfl rfl rfl ?_
                      obtain ⟨v39, e38, hf⟩ := bnd_some hf
                      refine J_vV o g kr dX10_fact_142 lkX10_147 ml_Fa_takeBack vl_Fa_takeBack ⟨rfl, rfl, Nat.le_of_ble_eq_true rfl, Nat.le_of_ble_eq_true rfl⟩ (c_Fa_takeBack g.2.1  e38) kA_7 rfl ⟨by decide, by decide⟩ rfl rfl c1s_0 ?_
                      have hf := some_inj hf
                      subst hf
                      exact (show RetXI TA E K H0 cX10_fact _ from hc).2 (show (3 : Nat) ≠ 0 by decide) _ _ _ c1s_0 ⟨Or.inr (Or.inr rfl), dX10_fact_145, dX10_fact_148, 150, "too many tuples", xs_150, Or.inl ⟨dX10_fact_149, dX10_fact_151, dX10_fact_154⟩⟩
                  · have hf := ite_f c25 hf
                    have hf := some_inj hf
                    subst hf
                    exact (show RetXI TA E K H0 cX10_fact _ from hc).2 (show (3 : Nat) ≠ 0 by decide) _ _ _ c1s_0 ⟨Or.inr (Or.inr rfl), dX10_fact_96, dX10_fact_99, 133, "no more facts", xs_133, Or.inl ⟨dX10_fact_100, dX10_fact_102, dX10_fact_105⟩⟩
                · have hf := ite_f c22 hf
                  have hf := some_inj hf
                  subst hf
                  exact (show RetXI TA E K H0 cX10_fact _ from hc).2 (show (2 : Nat) ≠ 0 by decide) _ _ _ c1s_0 ⟨Or.inr (Or.inl rfl), dX10_fact_74, dX10_fact_77, 127, "value, cost, from or to out of range", xs_127, Or.inl ⟨dX10_fact_78, dX10_fact_80, dX10_fact_83⟩⟩
  · have hf := ite_t c5 hf
    have hf := some_inj hf
    subst hf
    exact (show RetXI TA E K H0 cX10_fact _ from hc).2 (show (1 : Nat) ≠ 0 by decide) _ _ _ c1s_0 ⟨Or.inl rfl, dX10_fact_11, dX10_fact_14, 121, "no such relation", xs_121, Or.inl ⟨dX10_fact_15, dX10_fact_17, dX10_fact_20⟩⟩
theorem c_Dm_fact {E : EE} {l : Launch} (hst : l.stackTraces = false) (hI : Inj TA E) {w : World} {x1 : Int} {x2 : Int} {x3 : Int} {x4 : Int} {x5 : Int} {x6 : Int} {x7 : Int} (r_x1 : R32 x1) (r_x2 : R32 x2) (r_x3 : R32 x3) (r_x4 : R32 x4) (r_x5 : R32 x5) (r_x6 : R32 x6) (r_x7 : R32 x7) {out : (World × Nat × Int)} (hf : f_Dm_fact w x1 x2 x3 x4 x5 x6 x7 = some out) : ConXI TA E l yX10_fact (WS yX10_fact cX10_fact 8 (some .int)) rm_Dm_fact [rf E.ad 1, .int (ii x1), .int (ii x2), .int (ii x3), .int (ii x4), .int (ii x5), .int (ii x6), .int (ii x7)] w out :=
  con_XI (by decide +kernel) rfl rfl (Nat.le_of_ble_eq_true rfl) (c1s_r (c1s_i (c1s_i (c1s_i (c1s_i (c1s_i (c1s_i (c1s_i c1s_0 (Nat.le_of_ble_eq_true rfl)) (Nat.le_of_ble_eq_true rfl)) (Nat.le_of_ble_eq_true rfl)) (Nat.le_of_ble_eq_true rfl)) (Nat.le_of_ble_eq_true rfl)) (Nat.le_of_ble_eq_true rfl)) (Nat.le_of_ble_eq_true rfl)) (Nat.le_of_ble_eq_true rfl)).1 ⟨rfl, rfl, Nat.le_of_ble_eq_true rfl, Nat.le_of_ble_eq_true rfl⟩ hI TnA hst (fun K H0 k hret => t_Dm_fact_0 k r_x1 r_x2 r_x3 r_x4 r_x5 r_x6 r_x7 hf hret)
abbrev rm_Dm_drop : Room := { frames := 8, cells := 1, slots := 6, locals := 206 }
noncomputable def f_Dm_drop (w : World) (x1 : Int) : Option (World × Nat × Int) :=
  if x1 < 0 then (some (w, 1, 0)) else (if x1 < (w 7 0) then (bnd (f_Fa_isDropped w x1) fun v7 => if v7 = 0 then (bnd (f_Fa_setDropped w x1 1) fun v12 => bnd (f_Fa_fromOf v12 x1) fun v15 => bnd (f_Fa_toOf v12 x1) fun v18 => bnd (f_Dm_renew v12 v15 v18) fun v21 => if v21.2 = 0 then (bnd (f_Fa_setDropped v21.1 x1 0) fun v27 => some (v27, 3, 0)) else (some (v21.1, 0, v21.1 7 1))) else (some (w, 3, 0))) else (some (w, 1, 0)))
theorem t_Dm_drop_0 {E : EE} {K : KT} {l : Launch} {H0 : Heap} (k : KofX TA E K H0 l cX10_drop RX10 rm_Dm_drop) {w : World} {x1 : Int} (r_x1 : R32 x1) {out : (World × Nat × Int)} (hf : f_Dm_drop w x1 = some out) (hc : (fun out : (World × Nat × Int) => RetXI TA E K H0 cX10_drop out) out) : Jj K (WdT TA E H0) w 0 [some (rf E.ad 1), some (.int (ii x1))] [] := by
  unfold f_Dm_drop at hf
  have o := k.1
  have g := k.2.1
  have kr := k.2.2.1
  have gx := k.2.2.2.2
  refine J_iload_n o dX10_drop_0 rfl ?_
  refine J_if_lt 15 o dX10_drop_1 (by decide) r_x1 (fun c1 => ?_) (fun c2 => ?_)
  · have hf := ite_t c1 hf
    have hf := some_inj hf
    subst hf
    exact (show RetXI TA E K H0 cX10_drop _ from hc).2 (show (1 : Nat) ≠ 0 by decide) _ _ _ c1s_0 ⟨Or.inl rfl, dX10_drop_15, dX10_drop_18, 152, "no such fact", xs_152, Or.inl ⟨dX10_drop_19, dX10_drop_21, dX10_drop_24⟩⟩
  · have hf := ite_f c2 hf
    refine J_iload_n o dX10_drop_4 rfl ?_
    refine J_aload_n o dX10_drop_5 rfl ?_
    refine J_getF (true, 7) o g dX10_drop_6 flX10_35 kA_1 rfl rfl rfl ?_
    refine J_getI o g dX10_drop_9 flX10_129 kA_7 rfl (fun q3 => ?_)
    refine J_icmp_lt 25 o dX10_drop_12 (by decide) r_x1 q3 (fun c4 => ?_) (fun c5 => ?_)
    · have hf := ite_t c4 hf
      refine J_aload_n o dX10_drop_25 rfl ?_
      refine J_getF (true, 7) o g dX10_drop_26 flX10_35 kA_1 rfl rfl rfl ?_
      refine J_iload_n o dX10_drop_29 rfl ?_
      obtain ⟨v7, e6, hf⟩ := bnd_some hf
      refine J_vI o g kr dX10_drop_30 lkX10_154 ml_Fa_isDropped vl_Fa_isDropped ⟨rfl, rfl, Nat.le_of_ble_eq_true rfl, Nat.le_of_ble_eq_true rfl⟩ (c_Fa_isDropped g.2.1 r_x1 e6) kA_7 rfl ⟨by decide, by decide⟩ rfl rfl c1s_0 (fun q8 => ?_)
      refine J_if_eq 46 o dX10_drop_33 (by decide) q8 (fun c9 => ?_) (fun c10 => ?_)
      · have hf := ite_t c9 hf
        refine J_aload_n o dX10_drop_46 rfl ?_
        refine J_getF (true, 7) o g dX10_drop_47 flX10_35 kA_1 rfl rfl rfl ?_
        refine J_iload_n o dX10_drop_50 rfl ?_
        refine J_iconst o dX10_drop_51 ?_
        obtain ⟨v12, e11, hf⟩ := bnd_some hf
        refine J_vV o g kr dX10_drop_52 lkX10_159 ml_Fa_setDropped vl_Fa_setDropped ⟨rfl, rfl, Nat.le_of_ble_eq_true rfl, Nat.le_of_ble_eq_true rfl⟩ (c_Fa_setDropped g.2.1 r_x1 rl1 e11) kA_7 rfl ⟨by decide, by decide⟩ rfl rfl c1s_0 ?_
        refine J_aload_n o dX10_drop_55 rfl ?_
        refine J_aload_n o dX10_drop_56 rfl ?_
        refine J_getF (true, 7) o g dX10_drop_57 flX10_35 kA_1 rfl rfl rfl ?_
        refine J_iload_n o dX10_drop_60 rfl ?_
        obtain ⟨v15, e14, hf⟩ := bnd_some hf
        refine J_vI o g kr dX10_drop_61 lkX10_163 ml_Fa_fromOf vl_Fa_fromOf ⟨rfl, rfl, Nat.le_of_ble_eq_true rfl, Nat.le_of_ble_eq_true rfl⟩ (c_Fa_fromOf g.2.1 r_x1 e14) kA_7 rfl ⟨by decide, by decide⟩ rfl rfl (c1s_r c1s_0 (Nat.le_of_ble_eq_true rfl)) (fun q16 => ?_)
        refine J_aload_n o dX10_drop_64 rfl ?_
        refine J_getF (true, 7) o g dX10_drop_65 flX10_35 kA_1 rfl rfl rfl ?_
        refine J_iload_n o dX10_drop_68 rfl ?_
        obtain ⟨v18, e17, hf⟩ := bnd_some hf
        refine J_vI o g kr dX10_drop_69 lkX10_167 ml_Fa_toOf vl_Fa_toOf ⟨rfl, rfl, Nat.le_of_ble_eq_true rfl, Nat.le_of_ble_eq_true rfl⟩ (c_Fa_toOf g.2.1 r_x1 e17) kA_7 rfl ⟨by decide, by decide⟩ rfl rfl (c1s_i (c1s_r c1s_0 (Nat.le_of_ble_eq_true rfl)) (Nat.le_of_ble_eq_true rfl)) (fun q19 => ?_)
        obtain ⟨v21, e20, hf⟩ := bnd_some hf
        refine J_vI o g kr dX10_drop_72 lkX10_143 ml_Dm_renew vl_Dm_renew ⟨rfl, rfl, Nat.le_of_ble_eq_true rfl, Nat.le_of_ble_eq_true rfl⟩ (c_Dm_renew g.2.1 q16 q19 e20) kA_1 rfl ⟨by decide, by decide⟩ rfl rfl c1s_0 (fun q22 => ?_)
        refine J_if_ne 97 o dX10_drop_75 (by decide) q22 (fun c23 => ?_) (fun c24 => ?_)
        · have hf := ite_f c23 hf
          refine J_aload_n o dX10_drop_97 rfl ?_
          refine J_getF (true, 7) o g dX10_drop_98 flX10_35 kA_1 rfl rfl rfl ?_
          refine J_getI o g dX10_drop_101 flX10_170 kA_7 rfl (fun q25 => ?_)
          have hf := some_inj hf
          subst hf
          exact (show RetXI TA E K H0 cX10_drop _ from hc).1 rfl _ _ q25 dX10_drop_104
        · have hf := ite_t c24 hf
          refine J_aload_n o dX10_drop_78 rfl ?_
          refine J_getF (true, 7) o g dX10_drop_79 flX10_35 kA_1 rfl rfl rfl ?_
          refine J_iload_n o dX10_drop_82 rfl ?_
          refine J_iconst o dX10_drop_83 ?_
          obtain ⟨v27, e26, hf⟩ := bnd_some hf
          refine J_vV o g kr dX10_drop_84 lkX10_159 ml_Fa_setDropped vl_Fa_setDropped ⟨rfl, rfl, Nat.le_of_ble_eq_true rfl, Nat.le_of_ble_eq_true rfl⟩ (c_Fa_setDropped g.2.1 r_x1 rl0 e26) kA_7 rfl ⟨by decide, by decide⟩ rfl rfl c1s_0 ?_
          have hf := some_inj hf
          subst hf
          exact (show RetXI TA E K H0 cX10_drop _ from hc).2 (show (3 : Nat) ≠ 0 by decide) _ _ _ c1s_0 ⟨Or.inr (Or.inr rfl), dX10_drop_87, dX10_drop_90, 150, "too many tuples", xs_150, Or.inl ⟨dX10_drop_91, dX10_drop_93, dX10_drop_96⟩⟩
      · have hf := ite_f c10 hf
        have hf := some_inj hf
        subst hf
        exact (show RetXI TA E K H0 cX10_drop _ from hc).2 (show (3 : Nat) ≠ 0 by decide) _ _ _ c1s_0 ⟨Or.inr (Or.inr rfl), dX10_drop_36, dX10_drop_39, 157, "dropped already", xs_157, Or.inl ⟨dX10_drop_40, dX10_drop_42, dX10_drop_45⟩⟩
    · have hf := ite_f c5 hf
      have hf := some_inj hf
      subst hf
      exact (show RetXI TA E K H0 cX10_drop _ from hc).2 (show (1 : Nat) ≠ 0 by decide) _ _ _ c1s_0 ⟨Or.inl rfl, dX10_drop_15, dX10_drop_18, 152, "no such fact", xs_152, Or.inl ⟨dX10_drop_19, dX10_drop_21, dX10_drop_24⟩⟩
theorem c_Dm_drop {E : EE} {l : Launch} (hst : l.stackTraces = false) (hI : Inj TA E) {w : World} {x1 : Int} (r_x1 : R32 x1) {out : (World × Nat × Int)} (hf : f_Dm_drop w x1 = some out) : ConXI TA E l yX10_drop (WS yX10_drop cX10_drop 2 (some .int)) rm_Dm_drop [rf E.ad 1, .int (ii x1)] w out :=
  con_XI (by decide +kernel) rfl rfl (Nat.le_of_ble_eq_true rfl) (c1s_r (c1s_i c1s_0 (Nat.le_of_ble_eq_true rfl)) (Nat.le_of_ble_eq_true rfl)).1 ⟨rfl, rfl, Nat.le_of_ble_eq_true rfl, Nat.le_of_ble_eq_true rfl⟩ hI TnA hst (fun K H0 k hret => t_Dm_drop_0 k r_x1 hf hret)
abbrev rm_Dm_pass : Room := { frames := 6, cells := 1, slots := 6, locals := 100 }
noncomputable def f_Dm_pass (w : World) : Option (World × Nat × Int) :=
  if (w 1 12) < 3 then (bl (up w 1 12 (wr ((w 1 12) + 1))) fun w5 => bl (up w5 150 0 0) fun w6 => some (w6, 0, w6 1 12)) else (some (w, 3, 0))
theorem t_Dm_pass_0 {E : EE} {K : KT} {l : Launch} {H0 : Heap} (k : KofX TA E K H0 l cX10_pass RX10 rm_Dm_pass) {w : World}  {out : (World × Nat × Int)} (hf : f_Dm_pass w = some out) (hc : (fun out : (World × Nat × Int) => RetXI TA E K H0 cX10_pass out) out) : Jj K (WdT TA E H0) w 0 [some (rf E.ad 1)] [] := by
  unfold f_Dm_pass at hf
  have o := k.1
  have g := k.2.1
  have kr := k.2.2.1
  have gx := k.2.2.2.2
  refine J_aload_n o dX10_pass_0 rfl ?_
  refine J_getI o g dX10_pass_1 flX10_173 kA_1 rfl (fun q1 => ?_)
  refine J_iconst o dX10_pass_4 ?_
  refine J_icmp_lt 18 o dX10_pass_5 (by decide) q1 rl3 (fun c2 => ?_) (fun c3 => ?_)
  · have hf := ite_t c2 hf
    refine J_aload_n o dX10_pass_18 rfl ?_
    refine J_dup o dX10_pass_19 rf_cat ?_
    refine J_getI o g dX10_pass_20 flX10_173 kA_1 rfl (fun q4 => ?_)
    refine J_iconst o dX10_pass_23 ?_
    refine J_iadd o dX10_pass_24 ?_
    refine J_putI o g dX10_pass_25 fpX10_173 kA_1 rfl rfl (R_wr _) ?_
    have hf := bl_out hf
    refine J_aload_n o dX10_pass_28 rfl ?_
    refine J_getF (true, 150) o g dX10_pass_29 flX10_74 kA_1 rfl rfl rfl ?_
    refine J_iconst o dX10_pass_32 ?_
    refine J_putZ o g dX10_pass_33 fpX10_178 kA_150 rfl rfl (Or.inl rfl) ?_
    have hf := bl_out hf
    refine J_aload_n o dX10_pass_36 rfl ?_
    refine J_getI o g dX10_pass_37 flX10_173 kA_1 rfl (fun q7 => ?_)
    have hf := some_inj hf
    subst hf
    exact (show RetXI TA E K H0 cX10_pass _ from hc).1 rfl _ _ q7 dX10_pass_40
  · have hf := ite_f c3 hf
    have hf := some_inj hf
    subst hf
    exact (show RetXI TA E K H0 cX10_pass _ from hc).2 (show (3 : Nat) ≠ 0 by decide) _ _ _ c1s_0 ⟨Or.inr (Or.inr rfl), dX10_pass_8, dX10_pass_11, 176, "no hour is to come", xs_176, Or.inl ⟨dX10_pass_12, dX10_pass_14, dX10_pass_17⟩⟩
theorem c_Dm_pass {E : EE} {l : Launch} (hst : l.stackTraces = false) (hI : Inj TA E) {w : World}  {out : (World × Nat × Int)} (hf : f_Dm_pass w = some out) : ConXI TA E l yX10_pass (WS yX10_pass cX10_pass 1 (some .int)) rm_Dm_pass [rf E.ad 1] w out :=
  con_XI (by decide +kernel) rfl rfl (Nat.le_of_ble_eq_true rfl) (c1s_r c1s_0 (Nat.le_of_ble_eq_true rfl)).1 ⟨rfl, rfl, Nat.le_of_ble_eq_true rfl, Nat.le_of_ble_eq_true rfl⟩ hI TnA hst (fun K H0 k hret => t_Dm_pass_0 k  hf hret)
abbrev rm_Dm_head : Room := { frames := 6, cells := 1, slots := 6, locals := 100 }
noncomputable def f_Dm_head (w : World) (x1 : Int) (x2 : Int) (x3 : Int) (x4 : Int) : Option (World × Nat × Int) :=
  bnd (f_Sc_isDeclared w x1) fun v2 => if v2 = 0 then (some (w, 1, 0)) else (bnd (f_Sc_permits w x1 1 x2 x3 x4) fun v7 => if v7 = 0 then (some (w, 2, 0)) else (bnd (f_Bo_setHead w 94 x1 x2 x3 x4) fun v12 => some (v12, 0, 0)))
theorem t_Dm_head_0 {E : EE} {K : KT} {l : Launch} {H0 : Heap} (k : KofX TA E K H0 l cX10_head RX10 rm_Dm_head) {w : World} {x1 : Int} {x2 : Int} {x3 : Int} {x4 : Int} (r_x1 : R32 x1) (r_x2 : R32 x2) (r_x3 : R32 x3) (r_x4 : R32 x4) {out : (World × Nat × Int)} (hf : f_Dm_head w x1 x2 x3 x4 = some out) (hc : (fun out : (World × Nat × Int) => RetXV TA E K H0 cX10_head out) out) : Jj K (WdT TA E H0) w 0 [some (rf E.ad 1), some (.int (ii x1)), some (.int (ii x2)), some (.int (ii x3)), some (.int (ii x4))] [] := by
  unfold f_Dm_head at hf
  have o := k.1
  have g := k.2.1
  have kr := k.2.2.1
  have gx := k.2.2.2.2
  refine J_aload_n o dX10_head_0 rfl ?_
  refine J_getF (true, 2) o g dX10_head_1 flX10_31 kA_1 rfl rfl rfl ?_
  refine J_iload_n o dX10_head_4 rfl ?_
  obtain ⟨v2, e1, hf⟩ := bnd_some hf
  refine J_vI o g kr dX10_head_5 lkX10_108 ml_Sc_isDeclared vl_Sc_isDeclared ⟨rfl, rfl, Nat.le_of_ble_eq_true rfl, Nat.le_of_ble_eq_true rfl⟩ (c_Sc_isDeclared g.2.1 r_x1 e1) kA_2 rfl ⟨by decide, by decide⟩ rfl rfl c1s_0 (fun q3 => ?_)
  refine J_if_ne 21 o dX10_head_8 (by decide) q3 (fun c4 => ?_) (fun c5 => ?_)
  · have hf := ite_f c4 hf
    refine J_aload_n o dX10_head_21 rfl ?_
    refine J_getF (true, 2) o g dX10_head_22 flX10_31 kA_1 rfl rfl rfl ?_
    refine J_iload_n o dX10_head_25 rfl ?_
    refine J_iconst o dX10_head_26 ?_
    refine J_iload_n o dX10_head_27 rfl ?_
    refine J_iload_n o dX10_head_28 rfl ?_
    refine J_iload o dX10_head_29 rfl ?_
    obtain ⟨v7, e6, hf⟩ := bnd_some hf
    refine J_vI o g kr dX10_head_31 lkX10_123 ml_Sc_permits vl_Sc_permits ⟨rfl, rfl, Nat.le_of_ble_eq_true rfl, Nat.le_of_ble_eq_true rfl⟩ (c_Sc_permits g.2.1 r_x1 rl1 r_x2 r_x3 r_x4 e6) kA_2 rfl ⟨by decide, by decide⟩ rfl rfl c1s_0 (fun q8 => ?_)
    refine J_if_ne 47 o dX10_head_34 (by decide) q8 (fun c9 => ?_) (fun c10 => ?_)
    · have hf := ite_f c9 hf
      refine J_aload_n o dX10_head_47 rfl ?_
      refine J_getF (true, 94) o g dX10_head_48 flX10_43 kA_1 rfl rfl rfl ?_
      refine J_iload_n o dX10_head_51 rfl ?_
      refine J_iload_n o dX10_head_52 rfl ?_
      refine J_iload_n o dX10_head_53 rfl ?_
      refine J_iload o dX10_head_54 rfl ?_
      obtain ⟨v12, e11, hf⟩ := bnd_some hf
      refine J_vV o g kr dX10_head_56 lkX10_184 ml_Bo_setHead vl_Bo_setHead ⟨rfl, rfl, Nat.le_of_ble_eq_true rfl, Nat.le_of_ble_eq_true rfl⟩ (c_Bo_setHead g.2.1 kA_94 r_x1 r_x2 r_x3 r_x4 e11) kA_94 rfl ⟨by decide, by decide⟩ rfl rfl c1s_0 ?_
      have hf := some_inj hf
      subst hf
      exact (show RetXV TA E K H0 cX10_head _ from hc).1 rfl _ _  dX10_head_59
    · have hf := ite_t c10 hf
      have hf := some_inj hf
      subst hf
      exact (show RetXV TA E K H0 cX10_head _ from hc).2 (show (2 : Nat) ≠ 0 by decide) _ _ _ c1s_0 ⟨Or.inr (Or.inl rfl), dX10_head_37, dX10_head_40, 182, "term out of range", xs_182, Or.inl ⟨dX10_head_41, dX10_head_43, dX10_head_46⟩⟩
  · have hf := ite_t c5 hf
    have hf := some_inj hf
    subst hf
    exact (show RetXV TA E K H0 cX10_head _ from hc).2 (show (1 : Nat) ≠ 0 by decide) _ _ _ c1s_0 ⟨Or.inl rfl, dX10_head_11, dX10_head_14, 121, "no such relation", xs_121, Or.inl ⟨dX10_head_15, dX10_head_17, dX10_head_20⟩⟩
theorem c_Dm_head {E : EE} {l : Launch} (hst : l.stackTraces = false) (hI : Inj TA E) {w : World} {x1 : Int} {x2 : Int} {x3 : Int} {x4 : Int} (r_x1 : R32 x1) (r_x2 : R32 x2) (r_x3 : R32 x3) (r_x4 : R32 x4) {out : (World × Nat × Int)} (hf : f_Dm_head w x1 x2 x3 x4 = some out) : ConXV TA E l yX10_head (WS yX10_head cX10_head 5 none) rm_Dm_head [rf E.ad 1, .int (ii x1), .int (ii x2), .int (ii x3), .int (ii x4)] w out :=
  con_XV (by decide +kernel) rfl rfl (Nat.le_of_ble_eq_true rfl) (c1s_r (c1s_i (c1s_i (c1s_i (c1s_i c1s_0 (Nat.le_of_ble_eq_true rfl)) (Nat.le_of_ble_eq_true rfl)) (Nat.le_of_ble_eq_true rfl)) (Nat.le_of_ble_eq_true rfl)) (Nat.le_of_ble_eq_true rfl)).1 ⟨rfl, rfl, Nat.le_of_ble_eq_true rfl, Nat.le_of_ble_eq_true rfl⟩ hI TnA hst (fun K H0 k hret => t_Dm_head_0 k r_x1 r_x2 r_x3 r_x4 hf hret)
abbrev rm_Dm_atom : Room := { frames := 6, cells := 1, slots := 6, locals := 100 }
noncomputable def f_Dm_atom_97 (w : World) (x1 : Int) (x3 : Int) (x4 : Int) (x5 : Int) (s1 : Int) : Option (World × Nat × Int) :=
  bnd (f_Bo_push w 94 s1 x1 x3 x4 x5) fun v2 => some (v2.1, 0, v2.2)
theorem t_Dm_atom_97 {E : EE} {K : KT} {l : Launch} {H0 : Heap} (k : KofX TA E K H0 l cX10_atom RX10 rm_Dm_atom) {w : World} {x1 : Int} {x3 : Int} {x4 : Int} {x5 : Int} {s1 : Int} {o0 o2 : Option Value} (r_x1 : R32 x1) (r_x3 : R32 x3) (r_x4 : R32 x4) (r_x5 : R32 x5) (r_s1 : R32 s1) {out : (World × Nat × Int)} (hf : f_Dm_atom_97 w x1 x3 x4 x5 s1 = some out) (hc : (fun out : (World × Nat × Int) => RetXI TA E K H0 cX10_atom out) out) : Jj K (WdT TA E H0) w 97 [o0, some (.int (ii x1)), o2, some (.int (ii x3)), some (.int (ii x4)), some (.int (ii x5))] [.int (ii s1), rf E.ad 94] := by
  unfold f_Dm_atom_97 at hf
  have o := k.1
  have g := k.2.1
  have kr := k.2.2.1
  have gx := k.2.2.2.2
  refine J_iload_n o dX10_atom_97 rfl ?_
  refine J_iload_n o dX10_atom_98 rfl ?_
  refine J_iload o dX10_atom_99 rfl ?_
  refine J_iload o dX10_atom_101 rfl ?_
  obtain ⟨v2, e1, hf⟩ := bnd_some hf
  refine J_vI o g kr dX10_atom_103 lkX10_194 ml_Bo_push vl_Bo_push ⟨rfl, rfl, Nat.le_of_ble_eq_true rfl, Nat.le_of_ble_eq_true rfl⟩ (c_Bo_push g.2.1 kA_94 r_s1 r_x1 r_x3 r_x4 r_x5 e1) kA_94 rfl ⟨by decide, by decide⟩ rfl rfl c1s_0 (fun q3 => ?_)
  have hf := some_inj hf
  subst hf
  exact (show RetXI TA E K H0 cX10_atom _ from hc).1 rfl _ _ q3 dX10_atom_106
noncomputable def f_Dm_atom_84 (w : World) (x1 : Int) (x2 : Int) (x3 : Int) (x4 : Int) (x5 : Int) : Option (World × Nat × Int) :=
  if x2 = 0 then (f_Dm_atom_97 w x1 x3 x4 x5 1) else (f_Dm_atom_97 w x1 x3 x4 x5 0)
theorem t_Dm_atom_84 {E : EE} {K : KT} {l : Launch} {H0 : Heap} (k : KofX TA E K H0 l cX10_atom RX10 rm_Dm_atom) {w : World} {x1 : Int} {x2 : Int} {x3 : Int} {x4 : Int} {x5 : Int} (r_x1 : R32 x1) (r_x2 : R32 x2) (r_x3 : R32 x3) (r_x4 : R32 x4) (r_x5 : R32 x5) {out : (World × Nat × Int)} (hf : f_Dm_atom_84 w x1 x2 x3 x4 x5 = some out) (hc : (fun out : (World × Nat × Int) => RetXI TA E K H0 cX10_atom out) out) : Jj K (WdT TA E H0) w 84 [some (rf E.ad 1), some (.int (ii x1)), some (.int (ii x2)), some (.int (ii x3)), some (.int (ii x4)), some (.int (ii x5))] [] := by
  unfold f_Dm_atom_84 at hf
  have o := k.1
  have g := k.2.1
  have kr := k.2.2.1
  have gx := k.2.2.2.2
  refine J_aload_n o dX10_atom_84 rfl ?_
  refine J_getF (true, 94) o g dX10_atom_85 flX10_43 kA_1 rfl rfl rfl ?_
  refine J_iload_n o dX10_atom_88 rfl ?_
  refine J_if_eq 96 o dX10_atom_89 (by decide) r_x2 (fun c1 => ?_) (fun c2 => ?_)
  · have hf := ite_t c1 hf
    refine J_iconst o dX10_atom_96 ?_
    exact t_Dm_atom_97 k r_x1 r_x3 r_x4 r_x5 rl1 hf hc
  · have hf := ite_f c2 hf
    refine J_iconst o dX10_atom_92 ?_
    refine J_goto 97 o dX10_atom_93 (by decide) ?_
    exact t_Dm_atom_97 k r_x1 r_x3 r_x4 r_x5 rl0 hf hc
noncomputable def f_Dm_atom (w : World) (x1 : Int) (x2 : Int) (x3 : Int) (x4 : Int) (x5 : Int) : Option (World × Nat × Int) :=
  bnd (f_Sc_isDeclared w x1) fun v2 => if v2 = 0 then (some (w, 1, 0)) else (bnd (f_Sc_permits w x1 1 x3 x4 x5) fun v7 => if v7 = 0 then (some (w, 2, 0)) else (if 5 ≤ (w 94 0) then (some (w, 3, 0)) else (if x2 = 0 then (f_Dm_atom_84 w x1 x2 x3 x4 x5) else (bnd (f_Bo_holdingAtoms w 94) fun v17 => if v17 < 3 then (f_Dm_atom_84 w x1 x2 x3 x4 x5) else (some (w, 3, 0))))))
theorem t_Dm_atom_0 {E : EE} {K : KT} {l : Launch} {H0 : Heap} (k : KofX TA E K H0 l cX10_atom RX10 rm_Dm_atom) {w : World} {x1 : Int} {x2 : Int} {x3 : Int} {x4 : Int} {x5 : Int} (r_x1 : R32 x1) (r_x2 : R32 x2) (r_x3 : R32 x3) (r_x4 : R32 x4) (r_x5 : R32 x5) {out : (World × Nat × Int)} (hf : f_Dm_atom w x1 x2 x3 x4 x5 = some out) (hc : (fun out : (World × Nat × Int) => RetXI TA E K H0 cX10_atom out) out) : Jj K (WdT TA E H0) w 0 [some (rf E.ad 1), some (.int (ii x1)), some (.int (ii x2)), some (.int (ii x3)), some (.int (ii x4)), some (.int (ii x5))] [] := by
  unfold f_Dm_atom at hf
  have o := k.1
  have g := k.2.1
  have kr := k.2.2.1
  have gx := k.2.2.2.2
  refine J_aload_n o dX10_atom_0 rfl ?_
  refine J_getF (true, 2) o g dX10_atom_1 flX10_31 kA_1 rfl rfl rfl ?_
  refine J_iload_n o dX10_atom_4 rfl ?_
  obtain ⟨v2, e1, hf⟩ := bnd_some hf
  refine J_vI o g kr dX10_atom_5 lkX10_108 ml_Sc_isDeclared vl_Sc_isDeclared ⟨rfl, rfl, Nat.le_of_ble_eq_true rfl, Nat.le_of_ble_eq_true rfl⟩ (c_Sc_isDeclared g.2.1 r_x1 e1) kA_2 rfl ⟨by decide, by decide⟩ rfl rfl c1s_0 (fun q3 => ?_)
  refine J_if_ne 21 o dX10_atom_8 (by decide) q3 (fun c4 => ?_) (fun c5 => ?_)
  · have hf := ite_f c4 hf
    refine J_aload_n o dX10_atom_21 rfl ?_
    refine J_getF (true, 2) o g dX10_atom_22 flX10_31 kA_1 rfl rfl rfl ?_
    refine J_iload_n o dX10_atom_25 rfl ?_
    refine J_iconst o dX10_atom_26 ?_
    refine J_iload_n o dX10_atom_27 rfl ?_
    refine J_iload o dX10_atom_28 rfl ?_
    refine J_iload o dX10_atom_30 rfl ?_
    obtain ⟨v7, e6, hf⟩ := bnd_some hf
    refine J_vI o g kr dX10_atom_32 lkX10_123 ml_Sc_permits vl_Sc_permits ⟨rfl, rfl, Nat.le_of_ble_eq_true rfl, Nat.le_of_ble_eq_true rfl⟩ (c_Sc_permits g.2.1 r_x1 rl1 r_x3 r_x4 r_x5 e6) kA_2 rfl ⟨by decide, by decide⟩ rfl rfl c1s_0 (fun q8 => ?_)
    refine J_if_ne 48 o dX10_atom_35 (by decide) q8 (fun c9 => ?_) (fun c10 => ?_)
    · have hf := ite_f c9 hf
      refine J_aload_n o dX10_atom_48 rfl ?_
      refine J_getF (true, 94) o g dX10_atom_49 flX10_43 kA_1 rfl rfl rfl ?_
      refine J_getI o g dX10_atom_52 flX10_187 kA_94 rfl (fun q11 => ?_)
      refine J_iconst o dX10_atom_55 ?_
      refine J_icmp_ge 74 o dX10_atom_56 (by decide) q11 rl5 (fun c12 => ?_) (fun c13 => ?_)
      · have hf := ite_t c12 hf
        have hf := some_inj hf
        subst hf
        exact (show RetXI TA E K H0 cX10_atom _ from hc).2 (show (3 : Nat) ≠ 0 by decide) _ _ _ c1s_0 ⟨Or.inr (Or.inr rfl), dX10_atom_74, dX10_atom_77, 192, "no more such literals", xs_192, Or.inl ⟨dX10_atom_78, dX10_atom_80, dX10_atom_83⟩⟩
      · have hf := ite_f c13 hf
        refine J_iload_n o dX10_atom_59 rfl ?_
        refine J_if_eq 84 o dX10_atom_60 (by decide) r_x2 (fun c14 => ?_) (fun c15 => ?_)
        · have hf := ite_t c14 hf
          exact t_Dm_atom_84 k r_x1 r_x2 r_x3 r_x4 r_x5 hf hc
        · have hf := ite_f c15 hf
          refine J_aload_n o dX10_atom_63 rfl ?_
          refine J_getF (true, 94) o g dX10_atom_64 flX10_43 kA_1 rfl rfl rfl ?_
          obtain ⟨v17, e16, hf⟩ := bnd_some hf
          refine J_vI o g kr dX10_atom_67 lkX10_188 ml_Bo_holdingAtoms vl_Bo_holdingAtoms ⟨rfl, rfl, Nat.le_of_ble_eq_true rfl, Nat.le_of_ble_eq_true rfl⟩ (c_Bo_holdingAtoms g.2.1 kA_94 e16) kA_94 rfl ⟨by decide, by decide⟩ rfl rfl c1s_0 (fun q18 => ?_)
          refine J_iconst o dX10_atom_70 ?_
          refine J_icmp_lt 84 o dX10_atom_71 (by decide) q18 rl3 (fun c19 => ?_) (fun c20 => ?_)
          · have hf := ite_t c19 hf
            exact t_Dm_atom_84 k r_x1 r_x2 r_x3 r_x4 r_x5 hf hc
          · have hf := ite_f c20 hf
            have hf := some_inj hf
            subst hf
            exact (show RetXI TA E K H0 cX10_atom _ from hc).2 (show (3 : Nat) ≠ 0 by decide) _ _ _ c1s_0 ⟨Or.inr (Or.inr rfl), dX10_atom_74, dX10_atom_77, 192, "no more such literals", xs_192, Or.inl ⟨dX10_atom_78, dX10_atom_80, dX10_atom_83⟩⟩
    · have hf := ite_t c10 hf
      have hf := some_inj hf
      subst hf
      exact (show RetXI TA E K H0 cX10_atom _ from hc).2 (show (2 : Nat) ≠ 0 by decide) _ _ _ c1s_0 ⟨Or.inr (Or.inl rfl), dX10_atom_38, dX10_atom_41, 182, "term out of range", xs_182, Or.inl ⟨dX10_atom_42, dX10_atom_44, dX10_atom_47⟩⟩
  · have hf := ite_t c5 hf
    have hf := some_inj hf
    subst hf
    exact (show RetXI TA E K H0 cX10_atom _ from hc).2 (show (1 : Nat) ≠ 0 by decide) _ _ _ c1s_0 ⟨Or.inl rfl, dX10_atom_11, dX10_atom_14, 121, "no such relation", xs_121, Or.inl ⟨dX10_atom_15, dX10_atom_17, dX10_atom_20⟩⟩
theorem c_Dm_atom {E : EE} {l : Launch} (hst : l.stackTraces = false) (hI : Inj TA E) {w : World} {x1 : Int} {x2 : Int} {x3 : Int} {x4 : Int} {x5 : Int} (r_x1 : R32 x1) (r_x2 : R32 x2) (r_x3 : R32 x3) (r_x4 : R32 x4) (r_x5 : R32 x5) {out : (World × Nat × Int)} (hf : f_Dm_atom w x1 x2 x3 x4 x5 = some out) : ConXI TA E l yX10_atom (WS yX10_atom cX10_atom 6 (some .int)) rm_Dm_atom [rf E.ad 1, .int (ii x1), .int (ii x2), .int (ii x3), .int (ii x4), .int (ii x5)] w out :=
  con_XI (by decide +kernel) rfl rfl (Nat.le_of_ble_eq_true rfl) (c1s_r (c1s_i (c1s_i (c1s_i (c1s_i (c1s_i c1s_0 (Nat.le_of_ble_eq_true rfl)) (Nat.le_of_ble_eq_true rfl)) (Nat.le_of_ble_eq_true rfl)) (Nat.le_of_ble_eq_true rfl)) (Nat.le_of_ble_eq_true rfl)) (Nat.le_of_ble_eq_true rfl)).1 ⟨rfl, rfl, Nat.le_of_ble_eq_true rfl, Nat.le_of_ble_eq_true rfl⟩ hI TnA hst (fun K H0 k hret => t_Dm_atom_0 k r_x1 r_x2 r_x3 r_x4 r_x5 hf hret)
abbrev rm_Dm_compare : Room := { frames := 6, cells := 1, slots := 6, locals := 100 }
noncomputable def f_Dm_compare (w : World) (x1 : Int) (x2 : Int) (x3 : Int) : Option (World × Nat × Int) :=
  if x1 < 0 then (some (w, 1, 0)) else (if x1 ≤ 3 then (bnd (f_Dm_isTerm x2) fun v6 => if v6 = 0 then (some (w, 2, 0)) else (bnd (f_Dm_isTerm x3) fun v11 => if v11 = 0 then (some (w, 2, 0)) else (if (w 94 0) < 5 then (bnd (f_Bo_push w 94 2 x1 x2 x3 0) fun v19 => some (v19.1, 0, v19.2)) else (some (w, 3, 0))))) else (some (w, 1, 0)))
theorem t_Dm_compare_0 {E : EE} {K : KT} {l : Launch} {H0 : Heap} (k : KofX TA E K H0 l cX10_compare RX10 rm_Dm_compare) {w : World} {x1 : Int} {x2 : Int} {x3 : Int} (r_x1 : R32 x1) (r_x2 : R32 x2) (r_x3 : R32 x3) {out : (World × Nat × Int)} (hf : f_Dm_compare w x1 x2 x3 = some out) (hc : (fun out : (World × Nat × Int) => RetXI TA E K H0 cX10_compare out) out) : Jj K (WdT TA E H0) w 0 [some (rf E.ad 1), some (.int (ii x1)), some (.int (ii x2)), some (.int (ii x3))] [] := by
  unfold f_Dm_compare at hf
  have o := k.1
  have g := k.2.1
  have kr := k.2.2.1
  have gx := k.2.2.2.2
  refine J_iload_n o dX10_compare_0 rfl ?_
  refine J_if_lt 9 o dX10_compare_1 (by decide) r_x1 (fun c1 => ?_) (fun c2 => ?_)
  · have hf := ite_t c1 hf
    have hf := some_inj hf
    subst hf
    exact (show RetXI TA E K H0 cX10_compare _ from hc).2 (show (1 : Nat) ≠ 0 by decide) _ _ _ c1s_0 ⟨Or.inl rfl, dX10_compare_9, dX10_compare_12, 198, "no such comparison", xs_198, Or.inl ⟨dX10_compare_13, dX10_compare_15, dX10_compare_18⟩⟩
  · have hf := ite_f c2 hf
    refine J_iload_n o dX10_compare_4 rfl ?_
    refine J_iconst o dX10_compare_5 ?_
    refine J_icmp_le 19 o dX10_compare_6 (by decide) r_x1 rl3 (fun c3 => ?_) (fun c4 => ?_)
    · have hf := ite_t c3 hf
      refine J_iload_n o dX10_compare_19 rfl ?_
      obtain ⟨v6, e5, hf⟩ := bnd_some hf
      refine J_sI o g kr dX10_compare_20 lkX10_200 ml_Dm_isTerm mw602 ⟨rfl, rfl, Nat.le_of_ble_eq_true rfl, Nat.le_of_ble_eq_true rfl⟩ (c_Dm_isTerm g.2.1 r_x2 e5) rfl rfl c1s_0 (fun q7 => ?_)
      refine J_if_eq 33 o dX10_compare_23 (by decide) q7 (fun c8 => ?_) (fun c9 => ?_)
      · have hf := ite_t c8 hf
        have hf := some_inj hf
        subst hf
        exact (show RetXI TA E K H0 cX10_compare _ from hc).2 (show (2 : Nat) ≠ 0 by decide) _ _ _ c1s_0 ⟨Or.inr (Or.inl rfl), dX10_compare_33, dX10_compare_36, 182, "term out of range", xs_182, Or.inl ⟨dX10_compare_37, dX10_compare_39, dX10_compare_42⟩⟩
      · have hf := ite_f c9 hf
        refine J_iload_n o dX10_compare_26 rfl ?_
        obtain ⟨v11, e10, hf⟩ := bnd_some hf
        refine J_sI o g kr dX10_compare_27 lkX10_200 ml_Dm_isTerm mw602 ⟨rfl, rfl, Nat.le_of_ble_eq_true rfl, Nat.le_of_ble_eq_true rfl⟩ (c_Dm_isTerm g.2.1 r_x3 e10) rfl rfl c1s_0 (fun q12 => ?_)
        refine J_if_ne 43 o dX10_compare_30 (by decide) q12 (fun c13 => ?_) (fun c14 => ?_)
        · have hf := ite_f c13 hf
          refine J_aload_n o dX10_compare_43 rfl ?_
          refine J_getF (true, 94) o g dX10_compare_44 flX10_43 kA_1 rfl rfl rfl ?_
          refine J_getI o g dX10_compare_47 flX10_187 kA_94 rfl (fun q15 => ?_)
          refine J_iconst o dX10_compare_50 ?_
          refine J_icmp_lt 64 o dX10_compare_51 (by decide) q15 rl5 (fun c16 => ?_) (fun c17 => ?_)
          · have hf := ite_t c16 hf
            refine J_aload_n o dX10_compare_64 rfl ?_
            refine J_getF (true, 94) o g dX10_compare_65 flX10_43 kA_1 rfl rfl rfl ?_
            refine J_iconst o dX10_compare_68 ?_
            refine J_iload_n o dX10_compare_69 rfl ?_
            refine J_iload_n o dX10_compare_70 rfl ?_
            refine J_iload_n o dX10_compare_71 rfl ?_
            refine J_iconst o dX10_compare_72 ?_
            obtain ⟨v19, e18, hf⟩ := bnd_some hf
            refine J_vI o g kr dX10_compare_73 lkX10_194 ml_Bo_push vl_Bo_push ⟨rfl, rfl, Nat.le_of_ble_eq_true rfl, Nat.le_of_ble_eq_true rfl⟩ (c_Bo_push g.2.1 kA_94 rl2 r_x1 r_x2 r_x3 rl0 e18) kA_94 rfl ⟨by decide, by decide⟩ rfl rfl c1s_0 (fun q20 => ?_)
            have hf := some_inj hf
            subst hf
            exact (show RetXI TA E K H0 cX10_compare _ from hc).1 rfl _ _ q20 dX10_compare_76
          · have hf := ite_f c17 hf
            have hf := some_inj hf
            subst hf
            exact (show RetXI TA E K H0 cX10_compare _ from hc).2 (show (3 : Nat) ≠ 0 by decide) _ _ _ c1s_0 ⟨Or.inr (Or.inr rfl), dX10_compare_54, dX10_compare_57, 203, "no more literals", xs_203, Or.inl ⟨dX10_compare_58, dX10_compare_60, dX10_compare_63⟩⟩
        · have hf := ite_t c14 hf
          have hf := some_inj hf
          subst hf
          exact (show RetXI TA E K H0 cX10_compare _ from hc).2 (show (2 : Nat) ≠ 0 by decide) _ _ _ c1s_0 ⟨Or.inr (Or.inl rfl), dX10_compare_33, dX10_compare_36, 182, "term out of range", xs_182, Or.inl ⟨dX10_compare_37, dX10_compare_39, dX10_compare_42⟩⟩
    · have hf := ite_f c4 hf
      have hf := some_inj hf
      subst hf
      exact (show RetXI TA E K H0 cX10_compare _ from hc).2 (show (1 : Nat) ≠ 0 by decide) _ _ _ c1s_0 ⟨Or.inl rfl, dX10_compare_9, dX10_compare_12, 198, "no such comparison", xs_198, Or.inl ⟨dX10_compare_13, dX10_compare_15, dX10_compare_18⟩⟩
theorem c_Dm_compare {E : EE} {l : Launch} (hst : l.stackTraces = false) (hI : Inj TA E) {w : World} {x1 : Int} {x2 : Int} {x3 : Int} (r_x1 : R32 x1) (r_x2 : R32 x2) (r_x3 : R32 x3) {out : (World × Nat × Int)} (hf : f_Dm_compare w x1 x2 x3 = some out) : ConXI TA E l yX10_compare (WS yX10_compare cX10_compare 4 (some .int)) rm_Dm_compare [rf E.ad 1, .int (ii x1), .int (ii x2), .int (ii x3)] w out :=
  con_XI (by decide +kernel) rfl rfl (Nat.le_of_ble_eq_true rfl) (c1s_r (c1s_i (c1s_i (c1s_i c1s_0 (Nat.le_of_ble_eq_true rfl)) (Nat.le_of_ble_eq_true rfl)) (Nat.le_of_ble_eq_true rfl)) (Nat.le_of_ble_eq_true rfl)).1 ⟨rfl, rfl, Nat.le_of_ble_eq_true rfl, Nat.le_of_ble_eq_true rfl⟩ hI TnA hst (fun K H0 k hret => t_Dm_compare_0 k r_x1 r_x2 r_x3 hf hret)
abbrev rm_Dm_add : Room := { frames := 6, cells := 1, slots := 6, locals := 100 }
noncomputable def f_Dm_add (w : World) (x1 : Int) (x2 : Int) (x3 : Int) : Option (World × Nat × Int) :=
  bnd (f_Dm_isTerm x1) fun v2 => if v2 = 0 then (some (w, 2, 0)) else (bnd (f_Dm_isTerm x2) fun v7 => if v7 = 0 then (some (w, 2, 0)) else (bnd (f_Dm_isTerm x3) fun v12 => if v12 = 0 then (some (w, 2, 0)) else (if (w 94 0) < 5 then (bnd (f_Bo_push w 94 3 0 x1 x2 x3) fun v20 => some (v20.1, 0, v20.2)) else (some (w, 3, 0)))))
theorem t_Dm_add_0 {E : EE} {K : KT} {l : Launch} {H0 : Heap} (k : KofX TA E K H0 l cX10_add RX10 rm_Dm_add) {w : World} {x1 : Int} {x2 : Int} {x3 : Int} (r_x1 : R32 x1) (r_x2 : R32 x2) (r_x3 : R32 x3) {out : (World × Nat × Int)} (hf : f_Dm_add w x1 x2 x3 = some out) (hc : (fun out : (World × Nat × Int) => RetXI TA E K H0 cX10_add out) out) : Jj K (WdT TA E H0) w 0 [some (rf E.ad 1), some (.int (ii x1)), some (.int (ii x2)), some (.int (ii x3))] [] := by
  unfold f_Dm_add at hf
  have o := k.1
  have g := k.2.1
  have kr := k.2.2.1
  have gx := k.2.2.2.2
  refine J_iload_n o dX10_add_0 rfl ?_
  obtain ⟨v2, e1, hf⟩ := bnd_some hf
  refine J_sI o g kr dX10_add_1 lkX10_200 ml_Dm_isTerm mw602 ⟨rfl, rfl, Nat.le_of_ble_eq_true rfl, Nat.le_of_ble_eq_true rfl⟩ (c_Dm_isTerm g.2.1 r_x1 e1) rfl rfl c1s_0 (fun q3 => ?_)
  refine J_if_eq 21 o dX10_add_4 (by decide) q3 (fun c4 => ?_) (fun c5 => ?_)
  · have hf := ite_t c4 hf
    have hf := some_inj hf
    subst hf
    exact (show RetXI TA E K H0 cX10_add _ from hc).2 (show (2 : Nat) ≠ 0 by decide) _ _ _ c1s_0 ⟨Or.inr (Or.inl rfl), dX10_add_21, dX10_add_24, 182, "term out of range", xs_182, Or.inl ⟨dX10_add_25, dX10_add_27, dX10_add_30⟩⟩
  · have hf := ite_f c5 hf
    refine J_iload_n o dX10_add_7 rfl ?_
    obtain ⟨v7, e6, hf⟩ := bnd_some hf
    refine J_sI o g kr dX10_add_8 lkX10_200 ml_Dm_isTerm mw602 ⟨rfl, rfl, Nat.le_of_ble_eq_true rfl, Nat.le_of_ble_eq_true rfl⟩ (c_Dm_isTerm g.2.1 r_x2 e6) rfl rfl c1s_0 (fun q8 => ?_)
    refine J_if_eq 21 o dX10_add_11 (by decide) q8 (fun c9 => ?_) (fun c10 => ?_)
    · have hf := ite_t c9 hf
      have hf := some_inj hf
      subst hf
      exact (show RetXI TA E K H0 cX10_add _ from hc).2 (show (2 : Nat) ≠ 0 by decide) _ _ _ c1s_0 ⟨Or.inr (Or.inl rfl), dX10_add_21, dX10_add_24, 182, "term out of range", xs_182, Or.inl ⟨dX10_add_25, dX10_add_27, dX10_add_30⟩⟩
    · have hf := ite_f c10 hf
      refine J_iload_n o dX10_add_14 rfl ?_
      obtain ⟨v12, e11, hf⟩ := bnd_some hf
      refine J_sI o g kr dX10_add_15 lkX10_200 ml_Dm_isTerm mw602 ⟨rfl, rfl, Nat.le_of_ble_eq_true rfl, Nat.le_of_ble_eq_true rfl⟩ (c_Dm_isTerm g.2.1 r_x3 e11) rfl rfl c1s_0 (fun q13 => ?_)
      refine J_if_ne 31 o dX10_add_18 (by decide) q13 (fun c14 => ?_) (fun c15 => ?_)
      · have hf := ite_f c14 hf
        refine J_aload_n o dX10_add_31 rfl ?_
        refine J_getF (true, 94) o g dX10_add_32 flX10_43 kA_1 rfl rfl rfl ?_
        refine J_getI o g dX10_add_35 flX10_187 kA_94 rfl (fun q16 => ?_)
        refine J_iconst o dX10_add_38 ?_
        refine J_icmp_lt 52 o dX10_add_39 (by decide) q16 rl5 (fun c17 => ?_) (fun c18 => ?_)
        · have hf := ite_t c17 hf
          refine J_aload_n o dX10_add_52 rfl ?_
          refine J_getF (true, 94) o g dX10_add_53 flX10_43 kA_1 rfl rfl rfl ?_
          refine J_iconst o dX10_add_56 ?_
          refine J_iconst o dX10_add_57 ?_
          refine J_iload_n o dX10_add_58 rfl ?_
          refine J_iload_n o dX10_add_59 rfl ?_
          refine J_iload_n o dX10_add_60 rfl ?_
          obtain ⟨v20, e19, hf⟩ := bnd_some hf
          refine J_vI o g kr dX10_add_61 lkX10_194 ml_Bo_push vl_Bo_push ⟨rfl, rfl, Nat.le_of_ble_eq_true rfl, Nat.le_of_ble_eq_true rfl⟩ (c_Bo_push g.2.1 kA_94 rl3 rl0 r_x1 r_x2 r_x3 e19) kA_94 rfl ⟨by decide, by decide⟩ rfl rfl c1s_0 (fun q21 => ?_)
          have hf := some_inj hf
          subst hf
          exact (show RetXI TA E K H0 cX10_add _ from hc).1 rfl _ _ q21 dX10_add_64
        · have hf := ite_f c18 hf
          have hf := some_inj hf
          subst hf
          exact (show RetXI TA E K H0 cX10_add _ from hc).2 (show (3 : Nat) ≠ 0 by decide) _ _ _ c1s_0 ⟨Or.inr (Or.inr rfl), dX10_add_42, dX10_add_45, 203, "no more literals", xs_203, Or.inl ⟨dX10_add_46, dX10_add_48, dX10_add_51⟩⟩
      · have hf := ite_t c15 hf
        have hf := some_inj hf
        subst hf
        exact (show RetXI TA E K H0 cX10_add _ from hc).2 (show (2 : Nat) ≠ 0 by decide) _ _ _ c1s_0 ⟨Or.inr (Or.inl rfl), dX10_add_21, dX10_add_24, 182, "term out of range", xs_182, Or.inl ⟨dX10_add_25, dX10_add_27, dX10_add_30⟩⟩
theorem c_Dm_add {E : EE} {l : Launch} (hst : l.stackTraces = false) (hI : Inj TA E) {w : World} {x1 : Int} {x2 : Int} {x3 : Int} (r_x1 : R32 x1) (r_x2 : R32 x2) (r_x3 : R32 x3) {out : (World × Nat × Int)} (hf : f_Dm_add w x1 x2 x3 = some out) : ConXI TA E l yX10_add (WS yX10_add cX10_add 4 (some .int)) rm_Dm_add [rf E.ad 1, .int (ii x1), .int (ii x2), .int (ii x3)] w out :=
  con_XI (by decide +kernel) rfl rfl (Nat.le_of_ble_eq_true rfl) (c1s_r (c1s_i (c1s_i (c1s_i c1s_0 (Nat.le_of_ble_eq_true rfl)) (Nat.le_of_ble_eq_true rfl)) (Nat.le_of_ble_eq_true rfl)) (Nat.le_of_ble_eq_true rfl)).1 ⟨rfl, rfl, Nat.le_of_ble_eq_true rfl, Nat.le_of_ble_eq_true rfl⟩ hI TnA hst (fun K H0 k hret => t_Dm_add_0 k r_x1 r_x2 r_x3 hf hret)
abbrev rm_Dm_enter : Room := { frames := 8, cells := 1, slots := 6, locals := 206 }
noncomputable def f_Dm_enter_83 (w : World) : Option (World × Nat × Int) :=
  bnd (f_Pr_takeBack w ) fun v2 => some (v2, 3, 0)
theorem t_Dm_enter_83 {E : EE} {K : KT} {l : Launch} {H0 : Heap} (k : KofX TA E K H0 l cX10_enter RX10 rm_Dm_enter) {w : World}  {out : (World × Nat × Int)} (hf : f_Dm_enter_83 w = some out) (hc : (fun out : (World × Nat × Int) => RetXI TA E K H0 cX10_enter out) out) : Jj K (WdT TA E H0) w 83 [some (rf E.ad 1)] [] := by
  unfold f_Dm_enter_83 at hf
  have o := k.1
  have g := k.2.1
  have kr := k.2.2.1
  have gx := k.2.2.2.2
  refine J_aload_n o dX10_enter_83 rfl ?_
  refine J_getF (true, 14) o g dX10_enter_84 flX10_39 kA_1 rfl rfl rfl ?_
  obtain ⟨v2, e1, hf⟩ := bnd_some hf
  refine J_vV o g kr dX10_enter_87 lkX10_228 ml_Pr_takeBack vl_Pr_takeBack ⟨rfl, rfl, Nat.le_of_ble_eq_true rfl, Nat.le_of_ble_eq_true rfl⟩ (c_Pr_takeBack g.2.1  e1) kA_14 rfl ⟨by decide, by decide⟩ rfl rfl c1s_0 ?_
  have hf := some_inj hf
  subst hf
  exact (show RetXI TA E K H0 cX10_enter _ from hc).2 (show (3 : Nat) ≠ 0 by decide) _ _ _ c1s_0 ⟨Or.inr (Or.inr rfl), dX10_enter_90, dX10_enter_93, 229, "no strata, or too many tuples", xs_229, Or.inl ⟨dX10_enter_94, dX10_enter_96, dX10_enter_99⟩⟩
noncomputable def f_Dm_enter (w : World) : Option (World × Nat × Int) :=
  if (w 94 1) = (-1) then (some (w, 2, 0)) else (bnd (f_Bo_isSafe w 94) fun v5 => if v5 = 0 then (some (w, 2, 0)) else (if (w 14 4) < 12 then (bnd (f_Pr_append w 94) fun v13 => bnd (f_Pr_stratify v13 ) fun v16 => if v16.2 = 0 then (f_Dm_enter_83 v16.1) else (bnd (f_Dm_renew v16.1 0 3) fun v21 => if v21.2 = 0 then (f_Dm_enter_83 v21.1) else (bnd (f_Bo_empty v21.1 94) fun v26 => some (v26, 0, wr ((v26 14 4) - 1))))) else (some (w, 3, 0))))
theorem t_Dm_enter_0 {E : EE} {K : KT} {l : Launch} {H0 : Heap} (k : KofX TA E K H0 l cX10_enter RX10 rm_Dm_enter) {w : World}  {out : (World × Nat × Int)} (hf : f_Dm_enter w = some out) (hc : (fun out : (World × Nat × Int) => RetXI TA E K H0 cX10_enter out) out) : Jj K (WdT TA E H0) w 0 [some (rf E.ad 1)] [] := by
  unfold f_Dm_enter at hf
  have o := k.1
  have g := k.2.1
  have kr := k.2.2.1
  have gx := k.2.2.2.2
  refine J_aload_n o dX10_enter_0 rfl ?_
  refine J_getF (true, 94) o g dX10_enter_1 flX10_43 kA_1 rfl rfl rfl ?_
  refine J_getI o g dX10_enter_4 flX10_208 kA_94 rfl (fun q1 => ?_)
  refine J_iconst o dX10_enter_7 ?_
  refine J_icmp_eq 21 o dX10_enter_8 (by decide) q1 rlm1 (fun c2 => ?_) (fun c3 => ?_)
  · have hf := ite_t c2 hf
    have hf := some_inj hf
    subst hf
    exact (show RetXI TA E K H0 cX10_enter _ from hc).2 (show (2 : Nat) ≠ 0 by decide) _ _ _ c1s_0 ⟨Or.inr (Or.inl rfl), dX10_enter_21, dX10_enter_24, 215, "no head, or not safe", xs_215, Or.inl ⟨dX10_enter_25, dX10_enter_27, dX10_enter_30⟩⟩
  · have hf := ite_f c3 hf
    refine J_aload_n o dX10_enter_11 rfl ?_
    refine J_getF (true, 94) o g dX10_enter_12 flX10_43 kA_1 rfl rfl rfl ?_
    obtain ⟨v5, e4, hf⟩ := bnd_some hf
    refine J_vI o g kr dX10_enter_15 lkX10_211 ml_Bo_isSafe vl_Bo_isSafe ⟨rfl, rfl, Nat.le_of_ble_eq_true rfl, Nat.le_of_ble_eq_true rfl⟩ (c_Bo_isSafe g.2.1 kA_94 e4) kA_94 rfl ⟨by decide, by decide⟩ rfl rfl c1s_0 (fun q6 => ?_)
    refine J_if_ne 31 o dX10_enter_18 (by decide) q6 (fun c7 => ?_) (fun c8 => ?_)
    · have hf := ite_f c7 hf
      refine J_aload_n o dX10_enter_31 rfl ?_
      refine J_getF (true, 14) o g dX10_enter_32 flX10_39 kA_1 rfl rfl rfl ?_
      refine J_getI o g dX10_enter_35 flX10_217 kA_14 rfl (fun q9 => ?_)
      refine J_bipush o dX10_enter_38 (by decide) ?_
      refine J_icmp_lt 53 o dX10_enter_40 (by decide) q9 rl12 (fun c10 => ?_) (fun c11 => ?_)
      · have hf := ite_t c10 hf
        refine J_aload_n o dX10_enter_53 rfl ?_
        refine J_getF (true, 14) o g dX10_enter_54 flX10_39 kA_1 rfl rfl rfl ?_
        refine J_aload_n o dX10_enter_57 rfl ?_
        refine J_getF (true, 94) o g dX10_enter_58 flX10_43 kA_1 rfl rfl rfl ?_
        obtain ⟨v13, e12, hf⟩ := bnd_some hf
        refine J_vV o g kr dX10_enter_61 lkX10_222 ml_Pr_append vl_Pr_append ⟨rfl, rfl, Nat.le_of_ble_eq_true rfl, Nat.le_of_ble_eq_true rfl⟩ (c_Pr_append g.2.1 kA_94 e12) kA_14 rfl ⟨by decide, by decide⟩ rfl rfl c1s_0 ?_
        refine J_aload_n o dX10_enter_64 rfl ?_
        refine J_getF (true, 14) o g dX10_enter_65 flX10_39 kA_1 rfl rfl rfl ?_
        obtain ⟨v16, e15, hf⟩ := bnd_some hf
        refine J_vI o g kr dX10_enter_68 lkX10_225 ml_Pr_stratify vl_Pr_stratify ⟨rfl, rfl, Nat.le_of_ble_eq_true rfl, Nat.le_of_ble_eq_true rfl⟩ (c_Pr_stratify g.2.1  e15) kA_14 rfl ⟨by decide, by decide⟩ rfl rfl c1s_0 (fun q17 => ?_)
        refine J_if_eq 83 o dX10_enter_71 (by decide) q17 (fun c18 => ?_) (fun c19 => ?_)
        · have hf := ite_t c18 hf
          exact t_Dm_enter_83 k  hf hc
        · have hf := ite_f c19 hf
          refine J_aload_n o dX10_enter_74 rfl ?_
          refine J_iconst o dX10_enter_75 ?_
          refine J_iconst o dX10_enter_76 ?_
          obtain ⟨v21, e20, hf⟩ := bnd_some hf
          refine J_vI o g kr dX10_enter_77 lkX10_143 ml_Dm_renew vl_Dm_renew ⟨rfl, rfl, Nat.le_of_ble_eq_true rfl, Nat.le_of_ble_eq_true rfl⟩ (c_Dm_renew g.2.1 rl0 rl3 e20) kA_1 rfl ⟨by decide, by decide⟩ rfl rfl c1s_0 (fun q22 => ?_)
          refine J_if_ne 100 o dX10_enter_80 (by decide) q22 (fun c23 => ?_) (fun c24 => ?_)
          · have hf := ite_f c23 hf
            refine J_aload_n o dX10_enter_100 rfl ?_
            refine J_getF (true, 94) o g dX10_enter_101 flX10_43 kA_1 rfl rfl rfl ?_
            obtain ⟨v26, e25, hf⟩ := bnd_some hf
            refine J_vV o g kr dX10_enter_104 lkX10_205 ml_Bo_empty vl_Bo_empty ⟨rfl, rfl, Nat.le_of_ble_eq_true rfl, Nat.le_of_ble_eq_true rfl⟩ (c_Bo_empty g.2.1 kA_94 e25) kA_94 rfl ⟨by decide, by decide⟩ rfl rfl c1s_0 ?_
            refine J_aload_n o dX10_enter_107 rfl ?_
            refine J_getF (true, 14) o g dX10_enter_108 flX10_39 kA_1 rfl rfl rfl ?_
            refine J_getI o g dX10_enter_111 flX10_217 kA_14 rfl (fun q28 => ?_)
            refine J_iconst o dX10_enter_114 ?_
            refine J_isub o dX10_enter_115 ?_
            have hf := some_inj hf
            subst hf
            exact (show RetXI TA E K H0 cX10_enter _ from hc).1 rfl _ _ (R_wr _) dX10_enter_116
          · have hf := ite_t c24 hf
            exact t_Dm_enter_83 k  hf hc
      · have hf := ite_f c11 hf
        have hf := some_inj hf
        subst hf
        exact (show RetXI TA E K H0 cX10_enter _ from hc).2 (show (3 : Nat) ≠ 0 by decide) _ _ _ c1s_0 ⟨Or.inr (Or.inr rfl), dX10_enter_43, dX10_enter_46, 220, "no more rules", xs_220, Or.inl ⟨dX10_enter_47, dX10_enter_49, dX10_enter_52⟩⟩
    · have hf := ite_t c8 hf
      have hf := some_inj hf
      subst hf
      exact (show RetXI TA E K H0 cX10_enter _ from hc).2 (show (2 : Nat) ≠ 0 by decide) _ _ _ c1s_0 ⟨Or.inr (Or.inl rfl), dX10_enter_21, dX10_enter_24, 215, "no head, or not safe", xs_215, Or.inl ⟨dX10_enter_25, dX10_enter_27, dX10_enter_30⟩⟩
theorem c_Dm_enter {E : EE} {l : Launch} (hst : l.stackTraces = false) (hI : Inj TA E) {w : World}  {out : (World × Nat × Int)} (hf : f_Dm_enter w = some out) : ConXI TA E l yX10_enter (WS yX10_enter cX10_enter 1 (some .int)) rm_Dm_enter [rf E.ad 1] w out :=
  con_XI (by decide +kernel) rfl rfl (Nat.le_of_ble_eq_true rfl) (c1s_r c1s_0 (Nat.le_of_ble_eq_true rfl)).1 ⟨rfl, rfl, Nat.le_of_ble_eq_true rfl, Nat.le_of_ble_eq_true rfl⟩ hI TnA hst (fun K H0 k hret => t_Dm_enter_0 k  hf hret)
abbrev rm_Dm_deny : Room := { frames := 7, cells := 1, slots := 6, locals := 160 }
noncomputable def f_Dm_deny (w : World) : Option (World × Nat × Int) :=
  if (w 94 0) = 0 then (some (w, 2, 0)) else (bnd (f_Bo_boundVariables w 94) fun v5 => if v5 = (-1) then (some (w, 2, 0)) else (if (w 14 5) < 6 then (bnd (f_Pr_appendDenial w 94) fun v13 => bnd (f_Bo_empty v13 94) fun v16 => some (v16, 0, wr ((v16 14 5) - 1))) else (some (w, 3, 0))))
theorem t_Dm_deny_0 {E : EE} {K : KT} {l : Launch} {H0 : Heap} (k : KofX TA E K H0 l cX10_deny RX10 rm_Dm_deny) {w : World}  {out : (World × Nat × Int)} (hf : f_Dm_deny w = some out) (hc : (fun out : (World × Nat × Int) => RetXI TA E K H0 cX10_deny out) out) : Jj K (WdT TA E H0) w 0 [some (rf E.ad 1)] [] := by
  unfold f_Dm_deny at hf
  have o := k.1
  have g := k.2.1
  have kr := k.2.2.1
  have gx := k.2.2.2.2
  refine J_aload_n o dX10_deny_0 rfl ?_
  refine J_getF (true, 94) o g dX10_deny_1 flX10_43 kA_1 rfl rfl rfl ?_
  refine J_getI o g dX10_deny_4 flX10_187 kA_94 rfl (fun q1 => ?_)
  refine J_if_eq 21 o dX10_deny_7 (by decide) q1 (fun c2 => ?_) (fun c3 => ?_)
  · have hf := ite_t c2 hf
    have hf := some_inj hf
    subst hf
    exact (show RetXI TA E K H0 cX10_deny _ from hc).2 (show (2 : Nat) ≠ 0 by decide) _ _ _ c1s_0 ⟨Or.inr (Or.inl rfl), dX10_deny_21, dX10_deny_24, 234, "no literals, or not safe", xs_234, Or.inl ⟨dX10_deny_25, dX10_deny_27, dX10_deny_30⟩⟩
  · have hf := ite_f c3 hf
    refine J_aload_n o dX10_deny_10 rfl ?_
    refine J_getF (true, 94) o g dX10_deny_11 flX10_43 kA_1 rfl rfl rfl ?_
    obtain ⟨v5, e4, hf⟩ := bnd_some hf
    refine J_vI o g kr dX10_deny_14 lkX10_231 ml_Bo_boundVariables vl_Bo_boundVariables ⟨rfl, rfl, Nat.le_of_ble_eq_true rfl, Nat.le_of_ble_eq_true rfl⟩ (c_Bo_boundVariables g.2.1 kA_94 e4) kA_94 rfl ⟨by decide, by decide⟩ rfl rfl c1s_0 (fun q6 => ?_)
    refine J_iconst o dX10_deny_17 ?_
    refine J_icmp_ne 31 o dX10_deny_18 (by decide) q6 rlm1 (fun c7 => ?_) (fun c8 => ?_)
    · have hf := ite_f c7 hf
      refine J_aload_n o dX10_deny_31 rfl ?_
      refine J_getF (true, 14) o g dX10_deny_32 flX10_39 kA_1 rfl rfl rfl ?_
      refine J_getI o g dX10_deny_35 flX10_236 kA_14 rfl (fun q9 => ?_)
      refine J_bipush o dX10_deny_38 (by decide) ?_
      refine J_icmp_lt 53 o dX10_deny_40 (by decide) q9 rl6 (fun c10 => ?_) (fun c11 => ?_)
      · have hf := ite_t c10 hf
        refine J_aload_n o dX10_deny_53 rfl ?_
        refine J_getF (true, 14) o g dX10_deny_54 flX10_39 kA_1 rfl rfl rfl ?_
        refine J_aload_n o dX10_deny_57 rfl ?_
        refine J_getF (true, 94) o g dX10_deny_58 flX10_43 kA_1 rfl rfl rfl ?_
        obtain ⟨v13, e12, hf⟩ := bnd_some hf
        refine J_vV o g kr dX10_deny_61 lkX10_241 ml_Pr_appendDenial vl_Pr_appendDenial ⟨rfl, rfl, Nat.le_of_ble_eq_true rfl, Nat.le_of_ble_eq_true rfl⟩ (c_Pr_appendDenial g.2.1 kA_94 e12) kA_14 rfl ⟨by decide, by decide⟩ rfl rfl c1s_0 ?_
        refine J_aload_n o dX10_deny_64 rfl ?_
        refine J_getF (true, 94) o g dX10_deny_65 flX10_43 kA_1 rfl rfl rfl ?_
        obtain ⟨v16, e15, hf⟩ := bnd_some hf
        refine J_vV o g kr dX10_deny_68 lkX10_205 ml_Bo_empty vl_Bo_empty ⟨rfl, rfl, Nat.le_of_ble_eq_true rfl, Nat.le_of_ble_eq_true rfl⟩ (c_Bo_empty g.2.1 kA_94 e15) kA_94 rfl ⟨by decide, by decide⟩ rfl rfl c1s_0 ?_
        refine J_aload_n o dX10_deny_71 rfl ?_
        refine J_getF (true, 14) o g dX10_deny_72 flX10_39 kA_1 rfl rfl rfl ?_
        refine J_getI o g dX10_deny_75 flX10_236 kA_14 rfl (fun q18 => ?_)
        refine J_iconst o dX10_deny_78 ?_
        refine J_isub o dX10_deny_79 ?_
        have hf := some_inj hf
        subst hf
        exact (show RetXI TA E K H0 cX10_deny _ from hc).1 rfl _ _ (R_wr _) dX10_deny_80
      · have hf := ite_f c11 hf
        have hf := some_inj hf
        subst hf
        exact (show RetXI TA E K H0 cX10_deny _ from hc).2 (show (3 : Nat) ≠ 0 by decide) _ _ _ c1s_0 ⟨Or.inr (Or.inr rfl), dX10_deny_43, dX10_deny_46, 239, "no more denials", xs_239, Or.inl ⟨dX10_deny_47, dX10_deny_49, dX10_deny_52⟩⟩
    · have hf := ite_t c8 hf
      have hf := some_inj hf
      subst hf
      exact (show RetXI TA E K H0 cX10_deny _ from hc).2 (show (2 : Nat) ≠ 0 by decide) _ _ _ c1s_0 ⟨Or.inr (Or.inl rfl), dX10_deny_21, dX10_deny_24, 234, "no literals, or not safe", xs_234, Or.inl ⟨dX10_deny_25, dX10_deny_27, dX10_deny_30⟩⟩
theorem c_Dm_deny {E : EE} {l : Launch} (hst : l.stackTraces = false) (hI : Inj TA E) {w : World}  {out : (World × Nat × Int)} (hf : f_Dm_deny w = some out) : ConXI TA E l yX10_deny (WS yX10_deny cX10_deny 1 (some .int)) rm_Dm_deny [rf E.ad 1] w out :=
  con_XI (by decide +kernel) rfl rfl (Nat.le_of_ble_eq_true rfl) (c1s_r c1s_0 (Nat.le_of_ble_eq_true rfl)).1 ⟨rfl, rfl, Nat.le_of_ble_eq_true rfl, Nat.le_of_ble_eq_true rfl⟩ hI TnA hst (fun K H0 k hret => t_Dm_deny_0 k  hf hret)
abbrev rm_Dm_remove : Room := { frames := 8, cells := 1, slots := 6, locals := 206 }
noncomputable def f_Dm_remove_72 (w : World) (t2 : Nat) : Option (World × Nat × Int) :=
  bl (up w t2 2 0) fun w1 => bnd (f_Pr_stratify w1 ) fun v3 => some (v3.1, 3, 0)
theorem t_Dm_remove_72 {E : EE} {K : KT} {l : Launch} {H0 : Heap} (k : KofX TA E K H0 l cX10_remove RX10 rm_Dm_remove) {w : World} {t2 : Nat} {o1 : Option Value} (k_t2 : TA.kd t2 = 1) {out : (World × Nat × Int)} (hf : f_Dm_remove_72 w t2 = some out) (hc : (fun out : (World × Nat × Int) => RetXI TA E K H0 cX10_remove out) out) : Jj K (WdT TA E H0) w 72 [some (rf E.ad 1), o1, some (rf E.ad t2)] [] := by
  unfold f_Dm_remove_72 at hf
  have o := k.1
  have g := k.2.1
  have kr := k.2.2.1
  have gx := k.2.2.2.2
  refine J_aload_n o dX10_remove_72 rfl ?_
  refine J_iconst o dX10_remove_73 ?_
  refine J_putZ o g dX10_remove_74 fpX10_253 k_t2 rfl rfl (Or.inl rfl) ?_
  have hf := bl_out hf
  refine J_aload_n o dX10_remove_77 rfl ?_
  refine J_getF (true, 14) o g dX10_remove_78 flX10_39 kA_1 rfl rfl rfl ?_
  obtain ⟨v3, e2, hf⟩ := bnd_some hf
  refine J_vI o g kr dX10_remove_81 lkX10_225 ml_Pr_stratify vl_Pr_stratify ⟨rfl, rfl, Nat.le_of_ble_eq_true rfl, Nat.le_of_ble_eq_true rfl⟩ (c_Pr_stratify g.2.1  e2) kA_14 rfl ⟨by decide, by decide⟩ rfl rfl c1s_0 (fun q4 => ?_)
  refine J_pop o dX10_remove_84 rfl ?_
  have hf := some_inj hf
  subst hf
  exact (show RetXI TA E K H0 cX10_remove _ from hc).2 (show (3 : Nat) ≠ 0 by decide) _ _ _ c1s_0 ⟨Or.inr (Or.inr rfl), dX10_remove_85, dX10_remove_88, 150, "too many tuples", xs_150, Or.inl ⟨dX10_remove_89, dX10_remove_91, dX10_remove_94⟩⟩
noncomputable def f_Dm_remove (w : World) (x1 : Int) : Option (World × Nat × Int) :=
  bnd (f_Pr_hasRule w x1) fun v2 => if v2 = 0 then (some (w, 1, 0)) else (bnd (f_Pr_rule w x1) fun v7 => gd (kdA v7 = 1) (if (w v7 2) = 0 then (bl (up w v7 2 1) fun w13 => bnd (f_Pr_stratify w13 ) fun v15 => if v15.2 = 0 then (f_Dm_remove_72 v15.1 v7) else (bnd (f_Dm_renew v15.1 0 3) fun v20 => if v20.2 = 0 then (f_Dm_remove_72 v20.1 v7) else (bnd (f_Pr_rulesLeft v20.1 ) fun v25 => some (v20.1, 0, v25)))) else (some (w, 3, 0))))
theorem t_Dm_remove_0 {E : EE} {K : KT} {l : Launch} {H0 : Heap} (k : KofX TA E K H0 l cX10_remove RX10 rm_Dm_remove) {w : World} {x1 : Int} {o2 : Option Value} (r_x1 : R32 x1) {out : (World × Nat × Int)} (hf : f_Dm_remove w x1 = some out) (hc : (fun out : (World × Nat × Int) => RetXI TA E K H0 cX10_remove out) out) : Jj K (WdT TA E H0) w 0 [some (rf E.ad 1), some (.int (ii x1)), o2] [] := by
  unfold f_Dm_remove at hf
  have o := k.1
  have g := k.2.1
  have kr := k.2.2.1
  have gx := k.2.2.2.2
  refine J_aload_n o dX10_remove_0 rfl ?_
  refine J_getF (true, 14) o g dX10_remove_1 flX10_39 kA_1 rfl rfl rfl ?_
  refine J_iload_n o dX10_remove_4 rfl ?_
  obtain ⟨v2, e1, hf⟩ := bnd_some hf
  refine J_vI o g kr dX10_remove_5 lkX10_244 ml_Pr_hasRule vl_Pr_hasRule ⟨rfl, rfl, Nat.le_of_ble_eq_true rfl, Nat.le_of_ble_eq_true rfl⟩ (c_Pr_hasRule g.2.1 r_x1 e1) kA_14 rfl ⟨by decide, by decide⟩ rfl rfl c1s_0 (fun q3 => ?_)
  refine J_if_ne 21 o dX10_remove_8 (by decide) q3 (fun c4 => ?_) (fun c5 => ?_)
  · have hf := ite_f c4 hf
    refine J_aload_n o dX10_remove_21 rfl ?_
    refine J_getF (true, 14) o g dX10_remove_22 flX10_39 kA_1 rfl rfl rfl ?_
    refine J_iload_n o dX10_remove_25 rfl ?_
    obtain ⟨v7, e6, hf⟩ := bnd_some hf
    refine J_vR o g kr dX10_remove_26 lkX10_249 ml_Pr_rule vl_Pr_rule ⟨rfl, rfl, Nat.le_of_ble_eq_true rfl, Nat.le_of_ble_eq_true rfl⟩ (c_Pr_rule g.2.1 r_x1 e6) kA_14 rfl ⟨by decide, by decide⟩ rfl rfl c1s_0 ?_
    refine J_astore_n o dX10_remove_29 (Nat.le_of_ble_eq_true rfl) ?_
    refine J_aload_n o dX10_remove_30 rfl ?_
    obtain ⟨g9, hf⟩ := gd_some hf
    refine J_getI o g dX10_remove_31 flX10_253 g9 rfl (fun q10 => ?_)
    refine J_if_eq 48 o dX10_remove_34 (by decide) q10 (fun c11 => ?_) (fun c12 => ?_)
    · have hf := ite_t c11 hf
      refine J_aload_n o dX10_remove_48 rfl ?_
      refine J_iconst o dX10_remove_49 ?_
      refine J_putZ o g dX10_remove_50 fpX10_253 g9 rfl rfl (Or.inr rfl) ?_
      have hf := bl_out hf
      refine J_aload_n o dX10_remove_53 rfl ?_
      refine J_getF (true, 14) o g dX10_remove_54 flX10_39 kA_1 rfl rfl rfl ?_
      obtain ⟨v15, e14, hf⟩ := bnd_some hf
      refine J_vI o g kr dX10_remove_57 lkX10_225 ml_Pr_stratify vl_Pr_stratify ⟨rfl, rfl, Nat.le_of_ble_eq_true rfl, Nat.le_of_ble_eq_true rfl⟩ (c_Pr_stratify g.2.1  e14) kA_14 rfl ⟨by decide, by decide⟩ rfl rfl c1s_0 (fun q16 => ?_)
      refine J_if_eq 72 o dX10_remove_60 (by decide) q16 (fun c17 => ?_) (fun c18 => ?_)
      · have hf := ite_t c17 hf
        exact t_Dm_remove_72 k g9 hf hc
      · have hf := ite_f c18 hf
        refine J_aload_n o dX10_remove_63 rfl ?_
        refine J_iconst o dX10_remove_64 ?_
        refine J_iconst o dX10_remove_65 ?_
        obtain ⟨v20, e19, hf⟩ := bnd_some hf
        refine J_vI o g kr dX10_remove_66 lkX10_143 ml_Dm_renew vl_Dm_renew ⟨rfl, rfl, Nat.le_of_ble_eq_true rfl, Nat.le_of_ble_eq_true rfl⟩ (c_Dm_renew g.2.1 rl0 rl3 e19) kA_1 rfl ⟨by decide, by decide⟩ rfl rfl c1s_0 (fun q21 => ?_)
        refine J_if_ne 95 o dX10_remove_69 (by decide) q21 (fun c22 => ?_) (fun c23 => ?_)
        · have hf := ite_f c22 hf
          refine J_aload_n o dX10_remove_95 rfl ?_
          refine J_getF (true, 14) o g dX10_remove_96 flX10_39 kA_1 rfl rfl rfl ?_
          obtain ⟨v25, e24, hf⟩ := bnd_some hf
          refine J_vI o g kr dX10_remove_99 lkX10_258 ml_Pr_rulesLeft vl_Pr_rulesLeft ⟨rfl, rfl, Nat.le_of_ble_eq_true rfl, Nat.le_of_ble_eq_true rfl⟩ (c_Pr_rulesLeft g.2.1  e24) kA_14 rfl ⟨by decide, by decide⟩ rfl rfl c1s_0 (fun q26 => ?_)
          have hf := some_inj hf
          subst hf
          exact (show RetXI TA E K H0 cX10_remove _ from hc).1 rfl _ _ q26 dX10_remove_102
        · have hf := ite_t c23 hf
          exact t_Dm_remove_72 k g9 hf hc
    · have hf := ite_f c12 hf
      have hf := some_inj hf
      subst hf
      exact (show RetXI TA E K H0 cX10_remove _ from hc).2 (show (3 : Nat) ≠ 0 by decide) _ _ _ c1s_0 ⟨Or.inr (Or.inr rfl), dX10_remove_37, dX10_remove_40, 256, "removed already", xs_256, Or.inr ⟨dX10_remove_41, dX10_remove_44, dX10_remove_47⟩⟩
  · have hf := ite_t c5 hf
    have hf := some_inj hf
    subst hf
    exact (show RetXI TA E K H0 cX10_remove _ from hc).2 (show (1 : Nat) ≠ 0 by decide) _ _ _ c1s_0 ⟨Or.inl rfl, dX10_remove_11, dX10_remove_14, 247, "no such rule", xs_247, Or.inl ⟨dX10_remove_15, dX10_remove_17, dX10_remove_20⟩⟩
theorem c_Dm_remove {E : EE} {l : Launch} (hst : l.stackTraces = false) (hI : Inj TA E) {w : World} {x1 : Int} (r_x1 : R32 x1) {out : (World × Nat × Int)} (hf : f_Dm_remove w x1 = some out) : ConXI TA E l yX10_remove (WS yX10_remove cX10_remove 3 (some .int)) rm_Dm_remove [rf E.ad 1, .int (ii x1)] w out :=
  con_XI (by decide +kernel) rfl rfl (Nat.le_of_ble_eq_true rfl) (c1s_r (c1s_i c1s_0 (Nat.le_of_ble_eq_true rfl)) (Nat.le_of_ble_eq_true rfl)).1 ⟨rfl, rfl, Nat.le_of_ble_eq_true rfl, Nat.le_of_ble_eq_true rfl⟩ hI TnA hst (fun K H0 k hret => t_Dm_remove_0 k r_x1 hf hret)
abbrev rm_Dm_holds : Room := { frames := 6, cells := 1, slots := 6, locals := 119 }
noncomputable def f_Dm_holds (w : World) (x1 : Int) (x2 : Int) (x3 : Int) (x4 : Int) : Option (World × Nat × Int) :=
  bnd (f_Sc_isDeclared w x1) fun v2 => if v2 = 0 then (some (w, 1, 0)) else (bnd (f_Dm_present w ) fun v7 => gd (kdA v7 = 6) (bnd (f_Dm_isIn w v7 x1 x2 x3 x4) fun v11 => gd (v11 = 0 ∨ v11 = 1) (some (w, 0, v11))))
theorem t_Dm_holds_0 {E : EE} {K : KT} {l : Launch} {H0 : Heap} (k : KofX TA E K H0 l cX10_holds RX10 rm_Dm_holds) {w : World} {x1 : Int} {x2 : Int} {x3 : Int} {x4 : Int} (r_x1 : R32 x1) (r_x2 : R32 x2) (r_x3 : R32 x3) (r_x4 : R32 x4) {out : (World × Nat × Int)} (hf : f_Dm_holds w x1 x2 x3 x4 = some out) (hc : (fun out : (World × Nat × Int) => RetXZ TA E K H0 cX10_holds out) out) : Jj K (WdT TA E H0) w 0 [some (rf E.ad 1), some (.int (ii x1)), some (.int (ii x2)), some (.int (ii x3)), some (.int (ii x4))] [] := by
  unfold f_Dm_holds at hf
  have o := k.1
  have g := k.2.1
  have kr := k.2.2.1
  have gx := k.2.2.2.2
  refine J_aload_n o dX10_holds_0 rfl ?_
  refine J_getF (true, 2) o g dX10_holds_1 flX10_31 kA_1 rfl rfl rfl ?_
  refine J_iload_n o dX10_holds_4 rfl ?_
  obtain ⟨v2, e1, hf⟩ := bnd_some hf
  refine J_vI o g kr dX10_holds_5 lkX10_108 ml_Sc_isDeclared vl_Sc_isDeclared ⟨rfl, rfl, Nat.le_of_ble_eq_true rfl, Nat.le_of_ble_eq_true rfl⟩ (c_Sc_isDeclared g.2.1 r_x1 e1) kA_2 rfl ⟨by decide, by decide⟩ rfl rfl c1s_0 (fun q3 => ?_)
  refine J_if_ne 21 o dX10_holds_8 (by decide) q3 (fun c4 => ?_) (fun c5 => ?_)
  · have hf := ite_f c4 hf
    refine J_aload_n o dX10_holds_21 rfl ?_
    refine J_aload_n o dX10_holds_22 rfl ?_
    obtain ⟨v7, e6, hf⟩ := bnd_some hf
    refine J_vR o g kr dX10_holds_23 lkX10_261 ml_Dm_present vl_Dm_present ⟨rfl, rfl, Nat.le_of_ble_eq_true rfl, Nat.le_of_ble_eq_true rfl⟩ (c_Dm_present g.2.1  e6) kA_1 rfl ⟨by decide, by decide⟩ rfl rfl (c1s_r c1s_0 (Nat.le_of_ble_eq_true rfl)) ?_
    refine J_iload_n o dX10_holds_26 rfl ?_
    refine J_iload_n o dX10_holds_27 rfl ?_
    refine J_iload_n o dX10_holds_28 rfl ?_
    refine J_iload o dX10_holds_29 rfl ?_
    obtain ⟨g9, hf⟩ := gd_some hf
    obtain ⟨v11, e10, hf⟩ := bnd_some hf
    refine J_vI o g kr dX10_holds_31 lkX10_265 ml_Dm_isIn vl_Dm_isIn ⟨rfl, rfl, Nat.le_of_ble_eq_true rfl, Nat.le_of_ble_eq_true rfl⟩ (c_Dm_isIn g.2.1 g9 r_x1 r_x2 r_x3 r_x4 e10) kA_1 rfl ⟨by decide, by decide⟩ rfl rfl c1s_0 (fun q12 => ?_)
    obtain ⟨g13, hf⟩ := gd_some hf
    have hf := some_inj hf
    subst hf
    exact (show RetXZ TA E K H0 cX10_holds _ from hc).1 rfl _ _ g13 dX10_holds_34
  · have hf := ite_t c5 hf
    have hf := some_inj hf
    subst hf
    exact (show RetXZ TA E K H0 cX10_holds _ from hc).2 (show (1 : Nat) ≠ 0 by decide) _ _ _ c1s_0 ⟨Or.inl rfl, dX10_holds_11, dX10_holds_14, 121, "no such relation", xs_121, Or.inl ⟨dX10_holds_15, dX10_holds_17, dX10_holds_20⟩⟩
theorem c_Dm_holds {E : EE} {l : Launch} (hst : l.stackTraces = false) (hI : Inj TA E) {w : World} {x1 : Int} {x2 : Int} {x3 : Int} {x4 : Int} (r_x1 : R32 x1) (r_x2 : R32 x2) (r_x3 : R32 x3) (r_x4 : R32 x4) {out : (World × Nat × Int)} (hf : f_Dm_holds w x1 x2 x3 x4 = some out) : ConXI TA E l yX10_holds (WS yX10_holds cX10_holds 5 (some .boolean)) rm_Dm_holds [rf E.ad 1, .int (ii x1), .int (ii x2), .int (ii x3), .int (ii x4)] w out :=
  con_XZ (by decide +kernel) rfl rfl (Nat.le_of_ble_eq_true rfl) (c1s_r (c1s_i (c1s_i (c1s_i (c1s_i c1s_0 (Nat.le_of_ble_eq_true rfl)) (Nat.le_of_ble_eq_true rfl)) (Nat.le_of_ble_eq_true rfl)) (Nat.le_of_ble_eq_true rfl)) (Nat.le_of_ble_eq_true rfl)).1 ⟨rfl, rfl, Nat.le_of_ble_eq_true rfl, Nat.le_of_ble_eq_true rfl⟩ hI TnA hst (fun K H0 k hret => t_Dm_holds_0 k r_x1 r_x2 r_x3 r_x4 hf hret)
abbrev rm_Dm_holdsAt : Room := { frames := 6, cells := 1, slots := 6, locals := 119 }
noncomputable def f_Dm_holdsAt (w : World) (x1 : Int) (x2 : Int) (x3 : Int) (x4 : Int) (x5 : Int) : Option (World × Nat × Int) :=
  bnd (f_Sc_isDeclared w x1) fun v2 => if v2 = 0 then (some (w, 1, 0)) else (if x5 < 0 then (some (w, 2, 0)) else (if x5 < 4 then (bnd (f_Dm_modelOf w x5) fun v11 => gd (kdA v11 = 6) (bnd (f_Dm_isIn w v11 x1 x2 x3 x4) fun v15 => gd (v15 = 0 ∨ v15 = 1) (some (w, 0, v15)))) else (some (w, 2, 0))))
theorem t_Dm_holdsAt_0 {E : EE} {K : KT} {l : Launch} {H0 : Heap} (k : KofX TA E K H0 l cX10_holdsAt RX10 rm_Dm_holdsAt) {w : World} {x1 : Int} {x2 : Int} {x3 : Int} {x4 : Int} {x5 : Int} (r_x1 : R32 x1) (r_x2 : R32 x2) (r_x3 : R32 x3) (r_x4 : R32 x4) (r_x5 : R32 x5) {out : (World × Nat × Int)} (hf : f_Dm_holdsAt w x1 x2 x3 x4 x5 = some out) (hc : (fun out : (World × Nat × Int) => RetXZ TA E K H0 cX10_holdsAt out) out) : Jj K (WdT TA E H0) w 0 [some (rf E.ad 1), some (.int (ii x1)), some (.int (ii x2)), some (.int (ii x3)), some (.int (ii x4)), some (.int (ii x5))] [] := by
  unfold f_Dm_holdsAt at hf
  have o := k.1
  have g := k.2.1
  have kr := k.2.2.1
  have gx := k.2.2.2.2
  refine J_aload_n o dX10_holdsAt_0 rfl ?_
  refine J_getF (true, 2) o g dX10_holdsAt_1 flX10_31 kA_1 rfl rfl rfl ?_
  refine J_iload_n o dX10_holdsAt_4 rfl ?_
  obtain ⟨v2, e1, hf⟩ := bnd_some hf
  refine J_vI o g kr dX10_holdsAt_5 lkX10_108 ml_Sc_isDeclared vl_Sc_isDeclared ⟨rfl, rfl, Nat.le_of_ble_eq_true rfl, Nat.le_of_ble_eq_true rfl⟩ (c_Sc_isDeclared g.2.1 r_x1 e1) kA_2 rfl ⟨by decide, by decide⟩ rfl rfl c1s_0 (fun q3 => ?_)
  refine J_if_ne 21 o dX10_holdsAt_8 (by decide) q3 (fun c4 => ?_) (fun c5 => ?_)
  · have hf := ite_f c4 hf
    refine J_iload o dX10_holdsAt_21 rfl ?_
    refine J_if_lt 32 o dX10_holdsAt_23 (by decide) r_x5 (fun c6 => ?_) (fun c7 => ?_)
    · have hf := ite_t c6 hf
      have hf := some_inj hf
      subst hf
      exact (show RetXZ TA E K H0 cX10_holdsAt _ from hc).2 (show (2 : Nat) ≠ 0 by decide) _ _ _ c1s_0 ⟨Or.inr (Or.inl rfl), dX10_holdsAt_32, dX10_holdsAt_35, 269, "no such hour", xs_269, Or.inr ⟨dX10_holdsAt_36, dX10_holdsAt_39, dX10_holdsAt_42⟩⟩
    · have hf := ite_f c7 hf
      refine J_iload o dX10_holdsAt_26 rfl ?_
      refine J_iconst o dX10_holdsAt_28 ?_
      refine J_icmp_lt 43 o dX10_holdsAt_29 (by decide) r_x5 rl4 (fun c8 => ?_) (fun c9 => ?_)
      · have hf := ite_t c8 hf
        refine J_aload_n o dX10_holdsAt_43 rfl ?_
        refine J_aload_n o dX10_holdsAt_44 rfl ?_
        refine J_iload o dX10_holdsAt_45 rfl ?_
        obtain ⟨v11, e10, hf⟩ := bnd_some hf
        refine J_vR o g kr dX10_holdsAt_47 lkX10_271 ml_Dm_modelOf vl_Dm_modelOf ⟨rfl, rfl, Nat.le_of_ble_eq_true rfl, Nat.le_of_ble_eq_true rfl⟩ (c_Dm_modelOf g.2.1 r_x5 e10) kA_1 rfl ⟨by decide, by decide⟩ rfl rfl (c1s_r c1s_0 (Nat.le_of_ble_eq_true rfl)) ?_
        refine J_iload_n o dX10_holdsAt_50 rfl ?_
        refine J_iload_n o dX10_holdsAt_51 rfl ?_
        refine J_iload_n o dX10_holdsAt_52 rfl ?_
        refine J_iload o dX10_holdsAt_53 rfl ?_
        obtain ⟨g13, hf⟩ := gd_some hf
        obtain ⟨v15, e14, hf⟩ := bnd_some hf
        refine J_vI o g kr dX10_holdsAt_55 lkX10_265 ml_Dm_isIn vl_Dm_isIn ⟨rfl, rfl, Nat.le_of_ble_eq_true rfl, Nat.le_of_ble_eq_true rfl⟩ (c_Dm_isIn g.2.1 g13 r_x1 r_x2 r_x3 r_x4 e14) kA_1 rfl ⟨by decide, by decide⟩ rfl rfl c1s_0 (fun q16 => ?_)
        obtain ⟨g17, hf⟩ := gd_some hf
        have hf := some_inj hf
        subst hf
        exact (show RetXZ TA E K H0 cX10_holdsAt _ from hc).1 rfl _ _ g17 dX10_holdsAt_58
      · have hf := ite_f c9 hf
        have hf := some_inj hf
        subst hf
        exact (show RetXZ TA E K H0 cX10_holdsAt _ from hc).2 (show (2 : Nat) ≠ 0 by decide) _ _ _ c1s_0 ⟨Or.inr (Or.inl rfl), dX10_holdsAt_32, dX10_holdsAt_35, 269, "no such hour", xs_269, Or.inr ⟨dX10_holdsAt_36, dX10_holdsAt_39, dX10_holdsAt_42⟩⟩
  · have hf := ite_t c5 hf
    have hf := some_inj hf
    subst hf
    exact (show RetXZ TA E K H0 cX10_holdsAt _ from hc).2 (show (1 : Nat) ≠ 0 by decide) _ _ _ c1s_0 ⟨Or.inl rfl, dX10_holdsAt_11, dX10_holdsAt_14, 121, "no such relation", xs_121, Or.inl ⟨dX10_holdsAt_15, dX10_holdsAt_17, dX10_holdsAt_20⟩⟩
theorem c_Dm_holdsAt {E : EE} {l : Launch} (hst : l.stackTraces = false) (hI : Inj TA E) {w : World} {x1 : Int} {x2 : Int} {x3 : Int} {x4 : Int} {x5 : Int} (r_x1 : R32 x1) (r_x2 : R32 x2) (r_x3 : R32 x3) (r_x4 : R32 x4) (r_x5 : R32 x5) {out : (World × Nat × Int)} (hf : f_Dm_holdsAt w x1 x2 x3 x4 x5 = some out) : ConXI TA E l yX10_holdsAt (WS yX10_holdsAt cX10_holdsAt 6 (some .boolean)) rm_Dm_holdsAt [rf E.ad 1, .int (ii x1), .int (ii x2), .int (ii x3), .int (ii x4), .int (ii x5)] w out :=
  con_XZ (by decide +kernel) rfl rfl (Nat.le_of_ble_eq_true rfl) (c1s_r (c1s_i (c1s_i (c1s_i (c1s_i (c1s_i c1s_0 (Nat.le_of_ble_eq_true rfl)) (Nat.le_of_ble_eq_true rfl)) (Nat.le_of_ble_eq_true rfl)) (Nat.le_of_ble_eq_true rfl)) (Nat.le_of_ble_eq_true rfl)) (Nat.le_of_ble_eq_true rfl)).1 ⟨rfl, rfl, Nat.le_of_ble_eq_true rfl, Nat.le_of_ble_eq_true rfl⟩ hI TnA hst (fun K H0 k hret => t_Dm_holdsAt_0 k r_x1 r_x2 r_x3 r_x4 r_x5 hf hret)
abbrev rm_Dm_holdsAnew : Room := { frames := 7, cells := 1, slots := 6, locals := 182 }
noncomputable def f_Dm_holdsAnew (w : World) (x1 : Int) (x2 : Int) (x3 : Int) (x4 : Int) (x5 : Int) : Option (World × Nat × Int) :=
  bnd (f_Sc_isDeclared w x1) fun v2 => if v2 = 0 then (some (w, 1, 0)) else (if x5 < 0 then (some (w, 2, 0)) else (if x5 < 4 then (bnd (f_Mi_build w 98 x5 0 1) fun v11 => bnd (f_Dm_isIn v11 98 x1 x2 x3 x4) fun v14 => gd (v14 = 0 ∨ v14 = 1) (some (v11, 0, v14))) else (some (w, 2, 0))))
theorem t_Dm_holdsAnew_0 {E : EE} {K : KT} {l : Launch} {H0 : Heap} (k : KofX TA E K H0 l cX10_holdsAnew RX10 rm_Dm_holdsAnew) {w : World} {x1 : Int} {x2 : Int} {x3 : Int} {x4 : Int} {x5 : Int} (r_x1 : R32 x1) (r_x2 : R32 x2) (r_x3 : R32 x3) (r_x4 : R32 x4) (r_x5 : R32 x5) {out : (World × Nat × Int)} (hf : f_Dm_holdsAnew w x1 x2 x3 x4 x5 = some out) (hc : (fun out : (World × Nat × Int) => RetXZ TA E K H0 cX10_holdsAnew out) out) : Jj K (WdT TA E H0) w 0 [some (rf E.ad 1), some (.int (ii x1)), some (.int (ii x2)), some (.int (ii x3)), some (.int (ii x4)), some (.int (ii x5))] [] := by
  unfold f_Dm_holdsAnew at hf
  have o := k.1
  have g := k.2.1
  have kr := k.2.2.1
  have gx := k.2.2.2.2
  refine J_aload_n o dX10_holdsAnew_0 rfl ?_
  refine J_getF (true, 2) o g dX10_holdsAnew_1 flX10_31 kA_1 rfl rfl rfl ?_
  refine J_iload_n o dX10_holdsAnew_4 rfl ?_
  obtain ⟨v2, e1, hf⟩ := bnd_some hf
  refine J_vI o g kr dX10_holdsAnew_5 lkX10_108 ml_Sc_isDeclared vl_Sc_isDeclared ⟨rfl, rfl, Nat.le_of_ble_eq_true rfl, Nat.le_of_ble_eq_true rfl⟩ (c_Sc_isDeclared g.2.1 r_x1 e1) kA_2 rfl ⟨by decide, by decide⟩ rfl rfl c1s_0 (fun q3 => ?_)
  refine J_if_ne 21 o dX10_holdsAnew_8 (by decide) q3 (fun c4 => ?_) (fun c5 => ?_)
  · have hf := ite_f c4 hf
    refine J_iload o dX10_holdsAnew_21 rfl ?_
    refine J_if_lt 32 o dX10_holdsAnew_23 (by decide) r_x5 (fun c6 => ?_) (fun c7 => ?_)
    · have hf := ite_t c6 hf
      have hf := some_inj hf
      subst hf
      exact (show RetXZ TA E K H0 cX10_holdsAnew _ from hc).2 (show (2 : Nat) ≠ 0 by decide) _ _ _ c1s_0 ⟨Or.inr (Or.inl rfl), dX10_holdsAnew_32, dX10_holdsAnew_35, 269, "no such hour", xs_269, Or.inr ⟨dX10_holdsAnew_36, dX10_holdsAnew_39, dX10_holdsAnew_42⟩⟩
    · have hf := ite_f c7 hf
      refine J_iload o dX10_holdsAnew_26 rfl ?_
      refine J_iconst o dX10_holdsAnew_28 ?_
      refine J_icmp_lt 43 o dX10_holdsAnew_29 (by decide) r_x5 rl4 (fun c8 => ?_) (fun c9 => ?_)
      · have hf := ite_t c8 hf
        refine J_aload_n o dX10_holdsAnew_43 rfl ?_
        refine J_getF (true, 107) o g dX10_holdsAnew_44 flX10_60 kA_1 rfl rfl rfl ?_
        refine J_aload_n o dX10_holdsAnew_47 rfl ?_
        refine J_getF (true, 98) o g dX10_holdsAnew_48 flX10_47 kA_1 rfl rfl rfl ?_
        refine J_iload o dX10_holdsAnew_51 rfl ?_
        refine J_iconst o dX10_holdsAnew_53 ?_
        refine J_iconst o dX10_holdsAnew_54 ?_
        obtain ⟨v11, e10, hf⟩ := bnd_some hf
        refine J_vV o g kr dX10_holdsAnew_55 lkX10_275 ml_Mi_build vl_Mi_build ⟨rfl, rfl, Nat.le_of_ble_eq_true rfl, Nat.le_of_ble_eq_true rfl⟩ (c_Mi_build g.2.1 kA_98 r_x5 rl0 rl1 e10) kA_107 rfl ⟨by decide, by decide⟩ rfl rfl c1s_0 ?_
        refine J_aload_n o dX10_holdsAnew_58 rfl ?_
        refine J_aload_n o dX10_holdsAnew_59 rfl ?_
        refine J_getF (true, 98) o g dX10_holdsAnew_60 flX10_47 kA_1 rfl rfl rfl ?_
        refine J_iload_n o dX10_holdsAnew_63 rfl ?_
        refine J_iload_n o dX10_holdsAnew_64 rfl ?_
        refine J_iload_n o dX10_holdsAnew_65 rfl ?_
        refine J_iload o dX10_holdsAnew_66 rfl ?_
        obtain ⟨v14, e13, hf⟩ := bnd_some hf
        refine J_vI o g kr dX10_holdsAnew_68 lkX10_265 ml_Dm_isIn vl_Dm_isIn ⟨rfl, rfl, Nat.le_of_ble_eq_true rfl, Nat.le_of_ble_eq_true rfl⟩ (c_Dm_isIn g.2.1 kA_98 r_x1 r_x2 r_x3 r_x4 e13) kA_1 rfl ⟨by decide, by decide⟩ rfl rfl c1s_0 (fun q15 => ?_)
        obtain ⟨g16, hf⟩ := gd_some hf
        have hf := some_inj hf
        subst hf
        exact (show RetXZ TA E K H0 cX10_holdsAnew _ from hc).1 rfl _ _ g16 dX10_holdsAnew_71
      · have hf := ite_f c9 hf
        have hf := some_inj hf
        subst hf
        exact (show RetXZ TA E K H0 cX10_holdsAnew _ from hc).2 (show (2 : Nat) ≠ 0 by decide) _ _ _ c1s_0 ⟨Or.inr (Or.inl rfl), dX10_holdsAnew_32, dX10_holdsAnew_35, 269, "no such hour", xs_269, Or.inr ⟨dX10_holdsAnew_36, dX10_holdsAnew_39, dX10_holdsAnew_42⟩⟩
  · have hf := ite_t c5 hf
    have hf := some_inj hf
    subst hf
    exact (show RetXZ TA E K H0 cX10_holdsAnew _ from hc).2 (show (1 : Nat) ≠ 0 by decide) _ _ _ c1s_0 ⟨Or.inl rfl, dX10_holdsAnew_11, dX10_holdsAnew_14, 121, "no such relation", xs_121, Or.inl ⟨dX10_holdsAnew_15, dX10_holdsAnew_17, dX10_holdsAnew_20⟩⟩
theorem c_Dm_holdsAnew {E : EE} {l : Launch} (hst : l.stackTraces = false) (hI : Inj TA E) {w : World} {x1 : Int} {x2 : Int} {x3 : Int} {x4 : Int} {x5 : Int} (r_x1 : R32 x1) (r_x2 : R32 x2) (r_x3 : R32 x3) (r_x4 : R32 x4) (r_x5 : R32 x5) {out : (World × Nat × Int)} (hf : f_Dm_holdsAnew w x1 x2 x3 x4 x5 = some out) : ConXI TA E l yX10_holdsAnew (WS yX10_holdsAnew cX10_holdsAnew 6 (some .boolean)) rm_Dm_holdsAnew [rf E.ad 1, .int (ii x1), .int (ii x2), .int (ii x3), .int (ii x4), .int (ii x5)] w out :=
  con_XZ (by decide +kernel) rfl rfl (Nat.le_of_ble_eq_true rfl) (c1s_r (c1s_i (c1s_i (c1s_i (c1s_i (c1s_i c1s_0 (Nat.le_of_ble_eq_true rfl)) (Nat.le_of_ble_eq_true rfl)) (Nat.le_of_ble_eq_true rfl)) (Nat.le_of_ble_eq_true rfl)) (Nat.le_of_ble_eq_true rfl)) (Nat.le_of_ble_eq_true rfl)).1 ⟨rfl, rfl, Nat.le_of_ble_eq_true rfl, Nat.le_of_ble_eq_true rfl⟩ hI TnA hst (fun K H0 k hret => t_Dm_holdsAnew_0 k r_x1 r_x2 r_x3 r_x4 r_x5 hf hret)
abbrev rm_Dm_size : Room := { frames := 6, cells := 1, slots := 6, locals := 100 }
noncomputable def f_Dm_size (w : World) (x1 : Int) : Option (World × Nat × Int) :=
  bnd (f_Sc_isDeclared w x1) fun v2 => if v2 = 0 then (some (w, 1, 0)) else (bnd (f_Dm_present w ) fun v7 => gd (kdA v7 = 6) (bnd (f_Mo_tuplesOf w v7 x1) fun v11 => some (w, 0, v11)))
theorem t_Dm_size_0 {E : EE} {K : KT} {l : Launch} {H0 : Heap} (k : KofX TA E K H0 l cX10_size RX10 rm_Dm_size) {w : World} {x1 : Int} (r_x1 : R32 x1) {out : (World × Nat × Int)} (hf : f_Dm_size w x1 = some out) (hc : (fun out : (World × Nat × Int) => RetXI TA E K H0 cX10_size out) out) : Jj K (WdT TA E H0) w 0 [some (rf E.ad 1), some (.int (ii x1))] [] := by
  unfold f_Dm_size at hf
  have o := k.1
  have g := k.2.1
  have kr := k.2.2.1
  have gx := k.2.2.2.2
  refine J_aload_n o dX10_size_0 rfl ?_
  refine J_getF (true, 2) o g dX10_size_1 flX10_31 kA_1 rfl rfl rfl ?_
  refine J_iload_n o dX10_size_4 rfl ?_
  obtain ⟨v2, e1, hf⟩ := bnd_some hf
  refine J_vI o g kr dX10_size_5 lkX10_108 ml_Sc_isDeclared vl_Sc_isDeclared ⟨rfl, rfl, Nat.le_of_ble_eq_true rfl, Nat.le_of_ble_eq_true rfl⟩ (c_Sc_isDeclared g.2.1 r_x1 e1) kA_2 rfl ⟨by decide, by decide⟩ rfl rfl c1s_0 (fun q3 => ?_)
  refine J_if_ne 21 o dX10_size_8 (by decide) q3 (fun c4 => ?_) (fun c5 => ?_)
  · have hf := ite_f c4 hf
    refine J_aload_n o dX10_size_21 rfl ?_
    obtain ⟨v7, e6, hf⟩ := bnd_some hf
    refine J_vR o g kr dX10_size_22 lkX10_261 ml_Dm_present vl_Dm_present ⟨rfl, rfl, Nat.le_of_ble_eq_true rfl, Nat.le_of_ble_eq_true rfl⟩ (c_Dm_present g.2.1  e6) kA_1 rfl ⟨by decide, by decide⟩ rfl rfl c1s_0 ?_
    refine J_iload_n o dX10_size_25 rfl ?_
    obtain ⟨g9, hf⟩ := gd_some hf
    obtain ⟨v11, e10, hf⟩ := bnd_some hf
    refine J_vI o g kr dX10_size_26 lkX10_279 ml_Mo_tuplesOf vl_Mo_tuplesOf ⟨rfl, rfl, Nat.le_of_ble_eq_true rfl, Nat.le_of_ble_eq_true rfl⟩ (c_Mo_tuplesOf g.2.1 g9 r_x1 e10) g9 rfl ⟨by decide, by decide⟩ rfl rfl c1s_0 (fun q12 => ?_)
    have hf := some_inj hf
    subst hf
    exact (show RetXI TA E K H0 cX10_size _ from hc).1 rfl _ _ q12 dX10_size_29
  · have hf := ite_t c5 hf
    have hf := some_inj hf
    subst hf
    exact (show RetXI TA E K H0 cX10_size _ from hc).2 (show (1 : Nat) ≠ 0 by decide) _ _ _ c1s_0 ⟨Or.inl rfl, dX10_size_11, dX10_size_14, 121, "no such relation", xs_121, Or.inl ⟨dX10_size_15, dX10_size_17, dX10_size_20⟩⟩
theorem c_Dm_size {E : EE} {l : Launch} (hst : l.stackTraces = false) (hI : Inj TA E) {w : World} {x1 : Int} (r_x1 : R32 x1) {out : (World × Nat × Int)} (hf : f_Dm_size w x1 = some out) : ConXI TA E l yX10_size (WS yX10_size cX10_size 2 (some .int)) rm_Dm_size [rf E.ad 1, .int (ii x1)] w out :=
  con_XI (by decide +kernel) rfl rfl (Nat.le_of_ble_eq_true rfl) (c1s_r (c1s_i c1s_0 (Nat.le_of_ble_eq_true rfl)) (Nat.le_of_ble_eq_true rfl)).1 ⟨rfl, rfl, Nat.le_of_ble_eq_true rfl, Nat.le_of_ble_eq_true rfl⟩ hI TnA hst (fun K H0 k hret => t_Dm_size_0 k r_x1 hf hret)
abbrev rm_Dm_at : Room := { frames := 6, cells := 1, slots := 6, locals := 100 }
noncomputable def f_Dm_at_24 (w : World) (s0 : Int) : Option (World × Nat × Int) :=
  if s0 = (-1) then (some (w, 1, 0)) else (bnd (f_Dm_present w ) fun v4 => gd (kdA v4 = 6) (bnd (f_Mo_codeOf w v4 s0) fun v8 => some (w, 0, v8)))
theorem t_Dm_at_24 {E : EE} {K : KT} {l : Launch} {H0 : Heap} (k : KofX TA E K H0 l cX10_at RX10 rm_Dm_at) {w : World} {s0 : Int} {o1 o2 o3 : Option Value} (r_s0 : R32 s0) {out : (World × Nat × Int)} (hf : f_Dm_at_24 w s0 = some out) (hc : (fun out : (World × Nat × Int) => RetXI TA E K H0 cX10_at out) out) : Jj K (WdT TA E H0) w 24 [some (rf E.ad 1), o1, o2, o3] [.int (ii s0)] := by
  unfold f_Dm_at_24 at hf
  have o := k.1
  have g := k.2.1
  have kr := k.2.2.1
  have gx := k.2.2.2.2
  refine J_istore_n o dX10_at_24 (Nat.le_of_ble_eq_true rfl) ?_
  refine J_iload_n o dX10_at_25 rfl ?_
  refine J_iconst o dX10_at_26 ?_
  refine J_icmp_ne 41 o dX10_at_27 (by decide) r_s0 rlm1 (fun c1 => ?_) (fun c2 => ?_)
  · have hf := ite_f c1 hf
    refine J_aload_n o dX10_at_41 rfl ?_
    obtain ⟨v4, e3, hf⟩ := bnd_some hf
    refine J_vR o g kr dX10_at_42 lkX10_261 ml_Dm_present vl_Dm_present ⟨rfl, rfl, Nat.le_of_ble_eq_true rfl, Nat.le_of_ble_eq_true rfl⟩ (c_Dm_present g.2.1  e3) kA_1 rfl ⟨by decide, by decide⟩ rfl rfl c1s_0 ?_
    refine J_iload_n o dX10_at_45 rfl ?_
    obtain ⟨g6, hf⟩ := gd_some hf
    obtain ⟨v8, e7, hf⟩ := bnd_some hf
    refine J_vI o g kr dX10_at_46 lkX10_288 ml_Mo_codeOf vl_Mo_codeOf ⟨rfl, rfl, Nat.le_of_ble_eq_true rfl, Nat.le_of_ble_eq_true rfl⟩ (c_Mo_codeOf g.2.1 g6 r_s0 e7) g6 rfl ⟨by decide, by decide⟩ rfl rfl c1s_0 (fun q9 => ?_)
    have hf := some_inj hf
    subst hf
    exact (show RetXI TA E K H0 cX10_at _ from hc).1 rfl _ _ q9 dX10_at_49
  · have hf := ite_t c2 hf
    have hf := some_inj hf
    subst hf
    exact (show RetXI TA E K H0 cX10_at _ from hc).2 (show (1 : Nat) ≠ 0 by decide) _ _ _ c1s_0 ⟨Or.inl rfl, dX10_at_30, dX10_at_33, 286, "no such relation or tuple", xs_286, Or.inr ⟨dX10_at_34, dX10_at_37, dX10_at_40⟩⟩
noncomputable def f_Dm_at (w : World) (x1 : Int) (x2 : Int) : Option (World × Nat × Int) :=
  bnd (f_Sc_isDeclared w x1) fun v2 => if v2 = 0 then (f_Dm_at_24 w (-1)) else (bnd (f_Dm_present w ) fun v7 => gd (kdA v7 = 6) (bnd (f_Mo_slotAt w v7 x1 x2) fun v11 => f_Dm_at_24 w v11))
theorem t_Dm_at_0 {E : EE} {K : KT} {l : Launch} {H0 : Heap} (k : KofX TA E K H0 l cX10_at RX10 rm_Dm_at) {w : World} {x1 : Int} {x2 : Int} {o3 : Option Value} (r_x1 : R32 x1) (r_x2 : R32 x2) {out : (World × Nat × Int)} (hf : f_Dm_at w x1 x2 = some out) (hc : (fun out : (World × Nat × Int) => RetXI TA E K H0 cX10_at out) out) : Jj K (WdT TA E H0) w 0 [some (rf E.ad 1), some (.int (ii x1)), some (.int (ii x2)), o3] [] := by
  unfold f_Dm_at at hf
  have o := k.1
  have g := k.2.1
  have kr := k.2.2.1
  have gx := k.2.2.2.2
  refine J_aload_n o dX10_at_0 rfl ?_
  refine J_getF (true, 2) o g dX10_at_1 flX10_31 kA_1 rfl rfl rfl ?_
  refine J_iload_n o dX10_at_4 rfl ?_
  obtain ⟨v2, e1, hf⟩ := bnd_some hf
  refine J_vI o g kr dX10_at_5 lkX10_108 ml_Sc_isDeclared vl_Sc_isDeclared ⟨rfl, rfl, Nat.le_of_ble_eq_true rfl, Nat.le_of_ble_eq_true rfl⟩ (c_Sc_isDeclared g.2.1 r_x1 e1) kA_2 rfl ⟨by decide, by decide⟩ rfl rfl c1s_0 (fun q3 => ?_)
  refine J_if_eq 23 o dX10_at_8 (by decide) q3 (fun c4 => ?_) (fun c5 => ?_)
  · have hf := ite_t c4 hf
    refine J_iconst o dX10_at_23 ?_
    exact t_Dm_at_24 k rlm1 hf hc
  · have hf := ite_f c5 hf
    refine J_aload_n o dX10_at_11 rfl ?_
    obtain ⟨v7, e6, hf⟩ := bnd_some hf
    refine J_vR o g kr dX10_at_12 lkX10_261 ml_Dm_present vl_Dm_present ⟨rfl, rfl, Nat.le_of_ble_eq_true rfl, Nat.le_of_ble_eq_true rfl⟩ (c_Dm_present g.2.1  e6) kA_1 rfl ⟨by decide, by decide⟩ rfl rfl c1s_0 ?_
    refine J_iload_n o dX10_at_15 rfl ?_
    refine J_iload_n o dX10_at_16 rfl ?_
    obtain ⟨g9, hf⟩ := gd_some hf
    obtain ⟨v11, e10, hf⟩ := bnd_some hf
    refine J_vI o g kr dX10_at_17 lkX10_282 ml_Mo_slotAt vl_Mo_slotAt ⟨rfl, rfl, Nat.le_of_ble_eq_true rfl, Nat.le_of_ble_eq_true rfl⟩ (c_Mo_slotAt g.2.1 g9 r_x1 r_x2 e10) g9 rfl ⟨by decide, by decide⟩ rfl rfl c1s_0 (fun q12 => ?_)
    refine J_goto 24 o dX10_at_20 (by decide) ?_
    exact t_Dm_at_24 k q12 hf hc
theorem c_Dm_at {E : EE} {l : Launch} (hst : l.stackTraces = false) (hI : Inj TA E) {w : World} {x1 : Int} {x2 : Int} (r_x1 : R32 x1) (r_x2 : R32 x2) {out : (World × Nat × Int)} (hf : f_Dm_at w x1 x2 = some out) : ConXI TA E l yX10_at (WS yX10_at cX10_at 4 (some .int)) rm_Dm_at [rf E.ad 1, .int (ii x1), .int (ii x2)] w out :=
  con_XI (by decide +kernel) rfl rfl (Nat.le_of_ble_eq_true rfl) (c1s_r (c1s_i (c1s_i c1s_0 (Nat.le_of_ble_eq_true rfl)) (Nat.le_of_ble_eq_true rfl)) (Nat.le_of_ble_eq_true rfl)).1 ⟨rfl, rfl, Nat.le_of_ble_eq_true rfl, Nat.le_of_ble_eq_true rfl⟩ hI TnA hst (fun K H0 k hret => t_Dm_at_0 k r_x1 r_x2 hf hret)
abbrev rm_Dm_stratum : Room := { frames := 6, cells := 1, slots := 6, locals := 100 }
noncomputable def f_Dm_stratum (w : World) (x1 : Int) : Option (World × Nat × Int) :=
  bnd (f_Sc_isDeclared w x1) fun v2 => if v2 = 0 then (some (w, 1, 0)) else (bnd (f_Pr_levelOf w x1) fun v7 => some (w, 0, v7))
theorem t_Dm_stratum_0 {E : EE} {K : KT} {l : Launch} {H0 : Heap} (k : KofX TA E K H0 l cX10_stratum RX10 rm_Dm_stratum) {w : World} {x1 : Int} (r_x1 : R32 x1) {out : (World × Nat × Int)} (hf : f_Dm_stratum w x1 = some out) (hc : (fun out : (World × Nat × Int) => RetXI TA E K H0 cX10_stratum out) out) : Jj K (WdT TA E H0) w 0 [some (rf E.ad 1), some (.int (ii x1))] [] := by
  unfold f_Dm_stratum at hf
  have o := k.1
  have g := k.2.1
  have kr := k.2.2.1
  have gx := k.2.2.2.2
  refine J_aload_n o dX10_stratum_0 rfl ?_
  refine J_getF (true, 2) o g dX10_stratum_1 flX10_31 kA_1 rfl rfl rfl ?_
  refine J_iload_n o dX10_stratum_4 rfl ?_
  obtain ⟨v2, e1, hf⟩ := bnd_some hf
  refine J_vI o g kr dX10_stratum_5 lkX10_108 ml_Sc_isDeclared vl_Sc_isDeclared ⟨rfl, rfl, Nat.le_of_ble_eq_true rfl, Nat.le_of_ble_eq_true rfl⟩ (c_Sc_isDeclared g.2.1 r_x1 e1) kA_2 rfl ⟨by decide, by decide⟩ rfl rfl c1s_0 (fun q3 => ?_)
  refine J_if_ne 21 o dX10_stratum_8 (by decide) q3 (fun c4 => ?_) (fun c5 => ?_)
  · have hf := ite_f c4 hf
    refine J_aload_n o dX10_stratum_21 rfl ?_
    refine J_getF (true, 14) o g dX10_stratum_22 flX10_39 kA_1 rfl rfl rfl ?_
    refine J_iload_n o dX10_stratum_25 rfl ?_
    obtain ⟨v7, e6, hf⟩ := bnd_some hf
    refine J_vI o g kr dX10_stratum_26 lkX10_291 ml_Pr_levelOf vl_Pr_levelOf ⟨rfl, rfl, Nat.le_of_ble_eq_true rfl, Nat.le_of_ble_eq_true rfl⟩ (c_Pr_levelOf g.2.1 r_x1 e6) kA_14 rfl ⟨by decide, by decide⟩ rfl rfl c1s_0 (fun q8 => ?_)
    have hf := some_inj hf
    subst hf
    exact (show RetXI TA E K H0 cX10_stratum _ from hc).1 rfl _ _ q8 dX10_stratum_29
  · have hf := ite_t c5 hf
    have hf := some_inj hf
    subst hf
    exact (show RetXI TA E K H0 cX10_stratum _ from hc).2 (show (1 : Nat) ≠ 0 by decide) _ _ _ c1s_0 ⟨Or.inl rfl, dX10_stratum_11, dX10_stratum_14, 121, "no such relation", xs_121, Or.inl ⟨dX10_stratum_15, dX10_stratum_17, dX10_stratum_20⟩⟩
theorem c_Dm_stratum {E : EE} {l : Launch} (hst : l.stackTraces = false) (hI : Inj TA E) {w : World} {x1 : Int} (r_x1 : R32 x1) {out : (World × Nat × Int)} (hf : f_Dm_stratum w x1 = some out) : ConXI TA E l yX10_stratum (WS yX10_stratum cX10_stratum 2 (some .int)) rm_Dm_stratum [rf E.ad 1, .int (ii x1)] w out :=
  con_XI (by decide +kernel) rfl rfl (Nat.le_of_ble_eq_true rfl) (c1s_r (c1s_i c1s_0 (Nat.le_of_ble_eq_true rfl)) (Nat.le_of_ble_eq_true rfl)).1 ⟨rfl, rfl, Nat.le_of_ble_eq_true rfl, Nat.le_of_ble_eq_true rfl⟩ hI TnA hst (fun K H0 k hret => t_Dm_stratum_0 k r_x1 hf hret)
abbrev rm_Dm_ways : Room := { frames := 6, cells := 1, slots := 6, locals := 149 }
noncomputable def f_Dm_ways (w : World) (x1 : Int) (x2 : Int) (x3 : Int) (x4 : Int) : Option (World × Nat × Int) :=
  bnd (f_Sc_isDeclared w x1) fun v2 => if v2 = 0 then (some (w, 1, 0)) else (bnd (f_Dm_present w ) fun v7 => gd (kdA v7 = 6) (bnd (f_Dm_isIn w v7 x1 x2 x3 x4) fun v11 => if v11 = 0 then (some (w, 0, 0)) else (bnd (f_Dm_packed x2 x3 x4) fun v16 => bnd (f_Dm_waysByFacts w x1 v16) fun v19 => bnd (f_Dm_waysByRules w x1 v16) fun v22 => some (v22.1, 0, wr (v19 + v22.2)))))
theorem t_Dm_ways_0 {E : EE} {K : KT} {l : Launch} {H0 : Heap} (k : KofX TA E K H0 l cX10_ways RX10 rm_Dm_ways) {w : World} {x1 : Int} {x2 : Int} {x3 : Int} {x4 : Int} {o5 : Option Value} (r_x1 : R32 x1) (r_x2 : R32 x2) (r_x3 : R32 x3) (r_x4 : R32 x4) {out : (World × Nat × Int)} (hf : f_Dm_ways w x1 x2 x3 x4 = some out) (hc : (fun out : (World × Nat × Int) => RetXI TA E K H0 cX10_ways out) out) : Jj K (WdT TA E H0) w 0 [some (rf E.ad 1), some (.int (ii x1)), some (.int (ii x2)), some (.int (ii x3)), some (.int (ii x4)), o5] [] := by
  unfold f_Dm_ways at hf
  have o := k.1
  have g := k.2.1
  have kr := k.2.2.1
  have gx := k.2.2.2.2
  refine J_aload_n o dX10_ways_0 rfl ?_
  refine J_getF (true, 2) o g dX10_ways_1 flX10_31 kA_1 rfl rfl rfl ?_
  refine J_iload_n o dX10_ways_4 rfl ?_
  obtain ⟨v2, e1, hf⟩ := bnd_some hf
  refine J_vI o g kr dX10_ways_5 lkX10_108 ml_Sc_isDeclared vl_Sc_isDeclared ⟨rfl, rfl, Nat.le_of_ble_eq_true rfl, Nat.le_of_ble_eq_true rfl⟩ (c_Sc_isDeclared g.2.1 r_x1 e1) kA_2 rfl ⟨by decide, by decide⟩ rfl rfl c1s_0 (fun q3 => ?_)
  refine J_if_ne 21 o dX10_ways_8 (by decide) q3 (fun c4 => ?_) (fun c5 => ?_)
  · have hf := ite_f c4 hf
    refine J_aload_n o dX10_ways_21 rfl ?_
    refine J_aload_n o dX10_ways_22 rfl ?_
    obtain ⟨v7, e6, hf⟩ := bnd_some hf
    refine J_vR o g kr dX10_ways_23 lkX10_261 ml_Dm_present vl_Dm_present ⟨rfl, rfl, Nat.le_of_ble_eq_true rfl, Nat.le_of_ble_eq_true rfl⟩ (c_Dm_present g.2.1  e6) kA_1 rfl ⟨by decide, by decide⟩ rfl rfl (c1s_r c1s_0 (Nat.le_of_ble_eq_true rfl)) ?_
    refine J_iload_n o dX10_ways_26 rfl ?_
    refine J_iload_n o dX10_ways_27 rfl ?_
    refine J_iload_n o dX10_ways_28 rfl ?_
    refine J_iload o dX10_ways_29 rfl ?_
    obtain ⟨g9, hf⟩ := gd_some hf
    obtain ⟨v11, e10, hf⟩ := bnd_some hf
    refine J_vI o g kr dX10_ways_31 lkX10_265 ml_Dm_isIn vl_Dm_isIn ⟨rfl, rfl, Nat.le_of_ble_eq_true rfl, Nat.le_of_ble_eq_true rfl⟩ (c_Dm_isIn g.2.1 g9 r_x1 r_x2 r_x3 r_x4 e10) kA_1 rfl ⟨by decide, by decide⟩ rfl rfl c1s_0 (fun q12 => ?_)
    refine J_if_ne 39 o dX10_ways_34 (by decide) q12 (fun c13 => ?_) (fun c14 => ?_)
    · have hf := ite_f c13 hf
      refine J_iload_n o dX10_ways_39 rfl ?_
      refine J_iload_n o dX10_ways_40 rfl ?_
      refine J_iload o dX10_ways_41 rfl ?_
      obtain ⟨v16, e15, hf⟩ := bnd_some hf
      refine J_sI o g kr dX10_ways_43 lkX10_135 ml_Dm_packed mw607 ⟨rfl, rfl, Nat.le_of_ble_eq_true rfl, Nat.le_of_ble_eq_true rfl⟩ (c_Dm_packed g.2.1 r_x2 r_x3 r_x4 e15) rfl rfl c1s_0 (fun q17 => ?_)
      refine J_istore o dX10_ways_46 (Nat.le_of_ble_eq_true rfl) ?_
      refine J_aload_n o dX10_ways_48 rfl ?_
      refine J_iload_n o dX10_ways_49 rfl ?_
      refine J_iload o dX10_ways_50 rfl ?_
      obtain ⟨v19, e18, hf⟩ := bnd_some hf
      refine J_vI o g kr dX10_ways_52 lkX10_294 ml_Dm_waysByFacts vl_Dm_waysByFacts ⟨rfl, rfl, Nat.le_of_ble_eq_true rfl, Nat.le_of_ble_eq_true rfl⟩ (c_Dm_waysByFacts g.2.1 r_x1 q17 e18) kA_1 rfl ⟨by decide, by decide⟩ rfl rfl c1s_0 (fun q20 => ?_)
      refine J_aload_n o dX10_ways_55 rfl ?_
      refine J_iload_n o dX10_ways_56 rfl ?_
      refine J_iload o dX10_ways_57 rfl ?_
      obtain ⟨v22, e21, hf⟩ := bnd_some hf
      refine J_vI o g kr dX10_ways_59 lkX10_297 ml_Dm_waysByRules vl_Dm_waysByRules ⟨rfl, rfl, Nat.le_of_ble_eq_true rfl, Nat.le_of_ble_eq_true rfl⟩ (c_Dm_waysByRules g.2.1 r_x1 q17 e21) kA_1 rfl ⟨by decide, by decide⟩ rfl rfl (c1s_i c1s_0 (Nat.le_of_ble_eq_true rfl)) (fun q23 => ?_)
      refine J_iadd o dX10_ways_62 ?_
      have hf := some_inj hf
      subst hf
      exact (show RetXI TA E K H0 cX10_ways _ from hc).1 rfl _ _ (R_wr _) dX10_ways_63
    · have hf := ite_t c14 hf
      refine J_iconst o dX10_ways_37 ?_
      have hf := some_inj hf
      subst hf
      exact (show RetXI TA E K H0 cX10_ways _ from hc).1 rfl _ _ rl0 dX10_ways_38
  · have hf := ite_t c5 hf
    have hf := some_inj hf
    subst hf
    exact (show RetXI TA E K H0 cX10_ways _ from hc).2 (show (1 : Nat) ≠ 0 by decide) _ _ _ c1s_0 ⟨Or.inl rfl, dX10_ways_11, dX10_ways_14, 121, "no such relation", xs_121, Or.inl ⟨dX10_ways_15, dX10_ways_17, dX10_ways_20⟩⟩
theorem c_Dm_ways {E : EE} {l : Launch} (hst : l.stackTraces = false) (hI : Inj TA E) {w : World} {x1 : Int} {x2 : Int} {x3 : Int} {x4 : Int} (r_x1 : R32 x1) (r_x2 : R32 x2) (r_x3 : R32 x3) (r_x4 : R32 x4) {out : (World × Nat × Int)} (hf : f_Dm_ways w x1 x2 x3 x4 = some out) : ConXI TA E l yX10_ways (WS yX10_ways cX10_ways 6 (some .int)) rm_Dm_ways [rf E.ad 1, .int (ii x1), .int (ii x2), .int (ii x3), .int (ii x4)] w out :=
  con_XI (by decide +kernel) rfl rfl (Nat.le_of_ble_eq_true rfl) (c1s_r (c1s_i (c1s_i (c1s_i (c1s_i c1s_0 (Nat.le_of_ble_eq_true rfl)) (Nat.le_of_ble_eq_true rfl)) (Nat.le_of_ble_eq_true rfl)) (Nat.le_of_ble_eq_true rfl)) (Nat.le_of_ble_eq_true rfl)).1 ⟨rfl, rfl, Nat.le_of_ble_eq_true rfl, Nat.le_of_ble_eq_true rfl⟩ hI TnA hst (fun K H0 k hret => t_Dm_ways_0 k r_x1 r_x2 r_x3 r_x4 hf hret)
abbrev rm_Dm_cheapest : Room := { frames := 7, cells := 1, slots := 6, locals := 170 }
noncomputable def f_Dm_cheapest (w : World) (x1 : Int) (x2 : Int) (x3 : Int) (x4 : Int) : Option (World × Nat × Int) :=
  bnd (f_Sc_isDeclared w x1) fun v2 => if v2 = 0 then (some (w, 1, 0)) else (bnd (f_Dm_present w ) fun v7 => gd (kdA v7 = 6) (bnd (f_Dm_isIn w v7 x1 x2 x3 x4) fun v11 => if v11 = 0 then (some (w, 0, (-1))) else (bnd (f_Dm_findCosts w ) fun v16 => bnd (f_Dm_present v16 ) fun v19 => bnd (f_Dm_packed x2 x3 x4) fun v22 => gd (kdA v19 = 6) (bnd (f_Mo_slotLike v16 v19 x1 v22) fun v26 => bnd (f_Co_costOf v16 v26) fun v29 => some (v16, 0, v29)))))
theorem t_Dm_cheapest_0 {E : EE} {K : KT} {l : Launch} {H0 : Heap} (k : KofX TA E K H0 l cX10_cheapest RX10 rm_Dm_cheapest) {w : World} {x1 : Int} {x2 : Int} {x3 : Int} {x4 : Int} (r_x1 : R32 x1) (r_x2 : R32 x2) (r_x3 : R32 x3) (r_x4 : R32 x4) {out : (World × Nat × Int)} (hf : f_Dm_cheapest w x1 x2 x3 x4 = some out) (hc : (fun out : (World × Nat × Int) => RetXI TA E K H0 cX10_cheapest out) out) : Jj K (WdT TA E H0) w 0 [some (rf E.ad 1), some (.int (ii x1)), some (.int (ii x2)), some (.int (ii x3)), some (.int (ii x4))] [] := by
  unfold f_Dm_cheapest at hf
  have o := k.1
  have g := k.2.1
  have kr := k.2.2.1
  have gx := k.2.2.2.2
  refine J_aload_n o dX10_cheapest_0 rfl ?_
  refine J_getF (true, 2) o g dX10_cheapest_1 flX10_31 kA_1 rfl rfl rfl ?_
  refine J_iload_n o dX10_cheapest_4 rfl ?_
  obtain ⟨v2, e1, hf⟩ := bnd_some hf
  refine J_vI o g kr dX10_cheapest_5 lkX10_108 ml_Sc_isDeclared vl_Sc_isDeclared ⟨rfl, rfl, Nat.le_of_ble_eq_true rfl, Nat.le_of_ble_eq_true rfl⟩ (c_Sc_isDeclared g.2.1 r_x1 e1) kA_2 rfl ⟨by decide, by decide⟩ rfl rfl c1s_0 (fun q3 => ?_)
  refine J_if_ne 21 o dX10_cheapest_8 (by decide) q3 (fun c4 => ?_) (fun c5 => ?_)
  · have hf := ite_f c4 hf
    refine J_aload_n o dX10_cheapest_21 rfl ?_
    refine J_aload_n o dX10_cheapest_22 rfl ?_
    obtain ⟨v7, e6, hf⟩ := bnd_some hf
    refine J_vR o g kr dX10_cheapest_23 lkX10_261 ml_Dm_present vl_Dm_present ⟨rfl, rfl, Nat.le_of_ble_eq_true rfl, Nat.le_of_ble_eq_true rfl⟩ (c_Dm_present g.2.1  e6) kA_1 rfl ⟨by decide, by decide⟩ rfl rfl (c1s_r c1s_0 (Nat.le_of_ble_eq_true rfl)) ?_
    refine J_iload_n o dX10_cheapest_26 rfl ?_
    refine J_iload_n o dX10_cheapest_27 rfl ?_
    refine J_iload_n o dX10_cheapest_28 rfl ?_
    refine J_iload o dX10_cheapest_29 rfl ?_
    obtain ⟨g9, hf⟩ := gd_some hf
    obtain ⟨v11, e10, hf⟩ := bnd_some hf
    refine J_vI o g kr dX10_cheapest_31 lkX10_265 ml_Dm_isIn vl_Dm_isIn ⟨rfl, rfl, Nat.le_of_ble_eq_true rfl, Nat.le_of_ble_eq_true rfl⟩ (c_Dm_isIn g.2.1 g9 r_x1 r_x2 r_x3 r_x4 e10) kA_1 rfl ⟨by decide, by decide⟩ rfl rfl c1s_0 (fun q12 => ?_)
    refine J_if_ne 39 o dX10_cheapest_34 (by decide) q12 (fun c13 => ?_) (fun c14 => ?_)
    · have hf := ite_f c13 hf
      refine J_aload_n o dX10_cheapest_39 rfl ?_
      obtain ⟨v16, e15, hf⟩ := bnd_some hf
      refine J_vV o g kr dX10_cheapest_40 lkX10_300 ml_Dm_findCosts vl_Dm_findCosts ⟨rfl, rfl, Nat.le_of_ble_eq_true rfl, Nat.le_of_ble_eq_true rfl⟩ (c_Dm_findCosts g.2.1  e15) kA_1 rfl ⟨by decide, by decide⟩ rfl rfl c1s_0 ?_
      refine J_aload_n o dX10_cheapest_43 rfl ?_
      refine J_getF (true, 150) o g dX10_cheapest_44 flX10_74 kA_1 rfl rfl rfl ?_
      refine J_aload_n o dX10_cheapest_47 rfl ?_
      obtain ⟨v19, e18, hf⟩ := bnd_some hf
      refine J_vR o g kr dX10_cheapest_48 lkX10_261 ml_Dm_present vl_Dm_present ⟨rfl, rfl, Nat.le_of_ble_eq_true rfl, Nat.le_of_ble_eq_true rfl⟩ (c_Dm_present g.2.1  e18) kA_1 rfl ⟨by decide, by decide⟩ rfl rfl (c1s_r c1s_0 (Nat.le_of_ble_eq_true rfl)) ?_
      refine J_iload_n o dX10_cheapest_51 rfl ?_
      refine J_iload_n o dX10_cheapest_52 rfl ?_
      refine J_iload_n o dX10_cheapest_53 rfl ?_
      refine J_iload o dX10_cheapest_54 rfl ?_
      obtain ⟨v22, e21, hf⟩ := bnd_some hf
      refine J_sI o g kr dX10_cheapest_56 lkX10_135 ml_Dm_packed mw607 ⟨rfl, rfl, Nat.le_of_ble_eq_true rfl, Nat.le_of_ble_eq_true rfl⟩ (c_Dm_packed g.2.1 r_x2 r_x3 r_x4 e21) rfl rfl (c1s_i (c1s_r (c1s_r c1s_0 (Nat.le_of_ble_eq_true rfl)) (Nat.le_of_ble_eq_true rfl)) (Nat.le_of_ble_eq_true rfl)) (fun q23 => ?_)
      obtain ⟨g24, hf⟩ := gd_some hf
      obtain ⟨v26, e25, hf⟩ := bnd_some hf
      refine J_vI o g kr dX10_cheapest_59 lkX10_303 ml_Mo_slotLike vl_Mo_slotLike ⟨rfl, rfl, Nat.le_of_ble_eq_true rfl, Nat.le_of_ble_eq_true rfl⟩ (c_Mo_slotLike g.2.1 g24 r_x1 q23 e25) g24 rfl ⟨by decide, by decide⟩ rfl rfl (c1s_r c1s_0 (Nat.le_of_ble_eq_true rfl)) (fun q27 => ?_)
      obtain ⟨v29, e28, hf⟩ := bnd_some hf
      refine J_vI o g kr dX10_cheapest_62 lkX10_306 ml_Co_costOf vl_Co_costOf ⟨rfl, rfl, Nat.le_of_ble_eq_true rfl, Nat.le_of_ble_eq_true rfl⟩ (c_Co_costOf g.2.1 q27 e28) kA_150 rfl ⟨by decide, by decide⟩ rfl rfl c1s_0 (fun q30 => ?_)
      have hf := some_inj hf
      subst hf
      exact (show RetXI TA E K H0 cX10_cheapest _ from hc).1 rfl _ _ q30 dX10_cheapest_65
    · have hf := ite_t c14 hf
      refine J_iconst o dX10_cheapest_37 ?_
      have hf := some_inj hf
      subst hf
      exact (show RetXI TA E K H0 cX10_cheapest _ from hc).1 rfl _ _ rlm1 dX10_cheapest_38
  · have hf := ite_t c5 hf
    have hf := some_inj hf
    subst hf
    exact (show RetXI TA E K H0 cX10_cheapest _ from hc).2 (show (1 : Nat) ≠ 0 by decide) _ _ _ c1s_0 ⟨Or.inl rfl, dX10_cheapest_11, dX10_cheapest_14, 121, "no such relation", xs_121, Or.inl ⟨dX10_cheapest_15, dX10_cheapest_17, dX10_cheapest_20⟩⟩
theorem c_Dm_cheapest {E : EE} {l : Launch} (hst : l.stackTraces = false) (hI : Inj TA E) {w : World} {x1 : Int} {x2 : Int} {x3 : Int} {x4 : Int} (r_x1 : R32 x1) (r_x2 : R32 x2) (r_x3 : R32 x3) (r_x4 : R32 x4) {out : (World × Nat × Int)} (hf : f_Dm_cheapest w x1 x2 x3 x4 = some out) : ConXI TA E l yX10_cheapest (WS yX10_cheapest cX10_cheapest 5 (some .int)) rm_Dm_cheapest [rf E.ad 1, .int (ii x1), .int (ii x2), .int (ii x3), .int (ii x4)] w out :=
  con_XI (by decide +kernel) rfl rfl (Nat.le_of_ble_eq_true rfl) (c1s_r (c1s_i (c1s_i (c1s_i (c1s_i c1s_0 (Nat.le_of_ble_eq_true rfl)) (Nat.le_of_ble_eq_true rfl)) (Nat.le_of_ble_eq_true rfl)) (Nat.le_of_ble_eq_true rfl)) (Nat.le_of_ble_eq_true rfl)).1 ⟨rfl, rfl, Nat.le_of_ble_eq_true rfl, Nat.le_of_ble_eq_true rfl⟩ hI TnA hst (fun K H0 k hret => t_Dm_cheapest_0 k r_x1 r_x2 r_x3 r_x4 hf hret)
abbrev rm_Dm_needed : Room := { frames := 7, cells := 1, slots := 6, locals := 182 }
def HW_Dm_needed_42 (E : EE) (K : KT) (H0 : Heap) (x1 : Int) (x2 : Int) (x3 : Int) (x4 : Int) (x6 : Int) : (World × Int × Int) → Prop := fun z => R32 z.2.1 → R32 z.2.2 → ∀ o8 : Option Value, Jj K (WdT TA E H0) z.1 42 [some (rf E.ad 1), some (.int (ii x1)), some (.int (ii x2)), some (.int (ii x3)), some (.int (ii x4)), some (.int (ii z.2.1)), some (.int (ii x6)), some (.int (ii z.2.2)), o8] []
noncomputable def f_Dm_needed_146 (w : World) (x1 : Int) (x2 : Int) (x3 : Int) (x4 : Int) (x5 : Int) (x6 : Int) (x7 : Int) : Option ((World × Int × Int) ⊕ (World × Nat × Int)) :=
  bl (wr (x7 + 1)) fun n1 => some (Sum.inl (w, x5, n1))
theorem t_Dm_needed_146 {E : EE} {K : KT} {l : Launch} {H0 : Heap} (k : KofX TA E K H0 l cX10_needed RX10 rm_Dm_needed) {w : World} {x1 : Int} {x2 : Int} {x3 : Int} {x4 : Int} {x5 : Int} {x6 : Int} {x7 : Int} {o8 : Option Value} (r_x1 : R32 x1) (r_x2 : R32 x2) (r_x3 : R32 x3) (r_x4 : R32 x4) (r_x5 : R32 x5) (r_x6 : R32 x6) (r_x7 : R32 x7) {out : ((World × Int × Int) ⊕ (World × Nat × Int))} (hf : f_Dm_needed_146 w x1 x2 x3 x4 x5 x6 x7 = some out) (hc : (Sum.elim (HW_Dm_needed_42 E K H0 x1 x2 x3 x4 x6) (fun out : (World × Nat × Int) => RetXI TA E K H0 cX10_needed out)) out) : Jj K (WdT TA E H0) w 146 [some (rf E.ad 1), some (.int (ii x1)), some (.int (ii x2)), some (.int (ii x3)), some (.int (ii x4)), some (.int (ii x5)), some (.int (ii x6)), some (.int (ii x7)), o8] [] := by
  unfold f_Dm_needed_146 at hf
  have o := k.1
  have g := k.2.1
  have kr := k.2.2.1
  have gx := k.2.2.2.2
  have hf := bl_out hf
  refine J_iinc o dX10_needed_146 rfl ?_
  refine J_goto 42 o dX10_needed_149 (by decide) ?_
  have hf := some_inj hf
  subst hf
  exact hc r_x5 (R_wr _) _
noncomputable def f_Dm_needed_143 (w : World) (x1 : Int) (x2 : Int) (x3 : Int) (x4 : Int) (x6 : Int) (x7 : Int) (s0 : Int) (s1 : Int) : Option ((World × Int × Int) ⊕ (World × Nat × Int)) :=
  bl (ior s0 s1) fun n1 => f_Dm_needed_146 w x1 x2 x3 x4 n1 x6 x7
theorem t_Dm_needed_143 {E : EE} {K : KT} {l : Launch} {H0 : Heap} (k : KofX TA E K H0 l cX10_needed RX10 rm_Dm_needed) {w : World} {x1 : Int} {x2 : Int} {x3 : Int} {x4 : Int} {x6 : Int} {x7 : Int} {s0 : Int} {s1 : Int} {o5 o8 : Option Value} (r_x1 : R32 x1) (r_x2 : R32 x2) (r_x3 : R32 x3) (r_x4 : R32 x4) (r_x6 : R32 x6) (r_x7 : R32 x7) (r_s0 : R32 s0) (r_s1 : R32 s1) {out : ((World × Int × Int) ⊕ (World × Nat × Int))} (hf : f_Dm_needed_143 w x1 x2 x3 x4 x6 x7 s0 s1 = some out) (hc : (Sum.elim (HW_Dm_needed_42 E K H0 x1 x2 x3 x4 x6) (fun out : (World × Nat × Int) => RetXI TA E K H0 cX10_needed out)) out) : Jj K (WdT TA E H0) w 143 [some (rf E.ad 1), some (.int (ii x1)), some (.int (ii x2)), some (.int (ii x3)), some (.int (ii x4)), o5, some (.int (ii x6)), some (.int (ii x7)), o8] [.int (ii s1), .int (ii s0)] := by
  unfold f_Dm_needed_143 at hf
  have o := k.1
  have g := k.2.1
  have kr := k.2.2.1
  have gx := k.2.2.2.2
  refine J_ior o dX10_needed_143 ?_
  refine J_istore o dX10_needed_144 (Nat.le_of_ble_eq_true rfl) ?_
  have hf := bl_out hf
  exact t_Dm_needed_146 k r_x1 r_x2 r_x3 r_x4 (R_ior _ _) r_x6 r_x7 hf hc
noncomputable def f_Dm_needed_126 (w : World) (x1 : Int) (x2 : Int) (x3 : Int) (x4 : Int) (x5 : Int) (x6 : Int) (x7 : Int) (s0 : Int) : Option ((World × Int × Int) ⊕ (World × Nat × Int)) :=
  if s0 = 0 then (f_Dm_needed_143 w x1 x2 x3 x4 x6 x7 x5 (ishl 1 x7)) else (f_Dm_needed_143 w x1 x2 x3 x4 x6 x7 x5 0)
theorem t_Dm_needed_126 {E : EE} {K : KT} {l : Launch} {H0 : Heap} (k : KofX TA E K H0 l cX10_needed RX10 rm_Dm_needed) {w : World} {x1 : Int} {x2 : Int} {x3 : Int} {x4 : Int} {x5 : Int} {x6 : Int} {x7 : Int} {s0 : Int} {o8 : Option Value} (r_x1 : R32 x1) (r_x2 : R32 x2) (r_x3 : R32 x3) (r_x4 : R32 x4) (r_x5 : R32 x5) (r_x6 : R32 x6) (r_x7 : R32 x7) (r_s0 : R32 s0) {out : ((World × Int × Int) ⊕ (World × Nat × Int))} (hf : f_Dm_needed_126 w x1 x2 x3 x4 x5 x6 x7 s0 = some out) (hc : (Sum.elim (HW_Dm_needed_42 E K H0 x1 x2 x3 x4 x6) (fun out : (World × Nat × Int) => RetXI TA E K H0 cX10_needed out)) out) : Jj K (WdT TA E H0) w 126 [some (rf E.ad 1), some (.int (ii x1)), some (.int (ii x2)), some (.int (ii x3)), some (.int (ii x4)), some (.int (ii x5)), some (.int (ii x6)), some (.int (ii x7)), o8] [.int (ii s0)] := by
  unfold f_Dm_needed_126 at hf
  have o := k.1
  have g := k.2.1
  have kr := k.2.2.1
  have gx := k.2.2.2.2
  refine J_istore o dX10_needed_126 (Nat.le_of_ble_eq_true rfl) ?_
  refine J_iload o dX10_needed_128 rfl ?_
  refine J_iload o dX10_needed_130 rfl ?_
  refine J_if_eq 139 o dX10_needed_132 (by decide) r_s0 (fun c1 => ?_) (fun c2 => ?_)
  · have hf := ite_t c1 hf
    refine J_iconst o dX10_needed_139 ?_
    refine J_iload o dX10_needed_140 rfl ?_
    refine J_ishl o dX10_needed_142 ?_
    exact t_Dm_needed_143 k r_x1 r_x2 r_x3 r_x4 r_x6 r_x7 r_x5 (R_ishl _ _) hf hc
  · have hf := ite_f c2 hf
    refine J_iconst o dX10_needed_135 ?_
    refine J_goto 143 o dX10_needed_136 (by decide) ?_
    exact t_Dm_needed_143 k r_x1 r_x2 r_x3 r_x4 r_x6 r_x7 r_x5 rl0 hf hc
noncomputable def f_Dm_needed_121 (w : World) (x1 : Int) (x2 : Int) (x3 : Int) (x4 : Int) (x5 : Int) (x6 : Int) (x7 : Int) : Option ((World × Int × Int) ⊕ (World × Nat × Int)) :=
  f_Dm_needed_126 w x1 x2 x3 x4 x5 x6 x7 1
theorem t_Dm_needed_121 {E : EE} {K : KT} {l : Launch} {H0 : Heap} (k : KofX TA E K H0 l cX10_needed RX10 rm_Dm_needed) {w : World} {x1 : Int} {x2 : Int} {x3 : Int} {x4 : Int} {x5 : Int} {x6 : Int} {x7 : Int} {o8 : Option Value} (r_x1 : R32 x1) (r_x2 : R32 x2) (r_x3 : R32 x3) (r_x4 : R32 x4) (r_x5 : R32 x5) (r_x6 : R32 x6) (r_x7 : R32 x7) {out : ((World × Int × Int) ⊕ (World × Nat × Int))} (hf : f_Dm_needed_121 w x1 x2 x3 x4 x5 x6 x7 = some out) (hc : (Sum.elim (HW_Dm_needed_42 E K H0 x1 x2 x3 x4 x6) (fun out : (World × Nat × Int) => RetXI TA E K H0 cX10_needed out)) out) : Jj K (WdT TA E H0) w 121 [some (rf E.ad 1), some (.int (ii x1)), some (.int (ii x2)), some (.int (ii x3)), some (.int (ii x4)), some (.int (ii x5)), some (.int (ii x6)), some (.int (ii x7)), o8] [] := by
  unfold f_Dm_needed_121 at hf
  have o := k.1
  have g := k.2.1
  have kr := k.2.2.1
  have gx := k.2.2.2.2
  refine J_iconst o dX10_needed_121 ?_
  refine J_goto 126 o dX10_needed_122 (by decide) ?_
  exact t_Dm_needed_126 k r_x1 r_x2 r_x3 r_x4 r_x5 r_x6 r_x7 rl1 hf hc
noncomputable def f_Dm_needed_42B (w : World) (x1 : Int) (x2 : Int) (x3 : Int) (x4 : Int) (x5 : Int) (x6 : Int) (x7 : Int) : Option ((World × Int × Int) ⊕ (World × Nat × Int)) :=
  if x6 = 0 then (some (Sum.inr (w, 0, x5))) else (if (w 7 0) ≤ x7 then (some (Sum.inr (w, 0, x5))) else (bnd (f_Fa_holdsIn w x7 (w 1 12)) fun v8 => if v8 = 0 then (f_Dm_needed_146 w x1 x2 x3 x4 x5 x6 x7) else (bnd (f_Mi_build w 98 (w 1 12) (ishl 1 x7) 0) fun v14 => if (v14 98 2) = 0 then (bnd (f_Dm_isIn v14 98 x1 x2 x3 x4) fun v20 => if v20 = 0 then (f_Dm_needed_126 v14 x1 x2 x3 x4 x5 x6 x7 0) else (f_Dm_needed_121 v14 x1 x2 x3 x4 x5 x6 x7)) else (f_Dm_needed_121 v14 x1 x2 x3 x4 x5 x6 x7))))
theorem t_Dm_needed_42B {E : EE} {K : KT} {l : Launch} {H0 : Heap} (k : KofX TA E K H0 l cX10_needed RX10 rm_Dm_needed) {w : World} {x1 : Int} {x2 : Int} {x3 : Int} {x4 : Int} {x5 : Int} {x6 : Int} {x7 : Int} {o8 : Option Value} (r_x1 : R32 x1) (r_x2 : R32 x2) (r_x3 : R32 x3) (r_x4 : R32 x4) (r_x5 : R32 x5) (r_x6 : R32 x6) (r_x7 : R32 x7) {out : ((World × Int × Int) ⊕ (World × Nat × Int))} (hf : f_Dm_needed_42B w x1 x2 x3 x4 x5 x6 x7 = some out) (hc : (Sum.elim (HW_Dm_needed_42 E K H0 x1 x2 x3 x4 x6) (fun out : (World × Nat × Int) => RetXI TA E K H0 cX10_needed out)) out) : Jj K (WdT TA E H0) w 42 [some (rf E.ad 1), some (.int (ii x1)), some (.int (ii x2)), some (.int (ii x3)), some (.int (ii x4)), some (.int (ii x5)), some (.int (ii x6)), some (.int (ii x7)), o8] [] := by
  unfold f_Dm_needed_42B at hf
  have o := k.1
  have g := k.2.1
  have kr := k.2.2.1
  have gx := k.2.2.2.2
  refine J_iload o dX10_needed_42 rfl ?_
  refine J_if_eq 152 o dX10_needed_44 (by decide) r_x6 (fun c1 => ?_) (fun c2 => ?_)
  · have hf := ite_t c1 hf
    refine J_iload o dX10_needed_152 rfl ?_
    have hf := some_inj hf
    subst hf
    exact (show RetXI TA E K H0 cX10_needed _ from hc).1 rfl _ _ r_x5 dX10_needed_154
  · have hf := ite_f c2 hf
    refine J_iload o dX10_needed_47 rfl ?_
    refine J_aload_n o dX10_needed_49 rfl ?_
    refine J_getF (true, 7) o g dX10_needed_50 flX10_35 kA_1 rfl rfl rfl ?_
    refine J_getI o g dX10_needed_53 flX10_129 kA_7 rfl (fun q3 => ?_)
    refine J_icmp_ge 152 o dX10_needed_56 (by decide) r_x7 q3 (fun c4 => ?_) (fun c5 => ?_)
    · have hf := ite_t c4 hf
      refine J_iload o dX10_needed_152 rfl ?_
      have hf := some_inj hf
      subst hf
      exact (show RetXI TA E K H0 cX10_needed _ from hc).1 rfl _ _ r_x5 dX10_needed_154
    · have hf := ite_f c5 hf
      refine J_aload_n o dX10_needed_59 rfl ?_
      refine J_getF (true, 7) o g dX10_needed_60 flX10_35 kA_1 rfl rfl rfl ?_
      refine J_iload o dX10_needed_63 rfl ?_
      refine J_aload_n o dX10_needed_65 rfl ?_
      refine J_getI o g dX10_needed_66 flX10_173 kA_1 rfl (fun q6 => ?_)
      obtain ⟨v8, e7, hf⟩ := bnd_some hf
      refine J_vI o g kr dX10_needed_69 lkX10_309 ml_Fa_holdsIn vl_Fa_holdsIn ⟨rfl, rfl, Nat.le_of_ble_eq_true rfl, Nat.le_of_ble_eq_true rfl⟩ (c_Fa_holdsIn g.2.1 r_x7 q6 e7) kA_7 rfl ⟨by decide, by decide⟩ rfl rfl c1s_0 (fun q9 => ?_)
      refine J_if_eq 146 o dX10_needed_72 (by decide) q9 (fun c10 => ?_) (fun c11 => ?_)
      · have hf := ite_t c10 hf
        exact t_Dm_needed_146 k r_x1 r_x2 r_x3 r_x4 r_x5 r_x6 r_x7 hf hc
      · have hf := ite_f c11 hf
        refine J_aload_n o dX10_needed_75 rfl ?_
        refine J_getF (true, 107) o g dX10_needed_76 flX10_60 kA_1 rfl rfl rfl ?_
        refine J_aload_n o dX10_needed_79 rfl ?_
        refine J_getF (true, 98) o g dX10_needed_80 flX10_47 kA_1 rfl rfl rfl ?_
        refine J_aload_n o dX10_needed_83 rfl ?_
        refine J_getI o g dX10_needed_84 flX10_173 kA_1 rfl (fun q12 => ?_)
        refine J_iconst o dX10_needed_87 ?_
        refine J_iload o dX10_needed_88 rfl ?_
        refine J_ishl o dX10_needed_90 ?_
        refine J_iconst o dX10_needed_91 ?_
        obtain ⟨v14, e13, hf⟩ := bnd_some hf
        refine J_vV o g kr dX10_needed_92 lkX10_275 ml_Mi_build vl_Mi_build ⟨rfl, rfl, Nat.le_of_ble_eq_true rfl, Nat.le_of_ble_eq_true rfl⟩ (c_Mi_build g.2.1 kA_98 q12 (R_ishl _ _) rl0 e13) kA_107 rfl ⟨by decide, by decide⟩ rfl rfl c1s_0 ?_
        refine J_aload_n o dX10_needed_95 rfl ?_
        refine J_getF (true, 98) o g dX10_needed_96 flX10_47 kA_1 rfl rfl rfl ?_
        refine J_getI o g dX10_needed_99 flX10_312 kA_98 rfl (fun q16 => ?_)
        refine J_if_ne 121 o dX10_needed_102 (by decide) q16 (fun c17 => ?_) (fun c18 => ?_)
        · have hf := ite_f c17 hf
          exact t_Dm_needed_121 k r_x1 r_x2 r_x3 r_x4 r_x5 r_x6 r_x7 hf hc
        · have hf := ite_t c18 hf
          refine J_aload_n o dX10_needed_105 rfl ?_
          refine J_aload_n o dX10_needed_106 rfl ?_
          refine J_getF (true, 98) o g dX10_needed_107 flX10_47 kA_1 rfl rfl rfl ?_
          refine J_iload_n o dX10_needed_110 rfl ?_
          refine J_iload_n o dX10_needed_111 rfl ?_
          refine J_iload_n o dX10_needed_112 rfl ?_
          refine J_iload o dX10_needed_113 rfl ?_
          obtain ⟨v20, e19, hf⟩ := bnd_some hf
          refine J_vI o g kr dX10_needed_115 lkX10_265 ml_Dm_isIn vl_Dm_isIn ⟨rfl, rfl, Nat.le_of_ble_eq_true rfl, Nat.le_of_ble_eq_true rfl⟩ (c_Dm_isIn g.2.1 kA_98 r_x1 r_x2 r_x3 r_x4 e19) kA_1 rfl ⟨by decide, by decide⟩ rfl rfl c1s_0 (fun q21 => ?_)
          refine J_if_eq 125 o dX10_needed_118 (by decide) q21 (fun c22 => ?_) (fun c23 => ?_)
          · have hf := ite_t c22 hf
            refine J_iconst o dX10_needed_125 ?_
            exact t_Dm_needed_126 k r_x1 r_x2 r_x3 r_x4 r_x5 r_x6 r_x7 rl0 hf hc
          · have hf := ite_f c23 hf
            exact t_Dm_needed_121 k r_x1 r_x2 r_x3 r_x4 r_x5 r_x6 r_x7 hf hc
noncomputable def f_Dm_needed_42 (w : World) (x1 : Int) (x2 : Int) (x3 : Int) (x4 : Int) (x5 : Int) (x6 : Int) (x7 : Int) : Option (World × Nat × Int) :=
  lp (fun z : (World × Int × Int) => f_Dm_needed_42B z.1 x1 x2 x3 x4 z.2.1 x6 z.2.2) (w, x5, x7)
theorem t_Dm_needed_42 {E : EE} {K : KT} {l : Launch} {H0 : Heap} (k : KofX TA E K H0 l cX10_needed RX10 rm_Dm_needed) {w : World} {x1 : Int} {x2 : Int} {x3 : Int} {x4 : Int} {x5 : Int} {x6 : Int} {x7 : Int} (r_x1 : R32 x1) (r_x2 : R32 x2) (r_x3 : R32 x3) (r_x4 : R32 x4) (r_x6 : R32 x6) {out : (World × Nat × Int)} (hf : f_Dm_needed_42 w x1 x2 x3 x4 x5 x6 x7 = some out) (hc : (fun out : (World × Nat × Int) => RetXI TA E K H0 cX10_needed out) out) : HW_Dm_needed_42 E K H0 x1 x2 x3 x4 x6 (w, x5, x7) := by
  unfold f_Dm_needed_42 at hf
  refine lp_ind (P := HW_Dm_needed_42 E K H0 x1 x2 x3 x4 x6) hf ?_
  intro z o hs h1 h2
  intro r_x5 r_x7
  intro o8
  refine t_Dm_needed_42B k r_x1 r_x2 r_x3 r_x4 r_x5 r_x6 r_x7 hs ?_
  cases o with
  | inl z' => exact h1 z' rfl
  | inr r' => rw [h2 r' rfl]; exact hc
noncomputable def f_Dm_needed (w : World) (x1 : Int) (x2 : Int) (x3 : Int) (x4 : Int) : Option (World × Nat × Int) :=
  bnd (f_Sc_isDeclared w x1) fun v2 => if v2 = 0 then (some (w, 1, 0)) else (bnd (f_Dm_present w ) fun v7 => gd (kdA v7 = 6) (bnd (f_Dm_isIn w v7 x1 x2 x3 x4) fun v11 => f_Dm_needed_42 w x1 x2 x3 x4 0 v11 0))
theorem t_Dm_needed_0 {E : EE} {K : KT} {l : Launch} {H0 : Heap} (k : KofX TA E K H0 l cX10_needed RX10 rm_Dm_needed) {w : World} {x1 : Int} {x2 : Int} {x3 : Int} {x4 : Int} {o5 o6 o7 o8 : Option Value} (r_x1 : R32 x1) (r_x2 : R32 x2) (r_x3 : R32 x3) (r_x4 : R32 x4) {out : (World × Nat × Int)} (hf : f_Dm_needed w x1 x2 x3 x4 = some out) (hc : (fun out : (World × Nat × Int) => RetXI TA E K H0 cX10_needed out) out) : Jj K (WdT TA E H0) w 0 [some (rf E.ad 1), some (.int (ii x1)), some (.int (ii x2)), some (.int (ii x3)), some (.int (ii x4)), o5, o6, o7, o8] [] := by
  unfold f_Dm_needed at hf
  have o := k.1
  have g := k.2.1
  have kr := k.2.2.1
  have gx := k.2.2.2.2
  refine J_aload_n o dX10_needed_0 rfl ?_
  refine J_getF (true, 2) o g dX10_needed_1 flX10_31 kA_1 rfl rfl rfl ?_
  refine J_iload_n o dX10_needed_4 rfl ?_
  obtain ⟨v2, e1, hf⟩ := bnd_some hf
  refine J_vI o g kr dX10_needed_5 lkX10_108 ml_Sc_isDeclared vl_Sc_isDeclared ⟨rfl, rfl, Nat.le_of_ble_eq_true rfl, Nat.le_of_ble_eq_true rfl⟩ (c_Sc_isDeclared g.2.1 r_x1 e1) kA_2 rfl ⟨by decide, by decide⟩ rfl rfl c1s_0 (fun q3 => ?_)
  refine J_if_ne 21 o dX10_needed_8 (by decide) q3 (fun c4 => ?_) (fun c5 => ?_)
  · have hf := ite_f c4 hf
    refine J_iconst o dX10_needed_21 ?_
    refine J_istore o dX10_needed_22 (Nat.le_of_ble_eq_true rfl) ?_
    refine J_aload_n o dX10_needed_24 rfl ?_
    refine J_aload_n o dX10_needed_25 rfl ?_
    obtain ⟨v7, e6, hf⟩ := bnd_some hf
    refine J_vR o g kr dX10_needed_26 lkX10_261 ml_Dm_present vl_Dm_present ⟨rfl, rfl, Nat.le_of_ble_eq_true rfl, Nat.le_of_ble_eq_true rfl⟩ (c_Dm_present g.2.1  e6) kA_1 rfl ⟨by decide, by decide⟩ rfl rfl (c1s_r c1s_0 (Nat.le_of_ble_eq_true rfl)) ?_
    refine J_iload_n o dX10_needed_29 rfl ?_
    refine J_iload_n o dX10_needed_30 rfl ?_
    refine J_iload_n o dX10_needed_31 rfl ?_
    refine J_iload o dX10_needed_32 rfl ?_
    obtain ⟨g9, hf⟩ := gd_some hf
    obtain ⟨v11, e10, hf⟩ := bnd_some hf
    refine J_vI o g kr dX10_needed_34 lkX10_265 ml_Dm_isIn vl_Dm_isIn ⟨rfl, rfl, Nat.le_of_ble_eq_true rfl, Nat.le_of_ble_eq_true rfl⟩ (c_Dm_isIn g.2.1 g9 r_x1 r_x2 r_x3 r_x4 e10) kA_1 rfl ⟨by decide, by decide⟩ rfl rfl c1s_0 (fun q12 => ?_)
    refine J_istore o dX10_needed_37 (Nat.le_of_ble_eq_true rfl) ?_
    refine J_iconst o dX10_needed_39 ?_
    refine J_istore o dX10_needed_40 (Nat.le_of_ble_eq_true rfl) ?_
    exact (t_Dm_needed_42 k r_x1 r_x2 r_x3 r_x4 q12 hf hc) rl0 rl0 _
  · have hf := ite_t c5 hf
    have hf := some_inj hf
    subst hf
    exact (show RetXI TA E K H0 cX10_needed _ from hc).2 (show (1 : Nat) ≠ 0 by decide) _ _ _ c1s_0 ⟨Or.inl rfl, dX10_needed_11, dX10_needed_14, 121, "no such relation", xs_121, Or.inl ⟨dX10_needed_15, dX10_needed_17, dX10_needed_20⟩⟩
theorem c_Dm_needed {E : EE} {l : Launch} (hst : l.stackTraces = false) (hI : Inj TA E) {w : World} {x1 : Int} {x2 : Int} {x3 : Int} {x4 : Int} (r_x1 : R32 x1) (r_x2 : R32 x2) (r_x3 : R32 x3) (r_x4 : R32 x4) {out : (World × Nat × Int)} (hf : f_Dm_needed w x1 x2 x3 x4 = some out) : ConXI TA E l yX10_needed (WS yX10_needed cX10_needed 9 (some .int)) rm_Dm_needed [rf E.ad 1, .int (ii x1), .int (ii x2), .int (ii x3), .int (ii x4)] w out :=
  con_XI (by decide +kernel) rfl rfl (Nat.le_of_ble_eq_true rfl) (c1s_r (c1s_i (c1s_i (c1s_i (c1s_i c1s_0 (Nat.le_of_ble_eq_true rfl)) (Nat.le_of_ble_eq_true rfl)) (Nat.le_of_ble_eq_true rfl)) (Nat.le_of_ble_eq_true rfl)) (Nat.le_of_ble_eq_true rfl)).1 ⟨rfl, rfl, Nat.le_of_ble_eq_true rfl, Nat.le_of_ble_eq_true rfl⟩ hI TnA hst (fun K H0 k hret => t_Dm_needed_0 k r_x1 r_x2 r_x3 r_x4 hf hret)
abbrev rm_Dm_whyNot : Room := { frames := 6, cells := 1, slots := 6, locals := 147 }
def HW_Dm_whyNot_84 (E : EE) (K : KT) (H0 : Heap) (x1 : Int) (x2 : Int) (x3 : Int) (x4 : Int) : (World × Int × Int × Int) → Prop := fun z => R32 z.2.1 → R32 z.2.2.1 → R32 z.2.2.2 → ∀ o8 : Option Value, Jj K (WdT TA E H0) z.1 84 [some (rf E.ad 1), some (.int (ii x1)), some (.int (ii x2)), some (.int (ii x3)), some (.int (ii x4)), some (.int (ii z.2.1)), some (.int (ii z.2.2.1)), some (.int (ii z.2.2.2)), o8] []
noncomputable def f_Dm_whyNot_134 (w : World) (x1 : Int) (x2 : Int) (x3 : Int) (x4 : Int) (x5 : Int) (x6 : Int) (x7 : Int) : Option ((World × Int × Int × Int) ⊕ (World × Nat × Int)) :=
  bl (wr (x7 + 1)) fun n1 => some (Sum.inl (w, x5, x6, n1))
theorem t_Dm_whyNot_134 {E : EE} {K : KT} {l : Launch} {H0 : Heap} (k : KofX TA E K H0 l cX10_whyNot RX10 rm_Dm_whyNot) {w : World} {x1 : Int} {x2 : Int} {x3 : Int} {x4 : Int} {x5 : Int} {x6 : Int} {x7 : Int} {o8 : Option Value} (r_x1 : R32 x1) (r_x2 : R32 x2) (r_x3 : R32 x3) (r_x4 : R32 x4) (r_x5 : R32 x5) (r_x6 : R32 x6) (r_x7 : R32 x7) {out : ((World × Int × Int × Int) ⊕ (World × Nat × Int))} (hf : f_Dm_whyNot_134 w x1 x2 x3 x4 x5 x6 x7 = some out) (hc : (Sum.elim (HW_Dm_whyNot_84 E K H0 x1 x2 x3 x4) (fun out : (World × Nat × Int) => RetXI TA E K H0 cX10_whyNot out)) out) : Jj K (WdT TA E H0) w 134 [some (rf E.ad 1), some (.int (ii x1)), some (.int (ii x2)), some (.int (ii x3)), some (.int (ii x4)), some (.int (ii x5)), some (.int (ii x6)), some (.int (ii x7)), o8] [] := by
  unfold f_Dm_whyNot_134 at hf
  have o := k.1
  have g := k.2.1
  have kr := k.2.2.1
  have gx := k.2.2.2.2
  have hf := bl_out hf
  refine J_iinc o dX10_whyNot_134 rfl ?_
  refine J_goto 84 o dX10_whyNot_137 (by decide) ?_
  have hf := some_inj hf
  subst hf
  exact hc r_x5 r_x6 (R_wr _) _
noncomputable def f_Dm_whyNot_84B (w : World) (x1 : Int) (x2 : Int) (x3 : Int) (x4 : Int) (x5 : Int) (x6 : Int) (x7 : Int) : Option ((World × Int × Int × Int) ⊕ (World × Nat × Int)) :=
  if (w 14 4) ≤ x7 then (if x5 = (-1) then (some (Sum.inr (w, 0, (-1)))) else (some (Sum.inr (w, 0, wr ((wr (10 * x5)) + x6))))) else (bnd (f_Pr_rule w x7) fun v7 => bnd (f_Dm_packed x2 x3 x4) fun v10 => gd (kdA v7 = 1) (bnd (f_Dm_literalsHeld w v7 x1 v10) fun v14 => if v14.2 ≤ x6 then (f_Dm_whyNot_134 v14.1 x1 x2 x3 x4 x5 x6 x7) else (f_Dm_whyNot_134 v14.1 x1 x2 x3 x4 x7 v14.2 x7)))
theorem t_Dm_whyNot_84B {E : EE} {K : KT} {l : Launch} {H0 : Heap} (k : KofX TA E K H0 l cX10_whyNot RX10 rm_Dm_whyNot) {w : World} {x1 : Int} {x2 : Int} {x3 : Int} {x4 : Int} {x5 : Int} {x6 : Int} {x7 : Int} {o8 : Option Value} (r_x1 : R32 x1) (r_x2 : R32 x2) (r_x3 : R32 x3) (r_x4 : R32 x4) (r_x5 : R32 x5) (r_x6 : R32 x6) (r_x7 : R32 x7) {out : ((World × Int × Int × Int) ⊕ (World × Nat × Int))} (hf : f_Dm_whyNot_84B w x1 x2 x3 x4 x5 x6 x7 = some out) (hc : (Sum.elim (HW_Dm_whyNot_84 E K H0 x1 x2 x3 x4) (fun out : (World × Nat × Int) => RetXI TA E K H0 cX10_whyNot out)) out) : Jj K (WdT TA E H0) w 84 [some (rf E.ad 1), some (.int (ii x1)), some (.int (ii x2)), some (.int (ii x3)), some (.int (ii x4)), some (.int (ii x5)), some (.int (ii x6)), some (.int (ii x7)), o8] [] := by
  unfold f_Dm_whyNot_84B at hf
  have o := k.1
  have g := k.2.1
  have kr := k.2.2.1
  have gx := k.2.2.2.2
  refine J_iload o dX10_whyNot_84 rfl ?_
  refine J_aload_n o dX10_whyNot_86 rfl ?_
  refine J_getF (true, 14) o g dX10_whyNot_87 flX10_39 kA_1 rfl rfl rfl ?_
  refine J_getI o g dX10_whyNot_90 flX10_217 kA_14 rfl (fun q1 => ?_)
  refine J_icmp_ge 140 o dX10_whyNot_93 (by decide) r_x7 q1 (fun c2 => ?_) (fun c3 => ?_)
  · have hf := ite_t c2 hf
    refine J_iload o dX10_whyNot_140 rfl ?_
    refine J_iconst o dX10_whyNot_142 ?_
    refine J_icmp_ne 150 o dX10_whyNot_143 (by decide) r_x5 rlm1 (fun c4 => ?_) (fun c5 => ?_)
    · have hf := ite_f c4 hf
      refine J_bipush o dX10_whyNot_150 (by decide) ?_
      refine J_iload o dX10_whyNot_152 rfl ?_
      refine J_imul o dX10_whyNot_154 ?_
      refine J_iload o dX10_whyNot_155 rfl ?_
      refine J_iadd o dX10_whyNot_157 ?_
      have hf := some_inj hf
      subst hf
      exact (show RetXI TA E K H0 cX10_whyNot _ from hc).1 rfl _ _ (R_wr _) dX10_whyNot_158
    · have hf := ite_t c5 hf
      refine J_iconst o dX10_whyNot_146 ?_
      refine J_goto 158 o dX10_whyNot_147 (by decide) ?_
      have hf := some_inj hf
      subst hf
      exact (show RetXI TA E K H0 cX10_whyNot _ from hc).1 rfl _ _ rlm1 dX10_whyNot_158
  · have hf := ite_f c3 hf
    refine J_aload_n o dX10_whyNot_96 rfl ?_
    refine J_aload_n o dX10_whyNot_97 rfl ?_
    refine J_getF (true, 14) o g dX10_whyNot_98 flX10_39 kA_1 rfl rfl rfl ?_
    refine J_iload o dX10_whyNot_101 rfl ?_
    obtain ⟨v7, e6, hf⟩ := bnd_some hf
    refine J_vR o g kr dX10_whyNot_103 lkX10_249 ml_Pr_rule vl_Pr_rule ⟨rfl, rfl, Nat.le_of_ble_eq_true rfl, Nat.le_of_ble_eq_true rfl⟩ (c_Pr_rule g.2.1 r_x7 e6) kA_14 rfl ⟨by decide, by decide⟩ rfl rfl (c1s_r c1s_0 (Nat.le_of_ble_eq_true rfl)) ?_
    refine J_iload_n o dX10_whyNot_106 rfl ?_
    refine J_iload_n o dX10_whyNot_107 rfl ?_
    refine J_iload_n o dX10_whyNot_108 rfl ?_
    refine J_iload o dX10_whyNot_109 rfl ?_
    obtain ⟨v10, e9, hf⟩ := bnd_some hf
    refine J_sI o g kr dX10_whyNot_111 lkX10_135 ml_Dm_packed mw607 ⟨rfl, rfl, Nat.le_of_ble_eq_true rfl, Nat.le_of_ble_eq_true rfl⟩ (c_Dm_packed g.2.1 r_x2 r_x3 r_x4 e9) rfl rfl (c1s_i (c1s_r (c1s_r c1s_0 (Nat.le_of_ble_eq_true rfl)) (Nat.le_of_ble_eq_true rfl)) (Nat.le_of_ble_eq_true rfl)) (fun q11 => ?_)
    obtain ⟨g12, hf⟩ := gd_some hf
    obtain ⟨v14, e13, hf⟩ := bnd_some hf
    refine J_vI o g kr dX10_whyNot_114 lkX10_319 ml_Dm_literalsHeld vl_Dm_literalsHeld ⟨rfl, rfl, Nat.le_of_ble_eq_true rfl, Nat.le_of_ble_eq_true rfl⟩ (c_Dm_literalsHeld g.2.1 g12 r_x1 q11 e13) kA_1 rfl ⟨by decide, by decide⟩ rfl rfl c1s_0 (fun q15 => ?_)
    refine J_istore o dX10_whyNot_117 (Nat.le_of_ble_eq_true rfl) ?_
    refine J_iload o dX10_whyNot_119 rfl ?_
    refine J_iload o dX10_whyNot_121 rfl ?_
    refine J_icmp_le 134 o dX10_whyNot_123 (by decide) q15 r_x6 (fun c16 => ?_) (fun c17 => ?_)
    · have hf := ite_t c16 hf
      exact t_Dm_whyNot_134 k r_x1 r_x2 r_x3 r_x4 r_x5 r_x6 r_x7 hf hc
    · have hf := ite_f c17 hf
      refine J_iload o dX10_whyNot_126 rfl ?_
      refine J_istore o dX10_whyNot_128 (Nat.le_of_ble_eq_true rfl) ?_
      refine J_iload o dX10_whyNot_130 rfl ?_
      refine J_istore o dX10_whyNot_132 (Nat.le_of_ble_eq_true rfl) ?_
      exact t_Dm_whyNot_134 k r_x1 r_x2 r_x3 r_x4 r_x7 q15 r_x7 hf hc
noncomputable def f_Dm_whyNot_84 (w : World) (x1 : Int) (x2 : Int) (x3 : Int) (x4 : Int) (x5 : Int) (x6 : Int) (x7 : Int) : Option (World × Nat × Int) :=
  lp (fun z : (World × Int × Int × Int) => f_Dm_whyNot_84B z.1 x1 x2 x3 x4 z.2.1 z.2.2.1 z.2.2.2) (w, x5, x6, x7)
theorem t_Dm_whyNot_84 {E : EE} {K : KT} {l : Launch} {H0 : Heap} (k : KofX TA E K H0 l cX10_whyNot RX10 rm_Dm_whyNot) {w : World} {x1 : Int} {x2 : Int} {x3 : Int} {x4 : Int} {x5 : Int} {x6 : Int} {x7 : Int} (r_x1 : R32 x1) (r_x2 : R32 x2) (r_x3 : R32 x3) (r_x4 : R32 x4) {out : (World × Nat × Int)} (hf : f_Dm_whyNot_84 w x1 x2 x3 x4 x5 x6 x7 = some out) (hc : (fun out : (World × Nat × Int) => RetXI TA E K H0 cX10_whyNot out) out) : HW_Dm_whyNot_84 E K H0 x1 x2 x3 x4 (w, x5, x6, x7) := by
  unfold f_Dm_whyNot_84 at hf
  refine lp_ind (P := HW_Dm_whyNot_84 E K H0 x1 x2 x3 x4) hf ?_
  intro z o hs h1 h2
  intro r_x5 r_x6 r_x7
  intro o8
  refine t_Dm_whyNot_84B k r_x1 r_x2 r_x3 r_x4 r_x5 r_x6 r_x7 hs ?_
  cases o with
  | inl z' => exact h1 z' rfl
  | inr r' => rw [h2 r' rfl]; exact hc
noncomputable def f_Dm_whyNot (w : World) (x1 : Int) (x2 : Int) (x3 : Int) (x4 : Int) : Option (World × Nat × Int) :=
  bnd (f_Sc_isDeclared w x1) fun v2 => if v2 = 0 then (some (w, 1, 0)) else (bnd (f_Sc_permits w x1 0 x2 x3 x4) fun v7 => if v7 = 0 then (some (w, 2, 0)) else (bnd (f_Dm_present w ) fun v12 => gd (kdA v12 = 6) (bnd (f_Dm_isIn w v12 x1 x2 x3 x4) fun v16 => if v16 = 0 then (f_Dm_whyNot_84 w x1 x2 x3 x4 (-1) (-1) 0) else (some (w, 3, 0)))))
theorem t_Dm_whyNot_0 {E : EE} {K : KT} {l : Launch} {H0 : Heap} (k : KofX TA E K H0 l cX10_whyNot RX10 rm_Dm_whyNot) {w : World} {x1 : Int} {x2 : Int} {x3 : Int} {x4 : Int} {o5 o6 o7 o8 : Option Value} (r_x1 : R32 x1) (r_x2 : R32 x2) (r_x3 : R32 x3) (r_x4 : R32 x4) {out : (World × Nat × Int)} (hf : f_Dm_whyNot w x1 x2 x3 x4 = some out) (hc : (fun out : (World × Nat × Int) => RetXI TA E K H0 cX10_whyNot out) out) : Jj K (WdT TA E H0) w 0 [some (rf E.ad 1), some (.int (ii x1)), some (.int (ii x2)), some (.int (ii x3)), some (.int (ii x4)), o5, o6, o7, o8] [] := by
  unfold f_Dm_whyNot at hf
  have o := k.1
  have g := k.2.1
  have kr := k.2.2.1
  have gx := k.2.2.2.2
  refine J_aload_n o dX10_whyNot_0 rfl ?_
  refine J_getF (true, 2) o g dX10_whyNot_1 flX10_31 kA_1 rfl rfl rfl ?_
  refine J_iload_n o dX10_whyNot_4 rfl ?_
  obtain ⟨v2, e1, hf⟩ := bnd_some hf
  refine J_vI o g kr dX10_whyNot_5 lkX10_108 ml_Sc_isDeclared vl_Sc_isDeclared ⟨rfl, rfl, Nat.le_of_ble_eq_true rfl, Nat.le_of_ble_eq_true rfl⟩ (c_Sc_isDeclared g.2.1 r_x1 e1) kA_2 rfl ⟨by decide, by decide⟩ rfl rfl c1s_0 (fun q3 => ?_)
  refine J_if_ne 21 o dX10_whyNot_8 (by decide) q3 (fun c4 => ?_) (fun c5 => ?_)
  · have hf := ite_f c4 hf
    refine J_aload_n o dX10_whyNot_21 rfl ?_
    refine J_getF (true, 2) o g dX10_whyNot_22 flX10_31 kA_1 rfl rfl rfl ?_
    refine J_iload_n o dX10_whyNot_25 rfl ?_
    refine J_iconst o dX10_whyNot_26 ?_
    refine J_iload_n o dX10_whyNot_27 rfl ?_
    refine J_iload_n o dX10_whyNot_28 rfl ?_
    refine J_iload o dX10_whyNot_29 rfl ?_
    obtain ⟨v7, e6, hf⟩ := bnd_some hf
    refine J_vI o g kr dX10_whyNot_31 lkX10_123 ml_Sc_permits vl_Sc_permits ⟨rfl, rfl, Nat.le_of_ble_eq_true rfl, Nat.le_of_ble_eq_true rfl⟩ (c_Sc_permits g.2.1 r_x1 rl0 r_x2 r_x3 r_x4 e6) kA_2 rfl ⟨by decide, by decide⟩ rfl rfl c1s_0 (fun q8 => ?_)
    refine J_if_ne 48 o dX10_whyNot_34 (by decide) q8 (fun c9 => ?_) (fun c10 => ?_)
    · have hf := ite_f c9 hf
      refine J_aload_n o dX10_whyNot_48 rfl ?_
      refine J_aload_n o dX10_whyNot_49 rfl ?_
      obtain ⟨v12, e11, hf⟩ := bnd_some hf
      refine J_vR o g kr dX10_whyNot_50 lkX10_261 ml_Dm_present vl_Dm_present ⟨rfl, rfl, Nat.le_of_ble_eq_true rfl, Nat.le_of_ble_eq_true rfl⟩ (c_Dm_present g.2.1  e11) kA_1 rfl ⟨by decide, by decide⟩ rfl rfl (c1s_r c1s_0 (Nat.le_of_ble_eq_true rfl)) ?_
      refine J_iload_n o dX10_whyNot_53 rfl ?_
      refine J_iload_n o dX10_whyNot_54 rfl ?_
      refine J_iload_n o dX10_whyNot_55 rfl ?_
      refine J_iload o dX10_whyNot_56 rfl ?_
      obtain ⟨g14, hf⟩ := gd_some hf
      obtain ⟨v16, e15, hf⟩ := bnd_some hf
      refine J_vI o g kr dX10_whyNot_58 lkX10_265 ml_Dm_isIn vl_Dm_isIn ⟨rfl, rfl, Nat.le_of_ble_eq_true rfl, Nat.le_of_ble_eq_true rfl⟩ (c_Dm_isIn g.2.1 g14 r_x1 r_x2 r_x3 r_x4 e15) kA_1 rfl ⟨by decide, by decide⟩ rfl rfl c1s_0 (fun q17 => ?_)
      refine J_if_eq 75 o dX10_whyNot_61 (by decide) q17 (fun c18 => ?_) (fun c19 => ?_)
      · have hf := ite_t c18 hf
        refine J_iconst o dX10_whyNot_75 ?_
        refine J_istore o dX10_whyNot_76 (Nat.le_of_ble_eq_true rfl) ?_
        refine J_iconst o dX10_whyNot_78 ?_
        refine J_istore o dX10_whyNot_79 (Nat.le_of_ble_eq_true rfl) ?_
        refine J_iconst o dX10_whyNot_81 ?_
        refine J_istore o dX10_whyNot_82 (Nat.le_of_ble_eq_true rfl) ?_
        exact (t_Dm_whyNot_84 k r_x1 r_x2 r_x3 r_x4 hf hc) rlm1 rlm1 rl0 _
      · have hf := ite_f c19 hf
        have hf := some_inj hf
        subst hf
        exact (show RetXI TA E K H0 cX10_whyNot _ from hc).2 (show (3 : Nat) ≠ 0 by decide) _ _ _ c1s_0 ⟨Or.inr (Or.inr rfl), dX10_whyNot_64, dX10_whyNot_67, 317, "it is in the model", xs_317, Or.inr ⟨dX10_whyNot_68, dX10_whyNot_71, dX10_whyNot_74⟩⟩
    · have hf := ite_t c10 hf
      have hf := some_inj hf
      subst hf
      exact (show RetXI TA E K H0 cX10_whyNot _ from hc).2 (show (2 : Nat) ≠ 0 by decide) _ _ _ c1s_0 ⟨Or.inr (Or.inl rfl), dX10_whyNot_37, dX10_whyNot_40, 315, "value out of range", xs_315, Or.inr ⟨dX10_whyNot_41, dX10_whyNot_44, dX10_whyNot_47⟩⟩
  · have hf := ite_t c5 hf
    have hf := some_inj hf
    subst hf
    exact (show RetXI TA E K H0 cX10_whyNot _ from hc).2 (show (1 : Nat) ≠ 0 by decide) _ _ _ c1s_0 ⟨Or.inl rfl, dX10_whyNot_11, dX10_whyNot_14, 121, "no such relation", xs_121, Or.inl ⟨dX10_whyNot_15, dX10_whyNot_17, dX10_whyNot_20⟩⟩
theorem c_Dm_whyNot {E : EE} {l : Launch} (hst : l.stackTraces = false) (hI : Inj TA E) {w : World} {x1 : Int} {x2 : Int} {x3 : Int} {x4 : Int} (r_x1 : R32 x1) (r_x2 : R32 x2) (r_x3 : R32 x3) (r_x4 : R32 x4) {out : (World × Nat × Int)} (hf : f_Dm_whyNot w x1 x2 x3 x4 = some out) : ConXI TA E l yX10_whyNot (WS yX10_whyNot cX10_whyNot 9 (some .int)) rm_Dm_whyNot [rf E.ad 1, .int (ii x1), .int (ii x2), .int (ii x3), .int (ii x4)] w out :=
  con_XI (by decide +kernel) rfl rfl (Nat.le_of_ble_eq_true rfl) (c1s_r (c1s_i (c1s_i (c1s_i (c1s_i c1s_0 (Nat.le_of_ble_eq_true rfl)) (Nat.le_of_ble_eq_true rfl)) (Nat.le_of_ble_eq_true rfl)) (Nat.le_of_ble_eq_true rfl)) (Nat.le_of_ble_eq_true rfl)).1 ⟨rfl, rfl, Nat.le_of_ble_eq_true rfl, Nat.le_of_ble_eq_true rfl⟩ hI TnA hst (fun K H0 k hret => t_Dm_whyNot_0 k r_x1 r_x2 r_x3 r_x4 hf hret)
abbrev rm_Dm_goals : Room := { frames := 6, cells := 1, slots := 6, locals := 152 }
def HW_Dm_goals_77 (E : EE) (K : KT) (H0 : Heap)  : (World × Int) → Prop := fun z => R32 z.2 → ∀ o1 o2 o3 o4 : Option Value, Jj K (WdT TA E H0) z.1 77 [some (rf E.ad 1), o1, o2, o3, o4, some (.int (ii z.2))] []
noncomputable def f_Dm_goals_121 (w : World) : Option (World × Nat × Int) :=
  some (w, 0, w 152 0)
theorem t_Dm_goals_121 {E : EE} {K : KT} {l : Launch} {H0 : Heap} (k : KofX TA E K H0 l cX10_goals RX10 rm_Dm_goals) {w : World} {o1 o2 o3 o4 o5 : Option Value}  {out : (World × Nat × Int)} (hf : f_Dm_goals_121 w = some out) (hc : (fun out : (World × Nat × Int) => RetXI TA E K H0 cX10_goals out) out) : Jj K (WdT TA E H0) w 121 [some (rf E.ad 1), o1, o2, o3, o4, o5] [] := by
  unfold f_Dm_goals_121 at hf
  have o := k.1
  have g := k.2.1
  have kr := k.2.2.1
  have gx := k.2.2.2.2
  refine J_aload_n o dX10_goals_121 rfl ?_
  refine J_getF (true, 152) o g dX10_goals_122 flX10_81 kA_1 rfl rfl rfl ?_
  refine J_getI o g dX10_goals_125 flX10_339 kA_152 rfl (fun q1 => ?_)
  have hf := some_inj hf
  subst hf
  exact (show RetXI TA E K H0 cX10_goals _ from hc).1 rfl _ _ q1 dX10_goals_128
noncomputable def f_Dm_goals_77B (w : World) (x5 : Int) : Option ((World × Int) ⊕ (World × Nat × Int)) :=
  if (w 152 0) ≤ x5 then (bnd (f_Dm_goals_121 w) fun y4 => some (Sum.inr y4)) else (if 400 ≤ (w 152 0) then (bnd (f_Dm_goals_121 w) fun y8 => some (Sum.inr y8)) else (bnd (f_Go_goalAt w x5) fun v10 => bnd (f_Dm_askFor w v10) fun v13 => bl (wr (x5 + 1)) fun n15 => some (Sum.inl (v13, n15))))
theorem t_Dm_goals_77B {E : EE} {K : KT} {l : Launch} {H0 : Heap} (k : KofX TA E K H0 l cX10_goals RX10 rm_Dm_goals) {w : World} {x5 : Int} {o1 o2 o3 o4 : Option Value} (r_x5 : R32 x5) {out : ((World × Int) ⊕ (World × Nat × Int))} (hf : f_Dm_goals_77B w x5 = some out) (hc : (Sum.elim (HW_Dm_goals_77 E K H0 ) (fun out : (World × Nat × Int) => RetXI TA E K H0 cX10_goals out)) out) : Jj K (WdT TA E H0) w 77 [some (rf E.ad 1), o1, o2, o3, o4, some (.int (ii x5))] [] := by
  unfold f_Dm_goals_77B at hf
  have o := k.1
  have g := k.2.1
  have kr := k.2.2.1
  have gx := k.2.2.2.2
  refine J_iload o dX10_goals_77 rfl ?_
  refine J_aload_n o dX10_goals_79 rfl ?_
  refine J_getF (true, 152) o g dX10_goals_80 flX10_81 kA_1 rfl rfl rfl ?_
  refine J_getI o g dX10_goals_83 flX10_339 kA_152 rfl (fun q1 => ?_)
  refine J_icmp_ge 121 o dX10_goals_86 (by decide) r_x5 q1 (fun c2 => ?_) (fun c3 => ?_)
  · have hf := ite_t c2 hf
    obtain ⟨y4, hf1, hf⟩ := bnd_some hf
    have hf := some_inj hf
    subst hf
    exact t_Dm_goals_121 k  hf1 hc
  · have hf := ite_f c3 hf
    refine J_aload_n o dX10_goals_89 rfl ?_
    refine J_getF (true, 152) o g dX10_goals_90 flX10_81 kA_1 rfl rfl rfl ?_
    refine J_getI o g dX10_goals_93 flX10_339 kA_152 rfl (fun q5 => ?_)
    refine J_sipush o dX10_goals_96 (by decide) ?_
    refine J_icmp_ge 121 o dX10_goals_99 (by decide) q5 rl400 (fun c6 => ?_) (fun c7 => ?_)
    · have hf := ite_t c6 hf
      obtain ⟨y8, hf1, hf⟩ := bnd_some hf
      have hf := some_inj hf
      subst hf
      exact t_Dm_goals_121 k  hf1 hc
    · have hf := ite_f c7 hf
      refine J_aload_n o dX10_goals_102 rfl ?_
      refine J_aload_n o dX10_goals_103 rfl ?_
      refine J_getF (true, 152) o g dX10_goals_104 flX10_81 kA_1 rfl rfl rfl ?_
      refine J_iload o dX10_goals_107 rfl ?_
      obtain ⟨v10, e9, hf⟩ := bnd_some hf
      refine J_vI o g kr dX10_goals_109 lkX10_340 ml_Go_goalAt vl_Go_goalAt ⟨rfl, rfl, Nat.le_of_ble_eq_true rfl, Nat.le_of_ble_eq_true rfl⟩ (c_Go_goalAt g.2.1 r_x5 e9) kA_152 rfl ⟨by decide, by decide⟩ rfl rfl (c1s_r c1s_0 (Nat.le_of_ble_eq_true rfl)) (fun q11 => ?_)
      obtain ⟨v13, e12, hf⟩ := bnd_some hf
      refine J_vV o g kr dX10_goals_112 lkX10_343 ml_Dm_askFor vl_Dm_askFor ⟨rfl, rfl, Nat.le_of_ble_eq_true rfl, Nat.le_of_ble_eq_true rfl⟩ (c_Dm_askFor g.2.1 q11 e12) kA_1 rfl ⟨by decide, by decide⟩ rfl rfl c1s_0 ?_
      have hf := bl_out hf
      refine J_iinc o dX10_goals_115 rfl ?_
      refine J_goto 77 o dX10_goals_118 (by decide) ?_
      have hf := some_inj hf
      subst hf
      exact hc (R_wr _) _ _ _ _
noncomputable def f_Dm_goals_77 (w : World) (x5 : Int) : Option (World × Nat × Int) :=
  lp (fun z : (World × Int) => f_Dm_goals_77B z.1 z.2) (w, x5)
theorem t_Dm_goals_77 {E : EE} {K : KT} {l : Launch} {H0 : Heap} (k : KofX TA E K H0 l cX10_goals RX10 rm_Dm_goals) {w : World} {x5 : Int}  {out : (World × Nat × Int)} (hf : f_Dm_goals_77 w x5 = some out) (hc : (fun out : (World × Nat × Int) => RetXI TA E K H0 cX10_goals out) out) : HW_Dm_goals_77 E K H0  (w, x5) := by
  unfold f_Dm_goals_77 at hf
  refine lp_ind (P := HW_Dm_goals_77 E K H0 ) hf ?_
  intro z o hs h1 h2
  intro r_x5
  intro o1 o2 o3 o4
  refine t_Dm_goals_77B k r_x5 hs ?_
  cases o with
  | inl z' => exact h1 z' rfl
  | inr r' => rw [h2 r' rfl]; exact hc
noncomputable def f_Dm_goals (w : World) (x1 : Int) (x2 : Int) (x3 : Int) (x4 : Int) : Option (World × Nat × Int) :=
  bnd (f_Sc_isDeclared w x1) fun v2 => if v2 = 0 then (some (w, 1, 0)) else (bnd (f_Sc_permits w x1 2 x2 x3 x4) fun v7 => if v7 = 0 then (some (w, 2, 0)) else (bnd (f_Go_empty w ) fun v12 => bnd (f_Sc_goalOf v12 x1 x2 x3 x4) fun v15 => bnd (f_Go_ask v12 v15) fun v18 => f_Dm_goals_77 v18 0))
theorem t_Dm_goals_0 {E : EE} {K : KT} {l : Launch} {H0 : Heap} (k : KofX TA E K H0 l cX10_goals RX10 rm_Dm_goals) {w : World} {x1 : Int} {x2 : Int} {x3 : Int} {x4 : Int} {o5 : Option Value} (r_x1 : R32 x1) (r_x2 : R32 x2) (r_x3 : R32 x3) (r_x4 : R32 x4) {out : (World × Nat × Int)} (hf : f_Dm_goals w x1 x2 x3 x4 = some out) (hc : (fun out : (World × Nat × Int) => RetXI TA E K H0 cX10_goals out) out) : Jj K (WdT TA E H0) w 0 [some (rf E.ad 1), some (.int (ii x1)), some (.int (ii x2)), some (.int (ii x3)), some (.int (ii x4)), o5] [] := by
  unfold f_Dm_goals at hf
  have o := k.1
  have g := k.2.1
  have kr := k.2.2.1
  have gx := k.2.2.2.2
  refine J_aload_n o dX10_goals_0 rfl ?_
  refine J_getF (true, 2) o g dX10_goals_1 flX10_31 kA_1 rfl rfl rfl ?_
  refine J_iload_n o dX10_goals_4 rfl ?_
  obtain ⟨v2, e1, hf⟩ := bnd_some hf
  refine J_vI o g kr dX10_goals_5 lkX10_108 ml_Sc_isDeclared vl_Sc_isDeclared ⟨rfl, rfl, Nat.le_of_ble_eq_true rfl, Nat.le_of_ble_eq_true rfl⟩ (c_Sc_isDeclared g.2.1 r_x1 e1) kA_2 rfl ⟨by decide, by decide⟩ rfl rfl c1s_0 (fun q3 => ?_)
  refine J_if_ne 21 o dX10_goals_8 (by decide) q3 (fun c4 => ?_) (fun c5 => ?_)
  · have hf := ite_f c4 hf
    refine J_aload_n o dX10_goals_21 rfl ?_
    refine J_getF (true, 2) o g dX10_goals_22 flX10_31 kA_1 rfl rfl rfl ?_
    refine J_iload_n o dX10_goals_25 rfl ?_
    refine J_iconst o dX10_goals_26 ?_
    refine J_iload_n o dX10_goals_27 rfl ?_
    refine J_iload_n o dX10_goals_28 rfl ?_
    refine J_iload o dX10_goals_29 rfl ?_
    obtain ⟨v7, e6, hf⟩ := bnd_some hf
    refine J_vI o g kr dX10_goals_31 lkX10_123 ml_Sc_permits vl_Sc_permits ⟨rfl, rfl, Nat.le_of_ble_eq_true rfl, Nat.le_of_ble_eq_true rfl⟩ (c_Sc_permits g.2.1 r_x1 rl2 r_x2 r_x3 r_x4 e6) kA_2 rfl ⟨by decide, by decide⟩ rfl rfl c1s_0 (fun q8 => ?_)
    refine J_if_ne 48 o dX10_goals_34 (by decide) q8 (fun c9 => ?_) (fun c10 => ?_)
    · have hf := ite_f c9 hf
      refine J_aload_n o dX10_goals_48 rfl ?_
      refine J_getF (true, 152) o g dX10_goals_49 flX10_81 kA_1 rfl rfl rfl ?_
      obtain ⟨v12, e11, hf⟩ := bnd_some hf
      refine J_vV o g kr dX10_goals_52 lkX10_330 ml_Go_empty vl_Go_empty ⟨rfl, rfl, Nat.le_of_ble_eq_true rfl, Nat.le_of_ble_eq_true rfl⟩ (c_Go_empty g.2.1  e11) kA_152 rfl ⟨by decide, by decide⟩ rfl rfl c1s_0 ?_
      refine J_aload_n o dX10_goals_55 rfl ?_
      refine J_getF (true, 152) o g dX10_goals_56 flX10_81 kA_1 rfl rfl rfl ?_
      refine J_aload_n o dX10_goals_59 rfl ?_
      refine J_getF (true, 2) o g dX10_goals_60 flX10_31 kA_1 rfl rfl rfl ?_
      refine J_iload_n o dX10_goals_63 rfl ?_
      refine J_iload_n o dX10_goals_64 rfl ?_
      refine J_iload_n o dX10_goals_65 rfl ?_
      refine J_iload o dX10_goals_66 rfl ?_
      obtain ⟨v15, e14, hf⟩ := bnd_some hf
      refine J_vI o g kr dX10_goals_68 lkX10_331 ml_Sc_goalOf vl_Sc_goalOf ⟨rfl, rfl, Nat.le_of_ble_eq_true rfl, Nat.le_of_ble_eq_true rfl⟩ (c_Sc_goalOf g.2.1 r_x1 r_x2 r_x3 r_x4 e14) kA_2 rfl ⟨by decide, by decide⟩ rfl rfl (c1s_r c1s_0 (Nat.le_of_ble_eq_true rfl)) (fun q16 => ?_)
      obtain ⟨v18, e17, hf⟩ := bnd_some hf
      refine J_vV o g kr dX10_goals_71 lkX10_335 ml_Go_ask vl_Go_ask ⟨rfl, rfl, Nat.le_of_ble_eq_true rfl, Nat.le_of_ble_eq_true rfl⟩ (c_Go_ask g.2.1 q16 e17) kA_152 rfl ⟨by decide, by decide⟩ rfl rfl c1s_0 ?_
      refine J_iconst o dX10_goals_74 ?_
      refine J_istore o dX10_goals_75 (Nat.le_of_ble_eq_true rfl) ?_
      exact (t_Dm_goals_77 k  hf hc) rl0 _ _ _ _
    · have hf := ite_t c10 hf
      have hf := some_inj hf
      subst hf
      exact (show RetXI TA E K H0 cX10_goals _ from hc).2 (show (2 : Nat) ≠ 0 by decide) _ _ _ c1s_0 ⟨Or.inr (Or.inl rfl), dX10_goals_37, dX10_goals_40, 315, "value out of range", xs_315, Or.inr ⟨dX10_goals_41, dX10_goals_44, dX10_goals_47⟩⟩
  · have hf := ite_t c5 hf
    have hf := some_inj hf
    subst hf
    exact (show RetXI TA E K H0 cX10_goals _ from hc).2 (show (1 : Nat) ≠ 0 by decide) _ _ _ c1s_0 ⟨Or.inl rfl, dX10_goals_11, dX10_goals_14, 121, "no such relation", xs_121, Or.inl ⟨dX10_goals_15, dX10_goals_17, dX10_goals_20⟩⟩
theorem c_Dm_goals {E : EE} {l : Launch} (hst : l.stackTraces = false) (hI : Inj TA E) {w : World} {x1 : Int} {x2 : Int} {x3 : Int} {x4 : Int} (r_x1 : R32 x1) (r_x2 : R32 x2) (r_x3 : R32 x3) (r_x4 : R32 x4) {out : (World × Nat × Int)} (hf : f_Dm_goals w x1 x2 x3 x4 = some out) : ConXI TA E l yX10_goals (WS yX10_goals cX10_goals 6 (some .int)) rm_Dm_goals [rf E.ad 1, .int (ii x1), .int (ii x2), .int (ii x3), .int (ii x4)] w out :=
  con_XI (by decide +kernel) rfl rfl (Nat.le_of_ble_eq_true rfl) (c1s_r (c1s_i (c1s_i (c1s_i (c1s_i c1s_0 (Nat.le_of_ble_eq_true rfl)) (Nat.le_of_ble_eq_true rfl)) (Nat.le_of_ble_eq_true rfl)) (Nat.le_of_ble_eq_true rfl)) (Nat.le_of_ble_eq_true rfl)).1 ⟨rfl, rfl, Nat.le_of_ble_eq_true rfl, Nat.le_of_ble_eq_true rfl⟩ hI TnA hst (fun K H0 k hret => t_Dm_goals_0 k r_x1 r_x2 r_x3 r_x4 hf hret)
abbrev rm_Dm_order : Room := { frames := 6, cells := 1, slots := 6, locals := 104 }
noncomputable def f_Dm_order (w : World) (x1 : Int) (x2 : Int) : Option (World × Nat × Int) :=
  bnd (f_Pr_hasRule w x1) fun v2 => if v2 = 0 then (some (w, 1, 0)) else (if 0 ≤ x2 then (bnd (f_Pr_rule w x1) fun v9 => gd (kdA v9 = 1) (bnd (f_Pl_make w v9) fun v13 => bnd (f_Pl_placeAt v13 x2) fun v16 => some (v13, 0, v16))) else (some (w, 1, 0)))
theorem t_Dm_order_0 {E : EE} {K : KT} {l : Launch} {H0 : Heap} (k : KofX TA E K H0 l cX10_order RX10 rm_Dm_order) {w : World} {x1 : Int} {x2 : Int} (r_x1 : R32 x1) (r_x2 : R32 x2) {out : (World × Nat × Int)} (hf : f_Dm_order w x1 x2 = some out) (hc : (fun out : (World × Nat × Int) => RetXI TA E K H0 cX10_order out) out) : Jj K (WdT TA E H0) w 0 [some (rf E.ad 1), some (.int (ii x1)), some (.int (ii x2))] [] := by
  unfold f_Dm_order at hf
  have o := k.1
  have g := k.2.1
  have kr := k.2.2.1
  have gx := k.2.2.2.2
  refine J_aload_n o dX10_order_0 rfl ?_
  refine J_getF (true, 14) o g dX10_order_1 flX10_39 kA_1 rfl rfl rfl ?_
  refine J_iload_n o dX10_order_4 rfl ?_
  obtain ⟨v2, e1, hf⟩ := bnd_some hf
  refine J_vI o g kr dX10_order_5 lkX10_244 ml_Pr_hasRule vl_Pr_hasRule ⟨rfl, rfl, Nat.le_of_ble_eq_true rfl, Nat.le_of_ble_eq_true rfl⟩ (c_Pr_hasRule g.2.1 r_x1 e1) kA_14 rfl ⟨by decide, by decide⟩ rfl rfl c1s_0 (fun q3 => ?_)
  refine J_if_eq 15 o dX10_order_8 (by decide) q3 (fun c4 => ?_) (fun c5 => ?_)
  · have hf := ite_t c4 hf
    have hf := some_inj hf
    subst hf
    exact (show RetXI TA E K H0 cX10_order _ from hc).2 (show (1 : Nat) ≠ 0 by decide) _ _ _ c1s_0 ⟨Or.inl rfl, dX10_order_15, dX10_order_18, 346, "no such rule, or no such place", xs_346, Or.inr ⟨dX10_order_19, dX10_order_22, dX10_order_25⟩⟩
  · have hf := ite_f c5 hf
    refine J_iload_n o dX10_order_11 rfl ?_
    refine J_if_ge 26 o dX10_order_12 (by decide) r_x2 (fun c6 => ?_) (fun c7 => ?_)
    · have hf := ite_t c6 hf
      refine J_aload_n o dX10_order_26 rfl ?_
      refine J_getF (true, 155) o g dX10_order_27 flX10_88 kA_1 rfl rfl rfl ?_
      refine J_aload_n o dX10_order_30 rfl ?_
      refine J_getF (true, 14) o g dX10_order_31 flX10_39 kA_1 rfl rfl rfl ?_
      refine J_iload_n o dX10_order_34 rfl ?_
      obtain ⟨v9, e8, hf⟩ := bnd_some hf
      refine J_vR o g kr dX10_order_35 lkX10_249 ml_Pr_rule vl_Pr_rule ⟨rfl, rfl, Nat.le_of_ble_eq_true rfl, Nat.le_of_ble_eq_true rfl⟩ (c_Pr_rule g.2.1 r_x1 e8) kA_14 rfl ⟨by decide, by decide⟩ rfl rfl (c1s_r c1s_0 (Nat.le_of_ble_eq_true rfl)) ?_
      refine J_aload_n o dX10_order_38 rfl ?_
      refine J_getF (true, 2) o g dX10_order_39 flX10_31 kA_1 rfl rfl rfl ?_
      obtain ⟨g11, hf⟩ := gd_some hf
      obtain ⟨v13, e12, hf⟩ := bnd_some hf
      refine J_vV o g kr dX10_order_42 lkX10_348 ml_Pl_make vl_Pl_make ⟨rfl, rfl, Nat.le_of_ble_eq_true rfl, Nat.le_of_ble_eq_true rfl⟩ (c_Pl_make g.2.1 g11 e12) kA_155 rfl ⟨by decide, by decide⟩ rfl rfl c1s_0 ?_
      refine J_aload_n o dX10_order_45 rfl ?_
      refine J_getF (true, 155) o g dX10_order_46 flX10_88 kA_1 rfl rfl rfl ?_
      refine J_iload_n o dX10_order_49 rfl ?_
      obtain ⟨v16, e15, hf⟩ := bnd_some hf
      refine J_vI o g kr dX10_order_50 lkX10_352 ml_Pl_placeAt vl_Pl_placeAt ⟨rfl, rfl, Nat.le_of_ble_eq_true rfl, Nat.le_of_ble_eq_true rfl⟩ (c_Pl_placeAt g.2.1 r_x2 e15) kA_155 rfl ⟨by decide, by decide⟩ rfl rfl c1s_0 (fun q17 => ?_)
      have hf := some_inj hf
      subst hf
      exact (show RetXI TA E K H0 cX10_order _ from hc).1 rfl _ _ q17 dX10_order_53
    · have hf := ite_f c7 hf
      have hf := some_inj hf
      subst hf
      exact (show RetXI TA E K H0 cX10_order _ from hc).2 (show (1 : Nat) ≠ 0 by decide) _ _ _ c1s_0 ⟨Or.inl rfl, dX10_order_15, dX10_order_18, 346, "no such rule, or no such place", xs_346, Or.inr ⟨dX10_order_19, dX10_order_22, dX10_order_25⟩⟩
theorem c_Dm_order {E : EE} {l : Launch} (hst : l.stackTraces = false) (hI : Inj TA E) {w : World} {x1 : Int} {x2 : Int} (r_x1 : R32 x1) (r_x2 : R32 x2) {out : (World × Nat × Int)} (hf : f_Dm_order w x1 x2 = some out) : ConXI TA E l yX10_order (WS yX10_order cX10_order 3 (some .int)) rm_Dm_order [rf E.ad 1, .int (ii x1), .int (ii x2)] w out :=
  con_XI (by decide +kernel) rfl rfl (Nat.le_of_ble_eq_true rfl) (c1s_r (c1s_i (c1s_i c1s_0 (Nat.le_of_ble_eq_true rfl)) (Nat.le_of_ble_eq_true rfl)) (Nat.le_of_ble_eq_true rfl)).1 ⟨rfl, rfl, Nat.le_of_ble_eq_true rfl, Nat.le_of_ble_eq_true rfl⟩ hI TnA hst (fun K H0 k hret => t_Dm_order_0 k r_x1 r_x2 hf hret)
abbrev rm_Dm_joins : Room := { frames := 6, cells := 1, slots := 6, locals := 100 }
def HW_Dm_joins_35 (E : EE) (K : KT) (H0 : Heap) (w : World) (t2 : Nat) : (Int × Int) → Prop := fun z => R32 z.1 → R32 z.2 → ∀ o1 : Option Value, Jj K (WdT TA E H0) w 35 [some (rf E.ad 1), o1, some (rf E.ad t2), some (.int (ii z.1)), some (.int (ii z.2))] []
noncomputable def f_Dm_joins_66 (w : World) (t2 : Nat) (x3 : Int) (x4 : Int) : Option ((Int × Int) ⊕ (World × Nat × Int)) :=
  bl (wr (x4 + 1)) fun n1 => some (Sum.inl (x3, n1))
theorem t_Dm_joins_66 {E : EE} {K : KT} {l : Launch} {H0 : Heap} (k : KofX TA E K H0 l cX10_joins RX10 rm_Dm_joins) {w : World} {t2 : Nat} {x3 : Int} {x4 : Int} {o1 : Option Value} (k_t2 : TA.kd t2 = 1) (r_x3 : R32 x3) (r_x4 : R32 x4) {out : ((Int × Int) ⊕ (World × Nat × Int))} (hf : f_Dm_joins_66 w t2 x3 x4 = some out) (hc : (Sum.elim (HW_Dm_joins_35 E K H0 w t2) (fun out : (World × Nat × Int) => RetXI TA E K H0 cX10_joins out)) out) : Jj K (WdT TA E H0) w 66 [some (rf E.ad 1), o1, some (rf E.ad t2), some (.int (ii x3)), some (.int (ii x4))] [] := by
  unfold f_Dm_joins_66 at hf
  have o := k.1
  have g := k.2.1
  have kr := k.2.2.1
  have gx := k.2.2.2.2
  have hf := bl_out hf
  refine J_iinc o dX10_joins_66 rfl ?_
  refine J_goto 35 o dX10_joins_69 (by decide) ?_
  have hf := some_inj hf
  subst hf
  exact hc r_x3 (R_wr _) _
noncomputable def f_Dm_joins_35B (w : World) (t2 : Nat) (x3 : Int) (x4 : Int) : Option ((Int × Int) ⊕ (World × Nat × Int)) :=
  gd (kdA t2 = 1) (if (w t2 0) ≤ x4 then (some (Sum.inr (w, 0, x3))) else (bnd (f_Bo_formOf w t2 x4) fun v6 => if v6 = 0 then (bnd (f_Dm_isNeedless w t2 x4) fun v11 => if v11 = 0 then (bl (wr (x3 + 1)) fun n15 => f_Dm_joins_66 w t2 n15 x4) else (f_Dm_joins_66 w t2 x3 x4)) else (f_Dm_joins_66 w t2 x3 x4)))
theorem t_Dm_joins_35B {E : EE} {K : KT} {l : Launch} {H0 : Heap} (k : KofX TA E K H0 l cX10_joins RX10 rm_Dm_joins) {w : World} {t2 : Nat} {x3 : Int} {x4 : Int} {o1 : Option Value} (r_x3 : R32 x3) (r_x4 : R32 x4) {out : ((Int × Int) ⊕ (World × Nat × Int))} (hf : f_Dm_joins_35B w t2 x3 x4 = some out) (hc : (Sum.elim (HW_Dm_joins_35 E K H0 w t2) (fun out : (World × Nat × Int) => RetXI TA E K H0 cX10_joins out)) out) : Jj K (WdT TA E H0) w 35 [some (rf E.ad 1), o1, some (rf E.ad t2), some (.int (ii x3)), some (.int (ii x4))] [] := by
  unfold f_Dm_joins_35B at hf
  have o := k.1
  have g := k.2.1
  have kr := k.2.2.1
  have gx := k.2.2.2.2
  refine J_iload o dX10_joins_35 rfl ?_
  refine J_aload_n o dX10_joins_37 rfl ?_
  obtain ⟨g1, hf⟩ := gd_some hf
  refine J_getI o g dX10_joins_38 flX10_187 g1 rfl (fun q2 => ?_)
  refine J_icmp_ge 72 o dX10_joins_41 (by decide) r_x4 q2 (fun c3 => ?_) (fun c4 => ?_)
  · have hf := ite_t c3 hf
    refine J_iload_n o dX10_joins_72 rfl ?_
    have hf := some_inj hf
    subst hf
    exact (show RetXI TA E K H0 cX10_joins _ from hc).1 rfl _ _ r_x3 dX10_joins_73
  · have hf := ite_f c4 hf
    refine J_aload_n o dX10_joins_44 rfl ?_
    refine J_iload o dX10_joins_45 rfl ?_
    obtain ⟨v6, e5, hf⟩ := bnd_some hf
    refine J_vI o g kr dX10_joins_47 lkX10_355 ml_Bo_formOf vl_Bo_formOf ⟨rfl, rfl, Nat.le_of_ble_eq_true rfl, Nat.le_of_ble_eq_true rfl⟩ (c_Bo_formOf g.2.1 g1 r_x4 e5) g1 rfl ⟨by decide, by decide⟩ rfl rfl c1s_0 (fun q7 => ?_)
    refine J_if_ne 66 o dX10_joins_50 (by decide) q7 (fun c8 => ?_) (fun c9 => ?_)
    · have hf := ite_f c8 hf
      exact t_Dm_joins_66 k g1 r_x3 r_x4 hf hc
    · have hf := ite_t c9 hf
      refine J_aload_n o dX10_joins_53 rfl ?_
      refine J_aload_n o dX10_joins_54 rfl ?_
      refine J_iload o dX10_joins_55 rfl ?_
      obtain ⟨v11, e10, hf⟩ := bnd_some hf
      refine J_vI o g kr dX10_joins_57 lkX10_358 ml_Dm_isNeedless vl_Dm_isNeedless ⟨rfl, rfl, Nat.le_of_ble_eq_true rfl, Nat.le_of_ble_eq_true rfl⟩ (c_Dm_isNeedless g.2.1 g1 r_x4 e10) kA_1 rfl ⟨by decide, by decide⟩ rfl rfl c1s_0 (fun q12 => ?_)
      refine J_if_ne 66 o dX10_joins_60 (by decide) q12 (fun c13 => ?_) (fun c14 => ?_)
      · have hf := ite_f c13 hf
        exact t_Dm_joins_66 k g1 r_x3 r_x4 hf hc
      · have hf := ite_t c14 hf
        have hf := bl_out hf
        refine J_iinc o dX10_joins_63 rfl ?_
        exact t_Dm_joins_66 k g1 (R_wr _) r_x4 hf hc
noncomputable def f_Dm_joins_35 (w : World) (t2 : Nat) (x3 : Int) (x4 : Int) : Option (World × Nat × Int) :=
  lp (fun z : (Int × Int) => f_Dm_joins_35B w t2 z.1 z.2) (x3, x4)
theorem t_Dm_joins_35 {E : EE} {K : KT} {l : Launch} {H0 : Heap} (k : KofX TA E K H0 l cX10_joins RX10 rm_Dm_joins) {w : World} {t2 : Nat} {x3 : Int} {x4 : Int}  {out : (World × Nat × Int)} (hf : f_Dm_joins_35 w t2 x3 x4 = some out) (hc : (fun out : (World × Nat × Int) => RetXI TA E K H0 cX10_joins out) out) : HW_Dm_joins_35 E K H0 w t2 (x3, x4) := by
  unfold f_Dm_joins_35 at hf
  refine lp_ind (P := HW_Dm_joins_35 E K H0 w t2) hf ?_
  intro z o hs h1 h2
  intro r_x3 r_x4
  intro o1
  refine t_Dm_joins_35B k r_x3 r_x4 hs ?_
  cases o with
  | inl z' => exact h1 z' rfl
  | inr r' => rw [h2 r' rfl]; exact hc
noncomputable def f_Dm_joins (w : World) (x1 : Int) : Option (World × Nat × Int) :=
  bnd (f_Pr_hasRule w x1) fun v2 => if v2 = 0 then (some (w, 1, 0)) else (bnd (f_Pr_rule w x1) fun v7 => f_Dm_joins_35 w v7 0 0)
theorem t_Dm_joins_0 {E : EE} {K : KT} {l : Launch} {H0 : Heap} (k : KofX TA E K H0 l cX10_joins RX10 rm_Dm_joins) {w : World} {x1 : Int} {o2 o3 o4 : Option Value} (r_x1 : R32 x1) {out : (World × Nat × Int)} (hf : f_Dm_joins w x1 = some out) (hc : (fun out : (World × Nat × Int) => RetXI TA E K H0 cX10_joins out) out) : Jj K (WdT TA E H0) w 0 [some (rf E.ad 1), some (.int (ii x1)), o2, o3, o4] [] := by
  unfold f_Dm_joins at hf
  have o := k.1
  have g := k.2.1
  have kr := k.2.2.1
  have gx := k.2.2.2.2
  refine J_aload_n o dX10_joins_0 rfl ?_
  refine J_getF (true, 14) o g dX10_joins_1 flX10_39 kA_1 rfl rfl rfl ?_
  refine J_iload_n o dX10_joins_4 rfl ?_
  obtain ⟨v2, e1, hf⟩ := bnd_some hf
  refine J_vI o g kr dX10_joins_5 lkX10_244 ml_Pr_hasRule vl_Pr_hasRule ⟨rfl, rfl, Nat.le_of_ble_eq_true rfl, Nat.le_of_ble_eq_true rfl⟩ (c_Pr_hasRule g.2.1 r_x1 e1) kA_14 rfl ⟨by decide, by decide⟩ rfl rfl c1s_0 (fun q3 => ?_)
  refine J_if_ne 21 o dX10_joins_8 (by decide) q3 (fun c4 => ?_) (fun c5 => ?_)
  · have hf := ite_f c4 hf
    refine J_aload_n o dX10_joins_21 rfl ?_
    refine J_getF (true, 14) o g dX10_joins_22 flX10_39 kA_1 rfl rfl rfl ?_
    refine J_iload_n o dX10_joins_25 rfl ?_
    obtain ⟨v7, e6, hf⟩ := bnd_some hf
    refine J_vR o g kr dX10_joins_26 lkX10_249 ml_Pr_rule vl_Pr_rule ⟨rfl, rfl, Nat.le_of_ble_eq_true rfl, Nat.le_of_ble_eq_true rfl⟩ (c_Pr_rule g.2.1 r_x1 e6) kA_14 rfl ⟨by decide, by decide⟩ rfl rfl c1s_0 ?_
    refine J_astore_n o dX10_joins_29 (Nat.le_of_ble_eq_true rfl) ?_
    refine J_iconst o dX10_joins_30 ?_
    refine J_istore_n o dX10_joins_31 (Nat.le_of_ble_eq_true rfl) ?_
    refine J_iconst o dX10_joins_32 ?_
    refine J_istore o dX10_joins_33 (Nat.le_of_ble_eq_true rfl) ?_
    exact (t_Dm_joins_35 k  hf hc) rl0 rl0 _
  · have hf := ite_t c5 hf
    have hf := some_inj hf
    subst hf
    exact (show RetXI TA E K H0 cX10_joins _ from hc).2 (show (1 : Nat) ≠ 0 by decide) _ _ _ c1s_0 ⟨Or.inl rfl, dX10_joins_11, dX10_joins_14, 247, "no such rule", xs_247, Or.inl ⟨dX10_joins_15, dX10_joins_17, dX10_joins_20⟩⟩
theorem c_Dm_joins {E : EE} {l : Launch} (hst : l.stackTraces = false) (hI : Inj TA E) {w : World} {x1 : Int} (r_x1 : R32 x1) {out : (World × Nat × Int)} (hf : f_Dm_joins w x1 = some out) : ConXI TA E l yX10_joins (WS yX10_joins cX10_joins 5 (some .int)) rm_Dm_joins [rf E.ad 1, .int (ii x1)] w out :=
  con_XI (by decide +kernel) rfl rfl (Nat.le_of_ble_eq_true rfl) (c1s_r (c1s_i c1s_0 (Nat.le_of_ble_eq_true rfl)) (Nat.le_of_ble_eq_true rfl)).1 ⟨rfl, rfl, Nat.le_of_ble_eq_true rfl, Nat.le_of_ble_eq_true rfl⟩ hI TnA hst (fun K H0 k hret => t_Dm_joins_0 k r_x1 hf hret)
abbrev rm_Dm_fewestOrders : Room := { frames := 2, cells := 0, slots := 0, locals := 44 }
def HW_Dm_fewestOrders_7 (E : EE) (K : KT) (H0 : Heap) (w : World) (x0 : Int) : (Int × Int) → Prop := fun z => R32 z.1 → R32 z.2 → ∀ o3 o4 : Option Value, Jj K (WdT TA E H0) w 7 [some (.int (ii x0)), some (.int (ii z.1)), some (.int (ii z.2)), o3, o4] []
def HW_Dm_fewestOrders_22 (E : EE) (K : KT) (H0 : Heap) (w : World) (x0 : Int) (x1 : Int) (x2 : Int) : (Int × Int) → Prop := fun z => R32 z.1 → R32 z.2 → Jj K (WdT TA E H0) w 22 [some (.int (ii x0)), some (.int (ii x1)), some (.int (ii x2)), some (.int (ii z.1)), some (.int (ii z.2))] []
noncomputable def f_Dm_fewestOrders_76 (w : World) (x0 : Int) (x1 : Int) (x2 : Int) : Option ((Int × Int) ⊕ Int) :=
  bl (wr (x2 + 1)) fun n1 => some (Sum.inl (x1, n1))
theorem t_Dm_fewestOrders_76 {E : EE} {K : KT} {l : Launch} {H0 : Heap} (k : KofX TA E K H0 l cX10_fewestOrders RX10 rm_Dm_fewestOrders) {w : World} {x0 : Int} {x1 : Int} {x2 : Int} {o3 o4 : Option Value} (r_x0 : R32 x0) (r_x1 : R32 x1) (r_x2 : R32 x2) {out : ((Int × Int) ⊕ Int)} (hf : f_Dm_fewestOrders_76 w x0 x1 x2 = some out) (hc : (Sum.elim (HW_Dm_fewestOrders_7 E K H0 w x0) (fun out : Int => RetI TA E K H0 cX10_fewestOrders w out)) out) : Jj K (WdT TA E H0) w 76 [some (.int (ii x0)), some (.int (ii x1)), some (.int (ii x2)), o3, o4] [] := by
  unfold f_Dm_fewestOrders_76 at hf
  have o := k.1
  have g := k.2.1
  have kr := k.2.2.1
  have gx := k.2.2.2.2
  have hf := bl_out hf
  refine J_iinc o dX10_fewestOrders_76 rfl ?_
  refine J_goto 7 o dX10_fewestOrders_79 (by decide) ?_
  have hf := some_inj hf
  subst hf
  exact hc r_x1 (R_wr _) _ _
noncomputable def f_Dm_fewestOrders_51 (w : World) (x0 : Int) (x1 : Int) (x2 : Int) (x4 : Int) (s0 : Int) (s1 : Int) : Option ((Int × Int) ⊕ ((Int × Int) ⊕ Int)) :=
  bl (ior s0 s1) fun n1 => bl (wr (x4 + 1)) fun n2 => some (Sum.inl (n1, n2))
theorem t_Dm_fewestOrders_51 {E : EE} {K : KT} {l : Launch} {H0 : Heap} (k : KofX TA E K H0 l cX10_fewestOrders RX10 rm_Dm_fewestOrders) {w : World} {x0 : Int} {x1 : Int} {x2 : Int} {x4 : Int} {s0 : Int} {s1 : Int} {o3 : Option Value} (r_x0 : R32 x0) (r_x1 : R32 x1) (r_x2 : R32 x2) (r_x4 : R32 x4) (r_s0 : R32 s0) (r_s1 : R32 s1) {out : ((Int × Int) ⊕ ((Int × Int) ⊕ Int))} (hf : f_Dm_fewestOrders_51 w x0 x1 x2 x4 s0 s1 = some out) (hc : (Sum.elim (HW_Dm_fewestOrders_22 E K H0 w x0 x1 x2) (Sum.elim (HW_Dm_fewestOrders_7 E K H0 w x0) (fun out : Int => RetI TA E K H0 cX10_fewestOrders w out))) out) : Jj K (WdT TA E H0) w 51 [some (.int (ii x0)), some (.int (ii x1)), some (.int (ii x2)), o3, some (.int (ii x4))] [.int (ii s1), .int (ii s0)] := by
  unfold f_Dm_fewestOrders_51 at hf
  have o := k.1
  have g := k.2.1
  have kr := k.2.2.1
  have gx := k.2.2.2.2
  refine J_ior o dX10_fewestOrders_51 ?_
  refine J_istore_n o dX10_fewestOrders_52 (Nat.le_of_ble_eq_true rfl) ?_
  have hf := bl_out hf
  have hf := bl_out hf
  refine J_iinc o dX10_fewestOrders_53 rfl ?_
  refine J_goto 22 o dX10_fewestOrders_56 (by decide) ?_
  have hf := some_inj hf
  subst hf
  exact hc (R_ior _ _) (R_wr _) 
noncomputable def f_Dm_fewestOrders_22B (w : World) (x0 : Int) (x1 : Int) (x2 : Int) (x3 : Int) (x4 : Int) : Option ((Int × Int) ⊕ ((Int × Int) ⊕ Int)) :=
  if 6 ≤ x4 then (if (iand x0 (ixor x3 (-1))) = 0 then (bnd (f_In_bitCount x2) fun v7 => bl (imin x1 v7) fun n9 => bnd (f_Dm_fewestOrders_76 w x0 n9 x2) fun y10 => some (Sum.inr y10)) else (bnd (f_Dm_fewestOrders_76 w x0 x1 x2) fun y5 => some (Sum.inr y5))) else (if (iand (ishr x2 x4) 1) = 0 then (f_Dm_fewestOrders_51 w x0 x1 x2 x4 x3 0) else (gd (0 ≤ x4 ∧ x4 < 6) (f_Dm_fewestOrders_51 w x0 x1 x2 x4 x3 (svI x4.toNat))))
theorem t_Dm_fewestOrders_22B {E : EE} {K : KT} {l : Launch} {H0 : Heap} (k : KofX TA E K H0 l cX10_fewestOrders RX10 rm_Dm_fewestOrders) {w : World} {x0 : Int} {x1 : Int} {x2 : Int} {x3 : Int} {x4 : Int} (r_x0 : R32 x0) (r_x1 : R32 x1) (r_x2 : R32 x2) (r_x3 : R32 x3) (r_x4 : R32 x4) {out : ((Int × Int) ⊕ ((Int × Int) ⊕ Int))} (hf : f_Dm_fewestOrders_22B w x0 x1 x2 x3 x4 = some out) (hc : (Sum.elim (HW_Dm_fewestOrders_22 E K H0 w x0 x1 x2) (Sum.elim (HW_Dm_fewestOrders_7 E K H0 w x0) (fun out : Int => RetI TA E K H0 cX10_fewestOrders w out))) out) : Jj K (WdT TA E H0) w 22 [some (.int (ii x0)), some (.int (ii x1)), some (.int (ii x2)), some (.int (ii x3)), some (.int (ii x4))] [] := by
  unfold f_Dm_fewestOrders_22B at hf
  have o := k.1
  have g := k.2.1
  have kr := k.2.2.1
  have gx := k.2.2.2.2
  refine J_iload o dX10_fewestOrders_22 rfl ?_
  refine J_svlen o gx dX10_fewestOrders_24 dX10_fewestOrders_27 mw1262 ?_
  refine J_icmp_ge 59 o dX10_fewestOrders_28 (by decide) r_x4 rl6 (fun c1 => ?_) (fun c2 => ?_)
  · have hf := ite_t c1 hf
    refine J_iload_n o dX10_fewestOrders_59 rfl ?_
    refine J_iload_n o dX10_fewestOrders_60 rfl ?_
    refine J_iconst o dX10_fewestOrders_61 ?_
    refine J_ixor o dX10_fewestOrders_62 ?_
    refine J_iand o dX10_fewestOrders_63 ?_
    refine J_if_ne 76 o dX10_fewestOrders_64 (by decide) (R_iand _ _) (fun c3 => ?_) (fun c4 => ?_)
    · have hf := ite_f c3 hf
      obtain ⟨y5, hf1, hf⟩ := bnd_some hf
      have hf := some_inj hf
      subst hf
      exact t_Dm_fewestOrders_76 k r_x0 r_x1 r_x2 hf1 hc
    · have hf := ite_t c4 hf
      refine J_iload_n o dX10_fewestOrders_67 rfl ?_
      refine J_iload_n o dX10_fewestOrders_68 rfl ?_
      obtain ⟨v7, e6, hf⟩ := bnd_some hf
      refine J_sI o g kr dX10_fewestOrders_69 lkX10_451 ml_In_bitCount mw1214 ⟨rfl, rfl, Nat.le_of_ble_eq_true rfl, Nat.le_of_ble_eq_true rfl⟩ (c_In_bitCount g.2.1 r_x2 e6) rfl rfl (c1s_i c1s_0 (Nat.le_of_ble_eq_true rfl)) (fun q8 => ?_)
      refine J_mmin o kr dX10_fewestOrders_72 mw1265 mw690 mw129 mw691 ⟨by decide, by decide⟩ r_x1 q8 c1s_0 ?_
      refine J_istore_n o dX10_fewestOrders_75 (Nat.le_of_ble_eq_true rfl) ?_
      have hf := bl_out hf
      obtain ⟨y10, hf1, hf⟩ := bnd_some hf
      have hf := some_inj hf
      subst hf
      exact t_Dm_fewestOrders_76 k r_x0 (R_imin r_x1 q8) r_x2 hf1 hc
  · have hf := ite_f c2 hf
    refine J_iload_n o dX10_fewestOrders_31 rfl ?_
    refine J_iload_n o dX10_fewestOrders_32 rfl ?_
    refine J_iload o dX10_fewestOrders_33 rfl ?_
    refine J_ishr o dX10_fewestOrders_35 ?_
    refine J_iconst o dX10_fewestOrders_36 ?_
    refine J_iand o dX10_fewestOrders_37 ?_
    refine J_if_ne 45 o dX10_fewestOrders_38 (by decide) (R_iand _ _) (fun c11 => ?_) (fun c12 => ?_)
    · have hf := ite_f c11 hf
      obtain ⟨g13, hf⟩ := gd_some hf
      refine J_svld o gx dX10_fewestOrders_45 dX10_fewestOrders_48 dX10_fewestOrders_50 mw1262 rfl r_x4 g13 ?_
      exact t_Dm_fewestOrders_51 k r_x0 r_x1 r_x2 r_x4 r_x3 (R_svI _) hf hc
    · have hf := ite_t c12 hf
      refine J_iconst o dX10_fewestOrders_41 ?_
      refine J_goto 51 o dX10_fewestOrders_42 (by decide) ?_
      exact t_Dm_fewestOrders_51 k r_x0 r_x1 r_x2 r_x4 r_x3 rl0 hf hc
noncomputable def f_Dm_fewestOrders_22 (w : World) (x0 : Int) (x1 : Int) (x2 : Int) (x3 : Int) (x4 : Int) : Option ((Int × Int) ⊕ Int) :=
  lp (fun z : (Int × Int) => f_Dm_fewestOrders_22B w x0 x1 x2 z.1 z.2) (x3, x4)
theorem t_Dm_fewestOrders_22 {E : EE} {K : KT} {l : Launch} {H0 : Heap} (k : KofX TA E K H0 l cX10_fewestOrders RX10 rm_Dm_fewestOrders) {w : World} {x0 : Int} {x1 : Int} {x2 : Int} {x3 : Int} {x4 : Int} (r_x0 : R32 x0) (r_x1 : R32 x1) (r_x2 : R32 x2) {out : ((Int × Int) ⊕ Int)} (hf : f_Dm_fewestOrders_22 w x0 x1 x2 x3 x4 = some out) (hc : (Sum.elim (HW_Dm_fewestOrders_7 E K H0 w x0) (fun out : Int => RetI TA E K H0 cX10_fewestOrders w out)) out) : HW_Dm_fewestOrders_22 E K H0 w x0 x1 x2 (x3, x4) := by
  unfold f_Dm_fewestOrders_22 at hf
  refine lp_ind (P := HW_Dm_fewestOrders_22 E K H0 w x0 x1 x2) hf ?_
  intro z o hs h1 h2
  intro r_x3 r_x4
  refine t_Dm_fewestOrders_22B k r_x0 r_x1 r_x2 r_x3 r_x4 hs ?_
  cases o with
  | inl z' => exact h1 z' rfl
  | inr r' => rw [h2 r' rfl]; exact hc
noncomputable def f_Dm_fewestOrders_7B (w : World) (x0 : Int) (x1 : Int) (x2 : Int) : Option ((Int × Int) ⊕ Int) :=
  if (ishl 1 6) ≤ x2 then (some (Sum.inr x1)) else (f_Dm_fewestOrders_22 w x0 x1 x2 0 0)
theorem t_Dm_fewestOrders_7B {E : EE} {K : KT} {l : Launch} {H0 : Heap} (k : KofX TA E K H0 l cX10_fewestOrders RX10 rm_Dm_fewestOrders) {w : World} {x0 : Int} {x1 : Int} {x2 : Int} {o3 o4 : Option Value} (r_x0 : R32 x0) (r_x1 : R32 x1) (r_x2 : R32 x2) {out : ((Int × Int) ⊕ Int)} (hf : f_Dm_fewestOrders_7B w x0 x1 x2 = some out) (hc : (Sum.elim (HW_Dm_fewestOrders_7 E K H0 w x0) (fun out : Int => RetI TA E K H0 cX10_fewestOrders w out)) out) : Jj K (WdT TA E H0) w 7 [some (.int (ii x0)), some (.int (ii x1)), some (.int (ii x2)), o3, o4] [] := by
  unfold f_Dm_fewestOrders_7B at hf
  have o := k.1
  have g := k.2.1
  have kr := k.2.2.1
  have gx := k.2.2.2.2
  refine J_iload_n o dX10_fewestOrders_7 rfl ?_
  refine J_iconst o dX10_fewestOrders_8 ?_
  refine J_svlen o gx dX10_fewestOrders_9 dX10_fewestOrders_12 mw1262 ?_
  refine J_ishl o dX10_fewestOrders_13 ?_
  refine J_icmp_ge 82 o dX10_fewestOrders_14 (by decide) r_x2 (R_ishl _ _) (fun c1 => ?_) (fun c2 => ?_)
  · have hf := ite_t c1 hf
    refine J_iload_n o dX10_fewestOrders_82 rfl ?_
    have hf := some_inj hf
    subst hf
    exact hc _ _ r_x1 dX10_fewestOrders_83
  · have hf := ite_f c2 hf
    refine J_iconst o dX10_fewestOrders_17 ?_
    refine J_istore_n o dX10_fewestOrders_18 (Nat.le_of_ble_eq_true rfl) ?_
    refine J_iconst o dX10_fewestOrders_19 ?_
    refine J_istore o dX10_fewestOrders_20 (Nat.le_of_ble_eq_true rfl) ?_
    exact (t_Dm_fewestOrders_22 k r_x0 r_x1 r_x2 hf hc) rl0 rl0 
noncomputable def f_Dm_fewestOrders_7 (w : World) (x0 : Int) (x1 : Int) (x2 : Int) : Option Int :=
  lp (fun z : (Int × Int) => f_Dm_fewestOrders_7B w x0 z.1 z.2) (x1, x2)
theorem t_Dm_fewestOrders_7 {E : EE} {K : KT} {l : Launch} {H0 : Heap} (k : KofX TA E K H0 l cX10_fewestOrders RX10 rm_Dm_fewestOrders) {w : World} {x0 : Int} {x1 : Int} {x2 : Int} (r_x0 : R32 x0) {out : Int} (hf : f_Dm_fewestOrders_7 w x0 x1 x2 = some out) (hc : (fun out : Int => RetI TA E K H0 cX10_fewestOrders w out) out) : HW_Dm_fewestOrders_7 E K H0 w x0 (x1, x2) := by
  unfold f_Dm_fewestOrders_7 at hf
  refine lp_ind (P := HW_Dm_fewestOrders_7 E K H0 w x0) hf ?_
  intro z o hs h1 h2
  intro r_x1 r_x2
  intro o3 o4
  refine t_Dm_fewestOrders_7B k r_x0 r_x1 r_x2 hs ?_
  cases o with
  | inl z' => exact h1 z' rfl
  | inr r' => rw [h2 r' rfl]; exact hc
noncomputable def f_Dm_fewestOrders (w : World) (x0 : Int) : Option Int :=
  f_Dm_fewestOrders_7 w x0 6 0
theorem t_Dm_fewestOrders_0 {E : EE} {K : KT} {l : Launch} {H0 : Heap} (k : KofX TA E K H0 l cX10_fewestOrders RX10 rm_Dm_fewestOrders) {w : World} {x0 : Int} {o1 o2 o3 o4 : Option Value} (r_x0 : R32 x0) {out : Int} (hf : f_Dm_fewestOrders w x0 = some out) (hc : (fun out : Int => RetI TA E K H0 cX10_fewestOrders w out) out) : Jj K (WdT TA E H0) w 0 [some (.int (ii x0)), o1, o2, o3, o4] [] := by
  unfold f_Dm_fewestOrders at hf
  have o := k.1
  have g := k.2.1
  have kr := k.2.2.1
  have gx := k.2.2.2.2
  refine J_svlen o gx dX10_fewestOrders_0 dX10_fewestOrders_3 mw1262 ?_
  refine J_istore_n o dX10_fewestOrders_4 (Nat.le_of_ble_eq_true rfl) ?_
  refine J_iconst o dX10_fewestOrders_5 ?_
  refine J_istore_n o dX10_fewestOrders_6 (Nat.le_of_ble_eq_true rfl) ?_
  exact (t_Dm_fewestOrders_7 k r_x0 hf hc) rl6 rl0 _ _
theorem c_Dm_fewestOrders {E : EE} {l : Launch} (hI : Inj TA E) {w : World} {x0 : Int} (r_x0 : R32 x0) {out : Int} (hf : f_Dm_fewestOrders w x0 = some out) : ConIX TA E l yX10_fewestOrders (WS yX10_fewestOrders cX10_fewestOrders 5 (some .int)) rm_Dm_fewestOrders [.int (ii x0)] w w out :=
  con_IX (by decide +kernel) rfl (Nat.le_of_ble_eq_true rfl) (c1s_i c1s_0 (Nat.le_of_ble_eq_true rfl)).1 ⟨rfl, rfl⟩ hI TnA (fun K H0 k hret => t_Dm_fewestOrders_0 k r_x0 hf hret)
abbrev rm_Dm_indexes : Room := { frames := 6, cells := 1, slots := 6, locals := 104 }
def HW_Dm_indexes_25 (E : EE) (K : KT) (H0 : Heap) (x1 : Int) : (World × Int × Int) → Prop := fun z => R32 z.2.1 → R32 z.2.2 → ∀ o4 : Option Value, Jj K (WdT TA E H0) z.1 25 [some (rf E.ad 1), some (.int (ii x1)), some (.int (ii z.2.1)), some (.int (ii z.2.2)), o4] []
noncomputable def f_Dm_indexes_80 (w : World) (x1 : Int) (x2 : Int) (x3 : Int) : Option ((World × Int × Int) ⊕ (World × Nat × Int)) :=
  bl (wr (x3 + 1)) fun n1 => some (Sum.inl (w, x2, n1))
theorem t_Dm_indexes_80 {E : EE} {K : KT} {l : Launch} {H0 : Heap} (k : KofX TA E K H0 l cX10_indexes RX10 rm_Dm_indexes) {w : World} {x1 : Int} {x2 : Int} {x3 : Int} {o4 : Option Value} (r_x1 : R32 x1) (r_x2 : R32 x2) (r_x3 : R32 x3) {out : ((World × Int × Int) ⊕ (World × Nat × Int))} (hf : f_Dm_indexes_80 w x1 x2 x3 = some out) (hc : (Sum.elim (HW_Dm_indexes_25 E K H0 x1) (fun out : (World × Nat × Int) => RetXI TA E K H0 cX10_indexes out)) out) : Jj K (WdT TA E H0) w 80 [some (rf E.ad 1), some (.int (ii x1)), some (.int (ii x2)), some (.int (ii x3)), o4] [] := by
  unfold f_Dm_indexes_80 at hf
  have o := k.1
  have g := k.2.1
  have kr := k.2.2.1
  have gx := k.2.2.2.2
  have hf := bl_out hf
  refine J_iinc o dX10_indexes_80 rfl ?_
  refine J_goto 25 o dX10_indexes_83 (by decide) ?_
  have hf := some_inj hf
  subst hf
  exact hc r_x2 (R_wr _) _
noncomputable def f_Dm_indexes_25B (w : World) (x1 : Int) (x2 : Int) (x3 : Int) : Option ((World × Int × Int) ⊕ (World × Nat × Int)) :=
  if (w 14 4) ≤ x3 then (bnd (f_Dm_fewestOrders w x2) fun v5 => some (Sum.inr (w, 0, v5))) else (bnd (f_Pr_rule w x3) fun v8 => gd (kdA v8 = 1) (if (w v8 2) = 0 then (bnd (f_Pl_make w v8) fun v15 => bnd (f_Pl_searchesOf v15 v8 x1) fun v18 => bl (ior x2 v18) fun n20 => f_Dm_indexes_80 v15 x1 n20 x3) else (f_Dm_indexes_80 w x1 x2 x3)))
theorem t_Dm_indexes_25B {E : EE} {K : KT} {l : Launch} {H0 : Heap} (k : KofX TA E K H0 l cX10_indexes RX10 rm_Dm_indexes) {w : World} {x1 : Int} {x2 : Int} {x3 : Int} {o4 : Option Value} (r_x1 : R32 x1) (r_x2 : R32 x2) (r_x3 : R32 x3) {out : ((World × Int × Int) ⊕ (World × Nat × Int))} (hf : f_Dm_indexes_25B w x1 x2 x3 = some out) (hc : (Sum.elim (HW_Dm_indexes_25 E K H0 x1) (fun out : (World × Nat × Int) => RetXI TA E K H0 cX10_indexes out)) out) : Jj K (WdT TA E H0) w 25 [some (rf E.ad 1), some (.int (ii x1)), some (.int (ii x2)), some (.int (ii x3)), o4] [] := by
  unfold f_Dm_indexes_25B at hf
  have o := k.1
  have g := k.2.1
  have kr := k.2.2.1
  have gx := k.2.2.2.2
  refine J_iload_n o dX10_indexes_25 rfl ?_
  refine J_aload_n o dX10_indexes_26 rfl ?_
  refine J_getF (true, 14) o g dX10_indexes_27 flX10_39 kA_1 rfl rfl rfl ?_
  refine J_getI o g dX10_indexes_30 flX10_217 kA_14 rfl (fun q1 => ?_)
  refine J_icmp_ge 86 o dX10_indexes_33 (by decide) r_x3 q1 (fun c2 => ?_) (fun c3 => ?_)
  · have hf := ite_t c2 hf
    refine J_iload_n o dX10_indexes_86 rfl ?_
    obtain ⟨v5, e4, hf⟩ := bnd_some hf
    refine J_sIX o g kr gx dX10_indexes_87 lkX10_366 ml_Dm_fewestOrders mw1260 ⟨rfl, rfl, Nat.le_of_ble_eq_true rfl, Nat.le_of_ble_eq_true rfl⟩ (c_Dm_fewestOrders g.2.1 r_x2 e4) rfl rfl c1s_0 (fun q6 => ?_)
    have hf := some_inj hf
    subst hf
    exact (show RetXI TA E K H0 cX10_indexes _ from hc).1 rfl _ _ q6 dX10_indexes_90
  · have hf := ite_f c3 hf
    refine J_aload_n o dX10_indexes_36 rfl ?_
    refine J_getF (true, 14) o g dX10_indexes_37 flX10_39 kA_1 rfl rfl rfl ?_
    refine J_iload_n o dX10_indexes_40 rfl ?_
    obtain ⟨v8, e7, hf⟩ := bnd_some hf
    refine J_vR o g kr dX10_indexes_41 lkX10_249 ml_Pr_rule vl_Pr_rule ⟨rfl, rfl, Nat.le_of_ble_eq_true rfl, Nat.le_of_ble_eq_true rfl⟩ (c_Pr_rule g.2.1 r_x3 e7) kA_14 rfl ⟨by decide, by decide⟩ rfl rfl c1s_0 ?_
    refine J_astore o dX10_indexes_44 (Nat.le_of_ble_eq_true rfl) ?_
    refine J_aload o dX10_indexes_46 rfl ?_
    obtain ⟨g10, hf⟩ := gd_some hf
    refine J_getI o g dX10_indexes_48 flX10_253 g10 rfl (fun q11 => ?_)
    refine J_if_ne 80 o dX10_indexes_51 (by decide) q11 (fun c12 => ?_) (fun c13 => ?_)
    · have hf := ite_f c12 hf
      exact t_Dm_indexes_80 k r_x1 r_x2 r_x3 hf hc
    · have hf := ite_t c13 hf
      refine J_aload_n o dX10_indexes_54 rfl ?_
      refine J_getF (true, 155) o g dX10_indexes_55 flX10_88 kA_1 rfl rfl rfl ?_
      refine J_aload o dX10_indexes_58 rfl ?_
      refine J_aload_n o dX10_indexes_60 rfl ?_
      refine J_getF (true, 2) o g dX10_indexes_61 flX10_31 kA_1 rfl rfl rfl ?_
      obtain ⟨v15, e14, hf⟩ := bnd_some hf
      refine J_vV o g kr dX10_indexes_64 lkX10_348 ml_Pl_make vl_Pl_make ⟨rfl, rfl, Nat.le_of_ble_eq_true rfl, Nat.le_of_ble_eq_true rfl⟩ (c_Pl_make g.2.1 g10 e14) kA_155 rfl ⟨by decide, by decide⟩ rfl rfl c1s_0 ?_
      refine J_iload_n o dX10_indexes_67 rfl ?_
      refine J_aload_n o dX10_indexes_68 rfl ?_
      refine J_getF (true, 155) o g dX10_indexes_69 flX10_88 kA_1 rfl rfl rfl ?_
      refine J_aload o dX10_indexes_72 rfl ?_
      refine J_iload_n o dX10_indexes_74 rfl ?_
      obtain ⟨v18, e17, hf⟩ := bnd_some hf
      refine J_vI o g kr dX10_indexes_75 lkX10_362 ml_Pl_searchesOf vl_Pl_searchesOf ⟨rfl, rfl, Nat.le_of_ble_eq_true rfl, Nat.le_of_ble_eq_true rfl⟩ (c_Pl_searchesOf g.2.1 g10 r_x1 e17) kA_155 rfl ⟨by decide, by decide⟩ rfl rfl (c1s_i c1s_0 (Nat.le_of_ble_eq_true rfl)) (fun q19 => ?_)
      refine J_ior o dX10_indexes_78 ?_
      refine J_istore_n o dX10_indexes_79 (Nat.le_of_ble_eq_true rfl) ?_
      have hf := bl_out hf
      exact t_Dm_indexes_80 k r_x1 (R_ior _ _) r_x3 hf hc
noncomputable def f_Dm_indexes_25 (w : World) (x1 : Int) (x2 : Int) (x3 : Int) : Option (World × Nat × Int) :=
  lp (fun z : (World × Int × Int) => f_Dm_indexes_25B z.1 x1 z.2.1 z.2.2) (w, x2, x3)
theorem t_Dm_indexes_25 {E : EE} {K : KT} {l : Launch} {H0 : Heap} (k : KofX TA E K H0 l cX10_indexes RX10 rm_Dm_indexes) {w : World} {x1 : Int} {x2 : Int} {x3 : Int} (r_x1 : R32 x1) {out : (World × Nat × Int)} (hf : f_Dm_indexes_25 w x1 x2 x3 = some out) (hc : (fun out : (World × Nat × Int) => RetXI TA E K H0 cX10_indexes out) out) : HW_Dm_indexes_25 E K H0 x1 (w, x2, x3) := by
  unfold f_Dm_indexes_25 at hf
  refine lp_ind (P := HW_Dm_indexes_25 E K H0 x1) hf ?_
  intro z o hs h1 h2
  intro r_x2 r_x3
  intro o4
  refine t_Dm_indexes_25B k r_x1 r_x2 r_x3 hs ?_
  cases o with
  | inl z' => exact h1 z' rfl
  | inr r' => rw [h2 r' rfl]; exact hc
noncomputable def f_Dm_indexes (w : World) (x1 : Int) : Option (World × Nat × Int) :=
  bnd (f_Sc_isDeclared w x1) fun v2 => if v2 = 0 then (some (w, 1, 0)) else (f_Dm_indexes_25 w x1 0 0)
theorem t_Dm_indexes_0 {E : EE} {K : KT} {l : Launch} {H0 : Heap} (k : KofX TA E K H0 l cX10_indexes RX10 rm_Dm_indexes) {w : World} {x1 : Int} {o2 o3 o4 : Option Value} (r_x1 : R32 x1) {out : (World × Nat × Int)} (hf : f_Dm_indexes w x1 = some out) (hc : (fun out : (World × Nat × Int) => RetXI TA E K H0 cX10_indexes out) out) : Jj K (WdT TA E H0) w 0 [some (rf E.ad 1), some (.int (ii x1)), o2, o3, o4] [] := by
  unfold f_Dm_indexes at hf
  have o := k.1
  have g := k.2.1
  have kr := k.2.2.1
  have gx := k.2.2.2.2
  refine J_aload_n o dX10_indexes_0 rfl ?_
  refine J_getF (true, 2) o g dX10_indexes_1 flX10_31 kA_1 rfl rfl rfl ?_
  refine J_iload_n o dX10_indexes_4 rfl ?_
  obtain ⟨v2, e1, hf⟩ := bnd_some hf
  refine J_vI o g kr dX10_indexes_5 lkX10_108 ml_Sc_isDeclared vl_Sc_isDeclared ⟨rfl, rfl, Nat.le_of_ble_eq_true rfl, Nat.le_of_ble_eq_true rfl⟩ (c_Sc_isDeclared g.2.1 r_x1 e1) kA_2 rfl ⟨by decide, by decide⟩ rfl rfl c1s_0 (fun q3 => ?_)
  refine J_if_ne 21 o dX10_indexes_8 (by decide) q3 (fun c4 => ?_) (fun c5 => ?_)
  · have hf := ite_f c4 hf
    refine J_iconst o dX10_indexes_21 ?_
    refine J_istore_n o dX10_indexes_22 (Nat.le_of_ble_eq_true rfl) ?_
    refine J_iconst o dX10_indexes_23 ?_
    refine J_istore_n o dX10_indexes_24 (Nat.le_of_ble_eq_true rfl) ?_
    exact (t_Dm_indexes_25 k r_x1 hf hc) rl0 rl0 _
  · have hf := ite_t c5 hf
    have hf := some_inj hf
    subst hf
    exact (show RetXI TA E K H0 cX10_indexes _ from hc).2 (show (1 : Nat) ≠ 0 by decide) _ _ _ c1s_0 ⟨Or.inl rfl, dX10_indexes_11, dX10_indexes_14, 121, "no such relation", xs_121, Or.inl ⟨dX10_indexes_15, dX10_indexes_17, dX10_indexes_20⟩⟩
theorem c_Dm_indexes {E : EE} {l : Launch} (hst : l.stackTraces = false) (hI : Inj TA E) {w : World} {x1 : Int} (r_x1 : R32 x1) {out : (World × Nat × Int)} (hf : f_Dm_indexes w x1 = some out) : ConXI TA E l yX10_indexes (WS yX10_indexes cX10_indexes 5 (some .int)) rm_Dm_indexes [rf E.ad 1, .int (ii x1)] w out :=
  con_XI (by decide +kernel) rfl rfl (Nat.le_of_ble_eq_true rfl) (c1s_r (c1s_i c1s_0 (Nat.le_of_ble_eq_true rfl)) (Nat.le_of_ble_eq_true rfl)).1 ⟨rfl, rfl, Nat.le_of_ble_eq_true rfl, Nat.le_of_ble_eq_true rfl⟩ hI TnA hst (fun K H0 k hret => t_Dm_indexes_0 k r_x1 hf hret)
