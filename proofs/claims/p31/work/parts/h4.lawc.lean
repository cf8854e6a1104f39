/-! THE LAW'S OWN METHODS, as functions: alike, told, holdsAll, ends -/
set_option maxRecDepth 20000 in
theorem mw1306 : Cond.methodLink "DatalogmillLaw" (183 : Nat) ({ cls := "Datalogmill", name := "broken", desc := "()I" } : MethodName) ∈ GW := inGW (List.mem_of_getElem? (i := 1306) (by rfl)) (by decide +kernel)
theorem lkL_183 : LK "DatalogmillLaw" 183 yX10_broken := Or.inl mw1306
set_option maxRecDepth 20000 in
theorem mw1309 : Cond.code yX10_broken cX10_broken 1 (some .int) ∈ GW := inGW (List.mem_of_getElem? (i := 1309) (by rfl)) (by decide +kernel)
theorem ml_Dm_broken : ML yX10_broken cX10_broken 1 (some .int) 0 := ⟨mw1309, mw112, by decide +kernel, by decide +kernel, by decide +kernel⟩
set_option maxRecDepth 20000 in
theorem mw1307 : Cond.instanceMethod ({ cls := "Datalogmill", name := "broken", desc := "()I" } : MethodName) ∈ GW := inGW (List.mem_of_getElem? (i := 1307) (by rfl)) (by decide +kernel)
set_option maxRecDepth 20000 in
theorem mw1308 : Cond.selects "Datalogmill" ({ cls := "Datalogmill", name := "broken", desc := "()I" } : MethodName) ({ cls := "Datalogmill", name := "broken", desc := "()I" } : MethodName) ∈ GW := inGW (List.mem_of_getElem? (i := 1308) (by rfl)) (by decide +kernel)
theorem vl_Dm_broken : VL yX10_broken := ⟨mw1307, mw1308⟩
set_option maxRecDepth 20000 in
theorem mw1327 : Cond.constant "DatalogmillLaw" (186 : Nat) (1000000 : Int32) ∈ GW := inGW (List.mem_of_getElem? (i := 1327) (by rfl)) (by decide +kernel)
theorem kcL_186 : Cond.constant "DatalogmillLaw" 186 (ii (1000000)) ∈ GW := by
  rw [show ii (1000000) = (1000000 : Int32) by decide]
  exact mw1327
set_option maxRecDepth 20000 in
theorem mw1328 : Cond.methodLink "DatalogmillLaw" (191 : Nat) ({ cls := "Datalogmill", name := "repair", desc := "()I" } : MethodName) ∈ GW := inGW (List.mem_of_getElem? (i := 1328) (by rfl)) (by decide +kernel)
theorem lkL_191 : LK "DatalogmillLaw" 191 yX10_repair := Or.inl mw1328
set_option maxRecDepth 20000 in
theorem mw1331 : Cond.code yX10_repair cX10_repair 3 (some .int) ∈ GW := inGW (List.mem_of_getElem? (i := 1331) (by rfl)) (by decide +kernel)
theorem ml_Dm_repair : ML yX10_repair cX10_repair 3 (some .int) 0 := ⟨mw1331, mw112, by decide +kernel, by decide +kernel, by decide +kernel⟩
set_option maxRecDepth 20000 in
theorem mw1329 : Cond.instanceMethod ({ cls := "Datalogmill", name := "repair", desc := "()I" } : MethodName) ∈ GW := inGW (List.mem_of_getElem? (i := 1329) (by rfl)) (by decide +kernel)
set_option maxRecDepth 20000 in
theorem mw1330 : Cond.selects "Datalogmill" ({ cls := "Datalogmill", name := "repair", desc := "()I" } : MethodName) ({ cls := "Datalogmill", name := "repair", desc := "()I" } : MethodName) ∈ GW := inGW (List.mem_of_getElem? (i := 1330) (by rfl)) (by decide +kernel)
theorem vl_Dm_repair : VL yX10_repair := ⟨mw1329, mw1330⟩
set_option maxRecDepth 20000 in
theorem mw1324 : Cond.methodLink "DatalogmillLaw" (187 : Nat) ({ cls := "DatalogmillLaw", name := "told", desc := "(LDatalogmill;[III)Z" } : MethodName) ∈ GW := inGW (List.mem_of_getElem? (i := 1324) (by rfl)) (by decide +kernel)
set_option maxRecDepth 20000 in
theorem mw1325 : Cond.static ({ cls := "DatalogmillLaw", name := "told", desc := "(LDatalogmill;[III)Z" } : MethodName) ∈ GW := inGW (List.mem_of_getElem? (i := 1325) (by rfl)) (by decide +kernel)
set_option maxRecDepth 20000 in
theorem mw1326 : Cond.code yL_told cL_told 13 (some .boolean) ∈ GW := inGW (List.mem_of_getElem? (i := 1326) (by rfl)) (by decide +kernel)
theorem ml_L_told : ML yL_told cL_told 13 (some .boolean) 4 := ⟨mw1326, mw111, by decide +kernel, by decide +kernel, by decide +kernel⟩
abbrev rm_L_alike : Room := { frames := 8, cells := 1000, slots := 6000, locals := 167 }
def HW_L_alike_21 (X : QX) (K : KT) (H0 : Heap) (m0 : Bool) (m1 : Bool) (x3 : Int) : (ZQ × Nat × Int × Int) → Prop := fun y => R32 y.2.2.1 → R32 y.2.2.2 → ∀ o6 : Option Value, Jj (kAdd K y.2.1 (6 * y.2.1)) (WdQ X H0) y.1 21 [some (rf (X.M m0).ad 1), some (rf (X.M m1).ad 1), some (.ref X.oa), some (.int (ii x3)), some (.int (ii y.2.2.1)), some (.int (ii y.2.2.2)), o6] []
def HW_L_alike_88 (X : QX) (K : KT) (H0 : Heap) (m0 : Bool) (m1 : Bool) (x3 : Int) (x5 : Int) : (ZQ × Nat × Int × Int) → Prop := fun y => R32 y.2.2.1 → R32 y.2.2.2 → Jj (kAdd K y.2.1 (6 * y.2.1)) (WdQ X H0) y.1 88 [some (rf (X.M m0).ad 1), some (rf (X.M m1).ad 1), some (.ref X.oa), some (.int (ii x3)), some (.int (ii y.2.2.1)), some (.int (ii x5)), some (.int (ii y.2.2.2))] []
def HW_L_alike_145 (X : QX) (K : KT) (H0 : Heap) (m0 : Bool) (m1 : Bool) (x3 : Int) : (ZQ × Nat × Int × Int) → Prop := fun y => R32 y.2.2.1 → R32 y.2.2.2 → ∀ o6 : Option Value, Jj (kAdd K y.2.1 (6 * y.2.1)) (WdQ X H0) y.1 145 [some (rf (X.M m0).ad 1), some (rf (X.M m1).ad 1), some (.ref X.oa), some (.int (ii x3)), some (.int (ii y.2.2.1)), some (.int (ii y.2.2.2)), o6] []
noncomputable def f_L_alike_199 (z : ZQ) (m0 : Bool) (m1 : Bool) (t : Nat) (x3 : Int) (x5 : Int) (s0 : Int) : Option ((ZQ × Nat × Int × Int) ⊕ (ZQ × Int)) :=
  gd (t + 0 ≤ 1000) (bl (wr (x5 + 1)) fun n1 => some (Sum.inl (z, t, s0, n1)))
set_option maxRecDepth 100000 in
theorem t_L_alike_199 {X : QX} {K : KT} {H0 : Heap} (k : KofQ X K H0 cL_alike "DatalogmillLaw" rm_L_alike 1000) {z : ZQ} {m0 : Bool} {m1 : Bool} {t : Nat} {x3 : Int} {x5 : Int} {s0 : Int} {o4 o6 : Option Value} (r_x3 : R32 x3) (r_x5 : R32 x5) (r_s0 : R32 s0) {out : ((ZQ × Nat × Int × Int) ⊕ (ZQ × Int))} (hf : f_L_alike_199 z m0 m1 t x3 x5 s0 = some out) (hc : (Sum.elim (HW_L_alike_145 X K H0 m0 m1 x3) (fun out : (ZQ × Int) => RetQZ X K H0 cL_alike 1000 out.1 out.2)) out) : Jj (kAdd K t (6 * t)) (WdQ X H0) z 199 [some (rf (X.M m0).ad 1), some (rf (X.M m1).ad 1), some (.ref X.oa), some (.int (ii x3)), o4, some (.int (ii x5)), o6] [.int (ii s0)] := by
  unfold f_L_alike_199 at hf
  have o : ∀ a b, Ok (kAdd K a b) cL_alike "DatalogmillLaw" rm_L_alike := fun _ _ => OkQ.add k.1
  have g : ∀ a b, GdQ X (kAdd K a b) H0 := fun _ _ => GdQ.add k.2.1
  obtain ⟨ht, hf⟩ := gd_some hf
  refine J_istore (o _ _) dL_alike_199 (Nat.le_of_ble_eq_true rfl) ?_
  have hf := bl_out hf
  refine J_iinc (o _ _) dL_alike_201 rfl ?_
  refine J_goto 145 (o _ _) dL_alike_204 (by decide) ?_
  have hf := some_inj hf
  subst hf
  exact hc r_s0 (R_wr _) _
noncomputable def f_L_alike_198 (z : ZQ) (m0 : Bool) (m1 : Bool) (t : Nat) (x3 : Int) (x5 : Int) : Option ((ZQ × Nat × Int × Int) ⊕ (ZQ × Int)) :=
  gd (t + 0 ≤ 1000) (f_L_alike_199 z m0 m1 t x3 x5 0)
set_option maxRecDepth 100000 in
theorem t_L_alike_198 {X : QX} {K : KT} {H0 : Heap} (k : KofQ X K H0 cL_alike "DatalogmillLaw" rm_L_alike 1000) {z : ZQ} {m0 : Bool} {m1 : Bool} {t : Nat} {x3 : Int} {x5 : Int} {o4 o6 : Option Value} (r_x3 : R32 x3) (r_x5 : R32 x5) {out : ((ZQ × Nat × Int × Int) ⊕ (ZQ × Int))} (hf : f_L_alike_198 z m0 m1 t x3 x5 = some out) (hc : (Sum.elim (HW_L_alike_145 X K H0 m0 m1 x3) (fun out : (ZQ × Int) => RetQZ X K H0 cL_alike 1000 out.1 out.2)) out) : Jj (kAdd K t (6 * t)) (WdQ X H0) z 198 [some (rf (X.M m0).ad 1), some (rf (X.M m1).ad 1), some (.ref X.oa), some (.int (ii x3)), o4, some (.int (ii x5)), o6] [] := by
  unfold f_L_alike_198 at hf
  have o : ∀ a b, Ok (kAdd K a b) cL_alike "DatalogmillLaw" rm_L_alike := fun _ _ => OkQ.add k.1
  have g : ∀ a b, GdQ X (kAdd K a b) H0 := fun _ _ => GdQ.add k.2.1
  obtain ⟨ht, hf⟩ := gd_some hf
  refine J_iconst (o _ _) dL_alike_198 ?_
  exact t_L_alike_199 k r_x3 r_x5 rl0 hf hc
noncomputable def f_L_alike_145B (z : ZQ) (m0 : Bool) (m1 : Bool) (t : Nat) (x3 : Int) (x4 : Int) (x5 : Int) : Option ((ZQ × Nat × Int × Int) ⊕ (ZQ × Int)) :=
  gd (t + 4 ≤ 1000) (if (z.2.2 1) ≤ x5 then (gd (x4 = 0 ∨ x4 = 1) (some (Sum.inr (z, x4)))) else (if x4 = 0 then (gd (x4 = 0 ∨ x4 = 1) (some (Sum.inr (z, x4)))) else (bnd (f_L_joins z m0 x5) fun v8 => bnd (f_L_joins v8.1 m1 x5) fun v11 => if v8.2 = v11.2 then (bnd (f_L_order v11.1 m0 x5 (irem x3 3)) fun v16 => bnd (f_L_order v16.1 m1 x5 (irem x3 3)) fun v19 => if v16.2 = v19.2 then (f_L_alike_199 v19.1 m0 m1 (t + 4) x3 x5 1) else (f_L_alike_198 v19.1 m0 m1 (t + 4) x3 x5)) else (f_L_alike_198 v11.1 m0 m1 (t + 2) x3 x5))))
set_option maxRecDepth 100000 in
theorem t_L_alike_145B {X : QX} {K : KT} {H0 : Heap} (k : KofQ X K H0 cL_alike "DatalogmillLaw" rm_L_alike 1000) {z : ZQ} {m0 : Bool} {m1 : Bool} {t : Nat} {x3 : Int} {x4 : Int} {x5 : Int} {o6 : Option Value} (r_x3 : R32 x3) (r_x4 : R32 x4) (r_x5 : R32 x5) {out : ((ZQ × Nat × Int × Int) ⊕ (ZQ × Int))} (hf : f_L_alike_145B z m0 m1 t x3 x4 x5 = some out) (hc : (Sum.elim (HW_L_alike_145 X K H0 m0 m1 x3) (fun out : (ZQ × Int) => RetQZ X K H0 cL_alike 1000 out.1 out.2)) out) : Jj (kAdd K t (6 * t)) (WdQ X H0) z 145 [some (rf (X.M m0).ad 1), some (rf (X.M m1).ad 1), some (.ref X.oa), some (.int (ii x3)), some (.int (ii x4)), some (.int (ii x5)), o6] [] := by
  unfold f_L_alike_145B at hf
  have o : ∀ a b, Ok (kAdd K a b) cL_alike "DatalogmillLaw" rm_L_alike := fun _ _ => OkQ.add k.1
  have g : ∀ a b, GdQ X (kAdd K a b) H0 := fun _ _ => GdQ.add k.2.1
  obtain ⟨ht, hf⟩ := gd_some hf
  refine J_iload (o _ _) dL_alike_145 rfl ?_
  refine J_aldO_n (o _ _) dL_alike_147 rfl ?_
  refine J_iconst (o _ _) dL_alike_148 ?_
  refine J_nld (o _ _) (g _ _) dL_alike_149 rl1 ⟨by decide, by decide⟩ (fun q1 => ?_)
  refine J_icmp_ge 207 (o _ _) dL_alike_150 (by decide) r_x5 q1 (fun c2 => ?_) (fun c3 => ?_)
  · have hf := ite_t c2 hf
    refine J_iload (o _ _) dL_alike_207 rfl ?_
    obtain ⟨g4, hf⟩ := gd_some hf
    have hf := some_inj hf
    subst hf
    exact hc _ _ _ (by omega) g4 dL_alike_209
  · have hf := ite_f c3 hf
    refine J_iload (o _ _) dL_alike_153 rfl ?_
    refine J_if_eq 207 (o _ _) dL_alike_155 (by decide) r_x4 (fun c5 => ?_) (fun c6 => ?_)
    · have hf := ite_t c5 hf
      refine J_iload (o _ _) dL_alike_207 rfl ?_
      obtain ⟨g7, hf⟩ := gd_some hf
      have hf := some_inj hf
      subst hf
      exact hc _ _ _ (by omega) g7 dL_alike_209
    · have hf := ite_f c6 hf
      refine J_aload_n (o _ _) dL_alike_158 rfl ?_
      refine J_iload (o _ _) dL_alike_159 rfl ?_
      obtain ⟨v8, e9, hf⟩ := bnd_some hf
      refine J_qW (np := 2) k.1 k.2.1 k.2.2.1 (by omega) dL_alike_161 mw1225 mw1227 mw1226 mw111 ⟨by decide +kernel, by decide +kernel, by decide +kernel⟩ ⟨rfl, rfl, Nat.le_of_ble_eq_true rfl, Nat.le_of_ble_eq_true rfl⟩ (c_L_joins k.2.2.2 k.2.1.2.1 r_x5 e9) rfl rfl c1s_0 (fun q10 => ?_)
      refine J_tt (u := (t + 1)) (by omega) ?_
      refine J_aload_n (o _ _) dL_alike_164 rfl ?_
      refine J_iload (o _ _) dL_alike_165 rfl ?_
      obtain ⟨v11, e12, hf⟩ := bnd_some hf
      refine J_qW (np := 2) k.1 k.2.1 k.2.2.1 (by omega) dL_alike_167 mw1225 mw1227 mw1226 mw111 ⟨by decide +kernel, by decide +kernel, by decide +kernel⟩ ⟨rfl, rfl, Nat.le_of_ble_eq_true rfl, Nat.le_of_ble_eq_true rfl⟩ (c_L_joins k.2.2.2 k.2.1.2.1 r_x5 e12) rfl rfl (c1s_i c1s_0 (Nat.le_of_ble_eq_true rfl)) (fun q13 => ?_)
      refine J_tt (u := (t + 2)) (by omega) ?_
      refine J_icmp_ne 198 (o _ _) dL_alike_170 (by decide) q10 q13 (fun c14 => ?_) (fun c15 => ?_)
      · have hf := ite_f c14 hf
        exact t_L_alike_198 k r_x3 r_x5 hf hc
      · have hf := ite_t c15 hf
        refine J_aload_n (o _ _) dL_alike_173 rfl ?_
        refine J_iload (o _ _) dL_alike_174 rfl ?_
        refine J_iload_n (o _ _) dL_alike_176 rfl ?_
        refine J_iconst (o _ _) dL_alike_177 ?_
        refine J_irem (o _ _) dL_alike_178 rl3 (by decide) ?_
        obtain ⟨v16, e17, hf⟩ := bnd_some hf
        refine J_qW (np := 3) k.1 k.2.1 k.2.2.1 (by omega) dL_alike_179 mw1195 mw1197 mw1196 mw111 ⟨by decide +kernel, by decide +kernel, by decide +kernel⟩ ⟨rfl, rfl, Nat.le_of_ble_eq_true rfl, Nat.le_of_ble_eq_true rfl⟩ (c_L_order k.2.2.2 k.2.1.2.1 r_x5 (R_irem _ _) e17) rfl rfl c1s_0 (fun q18 => ?_)
        refine J_tt (u := (t + 3)) (by omega) ?_
        refine J_aload_n (o _ _) dL_alike_182 rfl ?_
        refine J_iload (o _ _) dL_alike_183 rfl ?_
        refine J_iload_n (o _ _) dL_alike_185 rfl ?_
        refine J_iconst (o _ _) dL_alike_186 ?_
        refine J_irem (o _ _) dL_alike_187 rl3 (by decide) ?_
        obtain ⟨v19, e20, hf⟩ := bnd_some hf
        refine J_qW (np := 3) k.1 k.2.1 k.2.2.1 (by omega) dL_alike_188 mw1195 mw1197 mw1196 mw111 ⟨by decide +kernel, by decide +kernel, by decide +kernel⟩ ⟨rfl, rfl, Nat.le_of_ble_eq_true rfl, Nat.le_of_ble_eq_true rfl⟩ (c_L_order k.2.2.2 k.2.1.2.1 r_x5 (R_irem _ _) e20) rfl rfl (c1s_i c1s_0 (Nat.le_of_ble_eq_true rfl)) (fun q21 => ?_)
        refine J_tt (u := (t + 4)) (by omega) ?_
        refine J_icmp_ne 198 (o _ _) dL_alike_191 (by decide) q18 q21 (fun c22 => ?_) (fun c23 => ?_)
        · have hf := ite_f c22 hf
          exact t_L_alike_198 k r_x3 r_x5 hf hc
        · have hf := ite_t c23 hf
          refine J_iconst (o _ _) dL_alike_194 ?_
          refine J_goto 199 (o _ _) dL_alike_195 (by decide) ?_
          exact t_L_alike_199 k r_x3 r_x5 rl1 hf hc
noncomputable def f_L_alike_145 (z : ZQ) (m0 : Bool) (m1 : Bool) (t : Nat) (x3 : Int) (x4 : Int) (x5 : Int) : Option (ZQ × Int) :=
  lp (fun y : (ZQ × Nat × Int × Int) => f_L_alike_145B y.1 m0 m1 y.2.1 x3 y.2.2.1 y.2.2.2) (z, t, x4, x5)
theorem t_L_alike_145 {X : QX} {K : KT} {H0 : Heap} (k : KofQ X K H0 cL_alike "DatalogmillLaw" rm_L_alike 1000) {z : ZQ} {m0 : Bool} {m1 : Bool} {t : Nat} {x3 : Int} {x4 : Int} {x5 : Int} (r_x3 : R32 x3) {out : (ZQ × Int)} (hf : f_L_alike_145 z m0 m1 t x3 x4 x5 = some out) (hc : (fun out : (ZQ × Int) => RetQZ X K H0 cL_alike 1000 out.1 out.2) out) : HW_L_alike_145 X K H0 m0 m1 x3 (z, t, x4, x5) := by
  unfold f_L_alike_145 at hf
  refine lp_ind (P := HW_L_alike_145 X K H0 m0 m1 x3) hf ?_
  intro y o hs h1 h2
  intro r_x4 r_x5
  intro o6
  refine t_L_alike_145B k r_x3 r_x4 r_x5 hs ?_
  cases o with
  | inl z' => exact h1 z' rfl
  | inr r' => rw [h2 r' rfl]; exact hc
noncomputable def f_L_alike_142 (z : ZQ) (m0 : Bool) (m1 : Bool) (t : Nat) (x3 : Int) (x4 : Int) : Option (ZQ × Int) :=
  gd (t + 0 ≤ 1000) (f_L_alike_145 z m0 m1 t x3 x4 0)
set_option maxRecDepth 100000 in
theorem t_L_alike_142 {X : QX} {K : KT} {H0 : Heap} (k : KofQ X K H0 cL_alike "DatalogmillLaw" rm_L_alike 1000) {z : ZQ} {m0 : Bool} {m1 : Bool} {t : Nat} {x3 : Int} {x4 : Int} {o5 o6 : Option Value} (r_x3 : R32 x3) (r_x4 : R32 x4) {out : (ZQ × Int)} (hf : f_L_alike_142 z m0 m1 t x3 x4 = some out) (hc : (fun out : (ZQ × Int) => RetQZ X K H0 cL_alike 1000 out.1 out.2) out) : Jj (kAdd K t (6 * t)) (WdQ X H0) z 142 [some (rf (X.M m0).ad 1), some (rf (X.M m1).ad 1), some (.ref X.oa), some (.int (ii x3)), some (.int (ii x4)), o5, o6] [] := by
  unfold f_L_alike_142 at hf
  have o : ∀ a b, Ok (kAdd K a b) cL_alike "DatalogmillLaw" rm_L_alike := fun _ _ => OkQ.add k.1
  have g : ∀ a b, GdQ X (kAdd K a b) H0 := fun _ _ => GdQ.add k.2.1
  obtain ⟨ht, hf⟩ := gd_some hf
  refine J_iconst (o _ _) dL_alike_142 ?_
  refine J_istore (o _ _) dL_alike_143 (Nat.le_of_ble_eq_true rfl) ?_
  exact (t_L_alike_145 k r_x3 hf hc) r_x4 rl0 _
noncomputable def f_L_alike_136 (z : ZQ) (m0 : Bool) (m1 : Bool) (t : Nat) (x3 : Int) (x4 : Int) (x5 : Int) : Option ((ZQ × Nat × Int × Int) ⊕ (ZQ × Int)) :=
  gd (t + 0 ≤ 1000) (bl (wr (x5 + 1)) fun n1 => some (Sum.inl (z, t, x4, n1)))
set_option maxRecDepth 100000 in
theorem t_L_alike_136 {X : QX} {K : KT} {H0 : Heap} (k : KofQ X K H0 cL_alike "DatalogmillLaw" rm_L_alike 1000) {z : ZQ} {m0 : Bool} {m1 : Bool} {t : Nat} {x3 : Int} {x4 : Int} {x5 : Int} {o6 : Option Value} (r_x3 : R32 x3) (r_x4 : R32 x4) (r_x5 : R32 x5) {out : ((ZQ × Nat × Int × Int) ⊕ (ZQ × Int))} (hf : f_L_alike_136 z m0 m1 t x3 x4 x5 = some out) (hc : (Sum.elim (HW_L_alike_21 X K H0 m0 m1 x3) (fun out : (ZQ × Int) => RetQZ X K H0 cL_alike 1000 out.1 out.2)) out) : Jj (kAdd K t (6 * t)) (WdQ X H0) z 136 [some (rf (X.M m0).ad 1), some (rf (X.M m1).ad 1), some (.ref X.oa), some (.int (ii x3)), some (.int (ii x4)), some (.int (ii x5)), o6] [] := by
  unfold f_L_alike_136 at hf
  have o : ∀ a b, Ok (kAdd K a b) cL_alike "DatalogmillLaw" rm_L_alike := fun _ _ => OkQ.add k.1
  have g : ∀ a b, GdQ X (kAdd K a b) H0 := fun _ _ => GdQ.add k.2.1
  obtain ⟨ht, hf⟩ := gd_some hf
  have hf := bl_out hf
  refine J_iinc (o _ _) dL_alike_136 rfl ?_
  refine J_goto 21 (o _ _) dL_alike_139 (by decide) ?_
  have hf := some_inj hf
  subst hf
  exact hc r_x4 (R_wr _) _
noncomputable def f_L_alike_128 (z : ZQ) (m0 : Bool) (m1 : Bool) (t : Nat) (x3 : Int) (x5 : Int) (x6 : Int) (s0 : Int) : Option ((ZQ × Nat × Int × Int) ⊕ ((ZQ × Nat × Int × Int) ⊕ (ZQ × Int))) :=
  gd (t + 0 ≤ 1000) (bl (wr (x6 + 1)) fun n1 => some (Sum.inl (z, t, s0, n1)))
set_option maxRecDepth 100000 in
theorem t_L_alike_128 {X : QX} {K : KT} {H0 : Heap} (k : KofQ X K H0 cL_alike "DatalogmillLaw" rm_L_alike 1000) {z : ZQ} {m0 : Bool} {m1 : Bool} {t : Nat} {x3 : Int} {x5 : Int} {x6 : Int} {s0 : Int} {o4 : Option Value} (r_x3 : R32 x3) (r_x5 : R32 x5) (r_x6 : R32 x6) (r_s0 : R32 s0) {out : ((ZQ × Nat × Int × Int) ⊕ ((ZQ × Nat × Int × Int) ⊕ (ZQ × Int)))} (hf : f_L_alike_128 z m0 m1 t x3 x5 x6 s0 = some out) (hc : (Sum.elim (HW_L_alike_88 X K H0 m0 m1 x3 x5) (Sum.elim (HW_L_alike_21 X K H0 m0 m1 x3) (fun out : (ZQ × Int) => RetQZ X K H0 cL_alike 1000 out.1 out.2))) out) : Jj (kAdd K t (6 * t)) (WdQ X H0) z 128 [some (rf (X.M m0).ad 1), some (rf (X.M m1).ad 1), some (.ref X.oa), some (.int (ii x3)), o4, some (.int (ii x5)), some (.int (ii x6))] [.int (ii s0)] := by
  unfold f_L_alike_128 at hf
  have o : ∀ a b, Ok (kAdd K a b) cL_alike "DatalogmillLaw" rm_L_alike := fun _ _ => OkQ.add k.1
  have g : ∀ a b, GdQ X (kAdd K a b) H0 := fun _ _ => GdQ.add k.2.1
  obtain ⟨ht, hf⟩ := gd_some hf
  refine J_istore (o _ _) dL_alike_128 (Nat.le_of_ble_eq_true rfl) ?_
  have hf := bl_out hf
  refine J_iinc (o _ _) dL_alike_130 rfl ?_
  refine J_goto 88 (o _ _) dL_alike_133 (by decide) ?_
  have hf := some_inj hf
  subst hf
  exact hc r_s0 (R_wr _) 
noncomputable def f_L_alike_88B (z : ZQ) (m0 : Bool) (m1 : Bool) (t : Nat) (x3 : Int) (x4 : Int) (x5 : Int) (x6 : Int) : Option ((ZQ × Nat × Int × Int) ⊕ ((ZQ × Nat × Int × Int) ⊕ (ZQ × Int))) :=
  gd (t + 3 ≤ 1000) (bnd (f_L_size z m0 x5) fun v1 => if v1.2 ≤ x6 then (bnd (f_L_alike_136 v1.1 m0 m1 (t + 1) x3 x4 x5) fun y6 => some (Sum.inr y6)) else (if x4 = 0 then (bnd (f_L_alike_136 v1.1 m0 m1 (t + 1) x3 x4 x5) fun y9 => some (Sum.inr y9)) else (bnd (f_L_at v1.1 m0 x5 x6) fun v10 => bnd (f_L_at v10.1 m1 x5 x6) fun v13 => if v10.2 = v13.2 then (f_L_alike_128 v13.1 m0 m1 (t + 3) x3 x5 x6 1) else (f_L_alike_128 v13.1 m0 m1 (t + 3) x3 x5 x6 0))))
set_option maxRecDepth 100000 in
theorem t_L_alike_88B {X : QX} {K : KT} {H0 : Heap} (k : KofQ X K H0 cL_alike "DatalogmillLaw" rm_L_alike 1000) {z : ZQ} {m0 : Bool} {m1 : Bool} {t : Nat} {x3 : Int} {x4 : Int} {x5 : Int} {x6 : Int} (r_x3 : R32 x3) (r_x4 : R32 x4) (r_x5 : R32 x5) (r_x6 : R32 x6) {out : ((ZQ × Nat × Int × Int) ⊕ ((ZQ × Nat × Int × Int) ⊕ (ZQ × Int)))} (hf : f_L_alike_88B z m0 m1 t x3 x4 x5 x6 = some out) (hc : (Sum.elim (HW_L_alike_88 X K H0 m0 m1 x3 x5) (Sum.elim (HW_L_alike_21 X K H0 m0 m1 x3) (fun out : (ZQ × Int) => RetQZ X K H0 cL_alike 1000 out.1 out.2))) out) : Jj (kAdd K t (6 * t)) (WdQ X H0) z 88 [some (rf (X.M m0).ad 1), some (rf (X.M m1).ad 1), some (.ref X.oa), some (.int (ii x3)), some (.int (ii x4)), some (.int (ii x5)), some (.int (ii x6))] [] := by
  unfold f_L_alike_88B at hf
  have o : ∀ a b, Ok (kAdd K a b) cL_alike "DatalogmillLaw" rm_L_alike := fun _ _ => OkQ.add k.1
  have g : ∀ a b, GdQ X (kAdd K a b) H0 := fun _ _ => GdQ.add k.2.1
  obtain ⟨ht, hf⟩ := gd_some hf
  refine J_iload (o _ _) dL_alike_88 rfl ?_
  refine J_aload_n (o _ _) dL_alike_90 rfl ?_
  refine J_iload (o _ _) dL_alike_91 rfl ?_
  obtain ⟨v1, e2, hf⟩ := bnd_some hf
  refine J_qW (np := 2) k.1 k.2.1 k.2.2.1 (by omega) dL_alike_93 mw1024 mw1026 mw1025 mw111 ⟨by decide +kernel, by decide +kernel, by decide +kernel⟩ ⟨rfl, rfl, Nat.le_of_ble_eq_true rfl, Nat.le_of_ble_eq_true rfl⟩ (c_L_size k.2.2.2 k.2.1.2.1 r_x5 e2) rfl rfl (c1s_i c1s_0 (Nat.le_of_ble_eq_true rfl)) (fun q3 => ?_)
  refine J_tt (u := (t + 1)) (by omega) ?_
  refine J_icmp_ge 136 (o _ _) dL_alike_96 (by decide) r_x6 q3 (fun c4 => ?_) (fun c5 => ?_)
  · have hf := ite_t c4 hf
    obtain ⟨y6, hf1, hf⟩ := bnd_some hf
    have hf := some_inj hf
    subst hf
    exact t_L_alike_136 k r_x3 r_x4 r_x5 hf1 hc
  · have hf := ite_f c5 hf
    refine J_iload (o _ _) dL_alike_99 rfl ?_
    refine J_if_eq 136 (o _ _) dL_alike_101 (by decide) r_x4 (fun c7 => ?_) (fun c8 => ?_)
    · have hf := ite_t c7 hf
      obtain ⟨y9, hf1, hf⟩ := bnd_some hf
      have hf := some_inj hf
      subst hf
      exact t_L_alike_136 k r_x3 r_x4 r_x5 hf1 hc
    · have hf := ite_f c8 hf
      refine J_aload_n (o _ _) dL_alike_104 rfl ?_
      refine J_iload (o _ _) dL_alike_105 rfl ?_
      refine J_iload (o _ _) dL_alike_107 rfl ?_
      obtain ⟨v10, e11, hf⟩ := bnd_some hf
      refine J_qW (np := 3) k.1 k.2.1 k.2.2.1 (by omega) dL_alike_109 mw1036 mw1038 mw1037 mw111 ⟨by decide +kernel, by decide +kernel, by decide +kernel⟩ ⟨rfl, rfl, Nat.le_of_ble_eq_true rfl, Nat.le_of_ble_eq_true rfl⟩ (c_L_at k.2.2.2 k.2.1.2.1 r_x5 r_x6 e11) rfl rfl c1s_0 (fun q12 => ?_)
      refine J_tt (u := (t + 2)) (by omega) ?_
      refine J_aload_n (o _ _) dL_alike_112 rfl ?_
      refine J_iload (o _ _) dL_alike_113 rfl ?_
      refine J_iload (o _ _) dL_alike_115 rfl ?_
      obtain ⟨v13, e14, hf⟩ := bnd_some hf
      refine J_qW (np := 3) k.1 k.2.1 k.2.2.1 (by omega) dL_alike_117 mw1036 mw1038 mw1037 mw111 ⟨by decide +kernel, by decide +kernel, by decide +kernel⟩ ⟨rfl, rfl, Nat.le_of_ble_eq_true rfl, Nat.le_of_ble_eq_true rfl⟩ (c_L_at k.2.2.2 k.2.1.2.1 r_x5 r_x6 e14) rfl rfl (c1s_i c1s_0 (Nat.le_of_ble_eq_true rfl)) (fun q15 => ?_)
      refine J_tt (u := (t + 3)) (by omega) ?_
      refine J_icmp_ne 127 (o _ _) dL_alike_120 (by decide) q12 q15 (fun c16 => ?_) (fun c17 => ?_)
      · have hf := ite_f c16 hf
        refine J_iconst (o _ _) dL_alike_127 ?_
        exact t_L_alike_128 k r_x3 r_x5 r_x6 rl0 hf hc
      · have hf := ite_t c17 hf
        refine J_iconst (o _ _) dL_alike_123 ?_
        refine J_goto 128 (o _ _) dL_alike_124 (by decide) ?_
        exact t_L_alike_128 k r_x3 r_x5 r_x6 rl1 hf hc
noncomputable def f_L_alike_88 (z : ZQ) (m0 : Bool) (m1 : Bool) (t : Nat) (x3 : Int) (x4 : Int) (x5 : Int) (x6 : Int) : Option ((ZQ × Nat × Int × Int) ⊕ (ZQ × Int)) :=
  lp (fun y : (ZQ × Nat × Int × Int) => f_L_alike_88B y.1 m0 m1 y.2.1 x3 y.2.2.1 x5 y.2.2.2) (z, t, x4, x6)
theorem t_L_alike_88 {X : QX} {K : KT} {H0 : Heap} (k : KofQ X K H0 cL_alike "DatalogmillLaw" rm_L_alike 1000) {z : ZQ} {m0 : Bool} {m1 : Bool} {t : Nat} {x3 : Int} {x4 : Int} {x5 : Int} {x6 : Int} (r_x3 : R32 x3) (r_x5 : R32 x5) {out : ((ZQ × Nat × Int × Int) ⊕ (ZQ × Int))} (hf : f_L_alike_88 z m0 m1 t x3 x4 x5 x6 = some out) (hc : (Sum.elim (HW_L_alike_21 X K H0 m0 m1 x3) (fun out : (ZQ × Int) => RetQZ X K H0 cL_alike 1000 out.1 out.2)) out) : HW_L_alike_88 X K H0 m0 m1 x3 x5 (z, t, x4, x6) := by
  unfold f_L_alike_88 at hf
  refine lp_ind (P := HW_L_alike_88 X K H0 m0 m1 x3 x5) hf ?_
  intro y o hs h1 h2
  intro r_x4 r_x6
  refine t_L_alike_88B k r_x3 r_x4 r_x5 r_x6 hs ?_
  cases o with
  | inl z' => exact h1 z' rfl
  | inr r' => rw [h2 r' rfl]; exact hc
noncomputable def f_L_alike_83 (z : ZQ) (m0 : Bool) (m1 : Bool) (t : Nat) (x3 : Int) (x5 : Int) (s0 : Int) : Option ((ZQ × Nat × Int × Int) ⊕ (ZQ × Int)) :=
  gd (t + 0 ≤ 1000) (f_L_alike_88 z m0 m1 t x3 s0 x5 0)
set_option maxRecDepth 100000 in
theorem t_L_alike_83 {X : QX} {K : KT} {H0 : Heap} (k : KofQ X K H0 cL_alike "DatalogmillLaw" rm_L_alike 1000) {z : ZQ} {m0 : Bool} {m1 : Bool} {t : Nat} {x3 : Int} {x5 : Int} {s0 : Int} {o4 o6 : Option Value} (r_x3 : R32 x3) (r_x5 : R32 x5) (r_s0 : R32 s0) {out : ((ZQ × Nat × Int × Int) ⊕ (ZQ × Int))} (hf : f_L_alike_83 z m0 m1 t x3 x5 s0 = some out) (hc : (Sum.elim (HW_L_alike_21 X K H0 m0 m1 x3) (fun out : (ZQ × Int) => RetQZ X K H0 cL_alike 1000 out.1 out.2)) out) : Jj (kAdd K t (6 * t)) (WdQ X H0) z 83 [some (rf (X.M m0).ad 1), some (rf (X.M m1).ad 1), some (.ref X.oa), some (.int (ii x3)), o4, some (.int (ii x5)), o6] [.int (ii s0)] := by
  unfold f_L_alike_83 at hf
  have o : ∀ a b, Ok (kAdd K a b) cL_alike "DatalogmillLaw" rm_L_alike := fun _ _ => OkQ.add k.1
  have g : ∀ a b, GdQ X (kAdd K a b) H0 := fun _ _ => GdQ.add k.2.1
  obtain ⟨ht, hf⟩ := gd_some hf
  refine J_istore (o _ _) dL_alike_83 (Nat.le_of_ble_eq_true rfl) ?_
  refine J_iconst (o _ _) dL_alike_85 ?_
  refine J_istore (o _ _) dL_alike_86 (Nat.le_of_ble_eq_true rfl) ?_
  exact (t_L_alike_88 k r_x3 r_x5 hf hc) r_s0 rl0 
noncomputable def f_L_alike_82 (z : ZQ) (m0 : Bool) (m1 : Bool) (t : Nat) (x3 : Int) (x5 : Int) : Option ((ZQ × Nat × Int × Int) ⊕ (ZQ × Int)) :=
  gd (t + 0 ≤ 1000) (f_L_alike_83 z m0 m1 t x3 x5 0)
set_option maxRecDepth 100000 in
theorem t_L_alike_82 {X : QX} {K : KT} {H0 : Heap} (k : KofQ X K H0 cL_alike "DatalogmillLaw" rm_L_alike 1000) {z : ZQ} {m0 : Bool} {m1 : Bool} {t : Nat} {x3 : Int} {x5 : Int} {o4 o6 : Option Value} (r_x3 : R32 x3) (r_x5 : R32 x5) {out : ((ZQ × Nat × Int × Int) ⊕ (ZQ × Int))} (hf : f_L_alike_82 z m0 m1 t x3 x5 = some out) (hc : (Sum.elim (HW_L_alike_21 X K H0 m0 m1 x3) (fun out : (ZQ × Int) => RetQZ X K H0 cL_alike 1000 out.1 out.2)) out) : Jj (kAdd K t (6 * t)) (WdQ X H0) z 82 [some (rf (X.M m0).ad 1), some (rf (X.M m1).ad 1), some (.ref X.oa), some (.int (ii x3)), o4, some (.int (ii x5)), o6] [] := by
  unfold f_L_alike_82 at hf
  have o : ∀ a b, Ok (kAdd K a b) cL_alike "DatalogmillLaw" rm_L_alike := fun _ _ => OkQ.add k.1
  have g : ∀ a b, GdQ X (kAdd K a b) H0 := fun _ _ => GdQ.add k.2.1
  obtain ⟨ht, hf⟩ := gd_some hf
  refine J_iconst (o _ _) dL_alike_82 ?_
  exact t_L_alike_83 k r_x3 r_x5 rl0 hf hc
noncomputable def f_L_alike_21B (z : ZQ) (m0 : Bool) (m1 : Bool) (t : Nat) (x3 : Int) (x4 : Int) (x5 : Int) : Option ((ZQ × Nat × Int × Int) ⊕ (ZQ × Int)) :=
  gd (t + 6 ≤ 1000) (if 6 ≤ x5 then (bnd (f_L_alike_142 z m0 m1 t x3 x4) fun y3 => some (Sum.inr y3)) else (if x4 = 0 then (bnd (f_L_alike_142 z m0 m1 t x3 x4) fun y6 => some (Sum.inr y6)) else (bnd (f_L_size z m0 x5) fun v7 => bnd (f_L_size v7.1 m1 x5) fun v10 => if v7.2 = v10.2 then (bnd (f_L_stratum v10.1 m0 x5) fun v15 => bnd (f_L_stratum v15.1 m1 x5) fun v18 => if v15.2 = v18.2 then (bnd (f_L_indexes v18.1 m0 x5) fun v23 => bnd (f_L_indexes v23.1 m1 x5) fun v26 => if v23.2 = v26.2 then (f_L_alike_83 v26.1 m0 m1 (t + 6) x3 x5 1) else (f_L_alike_82 v26.1 m0 m1 (t + 6) x3 x5)) else (f_L_alike_82 v18.1 m0 m1 (t + 4) x3 x5)) else (f_L_alike_82 v10.1 m0 m1 (t + 2) x3 x5))))
set_option maxRecDepth 100000 in
theorem t_L_alike_21B {X : QX} {K : KT} {H0 : Heap} (k : KofQ X K H0 cL_alike "DatalogmillLaw" rm_L_alike 1000) {z : ZQ} {m0 : Bool} {m1 : Bool} {t : Nat} {x3 : Int} {x4 : Int} {x5 : Int} {o6 : Option Value} (r_x3 : R32 x3) (r_x4 : R32 x4) (r_x5 : R32 x5) {out : ((ZQ × Nat × Int × Int) ⊕ (ZQ × Int))} (hf : f_L_alike_21B z m0 m1 t x3 x4 x5 = some out) (hc : (Sum.elim (HW_L_alike_21 X K H0 m0 m1 x3) (fun out : (ZQ × Int) => RetQZ X K H0 cL_alike 1000 out.1 out.2)) out) : Jj (kAdd K t (6 * t)) (WdQ X H0) z 21 [some (rf (X.M m0).ad 1), some (rf (X.M m1).ad 1), some (.ref X.oa), some (.int (ii x3)), some (.int (ii x4)), some (.int (ii x5)), o6] [] := by
  unfold f_L_alike_21B at hf
  have o : ∀ a b, Ok (kAdd K a b) cL_alike "DatalogmillLaw" rm_L_alike := fun _ _ => OkQ.add k.1
  have g : ∀ a b, GdQ X (kAdd K a b) H0 := fun _ _ => GdQ.add k.2.1
  obtain ⟨ht, hf⟩ := gd_some hf
  refine J_iload (o _ _) dL_alike_21 rfl ?_
  refine J_bipush (o _ _) dL_alike_23 (by decide) ?_
  refine J_icmp_ge 142 (o _ _) dL_alike_25 (by decide) r_x5 rl6 (fun c1 => ?_) (fun c2 => ?_)
  · have hf := ite_t c1 hf
    obtain ⟨y3, hf1, hf⟩ := bnd_some hf
    have hf := some_inj hf
    subst hf
    exact t_L_alike_142 k r_x3 r_x4 hf1 hc
  · have hf := ite_f c2 hf
    refine J_iload (o _ _) dL_alike_28 rfl ?_
    refine J_if_eq 142 (o _ _) dL_alike_30 (by decide) r_x4 (fun c4 => ?_) (fun c5 => ?_)
    · have hf := ite_t c4 hf
      obtain ⟨y6, hf1, hf⟩ := bnd_some hf
      have hf := some_inj hf
      subst hf
      exact t_L_alike_142 k r_x3 r_x4 hf1 hc
    · have hf := ite_f c5 hf
      refine J_aload_n (o _ _) dL_alike_33 rfl ?_
      refine J_iload (o _ _) dL_alike_34 rfl ?_
      obtain ⟨v7, e8, hf⟩ := bnd_some hf
      refine J_qW (np := 2) k.1 k.2.1 k.2.2.1 (by omega) dL_alike_36 mw1024 mw1026 mw1025 mw111 ⟨by decide +kernel, by decide +kernel, by decide +kernel⟩ ⟨rfl, rfl, Nat.le_of_ble_eq_true rfl, Nat.le_of_ble_eq_true rfl⟩ (c_L_size k.2.2.2 k.2.1.2.1 r_x5 e8) rfl rfl c1s_0 (fun q9 => ?_)
      refine J_tt (u := (t + 1)) (by omega) ?_
      refine J_aload_n (o _ _) dL_alike_39 rfl ?_
      refine J_iload (o _ _) dL_alike_40 rfl ?_
      obtain ⟨v10, e11, hf⟩ := bnd_some hf
      refine J_qW (np := 2) k.1 k.2.1 k.2.2.1 (by omega) dL_alike_42 mw1024 mw1026 mw1025 mw111 ⟨by decide +kernel, by decide +kernel, by decide +kernel⟩ ⟨rfl, rfl, Nat.le_of_ble_eq_true rfl, Nat.le_of_ble_eq_true rfl⟩ (c_L_size k.2.2.2 k.2.1.2.1 r_x5 e11) rfl rfl (c1s_i c1s_0 (Nat.le_of_ble_eq_true rfl)) (fun q12 => ?_)
      refine J_tt (u := (t + 2)) (by omega) ?_
      refine J_icmp_ne 82 (o _ _) dL_alike_45 (by decide) q9 q12 (fun c13 => ?_) (fun c14 => ?_)
      · have hf := ite_f c13 hf
        exact t_L_alike_82 k r_x3 r_x5 hf hc
      · have hf := ite_t c14 hf
        refine J_aload_n (o _ _) dL_alike_48 rfl ?_
        refine J_iload (o _ _) dL_alike_49 rfl ?_
        obtain ⟨v15, e16, hf⟩ := bnd_some hf
        refine J_qW (np := 2) k.1 k.2.1 k.2.2.1 (by omega) dL_alike_51 mw1049 mw1051 mw1050 mw111 ⟨by decide +kernel, by decide +kernel, by decide +kernel⟩ ⟨rfl, rfl, Nat.le_of_ble_eq_true rfl, Nat.le_of_ble_eq_true rfl⟩ (c_L_stratum k.2.2.2 k.2.1.2.1 r_x5 e16) rfl rfl c1s_0 (fun q17 => ?_)
        refine J_tt (u := (t + 3)) (by omega) ?_
        refine J_aload_n (o _ _) dL_alike_54 rfl ?_
        refine J_iload (o _ _) dL_alike_55 rfl ?_
        obtain ⟨v18, e19, hf⟩ := bnd_some hf
        refine J_qW (np := 2) k.1 k.2.1 k.2.2.1 (by omega) dL_alike_57 mw1049 mw1051 mw1050 mw111 ⟨by decide +kernel, by decide +kernel, by decide +kernel⟩ ⟨rfl, rfl, Nat.le_of_ble_eq_true rfl, Nat.le_of_ble_eq_true rfl⟩ (c_L_stratum k.2.2.2 k.2.1.2.1 r_x5 e19) rfl rfl (c1s_i c1s_0 (Nat.le_of_ble_eq_true rfl)) (fun q20 => ?_)
        refine J_tt (u := (t + 4)) (by omega) ?_
        refine J_icmp_ne 82 (o _ _) dL_alike_60 (by decide) q17 q20 (fun c21 => ?_) (fun c22 => ?_)
        · have hf := ite_f c21 hf
          exact t_L_alike_82 k r_x3 r_x5 hf hc
        · have hf := ite_t c22 hf
          refine J_aload_n (o _ _) dL_alike_63 rfl ?_
          refine J_iload (o _ _) dL_alike_64 rfl ?_
          obtain ⟨v23, e24, hf⟩ := bnd_some hf
          refine J_qW (np := 2) k.1 k.2.1 k.2.2.1 (by omega) dL_alike_66 mw1247 mw1249 mw1248 mw111 ⟨by decide +kernel, by decide +kernel, by decide +kernel⟩ ⟨rfl, rfl, Nat.le_of_ble_eq_true rfl, Nat.le_of_ble_eq_true rfl⟩ (c_L_indexes k.2.2.2 k.2.1.2.1 r_x5 e24) rfl rfl c1s_0 (fun q25 => ?_)
          refine J_tt (u := (t + 5)) (by omega) ?_
          refine J_aload_n (o _ _) dL_alike_69 rfl ?_
          refine J_iload (o _ _) dL_alike_70 rfl ?_
          obtain ⟨v26, e27, hf⟩ := bnd_some hf
          refine J_qW (np := 2) k.1 k.2.1 k.2.2.1 (by omega) dL_alike_72 mw1247 mw1249 mw1248 mw111 ⟨by decide +kernel, by decide +kernel, by decide +kernel⟩ ⟨rfl, rfl, Nat.le_of_ble_eq_true rfl, Nat.le_of_ble_eq_true rfl⟩ (c_L_indexes k.2.2.2 k.2.1.2.1 r_x5 e27) rfl rfl (c1s_i c1s_0 (Nat.le_of_ble_eq_true rfl)) (fun q28 => ?_)
          refine J_tt (u := (t + 6)) (by omega) ?_
          refine J_icmp_ne 82 (o _ _) dL_alike_75 (by decide) q25 q28 (fun c29 => ?_) (fun c30 => ?_)
          · have hf := ite_f c29 hf
            exact t_L_alike_82 k r_x3 r_x5 hf hc
          · have hf := ite_t c30 hf
            refine J_iconst (o _ _) dL_alike_78 ?_
            refine J_goto 83 (o _ _) dL_alike_79 (by decide) ?_
            exact t_L_alike_83 k r_x3 r_x5 rl1 hf hc
noncomputable def f_L_alike_21 (z : ZQ) (m0 : Bool) (m1 : Bool) (t : Nat) (x3 : Int) (x4 : Int) (x5 : Int) : Option (ZQ × Int) :=
  lp (fun y : (ZQ × Nat × Int × Int) => f_L_alike_21B y.1 m0 m1 y.2.1 x3 y.2.2.1 y.2.2.2) (z, t, x4, x5)
theorem t_L_alike_21 {X : QX} {K : KT} {H0 : Heap} (k : KofQ X K H0 cL_alike "DatalogmillLaw" rm_L_alike 1000) {z : ZQ} {m0 : Bool} {m1 : Bool} {t : Nat} {x3 : Int} {x4 : Int} {x5 : Int} (r_x3 : R32 x3) {out : (ZQ × Int)} (hf : f_L_alike_21 z m0 m1 t x3 x4 x5 = some out) (hc : (fun out : (ZQ × Int) => RetQZ X K H0 cL_alike 1000 out.1 out.2) out) : HW_L_alike_21 X K H0 m0 m1 x3 (z, t, x4, x5) := by
  unfold f_L_alike_21 at hf
  refine lp_ind (P := HW_L_alike_21 X K H0 m0 m1 x3) hf ?_
  intro y o hs h1 h2
  intro r_x4 r_x5
  intro o6
  refine t_L_alike_21B k r_x3 r_x4 r_x5 hs ?_
  cases o with
  | inl z' => exact h1 z' rfl
  | inr r' => rw [h2 r' rfl]; exact hc
noncomputable def f_L_alike_16 (z : ZQ) (m0 : Bool) (m1 : Bool) (x3 : Int) (s0 : Int) : Option (ZQ × Int) :=
  f_L_alike_21 z m0 m1 0 x3 s0 0
set_option maxRecDepth 100000 in
theorem t_L_alike_16 {X : QX} {K : KT} {H0 : Heap} (k : KofQ X K H0 cL_alike "DatalogmillLaw" rm_L_alike 1000) {z : ZQ} {m0 : Bool} {m1 : Bool} {x3 : Int} {s0 : Int} {o4 o5 o6 : Option Value} (r_x3 : R32 x3) (r_s0 : R32 s0) {out : (ZQ × Int)} (hf : f_L_alike_16 z m0 m1 x3 s0 = some out) (hc : (fun out : (ZQ × Int) => RetQZ X K H0 cL_alike 1000 out.1 out.2) out) : Jj (kAdd K 0 (6 * 0)) (WdQ X H0) z 16 [some (rf (X.M m0).ad 1), some (rf (X.M m1).ad 1), some (.ref X.oa), some (.int (ii x3)), o4, o5, o6] [.int (ii s0)] := by
  unfold f_L_alike_16 at hf
  have o : ∀ a b, Ok (kAdd K a b) cL_alike "DatalogmillLaw" rm_L_alike := fun _ _ => OkQ.add k.1
  have g : ∀ a b, GdQ X (kAdd K a b) H0 := fun _ _ => GdQ.add k.2.1
  refine J_istore (o _ _) dL_alike_16 (Nat.le_of_ble_eq_true rfl) ?_
  refine J_iconst (o _ _) dL_alike_18 ?_
  refine J_istore (o _ _) dL_alike_19 (Nat.le_of_ble_eq_true rfl) ?_
  exact (t_L_alike_21 k r_x3 hf hc) r_s0 rl0 _
noncomputable def f_L_alike (z : ZQ) (m0 : Bool) (m1 : Bool) (x3 : Int) : Option (ZQ × Int) :=
  bnd (f_Dm_broken (zg z m0)) fun v1 => bl (zs z m0 v1.1) fun z4 => bnd (f_Dm_broken (zg z4 m1)) fun v5 => bl (zs z4 m1 v5.1) fun z8 => if v1.2 = v5.2 then (f_L_alike_16 z8 m0 m1 x3 1) else (f_L_alike_16 z8 m0 m1 x3 0)
set_option maxRecDepth 100000 in
theorem t_L_alike_0 {X : QX} {K : KT} {H0 : Heap} (k : KofQ X K H0 cL_alike "DatalogmillLaw" rm_L_alike 1000) {z : ZQ} {m0 : Bool} {m1 : Bool} {x3 : Int} {o4 o5 o6 : Option Value} (r_x3 : R32 x3) {out : (ZQ × Int)} (hf : f_L_alike z m0 m1 x3 = some out) (hc : (fun out : (ZQ × Int) => RetQZ X K H0 cL_alike 1000 out.1 out.2) out) : Jj (kAdd K 0 (6 * 0)) (WdQ X H0) z 0 [some (rf (X.M m0).ad 1), some (rf (X.M m1).ad 1), some (.ref X.oa), some (.int (ii x3)), o4, o5, o6] [] := by
  unfold f_L_alike at hf
  have o : ∀ a b, Ok (kAdd K a b) cL_alike "DatalogmillLaw" rm_L_alike := fun _ _ => OkQ.add k.1
  have g : ∀ a b, GdQ X (kAdd K a b) H0 := fun _ _ => GdQ.add k.2.1
  refine J_aload_n (o _ _) dL_alike_0 rfl ?_
  obtain ⟨v1, e2, hf⟩ := bnd_some hf
  refine J_qaI (m := m0) (vs := []) k.1 k.2.1 k.2.2.1 (Nat.le_of_ble_eq_true rfl) dL_alike_1 lkL_183 ml_Dm_broken vl_Dm_broken ⟨rfl, rfl, Nat.le_of_ble_eq_true rfl, Nat.le_of_ble_eq_true rfl⟩ (c_Dm_broken k.2.1.2.1.inj e2) kA_1 rfl ⟨by decide, by decide⟩ rfl rfl c1s_0 (fun q3 => ?_)
  have hf := bl_out hf
  refine J_aload_n (o _ _) dL_alike_4 rfl ?_
  obtain ⟨v5, e6, hf⟩ := bnd_some hf
  refine J_qaI (m := m1) (vs := []) k.1 k.2.1 k.2.2.1 (Nat.le_of_ble_eq_true rfl) dL_alike_5 lkL_183 ml_Dm_broken vl_Dm_broken ⟨rfl, rfl, Nat.le_of_ble_eq_true rfl, Nat.le_of_ble_eq_true rfl⟩ (c_Dm_broken k.2.1.2.1.inj e6) kA_1 rfl ⟨by decide, by decide⟩ rfl rfl (c1s_i c1s_0 (Nat.le_of_ble_eq_true rfl)) (fun q7 => ?_)
  have hf := bl_out hf
  refine J_icmp_ne 15 (o _ _) dL_alike_8 (by decide) q3 q7 (fun c9 => ?_) (fun c10 => ?_)
  · have hf := ite_f c9 hf
    refine J_iconst (o _ _) dL_alike_15 ?_
    exact t_L_alike_16 k r_x3 rl0 hf hc
  · have hf := ite_t c10 hf
    refine J_iconst (o _ _) dL_alike_11 ?_
    refine J_goto 16 (o _ _) dL_alike_12 (by decide) ?_
    exact t_L_alike_16 k r_x3 rl1 hf hc
theorem c_L_alike {X : QX} {l : Launch} (hst : l.stackTraces = false) (hA : ApQ X) {z : ZQ} {m0 : Bool} {m1 : Bool} {x3 : Int} (r_x3 : R32 x3) {out : (ZQ × Int)} (hf : f_L_alike z m0 m1 x3 = some out) : ConQ X l yL_alike (WS yL_alike cL_alike 7 (some .boolean)) rm_L_alike [rf (X.M m0).ad 1, rf (X.M m1).ad 1, .ref X.oa, .int (ii x3)] z out.1 out.2 :=
  con_QZ (by decide +kernel) rfl (Nat.le_of_ble_eq_true rfl) (c1s_r (c1s_r (c1s_a (c1s_i c1s_0 (Nat.le_of_ble_eq_true rfl)) (Nat.le_of_ble_eq_true rfl)) (Nat.le_of_ble_eq_true rfl)) (Nat.le_of_ble_eq_true rfl)).1 ⟨rfl, rfl⟩ hA hst (fun K H0 k hret => t_L_alike_0 k r_x3 hf hret)
abbrev rm_L_told : Room := { frames := 9, cells := 400, slots := 2400, locals := 235 }
def HW_L_told_9 (X : QX) (K : KT) (H0 : Heap) (m0 : Bool) (x2 : Int) (x3 : Int) : (ZQ × Nat × Int × Int × Int) → Prop := fun y => R32 y.2.2.1 → R32 y.2.2.2.1 → R32 y.2.2.2.2 → ∀ o7 o8 o9 o10 o11 o12 : Option Value, Jj (kAdd K y.2.1 (6 * y.2.1)) (WdQ X H0) y.1 9 [some (rf (X.M m0).ad 1), some (.ref X.oa), some (.int (ii x2)), some (.int (ii x3)), some (.int (ii y.2.2.1)), some (.int (ii y.2.2.2.1)), some (.int (ii y.2.2.2.2)), o7, o8, o9, o10, o11, o12] []
noncomputable def f_L_told_181 (z : ZQ) (m0 : Bool) (t : Nat) (x2 : Int) (x3 : Int) (x6 : Int) (x7 : Int) (s0 : Int) : Option ((ZQ × Nat × Int × Int × Int) ⊕ (ZQ × Int)) :=
  gd (t + 0 ≤ 400) (bl (wr (x6 + 1)) fun n1 => some (Sum.inl (z, t, x7, s0, n1)))
set_option maxRecDepth 100000 in
theorem t_L_told_181 {X : QX} {K : KT} {H0 : Heap} (k : KofQ X K H0 cL_told "DatalogmillLaw" rm_L_told 400) {z : ZQ} {m0 : Bool} {t : Nat} {x2 : Int} {x3 : Int} {x6 : Int} {x7 : Int} {s0 : Int} {o4 o5 o8 o9 o10 o11 o12 : Option Value} (r_x2 : R32 x2) (r_x3 : R32 x3) (r_x6 : R32 x6) (r_x7 : R32 x7) (r_s0 : R32 s0) {out : ((ZQ × Nat × Int × Int × Int) ⊕ (ZQ × Int))} (hf : f_L_told_181 z m0 t x2 x3 x6 x7 s0 = some out) (hc : (Sum.elim (HW_L_told_9 X K H0 m0 x2 x3) (fun out : (ZQ × Int) => RetQZ X K H0 cL_told 400 out.1 out.2)) out) : Jj (kAdd K t (6 * t)) (WdQ X H0) z 181 [some (rf (X.M m0).ad 1), some (.ref X.oa), some (.int (ii x2)), some (.int (ii x3)), o4, o5, some (.int (ii x6)), some (.int (ii x7)), o8, o9, o10, o11, o12] [.int (ii s0)] := by
  unfold f_L_told_181 at hf
  have o : ∀ a b, Ok (kAdd K a b) cL_told "DatalogmillLaw" rm_L_told := fun _ _ => OkQ.add k.1
  have g : ∀ a b, GdQ X (kAdd K a b) H0 := fun _ _ => GdQ.add k.2.1
  obtain ⟨ht, hf⟩ := gd_some hf
  refine J_istore (o _ _) dL_told_181 (Nat.le_of_ble_eq_true rfl) ?_
  refine J_iload (o _ _) dL_told_183 rfl ?_
  refine J_istore (o _ _) dL_told_185 (Nat.le_of_ble_eq_true rfl) ?_
  have hf := bl_out hf
  refine J_iinc (o _ _) dL_told_187 rfl ?_
  refine J_goto 9 (o _ _) dL_told_190 (by decide) ?_
  have hf := some_inj hf
  subst hf
  exact hc r_x7 r_s0 (R_wr _) _ _ _ _ _ _
noncomputable def f_L_told_180 (z : ZQ) (m0 : Bool) (t : Nat) (x2 : Int) (x3 : Int) (x6 : Int) (x7 : Int) : Option ((ZQ × Nat × Int × Int × Int) ⊕ (ZQ × Int)) :=
  gd (t + 0 ≤ 400) (f_L_told_181 z m0 t x2 x3 x6 x7 0)
set_option maxRecDepth 100000 in
theorem t_L_told_180 {X : QX} {K : KT} {H0 : Heap} (k : KofQ X K H0 cL_told "DatalogmillLaw" rm_L_told 400) {z : ZQ} {m0 : Bool} {t : Nat} {x2 : Int} {x3 : Int} {x6 : Int} {x7 : Int} {o4 o5 o8 o9 o10 o11 o12 : Option Value} (r_x2 : R32 x2) (r_x3 : R32 x3) (r_x6 : R32 x6) (r_x7 : R32 x7) {out : ((ZQ × Nat × Int × Int × Int) ⊕ (ZQ × Int))} (hf : f_L_told_180 z m0 t x2 x3 x6 x7 = some out) (hc : (Sum.elim (HW_L_told_9 X K H0 m0 x2 x3) (fun out : (ZQ × Int) => RetQZ X K H0 cL_told 400 out.1 out.2)) out) : Jj (kAdd K t (6 * t)) (WdQ X H0) z 180 [some (rf (X.M m0).ad 1), some (.ref X.oa), some (.int (ii x2)), some (.int (ii x3)), o4, o5, some (.int (ii x6)), some (.int (ii x7)), o8, o9, o10, o11, o12] [] := by
  unfold f_L_told_180 at hf
  have o : ∀ a b, Ok (kAdd K a b) cL_told "DatalogmillLaw" rm_L_told := fun _ _ => OkQ.add k.1
  have g : ∀ a b, GdQ X (kAdd K a b) H0 := fun _ _ => GdQ.add k.2.1
  obtain ⟨ht, hf⟩ := gd_some hf
  refine J_iconst (o _ _) dL_told_180 ?_
  exact t_L_told_181 k r_x2 r_x3 r_x6 r_x7 rl0 hf hc
noncomputable def f_L_told_99 (z : ZQ) (m0 : Bool) (t : Nat) (x2 : Int) (x3 : Int) (x4 : Int) (x6 : Int) (x7 : Int) (x8 : Int) (x9 : Int) (x10 : Int) (x11 : Int) (s0 : Int) : Option ((ZQ × Nat × Int × Int × Int) ⊕ (ZQ × Int)) :=
  gd (t + 3 ≤ 400) (if x7 ≤ x4 then (f_L_told_180 z m0 t x2 x3 x6 x7) else (bnd (f_L_holds z m0 x2 x8 x9 x10) fun v3 => if v3.2 = 1 then (bnd (f_L_anew v3.1 m0 x2 x8 x9 x10 (v3.1.2.2 5)) fun v9 => if v9.2 = 1 then (bnd (f_L_ways v9.1 m0 x2 x8 x9 x10) fun v14 => if v14.2 ≤ 0 then (f_L_told_180 v14.1 m0 (t + 3) x2 x3 x6 x7) else (if x11 ≤ 0 then (f_L_told_180 v14.1 m0 (t + 3) x2 x3 x6 x7) else (if 1000000 < x11 then (f_L_told_180 v14.1 m0 (t + 3) x2 x3 x6 x7) else (if (ishr s0 (v14.1.2.2 0)) = 0 then (f_L_told_181 v14.1 m0 (t + 3) x2 x3 x6 x7 1) else (f_L_told_180 v14.1 m0 (t + 3) x2 x3 x6 x7))))) else (f_L_told_180 v9.1 m0 (t + 2) x2 x3 x6 x7)) else (f_L_told_180 v3.1 m0 (t + 1) x2 x3 x6 x7)))
set_option maxRecDepth 100000 in
theorem t_L_told_99 {X : QX} {K : KT} {H0 : Heap} (k : KofQ X K H0 cL_told "DatalogmillLaw" rm_L_told 400) {z : ZQ} {m0 : Bool} {t : Nat} {x2 : Int} {x3 : Int} {x4 : Int} {x6 : Int} {x7 : Int} {x8 : Int} {x9 : Int} {x10 : Int} {x11 : Int} {s0 : Int} {o5 o12 : Option Value} (r_x2 : R32 x2) (r_x3 : R32 x3) (r_x4 : R32 x4) (r_x6 : R32 x6) (r_x7 : R32 x7) (r_x8 : R32 x8) (r_x9 : R32 x9) (r_x10 : R32 x10) (r_x11 : R32 x11) (r_s0 : R32 s0) {out : ((ZQ × Nat × Int × Int × Int) ⊕ (ZQ × Int))} (hf : f_L_told_99 z m0 t x2 x3 x4 x6 x7 x8 x9 x10 x11 s0 = some out) (hc : (Sum.elim (HW_L_told_9 X K H0 m0 x2 x3) (fun out : (ZQ × Int) => RetQZ X K H0 cL_told 400 out.1 out.2)) out) : Jj (kAdd K t (6 * t)) (WdQ X H0) z 99 [some (rf (X.M m0).ad 1), some (.ref X.oa), some (.int (ii x2)), some (.int (ii x3)), some (.int (ii x4)), o5, some (.int (ii x6)), some (.int (ii x7)), some (.int (ii x8)), some (.int (ii x9)), some (.int (ii x10)), some (.int (ii x11)), o12] [.int (ii s0)] := by
  unfold f_L_told_99 at hf
  have o : ∀ a b, Ok (kAdd K a b) cL_told "DatalogmillLaw" rm_L_told := fun _ _ => OkQ.add k.1
  have g : ∀ a b, GdQ X (kAdd K a b) H0 := fun _ _ => GdQ.add k.2.1
  obtain ⟨ht, hf⟩ := gd_some hf
  refine J_istore (o _ _) dL_told_99 (Nat.le_of_ble_eq_true rfl) ?_
  refine J_iload (o _ _) dL_told_101 rfl ?_
  refine J_iload (o _ _) dL_told_103 rfl ?_
  refine J_icmp_le 180 (o _ _) dL_told_105 (by decide) r_x7 r_x4 (fun c1 => ?_) (fun c2 => ?_)
  · have hf := ite_t c1 hf
    exact t_L_told_180 k r_x2 r_x3 r_x6 r_x7 hf hc
  · have hf := ite_f c2 hf
    refine J_aload_n (o _ _) dL_told_108 rfl ?_
    refine J_iload_n (o _ _) dL_told_109 rfl ?_
    refine J_iload (o _ _) dL_told_110 rfl ?_
    refine J_iload (o _ _) dL_told_112 rfl ?_
    refine J_iload (o _ _) dL_told_114 rfl ?_
    obtain ⟨v3, e4, hf⟩ := bnd_some hf
    refine J_qW (np := 5) k.1 k.2.1 k.2.2.1 (by omega) dL_told_116 mw990 mw992 mw991 mw111 ⟨by decide +kernel, by decide +kernel, by decide +kernel⟩ ⟨rfl, rfl, Nat.le_of_ble_eq_true rfl, Nat.le_of_ble_eq_true rfl⟩ (c_L_holds k.2.2.2 k.2.1.2.1 r_x2 r_x8 r_x9 r_x10 e4) rfl rfl c1s_0 (fun q5 => ?_)
    refine J_tt (u := (t + 1)) (by omega) ?_
    refine J_iconst (o _ _) dL_told_119 ?_
    refine J_icmp_ne 180 (o _ _) dL_told_120 (by decide) q5 rl1 (fun c6 => ?_) (fun c7 => ?_)
    · have hf := ite_f c6 hf
      exact t_L_told_180 k r_x2 r_x3 r_x6 r_x7 hf hc
    · have hf := ite_t c7 hf
      refine J_aload_n (o _ _) dL_told_123 rfl ?_
      refine J_iload_n (o _ _) dL_told_124 rfl ?_
      refine J_iload (o _ _) dL_told_125 rfl ?_
      refine J_iload (o _ _) dL_told_127 rfl ?_
      refine J_iload (o _ _) dL_told_129 rfl ?_
      refine J_aldO_n (o _ _) dL_told_131 rfl ?_
      refine J_iconst (o _ _) dL_told_132 ?_
      refine J_nld (o _ _) (g _ _) dL_told_133 rl5 ⟨by decide, by decide⟩ (fun q8 => ?_)
      obtain ⟨v9, e10, hf⟩ := bnd_some hf
      refine J_qW (np := 6) k.1 k.2.1 k.2.2.1 (by omega) dL_told_134 mw1017 mw1019 mw1018 mw111 ⟨by decide +kernel, by decide +kernel, by decide +kernel⟩ ⟨rfl, rfl, Nat.le_of_ble_eq_true rfl, Nat.le_of_ble_eq_true rfl⟩ (c_L_anew k.2.2.2 k.2.1.2.1 r_x2 r_x8 r_x9 r_x10 q8 e10) rfl rfl c1s_0 (fun q11 => ?_)
      refine J_tt (u := (t + 2)) (by omega) ?_
      refine J_iconst (o _ _) dL_told_137 ?_
      refine J_icmp_ne 180 (o _ _) dL_told_138 (by decide) q11 rl1 (fun c12 => ?_) (fun c13 => ?_)
      · have hf := ite_f c12 hf
        exact t_L_told_180 k r_x2 r_x3 r_x6 r_x7 hf hc
      · have hf := ite_t c13 hf
        refine J_aload_n (o _ _) dL_told_141 rfl ?_
        refine J_iload_n (o _ _) dL_told_142 rfl ?_
        refine J_iload (o _ _) dL_told_143 rfl ?_
        refine J_iload (o _ _) dL_told_145 rfl ?_
        refine J_iload (o _ _) dL_told_147 rfl ?_
        obtain ⟨v14, e15, hf⟩ := bnd_some hf
        refine J_qW (np := 5) k.1 k.2.1 k.2.2.1 (by omega) dL_told_149 mw1057 mw1059 mw1058 mw111 ⟨by decide +kernel, by decide +kernel, by decide +kernel⟩ ⟨rfl, rfl, Nat.le_of_ble_eq_true rfl, Nat.le_of_ble_eq_true rfl⟩ (c_L_ways k.2.2.2 k.2.1.2.1 r_x2 r_x8 r_x9 r_x10 e15) rfl rfl c1s_0 (fun q16 => ?_)
        refine J_tt (u := (t + 3)) (by omega) ?_
        refine J_if_le 180 (o _ _) dL_told_152 (by decide) q16 (fun c17 => ?_) (fun c18 => ?_)
        · have hf := ite_t c17 hf
          exact t_L_told_180 k r_x2 r_x3 r_x6 r_x7 hf hc
        · have hf := ite_f c18 hf
          refine J_iload (o _ _) dL_told_155 rfl ?_
          refine J_if_le 180 (o _ _) dL_told_157 (by decide) r_x11 (fun c19 => ?_) (fun c20 => ?_)
          · have hf := ite_t c19 hf
            exact t_L_told_180 k r_x2 r_x3 r_x6 r_x7 hf hc
          · have hf := ite_f c20 hf
            refine J_iload (o _ _) dL_told_160 rfl ?_
            refine J_ldc (o _ _) dL_told_162 kcL_186 ?_
            refine J_icmp_gt 180 (o _ _) dL_told_164 (by decide) r_x11 rl1000000 (fun c21 => ?_) (fun c22 => ?_)
            · have hf := ite_t c21 hf
              exact t_L_told_180 k r_x2 r_x3 r_x6 r_x7 hf hc
            · have hf := ite_f c22 hf
              refine J_iload (o _ _) dL_told_167 rfl ?_
              refine J_aldO_n (o _ _) dL_told_169 rfl ?_
              refine J_iconst (o _ _) dL_told_170 ?_
              refine J_nld (o _ _) (g _ _) dL_told_171 rl0 ⟨by decide, by decide⟩ (fun q23 => ?_)
              refine J_ishr (o _ _) dL_told_172 ?_
              refine J_if_ne 180 (o _ _) dL_told_173 (by decide) (R_ishr _ _) (fun c24 => ?_) (fun c25 => ?_)
              · have hf := ite_f c24 hf
                exact t_L_told_180 k r_x2 r_x3 r_x6 r_x7 hf hc
              · have hf := ite_t c25 hf
                refine J_iconst (o _ _) dL_told_176 ?_
                refine J_goto 181 (o _ _) dL_told_177 (by decide) ?_
                exact t_L_told_181 k r_x2 r_x3 r_x6 r_x7 rl1 hf hc
noncomputable def f_L_told_9B (z : ZQ) (m0 : Bool) (t : Nat) (x2 : Int) (x3 : Int) (x4 : Int) (x5 : Int) (x6 : Int) : Option ((ZQ × Nat × Int × Int × Int) ⊕ (ZQ × Int)) :=
  gd (t + 4 ≤ 400) (bnd (f_L_size z m0 x2) fun v1 => if v1.2 ≤ x6 then (gd (x5 = 0 ∨ x5 = 1) (some (Sum.inr (v1.1, x5)))) else (if x5 = 0 then (gd (x5 = 0 ∨ x5 = 1) (some (Sum.inr (v1.1, x5)))) else (bnd (f_L_at v1.1 m0 x2 x6) fun v10 => bl (idiv v10.2 16384) fun n13 => bl (irem (idiv v10.2 128) 128) fun n14 => bl (irem v10.2 128) fun n15 => bnd (f_L_cheapest v10.1 m0 x2 n13 n14 n15) fun v16 => if (irem x6 5) = (irem x3 5) then (bnd (f_L_needed v16.1 m0 x2 n13 n14 n15) fun v21 => f_L_told_99 v21.1 m0 (t + 4) x2 x3 x4 x6 v10.2 n13 n14 n15 v16.2 v21.2) else (f_L_told_99 v16.1 m0 (t + 3) x2 x3 x4 x6 v10.2 n13 n14 n15 v16.2 0))))
set_option maxRecDepth 100000 in
theorem t_L_told_9B {X : QX} {K : KT} {H0 : Heap} (k : KofQ X K H0 cL_told "DatalogmillLaw" rm_L_told 400) {z : ZQ} {m0 : Bool} {t : Nat} {x2 : Int} {x3 : Int} {x4 : Int} {x5 : Int} {x6 : Int} {o7 o8 o9 o10 o11 o12 : Option Value} (r_x2 : R32 x2) (r_x3 : R32 x3) (r_x4 : R32 x4) (r_x5 : R32 x5) (r_x6 : R32 x6) {out : ((ZQ × Nat × Int × Int × Int) ⊕ (ZQ × Int))} (hf : f_L_told_9B z m0 t x2 x3 x4 x5 x6 = some out) (hc : (Sum.elim (HW_L_told_9 X K H0 m0 x2 x3) (fun out : (ZQ × Int) => RetQZ X K H0 cL_told 400 out.1 out.2)) out) : Jj (kAdd K t (6 * t)) (WdQ X H0) z 9 [some (rf (X.M m0).ad 1), some (.ref X.oa), some (.int (ii x2)), some (.int (ii x3)), some (.int (ii x4)), some (.int (ii x5)), some (.int (ii x6)), o7, o8, o9, o10, o11, o12] [] := by
  unfold f_L_told_9B at hf
  have o : ∀ a b, Ok (kAdd K a b) cL_told "DatalogmillLaw" rm_L_told := fun _ _ => OkQ.add k.1
  have g : ∀ a b, GdQ X (kAdd K a b) H0 := fun _ _ => GdQ.add k.2.1
  obtain ⟨ht, hf⟩ := gd_some hf
  refine J_iload (o _ _) dL_told_9 rfl ?_
  refine J_aload_n (o _ _) dL_told_11 rfl ?_
  refine J_iload_n (o _ _) dL_told_12 rfl ?_
  obtain ⟨v1, e2, hf⟩ := bnd_some hf
  refine J_qW (np := 2) k.1 k.2.1 k.2.2.1 (by omega) dL_told_13 mw1024 mw1026 mw1025 mw111 ⟨by decide +kernel, by decide +kernel, by decide +kernel⟩ ⟨rfl, rfl, Nat.le_of_ble_eq_true rfl, Nat.le_of_ble_eq_true rfl⟩ (c_L_size k.2.2.2 k.2.1.2.1 r_x2 e2) rfl rfl (c1s_i c1s_0 (Nat.le_of_ble_eq_true rfl)) (fun q3 => ?_)
  refine J_tt (u := (t + 1)) (by omega) ?_
  refine J_icmp_ge 193 (o _ _) dL_told_16 (by decide) r_x6 q3 (fun c4 => ?_) (fun c5 => ?_)
  · have hf := ite_t c4 hf
    refine J_iload (o _ _) dL_told_193 rfl ?_
    obtain ⟨g6, hf⟩ := gd_some hf
    have hf := some_inj hf
    subst hf
    exact hc _ _ _ (by omega) g6 dL_told_195
  · have hf := ite_f c5 hf
    refine J_iload (o _ _) dL_told_19 rfl ?_
    refine J_if_eq 193 (o _ _) dL_told_21 (by decide) r_x5 (fun c7 => ?_) (fun c8 => ?_)
    · have hf := ite_t c7 hf
      refine J_iload (o _ _) dL_told_193 rfl ?_
      obtain ⟨g9, hf⟩ := gd_some hf
      have hf := some_inj hf
      subst hf
      exact hc _ _ _ (by omega) g9 dL_told_195
    · have hf := ite_f c8 hf
      refine J_aload_n (o _ _) dL_told_24 rfl ?_
      refine J_iload_n (o _ _) dL_told_25 rfl ?_
      refine J_iload (o _ _) dL_told_26 rfl ?_
      obtain ⟨v10, e11, hf⟩ := bnd_some hf
      refine J_qW (np := 3) k.1 k.2.1 k.2.2.1 (by omega) dL_told_28 mw1036 mw1038 mw1037 mw111 ⟨by decide +kernel, by decide +kernel, by decide +kernel⟩ ⟨rfl, rfl, Nat.le_of_ble_eq_true rfl, Nat.le_of_ble_eq_true rfl⟩ (c_L_at k.2.2.2 k.2.1.2.1 r_x2 r_x6 e11) rfl rfl c1s_0 (fun q12 => ?_)
      refine J_tt (u := (t + 2)) (by omega) ?_
      refine J_istore (o _ _) dL_told_31 (Nat.le_of_ble_eq_true rfl) ?_
      refine J_iload (o _ _) dL_told_33 rfl ?_
      refine J_sipush (o _ _) dL_told_35 (by decide) ?_
      refine J_idiv (o _ _) dL_told_38 rl16384 (by decide) ?_
      refine J_istore (o _ _) dL_told_39 (Nat.le_of_ble_eq_true rfl) ?_
      have hf := bl_out hf
      refine J_iload (o _ _) dL_told_41 rfl ?_
      refine J_sipush (o _ _) dL_told_43 (by decide) ?_
      refine J_idiv (o _ _) dL_told_46 rl128 (by decide) ?_
      refine J_sipush (o _ _) dL_told_47 (by decide) ?_
      refine J_irem (o _ _) dL_told_50 rl128 (by decide) ?_
      refine J_istore (o _ _) dL_told_51 (Nat.le_of_ble_eq_true rfl) ?_
      have hf := bl_out hf
      refine J_iload (o _ _) dL_told_53 rfl ?_
      refine J_sipush (o _ _) dL_told_55 (by decide) ?_
      refine J_irem (o _ _) dL_told_58 rl128 (by decide) ?_
      refine J_istore (o _ _) dL_told_59 (Nat.le_of_ble_eq_true rfl) ?_
      have hf := bl_out hf
      refine J_aload_n (o _ _) dL_told_61 rfl ?_
      refine J_iload_n (o _ _) dL_told_62 rfl ?_
      refine J_iload (o _ _) dL_told_63 rfl ?_
      refine J_iload (o _ _) dL_told_65 rfl ?_
      refine J_iload (o _ _) dL_told_67 rfl ?_
      obtain ⟨v16, e17, hf⟩ := bnd_some hf
      refine J_qW (np := 5) k.1 k.2.1 k.2.2.1 (by omega) dL_told_69 mw1100 mw1102 mw1101 mw111 ⟨by decide +kernel, by decide +kernel, by decide +kernel⟩ ⟨rfl, rfl, Nat.le_of_ble_eq_true rfl, Nat.le_of_ble_eq_true rfl⟩ (c_L_cheapest k.2.2.2 k.2.1.2.1 r_x2 (R_idiv _ _) (R_irem _ _) (R_irem _ _) e17) rfl rfl c1s_0 (fun q18 => ?_)
      refine J_tt (u := (t + 3)) (by omega) ?_
      refine J_istore (o _ _) dL_told_72 (Nat.le_of_ble_eq_true rfl) ?_
      refine J_iload (o _ _) dL_told_74 rfl ?_
      refine J_iconst (o _ _) dL_told_76 ?_
      refine J_irem (o _ _) dL_told_77 rl5 (by decide) ?_
      refine J_iload_n (o _ _) dL_told_78 rfl ?_
      refine J_iconst (o _ _) dL_told_79 ?_
      refine J_irem (o _ _) dL_told_80 rl5 (by decide) ?_
      refine J_icmp_ne 98 (o _ _) dL_told_81 (by decide) (R_irem _ _) (R_irem _ _) (fun c19 => ?_) (fun c20 => ?_)
      · have hf := ite_f c19 hf
        refine J_iconst (o _ _) dL_told_98 ?_
        exact t_L_told_99 k r_x2 r_x3 r_x4 r_x6 q12 (R_idiv _ _) (R_irem _ _) (R_irem _ _) q18 rl0 hf hc
      · have hf := ite_t c20 hf
        refine J_aload_n (o _ _) dL_told_84 rfl ?_
        refine J_iload_n (o _ _) dL_told_85 rfl ?_
        refine J_iload (o _ _) dL_told_86 rfl ?_
        refine J_iload (o _ _) dL_told_88 rfl ?_
        refine J_iload (o _ _) dL_told_90 rfl ?_
        obtain ⟨v21, e22, hf⟩ := bnd_some hf
        refine J_qW (np := 5) k.1 k.2.1 k.2.2.1 (by omega) dL_told_92 mw1139 mw1141 mw1140 mw111 ⟨by decide +kernel, by decide +kernel, by decide +kernel⟩ ⟨rfl, rfl, Nat.le_of_ble_eq_true rfl, Nat.le_of_ble_eq_true rfl⟩ (c_L_needed k.2.2.2 k.2.1.2.1 r_x2 (R_idiv _ _) (R_irem _ _) (R_irem _ _) e22) rfl rfl c1s_0 (fun q23 => ?_)
        refine J_tt (u := (t + 4)) (by omega) ?_
        refine J_goto 99 (o _ _) dL_told_95 (by decide) ?_
        exact t_L_told_99 k r_x2 r_x3 r_x4 r_x6 q12 (R_idiv _ _) (R_irem _ _) (R_irem _ _) q18 q23 hf hc
noncomputable def f_L_told_9 (z : ZQ) (m0 : Bool) (t : Nat) (x2 : Int) (x3 : Int) (x4 : Int) (x5 : Int) (x6 : Int) : Option (ZQ × Int) :=
  lp (fun y : (ZQ × Nat × Int × Int × Int) => f_L_told_9B y.1 m0 y.2.1 x2 x3 y.2.2.1 y.2.2.2.1 y.2.2.2.2) (z, t, x4, x5, x6)
theorem t_L_told_9 {X : QX} {K : KT} {H0 : Heap} (k : KofQ X K H0 cL_told "DatalogmillLaw" rm_L_told 400) {z : ZQ} {m0 : Bool} {t : Nat} {x2 : Int} {x3 : Int} {x4 : Int} {x5 : Int} {x6 : Int} (r_x2 : R32 x2) (r_x3 : R32 x3) {out : (ZQ × Int)} (hf : f_L_told_9 z m0 t x2 x3 x4 x5 x6 = some out) (hc : (fun out : (ZQ × Int) => RetQZ X K H0 cL_told 400 out.1 out.2) out) : HW_L_told_9 X K H0 m0 x2 x3 (z, t, x4, x5, x6) := by
  unfold f_L_told_9 at hf
  refine lp_ind (P := HW_L_told_9 X K H0 m0 x2 x3) hf ?_
  intro y o hs h1 h2
  intro r_x4 r_x5 r_x6
  intro o7 o8 o9 o10 o11 o12
  refine t_L_told_9B k r_x2 r_x3 r_x4 r_x5 r_x6 hs ?_
  cases o with
  | inl z' => exact h1 z' rfl
  | inr r' => rw [h2 r' rfl]; exact hc
noncomputable def f_L_told (z : ZQ) (m0 : Bool) (x2 : Int) (x3 : Int) : Option (ZQ × Int) :=
  f_L_told_9 z m0 0 x2 x3 (-1) 1 0
set_option maxRecDepth 100000 in
theorem t_L_told_0 {X : QX} {K : KT} {H0 : Heap} (k : KofQ X K H0 cL_told "DatalogmillLaw" rm_L_told 400) {z : ZQ} {m0 : Bool} {x2 : Int} {x3 : Int} {o4 o5 o6 o7 o8 o9 o10 o11 o12 : Option Value} (r_x2 : R32 x2) (r_x3 : R32 x3) {out : (ZQ × Int)} (hf : f_L_told z m0 x2 x3 = some out) (hc : (fun out : (ZQ × Int) => RetQZ X K H0 cL_told 400 out.1 out.2) out) : Jj (kAdd K 0 (6 * 0)) (WdQ X H0) z 0 [some (rf (X.M m0).ad 1), some (.ref X.oa), some (.int (ii x2)), some (.int (ii x3)), o4, o5, o6, o7, o8, o9, o10, o11, o12] [] := by
  unfold f_L_told at hf
  have o : ∀ a b, Ok (kAdd K a b) cL_told "DatalogmillLaw" rm_L_told := fun _ _ => OkQ.add k.1
  have g : ∀ a b, GdQ X (kAdd K a b) H0 := fun _ _ => GdQ.add k.2.1
  refine J_iconst (o _ _) dL_told_0 ?_
  refine J_istore (o _ _) dL_told_1 (Nat.le_of_ble_eq_true rfl) ?_
  refine J_iconst (o _ _) dL_told_3 ?_
  refine J_istore (o _ _) dL_told_4 (Nat.le_of_ble_eq_true rfl) ?_
  refine J_iconst (o _ _) dL_told_6 ?_
  refine J_istore (o _ _) dL_told_7 (Nat.le_of_ble_eq_true rfl) ?_
  exact (t_L_told_9 k r_x2 r_x3 hf hc) rlm1 rl1 rl0 _ _ _ _ _ _
theorem c_L_told {X : QX} {l : Launch} (hst : l.stackTraces = false) (hA : ApQ X) {z : ZQ} {m0 : Bool} {x2 : Int} {x3 : Int} (r_x2 : R32 x2) (r_x3 : R32 x3) {out : (ZQ × Int)} (hf : f_L_told z m0 x2 x3 = some out) : ConQ X l yL_told (WS yL_told cL_told 13 (some .boolean)) rm_L_told [rf (X.M m0).ad 1, .ref X.oa, .int (ii x2), .int (ii x3)] z out.1 out.2 :=
  con_QZ (by decide +kernel) rfl (Nat.le_of_ble_eq_true rfl) (c1s_r (c1s_a (c1s_i (c1s_i c1s_0 (Nat.le_of_ble_eq_true rfl)) (Nat.le_of_ble_eq_true rfl)) (Nat.le_of_ble_eq_true rfl)) (Nat.le_of_ble_eq_true rfl)).1 ⟨rfl, rfl⟩ hA hst (fun K H0 k hret => t_L_told_0 k r_x2 r_x3 hf hret)
abbrev rm_L_holdsAll : Room := { frames := 10, cells := 3000, slots := 18000, locals := 267 }
def HW_L_holdsAll_8 (X : QX) (K : KT) (H0 : Heap) (m0 : Bool) (x2 : Int) : (ZQ × Nat × Int × Int × Int) → Prop := fun y => R32 y.2.2.1 → R32 y.2.2.2.1 → R32 y.2.2.2.2 → ∀ o6 o7 o8 o9 o10 o11 o12 : Option Value, Jj (kAdd K y.2.1 (6 * y.2.1)) (WdQ X H0) y.1 8 [some (rf (X.M m0).ad 1), some (.ref X.oa), some (.int (ii x2)), some (.int (ii y.2.2.1)), some (.int (ii y.2.2.2.1)), some (.int (ii y.2.2.2.2)), o6, o7, o8, o9, o10, o11, o12] []
def HW_L_holdsAll_76 (X : QX) (K : KT) (H0 : Heap) (m0 : Bool) (x2 : Int) (x3 : Int) : (ZQ × Nat × Int × Int) → Prop := fun y => R32 y.2.2.1 → R32 y.2.2.2 → ∀ o6 o7 o8 o9 o10 o11 o12 : Option Value, Jj (kAdd K y.2.1 (6 * y.2.1)) (WdQ X H0) y.1 76 [some (rf (X.M m0).ad 1), some (.ref X.oa), some (.int (ii x2)), some (.int (ii x3)), some (.int (ii y.2.2.1)), some (.int (ii y.2.2.2)), o6, o7, o8, o9, o10, o11, o12] []
noncomputable def f_L_holdsAll_461 (z : ZQ) (m0 : Bool) (t : Nat) : Option (ZQ × Int) :=
  gd (t + 0 ≤ 3000) (some (z, 1))
set_option maxRecDepth 100000 in
theorem t_L_holdsAll_461 {X : QX} {K : KT} {H0 : Heap} (k : KofQ X K H0 cL_holdsAll "DatalogmillLaw" rm_L_holdsAll 3000) {z : ZQ} {m0 : Bool} {t : Nat} {o0 o1 o2 o3 o4 o5 o6 o7 o8 o9 o10 o11 o12 : Option Value}  {out : (ZQ × Int)} (hf : f_L_holdsAll_461 z m0 t = some out) (hc : (fun out : (ZQ × Int) => RetQZ X K H0 cL_holdsAll 3000 out.1 out.2) out) : Jj (kAdd K t (6 * t)) (WdQ X H0) z 461 [o0, o1, o2, o3, o4, o5, o6, o7, o8, o9, o10, o11, o12] [] := by
  unfold f_L_holdsAll_461 at hf
  have o : ∀ a b, Ok (kAdd K a b) cL_holdsAll "DatalogmillLaw" rm_L_holdsAll := fun _ _ => OkQ.add k.1
  have g : ∀ a b, GdQ X (kAdd K a b) H0 := fun _ _ => GdQ.add k.2.1
  obtain ⟨ht, hf⟩ := gd_some hf
  refine J_iconst (o _ _) dL_holdsAll_461 ?_
  refine J_goto 466 (o _ _) dL_holdsAll_462 (by decide) ?_
  have hf := some_inj hf
  subst hf
  exact hc _ _ _ (by omega) (Or.inr rfl) dL_holdsAll_466
noncomputable def f_L_holdsAll_415 (z : ZQ) (m0 : Bool) (t : Nat) (x3 : Int) (x4 : Int) (x5 : Int) (x6 : Int) (s0 : Int) : Option (ZQ × Int) :=
  gd (t + 0 ≤ 3000) (if x4 = 0 then (some (z, 0)) else (if 48 < x3 then (some (z, 0)) else (if x5 ≤ 0 then (some (z, 0)) else (if 400 < x5 then (some (z, 0)) else (if s0 = 0 then (some (z, 0)) else (if x6 < 1 then (f_L_holdsAll_461 z m0 t) else (if (ishr x6 (z.2.2 0)) = 0 then (f_L_holdsAll_461 z m0 t) else (some (z, 0)))))))))
set_option maxRecDepth 100000 in
theorem t_L_holdsAll_415 {X : QX} {K : KT} {H0 : Heap} (k : KofQ X K H0 cL_holdsAll "DatalogmillLaw" rm_L_holdsAll 3000) {z : ZQ} {m0 : Bool} {t : Nat} {x3 : Int} {x4 : Int} {x5 : Int} {x6 : Int} {s0 : Int} {o0 o2 o7 o8 o9 o10 o11 o12 : Option Value} (r_x3 : R32 x3) (r_x4 : R32 x4) (r_x5 : R32 x5) (r_x6 : R32 x6) (r_s0 : R32 s0) {out : (ZQ × Int)} (hf : f_L_holdsAll_415 z m0 t x3 x4 x5 x6 s0 = some out) (hc : (fun out : (ZQ × Int) => RetQZ X K H0 cL_holdsAll 3000 out.1 out.2) out) : Jj (kAdd K t (6 * t)) (WdQ X H0) z 415 [o0, some (.ref X.oa), o2, some (.int (ii x3)), some (.int (ii x4)), some (.int (ii x5)), some (.int (ii x6)), o7, o8, o9, o10, o11, o12] [.int (ii s0)] := by
  unfold f_L_holdsAll_415 at hf
  have o : ∀ a b, Ok (kAdd K a b) cL_holdsAll "DatalogmillLaw" rm_L_holdsAll := fun _ _ => OkQ.add k.1
  have g : ∀ a b, GdQ X (kAdd K a b) H0 := fun _ _ => GdQ.add k.2.1
  obtain ⟨ht, hf⟩ := gd_some hf
  refine J_istore (o _ _) dL_holdsAll_415 (Nat.le_of_ble_eq_true rfl) ?_
  refine J_iload (o _ _) dL_holdsAll_417 rfl ?_
  refine J_if_eq 465 (o _ _) dL_holdsAll_419 (by decide) r_x4 (fun c1 => ?_) (fun c2 => ?_)
  · have hf := ite_t c1 hf
    refine J_iconst (o _ _) dL_holdsAll_465 ?_
    have hf := some_inj hf
    subst hf
    exact hc _ _ _ (by omega) (Or.inl rfl) dL_holdsAll_466
  · have hf := ite_f c2 hf
    refine J_iload_n (o _ _) dL_holdsAll_422 rfl ?_
    refine J_bipush (o _ _) dL_holdsAll_423 (by decide) ?_
    refine J_icmp_gt 465 (o _ _) dL_holdsAll_425 (by decide) r_x3 rl48 (fun c3 => ?_) (fun c4 => ?_)
    · have hf := ite_t c3 hf
      refine J_iconst (o _ _) dL_holdsAll_465 ?_
      have hf := some_inj hf
      subst hf
      exact hc _ _ _ (by omega) (Or.inl rfl) dL_holdsAll_466
    · have hf := ite_f c4 hf
      refine J_iload (o _ _) dL_holdsAll_428 rfl ?_
      refine J_if_le 465 (o _ _) dL_holdsAll_430 (by decide) r_x5 (fun c5 => ?_) (fun c6 => ?_)
      · have hf := ite_t c5 hf
        refine J_iconst (o _ _) dL_holdsAll_465 ?_
        have hf := some_inj hf
        subst hf
        exact hc _ _ _ (by omega) (Or.inl rfl) dL_holdsAll_466
      · have hf := ite_f c6 hf
        refine J_iload (o _ _) dL_holdsAll_433 rfl ?_
        refine J_sipush (o _ _) dL_holdsAll_435 (by decide) ?_
        refine J_icmp_gt 465 (o _ _) dL_holdsAll_438 (by decide) r_x5 rl400 (fun c7 => ?_) (fun c8 => ?_)
        · have hf := ite_t c7 hf
          refine J_iconst (o _ _) dL_holdsAll_465 ?_
          have hf := some_inj hf
          subst hf
          exact hc _ _ _ (by omega) (Or.inl rfl) dL_holdsAll_466
        · have hf := ite_f c8 hf
          refine J_iload (o _ _) dL_holdsAll_441 rfl ?_
          refine J_if_eq 465 (o _ _) dL_holdsAll_443 (by decide) r_s0 (fun c9 => ?_) (fun c10 => ?_)
          · have hf := ite_t c9 hf
            refine J_iconst (o _ _) dL_holdsAll_465 ?_
            have hf := some_inj hf
            subst hf
            exact hc _ _ _ (by omega) (Or.inl rfl) dL_holdsAll_466
          · have hf := ite_f c10 hf
            refine J_iload (o _ _) dL_holdsAll_446 rfl ?_
            refine J_iconst (o _ _) dL_holdsAll_448 ?_
            refine J_icmp_lt 461 (o _ _) dL_holdsAll_449 (by decide) r_x6 rl1 (fun c11 => ?_) (fun c12 => ?_)
            · have hf := ite_t c11 hf
              exact t_L_holdsAll_461 k  hf hc
            · have hf := ite_f c12 hf
              refine J_iload (o _ _) dL_holdsAll_452 rfl ?_
              refine J_aldO_n (o _ _) dL_holdsAll_454 rfl ?_
              refine J_iconst (o _ _) dL_holdsAll_455 ?_
              refine J_nld (o _ _) (g _ _) dL_holdsAll_456 rl0 ⟨by decide, by decide⟩ (fun q13 => ?_)
              refine J_ishr (o _ _) dL_holdsAll_457 ?_
              refine J_if_ne 465 (o _ _) dL_holdsAll_458 (by decide) (R_ishr _ _) (fun c14 => ?_) (fun c15 => ?_)
              · have hf := ite_f c14 hf
                refine J_iconst (o _ _) dL_holdsAll_465 ?_
                have hf := some_inj hf
                subst hf
                exact hc _ _ _ (by omega) (Or.inl rfl) dL_holdsAll_466
              · have hf := ite_t c15 hf
                exact t_L_holdsAll_461 k  hf hc
noncomputable def f_L_holdsAll_374 (z : ZQ) (m0 : Bool) (t : Nat) (x3 : Int) (x4 : Int) (s1 : Int) (s2 : Int) (s3 : Int) (s4 : Int) : Option (ZQ × Int) :=
  gd (t + 1 ≤ 3000) (bnd (f_L_goals z m0 s1 s2 s3 s4) fun v1 => bnd (f_Dm_repair (zg v1.1 m0)) fun v4 => bl (zs v1.1 m0 v4.1) fun z7 => bnd (f_Dm_broken (zg z7 m0)) fun v8 => bl (zs z7 m0 v8.1) fun z11 => if v8.2 = 0 then (if v4.2 = 0 then (f_L_holdsAll_415 z11 m0 (t + 1) x3 x4 v1.2 v4.2 1) else (f_L_holdsAll_415 z11 m0 (t + 1) x3 x4 v1.2 v4.2 0)) else (if v4.2 = 0 then (f_L_holdsAll_415 z11 m0 (t + 1) x3 x4 v1.2 v4.2 0) else (f_L_holdsAll_415 z11 m0 (t + 1) x3 x4 v1.2 v4.2 1)))
set_option maxRecDepth 100000 in
theorem t_L_holdsAll_374 {X : QX} {K : KT} {H0 : Heap} (k : KofQ X K H0 cL_holdsAll "DatalogmillLaw" rm_L_holdsAll 3000) {z : ZQ} {m0 : Bool} {t : Nat} {x3 : Int} {x4 : Int} {s1 : Int} {s2 : Int} {s3 : Int} {s4 : Int} {o2 o5 o6 o7 o8 o9 o10 o11 o12 : Option Value} (r_x3 : R32 x3) (r_x4 : R32 x4) (r_s1 : R32 s1) (r_s2 : R32 s2) (r_s3 : R32 s3) (r_s4 : R32 s4) {out : (ZQ × Int)} (hf : f_L_holdsAll_374 z m0 t x3 x4 s1 s2 s3 s4 = some out) (hc : (fun out : (ZQ × Int) => RetQZ X K H0 cL_holdsAll 3000 out.1 out.2) out) : Jj (kAdd K t (6 * t)) (WdQ X H0) z 374 [some (rf (X.M m0).ad 1), some (.ref X.oa), o2, some (.int (ii x3)), some (.int (ii x4)), o5, o6, o7, o8, o9, o10, o11, o12] [.int (ii s4), .int (ii s3), .int (ii s2), .int (ii s1), rf (X.M m0).ad 1] := by
  unfold f_L_holdsAll_374 at hf
  have o : ∀ a b, Ok (kAdd K a b) cL_holdsAll "DatalogmillLaw" rm_L_holdsAll := fun _ _ => OkQ.add k.1
  have g : ∀ a b, GdQ X (kAdd K a b) H0 := fun _ _ => GdQ.add k.2.1
  obtain ⟨ht, hf⟩ := gd_some hf
  obtain ⟨v1, e2, hf⟩ := bnd_some hf
  refine J_qW (np := 5) k.1 k.2.1 k.2.2.1 (by omega) dL_holdsAll_374 mw1159 mw1161 mw1160 mw111 ⟨by decide +kernel, by decide +kernel, by decide +kernel⟩ ⟨rfl, rfl, Nat.le_of_ble_eq_true rfl, Nat.le_of_ble_eq_true rfl⟩ (c_L_goals k.2.2.2 k.2.1.2.1 r_s1 r_s2 r_s3 r_s4 e2) rfl rfl c1s_0 (fun q3 => ?_)
  refine J_tt (u := (t + 1)) (by omega) ?_
  refine J_istore (o _ _) dL_holdsAll_377 (Nat.le_of_ble_eq_true rfl) ?_
  refine J_aload_n (o _ _) dL_holdsAll_379 rfl ?_
  obtain ⟨v4, e5, hf⟩ := bnd_some hf
  refine J_qaI (m := m0) (vs := []) k.1 k.2.1 k.2.2.1 (by omega) dL_holdsAll_380 lkL_191 ml_Dm_repair vl_Dm_repair ⟨rfl, rfl, Nat.le_of_ble_eq_true rfl, Nat.le_of_ble_eq_true rfl⟩ (c_Dm_repair k.2.1.2.1.inj e5) kA_1 rfl ⟨by decide, by decide⟩ rfl rfl c1s_0 (fun q6 => ?_)
  have hf := bl_out hf
  refine J_istore (o _ _) dL_holdsAll_383 (Nat.le_of_ble_eq_true rfl) ?_
  refine J_aload_n (o _ _) dL_holdsAll_385 rfl ?_
  obtain ⟨v8, e9, hf⟩ := bnd_some hf
  refine J_qaI (m := m0) (vs := []) k.1 k.2.1 k.2.2.1 (by omega) dL_holdsAll_386 lkL_183 ml_Dm_broken vl_Dm_broken ⟨rfl, rfl, Nat.le_of_ble_eq_true rfl, Nat.le_of_ble_eq_true rfl⟩ (c_Dm_broken k.2.1.2.1.inj e9) kA_1 rfl ⟨by decide, by decide⟩ rfl rfl c1s_0 (fun q10 => ?_)
  have hf := bl_out hf
  refine J_if_ne 405 (o _ _) dL_holdsAll_389 (by decide) q10 (fun c12 => ?_) (fun c13 => ?_)
  · have hf := ite_f c12 hf
    refine J_iload (o _ _) dL_holdsAll_405 rfl ?_
    refine J_if_eq 414 (o _ _) dL_holdsAll_407 (by decide) q6 (fun c14 => ?_) (fun c15 => ?_)
    · have hf := ite_t c14 hf
      refine J_iconst (o _ _) dL_holdsAll_414 ?_
      exact t_L_holdsAll_415 k r_x3 r_x4 q3 q6 rl0 hf hc
    · have hf := ite_f c15 hf
      refine J_iconst (o _ _) dL_holdsAll_410 ?_
      refine J_goto 415 (o _ _) dL_holdsAll_411 (by decide) ?_
      exact t_L_holdsAll_415 k r_x3 r_x4 q3 q6 rl1 hf hc
  · have hf := ite_t c13 hf
    refine J_iload (o _ _) dL_holdsAll_392 rfl ?_
    refine J_if_ne 401 (o _ _) dL_holdsAll_394 (by decide) q6 (fun c16 => ?_) (fun c17 => ?_)
    · have hf := ite_f c16 hf
      refine J_iconst (o _ _) dL_holdsAll_401 ?_
      refine J_goto 415 (o _ _) dL_holdsAll_402 (by decide) ?_
      exact t_L_holdsAll_415 k r_x3 r_x4 q3 q6 rl0 hf hc
    · have hf := ite_t c17 hf
      refine J_iconst (o _ _) dL_holdsAll_397 ?_
      refine J_goto 415 (o _ _) dL_holdsAll_398 (by decide) ?_
      exact t_L_holdsAll_415 k r_x3 r_x4 q3 q6 rl1 hf hc
noncomputable def f_L_holdsAll_360 (z : ZQ) (m0 : Bool) (t : Nat) (x2 : Int) (x3 : Int) (x4 : Int) (s1 : Int) (s2 : Int) (s3 : Int) : Option (ZQ × Int) :=
  gd (t + 0 ≤ 3000) (if (irem x2 6) = 5 then (f_L_holdsAll_374 z m0 t x3 x4 s1 s2 s3 (-9)) else (f_L_holdsAll_374 z m0 t x3 x4 s1 s2 s3 0))
set_option maxRecDepth 100000 in
theorem t_L_holdsAll_360 {X : QX} {K : KT} {H0 : Heap} (k : KofQ X K H0 cL_holdsAll "DatalogmillLaw" rm_L_holdsAll 3000) {z : ZQ} {m0 : Bool} {t : Nat} {x2 : Int} {x3 : Int} {x4 : Int} {s1 : Int} {s2 : Int} {s3 : Int} {o5 o6 o7 o8 o9 o10 o11 o12 : Option Value} (r_x2 : R32 x2) (r_x3 : R32 x3) (r_x4 : R32 x4) (r_s1 : R32 s1) (r_s2 : R32 s2) (r_s3 : R32 s3) {out : (ZQ × Int)} (hf : f_L_holdsAll_360 z m0 t x2 x3 x4 s1 s2 s3 = some out) (hc : (fun out : (ZQ × Int) => RetQZ X K H0 cL_holdsAll 3000 out.1 out.2) out) : Jj (kAdd K t (6 * t)) (WdQ X H0) z 360 [some (rf (X.M m0).ad 1), some (.ref X.oa), some (.int (ii x2)), some (.int (ii x3)), some (.int (ii x4)), o5, o6, o7, o8, o9, o10, o11, o12] [.int (ii s3), .int (ii s2), .int (ii s1), rf (X.M m0).ad 1] := by
  unfold f_L_holdsAll_360 at hf
  have o : ∀ a b, Ok (kAdd K a b) cL_holdsAll "DatalogmillLaw" rm_L_holdsAll := fun _ _ => OkQ.add k.1
  have g : ∀ a b, GdQ X (kAdd K a b) H0 := fun _ _ => GdQ.add k.2.1
  obtain ⟨ht, hf⟩ := gd_some hf
  refine J_iload_n (o _ _) dL_holdsAll_360 rfl ?_
  refine J_bipush (o _ _) dL_holdsAll_361 (by decide) ?_
  refine J_irem (o _ _) dL_holdsAll_363 rl6 (by decide) ?_
  refine J_iconst (o _ _) dL_holdsAll_364 ?_
  refine J_icmp_ne 373 (o _ _) dL_holdsAll_365 (by decide) (R_irem _ _) rl5 (fun c1 => ?_) (fun c2 => ?_)
  · have hf := ite_f c1 hf
    refine J_iconst (o _ _) dL_holdsAll_373 ?_
    exact t_L_holdsAll_374 k r_x3 r_x4 r_s1 r_s2 r_s3 rl0 hf hc
  · have hf := ite_t c2 hf
    refine J_bipush (o _ _) dL_holdsAll_368 (by decide) ?_
    refine J_goto 374 (o _ _) dL_holdsAll_370 (by decide) ?_
    exact t_L_holdsAll_374 k r_x3 r_x4 r_s1 r_s2 r_s3 rlm9 hf hc
noncomputable def f_L_holdsAll_335 (z : ZQ) (m0 : Bool) (t : Nat) (x2 : Int) (x3 : Int) (x4 : Int) : Option (ZQ × Int) :=
  gd (t + 0 ≤ 3000) (if (irem x2 6) = 2 then (f_L_holdsAll_360 z m0 t x2 x3 x4 (irem x2 6) (irem (idiv x2 6) 4) 0) else (f_L_holdsAll_360 z m0 t x2 x3 x4 (irem x2 6) (irem (idiv x2 6) 4) (-9)))
set_option maxRecDepth 100000 in
theorem t_L_holdsAll_335 {X : QX} {K : KT} {H0 : Heap} (k : KofQ X K H0 cL_holdsAll "DatalogmillLaw" rm_L_holdsAll 3000) {z : ZQ} {m0 : Bool} {t : Nat} {x2 : Int} {x3 : Int} {x4 : Int} {o5 o6 o7 o8 o9 o10 o11 o12 : Option Value} (r_x2 : R32 x2) (r_x3 : R32 x3) (r_x4 : R32 x4) {out : (ZQ × Int)} (hf : f_L_holdsAll_335 z m0 t x2 x3 x4 = some out) (hc : (fun out : (ZQ × Int) => RetQZ X K H0 cL_holdsAll 3000 out.1 out.2) out) : Jj (kAdd K t (6 * t)) (WdQ X H0) z 335 [some (rf (X.M m0).ad 1), some (.ref X.oa), some (.int (ii x2)), some (.int (ii x3)), some (.int (ii x4)), o5, o6, o7, o8, o9, o10, o11, o12] [] := by
  unfold f_L_holdsAll_335 at hf
  have o : ∀ a b, Ok (kAdd K a b) cL_holdsAll "DatalogmillLaw" rm_L_holdsAll := fun _ _ => OkQ.add k.1
  have g : ∀ a b, GdQ X (kAdd K a b) H0 := fun _ _ => GdQ.add k.2.1
  obtain ⟨ht, hf⟩ := gd_some hf
  refine J_aload_n (o _ _) dL_holdsAll_335 rfl ?_
  refine J_iload_n (o _ _) dL_holdsAll_336 rfl ?_
  refine J_bipush (o _ _) dL_holdsAll_337 (by decide) ?_
  refine J_irem (o _ _) dL_holdsAll_339 rl6 (by decide) ?_
  refine J_iload_n (o _ _) dL_holdsAll_340 rfl ?_
  refine J_bipush (o _ _) dL_holdsAll_341 (by decide) ?_
  refine J_idiv (o _ _) dL_holdsAll_343 rl6 (by decide) ?_
  refine J_iconst (o _ _) dL_holdsAll_344 ?_
  refine J_irem (o _ _) dL_holdsAll_345 rl4 (by decide) ?_
  refine J_iload_n (o _ _) dL_holdsAll_346 rfl ?_
  refine J_bipush (o _ _) dL_holdsAll_347 (by decide) ?_
  refine J_irem (o _ _) dL_holdsAll_349 rl6 (by decide) ?_
  refine J_iconst (o _ _) dL_holdsAll_350 ?_
  refine J_icmp_ne 358 (o _ _) dL_holdsAll_351 (by decide) (R_irem _ _) rl2 (fun c1 => ?_) (fun c2 => ?_)
  · have hf := ite_f c1 hf
    refine J_bipush (o _ _) dL_holdsAll_358 (by decide) ?_
    exact t_L_holdsAll_360 k r_x2 r_x3 r_x4 (R_irem _ _) (R_irem _ _) rlm9 hf hc
  · have hf := ite_t c2 hf
    refine J_iconst (o _ _) dL_holdsAll_354 ?_
    refine J_goto 360 (o _ _) dL_holdsAll_355 (by decide) ?_
    exact t_L_holdsAll_360 k r_x2 r_x3 r_x4 (R_irem _ _) (R_irem _ _) rl0 hf hc
noncomputable def f_L_holdsAll_327 (z : ZQ) (m0 : Bool) (t : Nat) (x2 : Int) (x3 : Int) (x5 : Int) (s0 : Int) : Option ((ZQ × Nat × Int × Int) ⊕ (ZQ × Int)) :=
  gd (t + 0 ≤ 3000) (bl (wr (x5 + 1)) fun n1 => some (Sum.inl (z, t, s0, n1)))
set_option maxRecDepth 100000 in
theorem t_L_holdsAll_327 {X : QX} {K : KT} {H0 : Heap} (k : KofQ X K H0 cL_holdsAll "DatalogmillLaw" rm_L_holdsAll 3000) {z : ZQ} {m0 : Bool} {t : Nat} {x2 : Int} {x3 : Int} {x5 : Int} {s0 : Int} {o4 o6 o7 o8 o9 o10 o11 o12 : Option Value} (r_x2 : R32 x2) (r_x3 : R32 x3) (r_x5 : R32 x5) (r_s0 : R32 s0) {out : ((ZQ × Nat × Int × Int) ⊕ (ZQ × Int))} (hf : f_L_holdsAll_327 z m0 t x2 x3 x5 s0 = some out) (hc : (Sum.elim (HW_L_holdsAll_76 X K H0 m0 x2 x3) (fun out : (ZQ × Int) => RetQZ X K H0 cL_holdsAll 3000 out.1 out.2)) out) : Jj (kAdd K t (6 * t)) (WdQ X H0) z 327 [some (rf (X.M m0).ad 1), some (.ref X.oa), some (.int (ii x2)), some (.int (ii x3)), o4, some (.int (ii x5)), o6, o7, o8, o9, o10, o11, o12] [.int (ii s0)] := by
  unfold f_L_holdsAll_327 at hf
  have o : ∀ a b, Ok (kAdd K a b) cL_holdsAll "DatalogmillLaw" rm_L_holdsAll := fun _ _ => OkQ.add k.1
  have g : ∀ a b, GdQ X (kAdd K a b) H0 := fun _ _ => GdQ.add k.2.1
  obtain ⟨ht, hf⟩ := gd_some hf
  refine J_istore (o _ _) dL_holdsAll_327 (Nat.le_of_ble_eq_true rfl) ?_
  have hf := bl_out hf
  refine J_iinc (o _ _) dL_holdsAll_329 rfl ?_
  refine J_goto 76 (o _ _) dL_holdsAll_332 (by decide) ?_
  have hf := some_inj hf
  subst hf
  exact hc r_s0 (R_wr _) _ _ _ _ _ _ _
noncomputable def f_L_holdsAll_326 (z : ZQ) (m0 : Bool) (t : Nat) (x2 : Int) (x3 : Int) (x5 : Int) : Option ((ZQ × Nat × Int × Int) ⊕ (ZQ × Int)) :=
  gd (t + 0 ≤ 3000) (f_L_holdsAll_327 z m0 t x2 x3 x5 0)
set_option maxRecDepth 100000 in
theorem t_L_holdsAll_326 {X : QX} {K : KT} {H0 : Heap} (k : KofQ X K H0 cL_holdsAll "DatalogmillLaw" rm_L_holdsAll 3000) {z : ZQ} {m0 : Bool} {t : Nat} {x2 : Int} {x3 : Int} {x5 : Int} {o4 o6 o7 o8 o9 o10 o11 o12 : Option Value} (r_x2 : R32 x2) (r_x3 : R32 x3) (r_x5 : R32 x5) {out : ((ZQ × Nat × Int × Int) ⊕ (ZQ × Int))} (hf : f_L_holdsAll_326 z m0 t x2 x3 x5 = some out) (hc : (Sum.elim (HW_L_holdsAll_76 X K H0 m0 x2 x3) (fun out : (ZQ × Int) => RetQZ X K H0 cL_holdsAll 3000 out.1 out.2)) out) : Jj (kAdd K t (6 * t)) (WdQ X H0) z 326 [some (rf (X.M m0).ad 1), some (.ref X.oa), some (.int (ii x2)), some (.int (ii x3)), o4, some (.int (ii x5)), o6, o7, o8, o9, o10, o11, o12] [] := by
  unfold f_L_holdsAll_326 at hf
  have o : ∀ a b, Ok (kAdd K a b) cL_holdsAll "DatalogmillLaw" rm_L_holdsAll := fun _ _ => OkQ.add k.1
  have g : ∀ a b, GdQ X (kAdd K a b) H0 := fun _ _ => GdQ.add k.2.1
  obtain ⟨ht, hf⟩ := gd_some hf
  refine J_iconst (o _ _) dL_holdsAll_326 ?_
  exact t_L_holdsAll_327 k r_x2 r_x3 r_x5 rl0 hf hc
noncomputable def f_L_holdsAll_322 (z : ZQ) (m0 : Bool) (t : Nat) (x2 : Int) (x3 : Int) (x5 : Int) : Option ((ZQ × Nat × Int × Int) ⊕ (ZQ × Int)) :=
  gd (t + 0 ≤ 3000) (f_L_holdsAll_327 z m0 t x2 x3 x5 1)
set_option maxRecDepth 100000 in
theorem t_L_holdsAll_322 {X : QX} {K : KT} {H0 : Heap} (k : KofQ X K H0 cL_holdsAll "DatalogmillLaw" rm_L_holdsAll 3000) {z : ZQ} {m0 : Bool} {t : Nat} {x2 : Int} {x3 : Int} {x5 : Int} {o4 o6 o7 o8 o9 o10 o11 o12 : Option Value} (r_x2 : R32 x2) (r_x3 : R32 x3) (r_x5 : R32 x5) {out : ((ZQ × Nat × Int × Int) ⊕ (ZQ × Int))} (hf : f_L_holdsAll_322 z m0 t x2 x3 x5 = some out) (hc : (Sum.elim (HW_L_holdsAll_76 X K H0 m0 x2 x3) (fun out : (ZQ × Int) => RetQZ X K H0 cL_holdsAll 3000 out.1 out.2)) out) : Jj (kAdd K t (6 * t)) (WdQ X H0) z 322 [some (rf (X.M m0).ad 1), some (.ref X.oa), some (.int (ii x2)), some (.int (ii x3)), o4, some (.int (ii x5)), o6, o7, o8, o9, o10, o11, o12] [] := by
  unfold f_L_holdsAll_322 at hf
  have o : ∀ a b, Ok (kAdd K a b) cL_holdsAll "DatalogmillLaw" rm_L_holdsAll := fun _ _ => OkQ.add k.1
  have g : ∀ a b, GdQ X (kAdd K a b) H0 := fun _ _ => GdQ.add k.2.1
  obtain ⟨ht, hf⟩ := gd_some hf
  refine J_iconst (o _ _) dL_holdsAll_322 ?_
  refine J_goto 327 (o _ _) dL_holdsAll_323 (by decide) ?_
  exact t_L_holdsAll_327 k r_x2 r_x3 r_x5 rl1 hf hc
noncomputable def f_L_holdsAll_271 (z : ZQ) (m0 : Bool) (t : Nat) (x2 : Int) (x3 : Int) (x5 : Int) (x6 : Int) (x7 : Int) (x8 : Int) (x9 : Int) (x10 : Int) : Option ((ZQ × Nat × Int × Int) ⊕ (ZQ × Int)) :=
  gd (t + 3 ≤ 3000) (if x10 = 0 then (bnd (f_L_ways z m0 x6 x7 x8 x9) fun v3 => if v3.2 = 0 then (bnd (f_L_cheapest v3.1 m0 x6 x7 x8 x9) fun v8 => if v8.2 = (-1) then (bnd (f_L_needed v8.1 m0 x6 x7 x8 x9) fun v13 => if v13.2 = 0 then (f_L_holdsAll_322 v13.1 m0 (t + 3) x2 x3 x5) else (f_L_holdsAll_326 v13.1 m0 (t + 3) x2 x3 x5)) else (f_L_holdsAll_326 v8.1 m0 (t + 2) x2 x3 x5)) else (f_L_holdsAll_326 v3.1 m0 (t + 1) x2 x3 x5)) else (f_L_holdsAll_322 z m0 t x2 x3 x5))
set_option maxRecDepth 100000 in
theorem t_L_holdsAll_271 {X : QX} {K : KT} {H0 : Heap} (k : KofQ X K H0 cL_holdsAll "DatalogmillLaw" rm_L_holdsAll 3000) {z : ZQ} {m0 : Bool} {t : Nat} {x2 : Int} {x3 : Int} {x5 : Int} {x6 : Int} {x7 : Int} {x8 : Int} {x9 : Int} {x10 : Int} {o4 o11 o12 : Option Value} (r_x2 : R32 x2) (r_x3 : R32 x3) (r_x5 : R32 x5) (r_x6 : R32 x6) (r_x7 : R32 x7) (r_x8 : R32 x8) (r_x9 : R32 x9) (r_x10 : R32 x10) {out : ((ZQ × Nat × Int × Int) ⊕ (ZQ × Int))} (hf : f_L_holdsAll_271 z m0 t x2 x3 x5 x6 x7 x8 x9 x10 = some out) (hc : (Sum.elim (HW_L_holdsAll_76 X K H0 m0 x2 x3) (fun out : (ZQ × Int) => RetQZ X K H0 cL_holdsAll 3000 out.1 out.2)) out) : Jj (kAdd K t (6 * t)) (WdQ X H0) z 271 [some (rf (X.M m0).ad 1), some (.ref X.oa), some (.int (ii x2)), some (.int (ii x3)), o4, some (.int (ii x5)), some (.int (ii x6)), some (.int (ii x7)), some (.int (ii x8)), some (.int (ii x9)), some (.int (ii x10)), o11, o12] [] := by
  unfold f_L_holdsAll_271 at hf
  have o : ∀ a b, Ok (kAdd K a b) cL_holdsAll "DatalogmillLaw" rm_L_holdsAll := fun _ _ => OkQ.add k.1
  have g : ∀ a b, GdQ X (kAdd K a b) H0 := fun _ _ => GdQ.add k.2.1
  obtain ⟨ht, hf⟩ := gd_some hf
  refine J_iload (o _ _) dL_holdsAll_271 rfl ?_
  refine J_if_ne 322 (o _ _) dL_holdsAll_273 (by decide) r_x10 (fun c1 => ?_) (fun c2 => ?_)
  · have hf := ite_f c1 hf
    exact t_L_holdsAll_322 k r_x2 r_x3 r_x5 hf hc
  · have hf := ite_t c2 hf
    refine J_aload_n (o _ _) dL_holdsAll_276 rfl ?_
    refine J_iload (o _ _) dL_holdsAll_277 rfl ?_
    refine J_iload (o _ _) dL_holdsAll_279 rfl ?_
    refine J_iload (o _ _) dL_holdsAll_281 rfl ?_
    refine J_iload (o _ _) dL_holdsAll_283 rfl ?_
    obtain ⟨v3, e4, hf⟩ := bnd_some hf
    refine J_qW (np := 5) k.1 k.2.1 k.2.2.1 (by omega) dL_holdsAll_285 mw1057 mw1059 mw1058 mw111 ⟨by decide +kernel, by decide +kernel, by decide +kernel⟩ ⟨rfl, rfl, Nat.le_of_ble_eq_true rfl, Nat.le_of_ble_eq_true rfl⟩ (c_L_ways k.2.2.2 k.2.1.2.1 r_x6 r_x7 r_x8 r_x9 e4) rfl rfl c1s_0 (fun q5 => ?_)
    refine J_tt (u := (t + 1)) (by omega) ?_
    refine J_if_ne 326 (o _ _) dL_holdsAll_288 (by decide) q5 (fun c6 => ?_) (fun c7 => ?_)
    · have hf := ite_f c6 hf
      exact t_L_holdsAll_326 k r_x2 r_x3 r_x5 hf hc
    · have hf := ite_t c7 hf
      refine J_aload_n (o _ _) dL_holdsAll_291 rfl ?_
      refine J_iload (o _ _) dL_holdsAll_292 rfl ?_
      refine J_iload (o _ _) dL_holdsAll_294 rfl ?_
      refine J_iload (o _ _) dL_holdsAll_296 rfl ?_
      refine J_iload (o _ _) dL_holdsAll_298 rfl ?_
      obtain ⟨v8, e9, hf⟩ := bnd_some hf
      refine J_qW (np := 5) k.1 k.2.1 k.2.2.1 (by omega) dL_holdsAll_300 mw1100 mw1102 mw1101 mw111 ⟨by decide +kernel, by decide +kernel, by decide +kernel⟩ ⟨rfl, rfl, Nat.le_of_ble_eq_true rfl, Nat.le_of_ble_eq_true rfl⟩ (c_L_cheapest k.2.2.2 k.2.1.2.1 r_x6 r_x7 r_x8 r_x9 e9) rfl rfl c1s_0 (fun q10 => ?_)
      refine J_tt (u := (t + 2)) (by omega) ?_
      refine J_iconst (o _ _) dL_holdsAll_303 ?_
      refine J_icmp_ne 326 (o _ _) dL_holdsAll_304 (by decide) q10 rlm1 (fun c11 => ?_) (fun c12 => ?_)
      · have hf := ite_f c11 hf
        exact t_L_holdsAll_326 k r_x2 r_x3 r_x5 hf hc
      · have hf := ite_t c12 hf
        refine J_aload_n (o _ _) dL_holdsAll_307 rfl ?_
        refine J_iload (o _ _) dL_holdsAll_308 rfl ?_
        refine J_iload (o _ _) dL_holdsAll_310 rfl ?_
        refine J_iload (o _ _) dL_holdsAll_312 rfl ?_
        refine J_iload (o _ _) dL_holdsAll_314 rfl ?_
        obtain ⟨v13, e14, hf⟩ := bnd_some hf
        refine J_qW (np := 5) k.1 k.2.1 k.2.2.1 (by omega) dL_holdsAll_316 mw1139 mw1141 mw1140 mw111 ⟨by decide +kernel, by decide +kernel, by decide +kernel⟩ ⟨rfl, rfl, Nat.le_of_ble_eq_true rfl, Nat.le_of_ble_eq_true rfl⟩ (c_L_needed k.2.2.2 k.2.1.2.1 r_x6 r_x7 r_x8 r_x9 e14) rfl rfl c1s_0 (fun q15 => ?_)
        refine J_tt (u := (t + 3)) (by omega) ?_
        refine J_if_ne 326 (o _ _) dL_holdsAll_319 (by decide) q15 (fun c16 => ?_) (fun c17 => ?_)
        · have hf := ite_f c16 hf
          exact t_L_holdsAll_326 k r_x2 r_x3 r_x5 hf hc
        · have hf := ite_t c17 hf
          exact t_L_holdsAll_322 k r_x2 r_x3 r_x5 hf hc
noncomputable def f_L_holdsAll_196 (z : ZQ) (m0 : Bool) (t : Nat) (x2 : Int) (x3 : Int) (x5 : Int) (x6 : Int) (x7 : Int) (x8 : Int) (x9 : Int) (x10 : Int) (s0 : Int) : Option ((ZQ × Nat × Int × Int) ⊕ (ZQ × Int)) :=
  gd (t + 2 ≤ 3000) (bl (irem x5 4) fun n1 => bnd (f_L_holdsAt z m0 x6 x7 x8 x9 n1) fun v2 => bnd (f_L_anew v2.1 m0 x6 x7 x8 x9 n1) fun v5 => if v2.2 = v5.2 then (if x10 = 0 then (if s0 = (-1) then (f_L_holdsAll_271 v5.1 m0 (t + 2) x2 x3 x5 x6 x7 x8 x9 x10) else (if (v5.1.2.2 1) ≤ (idiv s0 10) then (f_L_holdsAll_326 v5.1 m0 (t + 2) x2 x3 x5) else (if 5 < (irem s0 10) then (f_L_holdsAll_326 v5.1 m0 (t + 2) x2 x3 x5) else (if s0 < 0 then (f_L_holdsAll_326 v5.1 m0 (t + 2) x2 x3 x5) else (f_L_holdsAll_271 v5.1 m0 (t + 2) x2 x3 x5 x6 x7 x8 x9 x10))))) else (f_L_holdsAll_271 v5.1 m0 (t + 2) x2 x3 x5 x6 x7 x8 x9 x10)) else (f_L_holdsAll_326 v5.1 m0 (t + 2) x2 x3 x5))
set_option maxRecDepth 100000 in
theorem t_L_holdsAll_196 {X : QX} {K : KT} {H0 : Heap} (k : KofQ X K H0 cL_holdsAll "DatalogmillLaw" rm_L_holdsAll 3000) {z : ZQ} {m0 : Bool} {t : Nat} {x2 : Int} {x3 : Int} {x5 : Int} {x6 : Int} {x7 : Int} {x8 : Int} {x9 : Int} {x10 : Int} {s0 : Int} {o4 o11 o12 : Option Value} (r_x2 : R32 x2) (r_x3 : R32 x3) (r_x5 : R32 x5) (r_x6 : R32 x6) (r_x7 : R32 x7) (r_x8 : R32 x8) (r_x9 : R32 x9) (r_x10 : R32 x10) (r_s0 : R32 s0) {out : ((ZQ × Nat × Int × Int) ⊕ (ZQ × Int))} (hf : f_L_holdsAll_196 z m0 t x2 x3 x5 x6 x7 x8 x9 x10 s0 = some out) (hc : (Sum.elim (HW_L_holdsAll_76 X K H0 m0 x2 x3) (fun out : (ZQ × Int) => RetQZ X K H0 cL_holdsAll 3000 out.1 out.2)) out) : Jj (kAdd K t (6 * t)) (WdQ X H0) z 196 [some (rf (X.M m0).ad 1), some (.ref X.oa), some (.int (ii x2)), some (.int (ii x3)), o4, some (.int (ii x5)), some (.int (ii x6)), some (.int (ii x7)), some (.int (ii x8)), some (.int (ii x9)), some (.int (ii x10)), o11, o12] [.int (ii s0)] := by
  unfold f_L_holdsAll_196 at hf
  have o : ∀ a b, Ok (kAdd K a b) cL_holdsAll "DatalogmillLaw" rm_L_holdsAll := fun _ _ => OkQ.add k.1
  have g : ∀ a b, GdQ X (kAdd K a b) H0 := fun _ _ => GdQ.add k.2.1
  obtain ⟨ht, hf⟩ := gd_some hf
  refine J_istore (o _ _) dL_holdsAll_196 (Nat.le_of_ble_eq_true rfl) ?_
  refine J_iload (o _ _) dL_holdsAll_198 rfl ?_
  refine J_iconst (o _ _) dL_holdsAll_200 ?_
  refine J_irem (o _ _) dL_holdsAll_201 rl4 (by decide) ?_
  refine J_istore (o _ _) dL_holdsAll_202 (Nat.le_of_ble_eq_true rfl) ?_
  have hf := bl_out hf
  refine J_aload_n (o _ _) dL_holdsAll_204 rfl ?_
  refine J_iload (o _ _) dL_holdsAll_205 rfl ?_
  refine J_iload (o _ _) dL_holdsAll_207 rfl ?_
  refine J_iload (o _ _) dL_holdsAll_209 rfl ?_
  refine J_iload (o _ _) dL_holdsAll_211 rfl ?_
  refine J_iload (o _ _) dL_holdsAll_213 rfl ?_
  obtain ⟨v2, e3, hf⟩ := bnd_some hf
  refine J_qW (np := 6) k.1 k.2.1 k.2.2.1 (by omega) dL_holdsAll_215 mw1009 mw1011 mw1010 mw111 ⟨by decide +kernel, by decide +kernel, by decide +kernel⟩ ⟨rfl, rfl, Nat.le_of_ble_eq_true rfl, Nat.le_of_ble_eq_true rfl⟩ (c_L_holdsAt k.2.2.2 k.2.1.2.1 r_x6 r_x7 r_x8 r_x9 (R_irem _ _) e3) rfl rfl c1s_0 (fun q4 => ?_)
  refine J_tt (u := (t + 1)) (by omega) ?_
  refine J_aload_n (o _ _) dL_holdsAll_218 rfl ?_
  refine J_iload (o _ _) dL_holdsAll_219 rfl ?_
  refine J_iload (o _ _) dL_holdsAll_221 rfl ?_
  refine J_iload (o _ _) dL_holdsAll_223 rfl ?_
  refine J_iload (o _ _) dL_holdsAll_225 rfl ?_
  refine J_iload (o _ _) dL_holdsAll_227 rfl ?_
  obtain ⟨v5, e6, hf⟩ := bnd_some hf
  refine J_qW (np := 6) k.1 k.2.1 k.2.2.1 (by omega) dL_holdsAll_229 mw1017 mw1019 mw1018 mw111 ⟨by decide +kernel, by decide +kernel, by decide +kernel⟩ ⟨rfl, rfl, Nat.le_of_ble_eq_true rfl, Nat.le_of_ble_eq_true rfl⟩ (c_L_anew k.2.2.2 k.2.1.2.1 r_x6 r_x7 r_x8 r_x9 (R_irem _ _) e6) rfl rfl (c1s_i c1s_0 (Nat.le_of_ble_eq_true rfl)) (fun q7 => ?_)
  refine J_tt (u := (t + 2)) (by omega) ?_
  refine J_icmp_ne 326 (o _ _) dL_holdsAll_232 (by decide) q4 q7 (fun c8 => ?_) (fun c9 => ?_)
  · have hf := ite_f c8 hf
    exact t_L_holdsAll_326 k r_x2 r_x3 r_x5 hf hc
  · have hf := ite_t c9 hf
    refine J_iload (o _ _) dL_holdsAll_235 rfl ?_
    refine J_if_ne 271 (o _ _) dL_holdsAll_237 (by decide) r_x10 (fun c10 => ?_) (fun c11 => ?_)
    · have hf := ite_f c10 hf
      exact t_L_holdsAll_271 k r_x2 r_x3 r_x5 r_x6 r_x7 r_x8 r_x9 r_x10 hf hc
    · have hf := ite_t c11 hf
      refine J_iload (o _ _) dL_holdsAll_240 rfl ?_
      refine J_iconst (o _ _) dL_holdsAll_242 ?_
      refine J_icmp_eq 271 (o _ _) dL_holdsAll_243 (by decide) r_s0 rlm1 (fun c12 => ?_) (fun c13 => ?_)
      · have hf := ite_t c12 hf
        exact t_L_holdsAll_271 k r_x2 r_x3 r_x5 r_x6 r_x7 r_x8 r_x9 r_x10 hf hc
      · have hf := ite_f c13 hf
        refine J_iload (o _ _) dL_holdsAll_246 rfl ?_
        refine J_bipush (o _ _) dL_holdsAll_248 (by decide) ?_
        refine J_idiv (o _ _) dL_holdsAll_250 rl10 (by decide) ?_
        refine J_aldO_n (o _ _) dL_holdsAll_251 rfl ?_
        refine J_iconst (o _ _) dL_holdsAll_252 ?_
        refine J_nld (o _ _) (g _ _) dL_holdsAll_253 rl1 ⟨by decide, by decide⟩ (fun q14 => ?_)
        refine J_icmp_ge 326 (o _ _) dL_holdsAll_254 (by decide) (R_idiv _ _) q14 (fun c15 => ?_) (fun c16 => ?_)
        · have hf := ite_t c15 hf
          exact t_L_holdsAll_326 k r_x2 r_x3 r_x5 hf hc
        · have hf := ite_f c16 hf
          refine J_iload (o _ _) dL_holdsAll_257 rfl ?_
          refine J_bipush (o _ _) dL_holdsAll_259 (by decide) ?_
          refine J_irem (o _ _) dL_holdsAll_261 rl10 (by decide) ?_
          refine J_iconst (o _ _) dL_holdsAll_262 ?_
          refine J_icmp_gt 326 (o _ _) dL_holdsAll_263 (by decide) (R_irem _ _) rl5 (fun c17 => ?_) (fun c18 => ?_)
          · have hf := ite_t c17 hf
            exact t_L_holdsAll_326 k r_x2 r_x3 r_x5 hf hc
          · have hf := ite_f c18 hf
            refine J_iload (o _ _) dL_holdsAll_266 rfl ?_
            refine J_if_lt 326 (o _ _) dL_holdsAll_268 (by decide) r_s0 (fun c19 => ?_) (fun c20 => ?_)
            · have hf := ite_t c19 hf
              exact t_L_holdsAll_326 k r_x2 r_x3 r_x5 hf hc
            · have hf := ite_f c20 hf
              exact t_L_holdsAll_271 k r_x2 r_x3 r_x5 r_x6 r_x7 r_x8 r_x9 r_x10 hf hc
noncomputable def f_L_holdsAll_173 (z : ZQ) (m0 : Bool) (t : Nat) (x2 : Int) (x3 : Int) (x5 : Int) (x6 : Int) (x7 : Int) (x8 : Int) (x9 : Int) (s0 : Int) : Option ((ZQ × Nat × Int × Int) ⊕ (ZQ × Int)) :=
  gd (t + 1 ≤ 3000) (if s0 = 0 then (bnd (f_L_whyNot z m0 x6 x7 x8 x9) fun v3 => f_L_holdsAll_196 v3.1 m0 (t + 1) x2 x3 x5 x6 x7 x8 x9 s0 v3.2) else (f_L_holdsAll_196 z m0 t x2 x3 x5 x6 x7 x8 x9 s0 0))
set_option maxRecDepth 100000 in
theorem t_L_holdsAll_173 {X : QX} {K : KT} {H0 : Heap} (k : KofQ X K H0 cL_holdsAll "DatalogmillLaw" rm_L_holdsAll 3000) {z : ZQ} {m0 : Bool} {t : Nat} {x2 : Int} {x3 : Int} {x5 : Int} {x6 : Int} {x7 : Int} {x8 : Int} {x9 : Int} {s0 : Int} {o4 o10 o11 o12 : Option Value} (r_x2 : R32 x2) (r_x3 : R32 x3) (r_x5 : R32 x5) (r_x6 : R32 x6) (r_x7 : R32 x7) (r_x8 : R32 x8) (r_x9 : R32 x9) (r_s0 : R32 s0) {out : ((ZQ × Nat × Int × Int) ⊕ (ZQ × Int))} (hf : f_L_holdsAll_173 z m0 t x2 x3 x5 x6 x7 x8 x9 s0 = some out) (hc : (Sum.elim (HW_L_holdsAll_76 X K H0 m0 x2 x3) (fun out : (ZQ × Int) => RetQZ X K H0 cL_holdsAll 3000 out.1 out.2)) out) : Jj (kAdd K t (6 * t)) (WdQ X H0) z 173 [some (rf (X.M m0).ad 1), some (.ref X.oa), some (.int (ii x2)), some (.int (ii x3)), o4, some (.int (ii x5)), some (.int (ii x6)), some (.int (ii x7)), some (.int (ii x8)), some (.int (ii x9)), o10, o11, o12] [.int (ii s0)] := by
  unfold f_L_holdsAll_173 at hf
  have o : ∀ a b, Ok (kAdd K a b) cL_holdsAll "DatalogmillLaw" rm_L_holdsAll := fun _ _ => OkQ.add k.1
  have g : ∀ a b, GdQ X (kAdd K a b) H0 := fun _ _ => GdQ.add k.2.1
  obtain ⟨ht, hf⟩ := gd_some hf
  refine J_istore (o _ _) dL_holdsAll_173 (Nat.le_of_ble_eq_true rfl) ?_
  refine J_iload (o _ _) dL_holdsAll_175 rfl ?_
  refine J_if_eq 184 (o _ _) dL_holdsAll_177 (by decide) r_s0 (fun c1 => ?_) (fun c2 => ?_)
  · have hf := ite_t c1 hf
    refine J_aload_n (o _ _) dL_holdsAll_184 rfl ?_
    refine J_iload (o _ _) dL_holdsAll_185 rfl ?_
    refine J_iload (o _ _) dL_holdsAll_187 rfl ?_
    refine J_iload (o _ _) dL_holdsAll_189 rfl ?_
    refine J_iload (o _ _) dL_holdsAll_191 rfl ?_
    obtain ⟨v3, e4, hf⟩ := bnd_some hf
    refine J_qW (np := 5) k.1 k.2.1 k.2.2.1 (by omega) dL_holdsAll_193 mw1146 mw1148 mw1147 mw111 ⟨by decide +kernel, by decide +kernel, by decide +kernel⟩ ⟨rfl, rfl, Nat.le_of_ble_eq_true rfl, Nat.le_of_ble_eq_true rfl⟩ (c_L_whyNot k.2.2.2 k.2.1.2.1 r_x6 r_x7 r_x8 r_x9 e4) rfl rfl c1s_0 (fun q5 => ?_)
    refine J_tt (u := (t + 1)) (by omega) ?_
    exact t_L_holdsAll_196 k r_x2 r_x3 r_x5 r_x6 r_x7 r_x8 r_x9 r_s0 q5 hf hc
  · have hf := ite_f c2 hf
    refine J_iconst (o _ _) dL_holdsAll_180 ?_
    refine J_goto 196 (o _ _) dL_holdsAll_181 (by decide) ?_
    exact t_L_holdsAll_196 k r_x2 r_x3 r_x5 r_x6 r_x7 r_x8 r_x9 r_s0 rl0 hf hc
noncomputable def f_L_holdsAll_150 (z : ZQ) (m0 : Bool) (t : Nat) (x2 : Int) (x3 : Int) (x5 : Int) (x6 : Int) (x7 : Int) (x8 : Int) (s0 : Int) : Option ((ZQ × Nat × Int × Int) ⊕ (ZQ × Int)) :=
  gd (t + 1 ≤ 3000) (bnd (f_L_holds z m0 x6 x7 x8 s0) fun v1 => if v1.2 = 1 then (f_L_holdsAll_173 v1.1 m0 (t + 1) x2 x3 x5 x6 x7 x8 s0 1) else (f_L_holdsAll_173 v1.1 m0 (t + 1) x2 x3 x5 x6 x7 x8 s0 0))
set_option maxRecDepth 100000 in
theorem t_L_holdsAll_150 {X : QX} {K : KT} {H0 : Heap} (k : KofQ X K H0 cL_holdsAll "DatalogmillLaw" rm_L_holdsAll 3000) {z : ZQ} {m0 : Bool} {t : Nat} {x2 : Int} {x3 : Int} {x5 : Int} {x6 : Int} {x7 : Int} {x8 : Int} {s0 : Int} {o4 o9 o10 o11 o12 : Option Value} (r_x2 : R32 x2) (r_x3 : R32 x3) (r_x5 : R32 x5) (r_x6 : R32 x6) (r_x7 : R32 x7) (r_x8 : R32 x8) (r_s0 : R32 s0) {out : ((ZQ × Nat × Int × Int) ⊕ (ZQ × Int))} (hf : f_L_holdsAll_150 z m0 t x2 x3 x5 x6 x7 x8 s0 = some out) (hc : (Sum.elim (HW_L_holdsAll_76 X K H0 m0 x2 x3) (fun out : (ZQ × Int) => RetQZ X K H0 cL_holdsAll 3000 out.1 out.2)) out) : Jj (kAdd K t (6 * t)) (WdQ X H0) z 150 [some (rf (X.M m0).ad 1), some (.ref X.oa), some (.int (ii x2)), some (.int (ii x3)), o4, some (.int (ii x5)), some (.int (ii x6)), some (.int (ii x7)), some (.int (ii x8)), o9, o10, o11, o12] [.int (ii s0)] := by
  unfold f_L_holdsAll_150 at hf
  have o : ∀ a b, Ok (kAdd K a b) cL_holdsAll "DatalogmillLaw" rm_L_holdsAll := fun _ _ => OkQ.add k.1
  have g : ∀ a b, GdQ X (kAdd K a b) H0 := fun _ _ => GdQ.add k.2.1
  obtain ⟨ht, hf⟩ := gd_some hf
  refine J_istore (o _ _) dL_holdsAll_150 (Nat.le_of_ble_eq_true rfl) ?_
  refine J_aload_n (o _ _) dL_holdsAll_152 rfl ?_
  refine J_iload (o _ _) dL_holdsAll_153 rfl ?_
  refine J_iload (o _ _) dL_holdsAll_155 rfl ?_
  refine J_iload (o _ _) dL_holdsAll_157 rfl ?_
  refine J_iload (o _ _) dL_holdsAll_159 rfl ?_
  obtain ⟨v1, e2, hf⟩ := bnd_some hf
  refine J_qW (np := 5) k.1 k.2.1 k.2.2.1 (by omega) dL_holdsAll_161 mw990 mw992 mw991 mw111 ⟨by decide +kernel, by decide +kernel, by decide +kernel⟩ ⟨rfl, rfl, Nat.le_of_ble_eq_true rfl, Nat.le_of_ble_eq_true rfl⟩ (c_L_holds k.2.2.2 k.2.1.2.1 r_x6 r_x7 r_x8 r_s0 e2) rfl rfl c1s_0 (fun q3 => ?_)
  refine J_tt (u := (t + 1)) (by omega) ?_
  refine J_iconst (o _ _) dL_holdsAll_164 ?_
  refine J_icmp_ne 172 (o _ _) dL_holdsAll_165 (by decide) q3 rl1 (fun c4 => ?_) (fun c5 => ?_)
  · have hf := ite_f c4 hf
    refine J_iconst (o _ _) dL_holdsAll_172 ?_
    exact t_L_holdsAll_173 k r_x2 r_x3 r_x5 r_x6 r_x7 r_x8 r_s0 rl0 hf hc
  · have hf := ite_t c5 hf
    refine J_iconst (o _ _) dL_holdsAll_168 ?_
    refine J_goto 173 (o _ _) dL_holdsAll_169 (by decide) ?_
    exact t_L_holdsAll_173 k r_x2 r_x3 r_x5 r_x6 r_x7 r_x8 r_s0 rl1 hf hc
noncomputable def f_L_holdsAll_129 (z : ZQ) (m0 : Bool) (t : Nat) (x2 : Int) (x3 : Int) (x5 : Int) (x6 : Int) (x7 : Int) (s0 : Int) : Option ((ZQ × Nat × Int × Int) ⊕ (ZQ × Int)) :=
  gd (t + 0 ≤ 3000) (if x6 = 5 then (f_L_holdsAll_150 z m0 t x2 x3 x5 x6 x7 s0 (irem (wr ((idiv x2 96) + x5)) 4)) else (f_L_holdsAll_150 z m0 t x2 x3 x5 x6 x7 s0 0))
set_option maxRecDepth 100000 in
theorem t_L_holdsAll_129 {X : QX} {K : KT} {H0 : Heap} (k : KofQ X K H0 cL_holdsAll "DatalogmillLaw" rm_L_holdsAll 3000) {z : ZQ} {m0 : Bool} {t : Nat} {x2 : Int} {x3 : Int} {x5 : Int} {x6 : Int} {x7 : Int} {s0 : Int} {o4 o8 o9 o10 o11 o12 : Option Value} (r_x2 : R32 x2) (r_x3 : R32 x3) (r_x5 : R32 x5) (r_x6 : R32 x6) (r_x7 : R32 x7) (r_s0 : R32 s0) {out : ((ZQ × Nat × Int × Int) ⊕ (ZQ × Int))} (hf : f_L_holdsAll_129 z m0 t x2 x3 x5 x6 x7 s0 = some out) (hc : (Sum.elim (HW_L_holdsAll_76 X K H0 m0 x2 x3) (fun out : (ZQ × Int) => RetQZ X K H0 cL_holdsAll 3000 out.1 out.2)) out) : Jj (kAdd K t (6 * t)) (WdQ X H0) z 129 [some (rf (X.M m0).ad 1), some (.ref X.oa), some (.int (ii x2)), some (.int (ii x3)), o4, some (.int (ii x5)), some (.int (ii x6)), some (.int (ii x7)), o8, o9, o10, o11, o12] [.int (ii s0)] := by
  unfold f_L_holdsAll_129 at hf
  have o : ∀ a b, Ok (kAdd K a b) cL_holdsAll "DatalogmillLaw" rm_L_holdsAll := fun _ _ => OkQ.add k.1
  have g : ∀ a b, GdQ X (kAdd K a b) H0 := fun _ _ => GdQ.add k.2.1
  obtain ⟨ht, hf⟩ := gd_some hf
  refine J_istore (o _ _) dL_holdsAll_129 (Nat.le_of_ble_eq_true rfl) ?_
  refine J_iload (o _ _) dL_holdsAll_131 rfl ?_
  refine J_iconst (o _ _) dL_holdsAll_133 ?_
  refine J_icmp_ne 149 (o _ _) dL_holdsAll_134 (by decide) r_x6 rl5 (fun c1 => ?_) (fun c2 => ?_)
  · have hf := ite_f c1 hf
    refine J_iconst (o _ _) dL_holdsAll_149 ?_
    exact t_L_holdsAll_150 k r_x2 r_x3 r_x5 r_x6 r_x7 r_s0 rl0 hf hc
  · have hf := ite_t c2 hf
    refine J_iload_n (o _ _) dL_holdsAll_137 rfl ?_
    refine J_bipush (o _ _) dL_holdsAll_138 (by decide) ?_
    refine J_idiv (o _ _) dL_holdsAll_140 rl96 (by decide) ?_
    refine J_iload (o _ _) dL_holdsAll_141 rfl ?_
    refine J_iadd (o _ _) dL_holdsAll_143 ?_
    refine J_iconst (o _ _) dL_holdsAll_144 ?_
    refine J_irem (o _ _) dL_holdsAll_145 rl4 (by decide) ?_
    refine J_goto 150 (o _ _) dL_holdsAll_146 (by decide) ?_
    exact t_L_holdsAll_150 k r_x2 r_x3 r_x5 r_x6 r_x7 r_s0 (R_irem _ _) hf hc
noncomputable def f_L_holdsAll_76B (z : ZQ) (m0 : Bool) (t : Nat) (x2 : Int) (x3 : Int) (x4 : Int) (x5 : Int) : Option ((ZQ × Nat × Int × Int) ⊕ (ZQ × Int)) :=
  gd (t + 0 ≤ 3000) (if 12 ≤ x5 then (bnd (f_L_holdsAll_335 z m0 t x2 x3 x4) fun y3 => some (Sum.inr y3)) else (if x4 = 0 then (bnd (f_L_holdsAll_335 z m0 t x2 x3 x4) fun y6 => some (Sum.inr y6)) else (bl (irem (wr (x2 + x5)) 6) fun n7 => bl (irem (wr ((idiv x2 6) + x5)) 4) fun n8 => if n7 = 2 then (f_L_holdsAll_129 z m0 t x2 x3 x5 n7 n8 0) else (f_L_holdsAll_129 z m0 t x2 x3 x5 n7 n8 (irem (wr ((idiv x2 24) + (idiv x5 4))) 4)))))
set_option maxRecDepth 100000 in
theorem t_L_holdsAll_76B {X : QX} {K : KT} {H0 : Heap} (k : KofQ X K H0 cL_holdsAll "DatalogmillLaw" rm_L_holdsAll 3000) {z : ZQ} {m0 : Bool} {t : Nat} {x2 : Int} {x3 : Int} {x4 : Int} {x5 : Int} {o6 o7 o8 o9 o10 o11 o12 : Option Value} (r_x2 : R32 x2) (r_x3 : R32 x3) (r_x4 : R32 x4) (r_x5 : R32 x5) {out : ((ZQ × Nat × Int × Int) ⊕ (ZQ × Int))} (hf : f_L_holdsAll_76B z m0 t x2 x3 x4 x5 = some out) (hc : (Sum.elim (HW_L_holdsAll_76 X K H0 m0 x2 x3) (fun out : (ZQ × Int) => RetQZ X K H0 cL_holdsAll 3000 out.1 out.2)) out) : Jj (kAdd K t (6 * t)) (WdQ X H0) z 76 [some (rf (X.M m0).ad 1), some (.ref X.oa), some (.int (ii x2)), some (.int (ii x3)), some (.int (ii x4)), some (.int (ii x5)), o6, o7, o8, o9, o10, o11, o12] [] := by
  unfold f_L_holdsAll_76B at hf
  have o : ∀ a b, Ok (kAdd K a b) cL_holdsAll "DatalogmillLaw" rm_L_holdsAll := fun _ _ => OkQ.add k.1
  have g : ∀ a b, GdQ X (kAdd K a b) H0 := fun _ _ => GdQ.add k.2.1
  obtain ⟨ht, hf⟩ := gd_some hf
  refine J_iload (o _ _) dL_holdsAll_76 rfl ?_
  refine J_bipush (o _ _) dL_holdsAll_78 (by decide) ?_
  refine J_icmp_ge 335 (o _ _) dL_holdsAll_80 (by decide) r_x5 rl12 (fun c1 => ?_) (fun c2 => ?_)
  · have hf := ite_t c1 hf
    obtain ⟨y3, hf1, hf⟩ := bnd_some hf
    have hf := some_inj hf
    subst hf
    exact t_L_holdsAll_335 k r_x2 r_x3 r_x4 hf1 hc
  · have hf := ite_f c2 hf
    refine J_iload (o _ _) dL_holdsAll_83 rfl ?_
    refine J_if_eq 335 (o _ _) dL_holdsAll_85 (by decide) r_x4 (fun c4 => ?_) (fun c5 => ?_)
    · have hf := ite_t c4 hf
      obtain ⟨y6, hf1, hf⟩ := bnd_some hf
      have hf := some_inj hf
      subst hf
      exact t_L_holdsAll_335 k r_x2 r_x3 r_x4 hf1 hc
    · have hf := ite_f c5 hf
      refine J_iload_n (o _ _) dL_holdsAll_88 rfl ?_
      refine J_iload (o _ _) dL_holdsAll_89 rfl ?_
      refine J_iadd (o _ _) dL_holdsAll_91 ?_
      refine J_bipush (o _ _) dL_holdsAll_92 (by decide) ?_
      refine J_irem (o _ _) dL_holdsAll_94 rl6 (by decide) ?_
      refine J_istore (o _ _) dL_holdsAll_95 (Nat.le_of_ble_eq_true rfl) ?_
      have hf := bl_out hf
      refine J_iload_n (o _ _) dL_holdsAll_97 rfl ?_
      refine J_bipush (o _ _) dL_holdsAll_98 (by decide) ?_
      refine J_idiv (o _ _) dL_holdsAll_100 rl6 (by decide) ?_
      refine J_iload (o _ _) dL_holdsAll_101 rfl ?_
      refine J_iadd (o _ _) dL_holdsAll_103 ?_
      refine J_iconst (o _ _) dL_holdsAll_104 ?_
      refine J_irem (o _ _) dL_holdsAll_105 rl4 (by decide) ?_
      refine J_istore (o _ _) dL_holdsAll_106 (Nat.le_of_ble_eq_true rfl) ?_
      have hf := bl_out hf
      refine J_iload (o _ _) dL_holdsAll_108 rfl ?_
      refine J_iconst (o _ _) dL_holdsAll_110 ?_
      refine J_icmp_ne 118 (o _ _) dL_holdsAll_111 (by decide) (R_irem _ _) rl2 (fun c9 => ?_) (fun c10 => ?_)
      · have hf := ite_f c9 hf
        refine J_iload_n (o _ _) dL_holdsAll_118 rfl ?_
        refine J_bipush (o _ _) dL_holdsAll_119 (by decide) ?_
        refine J_idiv (o _ _) dL_holdsAll_121 rl24 (by decide) ?_
        refine J_iload (o _ _) dL_holdsAll_122 rfl ?_
        refine J_iconst (o _ _) dL_holdsAll_124 ?_
        refine J_idiv (o _ _) dL_holdsAll_125 rl4 (by decide) ?_
        refine J_iadd (o _ _) dL_holdsAll_126 ?_
        refine J_iconst (o _ _) dL_holdsAll_127 ?_
        refine J_irem (o _ _) dL_holdsAll_128 rl4 (by decide) ?_
        exact t_L_holdsAll_129 k r_x2 r_x3 r_x5 (R_irem _ _) (R_irem _ _) (R_irem _ _) hf hc
      · have hf := ite_t c10 hf
        refine J_iconst (o _ _) dL_holdsAll_114 ?_
        refine J_goto 129 (o _ _) dL_holdsAll_115 (by decide) ?_
        exact t_L_holdsAll_129 k r_x2 r_x3 r_x5 (R_irem _ _) (R_irem _ _) rl0 hf hc
noncomputable def f_L_holdsAll_76 (z : ZQ) (m0 : Bool) (t : Nat) (x2 : Int) (x3 : Int) (x4 : Int) (x5 : Int) : Option (ZQ × Int) :=
  lp (fun y : (ZQ × Nat × Int × Int) => f_L_holdsAll_76B y.1 m0 y.2.1 x2 x3 y.2.2.1 y.2.2.2) (z, t, x4, x5)
theorem t_L_holdsAll_76 {X : QX} {K : KT} {H0 : Heap} (k : KofQ X K H0 cL_holdsAll "DatalogmillLaw" rm_L_holdsAll 3000) {z : ZQ} {m0 : Bool} {t : Nat} {x2 : Int} {x3 : Int} {x4 : Int} {x5 : Int} (r_x2 : R32 x2) (r_x3 : R32 x3) {out : (ZQ × Int)} (hf : f_L_holdsAll_76 z m0 t x2 x3 x4 x5 = some out) (hc : (fun out : (ZQ × Int) => RetQZ X K H0 cL_holdsAll 3000 out.1 out.2) out) : HW_L_holdsAll_76 X K H0 m0 x2 x3 (z, t, x4, x5) := by
  unfold f_L_holdsAll_76 at hf
  refine lp_ind (P := HW_L_holdsAll_76 X K H0 m0 x2 x3) hf ?_
  intro y o hs h1 h2
  intro r_x4 r_x5
  intro o6 o7 o8 o9 o10 o11 o12
  refine t_L_holdsAll_76B k r_x2 r_x3 r_x4 r_x5 hs ?_
  cases o with
  | inl z' => exact h1 z' rfl
  | inr r' => rw [h2 r' rfl]; exact hc
noncomputable def f_L_holdsAll_73 (z : ZQ) (m0 : Bool) (t : Nat) (x2 : Int) (x3 : Int) (x4 : Int) : Option (ZQ × Int) :=
  gd (t + 0 ≤ 3000) (f_L_holdsAll_76 z m0 t x2 x3 x4 0)
set_option maxRecDepth 100000 in
theorem t_L_holdsAll_73 {X : QX} {K : KT} {H0 : Heap} (k : KofQ X K H0 cL_holdsAll "DatalogmillLaw" rm_L_holdsAll 3000) {z : ZQ} {m0 : Bool} {t : Nat} {x2 : Int} {x3 : Int} {x4 : Int} {o5 o6 o7 o8 o9 o10 o11 o12 : Option Value} (r_x2 : R32 x2) (r_x3 : R32 x3) (r_x4 : R32 x4) {out : (ZQ × Int)} (hf : f_L_holdsAll_73 z m0 t x2 x3 x4 = some out) (hc : (fun out : (ZQ × Int) => RetQZ X K H0 cL_holdsAll 3000 out.1 out.2) out) : Jj (kAdd K t (6 * t)) (WdQ X H0) z 73 [some (rf (X.M m0).ad 1), some (.ref X.oa), some (.int (ii x2)), some (.int (ii x3)), some (.int (ii x4)), o5, o6, o7, o8, o9, o10, o11, o12] [] := by
  unfold f_L_holdsAll_73 at hf
  have o : ∀ a b, Ok (kAdd K a b) cL_holdsAll "DatalogmillLaw" rm_L_holdsAll := fun _ _ => OkQ.add k.1
  have g : ∀ a b, GdQ X (kAdd K a b) H0 := fun _ _ => GdQ.add k.2.1
  obtain ⟨ht, hf⟩ := gd_some hf
  refine J_iconst (o _ _) dL_holdsAll_73 ?_
  refine J_istore (o _ _) dL_holdsAll_74 (Nat.le_of_ble_eq_true rfl) ?_
  exact (t_L_holdsAll_76 k r_x2 r_x3 hf hc) r_x4 rl0 _ _ _ _ _ _ _
noncomputable def f_L_holdsAll_65 (z : ZQ) (m0 : Bool) (t : Nat) (x2 : Int) (x3 : Int) (x5 : Int) (s0 : Int) : Option ((ZQ × Nat × Int × Int × Int) ⊕ (ZQ × Int)) :=
  gd (t + 0 ≤ 3000) (bl (wr (x5 + 1)) fun n1 => some (Sum.inl (z, t, x3, s0, n1)))
set_option maxRecDepth 100000 in
theorem t_L_holdsAll_65 {X : QX} {K : KT} {H0 : Heap} (k : KofQ X K H0 cL_holdsAll "DatalogmillLaw" rm_L_holdsAll 3000) {z : ZQ} {m0 : Bool} {t : Nat} {x2 : Int} {x3 : Int} {x5 : Int} {s0 : Int} {o4 o6 o7 o8 o9 o10 o11 o12 : Option Value} (r_x2 : R32 x2) (r_x3 : R32 x3) (r_x5 : R32 x5) (r_s0 : R32 s0) {out : ((ZQ × Nat × Int × Int × Int) ⊕ (ZQ × Int))} (hf : f_L_holdsAll_65 z m0 t x2 x3 x5 s0 = some out) (hc : (Sum.elim (HW_L_holdsAll_8 X K H0 m0 x2) (fun out : (ZQ × Int) => RetQZ X K H0 cL_holdsAll 3000 out.1 out.2)) out) : Jj (kAdd K t (6 * t)) (WdQ X H0) z 65 [some (rf (X.M m0).ad 1), some (.ref X.oa), some (.int (ii x2)), some (.int (ii x3)), o4, some (.int (ii x5)), o6, o7, o8, o9, o10, o11, o12] [.int (ii s0)] := by
  unfold f_L_holdsAll_65 at hf
  have o : ∀ a b, Ok (kAdd K a b) cL_holdsAll "DatalogmillLaw" rm_L_holdsAll := fun _ _ => OkQ.add k.1
  have g : ∀ a b, GdQ X (kAdd K a b) H0 := fun _ _ => GdQ.add k.2.1
  obtain ⟨ht, hf⟩ := gd_some hf
  refine J_istore (o _ _) dL_holdsAll_65 (Nat.le_of_ble_eq_true rfl) ?_
  have hf := bl_out hf
  refine J_iinc (o _ _) dL_holdsAll_67 rfl ?_
  refine J_goto 8 (o _ _) dL_holdsAll_70 (by decide) ?_
  have hf := some_inj hf
  subst hf
  exact hc r_x3 r_s0 (R_wr _) _ _ _ _ _ _ _
noncomputable def f_L_holdsAll_64 (z : ZQ) (m0 : Bool) (t : Nat) (x2 : Int) (x3 : Int) (x5 : Int) : Option ((ZQ × Nat × Int × Int × Int) ⊕ (ZQ × Int)) :=
  gd (t + 0 ≤ 3000) (f_L_holdsAll_65 z m0 t x2 x3 x5 0)
set_option maxRecDepth 100000 in
theorem t_L_holdsAll_64 {X : QX} {K : KT} {H0 : Heap} (k : KofQ X K H0 cL_holdsAll "DatalogmillLaw" rm_L_holdsAll 3000) {z : ZQ} {m0 : Bool} {t : Nat} {x2 : Int} {x3 : Int} {x5 : Int} {o4 o6 o7 o8 o9 o10 o11 o12 : Option Value} (r_x2 : R32 x2) (r_x3 : R32 x3) (r_x5 : R32 x5) {out : ((ZQ × Nat × Int × Int × Int) ⊕ (ZQ × Int))} (hf : f_L_holdsAll_64 z m0 t x2 x3 x5 = some out) (hc : (Sum.elim (HW_L_holdsAll_8 X K H0 m0 x2) (fun out : (ZQ × Int) => RetQZ X K H0 cL_holdsAll 3000 out.1 out.2)) out) : Jj (kAdd K t (6 * t)) (WdQ X H0) z 64 [some (rf (X.M m0).ad 1), some (.ref X.oa), some (.int (ii x2)), some (.int (ii x3)), o4, some (.int (ii x5)), o6, o7, o8, o9, o10, o11, o12] [] := by
  unfold f_L_holdsAll_64 at hf
  have o : ∀ a b, Ok (kAdd K a b) cL_holdsAll "DatalogmillLaw" rm_L_holdsAll := fun _ _ => OkQ.add k.1
  have g : ∀ a b, GdQ X (kAdd K a b) H0 := fun _ _ => GdQ.add k.2.1
  obtain ⟨ht, hf⟩ := gd_some hf
  refine J_iconst (o _ _) dL_holdsAll_64 ?_
  exact t_L_holdsAll_65 k r_x2 r_x3 r_x5 rl0 hf hc
noncomputable def f_L_holdsAll_8B (z : ZQ) (m0 : Bool) (t : Nat) (x2 : Int) (x3 : Int) (x4 : Int) (x5 : Int) : Option ((ZQ × Nat × Int × Int × Int) ⊕ (ZQ × Int)) :=
  gd (t + 403 ≤ 3000) (if 6 ≤ x5 then (bnd (f_L_holdsAll_73 z m0 t x2 x3 x4) fun y3 => some (Sum.inr y3)) else (if x4 = 0 then (bnd (f_L_holdsAll_73 z m0 t x2 x3 x4) fun y6 => some (Sum.inr y6)) else (bnd (f_L_size z m0 x5) fun v7 => bl (wr (x3 + v7.2)) fun n10 => bnd (f_L_told v7.1 m0 x5 x2) fun v11 => if v11.2 = 0 then (f_L_holdsAll_64 v11.1 m0 (t + 401) x2 n10 x5) else (bnd (f_L_stratum v11.1 m0 x5) fun v16 => if v16.2 < 0 then (f_L_holdsAll_64 v16.1 m0 (t + 402) x2 n10 x5) else (bnd (f_L_stratum v16.1 m0 x5) fun v21 => if 10 ≤ v21.2 then (f_L_holdsAll_64 v21.1 m0 (t + 403) x2 n10 x5) else (f_L_holdsAll_65 v21.1 m0 (t + 403) x2 n10 x5 1))))))
set_option maxRecDepth 100000 in
theorem t_L_holdsAll_8B {X : QX} {K : KT} {H0 : Heap} (k : KofQ X K H0 cL_holdsAll "DatalogmillLaw" rm_L_holdsAll 3000) {z : ZQ} {m0 : Bool} {t : Nat} {x2 : Int} {x3 : Int} {x4 : Int} {x5 : Int} {o6 o7 o8 o9 o10 o11 o12 : Option Value} (r_x2 : R32 x2) (r_x3 : R32 x3) (r_x4 : R32 x4) (r_x5 : R32 x5) {out : ((ZQ × Nat × Int × Int × Int) ⊕ (ZQ × Int))} (hf : f_L_holdsAll_8B z m0 t x2 x3 x4 x5 = some out) (hc : (Sum.elim (HW_L_holdsAll_8 X K H0 m0 x2) (fun out : (ZQ × Int) => RetQZ X K H0 cL_holdsAll 3000 out.1 out.2)) out) : Jj (kAdd K t (6 * t)) (WdQ X H0) z 8 [some (rf (X.M m0).ad 1), some (.ref X.oa), some (.int (ii x2)), some (.int (ii x3)), some (.int (ii x4)), some (.int (ii x5)), o6, o7, o8, o9, o10, o11, o12] [] := by
  unfold f_L_holdsAll_8B at hf
  have o : ∀ a b, Ok (kAdd K a b) cL_holdsAll "DatalogmillLaw" rm_L_holdsAll := fun _ _ => OkQ.add k.1
  have g : ∀ a b, GdQ X (kAdd K a b) H0 := fun _ _ => GdQ.add k.2.1
  obtain ⟨ht, hf⟩ := gd_some hf
  refine J_iload (o _ _) dL_holdsAll_8 rfl ?_
  refine J_bipush (o _ _) dL_holdsAll_10 (by decide) ?_
  refine J_icmp_ge 73 (o _ _) dL_holdsAll_12 (by decide) r_x5 rl6 (fun c1 => ?_) (fun c2 => ?_)
  · have hf := ite_t c1 hf
    obtain ⟨y3, hf1, hf⟩ := bnd_some hf
    have hf := some_inj hf
    subst hf
    exact t_L_holdsAll_73 k r_x2 r_x3 r_x4 hf1 hc
  · have hf := ite_f c2 hf
    refine J_iload (o _ _) dL_holdsAll_15 rfl ?_
    refine J_if_eq 73 (o _ _) dL_holdsAll_17 (by decide) r_x4 (fun c4 => ?_) (fun c5 => ?_)
    · have hf := ite_t c4 hf
      obtain ⟨y6, hf1, hf⟩ := bnd_some hf
      have hf := some_inj hf
      subst hf
      exact t_L_holdsAll_73 k r_x2 r_x3 r_x4 hf1 hc
    · have hf := ite_f c5 hf
      refine J_iload_n (o _ _) dL_holdsAll_20 rfl ?_
      refine J_aload_n (o _ _) dL_holdsAll_21 rfl ?_
      refine J_iload (o _ _) dL_holdsAll_22 rfl ?_
      obtain ⟨v7, e8, hf⟩ := bnd_some hf
      refine J_qW (np := 2) k.1 k.2.1 k.2.2.1 (by omega) dL_holdsAll_24 mw1024 mw1026 mw1025 mw111 ⟨by decide +kernel, by decide +kernel, by decide +kernel⟩ ⟨rfl, rfl, Nat.le_of_ble_eq_true rfl, Nat.le_of_ble_eq_true rfl⟩ (c_L_size k.2.2.2 k.2.1.2.1 r_x5 e8) rfl rfl (c1s_i c1s_0 (Nat.le_of_ble_eq_true rfl)) (fun q9 => ?_)
      refine J_tt (u := (t + 1)) (by omega) ?_
      refine J_iadd (o _ _) dL_holdsAll_27 ?_
      refine J_istore_n (o _ _) dL_holdsAll_28 (Nat.le_of_ble_eq_true rfl) ?_
      have hf := bl_out hf
      refine J_aload_n (o _ _) dL_holdsAll_29 rfl ?_
      refine J_aldO_n (o _ _) dL_holdsAll_30 rfl ?_
      refine J_iload (o _ _) dL_holdsAll_31 rfl ?_
      refine J_iload_n (o _ _) dL_holdsAll_33 rfl ?_
      obtain ⟨v11, e12, hf⟩ := bnd_some hf
      refine J_qS (np := 4) (c9 := 400) k.1 k.2.1 k.2.2.1 (by omega) dL_holdsAll_34 mw1324 ml_L_told mw1325 ⟨rfl, rfl, Nat.le_of_ble_eq_true rfl, Nat.le_of_ble_eq_true rfl⟩ (c_L_told k.2.2.2 k.2.1.2.1 r_x5 r_x2 e12) rfl rfl c1s_0 (fun q13 => ?_)
      refine J_tt (u := (t + 401)) (by omega) ?_
      refine J_if_eq 64 (o _ _) dL_holdsAll_37 (by decide) q13 (fun c14 => ?_) (fun c15 => ?_)
      · have hf := ite_t c14 hf
        exact t_L_holdsAll_64 k r_x2 (R_wr _) r_x5 hf hc
      · have hf := ite_f c15 hf
        refine J_aload_n (o _ _) dL_holdsAll_40 rfl ?_
        refine J_iload (o _ _) dL_holdsAll_41 rfl ?_
        obtain ⟨v16, e17, hf⟩ := bnd_some hf
        refine J_qW (np := 2) k.1 k.2.1 k.2.2.1 (by omega) dL_holdsAll_43 mw1049 mw1051 mw1050 mw111 ⟨by decide +kernel, by decide +kernel, by decide +kernel⟩ ⟨rfl, rfl, Nat.le_of_ble_eq_true rfl, Nat.le_of_ble_eq_true rfl⟩ (c_L_stratum k.2.2.2 k.2.1.2.1 r_x5 e17) rfl rfl c1s_0 (fun q18 => ?_)
        refine J_tt (u := (t + 402)) (by omega) ?_
        refine J_if_lt 64 (o _ _) dL_holdsAll_46 (by decide) q18 (fun c19 => ?_) (fun c20 => ?_)
        · have hf := ite_t c19 hf
          exact t_L_holdsAll_64 k r_x2 (R_wr _) r_x5 hf hc
        · have hf := ite_f c20 hf
          refine J_aload_n (o _ _) dL_holdsAll_49 rfl ?_
          refine J_iload (o _ _) dL_holdsAll_50 rfl ?_
          obtain ⟨v21, e22, hf⟩ := bnd_some hf
          refine J_qW (np := 2) k.1 k.2.1 k.2.2.1 (by omega) dL_holdsAll_52 mw1049 mw1051 mw1050 mw111 ⟨by decide +kernel, by decide +kernel, by decide +kernel⟩ ⟨rfl, rfl, Nat.le_of_ble_eq_true rfl, Nat.le_of_ble_eq_true rfl⟩ (c_L_stratum k.2.2.2 k.2.1.2.1 r_x5 e22) rfl rfl c1s_0 (fun q23 => ?_)
          refine J_tt (u := (t + 403)) (by omega) ?_
          refine J_bipush (o _ _) dL_holdsAll_55 (by decide) ?_
          refine J_icmp_ge 64 (o _ _) dL_holdsAll_57 (by decide) q23 rl10 (fun c24 => ?_) (fun c25 => ?_)
          · have hf := ite_t c24 hf
            exact t_L_holdsAll_64 k r_x2 (R_wr _) r_x5 hf hc
          · have hf := ite_f c25 hf
            refine J_iconst (o _ _) dL_holdsAll_60 ?_
            refine J_goto 65 (o _ _) dL_holdsAll_61 (by decide) ?_
            exact t_L_holdsAll_65 k r_x2 (R_wr _) r_x5 rl1 hf hc
noncomputable def f_L_holdsAll_8 (z : ZQ) (m0 : Bool) (t : Nat) (x2 : Int) (x3 : Int) (x4 : Int) (x5 : Int) : Option (ZQ × Int) :=
  lp (fun y : (ZQ × Nat × Int × Int × Int) => f_L_holdsAll_8B y.1 m0 y.2.1 x2 y.2.2.1 y.2.2.2.1 y.2.2.2.2) (z, t, x3, x4, x5)
theorem t_L_holdsAll_8 {X : QX} {K : KT} {H0 : Heap} (k : KofQ X K H0 cL_holdsAll "DatalogmillLaw" rm_L_holdsAll 3000) {z : ZQ} {m0 : Bool} {t : Nat} {x2 : Int} {x3 : Int} {x4 : Int} {x5 : Int} (r_x2 : R32 x2) {out : (ZQ × Int)} (hf : f_L_holdsAll_8 z m0 t x2 x3 x4 x5 = some out) (hc : (fun out : (ZQ × Int) => RetQZ X K H0 cL_holdsAll 3000 out.1 out.2) out) : HW_L_holdsAll_8 X K H0 m0 x2 (z, t, x3, x4, x5) := by
  unfold f_L_holdsAll_8 at hf
  refine lp_ind (P := HW_L_holdsAll_8 X K H0 m0 x2) hf ?_
  intro y o hs h1 h2
  intro r_x3 r_x4 r_x5
  intro o6 o7 o8 o9 o10 o11 o12
  refine t_L_holdsAll_8B k r_x2 r_x3 r_x4 r_x5 hs ?_
  cases o with
  | inl z' => exact h1 z' rfl
  | inr r' => rw [h2 r' rfl]; exact hc
noncomputable def f_L_holdsAll (z : ZQ) (m0 : Bool) (x2 : Int) : Option (ZQ × Int) :=
  f_L_holdsAll_8 z m0 0 x2 0 1 0
set_option maxRecDepth 100000 in
theorem t_L_holdsAll_0 {X : QX} {K : KT} {H0 : Heap} (k : KofQ X K H0 cL_holdsAll "DatalogmillLaw" rm_L_holdsAll 3000) {z : ZQ} {m0 : Bool} {x2 : Int} {o3 o4 o5 o6 o7 o8 o9 o10 o11 o12 : Option Value} (r_x2 : R32 x2) {out : (ZQ × Int)} (hf : f_L_holdsAll z m0 x2 = some out) (hc : (fun out : (ZQ × Int) => RetQZ X K H0 cL_holdsAll 3000 out.1 out.2) out) : Jj (kAdd K 0 (6 * 0)) (WdQ X H0) z 0 [some (rf (X.M m0).ad 1), some (.ref X.oa), some (.int (ii x2)), o3, o4, o5, o6, o7, o8, o9, o10, o11, o12] [] := by
  unfold f_L_holdsAll at hf
  have o : ∀ a b, Ok (kAdd K a b) cL_holdsAll "DatalogmillLaw" rm_L_holdsAll := fun _ _ => OkQ.add k.1
  have g : ∀ a b, GdQ X (kAdd K a b) H0 := fun _ _ => GdQ.add k.2.1
  refine J_iconst (o _ _) dL_holdsAll_0 ?_
  refine J_istore_n (o _ _) dL_holdsAll_1 (Nat.le_of_ble_eq_true rfl) ?_
  refine J_iconst (o _ _) dL_holdsAll_2 ?_
  refine J_istore (o _ _) dL_holdsAll_3 (Nat.le_of_ble_eq_true rfl) ?_
  refine J_iconst (o _ _) dL_holdsAll_5 ?_
  refine J_istore (o _ _) dL_holdsAll_6 (Nat.le_of_ble_eq_true rfl) ?_
  exact (t_L_holdsAll_8 k r_x2 hf hc) rl0 rl1 rl0 _ _ _ _ _ _ _
theorem c_L_holdsAll {X : QX} {l : Launch} (hst : l.stackTraces = false) (hA : ApQ X) {z : ZQ} {m0 : Bool} {x2 : Int} (r_x2 : R32 x2) {out : (ZQ × Int)} (hf : f_L_holdsAll z m0 x2 = some out) : ConQ X l yL_holdsAll (WS yL_holdsAll cL_holdsAll 13 (some .boolean)) rm_L_holdsAll [rf (X.M m0).ad 1, .ref X.oa, .int (ii x2)] z out.1 out.2 :=
  con_QZ (by decide +kernel) rfl (Nat.le_of_ble_eq_true rfl) (c1s_r (c1s_a (c1s_i c1s_0 (Nat.le_of_ble_eq_true rfl)) (Nat.le_of_ble_eq_true rfl)) (Nat.le_of_ble_eq_true rfl)).1 ⟨rfl, rfl⟩ hA hst (fun K H0 k hret => t_L_holdsAll_0 k r_x2 hf hret)
abbrev rm_L_ends : Room := { frames := 10, cells := 30, slots := 180, locals := 249 }
def HW_L_ends_21 (X : QX) (K : KT) (H0 : Heap) (m0 : Bool) (x2 : Int) : (ZQ × Nat × Int × Int × Int) → Prop := fun y => R32 y.2.2.1 → R32 y.2.2.2.1 → R32 y.2.2.2.2 → ∀ o6 : Option Value, Jj (kAdd K y.2.1 (6 * y.2.1)) (WdQ X H0) y.1 21 [some (rf (X.M m0).ad 1), some (.ref X.oa), some (.int (ii x2)), some (.int (ii y.2.2.1)), some (.int (ii y.2.2.2.1)), some (.int (ii y.2.2.2.2)), o6] []
noncomputable def f_L_ends_121 (z : ZQ) (m0 : Bool) (t : Nat) : Option (ZQ × Int) :=
  gd (t + 0 ≤ 30) (some (z, 1))
set_option maxRecDepth 100000 in
theorem t_L_ends_121 {X : QX} {K : KT} {H0 : Heap} (k : KofQ X K H0 cL_ends "DatalogmillLaw" rm_L_ends 30) {z : ZQ} {m0 : Bool} {t : Nat} {o0 o1 o2 o3 o4 o5 o6 : Option Value}  {out : (ZQ × Int)} (hf : f_L_ends_121 z m0 t = some out) (hc : (fun out : (ZQ × Int) => RetQZ X K H0 cL_ends 30 out.1 out.2) out) : Jj (kAdd K t (6 * t)) (WdQ X H0) z 121 [o0, o1, o2, o3, o4, o5, o6] [] := by
  unfold f_L_ends_121 at hf
  have o : ∀ a b, Ok (kAdd K a b) cL_ends "DatalogmillLaw" rm_L_ends := fun _ _ => OkQ.add k.1
  have g : ∀ a b, GdQ X (kAdd K a b) H0 := fun _ _ => GdQ.add k.2.1
  obtain ⟨ht, hf⟩ := gd_some hf
  refine J_iconst (o _ _) dL_ends_121 ?_
  refine J_goto 126 (o _ _) dL_ends_122 (by decide) ?_
  have hf := some_inj hf
  subst hf
  exact hc _ _ _ (by omega) (Or.inr rfl) dL_ends_126
noncomputable def f_L_ends_98 (z : ZQ) (m0 : Bool) (t : Nat) (x3 : Int) (x4 : Int) : Option (ZQ × Int) :=
  gd (t + 0 ≤ 30) (if x3 = 0 then (some (z, 0)) else (if x4 = 0 then (f_L_ends_121 z m0 t) else (bnd (f_Dm_broken (zg z m0)) fun v5 => bl (zs z m0 v5.1) fun z8 => if v5.2 = 0 then (bnd (f_Dm_repair (zg z8 m0)) fun v11 => bl (zs z8 m0 v11.1) fun z14 => if v11.2 = 0 then (f_L_ends_121 z14 m0 t) else (some (z14, 0))) else (some (z8, 0)))))
set_option maxRecDepth 100000 in
theorem t_L_ends_98 {X : QX} {K : KT} {H0 : Heap} (k : KofQ X K H0 cL_ends "DatalogmillLaw" rm_L_ends 30) {z : ZQ} {m0 : Bool} {t : Nat} {x3 : Int} {x4 : Int} {o1 o2 o5 o6 : Option Value} (r_x3 : R32 x3) (r_x4 : R32 x4) {out : (ZQ × Int)} (hf : f_L_ends_98 z m0 t x3 x4 = some out) (hc : (fun out : (ZQ × Int) => RetQZ X K H0 cL_ends 30 out.1 out.2) out) : Jj (kAdd K t (6 * t)) (WdQ X H0) z 98 [some (rf (X.M m0).ad 1), o1, o2, some (.int (ii x3)), some (.int (ii x4)), o5, o6] [] := by
  unfold f_L_ends_98 at hf
  have o : ∀ a b, Ok (kAdd K a b) cL_ends "DatalogmillLaw" rm_L_ends := fun _ _ => OkQ.add k.1
  have g : ∀ a b, GdQ X (kAdd K a b) H0 := fun _ _ => GdQ.add k.2.1
  obtain ⟨ht, hf⟩ := gd_some hf
  refine J_iload_n (o _ _) dL_ends_98 rfl ?_
  refine J_if_eq 125 (o _ _) dL_ends_99 (by decide) r_x3 (fun c1 => ?_) (fun c2 => ?_)
  · have hf := ite_t c1 hf
    refine J_iconst (o _ _) dL_ends_125 ?_
    have hf := some_inj hf
    subst hf
    exact hc _ _ _ (by omega) (Or.inl rfl) dL_ends_126
  · have hf := ite_f c2 hf
    refine J_iload (o _ _) dL_ends_102 rfl ?_
    refine J_if_eq 121 (o _ _) dL_ends_104 (by decide) r_x4 (fun c3 => ?_) (fun c4 => ?_)
    · have hf := ite_t c3 hf
      exact t_L_ends_121 k  hf hc
    · have hf := ite_f c4 hf
      refine J_aload_n (o _ _) dL_ends_107 rfl ?_
      obtain ⟨v5, e6, hf⟩ := bnd_some hf
      refine J_qaI (m := m0) (vs := []) k.1 k.2.1 k.2.2.1 (by omega) dL_ends_108 lkL_183 ml_Dm_broken vl_Dm_broken ⟨rfl, rfl, Nat.le_of_ble_eq_true rfl, Nat.le_of_ble_eq_true rfl⟩ (c_Dm_broken k.2.1.2.1.inj e6) kA_1 rfl ⟨by decide, by decide⟩ rfl rfl c1s_0 (fun q7 => ?_)
      have hf := bl_out hf
      refine J_if_ne 125 (o _ _) dL_ends_111 (by decide) q7 (fun c9 => ?_) (fun c10 => ?_)
      · have hf := ite_f c9 hf
        refine J_iconst (o _ _) dL_ends_125 ?_
        have hf := some_inj hf
        subst hf
        exact hc _ _ _ (by omega) (Or.inl rfl) dL_ends_126
      · have hf := ite_t c10 hf
        refine J_aload_n (o _ _) dL_ends_114 rfl ?_
        obtain ⟨v11, e12, hf⟩ := bnd_some hf
        refine J_qaI (m := m0) (vs := []) k.1 k.2.1 k.2.2.1 (by omega) dL_ends_115 lkL_191 ml_Dm_repair vl_Dm_repair ⟨rfl, rfl, Nat.le_of_ble_eq_true rfl, Nat.le_of_ble_eq_true rfl⟩ (c_Dm_repair k.2.1.2.1.inj e12) kA_1 rfl ⟨by decide, by decide⟩ rfl rfl c1s_0 (fun q13 => ?_)
        have hf := bl_out hf
        refine J_if_ne 125 (o _ _) dL_ends_118 (by decide) q13 (fun c15 => ?_) (fun c16 => ?_)
        · have hf := ite_f c15 hf
          refine J_iconst (o _ _) dL_ends_125 ?_
          have hf := some_inj hf
          subst hf
          exact hc _ _ _ (by omega) (Or.inl rfl) dL_ends_126
        · have hf := ite_t c16 hf
          exact t_L_ends_121 k  hf hc
noncomputable def f_L_ends_91 (z : ZQ) (m0 : Bool) (t : Nat) (x2 : Int) (x4 : Int) (x5 : Int) (s0 : Int) : Option ((ZQ × Nat × Int × Int × Int) ⊕ (ZQ × Int)) :=
  gd (t + 0 ≤ 30) (bl (wr (x5 + 1)) fun n1 => some (Sum.inl (z, t, s0, x4, n1)))
set_option maxRecDepth 100000 in
theorem t_L_ends_91 {X : QX} {K : KT} {H0 : Heap} (k : KofQ X K H0 cL_ends "DatalogmillLaw" rm_L_ends 30) {z : ZQ} {m0 : Bool} {t : Nat} {x2 : Int} {x4 : Int} {x5 : Int} {s0 : Int} {o3 o6 : Option Value} (r_x2 : R32 x2) (r_x4 : R32 x4) (r_x5 : R32 x5) (r_s0 : R32 s0) {out : ((ZQ × Nat × Int × Int × Int) ⊕ (ZQ × Int))} (hf : f_L_ends_91 z m0 t x2 x4 x5 s0 = some out) (hc : (Sum.elim (HW_L_ends_21 X K H0 m0 x2) (fun out : (ZQ × Int) => RetQZ X K H0 cL_ends 30 out.1 out.2)) out) : Jj (kAdd K t (6 * t)) (WdQ X H0) z 91 [some (rf (X.M m0).ad 1), some (.ref X.oa), some (.int (ii x2)), o3, some (.int (ii x4)), some (.int (ii x5)), o6] [.int (ii s0)] := by
  unfold f_L_ends_91 at hf
  have o : ∀ a b, Ok (kAdd K a b) cL_ends "DatalogmillLaw" rm_L_ends := fun _ _ => OkQ.add k.1
  have g : ∀ a b, GdQ X (kAdd K a b) H0 := fun _ _ => GdQ.add k.2.1
  obtain ⟨ht, hf⟩ := gd_some hf
  refine J_istore_n (o _ _) dL_ends_91 (Nat.le_of_ble_eq_true rfl) ?_
  have hf := bl_out hf
  refine J_iinc (o _ _) dL_ends_92 rfl ?_
  refine J_goto 21 (o _ _) dL_ends_95 (by decide) ?_
  have hf := some_inj hf
  subst hf
  exact hc r_s0 r_x4 (R_wr _) _
noncomputable def f_L_ends_86 (z : ZQ) (m0 : Bool) (t : Nat) (x2 : Int) (x4 : Int) (x5 : Int) : Option ((ZQ × Nat × Int × Int × Int) ⊕ (ZQ × Int)) :=
  gd (t + 0 ≤ 30) (f_L_ends_91 z m0 t x2 x4 x5 1)
set_option maxRecDepth 100000 in
theorem t_L_ends_86 {X : QX} {K : KT} {H0 : Heap} (k : KofQ X K H0 cL_ends "DatalogmillLaw" rm_L_ends 30) {z : ZQ} {m0 : Bool} {t : Nat} {x2 : Int} {x4 : Int} {x5 : Int} {o3 o6 : Option Value} (r_x2 : R32 x2) (r_x4 : R32 x4) (r_x5 : R32 x5) {out : ((ZQ × Nat × Int × Int × Int) ⊕ (ZQ × Int))} (hf : f_L_ends_86 z m0 t x2 x4 x5 = some out) (hc : (Sum.elim (HW_L_ends_21 X K H0 m0 x2) (fun out : (ZQ × Int) => RetQZ X K H0 cL_ends 30 out.1 out.2)) out) : Jj (kAdd K t (6 * t)) (WdQ X H0) z 86 [some (rf (X.M m0).ad 1), some (.ref X.oa), some (.int (ii x2)), o3, some (.int (ii x4)), some (.int (ii x5)), o6] [] := by
  unfold f_L_ends_86 at hf
  have o : ∀ a b, Ok (kAdd K a b) cL_ends "DatalogmillLaw" rm_L_ends := fun _ _ => OkQ.add k.1
  have g : ∀ a b, GdQ X (kAdd K a b) H0 := fun _ _ => GdQ.add k.2.1
  obtain ⟨ht, hf⟩ := gd_some hf
  refine J_iconst (o _ _) dL_ends_86 ?_
  refine J_goto 91 (o _ _) dL_ends_87 (by decide) ?_
  exact t_L_ends_91 k r_x2 r_x4 r_x5 rl1 hf hc
noncomputable def f_L_ends_72 (z : ZQ) (m0 : Bool) (t : Nat) (x2 : Int) (x5 : Int) (x6 : Int) (s0 : Int) : Option ((ZQ × Nat × Int × Int × Int) ⊕ (ZQ × Int)) :=
  gd (t + 0 ≤ 30) (if 0 ≤ x6 then (f_L_ends_86 z m0 t x2 s0 x5) else (if x6 = (-2000000003) then (f_L_ends_86 z m0 t x2 s0 x5) else (f_L_ends_91 z m0 t x2 s0 x5 0)))
set_option maxRecDepth 100000 in
theorem t_L_ends_72 {X : QX} {K : KT} {H0 : Heap} (k : KofQ X K H0 cL_ends "DatalogmillLaw" rm_L_ends 30) {z : ZQ} {m0 : Bool} {t : Nat} {x2 : Int} {x5 : Int} {x6 : Int} {s0 : Int} {o3 o4 : Option Value} (r_x2 : R32 x2) (r_x5 : R32 x5) (r_x6 : R32 x6) (r_s0 : R32 s0) {out : ((ZQ × Nat × Int × Int × Int) ⊕ (ZQ × Int))} (hf : f_L_ends_72 z m0 t x2 x5 x6 s0 = some out) (hc : (Sum.elim (HW_L_ends_21 X K H0 m0 x2) (fun out : (ZQ × Int) => RetQZ X K H0 cL_ends 30 out.1 out.2)) out) : Jj (kAdd K t (6 * t)) (WdQ X H0) z 72 [some (rf (X.M m0).ad 1), some (.ref X.oa), some (.int (ii x2)), o3, o4, some (.int (ii x5)), some (.int (ii x6))] [.int (ii s0)] := by
  unfold f_L_ends_72 at hf
  have o : ∀ a b, Ok (kAdd K a b) cL_ends "DatalogmillLaw" rm_L_ends := fun _ _ => OkQ.add k.1
  have g : ∀ a b, GdQ X (kAdd K a b) H0 := fun _ _ => GdQ.add k.2.1
  obtain ⟨ht, hf⟩ := gd_some hf
  refine J_istore (o _ _) dL_ends_72 (Nat.le_of_ble_eq_true rfl) ?_
  refine J_iload (o _ _) dL_ends_74 rfl ?_
  refine J_if_ge 86 (o _ _) dL_ends_76 (by decide) r_x6 (fun c1 => ?_) (fun c2 => ?_)
  · have hf := ite_t c1 hf
    exact t_L_ends_86 k r_x2 r_s0 r_x5 hf hc
  · have hf := ite_f c2 hf
    refine J_iload (o _ _) dL_ends_79 rfl ?_
    refine J_ldc (o _ _) dL_ends_81 kcL_21 ?_
    refine J_icmp_ne 90 (o _ _) dL_ends_83 (by decide) r_x6 rlm2000000003 (fun c3 => ?_) (fun c4 => ?_)
    · have hf := ite_f c3 hf
      refine J_iconst (o _ _) dL_ends_90 ?_
      exact t_L_ends_91 k r_x2 r_s0 r_x5 rl0 hf hc
    · have hf := ite_t c4 hf
      exact t_L_ends_86 k r_x2 r_s0 r_x5 hf hc
noncomputable def f_L_ends_58 (z : ZQ) (m0 : Bool) (t : Nat) (x2 : Int) (x5 : Int) (s0 : Int) : Option ((ZQ × Nat × Int × Int × Int) ⊕ (ZQ × Int)) :=
  gd (t + 0 ≤ 30) (if s0 = (-2000000003) then (f_L_ends_72 z m0 t x2 x5 s0 0) else (f_L_ends_72 z m0 t x2 x5 s0 1))
set_option maxRecDepth 100000 in
theorem t_L_ends_58 {X : QX} {K : KT} {H0 : Heap} (k : KofQ X K H0 cL_ends "DatalogmillLaw" rm_L_ends 30) {z : ZQ} {m0 : Bool} {t : Nat} {x2 : Int} {x5 : Int} {s0 : Int} {o3 o4 o6 : Option Value} (r_x2 : R32 x2) (r_x5 : R32 x5) (r_s0 : R32 s0) {out : ((ZQ × Nat × Int × Int × Int) ⊕ (ZQ × Int))} (hf : f_L_ends_58 z m0 t x2 x5 s0 = some out) (hc : (Sum.elim (HW_L_ends_21 X K H0 m0 x2) (fun out : (ZQ × Int) => RetQZ X K H0 cL_ends 30 out.1 out.2)) out) : Jj (kAdd K t (6 * t)) (WdQ X H0) z 58 [some (rf (X.M m0).ad 1), some (.ref X.oa), some (.int (ii x2)), o3, o4, some (.int (ii x5)), o6] [.int (ii s0)] := by
  unfold f_L_ends_58 at hf
  have o : ∀ a b, Ok (kAdd K a b) cL_ends "DatalogmillLaw" rm_L_ends := fun _ _ => OkQ.add k.1
  have g : ∀ a b, GdQ X (kAdd K a b) H0 := fun _ _ => GdQ.add k.2.1
  obtain ⟨ht, hf⟩ := gd_some hf
  refine J_istore (o _ _) dL_ends_58 (Nat.le_of_ble_eq_true rfl) ?_
  refine J_iload (o _ _) dL_ends_60 rfl ?_
  refine J_ldc (o _ _) dL_ends_62 kcL_21 ?_
  refine J_icmp_eq 71 (o _ _) dL_ends_64 (by decide) r_s0 rlm2000000003 (fun c1 => ?_) (fun c2 => ?_)
  · have hf := ite_t c1 hf
    refine J_iconst (o _ _) dL_ends_71 ?_
    exact t_L_ends_72 k r_x2 r_x5 r_s0 rl0 hf hc
  · have hf := ite_f c2 hf
    refine J_iconst (o _ _) dL_ends_67 ?_
    refine J_goto 72 (o _ _) dL_ends_68 (by decide) ?_
    exact t_L_ends_72 k r_x2 r_x5 r_s0 rl1 hf hc
noncomputable def f_L_ends_21B (z : ZQ) (m0 : Bool) (t : Nat) (x2 : Int) (x3 : Int) (x4 : Int) (x5 : Int) : Option ((ZQ × Nat × Int × Int × Int) ⊕ (ZQ × Int)) :=
  gd (t + 1 ≤ 30) (if (z.2.2 0) ≤ x5 then (bnd (f_L_ends_98 z m0 t x3 x4) fun y4 => some (Sum.inr y4)) else (if x3 = 0 then (bnd (f_L_ends_98 z m0 t x3 x4) fun y7 => some (Sum.inr y7)) else (if x4 = 0 then (bnd (f_L_ends_98 z m0 t x3 x4) fun y10 => some (Sum.inr y10)) else (if (iand (ishr x2 x5) 1) = 1 then (bnd (f_L_drops z m0 x5) fun v13 => f_L_ends_58 v13.1 m0 (t + 1) x2 x5 v13.2) else (f_L_ends_58 z m0 t x2 x5 0)))))
set_option maxRecDepth 100000 in
theorem t_L_ends_21B {X : QX} {K : KT} {H0 : Heap} (k : KofQ X K H0 cL_ends "DatalogmillLaw" rm_L_ends 30) {z : ZQ} {m0 : Bool} {t : Nat} {x2 : Int} {x3 : Int} {x4 : Int} {x5 : Int} {o6 : Option Value} (r_x2 : R32 x2) (r_x3 : R32 x3) (r_x4 : R32 x4) (r_x5 : R32 x5) {out : ((ZQ × Nat × Int × Int × Int) ⊕ (ZQ × Int))} (hf : f_L_ends_21B z m0 t x2 x3 x4 x5 = some out) (hc : (Sum.elim (HW_L_ends_21 X K H0 m0 x2) (fun out : (ZQ × Int) => RetQZ X K H0 cL_ends 30 out.1 out.2)) out) : Jj (kAdd K t (6 * t)) (WdQ X H0) z 21 [some (rf (X.M m0).ad 1), some (.ref X.oa), some (.int (ii x2)), some (.int (ii x3)), some (.int (ii x4)), some (.int (ii x5)), o6] [] := by
  unfold f_L_ends_21B at hf
  have o : ∀ a b, Ok (kAdd K a b) cL_ends "DatalogmillLaw" rm_L_ends := fun _ _ => OkQ.add k.1
  have g : ∀ a b, GdQ X (kAdd K a b) H0 := fun _ _ => GdQ.add k.2.1
  obtain ⟨ht, hf⟩ := gd_some hf
  refine J_iload (o _ _) dL_ends_21 rfl ?_
  refine J_aldO_n (o _ _) dL_ends_23 rfl ?_
  refine J_iconst (o _ _) dL_ends_24 ?_
  refine J_nld (o _ _) (g _ _) dL_ends_25 rl0 ⟨by decide, by decide⟩ (fun q1 => ?_)
  refine J_icmp_ge 98 (o _ _) dL_ends_26 (by decide) r_x5 q1 (fun c2 => ?_) (fun c3 => ?_)
  · have hf := ite_t c2 hf
    obtain ⟨y4, hf1, hf⟩ := bnd_some hf
    have hf := some_inj hf
    subst hf
    exact t_L_ends_98 k r_x3 r_x4 hf1 hc
  · have hf := ite_f c3 hf
    refine J_iload_n (o _ _) dL_ends_29 rfl ?_
    refine J_if_eq 98 (o _ _) dL_ends_30 (by decide) r_x3 (fun c5 => ?_) (fun c6 => ?_)
    · have hf := ite_t c5 hf
      obtain ⟨y7, hf1, hf⟩ := bnd_some hf
      have hf := some_inj hf
      subst hf
      exact t_L_ends_98 k r_x3 r_x4 hf1 hc
    · have hf := ite_f c6 hf
      refine J_iload (o _ _) dL_ends_33 rfl ?_
      refine J_if_eq 98 (o _ _) dL_ends_35 (by decide) r_x4 (fun c8 => ?_) (fun c9 => ?_)
      · have hf := ite_t c8 hf
        obtain ⟨y10, hf1, hf⟩ := bnd_some hf
        have hf := some_inj hf
        subst hf
        exact t_L_ends_98 k r_x3 r_x4 hf1 hc
      · have hf := ite_f c9 hf
        refine J_iload_n (o _ _) dL_ends_38 rfl ?_
        refine J_iload (o _ _) dL_ends_39 rfl ?_
        refine J_ishr (o _ _) dL_ends_41 ?_
        refine J_iconst (o _ _) dL_ends_42 ?_
        refine J_iand (o _ _) dL_ends_43 ?_
        refine J_iconst (o _ _) dL_ends_44 ?_
        refine J_icmp_ne 57 (o _ _) dL_ends_45 (by decide) (R_iand _ _) rl1 (fun c11 => ?_) (fun c12 => ?_)
        · have hf := ite_f c11 hf
          refine J_iconst (o _ _) dL_ends_57 ?_
          exact t_L_ends_58 k r_x2 r_x5 rl0 hf hc
        · have hf := ite_t c12 hf
          refine J_aload_n (o _ _) dL_ends_48 rfl ?_
          refine J_iload (o _ _) dL_ends_49 rfl ?_
          obtain ⟨v13, e14, hf⟩ := bnd_some hf
          refine J_qW (np := 2) k.1 k.2.1 k.2.2.1 (by omega) dL_ends_51 mw814 mw816 mw815 mw111 ⟨by decide +kernel, by decide +kernel, by decide +kernel⟩ ⟨rfl, rfl, Nat.le_of_ble_eq_true rfl, Nat.le_of_ble_eq_true rfl⟩ (c_L_drops k.2.2.2 k.2.1.2.1 r_x5 e14) rfl rfl c1s_0 (fun q15 => ?_)
          refine J_tt (u := (t + 1)) (by omega) ?_
          refine J_goto 58 (o _ _) dL_ends_54 (by decide) ?_
          exact t_L_ends_58 k r_x2 r_x5 q15 hf hc
noncomputable def f_L_ends_21 (z : ZQ) (m0 : Bool) (t : Nat) (x2 : Int) (x3 : Int) (x4 : Int) (x5 : Int) : Option (ZQ × Int) :=
  lp (fun y : (ZQ × Nat × Int × Int × Int) => f_L_ends_21B y.1 m0 y.2.1 x2 y.2.2.1 y.2.2.2.1 y.2.2.2.2) (z, t, x3, x4, x5)
theorem t_L_ends_21 {X : QX} {K : KT} {H0 : Heap} (k : KofQ X K H0 cL_ends "DatalogmillLaw" rm_L_ends 30) {z : ZQ} {m0 : Bool} {t : Nat} {x2 : Int} {x3 : Int} {x4 : Int} {x5 : Int} (r_x2 : R32 x2) {out : (ZQ × Int)} (hf : f_L_ends_21 z m0 t x2 x3 x4 x5 = some out) (hc : (fun out : (ZQ × Int) => RetQZ X K H0 cL_ends 30 out.1 out.2) out) : HW_L_ends_21 X K H0 m0 x2 (z, t, x3, x4, x5) := by
  unfold f_L_ends_21 at hf
  refine lp_ind (P := HW_L_ends_21 X K H0 m0 x2) hf ?_
  intro y o hs h1 h2
  intro r_x3 r_x4 r_x5
  intro o6
  refine t_L_ends_21B k r_x2 r_x3 r_x4 r_x5 hs ?_
  cases o with
  | inl z' => exact h1 z' rfl
  | inr r' => rw [h2 r' rfl]; exact hc
noncomputable def f_L_ends_16 (z : ZQ) (m0 : Bool) (x2 : Int) (x3 : Int) (s0 : Int) : Option (ZQ × Int) :=
  f_L_ends_21 z m0 0 x2 x3 s0 0
set_option maxRecDepth 100000 in
theorem t_L_ends_16 {X : QX} {K : KT} {H0 : Heap} (k : KofQ X K H0 cL_ends "DatalogmillLaw" rm_L_ends 30) {z : ZQ} {m0 : Bool} {x2 : Int} {x3 : Int} {s0 : Int} {o4 o5 o6 : Option Value} (r_x2 : R32 x2) (r_x3 : R32 x3) (r_s0 : R32 s0) {out : (ZQ × Int)} (hf : f_L_ends_16 z m0 x2 x3 s0 = some out) (hc : (fun out : (ZQ × Int) => RetQZ X K H0 cL_ends 30 out.1 out.2) out) : Jj (kAdd K 0 (6 * 0)) (WdQ X H0) z 16 [some (rf (X.M m0).ad 1), some (.ref X.oa), some (.int (ii x2)), some (.int (ii x3)), o4, o5, o6] [.int (ii s0)] := by
  unfold f_L_ends_16 at hf
  have o : ∀ a b, Ok (kAdd K a b) cL_ends "DatalogmillLaw" rm_L_ends := fun _ _ => OkQ.add k.1
  have g : ∀ a b, GdQ X (kAdd K a b) H0 := fun _ _ => GdQ.add k.2.1
  refine J_istore (o _ _) dL_ends_16 (Nat.le_of_ble_eq_true rfl) ?_
  refine J_iconst (o _ _) dL_ends_18 ?_
  refine J_istore (o _ _) dL_ends_19 (Nat.le_of_ble_eq_true rfl) ?_
  exact (t_L_ends_21 k r_x2 hf hc) r_x3 r_s0 rl0 _
noncomputable def f_L_ends (z : ZQ) (m0 : Bool) : Option (ZQ × Int) :=
  bnd (f_Dm_repair (zg z m0)) fun v1 => bl (zs z m0 v1.1) fun z4 => if v1.2 < 0 then (f_L_ends_16 z4 m0 v1.2 1 0) else (f_L_ends_16 z4 m0 v1.2 1 1)
set_option maxRecDepth 100000 in
theorem t_L_ends_0 {X : QX} {K : KT} {H0 : Heap} (k : KofQ X K H0 cL_ends "DatalogmillLaw" rm_L_ends 30) {z : ZQ} {m0 : Bool} {o2 o3 o4 o5 o6 : Option Value}  {out : (ZQ × Int)} (hf : f_L_ends z m0 = some out) (hc : (fun out : (ZQ × Int) => RetQZ X K H0 cL_ends 30 out.1 out.2) out) : Jj (kAdd K 0 (6 * 0)) (WdQ X H0) z 0 [some (rf (X.M m0).ad 1), some (.ref X.oa), o2, o3, o4, o5, o6] [] := by
  unfold f_L_ends at hf
  have o : ∀ a b, Ok (kAdd K a b) cL_ends "DatalogmillLaw" rm_L_ends := fun _ _ => OkQ.add k.1
  have g : ∀ a b, GdQ X (kAdd K a b) H0 := fun _ _ => GdQ.add k.2.1
  refine J_aload_n (o _ _) dL_ends_0 rfl ?_
  obtain ⟨v1, e2, hf⟩ := bnd_some hf
  refine J_qaI (m := m0) (vs := []) k.1 k.2.1 k.2.2.1 (Nat.le_of_ble_eq_true rfl) dL_ends_1 lkL_191 ml_Dm_repair vl_Dm_repair ⟨rfl, rfl, Nat.le_of_ble_eq_true rfl, Nat.le_of_ble_eq_true rfl⟩ (c_Dm_repair k.2.1.2.1.inj e2) kA_1 rfl ⟨by decide, by decide⟩ rfl rfl c1s_0 (fun q3 => ?_)
  have hf := bl_out hf
  refine J_istore_n (o _ _) dL_ends_4 (Nat.le_of_ble_eq_true rfl) ?_
  refine J_iconst (o _ _) dL_ends_5 ?_
  refine J_istore_n (o _ _) dL_ends_6 (Nat.le_of_ble_eq_true rfl) ?_
  refine J_iload_n (o _ _) dL_ends_7 rfl ?_
  refine J_if_lt 15 (o _ _) dL_ends_8 (by decide) q3 (fun c5 => ?_) (fun c6 => ?_)
  · have hf := ite_t c5 hf
    refine J_iconst (o _ _) dL_ends_15 ?_
    exact t_L_ends_16 k q3 rl1 rl0 hf hc
  · have hf := ite_f c6 hf
    refine J_iconst (o _ _) dL_ends_11 ?_
    refine J_goto 16 (o _ _) dL_ends_12 (by decide) ?_
    exact t_L_ends_16 k q3 rl1 rl1 hf hc
theorem c_L_ends {X : QX} {l : Launch} (hst : l.stackTraces = false) (hA : ApQ X) {z : ZQ} {m0 : Bool}  {out : (ZQ × Int)} (hf : f_L_ends z m0 = some out) : ConQ X l yL_ends (WS yL_ends cL_ends 7 (some .boolean)) rm_L_ends [rf (X.M m0).ad 1, .ref X.oa] z out.1 out.2 :=
  con_QZ (by decide +kernel) rfl (Nat.le_of_ble_eq_true rfl) (c1s_r (c1s_a c1s_0 (Nat.le_of_ble_eq_true rfl)) (Nat.le_of_ble_eq_true rfl)).1 ⟨rfl, rfl⟩ hA hst (fun K H0 k hret => t_L_ends_0 k  hf hret)
