/-! THE REFERENCE: costs, one rule's walk -/
def Flg (n : Nat) (κ κ' : Nat → Nat) (x x' : Int) : Prop := (x' = 0 ∧ x = 0 ∧ ∀ s, s < n → κ' s = κ s) ∨ (x' = 1 ∧ (x = 1 ∨ ∃ s, s < n ∧ κ' s < κ s))
theorem Flg.trans {n : Nat} {κ κ1 κ2 : Nat → Nat} {x x1 x2 : Int} (h : Flg n κ κ1 x x1) (h' : Flg n κ1 κ2 x1 x2) (d1 : Dwn n κ κ1) (d2 : Dwn n κ1 κ2) : Flg n κ κ2 x x2 := by
  rcases h' with ⟨a1, a2, a3⟩ | ⟨a1, a2⟩
  · rcases h with ⟨b1, b2, b3⟩ | ⟨b1, b2⟩
    · exact Or.inl ⟨a1, b2, fun s hs => (a3 s hs).trans (b3 s hs)⟩
    · omega
  · refine Or.inr ⟨a1, ?_⟩
    rcases a2 with e | ⟨s, hs, hlt⟩
    · rcases h with ⟨b1, b2, b3⟩ | ⟨b1, b2⟩
      · omega
      · rcases b2 with e2 | ⟨s, hs, hlt⟩
        · exact Or.inl e2
        · exact Or.inr ⟨s, hs, Nat.lt_of_le_of_lt (d2 s hs) hlt⟩
    · exact Or.inr ⟨s, hs, Nat.lt_of_lt_of_le hlt (d1 s hs)⟩
theorem Flg.refl {n : Nat} {κ : Nat → Nat} {x : Int} (h : x = 0 ∨ x = 1) : Flg n κ κ x x := by
  rcases h with e | e
  · exact Or.inl ⟨e, e, fun _ _ => rfl⟩
  · exact Or.inr ⟨e, Or.inl e⟩
theorem Flg.b {n : Nat} {κ κ' : Nat → Nat} {x x' : Int} (h : Flg n κ κ' x x') : x' = 0 ∨ x' = 1 := by
  rcases h with ⟨a, -⟩ | ⟨a, -⟩
  · exact Or.inl a
  · exact Or.inr a
/-- what a walk's find is -/
def FdQ (M : MM) (R : RU) (y : (Nat → Int) × List Nat) : Prop := VV y.1 ∧ Sat M R (sg y.1) ∧ (∀ p, p < R.ln → BdP R y.1 p) ∧ ∀ c, c < 3 → 0 ≤ vl y.1 (R.ht c)
/-- heads of assignments are in the model, by their keys -/
def ClK (D : SH) (RR : RU → Prop) (M : MM) : Prop := ∀ R σ, RR R → Sat M R σ → ∃ m, M R.tg m ∧ kz (D.kq R.tg) (tc σ R.ht) = kz (D.kq R.tg) m
theorem lowB_walk {w : World} {ru M E n r : Nat} {ρ c : Nat → Nat} {FC : Int → Nat → Nat → Prop} {RR : RU → Prop} {C : Int → Nat → Nat} (hru : ru < 12) (hRu : RuBL w ru) (hB : BMod w M n ρ c) (hn : n ≤ 48) (hVC : VCs w n ρ c) (hr : r < 10) (hd : 1 ≤ w 3 r) (htg : (RBB w ru).tg = (r : Int)) (hM : w 1 1 = (M : Int)) (h13 : w 13 ru = 0) (h16 : w 16 ru = (E : Int)) (hht : ∀ c, c < 3 → -8 ≤ (RBB w ru).ht c ∧ (RBB w ru).ht c < 128) (hz : ∀ c : Nat, c < 3 → w 3 r ≤ (c : Int) → (RBB w ru).ht c = 0) (hRR : RR (RBB w ru)) (hcl : ClK (SA w) RR (AM n ρ c)) (hC : CostP (SA w) FC RR (AM n ρ c) C) : ∀ (l : List ((Nat → Int) × List Nat)) (u : World) (κ : Nat → Nat) (x : Int), ItB ru E M l u → FrK w u → VB u → K26 u n κ → OnW (SA w) FC n ρ c C κ → (∀ y, y ∈ l → FdQ (AM n ρ c) (RBB w ru) y) → (x = 0 ∨ x = 1) →
    ∃ u' κ' x', f_Re_findCosts_134 u x (ru : Int) = some (Sum.inl (u', x', ((ru + 1 : Nat) : Int))) ∧ FrK w u' ∧ VB u' ∧ K26 u' n κ' ∧ OnW (SA w) FC n ρ c C κ' ∧ Dwn n κ κ' ∧ (∀ y, y ∈ l → ∀ s, s < n → ρ s = r → kz ((SA w).kq (r : Int)) (c s) = kz ((SA w).kq (r : Int)) (tc (sg y.1) (RBB w ru).ht) → κ' s ≤ 1 + sumH (Ck n ρ c κ) (RBB w ru) (sg y.1)) ∧ Flg n κ κ' x x' := by
  have hT := hRu.2.1
  have e224 : ∀ (u : World) (x : Int), f_Re_findCosts_224 u x (ru : Int) = some (Sum.inl (u, x, ((ru + 1 : Nat) : Int))) := fun u x => by
    unfold f_Re_findCosts_224
    rw [bl_s, wr_of (x := (ru : Int) + 1) ⟨by omega, by omega⟩]
    rfl
  have head : ∀ (u : World) (x : Int), FrK w u → f_Re_findCosts_134B u x (ru : Int) = bnd (f_Re_next u (ru : Int) (E : Int) (M : Int)) fun v10 => if v10.2 = 0 then (bnd (f_Re_findCosts_224 v10.1 x (ru : Int)) fun y14 => some (Sum.inr y14)) else (bnd (f_Re_headValue v10.1 (ru : Int) 0) fun v19 => bnd (f_Re_headValue v10.1 (ru : Int) 1) fun v22 => bnd (f_Re_headValue v10.1 (ru : Int) 2) fun v25 => bnd (f_Re_place v10.1 (v10.1 1 1) (v10.1 14 ru) v19 v22 v25) fun v28 => bnd (f_Re_costOf v10.1 (ru : Int)) fun v31 => bnd (f_Re_lower v10.1 v28 v31) fun v34 => if x = 0 then (if v34.2 = 0 then (f_Re_findCosts_220 v34.1 (ru : Int) 0) else (f_Re_findCosts_215 v34.1 (ru : Int))) else (f_Re_findCosts_215 v34.1 (ru : Int))) := fun u x hF => by
    have g19 : (0 ≤ (ru : Int) ∧ (ru : Int) < 19) := ⟨by omega, by omega⟩
    unfold f_Re_findCosts_134B
    rw [gd_t ⟨by omega, by omega⟩, Int.toNat_natCast, hF.cell (c := 13) (by omega) (by omega), if_pos h13, gd_t g19, hF.cell (c := 16) (by omega) (by omega), h16, hF.f (show 1 ≠ 29 by decide) (by decide), hM]
    refine congrArg (bnd _) (funext fun v10 => ?_)
    rw [gd_t g19]
  intro l
  induction l with
  | nil =>
    intro u κ x hI hF hV hκ hO _ hx
    obtain ⟨u1, q1, q2, q3⟩ := hI
    refine ⟨u1, κ, x, ?_, hF.trans q2.k, q3, fun s hs => by rw [q2 26 s (by decide) (by decide) (by decide) (fun z => by omega)]; exact hκ s hs, hO, Dwn.refl, fun y hy => absurd hy List.not_mem_nil, Flg.refl hx⟩
    unfold f_Re_findCosts_134
    refine lp_out ?_
    show f_Re_findCosts_134B u x (ru : Int) = _
    rw [head u x hF, q1, bnd_s, if_pos rfl, e224, bnd_s]
  | cons a l ih =>
    intro u κ x hI hF hV hκ hO hl hx
    obtain ⟨u1, q1, q2, q3, q4, q5⟩ := hI
    have hF1 := hF.trans q2.k
    have hκ1 : K26 u1 n κ := fun s hs => by rw [q2 26 s (by decide) (by decide) (by decide) (fun z => by omega)]; exact hκ s hs
    obtain ⟨hVa, hSa, hba, hha⟩ := hl a List.mem_cons_self
    have hRB : RBB u1 ru = RBB w ru := hF1.R ru
    have e3 : u1 3 = w 3 := hF1.cell (by omega) (by omega)
    have hT1 : WfT u1 := WfT_congr (fun c a b => hF1.cell (by omega) (by omega)) hT
    have hB1 : BMod u1 M n ρ c := BMod_congr (fun k hk => hF1.cell (by omega) (by omega)) hB
    have hm : tc (sg a.1) (RBB w ru).ht < 2097152 := tc_lt (sg_VA hVa) (fun c hc => (hht c hc).2)
    have hhv : ∀ j : Nat, j < 3 → f_Re_headValue u1 (ru : Int) (j : Int) = some ((clm (tc (sg a.1) (RBB w ru).ht) j : Nat) : Int) := fun j hj => by
      have := headValue_n (w := u1) (ru := ru) (r := r) (j := j) (vs := a.1) (by omega) (by rw [hRB]; exact htg) hr hT1 q4 hVa (by rw [hRB]; exact hht) (by rw [hRB, e3]; exact hz) (by rw [hRB]; exact hha) hj
      rw [hRB] at this
      exact this
    have hVm : Vc u1 r (tc (sg a.1) (RBB w ru).ht) := tc_Vc (sg_VA hVa) hht (by rw [e3]; exact hz)
    obtain ⟨m, ⟨s0, hs0, hρ0, hc0⟩, hkm⟩ := hcl (RBB w ru) (sg a.1) hRR hSa
    rw [htg] at hρ0 hkm
    have hρ0' : ρ s0 = r := by omega
    have hk0 : kz ((SA w).kq (r : Int)) (c s0) = kz ((SA w).kq (r : Int)) (tc (sg a.1) (RBB w ru).ht) := by rw [hc0]; exact hkm.symm
    obtain ⟨v, hv, hv2⟩ := placeB_eq (k := tc (sg a.1) (RBB w ru).ht) (s := s0) hT1 hB1 (VCs_3 e3 hVC) hr (by rw [e3]; exact hd) hm hVm hs0 hρ0' (by rw [hF1.SA]; exact hk0)
    have hvs := hv2.mpr rfl
    obtain ⟨cv, hcv⟩ : ∃ cv, cv = 1 + sumH (Ck n ρ c κ) (RBB w ru) (sg a.1) := ⟨_, rfl⟩
    have hcost := costOfB_n (κ := κ) hF1 hRu hB hn hVC hM q4 hVa hba (fun p hp hf => Sat_in hSa hp hf) hκ1 (fun s hs => (hO s hs).2.1)
    rw [← hcv] at hcost
    have hlow := lowerB_n (v := cv) hκ1 hs0 hn
    have hbody : f_Re_findCosts_134B u x (ru : Int) = bnd (f_Re_lower u1 (s0 : Int) (cv : Int)) fun v34 => if x = 0 then (if v34.2 = 0 then (f_Re_findCosts_220 v34.1 (ru : Int) 0) else (f_Re_findCosts_215 v34.1 (ru : Int))) else (f_Re_findCosts_215 v34.1 (ru : Int)) := by
      have k0 : f_Re_headValue u1 (ru : Int) 0 = _ := hhv 0 (by omega)
      have k1 : f_Re_headValue u1 (ru : Int) 1 = _ := hhv 1 (by omega)
      have k2 : f_Re_headValue u1 (ru : Int) 2 = _ := hhv 2 (by omega)
      have e11 : u1 1 1 = (M : Int) := by rw [hF1.f (by decide) (by decide)]; exact hM
      have e14 : u1 14 ru = (r : Int) := by rw [hF1.cell (by omega) (by omega)]; exact htg
      rw [head u x hF, q1, bnd_s, if_neg z10]
      show bnd (f_Re_headValue u1 (ru : Int) 0) _ = _
      rw [k0, bnd_s]
      show bnd (f_Re_headValue u1 (ru : Int) 1) _ = _
      rw [k1, bnd_s]
      show bnd (f_Re_headValue u1 (ru : Int) 2) _ = _
      rw [k2, bnd_s]
      show bnd (f_Re_place u1 (u1 1 1) (u1 14 ru) _ _ _) _ = _
      rw [e11, e14, hv, bnd_s]
      show bnd (f_Re_costOf u1 (ru : Int)) _ = _
      rw [hcost, bnd_s, hvs]
    have fin : ∀ (u2 : World) (κ1 : Nat → Nat) (x1 : Int), f_Re_findCosts_134B u x (ru : Int) = some (Sum.inl (u2, x1)) → FrK w u2 → GBw u1 u2 → VB u2 → K26 u2 n κ1 → OnW (SA w) FC n ρ c C κ1 → Dwn n κ κ1 → κ1 s0 ≤ cv → Flg n κ κ1 x x1 → ∃ u' κ' x', f_Re_findCosts_134 u x (ru : Int) = some (Sum.inl (u', x', ((ru + 1 : Nat) : Int))) ∧ FrK w u' ∧ VB u' ∧ K26 u' n κ' ∧ OnW (SA w) FC n ρ c C κ' ∧ Dwn n κ κ' ∧ (∀ y, y ∈ a :: l → ∀ s, s < n → ρ s = r → kz ((SA w).kq (r : Int)) (c s) = kz ((SA w).kq (r : Int)) (tc (sg y.1) (RBB w ru).ht) → κ' s ≤ 1 + sumH (Ck n ρ c κ) (RBB w ru) (sg y.1)) ∧ Flg n κ κ' x x' := fun u2 κ1 x1 f1 f2 f3 f4 f5 f6 f7 f8 f9 => by
      obtain ⟨u', κ', x', p1, p2, p3, p4, p5, p6, p7, p8⟩ := ih u2 κ1 x1 (q5 u2 f3) f2 f4 f5 f6 (fun y hy => hl y (List.mem_cons_of_mem _ hy)) f9.b
      refine ⟨u', κ', x', ?_, p2, p3, p4, p5, f7.trans p6, fun y hy s hs hρs hks => ?_, f9.trans p8 f7 p6⟩
      · rw [← p1]
        unfold f_Re_findCosts_134
        exact lp_step (F := fun z : (World × Int) => f_Re_findCosts_134B z.1 z.2 (ru : Int)) (s := (u, x)) f1
      · rcases List.mem_cons.mp hy with e | hy
        · rw [e] at hks ⊢
          have es : s = s0 := KuQ_B hB s0 s hs0 hs (by omega) (by rw [hρ0', hk0, hks])
          rw [es, ← hcv]
          exact Nat.le_trans (p6 s0 hs0) f8
        · have h1 := p7 y hy s hs hρs hks
          have h2 := Ck_le (SuQ_B hB) (hl y (List.mem_cons_of_mem _ hy)).2.1 f7
          omega
    by_cases q : κ s0 ≤ cv
    · refine fin u1 κ x ?_ hF1 GBw.refl q3 hκ1 hO Dwn.refl q (Flg.refl hx)
      rw [hbody, hlow, if_pos q, bnd_s]
      unfold f_Re_findCosts_215 f_Re_findCosts_220
      rcases hx with e | e
      · rw [e, if_pos rfl, if_pos rfl]
      · rw [e, if_neg z10]
    · have hO1 := OnW_low (SuQ_B hB) hC hO hRR hSa hs0 (by rw [htg]; exact hρ0) (by rw [htg]; exact hk0) (by omega)
      rw [← hcv] at hO1
      refine fin (up u1 26 s0 (cv : Int)) (upn κ s0 cv) 1 ?_ (hF1.trans FrK.u26) (fun c0 k a1 _ _ _ => by unfold up; rw [if_neg (fun z => a1 z.1)]) (fun v hv => ?_) (K26_low hκ1) hO1 (Dwn_low (by omega)) (by rw [upn_eq]; exact Nat.le_refl _) (Or.inr ⟨rfl, Or.inr ⟨s0, hs0, by rw [upn_eq]; omega⟩⟩)
      · rw [hbody, hlow, if_neg q, bnd_s]
        unfold f_Re_findCosts_215 f_Re_findCosts_220
        by_cases e : x = 0
        · rw [if_pos e, if_neg z10]
        · rw [if_neg e]
      · have e24 : up u1 26 s0 (cv : Int) 24 v = u1 24 v := by simp [up]
        have e23 : up u1 26 s0 (cv : Int) 23 v = u1 23 v := by simp [up]
        rw [e24] at hv
        rw [e23]
        exact q3 v hv
