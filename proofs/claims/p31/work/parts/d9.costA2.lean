/-! THE CLASS: costs, all rules, round by round; the facts; the whole -/
def CsA (w : World) (nF mm now t N : Nat) (L : Nat → Nat) (ρ c : Nat → Nat) (Lc : Nat → List Nat) (C : Int → Nat → Nat) : Prop :=
  (AMod w t N ρ c Lc ∧ VCs w N ρ c ∧ WfS w) ∧ (PgA w mm ∧ ∀ i, i < mm → SafeL (RB w (22 + 4 * i)) ∧ SafeH (RB w (22 + 4 * i)) ∧ Few (RB w (22 + 4 * i))) ∧ (f_Dm_present w = some t ∧ kdA t = 6 ∧ w 1 12 = (now : Int)) ∧ Least (SA w) (lvf L) (FFA nF w (now : Int) 0) (RrA mm w) (AM N ρ c) ∧ CostP (SA w) (FCA nF w (now : Int)) (RrA mm w) (AM N ρ c) C ∧ FaW nF w ∧ ∀ f, f < nF → 1 ≤ w 10 f ∧ w 10 f ≤ 100
theorem lowA_rules {w : World} {nF mm now t N : Nat} {L : Nat → Nat} {ρ c : Nat → Nat} {Lc : Nat → List Nat} {C : Int → Nat → Nat} (h : CsA w nF mm now t N L ρ c Lc C) : ∀ (j kk : Nat) (u : World) (κ : Nat → Nat) (x : Int), kk + j = mm → FrC w u → VV (u 104) → K151 u N κ → OnW (SA w) (FCA nF w (now : Int)) N ρ c C κ → (x = 0 ∨ x = 1) →
    ∃ u' κ' x', f_Dm_lowerByRules_4 u x (kk : Int) = some (u', x') ∧ FrC w u' ∧ VV (u' 104) ∧ K151 u' N κ' ∧ OnW (SA w) (FCA nF w (now : Int)) N ρ c C κ' ∧ Dwn N κ κ' ∧ (∀ i, kk ≤ i → i < mm → w (22 + 4 * i) 2 = 0 → ∀ σ s, Sat (AM N ρ c) (RB w (22 + 4 * i)) σ → s < N → (ρ s : Int) = (RB w (22 + 4 * i)).tg → kz ((SA w).kq (RB w (22 + 4 * i)).tg) (c s) = kz ((SA w).kq (RB w (22 + 4 * i)).tg) (tc σ (RB w (22 + 4 * i)).ht) → κ' s ≤ 1 + sumH (Ck N ρ c κ) (RB w (22 + 4 * i)) σ) ∧ Flg N κ κ' x x' := by
  obtain ⟨⟨b1, b2, b3⟩, ⟨⟨p0, p1, p2, p3, p5⟩, p4⟩, ⟨hpr, hkt, hnow⟩, hL, hC, hF1, hF2⟩ := h
  intro j
  induction j with
  | zero =>
    intro kk u κ x hj hF hV hκ hO hx
    refine ⟨u, κ, x, ?_, hF, hV, hκ, hO, Dwn.refl, fun i h1 h2 => by omega, Flg.refl hx⟩
    unfold f_Dm_lowerByRules_4
    refine lp_out ?_
    show f_Dm_lowerByRules_4B u x (kk : Int) = _
    unfold f_Dm_lowerByRules_4B
    rw [hF 14 (by omega) (by omega) (by omega), p1, if_pos (by omega), gd_t hx]
  | succ j ih =>
    intro kk u κ x hj hF hV hκ hO hx
    have hkm : kk < mm := by omega
    have hk12 : kk < 12 := by omega
    obtain ⟨r1, r2, ⟨r, hr, htg⟩⟩ := p5 kk hkm
    obtain ⟨s1, s2, s3⟩ := p4 kk hkm
    have hkd : kdA (22 + 4 * kk) = 1 := kd_rule kk hk12
    obtain ⟨b, hbd⟩ : ∃ b, b = 22 + 4 * kk := ⟨_, rfl⟩
    rw [← hbd] at r1 r2 htg s1 s2 s3 hkd
    have hb1 := kd1 hkd
    have hRBu : RB u b = RB w b := hF.R hkd
    have hub0 : u b 0 = ((RB w b).ln : Int) := by rw [hF b (by omega) (by omega) (by omega)]; exact r1
    have hrl : f_Pr_rule u (kk : Int) = some b := by rw [hbd]; exact rule_n hk12 (by rw [hF 19 (by omega) (by omega) (by omega)]; exact p3 kk hk12)
    have hpru := present_c (w' := u) (fun c hc => hF c (by omega) (by omega) (by omega)) hpr
    have hbody : f_Dm_lowerByRules_4B u x (kk : Int) = f_Dm_lowerByRules_43 (bg u b t (RB w b).ln) x (kk : Int) b 0 := by
      unfold f_Dm_lowerByRules_4B
      rw [hF 14 (by omega) (by omega) (by omega), p1, if_neg (by omega), hrl, bnd_s, hpru, bnd_s, gd_t hkd, gd_t hkt, hub0, begin_n, bnd_s]
    have hsv : setV (bg u b t (RB w b).ln) (vk u 8) = bg u b t (RB w b).ln := by
      rw [← bg_V (w := u) (b := b) (t := t) (E := (RB w b).ln), setV_self]
    have hVk : VV (vk u 8) := by
      intro v
      unfold vk
      split
      · omega
      · exact hV v
    have hFb : FrC u (bg u b t (RB w b).ln) := fun c0 z _ _ => bg_fr (by omega) (by omega)
    have hF' := hF.trans hFb
    have hκb : K151 (bg u b t (RB w b).ln) N κ := fun s hs => by rw [bg_fr (by omega) (by omega)]; exact hκ s hs
    have go : ∀ (u1 : World) (κ1 : Nat → Nat) (x1 : Int), f_Dm_lowerByRules_43 (bg u b t (RB w b).ln) x (kk : Int) b 0 = some (Sum.inl (u1, x1, ((kk + 1 : Nat) : Int))) → FrC w u1 → VV (u1 104) → K151 u1 N κ1 → OnW (SA w) (FCA nF w (now : Int)) N ρ c C κ1 → Dwn N κ κ1 → Flg N κ κ1 x x1 → (w b 2 = 0 → ∀ σ s, Sat (AM N ρ c) (RB w b) σ → s < N → (ρ s : Int) = (RB w b).tg → kz ((SA w).kq (RB w b).tg) (c s) = kz ((SA w).kq (RB w b).tg) (tc σ (RB w b).ht) → κ1 s ≤ 1 + sumH (Ck N ρ c κ) (RB w b) σ) → ∃ u' κ' x', f_Dm_lowerByRules_4 u x (kk : Int) = some (u', x') ∧ FrC w u' ∧ VV (u' 104) ∧ K151 u' N κ' ∧ OnW (SA w) (FCA nF w (now : Int)) N ρ c C κ' ∧ Dwn N κ κ' ∧ (∀ i, kk ≤ i → i < mm → w (22 + 4 * i) 2 = 0 → ∀ σ s, Sat (AM N ρ c) (RB w (22 + 4 * i)) σ → s < N → (ρ s : Int) = (RB w (22 + 4 * i)).tg → kz ((SA w).kq (RB w (22 + 4 * i)).tg) (c s) = kz ((SA w).kq (RB w (22 + 4 * i)).tg) (tc σ (RB w (22 + 4 * i)).ht) → κ' s ≤ 1 + sumH (Ck N ρ c κ) (RB w (22 + 4 * i)) σ) ∧ Flg N κ κ' x x' := fun u1 κ1 x1 g1 g2 g3 g4 g5 g6 g7 g8 => by
      obtain ⟨u', κ', x', q1, q2, q3, q4, q5, q6, q7, q8⟩ := ih (kk + 1) u1 κ1 x1 (by omega) g2 g3 g4 g5 g7.b
      refine ⟨u', κ', x', ?_, q2, q3, q4, q5, g6.trans q6, fun i i1 i2 i3 σ s hS hs hρ hk => ?_, g7.trans q8 g6 q6⟩
      · rw [← q1]
        unfold f_Dm_lowerByRules_4
        exact lp_step (F := fun z : (World × Int × Int) => f_Dm_lowerByRules_4B z.1 z.2.1 z.2.2) (s := (u, x, (kk : Int))) (hbody.trans g1)
      · by_cases e : i = kk
        · subst e
          rw [← hbd] at i3 hS hρ hk ⊢
          exact Nat.le_trans (q6 s hs) (g8 i3 σ s hS hs hρ hk)
        · have h1 := q7 i (by omega) i2 i3 σ s hS hs hρ hk
          have h2 := Ck_le (SuQ_A b1) hS g6
          omega
    by_cases act : w b 2 = 0
    · have hd : 1 ≤ w 3 r := by
        have := r2.2.2.2.2.1.1
        rw [htg, SA_co hr] at this
        omega
      have hRd : RdA w b t r N ρ c Lc := ⟨⟨hkd, hkt, hpr⟩, ⟨b3, b1, b2⟩, ⟨hr, hd⟩, ⟨r2, s1, s3⟩, r1, htg, act⟩
      obtain ⟨hIt, hCQ, hQ, hlen⟩ := walkA_it (w := u) (t := t) (E := (RB w b).ln) (v0 := vk u 8) hkd hkt (WfS_congr (fun c0 z y k => by rw [hF c0 (by omega) (by omega) (by omega)]) b3) (hF.M hkt b1) (by rw [hRBu, hF.SA]; exact r2.L) (by rw [hRBu]; exact s1) (by rw [hRBu]; exact s3) (by rw [hRBu]; exact Nat.le_refl _) hVk
      rw [hsv, hRBu, hF.SA] at hIt
      rw [hRBu] at hCQ
      rw [hRBu, hF.SA] at hQ hlen
      have hSl := SlQ_A b1 b2
      have hHQ : ∀ y, y ∈ en (oq (SA w) (AM N ρ c) (RB w b) ρ c) (cq (RB w b) Lc) (RB w b).ln 0 (vk u 8) [] → HQ (RB w b) N ρ c (vk u 8) (RB w b).ln y.1 y.2 := fun y hy => En_HQ hQ hSl hCQ (RB w b).ln 0 (vk u 8) [] y (by omega) (HQ.zero hVk) ((mem_en _ _ _ _ _).mp hy)
      have hfd : ∀ y, y ∈ en (oq (SA w) (AM N ρ c) (RB w b) ρ c) (cq (RB w b) Lc) (RB w b).ln 0 (vk u 8) [] → FdQ (AM N ρ c) (RB w b) y ∧ AllP (PvQ (RB w b) N ρ c y.1) y.2 ∧ y.2.length = (RB w b).ln := fun y hy => by
        obtain ⟨q1, q2, q3, q4, q5, -⟩ := hHQ y hy
        exact ⟨⟨q1, ⟨sg_VA q1, fun p hp => (q4 p hp).2⟩, fun p hp => (q4 p hp).1, fun c hc => hdB_cov s2 (fun j c' hj hc' _ => (q4 j hj).1 c' hc') hc⟩, q5, q3⟩
      have hub : ((bg u b t (RB w b).ln) 103 1).toNat = b := by
        have : bg u b t (RB w b).ln 103 1 = (b : Int) := by unfold bg; simp [up, setV]
        rw [this, Int.toNat_natCast]
      obtain ⟨u1, κ1, x1, t1, t2, t3, t4, t5, t6, t7, t8, -⟩ := lowA_walk hk12 hRd ⟨kk, hkm, by show w (22 + 4 * kk) 2 = 0; rw [← hbd]; exact act, by show RB w (22 + 4 * kk) = _; rw [← hbd]⟩ hL.clk hC _ (bg u b t (RB w b).ln) κ x 0 hIt hF' hub hκb hO hfd hx (by omega)
      refine go u1 κ1 x1 t1 t2 t3 t4 t5 t6 t8 (fun _ σ s hS hs hρ hk => ?_)
      obtain ⟨y, hy, hKy⟩ := En_ex hQ hCQ hS.1 (fun p hp => hS.2 p hp) (RB w b).ln 0 (vk u 8) [] (by omega) hVk (fun j c' hj => absurd hj (Nat.not_lt_zero j)) (fun v hv hne => by unfold vk at hne; rw [if_pos hv] at hne; exact absurd rfl hne)
      have hym := (mem_en _ _ _ _ _).mpr hy
      obtain ⟨⟨f1, f2, f3, f4⟩, -⟩ := hfd y hym
      have hcov : CovQ (RB w b) (RB w b).ln y.1 := fun j c' hj hc' _ => f3 j hj c' hc'
      rw [htg] at hρ hk
      have := t7 y hym s hs (by omega) (by rw [hdB_cons s2 hcov hKy (fun c hc => (r2.2.2.2.2.2.2 c hc).1)]; exact hk)
      rw [sumH_cons hKy f3 (fun p c hp hc => (r2.2.2.2.2.2.1 p c hp hc).1)] at this
      exact this
    · refine go (bg u b t (RB w b).ln) κ x ?_ hF' (by rw [bg_V]; exact hVk) hκb hO Dwn.refl (Flg.refl hx) (fun z => absurd z act)
      unfold f_Dm_lowerByRules_43
      refine lp_out ?_
      show f_Dm_lowerByRules_43B (bg u b t (RB w b).ln) x (kk : Int) b 0 = _
      unfold f_Dm_lowerByRules_43B f_Dm_lowerByRules_128
      rw [if_neg (by decide), hF' b (by omega) (by omega) (by omega), if_neg act, bl_s, wr_of (x := (kk : Int) + 1) ⟨by omega, by omega⟩, bnd_s]
      rfl
theorem lowA_rounds {w : World} {nF mm now t N : Nat} {L : Nat → Nat} {ρ c : Nat → Nat} {Lc : Nat → List Nat} {C : Int → Nat → Nat} (h : CsA w nF mm now t N L ρ c Lc C) : ∀ (Z : Nat) (u : World) (κ : Nat → Nat) (i : Nat), cnt (uns ρ c C κ) N ≤ Z → i + Z < 9000 → FrC w u → VV (u 104) → K151 u N κ → OnW (SA w) (FCA nF w (now : Int)) N ρ c C κ →
    ∃ u', f_Dm_findCosts_97 u 1 (i : Int) = some u' ∧ FrC w u' ∧ VV (u' 104) ∧ ∀ s, s < N → u' 151 s = ((C (ρ s : Int) (c s) : Nat) : Int) := by
  have hu := SuQ_A h.1.1
  have hC := h.2.2.2.2.1
  have hz : ∀ (u : World) (i : Nat), i < 10000 → f_Dm_findCosts_97 u 0 (i : Int) = some (up u 150 0 1) := fun u i hi => by
    unfold f_Dm_findCosts_97
    refine lp_out ?_
    show f_Dm_findCosts_97B u 0 (i : Int) = _
    unfold f_Dm_findCosts_97B f_Dm_findCosts_119
    rw [if_neg (by omega), if_pos rfl, bl_s, bnd_s]
  have step : ∀ (u u1 : World) (i : Nat) (x1 : Int), i < 9000 → f_Dm_lowerByRules_4 u 0 ((0 : Nat) : Int) = some (u1, x1) → f_Dm_findCosts_97 u 1 (i : Int) = f_Dm_findCosts_97 u1 x1 ((i + 1 : Nat) : Int) := fun u u1 i x1 hi t1 => by
    unfold f_Dm_findCosts_97
    refine lp_step (F := fun z : (World × Int × Int) => f_Dm_findCosts_97B z.1 z.2.1 z.2.2) (s := (u, 1, (i : Int))) ?_
    show f_Dm_findCosts_97B u 1 (i : Int) = _
    have t1' : f_Dm_lowerByRules u = some (u1, x1) := t1
    unfold f_Dm_findCosts_97B
    rw [if_neg (by omega), if_neg z10, t1', bnd_s, bl_s, wr_of (x := (i : Int) + 1) ⟨by omega, by omega⟩]
    rfl
  have done : ∀ (u1 : World) (κ1 : Nat → Nat) (i : Nat), i < 9000 → FrC w u1 → VV (u1 104) → K151 u1 N κ1 → (∀ s, s < N → κ1 s = C (ρ s : Int) (c s)) → ∃ u', f_Dm_findCosts_97 u1 0 ((i + 1 : Nat) : Int) = some u' ∧ FrC w u' ∧ VV (u' 104) ∧ ∀ s, s < N → u' 151 s = ((C (ρ s : Int) (c s) : Nat) : Int) := fun u1 κ1 i hi g1 g2 g3 g4 => by
    have f1 : ∀ c0, c0 ≠ 150 → up u1 150 0 1 c0 = u1 c0 := fun c0 z => by
      funext k
      unfold up
      rw [if_neg (fun y => z y.1)]
    refine ⟨up u1 150 0 1, hz u1 (i + 1) (by omega), fun c0 z1 z2 z3 => (f1 c0 z2).trans (g1 c0 z1 z2 z3), by rw [f1 104 (by omega)]; exact g2, fun s hs => ?_⟩
    rw [f1 151 (by omega), g3 s hs, g4 s hs]
  intro Z
  induction Z with
  | zero =>
    intro u κ i hN hi hF hV hκ hO
    obtain ⟨u1, κ1, x1, t1, t2, t3, t4, t5, t6, t7, t8⟩ := lowA_rules h mm 0 u κ 0 (by omega) hF hV hκ hO (Or.inl rfl)
    have hR : Rnd (SA w) (RrA mm w) N ρ c κ κ1 := fun R σ s hRR hS hs hρ hk => by
      obtain ⟨i, hi, hg, rfl⟩ := hRR
      exact t7 i (Nat.zero_le _) hi hg σ s hS hs hρ hk
    rcases round_end hu hC hO t5 t6 hR t8 with ⟨e1, e2⟩ | ⟨e1, e2⟩
    · rw [step u u1 i x1 (by omega) t1, e1]
      exact done u1 κ1 i (by omega) t2 t3 t4 e2
    · omega
  | succ Z ih =>
    intro u κ i hN hi hF hV hκ hO
    obtain ⟨u1, κ1, x1, t1, t2, t3, t4, t5, t6, t7, t8⟩ := lowA_rules h mm 0 u κ 0 (by omega) hF hV hκ hO (Or.inl rfl)
    have hR : Rnd (SA w) (RrA mm w) N ρ c κ κ1 := fun R σ s hRR hS hs hρ hk => by
      obtain ⟨i, hi, hg, rfl⟩ := hRR
      exact t7 i (Nat.zero_le _) hi hg σ s hS hs hρ hk
    rcases round_end hu hC hO t5 t6 hR t8 with ⟨e1, e2⟩ | ⟨e1, e2⟩
    · rw [step u u1 i x1 (by omega) t1, e1]
      exact done u1 κ1 i (by omega) t2 t3 t4 e2
    · rw [step u u1 i x1 (by omega) t1, e1]
      exact ih u1 κ1 (i + 1) (by omega) (by omega) t2 t3 t4 t5
def FiA (w : World) (now : Nat) (N : Nat) (ρ c : Nat → Nat) (C : Int → Nat → Nat) (f : Nat) (κ : Nat → Nat) : Prop := ∀ s, s < N → C (ρ s : Int) (c s) ≤ κ s ∧ κ s ≤ 1000000 ∧ ∀ f' k v : Nat, f' < f → FaC w (now : Int) 0 f' → w 8 f' = (ρ s : Int) → w 9 f' = (k : Int) → w 10 f' = (v : Int) → kz ((SA w).kq (ρ s : Int)) (c s) = kz ((SA w).kq (ρ s : Int)) k → κ s ≤ v
theorem factsA_loop {w : World} {nF mm now t N : Nat} {L : Nat → Nat} {ρ c : Nat → Nat} {Lc : Nat → List Nat} {C : Int → Nat → Nat} (h : CsA w nF mm now t N L ρ c Lc C) : ∀ (j f : Nat) (u : World) (κ : Nat → Nat), f + j = nF → FrC w u → VV (u 104) → K151 u N κ → FiA w now N ρ c C f κ →
    ∃ u' κ', f_Dm_findCosts_20 u (f : Int) = f_Dm_findCosts_97 u' 1 0 ∧ FrC w u' ∧ VV (u' 104) ∧ K151 u' N κ' ∧ FiA w now N ρ c C nF κ' := by
  obtain ⟨⟨b1, b2, b3⟩, -, ⟨hpr, hkt, hnow⟩, hL, hC, ⟨f1, f2, f3⟩, hF2⟩ := h
  have hN := b1.2.1
  intro j
  induction j with
  | zero =>
    intro f u κ hj hF hV hκ hi
    have e : f = nF := by omega
    subst e
    refine ⟨u, κ, ?_, hF, hV, hκ, hi⟩
    have hb : f_Dm_findCosts_20B u (f : Int) = bnd (f_Dm_findCosts_97 u 1 0) fun y4 => some (Sum.inr y4) := by
      unfold f_Dm_findCosts_20B
      rw [hF 7 (by omega) (by omega) (by omega), f1, if_pos (by omega)]
    unfold f_Dm_findCosts_20
    rw [lp_unfold]
    show bnd (f_Dm_findCosts_20B u (f : Int)) _ = _
    rw [hb]
    cases f_Dm_findCosts_97 u 1 0 with
    | none => rfl
    | some o => rfl
  | succ j ih =>
    intro f u κ hj hF hV hκ hi
    have hfn : f < nF := by omega
    obtain ⟨r, k, g1, g2, g3, g4, g5, g6⟩ := f3 f hfn
    have u7 : u 7 0 = (nF : Int) := by rw [hF 7 (by omega) (by omega) (by omega)]; exact f1
    have e87 : ∀ v : World, f_Dm_findCosts_87 v (f : Int) = some (Sum.inl (v, ((f + 1 : Nat) : Int))) := fun v => by
      unfold f_Dm_findCosts_87
      rw [bl_s, wr_of (x := (f : Int) + 1) ⟨by omega, by omega⟩]
      rfl
    have go : ∀ (u1 : World) (κ1 : Nat → Nat), f_Dm_findCosts_20B u (f : Int) = some (Sum.inl (u1, ((f + 1 : Nat) : Int))) → FrC w u1 → VV (u1 104) → K151 u1 N κ1 → FiA w now N ρ c C (f + 1) κ1 → ∃ u' κ', f_Dm_findCosts_20 u (f : Int) = f_Dm_findCosts_97 u' 1 0 ∧ FrC w u' ∧ VV (u' 104) ∧ K151 u' N κ' ∧ FiA w now N ρ c C nF κ' := fun u1 κ1 p1 p2 p3 p4 p5 => by
      obtain ⟨u', κ', q1, q2⟩ := ih (f + 1) u1 κ1 (by omega) p2 p3 p4 p5
      refine ⟨u', κ', ?_, q2⟩
      rw [← q1]
      unfold f_Dm_findCosts_20
      exact lp_step (F := fun z : (World × Int) => f_Dm_findCosts_20B z.1 z.2) (s := (u, (f : Int))) p1
    obtain ⟨v, hv, hv01, hviff⟩ := holdsIn_n (hour := (now : Int)) u7 f2 hfn
    have hm0 : iand (ishr 0 (f : Int)) 1 = 0 := mask0 f (by omega)
    have hFc : (u 13 f = 0 ∧ u 11 f ≤ (now : Int) ∧ (now : Int) ≤ u 12 f) ↔ FaC w (now : Int) 0 f := by
      unfold FaC
      rw [hF 13 (by omega) (by omega) (by omega), hF 11 (by omega) (by omega) (by omega), hF 12 (by omega) (by omega) (by omega)]
      exact ⟨fun z => ⟨z.1, z.2.1, z.2.2, hm0⟩, fun z => ⟨z.1, z.2.1, z.2.2.1⟩⟩
    have hcost : f_Fa_costOf u (f : Int) = some (w 10 f) := by
      unfold f_Fa_costOf
      rw [isFact_n u7 f2 hfn, bnd_s, if_neg z10, gd_t ⟨by omega, by omega⟩, Int.toNat_natCast, hF 10 (by omega) (by omega) (by omega)]
    have hpru := present_c (w' := u) (fun c hc => hF c (by omega) (by omega) (by omega)) hpr
    have hrel : f_Fa_relationOf u (f : Int) = some (r : Int) := by rw [relationOf_n u7 f2 hfn, hF 8 (by omega) (by omega) (by omega), g1]
    have hcod : f_Fa_codeOf u (f : Int) = some (k : Int) := by rw [factCode_n u7 f2 hfn, hF 9 (by omega) (by omega) (by omega), g4]
    have hbody : f_Dm_findCosts_20B u (f : Int) = if v = 0 then (f_Dm_findCosts_87 u (f : Int)) else (bnd (f_Mo_slotLike u t (r : Int) (k : Int)) fun v22 => bnd (f_Co_lower u v22 (w 10 f)) fun v28 => f_Dm_findCosts_87 v28.1 (f : Int)) := by
      unfold f_Dm_findCosts_20B
      rw [u7, if_neg (by omega), hF 1 (by omega) (by omega) (by omega), hnow, hv, bnd_s, hpru, bnd_s, hrel, bnd_s, hcod, bnd_s, gd_t hkt, hcost]
      by_cases q : v = 0
      · rw [if_pos q, if_pos q]
      · rw [if_neg q, if_neg q]
        rfl
    by_cases z1 : v = 1
    · have hfc := hFc.mp (hviff.mp z1)
      obtain ⟨m, ⟨s0, hs0, hρ0, hc0⟩, hle⟩ := (hL.2 (lvf L (r : Int))).1.1 (r : Int) k ⟨f, hfn, hfc, g1, g4⟩ rfl
      have hρ0' : ρ s0 = r := by omega
      have hk0 : kz ((SA w).kq (r : Int)) (c s0) = kz ((SA w).kq (r : Int)) k := by rw [hc0]; exact hle.1.symm
      obtain ⟨vp, hvp, hvp2⟩ := slotA_eq (k := k) (s := s0) (WfS_congr (fun c0 z y k => by rw [hF c0 (by omega) (by omega) (by omega)]) b3) (hF.M hkt b1) g2 (by rw [hF 3 (by omega) (by omega) (by omega)]; exact g3) g5 hs0 hρ0' (by rw [hF.SA]; exact hk0)
      have hvs := hvp2.mpr rfl
      obtain ⟨cv, hcv⟩ : ∃ cv : Nat, w 10 f = (cv : Int) := ⟨(w 10 f).toNat, by have := hF2 f hfn; omega⟩
      have hlow := lowerA_n (v := cv) hκ hs0 hN
      have hb2 : f_Dm_findCosts_20B u (f : Int) = bnd (f_Co_lower u (s0 : Int) (cv : Int)) fun v28 => f_Dm_findCosts_87 v28.1 (f : Int) := by
        rw [hbody, if_neg (by omega), hvp, bnd_s, hvs, hcv]
      have hCs : C (r : Int) (c s0) ≤ cv := hC.2.1 (r : Int) k cv (c s0) ⟨f, hfn, hfc, g1, g4, hcv⟩ ⟨s0, hs0, hρ0, rfl⟩ hk0
      have rest : ∀ κ1 : Nat → Nat, (∀ s, s < N → C (ρ s : Int) (c s) ≤ κ1 s ∧ κ1 s ≤ κ s) → κ1 s0 ≤ cv → FiA w now N ρ c C (f + 1) κ1 := fun κ1 q1 q2 s hs => by
        obtain ⟨i1, i2, i3⟩ := hi s hs
        obtain ⟨d1, d2⟩ := q1 s hs
        refine ⟨d1, by omega, fun f' k' v' h1 h2 h3 h4 h6 h7 => ?_⟩
        by_cases e : f' = f
        · subst e
          have ek : k' = k := by omega
          subst ek
          have eρ : ρ s = r := by omega
          have es : s = s0 := KuQ_A b1 s0 s hs0 hs (by omega) (by rw [hρ0', hk0]; rw [eρ] at h7; exact h7.symm)
          rw [es]
          omega
        · have := i3 f' k' v' (by omega) h2 h3 h4 h6 h7
          omega
      by_cases q : κ s0 ≤ cv
      · refine go u κ ?_ hF hV hκ (rest κ (fun s hs => ⟨(hi s hs).1, Nat.le_refl _⟩) q)
        rw [hb2, hlow, if_pos q, bnd_s, e87]
      · refine go (up u 151 s0 (cv : Int)) (upn κ s0 cv) ?_ (hF.trans FrC.u) ?_ (K151_low hκ) (rest _ (fun s hs => ?_) (by rw [upn_eq]; exact Nat.le_refl _))
        · rw [hb2, hlow, if_neg q, bnd_s, e87]
        · have : up u 151 s0 (cv : Int) 104 = u 104 := by funext k; simp [up]
          rw [this]
          exact hV
        · by_cases e : s = s0
          · rw [e, upn_eq, hρ0']
            exact ⟨hCs, by omega⟩
          · rw [upn_ne e]
            exact ⟨(hi s hs).1, Nat.le_refl _⟩
    · have z0 : v = 0 := by rcases hv01 with e | e; exact e; exact absurd e z1
      refine go u κ ?_ hF hV hκ (fun s hs => ?_)
      · rw [hbody, if_pos z0, e87]
      · obtain ⟨i1, i2, i3⟩ := hi s hs
        refine ⟨i1, i2, fun f' k' v' h1 h2 h3 h4 h6 h7 => ?_⟩
        by_cases e : f' = f
        · subst e
          exact absurd (hviff.mpr (hFc.mpr h2)) z1
        · exact i3 f' k' v' (by omega) h2 h3 h4 h6 h7
theorem findCostsA_n {w : World} {nF mm now t N : Nat} {L : Nat → Nat} {ρ c : Nat → Nat} {Lc : Nat → List Nat} {C : Int → Nat → Nat} (h : CsA w nF mm now t N L ρ c Lc C) (hV : VV (w 104)) (h0 : w 150 0 = 0) : ∃ u', f_Dm_findCosts w = some u' ∧ FrC w u' ∧ VV (u' 104) ∧ ∀ s, s < N → u' 151 s = ((C (ρ s : Int) (c s) : Nat) : Int) := by
  have hN := h.1.1.2.1
  have hC := h.2.2.2.2.1
  have loop : ∀ (j k : Nat) (u : World), k + j = 48 → FrC w u → VV (u 104) → (∀ s, s < k → u 151 s = 1000000) → ∃ u', f_Co_reset_2 u (k : Int) = some u' ∧ FrC w u' ∧ VV (u' 104) ∧ ∀ s, s < 48 → u' 151 s = 1000000 := by
    intro j
    induction j with
    | zero =>
      intro k u hk hF hVu hκ
      refine ⟨u, ?_, hF, hVu, fun s hs => hκ s (by omega)⟩
      unfold f_Co_reset_2
      refine lp_out ?_
      show f_Co_reset_2B u (k : Int) = _
      unfold f_Co_reset_2B
      rw [if_pos (by omega)]
    | succ j ih =>
      intro k u hk hF hVu hκ
      have hstep : f_Co_reset_2B u (k : Int) = some (Sum.inl (up u 151 k 1000000, ((k + 1 : Nat) : Int))) := by
        unfold f_Co_reset_2B
        rw [if_neg (by omega), gd_t ⟨by omega, by omega⟩, bl_s, bl_s, Int.toNat_natCast, wr_of (x := (k : Int) + 1) ⟨by omega, by omega⟩]
        rfl
      obtain ⟨u', q1, q2⟩ := ih (k + 1) (up u 151 k 1000000) (by omega) (hF.trans FrC.u) (by
        have : up u 151 k 1000000 104 = u 104 := by funext x; simp [up]
        rw [this]
        exact hVu) (fun s hs => by
        by_cases e : s = k
        · simp [up, e]
        · have : up u 151 k 1000000 151 s = u 151 s := by simp [up, e]
          rw [this]
          exact hκ s (by omega))
      refine ⟨u', ?_, q2⟩
      rw [← q1]
      unfold f_Co_reset_2
      exact lp_step (F := fun z : (World × Int) => f_Co_reset_2B z.1 z.2) (s := (u, (k : Int))) hstep
  obtain ⟨u1, p1, p2, p3, p4⟩ := loop 48 0 w (by omega) FrC.refl hV (fun s hs => absurd hs (Nat.not_lt_zero s))
  have hκ1 : K151 u1 N (fun _ => 1000000) := fun s hs => p4 s (by omega)
  obtain ⟨u2, κ2, q1, q2, q3, q4, q5⟩ := factsA_loop h nF 0 u1 (fun _ => 1000000) (by omega) p2 p3 hκ1 (fun s hs => ⟨hC.1 _ _ ⟨s, hs, rfl, rfl⟩, Nat.le_refl _, fun f' k v hf => absurd hf (Nat.not_lt_zero f')⟩)
  have hO : OnW (SA w) (FCA nF w (now : Int)) N ρ c C κ2 := fun s hs => by
    obtain ⟨i1, i2, i3⟩ := q5 s hs
    refine ⟨i1, i2, fun k v hf hk => ?_⟩
    obtain ⟨f, a1, a2, a3, a4, a5⟩ := hf
    exact i3 f k v a1 a2 a3 a4 a5 hk
  have hcn := cnt_le (P := uns ρ c C κ2) N
  obtain ⟨u3, r1, r2, r3, r4⟩ := lowA_rounds h _ u2 κ2 0 (Nat.le_refl _) (by omega) q2 q3 q4 hO
  refine ⟨u3, ?_, r2, r3, r4⟩
  have p1 : f_Co_reset w = some u1 := p1
  have q1 : f_Dm_findCosts_20 u1 0 = f_Dm_findCosts_97 u2 1 0 := q1
  unfold f_Dm_findCosts
  rw [if_pos h0, p1, bnd_s, q1]
  exact r1
