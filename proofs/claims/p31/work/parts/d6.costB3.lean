/-! THE REFERENCE: costs, all rules, round by round -/
/-- costs of the facts that hold, in the reference -/
def FCB (nF : Nat) (w : World) (hour : Int) : Int → Nat → Nat → Prop := fun r k v => ∃ f, f < nF ∧ FcB w hour 0 f ∧ w 7 f = r ∧ (∀ j, j < 3 → w 8 (3 * f + j) = ((clm k j : Nat) : Int)) ∧ k < 2097152 ∧ w 9 f = (v : Int)
def CsB (w : World) (nF mm now n : Nat) (L : Nat → Nat) (ρ c : Nat → Nat) (C : Int → Nat → Nat) : Prop :=
  (BMod w now n ρ c ∧ n ≤ 48 ∧ VCs w n ρ c ∧ WfT w) ∧ (PgB w mm ∧ ∀ i, i < mm → SafeL (RBB w i) ∧ SafeH (RBB w i)) ∧ (w 1 1 = (now : Int) ∧ now < 4) ∧ Least (SA w) (lvf L) (FFB nF w (now : Int) 0) (RrB mm w) (AM n ρ c) ∧ CostP (SA w) (FCB nF w (now : Int)) (RrB mm w) (AM n ρ c) C ∧ FaB nF w ∧ ∀ f, f < nF → 1 ≤ w 9 f ∧ w 9 f ≤ 100
theorem Least.clk {D : SH} {lv : Int → Nat} {FF : MM} {RR : RU → Prop} {M : MM} (h : Least D lv FF RR M) : ClK D RR M := fun R σ hR hS => by
  obtain ⟨m, h1, h2⟩ := (h.2 (lv R.tg)).1.2 R hR rfl σ hS
  exact ⟨m, h1, h2.1⟩
theorem tm_cons {R : RU} {σ : Nat → Nat} {v : Nat → Int} {p : Nat} (hK : Cons σ v) (hb : BdP R v p) (ht : ∀ c, c < 3 → -8 ≤ R.tm p c) : tc (sg v) (R.tm p) = tc σ (R.tm p) := by
  have key : ∀ c, c < 3 → tv (sg v) (R.tm p c) = tv σ (R.tm p c) := fun c hc => by
    have h0 := hb c hc
    rw [tv_sg, Cons_vl hK (ht c hc) (by omega), Int.toNat_natCast]
  unfold tc
  rw [key 0 (by omega), key 1 (by omega), key 2 (by omega)]
theorem sumH_cons {Cc : Int → Nat → Nat} {R : RU} {σ : Nat → Nat} {v : Nat → Int} (hK : Cons σ v) (hb : ∀ p, p < R.ln → BdP R v p) (ht : ∀ p c, p < R.ln → c < 3 → -8 ≤ R.tm p c) : sumH Cc R (sg v) = sumH Cc R σ := by
  unfold sumH
  refine sumN_eq R.ln (fun p hp => ?_)
  rw [tm_cons hK (hb p hp) (fun c hc => ht p c hp hc)]
theorem lowB_rules {w : World} {nF mm now n : Nat} {L : Nat → Nat} {ρ c : Nat → Nat} {C : Int → Nat → Nat} (h : CsB w nF mm now n L ρ c C) : ∀ (j ru : Nat) (u : World) (κ : Nat → Nat) (x : Int), ru + j = mm → FrK w u → VB u → K26 u n κ → OnW (SA w) (FCB nF w (now : Int)) n ρ c C κ → (x = 0 ∨ x = 1) →
    ∃ u' κ' x', f_Re_findCosts_122 u x (ru : Int) = some (Sum.inl (u', x')) ∧ FrK w u' ∧ VB u' ∧ K26 u' n κ' ∧ OnW (SA w) (FCB nF w (now : Int)) n ρ c C κ' ∧ Dwn n κ κ' ∧ (∀ i, ru ≤ i → i < mm → w 13 i = 0 → ∀ σ s, Sat (AM n ρ c) (RBB w i) σ → s < n → (ρ s : Int) = (RBB w i).tg → kz ((SA w).kq (RBB w i).tg) (c s) = kz ((SA w).kq (RBB w i).tg) (tc σ (RBB w i).ht) → κ' s ≤ 1 + sumH (Ck n ρ c κ) (RBB w i) σ) ∧ Flg n κ κ' x x' := by
  obtain ⟨⟨b1, hn, b2, hT⟩, ⟨⟨p1, p2, p3⟩, p4⟩, ⟨hM, h4⟩, hL, hC, hF1, hF2⟩ := h
  intro j
  induction j with
  | zero =>
    intro ru u κ x hj hF hV hκ hO hx
    refine ⟨u, κ, x, ?_, hF, hV, hκ, hO, Dwn.refl, fun i h1 h2 => by omega, Flg.refl hx⟩
    unfold f_Re_findCosts_122
    refine lp_out ?_
    show f_Re_findCosts_122B u x (ru : Int) = _
    unfold f_Re_findCosts_122B
    rw [hF.f (by decide) (by decide), p1, if_pos (by omega)]
  | succ j ih =>
    intro ru u κ x hj hF hV hκ hO hx
    have hrm : ru < mm := by omega
    have hr12 : ru < 12 := by omega
    obtain ⟨⟨r1, r2, r3, r4⟩, ⟨r, hr, htg⟩, -⟩ := p3 ru hrm
    obtain ⟨s1, s2⟩ := p4 ru hrm
    have hFb := bgB_Q (w := u)
    have hVb := bgB_VB hV
    have hF' := hF.trans hFb.k
    have hκb : K26 (bgB u) n κ := fun s hs => by rw [bgB_fr (by decide) (by decide)]; exact hκ s hs
    have hbody : f_Re_findCosts_122B u x (ru : Int) = f_Re_findCosts_134 (bgB u) x (ru : Int) := by
      unfold f_Re_findCosts_122B
      rw [hF.f (by decide) (by decide), p1, if_neg (by omega), beginB_n, bnd_s]
    have go : ∀ (u1 : World) (κ1 : Nat → Nat) (x1 : Int), f_Re_findCosts_134 (bgB u) x (ru : Int) = some (Sum.inl (u1, x1, ((ru + 1 : Nat) : Int))) → FrK w u1 → VB u1 → K26 u1 n κ1 → OnW (SA w) (FCB nF w (now : Int)) n ρ c C κ1 → Dwn n κ κ1 → Flg n κ κ1 x x1 → (w 13 ru = 0 → ∀ σ s, Sat (AM n ρ c) (RBB w ru) σ → s < n → (ρ s : Int) = (RBB w ru).tg → kz ((SA w).kq (RBB w ru).tg) (c s) = kz ((SA w).kq (RBB w ru).tg) (tc σ (RBB w ru).ht) → κ1 s ≤ 1 + sumH (Ck n ρ c κ) (RBB w ru) σ) → ∃ u' κ' x', f_Re_findCosts_122 u x (ru : Int) = some (Sum.inl (u', x')) ∧ FrK w u' ∧ VB u' ∧ K26 u' n κ' ∧ OnW (SA w) (FCB nF w (now : Int)) n ρ c C κ' ∧ Dwn n κ κ' ∧ (∀ i, ru ≤ i → i < mm → w 13 i = 0 → ∀ σ s, Sat (AM n ρ c) (RBB w i) σ → s < n → (ρ s : Int) = (RBB w i).tg → kz ((SA w).kq (RBB w i).tg) (c s) = kz ((SA w).kq (RBB w i).tg) (tc σ (RBB w i).ht) → κ' s ≤ 1 + sumH (Ck n ρ c κ) (RBB w i) σ) ∧ Flg n κ κ' x x' := fun u1 κ1 x1 g1 g2 g3 g4 g5 g6 g7 g8 => by
      obtain ⟨u', κ', x', q1, q2, q3, q4, q5, q6, q7, q8⟩ := ih (ru + 1) u1 κ1 x1 (by omega) g2 g3 g4 g5 g7.b
      refine ⟨u', κ', x', ?_, q2, q3, q4, q5, g6.trans q6, fun i i1 i2 i3 σ s hS hs hρ hk => ?_, g7.trans q8 g6 q6⟩
      · rw [← q1]
        unfold f_Re_findCosts_122
        exact lp_step (F := fun z : (World × Int × Int) => f_Re_findCosts_122B z.1 z.2.1 z.2.2) (s := (u, x, (ru : Int))) (hbody.trans g1)
      · by_cases e : i = ru
        · subst e
          exact Nat.le_trans (q6 s hs) (g8 i3 σ s hS hs hρ hk)
        · have h1 := q7 i (by omega) i2 i3 σ s hS hs hρ hk
          have h2 := Ck_le (SuQ_B b1) hS g6
          omega
    by_cases act : w 13 ru = 0
    · have hht := r4.2.2.2.2.2.2
      have hd : 1 ≤ w 3 r := by
        have := r4.2.2.2.2.1.1
        rw [htg, SA_co hr] at this
        omega
      have hz : ∀ c : Nat, c < 3 → w 3 r ≤ (c : Int) → (RBB w ru).ht c = 0 := fun c h1 h2 => r4.2.2.2.2.1.2 c (by rw [htg, SA_co hr]; omega) h1
      have hRu : RuBL w ru := ⟨r1, hT, r3, r4.L⟩
      have hRBu : RBB u ru = RBB w ru := hF.R ru
      have hRuu : RuBL u ru := by
        refine ⟨r1, WfT_congr (fun c a b => hF.cell (by omega) (by omega)) hT, by rw [hRBu, hF.cell (by omega) (by omega)]; exact r3, by rw [hRBu, hF.SA]; exact r4.L⟩
      obtain ⟨jB, hQB, hSlB⟩ := walkB_it (M := now) (E := (RBB u ru).ln) hRuu (by rw [hRBu]; exact s1) (BMod_congr (fun k hk => hF.cell (by omega) (by omega)) b1) hn (VCs_3 (hF.cell (by omega) (by omega)) b2) (Nat.le_refl _) hFb hVb bgB_by (by rw [bgB_1, if_pos rfl])
      rw [hRBu, hF.SA] at jB hQB
      rw [hF.SA] at hSlB
      have hfd : ∀ y, y ∈ en (oq (SA w) (AM n ρ c) (RBB w ru) ρ c) (fun d => cand (RBB w ru) n d 0) (RBB w ru).ln 0 (vB (bgB u)) [] → FdQ (AM n ρ c) (RBB w ru) y := fun y hy => by
        obtain ⟨q1, q2, q3, q4, -⟩ := En_HQ hQB hSlB cand_CQ (RBB w ru).ln 0 (vB (bgB u)) [] y (by omega) (HQ.zero hVb.vv) ((mem_en _ _ _ _ _).mp hy)
        exact ⟨q1, ⟨sg_VA q1, fun p hp => (q4 p hp).2⟩, fun p hp => (q4 p hp).1, fun c hc => hdB_cov s2 (fun j c' hj hc' _ => (q4 j hj).1 c' hc') hc⟩
      obtain ⟨u1, κ1, x1, t1, t2, t3, t4, t5, t6, t7, t8⟩ := lowB_walk (M := now) (E := (RBB w ru).ln) hr12 hRu b1 hn b2 hr hd htg hM act r3 hht hz ⟨ru, hrm, act, rfl⟩ hL.clk hC _ (bgB u) κ x jB hF' hVb hκb hO hfd hx
      refine go u1 κ1 x1 t1 t2 t3 t4 t5 t6 t8 (fun _ σ s hS hs hρ hk => ?_)
      obtain ⟨y, hy, hKy⟩ := En_ex hQB (cand_CQ (ρ := ρ)) hS.1 (fun p hp => hS.2 p hp) (RBB w ru).ln 0 (vB (bgB u)) [] (by omega) hVb.vv (fun j c' hj => absurd hj (Nat.not_lt_zero j)) bgB_cons
      have hym := (mem_en _ _ _ _ _).mpr hy
      obtain ⟨f1, f2, f3, f4⟩ := hfd y hym
      have hcov : CovQ (RBB w ru) (RBB w ru).ln y.1 := fun j c' hj hc' _ => f3 j hj c' hc'
      rw [htg] at hρ hk
      have := t7 y hym s hs (by omega) (by rw [hdB_cons s2 hcov hKy (fun c hc => (hht c hc).1)]; exact hk)
      rw [sumH_cons hKy f3 (fun p c hp hc => (r4.2.2.2.2.2.1 p c hp hc).1)] at this
      exact this
    · refine go (bgB u) κ x ?_ hF' hVb hκb hO Dwn.refl (Flg.refl hx) (fun z => absurd z act)
      unfold f_Re_findCosts_134
      refine lp_out ?_
      show f_Re_findCosts_134B (bgB u) x (ru : Int) = _
      unfold f_Re_findCosts_134B f_Re_findCosts_224
      rw [gd_t ⟨by omega, by omega⟩, Int.toNat_natCast, hF'.cell (c := 13) (by omega) (by omega), if_neg act, bl_s, wr_of (x := (ru : Int) + 1) ⟨by omega, by omega⟩, bnd_s]
      rfl
theorem cnt_less {P P' : Nat → Bool} : ∀ (n s : Nat), (∀ i, i < n → P' i = true → P i = true) → s < n → P s = true → P' s = false → cnt P' n < cnt P n := by
  intro n
  induction n with
  | zero => intro s _ hs; exact absurd hs (Nat.not_lt_zero s)
  | succ n ih =>
    intro s h hs h1 h2
    show cnt P' n + (if P' n = true then 1 else 0) < cnt P n + (if P n = true then 1 else 0)
    have hle : cnt P' n ≤ cnt P n := by
      clear ih hs h1 h2 s
      induction n with
      | zero => exact Nat.le_refl _
      | succ n ih2 =>
        have := ih2 (fun i hi => h i (by omega))
        show cnt P' n + (if P' n = true then 1 else 0) ≤ cnt P n + (if P n = true then 1 else 0)
        by_cases q : P' n = true
        · rw [if_pos q, if_pos (h n (by omega) q)]; omega
        · rw [if_neg q]; omega
    by_cases e : s = n
    · subst e
      rw [h2, h1]
      simp
      omega
    · have := ih s (fun i hi => h i (by omega)) (by omega) h1 h2
      by_cases q : P' n = true
      · rw [if_pos q, if_pos (h n (by omega) q)]; omega
      · rw [if_neg q]; omega
/-- slots whose cost is not the least yet -/
def uns (ρ c : Nat → Nat) (C : Int → Nat → Nat) (κ : Nat → Nat) (s : Nat) : Bool := decide (κ s ≠ C (ρ s : Int) (c s))
theorem cnt_0 {P : Nat → Bool} : ∀ n, cnt P n = 0 → ∀ i, i < n → P i = false := by
  intro n
  induction n with
  | zero => intro _ i hi; exact absurd hi (Nat.not_lt_zero i)
  | succ n ih =>
    intro h i hi
    have h : cnt P n + (if P n = true then 1 else 0) = 0 := h
    by_cases e : i = n
    · subst e
      cases q : P i with
      | false => rfl
      | true => rw [q] at h; simp at h
    · exact ih (by omega) i (by omega)
/-- what a round comes to: nothing is left, or fewer are unsettled -/
theorem round_end {D : SH} {FC : Int → Nat → Nat → Prop} {RR : RU → Prop} {n : Nat} {ρ c : Nat → Nat} {C : Int → Nat → Nat} {κ κ' : Nat → Nat} {x' : Int} (hu : SuQ n ρ c) (hC : CostP D FC RR (AM n ρ c) C) (hk : OnW D FC n ρ c C κ) (hk' : OnW D FC n ρ c C κ') (hd : Dwn n κ κ') (hR : Rnd D RR n ρ c κ κ') (hf : Flg n κ κ' 0 x') : (x' = 0 ∧ ∀ s, s < n → κ' s = C (ρ s : Int) (c s)) ∨ (x' = 1 ∧ cnt (uns ρ c C κ') n < cnt (uns ρ c C κ) n) := by
  by_cases q : ∃ s, s < n ∧ κ s ≠ C (ρ s : Int) (c s)
  · obtain ⟨s, hs, h1, h2⟩ := progress hu hC hk hk' hR q
    rcases hf with ⟨a1, a2, a3⟩ | ⟨a1, a2⟩
    · exact absurd ((a3 s hs).symm.trans h2) h1
    · refine Or.inr ⟨a1, cnt_less n s (fun i hi hp => ?_) hs (decide_eq_true h1) (decide_eq_false (fun z => z h2))⟩
      have hp := of_decide_eq_true hp
      refine decide_eq_true (fun e => hp ?_)
      have g1 := (hk' i hi).1
      have g2 := hd i hi
      omega
  · have all : ∀ s, s < n → κ s = C (ρ s : Int) (c s) := fun s hs => by
      refine Classical.byContradiction fun hne => q ⟨s, hs, hne⟩
    have all' : ∀ s, s < n → κ' s = C (ρ s : Int) (c s) := fun s hs => by
      have g1 := (hk' s hs).1
      have g2 := hd s hs
      have := all s hs
      omega
    rcases hf with ⟨a1, a2, a3⟩ | ⟨a1, a2⟩
    · exact Or.inl ⟨a1, all'⟩
    · rcases a2 with e | ⟨s, hs, hlt⟩
      · omega
      · have := all s hs
        have := all' s hs
        omega
theorem lowB_rounds {w : World} {nF mm now n : Nat} {L : Nat → Nat} {ρ c : Nat → Nat} {C : Int → Nat → Nat} (h : CsB w nF mm now n L ρ c C) : ∀ (N : Nat) (u : World) (κ : Nat → Nat), cnt (uns ρ c C κ) n ≤ N → FrK w u → VB u → K26 u n κ → OnW (SA w) (FCB nF w (now : Int)) n ρ c C κ →
    ∃ u', f_Re_findCosts_114 u 1 = some u' ∧ FrK w u' ∧ VB u' ∧ ∀ s, s < n → u' 26 s = ((C (ρ s : Int) (c s) : Nat) : Int) := by
  have hu := SuQ_B h.1.1
  have hC := h.2.2.2.2.1
  have hz : ∀ u : World, f_Re_findCosts_114 u 0 = some u := fun u => by
    unfold f_Re_findCosts_114
    refine lp_out ?_
    show f_Re_findCosts_114B u 0 = _
    unfold f_Re_findCosts_114B
    rw [if_pos rfl]
  intro N
  induction N with
  | zero =>
    intro u κ hN hF hV hκ hO
    obtain ⟨u1, κ1, x1, t1, t2, t3, t4, t5, t6, t7, t8⟩ := lowB_rules h mm 0 u κ 0 (by omega) hF hV hκ hO (Or.inl rfl)
    have hR : Rnd (SA w) (RrB mm w) n ρ c κ κ1 := fun R σ s hRR hS hs hρ hk => by
      obtain ⟨i, hi, hg, rfl⟩ := hRR
      exact t7 i (Nat.zero_le _) hi hg σ s hS hs hρ hk
    rcases round_end hu hC hO t5 t6 hR t8 with ⟨e1, e2⟩ | ⟨e1, e2⟩
    · refine ⟨u1, ?_, t2, t3, fun s hs => by rw [t4 s hs, e2 s hs]⟩
      rw [← hz u1]
      unfold f_Re_findCosts_114
      refine lp_step (F := fun z : (World × Int) => f_Re_findCosts_114B z.1 z.2) (s := (u, 1)) ?_
      show f_Re_findCosts_114B u 1 = _
      unfold f_Re_findCosts_114B
      rw [e1] at t1
      rw [if_neg z10]
      exact t1
    · omega
  | succ N ih =>
    intro u κ hN hF hV hκ hO
    obtain ⟨u1, κ1, x1, t1, t2, t3, t4, t5, t6, t7, t8⟩ := lowB_rules h mm 0 u κ 0 (by omega) hF hV hκ hO (Or.inl rfl)
    have hR : Rnd (SA w) (RrB mm w) n ρ c κ κ1 := fun R σ s hRR hS hs hρ hk => by
      obtain ⟨i, hi, hg, rfl⟩ := hRR
      exact t7 i (Nat.zero_le _) hi hg σ s hS hs hρ hk
    rcases round_end hu hC hO t5 t6 hR t8 with ⟨e1, e2⟩ | ⟨e1, e2⟩
    · refine ⟨u1, ?_, t2, t3, fun s hs => by rw [t4 s hs, e2 s hs]⟩
      rw [← hz u1]
      unfold f_Re_findCosts_114
      refine lp_step (F := fun z : (World × Int) => f_Re_findCosts_114B z.1 z.2) (s := (u, 1)) ?_
      show f_Re_findCosts_114B u 1 = _
      unfold f_Re_findCosts_114B
      rw [e1] at t1
      rw [if_neg z10]
      exact t1
    · obtain ⟨u', p1, p2⟩ := ih u1 κ1 (by omega) t2 t3 t4 t5
      refine ⟨u', ?_, p2⟩
      rw [← p1]
      unfold f_Re_findCosts_114
      refine lp_step (F := fun z : (World × Int) => f_Re_findCosts_114B z.1 z.2) (s := (u, 1)) ?_
      show f_Re_findCosts_114B u 1 = _
      unfold f_Re_findCosts_114B
      rw [e1] at t1
      rw [if_neg z10]
      exact t1
