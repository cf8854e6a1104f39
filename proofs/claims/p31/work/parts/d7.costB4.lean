/-! THE REFERENCE: costs, the facts, the whole -/
/-- what holds while the facts are gone through -/
def FiB (D : SH) (w : World) (now : Nat) (n : Nat) (ρ c : Nat → Nat) (C : Int → Nat → Nat) (f : Nat) (κ : Nat → Nat) : Prop := ∀ s, s < n → C (ρ s : Int) (c s) ≤ κ s ∧ κ s ≤ 1000000 ∧ ∀ f' k v : Nat, f' < f → FcB w (now : Int) 0 f' → w 7 f' = (ρ s : Int) → (∀ j, j < 3 → w 8 (3 * f' + j) = ((clm k j : Nat) : Int)) → k < 2097152 → w 9 f' = (v : Int) → kz (D.kq (ρ s : Int)) (c s) = kz (D.kq (ρ s : Int)) k → κ s ≤ v
theorem factsB_loop {w : World} {nF mm now n : Nat} {L : Nat → Nat} {ρ c : Nat → Nat} {C : Int → Nat → Nat} (h : CsB w nF mm now n L ρ c C) : ∀ (j f : Nat) (u : World) (κ : Nat → Nat), f + j = nF → FrK w u → VB u → K26 u n κ → FiB (SA w) w now n ρ c C f κ →
    ∃ u' κ', f_Re_findCosts_32 u (f : Int) = f_Re_findCosts_114 u' 1 ∧ FrK w u' ∧ VB u' ∧ K26 u' n κ' ∧ FiB (SA w) w now n ρ c C nF κ' := by
  obtain ⟨⟨b1, hn, b2, hT⟩, -, ⟨hM, h4⟩, hL, hC, hF1, hF2⟩ := h
  obtain ⟨f1, f2, f3⟩ := hF1
  intro j
  induction j with
  | zero =>
    intro f u κ hj hF hV hκ hi
    have e : f = nF := by omega
    subst e
    refine ⟨u, κ, ?_, hF, hV, hκ, hi⟩
    have hb : f_Re_findCosts_32B u (f : Int) = bnd (f_Re_findCosts_114 u 1) fun y4 => some (Sum.inr y4) := by
      unfold f_Re_findCosts_32B
      rw [hF.f (by decide) (by decide), f1, if_pos (by omega)]
    unfold f_Re_findCosts_32
    rw [lp_unfold]
    show bnd (f_Re_findCosts_32B u (f : Int)) _ = _
    rw [hb]
    cases f_Re_findCosts_114 u 1 with
    | none => rfl
    | some o => rfl
  | succ j ih =>
    intro f u κ hj hF hV hκ hi
    have hfn : f < nF := by omega
    obtain ⟨r, k, g1, g2, g3, g4, g5, g6⟩ := f3 f hfn
    have e106 : ∀ v : World, f_Re_findCosts_106 v (f : Int) = some (Sum.inl (v, ((f + 1 : Nat) : Int))) := fun v => by
      unfold f_Re_findCosts_106
      rw [bl_s, wr_of (x := (f : Int) + 1) ⟨by omega, by omega⟩]
      rfl
    have go : ∀ (u1 : World) (κ1 : Nat → Nat), f_Re_findCosts_32B u (f : Int) = some (Sum.inl (u1, ((f + 1 : Nat) : Int))) → FrK w u1 → VB u1 → K26 u1 n κ1 → FiB (SA w) w now n ρ c C (f + 1) κ1 → ∃ u' κ', f_Re_findCosts_32 u (f : Int) = f_Re_findCosts_114 u' 1 ∧ FrK w u' ∧ VB u' ∧ K26 u' n κ' ∧ FiB (SA w) w now n ρ c C nF κ' := fun u1 κ1 p1 p2 p3 p4 p5 => by
      obtain ⟨u', κ', q1, q2⟩ := ih (f + 1) u1 κ1 (by omega) p2 p3 p4 p5
      refine ⟨u', κ', ?_, q2⟩
      rw [← q1]
      unfold f_Re_findCosts_32
      exact lp_step (F := fun z : (World × Int) => f_Re_findCosts_32B z.1 z.2) (s := (u, (f : Int))) p1
    have hhold := holdsInB_n (hour := (now : Int)) (wo := 0) (w := u) (f := f) (by omega)
    have hcong : ∀ c0, c0 ≠ 1 → c0 < 20 → u c0 = w c0 := fun c0 a b => hF.cell a (by omega)
    obtain ⟨v, hv, hv01, hviff⟩ := hhold
    have hbody : f_Re_findCosts_32B u (f : Int) = if v = 0 then (f_Re_findCosts_106 u (f : Int)) else (bnd (f_Re_place u (now : Int) (r : Int) ((clm k 0 : Nat) : Int) ((clm k 1 : Nat) : Int) ((clm k 2 : Nat) : Int)) fun v21 => bnd (f_Re_lower u v21 (w 9 f)) fun v26 => f_Re_findCosts_106 v26.1 (f : Int)) := by
      have j0 : wr (3 * (f : Int)) = ((3 * f : Nat) : Int) := by rw [wr_of (x := 3 * (f : Int)) ⟨by omega, by omega⟩]; omega
      have j1 : wr (((3 * f : Nat) : Int) + 1) = ((3 * f + 1 : Nat) : Int) := by rw [wr_of (x := ((3 * f : Nat) : Int) + 1) ⟨by omega, by omega⟩]; omega
      have j2 : wr (((3 * f : Nat) : Int) + 2) = ((3 * f + 2 : Nat) : Int) := by rw [wr_of (x := ((3 * f : Nat) : Int) + 2) ⟨by omega, by omega⟩]; omega
      have k0 : 0 ≤ ((3 * f : Nat) : Int) ∧ ((3 * f : Nat) : Int) < 72 := ⟨by omega, by omega⟩
      have k1 : 0 ≤ ((3 * f + 1 : Nat) : Int) ∧ ((3 * f + 1 : Nat) : Int) < 72 := ⟨by omega, by omega⟩
      have k2 : 0 ≤ ((3 * f + 2 : Nat) : Int) ∧ ((3 * f + 2 : Nat) : Int) < 72 := ⟨by omega, by omega⟩
      have kf : 0 ≤ (f : Int) ∧ (f : Int) < 24 := ⟨by omega, by omega⟩
      have w0 : w 8 (3 * f) = ((clm k 0 : Nat) : Int) := g4 0 (by omega)
      have w1 : w 8 (3 * f + 1) = ((clm k 1 : Nat) : Int) := g4 1 (by omega)
      have w2 : w 8 (3 * f + 2) = ((clm k 2 : Nat) : Int) := g4 2 (by omega)
      unfold f_Re_findCosts_32B
      rw [hF.f (show 7 ≠ 29 by decide) (by decide), f1, if_neg (by omega), hF.f (show 1 ≠ 29 by decide) (by decide), hM, hv, bnd_s, gd_t kf, j0, j1, j2, gd_t k0, gd_t k1, gd_t k2, Int.toNat_natCast, Int.toNat_natCast, Int.toNat_natCast, Int.toNat_natCast, hcong 7 (by decide) (by decide), hcong 8 (by decide) (by decide), hcong 9 (by decide) (by decide), g1, w0, w1, w2]
      by_cases q : v = 0
      · rw [if_pos q, if_pos q]
      · rw [if_neg q, if_neg q]
        refine congrArg (bnd _) (funext fun v21 => ?_)
        rw [gd_t kf]
    have hFc : FcB u (now : Int) 0 f ↔ FcB w (now : Int) 0 f := by
      unfold FcB
      rw [hcong 12 (by decide) (by decide), hcong 10 (by decide) (by decide), hcong 11 (by decide) (by decide)]
    have hv2 : (v = 1 ∧ FcB u (now : Int) 0 f) ∨ (v = 0 ∧ ¬ FcB u (now : Int) 0 f) := by
      rcases hv01 with e | e
      · exact Or.inr ⟨e, fun z => by have := hviff.mpr z; omega⟩
      · exact Or.inl ⟨e, hviff.mp e⟩
    rcases hv2 with ⟨z1, z2⟩ | ⟨z1, z2⟩
    · have hfc := hFc.mp z2
      obtain ⟨m, ⟨s0, hs0, hρ0, hc0⟩, hle⟩ := (hL.2 (lvf L (r : Int))).1.1 (r : Int) k ⟨f, hfn, hfc, g1, g4, g5⟩ rfl
      have hρ0' : ρ s0 = r := by omega
      have hk0 : kz ((SA w).kq (r : Int)) (c s0) = kz ((SA w).kq (r : Int)) k := by rw [hc0]; exact hle.1.symm
      have e3 : u 3 = w 3 := hF.cell (by omega) (by omega)
      have hTu : WfT u := WfT_congr (fun c a b => hF.cell (by omega) (by omega)) hT
      have hBu : BMod u now n ρ c := BMod_congr (fun k hk => hF.cell (by omega) (by omega)) b1
      obtain ⟨vp, hvp, hvp2⟩ := placeB_eq (k := k) (s := s0) hTu hBu (VCs_3 e3 b2) g2 (by rw [e3]; exact g3) g5 ((Vc_3 e3).mpr g6) hs0 hρ0' (by rw [hF.SA]; exact hk0)
      have hvs := hvp2.mpr rfl
      obtain ⟨cv, hcv⟩ : ∃ cv : Nat, w 9 f = (cv : Int) := ⟨(w 9 f).toNat, by have := hF2 f hfn; omega⟩
      have hlow := lowerB_n (v := cv) hκ hs0 hn
      have hb2 : f_Re_findCosts_32B u (f : Int) = bnd (f_Re_lower u (s0 : Int) (cv : Int)) fun v26 => f_Re_findCosts_106 v26.1 (f : Int) := by
        rw [hbody, if_neg (by omega), hvp, bnd_s, hvs, hcv]
      have hCs : C (r : Int) (c s0) ≤ cv := by
        have := hC.2.1 (r : Int) k cv (c s0) ⟨f, hfn, hfc, g1, g4, g5, hcv⟩ ⟨s0, hs0, hρ0, rfl⟩ hk0
        exact this
      have rest : ∀ κ1 : Nat → Nat, (∀ s, s < n → C (ρ s : Int) (c s) ≤ κ1 s ∧ κ1 s ≤ κ s) → κ1 s0 ≤ cv → FiB (SA w) w now n ρ c C (f + 1) κ1 := fun κ1 q1 q2 s hs => by
        obtain ⟨i1, i2, i3⟩ := hi s hs
        obtain ⟨d1, d2⟩ := q1 s hs
        refine ⟨d1, by omega, fun f' k' v' h1 h2 h3 h4 h5 h6 h7 => ?_⟩
        by_cases e : f' = f
        · subst e
          have ek : k' = k := clm_inj h5 g5 (fun j hj => by have a := h4 j hj; have b := g4 j hj; omega)
          subst ek
          have eρ : ρ s = r := by omega
          have es : s = s0 := KuQ_B b1 s0 s hs0 hs (by omega) (by rw [hρ0', hk0]; rw [eρ] at h7; exact h7.symm)
          rw [es]
          omega
        · have := i3 f' k' v' (by omega) h2 h3 h4 h5 h6 h7
          omega
      by_cases q : κ s0 ≤ cv
      · refine go u κ ?_ hF hV hκ (rest κ (fun s hs => ⟨(hi s hs).1, Nat.le_refl _⟩) q)
        rw [hb2, hlow, if_pos q, bnd_s, e106]
      · refine go (up u 26 s0 (cv : Int)) (upn κ s0 cv) ?_ (hF.trans FrK.u26) (fun x hx => ?_) (K26_low hκ) (rest _ (fun s hs => ?_) (by rw [upn_eq]; exact Nat.le_refl _))
        · rw [hb2, hlow, if_neg q, bnd_s, e106]
        · have e24 : up u 26 s0 (cv : Int) 24 x = u 24 x := by simp [up]
          have e23 : up u 26 s0 (cv : Int) 23 x = u 23 x := by simp [up]
          rw [e24] at hx
          rw [e23]
          exact hV x hx
        · by_cases e : s = s0
          · rw [e, upn_eq, hρ0']
            exact ⟨hCs, by omega⟩
          · rw [upn_ne e]
            exact ⟨(hi s hs).1, Nat.le_refl _⟩
    · refine go u κ ?_ hF hV hκ (fun s hs => ?_)
      · rw [hbody, if_pos z1, e106]
      · obtain ⟨i1, i2, i3⟩ := hi s hs
        refine ⟨i1, i2, fun f' k' v' h1 h2 h3 h4 h5 h6 h7 => ?_⟩
        by_cases e : f' = f
        · subst e
          exact absurd (hFc.mpr h2) z2
        · exact i3 f' k' v' (by omega) h2 h3 h4 h5 h6 h7
theorem findCostsB_n {w : World} {nF mm now n : Nat} {L : Nat → Nat} {ρ c : Nat → Nat} {C : Int → Nat → Nat} (h : CsB w nF mm now n L ρ c C) (hV : VB w) : ∃ u', f_Re_findCosts w = some u' ∧ FrK w u' ∧ VB u' ∧ ∀ s, s < n → u' 26 s = ((C (ρ s : Int) (c s) : Nat) : Int) := by
  obtain ⟨⟨b1, hn, b2, hT⟩, -, ⟨hM, h4⟩, hL, hC, hF1, hF2⟩ := id h
  have loop : ∀ (j k : Nat) (u : World), k + j = n → FrK w u → VB u → (∀ s, s < k → u 26 s = 1000000) → ∃ u', f_Re_findCosts_2 u (k : Int) = f_Re_findCosts_32 u' 0 ∧ FrK w u' ∧ VB u' ∧ K26 u' n (fun _ => 1000000) := by
    intro j
    induction j with
    | zero =>
      intro k u hk hF hVu hκ
      refine ⟨u, ?_, hF, hVu, fun s hs => hκ s (by omega)⟩
      have hb : f_Re_findCosts_2B u (k : Int) = bnd (f_Re_findCosts_32 u 0) fun y4 => some (Sum.inr y4) := by
        unfold f_Re_findCosts_2B
        rw [hF.f (by decide) (by decide), hM, gd_t ⟨by omega, by omega⟩, Int.toNat_natCast, hF.cell (show 20 ≠ 1 by decide) (by omega), b1.2.1, if_pos (by omega)]
      unfold f_Re_findCosts_2
      rw [lp_unfold]
      show bnd (f_Re_findCosts_2B u (k : Int)) _ = _
      rw [hb]
      cases f_Re_findCosts_32 u 0 with
      | none => rfl
      | some o => rfl
    | succ j ih =>
      intro k u hk hF hVu hκ
      have hstep : f_Re_findCosts_2B u (k : Int) = some (Sum.inl (up u 26 k 1000000, ((k + 1 : Nat) : Int))) := by
        unfold f_Re_findCosts_2B
        rw [hF.f (by decide) (by decide), hM, gd_t ⟨by omega, by omega⟩, Int.toNat_natCast, hF.cell (show 20 ≠ 1 by decide) (by omega), b1.2.1, if_neg (by omega), gd_t ⟨by omega, by omega⟩, bl_s, bl_s, Int.toNat_natCast, wr_of (x := (k : Int) + 1) ⟨by omega, by omega⟩]
        rfl
      obtain ⟨u', q1, q2⟩ := ih (k + 1) (up u 26 k 1000000) (by omega) (hF.trans FrK.u26) (fun x hx => by
        have e24 : up u 26 k 1000000 24 x = u 24 x := by simp [up]
        have e23 : up u 26 k 1000000 23 x = u 23 x := by simp [up]
        rw [e24] at hx
        rw [e23]
        exact hVu x hx) (fun s hs => by
        by_cases e : s = k
        · simp [up, e]
        · have : up u 26 k 1000000 26 s = u 26 s := by simp [up, e]
          rw [this]
          exact hκ s (by omega))
      refine ⟨u', ?_, q2⟩
      rw [← q1]
      unfold f_Re_findCosts_2
      exact lp_step (F := fun z : (World × Int) => f_Re_findCosts_2B z.1 z.2) (s := (u, (k : Int))) hstep
  obtain ⟨u1, p1, p2, p3, p4⟩ := loop n 0 w (by omega) FrK.refl hV (fun s hs => absurd hs (Nat.not_lt_zero s))
  obtain ⟨u2, κ2, q1, q2, q3, q4, q5⟩ := factsB_loop h nF 0 u1 (fun _ => 1000000) (by omega) p2 p3 p4 (fun s hs => ⟨hC.1 _ _ ⟨s, hs, rfl, rfl⟩, Nat.le_refl _, fun f' k v hf => absurd hf (Nat.not_lt_zero f')⟩)
  have hO : OnW (SA w) (FCB nF w (now : Int)) n ρ c C κ2 := fun s hs => by
    obtain ⟨i1, i2, i3⟩ := q5 s hs
    refine ⟨i1, i2, fun k v hf hk => ?_⟩
    obtain ⟨f, a1, a2, a3, a4, a5, a6⟩ := hf
    exact i3 f k v a1 a2 a3 a4 a5 a6 hk
  obtain ⟨u3, r1, r2, r3, r4⟩ := lowB_rounds h _ u2 κ2 (Nat.le_refl _) q2 q3 q4 hO
  refine ⟨u3, ?_, r2, r3, r4⟩
  unfold f_Re_findCosts
  have p1 : f_Re_findCosts_2 w 0 = f_Re_findCosts_32 u1 0 := p1
  have q1 : f_Re_findCosts_32 u1 0 = f_Re_findCosts_114 u2 1 := q1
  rw [p1, q1, r1]
