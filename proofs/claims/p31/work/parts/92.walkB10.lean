/-! THE REFERENCE'S WALK: the search -/
theorem range_split : ∀ (pre : List Nat) (m j s : Nat) (rest : List Nat), List.range' j m = pre ++ s :: rest → j ≤ s ∧ s < j + m ∧ rest = List.range' (s + 1) (j + m - (s + 1)) := by
  intro pre
  induction pre with
  | nil =>
    intro m j s rest h
    cases m with
    | zero => cases h
    | succ m =>
      have h : j :: List.range' (j + 1) m = s :: rest := h
      injection h with h1 h2
      subst h1
      exact ⟨Nat.le_refl _, by omega, by rw [← h2]; congr 1; omega⟩
  | cons a pre ih =>
    intro m j s rest h
    cases m with
    | zero => cases h
    | succ m =>
      have h : j :: List.range' (j + 1) m = a :: (pre ++ s :: rest) := h
      injection h with h1 h2
      obtain ⟨k1, k2, k3⟩ := ih m (j + 1) s rest h2
      exact ⟨by omega, by omega, by rw [k3]; congr 1; omega⟩
theorem scan_cand {R : RU} {n d j s : Nat} {O : Nat → Option ((Nat → Int) × Nat)} {q : (Nat → Int) × Nat} {rest : List Nat} (hj : R.fm d = 0 → j ≤ n) (h : scan O (cand R n d j) = some (s, q, rest)) : O s = some q ∧ rest = cand R n d (s + 1) ∧ j ≤ s ∧ (R.fm d = 0 → s < n) ∧ (R.fm d ≠ 0 → s = 0) := by
  obtain ⟨hO, pre, hpre, -⟩ := scan_some h
  unfold cand at hpre ⊢
  by_cases f0 : R.fm d = 0
  · rw [if_pos f0] at hpre ⊢
    obtain ⟨k1, k2, k3⟩ := range_split _ _ _ _ _ hpre
    have := hj f0
    exact ⟨hO, by rw [k3]; congr 1; omega, k1, fun _ => by omega, fun h => absurd f0 h⟩
  · rw [if_neg f0] at hpre ⊢
    by_cases k0 : j = 0
    · rw [if_pos k0] at hpre
      cases pre with
      | nil =>
        injection hpre with h1 h2
        exact ⟨hO, by rw [if_neg (by omega), ← h2], by omega, fun h => absurd h f0, fun _ => h1.symm⟩
      | cons x pre => exact absurd (congrArg List.length hpre) (by simp)
    · rw [if_neg k0] at hpre
      exact absurd (congrArg List.length hpre) (by simp)
abbrev FR2 : Type := Nat × (Nat → Int)
def pthQ (st : List FR2) : List Nat := st.map (fun f => f.1)
/-- the stack, as cursors and binders have it; Q: what is known of a literal since it was taken -/
def StQ (R : RU) (n : Nat) (Q : Nat → (Nat → Int) → Prop) (w : World) : List FR2 → (Nat → Int) → Prop
  | [], cur => VV cur
  | (s, vs) :: st, cur => ((∃ m : Nat, m < 256 ∧ (∀ v, v < 8 → (m.testBit v = true ↔ w 24 v = (st.length : Int))) ∧ Bnd vs cur m) ∧ VV cur ∧ CovQ R (st.length + 1) cur ∧ w 25 st.length = (s : Int) + 1 ∧ Q st.length cur ∧ (R.fm st.length = 0 → s < n) ∧ (R.fm st.length ≠ 0 → s = 0)) ∧ StQ R n Q w st vs
theorem StQ_VV {R : RU} {n : Nat} {Q : Nat → (Nat → Int) → Prop} {w : World} {st : List FR2} {cur : Nat → Int} (h : StQ R n Q w st cur) : VV cur := by
  cases st with
  | nil => exact h
  | cons f st => obtain ⟨s, vs⟩ := f; exact h.1.2.1
theorem StQ_cov {R : RU} {n : Nat} {Q : Nat → (Nat → Int) → Prop} {w : World} {st : List FR2} {cur : Nat → Int} (h : StQ R n Q w st cur) : CovQ R st.length cur := by
  cases st with
  | nil => intro j c' hj; exact absurd hj (by simp)
  | cons f st => obtain ⟨s, vs⟩ := f; exact h.1.2.2.1
theorem StQ_congr {R : RU} {n : Nat} {Q : Nat → (Nat → Int) → Prop} {w w' : World} : ∀ {st : List FR2} {cur : Nat → Int}, (∀ j : Nat, j < st.length → (∀ v, v < 8 → (w' 24 v = (j : Int) ↔ w 24 v = (j : Int))) ∧ w' 25 j = w 25 j) → StQ R n Q w st cur → StQ R n Q w' st cur := by
  intro st
  induction st with
  | nil => intro cur _ h; exact h
  | cons f st ih =>
    intro cur hw h
    obtain ⟨s, vs⟩ := f
    obtain ⟨⟨⟨m, m1, m2, m3⟩, h2, h3, h4, h5, h6, h7⟩, h8⟩ := h
    have := hw st.length (by simp)
    exact ⟨⟨⟨m, m1, fun v hv => (m2 v hv).trans (this.1 v hv).symm, m3⟩, h2, h3, by rw [this.2]; exact h4, h5, h6, h7⟩, ih (fun j hj => hw j (by simp; omega)) h8⟩
/-- variables are bound by what is ahead of a depth -/
def ByQ (w : World) (d : Nat) : Prop := ∀ v, v < 8 → w 24 v = -9 ∨ w 24 v < (d : Int)
theorem vB_uw {w : World} {own : Int} {v : Nat} : vB (uw w own) v = if v < 8 ∧ w 24 v = own then -1 else vB w v := by
  show (if uw w own 24 v = -9 then (-1 : Int) else uw w own 23 v) = _
  rw [uw_24, uw_fr (show 23 ≠ 24 by decide)]
  by_cases q : v < 8 ∧ w 24 v = own
  · rw [if_pos q, if_pos rfl, if_pos q]
  · rw [if_neg q, if_neg q]
    rfl
theorem vB_by {w : World} {d : Nat} (h : ByQ w d) : vB (uw w (d : Int)) = vB w := by
  funext v
  rw [vB_uw]
  by_cases q : v < 8 ∧ w 24 v = (d : Int)
  · rcases h v q.1 with h1 | h1 <;> omega
  · rw [if_neg q]
/-- the values ahead of a literal are there again -/
theorem vB_back {R : RU} {n : Nat} {Q : Nat → (Nat → Int) → Prop} {w : World} {s : Nat} {vs : Nat → Int} {st : List FR2} (h : StQ R n Q w ((s, vs) :: st) (vB w)) : vB (uw w (st.length : Int)) = vs := by
  obtain ⟨⟨⟨m, m1, m2, m3⟩, -⟩, -⟩ := h
  funext v
  rw [vB_uw]
  have hub := congrFun m3.ub v
  rw [← hub]
  show _ = if m.testBit v = true then -1 else vB w v
  by_cases hv : v < 8
  · by_cases q : w 24 v = (st.length : Int)
    · rw [if_pos ⟨hv, q⟩, if_pos ((m2 v hv).mpr q)]
    · rw [if_neg (fun z => q z.2), if_neg (fun z => q ((m2 v hv).mp z))]
  · rw [if_neg (fun z => hv z.1), if_neg]
    rw [tb_hi (k := 8) m1 (by omega)]
    decide
/-- a walk's world but for its own cells -/
def FrQ (w w' : World) : Prop := ∀ c k, c ≠ 23 → c ≠ 24 → c ≠ 25 → ¬ (c = 1 ∧ (k = 29 ∨ k = 30)) → w' c k = w c k
theorem FrQ.refl {w : World} : FrQ w w := fun _ _ _ _ _ _ => rfl
theorem FrQ.trans {w w' w'' : World} (h : FrQ w w') (h' : FrQ w' w'') : FrQ w w'' := fun c k a b d e => (h' c k a b d e).trans (h c k a b d e)
theorem FrQ.cell {w w' : World} (h : FrQ w w') {c : Nat} (h1 : c ≠ 1) (h2 : c < 23 ∨ 25 < c) : w' c = w c := funext (fun k => h c k (by omega) (by omega) (by omega) (fun z => h1 z.1))
theorem WkB_congr {w w' : World} {ru M E n : Nat} {ρ c : Nat → Nat} (h : FrQ w w') (hC : WkB w ru M E n ρ c) : WkB w' ru M E n ρ c := by
  obtain ⟨a1, a2, a3, a4, a5, a6⟩ := hC
  have e : ∀ k, 3 ≤ k → k ≤ 22 → w' k = w k := fun k h1 h2 => h.cell (by omega) (by omega)
  have hSA : SA w' = SA w := SA_c5 (fun c h1 h2 => e c h1 (by omega))
  have hR : RBB w' ru = RBB w ru := RBB_congr (fun c h1 h2 => e c (by omega) (by omega)) ru
  exact ⟨a1, WfT_congr (fun c h1 h2 => e c h1 (by omega)) a2, BMod_congr (fun k hk => e k (by omega) (by omega)) a3, a4, by rw [hSA, hR]; exact a5, by rw [hSA]; exact a6⟩
theorem FrQ.SA {w w' : World} (h : FrQ w w') : SA w' = SA w := SA_c5 (fun c h1 h2 => h.cell (by omega) (by omega))
theorem FrQ.R {w w' : World} (h : FrQ w w') (ru : Nat) : RBB w' ru = RBB w ru := RBB_congr (fun c h1 h2 => h.cell (by omega) (by omega)) ru
noncomputable def remQ (O : Nat → (Nat → Int) → Nat → Option ((Nat → Int) × Nat)) (R : RU) (n E : Nat) : List FR2 → List ((Nat → Int) × List Nat)
  | [] => []
  | (s, vs) :: st => (cand R n st.length (s + 1)).flatMap (fun s => mo (O st.length vs s) (fun q => en O (fun d => cand R n d 0) (E - st.length - 1) (st.length + 1) q.1 (s :: pthQ st))) ++ remQ O R n E st
/-- how much is left, digit by digit -/
def dgQ (E : Nat) : List FR2 → Nat
  | [] => 0
  | (s, _) :: st => (48 - s) * 49 ^ (E - st.length - 1) + dgQ E st
/-- what a search comes to -/
def OutQ (R : RU) (O : Nat → (Nat → Int) → Nat → Option ((Nat → Int) × Nat)) (Q : Nat → (Nat → Int) → Prop) (ru M E n : Nat) (w : World) (u : Nat) (st : List FR2) (vs : Nat → Int) : List ((Nat → Int) × List Nat) → Prop
  | [] => ∃ w', f_Re_next_34 w (ru : Int) (E : Int) (M : Int) = f_Re_next_34 w' (ru : Int) (E : Int) (M : Int) ∧ FrQ w w' ∧ w' 1 29 = (st.length : Int) - 1 ∧ w' 1 30 = w 1 30 ∧ VB w' ∧ vB w' = vs ∧ ByQ w' st.length ∧ StQ R n Q w' st vs
  | x :: xs => ∃ (w' : World) (fs : List FR2), f_Re_next_34 w (ru : Int) (E : Int) (M : Int) = some (w', 1) ∧ FrQ w w' ∧ w' 1 30 = w 1 30 ∧ (fs ++ st).length = E ∧ VB w' ∧ vB w' = x.1 ∧ ByQ w' E ∧ pthQ (fs ++ st) = x.2 ∧ remQ O R n E (fs ++ st) = xs ++ remQ O R n E st ∧ dgQ E (fs ++ st) < u ∧ StQ R n Q w' (fs ++ st) x.1
/-- one try at a depth -/
theorem stepQ {w : World} {ru d M E n k : Nat} {ρ c : Nat → Nat} {Q : Nat → (Nat → Int) → Prop} {vs : Nat → Int} {st : List FR2} (hC : WkB w ru M E n ρ c) (hst : st.length = d) (hd : d < E) (hV : VB w) (hl : w 1 29 = (d : Int)) (hk : w 25 d = (k : Int)) (hkn : (RBB w ru).fm d = 0 → k ≤ n) (hvs : vB (uw w (d : Int)) = vs) (hby : ByQ w (d + 1)) (hS : StQ (RBB w ru) n Q w st vs) :
    match scan (oq (SA w) (AM n ρ c) (RBB w ru) ρ c d vs) (cand (RBB w ru) n d k) with
    | none => ∃ w', f_Re_next_34 w (ru : Int) (E : Int) (M : Int) = f_Re_next_34 w' (ru : Int) (E : Int) (M : Int) ∧ FrQ w w' ∧ w' 1 29 = (d : Int) - 1 ∧ w' 1 30 = w 1 30 ∧ VB w' ∧ vB w' = vs ∧ ByQ w' d ∧ StQ (RBB w ru) n Q w' st vs
    | some (s, q, _) => ∃ w', f_Re_next_34 w (ru : Int) (E : Int) (M : Int) = f_Re_next_34 w' (ru : Int) (E : Int) (M : Int) ∧ FrQ w w' ∧ w' 1 29 = (d : Int) + 1 ∧ w' 1 30 = w 1 30 ∧ (d + 1 < E → w' 25 (d + 1) = 0) ∧ VB w' ∧ vB w' = q.1 ∧ ByQ w' (d + 1) ∧ w' 25 d = (s : Int) + 1 ∧ (∀ v, v < 8 → (q.2.testBit v = true ↔ w' 24 v = (d : Int))) ∧ StQ (RBB w ru) n Q w' st vs := by
  have hE5 := hC.2.2.2.2.1.1
  have hcov : CovQ (RBB w ru) d (vB (uw w (d : Int))) := by rw [hvs, ← hst]; exact StQ_cov hS
  have ht := tries_n hC hd hV hcov hk hkn
  rw [hvs] at ht
  have u24 : ∀ v, v < 8 → uw w (d : Int) 24 v ≠ (d : Int) := uw_no (by omega)
  have ub : ∀ v, v < 8 → uw w (d : Int) 24 v = -9 ∨ uw w (d : Int) 24 v < (d : Int) := fun v hv => by
    rw [uw_24]
    by_cases q : w 24 v = (d : Int)
    · rw [if_pos ⟨hv, q⟩]; exact Or.inl rfl
    · rw [if_neg (fun z => q z.2)]
      rcases hby v hv with h | h
      · exact Or.inl h
      · right; omega
  have uj : ∀ v, v < 8 → ∀ j : Nat, j < d → (uw w (d : Int) 24 v = (j : Int) ↔ w 24 v = (j : Int)) := fun v hv j hj => by
    rw [uw_24]
    by_cases q : w 24 v = (d : Int)
    · rw [if_pos ⟨hv, q⟩]; omega
    · rw [if_neg (fun z => q z.2)]
  have ufr : ∀ c0, c0 ≠ 24 → uw w (d : Int) c0 = w c0 := fun c0 h => uw_fr h
  cases hsc : scan (oq (SA w) (AM n ρ c) (RBB w ru) ρ c d vs) (cand (RBB w ru) n d k) with
  | none =>
    rw [hsc] at ht
    obtain ⟨w2, e2, ⟨h1, h2, h3⟩, hV2⟩ := ht
    have l2 : w2 1 29 = (d : Int) := by rw [h1 1 (by decide) (by decide), ufr 1 (by decide)]; exact hl
    obtain ⟨w3, hw3⟩ : ∃ w3, w3 = up w2 1 29 ((d : Int) - 1) := ⟨_, rfl⟩
    have f3 : ∀ c0, c0 ≠ 1 → w3 c0 = w2 c0 := fun c0 h => by rw [hw3]; funext k; simp [up, h]
    have f1 : ∀ k, k ≠ 29 → w3 1 k = w2 1 k := fun k h => by rw [hw3]; simp [up, h]
    have v3 : vB w3 = vB w2 := by unfold vB; rw [f3 24 (by decide), f3 23 (by decide)]
    have hEq : EqC d (uw w (d : Int)) w2 := ⟨h1, h2, h3⟩
    refine ⟨w3, ?_, fun c0 k0 a b e g => ?_, by rw [hw3]; simp [up], by rw [f1 30 (by decide), h1 1 (by decide) (by decide), ufr 1 (by decide)], fun v hv => ?_, by rw [v3, hEq.vB]; exact hvs, fun v hv => ?_, StQ_congr (fun j hj => ⟨fun v hv => ?_, ?_⟩) hS⟩
    · unfold f_Re_next_34
      refine lp_step ?_
      show f_Re_next_34B w (ru : Int) (E : Int) (M : Int) = _
      unfold f_Re_next_34B
      rw [hl, if_neg (by omega), if_neg (by omega), e2, bnd_s, if_pos rfl, bl_s]
      dsimp only
      rw [l2, wr_of (x := (d : Int) - 1) ⟨by omega, by omega⟩, hw3]
    · by_cases q : c0 = 1
      · subst q
        rw [f1 k0 (fun z => g ⟨rfl, Or.inl z⟩), h1 1 (by decide) (by decide), ufr 1 (by decide)]
      · rw [f3 c0 q, h1 c0 a e, ufr c0 b]
    · rw [f3 24 (by decide)] at hv
      rw [f3 23 (by decide)]
      exact hV2 v hv
    · rw [f3 24 (by decide), h1 24 (by decide) (by decide)]
      exact ub v hv
    · rw [f3 24 (by decide), h1 24 (by decide) (by decide)]
      exact uj v hv j (by omega)
    · rw [f3 25 (by decide), h2 j (by omega), ufr 25 (by decide)]
  | some z =>
    obtain ⟨s, q, rest⟩ := z
    rw [hsc] at ht
    obtain ⟨w2, e2, hcur, ⟨b1, b2, b3, b4, b5, b6⟩, hV2, hv2⟩ := ht
    have l2 : w2 1 29 = (d : Int) := by rw [b1 1 (by decide) (by decide) (by decide), ufr 1 (by decide)]; exact hl
    obtain ⟨w3, hw3⟩ : ∃ w3, w3 = up w2 1 29 ((d : Int) + 1) := ⟨_, rfl⟩
    have f3 : ∀ c0, c0 ≠ 1 → w3 c0 = w2 c0 := fun c0 h => by rw [hw3]; funext k; simp [up, h]
    have f1 : ∀ k, k ≠ 29 → w3 1 k = w2 1 k := fun k h => by rw [hw3]; simp [up, h]
    have l3 : w3 1 29 = (d : Int) + 1 := by rw [hw3]; simp [up]
    obtain ⟨w4, hw4⟩ : ∃ w4, w4 = if d + 1 < E then up w3 25 (d + 1) 0 else w3 := ⟨_, rfl⟩
    have g4 : ∀ c0, c0 ≠ 25 → w4 c0 = w3 c0 := fun c0 h => by
      rw [hw4]
      split
      · funext k; simp [up, h]
      · rfl
    have g25 : ∀ k, k ≠ d + 1 → w4 25 k = w3 25 k := fun k h => by
      rw [hw4]
      split
      · simp [up, h]
      · rfl
    have v4 : vB w4 = vB w2 := by unfold vB; rw [g4 24 (by decide), g4 23 (by decide), f3 24 (by decide), f3 23 (by decide)]
    have e24 : w4 24 = w2 24 := by rw [g4 24 (by decide), f3 24 (by decide)]
    have k24 : ∀ v, v < 8 → (q.2.testBit v = true ↔ w2 24 v = (d : Int)) := fun v hv => by
      constructor
      · intro h; exact (b4 v h).2
      · intro h
        by_cases z : q.2.testBit v = true
        · exact z
        · have z : q.2.testBit v = false := by simpa using z
          rw [b5 v z] at h
          exact absurd h (u24 v hv)
    refine ⟨w4, ?_, fun c0 k0 a b e g => ?_, by rw [g4 1 (by decide)]; exact l3, by rw [g4 1 (by decide), f1 30 (by decide), b1 1 (by decide) (by decide) (by decide), ufr 1 (by decide)], fun h => by rw [hw4, if_pos h]; simp [up], fun v hv => ?_, by rw [v4]; exact hv2, fun v hv => ?_, by rw [g25 d (by omega), f3 25 (by decide)]; exact hcur, fun v hv => by rw [e24]; exact k24 v hv, StQ_congr (fun j hj => ⟨fun v hv => ?_, ?_⟩) hS⟩
    · unfold f_Re_next_34
      refine lp_step ?_
      show f_Re_next_34B w (ru : Int) (E : Int) (M : Int) = _
      unfold f_Re_next_34B
      rw [hl, if_neg (by omega), if_neg (by omega), e2, bnd_s, if_neg (show ¬ ((w2, (1 : Int)).2 = 0) from (by decide : ¬ (1 : Int) = 0))]
      show bl (up w2 1 29 (wr (w2 1 29 + 1))) (fun w18 => if (E : Int) ≤ (w18 1 29) then (some (Sum.inl w18)) else (gd (0 ≤ w18 1 29 ∧ w18 1 29 < 5) (bl (up w18 25 (w18 1 29).toNat 0) fun w24 => some (Sum.inl w24)))) = _
      rw [l2, wr_of (x := (d : Int) + 1) ⟨by omega, by omega⟩, ← hw3, bl_s, l3]
      by_cases z : d + 1 < E
      · rw [if_neg (by omega), gd_t ⟨by omega, by omega⟩, bl_s, hw4, if_pos z, show ((d : Int) + 1).toNat = d + 1 by omega]
      · rw [if_pos (by omega), hw4, if_neg z]
    · by_cases z : c0 = 1
      · subst z
        rw [g4 1 (by decide), f1 k0 (fun z => g ⟨rfl, Or.inl z⟩), b1 1 (by decide) (by decide) (by decide), ufr 1 (by decide)]
      · rw [g4 c0 e, f3 c0 z, b1 c0 a b e, ufr c0 b]
    · rw [e24] at hv
      rw [g4 23 (by decide), f3 23 (by decide)]
      exact hV2 v hv
    · rw [e24]
      by_cases z : q.2.testBit v = true
      · right; have := (b4 v z).2; omega
      · have z : q.2.testBit v = false := by simpa using z
        rw [b5 v z]
        rcases ub v hv with h | h
        · exact Or.inl h
        · right; omega
    · rw [e24]
      by_cases z : q.2.testBit v = true
      · have k1 := (b4 v z)
        have k2 := uj v hv j (by omega)
        constructor
        · intro h; have := k1.2; omega
        · intro h; have := k2.mpr h; have := k1.1; omega
      · have z : q.2.testBit v = false := by simpa using z
        rw [b5 v z]
        exact uj v hv j (by omega)
    · rw [g25 j (by omega), f3 25 (by decide), b2 j (by omega), ufr 25 (by decide)]
theorem OutQ_pre {R : RU} {O : Nat → (Nat → Int) → Nat → Option ((Nat → Int) × Nat)} {Q : Nat → (Nat → Int) → Prop} {ru M E n u u' : Nat} {w w2 : World} {st : List FR2} {vs : Nat → Int} {l : List ((Nat → Int) × List Nat)} (h : f_Re_next_34 w (ru : Int) (E : Int) (M : Int) = f_Re_next_34 w2 (ru : Int) (E : Int) (M : Int)) (hF : FrQ w w2) (h30 : w2 1 30 = w 1 30) (hu : u ≤ u') (hO : OutQ R O Q ru M E n w2 u st vs l) : OutQ R O Q ru M E n w u' st vs l := by
  cases l with
  | nil =>
    obtain ⟨w', e1, e2, e3, e4, e5⟩ := hO
    exact ⟨w', h.trans e1, hF.trans e2, e3, e4.trans h30, e5⟩
  | cons x xs =>
    obtain ⟨w', fs, e1, e2, e3, e4, e5, e6, e7, e8, e9, e10, e11⟩ := hO
    exact ⟨w', fs, h.trans e1, hF.trans e2, e3.trans h30, e4, e5, e6, e7, e8, e9, Nat.lt_of_lt_of_le e10 hu, e11⟩
/-- from a depth on -/
def P1Q (R : RU) (O : Nat → (Nat → Int) → Nat → Option ((Nat → Int) × Nat)) (Q : Nat → (Nat → Int) → Prop) (w0 : World) (ru M E n k : Nat) : Prop := ∀ (w : World) (st : List FR2), st.length + k = E → FrQ w0 w → w 1 29 = (st.length : Int) → (st.length < E → w 25 st.length = 0) → VB w → ByQ w st.length → StQ R n Q w st (vB w) →
      OutQ R O Q ru M E n w (49 ^ k + dgQ E st) st (vB w) (en O (fun d => cand R n d 0) k st.length (vB w) (pthQ st))
/-- within a depth -/
def P2Q (R : RU) (O : Nat → (Nat → Int) → Nat → Option ((Nat → Int) × Nat)) (Q : Nat → (Nat → Int) → Prop) (w0 : World) (ru M E n k : Nat) : Prop := ∀ (j : Nat) (w : World) (st : List FR2) (vs : Nat → Int), j ≤ 49 → st.length + (k + 1) = E → FrQ w0 w → w 1 29 = (st.length : Int) → w 25 st.length = (j : Int) → (R.fm st.length = 0 → j ≤ n) → VB w → vB (uw w (st.length : Int)) = vs → ByQ w (st.length + 1) → StQ R n Q w st vs →
      OutQ R O Q ru M E n w ((49 - j) * 49 ^ k + dgQ E st) st vs ((cand R n st.length j).flatMap (fun s => mo (O st.length vs s) (fun q => en O (fun d => cand R n d 0) k (st.length + 1) q.1 (s :: pthQ st))))
theorem P2_of_P1 {w0 : World} {ru M E n k : Nat} {ρ c : Nat → Nat} {Q : Nat → (Nat → Int) → Prop} {R : RU} {O : Nat → (Nat → Int) → Nat → Option ((Nat → Int) × Nat)} (hC : WkB w0 ru M E n ρ c) (hR : RBB w0 ru = R) (hO : oq (SA w0) (AM n ρ c) R ρ c = O) (hQ : ∀ d vs s q, d < E → VV vs → CovQ R d vs → (R.fm d = 0 → s < n) → O d vs s = some q → Q d q.1) (hP : P1Q R O Q w0 ru M E n k) : P2Q R O Q w0 ru M E n k := by
  have hn48 := hC.2.2.2.1
  have main : ∀ (t j : Nat) (w : World) (st : List FR2) (vs : Nat → Int), 49 - j ≤ t → j ≤ 49 → st.length + (k + 1) = E → FrQ w0 w → w 1 29 = (st.length : Int) → w 25 st.length = (j : Int) → (R.fm st.length = 0 → j ≤ n) → VB w → vB (uw w (st.length : Int)) = vs → ByQ w (st.length + 1) → StQ R n Q w st vs →
      OutQ R O Q ru M E n w ((49 - j) * 49 ^ k + dgQ E st) st vs ((cand R n st.length j).flatMap (fun s => mo (O st.length vs s) (fun q => en O (fun d => cand R n d 0) k (st.length + 1) q.1 (s :: pthQ st)))) := by
    intro t
    induction t with
    | zero =>
      intro j w st vs ht hj49 hk hF hl hcj hjn hV hvs hby hS
      have hRw : RBB w ru = R := (hF.R ru).trans hR
      have hj : j = 49 := by omega
      have f0 : ¬ R.fm st.length = 0 := fun h => by have := hjn h; omega
      have hcd : cand R n st.length j = [] := by unfold cand; rw [if_neg f0, if_neg (by omega)]
      have hs := stepQ (WkB_congr hF hC) rfl (show st.length < E by omega) hV hl hcj (by rw [hRw]; exact hjn) hvs hby (by rw [hRw]; exact hS)
      rw [hRw, hcd] at hs
      rw [hcd]
      exact hs
    | succ t ih =>
      intro j w st vs ht hj49 hk hF hl hcj hjn hV hvs hby hS
      have hRw : RBB w ru = R := (hF.R ru).trans hR
      have hCw := WkB_congr hF hC
      have hs := stepQ hCw rfl (show st.length < E by omega) hV hl hcj (by rw [hRw]; exact hjn) hvs hby (by rw [hRw]; exact hS)
      rw [hRw, hF.SA, hO] at hs
      cases hsc : scan (O st.length vs) (cand R n st.length j) with
      | none =>
        rw [hsc] at hs
        rw [scan_flat_none hsc]
        exact hs
      | some z =>
        obtain ⟨s, q, rest⟩ := z
        rw [hsc] at hs
        obtain ⟨w', e1, e2, e3, e4, e5, e6, e7, e8, e9, e10, e11⟩ := hs
        obtain ⟨c1, c2, c3, c4, c5⟩ := scan_cand hjn hsc
        have hs48 : s < 48 := by
          by_cases f0 : R.fm st.length = 0
          · have := c4 f0; omega
          · have := c5 f0; omega
        rw [scan_flat_some hsc, c2]
        have hWkQ := hC.2.2.2.2.1
        rw [hR] at hWkQ
        have hok := oq_ok (D := SA w0) (M := AM n ρ c) (ρ := ρ) (c := c) hWkQ (show st.length < E by omega) (StQ_VV hS) (StQ_cov hS) (by rw [hO]; exact c1)
        have hS' : StQ R n Q w' ((s, vs) :: st) (vB w') := ⟨⟨⟨q.2, hok.2.1.1, e10, by rw [e7]; exact hok.2.1⟩, by rw [e7]; exact hok.1, by rw [e7]; exact hok.2.2, e9, by rw [e7]; exact hQ st.length vs s q (by omega) (StQ_VV hS) (StQ_cov hS) c4 c1, c4, c5⟩, e11⟩
        have hP' := hP w' ((s, vs) :: st) (by simp; omega) (hF.trans e2) (by rw [e3]; simp) (by simpa using e5) e6 (by simpa using e8) hS'
        have hlen : ((s, vs) :: st).length = st.length + 1 := rfl
        have hpth : pthQ ((s, vs) :: st) = s :: pthQ st := rfl
        rw [hlen, hpth, e7] at hP'
        have hdg : dgQ E ((s, vs) :: st) = (48 - s) * 49 ^ k + dgQ E st := by
          show (48 - s) * 49 ^ (E - st.length - 1) + dgQ E st = _
          rw [show E - st.length - 1 = k by omega]
        have hb : 49 ^ k + dgQ E ((s, vs) :: st) ≤ (49 - j) * 49 ^ k + dgQ E st := by
          rw [hdg]
          have : (48 - s + 1) * 49 ^ k ≤ (49 - j) * 49 ^ k := Nat.mul_le_mul_right _ (by omega)
          rw [Nat.add_mul, Nat.one_mul] at this
          omega
        cases hen : en O (fun d => cand R n d 0) k (st.length + 1) q.1 (s :: pthQ st) with
        | nil =>
          rw [hen] at hP'
          obtain ⟨w2, g1, g2, g3, g4, g5, g6, g7, g8⟩ := hP'
          rw [hlen] at g3 g7
          rw [List.nil_append]
          have hvs2 : vB (uw w2 (st.length : Int)) = vs := vB_back (by rw [g6]; exact g8)
          have h := ih (s + 1) w2 st vs (by omega) (by omega) hk (hF.trans (e2.trans g2)) (by rw [g3]; omega) (by rw [g8.1.2.2.2.1]; omega) (fun h => by have := c4 h; omega) g5 hvs2 g7 g8.2
          refine OutQ_pre (e1.trans g1) (e2.trans g2) (g4.trans e4) ?_ h
          have : (49 - (s + 1)) * 49 ^ k ≤ (49 - j) * 49 ^ k := Nat.mul_le_mul_right _ (by omega)
          omega
        | cons x xs =>
          rw [hen] at hP'
          obtain ⟨w2, fs, g1, g2, g3, g4, g5, g6, g7, g8, g9, g10, g11⟩ := hP'
          have ea : fs ++ (s, vs) :: st = (fs ++ [(s, vs)]) ++ st := by simp
          rw [ea] at g4 g8 g9 g10 g11
          refine ⟨w2, fs ++ [(s, vs)], e1.trans g1, e2.trans g2, g3.trans e4, g4, g5, g6, g7, g8, ?_, Nat.lt_of_lt_of_le g10 hb, g11⟩
          rw [g9]
          show xs ++ ((cand R n st.length (s + 1)).flatMap _ ++ remQ O R n E st) = _
          rw [show E - st.length - 1 = k by omega]
          exact (List.append_assoc _ _ _).symm
  exact fun j w st vs => main (49 - j) j w st vs (Nat.le_refl _)
theorem P1_all {w0 : World} {ru M E n : Nat} {ρ c : Nat → Nat} {Q : Nat → (Nat → Int) → Prop} {R : RU} {O : Nat → (Nat → Int) → Nat → Option ((Nat → Int) × Nat)} (hC : WkB w0 ru M E n ρ c) (hR : RBB w0 ru = R) (hO : oq (SA w0) (AM n ρ c) R ρ c = O) (hQ : ∀ d vs s q, d < E → VV vs → CovQ R d vs → (R.fm d = 0 → s < n) → O d vs s = some q → Q d q.1) : ∀ k : Nat, P1Q R O Q w0 ru M E n k := by
  intro k
  induction k with
  | zero =>
    intro w st hk hF hl _ hV hby hS
    refine ⟨w, [], ?_, FrQ.refl, rfl, by simpa using hk, hV, rfl, by rw [show E = st.length by omega]; exact hby, rfl, rfl, by show dgQ E st < _; rw [Nat.pow_zero]; omega, hS⟩
    unfold f_Re_next_34
    refine lp_out ?_
    show f_Re_next_34B w (ru : Int) (E : Int) (M : Int) = _
    unfold f_Re_next_34B f_Re_next_106
    rw [hl, if_neg (by omega), if_pos (by omega), if_neg (by omega), bnd_s]
  | succ k ih =>
    intro w st hk hF hl h25 hV hby hS
    have h := P2_of_P1 hC hR hO hQ ih 0 w st (vB w) (by omega) hk hF hl (h25 (by omega)) (fun _ => by omega) hV (vB_by hby) (fun v hv => by rcases hby v hv with h | h; exact Or.inl h; right; omega) hS
    have e : (49 - 0) * 49 ^ k = 49 ^ (k + 1) := by rw [Nat.pow_succ]; omega
    rw [e] at h
    exact h
/-- what next answers -/
def NxQ (R : RU) (O : Nat → (Nat → Int) → Nat → Option ((Nat → Int) × Nat)) (Q : Nat → (Nat → Int) → Prop) (E n : Nat) (w : World) (u : Nat) (r : Option (World × Int)) : List ((Nat → Int) × List Nat) → Prop
  | [] => ∃ w', r = some (w', 0) ∧ FrQ w w' ∧ w' 1 30 = 1 ∧ VB w'
  | x :: xs => ∃ (w' : World) (st : List FR2), r = some (w', 1) ∧ FrQ w w' ∧ w' 1 30 = 1 ∧ st.length = E ∧ VB w' ∧ vB w' = x.1 ∧ ByQ w' E ∧ pthQ st = x.2 ∧ remQ O R n E st = xs ∧ dgQ E st < u ∧ StQ R n Q w' st x.1
theorem back0 {w : World} {ru M E : Nat} (hl : w 1 29 = -1) : f_Re_next_34 w (ru : Int) (E : Int) (M : Int) = some (w, 0) := by
  unfold f_Re_next_34
  refine lp_out ?_
  show f_Re_next_34B w (ru : Int) (E : Int) (M : Int) = _
  unfold f_Re_next_34B f_Re_next_106
  rw [hl, if_pos (by decide), if_pos (by decide), bnd_s]
/-- the first assignment -/
theorem nextQ_first {w : World} {ru M E n : Nat} {ρ c : Nat → Nat} {Q : Nat → (Nat → Int) → Prop} (hC : WkB w ru M E n ρ c) (hQ : ∀ d vs s q, d < E → VV vs → CovQ (RBB w ru) d vs → ((RBB w ru).fm d = 0 → s < n) → oq (SA w) (AM n ρ c) (RBB w ru) ρ c d vs s = some q → Q d q.1) (hV : VB w) (hby : ByQ w 0) (h30 : w 1 30 = 0) :
    NxQ (RBB w ru) (oq (SA w) (AM n ρ c) (RBB w ru) ρ c) Q E n w (49 ^ E) (f_Re_next w (ru : Int) (E : Int) (M : Int)) (en (oq (SA w) (AM n ρ c) (RBB w ru) ρ c) (fun d => cand (RBB w ru) n d 0) E 0 (vB w) []) := by
  obtain ⟨w1, hw1⟩ : ∃ w1, w1 = up (up (up w 1 30 1) 1 29 0) 25 0 0 := ⟨_, rfl⟩
  have f1 : ∀ c0, c0 ≠ 1 → c0 ≠ 25 → w1 c0 = w c0 := fun c0 h h' => by rw [hw1]; funext k; simp [up, h, h']
  have hF : FrQ w w1 := fun c0 k0 a b e g => by
    by_cases q : c0 = 1
    · subst q
      have h1 : k0 ≠ 29 := fun z => g ⟨rfl, Or.inl z⟩
      have h2 : k0 ≠ 30 := fun z => g ⟨rfl, Or.inr z⟩
      rw [hw1]; simp [up, h1, h2]
    · rw [f1 c0 q e]
  have hv : vB w1 = vB w := by unfold vB; rw [f1 24 (by decide) (by decide), f1 23 (by decide) (by decide)]
  have hV1 : VB w1 := fun v hv => by rw [f1 24 (by decide) (by decide)] at hv; rw [f1 23 (by decide) (by decide)]; exact hV v hv
  have e30 : w1 1 30 = 1 := by rw [hw1]; simp [up]
  have h := P1_all hC rfl rfl hQ E w1 [] (by simp) hF (by rw [hw1]; simp [up]) (fun _ => by rw [hw1]; simp [up]) hV1 (fun v hv => by rw [f1 24 (by decide) (by decide)]; exact hby v hv) (by rw [hv]; exact hV.vv)
  have e : f_Re_next w (ru : Int) (E : Int) (M : Int) = f_Re_next_34 w1 (ru : Int) (E : Int) (M : Int) := by
    unfold f_Re_next
    rw [if_pos h30, bl_s, bl_s, bl_s, hw1]
  rw [e, ← hv]
  have hp : pthQ [] = [] := rfl
  rw [hp] at h
  have hl0 : ([] : List FR2).length = 0 := rfl
  rw [hl0] at h
  cases hen : en (oq (SA w) (AM n ρ c) (RBB w ru) ρ c) (fun d => cand (RBB w ru) n d 0) E 0 (vB w1) [] with
  | nil =>
    rw [hen] at h
    obtain ⟨w2, g1, g2, g3, g4, g5, -⟩ := h
    exact ⟨w2, g1.trans (back0 (by rw [g3]; rfl)), hF.trans g2, g4.trans e30, g5⟩
  | cons x xs =>
    rw [hen] at h
    obtain ⟨w2, fs, g1, g2, g3, g4, g5, g6, g7, g8, g9, g10, g11⟩ := h
    rw [List.append_nil] at g4 g8 g9 g10 g11
    refine ⟨w2, fs, g1, hF.trans g2, g3.trans e30, g4, g5, g6, g7, g8, by rw [g9]; show xs ++ [] = xs; exact List.append_nil xs, ?_, g11⟩
    have : dgQ E [] = 0 := rfl
    rw [this] at g10
    exact g10
/-- from behind -/
theorem backQ {w0 : World} {ru M E n : Nat} {ρ c : Nat → Nat} {Q : Nat → (Nat → Int) → Prop} {R : RU} {O : Nat → (Nat → Int) → Nat → Option ((Nat → Int) × Nat)} (hC : WkB w0 ru M E n ρ c) (hR : RBB w0 ru = R) (hO : oq (SA w0) (AM n ρ c) R ρ c = O) (hQ : ∀ d vs s q, d < E → VV vs → CovQ R d vs → (R.fm d = 0 → s < n) → O d vs s = some q → Q d q.1) : ∀ (st : List FR2) (w : World), st.length ≤ E → FrQ w0 w → w 1 29 = (st.length : Int) - 1 → w 1 30 = 1 → VB w → ByQ w st.length → StQ R n Q w st (vB w) → NxQ R O Q E n w (dgQ E st) (f_Re_next_34 w (ru : Int) (E : Int) (M : Int)) (remQ O R n E st) := by
  have hn48 := hC.2.2.2.1
  intro st
  induction st with
  | nil =>
    intro w hle hF hl h30 hV hby hS
    exact ⟨w, back0 (by rw [hl]; rfl), FrQ.refl, h30, hV⟩
  | cons f st ih =>
    intro w hle hF hl h30 hV hby hS
    obtain ⟨s, vs⟩ := f
    have hlen : ((s, vs) :: st).length = st.length + 1 := rfl
    rw [hlen] at hle hl hby
    have hs48 : s < 48 := by
      by_cases f0 : R.fm st.length = 0
      · have := hS.1.2.2.2.2.2.1 f0; omega
      · have := hS.1.2.2.2.2.2.2 f0; omega
    obtain ⟨k, hk⟩ : ∃ k, E - st.length - 1 = k := ⟨_, rfl⟩
    have h := P2_of_P1 hC hR hO hQ (P1_all hC hR hO hQ k) (s + 1) w st vs (by omega) (by omega) hF (by rw [hl]; omega) (by rw [hS.1.2.2.2.1]; omega) (fun h => by have := hS.1.2.2.2.2.2.1 h; omega) hV (vB_back hS) hby hS.2
    have hrem : remQ O R n E ((s, vs) :: st) = (cand R n st.length (s + 1)).flatMap (fun s => mo (O st.length vs s) (fun q => en O (fun d => cand R n d 0) k (st.length + 1) q.1 (s :: pthQ st))) ++ remQ O R n E st := by
      show (cand R n st.length (s + 1)).flatMap (fun s => mo (O st.length vs s) (fun q => en O (fun d => cand R n d 0) (E - st.length - 1) (st.length + 1) q.1 (s :: pthQ st))) ++ remQ O R n E st = _
      rw [hk]
    have hdg : dgQ E ((s, vs) :: st) = (48 - s) * 49 ^ k + dgQ E st := by
      show (48 - s) * 49 ^ (E - st.length - 1) + dgQ E st = _
      rw [hk]
    rw [hrem]
    cases hen : (cand R n st.length (s + 1)).flatMap (fun s => mo (O st.length vs s) (fun q => en O (fun d => cand R n d 0) k (st.length + 1) q.1 (s :: pthQ st))) with
    | nil =>
      rw [hen] at h
      obtain ⟨w2, g1, g2, g3, g4, g5, g6, g7, g8⟩ := h
      rw [List.nil_append, g1]
      have h2 := ih w2 (by omega) (hF.trans g2) g3 (g4.trans h30) g5 g7 (by rw [g6]; exact g8)
      cases hr : remQ O R n E st with
      | nil =>
        rw [hr] at h2
        obtain ⟨w3, k1, k2, k3⟩ := h2
        exact ⟨w3, k1, g2.trans k2, k3⟩
      | cons x xs =>
        rw [hr] at h2
        obtain ⟨w3, st', k1, k2, k3, k4, k5, k6, k7, k8, k9, k10, k11⟩ := h2
        exact ⟨w3, st', k1, g2.trans k2, k3, k4, k5, k6, k7, k8, k9, by rw [hdg]; omega, k11⟩
    | cons x xs =>
      rw [hen] at h
      obtain ⟨w2, fs, g1, g2, g3, g4, g5, g6, g7, g8, g9, g10, g11⟩ := h
      rw [List.cons_append]
      exact ⟨w2, fs ++ st, g1, g2, g3.trans h30, g4, g5, g6, g7, g8, g9, by rw [hdg]; rw [show 49 - (s + 1) = 48 - s by omega] at g10; exact g10, g11⟩
/-- .. and each one behind -/
theorem nextQ_again {w : World} {ru M E n : Nat} {ρ c : Nat → Nat} {Q : Nat → (Nat → Int) → Prop} {st : List FR2} (hC : WkB w ru M E n ρ c) (hQ : ∀ d vs s q, d < E → VV vs → CovQ (RBB w ru) d vs → ((RBB w ru).fm d = 0 → s < n) → oq (SA w) (AM n ρ c) (RBB w ru) ρ c d vs s = some q → Q d q.1) (hV : VB w) (hby : ByQ w E) (h30 : w 1 30 = 1) (hst : st.length = E) (hS : StQ (RBB w ru) n Q w st (vB w)) :
    NxQ (RBB w ru) (oq (SA w) (AM n ρ c) (RBB w ru) ρ c) Q E n w (dgQ E st) (f_Re_next w (ru : Int) (E : Int) (M : Int)) (remQ (oq (SA w) (AM n ρ c) (RBB w ru) ρ c) (RBB w ru) n E st) := by
  have hE5 := hC.2.2.2.2.1.1
  obtain ⟨w1, hw1⟩ : ∃ w1, w1 = up w 1 29 ((E : Int) - 1) := ⟨_, rfl⟩
  have f1 : ∀ c0, c0 ≠ 1 → w1 c0 = w c0 := fun c0 h => by rw [hw1]; funext k; simp [up, h]
  have hF : FrQ w w1 := fun c0 k0 a b e g => by
    by_cases q : c0 = 1
    · subst q
      have h1 : k0 ≠ 29 := fun z => g ⟨rfl, Or.inl z⟩
      rw [hw1]; simp [up, h1]
    · rw [f1 c0 q]
  have hv : vB w1 = vB w := by unfold vB; rw [f1 24 (by decide), f1 23 (by decide)]
  have e : f_Re_next w (ru : Int) (E : Int) (M : Int) = f_Re_next_34 w1 (ru : Int) (E : Int) (M : Int) := by
    unfold f_Re_next
    rw [if_neg (by omega), bl_s, wr_of (x := (E : Int) - 1) ⟨by omega, by omega⟩, hw1]
  have h := backQ hC rfl rfl hQ st w1 (by omega) hF (by rw [hw1, hst]; simp [up]) (by rw [hw1]; simp [up, h30]) (fun v hv => by rw [f1 24 (by decide)] at hv; rw [f1 23 (by decide)]; exact hV v hv) (by rw [hst]; intro v hv; rw [f1 24 (by decide)]; exact hby v hv) (by rw [hv]; exact StQ_congr (fun j _ => ⟨fun v _ => by rw [f1 24 (by decide)], by rw [f1 25 (by decide)]⟩) hS)
  rw [e]
  cases hr : remQ (oq (SA w) (AM n ρ c) (RBB w ru) ρ c) (RBB w ru) n E st with
  | nil =>
    rw [hr] at h
    obtain ⟨w3, k1, k2, k3⟩ := h
    exact ⟨w3, k1, hF.trans k2, k3⟩
  | cons x xs =>
    rw [hr] at h
    obtain ⟨w3, st', k1, k2, k3⟩ := h
    exact ⟨w3, st', k1, hF.trans k2, k3⟩
