/-! THE REFERENCE'S WALK: what a literal does, by the rule alone -/
def CovQ (R : RU) (d : Nat) (vs : Nat → Int) : Prop := ∀ j c', j < d → c' < 3 → (R.fm j = 0 ∨ (R.fm j = 3 ∧ c' = 0)) → 0 ≤ vl vs (R.tm j c')
theorem CovQ_ext {R : RU} {d : Nat} {v v' : Nat → Int} (h : CovQ R d v) (he : Ext v v') : CovQ R d v' := by
  intro j c' hj hc hf
  have h1 := h j c' hj hc hf
  rw [vl_ext he h1]
  exact h1
/-- a rule's first literals, as they may be -/
def WkQ (D : SH) (R : RU) (E : Nat) : Prop := E ≤ 5 ∧ (∀ p, p < E → (∀ c, c < 3 → -8 ≤ R.tm p c ∧ R.tm p c < 128) ∧ (0 ≤ R.fm p ∧ R.fm p ≤ 3) ∧ (R.fm p ≤ 1 → ∃ r : Nat, R.sj p = (r : Int) ∧ r < 10 ∧ 1 ≤ D.co (r : Int) ∧ D.co (r : Int) ≤ 3 ∧ ∀ c, c < 3 → D.co (r : Int) ≤ c → R.tm p c = 0)) ∧
  ∀ d, d < E → R.fm d ≠ 0 → ∀ cc, cc < 3 → (R.fm d = 3 → cc ≠ 0) → R.tm d cc < 0 → ∃ j c', j < d ∧ c' < 3 ∧ (R.fm j = 0 ∨ (R.fm j = 3 ∧ c' = 0)) ∧ R.tm j c' = R.tm d cc
theorem WkQ_le {D : SH} {R : RU} {E E' : Nat} (h : WkQ D R E) (hE : E' ≤ E) : WkQ D R E' := ⟨Nat.le_trans hE h.1, fun p hp => h.2.1 p (by omega), fun d hd => h.2.2 d (by omega)⟩
/-- what a literal that no tuple is taken for binds -/
noncomputable def pq (M : MM) (R : RU) (p : Nat) (vs : Nat → Int) : Option ((Nat → Int) × Nat) := by
  classical
  exact (
    if R.fm p = 1 then (if M (R.sj p) (tc (sg vs) (R.tm p)) then none else some (vs, 0))
    else if R.fm p = 2 then (if cmpI (R.sj p) (vl vs (R.tm p 0)) (vl vs (R.tm p 1)) then some (vs, 0) else none)
    else if vl vs (R.tm p 0) = -1 then some (bd vs (R.tm p 0) (min 127 (vl vs (R.tm p 1) + vl vs (R.tm p 2))), vb (R.tm p 0))
    else if vl vs (R.tm p 0) = min 127 (vl vs (R.tm p 1) + vl vs (R.tm p 2)) then some (vs, 0) else none)
/-- what a place's tuple binds -/
def tq (D : SH) (R : RU) (ρ c : Nat → Nat) (p : Nat) (vs : Nat → Int) (s : Nat) : Option ((Nat → Int) × Nat) := if (ρ s : Int) = R.sj p then mtf (R.tm p) (clm (c s)) (D.co (R.sj p)) 0 vs 0 else none
noncomputable def oq (D : SH) (M : MM) (R : RU) (ρ c : Nat → Nat) (d : Nat) (vs : Nat → Int) (s : Nat) : Option ((Nat → Int) × Nat) := if R.fm d = 0 then tq D R ρ c d vs s else pq M R d vs
/-- tuples as they may be -/
def SlQ (D : SH) (n : Nat) (ρ c : Nat → Nat) : Prop := ∀ s, s < n → c s < 2097152 ∧ ∀ j, D.co (ρ s : Int) ≤ j → j < 3 → clm (c s) j = 0
theorem vl_neg {vs : Nat → Int} {t : Int} (h : vl vs t = -1) : t < 0 ∧ vs (-1 - t).toNat = -1 := by
  unfold vl at h
  by_cases hn : t < 0
  · rw [if_pos hn] at h; exact ⟨hn, h⟩
  · rw [if_neg hn] at h; omega
theorem vl_nn {vs : Nat → Int} {t : Int} (h : 0 ≤ t) : vl vs t = t := by unfold vl; rw [if_neg (by omega)]
/-- terms that need values have them -/
theorem need_v {D : SH} {R : RU} {E d : Nat} {vs : Nat → Int} (hC : WkQ D R E) (hd : d < E) (hcov : CovQ R d vs) (hf : R.fm d ≠ 0) {cc : Nat} (hcc : cc < 3) (h3 : R.fm d = 3 → cc ≠ 0) : 0 ≤ vl vs (R.tm d cc) := by
  by_cases hn : R.tm d cc < 0
  · obtain ⟨j, c', hj, hc', hff, he⟩ := hC.2.2 d hd hf cc hcc h3 hn
    have := hcov j c' hj hc' hff
    rw [he] at this
    exact this
  · rw [vl_nn (by omega)]; omega
theorem oq_ok {D : SH} {R : RU} {M : MM} {E d : Nat} {ρ c : Nat → Nat} {vs : Nat → Int} {s : Nat} {q : (Nat → Int) × Nat} (hC : WkQ D R E) (hd : d < E) (hV : VV vs) (hcov : CovQ R d vs) (h : oq D M R ρ c d vs s = some q) : VV q.1 ∧ Bnd vs q.1 q.2 ∧ CovQ R (d + 1) q.1 := by
  obtain ⟨v', m'⟩ := q
  obtain ⟨htm, hfm, hsj⟩ := hC.2.1 d hd
  have base : VV v' ∧ Bnd vs v' m' ∧ ∀ c', c' < 3 → (R.fm d = 0 ∨ (R.fm d = 3 ∧ c' = 0)) → 0 ≤ vl v' (R.tm d c') := by
    unfold oq at h
    by_cases f0 : R.fm d = 0
    · rw [if_pos f0] at h
      obtain ⟨r, hr, hr10, hrd, hr3, hz⟩ := hsj (by omega)
      unfold tq at h
      by_cases hT : (ρ s : Int) = R.sj d
      · rw [if_pos hT, hr] at h
        have k1 := mtf_inv (v0 := vs) htm (fun c => clm_lt) _ 0 vs 0 v' m' (by omega) hV Bnd.refl h
        have k2 := mtf_val htm (fun c => clm_lt) _ 0 vs 0 v' m' (by omega) hV h
        refine ⟨k1.1, k1.2, fun c' hc' _ => ?_⟩
        by_cases hcc : c' < D.co (r : Int)
        · rw [k2.2 c' (by omega) (by omega)]
          omega
        · rw [hz c' hc' (by omega)]
          exact Int.le_refl 0
      · rw [if_neg hT] at h
        cases h
    · rw [if_neg f0] at h
      unfold pq at h
      by_cases f1 : R.fm d = 1
      · rw [if_pos f1] at h
        split at h
        · cases h
        · cases h
          exact ⟨hV, Bnd.refl, fun c' _ hf => by omega⟩
      · rw [if_neg f1] at h
        by_cases f2 : R.fm d = 2
        · rw [if_pos f2] at h
          split at h
          · cases h
            exact ⟨hV, Bnd.refl, fun c' _ hf => by omega⟩
          · cases h
        · rw [if_neg f2] at h
          have f3 : R.fm d = 3 := by omega
          have t0 := htm 0 (by omega)
          have s1 := need_v hC hd hcov f0 (show 1 < 3 by omega) (fun _ => by omega)
          have s2 := need_v hC hd hcov f0 (show 2 < 3 by omega) (fun _ => by omega)
          by_cases h1 : vl vs (R.tm d 0) = -1
          · rw [if_pos h1] at h
            obtain ⟨hneg, hv⟩ := vl_neg h1
            have hbd := Bnd.bind (x := min 127 (vl vs (R.tm d 1) + vl vs (R.tm d 2))) (Bnd.refl (v := vs)) ⟨t0.1, hneg⟩ hv
            rw [Nat.zero_or] at hbd
            cases h
            refine ⟨bd_VV hV (by omega), hbd, fun c' hc' hf => ?_⟩
            have e : c' = 0 := by omega
            subst e
            have hb' : bd vs (R.tm d 0) (min 127 (vl vs (R.tm d 1) + vl vs (R.tm d 2))) = upn vs (-1 - R.tm d 0).toNat (min 127 (vl vs (R.tm d 1) + vl vs (R.tm d 2))) := if_pos ⟨hneg, hv⟩
            have : vl (bd vs (R.tm d 0) (min 127 (vl vs (R.tm d 1) + vl vs (R.tm d 2)))) (R.tm d 0) = min 127 (vl vs (R.tm d 1) + vl vs (R.tm d 2)) := by
              rw [hb']
              show (if R.tm d 0 < 0 then upn vs _ _ _ else _) = _
              rw [if_pos hneg, upn_eq]
            rw [this]
            omega
          · rw [if_neg h1] at h
            split at h
            · next h4 =>
              cases h
              refine ⟨hV, Bnd.refl, fun c' hc' hf => ?_⟩
              have e : c' = 0 := by omega
              subst e
              rw [h4]
              omega
            · cases h
  refine ⟨base.1, base.2.1, fun j c' hj hc' hf => ?_⟩
  by_cases e : j = d
  · subst e; exact base.2.2 c' hc' hf
  · exact CovQ_ext hcov (Bnd_ext base.2.1) j c' (by omega) hc' hf
/-- a literal taken: it holds, its terms have values -/
theorem oq_lit {D : SH} {R : RU} {E d n : Nat} {ρ c : Nat → Nat} {vs : Nat → Int} {s : Nat} {q : (Nat → Int) × Nat} (hC : WkQ D R E) (hSl : SlQ D n ρ c) (hd : d < E) (hV : VV vs) (hcov : CovQ R d vs) (hs : R.fm d = 0 → s < n) (h : oq D (AM n ρ c) R ρ c d vs s = some q) :
    BdP R q.1 d ∧ lit (AM n ρ c) R (sg q.1) d ∧ (R.fm d = 0 → s < n ∧ (ρ s : Int) = R.sj d ∧ tc (sg q.1) (R.tm d) = c s) := by
  have hok := oq_ok hC hd hV hcov h
  have hext : Ext vs q.1 := Bnd_ext hok.2.1
  obtain ⟨v', m'⟩ := q
  obtain ⟨htm, hfm, hsj⟩ := hC.2.1 d hd
  have sv : R.fm d ≠ 0 → ∀ cc, cc < 3 → (R.fm d = 3 → cc ≠ 0) → 0 ≤ vl vs (R.tm d cc) := fun hf cc hcc h3 => need_v hC hd hcov hf hcc h3
  have sv' : R.fm d ≠ 0 → ∀ cc, cc < 3 → (R.fm d = 3 → cc ≠ 0) → 0 ≤ vl v' (R.tm d cc) := fun hf cc hcc h3 => by
    have := sv hf cc hcc h3
    rw [vl_ext hext this]
    exact this
  unfold oq at h
  by_cases f0 : R.fm d = 0
  · rw [if_pos f0] at h
    obtain ⟨r, hr, hr10, hrd, hr3, hz⟩ := hsj (by omega)
    have hsn := hs f0
    have hsl := hSl s hsn
    unfold tq at h
    by_cases hT : (ρ s : Int) = R.sj d
    · rw [if_pos hT] at h
      have k2 := mtf_val htm (fun c => clm_lt) _ 0 vs 0 v' m' (by rw [hr]; omega) hV h
      have hall : ∀ c', c' < 3 → vl v' (R.tm d c') = ((clm (c s) c' : Nat) : Int) := fun c' hc' => by
        by_cases hcc : c' < D.co (R.sj d)
        · exact k2.2 c' (by omega) (by omega)
        · rw [hz c' hc' (by rw [← hr]; omega), hsl.2 c' (by rw [hT]; omega) hc']
          rfl
      have htc : tc (sg v') (R.tm d) = c s := by
        unfold tc
        rw [tv_sg, tv_sg, tv_sg, hall 0 (by omega), hall 1 (by omega), hall 2 (by omega), Int.toNat_natCast, Int.toNat_natCast, Int.toNat_natCast]
        exact clm_pk hsl.1
      refine ⟨fun c' hc' => by rw [hall c' hc']; omega, ?_, fun _ => ⟨hsn, hT, htc⟩⟩
      unfold lit
      rw [if_pos f0]
      show AM n ρ c (R.sj d) (tc (sg v') (R.tm d))
      rw [htc]
      exact ⟨s, hsn, hT, rfl⟩
    · rw [if_neg hT] at h
      cases h
  · rw [if_neg f0] at h
    unfold pq at h
    unfold lit
    rw [if_neg f0]
    by_cases f1 : R.fm d = 1
    · rw [if_pos f1] at h
      rw [if_pos f1]
      split at h
      · cases h
      · next hn =>
        cases h
        exact ⟨fun c' hc' => sv' f0 c' hc' (fun e => by omega), hn, fun e => absurd e f0⟩
    · rw [if_neg f1] at h
      rw [if_neg f1]
      by_cases f2 : R.fm d = 2
      · rw [if_pos f2] at h
        rw [if_pos f2]
        split at h
        · next hc =>
          cases h
          have b0 := sv f0 0 (by omega) (fun e => by omega)
          have b1 := sv f0 1 (by omega) (fun e => by omega)
          refine ⟨fun c' hc' => sv' f0 c' hc' (fun e => by omega), ?_, fun e => absurd e f0⟩
          show cmpk (R.sj d) (tv (sg vs) (R.tm d 0)) (tv (sg vs) (R.tm d 1))
          rw [tv_sg, tv_sg]
          unfold cmpI at hc
          unfold cmpk
          split at hc
          · next e => rw [if_pos e]; omega
          · next e =>
            rw [if_neg e]
            split at hc
            · next e => rw [if_pos e]; omega
            · next e =>
              rw [if_neg e]
              split at hc
              · next e => rw [if_pos e]; omega
              · next e => rw [if_neg e]; omega
        · cases h
      · rw [if_neg f2] at h
        rw [if_neg f2]
        have f3 : R.fm d = 3 := by omega
        have s1 := sv' f0 1 (by omega) (fun _ => by omega)
        have s2 := sv' f0 2 (by omega) (fun _ => by omega)
        have hc0 := hok.2.2 d 0 (by omega) (by omega) (Or.inr ⟨f3, rfl⟩)
        have o1 := vl_ext hext (sv f0 1 (by omega) (fun _ => by omega))
        have o2 := vl_ext hext (sv f0 2 (by omega) (fun _ => by omega))
        have heq : vl v' (R.tm d 0) = min 127 (vl v' (R.tm d 1) + vl v' (R.tm d 2)) := by
          rw [o1, o2]
          by_cases h1 : vl vs (R.tm d 0) = -1
          · rw [if_pos h1] at h
            obtain ⟨hneg, hv⟩ := vl_neg h1
            cases h
            show vl (bd _ _ _) _ = _
            unfold bd
            rw [if_pos ⟨hneg, hv⟩]
            show vl (upn _ _ _) _ = _
            unfold vl
            rw [if_pos hneg, upn_eq]
          · rw [if_neg h1] at h
            split at h
            · next h4 => cases h; exact h4
            · cases h
        refine ⟨fun c' hc' => ?_, ?_, fun e => absurd e f0⟩
        · have : c' = 0 ∨ c' = 1 ∨ c' = 2 := by omega
          rcases this with rfl | rfl | rfl
          · exact hc0
          · exact s1
          · exact s2
        · show tv (sg v') (R.tm d 0) = min 127 (tv (sg v') (R.tm d 1) + tv (sg v') (R.tm d 2))
          rw [tv_sg, tv_sg, tv_sg]
          have hc0 : 0 ≤ vl v' (R.tm d 0) := hc0
          have s1 : 0 ≤ vl v' (R.tm d 1) := s1
          have s2 : 0 ≤ vl v' (R.tm d 2) := s2
          omega
theorem min_c (a b : Nat) : min 127 ((a : Int) + (b : Int)) = ((min 127 (a + b) : Nat) : Int) := by omega
/-- a literal that holds is taken -/
theorem oq_cons {D : SH} {R : RU} {M : MM} {E d : Nat} {ρ c : Nat → Nat} {vs : Nat → Int} {s : Nat} {σ : Nat → Nat} (hC : WkQ D R E) (hd : d < E) (hV : VV vs) (hcov : CovQ R d vs) (hσ : VA σ) (hK : Cons σ vs) (hl : lit M R σ d)
    (hs : R.fm d = 0 → (ρ s : Int) = R.sj d ∧ c s = tc σ (R.tm d)) : ∃ q, oq D M R ρ c d vs s = some q ∧ Cons σ q.1 := by
  obtain ⟨htm, hfm, hsj⟩ := hC.2.1 d hd
  have sv : R.fm d ≠ 0 → ∀ cc, cc < 3 → (R.fm d = 3 → cc ≠ 0) → vl vs (R.tm d cc) = (tv σ (R.tm d cc) : Int) := fun hf cc hcc h3 => by
    have := need_v hC hd hcov hf hcc h3
    exact Cons_vl hK (htm cc hcc).1 (by omega)
  unfold oq
  unfold lit at hl
  by_cases f0 : R.fm d = 0
  · rw [if_pos f0]
    obtain ⟨r, hr, hr10, hrd, hr3, hz⟩ := hsj (by omega)
    obtain ⟨h2, h3⟩ := hs f0
    unfold tq
    rw [if_pos h2]
    have key : ∀ j, j < 3 → clm (c s) j = tv σ (R.tm d j) := fun j hj => by
      rw [h3]
      have t0 := tv_lt hσ (htm 0 (by omega)).2
      have t1 := tv_lt hσ (htm 1 (by omega)).2
      have t2 := tv_lt hσ (htm 2 (by omega)).2
      show clm (pk (tv σ (R.tm d 0)) (tv σ (R.tm d 1)) (tv σ (R.tm d 2))) j = _
      have : j = 0 ∨ j = 1 ∨ j = 2 := by omega
      rcases this with rfl | rfl | rfl
      · exact cl0_pk t0 t1 t2
      · exact cl1_pk t0 t1 t2
      · exact cl2_pk t0 t1 t2
    obtain ⟨v', m', e, hc'⟩ := mtf_cons (σ := σ) htm (D.co (R.sj d)) 0 vs 0 (by rw [hr]; omega) hK (fun j hj => key j (by rw [hr] at hj; omega))
    exact ⟨(v', m'), e, hc'⟩
  · rw [if_neg f0] at hl ⊢
    unfold pq
    by_cases f1 : R.fm d = 1
    · rw [if_pos f1] at hl ⊢
      have e : tc (sg vs) (R.tm d) = tc σ (R.tm d) := by
        have a0 := sv f0 0 (by omega) (fun e => by omega)
        have a1 := sv f0 1 (by omega) (fun e => by omega)
        have a2 := sv f0 2 (by omega) (fun e => by omega)
        unfold tc
        rw [tv_sg, tv_sg, tv_sg, a0, a1, a2, Int.toNat_natCast, Int.toNat_natCast, Int.toNat_natCast]
      rw [e, if_neg hl]
      exact ⟨_, rfl, hK⟩
    · rw [if_neg f1] at hl ⊢
      by_cases f2 : R.fm d = 2
      · rw [if_pos f2] at hl ⊢
        have a0 := sv f0 0 (by omega) (fun e => by omega)
        have a1 := sv f0 1 (by omega) (fun e => by omega)
        have hc : cmpI (R.sj d) (vl vs (R.tm d 0)) (vl vs (R.tm d 1)) := by
          rw [a0, a1]
          unfold cmpk at hl
          unfold cmpI
          split at hl
          · next e => rw [if_pos e]; omega
          · next e =>
            rw [if_neg e]
            split at hl
            · next e => rw [if_pos e]; omega
            · next e =>
              rw [if_neg e]
              split at hl
              · next e => rw [if_pos e]; omega
              · next e => rw [if_neg e]; omega
        rw [if_pos hc]
        exact ⟨_, rfl, hK⟩
      · rw [if_neg f2] at hl ⊢
        have f3 : R.fm d = 3 := by omega
        have a1 := sv f0 1 (by omega) (fun _ => by omega)
        have a2 := sv f0 2 (by omega) (fun _ => by omega)
        by_cases h1 : vl vs (R.tm d 0) = -1
        · rw [if_pos h1]
          exact ⟨_, rfl, Cons_bd hK (by rw [a1, a2, hl, min_c])⟩
        · rw [if_neg h1]
          have a0 := Cons_vl hK (htm 0 (by omega)).1 h1
          rw [if_pos (by rw [a0, a1, a2, hl, min_c])]
          exact ⟨_, rfl, hK⟩
