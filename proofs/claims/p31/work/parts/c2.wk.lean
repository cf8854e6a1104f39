/-! BOTH: all that a walk finds, by the values alone -/
theorem mtf_new {tm : Nat → Int} {cd : Nat → Nat} : ∀ (n c : Nat) (vs : Nat → Int) (m : Nat) (v' : Nat → Int) (m' : Nat), c + n ≤ 3 → mtf tm cd n c vs m = some (v', m') → ∀ x : Nat, v' x = vs x ∨ ∃ j, j < 3 ∧ tm j = -1 - (x : Int) := by
  intro n
  induction n with
  | zero =>
    intro c vs m v' m' _ h x
    unfold mtf at h
    cases h
    exact Or.inl rfl
  | succ n ih =>
    intro c vs m v' m' hc h x
    unfold mtf at h
    by_cases h1 : vl vs (tm c) = -1
    · rw [if_pos h1] at h
      obtain ⟨hneg, hv⟩ := vl_neg h1
      rcases ih (c + 1) _ _ v' m' (by omega) h x with e | e
      · by_cases q : x = (-1 - tm c).toNat
        · exact Or.inr ⟨c, by omega, by omega⟩
        · left
          rw [e]
          unfold bd
          rw [if_pos ⟨hneg, hv⟩, upn_ne q]
      · exact Or.inr e
    · rw [if_neg h1] at h
      by_cases h2 : vl vs (tm c) = (cd c : Int)
      · rw [if_pos h2] at h
        exact ih (c + 1) vs m v' m' (by omega) h x
      · rw [if_neg h2] at h
        cases h
theorem oq_new {D : SH} {R : RU} {M : MM} {E d : Nat} {ρ c : Nat → Nat} {vs : Nat → Int} {s : Nat} {q : (Nat → Int) × Nat} (hC : WkQ D R E) (hd : d < E) (h : oq D M R ρ c d vs s = some q) (x : Nat) : q.1 x = vs x ∨ ∃ j, j < 3 ∧ R.tm d j = -1 - (x : Int) := by
  obtain ⟨v', m'⟩ := q
  obtain ⟨htm, hfm, hsj⟩ := hC.2.1 d hd
  unfold oq at h
  by_cases f0 : R.fm d = 0
  · rw [if_pos f0] at h
    obtain ⟨r, hr, hr10, hrd, hr3, hz⟩ := hsj (by omega)
    unfold tq at h
    by_cases hT : (ρ s : Int) = R.sj d
    · rw [if_pos hT, hr] at h
      exact mtf_new _ 0 vs 0 v' m' (by omega) h x
    · rw [if_neg hT] at h
      cases h
  · rw [if_neg f0] at h
    unfold pq at h
    by_cases f1 : R.fm d = 1
    · rw [if_pos f1] at h
      split at h
      · cases h
      · cases h
        exact Or.inl rfl
    · rw [if_neg f1] at h
      by_cases f2 : R.fm d = 2
      · rw [if_pos f2] at h
        split at h
        · cases h
          exact Or.inl rfl
        · cases h
      · rw [if_neg f2] at h
        by_cases h1 : vl vs (R.tm d 0) = -1
        · rw [if_pos h1] at h
          obtain ⟨hneg, hv⟩ := vl_neg h1
          cases h
          by_cases q : x = (-1 - R.tm d 0).toNat
          · exact Or.inr ⟨0, by omega, by omega⟩
          · left
            show bd _ _ _ x = vs x
            unfold bd
            rw [if_pos ⟨hneg, hv⟩, upn_ne q]
        · rw [if_neg h1] at h
          split at h
          · cases h
            exact Or.inl rfl
          · cases h
/-- rows of slots that a walk goes through: all of a relation's, each once -/
def CQ (R : RU) (n : Nat) (ρ : Nat → Nat) (E : Nat) (C : Nat → List Nat) : Prop := ∀ d, d < E → (C d).Nodup ∧ (R.fm d = 0 → (∀ s, s ∈ C d → s < n) ∧ ∀ s, s < n → (ρ s : Int) = R.sj d → s ∈ C d) ∧ (R.fm d ≠ 0 → C d = [0])
/-- a step is the values' own -/
def PvQ (R : RU) (n : Nat) (ρ c : Nat → Nat) (vs : Nat → Int) (p s : Nat) : Prop := (R.fm p = 0 → s < n ∧ (ρ s : Int) = R.sj p ∧ tc (sg vs) (R.tm p) = c s) ∧ (R.fm p ≠ 0 → s = 0)
/-- what is known on the way -/
def HQ (R : RU) (n : Nat) (ρ c : Nat → Nat) (v0 : Nat → Int) (d : Nat) (vs : Nat → Int) (pa : List Nat) : Prop := VV vs ∧ Ext v0 vs ∧ pa.length = d ∧ (∀ p, p < d → BdP R vs p ∧ lit (AM n ρ c) R (sg vs) p) ∧ AllP (PvQ R n ρ c vs) pa ∧ ∀ x : Nat, vs x ≠ -1 → v0 x ≠ -1 ∨ ∃ p j, p < d ∧ j < 3 ∧ R.tm p j = -1 - (x : Int)
theorem AllP_imp {P P' : Nat → Nat → Prop} : ∀ (l : List Nat), (∀ p s, p < l.length → P p s → P' p s) → AllP P l → AllP P' l := by
  intro l
  induction l with
  | nil => intro _ _; exact trivial
  | cons a l ih =>
    intro h hP
    exact ⟨h l.length a (by simp) hP.1, ih (fun p s hp => h p s (by simp; omega)) hP.2⟩
theorem AllP_uni {P P' : Nat → Nat → Prop} : ∀ (l l' : List Nat), l'.length = l.length → (∀ p s s', p < l.length → P p s → P' p s' → s' = s) → AllP P l → AllP P' l' → l' = l := by
  intro l
  induction l with
  | nil =>
    intro l' hl _ _ _
    exact List.length_eq_zero_iff.mp hl
  | cons a l ih =>
    intro l' hl h hP hP'
    cases l' with
    | nil => exact absurd hl (by simp)
    | cons a' l' =>
      have hl2 : l'.length = l.length := by simpa using hl
      have h1 := hP'.1
      rw [hl2] at h1
      rw [h l.length a a' (by simp) hP.1 h1, ih l' hl2 (fun p s s' hp => h p s s' (by simp; omega)) hP.2 hP'.2]
theorem tc_ext {R : RU} {v v' : Nat → Int} {p : Nat} (h : Ext v v') (hb : BdP R v p) : tc (sg v') (R.tm p) = tc (sg v) (R.tm p) := by
  unfold tc
  rw [tv_sg, tv_sg, tv_sg, tv_sg, tv_sg, tv_sg, vl_ext h (hb 0 (by omega)), vl_ext h (hb 1 (by omega)), vl_ext h (hb 2 (by omega))]
theorem HQ.step {D : SH} {R : RU} {E d n s : Nat} {ρ c : Nat → Nat} {v0 vs : Nat → Int} {pa : List Nat} {C : Nat → List Nat} {q : (Nat → Int) × Nat} (hC : WkQ D R E) (hSl : SlQ D n ρ c) (hCQ : CQ R n ρ E C) (hd : d < E) (h : HQ R n ρ c v0 d vs pa) (hs : s ∈ C d) (hq : oq D (AM n ρ c) R ρ c d vs s = some q) : HQ R n ρ c v0 (d + 1) q.1 (s :: pa) := by
  obtain ⟨h1, h2, h3, h4, h5, h6⟩ := h
  have hcov : CovQ R d vs := fun j c' hj hc' _ => (h4 j hj).1 c' hc'
  have hok := oq_ok hC hd h1 hcov hq
  have hex : Ext vs q.1 := Bnd_ext hok.2.1
  obtain ⟨hc1, hc2, hc3⟩ := hCQ d hd
  obtain ⟨l1, l2, l3⟩ := oq_lit hC hSl hd h1 hcov (fun f0 => (hc2 f0).1 s hs) hq
  refine ⟨hok.1, h2.trans hex, by rw [List.length_cons, h3], fun p hp => ?_, ⟨?_, AllP_imp pa (fun p s' hp hP => ?_) h5⟩, fun x hx => ?_⟩
  · by_cases e : p = d
    · rw [e]; exact ⟨l1, l2⟩
    · have := h4 p (by omega)
      exact ⟨this.1.ext hex, (lit_ext hex this.1).mpr this.2⟩
  · rw [h3]
    refine ⟨l3, fun f0 => ?_⟩
    rw [hc3 f0] at hs
    exact List.mem_singleton.mp hs
  · rw [h3] at hp
    refine ⟨fun f0 => ?_, hP.2⟩
    rw [tc_ext hex (h4 p hp).1]
    exact hP.1 f0
  · rcases oq_new hC hd hq x with e | ⟨j, hj, e⟩
    · rw [e] at hx
      rcases h6 x hx with z | ⟨p, j, hp, hj, z⟩
      · exact Or.inl z
      · exact Or.inr ⟨p, j, by omega, hj, z⟩
    · exact Or.inr ⟨d, j, by omega, hj, e⟩
theorem En_HQ {D : SH} {R : RU} {E n : Nat} {ρ c : Nat → Nat} {v0 : Nat → Int} {C : Nat → List Nat} (hC : WkQ D R E) (hSl : SlQ D n ρ c) (hCQ : CQ R n ρ E C) : ∀ (k d : Nat) (vs : Nat → Int) (pa : List Nat) (x : (Nat → Int) × List Nat), d + k = E → HQ R n ρ c v0 d vs pa → En (oq D (AM n ρ c) R ρ c) C k d vs pa x → HQ R n ρ c v0 E x.1 x.2 := by
  intro k
  induction k with
  | zero =>
    intro d vs pa x hd h hx
    have hx : x = (vs, pa) := hx
    rw [hx, ← hd]
    exact h
  | succ k ih =>
    intro d vs pa x hd h hx
    obtain ⟨s, hs, q, hq, hx⟩ := hx
    exact ih (d + 1) q.1 (s :: pa) x (by omega) (h.step hC hSl hCQ (by omega) hs hq) hx
theorem HQ.zero {R : RU} {n : Nat} {ρ c : Nat → Nat} {v0 : Nat → Int} (h : VV v0) : HQ R n ρ c v0 0 v0 [] := ⟨h, Ext.refl, rfl, fun p hp => absurd hp (Nat.not_lt_zero p), trivial, fun _ hx => Or.inl hx⟩
theorem En_ex {D : SH} {R : RU} {E n : Nat} {ρ c : Nat → Nat} {C : Nat → List Nat} {σ : Nat → Nat} (hC : WkQ D R E) (hCQ : CQ R n ρ E C) (hσ : VA σ) (hl : ∀ p, p < E → lit (AM n ρ c) R σ p) : ∀ (k d : Nat) (vs : Nat → Int) (pa : List Nat), d + k = E → VV vs → CovQ R d vs → Cons σ vs → ∃ x, En (oq D (AM n ρ c) R ρ c) C k d vs pa x ∧ Cons σ x.1 := by
  intro k
  induction k with
  | zero => intro d vs pa _ _ _ hK; exact ⟨(vs, pa), rfl, hK⟩
  | succ k ih =>
    intro d vs pa hd hV hcov hK
    have hdE : d < E := by omega
    obtain ⟨hc1, hc2, hc3⟩ := hCQ d hdE
    have hld := hl d hdE
    have go : ∀ s, s ∈ C d → (R.fm d = 0 → (ρ s : Int) = R.sj d ∧ c s = tc σ (R.tm d)) → ∃ x, En (oq D (AM n ρ c) R ρ c) C (k + 1) d vs pa x ∧ Cons σ x.1 := fun s hs h0 => by
      obtain ⟨q, hq, hKq⟩ := oq_cons (s := s) hC hdE hV hcov hσ hK hld h0
      have hok := oq_ok hC hdE hV hcov hq
      obtain ⟨x, h1, h2⟩ := ih (d + 1) q.1 (s :: pa) (by omega) hok.1 hok.2.2 hKq
      exact ⟨x, ⟨s, hs, q, hq, h1⟩, h2⟩
    by_cases f0 : R.fm d = 0
    · have hl2 := hld
      unfold lit at hl2
      rw [if_pos f0] at hl2
      obtain ⟨s, hs, hρ, hcs⟩ := hl2
      exact go s ((hc2 f0).2 s hs hρ) (fun _ => ⟨hρ, hcs⟩)
    · refine go 0 ?_ (fun z => absurd z f0)
      rw [hc3 f0]
      exact List.mem_singleton.mpr rfl
/-- values, told by the variables alone -/
def K8 (v : Nat → Int) : Nat → Int := fun x => if x < 8 then v x else -1
theorem K8_vl {v : Nat → Int} {t : Int} (h : -8 ≤ t) : vl (K8 v) t = vl v t := by
  unfold vl
  split
  · show (if (-1 - t).toNat < 8 then v (-1 - t).toNat else -1) = _
    rw [if_pos (by omega)]
  · rfl
theorem K8_ext {v : Nat → Int} : Ext (K8 v) v := fun x hx => by
  unfold K8 at hx ⊢
  by_cases q : x < 8
  · rw [if_pos q]
  · rw [if_neg q] at hx
    exact absurd rfl hx
theorem K8_VV {v : Nat → Int} (h : VV v) : VV (K8 v) := fun x => by
  unfold K8
  split
  · exact h x
  · omega
/-- the values of an assignment of the first literals, some given ahead -/
def AsQ (M : MM) (R : RU) (E : Nat) (v0 u : Nat → Int) : Prop := (∀ x, 8 ≤ x → u x = -1) ∧ VV u ∧ (∀ x, x < 8 → v0 x ≠ -1 → u x = v0 x) ∧ (∀ p, p < E → BdP R u p ∧ lit M R (sg u) p) ∧ ∀ x : Nat, x < 8 → u x ≠ -1 → v0 x ≠ -1 ∨ ∃ p j, p < E ∧ j < 3 ∧ R.tm p j = -1 - (x : Int)
theorem AsQ_of {R : RU} {D : SH} {E n : Nat} {ρ c : Nat → Nat} {v0 v : Nat → Int} {pa : List Nat} (hC : WkQ D R E) (h : HQ R n ρ c v0 E v pa) : AsQ (AM n ρ c) R E v0 (K8 v) := by
  obtain ⟨h1, h2, h3, h4, h5, h6⟩ := h
  refine ⟨fun x hx => ?_, K8_VV h1, fun x hx hn => ?_, fun p hp => ?_, fun x hx hn => ?_⟩
  · unfold K8
    rw [if_neg (by omega)]
  · unfold K8
    rw [if_pos hx]
    exact h2 x hn
  · have hb : BdP R (K8 v) p := fun cc hcc => by
      rw [K8_vl ((hC.2.1 p hp).1 cc hcc).1]
      exact (h4 p hp).1 cc hcc
    exact ⟨hb, (lit_ext K8_ext hb).mp (h4 p hp).2⟩
  · unfold K8 at hn
    rw [if_pos hx] at hn
    exact h6 x hn
/-- all assignments are found -/
theorem AsQ_mem {D : SH} {R : RU} {E n : Nat} {ρ c : Nat → Nat} {v0 u : Nat → Int} {C : Nat → List Nat} (hC : WkQ D R E) (hSl : SlQ D n ρ c) (hCQ : CQ R n ρ E C) (hV0 : VV v0) : AsQ (AM n ρ c) R E v0 u ↔ ∃ x, x ∈ en (oq D (AM n ρ c) R ρ c) C E 0 v0 [] ∧ K8 x.1 = u := by
  constructor
  · rintro ⟨a1, a2, a3, a4, a5⟩
    have hK : Cons (sg u) v0 := fun x hx hn => by
      have := a3 x hx hn
      have := hV0 x
      unfold sg
      omega
    obtain ⟨x, hx, hKx⟩ := En_ex hC hCQ (sg_VA a2) (fun p hp => (a4 p hp).2) E 0 v0 [] (by omega) hV0 (fun j c' hj => absurd hj (Nat.not_lt_zero j)) hK
    obtain ⟨b1, b2, b3, b4, b5, b6⟩ := En_HQ hC hSl hCQ E 0 v0 [] x (by omega) (HQ.zero hV0) hx
    refine ⟨x, (mem_en _ _ _ _ _).mpr hx, funext fun y => ?_⟩
    show (if y < 8 then x.1 y else -1) = u y
    by_cases hy : y < 8
    · rw [if_pos hy]
      have hu := a2 y
      have hx1 := b1 y
      have hbd : ∀ (v : Nat → Int) p j, p < E → j < 3 → R.tm p j = -1 - (y : Int) → BdP R v p → 0 ≤ v y := fun v p j hp hj e hb => by
        have := hb j hj
        rw [e] at this
        unfold vl at this
        rw [if_pos (by omega), show (-1 - (-1 - (y : Int))).toNat = y by omega] at this
        exact this
      by_cases q : x.1 y = -1
      · rw [q]
        refine Classical.byContradiction fun hc => ?_
        rcases a5 y hy (fun z => hc z.symm) with z | ⟨p, j, hp, hj, e⟩
        · have := b2 y z
          omega
        · have := hbd x.1 p j hp hj e (b4 p hp).1
          omega
      · have e := hKx y hy q
        rw [e]
        have hu0 : u y ≠ -1 := by
          rcases b6 y q with z | ⟨p, j, hp, hj, e⟩
          · have := a3 y hy z
            omega
          · have := hbd u p j hp hj e (a4 p hp).1
            omega
        unfold sg
        omega
    · rw [if_neg hy, a1 y (by omega)]
  · rintro ⟨x, hx, rfl⟩
    exact AsQ_of hC (En_HQ hC hSl hCQ E 0 v0 [] x (by omega) (HQ.zero hV0) ((mem_en _ _ _ _ _).mp hx))
/-- it does not matter which model's rows are gone through -/
theorem AsQ_same {M M' : MM} {R R' : RU} {E : Nat} {v0 v0' u : Nat → Int} (hM : ∀ r k, M r k ↔ M' r k) (hR : ∀ p, p < E → R'.fm p = R.fm p ∧ R'.sj p = R.sj p ∧ ∀ c, c < 3 → R'.tm p c = R.tm p c) (hv : ∀ x, x < 8 → v0' x = v0 x) : AsQ M R E v0 u ↔ AsQ M' R' E v0' u := by
  have hMM : M = M' := funext fun r => funext fun k => propext (hM r k)
  subst hMM
  refine and_congr Iff.rfl (and_congr Iff.rfl (and_congr ?_ (and_congr ?_ ?_)))
  · refine forall_congr' fun x => forall_congr' fun hx => ?_
    rw [hv x hx]
  · refine forall_congr' fun p => forall_congr' fun hp => ?_
    obtain ⟨x, y, z⟩ := hR p hp
    have ht : tc (sg u) (R'.tm p) = tc (sg u) (R.tm p) := tc_congr z
    refine and_congr ?_ ?_
    · unfold BdP
      refine forall_congr' fun cc => forall_congr' fun hcc => ?_
      rw [z cc hcc]
    · unfold lit
      rw [x, y, ht, z 0 (by omega), z 1 (by omega), z 2 (by omega)]
  · refine forall_congr' fun x => forall_congr' fun hx => ?_
    rw [hv x hx]
    refine imp_congr Iff.rfl (or_congr Iff.rfl (exists_congr fun p => exists_congr fun j => and_congr_right fun hp => and_congr_right fun hj => ?_))
    rw [(hR p hp).2.2 j hj]
