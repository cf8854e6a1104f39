/-! BOTH: least costs; that there are some, and no others -/
theorem sumN_leq {f f' : Nat → Nat} : ∀ n, (∀ p, p < n → f p ≤ f' p) → sumN f n ≤ sumN f' n := by
  intro n
  induction n with
  | zero => intro _; exact Nat.le_refl _
  | succ n ih =>
    intro h
    have h1 := ih (fun p hp => h p (by omega))
    have h2 := h n (by omega)
    show sumN f n + f n ≤ sumN f' n + f' n
    omega
theorem sumN_ge {f : Nat → Nat} : ∀ (n p : Nat), p < n → f p ≤ sumN f n := by
  intro n
  induction n with
  | zero => intro p hp; exact absurd hp (Nat.not_lt_zero p)
  | succ n ih =>
    intro p hp
    show f p ≤ sumN f n + f n
    by_cases e : p = n
    · rw [e]; omega
    · have := ih p (by omega)
      omega
theorem sumN_eq {f f' : Nat → Nat} : ∀ n, (∀ p, p < n → f p = f' p) → sumN f n = sumN f' n := by
  intro n
  induction n with
  | zero => intro _; rfl
  | succ n ih =>
    intro h
    show sumN f n + f n = sumN f' n + f' n
    rw [ih (fun p hp => h p (by omega)), h n (by omega)]
def Der (D : SH) (FC : Int → Nat → Nat → Prop) (RR : RU → Prop) (M : MM) : Nat → Int → Nat → Nat → Prop
  | 0, _, _, _ => False
  | j + 1, r, m, v => (∃ k, FC r k v ∧ kz (D.kq r) m = kz (D.kq r) k) ∨ ∃ (R : RU) (σ : Nat → Nat) (f : Nat → Nat), RR R ∧ Sat M R σ ∧ R.tg = r ∧ kz (D.kq r) m = kz (D.kq r) (tc σ R.ht) ∧ (∀ p, p < R.ln → R.fm p = 0 → Der D FC RR M j (R.sj p) (tc σ (R.tm p)) (f p)) ∧ v = 1 + sumN (fun p => if R.fm p = 0 then f p else 0) R.ln
theorem Der_up {D : SH} {FC : Int → Nat → Nat → Prop} {RR : RU → Prop} {M : MM} : ∀ (j : Nat) (r : Int) (m v : Nat), Der D FC RR M j r m v → Der D FC RR M (j + 1) r m v := by
  intro j
  induction j with
  | zero => intro r m v h; exact absurd h (fun h => h)
  | succ j ih =>
    intro r m v h
    rcases h with h | ⟨R, σ, f, h1, h2, h3, h4, h5, h6⟩
    · exact Or.inl h
    · exact Or.inr ⟨R, σ, f, h1, h2, h3, h4, fun p hp hf => ih _ _ _ (h5 p hp hf), h6⟩
theorem Der_le {D : SH} {FC : Int → Nat → Nat → Prop} {RR : RU → Prop} {M : MM} {j j' : Nat} (h : j ≤ j') {r : Int} {m v : Nat} (hd : Der D FC RR M j r m v) : Der D FC RR M j' r m v := by
  induction h with
  | refl => exact hd
  | step _ ih => exact Der_up _ _ _ _ ih
theorem least_ex {P : Nat → Prop} : ∀ v, P v → ∃ v', P v' ∧ ∀ x, x < v' → ¬ P x := by
  intro v
  induction v using Nat.strongRecOn with
  | _ v ih =>
    intro h
    by_cases q : ∃ x, x < v ∧ P x
    · obtain ⟨x, hx, hP⟩ := q
      exact ih x hx hP
    · exact ⟨v, h, fun x hx hP => q ⟨x, hx, hP⟩⟩
theorem all_big {P : Nat → Nat → Prop} (hP : ∀ j j' p, j ≤ j' → P j p → P j' p) : ∀ n, (∀ p, p < n → ∃ j, P j p) → ∃ j, ∀ p, p < n → P j p := by
  intro n
  induction n with
  | zero => intro _; exact ⟨0, fun p hp => absurd hp (Nat.not_lt_zero p)⟩
  | succ n ih =>
    intro h
    obtain ⟨j, hj⟩ := ih (fun p hp => h p (by omega))
    obtain ⟨j', hj'⟩ := h n (by omega)
    refine ⟨j + j', fun p hp => ?_⟩
    by_cases e : p = n
    · rw [e]; exact hP j' _ n (by omega) hj'
    · exact hP j _ p (by omega) (hj p (by omega))
theorem cost_ex (D : SH) (FC : Int → Nat → Nat → Prop) (RR : RU → Prop) (M : MM) : ∃ C, CostP D FC RR M C := by
  have hex : ∀ (r : Int) (m : Nat), ∃ v, (v = 1000000 ∨ (v < 1000000 ∧ ∃ j, Der D FC RR M j r m v)) ∧ ∀ x, x < v → ¬ (x = 1000000 ∨ (x < 1000000 ∧ ∃ j, Der D FC RR M j r m x)) := fun r m => least_ex 1000000 (Or.inl rfl)
  obtain ⟨C, hC⟩ : ∃ C : Int → Nat → Nat, ∀ r m, (C r m = 1000000 ∨ (C r m < 1000000 ∧ ∃ j, Der D FC RR M j r m (C r m))) ∧ ∀ x, x < C r m → ¬ (x = 1000000 ∨ (x < 1000000 ∧ ∃ j, Der D FC RR M j r m x)) := ⟨fun r m => (hex r m).choose, fun r m => (hex r m).choose_spec⟩
  have top : ∀ r m, C r m ≤ 1000000 := fun r m => by
    refine Nat.le_of_not_lt fun h => ?_
    exact (hC r m).2 1000000 h (Or.inl rfl)
  have der : ∀ r m v j, Der D FC RR M j r m v → C r m ≤ v := fun r m v j h => by
    refine Nat.le_of_not_lt fun hlt => ?_
    have := top r m
    exact (hC r m).2 v hlt (Or.inr ⟨by omega, j, h⟩)
  have cl3 : ∀ R σ m, RR R → Sat M R σ → kz (D.kq R.tg) m = kz (D.kq R.tg) (tc σ R.ht) → C R.tg m ≤ 1 + sumH C R σ := fun R σ m hR hS hz => by
    by_cases q : ∃ p, p < R.ln ∧ R.fm p = 0 ∧ C (R.sj p) (tc σ (R.tm p)) = 1000000
    · obtain ⟨p, hp, hf, hc⟩ := q
      have h1 := sumN_ge (f := fun p => if R.fm p = 0 then C (R.sj p) (tc σ (R.tm p)) else 0) R.ln p hp
      have h1 : (if R.fm p = 0 then C (R.sj p) (tc σ (R.tm p)) else 0) ≤ sumH C R σ := h1
      rw [if_pos hf, hc] at h1
      have := top R.tg m
      omega
    · obtain ⟨J, hJ⟩ := all_big (P := fun j p => R.fm p = 0 → Der D FC RR M j (R.sj p) (tc σ (R.tm p)) (C (R.sj p) (tc σ (R.tm p)))) (fun j j' p hj h hf => Der_le hj (h hf)) R.ln (fun p hp => by
        by_cases hf : R.fm p = 0
        · rcases (hC (R.sj p) (tc σ (R.tm p))).1 with e | ⟨-, j, hj⟩
          · exact absurd ⟨p, hp, hf, e⟩ q
          · exact ⟨j, fun _ => hj⟩
        · exact ⟨0, fun z => absurd z hf⟩)
      exact der R.tg m _ (J + 1) (Or.inr ⟨R, σ, fun p => C (R.sj p) (tc σ (R.tm p)), hR, hS, rfl, hz, fun p hp hf => hJ p hp hf, rfl⟩)
  refine ⟨C, fun r m _ => top r m, fun r k v m hF _ hz => der r m v 1 (Or.inl ⟨k, hF, hz⟩), fun R σ m hR hS _ hz => cl3 R σ m hR hS hz, fun r m _ => ?_⟩
  rcases (hC r m).1 with e | ⟨hlt, j, hj⟩
  · exact Or.inl e
  · cases j with
    | zero => exact absurd hj (fun h => h)
    | succ j =>
      rcases hj with ⟨k, hF, hz⟩ | ⟨R, σ, f, h1, h2, h3, h4, h5, h6⟩
      · exact Or.inr (Or.inl ⟨k, C r m, hF, hz, rfl⟩)
      · refine Or.inr (Or.inr ⟨R, σ, h1, h2, h3, h4, ?_⟩)
        subst h3
        have hle : sumH C R σ ≤ sumN (fun p => if R.fm p = 0 then f p else 0) R.ln := sumN_leq R.ln (fun p hp => by
          show (if R.fm p = 0 then C (R.sj p) (tc σ (R.tm p)) else 0) ≤ if R.fm p = 0 then f p else 0
          by_cases hf : R.fm p = 0
          · rw [if_pos hf, if_pos hf]
            exact der _ _ _ j (h5 p hp hf)
          · rw [if_neg hf, if_neg hf]
            exact Nat.le_refl _)
        have := cl3 R σ m h1 h2 h4
        omega
theorem Sat_in {M : MM} {R : RU} {σ : Nat → Nat} {p : Nat} (h : Sat M R σ) (hp : p < R.ln) (hf : R.fm p = 0) : M (R.sj p) (tc σ (R.tm p)) := by
  have := h.2 p hp
  unfold lit at this
  rw [if_pos hf] at this
  exact this
theorem sumH_le {M : MM} {C C' : Int → Nat → Nat} {R : RU} {σ : Nat → Nat} (hS : Sat M R σ) (h : ∀ p, p < R.ln → R.fm p = 0 → M (R.sj p) (tc σ (R.tm p)) → C (R.sj p) (tc σ (R.tm p)) ≤ C' (R.sj p) (tc σ (R.tm p))) : sumH C R σ ≤ sumH C' R σ := sumN_leq R.ln (fun p hp => by
  show (if R.fm p = 0 then C (R.sj p) (tc σ (R.tm p)) else 0) ≤ if R.fm p = 0 then C' (R.sj p) (tc σ (R.tm p)) else 0
  by_cases hf : R.fm p = 0
  · rw [if_pos hf, if_pos hf]
    exact h p hp hf (Sat_in hS hp hf)
  · rw [if_neg hf, if_neg hf]
    exact Nat.le_refl _)
theorem sumH_ge {C : Int → Nat → Nat} {R : RU} {σ : Nat → Nat} {p : Nat} (hp : p < R.ln) (hf : R.fm p = 0) : C (R.sj p) (tc σ (R.tm p)) ≤ sumH C R σ := by
  have h1 := sumN_ge (f := fun p => if R.fm p = 0 then C (R.sj p) (tc σ (R.tm p)) else 0) R.ln p hp
  have h1 : (if R.fm p = 0 then C (R.sj p) (tc σ (R.tm p)) else 0) ≤ sumH C R σ := h1
  rw [if_pos hf] at h1
  exact h1
theorem cost_le {D : SH} {FC : Int → Nat → Nat → Prop} {RR : RU → Prop} {M : MM} {C C' : Int → Nat → Nat} (h : CostP D FC RR M C) (h' : CostP D FC RR M C') : ∀ (v : Nat) (r : Int) (m : Nat), M r m → C r m ≤ v → C' r m ≤ C r m := by
  intro v
  induction v with
  | zero =>
    intro r m hM hv
    rcases h.2.2.2 r m hM with e | ⟨k, v, h1, h2, h3⟩ | ⟨R, σ, h1, h2, h3, h4, h5⟩
    · omega
    · have := h'.2.1 r k v m h1 hM h2
      omega
    · omega
  | succ v ih =>
    intro r m hM hv
    rcases h.2.2.2 r m hM with e | ⟨k, v, h1, h2, h3⟩ | ⟨R, σ, h1, h2, h3, h4, h5⟩
    · have := h'.1 r m hM
      omega
    · have := h'.2.1 r k v m h1 hM h2
      omega
    · subst h3
      have hs := sumH_le (C := C') (C' := C) h2 (fun p hp hf hMp => ih _ _ hMp (by have := sumH_ge (C := C) (σ := σ) hp hf; omega))
      have := h'.2.2.1 R σ m h1 h2 hM h4
      omega
theorem cost_uni {D : SH} {FC : Int → Nat → Nat → Prop} {RR : RU → Prop} {M : MM} {C C' : Int → Nat → Nat} (h : CostP D FC RR M C) (h' : CostP D FC RR M C') {r : Int} {m : Nat} (hM : M r m) : C r m = C' r m := Nat.le_antisymm (cost_le h' h _ r m hM (Nat.le_refl _)) (cost_le h h' _ r m hM (Nat.le_refl _))
theorem sumH_RE {C : Int → Nat → Nat} {R R' : RU} {σ : Nat → Nat} (h : RE R R') : sumH C R' σ = sumH C R σ := by
  unfold sumH
  rw [h.1]
  refine sumN_eq R.ln (fun p hp => ?_)
  obtain ⟨a, b, d⟩ := h.2.1 p hp
  rw [a, b, tc_congr d]
theorem CostP_same {D : SH} {FC FC' : Int → Nat → Nat → Prop} {RR RR' : RU → Prop} {M M' : MM} {C : Int → Nat → Nat} (hF : ∀ r k v, FC r k v ↔ FC' r k v) (hR : ∀ R, RR R → ∃ R', RR' R' ∧ RE R R') (hR' : ∀ R', RR' R' → ∃ R, RR R ∧ RE R R') (hM : ∀ r k, M r k ↔ M' r k) (h : CostP D FC RR M C) : CostP D FC' RR' M' C := by
  have hMM : M = M' := funext fun r => funext fun k => propext (hM r k)
  subst hMM
  have hsat : ∀ {R R' : RU} {σ}, RE R R' → (Sat M R' σ ↔ Sat M R σ) := fun {R R' σ} e => by
    unfold Sat
    rw [e.1]
    exact and_congr Iff.rfl (forall_congr' fun p => forall_congr' fun hp => e.litq hp)
  obtain ⟨h1, h2, h3, h4⟩ := h
  refine ⟨h1, fun r k v m hf => h2 r k v m ((hF r k v).mpr hf), fun R' σ m hR'' hS hm hz => ?_, fun r m hm => ?_⟩
  · obtain ⟨R, k1, k2⟩ := hR' R' hR''
    have e1 : R'.tg = R.tg := k2.2.2.1
    rw [e1] at hm hz ⊢
    rw [sumH_RE k2]
    rw [tc_congr k2.2.2.2] at hz
    exact h3 R σ m k1 ((hsat k2).mp hS) hm hz
  · rcases h4 r m hm with e | ⟨k, v, g1, g2, g3⟩ | ⟨R, σ, g1, g2, g3, g4, g5⟩
    · exact Or.inl e
    · exact Or.inr (Or.inl ⟨k, v, (hF r k v).mp g1, g2, g3⟩)
    · obtain ⟨R', k1, k2⟩ := hR R g1
      exact Or.inr (Or.inr ⟨R', σ, k1, (hsat k2).mpr g2, by rw [k2.2.2.1]; exact g3, by rw [tc_congr k2.2.2.2]; exact g4, by rw [sumH_RE k2]; exact g5⟩)
/-- the slot of a tuple -/
noncomputable def slt (n : Nat) (ρ c : Nat → Nat) (r : Int) (m : Nat) : Nat := by
  classical
  exact (if h : ∃ s, s < n ∧ (ρ s : Int) = r ∧ c s = m then h.choose else 0)
theorem slt_n {n s : Nat} {ρ c : Nat → Nat} (hu : SuQ n ρ c) (hs : s < n) : slt n ρ c (ρ s : Int) (c s) = s := by
  have h : ∃ s', s' < n ∧ (ρ s' : Int) = (ρ s : Int) ∧ c s' = c s := ⟨s, hs, rfl, rfl⟩
  unfold slt
  rw [dif_pos h]
  have hc := h.choose_spec
  exact hu s h.choose hs hc.1 (by omega) hc.2.2.symm
/-- costs by slots, read as costs of tuples -/
noncomputable def Ck (n : Nat) (ρ c : Nat → Nat) (κ : Nat → Nat) : Int → Nat → Nat := fun r m => κ (slt n ρ c r m)
/-- what holds of costs on the way: no less than the least, no more than the facts' -/
def OnW (D : SH) (FC : Int → Nat → Nat → Prop) (n : Nat) (ρ c : Nat → Nat) (C : Int → Nat → Nat) (κ : Nat → Nat) : Prop := ∀ s, s < n → C (ρ s : Int) (c s) ≤ κ s ∧ κ s ≤ 1000000 ∧ ∀ k v, FC (ρ s : Int) k v → kz (D.kq (ρ s : Int)) (c s) = kz (D.kq (ρ s : Int)) k → κ s ≤ v
/-- a round has gone through all -/
def Rnd (D : SH) (RR : RU → Prop) (n : Nat) (ρ c : Nat → Nat) (κ κ' : Nat → Nat) : Prop := ∀ R σ s, RR R → Sat (AM n ρ c) R σ → s < n → (ρ s : Int) = R.tg → kz (D.kq R.tg) (c s) = kz (D.kq R.tg) (tc σ R.ht) → κ' s ≤ 1 + sumH (Ck n ρ c κ) R σ
theorem min_ex {P : Nat → Prop} {f : Nat → Nat} (h : ∃ s, P s) : ∃ s, P s ∧ ∀ s', P s' → f s ≤ f s' := by
  obtain ⟨s, hs⟩ := h
  obtain ⟨v, ⟨s0, h0, e0⟩, hv⟩ := least_ex (P := fun v => ∃ s, P s ∧ f s = v) (f s) ⟨s, hs, rfl⟩
  refine ⟨s0, h0, fun s' hs' => Nat.le_of_not_lt fun hlt => hv (f s') (by omega) ⟨s', hs', rfl⟩⟩
theorem progress {D : SH} {FC : Int → Nat → Nat → Prop} {RR : RU → Prop} {n : Nat} {ρ c : Nat → Nat} {C : Int → Nat → Nat} {κ κ' : Nat → Nat} (hu : SuQ n ρ c) (hC : CostP D FC RR (AM n ρ c) C) (hk : OnW D FC n ρ c C κ) (hk' : OnW D FC n ρ c C κ') (hR : Rnd D RR n ρ c κ κ') (hne : ∃ s, s < n ∧ κ s ≠ C (ρ s : Int) (c s)) : ∃ s, s < n ∧ κ s ≠ C (ρ s : Int) (c s) ∧ κ' s = C (ρ s : Int) (c s) := by
  obtain ⟨s, ⟨hs, hsn⟩, hmin⟩ := min_ex (P := fun s => s < n ∧ κ s ≠ C (ρ s : Int) (c s)) (f := fun s => C (ρ s : Int) (c s)) hne
  refine ⟨s, hs, hsn, ?_⟩
  obtain ⟨k1, k2, k3⟩ := hk s hs
  obtain ⟨k1', k2', k3'⟩ := hk' s hs
  have hM : AM n ρ c (ρ s : Int) (c s) := ⟨s, hs, rfl, rfl⟩
  rcases hC.2.2.2 _ _ hM with e | ⟨k, v, h1, h2, h3⟩ | ⟨R, σ, h1, h2, h3, h4, h5⟩
  · omega
  · have := k3 k v h1 h2
    omega
  · have hr := hR R σ s h1 h2 hs h3.symm (by rw [h3]; exact h4)
    have hle : sumH (Ck n ρ c κ) R σ ≤ sumH C R σ := sumH_le h2 (fun p hp hf hMp => by
      obtain ⟨s', hs', hρ', hc'⟩ := hMp
      rw [← hρ', ← hc']
      show κ (slt n ρ c (ρ s' : Int) (c s')) ≤ _
      rw [slt_n hu hs']
      have hge := sumH_ge (C := C) (σ := σ) hp hf
      rw [← hρ', ← hc'] at hge
      refine Nat.le_of_not_lt fun hlt => ?_
      have := hmin s' ⟨hs', by omega⟩
      have : C (ρ s : Int) (c s) ≤ C (ρ s' : Int) (c s') := this
      omega)
    omega
