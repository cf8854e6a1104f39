/-! THE REFERENCE'S MODELS: rows of tuples -/
/-- the schema as it may be, in the reference -/
def WfT (w : World) : Prop := ∀ r : Nat, r < 10 → (0 ≤ w 3 r ∧ w 3 r ≤ 3) ∧ (0 ≤ w 4 r ∧ w 4 r ≤ 3) ∧ (0 ≤ w 5 r ∧ w 5 r ≤ 3) ∧ (1 ≤ w 3 r → (w 4 r = 0 → 1 ≤ w 5 r ∧ w 5 r ≤ w 3 r) ∧ (w 4 r ≠ 0 → w 5 r = w 3 r - 1)) ∧ (w 3 r = 0 → w 4 r = 0 ∧ w 5 r = 0)
theorem WfT.D {w : World} (h : WfT w) : WfD (SA w) := by
  intro r
  by_cases hr : 0 ≤ r ∧ r < 10
  · have h1 := h r.toNat (by omega)
    have e : r = (r.toNat : Int) := by omega
    rw [e, SA_co (by omega), SA_ki (by omega)]
    omega
  · show (if 0 ≤ r ∧ r < 10 then (w 3 r.toNat).toNat else 0) ≤ 3 ∧ (if 0 ≤ r ∧ r < 10 then (w 4 r.toNat).toNat else 0) ≤ 3
    rw [if_neg hr, if_neg hr]
    omega
theorem WfT_congr {w w' : World} (h : ∀ c, 3 ≤ c → c ≤ 5 → w' c = w c) (hS : WfT w) : WfT w' := by
  intro r hr
  rw [h 3 (by omega) (by omega), h 4 (by omega) (by omega), h 5 (by omega) (by omega)]
  exact hS r hr
def BMod (w : World) (M n : Nat) (ρ c : Nat → Nat) : Prop :=
  M < 5 ∧ w 20 M = (n : Int) ∧ n ≤ 49 ∧ (∀ s, s < n → ρ s < 10 ∧ w 21 (50 * M + s) = (ρ s : Int) ∧ (∀ j, j < 3 → w 22 (3 * (50 * M + s) + j) = ((clm (c s) j : Nat) : Int)) ∧ c s < 2097152 ∧ 1 ≤ w 3 (ρ s)) ∧
  ∀ s s', s < n → s' < n → s ≠ s' → ρ s = ρ s' → kz ((SA w).kq (ρ s : Int)) (c s) ≠ kz ((SA w).kq (ρ s : Int)) (c s')
/-- the columns that tell -/
def mny (w : World) (r : Nat) : Nat := if w 4 r = 0 then (w 3 r).toNat else (w 3 r).toNat - 1
def pick (x y z : Int) (j : Nat) : Int := if j = 0 then x else if j = 1 then y else z
def KE (w : World) (c : Nat → Nat) (r : Nat) (x y z : Int) (s : Nat) : Prop := ∀ j, j < mny w r → ((clm (c s) j : Nat) : Int) = pick x y z j
theorem place_step {w : World} {M n r k : Nat} {ρ c : Nat → Nat} {x y z fd : Int} (hS : WfT w) (h : BMod w M n ρ c) (hr : r < 10) (hk : k < n) :
    ∃ v : Int, f_Re_place_34B w (M : Int) (r : Int) x y z ((mny w r : Nat) : Int) fd (k : Int) = some (Sum.inl (v, ((k + 1 : Nat) : Int))) ∧ ((ρ k = r ∧ KE w c r x y z k ∧ v = (k : Int)) ∨ (¬ (ρ k = r ∧ KE w c r x y z k) ∧ v = fd)) := by
  obtain ⟨hM, hn, h49, hsl, hkey⟩ := h
  obtain ⟨a1, a2, a3, a4, a5⟩ := hsl k hk
  have hm3 : mny w r ≤ 3 := by
    have := (hS r hr).1
    unfold mny
    split <;> omega
  have e0 := a3 0 (by omega)
  have e1 := a3 1 (by omega)
  have e2 := a3 2 (by omega)
  rw [Nat.add_zero (3 * (50 * M + k))] at e0
  have w1 : wr ((wr (50 * (M : Int))) + (k : Int)) = ((50 * M + k : Nat) : Int) := by
    rw [wr_of (x := 50 * (M : Int)) ⟨by omega, by omega⟩, wr_of (x := 50 * (M : Int) + (k : Int)) ⟨by omega, by omega⟩]
    omega
  have w3 : wr (3 * ((50 * M + k : Nat) : Int)) = ((3 * (50 * M + k) : Nat) : Int) := by
    rw [wr_of (x := 3 * ((50 * M + k : Nat) : Int)) ⟨by omega, by omega⟩]
    omega
  have w31 : wr (((3 * (50 * M + k) : Nat) : Int) + 1) = ((3 * (50 * M + k) + 1 : Nat) : Int) := by
    rw [wr_of (x := ((3 * (50 * M + k) : Nat) : Int) + 1) ⟨by omega, by omega⟩]
    omega
  have w32 : wr (((3 * (50 * M + k) : Nat) : Int) + 2) = ((3 * (50 * M + k) + 2 : Nat) : Int) := by
    rw [wr_of (x := ((3 * (50 * M + k) : Nat) : Int) + 2) ⟨by omega, by omega⟩]
    omega
  have h132 : ∀ s0 : Int, f_Re_place_133 w (M : Int) (r : Int) x y z ((mny w r : Nat) : Int) fd (k : Int) s0 = some (Sum.inl (if s0 = 0 then fd else (k : Int), ((k + 1 : Nat) : Int))) := by
    intro s0
    unfold f_Re_place_133 f_Re_place_147
    have ek : ((k + 1 : Nat) : Int) = (k : Int) + 1 := by omega
    rw [bl_s, bl_s, wr_of (x := (k : Int) + 1) ⟨by omega, by omega⟩, ek]
    split <;> rfl
  have no : ∀ P : Prop, ¬ P → ∃ v : Int, f_Re_place_132 w (M : Int) (r : Int) x y z ((mny w r : Nat) : Int) fd (k : Int) = some (Sum.inl (v, ((k + 1 : Nat) : Int))) ∧ ((P ∧ v = (k : Int)) ∨ (¬ P ∧ v = fd)) := fun P hP => by
    refine ⟨fd, ?_, Or.inr ⟨hP, rfl⟩⟩
    unfold f_Re_place_132
    rw [h132, if_pos rfl]
  have yes : ∀ P : Prop, P → ∃ v : Int, f_Re_place_128 w (M : Int) (r : Int) x y z ((mny w r : Nat) : Int) fd (k : Int) = some (Sum.inl (v, ((k + 1 : Nat) : Int))) ∧ ((P ∧ v = (k : Int)) ∨ (¬ P ∧ v = fd)) := fun P hP => by
    refine ⟨(k : Int), ?_, Or.inl ⟨hP, rfl⟩⟩
    unfold f_Re_place_128
    rw [h132, if_neg (by decide)]
  have main : ∃ v : Int, f_Re_place_34B w (M : Int) (r : Int) x y z ((mny w r : Nat) : Int) fd (k : Int) = some (Sum.inl (v, ((k + 1 : Nat) : Int))) ∧ (((ρ k = r ∧ KE w c r x y z k) ∧ v = (k : Int)) ∨ (¬ (ρ k = r ∧ KE w c r x y z k) ∧ v = fd)) := by
    unfold f_Re_place_34B
    rw [gd_t ⟨by omega, by omega⟩, Int.toNat_natCast, hn, if_neg (by omega), bl_s, w1, gd_t ⟨by omega, by omega⟩, Int.toNat_natCast, a2]
    by_cases hρ : ρ k = r
    · rw [if_pos (by omega)]
      have kn : ∀ j, j < mny w r → ((clm (c k) j : Nat) : Int) ≠ pick x y z j → ¬ (ρ k = r ∧ KE w c r x y z k) := fun j hj hne q => hne (q.2 j hj)
      have ky : (∀ j, j < mny w r → ((clm (c k) j : Nat) : Int) = pick x y z j) → (ρ k = r ∧ KE w c r x y z k) := fun q => ⟨hρ, q⟩
      have s106 : (∀ j, j < mny w r → j < 2 → ((clm (c k) j : Nat) : Int) = pick x y z j) → ∃ v : Int, f_Re_place_106 w (M : Int) (r : Int) x y z ((mny w r : Nat) : Int) fd (k : Int) ((50 * M + k : Nat) : Int) = some (Sum.inl (v, ((k + 1 : Nat) : Int))) ∧ (((ρ k = r ∧ KE w c r x y z k) ∧ v = (k : Int)) ∨ (¬ (ρ k = r ∧ KE w c r x y z k) ∧ v = fd)) := fun q => by
        unfold f_Re_place_106
        by_cases h3 : mny w r < 3
        · rw [if_pos (by omega)]
          exact yes _ (ky (fun j hj => q j hj (by omega)))
        · rw [if_neg (by omega), w3, w32, gd_t ⟨by omega, by omega⟩, Int.toNat_natCast, e2]
          by_cases hz : ((clm (c k) 2 : Nat) : Int) = z
          · rw [if_pos hz]
            exact yes _ (ky (fun j hj => by
              by_cases hj2 : j < 2
              · exact q j hj hj2
              · have : j = 2 := by omega
                subst this
                exact hz))
          · rw [if_neg hz]
            exact no _ (kn 2 (by omega) hz)
      have s84 : (∀ j, j < mny w r → j < 1 → ((clm (c k) j : Nat) : Int) = pick x y z j) → ∃ v : Int, f_Re_place_84 w (M : Int) (r : Int) x y z ((mny w r : Nat) : Int) fd (k : Int) ((50 * M + k : Nat) : Int) = some (Sum.inl (v, ((k + 1 : Nat) : Int))) ∧ (((ρ k = r ∧ KE w c r x y z k) ∧ v = (k : Int)) ∨ (¬ (ρ k = r ∧ KE w c r x y z k) ∧ v = fd)) := fun q => by
        unfold f_Re_place_84
        by_cases h2 : mny w r < 2
        · rw [if_pos (by omega)]
          exact s106 (fun j hj hj2 => q j hj (by omega))
        · rw [if_neg (by omega), w3, w31, gd_t ⟨by omega, by omega⟩, Int.toNat_natCast, e1]
          by_cases hy : ((clm (c k) 1 : Nat) : Int) = y
          · rw [if_pos hy]
            exact s106 (fun j hj hj2 => by
              by_cases hj1 : j < 1
              · exact q j hj hj1
              · have : j = 1 := by omega
                subst this
                exact hy)
          · rw [if_neg hy]
            exact no _ (kn 1 (by omega) hy)
      by_cases h1 : mny w r < 1
      · rw [if_pos (by omega)]
        exact s84 (fun j hj _ => by omega)
      · rw [if_neg (by omega), w3, gd_t ⟨by omega, by omega⟩, Int.toNat_natCast, e0]
        by_cases hx : ((clm (c k) 0 : Nat) : Int) = x
        · rw [if_pos hx]
          exact s84 (fun j hj hj1 => by
            have : j = 0 := by omega
            subst this
            exact hx)
        · rw [if_neg hx]
          exact no _ (kn 0 (by omega) hx)
    · rw [if_neg (by omega)]
      exact no _ (fun q => hρ q.1)
  obtain ⟨v, hv, hh⟩ := main
  exact ⟨v, hv, hh.imp (fun q => ⟨q.1.1, q.1.2, q.2⟩) (fun q => q)⟩
/-- the place with the same key, if there is one -/
theorem place_n {w : World} {M n r : Nat} {ρ c : Nat → Nat} {x y z : Int} (hS : WfT w) (h : BMod w M n ρ c) (hr : r < 10) (hd : 1 ≤ w 3 r) :
    (∃ s, s < n ∧ ρ s = r ∧ KE w c r x y z s ∧ f_Re_place w (M : Int) (r : Int) x y z = some (s : Int)) ∨ ((∀ s, s < n → ρ s = r → ¬ KE w c r x y z s) ∧ f_Re_place w (M : Int) (r : Int) x y z = some (-1)) := by
  have loop : ∀ (j k : Nat) (fd : Int), k + j = n → (∃ s, k ≤ s ∧ s < n ∧ ρ s = r ∧ KE w c r x y z s ∧ f_Re_place_34 w (M : Int) (r : Int) x y z ((mny w r : Nat) : Int) fd (k : Int) = some (s : Int)) ∨ ((∀ s, k ≤ s → s < n → ρ s = r → ¬ KE w c r x y z s) ∧ f_Re_place_34 w (M : Int) (r : Int) x y z ((mny w r : Nat) : Int) fd (k : Int) = some fd) := by
    intro j
    induction j with
    | zero =>
      intro k fd hk
      refine Or.inr ⟨fun s h1 h2 => absurd h2 (by omega), ?_⟩
      unfold f_Re_place_34
      refine lp_out ?_
      show f_Re_place_34B w (M : Int) (r : Int) x y z ((mny w r : Nat) : Int) fd (k : Int) = _
      obtain ⟨hM, hn, -⟩ := h
      unfold f_Re_place_34B
      rw [gd_t ⟨by omega, by omega⟩, Int.toNat_natCast, hn, if_pos (by omega)]
    | succ j ih =>
      intro k fd hk
      obtain ⟨v, hv, hh⟩ := place_step (fd := fd) (x := x) (y := y) (z := z) hS h hr (show k < n by omega)
      have e : f_Re_place_34 w (M : Int) (r : Int) x y z ((mny w r : Nat) : Int) fd (k : Int) = f_Re_place_34 w (M : Int) (r : Int) x y z ((mny w r : Nat) : Int) v ((k + 1 : Nat) : Int) := by
        unfold f_Re_place_34
        exact lp_step (s := (fd, (k : Int))) hv
      rw [e]
      rcases ih (k + 1) v (by omega) with ⟨s, h1, h2, h3, h4, h5⟩ | ⟨h1, h2⟩
      · exact Or.inl ⟨s, by omega, h2, h3, h4, h5⟩
      · rcases hh with ⟨q1, q2, q3⟩ | ⟨q1, q2⟩
        · exact Or.inl ⟨k, Nat.le_refl _, by omega, q1, q2, by rw [h2, q3]⟩
        · refine Or.inr ⟨fun s p1 p2 p3 p4 => ?_, by rw [h2, q2]⟩
          by_cases es : s = k
          · subst es
            exact q1 ⟨p3, p4⟩
          · exact h1 s (by omega) p2 p3 p4
  have e : f_Re_place w (M : Int) (r : Int) x y z = f_Re_place_34 w (M : Int) (r : Int) x y z ((mny w r : Nat) : Int) (-1) ((0 : Nat) : Int) := by
    have h3 := (hS r hr).1
    unfold f_Re_place f_Re_place_26
    rw [gd_t ⟨by omega, by omega⟩, Int.toNat_natCast]
    by_cases h4 : w 4 r = 0
    · rw [if_pos h4, gd_t ⟨by omega, by omega⟩]
      have : ((mny w r : Nat) : Int) = w 3 r := by
        unfold mny
        rw [if_pos h4]
        omega
      rw [this]
      rfl
    · rw [if_neg h4, gd_t ⟨by omega, by omega⟩, wr_of (x := w 3 r - 1) ⟨by omega, by omega⟩]
      have : ((mny w r : Nat) : Int) = w 3 r - 1 := by
        unfold mny
        rw [if_neg h4]
        omega
      rw [this]
      rfl
  rw [e]
  rcases loop n 0 (-1) (by omega) with ⟨s, h1, h2, h3, h4, h5⟩ | ⟨h1, h2⟩
  · exact Or.inl ⟨s, h2, h3, h4, h5⟩
  · exact Or.inr ⟨fun s p1 => h1 s (by omega) p1, h2⟩
