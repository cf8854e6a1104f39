/-! THE CLASS'S WALK: one move, the search -/
theorem next_move {w w1 : World} {b p d E i : Nat} {a : Int} (hb : (w 103 1).toNat = b) (hkb : kdA b = 1) (hd : w 103 4 = (d : Int)) (hE : w 103 3 = (E : Int)) (hE5 : E ≤ 5) (hdE : d < E) (hi : i < 10000000) (hp5 : p < 5) (hp : f_Wa_placeAt w (d : Int) = some (p : Int))
    (h : (if w (b + 1) p = 0 then f_Wa_takesTuple w (p : Int) else f_Wa_passes w (p : Int)) = some (w1, a)) (h4 : w1 103 4 = (d : Int)) (h3 : w1 103 3 = (E : Int)) (ha : a = 0 ∨ a = 1) :
    f_Wa_next_30B w (i : Int) = if a = 0 then some (Sum.inl (up (up w1 103 4 ((d : Int) - 1)) 103 5 0, ((i + 1 : Nat) : Int))) else if d + 1 = E then some (Sum.inr (up (up w1 103 4 ((d : Int) + 1)) 103 5 1, 1)) else some (Sum.inl (up (up w1 103 4 ((d : Int) + 1)) 103 5 1, ((i + 1 : Nat) : Int))) := by
  have h97 : ∀ v : World, v 103 4 = (d : Int) → f_Wa_next_97 v (i : Int) = some (Sum.inl (up (up v 103 4 ((d : Int) - 1)) 103 5 0, ((i + 1 : Nat) : Int))) := by
    intro v hv
    unfold f_Wa_next_97 f_Wa_next_98 f_Wa_next_113 f_Wa_next_139
    rw [if_pos rfl, bl_s, hv, wr_of (x := (d : Int) + -1) ⟨by omega, by omega⟩, gd_t (Or.inl rfl), bl_s, if_pos rfl, bl_s, wr_of (x := (i : Int) + 1) ⟨by omega, by omega⟩]
    rfl
  have h93 : ∀ v : World, v 103 4 = (d : Int) → v 103 3 = (E : Int) → f_Wa_next_93 v (i : Int) = if d + 1 = E then some (Sum.inr (up (up v 103 4 ((d : Int) + 1)) 103 5 1, 1)) else some (Sum.inl (up (up v 103 4 ((d : Int) + 1)) 103 5 1, ((i + 1 : Nat) : Int))) := by
    intro v hv hv3
    unfold f_Wa_next_93 f_Wa_next_98 f_Wa_next_113 f_Wa_next_139
    have e4 : up (up v 103 4 ((d : Int) + 1)) 103 5 1 103 4 = (d : Int) + 1 := by simp [up]
    have e3 : up (up v 103 4 ((d : Int) + 1)) 103 5 1 103 3 = (E : Int) := by simp [up, hv3]
    rw [if_neg (by decide), bl_s, hv, wr_of (x := (d : Int) + 1) ⟨by omega, by omega⟩, gd_t (Or.inr rfl), bl_s, if_neg (by decide), e4, e3]
    by_cases q : d + 1 = E
    · rw [if_pos q, if_pos (by omega)]
    · rw [if_neg q, if_neg (by omega), bl_s, wr_of (x := (i : Int) + 1) ⟨by omega, by omega⟩]
      rfl
  unfold f_Wa_next_30B
  rw [if_neg (by omega), hd, if_neg (by omega), hp, bnd_s, hE, if_neg (by omega), hb, gd_t hkb, formOf_n hp5, bnd_s]
  by_cases hf : w (b + 1) p = 0
  · rw [if_pos hf] at h ⊢
    rw [h, bnd_s]
    rcases ha with rfl | rfl
    · rw [if_pos rfl, if_pos rfl]; exact h97 w1 h4
    · rw [if_neg (by decide : ¬ (1 : Int) = 0), if_neg (show ¬ ((w1, (1 : Int)).2 = 0) from (by decide : ¬ (1 : Int) = 0))]; exact h93 w1 h4 h3
  · rw [if_neg hf] at h ⊢
    rw [h, bnd_s]
    rcases ha with rfl | rfl
    · rw [if_pos rfl, if_pos rfl]; exact h97 w1 h4
    · rw [if_neg (by decide : ¬ (1 : Int) = 0), if_neg (show ¬ ((w1, (1 : Int)).2 = 0) from (by decide : ¬ (1 : Int) = 0))]; exact h93 w1 h4 h3
/-- the place of a literal at a depth -/
def pl (w : World) (d : Nat) : Nat := if w 103 6 = -1 ∨ w 103 6 < (d : Int) then d else if d = 0 then (w 103 6).toNat else d - 1
theorem pl_cases (w : World) (d : Nat) : ((w 103 6 = -1 ∨ w 103 6 < (d : Int)) ∧ pl w d = d) ∨ (¬ (w 103 6 = -1 ∨ w 103 6 < (d : Int)) ∧ d = 0 ∧ pl w d = (w 103 6).toNat) ∨ (¬ (w 103 6 = -1 ∨ w 103 6 < (d : Int)) ∧ d ≠ 0 ∧ pl w d = d - 1) := by
  unfold pl
  by_cases h : w 103 6 = -1 ∨ w 103 6 < (d : Int)
  · rw [if_pos h]; exact Or.inl ⟨h, rfl⟩
  · rw [if_neg h]
    by_cases h0 : d = 0
    · rw [if_pos h0]; exact Or.inr (Or.inl ⟨h, h0, rfl⟩)
    · rw [if_neg h0]; exact Or.inr (Or.inr ⟨h, h0, rfl⟩)
theorem placeAt_n {w : World} {d : Nat} (hd : d < 5) (hl : w 103 6 = -1 ∨ 0 ≤ w 103 6) : f_Wa_placeAt w (d : Int) = some ((pl w d : Nat) : Int) := by
  have hp := pl_cases w d
  unfold f_Wa_placeAt
  by_cases h1 : w 103 6 = -1
  · rw [if_pos h1]
    congr 1
    omega
  · rw [if_neg h1]
    by_cases h2 : (d : Int) ≤ w 103 6
    · rw [if_pos h2]
      by_cases h3 : d = 0
      · rw [if_pos (show (d : Int) = 0 by omega)]
        congr 1
        omega
      · rw [if_neg (by omega), wr_of (x := (d : Int) - 1) ⟨by omega, by omega⟩]
        congr 1
        omega
    · rw [if_neg h2]
      congr 1
      omega
theorem pl_lt {w : World} {d E : Nat} (hd : d < E) (hl : w 103 6 = -1 ∨ (0 ≤ w 103 6 ∧ w 103 6 < (E : Int))) : pl w d < E := by
  have hp := pl_cases w d
  omega
theorem pl_inj {w : World} {d d' : Nat} (hl : w 103 6 = -1 ∨ 0 ≤ w 103 6) (h : pl w d = pl w d') : d = d' := by
  have hp := pl_cases w d
  have hp' := pl_cases w d'
  omega
/-- what a walk goes through: body b, model t, E literals -/
def WkC (w : World) (b t E N : Nat) (ρ c : Nat → Nat) (L : Nat → List Nat) : Prop :=
  (w 103 1).toNat = b ∧ kdA b = 1 ∧ (w 103 2).toNat = t ∧ kdA t = 6 ∧ w 103 3 = (E : Int) ∧ E ≤ 5 ∧ (w 103 6 = -1 ∨ (0 ≤ w 103 6 ∧ w 103 6 < (E : Int))) ∧ WfS w ∧ AMod w t N ρ c L ∧
  (∀ p, p < E → (∀ c, c < 3 → -8 ≤ w (b + 3) (3 * p + c) ∧ w (b + 3) (3 * p + c) < 128) ∧ (0 ≤ w (b + 1) p ∧ w (b + 1) p ≤ 3) ∧ (w (b + 1) p ≤ 1 → ∃ r : Nat, w (b + 2) p = (r : Int) ∧ r < 10 ∧ 1 ≤ w 3 r ∧ ∀ c : Nat, c < 3 → w 3 r ≤ (c : Int) → w (b + 3) (3 * p + c) = 0)) ∧
  ∀ d, d < E → w (b + 1) (pl w d) ≠ 0 → ∀ cc, cc < 3 → (w (b + 1) (pl w d) = 3 → cc ≠ 0) → w (b + 3) (3 * pl w d + cc) < 0 → ∃ j c', j < d ∧ c' < 3 ∧ (w (b + 1) (pl w j) = 0 ∨ (w (b + 1) (pl w j) = 3 ∧ c' = 0)) ∧ w (b + 3) (3 * pl w j + c') = w (b + 3) (3 * pl w d + cc)
/-- the slots that a literal goes through -/
def cnd (w : World) (b : Nat) (L : Nat → List Nat) (d : Nat) : List Nat := if w (b + 1) (pl w d) = 0 then L (w (b + 2) (pl w d)).toNat else [0]
noncomputable def oc (w : World) (b t N : Nat) (ρ c : Nat → Nat) (d : Nat) (vs : Nat → Int) (s : Nat) : Option ((Nat → Int) × Nat) := if w (b + 1) (pl w d) = 0 then tO w b t (pl w d) (w 3 (w (b + 2) (pl w d)).toNat).toNat vs s else pO w b (pl w d) N ρ c vs
/-- the variables that the literals ahead bind have values -/
def Cov (w : World) (b d : Nat) (vs : Nat → Int) : Prop := ∀ j c', j < d → c' < 3 → (w (b + 1) (pl w j) = 0 ∨ (w (b + 1) (pl w j) = 3 ∧ c' = 0)) → 0 ≤ vl vs (w (b + 3) (3 * pl w j + c'))
theorem Cov_ext {w : World} {b d : Nat} {v v' : Nat → Int} (h : Cov w b d v) (he : ∀ x, v x ≠ -1 → v' x = v x) (hV : VV v) : Cov w b d v' := by
  intro j c' hj hc hf
  have h1 := h j c' hj hc hf
  unfold vl at h1 ⊢
  split
  · next hn =>
    rw [if_pos hn] at h1
    rw [he _ (by omega)]
    exact h1
  · next hn => omega
theorem Bnd_ext {v0 v1 : Nat → Int} {m : Nat} (h : Bnd v0 v1 m) : ∀ x, v0 x ≠ -1 → v1 x = v0 x := fun x hx => by
  by_cases q : m.testBit x = true
  · exact absurd (h.2.1 x q) hx
  · exact h.2.2 x (by simpa using q)
/-- a match gives all its terms values -/
theorem mtf_val {tm : Nat → Int} {cd : Nat → Nat} (htm : ∀ c, c < 3 → -8 ≤ tm c ∧ tm c < 128) (hcd : ∀ c, cd c < 128) : ∀ (n c : Nat) (vs : Nat → Int) (m : Nat) (v' : Nat → Int) (m' : Nat), c + n ≤ 3 → VV vs → mtf tm cd n c vs m = some (v', m') → (∀ x, vs x ≠ -1 → v' x = vs x) ∧ ∀ j, c ≤ j → j < c + n → vl v' (tm j) = (cd j : Int) := by
  intro n
  induction n with
  | zero =>
    intro c vs m v' m' _ hV h
    unfold mtf at h
    cases h
    exact ⟨fun _ _ => rfl, fun j h1 h2 => by omega⟩
  | succ n ih =>
    intro c vs m v' m' hc hV h
    unfold mtf at h
    have ht := htm c (by omega)
    have hcc := hcd c
    by_cases h1 : vl vs (tm c) = -1
    · rw [if_pos h1] at h
      have hneg : tm c < 0 := by
        refine Classical.byContradiction fun hn => ?_
        unfold vl at h1
        rw [if_neg hn] at h1
        omega
      have hv : vs (-1 - tm c).toNat = -1 := by unfold vl at h1; rw [if_pos hneg] at h1; exact h1
      have hb : bd vs (tm c) (cd c : Int) = upn vs (-1 - tm c).toNat (cd c : Int) := if_pos ⟨hneg, hv⟩
      obtain ⟨k1, k2⟩ := ih (c + 1) _ _ v' m' (by omega) (bd_VV hV (by omega)) h
      have hx : v' (-1 - tm c).toNat = (cd c : Int) := by
        rw [k1 _ (by rw [hb, upn_eq]; omega), hb, upn_eq]
      refine ⟨fun x hx0 => ?_, fun j h2 h3 => ?_⟩
      · have hne : x ≠ (-1 - tm c).toNat := fun e => hx0 (by rw [e]; exact hv)
        rw [k1 x (by rw [hb, upn_ne hne]; exact hx0), hb, upn_ne hne]
      · by_cases e : j = c
        · subst e
          unfold vl
          rw [if_pos hneg]
          exact hx
        · exact k2 j (by omega) (by omega)
    · rw [if_neg h1] at h
      by_cases h2 : vl vs (tm c) = (cd c : Int)
      · rw [if_pos h2] at h
        obtain ⟨k1, k2⟩ := ih (c + 1) vs m v' m' (by omega) hV h
        refine ⟨k1, fun j h3 h4 => ?_⟩
        by_cases e : j = c
        · subst e
          unfold vl at h2 ⊢
          by_cases hn : tm j < 0
          · rw [if_pos hn] at h2 ⊢
            rw [k1 _ (by omega)]
            exact h2
          · rw [if_neg hn] at h2 ⊢
            exact h2
        · exact k2 j (by omega) (by omega)
      · rw [if_neg h2] at h
        cases h
theorem oc_ok {w : World} {b t E N d : Nat} {ρ c : Nat → Nat} {L : Nat → List Nat} {vs : Nat → Int} {s : Nat} {q : (Nat → Int) × Nat} (hC : WkC w b t E N ρ c L) (hd : d < E) (hV : VV vs) (hcov : Cov w b d vs) (h : oc w b t N ρ c d vs s = some q) : VV q.1 ∧ Bnd vs q.1 q.2 ∧ Cov w b (d + 1) q.1 := by
  obtain ⟨v', m'⟩ := q
  obtain ⟨hb, hkb, ht, hkt, hE, hE5, hl, hS, hA, hL, hsafe⟩ := hC
  have hp := pl_lt (w := w) hd hl
  obtain ⟨htm, hfm, hsj⟩ := hL (pl w d) hp
  have base : VV v' ∧ Bnd vs v' m' ∧ ∀ c', c' < 3 → (w (b + 1) (pl w d) = 0 ∨ (w (b + 1) (pl w d) = 3 ∧ c' = 0)) → 0 ≤ vl v' (w (b + 3) (3 * pl w d + c')) := by
    unfold oc at h
    by_cases f0 : w (b + 1) (pl w d) = 0
    · rw [if_pos f0] at h
      obtain ⟨r, hr, hr10, hrd, hz⟩ := hsj (by omega)
      have hS3 := (hS r hr10).1
      rw [hr, Int.toNat_natCast] at h
      unfold tO at h
      by_cases hT : timely (w 103 6) (w 103 7) (w (t + 4)) (pl w d) s = true
      · rw [if_pos hT] at h
        have k1 := mtf_inv (v0 := vs) htm (fun c => clm_lt) _ 0 vs 0 v' m' (by omega) hV Bnd.refl h
        have k2 := mtf_val htm (fun c => clm_lt) _ 0 vs 0 v' m' (by omega) hV h
        refine ⟨k1.1, k1.2, fun c' hc' _ => ?_⟩
        by_cases hcc : c' < (w 3 r).toNat
        · rw [k2.2 c' (by omega) (by omega)]
          omega
        · rw [hz c' hc' (by omega)]
          exact Int.le_refl 0
      · rw [if_neg hT] at h
        cases h
    · rw [if_neg f0] at h
      unfold pO at h
      by_cases f1 : w (b + 1) (pl w d) = 1
      · rw [if_pos f1] at h
        split at h
        · cases h
        · cases h
          exact ⟨hV, Bnd.refl, fun c' _ hf => by omega⟩
      · rw [if_neg f1] at h
        by_cases f2 : w (b + 1) (pl w d) = 2
        · rw [if_pos f2] at h
          split at h
          · cases h
            exact ⟨hV, Bnd.refl, fun c' _ hf => by omega⟩
          · cases h
        · rw [if_neg f2] at h
          have f3 : w (b + 1) (pl w d) = 3 := by omega
          have t0 : -8 ≤ w (b + 3) (3 * pl w d) ∧ w (b + 3) (3 * pl w d) < 128 := htm 0 (by omega)
          have sv : ∀ cc, cc = 1 ∨ cc = 2 → 0 ≤ vl vs (w (b + 3) (3 * pl w d + cc)) := fun cc hcc => by
            by_cases hn : w (b + 3) (3 * pl w d + cc) < 0
            · obtain ⟨j, c', hj, hc', hf, he⟩ := hsafe d hd (by omega) cc (by omega) (fun _ => by omega) hn
              have := hcov j c' hj hc' hf
              rw [he] at this
              exact this
            · unfold vl
              rw [if_neg hn]
              omega
          have s1 := sv 1 (Or.inl rfl)
          have s2 := sv 2 (Or.inr rfl)
          by_cases h1 : vl vs (w (b + 3) (3 * pl w d)) = -1
          · rw [if_pos h1] at h
            have hneg : w (b + 3) (3 * pl w d) < 0 := by
              refine Classical.byContradiction fun hn => ?_
              unfold vl at h1
              rw [if_neg hn] at h1
              omega
            have hv : vs (-1 - w (b + 3) (3 * pl w d)).toNat = -1 := by unfold vl at h1; rw [if_pos hneg] at h1; exact h1
            have hbd := Bnd.bind (x := min 127 (vl vs (w (b + 3) (3 * pl w d + 1)) + vl vs (w (b + 3) (3 * pl w d + 2)))) (Bnd.refl (v := vs)) ⟨t0.1, hneg⟩ hv
            rw [Nat.zero_or] at hbd
            cases h
            refine ⟨bd_VV hV (by omega), hbd, fun c' hc' hf => ?_⟩
            have e : c' = 0 := by omega
            subst e
            rw [Nat.add_zero (3 * pl w d)]
            have hb' : bd vs (w (b + 3) (3 * pl w d)) (min 127 (vl vs (w (b + 3) (3 * pl w d + 1)) + vl vs (w (b + 3) (3 * pl w d + 2)))) = upn vs (-1 - w (b + 3) (3 * pl w d)).toNat (min 127 (vl vs (w (b + 3) (3 * pl w d + 1)) + vl vs (w (b + 3) (3 * pl w d + 2)))) := if_pos ⟨hneg, hv⟩
            rw [hb']
            show 0 ≤ vl (upn vs _ _) _
            unfold vl at s1 s2 ⊢
            rw [if_pos hneg, upn_eq]
            omega
          · rw [if_neg h1] at h
            split at h
            · next h4 =>
              cases h
              refine ⟨hV, Bnd.refl, fun c' hc' hf => ?_⟩
              have e : c' = 0 := by omega
              subst e
              rw [Nat.add_zero (3 * pl w d), h4]
              omega
            · cases h
  refine ⟨base.1, base.2.1, fun j c' hj hc' hf => ?_⟩
  by_cases e : j = d
  · subst e; exact base.2.2 c' hc' hf
  · exact Cov_ext hcov (Bnd_ext base.2.1) hV j c' (by omega) hc' hf
