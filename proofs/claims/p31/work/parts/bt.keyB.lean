/-! BOTH: keys broken; the reference -/
noncomputable def bi (P : Prop) : Int := by
  classical
  exact if P then 1 else 0
theorem bi_1 {P : Prop} (h : P) : bi P = 1 := by unfold bi; rw [if_pos h]
theorem bi_0 {P : Prop} (h : ¬ P) : bi P = 0 := by unfold bi; rw [if_neg h]
theorem bi_01 {P : Prop} : bi P = 0 ∨ bi P = 1 := by
  by_cases h : P
  · exact Or.inr (bi_1 h)
  · exact Or.inl (bi_0 h)
theorem bi_z {P : Prop} : bi P = 0 ↔ ¬ P := by
  constructor
  · intro h hp; rw [bi_1 hp] at h; exact absurd h (by decide)
  · exact bi_0
theorem bi_c {P Q : Prop} (h : P ↔ Q) : bi P = bi Q := by rw [propext h]
/-- two rows of a relation that are alike in the key's columns -/
def par (ρ c : Nat → Nat) (r y a i : Nat) : Prop := ρ a = r ∧ ρ i = r ∧ ∀ j, j < y → clm (c a) j = clm (c i) j
theorem keyB76 {w : World} {M n r s s' y : Nat} {ρ c : Nat → Nat} {P0 Q : Prop} (hB : BMod w M n ρ c) (hr : r < 10) (hy : w 5 r = (y : Int)) (hy3 : y ≤ 3) (hs : s < n) (hs' : s' < n) :
    f_Re_isKeyBroken_76 w (M : Int) (r : Int) (bi Q) (s : Int) (s' : Int) ((50 * M + s : Nat) : Int) ((50 * M + s' : Nat) : Int) (bi P0) 0 = some (Sum.inl (bi (Q ∨ (P0 ∧ ∀ j, j < y → clm (c s) j = clm (c s') j)), ((s' + 1 : Nat) : Int))) := by
  obtain ⟨hM, hn, h49, hsl, -⟩ := hB
  have ix : ∀ (a j : Nat), a < n → j < 3 → wr ((wr (3 * ((50 * M + a : Nat) : Int))) + (j : Int)) = ((3 * (50 * M + a) + j : Nat) : Int) := fun a j ha hj => by
    rw [wr_of (x := 3 * ((50 * M + a : Nat) : Int)) ⟨by omega, by omega⟩, wr_of (x := 3 * ((50 * M + a : Nat) : Int) + (j : Int)) ⟨by omega, by omega⟩]
    omega
  have h24 : ∀ x : Int, f_Re_isKeyBroken_146 w (M : Int) (r : Int) (s : Int) (s' : Int) x = some (Sum.inl (x, ((s' + 1 : Nat) : Int))) := fun x => by
    unfold f_Re_isKeyBroken_146
    rw [bl_s, wr_of (x := (s' : Int) + 1) ⟨by omega, by omega⟩]
    rfl
  have st : ∀ k, k < y → f_Re_isKeyBroken_76B w (M : Int) (r : Int) (bi Q) (s : Int) (s' : Int) ((50 * M + s : Nat) : Int) ((50 * M + s' : Nat) : Int) (bi (P0 ∧ ∀ j, j < k → clm (c s) j = clm (c s') j)) (k : Int) = some (Sum.inl (bi (P0 ∧ ∀ j, j < k + 1 → clm (c s) j = clm (c s') j), ((k + 1 : Nat) : Int))) := fun k hk => by
    unfold f_Re_isKeyBroken_76B f_Re_isKeyBroken_123 f_Re_isKeyBroken_124
    rw [gd_t ⟨by omega, by omega⟩, Int.toNat_natCast, hy, if_neg (by omega), bl_s, bl_s, wr_of (x := (k : Int) + 1) ⟨by omega, by omega⟩]
    by_cases q : P0 ∧ ∀ j, j < k → clm (c s) j = clm (c s') j
    · rw [bi_1 q, if_neg z10, ix s k hs (by omega), ix s' k hs' (by omega), gd_t ⟨by omega, by omega⟩, gd_t ⟨by omega, by omega⟩, Int.toNat_natCast, Int.toNat_natCast, (hsl s hs).2.2.1 k (by omega), (hsl s' hs').2.2.1 k (by omega)]
      by_cases e : clm (c s) k = clm (c s') k
      · rw [if_pos (by omega), bi_1 ⟨q.1, fun j hj => by
          by_cases ej : j = k
          · subst ej; exact e
          · exact q.2 j (by omega)⟩]
        rfl
      · rw [if_neg (by omega), bi_0 (fun z => e (z.2 k (by omega)))]
        rfl
    · rw [bi_0 q, if_pos rfl, bi_0 (fun z => q ⟨z.1, fun j hj => z.2 j (by omega)⟩)]
      rfl
  unfold f_Re_isKeyBroken_76
  have hgo := lp_go (F := fun z : (Int × Int) => f_Re_isKeyBroken_76B w (M : Int) (r : Int) (bi Q) (s : Int) (s' : Int) ((50 * M + s : Nat) : Int) ((50 * M + s' : Nat) : Int) z.1 z.2) (fun k => (bi (P0 ∧ ∀ j, j < k → clm (c s) j = clm (c s') j), (k : Int))) (Sum.inl (bi (Q ∨ (P0 ∧ ∀ j, j < y → clm (c s) j = clm (c s') j)), ((s' + 1 : Nat) : Int))) y st ?_
  · have e0 : bi (P0 ∧ ∀ j, j < 0 → clm (c s) j = clm (c s') j) = bi P0 := bi_c ⟨fun z => z.1, fun z => ⟨z, fun j hj => absurd hj (Nat.not_lt_zero j)⟩⟩
    rw [← e0]
    exact hgo
  · show f_Re_isKeyBroken_76B w (M : Int) (r : Int) (bi Q) (s : Int) (s' : Int) ((50 * M + s : Nat) : Int) ((50 * M + s' : Nat) : Int) (bi (P0 ∧ ∀ j, j < y → clm (c s) j = clm (c s') j)) (y : Int) = _
    unfold f_Re_isKeyBroken_76B f_Re_isKeyBroken_141
    rw [gd_t ⟨by omega, by omega⟩, Int.toNat_natCast, hy, if_pos (Int.le_refl _), h24, h24, bnd_s, bnd_s]
    by_cases q : Q
    · rw [bi_1 q, if_neg z10, bi_1 (Or.inl q)]
    · rw [bi_0 q, if_pos rfl]
      by_cases p : P0 ∧ ∀ j, j < y → clm (c s) j = clm (c s') j
      · rw [bi_1 p, if_neg z10, bi_1 (Or.inr p)]
      · rw [bi_0 p, if_pos rfl, bi_0 (fun z => z.elim q p)]
theorem keyB_n {w : World} {M n r y : Nat} {ρ c : Nat → Nat} (hB : BMod w M n ρ c) (hr : r < 10) (hy : w 5 r = (y : Int)) (hy3 : y ≤ 3) : f_Re_isKeyBroken w (M : Int) (r : Int) = some (bi (∃ a i, a < n ∧ i < a ∧ par ρ c r y a i)) := by
  obtain ⟨hM, hn, h49, hsl, -⟩ := id hB
  have ix : ∀ a : Nat, a < n → wr ((wr (50 * (M : Int))) + (a : Int)) = ((50 * M + a : Nat) : Int) := fun a ha => by
    rw [wr_of (x := 50 * (M : Int)) ⟨by omega, by omega⟩, wr_of (x := 50 * (M : Int) + (a : Int)) ⟨by omega, by omega⟩]
    omega
  have inner : ∀ (s : Nat) (Q : Prop), s < n → f_Re_isKeyBroken_19 w (M : Int) (r : Int) (bi Q) (s : Int) 0 = some (Sum.inl (bi (Q ∨ ∃ i, i < s ∧ par ρ c r y s i), ((s + 1 : Nat) : Int))) := fun s Q hs => by
    unfold f_Re_isKeyBroken_19
    have hgo := lp_go (F := fun z : (Int × Int) => f_Re_isKeyBroken_19B w (M : Int) (r : Int) z.1 (s : Int) z.2) (fun k => (bi (Q ∨ ∃ i, i < k ∧ par ρ c r y s i), (k : Int))) (Sum.inl (bi (Q ∨ ∃ i, i < s ∧ par ρ c r y s i), ((s + 1 : Nat) : Int))) s (fun k hk => ?_) ?_
    · have e0 : bi (Q ∨ ∃ i, i < 0 ∧ par ρ c r y s i) = bi Q := bi_c ⟨fun z => z.elim (fun z => z) (fun ⟨i, hi, _⟩ => absurd hi (Nat.not_lt_zero i)), Or.inl⟩
      rw [← e0]
      exact hgo
    · show f_Re_isKeyBroken_19B w (M : Int) (r : Int) (bi (Q ∨ ∃ i, i < k ∧ par ρ c r y s i)) (s : Int) (k : Int) = some (Sum.inl (bi (Q ∨ ∃ i, i < k + 1 ∧ par ρ c r y s i), ((k + 1 : Nat) : Int)))
      have hkn : k < n := by omega
      have h76 : ∀ P0 : Prop, (P0 ↔ ρ s = r ∧ ρ k = r) → f_Re_isKeyBroken_76 w (M : Int) (r : Int) (bi (Q ∨ ∃ i, i < k ∧ par ρ c r y s i)) (s : Int) (k : Int) ((50 * M + s : Nat) : Int) ((50 * M + k : Nat) : Int) (bi P0) 0 = some (Sum.inl (bi (Q ∨ ∃ i, i < k + 1 ∧ par ρ c r y s i), ((k + 1 : Nat) : Int))) := fun P0 hP => by
        rw [keyB76 hB hr hy hy3 hs hkn]
        have : bi ((Q ∨ ∃ i, i < k ∧ par ρ c r y s i) ∨ (P0 ∧ ∀ j, j < y → clm (c s) j = clm (c k) j)) = bi (Q ∨ ∃ i, i < k + 1 ∧ par ρ c r y s i) := bi_c (by
          constructor
          · rintro ((z | ⟨i, hi, z⟩) | ⟨z1, z2⟩)
            · exact Or.inl z
            · exact Or.inr ⟨i, by omega, z⟩
            · exact Or.inr ⟨k, by omega, (hP.mp z1).1, (hP.mp z1).2, z2⟩
          · rintro (z | ⟨i, hi, z⟩)
            · exact Or.inl (Or.inl z)
            · by_cases e : i = k
              · subst e; exact Or.inr ⟨hP.mpr ⟨z.1, z.2.1⟩, z.2.2⟩
              · exact Or.inl (Or.inr ⟨i, by omega, z⟩))
        rw [this]
      have h71 : ∀ x : Int, f_Re_isKeyBroken_71 w (M : Int) (r : Int) (bi (Q ∨ ∃ i, i < k ∧ par ρ c r y s i)) (s : Int) (k : Int) ((50 * M + s : Nat) : Int) ((50 * M + k : Nat) : Int) x = f_Re_isKeyBroken_76 w (M : Int) (r : Int) (bi (Q ∨ ∃ i, i < k ∧ par ρ c r y s i)) (s : Int) (k : Int) ((50 * M + s : Nat) : Int) ((50 * M + k : Nat) : Int) x 0 := fun x => rfl
      unfold f_Re_isKeyBroken_19B f_Re_isKeyBroken_70
      rw [if_neg (by omega), ix s hs, ix k hkn, bl_s, bl_s, gd_t ⟨by omega, by omega⟩, Int.toNat_natCast, (hsl s hs).2.1, gd_t ⟨by omega, by omega⟩, Int.toNat_natCast, (hsl k hkn).2.1, h71, h71]
      have b1 : bi True = 1 := bi_1 trivial
      have b0 : bi False = 0 := bi_0 (fun z => z)
      by_cases q1 : ρ s = r
      · rw [if_pos (by omega)]
        by_cases q2 : ρ k = r
        · rw [if_pos (by omega), ← b1]
          exact h76 True ⟨fun _ => ⟨q1, q2⟩, fun _ => trivial⟩
        · have h := h76 False ⟨fun z => z.elim, fun z => q2 z.2⟩
          rw [b0] at h
          rw [if_neg (by omega)]
          exact h
      · have h := h76 False ⟨fun z => z.elim, fun z => q1 z.1⟩
        rw [b0] at h
        rw [if_neg (by omega)]
        exact h
    · show f_Re_isKeyBroken_19B w (M : Int) (r : Int) (bi (Q ∨ ∃ i, i < s ∧ par ρ c r y s i)) (s : Int) (s : Int) = _
      unfold f_Re_isKeyBroken_19B
      rw [if_pos (Int.le_refl _), bl_s, wr_of (x := (s : Int) + 1) ⟨by omega, by omega⟩]
      rfl
  unfold f_Re_isKeyBroken f_Re_isKeyBroken_5
  have hgo := lp_go (F := fun z : (Int × Int) => f_Re_isKeyBroken_5B w (M : Int) (r : Int) z.1 z.2) (fun k => (bi (∃ a i, a < k ∧ i < a ∧ par ρ c r y a i), (k : Int))) (bi (∃ a i, a < n ∧ i < a ∧ par ρ c r y a i)) n (fun k hk => ?_) ?_
  · have e0 : bi (∃ a i, a < 0 ∧ i < a ∧ par ρ c r y a i) = 0 := bi_0 (fun ⟨a, i, h, _⟩ => absurd h (Nat.not_lt_zero a))
    have hgo : lp (fun z : (Int × Int) => f_Re_isKeyBroken_5B w (M : Int) (r : Int) z.1 z.2) (bi (∃ a i, a < 0 ∧ i < a ∧ par ρ c r y a i), ((0 : Nat) : Int)) = some (bi (∃ a i, a < n ∧ i < a ∧ par ρ c r y a i)) := hgo
    rw [e0] at hgo
    exact hgo
  · show f_Re_isKeyBroken_5B w (M : Int) (r : Int) (bi (∃ a i, a < k ∧ i < a ∧ par ρ c r y a i)) (k : Int) = some (Sum.inl (bi (∃ a i, a < k + 1 ∧ i < a ∧ par ρ c r y a i), ((k + 1 : Nat) : Int)))
    unfold f_Re_isKeyBroken_5B
    rw [gd_t ⟨by omega, by omega⟩, Int.toNat_natCast, hn, if_neg (by omega), inner k _ hk]
    have : bi ((∃ a i, a < k ∧ i < a ∧ par ρ c r y a i) ∨ ∃ i, i < k ∧ par ρ c r y k i) = bi (∃ a i, a < k + 1 ∧ i < a ∧ par ρ c r y a i) := bi_c (by
      constructor
      · rintro (⟨a, i, h1, h2, h3⟩ | ⟨i, h1, h2⟩)
        · exact ⟨a, i, by omega, h2, h3⟩
        · exact ⟨k, i, by omega, h1, h2⟩
      · rintro ⟨a, i, h1, h2, h3⟩
        by_cases e : a = k
        · subst e; exact Or.inr ⟨i, h2, h3⟩
        · exact Or.inl ⟨a, i, by omega, h2, h3⟩)
    rw [this]
  · show f_Re_isKeyBroken_5B w (M : Int) (r : Int) (bi (∃ a i, a < n ∧ i < a ∧ par ρ c r y a i)) (n : Int) = _
    unfold f_Re_isKeyBroken_5B
    rw [gd_t ⟨by omega, by omega⟩, Int.toNat_natCast, hn, if_pos (Int.le_refl _), gd_t bi_01]
