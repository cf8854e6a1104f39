/-! THE REFERENCE'S WALK: whether a model has a tuple -/
/-- the tuple at a place is the atom's -/
def gB (w : World) (at' co r : Nat) (ρ c : Nat → Nat) (s : Nat) : Prop := ρ s = r ∧ ∀ j, j < co → ((clm (c s) j : Nat) : Int) = vl (vB w) (w 19 (3 * at' + j))
theorem has116 {w : World} {a b x3 : Int} {k : Nat} {is : Int} (hk : k < 100) : f_Re_has_116 w a b x3 (k : Int) is = some (Sum.inl (if x3 = 0 then (if is = 0 then 0 else 1) else 1, ((k + 1 : Nat) : Int))) := by
  unfold f_Re_has_116 f_Re_has_125 f_Re_has_130
  have e : ((k + 1 : Nat) : Int) = (k : Int) + 1 := by omega
  rw [bl_s, bl_s, wr_of (x := (k : Int) + 1) ⟨by omega, by omega⟩, e]
  split
  · split <;> rfl
  · rfl
theorem has47_0 {w : World} {a b x3 : Int} {k : Nat} {j : Int} (hk : k < 100) : f_Re_has_47 w a b x3 (k : Int) 0 j = f_Re_has_116 w a b x3 (k : Int) 0 := by
  unfold f_Re_has_47
  rw [has116 hk]
  refine lp_out ?_
  show f_Re_has_47B w a b x3 (k : Int) 0 j = _
  unfold f_Re_has_47B
  rw [if_pos rfl, has116 hk, bnd_s]
theorem has47_n {w : World} {at' M n r co k : Nat} {ρ c : Nat → Nat} {x3 : Int} (hB : BMod w M n ρ c) (hk : k < n) (hat : at' < 95) (hr : w 18 at' = (r : Int)) (hr10 : r < 10) (hco : w 3 r = (co : Int)) (hco3 : co ≤ 3) (htm : ∀ c, c < 3 → -8 ≤ w 19 (3 * at' + c) ∧ w 19 (3 * at' + c) < 128) (hb : ∀ j, j < co → vl (vB w) (w 19 (3 * at' + j)) ≠ -1) : ∀ (i j : Nat), j + i = co →
    ((∀ x, j ≤ x → x < co → ((clm (c k) x : Nat) : Int) = vl (vB w) (w 19 (3 * at' + x))) ∧ f_Re_has_47 w (at' : Int) (M : Int) x3 (k : Int) 1 (j : Int) = f_Re_has_116 w (at' : Int) (M : Int) x3 (k : Int) 1) ∨
    (¬ (∀ x, j ≤ x → x < co → ((clm (c k) x : Nat) : Int) = vl (vB w) (w 19 (3 * at' + x))) ∧ f_Re_has_47 w (at' : Int) (M : Int) x3 (k : Int) 1 (j : Int) = f_Re_has_116 w (at' : Int) (M : Int) x3 (k : Int) 0) := by
  obtain ⟨hM, hn, h49, hsl, hkey⟩ := hB
  obtain ⟨a1, a2, a3, a4, a5⟩ := hsl k hk
  intro i
  induction i with
  | zero =>
    intro j hj
    refine Or.inl ⟨fun x h1 h2 => absurd h2 (by omega), ?_⟩
    unfold f_Re_has_47
    rw [has116 (by omega)]
    refine lp_out ?_
    show f_Re_has_47B w (at' : Int) (M : Int) x3 (k : Int) 1 (j : Int) = _
    unfold f_Re_has_47B
    rw [if_neg (by decide), gd_t ⟨by omega, by omega⟩, Int.toNat_natCast, hr, gd_t ⟨by omega, by omega⟩, Int.toNat_natCast, hco, if_pos (by omega), has116 (by omega), bnd_s]
  | succ i ih =>
    intro j hj
    have i1 : wr ((wr (3 * (at' : Int))) + (j : Int)) = ((3 * at' + j : Nat) : Int) := by
      rw [wr_of (x := 3 * (at' : Int)) ⟨by omega, by omega⟩, wr_of (x := 3 * (at' : Int) + (j : Int)) ⟨by omega, by omega⟩]
      omega
    have i2 : wr ((wr (3 * (wr ((wr (50 * (M : Int))) + (k : Int))))) + (j : Int)) = ((3 * (50 * M + k) + j : Nat) : Int) := by
      rw [wr_of (x := 50 * (M : Int)) ⟨by omega, by omega⟩, wr_of (x := 50 * (M : Int) + (k : Int)) ⟨by omega, by omega⟩, wr_of (x := 3 * (50 * (M : Int) + (k : Int))) ⟨by omega, by omega⟩, wr_of (x := 3 * (50 * (M : Int) + (k : Int)) + (j : Int)) ⟨by omega, by omega⟩]
      omega
    have body : f_Re_has_47B w (at' : Int) (M : Int) x3 (k : Int) 1 (j : Int) = some (Sum.inl (if ((clm (c k) j : Nat) : Int) = vl (vB w) (w 19 (3 * at' + j)) then 1 else 0, ((j + 1 : Nat) : Int))) := by
      unfold f_Re_has_47B f_Re_has_108
      rw [if_neg (by decide), gd_t ⟨by omega, by omega⟩, Int.toNat_natCast, hr, gd_t ⟨by omega, by omega⟩, Int.toNat_natCast, hco, if_neg (by omega), i2, gd_t ⟨by omega, by omega⟩, i1, gd_t ⟨by omega, by omega⟩, Int.toNat_natCast, Int.toNat_natCast, valueOf_b (htm j (by omega)) (hb j (by omega)), bnd_s, a3 j (by omega), bl_s, bl_s, wr_of (x := (j : Int) + 1) ⟨by omega, by omega⟩, show ((j + 1 : Nat) : Int) = (j : Int) + 1 by omega]
      split <;> rfl
    by_cases q : ((clm (c k) j : Nat) : Int) = vl (vB w) (w 19 (3 * at' + j))
    · rw [if_pos q] at body
      have e : f_Re_has_47 w (at' : Int) (M : Int) x3 (k : Int) 1 (j : Int) = f_Re_has_47 w (at' : Int) (M : Int) x3 (k : Int) 1 ((j + 1 : Nat) : Int) := by
        unfold f_Re_has_47
        exact lp_step (s := ((1 : Int), (j : Int))) body
      rw [e]
      rcases ih (j + 1) (by omega) with ⟨h1, h2⟩ | ⟨h1, h2⟩
      · refine Or.inl ⟨fun x p1 p2 => ?_, h2⟩
        by_cases ex : x = j
        · rw [ex]; exact q
        · exact h1 x (by omega) p2
      · exact Or.inr ⟨fun z => h1 (fun x p1 p2 => z x (by omega) p2), h2⟩
    · rw [if_neg q] at body
      have e : f_Re_has_47 w (at' : Int) (M : Int) x3 (k : Int) 1 (j : Int) = f_Re_has_47 w (at' : Int) (M : Int) x3 (k : Int) 0 ((j + 1 : Nat) : Int) := by
        unfold f_Re_has_47
        exact lp_step (s := ((1 : Int), (j : Int))) body
      rw [e, has47_0 (by omega)]
      exact Or.inr ⟨fun z => q (z j (Nat.le_refl _) (by omega)), rfl⟩
theorem has_n {w : World} {at' M n r co : Nat} {ρ c : Nat → Nat} (hB : BMod w M n ρ c) (hat : at' < 95) (hr : w 18 at' = (r : Int)) (hr10 : r < 10) (hco : w 3 r = (co : Int)) (hco3 : co ≤ 3) (htm : ∀ c, c < 3 → -8 ≤ w 19 (3 * at' + c) ∧ w 19 (3 * at' + c) < 128) (hb : ∀ j, j < co → vl (vB w) (w 19 (3 * at' + j)) ≠ -1) :
    ((∃ s, s < n ∧ gB w at' co r ρ c s) ∧ f_Re_has w (at' : Int) (M : Int) = some 1) ∨ ((∀ s, s < n → ¬ gB w at' co r ρ c s) ∧ f_Re_has w (at' : Int) (M : Int) = some 0) := by
  obtain ⟨hM, hn, h49, hsl, hkey⟩ := id hB
  have body : ∀ k, k < n → ∀ x3 : Int, (gB w at' co r ρ c k ∧ f_Re_has_5B w (at' : Int) (M : Int) x3 (k : Int) = some (Sum.inl (1, ((k + 1 : Nat) : Int)))) ∨ (¬ gB w at' co r ρ c k ∧ f_Re_has_5B w (at' : Int) (M : Int) x3 (k : Int) = some (Sum.inl (if x3 = 0 then 0 else 1, ((k + 1 : Nat) : Int)))) := fun k hk x3 => by
    obtain ⟨a1, a2, a3, a4, a5⟩ := hsl k hk
    have i1 : wr ((wr (50 * (M : Int))) + (k : Int)) = ((50 * M + k : Nat) : Int) := by
      rw [wr_of (x := 50 * (M : Int)) ⟨by omega, by omega⟩, wr_of (x := 50 * (M : Int) + (k : Int)) ⟨by omega, by omega⟩]
      omega
    unfold f_Re_has_5B f_Re_has_42
    rw [gd_t ⟨by omega, by omega⟩, Int.toNat_natCast, hn, if_neg (by omega), i1, gd_t ⟨by omega, by omega⟩, gd_t ⟨by omega, by omega⟩, Int.toNat_natCast, Int.toNat_natCast, a2, hr]
    by_cases q : ρ k = r
    · rw [if_pos (by omega)]
      rcases has47_n (x3 := x3) hB hk hat hr hr10 hco hco3 htm hb co 0 (by omega) with ⟨h1, h2⟩ | ⟨h1, h2⟩
      · have h2 : f_Re_has_47 w (at' : Int) (M : Int) x3 (k : Int) 1 0 = f_Re_has_116 w (at' : Int) (M : Int) x3 (k : Int) 1 := h2
        refine Or.inl ⟨⟨q, fun j hj => h1 j (by omega) hj⟩, ?_⟩
        rw [h2, has116 (by omega), if_neg (by decide : ¬ (1 : Int) = 0)]
        split <;> rfl
      · have h2 : f_Re_has_47 w (at' : Int) (M : Int) x3 (k : Int) 1 0 = f_Re_has_116 w (at' : Int) (M : Int) x3 (k : Int) 0 := h2
        refine Or.inr ⟨fun z => h1 (fun x _ hx => z.2 x hx), ?_⟩
        rw [h2, has116 (by omega), if_pos rfl]
    · rw [if_neg (by omega), has47_0 (by omega), has116 (by omega), if_pos rfl]
      exact Or.inr ⟨fun z => q z.1, rfl⟩
  have loop : ∀ (i k : Nat) (x3 : Int), k + i = n → (x3 = 0 ∨ x3 = 1) → ((x3 = 1 ∨ ∃ s, k ≤ s ∧ s < n ∧ gB w at' co r ρ c s) ∧ f_Re_has_5 w (at' : Int) (M : Int) x3 (k : Int) = some 1) ∨ ((x3 = 0 ∧ ∀ s, k ≤ s → s < n → ¬ gB w at' co r ρ c s) ∧ f_Re_has_5 w (at' : Int) (M : Int) x3 (k : Int) = some 0) := by
    intro i
    induction i with
    | zero =>
      intro k x3 hk hx
      have e : f_Re_has_5 w (at' : Int) (M : Int) x3 (k : Int) = some x3 := by
        unfold f_Re_has_5
        refine lp_out ?_
        show f_Re_has_5B w (at' : Int) (M : Int) x3 (k : Int) = _
        unfold f_Re_has_5B
        rw [gd_t ⟨by omega, by omega⟩, Int.toNat_natCast, hn, if_pos (by omega), gd_t hx]
      rcases hx with hx | hx
      · exact Or.inr ⟨⟨hx, fun s h1 h2 => absurd h2 (by omega)⟩, by rw [e, hx]⟩
      · exact Or.inl ⟨Or.inl hx, by rw [e, hx]⟩
    | succ i ih =>
      intro k x3 hk hx
      rcases body k (by omega) x3 with ⟨hg, hb5⟩ | ⟨hg, hb5⟩
      · have e : f_Re_has_5 w (at' : Int) (M : Int) x3 (k : Int) = f_Re_has_5 w (at' : Int) (M : Int) 1 ((k + 1 : Nat) : Int) := by
          unfold f_Re_has_5
          exact lp_step (s := (x3, (k : Int))) hb5
        rw [e]
        rcases ih (k + 1) 1 (by omega) (Or.inr rfl) with ⟨_, h2⟩ | ⟨h1, _⟩
        · exact Or.inl ⟨Or.inr ⟨k, Nat.le_refl _, by omega, hg⟩, h2⟩
        · exact absurd h1.1 (by decide)
      · have ex : (if x3 = 0 then (0 : Int) else 1) = x3 := by
          rcases hx with h | h
          · rw [if_pos h, h]
          · rw [if_neg (by omega), h]
        rw [ex] at hb5
        have e : f_Re_has_5 w (at' : Int) (M : Int) x3 (k : Int) = f_Re_has_5 w (at' : Int) (M : Int) x3 ((k + 1 : Nat) : Int) := by
          unfold f_Re_has_5
          exact lp_step (s := (x3, (k : Int))) hb5
        rw [e]
        rcases ih (k + 1) x3 (by omega) hx with ⟨h1, h2⟩ | ⟨h1, h2⟩
        · refine Or.inl ⟨h1.imp (fun h => h) (fun ⟨s, p1, p2, p3⟩ => ⟨s, by omega, p2, p3⟩), h2⟩
        · refine Or.inr ⟨⟨h1.1, fun s p1 p2 => ?_⟩, h2⟩
          by_cases es : s = k
          · rw [es]; exact hg
          · exact h1.2 s (by omega) p2
  have h := loop n 0 0 (by omega) (Or.inl rfl)
  unfold f_Re_has
  rcases h with ⟨h1, h2⟩ | ⟨h1, h2⟩
  · refine Or.inl ⟨?_, h2⟩
    rcases h1 with h1 | ⟨s, _, p2, p3⟩
    · exact absurd h1 (by decide)
    · exact ⟨s, p2, p3⟩
  · exact Or.inr ⟨fun s hs => h1.2 s (by omega) hs, h2⟩
