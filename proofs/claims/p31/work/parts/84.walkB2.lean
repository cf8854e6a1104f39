/-! THE REFERENCE'S WALK: a tuple is tried -/
/-- worlds alike but for what variables that are not bound had -/
def EqB (w w' : World) : Prop := (∀ c, c ≠ 23 → w' c = w c) ∧ ∀ v, w 24 v ≠ -9 → w' 23 v = w 23 v
theorem EqB.refl {w : World} : EqB w w := ⟨fun _ _ => rfl, fun _ _ => rfl⟩
theorem EqB.trans {w w' w'' : World} (h : EqB w w') (h' : EqB w' w'') : EqB w w'' := ⟨fun c hc => (h'.1 c hc).trans (h.1 c hc), fun v hv => (h'.2 v (by rw [h.1 24 (by decide)]; exact hv)).trans (h.2 v hv)⟩
theorem EqB.vB {w w' : World} (h : EqB w w') : vB w' = vB w := by
  funext v
  show (if w' 24 v = -9 then -1 else w' 23 v) = if w 24 v = -9 then -1 else w 23 v
  rw [h.1 24 (by decide)]
  by_cases q : w 24 v = -9
  · rw [if_pos q, if_pos q]
  · rw [if_neg q, if_neg q, h.2 v q]
/-- what a literal's tuple has bound so far -/
def BnB (own : Int) (w w' : World) (m : Nat) : Prop :=
  (∀ c, c ≠ 23 → c ≠ 24 → w' c = w c) ∧ m < 256 ∧ (∀ v, m.testBit v = true → w 24 v = -9 ∧ w' 24 v = own) ∧ (∀ v, m.testBit v = false → w' 24 v = w 24 v) ∧ ∀ v, w 24 v ≠ -9 → w' 23 v = w 23 v
theorem BnB.refl {own : Int} {w : World} : BnB own w w 0 := ⟨fun _ _ _ => rfl, by omega, fun v h => by simp at h, fun _ _ => rfl, fun _ _ => rfl⟩
theorem BnB.bind {own t x : Int} {w w' : World} {m : Nat} (h : BnB own w w' m) (ht : -8 ≤ t ∧ t < 0) (hq : vl (vB w') t = -1) (hV : VB w') (ho : own ≠ -9) : BnB own w (bw w' t x own) (m ||| vb t) := by
  obtain ⟨h1, h2, h3, h4, h5⟩ := h
  have h24 : w' 24 (-1 - t).toNat = -9 := by
    unfold vl vB at hq
    rw [if_pos ht.2] at hq
    by_cases q : w' 24 (-1 - t).toNat = -9
    · exact q
    · rw [if_neg q] at hq
      have := hV _ q
      omega
  have hm : m.testBit (-1 - t).toNat = false := by
    by_cases q : m.testBit (-1 - t).toNat = true
    · have := (h3 _ q).2
      omega
    · simpa using q
  have hw24 : w 24 (-1 - t).toNat = -9 := by rw [← h4 _ hm]; exact h24
  have hvb : vb t = 2 ^ (-1 - t).toNat := if_pos ht.2
  have h7 : (-1 - t).toNat ≤ 7 := by omega
  have e24 : ∀ v, bw w' t x own 24 v = if v = (-1 - t).toNat then own else w' 24 v := fun v => by unfold bw; simp [up]
  have e23 : ∀ v, v ≠ (-1 - t).toNat → bw w' t x own 23 v = w' 23 v := fun v hv => by unfold bw; simp [up, hv]
  rw [hvb]
  refine ⟨fun c a b => ?_, Nat.or_lt_two_pow (n := 8) h2 (Nat.lt_of_le_of_lt (Nat.pow_le_pow_right (by omega) h7) (by decide)), fun v hv => ?_, fun v hv => ?_, fun v hv => ?_⟩
  · rw [← h1 c a b]
    funext k
    unfold bw
    simp [up, a, b]
  · rw [Nat.testBit_or, Nat.testBit_two_pow, Bool.or_eq_true] at hv
    rw [e24]
    by_cases e : v = (-1 - t).toNat
    · rw [if_pos e, e]; exact ⟨hw24, rfl⟩
    · rw [if_neg e]
      rcases hv with hv | hv
      · exact h3 v hv
      · exact absurd (of_decide_eq_true hv).symm e
  · rw [Nat.testBit_or, Nat.testBit_two_pow, Bool.or_eq_false_iff] at hv
    have e : v ≠ (-1 - t).toNat := fun e => (of_decide_eq_false hv.2) e.symm
    rw [e24, if_neg e]
    exact h4 v hv.1
  · have e : v ≠ (-1 - t).toNat := fun e => hv (by rw [e]; exact hw24)
    rw [e23 v e]
    exact h5 v hv
/-- taken away again -/
theorem BnB.un {own : Int} {w w' : World} {m : Nat} (h : BnB own w w' m) (hno : ∀ v, v < 8 → w 24 v ≠ own) : EqB w (uw w' own) := by
  obtain ⟨h1, h2, h3, h4, h5⟩ := h
  have e24 : ∀ v, uw w' own 24 v = w 24 v := fun v => by
    show (if 24 = 24 ∧ v < 8 ∧ w' 24 v = own then (-9 : Int) else w' 24 v) = w 24 v
    by_cases q : m.testBit v = true
    · have hv8 : v < 8 := by
        refine Classical.byContradiction fun hn => ?_
        rw [tb_hi (k := 8) h2 (by omega)] at q
        cases q
      rw [if_pos ⟨rfl, hv8, (h3 v q).2⟩, (h3 v q).1]
    · have q : m.testBit v = false := by simpa using q
      rw [if_neg (fun z => hno v z.2.1 (by rw [← h4 v q]; exact z.2.2)), h4 v q]
  refine ⟨fun c hc => ?_, fun v hv => ?_⟩
  · by_cases q : c = 24
    · subst q
      exact funext e24
    · rw [← h1 c hc q]
      funext k
      show (if c = 24 ∧ k < 8 ∧ w' 24 k = own then (-9 : Int) else w' c k) = w' c k
      rw [if_neg (fun z => q z.1)]
  · show (if 23 = 24 ∧ v < 8 ∧ w' 24 v = own then (-9 : Int) else w' 23 v) = w 23 v
    rw [if_neg (fun z => absurd z.1 (by decide))]
    exact h5 v hv
