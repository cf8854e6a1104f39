/-! THE REFERENCE'S WALK: comparisons -/
theorem comparesB_n {how a b : Int} : ∃ v : Int, f_Re_compares how a b = some v ∧ ((v = 1 ∧ cmpI how a b) ∨ (v = 0 ∧ ¬ cmpI how a b)) := by
  unfold f_Re_compares cmpI
  by_cases h0 : how = 0
  · rw [if_pos h0, if_pos h0]
    by_cases q : a = b
    · rw [if_pos q]; exact ⟨1, rfl, Or.inl ⟨rfl, q⟩⟩
    · rw [if_neg q]; exact ⟨0, rfl, Or.inr ⟨rfl, q⟩⟩
  · rw [if_neg h0, if_neg h0]
    by_cases h1 : how = 1
    · rw [if_pos h1, if_pos h1]
      by_cases q : a = b
      · rw [if_pos q]; exact ⟨0, rfl, Or.inr ⟨rfl, fun z => z q⟩⟩
      · rw [if_neg q]; exact ⟨1, rfl, Or.inl ⟨rfl, q⟩⟩
    · rw [if_neg h1, if_neg h1]
      by_cases h2 : how = 2
      · rw [if_pos h2, if_pos h2]
        by_cases q : b ≤ a
        · rw [if_pos q]; exact ⟨0, rfl, Or.inr ⟨rfl, by omega⟩⟩
        · rw [if_neg q]; exact ⟨1, rfl, Or.inl ⟨rfl, by omega⟩⟩
      · rw [if_neg h2, if_neg h2]
        by_cases q : b < a
        · rw [if_pos q]; exact ⟨0, rfl, Or.inr ⟨rfl, by omega⟩⟩
        · rw [if_neg q]; exact ⟨1, rfl, Or.inl ⟨rfl, by omega⟩⟩
/-- what a fact has to be to hold, as in the class -/
theorem holdsInB_n {w : World} {f : Nat} {hour wo : Int} (hf : f < 24) : ∃ v, f_Re_holdsIn w (f : Int) hour wo = some v ∧ (v = 0 ∨ v = 1) ∧ (v = 1 ↔ w 12 f = 0 ∧ w 10 f ≤ hour ∧ hour ≤ w 11 f ∧ iand (ishr wo (f : Int)) 1 = 0) := by
  unfold f_Re_holdsIn
  rw [gd_t ⟨by omega, by omega⟩, Int.toNat_natCast]
  by_cases h1 : w 12 f = 0
  · rw [if_pos h1, gd_t ⟨by omega, by omega⟩, gd_t ⟨by omega, by omega⟩]
    have hin : f_Re_in hour (w 10 f) (w 11 f) = some (if w 10 f ≤ hour ∧ hour ≤ w 11 f then 1 else 0) := by
      unfold f_Re_in
      by_cases q1 : hour < w 10 f
      · rw [if_pos q1, if_neg (fun z => absurd z.1 (by omega))]
      · rw [if_neg q1]
        by_cases q2 : w 11 f < hour
        · rw [if_pos q2, if_neg (fun z => absurd z.2 (by omega))]
        · rw [if_neg q2, if_pos ⟨by omega, by omega⟩]
    rw [hin, bnd_s]
    by_cases q : w 10 f ≤ hour ∧ hour ≤ w 11 f
    · rw [if_pos q, if_neg (by decide)]
      by_cases q2 : iand (ishr wo (f : Int)) 1 = 0
      · rw [if_pos q2]
        exact ⟨1, rfl, Or.inr rfl, ⟨fun _ => ⟨h1, q.1, q.2, q2⟩, fun _ => rfl⟩⟩
      · rw [if_neg q2]
        exact ⟨0, rfl, Or.inl rfl, ⟨fun e => (by cases e), fun e => absurd e.2.2.2 q2⟩⟩
    · rw [if_neg q, if_pos rfl]
      exact ⟨0, rfl, Or.inl rfl, ⟨fun e => (by cases e), fun e => absurd ⟨e.2.1, e.2.2.1⟩ q⟩⟩
  · rw [if_neg h1]
    exact ⟨0, rfl, Or.inl rfl, ⟨fun e => (by cases e), fun e => absurd e.1 h1⟩⟩
