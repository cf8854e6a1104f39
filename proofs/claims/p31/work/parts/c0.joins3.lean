/-! BOTH: joins answers alike -/
theorem kd_same {wA u : World} {R R' : RU} {i p : Nat} (h : ∀ r : Nat, r < 10 → u 3 r = wA 3 r ∧ u 4 r = wA 4 r ∧ u 5 r = wA 5 r) (e : EqT R R') (hW : WfL (SA wA) R) (hi : i < R.ln) (hp : p < R.ln) (h5 : ∀ r : Nat, r < 10 → wA 5 r ≤ 3) : Kd wA R i p ↔ Kd u R' i p := by
  obtain ⟨a1, a2, a3⟩ := e.2 i hi
  obtain ⟨b1, b2, b3⟩ := e.2 p hp
  unfold Kd
  rw [a1, a2, b1, b2]
  refine and_congr_right fun _ => and_congr_right fun f1 => ?_
  obtain ⟨hc1, -⟩ := hW.2.2.1 p hp (by omega)
  obtain ⟨r, hr, hr10, -⟩ := SA_co_in hc1
  obtain ⟨c3, c4, c5⟩ := h r hr10
  have := h5 r hr10
  rw [hr, Int.toNat_natCast, c3, c4, c5]
  refine and_congr_right fun _ => and_congr_right fun _ => and_congr_right fun _ => forall_congr' fun j => forall_congr' fun hj => ?_
  rw [a3 j (by omega), b3 j (by omega)]
theorem joins56 {u : World} {ru p x : Nat} (hT : WfT u) (hru : ru < 19) (hW : WfL (SA u) (RBB u ru)) (hp : p < (RBB u ru).ln) (hx : x ≤ 5) : f_Re_joins_56 u (ru : Int) (x : Int) ((5 * ru + p : Nat) : Int) 0 ((5 * ru : Nat) : Int) = some (Sum.inl ((if (RBB u ru).fm p = 0 then (x : Int) + 1 - bi (∃ i, i < p ∧ Kd u (RBB u ru) i p) else (x : Int)), ((5 * ru + (p + 1) : Nat) : Int))) := by
  have h5 := hW.1
  have e82 : ∀ (k : Nat) (z : Int), k < p → f_Re_joins_82 u (ru : Int) (x : Int) ((5 * ru + p : Nat) : Int) ((5 * ru + k : Nat) : Int) z = some (Sum.inl (z, ((5 * ru + (k + 1) : Nat) : Int))) := fun k z hk => by
    unfold f_Re_joins_82
    rw [bl_s, wr_of (x := ((5 * ru + k : Nat) : Int) + 1) ⟨by omega, by omega⟩]
    rfl
  have e110 : ∀ i : Nat, i ≤ 1 → f_Re_joins_110 u (ru : Int) ((5 * ru + p : Nat) : Int) (x : Int) (i : Int) = some (Sum.inl (((x + i : Nat) : Int), ((5 * ru + (p + 1) : Nat) : Int))) := fun i hi => by
    unfold f_Re_joins_110
    rw [bl_s, bl_s, wr_of (x := ((5 * ru + p : Nat) : Int) + 1) ⟨by omega, by omega⟩, wr_of (x := (x : Int) + (i : Int)) ⟨by omega, by omega⟩]
    rfl
  have e0 : f_Re_joins_109 u (ru : Int) ((5 * ru + p : Nat) : Int) (x : Int) = some (Sum.inl ((x : Int), ((5 * ru + (p + 1) : Nat) : Int))) := e110 0 (by omega)
  have e1 : f_Re_joins_110 u (ru : Int) ((5 * ru + p : Nat) : Int) (x : Int) 1 = some (Sum.inl (((x + 1 : Nat) : Int), ((5 * ru + (p + 1) : Nat) : Int))) := e110 1 (by omega)
  unfold f_Re_joins_56
  have hgo := lp_go (F := fun z : (Int × Int) => f_Re_joins_56B u (ru : Int) (x : Int) ((5 * ru + p : Nat) : Int) z.1 z.2) (fun k => (bi (∃ i, i < k ∧ Kd u (RBB u ru) i p), ((5 * ru + k : Nat) : Int))) (Sum.inl ((if (RBB u ru).fm p = 0 then (x : Int) + 1 - bi (∃ i, i < p ∧ Kd u (RBB u ru) i p) else (x : Int)), ((5 * ru + (p + 1) : Nat) : Int))) p (fun k hk => ?_) ?_
  · have z0 : bi (∃ i, i < 0 ∧ Kd u (RBB u ru) i p) = 0 := bi_0 (fun ⟨i, h, _⟩ => absurd h (Nat.not_lt_zero i))
    have hgo : lp (fun z : (Int × Int) => f_Re_joins_56B u (ru : Int) (x : Int) ((5 * ru + p : Nat) : Int) z.1 z.2) (bi (∃ i, i < 0 ∧ Kd u (RBB u ru) i p), ((5 * ru : Nat) : Int)) = _ := hgo
    rw [z0] at hgo
    exact hgo
  · show f_Re_joins_56B u (ru : Int) (x : Int) ((5 * ru + p : Nat) : Int) (bi (∃ i, i < k ∧ Kd u (RBB u ru) i p)) ((5 * ru + k : Nat) : Int) = some (Sum.inl (bi (∃ i, i < k + 1 ∧ Kd u (RBB u ru) i p), ((5 * ru + (k + 1) : Nat) : Int)))
    have split : (∃ i, i < k + 1 ∧ Kd u (RBB u ru) i p) ↔ (∃ i, i < k ∧ Kd u (RBB u ru) i p) ∨ Kd u (RBB u ru) k p := by
      constructor
      · rintro ⟨i, hi, z⟩
        by_cases e : i = k
        · subst e; exact Or.inr z
        · exact Or.inl ⟨i, by omega, z⟩
      · rintro (⟨i, hi, z⟩ | z)
        · exact ⟨i, by omega, z⟩
        · exact ⟨k, by omega, z⟩
    unfold f_Re_joins_56B f_Re_joins_77
    rw [if_neg (by omega), keyed_n hT hru hW (by omega) hp, bnd_s, e82 k _ hk, e82 k _ hk, bi_c split]
    by_cases q : ∃ i, i < k ∧ Kd u (RBB u ru) i p
    · rw [bi_1 q, if_neg z10, bi_1 (Or.inl q)]
    · rw [bi_0 q, if_pos rfl]
      by_cases q2 : Kd u (RBB u ru) k p
      · rw [bi_1 q2, if_neg z10, bi_1 (Or.inr q2)]
      · rw [bi_0 q2, if_pos rfl, bi_0 (fun z => z.elim q q2)]
  · show f_Re_joins_56B u (ru : Int) (x : Int) ((5 * ru + p : Nat) : Int) (bi (∃ i, i < p ∧ Kd u (RBB u ru) i p)) ((5 * ru + p : Nat) : Int) = _
    have e17 : u 17 (5 * ru + p) = (RBB u ru).fm p := rfl
    unfold f_Re_joins_56B
    rw [if_pos (Int.le_refl _), gd_t ⟨by omega, by omega⟩, Int.toNat_natCast, e17, e0, e1]
    by_cases f0 : (RBB u ru).fm p = 0
    · rw [if_pos f0, if_pos f0]
      by_cases q : ∃ i, i < p ∧ Kd u (RBB u ru) i p
      · rw [bi_1 q, if_neg z10, bnd_s, show (x : Int) + 1 - 1 = (x : Int) by omega]
      · rw [bi_0 q, if_pos rfl, bnd_s, show (x : Int) + 1 - 0 = ((x + 1 : Nat) : Int) by omega]
    · rw [if_neg f0, if_neg f0, bnd_s]
