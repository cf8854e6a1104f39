/-! BOTH: joins, all literals -/
theorem joins_loop {wA u : World} {b ru : Nat} (hkb : kdA b = 1) (hS : WfS wA) (hT : WfT u) (hru : ru < 19) (h345 : ∀ r : Nat, r < 10 → u 3 r = wA 3 r ∧ u 4 r = wA 4 r ∧ u 5 r = wA 5 r) (e : EqT (RB wA b) (RBB u ru)) (hb0 : wA b 0 = ((RB wA b).ln : Int)) (hW : WfL (SA wA) (RB wA b)) (h16 : u 16 ru = ((RBB u ru).ln : Int)) (hWB : WfL (SA u) (RBB u ru)) : ∀ (j k x : Nat), k + j = (RB wA b).ln → x ≤ k →
    ∃ y : Int, f_Dm_joins_35 wA b (x : Int) (k : Int) = some (wA, 0, y) ∧ f_Re_joins_34 u (ru : Int) (x : Int) ((5 * ru + k : Nat) : Int) = some (u, y) := by
  have h5 := hW.1
  have hln := e.1
  have e5 : wr (5 * (ru : Int)) = ((5 * ru : Nat) : Int) := by rw [wr_of (x := 5 * (ru : Int)) ⟨by omega, by omega⟩]; omega
  have eln : wr (((5 * ru : Nat) : Int) + u 16 ru) = ((5 * ru + (RB wA b).ln : Nat) : Int) := by
    rw [h16, hln, wr_of (x := ((5 * ru : Nat) : Int) + ((RB wA b).ln : Int)) ⟨by omega, by omega⟩]
    omega
  intro j
  induction j with
  | zero =>
    intro k x hk hx
    refine ⟨(x : Int), ?_, ?_⟩
    · unfold f_Dm_joins_35
      refine lp_out ?_
      show f_Dm_joins_35B wA b (x : Int) (k : Int) = _
      unfold f_Dm_joins_35B
      rw [gd_t hkb, hb0, if_pos (by omega)]
    · unfold f_Re_joins_34
      refine lp_out ?_
      show f_Re_joins_34B u (ru : Int) (x : Int) ((5 * ru + k : Nat) : Int) = _
      unfold f_Re_joins_34B
      rw [gd_t ⟨by omega, by omega⟩, Int.toNat_natCast, e5, eln, if_pos (by omega)]
  | succ j ih =>
    intro k x hk hx
    have hkl : k < (RB wA b).ln := by omega
    have e66 : ∀ z : Int, f_Dm_joins_66 wA b z (k : Int) = some (Sum.inl (z, ((k + 1 : Nat) : Int))) := fun z => by
      unfold f_Dm_joins_66
      rw [bl_s, wr_of (x := (k : Int) + 1) ⟨by omega, by omega⟩]
      rfl
    have hfm := (e.2 k hkl).1
    have h56 := joins56 (x := x) (p := k) hT hru hWB (by omega) (by omega)
    rw [hfm] at h56
    have hbB : f_Re_joins_34B u (ru : Int) (x : Int) ((5 * ru + k : Nat) : Int) = f_Re_joins_56 u (ru : Int) (x : Int) ((5 * ru + k : Nat) : Int) 0 ((5 * ru : Nat) : Int) := by
      unfold f_Re_joins_34B
      rw [gd_t ⟨by omega, by omega⟩, Int.toNat_natCast, e5, eln, if_neg (by omega), bl_s]
    have go : ∀ x' : Nat, x' ≤ k + 1 → f_Dm_joins_35B wA b (x : Int) (k : Int) = some (Sum.inl ((x' : Int), ((k + 1 : Nat) : Int))) → f_Re_joins_34B u (ru : Int) (x : Int) ((5 * ru + k : Nat) : Int) = some (Sum.inl ((x' : Int), ((5 * ru + (k + 1) : Nat) : Int))) → ∃ y : Int, f_Dm_joins_35 wA b (x : Int) (k : Int) = some (wA, 0, y) ∧ f_Re_joins_34 u (ru : Int) (x : Int) ((5 * ru + k : Nat) : Int) = some (u, y) := fun x' hx' h1 h2 => by
      obtain ⟨y, y1, y2⟩ := ih (k + 1) x' (by omega) hx'
      refine ⟨y, ?_, ?_⟩
      · unfold f_Dm_joins_35 at y1 ⊢
        rw [lp_step (F := fun z : (Int × Int) => f_Dm_joins_35B wA b z.1 z.2) (s := ((x : Int), (k : Int))) h1]
        exact y1
      · unfold f_Re_joins_34 at y2 ⊢
        rw [lp_step (F := fun z : (Int × Int) => f_Re_joins_34B u (ru : Int) z.1 z.2) (s := ((x : Int), ((5 * ru + k : Nat) : Int))) h2]
        exact y2
    have e1 : wA (b + 1) k = (RB wA b).fm k := rfl
    by_cases f0 : (RB wA b).fm k = 0
    · have hnd := needless_n hS hb0 hW hkl f0
      have hKK : (∃ i, i < k ∧ Kd wA (RB wA b) i k) ↔ ∃ i, i < k ∧ Kd u (RBB u ru) i k := exists_congr fun i => and_congr_right fun hi => kd_same h345 e hW (by omega) hkl (fun r hr => (hS r hr).2.2.1.2)
      have hbA : f_Dm_joins_35B wA b (x : Int) (k : Int) = if bi (∃ i, i < k ∧ Kd wA (RB wA b) i k) = 0 then some (Sum.inl (((x + 1 : Nat) : Int), ((k + 1 : Nat) : Int))) else some (Sum.inl ((x : Int), ((k + 1 : Nat) : Int))) := by
        unfold f_Dm_joins_35B
        rw [gd_t hkb, hb0, if_neg (by omega), formOf_n (by omega), bnd_s, e1, if_pos f0, hnd, bnd_s, bl_s, wr_of (x := (x : Int) + 1) ⟨by omega, by omega⟩, e66, e66]
        rfl
      rw [if_pos f0, bi_c hKK.symm] at h56
      by_cases q : ∃ i, i < k ∧ Kd wA (RB wA b) i k
      · rw [bi_1 q, if_neg z10] at hbA
        rw [bi_1 q, show (x : Int) + 1 - 1 = (x : Int) by omega] at h56
        exact go x (by omega) hbA (hbB.trans h56)
      · rw [bi_0 q, if_pos rfl] at hbA
        rw [bi_0 q, show (x : Int) + 1 - 0 = ((x + 1 : Nat) : Int) by omega] at h56
        exact go (x + 1) (by omega) hbA (hbB.trans h56)
    · have hbA : f_Dm_joins_35B wA b (x : Int) (k : Int) = some (Sum.inl ((x : Int), ((k + 1 : Nat) : Int))) := by
        unfold f_Dm_joins_35B
        rw [gd_t hkb, hb0, if_neg (by omega), formOf_n (by omega), bnd_s, e1, if_neg f0, e66]
      rw [if_neg f0] at h56
      exact go x (by omega) hbA (hbB.trans h56)
theorem st_joins : St_joins II := by
  intro wA wB hII x1 _
  obtain ⟨nF, m, d, now, top, L, g, hI⟩ := id hII
  have hI0 : Inv nF m d now top L g wA (up wB 1 0 0) := Inv_up10 hI
  obtain ⟨i1, i2, i3, -⟩ := id hI0
  have hm : m ≤ 12 := i3.1.2.2.1
  have nA : wA 14 4 = (m : Int) := i3.1.2.1
  have nB : wB 1 14 = (m : Int) := hI.2.2.1.2.1.1
  have ewm : wr ((m : Int) - 1) = (m : Int) - 1 := wr_of (x := (m : Int) - 1) ⟨by omega, by omega⟩
  by_cases q1 : 0 ≤ x1 ∧ x1 ≤ (m : Int) - 1
  · obtain ⟨j, rfl⟩ : ∃ j : Nat, x1 = (j : Int) := ⟨x1.toNat, by omega⟩
    have hj : j < m := by omega
    have hkd : kdA (22 + 4 * j) = 1 := by
      have : ∀ j, j < 12 → kdA (22 + 4 * j) = 1 := by decide +kernel
      exact this j (by omega)
    obtain ⟨rA1, rA2, -⟩ := i3.1.2.2.2.2 j hj
    obtain ⟨⟨-, rT, rB3, rB4⟩, -⟩ := i3.2.1.2.2 j hj
    obtain ⟨k1, -⟩ := i3.2.2 j hj
    obtain ⟨y, y1, y2⟩ := joins_loop hkd i1.1 rT (by omega) (fun r hr => ⟨(i1.2 r hr).1, (i1.2 r hr).2.1, (i1.2 r hr).2.2.1⟩) k1.T rA1 rA2.L rB3 rB4.L (RB wA (22 + 4 * j)).ln 0 0 (by omega) (by omega)
    refine ⟨(wA, 0, y), (up wB 1 0 0, y), ?_, ?_, thrown_n, Or.inl rfl, fun _ => rfl, II_up10 hII⟩
    · unfold f_Dm_joins f_Pr_hasRule
      rw [if_neg (by omega), nA, if_neg (by omega), bnd_s, if_neg z10, rule_n (by omega) (i3.1.2.2.2.1 j (by omega)), bnd_s]
      exact y1
    · have e5 : wr (5 * (j : Int)) = ((5 * j : Nat) : Int) := by rw [wr_of (x := 5 * (j : Int)) ⟨by omega, by omega⟩]; omega
      unfold f_Re_joins
      rw [nB, ewm, inB_n, bnd_s, if_pos q1, if_neg z10]
      unfold f_Re_joins_20
      rw [refused_n, bnd_s]
      show (if (if (0 : Int) = 0 then (0 : Int) else 1) = 0 then _ else _) = _
      rw [if_pos (if_pos rfl), e5, bl_s]
      exact y2
  · refine no_v (e := 1) (x := 1) (fun e => e = 0 ∨ e = 1) hII (by decide) ?_ ?_ rfl (Or.inr rfl)
    · unfold f_Dm_joins f_Pr_hasRule
      by_cases q : x1 < 0
      · rw [if_pos q, bnd_s, if_pos rfl]
      · rw [if_neg q, nA, if_pos (by omega), bnd_s, if_pos rfl]
    · unfold f_Re_joins
      rw [nB, ewm, inB_n, bnd_s, if_neg q1, if_pos rfl]
      unfold f_Re_joins_20
      rw [refused_n, bnd_s]
      show (if (if (1 : Int) = 0 then (0 : Int) else 1) = 0 then _ else some (up wB 1 0 1, 0)) = _
      rw [if_neg z10]
      exact if_neg z10
