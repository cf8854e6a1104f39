/-! BOTH: joins -/
def Kd (w : World) (R : RU) (i p : Nat) : Prop := R.fm i = 0 ∧ R.fm p = 0 ∧ R.sj i = R.sj p ∧ w 4 (R.sj p).toNat = 0 ∧ w 5 (R.sj p).toNat < w 3 (R.sj p).toNat ∧ ∀ j : Nat, (j : Int) < w 5 (R.sj p).toNat → R.tm i j = R.tm p j
theorem alike_n {w : World} {b i p y : Nat} (hi : i < 5) (hp : p < 5) (hy : y ≤ 3) : f_Bo_areAlike w b (i : Int) (p : Int) (y : Int) = some (bi (∀ j : Nat, j < y → w (b + 3) (3 * i + j) = w (b + 3) (3 * p + j))) := by
  unfold f_Bo_areAlike f_Bo_areAlike_6
  have hgo := lp_go (F := fun z : (Int × Int) => f_Bo_areAlike_6B w b (i : Int) (p : Int) (y : Int) z.1 z.2) (fun k => (bi (∀ j : Nat, j < k → w (b + 3) (3 * i + j) = w (b + 3) (3 * p + j)), (k : Int))) (bi (∀ j : Nat, j < y → w (b + 3) (3 * i + j) = w (b + 3) (3 * p + j))) y (fun k hk => ?_) ?_
  · have e0 : bi (∀ j : Nat, j < 0 → w (b + 3) (3 * i + j) = w (b + 3) (3 * p + j)) = 1 := bi_1 (fun j hj => absurd hj (Nat.not_lt_zero j))
    have hgo : lp (fun z : (Int × Int) => f_Bo_areAlike_6B w b (i : Int) (p : Int) (y : Int) z.1 z.2) (bi (∀ j : Nat, j < 0 → w (b + 3) (3 * i + j) = w (b + 3) (3 * p + j)), ((0 : Nat) : Int)) = _ := hgo
    rw [e0] at hgo
    exact hgo
  · show f_Bo_areAlike_6B w b (i : Int) (p : Int) (y : Int) (bi (∀ j : Nat, j < k → w (b + 3) (3 * i + j) = w (b + 3) (3 * p + j))) (k : Int) = some (Sum.inl (bi (∀ j : Nat, j < k + 1 → w (b + 3) (3 * i + j) = w (b + 3) (3 * p + j)), ((k + 1 : Nat) : Int)))
    unfold f_Bo_areAlike_6B f_Bo_areAlike_38 f_Bo_areAlike_39
    rw [if_neg (by omega), bl_s, bl_s, wr_of (x := (k : Int) + 1) ⟨by omega, by omega⟩]
    by_cases q : ∀ j : Nat, j < k → w (b + 3) (3 * i + j) = w (b + 3) (3 * p + j)
    · rw [bi_1 q, if_neg z10, termOf_n (by omega) (by omega), bnd_s, termOf_n (by omega) (by omega), bnd_s]
      by_cases e : w (b + 3) (3 * i + k) = w (b + 3) (3 * p + k)
      · rw [if_pos e, bi_1 (fun j hj => by
          by_cases ej : j = k
          · subst ej; exact e
          · exact q j (by omega))]
        rfl
      · rw [if_neg e, bi_0 (fun z => e (z k (by omega)))]
        rfl
    · rw [bi_0 q, if_pos rfl, bi_0 (fun z => q (fun j hj => z j (by omega)))]
      rfl
  · show f_Bo_areAlike_6B w b (i : Int) (p : Int) (y : Int) (bi (∀ j : Nat, j < y → w (b + 3) (3 * i + j) = w (b + 3) (3 * p + j))) (y : Int) = _
    unfold f_Bo_areAlike_6B
    rw [if_pos (Int.le_refl _), gd_t bi_01]
theorem needless_n {w : World} {b p : Nat} (hS : WfS w) (hb0 : w b 0 = ((RB w b).ln : Int)) (hW : WfL (SA w) (RB w b)) (hp : p < (RB w b).ln) (hf : (RB w b).fm p = 0) : f_Dm_isNeedless w b (p : Int) = some (bi (∃ i, i < p ∧ Kd w (RB w b) i p)) := by
  have h5 := hW.1
  obtain ⟨hc1, -⟩ := hW.2.2.1 p hp (by omega)
  obtain ⟨r, hr, hr10, hr3, hco⟩ := SA_co_in hc1
  have hsj : w (b + 2) p = (r : Int) := hr
  have ert : (RB w b).sj p = (r : Int) := hr
  obtain ⟨s3, s4, s5, s6, s7⟩ := hS r hr10
  obtain ⟨y, hy⟩ : ∃ y : Nat, w 5 r = (y : Int) := ⟨(w 5 r).toNat, by omega⟩
  have hopen : f_Sc_hasOpenKey w (r : Int) = some (if w 4 r = 0 ∧ w 5 r < w 3 r then 1 else 0) := by
    unfold f_Sc_hasOpenKey
    rw [kindOf_n hr10, bnd_s]
    by_cases q : w 4 r = 0
    · rw [if_pos q, keyOf_n hr10, bnd_s, columnsOf_n hr10, bnd_s]
      by_cases q2 : w 3 r ≤ w 5 r
      · rw [if_pos q2, if_neg (by omega)]
      · rw [if_neg q2, if_pos ⟨q, by omega⟩]
    · rw [if_neg q, if_neg (fun z => q z.1)]
  unfold f_Dm_isNeedless f_Dm_isNeedless_12
  rw [subjectOf_n (by omega), hsj, bnd_s]
  by_cases qo : w 4 r = 0 ∧ w 5 r < w 3 r
  · have kd : ∀ i, Kd w (RB w b) i p ↔ w (b + 1) i = 0 ∧ w (b + 2) i = (r : Int) ∧ ∀ j : Nat, j < y → w (b + 3) (3 * i + j) = w (b + 3) (3 * p + j) := fun i => by
      unfold Kd
      rw [ert, Int.toNat_natCast, hy]
      constructor
      · rintro ⟨z1, -, z3, -, -, z6⟩
        exact ⟨z1, z3, fun j hj => z6 j (by omega)⟩
      · rintro ⟨z1, z2, z3⟩
        exact ⟨z1, hf, z2, qo.1, by rw [← hy]; exact qo.2, fun j hj => z3 j (by omega)⟩
    have hgo := lp_go (F := fun z : (Int × Int) => f_Dm_isNeedless_12B w b (p : Int) (r : Int) z.1 z.2) (fun k => (bi (∃ i, i < k ∧ Kd w (RB w b) i p), (k : Int))) (bi (∃ i, i < p ∧ Kd w (RB w b) i p)) p (fun k hk => ?_) ?_
    · have e0 : bi (∃ i, i < 0 ∧ Kd w (RB w b) i p) = 0 := bi_0 (fun ⟨i, h, _⟩ => absurd h (Nat.not_lt_zero i))
      have hgo : lp (fun z : (Int × Int) => f_Dm_isNeedless_12B w b (p : Int) (r : Int) z.1 z.2) (bi (∃ i, i < 0 ∧ Kd w (RB w b) i p), ((0 : Nat) : Int)) = _ := hgo
      rw [e0] at hgo
      exact hgo
    · show f_Dm_isNeedless_12B w b (p : Int) (r : Int) (bi (∃ i, i < k ∧ Kd w (RB w b) i p)) (k : Int) = some (Sum.inl (bi (∃ i, i < k + 1 ∧ Kd w (RB w b) i p), ((k + 1 : Nat) : Int)))
      have split : (∃ i, i < k + 1 ∧ Kd w (RB w b) i p) ↔ (∃ i, i < k ∧ Kd w (RB w b) i p) ∨ Kd w (RB w b) k p := by
        constructor
        · rintro ⟨i, hi, z⟩
          by_cases e : i = k
          · subst e; exact Or.inr z
          · exact Or.inl ⟨i, by omega, z⟩
        · rintro (⟨i, hi, z⟩ | z)
          · exact ⟨i, by omega, z⟩
          · exact ⟨k, by omega, z⟩
      have e76 : ∀ x : Int, f_Dm_isNeedless_76 w b (p : Int) (r : Int) (k : Int) x = some (Sum.inl (x, ((k + 1 : Nat) : Int))) := fun x => by
        unfold f_Dm_isNeedless_76
        rw [bl_s, wr_of (x := (k : Int) + 1) ⟨by omega, by omega⟩]
        rfl
      unfold f_Dm_isNeedless_12B f_Dm_isNeedless_71 f_Dm_isNeedless_75
      rw [if_neg (by omega), hopen, if_pos qo, bnd_s, if_neg z10, e76, e76, bi_c split]
      by_cases q : ∃ i, i < k ∧ Kd w (RB w b) i p
      · rw [bi_1 q, if_neg z10, bi_1 (Or.inl q)]
      · rw [bi_0 q, if_pos rfl, formOf_n (by omega), bnd_s]
        by_cases f0 : w (b + 1) k = 0
        · rw [if_pos f0, subjectOf_n (by omega), bnd_s]
          by_cases s0 : w (b + 2) k = (r : Int)
          · rw [if_pos s0, keyOf_n hr10, bnd_s, hy, alike_n (by omega) (by omega) (by omega), bnd_s]
            by_cases al : ∀ j : Nat, j < y → w (b + 3) (3 * k + j) = w (b + 3) (3 * p + j)
            · rw [bi_1 al, if_neg z10, bi_1 (Or.inr ((kd k).mpr ⟨f0, s0, al⟩))]
            · rw [bi_0 al, if_pos rfl, bi_0 (fun z => z.elim q (fun z => al ((kd k).mp z).2.2))]
          · rw [if_neg s0, bi_0 (fun z => z.elim q (fun z => s0 ((kd k).mp z).2.1))]
        · rw [if_neg f0, bi_0 (fun z => z.elim q (fun z => f0 ((kd k).mp z).1))]
    · show f_Dm_isNeedless_12B w b (p : Int) (r : Int) (bi (∃ i, i < p ∧ Kd w (RB w b) i p)) (p : Int) = _
      unfold f_Dm_isNeedless_12B
      rw [if_pos (Int.le_refl _), gd_t bi_01]
  · have no : ¬ ∃ i, i < p ∧ Kd w (RB w b) i p := by
      rintro ⟨i, -, z⟩
      have z4 := z.2.2.2.1
      have z5 := z.2.2.2.2.1
      rw [ert, Int.toNat_natCast] at z4 z5
      exact qo ⟨z4, z5⟩
    rw [bi_0 no]
    refine lp_out ?_
    show f_Dm_isNeedless_12B w b (p : Int) (r : Int) 0 0 = _
    unfold f_Dm_isNeedless_12B
    rw [hopen, if_neg qo, bnd_s, if_pos rfl, gd_t (Or.inl rfl)]
    exact ite_self _
