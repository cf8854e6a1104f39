/-! BOTH: joins; the reference -/
theorem keyed81 {w : World} {a b r y : Nat} (ha : a < 95) (hb : b < 95) (hr : r < 10) (hsj : w 18 a = (r : Int)) (hy : w 5 r = (y : Int)) (hy3 : y ≤ 3) : f_Re_areKeyed_81 w (a : Int) (b : Int) 1 0 = some (bi (∀ j : Nat, j < y → w 19 (3 * a + j) = w 19 (3 * b + j))) := by
  have ix : ∀ (a j : Nat), a < 95 → j < 3 → wr ((wr (3 * (a : Int))) + (j : Int)) = ((3 * a + j : Nat) : Int) := fun a j ha hj => by
    rw [wr_of (x := 3 * (a : Int)) ⟨by omega, by omega⟩, wr_of (x := 3 * (a : Int) + (j : Int)) ⟨by omega, by omega⟩]
    omega
  have main : ∀ (d k : Nat), k + d = y → f_Re_areKeyed_81 w (a : Int) (b : Int) (bi (∀ j : Nat, j < k → w 19 (3 * a + j) = w 19 (3 * b + j))) (k : Int) = some (bi (∀ j : Nat, j < y → w 19 (3 * a + j) = w 19 (3 * b + j))) := by
    intro d
    induction d with
    | zero =>
      intro k hk
      have e : k = y := by omega
      subst e
      unfold f_Re_areKeyed_81
      refine lp_out ?_
      show f_Re_areKeyed_81B w (a : Int) (b : Int) (bi (∀ j : Nat, j < k → w 19 (3 * a + j) = w 19 (3 * b + j))) (k : Int) = _
      unfold f_Re_areKeyed_81B
      rw [Int.toNat_natCast, hsj, Int.toNat_natCast, hy, gd_t (β := (Int × Int) ⊕ Int) bi_01, gd_t ⟨by omega, by omega⟩, gd_t ⟨by omega, by omega⟩, if_pos (Int.le_refl _)]
      exact ite_self _
    | succ d ih =>
      intro k hk
      have := ih (k + 1) (by omega)
      by_cases q : ∀ j : Nat, j < k → w 19 (3 * a + j) = w 19 (3 * b + j)
      · have hstep : f_Re_areKeyed_81B w (a : Int) (b : Int) (bi (∀ j : Nat, j < k → w 19 (3 * a + j) = w 19 (3 * b + j))) (k : Int) = some (Sum.inl (bi (∀ j : Nat, j < k + 1 → w 19 (3 * a + j) = w 19 (3 * b + j)), ((k + 1 : Nat) : Int))) := by
          unfold f_Re_areKeyed_81B f_Re_areKeyed_131
          rw [bi_1 q, if_neg z10, gd_t ⟨by omega, by omega⟩, Int.toNat_natCast, hsj, gd_t ⟨by omega, by omega⟩, Int.toNat_natCast, hy, if_neg (by omega), ix a k ha (by omega), ix b k hb (by omega), gd_t ⟨by omega, by omega⟩, gd_t ⟨by omega, by omega⟩, Int.toNat_natCast, Int.toNat_natCast, bl_s, bl_s, wr_of (x := (k : Int) + 1) ⟨by omega, by omega⟩]
          by_cases e : w 19 (3 * a + k) = w 19 (3 * b + k)
          · rw [if_pos e, bi_1 (fun j hj => by
              by_cases ej : j = k
              · subst ej; exact e
              · exact q j (by omega))]
            rfl
          · rw [if_neg e, bi_0 (fun z => e (z k (by omega)))]
            rfl
        unfold f_Re_areKeyed_81 at this ⊢
        rw [lp_step (F := fun z : (Int × Int) => f_Re_areKeyed_81B w (a : Int) (b : Int) z.1 z.2) (s := (bi (∀ j : Nat, j < k → w 19 (3 * a + j) = w 19 (3 * b + j)), (k : Int))) hstep]
        exact this
      · rw [bi_0 q, bi_0 (fun z => q (fun j hj => z j (by omega)))]
        unfold f_Re_areKeyed_81
        refine lp_out ?_
        show f_Re_areKeyed_81B w (a : Int) (b : Int) 0 (k : Int) = _
        unfold f_Re_areKeyed_81B
        rw [if_pos rfl, gd_t (Or.inl rfl)]
  have h := main y 0 (by omega)
  rw [bi_1 (show ∀ j : Nat, j < 0 → w 19 (3 * a + j) = w 19 (3 * b + j) from fun j hj => absurd hj (Nat.not_lt_zero j))] at h
  exact h
theorem keyed_n {w : World} {ru i p : Nat} (hT : WfT w) (hru : ru < 19) (hW : WfL (SA w) (RBB w ru)) (hi : i < (RBB w ru).ln) (hp : p < (RBB w ru).ln) : f_Re_areKeyed w ((5 * ru + i : Nat) : Int) ((5 * ru + p : Nat) : Int) = some (bi (Kd w (RBB w ru) i p)) := by
  have h5 := hW.1
  have e17 : ∀ q, w 17 (5 * ru + q) = (RBB w ru).fm q := fun q => rfl
  have e18 : ∀ q, w 18 (5 * ru + q) = (RBB w ru).sj q := fun q => rfl
  have h76 : f_Re_areKeyed_76 w ((5 * ru + i : Nat) : Int) ((5 * ru + p : Nat) : Int) = some 0 := by
    unfold f_Re_areKeyed_76 f_Re_areKeyed_77 f_Re_areKeyed_81
    refine lp_out ?_
    show f_Re_areKeyed_81B w ((5 * ru + i : Nat) : Int) ((5 * ru + p : Nat) : Int) 0 0 = _
    unfold f_Re_areKeyed_81B
    rw [if_pos rfl, gd_t (Or.inl rfl)]
  unfold f_Re_areKeyed
  rw [h76, gd_t ⟨by omega, by omega⟩, Int.toNat_natCast, Int.toNat_natCast, e17, e17]
  by_cases f0 : (RBB w ru).fm i = 0
  · rw [if_pos f0, gd_t ⟨by omega, by omega⟩]
    by_cases f1 : (RBB w ru).fm p = 0
    · obtain ⟨hc1, -⟩ := hW.2.2.1 i hi (by omega)
      obtain ⟨r, hr, hr10, hr3, hco⟩ := SA_co_in hc1
      obtain ⟨s3, s4, s5, s6, s7⟩ := hT r hr10
      obtain ⟨y, hy⟩ : ∃ y : Nat, w 5 r = (y : Int) := ⟨(w 5 r).toNat, by omega⟩
      rw [if_pos f1, gd_t ⟨by omega, by omega⟩, gd_t ⟨by omega, by omega⟩, e18, e18, hr]
      by_cases s0 : (r : Int) = (RBB w ru).sj p
      · rw [if_pos s0, gd_t ⟨by omega, by omega⟩, gd_t ⟨by omega, by omega⟩, Int.toNat_natCast]
        by_cases k0 : w 4 r = 0
        · rw [if_pos k0, gd_t ⟨by omega, by omega⟩, gd_t ⟨by omega, by omega⟩, gd_t ⟨by omega, by omega⟩, gd_t ⟨by omega, by omega⟩]
          by_cases o0 : w 3 r ≤ w 5 r
          · rw [if_pos o0, bi_0 (fun z => by have := z.2.2.2.2.1; rw [← s0, Int.toNat_natCast] at this; omega)]
          · have hk := keyed81 (w := w) (a := 5 * ru + i) (b := 5 * ru + p) (by omega) (by omega) hr10 hr hy (by omega)
            rw [if_neg o0]
            unfold f_Re_areKeyed_77
            rw [hk]
            refine congrArg some (bi_c ?_)
            unfold Kd
            rw [← s0, Int.toNat_natCast, hy]
            constructor
            · intro z
              exact ⟨f0, f1, hr, k0, by rw [← hy]; omega, fun j hj => z j (by omega)⟩
            · rintro ⟨-, -, -, -, -, z⟩ j hj
              exact z j (by omega)
        · rw [if_neg k0, bi_0 (fun z => by have := z.2.2.2.1; rw [← s0, Int.toNat_natCast] at this; exact k0 this)]
      · rw [if_neg s0, bi_0 (fun z => s0 (by rw [← hr]; exact z.2.2.1))]
    · rw [if_neg f1, bi_0 (fun z => f1 z.2.1)]
  · rw [if_neg f0, bi_0 (fun z => f0 z.1)]
