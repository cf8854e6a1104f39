/-! THE REFERENCE'S WALK: fits -/
theorem fits93_0 {w : World} {own : Int} (ho : own ≠ -9) : f_Re_fits_93 w own 0 = some (uw w own, 0) := by
  unfold f_Re_fits_93
  rw [if_pos rfl, unbind_b ho, bnd_s, gd_t (Or.inl rfl)]
theorem fits93_1 {w : World} {own : Int} : f_Re_fits_93 w own 1 = some (w, 1) := by
  unfold f_Re_fits_93
  rw [if_neg (by decide), gd_t (Or.inr rfl)]
theorem fits31_0 {w : World} {own a b c : Int} {k : Int} (ho : own ≠ -9) : f_Re_fits_31 w own a b c 0 k = some (uw w own, 0) := by
  unfold f_Re_fits_31
  refine lp_out ?_
  show f_Re_fits_31B w own a b c 0 k = _
  unfold f_Re_fits_31B
  rw [if_pos rfl, fits93_0 ho, bnd_s]
theorem fitsB_loop {w : World} {own : Int} {at' M s r co : Nat} {cd : Nat → Nat} (ho : own ≠ -9) (hno : ∀ v, v < 8 → w 24 v ≠ own) (hat : at' < 95) (hr : w 18 at' = (r : Int)) (hr10 : r < 10) (hco : w 3 r = (co : Int)) (hco3 : co ≤ 3) (htm : ∀ c, c < 3 → -8 ≤ w 19 (3 * at' + c) ∧ w 19 (3 * at' + c) < 128) (hMs : 50 * M + s < 250) (hcd : ∀ c, c < 3 → w 22 (3 * (50 * M + s) + c) = ((cd c : Nat) : Int)) (hcl : ∀ c, cd c < 128) :
    ∀ (j k : Nat) (w' : World) (m : Nat), k + j = co → BnB own w w' m → VB w' →
    match mtf (fun c => w 19 (3 * at' + c)) cd j k (vB w') m with
    | none => ∃ w2, f_Re_fits_31 w' own (at' : Int) (M : Int) (s : Int) 1 (k : Int) = some (w2, 0) ∧ EqB w w2 ∧ VB w2
    | some (v', m') => ∃ w2, f_Re_fits_31 w' own (at' : Int) (M : Int) (s : Int) 1 (k : Int) = some (w2, 1) ∧ BnB own w w2 m' ∧ VB w2 ∧ vB w2 = v' := by
  intro j
  induction j with
  | zero =>
    intro k w' m hk hB hV
    show ∃ w2, f_Re_fits_31 w' own (at' : Int) (M : Int) (s : Int) 1 (k : Int) = some (w2, 1) ∧ BnB own w w2 m ∧ VB w2 ∧ vB w2 = vB w'
    refine ⟨w', ?_, hB, hV, rfl⟩
    unfold f_Re_fits_31
    refine lp_out ?_
    show f_Re_fits_31B w' own (at' : Int) (M : Int) (s : Int) 1 (k : Int) = _
    unfold f_Re_fits_31B
    have e18 := hB.1 18 (by decide) (by decide)
    have e3 := hB.1 3 (by decide) (by decide)
    rw [if_neg (by decide), gd_t ⟨by omega, by omega⟩, Int.toNat_natCast, e18, hr, gd_t ⟨by omega, by omega⟩, Int.toNat_natCast, e3, hco, if_pos (by omega), fits93_1, bnd_s]
  | succ j ih =>
    intro k w' m hk hB hV
    have e18 := hB.1 18 (by decide) (by decide)
    have e3 := hB.1 3 (by decide) (by decide)
    have e19 := hB.1 19 (by decide) (by decide)
    have e22 := hB.1 22 (by decide) (by decide)
    have ht := htm k (by omega)
    have hck := hcl k
    have i1 : wr ((wr (3 * (at' : Int))) + (k : Int)) = ((3 * at' + k : Nat) : Int) := by
      rw [wr_of (x := 3 * (at' : Int)) ⟨by omega, by omega⟩, wr_of (x := 3 * (at' : Int) + (k : Int)) ⟨by omega, by omega⟩]
      omega
    have i2 : wr ((wr (3 * (wr ((wr (50 * (M : Int))) + (s : Int))))) + (k : Int)) = ((3 * (50 * M + s) + k : Nat) : Int) := by
      rw [wr_of (x := 50 * (M : Int)) ⟨by omega, by omega⟩, wr_of (x := 50 * (M : Int) + (s : Int)) ⟨by omega, by omega⟩, wr_of (x := 3 * (50 * (M : Int) + (s : Int))) ⟨by omega, by omega⟩, wr_of (x := 3 * (50 * (M : Int) + (s : Int)) + (k : Int)) ⟨by omega, by omega⟩]
      omega
    have step : ∀ w2 d, f_Re_match w' own (w 19 (3 * at' + k)) ((cd k : Nat) : Int) = some (w2, d) → f_Re_fits_31 w' own (at' : Int) (M : Int) (s : Int) 1 (k : Int) = f_Re_fits_31 w2 own (at' : Int) (M : Int) (s : Int) d ((k + 1 : Nat) : Int) := fun w2 d hm => by
      unfold f_Re_fits_31
      refine lp_step (s := (w', 1, (k : Int))) ?_
      show f_Re_fits_31B w' own (at' : Int) (M : Int) (s : Int) 1 (k : Int) = _
      unfold f_Re_fits_31B
      rw [if_neg (by decide), gd_t ⟨by omega, by omega⟩, Int.toNat_natCast, e18, hr, gd_t ⟨by omega, by omega⟩, Int.toNat_natCast, e3, hco, if_neg (by omega), i1, gd_t ⟨by omega, by omega⟩, i2, gd_t ⟨by omega, by omega⟩, Int.toNat_natCast, Int.toNat_natCast, e19, e22, hcd k (by omega), hm, bnd_s, bl_s, wr_of (x := (k : Int) + 1) ⟨by omega, by omega⟩]
      rfl
    have hm := match_n (w := w') (own := own) (t := w 19 (3 * at' + k)) (x := ((cd k : Nat) : Int)) hV ht
    unfold mtf
    by_cases q : vl (vB w') (w 19 (3 * at' + k)) = -1
    · rw [if_pos q] at hm
      rw [if_pos q]
      have hneg : w 19 (3 * at' + k) < 0 := by
        refine Classical.byContradiction fun hn => ?_
        unfold vl at q
        rw [if_neg hn] at q
        omega
      have hB2 := hB.bind (x := ((cd k : Nat) : Int)) ⟨ht.1, hneg⟩ q hV ho
      have hV2 := bw_VB (t := w 19 (3 * at' + k)) (own := own) hV (show 0 ≤ ((cd k : Nat) : Int) ∧ ((cd k : Nat) : Int) < 128 by omega)
      have hv2 := bw_vB (x := ((cd k : Nat) : Int)) hneg q ho
      have h := ih (k + 1) _ _ (by omega) hB2 hV2
      rw [hv2] at h
      rw [step _ _ hm]
      exact h
    · rw [if_neg q] at hm
      rw [if_neg q]
      by_cases q2 : vl (vB w') (w 19 (3 * at' + k)) = ((cd k : Nat) : Int)
      · rw [if_pos q2] at hm
        rw [if_pos q2, step _ _ hm]
        exact ih (k + 1) w' m (by omega) hB hV
      · rw [if_neg q2] at hm
        rw [if_neg q2, step _ _ hm]
        show ∃ w2, f_Re_fits_31 w' own (at' : Int) (M : Int) (s : Int) 0 ((k + 1 : Nat) : Int) = some (w2, 0) ∧ EqB w w2 ∧ VB w2
        exact ⟨uw w' own, fits31_0 ho, hB.un hno, uw_VB hV⟩
