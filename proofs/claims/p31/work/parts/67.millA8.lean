/-! THE CLASS'S MILL: what a sweep has covered; sweep after sweep -/
def PrC (RR : RU → Prop) (m : Nat) (w : World) : Prop := ∀ R, RR R → ∃ i, i < m ∧ w (22 + 4 * i) 2 = 0 ∧ RB w (22 + 4 * i) = R
theorem PrC_congr {RR : RU → Prop} {m : Nat} {w w' : World} (hm : m ≤ 12) (h : ∀ c, c < 98 → w' c = w c) (hP : PrC RR m w) : PrC RR m w' := fun R hR => by
  obtain ⟨i, hi, h1, h2⟩ := hP R hR
  exact ⟨i, hi, by rw [h _ (by omega)]; exact h1, (RB_congr (h _ (by omega)) (h _ (by omega)) (h _ (by omega)) (h _ (by omega))).trans h2⟩
/-- all assignments by slots of earlier rounds have their heads -/
def CvL (D : SH) (lv : Int → Nat) (RR : RU → Prop) (sl t : Nat) (rd : Int) (w : World) (N : Nat) (ρ c : Nat → Nat) : Prop :=
  ∀ R, RR R → lv R.tg = sl → ∀ σ X, Asg N ρ c R σ X → (∀ q, q < R.ln → R.fm q = 0 → w (t + 4) (X q) < rd) → ∃ k, AM N ρ c R.tg k ∧ le D R.tg (tc σ R.ht) k
theorem least_nat {P : Nat → Prop} (h : ∃ n, P n) : ∃ n, P n ∧ ∀ m, m < n → ¬ P m := by
  obtain ⟨n, hn⟩ := h
  induction n using Nat.strongRecOn with
  | ind n ih =>
    by_cases q : ∃ m, m < n ∧ P m
    · obtain ⟨m, hm, hp⟩ := q
      exact ih m hm hp
    · exact ⟨n, hn, fun m hm hp => q ⟨m, hm, hp⟩⟩
theorem sweep_n {D : SH} {lv : Int → Nat} {FF : MM} {RR : RU → Prop} {sl t m N : Nat} {rd x4 : Int} {w : World} {ρ c : Nat → Nat} {L : Nat → List Nat} (hkt : kdA t = 6) (hrd : 1 ≤ rd ∧ rd ≤ 1000000) (hSI : SI D lv FF RR sl t w N ρ c L) (hPr : PrW D lv RR m w) (hPc : PrC RR m w) (ho : w t 2 ≠ 0 → w t 2 = 1 ∧ OvB D lv FF RR sl (AM N ρ c)) (hr1 : ∀ x, x < N → w (t + 4) x ≤ rd - 1) (hlo : x4 = 0 → ∀ x, x < N → lv (ρ x) < sl → w (t + 4) x < rd - 1) (hcv : x4 = 0 → w t 2 = 0 → CvL D lv RR sl t (rd - 1) w N ρ c) :
    ∃ w' x5' N' ρ' c' L', f_Mi_sweep w t (sl : Int) rd x4 = some (w', x5') ∧ Rs D lv FF RR sl t rd w N ρ c L 0 w' N' ρ' c' L' x5' ∧ (w' t 2 = 0 → CvL D lv RR sl t rd w' N' ρ' c') := by
  obtain ⟨w', x5', N', ρ', c', L', er, hRs, hcv'⟩ := sw6 (x4 := x4) hkt hrd m 0 w N ρ c L 0 (by omega) hSI hPr ho (Or.inl rfl)
  refine ⟨w', x5', N', ρ', c', L', er, hRs, fun hf R hR hs σ X hA hX => ?_⟩
  have hL := hPr.2.2.2.2.2.1
  obtain ⟨i, hi, hrm, hRB⟩ := hPc R hR
  have h := hcv' hf i (by omega) hi hrm (by rw [hRB]; exact hs)
  rw [hRB] at h
  have hne : ∀ q, q < R.ln → R.fm q = 0 → w' (t + 4) (X q) ≠ rd := fun q hq f0 => by have := hX q hq f0; omega
  unfold CvR at h
  by_cases hx : x4 = 0
  · rw [if_pos hx] at h
    obtain ⟨hA0, hr0⟩ := Asg_back hL hR hs hRs.2.1 hA hne
    have ho0 : w t 2 = 0 := Classical.byContradiction fun q => hRs.2.2.2.2.2 q hf
    by_cases hall : ∃ q, q < R.ln ∧ R.fm q = 0 ∧ w' (t + 4) (X q) = rd - 1
    · obtain ⟨q, ⟨hq, f0, hrq⟩, hmin⟩ := least_nat hall
      have hXq := hA0.2.2 q hq f0
      have hlvq : lv (R.sj q) = sl := by
        have h1 := ((hL R hR).2 q hq).1 f0
        refine Classical.byContradiction fun hn => ?_
        have h2 := hlo hx (X q) hXq.1 (by rw [hXq.2.1]; omega)
        rw [hr0 q hq f0] at h2
        omega
      have htm : ∀ q', q' < R.ln → R.fm q' = 0 → timely (q : Int) (rd - 1) (w' (t + 4)) q' (X q') = true ∧ w' (t + 4) (X q') ≠ rd := fun q' hq' f0' => by
        refine ⟨?_, hne q' hq' f0'⟩
        unfold timely
        rw [if_neg (by omega)]
        by_cases h1 : (q' : Int) ≤ (q : Int)
        · rw [if_pos h1]
          by_cases h2 : (q' : Int) = (q : Int)
          · have e : q' = q := by omega
            rw [if_pos h2, e, hrq]
            simp
          · rw [if_neg h2]
            have h3 := hmin q' (by omega)
            have h4 : w' (t + 4) (X q') ≠ rd - 1 := fun e => h3 ⟨hq', f0', e⟩
            have h5 := hX q' hq' f0'
            exact decide_eq_true (by omega)
        · rw [if_neg h1]
      exact h q hq f0 hlvq w' N' ρ' c' Evo.refl σ X hA htm
    · obtain ⟨k, hk, hle⟩ := hcv hx ho0 R hR hs σ X hA0 (fun q hq f0 => by
        have h1 := hX q hq f0
        have h2 : w' (t + 4) (X q) ≠ rd - 1 := fun e => hall ⟨q, hq, f0, e⟩
        rw [hr0 q hq f0]
        omega)
      obtain ⟨k', hk', hle'⟩ := hRs.2.1.cov hk
      exact ⟨k', hk', le_trans' hle hle'⟩
  · rw [if_neg hx] at h
    refine h w' N' ρ' c' Evo.refl σ X hA (fun q' hq' f0' => ⟨?_, hne q' hq' f0'⟩)
    unfold timely
    rw [if_pos rfl]
