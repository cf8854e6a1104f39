/-! THE REFERENCE'S WALK: fits as a whole; the tuples one by one -/
/-- what a place's tuple binds -/
def tB (w : World) (at' co r : Nat) (ρ c : Nat → Nat) (vs : Nat → Int) (s : Nat) : Option ((Nat → Int) × Nat) := if ρ s = r then mtf (fun j => w 19 (3 * at' + j)) (clm (c s)) co 0 vs 0 else none
theorem fitsB_n {w : World} {own : Int} {at' M n s r co : Nat} {ρ c : Nat → Nat} (ho : own ≠ -9) (hno : ∀ v, v < 8 → w 24 v ≠ own) (hB : BMod w M n ρ c) (hs : s < n) (hat : at' < 95) (hr : w 18 at' = (r : Int)) (hr10 : r < 10) (hco : w 3 r = (co : Int)) (hco3 : co ≤ 3) (htm : ∀ c, c < 3 → -8 ≤ w 19 (3 * at' + c) ∧ w 19 (3 * at' + c) < 128) (hV : VB w) :
    match tB w at' co r ρ c (vB w) s with
    | none => ∃ w2, f_Re_fits w own (at' : Int) (M : Int) (s : Int) = some (w2, 0) ∧ EqB w w2 ∧ VB w2
    | some (v', m') => ∃ w2, f_Re_fits w own (at' : Int) (M : Int) (s : Int) = some (w2, 1) ∧ BnB own w w2 m' ∧ VB w2 ∧ vB w2 = v' := by
  obtain ⟨hM, hn, h49, hsl, hkey⟩ := hB
  obtain ⟨a1, a2, a3, a4, a5⟩ := hsl s hs
  have i1 : wr ((wr (50 * (M : Int))) + (s : Int)) = ((50 * M + s : Nat) : Int) := by
    rw [wr_of (x := 50 * (M : Int)) ⟨by omega, by omega⟩, wr_of (x := 50 * (M : Int) + (s : Int)) ⟨by omega, by omega⟩]
    omega
  unfold tB
  by_cases q : ρ s = r
  · have h := fitsB_loop (w := w) (own := own) (cd := clm (c s)) ho hno hat hr hr10 hco hco3 htm (show 50 * M + s < 250 by omega) a3 (fun j => clm_lt) co 0 w 0 (by omega) BnB.refl hV
    have e : f_Re_fits w own (at' : Int) (M : Int) (s : Int) = f_Re_fits_31 w own (at' : Int) (M : Int) (s : Int) 1 ((0 : Nat) : Int) := by
      unfold f_Re_fits f_Re_fits_26
      rw [i1, gd_t ⟨by omega, by omega⟩, gd_t ⟨by omega, by omega⟩, Int.toNat_natCast, Int.toNat_natCast, a2, hr, if_pos (by omega)]
      rfl
    rw [if_pos q, e]
    exact h
  · rw [if_neg q]
    have e : f_Re_fits w own (at' : Int) (M : Int) (s : Int) = f_Re_fits_31 w own (at' : Int) (M : Int) (s : Int) 0 0 := by
      unfold f_Re_fits f_Re_fits_26
      rw [i1, gd_t ⟨by omega, by omega⟩, gd_t ⟨by omega, by omega⟩, Int.toNat_natCast, Int.toNat_natCast, a2, hr, if_neg (by omega)]
    show ∃ w2, f_Re_fits w own (at' : Int) (M : Int) (s : Int) = some (w2, 0) ∧ EqB w w2 ∧ VB w2
    rw [e]
    exact ⟨uw w own, fits31_0 ho, BnB.refl.un hno, uw_VB hV⟩
theorem BMod_congr {w w' : World} {M n : Nat} {ρ c : Nat → Nat} (h : ∀ k, k = 3 ∨ k = 4 ∨ k = 5 ∨ k = 6 ∨ k = 20 ∨ k = 21 ∨ k = 22 → w' k = w k) (hB : BMod w M n ρ c) : BMod w' M n ρ c := by
  obtain ⟨h1, h2, h3, h4, h5⟩ := hB
  have hSA : SA w' = SA w := SA_congr (fun k a b j => by rw [h k (by omega)])
  refine ⟨h1, by rw [h 20 (by omega)]; exact h2, h3, fun s hs => ?_, by rw [hSA]; exact h5⟩
  rw [h 21 (by omega), h 22 (by omega), h 3 (by omega)]
  exact h4 s hs
/-- the worlds are alike but for a cursor and values that no variable has -/
def EqC (d : Nat) (w w' : World) : Prop := (∀ c, c ≠ 23 → c ≠ 25 → w' c = w c) ∧ (∀ k, k ≠ d → w' 25 k = w 25 k) ∧ ∀ v, w 24 v ≠ -9 → w' 23 v = w 23 v
/-- .. and a literal has bound variables -/
def BnC (d : Nat) (own : Int) (w w' : World) (m : Nat) : Prop :=
  (∀ c, c ≠ 23 → c ≠ 24 → c ≠ 25 → w' c = w c) ∧ (∀ k, k ≠ d → w' 25 k = w 25 k) ∧ m < 256 ∧ (∀ v, m.testBit v = true → w 24 v = -9 ∧ w' 24 v = own) ∧ (∀ v, m.testBit v = false → w' 24 v = w 24 v) ∧ ∀ v, w 24 v ≠ -9 → w' 23 v = w 23 v
theorem EqC.vB {d : Nat} {w w' : World} (h : EqC d w w') : vB w' = vB w := by
  funext v
  show (if w' 24 v = -9 then -1 else w' 23 v) = if w 24 v = -9 then -1 else w 23 v
  rw [h.1 24 (by decide) (by decide)]
  by_cases q : w 24 v = -9
  · rw [if_pos q, if_pos q]
  · rw [if_neg q, if_neg q, h.2.2 v q]
theorem triesB_loop {own : Int} {d at' M n r co : Nat} {ρ c : Nat → Nat} (hown : own = (d : Int)) (hd : d < 5) (hat : at' < 95) (hr10 : r < 10) (hco3 : co ≤ 3) : ∀ (j k : Nat) (w : World), k + j = n → w 25 d = (k : Int) → BMod w M n ρ c → VB w → (∀ v, v < 8 → w 24 v ≠ own) → w 18 at' = (r : Int) → w 3 r = (co : Int) → (∀ c, c < 3 → -8 ≤ w 19 (3 * at' + c) ∧ w 19 (3 * at' + c) < 128) →
    match scan (tB w at' co r ρ c (vB w)) (List.range' k j) with
    | none => ∃ w2, f_Re_tries_22 w (d : Int) (M : Int) (at' : Int) = some (w2, 0) ∧ EqC d w w2 ∧ VB w2
    | some (s, q, _) => ∃ w2, f_Re_tries_22 w (d : Int) (M : Int) (at' : Int) = some (w2, 1) ∧ w2 25 d = (s : Int) + 1 ∧ BnC d own w w2 q.2 ∧ VB w2 ∧ vB w2 = q.1 := by
  intro j
  induction j with
  | zero =>
    intro k w hk h25 hB hV hno hr hco htm
    show ∃ w2, f_Re_tries_22 w (d : Int) (M : Int) (at' : Int) = some (w2, 0) ∧ EqC d w w2 ∧ VB w2
    refine ⟨w, ?_, ⟨fun _ _ _ => rfl, fun _ _ => rfl, fun _ _ => rfl⟩, hV⟩
    have hM := hB.1
    unfold f_Re_tries_22
    refine lp_out ?_
    show f_Re_tries_22B w (d : Int) (M : Int) (at' : Int) = _
    unfold f_Re_tries_22B
    rw [gd_t ⟨by omega, by omega⟩, gd_t ⟨by omega, by omega⟩, Int.toNat_natCast, Int.toNat_natCast, hB.2.1, h25, if_pos (by omega)]
  | succ j ih =>
    intro k w hk h25 hB hV hno hr hco htm
    have hM := hB.1
    obtain ⟨w1, hw1⟩ : ∃ w1, w1 = up w 25 d ((k : Int) + 1) := ⟨_, rfl⟩
    have f1 : ∀ c0, c0 ≠ 25 → w1 c0 = w c0 := fun c0 h => by rw [hw1]; funext x; simp [up, h]
    have f25 : w1 25 d = (k : Int) + 1 := by rw [hw1]; simp [up]
    have f25' : ∀ x, x ≠ d → w1 25 x = w 25 x := fun x hx => by rw [hw1]; simp [up, hx]
    have hvB1 : vB w1 = vB w := by
      unfold vB
      rw [f1 24 (by decide), f1 23 (by decide)]
    have hV1 : VB w1 := by
      intro v hv
      rw [f1 24 (by decide)] at hv
      rw [f1 23 (by decide)]
      exact hV v hv
    have hB1 : BMod w1 M n ρ c := BMod_congr (fun k hk => f1 k (by omega)) hB
    have htB : ∀ vs s, tB w1 at' co r ρ c vs s = tB w at' co r ρ c vs s := fun vs s => by
      unfold tB
      rw [f1 19 (by decide)]
    have hf := fitsB_n (s := k) (w := w1) (own := own) (at' := at') (r := r) (co := co) (by omega) (by rw [f1 24 (by decide)]; exact hno) hB1 (by omega) hat (by rw [f1 18 (by decide)]; exact hr) hr10 (by rw [f1 3 (by decide)]; exact hco) hco3 (by rw [f1 19 (by decide)]; exact htm) hV1
    rw [htB, hvB1] at hf
    have body : f_Re_tries_22B w (d : Int) (M : Int) (at' : Int) = bnd (f_Re_fits w1 own (at' : Int) (M : Int) (k : Int)) fun v14 => if v14.2 = 0 then (some (Sum.inl v14.1)) else (some (Sum.inr (v14.1, 1))) := by
      unfold f_Re_tries_22B
      rw [gd_t ⟨by omega, by omega⟩, gd_t ⟨by omega, by omega⟩, Int.toNat_natCast, Int.toNat_natCast, hB.2.1, h25, if_neg (by omega), gd_t ⟨by omega, by omega⟩, gd_t ⟨by omega, by omega⟩, bl_s, wr_of (x := (k : Int) + 1) ⟨by have := hB.2.2.1; omega, by have := hB.2.2.1; omega⟩, gd_t ⟨by omega, by omega⟩, ← hw1, f25, wr_of (x := (k : Int) + 1 - 1) ⟨by have := hB.2.2.1; omega, by have := hB.2.2.1; omega⟩, ← hown, show (k : Int) + 1 - 1 = (k : Int) by omega]
    have hsc : List.range' k (j + 1) = k :: List.range' (k + 1) j := rfl
    rw [hsc]
    unfold scan
    cases hO : tB w at' co r ρ c (vB w) k with
    | none =>
      rw [hO] at hf
      obtain ⟨w2, e2, hE2, hV2⟩ := hf
      have f2 : ∀ c0, c0 ≠ 23 → c0 ≠ 25 → w2 c0 = w c0 := fun c0 a b => (hE2.1 c0 a).trans (f1 c0 b)
      have h25' : w2 25 d = ((k + 1 : Nat) : Int) := by rw [hE2.1 25 (by decide), f25]; omega
      have hvB2 : vB w2 = vB w := hE2.vB.trans hvB1
      have h := ih (k + 1) w2 (by omega) h25' (BMod_congr (fun k hk => f2 k (by omega) (by omega)) hB) hV2 (by rw [f2 24 (by decide) (by decide)]; exact hno) (by rw [f2 18 (by decide) (by decide)]; exact hr) (by rw [f2 3 (by decide) (by decide)]; exact hco) (by rw [f2 19 (by decide) (by decide)]; exact htm)
      have htB2 : tB w2 at' co r ρ c (vB w2) = tB w at' co r ρ c (vB w) := by
        rw [hvB2]
        funext s
        unfold tB
        rw [f2 19 (by decide) (by decide)]
      rw [htB2] at h
      have e : f_Re_tries_22 w (d : Int) (M : Int) (at' : Int) = f_Re_tries_22 w2 (d : Int) (M : Int) (at' : Int) := by
        unfold f_Re_tries_22
        refine lp_step ?_
        show f_Re_tries_22B w (d : Int) (M : Int) (at' : Int) = _
        rw [body, e2, bnd_s, if_pos rfl]
      rw [e]
      have hEC : EqC d w w2 := ⟨f2, fun x hx => by rw [hE2.1 25 (by decide)]; exact f25' x hx, fun v hv => by rw [hE2.2 v (by rw [f1 24 (by decide)]; exact hv), f1 23 (by decide)]⟩
      show match scan (tB w at' co r ρ c (vB w)) (List.range' (k + 1) j) with
        | none => ∃ w2_1, f_Re_tries_22 w2 (d : Int) (M : Int) (at' : Int) = some (w2_1, 0) ∧ EqC d w w2_1 ∧ VB w2_1
        | some (s, q, _) => ∃ w2_1, f_Re_tries_22 w2 (d : Int) (M : Int) (at' : Int) = some (w2_1, 1) ∧ w2_1 25 d = (s : Int) + 1 ∧ BnC d own w w2_1 q.2 ∧ VB w2_1 ∧ vB w2_1 = q.1
      cases hsc2 : scan (tB w at' co r ρ c (vB w)) (List.range' (k + 1) j) with
      | none =>
        rw [hsc2] at h
        obtain ⟨w3, e3, hE3, hV3⟩ := h
        exact ⟨w3, e3, ⟨fun c0 a b => (hE3.1 c0 a b).trans (f2 c0 a b), fun x hx => (hE3.2.1 x hx).trans (hEC.2.1 x hx), fun v hv => (hE3.2.2 v (by rw [f2 24 (by decide) (by decide)]; exact hv)).trans (hEC.2.2 v hv)⟩, hV3⟩
      | some z =>
        obtain ⟨s, q, rest⟩ := z
        rw [hsc2] at h
        obtain ⟨w3, e3, h3, ⟨b1, b2, b3, b4, b5, b6⟩, hV3, hv3⟩ := h
        have e24 : w2 24 = w 24 := f2 24 (by decide) (by decide)
        rw [e24] at b4 b5 b6
        exact ⟨w3, e3, h3, ⟨fun c0 a b d => (b1 c0 a b d).trans (f2 c0 a d), fun x hx => (b2 x hx).trans (hEC.2.1 x hx), b3, b4, b5, fun v hv => (b6 v hv).trans (hEC.2.2 v hv)⟩, hV3, hv3⟩
    | some q =>
      rw [hO] at hf
      obtain ⟨v', m'⟩ := q
      obtain ⟨w2, e2, ⟨b1, b2, b3, b4, b5⟩, hV2, hv2⟩ := hf
      show ∃ w2, f_Re_tries_22 w (d : Int) (M : Int) (at' : Int) = some (w2, 1) ∧ w2 25 d = (k : Int) + 1 ∧ BnC d own w w2 m' ∧ VB w2 ∧ vB w2 = v'
      have e24 : w1 24 = w 24 := f1 24 (by decide)
      rw [e24] at b3 b4 b5
      refine ⟨w2, ?_, by rw [b1 25 (by decide) (by decide)]; exact f25, ⟨fun c0 a b d => (b1 c0 a b).trans (f1 c0 d), fun x hx => by rw [b1 25 (by decide) (by decide)]; exact f25' x hx, b2, b3, b4, fun v hv => (b5 v hv).trans (by rw [f1 23 (by decide)])⟩, hV2, hv2⟩
      unfold f_Re_tries_22
      refine lp_out ?_
      show f_Re_tries_22B w (d : Int) (M : Int) (at' : Int) = _
      rw [body, e2, bnd_s, if_neg (show ¬ ((w2, (1 : Int)).2 = 0) from (by decide : ¬ (1 : Int) = 0))]
