/-! BOTH: a copy of the draft in the reference; deny -/
def FrCp2 (ru : Nat) (w w' : World) : Prop := ∀ c k, ¬ ((c = 17 ∧ 5 * ru ≤ k ∧ k < 5 * ru + 5) ∨ (c = 18 ∧ 5 * ru ≤ k ∧ k < 5 * ru + 5) ∨ (c = 19 ∧ 15 * ru ≤ k ∧ k < 15 * ru + 15)) → w' c k = w c k
def LitC (ru : Nat) (w w' : World) (n : Nat) : Prop := ∀ p, p < n → w' 17 (5 * ru + p) = w 17 (90 + p) ∧ w' 18 (5 * ru + p) = w 18 (90 + p) ∧ ∀ c, c < 3 → w' 19 (3 * (5 * ru + p) + c) = w 19 (3 * (90 + p) + c)
theorem cp60 {w : World} {ru : Nat} (hru : ru < 18) : ∀ (d p : Nat) (w' : World), p + d = 5 → FrCp2 ru w w' → LitC ru w w' p → ∃ w'', f_Re_copyDraft_60 w' (ru : Int) (p : Int) = some w'' ∧ FrCp2 ru w w'' ∧ LitC ru w w'' 5 := by
  intro d
  induction d with
  | zero =>
    intro p w' hp hF hL
    have hp5 : p = 5 := by omega
    subst hp5
    refine ⟨w', ?_, hF, hL⟩
    unfold f_Re_copyDraft_60
    refine lp_out ?_
    show f_Re_copyDraft_60B w' (ru : Int) ((5 : Nat) : Int) = _
    unfold f_Re_copyDraft_60B
    rw [if_pos (by decide)]
  | succ d ih =>
    intro p w' hpd hF hL
    have hp : p < 5 := by omega
    have i90 : wr (90 + (p : Int)) = ((90 + p : Nat) : Int) := by rw [wr_of (x := 90 + (p : Int)) ⟨by omega, by omega⟩]; omega
    have i5 : wr ((wr (5 * (ru : Int))) + (p : Int)) = ((5 * ru + p : Nat) : Int) := by rw [wr_of (x := 5 * (ru : Int)) ⟨by omega, by omega⟩, wr_of (x := 5 * (ru : Int) + (p : Int)) ⟨by omega, by omega⟩]; omega
    obtain ⟨w1, hw1⟩ : ∃ v, v = up w' 17 (5 * ru + p) (w' 17 (90 + p)) := ⟨_, rfl⟩
    obtain ⟨w2, hw2⟩ : ∃ v, v = up w1 18 (5 * ru + p) (w1 18 (90 + p)) := ⟨_, rfl⟩
    obtain ⟨w3, r1, r2, r3⟩ := cp105 (w := w2) (ru := ru) (p := p) hru hp
    have e17 : w2 17 (5 * ru + p) = w' 17 (90 + p) := by rw [hw2, hw1]; simp [up]
    have e18 : w2 18 (5 * ru + p) = w' 18 (90 + p) := by rw [hw2, hw1]; simp [up]
    have e2o : ∀ c k, ¬ (c = 17 ∧ k = 5 * ru + p) → ¬ (c = 18 ∧ k = 5 * ru + p) → w2 c k = w' c k := fun c k h1 h2 => by
      rw [hw2, hw1]; unfold up; rw [if_neg h2, if_neg h1]
    have s90 : ∀ p, p < 5 → w' 17 (90 + p) = w 17 (90 + p) ∧ w' 18 (90 + p) = w 18 (90 + p) ∧ ∀ c, c < 3 → w' 19 (3 * (90 + p) + c) = w 19 (3 * (90 + p) + c) := fun p hp => ⟨hF _ _ (by omega), hF _ _ (by omega), fun c hc => hF _ _ (by omega)⟩
    obtain ⟨w'', q1, q2⟩ := ih (p + 1) w3 (by omega) (fun c k hck => by
      rw [r2 c k (by omega), e2o c k (by omega) (by omega)]
      exact hF c k hck) (fun p' hp' => by
      by_cases q : p' < p
      · obtain ⟨x1, x2, x3⟩ := hL p' q
        refine ⟨?_, ?_, fun c hc => ?_⟩
        · rw [r2 _ _ (by omega), e2o _ _ (by omega) (by omega)]; exact x1
        · rw [r2 _ _ (by omega), e2o _ _ (by omega) (by omega)]; exact x2
        · rw [r2 _ _ (by omega), e2o _ _ (by omega) (by omega)]; exact x3 c hc
      · have : p' = p := by omega
        subst this
        obtain ⟨y1, y2, y3⟩ := s90 p' hp
        refine ⟨?_, ?_, fun c hc => ?_⟩
        · rw [r2 _ _ (by omega), e17]; exact y1
        · rw [r2 _ _ (by omega), e18]; exact y2
        · rw [r3 c hc, e2o _ _ (by omega) (by omega)]; exact y3 c hc)
    refine ⟨w'', ?_, q2⟩
    unfold f_Re_copyDraft_60 at q1 ⊢
    have hstep : f_Re_copyDraft_60B w' (ru : Int) (p : Int) = some (Sum.inl (w3, ((p + 1 : Nat) : Int))) := by
      unfold f_Re_copyDraft_60B
      rw [if_neg (by omega), i90, i5, gd_t ⟨by omega, by omega⟩, gd_t ⟨by omega, by omega⟩, bl_s, gd_t ⟨by omega, by omega⟩, gd_t ⟨by omega, by omega⟩, bl_s, Int.toNat_natCast, Int.toNat_natCast, ← hw1, ← hw2]
      exact r1
    rw [lp_step (F := fun z : (World × Int) => f_Re_copyDraft_60B z.1 (ru : Int) z.2) hstep]
    exact q1
theorem copyB_n {w : World} {ru : Nat} (hru : ru < 18) (h5 : (RBB w 18).ln ≤ 5) : ∃ w', f_Re_copyDraft w (ru : Int) = some w' ∧ FrCp ru w w' ∧ RE (RBB w 18) (RBB w' ru) ∧ w' 16 ru = w 16 18 := by
  obtain ⟨w1, hw1⟩ : ∃ v, v = up w 14 ru (w 14 18) := ⟨_, rfl⟩
  obtain ⟨w2, hw2⟩ : ∃ v, v = up w1 16 ru (w1 16 18) := ⟨_, rfl⟩
  have i54 : ∀ j : Nat, j < 3 → wr (54 + (j : Int)) = ((54 + j : Nat) : Int) := fun j hj => by rw [wr_of (x := 54 + (j : Int)) ⟨by omega, by omega⟩]; omega
  have i3 : ∀ j : Nat, j < 3 → wr ((wr (3 * (ru : Int))) + (j : Int)) = ((3 * ru + j : Nat) : Int) := fun j hj => by rw [wr_of (x := 3 * (ru : Int)) ⟨by omega, by omega⟩, wr_of (x := 3 * (ru : Int) + (j : Int)) ⟨by omega, by omega⟩]; omega
  have body : ∀ (w : World) (j : Nat), j < 3 → f_Re_copyDraft_28B w (ru : Int) (j : Int) = some (Sum.inl (up w 15 (3 * ru + j) (w 15 (54 + j)), ((j + 1 : Nat) : Int))) := fun w j hj => by
    unfold f_Re_copyDraft_28B
    rw [if_neg (by omega), i54 j hj, i3 j hj, gd_t ⟨by omega, by omega⟩, gd_t ⟨by omega, by omega⟩, bl_s, bl_s, wr_of (x := (j : Int) + 1) ⟨by omega, by omega⟩, Int.toNat_natCast, Int.toNat_natCast]
    rfl
  have b0 := body w2 0 (by omega)
  have b0 : f_Re_copyDraft_28B w2 (ru : Int) 0 = _ := b0
  have b1 := body (up w2 15 (3 * ru + 0) (w2 15 (54 + 0))) 1 (by omega)
  have b2 := body (up (up w2 15 (3 * ru + 0) (w2 15 (54 + 0))) 15 (3 * ru + 1) (up w2 15 (3 * ru + 0) (w2 15 (54 + 0)) 15 (54 + 1))) 2 (by omega)
  obtain ⟨w3, hw3⟩ : ∃ v, v = up (up (up w2 15 (3 * ru + 0) (w2 15 (54 + 0))) 15 (3 * ru + 1) (up w2 15 (3 * ru + 0) (w2 15 (54 + 0)) 15 (54 + 1))) 15 (3 * ru + 2) (up (up w2 15 (3 * ru + 0) (w2 15 (54 + 0))) 15 (3 * ru + 1) (up w2 15 (3 * ru + 0) (w2 15 (54 + 0)) 15 (54 + 1)) 15 (54 + 2)) := ⟨_, rfl⟩
  obtain ⟨w', q1, q2, q3⟩ := cp60 (w := w3) hru 5 0 w3 (by omega) (fun c k _ => rfl) (fun p hp => absurd hp (by omega))
  have e15 : ∀ j, j < 3 → w3 15 (3 * ru + j) = w 15 (54 + j) := by
    rw [hw3, hw2, hw1]
    refine three.mpr ⟨?_, ?_, ?_⟩
    · simp [up]
    · unfold up
      rw [if_neg (by omega), if_pos ⟨rfl, rfl⟩, if_neg (by omega), if_neg (by omega), if_neg (by omega)]
    · unfold up
      rw [if_pos ⟨rfl, rfl⟩, if_neg (by omega), if_neg (by omega), if_neg (by omega), if_neg (by omega)]
  have eo : ∀ c k, ¬ (c = 14 ∧ k = ru) → ¬ (c = 15 ∧ 3 * ru ≤ k ∧ k < 3 * ru + 3) → ¬ (c = 16 ∧ k = ru) → w3 c k = w c k := fun c k h1 h2 h3 => by
    rw [hw3, hw2, hw1]
    unfold up
    rw [if_neg (fun t => h2 (by omega)), if_neg (fun t => h2 (by omega)), if_neg (fun t => h2 (by omega)), if_neg h3, if_neg h1]
  have e14 : w3 14 ru = w 14 18 := by rw [hw3, hw2, hw1]; simp [up]
  have e16 : w3 16 ru = w 16 18 := by rw [hw3, hw2, hw1]; simp [up]
  refine ⟨w', ?_, fun c k hck => ?_, ⟨?_, fun p hp => ?_, ?_, fun c hc => ?_⟩, ?_⟩
  · unfold f_Re_copyDraft
    rw [gd_t ⟨by omega, by omega⟩, bl_s, gd_t ⟨by omega, by omega⟩, bl_s, Int.toNat_natCast, ← hw1, ← hw2]
    unfold f_Re_copyDraft_28
    rw [lp_step (F := fun z : (World × Int) => f_Re_copyDraft_28B z.1 (ru : Int) z.2) (s := (w2, (0 : Int))) b0, lp_step (F := fun z : (World × Int) => f_Re_copyDraft_28B z.1 (ru : Int) z.2) b1, lp_step (F := fun z : (World × Int) => f_Re_copyDraft_28B z.1 (ru : Int) z.2) b2, ← hw3]
    refine lp_out ?_
    show f_Re_copyDraft_28B w3 (ru : Int) ((2 + 1 : Nat) : Int) = _
    unfold f_Re_copyDraft_28B
    have q1 : f_Re_copyDraft_60 w3 (ru : Int) 0 = some w' := q1
    rw [if_pos (by decide), q1, bnd_s]
  · rw [q2 c k (by omega), eo c k (by omega) (by omega) (by omega)]
  · show (w' 16 ru).toNat = (w 16 18).toNat
    rw [q2 _ _ (by omega), e16]
  · obtain ⟨x1, x2, x3⟩ := q3 p (by omega)
    rw [eo _ _ (by omega) (by omega) (by omega)] at x1 x2
    exact ⟨x1, x2, fun c hc => by
      have := x3 c hc
      rw [eo _ _ (by omega) (by omega) (by omega)] at this
      exact this⟩
  · show w' 14 ru = w 14 18
    rw [q2 _ _ (by omega), e14]
  · show w' 15 (3 * ru + c) = w 15 (3 * 18 + c)
    rw [q2 _ _ (by omega), e15 c hc]
  · rw [q2 _ _ (by omega), e16]
