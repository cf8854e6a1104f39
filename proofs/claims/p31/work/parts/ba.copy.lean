/-! BOTH: a copy of the draft -/
def CpI (w w' : World) (b s k : Nat) : Prop := (∀ c, (c < b ∨ b + 3 < c) → w' c = w c) ∧ w' b 0 = (k : Int) ∧ w' b 2 = 0 ∧ ∀ p, p < k → w' (b + 1) p = w (s + 1) p ∧ w' (b + 2) p = w (s + 2) p ∧ ∀ c, c < 3 → w' (b + 3) (3 * p + c) = w (s + 3) (3 * p + c)
theorem psh_far {w : World} {b n c : Nat} {k s x y z : Int} (h : c < b ∨ b + 3 < c) : psh w b n k s x y z c = w c := by
  funext q
  unfold psh stT
  simp [up, show c ≠ b by omega, show c ≠ b + 1 by omega, show c ≠ b + 2 by omega, show c ≠ b + 3 by omega]
theorem copyA_n {w : World} {b s n : Nat} (hs : b + 3 < s) (hn : w s 0 = (n : Int)) (h5 : n ≤ 5) : ∃ w', f_Bo_copy w b s = some w' ∧ (∀ c, (c < b ∨ b + 3 < c) → w' c = w c) ∧ RE (RB w s) (RB w' b) ∧ w' b 0 = (n : Int) ∧ w' b 2 = 0 := by
  have hln : (RB w s).ln = n := by show (w s 0).toNat = n; rw [hn]; omega
  have go : ∀ (d k : Nat) (w' : World), k + d = n → CpI w w' b s k → ∃ w'', f_Bo_copy_11 w' b s (k : Int) = some w'' ∧ (∀ c, (c < b ∨ b + 3 < c) → w'' c = w c) ∧ RE (RB w s) (RB w'' b) ∧ w'' b 0 = (n : Int) ∧ w'' b 2 = 0 := by
    intro d
    induction d with
    | zero =>
      intro k w' hk hC
      obtain ⟨c1, c2, c3, c4⟩ := hC
      have hkn : k = n := by omega
      subst hkn
      have e0 : ∀ c, c < 3 → w' (s + 3) (3 * 5 + c) = w (s + 3) (3 * 5 + c) := fun c _ => by rw [c1 _ (by omega)]
      have t0 := termOf_n (w := w') (b := s) (p := 5) (c := 0) (by omega) (by omega)
      have t1 := termOf_n (w := w') (b := s) (p := 5) (c := 1) (by omega) (by omega)
      have t2 := termOf_n (w := w') (b := s) (p := 5) (c := 2) (by omega) (by omega)
      have t0 : f_Bo_termOf w' s 5 0 = some (w' (s + 3) 15) := t0
      have t1 : f_Bo_termOf w' s 5 1 = some (w' (s + 3) 16) := t1
      have t2 : f_Bo_termOf w' s 5 2 = some (w' (s + 3) 17) := t2
      refine ⟨stT (up w' b 1 (w' s 1)) b 5 (w' (s + 3) 15) (w' (s + 3) 16) (w' (s + 3) 17), ?_, fun c hc => ?_, ⟨?_, fun p hp => ⟨?_, ?_, fun c hc => ?_⟩, ?_, three.mpr ⟨?_, ?_, ?_⟩⟩, ?_, ?_⟩
      · unfold f_Bo_copy_11
        refine lp_out ?_
        show f_Bo_copy_11B w' b s (k : Int) = _
        unfold f_Bo_copy_11B
        rw [c1 s (by omega), hn, if_pos (Int.le_refl _), t0, bnd_s, t1, bnd_s, t2, bnd_s, setHead_n, bnd_s]
      · rw [← c1 c hc]
        funext q
        unfold stT
        simp [up, show c ≠ b by omega, show c ≠ b + 3 by omega]
      · rw [hln]
        show (stT (up w' b 1 (w' s 1)) b 5 (w' (s + 3) 15) (w' (s + 3) 16) (w' (s + 3) 17) b 0).toNat = k
        unfold stT
        simp [up]
        omega
      · show stT (up w' b 1 (w' s 1)) b 5 (w' (s + 3) 15) (w' (s + 3) 16) (w' (s + 3) 17) (b + 1) p = w (s + 1) p
        unfold stT
        simp [up]
        exact (c4 p (by omega)).1
      · show stT (up w' b 1 (w' s 1)) b 5 (w' (s + 3) 15) (w' (s + 3) 16) (w' (s + 3) 17) (b + 2) p = w (s + 2) p
        unfold stT
        simp [up]
        exact (c4 p (by omega)).2.1
      · show stT (up w' b 1 (w' s 1)) b 5 (w' (s + 3) 15) (w' (s + 3) 16) (w' (s + 3) 17) (b + 3) (3 * p + c) = w (s + 3) (3 * p + c)
        have h0 : 3 * p + c ≠ 15 := by omega
        have h1 : 3 * p + c ≠ 16 := by omega
        have h2 : 3 * p + c ≠ 17 := by omega
        unfold stT
        simp [up, h0, h1, h2]
        exact (c4 p (by omega)).2.2 c hc
      · show stT (up w' b 1 (w' s 1)) b 5 (w' (s + 3) 15) (w' (s + 3) 16) (w' (s + 3) 17) b 1 = w s 1
        unfold stT
        simp [up]
        rw [c1 s (by omega)]
      · show stT (up w' b 1 (w' s 1)) b 5 (w' (s + 3) 15) (w' (s + 3) 16) (w' (s + 3) 17) (b + 3) (15 + 0) = w (s + 3) (15 + 0)
        have := e0 0 (by omega)
        unfold stT
        simp [up]
        exact this
      · show stT (up w' b 1 (w' s 1)) b 5 (w' (s + 3) 15) (w' (s + 3) 16) (w' (s + 3) 17) (b + 3) (15 + 1) = w (s + 3) (15 + 1)
        have := e0 1 (by omega)
        unfold stT
        simp [up]
        exact this
      · show stT (up w' b 1 (w' s 1)) b 5 (w' (s + 3) 15) (w' (s + 3) 16) (w' (s + 3) 17) (b + 3) (15 + 2) = w (s + 3) (15 + 2)
        have := e0 2 (by omega)
        unfold stT
        simp [up]
        exact this
      · unfold stT
        simp [up]
        exact c2
      · unfold stT
        simp [up]
        exact c3
    | succ d ih =>
      intro k w' hk hC
      obtain ⟨c1, c2, c3, c4⟩ := id hC
      have hk5 : k < 5 := by omega
      have es : ∀ i q, i ≤ 3 → w' (s + i) q = w (s + i) q := fun i q hi => by rw [c1 (s + i) (by omega)]
      have ex := psh_ext (b := b) (k := w (s + 1) k) (s := w (s + 2) k) (x := w (s + 3) (3 * k + 0)) (y := w (s + 3) (3 * k + 1)) (z := w (s + 3) (3 * k + 2)) c2
      have hl : (RB w' b).ln = k := by show (w' b 0).toNat = k; rw [c2]; omega
      obtain ⟨x1, x2, x3, x4, x5⟩ := ex
      rw [hl] at x2 x3 x4 x5
      have t0 : f_Bo_termOf w' s (k : Int) 0 = some (w' (s + 3) (3 * k + 0)) := termOf_n (w := w') (b := s) (p := k) (c := 0) (by omega) (by omega)
      have t1 : f_Bo_termOf w' s (k : Int) 1 = some (w' (s + 3) (3 * k + 1)) := termOf_n (w := w') (b := s) (p := k) (c := 1) (by omega) (by omega)
      have t2 : f_Bo_termOf w' s (k : Int) 2 = some (w' (s + 3) (3 * k + 2)) := termOf_n (w := w') (b := s) (p := k) (c := 2) (by omega) (by omega)
      have hstep : f_Bo_copy_11B w' b s (k : Int) = some (Sum.inl (psh w' b k (w (s + 1) k) (w (s + 2) k) (w (s + 3) (3 * k + 0)) (w (s + 3) (3 * k + 1)) (w (s + 3) (3 * k + 2)), ((k + 1 : Nat) : Int))) := by
        unfold f_Bo_copy_11B
        rw [c1 s (by omega), hn, if_neg (by omega), formOf_n hk5, bnd_s, subjectOf_n hk5, bnd_s, t0, bnd_s, t1, bnd_s, t2, bnd_s, es 1 _ (by omega), es 2 _ (by omega), es 3 _ (by omega), es 3 _ (by omega), es 3 _ (by omega), push_n c2 hk5, bnd_s, bl_s, wr_of (x := (k : Int) + 1) ⟨by omega, by omega⟩]
        rfl
      obtain ⟨w'', r1, r2⟩ := ih (k + 1) (psh w' b k (w (s + 1) k) (w (s + 2) k) (w (s + 3) (3 * k + 0)) (w (s + 3) (3 * k + 1)) (w (s + 3) (3 * k + 2))) (by omega) (by
        refine ⟨fun c hc => (psh_far hc).trans (c1 c hc), ?_, ?_, fun p hp => ?_⟩
        · unfold psh; simp [up]
        · unfold psh stT; simp [up]; exact c3
        · by_cases q : p < k
          · obtain ⟨y1, y2, y3⟩ := x2 p q
            obtain ⟨z1, z2, z3⟩ := c4 p q
            exact ⟨y1.trans z1, y2.trans z2, fun c hc => (y3 c hc).trans (z3 c hc)⟩
          · have : p = k := by omega
            subst this
            exact ⟨x3, x4, three.mpr ⟨x5 0 (by omega), x5 1 (by omega), x5 2 (by omega)⟩⟩)
      refine ⟨w'', ?_, r2⟩
      unfold f_Bo_copy_11 at r1 ⊢
      rw [lp_step (F := fun z : (World × Int) => f_Bo_copy_11B z.1 b s z.2) hstep]
      exact r1
  obtain ⟨w', r1, r2⟩ := go n 0 (up (empW w b) b 2 0) (by omega) (by
    refine ⟨fun c hc => ?_, ?_, ?_, fun p hp => absurd hp (by omega)⟩
    · rw [← empW_far (w := w) hc]
      funext q
      simp [up, show c ≠ b by omega]
    · have := empW_0 (w := w) (b := b)
      simp [up, this]
    · simp [up])
  refine ⟨w', ?_, r2⟩
  unfold f_Bo_copy
  rw [empty_n, bnd_s, bl_s]
  exact r1
/-- the reference's world but for a row of rules -/
def FrCp (ru : Nat) (w w' : World) : Prop := ∀ c k, ¬ ((c = 14 ∧ k = ru) ∨ (c = 15 ∧ 3 * ru ≤ k ∧ k < 3 * ru + 3) ∨ (c = 16 ∧ k = ru) ∨ (c = 17 ∧ 5 * ru ≤ k ∧ k < 5 * ru + 5) ∨ (c = 18 ∧ 5 * ru ≤ k ∧ k < 5 * ru + 5) ∨ (c = 19 ∧ 15 * ru ≤ k ∧ k < 15 * ru + 15)) → w' c k = w c k
theorem cp105 {w : World} {ru p : Nat} (hru : ru < 18) (hp : p < 5) : ∃ w', f_Re_copyDraft_105 w (ru : Int) (p : Int) 0 = some (Sum.inl (w', ((p + 1 : Nat) : Int))) ∧ (∀ c k, ¬ (c = 19 ∧ 3 * (5 * ru + p) ≤ k ∧ k < 3 * (5 * ru + p) + 3) → w' c k = w c k) ∧ ∀ j, j < 3 → w' 19 (3 * (5 * ru + p) + j) = w 19 (3 * (90 + p) + j) := by
  have i0 : ∀ j : Nat, j < 3 → wr ((wr (3 * (wr (90 + (p : Int))))) + (j : Int)) = ((3 * (90 + p) + j : Nat) : Int) := fun j hj => by
    rw [wr_of (x := 90 + (p : Int)) ⟨by omega, by omega⟩, wr_of (x := 3 * (90 + (p : Int))) ⟨by omega, by omega⟩, wr_of (x := 3 * (90 + (p : Int)) + (j : Int)) ⟨by omega, by omega⟩]
    omega
  have i1 : ∀ j : Nat, j < 3 → wr ((wr (3 * (wr ((wr (5 * (ru : Int))) + (p : Int))))) + (j : Int)) = ((3 * (5 * ru + p) + j : Nat) : Int) := fun j hj => by
    rw [wr_of (x := 5 * (ru : Int)) ⟨by omega, by omega⟩, wr_of (x := 5 * (ru : Int) + (p : Int)) ⟨by omega, by omega⟩, wr_of (x := 3 * (5 * (ru : Int) + (p : Int))) ⟨by omega, by omega⟩, wr_of (x := 3 * (5 * (ru : Int) + (p : Int)) + (j : Int)) ⟨by omega, by omega⟩]
    omega
  have body : ∀ (w : World) (j : Nat), j < 3 → f_Re_copyDraft_105B w (ru : Int) (p : Int) (j : Int) = some (Sum.inl (up w 19 (3 * (5 * ru + p) + j) (w 19 (3 * (90 + p) + j)), ((j + 1 : Nat) : Int))) := fun w j hj => by
    unfold f_Re_copyDraft_105B
    rw [if_neg (by omega), i0 j hj, i1 j hj, gd_t ⟨by omega, by omega⟩, gd_t ⟨by omega, by omega⟩, bl_s, bl_s, wr_of (x := (j : Int) + 1) ⟨by omega, by omega⟩, Int.toNat_natCast, Int.toNat_natCast]
    rfl
  have b0 := body w 0 (by omega)
  have b0 : f_Re_copyDraft_105B w (ru : Int) (p : Int) 0 = _ := b0
  have b1 := body (up w 19 (3 * (5 * ru + p) + 0) (w 19 (3 * (90 + p) + 0))) 1 (by omega)
  have n1 : up w 19 (3 * (5 * ru + p) + 0) (w 19 (3 * (90 + p) + 0)) 19 (3 * (90 + p) + 1) = w 19 (3 * (90 + p) + 1) := by
    unfold up; rw [if_neg (by omega)]
  rw [n1] at b1
  have b2 := body (up (up w 19 (3 * (5 * ru + p) + 0) (w 19 (3 * (90 + p) + 0))) 19 (3 * (5 * ru + p) + 1) (w 19 (3 * (90 + p) + 1))) 2 (by omega)
  have n2 : up (up w 19 (3 * (5 * ru + p) + 0) (w 19 (3 * (90 + p) + 0))) 19 (3 * (5 * ru + p) + 1) (w 19 (3 * (90 + p) + 1)) 19 (3 * (90 + p) + 2) = w 19 (3 * (90 + p) + 2) := by
    unfold up; rw [if_neg (by omega), if_neg (by omega)]
  rw [n2] at b2
  refine ⟨up (up (up w 19 (3 * (5 * ru + p) + 0) (w 19 (3 * (90 + p) + 0))) 19 (3 * (5 * ru + p) + 1) (w 19 (3 * (90 + p) + 1))) 19 (3 * (5 * ru + p) + 2) (w 19 (3 * (90 + p) + 2)), ?_, fun c k hck => ?_, three.mpr ⟨?_, ?_, ?_⟩⟩
  · unfold f_Re_copyDraft_105
    rw [lp_step (F := fun z : (World × Int) => f_Re_copyDraft_105B z.1 (ru : Int) (p : Int) z.2) (s := (w, (0 : Int))) b0, lp_step (F := fun z : (World × Int) => f_Re_copyDraft_105B z.1 (ru : Int) (p : Int) z.2) b1, lp_step (F := fun z : (World × Int) => f_Re_copyDraft_105B z.1 (ru : Int) (p : Int) z.2) b2]
    refine lp_out ?_
    show f_Re_copyDraft_105B _ (ru : Int) (p : Int) ((2 + 1 : Nat) : Int) = _
    unfold f_Re_copyDraft_105B
    rw [if_pos (by decide), bl_s, wr_of (x := (p : Int) + 1) ⟨by omega, by omega⟩]
    rfl
  · unfold up
    rw [if_neg (fun t => hck (by omega)), if_neg (fun t => hck (by omega)), if_neg (fun t => hck (by omega))]
  · simp [up]
  · simp [up]
  · simp [up]
