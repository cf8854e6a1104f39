/-! BOTH: enter -/
/-- a rule more -/
theorem LowR_row {nF m d now : Nat} {wA wB wA' wB' : World} (hm : m < 12) (hA : ∀ c, c < 98 → c ≠ 14 → (c < 22 + 4 * m ∨ 22 + 4 * m + 3 < c) → wA' c = wA c) (hA14 : ∀ k, k ≠ 4 → wA' 14 k = wA 14 k) (hA4 : wA' 14 4 = ((m + 1 : Nat) : Int)) (hB : ∀ c, 2 ≤ c → c < 13 → wB' c = wB c) (hB13 : ∀ k, k ≠ m → wB' 13 k = wB 13 k) (hB1 : ∀ k, k = 1 ∨ k = 7 ∨ k = 15 → wB' 1 k = wB 1 k) (hB14 : wB' 1 14 = ((m + 1 : Nat) : Int)) (hRow : ∀ ru, ru ≠ m → ru < 19 → (RBB wB ru).ln ≤ 5 → RE (RBB wB ru) (RBB wB' ru) ∧ wB' 16 ru = wB 16 ru) (hnA : RuA wA' (22 + 4 * m)) (hnB : RuB wB' m ∧ Rng (RBB wB' m)) (hn : RE (RB wA' (22 + 4 * m)) (RBB wB' m) ∧ wB' 13 m = wA' (22 + 4 * m) 2 ∧ (wA' (22 + 4 * m) 2 = 0 ∨ wA' (22 + 4 * m) 2 = 1) ∧ SafeL (RB wA' (22 + 4 * m)) ∧ SafeH (RB wA' (22 + 4 * m)) ∧ Few (RB wA' (22 + 4 * m))) (h : LowR nF m d now wA wB) : LowR nF (m + 1) d now wA' wB' := by
  obtain ⟨i1, i2, i3, i4, i5, i6⟩ := h
  have hRB : ∀ b, b % 4 = 2 → 22 ≤ b → b ≠ 22 + 4 * m → b + 3 < 98 → RB wA' b = RB wA b := fun b h1 h2 h3 h4 => RB_congr (hA _ (by omega) (by omega) (by omega)) (hA _ (by omega) (by omega) (by omega)) (hA _ (by omega) (by omega) (by omega)) (hA _ (by omega) (by omega) (by omega))
  have hSA : SA wA' = SA wA := SA_c5 (fun c a b => hA c (by omega) (by omega) (by omega))
  have c35 : ∀ c, 3 ≤ c → c ≤ 5 → wB' c = wB c := fun c h1 h2 => hB c (by omega) (by omega)
  have dn : ∀ b, b % 4 = 2 → 22 ≤ b → b ≠ 22 + 4 * m → b + 3 < 98 → DnA wA b → DnA wA' b := fun b h1 h2 h3 h4 h => by
    unfold DnA
    rw [hRB b h1 h2 h3 h4, hSA, hA b (by omega) (by omega) (by omega)]
    exact h
  refine ⟨⟨WfS_congr (fun c a b k => by rw [hA c (by omega) (by omega) (by omega)]) i1.1, ?_⟩, ?_, ?_, ?_, ?_, by rw [hA 1 (by omega) (by omega) (by omega), hB1 1 (by omega)]; exact i6⟩
  · rw [hB 3 (by omega) (by omega), hB 4 (by omega) (by omega), hB 5 (by omega) (by omega), hB 2 (by omega) (by omega), hA 3 (by omega) (by omega) (by omega), hA 4 (by omega) (by omega) (by omega), hA 5 (by omega) (by omega) (by omega)]
    exact i1.2
  · exact IFac_congr (hA 3 (by omega) (by omega) (by omega)) (fun c _ _ => hA c (by omega) (by omega) (by omega)) (hB 3 (by omega) (by omega)) (fun c _ _ => hB c (by omega) (by omega)) (hB1 7 (by omega)) i2
  · obtain ⟨r1, r2, r3⟩ := i3
    refine ⟨?_, ?_, fun i hi => ?_⟩
    · obtain ⟨p1, p2, p3, p4, p5⟩ := r1
      refine ⟨WfS_congr (fun c a b k => by rw [hA c (by omega) (by omega) (by omega)]) p1, hA4, by omega, by rw [hA 19 (by omega) (by omega) (by omega)]; exact p4, fun i hi => ?_⟩
      by_cases q : i = m
      · subst q; exact hnA
      · unfold RuA
        rw [hRB _ (by omega) (by omega) (by omega) (by omega), hSA, hA _ (by omega) (by omega) (by omega)]
        exact p5 i (by omega)
    · obtain ⟨p1, p2, p3⟩ := r2
      refine ⟨hB14, by omega, fun i hi => ?_⟩
      by_cases q : i = m
      · subst q; exact hnB
      · obtain ⟨e, e16⟩ := hRow i q (by omega) (p3 i (by omega)).1.2.2.2.1
        exact ⟨RuB_E e e16 c35 (p3 i (by omega)).1, Rng_E e (p3 i (by omega)).2⟩
    · by_cases q : i = m
      · subst q; exact hn
      · obtain ⟨y1, y2, y3, y4⟩ := r3 i (by omega)
        obtain ⟨e, e16⟩ := hRow i q (by omega) (r2.2.2 i (by omega)).1.2.2.2.1
        rw [hRB _ (by omega) (by omega) (by omega) (by omega), hB13 i q, hA _ (by omega) (by omega) (by omega)]
        exact ⟨y1.trans e, y2, y3, y4⟩
  · obtain ⟨d1, d2, d3, d4, d5⟩ := i4
    refine ⟨by rw [hA14 5 (by omega)]; exact d1, by rw [hB1 15 (by omega)]; exact d2, d3, by rw [hA 20 (by omega) (by omega) (by omega)]; exact d4, fun i hi => ?_⟩
    obtain ⟨e1, e2, e3, e4, e5⟩ := d5 i hi
    obtain ⟨e, e16⟩ := hRow (12 + i) (by omega) (by omega) e2.2.2.2.1
    refine ⟨dn _ (by omega) (by omega) (by omega) (by omega) e1, RuBL_E e.T e16 c35 e2, ?_⟩
    rw [hRB _ (by omega) (by omega) (by omega) (by omega)]
    exact ⟨e3.trans e.T, e4, e5⟩
  · obtain ⟨e1, e2, e3, e4, e5, e6⟩ := i5
    obtain ⟨e, e16⟩ := hRow 18 (by omega) (by omega) e2.2.2.2.1
    have h14 : wB' 14 18 = wB 14 18 := e.2.2.1
    refine ⟨dn _ (by omega) (by omega) (by omega) (by omega) e1, RuBL_E e.T e16 c35 e2, ?_⟩
    rw [hRB 94 (by omega) (by omega) (by omega) (by omega), hA 94 (by omega) (by omega) (by omega), hA 3 (by omega) (by omega) (by omega), h14]
    exact ⟨e3.trans e.T, e4, e5, e6.imp (fun h => h) (fun h => ⟨h.1, fun c hc => ⟨by rw [e.2.2.2 c hc]; exact (h.2 c hc).1, (h.2 c hc).2⟩⟩)⟩
/-- the last rule taken back -/
theorem LowR_cut {nF m d now : Nat} {wA wB : World} (h : LowR nF (m + 1) d now wA wB) : LowR nF m d now (up wA 14 4 (m : Int)) (up wB 1 14 (m : Int)) := by
  obtain ⟨i1, i2, i3, i4, i5, i6⟩ := h
  have hA : ∀ c, c ≠ 14 → up wA 14 4 (m : Int) c = wA c := fun c hc => by funext k; simp [up, hc]
  have hB : ∀ c, c ≠ 1 → up wB 1 14 (m : Int) c = wB c := fun c hc => by funext k; simp [up, hc]
  have hA14 : ∀ k, k ≠ 4 → up wA 14 4 (m : Int) 14 k = wA 14 k := fun k hk => by simp [up, hk]
  have hB1 : ∀ k, k ≠ 14 → up wB 1 14 (m : Int) 1 k = wB 1 k := fun k hk => by simp [up, hk]
  have hRB : ∀ b, 15 ≤ b → RB (up wA 14 4 (m : Int)) b = RB wA b := fun b hb => RB_congr (hA _ (by omega)) (hA _ (by omega)) (hA _ (by omega)) (hA _ (by omega))
  have hRBB : ∀ j, RBB (up wB 1 14 (m : Int)) j = RBB wB j := fun j => RBB_congr (fun c a b => hB c (by omega)) j
  have hSA : SA (up wA 14 4 (m : Int)) = SA wA := SA_c5 (fun c a b => hA c (by omega))
  have hE : ∀ j, RE (RBB wB j) (RBB (up wB 1 14 (m : Int)) j) := fun j => by rw [hRBB]; exact RE.refl
  have h16 : ∀ j, up wB 1 14 (m : Int) 16 j = wB 16 j := fun j => by rw [hB 16 (by omega)]
  have c35 : ∀ c, 3 ≤ c → c ≤ 5 → up wB 1 14 (m : Int) c = wB c := fun c h1 h2 => hB c (by omega)
  have dn : ∀ b, 15 ≤ b → DnA wA b → DnA (up wA 14 4 (m : Int)) b := fun b h1 h => by
    unfold DnA
    rw [hRB b h1, hSA, hA b (by omega)]
    exact h
  refine ⟨⟨WfS_congr (fun c a b k => by rw [hA c (by omega)]) i1.1, ?_⟩, ?_, ?_, ?_, ?_, by rw [hA 1 (by omega), hB1 1 (by omega)]; exact i6⟩
  · rw [hB 3 (by omega), hB 4 (by omega), hB 5 (by omega), hB 2 (by omega), hA 3 (by omega), hA 4 (by omega), hA 5 (by omega)]
    exact i1.2
  · exact IFac_congr (hA 3 (by omega)) (fun c _ _ => hA c (by omega)) (hB 3 (by omega)) (fun c _ _ => hB c (by omega)) (hB1 7 (by omega)) i2
  · obtain ⟨r1, r2, r3⟩ := i3
    refine ⟨?_, ?_, fun i hi => ?_⟩
    · obtain ⟨p1, p2, p3, p4, p5⟩ := r1
      refine ⟨WfS_congr (fun c a b k => by rw [hA c (by omega)]) p1, by simp [up], by omega, by rw [hA 19 (by omega)]; exact p4, fun i hi => ?_⟩
      unfold RuA
      rw [hRB _ (by omega), hSA, hA _ (by omega)]
      exact p5 i (by omega)
    · obtain ⟨p1, p2, p3⟩ := r2
      exact ⟨by simp [up], by omega, fun i hi => ⟨RuB_E (hE i) (h16 i) c35 (p3 i (by omega)).1, Rng_E (hE i) (p3 i (by omega)).2⟩⟩
    · rw [hRB _ (by omega), hRBB, hB 13 (by omega), hA _ (by omega)]
      exact r3 i (by omega)
  · obtain ⟨d1, d2, d3, d4, d5⟩ := i4
    refine ⟨by rw [hA14 5 (by omega)]; exact d1, by rw [hB1 15 (by omega)]; exact d2, d3, by rw [hA 20 (by omega)]; exact d4, fun i hi => ?_⟩
    obtain ⟨e1, e2, e3, e4, e5⟩ := d5 i hi
    refine ⟨dn _ (by omega) e1, RuBL_E (hE _).T (h16 _) c35 e2, ?_⟩
    rw [hRB _ (by omega), hRBB]
    exact ⟨e3, e4, e5⟩
  · obtain ⟨e1, e2, e3, e4, e5, e6⟩ := i5
    refine ⟨dn _ (by omega) e1, RuBL_E (hE _).T (h16 _) c35 e2, ?_⟩
    rw [hRB 94 (by omega), hRBB, hB 14 (by omega), hA 94 (by omega), hA 3 (by omega)]
    exact ⟨e3, e4, e5, e6⟩
theorem Inv_nil {nF m d now top : Nat} {L g : Nat → Nat} {wA wB : World} (hI : Inv nF m d now top L g wA wB) : Inv nF m d now top L g (empW wA 94) (up (up wB 16 18 0) 14 18 (-1)) := by
  have hT : WfT (up (up wB 16 18 0) 14 18 (-1)) := WfT_congr (fun c a b => by funext q; simp [up, show c ≠ 14 by omega, show c ≠ 16 by omega]) hI.1.T
  refine Inv_draft (fun c hc => empW_far (by omega)) (fun c q hcq => ?_) hI (IDrf_nil hT empW_0 empW_1 (by simp [up]) (by simp [up]))
  unfold up
  rw [if_neg (fun t => hcq (by omega)), if_neg (fun t => hcq (by omega))]
theorem RrA_rows {m : Nat} {w w' : World} (h : ∀ j, j < m → RB w' (22 + 4 * j) = RB w (22 + 4 * j) ∧ w' (22 + 4 * j) 2 = w (22 + 4 * j) 2) : RrA m w' = RrA m w := by
  unfold RrA Rof
  funext R
  refine propext (exists_congr fun i => and_congr_right fun hi => ?_)
  unfold FA GA
  rw [(h i hi).1, (h i hi).2]
