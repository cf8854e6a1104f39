/-! BOTH: what holds between calls stays so under questions -/
theorem BMod_q {w w' : World} {M n : Nat} {ρ c : Nat → Nat} (h3 : ∀ k, 3 ≤ k → k ≤ 5 → w' k = w k) (h20 : w' 20 M = w 20 M) (h21 : ∀ s, s < 50 → w' 21 (50 * M + s) = w 21 (50 * M + s)) (h22 : ∀ s, s < 150 → w' 22 (150 * M + s) = w 22 (150 * M + s)) (hB : BMod w M n ρ c) : BMod w' M n ρ c := by
  obtain ⟨a1, a2, a3, a4, a5⟩ := hB
  have hSA : SA w' = SA w := SA_c5 h3
  refine ⟨a1, by rw [h20]; exact a2, a3, fun s hs => ?_, by rw [hSA]; exact a5⟩
  obtain ⟨b1, b2, b3, b4, b5⟩ := a4 s hs
  refine ⟨b1, by rw [h21 s (by omega)]; exact b2, fun j hj => ?_, b4, by rw [h3 3 (by omega) (by omega)]; exact b5⟩
  have e : 3 * (50 * M + s) + j = 150 * M + (3 * s + j) := by omega
  have := b3 j hj
  rw [e] at this ⊢
  rw [h22 _ (by omega)]
  exact this
theorem Vc_3 {w w' : World} (h3 : w' 3 = w 3) {r k : Nat} : Vc w' r k ↔ Vc w r k := by unfold Vc; rw [h3]
theorem FaB_c {nF : Nat} {w w' : World} (h : ∀ c, 2 ≤ c → c < 20 → w' c = w c) (h7 : w' 1 7 = w 1 7) (hF : FaB nF w) : FaB nF w' := by
  obtain ⟨h1, h2, h3⟩ := hF
  refine ⟨by rw [h7]; exact h1, h2, fun f hf => ?_⟩
  obtain ⟨r, k, a1, a2, a3, a4, a5, a6⟩ := h3 f hf
  exact ⟨r, k, by rw [h 7 (by omega) (by omega)]; exact a1, a2, by rw [h 3 (by omega) (by omega)]; exact a3, by rw [h 8 (by omega) (by omega)]; exact a4, a5, (Vc_3 (h 3 (by omega) (by omega))).mpr a6⟩
theorem FFB_c {nF : Nat} {w w' : World} (h : ∀ c, 2 ≤ c → c < 20 → w' c = w c) {hour wo : Int} : FFB nF w' hour wo = FFB nF w hour wo := by
  unfold FFB FcB
  rw [h 12 (by omega) (by omega), h 10 (by omega) (by omega), h 11 (by omega) (by omega), h 7 (by omega) (by omega), h 8 (by omega) (by omega)]
theorem FCA_c {nF : Nat} {w w' : World} (h : ∀ c, c < 98 → w' c = w c) {hour : Int} : FCA nF w' hour = FCA nF w hour := by
  unfold FCA
  funext r k v
  refine propext (exists_congr fun f => and_congr Iff.rfl (and_congr (FaC_congr h) ?_))
  rw [h 8 (by omega), h 9 (by omega), h 10 (by omega)]
theorem RuA_c {w w' : World} {b : Nat} (h : ∀ c, c < 98 → w' c = w c) (hb : b + 3 < 98) (hR : RuA w b) : RuA w' b := by
  have e : RB w' b = RB w b := RB_congr (h _ (by omega)) (h _ (by omega)) (h _ (by omega)) (h _ (by omega))
  have hSA : SA w' = SA w := SA_c5 (fun c _ _ => h c (by omega))
  unfold RuA
  rw [e, hSA, h b (by omega)]
  exact hR
theorem RBA_c {w w' : World} {b : Nat} (h : ∀ c, c < 98 → w' c = w c) (hb : b + 3 < 98) : RB w' b = RB w b := RB_congr (h _ (by omega)) (h _ (by omega)) (h _ (by omega)) (h _ (by omega))
theorem RrA_c {m : Nat} {w w' : World} (hm : m ≤ 12) (h : ∀ c, c < 98 → w' c = w c) : RrA m w' = RrA m w := by
  unfold RrA Rof
  funext R
  refine propext (exists_congr fun i => and_congr_right fun hi => ?_)
  unfold FA GA
  rw [RBA_c h (by omega), h _ (by omega)]
theorem RrB_c {m : Nat} {w w' : World} (h : ∀ c, 2 ≤ c → c < 20 → w' c = w c) : RrB m w' = RrB m w := by
  unfold RrB Rof
  funext R
  refine propext (exists_congr fun i => and_congr_right fun hi => ?_)
  unfold FB GB
  rw [RBB_congr (fun c a b => h c (by omega) (by omega)) i, h 13 (by omega) (by omega)]
theorem RuB_c {w w' : World} {ru : Nat} (h : ∀ c, 2 ≤ c → c < 20 → w' c = w c) (hR : RuB w ru) : RuB w' ru := by
  obtain ⟨h1, h2, h3, h4⟩ := hR
  have e : RBB w' ru = RBB w ru := RBB_congr (fun c a b => h c (by omega) (by omega)) ru
  have hSA : SA w' = SA w := SA_c5 (fun c a b => h c (by omega) (by omega))
  exact ⟨h1, WfT_congr (fun c a b => h c (by omega) (by omega)) h2, by rw [e, h 16 (by omega) (by omega)]; exact h3, by rw [e, hSA]; exact h4⟩
theorem RuBL_c {w w' : World} {ru : Nat} (h : ∀ c, 2 ≤ c → c < 20 → w' c = w c) (hR : RuBL w ru) : RuBL w' ru := by
  obtain ⟨h1, h2, h3, h4⟩ := hR
  have e : RBB w' ru = RBB w ru := RBB_congr (fun c a b => h c (by omega) (by omega)) ru
  have hSA : SA w' = SA w := SA_c5 (fun c a b => h c (by omega) (by omega))
  exact ⟨h1, WfT_congr (fun c a b => h c (by omega) (by omega)) h2, by rw [e, h 16 (by omega) (by omega)]; exact h3, by rw [e, hSA]; exact h4⟩
theorem DnA_c {w w' : World} {b : Nat} (h : ∀ c, c < 98 → w' c = w c) (hb : b + 3 < 98) (hR : DnA w b) : DnA w' b := by
  have hSA : SA w' = SA w := SA_c5 (fun c _ _ => h c (by omega))
  unfold DnA
  rw [RBA_c h hb, hSA, h b (by omega)]
  exact hR
/-- the lower cells as they were: what of the invariant is of them -/
theorem Inv_low {nF m d now top : Nat} {L g : Nat → Nat} {wA wB wA' wB' : World} (hA : ∀ c, c < 98 → wA' c = wA c) (hB : ∀ c, 2 ≤ c → c < 20 → wB' c = wB c) (hB1 : ∀ k, k ≠ 0 → k ≠ 29 → k ≠ 30 → k ≠ 32 → k ≠ 35 → wB' 1 k = wB 1 k) (hI : Inv nF m d now top L g wA wB) :
    ISch wA' wB' ∧ IFac nF wA' wB' ∧ IRul m wA' wB' ∧ IDen d wA' wB' ∧ IDrf wA' wB' ∧ (wA' 1 12 = (now : Int) ∧ wB' 1 1 = (now : Int) ∧ now < 4) ∧ ILev m L top wA' wB' := by
  obtain ⟨i1, i2, i3, i4, i5, i6, i7, -⟩ := hI
  have hm : m ≤ 12 := i3.1.2.2.1
  refine ⟨⟨WfS_congr (fun c a b k => by rw [hA c (by omega)]) i1.1, ?_⟩, ?_, ?_, ?_, ?_, ⟨by rw [hA 1 (by omega)]; exact i6.1, by rw [hB1 1 (by omega) (by omega) (by omega) (by omega) (by omega)]; exact i6.2.1, i6.2.2⟩, ?_⟩
  · rw [hB 3 (by omega) (by omega), hB 4 (by omega) (by omega), hB 5 (by omega) (by omega), hB 2 (by omega) (by omega), hA 3 (by omega), hA 4 (by omega), hA 5 (by omega)]
    exact i1.2
  · obtain ⟨f1, f2, f3, f4⟩ := i2
    refine ⟨FaW_congr hA f1, FaB_c hB (hB1 7 (by omega) (by omega) (by omega) (by omega) (by omega)) f2, ?_, ?_⟩
    · rw [hB 7 (by omega) (by omega), hB 8 (by omega) (by omega), hB 9 (by omega) (by omega), hB 10 (by omega) (by omega), hB 11 (by omega) (by omega), hB 12 (by omega) (by omega), hA 8 (by omega), hA 9 (by omega), hA 10 (by omega), hA 11 (by omega), hA 12 (by omega), hA 13 (by omega)]
      exact f3
    · rw [hA 7 (by omega), hA 13 (by omega)]
      exact f4
  · obtain ⟨r1, r2, r3⟩ := i3
    refine ⟨?_, ?_, fun j hj => ?_⟩
    · obtain ⟨p1, p2, p3, p4, p5⟩ := r1
      exact ⟨WfS_congr (fun c a b k => by rw [hA c (by omega)]) p1, by rw [hA 14 (by omega)]; exact p2, p3, by rw [hA 19 (by omega)]; exact p4, fun j hj => RuA_c hA (by omega) (p5 j hj)⟩
    · obtain ⟨p1, p2, p3⟩ := r2
      refine ⟨by rw [hB1 14 (by omega) (by omega) (by omega) (by omega) (by omega)]; exact p1, p2, fun j hj => ⟨RuB_c hB (p3 j hj).1, ?_⟩⟩
      rw [RBB_congr (fun c a b => hB c (by omega) (by omega)) j]
      exact (p3 j hj).2
    · rw [RBA_c hA (by omega), RBB_congr (fun c a b => hB c (by omega) (by omega)) j, hB 13 (by omega) (by omega), hA _ (by omega)]
      exact r3 j hj
  · obtain ⟨d1, d2, d3, d4, d5⟩ := i4
    refine ⟨by rw [hA 14 (by omega)]; exact d1, by rw [hB1 15 (by omega) (by omega) (by omega) (by omega) (by omega)]; exact d2, d3, by rw [hA 20 (by omega)]; exact d4, fun j hj => ?_⟩
    obtain ⟨e1, e2, e3, e4, e5⟩ := d5 j hj
    rw [RBA_c hA (by omega), RBB_congr (fun c a b => hB c (by omega) (by omega)) (12 + j)]
    exact ⟨DnA_c hA (by omega) e1, RuBL_c hB e2, e3, e4, e5⟩
  · obtain ⟨e1, e2, e3, e4, e5, e6⟩ := i5
    have hr := RBA_c (b := 94) hA (by omega)
    have hr2 := RBB_congr (fun c a b => hB c (by omega) (by omega)) 18
    unfold IDrf
    rw [hr, hr2, hB 14 (by omega) (by omega), hA 94 (by omega), hA 3 (by omega)]
    exact ⟨DnA_c hA (by omega) e1, RuBL_c hB e2, e3, e4, e5, e6⟩
  · obtain ⟨l1, l2, l3, l4⟩ := i7
    refine ⟨?_, ?_, l3, ?_⟩
    · unfold LA
      rw [hA 21 (by omega), hA 14 (by omega)]
      exact l1
    · unfold LB
      rw [hB 6 (by omega) (by omega)]
      exact l2
    · rw [RrA_c hm hA, SA_c5 (fun c _ _ => hA c (by omega))]
      exact l4
theorem IHou_c {nF m now h : Nat} {L g : Nat → Nat} {wA wB wA' wB' : World} (hm : m ≤ 12) (hg : 107 ≤ g h ∧ g h + 4 < 150) (h4 : h < 4) (hA : ∀ c, c < 98 → wA' c = wA c) (hB : ∀ c, 2 ≤ c → c < 20 → wB' c = wB c) (hAg : ∀ c, g h ≤ c → c ≤ g h + 4 → wA' c = wA c) (hA150 : wA' 150 = wA 150 ∧ wA' 151 = wA 151) (h20 : wB' 20 h = wB 20 h) (h21 : ∀ s, s < 50 → wB' 21 (50 * h + s) = wB 21 (50 * h + s)) (h22 : ∀ s, s < 150 → wB' 22 (150 * h + s) = wB 22 (150 * h + s)) (hI : IHou nF m L g wA wB now h) : IHou nF m L g wA' wB' now h := by
  obtain ⟨N, ρ, c, Lc, n, ρ', c', a1, a2, a3, a4, a5, a6, a7, a8, a9⟩ := hI
  have hSA : SA wA' = SA wA := SA_c5 (fun c _ _ => hA c (by omega))
  have hSB : SA wB' = SA wB := SA_c5 (fun c _ _ => hB c (by omega) (by omega))
  refine ⟨N, ρ, c, Lc, n, ρ', c', AMod_congr (fun c _ _ => hA c (by omega)) hAg a1, VCs_3 (hA 3 (by omega)) a2, by rw [hAg _ (Nat.le_refl _) (by omega)]; exact a3, ?_, BMod_q (fun c _ _ => hB c (by omega) (by omega)) h20 h21 h22 a5, VCs_3 (hB 3 (by omega) (by omega)) a6, a7, ?_, ?_⟩
  · rw [hSA, FFA_congr hA, RrA_c hm hA]
    exact a4
  · rw [hSB, FFB_c hB, RrB_c hB]
    exact a8
  · rw [hA150.1, hA150.2, hSA, FCA_c hA, RrA_c hm hA]
    exact a9
theorem IRef.rng {g : Nat → Nat} {wA : World} (h : IRef g wA) {i : Nat} (hi : i < 8) : 110 ≤ g i ∧ g i + 4 < 150 ∧ kdA (g i) = 6 := by
  obtain ⟨j, hj, e⟩ := h.1 i hi
  have : ∀ j, j < 8 → kdA (110 + 5 * j) = 6 := by decide +kernel
  rw [e]
  exact ⟨by omega, by omega, this j hj⟩
theorem IRef.apart {g : Nat → Nat} {wA : World} (h : IRef g wA) {i j : Nat} (hi : i < 8) (hj : j < 8) (hne : i ≠ j) : g i + 4 < g j ∨ g j + 4 < g i := by
  obtain ⟨a, ha, ea⟩ := h.1 i hi
  obtain ⟨b, hb, eb⟩ := h.1 j hj
  have : g i ≠ g j := fun e => hne (h.2.1 i j hi hj e)
  omega
theorem Inv_q {nF m d now top : Nat} {L g : Nat → Nat} {wA wB wA' wB' : World} (hA : QAr wA wA') (hB : QBr wB wB') (hI : Inv nF m d now top L g wA wB) : Inv nF m d now top L g wA' wB' := by
  have hA98 : ∀ c, c < 98 → wA' c = wA c := fun c hc => hA.1 c (Or.inl hc)
  have hB20 : ∀ c, 2 ≤ c → c < 20 → wB' c = wB c := fun c h1 h2 => funext fun k => hB.1 c k (Or.inl h2) (fun z => by omega)
  have hlow := Inv_low hA98 hB20 (fun k h0 h29 h30 h32 h35 => hB.1 1 k (Or.inl (by omega)) (fun z => by omega)) hI
  obtain ⟨i1, i2, i3, i4, i5, i6, i7, i8, i9, i10, i11⟩ := hI
  obtain ⟨l1, l2, l3, l4, l5, l6, l7⟩ := hlow
  refine ⟨l1, l2, l3, l4, l5, l6, l7, ?_, fun h h4 => ?_, hA.2, hB.2.2.2.2⟩
  · refine ⟨i8.1, i8.2.1, ?_⟩
    rw [hA.1 108 (Or.inr (by omega)), hA.1 109 (Or.inr (by omega))]
    exact i8.2.2
  · have hg := i8.rng (i := h) (by omega)
    exact IHou_c i3.1.2.2.1 ⟨by omega, hg.2.1⟩ h4 hA98 hB20 (fun c _ _ => hA.1 c (Or.inr (by omega))) ⟨hA.1 150 (Or.inr (by omega)), hA.1 151 (Or.inr (by omega))⟩ (hB.2.1 h (by omega)) (fun s hs => hB.2.2.1 _ (by omega)) (fun s hs => hB.2.2.2.1 _ (by omega)) (i9 h h4)
theorem QAr.refl {w : World} (h : VV (w 104)) : QAr w w := ⟨fun _ _ => rfl, h⟩
theorem QBr.refl {w : World} (h : VB w) : QBr w w := ⟨fun _ _ _ _ => rfl, fun _ _ => rfl, fun _ _ => rfl, fun _ _ => rfl, h⟩
theorem QBr.trans {w w' w'' : World} (h : QBr w w') (h' : QBr w' w'') : QBr w w'' := ⟨fun c k a b => (h'.1 c k a b).trans (h.1 c k a b), fun k a => (h'.2.1 k a).trans (h.2.1 k a), fun k a => (h'.2.2.1 k a).trans (h.2.2.1 k a), fun k a => (h'.2.2.2.1 k a).trans (h.2.2.2.1 k a), h'.2.2.2.2⟩
theorem QAr.trans {w w' w'' : World} (h : QAr w w') (h' : QAr w' w'') : QAr w w'' := ⟨fun c a => (h'.1 c a).trans (h.1 c a), h'.2⟩
theorem FrR.QB {w w' : World} (h : FrR 4 w w') (hV : VB w') : QBr w w' := ⟨fun c k a b => h.1 c k (by omega) (by omega) (by omega) (by omega) (by omega) (by omega) (fun z => b (by omega)), h.2.1, fun k hk => h.2.2.1 k (by omega), fun k hk => h.2.2.2 k (by omega), hV⟩
/-- the reference says which exception -/
theorem refused_n {w : World} {x : Int} : f_Re_refused w x = some (up w 1 0 x, if x = 0 then 0 else 1) := by
  unfold f_Re_refused
  rw [bl_s]
  by_cases q : x = 0
  · rw [if_pos q, if_pos q]
  · rw [if_neg q, if_neg q]
theorem thrown_n {w : World} {x : Int} : f_Re_thrown (up w 1 0 x) = some x := by
  unfold f_Re_thrown
  simp [up]
theorem up10_Q {w : World} {x : Int} (h : VB w) : QBr w (up w 1 0 x) := by
  refine ⟨fun c k _ b => ?_, fun k _ => ?_, fun k _ => ?_, fun k _ => ?_, fun v hv => ?_⟩
  · unfold up
    rw [if_neg (fun z => b ⟨z.1, Or.inl z.2⟩)]
  · simp [up]
  · simp [up]
  · simp [up]
  · have e24 : up w 1 0 x 24 v = w 24 v := by simp [up]
    have e23 : up w 1 0 x 23 v = w 23 v := by simp [up]
    rw [e24] at hv
    rw [e23]
    exact h v hv
