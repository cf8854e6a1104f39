/-! BOTH: the draft of a rule -/
/-- the class's world but for the draft -/
def FrDA (w w' : World) : Prop := ∀ c, (c < 94 ∨ 97 < c) → w' c = w c
/-- the reference's world but for the draft and which exception -/
def FrDB (w w' : World) : Prop := ∀ c k, ¬ ((c = 1 ∧ k = 0) ∨ (c = 14 ∧ k = 18) ∨ (c = 15 ∧ 54 ≤ k) ∨ (c = 16 ∧ k = 18) ∨ (c = 17 ∧ 90 ≤ k) ∨ (c = 18 ∧ 90 ≤ k) ∨ (c = 19 ∧ 270 ≤ k)) → w' c k = w c k
theorem FrDB.cell {w w' : World} (h : FrDB w w') {c : Nat} (hc : c ≠ 1 ∧ c ≠ 14 ∧ c ≠ 15 ∧ c ≠ 16 ∧ c ≠ 17 ∧ c ≠ 18 ∧ c ≠ 19) : w' c = w c := funext fun k => h c k (by omega)
theorem FrDB.f {w w' : World} (h : FrDB w w') {k : Nat} (hk : k ≠ 0) : w' 1 k = w 1 k := h 1 k (by omega)
/-- rows of rules ahead of the draft -/
theorem FrDB.RE {w w' : World} (h : FrDB w w') {ru : Nat} (hru : ru < 18) (h5 : (RBB w ru).ln ≤ 5) : RE (RBB w ru) (RBB w' ru) := by
  refine ⟨?_, fun p hp => ⟨?_, ?_, fun c hc => ?_⟩, ?_, fun c hc => ?_⟩
  · show (w' 16 ru).toNat = (w 16 ru).toNat
    rw [h 16 ru (by omega)]
  · show w' 17 (5 * ru + p) = w 17 (5 * ru + p)
    exact h 17 _ (by omega)
  · show w' 18 (5 * ru + p) = w 18 (5 * ru + p)
    exact h 18 _ (by omega)
  · show w' 19 (3 * (5 * ru + p) + c) = w 19 (3 * (5 * ru + p) + c)
    exact h 19 _ (by omega)
  · show w' 14 ru = w 14 ru
    exact h 14 ru (by omega)
  · show w' 15 (3 * ru + c) = w 15 (3 * ru + c)
    exact h 15 _ (by omega)
theorem RuB_E {w w' : World} {ru : Nat} (hE : RE (RBB w ru) (RBB w' ru)) (h16 : w' 16 ru = w 16 ru) (hc : ∀ c, 3 ≤ c → c ≤ 5 → w' c = w c) (h : RuB w ru) : RuB w' ru := by
  obtain ⟨h1, h2, h3, h4⟩ := h
  exact ⟨h1, WfT_congr hc h2, by rw [h16, h3, hE.1], by rw [SA_c5 hc]; exact hE.wf h4⟩
theorem RuBL_E {w w' : World} {ru : Nat} (hE : EqT (RBB w ru) (RBB w' ru)) (h16 : w' 16 ru = w 16 ru) (hc : ∀ c, 3 ≤ c → c ≤ 5 → w' c = w c) (h : RuBL w ru) : RuBL w' ru := by
  obtain ⟨h1, h2, h3, h4⟩ := h
  exact ⟨h1, WfT_congr hc h2, by rw [h16, h3, hE.1], by rw [SA_c5 hc]; exact hE.wf h4⟩
theorem Rng_E {R R' : RU} (e : RE R R') (h : Rng R) : Rng R' := by
  refine ⟨by rw [e.2.2.1]; exact h.1, fun p hp hf => ?_⟩
  rw [e.1] at hp
  obtain ⟨x, y, z⟩ := e.2.1 p hp
  rw [x] at hf
  rw [y]
  exact h.2 p hp hf
theorem EqT.trans {R R' R'' : RU} (h : EqT R R') (h' : EqT R' R'') : EqT R R'' := ⟨h'.1.trans h.1, fun p hp => by have a := h.2 p hp; have b := h'.2 p (by rw [h.1]; exact hp); exact ⟨b.1.trans a.1, b.2.1.trans a.2.1, fun c hc => (b.2.2 c hc).trans (a.2.2 c hc)⟩⟩
theorem CostP_RS {D : SH} {FC : Int → Nat → Nat → Prop} {RR RR' : RU → Prop} {M : MM} {C : Int → Nat → Nat} (h : RS RR RR') (hC : CostP D FC RR M C) : CostP D FC RR' M C := by
  have hsum : ∀ {R R' : RU} {σ : Nat → Nat}, RE R R' → sumH C R' σ = sumH C R σ := by
    intro R R' σ e
    unfold sumH
    rw [e.1]
    have : ∀ n, n ≤ R.ln → sumN (fun p => if R'.fm p = 0 then C (R'.sj p) (tc σ (R'.tm p)) else 0) n = sumN (fun p => if R.fm p = 0 then C (R.sj p) (tc σ (R.tm p)) else 0) n := by
      intro n
      induction n with
      | zero => intro _; rfl
      | succ n ih =>
        intro hn
        obtain ⟨a, b, d⟩ := e.2.1 n (by omega)
        have et : tc σ (R'.tm n) = tc σ (R.tm n) := tc_congr d
        show sumN _ n + (if R'.fm n = 0 then C (R'.sj n) (tc σ (R'.tm n)) else 0) = sumN _ n + (if R.fm n = 0 then C (R.sj n) (tc σ (R.tm n)) else 0)
        rw [ih (by omega), a, b, et]
    exact this R.ln (Nat.le_refl _)
  obtain ⟨h1, h2, h3, h4⟩ := hC
  refine ⟨h1, h2, fun R' σ m hR' hS hM hk => ?_, fun r m hM => ?_⟩
  · obtain ⟨R, hR, e⟩ := h.2 R' hR'
    have := h3 R σ m hR (e.sat.mp hS) (by rw [← e.2.2.1]; exact hM) (by rw [← e.2.2.1, ← e.hd]; exact hk)
    rw [e.2.2.1, hsum e]
    exact this
  · rcases h4 r m hM with z | z | ⟨R, σ, hR, hS, hr, hk, hc⟩
    · exact Or.inl z
    · exact Or.inr (Or.inl z)
    · obtain ⟨R', hR', e⟩ := h.1 R hR
      exact Or.inr (Or.inr ⟨R', σ, hR', e.sat.mpr hS, by rw [e.2.2.1]; exact hr, by rw [e.hd]; exact hk, by rw [hsum e]; exact hc⟩)
/-- the models of an hour under new rows -/
theorem IHou_g {nF m now h : Nat} {L g : Nat → Nat} {wA wB wA' wB' : World} (hI : IHou nF m L g wA wB now h) (a3 : ∀ c, 3 ≤ c → c ≤ 6 → wA' c = wA c) (ag : ∀ c, g h ≤ c → c ≤ g h + 4 → wA' c = wA c) (aF : ∀ r k, FFA nF wA (h : Int) 0 r k ↔ FFA nF wA' (h : Int) 0 r k) (aR : RS (RrA m wA) (RrA m wA')) (a150 : wA' 150 0 = 0 ∨ (wA' 150 0 = wA 150 0 ∧ wA' 151 = wA 151 ∧ FCA nF wA' (h : Int) = FCA nF wA (h : Int)))
    (b3 : ∀ c, 3 ≤ c → c ≤ 5 → wB' c = wB c) (b20 : wB' 20 h = wB 20 h) (b21 : ∀ s, s < 50 → wB' 21 (50 * h + s) = wB 21 (50 * h + s)) (b22 : ∀ s, s < 150 → wB' 22 (150 * h + s) = wB 22 (150 * h + s)) (bF : ∀ r k, FFB nF wB (h : Int) 0 r k ↔ FFB nF wB' (h : Int) 0 r k) (bR : RS (RrB m wB) (RrB m wB')) : IHou nF m L g wA' wB' now h := by
  obtain ⟨N, ρ, c, Lc, n, ρ', c', a1, a2, a3', a4, a5, a6, a7, a8, a9⟩ := hI
  have hSA : SA wA' = SA wA := SA_c5 (fun c x y => a3 c x (by omega))
  have hSB : SA wB' = SA wB := SA_c5 b3
  refine ⟨N, ρ, c, Lc, n, ρ', c', AMod_congr a3 ag a1, VCs_3 (a3 3 (by omega) (by omega)) a2, by rw [ag _ (Nat.le_refl _) (by omega)]; exact a3', ?_, BMod_q b3 b20 b21 b22 a5, VCs_3 (b3 3 (by omega) (by omega)) a6, a7, ?_, fun hn h0 => ?_⟩
  · rw [hSA]; exact aR.least (FF_least aF a4)
  · rw [hSB]; exact bR.least (FF_least bF a8)
  · rcases a150 with z | ⟨z1, z2, z3⟩
    · exact absurd z h0
    · obtain ⟨C, c1, c2⟩ := a9 hn (by rw [← z1]; exact h0)
      exact ⟨C, by rw [hSA, z3]; exact CostP_RS aR c1, by rw [z2]; exact c2⟩
theorem RS.refl {RR : RU → Prop} : RS RR RR := ⟨fun R h => ⟨R, h, RE.refl⟩, fun R h => ⟨R, h, RE.refl⟩⟩
/-- the draft changed: all else holds on -/
theorem Inv_draft {nF m d now top : Nat} {L g : Nat → Nat} {wA wB wA' wB' : World} (hA : FrDA wA wA') (hB : FrDB wB wB') (hI : Inv nF m d now top L g wA wB) (hD : IDrf wA' wB') : Inv nF m d now top L g wA' wB' := by
  obtain ⟨i1, i2, i3, i4, i5, i6, i7, i8, i9, i10, i11⟩ := hI
  have hm : m ≤ 12 := i3.1.2.2.1
  have hA' : ∀ c, c < 94 → wA' c = wA c := fun c h => hA c (Or.inl h)
  have hB13 : ∀ c, 2 ≤ c → c ≤ 13 → wB' c = wB c := fun c h1 h2 => hB.cell (by omega)
  have hSA : SA wA' = SA wA := SA_c5 (fun c _ _ => hA' c (by omega))
  have hSB : SA wB' = SA wB := SA_c5 (fun c _ _ => hB13 c (by omega) (by omega))
  have hRB : ∀ b, b + 3 < 94 → RB wA' b = RB wA b := fun b hb => RB_congr (hA' _ (by omega)) (hA' _ (by omega)) (hA' _ (by omega)) (hA' _ (by omega))
  have hRE : ∀ j, j < m → RE (RBB wB j) (RBB wB' j) := fun j hj => hB.RE (by omega) (i3.2.1.2.2 j hj).1.2.2.2.1
  have hRrA : RrA m wA' = RrA m wA := by
    unfold RrA Rof
    funext R
    refine propext (exists_congr fun i => and_congr_right fun hi => ?_)
    unfold FA GA
    rw [hRB _ (by omega), hA' _ (by omega)]
  have hRS : RS (RrB m wB) (RrB m wB') := by
    refine ⟨?_, ?_⟩
    · rintro R ⟨i, hi, hg, rfl⟩
      exact ⟨RBB wB' i, ⟨i, hi, by show wB' 13 i = 0; rw [hB13 13 (by omega) (by omega)]; exact hg, rfl⟩, hRE i hi⟩
    · rintro R ⟨i, hi, hg, rfl⟩
      exact ⟨RBB wB i, ⟨i, hi, by show wB 13 i = 0; rw [← hB13 13 (by omega) (by omega)]; exact hg, rfl⟩, hRE i hi⟩
  have hFaC : ∀ hour wo f, FaC wA' hour wo f ↔ FaC wA hour wo f := fun hour wo f => by
    unfold FaC
    rw [hA' 13 (by omega), hA' 11 (by omega), hA' 12 (by omega)]
  have hFFA : ∀ hour wo, FFA nF wA' hour wo = FFA nF wA hour wo := fun hour wo => by
    unfold FFA
    funext r k
    refine propext (exists_congr fun f => and_congr Iff.rfl (and_congr (hFaC hour wo f) ?_))
    rw [hA' 8 (by omega), hA' 9 (by omega)]
  have hFCA : ∀ hour, FCA nF wA' hour = FCA nF wA hour := fun hour => by
    unfold FCA
    funext r k v
    refine propext (exists_congr fun f => and_congr Iff.rfl (and_congr (hFaC hour 0 f) ?_))
    rw [hA' 8 (by omega), hA' 9 (by omega), hA' 10 (by omega)]
  have hFFB : ∀ hour wo, FFB nF wB' hour wo = FFB nF wB hour wo := fun hour wo => by
    unfold FFB FcB
    rw [hB13 12 (by omega) (by omega), hB13 10 (by omega) (by omega), hB13 11 (by omega) (by omega), hB13 7 (by omega) (by omega), hB13 8 (by omega) (by omega)]
  refine ⟨⟨WfS_congr (fun c a b k => by rw [hA' c (by omega)]) i1.1, ?_⟩, ?_, ?_, ?_, hD, ⟨by rw [hA' 1 (by omega)]; exact i6.1, by rw [hB.f (by omega)]; exact i6.2.1, i6.2.2⟩, ?_, ?_, fun h h4 => ?_, ?_, ?_⟩
  · rw [hB13 3 (by omega) (by omega), hB13 4 (by omega) (by omega), hB13 5 (by omega) (by omega), hB13 2 (by omega) (by omega), hA' 3 (by omega), hA' 4 (by omega), hA' 5 (by omega)]
    exact i1.2
  · obtain ⟨f1, f2, f3, f4⟩ := i2
    refine ⟨?_, ?_, ?_, ?_⟩
    · obtain ⟨x1, x2, x3⟩ := f1
      refine ⟨by rw [hA' 7 (by omega)]; exact x1, x2, fun f hf => ?_⟩
      obtain ⟨r, k, y1, y2, y3, y4, y5, y6⟩ := x3 f hf
      exact ⟨r, k, by rw [hA' 8 (by omega)]; exact y1, y2, by rw [hA' 3 (by omega)]; exact y3, by rw [hA' 9 (by omega)]; exact y4, y5, (Vc_3 (hA' 3 (by omega))).mpr y6⟩
    · obtain ⟨x1, x2, x3⟩ := f2
      refine ⟨by rw [hB.f (by omega)]; exact x1, x2, fun f hf => ?_⟩
      obtain ⟨r, k, y1, y2, y3, y4, y5, y6⟩ := x3 f hf
      exact ⟨r, k, by rw [hB13 7 (by omega) (by omega)]; exact y1, y2, by rw [hB13 3 (by omega) (by omega)]; exact y3, by rw [hB13 8 (by omega) (by omega)]; exact y4, y5, (Vc_3 (hB13 3 (by omega) (by omega))).mpr y6⟩
    · rw [hB13 7 (by omega) (by omega), hB13 8 (by omega) (by omega), hB13 9 (by omega) (by omega), hB13 10 (by omega) (by omega), hB13 11 (by omega) (by omega), hB13 12 (by omega) (by omega), hA' 8 (by omega), hA' 9 (by omega), hA' 10 (by omega), hA' 11 (by omega), hA' 12 (by omega), hA' 13 (by omega)]
      exact f3
    · rw [hA' 7 (by omega), hA' 13 (by omega)]
      exact f4
  · obtain ⟨r1, r2, r3⟩ := i3
    refine ⟨?_, ?_, fun j hj => ?_⟩
    · obtain ⟨p1, p2, p3, p4, p5⟩ := r1
      refine ⟨WfS_congr (fun c a b k => by rw [hA' c (by omega)]) p1, by rw [hA' 14 (by omega)]; exact p2, p3, by rw [hA' 19 (by omega)]; exact p4, fun j hj => ?_⟩
      unfold RuA
      rw [hRB _ (by omega), hSA, hA' _ (by omega)]
      exact p5 j hj
    · obtain ⟨p1, p2, p3⟩ := r2
      exact ⟨by rw [hB.f (by omega)]; exact p1, p2, fun j hj => ⟨RuB_E (hRE j hj) (hB 16 j (by omega)) (fun c _ _ => hB13 c (by omega) (by omega)) (p3 j hj).1, Rng_E (hRE j hj) (p3 j hj).2⟩⟩
    · rw [hRB _ (by omega), hB13 13 (by omega) (by omega), hA' _ (by omega)]
      exact ⟨(r3 j hj).1.trans (hRE j hj), (r3 j hj).2⟩
  · obtain ⟨d1, d2, d3, d4, d5⟩ := i4
    refine ⟨by rw [hA' 14 (by omega)]; exact d1, by rw [hB.f (by omega)]; exact d2, d3, by rw [hA' 20 (by omega)]; exact d4, fun j hj => ?_⟩
    obtain ⟨e1, e2, e3, e4, e5⟩ := d5 j hj
    have hE := (hB.RE (ru := 12 + j) (by omega) e2.2.2.2.1).T
    rw [hRB _ (by omega)]
    refine ⟨?_, RuBL_E hE (hB 16 _ (by omega)) (fun c _ _ => hB13 c (by omega) (by omega)) e2, e3.trans hE, e4, e5⟩
    unfold DnA
    rw [hRB _ (by omega), hSA, hA' _ (by omega)]
    exact e1
  · obtain ⟨l1, l2, l3, l4⟩ := i7
    refine ⟨?_, ?_, l3, ?_⟩
    · unfold LA
      rw [hA' 21 (by omega), hA' 14 (by omega)]
      exact l1
    · unfold LB
      rw [hB13 6 (by omega) (by omega)]
      exact l2
    · rw [hRrA, hSA]
      exact l4
  · refine ⟨i8.1, i8.2.1, ?_⟩
    rw [hA 108 (by omega), hA 109 (by omega)]
    exact i8.2.2
  · have hg := i8.rng (i := h) (by omega)
    refine IHou_g (i9 h h4) (fun c _ _ => hA' c (by omega)) (fun c _ _ => hA c (by omega)) (fun r k => by rw [hFFA]) (by rw [hRrA]; exact RS.refl) (Or.inr ⟨by rw [hA 150 (by omega)], hA 151 (by omega), hFCA _⟩) (fun c _ _ => hB13 c (by omega) (by omega)) (by rw [hB.cell (by omega)]) (fun s _ => by rw [hB.cell (by omega)]) (fun s _ => by rw [hB.cell (by omega)]) (fun r k => by rw [hFFB]) hRS
  · rw [hA 104 (by omega)]; exact i10
  · intro v hv
    rw [hB.cell (by omega)] at hv
    rw [hB.cell (by omega)]
    exact i11 v hv
