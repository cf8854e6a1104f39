/-! BOTH: cheapest -/
theorem FrK.Q {w u : World} (h : FrK w u) (hV : VB u) : QBr w u := ⟨fun c k a b => h c k (by omega) (by omega) (by omega) (by omega) (fun z => b ⟨z.1, by omega⟩), fun k _ => by rw [h.cell (by decide) (by omega)], fun k _ => by rw [h.cell (by decide) (by omega)], fun k _ => by rw [h.cell (by decide) (by omega)], hV⟩
theorem HAc_fr {nF m t now h : Nat} {L : Nat → Nat} {w w' : World} (hm : m ≤ 12) (hkt : kdA t = 6) (hF : FrC w w') (hne : h ≠ now) (hI : HAc nF m L w t now h) : HAc nF m L w' t now h := by
  obtain ⟨N, ρ, c, Lc, a1, a2, a3, a4, -⟩ := hI
  have h6 := kd6 hkt
  have h7 := kd6_hi hkt
  have h98 : ∀ c, c < 98 → w' c = w c := fun c hc => hF c (by omega) (by omega) (by omega)
  refine ⟨N, ρ, c, Lc, hF.M hkt a1, VCs_3 (h98 3 (by omega)) a2, by rw [hF t (by omega) (by omega) (by omega)]; exact a3, ?_, fun e => absurd e hne⟩
  rw [hF.SA, FFA_congr h98, RrA_c hm h98]
  exact a4
theorem Inv_cost {nF m d now top : Nat} {L g : Nat → Nat} {wA wB w' : World} (hI : Inv nF m d now top L g wA wB) (hF : FrC wA w') (hV : VV (w' 104)) (hn : HAc nF m L w' (g now) now now) : Inv nF m d now top L g w' wB := by
  obtain ⟨i1, i2, i3, i4, i5, i6, i7, i8, i9, i10, i11⟩ := id hI
  have h98 : ∀ c, c < 98 → w' c = wA c := fun c hc => hF c (by omega) (by omega) (by omega)
  refine Inv_of (Low_congr h98 (fun _ _ _ => rfl) (fun _ _ => rfl) hI.low) ⟨i8.1, i8.2.1, fun h h4 => ?_⟩ (fun h h4 => ?_) (fun h h4 => (i9 h h4).A.2) hV i11
  · rw [hF 108 (by omega) (by omega) (by omega), hF 109 (by omega) (by omega) (by omega)]
    exact i8.2.2 h h4
  · by_cases e : h = now
    · rw [e]; exact hn
    · exact HAc_fr i3.1.2.2.1 (kd_ref i8 (by omega)) hF e (i9 h h4).A.1
theorem FC_both {nF : Nat} {wA wB : World} (h : IFac nF wA wB) {hour : Int} : ∀ r k v, FCA nF wA hour r k v ↔ FCB nF wB hour r k v := by
  intro r k v
  have cond : ∀ f, f < nF → (FaC wA hour 0 f ↔ FcB wB hour 0 f) := fun f hf => by
    obtain ⟨a1, -, -, ⟨b1, b2, -⟩, a6, -⟩ := h.2.2.1 f hf
    unfold FaC FcB
    rw [a6, b1, b2]
  constructor
  · rintro ⟨f, hf, hc, hr, hk, hv⟩
    obtain ⟨a1, ⟨k', e1, e2, e3⟩, ⟨c1, -⟩, -⟩ := h.2.2.1 f hf
    have : k' = k := by omega
    subst this
    exact ⟨f, hf, (cond f hf).mp hc, a1.trans hr, e3, e2, c1.trans hv⟩
  · rintro ⟨f, hf, hc, hr, hk, hk2, hv⟩
    obtain ⟨a1, ⟨k', e1, e2, e3⟩, ⟨c1, -⟩, -⟩ := h.2.2.1 f hf
    have : k' = k := clm_inj e2 hk2 (fun j hj => by have h1 := e3 j hj; have h2 := hk j hj; omega)
    subst this
    exact ⟨f, hf, (cond f hf).mpr hc, a1.symm.trans hr, e1, c1.symm.trans hv⟩
/-- the costs are known then, in both, and the same -/
theorem cheap_both {nF m d now top : Nat} {L g : Nat → Nat} {wA wB : World} (hI : Inv nF m d now top L g wA wB) : ∃ (w' u' : World) (N n : Nat) (ρ c ρ' c' : Nat → Nat) (Lc : Nat → List Nat) (C : Int → Nat → Nat), f_Dm_findCosts wA = some w' ∧ f_Re_findCosts wB = some u' ∧ FrC wA w' ∧ Inv nF m d now top L g w' u' ∧ QBr wB u' ∧ u' 1 0 = wB 1 0 ∧ AMod w' (g now) N ρ c Lc ∧ VCs w' N ρ c ∧ BMod u' now n ρ' c' ∧ VCs u' n ρ' c' ∧ n ≤ 48 ∧ (∀ r k, AM N ρ c r k ↔ AM n ρ' c' r k) ∧ (∀ s, s < N → w' 151 s = ((C (ρ s : Int) (c s) : Nat) : Int)) ∧ ∀ s, s < n → u' 26 s = ((C (ρ' s : Int) (c' s) : Nat) : Int) := by
  obtain ⟨i1, i2, i3, i4, i5, i6, i7, i8, i9, i10, i11⟩ := id hI
  obtain ⟨⟨N, ρ, c, Lc, a1, a2, a3, a4, a9⟩, n, ρ', c', b1, b2, b3, b4⟩ := (i9 now i6.2.2).A
  have hs := least_both hI.low.S a4 b4
  have hkt := kd_ref i8 (k := now) (by omega)
  have hm12 : m ≤ 12 := i3.1.2.2.1
  obtain ⟨C, hC⟩ := cost_ex (SA wA) (FCA nF wA (now : Int)) (RrA m wA) (AM N ρ c)
  have hCB : CostP (SA wB) (FCB nF wB (now : Int)) (RrB m wB) (AM n ρ' c') C := by
    rw [i1.SA]
    exact CostP_same (FC_both i2) i3.RS.1 i3.RS.2 hs hC
  have hcb : CsB wB nF m now n L ρ' c' C := by
    refine ⟨⟨b1, b3, b2, i1.T⟩, ⟨i3.2.1, fun i hi => ?_⟩, ⟨i6.2.1, i6.2.2⟩, b4, hCB, i2.2.1, fun f hf => ?_⟩
    · obtain ⟨k1, k2, k3, k4, k5, k6⟩ := i3.2.2 i hi
      refine ⟨k1.T.safeL.mp k4, fun cc hcc hneg => ?_⟩
      rw [k1.2.2.2 cc hcc] at hneg ⊢
      obtain ⟨p, c1, hp, hc1, hf, he⟩ := k5 cc hcc hneg
      obtain ⟨q1, -, q3⟩ := k1.2.1 p hp
      exact ⟨p, c1, by rw [k1.1]; exact hp, hc1, by rw [q1]; exact hf, by rw [q3 c1 hc1]; exact he⟩
    · obtain ⟨-, -, ⟨c1, c2, c3⟩, -⟩ := i2.2.2.1 f hf
      rw [c1]
      exact ⟨c2, c3⟩
  have hca : CsA wA nF m now (g now) N L ρ c Lc C := by
    refine ⟨⟨a1, a2, i1.1⟩, ⟨i3.1, fun i hi => ?_⟩, ⟨present_n i8 i6.2.2 i6.1, hkt, i6.1⟩, a4, hC, i2.1, fun f hf => ?_⟩
    · obtain ⟨k1, k2, k3, k4, k5, k6⟩ := i3.2.2 i hi
      exact ⟨k4, k5, k6⟩
    · obtain ⟨-, -, ⟨c1, c2, c3⟩, -⟩ := i2.2.2.1 f hf
      exact ⟨c2, c3⟩
  obtain ⟨u', q1, q2, q3, q4⟩ := findCostsB_n hcb i11
  have hQ := q2.Q q3
  have hI1 := Inv_q (wA' := wA) (wB' := u') (QAr.refl i10) hQ hI
  have hz : u' 1 0 = wB 1 0 := q2.f (by decide) (by decide)
  have b1' : BMod u' now n ρ' c' := BMod_congr (fun k hk => q2.cell (by omega) (by omega)) b1
  have b2' : VCs u' n ρ' c' := VCs_3 (q2.cell (by omega) (by omega)) b2
  by_cases h0 : wA 150 0 = 0
  · obtain ⟨w', p1, p2, p3, p4⟩ := findCostsA_n hca i10 h0
    have h98 : ∀ c, c < 98 → w' c = wA c := fun c hc => p2 c (by omega) (by omega) (by omega)
    have h6 := kd6 hkt
    have h7 := kd6_hi hkt
    have hn : HAc nF m L w' (g now) now now := by
      refine ⟨N, ρ, c, Lc, p2.M hkt a1, VCs_3 (h98 3 (by omega)) a2, by rw [p2 (g now) (by omega) (by omega) (by omega)]; exact a3, ?_, fun _ _ => ⟨C, ?_, p4⟩⟩
      · rw [p2.SA, FFA_congr h98, RrA_c hm12 h98]
        exact a4
      · rw [p2.SA, FCA_c h98, RrA_c hm12 h98]
        exact hC
    exact ⟨w', u', N, n, ρ, c, ρ', c', Lc, C, p1, q1, p2, Inv_cost hI1 p2 p3 hn, hQ, hz, p2.M hkt a1, VCs_3 (h98 3 (by omega)) a2, b1', b2', b3, hs, p4, q4⟩
  · obtain ⟨C0, g1, g2⟩ := a9 rfl h0
    refine ⟨wA, u', N, n, ρ, c, ρ', c', Lc, C, ?_, q1, FrC.refl, hI1, hQ, hz, a1, a2, b1', b2', b3, hs, fun s hs' => ?_, q4⟩
    · unfold f_Dm_findCosts
      rw [if_neg h0]
    · rw [g2 s hs', cost_uni g1 hC ⟨s, hs', rfl, rfl⟩]
theorem st_cheapest : St_cheapest II := by
  intro wA wB hII x1 x2 x3 x4 _ _ _ _
  obtain ⟨nF, m, d, now, top, L, g, hI⟩ := id hII
  obtain ⟨i1, i2, i3, i4, i5, i6, i7, i8, i9, i10, i11⟩ := id hI
  rcases decl_both i1 x1 with ⟨r, rfl, hr, hd, hA, hB⟩ | ⟨-, hA, hB⟩
  · have hI0 : Inv nF m d now top L g wA (up wB 1 0 0) := Inv_up10 hI
    obtain ⟨j1, j2, j3, j4, j5, j6, j7, j8, j9, j10, j11⟩ := id hI0
    obtain ⟨w', u', N, n, ρ, c, ρ', c', Lc, C, p1, p2, p3, p4, p5, p6, p7, p8, p9, p10, p11, p12, p13, p14⟩ := cheap_both hI0
    have hkt := kd_ref i8 (k := now) (by omega)
    obtain ⟨k1, k2, k3, k4, k5, k6, k7, k8, k9, k10, k11⟩ := id p4
    obtain ⟨⟨N0, ρ0, c0, Lc0, a1, a2, a3, a4, -⟩, n0, ρ0', c0', b1, b2, b3, b4⟩ := (j9 now j6.2.2).A
    have hs0 := least_both hI0.low.S a4 b4
    have hdu : 1 ≤ up wB 1 0 0 3 r := by rw [(j1.2 r hr).1]; exact hd
    have hdw : 1 ≤ w' 3 r := by rw [p3 3 (by omega) (by omega) (by omega)]; exact hd
    have hdu' : 1 ≤ u' 3 r := by rw [(k1.2 r hr).1]; exact hdw
    have hkt' := kd6 hkt
    have hkt2 := kd6_hi hkt
    obtain ⟨vA, hvA, qA⟩ := isInA_n (x := x2) (y := x3) (z := x4) i1.1 a1 a2 hr hd
    obtain ⟨vB, hvB, qB⟩ := hasTuple_n (x := x2) (y := x3) (z := x4) j1.T b1 b2 hr hdu
    have startA : f_Dm_cheapest wA (r : Int) x2 x3 x4 = if vA = 0 then (some (wA, 0, (-1))) else (bnd (f_Dm_packed x2 x3 x4) fun v22 => bnd (f_Mo_slotLike w' (g now) (r : Int) v22) fun v26 => bnd (f_Co_costOf w' v26) fun v29 => some (w', 0, v29)) := by
      unfold f_Dm_cheapest
      rw [hA, bnd_s, if_neg z10, present_n i8 i6.2.2 i6.1, bnd_s, gd_t hkt, hvA, bnd_s, p1, bnd_s, present_n k8 k6.2.2 k6.1, bnd_s]
      by_cases q : vA = 0
      · rw [if_pos q, if_pos q]
      · rw [if_neg q, if_neg q]
        refine congrArg (bnd _) (funext fun v22 => ?_)
        rw [gd_t hkt]
    have startB : f_Re_cheapest wB (r : Int) x2 x3 x4 = if vB = 0 then (some (up wB 1 0 0, (-1))) else (bnd (f_Re_place u' (now : Int) (r : Int) x2 x3 x4) fun v17 => gd (0 ≤ v17 ∧ v17 < 50) (some (u', u' 26 v17.toNat))) := by
      have e : up wB 1 0 0 1 1 = (now : Int) := j6.2.1
      unfold f_Re_cheapest
      rw [noRel_n.1 hB, bnd_s, if_pos rfl]
      show bnd (f_Re_hasTuple (up wB 1 0 0) (up wB 1 0 0 1 1) (r : Int) x2 x3 x4) _ = _
      rw [e, hvB, bnd_s]
      show (if vB = 0 then _ else bnd (f_Re_findCosts (up wB 1 0 0)) _) = _
      rw [p2, bnd_s, k6.2.1]
    by_cases hin : Hs (AM N0 ρ0 c0) (r : Int) x2 x3 x4
    · have hvA1 : vA ≠ 0 := by
        rcases qA with ⟨z, -⟩ | ⟨-, z⟩
        · omega
        · exact absurd hin z
      have hvB1 : vB ≠ 0 := by
        rcases qB with ⟨z, -⟩ | ⟨-, z⟩
        · omega
        · exact absurd ((hs_same hs0).mp hin) z
      obtain ⟨k, hkM, hkj⟩ := hin
      -- the models of now stay as they were
      have hAw : AMod w' (g now) N0 ρ0 c0 Lc0 := p3.M hkt a1
      have hkM' : AM N ρ c (r : Int) k := by
        obtain ⟨⟨N2, ρ2, c2, Lc2, e1, e2, e3, e4, -⟩, n2, ρ2', c2', f1, f2, f3, f4⟩ := (k9 now k6.2.2).A
        have h98 : ∀ c, c < 98 → w' c = wA c := fun c hc => p3 c (by omega) (by omega) (by omega)
        have hm12 : m ≤ 12 := i3.1.2.2.1
        have hAMN : ∀ s, s < N0 ↔ s < N := fun s => by
          have h1 := hAw.1
          have h2 := p7.1
          omega
        obtain ⟨s, hs, hρ, hc⟩ := hkM
        have hsN := (hAMN s).mp hs
        have g1 := hAw.2.2.2.2.1 s hs
        have g2 := p7.2.2.2.2.1 s hsN
        have hcc : c s = c0 s := by have := g1.2.1; have := g2.2.1; omega
        have hseg : ∀ r, r < 10 → ∀ l l' : List Nat, ∀ a : Int, seg (w' (g now + 2)) a l → seg (w' (g now + 2)) a l' → l = l' := fun r _ => by
          intro l
          induction l with
          | nil =>
            intro l' a h1 h2
            cases l' with
            | nil => rfl
            | cons b l' =>
              have h1 : a = -1 := h1
              have h2 := h2.1
              omega
          | cons b l ih =>
            intro l' a h1 h2
            cases l' with
            | nil =>
              have h2 : a = -1 := h2
              have h1 := h1.1
              omega
            | cons b' l' =>
              have e : b' = b := by have := h1.1; have := h2.1; omega
              subst e
              rw [ih l' _ h1.2 h2.2]
        have hL1 := hseg r hr _ _ _ (hAw.2.2.1 r hr) (p7.2.2.1 r hr)
        have hm1 := (hAw.2.2.2.1 r s hr).mpr ⟨hs, by omega⟩
        rw [hL1] at hm1
        have := (p7.2.2.2.1 r s hr).mp hm1
        exact ⟨s, this.1, by omega, by rw [hcc, hc]⟩
      obtain ⟨sA, hsA, hρA, hcA⟩ := id hkM'
      obtain ⟨s, hsn, hρ, hcs⟩ := (p12 _ _).mp hkM'
      have hρA : ρ sA = r := by omega
      have hρ : ρ' s = r := by omega
      have hk : k < 2097152 := by have := (p7.2.2.2.2.1 sA hsA).2.2.1; omega
      have hVk : Vc u' r k := by have := p10 s hsn; rw [hρ, hcs] at this; exact this
      have e2 : x2 = ((clm k 0 : Nat) : Int) := (hkj 0 (by omega)).symm
      have e3 : x3 = ((clm k 1 : Nat) : Int) := (hkj 1 (by omega)).symm
      have e4 : x4 = ((clm k 2 : Nat) : Int) := (hkj 2 (by omega)).symm
      have hpk : f_Dm_packed x2 x3 x4 = some (k : Int) := by
        rw [e2, e3, e4, packed_n clm_lt clm_lt clm_lt, clm_pk hk]
      obtain ⟨va, hva, hva2⟩ := slotA_eq (k := k) (m := k) k1.1 p7 hr hdw hk hsA hρA (by rw [hcA])
      have hva3 := hva2.mpr rfl
      obtain ⟨vb, hvb, hvb2⟩ := placeB_eq (k := k) (m := k) k1.T p9 p10 hr hdu' hk hVk hsn hρ (by rw [hcs])
      have hvb3 := hvb2.mpr rfl
      have hcA2 : f_Co_costOf w' (sA : Int) = some ((C (r : Int) k : Nat) : Int) := by
        have hN := p7.2.1
        unfold f_Co_costOf
        rw [if_neg (by omega), if_neg (by omega), gd_t ⟨by omega, by omega⟩, Int.toNat_natCast, p13 sA hsA, hρA, hcA]
      refine ⟨(w', 0, ((C (r : Int) k : Nat) : Int)), (u', ((C (r : Int) k : Nat) : Int)), ?_, ?_, ?_, Or.inl rfl, fun _ => rfl, nF, m, d, now, top, L, g, p4⟩
      · rw [startA, if_neg hvA1, hpk, bnd_s, hva, bnd_s, hva3, hcA2, bnd_s]
      · rw [startB, if_neg hvB1, e2, e3, e4, hvb, bnd_s, hvb3, gd_t ⟨by omega, by omega⟩, Int.toNat_natCast, p14 s hsn, hρ, hcs]
      · unfold f_Re_thrown
        show some (u' 1 0) = _
        rw [p6]
        simp [up]
        rfl
    · have hvA0 : vA = 0 := by
        rcases qA with ⟨-, z⟩ | ⟨z, -⟩
        · exact absurd z hin
        · exact z
      have hvB0 : vB = 0 := by
        rcases qB with ⟨-, z⟩ | ⟨z, -⟩
        · exact absurd ((hs_same hs0).mpr z) hin
        · exact z
      refine ⟨(wA, 0, -1), (up wB 1 0 0, -1), ?_, ?_, thrown_n, Or.inl rfl, fun _ => rfl, II_up10 hII⟩
      · rw [startA, if_pos hvA0]
      · rw [startB, if_pos hvB0]
  · refine ⟨(wA, 1, 0), (up wB 1 0 1, 0), ?_, ?_, thrown_n, Or.inr rfl, fun e => n10 e, II_up10 hII⟩
    · unfold f_Dm_cheapest
      rw [hA, bnd_s, if_pos rfl]
    · unfold f_Re_cheapest
      rw [noRel_n.2 hB, bnd_s]
      exact if_neg z10
