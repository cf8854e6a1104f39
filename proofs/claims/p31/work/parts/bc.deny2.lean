/-! BOTH: deny -/
/-- denials and draft changed: all else holds on -/
theorem Inv_rows {nF m d d' now top : Nat} {L g : Nat → Nat} {wA wB wA' wB' : World} (hA1 : ∀ c, c < 70 → c ≠ 14 → wA' c = wA c) (hA2 : ∀ c, 97 < c → wA' c = wA c) (hA14 : ∀ k, k ≠ 5 → wA' 14 k = wA 14 k) (hB13 : ∀ c, 2 ≤ c → c ≤ 13 → wB' c = wB c) (hB20 : ∀ c, 20 ≤ c → wB' c = wB c) (hBf : ∀ k, 1 ≤ k → k < 15 → wB' 1 k = wB 1 k) (hRE : ∀ j, j < m → RE (RBB wB j) (RBB wB' j) ∧ wB' 16 j = wB 16 j) (hI : Inv nF m d now top L g wA wB) (hDen : IDen d' wA' wB') (hD : IDrf wA' wB') : Inv nF m d' now top L g wA' wB' := by
  obtain ⟨i1, i2, i3, i4, i5, i6, i7, i8, i9, i10, i11⟩ := hI
  have hm : m ≤ 12 := i3.1.2.2.1
  have hSA : SA wA' = SA wA := SA_c5 (fun c _ _ => hA1 c (by omega) (by omega))
  have hRB : ∀ b, 15 ≤ b → b + 3 < 70 → RB wA' b = RB wA b := fun b h15 hb => RB_congr (hA1 _ (by omega) (by omega)) (hA1 _ (by omega) (by omega)) (hA1 _ (by omega) (by omega)) (hA1 _ (by omega) (by omega))
  have hRrA : RrA m wA' = RrA m wA := by
    unfold RrA Rof
    funext R
    refine propext (exists_congr fun i => and_congr_right fun hi => ?_)
    unfold FA GA
    rw [hRB _ (by omega) (by omega), hA1 _ (by omega) (by omega)]
  have hRS : RS (RrB m wB) (RrB m wB') := by
    refine ⟨?_, ?_⟩
    · rintro R ⟨i, hi, hg, rfl⟩
      exact ⟨RBB wB' i, ⟨i, hi, by show wB' 13 i = 0; rw [hB13 13 (by omega) (by omega)]; exact hg, rfl⟩, (hRE i hi).1⟩
    · rintro R ⟨i, hi, hg, rfl⟩
      exact ⟨RBB wB i, ⟨i, hi, by show wB 13 i = 0; rw [← hB13 13 (by omega) (by omega)]; exact hg, rfl⟩, (hRE i hi).1⟩
  have hFaC : ∀ hour wo f, FaC wA' hour wo f ↔ FaC wA hour wo f := fun hour wo f => by
    unfold FaC
    rw [hA1 13 (by omega) (by omega), hA1 11 (by omega) (by omega), hA1 12 (by omega) (by omega)]
  have hFFA : ∀ hour wo, FFA nF wA' hour wo = FFA nF wA hour wo := fun hour wo => by
    unfold FFA
    funext r k
    refine propext (exists_congr fun f => and_congr Iff.rfl (and_congr (hFaC hour wo f) ?_))
    rw [hA1 8 (by omega) (by omega), hA1 9 (by omega) (by omega)]
  have hFCA : ∀ hour, FCA nF wA' hour = FCA nF wA hour := fun hour => by
    unfold FCA
    funext r k v
    refine propext (exists_congr fun f => and_congr Iff.rfl (and_congr (hFaC hour 0 f) ?_))
    rw [hA1 8 (by omega) (by omega), hA1 9 (by omega) (by omega), hA1 10 (by omega) (by omega)]
  have hFFB : ∀ hour wo, FFB nF wB' hour wo = FFB nF wB hour wo := fun hour wo => by
    unfold FFB FcB
    rw [hB13 12 (by omega) (by omega), hB13 10 (by omega) (by omega), hB13 11 (by omega) (by omega), hB13 7 (by omega) (by omega), hB13 8 (by omega) (by omega)]
  refine ⟨⟨WfS_congr (fun c a b k => by rw [hA1 c (by omega) (by omega)]) i1.1, ?_⟩, ?_, ?_, hDen, hD, ⟨?_, by rw [hBf 1 (by omega) (by omega)]; exact i6.2.1, i6.2.2⟩, ?_, ?_, fun h h4 => ?_, ?_, ?_⟩
  · rw [hB13 3 (by omega) (by omega), hB13 4 (by omega) (by omega), hB13 5 (by omega) (by omega), hB13 2 (by omega) (by omega), hA1 3 (by omega) (by omega), hA1 4 (by omega) (by omega), hA1 5 (by omega) (by omega)]
    exact i1.2
  · obtain ⟨f1, f2, f3, f4⟩ := i2
    refine ⟨?_, ?_, ?_, ?_⟩
    · obtain ⟨x1, x2, x3⟩ := f1
      refine ⟨by rw [hA1 7 (by omega) (by omega)]; exact x1, x2, fun f hf => ?_⟩
      obtain ⟨r, k, y1, y2, y3, y4, y5, y6⟩ := x3 f hf
      exact ⟨r, k, by rw [hA1 8 (by omega) (by omega)]; exact y1, y2, by rw [hA1 3 (by omega) (by omega)]; exact y3, by rw [hA1 9 (by omega) (by omega)]; exact y4, y5, (Vc_3 (hA1 3 (by omega) (by omega))).mpr y6⟩
    · obtain ⟨x1, x2, x3⟩ := f2
      refine ⟨by rw [hBf 7 (by omega) (by omega)]; exact x1, x2, fun f hf => ?_⟩
      obtain ⟨r, k, y1, y2, y3, y4, y5, y6⟩ := x3 f hf
      exact ⟨r, k, by rw [hB13 7 (by omega) (by omega)]; exact y1, y2, by rw [hB13 3 (by omega) (by omega)]; exact y3, by rw [hB13 8 (by omega) (by omega)]; exact y4, y5, (Vc_3 (hB13 3 (by omega) (by omega))).mpr y6⟩
    · rw [hB13 7 (by omega) (by omega), hB13 8 (by omega) (by omega), hB13 9 (by omega) (by omega), hB13 10 (by omega) (by omega), hB13 11 (by omega) (by omega), hB13 12 (by omega) (by omega), hA1 8 (by omega) (by omega), hA1 9 (by omega) (by omega), hA1 10 (by omega) (by omega), hA1 11 (by omega) (by omega), hA1 12 (by omega) (by omega), hA1 13 (by omega) (by omega)]
      exact f3
    · rw [hA1 7 (by omega) (by omega), hA1 13 (by omega) (by omega)]
      exact f4
  · obtain ⟨r1, r2, r3⟩ := i3
    refine ⟨?_, ?_, fun j hj => ?_⟩
    · obtain ⟨p1, p2, p3, p4, p5⟩ := r1
      refine ⟨WfS_congr (fun c a b k => by rw [hA1 c (by omega) (by omega)]) p1, by rw [hA14 4 (by omega)]; exact p2, p3, by rw [hA1 19 (by omega) (by omega)]; exact p4, fun j hj => ?_⟩
      unfold RuA
      rw [hRB _ (by omega) (by omega), hSA, hA1 _ (by omega) (by omega)]
      exact p5 j hj
    · obtain ⟨p1, p2, p3⟩ := r2
      exact ⟨by rw [hBf 14 (by omega) (by omega)]; exact p1, p2, fun j hj => ⟨RuB_E (hRE j hj).1 (hRE j hj).2 (fun c _ _ => hB13 c (by omega) (by omega)) (p3 j hj).1, Rng_E (hRE j hj).1 (p3 j hj).2⟩⟩
    · rw [hRB _ (by omega) (by omega), hB13 13 (by omega) (by omega), hA1 _ (by omega) (by omega)]
      exact ⟨(r3 j hj).1.trans (hRE j hj).1, (r3 j hj).2⟩
  · rw [hA1 1 (by omega) (by omega)]; exact i6.1
  · obtain ⟨l1, l2, l3, l4⟩ := i7
    refine ⟨?_, ?_, l3, ?_⟩
    · unfold LA
      rw [hA1 21 (by omega) (by omega), hA14 7 (by omega)]
      exact l1
    · unfold LB
      rw [hB13 6 (by omega) (by omega)]
      exact l2
    · rw [hRrA, hSA]
      exact l4
  · refine ⟨i8.1, i8.2.1, ?_⟩
    rw [hA2 108 (by omega), hA2 109 (by omega)]
    exact i8.2.2
  · have hg := i8.rng (i := h) (by omega)
    refine IHou_g (i9 h h4) (fun c _ _ => hA1 c (by omega) (by omega)) (fun c _ _ => hA2 c (by omega)) (fun r k => by rw [hFFA]) (by rw [hRrA]; exact RS.refl) (Or.inr ⟨by rw [hA2 150 (by omega)], hA2 151 (by omega), hFCA _⟩) (fun c _ _ => hB13 c (by omega) (by omega)) (by rw [hB20 20 (by omega)]) (fun s _ => by rw [hB20 21 (by omega)]) (fun s _ => by rw [hB20 22 (by omega)]) (fun r k => by rw [hFFB]) hRS
  · rw [hA2 104 (by omega)]; exact i10
  · intro v hv
    rw [hB20 24 (by omega)] at hv
    rw [hB20 23 (by omega)]
    exact i11 v hv
theorem st_deny : St_deny II := by
  intro wA wB hII
  obtain ⟨nF, m, d, now, top, L, g, hI⟩ := id hII
  obtain ⟨n, hn5, hnA, hnB, hlA, hlB⟩ := drf_n hI
  obtain ⟨i1, i2, i3, i4, i5, i6, i7, i8, i9, i10, i11⟩ := id hI
  obtain ⟨e1, e2, e3, e4, e5, e6⟩ := id i5
  obtain ⟨d1, d2, d3, d4, d5⟩ := id i4
  have hm : m ≤ 12 := i3.1.2.2.1
  have hno : ∀ x : Int, ¬ x = 0 → f_Re_deny_49 wB x = some (up wB 1 0 x, 0) := fun x hx => by
    unfold f_Re_deny_49
    exact ref_no (f := fun v => bnd (f_Re_copyDraft v (wr (12 + (v 1 15)))) fun v8 => gd (0 ≤ wr (12 + (v8 1 15)) ∧ wr (12 + (v8 1 15)) < 19) (bl (up v8 14 (wr (12 + (v8 1 15))).toNat (-1)) fun w12 => bl (up w12 1 15 (wr ((w12 1 15) + 1))) fun w14 => bnd (f_Re_emptyDraft w14 ) fun v16 => some (v16, wr ((v16 1 15) - 1)))) (g := fun v => some (v, 0)) hx
  have h24 : f_Re_deny_24 wB = some (up wB 1 0 1, 0) := by
    unfold f_Re_deny_24 f_Re_deny_25
    rw [if_pos rfl, hno 1 z10]
  by_cases q0 : n = 0
  · refine no_v (e := 2) (x := 1) (fun e => e = 0 ∨ e = 2 ∨ e = 3) hII (by decide) ?_ ?_ rfl (Or.inr (Or.inl rfl))
    · unfold f_Dm_deny
      rw [hnA, if_pos (by omega)]
    · unfold f_Re_deny
      rw [hnB, if_pos (by omega), h24]
  obtain ⟨v, hv, hv2⟩ := isSafeB_n (x2 := 0) e2 (fun z => absurd rfl z)
  have hv : f_Re_isSafe wB 18 0 = some v := hv
  by_cases qs : SafeL (RB wA 94)
  · have hv1 : v = 1 := by
      rcases hv2 with ⟨z, -⟩ | ⟨z, z2⟩
      · exact z
      · exact absurd ⟨e3.safeL.mp qs, fun z => absurd rfl z⟩ z2
    subst hv1
    obtain ⟨bm, hbm⟩ : ∃ bm : Nat, f_Bo_boundVariables wA 94 = some (bm : Int) := by
      rcases boundVars_n e1.1 e1.2 with ⟨-, bm, h, -⟩ | ⟨h, -⟩
      · exact ⟨bm, h⟩
      · exact absurd qs h
    have hA0 : f_Dm_deny wA = if (d : Int) < 6 then (bnd (f_Pr_appendDenial wA 94) fun v13 => bnd (f_Bo_empty v13 94) fun v16 => some (v16, 0, wr ((v16 14 5) - 1))) else some (wA, 3, 0) := by
      unfold f_Dm_deny
      rw [hnA, if_neg (by omega), hbm, bnd_s, if_neg (by omega), d1]
    have hB0 : f_Re_deny wB = if (d : Int) = 6 then f_Re_deny_49 wB 2 else f_Re_deny_49 wB 0 := by
      unfold f_Re_deny f_Re_deny_25
      rw [hnB, if_neg (by omega), hv, bnd_s, if_neg z10, if_neg z10, d2]
    by_cases q6 : d = 6
    · exact no_v (e := 3) (x := 2) (fun e => e = 0 ∨ e = 2 ∨ e = 3) hII (by decide) (by rw [hA0, if_neg (by omega)]) (by rw [hB0, if_pos (by omega), hno 2 z20]) rfl (Or.inr (Or.inr rfl))
    have hd6 : d < 6 := by omega
    -- the class
    obtain ⟨w1, a1, a2, a3, a4, a5⟩ := copyA_n (w := wA) (b := 70 + 4 * d) (s := 94) (n := n) (by omega) hnA hn5
    have hkd : kdA (70 + 4 * d) = 1 := by
      have : ∀ d, d < 6 → kdA (70 + 4 * d) = 1 := by decide +kernel
      exact this d hd6
    have hden : f_Pr_denial wA (wA 14 5) = some (70 + 4 * d) := by
      unfold f_Pr_denial f_Pr_denial_26
      rw [d1, if_neg (by omega), if_neg (by omega), gd_t ⟨by omega, by omega⟩, Int.toNat_natCast, d4 d hd6, Int.toNat_natCast, if_neg (by omega)]
    obtain ⟨wA', hwA⟩ : ∃ w, w = empW (up w1 14 5 ((d + 1 : Nat) : Int)) 94 := ⟨_, rfl⟩
    have ex14 : w1 14 5 = (d : Int) := by rw [a2 14 (by omega)]; exact d1
    have hAfin : f_Dm_deny wA = some (wA', 0, (d : Int)) := by
      rw [hA0, if_pos (by omega)]
      unfold f_Pr_appendDenial
      rw [hden, bnd_s, gd_t hkd, a1, bnd_s, bl_s, bnd_s, empty_n, bnd_s, ex14, wr_of (x := (d : Int) + 1) ⟨by omega, by omega⟩]
      have : ((d : Int) + 1) = ((d + 1 : Nat) : Int) := by omega
      rw [this, ← hwA]
      have e : wA' 14 5 = ((d + 1 : Nat) : Int) := by rw [hwA, empW_far (by omega)]; simp [up]
      rw [e, wr_of (x := ((d + 1 : Nat) : Int) - 1) ⟨by omega, by omega⟩]
      have : (((d + 1 : Nat) : Int) - 1) = (d : Int) := by omega
      rw [this]
    have fA : ∀ c, (c < 94 ∨ 97 < c) → c ≠ 14 → (c < 70 + 4 * d ∨ 70 + 4 * d + 3 < c) → wA' c = wA c := fun c h1 h2 h3 => by
      rw [hwA, empW_far (by omega), ← a2 c h3]
      funext q
      simp [up, h2]
    have fA1 : ∀ c, c < 94 → c ≠ 14 → wA' c = w1 c := fun c h1 h2 => by
      rw [hwA, empW_far (by omega)]
      funext q
      simp [up, h2]
    have fA14 : ∀ k, k ≠ 5 → wA' 14 k = wA 14 k := fun k h => by
      rw [hwA, empW_far (by omega), ← a2 14 (by omega)]
      simp [up, h]
    have fA145 : wA' 14 5 = ((d + 1 : Nat) : Int) := by rw [hwA, empW_far (by omega)]; simp [up]
    -- the reference
    obtain ⟨u0, hu0⟩ : ∃ u, u = up wB 1 0 0 := ⟨_, rfl⟩
    have u0f : ∀ c, c ≠ 1 → u0 c = wB c := fun c hc => by rw [hu0]; exact up10 hc
    have hRu : RBB u0 18 = RBB wB 18 := RBB_congr (fun c a b => u0f c (by omega)) 18
    have u15 : u0 1 15 = (d : Int) := by rw [hu0, up10_f (by decide)]; exact d2
    obtain ⟨u1, b1, b2, b3, b4⟩ := copyB_n (w := u0) (ru := 12 + d) (by omega) (by rw [hRu, hlB]; exact hn5)
    have i12 : wr (12 + (d : Int)) = ((12 + d : Nat) : Int) := by rw [wr_of (x := 12 + (d : Int)) ⟨by omega, by omega⟩]; omega
    obtain ⟨wB', hwB⟩ : ∃ w, w = up (up (up (up u1 14 (12 + d) (-1)) 1 15 ((d + 1 : Nat) : Int)) 16 18 0) 14 18 (-1) := ⟨_, rfl⟩
    have u1f : u1 1 15 = (d : Int) := by rw [b2 1 15 (by omega)]; exact u15
    have hBfin : f_Re_deny wB = some (wB', (d : Int)) := by
      rw [hB0, if_neg (by omega)]
      unfold f_Re_deny_49
      rw [ref_ok (f := fun v => bnd (f_Re_copyDraft v (wr (12 + (v 1 15)))) fun v8 => gd (0 ≤ wr (12 + (v8 1 15)) ∧ wr (12 + (v8 1 15)) < 19) (bl (up v8 14 (wr (12 + (v8 1 15))).toNat (-1)) fun w12 => bl (up w12 1 15 (wr ((w12 1 15) + 1))) fun w14 => bnd (f_Re_emptyDraft w14 ) fun v16 => some (v16, wr ((v16 1 15) - 1)))) (g := fun v => some (v, 0)), ← hu0, u15, i12, b1, bnd_s, u1f, i12, gd_t ⟨by omega, by omega⟩, bl_s, bl_s, Int.toNat_natCast]
      have e : up u1 14 (12 + d) (-1) 1 15 = (d : Int) := by simp [up, u1f]
      rw [e, wr_of (x := (d : Int) + 1) ⟨by omega, by omega⟩]
      have : ((d : Int) + 1) = ((d + 1 : Nat) : Int) := by omega
      rw [this]
      unfold f_Re_emptyDraft
      rw [bl_s, bl_s, bnd_s, ← hwB]
      have e : wB' 1 15 = ((d + 1 : Nat) : Int) := by rw [hwB]; simp [up]
      rw [e, wr_of (x := ((d + 1 : Nat) : Int) - 1) ⟨by omega, by omega⟩]
      have : (((d + 1 : Nat) : Int) - 1) = (d : Int) := by omega
      rw [this]
    have fB : ∀ c k, ¬ (c = 14 ∧ (k = 12 + d ∨ k = 18)) → ¬ (c = 1 ∧ k = 15) → ¬ (c = 16 ∧ k = 18) → wB' c k = u1 c k := fun c k h1 h2 h3 => by
      rw [hwB]
      unfold up
      rw [if_neg (fun t => h1 (by omega)), if_neg h3, if_neg h2, if_neg (fun t => h1 (by omega))]
    have fBc : ∀ c, c ≠ 1 → (c < 14 ∨ 19 < c) → wB' c = wB c := fun c h1 h2 => by
      rw [← u0f c h1]
      funext k
      rw [fB c k (by omega) (by omega) (by omega)]
      exact b2 c k (by omega)
    have fB1 : ∀ k, 1 ≤ k → k < 15 → wB' 1 k = wB 1 k := fun k h1 h2 => by
      rw [fB 1 k (by omega) (by omega) (by omega), b2 1 k (by omega), hu0]
      exact up10_f (by omega)
    have fRow : ∀ ru, ru ≠ 12 + d → ru < 18 → (RBB wB ru).ln ≤ 5 → RE (RBB wB ru) (RBB wB' ru) ∧ wB' 16 ru = wB 16 ru := fun ru h1 h2 h5 => by
      have e : ∀ c k, c ≠ 1 → u0 c k = wB c k := fun c k hc => by rw [u0f c hc]
      have e16 : wB' 16 ru = wB 16 ru := by rw [fB 16 ru (by omega) (by omega) (by omega), b2 16 ru (by omega), e 16 _ (by decide)]
      refine ⟨⟨?_, fun p hp => ⟨?_, ?_, fun c hc => ?_⟩, ?_, fun c hc => ?_⟩, e16⟩
      · show (wB' 16 ru).toNat = (wB 16 ru).toNat
        rw [e16]
      · show wB' 17 (5 * ru + p) = wB 17 (5 * ru + p)
        rw [fB 17 _ (by omega) (by omega) (by omega), b2 17 _ (by omega), e 17 _ (by decide)]
      · show wB' 18 (5 * ru + p) = wB 18 (5 * ru + p)
        rw [fB 18 _ (by omega) (by omega) (by omega), b2 18 _ (by omega), e 18 _ (by decide)]
      · show wB' 19 (3 * (5 * ru + p) + c) = wB 19 (3 * (5 * ru + p) + c)
        rw [fB 19 _ (by omega) (by omega) (by omega), b2 19 _ (by omega), e 19 _ (by decide)]
      · show wB' 14 ru = wB 14 ru
        rw [fB 14 _ (by omega) (by omega) (by omega), b2 14 _ (by omega), e 14 _ (by decide)]
      · show wB' 15 (3 * ru + c) = wB 15 (3 * ru + c)
        rw [fB 15 _ (by omega) (by omega) (by omega), b2 15 _ (by omega), e 15 _ (by decide)]
    have newRow : EqT (RBB u1 (12 + d)) (RBB wB' (12 + d)) ∧ wB' 16 (12 + d) = wB 16 18 := by
      have e16 : wB' 16 (12 + d) = u1 16 (12 + d) := by rw [fB 16 _ (by omega) (by omega) (by omega)]
      refine ⟨⟨?_, fun p hp => ⟨?_, ?_, fun c hc => ?_⟩⟩, ?_⟩
      · show (wB' 16 (12 + d)).toNat = (u1 16 (12 + d)).toNat
        rw [e16]
      · exact fB 17 _ (by omega) (by omega) (by omega)
      · exact fB 18 _ (by omega) (by omega) (by omega)
      · exact fB 19 _ (by omega) (by omega) (by omega)
      · rw [e16, b4, u0f 16 (by omega)]
    have hSA : SA wA' = SA wA := SA_c5 (fun c a b => fA c (by omega) (by omega) (by omega))
    have hSB : SA wB' = SA wB := SA_c5 (fun c a b => fBc c (by omega) (by omega))
    have hT : WfT wB' := WfT_congr (fun c a b => fBc c (by omega) (by omega)) i1.T
    have hnewA : RB wA' (70 + 4 * d) = RB w1 (70 + 4 * d) := RB_congr (fA1 _ (by omega) (by omega)) (fA1 _ (by omega) (by omega)) (fA1 _ (by omega) (by omega)) (fA1 _ (by omega) (by omega))
    rw [hRu] at b3
    have eqA : EqT (RB wA 94) (RB wA' (70 + 4 * d)) := by rw [hnewA]; exact a3.T
    have eqB : EqT (RBB wB 18) (RBB wB' (12 + d)) := b3.T.trans newRow.1
    have hlA' : (RB wA' (70 + 4 * d)).ln = n := by rw [eqA.1, hlA]
    have hlB' : (RBB wB' (12 + d)).ln = n := by rw [eqB.1, hlB]
    have hInv : Inv nF m (d + 1) now top L g wA' wB' := by
      refine Inv_rows (fun c h1 h2 => fA c (by omega) h2 (by omega)) (fun c h1 => fA c (by omega) (by omega) (by omega)) fA14 (fun c h1 h2 => fBc c (by omega) (by omega)) (fun c h1 => fBc c (by omega) (by omega)) fB1 (fun j hj => fRow j (by omega) (by omega) (i3.2.1.2.2 j hj).1.2.2.2.1) hI ⟨fA145, ?_, by omega, fun j hj => ?_, fun j hj => ?_⟩ (IDrf_nil hT ?_ ?_ ?_ ?_)
      · rw [hwB]; simp [up]
      · rw [fA 20 (by omega) (by omega) (by omega)]; exact d4 j hj
      · by_cases qj : j = d
        · subst qj
          refine ⟨⟨?_, ?_⟩, ⟨by omega, hT, ?_, ?_⟩, eqA.symm.trans (e3.trans eqB), eqA.safeL.mp qs, eqA.few e4⟩
          · rw [hlA', fA1 _ (by omega) (by omega)]; exact a4
          · rw [hSA]; exact eqA.wf e1.2
          · rw [hlB', newRow.2]; exact hnB
          · rw [hSB]; exact eqB.wf e2.2.2.2
        · obtain ⟨y1, y2, y3, y4, y5⟩ := d5 j (by omega)
          have hr : RB wA' (70 + 4 * j) = RB wA (70 + 4 * j) := RB_congr (fA _ (by omega) (by omega) (by omega)) (fA _ (by omega) (by omega) (by omega)) (fA _ (by omega) (by omega) (by omega)) (fA _ (by omega) (by omega) (by omega))
          obtain ⟨z1, z2⟩ := fRow (12 + j) (by omega) (by omega) y2.2.2.2.1
          rw [hr]
          refine ⟨?_, RuBL_E z1.T z2 (fun c a b => fBc c (by omega) (by omega)) y2, y3.trans z1.T, y4, y5⟩
          unfold DnA
          rw [hr, hSA, fA _ (by omega) (by omega) (by omega)]
          exact y1
      · rw [hwA]; exact empW_0
      · rw [hwA]; exact empW_1
      · rw [hwB]; simp [up]
      · rw [hwB]; simp [up]
    refine ⟨(wA', 0, (d : Int)), (wB', (d : Int)), hAfin, hBfin, ?_, Or.inl rfl, fun _ => rfl, nF, m, d + 1, now, top, L, g, hInv⟩
    unfold f_Re_thrown
    show some (wB' 1 0) = _
    rw [fB 1 0 (by omega) (by omega) (by omega), b2 1 0 (by omega), hu0]
    simp [up]
    rfl
  · have hv0 : v = 0 := by
      rcases hv2 with ⟨-, z, -⟩ | ⟨z, -⟩
      · exact absurd (e3.safeL.mpr z) qs
      · exact z
    subst hv0
    refine no_v (e := 2) (x := 1) (fun e => e = 0 ∨ e = 2 ∨ e = 3) hII (by decide) ?_ ?_ rfl (Or.inr (Or.inl rfl))
    · unfold f_Dm_deny
      rcases boundVars_n e1.1 e1.2 with ⟨h, -⟩ | ⟨-, h⟩
      · exact absurd h qs
      · rw [hnA, if_neg (by omega), h, bnd_s, if_pos rfl]
    · unfold f_Re_deny
      rw [hnB, if_neg (by omega), hv, bnd_s, if_pos rfl, h24]
