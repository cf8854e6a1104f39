/-! MEANING: a drop of a fact that stands; the ends -/
theorem dr_drop {nF m d now top f : Nat} {L g : Nat → Nat} {wA wB : World} (hI : Inv nF m d now top L g wA wB) (hf : f < nF) (q13 : wA 13 f = 0) : ∃ (w' : World) (e : Nat) (v : Int), f_Dm_drop wA (f : Int) = some (w', e, v) ∧ (e = 3 ∨ (e = 0 ∧ 0 ≤ v ∧ ∃ (g' : Nat → Nat) (u' : World), Inv nF m d now top L g' w' u' ∧ (∀ c, c < 98 → c ≠ 7 → c ≠ 13 → w' c = wA c) ∧ (∀ q, q ≠ f → w' 13 q = wA 13 q) ∧ w' 13 f = 1 ∧ (∀ c, 2 ≤ c → c < 20 → c ≠ 12 → u' c = wB c) ∧ u' 1 15 = wB 1 15)) := by
  obtain ⟨i1, i2, i3, i4, i5, i6, i7, i8, i9, i10, i11⟩ := id hI
  have hm : m ≤ 12 := i3.1.2.2.1
  have n7A : wA 7 0 = (nF : Int) := i2.1.1
  have n7B : wB 1 7 = (nF : Int) := i2.2.1.1
  have h24 : nF ≤ 24 := i2.1.2.1
  have hisf := isFact_n n7A h24 hf
  obtain ⟨k1, k2, ⟨k3, k3'⟩, ⟨k4, k5, k6⟩, k7, k8⟩ := i2.2.2.1 f hf
  have hA0 : f_Dm_drop wA (f : Int) = if wA 13 f = 0 then (bnd (f_Fa_setDropped wA (f : Int) 1) fun v12 => bnd (f_Fa_fromOf v12 (f : Int)) fun v15 => bnd (f_Fa_toOf v12 (f : Int)) fun v18 => bnd (f_Dm_renew v12 v15 v18) fun v21 => if v21.2 = 0 then (bnd (f_Fa_setDropped v21.1 (f : Int) 0) fun v27 => some (v27, 3, 0)) else (some (v21.1, 0, v21.1 7 1))) else some (wA, 3, 0) := by
    unfold f_Dm_drop f_Fa_isDropped
    rw [if_neg (by omega), n7A, if_pos (by omega), hisf, bnd_s, if_neg z10, gd_t ⟨by omega, by omega⟩, Int.toNat_natCast]
    by_cases q : wA 13 f = 0
    · rw [if_pos q, bnd_s, if_pos rfl, if_pos q]
    · rw [if_neg q, bnd_s, if_neg z10, if_neg q]
  have hcn := cnt_le (P := fun f => decide (wA 13 f = 0)) nF
  have h71 := i2.2.2.2
  have hc1 := cnt_1 (P := fun f => decide (wA 13 f = 0)) hf (by simpa using q13)
  obtain ⟨wA1, hw1⟩ : ∃ w, w = up (up wA 13 f 1) 7 1 (wA 7 1 - 1) := ⟨_, rfl⟩
  obtain ⟨wB1, hu1⟩ : ∃ w, w = up (up wB 1 0 0) 12 f 1 := ⟨_, rfl⟩
  have aO : ∀ k, k ≠ 7 → k ≠ 13 → wA1 k = wA k := fun k h1 h2 => by rw [hw1]; funext q; simp [up, h1, h2]
  have a13 : ∀ q, q ≠ f → wA1 13 q = wA 13 q := fun q h => by rw [hw1]; simp [up, h]
  have a13f : wA1 13 f = 1 := by rw [hw1]; simp [up]
  have a70 : wA1 7 0 = (nF : Int) := by rw [hw1]; simp [up, n7A]
  have a71 : wA1 7 1 = wA 7 1 - 1 := by rw [hw1]; simp [up]
  have bO : ∀ k, k ≠ 1 → k ≠ 12 → wB1 k = wB k := fun k h1 h2 => by rw [hu1]; funext q; simp [up, h1, h2]
  have b12 : ∀ q, q ≠ f → wB1 12 q = wB 12 q := fun q h => by rw [hu1]; simp [up, h]
  have b12f : wB1 12 f = 1 := by rw [hu1]; simp [up]
  have b1 : ∀ k, k ≠ 0 → wB1 1 k = wB 1 k := fun k h => by rw [hu1]; simp [up, h]
  have b10 : wB1 1 0 = 0 := by rw [hu1]; simp [up]
  have hFac : IFac nF wA1 wB1 := by
    obtain ⟨f1, f2, f3, f4⟩ := i2
    refine ⟨⟨a70, h24, fun j hj => ?_⟩, ⟨by rw [b1 7 (by omega)]; exact n7B, h24, fun j hj => ?_⟩, fun j hj => ?_, ?_⟩
    · obtain ⟨r, k, y1, y2, y3, y4, y5, y6⟩ := f1.2.2 j hj
      exact ⟨r, k, by rw [aO 8 (by omega) (by omega)]; exact y1, y2, by rw [aO 3 (by omega) (by omega)]; exact y3, by rw [aO 9 (by omega) (by omega)]; exact y4, y5, (Vc_3 (aO 3 (by omega) (by omega))).mpr y6⟩
    · obtain ⟨r, k, y1, y2, y3, y4, y5, y6⟩ := f2.2.2 j hj
      exact ⟨r, k, by rw [bO 7 (by omega) (by omega)]; exact y1, y2, by rw [bO 3 (by omega) (by omega)]; exact y3, by rw [bO 8 (by omega) (by omega)]; exact y4, y5, (Vc_3 (bO 3 (by omega) (by omega))).mpr y6⟩
    · obtain ⟨z1, z2, z3, z4, z5, z6⟩ := f3 j hj
      rw [aO 8 (by omega) (by omega), aO 9 (by omega) (by omega), aO 10 (by omega) (by omega), aO 11 (by omega) (by omega), aO 12 (by omega) (by omega), bO 7 (by omega) (by omega), bO 8 (by omega) (by omega), bO 9 (by omega) (by omega), bO 10 (by omega) (by omega), bO 11 (by omega) (by omega)]
      refine ⟨z1, z2, z3, z4, ?_⟩
      by_cases q : j = f
      · subst q
        rw [a13f, b12f]
        exact ⟨rfl, Or.inr rfl⟩
      · rw [a13 j q, b12 j q]
        exact ⟨z5, z6⟩
    · have := cnt_off (P := fun f => decide (wA 13 f = 0)) (Q := fun f => decide (wA1 13 f = 0)) (f := f) (by simpa using q13) (by show decide (wA1 13 f = 0) = false; rw [a13f]; rfl) (fun i hi => by show decide (wA1 13 i = 0) = decide (wA 13 i = 0); rw [a13 i hi]) nF hf
      rw [a71, f4]
      omega
  have hL := hI.low
  have hL1 : Low nF m d now top L wA1 wB1 := Low_fac (fun k _ h => aO k (by omega) (by omega)) (fun k h1 h2 h3 => bO k (by omega) (by omega)) (fun k hk => b1 k (by omega)) hL hFac
  have hr1 : IRef g wA1 := ⟨i8.1, i8.2.1, by rw [aO 108 (by omega) (by omega), aO 109 (by omega) (by omega)]; exact i8.2.2⟩
  have hV1 : VV (wA1 104) := by rw [aO 104 (by omega) (by omega)]; exact i10
  have hVB1 : VB wB1 := VB_congr (bO 23 (by omega) (by omega)) (bO 24 (by omega) (by omega)) i11
  have hRr : RrA m wA1 = RrA m wA := RrA_fac hm (fun k h1 h2 => aO k (by omega) (by omega))
  obtain ⟨fr, hfr⟩ : ∃ n : Nat, wA 11 f = (n : Int) := ⟨(wA 11 f).toNat, by omega⟩
  obtain ⟨to, hto⟩ : ∃ n : Nat, wA 12 f = (n : Int) := ⟨(wA 12 f).toNat, by omega⟩
  obtain ⟨w', v, u', p1, p2, p3, p4, p5, p6, p7⟩ := both_new (a := fr) (b := to) hL1 hr1 hV1 hVB1 (by omega) (by omega) (fun h h4 hn => by
    have hg := i8.rng (i := h) (by omega)
    refine HAt_g (nF' := nF) (m' := m) (w' := wA1) ((i9 h h4).A.1).t (fun k h1 h2 => aO k (by omega) (by omega)) (fun k h1 h2 => aO k (by omega) (by omega)) (fun r k => ?_) (by rw [hRr]; exact RS.refl)
    unfold FFA FaC
    rw [aO 8 (by omega) (by omega), aO 9 (by omega) (by omega), aO 11 (by omega) (by omega), aO 12 (by omega) (by omega)]
    refine exists_congr fun j => and_congr_right fun hj => and_congr ?_ Iff.rfl
    by_cases q : j = f
    · subst q
      rw [hfr, hto]
      exact ⟨fun z => absurd ⟨Int.ofNat_le.mp z.2.1, Int.ofNat_le.mp z.2.2.1⟩ hn, fun z => absurd ⟨Int.ofNat_le.mp z.2.1, Int.ofNat_le.mp z.2.2.1⟩ hn⟩
    · rw [a13 j q])
  have hset : f_Fa_setDropped wA (f : Int) 1 = some wA1 := by
    unfold f_Fa_setDropped f_Fa_setDropped_39
    have e : up wA 13 f 1 7 1 = wA 7 1 := by simp [up]
    rw [hisf, bnd_s, if_neg z10, gd_t ⟨by omega, by omega⟩, Int.toNat_natCast, q13, if_neg (by decide), gd_t ⟨by omega, by omega⟩, gd_t (Or.inr rfl), bl_s, if_neg z10, e, bl_s, wr_of (x := wA 7 1 + (-1)) ⟨by omega, by omega⟩, hw1]
    rfl
  have hfrom : f_Fa_fromOf wA1 (f : Int) = some (fr : Int) := by
    unfold f_Fa_fromOf
    rw [isFact_n a70 h24 hf, bnd_s, if_neg z10, gd_t ⟨by omega, by omega⟩, Int.toNat_natCast, aO 11 (by omega) (by omega), hfr]
  have htoo : f_Fa_toOf wA1 (f : Int) = some (to : Int) := by
    unfold f_Fa_toOf
    rw [isFact_n a70 h24 hf, bnd_s, if_neg z10, gd_t ⟨by omega, by omega⟩, Int.toNat_natCast, aO 12 (by omega) (by omega), hto]
  have hArun : f_Dm_drop wA (f : Int) = if v = 0 then (bnd (f_Fa_setDropped w' (f : Int) 0) fun v27 => some (v27, 3, 0)) else some (w', 0, w' 7 1) := by
    rw [hA0, if_pos q13, hset, bnd_s, hfrom, bnd_s, htoo, bnd_s, p1, bnd_s]
  rcases p7 with ⟨hv1, g', hInv⟩ | ⟨hv0, hF1⟩
  · have j2 := hInv.2.1
    refine ⟨w', 0, w' 7 1, by rw [hArun, hv1, if_neg z10], Or.inr ⟨rfl, ?_, g', u', hInv, fun c h1 h2 h3 => by rw [p6 c (by omega), aO c h2 h3], fun q hq => by rw [p6 13 (by omega), a13 q hq], by rw [p6 13 (by omega)]; exact a13f, fun c h1 h2 h3 => by rw [p3.cell (by omega) (by omega), bO c (by omega) h3], by rw [p3.f (by omega) (by omega), b1 15 (by omega)]⟩⟩
    rw [j2.2.2.2]
    exact Int.natCast_nonneg _
  · refine ⟨(up (up w' 13 f 0) 7 1 (wA 7 1)), 3, 0, ?_, Or.inl rfl⟩
    have w70 : w' 7 0 = (nF : Int) := by rw [p6 7 (by omega)]; exact a70
    have w71 : w' 7 1 = wA 7 1 - 1 := by rw [p6 7 (by omega)]; exact a71
    have w13 : w' 13 f = 1 := by rw [p6 13 (by omega)]; exact a13f
    rw [hArun, hv0, if_pos rfl]
    unfold f_Fa_setDropped f_Fa_setDropped_39
    have e : up w' 13 f 0 7 1 = wA 7 1 - 1 := by simp [up, w71]
    rw [isFact_n w70 h24 hf, bnd_s, if_neg z10, gd_t ⟨by omega, by omega⟩, Int.toNat_natCast, w13, if_neg (by decide), gd_t ⟨by omega, by omega⟩, gd_t (Or.inl rfl), bl_s, if_pos rfl, e, bl_s, wr_of (x := (wA 7 1 - 1) + 1) ⟨by omega, by omega⟩, show wA 7 1 - 1 + 1 = wA 7 1 by omega, bnd_s]
