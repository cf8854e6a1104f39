/-! MEANING: a drop of a fact that stands; the ends -/
theorem dr_drop {nF m d now top f : Nat} {L g : Nat → Nat} {wA wB : World} (hI : Inv nF m d now top L g wA wB) (hf : f < nF) (q13 : wA 13 f = 0) : ∃ (w' : World) (e : Nat) (v : Int), f_Dm_drop wA (f : Int) = some (w', e, v) ∧ (e = 3 ∨ (e = 0 ∧ 0 ≤ v ∧ ∃ (g' : Nat → Nat) (u' : World), Inv nF m d now top L g' w' u' ∧ (∀ c, c < 98 → c ≠ 7 → c ≠ 13 → w' c = wA c) ∧ (∀ q, q ≠ f → w' 13 q = wA 13 q) ∧ w' 13 f = 1 ∧ (∀ c, 2 ≤ c → c < 20 → c ≠ 12 → u' c = wB c) ∧ u' 1 15 = wB 1 15)) := by
  obtain ⟨i1, i2, i3, i4, i5, i6, i7, i8, i9, i10, i11⟩ := id hI
  have hm : m ≤ 12 := i3.1.2.2.1
  have n7A : wA 7 0 = (nF : Int) := i2.1.1
  have n7B : wB 1 7 = (nF : Int) := i2.2.1.1
  have h24 : nF ≤ 24 := i2.1.2.1
  have hisf := isFact_n n7A h24 hf
  obtain ⟨k1, k2, ⟨k3, k3'⟩, ⟨k4, k5, k6⟩, k7, k8⟩ := i2.2.2.1 f hf
  have hA0 : f_Dm_drop wA (f : Int) = if wA 13 f = 0 then (bnd (f_Fa_setDropped wA (f : Int) 1) fun v12 => bnd (f_Fa_fromOf v12 (f : Int)) fun v15 => bnd (f_Fa_toOf v12 (f : Int)) fun v18 => bnd (f_Dm_renew v12 v15 v18) fun v21 => if v21.2 = 0 then (bnd (f_Fa_setDropped v21.1 (f : Int) 0) fun v27 => some (v27, 3, 0)) else (some (v21.1, 0, v21.1 7 1))) else some (wA, 3, 0) := by
    unfold f_Dm_drop f_Fa_isDropped
    rw [if_neg (by omega), n7A, if_pos (by omega), hisf, bnd_s, if_neg z10, gd_t ⟨by omega, by omega⟩, Int.toNat_natCast]
    by_cases q : wA 13 f = 0
    · rw [if_pos q, bnd_s, if_pos rfl, if_pos q]
    · rw [if_neg q, bnd_s, if_neg z10, if_neg q]
  have hcn := cnt_le (P := fun f => decide (wA 13 f = 0)) nF
  have h71 := i2.2.2.2
  have hc1 := cnt_1 (P := fun f => decide (wA 13 f = 0)) hf (by simpa using q13)
  obtain ⟨wA1, hw1⟩ : ∃ w, w = up (up wA 13 f 1) 7 1 (wA 7 1 - 1) := ⟨_, rfl⟩
  obtain ⟨wB1, hu1⟩ : ∃ w, w = up (up wB 1 0 0) 12 f 1 := ⟨_, rfl⟩
  have aO : ∀ k, k ≠ 7 → k ≠ 13 → wA1 k = wA k := fun k h1 h2 => by rw [hw1]; funext q; simp [up, h1, h2]
  have a13 : ∀ q, q ≠ f → wA1 13 q = wA 13 q := fun q h => by rw [hw1]; simp [up, h]
  have a13f : wA1 13 f = 1 := by rw [hw1]; simp [up]
  have a70 : wA1 7 0 = (nF : Int) := by rw [hw1]; simp [up, n7A]
  have a71 : wA1 7 1 = wA 7 1 - 1 := by rw [hw1]; simp [up]
  have bO : ∀ k, k ≠ 1 → k ≠ 12 → wB1 k = wB k := fun k h1 h2 => by rw [hu1]; funext q; simp [up, h1, h2]
  have b12 : ∀ q, q ≠ f → wB1 12 q = wB 12 q := fun q h => by rw [hu1]; simp [up, h]
  have b12f : wB1 12 f = 1 := by rw [hu1]; simp [up]
  have b1 : ∀ k, k ≠ 0 → wB1 1 k = wB 1 k := fun k h => by rw [hu1]; simp [up, h]
  have b10 : wB1 1 0 = 0 := by rw [hu1]; simp [up]
  have hFac : IFac nF wA1 wB1 := by
    obtain ⟨f1, f2, f3, f4⟩ := i2
    refine ⟨⟨a70, h24, fun j hj => ?_⟩, ⟨by rw [b1 7 (by omega)]; exact n7B, h24, fun j hj => ?_⟩, fun j hj => ?_, ?_⟩
    · obtain ⟨r, k, y1, y2, y3, y4, y5, y6⟩ := f1.2.2 j hj
      exact ⟨r, k, by rw [aO 8 (by omega) (by omega)]; exact y1, y2, by rw [aO 3 (by omega) (by omega)]; exact y3, by rw [aO 9 (by omega) (by omega)]; exact y4, y5, (Vc_3 (aO 3 (by omega) (by omega))).mpr y6⟩
    · obtain ⟨r, k, y1, y2, y3, y4, y5, y6⟩ := f2.2.2 j hj
      exact ⟨r, k, by rw [bO 7 (by omega) (by omega)]; exact y1, y2, by rw [bO 3 (by omega) (by omega)]; exact y3, by rw [bO 8 (by omega) (by omega)]; exact y4, y5, (Vc_3 (bO 3 (by omega) (by omega))).mpr y6⟩
    · obtain ⟨z1, z2, z3, z4, z5, z6⟩ := f3 j hj
      rw [aO 8 (by omega) (by omega), aO 9 (by omega) (by omega), aO 10 (by omega) (by omega), aO 11 (by omega) (by omega), aO 12 (by omega) (by omega), bO 7 (by omega) (by omega), bO 8 (by omega) (by omega), bO 9 (by omega) (by omega), bO 10 (by omega) (by omega), bO 11 (by omega) (by omega)]
      refine ⟨z1, z2, z3, z4, ?_⟩
      by_cases q : j = f
      · subst q
        rw [a13f, b12f]
        exact ⟨rfl, Or.inr rfl⟩
      · rw [a13 j q, b12 j q]
        exact ⟨z5, z6⟩
    · have := cnt_off (P := fun f => decide (wA 13 f = 0)) (Q := fun f => decide (wA1 13 f = 0)) (f := f) (by simpa using q13) (by show decide (wA1 13 f = 0) = false; rw [a13f]; rfl) (fun i hi => by show decide (wA1 13 i = 0) = decide (wA 13 i = 0); rw [a13 i hi]) nF hf
      rw [a71, f4]
      omega
  have hL := hI.low
  have hL1 : Low nF m d now top L wA1 wB1 := Low_fac (fun k _ h => aO k (by omega) (by omega)) (fun k h1 h2 h3 => bO k (by omega) (by omega)) (fun k hk => b1 k (by omega)) hL hFac
  have hr1 : IRef g wA1 := ⟨i8.1, i8.2.1, by rw [aO 108 (by omega) (by omega), aO 109 (by omega) (by omega)]; exact i8.2.2⟩
  have hV1 : VV (wA1 104) := by rw [aO 104 (by omega) (by omega)]; exact i10
  have hVB1 : VB wB1 := VB_congr (bO 23 (by omega) (by omega)) (bO 24 (by omega) (by omega)) i11
  have hRr : RrA m wA1 = RrA m wA := RrA_fac hm (fun k h1 h2 => aO k (by omega) (by omega))
  obtain ⟨fr, hfr⟩ : ∃ n : Nat, wA 11 f = (n : Int) := ⟨(wA 11 f).toNat, by omega⟩
  obtain ⟨to, hto⟩ : ∃ n : Nat, wA 12 f = (n : Int) := ⟨(wA 12 f).toNat, by omega⟩
  obtain ⟨w', v, u', p1, p2, p3, p4, p5, p6, p7⟩ := both_new (a := fr) (b := to) hL1 hr1 hV1 hVB1 (by omega) (by omega) (fun h h4 hn => by
    have hg := i8.rng (i := h) (by omega)
    refine HAt_g (nF' := nF) (m' := m) (w' := wA1) ((i9 h h4).A.1).t (fun k h1 h2 => aO k (by omega) (by omega)) (fun k h1 h2 => aO k (by omega) (by omega)) (fun r k => ?_) (by rw [hRr]; exact RS.refl)
    unfold FFA FaC
    rw [aO 8 (by omega) (by omega), aO 9 (by omega) (by omega), aO 11 (by omega) (by omega), aO 12 (by omega) (by omega)]
    refine exists_congr fun j => and_congr_right fun hj => and_congr ?_ Iff.rfl
    by_cases q : j = f
    · subst q
      rw [hfr, hto]
      exact ⟨fun z => absurd ⟨Int.ofNat_le.mp z.2.1, Int.ofNat_le.mp z.2.2.1⟩ hn, fun z => absurd ⟨Int.ofNat_le.mp z.2.1, Int.ofNat_le.mp z.2.2.1⟩ hn⟩
    · rw [a13 j q])
  have hset : f_Fa_setDropped wA (f : Int) 1 = some wA1 := by
    unfold f_Fa_setDropped f_Fa_setDropped_39
    have e : up wA 13 f 1 7 1 = wA 7 1 := by simp [up]
    rw [hisf, bnd_s, if_neg z10, gd_t ⟨by omega, by omega⟩, Int.toNat_natCast, q13, if_neg (by decide), gd_t ⟨by omega, by omega⟩, gd_t (Or.inr rfl), bl_s, if_neg z10, e, bl_s, wr_of (x := wA 7 1 + (-1)) ⟨by omega, by omega⟩, hw1]
    rfl
  have hfrom : f_Fa_fromOf wA1 (f : Int) = some (fr : Int) := by
    unfold f_Fa_fromOf
    rw [isFact_n a70 h24 hf, bnd_s, if_neg z10, gd_t ⟨by omega, by omega⟩, Int.toNat_natCast, aO 11 (by omega) (by omega), hfr]
  have htoo : f_Fa_toOf wA1 (f : Int) = some (to : Int) := by
    unfold f_Fa_toOf
    rw [isFact_n a70 h24 hf, bnd_s, if_neg z10, gd_t ⟨by omega, by omega⟩, Int.toNat_natCast, aO 12 (by omega) (by omega), hto]
  have hArun : f_Dm_drop wA (f : Int) = if v = 0 then (bnd (f_Fa_setDropped w' (f : Int) 0) fun v27 => some (v27, 3, 0)) else some (w', 0, w' 7 1) := by
    rw [hA0, if_pos q13, hset, bnd_s, hfrom, bnd_s, htoo, bnd_s, p1, bnd_s]
  rcases p7 with ⟨hv1, g', hInv⟩ | ⟨hv0, hF1⟩
  · have j2 := hInv.2.1
    refine ⟨w', 0, w' 7 1, by rw [hArun, hv1, if_neg z10], Or.inr ⟨rfl, ?_, g', u', hInv, fun c h1 h2 h3 => by rw [p6 c (by omega), aO c h2 h3], fun q hq => by rw [p6 13 (by omega), a13 q hq], by rw [p6 13 (by omega)]; exact a13f, fun c h1 h2 h3 => by rw [p3.cell (by omega) (by omega), bO c (by omega) h3], by rw [p3.f (by omega) (by omega), b1 15 (by omega)]⟩⟩
    rw [j2.2.2.2]
    exact Int.natCast_nonneg _
  · refine ⟨(up (up w' 13 f 0) 7 1 (wA 7 1)), 3, 0, ?_, Or.inl rfl⟩
    have w70 : w' 7 0 = (nF : Int) := by rw [p6 7 (by omega)]; exact a70
    have w71 : w' 7 1 = wA 7 1 - 1 := by rw [p6 7 (by omega)]; exact a71
    have w13 : w' 13 f = 1 := by rw [p6 13 (by omega)]; exact a13f
    rw [hArun, hv0, if_pos rfl]
    unfold f_Fa_setDropped f_Fa_setDropped_39
    have e : up w' 13 f 0 7 1 = wA 7 1 - 1 := by simp [up, w71]
    rw [isFact_n w70 h24 hf, bnd_s, if_neg z10, gd_t ⟨by omega, by omega⟩, Int.toNat_natCast, w13, if_neg (by decide), gd_t ⟨by omega, by omega⟩, gd_t (Or.inl rfl), bl_s, if_pos rfl, e, bl_s, wr_of (x := (wA 7 1 - 1) + 1) ⟨by omega, by omega⟩, show wA 7 1 - 1 + 1 = wA 7 1 by omega, bnd_s]
theorem iand1 (x : Int) : iand x 1 = 0 ∨ iand x 1 = 1 := by
  have h : 0 ≤ iand x 1 ∧ iand x 1 < 2 := by
    unfold iand
    have h1 : (ii x &&& ii 1).toBitVec.toNat ≤ 1 := by
      show ((ii x).toBitVec &&& (ii 1).toBitVec).toNat ≤ 1
      rw [BitVec.toNat_and]
      exact Nat.and_le_right
    have h2 : (ii x &&& ii 1).toInt = (((ii x &&& ii 1).toBitVec.toNat : Nat) : Int) := by
      show (ii x &&& ii 1).toBitVec.toInt = _
      rw [BitVec.toInt_eq_toNat_cond, if_pos (by omega)]
    rw [h2]
    omega
  omega
/-- a world whose model, without the facts of the mask, is one where nothing is broken -/
def MndG (nF m now : Nat) (L : Nat → Nat) (w0 : World) (x : Int) : Prop := ∃ (t : Nat) (w1 w2 : World) (N : Nat) (ρ c : Nat → Nat) (Lc : Nat → List Nat), kdA t = 6 ∧ (∀ c, c < 98 → w1 c = w0 c) ∧ VV (w1 104) ∧ AMod w1 t N ρ c Lc ∧ VCs w1 N ρ c ∧ Least (SA w0) (lvf L) (FFA nF w0 (now : Int) x) (RrA m w0) (AM N ρ c) ∧ f_Dm_brokenIn w1 t = some (w2, 0)
/-- the facts of the mask below i are dropped -/
def Dr (nF m d now top : Nat) (L : Nat → Nat) (w0 : World) (x : Int) (i : Nat) (w : World) : Prop := ∃ (g' : Nat → Nat) (u' : World), Inv nF m d now top L g' w u' ∧ (∀ c, c < 98 → c ≠ 7 → c ≠ 13 → w c = w0 c) ∧ ∀ q : Nat, w 13 q = if q < i ∧ iand (ishr x (q : Int)) 1 = 1 then 1 else w0 13 q
theorem dr_end {nF m d now top : Nat} {L : Nat → Nat} {w0 w : World} {x : Int} (hM : MndG nF m now L w0 x) (hD : Dr nF m d now top L w0 x nF w) : ∃ w1 w2, f_Dm_broken w = some (w1, 0) ∧ f_Dm_repair w1 = some (w2, 0) := by
  obtain ⟨t, v1, v2, N, ρ, c, Lc, hkt, m1, m2, m3, m4, m5, m6⟩ := hM
  obtain ⟨g', u', hI, hc, h13⟩ := hD
  obtain ⟨i1, i2, i3, i4, i5, i6, i7, i8, i9, i10, i11⟩ := id hI
  have h24 : nF ≤ 24 := i2.1.2.1
  have hm : m ≤ 12 := i3.1.2.2.1
  obtain ⟨⟨N', ρ', c', Lc', a1, a2, a3, a4, -⟩, n, ρB, cB, b1, b2, b3, b4⟩ := (i9 now i6.2.2).A
  have hs := least_both hI.low.S a4 b4
  have hSA : SA w = SA w0 := SA_c5 (fun c a b => hc c (by omega) (by omega) (by omega))
  have hRr : RrA m w = RrA m w0 := RrA_fac hm (fun k h1 h2 => hc k (by omega) (by omega) (by omega))
  have hFF : FFA nF w (now : Int) 0 = FFA nF w0 (now : Int) x := by
    funext r k
    refine propext (exists_congr fun f => and_congr_right fun hf => ?_)
    unfold FaC
    rw [hc 8 (by omega) (by omega) (by omega), hc 9 (by omega) (by omega) (by omega), hc 11 (by omega) (by omega) (by omega), hc 12 (by omega) (by omega) (by omega), h13 f, mask0 f (by omega)]
    refine and_congr ?_ Iff.rfl
    rcases iand1 (ishr x (f : Int)) with z | z
    · rw [if_neg (fun q => by have := q.2; omega), z]
    · rw [if_pos ⟨hf, z⟩, z]
      exact ⟨fun q => absurd q.1 (by decide), fun q => absurd q.2.2.2 (by decide)⟩
  rw [hSA, hRr, hFF] at a4
  have hsm := least_uni (hSA ▸ i1.1.D) m5 a4
  obtain ⟨x1, x2, y, y1, y2⟩ := bro_cross (d := d) (w0 := v1) (u0 := u') ⟨ISch_c (fun c a b => (m1 c (by omega)).trans (hc c (by omega) (by omega) (by omega)).symm) (fun c _ _ => rfl) i1, IDen_c (fun c a b e1 e2 => (m1 c (by omega)).trans (hc c (by omega) e1 e2).symm) (fun c _ _ _ => rfl) rfl i4⟩ m2 i11 hkt m3 m4 b1 b2 b3 (fun r k => (hsm r k).trans (hs r k))
  have y0 : y = 0 := by
    have := some_inj (y1.symm.trans m6)
    exact (congrArg Prod.snd this).symm
  subst y0
  obtain ⟨w1, u1, z, z1, z2, z3, z4, -⟩ := broken_both hI (kd_ref i8 (by omega)) a1 a2 b1 b2 b3 hs
  have z0 : z = 0 := by
    have := some_inj (z2.symm.trans y2)
    exact (congrArg Prod.snd this).symm
  subst z0
  have hB : f_Dm_broken w = some (w1, 0) := by
    unfold f_Dm_broken
    rw [present_n i8 i6.2.2 i6.1, bnd_s, gd_t (kd_ref i8 (by omega)), z1, bnd_s]
  have hJ := Inv_q z3 (QBr.refl i11) hI
  have hex : ∃ wA, II wA u' := ⟨w, nF, m, d, now, top, L, g', hI⟩
  obtain ⟨oB, -, hall⟩ := an_broken hex
  obtain ⟨q1, e1, -⟩ := hall w ⟨nF, m, d, now, top, L, g', hI⟩
  obtain ⟨q2, e2, -⟩ := hall w1 ⟨nF, m, d, now, top, L, g', hJ⟩
  have o0 : oB.2 = 0 := by
    have := some_inj (hB.symm.trans e1)
    exact congrArg Prod.snd this
  obtain ⟨w3, w4, yy, xx, t1, t2, -, -, t3⟩ := bro_rep hJ
  have yy0 : yy = 0 := by
    have := some_inj (t1.symm.trans e2)
    have e3 : oB.2 = yy := congrArg Prod.snd this
    omega
  refine ⟨w1, w4, hB, ?_⟩
  rcases t3 with z | z | z
  · rw [t2, z.2]
  · exact absurd yy0 z.1
  · exact absurd yy0 z.1
theorem ends_121 {z : ZQ} {m : Bool} {t : Nat} (ht : t ≤ 30) : f_L_ends_121 z m t = some (z, 1) := by
  unfold f_L_ends_121
  rw [gd_t (by omega)]
theorem ends_stop {z : ZQ} {m : Bool} {t : Nat} {x i : Int} (ht : t + 1 ≤ 30) : f_L_ends_21 z m t x 1 0 i = some (z, 1) := by
  unfold f_L_ends_21
  refine lp_out ?_
  show f_L_ends_21B z m t x 1 0 i = _
  have h98 : f_L_ends_98 z m t 1 0 = some (z, 1) := by
    unfold f_L_ends_98
    rw [gd_t (by omega), if_neg z10, if_pos rfl, ends_121 (by omega)]
  unfold f_L_ends_21B
  rw [gd_t ht, h98, bnd_s]
  by_cases q : z.2.2 0 ≤ i
  · rw [if_pos q]
  · rw [if_neg q, if_neg z10, if_pos rfl]
theorem ends_loop {nF m d now top : Nat} {L : Nat → Nat} {w0 : World} {x : Int} {mm : Bool} (h24 : nF ≤ 24) (hM : MndG nF m now L w0 x) (hx : ∀ j : Nat, j < 24 → iand (ishr x (j : Int)) 1 = 1 → j < nF ∧ w0 13 j = 0) : ∀ (j i t : Nat) (z : ZQ), i + j = nF → t ≤ i → z.2.2 0 = (nF : Int) → Dr nF m d now top L w0 x i (zg z mm) → ∃ z', f_L_ends_21 z mm t x 1 1 (i : Int) = some (z', 1) := by
  intro j
  induction j with
  | zero =>
    intro i t z hi ht hz hD
    have e : i = nF := by omega
    subst e
    obtain ⟨w1, w2, h1, h2⟩ := dr_end hM hD
    refine ⟨zs (zs z mm w1) mm w2, ?_⟩
    unfold f_L_ends_21
    refine lp_out ?_
    show f_L_ends_21B z mm t x 1 1 (i : Int) = _
    have h98 : f_L_ends_98 z mm t 1 1 = some (zs (zs z mm w1) mm w2, 1) := by
      unfold f_L_ends_98
      rw [gd_t (by omega), if_neg z10, if_neg z10, h1, bnd_s, bl_s, if_pos rfl, zg_zs, h2, bnd_s, bl_s, if_pos rfl, ends_121 (by omega)]
    unfold f_L_ends_21B
    rw [gd_t (by omega), if_pos (by rw [hz]; exact Int.le_refl _), h98, bnd_s]
  | succ j ih =>
    intro i t z hi ht hz hD
    have e86 : ∀ (z : ZQ) (t : Nat) (x4 : Int), t ≤ 30 → f_L_ends_86 z mm t x x4 (i : Int) = some (Sum.inl (z, t, 1, x4, ((i + 1 : Nat) : Int))) := fun z t x4 h => by
      unfold f_L_ends_86 f_L_ends_91
      rw [gd_t (by omega), gd_t (by omega), bl_s, wr_of (x := (i : Int) + 1) ⟨by omega, by omega⟩]
      rfl
    have pos : ∀ (z : ZQ) (t : Nat) (v : Int), t ≤ 30 → 0 ≤ v → f_L_ends_58 z mm t x (i : Int) v = some (Sum.inl (z, t, 1, 1, ((i + 1 : Nat) : Int))) := fun z t v h hv => by
      unfold f_L_ends_58 f_L_ends_72
      rw [gd_t (by omega), if_neg (by omega), gd_t (by omega), if_pos hv, e86 z t 1 h]
    have neg : ∀ (z : ZQ) (t : Nat), t ≤ 30 → f_L_ends_58 z mm t x (i : Int) (-2000000003) = some (Sum.inl (z, t, 1, 0, ((i + 1 : Nat) : Int))) := fun z t h => by
      unfold f_L_ends_58 f_L_ends_72
      rw [gd_t (by omega), if_pos rfl, gd_t (by omega), if_neg (by decide), if_pos rfl, e86 z t 0 h]
    have step : ∀ {s : ZQ × Nat × Int × Int × Int}, f_L_ends_21B z mm t x 1 1 (i : Int) = some (Sum.inl s) → f_L_ends_21 z mm t x 1 1 (i : Int) = f_L_ends_21 s.1 mm s.2.1 x s.2.2.1 s.2.2.2.1 s.2.2.2.2 := fun {s} h => by
      unfold f_L_ends_21
      exact lp_step (F := fun y : (ZQ × Nat × Int × Int × Int) => f_L_ends_21B y.1 mm y.2.1 x y.2.2.1 y.2.2.2.1 y.2.2.2.2) (s := (z, t, 1, 1, (i : Int))) h
    obtain ⟨g', u', hI, hc, h13⟩ := id hD
    by_cases hb : iand (ishr x (i : Int)) 1 = 1
    · obtain ⟨hin, hi0⟩ := hx i (by omega) hb
      have hw0 : zg z mm 13 i = 0 := by rw [h13 i, if_neg (fun q => by omega)]; exact hi0
      obtain ⟨w', e, v, p1, p2⟩ := dr_drop hI hin hw0
      rcases p2 with rfl | ⟨rfl, hv, g2, u2, hI2, hc2, h132, h13i, -⟩
      · have hfw := fw_drops (z := z) (m := mm) (Or.inr (Or.inr rfl)) p1
        have hB : f_L_ends_21B z mm t x 1 1 (i : Int) = some (Sum.inl (zs z mm w', t + 1, 1, 0, ((i + 1 : Nat) : Int))) := by
          unfold f_L_ends_21B
          rw [gd_t (by omega), if_neg (by rw [hz]; omega), if_neg z10, if_neg z10, if_pos hb, hfw, bnd_s]
          exact neg (zs z mm w') (t + 1) (by omega)
        refine ⟨zs z mm w', ?_⟩
        rw [step hB]
        exact ends_stop (by show t + 1 + 1 ≤ 30; omega)
      · have hfw := fw_drops (z := z) (m := mm) (Or.inl rfl) p1
        have hB : f_L_ends_21B z mm t x 1 1 (i : Int) = some (Sum.inl (zs z mm w', t + 1, 1, 1, ((i + 1 : Nat) : Int))) := by
          unfold f_L_ends_21B
          rw [gd_t (by omega), if_neg (by rw [hz]; omega), if_neg z10, if_neg z10, if_pos hb, hfw, bnd_s]
          exact pos (zs z mm w') (t + 1) (rW 0 v) (by omega) hv
        obtain ⟨z', hz'⟩ := ih (i + 1) (t + 1) (zs z mm w') (by omega) (by omega) (by rw [zs_n]; exact hz) (by
          rw [zg_zs]
          refine ⟨g2, u2, hI2, fun c h1 h2 h3 => (hc2 c h1 h2 h3).trans (hc c h1 h2 h3), fun q => ?_⟩
          by_cases e : q = i
          · subst e
            rw [h13i, if_pos ⟨by omega, hb⟩]
          · rw [h132 q e, h13 q]
            by_cases q1 : q < i ∧ iand (ishr x (q : Int)) 1 = 1
            · rw [if_pos q1, if_pos ⟨by omega, q1.2⟩]
            · rw [if_neg q1, if_neg (fun q2 => q1 ⟨by omega, q2.2⟩)])
        exact ⟨z', (step hB).trans hz'⟩
    · have hB : f_L_ends_21B z mm t x 1 1 (i : Int) = some (Sum.inl (z, t, 1, 1, ((i + 1 : Nat) : Int))) := by
        unfold f_L_ends_21B
        rw [gd_t (by omega), if_neg (by rw [hz]; omega), if_neg z10, if_neg z10, if_neg hb]
        exact pos z t 0 (by omega) (Int.le_refl _)
      obtain ⟨z', hz'⟩ := ih (i + 1) t z (by omega) (by omega) hz (by
        refine ⟨g', u', hI, hc, fun q => ?_⟩
        rw [h13 q]
        by_cases q1 : q < i ∧ iand (ishr x (q : Int)) 1 = 1
        · rw [if_pos q1, if_pos ⟨by omega, q1.2⟩]
        · by_cases e : q = i
          · subst e
            rw [if_neg q1, if_neg (fun q2 => hb q2.2)]
          · rw [if_neg q1, if_neg (fun q2 => q1 ⟨by omega, q2.2⟩)])
      exact ⟨z', (step hB).trans hz'⟩
theorem ends_law {z : ZQ} {m : Bool} {wB : World} (h0 : II (zg z m) wB) (hz : z.2.2 0 = zg z m 7 0) : ∃ z', f_L_ends z m = some (z', 1) := by
  obtain ⟨nF, mm, d, now, top, L, g, hI⟩ := id h0
  obtain ⟨w1, w2, y, x, h1, h2, q1, q2, h3⟩ := bro_rep hI
  have n7 : zg z m 7 0 = (nF : Int) := hI.2.1.1.1
  have hJ := Inv_q q2 (QBr.refl hI.2.2.2.2.2.2.2.2.2.2) hI
  have hm : mm ≤ 12 := hI.2.2.1.1.2.2.1
  have h24 : nF ≤ 24 := hI.2.1.1.2.1
  have c98 : ∀ c, c < 98 → w2 c = zg z m c := fun c hc => q2.1 c (Or.inl hc)
  have hD0 : Dr nF mm d now top L w2 x 0 (zg (zs z m w2) m) := by
    rw [zg_zs]
    exact ⟨g, wB, hJ, fun _ _ _ _ => rfl, fun q => by rw [if_neg (fun z => absurd z.1 (Nat.not_lt_zero q))]⟩
  have start : ∀ (hx : 0 ≤ x), MndG nF mm now L w2 x → (∀ j : Nat, j < 24 → iand (ishr x (j : Int)) 1 = 1 → j < nF ∧ w2 13 j = 0) → ∃ z', f_L_ends z m = some (z', 1) := fun hx hM hb => by
    obtain ⟨z', hz'⟩ := ends_loop (mm := m) (d := d) (top := top) h24 hM hb nF 0 0 (zs z m w2) (by omega) (by omega) (by rw [zs_n, hz, n7]) hD0
    refine ⟨z', ?_⟩
    unfold f_L_ends f_L_ends_16
    rw [h2, bnd_s, bl_s, if_neg (by show ¬ x < 0; omega)]
    exact hz'
  rcases h3 with ⟨rfl, rfl⟩ | ⟨-, rfl⟩ | ⟨-, hR⟩
  · obtain ⟨i1, i2, i3, i4, i5, i6, i7, i8, i9, i10, i11⟩ := id hJ
    obtain ⟨⟨N, ρ, c, Lc, a1, a2, a3, a4, -⟩, n, ρ', c', b1, b2, b3, b4⟩ := (i9 now i6.2.2).A
    have hs := least_both hJ.low.S a4 b4
    obtain ⟨x1, u1, yy, y1, y2, -⟩ := broken_both hJ (kd_ref i8 (by omega)) a1 a2 b1 b2 b3 hs
    have hB : f_Dm_broken w2 = some (x1, yy) := by
      unfold f_Dm_broken
      rw [present_n i8 i6.2.2 i6.1, bnd_s, gd_t (kd_ref i8 (by omega)), y1, bnd_s]
    obtain ⟨oB, -, hall⟩ := an_broken ⟨_, h0⟩
    obtain ⟨s1, e1, -⟩ := hall _ h0
    obtain ⟨s2, e2, -⟩ := hall w2 ⟨nF, mm, d, now, top, L, g, hJ⟩
    have o0 : oB.2 = 0 := congrArg Prod.snd (some_inj (h1.symm.trans e1))
    have o1 : oB.2 = yy := congrArg Prod.snd (some_inj (hB.symm.trans e2))
    have yy0 : yy = 0 := by omega
    subst yy0
    exact start (Int.le_refl _) ⟨g now, w2, x1, N, ρ, c, Lc, kd_ref i8 (by omega), fun _ _ => rfl, i10, a1, a2, a4, y1⟩ (fun j hj hb => absurd (hb.symm.trans (mask0 j hj)) (by decide))
  · refine ⟨zs z m w2, ?_⟩
    unfold f_L_ends f_L_ends_16
    rw [h2, bnd_s, bl_s, if_pos (show (-1 : Int) < 0 by decide)]
    exact ends_stop (by omega)
  · obtain ⟨⟨m1, m2, m3⟩, v1, v2, N, ρ, c, Lc, a1, a2, a3, a4, a5, a6⟩ := hR
    refine start (by omega) ⟨98, v1, v2, N, ρ, c, Lc, by decide +kernel, fun c hc => (a1 c hc).trans (c98 c hc).symm, a2, a3, a4, ?_, a6⟩ (fun j hj hb => by rw [c98 13 (by omega)]; exact m3 j hj hb)
    rw [SA_c5 (w' := w2) (w := zg z m) (fun c _ _ => c98 c (by omega)), FFA_congr c98, RrA_c hm c98]
    exact a5
